/-! pure part: the reference's ACTS with LOG and history (wip/whole/pure/15.f.ract.src) -/
section RACT
variable {fd st : Nat → Nat → Nat} {z : Zt} {w w' w'' : am_S} {p : Nat}
theorem rQ.mk3 {st' : Nat → Nat → Nat} {jm : Nat} (h : rQ fd st jm w) (hS : wS fd st') (hr : rS st' (w'.1 281)) (h1 : w'.1 271 13 = w.1 271 13) (h2 : w'.1 276 = w.1 276) (h3 : w'.1 277 = w.1 277) (h4 : w'.1 278 = w.1 278) (h5 : w'.2.2 283 = w.2.2 283) (h6 : w'.2.1 271 20 = w.2.1 271 20) : rQ fd st' jm w' := ⟨h.1, hS, h.2.2.1.fr h1 h2 h3 h4 h5, hr, by rw [h6]; exact h.2.2.2.2.1, h.2.2.2.2.2⟩
theorem rQ.wS {jm : Nat} (h : rQ fd st jm w) : wS fd st := h.2.1
theorem r_act (h : rZ fd z w) {k : Nat} (hk : k ≤ 8) {a b : Int32} {x : Int64} (ha : aW fd z.1 k a b = none) : Wp (f_X12_act (nI k) a b x w) (fun q => q.1 = nI (aR fd z.1 k (aN a) (aN b) x) ∧ rZ fd (zA fd z k a b x) q.2 ∧ eqR w q.2 ∧ (k ≠ 6 → q.2.2.1 = w.2.1)) := by
  obtain ⟨hz, hQ, hP, hJ⟩ := h
  obtain ⟨w1, t1, t2, t3, t4⟩ := r_keep hQ.2.1.2.2.2.2 (fun d d1 d2 => (hz.2.2 d d1 d2).2.2.2.2) hQ.2.2.2.1 hJ hP hz.1 hz.2.1
  have hQ1 : rQ fd z.1 0 w1 := hQ.mk3 hQ.2.1 (by rw [t4.r (by decide)]; exact hQ.2.2.2.1) (t3 13 (by omega)) (t4.r (by decide)) (t4.r (by decide)) (t4.r (by decide)) (by rw [t4.f]) (by rw [t4.l])
  obtain ⟨⟨v, w2⟩, s1, s2, s3, s4, s5, s6⟩ := r_doNow hQ1 hk x ha
  have s6 : k ≠ 6 → w2.2.1 = w1.2.1 := s6
  have s2 : v = nI (aR fd z.1 k (aN a) (aN b) x) := s2
  subst s2
  have s3 : rQ fd (aS fd z.1 k (aN a) (aN b) x) 0 w2 := s3
  have s4 : ∀ j, 64 ≤ j → w2.1 281 j = w1.1 281 j := s4
  have s5 : eqy [281, 284] [271] w1 w2 := s5
  have hJ2 : rJ z.2.2.1 z.2.2.2.1 (w2.1 281) := hJ.hi (fun j hj _ => by rw [s4 j hj, t4.r (by decide)])
  have hn : ∀ (s0 : Int32), s0 = lu k a b (nI (aR fd z.1 k (aN a) (aN b) x)) → Wp (f_X12_act_51 (nI k) a b x (nI (aR fd z.1 k (aN a) (aN b) x)) s0 (nI k) w2) (fun q => q.1 = nI (aR fd z.1 k (aN a) (aN b) x) ∧ rZ fd (zA fd z k a b x) q.2 ∧ eqR w q.2 ∧ (k ≠ 6 → q.2.2.1 = w.2.1)) := by
    intro s0 hs0
    subst hs0
    obtain ⟨w3, y1, y2, y3, y4, y5⟩ := r_note s3 hJ2 (a := nI k) (b := lu k a b (nI (aR fd z.1 k (aN a) (aN b) x)))
    unfold f_X12_act_51
    rw [y1, pv_b1]
    refine Wp.some ⟨rfl, ⟨hz.act hQ.2.1, y2, ?_, y3⟩, ⟨fun q hq => ?_, fun j hj => ?_, fun q hq => ?_, ?_⟩, fun c => ?_⟩
    · have := (t2.cg (lg' := upl z.2.2.1 z.2.2.2.1 (nI k) (lu k a b (nI (aR fd z.1 k (aN a) (aN b) x))) (nI (kc (aS fd z.1 k (aN a) (aN b) x)))) (by have := hz.2.1; omega) (fun n t hn => upl_ne (by omega)))
      exact this.fr (by rw [y4.r (by decide), s5.1 _ (by decide)]) (by rw [y4.r (by decide), s5.1 _ (by decide)])
    · simp only [List.mem_cons, List.not_mem_nil, or_false] at hq
      rw [y4.2 q (by simp only [List.mem_cons, List.not_mem_nil, or_false]; omega), s5.1 q (by simp only [List.mem_cons, List.not_mem_nil, or_false]; omega), t4.2 q (by simp only [List.mem_cons, List.not_mem_nil, or_false]; omega)]
    · rw [y4.r (by decide), s5.1 _ (by decide)]; exact t3 j hj
    · rw [y4.l, s5.2.1 q (by simpa using hq), t4.l]
    · rw [y4.f, s5.2.2, t4.f]
    · show w3.2.1 = w.2.1
      rw [y4.l, s6 c, t4.l]
  have hk' : k = 0 ∨ k = 1 ∨ k = 2 ∨ k = 3 ∨ k = 4 ∨ k = 5 ∨ k = 6 ∨ k = 7 ∨ k = 8 := by omega
  unfold f_X12_act f_X12_act_36
  rw [t1, pv_b1, s1, pv_b2]
  rcases hk' with rfl | rfl | rfl | rfl | rfl | rfl | rfl | rfl | rfl
  · exact hn _ rfl
  · exact hn _ rfl
  · exact hn _ rfl
  · exact hn _ rfl
  · exact hn _ rfl
  · exact hn _ rfl
  · exact hn _ rfl
  · exact hn _ rfl
  · exact hn _ rfl
theorem r_hand_n (h : rZ fd z w) {k : Nat} (hk : k ≤ 8) {a b : Int32} {x : Int64} (ha : aW fd z.1 k a b = none) : Wp (f_X12_hand (nI k) a b x w) (fun q => q.1 = nI (aR fd z.1 k (aN a) (aN b) x) ∧ rZ fd (zA fd z k a b x) q.2 ∧ eqR w q.2 ∧ (k ≠ 6 → q.2.2.1 = w.2.1)) := by
  have hw := r_whyNot h.2.1 hk a b
  rw [ha, show oI none = -nI 1 from rfl] at hw
  obtain ⟨⟨v, w1⟩, t1, t2⟩ := r_act h hk ha (x := x)
  unfold f_X12_hand
  simp (disch := omega) only [pv_v, pv_b2, pv_b1, pv_x, pv_lit, pv_ofN, pu_chk, pu_cl, nI_add, pk_mul, nI_leI, nI_ltI, nI_eq, pu_nar0, pu_nar1, pu_narb, bI_0, bI_1, ↓reduceIte, pu_leT, pu_leF, pu_ltT, pu_ltF, pu_eqT, pu_eqF, pu_x1, pu_x2, pu_x3, pu_x4, pu_x5, pu_x6, pu_x7, pu_x8, Nat.zero_add, pu_m31I, pu_m31, pu_shlI, eq_self, Bool.false_eq_true, Bool.true_eq_false, hw, t1]
  exact Wp.some t2
theorem r_hand_s (h : rZ fd z w) {k : Nat} (hk : k ≤ 8) {a b : Int32} {x : Int64} {r : Nat} (ha : aW fd z.1 k a b = some r) : f_X12_hand (nI k) a b x w = some (-nI 1, am_pi w 282 r (w.1 282 r + nI 1)) := by
  have hr := aW_lt ha
  have hw := r_whyNot h.2.1 hk a b
  rw [ha, show oI (some r) = nI r from rfl] at hw
  unfold f_X12_hand
  simp (disch := omega) only [pv_v, pv_b2, pv_b1, pv_x, pv_lit, pv_ofN, pu_chk, pu_cl, nI_add, pk_mul, nI_leI, nI_ltI, nI_eq, pu_nar0, pu_nar1, pu_narb, bI_0, bI_1, ↓reduceIte, pu_leT, pu_leF, pu_ltT, pu_ltF, pu_eqT, pu_eqF, pu_x1, pu_x2, pu_x3, pu_x4, pu_x5, pu_x6, pu_x7, pu_x8, Nat.zero_add, pu_m31I, pu_m31, pu_shlI, eq_self, Bool.false_eq_true, Bool.true_eq_false, hw]
theorem r_tryOne (h : rZ fd z w) {k : Nat} (hk : k ≤ 8) (a b : Int32) : Wp (f_X12_tryOne (nI k) a b w) (fun w' => rZ fd (zT fd z k a b (lN 0)) w' ∧ eqR w w' ∧ (k ≠ 6 → w'.2.1 = w.2.1)) := by
  have hw := r_whyNot h.2.1 hk a b
  unfold f_X12_tryOne f_X12_tryOne_20
  cases e : aW fd z.1 k a b with
  | none =>
    rw [e, show oI none = -nI 1 from rfl] at hw
    obtain ⟨⟨v, w1⟩, t1, t2⟩ := r_act h hk e (x := lN 0)
    rw [zT_n e, pu_litL0]
    simp (disch := omega) only [pv_v, pv_b2, pv_b1, pv_x, pv_lit, pv_ofN, pu_chk, pu_cl, nI_add, pk_mul, nI_leI, nI_ltI, nI_eq, pu_nar0, pu_nar1, pu_narb, bI_0, bI_1, ↓reduceIte, pu_leT, pu_leF, pu_ltT, pu_ltF, pu_eqT, pu_eqF, pu_x1, pu_x2, pu_x3, pu_x4, pu_x5, pu_x6, pu_x7, pu_x8, Nat.zero_add, pu_m31I, pu_m31, pu_shlI, eq_self, Bool.false_eq_true, Bool.true_eq_false, hw, t1]
    exact Wp.some t2.2
  | some r =>
    have hr := aW_lt e
    rw [e, show oI (some r) = nI r from rfl] at hw
    rw [zT_s e]
    simp (disch := omega) only [pv_v, pv_b2, pv_b1, pv_x, pv_lit, pv_ofN, pu_chk, pu_cl, nI_add, pk_mul, nI_leI, nI_ltI, nI_eq, pu_nar0, pu_nar1, pu_narb, bI_0, bI_1, ↓reduceIte, pu_leT, pu_leF, pu_ltT, pu_ltF, pu_eqT, pu_eqF, pu_x1, pu_x2, pu_x3, pu_x4, pu_x5, pu_x6, pu_x7, pu_x8, Nat.zero_add, pu_m31I, pu_m31, pu_shlI, eq_self, Bool.false_eq_true, Bool.true_eq_false, hw]
    exact Wp.some ⟨h, eqR.rf, fun _ => rfl⟩
theorem rZ.fr (h : rZ fd z w) (h1 : w'.1 271 13 = w.1 271 13) (h23 : w'.1 271 23 = w.1 271 23) (hi : ∀ q, (q = 276 ∨ q = 277 ∨ q = 278 ∨ q = 281 ∨ q = 285) → w'.1 q = w.1 q) (hl : w'.2.1 271 20 = w.2.1 271 20) (hf : w'.2.2 283 = w.2.2 283) : rZ fd z w' := by
  obtain ⟨hz, hQ, hP, hJ⟩ := h
  exact ⟨hz, hQ.mk3 hQ.2.1 (by rw [hi _ (by omega)]; exact hQ.2.2.2.1) h1 (hi _ (by omega)) (hi _ (by omega)) (hi _ (by omega)) hf hl, hP.fr h23 (hi _ (by omega)), by rw [hi _ (by omega)]; exact hJ⟩
/-- the class's calls leave the reference's facts, and the other way round -/
theorem eqC.r (hx : eqC w w') (h : rZ fd z w) : rZ fd z w' := h.fr (by rw [hx.1 _ (by omega)]) (by rw [hx.1 _ (by omega)]) (fun q hq => hx.1 q (by omega)) (by rw [hx.2.1 _ (by omega)]) (by rw [hx.2.2])
theorem eqR.c (hx : eqR w w') (h : cZ fd z w) : cZ fd z w' := h.fr (fun q hq => hx.1 q (by simp only [List.mem_cons, List.not_mem_nil, or_false]; omega)) (fun q hq => hx.2.2.1 q (by omega)) (by rw [hx.2.2.2]) (by rw [hx.2.2.2])
end RACT
