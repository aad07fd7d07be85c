/-! pure part: the reference's log (wip/whole/pure/15.b.rlog.src) -/
section RLOG
variable {fd st : Nat → Nat → Nat} {lg : Nat → Nat → Int32} {L jm : Nat} {w : am_S}
theorem rQ.hi {w' : am_S} (h : rQ fd st jm w) (hx : eqx [281] w w') (hk : ∀ k, k < 64 → w'.1 281 k = w.1 281 k) : rQ fd st jm w' := by
  have hf := h.2.1.2.2.2.2
  refine h.mk2 h.2.1 ?_ (hx.up (by simp))
  obtain ⟨g1, g2, g3, g4, g5, g6⟩ := h.2.2.2.1
  refine ⟨fun u hu => ?_, fun u hu => ?_, fun u hu => ?_, ?_, fun j hj => ?_, fun j i hj hi => ?_⟩
  · rw [hk _ (by omega)]; exact g1 u hu
  · rw [hk _ (by omega)]; exact g2 u hu
  · rw [hk _ (by omega)]; exact g3 u hu
  · rw [hk _ (by omega)]; exact g4
  · rw [hk _ (by omega)]; exact g5 j hj
  · have := hf j
    rw [hk _ (by omega)]; exact g6 j i hj hi
theorem r_note58 (h : rQ fd st jm w) {m : Nat} (hm : m < 60) (h64 : w.1 281 64 = nI m) {a b : Int32} : ∃ w', f_X12_note_58 a b w = some w' ∧ eqx [281] w w' ∧ w'.1 281 64 = nI (m + 1) ∧ w'.1 281 (65 + 3 * m) = a ∧ w'.1 281 (65 + 3 * m + 1) = b ∧ w'.1 281 (65 + 3 * m + 2) = nI (kc st) ∧ ∀ k, k < 64 ∨ (65 ≤ k ∧ (k < 65 + 3 * m)) → w'.1 281 k = w.1 281 k := by
  have hx2 : eqx [281] w (am_pi (am_pi w 281 (65 + 3 * m) a) 281 (65 + 3 * m + 1) b) := (eqx.pi (by simp)).on (eqx.pi (by simp))
  have hq := r_knownMany (h.hi hx2 (fun k hk => by rw [pi_k (by omega), pi_k (by omega)]))
  have e : (am_pi (am_pi (am_pi w 281 (65 + 3 * m) a) 281 (65 + 3 * m + 1) b) 281 (65 + 3 * m + 2) (nI (kc st))).1 281 64 = nI m := by
    rw [pi_k (by omega), pi_k (by omega), pi_k (by omega)]; exact h64
  refine ⟨am_pi (am_pi (am_pi (am_pi w 281 (65 + 3 * m) a) 281 (65 + 3 * m + 1) b) 281 (65 + 3 * m + 2) (nI (kc st))) 281 64 (nI (m + 1)), ?_, (hx2.on (eqx.pi (by simp))).on (eqx.pi (by simp)), pi_same, ?_, ?_, ?_, fun k hk => ?_⟩
  · unfold f_X12_note_58
    simp (disch := omega) only [pv_v, pv_b2, pv_b1, pv_x, pv_lit, pv_ofN, pu_chk, pu_cl, nI_add, pk_mul, nI_leI, nI_ltI, nI_eq, pu_nar0, pu_nar1, pu_narb, bI_0, bI_1, ↓reduceIte, pu_leT, pu_leF, pu_ltT, pu_ltF, pu_eqT, pu_eqF, pu_x1, pu_x2, pu_x3, pu_x4, pu_x5, pu_x6, pu_x7, pu_x8, Nat.zero_add, pu_m31I, pu_m31, pu_shlI, eq_self, Bool.false_eq_true, Bool.true_eq_false, h64, hq, e]
  · rw [pi_k (by omega), pi_k (by omega), pi_k (by omega), pi_same]
  · rw [pi_k (by omega), pi_k (by omega), pi_same]
  · rw [pi_k (by omega), pi_same]
  · rw [pi_k (by omega), pi_k (by omega), pi_k (by omega), pi_k (by omega)]
theorem r_note (h : rQ fd st jm w) (hJ : rJ lg L (w.1 281)) {a b : Int32} : Wp (f_X12_note a b w) (fun w' => rQ fd st jm w' ∧ rJ (upl lg L a b (nI (kc st))) (L + 1) (w'.1 281) ∧ eqx [281] w w' ∧ ∀ k, k < 64 → w'.1 281 k = w.1 281 k) := by
  obtain ⟨j1, j2⟩ := hJ
  unfold f_X12_note
  by_cases c : L < 60
  · rw [Nat.min_eq_left (by omega)] at j1
    obtain ⟨w', t1, t2, t3, t4, t5, t6, t7⟩ := r_note58 h (m := L) (by omega) j1 (a := a) (b := b)
    simp (disch := omega) only [pv_v, pv_b2, pv_b1, pv_x, pv_lit, pv_ofN, pu_chk, pu_cl, nI_add, pk_mul, nI_leI, nI_ltI, nI_eq, pu_nar0, pu_nar1, pu_narb, bI_0, bI_1, ↓reduceIte, pu_leT, pu_leF, pu_ltT, pu_ltF, pu_eqT, pu_eqF, pu_x1, pu_x2, pu_x3, pu_x4, pu_x5, pu_x6, pu_x7, pu_x8, Nat.zero_add, pu_m31I, pu_m31, pu_shlI, eq_self, Bool.false_eq_true, Bool.true_eq_false, j1, show ¬ L = 60 by omega, t1]
    refine Wp.some ⟨h.hi t2 (fun k hk => t7 k (.inl hk)), ⟨?_, fun n t ht hn hn2 => ?_⟩, t2, fun k hk => t7 k (.inl hk)⟩
    · rw [Nat.min_eq_left (by omega)]; exact t3
    · rw [Nat.min_eq_left (by omega), Nat.sub_self, Nat.sub_zero]
      by_cases e : n = L
      · subst e
        rw [upl_L]
        have ht' : t = 0 ∨ t = 1 ∨ t = 2 := by omega
        rcases ht' with rfl | rfl | rfl
        · exact t4
        · exact t5
        · exact t6
      · rw [upl_ne e, t7 _ (.inr ⟨by omega, by omega⟩)]
        have := j2 n t ht (by omega) (by omega)
        rwa [Nat.min_eq_left (by omega), Nat.sub_self, Nat.sub_zero] at this
  · rw [Nat.min_eq_right (by omega)] at j1 j2
    simp (disch := omega) only [pv_v, pv_b2, pv_b1, pv_x, pv_lit, pv_ofN, pu_chk, pu_cl, nI_add, pk_mul, nI_leI, nI_ltI, nI_eq, pu_nar0, pu_nar1, pu_narb, bI_0, bI_1, ↓reduceIte, pu_leT, pu_leF, pu_ltT, pu_ltF, pu_eqT, pu_eqF, pu_x1, pu_x2, pu_x3, pu_x4, pu_x5, pu_x6, pu_x7, pu_x8, Nat.zero_add, pu_m31I, pu_m31, pu_shlI, eq_self, Bool.false_eq_true, Bool.true_eq_false, j1]
    unfold f_X12_note_14
    refine Wp.for (fun i w => (nI (3 + i), w)) (fun i w' => eqx [281] w w' ∧ ∀ k, w'.1 281 k = if 65 ≤ k ∧ k < 65 + i then w.1 281 (k + 3) else w.1 281 k) 177 (by decide) (w := w) rfl ⟨eqx.rf, fun k => by rw [if_neg (by omega)]⟩ (fun i w' hi hI => ?_) (fun w' hI => ?_)
    · obtain ⟨i1, i2⟩ := hI
      have e1 : 65 + (3 + i) - 3 = 65 + i := by omega
      unfold f_X12_note_14b
      simp (disch := omega) only [pv_v, pv_b2, pv_b1, pv_x, pv_lit, pv_ofN, pu_chk, pu_cl, nI_add, pk_mul, nI_leI, nI_ltI, nI_eq, pu_nar0, pu_nar1, pu_narb, bI_0, bI_1, ↓reduceIte, pu_leT, pu_leF, pu_ltT, pu_ltF, pu_eqT, pu_eqF, pu_x1, pu_x2, pu_x3, pu_x4, pu_x5, pu_x6, pu_x7, pu_x8, Nat.zero_add, pu_m31I, pu_m31, pu_shlI, eq_self, Bool.false_eq_true, Bool.true_eq_false, pk_sub, e1]
      refine Wp.some ⟨_, by rw [Nat.add_assoc], i1.on (eqx.pi (by simp)), fun k => ?_⟩
      rw [pi_ite, i2, i2]
      by_cases e : k = 65 + i
      · subst e
        rw [if_pos rfl, if_neg (by omega), if_pos (by omega), show 65 + (3 + i) = 65 + i + 3 by omega]
      · rw [if_neg e]
        by_cases q : 65 ≤ k ∧ k < 65 + i
        · rw [if_pos q, if_pos (by omega)]
        · rw [if_neg q, if_neg (by omega)]
    · obtain ⟨i1, i2⟩ := hI
      have e64 : w'.1 281 64 = nI 60 := by rw [i2, if_neg (by omega)]; exact j1
      have hx1 : eqx [281] w (am_pi w' 281 64 (nI 59)) := i1.on (eqx.pi (by simp))
      have hlow : ∀ k, k < 64 → (am_pi w' 281 64 (nI 59)).1 281 k = w.1 281 k := fun k hk => by rw [pi_k (by omega), i2, if_neg (by omega)]
      obtain ⟨w2, t1, t2, t3, t4, t5, t6, t7⟩ := r_note58 (h.hi hx1 hlow) (m := 59) (by omega) pi_same (a := a) (b := b)
      unfold f_X12_note_14b
      simp (disch := omega) only [pv_v, pv_b2, pv_b1, pv_x, pv_lit, pv_ofN, pu_chk, pu_cl, nI_add, pk_mul, nI_leI, nI_ltI, nI_eq, pu_nar0, pu_nar1, pu_narb, bI_0, bI_1, ↓reduceIte, pu_leT, pu_leF, pu_ltT, pu_ltF, pu_eqT, pu_eqF, pu_x1, pu_x2, pu_x3, pu_x4, pu_x5, pu_x6, pu_x7, pu_x8, Nat.zero_add, pu_m31I, pu_m31, pu_shlI, eq_self, Bool.false_eq_true, Bool.true_eq_false, e64, pk_sub, t1]
      refine Wp.some ⟨(h.hi hx1 hlow).hi t2 (fun k hk => t7 k (.inl hk)), ⟨?_, fun n t ht hn hn2 => ?_⟩, hx1.on t2, fun k hk => (t7 k (.inl hk)).trans (hlow k hk)⟩
      · rw [Nat.min_eq_right (by omega)]; exact t3
      · rw [Nat.min_eq_right (by omega)]
        by_cases e : n = L
        · subst e
          rw [upl_L, show n - (n + 1 - 60) = 59 by omega]
          have ht' : t = 0 ∨ t = 1 ∨ t = 2 := by omega
          rcases ht' with rfl | rfl | rfl
          · exact t4
          · exact t5
          · exact t6
        · rw [upl_ne e, t7 _ (.inr ⟨by omega, by omega⟩), pi_k (by omega), i2, if_pos (by omega)]
          have := j2 n t ht (by omega) (by omega)
          rw [show 65 + 3 * (n - (L + 1 - 60)) + t + 3 = 65 + 3 * (n - (L - 60)) + t by omega]
          exact this
end RLOG
