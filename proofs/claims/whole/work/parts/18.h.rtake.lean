/-! pure part: TAKE FIELD, the reference, its loops (wip/whole/pure/18.h.rtake.src) -/
section RTAKE2
variable {fd st : Nat → Nat → Nat} {p : Pt} {w w' w'' : am_S} {T : Nat} {tp : Nat → Nat}
/-- what TAKE FIELD gives, in the reference -/
def rTk (p : Pt) (w : am_S) (q : Int32 × am_S) : Prop := q.1 = nI p.2.2.1 ∧ rF (pF p) q.2 ∧ rS (pS p) (q.2.1 281) ∧ q.2.1 281 64 = nI 0 ∧ q.2.1 271 23 = nI 0 ∧ q.2.1 271 29 = nI 0 ∧ rtf w q.2
theorem rTk.up {q : Int32 × am_S} (h : rTk p w' q) (e : rtf w w') : rTk p w q := ⟨h.1, h.2.1, h.2.2.1, h.2.2.2.1, h.2.2.2.2.1, h.2.2.2.2.2.1, e.on h.2.2.2.2.2.2⟩
theorem r_take159 (hp : pW p) (hw : whP p) (g0 : w.1 271 13 = nI p.2.2.1) (g1 : ∀ k, k < 4 → w.1 276 k = nI (p.2.1 k)) (g2 : ∀ v, v < p.2.2.1 → ∀ k, k < 5 → w.1 277 (5 * v + k) = nI (p.2.2.2.1 v k)) (g3 : ∀ k, k < 7 → w.1 278 k = nI (pQ p k)) (hr : rS (stU p 0) (w.1 281)) (h64 : w.1 281 64 = nI 0) : Wp (f_X12_takeField_159 (nI 0) w) (rTk p w) := by
  have hu10 := hp.1
  have hF := pF_w hp hw
  unfold f_X12_takeField_159
  refine Wp.for (fun u w => (nI u, w)) (fun u w' => rtf w w' ∧ (∀ q, q ≠ 281 → w'.1 q = w.1 q) ∧ (∀ k, 30 ≤ k → w'.1 281 k = w.1 281 k) ∧ rS (stU p u) (w'.1 281) ∧ ∀ v, v < u → w'.2.2 283 v = pu_f (pF p) v) p.2.2.1 (by omega) rfl ⟨rtf.rf, fun _ _ => rfl, fun _ _ => rfl, hr, fun v hv => absurd hv (Nat.not_lt_zero _)⟩ (fun u w' hu hI => ?_) (fun w' hI => ?_)
  · obtain ⟨i1, i2, i3, i4, i5⟩ := hI
    have e0 : w'.1 277 (5 * u + 0) = nI (p.2.2.2.1 u 0) := by rw [i2 _ (by decide)]; exact g2 u hu 0 (by omega)
    have e1 : w'.1 277 (5 * u + 1) = nI (p.2.2.2.1 u 1) := by rw [i2 _ (by decide)]; exact g2 u hu 1 (by omega)
    have e13 : w'.1 271 13 = nI p.2.2.1 := by rw [i2 _ (by decide)]; exact g0
    obtain ⟨f1, f2, f3, f4⟩ := pu_f_ok hF (u := u) hu
    obtain ⟨r, t1, w2, t2, t3, t4, t5⟩ := r_take227 (w := am_pf (am_pf w' 283 u (FP.fdiv (FP.fdiv (FP.i2f (nI (p.2.2.2.1 u 0))) (1092616192 : UInt32)) (FP.i2f (nI (p.2.2.2.1 u 1))))) 283 u (pu_f (pF p) u)) hp hw hu (fun k hk => by show w'.1 276 k = _; rw [i2 _ (by decide)]; exact g1 k hk) (fun v hv k hk => by show w'.1 277 _ = _; rw [i2 _ (by decide)]; exact g2 v hv k hk) i4
    have t4 : ∀ k, 30 ≤ k → w2.1 281 k = w'.1 281 k := t4
    subst t2
    refine Wp.ofr (a := (nI (u + 1), w2)) ?_ ⟨w2, rfl, (i1.on (rtf.f.on rtf.f)).on (rtf.x (t5.up (by simp))), fun q hq => (t5.2 q (by simp [hq])).trans (i2 q hq), fun k hk => (t4 k hk).trans (i3 k hk), t3, fun v hv => ?_⟩
    · unfold f_X12_takeField_159b
      simp (disch := omega) only [pv_v, pv_b2, pv_b1, pv_x, pv_lit, pv_ofN, pu_chk, pu_cl, nI_add, pk_mul, nI_leI, nI_ltI, nI_eq, pu_nar0, pu_nar1, pu_narb, bI_0, bI_1, ↓reduceIte, pu_leT, pu_leF, pu_ltT, pu_ltF, pu_eqT, pu_eqF, pu_x1, pu_x2, pu_x3, pu_x4, pu_x5, pu_x6, pu_x7, pu_x8, Nat.zero_add, pu_m31I, pu_m31, pu_shlI, eq_self, Bool.false_eq_true, Bool.true_eq_false, e0, e1, e13, pf_i, pf_same]
      rw [fn_ok (by rw [fI_v]; exact f1), fn_ok (by rw [fI_v]; exact f2), fn_ok (by rw [fI_v]; show (pu_f (pF p) u).toNat < _; omega)]
      exact t1
    · rw [t5.f]
      by_cases c : v = u
      · rw [c, pf_same]
      · rw [pf_k c, pf_k c]; exact i5 v (by omega)
  · obtain ⟨i1, i2, i3, i4, i5⟩ := hI
    have e13 : w'.1 271 13 = nI p.2.2.1 := by rw [i2 _ (by decide)]; exact g0
    have z13 : (am_pi (am_pi w' 271 23 (nI 0)) 271 29 (nI 0)).1 271 13 = nI p.2.2.1 := by rw [pi_k (by decide), pi_k (by decide)]; exact e13
    have z : ∀ q, q ≠ 281 → q ≠ 271 → (am_pi (am_pi w' 271 23 (nI 0)) 271 29 (nI 0)).1 q = w.1 q := fun q q1 q2 => by rw [pi_p q2, pi_p q2]; exact i2 q q1
    have z281 : (am_pi (am_pi w' 271 23 (nI 0)) 271 29 (nI 0)).1 281 = w'.1 281 := by rw [pi_p (by decide), pi_p (by decide)]
    rw [stU_e] at i4
    refine Wp.ofl (a := (nI p.2.2.1, am_pi (am_pi w' 271 23 (nI 0)) 271 29 (nI 0))) ?_ ⟨rfl, ⟨z13, ?_, ?_, ?_, fun u hu => ⟨?_, ?_, ?_⟩, fun k k1 k6 => ?_, i5⟩, ?_, ?_, ?_, pi_same, (i1.on (rtf.k (.inr (.inl rfl)))).on (rtf.k (.inr (.inr rfl)))⟩
    · unfold f_X12_takeField_159b
      simp (disch := omega) only [pv_v, pv_b2, pv_b1, pv_x, pv_lit, pv_ofN, pu_chk, pu_cl, nI_add, pk_mul, nI_leI, nI_ltI, nI_eq, pu_nar0, pu_nar1, pu_narb, bI_0, bI_1, ↓reduceIte, pu_leT, pu_leF, pu_ltT, pu_ltF, pu_eqT, pu_eqF, pu_x1, pu_x2, pu_x3, pu_x4, pu_x5, pu_x6, pu_x7, pu_x8, Nat.zero_add, pu_m31I, pu_m31, pu_shlI, eq_self, Bool.false_eq_true, Bool.true_eq_false, e13, z13]
    · rw [z _ (by decide) (by decide)]; exact g1 0 (by omega)
    · rw [z _ (by decide) (by decide)]; exact g1 1 (by omega)
    · rw [z _ (by decide) (by decide)]; exact g1 3 (by omega)
    · rw [z _ (by decide) (by decide)]; exact g2 u hu 0 (by omega)
    · rw [z _ (by decide) (by decide)]; exact g2 u hu 1 (by omega)
    · rw [z _ (by decide) (by decide)]; exact g2 u hu 2 (by omega)
    · rw [z _ (by decide) (by decide)]; exact g3 k (by omega)
    · show rS (pS p) ((am_pi (am_pi w' 271 23 (nI 0)) 271 29 (nI 0)).1 281)
      rw [z281]; exact i4
    · show (am_pi (am_pi w' 271 23 (nI 0)) 271 29 (nI 0)).1 281 64 = nI 0
      rw [z281, i3 64 (by omega)]; exact h64
    · show (am_pi (am_pi w' 271 23 (nI 0)) 271 29 (nI 0)).1 271 23 = nI 0
      rw [pi_k (by decide), pi_same]
theorem r_take124 (hp : pW p) (hw : whP p) (g0 : w.1 271 13 = nI p.2.2.1) (g1 : ∀ k, k < 4 → w.1 276 k = nI (p.2.1 k)) (g2 : ∀ v, v < p.2.2.1 → ∀ k, k < 5 → w.1 277 (5 * v + k) = nI (p.2.2.2.1 v k)) (g3 : ∀ k, k < 7 → w.1 278 k = nI (pQ p k)) : Wp (f_X12_takeField_124 (nI 0) w) (rTk p w) := by
  unfold f_X12_takeField_124
  refine Wp.for (fun u w => (nI u, w)) (fun u w' => eqx [281] w w' ∧ ∀ v, v < u → w'.1 281 v = nI 0) 245 (by omega) rfl ⟨eqx.rf, fun v hv => absurd hv (Nat.not_lt_zero _)⟩ (fun u w' hu hI => ?_) (fun w' hI => ?_)
  · obtain ⟨i1, i2⟩ := hI
    refine Wp.ofr (a := (nI (u + 1), am_pi w' 281 u (nI 0))) (by unfold f_X12_takeField_124b; simp (disch := omega) only [pv_v, pv_b2, pv_b1, pv_x, pv_lit, pv_ofN, pu_chk, pu_cl, nI_add, pk_mul, nI_leI, nI_ltI, nI_eq, pu_nar0, pu_nar1, pu_narb, bI_0, bI_1, ↓reduceIte, pu_leT, pu_leF, pu_ltT, pu_ltF, pu_eqT, pu_eqF, pu_x1, pu_x2, pu_x3, pu_x4, pu_x5, pu_x6, pu_x7, pu_x8, Nat.zero_add, pu_m31I, pu_m31, pu_shlI, eq_self, Bool.false_eq_true, Bool.true_eq_false]) ⟨_, rfl, i1.on (eqx.pi (by simp)), fun v hv => ?_⟩
    rw [pi_ite]
    split
    · rfl
    · exact i2 v (by omega)
  · obtain ⟨i1, i2⟩ := hI
    have e2 : w'.1 276 2 = nI (p.2.1 2) := i1.t (g1 2 (by omega)) (by decide)
    have x2 : eqx [281] w (am_pi w' 281 30 (nI (p.2.1 2))) := i1.on (eqx.pi (by simp))
    have z : ∀ v, v < 245 → v ≠ 30 → (am_pi w' 281 30 (nI (p.2.1 2))).1 281 v = nI 0 := fun v v1 v2 => by rw [pi_k v2]; exact i2 v v1
    obtain ⟨q, t1, t2⟩ := r_take159 (w := am_pi w' 281 30 (nI (p.2.1 2))) hp hw (x2.t g0 (by decide)) (fun k hk => x2.t (g1 k hk) (by decide)) (fun v hv k hk => x2.t (g2 v hv k hk) (by decide)) (fun k hk => x2.t (g3 k hk) (by decide)) ⟨fun u hu => z _ (by omega) (by omega), fun u hu => by rw [z _ (by omega) (by omega)]; unfold stU; rw [if_pos rfl, if_neg (Nat.not_lt_zero _)], fun u hu => by rw [z _ (by omega) (by omega)]; unfold stU; rw [if_pos rfl, if_neg (Nat.not_lt_zero _)], pi_same, fun j hj => z _ (by omega) (by omega), fun j i hj hi => absurd hi (Nat.not_lt_zero _)⟩ (z _ (by omega) (by omega))
    refine Wp.ofl (a := q) ?_ (t2.up (rtf.x (x2.up (by simp))))
    unfold f_X12_takeField_124b
    simp (disch := omega) only [pv_v, pv_b2, pv_b1, pv_x, pv_lit, pv_ofN, pu_chk, pu_cl, nI_add, pk_mul, nI_leI, nI_ltI, nI_eq, pu_nar0, pu_nar1, pu_narb, bI_0, bI_1, ↓reduceIte, pu_leT, pu_leF, pu_ltT, pu_ltF, pu_eqT, pu_eqF, pu_x1, pu_x2, pu_x3, pu_x4, pu_x5, pu_x6, pu_x7, pu_x8, Nat.zero_add, pu_m31I, pu_m31, pu_shlI, eq_self, Bool.false_eq_true, Bool.true_eq_false, e2]
    rw [t1]; rfl
def pQd (p : Pt) (i k : Nat) : Nat := pu_sum (fun d => if p.2.2.2.2.2 d 0 = k then p.2.2.2.2.2 d 1 else 0) i
theorem r_take82 (hp : pW p) (hw : whP p) (g0 : w.1 271 13 = nI p.2.2.1) (g1 : ∀ k, k < 4 → w.1 276 k = nI (p.2.1 k)) (g2 : ∀ v, v < p.2.2.1 → ∀ k, k < 5 → w.1 277 (5 * v + k) = nI (p.2.2.2.1 v k)) (g3 : ∀ k, k < 7 → w.1 278 k = nI 0) (g4 : w.1 271 9 = nI p.2.2.2.2.1) (g5 : ∀ d, d < p.2.2.2.2.1 → ∀ k, k < 2 → w.1 275 (2 * d + k) = nI (p.2.2.2.2.2 d k)) : Wp (f_X12_takeField_82 (nI 0) w) (rTk p w) := by
  have hd6 := hp.2.1
  unfold f_X12_takeField_82
  refine Wp.for (fun u w => (nI u, w)) (fun u w' => eqx [278] w w' ∧ ∀ k, k < 7 → w'.1 278 k = nI (pQd p u k)) p.2.2.2.2.1 (by omega) rfl ⟨eqx.rf, g3⟩ (fun u w' hu hI => ?_) (fun w' hI => ?_)
  · obtain ⟨i1, i2⟩ := hI
    have e0 : w'.1 275 (2 * u) = nI (p.2.2.2.2.2 u 0) := i1.t (g5 u hu 0 (by omega)) (by decide)
    have e1 : w'.1 275 (2 * u + 1) = nI (p.2.2.2.2.2 u 1) := i1.t (g5 u hu 1 (by omega)) (by decide)
    have e9 : w'.1 271 9 = nI p.2.2.2.2.1 := i1.t g4 (by decide)
    have hk : 1 ≤ p.2.2.2.2.2 u 0 ∧ p.2.2.2.2.2 u 0 ≤ 6 := hp.2.2.2.2 u hu 0 (by omega)
    have hq := i2 (p.2.2.2.2.2 u 0) (by omega)
    refine Wp.ofr (a := (nI (u + 1), am_pi w' 278 (p.2.2.2.2.2 u 0) (nI (pQd p u (p.2.2.2.2.2 u 0) + p.2.2.2.2.2 u 1)))) (by unfold f_X12_takeField_82b; simp (disch := omega) only [pv_v, pv_b2, pv_b1, pv_x, pv_lit, pv_ofN, pu_chk, pu_cl, nI_add, pk_mul, nI_leI, nI_ltI, nI_eq, pu_nar0, pu_nar1, pu_narb, bI_0, bI_1, ↓reduceIte, pu_leT, pu_leF, pu_ltT, pu_ltF, pu_eqT, pu_eqF, pu_x1, pu_x2, pu_x3, pu_x4, pu_x5, pu_x6, pu_x7, pu_x8, Nat.zero_add, pu_m31I, pu_m31, pu_shlI, eq_self, Bool.false_eq_true, Bool.true_eq_false, e0, e1, e9, hq]) ⟨_, rfl, i1.on (eqx.pi (by simp)), fun k hk => ?_⟩
    rw [pi_ite]
    unfold pQd
    rw [pu_sum]
    by_cases c : k = p.2.2.2.2.2 u 0
    · rw [if_pos c, if_pos c.symm, c]
    · rw [if_neg c, if_neg (fun e => c e.symm), Nat.add_zero]; exact i2 k hk
  · obtain ⟨i1, i2⟩ := hI
    have e9 : w'.1 271 9 = nI p.2.2.2.2.1 := i1.t g4 (by decide)
    obtain ⟨q, t1, t2⟩ := r_take124 (w := w') hp hw (i1.t g0 (by decide)) (fun k hk => i1.t (g1 k hk) (by decide)) (fun v hv k hk => i1.t (g2 v hv k hk) (by decide)) i2
    refine Wp.ofl (a := q) ?_ (t2.up (rtf.x (i1.up (by simp))))
    unfold f_X12_takeField_82b
    simp (disch := omega) only [pv_v, pv_b2, pv_b1, pv_x, pv_lit, pv_ofN, pu_chk, pu_cl, nI_add, pk_mul, nI_leI, nI_ltI, nI_eq, pu_nar0, pu_nar1, pu_narb, bI_0, bI_1, ↓reduceIte, pu_leT, pu_leF, pu_ltT, pu_ltF, pu_eqT, pu_eqF, pu_x1, pu_x2, pu_x3, pu_x4, pu_x5, pu_x6, pu_x7, pu_x8, Nat.zero_add, pu_m31I, pu_m31, pu_shlI, eq_self, Bool.false_eq_true, Bool.true_eq_false, e9]
    rw [t1]; rfl
theorem r_take61 (hp : pW p) (hw : whP p) (g0 : w.1 271 13 = nI p.2.2.1) (g1 : ∀ k, k < 4 → w.1 276 k = nI (p.2.1 k)) (g2 : ∀ v, v < p.2.2.1 → ∀ k, k < 5 → w.1 277 (5 * v + k) = nI (p.2.2.2.1 v k)) (g4 : w.1 271 9 = nI p.2.2.2.2.1) (g5 : ∀ d, d < p.2.2.2.2.1 → ∀ k, k < 2 → w.1 275 (2 * d + k) = nI (p.2.2.2.2.2 d k)) : Wp (f_X12_takeField_61 (nI 0) w) (rTk p w) := by
  unfold f_X12_takeField_61
  refine Wp.for (fun u w => (nI u, w)) (fun u w' => eqx [278] w w' ∧ ∀ k, k < u → w'.1 278 k = nI 0) 7 (by omega) rfl ⟨eqx.rf, fun v hv => absurd hv (Nat.not_lt_zero _)⟩ (fun u w' hu hI => ?_) (fun w' hI => ?_)
  · obtain ⟨i1, i2⟩ := hI
    refine Wp.ofr (a := (nI (u + 1), am_pi w' 278 u (nI 0))) (by unfold f_X12_takeField_61b; simp (disch := omega) only [pv_v, pv_b2, pv_b1, pv_x, pv_lit, pv_ofN, pu_chk, pu_cl, nI_add, pk_mul, nI_leI, nI_ltI, nI_eq, pu_nar0, pu_nar1, pu_narb, bI_0, bI_1, ↓reduceIte, pu_leT, pu_leF, pu_ltT, pu_ltF, pu_eqT, pu_eqF, pu_x1, pu_x2, pu_x3, pu_x4, pu_x5, pu_x6, pu_x7, pu_x8, Nat.zero_add, pu_m31I, pu_m31, pu_shlI, eq_self, Bool.false_eq_true, Bool.true_eq_false]) ⟨_, rfl, i1.on (eqx.pi (by simp)), fun v hv => ?_⟩
    rw [pi_ite]
    split
    · rfl
    · exact i2 v (by omega)
  · obtain ⟨i1, i2⟩ := hI
    obtain ⟨q, t1, t2⟩ := r_take82 (w := w') hp hw (i1.t g0 (by decide)) (fun k hk => i1.t (g1 k hk) (by decide)) (fun v hv k hk => i1.t (g2 v hv k hk) (by decide)) i2 (i1.t g4 (by decide)) (fun d hd k hk => i1.t (g5 d hd k hk) (by decide))
    refine Wp.ofl (a := q) ?_ (t2.up (rtf.x (i1.up (by simp))))
    unfold f_X12_takeField_61b
    simp (disch := omega) only [pv_v, pv_b2, pv_b1, pv_x, pv_lit, pv_ofN, pu_chk, pu_cl, nI_add, pk_mul, nI_leI, nI_ltI, nI_eq, pu_nar0, pu_nar1, pu_narb, bI_0, bI_1, ↓reduceIte, pu_leT, pu_leF, pu_ltT, pu_ltF, pu_eqT, pu_eqF, pu_x1, pu_x2, pu_x3, pu_x4, pu_x5, pu_x6, pu_x7, pu_x8, Nat.zero_add, pu_m31I, pu_m31, pu_shlI, eq_self, Bool.false_eq_true, Bool.true_eq_false]
    rw [t1]; rfl
theorem r_take35 (hp : pW p) (hw : whP p) (g0 : w.1 271 13 = nI p.2.2.1) (g1 : ∀ k, k < 4 → w.1 276 k = nI (p.2.1 k)) (g2 : ∀ v, v < p.2.2.1 → ∀ k, k < 5 → w.1 274 (5 * v + k) = nI (p.2.2.2.1 v k)) (g4 : w.1 271 9 = nI p.2.2.2.2.1) (g5 : ∀ d, d < p.2.2.2.2.1 → ∀ k, k < 2 → w.1 275 (2 * d + k) = nI (p.2.2.2.2.2 d k)) : Wp (f_X12_takeField_35 (nI 0) w) (rTk p w) := by
  have hu10 := hp.1
  unfold f_X12_takeField_35
  refine Wp.for (fun u w => (nI u, w)) (fun u w' => eqx [277] w w' ∧ ∀ k, k < u → w'.1 277 k = w.1 274 k) 50 (by omega) rfl ⟨eqx.rf, fun v hv => absurd hv (Nat.not_lt_zero _)⟩ (fun u w' hu hI => ?_) (fun w' hI => ?_)
  · obtain ⟨i1, i2⟩ := hI
    have e : w'.1 274 u = w.1 274 u := i1.t rfl (by decide)
    refine Wp.ofr (a := (nI (u + 1), am_pi w' 277 u (w.1 274 u))) (by unfold f_X12_takeField_35b; simp (disch := omega) only [pv_v, pv_b2, pv_b1, pv_x, pv_lit, pv_ofN, pu_chk, pu_cl, nI_add, pk_mul, nI_leI, nI_ltI, nI_eq, pu_nar0, pu_nar1, pu_narb, bI_0, bI_1, ↓reduceIte, pu_leT, pu_leF, pu_ltT, pu_ltF, pu_eqT, pu_eqF, pu_x1, pu_x2, pu_x3, pu_x4, pu_x5, pu_x6, pu_x7, pu_x8, Nat.zero_add, pu_m31I, pu_m31, pu_shlI, eq_self, Bool.false_eq_true, Bool.true_eq_false, e]) ⟨_, rfl, i1.on (eqx.pi (by simp)), fun v hv => ?_⟩
    rw [pi_ite]
    split
    · next c => rw [c]
    · exact i2 v (by omega)
  · obtain ⟨i1, i2⟩ := hI
    obtain ⟨q, t1, t2⟩ := r_take61 (w := w') hp hw (i1.t g0 (by decide)) (fun k hk => i1.t (g1 k hk) (by decide)) (fun v hv k hk => by rw [i2 _ (by omega)]; exact g2 v hv k hk) (i1.t g4 (by decide)) (fun d hd k hk => i1.t (g5 d hd k hk) (by decide))
    refine Wp.ofl (a := q) ?_ (t2.up (rtf.x (i1.up (by simp))))
    unfold f_X12_takeField_35b
    simp (disch := omega) only [pv_v, pv_b2, pv_b1, pv_x, pv_lit, pv_ofN, pu_chk, pu_cl, nI_add, pk_mul, nI_leI, nI_ltI, nI_eq, pu_nar0, pu_nar1, pu_narb, bI_0, bI_1, ↓reduceIte, pu_leT, pu_leF, pu_ltT, pu_ltF, pu_eqT, pu_eqF, pu_x1, pu_x2, pu_x3, pu_x4, pu_x5, pu_x6, pu_x7, pu_x8, Nat.zero_add, pu_m31I, pu_m31, pu_shlI, eq_self, Bool.false_eq_true, Bool.true_eq_false]
    rw [t1]; rfl
theorem r_takeField (hp : pW p) (hw : whP p) (h : rPt p w) : Wp (f_X12_takeField w) (rTk p w) := by
  obtain ⟨h1, h2, h3, h4, h5⟩ := h
  have x0 : rtf w (am_pi w 271 13 (nI p.2.2.1)) := rtf.k (.inl rfl)
  have z : ∀ q, q ≠ 271 → (am_pi w 271 13 (nI p.2.2.1)).1 q = w.1 q := fun q hq => pi_p hq
  unfold f_X12_takeField
  conv => arg 1; simp (disch := omega) only [pv_v, pv_b2, pv_b1, pv_x, pv_lit, pv_ofN, pu_chk, pu_cl, nI_add, pk_mul, nI_leI, nI_ltI, nI_eq, pu_nar0, pu_nar1, pu_narb, bI_0, bI_1, ↓reduceIte, pu_leT, pu_leF, pu_ltT, pu_ltF, pu_eqT, pu_eqF, pu_x1, pu_x2, pu_x3, pu_x4, pu_x5, pu_x6, pu_x7, pu_x8, Nat.zero_add, pu_m31I, pu_m31, pu_shlI, eq_self, Bool.false_eq_true, Bool.true_eq_false, h1]
  unfold f_X12_takeField_10
  refine Wp.for (fun u w => (nI u, w)) (fun u w' => eqx [276] (am_pi w 271 13 (nI p.2.2.1)) w' ∧ ∀ k, k < u → w'.1 276 k = nI (p.2.1 k)) 4 (by omega) rfl ⟨eqx.rf, fun v hv => absurd hv (Nat.not_lt_zero _)⟩ (fun u w' hu hI => ?_) (fun w' hI => ?_)
  · obtain ⟨i1, i2⟩ := hI
    have e : w'.1 273 u = nI (p.2.1 u) := i1.t (by rw [z _ (by decide)]; exact h3 u hu) (by decide)
    refine Wp.ofr (a := (nI (u + 1), am_pi w' 276 u (nI (p.2.1 u)))) (by unfold f_X12_takeField_10b; simp (disch := omega) only [pv_v, pv_b2, pv_b1, pv_x, pv_lit, pv_ofN, pu_chk, pu_cl, nI_add, pk_mul, nI_leI, nI_ltI, nI_eq, pu_nar0, pu_nar1, pu_narb, bI_0, bI_1, ↓reduceIte, pu_leT, pu_leF, pu_ltT, pu_ltF, pu_eqT, pu_eqF, pu_x1, pu_x2, pu_x3, pu_x4, pu_x5, pu_x6, pu_x7, pu_x8, Nat.zero_add, pu_m31I, pu_m31, pu_shlI, eq_self, Bool.false_eq_true, Bool.true_eq_false, e]) ⟨_, rfl, i1.on (eqx.pi (by simp)), fun v hv => ?_⟩
    rw [pi_ite]
    split
    · next c => rw [c]
    · exact i2 v (by omega)
  · obtain ⟨i1, i2⟩ := hI
    obtain ⟨q, t1, t2⟩ := r_take35 (w := w') hp hw (i1.t pi_same (by decide)) i2 (fun v hv k hk => i1.t (by rw [z _ (by decide)]; exact h4 v hv k hk) (by decide)) (i1.t (by rw [pi_k (by decide)]; exact h2) (by decide)) (fun d hd k hk => i1.t (by rw [z _ (by decide)]; exact h5 d hd k hk) (by decide))
    refine Wp.ofl (a := q) ?_ (t2.up (x0.on (rtf.x (i1.up (by simp)))))
    unfold f_X12_takeField_10b
    simp (disch := omega) only [pv_v, pv_b2, pv_b1, pv_x, pv_lit, pv_ofN, pu_chk, pu_cl, nI_add, pk_mul, nI_leI, nI_ltI, nI_eq, pu_nar0, pu_nar1, pu_narb, bI_0, bI_1, ↓reduceIte, pu_leT, pu_leF, pu_ltT, pu_ltF, pu_eqT, pu_eqF, pu_x1, pu_x2, pu_x3, pu_x4, pu_x5, pu_x6, pu_x7, pu_x8, Nat.zero_add, pu_m31I, pu_m31, pu_shlI, eq_self, Bool.false_eq_true, Bool.true_eq_false]
    rw [t1]; rfl
/-- the FIELD is new -/
theorem rTk.Z (hp : pW p) (hw : whP p) {q : Int32 × am_S} (h : rTk p w q) (hj : w.2.1 271 20 = lN 0) {sts : Nat → Nat → Nat → Nat} {lg : Nat → Nat → Int32} : rZ (pF p) (pS p, sts, lg, 0, 0) q.2 := by
  obtain ⟨h1, h2, h3, h4, h5, h6, h7⟩ := h
  refine ⟨⟨by show (0:Nat) ≤ 40; omega, Nat.le_refl _, fun d d1 d2 => ?_⟩, ⟨pF_w hp hw, pS_w hp hw, h2, h3, ?_, by decide⟩, ⟨h5, fun d d1 d2 => ?_⟩, h4, fun n t ht hn => ?_⟩
  · have d2 : d ≤ 0 := d2
    omega
  · rw [h7.2.2.1]; exact hj
  · have d2 : d ≤ 0 := d2
    omega
  · have hn : n < 0 := hn
    omega
end RTAKE2
