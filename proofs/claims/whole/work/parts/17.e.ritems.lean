/-! pure part: ITEMS of a CLAUSE, the reference (by mk17e.py) -/
section RITEMS
variable {T : Nat} {tp : Nat → Nat} {w w' : am_S} {i j : Nat}
theorem sI_eqr {c : Nat} {m : Nat} (hc : c < 2 ^ 31) (hm : 0 < m) (hm2 : m < 2 ^ 31) : (sI c = nI m) = (m = c) := by
  rw [sI_eq hc hm hm2]
  exact propext ⟨Eq.symm, Eq.symm⟩
def r2 (p2 : Nat) (w w' : am_S) : Prop := (∀ k, k ≠ 3 → k ≠ 4 → w'.1 271 k = w.1 271 k) ∧ eqx [271, p2] w w'
theorem r2.on {p2 : Nat} {w'' : am_S} (h : r2 p2 w w') (h2 : r2 p2 w' w'') : r2 p2 w w'' := ⟨fun k h3 h4 => (h2.1 k h3 h4).trans (h.1 k h3 h4), h.2.on h2.2⟩
theorem r2.of {p2 : Nat} (h : r1 w w') : r2 p2 w w' := ⟨h.1, h.2.up (by simp)⟩
theorem r2.pi {p2 k : Nat} {v : Int32} (hp : p2 ≠ 271) : r2 p2 w (am_pi w p2 k v) := ⟨fun j _ _ => by rw [pi_p (by omega)], eqx.pi (by simp)⟩
theorem r2.t {p2 : Nat} (h : r2 p2 w w') (hp : p2 ≠ 272) (ht : rTp T tp w) : rTp T tp w' := ht.fr (h.1 2 (by omega) (by omega)) (h.2.r (by simp; omega))
theorem lx0_e {c : Nat} : lx 0 c = if 110 = c then some 0 else if 102 = c then some 1 else if 99 = c then some 2 else if 122 = c then some 3 else none := rfl
theorem r_itemOf0 {c : Nat} (hc : c < 256) : f_X12_itemOf (nI 115) (sI c) w = some (oI (lx 0 c), w) := by
  have hl : ∀ m, 0 < m → m < 2 ^ 31 → (sI c = nI m) = (m = c) := fun m h1 h2 => sI_eqr (by omega) h1 h2
  rw [lx0_e]
  unfold f_X12_itemOf f_X12_itemOf_127 f_X12_itemOf_105 f_X12_itemOf_47
  simp (disch := omega) only [pv_v, pv_b2, pv_b1, pv_x, pv_lit, pv_ofN, pu_chk, pu_cl, nI_add, pk_mul, nI_leI, nI_ltI, nI_eq, pu_nar0, pu_nar1, pu_narb, bI_0, bI_1, ↓reduceIte, pu_leT, pu_leF, pu_ltT, pu_ltF, pu_eqT, pu_eqF, pu_x1, pu_x2, pu_x3, pu_x4, pu_x5, pu_x6, pu_x7, pu_x8, Nat.zero_add, pu_m31I, pu_m31, pu_shlI, eq_self, Bool.false_eq_true, Bool.true_eq_false, hl]
  by_cases h0 : 110 = c
  · rw [if_pos h0, if_pos h0]; rfl
  · rw [if_neg h0, if_neg h0]
    by_cases h1 : 102 = c
    · rw [if_pos h1, if_pos h1]; rfl
    · rw [if_neg h1, if_neg h1]
      by_cases h2 : 99 = c
      · rw [if_pos h2, if_pos h2]; rfl
      · rw [if_neg h2, if_neg h2]
        by_cases h3 : 122 = c
        · rw [if_pos h3, if_pos h3]; rfl
        · rw [if_neg h3, if_neg h3]
          rfl
theorem r_lowest0 {k : Nat} (hk : k < 4) : f_X12_lowest (nI 115) (nI k) w = some (nI (itlo 0 k), w) := by
  have h : k = 0 ∨ k = 1 ∨ k = 2 ∨ k = 3 := by omega
  rcases h with rfl | rfl | rfl | rfl <;> rfl
theorem r_highest0 {k : Nat} (hk : k < 4) : f_X12_highest (nI 115) (nI k) w = some (nI (ithi 0 k), w) := by
  have h : k = 0 ∨ k = 1 ∨ k = 2 ∨ k = 3 := by omega
  rcases h with rfl | rfl | rfl | rfl <;> rfl
theorem r_usual0 {k : Nat} (hk : k < 4) : f_X12_usual (nI 115) (nI k) w = some (nI (itus 0 k), w) := by
  have h : k = 0 ∨ k = 1 ∨ k = 2 ∨ k = 3 := by omega
  rcases h with rfl | rfl | rfl | rfl <;> rfl
theorem lx1_e {c : Nat} : lx 1 c = if 112 = c then some 0 else if 103 = c then some 1 else if 116 = c then some 2 else if 97 = c then some 3 else if 98 = c then some 4 else none := rfl
theorem r_itemOf1 {c : Nat} (hc : c < 256) : f_X12_itemOf (nI 117) (sI c) w = some (oI (lx 1 c), w) := by
  have hl : ∀ m, 0 < m → m < 2 ^ 31 → (sI c = nI m) = (m = c) := fun m h1 h2 => sI_eqr (by omega) h1 h2
  rw [lx1_e]
  unfold f_X12_itemOf f_X12_itemOf_127 f_X12_itemOf_105 f_X12_itemOf_47
  simp (disch := omega) only [pv_v, pv_b2, pv_b1, pv_x, pv_lit, pv_ofN, pu_chk, pu_cl, nI_add, pk_mul, nI_leI, nI_ltI, nI_eq, pu_nar0, pu_nar1, pu_narb, bI_0, bI_1, ↓reduceIte, pu_leT, pu_leF, pu_ltT, pu_ltF, pu_eqT, pu_eqF, pu_x1, pu_x2, pu_x3, pu_x4, pu_x5, pu_x6, pu_x7, pu_x8, Nat.zero_add, pu_m31I, pu_m31, pu_shlI, eq_self, Bool.false_eq_true, Bool.true_eq_false, hl]
  by_cases h0 : 112 = c
  · rw [if_pos h0, if_pos h0]; rfl
  · rw [if_neg h0, if_neg h0]
    by_cases h1 : 103 = c
    · rw [if_pos h1, if_pos h1]; rfl
    · rw [if_neg h1, if_neg h1]
      by_cases h2 : 116 = c
      · rw [if_pos h2, if_pos h2]; rfl
      · rw [if_neg h2, if_neg h2]
        by_cases h3 : 97 = c
        · rw [if_pos h3, if_pos h3]; rfl
        · rw [if_neg h3, if_neg h3]
          by_cases h4 : 98 = c
          · rw [if_pos h4, if_pos h4]; rfl
          · rw [if_neg h4, if_neg h4]
            rfl
theorem r_lowest1 {k : Nat} (hk : k < 5) : f_X12_lowest (nI 117) (nI k) w = some (nI (itlo 1 k), w) := by
  have h : k = 0 ∨ k = 1 ∨ k = 2 ∨ k = 3 ∨ k = 4 := by omega
  rcases h with rfl | rfl | rfl | rfl | rfl <;> rfl
theorem r_highest1 {k : Nat} (hk : k < 5) : f_X12_highest (nI 117) (nI k) w = some (nI (ithi 1 k), w) := by
  have h : k = 0 ∨ k = 1 ∨ k = 2 ∨ k = 3 ∨ k = 4 := by omega
  rcases h with rfl | rfl | rfl | rfl | rfl <;> rfl
theorem r_usual1 {k : Nat} (hk : k < 5) : f_X12_usual (nI 117) (nI k) w = some (nI (itus 1 k), w) := by
  have h : k = 0 ∨ k = 1 ∨ k = 2 ∨ k = 3 ∨ k = 4 := by omega
  rcases h with rfl | rfl | rfl | rfl | rfl <;> rfl
theorem lx2_e {c : Nat} : lx 2 c = if 107 = c then some 0 else if 113 = c then some 1 else none := rfl
theorem r_itemOf2 {c : Nat} (hc : c < 256) : f_X12_itemOf (nI 100) (sI c) w = some (oI (lx 2 c), w) := by
  have hl : ∀ m, 0 < m → m < 2 ^ 31 → (sI c = nI m) = (m = c) := fun m h1 h2 => sI_eqr (by omega) h1 h2
  rw [lx2_e]
  unfold f_X12_itemOf f_X12_itemOf_127 f_X12_itemOf_105 f_X12_itemOf_47
  simp (disch := omega) only [pv_v, pv_b2, pv_b1, pv_x, pv_lit, pv_ofN, pu_chk, pu_cl, nI_add, pk_mul, nI_leI, nI_ltI, nI_eq, pu_nar0, pu_nar1, pu_narb, bI_0, bI_1, ↓reduceIte, pu_leT, pu_leF, pu_ltT, pu_ltF, pu_eqT, pu_eqF, pu_x1, pu_x2, pu_x3, pu_x4, pu_x5, pu_x6, pu_x7, pu_x8, Nat.zero_add, pu_m31I, pu_m31, pu_shlI, eq_self, Bool.false_eq_true, Bool.true_eq_false, hl]
  by_cases h0 : 107 = c
  · rw [if_pos h0, if_pos h0]; rfl
  · rw [if_neg h0, if_neg h0]
    by_cases h1 : 113 = c
    · rw [if_pos h1, if_pos h1]; rfl
    · rw [if_neg h1, if_neg h1]
      rfl
theorem r_lowest2 {k : Nat} (hk : k < 2) : f_X12_lowest (nI 100) (nI k) w = some (nI (itlo 2 k), w) := by
  have h : k = 0 ∨ k = 1 := by omega
  rcases h with rfl | rfl <;> rfl
theorem r_highest2 {k : Nat} (hk : k < 2) : f_X12_highest (nI 100) (nI k) w = some (nI (ithi 2 k), w) := by
  have h : k = 0 ∨ k = 1 := by omega
  rcases h with rfl | rfl <;> rfl
theorem r_usual2 {k : Nat} (hk : k < 2) : f_X12_usual (nI 100) (nI k) w = some (nI (itus 2 k), w) := by
  have h : k = 0 ∨ k = 1 := by omega
  rcases h with rfl | rfl <;> rfl
theorem r_items0 {p2 m2 fr : Nat} (hp : 272 < p2) (hm : fr + 4 ≤ m2) (hm2 : m2 < 2 ^ 30) (hT : tW T tp) (h : rTp T tp w) (hi : i ≤ T) (ha : w.1 271 3 = nI i) (hw : w.1 271 4 = -nI 1) : Wp (f_X12_items (nI 115) p2 m2 (nI fr) (nI 4) w) (fun w' => w'.1 271 3 = nI (itm T tp 0 5 0 (itus 0) i).2.1 ∧ w'.1 271 4 = (if (itm T tp 0 5 0 (itus 0) i).1 = 2 then nI (itm T tp 0 5 0 (itus 0) i).2.1 else -nI 1) ∧ ((itm T tp 0 5 0 (itus 0) i).1 = 1 → ∀ k, k < 4 → w'.1 p2 (fr + k) = nI ((itm T tp 0 5 0 (itus 0) i).2.2 k)) ∧ (∀ j, j < fr ∨ fr + 4 ≤ j → w'.1 p2 j = w.1 p2 j) ∧ r2 p2 w w') := by
  have hT1 := hT.1
  have hR3 : (itm T tp 0 5 0 (itus 0) i).1 ≠ 3 := itm_3 (by rw [pu_C_zero (fun u _ => Nat.zero_testBit u)]; decide)
  generalize hR : itm T tp 0 5 0 (itus 0) i = R at hR3 ⊢
  unfold f_X12_items f_X12_items_3
  refine Wp.for (fun k w => (nI k, w)) (fun k w' => (∀ j, j < k → w'.1 p2 (fr + j) = nI (itus 0 j)) ∧ (∀ j, j < fr ∨ fr + 4 ≤ j → w'.1 p2 j = w.1 p2 j) ∧ eqx [p2] w w') 4 (by decide) (w := w) rfl ⟨fun j hj => absurd hj (by omega), fun _ _ => rfl, eqx.rf⟩ (fun k w' hk hI => ?_) (fun w1 hI => ?_)
  · obtain ⟨i1, i2, i3⟩ := hI
    have hu := r_usual0 (w := w') hk
    refine Wp.ofr (a := (nI (k + 1), am_pi w' p2 (fr + k) (nI (itus 0 k)))) ?_ ⟨_, rfl, fun j hj => ?_, fun j hj => ?_, i3.on (eqx.pi (by simp))⟩
    · unfold f_X12_items_3b
      simp (disch := omega) only [pv_v, pv_b2, pv_b1, pv_x, pv_lit, pv_ofN, pu_chk, pu_cl, nI_add, pk_mul, nI_leI, nI_ltI, nI_eq, pu_nar0, pu_nar1, pu_narb, bI_0, bI_1, ↓reduceIte, pu_leT, pu_leF, pu_ltT, pu_ltF, pu_eqT, pu_eqF, pu_x1, pu_x2, pu_x3, pu_x4, pu_x5, pu_x6, pu_x7, pu_x8, Nat.zero_add, pu_m31I, pu_m31, pu_shlI, eq_self, Bool.false_eq_true, Bool.true_eq_false, hu]
    · rw [pi_ite]
      by_cases c : j = k
      · subst c; rw [if_pos rfl]
      · rw [if_neg (by omega)]; exact i1 j (by omega)
    · rw [pi_k (by omega)]; exact i2 j hj
  · obtain ⟨i1, i2, i3⟩ := hI
    have ha1 : w1.1 271 3 = nI i := i3.t ha (by simp; omega)
    have hw1 : w1.1 271 4 = -nI 1 := i3.t hw (by simp; omega)
    have x1 : r2 p2 w w1 := ⟨fun k _ _ => by rw [i3.r (by simp; omega)], i3.up (by simp)⟩
    have hT1' : rTp T tp w1 := x1.t (by omega) h
    have hn := nB_le (tp := tp) hi
    obtain ⟨⟨v, w2⟩, t1, t2, t3, t4, t5⟩ := r_next hT hT1' hi ha1
    have t2 : v = sI (sg T tp (nB T tp i)) := t2
    subst t2
    have t3 : w2.1 271 3 = nI (nB T tp i) := t3
    have t4 : w2.1 271 4 = -nI 1 := t4.trans hw1
    have t5 : r1 w1 w2 := t5
    have x2 : r2 p2 w w2 := x1.on (r2.of t5)
    have p2e : w2.1 p2 = w1.1 p2 := t5.2.r (by simp; omega)
    have hx := r_itemOf0 (w := w2) (sg_lt hT (i := nB T tp i))
    have hgo : Wp (f_X12_items_41 (nI 115) p2 m2 (nI fr) (nI 4) (nI 0) (oI (lx 0 (sg T tp (nB T tp i)))) w2) (fun w' => w'.1 271 3 = nI R.2.1 ∧ w'.1 271 4 = (if R.1 = 2 then nI R.2.1 else -nI 1) ∧ (R.1 = 1 → ∀ k, k < 4 → w'.1 p2 (fr + k) = nI (R.2.2 k)) ∧ (∀ j, j < fr ∨ fr + 4 ≤ j → w'.1 p2 j = w.1 p2 j) ∧ r2 p2 w w') := by
      unfold f_X12_items_41
      refine Wp.loop (fun c s => (∃ w' f had it i', s = (nI had, oI (lx 0 (sg T tp (nB T tp i'))), w') ∧ f + c = 5 ∧ itm T tp 0 f had it i' = R ∧ had < 2 ^ 4 ∧ w'.1 271 3 = nI (nB T tp i') ∧ w'.1 271 4 = -nI 1 ∧ i' ≤ T ∧ (∀ k, k < 4 → w'.1 p2 (fr + k) = nI (it k)) ∧ (∀ j, j < fr ∨ fr + 4 ≤ j → w'.1 p2 j = w.1 p2 j) ∧ r2 p2 w w') ∨ (∃ w' x, s = (x, -nI 1, w') ∧ c ≤ 5 ∧ R.1 = 2 ∧ R.2.1 ≤ T ∧ w'.1 271 3 = nI R.2.1 ∧ w'.1 271 4 = nI R.2.1 ∧ (∀ j, j < fr ∨ fr + 4 ≤ j → w'.1 p2 j = w.1 p2 j) ∧ r2 p2 w w')) 5 (by decide) (.inl ⟨w2, 5, 0, itus 0, i, rfl, rfl, hR, by decide, t3, t4, hi, fun k hk => by rw [p2e]; exact i1 k hk, fun j hj => by rw [p2e]; exact i2 j hj, x2⟩) ?_
      rintro c s hc (⟨w', f, had, it, i', rfl, hf, hit, hh, a1, a2, a3, a4, a5, a6⟩ | ⟨w', x, rfl, hcc, b1, b2, b3, b4, b5, b6⟩)
      · cases f with
        | zero => exact absurd (by rw [← hit]; rfl) hR3
        | succ f =>
          have hn' := nB_le (tp := tp) a3
          have hs := sg_lt hT (i := nB T tp i')
          unfold f_X12_items_41b f_X12_items_131 f_X12_items_126
          cases e : lx 0 (sg T tp (nB T tp i')) with
          | none =>
            refine Wp.ofl (a := w') (by rw [show oI none = -nI 1 from rfl]; simp (disch := omega) only [pv_v, pv_b2, pv_b1, pv_x, pv_lit, pv_ofN, pu_chk, pu_cl, nI_add, pk_mul, nI_leI, nI_ltI, nI_eq, pu_nar0, pu_nar1, pu_narb, bI_0, bI_1, ↓reduceIte, pu_leT, pu_leF, pu_ltT, pu_ltF, pu_eqT, pu_eqF, pu_x1, pu_x2, pu_x3, pu_x4, pu_x5, pu_x6, pu_x7, pu_x8, Nat.zero_add, pu_m31I, pu_m31, pu_shlI, eq_self, Bool.false_eq_true, Bool.true_eq_false, a2]) ?_
            by_cases ce : sg T tp (nB T tp i') = 0 ∨ sg T tp (nB T tp i') = 59
            · rw [itm_e ce] at hit
              subst hit
              exact ⟨a1, a2, fun _ => a4, a5, a6⟩
            · rw [itm_n ce e] at hit
              subst hit
              exact ⟨a1, a2, fun q => absurd q (by decide : ¬ (0 = 1)), a5, a6⟩
          | some k =>
            have hk : k < 4 := (lx_lt e).1
            have ce : ¬ (sg T tp (nB T tp i') = 0 ∨ sg T tp (nB T tp i') = 59) := by
              rintro (q | q) <;> rw [q] at e
              · rw [show lx 0 0 = none by decide] at e; cases e
              · rw [show lx 0 59 = none by decide] at e; cases e
            have hlt : nB T tp i' < T := by
              rcases Nat.lt_or_ge (nB T tp i') T with q | q
              · exact q
              · exact absurd (.inl ((sg_0 hT).mpr q)) ce
            have hb := r_has (w := w') (a := had) (k := k) (by omega) (by omega)
            rw [show oI (some k) = nI k from rfl]
            cases eh : had.testBit k with
            | true =>
              rw [itm_h ce e eh] at hit
              subst hit
              rw [eh] at hb
              refine Wp.ofl (a := w') (by simp (disch := omega) only [pv_v, pv_b2, pv_b1, pv_x, pv_lit, pv_ofN, pu_chk, pu_cl, nI_add, pk_mul, nI_leI, nI_ltI, nI_eq, pu_nar0, pu_nar1, pu_narb, bI_0, bI_1, ↓reduceIte, pu_leT, pu_leF, pu_ltT, pu_ltF, pu_eqT, pu_eqF, pu_x1, pu_x2, pu_x3, pu_x4, pu_x5, pu_x6, pu_x7, pu_x8, Nat.zero_add, pu_m31I, pu_m31, pu_shlI, eq_self, Bool.false_eq_true, Bool.true_eq_false, a2, hb]) ?_
              exact ⟨a1, a2, fun q => absurd q (by decide : ¬ (0 = 1)), a5, a6⟩
            | false =>
              rw [eh] at hb
              have y3 : r2 p2 w (am_pi w' 271 3 (nI (nB T tp i' + 1))) := a6.on (r2.of (r1.pi (by omega)))
              have hT3 : rTp T tp (am_pi w' 271 3 (nI (nB T tp i' + 1))) := y3.t (by omega) h
              have hlo := r_lowest0 (w := am_pi w' 271 3 (nI (nB T tp i' + 1))) hk
              have hhi := r_highest0 (w := am_pi w' 271 3 (nI (nB T tp i' + 1))) hk
              obtain ⟨⟨v, w4⟩, u1, u2, u3, u4, u5⟩ := r_number hT hT3 (i := nB T tp i' + 1) hlt pi_same (by rw [pi_k (by omega)]; exact a2) (bnd0 k hk).1 (bnd0 k hk).2
              have u2 : v = nI (nM T tp (itlo 0 k) (ithi 0 k) (nB T tp i' + 1)).2.2 := u2
              subst u2
              have u3 : w4.1 271 3 = nI (nM T tp (itlo 0 k) (ithi 0 k) (nB T tp i' + 1)).2.1 := u3
              have u4 : w4.1 271 4 = (if (nM T tp (itlo 0 k) (ithi 0 k) (nB T tp i' + 1)).1 then -nI 1 else nI (nM T tp (itlo 0 k) (ithi 0 k) (nB T tp i' + 1)).2.1) := u4
              have u5 : r1 (am_pi w' 271 3 (nI (nB T tp i' + 1))) w4 := u5
              have y4 : r2 p2 w w4 := y3.on (r2.of u5)
              have p4 : w4.1 p2 = w'.1 p2 := by rw [u5.2.r (by simp; omega), pi_p (by omega)]
              have hnl : (nM T tp (itlo 0 k) (ithi 0 k) (nB T tp i' + 1)).2.1 ≤ T := nM_le hlt
              have y5 : r2 p2 w (am_pi w4 p2 (fr + k) (nI (nM T tp (itlo 0 k) (ithi 0 k) (nB T tp i' + 1)).2.2)) := y4.on (r2.pi (by omega))
              have p5 : ∀ j, j < fr ∨ fr + 4 ≤ j → (am_pi w4 p2 (fr + k) (nI (nM T tp (itlo 0 k) (ithi 0 k) (nB T tp i' + 1)).2.2)).1 p2 j = w.1 p2 j := fun j hj => by rw [pi_k (by omega), p4]; exact a5 j hj
              have z3 : (am_pi w4 p2 (fr + k) (nI (nM T tp (itlo 0 k) (ithi 0 k) (nB T tp i' + 1)).2.2)).1 271 3 = nI (nM T tp (itlo 0 k) (ithi 0 k) (nB T tp i' + 1)).2.1 := by rw [pi_p (by omega)]; exact u3
              have z4 : (am_pi w4 p2 (fr + k) (nI (nM T tp (itlo 0 k) (ithi 0 k) (nB T tp i' + 1)).2.2)).1 271 4 = (if (nM T tp (itlo 0 k) (ithi 0 k) (nB T tp i' + 1)).1 then -nI 1 else nI (nM T tp (itlo 0 k) (ithi 0 k) (nB T tp i' + 1)).2.1) := by rw [pi_p (by omega)]; exact u4
              cases en : (nM T tp (itlo 0 k) (ithi 0 k) (nB T tp i' + 1)).1 with
              | false =>
                rw [itm_f ce e eh en] at hit
                rw [en, if_neg (by decide)] at z4
                refine Wp.ofr (a := (nI (had ||| 2 ^ k), -nI 1, am_pi w4 p2 (fr + k) (nI (nM T tp (itlo 0 k) (ithi 0 k) (nB T tp i' + 1)).2.2))) (by simp (disch := omega) only [pv_v, pv_b2, pv_b1, pv_x, pv_lit, pv_ofN, pu_chk, pu_cl, nI_add, pk_mul, nI_leI, nI_ltI, nI_eq, pu_nar0, pu_nar1, pu_narb, bI_0, bI_1, ↓reduceIte, pu_leT, pu_leF, pu_ltT, pu_ltF, pu_eqT, pu_eqF, pu_x1, pu_x2, pu_x3, pu_x4, pu_x5, pu_x6, pu_x7, pu_x8, Nat.zero_add, pu_m31I, pu_m31, pu_shlI, eq_self, Bool.false_eq_true, Bool.true_eq_false, a1, a2, hb, hlo, hhi, u1, pu_or, z4]) ⟨by omega, .inr ⟨_, _, rfl, by omega, ?_, ?_, ?_, ?_, p5, y5⟩⟩
                · rw [← hit]
                · rw [← hit]; exact hnl
                · rw [← hit]; exact z3
                · rw [← hit]; exact z4
              | true =>
                rw [itm_g ce e eh en] at hit
                rw [en, if_pos rfl] at z4
                obtain ⟨⟨v, w6⟩, s1, s2, s3, s4, s5⟩ := r_next hT (y5.t (by omega) h) hnl z3
                have s2 : v = sI (sg T tp (nB T tp (nM T tp (itlo 0 k) (ithi 0 k) (nB T tp i' + 1)).2.1)) := s2
                subst s2
                have s3 : w6.1 271 3 = nI (nB T tp (nM T tp (itlo 0 k) (ithi 0 k) (nB T tp i' + 1)).2.1) := s3
                have s4 : w6.1 271 4 = -nI 1 := s4.trans z4
                have s5 : r1 (am_pi w4 p2 (fr + k) (nI (nM T tp (itlo 0 k) (ithi 0 k) (nB T tp i' + 1)).2.2)) w6 := s5
                have hx6 := r_itemOf0 (w := w6) (sg_lt hT (i := nB T tp (nM T tp (itlo 0 k) (ithi 0 k) (nB T tp i' + 1)).2.1))
                have p6 : w6.1 p2 = (am_pi w4 p2 (fr + k) (nI (nM T tp (itlo 0 k) (ithi 0 k) (nB T tp i' + 1)).2.2)).1 p2 := s5.2.r (by simp; omega)
                refine Wp.ofr (a := (nI (had ||| 2 ^ k), oI (lx 0 (sg T tp (nB T tp (nM T tp (itlo 0 k) (ithi 0 k) (nB T tp i' + 1)).2.1))), w6)) (by simp (disch := omega) only [pv_v, pv_b2, pv_b1, pv_x, pv_lit, pv_ofN, pu_chk, pu_cl, nI_add, pk_mul, nI_leI, nI_ltI, nI_eq, pu_nar0, pu_nar1, pu_narb, bI_0, bI_1, ↓reduceIte, pu_leT, pu_leF, pu_ltT, pu_ltF, pu_eqT, pu_eqF, pu_x1, pu_x2, pu_x3, pu_x4, pu_x5, pu_x6, pu_x7, pu_x8, Nat.zero_add, pu_m31I, pu_m31, pu_shlI, eq_self, Bool.false_eq_true, Bool.true_eq_false, a1, a2, hb, hlo, hhi, u1, pu_or, z4, s1, hx6]) ⟨by omega, .inl ⟨w6, f, had ||| 2 ^ k, _, _, rfl, by omega, hit, Nat.or_lt_two_pow hh (pu_p2 hk), s3, s4, hnl, fun j hj => ?_, fun j hj => by rw [p6]; exact p5 j hj, y5.on (r2.of s5)⟩⟩
                rw [p6, pi_ite]
                unfold upn
                by_cases q : j = k
                · rw [if_pos q, if_pos (by omega)]
                · rw [if_neg q, if_neg (by omega), p4]; exact a4 j hj
      · unfold f_X12_items_41b f_X12_items_131
        refine Wp.ofl (a := w') (by simp (disch := omega) only [pv_v, pv_b2, pv_b1, pv_x, pv_lit, pv_ofN, pu_chk, pu_cl, nI_add, pk_mul, nI_leI, nI_ltI, nI_eq, pu_nar0, pu_nar1, pu_narb, bI_0, bI_1, ↓reduceIte, pu_leT, pu_leF, pu_ltT, pu_ltF, pu_eqT, pu_eqF, pu_x1, pu_x2, pu_x3, pu_x4, pu_x5, pu_x6, pu_x7, pu_x8, Nat.zero_add, pu_m31I, pu_m31, pu_shlI, eq_self, Bool.false_eq_true, Bool.true_eq_false, b4]) ⟨b3, by rw [if_pos b1]; exact b4, fun q => absurd q (by omega), b5, b6⟩
    unfold f_X12_items_3b
    conv => arg 1; simp (disch := omega) only [pv_v, pv_b2, pv_b1, pv_x, pv_lit, pv_ofN, pu_chk, pu_cl, nI_add, pk_mul, nI_leI, nI_ltI, nI_eq, pu_nar0, pu_nar1, pu_narb, bI_0, bI_1, ↓reduceIte, pu_leT, pu_leF, pu_ltT, pu_ltF, pu_eqT, pu_eqF, pu_x1, pu_x2, pu_x3, pu_x4, pu_x5, pu_x6, pu_x7, pu_x8, Nat.zero_add, pu_m31I, pu_m31, pu_shlI, eq_self, Bool.false_eq_true, Bool.true_eq_false, t1, hx]
    exact Wp.x hgo
theorem r_items1 {p2 m2 fr : Nat} (hp : 272 < p2) (hm : fr + 5 ≤ m2) (hm2 : m2 < 2 ^ 30) (hT : tW T tp) (h : rTp T tp w) (hi : i ≤ T) (ha : w.1 271 3 = nI i) (hw : w.1 271 4 = -nI 1) : Wp (f_X12_items (nI 117) p2 m2 (nI fr) (nI 5) w) (fun w' => w'.1 271 3 = nI (itm T tp 1 6 0 (itus 1) i).2.1 ∧ w'.1 271 4 = (if (itm T tp 1 6 0 (itus 1) i).1 = 2 then nI (itm T tp 1 6 0 (itus 1) i).2.1 else -nI 1) ∧ ((itm T tp 1 6 0 (itus 1) i).1 = 1 → ∀ k, k < 5 → w'.1 p2 (fr + k) = nI ((itm T tp 1 6 0 (itus 1) i).2.2 k)) ∧ (∀ j, j < fr ∨ fr + 5 ≤ j → w'.1 p2 j = w.1 p2 j) ∧ r2 p2 w w') := by
  have hT1 := hT.1
  have hR3 : (itm T tp 1 6 0 (itus 1) i).1 ≠ 3 := itm_3 (by rw [pu_C_zero (fun u _ => Nat.zero_testBit u)]; decide)
  generalize hR : itm T tp 1 6 0 (itus 1) i = R at hR3 ⊢
  unfold f_X12_items f_X12_items_3
  refine Wp.for (fun k w => (nI k, w)) (fun k w' => (∀ j, j < k → w'.1 p2 (fr + j) = nI (itus 1 j)) ∧ (∀ j, j < fr ∨ fr + 5 ≤ j → w'.1 p2 j = w.1 p2 j) ∧ eqx [p2] w w') 5 (by decide) (w := w) rfl ⟨fun j hj => absurd hj (by omega), fun _ _ => rfl, eqx.rf⟩ (fun k w' hk hI => ?_) (fun w1 hI => ?_)
  · obtain ⟨i1, i2, i3⟩ := hI
    have hu := r_usual1 (w := w') hk
    refine Wp.ofr (a := (nI (k + 1), am_pi w' p2 (fr + k) (nI (itus 1 k)))) ?_ ⟨_, rfl, fun j hj => ?_, fun j hj => ?_, i3.on (eqx.pi (by simp))⟩
    · unfold f_X12_items_3b
      simp (disch := omega) only [pv_v, pv_b2, pv_b1, pv_x, pv_lit, pv_ofN, pu_chk, pu_cl, nI_add, pk_mul, nI_leI, nI_ltI, nI_eq, pu_nar0, pu_nar1, pu_narb, bI_0, bI_1, ↓reduceIte, pu_leT, pu_leF, pu_ltT, pu_ltF, pu_eqT, pu_eqF, pu_x1, pu_x2, pu_x3, pu_x4, pu_x5, pu_x6, pu_x7, pu_x8, Nat.zero_add, pu_m31I, pu_m31, pu_shlI, eq_self, Bool.false_eq_true, Bool.true_eq_false, hu]
    · rw [pi_ite]
      by_cases c : j = k
      · subst c; rw [if_pos rfl]
      · rw [if_neg (by omega)]; exact i1 j (by omega)
    · rw [pi_k (by omega)]; exact i2 j hj
  · obtain ⟨i1, i2, i3⟩ := hI
    have ha1 : w1.1 271 3 = nI i := i3.t ha (by simp; omega)
    have hw1 : w1.1 271 4 = -nI 1 := i3.t hw (by simp; omega)
    have x1 : r2 p2 w w1 := ⟨fun k _ _ => by rw [i3.r (by simp; omega)], i3.up (by simp)⟩
    have hT1' : rTp T tp w1 := x1.t (by omega) h
    have hn := nB_le (tp := tp) hi
    obtain ⟨⟨v, w2⟩, t1, t2, t3, t4, t5⟩ := r_next hT hT1' hi ha1
    have t2 : v = sI (sg T tp (nB T tp i)) := t2
    subst t2
    have t3 : w2.1 271 3 = nI (nB T tp i) := t3
    have t4 : w2.1 271 4 = -nI 1 := t4.trans hw1
    have t5 : r1 w1 w2 := t5
    have x2 : r2 p2 w w2 := x1.on (r2.of t5)
    have p2e : w2.1 p2 = w1.1 p2 := t5.2.r (by simp; omega)
    have hx := r_itemOf1 (w := w2) (sg_lt hT (i := nB T tp i))
    have hgo : Wp (f_X12_items_41 (nI 117) p2 m2 (nI fr) (nI 5) (nI 0) (oI (lx 1 (sg T tp (nB T tp i)))) w2) (fun w' => w'.1 271 3 = nI R.2.1 ∧ w'.1 271 4 = (if R.1 = 2 then nI R.2.1 else -nI 1) ∧ (R.1 = 1 → ∀ k, k < 5 → w'.1 p2 (fr + k) = nI (R.2.2 k)) ∧ (∀ j, j < fr ∨ fr + 5 ≤ j → w'.1 p2 j = w.1 p2 j) ∧ r2 p2 w w') := by
      unfold f_X12_items_41
      refine Wp.loop (fun c s => (∃ w' f had it i', s = (nI had, oI (lx 1 (sg T tp (nB T tp i'))), w') ∧ f + c = 6 ∧ itm T tp 1 f had it i' = R ∧ had < 2 ^ 5 ∧ w'.1 271 3 = nI (nB T tp i') ∧ w'.1 271 4 = -nI 1 ∧ i' ≤ T ∧ (∀ k, k < 5 → w'.1 p2 (fr + k) = nI (it k)) ∧ (∀ j, j < fr ∨ fr + 5 ≤ j → w'.1 p2 j = w.1 p2 j) ∧ r2 p2 w w') ∨ (∃ w' x, s = (x, -nI 1, w') ∧ c ≤ 6 ∧ R.1 = 2 ∧ R.2.1 ≤ T ∧ w'.1 271 3 = nI R.2.1 ∧ w'.1 271 4 = nI R.2.1 ∧ (∀ j, j < fr ∨ fr + 5 ≤ j → w'.1 p2 j = w.1 p2 j) ∧ r2 p2 w w')) 6 (by decide) (.inl ⟨w2, 6, 0, itus 1, i, rfl, rfl, hR, by decide, t3, t4, hi, fun k hk => by rw [p2e]; exact i1 k hk, fun j hj => by rw [p2e]; exact i2 j hj, x2⟩) ?_
      rintro c s hc (⟨w', f, had, it, i', rfl, hf, hit, hh, a1, a2, a3, a4, a5, a6⟩ | ⟨w', x, rfl, hcc, b1, b2, b3, b4, b5, b6⟩)
      · cases f with
        | zero => exact absurd (by rw [← hit]; rfl) hR3
        | succ f =>
          have hn' := nB_le (tp := tp) a3
          have hs := sg_lt hT (i := nB T tp i')
          unfold f_X12_items_41b f_X12_items_131 f_X12_items_126
          cases e : lx 1 (sg T tp (nB T tp i')) with
          | none =>
            refine Wp.ofl (a := w') (by rw [show oI none = -nI 1 from rfl]; simp (disch := omega) only [pv_v, pv_b2, pv_b1, pv_x, pv_lit, pv_ofN, pu_chk, pu_cl, nI_add, pk_mul, nI_leI, nI_ltI, nI_eq, pu_nar0, pu_nar1, pu_narb, bI_0, bI_1, ↓reduceIte, pu_leT, pu_leF, pu_ltT, pu_ltF, pu_eqT, pu_eqF, pu_x1, pu_x2, pu_x3, pu_x4, pu_x5, pu_x6, pu_x7, pu_x8, Nat.zero_add, pu_m31I, pu_m31, pu_shlI, eq_self, Bool.false_eq_true, Bool.true_eq_false, a2]) ?_
            by_cases ce : sg T tp (nB T tp i') = 0 ∨ sg T tp (nB T tp i') = 59
            · rw [itm_e ce] at hit
              subst hit
              exact ⟨a1, a2, fun _ => a4, a5, a6⟩
            · rw [itm_n ce e] at hit
              subst hit
              exact ⟨a1, a2, fun q => absurd q (by decide : ¬ (0 = 1)), a5, a6⟩
          | some k =>
            have hk : k < 5 := (lx_lt e).1
            have ce : ¬ (sg T tp (nB T tp i') = 0 ∨ sg T tp (nB T tp i') = 59) := by
              rintro (q | q) <;> rw [q] at e
              · rw [show lx 1 0 = none by decide] at e; cases e
              · rw [show lx 1 59 = none by decide] at e; cases e
            have hlt : nB T tp i' < T := by
              rcases Nat.lt_or_ge (nB T tp i') T with q | q
              · exact q
              · exact absurd (.inl ((sg_0 hT).mpr q)) ce
            have hb := r_has (w := w') (a := had) (k := k) (by omega) (by omega)
            rw [show oI (some k) = nI k from rfl]
            cases eh : had.testBit k with
            | true =>
              rw [itm_h ce e eh] at hit
              subst hit
              rw [eh] at hb
              refine Wp.ofl (a := w') (by simp (disch := omega) only [pv_v, pv_b2, pv_b1, pv_x, pv_lit, pv_ofN, pu_chk, pu_cl, nI_add, pk_mul, nI_leI, nI_ltI, nI_eq, pu_nar0, pu_nar1, pu_narb, bI_0, bI_1, ↓reduceIte, pu_leT, pu_leF, pu_ltT, pu_ltF, pu_eqT, pu_eqF, pu_x1, pu_x2, pu_x3, pu_x4, pu_x5, pu_x6, pu_x7, pu_x8, Nat.zero_add, pu_m31I, pu_m31, pu_shlI, eq_self, Bool.false_eq_true, Bool.true_eq_false, a2, hb]) ?_
              exact ⟨a1, a2, fun q => absurd q (by decide : ¬ (0 = 1)), a5, a6⟩
            | false =>
              rw [eh] at hb
              have y3 : r2 p2 w (am_pi w' 271 3 (nI (nB T tp i' + 1))) := a6.on (r2.of (r1.pi (by omega)))
              have hT3 : rTp T tp (am_pi w' 271 3 (nI (nB T tp i' + 1))) := y3.t (by omega) h
              have hlo := r_lowest1 (w := am_pi w' 271 3 (nI (nB T tp i' + 1))) hk
              have hhi := r_highest1 (w := am_pi w' 271 3 (nI (nB T tp i' + 1))) hk
              obtain ⟨⟨v, w4⟩, u1, u2, u3, u4, u5⟩ := r_number hT hT3 (i := nB T tp i' + 1) hlt pi_same (by rw [pi_k (by omega)]; exact a2) (bnd1 k hk).1 (bnd1 k hk).2
              have u2 : v = nI (nM T tp (itlo 1 k) (ithi 1 k) (nB T tp i' + 1)).2.2 := u2
              subst u2
              have u3 : w4.1 271 3 = nI (nM T tp (itlo 1 k) (ithi 1 k) (nB T tp i' + 1)).2.1 := u3
              have u4 : w4.1 271 4 = (if (nM T tp (itlo 1 k) (ithi 1 k) (nB T tp i' + 1)).1 then -nI 1 else nI (nM T tp (itlo 1 k) (ithi 1 k) (nB T tp i' + 1)).2.1) := u4
              have u5 : r1 (am_pi w' 271 3 (nI (nB T tp i' + 1))) w4 := u5
              have y4 : r2 p2 w w4 := y3.on (r2.of u5)
              have p4 : w4.1 p2 = w'.1 p2 := by rw [u5.2.r (by simp; omega), pi_p (by omega)]
              have hnl : (nM T tp (itlo 1 k) (ithi 1 k) (nB T tp i' + 1)).2.1 ≤ T := nM_le hlt
              have y5 : r2 p2 w (am_pi w4 p2 (fr + k) (nI (nM T tp (itlo 1 k) (ithi 1 k) (nB T tp i' + 1)).2.2)) := y4.on (r2.pi (by omega))
              have p5 : ∀ j, j < fr ∨ fr + 5 ≤ j → (am_pi w4 p2 (fr + k) (nI (nM T tp (itlo 1 k) (ithi 1 k) (nB T tp i' + 1)).2.2)).1 p2 j = w.1 p2 j := fun j hj => by rw [pi_k (by omega), p4]; exact a5 j hj
              have z3 : (am_pi w4 p2 (fr + k) (nI (nM T tp (itlo 1 k) (ithi 1 k) (nB T tp i' + 1)).2.2)).1 271 3 = nI (nM T tp (itlo 1 k) (ithi 1 k) (nB T tp i' + 1)).2.1 := by rw [pi_p (by omega)]; exact u3
              have z4 : (am_pi w4 p2 (fr + k) (nI (nM T tp (itlo 1 k) (ithi 1 k) (nB T tp i' + 1)).2.2)).1 271 4 = (if (nM T tp (itlo 1 k) (ithi 1 k) (nB T tp i' + 1)).1 then -nI 1 else nI (nM T tp (itlo 1 k) (ithi 1 k) (nB T tp i' + 1)).2.1) := by rw [pi_p (by omega)]; exact u4
              cases en : (nM T tp (itlo 1 k) (ithi 1 k) (nB T tp i' + 1)).1 with
              | false =>
                rw [itm_f ce e eh en] at hit
                rw [en, if_neg (by decide)] at z4
                refine Wp.ofr (a := (nI (had ||| 2 ^ k), -nI 1, am_pi w4 p2 (fr + k) (nI (nM T tp (itlo 1 k) (ithi 1 k) (nB T tp i' + 1)).2.2))) (by simp (disch := omega) only [pv_v, pv_b2, pv_b1, pv_x, pv_lit, pv_ofN, pu_chk, pu_cl, nI_add, pk_mul, nI_leI, nI_ltI, nI_eq, pu_nar0, pu_nar1, pu_narb, bI_0, bI_1, ↓reduceIte, pu_leT, pu_leF, pu_ltT, pu_ltF, pu_eqT, pu_eqF, pu_x1, pu_x2, pu_x3, pu_x4, pu_x5, pu_x6, pu_x7, pu_x8, Nat.zero_add, pu_m31I, pu_m31, pu_shlI, eq_self, Bool.false_eq_true, Bool.true_eq_false, a1, a2, hb, hlo, hhi, u1, pu_or, z4]) ⟨by omega, .inr ⟨_, _, rfl, by omega, ?_, ?_, ?_, ?_, p5, y5⟩⟩
                · rw [← hit]
                · rw [← hit]; exact hnl
                · rw [← hit]; exact z3
                · rw [← hit]; exact z4
              | true =>
                rw [itm_g ce e eh en] at hit
                rw [en, if_pos rfl] at z4
                obtain ⟨⟨v, w6⟩, s1, s2, s3, s4, s5⟩ := r_next hT (y5.t (by omega) h) hnl z3
                have s2 : v = sI (sg T tp (nB T tp (nM T tp (itlo 1 k) (ithi 1 k) (nB T tp i' + 1)).2.1)) := s2
                subst s2
                have s3 : w6.1 271 3 = nI (nB T tp (nM T tp (itlo 1 k) (ithi 1 k) (nB T tp i' + 1)).2.1) := s3
                have s4 : w6.1 271 4 = -nI 1 := s4.trans z4
                have s5 : r1 (am_pi w4 p2 (fr + k) (nI (nM T tp (itlo 1 k) (ithi 1 k) (nB T tp i' + 1)).2.2)) w6 := s5
                have hx6 := r_itemOf1 (w := w6) (sg_lt hT (i := nB T tp (nM T tp (itlo 1 k) (ithi 1 k) (nB T tp i' + 1)).2.1))
                have p6 : w6.1 p2 = (am_pi w4 p2 (fr + k) (nI (nM T tp (itlo 1 k) (ithi 1 k) (nB T tp i' + 1)).2.2)).1 p2 := s5.2.r (by simp; omega)
                refine Wp.ofr (a := (nI (had ||| 2 ^ k), oI (lx 1 (sg T tp (nB T tp (nM T tp (itlo 1 k) (ithi 1 k) (nB T tp i' + 1)).2.1))), w6)) (by simp (disch := omega) only [pv_v, pv_b2, pv_b1, pv_x, pv_lit, pv_ofN, pu_chk, pu_cl, nI_add, pk_mul, nI_leI, nI_ltI, nI_eq, pu_nar0, pu_nar1, pu_narb, bI_0, bI_1, ↓reduceIte, pu_leT, pu_leF, pu_ltT, pu_ltF, pu_eqT, pu_eqF, pu_x1, pu_x2, pu_x3, pu_x4, pu_x5, pu_x6, pu_x7, pu_x8, Nat.zero_add, pu_m31I, pu_m31, pu_shlI, eq_self, Bool.false_eq_true, Bool.true_eq_false, a1, a2, hb, hlo, hhi, u1, pu_or, z4, s1, hx6]) ⟨by omega, .inl ⟨w6, f, had ||| 2 ^ k, _, _, rfl, by omega, hit, Nat.or_lt_two_pow hh (pu_p2 hk), s3, s4, hnl, fun j hj => ?_, fun j hj => by rw [p6]; exact p5 j hj, y5.on (r2.of s5)⟩⟩
                rw [p6, pi_ite]
                unfold upn
                by_cases q : j = k
                · rw [if_pos q, if_pos (by omega)]
                · rw [if_neg q, if_neg (by omega), p4]; exact a4 j hj
      · unfold f_X12_items_41b f_X12_items_131
        refine Wp.ofl (a := w') (by simp (disch := omega) only [pv_v, pv_b2, pv_b1, pv_x, pv_lit, pv_ofN, pu_chk, pu_cl, nI_add, pk_mul, nI_leI, nI_ltI, nI_eq, pu_nar0, pu_nar1, pu_narb, bI_0, bI_1, ↓reduceIte, pu_leT, pu_leF, pu_ltT, pu_ltF, pu_eqT, pu_eqF, pu_x1, pu_x2, pu_x3, pu_x4, pu_x5, pu_x6, pu_x7, pu_x8, Nat.zero_add, pu_m31I, pu_m31, pu_shlI, eq_self, Bool.false_eq_true, Bool.true_eq_false, b4]) ⟨b3, by rw [if_pos b1]; exact b4, fun q => absurd q (by omega), b5, b6⟩
    unfold f_X12_items_3b
    conv => arg 1; simp (disch := omega) only [pv_v, pv_b2, pv_b1, pv_x, pv_lit, pv_ofN, pu_chk, pu_cl, nI_add, pk_mul, nI_leI, nI_ltI, nI_eq, pu_nar0, pu_nar1, pu_narb, bI_0, bI_1, ↓reduceIte, pu_leT, pu_leF, pu_ltT, pu_ltF, pu_eqT, pu_eqF, pu_x1, pu_x2, pu_x3, pu_x4, pu_x5, pu_x6, pu_x7, pu_x8, Nat.zero_add, pu_m31I, pu_m31, pu_shlI, eq_self, Bool.false_eq_true, Bool.true_eq_false, t1, hx]
    exact Wp.x hgo
theorem r_items2 {p2 m2 fr : Nat} (hp : 272 < p2) (hm : fr + 2 ≤ m2) (hm2 : m2 < 2 ^ 30) (hT : tW T tp) (h : rTp T tp w) (hi : i ≤ T) (ha : w.1 271 3 = nI i) (hw : w.1 271 4 = -nI 1) : Wp (f_X12_items (nI 100) p2 m2 (nI fr) (nI 2) w) (fun w' => w'.1 271 3 = nI (itm T tp 2 3 0 (itus 2) i).2.1 ∧ w'.1 271 4 = (if (itm T tp 2 3 0 (itus 2) i).1 = 2 then nI (itm T tp 2 3 0 (itus 2) i).2.1 else -nI 1) ∧ ((itm T tp 2 3 0 (itus 2) i).1 = 1 → ∀ k, k < 2 → w'.1 p2 (fr + k) = nI ((itm T tp 2 3 0 (itus 2) i).2.2 k)) ∧ (∀ j, j < fr ∨ fr + 2 ≤ j → w'.1 p2 j = w.1 p2 j) ∧ r2 p2 w w') := by
  have hT1 := hT.1
  have hR3 : (itm T tp 2 3 0 (itus 2) i).1 ≠ 3 := itm_3 (by rw [pu_C_zero (fun u _ => Nat.zero_testBit u)]; decide)
  generalize hR : itm T tp 2 3 0 (itus 2) i = R at hR3 ⊢
  unfold f_X12_items f_X12_items_3
  refine Wp.for (fun k w => (nI k, w)) (fun k w' => (∀ j, j < k → w'.1 p2 (fr + j) = nI (itus 2 j)) ∧ (∀ j, j < fr ∨ fr + 2 ≤ j → w'.1 p2 j = w.1 p2 j) ∧ eqx [p2] w w') 2 (by decide) (w := w) rfl ⟨fun j hj => absurd hj (by omega), fun _ _ => rfl, eqx.rf⟩ (fun k w' hk hI => ?_) (fun w1 hI => ?_)
  · obtain ⟨i1, i2, i3⟩ := hI
    have hu := r_usual2 (w := w') hk
    refine Wp.ofr (a := (nI (k + 1), am_pi w' p2 (fr + k) (nI (itus 2 k)))) ?_ ⟨_, rfl, fun j hj => ?_, fun j hj => ?_, i3.on (eqx.pi (by simp))⟩
    · unfold f_X12_items_3b
      simp (disch := omega) only [pv_v, pv_b2, pv_b1, pv_x, pv_lit, pv_ofN, pu_chk, pu_cl, nI_add, pk_mul, nI_leI, nI_ltI, nI_eq, pu_nar0, pu_nar1, pu_narb, bI_0, bI_1, ↓reduceIte, pu_leT, pu_leF, pu_ltT, pu_ltF, pu_eqT, pu_eqF, pu_x1, pu_x2, pu_x3, pu_x4, pu_x5, pu_x6, pu_x7, pu_x8, Nat.zero_add, pu_m31I, pu_m31, pu_shlI, eq_self, Bool.false_eq_true, Bool.true_eq_false, hu]
    · rw [pi_ite]
      by_cases c : j = k
      · subst c; rw [if_pos rfl]
      · rw [if_neg (by omega)]; exact i1 j (by omega)
    · rw [pi_k (by omega)]; exact i2 j hj
  · obtain ⟨i1, i2, i3⟩ := hI
    have ha1 : w1.1 271 3 = nI i := i3.t ha (by simp; omega)
    have hw1 : w1.1 271 4 = -nI 1 := i3.t hw (by simp; omega)
    have x1 : r2 p2 w w1 := ⟨fun k _ _ => by rw [i3.r (by simp; omega)], i3.up (by simp)⟩
    have hT1' : rTp T tp w1 := x1.t (by omega) h
    have hn := nB_le (tp := tp) hi
    obtain ⟨⟨v, w2⟩, t1, t2, t3, t4, t5⟩ := r_next hT hT1' hi ha1
    have t2 : v = sI (sg T tp (nB T tp i)) := t2
    subst t2
    have t3 : w2.1 271 3 = nI (nB T tp i) := t3
    have t4 : w2.1 271 4 = -nI 1 := t4.trans hw1
    have t5 : r1 w1 w2 := t5
    have x2 : r2 p2 w w2 := x1.on (r2.of t5)
    have p2e : w2.1 p2 = w1.1 p2 := t5.2.r (by simp; omega)
    have hx := r_itemOf2 (w := w2) (sg_lt hT (i := nB T tp i))
    have hgo : Wp (f_X12_items_41 (nI 100) p2 m2 (nI fr) (nI 2) (nI 0) (oI (lx 2 (sg T tp (nB T tp i)))) w2) (fun w' => w'.1 271 3 = nI R.2.1 ∧ w'.1 271 4 = (if R.1 = 2 then nI R.2.1 else -nI 1) ∧ (R.1 = 1 → ∀ k, k < 2 → w'.1 p2 (fr + k) = nI (R.2.2 k)) ∧ (∀ j, j < fr ∨ fr + 2 ≤ j → w'.1 p2 j = w.1 p2 j) ∧ r2 p2 w w') := by
      unfold f_X12_items_41
      refine Wp.loop (fun c s => (∃ w' f had it i', s = (nI had, oI (lx 2 (sg T tp (nB T tp i'))), w') ∧ f + c = 3 ∧ itm T tp 2 f had it i' = R ∧ had < 2 ^ 2 ∧ w'.1 271 3 = nI (nB T tp i') ∧ w'.1 271 4 = -nI 1 ∧ i' ≤ T ∧ (∀ k, k < 2 → w'.1 p2 (fr + k) = nI (it k)) ∧ (∀ j, j < fr ∨ fr + 2 ≤ j → w'.1 p2 j = w.1 p2 j) ∧ r2 p2 w w') ∨ (∃ w' x, s = (x, -nI 1, w') ∧ c ≤ 3 ∧ R.1 = 2 ∧ R.2.1 ≤ T ∧ w'.1 271 3 = nI R.2.1 ∧ w'.1 271 4 = nI R.2.1 ∧ (∀ j, j < fr ∨ fr + 2 ≤ j → w'.1 p2 j = w.1 p2 j) ∧ r2 p2 w w')) 3 (by decide) (.inl ⟨w2, 3, 0, itus 2, i, rfl, rfl, hR, by decide, t3, t4, hi, fun k hk => by rw [p2e]; exact i1 k hk, fun j hj => by rw [p2e]; exact i2 j hj, x2⟩) ?_
      rintro c s hc (⟨w', f, had, it, i', rfl, hf, hit, hh, a1, a2, a3, a4, a5, a6⟩ | ⟨w', x, rfl, hcc, b1, b2, b3, b4, b5, b6⟩)
      · cases f with
        | zero => exact absurd (by rw [← hit]; rfl) hR3
        | succ f =>
          have hn' := nB_le (tp := tp) a3
          have hs := sg_lt hT (i := nB T tp i')
          unfold f_X12_items_41b f_X12_items_131 f_X12_items_126
          cases e : lx 2 (sg T tp (nB T tp i')) with
          | none =>
            refine Wp.ofl (a := w') (by rw [show oI none = -nI 1 from rfl]; simp (disch := omega) only [pv_v, pv_b2, pv_b1, pv_x, pv_lit, pv_ofN, pu_chk, pu_cl, nI_add, pk_mul, nI_leI, nI_ltI, nI_eq, pu_nar0, pu_nar1, pu_narb, bI_0, bI_1, ↓reduceIte, pu_leT, pu_leF, pu_ltT, pu_ltF, pu_eqT, pu_eqF, pu_x1, pu_x2, pu_x3, pu_x4, pu_x5, pu_x6, pu_x7, pu_x8, Nat.zero_add, pu_m31I, pu_m31, pu_shlI, eq_self, Bool.false_eq_true, Bool.true_eq_false, a2]) ?_
            by_cases ce : sg T tp (nB T tp i') = 0 ∨ sg T tp (nB T tp i') = 59
            · rw [itm_e ce] at hit
              subst hit
              exact ⟨a1, a2, fun _ => a4, a5, a6⟩
            · rw [itm_n ce e] at hit
              subst hit
              exact ⟨a1, a2, fun q => absurd q (by decide : ¬ (0 = 1)), a5, a6⟩
          | some k =>
            have hk : k < 2 := (lx_lt e).1
            have ce : ¬ (sg T tp (nB T tp i') = 0 ∨ sg T tp (nB T tp i') = 59) := by
              rintro (q | q) <;> rw [q] at e
              · rw [show lx 2 0 = none by decide] at e; cases e
              · rw [show lx 2 59 = none by decide] at e; cases e
            have hlt : nB T tp i' < T := by
              rcases Nat.lt_or_ge (nB T tp i') T with q | q
              · exact q
              · exact absurd (.inl ((sg_0 hT).mpr q)) ce
            have hb := r_has (w := w') (a := had) (k := k) (by omega) (by omega)
            rw [show oI (some k) = nI k from rfl]
            cases eh : had.testBit k with
            | true =>
              rw [itm_h ce e eh] at hit
              subst hit
              rw [eh] at hb
              refine Wp.ofl (a := w') (by simp (disch := omega) only [pv_v, pv_b2, pv_b1, pv_x, pv_lit, pv_ofN, pu_chk, pu_cl, nI_add, pk_mul, nI_leI, nI_ltI, nI_eq, pu_nar0, pu_nar1, pu_narb, bI_0, bI_1, ↓reduceIte, pu_leT, pu_leF, pu_ltT, pu_ltF, pu_eqT, pu_eqF, pu_x1, pu_x2, pu_x3, pu_x4, pu_x5, pu_x6, pu_x7, pu_x8, Nat.zero_add, pu_m31I, pu_m31, pu_shlI, eq_self, Bool.false_eq_true, Bool.true_eq_false, a2, hb]) ?_
              exact ⟨a1, a2, fun q => absurd q (by decide : ¬ (0 = 1)), a5, a6⟩
            | false =>
              rw [eh] at hb
              have y3 : r2 p2 w (am_pi w' 271 3 (nI (nB T tp i' + 1))) := a6.on (r2.of (r1.pi (by omega)))
              have hT3 : rTp T tp (am_pi w' 271 3 (nI (nB T tp i' + 1))) := y3.t (by omega) h
              have hlo := r_lowest2 (w := am_pi w' 271 3 (nI (nB T tp i' + 1))) hk
              have hhi := r_highest2 (w := am_pi w' 271 3 (nI (nB T tp i' + 1))) hk
              obtain ⟨⟨v, w4⟩, u1, u2, u3, u4, u5⟩ := r_number hT hT3 (i := nB T tp i' + 1) hlt pi_same (by rw [pi_k (by omega)]; exact a2) (bnd2 k hk).1 (bnd2 k hk).2
              have u2 : v = nI (nM T tp (itlo 2 k) (ithi 2 k) (nB T tp i' + 1)).2.2 := u2
              subst u2
              have u3 : w4.1 271 3 = nI (nM T tp (itlo 2 k) (ithi 2 k) (nB T tp i' + 1)).2.1 := u3
              have u4 : w4.1 271 4 = (if (nM T tp (itlo 2 k) (ithi 2 k) (nB T tp i' + 1)).1 then -nI 1 else nI (nM T tp (itlo 2 k) (ithi 2 k) (nB T tp i' + 1)).2.1) := u4
              have u5 : r1 (am_pi w' 271 3 (nI (nB T tp i' + 1))) w4 := u5
              have y4 : r2 p2 w w4 := y3.on (r2.of u5)
              have p4 : w4.1 p2 = w'.1 p2 := by rw [u5.2.r (by simp; omega), pi_p (by omega)]
              have hnl : (nM T tp (itlo 2 k) (ithi 2 k) (nB T tp i' + 1)).2.1 ≤ T := nM_le hlt
              have y5 : r2 p2 w (am_pi w4 p2 (fr + k) (nI (nM T tp (itlo 2 k) (ithi 2 k) (nB T tp i' + 1)).2.2)) := y4.on (r2.pi (by omega))
              have p5 : ∀ j, j < fr ∨ fr + 2 ≤ j → (am_pi w4 p2 (fr + k) (nI (nM T tp (itlo 2 k) (ithi 2 k) (nB T tp i' + 1)).2.2)).1 p2 j = w.1 p2 j := fun j hj => by rw [pi_k (by omega), p4]; exact a5 j hj
              have z3 : (am_pi w4 p2 (fr + k) (nI (nM T tp (itlo 2 k) (ithi 2 k) (nB T tp i' + 1)).2.2)).1 271 3 = nI (nM T tp (itlo 2 k) (ithi 2 k) (nB T tp i' + 1)).2.1 := by rw [pi_p (by omega)]; exact u3
              have z4 : (am_pi w4 p2 (fr + k) (nI (nM T tp (itlo 2 k) (ithi 2 k) (nB T tp i' + 1)).2.2)).1 271 4 = (if (nM T tp (itlo 2 k) (ithi 2 k) (nB T tp i' + 1)).1 then -nI 1 else nI (nM T tp (itlo 2 k) (ithi 2 k) (nB T tp i' + 1)).2.1) := by rw [pi_p (by omega)]; exact u4
              cases en : (nM T tp (itlo 2 k) (ithi 2 k) (nB T tp i' + 1)).1 with
              | false =>
                rw [itm_f ce e eh en] at hit
                rw [en, if_neg (by decide)] at z4
                refine Wp.ofr (a := (nI (had ||| 2 ^ k), -nI 1, am_pi w4 p2 (fr + k) (nI (nM T tp (itlo 2 k) (ithi 2 k) (nB T tp i' + 1)).2.2))) (by simp (disch := omega) only [pv_v, pv_b2, pv_b1, pv_x, pv_lit, pv_ofN, pu_chk, pu_cl, nI_add, pk_mul, nI_leI, nI_ltI, nI_eq, pu_nar0, pu_nar1, pu_narb, bI_0, bI_1, ↓reduceIte, pu_leT, pu_leF, pu_ltT, pu_ltF, pu_eqT, pu_eqF, pu_x1, pu_x2, pu_x3, pu_x4, pu_x5, pu_x6, pu_x7, pu_x8, Nat.zero_add, pu_m31I, pu_m31, pu_shlI, eq_self, Bool.false_eq_true, Bool.true_eq_false, a1, a2, hb, hlo, hhi, u1, pu_or, z4]) ⟨by omega, .inr ⟨_, _, rfl, by omega, ?_, ?_, ?_, ?_, p5, y5⟩⟩
                · rw [← hit]
                · rw [← hit]; exact hnl
                · rw [← hit]; exact z3
                · rw [← hit]; exact z4
              | true =>
                rw [itm_g ce e eh en] at hit
                rw [en, if_pos rfl] at z4
                obtain ⟨⟨v, w6⟩, s1, s2, s3, s4, s5⟩ := r_next hT (y5.t (by omega) h) hnl z3
                have s2 : v = sI (sg T tp (nB T tp (nM T tp (itlo 2 k) (ithi 2 k) (nB T tp i' + 1)).2.1)) := s2
                subst s2
                have s3 : w6.1 271 3 = nI (nB T tp (nM T tp (itlo 2 k) (ithi 2 k) (nB T tp i' + 1)).2.1) := s3
                have s4 : w6.1 271 4 = -nI 1 := s4.trans z4
                have s5 : r1 (am_pi w4 p2 (fr + k) (nI (nM T tp (itlo 2 k) (ithi 2 k) (nB T tp i' + 1)).2.2)) w6 := s5
                have hx6 := r_itemOf2 (w := w6) (sg_lt hT (i := nB T tp (nM T tp (itlo 2 k) (ithi 2 k) (nB T tp i' + 1)).2.1))
                have p6 : w6.1 p2 = (am_pi w4 p2 (fr + k) (nI (nM T tp (itlo 2 k) (ithi 2 k) (nB T tp i' + 1)).2.2)).1 p2 := s5.2.r (by simp; omega)
                refine Wp.ofr (a := (nI (had ||| 2 ^ k), oI (lx 2 (sg T tp (nB T tp (nM T tp (itlo 2 k) (ithi 2 k) (nB T tp i' + 1)).2.1))), w6)) (by simp (disch := omega) only [pv_v, pv_b2, pv_b1, pv_x, pv_lit, pv_ofN, pu_chk, pu_cl, nI_add, pk_mul, nI_leI, nI_ltI, nI_eq, pu_nar0, pu_nar1, pu_narb, bI_0, bI_1, ↓reduceIte, pu_leT, pu_leF, pu_ltT, pu_ltF, pu_eqT, pu_eqF, pu_x1, pu_x2, pu_x3, pu_x4, pu_x5, pu_x6, pu_x7, pu_x8, Nat.zero_add, pu_m31I, pu_m31, pu_shlI, eq_self, Bool.false_eq_true, Bool.true_eq_false, a1, a2, hb, hlo, hhi, u1, pu_or, z4, s1, hx6]) ⟨by omega, .inl ⟨w6, f, had ||| 2 ^ k, _, _, rfl, by omega, hit, Nat.or_lt_two_pow hh (pu_p2 hk), s3, s4, hnl, fun j hj => ?_, fun j hj => by rw [p6]; exact p5 j hj, y5.on (r2.of s5)⟩⟩
                rw [p6, pi_ite]
                unfold upn
                by_cases q : j = k
                · rw [if_pos q, if_pos (by omega)]
                · rw [if_neg q, if_neg (by omega), p4]; exact a4 j hj
      · unfold f_X12_items_41b f_X12_items_131
        refine Wp.ofl (a := w') (by simp (disch := omega) only [pv_v, pv_b2, pv_b1, pv_x, pv_lit, pv_ofN, pu_chk, pu_cl, nI_add, pk_mul, nI_leI, nI_ltI, nI_eq, pu_nar0, pu_nar1, pu_narb, bI_0, bI_1, ↓reduceIte, pu_leT, pu_leF, pu_ltT, pu_ltF, pu_eqT, pu_eqF, pu_x1, pu_x2, pu_x3, pu_x4, pu_x5, pu_x6, pu_x7, pu_x8, Nat.zero_add, pu_m31I, pu_m31, pu_shlI, eq_self, Bool.false_eq_true, Bool.true_eq_false, b4]) ⟨b3, by rw [if_pos b1]; exact b4, fun q => absurd q (by omega), b5, b6⟩
    unfold f_X12_items_3b
    conv => arg 1; simp (disch := omega) only [pv_v, pv_b2, pv_b1, pv_x, pv_lit, pv_ofN, pu_chk, pu_cl, nI_add, pk_mul, nI_leI, nI_ltI, nI_eq, pu_nar0, pu_nar1, pu_narb, bI_0, bI_1, ↓reduceIte, pu_leT, pu_leF, pu_ltT, pu_ltF, pu_eqT, pu_eqF, pu_x1, pu_x2, pu_x3, pu_x4, pu_x5, pu_x6, pu_x7, pu_x8, Nat.zero_add, pu_m31I, pu_m31, pu_shlI, eq_self, Bool.false_eq_true, Bool.true_eq_false, t1, hx]
    exact Wp.x hgo
end RITEMS
