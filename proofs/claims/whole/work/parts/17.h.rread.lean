/-! pure part: a FIELD is read, the reference (wip/whole/pure/17.h.rread.src) -/
def rPt (p : Pt) (w : am_S) : Prop := w.1 271 8 = nI p.2.2.1 ∧ w.1 271 9 = nI p.2.2.2.2.1 ∧ (∀ k, k < 4 → w.1 273 k = nI (p.2.1 k)) ∧ (∀ u, u < p.2.2.1 → ∀ k, k < 5 → w.1 274 (5 * u + k) = nI (p.2.2.2.1 u k)) ∧ (∀ d, d < p.2.2.2.2.1 → ∀ k, k < 2 → w.1 275 (2 * d + k) = nI (p.2.2.2.2.2 d k))
section RREAD
variable {T : Nat} {tp : Nat → Nat} {w w' : am_S} {i j o : Nat} {p : Pt}
/-- what reading a FIELD changes -/
def r3 (w w' : am_S) : Prop := (∀ k, k ≠ 3 → k ≠ 4 → k ≠ 8 → k ≠ 9 → w'.1 271 k = w.1 271 k) ∧ eqx [271, 273, 274, 275] w w'
theorem r3.on {w'' : am_S} (h : r3 w w') (h2 : r3 w' w'') : r3 w w'' := ⟨fun k h3 h4 h8 h9 => (h2.1 k h3 h4 h8 h9).trans (h.1 k h3 h4 h8 h9), h.2.on h2.2⟩
theorem r1.r3 (h : r1 w w') : r3 w w' := ⟨fun k h3 h4 _ _ => h.1 k h3 h4, h.2.up (by simp)⟩
theorem r2.r3 {q : Nat} (hq : q = 273 ∨ q = 274 ∨ q = 275) (h : r2 q w w') : r3 w w' := ⟨fun k h3 h4 _ _ => h.1 k h3 h4, h.2.up (fun x hx => by
  simp only [List.mem_cons, List.not_mem_nil, or_false] at hx ⊢
  omega)⟩
theorem r3.pi {k : Nat} {v : Int32} (h : k = 3 ∨ k = 4 ∨ k = 8 ∨ k = 9) : r3 w (am_pi w 271 k v) := ⟨fun j h3 h4 h8 h9 => pi_k (by omega), eqx.pi (by simp)⟩
theorem r3.t (h : r3 w w') (ht : rTp T tp w) : rTp T tp w' := ht.fr (h.1 2 (by omega) (by omega) (by omega) (by omega)) (h.2.r (by decide))
theorem rPt.r1 (h : rPt p w) (hx : r1 w w') : rPt p w' := by
  unfold rPt
  rw [hx.1 8 (by omega) (by omega), hx.1 9 (by omega) (by omega), hx.2.r (q := 273) (by decide), hx.2.r (q := 274) (by decide), hx.2.r (q := 275) (by decide)]; exact h
theorem nM_ge {lo hi : Nat} (hi' : i ≤ T) (h : (nM T tp lo hi i).1 = true) : i ≤ (nM T tp lo hi i).2.1 := by
  have h1 := nB_le (tp := tp) hi'
  have h2 := ng_le (T := T) (tp := tp) (f := 4) (v := 0) h1.2
  unfold nM nMr at h ⊢
  split at h
  · next c =>
    rw [if_pos c]
    split at h
    · cases h
    · next c2 =>
      rw [if_neg c2]
      split at h
      · next c3 => rw [if_pos c3]; show i ≤ (ng T tp 4 0 (nB T tp i)).2; omega
      · cases h
  · cases h
theorem itm_ge {t : Nat} (hT : tW T tp) : ∀ {f had i : Nat} {it : Nat → Nat}, i ≤ T → (itm T tp t f had it i).1 = 1 → i ≤ (itm T tp t f had it i).2.1 := by
  intro f
  induction f with
  | zero => intro had i it h q; cases q
  | succ f ih =>
    intro had i it h q
    have h1 := nB_le (tp := tp) h
    by_cases c : sg T tp (nB T tp i) = 0 ∨ sg T tp (nB T tp i) = 59
    · rw [itm_e c]; exact h1.1
    · have hlt : nB T tp i < T := by
        rcases Nat.lt_or_ge (nB T tp i) T with q | q
        · exact q
        · exact absurd (Or.inl ((sg_0 hT).mpr q)) c
      cases e : lx t (sg T tp (nB T tp i)) with
      | none => rw [itm_n c e] at q; cases q
      | some k =>
        cases eh : had.testBit k with
        | true => rw [itm_h c e eh] at q; cases q
        | false =>
          cases en : (nM T tp (itlo t k) (ithi t k) (nB T tp i + 1)).1 with
          | false => rw [itm_f c e eh en] at q; cases q
          | true =>
            rw [itm_g c e eh en] at q ⊢
            have h8 : nB T tp i + 1 ≤ T := hlt
            have h9 := nM_ge h8 en
            have h10 := ih (nM_le h8) q
            omega
theorem r_214_bad {x1 : Int32} {e : Nat} (he : e < 2 ^ 31) (hw : w.1 271 4 = nI e) (ha : w.1 271 3 = nI i) : f_X12_readField_214 x1 w = some (.inr (x1, nI 0, am_pi w 271 3 (nI i))) := by
  unfold f_X12_readField_214 f_X12_readField_235 f_X12_readField_236 f_X12_readField_251
  simp (disch := omega) only [pv_v, pv_b2, pv_b1, pv_x, pv_lit, pv_ofN, pu_chk, pu_cl, nI_add, pk_mul, nI_leI, nI_ltI, nI_eq, pu_nar0, pu_nar1, pu_narb, bI_0, bI_1, ↓reduceIte, pu_leT, pu_leF, pu_ltT, pu_ltF, pu_eqT, pu_eqF, pu_x1, pu_x2, pu_x3, pu_x4, pu_x5, pu_x6, pu_x7, pu_x8, Nat.zero_add, pu_m31I, pu_m31, pu_shlI, eq_self, Bool.false_eq_true, Bool.true_eq_false, hw, ha, Nat.add_zero]
theorem r_214 {x1 : Int32} {e : Nat} (hT : tW T tp) (h : rTp T tp w) (he : e ≤ T) (hw : w.1 271 4 = -nI 1) (ha : w.1 271 3 = nI e) (hn : nB T tp e = e) : ∃ w', f_X12_readField_214 x1 w = some (.inr (x1, bI (decide (sg T tp e = 59)), w')) ∧ w'.1 271 3 = nI (if sg T tp e = 59 then e + 1 else e) ∧ w'.1 271 4 = -nI 1 ∧ r1 w w' := by
  have hT1 := hT.1
  obtain ⟨⟨v, w1⟩, t1, t2, t3, t4, t5⟩ := r_next hT h he ha
  rw [hn] at t2 t3
  have t2 : v = sI (sg T tp e) := t2
  subst t2
  have t3 : w1.1 271 3 = nI e := t3
  have t5 : r1 w w1 := t5
  have hs := sg_lt hT (i := e)
  have es : (sI (sg T tp e) = nI 59) = (sg T tp e = 59) := sI_eq (by omega) (by omega) (by omega)
  unfold f_X12_readField_214 f_X12_readField_235 f_X12_readField_236 f_X12_readField_251
  by_cases c : sg T tp e = 59
  · rw [if_pos c, decide_eq_true c]
    have es : (sI (sg T tp e) = nI 59) = True := es.trans (eq_true c)
    refine ⟨am_pi w1 271 3 (nI (e + 1)), ?_, pi_same, by rw [pi_k (by omega)]; exact t4.trans hw, t5.on (r1.pi (by omega))⟩
    simp (disch := omega) only [pv_v, pv_b2, pv_b1, pv_x, pv_lit, pv_ofN, pu_chk, pu_cl, nI_add, pk_mul, nI_leI, nI_ltI, nI_eq, pu_nar0, pu_nar1, pu_narb, bI_0, bI_1, ↓reduceIte, pu_leT, pu_leF, pu_ltT, pu_ltF, pu_eqT, pu_eqF, pu_x1, pu_x2, pu_x3, pu_x4, pu_x5, pu_x6, pu_x7, pu_x8, Nat.zero_add, pu_m31I, pu_m31, pu_shlI, eq_self, Bool.false_eq_true, Bool.true_eq_false, hw, t1, es, t3]
    rfl
  · rw [if_neg c, decide_eq_false c]
    have es : (sI (sg T tp e) = nI 59) = False := es.trans (eq_false c)
    refine ⟨am_pi w1 271 3 (nI e), ?_, pi_same, by rw [pi_k (by omega)]; exact t4.trans hw, t5.on (r1.pi (by omega))⟩
    simp (disch := omega) only [pv_v, pv_b2, pv_b1, pv_x, pv_lit, pv_ofN, pu_chk, pu_cl, nI_add, pk_mul, nI_leI, nI_ltI, nI_eq, pu_nar0, pu_nar1, pu_narb, bI_0, bI_1, ↓reduceIte, pu_leT, pu_leF, pu_ltT, pu_ltF, pu_eqT, pu_eqF, pu_x1, pu_x2, pu_x3, pu_x4, pu_x5, pu_x6, pu_x7, pu_x8, Nat.zero_add, pu_m31I, pu_m31, pu_shlI, eq_self, Bool.false_eq_true, Bool.true_eq_false, hw, t1, es, t3, Nat.add_zero]
    rfl
theorem r_isWhole (hp : pW p) (hC : rPt p w) : Wp (f_X12_isWhole w) (fun q => q.2 = w ∧ (whP p → q.1 = nI 1) ∧ (¬ whP p → q.1 = nI 0)) := by
  obtain ⟨g8, g9, g3, g4, g5⟩ := hC
  obtain ⟨p1, p2, p3, p4, p5⟩ := hp
  have hS : p.2.1 0 ≤ 12 := (p3 0 (by omega)).2
  have hF : p.2.1 1 ≤ 4 := (p3 1 (by omega)).2
  have f0 := g3 0 (by omega)
  have f1 := g3 1 (by omega)
  have hpow : 2 ^ p.2.1 0 ≤ 4096 := Nat.pow_le_pow_right (n := 2) (by decide) hS
  have hgo : ∀ b : Bool, (b = false → ¬ whP p) → (b = true → 0 < p.2.2.1) → Wp (f_X12_isWhole_15 (bI b) (nI 0) w) (fun q => q.2 = w ∧ (whP p → q.1 = nI 1) ∧ (¬ whP p → q.1 = nI 0)) := by
    intro b0 hb0 hb1
    unfold f_X12_isWhole_15
    refine Wp.loop (fun u s => ∃ b : Bool, s = (bI b, nI u, w) ∧ u ≤ p.2.2.1 ∧ (b = false → ¬ whP p) ∧ (b = true → 0 < p.2.2.1 ∧ ∀ v, v < u → uok p v = true)) p.2.2.1 (by omega) ⟨b0, rfl, Nat.zero_le _, hb0, fun q => ⟨hb1 q, fun v hv => absurd hv (by omega)⟩⟩ ?_
    rintro u s hu ⟨b, rfl, hu2, i1, i2⟩
    unfold f_X12_isWhole_15b f_X12_isWhole_116 f_X12_isWhole_101 f_X12_isWhole_108 f_X12_isWhole_109
    cases b with
    | false =>
      have hx : Wp (some (Sum.inl (nI 0, w) : (Int32 × am_S) ⊕ (Int32 × Int32 × am_S))) (Sum.elim (fun q => q.2 = w ∧ (whP p → q.1 = nI 1) ∧ (¬ whP p → q.1 = nI 0)) (fun s' => u < p.2.2.1 ∧ ∃ b : Bool, s' = (bI b, nI (u + 1), w) ∧ u + 1 ≤ p.2.2.1 ∧ (b = false → ¬ whP p) ∧ (b = true → 0 < p.2.2.1 ∧ ∀ v, v < u + 1 → uok p v = true))) := Wp.some ⟨rfl, fun q => absurd q (i1 rfl), fun _ => rfl⟩
      rw [bI_f]
      rcases Nat.lt_or_ge u p.2.2.1 with c | c
      · conv => arg 1; simp (disch := omega) only [pv_v, pv_b2, pv_b1, pv_x, pv_lit, pv_ofN, pu_chk, pu_cl, nI_add, pk_mul, nI_leI, nI_ltI, nI_eq, pu_nar0, pu_nar1, pu_narb, bI_0, bI_1, ↓reduceIte, pu_leT, pu_leF, pu_ltT, pu_ltF, pu_eqT, pu_eqF, pu_x1, pu_x2, pu_x3, pu_x4, pu_x5, pu_x6, pu_x7, pu_x8, Nat.zero_add, pu_m31I, pu_m31, pu_shlI, eq_self, Bool.false_eq_true, Bool.true_eq_false, g8]
        exact hx
      · conv => arg 1; simp (disch := omega) only [pv_v, pv_b2, pv_b1, pv_x, pv_lit, pv_ofN, pu_chk, pu_cl, nI_add, pk_mul, nI_leI, nI_ltI, nI_eq, pu_nar0, pu_nar1, pu_narb, bI_0, bI_1, ↓reduceIte, pu_leT, pu_leF, pu_ltT, pu_ltF, pu_eqT, pu_eqF, pu_x1, pu_x2, pu_x3, pu_x4, pu_x5, pu_x6, pu_x7, pu_x8, Nat.zero_add, pu_m31I, pu_m31, pu_shlI, eq_self, Bool.false_eq_true, Bool.true_eq_false, g8]
        exact hx
    | true =>
      obtain ⟨i3, i4⟩ := i2 rfl
      rw [bI_t]
      rcases Nat.lt_or_ge u p.2.2.1 with c | c
      · have e2 := g4 u c 2 (by omega)
        have e3 := g4 u c 3 (by omega)
        have e4 := g4 u c 4 (by omega)
        have b2 : p.2.2.2.1 u 2 ≤ 3 := (p4 u c 2 (by omega)).2
        have b3 : p.2.2.2.1 u 3 ≤ 4095 := (p4 u c 3 (by omega)).2
        have b4 : p.2.2.2.1 u 4 ≤ 4095 := (p4 u c 4 (by omega)).2
        have bad : uok p u = false → Wp (some (Sum.inr (nI 0, nI (u + 1), w) : (Int32 × am_S) ⊕ (Int32 × Int32 × am_S))) (Sum.elim (fun q => q.2 = w ∧ (whP p → q.1 = nI 1) ∧ (¬ whP p → q.1 = nI 0)) (fun s' => u < p.2.2.1 ∧ ∃ b : Bool, s' = (bI b, nI (u + 1), w) ∧ u + 1 ≤ p.2.2.1 ∧ (b = false → ¬ whP p) ∧ (b = true → 0 < p.2.2.1 ∧ ∀ v, v < u + 1 → uok p v = true))) := fun hb => Wp.some ⟨c, false, rfl, c, fun _ q => absurd (q.2 u c) (by rw [hb]; decide), fun q => by cases q⟩
        have good : uok p u = true → Wp (some (Sum.inr (nI 1, nI (u + 1), w) : (Int32 × am_S) ⊕ (Int32 × Int32 × am_S))) (Sum.elim (fun q => q.2 = w ∧ (whP p → q.1 = nI 1) ∧ (¬ whP p → q.1 = nI 0)) (fun s' => u < p.2.2.1 ∧ ∃ b : Bool, s' = (bI b, nI (u + 1), w) ∧ u + 1 ≤ p.2.2.1 ∧ (b = false → ¬ whP p) ∧ (b = true → 0 < p.2.2.1 ∧ ∀ v, v < u + 1 → uok p v = true))) := fun hb => Wp.some ⟨c, true, rfl, c, (fun q => by cases q), fun _ => ⟨i3, fun v hv => by
          by_cases q : v = u
          · rw [q]; exact hb
          · exact i4 v (by omega)⟩⟩
        by_cases c1 : p.2.2.2.1 u 2 < p.2.1 1
        · by_cases c3 : p.2.2.2.1 u 3 < 2 ^ p.2.1 0
          · by_cases c2 : p.2.2.2.1 u 2 + 1 < p.2.1 1
            · by_cases c4 : p.2.2.2.1 u 4 < 2 ^ p.2.1 0
              · have hb : uok p u = true := by unfold uok; rw [if_pos c2, decide_eq_true c1, decide_eq_true c3, decide_eq_true c4]; rfl
                conv => arg 1; simp (disch := omega) only [pv_v, pv_b2, pv_b1, pv_x, pv_lit, pv_ofN, pu_chk, pu_cl, nI_add, pk_mul, nI_leI, nI_ltI, nI_eq, pu_nar0, pu_nar1, pu_narb, bI_0, bI_1, ↓reduceIte, pu_leT, pu_leF, pu_ltT, pu_ltF, pu_eqT, pu_eqF, pu_x1, pu_x2, pu_x3, pu_x4, pu_x5, pu_x6, pu_x7, pu_x8, Nat.zero_add, pu_m31I, pu_m31, pu_shlI, eq_self, Bool.false_eq_true, Bool.true_eq_false, g8, e2, e3, e4, f0, f1]
                exact good hb
              · have hb : uok p u = false := by unfold uok; rw [if_pos c2, decide_eq_false c4, Bool.and_false, Bool.and_false]
                conv => arg 1; simp (disch := omega) only [pv_v, pv_b2, pv_b1, pv_x, pv_lit, pv_ofN, pu_chk, pu_cl, nI_add, pk_mul, nI_leI, nI_ltI, nI_eq, pu_nar0, pu_nar1, pu_narb, bI_0, bI_1, ↓reduceIte, pu_leT, pu_leF, pu_ltT, pu_ltF, pu_eqT, pu_eqF, pu_x1, pu_x2, pu_x3, pu_x4, pu_x5, pu_x6, pu_x7, pu_x8, Nat.zero_add, pu_m31I, pu_m31, pu_shlI, eq_self, Bool.false_eq_true, Bool.true_eq_false, g8, e2, e3, e4, f0, f1]
                exact bad hb
            · by_cases c4 : p.2.2.2.1 u 4 < 1
              · have hb : uok p u = true := by unfold uok; rw [if_neg c2, decide_eq_true c1, decide_eq_true c3, decide_eq_true c4]; rfl
                conv => arg 1; simp (disch := omega) only [pv_v, pv_b2, pv_b1, pv_x, pv_lit, pv_ofN, pu_chk, pu_cl, nI_add, pk_mul, nI_leI, nI_ltI, nI_eq, pu_nar0, pu_nar1, pu_narb, bI_0, bI_1, ↓reduceIte, pu_leT, pu_leF, pu_ltT, pu_ltF, pu_eqT, pu_eqF, pu_x1, pu_x2, pu_x3, pu_x4, pu_x5, pu_x6, pu_x7, pu_x8, Nat.zero_add, pu_m31I, pu_m31, pu_shlI, eq_self, Bool.false_eq_true, Bool.true_eq_false, g8, e2, e3, e4, f0, f1]
                exact good hb
              · have hb : uok p u = false := by unfold uok; rw [if_neg c2, decide_eq_false c4, Bool.and_false, Bool.and_false]
                conv => arg 1; simp (disch := omega) only [pv_v, pv_b2, pv_b1, pv_x, pv_lit, pv_ofN, pu_chk, pu_cl, nI_add, pk_mul, nI_leI, nI_ltI, nI_eq, pu_nar0, pu_nar1, pu_narb, bI_0, bI_1, ↓reduceIte, pu_leT, pu_leF, pu_ltT, pu_ltF, pu_eqT, pu_eqF, pu_x1, pu_x2, pu_x3, pu_x4, pu_x5, pu_x6, pu_x7, pu_x8, Nat.zero_add, pu_m31I, pu_m31, pu_shlI, eq_self, Bool.false_eq_true, Bool.true_eq_false, g8, e2, e3, e4, f0, f1]
                exact bad hb
          · have hb : uok p u = false := by unfold uok; rw [decide_eq_false c3, Bool.false_and, Bool.and_false]
            conv => arg 1; simp (disch := omega) only [pv_v, pv_b2, pv_b1, pv_x, pv_lit, pv_ofN, pu_chk, pu_cl, nI_add, pk_mul, nI_leI, nI_ltI, nI_eq, pu_nar0, pu_nar1, pu_narb, bI_0, bI_1, ↓reduceIte, pu_leT, pu_leF, pu_ltT, pu_ltF, pu_eqT, pu_eqF, pu_x1, pu_x2, pu_x3, pu_x4, pu_x5, pu_x6, pu_x7, pu_x8, Nat.zero_add, pu_m31I, pu_m31, pu_shlI, eq_self, Bool.false_eq_true, Bool.true_eq_false, g8, e2, e3, f0, f1]
            exact bad hb
        · have hb : uok p u = false := by unfold uok; rw [decide_eq_false c1, Bool.false_and]
          conv => arg 1; simp (disch := omega) only [pv_v, pv_b2, pv_b1, pv_x, pv_lit, pv_ofN, pu_chk, pu_cl, nI_add, pk_mul, nI_leI, nI_ltI, nI_eq, pu_nar0, pu_nar1, pu_narb, bI_0, bI_1, ↓reduceIte, pu_leT, pu_leF, pu_ltT, pu_ltF, pu_eqT, pu_eqF, pu_x1, pu_x2, pu_x3, pu_x4, pu_x5, pu_x6, pu_x7, pu_x8, Nat.zero_add, pu_m31I, pu_m31, pu_shlI, eq_self, Bool.false_eq_true, Bool.true_eq_false, g8, e2, f0, f1]
          exact bad hb
      · have : u = p.2.2.1 := by omega
        refine Wp.ofl (a := (nI 1, w)) (by simp (disch := omega) only [pv_v, pv_b2, pv_b1, pv_x, pv_lit, pv_ofN, pu_chk, pu_cl, nI_add, pk_mul, nI_leI, nI_ltI, nI_eq, pu_nar0, pu_nar1, pu_narb, bI_0, bI_1, ↓reduceIte, pu_leT, pu_leF, pu_ltT, pu_ltF, pu_eqT, pu_eqF, pu_x1, pu_x2, pu_x3, pu_x4, pu_x5, pu_x6, pu_x7, pu_x8, Nat.zero_add, pu_m31I, pu_m31, pu_shlI, eq_self, Bool.false_eq_true, Bool.true_eq_false, g8]) ⟨rfl, fun _ => rfl, fun q => absurd ⟨i3, fun v hv => i4 v (by omega)⟩ q⟩
  unfold f_X12_isWhole f_X12_isWhole_12
  by_cases c : 0 < p.2.2.1
  · have := hgo true (fun q => by cases q) (fun _ => c)
    conv => arg 1; simp (disch := omega) only [pv_v, pv_b2, pv_b1, pv_x, pv_lit, pv_ofN, pu_chk, pu_cl, nI_add, pk_mul, nI_leI, nI_ltI, nI_eq, pu_nar0, pu_nar1, pu_narb, bI_0, bI_1, ↓reduceIte, pu_leT, pu_leF, pu_ltT, pu_ltF, pu_eqT, pu_eqF, pu_x1, pu_x2, pu_x3, pu_x4, pu_x5, pu_x6, pu_x7, pu_x8, Nat.zero_add, pu_m31I, pu_m31, pu_shlI, eq_self, Bool.false_eq_true, Bool.true_eq_false, g8]
    exact this
  · have c0 : p.2.2.1 = 0 := by omega
    have := hgo false (fun _ q => c q.1) (fun q => by cases q)
    rw [c0] at g8
    conv => arg 1; simp (disch := omega) only [pv_v, pv_b2, pv_b1, pv_x, pv_lit, pv_ofN, pu_chk, pu_cl, nI_add, pk_mul, nI_leI, nI_ltI, nI_eq, pu_nar0, pu_nar1, pu_narb, bI_0, bI_1, ↓reduceIte, pu_leT, pu_leF, pu_ltT, pu_ltF, pu_eqT, pu_eqF, pu_x1, pu_x2, pu_x3, pu_x4, pu_x5, pu_x6, pu_x7, pu_x8, Nat.zero_add, pu_m31I, pu_m31, pu_shlI, eq_self, Bool.false_eq_true, Bool.true_eq_false, g8]
    exact this
end RREAD
