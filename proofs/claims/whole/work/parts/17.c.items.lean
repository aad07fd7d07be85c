/-! pure part: ITEMS of a CLAUSE, the class (wip/whole/pure/17.c.items.src, by mk17c.py) -/
theorem Wp.ofl {α σ : Type} {x : Option (α ⊕ σ)} {a : α} {Q : α → Prop} {R : σ → Prop} (e : x = Option.some (.inl a)) (h : Q a) : Wp x (Sum.elim Q R) := ⟨_, e, h⟩
theorem Wp.ofr {α σ : Type} {x : Option (α ⊕ σ)} {a : σ} {Q : α → Prop} {R : σ → Prop} (e : x = Option.some (.inr a)) (h : R a) : Wp x (Sum.elim Q R) := ⟨_, e, h⟩
def lt (t j : Nat) : Nat := (([[110, 102, 99, 122], [112, 103, 116, 97, 98], [107, 113], [112, 114, 116, 102, 120, 99]] : List (List Nat)).getD t []).getD j 0
def ln (t : Nat) : Nat := ([4, 5, 2, 6] : List Nat).getD t 0
def lxf (t c : Nat) : Nat → Nat → Option Nat
  | 0, _ => none
  | f + 1, j => if lt t j = c then some j else lxf t c f (j + 1)
/-- which letter -/
def lx (t c : Nat) : Option Nat := lxf t c (ln t) 0
def itlo (t k : Nat) : Nat := (([[2, 1, 0, 0], [1, 1, 0, 0, 0], [1, 1]] : List (List Nat)).getD t []).getD k 0
def ithi (t k : Nat) : Nat := (([[12, 4, 99, 99], [99, 9, 3, 4095, 4095], [6, 99]] : List (List Nat)).getD t []).getD k 0
def itus (t k : Nat) : Nat := (([[8, 1, 0, 0], [10, 1, 0, 0, 0], [1, 1]] : List (List Nat)).getD t []).getD k 0
def upn (f : Nat → Nat) (k v : Nat) : Nat → Nat := fun j => if j = k then v else f j
/-- ITEMS: 1 they are good, 0 a sign is wrong, 2 a number is wrong; where; which -/
def itm (T : Nat) (tp : Nat → Nat) (t : Nat) : Nat → Nat → (Nat → Nat) → Nat → Nat × Nat × (Nat → Nat)
  | 0, _, it, i => (3, i, it)
  | f + 1, had, it, i =>
    if sg T tp (nB T tp i) = 0 ∨ sg T tp (nB T tp i) = 59 then (1, nB T tp i, it)
    else match lx t (sg T tp (nB T tp i)) with
      | none => (0, nB T tp i, it)
      | some k => if had.testBit k then (0, nB T tp i, it)
        else if (nM T tp (itlo t k) (ithi t k) (nB T tp i + 1)).1 then itm T tp t f (had ||| 2 ^ k) (upn it k (nM T tp (itlo t k) (ithi t k) (nB T tp i + 1)).2.2) (nM T tp (itlo t k) (ithi t k) (nB T tp i + 1)).2.1
        else (2, (nM T tp (itlo t k) (ithi t k) (nB T tp i + 1)).2.1, it)
theorem lxf_lt {t c : Nat} : ∀ {f j k : Nat}, lxf t c f j = some k → k < j + f ∧ lt t k = c := by
  intro f
  induction f with
  | zero => intro j k h; cases h
  | succ f ih =>
    intro j k h
    rw [lxf] at h
    split at h
    · next e => cases h; exact ⟨by omega, e⟩
    · have := ih h; omega
theorem lx_lt {t c k : Nat} (h : lx t c = some k) : k < ln t ∧ lt t k = c := by
  have := lxf_lt h
  omega
theorem nM_le {T : Nat} {tp : Nat → Nat} {lo hi i : Nat} (h : i ≤ T) : (nM T tp lo hi i).2.1 ≤ T := by
  have h1 := nB_le (tp := tp) h
  have h2 := ng_le (T := T) (tp := tp) (f := 4) (v := 0) h1.2
  unfold nM nMr
  split
  · split
    · exact h2.2.1
    · split
      · exact h2.2.1
      · show (ng T tp 4 0 (nB T tp i)).2 - 1 ≤ T
        omega
  · exact h1.2
theorem nM_v {T : Nat} {tp : Nat → Nat} {lo hi i : Nat} (h : (nM T tp lo hi i).1 = true) : lo ≤ (nM T tp lo hi i).2.2 ∧ (nM T tp lo hi i).2.2 ≤ hi := by
  unfold nM nMr at h ⊢
  split at h
  · next c =>
    rw [if_pos c]
    split at h
    · cases h
    · next c2 =>
      rw [if_neg c2]
      split at h
      · next c3 => rw [if_pos c3]; exact c3
      · cases h
  · cases h
theorem c8_eq : ∀ c, c < 256 → ∀ l, l < 128 → (nI l = (nI c).toInt8.toInt32 ↔ l = c) := by decide +kernel
section ITEMS
variable {T : Nat} {tp : Nat → Nat} {w w' : am_S} {i j t : Nat}
theorem itm_e {f had : Nat} {it : Nat → Nat} (h : sg T tp (nB T tp i) = 0 ∨ sg T tp (nB T tp i) = 59) : itm T tp t (f + 1) had it i = (1, nB T tp i, it) := by
  rw [itm, if_pos h]
theorem itm_n {f had : Nat} {it : Nat → Nat} (h : ¬ (sg T tp (nB T tp i) = 0 ∨ sg T tp (nB T tp i) = 59)) (hx : lx t (sg T tp (nB T tp i)) = none) : itm T tp t (f + 1) had it i = (0, nB T tp i, it) := by
  rw [itm, if_neg h, hx]
theorem itm_h {f had k : Nat} {it : Nat → Nat} (h : ¬ (sg T tp (nB T tp i) = 0 ∨ sg T tp (nB T tp i) = 59)) (hx : lx t (sg T tp (nB T tp i)) = some k) (hh : had.testBit k = true) : itm T tp t (f + 1) had it i = (0, nB T tp i, it) := by
  rw [itm, if_neg h, hx]
  exact if_pos hh
theorem itm_f {f had k : Nat} {it : Nat → Nat} (h : ¬ (sg T tp (nB T tp i) = 0 ∨ sg T tp (nB T tp i) = 59)) (hx : lx t (sg T tp (nB T tp i)) = some k) (hh : had.testBit k = false) (hn : (nM T tp (itlo t k) (ithi t k) (nB T tp i + 1)).1 = false) : itm T tp t (f + 1) had it i = (2, (nM T tp (itlo t k) (ithi t k) (nB T tp i + 1)).2.1, it) := by
  rw [itm, if_neg h, hx]
  show (if had.testBit k = true then _ else if (nM T tp (itlo t k) (ithi t k) (nB T tp i + 1)).1 = true then _ else _) = _
  rw [if_neg (by rw [hh]; decide), if_neg (by rw [hn]; decide)]
theorem itm_g {f had k : Nat} {it : Nat → Nat} (h : ¬ (sg T tp (nB T tp i) = 0 ∨ sg T tp (nB T tp i) = 59)) (hx : lx t (sg T tp (nB T tp i)) = some k) (hh : had.testBit k = false) (hn : (nM T tp (itlo t k) (ithi t k) (nB T tp i + 1)).1 = true) : itm T tp t (f + 1) had it i = itm T tp t f (had ||| 2 ^ k) (upn it k (nM T tp (itlo t k) (ithi t k) (nB T tp i + 1)).2.2) (nM T tp (itlo t k) (ithi t k) (nB T tp i + 1)).2.1 := by
  rw [itm, if_neg h, hx]
  show (if had.testBit k = true then _ else if (nM T tp (itlo t k) (ithi t k) (nB T tp i + 1)).1 = true then _ else _) = _
  rw [if_neg (by rw [hh]; decide), if_pos hn]
/-- a number of ITEMS, no letter twice -/
theorem itm_3 : ∀ {f had i : Nat} {it : Nat → Nat}, ln t + 1 ≤ pu_C (fun k => had.testBit k) (ln t) + f → (itm T tp t f had it i).1 ≠ 3 := by
  intro f
  induction f with
  | zero =>
    intro had i it h
    have := pu_C_le (fun k => had.testBit k) (ln t)
    omega
  | succ f ih =>
    intro had i it h
    by_cases c : sg T tp (nB T tp i) = 0 ∨ sg T tp (nB T tp i) = 59
    · rw [itm_e c]; show ¬ (1 = 3); decide
    · cases e : lx t (sg T tp (nB T tp i)) with
      | none => rw [itm_n c e]; show ¬ (0 = 3); decide
      | some k =>
        cases eh : had.testBit k with
        | true => rw [itm_h c e eh]; show ¬ (0 = 3); decide
        | false =>
          cases en : (nM T tp (itlo t k) (ithi t k) (nB T tp i + 1)).1 with
          | false => rw [itm_f c e eh en]; show ¬ (2 = 3); decide
          | true =>
            rw [itm_g c e eh en]
            apply ih
            have hk := (lx_lt e).1
            have : pu_C (fun k => had.testBit k) (ln t) < pu_C (fun j => (had ||| 2 ^ k).testBit j) (ln t) := by
              refine pu_C_lt (i := k) (fun u _ hu => ?_) hk eh ?_
              · show (had ||| 2 ^ k).testBit u = true
                rw [Nat.testBit_or, hu, Bool.true_or]
              · show (had ||| 2 ^ k).testBit k = true
                rw [Nat.testBit_or, Nat.testBit_two_pow_self, Bool.or_true]
            omega
theorem itm_le : ∀ {f had i : Nat} {it : Nat → Nat}, i ≤ T → (itm T tp t f had it i).2.1 ≤ T := by
  intro f
  induction f with
  | zero => intro had i it h; exact h
  | succ f ih =>
    intro had i it h
    have h1 := nB_le (tp := tp) h
    by_cases c : sg T tp (nB T tp i) = 0 ∨ sg T tp (nB T tp i) = 59
    · rw [itm_e c]; exact h1.2
    · have hlt : nB T tp i < T := by
        rcases Nat.lt_or_ge (nB T tp i) T with q | q
        · exact q
        · exact absurd (Or.inl (by unfold sg; rw [if_neg (by omega)])) c
      cases e : lx t (sg T tp (nB T tp i)) with
      | none => rw [itm_n c e]; exact h1.2
      | some k =>
        cases eh : had.testBit k with
        | true => rw [itm_h c e eh]; exact h1.2
        | false =>
          cases en : (nM T tp (itlo t k) (ithi t k) (nB T tp i + 1)).1 with
          | false => rw [itm_f c e eh en]; exact nM_le hlt
          | true => rw [itm_g c e eh en]; exact ih (nM_le hlt)
theorem itm_v : ∀ {f had i : Nat} {it : Nat → Nat}, (∀ k, k < ln t → itlo t k ≤ it k ∧ it k ≤ ithi t k) → ∀ k, k < ln t → itlo t k ≤ (itm T tp t f had it i).2.2 k ∧ (itm T tp t f had it i).2.2 k ≤ ithi t k := by
  intro f
  induction f with
  | zero => intro had i it h; exact h
  | succ f ih =>
    intro had i it h
    by_cases c : sg T tp (nB T tp i) = 0 ∨ sg T tp (nB T tp i) = 59
    · rw [itm_e c]; exact h
    · cases e : lx t (sg T tp (nB T tp i)) with
      | none => rw [itm_n c e]; exact h
      | some k =>
        cases eh : had.testBit k with
        | true => rw [itm_h c e eh]; exact h
        | false =>
          cases en : (nM T tp (itlo t k) (ithi t k) (nB T tp i + 1)).1 with
          | false => rw [itm_f c e eh en]; exact h
          | true =>
            rw [itm_g c e eh en]
            apply ih
            intro j hj
            unfold upn
            split
            · next q => rw [q]; exact nM_v en
            · exact h j hj
/-- where ITEMS end well there is ; or the end, where a sign is wrong neither -/
theorem itm_s : ∀ {f had i : Nat} {it : Nat → Nat}, i ≤ T → ((itm T tp t f had it i).1 = 1 → sg T tp (itm T tp t f had it i).2.1 = 0 ∨ sg T tp (itm T tp t f had it i).2.1 = 59) ∧ ((itm T tp t f had it i).1 = 0 → ¬ (sg T tp (itm T tp t f had it i).2.1 = 0 ∨ sg T tp (itm T tp t f had it i).2.1 = 59)) ∧ ((itm T tp t f had it i).1 ≤ 1 → nB T tp (itm T tp t f had it i).2.1 = (itm T tp t f had it i).2.1) := by
  intro f
  induction f with
  | zero => intro had i it h; exact ⟨fun q => absurd q (by decide : ¬ (3 = 1)), fun q => absurd q (by decide : ¬ (3 = 0)), fun q => absurd q (by decide : ¬ (3 ≤ 1))⟩
  | succ f ih =>
    intro had i it h
    have h1 := nB_idem (tp := tp) h
    have h2 := nB_le (tp := tp) h
    by_cases c : sg T tp (nB T tp i) = 0 ∨ sg T tp (nB T tp i) = 59
    · rw [itm_e c]; exact ⟨fun _ => c, fun q => absurd q (by decide : ¬ (1 = 0)), fun _ => h1⟩
    · have hlt : nB T tp i < T := by
        rcases Nat.lt_or_ge (nB T tp i) T with q | q
        · exact q
        · exact absurd (Or.inl (by unfold sg; rw [if_neg (by omega)])) c
      cases e : lx t (sg T tp (nB T tp i)) with
      | none => rw [itm_n c e]; exact ⟨fun q => absurd q (by decide : ¬ (0 = 1)), fun _ => c, fun _ => h1⟩
      | some k =>
        cases eh : had.testBit k with
        | true => rw [itm_h c e eh]; exact ⟨fun q => absurd q (by decide : ¬ (0 = 1)), fun _ => c, fun _ => h1⟩
        | false =>
          cases en : (nM T tp (itlo t k) (ithi t k) (nB T tp i + 1)).1 with
          | false => rw [itm_f c e eh en]; exact ⟨fun q => absurd q (by decide : ¬ (2 = 1)), fun q => absurd q (by decide : ¬ (2 = 0)), fun q => absurd q (by decide : ¬ (2 ≤ 1))⟩
          | true => rw [itm_g c e eh en]; exact ih (nM_le hlt)
theorem c_len0 : f_J0_length_8abf5_t0 w = some (nI 4, w) := by
  unfold f_J0_length_8abf5_t0 f_J0_coder_7d493_t0 f_J0_coder_7d493_t0_14
  rw [if_neg (by decide), show ∀ k : Option (Int32 × am_S), am_nar .byte (0 : Int32) k = k from fun k => if_pos (by decide), pv_b2, show (4 : Int32) >>> ((0 : Int32) &&& 31) = nI 4 by decide]
theorem c_lat0 : f_J0_isLatin1_aae02_t0 w = some (nI 1, w) := rfl
theorem bv0 : ∀ j, j < 4 → am_bv 0 j = nI (lt 0 j) := by decide
theorem lt0 : ∀ j, j < 4 → lt 0 j < 128 := by decide
theorem c_ix0 {c : Nat} (hc : c < 256) : f_J0_indexOf_0f7a4_t0 (nI c) w = some (oI (lx 0 c), w) := by
  have hl : f_J1_indexOfChar_4cfef_b0 (nI c) (nI 0) (nI 4) w = some (oI (lx 0 c), w) := by
    unfold f_J1_indexOfChar_4cfef_b0 f_J1_indexOfChar_4cfef_b0_7
    rw [pv_v]
    refine Wp.eq (Wp.loop (fun j s => s = (nI j, w) ∧ j ≤ 4 ∧ lxf 0 c (4 - j) j = lx 0 c) 4 (by decide) ⟨rfl, by omega, rfl⟩ ?_)
    rintro j s hj ⟨rfl, j1, j2⟩
    unfold f_J1_indexOfChar_4cfef_b0_7b
    rcases Nat.lt_or_ge j 4 with c4 | c4
    · have b1 := bv0 j c4
      have b2 := c8_eq c hc (lt 0 j) (lt0 j c4)
      rw [show 4 - j = (4 - (j + 1)) + 1 by omega, lxf] at j2
      by_cases e : lt 0 j = c
      · rw [if_pos e] at j2
        have b3 : (nI (lt 0 j) = (nI c).toInt8.toInt32) = True := eq_true (b2.mpr e)
        conv => arg 1; simp (disch := omega) only [pv_v, pv_b2, pv_b1, pv_x, pv_lit, pv_ofN, pu_chk, pu_cl, nI_add, pk_mul, nI_leI, nI_ltI, nI_eq, pu_nar0, pu_nar1, pu_narb, bI_0, bI_1, ↓reduceIte, pu_leT, pu_leF, pu_ltT, pu_ltF, pu_eqT, pu_eqF, pu_x1, pu_x2, pu_x3, pu_x4, pu_x5, pu_x6, pu_x7, pu_x8, Nat.zero_add, pu_m31I, pu_m31, pu_shlI, eq_self, Bool.false_eq_true, Bool.true_eq_false, b1, b3]
        rw [← j2]
        exact Wp.some rfl
      · rw [if_neg e] at j2
        have b3 : (nI (lt 0 j) = (nI c).toInt8.toInt32) = False := eq_false (fun q => e (b2.mp q))
        conv => arg 1; simp (disch := omega) only [pv_v, pv_b2, pv_b1, pv_x, pv_lit, pv_ofN, pu_chk, pu_cl, nI_add, pk_mul, nI_leI, nI_ltI, nI_eq, pu_nar0, pu_nar1, pu_narb, bI_0, bI_1, ↓reduceIte, pu_leT, pu_leF, pu_ltT, pu_ltF, pu_eqT, pu_eqF, pu_x1, pu_x2, pu_x3, pu_x4, pu_x5, pu_x6, pu_x7, pu_x8, Nat.zero_add, pu_m31I, pu_m31, pu_shlI, eq_self, Bool.false_eq_true, Bool.true_eq_false, b1, b3]
        exact Wp.some ⟨c4, rfl, by omega, j2⟩
    · have : j = 4 := by omega
      subst this
      rw [Nat.sub_self, lxf] at j2
      conv => arg 1; simp (disch := omega) only [pv_v, pv_b2, pv_b1, pv_x, pv_lit, pv_ofN, pu_chk, pu_cl, nI_add, pk_mul, nI_leI, nI_ltI, nI_eq, pu_nar0, pu_nar1, pu_narb, bI_0, bI_1, ↓reduceIte, pu_leT, pu_leF, pu_ltT, pu_ltF, pu_eqT, pu_eqF, pu_x1, pu_x2, pu_x3, pu_x4, pu_x5, pu_x6, pu_x7, pu_x8, Nat.zero_add, pu_m31I, pu_m31, pu_shlI, eq_self, Bool.false_eq_true, Bool.true_eq_false]
      rw [← j2]
      exact Wp.some rfl
  unfold f_J0_indexOf_0f7a4_t0 f_J0_indexOf_7cf53_t0 f_J0_indexOf_7cf53_t0_36 f_J1_indexOf_4cfef_b0 f_J1_canEncode_9a6ad f_J1_canEncode_9a6ad_15 f_J1_canEncode_9a6ad_16 f_J9_max_7cf53 f_J9_max_7cf53_10 f_J9_min_7cf53 f_J9_min_7cf53_10
  simp (disch := omega) only [pv_v, pv_b2, pv_b1, pv_x, pv_lit, pv_ofN, pu_chk, pu_cl, nI_add, pk_mul, nI_leI, nI_ltI, nI_eq, pu_nar0, pu_nar1, pu_narb, bI_0, bI_1, ↓reduceIte, pu_leT, pu_leF, pu_ltT, pu_ltF, pu_eqT, pu_eqF, pu_x1, pu_x2, pu_x3, pu_x4, pu_x5, pu_x6, pu_x7, pu_x8, Nat.zero_add, pu_m31I, pu_m31, pu_shlI, eq_self, Bool.false_eq_true, Bool.true_eq_false, c_len0, c_lat0, hl]
theorem c_len1 : f_J0_length_8abf5_t1 w = some (nI 5, w) := by
  unfold f_J0_length_8abf5_t1 f_J0_coder_7d493_t1 f_J0_coder_7d493_t1_14
  rw [if_neg (by decide), show ∀ k : Option (Int32 × am_S), am_nar .byte (0 : Int32) k = k from fun k => if_pos (by decide), pv_b2, show (5 : Int32) >>> ((0 : Int32) &&& 31) = nI 5 by decide]
theorem c_lat1 : f_J0_isLatin1_aae02_t1 w = some (nI 1, w) := rfl
theorem bv1 : ∀ j, j < 5 → am_bv 1 j = nI (lt 1 j) := by decide
theorem lt1 : ∀ j, j < 5 → lt 1 j < 128 := by decide
theorem c_ix1 {c : Nat} (hc : c < 256) : f_J0_indexOf_0f7a4_t1 (nI c) w = some (oI (lx 1 c), w) := by
  have hl : f_J1_indexOfChar_4cfef_b1 (nI c) (nI 0) (nI 5) w = some (oI (lx 1 c), w) := by
    unfold f_J1_indexOfChar_4cfef_b1 f_J1_indexOfChar_4cfef_b1_7
    rw [pv_v]
    refine Wp.eq (Wp.loop (fun j s => s = (nI j, w) ∧ j ≤ 5 ∧ lxf 1 c (5 - j) j = lx 1 c) 5 (by decide) ⟨rfl, by omega, rfl⟩ ?_)
    rintro j s hj ⟨rfl, j1, j2⟩
    unfold f_J1_indexOfChar_4cfef_b1_7b
    rcases Nat.lt_or_ge j 5 with c4 | c4
    · have b1 := bv1 j c4
      have b2 := c8_eq c hc (lt 1 j) (lt1 j c4)
      rw [show 5 - j = (5 - (j + 1)) + 1 by omega, lxf] at j2
      by_cases e : lt 1 j = c
      · rw [if_pos e] at j2
        have b3 : (nI (lt 1 j) = (nI c).toInt8.toInt32) = True := eq_true (b2.mpr e)
        conv => arg 1; simp (disch := omega) only [pv_v, pv_b2, pv_b1, pv_x, pv_lit, pv_ofN, pu_chk, pu_cl, nI_add, pk_mul, nI_leI, nI_ltI, nI_eq, pu_nar0, pu_nar1, pu_narb, bI_0, bI_1, ↓reduceIte, pu_leT, pu_leF, pu_ltT, pu_ltF, pu_eqT, pu_eqF, pu_x1, pu_x2, pu_x3, pu_x4, pu_x5, pu_x6, pu_x7, pu_x8, Nat.zero_add, pu_m31I, pu_m31, pu_shlI, eq_self, Bool.false_eq_true, Bool.true_eq_false, b1, b3]
        rw [← j2]
        exact Wp.some rfl
      · rw [if_neg e] at j2
        have b3 : (nI (lt 1 j) = (nI c).toInt8.toInt32) = False := eq_false (fun q => e (b2.mp q))
        conv => arg 1; simp (disch := omega) only [pv_v, pv_b2, pv_b1, pv_x, pv_lit, pv_ofN, pu_chk, pu_cl, nI_add, pk_mul, nI_leI, nI_ltI, nI_eq, pu_nar0, pu_nar1, pu_narb, bI_0, bI_1, ↓reduceIte, pu_leT, pu_leF, pu_ltT, pu_ltF, pu_eqT, pu_eqF, pu_x1, pu_x2, pu_x3, pu_x4, pu_x5, pu_x6, pu_x7, pu_x8, Nat.zero_add, pu_m31I, pu_m31, pu_shlI, eq_self, Bool.false_eq_true, Bool.true_eq_false, b1, b3]
        exact Wp.some ⟨c4, rfl, by omega, j2⟩
    · have : j = 5 := by omega
      subst this
      rw [Nat.sub_self, lxf] at j2
      conv => arg 1; simp (disch := omega) only [pv_v, pv_b2, pv_b1, pv_x, pv_lit, pv_ofN, pu_chk, pu_cl, nI_add, pk_mul, nI_leI, nI_ltI, nI_eq, pu_nar0, pu_nar1, pu_narb, bI_0, bI_1, ↓reduceIte, pu_leT, pu_leF, pu_ltT, pu_ltF, pu_eqT, pu_eqF, pu_x1, pu_x2, pu_x3, pu_x4, pu_x5, pu_x6, pu_x7, pu_x8, Nat.zero_add, pu_m31I, pu_m31, pu_shlI, eq_self, Bool.false_eq_true, Bool.true_eq_false]
      rw [← j2]
      exact Wp.some rfl
  unfold f_J0_indexOf_0f7a4_t1 f_J0_indexOf_7cf53_t1 f_J0_indexOf_7cf53_t1_36 f_J1_indexOf_4cfef_b1 f_J1_canEncode_9a6ad f_J1_canEncode_9a6ad_15 f_J1_canEncode_9a6ad_16 f_J9_max_7cf53 f_J9_max_7cf53_10 f_J9_min_7cf53 f_J9_min_7cf53_10
  simp (disch := omega) only [pv_v, pv_b2, pv_b1, pv_x, pv_lit, pv_ofN, pu_chk, pu_cl, nI_add, pk_mul, nI_leI, nI_ltI, nI_eq, pu_nar0, pu_nar1, pu_narb, bI_0, bI_1, ↓reduceIte, pu_leT, pu_leF, pu_ltT, pu_ltF, pu_eqT, pu_eqF, pu_x1, pu_x2, pu_x3, pu_x4, pu_x5, pu_x6, pu_x7, pu_x8, Nat.zero_add, pu_m31I, pu_m31, pu_shlI, eq_self, Bool.false_eq_true, Bool.true_eq_false, c_len1, c_lat1, hl]
theorem c_len2 : f_J0_length_8abf5_t2 w = some (nI 2, w) := by
  unfold f_J0_length_8abf5_t2 f_J0_coder_7d493_t2 f_J0_coder_7d493_t2_14
  rw [if_neg (by decide), show ∀ k : Option (Int32 × am_S), am_nar .byte (0 : Int32) k = k from fun k => if_pos (by decide), pv_b2, show (2 : Int32) >>> ((0 : Int32) &&& 31) = nI 2 by decide]
theorem c_lat2 : f_J0_isLatin1_aae02_t2 w = some (nI 1, w) := rfl
theorem bv2 : ∀ j, j < 2 → am_bv 2 j = nI (lt 2 j) := by decide
theorem lt2 : ∀ j, j < 2 → lt 2 j < 128 := by decide
theorem c_ix2 {c : Nat} (hc : c < 256) : f_J0_indexOf_0f7a4_t2 (nI c) w = some (oI (lx 2 c), w) := by
  have hl : f_J1_indexOfChar_4cfef_b2 (nI c) (nI 0) (nI 2) w = some (oI (lx 2 c), w) := by
    unfold f_J1_indexOfChar_4cfef_b2 f_J1_indexOfChar_4cfef_b2_7
    rw [pv_v]
    refine Wp.eq (Wp.loop (fun j s => s = (nI j, w) ∧ j ≤ 2 ∧ lxf 2 c (2 - j) j = lx 2 c) 2 (by decide) ⟨rfl, by omega, rfl⟩ ?_)
    rintro j s hj ⟨rfl, j1, j2⟩
    unfold f_J1_indexOfChar_4cfef_b2_7b
    rcases Nat.lt_or_ge j 2 with c4 | c4
    · have b1 := bv2 j c4
      have b2 := c8_eq c hc (lt 2 j) (lt2 j c4)
      rw [show 2 - j = (2 - (j + 1)) + 1 by omega, lxf] at j2
      by_cases e : lt 2 j = c
      · rw [if_pos e] at j2
        have b3 : (nI (lt 2 j) = (nI c).toInt8.toInt32) = True := eq_true (b2.mpr e)
        conv => arg 1; simp (disch := omega) only [pv_v, pv_b2, pv_b1, pv_x, pv_lit, pv_ofN, pu_chk, pu_cl, nI_add, pk_mul, nI_leI, nI_ltI, nI_eq, pu_nar0, pu_nar1, pu_narb, bI_0, bI_1, ↓reduceIte, pu_leT, pu_leF, pu_ltT, pu_ltF, pu_eqT, pu_eqF, pu_x1, pu_x2, pu_x3, pu_x4, pu_x5, pu_x6, pu_x7, pu_x8, Nat.zero_add, pu_m31I, pu_m31, pu_shlI, eq_self, Bool.false_eq_true, Bool.true_eq_false, b1, b3]
        rw [← j2]
        exact Wp.some rfl
      · rw [if_neg e] at j2
        have b3 : (nI (lt 2 j) = (nI c).toInt8.toInt32) = False := eq_false (fun q => e (b2.mp q))
        conv => arg 1; simp (disch := omega) only [pv_v, pv_b2, pv_b1, pv_x, pv_lit, pv_ofN, pu_chk, pu_cl, nI_add, pk_mul, nI_leI, nI_ltI, nI_eq, pu_nar0, pu_nar1, pu_narb, bI_0, bI_1, ↓reduceIte, pu_leT, pu_leF, pu_ltT, pu_ltF, pu_eqT, pu_eqF, pu_x1, pu_x2, pu_x3, pu_x4, pu_x5, pu_x6, pu_x7, pu_x8, Nat.zero_add, pu_m31I, pu_m31, pu_shlI, eq_self, Bool.false_eq_true, Bool.true_eq_false, b1, b3]
        exact Wp.some ⟨c4, rfl, by omega, j2⟩
    · have : j = 2 := by omega
      subst this
      rw [Nat.sub_self, lxf] at j2
      conv => arg 1; simp (disch := omega) only [pv_v, pv_b2, pv_b1, pv_x, pv_lit, pv_ofN, pu_chk, pu_cl, nI_add, pk_mul, nI_leI, nI_ltI, nI_eq, pu_nar0, pu_nar1, pu_narb, bI_0, bI_1, ↓reduceIte, pu_leT, pu_leF, pu_ltT, pu_ltF, pu_eqT, pu_eqF, pu_x1, pu_x2, pu_x3, pu_x4, pu_x5, pu_x6, pu_x7, pu_x8, Nat.zero_add, pu_m31I, pu_m31, pu_shlI, eq_self, Bool.false_eq_true, Bool.true_eq_false]
      rw [← j2]
      exact Wp.some rfl
  unfold f_J0_indexOf_0f7a4_t2 f_J0_indexOf_7cf53_t2 f_J0_indexOf_7cf53_t2_36 f_J1_indexOf_4cfef_b2 f_J1_canEncode_9a6ad f_J1_canEncode_9a6ad_15 f_J1_canEncode_9a6ad_16 f_J9_max_7cf53 f_J9_max_7cf53_10 f_J9_min_7cf53 f_J9_min_7cf53_10
  simp (disch := omega) only [pv_v, pv_b2, pv_b1, pv_x, pv_lit, pv_ofN, pu_chk, pu_cl, nI_add, pk_mul, nI_leI, nI_ltI, nI_eq, pu_nar0, pu_nar1, pu_narb, bI_0, bI_1, ↓reduceIte, pu_leT, pu_leF, pu_ltT, pu_ltF, pu_eqT, pu_eqF, pu_x1, pu_x2, pu_x3, pu_x4, pu_x5, pu_x6, pu_x7, pu_x8, Nat.zero_add, pu_m31I, pu_m31, pu_shlI, eq_self, Bool.false_eq_true, Bool.true_eq_false, c_len2, c_lat2, hl]
theorem c_len3 : f_J0_length_8abf5_t3 w = some (nI 6, w) := by
  unfold f_J0_length_8abf5_t3 f_J0_coder_7d493_t3 f_J0_coder_7d493_t3_14
  rw [if_neg (by decide), show ∀ k : Option (Int32 × am_S), am_nar .byte (0 : Int32) k = k from fun k => if_pos (by decide), pv_b2, show (6 : Int32) >>> ((0 : Int32) &&& 31) = nI 6 by decide]
theorem c_lat3 : f_J0_isLatin1_aae02_t3 w = some (nI 1, w) := rfl
theorem bv3 : ∀ j, j < 6 → am_bv 3 j = nI (lt 3 j) := by decide
theorem lt3 : ∀ j, j < 6 → lt 3 j < 128 := by decide
theorem c_ix3 {c : Nat} (hc : c < 256) : f_J0_indexOf_0f7a4_t3 (nI c) w = some (oI (lx 3 c), w) := by
  have hl : f_J1_indexOfChar_4cfef_b3 (nI c) (nI 0) (nI 6) w = some (oI (lx 3 c), w) := by
    unfold f_J1_indexOfChar_4cfef_b3 f_J1_indexOfChar_4cfef_b3_7
    rw [pv_v]
    refine Wp.eq (Wp.loop (fun j s => s = (nI j, w) ∧ j ≤ 6 ∧ lxf 3 c (6 - j) j = lx 3 c) 6 (by decide) ⟨rfl, by omega, rfl⟩ ?_)
    rintro j s hj ⟨rfl, j1, j2⟩
    unfold f_J1_indexOfChar_4cfef_b3_7b
    rcases Nat.lt_or_ge j 6 with c4 | c4
    · have b1 := bv3 j c4
      have b2 := c8_eq c hc (lt 3 j) (lt3 j c4)
      rw [show 6 - j = (6 - (j + 1)) + 1 by omega, lxf] at j2
      by_cases e : lt 3 j = c
      · rw [if_pos e] at j2
        have b3 : (nI (lt 3 j) = (nI c).toInt8.toInt32) = True := eq_true (b2.mpr e)
        conv => arg 1; simp (disch := omega) only [pv_v, pv_b2, pv_b1, pv_x, pv_lit, pv_ofN, pu_chk, pu_cl, nI_add, pk_mul, nI_leI, nI_ltI, nI_eq, pu_nar0, pu_nar1, pu_narb, bI_0, bI_1, ↓reduceIte, pu_leT, pu_leF, pu_ltT, pu_ltF, pu_eqT, pu_eqF, pu_x1, pu_x2, pu_x3, pu_x4, pu_x5, pu_x6, pu_x7, pu_x8, Nat.zero_add, pu_m31I, pu_m31, pu_shlI, eq_self, Bool.false_eq_true, Bool.true_eq_false, b1, b3]
        rw [← j2]
        exact Wp.some rfl
      · rw [if_neg e] at j2
        have b3 : (nI (lt 3 j) = (nI c).toInt8.toInt32) = False := eq_false (fun q => e (b2.mp q))
        conv => arg 1; simp (disch := omega) only [pv_v, pv_b2, pv_b1, pv_x, pv_lit, pv_ofN, pu_chk, pu_cl, nI_add, pk_mul, nI_leI, nI_ltI, nI_eq, pu_nar0, pu_nar1, pu_narb, bI_0, bI_1, ↓reduceIte, pu_leT, pu_leF, pu_ltT, pu_ltF, pu_eqT, pu_eqF, pu_x1, pu_x2, pu_x3, pu_x4, pu_x5, pu_x6, pu_x7, pu_x8, Nat.zero_add, pu_m31I, pu_m31, pu_shlI, eq_self, Bool.false_eq_true, Bool.true_eq_false, b1, b3]
        exact Wp.some ⟨c4, rfl, by omega, j2⟩
    · have : j = 6 := by omega
      subst this
      rw [Nat.sub_self, lxf] at j2
      conv => arg 1; simp (disch := omega) only [pv_v, pv_b2, pv_b1, pv_x, pv_lit, pv_ofN, pu_chk, pu_cl, nI_add, pk_mul, nI_leI, nI_ltI, nI_eq, pu_nar0, pu_nar1, pu_narb, bI_0, bI_1, ↓reduceIte, pu_leT, pu_leF, pu_ltT, pu_ltF, pu_eqT, pu_eqF, pu_x1, pu_x2, pu_x3, pu_x4, pu_x5, pu_x6, pu_x7, pu_x8, Nat.zero_add, pu_m31I, pu_m31, pu_shlI, eq_self, Bool.false_eq_true, Bool.true_eq_false]
      rw [← j2]
      exact Wp.some rfl
  unfold f_J0_indexOf_0f7a4_t3 f_J0_indexOf_7cf53_t3 f_J0_indexOf_7cf53_t3_36 f_J1_indexOf_4cfef_b3 f_J1_canEncode_9a6ad f_J1_canEncode_9a6ad_15 f_J1_canEncode_9a6ad_16 f_J9_max_7cf53 f_J9_max_7cf53_10 f_J9_min_7cf53 f_J9_min_7cf53_10
  simp (disch := omega) only [pv_v, pv_b2, pv_b1, pv_x, pv_lit, pv_ofN, pu_chk, pu_cl, nI_add, pk_mul, nI_leI, nI_ltI, nI_eq, pu_nar0, pu_nar1, pu_narb, bI_0, bI_1, ↓reduceIte, pu_leT, pu_leF, pu_ltT, pu_ltF, pu_eqT, pu_eqF, pu_x1, pu_x2, pu_x3, pu_x4, pu_x5, pu_x6, pu_x7, pu_x8, Nat.zero_add, pu_m31I, pu_m31, pu_shlI, eq_self, Bool.false_eq_true, Bool.true_eq_false, c_len3, c_lat3, hl]
end ITEMS
