/-! pure part: the reference's SLOTS as laid, who of a set stays UNKNOWN (wip/whole/pure/11.b.rem.src) -/
def rL (fd : Nat → Nat → Nat) (occ : Nat → Nat) (c jm : Nat) (w : am_S) : Prop := wF fd ∧ c ≤ 99 ∧ rF fd w ∧ w.1 281 30 = nI c ∧ w.2.1 271 20 = lN jm ∧ jm < 2 ^ 48 ∧ (∀ s, s < (fd 0 1) * (fd 0 2) → w.1 287 s = nI (occ s) ∧ occ s < 2 ^ (fd 0 0))
theorem pu_pow_all : ∀ m, m < 1024 → m ≠ 0 → pu_S (fun u => m.testBit u && (pu_sd m (2 ^ u) == 0)) 10 = if m &&& (m - 1) = 0 then m else 0 := by decide +kernel
theorem pu_S_ext {p : Nat → Bool} {n m : Nat} (h : n ≤ m) (hp : ∀ u, n ≤ u → u < m → p u = false) : pu_S p m = pu_S p n := by
  obtain ⟨d, rfl⟩ : ∃ d, m = n + d := ⟨m - n, by omega⟩
  clear h
  induction d with
  | zero => rfl
  | succ d ih => rw [← Nat.add_assoc, pu_S_f (hp (n + d) (by omega) (by omega)), ih (fun u h1 h2 => hp u h1 (by omega))]
section REM
variable {fd st : Nat → Nat → Nat} {occ : Nat → Nat} {c jm : Nat} {w : am_S}
theorem pu_k_c0 (hn : (fd 0 0) ≤ 10) {m : Nat} (hm : m < 2 ^ (fd 0 0)) (h0 : m ≠ 0) : pu_k fd 0 m = if m &&& (m - 1) = 0 then m else 0 := by
  rw [← pu_pow_all m (pu_k10 hm hn) h0]
  unfold pu_k
  rw [pu_S_ext (n := (fd 0 0)) (m := 10) hn (fun u h1 _ => by rw [pu_hi hm h1]; rfl)]
  exact pu_S_cong (fun u _ => rfl)
theorem pu_k_0 {m : Nat} (h : m = 0) : pu_k fd c m = 0 := by
  subst h
  apply pu_zero_bit
  intro u
  cases e : (pu_k fd c 0).testBit u
  · rfl
  · have := (pu_k_bit.mp e).2.1
    rw [Nat.zero_testBit] at this
    cases this
theorem r_cb91 (h : rL fd occ c jm w) {m u x : Nat} {a1 a2 : Int32} (hm : m < 2 ^ (fd 0 0)) (hu : u < (fd 0 0)) (hb : m.testBit u = true) (hx : x < 1024) (hc0 : c ≠ 0) : f_X12_clearBy_91 a1 a2 (nI m) (nI x) (nI u) (pu_t (fd 0 3)) (nI 0) w = some (.inr (nI (x ||| if pu_q fd c (pu_sd m (2 ^ u)) u then 2 ^ u else 0), nI (u + 1), w)) := by
  obtain ⟨hF, hc, ⟨e1, e2, e3, e4, e5, e6, e7⟩, g4, hj, hj2, ho⟩ := h
  have h10 := hF.1
  have hm10 := pu_k10 hm h10
  unfold f_X12_clearBy_91
  refine pu_tr (fun i => (pu_d fd (pu_sd m (2 ^ u)) i, nI i, w)) (fd 0 0) rfl (by omega) (fun i hi => ?_) ?_
  · have hbi : (pu_sd m (2 ^ u)).testBit i = (m.testBit i && !decide (u = i)) := by rw [pu_sd_bit, pu_p_bit]
    have hd := pu_d_fin hF (m := pu_sd m (2 ^ u)) (i := i + 1) (by omega)
    unfold f_X12_clearBy_91b f_X12_clearBy_129 f_X12_clearBy_131
    simp (disch := omega) only [pv_v, pv_b2, pv_b1, pv_x, pv_lit, pv_ofN, pu_chk, pu_cl, nI_add, pk_mul, nI_leI, nI_ltI, nI_eq, pu_nar0, pu_nar1, pu_narb, bI_0, bI_1, ↓reduceIte, pu_leT, pu_leF, pu_ltT, pu_ltF, pu_eqT, pu_eqF, pu_x1, pu_x2, pu_x3, pu_x4, pu_x5, pu_x6, pu_x7, pu_x8, Nat.zero_add, pu_m31I, pu_m31, pu_shlI, eq_self, Bool.false_eq_true, Bool.true_eq_false, e1, r_has, e7 i hi]
    by_cases c : i = u
    · rw [if_pos c, pu_d_f (by rw [hbi, decide_eq_true c.symm]; simp)]
    · rw [if_neg c]
      rw [decide_eq_false (fun e => c e.symm)] at hbi
      cases e2 : m.testBit i
      · rw [pu_d_f (by rw [hbi, e2]; rfl)]; rfl
      · have hb2 : (pu_sd m (2 ^ u)).testBit i = true := by rw [hbi, e2]; rfl
        rw [pu_d_t hb2] at hd ⊢
        rw [if_neg (by decide), fn_ok (by rw [fI_v]; omega)]
  · have ht := pu_t_le hc
    have hbf := pu_b_fin hF (o := pu_sd m (2 ^ u)) hc
    have hf := (pu_f_ok hF hu).2.2.2
    have n1 : ∀ {α : Type} (k : Option α), am_n32 (pu_t c) k = k := fun k => fn_ok (by rw [fI_v]; omega)
    have n2 : ∀ {α : Type} (k : Option α), am_n32 (pu_b fd c (pu_sd m (2 ^ u))) k = k := fun k => fn_ok (by rw [fI_v]; omega)
    have t1 : FP.fdiv (FP.i2f (nI c)) (1092616192 : UInt32) = pu_t c := rfl
    have t2 : FP.fmul (pu_t c) (pu_d fd (pu_sd m (2 ^ u)) (fd 0 0)) = pu_b fd c (pu_sd m (2 ^ u)) := rfl
    have hfc := fc_lt (a := pu_f fd u) (b := pu_b fd c (pu_sd m (2 ^ u))) (by rw [fI_v]; omega) (by rw [fI_v]; omega)
    unfold f_X12_clearBy_91b f_X12_clearBy_178 f_X12_clearBy_181
    simp (disch := omega) only [pv_v, pv_b2, pv_b1, pv_x, pv_lit, pv_ofN, pu_chk, pu_cl, nI_add, pk_mul, nI_leI, nI_ltI, nI_eq, pu_nar0, pu_nar1, pu_narb, bI_0, bI_1, ↓reduceIte, pu_leT, pu_leF, pu_ltT, pu_ltF, pu_eqT, pu_eqF, pu_x1, pu_x2, pu_x3, pu_x4, pu_x5, pu_x6, pu_x7, pu_x8, Nat.zero_add, pu_m31I, pu_m31, pu_shlI, eq_self, Bool.false_eq_true, Bool.true_eq_false, e1, g4, t1, n1, t2, n2, e7 u hu, hfc, pu_or]
    unfold pu_q
    rw [if_neg hc0]
    by_cases hq : (pu_f fd u).toNat < (pu_b fd c (pu_sd m (2 ^ u))).toNat
    · simp [hq, pu_x]
    · simp [hq, pu_x]
theorem r_clearBy (h : rL fd occ c jm w) {s X : Nat} (hs : s < (fd 0 1) * (fd 0 2)) (hX : X < 2 ^ (fd 0 0)) : f_X12_clearBy (nI s) (nI X) w = some (nI (if jm.testBit s then 0 else pu_k fd c (occ s &&& X)), w) := by
  obtain ⟨hF, hc, ⟨e1, e2, e3, e4, e5, e6, e7⟩, g4, hj, hj2, ho⟩ := id h
  have h10 := hF.1
  have hT := pu_T48 hF
  have hm : occ s &&& X < 2 ^ (fd 0 0) := Nat.lt_of_le_of_lt Nat.and_le_right hX
  have hm10 := pu_k10 hm h10
  unfold f_X12_clearBy f_X12_clearBy_26 f_X12_clearBy_51
  simp (disch := omega) only [pv_v, pv_b2, pv_b1, pv_x, pv_lit, pv_ofN, pu_chk, pu_cl, nI_add, pk_mul, nI_leI, nI_ltI, nI_eq, pu_nar0, pu_nar1, pu_narb, bI_0, bI_1, ↓reduceIte, pu_leT, pu_leF, pu_ltT, pu_ltF, pu_eqT, pu_eqF, pu_x1, pu_x2, pu_x3, pu_x4, pu_x5, pu_x6, pu_x7, pu_x8, Nat.zero_add, pu_m31I, pu_m31, pu_shlI, eq_self, Bool.false_eq_true, Bool.true_eq_false, (ho s hs).1, pu_and, hj, pu_litL1, lr_1, g4]
  by_cases h0 : occ s &&& X = 0
  · rw [pu_k_0 h0]
    simp (disch := omega) only [pv_v, pv_b2, pv_b1, pv_x, pv_lit, pv_ofN, pu_chk, pu_cl, nI_add, pk_mul, nI_leI, nI_ltI, nI_eq, pu_nar0, pu_nar1, pu_narb, bI_0, bI_1, ↓reduceIte, pu_leT, pu_leF, pu_ltT, pu_ltF, pu_eqT, pu_eqF, pu_x1, pu_x2, pu_x3, pu_x4, pu_x5, pu_x6, pu_x7, pu_x8, Nat.zero_add, pu_m31I, pu_m31, pu_shlI, eq_self, Bool.false_eq_true, Bool.true_eq_false, h0]
    simp
  cases e : jm.testBit s
  · by_cases hc0 : c = 0
    · subst hc0
      have hk := pu_k_c0 (fd := fd) h10 hm h0
      have : occ s &&& X &&& (occ s &&& X) - 1 < 2 ^ 31 := Nat.lt_of_le_of_lt Nat.and_le_left (by omega)
      rw [hk]
      simp (disch := omega) only [pv_v, pv_b2, pv_b1, pv_x, pv_lit, pv_ofN, pu_chk, pu_cl, nI_add, pk_mul, nI_leI, nI_ltI, nI_eq, pu_nar0, pu_nar1, pu_narb, bI_0, bI_1, ↓reduceIte, pu_leT, pu_leF, pu_ltT, pu_ltF, pu_eqT, pu_eqF, pu_x1, pu_x2, pu_x3, pu_x4, pu_x5, pu_x6, pu_x7, pu_x8, Nat.zero_add, pu_m31I, pu_m31, pu_shlI, eq_self, Bool.false_eq_true, Bool.true_eq_false, h0, pk_sub, pu_and]
      split <;> rfl
    · simp (disch := omega) only [pv_v, pv_b2, pv_b1, pv_x, pv_lit, pv_ofN, pu_chk, pu_cl, nI_add, pk_mul, nI_leI, nI_ltI, nI_eq, pu_nar0, pu_nar1, pu_narb, bI_0, bI_1, ↓reduceIte, pu_leT, pu_leF, pu_ltT, pu_ltF, pu_eqT, pu_eqF, pu_x1, pu_x2, pu_x3, pu_x4, pu_x5, pu_x6, pu_x7, pu_x8, Nat.zero_add, pu_m31I, pu_m31, pu_shlI, eq_self, Bool.false_eq_true, Bool.true_eq_false, h0, hc0]
      unfold f_X12_clearBy_58
      refine pu_tr (fun i => (nI (pu_S (fun u => (occ s &&& X).testBit u && pu_q fd c (pu_sd (occ s &&& X) (2 ^ u)) u) i), nI i, w)) (fd 0 0) rfl (by omega) (fun i hi => ?_) ?_
      · have hz := pu_t_le (show (fd 0 3) ≤ 99 from hF.2.2.2.2.1)
        have n1 : ∀ {α : Type} (k : Option α), am_n32 (pu_t (fd 0 3)) k = k := fun k => fn_ok (by rw [fI_v]; omega)
        have t1 : FP.fdiv (FP.i2f (nI (fd 0 3))) (1092616192 : UInt32) = pu_t (fd 0 3) := rfl
        have hx := pu_S_n10 (fun u => (occ s &&& X).testBit u && pu_q fd c (pu_sd (occ s &&& X) (2 ^ u)) u) (n := i) (by omega)
        unfold f_X12_clearBy_58b f_X12_clearBy_181
        simp (disch := omega) only [pv_v, pv_b2, pv_b1, pv_x, pv_lit, pv_ofN, pu_chk, pu_cl, nI_add, pk_mul, nI_leI, nI_ltI, nI_eq, pu_nar0, pu_nar1, pu_narb, bI_0, bI_1, ↓reduceIte, pu_leT, pu_leF, pu_ltT, pu_ltF, pu_eqT, pu_eqF, pu_x1, pu_x2, pu_x3, pu_x4, pu_x5, pu_x6, pu_x7, pu_x8, Nat.zero_add, pu_m31I, pu_m31, pu_shlI, eq_self, Bool.false_eq_true, Bool.true_eq_false, e1, r_has, e4, t1, n1]
        cases hb : (occ s &&& X).testBit i
        · rw [pu_S_f (by rw [hb]; rfl)]
          rfl
        · simp (disch := omega) only [pv_v, pv_b2, pv_b1, pv_x, pv_lit, pv_ofN, pu_chk, pu_cl, nI_add, pk_mul, nI_leI, nI_ltI, nI_eq, pu_nar0, pu_nar1, pu_narb, bI_0, bI_1, ↓reduceIte, pu_leT, pu_leF, pu_ltT, pu_ltF, pu_eqT, pu_eqF, pu_x1, pu_x2, pu_x3, pu_x4, pu_x5, pu_x6, pu_x7, pu_x8, Nat.zero_add, pu_m31I, pu_m31, pu_shlI, eq_self, Bool.false_eq_true, Bool.true_eq_false, r_cb91 h hm hi hb hx hc0]
          rw [pu_S_succ, hb, Bool.true_and]
      · unfold f_X12_clearBy_58b
        simp (disch := omega) only [pv_v, pv_b2, pv_b1, pv_x, pv_lit, pv_ofN, pu_chk, pu_cl, nI_add, pk_mul, nI_leI, nI_ltI, nI_eq, pu_nar0, pu_nar1, pu_narb, bI_0, bI_1, ↓reduceIte, pu_leT, pu_leF, pu_ltT, pu_ltF, pu_eqT, pu_eqF, pu_x1, pu_x2, pu_x3, pu_x4, pu_x5, pu_x6, pu_x7, pu_x8, Nat.zero_add, pu_m31I, pu_m31, pu_shlI, eq_self, Bool.false_eq_true, Bool.true_eq_false, e1]
        rfl
  · simp (disch := omega) only [pv_v, pv_b2, pv_b1, pv_x, pv_lit, pv_ofN, pu_chk, pu_cl, nI_add, pk_mul, nI_leI, nI_ltI, nI_eq, pu_nar0, pu_nar1, pu_narb, bI_0, bI_1, ↓reduceIte, pu_leT, pu_leF, pu_ltT, pu_ltF, pu_eqT, pu_eqF, pu_x1, pu_x2, pu_x3, pu_x4, pu_x5, pu_x6, pu_x7, pu_x8, Nat.zero_add, pu_m31I, pu_m31, pu_shlI, eq_self, Bool.false_eq_true, Bool.true_eq_false, h0]
theorem r_remaining (h : rL fd occ c jm w) {X : Nat} (hX : X < 2 ^ (fd 0 0)) : f_X12_remaining (nI X) w = some (nI (sRR (pu_k fd c) occ (fun s => !jm.testBit s) ((fd 0 1) * (fd 0 2)) X), w) := by
  have hF := h.1
  have h10 := hF.1
  have hT := pu_T48 hF
  have hK := pu_k_M hF h.2.1
  have hX10 := pu_k10 hX h10
  have hlt : ∀ i, sR (pu_k fd c) occ (fun s => !jm.testBit s) ((fd 0 1) * (fd 0 2)) X i < 2 ^ (fd 0 0) := fun i => sb_lt (sR_P hK i).1 hX
  have halt : ∀ Y T', Y < 2 ^ (fd 0 0) → sA (pu_k fd c) occ (fun s => !jm.testBit s) Y T' < 2 ^ (fd 0 0) := fun Y T' hY => sb_lt (sA_sb hK) hY
  unfold f_X12_remaining f_X12_remaining_4
  apply Wp.eq
  refine Wp.loop (fun i s => s = (nI (sR (pu_k fd c) occ (fun s => !jm.testBit s) ((fd 0 1) * (fd 0 2)) X i), nI (if i = 0 then 1 else sA (pu_k fd c) occ (fun s => !jm.testBit s) (sR (pu_k fd c) occ (fun s => !jm.testBit s) ((fd 0 1) * (fd 0 2)) X (i - 1)) ((fd 0 1) * (fd 0 2))), w)) 11 (by decide) rfl ?_
  rintro i _ hi rfl
  have inner : f_X12_remaining_13 (nI X) (nI (sR (pu_k fd c) occ (fun s => !jm.testBit s) ((fd 0 1) * (fd 0 2)) X i)) (nI 0) (nI 0) w = some (.inr (nI (sR (pu_k fd c) occ (fun s => !jm.testBit s) ((fd 0 1) * (fd 0 2)) X (i + 1)), nI (sA (pu_k fd c) occ (fun s => !jm.testBit s) (sR (pu_k fd c) occ (fun s => !jm.testBit s) ((fd 0 1) * (fd 0 2)) X i) ((fd 0 1) * (fd 0 2))), w)) := by
    unfold f_X12_remaining_13
    refine pu_tr (fun j => (nI (sA (pu_k fd c) occ (fun s => !jm.testBit s) (sR (pu_k fd c) occ (fun s => !jm.testBit s) ((fd 0 1) * (fd 0 2)) X i) j), nI j, w)) ((fd 0 1) * (fd 0 2)) rfl (by omega) (fun j hj => ?_) ?_
    · unfold f_X12_remaining_13b
      simp (disch := omega) only [pv_v, pv_b2, pv_b1, pv_x, pv_lit, pv_ofN, pu_chk, pu_cl, nI_add, pk_mul, nI_leI, nI_ltI, nI_eq, pu_nar0, pu_nar1, pu_narb, bI_0, bI_1, ↓reduceIte, pu_leT, pu_leF, pu_ltT, pu_ltF, pu_eqT, pu_eqF, pu_x1, pu_x2, pu_x3, pu_x4, pu_x5, pu_x6, pu_x7, pu_x8, Nat.zero_add, pu_m31I, pu_m31, pu_shlI, eq_self, Bool.false_eq_true, Bool.true_eq_false, r_slotMany hF h.2.2.1, r_clearBy h hj (hlt i), pu_or]
      show _ = some (Sum.inr (nI (sA _ _ _ _ j ||| _), _, _))
      cases e : jm.testBit j <;> simp [e]
    · unfold f_X12_remaining_13b
      simp (disch := omega) only [pv_v, pv_b2, pv_b1, pv_x, pv_lit, pv_ofN, pu_chk, pu_cl, nI_add, pk_mul, nI_leI, nI_ltI, nI_eq, pu_nar0, pu_nar1, pu_narb, bI_0, bI_1, ↓reduceIte, pu_leT, pu_leF, pu_ltT, pu_ltF, pu_eqT, pu_eqF, pu_x1, pu_x2, pu_x3, pu_x4, pu_x5, pu_x6, pu_x7, pu_x8, Nat.zero_add, pu_m31I, pu_m31, pu_shlI, eq_self, Bool.false_eq_true, Bool.true_eq_false, r_slotMany hF h.2.2.1, pu_andn]
      rfl
  unfold f_X12_remaining_4b
  by_cases hi0 : i = 0
  · subst hi0
    simp (disch := omega) only [pv_v, pv_b2, pv_b1, pv_x, pv_lit, pv_ofN, pu_chk, pu_cl, nI_add, pk_mul, nI_leI, nI_ltI, nI_eq, pu_nar0, pu_nar1, pu_narb, bI_0, bI_1, ↓reduceIte, pu_leT, pu_leF, pu_ltT, pu_ltF, pu_eqT, pu_eqF, pu_x1, pu_x2, pu_x3, pu_x4, pu_x5, pu_x6, pu_x7, pu_x8, Nat.zero_add, pu_m31I, pu_m31, pu_shlI, eq_self, Bool.false_eq_true, Bool.true_eq_false]
    exact Wp.of inner (by simp)
  · have ha := pu_k10 (halt _ ((fd 0 1) * (fd 0 2)) (hlt (i - 1))) h10
    by_cases e : sA (pu_k fd c) occ (fun s => !jm.testBit s) (sR (pu_k fd c) occ (fun s => !jm.testBit s) ((fd 0 1) * (fd 0 2)) X (i - 1)) ((fd 0 1) * (fd 0 2)) = 0
    · simp (disch := omega) only [pv_v, pv_b2, pv_b1, pv_x, pv_lit, pv_ofN, pu_chk, pu_cl, nI_add, pk_mul, nI_leI, nI_ltI, nI_eq, pu_nar0, pu_nar1, pu_narb, bI_0, bI_1, ↓reduceIte, pu_leT, pu_leF, pu_ltT, pu_ltF, pu_eqT, pu_eqF, pu_x1, pu_x2, pu_x3, pu_x4, pu_x5, pu_x6, pu_x7, pu_x8, Nat.zero_add, pu_m31I, pu_m31, pu_shlI, eq_self, Bool.false_eq_true, Bool.true_eq_false, hi0, e]
      refine Wp.some ?_
      show (_, _) = (_, _)
      have k1 := sR_stop e 1
      have k2 := sR_stop e (10 - (i - 1))
      rw [show i - 1 + 1 = i by omega] at k1
      rw [show i - 1 + (10 - (i - 1)) = 10 by omega] at k2
      rw [k1, ← k2]
      rfl
    · simp (disch := omega) only [pv_v, pv_b2, pv_b1, pv_x, pv_lit, pv_ofN, pu_chk, pu_cl, nI_add, pk_mul, nI_leI, nI_ltI, nI_eq, pu_nar0, pu_nar1, pu_narb, bI_0, bI_1, ↓reduceIte, pu_leT, pu_leF, pu_ltT, pu_ltF, pu_eqT, pu_eqF, pu_x1, pu_x2, pu_x3, pu_x4, pu_x5, pu_x6, pu_x7, pu_x8, Nat.zero_add, pu_m31I, pu_m31, pu_shlI, eq_self, Bool.false_eq_true, Bool.true_eq_false, hi0, e]
      refine Wp.of inner ⟨?_, rfl⟩
      rcases sR_cn (occ := occ) (sel := fun s => !jm.testBit s) (T := (fd 0 1) * (fd 0 2)) hK hX10 (i - 1) with q | q
      · exact absurd q e
      · have : cn (sR (pu_k fd c) occ (fun s => !jm.testBit s) ((fd 0 1) * (fd 0 2)) X (i - 1)) ≠ 0 := fun q0 => e (by rw [cn_0 (pu_k10 (hlt _) h10) q0]; exact sA_0 hK)
        omega
theorem r_layOccupied (h : rQ fd st jm w) : Wp (f_X12_layOccupied w) (fun w' => (∀ s, s < (fd 0 1) * (fd 0 2) → w'.1 287 s = nI (pu_o fd st s)) ∧ eqx [287] w w') := by
  have hF := h.1
  have h10 := hF.1
  have hT := pu_T48 hF
  have hq : ∀ w', eqx [287] w w' → rQ fd st jm w' := fun w' hx => h.ex hx (by decide)
  unfold f_X12_layOccupied f_X12_layOccupied_2
  refine Wp.for (fun i w => (nI i, w)) (fun i w' => (∀ s, s < i → w'.1 287 s = nI (pu_o fd st s)) ∧ eqx [287] w w') ((fd 0 1) * (fd 0 2)) (by omega) rfl ⟨fun s hs => absurd hs (by omega), eqx.rf⟩ (fun i w' hi hI => ?_) (fun w' hI => ?_)
  · obtain ⟨i1, i2⟩ := hI
    unfold f_X12_layOccupied_2b
    simp (disch := omega) only [pv_v, pv_b2, pv_b1, pv_x, pv_lit, pv_ofN, pu_chk, pu_cl, nI_add, pk_mul, nI_leI, nI_ltI, nI_eq, pu_nar0, pu_nar1, pu_narb, bI_0, bI_1, ↓reduceIte, pu_leT, pu_leF, pu_ltT, pu_ltF, pu_eqT, pu_eqF, pu_x1, pu_x2, pu_x3, pu_x4, pu_x5, pu_x6, pu_x7, pu_x8, Nat.zero_add, pu_m31I, pu_m31, pu_shlI, eq_self, Bool.false_eq_true, Bool.true_eq_false, r_slotMany hF (hq w' i2).2.2.1]
    unfold f_X12_layOccupied_19
    refine Wp.for (fun j w => (nI j, w)) (fun j w'' => w''.1 287 i = nI (pu_S (fun u => (st 1 u).testBit i) j) ∧ (∀ s, s < i → w''.1 287 s = nI (pu_o fd st s)) ∧ eqx [287] w w'') (fd 0 0) (by omega) rfl ⟨pi_same, fun s hs => by rw [pi_k (by omega)]; exact i1 s hs, i2.on (eqx.pi (by simp))⟩ (fun j w'' hj hJ => ?_) (fun w'' hJ => ?_)
    · obtain ⟨j1, j2, j3⟩ := hJ
      have hQ := hq w'' j3
      unfold f_X12_layOccupied_19b f_X12_layOccupied_50
      simp (disch := omega) only [pv_v, pv_b2, pv_b1, pv_x, pv_lit, pv_ofN, pu_chk, pu_cl, nI_add, pk_mul, nI_leI, nI_ltI, nI_eq, pu_nar0, pu_nar1, pu_narb, bI_0, bI_1, ↓reduceIte, pu_leT, pu_leF, pu_ltT, pu_ltF, pu_eqT, pu_eqF, pu_x1, pu_x2, pu_x3, pu_x4, pu_x5, pu_x6, pu_x7, pu_x8, Nat.zero_add, pu_m31I, pu_m31, pu_shlI, eq_self, Bool.false_eq_true, Bool.true_eq_false, hQ.2.2.1.1, r_hasCopy hQ (u := j) (s := i) (by omega) (by omega), j1]
      cases e : (st 1 j).testBit i
      · simp (disch := omega) only [pv_v, pv_b2, pv_b1, pv_x, pv_lit, pv_ofN, pu_chk, pu_cl, nI_add, pk_mul, nI_leI, nI_ltI, nI_eq, pu_nar0, pu_nar1, pu_narb, bI_0, bI_1, ↓reduceIte, pu_leT, pu_leF, pu_ltT, pu_ltF, pu_eqT, pu_eqF, pu_x1, pu_x2, pu_x3, pu_x4, pu_x5, pu_x6, pu_x7, pu_x8, Nat.zero_add, pu_m31I, pu_m31, pu_shlI, eq_self, Bool.false_eq_true, Bool.true_eq_false, pu_or, Nat.or_zero]
        refine Wp.some ⟨_, rfl, ?_, fun s hs => by rw [pi_k (by omega)]; exact j2 s hs, j3.on (eqx.pi (by simp))⟩
        rw [pi_same, pu_S_f (by rw [e])]
      · simp (disch := omega) only [pv_v, pv_b2, pv_b1, pv_x, pv_lit, pv_ofN, pu_chk, pu_cl, nI_add, pk_mul, nI_leI, nI_ltI, nI_eq, pu_nar0, pu_nar1, pu_narb, bI_0, bI_1, ↓reduceIte, pu_leT, pu_leF, pu_ltT, pu_ltF, pu_eqT, pu_eqF, pu_x1, pu_x2, pu_x3, pu_x4, pu_x5, pu_x6, pu_x7, pu_x8, Nat.zero_add, pu_m31I, pu_m31, pu_shlI, eq_self, Bool.false_eq_true, Bool.true_eq_false, pu_or]
        refine Wp.some ⟨_, rfl, ?_, fun s hs => by rw [pi_k (by omega)]; exact j2 s hs, j3.on (eqx.pi (by simp))⟩
        rw [pi_same, pu_S_t (by rw [e])]
    · obtain ⟨j1, j2, j3⟩ := hJ
      have hQ := hq w'' j3
      unfold f_X12_layOccupied_19b
      simp (disch := omega) only [pv_v, pv_b2, pv_b1, pv_x, pv_lit, pv_ofN, pu_chk, pu_cl, nI_add, pk_mul, nI_leI, nI_ltI, nI_eq, pu_nar0, pu_nar1, pu_narb, bI_0, bI_1, ↓reduceIte, pu_leT, pu_leF, pu_ltT, pu_ltF, pu_eqT, pu_eqF, pu_x1, pu_x2, pu_x3, pu_x4, pu_x5, pu_x6, pu_x7, pu_x8, Nat.zero_add, pu_m31I, pu_m31, pu_shlI, eq_self, Bool.false_eq_true, Bool.true_eq_false, hQ.2.2.1.1]
      refine Wp.some ⟨w'', rfl, fun s hs => ?_, j3⟩
      by_cases e : s = i
      · subst e; exact j1
      · exact j2 s (by omega)
  · obtain ⟨i1, i2⟩ := hI
    unfold f_X12_layOccupied_2b
    simp (disch := omega) only [pv_v, pv_b2, pv_b1, pv_x, pv_lit, pv_ofN, pu_chk, pu_cl, nI_add, pk_mul, nI_leI, nI_ltI, nI_eq, pu_nar0, pu_nar1, pu_narb, bI_0, bI_1, ↓reduceIte, pu_leT, pu_leF, pu_ltT, pu_ltF, pu_eqT, pu_eqF, pu_x1, pu_x2, pu_x3, pu_x4, pu_x5, pu_x6, pu_x7, pu_x8, Nat.zero_add, pu_m31I, pu_m31, pu_shlI, eq_self, Bool.false_eq_true, Bool.true_eq_false, r_slotMany hF (hq w' i2).2.2.1]
    exact Wp.some ⟨i1, i2⟩
end REM
