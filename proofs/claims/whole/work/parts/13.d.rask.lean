/-! pure part: MORE, JAM, TIGHT of the reference (wip/whole/pure/13.d.rask.src) -/
theorem pl_id {w : am_S} {p k : Nat} {v : Int64} (h : w.2.1 p k = v) : am_pl w p k v = w := by
  refine Prod.ext rfl (Prod.ext ?_ rfl)
  funext q j
  show (if q = p ∧ j = k then v else w.2.1 q j) = w.2.1 q j
  split
  · next e => rw [e.1, e.2, h]
  · rfl
theorem pl_pl {w : am_S} {p k : Nat} {a b : Int64} : am_pl (am_pl w p k a) p k b = am_pl w p k b := by
  refine Prod.ext rfl (Prod.ext ?_ rfl)
  funext q j
  show (if q = p ∧ j = k then b else if q = p ∧ j = k then a else w.2.1 q j) = if q = p ∧ j = k then b else w.2.1 q j
  split <;> rfl
section RASKD
variable {fd st : Nat → Nat → Nat} {occ : Nat → Nat} {c jm : Nat} {w : am_S}
theorem rQ.setj (h : rQ fd st jm w) {j : Nat} (hj : j < 2 ^ 48) : rQ fd st j (am_pl w 271 20 (lN j)) := by
  obtain ⟨a1, a2, a3, a4, a5, a6⟩ := h
  exact ⟨a1, a2, a3, a4, pl_same, hj⟩
theorem r_jamFrom {u ch : Nat} (hu : u < (fd 0 0)) (hch : ch ≤ 100) : ∀ (l dd s jm parts : Nat) (w : am_S), l < dd → s + l ≤ (fd 0 1) * (fd 0 2) → jm < 2 ^ s → parts ≤ 1000000000 → rQ fd st jm w → (∀ s, s < (fd 0 1) * (fd 0 2) → w.1 287 s = nI (pu_o fd st s)) → f_X12_jamFrom dd (nI u) (nI s) (nI (s + l)) (nI ch) (nI parts) w = some (nI (pj (pu_kn fd (pu_o fd st) (st 2 0) (pu_u fd st) u) ch l s jm parts), w) := by
  intro l
  induction l with
  | zero =>
    intro dd s jm parts w hdd hs hj hp h hlay
    obtain ⟨dd, rfl⟩ : ∃ d, dd = d + 1 := ⟨dd - 1, by omega⟩
    have hF := h.1
    have h10 := hF.1
    have hT := pu_T48 hF
    have hU := pu_u_lt (fd := fd) (st := st)
    have hl := rL.of h hlay
    have hK := pu_k_M hF h.2.1.1
    have hr := pu_k10 (sRR_lt (occ := pu_o fd st) (sel := fun s => !jm.testBit s) (T := (fd 0 1) * (fd 0 2)) hK hU) h10
    show f_X12_jamFromB _ _ _ _ _ _ _ = _
    unfold f_X12_jamFromB f_X12_jamFromB_33
    by_cases e0 : parts = 0
    · subst e0
      simp (disch := omega) only [pv_v, pv_b2, pv_b1, pv_x, pv_lit, pv_ofN, pu_chk, pu_cl, nI_add, pk_mul, nI_leI, nI_ltI, nI_eq, pu_nar0, pu_nar1, pu_narb, bI_0, bI_1, ↓reduceIte, pu_leT, pu_leF, pu_ltT, pu_ltF, pu_eqT, pu_eqF, pu_x1, pu_x2, pu_x3, pu_x4, pu_x5, pu_x6, pu_x7, pu_x8, Nat.zero_add, pu_m31I, pu_m31, pu_shlI, eq_self, Bool.false_eq_true, Bool.true_eq_false, pj_z]
    · simp (disch := omega) only [pv_v, pv_b2, pv_b1, pv_x, pv_lit, pv_ofN, pu_chk, pu_cl, nI_add, pk_mul, nI_leI, nI_ltI, nI_eq, pu_nar0, pu_nar1, pu_narb, bI_0, bI_1, ↓reduceIte, pu_leT, pu_leF, pu_ltT, pu_ltF, pu_eqT, pu_eqF, pu_x1, pu_x2, pu_x3, pu_x4, pu_x5, pu_x6, pu_x7, pu_x8, Nat.zero_add, pu_m31I, pu_m31, pu_shlI, eq_self, Bool.false_eq_true, Bool.true_eq_false, e0, Nat.add_zero, r_unknownOnes h, r_remaining hl hU, r_has]
      show _ = some (nI (if pu_kn fd (pu_o fd st) (st 2 0) (pu_u fd st) u jm then parts else 0), w)
      unfold pu_kn
      cases (sRR (pu_k fd (st 2 0)) (pu_o fd st) (fun s => !jm.testBit s) ((fd 0 1) * (fd 0 2)) (pu_u fd st)).testBit u <;> rfl
  | succ l ih =>
    intro dd s jm parts w hdd hs hj hp h hlay
    obtain ⟨dd, rfl⟩ : ∃ d, dd = d + 1 := ⟨dd - 1, by omega⟩
    have hF := h.1
    have h10 := hF.1
    have hT := pu_T48 hF
    have hits := pj_its (parts := parts) hch
    have hmul : parts * ch ≤ 1000000000 * 100 := Nat.mul_le_mul hp hch
    have hj2 := h.2.2.2.2.1
    have hpw : 2 ^ (s + 1) ≤ 2 ^ 48 := Nat.pow_le_pow_right (by decide) (by omega)
    have hps : 2 ^ s < 2 ^ (s + 1) := pu_p2 (by omega)
    have hor : jm ||| 2 ^ s < 2 ^ (s + 1) := Nat.or_lt_two_pow (by omega) hps
    have hsd : pu_sd (jm ||| 2 ^ s) (2 ^ s) = jm := by
      apply Nat.eq_of_testBit_eq
      intro i
      rw [pu_sd_bit, Nat.testBit_or, pu_p_bit]
      by_cases e : s = i
      · subst e; rw [pu_hi hj (Nat.le_refl _), decide_eq_true rfl]; rfl
      · rw [decide_eq_false e]; simp
    have i1 := ih dd (s + 1) (jm ||| 2 ^ s) (parts * ch / 100) (am_pl w 271 20 (lN (jm ||| 2 ^ s))) (by omega) (by omega) hor (by omega) (h.setj (by omega)) hlay
    have i2 := ih dd (s + 1) jm (parts - parts * ch / 100) w (by omega) (by omega) (by omega) (by omega) h hlay
    rw [show s + 1 + l = s + (l + 1) by omega] at i1 i2
    show f_X12_jamFromB _ _ _ _ _ _ _ = _
    unfold f_X12_jamFromB
    by_cases e0 : parts = 0
    · subst e0
      simp (disch := omega) only [pv_v, pv_b2, pv_b1, pv_x, pv_lit, pv_ofN, pu_chk, pu_cl, nI_add, pk_mul, nI_leI, nI_ltI, nI_eq, pu_nar0, pu_nar1, pu_narb, bI_0, bI_1, ↓reduceIte, pu_leT, pu_leF, pu_ltT, pu_ltF, pu_eqT, pu_eqF, pu_x1, pu_x2, pu_x3, pu_x4, pu_x5, pu_x6, pu_x7, pu_x8, Nat.zero_add, pu_m31I, pu_m31, pu_shlI, eq_self, Bool.false_eq_true, Bool.true_eq_false, pj_z]
    · simp (disch := omega) only [pv_v, pv_b2, pv_b1, pv_x, pv_lit, pv_ofN, pu_chk, pu_cl, nI_add, pk_mul, nI_leI, nI_ltI, nI_eq, pu_nar0, pu_nar1, pu_narb, bI_0, bI_1, ↓reduceIte, pu_leT, pu_leF, pu_ltT, pu_ltF, pu_eqT, pu_eqF, pu_x1, pu_x2, pu_x3, pu_x4, pu_x5, pu_x6, pu_x7, pu_x8, Nat.zero_add, pu_m31I, pu_m31, pu_shlI, eq_self, Bool.false_eq_true, Bool.true_eq_false, e0, nI_l, lN_mul, show (100 : Int64) = lN 100 from Eq.trans rfl rfl, pk_lDiv, lN_i, hj2, pu_litL1, ls_1, fb_orL, i1, pl_same, lN_andn, hsd, pl_pl, pl_id hj2, pk_sub, i2, pj_s]
theorem r_jam (h : rQ fd st 0 w) {u f ch : Nat} (hu : u < (fd 0 0)) (hf : f < (fd 0 2)) (hch : ch ≤ 100) : Wp (f_X12_jam (nI u) (nI f) (nI ch) w) (fun p => p.1 = nI (pj (pu_kn fd (pu_o fd st) (st 2 0) (pu_u fd st) u) ch (fd 0 1) (f * (fd 0 1)) 0 1000000000) ∧ eqx [287] w p.2) := by
  have hF := h.1
  have h10 := hF.1
  have h4 := hF.2.2.1
  have h12 := hF.2.1
  have hT := pu_T48 hF
  have hfS : f * (fd 0 1) + (fd 0 1) ≤ (fd 0 1) * (fd 0 2) := by
    have : (f + 1) * (fd 0 1) ≤ (fd 0 2) * (fd 0 1) := Nat.mul_le_mul_right _ hf
    rw [Nat.add_mul, Nat.one_mul, Nat.mul_comm (fd 0 2)] at this
    exact this
  have e3 := h.2.2.1.2.2.1
  unfold f_X12_jam
  rw [r_isUser h hu, pu_b2, if_neg (by decide)]
  have k1 : (1 : Int32) = nI 1 := rfl
  have k0 : (0 : Int32) = nI 0 := rfl
  rw [k1, k0, show (100 : Int32) = nI 100 from rfl, pu_chk _ (by decide) (by decide), pu_cl (by decide), e3, pk_sub (by omega), r_in (by omega) (by omega) (by omega), pu_b2, decide_eq_true ⟨Nat.zero_le _, by omega⟩, if_neg (by decide), r_in (by omega) (by omega) (by omega), pu_b2, decide_eq_true ⟨Nat.zero_le _, hch⟩, if_neg (by decide)]
  refine Wp.b1 ((r_layOccupied h).mono ?_)
  rintro w1 ⟨hl, hx⟩
  have hq := h.ex hx (by decide)
  have e2 := hq.2.2.1.2.1
  have hj := r_jamFrom (fd := fd) (st := st) hu hch (fd 0 1) 14 (f * (fd 0 1)) 0 1000000000 w1 (by omega) hfS (Nat.two_pow_pos _) (Nat.le_refl _) hq hl
  rw [pu_chk _ (by decide) (by decide), pu_chk _ (by decide) (by decide), pu_cl (by decide), e2, pk_mul, nI_add, pk_mul, Nat.mul_comm (fd 0 1) f, Nat.mul_comm (fd 0 1) (f + 1), Nat.add_mul, Nat.one_mul, show (1000000000 : Int32) = nI 1000000000 from rfl, hj, pu_b2]
  exact Wp.some ⟨rfl, hx⟩
theorem r_more (h : rQ fd st 0 w) {u k : Nat} (hu : u < (fd 0 0)) (hk : k ≤ 1) : Wp (f_X12_more (nI u) (nI k) w) (fun p => p.1 = (if k = 0 then oI (pu_mx (fun s => !(pu_o fd st s).testBit u) (pu_kc fd (pu_o fd st) (st 2 0) (pu_u fd st) u) (pu_lo fd u) (pu_up fd u - pu_lo fd u)) else nI (match pu_mx (fun s => !(pu_o fd st s).testBit u) (pu_kc fd (pu_o fd st) (st 2 0) (pu_u fd st) u) (pu_lo fd u) (pu_up fd u - pu_lo fd u) with | none => 0 | some v => pu_kc fd (pu_o fd st) (st 2 0) (pu_u fd st) u v)) ∧ eqx [287] w p.2) := by
  have hF := h.1
  have h10 := hF.1
  have hT := pu_T48 hF
  have hK := pu_k_M hF h.2.1.1
  have hU := pu_u_lt (fd := fd) (st := st)
  obtain ⟨l1, l2, l3, l4⟩ := pu_lo_up hF hu
  have hkc : ∀ s, pu_kc fd (pu_o fd st) (st 2 0) (pu_u fd st) u s ≤ 10 := fun s => by unfold pu_kc; omega
  unfold f_X12_more
  rw [r_isUser h hu, pu_b2, if_neg (by decide), show (1 : Int32) = nI 1 from rfl, show (0 : Int32) = nI 0 from rfl, r_in (by omega) (by omega) (by omega), pu_b2, decide_eq_true ⟨Nat.zero_le _, hk⟩, if_neg (by decide), r_beginOf h hu, pu_b2]
  unfold f_X12_more_33
  refine Wp.for (fun i w => (oI (pu_mx (fun s => !(pu_o fd st s).testBit u) (pu_kc fd (pu_o fd st) (st 2 0) (pu_u fd st) u) (pu_lo fd u) i), nI (match pu_mx (fun s => !(pu_o fd st s).testBit u) (pu_kc fd (pu_o fd st) (st 2 0) (pu_u fd st) u) (pu_lo fd u) i with | none => 0 | some v => pu_kc fd (pu_o fd st) (st 2 0) (pu_u fd st) u v), nI (pu_lo fd u + i), w)) (fun _ w' => eqx [287] w w') (pu_up fd u - pu_lo fd u) (by omega) rfl eqx.rf (fun i w1 hi hx => ?_) (fun w1 hx => ?_)
  · have hq := h.ex hx (by decide)
    have hs : pu_lo fd u + i < (fd 0 1) * (fd 0 2) := by omega
    have hob : (pu_o fd st (pu_lo fd u + i)).testBit u = (st 1 u).testBit (pu_lo fd u + i) := by
      unfold pu_o
      rw [pu_S_bit, decide_eq_true hu, Bool.true_and]
    unfold f_X12_more_33b
    rw [r_beginOf hq hu, pu_b2, r_widthOf hq hu, pu_b2, nI_add, if_neg (nI_ge (by omega) (by omega)), r_hasCopy hq (by omega) (by omega), pu_b2, ← hob]
    cases e : (pu_o fd st (pu_lo fd u + i)).testBit u
    · rw [if_pos (show bI false = 0 from rfl)]
      refine Wp.b1 ((r_layOccupied hq).mono ?_)
      rintro w2 ⟨hl, hx2⟩
      have hq2 := hq.ex hx2 (by decide)
      have hom : pu_o fd st (pu_lo fd u + i) ||| 2 ^ u < 2 ^ (fd 0 0) := Nat.or_lt_two_pow pu_o_lt (pu_p2 hu)
      have hx3 : eqx [287] w2 (am_pi w2 287 (pu_lo fd u + i) (nI (pu_o fd st (pu_lo fd u + i) ||| 2 ^ u))) := eqx.pi (by simp)
      have hq3 := hq2.ex hx3 (by decide)
      have hl3 : rL fd (upo (pu_o fd st) (pu_lo fd u + i) (pu_o fd st (pu_lo fd u + i) ||| 2 ^ u)) (st 2 0) 0 (am_pi w2 287 (pu_lo fd u + i) (nI (pu_o fd st (pu_lo fd u + i) ||| 2 ^ u))) := by
        refine ⟨hF, h.2.1.1, hq3.2.2.1, hq3.2.2.2.1.2.2.2.1, hq3.2.2.2.2.1, hq3.2.2.2.2.2, fun s hs' => ?_⟩
        rw [pi_ite]
        unfold upo
        split
        · exact ⟨rfl, hom⟩
        · exact ⟨hl s hs', pu_o_lt⟩
      have hr := sRR_lt (occ := upo (pu_o fd st) (pu_lo fd u + i) (pu_o fd st (pu_lo fd u + i) ||| 2 ^ u)) (sel := fun _ => true) (T := (fd 0 1) * (fd 0 2)) hK hU
      have hr10 := pu_k10 hr h10
      have hrn := cn_n hr h10
      have hki := hkc (pu_lo fd u + i)
      unfold f_X12_more_106 f_X12_more_113
      simp (disch := omega) only [pv_v, pv_b2, pv_b1, pv_x, pv_lit, pv_ofN, pu_chk, pu_cl, nI_add, pk_mul, nI_leI, nI_ltI, nI_eq, pu_nar0, pu_nar1, pu_narb, bI_0, bI_1, ↓reduceIte, pu_leT, pu_leF, pu_ltT, pu_ltF, pu_eqT, pu_eqF, pu_x1, pu_x2, pu_x3, pu_x4, pu_x5, pu_x6, pu_x7, pu_x8, Nat.zero_add, pu_m31I, pu_m31, pu_shlI, eq_self, Bool.false_eq_true, Bool.true_eq_false, hl (pu_lo fd u + i) hs, pu_or, r_unknownOnes hq3, r_rem0 hl3 hU, r_bitsc, hq3.2.2.1.1, pk_sub]
      rw [show (fd 0 0) - cn (sRR (pu_k fd (st 2 0)) (upo (pu_o fd st) (pu_lo fd u + i) (pu_o fd st (pu_lo fd u + i) ||| 2 ^ u)) (fun _ => true) ((fd 0 1) * (fd 0 2)) (pu_u fd st)) = pu_kc fd (pu_o fd st) (st 2 0) (pu_u fd st) u (pu_lo fd u + i) from rfl]
      cases e2 : pu_mx (fun s => !(pu_o fd st s).testBit u) (pu_kc fd (pu_o fd st) (st 2 0) (pu_u fd st) u) (pu_lo fd u) i with
      | none =>
        rw [pu_mx_n (by rw [e]; rfl) e2]
        simp only [oI]
        simp (disch := omega) only [pv_v, pv_b2, pv_b1, pv_x, pv_lit, pv_ofN, pu_chk, pu_cl, nI_add, pk_mul, nI_leI, nI_ltI, nI_eq, pu_nar0, pu_nar1, pu_narb, bI_0, bI_1, ↓reduceIte, pu_leT, pu_leF, pu_ltT, pu_ltF, pu_eqT, pu_eqF, pu_x1, pu_x2, pu_x3, pu_x4, pu_x5, pu_x6, pu_x7, pu_x8, Nat.zero_add, pu_m31I, pu_m31, pu_shlI, eq_self, Bool.false_eq_true, Bool.true_eq_false]
        exact Wp.some ⟨_, rfl, (hx.on hx2).on hx3⟩
      | some v =>
        have hkv := hkc v
        have hvi := (pu_mx_p e2).2.2
        by_cases e3 : pu_kc fd (pu_o fd st) (st 2 0) (pu_u fd st) u (pu_lo fd u + i) ≤ pu_kc fd (pu_o fd st) (st 2 0) (pu_u fd st) u v
        · rw [pu_mx_k e2 e3]
          simp only [oI]
          simp (disch := omega) only [pv_v, pv_b2, pv_b1, pv_x, pv_lit, pv_ofN, pu_chk, pu_cl, nI_add, pk_mul, nI_leI, nI_ltI, nI_eq, pu_nar0, pu_nar1, pu_narb, bI_0, bI_1, ↓reduceIte, pu_leT, pu_leF, pu_ltT, pu_ltF, pu_eqT, pu_eqF, pu_x1, pu_x2, pu_x3, pu_x4, pu_x5, pu_x6, pu_x7, pu_x8, Nat.zero_add, pu_m31I, pu_m31, pu_shlI, eq_self, Bool.false_eq_true, Bool.true_eq_false]
          exact Wp.some ⟨_, rfl, (hx.on hx2).on hx3⟩
        · rw [pu_mx_g (by rw [e]; rfl) e2 (by omega)]
          simp only [oI]
          simp (disch := omega) only [pv_v, pv_b2, pv_b1, pv_x, pv_lit, pv_ofN, pu_chk, pu_cl, nI_add, pk_mul, nI_leI, nI_ltI, nI_eq, pu_nar0, pu_nar1, pu_narb, bI_0, bI_1, ↓reduceIte, pu_leT, pu_leF, pu_ltT, pu_ltF, pu_eqT, pu_eqF, pu_x1, pu_x2, pu_x3, pu_x4, pu_x5, pu_x6, pu_x7, pu_x8, Nat.zero_add, pu_m31I, pu_m31, pu_shlI, eq_self, Bool.false_eq_true, Bool.true_eq_false]
          exact Wp.some ⟨_, rfl, (hx.on hx2).on hx3⟩
    · rw [pu_mx_f (by rw [e]; rfl), if_neg (by decide)]
      unfold f_X12_more_113
      simp (disch := omega) only [pv_v, pv_b2, pv_b1, pv_x, pv_lit, pv_ofN, pu_chk, pu_cl, nI_add, pk_mul, nI_leI, nI_ltI, nI_eq, pu_nar0, pu_nar1, pu_narb, bI_0, bI_1, ↓reduceIte, pu_leT, pu_leF, pu_ltT, pu_ltF, pu_eqT, pu_eqF, pu_x1, pu_x2, pu_x3, pu_x4, pu_x5, pu_x6, pu_x7, pu_x8, Nat.zero_add, pu_m31I, pu_m31, pu_shlI, eq_self, Bool.false_eq_true, Bool.true_eq_false]
      exact Wp.some ⟨w1, rfl, hx⟩
  · have hq := h.ex hx (by decide)
    unfold f_X12_more_33b f_X12_more_129
    rw [show pu_lo fd u + (pu_up fd u - pu_lo fd u) = pu_up fd u by omega]
    simp (disch := omega) only [pv_v, pv_b2, pv_b1, pv_x, pv_lit, pv_ofN, pu_chk, pu_cl, nI_add, pk_mul, nI_leI, nI_ltI, nI_eq, pu_nar0, pu_nar1, pu_narb, bI_0, bI_1, ↓reduceIte, pu_leT, pu_leF, pu_ltT, pu_ltF, pu_eqT, pu_eqF, pu_x1, pu_x2, pu_x3, pu_x4, pu_x5, pu_x6, pu_x7, pu_x8, Nat.zero_add, pu_m31I, pu_m31, pu_shlI, eq_self, Bool.false_eq_true, Bool.true_eq_false, r_beginOf hq hu, r_widthOf hq hu]
    refine Wp.x ?_
    by_cases q : k = 0
    · rw [if_pos q]
      exact Wp.some ⟨by rw [if_pos q], hx⟩
    · rw [if_neg q]
      exact Wp.some ⟨by rw [if_neg q], hx⟩
/-- another CAPTURE -/
def upc (st : Nat → Nat → Nat) (c : Nat) : Nat → Nat → Nat := fun a b => if a = 2 ∧ b = 0 then c else st a b
theorem upc_c {c : Nat} : upc st c 2 0 = c := by simp [upc]
theorem upc_e {c a b : Nat} (h : a ≠ 2) : upc st c a b = st a b := by simp [upc, h]
theorem upc_o {c s : Nat} : pu_o fd (upc st c) s = pu_o fd st s := rfl
theorem upc_u {c : Nat} : pu_u fd (upc st c) = pu_u fd st := rfl
theorem upc_w (hS : wS fd st) {c : Nat} (hc : c ≤ 99) : wS fd (upc st c) := ⟨by rw [upc_c]; exact hc, hS.2⟩
theorem rQ.cap (h : rQ fd st jm w) {c : Nat} (hc : c ≤ 99) : rQ fd (upc st c) jm (am_pi w 281 30 (nI c)) := by
  obtain ⟨a1, a2, a3, ⟨g1, g2, g3, g4, g5, g6⟩, a5, a6⟩ := h
  refine ⟨a1, upc_w a2 hc, a3, ⟨fun u hu => ?_, fun u hu => ?_, fun u hu => ?_, ?_, fun j hj => ?_, fun j i hj hi => ?_⟩, a5, a6⟩
  · rw [pi_k (by omega)]; exact g1 u hu
  · rw [pi_k (by omega)]; exact g2 u hu
  · rw [pi_k (by omega)]; exact g3 u hu
  · rw [pi_same, upc_c]
  · rw [pi_k (by omega)]; exact g5 j hj
  · rw [pi_k (by omega)]; exact g6 j i hj hi
theorem r_tight (h : rQ fd st 0 w) (hn : 0 < (fd 0 0)) : Wp (f_X12_tight w) (fun p => isG fd (pu_o fd st) (pu_u fd st) p.1 ∧ eqx [284, 286, 287, 288] w p.2) := by
  have hF := h.1
  have h10 := hF.1
  have hU := pu_u_lt (fd := fd) (st := st)
  unfold f_X12_tight
  rw [r_isField h.2.2.1.1 h10, pu_b2, decide_eq_true hn, if_neg (by decide)]
  refine Wp.b1 ((r_layOccupied h).mono ?_)
  rintro w1 ⟨hl, hx⟩
  unfold f_X12_tight_18
  refine Wp.lp (fun i s => ∃ w', eqx [284, 286, 288] w1 w' ∧ ((s = (-nI 1, nI (99 - i), w') ∧ ∀ d, 99 - i < d → d ≤ 99 → sRR (pu_k fd d) (pu_o fd st) (fun _ => true) ((fd 0 1) * (fd 0 2)) (pu_u fd st) ≠ 0) ∨ (∃ c, s = (nI c, nI (c - 1), w') ∧ 1 ≤ c ∧ c ≤ 99 ∧ sRR (pu_k fd c) (pu_o fd st) (fun _ => true) ((fd 0 1) * (fd 0 2)) (pu_u fd st) = 0 ∧ ∀ d, c < d → d ≤ 99 → sRR (pu_k fd d) (pu_o fd st) (fun _ => true) ((fd 0 1) * (fd 0 2)) (pu_u fd st) ≠ 0))) 100 (by decide) ⟨w1, eqx.rf, .inl ⟨rfl, fun d h1 h2 => by omega⟩⟩ ?_
  rintro i s hi ⟨w', hx1, (⟨rfl, hd⟩ | ⟨c, rfl, c1, c2, c3, c4⟩)⟩
  · unfold f_X12_tight_18b f_X12_tight_66
    by_cases e : 99 - i = 0
    · rw [e]
      simp (disch := omega) only [pv_v, pv_b2, pv_b1, pv_x, pv_lit, pv_ofN, pu_chk, pu_cl, nI_add, pk_mul, nI_leI, nI_ltI, nI_eq, pu_nar0, pu_nar1, pu_narb, bI_0, bI_1, ↓reduceIte, pu_leT, pu_leF, pu_ltT, pu_ltF, pu_eqT, pu_eqF, pu_x1, pu_x2, pu_x3, pu_x4, pu_x5, pu_x6, pu_x7, pu_x8, Nat.zero_add, pu_m31I, pu_m31, pu_shlI, eq_self, Bool.false_eq_true, Bool.true_eq_false]
      exact Wp.some ⟨.inr ⟨rfl, fun d h1 h2 => hd d (by omega) h2⟩, (hx.up (by decide)).on (hx1.up (by decide))⟩
    · have hq := (h.ex hx (by decide)).ex hx1 (by decide)
      simp (disch := omega) only [pv_v, pv_b2, pv_b1, pv_x, pv_lit, pv_ofN, pu_chk, pu_cl, nI_add, pk_mul, nI_leI, nI_ltI, nI_eq, pu_nar0, pu_nar1, pu_narb, bI_0, bI_1, ↓reduceIte, pu_leT, pu_leF, pu_ltT, pu_ltF, pu_eqT, pu_eqF, pu_x1, pu_x2, pu_x3, pu_x4, pu_x5, pu_x6, pu_x7, pu_x8, Nat.zero_add, pu_m31I, pu_m31, pu_shlI, eq_self, Bool.false_eq_true, Bool.true_eq_false, e]
      refine Wp.b1 ((r_putAside w').mono ?_)
      rintro w2 ⟨p1, p2⟩
      have hq2 := (hq.ex p2 (by decide)).cap (c := 99 - i) (by omega)
      have hx2 : eqx [281] w2 (am_pi w2 281 30 (nI (99 - i))) := eqx.pi (by simp)
      have hb : rB w' (am_pi w2 281 30 (nI (99 - i))) := (rB.of p1 p2).go (fun k hk => pi_k (by omega)) (hx2.up (by decide))
      have hl2 : rL fd (pu_o fd st) (99 - i) 0 (am_pi w2 281 30 (nI (99 - i))) := by
        refine ⟨hF, by omega, hq2.2.2.1, pi_same, hq2.2.2.2.2.1, hq2.2.2.2.2.2, fun s hs => ⟨?_, pu_o_lt⟩⟩
        rw [pi_p (by decide)]
        exact p2.t (hx1.t (hl s hs) (by decide)) (by decide)
      have hu2 := r_unknownOnes hq2
      rw [upc_u] at hu2
      have hr := pu_k10 (sRR_lt (occ := pu_o fd st) (sel := fun _ => true) (T := (fd 0 1) * (fd 0 2)) (pu_k_M hF (show 99 - i ≤ 99 by omega)) hU) h10
      unfold f_X12_tight_55
      simp (disch := omega) only [pv_v, pv_b2, pv_b1, pv_x, pv_lit, pv_ofN, pu_chk, pu_cl, nI_add, pk_mul, nI_leI, nI_ltI, nI_eq, pu_nar0, pu_nar1, pu_narb, bI_0, bI_1, ↓reduceIte, pu_leT, pu_leF, pu_ltT, pu_ltF, pu_eqT, pu_eqF, pu_x1, pu_x2, pu_x3, pu_x4, pu_x5, pu_x6, pu_x7, pu_x8, Nat.zero_add, pu_m31I, pu_m31, pu_shlI, eq_self, Bool.false_eq_true, Bool.true_eq_false, hu2, r_rem0 hl2 hU]
      by_cases g : sRR (pu_k fd (99 - i)) (pu_o fd st) (fun _ => true) ((fd 0 1) * (fd 0 2)) (pu_u fd st) = 0
      · simp (disch := omega) only [pv_v, pv_b2, pv_b1, pv_x, pv_lit, pv_ofN, pu_chk, pu_cl, nI_add, pk_mul, nI_leI, nI_ltI, nI_eq, pu_nar0, pu_nar1, pu_narb, bI_0, bI_1, ↓reduceIte, pu_leT, pu_leF, pu_ltT, pu_ltF, pu_eqT, pu_eqF, pu_x1, pu_x2, pu_x3, pu_x4, pu_x5, pu_x6, pu_x7, pu_x8, Nat.zero_add, pu_m31I, pu_m31, pu_shlI, eq_self, Bool.false_eq_true, Bool.true_eq_false, g]
        refine Wp.b1 ((r_bringBack hb).mono ?_)
        intro w3 hx3
        rw [show nI (99 - i) + -nI 1 = nI (99 - i - 1) by rw [← Int32.sub_eq_add_neg, pk_sub (by omega)]]
        exact Wp.some ⟨.mk (by omega), w3, hx1.on hx3, .inr ⟨99 - i, rfl, by omega, by omega, g, hd⟩⟩
      · simp (disch := omega) only [pv_v, pv_b2, pv_b1, pv_x, pv_lit, pv_ofN, pu_chk, pu_cl, nI_add, pk_mul, nI_leI, nI_ltI, nI_eq, pu_nar0, pu_nar1, pu_narb, bI_0, bI_1, ↓reduceIte, pu_leT, pu_leF, pu_ltT, pu_ltF, pu_eqT, pu_eqF, pu_x1, pu_x2, pu_x3, pu_x4, pu_x5, pu_x6, pu_x7, pu_x8, Nat.zero_add, pu_m31I, pu_m31, pu_shlI, eq_self, Bool.false_eq_true, Bool.true_eq_false, g]
        refine Wp.b1 ((r_bringBack hb).mono ?_)
        intro w3 hx3
        rw [show nI (99 - i) + -nI 1 = nI (99 - (i + 1)) by rw [← Int32.sub_eq_add_neg, pk_sub (by omega)]; rfl]
        refine Wp.some ⟨.mk (by omega), w3, hx1.on hx3, .inl ⟨rfl, fun d h1 h2 => ?_⟩⟩
        by_cases q : d = 99 - i
        · subst q; exact g
        · exact hd d (by omega) h2
  · unfold f_X12_tight_18b f_X12_tight_66
    have hG : isG fd (pu_o fd st) (pu_u fd st) (nI c) := .inl ⟨c, c1, c2, rfl, c3, c4⟩
    have hxx : eqx [284, 286, 287, 288] w w' := (hx.up (by decide)).on (hx1.up (by decide))
    by_cases e : c - 1 = 0
    · rw [e]
      simp (disch := omega) only [pv_v, pv_b2, pv_b1, pv_x, pv_lit, pv_ofN, pu_chk, pu_cl, nI_add, pk_mul, nI_leI, nI_ltI, nI_eq, pu_nar0, pu_nar1, pu_narb, bI_0, bI_1, ↓reduceIte, pu_leT, pu_leF, pu_ltT, pu_ltF, pu_eqT, pu_eqF, pu_x1, pu_x2, pu_x3, pu_x4, pu_x5, pu_x6, pu_x7, pu_x8, Nat.zero_add, pu_m31I, pu_m31, pu_shlI, eq_self, Bool.false_eq_true, Bool.true_eq_false]
      exact Wp.some ⟨hG, hxx⟩
    · simp (disch := omega) only [pv_v, pv_b2, pv_b1, pv_x, pv_lit, pv_ofN, pu_chk, pu_cl, nI_add, pk_mul, nI_leI, nI_ltI, nI_eq, pu_nar0, pu_nar1, pu_narb, bI_0, bI_1, ↓reduceIte, pu_leT, pu_leF, pu_ltT, pu_ltF, pu_eqT, pu_eqF, pu_x1, pu_x2, pu_x3, pu_x4, pu_x5, pu_x6, pu_x7, pu_x8, Nat.zero_add, pu_m31I, pu_m31, pu_shlI, eq_self, Bool.false_eq_true, Bool.true_eq_false, e]
      exact Wp.some ⟨hG, hxx⟩
end RASKD
