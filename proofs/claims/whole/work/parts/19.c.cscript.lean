/-! pure part: a SCRIPT is read, the class: all (wip/whole/pure/19.c.cscript.src) -/
def sn0 : Nat → Int32 := fun _ => nI 0
def sk0 : Nat → Nat := fun _ => 0
section CSCRIPT3
variable {T : Nat} {tp : Nat → Nat} {w w' : am_S} {i o n f : Nat} {sk : Nat → Nat} {sn : Nat → Int32}
theorem scl_f (h : (stp T tp i).1 = false) : scl T tp (f + 1) n sk sn i = (some (stp T tp i).2.1, n, sk, sn) := by
  rw [scl, if_pos h]
theorem scl_0 (h : (stp T tp i).1 = true) (h0 : sg T tp (nB T tp (stp T tp i).2.1) = 0) : scl T tp (f + 1) n sk sn i = (none, n + 1, upn sk n (stp T tp i).2.2.1, upi sn n (stp T tp i).2.2.2) := by
  rw [scl, if_neg (by rw [h]; decide), if_pos h0]
theorem scl_g (h : (stp T tp i).1 = true) (h0 : sg T tp (nB T tp (stp T tp i).2.1) = 59) (hn : n + 1 ≠ 16) : scl T tp (f + 1) n sk sn i = scl T tp f (n + 1) (upn sk n (stp T tp i).2.2.1) (upi sn n (stp T tp i).2.2.2) (nB T tp (stp T tp i).2.1 + 1) := by
  rw [scl, if_neg (by rw [h]; decide), if_neg (by omega), if_pos ⟨h0, hn⟩]
theorem scl_b (h : (stp T tp i).1 = true) (h0 : sg T tp (nB T tp (stp T tp i).2.1) ≠ 0) (hn : ¬ (sg T tp (nB T tp (stp T tp i).2.1) = 59 ∧ n + 1 ≠ 16)) : scl T tp (f + 1) n sk sn i = (some (nB T tp (stp T tp i).2.1), n + 1, sk, sn) := by
  rw [scl, if_neg (by rw [h]; decide), if_neg h0, if_neg hn]
def eI : Option Nat → Int32
  | none => -nI 1
  | some e => nI e
/-- what reading a SCRIPT gives, in the class -/
def cSc (o : Nat) (R : Option Nat × Nat × (Nat → Nat) × (Nat → Int32)) (w : am_S) (q : Int32 × am_S) : Prop := q.1 = eI R.1 ∧ (R.1 = none → q.2.1 o 2 = nI R.2.1 ∧ ∀ j, j < R.2.1 → q.2.1 (o + 1) j = nI (R.2.2.1 j) ∧ q.2.1 (o + 2) j = R.2.2.2 j) ∧ q.2.1 1 1 = w.1 1 1 ∧ eqx [1, o, o + 1, o + 2] w q.2
theorem c_readScript (ho : 2 < o) (hT : tW T tp) (h : cTp T tp w) : Wp (f_X8_readFrom o w) (cSc o (scl T tp 16 0 sk0 sn0 0) w) := by
  have hT1 := hT.1
  generalize hR : scl T tp 16 0 sk0 sn0 0 = R
  have x0 : eqx [1, o, o + 1, o + 2] w (am_pi (am_pi w o 2 (nI 0)) 1 2 (nI 0)) := (eqx.pi (by simp)).on (eqx.pi (by simp))
  unfold f_X8_readFrom
  conv => arg 1; simp (disch := omega) only [pv_v, pv_b2, pv_b1, pv_x, pv_lit, pv_ofN, pu_chk, pu_cl, nI_add, pk_mul, nI_leI, nI_ltI, nI_eq, pu_nar0, pu_nar1, pu_narb, bI_0, bI_1, ↓reduceIte, pu_leT, pu_leF, pu_ltT, pu_ltF, pu_eqT, pu_eqF, pu_x1, pu_x2, pu_x3, pu_x4, pu_x5, pu_x6, pu_x7, pu_x8, Nat.zero_add, pu_m31I, pu_m31, pu_shlI, eq_self, Bool.false_eq_true, Bool.true_eq_false]
  unfold f_X8_readFrom_12
  refine Wp.for (fun n w => (nI n, w)) (fun n w' => ∃ i sk sn, i ≤ T ∧ w'.1 1 2 = nI i ∧ w'.1 o 2 = nI n ∧ scl T tp (16 - n) n sk sn i = R ∧ (∀ j, j < n → w'.1 (o + 1) j = nI (sk j) ∧ w'.1 (o + 2) j = sn j) ∧ w'.1 1 1 = w.1 1 1 ∧ eqx [1, o, o + 1, o + 2] w w') 16 (by omega) rfl ⟨0, sk0, sn0, Nat.zero_le _, pi_same, ?_, hR, fun j hj => absurd hj (Nat.not_lt_zero _), ?_, x0⟩ (fun n w' hn hI => ?_) (fun w' hI => ?_)
  · rw [pi_p (by omega), pi_same]
  · rw [pi_k (by decide), pi_p (by omega)]
  · obtain ⟨i, sk, sn, i1, i2, i3, i4, i5, i6, i7⟩ := hI
    have hC : cTp T tp w' := h.fr i6 (i7.r (by simp only [List.mem_cons, List.not_mem_nil, or_false]; omega))
    obtain ⟨f, hf⟩ : ∃ f, 16 - n = f + 1 := ⟨15 - n, by omega⟩
    rw [hf] at i4
    obtain ⟨⟨x1, w1⟩, e1, p1, p2, p3, p4⟩ := c_readStep ho hT hC i1 i2 hn i3
    have a1 : x1 = bI (stp T tp i).1 := p1
    have a2 : w1.1 1 2 = nI (stp T tp i).2.1 := p2
    have a3 : (stp T tp i).1 = true → w1.1 o 2 = nI (n + 1) ∧ w1.1 (o + 1) n = nI (stp T tp i).2.2.1 ∧ w1.1 (o + 2) n = (stp T tp i).2.2.2 := p3
    have a4 : sf o n w' w1 := p4
    clear p1 p2 p3 p4
    subst a1
    have hle := (stp_le (tp := tp) hT i1).1
    have x1 : eqx [1, o, o + 1, o + 2] w w1 := i7.on a4.2.1
    cases hs : (stp T tp i).1 with
    | false =>
      rw [hs] at e1
      rw [scl_f hs] at i4
      subst i4
      refine Wp.ofl (a := (nI (stp T tp i).2.1, w1)) (by unfold f_X8_readFrom_12b; simp (disch := omega) only [pv_v, pv_b2, pv_b1, pv_x, pv_lit, pv_ofN, pu_chk, pu_cl, nI_add, pk_mul, nI_leI, nI_ltI, nI_eq, pu_nar0, pu_nar1, pu_narb, bI_0, bI_1, ↓reduceIte, pu_leT, pu_leF, pu_ltT, pu_ltF, pu_eqT, pu_eqF, pu_x1, pu_x2, pu_x3, pu_x4, pu_x5, pu_x6, pu_x7, pu_x8, Nat.zero_add, pu_m31I, pu_m31, pu_shlI, eq_self, Bool.false_eq_true, Bool.true_eq_false, e1, a2]) ⟨rfl, (fun q => by cases q), a4.1.trans i6, x1⟩
    | true =>
      rw [hs] at e1
      obtain ⟨g1, g2, g3⟩ := a3 hs
      have hC1 : cTp T tp w1 := hC.fr a4.1 (a4.2.1.r (by simp only [List.mem_cons, List.not_mem_nil, or_false]; omega))
      have hb := nB_le (tp := tp) hle
      have hlt := sg_lt (i := nB T tp (stp T tp i).2.1) hT
      obtain ⟨⟨y1, w2⟩, e2, p1, p2, p3, p4⟩ := c_nextSign hT hC1 hle a2
      have b1 : y1 = nI (sg T tp (nB T tp (stp T tp i).2.1)) := p1
      have b2 : w2.1 1 2 = nI (nB T tp (stp T tp i).2.1) := p2
      have b4 : c1 w1 w2 := p4
      clear p1 p2 p3 p4
      subst b1
      have k2 : w2.1 o 2 = nI (n + 1) := by rw [b4.2.r (by simp only [List.mem_cons, List.not_mem_nil, or_false]; omega)]; exact g1
      have x2 : eqx [1, o, o + 1, o + 2] w w2 := x1.on (b4.2.up (by simp))
      have l2 : w2.1 1 1 = w.1 1 1 := b4.1.trans (a4.1.trans i6)
      have ent : ∀ j, j < n + 1 → w2.1 (o + 1) j = nI (upn sk n (stp T tp i).2.2.1 j) ∧ w2.1 (o + 2) j = upi sn n (stp T tp i).2.2.2 j := fun j hj => by
        rw [b4.2.r (q := o + 1) (by simp only [List.mem_cons, List.not_mem_nil, or_false]; omega), b4.2.r (q := o + 2) (by simp only [List.mem_cons, List.not_mem_nil, or_false]; omega)]
        unfold upn upi
        by_cases c : j = n
        · rw [if_pos c, if_pos c, c]; exact ⟨g2, g3⟩
        · rw [if_neg c, if_neg c, (a4.2.2 j (by omega)).1, (a4.2.2 j (by omega)).2]; exact i5 j (by omega)
      by_cases s0 : sg T tp (nB T tp (stp T tp i).2.1) = 0
      · rw [scl_0 hs s0] at i4
        subst i4
        rw [s0] at e2
        refine Wp.ofl (a := (-nI 1, w2)) (by unfold f_X8_readFrom_12b; simp (disch := omega) only [pv_v, pv_b2, pv_b1, pv_x, pv_lit, pv_ofN, pu_chk, pu_cl, nI_add, pk_mul, nI_leI, nI_ltI, nI_eq, pu_nar0, pu_nar1, pu_narb, bI_0, bI_1, ↓reduceIte, pu_leT, pu_leF, pu_ltT, pu_ltF, pu_eqT, pu_eqF, pu_x1, pu_x2, pu_x3, pu_x4, pu_x5, pu_x6, pu_x7, pu_x8, Nat.zero_add, pu_m31I, pu_m31, pu_shlI, eq_self, Bool.false_eq_true, Bool.true_eq_false, e1, e2]) ⟨rfl, fun _ => ⟨k2, ent⟩, l2, x2⟩
      · by_cases s5 : sg T tp (nB T tp (stp T tp i).2.1) = 59 ∧ n + 1 ≠ 16
        · rw [scl_g hs s5.1 s5.2] at i4
          rw [s5.1] at e2
          have n16 := s5.2
          have hbT : nB T tp (stp T tp i).2.1 < T := by
            rcases Nat.lt_or_ge (nB T tp (stp T tp i).2.1) T with c | c
            · exact c
            · exact absurd ((sg_0 hT).mpr c) s0
          refine Wp.ofr (a := (nI (n + 1), am_pi w2 1 2 (nI (nB T tp (stp T tp i).2.1 + 1)))) (by unfold f_X8_readFrom_12b; simp (disch := omega) only [pv_v, pv_b2, pv_b1, pv_x, pv_lit, pv_ofN, pu_chk, pu_cl, nI_add, pk_mul, nI_leI, nI_ltI, nI_eq, pu_nar0, pu_nar1, pu_narb, bI_0, bI_1, ↓reduceIte, pu_leT, pu_leF, pu_ltT, pu_ltF, pu_eqT, pu_eqF, pu_x1, pu_x2, pu_x3, pu_x4, pu_x5, pu_x6, pu_x7, pu_x8, Nat.zero_add, pu_m31I, pu_m31, pu_shlI, eq_self, Bool.false_eq_true, Bool.true_eq_false, e1, e2, k2, b2]) ⟨_, rfl, nB T tp (stp T tp i).2.1 + 1, upn sk n (stp T tp i).2.2.1, upi sn n (stp T tp i).2.2.2, hbT, pi_same, ?_, ?_, fun j hj => ?_, ?_, x2.on (eqx.pi (by simp))⟩
          · rw [pi_p (by omega)]; exact k2
          · rw [show 16 - (n + 1) = f by omega]; exact i4
          · rw [pi_p (by omega), pi_p (by omega)]; exact ent j hj
          · rw [pi_k (by decide)]; exact l2
        · rw [scl_b hs s0 s5] at i4
          subst i4
          refine Wp.ofl (a := (nI (nB T tp (stp T tp i).2.1), w2)) ?_ ⟨rfl, (fun q => by cases q), l2, x2⟩
          unfold f_X8_readFrom_12b f_X8_readFrom_57
          by_cases c : sg T tp (nB T tp (stp T tp i).2.1) = 59
          · have n16 : n + 1 = 16 := by omega
            rw [c] at e2
            rw [n16] at k2
            simp (disch := omega) only [pv_v, pv_b2, pv_b1, pv_x, pv_lit, pv_ofN, pu_chk, pu_cl, nI_add, pk_mul, nI_leI, nI_ltI, nI_eq, pu_nar0, pu_nar1, pu_narb, bI_0, bI_1, ↓reduceIte, pu_leT, pu_leF, pu_ltT, pu_ltF, pu_eqT, pu_eqF, pu_x1, pu_x2, pu_x3, pu_x4, pu_x5, pu_x6, pu_x7, pu_x8, Nat.zero_add, pu_m31I, pu_m31, pu_shlI, eq_self, Bool.false_eq_true, Bool.true_eq_false, e1, e2, k2, b2]
          · simp (disch := omega) only [pv_v, pv_b2, pv_b1, pv_x, pv_lit, pv_ofN, pu_chk, pu_cl, nI_add, pk_mul, nI_leI, nI_ltI, nI_eq, pu_nar0, pu_nar1, pu_narb, bI_0, bI_1, ↓reduceIte, pu_leT, pu_leF, pu_ltT, pu_ltF, pu_eqT, pu_eqF, pu_x1, pu_x2, pu_x3, pu_x4, pu_x5, pu_x6, pu_x7, pu_x8, Nat.zero_add, pu_m31I, pu_m31, pu_shlI, eq_self, Bool.false_eq_true, Bool.true_eq_false, e1, e2, k2, b2]
  · obtain ⟨i, sk, sn, i1, i2, i3, i4, i5, i6, i7⟩ := hI
    have i4 : (some i, 16, sk, sn) = R := i4
    subst i4
    refine Wp.ofl (a := (nI i, w')) (by unfold f_X8_readFrom_12b; simp (disch := omega) only [pv_v, pv_b2, pv_b1, pv_x, pv_lit, pv_ofN, pu_chk, pu_cl, nI_add, pk_mul, nI_leI, nI_ltI, nI_eq, pu_nar0, pu_nar1, pu_narb, bI_0, bI_1, ↓reduceIte, pu_leT, pu_leF, pu_ltT, pu_ltF, pu_eqT, pu_eqF, pu_x1, pu_x2, pu_x3, pu_x4, pu_x5, pu_x6, pu_x7, pu_x8, Nat.zero_add, pu_m31I, pu_m31, pu_shlI, eq_self, Bool.false_eq_true, Bool.true_eq_false, i2]) ⟨rfl, (fun q => by cases q), i6, i7⟩
end CSCRIPT3
