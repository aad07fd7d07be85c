/-! pure part: STRENGTH, DIN, MARGIN as calls (wip/whole/pure/21.d.din.src) -/
section DIN
variable {fd : Nat → Nat → Nat} {z z' : Zt} {o o' : Ot} {w w' w0 : am_S} {j : Nat} {occ : Nat → Nat} {c U : Nat}
theorem both_strength (a : Int32) : Both j fd z o (fun a b => a = b) (f_X11_strength a) (f_X12_strength a) := by
  intro w hc hr hb hnf
  have h10 := hc.wF.1
  cases e : ix (fd 0 0) a with
  | none =>
    refine Both.val (-nI 1) rfl (fun w h => ?_) (fun w h => ?_) w hc hr hb hnf
    · unfold f_X11_strength f_X11_strength_24
      simp (disch := omega) only [pv_v, pv_b2, pv_b1, pv_x, pv_lit, pv_ofN, pu_chk, pu_cl, nI_add, pk_mul, nI_leI, nI_ltI, nI_eq, pu_nar0, pu_nar1, pu_narb, bI_0, bI_1, ↓reduceIte, pu_leT, pu_leF, pu_ltT, pu_ltF, pu_eqT, pu_eqF, pu_x1, pu_x2, pu_x3, pu_x4, pu_x5, pu_x6, pu_x7, pu_x8, Nat.zero_add, pu_m31I, pu_m31, pu_shlI, eq_self, Bool.false_eq_true, Bool.true_eq_false, h.u0 e]
    · unfold f_X12_strength f_X12_strength_21
      simp (disch := omega) only [pv_v, pv_b2, pv_b1, pv_x, pv_lit, pv_ofN, pu_chk, pu_cl, nI_add, pk_mul, nI_leI, nI_ltI, nI_eq, pu_nar0, pu_nar1, pu_narb, bI_0, bI_1, ↓reduceIte, pu_leT, pu_leF, pu_ltT, pu_ltF, pu_eqT, pu_eqF, pu_x1, pu_x2, pu_x3, pu_x4, pu_x5, pu_x6, pu_x7, pu_x8, Nat.zero_add, pu_m31I, pu_m31, pu_shlI, eq_self, Bool.false_eq_true, Bool.true_eq_false, h.u0 e]
  | some u =>
    obtain ⟨t1, t2, t3⟩ := ix_s e
    subst t2
    obtain ⟨_, _, f1, f2⟩ := pu_f_ok hc.wF t1
    refine Both.val (nI (pu_f fd u).toNat) rfl (fun w h => ?_) (fun w h => ?_) w hc hr hb hnf
    · have h1 : w.2.2 251 u = pu_f fd u := h.T.1 u t1
      unfold f_X11_strength f_X11_strength_24
      simp (disch := omega) only [pv_v, pv_b2, pv_b1, pv_x, pv_lit, pv_ofN, pu_chk, pu_cl, nI_add, pk_mul, nI_leI, nI_ltI, nI_eq, pu_nar0, pu_nar1, pu_narb, bI_0, bI_1, ↓reduceIte, pu_leT, pu_leF, pu_ltT, pu_ltF, pu_eqT, pu_eqF, pu_x1, pu_x2, pu_x3, pu_x4, pu_x5, pu_x6, pu_x7, pu_x8, Nat.zero_add, pu_m31I, pu_m31, pu_shlI, eq_self, Bool.false_eq_true, Bool.true_eq_false, h.u1 t1, h1, c_single (w := w) (a := pu_f fd u) (by omega) (by omega)]
    · have h1 : w.2.2 283 u = pu_f fd u := h.F.2.2.2.2.2.2 u t1
      unfold f_X12_strength f_X12_strength_21
      simp (disch := omega) only [pv_v, pv_b2, pv_b1, pv_x, pv_lit, pv_ofN, pu_chk, pu_cl, nI_add, pk_mul, nI_leI, nI_ltI, nI_eq, pu_nar0, pu_nar1, pu_narb, bI_0, bI_1, ↓reduceIte, pu_leT, pu_leF, pu_ltT, pu_ltF, pu_eqT, pu_eqF, pu_x1, pu_x2, pu_x3, pu_x4, pu_x5, pu_x6, pu_x7, pu_x8, Nat.zero_add, pu_m31I, pu_m31, pu_shlI, eq_self, Bool.false_eq_true, Bool.true_eq_false, h.u1 t1, h1, r_single (w := w) (a := pu_f fd u) (by omega)]
theorem fa_up2 {a b : UInt32} (ha : a.toNat < fp_I Jvm.FP.Core.b32) (hb : b.toNat < fp_I Jvm.FP.Core.b32) : b.toNat ≤ (FP.fadd a b).toNat := by
  rw [fa_nat ha hb]
  have h1 := fp_mono1 (M := 0) (show fp_V Jvm.FP.Core.b32 b.toNat ≤ fp_V Jvm.FP.Core.b32 a.toNat + fp_V Jvm.FP.Core.b32 b.toNat by omega)
  rw [fp_ex0 fp_ok32] at h1
  omega
theorem t_0 : (pu_t 0).toNat = 0 := by decide +kernel
theorem t_1 : (pu_t 1).toNat = 1036831949 := by decide +kernel
theorem t_lo {c : Nat} (h : c ≤ 99) : (pu_t c).toNat = 0 ∧ c = 0 ∨ 1036831949 ≤ (pu_t c).toNat := by
  rcases Nat.eq_zero_or_pos c with e | e
  · left; rw [e]; exact ⟨t_0, rfl⟩
  · right; rw [← t_1]; exact pu_t_mono e h
theorem d_lo (h : wF fd) {m : Nat} : ∀ i, i ≤ (fd 0 0) → (pu_d fd m i).toNat = 0 ∨ 981467136 ≤ (pu_d fd m i).toNat
  | 0, _ => by
    rcases t_lo h.2.2.2.2.1 with e | e
    · exact .inl e.1
    · right
      show _ ≤ (pu_t (fd 0 3)).toNat
      omega
  | i + 1, hi => by
    have ih := d_lo h (m := m) i (by omega)
    have hI := fI_v
    have hd := pu_d_fin h (m := m) (i := i) (by omega)
    have hf := (pu_f_ok h (u := i) (by omega)).2.2
    cases e : m.testBit i
    · rw [pu_d_f e]; exact ih
    · rw [pu_d_t e]
      right
      exact Nat.le_trans hf.1 (fa_up2 (by omega) (by omega))
theorem b_low : 947912704 ≤ (FP.fmul (1036831949 : UInt32) (981467136 : UInt32)).toNat := by decide +kernel
theorem b_lo (h : wF fd) {c x : Nat} (hc : c ≤ 99) : (pu_b fd c x).toNat = 0 ∨ 947912704 ≤ (pu_b fd c x).toNat := by
  have hI := fI_v
  have hd := pu_d_fin h (m := x) (i := (fd 0 0)) (Nat.le_refl _)
  have ht := pu_t_le hc
  have z1 : ∀ {a b : UInt32}, a.toNat < fp_I Jvm.FP.Core.b32 → b.toNat < fp_I Jvm.FP.Core.b32 → (a.toNat = 0 ∨ b.toNat = 0) → (FP.fmul a b).toNat = 0 := by
    intro a b ha hb h0
    have : fp_V Jvm.FP.Core.b32 a.toNat * fp_V Jvm.FP.Core.b32 b.toNat = 0 := by
      rcases h0 with e | e
      · rw [e, fp_V_0, Nat.zero_mul]
      · rw [e, fp_V_0, Nat.mul_zero]
    rw [fm_nat ha hb, this]
    unfold fp_P
    rw [if_pos rfl, Nat.zero_min]
  unfold pu_b
  rcases t_lo hc with e | e
  · left; exact z1 (by omega) (by omega) (.inl e.1)
  · rcases d_lo h (m := x) (fd 0 0) (Nat.le_refl _) with g | g
    · left; exact z1 (by omega) (by omega) (.inr g)
    · right
      exact Nat.le_trans b_low (fm_mono e g (by omega) (by omega))
theorem c_dinFor (h : cW fd occ c U w0 w) (hU : U < 2 ^ (fd 0 0)) {u s : Nat} (hu : u < (fd 0 0)) (hs : s < (fd 0 1) * (fd 0 2)) : f_X7_dinFor (nI u) (nI s) w = some (pu_d fd (pu_sd (occ s &&& U) (2 ^ u)) (fd 0 0), w) := by
  have h10 := h.F.1
  have hSF := SF_le h.F
  have o1 := h.o s hs
  have hk : pu_sd (occ s &&& U) (2 ^ u) < 2 ^ (fd 0 0) := pu_sd_lt (Nat.lt_of_le_of_lt Nat.and_le_left (h.ol s hs))
  have hk2 := k_10 h.F hk
  have d1 := h.di _ hk
  unfold f_X7_dinFor
  simp (disch := omega) only [pv_v, pv_b2, pv_b1, pv_x, pv_lit, pv_ofN, pu_chk, pu_cl, nI_add, pk_mul, nI_leI, nI_ltI, nI_eq, pu_nar0, pu_nar1, pu_narb, bI_0, bI_1, ↓reduceIte, pu_leT, pu_leF, pu_ltT, pu_ltF, pu_eqT, pu_eqF, pu_x1, pu_x2, pu_x3, pu_x4, pu_x5, pu_x6, pu_x7, pu_x8, Nat.zero_add, pu_m31I, pu_m31, pu_shlI, eq_self, Bool.false_eq_true, Bool.true_eq_false, o1, h.u, pu_and, pu_andn, d1]
theorem both_din (a b : Int32) : Both j fd z o (fun a b => a = b) (f_X11_din a b) (f_X12_din a b) := by
  intro w hc hr hb hnf
  have hF := hc.wF
  have h10 := hF.1
  have hSF := SF_le hF
  rcases open_c (o := o) hF hc.wS a b with ⟨u, s, u1, s1, rfl, rfl, k0, kb, g1, g2⟩ | ⟨g1, g2⟩
  · have n0 : 0 < (fd 0 0) := by omega
    have l1 := d_lo hF (m := pu_sd (pu_o fd z.1 s &&& pu_u fd z.1) (2 ^ u)) (fd 0 0) (Nat.le_refl _)
    have l2 := pu_d_fin hF (m := pu_sd (pu_o fd z.1 s &&& pu_u fd z.1) (2 ^ u)) (i := (fd 0 0)) (Nat.le_refl _)
    refine Both.ask (· = nI (pu_d fd (pu_sd (pu_o fd z.1 s &&& pu_u fd z.1) (2 ^ u)) (fd 0 0)).toNat) eq_2 (fun w h => ?_) (fun w h => ?_) w hc hr hb hnf
    · obtain ⟨w1, e1, hW⟩ := h.look n0
      have e2 := c_dinFor hW U_lt u1 s1
      refine ⟨(nI (pu_d fd (pu_sd (pu_o fd z.1 s &&& pu_u fd z.1) (2 ^ u)) (fd 0 0)).toNat, w1), ?_, rfl, hW.e⟩
      have e3 := c_single (w := w1) (a := pu_d fd (pu_sd (pu_o fd z.1 s &&& pu_u fd z.1) (2 ^ u)) (fd 0 0)) (by omega) (by omega)
      unfold f_X11_din
      simp (disch := omega) only [pv_v, pv_b2, pv_b1, pv_x, pv_lit, pv_ofN, pu_chk, pu_cl, nI_add, pk_mul, nI_leI, nI_ltI, nI_eq, pu_nar0, pu_nar1, pu_narb, bI_0, bI_1, ↓reduceIte, pu_leT, pu_leF, pu_ltT, pu_ltF, pu_eqT, pu_eqF, pu_x1, pu_x2, pu_x3, pu_x4, pu_x5, pu_x6, pu_x7, pu_x8, Nat.zero_add, pu_m31I, pu_m31, pu_shlI, eq_self, Bool.false_eq_true, Bool.true_eq_false, g1 w h, e1, e2, e3]
    · have e2 := r_dinAt h.Q u1 (s := s) (by omega)
      refine ⟨(nI (pu_d fd (pu_sd (pu_o fd z.1 s &&& pu_u fd z.1) (2 ^ u)) (fd 0 0)).toNat, w), ?_, rfl, eqx.rf⟩
      have e3 := r_single (w := w) (a := pu_d fd (pu_sd (pu_o fd z.1 s &&& pu_u fd z.1) (2 ^ u)) (fd 0 0)) (by omega)
      unfold f_X12_din f_X12_din_22
      simp (disch := omega) only [pv_v, pv_b2, pv_b1, pv_x, pv_lit, pv_ofN, pu_chk, pu_cl, nI_add, pk_mul, nI_leI, nI_ltI, nI_eq, pu_nar0, pu_nar1, pu_narb, bI_0, bI_1, ↓reduceIte, pu_leT, pu_leF, pu_ltT, pu_ltF, pu_eqT, pu_eqF, pu_x1, pu_x2, pu_x3, pu_x4, pu_x5, pu_x6, pu_x7, pu_x8, Nat.zero_add, pu_m31I, pu_m31, pu_shlI, eq_self, Bool.false_eq_true, Bool.true_eq_false, g2 w h, e2, e3]
  · refine Both.val (-nI 1) rfl (fun w h => ?_) (fun w h => ?_) w hc hr hb hnf
    · unfold f_X11_din
      simp (disch := omega) only [pv_v, pv_b2, pv_b1, pv_x, pv_lit, pv_ofN, pu_chk, pu_cl, nI_add, pk_mul, nI_leI, nI_ltI, nI_eq, pu_nar0, pu_nar1, pu_narb, bI_0, bI_1, ↓reduceIte, pu_leT, pu_leF, pu_ltT, pu_ltF, pu_eqT, pu_eqF, pu_x1, pu_x2, pu_x3, pu_x4, pu_x5, pu_x6, pu_x7, pu_x8, Nat.zero_add, pu_m31I, pu_m31, pu_shlI, eq_self, Bool.false_eq_true, Bool.true_eq_false, g1 w h]
    · unfold f_X12_din f_X12_din_22
      simp (disch := omega) only [pv_v, pv_b2, pv_b1, pv_x, pv_lit, pv_ofN, pu_chk, pu_cl, nI_add, pk_mul, nI_leI, nI_ltI, nI_eq, pu_nar0, pu_nar1, pu_narb, bI_0, bI_1, ↓reduceIte, pu_leT, pu_leF, pu_ltT, pu_ltF, pu_eqT, pu_eqF, pu_x1, pu_x2, pu_x3, pu_x4, pu_x5, pu_x6, pu_x7, pu_x8, Nat.zero_add, pu_m31I, pu_m31, pu_shlI, eq_self, Bool.false_eq_true, Bool.true_eq_false, g2 w h]
/-- the bits of a MARGIN: 0, or no subnormal one -/
theorem fsub_ok {a b : UInt32} (ha : 981467136 ≤ a.toNat) (ha2 : a.toNat < 2139095040) (hb : b.toNat = 0 ∨ 947912704 ≤ b.toNat) (hb2 : b.toNat < 2139095040) : ((FP.fsub a b).toNat < 2139095040 ∧ ((FP.fsub a b).toNat = 0 ∨ 8388608 ≤ (FP.fsub a b).toNat)) ∨ ∃ x, (FP.fsub a b).toNat = 2147483648 + x ∧ 8388608 ≤ x ∧ x < 2139095040 := by
  have hI := fI_v
  have ht := fs_t
  have d1 : 2 ^ 112 ∣ fp_V Jvm.FP.Core.b32 a.toNat := fn_mult (by rw [ht]; omega)
  have d2 : 2 ^ 112 ∣ fp_V Jvm.FP.Core.b32 b.toNat := by
    rcases hb with e | e
    · rw [e, fp_V_0]; exact Nat.dvd_zero _
    · exact fn_mult (by rw [ht]; omega)
  have low : ∀ d, 2 ^ 112 ∣ d → 0 < d → 8388608 ≤ fp_P Jvm.FP.Core.b32 0 d 1 := fun d h0 h1 => by
    have h2 : 2 ^ 112 ≤ d := Nat.le_of_dvd h1 h0
    have h3 := fp_m0 fp_ok32 (a := fp_V Jvm.FP.Core.b32 8388608) (b := d) (by
      rw [show fp_V Jvm.FP.Core.b32 8388608 = 8388608 by decide +kernel]
      exact Nat.le_trans (by decide) h2)
    rwa [fp_ex0 fp_ok32] at h3
  rcases Nat.lt_or_ge a.toNat b.toNat with h | h
  · right
    have hV := (fp_V_lt fp_ok32).mpr h
    have e1 := fn_sub fp_ok32 (x := a.toNat) (y := b.toNat) (by omega) h
    rw [fs_sg] at e1
    have h1 := fp_m0 fp_ok32 (show fp_V Jvm.FP.Core.b32 b.toNat - fp_V Jvm.FP.Core.b32 a.toNat ≤ fp_V Jvm.FP.Core.b32 b.toNat by omega)
    rw [fp_ex0 fp_ok32] at h1
    have h2 := low _ (Nat.dvd_sub d2 d1) (by omega)
    refine ⟨fp_P Jvm.FP.Core.b32 0 (fp_V Jvm.FP.Core.b32 b.toNat - fp_V Jvm.FP.Core.b32 a.toNat) 1, ?_, h2, by omega⟩
    show (UInt32.ofNat (Jvm.FP.Core.sub Jvm.FP.Core.b32 a.toNat b.toNat)).toNat = _
    rw [e1, UInt32.toNat_ofNat_of_lt' (show _ < 4294967296 by omega)]
  · left
    have hV := (fp_V_le fp_ok32).mpr h
    have e1 := fp_sub fp_ok32 (x := a.toNat) (y := b.toNat) (by omega) h
    have h1 := fp_m0 fp_ok32 (show fp_V Jvm.FP.Core.b32 a.toNat - fp_V Jvm.FP.Core.b32 b.toNat ≤ fp_V Jvm.FP.Core.b32 a.toNat by omega)
    rw [fp_ex0 fp_ok32] at h1
    have e2 : (FP.fsub a b).toNat = fp_P Jvm.FP.Core.b32 0 (fp_V Jvm.FP.Core.b32 a.toNat - fp_V Jvm.FP.Core.b32 b.toNat) 1 := by
      show (UInt32.ofNat (Jvm.FP.Core.sub Jvm.FP.Core.b32 a.toNat b.toNat)).toNat = _
      rw [e1, fo_nat (by omega)]
    rw [e2]
    refine ⟨by omega, ?_⟩
    rcases Nat.eq_zero_or_pos (fp_V Jvm.FP.Core.b32 a.toNat - fp_V Jvm.FP.Core.b32 b.toNat) with z | z
    · left
      rw [z]
      unfold fp_P
      rw [if_pos rfl]
    · right; exact low _ (Nat.dvd_sub d1 d2) z
theorem both_margin (a b : Int32) : Both j fd z o (fun a b => a = b) (f_X11_margin a b) (f_X12_margin a b) := by
  intro w hc hr hb hnf
  have hI := fI_v
  have hF := hc.wF
  have h10 := hF.1
  have hcap := hc.wS.1
  have hSF := SF_le hF
  rcases open_c (o := o) hF hc.wS a b with ⟨u, s, u1, s1, rfl, rfl, k0, kb, g1, g2⟩ | ⟨g1, g2⟩
  · have n0 : 0 < (fd 0 0) := by omega
    have l2 := pu_d_fin hF (m := pu_sd (pu_o fd z.1 s &&& pu_u fd z.1) (2 ^ u)) (i := (fd 0 0)) (Nat.le_refl _)
    generalize hD : pu_sd (pu_o fd z.1 s &&& pu_u fd z.1) (2 ^ u) = D at l2
    have l1 := b_lo hF (x := D) hcap
    have l3 := pu_b_fin hF (o := D) hcap
    have l4 := pu_t_le hcap
    obtain ⟨_, _, f1, f2⟩ := pu_f_ok hF u1
    generalize hB : pu_b fd (z.1 2 0) D = B at l1 l3
    have hB' : FP.fmul (FP.fdiv (FP.i2f (nI (z.1 2 0))) (1092616192 : UInt32)) (pu_d fd D (fd 0 0)) = B := hB
    have hok := fsub_ok f1 (by omega) l1 (by omega)
    have n1 : ∀ {α : Type} {k : Option α}, am_n32 (FP.fsub (pu_f fd u) B) k = k := fun {α} {k} => by
      rcases hok with ⟨x1, _⟩ | ⟨x, x1, x2, x3⟩
      · exact fn_ok (by omega)
      · exact fn_okn x1 x3
    have s1c : ∀ w, f_X11_singleBits (FP.fsub (pu_f fd u) B) w = some (nI (FP.fsub (pu_f fd u) B).toNat, w) := fun w => by
      rcases hok with ⟨x1, x2⟩ | ⟨x, x1, x2, x3⟩
      · exact c_single x2 x1
      · exact c_singleN x1 x2 x3
    have s1r : ∀ w, f_Jxf58ca_floatToIntBits_5c35a (FP.fsub (pu_f fd u) B) w = some (nI (FP.fsub (pu_f fd u) B).toNat, w) := fun w => by
      rcases hok with ⟨x1, x2⟩ | ⟨x, x1, x2, x3⟩
      · exact r_single x1
      · exact r_singleN x1 x3
    have hB2 : B.toNat < fp_I Jvm.FP.Core.b32 := by omega
    have hT2 : (FP.fdiv (FP.i2f (nI (z.1 2 0))) (1092616192 : UInt32)).toNat < fp_I Jvm.FP.Core.b32 := by
      show (pu_t (z.1 2 0)).toNat < _
      omega
    refine Both.ask (· = nI (FP.fsub (pu_f fd u) B).toNat) eq_2 (fun w h => ?_) (fun w h => ?_) w hc hr hb hnf
    · obtain ⟨w1, e1, hW⟩ := h.look n0
      have e2 := c_dinFor hW U_lt u1 s1
      rw [hD] at e2
      have e4 : w1.1 250 5 = nI (z.1 2 0) := hW.1.2.2.2.2.2.2.2.1
      have e5 := hW.st u u1
      refine ⟨(nI (FP.fsub (pu_f fd u) B).toNat, w1), ?_, rfl, hW.e⟩
      unfold f_X11_margin f_X7_marginOf
      simp (disch := omega) only [pv_v, pv_b2, pv_b1, pv_x, pv_lit, pv_ofN, pu_chk, pu_cl, nI_add, pk_mul, nI_leI, nI_ltI, nI_eq, pu_nar0, pu_nar1, pu_narb, bI_0, bI_1, ↓reduceIte, pu_leT, pu_leF, pu_ltT, pu_ltF, pu_eqT, pu_eqF, pu_x1, pu_x2, pu_x3, pu_x4, pu_x5, pu_x6, pu_x7, pu_x8, Nat.zero_add, pu_m31I, pu_m31, pu_shlI, eq_self, Bool.false_eq_true, Bool.true_eq_false, g1 w h, e1, e4, fn_ok hT2, e2, hB', fn_ok hB2, e5, n1, s1c]
    · have e2 := r_bar h.Q u1 (s := s) (by omega)
      rw [hD, hB] at e2
      have e5 : w.2.2 283 u = pu_f fd u := h.F.2.2.2.2.2.2 u u1
      refine ⟨(nI (FP.fsub (pu_f fd u) B).toNat, w), ?_, rfl, eqx.rf⟩
      unfold f_X12_margin f_X12_margin_29
      simp (disch := omega) only [pv_v, pv_b2, pv_b1, pv_x, pv_lit, pv_ofN, pu_chk, pu_cl, nI_add, pk_mul, nI_leI, nI_ltI, nI_eq, pu_nar0, pu_nar1, pu_narb, bI_0, bI_1, ↓reduceIte, pu_leT, pu_leF, pu_ltT, pu_ltF, pu_eqT, pu_eqF, pu_x1, pu_x2, pu_x3, pu_x4, pu_x5, pu_x6, pu_x7, pu_x8, Nat.zero_add, pu_m31I, pu_m31, pu_shlI, eq_self, Bool.false_eq_true, Bool.true_eq_false, g2 w h, e2, e5, n1, s1r]
  · refine Both.val (-nI 1) rfl (fun w h => ?_) (fun w h => ?_) w hc hr hb hnf
    · unfold f_X11_margin
      simp (disch := omega) only [pv_v, pv_b2, pv_b1, pv_x, pv_lit, pv_ofN, pu_chk, pu_cl, nI_add, pk_mul, nI_leI, nI_ltI, nI_eq, pu_nar0, pu_nar1, pu_narb, bI_0, bI_1, ↓reduceIte, pu_leT, pu_leF, pu_ltT, pu_ltF, pu_eqT, pu_eqF, pu_x1, pu_x2, pu_x3, pu_x4, pu_x5, pu_x6, pu_x7, pu_x8, Nat.zero_add, pu_m31I, pu_m31, pu_shlI, eq_self, Bool.false_eq_true, Bool.true_eq_false, g1 w h]
    · unfold f_X12_margin f_X12_margin_29
      simp (disch := omega) only [pv_v, pv_b2, pv_b1, pv_x, pv_lit, pv_ofN, pu_chk, pu_cl, nI_add, pk_mul, nI_leI, nI_ltI, nI_eq, pu_nar0, pu_nar1, pu_narb, bI_0, bI_1, ↓reduceIte, pu_leT, pu_leF, pu_ltT, pu_ltF, pu_eqT, pu_eqF, pu_x1, pu_x2, pu_x3, pu_x4, pu_x5, pu_x6, pu_x7, pu_x8, Nat.zero_add, pu_m31I, pu_m31, pu_shlI, eq_self, Bool.false_eq_true, Bool.true_eq_false, g2 w h]
end DIN
