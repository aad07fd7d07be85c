/-! pure part: the class's Peeler (wip/whole/pure/10.a.peel.src) -/
theorem pu_k10 {m n : Nat} (h : m < 2 ^ n) (hn : n ≤ 10) : m < 1024 := Nat.lt_of_lt_of_le h (Nat.pow_le_pow_right (n := 2) (by decide) hn)
theorem pu_pow10 {n : Nat} (hn : n ≤ 10) : 2 ^ n ≤ 1024 := Nat.pow_le_pow_right (n := 2) (by decide) hn
theorem pu_T48 {fd : Nat → Nat → Nat} (h : wF fd) : (fd 0 1) * (fd 0 2) ≤ 48 := Nat.mul_le_mul h.2.1 h.2.2.1
theorem pu_sd_p {m u : Nat} : (pu_sd m (2 ^ u) = m) = (m.testBit u = false) := by
  apply propext
  constructor
  · intro h
    have := pu_sd_bit m (2 ^ u) u
    rw [h, pu_p_bit, decide_eq_true rfl] at this
    rw [this, Bool.not_true, Bool.and_false]
  · intro h
    apply Nat.eq_of_testBit_eq
    intro i
    rw [pu_sd_bit, pu_p_bit]
    by_cases e : u = i
    · subst e; rw [h]; rfl
    · rw [decide_eq_false e]; simp
/-- what the Peeler sees: occ: who is in a SLOT; c: CAPTURE -/
def cV (fd : Nat → Nat → Nat) (occ : Nat → Nat) (c : Nat) (w : am_S) : Prop := wF fd ∧ 0 < (fd 0 0) ∧ c ≤ 99 ∧ (∀ s, s < (fd 0 1) * (fd 0 2) → occ s < 2 ^ (fd 0 0)) ∧ w.1 11 11 = nI (fd 0 0) ∧ w.1 11 7 = nI (fd 0 1) ∧ w.1 11 8 = nI (fd 0 2) ∧ w.1 250 5 = nI c ∧ (∀ u, u < (fd 0 0) → w.2.2 251 u = pu_f fd u) ∧ (∀ m, m < 2 ^ (fd 0 0) → w.2.2 252 m = pu_d fd m (fd 0 0)) ∧ (∀ m, m < 2 ^ (fd 0 0) → w.1 253 m = -nI 1 ∨ w.1 253 m = nI (pu_k fd c m)) ∧ (∀ s, s < (fd 0 1) * (fd 0 2) → w.1 254 s = nI (occ s))
section PEEL
variable {fd : Nat → Nat → Nat} {occ : Nat → Nat} {c : Nat} {w w0 : am_S}
theorem c_allSlots (h1 : w.1 11 7 = nI (fd 0 1)) (h2 : w.1 11 8 = nI (fd 0 2)) : f_X1_allSlots 11 w = some (nI ((fd 0 1) * (fd 0 2)), w) := by
  unfold f_X1_allSlots
  rw [h1, h2, pk_mul]
theorem c_everyone (h1 : w.1 11 11 = nI (fd 0 0)) (hn : (fd 0 0) ≤ 10) : f_X1_everyone 11 w = some (nI (2 ^ (fd 0 0) - 1), w) := by
  unfold f_X1_everyone
  simp only [h1, pu_lit]
  rw [pu_shl (by omega), pk_sub (Nat.two_pow_pos _)]
theorem c_clearAmong (h : cV fd occ c w) {m : Nat} (hm : m < 2 ^ (fd 0 0)) : f_X7_clearAmong (nI m) w = some (nI (pu_k fd c m), w) := by
  obtain ⟨hF, hn, hc, ho, e1, e2, e3, e4, e5, e6, e7, e8⟩ := h
  have h10 := hF.1
  have hm10 := pu_k10 hm h10
  unfold f_X7_clearAmong f_X7_clearAmong_4
  refine pu_tr (fun i => (nI (pu_S (fun u => m.testBit u && pu_q fd c (pu_sd m (2 ^ u)) u) i), nI i, w)) (fd 0 0) rfl (by omega) (fun i hi => ?_) ?_
  · have hs := pu_sd_lt (b := 2 ^ i) hm
    have hs10 := pu_k10 hs h10
    have hS := pu_S_n10 (fun u => m.testBit u && pu_q fd c (pu_sd m (2 ^ u)) u) (n := i) (by omega)
    have hb := pu_b_fin hF (o := pu_sd m (2 ^ i)) hc
    have hf := (pu_f_ok hF hi).2.2.2
    have ht := pu_t_le hc
    have hfc := fc_lt (a := pu_f fd i) (b := pu_b fd c (pu_sd m (2 ^ i))) (by rw [fI_v]; omega) (by rw [fI_v]; omega)
    have n1 : ∀ {α : Type} (k : Option α), am_n32 (pu_t c) k = k := fun k => fn_ok (by rw [fI_v]; omega)
    have n2 : ∀ {α : Type} (k : Option α), am_n32 (pu_b fd c (pu_sd m (2 ^ i))) k = k := fun k => fn_ok (by rw [fI_v]; omega)
    have t1 : FP.fdiv (FP.i2f (nI c)) (1092616192 : UInt32) = pu_t c := rfl
    have t2 : FP.fmul (pu_t c) (pu_d fd (pu_sd m (2 ^ i)) (fd 0 0)) = pu_b fd c (pu_sd m (2 ^ i)) := rfl
    unfold f_X7_clearAmong_4b f_X7_clearAmong_75 f_X7_clearAmong_95 f_X7_clearAmong_96
    simp (disch := omega) only [pv_v, pv_b2, pv_b1, pv_x, pv_lit, pv_ofN, pu_chk, pu_cl, nI_add, pk_mul, nI_leI, nI_ltI, nI_eq, pu_nar0, pu_nar1, pu_narb, bI_0, bI_1, ↓reduceIte, pu_leT, pu_leF, pu_ltT, pu_ltF, pu_eqT, pu_eqF, pu_x1, pu_x2, pu_x3, pu_x4, pu_x5, pu_x6, pu_x7, pu_x8, Nat.zero_add, pu_m31I, pu_m31, pu_shlI, eq_self, Bool.false_eq_true, Bool.true_eq_false, e1, e4, pu_andn, t1, t2, n1, n2, e5 i hi, e6 _ hs, hfc, pu_sd_p, pu_or, Nat.or_zero]
    cases hb1 : m.testBit i
    · rw [pu_S_f (by simp [hb1])]
      by_cases hc0 : c = 0
      · simp [hc0]
      · simp [hc0]
    · by_cases hc0 : c = 0
      · by_cases ho0 : pu_sd m (2 ^ i) = 0
        · rw [pu_S_t (by simp [hb1, pu_q, hc0, ho0])]
          simp [hc0, ho0]
        · rw [pu_S_f (by simp [pu_q, hc0, ho0])]
          simp [hc0, ho0]
      · by_cases ho0 : (pu_f fd i).toNat < (pu_b fd c (pu_sd m (2 ^ i))).toNat
        · rw [pu_S_f (by simp [pu_q, hc0, ho0])]
          simp [hc0, ho0]
        · rw [pu_S_t (by simp [hb1, pu_q, hc0, ho0])]
          simp [hc0, ho0]
  · unfold f_X7_clearAmong_4b
    simp (disch := omega) only [pv_v, pv_b2, pv_b1, pv_x, pv_lit, pv_ofN, pu_chk, pu_cl, nI_add, pk_mul, nI_leI, nI_ltI, nI_eq, pu_nar0, pu_nar1, pu_narb, bI_0, bI_1, ↓reduceIte, pu_leT, pu_leF, pu_ltT, pu_ltF, pu_eqT, pu_eqF, pu_x1, pu_x2, pu_x3, pu_x4, pu_x5, pu_x6, pu_x7, pu_x8, Nat.zero_add, pu_m31I, pu_m31, pu_shlI, eq_self, Bool.false_eq_true, Bool.true_eq_false, e1]
    rfl
/-- the Peeler may have come to know more, else all is as it was; U: who is UNKNOWN -/
def cW (fd : Nat → Nat → Nat) (occ : Nat → Nat) (c U : Nat) (w0 w : am_S) : Prop := cV fd occ c w ∧ w.1 250 6 = nI U ∧ eqx [250, 253, 254] w0 w
variable {U : Nat}
theorem c_clearIn (h : cW fd occ c U w0 w) {s X : Nat} (hs : s < (fd 0 1) * (fd 0 2)) (hX : X < 2 ^ (fd 0 0)) : Wp (f_X7_clearIn (nI s) (nI X) w) (fun p => p.1 = nI (pu_k fd c (occ s &&& X)) ∧ cW fd occ c U w0 p.2) := by
  obtain ⟨hV, hu, hx⟩ := h
  have hA := fun m hm => c_clearAmong hV (m := m) hm
  obtain ⟨hF, hn, hc, ho, e1, e2, e3, e4, e5, e6, e7, e8⟩ := id hV
  have h10 := hF.1
  have hT := pu_T48 hF
  have hm : occ s &&& X < 2 ^ (fd 0 0) := Nat.lt_of_le_of_lt Nat.and_le_right hX
  have hm10 := pu_k10 hm h10
  have hk : pu_k fd c (occ s &&& X) < 2 ^ 31 := by have := pu_k10 (pu_k_lt (fd := fd) (c := c) (m := occ s &&& X)) h10; omega
  unfold f_X7_clearIn f_X7_clearIn_30
  rcases e7 _ hm with e | e
  · simp (disch := omega) only [pv_v, pv_b2, pv_b1, pv_x, pv_lit, pv_ofN, pu_chk, pu_cl, nI_add, pk_mul, nI_leI, nI_ltI, nI_eq, pu_nar0, pu_nar1, pu_narb, bI_0, bI_1, ↓reduceIte, pu_leT, pu_leF, pu_ltT, pu_ltF, pu_eqT, pu_eqF, pu_x1, pu_x2, pu_x3, pu_x4, pu_x5, pu_x6, pu_x7, pu_x8, Nat.zero_add, pu_m31I, pu_m31, pu_shlI, eq_self, Bool.false_eq_true, Bool.true_eq_false, e8 s hs, pu_and, e, hA _ hm, pi_same]
    refine Wp.some ⟨rfl, ⟨hF, hn, hc, ho, e1, e2, e3, e4, e5, e6, fun m' hm' => ?_, e8⟩, hu, hx.on (eqx.pi (by simp))⟩
    by_cases hq : m' = occ s &&& X
    · right; rw [hq, pi_same]
    · rw [pi_k hq]; exact e7 m' hm'
  · simp (disch := omega) only [pv_v, pv_b2, pv_b1, pv_x, pv_lit, pv_ofN, pu_chk, pu_cl, nI_add, pk_mul, nI_leI, nI_ltI, nI_eq, pu_nar0, pu_nar1, pu_narb, bI_0, bI_1, ↓reduceIte, pu_leT, pu_leF, pu_ltT, pu_ltF, pu_eqT, pu_eqF, pu_x1, pu_x2, pu_x3, pu_x4, pu_x5, pu_x6, pu_x7, pu_x8, Nat.zero_add, pu_m31I, pu_m31, pu_shlI, eq_self, Bool.false_eq_true, Bool.true_eq_false, e8 s hs, pu_and, e]
    exact Wp.some ⟨rfl, hV, hu, hx⟩
theorem c_clearAnywhere (h : cW fd occ c U w0 w) {X : Nat} (hX : X < 2 ^ (fd 0 0)) : Wp (f_X7_clearAnywhere (nI X) w) (fun p => p.1 = nI (sA (pu_k fd c) occ (fun _ => true) X ((fd 0 1) * (fd 0 2))) ∧ cW fd occ c U w0 p.2) := by
  have hF := h.1.1
  have hT := pu_T48 hF
  have h10 := hF.1
  unfold f_X7_clearAnywhere f_X7_clearAnywhere_4
  refine Wp.for (fun i w => (nI (sA (pu_k fd c) occ (fun _ => true) X i), nI i, w)) (fun _ w => cW fd occ c U w0 w) ((fd 0 1) * (fd 0 2)) (by omega) rfl h (fun i w hi hw => ?_) (fun w hw => ?_)
  · obtain ⟨-, -, -, -, e1, e2, e3, -⟩ := id hw.1
    unfold f_X7_clearAnywhere_4b
    simp (disch := omega) only [pv_v, pv_b2, pv_b1, pv_x, pv_lit, pv_ofN, pu_chk, pu_cl, nI_add, pk_mul, nI_leI, nI_ltI, nI_eq, pu_nar0, pu_nar1, pu_narb, bI_0, bI_1, ↓reduceIte, pu_leT, pu_leF, pu_ltT, pu_ltF, pu_eqT, pu_eqF, pu_x1, pu_x2, pu_x3, pu_x4, pu_x5, pu_x6, pu_x7, pu_x8, Nat.zero_add, pu_m31I, pu_m31, pu_shlI, eq_self, Bool.false_eq_true, Bool.true_eq_false, c_allSlots e2 e3]
    refine Wp.b2 ((c_clearIn hw hi hX).mono ?_)
    rintro ⟨r, w'⟩ ⟨rfl, hw'⟩
    simp (disch := omega) only [pv_v, pv_b2, pv_b1, pv_x, pv_lit, pv_ofN, pu_chk, pu_cl, nI_add, pk_mul, nI_leI, nI_ltI, nI_eq, pu_nar0, pu_nar1, pu_narb, bI_0, bI_1, ↓reduceIte, pu_leT, pu_leF, pu_ltT, pu_ltF, pu_eqT, pu_eqF, pu_x1, pu_x2, pu_x3, pu_x4, pu_x5, pu_x6, pu_x7, pu_x8, Nat.zero_add, pu_m31I, pu_m31, pu_shlI, eq_self, Bool.false_eq_true, Bool.true_eq_false, pu_or]
    exact Wp.some ⟨w', rfl, hw'⟩
  · obtain ⟨-, -, -, -, e1, e2, e3, -⟩ := id hw.1
    unfold f_X7_clearAnywhere_4b
    simp (disch := omega) only [pv_v, pv_b2, pv_b1, pv_x, pv_lit, pv_ofN, pu_chk, pu_cl, nI_add, pk_mul, nI_leI, nI_ltI, nI_eq, pu_nar0, pu_nar1, pu_narb, bI_0, bI_1, ↓reduceIte, pu_leT, pu_leF, pu_ltT, pu_ltF, pu_eqT, pu_eqF, pu_x1, pu_x2, pu_x3, pu_x4, pu_x5, pu_x6, pu_x7, pu_x8, Nat.zero_add, pu_m31I, pu_m31, pu_shlI, eq_self, Bool.false_eq_true, Bool.true_eq_false, c_allSlots e2 e3]
    exact Wp.some ⟨rfl, hw⟩
/-- what is left behind a look at i SLOTS from a on -/
def sP (K occ : Nat → Nat) (sel : Nat → Bool) (a L : Nat) : Nat → Nat
  | 0 => L
  | i + 1 => if sel (a + i) then pu_sd (sP K occ sel a L i) (K (occ (a + i) &&& sP K occ sel a L i)) else sP K occ sel a L i
theorem sP_sb {K : Nat → Nat} {sel : Nat → Bool} {a L : Nat} : ∀ {i : Nat}, sb (sP K occ sel a L (i + 1)) (sP K occ sel a L i) := by
  intro i
  show sb (if _ then _ else _) _
  split
  · exact sb_sd
  · exact sb.rf
theorem sP_sb0 {K : Nat → Nat} {sel : Nat → Bool} {a L : Nat} : ∀ {i j : Nat}, sb (sP K occ sel a L (i + j)) (sP K occ sel a L i)
  | _, 0 => sb.rf
  | i, j + 1 => (sP_sb (i := i + j)).tr (sP_sb0 (i := i) (j := j))
theorem sP_P {K : Nat → Nat} {sel : Nat → Bool} {a b L T V : Nat} (hK : kM K) (hb : b ≤ T) (h : isP K occ sel T V L) : ∀ {i : Nat}, a + i ≤ b → isP K occ sel T V (sP K occ sel a L i)
  | 0, _ => h
  | i + 1, hi => by
    have ih := sP_P (sel := sel) (a := a) hK hb h (i := i) (by omega)
    show isP K occ sel T V (if _ then _ else _)
    cases e : sel (a + i)
    · exact ih
    · exact ih.st hK (fun u hu => sA_bit.mpr ⟨a + i, by omega, e, hu⟩)
theorem sP_R {K : Nat → Nat} {sel : Nat → Bool} {a b L T V : Nat} (hK : kM K) (hab : a ≤ b) (hb : b ≤ T) (hs : ∀ s, s < T → sel s = true → a ≤ s ∧ s < b) (h : isP K occ sel T V L) (he : sP K occ sel a L (b - a) = L) : isR K occ sel T V L := by
  refine ⟨h, sA_zero.mpr (fun s h1 h2 => ?_)⟩
  obtain ⟨h3, h4⟩ := hs s h1 h2
  have key : ∀ i, i ≤ b - a → sP K occ sel a L i = L := by
    intro i hi
    refine sb.eq (by have := sP_sb0 (K := K) (occ := occ) (sel := sel) (a := a) (L := L) (i := 0) (j := i); rwa [Nat.zero_add] at this) ?_
    have := sP_sb0 (K := K) (occ := occ) (sel := sel) (a := a) (L := L) (i := i) (j := b - a - i)
    rw [show i + (b - a - i) = b - a by omega, he] at this
    exact this
  have k1 := key (s - a + 1) (by omega)
  have k0 := key (s - a) (by omega)
  have : sP K occ sel a L (s - a + 1) = if sel (a + (s - a)) then pu_sd (sP K occ sel a L (s - a)) (K (occ (a + (s - a)) &&& sP K occ sel a L (s - a))) else sP K occ sel a L (s - a) := rfl
  rw [show a + (s - a) = s by omega, h2, if_pos rfl, k1, k0] at this
  exact pu_sd_self this.symm ((hK.1 _).tr sb_ar)
/-- SLOTS from a to b but for the barred ones -/
def pu_sel (a b jm s : Nat) : Bool := decide (a ≤ s) && decide (s < b) && !jm.testBit s
theorem c_settle (h : cW fd occ c U w0 w) {X a b jm : Nat} (hX : X < 2 ^ (fd 0 0)) (hab : a ≤ b) (hb : b ≤ (fd 0 1) * (fd 0 2)) (hj : jm < 2 ^ 62) : Wp (f_X7_settle (nI X) (nI a) (nI b) (lN jm) w) (fun p => p.1 = nI (sRR (pu_k fd c) occ (pu_sel a b jm) ((fd 0 1) * (fd 0 2)) X) ∧ cW fd occ c U w0 p.2) := by
  have hF := h.1.1
  have hT := pu_T48 hF
  have h10 := hF.1
  have hK := pu_k_M hF h.1.2.2.1
  have hX10 := pu_k10 hX h10
  unfold f_X7_settle f_X7_settle_6
  refine Wp.loop (fun i s => ∃ L w, s = (nI L, nI i, w) ∧ isP (pu_k fd c) occ (pu_sel a b jm) ((fd 0 1) * (fd 0 2)) X L ∧ cn L + i ≤ 10 ∧ cW fd occ c U w0 w) 10 (by decide) ⟨X, w, rfl, isP.rf, cn_le X, h⟩ ?_
  rintro i _ hi ⟨L, w, rfl, hP, hcn, hw⟩
  have hL := sb_lt hP.1 hX
  have hL10 := pu_k10 hL h10
  unfold f_X7_settle_6b
  simp (disch := omega) only [pv_v, pv_b2, pv_b1, pv_x, pv_lit, pv_ofN, pu_chk, pu_cl, nI_add, pk_mul, nI_leI, nI_ltI, nI_eq, pu_nar0, pu_nar1, pu_narb, bI_0, bI_1, ↓reduceIte, pu_leT, pu_leF, pu_ltT, pu_ltF, pu_eqT, pu_eqF, pu_x1, pu_x2, pu_x3, pu_x4, pu_x5, pu_x6, pu_x7, pu_x8, Nat.zero_add, pu_m31I, pu_m31, pu_shlI, eq_self, Bool.false_eq_true, Bool.true_eq_false]
  unfold f_X7_settle_20
  refine Wp.for (fun j w => (nI (sP (pu_k fd c) occ (pu_sel a b jm) a L j), nI (a + j), w)) (fun _ w => cW fd occ c U w0 w) (b - a) (by omega) rfl hw (fun j w hj1 hw => ?_) (fun w hw => ?_)
  · have hp := sP_P (a := a) hK hb hP (i := j) (by omega)
    have hpl := sb_lt hp.1 hX
    unfold f_X7_settle_20b f_X7_settle_53
    simp (disch := omega) only [pv_v, pv_b2, pv_b1, pv_x, pv_lit, pv_ofN, pu_chk, pu_cl, nI_add, pk_mul, nI_leI, nI_ltI, nI_eq, pu_nar0, pu_nar1, pu_narb, bI_0, bI_1, ↓reduceIte, pu_leT, pu_leF, pu_ltT, pu_ltF, pu_eqT, pu_eqF, pu_x1, pu_x2, pu_x3, pu_x4, pu_x5, pu_x6, pu_x7, pu_x8, Nat.zero_add, pu_m31I, pu_m31, pu_shlI, eq_self, Bool.false_eq_true, Bool.true_eq_false, pu_litL0, pu_litL1, lr_0]
    cases e : jm.testBit (a + j)
    · simp (disch := omega) only [pv_v, pv_b2, pv_b1, pv_x, pv_lit, pv_ofN, pu_chk, pu_cl, nI_add, pk_mul, nI_leI, nI_ltI, nI_eq, pu_nar0, pu_nar1, pu_narb, bI_0, bI_1, ↓reduceIte, pu_leT, pu_leF, pu_ltT, pu_ltF, pu_eqT, pu_eqF, pu_x1, pu_x2, pu_x3, pu_x4, pu_x5, pu_x6, pu_x7, pu_x8, Nat.zero_add, pu_m31I, pu_m31, pu_shlI, eq_self, Bool.false_eq_true, Bool.true_eq_false]
      refine Wp.b2 ((c_clearIn hw (s := a + j) (by omega) hpl).mono ?_)
      rintro ⟨r, w'⟩ ⟨rfl, hw'⟩
      simp (disch := omega) only [pv_v, pv_b2, pv_b1, pv_x, pv_lit, pv_ofN, pu_chk, pu_cl, nI_add, pk_mul, nI_leI, nI_ltI, nI_eq, pu_nar0, pu_nar1, pu_narb, bI_0, bI_1, ↓reduceIte, pu_leT, pu_leF, pu_ltT, pu_ltF, pu_eqT, pu_eqF, pu_x1, pu_x2, pu_x3, pu_x4, pu_x5, pu_x6, pu_x7, pu_x8, Nat.zero_add, pu_m31I, pu_m31, pu_shlI, eq_self, Bool.false_eq_true, Bool.true_eq_false, pu_andn]
      refine Wp.some ⟨w', ?_, hw'⟩
      have : pu_sel a b jm (a + j) = true := by simp [pu_sel, e]; omega
      show _ = (nI (if pu_sel a b jm (a + j) = true then _ else _), _, _)
      rw [if_pos this]
      rfl
    · simp (disch := omega) only [pv_v, pv_b2, pv_b1, pv_x, pv_lit, pv_ofN, pu_chk, pu_cl, nI_add, pk_mul, nI_leI, nI_ltI, nI_eq, pu_nar0, pu_nar1, pu_narb, bI_0, bI_1, ↓reduceIte, pu_leT, pu_leF, pu_ltT, pu_ltF, pu_eqT, pu_eqF, pu_x1, pu_x2, pu_x3, pu_x4, pu_x5, pu_x6, pu_x7, pu_x8, Nat.zero_add, pu_m31I, pu_m31, pu_shlI, eq_self, Bool.false_eq_true, Bool.true_eq_false]
      refine Wp.some ⟨w, ?_, hw⟩
      have : ¬ pu_sel a b jm (a + j) = true := by simp [pu_sel, e]
      show _ = (nI (if pu_sel a b jm (a + j) = true then _ else _), _, _)
      rw [if_neg this]
      rfl
  · have hp := sP_P (a := a) hK hb hP (i := b - a) (by omega)
    have hpl := pu_k10 (sb_lt hp.1 hX) h10
    unfold f_X7_settle_20b
    rw [show a + (b - a) = b by omega]
    simp (disch := omega) only [pv_v, pv_b2, pv_b1, pv_x, pv_lit, pv_ofN, pu_chk, pu_cl, nI_add, pk_mul, nI_leI, nI_ltI, nI_eq, pu_nar0, pu_nar1, pu_narb, bI_0, bI_1, ↓reduceIte, pu_leT, pu_leF, pu_ltT, pu_ltF, pu_eqT, pu_eqF, pu_x1, pu_x2, pu_x3, pu_x4, pu_x5, pu_x6, pu_x7, pu_x8, Nat.zero_add, pu_m31I, pu_m31, pu_shlI, eq_self, Bool.false_eq_true, Bool.true_eq_false]
    by_cases e : sP (pu_k fd c) occ (pu_sel a b jm) a L (b - a) = L
    · simp (disch := omega) only [pv_v, pv_b2, pv_b1, pv_x, pv_lit, pv_ofN, pu_chk, pu_cl, nI_add, pk_mul, nI_leI, nI_ltI, nI_eq, pu_nar0, pu_nar1, pu_narb, bI_0, bI_1, ↓reduceIte, pu_leT, pu_leF, pu_ltT, pu_ltF, pu_eqT, pu_eqF, pu_x1, pu_x2, pu_x3, pu_x4, pu_x5, pu_x6, pu_x7, pu_x8, Nat.zero_add, pu_m31I, pu_m31, pu_shlI, eq_self, Bool.false_eq_true, Bool.true_eq_false, e]
      refine Wp.some ⟨?_, hw⟩
      rw [sRR_uq hK hX10 (sP_R hK hab hb (fun s _ hs => by simp [pu_sel] at hs; omega) hP e)]
    · simp (disch := omega) only [pv_v, pv_b2, pv_b1, pv_x, pv_lit, pv_ofN, pu_chk, pu_cl, nI_add, pk_mul, nI_leI, nI_ltI, nI_eq, pu_nar0, pu_nar1, pu_narb, bI_0, bI_1, ↓reduceIte, pu_leT, pu_leF, pu_ltT, pu_ltF, pu_eqT, pu_eqF, pu_x1, pu_x2, pu_x3, pu_x4, pu_x5, pu_x6, pu_x7, pu_x8, Nat.zero_add, pu_m31I, pu_m31, pu_shlI, eq_self, Bool.false_eq_true, Bool.true_eq_false, e]
      have h1 := sP_sb0 (K := pu_k fd c) (occ := occ) (sel := pu_sel a b jm) (a := a) (L := L) (i := 0) (j := b - a)
      rw [Nat.zero_add] at h1
      have h2 := cn_lt (a := sP (pu_k fd c) occ (pu_sel a b jm) a L (b - a)) (b := L) h1 hL10 e
      exact Wp.some ⟨by omega, _, w, rfl, hp, by omega, hw⟩
theorem c_stuckOf (h : cW fd occ c U w0 w) {X : Nat} (hX : X < 2 ^ (fd 0 0)) : Wp (f_X7_stuckOf (nI X) w) (fun p => p.1 = nI (sRR (pu_k fd c) occ (fun _ => true) ((fd 0 1) * (fd 0 2)) X) ∧ cW fd occ c U w0 p.2) := by
  have hF := h.1.1
  obtain ⟨-, -, -, -, e1, e2, e3, -⟩ := id h.1
  unfold f_X7_stuckOf
  rw [c_allSlots e2 e3, pu_b2]
  refine Wp.b2 ((c_settle h hX (a := 0) (b := (fd 0 1) * (fd 0 2)) (jm := 0) (Nat.zero_le _) (Nat.le_refl _) (by decide)).mono ?_)
  rintro ⟨r, w'⟩ ⟨rfl, hw'⟩
  refine Wp.some ⟨?_, hw'⟩
  rw [sRR_cong (occ' := occ) (sel' := fun _ => true) (fun s hs => ⟨rfl, by simp [pu_sel, hs]⟩)]
end PEEL
