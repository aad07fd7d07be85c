/-! pure part: FEED, END (wip/whole/pure/20.b.feed.src) -/
/-- a byte of a word, the highest first -/
def yb (x : Int32) (i : Nat) : Nat := x.toBitVec.toNat / 2 ^ (24 - 8 * i) % 256
theorem yb_lt (x : Int32) (i : Nat) : yb x i < 256 := Nat.mod_lt _ (by decide)
theorem yb_and (b : BitVec 32) (s : Nat) (hs : s ≤ 24) : (BitVec.sshiftRight b s) &&& 255#32 = BitVec.ofNat 32 (b.toNat / 2 ^ s % 256) := by
  apply BitVec.eq_of_getLsbD_eq
  intro i hi
  rw [BitVec.getLsbD_and, BitVec.getLsbD_sshiftRight, BitVec.getLsbD_ofNat, BitVec.getLsbD_ofNat, show (256 : Nat) = 2 ^ 8 from rfl, Nat.testBit_mod_two_pow, Nat.testBit_div_two_pow, show (255 : Nat) = 2 ^ 8 - 1 from rfl, Nat.testBit_two_pow_sub_one]
  by_cases h : i < 8
  · have h2 : s + i < 32 := by omega
    have h3 : ¬ 32 ≤ i := by omega
    simp only [hi, h, h2, h3, decide_true, decide_false, Bool.not_false, Bool.true_and, Bool.and_true, ↓reduceIte]
    rw [BitVec.testBit_toNat, Nat.add_comm]
  · simp only [h, decide_false, Bool.false_and, Bool.and_false]
theorem yb_and2 (b : BitVec 32) (s : Nat) (hs : s ≤ 24) : (b >>> s) &&& 255#32 = BitVec.ofNat 32 (b.toNat / 2 ^ s % 256) := by
  apply BitVec.eq_of_toNat_eq
  rw [BitVec.toNat_and, BitVec.toNat_ushiftRight, Nat.shiftRight_eq_div_pow, BitVec.toNat_ofNat, BitVec.toNat_ofNat, show 255 % 2 ^ 32 = 2 ^ 8 - 1 by decide, Nat.and_two_pow_sub_one_eq_mod, show (2 ^ 8 : Nat) = 256 by decide, Nat.mod_eq_of_lt (a := _ % 256) (by omega)]
theorem yb_c (x : Int32) {i : Nat} (hi : i < 4) : am_iushr x (nI (24 - 8 * i)) &&& nI 255 = nI (yb x i) := by
  apply Int32.toBitVec_inj.mp
  have h : (am_iushr x (nI (24 - 8 * i))).toBitVec = x.toBitVec >>> (24 - 8 * i) := by
    rcases (show i = 0 ∨ i = 1 ∨ i = 2 ∨ i = 3 by omega) with e | e | e | e <;> subst e <;> rfl
  rw [Int32.toBitVec_and, h]
  exact yb_and2 _ _ (by omega)
theorem yb_r (x : Int32) {i : Nat} (hi : i < 4) : x >>> (nI (24 - 8 * i)) &&& nI 255 = nI (yb x i) := by
  apply Int32.toBitVec_inj.mp
  have h : (x >>> (nI (24 - 8 * i))).toBitVec = x.toBitVec.sshiftRight (24 - 8 * i) := by
    rcases (show i = 0 ∨ i = 1 ∨ i = 2 ∨ i = 3 by omega) with e | e | e | e <;> subst e <;> rfl
  rw [Int32.toBitVec_and, h]
  exact yb_and _ _ (by omega)
/-- the word of a byte -/
def wd (a b c d e : Int32) (i : Nat) : Int32 := if i = 0 then a else if i = 1 then b else if i = 2 then c else if i = 3 then d else e
def ap (p : Nat × (Nat → Nat)) (c : Nat) : Nat × (Nat → Nat) := if c = 0 then p else (p.1 + 1, upn p.2 p.1 c)
def apn (p : Nat × (Nat → Nat)) (f : Nat → Nat) : Nat → Nat × (Nat → Nat)
  | 0 => p
  | n + 1 => ap (apn p f n) (f n)
def yn (f : Nat → Nat) (n : Nat) : Nat := pu_C (fun i => !(f i == 0)) n
theorem apn_1 (p : Nat × (Nat → Nat)) (f : Nat → Nat) : ∀ n, (apn p f n).1 = p.1 + yn f n
  | 0 => rfl
  | n + 1 => by
    show (ap (apn p f n) (f n)).1 = p.1 + pu_C (fun i => !(f i == 0)) (n + 1)
    have ih := apn_1 p f n
    unfold yn at ih
    rw [pu_C_succ]
    unfold ap
    by_cases h : f n = 0
    · rw [if_pos h, ih, h]; rfl
    · rw [if_neg h]
      have : (!(f n == 0)) = true := by simp [h]
      rw [if_pos this]
      show (apn p f n).1 + 1 = _
      rw [ih]; omega
theorem apn_add (p : Nat × (Nat → Nat)) (f : Nat → Nat) (m : Nat) : ∀ n, apn p f (m + n) = apn (apn p f m) (fun i => f (m + i)) n
  | 0 => rfl
  | n + 1 => by
    show ap (apn p f (m + n)) (f (m + n)) = ap (apn (apn p f m) (fun i => f (m + i)) n) (f (m + n))
    rw [apn_add p f m n]
theorem apn_cong (p : Nat × (Nat → Nat)) {f g : Nat → Nat} : ∀ {n}, (∀ i, i < n → f i = g i) → apn p f n = apn p g n
  | 0, _ => rfl
  | n + 1, h => by
    show ap (apn p f n) (f n) = ap (apn p g n) (g n)
    rw [apn_cong p (fun i hi => h i (by omega)), h n (by omega)]
theorem tW_ap {p : Nat × (Nat → Nat)} {c : Nat} (h : tW p.1 p.2) (hc : c < 256) (hl : c = 0 ∨ p.1 < 240) : tW (ap p c).1 (ap p c).2 := by
  unfold ap
  by_cases h0 : c = 0
  · rw [if_pos h0]; exact h
  · rw [if_neg h0]
    refine ⟨by show p.1 + 1 ≤ 240; omega, fun i hi => ?_⟩
    have hi : i < p.1 + 1 := hi
    show 0 < upn p.2 p.1 c i ∧ upn p.2 p.1 c i < 256
    unfold upn
    by_cases e : i = p.1
    · rw [if_pos e]; omega
    · rw [if_neg e]; exact h.2 i (by omega)
theorem yn_le (f : Nat → Nat) {m n : Nat} (h : m ≤ n) : yn f m ≤ yn f n := pu_C_m h
theorem yn_s (f : Nat → Nat) (n : Nat) : yn f (n + 1) = yn f n + (if f n = 0 then 0 else 1) := by
  unfold yn
  rw [pu_C_succ]
  by_cases h : f n = 0
  · rw [if_pos h, h]; rfl
  · rw [if_neg h, if_pos (by simp [h])]
theorem tW_apn {p : Nat × (Nat → Nat)} {f : Nat → Nat} (h : tW p.1 p.2) (hf : ∀ i, f i < 256) : ∀ {n}, p.1 + yn f n ≤ 240 → tW (apn p f n).1 (apn p f n).2
  | 0, _ => h
  | n + 1, hl => by
    rw [yn_s] at hl
    refine tW_ap (tW_apn h hf (by omega)) (hf n) ?_
    by_cases h0 : f n = 0
    · exact .inl h0
    · rw [if_neg h0] at hl
      right
      rw [apn_1]; omega
section FEED
variable {w w' : am_S} {p : Nat × (Nat → Nat)}
def shi (i : Nat) : Int32 := if i < 4 then nI (24 - 8 * i) else -nI 8
theorem shi_i {i : Nat} (h : i < 4) : shi i = nI (24 - 8 * i) := if_pos h
theorem shi_n {i : Nat} (h : i < 4) : shi i + -nI 8 = shi (i + 1) := by
  rcases (show i = 0 ∨ i = 1 ∨ i = 2 ∨ i = 3 by omega) with e | e | e | e <;> subst e <;> decide
theorem shi_p {i : Nat} (h : i < 4) : (shi i < nI 0) = False := by rw [shi_i h]; exact pu_x3 (by omega)
theorem shi_4 : (shi 4 < nI 0) = True := eq_true (by decide)
theorem c_signsIn (x : Int32) : f_X10_signsIn x w = some (nI (yn (yb x) 4), w) := by
  apply Wp.eq
  unfold f_X10_signsIn f_X10_signsIn_5
  refine Wp.for (fun i w => (nI (yn (yb x) i), shi i, w)) (fun _ w' => w' = w) 4 (by omega) rfl rfl (fun i w' hi hI => ?_) (fun w' hI => ?_)
  · subst hI
    have hy := yb_lt x i
    by_cases h0 : yb x i = 0
    · refine ⟨.inr (nI (yn (yb x) (i + 1)), shi (i + 1), w'), ?_, w', rfl, rfl⟩
      unfold f_X10_signsIn_5b f_X10_signsIn_25
      rw [yn_s, if_pos h0]
      simp (disch := omega) only [pv_v, pv_b2, pv_b1, pv_x, pv_lit, pv_ofN, pu_chk, pu_cl, nI_add, pk_mul, nI_leI, nI_ltI, nI_eq, pu_nar0, pu_nar1, pu_narb, bI_0, bI_1, ↓reduceIte, pu_leT, pu_leF, pu_ltT, pu_ltF, pu_eqT, pu_eqF, pu_x1, pu_x2, pu_x3, pu_x4, pu_x5, pu_x6, pu_x7, pu_x8, Nat.zero_add, pu_m31I, pu_m31, pu_shlI, eq_self, Bool.false_eq_true, Bool.true_eq_false, shi_p hi, shi_i hi, yb_c x hi, h0, Nat.add_zero]
      rw [← shi_i hi, shi_n hi]
    · refine ⟨.inr (nI (yn (yb x) (i + 1)), shi (i + 1), w'), ?_, w', rfl, rfl⟩
      unfold f_X10_signsIn_5b f_X10_signsIn_25
      rw [yn_s, if_neg h0]
      simp (disch := omega) only [pv_v, pv_b2, pv_b1, pv_x, pv_lit, pv_ofN, pu_chk, pu_cl, nI_add, pk_mul, nI_leI, nI_ltI, nI_eq, pu_nar0, pu_nar1, pu_narb, bI_0, bI_1, ↓reduceIte, pu_leT, pu_leF, pu_ltT, pu_ltF, pu_eqT, pu_eqF, pu_x1, pu_x2, pu_x3, pu_x4, pu_x5, pu_x6, pu_x7, pu_x8, Nat.zero_add, pu_m31I, pu_m31, pu_shlI, eq_self, Bool.false_eq_true, Bool.true_eq_false, shi_p hi, shi_i hi, yb_c x hi]
      rw [← shi_i hi, shi_n hi]
  · subst hI
    refine ⟨.inl (nI (yn (yb x) 4), w'), ?_, rfl⟩
    unfold f_X10_signsIn_5b
    simp (disch := omega) only [pv_v, pv_b2, pv_b1, pv_x, pv_lit, pv_ofN, pu_chk, pu_cl, nI_add, pk_mul, nI_leI, nI_ltI, nI_eq, pu_nar0, pu_nar1, pu_narb, bI_0, bI_1, ↓reduceIte, pu_leT, pu_leF, pu_ltT, pu_ltF, pu_eqT, pu_eqF, pu_x1, pu_x2, pu_x3, pu_x4, pu_x5, pu_x6, pu_x7, pu_x8, Nat.zero_add, pu_m31I, pu_m31, pu_shlI, eq_self, Bool.false_eq_true, Bool.true_eq_false, shi_4]
theorem c_add (x : Int32) (h : cTp p.1 p.2 w) (hl : p.1 + yn (yb x) 4 ≤ 240) : Wp (f_X10_add x w) (fun w' => cTp (apn p (yb x) 4).1 (apn p (yb x) 4).2 w' ∧ eqx [1, 2] w w') := by
  unfold f_X10_add f_X10_add_3
  refine Wp.for (fun i w => (shi i, w)) (fun i w' => cTp (apn p (yb x) i).1 (apn p (yb x) i).2 w' ∧ eqx [1, 2] w w') 4 (by omega) rfl ⟨h, eqx.rf⟩ (fun i w' hi hI => ?_) (fun w' hI => ?_)
  · have hy := yb_lt x i
    have hlen := apn_1 p (yb x) i
    have hle := yn_le (yb x) (m := i + 1) (n := 4) (by omega)
    rw [yn_s] at hle
    by_cases h0 : yb x i = 0
    · refine ⟨.inr (shi (i + 1), w'), ?_, w', rfl, ?_, hI.2⟩
      · unfold f_X10_add_3b f_X10_add_50
        simp (disch := omega) only [pv_v, pv_b2, pv_b1, pv_x, pv_lit, pv_ofN, pu_chk, pu_cl, nI_add, pk_mul, nI_leI, nI_ltI, nI_eq, pu_nar0, pu_nar1, pu_narb, bI_0, bI_1, ↓reduceIte, pu_leT, pu_leF, pu_ltT, pu_ltF, pu_eqT, pu_eqF, pu_x1, pu_x2, pu_x3, pu_x4, pu_x5, pu_x6, pu_x7, pu_x8, Nat.zero_add, pu_m31I, pu_m31, pu_shlI, eq_self, Bool.false_eq_true, Bool.true_eq_false, shi_p hi, shi_i hi, yb_c x hi, h0]
        rw [← shi_i hi, shi_n hi]
      · show cTp (ap (apn p (yb x) i) (yb x i)).1 (ap (apn p (yb x) i) (yb x i)).2 w'
        unfold ap
        rw [if_pos h0]; exact hI.1
    · rw [if_neg h0] at hle
      have hT : w'.1 1 1 = nI (apn p (yb x) i).1 := hI.1.1
      have hT2 : (am_pi w' 2 (apn p (yb x) i).1 (nI (yb x i))).1 1 1 = nI (apn p (yb x) i).1 := by rw [pi_p (by decide)]; exact hT
      have hnar : vp_nar .char (((nI (yb x i)).toUInt32 % 65536).toInt32) = nI (yb x i) := by
        have : ∀ c, c < 256 → vp_nar .char (((nI c).toUInt32 % 65536).toInt32) = nI c := by decide +kernel
        exact this _ hy
      refine ⟨.inr (shi (i + 1), am_pi (am_pi w' 2 (apn p (yb x) i).1 (nI (yb x i))) 1 1 (nI ((apn p (yb x) i).1 + 1))), ?_, _, rfl, ?_, (hI.2.on (eqx.pi (by simp))).on (eqx.pi (by simp))⟩
      · unfold f_X10_add_3b f_X10_add_50
        simp (disch := omega) only [pv_v, pv_b2, pv_b1, pv_x, pv_lit, pv_ofN, pu_chk, pu_cl, nI_add, pk_mul, nI_leI, nI_ltI, nI_eq, pu_nar0, pu_nar1, pu_narb, bI_0, bI_1, ↓reduceIte, pu_leT, pu_leF, pu_ltT, pu_ltF, pu_eqT, pu_eqF, pu_x1, pu_x2, pu_x3, pu_x4, pu_x5, pu_x6, pu_x7, pu_x8, Nat.zero_add, pu_m31I, pu_m31, pu_shlI, eq_self, Bool.false_eq_true, Bool.true_eq_false, shi_p hi, shi_i hi, yb_c x hi, hT, hnar, hT2]
        rw [← shi_i hi, shi_n hi]
      · show cTp (ap (apn p (yb x) i) (yb x i)).1 (ap (apn p (yb x) i) (yb x i)).2 _
        unfold ap
        rw [if_neg h0]
        refine ⟨pi_same, fun k hk => ?_⟩
        have hk : k < (apn p (yb x) i).1 + 1 := hk
        rw [pi_p (by decide)]
        show _ = nI (upn _ _ _ k)
        unfold upn
        by_cases e : k = (apn p (yb x) i).1
        · rw [if_pos e, e, pi_same]
        · rw [if_neg e, pi_k e]; exact hI.1.2 k (by omega)
  · refine ⟨.inl w', ?_, hI⟩
    unfold f_X10_add_3b
    simp (disch := omega) only [pv_v, pv_b2, pv_b1, pv_x, pv_lit, pv_ofN, pu_chk, pu_cl, nI_add, pk_mul, nI_leI, nI_ltI, nI_eq, pu_nar0, pu_nar1, pu_narb, bI_0, bI_1, ↓reduceIte, pu_leT, pu_leF, pu_ltT, pu_ltF, pu_eqT, pu_eqF, pu_x1, pu_x2, pu_x3, pu_x4, pu_x5, pu_x6, pu_x7, pu_x8, Nat.zero_add, pu_m31I, pu_m31, pu_shlI, eq_self, Bool.false_eq_true, Bool.true_eq_false, shi_4]
def fdb (a b c d e : Int32) (k : Nat) : Nat := yb (wd a b c d e (k / 4)) (k % 4)
theorem fdb_i (a b c d e : Int32) {m i : Nat} (hi : i < 4) : fdb a b c d e (4 * m + i) = yb (wd a b c d e m) i := by
  unfold fdb
  rw [show (4 * m + i) / 4 = m by omega, show (4 * m + i) % 4 = i by omega]
theorem yn_fdb (a b c d e : Int32) (m : Nat) : yn (fdb a b c d e) (4 * m + 4) = yn (fdb a b c d e) (4 * m) + yn (yb (wd a b c d e m)) 4 := by
  unfold yn
  rw [pu_C_add]
  congr 1
  exact pu_C_cong (fun u hu => by rw [fdb_i a b c d e hu])
theorem apn_fdb (a b c d e : Int32) (m : Nat) : apn p (fdb a b c d e) (4 * m + 4) = apn (apn p (fdb a b c d e) (4 * m)) (yb (wd a b c d e m)) 4 := by
  rw [apn_add]
  exact apn_cong _ (fun u hu => fdb_i a b c d e hu)
theorem c_addf (a b c d e : Int32) (m : Nat) (h : cTp (apn p (fdb a b c d e) (4 * m)).1 (apn p (fdb a b c d e) (4 * m)).2 w) (hl : p.1 + yn (fdb a b c d e) (4 * m + 4) ≤ 240) : Wp (f_X10_add (wd a b c d e m) w) (fun w' => cTp (apn p (fdb a b c d e) (4 * m + 4)).1 (apn p (fdb a b c d e) (4 * m + 4)).2 w' ∧ eqx [1, 2] w w') := by
  rw [apn_fdb]
  rw [yn_fdb] at hl
  exact c_add _ h (by rw [apn_1]; omega)
theorem c_feed (a b c d e : Int32) (h : cTp p.1 p.2 w) (hp : p.1 ≤ 240) : Wp (f_X11_feed a b c d e w) (fun q => (p.1 + yn (fdb a b c d e) 20 ≤ 240 → q.1 = nI (apn p (fdb a b c d e) 20).1 ∧ cTp (apn p (fdb a b c d e) 20).1 (apn p (fdb a b c d e) 20).2 q.2 ∧ eqx [1, 2] w q.2) ∧ (¬ p.1 + yn (fdb a b c d e) 20 ≤ 240 → q.1 = -nI 1 ∧ q.2 = w)) := by
  have y0 := yn_fdb a b c d e 0
  have y1 := yn_fdb a b c d e 1
  have y2 := yn_fdb a b c d e 2
  have y3 := yn_fdb a b c d e 3
  have y4 := yn_fdb a b c d e 4
  have y0 : yn (fdb a b c d e) 4 = 0 + yn (yb a) 4 := y0
  have y1 : yn (fdb a b c d e) 8 = yn (fdb a b c d e) 4 + yn (yb b) 4 := y1
  have y2 : yn (fdb a b c d e) 12 = yn (fdb a b c d e) 8 + yn (yb c) 4 := y2
  have y3 : yn (fdb a b c d e) 16 = yn (fdb a b c d e) 12 + yn (yb d) 4 := y3
  have y4 : yn (fdb a b c d e) 20 = yn (fdb a b c d e) 16 + yn (yb e) 4 := y4
  have b20 : yn (fdb a b c d e) 20 ≤ 20 := pu_C_le _ 20
  have hT := h.1
  by_cases hc : p.1 + yn (fdb a b c d e) 20 ≤ 240
  · obtain ⟨w1, e1, i1, x1⟩ := c_addf (p := p) a b c d e 0 h (by show p.1 + yn (fdb a b c d e) 4 ≤ 240; omega)
    obtain ⟨w2, e2, i2, x2⟩ := c_addf (p := p) a b c d e 1 i1 (by show p.1 + yn (fdb a b c d e) 8 ≤ 240; omega)
    obtain ⟨w3, e3, i3, x3⟩ := c_addf (p := p) a b c d e 2 i2 (by show p.1 + yn (fdb a b c d e) 12 ≤ 240; omega)
    obtain ⟨w4, e4, i4, x4⟩ := c_addf (p := p) a b c d e 3 i3 (by show p.1 + yn (fdb a b c d e) 16 ≤ 240; omega)
    obtain ⟨w5, e5, i5, x5⟩ := c_addf (p := p) a b c d e 4 i4 (by show p.1 + yn (fdb a b c d e) 20 ≤ 240; omega)
    have e1 : f_X10_add a w = some w1 := e1
    have e2 : f_X10_add b w1 = some w2 := e2
    have e3 : f_X10_add c w2 = some w3 := e3
    have e4 : f_X10_add d w3 = some w4 := e4
    have e5 : f_X10_add e w4 = some w5 := e5
    have i5 : cTp (apn p (fdb a b c d e) 20).1 (apn p (fdb a b c d e) 20).2 w5 := i5
    refine ⟨(nI (apn p (fdb a b c d e) 20).1, w5), ?_, fun _ => ⟨rfl, i5, (((x1.on x2).on x3).on x4).on x5⟩, fun hn => absurd hc hn⟩
    have hT5 := i5.1
    unfold f_X11_feed
    simp (disch := omega) only [pv_v, pv_b2, pv_b1, pv_x, pv_lit, pv_ofN, pu_chk, pu_cl, nI_add, pk_mul, nI_leI, nI_ltI, nI_eq, pu_nar0, pu_nar1, pu_narb, bI_0, bI_1, ↓reduceIte, pu_leT, pu_leF, pu_ltT, pu_ltF, pu_eqT, pu_eqF, pu_x1, pu_x2, pu_x3, pu_x4, pu_x5, pu_x6, pu_x7, pu_x8, Nat.zero_add, pu_m31I, pu_m31, pu_shlI, eq_self, Bool.false_eq_true, Bool.true_eq_false, c_signsIn, hT, e1, e2, e3, e4, e5, hT5]
  · refine ⟨(-nI 1, w), ?_, fun hn => absurd hn hc, fun _ => ⟨rfl, rfl⟩⟩
    unfold f_X11_feed
    simp (disch := omega) only [pv_v, pv_b2, pv_b1, pv_x, pv_lit, pv_ofN, pu_chk, pu_cl, nI_add, pk_mul, nI_leI, nI_ltI, nI_eq, pu_nar0, pu_nar1, pu_narb, bI_0, bI_1, ↓reduceIte, pu_leT, pu_leF, pu_ltT, pu_ltF, pu_eqT, pu_eqF, pu_x1, pu_x2, pu_x3, pu_x4, pu_x5, pu_x6, pu_x7, pu_x8, Nat.zero_add, pu_m31I, pu_m31, pu_shlI, eq_self, Bool.false_eq_true, Bool.true_eq_false, c_signsIn, hT]
theorem r_shift {k : Nat} (hk : k < 20) : (nI 24 - nI 8 * (nI k - nI k / nI 4 * nI 4)) &&& nI 31 = nI (24 - 8 * (k % 4)) := by
  have : ∀ k, k < 20 → (nI 24 - nI 8 * (nI k - nI k / nI 4 * nI 4)) &&& nI 31 = nI (24 - 8 * (k % 4)) := by decide +kernel
  exact this k hk
theorem r_byteOf (a b c d e : Int32) {k : Nat} (hk : k < 20) : f_X12_byteOf a b c d e (nI k) w = some (nI (fdb a b c d e k), w) := by
  have hk4 : k % 4 < 4 := Nat.mod_lt _ (by omega)
  have hs := r_shift hk
  unfold f_X12_byteOf f_X12_byteOf_45 fdb wd
  rcases (show k / 4 = 0 ∨ k / 4 = 1 ∨ k / 4 = 2 ∨ k / 4 = 3 ∨ k / 4 = 4 by omega) with e0 | e0 | e0 | e0 | e0
  · simp (disch := omega) only [pv_lit, nI_leI, pu_leT, pu_leF, ↓reduceIte, hs, yb_r _ hk4, e0]
  · simp (disch := omega) only [pv_lit, nI_leI, pu_leT, pu_leF, ↓reduceIte, hs, yb_r _ hk4, e0, pu_eqF]
  · simp (disch := omega) only [pv_lit, nI_leI, pu_leT, pu_leF, ↓reduceIte, hs, yb_r _ hk4, e0, pu_eqF]
  · simp (disch := omega) only [pv_lit, nI_leI, pu_leT, pu_leF, ↓reduceIte, hs, yb_r _ hk4, e0, pu_eqF]
  · simp (disch := omega) only [pv_lit, nI_leI, pu_leT, pu_leF, ↓reduceIte, hs, yb_r _ hk4, e0, pu_eqF]
theorem fdb_lt (a b c d e : Int32) (k : Nat) : fdb a b c d e k < 256 := yb_lt _ _
theorem r_feed62 (a b c d e : Int32) (h : rTp p.1 p.2 w) (hl : p.1 + yn (fdb a b c d e) 20 ≤ 240) : Wp (f_X12_feed_62 a b c d e (nI 0) w) (fun q => q.1 = nI (apn p (fdb a b c d e) 20).1 ∧ rTp (apn p (fdb a b c d e) 20).1 (apn p (fdb a b c d e) 20).2 q.2 ∧ (∀ k, k ≠ 2 → q.2.1 271 k = w.1 271 k) ∧ eqx [271, 272] w q.2) := by
  unfold f_X12_feed_62
  refine Wp.for (fun i w => (nI i, w)) (fun i w' => rTp (apn p (fdb a b c d e) i).1 (apn p (fdb a b c d e) i).2 w' ∧ (∀ k, k ≠ 2 → w'.1 271 k = w.1 271 k) ∧ eqx [271, 272] w w') 20 (by omega) rfl ⟨h, fun _ _ => rfl, eqx.rf⟩ (fun i w' hi hI => ?_) (fun w' hI => ?_)
  · have hy := fdb_lt a b c d e i
    have hlen := apn_1 p (fdb a b c d e) i
    have hle := yn_le (fdb a b c d e) (m := i + 1) (n := 20) (by omega)
    rw [yn_s] at hle
    by_cases h0 : fdb a b c d e i = 0
    · refine ⟨.inr (nI (i + 1), w'), ?_, w', rfl, ?_, hI.2⟩
      · unfold f_X12_feed_62b f_X12_feed_109
        simp (disch := omega) only [pv_v, pv_b2, pv_b1, pv_x, pv_lit, pv_ofN, pu_chk, pu_cl, nI_add, pk_mul, nI_leI, nI_ltI, nI_eq, pu_nar0, pu_nar1, pu_narb, bI_0, bI_1, ↓reduceIte, pu_leT, pu_leF, pu_ltT, pu_ltF, pu_eqT, pu_eqF, pu_x1, pu_x2, pu_x3, pu_x4, pu_x5, pu_x6, pu_x7, pu_x8, Nat.zero_add, pu_m31I, pu_m31, pu_shlI, eq_self, Bool.false_eq_true, Bool.true_eq_false, r_byteOf a b c d e hi, h0]
      · show rTp (ap (apn p (fdb a b c d e) i) (fdb a b c d e i)).1 (ap (apn p (fdb a b c d e) i) (fdb a b c d e i)).2 w'
        unfold ap
        rw [if_pos h0]; exact hI.1
    · rw [if_neg h0] at hle
      have hT : w'.1 271 2 = nI (apn p (fdb a b c d e) i).1 := hI.1.1
      have hT2 : (am_pi w' 272 (apn p (fdb a b c d e) i).1 (nI (fdb a b c d e i))).1 271 2 = nI (apn p (fdb a b c d e) i).1 := by rw [pi_p (by decide)]; exact hT
      refine ⟨.inr (nI (i + 1), am_pi (am_pi w' 272 (apn p (fdb a b c d e) i).1 (nI (fdb a b c d e i))) 271 2 (nI ((apn p (fdb a b c d e) i).1 + 1))), ?_, _, rfl, ?_, ?_, (hI.2.2.on (eqx.pi (by simp))).on (eqx.pi (by simp))⟩
      · unfold f_X12_feed_62b f_X12_feed_109
        simp (disch := omega) only [pv_v, pv_b2, pv_b1, pv_x, pv_lit, pv_ofN, pu_chk, pu_cl, nI_add, pk_mul, nI_leI, nI_ltI, nI_eq, pu_nar0, pu_nar1, pu_narb, bI_0, bI_1, ↓reduceIte, pu_leT, pu_leF, pu_ltT, pu_ltF, pu_eqT, pu_eqF, pu_x1, pu_x2, pu_x3, pu_x4, pu_x5, pu_x6, pu_x7, pu_x8, Nat.zero_add, pu_m31I, pu_m31, pu_shlI, eq_self, Bool.false_eq_true, Bool.true_eq_false, r_byteOf a b c d e hi, hT, hT2]
      · show rTp (ap (apn p (fdb a b c d e) i) (fdb a b c d e i)).1 (ap (apn p (fdb a b c d e) i) (fdb a b c d e i)).2 _
        unfold ap
        rw [if_neg h0]
        refine ⟨pi_same, fun k hk => ?_⟩
        have hk : k < (apn p (fdb a b c d e) i).1 + 1 := hk
        rw [pi_p (by decide)]
        show _ = nI (upn _ _ _ k)
        unfold upn
        by_cases e : k = (apn p (fdb a b c d e) i).1
        · rw [if_pos e, e, pi_same]
        · rw [if_neg e, pi_k e]; exact hI.1.2 k (by omega)
      · intro k hk
        rw [pi_k hk, pi_p (by decide)]; exact hI.2.1 k hk
  · have hT : w'.1 271 2 = nI (apn p (fdb a b c d e) 20).1 := hI.1.1
    refine ⟨.inl (nI (apn p (fdb a b c d e) 20).1, w'), ?_, rfl, hI⟩
    unfold f_X12_feed_62b
    simp (disch := omega) only [pv_v, pv_b2, pv_b1, pv_x, pv_lit, pv_ofN, pu_chk, pu_cl, nI_add, pk_mul, nI_leI, nI_ltI, nI_eq, pu_nar0, pu_nar1, pu_narb, bI_0, bI_1, ↓reduceIte, pu_leT, pu_leF, pu_ltT, pu_ltF, pu_eqT, pu_eqF, pu_x1, pu_x2, pu_x3, pu_x4, pu_x5, pu_x6, pu_x7, pu_x8, Nat.zero_add, pu_m31I, pu_m31, pu_shlI, eq_self, Bool.false_eq_true, Bool.true_eq_false, hT]
theorem r_feed (a b c d e : Int32) (h : rTp p.1 p.2 w) (hp : p.1 ≤ 240) : Wp (f_X12_feed a b c d e w) (fun q => (p.1 + yn (fdb a b c d e) 20 ≤ 240 → q.1 = nI (apn p (fdb a b c d e) 20).1 ∧ rTp (apn p (fdb a b c d e) 20).1 (apn p (fdb a b c d e) 20).2 q.2 ∧ (∀ k, k ≠ 2 → q.2.1 271 k = w.1 271 k) ∧ eqx [271, 272] w q.2) ∧ (¬ p.1 + yn (fdb a b c d e) 20 ≤ 240 → q.1 = -nI 1 ∧ q.2 = w)) := by
  have hT := h.1
  have b20 : yn (fdb a b c d e) 20 ≤ 20 := pu_C_le _ 20
  unfold f_X12_feed f_X12_feed_6
  refine Wp.for (fun i w => (nI (yn (fdb a b c d e) i), nI i, w)) (fun _ w' => w' = w) 20 (by omega) rfl rfl (fun i w' hi hI => ?_) (fun w' hI => ?_)
  · subst hI
    have hy := fdb_lt a b c d e i
    refine ⟨.inr (nI (yn (fdb a b c d e) (i + 1)), nI (i + 1), w'), ?_, w', rfl, rfl⟩
    unfold f_X12_feed_6b f_X12_feed_35
    rw [yn_s]
    by_cases h0 : fdb a b c d e i = 0
    · rw [if_pos h0]
      simp (disch := omega) only [pv_v, pv_b2, pv_b1, pv_x, pv_lit, pv_ofN, pu_chk, pu_cl, nI_add, pk_mul, nI_leI, nI_ltI, nI_eq, pu_nar0, pu_nar1, pu_narb, bI_0, bI_1, ↓reduceIte, pu_leT, pu_leF, pu_ltT, pu_ltF, pu_eqT, pu_eqF, pu_x1, pu_x2, pu_x3, pu_x4, pu_x5, pu_x6, pu_x7, pu_x8, Nat.zero_add, pu_m31I, pu_m31, pu_shlI, eq_self, Bool.false_eq_true, Bool.true_eq_false, r_byteOf a b c d e hi, h0, Nat.add_zero]
    · rw [if_neg h0]
      simp (disch := omega) only [pv_v, pv_b2, pv_b1, pv_x, pv_lit, pv_ofN, pu_chk, pu_cl, nI_add, pk_mul, nI_leI, nI_ltI, nI_eq, pu_nar0, pu_nar1, pu_narb, bI_0, bI_1, ↓reduceIte, pu_leT, pu_leF, pu_ltT, pu_ltF, pu_eqT, pu_eqF, pu_x1, pu_x2, pu_x3, pu_x4, pu_x5, pu_x6, pu_x7, pu_x8, Nat.zero_add, pu_m31I, pu_m31, pu_shlI, eq_self, Bool.false_eq_true, Bool.true_eq_false, r_byteOf a b c d e hi]
  · subst hI
    by_cases hc : p.1 + yn (fdb a b c d e) 20 ≤ 240
    · obtain ⟨q, e1, q1⟩ := r_feed62 a b c d e h hc
      refine ⟨.inl q, ?_, fun _ => q1, fun hn => absurd hc hn⟩
      unfold f_X12_feed_6b
      simp (disch := omega) only [pv_v, pv_b2, pv_b1, pv_x, pv_lit, pv_ofN, pu_chk, pu_cl, nI_add, pk_mul, nI_leI, nI_ltI, nI_eq, pu_nar0, pu_nar1, pu_narb, bI_0, bI_1, ↓reduceIte, pu_leT, pu_leF, pu_ltT, pu_ltF, pu_eqT, pu_eqF, pu_x1, pu_x2, pu_x3, pu_x4, pu_x5, pu_x6, pu_x7, pu_x8, Nat.zero_add, pu_m31I, pu_m31, pu_shlI, eq_self, Bool.false_eq_true, Bool.true_eq_false, hT, e1]
    · refine ⟨.inl (-nI 1, w'), ?_, fun hn => absurd hn hc, fun _ => ⟨rfl, rfl⟩⟩
      unfold f_X12_feed_6b
      simp (disch := omega) only [pv_v, pv_b2, pv_b1, pv_x, pv_lit, pv_ofN, pu_chk, pu_cl, nI_add, pk_mul, nI_leI, nI_ltI, nI_eq, pu_nar0, pu_nar1, pu_narb, bI_0, bI_1, ↓reduceIte, pu_leT, pu_leF, pu_ltT, pu_ltF, pu_eqT, pu_eqF, pu_x1, pu_x2, pu_x3, pu_x4, pu_x5, pu_x6, pu_x7, pu_x8, Nat.zero_add, pu_m31I, pu_m31, pu_shlI, eq_self, Bool.false_eq_true, Bool.true_eq_false, hT]
end FEED
