/-! pure part: a new FIELD (wip/whole/pure/18.c.new.src) -/
def pF (p : Pt) : Nat → Nat → Nat := fun a b => if a = 0 then (if b = 0 then p.2.2.1 else if b = 1 then p.2.1 0 else if b = 2 then p.2.1 1 else p.2.1 3) else if a = 1 then p.2.2.2.1 b 0 else if a = 2 then p.2.2.2.1 b 1 else if a = 3 then p.2.2.2.1 b 2 else pQ p b
/-- COPIES at first -/
def pC (p : Pt) (u : Nat) : Nat := if u < p.2.2.1 then (p.2.2.2.1 u 3 ||| p.2.2.2.1 u 4 * 2 ^ p.2.1 0) * 2 ^ (p.2.2.2.1 u 2 * p.2.1 0) else 0
def pS (p : Pt) : Nat → Nat → Nat := fun a b => if a = 1 then pC p b else if a = 2 then p.2.1 2 else 0
section NEW
variable {p : Pt}
theorem pu_sum_lt {f : Nat → Nat} {c : Nat} : ∀ {n : Nat}, (∀ i, i < n → f i ≤ c) → pu_sum f n ≤ n * c
  | 0, _ => by rw [pu_sum]; omega
  | n + 1, h => by
    have h1 := pu_sum_lt (n := n) (fun i hi => h i (by omega))
    have h2 := h n (by omega)
    rw [pu_sum, Nat.succ_mul]
    omega
theorem pu_sum_m {f g : Nat → Nat} : ∀ {n : Nat}, (∀ i, i < n → f i ≤ g i) → pu_sum f n ≤ pu_sum g n
  | 0, _ => Nat.le_refl _
  | n + 1, h => by
    have h1 := pu_sum_m (n := n) (fun i hi => h i (by omega))
    have h2 := h n (by omega)
    rw [pu_sum, pu_sum]
    omega
theorem sum6 {g v : Nat → Nat} : ∀ {n : Nat}, (∀ d, d < n → 1 ≤ g d ∧ g d ≤ 6) → pu_sum (fun d => if g d = 1 then v d else 0) n + pu_sum (fun d => if g d = 2 then v d else 0) n + pu_sum (fun d => if g d = 3 then v d else 0) n + pu_sum (fun d => if g d = 4 then v d else 0) n + pu_sum (fun d => if g d = 5 then v d else 0) n + pu_sum (fun d => if g d = 6 then v d else 0) n = pu_sum v n
  | 0, _ => rfl
  | n + 1, h => by
    have h1 := sum6 (g := g) (v := v) (n := n) (fun d hd => h d (by omega))
    have h2 := h n (by omega)
    rw [pu_sum, pu_sum, pu_sum, pu_sum, pu_sum, pu_sum, pu_sum]
    have h3 : g n = 1 ∨ g n = 2 ∨ g n = 3 ∨ g n = 4 ∨ g n = 5 ∨ g n = 6 := by omega
    rcases h3 with e | e | e | e | e | e <;> simp only [e] <;> simp <;> omega
theorem pQa_le (hp : pW p) : pQa p ≤ 594 := by
  obtain ⟨p1, p2, p3, p4, p5⟩ := hp
  have h : pQa p ≤ p.2.2.2.2.1 * 99 := pu_sum_lt (fun d hd => (p5 d hd 1 (by omega)).2)
  omega
theorem pQ_le (hp : pW p) {k : Nat} : pQ p k ≤ pQa p := by
  unfold pQ pQa
  exact pu_sum_m (fun d hd => by split <;> omega)
theorem pQ_all (hp : pW p) : pQ p 1 + pQ p 2 + pQ p 3 + pQ p 4 + pQ p 5 + pQ p 6 = pQa p := by
  unfold pQ pQa
  exact sum6 (fun d hd => hp.2.2.2.2 d hd 0 (by omega))
theorem pF_w (hp : pW p) (hw : whP p) : wF (pF p) := by
  obtain ⟨w1, w2⟩ := hw
  have hq := pQa_le hp
  have ha := pQ_all hp
  obtain ⟨p1, p2, p3, p4, p5⟩ := id hp
  have s0 : 2 ≤ p.2.1 0 ∧ p.2.1 0 ≤ 12 := p3 0 (by omega)
  have s1 : 1 ≤ p.2.1 1 ∧ p.2.1 1 ≤ 4 := p3 1 (by omega)
  have s3 : 0 ≤ p.2.1 3 ∧ p.2.1 3 ≤ 99 := p3 3 (by omega)
  refine ⟨p1, s0.2, s1.2, fun _ => ⟨s0.1, s1.1⟩, s3.2, fun u hu => ?_, fun k => ?_, fun q => ?_, ?_⟩
  · have hu : u < p.2.2.1 := hu
    have a0 : 1 ≤ p.2.2.2.1 u 0 ∧ p.2.2.2.1 u 0 ≤ 99 := p4 u hu 0 (by omega)
    have a1 : 1 ≤ p.2.2.2.1 u 1 ∧ p.2.2.2.1 u 1 ≤ 9 := p4 u hu 1 (by omega)
    have hk := w2 u hu
    unfold uok at hk
    rw [Bool.and_eq_true, decide_eq_true_iff] at hk
    exact ⟨a0.1, a0.2, a1.1, a1.2, hk.1⟩
  · show pQ p k ≤ 594
    have := pQ_le (k := k) hp
    omega
  · have q : p.2.2.1 = 0 := q
    omega
  · show pQ p 1 + pQ p 2 + pQ p 3 + pQ p 4 + pQ p 5 + pQ p 6 ≤ 594
    omega
theorem pC_bit (hp : pW p) {u s : Nat} (hu : u < p.2.2.1) : (pC p u).testBit s = (decide (p.2.2.2.1 u 2 * p.2.1 0 ≤ s) && ((p.2.2.2.1 u 3).testBit (s - p.2.2.2.1 u 2 * p.2.1 0) || (decide (p.2.1 0 ≤ s - p.2.2.2.1 u 2 * p.2.1 0) && (p.2.2.2.1 u 4).testBit (s - p.2.2.2.1 u 2 * p.2.1 0 - p.2.1 0)))) := by
  unfold pC
  rw [if_pos hu, Nat.mul_comm _ (2 ^ _), Nat.testBit_two_pow_mul, Nat.testBit_or, Nat.mul_comm _ (2 ^ _), Nat.testBit_two_pow_mul]
theorem pS_w (hp : pW p) (hw : whP p) : wS (pF p) (pS p) := by
  have s0 : 2 ≤ p.2.1 0 ∧ p.2.1 0 ≤ 12 := hp.2.2.1 0 (by omega)
  have s2 : 0 ≤ p.2.1 2 ∧ p.2.1 2 ≤ 99 := hp.2.2.1 2 (by omega)
  refine ⟨s2.2, fun u => Nat.zero_le _, fun u hu => ⟨rfl, ?_⟩, fun u s hs => ?_, fun j => Nat.zero_le _⟩
  · have hu : p.2.2.1 ≤ u := hu
    show pC p u = 0
    unfold pC
    rw [if_neg (by omega)]
  · have hs : (pC p u).testBit s = true := hs
    have hu : u < p.2.2.1 := by
      rcases Nat.lt_or_ge u p.2.2.1 with c | c
      · exact c
      · unfold pC at hs
        rw [if_neg (by omega), Nat.zero_testBit] at hs; cases hs
    have hk := hw.2 u hu
    unfold uok at hk
    rw [Bool.and_eq_true, Bool.and_eq_true, decide_eq_true_iff, decide_eq_true_iff, decide_eq_true_iff] at hk
    obtain ⟨k1, k2, k3⟩ := hk
    rw [pC_bit hp hu, Bool.and_eq_true, decide_eq_true_iff, Bool.or_eq_true, Bool.and_eq_true, decide_eq_true_iff] at hs
    obtain ⟨b1, b2⟩ := hs
    refine ⟨hu, b1, ?_⟩
    show s < min (p.2.2.2.1 u 2 + 2) (p.2.1 1) * p.2.1 0
    generalize p.2.2.2.1 u 2 = t at *
    generalize p.2.1 0 = S at *
    generalize p.2.1 1 = F at *
    rcases b2 with b2 | ⟨b2, b3⟩
    · have h1 : s - t * S < S := by
        rcases Nat.lt_or_ge (s - t * S) S with c | c
        · exact c
        · rw [pu_hi k2 c] at b2; cases b2
      have h2 : (t + 1) * S ≤ min (t + 2) F * S := Nat.mul_le_mul_right _ (by omega)
      rw [Nat.succ_mul] at h2
      omega
    · by_cases c : t + 1 < F
      · rw [if_pos c] at k3
        have h1 : s - t * S - S < S := by
          rcases Nat.lt_or_ge (s - t * S - S) S with c | c
          · exact c
          · rw [pu_hi k3 c] at b3; cases b3
        have h2 : (t + 2) * S ≤ min (t + 2) F * S := Nat.mul_le_mul_right _ (by omega)
        rw [Nat.add_mul] at h2
        omega
      · rw [if_neg c] at k3
        have : p.2.2.2.1 u 4 = 0 := by omega
        rw [this, Nat.zero_testBit] at b3; cases b3
end NEW
