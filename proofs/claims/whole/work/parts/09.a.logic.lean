/-! pure part: what a function answers (Wp), rules for numbers (wip/whole/pure/09.a.logic.src) -/
def Wp {α : Type} (x : Option α) (Q : α → Prop) : Prop := ∃ a, x = some a ∧ Q a
theorem Wp.some {α : Type} {a : α} {Q : α → Prop} (h : Q a) : Wp (Option.some a) Q := ⟨a, rfl, h⟩
theorem Wp.b2 {α β γ : Type} {t : Option (α × β)} {k : α → β → Option γ} {Q : γ → Prop} (h : Wp t (fun p => Wp (k p.1 p.2) Q)) : Wp (am_b2 t k) Q := by
  obtain ⟨a, rfl, h⟩ := h
  exact h
theorem Wp.b1 {α γ : Type} {t : Option α} {k : α → Option γ} {Q : γ → Prop} (h : Wp t (fun p => Wp (k p) Q)) : Wp (am_b1 t k) Q := by
  obtain ⟨a, rfl, h⟩ := h
  exact h
theorem Wp.x {β σ : Type} {t : Option β} {Q : β ⊕ σ → Prop} (h : Wp t (fun b => Q (.inl b))) : Wp (am_x t) Q := by
  obtain ⟨a, rfl, h⟩ := h
  exact ⟨_, rfl, h⟩
theorem Wp.mono {α : Type} {x : Option α} {Q R : α → Prop} (h : Wp x Q) (k : ∀ a, Q a → R a) : Wp x R := by
  obtain ⟨a, e, h⟩ := h
  exact ⟨a, e, k a h⟩
theorem Wp.eq {α : Type} {x : Option α} {r : α} (h : Wp x (fun a => a = r)) : x = Option.some r := by
  obtain ⟨a, e, rfl⟩ := h
  exact e
theorem Wp.of {α : Type} {x : Option α} {r : α} {Q : α → Prop} (e : x = Option.some r) (h : Q r) : Wp x Q := ⟨r, e, h⟩
/-- a loop: an invariant that counts the turns -/
theorem Wp.loop {σ β : Type} {B : σ → Option (β ⊕ σ)} {Q : β → Prop} (I : Nat → σ → Prop) (N : Nat) (hN : N < 1000000) {s : σ} (h0 : I 0 s) (h : ∀ i s, i ≤ N → I i s → Wp (B s) (Sum.elim Q (fun s' => i < N ∧ I (i + 1) s'))) : Wp (am_loop B am_fuel s) Q := by
  refine pu_inv (fun m s => ∃ i, i + m = N ∧ I i s) Q (fun m s hm => ?_) (m := N) hN ⟨0, by omega, h0⟩
  obtain ⟨i, hi, hI⟩ := hm
  obtain ⟨r, hr, hq⟩ := h i s (by omega) hI
  cases r with
  | inl b => exact .inl ⟨b, hr, hq⟩
  | inr s' => exact .inr ⟨s', m - 1, hr, by have := hq.1; omega, i + 1, by have := hq.1; omega, hq.2⟩
/-- a loop of N turns, the numbers told, the world by an invariant -/
theorem Wp.for {σ β : Type} {B : σ → Option (β ⊕ σ)} {Q : β → Prop} (mk : Nat → am_S → σ) (I : Nat → am_S → Prop) (N : Nat) (hN : N < 1000000) {s : σ} {w : am_S} (hs : s = mk 0 w) (h0 : I 0 w) (h : ∀ i w, i < N → I i w → Wp (B (mk i w)) (Sum.elim Q (fun s' => ∃ w', s' = mk (i + 1) w' ∧ I (i + 1) w'))) (he : ∀ w, I N w → Wp (B (mk N w)) (Sum.elim Q (fun _ => False))) : Wp (am_loop B am_fuel s) Q := by
  refine Wp.loop (fun i s => ∃ w, s = mk i w ∧ I i w) N hN ⟨w, hs, h0⟩ ?_
  rintro i s hi ⟨w, rfl, hI⟩
  rcases Nat.lt_or_ge i N with c | c
  · refine (h i w c hI).mono (fun r hr => ?_)
    cases r with
    | inl b => exact hr
    | inr s' => exact ⟨c, hr⟩
  · have : i = N := by omega
    subst this
    refine (he w hI).mono (fun r hr => ?_)
    cases r with
    | inl b => exact hr
    | inr s' => exact absurd hr id
theorem pv_b2 {α β γ : Type} (a : α) (b : β) (k : α → β → Option γ) : am_b2 (Option.some (a, b)) k = k a b := Eq.trans (pu_b2 a b k) rfl
theorem pv_b1 {α β : Type} (a : α) (k : α → Option β) : am_b1 (Option.some a) k = k a := Eq.trans (pu_b1 a k) rfl
theorem pv_v {α β : Type} (a : α) (k : α → Option β) : am_v a k = k a := Eq.trans (pu_v a k) rfl
theorem pv_x {β σ : Type} (b : β) : (am_x (Option.some b) : Option (β ⊕ σ)) = Option.some (.inl b) := Eq.trans (pu_x b) rfl
theorem pv_lit (n : Nat) : (OfNat.ofNat n : Int32) = nI n := Eq.trans (pu_lit n) rfl
theorem pv_ofN (n : Nat) : Int32.ofNat n = nI n := Eq.trans (pu_ofN n) rfl
theorem pu_leT {a b : Nat} (h : a ≤ b) : (a ≤ b) = True := eq_true h
theorem pu_leF {a b : Nat} (h : b < a) : (a ≤ b) = False := eq_false (by omega)
theorem pu_ltT {a b : Nat} (h : a < b) : (a < b) = True := eq_true h
theorem pu_ltF {a b : Nat} (h : b ≤ a) : (a < b) = False := eq_false (by omega)
theorem pu_eqT {a b : Nat} (h : a = b) : (a = b) = True := eq_true h
theorem pu_eqF {a b : Nat} (h : a ≠ b) : (a = b) = False := eq_false h
theorem pu_m31 {u : Nat} (h : u < 32) : u &&& 31 = u := by
  have := Nat.and_two_pow_sub_one_eq_mod u 5
  rw [show 31 = 2 ^ 5 - 1 by decide, this]
  omega
theorem pu_m31I {u : Nat} (h : u < 32) : nI u &&& nI 31 = nI u := by rw [pu_and, pu_m31 h]
theorem pu_shlI {u : Nat} (h : u < 32) : nI 1 <<< nI u = nI (2 ^ u) := by
  have := pu_shl h
  rwa [pu_m31I h] at this
theorem pu_shrI {a u : Nat} (ha : a < 2 ^ 31) (h : u < 32) : nI a >>> nI u = nI (a / 2 ^ u) := by
  have := pu_shr ha h
  rwa [pu_m31I h] at this
theorem pu_bitN {a u : Nat} : nI (a / 2 ^ u &&& 1) = bI (a.testBit u) := by
  rw [Nat.and_one_is_mod, pu_tb]
  cases a.testBit u <;> rfl
theorem bI_eq (b : Bool) : bI b = nI b.toNat := by cases b <;> rfl
theorem pu_x1 {a : Nat} (h : a < 2 ^ 31) : (nI a = -nI 1) = False := eq_false (pu_ne1 h)
theorem pu_x2 {a : Nat} (h : a < 2 ^ 31) : (-nI 1 = nI a) = False := eq_false (fun e => pu_ne1 h e.symm)
theorem pu_x3 {a : Nat} (h : a < 2 ^ 31) : (nI a < nI 0) = False := eq_false (pu_neg0 h)
theorem pu_x4 : (-nI 1 < nI 0) = True := eq_true (by decide)
theorem pu_x5 : (nI 0 ≤ -nI 1) = False := eq_false (by decide)
theorem pu_x6 {a : Nat} (h : a < 2 ^ 31) : (-nI 1 < nI a) = True := eq_true (by
  rw [Int32.lt_iff_toInt_lt, nI_toInt h, show (-nI 1 : Int32).toInt = -1 by decide]
  omega)
theorem pu_x7 {a : Nat} (h : a < 2 ^ 31) : (nI a ≤ -nI 1) = False := eq_false (by
  rw [Int32.le_iff_toInt_le, nI_toInt h, show (-nI 1 : Int32).toInt = -1 by decide]
  omega)
theorem pu_x8 {a : Nat} (h : a < 2 ^ 31) : (-nI 1 ≤ nI a) = True := eq_true (by
  rw [Int32.le_iff_toInt_le, nI_toInt h, show (-nI 1 : Int32).toInt = -1 by decide]
  omega)
theorem pu_m1s (a : Nat) : nI (a + 1) + -nI 1 = nI a := pk_m1 a
/-- an argument: below 0, too great, or good -/
theorem pu_arg (x : Int32) {n : Nat} (hn : n < 2 ^ 31) : (x < nI 0 ∧ ¬ nI 0 ≤ x ∧ ∀ m, m < 2 ^ 31 → x ≠ nI m ∧ x < nI m ∧ x ≤ nI m) ∨ (¬ x < nI 0 ∧ nI 0 ≤ x ∧ nI n ≤ x ∧ ∀ m, m < n → x ≠ nI m ∧ ¬ x < nI m ∧ ¬ x ≤ nI m ∧ nI m < x) ∨ ∃ j, j < n ∧ x = nI j := by
  have z0 : (nI 0).toInt = 0 := by decide
  rcases pk_ix x hn with h | h | h
  · left
    have h1 := Int32.lt_iff_toInt_lt.mp h
    rw [show (0 : Int32).toInt = 0 by decide] at h1
    refine ⟨h, ?_, fun m hm => ⟨?_, ?_, ?_⟩⟩
    · rw [Int32.le_iff_toInt_le, z0]; omega
    · intro e
      rw [e, nI_toInt hm] at h1
      omega
    · rw [Int32.lt_iff_toInt_lt, nI_toInt hm]; omega
    · rw [Int32.le_iff_toInt_le, nI_toInt hm]; omega
  · right; left
    have h1 := Int32.le_iff_toInt_le.mp h
    rw [nI_toInt hn] at h1
    refine ⟨?_, ?_, h, fun m hm => ⟨?_, ?_, ?_, ?_⟩⟩
    · rw [Int32.lt_iff_toInt_lt, z0]; omega
    · rw [Int32.le_iff_toInt_le, z0]; omega
    · intro e
      rw [e, nI_toInt (by omega)] at h1
      omega
    · rw [Int32.lt_iff_toInt_lt, nI_toInt (by omega)]; omega
    · rw [Int32.le_iff_toInt_le, nI_toInt (by omega)]; omega
    · rw [Int32.lt_iff_toInt_lt, nI_toInt (by omega)]; omega
  · exact .inr (.inr h)
/-! worlds: rows that are untouched -/
/-- longs and floats are as they were, and ints but at some places -/
def eqx (A : List Nat) (w w' : am_S) : Prop := w'.2 = w.2 ∧ ∀ q, q ∉ A → w'.1 q = w.1 q
theorem eqx.rf {A : List Nat} {w : am_S} : eqx A w w := ⟨rfl, fun _ _ => rfl⟩
theorem eqx.on {A : List Nat} {w w' w'' : am_S} (h : eqx A w w') (h2 : eqx A w' w'') : eqx A w w'' := ⟨h2.1.trans h.1, fun q hq => (h2.2 q hq).trans (h.2 q hq)⟩
theorem eqx.up {A B : List Nat} {w w' : am_S} (h : eqx A w w') (hA : ∀ q ∈ A, q ∈ B) : eqx B w w' := ⟨h.1, fun q hq => h.2 q (fun e => hq (hA q e))⟩
theorem eqx.pi {A : List Nat} {w : am_S} {p k : Nat} {v : Int32} (h : p ∈ A) : eqx A w (am_pi w p k v) := ⟨rfl, fun q hq => (am_pi_oth q (fun e => hq (e ▸ h))).1⟩
theorem eqx.i {A : List Nat} {w w' : am_S} (h : eqx A w w') {q : Nat} (hq : q ∉ A) (k : Nat) : w'.1 q k = w.1 q k := by rw [h.2 q hq]
theorem eqx.t {A : List Nat} {w w' : am_S} (h : eqx A w w') {q k : Nat} {v : Int32} (hb : w.1 q k = v) (hq : q ∉ A) : w'.1 q k = v := by rw [h.2 q hq]; exact hb
theorem eqx.r {A : List Nat} {w w' : am_S} (h : eqx A w w') {q : Nat} (hq : q ∉ A) : w'.1 q = w.1 q := h.2 q hq
theorem eqx.l {A : List Nat} {w w' : am_S} (h : eqx A w w') : w'.2.1 = w.2.1 := by rw [h.1]
theorem eqx.f {A : List Nat} {w w' : am_S} (h : eqx A w w') : w'.2.2 = w.2.2 := by rw [h.1]
theorem pi_same {w : am_S} {p k : Nat} {v : Int32} : (am_pi w p k v).1 p k = v := by simp [am_pi]
theorem pi_k {w : am_S} {p k j : Nat} {v : Int32} (h : j ≠ k) : (am_pi w p k v).1 p j = w.1 p j := by simp [am_pi, h]
theorem pi_p {w : am_S} {p k q : Nat} {v : Int32} (h : q ≠ p) : (am_pi w p k v).1 q = w.1 q := by
  funext j
  simp [am_pi, h]
theorem pi_ite {w : am_S} {p k j : Nat} {v : Int32} : (am_pi w p k v).1 p j = if j = k then v else w.1 p j := by simp [am_pi]
theorem pi_l {w : am_S} {p k : Nat} {v : Int32} : (am_pi w p k v).2 = w.2 := rfl
theorem pl_same {w : am_S} {p k : Nat} {v : Int64} : (am_pl w p k v).2.1 p k = v := by simp [am_pl]
theorem pl_k {w : am_S} {p k j : Nat} {v : Int64} (h : j ≠ k) : (am_pl w p k v).2.1 p j = w.2.1 p j := by simp [am_pl, h]
theorem pl_p {w : am_S} {p k q : Nat} {v : Int64} (h : q ≠ p) : (am_pl w p k v).2.1 q = w.2.1 q := by
  funext j
  simp [am_pl, h]
theorem pl_ite {w : am_S} {p k j : Nat} {v : Int64} : (am_pl w p k v).2.1 p j = if j = k then v else w.2.1 p j := by simp [am_pl]
theorem pl_i {w : am_S} {p k : Nat} {v : Int64} : (am_pl w p k v).1 = w.1 := rfl
theorem pl_f {w : am_S} {p k : Nat} {v : Int64} : (am_pl w p k v).2.2 = w.2.2 := rfl
theorem pf_same {w : am_S} {p k : Nat} {v : UInt32} : (am_pf w p k v).2.2 p k = v := by simp [am_pf]
theorem pf_k {w : am_S} {p k j : Nat} {v : UInt32} (h : j ≠ k) : (am_pf w p k v).2.2 p j = w.2.2 p j := by simp [am_pf, h]
theorem pf_p {w : am_S} {p k q : Nat} {v : UInt32} (h : q ≠ p) : (am_pf w p k v).2.2 q = w.2.2 q := by
  funext j
  simp [am_pf, h]
theorem pf_i {w : am_S} {p k : Nat} {v : UInt32} : (am_pf w p k v).1 = w.1 := rfl
theorem pf_l {w : am_S} {p k : Nat} {v : UInt32} : (am_pf w p k v).2.1 = w.2.1 := rfl
/-! longs as numbers -/
theorem lc_0 {a b : Nat} (ha : a < 2 ^ 63) (hb : b < 2 ^ 63) : (lg_cmp (lN a) (lN b) = nI 0) = (a = b) := by
  unfold lg_cmp
  apply propext
  by_cases h : a = b
  · subst h
    rw [if_neg (fun h => absurd ((pk_lLT hb ha).mp h) (Nat.lt_irrefl _)), if_pos rfl]
    exact ⟨fun _ => rfl, fun _ => by decide⟩
  · constructor
    · intro hc
      split at hc
      · exact absurd hc (by decide)
      · rw [if_neg (fun e => h ((pk_lEQ ha hb).mp e))] at hc
        exact absurd hc (by decide)
    · intro e; exact absurd e h
theorem lr_bit {a s : Nat} (ha : a < 2 ^ 62) (hs : s < 63) : am_lshr (lN a) (nI s) &&& lN 1 = lN (a.testBit s).toNat := by
  unfold am_lshr
  rw [wb_c s (by omega), pf_shr (d := s) ?_ ha, fb_andL, Nat.and_one_is_mod, pu_tb]
  have h : ∀ s, s < 63 → ((lN s).toBitVec.smod 64).toNat = s := by decide +kernel
  exact h s hs
theorem bN_lt (b : Bool) : b.toNat < 2 := by cases b <;> decide
theorem bN_0 (b : Bool) : (b.toNat = 0) = (b = false) := by cases b <;> decide
theorem bN_1 (b : Bool) : (b.toNat = 1) = (b = true) := by cases b <;> decide
theorem lr_0 {a s : Nat} (ha : a < 2 ^ 62) (hs : s < 63) : (lg_cmp (am_lshr (lN a) (nI s) &&& lN 1) (lN 0) = nI 0) = (a.testBit s = false) := by
  rw [lr_bit ha hs, lc_0 (by have := bN_lt (a.testBit s); omega) (by decide), bN_0]
theorem lr_1 {a s : Nat} (ha : a < 2 ^ 62) (hs : s < 63) : (lg_cmp (am_lshr (lN a) (nI s) &&& lN 1) (lN 1) = nI 0) = (a.testBit s = true) := by
  rw [lr_bit ha hs, lc_0 (by have := bN_lt (a.testBit s); omega) (by decide), bN_1]
theorem pu_litL0 : (0 : Int64) = lN 0 := Eq.trans rfl rfl
theorem pu_litL1 : (1 : Int64) = lN 1 := Eq.trans rfl rfl
theorem ls_1 {s : Nat} (hs : s < 63) : am_lshl (lN 1) (nI s) = lN (2 ^ s) := by
  unfold am_lshl
  rw [wb_shl 1 (by omega), Nat.one_mul]
