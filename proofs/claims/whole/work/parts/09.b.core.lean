/-! pure part: sets as bits, who stays UNKNOWN (wip/whole/pure/09.b.core.src) -/
theorem pu_zero_bit {m : Nat} (h : ∀ u, m.testBit u = false) : m = 0 := Nat.eq_of_testBit_eq (fun i => by rw [h i, Nat.zero_testBit])
theorem pu_bit_ne {m u : Nat} (h : m.testBit u = true) : m ≠ 0 := by
  intro e
  rw [e, Nat.zero_testBit] at h
  cases h
theorem pu_ne_bit {m : Nat} (h : m ≠ 0) : ∃ u, m.testBit u = true := Nat.exists_testBit_of_ne_zero h
theorem pu_p_bit (u i : Nat) : (2 ^ u).testBit i = decide (u = i) := Nat.testBit_two_pow
def sb (a b : Nat) : Prop := ∀ i, a.testBit i = true → b.testBit i = true
theorem sb.rf {a : Nat} : sb a a := fun _ h => h
theorem sb.tr {a b c : Nat} (h : sb a b) (h2 : sb b c) : sb a c := fun i hi => h2 i (h i hi)
theorem sb.eq {a b : Nat} (h : sb a b) (h2 : sb b a) : a = b := Nat.eq_of_testBit_eq (fun i => by
  cases e : a.testBit i
  · cases e2 : b.testBit i
    · rfl
    · rw [h2 i e2] at e; cases e
  · exact (h i e).symm)
theorem sb_sd {a b : Nat} : sb (pu_sd a b) a := fun i h => by
  rw [pu_sd_bit] at h
  exact ((Bool.and_eq_true _ _).mp h).1
theorem sb_al {a b : Nat} : sb (a &&& b) a := fun i h => by
  rw [Nat.testBit_and] at h
  exact ((Bool.and_eq_true _ _).mp h).1
theorem sb_ar {a b : Nat} : sb (a &&& b) b := fun i h => by
  rw [Nat.testBit_and] at h
  exact ((Bool.and_eq_true _ _).mp h).2
theorem sb_0 {a : Nat} : sb 0 a := fun i h => by rw [Nat.zero_testBit] at h; cases h
theorem sb_z {a : Nat} (h : sb a 0) : a = 0 := h.eq sb_0
theorem sb_lt {a b n : Nat} (h : sb a b) (hb : b < 2 ^ n) : a < 2 ^ n := by
  apply Nat.lt_pow_two_of_testBit
  intro i hi
  cases e : a.testBit i
  · rfl
  · have := h i e
    rw [pu_hi hb hi] at this
    cases this
theorem sb_am {a b c : Nat} (h : sb a b) : sb (c &&& a) (c &&& b) := fun i hi => by
  rw [Nat.testBit_and] at hi ⊢
  rw [Bool.and_eq_true] at hi ⊢
  exact ⟨hi.1, h i hi.2⟩
theorem sb_or {a b c : Nat} (h : sb a c) (h2 : sb b c) : sb (a ||| b) c := fun i hi => by
  rw [Nat.testBit_or, Bool.or_eq_true] at hi
  rcases hi with e | e
  · exact h i e
  · exact h2 i e
theorem sb_ol {a b : Nat} : sb a (a ||| b) := fun i hi => by rw [Nat.testBit_or, hi, Bool.true_or]
theorem sb_or' {a b : Nat} : sb b (a ||| b) := fun i hi => by rw [Nat.testBit_or, hi, Bool.or_true]
theorem pu_sd0 {a b : Nat} : pu_sd a b = 0 ↔ sb a b := by
  constructor
  · intro h i hi
    have := congrArg (fun x => x.testBit i) h
    simp only [pu_sd_bit, Nat.zero_testBit, hi, Bool.true_and] at this
    cases e : b.testBit i
    · rw [e] at this; cases this
    · rfl
  · intro h
    apply pu_zero_bit
    intro i
    rw [pu_sd_bit]
    cases e : a.testBit i
    · rfl
    · rw [h i e]; rfl
theorem pu_sd_self {a b : Nat} (h : pu_sd a b = a) (hb : sb b a) : b = 0 := by
  apply pu_zero_bit
  intro i
  cases e : b.testBit i
  · rfl
  · have h1 := hb i e
    have h2 := pu_sd_bit a b i
    rw [h, h1, e] at h2
    cases h2
theorem pu_sd_z {a : Nat} : pu_sd a 0 = a := Nat.eq_of_testBit_eq (fun i => by rw [pu_sd_bit, Nat.zero_testBit, Bool.not_false, Bool.and_true])
/-- how many are in a set of the first ten -/
def cn (a : Nat) : Nat := pu_C (fun u => a.testBit u) 10
theorem cn_le (a : Nat) : cn a ≤ 10 := pu_C_le _ 10
theorem cn_sb {a b : Nat} (h : sb a b) : cn a ≤ cn b := pu_C_sub (fun u _ hu => h u hu)
theorem cn_lt {a b : Nat} (h : sb a b) (hb : b < 1024) (hne : a ≠ b) : cn a < cn b := by
  have : ∃ i, b.testBit i = true ∧ a.testBit i = false := by
    apply Classical.byContradiction
    intro hn
    apply hne
    refine h.eq (fun i hi => ?_)
    cases e : a.testBit i
    · exact absurd ⟨i, hi, e⟩ hn
    · rfl
  obtain ⟨i, h1, h2⟩ := this
  have hi : i < 10 := by
    rcases Nat.lt_or_ge i 10 with c | c
    · exact c
    · rw [pu_hi (n := 10) hb c] at h1; cases h1
  exact pu_C_lt (fun u _ hu => h u hu) hi h2 h1
theorem cn_0 {a : Nat} (ha : a < 1024) (h : cn a = 0) : a = 0 := by
  apply Classical.byContradiction
  intro hne
  have := cn_lt (a := 0) (b := a) sb_0 ha (fun e => hne e.symm)
  omega
theorem cn_z : cn 0 = 0 := pu_C_zero (fun u _ => Nat.zero_testBit u)
/-- what is used of who is CLEAR among a crowd -/
def kM (K : Nat → Nat) : Prop := (∀ m, sb (K m) m) ∧ ∀ m m' u, sb m m' → m.testBit u = true → (K m').testBit u = true → (K m).testBit u = true
/-- who is CLEAR in one of the SLOTS below, of those looked at -/
def sA (K occ : Nat → Nat) (sel : Nat → Bool) (U : Nat) : Nat → Nat
  | 0 => 0
  | s + 1 => sA K occ sel U s ||| (if sel s then K (occ s &&& U) else 0)
theorem sA_bit {K occ : Nat → Nat} {sel : Nat → Bool} {U u : Nat} : ∀ {T : Nat}, (sA K occ sel U T).testBit u = true ↔ ∃ s, s < T ∧ sel s = true ∧ (K (occ s &&& U)).testBit u = true
  | 0 => by
    constructor
    · intro h
      rw [show sA K occ sel U 0 = 0 from rfl, Nat.zero_testBit] at h
      cases h
    · rintro ⟨s, h, -⟩
      omega
  | T + 1 => by
    rw [show sA K occ sel U (T + 1) = sA K occ sel U T ||| (if sel T then K (occ T &&& U) else 0) from rfl, Nat.testBit_or, Bool.or_eq_true, sA_bit]
    constructor
    · rintro (⟨s, h1, h2, h3⟩ | h)
      · exact ⟨s, by omega, h2, h3⟩
      · cases e : sel T
        · rw [e, if_neg (by decide), Nat.zero_testBit] at h; cases h
        · rw [e, if_pos rfl] at h
          exact ⟨T, by omega, e, h⟩
    · rintro ⟨s, h1, h2, h3⟩
      by_cases hs : s = T
      · subst hs
        right
        rw [h2, if_pos rfl]
        exact h3
      · exact .inl ⟨s, by omega, h2, h3⟩
section CORE
variable {K occ : Nat → Nat} {sel : Nat → Bool} {T : Nat}
theorem sA_sb (hK : kM K) {U : Nat} : sb (sA K occ sel U T) U := fun u hu => by
  obtain ⟨s, -, -, h⟩ := sA_bit.mp hu
  exact sb_ar u (hK.1 _ u h)
theorem sA_mono (hK : kM K) {X U u : Nat} (h : sb X U) (hu : X.testBit u = true) (h2 : (sA K occ sel U T).testBit u = true) : (sA K occ sel X T).testBit u = true := by
  obtain ⟨s, h3, h4, h5⟩ := sA_bit.mp h2
  refine sA_bit.mpr ⟨s, h3, h4, hK.2 _ _ u (sb_am h) ?_ h5⟩
  rw [Nat.testBit_and, hu, Bool.and_true]
  exact sb_al u (hK.1 _ u h5)
theorem sA_0 (hK : kM K) : sA K occ sel 0 T = 0 := sb_z (sA_sb hK)
theorem sA_zero {U : Nat} : sA K occ sel U T = 0 ↔ ∀ s, s < T → sel s = true → K (occ s &&& U) = 0 := by
  constructor
  · intro h s h1 h2
    apply pu_zero_bit
    intro u
    cases e : (K (occ s &&& U)).testBit u
    · rfl
    · have := sA_bit.mpr ⟨s, h1, h2, e⟩
      rw [h, Nat.zero_testBit] at this
      cases this
  · intro h
    apply pu_zero_bit
    intro u
    cases e : (sA K occ sel U T).testBit u
    · rfl
    · obtain ⟨s, h1, h2, h3⟩ := sA_bit.mp e
      rw [h s h1 h2, Nat.zero_testBit] at h3
      cases h3
/-- a way towards the greatest STUCK set; the greatest STUCK set -/
def isP (K occ : Nat → Nat) (sel : Nat → Bool) (T U L : Nat) : Prop := sb L U ∧ ∀ X, sb X U → sA K occ sel X T = 0 → sb X L
def isR (K occ : Nat → Nat) (sel : Nat → Bool) (T U L : Nat) : Prop := isP K occ sel T U L ∧ sA K occ sel L T = 0
theorem isP.rf {U : Nat} : isP K occ sel T U U := ⟨sb.rf, fun _ h _ => h⟩
theorem isP.st (hK : kM K) {U L D : Nat} (h : isP K occ sel T U L) (hD : sb D (sA K occ sel L T)) : isP K occ sel T U (pu_sd L D) := by
  refine ⟨sb_sd.tr h.1, fun X hX hs u hu => ?_⟩
  have hL := h.2 X hX hs
  rw [pu_sd_bit, hL u hu, Bool.true_and]
  cases e : D.testBit u
  · rfl
  · have := sA_mono hK hL hu (hD u e)
    rw [hs, Nat.zero_testBit] at this
    cases this
theorem isR.uq {U L L' : Nat} (h : isR K occ sel T U L) (h2 : isR K occ sel T U L') : L = L' := sb.eq (h2.1.2 L h.1.1 h.2) (h.1.2 L' h2.1.1 h2.2)
/-- ROUNDS -/
def sR (K occ : Nat → Nat) (sel : Nat → Bool) (T U : Nat) : Nat → Nat
  | 0 => U
  | i + 1 => pu_sd (sR K occ sel T U i) (sA K occ sel (sR K occ sel T U i) T)
theorem sR_P (hK : kM K) {U : Nat} : ∀ i, isP K occ sel T U (sR K occ sel T U i)
  | 0 => isP.rf
  | i + 1 => (sR_P hK i).st hK sb.rf
theorem sR_stop {U i : Nat} (h : sA K occ sel (sR K occ sel T U i) T = 0) : ∀ d, sR K occ sel T U (i + d) = sR K occ sel T U i
  | 0 => rfl
  | d + 1 => by
    have ih := sR_stop h d
    show pu_sd (sR K occ sel T U (i + d)) (sA K occ sel (sR K occ sel T U (i + d)) T) = _
    rw [ih, h, pu_sd_z]
theorem sR_cn (hK : kM K) {U : Nat} (hU : U < 1024) : ∀ i, sA K occ sel (sR K occ sel T U i) T = 0 ∨ cn (sR K occ sel T U i) + i ≤ 10
  | 0 => .inr (by have := cn_le (sR K occ sel T U 0); omega)
  | i + 1 => by
    rcases sR_cn hK hU i with h | h
    · left
      rw [sR_stop h 1, h]
    · by_cases e : sA K occ sel (sR K occ sel T U i) T = 0
      · left
        rw [sR_stop e 1, e]
      · right
        have h1 : sR K occ sel T U i < 1024 := sb_lt (n := 10) (sR_P hK i).1 hU
        have h2 := cn_lt (a := sR K occ sel T U (i + 1)) (b := sR K occ sel T U i) sb_sd h1 (fun hh => e (pu_sd_self hh (sA_sb hK)))
        omega
/-- who stays UNKNOWN -/
def sRR (K occ : Nat → Nat) (sel : Nat → Bool) (T U : Nat) : Nat := sR K occ sel T U 10
theorem sRR_is (hK : kM K) {U : Nat} (hU : U < 1024) : isR K occ sel T U (sRR K occ sel T U) := by
  refine ⟨sR_P hK 10, ?_⟩
  rcases sR_cn (occ := occ) (sel := sel) (T := T) hK hU 10 with h | h
  · exact h
  · have h1 : sR K occ sel T U 10 < 1024 := sb_lt (n := 10) (sR_P hK 10).1 hU
    rw [sRR, cn_0 h1 (by omega)]
    exact sA_0 hK
theorem sRR_uq (hK : kM K) {U L : Nat} (hU : U < 1024) (h : isR K occ sel T U L) : L = sRR K occ sel T U := h.uq (sRR_is hK hU)
theorem sRR_sb (hK : kM K) {U : Nat} : sb (sRR K occ sel T U) U := (sR_P hK 10).1
theorem sRR_lt (hK : kM K) {U n : Nat} (hU : U < 2 ^ n) : sRR K occ sel T U < 2 ^ n := sb_lt (sRR_sb hK) hU
theorem sRR_mono (hK : kM K) {U V : Nat} (h : sb U V) (hV : V < 1024) : sb (sRR K occ sel T U) (sRR K occ sel T V) := by
  have hU := sb_lt (n := 10) h hV
  have h1 := sRR_is (occ := occ) (sel := sel) (T := T) hK hU
  exact (sRR_is hK hV).1.2 _ (h1.1.1.tr h) h1.2
theorem sRR_0 (hK : kM K) : sRR K occ sel T 0 = 0 := sb_z (sRR_sb hK)
/-- one that is taken out and what stays of it -/
theorem sRR_cut (hK : kM K) {U S : Nat} (hU : U < 1024) : sRR K occ sel T (pu_sd U S) = sRR K occ sel T (pu_sd (sRR K occ sel T U) S) := by
  have hR := sRR_is (occ := occ) (sel := sel) (T := T) hK hU
  have h1 : sb (pu_sd (sRR K occ sel T U) S) (pu_sd U S) := fun i hi => by
    rw [pu_sd_bit] at hi ⊢
    rw [Bool.and_eq_true] at hi ⊢
    exact ⟨hR.1.1 i hi.1, hi.2⟩
  have hU1 : pu_sd U S < 1024 := sb_lt (n := 10) sb_sd hU
  have hU2 : pu_sd (sRR K occ sel T U) S < 1024 := sb_lt (n := 10) h1 hU1
  have q := sRR_is (occ := occ) (sel := sel) (T := T) hK hU1
  refine sb.eq ((sRR_is hK hU2).1.2 _ (fun i hi => ?_) q.2) (sRR_mono hK h1 hU1)
  have h3 := hR.1.2 _ (q.1.1.tr sb_sd) q.2 i hi
  have h4 := q.1.1 i hi
  rw [pu_sd_bit, Bool.and_eq_true] at h4
  rw [pu_sd_bit, h3, h4.2, Bool.and_true]
theorem sA_cong {occ' : Nat → Nat} {sel' : Nat → Bool} {U : Nat} : ∀ {T : Nat}, (∀ s, s < T → occ s = occ' s ∧ sel s = sel' s) → sA K occ sel U T = sA K occ' sel' U T
  | 0, _ => rfl
  | T + 1, h => by
    show sA K occ sel U T ||| _ = sA K occ' sel' U T ||| _
    rw [sA_cong (T := T) (fun s hs => h s (by omega)), (h T (by omega)).1, (h T (by omega)).2]
theorem sR_cong {occ' : Nat → Nat} {sel' : Nat → Bool} {U : Nat} (h : ∀ s, s < T → occ s = occ' s ∧ sel s = sel' s) : ∀ i, sR K occ sel T U i = sR K occ' sel' T U i
  | 0 => rfl
  | i + 1 => by
    show pu_sd (sR K occ sel T U i) _ = pu_sd (sR K occ' sel' T U i) _
    rw [sR_cong h i, sA_cong h]
theorem sRR_cong {occ' : Nat → Nat} {sel' : Nat → Bool} {U : Nat} (h : ∀ s, s < T → occ s = occ' s ∧ sel s = sel' s) : sRR K occ sel T U = sRR K occ' sel' T U := sR_cong h 10
/-- more SLOTS looked at, less stays -/
theorem sRR_sel (hK : kM K) {sel' : Nat → Bool} {U : Nat} (hU : U < 1024) (h : ∀ s, s < T → sel' s = true → sel s = true) : sb (sRR K occ sel T U) (sRR K occ sel' T U) := by
  have q := sRR_is (occ := occ) (sel := sel) (T := T) hK hU
  exact (sRR_is hK hU).1.2 _ q.1.1 (sA_zero.mpr (fun s h1 h2 => sA_zero.mp q.2 s h1 (h s h1 h2)))
/-- more are CLEAR, less stays -/
theorem sRR_K (hK : kM K) {K' : Nat → Nat} (hK' : kM K') {U : Nat} (hU : U < 1024) (h : ∀ m, sb (K' m) (K m)) : sb (sRR K occ sel T U) (sRR K' occ sel T U) := by
  have q := sRR_is (occ := occ) (sel := sel) (T := T) hK hU
  refine (sRR_is hK' hU).1.2 _ q.1.1 (sA_zero.mpr (fun s h1 h2 => ?_))
  exact sb_z (by rw [← sA_zero.mp q.2 s h1 h2]; exact h _)
end CORE
