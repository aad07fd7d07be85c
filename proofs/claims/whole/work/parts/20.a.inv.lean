/-! pure part: what holds between calls (wip/whole/pure/20.a.inv.src) -/
abbrev Ot := (Nat × (Nat → Nat)) × It × (Nat × (Nat → Nat × (Nat → Nat) × (Nat → Int32))) × (Nat → Int32)
def fC (w w' : am_S) : Prop := ∀ q, 270 < q → w'.1 q = w.1 q ∧ w'.2.1 q = w.2.1 q ∧ w'.2.2 q = w.2.2 q
def fR (w w' : am_S) : Prop := ∀ q, q < 271 → w'.1 q = w.1 q ∧ w'.2.1 q = w.2.1 q ∧ w'.2.2 q = w.2.2 q
abbrev Kt := It × (Nat × (Nat → Nat × (Nat → Nat) × (Nat → Int32))) × (Nat → Int32)
/-- the class: image, SCRIPTS, STATUS -/
def cK (fd : Nat → Nat → Nat) (k : Kt) (w : am_S) : Prop := cIm fd k.1 w ∧ (k.2.1.1 ≤ 4 ∧ w.1 0 17 = nI k.2.1.1 ∧ ∀ n, n < k.2.1.1 → scW (k.2.1.2 n).1 (k.2.1.2 n).2.1 ∧ scC n (k.2.1.2 n).1 (k.2.1.2 n).2.1 (k.2.1.2 n).2.2 w) ∧ ∀ r, r < 4 → w.1 248 r = k.2.2 r
def rK (fd : Nat → Nat → Nat) (k : Kt) (w : am_S) : Prop := rIm fd k.1 w ∧ (k.2.1.1 ≤ 4 ∧ w.1 271 16 = nI k.2.1.1 ∧ ∀ n, n < k.2.1.1 → scW (k.2.1.2 n).1 (k.2.1.2 n).2.1 ∧ scR n (k.2.1.2 n).1 (k.2.1.2 n).2.1 (k.2.1.2 n).2.2 w) ∧ ∀ r, r < 4 → w.1 282 r = k.2.2 r
/-- the class, but for what ACTS change -/
def cO (fd : Nat → Nat → Nat) (o : Ot) (w : am_S) : Prop := (tW o.1.1 o.1.2 ∧ cTp o.1.1 o.1.2 w) ∧ cK fd o.2 w
def rO (fd : Nat → Nat → Nat) (o : Ot) (w : am_S) : Prop := (tW o.1.1 o.1.2 ∧ rTp o.1.1 o.1.2 w) ∧ rK fd o.2 w
def CI (fd : Nat → Nat → Nat) (z : Zt) (o : Ot) (w : am_S) : Prop := cZ fd z w ∧ cO fd o w
def RI (fd : Nat → Nat → Nat) (z : Zt) (o : Ot) (w : am_S) : Prop := rZ fd z w ∧ rO fd o w
def bn (j : Nat) (z : Zt) (o : Ot) : Prop := z.2.2.2.1 ≤ 40 * j ∧ ∀ a, o.2.1 = some a → a.2.2 ≤ 40 * j
/-- without a FIELD nothing is filed, kept or imaged -/
def nf (fd : Nat → Nat → Nat) (z : Zt) (o : Ot) : Prop := (fd 0 0) = 0 → (∀ i, z.1 3 i = 0) ∧ z.2.2.2.2 = 0 ∧ o.2.1 = none
def Inv (j : Nat) (w : am_S) : Prop := ∃ fd z o, CI fd z o w ∧ RI fd z o w ∧ bn j z o ∧ nf fd z o
section INV
variable {fd : Nat → Nat → Nat} {z z' : Zt} {o o' : Ot} {w w' w'' : am_S} {j : Nat}
theorem fC.rf : fC w w := fun _ _ => ⟨rfl, rfl, rfl⟩
theorem fR.rf : fR w w := fun _ _ => ⟨rfl, rfl, rfl⟩
theorem fC.on (h : fC w w') (h2 : fC w' w'') : fC w w'' := fun q hq => ⟨(h2 q hq).1.trans (h q hq).1, (h2 q hq).2.1.trans (h q hq).2.1, (h2 q hq).2.2.trans (h q hq).2.2⟩
theorem fR.on (h : fR w w') (h2 : fR w' w'') : fR w w'' := fun q hq => ⟨(h2 q hq).1.trans (h q hq).1, (h2 q hq).2.1.trans (h q hq).2.1, (h2 q hq).2.2.trans (h q hq).2.2⟩
theorem eqx.kC {A : List Nat} (h : eqx A w w') (hA : ∀ q ∈ A, q < 271) : fC w w' := fun q hq => ⟨h.2 q (fun e => by have := hA q e; omega), by rw [h.1], by rw [h.1]⟩
theorem eqx.kR {A : List Nat} (h : eqx A w w') (hA : ∀ q ∈ A, 270 < q) : fR w w' := fun q hq => ⟨h.2 q (fun e => by have := hA q e; omega), by rw [h.1], by rw [h.1]⟩
theorem eqy.C {A B : List Nat} (h : eqy A B w w') (hA : ∀ q ∈ A, q < 271) (hB : ∀ q ∈ B, q < 271) : fC w w' := fun q hq => ⟨h.1 q (fun e => by have := hA q e; omega), h.2.1 q (fun e => by have := hB q e; omega), by rw [h.2.2]⟩
theorem eqy.R {A B : List Nat} (h : eqy A B w w') (hA : ∀ q ∈ A, 270 < q) (hB : ∀ q ∈ B, 270 < q) : fR w w' := fun q hq => ⟨h.1 q (fun e => by have := hA q e; omega), h.2.1 q (fun e => by have := hB q e; omega), by rw [h.2.2]⟩
theorem eqC.C (h : eqC w w') : fC w w' := fun q hq => ⟨h.1 q (by omega), h.2.1 q (by omega), by rw [h.2.2]⟩
theorem eqD.C (h : eqD w w') : fC w w' := fun q hq => ⟨h.1 q (by omega), h.2.1 q (by omega), by rw [h.2.2]⟩
theorem eqR.R (h : eqR w w') : fR w w' := fun q hq => ⟨h.1 q (by simp only [List.mem_cons, List.not_mem_nil, or_false]; omega), h.2.2.1 q (by omega), by rw [h.2.2.2]⟩
theorem eqS.R (h : eqS w w') : fR w w' := fun q hq => ⟨h.1 q (by simp only [List.mem_cons, List.not_mem_nil, or_false]; omega), h.2.1 q (by omega), by rw [h.2.2]⟩
theorem cK.fr {k : Kt} (h : cK fd k w) (hi : ∀ q, q = 0 ∨ (32 < q ∧ q < 38) ∨ (41 < q ∧ q < 46) ∨ q = 248 ∨ (258 < q ∧ q < 271) → w'.1 q = w.1 q) (hl : w'.2.1 35 = w.2.1 35) : cK fd k w' := by
  obtain ⟨h3, ⟨h4, h5, h6⟩, h7⟩ := h
  refine ⟨h3.fr (by rw [hi 0 (by omega)]) (fun q hq => hi q (by omega)) hl, ⟨h4, by rw [hi 0 (by omega)]; exact h5, fun n hn => ⟨(h6 n hn).1, (h6 n hn).2.fr (hi _ (by omega)) (hi _ (by omega)) (hi _ (by omega))⟩⟩, fun r hr => ?_⟩
  rw [hi 248 (by omega)]; exact h7 r hr
theorem rK.fr {k : Kt} (h : rK fd k w) (h0 : ∀ k, (k = 16 ∨ k = 29) → w'.1 271 k = w.1 271 k) (hi : ∀ q, (q = 279 ∨ q = 280 ∨ q = 282 ∨ q = 289) → w'.1 q = w.1 q) : rK fd k w' := by
  obtain ⟨h3, ⟨h4, h5, h6⟩, h7⟩ := h
  refine ⟨h3.fr (h0 29 (by omega)) (hi 289 (by omega)), ⟨h4, by rw [h0 16 (by omega)]; exact h5, fun n hn => ⟨(h6 n hn).1, (h6 n hn).2.fr (hi _ (by omega)) (hi _ (by omega))⟩⟩, fun r hr => ?_⟩
  rw [hi 282 (by omega)]; exact h7 r hr
theorem cO.fr1 (h : cO fd o w) (h1 : w'.1 1 1 = w.1 1 1) (hi : ∀ q, q = 0 ∨ q = 2 ∨ (32 < q ∧ q < 38) ∨ (41 < q ∧ q < 46) ∨ q = 248 ∨ (258 < q ∧ q < 271) → w'.1 q = w.1 q) (hl : w'.2.1 35 = w.2.1 35) : cO fd o w' := ⟨⟨h.1.1, h.1.2.fr h1 (hi 2 (by omega))⟩, h.2.fr (fun q hq => hi q (by omega)) hl⟩
theorem cO.fr (h : cO fd o w) (hi : ∀ q, q < 3 ∨ (32 < q ∧ q < 38) ∨ (41 < q ∧ q < 46) ∨ q = 248 ∨ (258 < q ∧ q < 271) → w'.1 q = w.1 q) (hl : w'.2.1 35 = w.2.1 35) : cO fd o w' := h.fr1 (by rw [hi 1 (by omega)]) (fun q hq => hi q (by omega)) hl
theorem rO.fr (h : rO fd o w) (h0 : ∀ k, (k = 2 ∨ k = 16 ∨ k = 29) → w'.1 271 k = w.1 271 k) (hi : ∀ q, (q = 272 ∨ q = 279 ∨ q = 280 ∨ q = 282 ∨ q = 289) → w'.1 q = w.1 q) : rO fd o w' := ⟨⟨h.1.1, h.1.2.fr (h0 2 (by omega)) (hi 272 (by omega))⟩, h.2.fr (fun k hk => h0 k (by omega)) (fun q hq => hi q (by omega))⟩
theorem CI.R (h : CI fd z o w) (hx : fR w w') : CI fd z o w' := ⟨h.1.fr (fun q hq => (hx q (by omega)).1) (fun q hq => (hx q (by omega)).2.1) (hx 251 (by omega)).2.2 (hx 252 (by omega)).2.2, h.2.fr (fun q hq => (hx q (by omega)).1) (hx 35 (by omega)).2.1⟩
theorem RI.C (h : RI fd z o w) (hx : fC w w') : RI fd z o w' := ⟨h.1.fr (by rw [(hx 271 (by omega)).1]) (by rw [(hx 271 (by omega)).1]) (fun q hq => (hx q (by omega)).1) (by rw [(hx 271 (by omega)).2.1]) (hx 283 (by omega)).2.2, h.2.fr (fun k _ => by rw [(hx 271 (by omega)).1]) (fun q hq => (hx q (by omega)).1)⟩
theorem CI.ask (h : CI fd z o w) (hx : eqx [250, 253, 254] w w') (ht : cT fd w') : CI fd z o w' ∧ fC w w' := ⟨⟨h.1.ask hx ht, h.2.fr (fun q hq => hx.2 q (by simp only [List.mem_cons, List.not_mem_nil, or_false]; omega)) (by rw [hx.1])⟩, hx.kC (by decide)⟩
theorem RI.ask (h : RI fd z o w) (hx : eqx [284, 286, 287, 288] w w') : RI fd z o w' ∧ fR w w' := ⟨⟨h.1.fr (hx.i (by decide) _) (hx.i (by decide) _) (fun q hq => hx.2 q (by simp only [List.mem_cons, List.not_mem_nil, or_false]; omega)) (by rw [hx.1]) (by rw [hx.1]), h.2.fr (fun k _ => hx.i (by decide) _) (fun q hq => hx.2 q (by simp only [List.mem_cons, List.not_mem_nil, or_false]; omega))⟩, hx.kR (by decide)⟩
theorem bn.up (h : bn j z o) : bn (j + 1) z o := ⟨by have := h.1; omega, fun a ha => by have := h.2 a ha; omega⟩
/-- both sides answer alike, and what holds between calls holds again -/
def Both (j : Nat) (fd : Nat → Nat → Nat) (z : Zt) (o : Ot) {α : Type} (E : α → α → Prop) [DecidableRel E] (F G : am_S → Option (α × am_S)) : Prop := ∀ w, CI fd z o w → RI fd z o w → bn j z o → nf fd z o → ∃ ww, am_b2 (F w) (fun r w1 => am_b2 (G w1) (fun r' w2 => if E r r' then some w2 else none)) = some ww ∧ Inv (j + 1) ww
theorem Both.mk {α : Type} {E : α → α → Prop} [DecidableRel E] {F G : am_S → Option (α × am_S)} (P : α → Prop) (hP : ∀ a b, P a → P b → E a b) (fd' : Nat → Nat → Nat) (z' : Zt) (o' : Ot) (hb : bn j z o → bn (j + 1) z' o') (hF : ∀ w, CI fd z o w → Wp (F w) (fun q => P q.1 ∧ CI fd' z' o' q.2 ∧ fC w q.2)) (hG : ∀ w, RI fd z o w → Wp (G w) (fun q => P q.1 ∧ RI fd' z' o' q.2 ∧ fR w q.2)) (hN : nf fd z o → nf fd' z' o' := by exact fun h => h) : Both j fd z o E F G := by
  intro w hc hr hbn hnf
  obtain ⟨⟨r, w1⟩, e1, p1, i1, f1⟩ := hF w hc
  obtain ⟨⟨r', w2⟩, e2, p2, i2, f2⟩ := hG w1 (RI.C hr f1)
  refine ⟨w2, ?_, fd', z', o', CI.R i1 f2, i2, hb hbn, hN hnf⟩
  rw [e1, pv_b2, e2, pv_b2, if_pos (hP _ _ p1 p2)]
/-- both leave all as it is -/
theorem Both.ask {α : Type} {E : α → α → Prop} [DecidableRel E] {F G : am_S → Option (α × am_S)} (P : α → Prop) (hP : ∀ a b, P a → P b → E a b) (hF : ∀ w, CI fd z o w → Wp (F w) (fun q => P q.1 ∧ eqx [250, 253, 254] w q.2 ∧ cT fd q.2)) (hG : ∀ w, RI fd z o w → Wp (G w) (fun q => P q.1 ∧ eqx [284, 286, 287, 288] w q.2)) : Both j fd z o E F G := Both.mk P hP fd z o bn.up (fun w h => (hF w h).mono (fun q hq => ⟨hq.1, CI.ask h hq.2.1 hq.2.2⟩)) (fun w h => (hG w h).mono (fun q hq => ⟨hq.1, RI.ask h hq.2⟩))
/-- neither looks farther: a value known -/
theorem Both.val {α : Type} {E : α → α → Prop} [DecidableRel E] {F G : am_S → Option (α × am_S)} (v : α) (hv : E v v) (hF : ∀ w, CI fd z o w → F w = some (v, w)) (hG : ∀ w, RI fd z o w → G w = some (v, w)) : Both j fd z o E F G := Both.mk (· = v) (fun a b h1 h2 => by rw [h1, h2]; exact hv) fd z o bn.up (fun w h => ⟨_, hF w h, rfl, h, fC.rf⟩) (fun w h => ⟨_, hG w h, rfl, h, fR.rf⟩)
theorem CI.X (h : CI fd z o w) : cX fd z.1 23 w := h.1.2.1
theorem CI.F (h : CI fd z o w) : cF fd w := h.1.2.1.2.2.1
theorem CI.T (h : CI fd z o w) : cT fd w := h.1.2.1.2.2.2.1
theorem CI.S (h : CI fd z o w) : cS z.1 23 w := h.1.2.1.2.2.2.2
theorem CI.wF (h : CI fd z o w) : wF fd := h.1.2.1.1
theorem CI.wS (h : CI fd z o w) : wS fd z.1 := h.1.2.1.2.1
theorem CI.look (h : CI fd z o w) (hn : 0 < (fd 0 0)) : Wp (f_X7_lookAt 23 w) (fun w' => cW fd (pu_o fd z.1) (z.1 2 0) (pu_u fd z.1) w w') := cX.look h.1.2.1 (by omega) (by omega) hn
theorem RI.Q (h : RI fd z o w) : rQ fd z.1 0 w := h.1.2.1
theorem RI.F (h : RI fd z o w) : rF fd w := h.1.2.1.2.2.1
theorem RI.wF (h : RI fd z o w) : wF fd := h.1.2.1.1
theorem RI.wS (h : RI fd z o w) : wS fd z.1 := h.1.2.1.2.1
theorem CI.nf (h : CI fd z o w) : f_X11_noField w = some (bI (decide ((fd 0 0) = 0)), w) := c_noField h.F.1 h.wF.1
end INV
