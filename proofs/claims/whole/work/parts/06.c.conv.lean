/-! the world behind the three makings is the world of places, all numbers 0 (wip/whole/conv.py) -/
def am_w0 : am_S := (fun _ _ => 0, fun _ _ => 0, fun _ _ => 0)
def am_total (G : am_G) : List va_E := am_cells_X11 G 0 ++ (am_cells_X12 G 271 ++ [.inl (G.2.1 3, 1, .inr (.inl (fun _ => 0)))])
def am_cg (G : am_G) (f : Nat → Option Nat) (p : Nat) : va_E := if p = 22 then .inl (G.2.1 4, 4, .inr (.inr (.inr (.inr f)))) else if p = 47 then .inl (G.2.1 5, 40, .inr (.inr (.inr (.inr (am_hF G 46 40))))) else am_ck G.1 G.2.1 (am_kd p) p (fun _ => 0) (fun _ => 0) (fun _ => 0)
theorem am_cg_o {G : am_G} {f : Nat → Option Nat} {p : Nat} (h1 : p ≠ 22) (h2 : p ≠ 47) : am_cg G f p = am_ck G.1 G.2.1 (am_kd p) p (fun _ => 0) (fun _ => 0) (fun _ => 0) := by unfold am_cg; rw [if_neg h1, if_neg h2]
theorem am_cg_st {G : am_G} {f : Nat → Option Nat} {o : Nat} (h : am_f9 o) (ho : 47 < o) : am_cells_X9 G o = (List.range' o 5).map (am_cg G f) := by
  show am_cells_X9 G o = [am_cg G f o, am_cg G f (o + 1), am_cg G f (o + 1 + 1), am_cg G f (o + 1 + 1 + 1), am_cg G f (o + 1 + 1 + 1 + 1)]
  rw [am_cg_o (by omega) (by omega), am_cg_o (by omega) (by omega), am_cg_o (by omega) (by omega), am_cg_o (by omega) (by omega), am_cg_o (by omega) (by omega)]
  rw [h.1, show am_kd (o + 1) = _ from h.2.1, show am_kd (o + 1 + 1) = _ from h.2.2.1, show am_kd (o + 1 + 1 + 1) = _ from h.2.2.2.1, show am_kd (o + 1 + 1 + 1 + 1) = _ from h.2.2.2.2]
  rfl
theorem am_cg_hT {G : am_G} {f : Nat → Option Nat} : ∀ i, i ≤ 40 → am_hT G 46 i = (List.range' 48 (5 * i)).map (am_cg G f)
  | 0, _ => rfl
  | i + 1, h => by
    show am_hT G 46 i ++ am_cells_X9 G (46 + (5 * i + 2)) = _
    have h9 : ∀ k, k < 40 → am_f9 (48 + 5 * k) := by decide +kernel
    rw [am_cg_hT i (by omega), show 46 + (5 * i + 2) = 48 + 5 * i by omega, am_cg_st (f := f) (h9 i (by omega)) (by omega), ← List.map_append, show 5 * (i + 1) = 5 * i + 5 by omega, ← List.range'_append_1]
theorem am_cg_set {G : am_G} {f g : Nat → Option Nat} {n : Nat} (h : 21 < n) : ((List.range' 1 n).map (am_cg G f)).set 21 (.inl (G.2.1 4, 4, .inr (.inr (.inr (.inr g))))) = (List.range' 1 n).map (am_cg G g) := by
  apply List.ext_getElem?
  intro k
  rw [List.getElem?_set]
  by_cases hk : 21 = k
  · subst hk
    rw [if_pos rfl, if_pos (by rw [List.length_map, List.length_range']; exact h), List.getElem?_map, List.getElem?_range' h]
    rfl
  · rw [if_neg hk, List.getElem?_map, List.getElem?_map]
    by_cases hn : k < n
    · rw [List.getElem?_range' hn]
      show some (am_cg G f (1 + 1 * k)) = some (am_cg G g (1 + 1 * k))
      have h22 : ¬ (1 + 1 * k = 22) := by omega
      unfold am_cg
      rw [if_neg h22, if_neg h22]
    · rw [List.getElem?_eq_none (by rw [List.length_range']; omega)]
      rfl
theorem am_eb2 {G : am_G} : am_cells_X10 G (0 + 1) = (List.range' 1 2).map (am_cg G (fun _ => none)) := by rfl
theorem am_e2 {G : am_G} : am_X11_t2 G 0 = (List.range' 1 2).map (am_cg G (fun _ => none)) := am_eb2
theorem am_eb4 {G : am_G} : am_cells_X1 G (0 + 3) = (List.range' 3 8).map (am_cg G (fun _ => none)) := by rfl
theorem am_e4 {G : am_G} : am_X11_t4 G 0 = (List.range' 1 10).map (am_cg G (fun _ => none)) := by
  unfold am_X11_t4
  rw [am_e2, am_eb4, ← List.map_append]
  exact congrArg (List.map _) (List.range'_append_1 (s := 1) (m := 2) (n := 8))
theorem am_eb6 {G : am_G} : am_cells_X1 G (0 + 11) = (List.range' 11 8).map (am_cg G (fun _ => none)) := by rfl
theorem am_e6 {G : am_G} : am_X11_t6 G 0 = (List.range' 1 18).map (am_cg G (fun _ => none)) := by
  unfold am_X11_t6
  rw [am_e4, am_eb6, ← List.map_append]
  exact congrArg (List.map _) (List.range'_append_1 (s := 1) (m := 10) (n := 8))
theorem am_eb8 {G : am_G} : am_cells_X8 G (0 + 19) = (List.range' 19 3).map (am_cg G (fun _ => none)) := by rfl
theorem am_e8 {G : am_G} : am_X11_t8 G 0 = (List.range' 1 21).map (am_cg G (fun _ => none)) := by
  unfold am_X11_t8
  rw [am_e6, am_eb8, ← List.map_append]
  exact congrArg (List.map _) (List.range'_append_1 (s := 1) (m := 18) (n := 3))
theorem am_eb9 {G : am_G} : ([.inl (G.2.1 4, 4, .inr (.inr (.inr (.inr (fun _ => none)))))] : List va_E) = (List.range' 22 1).map (am_cg G (fun _ => none)) := by rfl
theorem am_e9 {G : am_G} : am_X11_t9 G 0 = (List.range' 1 22).map (am_cg G (fun _ => none)) := by
  unfold am_X11_t9
  rw [am_e8, am_eb9, ← List.map_append]
  exact congrArg (List.map _) (List.range'_append_1 (s := 1) (m := 21) (n := 1))
theorem am_eb11 {G : am_G} : am_cells_X9 G (0 + 23) = (List.range' 23 5).map (am_cg G (fun _ => none)) := by rfl
theorem am_e11 {G : am_G} : am_X11_t11 G 0 = (List.range' 1 27).map (am_cg G (fun _ => none)) := by
  unfold am_X11_t11
  rw [am_e9, am_eb11, ← List.map_append]
  exact congrArg (List.map _) (List.range'_append_1 (s := 1) (m := 22) (n := 5))
theorem am_eb13 {G : am_G} : am_cells_X9 G (0 + 28) = (List.range' 28 5).map (am_cg G (fun _ => none)) := by rfl
theorem am_e13 {G : am_G} : am_X11_t13 G 0 = (List.range' 1 32).map (am_cg G (fun _ => none)) := by
  unfold am_X11_t13
  rw [am_e11, am_eb13, ← List.map_append]
  exact congrArg (List.map _) (List.range'_append_1 (s := 1) (m := 27) (n := 5))
theorem am_eb15 {G : am_G} : am_cells_X9 G (0 + 33) = (List.range' 33 5).map (am_cg G (fun _ => none)) := by rfl
theorem am_e15 {G : am_G} : am_X11_t15 G 0 = (List.range' 1 37).map (am_cg G (fun _ => none)) := by
  unfold am_X11_t15
  rw [am_e13, am_eb15, ← List.map_append]
  exact congrArg (List.map _) (List.range'_append_1 (s := 1) (m := 32) (n := 5))
theorem am_eb17 {G : am_G} : am_cells_X4 G (0 + 38) = (List.range' 38 4).map (am_cg G (fun _ => none)) := by rfl
theorem am_e17 {G : am_G} : am_X11_t17 G 0 = (List.range' 1 41).map (am_cg G (fun _ => none)) := by
  unfold am_X11_t17
  rw [am_e15, am_eb17, ← List.map_append]
  exact congrArg (List.map _) (List.range'_append_1 (s := 1) (m := 37) (n := 4))
theorem am_eb19 {G : am_G} : am_cells_X4 G (0 + 42) = (List.range' 42 4).map (am_cg G (fun _ => none)) := by rfl
theorem am_e19 {G : am_G} : am_X11_t19 G 0 = (List.range' 1 45).map (am_cg G (fun _ => none)) := by
  unfold am_X11_t19
  rw [am_e17, am_eb19, ← List.map_append]
  exact congrArg (List.map _) (List.range'_append_1 (s := 1) (m := 41) (n := 4))
theorem am_eb21 {G : am_G} : am_cells_X3 G (0 + 46) = (List.range' 46 202).map (am_cg G (fun _ => none)) := by
  show .inr (3, [.ref (G.1 + (46 + 1)), .int 0, .int 0]) :: .inl (G.2.1 5, 40, .inr (.inr (.inr (.inr (am_hF G 46 40))))) :: am_hT G 46 40 = am_cg G (fun _ => none) 46 :: am_cg G (fun _ => none) 47 :: (List.range' 48 (5 * 40)).map (am_cg G (fun _ => none))
  rw [am_cg_hT (f := (fun _ => none)) 40 (Nat.le_refl _)]
  rfl
theorem am_e21 {G : am_G} : am_X11_t21 G 0 = (List.range' 1 247).map (am_cg G (fun _ => none)) := by
  unfold am_X11_t21
  rw [am_e19, am_eb21, ← List.map_append]
  exact congrArg (List.map _) (List.range'_append_1 (s := 1) (m := 45) (n := 202))
theorem am_eb22 {G : am_G} : ([.inl (G.2.1 2, 4, .inl (fun _ => 0))] : List va_E) = (List.range' 248 1).map (am_cg G (fun _ => none)) := by rfl
theorem am_e22 {G : am_G} : am_X11_t22 G 0 = (List.range' 1 248).map (am_cg G (fun _ => none)) := by
  unfold am_X11_t22
  rw [am_e21, am_eb22, ← List.map_append]
  exact congrArg (List.map _) (List.range'_append_1 (s := 1) (m := 247) (n := 1))
theorem am_eb24 {G : am_G} : am_cells_X0 G (0 + 249) = (List.range' 249 1).map (am_cg G (fun _ => none)) := by rfl
theorem am_e24 {G : am_G} : am_X11_t24 G 0 = (List.range' 1 249).map (am_cg G (fun _ => none)) := by
  unfold am_X11_t24
  rw [am_e22, am_eb24, ← List.map_append]
  exact congrArg (List.map _) (List.range'_append_1 (s := 1) (m := 248) (n := 1))
theorem am_eb26 {G : am_G} : am_cells_X7 G (0 + 250) (G.1 + (0 + 11)) = (List.range' 250 5).map (am_cg G (fun _ => none)) := by rfl
theorem am_e26 {G : am_G} : am_X11_t26 G 0 = (List.range' 1 254).map (am_cg G (fun _ => none)) := by
  unfold am_X11_t26
  rw [am_e24, am_eb26, ← List.map_append]
  exact congrArg (List.map _) (List.range'_append_1 (s := 1) (m := 249) (n := 5))
theorem am_eb28 {G : am_G} : am_cells_X2 G (0 + 255) (G.1 + (0 + 11)) (G.1 + (0 + 250)) = (List.range' 255 2).map (am_cg G (fun _ => none)) := by rfl
theorem am_e28 {G : am_G} : am_X11_t28 G 0 = (List.range' 1 256).map (am_cg G (fun _ => none)) := by
  unfold am_X11_t28
  rw [am_e26, am_eb28, ← List.map_append]
  exact congrArg (List.map _) (List.range'_append_1 (s := 1) (m := 254) (n := 2))
theorem am_eb30 {G : am_G} : am_cells_X6 G (0 + 257) (G.1 + (0 + 11)) (G.1 + (0 + 250)) = (List.range' 257 1).map (am_cg G (fun _ => none)) := by rfl
theorem am_e30 {G : am_G} : am_X11_t30 G 0 = (List.range' 1 257).map (am_cg G (fun _ => none)) := by
  unfold am_X11_t30
  rw [am_e28, am_eb30, ← List.map_append]
  exact congrArg (List.map _) (List.range'_append_1 (s := 1) (m := 256) (n := 1))
theorem am_eb32 {G : am_G} : am_cells_X5 G (0 + 258) (G.1 + (0 + 11)) = (List.range' 258 1).map (am_cg G (fun _ => none)) := by rfl
theorem am_e32 {G : am_G} : am_X11_t32 G 0 = (List.range' 1 258).map (am_cg G (fun _ => none)) := by
  unfold am_X11_t32
  rw [am_e30, am_eb32, ← List.map_append]
  exact congrArg (List.map _) (List.range'_append_1 (s := 1) (m := 257) (n := 1))
theorem am_eb34 {G : am_G} : am_cells_X8 G (0 + 259) = (List.range' 259 3).map (am_cg G (fun _ => none)) := by rfl
theorem am_e34 {G : am_G} : am_X11_t34 G 0 = (List.range' 1 261).map (am_cg G (fun _ => none)) := by
  unfold am_X11_t34
  rw [am_e32, am_eb34, ← List.map_append]
  exact congrArg (List.map _) (List.range'_append_1 (s := 1) (m := 258) (n := 3))
theorem am_e35 {G : am_G} : am_X11_t35 G 0 = (List.range' 1 261).map (am_cg G (am_sf1 G 0)) := by
  unfold am_X11_t35
  rw [am_e34]
  exact am_cg_set (by decide)
theorem am_eb37 {G : am_G} : am_cells_X8 G (0 + 262) = (List.range' 262 3).map (am_cg G (am_sf1 G 0)) := by rfl
theorem am_e37 {G : am_G} : am_X11_t37 G 0 = (List.range' 1 264).map (am_cg G (am_sf1 G 0)) := by
  unfold am_X11_t37
  rw [am_e35, am_eb37, ← List.map_append]
  exact congrArg (List.map _) (List.range'_append_1 (s := 1) (m := 261) (n := 3))
theorem am_e38 {G : am_G} : am_X11_t38 G 0 = (List.range' 1 264).map (am_cg G (am_sf2 G 0)) := by
  unfold am_X11_t38
  rw [am_e37]
  exact am_cg_set (by decide)
theorem am_eb40 {G : am_G} : am_cells_X8 G (0 + 265) = (List.range' 265 3).map (am_cg G (am_sf2 G 0)) := by rfl
theorem am_e40 {G : am_G} : am_X11_t40 G 0 = (List.range' 1 267).map (am_cg G (am_sf2 G 0)) := by
  unfold am_X11_t40
  rw [am_e38, am_eb40, ← List.map_append]
  exact congrArg (List.map _) (List.range'_append_1 (s := 1) (m := 264) (n := 3))
theorem am_e41 {G : am_G} : am_X11_t41 G 0 = (List.range' 1 267).map (am_cg G (am_sf3 G 0)) := by
  unfold am_X11_t41
  rw [am_e40]
  exact am_cg_set (by decide)
theorem am_eb43 {G : am_G} : am_cells_X8 G (0 + 268) = (List.range' 268 3).map (am_cg G (am_sf3 G 0)) := by rfl
theorem am_e43 {G : am_G} : am_X11_t43 G 0 = (List.range' 1 270).map (am_cg G (am_sf3 G 0)) := by
  unfold am_X11_t43
  rw [am_e41, am_eb43, ← List.map_append]
  exact congrArg (List.map _) (List.range'_append_1 (s := 1) (m := 267) (n := 3))
theorem am_e44 {G : am_G} : am_X11_t44 G 0 = (List.range' 1 270).map (am_cg G (am_sf4 G 0)) := by
  unfold am_X11_t44
  rw [am_e43]
  exact am_cg_set (by decide)
theorem am_em {G : am_G} {f : Nat → Option Nat} : am_cells_X12 G 271 = (List.range' 271 19).map (am_cg G f) := by rfl
theorem am_etot {G : am_G} : am_total G = (List.range' 0 291).map (am_cg G (am_sf4 G 0)) := by
  have e3 : ([.inl (G.2.1 3, 1, .inr (.inl (fun _ => 0)))] : List va_E) = (List.range' 290 1).map (am_cg G (am_sf4 G 0)) := by rfl
  have e4 : List.range' 271 19 ++ List.range' 290 1 = List.range' 271 20 := List.range'_append_1 (s := 271) (m := 19) (n := 1)
  have e5 : List.range' 1 270 ++ List.range' 271 20 = List.range' 1 290 := List.range'_append_1 (s := 1) (m := 270) (n := 20)
  unfold am_total am_cells_X11
  rw [am_e44, am_em (f := am_sf4 G 0), e3, ← List.map_append, e4, List.cons_append, ← List.map_append, e5]
  show _ = am_cg G (am_sf4 G 0) 0 :: List.map (am_cg G (am_sf4 G 0)) (List.range' 1 290)
  exact congrArg (fun x => x :: List.map (am_cg G (am_sf4 G 0)) (List.range' 1 290)) rfl
theorem am_sf_at {G : am_G} : ∀ i, i < 4 → am_sf4 G 0 i = some (G.1 + (259 + 3 * i)) := by
  intro i hi
  rcases (show i = 0 ∨ i = 1 ∨ i = 2 ∨ i = 3 by omega) with rfl | rfl | rfl | rfl <;> rfl
theorem am_arrq {cA : ClassId} {n : Nat} {f g : Nat → Option Nat} (h : ∀ i, i < n → f i = g i) : vp_cell cA (n, .inr (.inr (.inr (.inr f)))) = vp_cell cA (n, .inr (.inr (.inr (.inr g)))) := by
  show arrV cA n (fun j => va_rf (f j)) = arrV cA n (fun j => va_rf (g j))
  unfold arrV
  have e : (fun j : Fin n => va_rf (f j.val)) = (fun j : Fin n => va_rf (g j.val)) := funext fun j => by rw [h j.val j.isLt]
  rw [e]
theorem am_conv {G : am_G} {H : Heap} (h : va_P G.2.2.1 vwCl (am_gw G.1 (am_total G)) H) : va_P G.2.2.1 vwCl (am_ws G am_w0) H := by
  intro k q hk
  have hk291 : k < 291 := by
    have := (List.getElem?_eq_some_iff.mp hk).1
    rw [am_ws_len] at this
    exact this
  rw [am_ws_at hk291] at hk
  obtain rfl := Option.some.inj hk
  have h1 := h k (G.1 + k, am_cg G (am_sf4 G 0) k) (am_gw_at (by rw [am_etot, List.getElem?_map, List.getElem?_range' hk291]; simp))
  by_cases e22 : k = 22
  · subst e22
    show H[G.1 + 22]? = some (vp_cell (G.2.1 4) (4, .inr (.inr (.inr (.inr (fun i => some (G.1 + (259 + 3 * i))))))))
    rw [← am_arrq (fun i hi => am_sf_at i hi)]
    exact h1
  · by_cases e47 : k = 47
    · subst e47
      show H[G.1 + 47]? = some (vp_cell (G.2.1 5) (40, .inr (.inr (.inr (.inr (fun i => some (G.1 + (48 + 5 * i))))))))
      rw [← am_arrq (fun i hi => (am_hF_at 40 i hi).trans (by rw [show 46 + (5 * i + 2) = 48 + 5 * i by omega]))]
      exact h1
    · rw [am_cg_o e22 e47] at h1
      exact h1
