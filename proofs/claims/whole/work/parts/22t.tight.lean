/-! ===== the products that the class holds against each other stay within a long ===== -/
theorem er_bd {r : Nat → Int} (hr : vR r) {i j : Nat} (hi : (i : Int) < r 0) (hj : (j : Int) < r 0) : max (sp_eA r i) (-sp_eA r i) * tB (sp_eB r j) ≤ 9223372036854775807 := by
  exact er_bd' hr hi
theorem ho_bd {r : Nat → Int} (hr : vR r) {x y x2 y2 : Int} (hx : 0 ≤ x ∧ x ≤ 31) (hy : 0 ≤ y ∧ y ≤ 31) (hx2 : 0 ≤ x2 ∧ x2 ≤ 31) (hy2 : 0 ≤ y2 ∧ y2 ≤ 31) (hg : gEx r (sp_L0 r x y)) : -9223372036854775807 ≤ tA (sp_hA r x y) (sp_hB r x y) * tB (sp_hB r x2 y2) ∧ tA (sp_hA r x y) (sp_hB r x y) * tB (sp_hB r x2 y2) ≤ 9223372036854775807 := by
  exact ho_bd' hr hx hy hg
def tlp (r : Nat → Int) (L : List Nat) (v : Nat → Int) (p inn : Int) (k : Nat) : Int := if k = 0 then sp_top (nG r L v p) (p * nD r L) else if k = 1 then sp_bot (nG r L v p) (p * nD r L) else if k = 2 then sp_top (nS r L v p inn) (p * p * nD r L) else if k = 3 then sp_bot (nS r L v p inn) (p * p * nD r L) else if k = 4 then sp_top (nF r L v p) (p * nD r L) else sp_bot (nF r L v p) (p * nD r L)
theorem eA_cls (r : Nat → Int) (i : Nat) : tA (nG r (sp_Le r i) (sp_ve r i) 1) (nD r (sp_Le r i)) - r (12 + 3 * i) * (1 * tB (nD r (sp_Le r i))) = tA (sp_eA r i) (sp_eB r i) := by
  rw [tA_sg, tA_sg, tB_sg]
  unfold sp_eA sp_eB
  grind
