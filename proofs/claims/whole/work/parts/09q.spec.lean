/-! ===== what the calls answer ===== -/
noncomputable def ci {α : Type} (P : Prop) (a b : α) : α := @ite α P (Classical.propDecidable P) a b
theorem ci_t {α : Type} {P : Prop} {a b : α} (h : P) : ci P a b = a := by unfold ci; rw [if_pos h]
theorem ci_f {α : Type} {P : Prop} {a b : α} (h : ¬ P) : ci P a b = b := by unfold ci; rw [if_neg h]
def tA (a b : Int) : Int := if b < 0 then -a else a
def tB (b : Int) : Int := max b (-b)
theorem gcd_top (a b : Int) : sp_top a b * (Int.gcd a b : Int) = tA a b := by
  unfold sp_top tA
  apply Int.tdiv_mul_cancel
  split
  · exact Int.dvd_neg.mpr (Int.gcd_dvd_left a b)
  · exact Int.gcd_dvd_left a b
theorem gcd_bot (a b : Int) : sp_bot a b * (Int.gcd a b : Int) = tB b := by
  unfold sp_bot tB
  apply Int.tdiv_mul_cancel
  rcases Int.le_total 0 b with h | h
  · rw [show max b (-b) = b by omega]; exact Int.gcd_dvd_right a b
  · rw [show max b (-b) = -b by omega]; exact Int.dvd_neg.mpr (Int.gcd_dvd_right a b)
theorem tB_pos {b : Int} (h : b ≠ 0) : 0 < tB b := by unfold tB; omega
theorem gcd_pos {a b : Int} (h : b ≠ 0) : 0 < (Int.gcd a b : Int) := by have := Int.gcd_pos_of_ne_zero_right a h; omega
theorem bot_pos {a b : Int} (h : b ≠ 0) : 0 < sp_bot a b := by
  have h1 := gcd_bot a b
  have h2 := tB_pos h
  have h3 := gcd_pos (a := a) h
  rcases (show sp_bot a b ≤ 0 ∨ 0 < sp_bot a b by omega) with q | q
  · exfalso
    have := Int.mul_le_mul_of_nonneg_right q (Int.le_of_lt h3)
    omega
  · exact q
theorem top_le (a b : Int) {M : Int} (hb : b ≠ 0) (h : -M ≤ a ∧ a ≤ M) : -M ≤ sp_top a b ∧ sp_top a b ≤ M := by
  have h1 := gcd_top a b
  have h3 := gcd_pos (a := a) hb
  have hA : -M ≤ tA a b ∧ tA a b ≤ M := by unfold tA; split <;> omega
  rw [← h1] at hA
  rcases Int.le_total 0 (sp_top a b) with q | q
  · have := Int.mul_le_mul_of_nonneg_left (show 1 ≤ (Int.gcd a b : Int) by omega) q
    omega
  · have := Int.mul_le_mul_of_nonneg_left (show 1 ≤ (Int.gcd a b : Int) by omega) (show 0 ≤ -sp_top a b by omega)
    rw [Int.neg_mul, Int.neg_mul] at this
    omega
theorem bot_le (a b : Int) {M : Int} (hb : b ≠ 0) (h : -M ≤ b ∧ b ≤ M) : sp_bot a b ≤ M := by
  have h1 := gcd_bot a b
  have h3 := gcd_pos (a := a) hb
  have h4 := bot_pos (a := a) hb
  have := Int.mul_le_mul_of_nonneg_left (show 1 ≤ (Int.gcd a b : Int) by omega) (Int.le_of_lt h4)
  have : tB b ≤ M := by unfold tB; omega
  omega
/-- lowest terms or not: the same is more -/
theorem more_red {a b c d : Int} (hb : b ≠ 0) (hd : d ≠ 0) : sp_top c d * sp_bot a b < sp_top a b * sp_bot c d ↔ tA c d * tB b < tA a b * tB d := by
  rw [← gcd_top c d, ← gcd_top a b, ← gcd_bot a b, ← gcd_bot c d]
  have g1 := gcd_pos (a := a) hb
  have g2 := gcd_pos (a := c) hd
  generalize (Int.gcd a b : Int) = x at g1 ⊢
  generalize (Int.gcd c d : Int) = y at g2 ⊢
  generalize sp_top c d = p
  generalize sp_top a b = q
  generalize sp_bot a b = r
  generalize sp_bot c d = s
  have e1 : p * y * (r * x) = (p * r) * (x * y) := by grind
  have e2 : q * x * (s * y) = (q * s) * (x * y) := by grind
  rw [e1, e2]
  have hp := Int.mul_pos g1 g2
  constructor
  · intro h; exact Int.mul_lt_mul_of_pos_right h hp
  · intro h; exact Int.lt_of_mul_lt_mul_right h (Int.le_of_lt hp)
theorem abs_mul_pos {p y : Int} (hy : 0 < y) : max (p * y) (-(p * y)) = max p (-p) * y := by
  rcases Int.le_total 0 p with h | h
  · have := Int.mul_nonneg h (Int.le_of_lt hy)
    rw [show max p (-p) = p by omega]; omega
  · have := Int.mul_nonneg (show 0 ≤ -p by omega) (Int.le_of_lt hy)
    rw [show max p (-p) = -p by omega, Int.neg_mul]
    rw [Int.neg_mul] at this
    omega
theorem abs_tA (a b : Int) : max (tA a b) (-tA a b) = max a (-a) := by unfold tA; split <;> omega
theorem more_redA {a b c d : Int} (hb : b ≠ 0) (hd : d ≠ 0) : max (sp_top c d) (-sp_top c d) * sp_bot a b < max (sp_top a b) (-sp_top a b) * sp_bot c d ↔ max c (-c) * tB b < max a (-a) * tB d := by
  rw [← abs_tA c d, ← abs_tA a b, ← gcd_top c d, ← gcd_top a b, ← gcd_bot a b, ← gcd_bot c d]
  have g1 := gcd_pos (a := a) hb
  have g2 := gcd_pos (a := c) hd
  rw [abs_mul_pos g1, abs_mul_pos g2]
  generalize (Int.gcd a b : Int) = x at g1 ⊢
  generalize (Int.gcd c d : Int) = y at g2 ⊢
  generalize max (sp_top c d) (-sp_top c d) = p
  generalize max (sp_top a b) (-sp_top a b) = q
  generalize sp_bot a b = r
  generalize sp_bot c d = s
  have e1 : p * y * (r * x) = (p * r) * (x * y) := by grind
  have e2 : q * x * (s * y) = (q * s) * (x * y) := by grind
  rw [e1, e2]
  have hp := Int.mul_pos g1 g2
  constructor
  · intro h; exact Int.mul_lt_mul_of_pos_right h hp
  · intro h; exact Int.lt_of_mul_lt_mul_right h (Int.le_of_lt hp)
theorem cut_red {a b : Int} (hb : b ≠ 0) : (sp_top a b).tdiv (sp_bot a b) = (tA a b).tdiv (tB b) := by
  rw [← gcd_top a b, ← gcd_bot a b]
  exact (Int.mul_tdiv_mul_of_pos_left _ _ (gcd_pos (a := a) hb)).symm
/-- a whole number of times the lower part is taken away: lowest terms stay so -/
theorem gcd_shift (a b g : Int) : Int.gcd (a - g * b) b = Int.gcd a b := by
  rw [show a - g * b = a + (-g) * b by rw [Int.neg_mul]; omega]
  exact Int.gcd_add_mul_right_left _ _ _
theorem top_shift {a b : Int} (g : Int) (hb : b ≠ 0) : sp_top (a - g * b) b = sp_top a b - g * sp_bot a b := by
  have h1 := gcd_top (a - g * b) b
  have h2 := gcd_top a b
  have h3 := gcd_bot a b
  rw [gcd_shift] at h1
  have g1 := gcd_pos (a := a) hb
  have e : tA (a - g * b) b = tA a b - g * tB b := by
    unfold tA tB
    rcases (show b < 0 ∨ 0 < b by omega) with h | h
    · rw [if_pos h, if_pos h, show max b (-b) = -b by omega, Int.mul_neg]; omega
    · rw [if_neg (by omega), if_neg (by omega), show max b (-b) = b by omega]
  rw [e, ← h2, ← h3] at h1
  apply Int.eq_of_mul_eq_mul_right (show (Int.gcd a b : Int) ≠ 0 by omega)
  rw [h1]; grind
theorem bot_shift (a b g : Int) : sp_bot (a - g * b) b = sp_bot a b := by unfold sp_bot; rw [gcd_shift]
/-- a sample left out -/
def sp_Le (r : Nat → Int) (i : Nat) : List Nat := sp_lk r (r (10 + 3 * i)) (r (11 + 3 * i)) (i : Int)
def sp_ve (r : Nat → Int) (i : Nat) : Nat → Int := sp_v1 r (sp_Le r i) (r (10 + 3 * i)) (r (11 + 3 * i))
def sp_eA (r : Nat → Int) (i : Nat) : Int := nG r (sp_Le r i) (sp_ve r i) 1 - r (12 + 3 * i) * nD r (sp_Le r i)
def sp_eB (r : Nat → Int) (i : Nat) : Int := nD r (sp_Le r i)
noncomputable def sp_wg (r : Nat → Int) (n : Nat) : Int := sm (fun i => 1 - zB (gEx r (sp_Le r i))) n
def sp_fM (r : Nat → Int) (i j : Nat) : Prop := max (sp_eA r j) (-sp_eA r j) * tB (sp_eB r i) < max (sp_eA r i) (-sp_eA r i) * tB (sp_eB r j)
noncomputable def sp_fs1 (r : Nat → Int) (i : Nat) (fo : Int) : Int := ci (gEx r (sp_Le r i) ∧ (fo = -1 ∨ sp_fM r i fo.toNat)) (i : Int) fo
def sp_it (f : Nat → Int → Int) : Nat → Nat → Int → Int
  | 0, _, a => a
  | n + 1, i, a => sp_it f n (i + 1) (f i a)
noncomputable def sp_fo (r : Nat → Int) : Int := sp_it (sp_fs1 r) (r 0).toNat 0 (-1)
/-- the grade guessed at a place, cut -/
def sp_L0 (r : Nat → Int) (x y : Int) : List Nat := sp_lk r x y (-1)
def sp_V0 (r : Nat → Int) (x y : Int) : Nat → Int := sp_v1 r (sp_L0 r x y) x y
noncomputable def sp_cut (r : Nat → Int) (x y : Int) : Int := ci (gEx r (sp_L0 r x y)) ((tA (nG r (sp_L0 r x y) (sp_V0 r x y) 1) (nD r (sp_L0 r x y))).tdiv (tB (nD r (sp_L0 r x y)))) (-1)
noncomputable def sp_wrF (r bx by_ bi : Nat → Int) : Nat → Nat → Int
  | 0, _ => -1
  | n + 1, k => if sp_cut r (bx k) (by_ k) = bi k then sp_wrF r bx by_ bi n (k + 1) else (k : Int)
noncomputable def sp_wr (r bx by_ bi : Nat → Int) (n : Int) : Int := sp_wrF r bx by_ bi n.toNat 0
/-- the next hole: of the places of a rectangle, row by row; k: the number of the best so far -/
def sp_hx (x : Int) (W k : Nat) : Int := x + ((k % W : Nat) : Int)
def sp_hy (y : Int) (W k : Nat) : Int := y + ((k / W : Nat) : Int)
def sp_hA (r : Nat → Int) (x y : Int) : Int := nS r (sp_L0 r x y) (sp_V0 r x y) 1 0
def sp_hB (r : Nat → Int) (x y : Int) : Int := nD r (sp_L0 r x y)
def sp_hM (r : Nat → Int) (x y : Int) (W k j : Nat) : Prop := tA (sp_hA r (sp_hx x W j) (sp_hy y W j)) (sp_hB r (sp_hx x W j) (sp_hy y W j)) * tB (sp_hB r (sp_hx x W k) (sp_hy y W k)) < tA (sp_hA r (sp_hx x W k) (sp_hy y W k)) (sp_hB r (sp_hx x W k) (sp_hy y W k)) * tB (sp_hB r (sp_hx x W j) (sp_hy y W j))
noncomputable def sp_hs (r : Nat → Int) (x y : Int) (W k : Nat) (fk : Int) : Int := ci (sp_th r (sp_hx x W k) (sp_hy y W k) = -1 ∧ gEx r (sp_L0 r (sp_hx x W k) (sp_hy y W k)) ∧ (fk = -1 ∨ sp_hM r x y W k fk.toNat)) (k : Int) fk
def sp_hz (x y : Int) (W : Nat) (fk : Int) : Int := if fk = -1 then -1 else 100 * sp_hy y W fk.toNat + sp_hx x W fk.toNat
noncomputable def sp_ho (r : Nat → Int) (x y : Int) (W N : Nat) : Int := sp_hz x y W (sp_it (sp_hs r x y W) N 0 (-1))
