/-! ===== what is so, in whole numbers: a row r of forty: 0 many, 1 metric, 2 nugget, 3 steep, 4 knot, 5 flat, 6 range, 7 most, 8 in a quarter, 9 reach, 10 + 3 i, 11 + 3 i, 12 + 3 i a sample's x, y, grade ===== -/
def vR (r : Nat → Int) : Prop := (0 ≤ r 0 ∧ r 0 ≤ 10) ∧ (0 ≤ r 1 ∧ r 1 ≤ 1) ∧ (0 ≤ r 2 ∧ r 2 ≤ 9) ∧ (1 ≤ r 3 ∧ r 3 ≤ 9) ∧ (1 ≤ r 4 ∧ r 4 ≤ 10) ∧ (0 ≤ r 5 ∧ r 5 ≤ r 3) ∧ (r 4 ≤ r 6 ∧ r 6 ≤ 20) ∧ (1 ≤ r 7 ∧ r 7 ≤ 4) ∧ (1 ≤ r 8 ∧ r 8 ≤ 4) ∧ (1 ≤ r 9 ∧ r 9 ≤ 62) ∧ ∀ i : Nat, (i : Int) < r 0 → (0 ≤ r (10 + 3 * i) ∧ r (10 + 3 * i) ≤ 31) ∧ (0 ≤ r (11 + 3 * i) ∧ r (11 + 3 * i) ≤ 31) ∧ (0 ≤ r (12 + 3 * i) ∧ r (12 + 3 * i) ≤ 999)
def sp_fr (mt dx dy : Int) : Int := if mt = 0 then max dx (-dx) + max dy (-dy) else max (max dx (-dx)) (max dy (-dy))
def sp_far (r : Nat → Int) (x y u v : Int) : Int := sp_fr (r 1) (x - u) (y - v)
def sp_unl (r : Nat → Int) (h : Int) : Int := if h = 0 then 0 else r 2 + r 3 * min h (r 4) + (if r 4 < h then r 5 * (min h (r 6) - r 4) else 0)
/-- how far a sample is from a place -/
def sp_fs (r : Nat → Int) (i : Nat) (x y : Int) : Int := sp_far r (r (10 + 3 * i)) (r (11 + 3 * i)) x y
def sp_ut (r : Nat → Int) (i : Nat) (x y : Int) : Int := sp_unl r (sp_fs r i x y)
def sp_qr (r : Nat → Int) (i : Nat) (x y : Int) : Int := if r (11 + 3 * i) < y then (if r (10 + 3 * i) < x then 2 else 3) else (if r (10 + 3 * i) < x then 1 else 0)
/-- the first sample at a place, from number i on, n to be looked at -/
def sp_thF (r : Nat → Int) (x y : Int) : Nat → Nat → Int
  | 0, _ => -1
  | n + 1, i => if r (10 + 3 * i) = x ∧ r (11 + 3 * i) = y then (i : Int) else sp_thF r x y n (i + 1)
def sp_th (r : Nat → Int) (x y : Int) : Int := sp_thF r x y (r 0).toNat 0
theorem sp_fr_rg {mt dx dy : Int} (hx : -31 ≤ dx ∧ dx ≤ 31) (hy : -31 ≤ dy ∧ dy ≤ 31) : 0 ≤ sp_fr mt dx dy ∧ sp_fr mt dx dy ≤ 62 := by
  unfold sp_fr; split <;> omega
theorem sp_fr_rg2 {mt dx dy : Int} (hx : -32 ≤ dx ∧ dx ≤ 32) (hy : -32 ≤ dy ∧ dy ≤ 32) : 0 ≤ sp_fr mt dx dy ∧ sp_fr mt dx dy ≤ 1000 := by
  unfold sp_fr; split <;> omega
theorem sp_fr_neg (mt dx dy : Int) : sp_fr mt (-dx) (-dy) = sp_fr mt dx dy := by
  unfold sp_fr; split <;> omega
theorem mul_rg {a b A B : Int} (ha : 0 ≤ a ∧ a ≤ A) (hb : 0 ≤ b ∧ b ≤ B) : 0 ≤ a * b ∧ a * b ≤ A * B := ⟨Int.mul_nonneg ha.1 hb.1, Int.mul_le_mul ha.2 hb.2 hb.1 (Int.le_trans ha.1 ha.2)⟩
theorem sp_unl_rg {r : Nat → Int} (hr : vR r) {h : Int} (h0 : 0 ≤ h) : 0 ≤ sp_unl r h ∧ sp_unl r h ≤ 189 := by
  obtain ⟨-, -, h2, h3, h4, h5, h6, -⟩ := hr
  unfold sp_unl
  split
  · omega
  · have k1 := mul_rg (a := r 3) (b := min h (r 4)) (A := 9) (B := 10) (by omega) (by omega)
    split
    · have k2 := mul_rg (a := r 5) (b := min h (r 6) - r 4) (A := 9) (B := 20) (by omega) (by omega)
      -- knot and what lies behind it together are 20 at most
      have k3 : r 3 * min h (r 4) + r 5 * (min h (r 6) - r 4) ≤ 9 * 20 := by
        have e1 : min h (r 4) = r 4 := by omega
        rw [e1]
        have k4 := mul_rg (a := r 3) (b := r 4) (A := 9) (B := r 4) (by omega) (by omega)
        have k5 := mul_rg (a := r 5) (b := min h (r 6) - r 4) (A := 9) (B := min h (r 6) - r 4) (by omega) (by omega)
        omega
      omega
    · omega
theorem sp_th_cases (r : Nat → Int) (x y : Int) : ∀ (n i : Nat), sp_thF r x y n i = -1 ∨ ∃ j : Nat, i ≤ j ∧ j < i + n ∧ sp_thF r x y n i = (j : Int) ∧ r (10 + 3 * j) = x ∧ r (11 + 3 * j) = y := by
  intro n
  induction n with
  | zero => intro i; exact Or.inl rfl
  | succ n ih =>
    intro i
    unfold sp_thF
    split
    · rename_i h
      exact Or.inr ⟨i, Nat.le_refl i, by omega, rfl, h.1, h.2⟩
    · rcases ih (i + 1) with h | ⟨j, h1, h2, h3⟩
      · exact Or.inl h
      · exact Or.inr ⟨j, by omega, by omega, h3⟩
theorem sp_th_rg {r : Nat → Int} (x y : Int) (h0 : 0 ≤ r 0 ∧ r 0 ≤ 10) : -1 ≤ sp_th r x y ∧ sp_th r x y < r 0 ∨ sp_th r x y = -1 := by
  rcases sp_th_cases r x y (r 0).toNat 0 with h | ⟨j, h1, h2, h3, -⟩
  · exact Or.inr h
  · left
    unfold sp_th
    rw [h3]
    omega
