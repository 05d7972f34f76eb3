/-! ===== determinants, grown over sets of columns ===== -/
def sp_tm (T : Nat → Nat → Int) (G : Nat → Int) (a k : Nat) : Int := if (a >>> k) % 2 = 1 then T (sp_gb a 5 0 - 1) k * G (a - 2 ^ k) else 0
def sp_S (T : Nat → Nat → Int) (G : Nat → Int) (a : Nat) : Nat → Int
  | 0 => 0
  | k + 1 => sp_S T G a k + (if sp_gb a (5 - (k + 1)) (k + 1) % 2 = 0 then sp_tm T G a k else -sp_tm T G a k)
/-- the row of the Leibniz rule, set by set: what a function on sets must keep -/
def isG (T : Nat → Nat → Int) (G : Nat → Int) (m : Nat) : Prop := G 0 = 1 ∧ ∀ a, 1 ≤ a → a < 2 ^ m → G a = sp_S T G a m
theorem gb_pos : ∀ a, a < 32 → 1 ≤ a → 1 ≤ sp_gb a 5 0 := by decide
theorem gb_le : ∀ m, m < 6 → ∀ a, a < 32 → a < 2 ^ m → sp_gb a 5 0 ≤ m := by decide
theorem bt_sub : ∀ a, a < 32 → ∀ k, k < 5 → (a >>> k) % 2 = 1 → 2 ^ k ≤ a := by decide
theorem pow2_le {m : Nat} (h : m ≤ 5) : 2 ^ m ≤ 32 := Nat.pow_le_pow_right (by omega) h
theorem pow2_pos (m : Nat) : 1 ≤ 2 ^ m := Nat.one_le_two_pow
theorem tmod_nat (a b : Nat) : (a : Int).tmod (b : Int) = ((a % b : Nat) : Int) := rfl
theorem tdiv_nat (a b : Nat) : (a : Int).tdiv (b : Int) = ((a / b : Nat) : Int) := rfl
