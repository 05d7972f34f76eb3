/-! ===== the determinant of a table, grown over sets ===== -/
def sp_Gf (T : Nat → Nat → Int) (m : Nat) : Nat → Nat → Int
  | 0, _ => 1
  | f + 1, a => if a = 0 then 1 else sp_S T (sp_Gf T m f) a m
def sp_G (T : Nat → Nat → Int) (m a : Nat) : Int := sp_Gf T m a a
def sp_dt (T : Nat → Nat → Int) (m : Nat) : Int := sp_G T m (2 ^ m - 1)
theorem sp_S_congr (T : Nat → Nat → Int) {G1 G2 : Nat → Int} {a : Nat} : ∀ (n : Nat), (∀ k, k < n → (a >>> k) % 2 = 1 → G1 (a - 2 ^ k) = G2 (a - 2 ^ k)) → sp_S T G1 a n = sp_S T G2 a n := by
  intro n
  induction n with
  | zero => intro _; rfl
  | succ n ih =>
    intro h
    have e : sp_tm T G1 a n = sp_tm T G2 a n := by
      unfold sp_tm
      split
      · rename_i hb
        rw [h n (by omega) hb]
      · rfl
    rw [sp_S, sp_S, ih (fun k hk => h k (by omega)), e]
theorem sp_Gf_eq (T : Nat → Nat → Int) {m : Nat} (hm : m ≤ 5) : ∀ (a : Nat), a < 32 → ∀ f, a ≤ f → sp_Gf T m f a = sp_G T m a := by
  intro a
  induction a using Nat.strongRecOn with
  | ind a ih =>
    intro ha f hf
    by_cases h0 : a = 0
    · subst h0
      cases f with
      | zero => rfl
      | succ f => rfl
    · cases f with
      | zero => omega
      | succ f =>
        cases a with
        | zero => omega
        | succ a =>
          show (if a + 1 = 0 then 1 else sp_S T (sp_Gf T m f) (a + 1) m) = (if a + 1 = 0 then 1 else sp_S T (sp_Gf T m a) (a + 1) m)
          rw [if_neg h0, if_neg h0]
          apply sp_S_congr
          intro k hk hb
          have h1 := bt_sub (a + 1) ha k (by omega) hb
          have h2 := pow2_pos k
          rw [ih (a + 1 - 2 ^ k) (by omega) (by omega) f (by omega), ih (a + 1 - 2 ^ k) (by omega) (by omega) a (by omega)]
theorem isG_G (T : Nat → Nat → Int) {m : Nat} (hm : m ≤ 5) : isG T (sp_G T m) m := by
  refine ⟨rfl, fun a h1 h2 => ?_⟩
  have h3 := pow2_le hm
  cases a with
  | zero => omega
  | succ a =>
    show (if a + 1 = 0 then 1 else sp_S T (sp_Gf T m a) (a + 1) m) = _
    rw [if_neg (by omega)]
    apply sp_S_congr
    intro k hk hb
    have h4 := bt_sub (a + 1) (by omega) k (by omega) hb
    have h5 := pow2_pos k
    exact sp_Gf_eq T hm (a + 1 - 2 ^ k) (by omega) a (by omega)
set_option maxRecDepth 100000 in
set_option maxHeartbeats 4000000 in
theorem dt2 (T : Nat → Nat → Int) : sp_dt T 2 = ((0 + -(T 1 0 * ((0 + -0) + (T 0 1 * 1)))) + (T 1 1 * ((0 + (T 0 0 * 1)) + 0))) := rfl
set_option maxRecDepth 100000 in
set_option maxHeartbeats 4000000 in
theorem dt3 (T : Nat → Nat → Int) : sp_dt T 3 = (((0 + (T 2 0 * (((0 + 0) + -(T 1 1 * (((0 + -0) + -0) + (T 0 2 * 1)))) + (T 1 2 * (((0 + -0) + (T 0 1 * 1)) + 0))))) + -(T 2 1 * (((0 + -(T 1 0 * (((0 + -0) + -0) + (T 0 2 * 1)))) + -0) + (T 1 2 * (((0 + (T 0 0 * 1)) + 0) + 0))))) + (T 2 2 * (((0 + -(T 1 0 * (((0 + -0) + (T 0 1 * 1)) + 0))) + (T 1 1 * (((0 + (T 0 0 * 1)) + 0) + 0))) + 0))) := rfl
set_option maxRecDepth 100000 in
set_option maxHeartbeats 4000000 in
theorem dt4 (T : Nat → Nat → Int) : sp_dt T 4 = ((((0 + -(T 3 0 * ((((0 + -0) + (T 2 1 * ((((0 + 0) + 0) + -(T 1 2 * ((((0 + -0) + -0) + -0) + (T 0 3 * 1)))) + (T 1 3 * ((((0 + -0) + -0) + (T 0 2 * 1)) + 0))))) + -(T 2 2 * ((((0 + 0) + -(T 1 1 * ((((0 + -0) + -0) + -0) + (T 0 3 * 1)))) + -0) + (T 1 3 * ((((0 + -0) + (T 0 1 * 1)) + 0) + 0))))) + (T 2 3 * ((((0 + 0) + -(T 1 1 * ((((0 + -0) + -0) + (T 0 2 * 1)) + 0))) + (T 1 2 * ((((0 + -0) + (T 0 1 * 1)) + 0) + 0))) + 0))))) + (T 3 1 * ((((0 + (T 2 0 * ((((0 + 0) + 0) + -(T 1 2 * ((((0 + -0) + -0) + -0) + (T 0 3 * 1)))) + (T 1 3 * ((((0 + -0) + -0) + (T 0 2 * 1)) + 0))))) + 0) + -(T 2 2 * ((((0 + -(T 1 0 * ((((0 + -0) + -0) + -0) + (T 0 3 * 1)))) + -0) + -0) + (T 1 3 * ((((0 + (T 0 0 * 1)) + 0) + 0) + 0))))) + (T 2 3 * ((((0 + -(T 1 0 * ((((0 + -0) + -0) + (T 0 2 * 1)) + 0))) + -0) + (T 1 2 * ((((0 + (T 0 0 * 1)) + 0) + 0) + 0))) + 0))))) + -(T 3 2 * ((((0 + (T 2 0 * ((((0 + 0) + -(T 1 1 * ((((0 + -0) + -0) + -0) + (T 0 3 * 1)))) + -0) + (T 1 3 * ((((0 + -0) + (T 0 1 * 1)) + 0) + 0))))) + -(T 2 1 * ((((0 + -(T 1 0 * ((((0 + -0) + -0) + -0) + (T 0 3 * 1)))) + -0) + -0) + (T 1 3 * ((((0 + (T 0 0 * 1)) + 0) + 0) + 0))))) + -0) + (T 2 3 * ((((0 + -(T 1 0 * ((((0 + -0) + (T 0 1 * 1)) + 0) + 0))) + (T 1 1 * ((((0 + (T 0 0 * 1)) + 0) + 0) + 0))) + 0) + 0))))) + (T 3 3 * ((((0 + (T 2 0 * ((((0 + 0) + -(T 1 1 * ((((0 + -0) + -0) + (T 0 2 * 1)) + 0))) + (T 1 2 * ((((0 + -0) + (T 0 1 * 1)) + 0) + 0))) + 0))) + -(T 2 1 * ((((0 + -(T 1 0 * ((((0 + -0) + -0) + (T 0 2 * 1)) + 0))) + -0) + (T 1 2 * ((((0 + (T 0 0 * 1)) + 0) + 0) + 0))) + 0))) + (T 2 2 * ((((0 + -(T 1 0 * ((((0 + -0) + (T 0 1 * 1)) + 0) + 0))) + (T 1 1 * ((((0 + (T 0 0 * 1)) + 0) + 0) + 0))) + 0) + 0))) + 0))) := rfl
set_option maxRecDepth 100000 in
set_option maxHeartbeats 4000000 in
theorem dt5 (T : Nat → Nat → Int) : sp_dt T 5 = (((((0 + (T 4 0 * (((((0 + 0) + -(T 3 1 * (((((0 + -0) + -0) + (T 2 2 * (((((0 + 0) + 0) + 0) + -(T 1 3 * (((((0 + -0) + -0) + -0) + -0) + (T 0 4 * 1)))) + (T 1 4 * (((((0 + -0) + -0) + -0) + (T 0 3 * 1)) + 0))))) + -(T 2 3 * (((((0 + 0) + 0) + -(T 1 2 * (((((0 + -0) + -0) + -0) + -0) + (T 0 4 * 1)))) + -0) + (T 1 4 * (((((0 + -0) + -0) + (T 0 2 * 1)) + 0) + 0))))) + (T 2 4 * (((((0 + 0) + 0) + -(T 1 2 * (((((0 + -0) + -0) + -0) + (T 0 3 * 1)) + 0))) + (T 1 3 * (((((0 + -0) + -0) + (T 0 2 * 1)) + 0) + 0))) + 0))))) + (T 3 2 * (((((0 + -0) + (T 2 1 * (((((0 + 0) + 0) + 0) + -(T 1 3 * (((((0 + -0) + -0) + -0) + -0) + (T 0 4 * 1)))) + (T 1 4 * (((((0 + -0) + -0) + -0) + (T 0 3 * 1)) + 0))))) + 0) + -(T 2 3 * (((((0 + 0) + -(T 1 1 * (((((0 + -0) + -0) + -0) + -0) + (T 0 4 * 1)))) + -0) + -0) + (T 1 4 * (((((0 + -0) + (T 0 1 * 1)) + 0) + 0) + 0))))) + (T 2 4 * (((((0 + 0) + -(T 1 1 * (((((0 + -0) + -0) + -0) + (T 0 3 * 1)) + 0))) + -0) + (T 1 3 * (((((0 + -0) + (T 0 1 * 1)) + 0) + 0) + 0))) + 0))))) + -(T 3 3 * (((((0 + -0) + (T 2 1 * (((((0 + 0) + 0) + -(T 1 2 * (((((0 + -0) + -0) + -0) + -0) + (T 0 4 * 1)))) + -0) + (T 1 4 * (((((0 + -0) + -0) + (T 0 2 * 1)) + 0) + 0))))) + -(T 2 2 * (((((0 + 0) + -(T 1 1 * (((((0 + -0) + -0) + -0) + -0) + (T 0 4 * 1)))) + -0) + -0) + (T 1 4 * (((((0 + -0) + (T 0 1 * 1)) + 0) + 0) + 0))))) + -0) + (T 2 4 * (((((0 + 0) + -(T 1 1 * (((((0 + -0) + -0) + (T 0 2 * 1)) + 0) + 0))) + (T 1 2 * (((((0 + -0) + (T 0 1 * 1)) + 0) + 0) + 0))) + 0) + 0))))) + (T 3 4 * (((((0 + -0) + (T 2 1 * (((((0 + 0) + 0) + -(T 1 2 * (((((0 + -0) + -0) + -0) + (T 0 3 * 1)) + 0))) + (T 1 3 * (((((0 + -0) + -0) + (T 0 2 * 1)) + 0) + 0))) + 0))) + -(T 2 2 * (((((0 + 0) + -(T 1 1 * (((((0 + -0) + -0) + -0) + (T 0 3 * 1)) + 0))) + -0) + (T 1 3 * (((((0 + -0) + (T 0 1 * 1)) + 0) + 0) + 0))) + 0))) + (T 2 3 * (((((0 + 0) + -(T 1 1 * (((((0 + -0) + -0) + (T 0 2 * 1)) + 0) + 0))) + (T 1 2 * (((((0 + -0) + (T 0 1 * 1)) + 0) + 0) + 0))) + 0) + 0))) + 0))))) + -(T 4 1 * (((((0 + -(T 3 0 * (((((0 + -0) + -0) + (T 2 2 * (((((0 + 0) + 0) + 0) + -(T 1 3 * (((((0 + -0) + -0) + -0) + -0) + (T 0 4 * 1)))) + (T 1 4 * (((((0 + -0) + -0) + -0) + (T 0 3 * 1)) + 0))))) + -(T 2 3 * (((((0 + 0) + 0) + -(T 1 2 * (((((0 + -0) + -0) + -0) + -0) + (T 0 4 * 1)))) + -0) + (T 1 4 * (((((0 + -0) + -0) + (T 0 2 * 1)) + 0) + 0))))) + (T 2 4 * (((((0 + 0) + 0) + -(T 1 2 * (((((0 + -0) + -0) + -0) + (T 0 3 * 1)) + 0))) + (T 1 3 * (((((0 + -0) + -0) + (T 0 2 * 1)) + 0) + 0))) + 0))))) + -0) + (T 3 2 * (((((0 + (T 2 0 * (((((0 + 0) + 0) + 0) + -(T 1 3 * (((((0 + -0) + -0) + -0) + -0) + (T 0 4 * 1)))) + (T 1 4 * (((((0 + -0) + -0) + -0) + (T 0 3 * 1)) + 0))))) + 0) + 0) + -(T 2 3 * (((((0 + -(T 1 0 * (((((0 + -0) + -0) + -0) + -0) + (T 0 4 * 1)))) + -0) + -0) + -0) + (T 1 4 * (((((0 + (T 0 0 * 1)) + 0) + 0) + 0) + 0))))) + (T 2 4 * (((((0 + -(T 1 0 * (((((0 + -0) + -0) + -0) + (T 0 3 * 1)) + 0))) + -0) + -0) + (T 1 3 * (((((0 + (T 0 0 * 1)) + 0) + 0) + 0) + 0))) + 0))))) + -(T 3 3 * (((((0 + (T 2 0 * (((((0 + 0) + 0) + -(T 1 2 * (((((0 + -0) + -0) + -0) + -0) + (T 0 4 * 1)))) + -0) + (T 1 4 * (((((0 + -0) + -0) + (T 0 2 * 1)) + 0) + 0))))) + 0) + -(T 2 2 * (((((0 + -(T 1 0 * (((((0 + -0) + -0) + -0) + -0) + (T 0 4 * 1)))) + -0) + -0) + -0) + (T 1 4 * (((((0 + (T 0 0 * 1)) + 0) + 0) + 0) + 0))))) + -0) + (T 2 4 * (((((0 + -(T 1 0 * (((((0 + -0) + -0) + (T 0 2 * 1)) + 0) + 0))) + -0) + (T 1 2 * (((((0 + (T 0 0 * 1)) + 0) + 0) + 0) + 0))) + 0) + 0))))) + (T 3 4 * (((((0 + (T 2 0 * (((((0 + 0) + 0) + -(T 1 2 * (((((0 + -0) + -0) + -0) + (T 0 3 * 1)) + 0))) + (T 1 3 * (((((0 + -0) + -0) + (T 0 2 * 1)) + 0) + 0))) + 0))) + 0) + -(T 2 2 * (((((0 + -(T 1 0 * (((((0 + -0) + -0) + -0) + (T 0 3 * 1)) + 0))) + -0) + -0) + (T 1 3 * (((((0 + (T 0 0 * 1)) + 0) + 0) + 0) + 0))) + 0))) + (T 2 3 * (((((0 + -(T 1 0 * (((((0 + -0) + -0) + (T 0 2 * 1)) + 0) + 0))) + -0) + (T 1 2 * (((((0 + (T 0 0 * 1)) + 0) + 0) + 0) + 0))) + 0) + 0))) + 0))))) + (T 4 2 * (((((0 + -(T 3 0 * (((((0 + -0) + (T 2 1 * (((((0 + 0) + 0) + 0) + -(T 1 3 * (((((0 + -0) + -0) + -0) + -0) + (T 0 4 * 1)))) + (T 1 4 * (((((0 + -0) + -0) + -0) + (T 0 3 * 1)) + 0))))) + 0) + -(T 2 3 * (((((0 + 0) + -(T 1 1 * (((((0 + -0) + -0) + -0) + -0) + (T 0 4 * 1)))) + -0) + -0) + (T 1 4 * (((((0 + -0) + (T 0 1 * 1)) + 0) + 0) + 0))))) + (T 2 4 * (((((0 + 0) + -(T 1 1 * (((((0 + -0) + -0) + -0) + (T 0 3 * 1)) + 0))) + -0) + (T 1 3 * (((((0 + -0) + (T 0 1 * 1)) + 0) + 0) + 0))) + 0))))) + (T 3 1 * (((((0 + (T 2 0 * (((((0 + 0) + 0) + 0) + -(T 1 3 * (((((0 + -0) + -0) + -0) + -0) + (T 0 4 * 1)))) + (T 1 4 * (((((0 + -0) + -0) + -0) + (T 0 3 * 1)) + 0))))) + 0) + 0) + -(T 2 3 * (((((0 + -(T 1 0 * (((((0 + -0) + -0) + -0) + -0) + (T 0 4 * 1)))) + -0) + -0) + -0) + (T 1 4 * (((((0 + (T 0 0 * 1)) + 0) + 0) + 0) + 0))))) + (T 2 4 * (((((0 + -(T 1 0 * (((((0 + -0) + -0) + -0) + (T 0 3 * 1)) + 0))) + -0) + -0) + (T 1 3 * (((((0 + (T 0 0 * 1)) + 0) + 0) + 0) + 0))) + 0))))) + 0) + -(T 3 3 * (((((0 + (T 2 0 * (((((0 + 0) + -(T 1 1 * (((((0 + -0) + -0) + -0) + -0) + (T 0 4 * 1)))) + -0) + -0) + (T 1 4 * (((((0 + -0) + (T 0 1 * 1)) + 0) + 0) + 0))))) + -(T 2 1 * (((((0 + -(T 1 0 * (((((0 + -0) + -0) + -0) + -0) + (T 0 4 * 1)))) + -0) + -0) + -0) + (T 1 4 * (((((0 + (T 0 0 * 1)) + 0) + 0) + 0) + 0))))) + -0) + -0) + (T 2 4 * (((((0 + -(T 1 0 * (((((0 + -0) + (T 0 1 * 1)) + 0) + 0) + 0))) + (T 1 1 * (((((0 + (T 0 0 * 1)) + 0) + 0) + 0) + 0))) + 0) + 0) + 0))))) + (T 3 4 * (((((0 + (T 2 0 * (((((0 + 0) + -(T 1 1 * (((((0 + -0) + -0) + -0) + (T 0 3 * 1)) + 0))) + -0) + (T 1 3 * (((((0 + -0) + (T 0 1 * 1)) + 0) + 0) + 0))) + 0))) + -(T 2 1 * (((((0 + -(T 1 0 * (((((0 + -0) + -0) + -0) + (T 0 3 * 1)) + 0))) + -0) + -0) + (T 1 3 * (((((0 + (T 0 0 * 1)) + 0) + 0) + 0) + 0))) + 0))) + -0) + (T 2 3 * (((((0 + -(T 1 0 * (((((0 + -0) + (T 0 1 * 1)) + 0) + 0) + 0))) + (T 1 1 * (((((0 + (T 0 0 * 1)) + 0) + 0) + 0) + 0))) + 0) + 0) + 0))) + 0))))) + -(T 4 3 * (((((0 + -(T 3 0 * (((((0 + -0) + (T 2 1 * (((((0 + 0) + 0) + -(T 1 2 * (((((0 + -0) + -0) + -0) + -0) + (T 0 4 * 1)))) + -0) + (T 1 4 * (((((0 + -0) + -0) + (T 0 2 * 1)) + 0) + 0))))) + -(T 2 2 * (((((0 + 0) + -(T 1 1 * (((((0 + -0) + -0) + -0) + -0) + (T 0 4 * 1)))) + -0) + -0) + (T 1 4 * (((((0 + -0) + (T 0 1 * 1)) + 0) + 0) + 0))))) + -0) + (T 2 4 * (((((0 + 0) + -(T 1 1 * (((((0 + -0) + -0) + (T 0 2 * 1)) + 0) + 0))) + (T 1 2 * (((((0 + -0) + (T 0 1 * 1)) + 0) + 0) + 0))) + 0) + 0))))) + (T 3 1 * (((((0 + (T 2 0 * (((((0 + 0) + 0) + -(T 1 2 * (((((0 + -0) + -0) + -0) + -0) + (T 0 4 * 1)))) + -0) + (T 1 4 * (((((0 + -0) + -0) + (T 0 2 * 1)) + 0) + 0))))) + 0) + -(T 2 2 * (((((0 + -(T 1 0 * (((((0 + -0) + -0) + -0) + -0) + (T 0 4 * 1)))) + -0) + -0) + -0) + (T 1 4 * (((((0 + (T 0 0 * 1)) + 0) + 0) + 0) + 0))))) + -0) + (T 2 4 * (((((0 + -(T 1 0 * (((((0 + -0) + -0) + (T 0 2 * 1)) + 0) + 0))) + -0) + (T 1 2 * (((((0 + (T 0 0 * 1)) + 0) + 0) + 0) + 0))) + 0) + 0))))) + -(T 3 2 * (((((0 + (T 2 0 * (((((0 + 0) + -(T 1 1 * (((((0 + -0) + -0) + -0) + -0) + (T 0 4 * 1)))) + -0) + -0) + (T 1 4 * (((((0 + -0) + (T 0 1 * 1)) + 0) + 0) + 0))))) + -(T 2 1 * (((((0 + -(T 1 0 * (((((0 + -0) + -0) + -0) + -0) + (T 0 4 * 1)))) + -0) + -0) + -0) + (T 1 4 * (((((0 + (T 0 0 * 1)) + 0) + 0) + 0) + 0))))) + -0) + -0) + (T 2 4 * (((((0 + -(T 1 0 * (((((0 + -0) + (T 0 1 * 1)) + 0) + 0) + 0))) + (T 1 1 * (((((0 + (T 0 0 * 1)) + 0) + 0) + 0) + 0))) + 0) + 0) + 0))))) + -0) + (T 3 4 * (((((0 + (T 2 0 * (((((0 + 0) + -(T 1 1 * (((((0 + -0) + -0) + (T 0 2 * 1)) + 0) + 0))) + (T 1 2 * (((((0 + -0) + (T 0 1 * 1)) + 0) + 0) + 0))) + 0) + 0))) + -(T 2 1 * (((((0 + -(T 1 0 * (((((0 + -0) + -0) + (T 0 2 * 1)) + 0) + 0))) + -0) + (T 1 2 * (((((0 + (T 0 0 * 1)) + 0) + 0) + 0) + 0))) + 0) + 0))) + (T 2 2 * (((((0 + -(T 1 0 * (((((0 + -0) + (T 0 1 * 1)) + 0) + 0) + 0))) + (T 1 1 * (((((0 + (T 0 0 * 1)) + 0) + 0) + 0) + 0))) + 0) + 0) + 0))) + 0) + 0))))) + (T 4 4 * (((((0 + -(T 3 0 * (((((0 + -0) + (T 2 1 * (((((0 + 0) + 0) + -(T 1 2 * (((((0 + -0) + -0) + -0) + (T 0 3 * 1)) + 0))) + (T 1 3 * (((((0 + -0) + -0) + (T 0 2 * 1)) + 0) + 0))) + 0))) + -(T 2 2 * (((((0 + 0) + -(T 1 1 * (((((0 + -0) + -0) + -0) + (T 0 3 * 1)) + 0))) + -0) + (T 1 3 * (((((0 + -0) + (T 0 1 * 1)) + 0) + 0) + 0))) + 0))) + (T 2 3 * (((((0 + 0) + -(T 1 1 * (((((0 + -0) + -0) + (T 0 2 * 1)) + 0) + 0))) + (T 1 2 * (((((0 + -0) + (T 0 1 * 1)) + 0) + 0) + 0))) + 0) + 0))) + 0))) + (T 3 1 * (((((0 + (T 2 0 * (((((0 + 0) + 0) + -(T 1 2 * (((((0 + -0) + -0) + -0) + (T 0 3 * 1)) + 0))) + (T 1 3 * (((((0 + -0) + -0) + (T 0 2 * 1)) + 0) + 0))) + 0))) + 0) + -(T 2 2 * (((((0 + -(T 1 0 * (((((0 + -0) + -0) + -0) + (T 0 3 * 1)) + 0))) + -0) + -0) + (T 1 3 * (((((0 + (T 0 0 * 1)) + 0) + 0) + 0) + 0))) + 0))) + (T 2 3 * (((((0 + -(T 1 0 * (((((0 + -0) + -0) + (T 0 2 * 1)) + 0) + 0))) + -0) + (T 1 2 * (((((0 + (T 0 0 * 1)) + 0) + 0) + 0) + 0))) + 0) + 0))) + 0))) + -(T 3 2 * (((((0 + (T 2 0 * (((((0 + 0) + -(T 1 1 * (((((0 + -0) + -0) + -0) + (T 0 3 * 1)) + 0))) + -0) + (T 1 3 * (((((0 + -0) + (T 0 1 * 1)) + 0) + 0) + 0))) + 0))) + -(T 2 1 * (((((0 + -(T 1 0 * (((((0 + -0) + -0) + -0) + (T 0 3 * 1)) + 0))) + -0) + -0) + (T 1 3 * (((((0 + (T 0 0 * 1)) + 0) + 0) + 0) + 0))) + 0))) + -0) + (T 2 3 * (((((0 + -(T 1 0 * (((((0 + -0) + (T 0 1 * 1)) + 0) + 0) + 0))) + (T 1 1 * (((((0 + (T 0 0 * 1)) + 0) + 0) + 0) + 0))) + 0) + 0) + 0))) + 0))) + (T 3 3 * (((((0 + (T 2 0 * (((((0 + 0) + -(T 1 1 * (((((0 + -0) + -0) + (T 0 2 * 1)) + 0) + 0))) + (T 1 2 * (((((0 + -0) + (T 0 1 * 1)) + 0) + 0) + 0))) + 0) + 0))) + -(T 2 1 * (((((0 + -(T 1 0 * (((((0 + -0) + -0) + (T 0 2 * 1)) + 0) + 0))) + -0) + (T 1 2 * (((((0 + (T 0 0 * 1)) + 0) + 0) + 0) + 0))) + 0) + 0))) + (T 2 2 * (((((0 + -(T 1 0 * (((((0 + -0) + (T 0 1 * 1)) + 0) + 0) + 0))) + (T 1 1 * (((((0 + (T 0 0 * 1)) + 0) + 0) + 0) + 0))) + 0) + 0) + 0))) + 0) + 0))) + 0))) := rfl
/-- a table with a row and a column of ones -/
def sp_tab (U : Nat → Nat → Int) (k i j : Nat) : Int := if i = k ∨ j = k then (if i = j then 0 else 1) else U i j
/-- one column is that of the right sides -/
def sp_rep (T : Nat → Nat → Int) (v : Nat → Int) (q i j : Nat) : Int := if j = q then v i else T i j
/-! the class's numbers: the table of three rows, its cofactors, its determinant, the weights' upper parts, the floor's -/
def kB (U : Nat → Nat → Int) (m i j : Nat) : Int := if i + 1 < m ∧ j + 1 < m then U 0 (i + 1) + U 0 (j + 1) - U (i + 1) (j + 1) else if i = j then 1 else 0
def kN (B : Nat → Nat → Int) (i j : Nat) : Int := if (i + j) % 2 = 0 then B (if i = 0 then 1 else 0) (if j = 0 then 1 else 0) * B (if i = 2 then 1 else 2) (if j = 2 then 1 else 2) - B (if i = 0 then 1 else 0) (if j = 2 then 1 else 2) * B (if i = 2 then 1 else 2) (if j = 0 then 1 else 0) else -(B (if i = 0 then 1 else 0) (if j = 0 then 1 else 0) * B (if i = 2 then 1 else 2) (if j = 2 then 1 else 2) - B (if i = 0 then 1 else 0) (if j = 2 then 1 else 2) * B (if i = 2 then 1 else 2) (if j = 0 then 1 else 0))
def kD (B : Nat → Nat → Int) : Int := B 0 0 * kN B 0 0 + B 0 1 * kN B 0 1 + B 0 2 * kN B 0 2
def kw (U : Nat → Nat → Int) (v : Nat → Int) (p : Int) (m i : Nat) : Int := if i + 1 < m then v 0 + p * U 0 (i + 1) - v (i + 1) else 0
def kq (B : Nat → Nat → Int) (wn : Nat → Int) (j : Nat) : Int := wn 0 * kN B 0 j + wn 1 * kN B 1 j + wn 2 * kN B 2 j
def kP (B : Nat → Nat → Int) (wn : Nat → Int) (p : Int) : Nat → Int
  | 0 => p * kD B - kq B wn 0 - kq B wn 1 - kq B wn 2
  | j + 1 => kq B wn j
def sm (f : Nat → Int) : Nat → Int
  | 0 => 0
  | n + 1 => sm f n + f n
def kF (U : Nat → Nat → Int) (v : Nat → Int) (m : Nat) (D : Int) (P : Nat → Int) : Int := v 0 * D - sm (fun i => P (i + 1) * U 0 (i + 1)) (m - 1)
def sg (m : Nat) : Int := if m % 2 = 0 then 1 else -1
def symU (U : Nat → Nat → Int) : Prop := (∀ i, U i i = 0) ∧ ∀ i j, U i j = U j i
theorem den_1 (U : Nat → Nat → Int) (hU : symU U) : sp_dt (sp_tab U 1) 2 = sg 1 * kD (kB U 1) := by
  obtain ⟨h0, h1⟩ := hU
  rw [dt2]
  simp only [sp_tab, kD, kN, kB, sg]
  simp
  all_goals grind
theorem num_1_0 (U : Nat → Nat → Int) (v : Nat → Int) (p : Int) (hU : symU U) (hp : v 1 = p) : sp_dt (sp_rep (sp_tab U 1) v 0) 2 = sg 1 * kP (kB U 1) (kw U v p 1) p 0 := by
  obtain ⟨h0, h1⟩ := hU
  rw [dt2]
  simp only [sp_rep, sp_tab, kP, kq, kw, kD, kN, kB, sg]
  simp
  all_goals grind
theorem flo_1 (U : Nat → Nat → Int) (v : Nat → Int) (p : Int) (hU : symU U) (hp : v 1 = p) : sp_dt (sp_rep (sp_tab U 1) v 1) 2 = sg 1 * kF U v 1 (kD (kB U 1)) (kP (kB U 1) (kw U v p 1) p) := by
  obtain ⟨h0, h1⟩ := hU
  rw [dt2]
  simp only [sp_rep, sp_tab, kF, sm, kP, kq, kw, kD, kN, kB, sg]
  simp [sm]
  all_goals grind
theorem den_2 (U : Nat → Nat → Int) (hU : symU U) : sp_dt (sp_tab U 2) 3 = sg 2 * kD (kB U 2) := by
  obtain ⟨h0, h1⟩ := hU
  rw [dt3]
  simp only [sp_tab, kD, kN, kB, sg]
  simp
  all_goals grind
theorem num_2_0 (U : Nat → Nat → Int) (v : Nat → Int) (p : Int) (hU : symU U) (hp : v 2 = p) : sp_dt (sp_rep (sp_tab U 2) v 0) 3 = sg 2 * kP (kB U 2) (kw U v p 2) p 0 := by
  obtain ⟨h0, h1⟩ := hU
  rw [dt3]
  simp only [sp_rep, sp_tab, kP, kq, kw, kD, kN, kB, sg]
  simp
  all_goals grind
theorem num_2_1 (U : Nat → Nat → Int) (v : Nat → Int) (p : Int) (hU : symU U) (hp : v 2 = p) : sp_dt (sp_rep (sp_tab U 2) v 1) 3 = sg 2 * kP (kB U 2) (kw U v p 2) p 1 := by
  obtain ⟨h0, h1⟩ := hU
  rw [dt3]
  simp only [sp_rep, sp_tab, kP, kq, kw, kD, kN, kB, sg]
  simp
  all_goals grind
theorem flo_2 (U : Nat → Nat → Int) (v : Nat → Int) (p : Int) (hU : symU U) (hp : v 2 = p) : sp_dt (sp_rep (sp_tab U 2) v 2) 3 = sg 2 * kF U v 2 (kD (kB U 2)) (kP (kB U 2) (kw U v p 2) p) := by
  obtain ⟨h0, h1⟩ := hU
  rw [dt3]
  simp only [sp_rep, sp_tab, kF, sm, kP, kq, kw, kD, kN, kB, sg]
  simp [sm]
  all_goals grind
theorem den_3 (U : Nat → Nat → Int) (hU : symU U) : sp_dt (sp_tab U 3) 4 = sg 3 * kD (kB U 3) := by
  obtain ⟨h0, h1⟩ := hU
  rw [dt4]
  simp only [sp_tab, kD, kN, kB, sg]
  simp
  all_goals grind
theorem num_3_0 (U : Nat → Nat → Int) (v : Nat → Int) (p : Int) (hU : symU U) (hp : v 3 = p) : sp_dt (sp_rep (sp_tab U 3) v 0) 4 = sg 3 * kP (kB U 3) (kw U v p 3) p 0 := by
  obtain ⟨h0, h1⟩ := hU
  rw [dt4]
  simp only [sp_rep, sp_tab, kP, kq, kw, kD, kN, kB, sg]
  simp
  all_goals grind
theorem num_3_1 (U : Nat → Nat → Int) (v : Nat → Int) (p : Int) (hU : symU U) (hp : v 3 = p) : sp_dt (sp_rep (sp_tab U 3) v 1) 4 = sg 3 * kP (kB U 3) (kw U v p 3) p 1 := by
  obtain ⟨h0, h1⟩ := hU
  rw [dt4]
  simp only [sp_rep, sp_tab, kP, kq, kw, kD, kN, kB, sg]
  simp
  all_goals grind
theorem num_3_2 (U : Nat → Nat → Int) (v : Nat → Int) (p : Int) (hU : symU U) (hp : v 3 = p) : sp_dt (sp_rep (sp_tab U 3) v 2) 4 = sg 3 * kP (kB U 3) (kw U v p 3) p 2 := by
  obtain ⟨h0, h1⟩ := hU
  rw [dt4]
  simp only [sp_rep, sp_tab, kP, kq, kw, kD, kN, kB, sg]
  simp
  all_goals grind
theorem flo_3 (U : Nat → Nat → Int) (v : Nat → Int) (p : Int) (hU : symU U) (hp : v 3 = p) : sp_dt (sp_rep (sp_tab U 3) v 3) 4 = sg 3 * kF U v 3 (kD (kB U 3)) (kP (kB U 3) (kw U v p 3) p) := by
  obtain ⟨h0, h1⟩ := hU
  rw [dt4]
  simp only [sp_rep, sp_tab, kF, sm, kP, kq, kw, kD, kN, kB, sg]
  simp [sm]
  all_goals grind
theorem den_4 (U : Nat → Nat → Int) (hU : symU U) : sp_dt (sp_tab U 4) 5 = sg 4 * kD (kB U 4) := by
  obtain ⟨h0, h1⟩ := hU
  rw [dt5]
  simp only [sp_tab, kD, kN, kB, sg]
  simp
  all_goals grind
theorem num_4_0 (U : Nat → Nat → Int) (v : Nat → Int) (p : Int) (hU : symU U) (hp : v 4 = p) : sp_dt (sp_rep (sp_tab U 4) v 0) 5 = sg 4 * kP (kB U 4) (kw U v p 4) p 0 := by
  obtain ⟨h0, h1⟩ := hU
  rw [dt5]
  simp only [sp_rep, sp_tab, kP, kq, kw, kD, kN, kB, sg]
  simp
  all_goals grind
theorem num_4_1 (U : Nat → Nat → Int) (v : Nat → Int) (p : Int) (hU : symU U) (hp : v 4 = p) : sp_dt (sp_rep (sp_tab U 4) v 1) 5 = sg 4 * kP (kB U 4) (kw U v p 4) p 1 := by
  obtain ⟨h0, h1⟩ := hU
  rw [dt5]
  simp only [sp_rep, sp_tab, kP, kq, kw, kD, kN, kB, sg]
  simp
  all_goals grind
theorem num_4_2 (U : Nat → Nat → Int) (v : Nat → Int) (p : Int) (hU : symU U) (hp : v 4 = p) : sp_dt (sp_rep (sp_tab U 4) v 2) 5 = sg 4 * kP (kB U 4) (kw U v p 4) p 2 := by
  obtain ⟨h0, h1⟩ := hU
  rw [dt5]
  simp only [sp_rep, sp_tab, kP, kq, kw, kD, kN, kB, sg]
  simp
  all_goals grind
theorem num_4_3 (U : Nat → Nat → Int) (v : Nat → Int) (p : Int) (hU : symU U) (hp : v 4 = p) : sp_dt (sp_rep (sp_tab U 4) v 3) 5 = sg 4 * kP (kB U 4) (kw U v p 4) p 3 := by
  obtain ⟨h0, h1⟩ := hU
  rw [dt5]
  simp only [sp_rep, sp_tab, kP, kq, kw, kD, kN, kB, sg]
  simp
  all_goals grind
theorem flo_4 (U : Nat → Nat → Int) (v : Nat → Int) (p : Int) (hU : symU U) (hp : v 4 = p) : sp_dt (sp_rep (sp_tab U 4) v 4) 5 = sg 4 * kF U v 4 (kD (kB U 4)) (kP (kB U 4) (kw U v p 4) p) := by
  obtain ⟨h0, h1⟩ := hU
  rw [dt5]
  simp only [sp_rep, sp_tab, kF, sm, kP, kq, kw, kD, kN, kB, sg]
  simp [sm]
  all_goals grind
