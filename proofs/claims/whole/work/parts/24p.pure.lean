theorem an_gs_t {r : Nat → Int} {x y wz : Int} (h : isPl x y ∧ (0 ≤ wz ∧ wz ≤ 5)) (hx : gEx r (sp_L0 r x y)) : tlp r (sp_L0 r x y) (sp_V0 r x y) 1 0 wz.toNat = an_gs r x y wz := by
  unfold an_gs tlp
  rw [if_pos h, ci_t hx, Int.one_mul, Int.one_mul, Int.one_mul]
  obtain ⟨_, h1⟩ := h
  rcases (show wz = 0 ∨ wz = 1 ∨ wz = 2 ∨ wz = 3 ∨ wz = 4 ∨ wz = 5 by omega) with h | h | h | h | h | h <;> subst h <;> rfl
theorem an_gs_f {r : Nat → Int} {x y wz : Int} (h : isPl x y ∧ (0 ≤ wz ∧ wz ≤ 5)) (hx : ¬ gEx r (sp_L0 r x y)) : -4000000000000000000 = an_gs r x y wz := by
  unfold an_gs
  rw [if_pos h, ci_f hx]
theorem an_bl_t {r : Nat → Int} {x y wz : Int} (h : (0 ≤ x ∧ x ≤ 30) ∧ (0 ≤ y ∧ y ≤ 30) ∧ (0 ≤ wz ∧ wz ≤ 3)) (hx : gEx r (sp_L0 r x y)) : tlp r (sp_L0 r x y) (sp_VB r x y) 4 (sp_inn r) wz.toNat = an_bl r x y wz := by
  unfold an_bl tlp
  rw [if_pos h, ci_t hx]
  obtain ⟨_, _, h1⟩ := h
  rcases (show wz = 0 ∨ wz = 1 ∨ wz = 2 ∨ wz = 3 by omega) with h | h | h | h <;> subst h <;> rfl
theorem an_bl_f {r : Nat → Int} {x y wz : Int} (h : (0 ≤ x ∧ x ≤ 30) ∧ (0 ≤ y ∧ y ≤ 30) ∧ (0 ≤ wz ∧ wz ≤ 3)) (hx : ¬ gEx r (sp_L0 r x y)) : -4000000000000000000 = an_bl r x y wz := by
  unfold an_bl
  rw [if_pos h, ci_f hx]
theorem low_one {a b : Int} : sp_top (tA a b) (1 * tB b) = sp_top a b ∧ sp_bot (tA a b) (1 * tB b) = sp_bot a b := by
  have q1 := low_top (a := a) (b := b) (P := 1) (by omega)
  have q2 := low_bot (a := a) (b := b) (P := 1) (by omega)
  rw [Int.one_mul b] at q1 q2
  exact ⟨q1, q2⟩
theorem an_wt_t {r : Nat → Int} {x y i wz : Int} (h : isPl x y ∧ (0 ≤ i ∧ i ≤ 3) ∧ (0 ≤ wz ∧ wz ≤ 1)) (hx : gEx r (sp_L0 r x y)) (hi : i < ((sp_L0 r x y).length : Int)) : (if wz = 0 then sp_top (tA (nP r (sp_L0 r x y) (sp_V0 r x y) 1 i.toNat) (nD r (sp_L0 r x y))) (1 * tB (nD r (sp_L0 r x y))) else sp_bot (tA (nP r (sp_L0 r x y) (sp_V0 r x y) 1 i.toNat) (nD r (sp_L0 r x y))) (1 * tB (nD r (sp_L0 r x y)))) = an_wt r x y i wz := by
  unfold an_wt
  rw [if_pos h, ci_t ⟨hx, hi⟩, low_one.1, low_one.2]
theorem an_er_t {r : Nat → Int} {i wz : Int} (h : 0 ≤ i ∧ i ≤ r 0 - 1) (h2 : 0 ≤ wz ∧ wz ≤ 1) (hx : gEx r (sp_Le r i.toNat)) : (if wz = 0 then sp_top (tA (sp_eA r i.toNat) (sp_eB r i.toNat)) (1 * tB (sp_eB r i.toNat)) else sp_bot (tA (sp_eA r i.toNat) (sp_eB r i.toNat)) (1 * tB (sp_eB r i.toNat))) = an_er r i wz := by
  unfold an_er
  rw [if_pos h, if_pos h2, ci_t hx, low_one.1, low_one.2]
theorem sp_it_succ (f : Nat → Int → Int) : ∀ n i a, sp_it f (n + 1) i a = f (i + n) (sp_it f n i a)
  | 0, i, a => rfl
  | n + 1, i, a => by
    show sp_it f (n + 1) (i + 1) (f i a) = _
    rw [sp_it_succ f n (i + 1) (f i a)]
    show f (i + 1 + n) _ = f (i + (n + 1)) _
    rw [show i + 1 + n = i + (n + 1) by omega]
    rfl
theorem hx_rc {x : Int} {W r c : Nat} (h : c < W) : sp_hx x W (W * r + c) = x + (c : Int) := by
  unfold sp_hx
  rw [Nat.mul_add_mod, Nat.mod_eq_of_lt h]
theorem hy_rc {y : Int} {W r c : Nat} (h : c < W) : sp_hy y W (W * r + c) = y + (r : Int) := by
  unfold sp_hy
  rw [Nat.mul_add_div (by omega), Nat.div_eq_of_lt h, Nat.add_zero]
theorem tA_abs (a b : Int) : max (tA a b) (-tA a b) = max a (-a) := by unfold tA; split <;> omega
theorem tB_nn (b : Int) : 0 ≤ tB b := by unfold tB; omega
theorem mx_nn (a : Int) : 0 ≤ max a (-a) := by omega
