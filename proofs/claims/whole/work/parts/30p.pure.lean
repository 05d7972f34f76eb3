def dn1 (g : Nat → Int) (sd : Int) (n : Nat) : Nat := if sp_th g (sp_dx sd) (sp_dy sd) = -1 then (n + 1) % 16 else n
theorem dn1_lt {g : Nat → Int} {sd : Int} {n : Nat} (h : n < 16) : dn1 g sd n < 16 := by unfold dn1; split <;> omega
theorem dx_rg (sd : Int) : 0 ≤ sp_dx sd ∧ sp_dx sd ≤ 31 := by unfold sp_dx; omega
theorem dy_rg (sd : Int) : 0 ≤ sp_dy sd ∧ sp_dy sd ≤ 31 := by unfold sp_dy; omega
theorem dg_rg (sd : Int) : 0 ≤ sp_dg sd ∧ sp_dg sd ≤ 999 := by unfold sp_dg; omega
theorem d1_v {g : Nat → Int} {h : Nat → Nat → Int} {q : Nat} {sd : Int} (hv : vR g) (h10 : g 0 < 10) : vR (sp_d1 (g, h, q, sd)).1 := by
  unfold sp_d1
  by_cases e : sp_th g (sp_dx sd) (sp_dy sd) = -1
  · rw [if_pos e]; exact vR_add hv h10 (dx_rg sd) (dy_rg sd) (dg_rg sd)
  · rw [if_neg e]; exact hv
theorem d1_q {g : Nat → Int} {h : Nat → Nat → Int} {q : Nat} {sd : Int} (hq : q ≤ 16) : (sp_d1 (g, h, q, sd)).2.2.1 ≤ 16 := by
  unfold sp_d1
  by_cases e : sp_th g (sp_dx sd) (sp_dy sd) = -1
  · rw [if_pos e]; show qs q ≤ 16; unfold qs; omega
  · rw [if_neg e]; exact hq
theorem d1_s {g : Nat → Int} {h : Nat → Nat → Int} {q : Nat} {sd : Int} : (sp_d1 (g, h, q, sd)).2.2.2 = sp_nx (sp_nx (sp_nx sd)) := by
  unfold sp_d1
  by_cases e : sp_th g (sp_dx sd) (sp_dy sd) = -1
  · rw [if_pos e]
  · rw [if_neg e]
