def wJ (U : Nat → Nat → Int) (v : Nat → Int) (m j : Nat) : Int := if j + 1 < m then v 0 + U 0 (j + 1) - v (j + 1) else v 0
theorem nS_4 (r : Nat → Int) (L : List Nat) (v : Nat → Int) (h1 : 1 ≤ L.length) (h4 : L.length ≤ 4) : nS r L v 1 0 = 2 * v 0 * nD r L - (nP r L v 1 1 * wJ (sp_uu r L) v L.length 0 + nP r L v 1 2 * wJ (sp_uu r L) v L.length 1 + nP r L v 1 3 * wJ (sp_uu r L) v L.length 2) := by
  have s : nP r L v 1 0 = nD r L - nP r L v 1 1 - nP r L v 1 2 - nP r L v 1 3 := by
    unfold nP nD
    simp only [kP]
    omega
  unfold nS nF kF wJ
  generalize nP r L v 1 = P at s ⊢
  generalize nD r L = D at s ⊢
  generalize sp_uu r L = U at s ⊢
  rcases (show L.length = 1 ∨ L.length = 2 ∨ L.length = 3 ∨ L.length = 4 by omega) with e | e | e | e <;> rw [e] <;> simp [sm] <;> rw [s] <;> grind
theorem hA_bd {r : Nat → Int} (hr : vR r) {x y : Int} (hx : 0 ≤ x ∧ x ≤ 31) (hy : 0 ≤ y ∧ y ≤ 31) (h1 : 1 ≤ (sp_L0 r x y).length) : -(7 * (378 * 54010152)) ≤ sp_hA r x y ∧ sp_hA r x y ≤ 7 * (378 * 54010152) := by
  have hok : okL r (sp_L0 r x y) := okL_lk hr _ _ _
  have h4 := okL_le hr hok
  have hD := nD_bd hr hok
  have hw := kw_bd hr hok hx hy
  have hV := okV_v1 hr hok hx hy
  have v0 := hV.2 0 (by omega)
  have q0 := q_bd (kBc_bd hr hok 0) (kBc_bd hr hok 1) (kBc_bd hr hok 2) hw 0 (by omega)
  have q1 := q_bd (kBc_bd hr hok 0) (kBc_bd hr hok 1) (kBc_bd hr hok 2) hw 1 (by omega)
  have q2 := q_bd (kBc_bd hr hok 0) (kBc_bd hr hok 1) (kBc_bd hr hok 2) hw 2 (by omega)
  have hJ : ∀ j, -378 ≤ wJ (sp_uu r (sp_L0 r x y)) (sp_v1 r (sp_L0 r x y) x y) (sp_L0 r x y).length j ∧ wJ (sp_uu r (sp_L0 r x y)) (sp_v1 r (sp_L0 r x y) x y) (sp_L0 r x y).length j ≤ 378 := fun j => by
    unfold wJ
    by_cases h : j + 1 < (sp_L0 r x y).length
    · have r1 := sp_uu_rg hr hok (show 0 < (sp_L0 r x y).length by omega) h
      have v1 := hV.2 (j + 1) h
      rw [if_pos h]; omega
    · rw [if_neg h]; omega
  have a0 := ab_le (x := nP r (sp_L0 r x y) (sp_V0 r x y) 1 1) (M := 2 * 54010152) (by show -(2 * 54010152) ≤ kq _ _ 0 ∧ kq _ _ 0 ≤ 2 * 54010152; exact q0) (hJ 0)
  have a1 := ab_le (x := nP r (sp_L0 r x y) (sp_V0 r x y) 1 2) (M := 2 * 54010152) (by show -(2 * 54010152) ≤ kq _ _ 1 ∧ kq _ _ 1 ≤ 2 * 54010152; exact q1) (hJ 1)
  have a2 := ab_le (x := nP r (sp_L0 r x y) (sp_V0 r x y) 1 3) (M := 2 * 54010152) (by show -(2 * 54010152) ≤ kq _ _ 2 ∧ kq _ _ 2 ≤ 2 * 54010152; exact q2) (hJ 2)
  have a3 := ab_le (x := 2 * sp_V0 r x y 0) (M := 378) (p := nD r (sp_L0 r x y)) (N := 54010152) (by have e : sp_V0 r x y 0 = sp_v1 r (sp_L0 r x y) x y 0 := rfl; omega) (by omega)
  have e := nS_4 r (sp_L0 r x y) (sp_V0 r x y) h1 h4
  have e2 : sp_hA r x y = nS r (sp_L0 r x y) (sp_V0 r x y) 1 0 := rfl
  have e3 : sp_V0 r x y = sp_v1 r (sp_L0 r x y) x y := rfl
  rw [e2, e]
  rw [e3] at a0 a1 a2 a3 ⊢
  omega
theorem ho_bd' {r : Nat → Int} (hr : vR r) {x y x2 y2 : Int} (hx : 0 ≤ x ∧ x ≤ 31) (hy : 0 ≤ y ∧ y ≤ 31) (hg : gEx r (sp_L0 r x y)) : -9223372036854775807 ≤ tA (sp_hA r x y) (sp_hB r x y) * tB (sp_hB r x2 y2) ∧ tA (sp_hA r x y) (sp_hB r x y) * tB (sp_hB r x2 y2) ≤ 9223372036854775807 := by
  have a := tA_rg (b := sp_hB r x y) (hA_bd hr hx hy hg.1)
  have b : -54010152 ≤ sp_hB r x2 y2 ∧ sp_hB r x2 y2 ≤ 54010152 := nD_bd hr (okL_lk hr _ _ _)
  have c := ab_le (x := tA (sp_hA r x y) (sp_hB r x y)) (p := tB (sp_hB r x2 y2)) (N := 54010152) a (by unfold tB; omega)
  omega
