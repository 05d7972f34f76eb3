theorem kw_bd {r : Nat → Int} (hr : vR r) {L : List Nat} (hok : okL r L) {x y : Int} (hx : 0 ≤ x ∧ x ≤ 31) (hy : 0 ≤ y ∧ y ≤ 31) : nnF 378 (kw (sp_uu r L) (sp_v1 r L x y) 1 L.length) := fun i => by
  have hV := okV_v1 hr hok hx hy
  have t := u2_tri hr (r (10 + 3 * L.getD (i + 1) 0)) (r (11 + 3 * L.getD (i + 1) 0)) (r (10 + 3 * L.getD 0 0)) (r (11 + 3 * L.getD 0 0)) x y
  rw [← uu_u2 r L (i + 1) 0, ← v1_u2 r L x y 0, ← v1_u2 r L x y (i + 1)] at t
  have s := (symU_uu r L).2 (i + 1) 0
  by_cases h : i + 1 < L.length
  · have r1 := sp_uu_rg hr hok (show 0 < L.length by omega) h
    have v0 := hV.2 0 (by omega)
    have v1 := hV.2 (i + 1) h
    rw [show kw (sp_uu r L) (sp_v1 r L x y) 1 L.length i = sp_v1 r L x y 0 + 1 * sp_uu r L 0 (i + 1) - sp_v1 r L x y (i + 1) from if_pos h, Int.one_mul]
    omega
  · rw [show kw (sp_uu r L) (sp_v1 r L x y) 1 L.length i = 0 from if_neg h]
    omega
theorem kBc_bd {r : Nat → Int} (hr : vR r) {L : List Nat} (hok : okL r L) (j : Nat) : nnF 378 (fun i => kB (sp_uu r L) L.length i j) := fun i => by
  have h := kB_bd hr hok i j
  show 0 ≤ kB (sp_uu r L) L.length i j ∧ kB (sp_uu r L) L.length i j ≤ 378
  omega
def gJ (r : Nat → Int) (L : List Nat) (j : Nat) : Int := if j < L.length then r (12 + 3 * L.getD j 0) else 0
theorem nG_4 (r : Nat → Int) (L : List Nat) (v : Nat → Int) (h4 : L.length ≤ 4) : nG r L v 1 = nP r L v 1 0 * gJ r L 0 + nP r L v 1 1 * gJ r L 1 + nP r L v 1 2 * gJ r L 2 + nP r L v 1 3 * gJ r L 3 := by
  unfold nG gJ
  generalize nP r L v 1 = P
  generalize (fun j => r (12 + 3 * L.getD j 0)) = q
  rcases (show L.length = 0 ∨ L.length = 1 ∨ L.length = 2 ∨ L.length = 3 ∨ L.length = 4 by omega) with e | e | e | e | e <;> rw [e] <;> simp [sm]
theorem eA_bd {r : Nat → Int} (hr : vR r) {i : Nat} (hi : (i : Int) < r 0) : -(999 * (3 * 54010152)) ≤ sp_eA r i ∧ sp_eA r i ≤ 999 * (3 * 54010152) := by
  have hok : okL r (sp_Le r i) := okL_lk hr _ _ _
  have h4 := okL_le hr hok
  have q := hr.2.2.2.2.2.2.2.2.2.2 i hi
  have hD := nD_bd hr hok
  have hw := kw_bd hr hok (x := r (10 + 3 * i)) (y := r (11 + 3 * i)) (by omega) (by omega)
  have pm := pm_bd (M := 378) (by omega) (kBc_bd hr hok 0) (kBc_bd hr hok 1) (kBc_bd hr hok 2) hw (by have e : nD r (sp_Le r i) = kD (kB (sp_uu r (sp_Le r i)) (sp_Le r i).length) := rfl; omega)
  have hg : ∀ j, 0 ≤ gJ r (sp_Le r i) j ∧ gJ r (sp_Le r i) j ≤ 999 := fun j => by
    unfold gJ
    by_cases h : j < (sp_Le r i).length
    · rw [if_pos h]; exact (hr.2.2.2.2.2.2.2.2.2.2 _ (okL_get hok h)).2.2
    · rw [if_neg h]; omega
  have g0 := hg 0
  have g1 := hg 1
  have g2 := hg 2
  have g3 := hg 3
  have l := lin4_ab (d0 := gJ r (sp_Le r i) 0 - r (12 + 3 * i)) (d1 := gJ r (sp_Le r i) 1 - r (12 + 3 * i)) (d2 := gJ r (sp_Le r i) 2 - r (12 + 3 * i)) (d3 := gJ r (sp_Le r i) 3 - r (12 + 3 * i)) (g := r (12 + 3 * i)) (N := 999) q.2.2 (by omega) (by omega) (by omega) (by omega) pm.1 pm.2
  have e : sp_eA r i = nP r (sp_Le r i) (sp_ve r i) 1 0 * (gJ r (sp_Le r i) 0 - r (12 + 3 * i)) + nP r (sp_Le r i) (sp_ve r i) 1 1 * (gJ r (sp_Le r i) 1 - r (12 + 3 * i)) + nP r (sp_Le r i) (sp_ve r i) 1 2 * (gJ r (sp_Le r i) 2 - r (12 + 3 * i)) + nP r (sp_Le r i) (sp_ve r i) 1 3 * (gJ r (sp_Le r i) 3 - r (12 + 3 * i)) := by
    unfold sp_eA
    rw [nG_4 _ _ _ h4]
    have s : nD r (sp_Le r i) = nP r (sp_Le r i) (sp_ve r i) 1 0 + nP r (sp_Le r i) (sp_ve r i) 1 1 + nP r (sp_Le r i) (sp_ve r i) 1 2 + nP r (sp_Le r i) (sp_ve r i) 1 3 := by
      unfold nP nD
      simp only [kP]
      omega
    rw [s]
    grind
  rw [e]
  exact l
theorem er_bd' {r : Nat → Int} (hr : vR r) {i j : Nat} (hi : (i : Int) < r 0) : max (sp_eA r i) (-sp_eA r i) * tB (sp_eB r j) ≤ 9223372036854775807 := by
  have a := eA_bd hr hi
  have b : -54010152 ≤ sp_eB r j ∧ sp_eB r j ≤ 54010152 := nD_bd hr (okL_lk hr _ _ _)
  have c := ap_le (a := max (sp_eA r i) (-sp_eA r i)) (M := 999 * (3 * 54010152)) (p := tB (sp_eB r j)) (N := 54010152) (by omega) (by unfold tB; omega) (by omega)
  omega
