/-! ===== the answers ===== -/
noncomputable def an_told (w : Nat → Int) (bkn : Int) (bkx bky bki : Nat → Int) (kn sd wh : Int) : Int := if 0 ≤ wh ∧ wh ≤ 9 then w wh.toNat else if wh = 10 then sp_wg w (w 0).toNat else if wh = 11 then sp_fo w else if wh = 12 then bkn else if wh = 13 then sp_wr w bkx bky bki bkn else if wh = 14 then kn else if wh = 15 then sd else -1000000002
def an_at (w : Nat → Int) (i wh : Int) : Int := if 0 ≤ i ∧ i ≤ w 0 - 1 then (if 0 ≤ wh ∧ wh ≤ 2 then w (10 + 3 * i.toNat + wh.toNat) else -1000000002) else -1000000001
def an_un (w : Nat → Int) (h : Int) : Int := if 0 ≤ h ∧ h ≤ 62 then sp_unl w h else -1000000002
abbrev isPl (x y : Int) : Prop := (0 ≤ x ∧ x ≤ 31) ∧ (0 ≤ y ∧ y ≤ 31)
noncomputable def an_pl (w : Nat → Int) (x y wh : Int) : Int := if isPl x y ∧ (0 ≤ wh ∧ wh ≤ 5) then (if wh = 0 then sp_th w x y else if wh = 1 then ((sp_L0 w x y).length : Int) else if wh = 2 then ((sp_sets (fun _ => True) (sp_L0 w x y) (sp_L0 w x y).length : Nat) : Int) else if wh = 3 then zB (gEx w (sp_L0 w x y)) else if wh = 4 then zB (sp_sk (sp_uu w (sp_L0 w x y)) (sp_L0 w x y).length) else ci (gEx w (sp_L0 w x y)) ((sp_sets (sp_ngt w (sp_L0 w x y) (sp_V0 w x y) 1) (sp_L0 w x y) (sp_L0 w x y).length : Nat) : Int) 0) else -1000000002
def an_lk (w : Nat → Int) (x y i : Int) : Int := if isPl x y ∧ (0 ≤ i ∧ i ≤ 3) then (if i < ((sp_L0 w x y).length : Int) then (((sp_L0 w x y).getD i.toNat 0 : Nat) : Int) else -1) else -1000000002
noncomputable def an_gs (w : Nat → Int) (x y wh : Int) : Int := if isPl x y ∧ (0 ≤ wh ∧ wh ≤ 5) then ci (gEx w (sp_L0 w x y)) (if wh = 0 then sp_top (nG w (sp_L0 w x y) (sp_V0 w x y) 1) (nD w (sp_L0 w x y)) else if wh = 1 then sp_bot (nG w (sp_L0 w x y) (sp_V0 w x y) 1) (nD w (sp_L0 w x y)) else if wh = 2 then sp_top (nS w (sp_L0 w x y) (sp_V0 w x y) 1 0) (nD w (sp_L0 w x y)) else if wh = 3 then sp_bot (nS w (sp_L0 w x y) (sp_V0 w x y) 1 0) (nD w (sp_L0 w x y)) else if wh = 4 then sp_top (nF w (sp_L0 w x y) (sp_V0 w x y) 1) (nD w (sp_L0 w x y)) else sp_bot (nF w (sp_L0 w x y) (sp_V0 w x y) 1) (nD w (sp_L0 w x y))) (-4000000000000000000) else -4000000000000000002
noncomputable def an_wt (w : Nat → Int) (x y i wh : Int) : Int := if isPl x y ∧ (0 ≤ i ∧ i ≤ 3) ∧ (0 ≤ wh ∧ wh ≤ 1) then ci (gEx w (sp_L0 w x y) ∧ i < ((sp_L0 w x y).length : Int)) (if wh = 0 then sp_top (nP w (sp_L0 w x y) (sp_V0 w x y) 1 i.toNat) (nD w (sp_L0 w x y)) else sp_bot (nP w (sp_L0 w x y) (sp_V0 w x y) 1 i.toNat) (nD w (sp_L0 w x y))) (-4000000000000000000) else -4000000000000000002
def sp_VB (r : Nat → Int) (x y : Int) : Nat → Int := sp_vb r (sp_L0 r x y) x y
noncomputable def an_bl (w : Nat → Int) (x y wh : Int) : Int := if (0 ≤ x ∧ x ≤ 30) ∧ (0 ≤ y ∧ y ≤ 30) ∧ (0 ≤ wh ∧ wh ≤ 3) then ci (gEx w (sp_L0 w x y)) (if wh = 0 then sp_top (nG w (sp_L0 w x y) (sp_VB w x y) 4) (4 * nD w (sp_L0 w x y)) else if wh = 1 then sp_bot (nG w (sp_L0 w x y) (sp_VB w x y) 4) (4 * nD w (sp_L0 w x y)) else if wh = 2 then sp_top (nS w (sp_L0 w x y) (sp_VB w x y) 4 (sp_inn w)) (4 * 4 * nD w (sp_L0 w x y)) else sp_bot (nS w (sp_L0 w x y) (sp_VB w x y) 4 (sp_inn w)) (4 * 4 * nD w (sp_L0 w x y))) (-4000000000000000000) else -4000000000000000002
noncomputable def an_er (w : Nat → Int) (i wh : Int) : Int := if 0 ≤ i ∧ i ≤ w 0 - 1 then (if 0 ≤ wh ∧ wh ≤ 1 then ci (gEx w (sp_Le w i.toNat)) (if wh = 0 then sp_top (sp_eA w i.toNat) (sp_eB w i.toNat) else sp_bot (sp_eA w i.toNat) (sp_eB w i.toNat)) (-4000000000000000000) else -4000000000000000002) else -4000000000000000001
noncomputable def an_ho (w : Nat → Int) (x y u v : Int) : Int := if isPl x y ∧ isPl u v ∧ (0 ≤ u - x ∧ u - x ≤ 7) ∧ (0 ≤ v - y ∧ v - y ≤ 7) then sp_ho w x y (u - x + 1).toNat ((u - x + 1) * (v - y + 1)).toNat else -1000000002
theorem td_rg {a b M : Int} (h : -M ≤ a ∧ a ≤ M) : -M ≤ a.tdiv b ∧ a.tdiv b ≤ M := by
  have h1 : (a.tdiv b).natAbs = a.natAbs / b.natAbs := Int.natAbs_tdiv a b
  have h2 : a.natAbs / b.natAbs ≤ a.natAbs := Nat.div_le_self _ _
  omega
theorem tA_rg {a b M : Int} (h : -M ≤ a ∧ a ≤ M) : -M ≤ tA a b ∧ tA a b ≤ M := by unfold tA; split <;> omega
theorem sp_cut_rg {r : Nat → Int} (hr : vR r) {x y : Int} (hx : 0 ≤ x ∧ x ≤ 31) (hy : 0 ≤ y ∧ y ≤ 31) : -40000000000000 ≤ sp_cut r x y ∧ sp_cut r x y ≤ 40000000000000 := by
  have hok := okL_lk hr x y (-1)
  have hV := okV_v1 hr hok hx hy
  have h := td_rg (b := tB (nD r (sp_L0 r x y))) (tA_rg (b := nD r (sp_L0 r x y)) (nG_rg hr hok hV))
  by_cases hg : gEx r (sp_L0 r x y)
  · unfold sp_cut; rw [ci_t hg]; exact h
  · unfold sp_cut; rw [ci_f hg]; omega
theorem sp_eA_rg {r : Nat → Int} (hr : vR r) {i : Nat} (hi : (i : Int) < r 0) : -41000000000000 ≤ sp_eA r i ∧ sp_eA r i ≤ 41000000000000 := by
  have q := hr.2.2.2.2.2.2.2.2.2.2 i hi
  have hok : okL r (sp_Le r i) := okL_lk hr _ _ _
  have hV : okV (sp_Le r i).length (sp_ve r i) 1 := okV_v1 hr hok (by omega) (by omega)
  have h1 := nG_rg hr hok hV
  have h2 := in_mul (a := r (12 + 3 * i)) (A := 999) (by omega) (nD_rg hr hok)
  unfold sp_eA
  omega
theorem sp_eB_rg {r : Nat → Int} (hr : vR r) (i : Nat) : -324060912 ≤ sp_eB r i ∧ sp_eB r i ≤ 324060912 := nD_rg hr (okL_lk hr _ _ _)
/-- the book's entries lie at places -/
def okB (bkn : Int) (bkx bky bki : Nat → Int) : Prop := (0 ≤ bkn ∧ bkn ≤ 20) ∧ ∀ k : Nat, (k : Int) < bkn → (0 ≤ bkx k ∧ bkx k ≤ 31) ∧ (0 ≤ bky k ∧ bky k ≤ 31) ∧ (-2147483648 ≤ bki k ∧ bki k ≤ 2147483647)
