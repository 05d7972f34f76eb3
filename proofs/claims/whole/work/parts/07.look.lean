/-! ===== the samples that are looked at ===== -/
def sp_cq (r : Nat → Int) (x y : Int) (L : List Nat) (q : Int) : Int := ((L.filter (fun j => decide (sp_qr r j x y = q))).length : Int)
def sp_st (r : Nat → Int) (x y : Int) (L : List Nat) (i : Nat) : List Nat := if (L.length : Int) < r 7 ∧ sp_cq r x y L (sp_qr r i x y) < r 8 then L ++ [i] else L
/-- the key of a turn is 16 times how far, and the number -/
def sp_one (r : Nat → Int) (x y wo : Int) (k : Nat) (L : List Nat) : List Nat := if ((k % 16 : Nat) : Int) < r 0 ∧ ¬ ((k % 16 : Nat) : Int) = wo ∧ sp_fs r (k % 16) x y = ((k / 16 : Nat) : Int) then sp_st r x y L (k % 16) else L
def sp_run (r : Nat → Int) (x y wo : Int) : Nat → Nat → List Nat → List Nat
  | 0, _, L => L
  | n + 1, k, L => sp_run r x y wo n (k + 1) (sp_one r x y wo k L)
def sp_lk (r : Nat → Int) (x y wo : Int) : List Nat := sp_run r x y wo (16 * ((r 9).toNat + 1)) 0 []
def okL (r : Nat → Int) (L : List Nat) : Prop := (L.length : Int) ≤ r 7 ∧ ∀ j ∈ L, (j : Int) < r 0
def isL (L : List Nat) (sn : Nat → Int) (sns : Int) : Prop := sns = (L.length : Int) ∧ ∀ j : Nat, j < L.length → sn j = ((L.getD j 0 : Nat) : Int)
def isQ (r : Nat → Int) (x y : Int) (L : List Nat) (iq : Nat → Int) : Prop := ∀ q : Nat, q < 4 → iq q = sp_cq r x y L (q : Int)
theorem sp_qr_rg (r : Nat → Int) (i : Nat) (x y : Int) : 0 ≤ sp_qr r i x y ∧ sp_qr r i x y ≤ 3 := by unfold sp_qr; split <;> split <;> omega
theorem sp_fs_rg {r : Nat → Int} (hr : vR r) {i : Nat} (hi : (i : Int) < r 0) {x y : Int} (hx : 0 ≤ x ∧ x ≤ 31) (hy : 0 ≤ y ∧ y ≤ 31) : 0 ≤ sp_fs r i x y ∧ sp_fs r i x y ≤ 62 := by
  have h := hr.2.2.2.2.2.2.2.2.2.2 i hi
  exact sp_fr_rg (by omega) (by omega)
theorem okL_nil {r : Nat → Int} (hr : vR r) : okL r [] := ⟨by have := hr.2.2.2.2.2.2.2.1; simp; omega, fun j h => absurd h List.not_mem_nil⟩
theorem okL_st {r : Nat → Int} {x y : Int} {L : List Nat} {i : Nat} (h : okL r L) (hi : (i : Int) < r 0) : okL r (sp_st r x y L i) := by
  unfold sp_st
  split
  · rename_i hc
    refine ⟨?_, ?_⟩
    · rw [List.length_append]; simp; omega
    · intro j hj
      rcases List.mem_append.mp hj with h1 | h1
      · exact h.2 j h1
      · rw [List.mem_singleton.mp h1]; exact hi
  · exact h
theorem okL_one {r : Nat → Int} {x y wo : Int} {L : List Nat} {k : Nat} (h : okL r L) : okL r (sp_one r x y wo k L) := by
  unfold sp_one
  split
  · rename_i hc; exact okL_st h hc.1
  · exact h
theorem okL_run {r : Nat → Int} {x y wo : Int} : ∀ (n k : Nat) (L : List Nat), okL r L → okL r (sp_run r x y wo n k L) := by
  intro n
  induction n with
  | zero => intro k L h; exact h
  | succ n ih => intro k L h; exact ih _ _ (okL_one h)
theorem okL_lk {r : Nat → Int} (hr : vR r) (x y wo : Int) : okL r (sp_lk r x y wo) := okL_run _ _ _ (okL_nil hr)
theorem okL_le {r : Nat → Int} (hr : vR r) {L : List Nat} (h : okL r L) : L.length ≤ 4 := by have := hr.2.2.2.2.2.2.2.1; have := h.1; omega
theorem okL_get {r : Nat → Int} {L : List Nat} (h : okL r L) {j : Nat} (hj : j < L.length) : ((L.getD j 0 : Nat) : Int) < r 0 := by
  have : L.getD j 0 ∈ L := by rw [List.getD_eq_getElem?_getD, List.getElem?_eq_getElem hj]; exact List.getElem_mem hj
  exact h.2 _ this
theorem isL_push {L : List Nat} {sn : Nat → Int} {sns : Int} (h : isL L sn sns) (i : Nat) : isL (L ++ [i]) (va_up sn L.length (i : Int)) (sns + 1) := by
  refine ⟨?_, ?_⟩
  · rw [List.length_append, h.1]; simp
  · intro j hj
    rw [List.length_append] at hj
    simp at hj
    by_cases hq : j = L.length
    · subst hq
      simp [va_up, List.getD_eq_getElem?_getD]
    · rw [va_up_ne _ _ hq, h.2 j (by omega)]
      congr 1
      simp only [List.getD_eq_getElem?_getD]
      rw [List.getElem?_append_left (by omega)]
theorem sp_cq_push (r : Nat → Int) (x y : Int) (L : List Nat) (i : Nat) (q : Int) : sp_cq r x y (L ++ [i]) q = sp_cq r x y L q + (if sp_qr r i x y = q then 1 else 0) := by
  unfold sp_cq
  rw [List.filter_append, List.length_append]
  by_cases h : sp_qr r i x y = q
  · simp [h]
  · simp [h]
theorem isQ_push {r : Nat → Int} {x y : Int} {L : List Nat} {iq : Nat → Int} (h : isQ r x y L iq) (i : Nat) : isQ r x y (L ++ [i]) (va_up iq (sp_qr r i x y).toNat (iq (sp_qr r i x y).toNat + 1)) := by
  have hq := sp_qr_rg r i x y
  intro q hq4
  rw [sp_cq_push]
  by_cases he : q = (sp_qr r i x y).toNat
  · subst he
    rw [va_up_self, h _ hq4, if_pos (by omega)]
  · rw [va_up_ne _ _ he, h q hq4, if_neg (by omega)]
    omega
theorem sp_cq_nil (r : Nat → Int) (x y q : Int) : sp_cq r x y [] q = 0 := rfl
theorem sp_cq_rg (r : Nat → Int) (x y : Int) (L : List Nat) (q : Int) : 0 ≤ sp_cq r x y L q ∧ sp_cq r x y L q ≤ (L.length : Int) := by
  unfold sp_cq
  have := List.length_filter_le (fun j => decide (sp_qr r j x y = q)) L
  omega
theorem sp_run_hit {r : Nat → Int} {x y wo : Int} {N h i : Nat} {L : List Nat} (hN : 16 * h + i < N) (hi : i < 16) : sp_run r x y wo (N - (16 * h + i)) (16 * h + i) L = sp_run r x y wo (N - (16 * h + (i + 1))) (16 * h + (i + 1)) (if (i : Int) < r 0 ∧ ¬ (i : Int) = wo ∧ sp_fs r i x y = (h : Int) then sp_st r x y L i else L) := by
  rw [show N - (16 * h + i) = (N - (16 * h + (i + 1))) + 1 by omega]
  show sp_run r x y wo _ (16 * h + i + 1) (sp_one r x y wo (16 * h + i) L) = _
  unfold sp_one
  rw [show (16 * h + i) % 16 = i by omega, show (16 * h + i) / 16 = h by omega, show 16 * h + i + 1 = 16 * h + (i + 1) by omega]
theorem sp_run_row {r : Nat → Int} {x y wo : Int} {N h : Nat} {L : List Nat} (hN : 16 * (h + 1) ≤ N) : ∀ (d i : Nat), i + d = 16 → r 0 ≤ (i : Int) → sp_run r x y wo (N - (16 * h + i)) (16 * h + i) L = sp_run r x y wo (N - 16 * (h + 1)) (16 * (h + 1)) L := by
  intro d
  induction d with
  | zero => intro i h1 h2; rw [show 16 * h + i = 16 * (h + 1) by omega]
  | succ d ih =>
    intro i h1 h2
    rw [sp_run_hit (by omega) (by omega), if_neg (by omega)]
    exact ih (i + 1) (by omega) (by omega)
theorem sp_st_full {r : Nat → Int} {x y : Int} {L : List Nat} (h : r 7 ≤ (L.length : Int)) (i : Nat) : sp_st r x y L i = L := by
  unfold sp_st; rw [if_neg (by omega)]
theorem sp_run_full {r : Nat → Int} {x y wo : Int} {L : List Nat} (h : r 7 ≤ (L.length : Int)) : ∀ (n k : Nat), sp_run r x y wo n k L = L := by
  intro n
  induction n with
  | zero => intro k; rfl
  | succ n ih =>
    intro k
    show sp_run r x y wo n (k + 1) (sp_one r x y wo k L) = L
    have : sp_one r x y wo k L = L := by unfold sp_one; split; exact sp_st_full h _; rfl
    rw [this]
    exact ih (k + 1)
/-! ===== bits ===== -/
theorem bt_shr : ∀ a, a < 32 → ∀ k, k < 6 → (iI ((a : Nat) : Int) >>> (iI ((k : Nat) : Int) &&& 31)) = iI (((a >>> k : Nat)) : Int) := by decide
theorem bt_and1 : ∀ a, a < 32 → (iI ((a : Nat) : Int) &&& iI 1) = iI (((a % 2 : Nat)) : Int) := by decide
theorem bt_shl : ∀ k, k < 12 → (iI 1 <<< (iI ((k : Nat) : Int) &&& 31)) = iI (((2 ^ k : Nat)) : Int) := by decide
/-- the bits of a set from place k on, n of them -/
def sp_gb (a : Nat) : Nat → Nat → Nat
  | 0, _ => 0
  | n + 1, k => (a >>> k) % 2 + sp_gb a n (k + 1)
theorem sp_gb_le (a : Nat) : ∀ n k, sp_gb a n k ≤ n := by
  intro n
  induction n with
  | zero => intro k; exact Nat.le_refl 0
  | succ n ih => intro k; have := ih (k + 1); unfold sp_gb; omega
/-- k places of a row are copied -/
def sp_cp (w : Nat → Int) (x y k : Nat) : Nat → Int := fun j => if y ≤ j ∧ j < y + k then w (x + (j - y)) else w j
theorem sp_cp_0 (w : Nat → Int) (x y : Nat) : sp_cp w x y 0 = w := by funext j; unfold sp_cp; rw [if_neg (by omega)]
theorem sp_cp_up (w : Nat → Int) {x y : Nat} (h : x + 40 ≤ y ∨ y + 40 ≤ x ∨ x = y) (k : Nat) (hk : k < 40) : va_up (sp_cp w x y k) (y + k) (sp_cp w x y k (x + k)) = sp_cp w x y (k + 1) := by
  funext j
  by_cases hj : j = y + k
  · subst hj
    rw [va_up_self]
    unfold sp_cp
    rw [if_pos (show y ≤ y + k ∧ y + k < y + (k + 1) by omega), show x + (y + k - y) = x + k by omega]
    rw [if_neg (by omega)]
  · rw [va_up_ne _ _ hj]
    unfold sp_cp
    by_cases h1 : y ≤ j ∧ j < y + k
    · rw [if_pos h1, if_pos (by omega)]
    · rw [if_neg h1, if_neg (by omega)]
