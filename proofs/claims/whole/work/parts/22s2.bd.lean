/-! ===== sums of shares ===== -/
def Dt (a b c : Nat → Int) : Int := a 0 * (b 1 * c 2 - b 2 * c 1) + a 1 * (b 2 * c 0 - b 0 * c 2) + a 2 * (b 0 * c 1 - b 1 * c 0)
def nnF (M : Int) (a : Nat → Int) : Prop := ∀ i, 0 ≤ a i ∧ a i ≤ M
def abF (M : Int) (a : Nat → Int) : Prop := ∀ i, -M ≤ a i ∧ a i ≤ M
theorem nn_ab {M : Int} {a : Nat → Int} (h : nnF M a) : abF M a := fun i => by have := h i; omega
theorem df_ab {M : Int} {a b : Nat → Int} (h : nnF M a) (h2 : nnF M b) : abF M (fun i => a i - b i) := fun i => by
  have := h i
  have := h2 i
  show -M ≤ a i - b i ∧ a i - b i ≤ M
  omega
theorem min2_ab {M a b c d : Int} (ha : 0 ≤ a ∧ a ≤ M) (hb : 0 ≤ b ∧ b ≤ M) (hc : 0 ≤ c ∧ c ≤ M) (hd : 0 ≤ d ∧ d ≤ M) : -(M * M) ≤ a * d - b * c ∧ a * d - b * c ≤ M * M := by
  have h1 := min2 ha hb hc hd
  have h2 := min2 hb ha hd hc
  omega
theorem Dt_nn {M : Int} {a b c : Nat → Int} (ha : nnF M a) (hb : nnF M b) (hc : nnF M c) : -(2 * (M * (M * M))) ≤ Dt a b c ∧ Dt a b c ≤ 2 * (M * (M * M)) := by
  have h1 := det3_le (ha 0) (ha 1) (ha 2) (hb 0) (hb 1) (hb 2) (hc 0) (hc 1) (hc 2)
  have h2 := det3_le (ha 0) (ha 1) (ha 2) (hc 0) (hc 1) (hc 2) (hb 0) (hb 1) (hb 2)
  have e1 : a 0 * (b 1 * c 2 - b 2 * c 1) + a 1 * (b 2 * c 0 - b 0 * c 2) + a 2 * (b 0 * c 1 - b 1 * c 0) = Dt a b c := rfl
  have e2 : a 0 * (c 1 * b 2 - c 2 * b 1) + a 1 * (c 2 * b 0 - c 0 * b 2) + a 2 * (c 0 * b 1 - c 1 * b 0) = -Dt a b c := by unfold Dt; grind
  rw [e1] at h1
  rw [e2] at h2
  omega
theorem Dt_1 {M : Int} {a b c : Nat → Int} (ha : abF M a) (hb : nnF M b) (hc : nnF M c) : -(3 * (M * (M * M))) ≤ Dt a b c ∧ Dt a b c ≤ 3 * (M * (M * M)) :=
  lin3 (ha 0) (ha 1) (ha 2) (min2_ab (hb 1) (hb 2) (hc 1) (hc 2)) (min2_ab (hb 2) (hb 0) (hc 2) (hc 0)) (min2_ab (hb 0) (hb 1) (hc 0) (hc 1))
theorem Dt_2 {M : Int} {a x y z : Nat → Int} (ha : abF M a) (hx : nnF M x) (hy : nnF M y) (hz : nnF M z) : -(3 * (M * (M * M))) ≤ Dt a (fun i => x i - z i) (fun i => y i - z i) ∧ Dt a (fun i => x i - z i) (fun i => y i - z i) ≤ 3 * (M * (M * M)) :=
  lin3 (ha 0) (ha 1) (ha 2) (tri_ab (hx 1) (hy 1) (hz 1) (hx 2) (hy 2) (hz 2)) (tri_ab (hx 2) (hy 2) (hz 2) (hx 0) (hy 0) (hz 0)) (tri_ab (hx 0) (hy 0) (hz 0) (hx 1) (hy 1) (hz 1))
theorem kq_0 {B : Nat → Nat → Int} (w : Nat → Int) : kq B w 0 = Dt w (fun i => B i 1) (fun i => B i 2) := by
  simp only [kq, kN, Dt]; simp; grind
theorem kq_1 {B : Nat → Nat → Int} (w : Nat → Int) : kq B w 1 = Dt w (fun i => B i 2) (fun i => B i 0) := by
  simp only [kq, kN, Dt]; simp; grind
theorem kq_2 {B : Nat → Nat → Int} (w : Nat → Int) : kq B w 2 = Dt w (fun i => B i 0) (fun i => B i 1) := by
  simp only [kq, kN, Dt]; simp; grind
theorem kD_D {B : Nat → Nat → Int} : kD B = Dt (fun i => B i 0) (fun i => B i 1) (fun i => B i 2) := by
  simp only [kD, kN, Dt]; simp; grind
