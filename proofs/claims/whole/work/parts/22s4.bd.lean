theorem lin4_le {p0 p1 p2 p3 d0 d1 d2 d3 g N K : Int} (hg : 0 ≤ g ∧ g ≤ N) (h0 : -g ≤ d0 ∧ d0 ≤ N - g) (h1 : -g ≤ d1 ∧ d1 ≤ N - g) (h2 : -g ≤ d2 ∧ d2 ≤ N - g) (h3 : -g ≤ d3 ∧ d3 ≤ N - g) (hP : max p0 0 + max p1 0 + max p2 0 + max p3 0 ≤ K) (hQ : max (-p0) 0 + max (-p1) 0 + max (-p2) 0 + max (-p3) 0 ≤ K) : p0 * d0 + p1 * d1 + p2 * d2 + p3 * d3 ≤ N * K := by
  have q0 := pd_le (P := p0) hg h0
  have q1 := pd_le (P := p1) hg h1
  have q2 := pd_le (P := p2) hg h2
  have q3 := pd_le (P := p3) hg h3
  have a := Int.mul_le_mul_of_nonneg_left hP (show 0 ≤ N - g by omega)
  have b := Int.mul_le_mul_of_nonneg_left hQ hg.1
  rw [Int.mul_add, Int.mul_add, Int.mul_add] at a b
  have e : N * K = (N - g) * K + g * K := by grind
  omega
theorem lin4_ab {p0 p1 p2 p3 d0 d1 d2 d3 g N K : Int} (hg : 0 ≤ g ∧ g ≤ N) (h0 : -g ≤ d0 ∧ d0 ≤ N - g) (h1 : -g ≤ d1 ∧ d1 ≤ N - g) (h2 : -g ≤ d2 ∧ d2 ≤ N - g) (h3 : -g ≤ d3 ∧ d3 ≤ N - g) (hP : max p0 0 + max p1 0 + max p2 0 + max p3 0 ≤ K) (hQ : max (-p0) 0 + max (-p1) 0 + max (-p2) 0 + max (-p3) 0 ≤ K) : -(N * K) ≤ p0 * d0 + p1 * d1 + p2 * d2 + p3 * d3 ∧ p0 * d0 + p1 * d1 + p2 * d2 + p3 * d3 ≤ N * K := by
  have a := lin4_le hg h0 h1 h2 h3 hP hQ
  have b := lin4_le (p0 := -p0) (p1 := -p1) (p2 := -p2) (p3 := -p3) hg h0 h1 h2 h3 hQ (by rw [Int.neg_neg, Int.neg_neg, Int.neg_neg, Int.neg_neg]; exact hP)
  rw [Int.neg_mul, Int.neg_mul, Int.neg_mul, Int.neg_mul] at b
  omega
/-- the shares above 0 together, those below 0 together -/
theorem pm_bd {M : Int} {B : Nat → Nat → Int} {w : Nat → Int} (hM : 0 ≤ M) (h0 : nnF M (fun i => B i 0)) (h1 : nnF M (fun i => B i 1)) (h2 : nnF M (fun i => B i 2)) (hw : nnF M w) (hD : -(3 * (M * (M * M))) ≤ kD B ∧ kD B ≤ 3 * (M * (M * M))) :
    max (kP B w 1 0) 0 + max (kP B w 1 1) 0 + max (kP B w 1 2) 0 + max (kP B w 1 3) 0 ≤ 3 * (M * (M * M)) ∧ max (-kP B w 1 0) 0 + max (-kP B w 1 1) 0 + max (-kP B w 1 2) 0 + max (-kP B w 1 3) 0 ≤ 3 * (M * (M * M)) := by
  have k0 : kP B w 1 0 = kD B - kq B w 0 - kq B w 1 - kq B w 2 := by show 1 * kD B - _ - _ - _ = _; rw [Int.one_mul]
  have k1 : kP B w 1 1 = kq B w 0 := rfl
  have k2 : kP B w 1 2 = kq B w 1 := rfl
  have k3 : kP B w 1 3 = kq B w 2 := rfl
  rw [k0, k1, k2, k3]
  have a0 := q_bd h0 h1 h2 hw 0 (by omega)
  have a1 := q_bd h0 h1 h2 hw 1 (by omega)
  have a2 := q_bd h0 h1 h2 hw 2 (by omega)
  have b := s_bd h0 h1 h2 hw
  have c := t_bd h0 h1 h2 hw
  have d := w_bd h0 h1 h2 hw
  have hN : 0 ≤ M * (M * M) := Int.mul_nonneg hM (Int.mul_nonneg hM hM)
  generalize M * (M * M) = N at *
  generalize kq B w 0 = x at *
  generalize kq B w 1 = y at *
  generalize kq B w 2 = z at *
  generalize kD B = t at *
  clear k0 k1 k2 k3
  omega
