/-! ===== sums of shares over any set of samples ===== -/
theorem q_bd {M : Int} {B : Nat → Nat → Int} {w : Nat → Int} (h0 : nnF M (fun i => B i 0)) (h1 : nnF M (fun i => B i 1)) (h2 : nnF M (fun i => B i 2)) (hw : nnF M w) (j : Nat) (hj : j < 3) : -(2 * (M * (M * M))) ≤ kq B w j ∧ kq B w j ≤ 2 * (M * (M * M)) := by
  rcases (show j = 0 ∨ j = 1 ∨ j = 2 by omega) with e | e | e
  · rw [e, kq_0]; exact Dt_nn hw h1 h2
  · rw [e, kq_1]; exact Dt_nn hw h2 h0
  · rw [e, kq_2]; exact Dt_nn hw h0 h1
theorem s_bd {M : Int} {B : Nat → Nat → Int} {w : Nat → Int} (h0 : nnF M (fun i => B i 0)) (h1 : nnF M (fun i => B i 1)) (h2 : nnF M (fun i => B i 2)) (hw : nnF M w) :
    (-(3 * (M * (M * M))) ≤ kq B w 0 + kq B w 1 ∧ kq B w 0 + kq B w 1 ≤ 3 * (M * (M * M))) ∧ (-(3 * (M * (M * M))) ≤ kq B w 0 + kq B w 2 ∧ kq B w 0 + kq B w 2 ≤ 3 * (M * (M * M))) ∧ (-(3 * (M * (M * M))) ≤ kq B w 1 + kq B w 2 ∧ kq B w 1 + kq B w 2 ≤ 3 * (M * (M * M))) ∧ (-(3 * (M * (M * M))) ≤ kq B w 0 + kq B w 1 + kq B w 2 ∧ kq B w 0 + kq B w 1 + kq B w 2 ≤ 3 * (M * (M * M))) := by
  have e1 : kq B w 0 + kq B w 1 = Dt (fun i => B i 1 - B i 0) (fun i => B i 2) w := by rw [kq_0, kq_1]; unfold Dt; grind
  have e2 : kq B w 0 + kq B w 2 = Dt (fun i => B i 2 - B i 0) w (fun i => B i 1) := by rw [kq_0, kq_2]; unfold Dt; grind
  have e3 : kq B w 1 + kq B w 2 = Dt (fun i => B i 2 - B i 1) (fun i => B i 0) w := by rw [kq_1, kq_2]; unfold Dt; grind
  have e4 : kq B w 0 + kq B w 1 + kq B w 2 = Dt w (fun i => B i 1 - B i 0) (fun i => B i 2 - B i 0) := by rw [kq_0, kq_1, kq_2]; unfold Dt; grind
  rw [e4, e1, e2, e3]
  exact ⟨Dt_1 (df_ab h1 h0) h2 hw, Dt_1 (df_ab h2 h0) hw h1, Dt_1 (df_ab h2 h1) h0 hw, Dt_2 (nn_ab hw) h1 h2 h0⟩
theorem t_bd {M : Int} {B : Nat → Nat → Int} {w : Nat → Int} (h0 : nnF M (fun i => B i 0)) (h1 : nnF M (fun i => B i 1)) (h2 : nnF M (fun i => B i 2)) (hw : nnF M w) :
    (-(3 * (M * (M * M))) ≤ kD B - kq B w 0 ∧ kD B - kq B w 0 ≤ 3 * (M * (M * M))) ∧ (-(3 * (M * (M * M))) ≤ kD B - kq B w 1 ∧ kD B - kq B w 1 ≤ 3 * (M * (M * M))) ∧ (-(3 * (M * (M * M))) ≤ kD B - kq B w 2 ∧ kD B - kq B w 2 ≤ 3 * (M * (M * M))) := by
  have e1 : kD B - kq B w 0 = Dt (fun i => B i 0 - w i) (fun i => B i 1) (fun i => B i 2) := by rw [kD_D, kq_0]; unfold Dt; grind
  have e2 : kD B - kq B w 1 = Dt (fun i => B i 1 - w i) (fun i => B i 2) (fun i => B i 0) := by rw [kD_D, kq_1]; unfold Dt; grind
  have e3 : kD B - kq B w 2 = Dt (fun i => B i 2 - w i) (fun i => B i 0) (fun i => B i 1) := by rw [kD_D, kq_2]; unfold Dt; grind
  rw [e1, e2, e3]
  exact ⟨Dt_1 (df_ab h0 hw) h1 h2, Dt_1 (df_ab h1 hw) h2 h0, Dt_1 (df_ab h2 hw) h0 h1⟩
theorem w_bd {M : Int} {B : Nat → Nat → Int} {w : Nat → Int} (h0 : nnF M (fun i => B i 0)) (h1 : nnF M (fun i => B i 1)) (h2 : nnF M (fun i => B i 2)) (hw : nnF M w) :
    (-(3 * (M * (M * M))) ≤ kD B - kq B w 0 - kq B w 1 ∧ kD B - kq B w 0 - kq B w 1 ≤ 3 * (M * (M * M))) ∧ (-(3 * (M * (M * M))) ≤ kD B - kq B w 0 - kq B w 2 ∧ kD B - kq B w 0 - kq B w 2 ≤ 3 * (M * (M * M))) ∧ (-(3 * (M * (M * M))) ≤ kD B - kq B w 1 - kq B w 2 ∧ kD B - kq B w 1 - kq B w 2 ≤ 3 * (M * (M * M))) ∧ (-(3 * (M * (M * M))) ≤ kD B - kq B w 0 - kq B w 1 - kq B w 2 ∧ kD B - kq B w 0 - kq B w 1 - kq B w 2 ≤ 3 * (M * (M * M))) := by
  have e1 : kD B - kq B w 0 - kq B w 1 = Dt (fun i => B i 2) (fun i => B i 0 - w i) (fun i => B i 1 - w i) := by rw [kD_D, kq_0, kq_1]; unfold Dt; grind
  have e2 : kD B - kq B w 0 - kq B w 2 = Dt (fun i => B i 1) (fun i => B i 2 - w i) (fun i => B i 0 - w i) := by rw [kD_D, kq_0, kq_2]; unfold Dt; grind
  have e3 : kD B - kq B w 1 - kq B w 2 = Dt (fun i => B i 0) (fun i => B i 1 - w i) (fun i => B i 2 - w i) := by rw [kD_D, kq_1, kq_2]; unfold Dt; grind
  have e4 : kD B - kq B w 0 - kq B w 1 - kq B w 2 = Dt (fun i => B i 2 - w i) (fun i => B i 0 - w i) (fun i => B i 1 - w i) := by rw [kD_D, kq_0, kq_1, kq_2]; unfold Dt; grind
  rw [e4, e1, e2, e3]
  exact ⟨Dt_2 (nn_ab h2) h0 h1 hw, Dt_2 (nn_ab h1) h2 h0 hw, Dt_2 (nn_ab h0) h1 h2 hw, Dt_2 (df_ab h2 hw) h0 h1 hw⟩
/-- four shares, told off by numbers that lie N apart at most, 0 among them -/
theorem pd_le {P d g N : Int} (hg : 0 ≤ g ∧ g ≤ N) (hd : -g ≤ d ∧ d ≤ N - g) : P * d ≤ (N - g) * max P 0 + g * max (-P) 0 := by
  rcases (show 0 ≤ P ∨ P < 0 by omega) with h | h
  · rw [show max P 0 = P by omega, show max (-P) 0 = 0 by omega, Int.mul_zero, Int.add_zero, Int.mul_comm (N - g) P]
    exact Int.mul_le_mul_of_nonneg_left hd.2 h
  · rw [show max P 0 = 0 by omega, show max (-P) 0 = -P by omega, Int.mul_zero, Int.zero_add]
    have q := Int.mul_le_mul_of_nonneg_left (show -d ≤ g by omega) (show 0 ≤ -P by omega)
    rw [Int.neg_mul_neg] at q
    rw [Int.mul_comm g]
    exact q
