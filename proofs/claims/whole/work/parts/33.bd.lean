/-! ===== bounds of determinants over a metric (to be set before 22t once er_bd, ho_bd stand) ===== -/
theorem ap_le {a p M N : Int} (ha : 0 ≤ a ∧ a ≤ M) (hp : p ≤ N) (hN : 0 ≤ N) : a * p ≤ M * N :=
  Int.le_trans (Int.mul_le_mul_of_nonneg_left hp ha.1) (Int.mul_le_mul_of_nonneg_right ha.2 hN)
theorem ap_np {a p : Int} (ha : 0 ≤ a) (hp : p ≤ 0) : a * p ≤ 0 := by
  have h := Int.mul_le_mul_of_nonneg_left hp ha
  rw [Int.mul_zero] at h
  exact h
/-- two columns of numbers from 0 to M -/
theorem min2 {M a b c d : Int} (ha : 0 ≤ a ∧ a ≤ M) (hb : 0 ≤ b ∧ b ≤ M) (hc : 0 ≤ c ∧ c ≤ M) (hd : 0 ≤ d ∧ d ≤ M) : a * d - b * c ≤ M * M := by
  have h1 := ap_le ha hd.2 (by omega)
  have h2 := Int.mul_nonneg hb.1 hc.1
  omega
theorem lt3 {X Y Z x y z : Int} (hx : 0 ≤ x ∧ x < X) (hy : 0 ≤ y ∧ y < Y) (hz : 0 ≤ z ∧ z < Z) : x * y * z < X * Y * Z := by
  have h1 : x * y ≤ X * Y := Int.mul_le_mul (by omega) (by omega) hy.1 (by omega)
  have h2 : 0 < X * Y := Int.mul_pos (by omega) (by omega)
  have h3 : x * y * z ≤ X * Y * z := Int.mul_le_mul_of_nonneg_right h1 hz.1
  have h4 : X * Y * z < X * Y * Z := Int.mul_lt_mul_of_pos_left hz.2 h2
  omega
/-- a determinant of nine numbers from 0 to M -/
theorem det3_le {M a b c d e f g h i : Int} (ha : 0 ≤ a ∧ a ≤ M) (hb : 0 ≤ b ∧ b ≤ M) (hc : 0 ≤ c ∧ c ≤ M) (hd : 0 ≤ d ∧ d ≤ M) (he : 0 ≤ e ∧ e ≤ M) (hf : 0 ≤ f ∧ f ≤ M) (hg : 0 ≤ g ∧ g ≤ M) (hh : 0 ≤ h ∧ h ≤ M) (hi : 0 ≤ i ∧ i ≤ M) : a * (e * i - f * h) + b * (f * g - d * i) + c * (d * h - e * g) ≤ 2 * (M * (M * M)) := by
  have hM : 0 ≤ M * M := Int.mul_nonneg (by omega) (by omega)
  have hM3 : 0 ≤ M * (M * M) := Int.mul_nonneg (by omega) hM
  have p1 := ap_le ha (min2 he hf hh hi) hM
  have q1 := ap_le hb (min2 hf hd hi hg) hM
  have r1 := ap_le hc (min2 hd he hg hh) hM
  rcases (show e * i - f * h ≤ 0 ∨ 0 < e * i - f * h by omega) with hp | hp
  · have := ap_np ha.1 hp; omega
  · rcases (show f * g - d * i ≤ 0 ∨ 0 < f * g - d * i by omega) with hq | hq
    · have := ap_np hb.1 hq; omega
    · rcases (show d * h - e * g ≤ 0 ∨ 0 < d * h - e * g by omega) with hr | hr
      · have := ap_np hc.1 hr; omega
      · exfalso
        have h1 := lt3 (X := e * i) (Y := f * g) (Z := d * h) (x := f * h) (y := d * i) (z := e * g) ⟨Int.mul_nonneg hf.1 hh.1, by omega⟩ ⟨Int.mul_nonneg hd.1 hi.1, by omega⟩ ⟨Int.mul_nonneg he.1 hg.1, by omega⟩
        have h2 : f * h * (d * i) * (e * g) = e * i * (f * g) * (d * h) := by grind
        omega
/-- how unlike: a metric -/
theorem unl_eq {r : Nat → Int} (hr : vR r) {h : Int} (h0 : 0 < h) : sp_unl r h = r 2 + r 5 * min h (r 6) + (r 3 - r 5) * min h (r 4) := by
  have q5 := hr.2.2.2.2.2.1
  have q6 := hr.2.2.2.2.2.2.1
  unfold sp_unl
  rw [if_neg (by omega)]
  by_cases hk : r 4 < h
  · rw [if_pos hk, show min h (r 4) = r 4 by omega]; grind
  · rw [if_neg hk, show min h (r 4) = h by omega, show min h (r 6) = h by omega]; grind
theorem unl_sub {r : Nat → Int} (hr : vR r) {h h1 h2 : Int} (a1 : 0 ≤ h1) (a2 : 0 ≤ h2) (a0 : 0 ≤ h) (hh : h ≤ h1 + h2) : sp_unl r h ≤ sp_unl r h1 + sp_unl r h2 := by
  have q2 := hr.2.2.1
  have q3 := hr.2.2.2.1
  have q4 := hr.2.2.2.2.1
  have q5 := hr.2.2.2.2.2.1
  have q6 := hr.2.2.2.2.2.2.1
  have g1 := sp_unl_rg hr a1
  have g2 := sp_unl_rg hr a2
  have mono : ∀ {x y : Int}, 0 < x → x ≤ y → sp_unl r x ≤ sp_unl r y := fun {x y} hx hxy => by
    rw [unl_eq hr hx, unl_eq hr (show 0 < y by omega)]
    have m1 := Int.mul_le_mul_of_nonneg_left (show min x (r 6) ≤ min y (r 6) by omega) (show 0 ≤ r 5 by omega)
    have m2 := Int.mul_le_mul_of_nonneg_left (show min x (r 4) ≤ min y (r 4) by omega) (show 0 ≤ r 3 - r 5 by omega)
    omega
  rcases (show h = 0 ∨ 0 < h by omega) with e | e
  · rw [e, show sp_unl r 0 = 0 from if_pos rfl]; omega
  · rcases (show h1 = 0 ∨ 0 < h1 by omega) with e1 | e1
    · have := mono e (show h ≤ h2 by omega); omega
    · rcases (show h2 = 0 ∨ 0 < h2 by omega) with e2 | e2
      · have := mono e (show h ≤ h1 by omega); omega
      · rw [unl_eq hr e, unl_eq hr e1, unl_eq hr e2]
        have m1 := Int.mul_le_mul_of_nonneg_left (show min h (r 6) ≤ min h1 (r 6) + min h2 (r 6) by omega) (show 0 ≤ r 5 by omega)
        have m2 := Int.mul_le_mul_of_nonneg_left (show min h (r 4) ≤ min h1 (r 4) + min h2 (r 4) by omega) (show 0 ≤ r 3 - r 5 by omega)
        rw [Int.mul_add] at m1 m2
        omega
