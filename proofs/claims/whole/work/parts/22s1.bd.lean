/-! ===== bounds of determinants over a metric (to be set before 22t once er_bd, ho_bd stand) ===== -/
theorem ap_le {a p M N : Int} (ha : 0 ≤ a ∧ a ≤ M) (hp : p ≤ N) (hN : 0 ≤ N) : a * p ≤ M * N :=
  Int.le_trans (Int.mul_le_mul_of_nonneg_left hp ha.1) (Int.mul_le_mul_of_nonneg_right ha.2 hN)
theorem ap_np {a p : Int} (ha : 0 ≤ a) (hp : p ≤ 0) : a * p ≤ 0 := by
  have h := Int.mul_le_mul_of_nonneg_left hp ha
  rw [Int.mul_zero] at h
  exact h
/-- two columns of numbers from 0 to M -/
theorem min2 {M a b c d : Int} (ha : 0 ≤ a ∧ a ≤ M) (hb : 0 ≤ b ∧ b ≤ M) (hc : 0 ≤ c ∧ c ≤ M) (hd : 0 ≤ d ∧ d ≤ M) : a * d - b * c ≤ M * M := by
  have h1 := ap_le ha hd.2 (by omega)
  have h2 := Int.mul_nonneg hb.1 hc.1
  omega
theorem lt3 {X Y Z x y z : Int} (hx : 0 ≤ x ∧ x < X) (hy : 0 ≤ y ∧ y < Y) (hz : 0 ≤ z ∧ z < Z) : x * y * z < X * Y * Z := by
  have h1 : x * y ≤ X * Y := Int.mul_le_mul (by omega) (by omega) hy.1 (by omega)
  have h2 : 0 < X * Y := Int.mul_pos (by omega) (by omega)
  have h3 : x * y * z ≤ X * Y * z := Int.mul_le_mul_of_nonneg_right h1 hz.1
  have h4 : X * Y * z < X * Y * Z := Int.mul_lt_mul_of_pos_left hz.2 h2
  omega
/-- a determinant of nine numbers from 0 to M -/
theorem det3_le {M a b c d e f g h i : Int} (ha : 0 ≤ a ∧ a ≤ M) (hb : 0 ≤ b ∧ b ≤ M) (hc : 0 ≤ c ∧ c ≤ M) (hd : 0 ≤ d ∧ d ≤ M) (he : 0 ≤ e ∧ e ≤ M) (hf : 0 ≤ f ∧ f ≤ M) (hg : 0 ≤ g ∧ g ≤ M) (hh : 0 ≤ h ∧ h ≤ M) (hi : 0 ≤ i ∧ i ≤ M) : a * (e * i - f * h) + b * (f * g - d * i) + c * (d * h - e * g) ≤ 2 * (M * (M * M)) := by
  have hM : 0 ≤ M * M := Int.mul_nonneg (by omega) (by omega)
  have hM3 : 0 ≤ M * (M * M) := Int.mul_nonneg (by omega) hM
  have p1 := ap_le ha (min2 he hf hh hi) hM
  have q1 := ap_le hb (min2 hf hd hi hg) hM
  have r1 := ap_le hc (min2 hd he hg hh) hM
  rcases (show e * i - f * h ≤ 0 ∨ 0 < e * i - f * h by omega) with hp | hp
  · have := ap_np ha.1 hp; omega
  · rcases (show f * g - d * i ≤ 0 ∨ 0 < f * g - d * i by omega) with hq | hq
    · have := ap_np hb.1 hq; omega
    · rcases (show d * h - e * g ≤ 0 ∨ 0 < d * h - e * g by omega) with hr | hr
      · have := ap_np hc.1 hr; omega
      · exfalso
        have h1 := lt3 (X := e * i) (Y := f * g) (Z := d * h) (x := f * h) (y := d * i) (z := e * g) ⟨Int.mul_nonneg hf.1 hh.1, by omega⟩ ⟨Int.mul_nonneg hd.1 hi.1, by omega⟩ ⟨Int.mul_nonneg he.1 hg.1, by omega⟩
        have h2 : f * h * (d * i) * (e * g) = e * i * (f * g) * (d * h) := by grind
        omega
/-- how unlike: a metric -/
theorem unl_eq {r : Nat → Int} (hr : vR r) {h : Int} (h0 : 0 < h) : sp_unl r h = r 2 + r 5 * min h (r 6) + (r 3 - r 5) * min h (r 4) := by
  have q5 := hr.2.2.2.2.2.1
  have q6 := hr.2.2.2.2.2.2.1
  unfold sp_unl
  rw [if_neg (by omega)]
  by_cases hk : r 4 < h
  · rw [if_pos hk, show min h (r 4) = r 4 by omega]; grind
  · rw [if_neg hk, show min h (r 4) = h by omega, show min h (r 6) = h by omega]; grind
theorem unl_sub {r : Nat → Int} (hr : vR r) {h h1 h2 : Int} (a1 : 0 ≤ h1) (a2 : 0 ≤ h2) (a0 : 0 ≤ h) (hh : h ≤ h1 + h2) : sp_unl r h ≤ sp_unl r h1 + sp_unl r h2 := by
  have q2 := hr.2.2.1
  have q3 := hr.2.2.2.1
  have q4 := hr.2.2.2.2.1
  have q5 := hr.2.2.2.2.2.1
  have q6 := hr.2.2.2.2.2.2.1
  have g1 := sp_unl_rg hr a1
  have g2 := sp_unl_rg hr a2
  have mono : ∀ {x y : Int}, 0 < x → x ≤ y → sp_unl r x ≤ sp_unl r y := fun {x y} hx hxy => by
    rw [unl_eq hr hx, unl_eq hr (show 0 < y by omega)]
    have m1 := Int.mul_le_mul_of_nonneg_left (show min x (r 6) ≤ min y (r 6) by omega) (show 0 ≤ r 5 by omega)
    have m2 := Int.mul_le_mul_of_nonneg_left (show min x (r 4) ≤ min y (r 4) by omega) (show 0 ≤ r 3 - r 5 by omega)
    omega
  rcases (show h = 0 ∨ 0 < h by omega) with e | e
  · rw [e, show sp_unl r 0 = 0 from if_pos rfl]; omega
  · rcases (show h1 = 0 ∨ 0 < h1 by omega) with e1 | e1
    · have := mono e (show h ≤ h2 by omega); omega
    · rcases (show h2 = 0 ∨ 0 < h2 by omega) with e2 | e2
      · have := mono e (show h ≤ h1 by omega); omega
      · rw [unl_eq hr e, unl_eq hr e1, unl_eq hr e2]
        have m1 := Int.mul_le_mul_of_nonneg_left (show min h (r 6) ≤ min h1 (r 6) + min h2 (r 6) by omega) (show 0 ≤ r 5 by omega)
        have m2 := Int.mul_le_mul_of_nonneg_left (show min h (r 4) ≤ min h1 (r 4) + min h2 (r 4) by omega) (show 0 ≤ r 3 - r 5 by omega)
        rw [Int.mul_add] at m1 m2
        omega
theorem pos_le {a p M : Int} (ha : 0 ≤ a ∧ a ≤ M) : a * p ≤ M * max p 0 := by
  rcases (show p ≤ 0 ∨ 0 < p by omega) with h | h
  · rw [show max p 0 = 0 by omega, Int.mul_zero]; exact ap_np ha.1 h
  · rw [show max p 0 = p by omega]; exact ap_le ha (Int.le_refl p) (by omega)
/-- twice the area of a triangle in a square -/
theorem tri_le {M a1 b1 d1 a2 b2 d2 : Int} (h1 : 0 ≤ a1 ∧ a1 ≤ M) (h2 : 0 ≤ b1 ∧ b1 ≤ M) (h3 : 0 ≤ d1 ∧ d1 ≤ M) (h4 : 0 ≤ a2 ∧ a2 ≤ M) (h5 : 0 ≤ b2 ∧ b2 ≤ M) (h6 : 0 ≤ d2 ∧ d2 ≤ M) : a1 * (b2 - d2) + b1 * (d2 - a2) + d1 * (a2 - b2) ≤ M * M := by
  have q1 := pos_le (p := b2 - d2) h1
  have q2 := pos_le (p := d2 - a2) h2
  have q3 := pos_le (p := a2 - b2) h3
  have q4 : M * (max (b2 - d2) 0 + max (d2 - a2) 0 + max (a2 - b2) 0) ≤ M * M := Int.mul_le_mul_of_nonneg_left (by omega) (by omega)
  rw [Int.mul_add, Int.mul_add] at q4
  omega
theorem tri_ab {M a1 b1 d1 a2 b2 d2 : Int} (h1 : 0 ≤ a1 ∧ a1 ≤ M) (h2 : 0 ≤ b1 ∧ b1 ≤ M) (h3 : 0 ≤ d1 ∧ d1 ≤ M) (h4 : 0 ≤ a2 ∧ a2 ≤ M) (h5 : 0 ≤ b2 ∧ b2 ≤ M) (h6 : 0 ≤ d2 ∧ d2 ≤ M) : -(M * M) ≤ (a1 - d1) * (b2 - d2) - (a2 - d2) * (b1 - d1) ∧ (a1 - d1) * (b2 - d2) - (a2 - d2) * (b1 - d1) ≤ M * M := by
  have q1 := tri_le h1 h2 h3 h4 h5 h6
  have q2 := tri_le h2 h1 h3 h5 h4 h6
  have e1 : (a1 - d1) * (b2 - d2) - (a2 - d2) * (b1 - d1) = a1 * (b2 - d2) + b1 * (d2 - a2) + d1 * (a2 - b2) := by grind
  have e2 : b1 * (a2 - d2) + a1 * (d2 - b2) + d1 * (b2 - a2) = -(a1 * (b2 - d2) + b1 * (d2 - a2) + d1 * (a2 - b2)) := by grind
  omega
theorem ab_le {x p M N : Int} (hx : -M ≤ x ∧ x ≤ M) (hp : -N ≤ p ∧ p ≤ N) : -(M * N) ≤ x * p ∧ x * p ≤ M * N := by
  rcases (show 0 ≤ x ∨ x < 0 by omega) with h | h
  · have q1 := ap_le (a := x) (M := M) ⟨h, hx.2⟩ hp.2 (by omega)
    have q2 := ap_le (a := x) (M := M) (p := -p) (N := N) ⟨h, hx.2⟩ (by omega) (by omega)
    rw [Int.mul_neg] at q2
    omega
  · have q1 := ap_le (a := -x) (M := M) ⟨by omega, by omega⟩ hp.2 (by omega)
    have q2 := ap_le (a := -x) (M := M) (p := -p) (N := N) ⟨by omega, by omega⟩ (by omega) (by omega)
    rw [Int.neg_mul_neg] at q2
    rw [Int.neg_mul] at q1
    omega
/-- three products -/
theorem lin3 {x y z p q r M N : Int} (hx : -M ≤ x ∧ x ≤ M) (hy : -M ≤ y ∧ y ≤ M) (hz : -M ≤ z ∧ z ≤ M) (hp : -N ≤ p ∧ p ≤ N) (hq : -N ≤ q ∧ q ≤ N) (hr : -N ≤ r ∧ r ≤ N) : -(3 * (M * N)) ≤ x * p + y * q + z * r ∧ x * p + y * q + z * r ≤ 3 * (M * N) := by
  have := ab_le hx hp
  have := ab_le hy hq
  have := ab_le hz hr
  omega
theorem sq_le {x y c m a b : Int} (hx : 0 ≤ x) (hy : 0 ≤ y) (hc : c ≤ m) (ha : m ≤ a) (hb : m ≤ b) (hm : 0 ≤ m) : 2 * (c * (x * y)) ≤ a * (y * y) + b * (x * x) := by
  have q1 : c * (x * y) ≤ m * (x * y) := Int.mul_le_mul_of_nonneg_right hc (Int.mul_nonneg hx hy)
  have q2 : m * (y * y) ≤ a * (y * y) := Int.mul_le_mul_of_nonneg_right ha (Int.mul_nonneg hy hy)
  have q3 : m * (x * x) ≤ b * (x * x) := Int.mul_le_mul_of_nonneg_right hb (Int.mul_nonneg hx hx)
  have q4 : 0 ≤ m * ((x - y) * (x - y)) := Int.mul_nonneg hm (by rcases (show 0 ≤ x - y ∨ 0 ≤ -(x - y) by omega) with h | h; exact Int.mul_nonneg h h; rw [← Int.neg_mul_neg]; exact Int.mul_nonneg h h)
  have e : m * ((x - y) * (x - y)) = m * (x * x) + m * (y * y) - 2 * (m * (x * y)) := by grind
  omega
def d3 (d1 d2 d3 b12 b13 b23 : Int) : Int := d1 * (d2 * d3 - b23 * b23) + b12 * (b23 * b13 - b12 * d3) + b13 * (b12 * b23 - d2 * b13)
theorem d3_le {M x1 x2 x3 b12 b13 b23 : Int} (h1 : 0 ≤ x1 ∧ x1 ≤ M) (h2 : 0 ≤ x2 ∧ x2 ≤ M) (h3 : 0 ≤ x3 ∧ x3 ≤ M) (h12 : 0 ≤ b12 ∧ b12 ≤ x1 ∧ b12 ≤ x2) (h13 : 0 ≤ b13 ∧ b13 ≤ x1 ∧ b13 ≤ x3) (h23 : 0 ≤ b23 ∧ b23 ≤ x2 ∧ b23 ≤ x3) : -(M * (M * M)) ≤ d3 x1 x2 x3 b12 b13 b23 ∧ d3 x1 x2 x3 b12 b13 b23 ≤ M * (M * M) := by
  have hM : x1 * (x2 * x3) ≤ M * (M * M) := ap_le h1 (ap_le h2 h3.2 (by omega)) (Int.mul_nonneg (by omega) (by omega))
  have hN : 0 ≤ x3 * (b12 * b12) := Int.mul_nonneg h3.1 (Int.mul_nonneg h12.1 h12.1)
  constructor
  · rcases (show x1 = 0 ∨ 0 < x1 by omega) with h | h
    · have e1 : b12 = 0 := by omega
      have e2 : b13 = 0 := by omega
      unfold d3
      rw [h, e1, e2]
      simp
      exact Int.mul_nonneg (by omega) (Int.mul_nonneg (by omega) (by omega))
    · have hX : 0 ≤ x1 * x2 - b12 * b12 := by
        have := Int.mul_le_mul h12.2.1 h12.2.2 h12.1 h1.1; omega
      have hY : 0 ≤ x1 * x3 - b13 * b13 := by
        have := Int.mul_le_mul h13.2.1 h13.2.2 h13.1 h1.1; omega
      have e : x1 * d3 x1 x2 x3 b12 b13 b23 = (x1 * x2 - b12 * b12) * (x1 * x3 - b13 * b13) - (x1 * b23 - b12 * b13) * (x1 * b23 - b12 * b13) := by unfold d3; grind
      have hXY := Int.mul_nonneg hX hY
      have z1 : 0 ≤ x1 * b23 := Int.mul_nonneg h1.1 h23.1
      have z2 : 0 ≤ b12 * b13 := Int.mul_nonneg h12.1 h13.1
      have z3 : x1 * b23 ≤ x1 * x2 := Int.mul_le_mul_of_nonneg_left h23.2.1 h1.1
      have z4 : x1 * b23 ≤ x1 * x3 := Int.mul_le_mul_of_nonneg_left h23.2.2 h1.1
      have z5 : b13 * b12 ≤ x1 * x2 := Int.mul_le_mul h13.2.1 h12.2.2 h12.1 h1.1
      have z6 : b12 * b13 ≤ x1 * x3 := Int.mul_le_mul h12.2.1 h13.2.2 h13.1 h1.1
      rw [Int.mul_comm b13 b12] at z5
      have hZ := (ab_le (x := x1 * b23 - b12 * b13) (p := x1 * b23 - b12 * b13) (M := x1 * x2) (N := x1 * x3) (by omega) (by omega)).2
      have e2 : x1 * x2 * (x1 * x3) = x1 * (x1 * (x2 * x3)) := by grind
      have : x1 * (-(x1 * (x2 * x3))) ≤ x1 * d3 x1 x2 x3 b12 b13 b23 := by rw [Int.mul_neg]; omega
      have := Int.le_of_mul_le_mul_left this h
      omega
  · have q := sq_le (x := b13) (y := b23) (c := b12) (m := min x1 x2) (a := x1) (b := x2) h13.1 h23.1 (by omega) (by omega) (by omega) (by omega)
    have e : d3 x1 x2 x3 b12 b13 b23 = x1 * (x2 * x3) + 2 * (b12 * (b13 * b23)) - (x1 * (b23 * b23) + x2 * (b13 * b13)) - x3 * (b12 * b12) := by unfold d3; grind
    omega
theorem fr_tri (mt a b c d : Int) : sp_fr mt (a + c) (b + d) ≤ sp_fr mt a b + sp_fr mt c d := by
  unfold sp_fr
  split <;> omega
theorem fr_nn (mt a b : Int) : 0 ≤ sp_fr mt a b := by
  unfold sp_fr
  split <;> omega
/-- how unlike two places are -/
def u2 (r : Nat → Int) (x y u v : Int) : Int := sp_unl r (sp_far r x y u v)
theorem u2_tri {r : Nat → Int} (hr : vR r) (x y u v s t : Int) : u2 r x y s t ≤ u2 r x y u v + u2 r u v s t := by
  unfold u2 sp_far
  refine unl_sub hr (fr_nn _ _ _) (fr_nn _ _ _) (fr_nn _ _ _) ?_
  have h := fr_tri (r 1) (x - u) (y - v) (u - s) (v - t)
  rw [show x - u + (u - s) = x - s by omega, show y - v + (v - t) = y - t by omega] at h
  exact h
theorem u2_sym (r : Nat → Int) (x y u v : Int) : u2 r x y u v = u2 r u v x y := by
  unfold u2 sp_far sp_fr
  congr 1
  split <;> omega
theorem uu_u2 (r : Nat → Int) (L : List Nat) (i j : Nat) : sp_uu r L i j = u2 r (r (10 + 3 * L.getD i 0)) (r (11 + 3 * L.getD i 0)) (r (10 + 3 * L.getD j 0)) (r (11 + 3 * L.getD j 0)) := rfl
theorem v1_u2 (r : Nat → Int) (L : List Nat) (x y : Int) (i : Nat) : sp_v1 r L x y i = u2 r (r (10 + 3 * L.getD i 0)) (r (11 + 3 * L.getD i 0)) x y := rfl
theorem uu_tri {r : Nat → Int} (hr : vR r) (L : List Nat) (i j k : Nat) : sp_uu r L i k ≤ sp_uu r L i j + sp_uu r L j k := by
  rw [uu_u2, uu_u2, uu_u2]; exact u2_tri hr _ _ _ _ _ _
theorem kB_in (U : Nat → Nat → Int) {m i j : Nat} (h : i + 1 < m) (h2 : j + 1 < m) : kB U m i j = U 0 (i + 1) + U 0 (j + 1) - U (i + 1) (j + 1) := if_pos ⟨h, h2⟩
theorem kB_out (U : Nat → Nat → Int) {m i j : Nat} (h : ¬ (i + 1 < m ∧ j + 1 < m)) : kB U m i j = if i = j then 1 else 0 := if_neg h
/-- the table's numbers -/
theorem kB_bd {r : Nat → Int} (hr : vR r) {L : List Nat} (hok : okL r L) (i j : Nat) : 0 ≤ kB (sp_uu r L) L.length i j ∧ kB (sp_uu r L) L.length i j ≤ kB (sp_uu r L) L.length i i ∧ kB (sp_uu r L) L.length i j ≤ kB (sp_uu r L) L.length j j ∧ kB (sp_uu r L) L.length i i ≤ 378 := by
  have hs := symU_uu r L
  have t1 := uu_tri hr L (i + 1) 0 (j + 1)
  have t2 := uu_tri hr L 0 (i + 1) (j + 1)
  have t3 := uu_tri hr L 0 (j + 1) (i + 1)
  have s1 := hs.2 (i + 1) 0
  have s2 := hs.2 (j + 1) (i + 1)
  have z1 := hs.1 (i + 1)
  have z2 := hs.1 (j + 1)
  by_cases hi : i + 1 < L.length
  · have r1 := sp_uu_rg hr hok (show 0 < L.length by omega) hi
    have k1 := kB_in (sp_uu r L) hi hi
    by_cases hj : j + 1 < L.length
    · have k2 := kB_in (sp_uu r L) hi hj
      have k3 := kB_in (sp_uu r L) hj hj
      omega
    · have k2 := kB_out (sp_uu r L) (m := L.length) (i := i) (j := j) (fun h => hj h.2)
      have k3 := kB_out (sp_uu r L) (m := L.length) (i := j) (j := j) (fun h => hj h.2)
      rw [if_neg (show ¬ i = j by omega)] at k2
      rw [if_pos rfl] at k3
      omega
  · have k1 := kB_out (sp_uu r L) (m := L.length) (i := i) (j := i) (fun h => hi h.1)
    have k2 := kB_out (sp_uu r L) (m := L.length) (i := i) (j := j) (fun h => hi h.1)
    rw [if_pos rfl] at k1
    by_cases hj : j + 1 < L.length
    · have r2 := sp_uu_rg hr hok (show 0 < L.length by omega) hj
      have k3 := kB_in (sp_uu r L) hj hj
      rw [if_neg (show ¬ i = j by omega)] at k2
      omega
    · have k3 := kB_out (sp_uu r L) (m := L.length) (i := j) (j := j) (fun h => hj h.1)
      rw [if_pos rfl] at k3
      by_cases e : i = j
      · rw [if_pos e] at k2; omega
      · rw [if_neg e] at k2; omega
theorem kB_sym {U : Nat → Nat → Int} (h : symU U) (m i j : Nat) : kB U m i j = kB U m j i := by
  by_cases hi : i + 1 < m ∧ j + 1 < m
  · rw [kB_in U hi.1 hi.2, kB_in U hi.2 hi.1, h.2 (i + 1) (j + 1)]; omega
  · rw [kB_out U hi, kB_out U (fun q => hi ⟨q.2, q.1⟩)]
    by_cases e : i = j
    · rw [if_pos e, if_pos e.symm]
    · rw [if_neg e, if_neg (fun q => e q.symm)]
theorem nD_bd {r : Nat → Int} (hr : vR r) {L : List Nat} (hok : okL r L) : -54010152 ≤ nD r L ∧ nD r L ≤ 54010152 := by
  have hs := symU_uu r L
  have c01 := kB_bd hr hok 0 1
  have c02 := kB_bd hr hok 0 2
  have c12 := kB_bd hr hok 1 2
  have c2 := kB_bd hr hok 2 2
  have h := d3_le (M := 378) (x1 := kB (sp_uu r L) L.length 0 0) (x2 := kB (sp_uu r L) L.length 1 1) (x3 := kB (sp_uu r L) L.length 2 2) (b12 := kB (sp_uu r L) L.length 0 1) (b13 := kB (sp_uu r L) L.length 0 2) (b23 := kB (sp_uu r L) L.length 1 2) (by omega) (by omega) (by omega) (by omega) (by omega) (by omega)
  have e : nD r L = d3 (kB (sp_uu r L) L.length 0 0) (kB (sp_uu r L) L.length 1 1) (kB (sp_uu r L) L.length 2 2) (kB (sp_uu r L) L.length 0 1) (kB (sp_uu r L) L.length 0 2) (kB (sp_uu r L) L.length 1 2) := by
    have s1 := kB_sym hs L.length 1 0
    have s2 := kB_sym hs L.length 2 0
    have s3 := kB_sym hs L.length 2 1
    show kD (kB (sp_uu r L) L.length) = _
    generalize kB (sp_uu r L) L.length = B at s1 s2 s3 ⊢
    simp only [kD, kN, d3]
    simp
    rw [s1, s2, s3]
    grind
  rw [e]
  omega
