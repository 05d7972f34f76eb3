/-! ===== what the guesses of the reference come to ===== -/
def sp_v1 (r : Nat → Int) (L : List Nat) (x y : Int) : Nat → Int := fun i => sp_ut r (L.getD i 0) x y
def sp_vb (r : Nat → Int) (L : List Nat) (x y : Int) : Nat → Int := fun i => sm (fun k => sp_ut r (L.getD i 0) (x + ((k % 2 : Nat) : Int)) (y + ((k / 2 : Nat) : Int))) 4
theorem okV_v1 {r : Nat → Int} (hr : vR r) {L : List Nat} (hok : okL r L) {x y : Int} (hx : 0 ≤ x ∧ x ≤ 31) (hy : 0 ≤ y ∧ y ≤ 31) : okV L.length (sp_v1 r L x y) 1 := ⟨by omega, fun i hi => by have := sp_ut_rg hr (okL_get hok hi) (x := x) (y := y) (by omega) (by omega); unfold sp_v1; omega⟩
theorem okV_vb {r : Nat → Int} (hr : vR r) {L : List Nat} (hok : okL r L) {x y : Int} (hx : 0 ≤ x ∧ x ≤ 30) (hy : 0 ≤ y ∧ y ≤ 30) : okV L.length (sp_vb r L x y) 4 := ⟨by omega, fun i hi => by
  have h : ∀ k : Nat, k < 4 → 0 ≤ sp_ut r (L.getD i 0) (x + ((k % 2 : Nat) : Int)) (y + ((k / 2 : Nat) : Int)) ∧ sp_ut r (L.getD i 0) (x + ((k % 2 : Nat) : Int)) (y + ((k / 2 : Nat) : Int)) ≤ 189 := fun k hk => sp_ut_rg hr (okL_get hok hi) (by omega) (by omega)
  have h0 := h 0 (by omega); have h1 := h 1 (by omega); have h2 := h 2 (by omega); have h3 := h 3 (by omega)
  simp only [sp_vb, sm]
  omega⟩
theorem g_fin {r : Nat → Int} {L : List Nat} {v rt ups : Nat → Int} {p bel z : Int} (hr : vR r) (hok : okL r L) (hv : ∀ i, i < L.length → rt i = v i) (hp : rt L.length = p) (hz : z = zB (1 ≤ L.length ∧ sp_dt (sp_tab (sp_uu r L) L.length) (L.length + 1) ≠ 0)) (hb : 1 ≤ L.length → bel = sp_dt (sp_tab (sp_uu r L) L.length) (L.length + 1)) (hu : 1 ≤ L.length → sp_dt (sp_tab (sp_uu r L) L.length) (L.length + 1) ≠ 0 → ∀ j : Nat, j ≤ L.length → ups j = sp_dt (sp_rep (sp_tab (sp_uu r L) L.length) rt j) (L.length + 1)) : z = zB (gEx r L) ∧ (gEx r L → gOK r L v p rt ups bel p) := by
  have h4 := okL_le hr hok
  have e : (1 ≤ L.length ∧ sp_dt (sp_tab (sp_uu r L) L.length) (L.length + 1) ≠ 0) ↔ gEx r L := by
    unfold gEx
    constructor
    · rintro ⟨h1, h2⟩
      rw [den_eq h1 h4] at h2
      exact ⟨h1, sg_mul_ne.mp h2⟩
    · rintro ⟨h1, h2⟩
      refine ⟨h1, ?_⟩
      rw [den_eq h1 h4]
      exact sg_mul_ne.mpr h2
  refine ⟨by rw [hz]; exact zB_iff e, fun hx => ?_⟩
  obtain ⟨h1, h2⟩ := e.mpr hx
  refine ⟨hv, rfl, by rw [hb h1, den_eq h1 h4], fun j hj => ?_, ?_⟩
  · rw [hu h1 h2 j (by omega), num_eq h1 h4 hp hj, nP_congr hv]
  · rw [hu h1 h2 _ (Nat.le_refl _), flo_eq h1 h4 hp, nF_congr h1 hv]
abbrev sp_ngt (r : Nat → Int) (L : List Nat) (v : Nat → Int) (p : Int) (j : Nat) : Prop := (nP r L v p j < 0 ∧ 0 < nD r L) ∨ (0 < nP r L v p j ∧ nD r L < 0)
theorem ngt_iff {r : Nat → Int} {L : List Nat} {v : Nat → Int} {p u b : Int} {j : Nat} (m : Nat) (hu : u = sg m * nP r L v p j) (hb : b = sg m * nD r L) : sp_ngt r L v p j ↔ (u < 0 ∧ 0 < b) ∨ (0 < u ∧ b < 0) := by
  rcases sg_cases m with h | h <;> rw [h] at hu hb <;> omega
def sp_inn (r : Nat → Int) : Int := sm (fun k => sp_unl r (sp_fr (r 1) (((k / 4 % 2 : Nat) : Int) - ((k % 4 % 2 : Nat) : Int)) (((k / 4 / 2 : Nat) : Int) - ((k % 4 / 2 : Nat) : Int)))) 16
theorem sm_rgN {f : Nat → Int} {A : Int} : ∀ (n : Nat), (∀ i, i < n → 0 ≤ f i ∧ f i ≤ A) → 0 ≤ sm f n ∧ sm f n ≤ n * A := by
  intro n
  induction n with
  | zero => intro _; simp [sm]
  | succ n ih =>
    intro h
    have a := ih (fun i hi => h i (by omega))
    have b := h n (by omega)
    unfold sm
    push_cast
    rw [Int.add_mul, Int.one_mul]
    omega
theorem sp_inn_rg {r : Nat → Int} (hr : vR r) : 0 ≤ sp_inn r ∧ sp_inn r ≤ 3024 := by
  have h := sm_rgN (f := fun k => sp_unl r (sp_fr (r 1) (((k / 4 % 2 : Nat) : Int) - ((k % 4 % 2 : Nat) : Int)) (((k / 4 / 2 : Nat) : Int) - ((k % 4 / 2 : Nat) : Int)))) (A := 189) 16 (fun i hi => sp_unl_rg hr (sp_fr_rg2 (by omega) (by omega)).1)
  unfold sp_inn
  omega
/-! ===== fractions held against each other ===== -/
theorem fl_div {a b : Int} (hb : 0 < b) (h : 0 ≤ a.tmod b) : a.tdiv b = a / b := by
  have h1 := Int.tmod_add_mul_tdiv a b
  have h2 := Int.tmod_lt_of_pos a hb
  have h3 := Int.emod_add_mul_ediv a b
  have h4 := Int.emod_nonneg a (show b ≠ 0 by omega)
  have h5 := Int.emod_lt_of_pos a hb
  have e : b * (a.tdiv b - a / b) = a % b - a.tmod b := by rw [Int.mul_sub]; omega
  rcases Int.lt_trichotomy (a.tdiv b) (a / b) with q | q | q
  · have := Int.mul_le_mul_of_nonneg_left (show a.tdiv b - a / b ≤ -1 by omega) (Int.le_of_lt hb)
    omega
  · exact q
  · have := Int.mul_le_mul_of_nonneg_left (show 1 ≤ a.tdiv b - a / b by omega) (Int.le_of_lt hb)
    omega
theorem fl_div1 {a b : Int} (hb : 0 < b) (h : a.tmod b < 0) : a.tdiv b - 1 = a / b := by
  have h1 := Int.tmod_add_mul_tdiv a b
  have h2 := Int.lt_tmod_of_pos a hb
  have h3 := Int.emod_add_mul_ediv a b
  have h4 := Int.emod_nonneg a (show b ≠ 0 by omega)
  have h5 := Int.emod_lt_of_pos a hb
  have e : b * (a.tdiv b - 1 - a / b) = a % b - a.tmod b - b := by rw [Int.mul_sub, Int.mul_sub]; omega
  rcases Int.lt_trichotomy (a.tdiv b - 1) (a / b) with q | q | q
  · have := Int.mul_le_mul_of_nonneg_left (show a.tdiv b - 1 - a / b ≤ -1 by omega) (Int.le_of_lt hb)
    omega
  · exact q
  · have := Int.mul_le_mul_of_nonneg_left (show 1 ≤ a.tdiv b - 1 - a / b by omega) (Int.le_of_lt hb)
    omega
theorem mr_ne {a b c d : Int} (hb : 0 < b) (hd : 0 < d) (h : a / b < c / d) : a * d < c * b := by
  have h1 : a < (a / b + 1) * b := Int.lt_ediv_add_one_mul_self a hb
  have h2 : c / d * d ≤ c := Int.ediv_mul_le c (show d ≠ 0 by omega)
  have h3 : (a / b + 1) * b ≤ (c / d) * b := Int.mul_le_mul_of_nonneg_right (by omega) (Int.le_of_lt hb)
  have h4 : a * d < (c / d) * b * d := Int.mul_lt_mul_of_pos_right (by omega) hd
  have h5 : (c / d) * d * b ≤ c * b := Int.mul_le_mul_of_nonneg_right h2 (Int.le_of_lt hb)
  have h6 : (c / d) * b * d = (c / d) * d * b := by rw [Int.mul_assoc, Int.mul_comm b d, ← Int.mul_assoc]
  omega
theorem mr_eq {a b c d : Int} (h : a / b = c / d) : a * d - c * b = (a % b) * d - (c % d) * b := by
  have h3 := Int.emod_add_mul_ediv a b
  have h4 := Int.emod_add_mul_ediv c d
  rw [h] at h3
  generalize c / d = q at h3 h4
  generalize a % b = x at *
  generalize c % d = y at *
  subst h3
  subst h4
  grind
theorem mr_sub {a b : Int} : a - a / b * b = a % b := by
  have h3 := Int.emod_add_mul_ediv a b
  rw [Int.mul_comm]; omega
/-- Euclid's steps: each halves the product -/
theorem mr_pot {a b : Int} {t : Nat} (hb : 0 < b) (hx : 0 < a % b) (h : t = 0 ∧ b ≤ 2 ^ 63 ∨ (b ≤ a ∧ a * b * 2 ^ t ≤ 2 ^ 128)) : a % b ≤ b ∧ b * (a % b) * 2 ^ (t + 1) ≤ 2 ^ 128 := by
  have h5 := Int.emod_lt_of_pos a hb
  refine ⟨by omega, ?_⟩
  rcases h with ⟨rfl, h⟩ | ⟨h1, h2⟩
  · have k1 : b * (a % b) ≤ 2 ^ 63 * 2 ^ 63 := Int.mul_le_mul h (by omega) (by omega) (by omega)
    rw [show (0 + 1 : Nat) = 1 from rfl, Int.pow_one]
    omega
  · have h3 := Int.emod_add_mul_ediv a b
    have h6 : 1 ≤ a / b := by
      have := Int.ediv_le_ediv hb h1
      rw [Int.ediv_self (by omega)] at this
      exact this
    have h7 : b * 1 ≤ b * (a / b) := Int.mul_le_mul_of_nonneg_left h6 (Int.le_of_lt hb)
    have h8 : 2 * (a % b) ≤ a := by omega
    have h9 : b * (2 * (a % b)) ≤ b * a := Int.mul_le_mul_of_nonneg_left h8 (Int.le_of_lt hb)
    have hp : (0 : Int) ≤ 2 ^ t := Int.pow_nonneg (by omega)
    have h10 : b * (2 * (a % b)) * 2 ^ t ≤ b * a * 2 ^ t := Int.mul_le_mul_of_nonneg_right h9 hp
    rw [Int.pow_succ]
    have e1 : b * (a % b) * (2 ^ t * 2) = b * (2 * (a % b)) * 2 ^ t := by grind
    have e2 : b * a * 2 ^ t = a * b * 2 ^ t := by rw [Int.mul_comm b a]
    omega
theorem mr_end {a b : Int} {t : Nat} (hb : 0 < b) (h : t = 0 ∧ b ≤ 2 ^ 63 ∨ (b ≤ a ∧ a * b * 2 ^ t ≤ 2 ^ 128)) : t < 200 := by
  rcases h with ⟨rfl, _⟩ | ⟨h1, h2⟩
  · omega
  · have k1 : (1 : Int) * 1 ≤ a * b := Int.mul_le_mul (by omega) (by omega) (by omega) (by omega)
    have hp : (0 : Int) ≤ 2 ^ t := Int.pow_nonneg (by omega)
    have k2 : 1 * 2 ^ t ≤ a * b * 2 ^ t := Int.mul_le_mul_of_nonneg_right (by omega) hp
    have k3 : (2 : Int) ^ t ≤ 2 ^ 128 := by omega
    rcases Nat.lt_or_ge t 200 with q | q
    · exact q
    · exfalso
      have k4 : (2 : Nat) ^ 200 ≤ 2 ^ t := Nat.pow_le_pow_right (by omega) q
      have k5 : ((2 ^ 200 : Nat) : Int) ≤ ((2 ^ t : Nat) : Int) := Int.ofNat_le.mpr k4
      rw [Int.natCast_pow] at k5
      rw [Int.natCast_pow] at k5
      have : ((2 : Nat) : Int) ^ t = 2 ^ t := rfl
      rw [this] at k5
      have k6 : ((2 : Nat) : Int) ^ 200 > 2 ^ 128 := by decide
      omega
theorem bt_or0 (a : Nat) : iI (a : Int) ||| iI 0 = iI (a : Int) := by
  have := bt_or a 0
  rw [Nat.or_zero] at this
  exact this
theorem mul_ne {a b : Int} (ha : a ≠ 0) (hb : b ≠ 0) : a * b ≠ 0 := Int.mul_ne_zero ha hb
theorem ed_rg {a b M : Int} (hb : 0 < b) (hM : 0 ≤ M) (ha : -M ≤ a ∧ a ≤ M) : -M ≤ a / b ∧ a / b ≤ M := by
  have h1 : a < (a / b + 1) * b := Int.lt_ediv_add_one_mul_self a hb
  have h2 : a / b * b ≤ a := Int.ediv_mul_le a (show b ≠ 0 by omega)
  constructor
  · rcases (show a / b < -M ∨ -M ≤ a / b by omega) with q | q
    · exfalso
      have := Int.mul_le_mul_of_nonneg_left (show 1 ≤ b by omega) (show 0 ≤ -(a / b + 1) by omega)
      rw [Int.neg_mul, Int.neg_mul] at this
      omega
    · exact q
  · rcases (show M < a / b ∨ a / b ≤ M by omega) with q | q
    · exfalso
      have := Int.mul_le_mul_of_nonneg_left (show 1 ≤ b by omega) (show 0 ≤ a / b by omega)
      omega
    · exact q
theorem mr_fin {a b c d : Int} (hb : 0 < b) (hd : 0 < d) (h : a / b = c / d) : (a % b = 0 → c % d = 0 → a * d = c * b) ∧ (a % b = 0 → 0 < c % d → a * d < c * b) ∧ (0 < a % b → c % d = 0 → c * b < a * d) := by
  have k := mr_eq h
  refine ⟨fun h1 h2 => ?_, fun h1 h2 => ?_, fun h1 h2 => ?_⟩
  · rw [h1, h2, Int.zero_mul, Int.zero_mul] at k; omega
  · rw [h1, Int.zero_mul] at k
    have := Int.mul_pos h2 hb
    omega
  · rw [h2, Int.zero_mul] at k
    have := Int.mul_pos h1 hd
    omega
theorem mr_step {a b c d : Int} (h : a / b = c / d) : (a * d < c * b ↔ d * (a % b) < b * (c % d)) ∧ (c * b < a * d ↔ b * (c % d) < d * (a % b)) := by
  have k := mr_eq h
  rw [Int.mul_comm d, Int.mul_comm b (c % d)]
  omega
