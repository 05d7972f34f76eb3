/-! ===== the class: what weigh leaves behind ===== -/
def sp_vp (r : Nat → Int) (L : List Nat) (x y : Int) (P : Nat) : Nat → Int := fun i => sm (fun k => sp_ut r (L.getD i 0) (x + ((k % 2 : Nat) : Int)) (y + ((k / 2 : Nat) : Int))) P
def sp_wf (r : Nat → Int) (p q : Nat) : Int := sp_unl r (sp_fr (r 1) (((p % 2 : Nat) : Int) - ((q % 2 : Nat) : Int)) (((p / 2 : Nat) : Int) - ((q / 2 : Nat) : Int)))
def sp_wi (r : Nat → Int) (P : Nat) : Int := sm (fun p => sm (fun q => sp_wf r p q) P) P
theorem sp_vp_1 (r : Nat → Int) (L : List Nat) (x y : Int) : sp_vp r L x y 1 = sp_v1 r L x y := by
  funext i
  simp [sp_vp, sp_v1, sm]
theorem sp_vp_4 (r : Nat → Int) (L : List Nat) (x y : Int) : sp_vp r L x y 4 = sp_vb r L x y := rfl
theorem sp_wi_1 (r : Nat → Int) : sp_wi r 1 = 0 := by
  simp [sp_wi, sm, sp_wf, sp_fr, sp_unl]
theorem sp_wi_4 (r : Nat → Int) : sp_wi r 4 = sp_inn r := by
  simp [sp_wi, sp_inn, sm, sp_wf]
  omega
theorem sp_wf_rg {r : Nat → Int} (hr : vR r) {p q : Nat} (hp : p < 4) (hq : q < 4) : 0 ≤ sp_wf r p q ∧ sp_wf r p q ≤ 189 := sp_unl_rg hr (sp_fr_rg2 (by omega) (by omega)).1
theorem sp_wi_rg {r : Nat → Int} (hr : vR r) {P : Nat} (hP : P ≤ 4) : 0 ≤ sp_wi r P ∧ sp_wi r P ≤ 3024 := by
  have h := sm_rgN (f := fun p => sm (fun q => sp_wf r p q) P) (A := 756) P (fun i hi => by
    have h2 := sm_rgN (f := fun q => sp_wf r i q) (A := 189) P (fun j hj => sp_wf_rg hr (by omega) (by omega))
    have h3 := mul_rg (a := (P : Int)) (b := 189) (A := 4) (B := 189) (by omega) (by omega)
    omega)
  have h3 := mul_rg (a := (P : Int)) (b := 756) (A := 4) (B := 756) (by omega) (by omega)
  unfold sp_wi
  omega
theorem okV_vp {r : Nat → Int} (hr : vR r) {L : List Nat} (hok : okL r L) {x y : Int} {P : Nat} (hx : 0 ≤ x ∧ x ≤ 31) (hy : 0 ≤ y ∧ y ≤ 31) (hP : 1 ≤ P ∧ P ≤ 4) : okV L.length (sp_vp r L x y P) (P : Int) := ⟨by omega, fun i hi => by
  have h := sm_rgN (f := fun k => sp_ut r (L.getD i 0) (x + ((k % 2 : Nat) : Int)) (y + ((k / 2 : Nat) : Int))) (A := 189) P (fun k hk => sp_ut_rg hr (okL_get hok hi) (by omega) (by omega))
  have e : (P : Int) * 189 = 189 * (P : Int) := Int.mul_comm _ _
  unfold sp_vp
  omega⟩
theorem snd_eq {U : Nat → Nat → Int} (hU : symU U) {m : Nat} (h1 : 1 ≤ m) (h4 : m ≤ 4) : (0 < kB U m 0 0 ∧ 0 < kN (kB U m) 2 2 ∧ 0 < kD (kB U m)) ↔ sp_sk U m := by
  have c1 : sp_c1 U 1 ↔ True := by
    unfold sp_c1
    rw [if_neg (by omega), den_1 U hU]
    simp [sg, kD, kN, kB]
  have c2 : sp_c1 U 2 ↔ 0 < kD (kB U 2) := by
    unfold sp_c1
    rw [if_pos (by omega), den_2 U hU]
    simp [sg]
  have c3 : sp_c1 U 3 ↔ 0 < kD (kB U 3) := by
    unfold sp_c1
    rw [if_neg (by omega), den_3 U hU, show sg 3 = -1 from rfl]
    omega
  have c4 : sp_c1 U 4 ↔ 0 < kD (kB U 4) := by
    unfold sp_c1
    rw [if_pos (by omega), den_4 U hU]
    simp [sg]
  rcases (show m = 1 ∨ m = 2 ∨ m = 3 ∨ m = 4 by omega) with rfl | rfl | rfl | rfl
  · show _ ↔ (True ∧ sp_c1 U 1)
    rw [c1]
    simp [kD, kN, kB]
  · show _ ↔ ((True ∧ sp_c1 U 1) ∧ sp_c1 U 2)
    rw [c1, c2]
    simp [kD, kN, kB]
  · show _ ↔ (((True ∧ sp_c1 U 1) ∧ sp_c1 U 2) ∧ sp_c1 U 3)
    rw [c1, c2, c3]
    simp [kD, kN, kB]
    grind
  · show _ ↔ ((((True ∧ sp_c1 U 1) ∧ sp_c1 U 2) ∧ sp_c1 U 3) ∧ sp_c1 U 4)
    rw [c1, c2, c3, c4]
    simp [kD, kN, kB]
    grind
def eOK (r : Nat → Int) (L : List Nat) (v : Nat → Int) (p inn : Int) (lk : Nat → Int) (cnt snd : Int) (pt bt tps : Nat → Int) (wp pl wh : Int) : Prop := isL L lk cnt ∧ pl = p ∧ snd = zB (sp_sk (sp_uu r L) L.length) ∧ (L.length = 0 → wh = 0) ∧ (1 ≤ L.length → wh = tB (nD r L) ∧ (∀ j, j < 4 → pt j = tA (nP r L v p j) (nD r L)) ∧ (∀ i j, i < L.length → j < L.length → bt (4 * i + j) = sp_uu r L i j) ∧ (∀ i, i < L.length → tps i = v i) ∧ wp = inn)
theorem eEx {r : Nat → Int} {L : List Nat} {v : Nat → Int} {p inn : Int} {lk : Nat → Int} {cnt snd : Int} {pt bt tps : Nat → Int} {wp pl wh : Int} (h : eOK r L v p inn lk cnt snd pt bt tps wp pl wh) : wh ≠ 0 ↔ gEx r L := by
  obtain ⟨h1, h2, h3, h4, h5⟩ := h
  unfold gEx
  rcases Nat.eq_zero_or_pos L.length with q | q
  · rw [h4 q]; omega
  · rw [(h5 q).1]
    unfold tB
    omega
theorem eWh {r : Nat → Int} (hr : vR r) {L : List Nat} (hok : okL r L) {v : Nat → Int} {p inn : Int} {lk : Nat → Int} {cnt snd : Int} {pt bt tps : Nat → Int} {wp pl wh : Int} (h : eOK r L v p inn lk cnt snd pt bt tps wp pl wh) : 0 ≤ wh ∧ wh ≤ 324060912 := by
  obtain ⟨h1, h2, h3, h4, h5⟩ := h
  have hd := nD_rg hr hok
  rcases Nat.eq_zero_or_pos L.length with q | q
  · rw [h4 q]; omega
  · rw [(h5 q).1]
    unfold tB
    omega
/-- the sign that is turned -/
def sgT (b : Int) : Int := if b < 0 then -1 else 1
theorem tA_sg (a b : Int) : tA a b = sgT b * a := by unfold tA sgT; split <;> omega
theorem tB_sg (b : Int) : tB b = sgT b * b := by unfold tB sgT; split <;> omega
theorem sum_sg {f g : Nat → Int} {b : Int} (n : Nat) (h : ∀ i, i < n → f i = sgT b * g i) : sm f n = sgT b * sm g n := by
  rw [← sm_mul]; exact sm_congr n h
theorem gA_eq {r : Nat → Int} {L : List Nat} {v : Nat → Int} {p : Int} {pt : Nat → Int} (h4 : L.length ≤ 4) (h : ∀ j, j < 4 → pt j = tA (nP r L v p j) (nD r L)) : sm (fun j => pt j * r (12 + 3 * L.getD j 0)) L.length = tA (nG r L v p) (nD r L) := by
  rw [tA_sg]
  unfold nG
  apply sum_sg
  intro i hi
  rw [h i (by omega), tA_sg, Int.mul_assoc]
theorem fA_eq {r : Nat → Int} {L : List Nat} {v : Nat → Int} {p : Int} {pt bt tps : Nat → Int} {wh : Int} (h4 : L.length ≤ 4) (h1 : 1 ≤ L.length) (hw : wh = tB (nD r L)) (h : ∀ j, j < 4 → pt j = tA (nP r L v p j) (nD r L)) (hb : ∀ i j, i < L.length → j < L.length → bt (4 * i + j) = sp_uu r L i j) (ht : ∀ i, i < L.length → tps i = v i) : tps 0 * wh - sm (fun i => pt (i + 1) * bt (4 * 0 + (i + 1))) (L.length - 1) = tA (nF r L v p) (nD r L) := by
  rw [tA_sg]
  unfold nF kF
  rw [ht 0 (by omega), hw, tB_sg, sum_sg (b := nD r L) (g := fun i => nP r L v p (i + 1) * sp_uu r L 0 (i + 1)) (L.length - 1) (fun i hi => by rw [h (i + 1) (by omega), hb 0 (i + 1) (by omega) (by omega), tA_sg, Int.mul_assoc])]
  grind
theorem sA_eq {r : Nat → Int} {L : List Nat} {v : Nat → Int} {p inn : Int} {pt tps : Nat → Int} {wh fl : Int} (h4 : L.length ≤ 4) (hw : wh = tB (nD r L)) (hf : fl = tA (nF r L v p) (nD r L)) (h : ∀ j, j < 4 → pt j = tA (nP r L v p j) (nD r L)) (ht : ∀ i, i < L.length → tps i = v i) : p * fl - inn * wh + sm (fun j => pt j * tps j) L.length = tA (nS r L v p inn) (nD r L) := by
  rw [tA_sg]
  unfold nS
  rw [hw, hf, tA_sg, tB_sg, sum_sg (b := nD r L) (g := fun i => nP r L v p i * v i) L.length (fun i hi => by rw [h i (by omega), ht i hi, tA_sg, Int.mul_assoc])]
  grind
/-- lowest terms of what is turned -/
theorem low_top {a b P : Int} (hP : 0 < P) : sp_top (tA a b) (P * tB b) = sp_top a (P * b) := by
  unfold sp_top
  have hPB : ¬ P * tB b < 0 := by
    have : 0 ≤ P * tB b := Int.mul_nonneg (Int.le_of_lt hP) (by unfold tB; omega)
    omega
  rw [if_neg hPB]
  by_cases h : b < 0
  · have h2 : P * b < 0 := Int.mul_neg_of_pos_of_neg hP h
    rw [if_pos h2]
    unfold tA tB
    rw [if_pos h, show max b (-b) = -b by omega, Int.mul_neg, Int.gcd_neg, Int.neg_gcd]
  · have h2 : ¬ P * b < 0 := by
      have : 0 ≤ P * b := Int.mul_nonneg (Int.le_of_lt hP) (by omega)
      omega
    rw [if_neg h2]
    unfold tA tB
    rw [if_neg h, show max b (-b) = b by omega]
theorem low_bot {a b P : Int} (hP : 0 < P) : sp_bot (tA a b) (P * tB b) = sp_bot a (P * b) := by
  unfold sp_bot
  by_cases h : b < 0
  · unfold tA tB
    rw [if_pos h, show max b (-b) = -b by omega, Int.mul_neg, Int.gcd_neg, Int.neg_gcd, show max (-(P * b)) (- -(P * b)) = max (P * b) (-(P * b)) by omega]
  · unfold tA tB
    rw [if_neg h, show max b (-b) = b by omega]
/-- Euclid's steps are fewer than a hundred -/
theorem cd_pot {a b : Int} {t : Nat} (ha : 0 ≤ a) (hb : 0 < b) (h : t = 0 ∧ b ≤ 2 ^ 40 ∨ (b ≤ a ∧ a * b * 2 ^ t ≤ 2 ^ 82)) : t < 100 ∧ (0 < a % b → (a % b ≤ b ∧ b * (a % b) * 2 ^ (t + 1) ≤ 2 ^ 82)) := by
  have h5 := Int.emod_lt_of_pos a hb
  refine ⟨?_, fun hx => ⟨by omega, ?_⟩⟩
  · rcases h with ⟨rfl, _⟩ | ⟨h1, h2⟩
    · omega
    · have k1 : (1 : Int) * 1 ≤ a * b := Int.mul_le_mul (by omega) (by omega) (by omega) (by omega)
      have hp : (0 : Int) ≤ 2 ^ t := Int.pow_nonneg (by omega)
      have k2 : 1 * 2 ^ t ≤ a * b * 2 ^ t := Int.mul_le_mul_of_nonneg_right (by omega) hp
      rcases Nat.lt_or_ge t 100 with q | q
      · exact q
      · exfalso
        have k4 : (2 : Nat) ^ 100 ≤ 2 ^ t := Nat.pow_le_pow_right (by omega) q
        have k5 : ((2 ^ 100 : Nat) : Int) ≤ ((2 ^ t : Nat) : Int) := Int.ofNat_le.mpr k4
        rw [Int.natCast_pow] at k5
        rw [Int.natCast_pow] at k5
        have : ((2 : Nat) : Int) ^ t = 2 ^ t := rfl
        rw [this] at k5
        have k6 : ((2 : Nat) : Int) ^ 100 > 2 ^ 82 := by decide
        omega
  · rcases h with ⟨rfl, h⟩ | ⟨h1, h2⟩
    · have k1 : b * (a % b) ≤ 2 ^ 40 * 2 ^ 40 := Int.mul_le_mul h (by omega) (by omega) (by omega)
      rw [show (0 + 1 : Nat) = 1 from rfl, Int.pow_one]
      omega
    · have h3 := Int.emod_add_mul_ediv a b
      have h6 : 1 ≤ a / b := by
        have := Int.ediv_le_ediv hb h1
        rw [Int.ediv_self (by omega)] at this
        exact this
      have h7 : b * 1 ≤ b * (a / b) := Int.mul_le_mul_of_nonneg_left h6 (Int.le_of_lt hb)
      have h8 : 2 * (a % b) ≤ a := by omega
      have h9 : b * (2 * (a % b)) ≤ b * a := Int.mul_le_mul_of_nonneg_left h8 (Int.le_of_lt hb)
      have hp : (0 : Int) ≤ 2 ^ t := Int.pow_nonneg (by omega)
      have h10 : b * (2 * (a % b)) * 2 ^ t ≤ b * a * 2 ^ t := Int.mul_le_mul_of_nonneg_right h9 hp
      rw [Int.pow_succ]
      have e1 : b * (a % b) * (2 ^ t * 2) = b * (2 * (a % b)) * 2 ^ t := by grind
      have e2 : b * a * 2 ^ t = a * b * 2 ^ t := by rw [Int.mul_comm b a]
      omega
