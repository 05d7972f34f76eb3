/-! ===== the numbers of a guess ===== -/
theorem in_mul {a b A B : Int} (ha : -A ≤ a ∧ a ≤ A) (hb : -B ≤ b ∧ b ≤ B) : -(A * B) ≤ a * b ∧ a * b ≤ A * B := by
  rcases Int.le_total 0 a with h1 | h1 <;> rcases Int.le_total 0 b with h2 | h2
  · have := mul_rg (a := a) (b := b) (A := A) (B := B) ⟨h1, ha.2⟩ ⟨h2, hb.2⟩
    omega
  · have := mul_rg (a := a) (b := -b) (A := A) (B := B) ⟨h1, ha.2⟩ (by omega)
    rw [Int.mul_neg] at this
    omega
  · have := mul_rg (a := -a) (b := b) (A := A) (B := B) (by omega) ⟨h2, hb.2⟩
    rw [Int.neg_mul] at this
    omega
  · have := mul_rg (a := -a) (b := -b) (A := A) (B := B) (by omega) (by omega)
    rw [Int.neg_mul_neg] at this
    omega
def sp_uu (r : Nat → Int) (L : List Nat) (i j : Nat) : Int := sp_ut r (L.getD i 0) (r (10 + 3 * L.getD j 0)) (r (11 + 3 * L.getD j 0))
theorem symU_uu (r : Nat → Int) (L : List Nat) : symU (sp_uu r L) := by
  refine ⟨fun i => ?_, fun i j => ?_⟩
  · unfold sp_uu sp_ut sp_fs sp_far
    rw [Int.sub_self, Int.sub_self]
    have : sp_fr (r 1) 0 0 = 0 := by unfold sp_fr; split <;> rfl
    rw [this]; rfl
  · unfold sp_uu sp_ut sp_fs sp_far
    rw [← sp_fr_neg, Int.neg_sub, Int.neg_sub]
theorem sp_ut_rg {r : Nat → Int} (hr : vR r) {i : Nat} (hi : (i : Int) < r 0) {x y : Int} (hx : 0 ≤ x ∧ x ≤ 32) (hy : 0 ≤ y ∧ y ≤ 32) : 0 ≤ sp_ut r i x y ∧ sp_ut r i x y ≤ 189 := by
  have h := hr.2.2.2.2.2.2.2.2.2.2 i hi
  exact sp_unl_rg hr (sp_fr_rg2 (by omega) (by omega)).1
theorem sp_uu_rg {r : Nat → Int} (hr : vR r) {L : List Nat} (hok : okL r L) {i j : Nat} (hi : i < L.length) (hj : j < L.length) : 0 ≤ sp_uu r L i j ∧ sp_uu r L i j ≤ 189 := by
  have g1 := okL_get hok hi
  have g2 := okL_get hok hj
  have q := hr.2.2.2.2.2.2.2.2.2.2 _ g2
  exact sp_ut_rg hr g1 (by omega) (by omega)
theorem sp_tab_rg {r : Nat → Int} (hr : vR r) {L : List Nat} (hok : okL r L) {k i j : Nat} (hk : k ≤ L.length) (hi : i ≤ k) (hj : j ≤ k) : 0 ≤ sp_tab (sp_uu r L) k i j ∧ sp_tab (sp_uu r L) k i j ≤ 189 := by
  unfold sp_tab
  split
  · split <;> omega
  · exact sp_uu_rg hr hok (by omega) (by omega)
def nD (r : Nat → Int) (L : List Nat) : Int := kD (kB (sp_uu r L) L.length)
def nP (r : Nat → Int) (L : List Nat) (v : Nat → Int) (p : Int) : Nat → Int := kP (kB (sp_uu r L) L.length) (kw (sp_uu r L) v p L.length) p
def nF (r : Nat → Int) (L : List Nat) (v : Nat → Int) (p : Int) : Int := kF (sp_uu r L) v L.length (nD r L) (nP r L v p)
def nG (r : Nat → Int) (L : List Nat) (v : Nat → Int) (p : Int) : Int := sm (fun j => nP r L v p j * r (12 + 3 * L.getD j 0)) L.length
def nS (r : Nat → Int) (L : List Nat) (v : Nat → Int) (p inn : Int) : Int := p * nF r L v p - inn * nD r L + sm (fun j => nP r L v p j * v j) L.length
theorem den_eq {r : Nat → Int} {L : List Nat} (h1 : 1 ≤ L.length) (h4 : L.length ≤ 4) : sp_dt (sp_tab (sp_uu r L) L.length) (L.length + 1) = sg L.length * nD r L := by
  unfold nD
  have hU := symU_uu r L
  generalize sp_uu r L = U at hU ⊢
  generalize L.length = m at h1 h4 ⊢
  rcases (show m = 1 ∨ m = 2 ∨ m = 3 ∨ m = 4 by omega) with rfl | rfl | rfl | rfl
  · exact den_1 U hU
  · exact den_2 U hU
  · exact den_3 U hU
  · exact den_4 U hU
theorem num_eq {r : Nat → Int} {L : List Nat} {v : Nat → Int} {p : Int} (h1 : 1 ≤ L.length) (h4 : L.length ≤ 4) (hp : v L.length = p) {j : Nat} (hj : j < L.length) : sp_dt (sp_rep (sp_tab (sp_uu r L) L.length) v j) (L.length + 1) = sg L.length * nP r L v p j := by
  unfold nP
  have hU := symU_uu r L
  generalize sp_uu r L = U at hU ⊢
  generalize L.length = m at h1 h4 hp hj ⊢
  rcases (show m = 1 ∨ m = 2 ∨ m = 3 ∨ m = 4 by omega) with rfl | rfl | rfl | rfl
  · rcases (show j = 0 by omega) with rfl
    exact num_1_0 U v p hU hp
  · rcases (show j = 0 ∨ j = 1 by omega) with rfl | rfl
    · exact num_2_0 U v p hU hp
    · exact num_2_1 U v p hU hp
  · rcases (show j = 0 ∨ j = 1 ∨ j = 2 by omega) with rfl | rfl | rfl
    · exact num_3_0 U v p hU hp
    · exact num_3_1 U v p hU hp
    · exact num_3_2 U v p hU hp
  · rcases (show j = 0 ∨ j = 1 ∨ j = 2 ∨ j = 3 by omega) with rfl | rfl | rfl | rfl
    · exact num_4_0 U v p hU hp
    · exact num_4_1 U v p hU hp
    · exact num_4_2 U v p hU hp
    · exact num_4_3 U v p hU hp
theorem flo_eq {r : Nat → Int} {L : List Nat} {v : Nat → Int} {p : Int} (h1 : 1 ≤ L.length) (h4 : L.length ≤ 4) (hp : v L.length = p) : sp_dt (sp_rep (sp_tab (sp_uu r L) L.length) v L.length) (L.length + 1) = sg L.length * nF r L v p := by
  unfold nF nP nD
  have hU := symU_uu r L
  generalize sp_uu r L = U at hU ⊢
  generalize L.length = m at h1 h4 hp ⊢
  rcases (show m = 1 ∨ m = 2 ∨ m = 3 ∨ m = 4 by omega) with rfl | rfl | rfl | rfl
  · exact flo_1 U v p hU hp
  · exact flo_2 U v p hU hp
  · exact flo_3 U v p hU hp
  · exact flo_4 U v p hU hp
/-! ===== how large they can be ===== -/
def bdU (U : Nat → Nat → Int) (m : Nat) : Prop := ∀ i j, i < m → j < m → 0 ≤ U i j ∧ U i j ≤ 189
theorem kB_rg {U : Nat → Nat → Int} {m : Nat} (h : bdU U m) (i j : Nat) : -378 ≤ kB U m i j ∧ kB U m i j ≤ 378 := by
  unfold kB
  split
  · rename_i hc
    have a := h 0 (i + 1) (by omega) hc.1
    have b := h 0 (j + 1) (by omega) hc.2
    have d := h (i + 1) (j + 1) hc.1 hc.2
    omega
  · split <;> omega
theorem kN_rg {B : Nat → Nat → Int} (h : ∀ i j, -378 ≤ B i j ∧ B i j ≤ 378) (i j : Nat) : -285768 ≤ kN B i j ∧ kN B i j ≤ 285768 := by
  have a := in_mul (h (if i = 0 then 1 else 0) (if j = 0 then 1 else 0)) (h (if i = 2 then 1 else 2) (if j = 2 then 1 else 2))
  have b := in_mul (h (if i = 0 then 1 else 0) (if j = 2 then 1 else 2)) (h (if i = 2 then 1 else 2) (if j = 0 then 1 else 0))
  unfold kN
  split <;> omega
theorem kD_rg {B : Nat → Nat → Int} (h : ∀ i j, -378 ≤ B i j ∧ B i j ≤ 378) : -324060912 ≤ kD B ∧ kD B ≤ 324060912 := by
  have a := in_mul (h 0 0) (kN_rg h 0 0)
  have b := in_mul (h 0 1) (kN_rg h 0 1)
  have d := in_mul (h 0 2) (kN_rg h 0 2)
  unfold kD
  omega
theorem kw_rg {U : Nat → Nat → Int} {m : Nat} (h : bdU U m) {v : Nat → Int} {p : Int} (hp : 1 ≤ p ∧ p ≤ 4) (hv : ∀ i, i < m → 0 ≤ v i ∧ v i ≤ 189 * p) (i : Nat) : -1512 ≤ kw U v p m i ∧ kw U v p m i ≤ 1512 := by
  unfold kw
  split
  · rename_i hc
    have a := h 0 (i + 1) (by omega) hc
    have b := hv 0 (by omega)
    have d := hv (i + 1) hc
    have e := mul_rg (a := p) (b := U 0 (i + 1)) (A := 4) (B := 189) (by omega) a
    omega
  · omega
theorem kq_rg {B : Nat → Nat → Int} (h : ∀ i j, -378 ≤ B i j ∧ B i j ≤ 378) {wn : Nat → Int} (hw : ∀ i, -1512 ≤ wn i ∧ wn i ≤ 1512) (j : Nat) : -1296243648 ≤ kq B wn j ∧ kq B wn j ≤ 1296243648 := by
  have a := in_mul (hw 0) (kN_rg h 0 j)
  have b := in_mul (hw 1) (kN_rg h 1 j)
  have d := in_mul (hw 2) (kN_rg h 2 j)
  unfold kq
  omega
theorem kP_rg {B : Nat → Nat → Int} (h : ∀ i j, -378 ≤ B i j ∧ B i j ≤ 378) {wn : Nat → Int} (hw : ∀ i, -1512 ≤ wn i ∧ wn i ≤ 1512) {p : Int} (hp : 1 ≤ p ∧ p ≤ 4) (j : Nat) : -6000000000 ≤ kP B wn p j ∧ kP B wn p j ≤ 6000000000 := by
  cases j with
  | zero =>
    have a := in_mul (a := p) (A := 4) (by omega) (kD_rg h)
    have b := kq_rg h hw 0
    have d := kq_rg h hw 1
    have e := kq_rg h hw 2
    simp only [kP]
    omega
  | succ j =>
    have a := kq_rg h hw j
    simp only [kP]
    omega
theorem bdU_uu {r : Nat → Int} (hr : vR r) {L : List Nat} (hok : okL r L) : bdU (sp_uu r L) L.length := fun _ _ hi hj => sp_uu_rg hr hok hi hj
theorem nD_rg {r : Nat → Int} (hr : vR r) {L : List Nat} (hok : okL r L) : -324060912 ≤ nD r L ∧ nD r L ≤ 324060912 := kD_rg (kB_rg (bdU_uu hr hok))
/-- the right sides of a guess: to p places -/
def okV (m : Nat) (v : Nat → Int) (p : Int) : Prop := (1 ≤ p ∧ p ≤ 4) ∧ ∀ i, i < m → 0 ≤ v i ∧ v i ≤ 189 * p
theorem nP_rg {r : Nat → Int} (hr : vR r) {L : List Nat} (hok : okL r L) {v : Nat → Int} {p : Int} (hv : okV L.length v p) (j : Nat) : -6000000000 ≤ nP r L v p j ∧ nP r L v p j ≤ 6000000000 := kP_rg (kB_rg (bdU_uu hr hok)) (kw_rg (bdU_uu hr hok) hv.1 hv.2) hv.1 j
theorem sm_rg {f : Nat → Int} {A : Int} (hA : 0 ≤ A) : ∀ (n : Nat), (∀ i, i < n → -A ≤ f i ∧ f i ≤ A) → n ≤ 4 → -(4 * A) ≤ sm f n ∧ sm f n ≤ 4 * A := by
  intro n h hn
  have k : ∀ k, k ≤ n → -(k * A) ≤ sm f k ∧ sm f k ≤ k * A := by
    intro k
    induction k with
    | zero => intro _; simp [sm]
    | succ k ih =>
      intro hk
      have a := ih (by omega)
      have b := h k (by omega)
      unfold sm
      push_cast
      rw [Int.add_mul, Int.one_mul]
      omega
  have a := k n (Nat.le_refl n)
  have b := mul_rg (a := (n : Int)) (b := A) (A := 4) (B := A) (by omega) (by omega)
  omega
theorem nF_rg {r : Nat → Int} (hr : vR r) {L : List Nat} (hok : okL r L) (h1 : 1 ≤ L.length) {v : Nat → Int} {p : Int} (hv : okV L.length v p) : -10000000000000 ≤ nF r L v p ∧ nF r L v p ≤ 10000000000000 := by
  have h4 := okL_le hr hok
  have a := in_mul (a := v 0) (A := 756) (by have := hv.2 0 (by omega); have := hv.1; omega) (nD_rg hr hok)
  have b := sm_rg (f := fun i => nP r L v p (i + 1) * sp_uu r L 0 (i + 1)) (A := 6000000000 * 189) (by omega) (L.length - 1) (fun i hi => in_mul (nP_rg hr hok hv (i + 1)) (by have := sp_uu_rg hr hok (i := 0) (j := i + 1) (by omega) (by omega); omega)) (by omega)
  unfold nF kF
  omega
theorem nG_rg {r : Nat → Int} (hr : vR r) {L : List Nat} (hok : okL r L) {v : Nat → Int} {p : Int} (hv : okV L.length v p) : -40000000000000 ≤ nG r L v p ∧ nG r L v p ≤ 40000000000000 := by
  have h4 := okL_le hr hok
  have b := sm_rg (f := fun j => nP r L v p j * r (12 + 3 * L.getD j 0)) (A := 6000000000 * 999) (by omega) L.length (fun i hi => in_mul (nP_rg hr hok hv i) (by have := hr.2.2.2.2.2.2.2.2.2.2 _ (okL_get hok hi); omega)) h4
  unfold nG
  omega
theorem nS_rg {r : Nat → Int} (hr : vR r) {L : List Nat} (hok : okL r L) (h1 : 1 ≤ L.length) {v : Nat → Int} {p inn : Int} (hv : okV L.length v p) (hi : 0 ≤ inn ∧ inn ≤ 10000) : -100000000000000 ≤ nS r L v p inn ∧ nS r L v p inn ≤ 100000000000000 := by
  have h4 := okL_le hr hok
  have a := in_mul (a := p) (A := 4) (by have := hv.1; omega) (nF_rg hr hok h1 hv)
  have d := in_mul (a := inn) (A := 10000) (by omega) (nD_rg hr hok)
  have b := sm_rg (f := fun j => nP r L v p j * v j) (A := 6000000000 * 756) (by omega) L.length (fun i hi => in_mul (nP_rg hr hok hv i) (by have := hv.2 i hi; have := hv.1; omega)) h4
  unfold nS
  omega
/-! ===== fractions in lowest terms ===== -/
def sp_top (a b : Int) : Int := (if b < 0 then -a else a).tdiv (Int.gcd a b : Int)
def sp_bot (a b : Int) : Int := (max b (-b)).tdiv (Int.gcd a b : Int)
theorem sp_top_neg {a b : Int} (hb : b ≠ 0) : sp_top (-a) (-b) = sp_top a b := by
  unfold sp_top
  rw [Int.gcd_neg, Int.neg_gcd]
  by_cases h : b < 0
  · rw [if_pos h, if_neg (by omega)]
  · rw [if_neg h, if_pos (by omega), Int.neg_neg]
theorem sp_bot_neg (a b : Int) : sp_bot (-a) (-b) = sp_bot a b := by
  unfold sp_bot
  rw [Int.gcd_neg, Int.neg_gcd, show max (-b) (- -b) = max b (-b) by omega]
theorem sg_cases (m : Nat) : sg m = 1 ∨ sg m = -1 := by unfold sg; split <;> simp
theorem sp_top_sg {a b : Int} (m : Nat) (hb : b ≠ 0) : sp_top (sg m * a) (sg m * b) = sp_top a b := by
  rcases sg_cases m with h | h
  · rw [h, Int.one_mul, Int.one_mul]
  · rw [h, Int.neg_one_mul, Int.neg_one_mul]; exact sp_top_neg hb
theorem sp_bot_sg (a b : Int) (m : Nat) : sp_bot (sg m * a) (sg m * b) = sp_bot a b := by
  rcases sg_cases m with h | h
  · rw [h, Int.one_mul, Int.one_mul]
  · rw [h, Int.neg_one_mul, Int.neg_one_mul]; exact sp_bot_neg a b
theorem sg_mul_ne {m : Nat} {b : Int} : sg m * b ≠ 0 ↔ b ≠ 0 := by
  rcases sg_cases m with h | h <;> rw [h] <;> omega
theorem bt_or (a b : Nat) : iI (a : Int) ||| iI (b : Int) = iI ((a ||| b : Nat) : Int) := by
  apply Int32.toBitVec_inj.1
  show BitVec.ofInt 32 (a : Int) ||| BitVec.ofInt 32 (b : Int) = BitVec.ofInt 32 ((a ||| b : Nat) : Int)
  rw [BitVec.ofInt_natCast, BitVec.ofInt_natCast, BitVec.ofInt_natCast]
  apply BitVec.eq_of_getLsbD_eq
  intro i hi
  simp [hi]
/-- a set of samples: those of the first n that are meant -/
def sp_sets (t : Nat → Prop) [DecidablePred t] (L : List Nat) : Nat → Nat
  | 0 => 0
  | n + 1 => sp_sets t L n ||| (if t n then 2 ^ (L.getD n 0) else 0)
/-- is it sound: the determinants of the first ones turn their signs -/
def sp_c1 (U : Nat → Nat → Int) (k : Nat) : Prop := if k % 2 = 0 then 0 < sp_dt (sp_tab U k) (k + 1) else sp_dt (sp_tab U k) (k + 1) < 0
def sp_sk (U : Nat → Nat → Int) : Nat → Prop
  | 0 => True
  | k + 1 => sp_sk U k ∧ sp_c1 U (k + 1)
noncomputable def zB (P : Prop) : Int := @ite Int P (Classical.propDecidable P) 1 0
theorem zB_t {P : Prop} (h : P) : zB P = 1 := by unfold zB; rw [if_pos h]
theorem zB_f {P : Prop} (h : ¬ P) : zB P = 0 := by unfold zB; rw [if_neg h]
theorem zB_rg (P : Prop) : 0 ≤ zB P ∧ zB P ≤ 1 := by unfold zB; split <;> omega
theorem zB_01 (P : Prop) : zB P = 0 ∨ zB P = 1 := by unfold zB; split <;> simp
theorem zB_n0 {P : Prop} (h : ¬ zB P = 0) : P := Classical.byContradiction fun q => h (zB_f q)
theorem zB_e0 {P : Prop} (h : zB P = 0) : ¬ P := fun q => by rw [zB_t q] at h; omega
theorem zB_zb {P : Prop} [Decidable P] : zB P = zb P := by by_cases h : P; rw [zB_t h, zb_t h]; rw [zB_f h, zb_f h]
theorem zB_iff {P Q : Prop} (h : P ↔ Q) : zB P = zB Q := by rw [show P = Q from propext h]
theorem dt_rg {r : Nat → Int} (hr : vR r) {L : List Nat} (hok : okL r L) {k : Nat} (hk : 1 ≤ k) (hk2 : k ≤ L.length) : -324060912 ≤ sp_dt (sp_tab (sp_uu r L) k) (k + 1) ∧ sp_dt (sp_tab (sp_uu r L) k) (k + 1) ≤ 324060912 := by
  have h4 := okL_le hr hok
  have hU := symU_uu r L
  have hb : bdU (sp_uu r L) k := fun i j hi hj => sp_uu_rg hr hok (by omega) (by omega)
  generalize sp_uu r L = U at hU hb ⊢
  have hd := kD_rg (kB_rg hb)
  have e : sp_dt (sp_tab U k) (k + 1) = sg k * kD (kB U k) := by
    rcases (show k = 1 ∨ k = 2 ∨ k = 3 ∨ k = 4 by omega) with rfl | rfl | rfl | rfl
    · exact den_1 U hU
    · exact den_2 U hU
    · exact den_3 U hU
    · exact den_4 U hU
  rw [e]
  rcases sg_cases k with h | h <;> rw [h] <;> omega
theorem sm_congr {f g : Nat → Int} : ∀ (n : Nat), (∀ i, i < n → f i = g i) → sm f n = sm g n := by
  intro n
  induction n with
  | zero => intro _; rfl
  | succ n ih => intro h; rw [sm, sm, ih (fun i hi => h i (by omega)), h n (by omega)]
theorem sm_mul (c : Int) (f : Nat → Int) : ∀ (n : Nat), sm (fun i => c * f i) n = c * sm f n := by
  intro n
  induction n with
  | zero => simp [sm]
  | succ n ih => rw [sm, sm, ih, Int.mul_add]
/-- what a guess leaves behind in the reference: right sides, scale, determinants -/
def gOK (r : Nat → Int) (L : List Nat) (v : Nat → Int) (p : Int) (rt ups : Nat → Int) (bel scl : Int) : Prop := (∀ i, i < L.length → rt i = v i) ∧ scl = p ∧ bel = sg L.length * nD r L ∧ (∀ j, j < L.length → ups j = sg L.length * nP r L v p j) ∧ ups L.length = sg L.length * nF r L v p
def gEx (r : Nat → Int) (L : List Nat) : Prop := 1 ≤ L.length ∧ nD r L ≠ 0
theorem kw_congr {U : Nat → Nat → Int} {v v2 : Nat → Int} {p : Int} {m : Nat} (h : ∀ i, i < m → v i = v2 i) : kw U v p m = kw U v2 p m := by
  funext i
  unfold kw
  split
  · rename_i hc
    rw [h 0 (by omega), h (i + 1) hc]
  · rfl
theorem nP_congr {r : Nat → Int} {L : List Nat} {v v2 : Nat → Int} {p : Int} (h : ∀ i, i < L.length → v i = v2 i) : nP r L v p = nP r L v2 p := by
  unfold nP; rw [kw_congr h]
theorem nF_congr {r : Nat → Int} {L : List Nat} {v v2 : Nat → Int} {p : Int} (h1 : 1 ≤ L.length) (h : ∀ i, i < L.length → v i = v2 i) : nF r L v p = nF r L v2 p := by
  unfold nF kF; rw [nP_congr h, h 0 (by omega)]
