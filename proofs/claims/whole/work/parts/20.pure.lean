/-! ===== the class: bits, keys, the nearest ===== -/
theorem iI_nI (n : Nat) : iI (n : Int) = nI n := by
  apply Int32.toBitVec_inj.1
  show BitVec.ofInt 32 (n : Int) = BitVec.ofNat 32 n
  rw [BitVec.ofInt_natCast]
theorem bt_sm : ∀ k, k < 12 → ((iI ((k : Nat) : Int) &&& 31).toBitVec.smod 32).toNat = k := by decide
theorem bt_shrG {a k : Nat} (ha : a < 2147483648) (hk : k < 12) : (iI (a : Int) >>> (iI (k : Int) &&& 31)) = iI ((a / 2 ^ k : Nat) : Int) := by
  rw [iI_nI a, iI_nI (a / 2 ^ k)]
  exact pk_shrN (by omega) _ k (bt_sm k hk)
theorem bt_andG {a : Nat} (ha : a < 2147483648) : (iI (a : Int) &&& iI 1) = iI ((a % 2 : Nat) : Int) := by
  rw [iI_nI a, iI_nI (a % 2)]
  exact pk_andN (by omega) 1 (by decide)
/-- the nearest that isn't passed: n to be looked at from i on, nr the best so far, lt how far it is -/
def sp_nb (f : Nat → Int) (ps : Nat) : Nat → Nat → Int → Int → Int
  | 0, _, nr, _ => nr
  | n + 1, i, nr, lt => if f i < lt ∧ (ps / 2 ^ i) % 2 = 0 then sp_nb f ps n (i + 1) (i : Int) (f i) else sp_nb f ps n (i + 1) nr lt
theorem sp_nb_spec (f : Nat → Int) (ps : Nat) : ∀ (n i : Nat) (nr lt : Int), (sp_nb f ps n i nr lt = nr ∧ ∀ j, i ≤ j → j < i + n → (ps / 2 ^ j) % 2 = 0 → lt ≤ f j) ∨ (∃ a : Nat, sp_nb f ps n i nr lt = (a : Int) ∧ i ≤ a ∧ a < i + n ∧ (ps / 2 ^ a) % 2 = 0 ∧ f a < lt ∧ ∀ j, i ≤ j → j < i + n → (ps / 2 ^ j) % 2 = 0 → f a < f j ∨ (f a = f j ∧ a ≤ j)) := by
  intro n
  induction n with
  | zero => intro i nr lt; exact Or.inl ⟨rfl, fun j h1 h2 => by omega⟩
  | succ n ih =>
    intro i nr lt
    unfold sp_nb
    split
    · rename_i hc
      rcases ih (i + 1) (i : Int) (f i) with ⟨h1, h2⟩ | ⟨a, h1, h2, h3, h4, h5, h6⟩
      · refine Or.inr ⟨i, h1, by omega, by omega, hc.2, hc.1, fun j k1 k2 k3 => ?_⟩
        by_cases e : j = i
        · subst e; exact Or.inr ⟨rfl, Nat.le_refl j⟩
        · have := h2 j (by omega) (by omega) k3
          omega
      · refine Or.inr ⟨a, h1, by omega, by omega, h4, by omega, fun j k1 k2 k3 => ?_⟩
        by_cases e : j = i
        · subst e; exact Or.inl h5
        · exact h6 j (by omega) (by omega) k3
    · rename_i hc
      rcases ih (i + 1) nr lt with ⟨h1, h2⟩ | ⟨a, h1, h2, h3, h4, h5, h6⟩
      · refine Or.inl ⟨h1, fun j k1 k2 k3 => ?_⟩
        by_cases e : j = i
        · subst e; omega
        · exact h2 j (by omega) (by omega) k3
      · refine Or.inr ⟨a, h1, by omega, by omega, h4, h5, fun j k1 k2 k3 => ?_⟩
        by_cases e : j = i
        · subst e; left; omega
        · exact h6 j (by omega) (by omega) k3
theorem sp_nb_rg {f : Nat → Int} {ps n i : Nat} {nr lt : Int} (h : -1 ≤ nr ∧ nr < 10) (hn : i + n ≤ 10) : -1 ≤ sp_nb f ps n i nr lt ∧ sp_nb f ps n i nr lt < 10 := by
  rcases sp_nb_spec f ps n i nr lt with ⟨h1, -⟩ | ⟨a, h1, h2, h3, -⟩ <;> rw [h1] <;> omega
theorem sp_nb_congr {f g : Nat → Int} (ps : Nat) : ∀ (n i : Nat) (nr lt : Int), (∀ j, i ≤ j → j < i + n → f j = g j) → sp_nb f ps n i nr lt = sp_nb g ps n i nr lt := by
  intro n
  induction n with
  | zero => intro i nr lt _; rfl
  | succ n ih =>
    intro i nr lt h
    unfold sp_nb
    rw [h i (by omega) (by omega), ih _ _ _ (fun j h1 h2 => h j (by omega) (by omega)), ih _ _ _ (fun j h1 h2 => h j (by omega) (by omega))]
/-- what has been passed, up to a key -/
def isPs (r : Nat → Int) (x y wo : Int) (ps K : Nat) : Prop := ps < 2048 ∧ ∀ i : Nat, (i : Int) < r 0 → ((ps / 2 ^ i) % 2 = 1 ↔ ((i : Int) = wo ∨ 16 * sp_fs r i x y + (i : Int) < (K : Int)))
theorem sp_run_split {r : Nat → Int} {x y wo : Int} {L : List Nat} : ∀ (d N k : Nat), k + d ≤ N → (∀ j, k ≤ j → j < k + d → sp_one r x y wo j L = L) → sp_run r x y wo (N - k) k L = sp_run r x y wo (N - (k + d)) (k + d) L := by
  intro d
  induction d with
  | zero => intro N k _ _; rfl
  | succ d ih =>
    intro N k hN h
    rw [show N - k = (N - (k + 1)) + 1 by omega, sp_run, h k (by omega) (by omega), ih N (k + 1) (by omega) (fun j h1 h2 => h j (by omega) (by omega)), show k + 1 + d = k + (d + 1) by omega]
theorem one_skip {r : Nat → Int} {x y wo : Int} {L : List Nat} {j : Nat} (h : ((j % 16 : Nat) : Int) < r 0 → ((j % 16 : Nat) : Int) = wo ∨ ¬ sp_fs r (j % 16) x y = ((j / 16 : Nat) : Int)) : sp_one r x y wo j L = L := by
  unfold sp_one
  rw [if_neg]
  rintro ⟨h1, h2, h3⟩
  rcases h h1 with q | q
  · exact h2 q
  · exact q h3
/-- nothing is left: all that is not passed lies beyond the reach -/
theorem run_none {r : Nat → Int} (hr : vR r) {x y wo : Int} {L : List Nat} {ps K N : Nat} (hps : isPs r x y wo ps K) (hN : N = 16 * ((r 9).toNat + 1)) (hK : K ≤ N) (h : ∀ i : Nat, (i : Int) < r 0 → (ps / 2 ^ i) % 2 = 0 → r 9 < sp_fs r i x y) : sp_run r x y wo (N - K) K L = L := by
  have h0 := hr.1
  have h9 := hr.2.2.2.2.2.2.2.2.2.1
  rw [sp_run_split (N - K) N K (by omega) (fun j h1 h2 => one_skip (fun hj => ?_)), show N - (K + (N - K)) = 0 by omega]
  · rfl
  · rcases Nat.mod_two_eq_zero_or_one (ps / 2 ^ (j % 16)) with q | q
    · have := h _ hj q
      right; omega
    · rcases (hps.2 _ hj).mp q with q2 | q2
      · exact Or.inl q2
      · right; omega
/-- the next one: all keys up to its own are passed over -/
theorem run_next {r : Nat → Int} (hr : vR r) {x y wo : Int} {L : List Nat} {ps K N a : Nat} (hps : isPs r x y wo ps K) (hN : N = 16 * ((r 9).toNat + 1)) (hK : K ≤ N) (ha : (a : Int) < r 0) (hp : (ps / 2 ^ a) % 2 = 0) (hf : sp_fs r a x y ≤ r 9) (hf0 : 0 ≤ sp_fs r a x y) (hm : ∀ j : Nat, (j : Int) < r 0 → (ps / 2 ^ j) % 2 = 0 → sp_fs r a x y < sp_fs r j x y ∨ (sp_fs r a x y = sp_fs r j x y ∧ a ≤ j)) :
    16 * (sp_fs r a x y).toNat + a + 1 ≤ N ∧ sp_run r x y wo (N - K) K L = sp_run r x y wo (N - (16 * (sp_fs r a x y).toNat + a + 1)) (16 * (sp_fs r a x y).toNat + a + 1) (sp_st r x y L a) := by
  have h0 := hr.1
  have h9 := hr.2.2.2.2.2.2.2.2.2.1
  have hnp : ¬ ((a : Int) = wo ∨ 16 * sp_fs r a x y + (a : Int) < (K : Int)) := fun q => by have := (hps.2 a ha).mpr q; omega
  obtain ⟨F, hF⟩ : ∃ F : Nat, sp_fs r a x y = (F : Int) := ⟨(sp_fs r a x y).toNat, by omega⟩
  rw [hF] at hf hm hnp ⊢
  rw [Int.toNat_natCast]
  refine ⟨by omega, ?_⟩
  rw [sp_run_split (16 * F + a - K) N K (by omega) (fun j h1 h2 => one_skip (fun hj => ?_)), show K + (16 * F + a - K) = 16 * F + a by omega, sp_run_hit (by omega) (by omega), if_pos ⟨ha, fun q => hnp (Or.inl q), hF⟩, show 16 * F + (a + 1) = 16 * F + a + 1 by omega]
  · rcases Nat.mod_two_eq_zero_or_one (ps / 2 ^ (j % 16)) with q | q
    · have := hm _ hj q
      right; omega
    · rcases (hps.2 _ hj).mp q with q2 | q2
      · exact Or.inl q2
      · right; omega
theorem bit_or {a b i : Nat} : ((a ||| 2 ^ b) / 2 ^ i) % 2 = if i = b then 1 else (a / 2 ^ i) % 2 := by
  have h : ∀ n : Nat, (n / 2 ^ i) % 2 = (n.testBit i).toNat := fun n => by
    rw [Nat.testBit_eq_decide_div_mod_eq]
    rcases Nat.mod_two_eq_zero_or_one (n / 2 ^ i) with q | q <;> simp [q]
  rw [h, h, Nat.testBit_or, Nat.testBit_two_pow]
  by_cases e : i = b
  · subst e; simp
  · have e2 : ¬ b = i := fun q => e q.symm
    simp [e, e2]
theorem isPs_next {r : Nat → Int} {x y wo : Int} {ps K a : Nat} (hps : isPs r x y wo ps K) (ha : (a : Int) < r 0) (ha10 : a < 10) (hp : (ps / 2 ^ a) % 2 = 0) (hf0 : 0 ≤ sp_fs r a x y) (hm : ∀ j : Nat, (j : Int) < r 0 → (ps / 2 ^ j) % 2 = 0 → sp_fs r a x y < sp_fs r j x y ∨ (sp_fs r a x y = sp_fs r j x y ∧ a ≤ j)) : isPs r x y wo (ps ||| 2 ^ a) (16 * (sp_fs r a x y).toNat + a + 1) := by
  have hnp : ¬ ((a : Int) = wo ∨ 16 * sp_fs r a x y + (a : Int) < (K : Int)) := fun q => by have := (hps.2 a ha).mpr q; omega
  refine ⟨?_, fun i hi => ?_⟩
  · have : ps ||| 2 ^ a < 2 ^ 11 := Nat.or_lt_two_pow (by have := hps.1; omega) (Nat.pow_lt_pow_right (by omega) (by omega))
    omega
  · rw [bit_or]
    by_cases e : i = a
    · subst e
      rw [if_pos rfl]
      constructor
      · intro _; right; omega
      · intro _; rfl
    · rw [if_neg e]
      constructor
      · intro q
        rcases (hps.2 i hi).mp q with q2 | q2
        · exact Or.inl q2
        · right; omega
      · intro q
        rcases Nat.mod_two_eq_zero_or_one (ps / 2 ^ i) with q2 | q2
        · exfalso
          have h1 := hm i hi q2
          have h2 : ¬ ((i : Int) = wo ∨ 16 * sp_fs r i x y + (i : Int) < (K : Int)) := fun q3 => by have := (hps.2 i hi).mpr q3; omega
          omega
        · exact q2
theorem isPs_0 {r : Nat → Int} (hr : vR r) {x y wo : Int} (hx : 0 ≤ x ∧ x ≤ 31) (hy : 0 ≤ y ∧ y ≤ 31) (hwo : wo = -1) : isPs r x y wo 0 0 := ⟨by omega, fun i hi => by
  have := sp_fs_rg hr hi hx hy
  rw [Nat.zero_div]
  omega⟩
theorem isPs_w {r : Nat → Int} (hr : vR r) {x y : Int} {a : Nat} (ha : a < 11) (hx : 0 ≤ x ∧ x ≤ 31) (hy : 0 ≤ y ∧ y ≤ 31) : isPs r x y (a : Int) (2 ^ a) 0 := by
  have hp : 2 ^ a < 2 ^ 11 := Nat.pow_lt_pow_right (by omega) (by omega)
  refine ⟨by omega, fun i hi => ?_⟩
  have h := sp_fs_rg hr hi hx hy
  have e := bit_or (a := 0) (b := a) (i := i)
  rw [Nat.zero_or, Nat.zero_div] at e
  rw [e]
  by_cases q : i = a
  · rw [if_pos q]; omega
  · rw [if_neg q]; omega
/-- how many are not passed -/
def cntU (ps : Nat) : Nat → Nat
  | 0 => 0
  | n + 1 => cntU ps n + (if (ps / 2 ^ n) % 2 = 0 then 1 else 0)
theorem cntU_le (ps : Nat) : ∀ n, cntU ps n ≤ n := by
  intro n
  induction n with
  | zero => exact Nat.le_refl 0
  | succ n ih => unfold cntU; split <;> omega
theorem cntU_or {ps a : Nat} (hp : (ps / 2 ^ a) % 2 = 0) : ∀ n, cntU (ps ||| 2 ^ a) n = if a < n then cntU ps n - 1 else cntU ps n := by
  have pos : ∀ n, a < n → 1 ≤ cntU ps n := by
    intro n
    induction n with
    | zero => intro h; omega
    | succ n ih =>
      intro h
      unfold cntU
      by_cases e : a = n
      · subst e; rw [if_pos hp]; omega
      · have := ih (by omega); omega
  intro n
  induction n with
  | zero => rfl
  | succ n ih =>
    unfold cntU
    rw [ih, bit_or]
    by_cases e : n = a
    · subst e
      rw [if_pos rfl, if_pos hp, if_neg (by omega), if_neg (by omega), if_pos (by omega)]
      omega
    · rw [if_neg e]
      generalize (if ps / 2 ^ n % 2 = 0 then 1 else 0) = z
      by_cases q : a < n
      · have := pos n q
        rw [if_pos q, if_pos (by omega)]; omega
      · rw [if_neg q, if_neg (by omega)]
theorem cntU_0 {ps : Nat} : ∀ n, cntU ps n = 0 → ∀ i, i < n → (ps / 2 ^ i) % 2 = 1 := by
  intro n
  induction n with
  | zero => intro _ i hi; omega
  | succ n ih =>
    intro h i hi
    unfold cntU at h
    by_cases e : i = n
    · subst e
      rcases Nat.mod_two_eq_zero_or_one (ps / 2 ^ i) with q | q
      · rw [if_pos q] at h; omega
      · exact q
    · exact ih (by omega) i (by omega)
