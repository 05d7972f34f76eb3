/-! ===== deeds: rows, what can be undone ===== -/
def rM (w : Nat → Int) (q : Nat) (r : Nat → Int) (h : Nat → Nat → Int) : Prop := (∀ k, k < 40 → w k = r k) ∧ ∀ j, j < q → ∀ k, k < 40 → w (40 * (q - j) + k) = h j k
def imS (w w2 : Nat → Int) : Prop := ∀ k, 680 ≤ k → k < 760 → w2 k = w k
def ph (h : Nat → Nat → Int) (r : Nat → Int) : Nat → Nat → Int
  | 0 => r
  | j + 1 => h j
def qs (q : Nat) : Nat := min (q + 1) 16
theorem imS_rf (w : Nat → Int) : imS w w := fun _ _ _ => rfl
theorem imS_tr {a b c : Nat → Int} (h : imS a b) (h2 : imS b c) : imS a c := fun k h1 h3 => (h2 k h1 h3).trans (h k h1 h3)
theorem imS_up {w w2 : Nat → Int} (h : imS w w2) {i : Nat} (hi : i < 680) (v : Int) : imS w (va_up w2 i v) := fun k h1 h2 => by rw [va_up_ne _ _ (by omega)]; exact h k h1 h2
theorem imS_cp {w w2 : Nat → Int} (h : imS w w2) (x : Nat) {y : Nat} (hy : y + 40 ≤ 680) : imS w (sp_cp w2 x y 40) := fun k h1 h2 => by unfold sp_cp; rw [if_neg (by omega)]; exact h k h1 h2
theorem rM_up {w : Nat → Int} {q : Nat} {r : Nat → Int} {h : Nat → Nat → Int} (hr : rM w q r h) {i : Nat} (hi : i < 40) (v : Int) : rM (va_up w i v) q (va_up r i v) h := by
  refine ⟨fun k hk => ?_, fun j hj k hk => ?_⟩
  · by_cases e : k = i
    · rw [e, va_up_self, va_up_self]
    · rw [va_up_ne _ _ e, va_up_ne _ _ e]; exact hr.1 k hk
  · rw [va_up_ne _ _ (by omega)]; exact hr.2 j hj k hk
theorem vR_congr {a b : Nat → Int} (h : ∀ k, k < 40 → a k = b k) (hb : vR b) : vR a := by
  have e0 := h 0 (by omega); have e1 := h 1 (by omega); have e2 := h 2 (by omega); have e3 := h 3 (by omega); have e4 := h 4 (by omega)
  have e5 := h 5 (by omega); have e6 := h 6 (by omega); have e7 := h 7 (by omega); have e8 := h 8 (by omega); have e9 := h 9 (by omega)
  unfold vR at hb ⊢
  rw [e0, e1, e2, e3, e4, e5, e6, e7, e8, e9]
  refine ⟨hb.1, hb.2.1, hb.2.2.1, hb.2.2.2.1, hb.2.2.2.2.1, hb.2.2.2.2.2.1, hb.2.2.2.2.2.2.1, hb.2.2.2.2.2.2.2.1, hb.2.2.2.2.2.2.2.2.1, hb.2.2.2.2.2.2.2.2.2.1, fun i hi => ?_⟩
  have h0 := hb.1
  rw [h (10 + 3 * i) (by omega), h (11 + 3 * i) (by omega), h (12 + 3 * i) (by omega)]
  exact hb.2.2.2.2.2.2.2.2.2.2 i hi
/-- one row more can be undone, behind the others -/
theorem rM_push {w : Nat → Int} {q : Nat} {r : Nat → Int} {h : Nat → Nat → Int} (hr : rM w q r h) (hq : q < 16) : rM (sp_cp w 0 (40 * (q + 1)) 40) (qs q) r (ph h r) := by
  have e : qs q = q + 1 := by unfold qs; omega
  rw [e]
  refine ⟨fun k hk => ?_, fun j hj k hk => ?_⟩
  · unfold sp_cp; rw [if_neg (by omega)]; exact hr.1 k hk
  · unfold sp_cp
    cases j with
    | zero =>
      rw [if_pos (by omega), show 0 + (40 * (q + 1 - 0) + k - 40 * (q + 1)) = k by omega]
      exact hr.1 k hk
    | succ j =>
      rw [if_neg (by omega), show q + 1 - (j + 1) = q - j by omega]
      exact hr.2 j (by omega) k hk
/-- the rows that are kept move down by one -/
def rSh (w w1 : Nat → Int) (a : Nat) : Prop := (∀ p, p < 40 ∨ 40 * a ≤ p → w1 p = w p) ∧ ∀ b, 1 ≤ b → b < a → ∀ k, k < 40 → w1 (40 * b + k) = w (40 * (b + 1) + k)
theorem rSh_0 (w : Nat → Int) : rSh w w 1 := ⟨fun _ _ => rfl, fun b h1 h2 => by omega⟩
theorem rSh_1 {w w1 : Nat → Int} {a : Nat} (ha : 1 ≤ a) (h : rSh w w1 a) : rSh w (sp_cp w1 (40 * (a + 1)) (40 * a) 40) (a + 1) := by
  refine ⟨fun p hp => ?_, fun b h1 h2 k hk => ?_⟩
  · unfold sp_cp; rw [if_neg (by omega)]; exact h.1 p (by omega)
  · unfold sp_cp
    by_cases e : b = a
    · subst e
      rw [if_pos (by omega), show 40 * (b + 1) + (40 * b + k - 40 * b) = 40 * (b + 1) + k by omega]
      exact h.1 _ (by omega)
    · rw [if_neg (by omega)]; exact h.2 b h1 (by omega) k hk
theorem rM_shift {w w1 : Nat → Int} {r : Nat → Int} {h : Nat → Nat → Int} (hr : rM w 16 r h) (hs : rSh w w1 16) : rM w1 15 r h := by
  refine ⟨fun k hk => (hs.1 k (Or.inl hk)).trans (hr.1 k hk), fun j hj k hk => ?_⟩
  rw [hs.2 (15 - j) (by omega) (by omega) k hk, show 15 - j + 1 = 16 - j by omega]
  exact hr.2 j (by omega) k hk
theorem rM_congr {w : Nat → Int} {q : Nat} {r r2 : Nat → Int} {h h2 : Nat → Nat → Int} (hr : rM w q r h) (h1 : ∀ k, k < 40 → r k = r2 k) (h3 : ∀ j, j < q → ∀ k, k < 40 → h j k = h2 j k) : rM w q r2 h2 := ⟨fun k hk => (hr.1 k hk).trans (h1 k hk), fun j hj k hk => (hr.2 j hj k hk).trans (h3 j hj k hk)⟩
/-- a sample comes, goes -/
def sp_add (r : Nat → Int) (x y g : Int) : Nat → Int := va_up (va_up (va_up (va_up r (10 + 3 * (r 0).toNat) x) (11 + 3 * (r 0).toNat) y) (12 + 3 * (r 0).toNat) g) 0 (r 0 + 1)
def sp_rmv (r : Nat → Int) (i : Nat) : Nat → Int := fun k => if k = 0 then r 0 - 1 else if 10 + 3 * i ≤ k ∧ k < 10 + 3 * (r 0 - 1).toNat then r (k + 3) else r k
theorem vR_add {r : Nat → Int} (hr : vR r) (h10 : r 0 < 10) {x y g : Int} (hx : 0 ≤ x ∧ x ≤ 31) (hy : 0 ≤ y ∧ y ≤ 31) (hg : 0 ≤ g ∧ g ≤ 999) : vR (sp_add r x y g) := by
  have h0 := hr.1
  have e : ∀ k, 1 ≤ k → k < 10 → sp_add r x y g k = r k := fun k h1 h2 => by
    unfold sp_add; rw [va_up_ne _ _ (by omega), va_up_ne _ _ (by omega), va_up_ne _ _ (by omega), va_up_ne _ _ (by omega)]
  have e0 : sp_add r x y g 0 = r 0 + 1 := va_up_self _ _ _
  unfold vR
  rw [e0, e 1 (by omega) (by omega), e 2 (by omega) (by omega), e 3 (by omega) (by omega), e 4 (by omega) (by omega), e 5 (by omega) (by omega), e 6 (by omega) (by omega), e 7 (by omega) (by omega), e 8 (by omega) (by omega), e 9 (by omega) (by omega)]
  refine ⟨by omega, hr.2.1, hr.2.2.1, hr.2.2.2.1, hr.2.2.2.2.1, hr.2.2.2.2.2.1, hr.2.2.2.2.2.2.1, hr.2.2.2.2.2.2.2.1, hr.2.2.2.2.2.2.2.2.1, hr.2.2.2.2.2.2.2.2.2.1, fun i hi => ?_⟩
  by_cases hn : i = (r 0).toNat
  · subst hn
    unfold sp_add
    rw [va_up_ne _ _ (by omega), va_up_ne _ _ (by omega), va_up_ne _ _ (by omega), va_up_self, va_up_ne _ _ (by omega), va_up_ne _ _ (by omega), va_up_self, va_up_ne _ _ (by omega), va_up_self]
    exact ⟨hx, hy, hg⟩
  · have hi2 : (i : Int) < r 0 := by omega
    unfold sp_add
    rw [va_up_ne _ _ (by omega), va_up_ne _ _ (by omega), va_up_ne _ _ (by omega), va_up_ne _ _ (by omega), va_up_ne _ _ (by omega), va_up_ne _ _ (by omega), va_up_ne _ _ (by omega), va_up_ne _ _ (by omega), va_up_ne _ _ (by omega), va_up_ne _ _ (by omega), va_up_ne _ _ (by omega), va_up_ne _ _ (by omega)]
    exact hr.2.2.2.2.2.2.2.2.2.2 i hi2
theorem vR_rmv {r : Nat → Int} (hr : vR r) {i : Nat} (hi : (i : Int) < r 0) : vR (sp_rmv r i) := by
  have h0 := hr.1
  have e : ∀ k, 1 ≤ k → k < 10 → sp_rmv r i k = r k := fun k h1 h2 => by
    unfold sp_rmv; rw [if_neg (by omega), if_neg (by omega)]
  have e0 : sp_rmv r i 0 = r 0 - 1 := if_pos rfl
  unfold vR
  rw [e0, e 1 (by omega) (by omega), e 2 (by omega) (by omega), e 3 (by omega) (by omega), e 4 (by omega) (by omega), e 5 (by omega) (by omega), e 6 (by omega) (by omega), e 7 (by omega) (by omega), e 8 (by omega) (by omega), e 9 (by omega) (by omega)]
  refine ⟨by omega, hr.2.1, hr.2.2.1, hr.2.2.2.1, hr.2.2.2.2.1, hr.2.2.2.2.2.1, hr.2.2.2.2.2.2.1, hr.2.2.2.2.2.2.2.1, hr.2.2.2.2.2.2.2.2.1, hr.2.2.2.2.2.2.2.2.2.1, fun j hj => ?_⟩
  have f1 : ∀ k, k = 10 + 3 * j ∨ k = 11 + 3 * j ∨ k = 12 + 3 * j → j < i → sp_rmv r i k = r k := fun k hk hb => by
    unfold sp_rmv; rw [if_neg (by omega), if_neg (by omega)]
  have f2 : ∀ k, k = 10 + 3 * j ∨ k = 11 + 3 * j ∨ k = 12 + 3 * j → ¬ j < i → sp_rmv r i k = r (k + 3) := fun k hk hb => by
    unfold sp_rmv; rw [if_neg (by omega), if_pos (by omega)]
  by_cases hb : j < i
  · rw [f1 _ (Or.inl rfl) hb, f1 _ (Or.inr (Or.inl rfl)) hb, f1 _ (Or.inr (Or.inr rfl)) hb]
    exact hr.2.2.2.2.2.2.2.2.2.2 j (by omega)
  · rw [f2 _ (Or.inl rfl) hb, f2 _ (Or.inr (Or.inl rfl)) hb, f2 _ (Or.inr (Or.inr rfl)) hb, show 10 + 3 * j + 3 = 10 + 3 * (j + 1) by omega, show 11 + 3 * j + 3 = 11 + 3 * (j + 1) by omega, show 12 + 3 * j + 3 = 12 + 3 * (j + 1) by omega]
    exact hr.2.2.2.2.2.2.2.2.2.2 (j + 1) (by omega)
theorem vR_grade {r : Nat → Int} (hr : vR r) (i : Nat) {g : Int} (hg : 0 ≤ g ∧ g ≤ 999) : vR (va_up r (12 + 3 * i) g) := by
  unfold vR
  rw [va_up_ne _ _ (show 0 ≠ 12 + 3 * i by omega), va_up_ne _ _ (show 1 ≠ 12 + 3 * i by omega), va_up_ne _ _ (show 2 ≠ 12 + 3 * i by omega), va_up_ne _ _ (show 3 ≠ 12 + 3 * i by omega), va_up_ne _ _ (show 4 ≠ 12 + 3 * i by omega), va_up_ne _ _ (show 5 ≠ 12 + 3 * i by omega), va_up_ne _ _ (show 6 ≠ 12 + 3 * i by omega), va_up_ne _ _ (show 7 ≠ 12 + 3 * i by omega), va_up_ne _ _ (show 8 ≠ 12 + 3 * i by omega), va_up_ne _ _ (show 9 ≠ 12 + 3 * i by omega)]
  refine ⟨hr.1, hr.2.1, hr.2.2.1, hr.2.2.2.1, hr.2.2.2.2.1, hr.2.2.2.2.2.1, hr.2.2.2.2.2.2.1, hr.2.2.2.2.2.2.2.1, hr.2.2.2.2.2.2.2.2.1, hr.2.2.2.2.2.2.2.2.2.1, fun j hj => ?_⟩
  have q := hr.2.2.2.2.2.2.2.2.2.2 j hj
  rw [va_up_ne _ _ (show 10 + 3 * j ≠ 12 + 3 * i by omega), va_up_ne _ _ (show 11 + 3 * j ≠ 12 + 3 * i by omega)]
  refine ⟨q.1, q.2.1, ?_⟩
  by_cases e : j = i
  · rw [e, va_up_self]; exact hg
  · rw [va_up_ne _ _ (by omega)]; exact q.2.2
def sp_pcs (r : Nat → Int) (a b c d e : Int) : Nat → Int := va_up (va_up (va_up (va_up (va_up r 2 a) 3 b) 4 c) 5 d) 6 e
def sp_sea (r : Nat → Int) (a b c : Int) : Nat → Int := va_up (va_up (va_up r 8 b) 9 c) 7 a
abbrev isPc (a b c d e : Int) : Prop := (0 ≤ a ∧ a ≤ 9) ∧ (1 ≤ b ∧ b ≤ 9) ∧ (1 ≤ c ∧ c ≤ 10) ∧ (0 ≤ d ∧ d ≤ b) ∧ (c ≤ e ∧ e ≤ 20)
abbrev isSe (a b c : Int) : Prop := (1 ≤ a ∧ a ≤ 4) ∧ (1 ≤ b ∧ b ≤ 4) ∧ (1 ≤ c ∧ c ≤ 62)
theorem vR_pcs {r : Nat → Int} (hr : vR r) {a b c d e : Int} (h : isPc a b c d e) : vR (sp_pcs r a b c d e) := by
  refine ⟨hr.1, hr.2.1, h.1, h.2.1, h.2.2.1, h.2.2.2.1, h.2.2.2.2, hr.2.2.2.2.2.2.2.1, hr.2.2.2.2.2.2.2.2.1, hr.2.2.2.2.2.2.2.2.2.1, fun j hj => ?_⟩
  unfold sp_pcs
  simp only [va_up_ne _ _ (show 10 + 3 * j ≠ 6 by omega), va_up_ne _ _ (show 10 + 3 * j ≠ 5 by omega), va_up_ne _ _ (show 10 + 3 * j ≠ 4 by omega), va_up_ne _ _ (show 10 + 3 * j ≠ 3 by omega), va_up_ne _ _ (show 10 + 3 * j ≠ 2 by omega), va_up_ne _ _ (show 11 + 3 * j ≠ 6 by omega), va_up_ne _ _ (show 11 + 3 * j ≠ 5 by omega), va_up_ne _ _ (show 11 + 3 * j ≠ 4 by omega), va_up_ne _ _ (show 11 + 3 * j ≠ 3 by omega), va_up_ne _ _ (show 11 + 3 * j ≠ 2 by omega), va_up_ne _ _ (show 12 + 3 * j ≠ 6 by omega), va_up_ne _ _ (show 12 + 3 * j ≠ 5 by omega), va_up_ne _ _ (show 12 + 3 * j ≠ 4 by omega), va_up_ne _ _ (show 12 + 3 * j ≠ 3 by omega), va_up_ne _ _ (show 12 + 3 * j ≠ 2 by omega)]
  exact hr.2.2.2.2.2.2.2.2.2.2 j hj
theorem vR_sea {r : Nat → Int} (hr : vR r) {a b c : Int} (h : isSe a b c) : vR (sp_sea r a b c) := by
  refine ⟨hr.1, hr.2.1, hr.2.2.1, hr.2.2.2.1, hr.2.2.2.2.1, hr.2.2.2.2.2.1, hr.2.2.2.2.2.2.1, h.1, h.2.1, h.2.2, fun j hj => ?_⟩
  unfold sp_sea
  simp only [va_up_ne _ _ (show 10 + 3 * j ≠ 7 by omega), va_up_ne _ _ (show 10 + 3 * j ≠ 8 by omega), va_up_ne _ _ (show 10 + 3 * j ≠ 9 by omega), va_up_ne _ _ (show 11 + 3 * j ≠ 7 by omega), va_up_ne _ _ (show 11 + 3 * j ≠ 8 by omega), va_up_ne _ _ (show 11 + 3 * j ≠ 9 by omega), va_up_ne _ _ (show 12 + 3 * j ≠ 7 by omega), va_up_ne _ _ (show 12 + 3 * j ≠ 8 by omega), va_up_ne _ _ (show 12 + 3 * j ≠ 9 by omega)]
  exact hr.2.2.2.2.2.2.2.2.2.2 j hj
theorem vR_met {r : Nat → Int} (hr : vR r) {a : Int} (h : 0 ≤ a ∧ a ≤ 1) : vR (va_up r 1 a) := by
  refine ⟨hr.1, h, hr.2.2.1, hr.2.2.2.1, hr.2.2.2.2.1, hr.2.2.2.2.2.1, hr.2.2.2.2.2.2.1, hr.2.2.2.2.2.2.2.1, hr.2.2.2.2.2.2.2.2.1, hr.2.2.2.2.2.2.2.2.2.1, fun j hj => ?_⟩
  simp only [va_up_ne _ _ (show 10 + 3 * j ≠ 1 by omega), va_up_ne _ _ (show 11 + 3 * j ≠ 1 by omega), va_up_ne _ _ (show 12 + 3 * j ≠ 1 by omega)]
  exact hr.2.2.2.2.2.2.2.2.2.2 j hj
/-- draws -/
def sp_nx (sd : Int) : Int := (sd * 1103515245 + 12345) % 2147483648
theorem sp_nx_rg (sd : Int) : 0 ≤ sp_nx sd ∧ sp_nx sd ≤ 2147483647 := by unfold sp_nx; omega
/-- what a turn of drift does to row, rows that can be undone, how many, seed -/
abbrev dSt : Type := (Nat → Int) × (Nat → Nat → Int) × Nat × Int
def sp_dx (sd : Int) : Int := sp_nx sd / 65536 % 32
def sp_dy (sd : Int) : Int := sp_nx (sp_nx sd) / 65536 % 32
def sp_dg (sd : Int) : Int := sp_nx (sp_nx (sp_nx sd)) / 65536 % 1000
def sp_d1 (s : dSt) : dSt := if sp_th s.1 (sp_dx s.2.2.2) (sp_dy s.2.2.2) = -1 then (sp_add s.1 (sp_dx s.2.2.2) (sp_dy s.2.2.2) (sp_dg s.2.2.2), ph s.2.1 s.1, qs s.2.2.1, sp_nx (sp_nx (sp_nx s.2.2.2))) else (s.1, s.2.1, s.2.2.1, sp_nx (sp_nx (sp_nx s.2.2.2)))
def sp_dn : Nat → dSt → dSt
  | 0, s => s
  | n + 1, s => if s.1 0 < 10 then sp_dn n (sp_d1 s) else s
theorem th_congr {a b : Nat → Int} (h : ∀ k, k < 40 → a k = b k) (x y : Int) : ∀ (n i : Nat), i + n ≤ 10 → sp_thF a x y n i = sp_thF b x y n i := by
  intro n
  induction n with
  | zero => intro i _; rfl
  | succ n ih =>
    intro i hi
    unfold sp_thF
    rw [h (10 + 3 * i) (by omega), h (11 + 3 * i) (by omega), ih (i + 1) (by omega)]
theorem sp_th_congr {a b : Nat → Int} (h : ∀ k, k < 40 → a k = b k) (hb : 0 ≤ b 0 ∧ b 0 ≤ 10) (x y : Int) : sp_th a x y = sp_th b x y := by
  unfold sp_th
  rw [h 0 (by omega)]
  exact th_congr h x y _ _ (by omega)
theorem sp_unl_congr {a b : Nat → Int} (h : ∀ k, k < 40 → a k = b k) (z : Int) : sp_unl a z = sp_unl b z := by
  unfold sp_unl
  rw [h 2 (by omega), h 3 (by omega), h 4 (by omega), h 5 (by omega), h 6 (by omega)]
theorem sp_add_congr {a b : Nat → Int} (h : ∀ k, k < 40 → a k = b k) (x y g : Int) : ∀ k, k < 40 → sp_add a x y g k = sp_add b x y g k := by
  intro k hk
  have h0 := h 0 (by omega)
  unfold sp_add va_up
  rw [h0, h k hk]
/-! answers of the deeds -/
def an_sm (r : Nat → Int) (x y g : Int) : Int := if isPl x y ∧ (0 ≤ g ∧ g ≤ 999) then (if r 0 = 10 then -1000000004 else if sp_th r x y = -1 then r 0 else -1000000003) else -1000000002
abbrev ch_sm (r : Nat → Int) (x y g : Int) : Prop := (isPl x y ∧ (0 ≤ g ∧ g ≤ 999)) ∧ r 0 ≠ 10 ∧ sp_th r x y = -1
abbrev isSm (r : Nat → Int) (i : Int) : Prop := 0 ≤ i ∧ i ≤ r 0 - 1
def an_tk (r : Nat → Int) (i : Int) : Int := if isSm r i then r 0 - 1 else -1000000001
def an_gr (r : Nat → Int) (i g : Int) : Int := if isSm r i then (if 0 ≤ g ∧ g ≤ 999 then r (12 + 3 * i.toNat) else -1000000002) else -1000000001
def an_pc (r : Nat → Int) (a b c d e : Int) : Int := if isPc a b c d e then sp_unl r 10 else -1000000002
def an_se (r : Nat → Int) (a b c : Int) : Int := if isSe a b c then r 7 else -1000000002
def an_mt (r : Nat → Int) (a : Int) : Int := if 0 ≤ a ∧ a ≤ 1 then r 1 else -1000000002
/-- a deed in the reference: done, or not -/
def dM (w w2 : Nat → Int) (kn kn2 : Int) (q : Nat) (h : Nat → Nat → Int) (ch : Prop) (nr : Nat → Int) : Prop := (ch → kn2 = (qs q : Int) ∧ rM w2 (qs q) nr (ph h w) ∧ imS w w2) ∧ (¬ ch → w2 = w ∧ kn2 = kn)
def sp_rk (r : Nat → Int) (i k : Nat) : Nat → Int := fun j => if j = 0 then r 0 - 1 else if 10 + 3 * i ≤ j ∧ j < k then r (j + 3) else r j
theorem sp_rk_0 (r : Nat → Int) (i : Nat) : sp_rk r i (10 + 3 * i) = va_up r 0 (r 0 - 1) := by
  funext j
  unfold sp_rk va_up
  by_cases h : j = 0
  · rw [if_pos h, if_pos h]
  · rw [if_neg h, if_neg h, if_neg (by omega)]
theorem sp_rk_1 (r : Nat → Int) {i k : Nat} (hk : 10 + 3 * i ≤ k) : va_up (sp_rk r i k) k (r (k + 3)) = sp_rk r i (k + 1) := by
  funext j
  by_cases h : j = k
  · subst h
    rw [va_up_self]
    unfold sp_rk
    rw [if_neg (by omega), if_pos (by omega)]
  · rw [va_up_ne _ _ h]
    unfold sp_rk
    by_cases h0 : j = 0
    · rw [if_pos h0, if_pos h0]
    · rw [if_neg h0, if_neg h0]
      by_cases h1 : 10 + 3 * i ≤ j ∧ j < k
      · rw [if_pos h1, if_pos (by omega)]
      · rw [if_neg h1, if_neg (by omega)]
theorem rM_back {w : Nat → Int} {q n : Nat} {r : Nat → Int} {h : Nat → Nat → Int} (hr : rM w q r h) (h1 : 1 ≤ n) (h2 : n ≤ q) : rM (sp_cp w (40 * (q - n + 1)) 0 40) (q - n) (h (n - 1)) (fun j => h (j + n)) := by
  refine ⟨fun k hk => ?_, fun j hj k hk => ?_⟩
  · unfold sp_cp
    rw [if_pos (by omega), show 40 * (q - n + 1) + (k - 0) = 40 * (q - (n - 1)) + k by omega]
    exact hr.2 (n - 1) (by omega) k hk
  · unfold sp_cp
    rw [if_neg (by omega), show q - n - j = q - (j + n) by omega]
    exact hr.2 (j + n) (by omega) k hk
theorem sp_dn_full {S : dSt} (h : ¬ S.1 0 < 10) (n : Nat) : sp_dn n S = S := by
  cases n with
  | zero => rfl
  | succ n => rw [sp_dn, if_neg h]
