/-! ===== class and reference side by side ===== -/
def R1 (w : Nat → Int) (kn nx : Int) (hh : Nat → Nat → Int) (n q : Nat) (h : Nat → Nat → Int) : Prop := vR w ∧ kn = (q : Int) ∧ q ≤ 16 ∧ rM w q w h ∧ (∀ j, j < q → vR (h j)) ∧ nx = (n : Int) ∧ n < 16 ∧ rH hh n q h
def R2 (w : Nat → Int) (kp : Int) (ik : Nat → Int) (ir : Nat → Nat → Int) (ks : Nat → Int) (kb : Nat) : Prop := kp = (kb : Int) ∧ kb < 4 ∧ (∀ j, 0 ≤ ik j ∧ ik j ≤ 1) ∧ (∀ j, j < 2 → (ik j ≠ 0 ↔ (kb >>> j) % 2 ≠ 0)) ∧ (∀ j, j < 2 → ik j ≠ 0 → vR (ir j) ∧ ∀ k, k < 40 → ir j k = w (680 + 40 * j + k)) ∧ (∀ j, 0 ≤ ks j ∧ ks j ≤ 2147483647)
def RR (w : Nat → Int) (kn kp sd : Int) (ks bkx bky bki : Nat → Int) (bkn nx : Int) (hh ir : Nat → Nat → Int) (ik : Nat → Int) : Prop := (∃ (n q : Nat) (h : Nat → Nat → Int), R1 w kn nx hh n q h) ∧ (∃ kb : Nat, R2 w kp ik ir ks kb) ∧ (0 ≤ sd ∧ sd ≤ 2147483647) ∧ okB bkn bkx bky bki
theorem R2_im {w w2 : Nat → Int} {kp : Int} {ik : Nat → Int} {ir : Nat → Nat → Int} {ks : Nat → Int} {kb : Nat} (h : R2 w kp ik ir ks kb) (hi : imS w w2) : R2 w2 kp ik ir ks kb := by
  obtain ⟨h1, h2, h3, h4, h5, h6⟩ := h
  exact ⟨h1, h2, h3, h4, fun j hj hk => ⟨(h5 j hj hk).1, fun k hk2 => by rw [hi _ (by omega) (by omega)]; exact (h5 j hj hk).2 k hk2⟩, h6⟩
theorem L_deed {w w2 g2 : Nat → Int} {kn kn2 nx nx2 kpt2 : Int} {hh hh2 : Nat → Nat → Int} {n q : Nat} {h : Nat → Nat → Int} {ch : Prop} {nr : Nat → Int} {kp : Int} {ik : Nat → Int} {ir : Nat → Nat → Int} {ks : Nat → Int}
    (h1 : R1 w kn nx hh n q h) (h2 : ∃ kb, R2 w kp ik ir ks kb) (hm : dM w w2 kn kn2 q h ch nr) (hc : dC w g2 nx nx2 kn kpt2 hh hh2 n q h ch nr) (hv : ch → vR nr) : kpt2 = kn2 ∧ (∀ k, k < 40 → g2 k = w2 k) ∧ (∃ (n : Nat) (q : Nat) (h : Nat → Nat → Int), R1 w2 kn2 nx2 hh2 n q h) ∧ ∃ kb, R2 w2 kp ik ir ks kb := by
  by_cases c : ch
  · obtain ⟨m1, m2, m3⟩ := hm.1 c
    obtain ⟨c1, c2, c3, c4⟩ := hc.1 c
    obtain ⟨a1, a2, a3, a4, a5, a6, a7, a8⟩ := h1
    obtain ⟨kb, hkb⟩ := h2
    have hq : qs q = min (q + 1) 16 := rfl
    refine ⟨by rw [c2, m1], fun k hk => by rw [c4]; exact (m2.1 k hk).symm, ⟨(n + 1) % 16, qs q, ph h w, vR_congr (fun k hk => m2.1 k hk) (hv c), m1, by omega, ⟨fun _ _ => rfl, m2.2⟩, fun j hj => ?_, c1, by omega, c3⟩, kb, R2_im hkb m3⟩
    cases j with
    | zero => exact a1
    | succ j => exact a5 j (by omega)
  · obtain ⟨m1, m2⟩ := hm.2 c
    obtain ⟨c1, c2, c3, c4⟩ := hc.2 c
    subst m1; subst m2; subst c1; subst c2; subst c3; subst c4
    exact ⟨rfl, fun _ _ => rfl, ⟨n, q, h, h1⟩, h2⟩
/-- what holds of a drift's state -/
def dOK (S : dSt) : Prop := vR S.1 ∧ S.2.2.1 ≤ 16 ∧ (∀ j, j < S.2.2.1 → vR (S.2.1 j)) ∧ (0 ≤ S.2.2.2 ∧ S.2.2.2 ≤ 2147483647)
theorem d1_ok {S : dSt} (h : dOK S) (h10 : S.1 0 < 10) : dOK (sp_d1 S) := by
  obtain ⟨g, hh, q, sd⟩ := S
  obtain ⟨h1, h2, h3, h4⟩ := h
  have hv := d1_v (h := hh) (q := q) (sd := sd) h1 h10
  have hq := d1_q (g := g) (h := hh) (sd := sd) h2
  refine ⟨hv, hq, ?_, by rw [d1_s]; exact sp_nx_rg _⟩
  have e1 : qs q = min (q + 1) 16 := rfl
  by_cases e : sp_th g (sp_dx sd) (sp_dy sd) = -1
  · rw [show sp_d1 (g, hh, q, sd) = (sp_add g (sp_dx sd) (sp_dy sd) (sp_dg sd), ph hh g, qs q, sp_nx (sp_nx (sp_nx sd))) from if_pos e]
    intro j hj
    have hj : j < qs q := hj
    have h3 : ∀ j, j < q → vR (hh j) := h3
    cases j with
    | zero => exact h1
    | succ j => exact h3 j (by omega)
  · rw [show sp_d1 (g, hh, q, sd) = (g, hh, q, sp_nx (sp_nx (sp_nx sd))) from if_neg e]
    exact h3
theorem dn_ok : ∀ (n : Nat) {S : dSt}, dOK S → dOK (sp_dn n S) := by
  intro n
  induction n with
  | zero => intro S h; exact h
  | succ n ih =>
    intro S h
    unfold sp_dn
    by_cases e : S.1 0 < 10
    · rw [if_pos e]; exact ih (d1_ok h e)
    · rw [if_neg e]; exact h
theorem L_drift {w w2 g2 : Nat → Int} {kn kn2 nx nx2 kpt2 sd sdm sdc zm zc nz : Int} {hh hh2 : Nat → Nat → Int} {n q : Nat} {h : Nat → Nat → Int} {kp : Int} {ik : Nat → Int} {ir : Nat → Nat → Int} {ks : Nat → Int}
    (h1 : R1 w kn nx hh n q h) (h2 : ∃ kb, R2 w kp ik ir ks kb) (hs : 0 ≤ sd ∧ sd ≤ 2147483647)
    (hm : (1 ≤ nz ∧ nz ≤ 10 → zm = (sp_dn nz.toNat (w, h, q, sd)).1 0 ∧ rM w2 (sp_dn nz.toNat (w, h, q, sd)).2.2.1 (sp_dn nz.toNat (w, h, q, sd)).1 (sp_dn nz.toNat (w, h, q, sd)).2.1 ∧ kn2 = ((sp_dn nz.toNat (w, h, q, sd)).2.2.1 : Int) ∧ sdm = (sp_dn nz.toNat (w, h, q, sd)).2.2.2 ∧ imS w w2) ∧ (¬ (1 ≤ nz ∧ nz ≤ 10) → zm = -1000000002 ∧ w2 = w ∧ kn2 = kn ∧ sdm = sd))
    (hc : (1 ≤ nz ∧ nz ≤ 10 → zc = (sp_dn nz.toNat (w, h, q, sd)).1 0 ∧ g2 = (sp_dn nz.toNat (w, h, q, sd)).1 ∧ kpt2 = ((sp_dn nz.toNat (w, h, q, sd)).2.2.1 : Int) ∧ sdc = (sp_dn nz.toNat (w, h, q, sd)).2.2.2 ∧ ∃ n2 : Nat, n2 < 16 ∧ nx2 = (n2 : Int) ∧ rH hh2 n2 (sp_dn nz.toNat (w, h, q, sd)).2.2.1 (sp_dn nz.toNat (w, h, q, sd)).2.1) ∧ (¬ (1 ≤ nz ∧ nz ≤ 10) → zc = -1000000002 ∧ sdc = sd ∧ g2 = w ∧ nx2 = nx ∧ kpt2 = kn ∧ hh2 = hh)) :
    zc = zm ∧ sdc = sdm ∧ kpt2 = kn2 ∧ (∀ k, k < 40 → g2 k = w2 k) ∧ (∃ (n : Nat) (q : Nat) (h : Nat → Nat → Int), R1 w2 kn2 nx2 hh2 n q h) ∧ (∃ kb, R2 w2 kp ik ir ks kb) ∧ (0 ≤ sdm ∧ sdm ≤ 2147483647) := by
  by_cases c : 1 ≤ nz ∧ nz ≤ 10
  · obtain ⟨m1, m2, m3, m4, m5⟩ := hm.1 c
    obtain ⟨c1, c2, c3, c4, n2, c5, c6, c7⟩ := hc.1 c
    obtain ⟨a1, a2, a3, a4, a5, a6, a7, a8⟩ := h1
    obtain ⟨kb, hkb⟩ := h2
    obtain ⟨o1, o2, o3, o4⟩ := dn_ok nz.toNat (S := (w, h, q, sd)) ⟨a1, a3, a5, hs⟩
    generalize sp_dn nz.toNat (w, h, q, sd) = S at *
    exact ⟨by rw [c1, m1], by rw [c4, m4], by rw [c3, m3], fun k hk => by rw [c2]; exact (m2.1 k hk).symm, ⟨n2, S.2.2.1, S.2.1, vR_congr (fun k hk => m2.1 k hk) o1, m3, o2, ⟨fun _ _ => rfl, m2.2⟩, o3, c6, c5, c7⟩, ⟨kb, R2_im hkb m5⟩, by rw [m4]; exact o4⟩
  · obtain ⟨m1, m2, m3, m4⟩ := hm.2 c
    obtain ⟨c1, c2, c3, c4, c5, c6⟩ := hc.2 c
    subst m2; subst m3; subst m4; subst c2; subst c3; subst c4; subst c5; subst c6
    exact ⟨by rw [c1, m1], rfl, rfl, fun _ _ => rfl, ⟨n, q, h, h1⟩, h2, hs⟩
theorem L_undo {w w2 g2 : Nat → Int} {kn kn2 nx nx2 kpt2 zm zc nz : Int} {hh : Nat → Nat → Int} {n q : Nat} {h : Nat → Nat → Int} {kp : Int} {ik : Nat → Int} {ir : Nat → Nat → Int} {ks : Nat → Int}
    (h1 : R1 w kn nx hh n q h) (h2 : ∃ kb, R2 w kp ik ir ks kb)
    (hm : (((1 ≤ nz ∧ nz ≤ 16) ∧ nz ≤ kn) → zm = kn - nz ∧ kn2 = kn - nz ∧ rM w2 (q - nz.toNat) (h (nz.toNat - 1)) (fun j => h (j + nz.toNat)) ∧ imS w w2) ∧ (¬ ((1 ≤ nz ∧ nz ≤ 16) ∧ nz ≤ kn) → zm = (if 1 ≤ nz ∧ nz ≤ 16 then -1000000003 else -1000000002) ∧ w2 = w ∧ kn2 = kn))
    (hc : (((1 ≤ nz ∧ nz ≤ 16) ∧ nz ≤ kn) → zc = kn - nz ∧ kpt2 = ((q - nz.toNat : Nat) : Int) ∧ nx2 = (((n + 16 - nz.toNat) % 16 : Nat) : Int) ∧ rH hh ((n + 16 - nz.toNat) % 16) (q - nz.toNat) (fun j => h (j + nz.toNat)) ∧ ∀ k, k < 40 → g2 k = h (nz.toNat - 1) k) ∧ (¬ ((1 ≤ nz ∧ nz ≤ 16) ∧ nz ≤ kn) → zc = (if 1 ≤ nz ∧ nz ≤ 16 then -1000000003 else -1000000002) ∧ kpt2 = kn ∧ nx2 = nx ∧ g2 = w)) :
    zc = zm ∧ kpt2 = kn2 ∧ (∀ k, k < 40 → g2 k = w2 k) ∧ (∃ (n : Nat) (q : Nat) (h : Nat → Nat → Int), R1 w2 kn2 nx2 hh n q h) ∧ ∃ kb, R2 w2 kp ik ir ks kb := by
  by_cases c : (1 ≤ nz ∧ nz ≤ 16) ∧ nz ≤ kn
  · obtain ⟨m1, m2, m3, m4⟩ := hm.1 c
    obtain ⟨c1, c2, c3, c4, c5⟩ := hc.1 c
    obtain ⟨a1, a2, a3, a4, a5, a6, a7, a8⟩ := h1
    obtain ⟨kb, hkb⟩ := h2
    have e : kn2 = ((q - nz.toNat : Nat) : Int) := by omega
    exact ⟨by rw [c1, m1], by rw [c2, e], fun k hk => (c5 k hk).trans (m3.1 k hk).symm, ⟨(n + 16 - nz.toNat) % 16, q - nz.toNat, fun j => h (j + nz.toNat), vR_congr (fun k hk => m3.1 k hk) (a5 _ (by omega)), e, by omega, ⟨fun _ _ => rfl, m3.2⟩, fun j hj => a5 _ (by omega), c3, by omega, c4⟩, ⟨kb, R2_im hkb m4⟩⟩
  · obtain ⟨m1, m2, m3⟩ := hm.2 c
    obtain ⟨c1, c2, c3, c4⟩ := hc.2 c
    subst m2; subst m3; subst c2; subst c3; subst c4
    exact ⟨by rw [c1, m1], rfl, fun _ _ => rfl, ⟨n, q, h, h1⟩, h2⟩
theorem bits2 : ∀ kb, kb < 4 → ∀ i, i < 2 → (kb ||| 2 ^ i) < 4 ∧ ∀ j, j < 2 → (((kb ||| 2 ^ i) >>> j) % 2 ≠ 0 ↔ (j = i ∨ (kb >>> j) % 2 ≠ 0)) := by decide
theorem R1_cut {w w2 : Nat → Int} {kn nx : Int} {hh : Nat → Nat → Int} {n q : Nat} {h : Nat → Nat → Int} {r : Nat → Int} (h1 : R1 w kn nx hh n q h) (hr : vR r) (hw : ∀ k, k < 40 → w2 k = r k) : R1 w2 0 nx hh n 0 h := by
  obtain ⟨a1, a2, a3, a4, a5, a6, a7, a8⟩ := h1
  exact ⟨vR_congr hw hr, rfl, by omega, ⟨fun _ _ => rfl, fun j hj => by omega⟩, fun j hj => by omega, a6, a7, fun j hj => by omega⟩
theorem L_keep {w w2 : Nat → Int} {kn kn2 nx kpt2 zm zc i sd kp kp2 : Int} {hh ir ir2 : Nat → Nat → Int} {n q : Nat} {h : Nat → Nat → Int} {ik ik2 ks ks2 isd2 : Nat → Int} {kb : Nat} (h1 : R1 w kn nx hh n q h) (h2 : R2 w kp ik ir ks kb) (hs : 0 ≤ sd ∧ sd ≤ 2147483647)
    (hm : ((0 ≤ i ∧ i ≤ 1) → zm = 1 ∧ w2 = sp_cp w 0 (680 + 40 * i.toNat) 40 ∧ ks2 = va_up ks i.toNat sd ∧ kp2 = ((kb ||| 2 ^ i.toNat : Nat) : Int) ∧ kn2 = 0) ∧ (¬ (0 ≤ i ∧ i ≤ 1) → zm = -1000000001 ∧ w2 = w ∧ ks2 = ks ∧ kp2 = kp ∧ kn2 = kn))
    (hc : ((0 ≤ i ∧ i ≤ 1) → zc = 1 ∧ ir2 = va_up ir i.toNat (gmx w (ir i.toNat)) ∧ isd2 = va_up ks i.toNat sd ∧ ik2 = va_up ik i.toNat 1 ∧ kpt2 = 0) ∧ (¬ (0 ≤ i ∧ i ≤ 1) → zc = -1000000001 ∧ ir2 = ir ∧ isd2 = ks ∧ ik2 = ik ∧ kpt2 = kn)) :
    zc = zm ∧ isd2 = ks2 ∧ kpt2 = kn2 ∧ (∀ k, k < 40 → w k = w2 k) ∧ (∃ (n : Nat) (q : Nat) (h : Nat → Nat → Int), R1 w2 kn2 nx hh n q h) ∧ ∃ kb, R2 w2 kp2 ik2 ir2 ks2 kb := by
  by_cases c : 0 ≤ i ∧ i ≤ 1
  · obtain ⟨m1, m2, m3, m4, m5⟩ := hm.1 c
    obtain ⟨c1, c2, c3, c4, c5⟩ := hc.1 c
    obtain ⟨b1, b2, b3, b4, b5, b6⟩ := h2
    have hi : i.toNat < 2 := by omega
    generalize i.toNat = t at *
    have hw : ∀ k, k < 40 → w2 k = w k := fun k hk => by rw [m2]; unfold sp_cp; rw [if_neg (by omega)]
    obtain ⟨e1, e2⟩ := bits2 kb b2 t hi
    refine ⟨by rw [c1, m1], by rw [c3, m3], by rw [c5, m5], fun k hk => (hw k hk).symm, ⟨n, 0, h, by rw [m5]; exact R1_cut h1 h1.1 hw⟩, kb ||| 2 ^ t, m4, e1, fun j => ?_, fun j hj => ?_, fun j hj hk => ?_, fun j => ?_⟩
    · rw [c4]
      by_cases e : j = t
      · rw [e, va_up_self]; omega
      · rw [va_up_ne _ _ e]; exact b3 j
    · rw [e2 j hj, c4]
      by_cases e : j = t
      · rw [e, va_up_self]; exact ⟨fun _ => Or.inl rfl, fun _ => by omega⟩
      · rw [va_up_ne _ _ e]; exact ⟨fun q => Or.inr ((b4 j hj).mp q), fun q => (b4 j hj).mpr (q.resolve_left e)⟩
    · rw [c2]
      by_cases e : j = t
      · subst e
        rw [va_up_self]
        refine ⟨vR_congr (fun k hk => gmx_lt hk) h1.1, fun k hk => ?_⟩
        rw [gmx_lt hk, m2]
        unfold sp_cp
        rw [if_pos (by omega), show 0 + (680 + 40 * j + k - (680 + 40 * j)) = k by omega]
      · rw [c4, va_up_ne _ _ e] at hk
        rw [va_up_ne _ _ e]
        refine ⟨(b5 j hj hk).1, fun k hk2 => ?_⟩
        rw [(b5 j hj hk).2 k hk2, m2]
        unfold sp_cp
        rw [if_neg (by omega)]
    · rw [m3]
      by_cases e : j = t
      · rw [e, va_up_self]; exact hs
      · rw [va_up_ne _ _ e]; exact b6 j
  · obtain ⟨m1, m2, m3, m4, m5⟩ := hm.2 c
    obtain ⟨c1, c2, c3, c4, c5⟩ := hc.2 c
    subst m2; subst m3; subst m4; subst m5; subst c2; subst c3; subst c4; subst c5
    exact ⟨by rw [c1, m1], rfl, rfl, fun _ _ => rfl, ⟨n, q, h, h1⟩, kb, h2⟩
theorem L_goBack {w w2 g2 : Nat → Int} {kn kn2 nx kpt2 zm zc i sd sdm sdc kp : Int} {hh ir : Nat → Nat → Int} {n q : Nat} {h : Nat → Nat → Int} {ik ks : Nat → Int} {kb : Nat} (h1 : R1 w kn nx hh n q h) (h2 : R2 w kp ik ir ks kb) (hs : 0 ≤ sd ∧ sd ≤ 2147483647)
    (hm : (((0 ≤ i ∧ i ≤ 1) ∧ (kb >>> i.toNat) % 2 ≠ 0) → zm = 1 ∧ w2 = sp_cp w (680 + 40 * i.toNat) 0 40 ∧ sdm = ks i.toNat ∧ kn2 = 0) ∧ (¬ ((0 ≤ i ∧ i ≤ 1) ∧ (kb >>> i.toNat) % 2 ≠ 0) → zm = (if 0 ≤ i ∧ i ≤ 1 then -1000000003 else -1000000001) ∧ w2 = w ∧ sdm = sd ∧ kn2 = kn))
    (hc : (((0 ≤ i ∧ i ≤ 1) ∧ ik i.toNat ≠ 0) → zc = 1 ∧ g2 = gmx (ir i.toNat) w ∧ sdc = ks i.toNat ∧ kpt2 = 0) ∧ (¬ ((0 ≤ i ∧ i ≤ 1) ∧ ik i.toNat ≠ 0) → zc = (if 0 ≤ i ∧ i ≤ 1 then -1000000003 else -1000000001) ∧ g2 = w ∧ sdc = sd ∧ kpt2 = kn)) :
    zc = zm ∧ sdc = sdm ∧ kpt2 = kn2 ∧ (∀ k, k < 40 → g2 k = w2 k) ∧ (∃ (n : Nat) (q : Nat) (h : Nat → Nat → Int), R1 w2 kn2 nx hh n q h) ∧ (∃ kb, R2 w2 kp ik ir ks kb) ∧ (0 ≤ sdm ∧ sdm ≤ 2147483647) := by
  have hb := h2
  obtain ⟨b1, b2, b3, b4, b5, b6⟩ := hb
  have hcc : ((0 ≤ i ∧ i ≤ 1) ∧ ik i.toNat ≠ 0) ↔ ((0 ≤ i ∧ i ≤ 1) ∧ (kb >>> i.toNat) % 2 ≠ 0) := ⟨fun q => ⟨q.1, (b4 _ (by omega)).mp q.2⟩, fun q => ⟨q.1, (b4 _ (by omega)).mpr q.2⟩⟩
  by_cases c : (0 ≤ i ∧ i ≤ 1) ∧ ik i.toNat ≠ 0
  · obtain ⟨m1, m2, m3, m4⟩ := hm.1 (hcc.mp c)
    obtain ⟨c1, c2, c3, c4⟩ := hc.1 c
    have hi : i.toNat < 2 := by omega
    generalize i.toNat = t at *
    obtain ⟨r1, r2⟩ := b5 t hi c.2
    have hw : ∀ k, k < 40 → w2 k = ir t k := fun k hk => by
      rw [m2, r2 k hk]; unfold sp_cp; rw [if_pos (by omega), Nat.sub_zero]
    have him : imS w w2 := fun k hk1 hk2 => by rw [m2]; unfold sp_cp; rw [if_neg (by omega)]
    exact ⟨by rw [c1, m1], by rw [c3, m3], by rw [c4, m4], fun k hk => by rw [c2, gmx_lt hk]; exact (hw k hk).symm, ⟨n, 0, h, by rw [m4]; exact R1_cut h1 r1 hw⟩, ⟨kb, R2_im h2 him⟩, by rw [m3]; exact b6 t⟩
  · obtain ⟨m1, m2, m3, m4⟩ := hm.2 (fun q => c (hcc.mpr q))
    obtain ⟨c1, c2, c3, c4⟩ := hc.2 c
    subst m2; subst m3; subst m4; subst c2; subst c3; subst c4
    exact ⟨by rw [c1, m1], rfl, rfl, fun _ _ => rfl, ⟨n, q, h, h1⟩, ⟨kb, h2⟩, hs⟩
theorem L_write {bkx bky bki bkx2 bky2 bki2 bX2 bY2 bV2 : Nat → Int} {bkn bkn2 be2 zm zc x y vv : Int} (hb : okB bkn bkx bky bki) (hv : -2147483648 ≤ vv ∧ vv ≤ 2147483647)
    (hm : ((isPl x y ∧ bkn ≠ 20) → zm = bkn + 1 ∧ bkx2 = va_up bkx bkn.toNat x ∧ bky2 = va_up bky bkn.toNat y ∧ bki2 = va_up bki bkn.toNat vv ∧ bkn2 = bkn + 1) ∧ (¬ (isPl x y ∧ bkn ≠ 20) → zm = (if isPl x y then -1000000004 else -1000000002) ∧ bkx2 = bkx ∧ bky2 = bky ∧ bki2 = bki ∧ bkn2 = bkn))
    (hc : ((isPl x y ∧ bkn ≠ 20) → zc = bkn + 1 ∧ bX2 = va_up bkx bkn.toNat x ∧ bY2 = va_up bky bkn.toNat y ∧ bV2 = va_up bki bkn.toNat vv ∧ be2 = bkn + 1) ∧ (¬ (isPl x y ∧ bkn ≠ 20) → zc = (if isPl x y then -1000000004 else -1000000002) ∧ bX2 = bkx ∧ bY2 = bky ∧ bV2 = bki ∧ be2 = bkn)) :
    zc = zm ∧ bX2 = bkx2 ∧ bY2 = bky2 ∧ bV2 = bki2 ∧ be2 = bkn2 ∧ okB bkn2 bkx2 bky2 bki2 := by
  by_cases c : isPl x y ∧ bkn ≠ 20
  · obtain ⟨m1, m2, m3, m4, m5⟩ := hm.1 c
    obtain ⟨c1, c2, c3, c4, c5⟩ := hc.1 c
    subst m2; subst m3; subst m4; subst m5; subst c2; subst c3; subst c4; subst c5
    obtain ⟨b1, b2⟩ := hb
    refine ⟨by rw [c1, m1], rfl, rfl, rfl, rfl, by omega, fun k hk => ?_⟩
    by_cases e : k = bkn.toNat
    · rw [e, va_up_self, va_up_self, va_up_self]
      exact ⟨by omega, by omega, hv⟩
    · rw [va_up_ne _ _ e, va_up_ne _ _ e, va_up_ne _ _ e]
      exact b2 k (by omega)
  · obtain ⟨m1, m2, m3, m4, m5⟩ := hm.2 c
    obtain ⟨c1, c2, c3, c4, c5⟩ := hc.2 c
    subst m2; subst m3; subst m4; subst m5; subst c2; subst c3; subst c4; subst c5
    exact ⟨by rw [c1, m1], rfl, rfl, rfl, rfl, hb⟩
theorem L_seed {sd sdm sdc zm zc vv : Int} (hs : 0 ≤ sd ∧ sd ≤ 2147483647) (hv : -2147483648 ≤ vv ∧ vv ≤ 2147483647) (hm : (0 ≤ vv → zm = sd ∧ sdm = vv) ∧ (vv < 0 → zm = -1000000002 ∧ sdm = sd)) (hc : (0 ≤ vv → zc = sd ∧ sdc = vv) ∧ (vv < 0 → zc = -1000000002 ∧ sdc = sd)) : zc = zm ∧ sdc = sdm ∧ (0 ≤ sdm ∧ sdm ≤ 2147483647) := by
  by_cases c : 0 ≤ vv
  · obtain ⟨m1, m2⟩ := hm.1 c
    obtain ⟨c1, c2⟩ := hc.1 c
    exact ⟨by rw [c1, m1], by rw [c2, m2], by omega⟩
  · obtain ⟨m1, m2⟩ := hm.2 (by omega)
    obtain ⟨c1, c2⟩ := hc.2 (by omega)
    exact ⟨by rw [c1, m1], by rw [c2, m2], by omega⟩
theorem ok_0 {bkx bky bki : Nat → Int} : okB 0 bkx bky bki := ⟨by omega, fun k hk => by omega⟩
theorem RR_0 : RR w0 0 0 0 (fun _ => 0) (fun _ => 0) (fun _ => 0) (fun _ => 0) 0 0 (fun _ => w0) (fun _ => w0) (fun _ => 0) := by
  refine ⟨⟨0, 0, fun _ => w0, w0_v, rfl, by omega, ⟨fun _ _ => rfl, fun j hj => by omega⟩, fun j hj => by omega, rfl, by omega, fun j hj => by omega⟩, ⟨0, rfl, by omega, fun _ => (by decide : (0 : Int) ≤ 0 ∧ (0 : Int) ≤ 1), fun j hj => ?_, fun j hj hk => absurd rfl hk, fun _ => (by decide : (0 : Int) ≤ 0 ∧ (0 : Int) ≤ 2147483647)⟩, by omega, ok_0⟩
  rcases (show j = 0 ∨ j = 1 by omega) with rfl | rfl <;> decide
