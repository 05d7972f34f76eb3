set_option maxHeartbeats 4000000 in
set_option maxRecDepth 100000 in
theorem c_X5_isWithin (l : Launch) (D : va_G) (cI cL cG cM : ClassId)  (v : Int) (lo : Int) (hi : Int) (h1 : -2147483648 ≤ v ∧ v ≤ 2147483647) (h2 : -2147483648 ≤ lo ∧ lo ≤ 2147483647) (h3 : -2147483648 ≤ hi ∧ hi ≤ 2147483647) : Met l yX5_isWithin (wU yX5_isWithin cX5_isWithin 3 (some .boolean)) (rmF 0 0) (pcN [.int (iI v), .int (iI lo), .int (iI hi)]) (qRi (zb (lo ≤ v ∧ v ≤ hi))) 0 0 (fun _ => False) := by
  refine zm_N (own := RX5) (lv := [(0, .int (iI v)), (1, .int (iI lo)), (2, .int (iI hi))]) (by decide) rfl (Nat.le_of_ble_eq_true rfl) rfl ?_
  intro p e s m below meth c args Q hx hb hr hml hown hU hlk hQ ls hl
  refine lv_iload_n hx hb dX5_isWithin_0 rfl (lv_at hl 0 rfl) ?_
  refine lv_iload_n hx hb dX5_isWithin_1 rfl (lv_at hl 1 rfl) ?_
  refine zr_icmp_lt (tgt := 14) hx hb dX5_isWithin_2 (by decide) (by omega) (by omega) (fun c_1 => ?_) (fun c_1 => ?_)
  · skip
    refine lv_iconst (v := iI 0) hx hb dX5_isWithin_14 rfl ?_
    rw [hQ]
    exact ze_Rz hx hb hr hlk dX5_isWithin_15 (Or.inl rfl) ((zb_f (by omega)).symm)
  · skip
    refine lv_iload_n hx hb dX5_isWithin_5 rfl (lv_at hl 0 rfl) ?_
    refine lv_iload_n hx hb dX5_isWithin_6 rfl (lv_at hl 2 rfl) ?_
    refine zr_icmp_gt (tgt := 14) hx hb dX5_isWithin_7 (by decide) (by omega) (by omega) (fun c_2 => ?_) (fun c_2 => ?_)
    · skip
      refine lv_iconst (v := iI 0) hx hb dX5_isWithin_14 rfl ?_
      rw [hQ]
      exact ze_Rz hx hb hr hlk dX5_isWithin_15 (Or.inl rfl) ((zb_f (by omega)).symm)
    · skip
      refine lv_iconst (v := iI 1) hx hb dX5_isWithin_10 rfl ?_
      refine lv_goto (tgt := 15) hx hb dX5_isWithin_11 (by decide) ?_
      rw [hQ]
      exact ze_Rz hx hb hr hlk dX5_isWithin_15 (Or.inr rfl) ((zb_t (by omega)).symm)

set_option maxHeartbeats 4000000 in
set_option maxRecDepth 100000 in
theorem c_X5_isPlace (l : Launch) (D : va_G) (cI cL cG cM : ClassId)  (x : Int) (y : Int) (h1 : -2147483648 ≤ x ∧ x ≤ 2147483647) (h2 : -2147483648 ≤ y ∧ y ≤ 2147483647) : Met l yX5_isPlace (wU yX5_isPlace cX5_isPlace 2 (some .boolean)) (rmF 1 22) (pcN [.int (iI x), .int (iI y)]) (qRi (zb ((0 ≤ x ∧ x ≤ 31) ∧ (0 ≤ y ∧ y ≤ 31)))) 0 0 (fun _ => False) := by
  refine zm_N (own := RX5) (lv := [(0, .int (iI x)), (1, .int (iI y))]) (by decide) rfl (Nat.le_of_ble_eq_true rfl) rfl ?_
  intro p e s m below meth c args Q hx hb hr hml hown hU hlk hQ ls hl
  refine lv_iload_n hx hb dX5_isPlace_0 rfl (lv_at hl 0 rfl) ?_
  refine lv_iconst (v := iI 0) hx hb dX5_isPlace_1 rfl ?_
  refine lv_bipush (v := iI 31) hx hb dX5_isPlace_2 (by decide) ?_
  refine zc_Si (As := [.int (iI x), .int (iI 0), .int (iI 31)]) (rest := []) (c_X5_isWithin l D cI cL cG cM x 0 31 (by omega) (by omega) (by omega)) hx hb hml hown hU hl.1 ct_yX5_isWithin kt_yX5_isWithin km_RX5_112 ⟨rfl, rfl⟩ ⟨Nat.le_of_ble_eq_true rfl, Nat.le_of_ble_eq_true rfl⟩ rfl rfl (Nat.le_of_ble_eq_true rfl) dX5_isPlace_4 ⟨Nat.le_of_ble_eq_true rfl, Nat.le_of_ble_eq_true rfl⟩ ?_
  refine zr_bif_eq (tgt := 24) hx hb dX5_isPlace_7 (by decide) (fun c_1 => ?_) (fun c_1 => ?_)
  · skip
    refine lv_iconst (v := iI 0) hx hb dX5_isPlace_24 rfl ?_
    rw [hQ]
    exact ze_Rz hx hb hr hlk dX5_isPlace_25 (Or.inl rfl) ((zb_f (by omega)).symm)
  · skip
    refine lv_iload_n hx hb dX5_isPlace_10 rfl (lv_at hl 1 rfl) ?_
    refine lv_iconst (v := iI 0) hx hb dX5_isPlace_11 rfl ?_
    refine lv_bipush (v := iI 31) hx hb dX5_isPlace_12 (by decide) ?_
    refine zc_Si (As := [.int (iI y), .int (iI 0), .int (iI 31)]) (rest := []) (c_X5_isWithin l D cI cL cG cM y 0 31 (by omega) (by omega) (by omega)) hx hb hml hown hU hl.1 ct_yX5_isWithin kt_yX5_isWithin km_RX5_112 ⟨rfl, rfl⟩ ⟨Nat.le_of_ble_eq_true rfl, Nat.le_of_ble_eq_true rfl⟩ rfl rfl (Nat.le_of_ble_eq_true rfl) dX5_isPlace_14 ⟨Nat.le_of_ble_eq_true rfl, Nat.le_of_ble_eq_true rfl⟩ ?_
    refine zr_bif_eq (tgt := 24) hx hb dX5_isPlace_17 (by decide) (fun c_2 => ?_) (fun c_2 => ?_)
    · skip
      refine lv_iconst (v := iI 0) hx hb dX5_isPlace_24 rfl ?_
      rw [hQ]
      exact ze_Rz hx hb hr hlk dX5_isPlace_25 (Or.inl rfl) ((zb_f (by omega)).symm)
    · skip
      refine lv_iconst (v := iI 1) hx hb dX5_isPlace_20 rfl ?_
      refine lv_goto (tgt := 25) hx hb dX5_isPlace_21 (by decide) ?_
      rw [hQ]
      exact ze_Rz hx hb hr hlk dX5_isPlace_25 (Or.inr rfl) ((zb_t (by omega)).symm)

set_option maxHeartbeats 4000000 in
set_option maxRecDepth 100000 in
theorem c_X5_isGrade (l : Launch) (D : va_G) (cI cL cG cM : ClassId)  (gd : Int) (h1 : -2147483648 ≤ gd ∧ gd ≤ 2147483647) : Met l yX5_isGrade (wU yX5_isGrade cX5_isGrade 1 (some .boolean)) (rmF 1 22) (pcN [.int (iI gd)]) (qRi (zb (0 ≤ gd ∧ gd ≤ 999))) 0 0 (fun _ => False) := by
  refine zm_N (own := RX5) (lv := [(0, .int (iI gd))]) (by decide) rfl (Nat.le_of_ble_eq_true rfl) rfl ?_
  intro p e s m below meth c args Q hx hb hr hml hown hU hlk hQ ls hl
  refine lv_iload_n hx hb dX5_isGrade_0 rfl (lv_at hl 0 rfl) ?_
  refine lv_iconst (v := iI 0) hx hb dX5_isGrade_1 rfl ?_
  refine lv_sipush (v := iI 999) hx hb dX5_isGrade_2 (by decide) ?_
  refine zc_Si (As := [.int (iI gd), .int (iI 0), .int (iI 999)]) (rest := []) (c_X5_isWithin l D cI cL cG cM gd 0 999 (by omega) (by omega) (by omega)) hx hb hml hown hU hl.1 ct_yX5_isWithin kt_yX5_isWithin km_RX5_112 ⟨rfl, rfl⟩ ⟨Nat.le_of_ble_eq_true rfl, Nat.le_of_ble_eq_true rfl⟩ rfl rfl (Nat.le_of_ble_eq_true rfl) dX5_isGrade_5 ⟨Nat.le_of_ble_eq_true rfl, Nat.le_of_ble_eq_true rfl⟩ ?_
  rw [hQ]
  exact ze_Rz hx hb hr hlk dX5_isGrade_8 (by first | exact zb_01 _ | omega) (by first | rfl | exact zb_iff (by omega))

set_option maxHeartbeats 4000000 in
set_option maxRecDepth 100000 in
theorem c_X5_isMore (l : Launch) (D : va_G) (cI cL cG cM : ClassId)  (a1 : Int) (b1 : Int) (c1 : Int) (d1 : Int) (hp1 : -9223372036854775808 ≤ (a1 * d1) ∧ (a1 * d1) ≤ 9223372036854775807) (hp2 : -9223372036854775808 ≤ (c1 * b1) ∧ (c1 * b1) ≤ 9223372036854775807) : Met l yX5_isMore (wU yX5_isMore cX5_isMore 8 (some .boolean)) (rmF 0 0) (pcN [.long (lI a1), .long (lI b1), .long (lI c1), .long (lI d1)]) (qRi (zb (c1 * b1 < a1 * d1))) 0 0 (fun _ => False) := by
  refine zm_N (own := RX5) (lv := [(0, .long (lI a1)), (2, .long (lI b1)), (4, .long (lI c1)), (6, .long (lI d1))]) (by decide) rfl (Nat.le_of_ble_eq_true rfl) rfl ?_
  intro p e s m below meth c args Q hx hb hr hml hown hU hlk hQ ls hl
  refine lv_lload_n hx hb dX5_isMore_0 rfl (lv_at hl 0 rfl) ?_
  refine lv_lload hx hb dX5_isMore_1 (lv_at hl 3 rfl) ?_
  refine zr_lmul hx hb dX5_isMore_3 ?_
  refine lv_lload hx hb dX5_isMore_4 (lv_at hl 2 rfl) ?_
  refine lv_lload_n hx hb dX5_isMore_6 rfl (lv_at hl 1 rfl) ?_
  refine zr_lmul hx hb dX5_isMore_7 ?_
  refine zr_lcmp_le (tgt := 16) hx hb dX5_isMore_8 dX5_isMore_9 (by decide) (by omega) (by omega) (fun c_1 => ?_) (fun c_1 => ?_)
  · skip
    refine lv_iconst (v := iI 0) hx hb dX5_isMore_16 rfl ?_
    rw [hQ]
    exact ze_Rz hx hb hr hlk dX5_isMore_17 (Or.inl rfl) ((zb_f (by omega)).symm)
  · skip
    refine lv_iconst (v := iI 1) hx hb dX5_isMore_12 rfl ?_
    refine lv_goto (tgt := 17) hx hb dX5_isMore_13 (by decide) ?_
    rw [hQ]
    exact ze_Rz hx hb hr hlk dX5_isMore_17 (Or.inr rfl) ((zb_t (by omega)).symm)

set_option maxHeartbeats 4000000 in
set_option maxRecDepth 100000 in
theorem c_X5_commonDivisor (l : Launch) (D : va_G) (cI cL cG cM : ClassId)  (na : Nat) (nb : Nat) (ha : na ≤ 4611686018427387904) (hb1 : nb ≤ 1099511627776) : Met l yX5_commonDivisor (wU yX5_commonDivisor cX5_commonDivisor 11 (some .long)) (rmF 0 0) (pcN [.long (lI (na : Int)), .long (lI (nb : Int))]) (qRl ((Nat.gcd na nb : Nat) : Int)) 0 0 (fun _ => False) := by
  refine zm_N (own := RX5) (lv := [(0, .long (lI (na : Int))), (2, .long (lI (nb : Int)))]) (by decide) rfl (Nat.le_of_ble_eq_true rfl) rfl ?_
  intro p e s m below meth c args Q hx hb hr hml hown hU hlk hQ ls hl
  refine lv_lload_n hx hb dX5_commonDivisor_0 rfl (lv_at hl 0 rfl) ?_
  refine lv_lstore (lv' := [(4, .long (lI (na : Int))), (0, .long (lI (na : Int))), (2, .long (lI (nb : Int)))]) hx hb dX5_commonDivisor_1 hl (by decide) rfl (fun ls hl => ?_)
  refine lv_lload_n hx hb dX5_commonDivisor_3 rfl (lv_at hl 2 rfl) ?_
  refine lv_lstore (lv' := [(6, .long (lI (nb : Int))), (4, .long (lI (na : Int))), (0, .long (lI (na : Int))), (2, .long (lI (nb : Int)))]) hx hb dX5_commonDivisor_4 hl (by decide) rfl (fun ls hl => ?_)
  refine lv_iconst (v := iI 0) hx hb dX5_commonDivisor_6 rfl ?_
  refine lv_istore (lv' := [(8, .int (iI 0)), (6, .long (lI (nb : Int))), (4, .long (lI (na : Int))), (0, .long (lI (na : Int))), (2, .long (lI (nb : Int)))]) hx hb dX5_commonDivisor_7 hl (by decide) rfl (fun ls hl => ?_)
  have LP9 : ∀ (n : Nat), ∀ (t : Nat) (aa : Nat) (bb : Nat), (Nat.gcd aa bb = Nat.gcd na nb) → (aa ≤ 4611686018427387904 ∧ bb ≤ 4611686018427387904) → (bb = 0 ∨ (t = 0 ∧ (bb : Int) ≤ 2 ^ 40) ∨ ((bb : Int) ≤ (aa : Int) ∧ (aa : Int) * (bb : Int) * 2 ^ t ≤ 2 ^ 82)) → (t ≤ 100) → (100 < t + n) → ∀ (ls : Array Slot), lv_has ls 11 [(4, .long (lI (aa : Int))), (6, .long (lI (bb : Int))), (8, .int (iI (t : Int)))] → W p l e (rmF 0 0) s m args below meth c s.heap [] 0 0 Q (F0 m 9 ls []) := by
    intro n
    induction n with
    | zero =>
      intro t aa bb hg hr1 hpot ht1 hfu
      exfalso
      omega
    | succ n ih9 =>
      intro t aa bb hg hr1 hpot ht1 hfu ls hl
      refine lv_iload hx hb dX5_commonDivisor_9 (lv_at hl 2 rfl) ?_
      refine lv_bipush (v := iI 100) hx hb dX5_commonDivisor_11 (by decide) ?_
      refine zr_icmp_ge (tgt := 44) hx hb dX5_commonDivisor_13 (by decide) (by omega) (by omega) (fun c_1 => ?_) (fun c_1 => ?_)
      · skip
        have hz : bb = 0 := by rcases Nat.eq_zero_or_pos bb with q | q; (exact q); (exfalso; have h8 := (cd_pot (a := (aa : Int)) (b := (bb : Int)) (t := t) (by omega) (by omega) (hpot.resolve_left (by omega))); omega)
        refine lv_lload hx hb dX5_commonDivisor_44 (lv_at hl 0 rfl) ?_
        rw [hQ]
        exact ze_Rl hx hb hr hlk dX5_commonDivisor_46 (by rw [← hg, hz, Nat.gcd_zero_right])
      · skip
        refine lv_lload hx hb dX5_commonDivisor_16 (lv_at hl 1 rfl) ?_
        refine lv_lconst (v := lI 0) hx hb dX5_commonDivisor_18 rfl ?_
        refine zr_lcmp_eq (tgt := 44) hx hb dX5_commonDivisor_19 dX5_commonDivisor_20 (by decide) (by omega) (by omega) (fun c_2 => ?_) (fun c_2 => ?_)
        · skip
          have hz : bb = 0 := by omega
          refine lv_lload hx hb dX5_commonDivisor_44 (lv_at hl 0 rfl) ?_
          rw [hQ]
          exact ze_Rl hx hb hr hlk dX5_commonDivisor_46 (by rw [← hg, hz, Nat.gcd_zero_right])
        · skip
          have hct := (cd_pot (a := (aa : Int)) (b := (bb : Int)) (t := t) (by omega) (by omega) (hpot.resolve_left (by omega)))
          refine lv_lload hx hb dX5_commonDivisor_23 (lv_at hl 0 rfl) ?_
          refine lv_lload hx hb dX5_commonDivisor_25 (lv_at hl 1 rfl) ?_
          refine zr_lrem hx hb dX5_commonDivisor_27 (by omega) (by omega) (by omega) ?_
          refine zr_rwl (v := (((aa % bb) : Nat) : Int)) (tmod_nat _ _) ?_
          refine lv_lstore (lv' := [(9, .long (lI (((aa % bb) : Nat) : Int))), (4, .long (lI (aa : Int))), (6, .long (lI (bb : Int))), (8, .int (iI (t : Int)))]) hx hb dX5_commonDivisor_28 hl (by decide) rfl (fun ls hl => ?_)
          refine lv_lload hx hb dX5_commonDivisor_30 (lv_at hl 2 rfl) ?_
          refine lv_lstore (lv' := [(4, .long (lI (bb : Int))), (9, .long (lI (((aa % bb) : Nat) : Int))), (6, .long (lI (bb : Int))), (8, .int (iI (t : Int)))]) hx hb dX5_commonDivisor_32 hl (by decide) rfl (fun ls hl => ?_)
          refine lv_lload hx hb dX5_commonDivisor_34 (lv_at hl 1 rfl) ?_
          refine lv_lstore (lv' := [(6, .long (lI (((aa % bb) : Nat) : Int))), (4, .long (lI (bb : Int))), (9, .long (lI (((aa % bb) : Nat) : Int))), (8, .int (iI (t : Int)))]) hx hb dX5_commonDivisor_36 hl (by decide) rfl (fun ls hl => ?_)
          refine lv_iinc (v := iI ((t : Int) + 1)) (lv' := [(8, .int (iI ((t : Int) + 1))), (6, .long (lI (((aa % bb) : Nat) : Int))), (4, .long (lI (bb : Int))), (9, .long (lI (((aa % bb) : Nat) : Int)))]) hx hb dX5_commonDivisor_38 hl (k := 3) rfl (iI_add _ _) (by decide) rfl (fun ls hl => ?_)
          refine lv_goto (tgt := 9) hx hb dX5_commonDivisor_41 (by decide) ?_
          have hml2 := Nat.mod_lt aa (show 0 < bb by omega)
          exact ih9 (t + 1) bb (aa % bb) (by rw [Nat.gcd_comm, ← Nat.gcd_rec, Nat.gcd_comm]; exact hg) (by omega) (by rcases Nat.eq_zero_or_pos (aa % bb) with q | q; (exact Or.inl q); (exact Or.inr (Or.inr (hct.2 (Int.ofNat_lt.mpr q))))) (by omega) (by omega) ls (lv_sub hl [2, 1, 0] rfl)
  exact LP9 101 0 na nb (rfl) (by omega) (by omega) (by omega) (by omega) ls (lv_sub hl [2, 1, 0] rfl)

set_option maxHeartbeats 4000000 in
set_option maxRecDepth 100000 in
theorem c_X5_inLowestTerms (l : Launch) (D : va_G) (cI cL cG cM : ClassId)  (ab : Int) (un : Int) (pq : Int) (ha : -4611686018427387904 ≤ ab ∧ ab ≤ 4611686018427387904) (hu : 0 < un ∧ un ≤ 1099511627776) (hp : 0 ≤ pq ∧ pq ≤ 1) : Met l yX5_inLowestTerms (wU yX5_inLowestTerms cX5_inLowestTerms 7 (some .long)) (rmF 1 30) (pcN [.long (lI ab), .long (lI un), .int (iI pq)]) (qRl (if pq = 0 then sp_top ab un else sp_bot ab un)) 0 0 (fun _ => False) := by
  refine zm_N (own := RX5) (lv := [(0, .long (lI ab)), (2, .long (lI un)), (4, .int (iI pq))]) (by decide) rfl (Nat.le_of_ble_eq_true rfl) rfl ?_
  intro p e s m below meth c args Q hx hb hr hml hown hU hlk hQ ls hl
  have hgp := gcd_pos (a := ab) (b := un) (by omega)
  have hgl : (Int.gcd ab un : Int) ≤ un := by have h8 : Int.gcd ab un ≤ un.natAbs := Nat.le_of_dvd (by omega) (Nat.gcd_dvd_right _ _); omega
  refine lv_lload_n hx hb dX5_inLowestTerms_0 rfl (lv_at hl 0 rfl) ?_
  refine zr_mabsl hx hb (hml.trans hl.1.symm) hown (hU _ km_RX5_226) (hU _ kt_Lib_MathLoose_abs_long_x) (hU _ kn__java_lang_Math_) (hU _ kc_Lib_MathLoose_abs_long_x) (Nat.le_of_ble_eq_true rfl) (Nat.le_of_ble_eq_true rfl) (Nat.le_of_ble_eq_true rfl) (Nat.le_of_ble_eq_true rfl) dX5_inLowestTerms_1 (by omega) ?_
  refine zr_rwl (v := ((ab.natAbs : Nat) : Int)) (by omega) ?_
  refine lv_lload_n hx hb dX5_inLowestTerms_4 rfl (lv_at hl 1 rfl) ?_
  refine zr_rwl (v := ((un.natAbs : Nat) : Int)) (by omega) ?_
  refine zc_Sl (As := [.long (lI ((ab.natAbs : Nat) : Int)), .long (lI ((un.natAbs : Nat) : Int))]) (rest := []) (c_X5_commonDivisor l D cI cL cG cM ab.natAbs un.natAbs (by omega) (by omega)) hx hb hml hown hU hl.1 ct_yX5_commonDivisor kt_yX5_commonDivisor km_RX5_265 ⟨rfl, rfl⟩ ⟨Nat.le_of_ble_eq_true rfl, Nat.le_of_ble_eq_true rfl⟩ rfl rfl (Nat.le_of_ble_eq_true rfl) dX5_inLowestTerms_5 ⟨Nat.le_of_ble_eq_true rfl, Nat.le_of_ble_eq_true rfl⟩ ?_
  refine zr_rwl (v := (Int.gcd ab un : Int)) (rfl) ?_
  refine lv_lstore (lv' := [(5, .long (lI (Int.gcd ab un : Int))), (0, .long (lI ab)), (2, .long (lI un)), (4, .int (iI pq))]) hx hb dX5_inLowestTerms_8 hl (by decide) rfl (fun ls hl => ?_)
  refine lv_lload hx hb dX5_inLowestTerms_10 (lv_at hl 0 rfl) ?_
  refine lv_lconst (v := lI 0) hx hb dX5_inLowestTerms_12 rfl ?_
  refine zr_lcmp_ne (tgt := 21) hx hb dX5_inLowestTerms_13 dX5_inLowestTerms_14 (by decide) (by omega) (by omega) (fun c_1 => ?_) (fun c_1 => by exfalso; omega)
  refine lv_iload hx hb dX5_inLowestTerms_21 (lv_at hl 3 rfl) ?_
  refine zr_if_ne (tgt := 30) hx hb dX5_inLowestTerms_23 (by decide) (by omega) (fun c_2 => ?_) (fun c_2 => ?_)
  · skip
    refine lv_lload_n hx hb dX5_inLowestTerms_30 rfl (lv_at hl 2 rfl) ?_
    refine lv_lload hx hb dX5_inLowestTerms_31 (lv_at hl 0 rfl) ?_
    refine zr_ldiv hx hb dX5_inLowestTerms_33 (by omega) (by omega) (by omega) ?_
    rw [hQ]
    exact ze_Rl hx hb hr hlk dX5_inLowestTerms_34 (by rw [if_neg (by omega)]; unfold sp_bot; rw [show max un (-un) = un by omega])
  · skip
    refine lv_lload_n hx hb dX5_inLowestTerms_26 rfl (lv_at hl 1 rfl) ?_
    refine lv_goto (tgt := 31) hx hb dX5_inLowestTerms_27 (by decide) ?_
    refine lv_lload hx hb dX5_inLowestTerms_31 (lv_at hl 0 rfl) ?_
    refine zr_ldiv hx hb dX5_inLowestTerms_33 (by omega) (by omega) (by omega) ?_
    rw [hQ]
    exact ze_Rl hx hb hr hlk dX5_inLowestTerms_34 (by rw [if_pos (by omega)]; unfold sp_top; rw [if_neg (by omega)])

set_option maxHeartbeats 4000000 in
set_option maxRecDepth 100000 in
theorem c_X1_exists (l : Launch) (D : va_G) (cI cL cG cM : ClassId) (ea elk ept efr etk ebt etp etb ewn ga gx gy gz : Nat) (lk : Nat → Int) (cnt : Int) (snd : Int) (pt : Nat → Int) (fr : Nat → Int) (tk : Nat → Int) (bt : Nat → Int) (tps : Nat → Int) (wp : Int) (tbl : Nat → Int) (wn : Nat → Int) (pl : Int) (wh : Int) (g : Nat → Int) (hw : -9223372036854775808 ≤ wh ∧ wh ≤ 9223372036854775807) : Met l yX1_exists (wU yX1_exists cX1_exists 1 (some .boolean)) (rmF 0 0) (pcR D (tyA cI cL cG cM) [(ea, .inr (1, [.ref ga, .ref elk, .int (iI cnt), .int (iI snd), .ref ept, .ref efr, .ref etk, .ref ebt, .ref etp, .int (iI wp), .ref etb, .ref ewn, .int (iI pl), .long (lI wh)])), (elk, .inl (cI, 4, .inl (aI lk))), (ept, .inl (cL, 4, .inr (.inl (aL pt)))), (efr, .inl (cI, 10, .inl (aI fr))), (etk, .inl (cI, 4, .inl (aI tk))), (ebt, .inl (cI, 16, .inl (aI bt))), (etp, .inl (cI, 4, .inl (aI tps))), (etb, .inl (cL, 9, .inr (.inl (aL tbl)))), (ewn, .inl (cL, 3, .inr (.inl (aL wn)))), (ga, .inr (2, [.int (iI (g 0)), .ref gx, .ref gy, .ref gz, .int (iI (g 1)), .int (iI (g 2)), .int (iI (g 3)), .int (iI (g 4)), .int (iI (g 5)), .int (iI (g 6)), .int (iI (g 7)), .int (iI (g 8)), .int (iI (g 9))])), (gx, .inl (cI, 10, .inl (aI (fun j => g (10 + 3 * j))))), (gy, .inl (cI, 10, .inl (aI (fun j => g (11 + 3 * j))))), (gz, .inl (cI, 10, .inl (aI (fun j => g (12 + 3 * j)))))] [.ref ea]) (qRi (zb (wh ≠ 0))) 0 0 (fun _ => False) := by
  refine zm_R (own := RX1) (lv := [(0, .ref ea)]) (by decide) rfl (Nat.le_of_ble_eq_true rfl) rfl ?_
  intro p e s m below meth c args Q hx hb hr hml hown hU hlk hP hK hNst hQ ls hl
  refine lv_aload_n hx hb dX1_exists_0 rfl (lv_at hl 0 rfl) ?_
  refine va_get (D := D) (ci := 1) (v := .long (lI wh)) (C := RX1) (T := TX1) (N := 14) hx hb hU inlX1 hown hK hP 0 rfl rfl 13 (by decide) (hU _ kf_RX1_52) (fun _ h9 => h9) rfl dX1_exists_1 ?_
  refine lv_lconst (v := lI 0) hx hb dX1_exists_4 rfl ?_
  refine zr_lcmp_eq (tgt := 13) hx hb dX1_exists_5 dX1_exists_6 (by decide) (by omega) (by omega) (fun c_1 => ?_) (fun c_1 => ?_)
  · skip
    refine lv_iconst (v := iI 0) hx hb dX1_exists_13 rfl ?_
    rw [hQ]
    exact ze_Rz hx hb hr hlk dX1_exists_14 (Or.inl rfl) ((zb_f (by omega)).symm)
  · skip
    refine lv_iconst (v := iI 1) hx hb dX1_exists_9 rfl ?_
    refine lv_goto (tgt := 14) hx hb dX1_exists_10 (by decide) ?_
    rw [hQ]
    exact ze_Rz hx hb hr hlk dX1_exists_14 (Or.inr rfl) ((zb_t (by omega)).symm)

set_option maxHeartbeats 4000000 in
set_option maxRecDepth 100000 in
theorem c_X1_below (l : Launch) (D : va_G) (cI cL cG cM : ClassId) (ea elk ept efr etk ebt etp etb ewn ga gx gy gz : Nat) (lk : Nat → Int) (cnt : Int) (snd : Int) (pt : Nat → Int) (fr : Nat → Int) (tk : Nat → Int) (bt : Nat → Int) (tps : Nat → Int) (wp : Int) (tbl : Nat → Int) (wn : Nat → Int) (pl : Int) (wh : Int) (g : Nat → Int) (pz : Int) (hpl : pl = pz) (hpz : 1 ≤ pz ∧ pz ≤ 4) : Met l yX1_below (wU yX1_below cX1_below 1 (some .long)) (rmF 0 0) (pcR D (tyA cI cL cG cM) [(ea, .inr (1, [.ref ga, .ref elk, .int (iI cnt), .int (iI snd), .ref ept, .ref efr, .ref etk, .ref ebt, .ref etp, .int (iI wp), .ref etb, .ref ewn, .int (iI pl), .long (lI wh)])), (elk, .inl (cI, 4, .inl (aI lk))), (ept, .inl (cL, 4, .inr (.inl (aL pt)))), (efr, .inl (cI, 10, .inl (aI fr))), (etk, .inl (cI, 4, .inl (aI tk))), (ebt, .inl (cI, 16, .inl (aI bt))), (etp, .inl (cI, 4, .inl (aI tps))), (etb, .inl (cL, 9, .inr (.inl (aL tbl)))), (ewn, .inl (cL, 3, .inr (.inl (aL wn)))), (ga, .inr (2, [.int (iI (g 0)), .ref gx, .ref gy, .ref gz, .int (iI (g 1)), .int (iI (g 2)), .int (iI (g 3)), .int (iI (g 4)), .int (iI (g 5)), .int (iI (g 6)), .int (iI (g 7)), .int (iI (g 8)), .int (iI (g 9))])), (gx, .inl (cI, 10, .inl (aI (fun j => g (10 + 3 * j))))), (gy, .inl (cI, 10, .inl (aI (fun j => g (11 + 3 * j))))), (gz, .inl (cI, 10, .inl (aI (fun j => g (12 + 3 * j)))))] [.ref ea]) (qRl (pz * wh)) 0 0 (fun _ => False) := by
  refine zm_R (own := RX1) (lv := [(0, .ref ea)]) (by decide) rfl (Nat.le_of_ble_eq_true rfl) rfl ?_
  intro p e s m below meth c args Q hx hb hr hml hown hU hlk hP hK hNst hQ ls hl
  refine lv_aload_n hx hb dX1_below_0 rfl (lv_at hl 0 rfl) ?_
  refine va_get (D := D) (ci := 1) (v := .int (iI pl)) (C := RX1) (T := TX1) (N := 14) hx hb hU inlX1 hown hK hP 0 rfl rfl 12 (by decide) (hU _ kf_RX1_41) (fun _ h9 => h9) rfl dX1_below_1 ?_
  refine zr_i2l hx hb dX1_below_4 (by omega) ?_
  refine lv_aload_n hx hb dX1_below_5 rfl (lv_at hl 0 rfl) ?_
  refine va_get (D := D) (ci := 1) (v := .long (lI wh)) (C := RX1) (T := TX1) (N := 14) hx hb hU inlX1 hown hK hP 0 rfl rfl 13 (by decide) (hU _ kf_RX1_52) (fun _ h9 => h9) rfl dX1_below_6 ?_
  refine zr_lmul hx hb dX1_below_9 ?_
  rw [hQ]
  exact ze_Rl hx hb hr hlk dX1_below_10 (by rw [hpl])

set_option maxHeartbeats 4000000 in
set_option maxRecDepth 100000 in
theorem c_X1_spreadBelow (l : Launch) (D : va_G) (cI cL cG cM : ClassId) (ea elk ept efr etk ebt etp etb ewn ga gx gy gz : Nat) (lk : Nat → Int) (cnt : Int) (snd : Int) (pt : Nat → Int) (fr : Nat → Int) (tk : Nat → Int) (bt : Nat → Int) (tps : Nat → Int) (wp : Int) (tbl : Nat → Int) (wn : Nat → Int) (pl : Int) (wh : Int) (g : Nat → Int) (pz : Int) (hpl : pl = pz) (hpz : 1 ≤ pz ∧ pz ≤ 4) : Met l yX1_spreadBelow (wU yX1_spreadBelow cX1_spreadBelow 1 (some .long)) (rmF 1 20) (pcR D (tyA cI cL cG cM) [(ea, .inr (1, [.ref ga, .ref elk, .int (iI cnt), .int (iI snd), .ref ept, .ref efr, .ref etk, .ref ebt, .ref etp, .int (iI wp), .ref etb, .ref ewn, .int (iI pl), .long (lI wh)])), (elk, .inl (cI, 4, .inl (aI lk))), (ept, .inl (cL, 4, .inr (.inl (aL pt)))), (efr, .inl (cI, 10, .inl (aI fr))), (etk, .inl (cI, 4, .inl (aI tk))), (ebt, .inl (cI, 16, .inl (aI bt))), (etp, .inl (cI, 4, .inl (aI tps))), (etb, .inl (cL, 9, .inr (.inl (aL tbl)))), (ewn, .inl (cL, 3, .inr (.inl (aL wn)))), (ga, .inr (2, [.int (iI (g 0)), .ref gx, .ref gy, .ref gz, .int (iI (g 1)), .int (iI (g 2)), .int (iI (g 3)), .int (iI (g 4)), .int (iI (g 5)), .int (iI (g 6)), .int (iI (g 7)), .int (iI (g 8)), .int (iI (g 9))])), (gx, .inl (cI, 10, .inl (aI (fun j => g (10 + 3 * j))))), (gy, .inl (cI, 10, .inl (aI (fun j => g (11 + 3 * j))))), (gz, .inl (cI, 10, .inl (aI (fun j => g (12 + 3 * j)))))] [.ref ea]) (qRl (pz * (pz * wh))) 0 0 (fun _ => False) := by
  refine zm_R (own := RX1) (lv := [(0, .ref ea)]) (by decide) rfl (Nat.le_of_ble_eq_true rfl) rfl ?_
  intro p e s m below meth c args Q hx hb hr hml hown hU hlk hP hK hNst hQ ls hl
  refine lv_aload_n hx hb dX1_spreadBelow_0 rfl (lv_at hl 0 rfl) ?_
  refine va_get (D := D) (ci := 1) (v := .int (iI pl)) (C := RX1) (T := TX1) (N := 14) hx hb hU inlX1 hown hK hP 0 rfl rfl 12 (by decide) (hU _ kf_RX1_41) (fun _ h9 => h9) rfl dX1_spreadBelow_1 ?_
  refine zr_i2l hx hb dX1_spreadBelow_4 (by omega) ?_
  refine lv_aload_n hx hb dX1_spreadBelow_5 rfl (lv_at hl 0 rfl) ?_
  refine zc_Vl (As := []) (rest := [.long (lI pl)]) (c_X1_below l D cI cL cG cM ea elk ept efr etk ebt etp etb ewn ga gx gy gz lk cnt snd pt fr tk bt tps wp tbl wn pl wh g pz (hpl) (by omega)) hx hb hml hown hU hl.1 ct_yX1_below cv_yX1_below km_RX1_138 hK hNst hP 1 0 rfl rfl rfl ⟨rfl, rfl⟩ ⟨Nat.le_of_ble_eq_true rfl, Nat.le_of_ble_eq_true rfl⟩ rfl rfl (Nat.le_of_ble_eq_true rfl) dX1_spreadBelow_6 ⟨Nat.le_of_ble_eq_true rfl, Nat.le_of_ble_eq_true rfl⟩ ?_
  refine zr_lmul hx hb dX1_spreadBelow_9 ?_
  rw [hQ]
  exact ze_Rl hx hb hr hlk dX1_spreadBelow_10 (by rw [hpl])

set_option maxHeartbeats 4000000 in
set_option maxRecDepth 100000 in
theorem c_X1_gradeAbove (l : Launch) (D : va_G) (cI cL cG cM : ClassId) (ea elk ept efr etk ebt etp etb ewn ga gx gy gz : Nat) (lk : Nat → Int) (cnt : Int) (snd : Int) (pt : Nat → Int) (fr : Nat → Int) (tk : Nat → Int) (bt : Nat → Int) (tps : Nat → Int) (wp : Int) (tbl : Nat → Int) (wn : Nat → Int) (pl : Int) (wh : Int) (g : Nat → Int) (L : List Nat) (v : Nat → Int) (pz : Int) (inn : Int) (hv : vR g) (hok : okL g L) (he : eOK g L v pz inn lk cnt snd pt bt tps wp pl wh) (hpz : 1 ≤ pz ∧ pz ≤ 4) (h1l : 1 ≤ L.length) : Met l yX1_gradeAbove (wU yX1_gradeAbove cX1_gradeAbove 4 (some .long)) (rmF 0 0) (pcR D (tyA cI cL cG cM) [(ea, .inr (1, [.ref ga, .ref elk, .int (iI cnt), .int (iI snd), .ref ept, .ref efr, .ref etk, .ref ebt, .ref etp, .int (iI wp), .ref etb, .ref ewn, .int (iI pl), .long (lI wh)])), (elk, .inl (cI, 4, .inl (aI lk))), (ept, .inl (cL, 4, .inr (.inl (aL pt)))), (efr, .inl (cI, 10, .inl (aI fr))), (etk, .inl (cI, 4, .inl (aI tk))), (ebt, .inl (cI, 16, .inl (aI bt))), (etp, .inl (cI, 4, .inl (aI tps))), (etb, .inl (cL, 9, .inr (.inl (aL tbl)))), (ewn, .inl (cL, 3, .inr (.inl (aL wn)))), (ga, .inr (2, [.int (iI (g 0)), .ref gx, .ref gy, .ref gz, .int (iI (g 1)), .int (iI (g 2)), .int (iI (g 3)), .int (iI (g 4)), .int (iI (g 5)), .int (iI (g 6)), .int (iI (g 7)), .int (iI (g 8)), .int (iI (g 9))])), (gx, .inl (cI, 10, .inl (aI (fun j => g (10 + 3 * j))))), (gy, .inl (cI, 10, .inl (aI (fun j => g (11 + 3 * j))))), (gz, .inl (cI, 10, .inl (aI (fun j => g (12 + 3 * j)))))] [.ref ea]) (qRl (tA (nG g L v pz) (nD g L))) 0 0 (fun _ => False) := by
  refine zm_R (own := RX1) (lv := [(0, .ref ea)]) (by decide) rfl (Nat.le_of_ble_eq_true rfl) rfl ?_
  intro p e s m below meth c args Q hx hb hr hml hown hU hlk hP hK hNst hQ ls hl
  have h0 := hv.1
  have h7 := hv.2.2.2.2.2.2.2.1
  have h8 := hv.2.2.2.2.2.2.2.2.1
  have h9 := hv.2.2.2.2.2.2.2.2.2.1
  have h4 := okL_le hv hok
  have hL := he.1
  have hl1 := hL.1
  have hpl := he.2.1
  have hwr := eWh hv hok he
  refine lv_lconst (v := lI 0) hx hb dX1_gradeAbove_0 rfl ?_
  refine lv_lstore_n (lv' := [(1, .long (lI 0)), (0, .ref ea)]) hx hb dX1_gradeAbove_1 rfl hl (by decide) rfl (fun ls hl => ?_)
  refine lv_iconst (v := iI 0) hx hb dX1_gradeAbove_2 rfl ?_
  refine lv_istore_n (lv' := [(3, .int (iI 0)), (1, .long (lI 0)), (0, .ref ea)]) hx hb dX1_gradeAbove_3 rfl hl (by decide) rfl (fun ls hl => ?_)
  have LP4 : ∀ (n : Nat), ∀ (j : Nat) (sm1 : Int), (j ≤ L.length) → (sm1 = sm (fun j => pt j * g (12 + 3 * L.getD j 0)) j) → (L.length < j + n) → ∀ (ls : Array Slot), lv_has ls 4 [(0, .ref ea), (1, .long (lI sm1)), (3, .int (iI (j : Int)))] → W p l e (rmF 0 0) s m args below meth c s.heap [] 0 0 Q (F0 m 4 ls []) := by
    intro n
    induction n with
    | zero =>
      intro j sm1 hj hsm hfu
      exfalso
      omega
    | succ n ih4 =>
      intro j sm1 hj hsm hfu ls hl
      refine lv_iload_n hx hb dX1_gradeAbove_4 rfl (lv_at hl 2 rfl) ?_
      refine lv_aload_n hx hb dX1_gradeAbove_5 rfl (lv_at hl 0 rfl) ?_
      refine va_get (D := D) (ci := 1) (v := .int (iI cnt)) (C := RX1) (T := TX1) (N := 14) hx hb hU inlX1 hown hK hP 0 rfl rfl 2 (by decide) (hU _ kf_RX1_49) (fun _ h9 => h9) rfl dX1_gradeAbove_6 ?_
      refine zr_icmp_ge (tgt := 43) hx hb dX1_gradeAbove_9 (by decide) (by omega) (by omega) (fun c_1 => ?_) (fun c_1 => ?_)
      · skip
        refine lv_lload_n hx hb dX1_gradeAbove_43 rfl (lv_at hl 1 rfl) ?_
        rw [hQ]
        exact ze_Rl hx hb hr hlk dX1_gradeAbove_44 (by rw [hsm, show j = L.length by omega]; exact gA_eq h4 (he.2.2.2.2 h1l).2.1)
      · skip
        have g1 := okL_get hok (j := j) (by omega)
        have q1 := hv.2.2.2.2.2.2.2.2.2.2 _ g1
        refine lv_lload_n hx hb dX1_gradeAbove_12 rfl (lv_at hl 1 rfl) ?_
        refine lv_aload_n hx hb dX1_gradeAbove_13 rfl (lv_at hl 0 rfl) ?_
        refine va_get (D := D) (ci := 1) (v := .ref ept) (C := RX1) (T := TX1) (N := 14) hx hb hU inlX1 hown hK hP 0 rfl rfl 4 (by decide) (hU _ kf_RX1_15) (fun _ h9 => h9) rfl dX1_gradeAbove_14 ?_
        refine lv_iload_n hx hb dX1_gradeAbove_17 rfl (lv_at hl 2 rfl) ?_
        refine zr_lald hx hb hK hP 2 1 rfl rfl j (by omega) (by omega) (Nat.le_of_ble_eq_true rfl) dX1_gradeAbove_18 ?_
        refine lv_aload_n hx hb dX1_gradeAbove_19 rfl (lv_at hl 0 rfl) ?_
        refine va_get (D := D) (ci := 1) (v := .ref ga) (C := RX1) (T := TX1) (N := 14) hx hb hU inlX1 hown hK hP 0 rfl rfl 0 (by decide) (hU _ kf_RX1_37) (fun _ h9 => h9) rfl dX1_gradeAbove_20 ?_
        refine va_get (D := D) (ci := 2) (v := .ref gz) (C := RX2) (T := TX2) (N := 13) hx hb hU inlX2 hown hK hP 9 rfl rfl 3 (by decide) (hU _ kf_RX1_154) (fun _ h9 => h9) rfl dX1_gradeAbove_23 ?_
        refine lv_aload_n hx hb dX1_gradeAbove_26 rfl (lv_at hl 0 rfl) ?_
        refine va_get (D := D) (ci := 1) (v := .ref elk) (C := RX1) (T := TX1) (N := 14) hx hb hU inlX1 hown hK hP 0 rfl rfl 1 (by decide) (hU _ kf_RX1_9) (fun _ h9 => h9) rfl dX1_gradeAbove_27 ?_
        refine lv_iload_n hx hb dX1_gradeAbove_30 rfl (lv_at hl 2 rfl) ?_
        refine zr_iald hx hb hK hP 1 0 rfl rfl j (by omega) (by omega) (Nat.le_of_ble_eq_true rfl) dX1_gradeAbove_31 ?_
        refine zr_rw (v := (((L.getD j 0) : Nat) : Int)) (hL.2 j (by omega)) ?_
        refine zr_iald hx hb hK hP 12 0 rfl rfl (L.getD j 0) (by omega) (by omega) (Nat.le_of_ble_eq_true rfl) dX1_gradeAbove_32 ?_
        refine zr_rw (v := (g (12 + 3 * (L.getD j 0)))) rfl ?_
        refine zr_i2l hx hb dX1_gradeAbove_33 (by omega) ?_
        refine zr_lmul hx hb dX1_gradeAbove_34 ?_
        refine zr_ladd hx hb dX1_gradeAbove_35 ?_
        refine lv_lstore_n (lv' := [(1, .long (lI (sm1 + ((pt j) * (g (12 + 3 * (L.getD j 0))))))), (0, .ref ea), (3, .int (iI (j : Int)))]) hx hb dX1_gradeAbove_36 rfl hl (by decide) rfl (fun ls hl => ?_)
        refine lv_iinc (v := iI ((j : Int) + 1)) (lv' := [(3, .int (iI ((j : Int) + 1))), (1, .long (lI (sm1 + ((pt j) * (g (12 + 3 * (L.getD j 0))))))), (0, .ref ea)]) hx hb dX1_gradeAbove_37 hl (k := 2) rfl (iI_add _ _) (by decide) rfl (fun ls hl => ?_)
        refine lv_goto (tgt := 4) hx hb dX1_gradeAbove_40 (by decide) ?_
        exact ih4 (j + 1) (sm1 + ((pt j) * (g (12 + 3 * (L.getD j 0))))) (by omega) (by rw [hsm]; rfl) (by omega) ls (lv_sub hl [2, 1, 0] rfl)
  exact LP4 (L.length + 1) 0 0 (by omega) (rfl) (by omega) ls (lv_sub hl [2, 1, 0] rfl)

set_option maxHeartbeats 4000000 in
set_option maxRecDepth 100000 in
theorem c_X1_gradeCut (l : Launch) (D : va_G) (cI cL cG cM : ClassId) (ea elk ept efr etk ebt etp etb ewn ga gx gy gz : Nat) (lk : Nat → Int) (cnt : Int) (snd : Int) (pt : Nat → Int) (fr : Nat → Int) (tk : Nat → Int) (bt : Nat → Int) (tps : Nat → Int) (wp : Int) (tbl : Nat → Int) (wn : Nat → Int) (pl : Int) (wh : Int) (g : Nat → Int) (L : List Nat) (v : Nat → Int) (pz : Int) (inn : Int) (hv : vR g) (hok : okL g L) (he : eOK g L v pz inn lk cnt snd pt bt tps wp pl wh) (hpz : 1 ≤ pz ∧ pz ≤ 4) (h1l : 1 ≤ L.length) (hV : okV L.length v pz) (hne : wh ≠ 0) : Met l yX1_gradeCut (wU yX1_gradeCut cX1_gradeCut 3 (some .long)) (rmF 1 23) (pcR D (tyA cI cL cG cM) [(ea, .inr (1, [.ref ga, .ref elk, .int (iI cnt), .int (iI snd), .ref ept, .ref efr, .ref etk, .ref ebt, .ref etp, .int (iI wp), .ref etb, .ref ewn, .int (iI pl), .long (lI wh)])), (elk, .inl (cI, 4, .inl (aI lk))), (ept, .inl (cL, 4, .inr (.inl (aL pt)))), (efr, .inl (cI, 10, .inl (aI fr))), (etk, .inl (cI, 4, .inl (aI tk))), (ebt, .inl (cI, 16, .inl (aI bt))), (etp, .inl (cI, 4, .inl (aI tps))), (etb, .inl (cL, 9, .inr (.inl (aL tbl)))), (ewn, .inl (cL, 3, .inr (.inl (aL wn)))), (ga, .inr (2, [.int (iI (g 0)), .ref gx, .ref gy, .ref gz, .int (iI (g 1)), .int (iI (g 2)), .int (iI (g 3)), .int (iI (g 4)), .int (iI (g 5)), .int (iI (g 6)), .int (iI (g 7)), .int (iI (g 8)), .int (iI (g 9))])), (gx, .inl (cI, 10, .inl (aI (fun j => g (10 + 3 * j))))), (gy, .inl (cI, 10, .inl (aI (fun j => g (11 + 3 * j))))), (gz, .inl (cI, 10, .inl (aI (fun j => g (12 + 3 * j)))))] [.ref ea]) (qRl ((tA (nG g L v pz) (nD g L)).tdiv (pz * tB (nD g L)))) 0 0 (fun _ => False) := by
  refine zm_R (own := RX1) (lv := [(0, .ref ea)]) (by decide) rfl (Nat.le_of_ble_eq_true rfl) rfl ?_
  intro p e s m below meth c args Q hx hb hr hml hown hU hlk hP hK hNst hQ ls hl
  have h0 := hv.1
  have h7 := hv.2.2.2.2.2.2.2.1
  have h8 := hv.2.2.2.2.2.2.2.2.1
  have h9 := hv.2.2.2.2.2.2.2.2.2.1
  have h4 := okL_le hv hok
  have hL := he.1
  have hl1 := hL.1
  have hpl := he.2.1
  have hwr := eWh hv hok he
  have hwe := (he.2.2.2.2 h1l).1
  have hm1 := mul_rg (a := pz) (b := wh) (A := 4) (B := 324060912) (by omega) (by omega)
  have hm2 := Int.mul_pos (show 0 < pz by omega) (show 0 < wh by omega)
  have htr := tA_rg (b := nD g L) (nG_rg hv hok hV)
  refine lv_aload_n hx hb dX1_gradeCut_0 rfl (lv_at hl 0 rfl) ?_
  refine zc_Vl (As := []) (rest := []) (c_X1_below l D cI cL cG cM ea elk ept efr etk ebt etp etb ewn ga gx gy gz lk cnt snd pt fr tk bt tps wp tbl wn pl wh g pz (hpl) (by omega)) hx hb hml hown hU hl.1 ct_yX1_below cv_yX1_below km_RX1_138 hK hNst hP 1 0 rfl rfl rfl ⟨rfl, rfl⟩ ⟨Nat.le_of_ble_eq_true rfl, Nat.le_of_ble_eq_true rfl⟩ rfl rfl (Nat.le_of_ble_eq_true rfl) dX1_gradeCut_1 ⟨Nat.le_of_ble_eq_true rfl, Nat.le_of_ble_eq_true rfl⟩ ?_
  refine lv_lstore_n (lv' := [(1, .long (lI (pz * wh))), (0, .ref ea)]) hx hb dX1_gradeCut_4 rfl hl (by decide) rfl (fun ls hl => ?_)
  refine lv_lload_n hx hb dX1_gradeCut_5 rfl (lv_at hl 0 rfl) ?_
  refine lv_lconst (v := lI 0) hx hb dX1_gradeCut_6 rfl ?_
  refine zr_lcmp_ne (tgt := 17) hx hb dX1_gradeCut_7 dX1_gradeCut_8 (by decide) (by omega) (by omega) (fun c_1 => ?_) (fun c_1 => by exfalso; omega)
  refine lv_aload_n hx hb dX1_gradeCut_17 rfl (lv_at hl 1 rfl) ?_
  refine zc_Vl (As := []) (rest := []) (c_X1_gradeAbove l D cI cL cG cM ea elk ept efr etk ebt etp etb ewn ga gx gy gz lk cnt snd pt fr tk bt tps wp tbl wn pl wh g L v pz inn (hv) (hok) (he) (by omega) (h1l)) hx hb hml hown hU hl.1 ct_yX1_gradeAbove cv_yX1_gradeAbove km_RX1_134 hK hNst hP 1 0 rfl rfl rfl ⟨rfl, rfl⟩ ⟨Nat.le_of_ble_eq_true rfl, Nat.le_of_ble_eq_true rfl⟩ rfl rfl (Nat.le_of_ble_eq_true rfl) dX1_gradeCut_18 ⟨Nat.le_of_ble_eq_true rfl, Nat.le_of_ble_eq_true rfl⟩ ?_
  refine lv_lload_n hx hb dX1_gradeCut_21 rfl (lv_at hl 0 rfl) ?_
  refine zr_ldiv hx hb dX1_gradeCut_22 (by omega) (by omega) (by omega) ?_
  rw [hQ]
  exact ze_Rl hx hb hr hlk dX1_gradeCut_23 (by rw [hwe])

set_option maxHeartbeats 4000000 in
set_option maxRecDepth 100000 in
theorem c_X1_floorAbove (l : Launch) (D : va_G) (cI cL cG cM : ClassId) (ea elk ept efr etk ebt etp etb ewn ga gx gy gz : Nat) (lk : Nat → Int) (cnt : Int) (snd : Int) (pt : Nat → Int) (fr : Nat → Int) (tk : Nat → Int) (bt : Nat → Int) (tps : Nat → Int) (wp : Int) (tbl : Nat → Int) (wn : Nat → Int) (pl : Int) (wh : Int) (g : Nat → Int) (L : List Nat) (v : Nat → Int) (pz : Int) (inn : Int) (hv : vR g) (hok : okL g L) (he : eOK g L v pz inn lk cnt snd pt bt tps wp pl wh) (hpz : 1 ≤ pz ∧ pz ≤ 4) (h1l : 1 ≤ L.length) (hV : okV L.length v pz) : Met l yX1_floorAbove (wU yX1_floorAbove cX1_floorAbove 4 (some .long)) (rmF 0 0) (pcR D (tyA cI cL cG cM) [(ea, .inr (1, [.ref ga, .ref elk, .int (iI cnt), .int (iI snd), .ref ept, .ref efr, .ref etk, .ref ebt, .ref etp, .int (iI wp), .ref etb, .ref ewn, .int (iI pl), .long (lI wh)])), (elk, .inl (cI, 4, .inl (aI lk))), (ept, .inl (cL, 4, .inr (.inl (aL pt)))), (efr, .inl (cI, 10, .inl (aI fr))), (etk, .inl (cI, 4, .inl (aI tk))), (ebt, .inl (cI, 16, .inl (aI bt))), (etp, .inl (cI, 4, .inl (aI tps))), (etb, .inl (cL, 9, .inr (.inl (aL tbl)))), (ewn, .inl (cL, 3, .inr (.inl (aL wn)))), (ga, .inr (2, [.int (iI (g 0)), .ref gx, .ref gy, .ref gz, .int (iI (g 1)), .int (iI (g 2)), .int (iI (g 3)), .int (iI (g 4)), .int (iI (g 5)), .int (iI (g 6)), .int (iI (g 7)), .int (iI (g 8)), .int (iI (g 9))])), (gx, .inl (cI, 10, .inl (aI (fun j => g (10 + 3 * j))))), (gy, .inl (cI, 10, .inl (aI (fun j => g (11 + 3 * j))))), (gz, .inl (cI, 10, .inl (aI (fun j => g (12 + 3 * j)))))] [.ref ea]) (qRl (tA (nF g L v pz) (nD g L))) 0 0 (fun _ => False) := by
  refine zm_R (own := RX1) (lv := [(0, .ref ea)]) (by decide) rfl (Nat.le_of_ble_eq_true rfl) rfl ?_
  intro p e s m below meth c args Q hx hb hr hml hown hU hlk hP hK hNst hQ ls hl
  have h0 := hv.1
  have h7 := hv.2.2.2.2.2.2.2.1
  have h8 := hv.2.2.2.2.2.2.2.2.1
  have h9 := hv.2.2.2.2.2.2.2.2.2.1
  have h4 := okL_le hv hok
  have hL := he.1
  have hl1 := hL.1
  have hpl := he.2.1
  have hwr := eWh hv hok he
  obtain ⟨hwe, hpt, hbt, htp, hwp⟩ := he.2.2.2.2 h1l
  have hv0 := hV.2 0 (by omega)
  have ht0 := htp 0 (by omega)
  refine lv_aload_n hx hb dX1_floorAbove_0 rfl (lv_at hl 0 rfl) ?_
  refine va_get (D := D) (ci := 1) (v := .ref etp) (C := RX1) (T := TX1) (N := 14) hx hb hU inlX1 hown hK hP 0 rfl rfl 8 (by decide) (hU _ kf_RX1_28) (fun _ h9 => h9) rfl dX1_floorAbove_1 ?_
  refine lv_iconst (v := iI 0) hx hb dX1_floorAbove_4 rfl ?_
  refine zr_iald hx hb hK hP 6 0 rfl rfl 0 (by omega) (by omega) (Nat.le_of_ble_eq_true rfl) dX1_floorAbove_5 ?_
  refine zr_i2l hx hb dX1_floorAbove_6 (by omega) ?_
  refine lv_aload_n hx hb dX1_floorAbove_7 rfl (lv_at hl 0 rfl) ?_
  refine va_get (D := D) (ci := 1) (v := .long (lI wh)) (C := RX1) (T := TX1) (N := 14) hx hb hU inlX1 hown hK hP 0 rfl rfl 13 (by decide) (hU _ kf_RX1_52) (fun _ h9 => h9) rfl dX1_floorAbove_8 ?_
  refine zr_lmul hx hb dX1_floorAbove_11 ?_
  refine lv_lstore_n (lv' := [(1, .long (lI ((tps 0) * wh))), (0, .ref ea)]) hx hb dX1_floorAbove_12 rfl hl (by decide) rfl (fun ls hl => ?_)
  refine lv_iconst (v := iI 1) hx hb dX1_floorAbove_13 rfl ?_
  refine lv_istore_n (lv' := [(3, .int (iI 1)), (1, .long (lI ((tps 0) * wh))), (0, .ref ea)]) hx hb dX1_floorAbove_14 rfl hl (by decide) rfl (fun ls hl => ?_)
  have LP15 : ∀ (n : Nat), ∀ (q : Nat) (sm1 : Int), (q + 1 ≤ L.length) → (sm1 = tps 0 * wh - sm (fun i => pt (i + 1) * bt (4 * 0 + (i + 1))) q) → (L.length < q + n) → ∀ (ls : Array Slot), lv_has ls 4 [(0, .ref ea), (1, .long (lI sm1)), (3, .int (iI (((q + 1) : Nat) : Int)))] → W p l e (rmF 0 0) s m args below meth c s.heap [] 0 0 Q (F0 m 15 ls []) := by
    intro n
    induction n with
    | zero =>
      intro q sm1 hq hsm hfu
      exfalso
      omega
    | succ n ih15 =>
      intro q sm1 hq hsm hfu ls hl
      refine lv_iload_n hx hb dX1_floorAbove_15 rfl (lv_at hl 2 rfl) ?_
      refine lv_aload_n hx hb dX1_floorAbove_16 rfl (lv_at hl 0 rfl) ?_
      refine va_get (D := D) (ci := 1) (v := .int (iI cnt)) (C := RX1) (T := TX1) (N := 14) hx hb hU inlX1 hown hK hP 0 rfl rfl 2 (by decide) (hU _ kf_RX1_49) (fun _ h9 => h9) rfl dX1_floorAbove_17 ?_
      refine zr_icmp_ge (tgt := 46) hx hb dX1_floorAbove_20 (by decide) (by omega) (by omega) (fun c_1 => ?_) (fun c_1 => ?_)
      · skip
        refine lv_lload_n hx hb dX1_floorAbove_46 rfl (lv_at hl 1 rfl) ?_
        rw [hQ]
        exact ze_Rl hx hb hr hlk dX1_floorAbove_47 (by rw [hsm, show q = L.length - 1 by omega]; exact fA_eq h4 h1l hwe hpt hbt htp)
      · skip
        refine lv_lload_n hx hb dX1_floorAbove_23 rfl (lv_at hl 1 rfl) ?_
        refine lv_aload_n hx hb dX1_floorAbove_24 rfl (lv_at hl 0 rfl) ?_
        refine va_get (D := D) (ci := 1) (v := .ref ept) (C := RX1) (T := TX1) (N := 14) hx hb hU inlX1 hown hK hP 0 rfl rfl 4 (by decide) (hU _ kf_RX1_15) (fun _ h9 => h9) rfl dX1_floorAbove_25 ?_
        refine lv_iload_n hx hb dX1_floorAbove_28 rfl (lv_at hl 2 rfl) ?_
        refine zr_lald hx hb hK hP 2 1 rfl rfl (q + 1) (by omega) (by omega) (Nat.le_of_ble_eq_true rfl) dX1_floorAbove_29 ?_
        refine lv_aload_n hx hb dX1_floorAbove_30 rfl (lv_at hl 0 rfl) ?_
        refine va_get (D := D) (ci := 1) (v := .ref ebt) (C := RX1) (T := TX1) (N := 14) hx hb hU inlX1 hown hK hP 0 rfl rfl 7 (by decide) (hU _ kf_RX1_25) (fun _ h9 => h9) rfl dX1_floorAbove_31 ?_
        refine lv_iload_n hx hb dX1_floorAbove_34 rfl (lv_at hl 2 rfl) ?_
        refine zr_iald hx hb hK hP 5 0 rfl rfl (4 * 0 + (q + 1)) (by omega) (by omega) (Nat.le_of_ble_eq_true rfl) dX1_floorAbove_35 ?_
        have hb8 := hbt 0 (q + 1) (by omega) (by omega)
        have hu8 := sp_uu_rg hv hok (i := 0) (j := q + 1) (by omega) (by omega)
        refine zr_i2l hx hb dX1_floorAbove_36 (by omega) ?_
        refine zr_lmul hx hb dX1_floorAbove_37 ?_
        refine zr_lsub hx hb dX1_floorAbove_38 ?_
        refine lv_lstore_n (lv' := [(1, .long (lI (sm1 - ((pt (q + 1)) * (bt (4 * 0 + (q + 1))))))), (0, .ref ea), (3, .int (iI (((q + 1) : Nat) : Int)))]) hx hb dX1_floorAbove_39 rfl hl (by decide) rfl (fun ls hl => ?_)
        refine lv_iinc (v := iI ((((q + 1) : Nat) : Int) + 1)) (lv' := [(3, .int (iI ((((q + 1) : Nat) : Int) + 1))), (1, .long (lI (sm1 - ((pt (q + 1)) * (bt (4 * 0 + (q + 1))))))), (0, .ref ea)]) hx hb dX1_floorAbove_40 hl (k := 2) rfl (iI_add _ _) (by decide) rfl (fun ls hl => ?_)
        refine lv_goto (tgt := 15) hx hb dX1_floorAbove_43 (by decide) ?_
        exact ih15 (q + 1) (sm1 - ((pt (q + 1)) * (bt (4 * 0 + (q + 1))))) (by omega) (by rw [hsm]; show _ = _ - (sm _ q + pt (q + 1) * bt (4 * 0 + (q + 1))); omega) (by omega) ls (lv_sub hl [2, 1, 0] rfl)
  exact LP15 (L.length + 1) 0 ((tps 0) * wh) (by omega) ((Int.sub_zero _).symm) (by omega) ls (lv_sub hl [2, 1, 0] rfl)

set_option maxHeartbeats 4000000 in
set_option maxRecDepth 100000 in
theorem c_X1_spreadAbove (l : Launch) (D : va_G) (cI cL cG cM : ClassId) (ea elk ept efr etk ebt etp etb ewn ga gx gy gz : Nat) (lk : Nat → Int) (cnt : Int) (snd : Int) (pt : Nat → Int) (fr : Nat → Int) (tk : Nat → Int) (bt : Nat → Int) (tps : Nat → Int) (wp : Int) (tbl : Nat → Int) (wn : Nat → Int) (pl : Int) (wh : Int) (g : Nat → Int) (L : List Nat) (v : Nat → Int) (pz : Int) (inn : Int) (hv : vR g) (hok : okL g L) (he : eOK g L v pz inn lk cnt snd pt bt tps wp pl wh) (hpz : 1 ≤ pz ∧ pz ≤ 4) (h1l : 1 ≤ L.length) (hV : okV L.length v pz) (hin : 0 ≤ inn ∧ inn ≤ 10000) : Met l yX1_spreadAbove (wU yX1_spreadAbove cX1_spreadAbove 4 (some .long)) (rmF 1 23) (pcR D (tyA cI cL cG cM) [(ea, .inr (1, [.ref ga, .ref elk, .int (iI cnt), .int (iI snd), .ref ept, .ref efr, .ref etk, .ref ebt, .ref etp, .int (iI wp), .ref etb, .ref ewn, .int (iI pl), .long (lI wh)])), (elk, .inl (cI, 4, .inl (aI lk))), (ept, .inl (cL, 4, .inr (.inl (aL pt)))), (efr, .inl (cI, 10, .inl (aI fr))), (etk, .inl (cI, 4, .inl (aI tk))), (ebt, .inl (cI, 16, .inl (aI bt))), (etp, .inl (cI, 4, .inl (aI tps))), (etb, .inl (cL, 9, .inr (.inl (aL tbl)))), (ewn, .inl (cL, 3, .inr (.inl (aL wn)))), (ga, .inr (2, [.int (iI (g 0)), .ref gx, .ref gy, .ref gz, .int (iI (g 1)), .int (iI (g 2)), .int (iI (g 3)), .int (iI (g 4)), .int (iI (g 5)), .int (iI (g 6)), .int (iI (g 7)), .int (iI (g 8)), .int (iI (g 9))])), (gx, .inl (cI, 10, .inl (aI (fun j => g (10 + 3 * j))))), (gy, .inl (cI, 10, .inl (aI (fun j => g (11 + 3 * j))))), (gz, .inl (cI, 10, .inl (aI (fun j => g (12 + 3 * j)))))] [.ref ea]) (qRl (tA (nS g L v pz inn) (nD g L))) 0 0 (fun _ => False) := by
  refine zm_R (own := RX1) (lv := [(0, .ref ea)]) (by decide) rfl (Nat.le_of_ble_eq_true rfl) rfl ?_
  intro p e s m below meth c args Q hx hb hr hml hown hU hlk hP hK hNst hQ ls hl
  have h0 := hv.1
  have h7 := hv.2.2.2.2.2.2.2.1
  have h8 := hv.2.2.2.2.2.2.2.2.1
  have h9 := hv.2.2.2.2.2.2.2.2.2.1
  have h4 := okL_le hv hok
  have hL := he.1
  have hl1 := hL.1
  have hpl := he.2.1
  have hwr := eWh hv hok he
  obtain ⟨hwe, hpt, hbt, htp, hwp⟩ := he.2.2.2.2 h1l
  refine lv_aload_n hx hb dX1_spreadAbove_0 rfl (lv_at hl 0 rfl) ?_
  refine va_get (D := D) (ci := 1) (v := .int (iI pl)) (C := RX1) (T := TX1) (N := 14) hx hb hU inlX1 hown hK hP 0 rfl rfl 12 (by decide) (hU _ kf_RX1_41) (fun _ h9 => h9) rfl dX1_spreadAbove_1 ?_
  refine zr_i2l hx hb dX1_spreadAbove_4 (by omega) ?_
  refine lv_aload_n hx hb dX1_spreadAbove_5 rfl (lv_at hl 0 rfl) ?_
  refine zc_Vl (As := []) (rest := [.long (lI pl)]) (c_X1_floorAbove l D cI cL cG cM ea elk ept efr etk ebt etp etb ewn ga gx gy gz lk cnt snd pt fr tk bt tps wp tbl wn pl wh g L v pz inn (hv) (hok) (he) (by omega) (h1l) (hV)) hx hb hml hown hU hl.1 ct_yX1_floorAbove cv_yX1_floorAbove km_RX1_151 hK hNst hP 1 0 rfl rfl rfl ⟨rfl, rfl⟩ ⟨Nat.le_of_ble_eq_true rfl, Nat.le_of_ble_eq_true rfl⟩ rfl rfl (Nat.le_of_ble_eq_true rfl) dX1_spreadAbove_6 ⟨Nat.le_of_ble_eq_true rfl, Nat.le_of_ble_eq_true rfl⟩ ?_
  refine zr_lmul hx hb dX1_spreadAbove_9 ?_
  refine lv_aload_n hx hb dX1_spreadAbove_10 rfl (lv_at hl 0 rfl) ?_
  refine va_get (D := D) (ci := 1) (v := .int (iI wp)) (C := RX1) (T := TX1) (N := 14) hx hb hU inlX1 hown hK hP 0 rfl rfl 9 (by decide) (hU _ kf_RX1_127) (fun _ h9 => h9) rfl dX1_spreadAbove_11 ?_
  refine zr_i2l hx hb dX1_spreadAbove_14 (by omega) ?_
  refine lv_aload_n hx hb dX1_spreadAbove_15 rfl (lv_at hl 0 rfl) ?_
  refine va_get (D := D) (ci := 1) (v := .long (lI wh)) (C := RX1) (T := TX1) (N := 14) hx hb hU inlX1 hown hK hP 0 rfl rfl 13 (by decide) (hU _ kf_RX1_52) (fun _ h9 => h9) rfl dX1_spreadAbove_16 ?_
  refine zr_lmul hx hb dX1_spreadAbove_19 ?_
  refine zr_lsub hx hb dX1_spreadAbove_20 ?_
  refine lv_lstore_n (lv' := [(1, .long (lI ((pl * (tA (nF g L v pz) (nD g L))) - (wp * wh)))), (0, .ref ea)]) hx hb dX1_spreadAbove_21 rfl hl (by decide) rfl (fun ls hl => ?_)
  refine lv_iconst (v := iI 0) hx hb dX1_spreadAbove_22 rfl ?_
  refine lv_istore_n (lv' := [(3, .int (iI 0)), (1, .long (lI ((pl * (tA (nF g L v pz) (nD g L))) - (wp * wh)))), (0, .ref ea)]) hx hb dX1_spreadAbove_23 rfl hl (by decide) rfl (fun ls hl => ?_)
  have LP24 : ∀ (n : Nat), ∀ (j : Nat) (sm1 : Int), (j ≤ L.length) → (sm1 = pz * tA (nF g L v pz) (nD g L) - inn * wh + sm (fun j => pt j * tps j) j) → (L.length < j + n) → ∀ (ls : Array Slot), lv_has ls 4 [(0, .ref ea), (1, .long (lI sm1)), (3, .int (iI (j : Int)))] → W p l e (rmF 1 23) s m args below meth c s.heap [] 0 0 Q (F0 m 24 ls []) := by
    intro n
    induction n with
    | zero =>
      intro j sm1 hj hsm hfu
      exfalso
      omega
    | succ n ih24 =>
      intro j sm1 hj hsm hfu ls hl
      refine lv_iload_n hx hb dX1_spreadAbove_24 rfl (lv_at hl 2 rfl) ?_
      refine lv_aload_n hx hb dX1_spreadAbove_25 rfl (lv_at hl 0 rfl) ?_
      refine va_get (D := D) (ci := 1) (v := .int (iI cnt)) (C := RX1) (T := TX1) (N := 14) hx hb hU inlX1 hown hK hP 0 rfl rfl 2 (by decide) (hU _ kf_RX1_49) (fun _ h9 => h9) rfl dX1_spreadAbove_26 ?_
      refine zr_icmp_ge (tgt := 55) hx hb dX1_spreadAbove_29 (by decide) (by omega) (by omega) (fun c_1 => ?_) (fun c_1 => ?_)
      · skip
        refine lv_lload_n hx hb dX1_spreadAbove_55 rfl (lv_at hl 1 rfl) ?_
        rw [hQ]
        exact ze_Rl hx hb hr hlk dX1_spreadAbove_56 (by rw [hsm, show j = L.length by omega]; exact sA_eq h4 hwe rfl hpt htp)
      · skip
        refine lv_lload_n hx hb dX1_spreadAbove_32 rfl (lv_at hl 1 rfl) ?_
        refine lv_aload_n hx hb dX1_spreadAbove_33 rfl (lv_at hl 0 rfl) ?_
        refine va_get (D := D) (ci := 1) (v := .ref ept) (C := RX1) (T := TX1) (N := 14) hx hb hU inlX1 hown hK hP 0 rfl rfl 4 (by decide) (hU _ kf_RX1_15) (fun _ h9 => h9) rfl dX1_spreadAbove_34 ?_
        refine lv_iload_n hx hb dX1_spreadAbove_37 rfl (lv_at hl 2 rfl) ?_
        refine zr_lald hx hb hK hP 2 1 rfl rfl j (by omega) (by omega) (Nat.le_of_ble_eq_true rfl) dX1_spreadAbove_38 ?_
        refine lv_aload_n hx hb dX1_spreadAbove_39 rfl (lv_at hl 0 rfl) ?_
        refine va_get (D := D) (ci := 1) (v := .ref etp) (C := RX1) (T := TX1) (N := 14) hx hb hU inlX1 hown hK hP 0 rfl rfl 8 (by decide) (hU _ kf_RX1_28) (fun _ h9 => h9) rfl dX1_spreadAbove_40 ?_
        refine lv_iload_n hx hb dX1_spreadAbove_43 rfl (lv_at hl 2 rfl) ?_
        refine zr_iald hx hb hK hP 6 0 rfl rfl j (by omega) (by omega) (Nat.le_of_ble_eq_true rfl) dX1_spreadAbove_44 ?_
        have ht8 := htp j (by omega)
        have hv8 := hV.2 j (by omega)
        refine zr_i2l hx hb dX1_spreadAbove_45 (by omega) ?_
        refine zr_lmul hx hb dX1_spreadAbove_46 ?_
        refine zr_ladd hx hb dX1_spreadAbove_47 ?_
        refine lv_lstore_n (lv' := [(1, .long (lI (sm1 + ((pt j) * (tps j))))), (0, .ref ea), (3, .int (iI (j : Int)))]) hx hb dX1_spreadAbove_48 rfl hl (by decide) rfl (fun ls hl => ?_)
        refine lv_iinc (v := iI ((j : Int) + 1)) (lv' := [(3, .int (iI ((j : Int) + 1))), (1, .long (lI (sm1 + ((pt j) * (tps j))))), (0, .ref ea)]) hx hb dX1_spreadAbove_49 hl (k := 2) rfl (iI_add _ _) (by decide) rfl (fun ls hl => ?_)
        refine lv_goto (tgt := 24) hx hb dX1_spreadAbove_52 (by decide) ?_
        exact ih24 (j + 1) (sm1 + ((pt j) * (tps j))) (by omega) (by rw [hsm]; show _ = _ + (sm _ j + pt j * tps j); omega) (by omega) ls (lv_sub hl [2, 1, 0] rfl)
  exact LP24 (L.length + 1) 0 ((pl * (tA (nF g L v pz) (nD g L))) - (wp * wh)) (by omega) (by rw [hpl, hwp]; exact (Int.add_zero _).symm) (by omega) ls (lv_sub hl [2, 1, 0] rfl)

set_option maxHeartbeats 4000000 in
set_option maxRecDepth 100000 in
theorem c_X1_setBelowNothing (l : Launch) (D : va_G) (cI cL cG cM : ClassId) (ea elk ept efr etk ebt etp etb ewn ga gx gy gz : Nat) (lk : Nat → Int) (cnt : Int) (snd : Int) (pt : Nat → Int) (fr : Nat → Int) (tk : Nat → Int) (bt : Nat → Int) (tps : Nat → Int) (wp : Int) (tbl : Nat → Int) (wn : Nat → Int) (pl : Int) (wh : Int) (g : Nat → Int) (L : List Nat) (v : Nat → Int) (pz : Int) (inn : Int) (hv : vR g) (hok : okL g L) (he : eOK g L v pz inn lk cnt snd pt bt tps wp pl wh) (hpz : 1 ≤ pz ∧ pz ≤ 4) (hV : okV L.length v pz) : Met l yX1_setBelowNothing (wU yX1_setBelowNothing cX1_setBelowNothing 3 (some .int)) (rmF 1 20) (pcR D (tyA cI cL cG cM) [(ea, .inr (1, [.ref ga, .ref elk, .int (iI cnt), .int (iI snd), .ref ept, .ref efr, .ref etk, .ref ebt, .ref etp, .int (iI wp), .ref etb, .ref ewn, .int (iI pl), .long (lI wh)])), (elk, .inl (cI, 4, .inl (aI lk))), (ept, .inl (cL, 4, .inr (.inl (aL pt)))), (efr, .inl (cI, 10, .inl (aI fr))), (etk, .inl (cI, 4, .inl (aI tk))), (ebt, .inl (cI, 16, .inl (aI bt))), (etp, .inl (cI, 4, .inl (aI tps))), (etb, .inl (cL, 9, .inr (.inl (aL tbl)))), (ewn, .inl (cL, 3, .inr (.inl (aL wn)))), (ga, .inr (2, [.int (iI (g 0)), .ref gx, .ref gy, .ref gz, .int (iI (g 1)), .int (iI (g 2)), .int (iI (g 3)), .int (iI (g 4)), .int (iI (g 5)), .int (iI (g 6)), .int (iI (g 7)), .int (iI (g 8)), .int (iI (g 9))])), (gx, .inl (cI, 10, .inl (aI (fun j => g (10 + 3 * j))))), (gy, .inl (cI, 10, .inl (aI (fun j => g (11 + 3 * j))))), (gz, .inl (cI, 10, .inl (aI (fun j => g (12 + 3 * j)))))] [.ref ea]) (qRi (ci (gEx g L) ((sp_sets (sp_ngt g L v pz) L L.length : Nat) : Int) 0)) 0 0 (fun _ => False) := by
  refine zm_R (own := RX1) (lv := [(0, .ref ea)]) (by decide) rfl (Nat.le_of_ble_eq_true rfl) rfl ?_
  intro p e s m below meth c args Q hx hb hr hml hown hU hlk hP hK hNst hQ ls hl
  have h0 := hv.1
  have h7 := hv.2.2.2.2.2.2.2.1
  have h8 := hv.2.2.2.2.2.2.2.2.1
  have h9 := hv.2.2.2.2.2.2.2.2.2.1
  have h4 := okL_le hv hok
  have hL := he.1
  have hl1 := hL.1
  have hpl := he.2.1
  have hwr := eWh hv hok he
  refine lv_iconst (v := iI 0) hx hb dX1_setBelowNothing_0 rfl ?_
  refine lv_istore_n (lv' := [(1, .int (iI 0)), (0, .ref ea)]) hx hb dX1_setBelowNothing_1 rfl hl (by decide) rfl (fun ls hl => ?_)
  refine lv_iconst (v := iI 0) hx hb dX1_setBelowNothing_2 rfl ?_
  refine lv_istore_n (lv' := [(2, .int (iI 0)), (1, .int (iI 0)), (0, .ref ea)]) hx hb dX1_setBelowNothing_3 rfl hl (by decide) rfl (fun ls hl => ?_)
  have LP4 : ∀ (n : Nat), ∀ (k : Nat), (k ≤ L.length) → (k = 0 ∨ wh ≠ 0) → (L.length < k + n) → ∀ (ls : Array Slot), lv_has ls 3 [(0, .ref ea), (1, .int (iI (((sp_sets (sp_ngt g L v pz) L k) : Nat) : Int))), (2, .int (iI (k : Int)))] → W p l e (rmF 1 20) s m args below meth c s.heap [] 0 0 Q (F0 m 4 ls []) := by
    intro n
    induction n with
    | zero =>
      intro k hk hk0 hfu
      exfalso
      omega
    | succ n ih4 =>
      intro k hk hk0 hfu ls hl
      refine lv_iload_n hx hb dX1_setBelowNothing_4 rfl (lv_at hl 2 rfl) ?_
      refine lv_aload_n hx hb dX1_setBelowNothing_5 rfl (lv_at hl 0 rfl) ?_
      refine va_get (D := D) (ci := 1) (v := .int (iI cnt)) (C := RX1) (T := TX1) (N := 14) hx hb hU inlX1 hown hK hP 0 rfl rfl 2 (by decide) (hU _ kf_RX1_49) (fun _ h9 => h9) rfl dX1_setBelowNothing_6 ?_
      refine zr_icmp_ge (tgt := 47) hx hb dX1_setBelowNothing_9 (by decide) (by omega) (by omega) (fun c_1 => ?_) (fun c_1 => ?_)
      · skip
        refine lv_iload_n hx hb dX1_setBelowNothing_47 rfl (lv_at hl 1 rfl) ?_
        rw [hQ]
        exact ze_Ri hx hb hr hlk dX1_setBelowNothing_48 (by by_cases hx : gEx g L; (rw [ci_t hx, show k = L.length by omega]); (rw [ci_f hx]; rcases hk0 with q | q; (rw [q]; rfl); (exact absurd ((eEx he).mp q) hx)))
      · skip
        refine lv_aload_n hx hb dX1_setBelowNothing_12 rfl (lv_at hl 0 rfl) ?_
        refine zc_Vi (As := []) (rest := []) (c_X1_exists l D cI cL cG cM ea elk ept efr etk ebt etp etb ewn ga gx gy gz lk cnt snd pt fr tk bt tps wp tbl wn pl wh g (by omega)) hx hb hml hown hU hl.1 ct_yX1_exists cv_yX1_exists km_RX1_130 hK hNst hP 1 0 rfl rfl rfl ⟨rfl, rfl⟩ ⟨Nat.le_of_ble_eq_true rfl, Nat.le_of_ble_eq_true rfl⟩ rfl rfl (Nat.le_of_ble_eq_true rfl) dX1_setBelowNothing_13 ⟨Nat.le_of_ble_eq_true rfl, Nat.le_of_ble_eq_true rfl⟩ ?_
        refine zr_bif_eq (tgt := 47) hx hb dX1_setBelowNothing_16 (by decide) (fun c16 => ?_) (fun c16 => ?_)
        · skip
          refine lv_iload_n hx hb dX1_setBelowNothing_47 rfl (lv_at hl 1 rfl) ?_
          rw [hQ]
          exact ze_Ri hx hb hr hlk dX1_setBelowNothing_48 (by rw [ci_f (fun hx => c16 ((eEx he).mpr hx)), show k = 0 by have hx9 : ¬ (wh ≠ 0) := c16; omega]; rfl)
        · skip
          have g1 := okL_get hok (j := k) (by omega)
          obtain ⟨hwe, hpt, hbt, htp, hwp⟩ := he.2.2.2.2 (by omega)
          have hpk := hpt k (by omega)
          have hpr := tA_rg (b := nD g L) (nP_rg hv hok hV k)
          rw [← hpk] at hpr
          have hng : sp_ngt g L v pz k ↔ pt k < 0 := by rw [hpk]; have hx9 := ((eEx he).mp c16).2; unfold tA; split <;> omega
          refine lv_aload_n hx hb dX1_setBelowNothing_19 rfl (lv_at hl 0 rfl) ?_
          refine va_get (D := D) (ci := 1) (v := .ref ept) (C := RX1) (T := TX1) (N := 14) hx hb hU inlX1 hown hK hP 0 rfl rfl 4 (by decide) (hU _ kf_RX1_15) (fun _ h9 => h9) rfl dX1_setBelowNothing_20 ?_
          refine lv_iload_n hx hb dX1_setBelowNothing_23 rfl (lv_at hl 2 rfl) ?_
          refine zr_lald hx hb hK hP 2 1 rfl rfl k (by omega) (by omega) (Nat.le_of_ble_eq_true rfl) dX1_setBelowNothing_24 ?_
          refine lv_lconst (v := lI 0) hx hb dX1_setBelowNothing_25 rfl ?_
          refine zr_lcmp_ge (tgt := 41) hx hb dX1_setBelowNothing_26 dX1_setBelowNothing_27 (by decide) (by omega) (by omega) (fun c26 => ?_) (fun c26 => ?_)
          · skip
            rw [show (((sp_sets (sp_ngt g L v pz) L k) : Nat) : Int) = (((sp_sets (sp_ngt g L v pz) L (k + 1)) : Nat) : Int) from by rw [sp_sets, if_neg (fun h => by have := hng.mp h; omega), Nat.or_zero]] at hl
            refine lv_iinc (v := iI ((k : Int) + 1)) (lv' := [(2, .int (iI ((k : Int) + 1))), (0, .ref ea), (1, .int (iI (((sp_sets (sp_ngt g L v pz) L (k + 1)) : Nat) : Int)))]) hx hb dX1_setBelowNothing_41 hl (k := 2) rfl (iI_add _ _) (by decide) rfl (fun ls hl => ?_)
            refine lv_goto (tgt := 4) hx hb dX1_setBelowNothing_44 (by decide) ?_
            exact ih4 (k + 1) (by omega) (by omega) (by omega) ls (lv_sub hl [1, 2, 0] rfl)
          · skip
            refine lv_iload_n hx hb dX1_setBelowNothing_30 rfl (lv_at hl 1 rfl) ?_
            refine lv_iconst (v := iI 1) hx hb dX1_setBelowNothing_31 rfl ?_
            refine lv_aload_n hx hb dX1_setBelowNothing_32 rfl (lv_at hl 0 rfl) ?_
            refine va_get (D := D) (ci := 1) (v := .ref elk) (C := RX1) (T := TX1) (N := 14) hx hb hU inlX1 hown hK hP 0 rfl rfl 1 (by decide) (hU _ kf_RX1_9) (fun _ h9 => h9) rfl dX1_setBelowNothing_33 ?_
            refine lv_iload_n hx hb dX1_setBelowNothing_36 rfl (lv_at hl 2 rfl) ?_
            refine zr_iald hx hb hK hP 1 0 rfl rfl k (by omega) (by omega) (Nat.le_of_ble_eq_true rfl) dX1_setBelowNothing_37 ?_
            refine zr_rw (v := (((L.getD k 0) : Nat) : Int)) (hL.2 k (by omega)) ?_
            refine lv_ishl hx hb dX1_setBelowNothing_38 ?_
            refine zr_bti (z := (((2 ^ L.getD k 0) : Nat) : Int)) (bt_shl _ (by omega)) ?_
            refine lv_ior hx hb dX1_setBelowNothing_39 ?_
            refine zr_bti (z := (((sp_sets (sp_ngt g L v pz) L (k + 1)) : Nat) : Int)) (by rw [bt_or, sp_sets, if_pos (hng.mpr c26)]) ?_
            refine lv_istore_n (lv' := [(1, .int (iI (((sp_sets (sp_ngt g L v pz) L (k + 1)) : Nat) : Int))), (0, .ref ea), (2, .int (iI (k : Int)))]) hx hb dX1_setBelowNothing_40 rfl hl (by decide) rfl (fun ls hl => ?_)
            refine lv_iinc (v := iI ((k : Int) + 1)) (lv' := [(2, .int (iI ((k : Int) + 1))), (1, .int (iI (((sp_sets (sp_ngt g L v pz) L (k + 1)) : Nat) : Int))), (0, .ref ea)]) hx hb dX1_setBelowNothing_41 hl (k := 2) rfl (iI_add _ _) (by decide) rfl (fun ls hl => ?_)
            refine lv_goto (tgt := 4) hx hb dX1_setBelowNothing_44 (by decide) ?_
            exact ih4 (k + 1) (by omega) (by omega) (by omega) ls (lv_sub hl [2, 1, 0] rfl)
  exact LP4 (L.length + 1) 0 (by omega) (by omega) (by omega) ls (lv_sub hl [2, 1, 0] rfl)
