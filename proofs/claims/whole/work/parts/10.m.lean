set_option maxHeartbeats 4000000 in
set_option maxRecDepth 100000 in
/-- in: between -/
theorem c_X6_in (l : Launch) (D : va_G) (cI cL cG cM : ClassId)  (v : Int) (lo : Int) (hi : Int) (h1 : -9223372036854775808 ≤ v ∧ v ≤ 9223372036854775807) (h2 : -9223372036854775808 ≤ lo ∧ lo ≤ 9223372036854775807) (h3 : -9223372036854775808 ≤ hi ∧ hi ≤ 9223372036854775807) : Met l yX6_in (wU yX6_in cX6_in 6 (some .boolean)) (rmF 0 0) (pcN [.long (lI v), .long (lI lo), .long (lI hi)]) (qRi (zb (lo ≤ v ∧ v ≤ hi))) 0 0 (fun _ => False) := by
  refine zm_N (own := RX6) (lv := [(0, .long (lI v)), (2, .long (lI lo)), (4, .long (lI hi))]) (by decide) rfl (Nat.le_of_ble_eq_true rfl) rfl ?_
  intro p e s m below meth c args Q hx hb hr hml hown hU hlk hQ ls hl
  refine lv_lload_n hx hb dX6_in_0 rfl (lv_at hl 0 rfl) ?_
  refine lv_lload_n hx hb dX6_in_1 rfl (lv_at hl 1 rfl) ?_
  refine zr_lcmp_lt (tgt := 17) hx hb dX6_in_2 dX6_in_3 (by decide) (by omega) (by omega) (fun c_1 => ?_) (fun c_1 => ?_)
  · skip
    refine lv_iconst (v := iI 0) hx hb dX6_in_17 rfl ?_
    rw [hQ]
    exact ze_Rz hx hb hr hlk dX6_in_18 (Or.inl rfl) ((zb_f (by omega)).symm)
  · skip
    refine lv_lload_n hx hb dX6_in_6 rfl (lv_at hl 0 rfl) ?_
    refine lv_lload hx hb dX6_in_7 (lv_at hl 2 rfl) ?_
    refine zr_lcmp_gt (tgt := 17) hx hb dX6_in_9 dX6_in_10 (by decide) (by omega) (by omega) (fun c_2 => ?_) (fun c_2 => ?_)
    · skip
      refine lv_iconst (v := iI 0) hx hb dX6_in_17 rfl ?_
      rw [hQ]
      exact ze_Rz hx hb hr hlk dX6_in_18 (Or.inl rfl) ((zb_f (by omega)).symm)
    · skip
      refine lv_iconst (v := iI 1) hx hb dX6_in_13 rfl ?_
      refine lv_goto (tgt := 18) hx hb dX6_in_14 (by decide) ?_
      rw [hQ]
      exact ze_Rz hx hb hr hlk dX6_in_18 (Or.inr rfl) ((zb_t (by omega)).symm)

set_option maxHeartbeats 4000000 in
set_option maxRecDepth 100000 in
theorem c_X6_slot (l : Launch) (D : va_G) (cI cL cG cM : ClassId)  (i : Int) : Met l yX6_slot (wU yX6_slot cX6_slot 1 (some .int)) (rmF 0 0) (pcN [.int (iI i)]) (qRi (10 + 3 * i)) 0 0 (fun _ => False) := by
  refine zm_N (own := RX6) (lv := [(0, .int (iI i))]) (by decide) rfl (Nat.le_of_ble_eq_true rfl) rfl ?_
  intro p e s m below meth c args Q hx hb hr hml hown hU hlk hQ ls hl
  refine lv_bipush (v := iI 10) hx hb dX6_slot_0 (by decide) ?_
  refine lv_iconst (v := iI 3) hx hb dX6_slot_2 rfl ?_
  refine lv_iload_n hx hb dX6_slot_3 rfl (lv_at hl 0 rfl) ?_
  refine zr_imul hx hb dX6_slot_4 ?_
  refine zr_iadd hx hb dX6_slot_5 ?_
  rw [hQ]
  exact ze_Ri hx hb hr hlk dX6_slot_6 (by first | rfl | omega)

set_option maxHeartbeats 4000000 in
set_option maxRecDepth 100000 in
theorem c_X6_isSample (l : Launch) (D : va_G) (cI cL cG cM : ClassId) (m0 mw mks mbx mby mbi msn miq mtb mrt mgr mup : Nat) (w : Nat → Int) (kn : Int) (kp : Int) (sd : Int) (ks : Nat → Int) (bkx : Nat → Int) (bky : Nat → Int) (bki : Nat → Int) (bkn : Int) (sn : Nat → Int) (sns : Int) (iq : Nat → Int) (tb : Nat → Int) (rt : Nat → Int) (gr : Nat → Int) (ups : Nat → Int) (bel : Int) (scl : Int) (tp : Int) (bt : Int) (i : Int) (h0 : 0 ≤ w 0 ∧ w 0 ≤ 10) (h1 : -2147483648 ≤ i ∧ i ≤ 2147483647) : Met l yX6_isSample (wU yX6_isSample cX6_isSample 2 (some .boolean)) (rmF 1 25) (pcR D (tyA cI cL cG cM) [(m0, .inr (6, [.ref mw, .int (iI kn), .int (iI kp), .int (iI sd), .ref mks, .ref mbx, .ref mby, .ref mbi, .int (iI bkn), .ref msn, .int (iI sns), .ref miq, .ref mtb, .ref mrt, .ref mgr, .ref mup, .long (lI bel), .long (lI scl), .long (lI tp), .long (lI bt)])), (mw, .inl (cI, 760, .inl (aI w))), (mks, .inl (cI, 2, .inl (aI ks))), (mbx, .inl (cI, 20, .inl (aI bkx))), (mby, .inl (cI, 20, .inl (aI bky))), (mbi, .inl (cI, 20, .inl (aI bki))), (msn, .inl (cI, 4, .inl (aI sn))), (miq, .inl (cI, 4, .inl (aI iq))), (mtb, .inl (cL, 25, .inr (.inl (aL tb)))), (mrt, .inl (cL, 5, .inr (.inl (aL rt)))), (mgr, .inl (cL, 32, .inr (.inl (aL gr)))), (mup, .inl (cL, 5, .inr (.inl (aL ups))))] [.ref m0, .int (iI i)]) (qRi (zb (0 ≤ i ∧ i ≤ w 0 - 1))) 0 0 (fun _ => False) := by
  refine zm_R (own := RX6) (lv := [(0, .ref m0), (1, .int (iI i))]) (by decide) rfl (Nat.le_of_ble_eq_true rfl) rfl ?_
  intro p e s m below meth c args Q hx hb hr hml hown hU hlk hP hK hNst hQ ls hl
  refine lv_iload_n hx hb dX6_isSample_0 rfl (lv_at hl 1 rfl) ?_
  refine zr_i2l hx hb dX6_isSample_1 (by omega) ?_
  refine lv_lconst (v := lI 0) hx hb dX6_isSample_2 rfl ?_
  refine lv_aload_n hx hb dX6_isSample_3 rfl (lv_at hl 0 rfl) ?_
  refine va_get (D := D) (ci := 6) (v := .ref mw) (C := RX6) (T := TX6) (N := 20) hx hb hU inlX6 hown hK hP 0 rfl rfl 0 (by decide) (hU _ kf_RX6_7) (fun _ h9 => h9) rfl dX6_isSample_4 ?_
  refine lv_iconst (v := iI 0) hx hb dX6_isSample_7 rfl ?_
  refine zr_iald hx hb hK hP 1 0 rfl rfl 0 (by omega) (by omega) (Nat.le_of_ble_eq_true rfl) dX6_isSample_8 ?_
  refine lv_iconst (v := iI 1) hx hb dX6_isSample_9 rfl ?_
  refine zr_isub hx hb dX6_isSample_10 ?_
  refine zr_i2l hx hb dX6_isSample_11 (by omega) ?_
  refine zc_Si (As := [.long (lI i), .long (lI 0), .long (lI ((w 0) - 1))]) (rest := []) (c_X6_in l D cI cL cG cM i 0 ((w 0) - 1) (by omega) (by omega) (by omega)) hx hb hml hown hU hl.1 ct_yX6_in kt_yX6_in km_RX6_44 ⟨rfl, rfl⟩ ⟨Nat.le_of_ble_eq_true rfl, Nat.le_of_ble_eq_true rfl⟩ rfl rfl (Nat.le_of_ble_eq_true rfl) dX6_isSample_12 ⟨Nat.le_of_ble_eq_true rfl, Nat.le_of_ble_eq_true rfl⟩ ?_
  rw [hQ]
  exact ze_Rz hx hb hr hlk dX6_isSample_15 (by first | exact zb_01 _ | omega) (by first | rfl | exact zb_iff (by omega))

set_option maxHeartbeats 4000000 in
set_option maxRecDepth 100000 in
theorem c_X6_isPlace (l : Launch) (D : va_G) (cI cL cG cM : ClassId)  (x : Int) (y : Int) (h1 : -2147483648 ≤ x ∧ x ≤ 2147483647) (h2 : -2147483648 ≤ y ∧ y ≤ 2147483647) : Met l yX6_isPlace (wU yX6_isPlace cX6_isPlace 2 (some .boolean)) (rmF 1 25) (pcN [.int (iI x), .int (iI y)]) (qRi (zb ((0 ≤ x ∧ x ≤ 31) ∧ (0 ≤ y ∧ y ≤ 31)))) 0 0 (fun _ => False) := by
  refine zm_N (own := RX6) (lv := [(0, .int (iI x)), (1, .int (iI y))]) (by decide) rfl (Nat.le_of_ble_eq_true rfl) rfl ?_
  intro p e s m below meth c args Q hx hb hr hml hown hU hlk hQ ls hl
  refine lv_iload_n hx hb dX6_isPlace_0 rfl (lv_at hl 0 rfl) ?_
  refine zr_i2l hx hb dX6_isPlace_1 (by omega) ?_
  refine lv_lconst (v := lI 0) hx hb dX6_isPlace_2 rfl ?_
  refine lv_ldc2 hx hb hown (hU _ kk_RX6_48) dX6_isPlace_3 ?_
  refine zc_Si (As := [.long (lI x), .long (lI 0), .long (lI 31)]) (rest := []) (c_X6_in l D cI cL cG cM x 0 31 (by omega) (by omega) (by omega)) hx hb hml hown hU hl.1 ct_yX6_in kt_yX6_in km_RX6_44 ⟨rfl, rfl⟩ ⟨Nat.le_of_ble_eq_true rfl, Nat.le_of_ble_eq_true rfl⟩ rfl rfl (Nat.le_of_ble_eq_true rfl) dX6_isPlace_6 ⟨Nat.le_of_ble_eq_true rfl, Nat.le_of_ble_eq_true rfl⟩ ?_
  refine zr_bif_eq (tgt := 28) hx hb dX6_isPlace_9 (by decide) (fun c_1 => ?_) (fun c_1 => ?_)
  · skip
    refine lv_iconst (v := iI 0) hx hb dX6_isPlace_28 rfl ?_
    rw [hQ]
    exact ze_Rz hx hb hr hlk dX6_isPlace_29 (Or.inl rfl) ((zb_f (by omega)).symm)
  · skip
    refine lv_iload_n hx hb dX6_isPlace_12 rfl (lv_at hl 1 rfl) ?_
    refine zr_i2l hx hb dX6_isPlace_13 (by omega) ?_
    refine lv_lconst (v := lI 0) hx hb dX6_isPlace_14 rfl ?_
    refine lv_ldc2 hx hb hown (hU _ kk_RX6_48) dX6_isPlace_15 ?_
    refine zc_Si (As := [.long (lI y), .long (lI 0), .long (lI 31)]) (rest := []) (c_X6_in l D cI cL cG cM y 0 31 (by omega) (by omega) (by omega)) hx hb hml hown hU hl.1 ct_yX6_in kt_yX6_in km_RX6_44 ⟨rfl, rfl⟩ ⟨Nat.le_of_ble_eq_true rfl, Nat.le_of_ble_eq_true rfl⟩ rfl rfl (Nat.le_of_ble_eq_true rfl) dX6_isPlace_18 ⟨Nat.le_of_ble_eq_true rfl, Nat.le_of_ble_eq_true rfl⟩ ?_
    refine zr_bif_eq (tgt := 28) hx hb dX6_isPlace_21 (by decide) (fun c_2 => ?_) (fun c_2 => ?_)
    · skip
      refine lv_iconst (v := iI 0) hx hb dX6_isPlace_28 rfl ?_
      rw [hQ]
      exact ze_Rz hx hb hr hlk dX6_isPlace_29 (Or.inl rfl) ((zb_f (by omega)).symm)
    · skip
      refine lv_iconst (v := iI 1) hx hb dX6_isPlace_24 rfl ?_
      refine lv_goto (tgt := 29) hx hb dX6_isPlace_25 (by decide) ?_
      rw [hQ]
      exact ze_Rz hx hb hr hlk dX6_isPlace_29 (Or.inr rfl) ((zb_t (by omega)).symm)

set_option maxHeartbeats 4000000 in
set_option maxRecDepth 100000 in
theorem c_X6_there (l : Launch) (D : va_G) (cI cL cG cM : ClassId) (m0 mw mks mbx mby mbi msn miq mtb mrt mgr mup : Nat) (w : Nat → Int) (kn : Int) (kp : Int) (sd : Int) (ks : Nat → Int) (bkx : Nat → Int) (bky : Nat → Int) (bki : Nat → Int) (bkn : Int) (sn : Nat → Int) (sns : Int) (iq : Nat → Int) (tb : Nat → Int) (rt : Nat → Int) (gr : Nat → Int) (ups : Nat → Int) (bel : Int) (scl : Int) (tp : Int) (bt : Int) (x : Int) (y : Int) (hv : vR w) (h1 : -2147483648 ≤ x ∧ x ≤ 2147483647) (h2 : -2147483648 ≤ y ∧ y ≤ 2147483647) : Met l yX6_there (wU yX6_there cX6_there 4 (some .int)) (rmF 1 20) (pcR D (tyA cI cL cG cM) [(m0, .inr (6, [.ref mw, .int (iI kn), .int (iI kp), .int (iI sd), .ref mks, .ref mbx, .ref mby, .ref mbi, .int (iI bkn), .ref msn, .int (iI sns), .ref miq, .ref mtb, .ref mrt, .ref mgr, .ref mup, .long (lI bel), .long (lI scl), .long (lI tp), .long (lI bt)])), (mw, .inl (cI, 760, .inl (aI w))), (mks, .inl (cI, 2, .inl (aI ks))), (mbx, .inl (cI, 20, .inl (aI bkx))), (mby, .inl (cI, 20, .inl (aI bky))), (mbi, .inl (cI, 20, .inl (aI bki))), (msn, .inl (cI, 4, .inl (aI sn))), (miq, .inl (cI, 4, .inl (aI iq))), (mtb, .inl (cL, 25, .inr (.inl (aL tb)))), (mrt, .inl (cL, 5, .inr (.inl (aL rt)))), (mgr, .inl (cL, 32, .inr (.inl (aL gr)))), (mup, .inl (cL, 5, .inr (.inl (aL ups))))] [.ref m0, .int (iI x), .int (iI y)]) (qRi (sp_th w x y)) 0 0 (fun _ => False) := by
  refine zm_R (own := RX6) (lv := [(0, .ref m0), (1, .int (iI x)), (2, .int (iI y))]) (by decide) rfl (Nat.le_of_ble_eq_true rfl) rfl ?_
  intro p e s m below meth c args Q hx hb hr hml hown hU hlk hP hK hNst hQ ls hl
  have h0 := hv.1
  refine lv_iconst (v := iI 0) hx hb dX6_there_0 rfl ?_
  refine lv_istore_n (lv' := [(3, .int (iI 0)), (0, .ref m0), (1, .int (iI x)), (2, .int (iI y))]) hx hb dX6_there_1 rfl hl (by decide) rfl (fun ls hl => ?_)
  have LP2 : ∀ (n : Nat), ∀ (i : Nat), ((i : Int) ≤ w 0) → (sp_thF w x y ((w 0).toNat - i) i = sp_th w x y) → ((w 0).toNat < i + n) → ∀ (ls : Array Slot), lv_has ls 4 [(0, .ref m0), (1, .int (iI x)), (2, .int (iI y)), (3, .int (iI (i : Int)))] → W p l e (rmF 1 20) s m args below meth c s.heap [] 0 0 Q (F0 m 2 ls []) := by
    intro n
    induction n with
    | zero =>
      intro i hi hinv hfu
      exfalso
      omega
    | succ n ih2 =>
      intro i hi hinv hfu ls hl
      refine lv_iload_n hx hb dX6_there_2 rfl (lv_at hl 3 rfl) ?_
      refine lv_aload_n hx hb dX6_there_3 rfl (lv_at hl 0 rfl) ?_
      refine va_get (D := D) (ci := 6) (v := .ref mw) (C := RX6) (T := TX6) (N := 20) hx hb hU inlX6 hown hK hP 0 rfl rfl 0 (by decide) (hU _ kf_RX6_7) (fun _ h9 => h9) rfl dX6_there_4 ?_
      refine lv_iconst (v := iI 0) hx hb dX6_there_7 rfl ?_
      refine zr_iald hx hb hK hP 1 0 rfl rfl 0 (by omega) (by omega) (Nat.le_of_ble_eq_true rfl) dX6_there_8 ?_
      refine zr_icmp_ge (tgt := 48) hx hb dX6_there_9 (by decide) (by omega) (by omega) (fun c_1 => ?_) (fun c_1 => ?_)
      · skip
        refine lv_iconst (v := iI (-1)) hx hb dX6_there_48 rfl ?_
        rw [hQ]
        exact ze_Ri hx hb hr hlk dX6_there_49 (by rw [← hinv, show (w 0).toNat - i = 0 by omega]; rfl)
      · skip
        have q1 := hv.2.2.2.2.2.2.2.2.2.2 i (by omega)
        refine lv_aload_n hx hb dX6_there_12 rfl (lv_at hl 0 rfl) ?_
        refine va_get (D := D) (ci := 6) (v := .ref mw) (C := RX6) (T := TX6) (N := 20) hx hb hU inlX6 hown hK hP 0 rfl rfl 0 (by decide) (hU _ kf_RX6_7) (fun _ h9 => h9) rfl dX6_there_13 ?_
        refine lv_iload_n hx hb dX6_there_16 rfl (lv_at hl 3 rfl) ?_
        refine zc_Si (As := [.int (iI (i : Int))]) (rest := [.ref mw]) (c_X6_slot l D cI cL cG cM (i : Int)) hx hb hml hown hU hl.1 ct_yX6_slot kt_yX6_slot km_RX6_50 ⟨rfl, rfl⟩ ⟨Nat.le_of_ble_eq_true rfl, Nat.le_of_ble_eq_true rfl⟩ rfl rfl (Nat.le_of_ble_eq_true rfl) dX6_there_17 ⟨Nat.le_of_ble_eq_true rfl, Nat.le_of_ble_eq_true rfl⟩ ?_
        refine zr_iald hx hb hK hP 1 0 rfl rfl (10 + 3 * i) (by omega) (by omega) (Nat.le_of_ble_eq_true rfl) dX6_there_20 ?_
        refine lv_iload_n hx hb dX6_there_21 rfl (lv_at hl 1 rfl) ?_
        refine zr_icmp_ne (tgt := 42) hx hb dX6_there_22 (by decide) (by omega) (by omega) (fun c_2 => ?_) (fun c_2 => ?_)
        · skip
          refine lv_iinc (v := iI ((i : Int) + 1)) (lv' := [(3, .int (iI ((i : Int) + 1))), (0, .ref m0), (1, .int (iI x)), (2, .int (iI y))]) hx hb dX6_there_42 hl (k := 3) rfl (iI_add _ _) (by decide) rfl (fun ls hl => ?_)
          refine lv_goto (tgt := 2) hx hb dX6_there_45 (by decide) ?_
          exact ih2 (i + 1) (by omega) (by rw [← hinv, show (w 0).toNat - i = ((w 0).toNat - (i + 1)) + 1 by omega, sp_thF, if_neg (by omega)]) (by omega) ls (lv_sub hl [1, 2, 3, 0] rfl)
        · skip
          refine lv_aload_n hx hb dX6_there_25 rfl (lv_at hl 0 rfl) ?_
          refine va_get (D := D) (ci := 6) (v := .ref mw) (C := RX6) (T := TX6) (N := 20) hx hb hU inlX6 hown hK hP 0 rfl rfl 0 (by decide) (hU _ kf_RX6_7) (fun _ h9 => h9) rfl dX6_there_26 ?_
          refine lv_iload_n hx hb dX6_there_29 rfl (lv_at hl 3 rfl) ?_
          refine zc_Si (As := [.int (iI (i : Int))]) (rest := [.ref mw]) (c_X6_slot l D cI cL cG cM (i : Int)) hx hb hml hown hU hl.1 ct_yX6_slot kt_yX6_slot km_RX6_50 ⟨rfl, rfl⟩ ⟨Nat.le_of_ble_eq_true rfl, Nat.le_of_ble_eq_true rfl⟩ rfl rfl (Nat.le_of_ble_eq_true rfl) dX6_there_30 ⟨Nat.le_of_ble_eq_true rfl, Nat.le_of_ble_eq_true rfl⟩ ?_
          refine lv_iconst (v := iI 1) hx hb dX6_there_33 rfl ?_
          refine zr_iadd hx hb dX6_there_34 ?_
          refine zr_iald hx hb hK hP 1 0 rfl rfl (11 + 3 * i) (by omega) (by omega) (Nat.le_of_ble_eq_true rfl) dX6_there_35 ?_
          refine lv_iload_n hx hb dX6_there_36 rfl (lv_at hl 2 rfl) ?_
          refine zr_icmp_ne (tgt := 42) hx hb dX6_there_37 (by decide) (by omega) (by omega) (fun c_3 => ?_) (fun c_3 => ?_)
          · skip
            refine lv_iinc (v := iI ((i : Int) + 1)) (lv' := [(3, .int (iI ((i : Int) + 1))), (0, .ref m0), (1, .int (iI x)), (2, .int (iI y))]) hx hb dX6_there_42 hl (k := 3) rfl (iI_add _ _) (by decide) rfl (fun ls hl => ?_)
            refine lv_goto (tgt := 2) hx hb dX6_there_45 (by decide) ?_
            exact ih2 (i + 1) (by omega) (by rw [← hinv, show (w 0).toNat - i = ((w 0).toNat - (i + 1)) + 1 by omega, sp_thF, if_neg (by omega)]) (by omega) ls (lv_sub hl [1, 2, 3, 0] rfl)
          · skip
            refine lv_iload_n hx hb dX6_there_40 rfl (lv_at hl 3 rfl) ?_
            rw [hQ]
            exact ze_Ri hx hb hr hlk dX6_there_41 (by rw [← hinv, show (w 0).toNat - i = ((w 0).toNat - (i + 1)) + 1 by omega, sp_thF, if_pos (by omega)])
  exact LP2 ((w 0).toNat + 1) 0 (by omega) (rfl) (by omega) ls (lv_sub hl [1, 2, 3, 0] rfl)

set_option maxHeartbeats 4000000 in
set_option maxRecDepth 100000 in
theorem c_X6_far (l : Launch) (D : va_G) (cI cL cG cM : ClassId) (m0 mw mks mbx mby mbi msn miq mtb mrt mgr mup : Nat) (w : Nat → Int) (kn : Int) (kp : Int) (sd : Int) (ks : Nat → Int) (bkx : Nat → Int) (bky : Nat → Int) (bki : Nat → Int) (bkn : Int) (sn : Nat → Int) (sns : Int) (iq : Nat → Int) (tb : Nat → Int) (rt : Nat → Int) (gr : Nat → Int) (ups : Nat → Int) (bel : Int) (scl : Int) (tp : Int) (bt : Int) (x : Int) (y : Int) (a : Int) (b : Int) (hv : vR w) (hx : -1000 ≤ x ∧ x ≤ 1000) (hy : -1000 ≤ y ∧ y ≤ 1000) (ha : -1000 ≤ a ∧ a ≤ 1000) (hb : -1000 ≤ b ∧ b ≤ 1000) : Met l yX6_far (wU yX6_far cX6_far 7 (some .int)) (rmF 0 0) (pcR D (tyA cI cL cG cM) [(m0, .inr (6, [.ref mw, .int (iI kn), .int (iI kp), .int (iI sd), .ref mks, .ref mbx, .ref mby, .ref mbi, .int (iI bkn), .ref msn, .int (iI sns), .ref miq, .ref mtb, .ref mrt, .ref mgr, .ref mup, .long (lI bel), .long (lI scl), .long (lI tp), .long (lI bt)])), (mw, .inl (cI, 760, .inl (aI w))), (mks, .inl (cI, 2, .inl (aI ks))), (mbx, .inl (cI, 20, .inl (aI bkx))), (mby, .inl (cI, 20, .inl (aI bky))), (mbi, .inl (cI, 20, .inl (aI bki))), (msn, .inl (cI, 4, .inl (aI sn))), (miq, .inl (cI, 4, .inl (aI iq))), (mtb, .inl (cL, 25, .inr (.inl (aL tb)))), (mrt, .inl (cL, 5, .inr (.inl (aL rt)))), (mgr, .inl (cL, 32, .inr (.inl (aL gr)))), (mup, .inl (cL, 5, .inr (.inl (aL ups))))] [.ref m0, .int (iI x), .int (iI y), .int (iI a), .int (iI b)]) (qRi (sp_far w x y a b)) 0 0 (fun _ => False) := by
  refine zm_R (own := RX6) (lv := [(0, .ref m0), (1, .int (iI x)), (2, .int (iI y)), (3, .int (iI a)), (4, .int (iI b))]) (by decide) rfl (Nat.le_of_ble_eq_true rfl) rfl ?_
  intro p e s m below meth c args Q hx hb hr hml hown hU hlk hP hK hNst hQ ls hl
  have h0 := hv.2.1
  refine lv_iload_n hx hb dX6_far_0 rfl (lv_at hl 1 rfl) ?_
  refine lv_iload_n hx hb dX6_far_1 rfl (lv_at hl 3 rfl) ?_
  refine zr_icmp_le (tgt := 11) hx hb dX6_far_2 (by decide) (by omega) (by omega) (fun c_1 => ?_) (fun c_1 => ?_)
  · skip
    refine lv_iload_n hx hb dX6_far_11 rfl (lv_at hl 3 rfl) ?_
    refine lv_iload_n hx hb dX6_far_12 rfl (lv_at hl 1 rfl) ?_
    refine zr_isub hx hb dX6_far_13 ?_
    refine lv_istore (lv' := [(5, .int (iI (a - x))), (0, .ref m0), (1, .int (iI x)), (2, .int (iI y)), (3, .int (iI a)), (4, .int (iI b))]) hx hb dX6_far_14 hl (by decide) rfl (fun ls hl => ?_)
    refine lv_iload_n hx hb dX6_far_16 rfl (lv_at hl 3 rfl) ?_
    refine lv_iload hx hb dX6_far_17 (lv_at hl 5 rfl) ?_
    refine zr_icmp_le (tgt := 29) hx hb dX6_far_19 (by decide) (by omega) (by omega) (fun c_2 => ?_) (fun c_2 => ?_)
    · skip
      refine lv_iload hx hb dX6_far_29 (lv_at hl 5 rfl) ?_
      refine lv_iload_n hx hb dX6_far_31 rfl (lv_at hl 3 rfl) ?_
      refine zr_isub hx hb dX6_far_32 ?_
      refine lv_istore (lv' := [(6, .int (iI (b - y))), (5, .int (iI (a - x))), (0, .ref m0), (1, .int (iI x)), (2, .int (iI y)), (3, .int (iI a)), (4, .int (iI b))]) hx hb dX6_far_33 hl (by decide) rfl (fun ls hl => ?_)
      refine lv_aload_n hx hb dX6_far_35 rfl (lv_at hl 2 rfl) ?_
      refine va_get (D := D) (ci := 6) (v := .ref mw) (C := RX6) (T := TX6) (N := 20) hx hb hU inlX6 hown hK hP 0 rfl rfl 0 (by decide) (hU _ kf_RX6_7) (fun _ h9 => h9) rfl dX6_far_36 ?_
      refine lv_iconst (v := iI 1) hx hb dX6_far_39 rfl ?_
      refine zr_iald hx hb hK hP 1 0 rfl rfl 1 (by omega) (by omega) (Nat.le_of_ble_eq_true rfl) dX6_far_40 ?_
      refine zr_if_ne (tgt := 50) hx hb dX6_far_41 (by decide) (by omega) (fun c_3 => ?_) (fun c_3 => ?_)
      · skip
        refine lv_iload hx hb dX6_far_50 (lv_at hl 1 rfl) ?_
        refine lv_iload hx hb dX6_far_52 (lv_at hl 0 rfl) ?_
        refine zr_icmp_le (tgt := 62) hx hb dX6_far_54 (by decide) (by omega) (by omega) (fun c_4 => ?_) (fun c_4 => ?_)
        · skip
          refine lv_iload hx hb dX6_far_62 (lv_at hl 0 rfl) ?_
          rw [hQ]
          exact ze_Ri hx hb hr hlk dX6_far_64 (by unfold sp_far sp_fr; rw [if_neg (by omega)]; omega)
        · skip
          refine lv_iload hx hb dX6_far_57 (lv_at hl 1 rfl) ?_
          refine lv_goto (tgt := 64) hx hb dX6_far_59 (by decide) ?_
          rw [hQ]
          exact ze_Ri hx hb hr hlk dX6_far_64 (by unfold sp_far sp_fr; rw [if_neg (by omega)]; omega)
      · skip
        refine lv_iload hx hb dX6_far_44 (lv_at hl 1 rfl) ?_
        refine lv_iload hx hb dX6_far_46 (lv_at hl 0 rfl) ?_
        refine zr_iadd hx hb dX6_far_48 ?_
        rw [hQ]
        exact ze_Ri hx hb hr hlk dX6_far_49 (by unfold sp_far sp_fr; rw [if_pos (by omega)]; omega)
    · skip
      refine lv_iload_n hx hb dX6_far_22 rfl (lv_at hl 3 rfl) ?_
      refine lv_iload hx hb dX6_far_23 (lv_at hl 5 rfl) ?_
      refine zr_isub hx hb dX6_far_25 ?_
      refine lv_goto (tgt := 33) hx hb dX6_far_26 (by decide) ?_
      refine lv_istore (lv' := [(6, .int (iI (y - b))), (5, .int (iI (a - x))), (0, .ref m0), (1, .int (iI x)), (2, .int (iI y)), (3, .int (iI a)), (4, .int (iI b))]) hx hb dX6_far_33 hl (by decide) rfl (fun ls hl => ?_)
      refine lv_aload_n hx hb dX6_far_35 rfl (lv_at hl 2 rfl) ?_
      refine va_get (D := D) (ci := 6) (v := .ref mw) (C := RX6) (T := TX6) (N := 20) hx hb hU inlX6 hown hK hP 0 rfl rfl 0 (by decide) (hU _ kf_RX6_7) (fun _ h9 => h9) rfl dX6_far_36 ?_
      refine lv_iconst (v := iI 1) hx hb dX6_far_39 rfl ?_
      refine zr_iald hx hb hK hP 1 0 rfl rfl 1 (by omega) (by omega) (Nat.le_of_ble_eq_true rfl) dX6_far_40 ?_
      refine zr_if_ne (tgt := 50) hx hb dX6_far_41 (by decide) (by omega) (fun c_5 => ?_) (fun c_5 => ?_)
      · skip
        refine lv_iload hx hb dX6_far_50 (lv_at hl 1 rfl) ?_
        refine lv_iload hx hb dX6_far_52 (lv_at hl 0 rfl) ?_
        refine zr_icmp_le (tgt := 62) hx hb dX6_far_54 (by decide) (by omega) (by omega) (fun c_6 => ?_) (fun c_6 => ?_)
        · skip
          refine lv_iload hx hb dX6_far_62 (lv_at hl 0 rfl) ?_
          rw [hQ]
          exact ze_Ri hx hb hr hlk dX6_far_64 (by unfold sp_far sp_fr; rw [if_neg (by omega)]; omega)
        · skip
          refine lv_iload hx hb dX6_far_57 (lv_at hl 1 rfl) ?_
          refine lv_goto (tgt := 64) hx hb dX6_far_59 (by decide) ?_
          rw [hQ]
          exact ze_Ri hx hb hr hlk dX6_far_64 (by unfold sp_far sp_fr; rw [if_neg (by omega)]; omega)
      · skip
        refine lv_iload hx hb dX6_far_44 (lv_at hl 1 rfl) ?_
        refine lv_iload hx hb dX6_far_46 (lv_at hl 0 rfl) ?_
        refine zr_iadd hx hb dX6_far_48 ?_
        rw [hQ]
        exact ze_Ri hx hb hr hlk dX6_far_49 (by unfold sp_far sp_fr; rw [if_pos (by omega)]; omega)
  · skip
    refine lv_iload_n hx hb dX6_far_5 rfl (lv_at hl 1 rfl) ?_
    refine lv_iload_n hx hb dX6_far_6 rfl (lv_at hl 3 rfl) ?_
    refine zr_isub hx hb dX6_far_7 ?_
    refine lv_goto (tgt := 14) hx hb dX6_far_8 (by decide) ?_
    refine lv_istore (lv' := [(5, .int (iI (x - a))), (0, .ref m0), (1, .int (iI x)), (2, .int (iI y)), (3, .int (iI a)), (4, .int (iI b))]) hx hb dX6_far_14 hl (by decide) rfl (fun ls hl => ?_)
    refine lv_iload_n hx hb dX6_far_16 rfl (lv_at hl 3 rfl) ?_
    refine lv_iload hx hb dX6_far_17 (lv_at hl 5 rfl) ?_
    refine zr_icmp_le (tgt := 29) hx hb dX6_far_19 (by decide) (by omega) (by omega) (fun c_7 => ?_) (fun c_7 => ?_)
    · skip
      refine lv_iload hx hb dX6_far_29 (lv_at hl 5 rfl) ?_
      refine lv_iload_n hx hb dX6_far_31 rfl (lv_at hl 3 rfl) ?_
      refine zr_isub hx hb dX6_far_32 ?_
      refine lv_istore (lv' := [(6, .int (iI (b - y))), (5, .int (iI (x - a))), (0, .ref m0), (1, .int (iI x)), (2, .int (iI y)), (3, .int (iI a)), (4, .int (iI b))]) hx hb dX6_far_33 hl (by decide) rfl (fun ls hl => ?_)
      refine lv_aload_n hx hb dX6_far_35 rfl (lv_at hl 2 rfl) ?_
      refine va_get (D := D) (ci := 6) (v := .ref mw) (C := RX6) (T := TX6) (N := 20) hx hb hU inlX6 hown hK hP 0 rfl rfl 0 (by decide) (hU _ kf_RX6_7) (fun _ h9 => h9) rfl dX6_far_36 ?_
      refine lv_iconst (v := iI 1) hx hb dX6_far_39 rfl ?_
      refine zr_iald hx hb hK hP 1 0 rfl rfl 1 (by omega) (by omega) (Nat.le_of_ble_eq_true rfl) dX6_far_40 ?_
      refine zr_if_ne (tgt := 50) hx hb dX6_far_41 (by decide) (by omega) (fun c_8 => ?_) (fun c_8 => ?_)
      · skip
        refine lv_iload hx hb dX6_far_50 (lv_at hl 1 rfl) ?_
        refine lv_iload hx hb dX6_far_52 (lv_at hl 0 rfl) ?_
        refine zr_icmp_le (tgt := 62) hx hb dX6_far_54 (by decide) (by omega) (by omega) (fun c_9 => ?_) (fun c_9 => ?_)
        · skip
          refine lv_iload hx hb dX6_far_62 (lv_at hl 0 rfl) ?_
          rw [hQ]
          exact ze_Ri hx hb hr hlk dX6_far_64 (by unfold sp_far sp_fr; rw [if_neg (by omega)]; omega)
        · skip
          refine lv_iload hx hb dX6_far_57 (lv_at hl 1 rfl) ?_
          refine lv_goto (tgt := 64) hx hb dX6_far_59 (by decide) ?_
          rw [hQ]
          exact ze_Ri hx hb hr hlk dX6_far_64 (by unfold sp_far sp_fr; rw [if_neg (by omega)]; omega)
      · skip
        refine lv_iload hx hb dX6_far_44 (lv_at hl 1 rfl) ?_
        refine lv_iload hx hb dX6_far_46 (lv_at hl 0 rfl) ?_
        refine zr_iadd hx hb dX6_far_48 ?_
        rw [hQ]
        exact ze_Ri hx hb hr hlk dX6_far_49 (by unfold sp_far sp_fr; rw [if_pos (by omega)]; omega)
    · skip
      refine lv_iload_n hx hb dX6_far_22 rfl (lv_at hl 3 rfl) ?_
      refine lv_iload hx hb dX6_far_23 (lv_at hl 5 rfl) ?_
      refine zr_isub hx hb dX6_far_25 ?_
      refine lv_goto (tgt := 33) hx hb dX6_far_26 (by decide) ?_
      refine lv_istore (lv' := [(6, .int (iI (y - b))), (5, .int (iI (x - a))), (0, .ref m0), (1, .int (iI x)), (2, .int (iI y)), (3, .int (iI a)), (4, .int (iI b))]) hx hb dX6_far_33 hl (by decide) rfl (fun ls hl => ?_)
      refine lv_aload_n hx hb dX6_far_35 rfl (lv_at hl 2 rfl) ?_
      refine va_get (D := D) (ci := 6) (v := .ref mw) (C := RX6) (T := TX6) (N := 20) hx hb hU inlX6 hown hK hP 0 rfl rfl 0 (by decide) (hU _ kf_RX6_7) (fun _ h9 => h9) rfl dX6_far_36 ?_
      refine lv_iconst (v := iI 1) hx hb dX6_far_39 rfl ?_
      refine zr_iald hx hb hK hP 1 0 rfl rfl 1 (by omega) (by omega) (Nat.le_of_ble_eq_true rfl) dX6_far_40 ?_
      refine zr_if_ne (tgt := 50) hx hb dX6_far_41 (by decide) (by omega) (fun c_10 => ?_) (fun c_10 => ?_)
      · skip
        refine lv_iload hx hb dX6_far_50 (lv_at hl 1 rfl) ?_
        refine lv_iload hx hb dX6_far_52 (lv_at hl 0 rfl) ?_
        refine zr_icmp_le (tgt := 62) hx hb dX6_far_54 (by decide) (by omega) (by omega) (fun c_11 => ?_) (fun c_11 => ?_)
        · skip
          refine lv_iload hx hb dX6_far_62 (lv_at hl 0 rfl) ?_
          rw [hQ]
          exact ze_Ri hx hb hr hlk dX6_far_64 (by unfold sp_far sp_fr; rw [if_neg (by omega)]; omega)
        · skip
          refine lv_iload hx hb dX6_far_57 (lv_at hl 1 rfl) ?_
          refine lv_goto (tgt := 64) hx hb dX6_far_59 (by decide) ?_
          rw [hQ]
          exact ze_Ri hx hb hr hlk dX6_far_64 (by unfold sp_far sp_fr; rw [if_neg (by omega)]; omega)
      · skip
        refine lv_iload hx hb dX6_far_44 (lv_at hl 1 rfl) ?_
        refine lv_iload hx hb dX6_far_46 (lv_at hl 0 rfl) ?_
        refine zr_iadd hx hb dX6_far_48 ?_
        rw [hQ]
        exact ze_Ri hx hb hr hlk dX6_far_49 (by unfold sp_far sp_fr; rw [if_pos (by omega)]; omega)

set_option maxHeartbeats 4000000 in
set_option maxRecDepth 100000 in
theorem c_X6_unlikeOf (l : Launch) (D : va_G) (cI cL cG cM : ClassId) (m0 mw mks mbx mby mbi msn miq mtb mrt mgr mup : Nat) (w : Nat → Int) (kn : Int) (kp : Int) (sd : Int) (ks : Nat → Int) (bkx : Nat → Int) (bky : Nat → Int) (bki : Nat → Int) (bkn : Int) (sn : Nat → Int) (sns : Int) (iq : Nat → Int) (tb : Nat → Int) (rt : Nat → Int) (gr : Nat → Int) (ups : Nat → Int) (bel : Int) (scl : Int) (tp : Int) (bt : Int) (h : Int) (hv : vR w) (h1 : 0 ≤ h ∧ h ≤ 1000) : Met l yX6_unlikeOf (wU yX6_unlikeOf cX6_unlikeOf 4 (some .int)) (rmF 0 0) (pcR D (tyA cI cL cG cM) [(m0, .inr (6, [.ref mw, .int (iI kn), .int (iI kp), .int (iI sd), .ref mks, .ref mbx, .ref mby, .ref mbi, .int (iI bkn), .ref msn, .int (iI sns), .ref miq, .ref mtb, .ref mrt, .ref mgr, .ref mup, .long (lI bel), .long (lI scl), .long (lI tp), .long (lI bt)])), (mw, .inl (cI, 760, .inl (aI w))), (mks, .inl (cI, 2, .inl (aI ks))), (mbx, .inl (cI, 20, .inl (aI bkx))), (mby, .inl (cI, 20, .inl (aI bky))), (mbi, .inl (cI, 20, .inl (aI bki))), (msn, .inl (cI, 4, .inl (aI sn))), (miq, .inl (cI, 4, .inl (aI iq))), (mtb, .inl (cL, 25, .inr (.inl (aL tb)))), (mrt, .inl (cL, 5, .inr (.inl (aL rt)))), (mgr, .inl (cL, 32, .inr (.inl (aL gr)))), (mup, .inl (cL, 5, .inr (.inl (aL ups))))] [.ref m0, .int (iI h)]) (qRi (sp_unl w h)) 0 0 (fun _ => False) := by
  refine zm_R (own := RX6) (lv := [(0, .ref m0), (1, .int (iI h))]) (by decide) rfl (Nat.le_of_ble_eq_true rfl) rfl ?_
  intro p e s m below meth c args Q hx hb hr hml hown hU hlk hP hK hNst hQ ls hl
  obtain ⟨-, -, h2, h3, h4, h5, h6, -⟩ := id hv
  refine lv_iload_n hx hb dX6_unlikeOf_0 rfl (lv_at hl 1 rfl) ?_
  refine zr_if_ne (tgt := 6) hx hb dX6_unlikeOf_1 (by decide) (by omega) (fun c_1 => ?_) (fun c_1 => ?_)
  · skip
    refine lv_iload_n hx hb dX6_unlikeOf_6 rfl (lv_at hl 1 rfl) ?_
    refine lv_aload_n hx hb dX6_unlikeOf_7 rfl (lv_at hl 0 rfl) ?_
    refine va_get (D := D) (ci := 6) (v := .ref mw) (C := RX6) (T := TX6) (N := 20) hx hb hU inlX6 hown hK hP 0 rfl rfl 0 (by decide) (hU _ kf_RX6_7) (fun _ h9 => h9) rfl dX6_unlikeOf_8 ?_
    refine lv_iconst (v := iI 4) hx hb dX6_unlikeOf_11 rfl ?_
    refine zr_iald hx hb hK hP 1 0 rfl rfl 4 (by omega) (by omega) (Nat.le_of_ble_eq_true rfl) dX6_unlikeOf_12 ?_
    refine zr_icmp_ge (tgt := 20) hx hb dX6_unlikeOf_13 (by decide) (by omega) (by omega) (fun c_2 => ?_) (fun c_2 => ?_)
    · skip
      refine lv_aload_n hx hb dX6_unlikeOf_20 rfl (lv_at hl 0 rfl) ?_
      refine va_get (D := D) (ci := 6) (v := .ref mw) (C := RX6) (T := TX6) (N := 20) hx hb hU inlX6 hown hK hP 0 rfl rfl 0 (by decide) (hU _ kf_RX6_7) (fun _ h9 => h9) rfl dX6_unlikeOf_21 ?_
      refine lv_iconst (v := iI 4) hx hb dX6_unlikeOf_24 rfl ?_
      refine zr_iald hx hb hK hP 1 0 rfl rfl 4 (by omega) (by omega) (Nat.le_of_ble_eq_true rfl) dX6_unlikeOf_25 ?_
      refine zr_rw (v := (min h (w 4))) (by omega) ?_
      refine lv_istore_n (lv' := [(2, .int (iI (min h (w 4)))), (0, .ref m0), (1, .int (iI h))]) hx hb dX6_unlikeOf_26 rfl hl (by decide) rfl (fun ls hl => ?_)
      refine lv_iload_n hx hb dX6_unlikeOf_27 rfl (lv_at hl 2 rfl) ?_
      refine lv_aload_n hx hb dX6_unlikeOf_28 rfl (lv_at hl 1 rfl) ?_
      refine va_get (D := D) (ci := 6) (v := .ref mw) (C := RX6) (T := TX6) (N := 20) hx hb hU inlX6 hown hK hP 0 rfl rfl 0 (by decide) (hU _ kf_RX6_7) (fun _ h9 => h9) rfl dX6_unlikeOf_29 ?_
      refine lv_bipush (v := iI 6) hx hb dX6_unlikeOf_32 (by decide) ?_
      refine zr_iald hx hb hK hP 1 0 rfl rfl 6 (by omega) (by omega) (Nat.le_of_ble_eq_true rfl) dX6_unlikeOf_34 ?_
      refine zr_icmp_ge (tgt := 42) hx hb dX6_unlikeOf_35 (by decide) (by omega) (by omega) (fun c_3 => ?_) (fun c_3 => ?_)
      · skip
        refine lv_aload_n hx hb dX6_unlikeOf_42 rfl (lv_at hl 1 rfl) ?_
        refine va_get (D := D) (ci := 6) (v := .ref mw) (C := RX6) (T := TX6) (N := 20) hx hb hU inlX6 hown hK hP 0 rfl rfl 0 (by decide) (hU _ kf_RX6_7) (fun _ h9 => h9) rfl dX6_unlikeOf_43 ?_
        refine lv_bipush (v := iI 6) hx hb dX6_unlikeOf_46 (by decide) ?_
        refine zr_iald hx hb hK hP 1 0 rfl rfl 6 (by omega) (by omega) (Nat.le_of_ble_eq_true rfl) dX6_unlikeOf_48 ?_
        refine zr_rw (v := (min h (w 6))) (by omega) ?_
        refine lv_istore_n (lv' := [(3, .int (iI (min h (w 6)))), (2, .int (iI (min h (w 4)))), (0, .ref m0), (1, .int (iI h))]) hx hb dX6_unlikeOf_49 rfl hl (by decide) rfl (fun ls hl => ?_)
        refine lv_aload_n hx hb dX6_unlikeOf_50 rfl (lv_at hl 2 rfl) ?_
        refine va_get (D := D) (ci := 6) (v := .ref mw) (C := RX6) (T := TX6) (N := 20) hx hb hU inlX6 hown hK hP 0 rfl rfl 0 (by decide) (hU _ kf_RX6_7) (fun _ h9 => h9) rfl dX6_unlikeOf_51 ?_
        refine lv_iconst (v := iI 2) hx hb dX6_unlikeOf_54 rfl ?_
        refine zr_iald hx hb hK hP 1 0 rfl rfl 2 (by omega) (by omega) (Nat.le_of_ble_eq_true rfl) dX6_unlikeOf_55 ?_
        refine lv_aload_n hx hb dX6_unlikeOf_56 rfl (lv_at hl 2 rfl) ?_
        refine va_get (D := D) (ci := 6) (v := .ref mw) (C := RX6) (T := TX6) (N := 20) hx hb hU inlX6 hown hK hP 0 rfl rfl 0 (by decide) (hU _ kf_RX6_7) (fun _ h9 => h9) rfl dX6_unlikeOf_57 ?_
        refine lv_iconst (v := iI 3) hx hb dX6_unlikeOf_60 rfl ?_
        refine zr_iald hx hb hK hP 1 0 rfl rfl 3 (by omega) (by omega) (Nat.le_of_ble_eq_true rfl) dX6_unlikeOf_61 ?_
        refine lv_iload_n hx hb dX6_unlikeOf_62 rfl (lv_at hl 1 rfl) ?_
        refine zr_imul hx hb dX6_unlikeOf_63 ?_
        refine zr_iadd hx hb dX6_unlikeOf_64 ?_
        refine lv_iload_n hx hb dX6_unlikeOf_65 rfl (lv_at hl 3 rfl) ?_
        refine lv_aload_n hx hb dX6_unlikeOf_66 rfl (lv_at hl 2 rfl) ?_
        refine va_get (D := D) (ci := 6) (v := .ref mw) (C := RX6) (T := TX6) (N := 20) hx hb hU inlX6 hown hK hP 0 rfl rfl 0 (by decide) (hU _ kf_RX6_7) (fun _ h9 => h9) rfl dX6_unlikeOf_67 ?_
        refine lv_iconst (v := iI 4) hx hb dX6_unlikeOf_70 rfl ?_
        refine zr_iald hx hb hK hP 1 0 rfl rfl 4 (by omega) (by omega) (Nat.le_of_ble_eq_true rfl) dX6_unlikeOf_71 ?_
        refine zr_icmp_le (tgt := 93) hx hb dX6_unlikeOf_72 (by decide) (by omega) (by omega) (fun c_4 => ?_) (fun c_4 => ?_)
        · skip
          refine lv_iconst (v := iI 0) hx hb dX6_unlikeOf_93 rfl ?_
          refine zr_iadd hx hb dX6_unlikeOf_94 ?_
          rw [hQ]
          exact ze_Ri hx hb hr hlk dX6_unlikeOf_95 (by unfold sp_unl; rw [if_neg (by omega)]; first | (exfalso; omega) | rw [if_pos (by omega)] | rw [if_neg (by omega)])
        · skip
          refine lv_aload_n hx hb dX6_unlikeOf_75 rfl (lv_at hl 2 rfl) ?_
          refine va_get (D := D) (ci := 6) (v := .ref mw) (C := RX6) (T := TX6) (N := 20) hx hb hU inlX6 hown hK hP 0 rfl rfl 0 (by decide) (hU _ kf_RX6_7) (fun _ h9 => h9) rfl dX6_unlikeOf_76 ?_
          refine lv_iconst (v := iI 5) hx hb dX6_unlikeOf_79 rfl ?_
          refine zr_iald hx hb hK hP 1 0 rfl rfl 5 (by omega) (by omega) (Nat.le_of_ble_eq_true rfl) dX6_unlikeOf_80 ?_
          refine lv_iload_n hx hb dX6_unlikeOf_81 rfl (lv_at hl 0 rfl) ?_
          refine lv_aload_n hx hb dX6_unlikeOf_82 rfl (lv_at hl 2 rfl) ?_
          refine va_get (D := D) (ci := 6) (v := .ref mw) (C := RX6) (T := TX6) (N := 20) hx hb hU inlX6 hown hK hP 0 rfl rfl 0 (by decide) (hU _ kf_RX6_7) (fun _ h9 => h9) rfl dX6_unlikeOf_83 ?_
          refine lv_iconst (v := iI 4) hx hb dX6_unlikeOf_86 rfl ?_
          refine zr_iald hx hb hK hP 1 0 rfl rfl 4 (by omega) (by omega) (Nat.le_of_ble_eq_true rfl) dX6_unlikeOf_87 ?_
          refine zr_isub hx hb dX6_unlikeOf_88 ?_
          refine zr_imul hx hb dX6_unlikeOf_89 ?_
          refine lv_goto (tgt := 94) hx hb dX6_unlikeOf_90 (by decide) ?_
          refine zr_iadd hx hb dX6_unlikeOf_94 ?_
          rw [hQ]
          exact ze_Ri hx hb hr hlk dX6_unlikeOf_95 (by unfold sp_unl; rw [if_neg (by omega)]; first | (exfalso; omega) | rw [if_pos (by omega)] | rw [if_neg (by omega)])
      · skip
        refine lv_iload_n hx hb dX6_unlikeOf_38 rfl (lv_at hl 2 rfl) ?_
        refine lv_goto (tgt := 49) hx hb dX6_unlikeOf_39 (by decide) ?_
        refine zr_rw (v := (min h (w 6))) (by omega) ?_
        refine lv_istore_n (lv' := [(3, .int (iI (min h (w 6)))), (2, .int (iI (min h (w 4)))), (0, .ref m0), (1, .int (iI h))]) hx hb dX6_unlikeOf_49 rfl hl (by decide) rfl (fun ls hl => ?_)
        refine lv_aload_n hx hb dX6_unlikeOf_50 rfl (lv_at hl 2 rfl) ?_
        refine va_get (D := D) (ci := 6) (v := .ref mw) (C := RX6) (T := TX6) (N := 20) hx hb hU inlX6 hown hK hP 0 rfl rfl 0 (by decide) (hU _ kf_RX6_7) (fun _ h9 => h9) rfl dX6_unlikeOf_51 ?_
        refine lv_iconst (v := iI 2) hx hb dX6_unlikeOf_54 rfl ?_
        refine zr_iald hx hb hK hP 1 0 rfl rfl 2 (by omega) (by omega) (Nat.le_of_ble_eq_true rfl) dX6_unlikeOf_55 ?_
        refine lv_aload_n hx hb dX6_unlikeOf_56 rfl (lv_at hl 2 rfl) ?_
        refine va_get (D := D) (ci := 6) (v := .ref mw) (C := RX6) (T := TX6) (N := 20) hx hb hU inlX6 hown hK hP 0 rfl rfl 0 (by decide) (hU _ kf_RX6_7) (fun _ h9 => h9) rfl dX6_unlikeOf_57 ?_
        refine lv_iconst (v := iI 3) hx hb dX6_unlikeOf_60 rfl ?_
        refine zr_iald hx hb hK hP 1 0 rfl rfl 3 (by omega) (by omega) (Nat.le_of_ble_eq_true rfl) dX6_unlikeOf_61 ?_
        refine lv_iload_n hx hb dX6_unlikeOf_62 rfl (lv_at hl 1 rfl) ?_
        refine zr_imul hx hb dX6_unlikeOf_63 ?_
        refine zr_iadd hx hb dX6_unlikeOf_64 ?_
        refine lv_iload_n hx hb dX6_unlikeOf_65 rfl (lv_at hl 3 rfl) ?_
        refine lv_aload_n hx hb dX6_unlikeOf_66 rfl (lv_at hl 2 rfl) ?_
        refine va_get (D := D) (ci := 6) (v := .ref mw) (C := RX6) (T := TX6) (N := 20) hx hb hU inlX6 hown hK hP 0 rfl rfl 0 (by decide) (hU _ kf_RX6_7) (fun _ h9 => h9) rfl dX6_unlikeOf_67 ?_
        refine lv_iconst (v := iI 4) hx hb dX6_unlikeOf_70 rfl ?_
        refine zr_iald hx hb hK hP 1 0 rfl rfl 4 (by omega) (by omega) (Nat.le_of_ble_eq_true rfl) dX6_unlikeOf_71 ?_
        refine zr_icmp_le (tgt := 93) hx hb dX6_unlikeOf_72 (by decide) (by omega) (by omega) (fun c_5 => ?_) (fun c_5 => ?_)
        · skip
          refine lv_iconst (v := iI 0) hx hb dX6_unlikeOf_93 rfl ?_
          refine zr_iadd hx hb dX6_unlikeOf_94 ?_
          rw [hQ]
          exact ze_Ri hx hb hr hlk dX6_unlikeOf_95 (by unfold sp_unl; rw [if_neg (by omega)]; first | (exfalso; omega) | rw [if_pos (by omega)] | rw [if_neg (by omega)])
        · skip
          refine lv_aload_n hx hb dX6_unlikeOf_75 rfl (lv_at hl 2 rfl) ?_
          refine va_get (D := D) (ci := 6) (v := .ref mw) (C := RX6) (T := TX6) (N := 20) hx hb hU inlX6 hown hK hP 0 rfl rfl 0 (by decide) (hU _ kf_RX6_7) (fun _ h9 => h9) rfl dX6_unlikeOf_76 ?_
          refine lv_iconst (v := iI 5) hx hb dX6_unlikeOf_79 rfl ?_
          refine zr_iald hx hb hK hP 1 0 rfl rfl 5 (by omega) (by omega) (Nat.le_of_ble_eq_true rfl) dX6_unlikeOf_80 ?_
          refine lv_iload_n hx hb dX6_unlikeOf_81 rfl (lv_at hl 0 rfl) ?_
          refine lv_aload_n hx hb dX6_unlikeOf_82 rfl (lv_at hl 2 rfl) ?_
          refine va_get (D := D) (ci := 6) (v := .ref mw) (C := RX6) (T := TX6) (N := 20) hx hb hU inlX6 hown hK hP 0 rfl rfl 0 (by decide) (hU _ kf_RX6_7) (fun _ h9 => h9) rfl dX6_unlikeOf_83 ?_
          refine lv_iconst (v := iI 4) hx hb dX6_unlikeOf_86 rfl ?_
          refine zr_iald hx hb hK hP 1 0 rfl rfl 4 (by omega) (by omega) (Nat.le_of_ble_eq_true rfl) dX6_unlikeOf_87 ?_
          refine zr_isub hx hb dX6_unlikeOf_88 ?_
          refine zr_imul hx hb dX6_unlikeOf_89 ?_
          refine lv_goto (tgt := 94) hx hb dX6_unlikeOf_90 (by decide) ?_
          refine zr_iadd hx hb dX6_unlikeOf_94 ?_
          rw [hQ]
          exact ze_Ri hx hb hr hlk dX6_unlikeOf_95 (by unfold sp_unl; rw [if_neg (by omega)]; first | (exfalso; omega) | rw [if_pos (by omega)] | rw [if_neg (by omega)])
    · skip
      refine lv_iload_n hx hb dX6_unlikeOf_16 rfl (lv_at hl 1 rfl) ?_
      refine lv_goto (tgt := 26) hx hb dX6_unlikeOf_17 (by decide) ?_
      refine zr_rw (v := (min h (w 4))) (by omega) ?_
      refine lv_istore_n (lv' := [(2, .int (iI (min h (w 4)))), (0, .ref m0), (1, .int (iI h))]) hx hb dX6_unlikeOf_26 rfl hl (by decide) rfl (fun ls hl => ?_)
      refine lv_iload_n hx hb dX6_unlikeOf_27 rfl (lv_at hl 2 rfl) ?_
      refine lv_aload_n hx hb dX6_unlikeOf_28 rfl (lv_at hl 1 rfl) ?_
      refine va_get (D := D) (ci := 6) (v := .ref mw) (C := RX6) (T := TX6) (N := 20) hx hb hU inlX6 hown hK hP 0 rfl rfl 0 (by decide) (hU _ kf_RX6_7) (fun _ h9 => h9) rfl dX6_unlikeOf_29 ?_
      refine lv_bipush (v := iI 6) hx hb dX6_unlikeOf_32 (by decide) ?_
      refine zr_iald hx hb hK hP 1 0 rfl rfl 6 (by omega) (by omega) (Nat.le_of_ble_eq_true rfl) dX6_unlikeOf_34 ?_
      refine zr_icmp_ge (tgt := 42) hx hb dX6_unlikeOf_35 (by decide) (by omega) (by omega) (fun c_6 => ?_) (fun c_6 => ?_)
      · skip
        refine lv_aload_n hx hb dX6_unlikeOf_42 rfl (lv_at hl 1 rfl) ?_
        refine va_get (D := D) (ci := 6) (v := .ref mw) (C := RX6) (T := TX6) (N := 20) hx hb hU inlX6 hown hK hP 0 rfl rfl 0 (by decide) (hU _ kf_RX6_7) (fun _ h9 => h9) rfl dX6_unlikeOf_43 ?_
        refine lv_bipush (v := iI 6) hx hb dX6_unlikeOf_46 (by decide) ?_
        refine zr_iald hx hb hK hP 1 0 rfl rfl 6 (by omega) (by omega) (Nat.le_of_ble_eq_true rfl) dX6_unlikeOf_48 ?_
        refine zr_rw (v := (min h (w 6))) (by omega) ?_
        refine lv_istore_n (lv' := [(3, .int (iI (min h (w 6)))), (2, .int (iI (min h (w 4)))), (0, .ref m0), (1, .int (iI h))]) hx hb dX6_unlikeOf_49 rfl hl (by decide) rfl (fun ls hl => ?_)
        refine lv_aload_n hx hb dX6_unlikeOf_50 rfl (lv_at hl 2 rfl) ?_
        refine va_get (D := D) (ci := 6) (v := .ref mw) (C := RX6) (T := TX6) (N := 20) hx hb hU inlX6 hown hK hP 0 rfl rfl 0 (by decide) (hU _ kf_RX6_7) (fun _ h9 => h9) rfl dX6_unlikeOf_51 ?_
        refine lv_iconst (v := iI 2) hx hb dX6_unlikeOf_54 rfl ?_
        refine zr_iald hx hb hK hP 1 0 rfl rfl 2 (by omega) (by omega) (Nat.le_of_ble_eq_true rfl) dX6_unlikeOf_55 ?_
        refine lv_aload_n hx hb dX6_unlikeOf_56 rfl (lv_at hl 2 rfl) ?_
        refine va_get (D := D) (ci := 6) (v := .ref mw) (C := RX6) (T := TX6) (N := 20) hx hb hU inlX6 hown hK hP 0 rfl rfl 0 (by decide) (hU _ kf_RX6_7) (fun _ h9 => h9) rfl dX6_unlikeOf_57 ?_
        refine lv_iconst (v := iI 3) hx hb dX6_unlikeOf_60 rfl ?_
        refine zr_iald hx hb hK hP 1 0 rfl rfl 3 (by omega) (by omega) (Nat.le_of_ble_eq_true rfl) dX6_unlikeOf_61 ?_
        refine lv_iload_n hx hb dX6_unlikeOf_62 rfl (lv_at hl 1 rfl) ?_
        refine zr_imul hx hb dX6_unlikeOf_63 ?_
        refine zr_iadd hx hb dX6_unlikeOf_64 ?_
        refine lv_iload_n hx hb dX6_unlikeOf_65 rfl (lv_at hl 3 rfl) ?_
        refine lv_aload_n hx hb dX6_unlikeOf_66 rfl (lv_at hl 2 rfl) ?_
        refine va_get (D := D) (ci := 6) (v := .ref mw) (C := RX6) (T := TX6) (N := 20) hx hb hU inlX6 hown hK hP 0 rfl rfl 0 (by decide) (hU _ kf_RX6_7) (fun _ h9 => h9) rfl dX6_unlikeOf_67 ?_
        refine lv_iconst (v := iI 4) hx hb dX6_unlikeOf_70 rfl ?_
        refine zr_iald hx hb hK hP 1 0 rfl rfl 4 (by omega) (by omega) (Nat.le_of_ble_eq_true rfl) dX6_unlikeOf_71 ?_
        refine zr_icmp_le (tgt := 93) hx hb dX6_unlikeOf_72 (by decide) (by omega) (by omega) (fun c_7 => ?_) (fun c_7 => ?_)
        · skip
          refine lv_iconst (v := iI 0) hx hb dX6_unlikeOf_93 rfl ?_
          refine zr_iadd hx hb dX6_unlikeOf_94 ?_
          rw [hQ]
          exact ze_Ri hx hb hr hlk dX6_unlikeOf_95 (by unfold sp_unl; rw [if_neg (by omega)]; first | (exfalso; omega) | rw [if_pos (by omega)] | rw [if_neg (by omega)])
        · skip
          refine lv_aload_n hx hb dX6_unlikeOf_75 rfl (lv_at hl 2 rfl) ?_
          refine va_get (D := D) (ci := 6) (v := .ref mw) (C := RX6) (T := TX6) (N := 20) hx hb hU inlX6 hown hK hP 0 rfl rfl 0 (by decide) (hU _ kf_RX6_7) (fun _ h9 => h9) rfl dX6_unlikeOf_76 ?_
          refine lv_iconst (v := iI 5) hx hb dX6_unlikeOf_79 rfl ?_
          refine zr_iald hx hb hK hP 1 0 rfl rfl 5 (by omega) (by omega) (Nat.le_of_ble_eq_true rfl) dX6_unlikeOf_80 ?_
          refine lv_iload_n hx hb dX6_unlikeOf_81 rfl (lv_at hl 0 rfl) ?_
          refine lv_aload_n hx hb dX6_unlikeOf_82 rfl (lv_at hl 2 rfl) ?_
          refine va_get (D := D) (ci := 6) (v := .ref mw) (C := RX6) (T := TX6) (N := 20) hx hb hU inlX6 hown hK hP 0 rfl rfl 0 (by decide) (hU _ kf_RX6_7) (fun _ h9 => h9) rfl dX6_unlikeOf_83 ?_
          refine lv_iconst (v := iI 4) hx hb dX6_unlikeOf_86 rfl ?_
          refine zr_iald hx hb hK hP 1 0 rfl rfl 4 (by omega) (by omega) (Nat.le_of_ble_eq_true rfl) dX6_unlikeOf_87 ?_
          refine zr_isub hx hb dX6_unlikeOf_88 ?_
          refine zr_imul hx hb dX6_unlikeOf_89 ?_
          refine lv_goto (tgt := 94) hx hb dX6_unlikeOf_90 (by decide) ?_
          refine zr_iadd hx hb dX6_unlikeOf_94 ?_
          rw [hQ]
          exact ze_Ri hx hb hr hlk dX6_unlikeOf_95 (by unfold sp_unl; rw [if_neg (by omega)]; first | (exfalso; omega) | rw [if_pos (by omega)] | rw [if_neg (by omega)])
      · skip
        refine lv_iload_n hx hb dX6_unlikeOf_38 rfl (lv_at hl 2 rfl) ?_
        refine lv_goto (tgt := 49) hx hb dX6_unlikeOf_39 (by decide) ?_
        refine zr_rw (v := (min h (w 6))) (by omega) ?_
        refine lv_istore_n (lv' := [(3, .int (iI (min h (w 6)))), (2, .int (iI (min h (w 4)))), (0, .ref m0), (1, .int (iI h))]) hx hb dX6_unlikeOf_49 rfl hl (by decide) rfl (fun ls hl => ?_)
        refine lv_aload_n hx hb dX6_unlikeOf_50 rfl (lv_at hl 2 rfl) ?_
        refine va_get (D := D) (ci := 6) (v := .ref mw) (C := RX6) (T := TX6) (N := 20) hx hb hU inlX6 hown hK hP 0 rfl rfl 0 (by decide) (hU _ kf_RX6_7) (fun _ h9 => h9) rfl dX6_unlikeOf_51 ?_
        refine lv_iconst (v := iI 2) hx hb dX6_unlikeOf_54 rfl ?_
        refine zr_iald hx hb hK hP 1 0 rfl rfl 2 (by omega) (by omega) (Nat.le_of_ble_eq_true rfl) dX6_unlikeOf_55 ?_
        refine lv_aload_n hx hb dX6_unlikeOf_56 rfl (lv_at hl 2 rfl) ?_
        refine va_get (D := D) (ci := 6) (v := .ref mw) (C := RX6) (T := TX6) (N := 20) hx hb hU inlX6 hown hK hP 0 rfl rfl 0 (by decide) (hU _ kf_RX6_7) (fun _ h9 => h9) rfl dX6_unlikeOf_57 ?_
        refine lv_iconst (v := iI 3) hx hb dX6_unlikeOf_60 rfl ?_
        refine zr_iald hx hb hK hP 1 0 rfl rfl 3 (by omega) (by omega) (Nat.le_of_ble_eq_true rfl) dX6_unlikeOf_61 ?_
        refine lv_iload_n hx hb dX6_unlikeOf_62 rfl (lv_at hl 1 rfl) ?_
        refine zr_imul hx hb dX6_unlikeOf_63 ?_
        refine zr_iadd hx hb dX6_unlikeOf_64 ?_
        refine lv_iload_n hx hb dX6_unlikeOf_65 rfl (lv_at hl 3 rfl) ?_
        refine lv_aload_n hx hb dX6_unlikeOf_66 rfl (lv_at hl 2 rfl) ?_
        refine va_get (D := D) (ci := 6) (v := .ref mw) (C := RX6) (T := TX6) (N := 20) hx hb hU inlX6 hown hK hP 0 rfl rfl 0 (by decide) (hU _ kf_RX6_7) (fun _ h9 => h9) rfl dX6_unlikeOf_67 ?_
        refine lv_iconst (v := iI 4) hx hb dX6_unlikeOf_70 rfl ?_
        refine zr_iald hx hb hK hP 1 0 rfl rfl 4 (by omega) (by omega) (Nat.le_of_ble_eq_true rfl) dX6_unlikeOf_71 ?_
        refine zr_icmp_le (tgt := 93) hx hb dX6_unlikeOf_72 (by decide) (by omega) (by omega) (fun c_8 => ?_) (fun c_8 => ?_)
        · skip
          refine lv_iconst (v := iI 0) hx hb dX6_unlikeOf_93 rfl ?_
          refine zr_iadd hx hb dX6_unlikeOf_94 ?_
          rw [hQ]
          exact ze_Ri hx hb hr hlk dX6_unlikeOf_95 (by unfold sp_unl; rw [if_neg (by omega)]; first | (exfalso; omega) | rw [if_pos (by omega)] | rw [if_neg (by omega)])
        · skip
          refine lv_aload_n hx hb dX6_unlikeOf_75 rfl (lv_at hl 2 rfl) ?_
          refine va_get (D := D) (ci := 6) (v := .ref mw) (C := RX6) (T := TX6) (N := 20) hx hb hU inlX6 hown hK hP 0 rfl rfl 0 (by decide) (hU _ kf_RX6_7) (fun _ h9 => h9) rfl dX6_unlikeOf_76 ?_
          refine lv_iconst (v := iI 5) hx hb dX6_unlikeOf_79 rfl ?_
          refine zr_iald hx hb hK hP 1 0 rfl rfl 5 (by omega) (by omega) (Nat.le_of_ble_eq_true rfl) dX6_unlikeOf_80 ?_
          refine lv_iload_n hx hb dX6_unlikeOf_81 rfl (lv_at hl 0 rfl) ?_
          refine lv_aload_n hx hb dX6_unlikeOf_82 rfl (lv_at hl 2 rfl) ?_
          refine va_get (D := D) (ci := 6) (v := .ref mw) (C := RX6) (T := TX6) (N := 20) hx hb hU inlX6 hown hK hP 0 rfl rfl 0 (by decide) (hU _ kf_RX6_7) (fun _ h9 => h9) rfl dX6_unlikeOf_83 ?_
          refine lv_iconst (v := iI 4) hx hb dX6_unlikeOf_86 rfl ?_
          refine zr_iald hx hb hK hP 1 0 rfl rfl 4 (by omega) (by omega) (Nat.le_of_ble_eq_true rfl) dX6_unlikeOf_87 ?_
          refine zr_isub hx hb dX6_unlikeOf_88 ?_
          refine zr_imul hx hb dX6_unlikeOf_89 ?_
          refine lv_goto (tgt := 94) hx hb dX6_unlikeOf_90 (by decide) ?_
          refine zr_iadd hx hb dX6_unlikeOf_94 ?_
          rw [hQ]
          exact ze_Ri hx hb hr hlk dX6_unlikeOf_95 (by unfold sp_unl; rw [if_neg (by omega)]; first | (exfalso; omega) | rw [if_pos (by omega)] | rw [if_neg (by omega)])
  · skip
    refine lv_iconst (v := iI 0) hx hb dX6_unlikeOf_4 rfl ?_
    rw [hQ]
    exact ze_Ri hx hb hr hlk dX6_unlikeOf_5 (by unfold sp_unl; rw [if_pos (by omega)])

set_option maxHeartbeats 4000000 in
set_option maxRecDepth 100000 in
theorem c_X6_unlikeTo (l : Launch) (D : va_G) (cI cL cG cM : ClassId) (m0 mw mks mbx mby mbi msn miq mtb mrt mgr mup : Nat) (w : Nat → Int) (kn : Int) (kp : Int) (sd : Int) (ks : Nat → Int) (bkx : Nat → Int) (bky : Nat → Int) (bki : Nat → Int) (bkn : Int) (sn : Nat → Int) (sns : Int) (iq : Nat → Int) (tb : Nat → Int) (rt : Nat → Int) (gr : Nat → Int) (ups : Nat → Int) (bel : Int) (scl : Int) (tp : Int) (bt : Int) (i : Nat) (x : Int) (y : Int) (hv : vR w) (hi : (i : Int) < w 0) (h1 : 0 ≤ x ∧ x ≤ 32) (h2 : 0 ≤ y ∧ y ≤ 32) : Met l yX6_unlikeTo (wU yX6_unlikeTo cX6_unlikeTo 4 (some .int)) (rmF 1 26) (pcR D (tyA cI cL cG cM) [(m0, .inr (6, [.ref mw, .int (iI kn), .int (iI kp), .int (iI sd), .ref mks, .ref mbx, .ref mby, .ref mbi, .int (iI bkn), .ref msn, .int (iI sns), .ref miq, .ref mtb, .ref mrt, .ref mgr, .ref mup, .long (lI bel), .long (lI scl), .long (lI tp), .long (lI bt)])), (mw, .inl (cI, 760, .inl (aI w))), (mks, .inl (cI, 2, .inl (aI ks))), (mbx, .inl (cI, 20, .inl (aI bkx))), (mby, .inl (cI, 20, .inl (aI bky))), (mbi, .inl (cI, 20, .inl (aI bki))), (msn, .inl (cI, 4, .inl (aI sn))), (miq, .inl (cI, 4, .inl (aI iq))), (mtb, .inl (cL, 25, .inr (.inl (aL tb)))), (mrt, .inl (cL, 5, .inr (.inl (aL rt)))), (mgr, .inl (cL, 32, .inr (.inl (aL gr)))), (mup, .inl (cL, 5, .inr (.inl (aL ups))))] [.ref m0, .int (iI (i : Int)), .int (iI x), .int (iI y)]) (qRi (sp_ut w i x y)) 0 0 (fun _ => False) := by
  refine zm_R (own := RX6) (lv := [(0, .ref m0), (1, .int (iI (i : Int))), (2, .int (iI x)), (3, .int (iI y))]) (by decide) rfl (Nat.le_of_ble_eq_true rfl) rfl ?_
  intro p e s m below meth c args Q hx hb hr hml hown hU hlk hP hK hNst hQ ls hl
  have h0 := hv.1
  have q1 := hv.2.2.2.2.2.2.2.2.2.2 i hi
  refine lv_aload_n hx hb dX6_unlikeTo_0 rfl (lv_at hl 0 rfl) ?_
  refine lv_aload_n hx hb dX6_unlikeTo_1 rfl (lv_at hl 0 rfl) ?_
  refine lv_aload_n hx hb dX6_unlikeTo_2 rfl (lv_at hl 0 rfl) ?_
  refine va_get (D := D) (ci := 6) (v := .ref mw) (C := RX6) (T := TX6) (N := 20) hx hb hU inlX6 hown hK hP 0 rfl rfl 0 (by decide) (hU _ kf_RX6_7) (fun _ h9 => h9) rfl dX6_unlikeTo_3 ?_
  refine lv_iload_n hx hb dX6_unlikeTo_6 rfl (lv_at hl 1 rfl) ?_
  refine zc_Si (As := [.int (iI (i : Int))]) (rest := [.ref mw, .ref m0, .ref m0]) (c_X6_slot l D cI cL cG cM (i : Int)) hx hb hml hown hU hl.1 ct_yX6_slot kt_yX6_slot km_RX6_50 ⟨rfl, rfl⟩ ⟨Nat.le_of_ble_eq_true rfl, Nat.le_of_ble_eq_true rfl⟩ rfl rfl (Nat.le_of_ble_eq_true rfl) dX6_unlikeTo_7 ⟨Nat.le_of_ble_eq_true rfl, Nat.le_of_ble_eq_true rfl⟩ ?_
  refine zr_iald hx hb hK hP 1 0 rfl rfl (10 + 3 * i) (by omega) (by omega) (Nat.le_of_ble_eq_true rfl) dX6_unlikeTo_10 ?_
  refine lv_aload_n hx hb dX6_unlikeTo_11 rfl (lv_at hl 0 rfl) ?_
  refine va_get (D := D) (ci := 6) (v := .ref mw) (C := RX6) (T := TX6) (N := 20) hx hb hU inlX6 hown hK hP 0 rfl rfl 0 (by decide) (hU _ kf_RX6_7) (fun _ h9 => h9) rfl dX6_unlikeTo_12 ?_
  refine lv_iload_n hx hb dX6_unlikeTo_15 rfl (lv_at hl 1 rfl) ?_
  refine zc_Si (As := [.int (iI (i : Int))]) (rest := [.ref mw, .int (iI (w (10 + 3 * i))), .ref m0, .ref m0]) (c_X6_slot l D cI cL cG cM (i : Int)) hx hb hml hown hU hl.1 ct_yX6_slot kt_yX6_slot km_RX6_50 ⟨rfl, rfl⟩ ⟨Nat.le_of_ble_eq_true rfl, Nat.le_of_ble_eq_true rfl⟩ rfl rfl (Nat.le_of_ble_eq_true rfl) dX6_unlikeTo_16 ⟨Nat.le_of_ble_eq_true rfl, Nat.le_of_ble_eq_true rfl⟩ ?_
  refine lv_iconst (v := iI 1) hx hb dX6_unlikeTo_19 rfl ?_
  refine zr_iadd hx hb dX6_unlikeTo_20 ?_
  refine zr_iald hx hb hK hP 1 0 rfl rfl (11 + 3 * i) (by omega) (by omega) (Nat.le_of_ble_eq_true rfl) dX6_unlikeTo_21 ?_
  refine lv_iload_n hx hb dX6_unlikeTo_22 rfl (lv_at hl 2 rfl) ?_
  refine lv_iload_n hx hb dX6_unlikeTo_23 rfl (lv_at hl 3 rfl) ?_
  refine zc_Vi (As := [.int (iI (w (10 + 3 * i))), .int (iI (w (11 + 3 * i))), .int (iI x), .int (iI y)]) (rest := [.ref m0]) (c_X6_far l D cI cL cG cM m0 mw mks mbx mby mbi msn miq mtb mrt mgr mup w kn kp sd ks bkx bky bki bkn sn sns iq tb rt gr ups bel scl tp bt (w (10 + 3 * i)) (w (11 + 3 * i)) x y (hv) (by omega) (by omega) (by omega) (by omega)) hx hb hml hown hU hl.1 ct_yX6_far cv_yX6_far km_RX6_54 hK hNst hP 6 0 rfl rfl rfl ⟨rfl, rfl⟩ ⟨Nat.le_of_ble_eq_true rfl, Nat.le_of_ble_eq_true rfl⟩ rfl rfl (Nat.le_of_ble_eq_true rfl) dX6_unlikeTo_24 ⟨Nat.le_of_ble_eq_true rfl, Nat.le_of_ble_eq_true rfl⟩ ?_
  have hf := sp_fr_rg2 (mt := w 1) (dx := w (10 + 3 * i) - x) (dy := w (11 + 3 * i) - y) (by omega) (by omega)
  refine zc_Vi (As := [.int (iI (sp_far w (w (10 + 3 * i)) (w (11 + 3 * i)) x y))]) (rest := []) (c_X6_unlikeOf l D cI cL cG cM m0 mw mks mbx mby mbi msn miq mtb mrt mgr mup w kn kp sd ks bkx bky bki bkn sn sns iq tb rt gr ups bel scl tp bt (sp_far w (w (10 + 3 * i)) (w (11 + 3 * i)) x y) (hv) (hf)) hx hb hml hown hU hl.1 ct_yX6_unlikeOf cv_yX6_unlikeOf km_RX6_58 hK hNst hP 6 0 rfl rfl rfl ⟨rfl, rfl⟩ ⟨Nat.le_of_ble_eq_true rfl, Nat.le_of_ble_eq_true rfl⟩ rfl rfl (Nat.le_of_ble_eq_true rfl) dX6_unlikeTo_27 ⟨Nat.le_of_ble_eq_true rfl, Nat.le_of_ble_eq_true rfl⟩ ?_
  rw [hQ]
  exact ze_Ri hx hb hr hlk dX6_unlikeTo_30 (by first | rfl | omega)

set_option maxHeartbeats 4000000 in
set_option maxRecDepth 100000 in
theorem c_X6_quarterOf (l : Launch) (D : va_G) (cI cL cG cM : ClassId) (m0 mw mks mbx mby mbi msn miq mtb mrt mgr mup : Nat) (w : Nat → Int) (kn : Int) (kp : Int) (sd : Int) (ks : Nat → Int) (bkx : Nat → Int) (bky : Nat → Int) (bki : Nat → Int) (bkn : Int) (sn : Nat → Int) (sns : Int) (iq : Nat → Int) (tb : Nat → Int) (rt : Nat → Int) (gr : Nat → Int) (ups : Nat → Int) (bel : Int) (scl : Int) (tp : Int) (bt : Int) (i : Nat) (x : Int) (y : Int) (hv : vR w) (hi : (i : Int) < w 0) (h1 : 0 ≤ x ∧ x ≤ 31) (h2 : 0 ≤ y ∧ y ≤ 31) : Met l yX6_quarterOf (wU yX6_quarterOf cX6_quarterOf 6 (some .int)) (rmF 1 20) (pcR D (tyA cI cL cG cM) [(m0, .inr (6, [.ref mw, .int (iI kn), .int (iI kp), .int (iI sd), .ref mks, .ref mbx, .ref mby, .ref mbi, .int (iI bkn), .ref msn, .int (iI sns), .ref miq, .ref mtb, .ref mrt, .ref mgr, .ref mup, .long (lI bel), .long (lI scl), .long (lI tp), .long (lI bt)])), (mw, .inl (cI, 760, .inl (aI w))), (mks, .inl (cI, 2, .inl (aI ks))), (mbx, .inl (cI, 20, .inl (aI bkx))), (mby, .inl (cI, 20, .inl (aI bky))), (mbi, .inl (cI, 20, .inl (aI bki))), (msn, .inl (cI, 4, .inl (aI sn))), (miq, .inl (cI, 4, .inl (aI iq))), (mtb, .inl (cL, 25, .inr (.inl (aL tb)))), (mrt, .inl (cL, 5, .inr (.inl (aL rt)))), (mgr, .inl (cL, 32, .inr (.inl (aL gr)))), (mup, .inl (cL, 5, .inr (.inl (aL ups))))] [.ref m0, .int (iI (i : Int)), .int (iI x), .int (iI y)]) (qRi (sp_qr w i x y)) 0 0 (fun _ => False) := by
  refine zm_R (own := RX6) (lv := [(0, .ref m0), (1, .int (iI (i : Int))), (2, .int (iI x)), (3, .int (iI y))]) (by decide) rfl (Nat.le_of_ble_eq_true rfl) rfl ?_
  intro p e s m below meth c args Q hx hb hr hml hown hU hlk hP hK hNst hQ ls hl
  have h0 := hv.1
  have q1 := hv.2.2.2.2.2.2.2.2.2.2 i hi
  refine lv_aload_n hx hb dX6_quarterOf_0 rfl (lv_at hl 0 rfl) ?_
  refine va_get (D := D) (ci := 6) (v := .ref mw) (C := RX6) (T := TX6) (N := 20) hx hb hU inlX6 hown hK hP 0 rfl rfl 0 (by decide) (hU _ kf_RX6_7) (fun _ h9 => h9) rfl dX6_quarterOf_1 ?_
  refine lv_iload_n hx hb dX6_quarterOf_4 rfl (lv_at hl 1 rfl) ?_
  refine zc_Si (As := [.int (iI (i : Int))]) (rest := [.ref mw]) (c_X6_slot l D cI cL cG cM (i : Int)) hx hb hml hown hU hl.1 ct_yX6_slot kt_yX6_slot km_RX6_50 ⟨rfl, rfl⟩ ⟨Nat.le_of_ble_eq_true rfl, Nat.le_of_ble_eq_true rfl⟩ rfl rfl (Nat.le_of_ble_eq_true rfl) dX6_quarterOf_5 ⟨Nat.le_of_ble_eq_true rfl, Nat.le_of_ble_eq_true rfl⟩ ?_
  refine zr_iald hx hb hK hP 1 0 rfl rfl (10 + 3 * i) (by omega) (by omega) (Nat.le_of_ble_eq_true rfl) dX6_quarterOf_8 ?_
  refine lv_iload_n hx hb dX6_quarterOf_9 rfl (lv_at hl 2 rfl) ?_
  refine zr_icmp_ge (tgt := 17) hx hb dX6_quarterOf_10 (by decide) (by omega) (by omega) (fun c_1 => ?_) (fun c_1 => ?_)
  · skip
    refine lv_iconst (v := iI 0) hx hb dX6_quarterOf_17 rfl ?_
    refine lv_istore (lv' := [(4, .int (iI 0)), (0, .ref m0), (1, .int (iI (i : Int))), (2, .int (iI x)), (3, .int (iI y))]) hx hb dX6_quarterOf_18 hl (by decide) rfl (fun ls hl => ?_)
    refine lv_aload_n hx hb dX6_quarterOf_20 rfl (lv_at hl 1 rfl) ?_
    refine va_get (D := D) (ci := 6) (v := .ref mw) (C := RX6) (T := TX6) (N := 20) hx hb hU inlX6 hown hK hP 0 rfl rfl 0 (by decide) (hU _ kf_RX6_7) (fun _ h9 => h9) rfl dX6_quarterOf_21 ?_
    refine lv_iload_n hx hb dX6_quarterOf_24 rfl (lv_at hl 2 rfl) ?_
    refine zc_Si (As := [.int (iI (i : Int))]) (rest := [.ref mw]) (c_X6_slot l D cI cL cG cM (i : Int)) hx hb hml hown hU hl.1 ct_yX6_slot kt_yX6_slot km_RX6_50 ⟨rfl, rfl⟩ ⟨Nat.le_of_ble_eq_true rfl, Nat.le_of_ble_eq_true rfl⟩ rfl rfl (Nat.le_of_ble_eq_true rfl) dX6_quarterOf_25 ⟨Nat.le_of_ble_eq_true rfl, Nat.le_of_ble_eq_true rfl⟩ ?_
    refine lv_iconst (v := iI 1) hx hb dX6_quarterOf_28 rfl ?_
    refine zr_iadd hx hb dX6_quarterOf_29 ?_
    refine zr_iald hx hb hK hP 1 0 rfl rfl (11 + 3 * i) (by omega) (by omega) (Nat.le_of_ble_eq_true rfl) dX6_quarterOf_30 ?_
    refine lv_iload_n hx hb dX6_quarterOf_31 rfl (lv_at hl 4 rfl) ?_
    refine zr_icmp_ge (tgt := 39) hx hb dX6_quarterOf_32 (by decide) (by omega) (by omega) (fun c_2 => ?_) (fun c_2 => ?_)
    · skip
      refine lv_iconst (v := iI 0) hx hb dX6_quarterOf_39 rfl ?_
      refine lv_istore (lv' := [(5, .int (iI 0)), (4, .int (iI 0)), (0, .ref m0), (1, .int (iI (i : Int))), (2, .int (iI x)), (3, .int (iI y))]) hx hb dX6_quarterOf_40 hl (by decide) rfl (fun ls hl => ?_)
      refine lv_iload hx hb dX6_quarterOf_42 (lv_at hl 0 rfl) ?_
      refine zr_if_eq (tgt := 60) hx hb dX6_quarterOf_44 (by decide) (by omega) (fun c_3 => ?_) (fun c_3 => absurd c_3 (by decide))
      refine lv_iload hx hb dX6_quarterOf_60 (lv_at hl 1 rfl) ?_
      refine zr_if_eq (tgt := 69) hx hb dX6_quarterOf_62 (by decide) (by omega) (fun c_4 => ?_) (fun c_4 => absurd c_4 (by decide))
      refine lv_iconst (v := iI 0) hx hb dX6_quarterOf_69 rfl ?_
      rw [hQ]
      exact ze_Ri hx hb hr hlk dX6_quarterOf_70 (by unfold sp_qr; first | rw [if_pos (by omega), if_pos (by omega)] | rw [if_pos (by omega), if_neg (by omega)] | rw [if_neg (by omega), if_pos (by omega)] | rw [if_neg (by omega), if_neg (by omega)])
    · skip
      refine lv_iconst (v := iI 1) hx hb dX6_quarterOf_35 rfl ?_
      refine lv_goto (tgt := 40) hx hb dX6_quarterOf_36 (by decide) ?_
      refine lv_istore (lv' := [(5, .int (iI 1)), (4, .int (iI 0)), (0, .ref m0), (1, .int (iI (i : Int))), (2, .int (iI x)), (3, .int (iI y))]) hx hb dX6_quarterOf_40 hl (by decide) rfl (fun ls hl => ?_)
      refine lv_iload hx hb dX6_quarterOf_42 (lv_at hl 0 rfl) ?_
      refine zr_if_eq (tgt := 60) hx hb dX6_quarterOf_44 (by decide) (by omega) (fun c_5 => absurd c_5 (by decide)) (fun c_5 => ?_)
      refine lv_iload hx hb dX6_quarterOf_47 (lv_at hl 1 rfl) ?_
      refine zr_if_eq (tgt := 56) hx hb dX6_quarterOf_49 (by decide) (by omega) (fun c_6 => ?_) (fun c_6 => absurd c_6 (by decide))
      refine lv_iconst (v := iI 3) hx hb dX6_quarterOf_56 rfl ?_
      refine lv_goto (tgt := 70) hx hb dX6_quarterOf_57 (by decide) ?_
      rw [hQ]
      exact ze_Ri hx hb hr hlk dX6_quarterOf_70 (by unfold sp_qr; first | rw [if_pos (by omega), if_pos (by omega)] | rw [if_pos (by omega), if_neg (by omega)] | rw [if_neg (by omega), if_pos (by omega)] | rw [if_neg (by omega), if_neg (by omega)])
  · skip
    refine lv_iconst (v := iI 1) hx hb dX6_quarterOf_13 rfl ?_
    refine lv_goto (tgt := 18) hx hb dX6_quarterOf_14 (by decide) ?_
    refine lv_istore (lv' := [(4, .int (iI 1)), (0, .ref m0), (1, .int (iI (i : Int))), (2, .int (iI x)), (3, .int (iI y))]) hx hb dX6_quarterOf_18 hl (by decide) rfl (fun ls hl => ?_)
    refine lv_aload_n hx hb dX6_quarterOf_20 rfl (lv_at hl 1 rfl) ?_
    refine va_get (D := D) (ci := 6) (v := .ref mw) (C := RX6) (T := TX6) (N := 20) hx hb hU inlX6 hown hK hP 0 rfl rfl 0 (by decide) (hU _ kf_RX6_7) (fun _ h9 => h9) rfl dX6_quarterOf_21 ?_
    refine lv_iload_n hx hb dX6_quarterOf_24 rfl (lv_at hl 2 rfl) ?_
    refine zc_Si (As := [.int (iI (i : Int))]) (rest := [.ref mw]) (c_X6_slot l D cI cL cG cM (i : Int)) hx hb hml hown hU hl.1 ct_yX6_slot kt_yX6_slot km_RX6_50 ⟨rfl, rfl⟩ ⟨Nat.le_of_ble_eq_true rfl, Nat.le_of_ble_eq_true rfl⟩ rfl rfl (Nat.le_of_ble_eq_true rfl) dX6_quarterOf_25 ⟨Nat.le_of_ble_eq_true rfl, Nat.le_of_ble_eq_true rfl⟩ ?_
    refine lv_iconst (v := iI 1) hx hb dX6_quarterOf_28 rfl ?_
    refine zr_iadd hx hb dX6_quarterOf_29 ?_
    refine zr_iald hx hb hK hP 1 0 rfl rfl (11 + 3 * i) (by omega) (by omega) (Nat.le_of_ble_eq_true rfl) dX6_quarterOf_30 ?_
    refine lv_iload_n hx hb dX6_quarterOf_31 rfl (lv_at hl 4 rfl) ?_
    refine zr_icmp_ge (tgt := 39) hx hb dX6_quarterOf_32 (by decide) (by omega) (by omega) (fun c_7 => ?_) (fun c_7 => ?_)
    · skip
      refine lv_iconst (v := iI 0) hx hb dX6_quarterOf_39 rfl ?_
      refine lv_istore (lv' := [(5, .int (iI 0)), (4, .int (iI 1)), (0, .ref m0), (1, .int (iI (i : Int))), (2, .int (iI x)), (3, .int (iI y))]) hx hb dX6_quarterOf_40 hl (by decide) rfl (fun ls hl => ?_)
      refine lv_iload hx hb dX6_quarterOf_42 (lv_at hl 0 rfl) ?_
      refine zr_if_eq (tgt := 60) hx hb dX6_quarterOf_44 (by decide) (by omega) (fun c_8 => ?_) (fun c_8 => absurd c_8 (by decide))
      refine lv_iload hx hb dX6_quarterOf_60 (lv_at hl 1 rfl) ?_
      refine zr_if_eq (tgt := 69) hx hb dX6_quarterOf_62 (by decide) (by omega) (fun c_9 => absurd c_9 (by decide)) (fun c_9 => ?_)
      refine lv_iconst (v := iI 1) hx hb dX6_quarterOf_65 rfl ?_
      refine lv_goto (tgt := 70) hx hb dX6_quarterOf_66 (by decide) ?_
      rw [hQ]
      exact ze_Ri hx hb hr hlk dX6_quarterOf_70 (by unfold sp_qr; first | rw [if_pos (by omega), if_pos (by omega)] | rw [if_pos (by omega), if_neg (by omega)] | rw [if_neg (by omega), if_pos (by omega)] | rw [if_neg (by omega), if_neg (by omega)])
    · skip
      refine lv_iconst (v := iI 1) hx hb dX6_quarterOf_35 rfl ?_
      refine lv_goto (tgt := 40) hx hb dX6_quarterOf_36 (by decide) ?_
      refine lv_istore (lv' := [(5, .int (iI 1)), (4, .int (iI 1)), (0, .ref m0), (1, .int (iI (i : Int))), (2, .int (iI x)), (3, .int (iI y))]) hx hb dX6_quarterOf_40 hl (by decide) rfl (fun ls hl => ?_)
      refine lv_iload hx hb dX6_quarterOf_42 (lv_at hl 0 rfl) ?_
      refine zr_if_eq (tgt := 60) hx hb dX6_quarterOf_44 (by decide) (by omega) (fun c_10 => absurd c_10 (by decide)) (fun c_10 => ?_)
      refine lv_iload hx hb dX6_quarterOf_47 (lv_at hl 1 rfl) ?_
      refine zr_if_eq (tgt := 56) hx hb dX6_quarterOf_49 (by decide) (by omega) (fun c_11 => absurd c_11 (by decide)) (fun c_11 => ?_)
      refine lv_iconst (v := iI 2) hx hb dX6_quarterOf_52 rfl ?_
      refine lv_goto (tgt := 70) hx hb dX6_quarterOf_53 (by decide) ?_
      rw [hQ]
      exact ze_Ri hx hb hr hlk dX6_quarterOf_70 (by unfold sp_qr; first | rw [if_pos (by omega), if_pos (by omega)] | rw [if_pos (by omega), if_neg (by omega)] | rw [if_neg (by omega), if_pos (by omega)] | rw [if_neg (by omega), if_neg (by omega)])

set_option maxHeartbeats 4000000 in
set_option maxRecDepth 100000 in
theorem c_X6_size (l : Launch) (D : va_G) (cI cL cG cM : ClassId)  (v : Int) (h1 : -9223372036854775807 ≤ v ∧ v ≤ 9223372036854775807) : Met l yX6_size (wU yX6_size cX6_size 2 (some .long)) (rmF 0 0) (pcN [.long (lI v)]) (qRl (max v (-v))) 0 0 (fun _ => False) := by
  refine zm_N (own := RX6) (lv := [(0, .long (lI v))]) (by decide) rfl (Nat.le_of_ble_eq_true rfl) rfl ?_
  intro p e s m below meth c args Q hx hb hr hml hown hU hlk hQ ls hl
  refine lv_lload_n hx hb dX6_size_0 rfl (lv_at hl 0 rfl) ?_
  refine lv_lconst (v := lI 0) hx hb dX6_size_1 rfl ?_
  refine zr_lcmp_ge (tgt := 11) hx hb dX6_size_2 dX6_size_3 (by decide) (by omega) (by omega) (fun c_1 => ?_) (fun c_1 => ?_)
  · skip
    refine lv_lload_n hx hb dX6_size_11 rfl (lv_at hl 0 rfl) ?_
    rw [hQ]
    exact ze_Rl hx hb hr hlk dX6_size_12 (by first | rfl | omega)
  · skip
    refine lv_lload_n hx hb dX6_size_6 rfl (lv_at hl 0 rfl) ?_
    refine zr_lneg hx hb dX6_size_7 ?_
    refine lv_goto (tgt := 12) hx hb dX6_size_8 (by decide) ?_
    rw [hQ]
    exact ze_Rl hx hb hr hlk dX6_size_12 (by first | rfl | omega)
