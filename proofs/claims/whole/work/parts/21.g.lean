set_option maxHeartbeats 4000000 in
set_option maxRecDepth 100000 in
theorem c_X2_far (l : Launch) (D : va_G) (cI cL cG cM : ClassId) (ga gx gy gz : Nat) (g : Nat → Int) (ax : Int) (ay : Int) (hv : vR g) (h1 : -1000 ≤ ax ∧ ax ≤ 1000) (h2 : -1000 ≤ ay ∧ ay ≤ 1000) : Met l yX2_far (wU yX2_far cX2_far 5 (some .int)) (rmF 1 24) (pcR D (tyA cI cL cG cM) [(ga, .inr (2, [.int (iI (g 0)), .ref gx, .ref gy, .ref gz, .int (iI (g 1)), .int (iI (g 2)), .int (iI (g 3)), .int (iI (g 4)), .int (iI (g 5)), .int (iI (g 6)), .int (iI (g 7)), .int (iI (g 8)), .int (iI (g 9))])), (gx, .inl (cI, 10, .inl (aI (fun j => g (10 + 3 * j))))), (gy, .inl (cI, 10, .inl (aI (fun j => g (11 + 3 * j))))), (gz, .inl (cI, 10, .inl (aI (fun j => g (12 + 3 * j)))))] [.ref ga, .int (iI ax), .int (iI ay)]) (qRi (sp_fr (g 1) ax ay)) 0 0 (fun _ => False) := by
  refine zm_R (own := RX2) (lv := [(0, .ref ga), (1, .int (iI ax)), (2, .int (iI ay))]) (by decide) rfl (Nat.le_of_ble_eq_true rfl) rfl ?_
  intro p e s m below meth c args Q hx hb hr hml hown hU hlk hP hK hNst hQ ls hl
  have h3 := hv.2.1
  refine lv_iload_n hx hb dX2_far_0 rfl (lv_at hl 1 rfl) ?_
  refine zr_mabs hx hb (hml.trans hl.1.symm) hown (hU _ km_RX2_58) (hU _ kt_Lib_Math_abs_name) (hU _ kn__java_lang_Math_) (hU _ kc_Lib_Math_abs_name) (Nat.le_of_ble_eq_true rfl) (Nat.le_of_ble_eq_true rfl) (Nat.le_of_ble_eq_true rfl) (Nat.le_of_ble_eq_true rfl) dX2_far_1 (by omega) ?_
  refine lv_istore_n (lv' := [(3, .int (iI (max ax (-ax)))), (0, .ref ga), (1, .int (iI ax)), (2, .int (iI ay))]) hx hb dX2_far_4 rfl hl (by decide) rfl (fun ls hl => ?_)
  refine lv_iload_n hx hb dX2_far_5 rfl (lv_at hl 3 rfl) ?_
  refine zr_mabs hx hb (hml.trans hl.1.symm) hown (hU _ km_RX2_58) (hU _ kt_Lib_Math_abs_name) (hU _ kn__java_lang_Math_) (hU _ kc_Lib_Math_abs_name) (Nat.le_of_ble_eq_true rfl) (Nat.le_of_ble_eq_true rfl) (Nat.le_of_ble_eq_true rfl) (Nat.le_of_ble_eq_true rfl) dX2_far_6 (by omega) ?_
  refine lv_istore (lv' := [(4, .int (iI (max ay (-ay)))), (3, .int (iI (max ax (-ax)))), (0, .ref ga), (1, .int (iI ax)), (2, .int (iI ay))]) hx hb dX2_far_9 hl (by decide) rfl (fun ls hl => ?_)
  refine lv_aload_n hx hb dX2_far_11 rfl (lv_at hl 2 rfl) ?_
  refine va_get (D := D) (ci := 2) (v := .int (iI (g 1))) (C := RX2) (T := TX2) (N := 13) hx hb hU inlX2 hown hK hP 0 rfl rfl 4 (by decide) (hU _ kf_RX2_55) (fun _ h9 => h9) rfl dX2_far_12 ?_
  refine zr_if_ne (tgt := 25) hx hb dX2_far_15 (by decide) (by omega) (fun c_1 => ?_) (fun c_1 => ?_)
  · skip
    refine lv_iload_n hx hb dX2_far_25 rfl (lv_at hl 1 rfl) ?_
    refine lv_iload hx hb dX2_far_26 (lv_at hl 0 rfl) ?_
    refine zr_mmax hx hb (hml.trans hl.1.symm) hown (hU _ km_RX2_64) (hU _ kt_Lib_Math_max_name) (hU _ kn__java_lang_Math_) (hU _ kc_Lib_Math_max_name) (Nat.le_of_ble_eq_true rfl) (Nat.le_of_ble_eq_true rfl) (Nat.le_of_ble_eq_true rfl) (Nat.le_of_ble_eq_true rfl) dX2_far_28 (by omega) (by omega) ?_
    rw [hQ]
    exact ze_Ri hx hb hr hlk dX2_far_31 (by unfold sp_fr; rw [if_neg (by omega)])
  · skip
    refine lv_iload_n hx hb dX2_far_18 rfl (lv_at hl 1 rfl) ?_
    refine lv_iload hx hb dX2_far_19 (lv_at hl 0 rfl) ?_
    refine zr_iadd hx hb dX2_far_21 ?_
    refine lv_goto (tgt := 31) hx hb dX2_far_22 (by decide) ?_
    rw [hQ]
    exact ze_Ri hx hb hr hlk dX2_far_31 (by unfold sp_fr; rw [if_pos (by omega)])

set_option maxHeartbeats 4000000 in
set_option maxRecDepth 100000 in
theorem c_X2_unlikeOf (l : Launch) (D : va_G) (cI cL cG cM : ClassId) (ga gx gy gz : Nat) (g : Nat → Int) (h : Int) (hv : vR g) (h1 : 0 ≤ h ∧ h ≤ 1000) : Met l yX2_unlikeOf (wU yX2_unlikeOf cX2_unlikeOf 4 (some .int)) (rmF 1 24) (pcR D (tyA cI cL cG cM) [(ga, .inr (2, [.int (iI (g 0)), .ref gx, .ref gy, .ref gz, .int (iI (g 1)), .int (iI (g 2)), .int (iI (g 3)), .int (iI (g 4)), .int (iI (g 5)), .int (iI (g 6)), .int (iI (g 7)), .int (iI (g 8)), .int (iI (g 9))])), (gx, .inl (cI, 10, .inl (aI (fun j => g (10 + 3 * j))))), (gy, .inl (cI, 10, .inl (aI (fun j => g (11 + 3 * j))))), (gz, .inl (cI, 10, .inl (aI (fun j => g (12 + 3 * j)))))] [.ref ga, .int (iI h)]) (qRi (sp_unl g h)) 0 0 (fun _ => False) := by
  refine zm_R (own := RX2) (lv := [(0, .ref ga), (1, .int (iI h))]) (by decide) rfl (Nat.le_of_ble_eq_true rfl) rfl ?_
  intro p e s m below meth c args Q hx hb hr hml hown hU hlk hP hK hNst hQ ls hl
  obtain ⟨-, -, h2, h3, h4, h5, h6, -⟩ := id hv
  refine lv_iload_n hx hb dX2_unlikeOf_0 rfl (lv_at hl 1 rfl) ?_
  refine zr_if_ne (tgt := 6) hx hb dX2_unlikeOf_1 (by decide) (by omega) (fun c_1 => ?_) (fun c_1 => ?_)
  · skip
    refine lv_aload_n hx hb dX2_unlikeOf_6 rfl (lv_at hl 0 rfl) ?_
    refine va_get (D := D) (ci := 2) (v := .int (iI (g 3))) (C := RX2) (T := TX2) (N := 13) hx hb hU inlX2 hown hK hP 0 rfl rfl 6 (by decide) (hU _ kf_RX2_25) (fun _ h9 => h9) rfl dX2_unlikeOf_7 ?_
    refine lv_iload_n hx hb dX2_unlikeOf_10 rfl (lv_at hl 1 rfl) ?_
    refine lv_aload_n hx hb dX2_unlikeOf_11 rfl (lv_at hl 0 rfl) ?_
    refine va_get (D := D) (ci := 2) (v := .int (iI (g 4))) (C := RX2) (T := TX2) (N := 13) hx hb hU inlX2 hown hK hP 0 rfl rfl 7 (by decide) (hU _ kf_RX2_28) (fun _ h9 => h9) rfl dX2_unlikeOf_12 ?_
    refine zr_mmin hx hb (hml.trans hl.1.symm) hown (hU _ km_RX2_68) (hU _ kt_Lib_Math_min_name) (hU _ kn__java_lang_Math_) (hU _ kc_Lib_Math_min_name) (Nat.le_of_ble_eq_true rfl) (Nat.le_of_ble_eq_true rfl) (Nat.le_of_ble_eq_true rfl) (Nat.le_of_ble_eq_true rfl) dX2_unlikeOf_15 (by omega) (by omega) ?_
    refine zr_imul hx hb dX2_unlikeOf_18 ?_
    refine lv_istore_n (lv' := [(2, .int (iI ((g 3) * (min h (g 4))))), (0, .ref ga), (1, .int (iI h))]) hx hb dX2_unlikeOf_19 rfl hl (by decide) rfl (fun ls hl => ?_)
    refine lv_iload_n hx hb dX2_unlikeOf_20 rfl (lv_at hl 2 rfl) ?_
    refine lv_aload_n hx hb dX2_unlikeOf_21 rfl (lv_at hl 1 rfl) ?_
    refine va_get (D := D) (ci := 2) (v := .int (iI (g 4))) (C := RX2) (T := TX2) (N := 13) hx hb hU inlX2 hown hK hP 0 rfl rfl 7 (by decide) (hU _ kf_RX2_28) (fun _ h9 => h9) rfl dX2_unlikeOf_22 ?_
    refine zr_icmp_le (tgt := 49) hx hb dX2_unlikeOf_25 (by decide) (by omega) (by omega) (fun c_2 => ?_) (fun c_2 => ?_)
    · skip
      refine lv_iconst (v := iI 0) hx hb dX2_unlikeOf_49 rfl ?_
      refine lv_istore_n (lv' := [(3, .int (iI 0)), (2, .int (iI ((g 3) * (min h (g 4))))), (0, .ref ga), (1, .int (iI h))]) hx hb dX2_unlikeOf_50 rfl hl (by decide) rfl (fun ls hl => ?_)
      refine lv_aload_n hx hb dX2_unlikeOf_51 rfl (lv_at hl 2 rfl) ?_
      refine va_get (D := D) (ci := 2) (v := .int (iI (g 2))) (C := RX2) (T := TX2) (N := 13) hx hb hU inlX2 hown hK hP 0 rfl rfl 5 (by decide) (hU _ kf_RX2_21) (fun _ h9 => h9) rfl dX2_unlikeOf_52 ?_
      refine lv_iload_n hx hb dX2_unlikeOf_55 rfl (lv_at hl 1 rfl) ?_
      refine zr_iadd hx hb dX2_unlikeOf_56 ?_
      refine lv_iload_n hx hb dX2_unlikeOf_57 rfl (lv_at hl 0 rfl) ?_
      refine zr_iadd hx hb dX2_unlikeOf_58 ?_
      rw [hQ]
      exact ze_Ri hx hb hr hlk dX2_unlikeOf_59 (by unfold sp_unl; rw [if_neg (by omega), if_neg (by omega)])
    · skip
      refine lv_aload_n hx hb dX2_unlikeOf_28 rfl (lv_at hl 1 rfl) ?_
      refine va_get (D := D) (ci := 2) (v := .int (iI (g 5))) (C := RX2) (T := TX2) (N := 13) hx hb hU inlX2 hown hK hP 0 rfl rfl 8 (by decide) (hU _ kf_RX2_31) (fun _ h9 => h9) rfl dX2_unlikeOf_29 ?_
      refine lv_iload_n hx hb dX2_unlikeOf_32 rfl (lv_at hl 2 rfl) ?_
      refine lv_aload_n hx hb dX2_unlikeOf_33 rfl (lv_at hl 1 rfl) ?_
      refine va_get (D := D) (ci := 2) (v := .int (iI (g 6))) (C := RX2) (T := TX2) (N := 13) hx hb hU inlX2 hown hK hP 0 rfl rfl 9 (by decide) (hU _ kf_RX2_34) (fun _ h9 => h9) rfl dX2_unlikeOf_34 ?_
      refine zr_mmin hx hb (hml.trans hl.1.symm) hown (hU _ km_RX2_68) (hU _ kt_Lib_Math_min_name) (hU _ kn__java_lang_Math_) (hU _ kc_Lib_Math_min_name) (Nat.le_of_ble_eq_true rfl) (Nat.le_of_ble_eq_true rfl) (Nat.le_of_ble_eq_true rfl) (Nat.le_of_ble_eq_true rfl) dX2_unlikeOf_37 (by omega) (by omega) ?_
      refine lv_aload_n hx hb dX2_unlikeOf_40 rfl (lv_at hl 1 rfl) ?_
      refine va_get (D := D) (ci := 2) (v := .int (iI (g 4))) (C := RX2) (T := TX2) (N := 13) hx hb hU inlX2 hown hK hP 0 rfl rfl 7 (by decide) (hU _ kf_RX2_28) (fun _ h9 => h9) rfl dX2_unlikeOf_41 ?_
      refine zr_isub hx hb dX2_unlikeOf_44 ?_
      refine zr_imul hx hb dX2_unlikeOf_45 ?_
      refine lv_goto (tgt := 50) hx hb dX2_unlikeOf_46 (by decide) ?_
      refine lv_istore_n (lv' := [(3, .int (iI ((g 5) * ((min h (g 6)) - (g 4))))), (2, .int (iI ((g 3) * (min h (g 4))))), (0, .ref ga), (1, .int (iI h))]) hx hb dX2_unlikeOf_50 rfl hl (by decide) rfl (fun ls hl => ?_)
      refine lv_aload_n hx hb dX2_unlikeOf_51 rfl (lv_at hl 2 rfl) ?_
      refine va_get (D := D) (ci := 2) (v := .int (iI (g 2))) (C := RX2) (T := TX2) (N := 13) hx hb hU inlX2 hown hK hP 0 rfl rfl 5 (by decide) (hU _ kf_RX2_21) (fun _ h9 => h9) rfl dX2_unlikeOf_52 ?_
      refine lv_iload_n hx hb dX2_unlikeOf_55 rfl (lv_at hl 1 rfl) ?_
      refine zr_iadd hx hb dX2_unlikeOf_56 ?_
      refine lv_iload_n hx hb dX2_unlikeOf_57 rfl (lv_at hl 0 rfl) ?_
      refine zr_iadd hx hb dX2_unlikeOf_58 ?_
      rw [hQ]
      exact ze_Ri hx hb hr hlk dX2_unlikeOf_59 (by unfold sp_unl; rw [if_neg (by omega), if_pos (by omega)])
  · skip
    refine lv_iconst (v := iI 0) hx hb dX2_unlikeOf_4 rfl ?_
    rw [hQ]
    exact ze_Ri hx hb hr hlk dX2_unlikeOf_5 (by unfold sp_unl; rw [if_pos (by omega)])

set_option maxHeartbeats 4000000 in
set_option maxRecDepth 100000 in
theorem c_X2_unlikeApart (l : Launch) (D : va_G) (cI cL cG cM : ClassId) (ga gx gy gz : Nat) (g : Nat → Int) (ax : Int) (ay : Int) (hv : vR g) (h1 : -32 ≤ ax ∧ ax ≤ 32) (h2 : -32 ≤ ay ∧ ay ≤ 32) : Met l yX2_unlikeApart (wU yX2_unlikeApart cX2_unlikeApart 3 (some .int)) (rmF 2 48) (pcR D (tyA cI cL cG cM) [(ga, .inr (2, [.int (iI (g 0)), .ref gx, .ref gy, .ref gz, .int (iI (g 1)), .int (iI (g 2)), .int (iI (g 3)), .int (iI (g 4)), .int (iI (g 5)), .int (iI (g 6)), .int (iI (g 7)), .int (iI (g 8)), .int (iI (g 9))])), (gx, .inl (cI, 10, .inl (aI (fun j => g (10 + 3 * j))))), (gy, .inl (cI, 10, .inl (aI (fun j => g (11 + 3 * j))))), (gz, .inl (cI, 10, .inl (aI (fun j => g (12 + 3 * j)))))] [.ref ga, .int (iI ax), .int (iI ay)]) (qRi (sp_unl g (sp_fr (g 1) ax ay))) 0 0 (fun _ => False) := by
  refine zm_R (own := RX2) (lv := [(0, .ref ga), (1, .int (iI ax)), (2, .int (iI ay))]) (by decide) rfl (Nat.le_of_ble_eq_true rfl) rfl ?_
  intro p e s m below meth c args Q hx hb hr hml hown hU hlk hP hK hNst hQ ls hl
  refine lv_aload_n hx hb dX2_unlikeApart_0 rfl (lv_at hl 0 rfl) ?_
  refine lv_aload_n hx hb dX2_unlikeApart_1 rfl (lv_at hl 0 rfl) ?_
  refine lv_iload_n hx hb dX2_unlikeApart_2 rfl (lv_at hl 1 rfl) ?_
  refine lv_iload_n hx hb dX2_unlikeApart_3 rfl (lv_at hl 2 rfl) ?_
  refine zc_Vi (As := [.int (iI ax), .int (iI ay)]) (rest := [.ref ga]) (c_X2_far l D cI cL cG cM ga gx gy gz g ax ay (hv) (by omega) (by omega)) hx hb hml hown hU hl.1 ct_yX2_far cv_yX2_far km_RX2_71 hK hNst hP 2 0 rfl rfl rfl ⟨rfl, rfl⟩ ⟨Nat.le_of_ble_eq_true rfl, Nat.le_of_ble_eq_true rfl⟩ rfl rfl (Nat.le_of_ble_eq_true rfl) dX2_unlikeApart_4 ⟨Nat.le_of_ble_eq_true rfl, Nat.le_of_ble_eq_true rfl⟩ ?_
  have hf := sp_fr_rg2 (mt := g 1) h1 h2
  refine zc_Vi (As := [.int (iI (sp_fr (g 1) ax ay))]) (rest := []) (c_X2_unlikeOf l D cI cL cG cM ga gx gy gz g (sp_fr (g 1) ax ay) (hv) (hf)) hx hb hml hown hU hl.1 ct_yX2_unlikeOf cv_yX2_unlikeOf km_RX2_74 hK hNst hP 2 0 rfl rfl rfl ⟨rfl, rfl⟩ ⟨Nat.le_of_ble_eq_true rfl, Nat.le_of_ble_eq_true rfl⟩ rfl rfl (Nat.le_of_ble_eq_true rfl) dX2_unlikeApart_7 ⟨Nat.le_of_ble_eq_true rfl, Nat.le_of_ble_eq_true rfl⟩ ?_
  rw [hQ]
  exact ze_Ri hx hb hr hlk dX2_unlikeApart_10 (by first | rfl | omega)

set_option maxHeartbeats 4000000 in
set_option maxRecDepth 100000 in
theorem c_X2_quarterOf (l : Launch) (D : va_G) (cI cL cG cM : ClassId) (ga gx gy gz : Nat) (g : Nat → Int) (i : Nat) (x : Int) (y : Int) (hv : vR g) (hi : (i : Int) < g 0) (h1 : 0 ≤ x ∧ x ≤ 31) (h2 : 0 ≤ y ∧ y ≤ 31) : Met l yX2_quarterOf (wU yX2_quarterOf cX2_quarterOf 4 (some .int)) (rmF 0 0) (pcR D (tyA cI cL cG cM) [(ga, .inr (2, [.int (iI (g 0)), .ref gx, .ref gy, .ref gz, .int (iI (g 1)), .int (iI (g 2)), .int (iI (g 3)), .int (iI (g 4)), .int (iI (g 5)), .int (iI (g 6)), .int (iI (g 7)), .int (iI (g 8)), .int (iI (g 9))])), (gx, .inl (cI, 10, .inl (aI (fun j => g (10 + 3 * j))))), (gy, .inl (cI, 10, .inl (aI (fun j => g (11 + 3 * j))))), (gz, .inl (cI, 10, .inl (aI (fun j => g (12 + 3 * j)))))] [.ref ga, .int (iI (i : Int)), .int (iI x), .int (iI y)]) (qRi (sp_qr g i x y)) 0 0 (fun _ => False) := by
  refine zm_R (own := RX2) (lv := [(0, .ref ga), (1, .int (iI (i : Int))), (2, .int (iI x)), (3, .int (iI y))]) (by decide) rfl (Nat.le_of_ble_eq_true rfl) rfl ?_
  intro p e s m below meth c args Q hx hb hr hml hown hU hlk hP hK hNst hQ ls hl
  have h0 := hv.1
  have q1 := hv.2.2.2.2.2.2.2.2.2.2 i hi
  refine lv_aload_n hx hb dX2_quarterOf_0 rfl (lv_at hl 0 rfl) ?_
  refine va_get (D := D) (ci := 2) (v := .ref gy) (C := RX2) (T := TX2) (N := 13) hx hb hU inlX2 hown hK hP 0 rfl rfl 2 (by decide) (hU _ kf_RX2_15) (fun _ h9 => h9) rfl dX2_quarterOf_1 ?_
  refine lv_iload_n hx hb dX2_quarterOf_4 rfl (lv_at hl 1 rfl) ?_
  refine zr_iald hx hb hK hP 2 0 rfl rfl i (by omega) (by omega) (Nat.le_of_ble_eq_true rfl) dX2_quarterOf_5 ?_
  refine zr_rw (v := (g (11 + 3 * i))) rfl ?_
  refine lv_iload_n hx hb dX2_quarterOf_6 rfl (lv_at hl 3 rfl) ?_
  refine zr_icmp_lt (tgt := 26) hx hb dX2_quarterOf_7 (by decide) (by omega) (by omega) (fun c_1 => ?_) (fun c_1 => ?_)
  · skip
    refine lv_aload_n hx hb dX2_quarterOf_26 rfl (lv_at hl 0 rfl) ?_
    refine va_get (D := D) (ci := 2) (v := .ref gx) (C := RX2) (T := TX2) (N := 13) hx hb hU inlX2 hown hK hP 0 rfl rfl 1 (by decide) (hU _ kf_RX2_9) (fun _ h9 => h9) rfl dX2_quarterOf_27 ?_
    refine lv_iload_n hx hb dX2_quarterOf_30 rfl (lv_at hl 1 rfl) ?_
    refine zr_iald hx hb hK hP 1 0 rfl rfl i (by omega) (by omega) (Nat.le_of_ble_eq_true rfl) dX2_quarterOf_31 ?_
    refine zr_rw (v := (g (10 + 3 * i))) rfl ?_
    refine lv_iload_n hx hb dX2_quarterOf_32 rfl (lv_at hl 2 rfl) ?_
    refine zr_icmp_lt (tgt := 40) hx hb dX2_quarterOf_33 (by decide) (by omega) (by omega) (fun c_2 => ?_) (fun c_2 => ?_)
    · skip
      refine lv_iconst (v := iI 2) hx hb dX2_quarterOf_40 rfl ?_
      rw [hQ]
      exact ze_Ri hx hb hr hlk dX2_quarterOf_41 (by unfold sp_qr; rw [if_pos (by omega), if_pos (by omega)])
    · skip
      refine lv_iconst (v := iI 3) hx hb dX2_quarterOf_36 rfl ?_
      refine lv_goto (tgt := 41) hx hb dX2_quarterOf_37 (by decide) ?_
      rw [hQ]
      exact ze_Ri hx hb hr hlk dX2_quarterOf_41 (by unfold sp_qr; rw [if_pos (by omega), if_neg (by omega)])
  · skip
    refine lv_aload_n hx hb dX2_quarterOf_10 rfl (lv_at hl 0 rfl) ?_
    refine va_get (D := D) (ci := 2) (v := .ref gx) (C := RX2) (T := TX2) (N := 13) hx hb hU inlX2 hown hK hP 0 rfl rfl 1 (by decide) (hU _ kf_RX2_9) (fun _ h9 => h9) rfl dX2_quarterOf_11 ?_
    refine lv_iload_n hx hb dX2_quarterOf_14 rfl (lv_at hl 1 rfl) ?_
    refine zr_iald hx hb hK hP 1 0 rfl rfl i (by omega) (by omega) (Nat.le_of_ble_eq_true rfl) dX2_quarterOf_15 ?_
    refine zr_rw (v := (g (10 + 3 * i))) rfl ?_
    refine lv_iload_n hx hb dX2_quarterOf_16 rfl (lv_at hl 2 rfl) ?_
    refine zr_icmp_lt (tgt := 24) hx hb dX2_quarterOf_17 (by decide) (by omega) (by omega) (fun c_3 => ?_) (fun c_3 => ?_)
    · skip
      refine lv_iconst (v := iI 1) hx hb dX2_quarterOf_24 rfl ?_
      rw [hQ]
      exact ze_Ri hx hb hr hlk dX2_quarterOf_25 (by unfold sp_qr; rw [if_neg (by omega), if_pos (by omega)])
    · skip
      refine lv_iconst (v := iI 0) hx hb dX2_quarterOf_20 rfl ?_
      refine lv_goto (tgt := 25) hx hb dX2_quarterOf_21 (by decide) ?_
      rw [hQ]
      exact ze_Ri hx hb hr hlk dX2_quarterOf_25 (by unfold sp_qr; rw [if_neg (by omega), if_neg (by omega)])

set_option maxHeartbeats 4000000 in
set_option maxRecDepth 100000 in
theorem c_X2_sampleAt (l : Launch) (D : va_G) (cI cL cG cM : ClassId) (ga gx gy gz : Nat) (g : Nat → Int) (x : Int) (y : Int) (hv : vR g) (h1 : -2147483648 ≤ x ∧ x ≤ 2147483647) (h2 : -2147483648 ≤ y ∧ y ≤ 2147483647) : Met l yX2_sampleAt (wU yX2_sampleAt cX2_sampleAt 4 (some .int)) (rmF 0 0) (pcR D (tyA cI cL cG cM) [(ga, .inr (2, [.int (iI (g 0)), .ref gx, .ref gy, .ref gz, .int (iI (g 1)), .int (iI (g 2)), .int (iI (g 3)), .int (iI (g 4)), .int (iI (g 5)), .int (iI (g 6)), .int (iI (g 7)), .int (iI (g 8)), .int (iI (g 9))])), (gx, .inl (cI, 10, .inl (aI (fun j => g (10 + 3 * j))))), (gy, .inl (cI, 10, .inl (aI (fun j => g (11 + 3 * j))))), (gz, .inl (cI, 10, .inl (aI (fun j => g (12 + 3 * j)))))] [.ref ga, .int (iI x), .int (iI y)]) (qRi (sp_th g x y)) 0 0 (fun _ => False) := by
  refine zm_R (own := RX2) (lv := [(0, .ref ga), (1, .int (iI x)), (2, .int (iI y))]) (by decide) rfl (Nat.le_of_ble_eq_true rfl) rfl ?_
  intro p e s m below meth c args Q hx hb hr hml hown hU hlk hP hK hNst hQ ls hl
  have h0 := hv.1
  refine lv_iconst (v := iI 0) hx hb dX2_sampleAt_0 rfl ?_
  refine lv_istore_n (lv' := [(3, .int (iI 0)), (0, .ref ga), (1, .int (iI x)), (2, .int (iI y))]) hx hb dX2_sampleAt_1 rfl hl (by decide) rfl (fun ls hl => ?_)
  have LP2 : ∀ (n : Nat), ∀ (i : Nat), ((i : Int) ≤ g 0) → (sp_thF g x y ((g 0).toNat - i) i = sp_th g x y) → ((g 0).toNat < i + n) → ∀ (ls : Array Slot), lv_has ls 4 [(0, .ref ga), (1, .int (iI x)), (2, .int (iI y)), (3, .int (iI (i : Int)))] → W p l e (rmF 0 0) s m args below meth c s.heap [] 0 0 Q (F0 m 2 ls []) := by
    intro n
    induction n with
    | zero =>
      intro i hi hinv hfu
      exfalso
      omega
    | succ n ih2 =>
      intro i hi hinv hfu ls hl
      refine lv_iload_n hx hb dX2_sampleAt_2 rfl (lv_at hl 3 rfl) ?_
      refine lv_aload_n hx hb dX2_sampleAt_3 rfl (lv_at hl 0 rfl) ?_
      refine va_get (D := D) (ci := 2) (v := .int (iI (g 0))) (C := RX2) (T := TX2) (N := 13) hx hb hU inlX2 hown hK hP 0 rfl rfl 0 (by decide) (hU _ kf_RX2_46) (fun _ h9 => h9) rfl dX2_sampleAt_4 ?_
      refine zr_icmp_ge (tgt := 38) hx hb dX2_sampleAt_7 (by decide) (by omega) (by omega) (fun c_1 => ?_) (fun c_1 => ?_)
      · skip
        refine lv_iconst (v := iI (-1)) hx hb dX2_sampleAt_38 rfl ?_
        rw [hQ]
        exact ze_Ri hx hb hr hlk dX2_sampleAt_39 (by rw [← hinv, show (g 0).toNat - i = 0 by omega]; rfl)
      · skip
        have q1 := hv.2.2.2.2.2.2.2.2.2.2 i (by omega)
        refine lv_aload_n hx hb dX2_sampleAt_10 rfl (lv_at hl 0 rfl) ?_
        refine va_get (D := D) (ci := 2) (v := .ref gx) (C := RX2) (T := TX2) (N := 13) hx hb hU inlX2 hown hK hP 0 rfl rfl 1 (by decide) (hU _ kf_RX2_9) (fun _ h9 => h9) rfl dX2_sampleAt_11 ?_
        refine lv_iload_n hx hb dX2_sampleAt_14 rfl (lv_at hl 3 rfl) ?_
        refine zr_iald hx hb hK hP 1 0 rfl rfl i (by omega) (by omega) (Nat.le_of_ble_eq_true rfl) dX2_sampleAt_15 ?_
        refine zr_rw (v := (g (10 + 3 * i))) rfl ?_
        refine lv_iload_n hx hb dX2_sampleAt_16 rfl (lv_at hl 1 rfl) ?_
        refine zr_icmp_ne (tgt := 32) hx hb dX2_sampleAt_17 (by decide) (by omega) (by omega) (fun c_2 => ?_) (fun c_2 => ?_)
        · skip
          refine lv_iinc (v := iI ((i : Int) + 1)) (lv' := [(3, .int (iI ((i : Int) + 1))), (0, .ref ga), (1, .int (iI x)), (2, .int (iI y))]) hx hb dX2_sampleAt_32 hl (k := 3) rfl (iI_add _ _) (by decide) rfl (fun ls hl => ?_)
          refine lv_goto (tgt := 2) hx hb dX2_sampleAt_35 (by decide) ?_
          exact ih2 (i + 1) (by omega) (by rw [← hinv, show (g 0).toNat - i = ((g 0).toNat - (i + 1)) + 1 by omega, sp_thF, if_neg (by omega)]) (by omega) ls (lv_sub hl [1, 2, 3, 0] rfl)
        · skip
          refine lv_aload_n hx hb dX2_sampleAt_20 rfl (lv_at hl 0 rfl) ?_
          refine va_get (D := D) (ci := 2) (v := .ref gy) (C := RX2) (T := TX2) (N := 13) hx hb hU inlX2 hown hK hP 0 rfl rfl 2 (by decide) (hU _ kf_RX2_15) (fun _ h9 => h9) rfl dX2_sampleAt_21 ?_
          refine lv_iload_n hx hb dX2_sampleAt_24 rfl (lv_at hl 3 rfl) ?_
          refine zr_iald hx hb hK hP 2 0 rfl rfl i (by omega) (by omega) (Nat.le_of_ble_eq_true rfl) dX2_sampleAt_25 ?_
          refine zr_rw (v := (g (11 + 3 * i))) rfl ?_
          refine lv_iload_n hx hb dX2_sampleAt_26 rfl (lv_at hl 2 rfl) ?_
          refine zr_icmp_ne (tgt := 32) hx hb dX2_sampleAt_27 (by decide) (by omega) (by omega) (fun c_3 => ?_) (fun c_3 => ?_)
          · skip
            refine lv_iinc (v := iI ((i : Int) + 1)) (lv' := [(3, .int (iI ((i : Int) + 1))), (0, .ref ga), (1, .int (iI x)), (2, .int (iI y))]) hx hb dX2_sampleAt_32 hl (k := 3) rfl (iI_add _ _) (by decide) rfl (fun ls hl => ?_)
            refine lv_goto (tgt := 2) hx hb dX2_sampleAt_35 (by decide) ?_
            exact ih2 (i + 1) (by omega) (by rw [← hinv, show (g 0).toNat - i = ((g 0).toNat - (i + 1)) + 1 by omega, sp_thF, if_neg (by omega)]) (by omega) ls (lv_sub hl [1, 2, 3, 0] rfl)
          · skip
            refine lv_iload_n hx hb dX2_sampleAt_30 rfl (lv_at hl 3 rfl) ?_
            rw [hQ]
            exact ze_Ri hx hb hr hlk dX2_sampleAt_31 (by rw [← hinv, show (g 0).toNat - i = ((g 0).toNat - (i + 1)) + 1 by omega, sp_thF, if_pos (by omega)])
  exact LP2 ((g 0).toNat + 1) 0 (by omega) (rfl) (by omega) ls (lv_sub hl [1, 2, 3, 0] rfl)

set_option maxHeartbeats 4000000 in
set_option maxRecDepth 100000 in
theorem c_X1_alongX (l : Launch) (D : va_G) (cI cL cG cM : ClassId)  (pp : Nat) (hp : pp < 32) : Met l yX1_alongX (wU yX1_alongX cX1_alongX 1 (some .int)) (rmF 0 0) (pcN [.int (iI (pp : Int))]) (qRi ((pp % 2 : Nat) : Int)) 0 0 (fun _ => False) := by
  refine zm_N (own := RX1) (lv := [(0, .int (iI (pp : Int)))]) (by decide) rfl (Nat.le_of_ble_eq_true rfl) rfl ?_
  intro p e s m below meth c args Q hx hb hr hml hown hU hlk hQ ls hl
  refine lv_iload_n hx hb dX1_alongX_0 rfl (lv_at hl 0 rfl) ?_
  refine lv_iconst (v := iI 1) hx hb dX1_alongX_1 rfl ?_
  refine lv_iand hx hb dX1_alongX_2 ?_
  refine zr_bti (z := (((pp % 2) : Nat) : Int)) (bt_and1 pp hp) ?_
  rw [hQ]
  exact ze_Ri hx hb hr hlk dX1_alongX_3 (by first | rfl | omega)

set_option maxHeartbeats 4000000 in
set_option maxRecDepth 100000 in
theorem c_X1_alongY (l : Launch) (D : va_G) (cI cL cG cM : ClassId)  (pp : Nat) (hp : pp < 32) : Met l yX1_alongY (wU yX1_alongY cX1_alongY 1 (some .int)) (rmF 0 0) (pcN [.int (iI (pp : Int))]) (qRi ((pp / 2 : Nat) : Int)) 0 0 (fun _ => False) := by
  refine zm_N (own := RX1) (lv := [(0, .int (iI (pp : Int)))]) (by decide) rfl (Nat.le_of_ble_eq_true rfl) rfl ?_
  intro p e s m below meth c args Q hx hb hr hml hown hU hlk hQ ls hl
  refine lv_iload_n hx hb dX1_alongY_0 rfl (lv_at hl 0 rfl) ?_
  refine lv_iconst (v := iI 1) hx hb dX1_alongY_1 rfl ?_
  refine lv_ishr hx hb dX1_alongY_2 ?_
  refine zr_bti (z := (((pp / 2) : Nat) : Int)) (by have := bt_shrG (a := pp) (k := 1) (by omega) (by omega); exact this) ?_
  rw [hQ]
  exact ze_Ri hx hb hr hlk dX1_alongY_3 (by first | rfl | omega)

set_option maxHeartbeats 4000000 in
set_option maxRecDepth 100000 in
theorem c_X1_lookAt (l : Launch) (D : va_G) (cI cL cG cM : ClassId) (ea elk ept efr etk ebt etp etb ewn ga gx gy gz : Nat) (lk : Nat → Int) (cnt : Int) (snd : Int) (pt : Nat → Int) (fr : Nat → Int) (tk : Nat → Int) (bt : Nat → Int) (tps : Nat → Int) (wp : Int) (tbl : Nat → Int) (wn : Nat → Int) (pl : Int) (wh : Int) (g : Nat → Int) (i : Nat) (qv : Int) (x : Int) (y : Int) (L : List Nat) (hv : vR g) (hi : (i : Int) < g 0) (hqv : qv = sp_qr g i x y) (hok : okL g L) (hL : isL L lk cnt) (hq : isQ g x y L tk) (hm : cnt < g 7) (sz : Nat) : Met l yX1_lookAt (wU yX1_lookAt cX1_lookAt 3 none) (rmF 0 0) (pcW D (tyA cI cL cG cM) [(ea, .inr (1, [.ref ga, .ref elk, .int (iI cnt), .int (iI snd), .ref ept, .ref efr, .ref etk, .ref ebt, .ref etp, .int (iI wp), .ref etb, .ref ewn, .int (iI pl), .long (lI wh)])), (elk, .inl (cI, 4, .inl (aI lk))), (ept, .inl (cL, 4, .inr (.inl (aL pt)))), (efr, .inl (cI, 10, .inl (aI fr))), (etk, .inl (cI, 4, .inl (aI tk))), (ebt, .inl (cI, 16, .inl (aI bt))), (etp, .inl (cI, 4, .inl (aI tps))), (etb, .inl (cL, 9, .inr (.inl (aL tbl)))), (ewn, .inl (cL, 3, .inr (.inl (aL wn)))), (ga, .inr (2, [.int (iI (g 0)), .ref gx, .ref gy, .ref gz, .int (iI (g 1)), .int (iI (g 2)), .int (iI (g 3)), .int (iI (g 4)), .int (iI (g 5)), .int (iI (g 6)), .int (iI (g 7)), .int (iI (g 8)), .int (iI (g 9))])), (gx, .inl (cI, 10, .inl (aI (fun j => g (10 + 3 * j))))), (gy, .inl (cI, 10, .inl (aI (fun j => g (11 + 3 * j))))), (gz, .inl (cI, 10, .inl (aI (fun j => g (12 + 3 * j)))))] [.ref ea, .int (iI (i : Int)), .int (iI qv)] sz) (qWv (S := (Nat → Int) × Int × (Nat → Int)) D (tyA cI cL cG cM) (va_A [(ea, .inr (1, [.ref ga, .ref elk, .int (iI cnt), .int (iI snd), .ref ept, .ref efr, .ref etk, .ref ebt, .ref etp, .int (iI wp), .ref etb, .ref ewn, .int (iI pl), .long (lI wh)])), (elk, .inl (cI, 4, .inl (aI lk))), (ept, .inl (cL, 4, .inr (.inl (aL pt)))), (efr, .inl (cI, 10, .inl (aI fr))), (etk, .inl (cI, 4, .inl (aI tk))), (ebt, .inl (cI, 16, .inl (aI bt))), (etp, .inl (cI, 4, .inl (aI tps))), (etb, .inl (cL, 9, .inr (.inl (aL tbl)))), (ewn, .inl (cL, 3, .inr (.inl (aL wn)))), (ga, .inr (2, [.int (iI (g 0)), .ref gx, .ref gy, .ref gz, .int (iI (g 1)), .int (iI (g 2)), .int (iI (g 3)), .int (iI (g 4)), .int (iI (g 5)), .int (iI (g 6)), .int (iI (g 7)), .int (iI (g 8)), .int (iI (g 9))])), (gx, .inl (cI, 10, .inl (aI (fun j => g (10 + 3 * j))))), (gy, .inl (cI, 10, .inl (aI (fun j => g (11 + 3 * j))))), (gz, .inl (cI, 10, .inl (aI (fun j => g (12 + 3 * j)))))] sz) (fun (u : (Nat → Int) × Int × (Nat → Int)) => isL (sp_st g x y L i) u.1 u.2.1 ∧ isQ g x y (sp_st g x y L i) u.2.2) (fun (u : (Nat → Int) × Int × (Nat → Int)) => [(ea, .inr (1, [.ref ga, .ref elk, .int (iI u.2.1), .int (iI snd), .ref ept, .ref efr, .ref etk, .ref ebt, .ref etp, .int (iI wp), .ref etb, .ref ewn, .int (iI pl), .long (lI wh)])), (elk, .inl (cI, 4, .inl (aI u.1))), (ept, .inl (cL, 4, .inr (.inl (aL pt)))), (efr, .inl (cI, 10, .inl (aI fr))), (etk, .inl (cI, 4, .inl (aI u.2.2))), (ebt, .inl (cI, 16, .inl (aI bt))), (etp, .inl (cI, 4, .inl (aI tps))), (etb, .inl (cL, 9, .inr (.inl (aL tbl)))), (ewn, .inl (cL, 3, .inr (.inl (aL wn)))), (ga, .inr (2, [.int (iI (g 0)), .ref gx, .ref gy, .ref gz, .int (iI (g 1)), .int (iI (g 2)), .int (iI (g 3)), .int (iI (g 4)), .int (iI (g 5)), .int (iI (g 6)), .int (iI (g 7)), .int (iI (g 8)), .int (iI (g 9))])), (gx, .inl (cI, 10, .inl (aI (fun j => g (10 + 3 * j))))), (gy, .inl (cI, 10, .inl (aI (fun j => g (11 + 3 * j))))), (gz, .inl (cI, 10, .inl (aI (fun j => g (12 + 3 * j)))))])) 0 0 (va_A [(ea, .inr (1, [.ref ga, .ref elk, .int (iI cnt), .int (iI snd), .ref ept, .ref efr, .ref etk, .ref ebt, .ref etp, .int (iI wp), .ref etb, .ref ewn, .int (iI pl), .long (lI wh)])), (elk, .inl (cI, 4, .inl (aI lk))), (ept, .inl (cL, 4, .inr (.inl (aL pt)))), (efr, .inl (cI, 10, .inl (aI fr))), (etk, .inl (cI, 4, .inl (aI tk))), (ebt, .inl (cI, 16, .inl (aI bt))), (etp, .inl (cI, 4, .inl (aI tps))), (etb, .inl (cL, 9, .inr (.inl (aL tbl)))), (ewn, .inl (cL, 3, .inr (.inl (aL wn)))), (ga, .inr (2, [.int (iI (g 0)), .ref gx, .ref gy, .ref gz, .int (iI (g 1)), .int (iI (g 2)), .int (iI (g 3)), .int (iI (g 4)), .int (iI (g 5)), .int (iI (g 6)), .int (iI (g 7)), .int (iI (g 8)), .int (iI (g 9))])), (gx, .inl (cI, 10, .inl (aI (fun j => g (10 + 3 * j))))), (gy, .inl (cI, 10, .inl (aI (fun j => g (11 + 3 * j))))), (gz, .inl (cI, 10, .inl (aI (fun j => g (12 + 3 * j)))))] sz) := by
  refine zm_W (own := RX1) (lv := [(0, .ref ea), (1, .int (iI (i : Int))), (2, .int (iI qv))]) (QF := fun A => qWv (S := (Nat → Int) × Int × (Nat → Int)) D (tyA cI cL cG cM) A (fun (u : (Nat → Int) × Int × (Nat → Int)) => isL (sp_st g x y L i) u.1 u.2.1 ∧ isQ g x y (sp_st g x y L i) u.2.2) (fun (u : (Nat → Int) × Int × (Nat → Int)) => [(ea, .inr (1, [.ref ga, .ref elk, .int (iI u.2.1), .int (iI snd), .ref ept, .ref efr, .ref etk, .ref ebt, .ref etp, .int (iI wp), .ref etb, .ref ewn, .int (iI pl), .long (lI wh)])), (elk, .inl (cI, 4, .inl (aI u.1))), (ept, .inl (cL, 4, .inr (.inl (aL pt)))), (efr, .inl (cI, 10, .inl (aI fr))), (etk, .inl (cI, 4, .inl (aI u.2.2))), (ebt, .inl (cI, 16, .inl (aI bt))), (etp, .inl (cI, 4, .inl (aI tps))), (etb, .inl (cL, 9, .inr (.inl (aL tbl)))), (ewn, .inl (cL, 3, .inr (.inl (aL wn)))), (ga, .inr (2, [.int (iI (g 0)), .ref gx, .ref gy, .ref gz, .int (iI (g 1)), .int (iI (g 2)), .int (iI (g 3)), .int (iI (g 4)), .int (iI (g 5)), .int (iI (g 6)), .int (iI (g 7)), .int (iI (g 8)), .int (iI (g 9))])), (gx, .inl (cI, 10, .inl (aI (fun j => g (10 + 3 * j))))), (gy, .inl (cI, 10, .inl (aI (fun j => g (11 + 3 * j))))), (gz, .inl (cI, 10, .inl (aI (fun j => g (12 + 3 * j)))))])) (by decide) rfl (Nat.le_of_ble_eq_true rfl) rfl ?_
  intro p e s m below meth c A args Q hx hb hr hml hown hU hlk hnm hP hK hNst hD hA hS hsz hQ ls hl
  obtain ⟨H, hH⟩ : ∃ H, H = s.heap := ⟨_, rfl⟩
  obtain ⟨locs, hlocs⟩ : ∃ locs : List Loc, locs = [] := ⟨_, rfl⟩
  rw [← hlocs]
  have hW0 : ∀ (H : Heap) (locs : List Loc), va_P D vwCl [(ea, .inr (1, [.ref ga, .ref elk, .int (iI cnt), .int (iI snd), .ref ept, .ref efr, .ref etk, .ref ebt, .ref etp, .int (iI wp), .ref etb, .ref ewn, .int (iI pl), .long (lI wh)])), (elk, .inl (cI, 4, .inl (aI lk))), (ept, .inl (cL, 4, .inr (.inl (aL pt)))), (efr, .inl (cI, 10, .inl (aI fr))), (etk, .inl (cI, 4, .inl (aI tk))), (ebt, .inl (cI, 16, .inl (aI bt))), (etp, .inl (cI, 4, .inl (aI tps))), (etb, .inl (cL, 9, .inr (.inl (aL tbl)))), (ewn, .inl (cL, 3, .inr (.inl (aL wn)))), (ga, .inr (2, [.int (iI (g 0)), .ref gx, .ref gy, .ref gz, .int (iI (g 1)), .int (iI (g 2)), .int (iI (g 3)), .int (iI (g 4)), .int (iI (g 5)), .int (iI (g 6)), .int (iI (g 7)), .int (iI (g 8)), .int (iI (g 9))])), (gx, .inl (cI, 10, .inl (aI (fun j => g (10 + 3 * j))))), (gy, .inl (cI, 10, .inl (aI (fun j => g (11 + 3 * j))))), (gz, .inl (cI, 10, .inl (aI (fun j => g (12 + 3 * j)))))] H → va_D A [(ea, .inr (1, [.ref ga, .ref elk, .int (iI cnt), .int (iI snd), .ref ept, .ref efr, .ref etk, .ref ebt, .ref etp, .int (iI wp), .ref etb, .ref ewn, .int (iI pl), .long (lI wh)])), (elk, .inl (cI, 4, .inl (aI lk))), (ept, .inl (cL, 4, .inr (.inl (aL pt)))), (efr, .inl (cI, 10, .inl (aI fr))), (etk, .inl (cI, 4, .inl (aI tk))), (ebt, .inl (cI, 16, .inl (aI bt))), (etp, .inl (cI, 4, .inl (aI tps))), (etb, .inl (cL, 9, .inr (.inl (aL tbl)))), (ewn, .inl (cL, 3, .inr (.inl (aL wn)))), (ga, .inr (2, [.int (iI (g 0)), .ref gx, .ref gy, .ref gz, .int (iI (g 1)), .int (iI (g 2)), .int (iI (g 3)), .int (iI (g 4)), .int (iI (g 5)), .int (iI (g 6)), .int (iI (g 7)), .int (iI (g 8)), .int (iI (g 9))])), (gx, .inl (cI, 10, .inl (aI (fun j => g (10 + 3 * j))))), (gy, .inl (cI, 10, .inl (aI (fun j => g (11 + 3 * j))))), (gz, .inl (cI, 10, .inl (aI (fun j => g (12 + 3 * j)))))] → va_S A s.heap H locs → W p l e (rmF 0 0) s m args below meth c H locs 0 0 Q (F0 m 0 ls []) := by
    clear hP hD hS hH hlocs H locs
    intro H locs hP hD hS
    have h0 := hv.1
    have h7 := hv.2.2.2.2.2.2.2.1
    have h8 := hv.2.2.2.2.2.2.2.2.1
    have h9 := hv.2.2.2.2.2.2.2.2.2.1
    have hqr := sp_qr_rg g i x y
    have hqq : tk (sp_qr g i x y).toNat = sp_cq g x y L (sp_qr g i x y) := by rw [hq _ (by omega), Int.toNat_of_nonneg hqr.1]
    have hcr := sp_cq_rg g x y L (sp_qr g i x y)
    have hle := okL_le hv hok
    have hl1 := hL.1
    refine lv_aload_n hx hb dX1_lookAt_0 rfl (lv_at hl 0 rfl) ?_
    refine va_get (D := D) (ci := 1) (v := .ref etk) (C := RX1) (T := TX1) (N := 14) hx hb hU inlX1 hown hK hP 0 rfl rfl 6 (by decide) (hU _ kf_RX1_22) (fun _ h9 => h9) rfl dX1_lookAt_1 ?_
    refine lv_iload_n hx hb dX1_lookAt_4 rfl (lv_at hl 2 rfl) ?_
    refine zr_iald hx hb hK hP 4 0 rfl rfl ((sp_qr g i x y).toNat) (by omega) (by omega) (Nat.le_of_ble_eq_true rfl) dX1_lookAt_5 ?_
    refine lv_aload_n hx hb dX1_lookAt_6 rfl (lv_at hl 0 rfl) ?_
    refine va_get (D := D) (ci := 1) (v := .ref ga) (C := RX1) (T := TX1) (N := 14) hx hb hU inlX1 hown hK hP 0 rfl rfl 0 (by decide) (hU _ kf_RX1_37) (fun _ h9 => h9) rfl dX1_lookAt_7 ?_
    refine va_get (D := D) (ci := 2) (v := .int (iI (g 8))) (C := RX2) (T := TX2) (N := 13) hx hb hU inlX2 hown hK hP 9 rfl rfl 11 (by decide) (hU _ kf_RX1_115) (fun _ h9 => h9) rfl dX1_lookAt_10 ?_
    refine zr_icmp_ge (tgt := 54) hx hb dX1_lookAt_13 (by decide) (by omega) (by omega) (fun c_1 => ?_) (fun c_1 => ?_)
    · skip
      rw [hQ]
      exact ze_Wv hx hb hr hlk dX1_lookAt_54 (lk, cnt, tk) (by have e : sp_st g x y L i = L := if_neg (by omega); rw [e]; exact ⟨hL, hq⟩) hP hK hD hS
    · skip
      refine lv_aload_n hx hb dX1_lookAt_16 rfl (lv_at hl 0 rfl) ?_
      refine va_get (D := D) (ci := 1) (v := .int (iI cnt)) (C := RX1) (T := TX1) (N := 14) hx hb hU inlX1 hown hK hP 0 rfl rfl 2 (by decide) (hU _ kf_RX1_49) (fun _ h9 => h9) rfl dX1_lookAt_17 ?_
      refine lv_iconst (v := iI 4) hx hb dX1_lookAt_20 rfl ?_
      refine zr_icmp_ge (tgt := 54) hx hb dX1_lookAt_21 (by decide) (by omega) (by omega) (fun c_2 => ?_) (fun c_2 => ?_)
      · skip
        rw [hQ]
        exact ze_Wv hx hb hr hlk dX1_lookAt_54 (lk, cnt, tk) (by have e : sp_st g x y L i = L := if_neg (by omega); rw [e]; exact ⟨hL, hq⟩) hP hK hD hS
      · skip
        refine lv_aload_n hx hb dX1_lookAt_24 rfl (lv_at hl 0 rfl) ?_
        refine va_get (D := D) (ci := 1) (v := .ref etk) (C := RX1) (T := TX1) (N := 14) hx hb hU inlX1 hown hK hP 0 rfl rfl 6 (by decide) (hU _ kf_RX1_22) (fun _ h9 => h9) rfl dX1_lookAt_25 ?_
        refine lv_iload_n hx hb dX1_lookAt_28 rfl (lv_at hl 2 rfl) ?_
        refine lv_dup2_11 hx hb dX1_lookAt_29 rfl rfl ?_
        refine zr_iald hx hb hK hP 4 0 rfl rfl ((sp_qr g i x y).toNat) (by omega) (by omega) (Nat.le_of_ble_eq_true rfl) dX1_lookAt_30 ?_
        refine lv_iconst (v := iI 1) hx hb dX1_lookAt_31 rfl ?_
        refine zr_iadd hx hb dX1_lookAt_32 ?_
        refine zr_iast hx hb hK hP hD hS 4 0 rfl rfl ((sp_qr g i x y).toNat) (by omega) (by omega) (Nat.le_of_ble_eq_true rfl) dX1_lookAt_33 (fun H locs hP hD hS => ?_)
        have hP : va_P D vwCl [(ea, .inr (1, [.ref ga, .ref elk, .int (iI cnt), .int (iI snd), .ref ept, .ref efr, .ref etk, .ref ebt, .ref etp, .int (iI wp), .ref etb, .ref ewn, .int (iI pl), .long (lI wh)])), (elk, .inl (cI, 4, .inl (aI lk))), (ept, .inl (cL, 4, .inr (.inl (aL pt)))), (efr, .inl (cI, 10, .inl (aI fr))), (etk, .inl (cI, 4, .inl (aI (va_up tk ((sp_qr g i x y).toNat) ((tk ((sp_qr g i x y).toNat)) + 1))))), (ebt, .inl (cI, 16, .inl (aI bt))), (etp, .inl (cI, 4, .inl (aI tps))), (etb, .inl (cL, 9, .inr (.inl (aL tbl)))), (ewn, .inl (cL, 3, .inr (.inl (aL wn)))), (ga, .inr (2, [.int (iI (g 0)), .ref gx, .ref gy, .ref gz, .int (iI (g 1)), .int (iI (g 2)), .int (iI (g 3)), .int (iI (g 4)), .int (iI (g 5)), .int (iI (g 6)), .int (iI (g 7)), .int (iI (g 8)), .int (iI (g 9))])), (gx, .inl (cI, 10, .inl (aI (fun j => g (10 + 3 * j))))), (gy, .inl (cI, 10, .inl (aI (fun j => g (11 + 3 * j))))), (gz, .inl (cI, 10, .inl (aI (fun j => g (12 + 3 * j)))))] H := hP
        have hD : va_D A [(ea, .inr (1, [.ref ga, .ref elk, .int (iI cnt), .int (iI snd), .ref ept, .ref efr, .ref etk, .ref ebt, .ref etp, .int (iI wp), .ref etb, .ref ewn, .int (iI pl), .long (lI wh)])), (elk, .inl (cI, 4, .inl (aI lk))), (ept, .inl (cL, 4, .inr (.inl (aL pt)))), (efr, .inl (cI, 10, .inl (aI fr))), (etk, .inl (cI, 4, .inl (aI (va_up tk ((sp_qr g i x y).toNat) ((tk ((sp_qr g i x y).toNat)) + 1))))), (ebt, .inl (cI, 16, .inl (aI bt))), (etp, .inl (cI, 4, .inl (aI tps))), (etb, .inl (cL, 9, .inr (.inl (aL tbl)))), (ewn, .inl (cL, 3, .inr (.inl (aL wn)))), (ga, .inr (2, [.int (iI (g 0)), .ref gx, .ref gy, .ref gz, .int (iI (g 1)), .int (iI (g 2)), .int (iI (g 3)), .int (iI (g 4)), .int (iI (g 5)), .int (iI (g 6)), .int (iI (g 7)), .int (iI (g 8)), .int (iI (g 9))])), (gx, .inl (cI, 10, .inl (aI (fun j => g (10 + 3 * j))))), (gy, .inl (cI, 10, .inl (aI (fun j => g (11 + 3 * j))))), (gz, .inl (cI, 10, .inl (aI (fun j => g (12 + 3 * j)))))] := hD
        refine lv_aload_n hx hb dX1_lookAt_34 rfl (lv_at hl 0 rfl) ?_
        refine va_get (D := D) (ci := 1) (v := .ref elk) (C := RX1) (T := TX1) (N := 14) hx hb hU inlX1 hown hK hP 0 rfl rfl 1 (by decide) (hU _ kf_RX1_9) (fun _ h9 => h9) rfl dX1_lookAt_35 ?_
        refine lv_aload_n hx hb dX1_lookAt_38 rfl (lv_at hl 0 rfl) ?_
        refine va_get (D := D) (ci := 1) (v := .int (iI cnt)) (C := RX1) (T := TX1) (N := 14) hx hb hU inlX1 hown hK hP 0 rfl rfl 2 (by decide) (hU _ kf_RX1_49) (fun _ h9 => h9) rfl dX1_lookAt_39 ?_
        refine lv_iload_n hx hb dX1_lookAt_42 rfl (lv_at hl 1 rfl) ?_
        refine zr_iast hx hb hK hP hD hS 1 0 rfl rfl L.length (by omega) (by omega) (Nat.le_of_ble_eq_true rfl) dX1_lookAt_43 (fun H locs hP hD hS => ?_)
        have hP : va_P D vwCl [(ea, .inr (1, [.ref ga, .ref elk, .int (iI cnt), .int (iI snd), .ref ept, .ref efr, .ref etk, .ref ebt, .ref etp, .int (iI wp), .ref etb, .ref ewn, .int (iI pl), .long (lI wh)])), (elk, .inl (cI, 4, .inl (aI (va_up lk L.length (i : Int))))), (ept, .inl (cL, 4, .inr (.inl (aL pt)))), (efr, .inl (cI, 10, .inl (aI fr))), (etk, .inl (cI, 4, .inl (aI (va_up tk ((sp_qr g i x y).toNat) ((tk ((sp_qr g i x y).toNat)) + 1))))), (ebt, .inl (cI, 16, .inl (aI bt))), (etp, .inl (cI, 4, .inl (aI tps))), (etb, .inl (cL, 9, .inr (.inl (aL tbl)))), (ewn, .inl (cL, 3, .inr (.inl (aL wn)))), (ga, .inr (2, [.int (iI (g 0)), .ref gx, .ref gy, .ref gz, .int (iI (g 1)), .int (iI (g 2)), .int (iI (g 3)), .int (iI (g 4)), .int (iI (g 5)), .int (iI (g 6)), .int (iI (g 7)), .int (iI (g 8)), .int (iI (g 9))])), (gx, .inl (cI, 10, .inl (aI (fun j => g (10 + 3 * j))))), (gy, .inl (cI, 10, .inl (aI (fun j => g (11 + 3 * j))))), (gz, .inl (cI, 10, .inl (aI (fun j => g (12 + 3 * j)))))] H := hP
        have hD : va_D A [(ea, .inr (1, [.ref ga, .ref elk, .int (iI cnt), .int (iI snd), .ref ept, .ref efr, .ref etk, .ref ebt, .ref etp, .int (iI wp), .ref etb, .ref ewn, .int (iI pl), .long (lI wh)])), (elk, .inl (cI, 4, .inl (aI (va_up lk L.length (i : Int))))), (ept, .inl (cL, 4, .inr (.inl (aL pt)))), (efr, .inl (cI, 10, .inl (aI fr))), (etk, .inl (cI, 4, .inl (aI (va_up tk ((sp_qr g i x y).toNat) ((tk ((sp_qr g i x y).toNat)) + 1))))), (ebt, .inl (cI, 16, .inl (aI bt))), (etp, .inl (cI, 4, .inl (aI tps))), (etb, .inl (cL, 9, .inr (.inl (aL tbl)))), (ewn, .inl (cL, 3, .inr (.inl (aL wn)))), (ga, .inr (2, [.int (iI (g 0)), .ref gx, .ref gy, .ref gz, .int (iI (g 1)), .int (iI (g 2)), .int (iI (g 3)), .int (iI (g 4)), .int (iI (g 5)), .int (iI (g 6)), .int (iI (g 7)), .int (iI (g 8)), .int (iI (g 9))])), (gx, .inl (cI, 10, .inl (aI (fun j => g (10 + 3 * j))))), (gy, .inl (cI, 10, .inl (aI (fun j => g (11 + 3 * j))))), (gz, .inl (cI, 10, .inl (aI (fun j => g (12 + 3 * j)))))] := hD
        refine lv_aload_n hx hb dX1_lookAt_44 rfl (lv_at hl 0 rfl) ?_
        refine lv_dup hx hb dX1_lookAt_45 rfl ?_
        refine va_get (D := D) (ci := 1) (v := .int (iI cnt)) (C := RX1) (T := TX1) (N := 14) hx hb hU inlX1 hown hK hP 0 rfl rfl 2 (by decide) (hU _ kf_RX1_49) (fun _ h9 => h9) rfl dX1_lookAt_46 ?_
        refine lv_iconst (v := iI 1) hx hb dX1_lookAt_49 rfl ?_
        refine zr_iadd hx hb dX1_lookAt_50 ?_
        refine va_put (D := D) (ci := 1) (v := .int (iI (cnt + 1))) (ty := .int) (C := RX1) (T := TX1) (N := 14) hx hb hU inlX1 tyX1 tyX1_ok nmX1 hown hK hP hD hS 0 rfl rfl 2 (by decide) (hU _ kf_RX1_49) (fun _ h9 => h9) rfl (by decide +kernel) rfl rfl (Nat.le_of_ble_eq_true rfl) dX1_lookAt_51 (fun H locs hP hD hS => ?_)
        have hP : va_P D vwCl [(ea, .inr (1, [.ref ga, .ref elk, .int (iI (cnt + 1)), .int (iI snd), .ref ept, .ref efr, .ref etk, .ref ebt, .ref etp, .int (iI wp), .ref etb, .ref ewn, .int (iI pl), .long (lI wh)])), (elk, .inl (cI, 4, .inl (aI (va_up lk L.length (i : Int))))), (ept, .inl (cL, 4, .inr (.inl (aL pt)))), (efr, .inl (cI, 10, .inl (aI fr))), (etk, .inl (cI, 4, .inl (aI (va_up tk ((sp_qr g i x y).toNat) ((tk ((sp_qr g i x y).toNat)) + 1))))), (ebt, .inl (cI, 16, .inl (aI bt))), (etp, .inl (cI, 4, .inl (aI tps))), (etb, .inl (cL, 9, .inr (.inl (aL tbl)))), (ewn, .inl (cL, 3, .inr (.inl (aL wn)))), (ga, .inr (2, [.int (iI (g 0)), .ref gx, .ref gy, .ref gz, .int (iI (g 1)), .int (iI (g 2)), .int (iI (g 3)), .int (iI (g 4)), .int (iI (g 5)), .int (iI (g 6)), .int (iI (g 7)), .int (iI (g 8)), .int (iI (g 9))])), (gx, .inl (cI, 10, .inl (aI (fun j => g (10 + 3 * j))))), (gy, .inl (cI, 10, .inl (aI (fun j => g (11 + 3 * j))))), (gz, .inl (cI, 10, .inl (aI (fun j => g (12 + 3 * j)))))] H := hP
        have hD : va_D A [(ea, .inr (1, [.ref ga, .ref elk, .int (iI (cnt + 1)), .int (iI snd), .ref ept, .ref efr, .ref etk, .ref ebt, .ref etp, .int (iI wp), .ref etb, .ref ewn, .int (iI pl), .long (lI wh)])), (elk, .inl (cI, 4, .inl (aI (va_up lk L.length (i : Int))))), (ept, .inl (cL, 4, .inr (.inl (aL pt)))), (efr, .inl (cI, 10, .inl (aI fr))), (etk, .inl (cI, 4, .inl (aI (va_up tk ((sp_qr g i x y).toNat) ((tk ((sp_qr g i x y).toNat)) + 1))))), (ebt, .inl (cI, 16, .inl (aI bt))), (etp, .inl (cI, 4, .inl (aI tps))), (etb, .inl (cL, 9, .inr (.inl (aL tbl)))), (ewn, .inl (cL, 3, .inr (.inl (aL wn)))), (ga, .inr (2, [.int (iI (g 0)), .ref gx, .ref gy, .ref gz, .int (iI (g 1)), .int (iI (g 2)), .int (iI (g 3)), .int (iI (g 4)), .int (iI (g 5)), .int (iI (g 6)), .int (iI (g 7)), .int (iI (g 8)), .int (iI (g 9))])), (gx, .inl (cI, 10, .inl (aI (fun j => g (10 + 3 * j))))), (gy, .inl (cI, 10, .inl (aI (fun j => g (11 + 3 * j))))), (gz, .inl (cI, 10, .inl (aI (fun j => g (12 + 3 * j)))))] := hD
        rw [hQ]
        exact ze_Wv hx hb hr hlk dX1_lookAt_54 ((va_up lk L.length (i : Int)), (cnt + 1), (va_up tk ((sp_qr g i x y).toNat) ((tk ((sp_qr g i x y).toNat)) + 1))) (by have e : sp_st g x y L i = L ++ [i] := if_pos ⟨by omega, by omega⟩; rw [e]; exact ⟨isL_push hL i, isQ_push hq i⟩) hP hK hD hS
  rw [hlocs]
  exact hW0 s.heap [] hP hD hS

set_option maxHeartbeats 4000000 in
set_option maxRecDepth 100000 in
theorem c_X1_nearestBut (l : Launch) (D : va_G) (cI cL cG cM : ClassId) (ea elk ept efr etk ebt etp etb ewn ga gx gy gz : Nat) (lk : Nat → Int) (cnt : Int) (snd : Int) (pt : Nat → Int) (fr : Nat → Int) (tk : Nat → Int) (bt : Nat → Int) (tps : Nat → Int) (wp : Int) (tbl : Nat → Int) (wn : Nat → Int) (pl : Int) (wh : Int) (g : Nat → Int) (ps : Nat) (hv : vR g) (hps : ps < 2048) (hfr : ∀ j : Nat, (j : Int) < g 0 → 0 ≤ fr j ∧ fr j ≤ 62) : Met l yX1_nearestBut (wU yX1_nearestBut cX1_nearestBut 5 (some .int)) (rmF 0 0) (pcR D (tyA cI cL cG cM) [(ea, .inr (1, [.ref ga, .ref elk, .int (iI cnt), .int (iI snd), .ref ept, .ref efr, .ref etk, .ref ebt, .ref etp, .int (iI wp), .ref etb, .ref ewn, .int (iI pl), .long (lI wh)])), (elk, .inl (cI, 4, .inl (aI lk))), (ept, .inl (cL, 4, .inr (.inl (aL pt)))), (efr, .inl (cI, 10, .inl (aI fr))), (etk, .inl (cI, 4, .inl (aI tk))), (ebt, .inl (cI, 16, .inl (aI bt))), (etp, .inl (cI, 4, .inl (aI tps))), (etb, .inl (cL, 9, .inr (.inl (aL tbl)))), (ewn, .inl (cL, 3, .inr (.inl (aL wn)))), (ga, .inr (2, [.int (iI (g 0)), .ref gx, .ref gy, .ref gz, .int (iI (g 1)), .int (iI (g 2)), .int (iI (g 3)), .int (iI (g 4)), .int (iI (g 5)), .int (iI (g 6)), .int (iI (g 7)), .int (iI (g 8)), .int (iI (g 9))])), (gx, .inl (cI, 10, .inl (aI (fun j => g (10 + 3 * j))))), (gy, .inl (cI, 10, .inl (aI (fun j => g (11 + 3 * j))))), (gz, .inl (cI, 10, .inl (aI (fun j => g (12 + 3 * j)))))] [.ref ea, .int (iI (ps : Int))]) (qRi (sp_nb fr ps (g 0).toNat 0 (-1) (g 9 + 1))) 0 0 (fun _ => False) := by
  refine zm_R (own := RX1) (lv := [(0, .ref ea), (1, .int (iI (ps : Int)))]) (by decide) rfl (Nat.le_of_ble_eq_true rfl) rfl ?_
  intro p e s m below meth c args Q hx hb hr hml hown hU hlk hP hK hNst hQ ls hl
  have h0 := hv.1
  have h7 := hv.2.2.2.2.2.2.2.1
  have h8 := hv.2.2.2.2.2.2.2.2.1
  have h9 := hv.2.2.2.2.2.2.2.2.2.1
  refine lv_iconst (v := iI (-1)) hx hb dX1_nearestBut_0 rfl ?_
  refine lv_istore_n (lv' := [(2, .int (iI (-1))), (0, .ref ea), (1, .int (iI (ps : Int)))]) hx hb dX1_nearestBut_1 rfl hl (by decide) rfl (fun ls hl => ?_)
  refine lv_aload_n hx hb dX1_nearestBut_2 rfl (lv_at hl 1 rfl) ?_
  refine va_get (D := D) (ci := 1) (v := .ref ga) (C := RX1) (T := TX1) (N := 14) hx hb hU inlX1 hown hK hP 0 rfl rfl 0 (by decide) (hU _ kf_RX1_37) (fun _ h9 => h9) rfl dX1_nearestBut_3 ?_
  refine va_get (D := D) (ci := 2) (v := .int (iI (g 9))) (C := RX2) (T := TX2) (N := 13) hx hb hU inlX2 hown hK hP 9 rfl rfl 12 (by decide) (hU _ kf_RX1_112) (fun _ h9 => h9) rfl dX1_nearestBut_6 ?_
  refine lv_iconst (v := iI 1) hx hb dX1_nearestBut_9 rfl ?_
  refine zr_iadd hx hb dX1_nearestBut_10 ?_
  refine lv_istore_n (lv' := [(3, .int (iI ((g 9) + 1))), (2, .int (iI (-1))), (0, .ref ea), (1, .int (iI (ps : Int)))]) hx hb dX1_nearestBut_11 rfl hl (by decide) rfl (fun ls hl => ?_)
  refine lv_iconst (v := iI 0) hx hb dX1_nearestBut_12 rfl ?_
  refine lv_istore (lv' := [(4, .int (iI 0)), (3, .int (iI ((g 9) + 1))), (2, .int (iI (-1))), (0, .ref ea), (1, .int (iI (ps : Int)))]) hx hb dX1_nearestBut_13 hl (by decide) rfl (fun ls hl => ?_)
  have LP15 : ∀ (n : Nat), ∀ (i : Nat) (nr : Int) (lt : Int), ((i : Int) ≤ g 0) → (0 ≤ lt ∧ lt ≤ 63) → (sp_nb fr ps ((g 0).toNat - i) i nr lt = sp_nb fr ps (g 0).toNat 0 (-1) (g 9 + 1)) → ((g 0).toNat < i + n) → ∀ (ls : Array Slot), lv_has ls 5 [(0, .ref ea), (1, .int (iI (ps : Int))), (2, .int (iI nr)), (3, .int (iI lt)), (4, .int (iI (i : Int)))] → W p l e (rmF 0 0) s m args below meth c s.heap [] 0 0 Q (F0 m 15 ls []) := by
    intro n
    induction n with
    | zero =>
      intro i nr lt hi hlt hinv hfu
      exfalso
      omega
    | succ n ih15 =>
      intro i nr lt hi hlt hinv hfu ls hl
      refine lv_iload hx hb dX1_nearestBut_15 (lv_at hl 4 rfl) ?_
      refine lv_aload_n hx hb dX1_nearestBut_17 rfl (lv_at hl 0 rfl) ?_
      refine va_get (D := D) (ci := 1) (v := .ref ga) (C := RX1) (T := TX1) (N := 14) hx hb hU inlX1 hown hK hP 0 rfl rfl 0 (by decide) (hU _ kf_RX1_37) (fun _ h9 => h9) rfl dX1_nearestBut_18 ?_
      refine va_get (D := D) (ci := 2) (v := .int (iI (g 0))) (C := RX2) (T := TX2) (N := 13) hx hb hU inlX2 hown hK hP 9 rfl rfl 0 (by decide) (hU _ kf_RX1_83) (fun _ h9 => h9) rfl dX1_nearestBut_21 ?_
      refine zr_icmp_ge (tgt := 64) hx hb dX1_nearestBut_24 (by decide) (by omega) (by omega) (fun c_1 => ?_) (fun c_1 => ?_)
      · skip
        refine lv_iload_n hx hb dX1_nearestBut_64 rfl (lv_at hl 2 rfl) ?_
        rw [hQ]
        exact ze_Ri hx hb hr hlk dX1_nearestBut_65 (by rw [← hinv, show (g 0).toNat - i = 0 by omega]; rfl)
      · skip
        have hfi := hfr i (by omega)
        refine lv_aload_n hx hb dX1_nearestBut_27 rfl (lv_at hl 0 rfl) ?_
        refine va_get (D := D) (ci := 1) (v := .ref efr) (C := RX1) (T := TX1) (N := 14) hx hb hU inlX1 hown hK hP 0 rfl rfl 5 (by decide) (hU _ kf_RX1_19) (fun _ h9 => h9) rfl dX1_nearestBut_28 ?_
        refine lv_iload hx hb dX1_nearestBut_31 (lv_at hl 4 rfl) ?_
        refine zr_iald hx hb hK hP 3 0 rfl rfl i (by omega) (by omega) (Nat.le_of_ble_eq_true rfl) dX1_nearestBut_33 ?_
        refine lv_iload_n hx hb dX1_nearestBut_34 rfl (lv_at hl 3 rfl) ?_
        refine zr_icmp_ge (tgt := 58) hx hb dX1_nearestBut_35 (by decide) (by omega) (by omega) (fun c_2 => ?_) (fun c_2 => ?_)
        · skip
          refine lv_iinc (v := iI ((i : Int) + 1)) (lv' := [(4, .int (iI ((i : Int) + 1))), (0, .ref ea), (1, .int (iI (ps : Int))), (2, .int (iI nr)), (3, .int (iI lt))]) hx hb dX1_nearestBut_58 hl (k := 4) rfl (iI_add _ _) (by decide) rfl (fun ls hl => ?_)
          refine lv_goto (tgt := 15) hx hb dX1_nearestBut_61 (by decide) ?_
          exact ih15 (i + 1) nr lt (by omega) (by omega) (by rw [← hinv, show (g 0).toNat - i = ((g 0).toNat - (i + 1)) + 1 by omega, sp_nb, if_neg (by omega)]) (by omega) ls (lv_sub hl [1, 2, 3, 4, 0] rfl)
        · skip
          refine lv_iload_n hx hb dX1_nearestBut_38 rfl (lv_at hl 1 rfl) ?_
          refine lv_iload hx hb dX1_nearestBut_39 (lv_at hl 4 rfl) ?_
          refine lv_ishr hx hb dX1_nearestBut_41 ?_
          refine zr_bti (z := (((ps / 2 ^ i) : Nat) : Int)) (bt_shrG (by omega) (by omega)) ?_
          refine lv_iconst (v := iI 1) hx hb dX1_nearestBut_42 rfl ?_
          refine lv_iand hx hb dX1_nearestBut_43 ?_
          refine zr_bti (z := ((((ps / 2 ^ i) % 2) : Nat) : Int)) (bt_andG (by have := Nat.div_le_self ps (2 ^ i); omega)) ?_
          refine zr_if_ne (tgt := 58) hx hb dX1_nearestBut_44 (by decide) (by omega) (fun c_3 => ?_) (fun c_3 => ?_)
          · skip
            refine lv_iinc (v := iI ((i : Int) + 1)) (lv' := [(4, .int (iI ((i : Int) + 1))), (0, .ref ea), (1, .int (iI (ps : Int))), (2, .int (iI nr)), (3, .int (iI lt))]) hx hb dX1_nearestBut_58 hl (k := 4) rfl (iI_add _ _) (by decide) rfl (fun ls hl => ?_)
            refine lv_goto (tgt := 15) hx hb dX1_nearestBut_61 (by decide) ?_
            exact ih15 (i + 1) nr lt (by omega) (by omega) (by rw [← hinv, show (g 0).toNat - i = ((g 0).toNat - (i + 1)) + 1 by omega, sp_nb, if_neg (by omega)]) (by omega) ls (lv_sub hl [1, 2, 3, 4, 0] rfl)
          · skip
            refine lv_iload hx hb dX1_nearestBut_47 (lv_at hl 4 rfl) ?_
            refine lv_istore_n (lv' := [(2, .int (iI (i : Int))), (0, .ref ea), (1, .int (iI (ps : Int))), (3, .int (iI lt)), (4, .int (iI (i : Int)))]) hx hb dX1_nearestBut_49 rfl hl (by decide) rfl (fun ls hl => ?_)
            refine lv_aload_n hx hb dX1_nearestBut_50 rfl (lv_at hl 1 rfl) ?_
            refine va_get (D := D) (ci := 1) (v := .ref efr) (C := RX1) (T := TX1) (N := 14) hx hb hU inlX1 hown hK hP 0 rfl rfl 5 (by decide) (hU _ kf_RX1_19) (fun _ h9 => h9) rfl dX1_nearestBut_51 ?_
            refine lv_iload hx hb dX1_nearestBut_54 (lv_at hl 4 rfl) ?_
            refine zr_iald hx hb hK hP 3 0 rfl rfl i (by omega) (by omega) (Nat.le_of_ble_eq_true rfl) dX1_nearestBut_56 ?_
            refine lv_istore_n (lv' := [(3, .int (iI (fr i))), (2, .int (iI (i : Int))), (0, .ref ea), (1, .int (iI (ps : Int))), (4, .int (iI (i : Int)))]) hx hb dX1_nearestBut_57 rfl hl (by decide) rfl (fun ls hl => ?_)
            refine lv_iinc (v := iI ((i : Int) + 1)) (lv' := [(4, .int (iI ((i : Int) + 1))), (3, .int (iI (fr i))), (2, .int (iI (i : Int))), (0, .ref ea), (1, .int (iI (ps : Int)))]) hx hb dX1_nearestBut_58 hl (k := 4) rfl (iI_add _ _) (by decide) rfl (fun ls hl => ?_)
            refine lv_goto (tgt := 15) hx hb dX1_nearestBut_61 (by decide) ?_
            exact ih15 (i + 1) (i : Int) (fr i) (by omega) (by omega) (by rw [← hinv, show (g 0).toNat - i = ((g 0).toNat - (i + 1)) + 1 by omega, sp_nb, if_pos (by omega)]) (by omega) ls (lv_sub hl [3, 4, 2, 1, 0] rfl)
  exact LP15 ((g 0).toNat + 1) 0 (-1) ((g 9) + 1) (by omega) (by omega) (rfl) (by omega) ls (lv_sub hl [3, 4, 2, 1, 0] rfl)

set_option maxHeartbeats 4000000 in
set_option maxRecDepth 100000 in
theorem c_X1_lookFrom (l : Launch) (D : va_G) (cI cL cG cM : ClassId) (ea elk ept efr etk ebt etp etb ewn ga gx gy gz : Nat) (lk : Nat → Int) (cnt : Int) (snd : Int) (pt : Nat → Int) (fr : Nat → Int) (tk : Nat → Int) (bt : Nat → Int) (tps : Nat → Int) (wp : Int) (tbl : Nat → Int) (wn : Nat → Int) (pl : Int) (wh : Int) (g : Nat → Int) (x : Int) (y : Int) (wo : Int) (hv : vR g) (h1 : 0 ≤ x ∧ x ≤ 31) (h2 : 0 ≤ y ∧ y ≤ 31) (h3 : -1 ≤ wo ∧ wo < 10) (sz : Nat) : Met l yX1_lookFrom (wU yX1_lookFrom cX1_lookFrom 7 none) (rmF 2 48) (pcW D (tyA cI cL cG cM) [(ea, .inr (1, [.ref ga, .ref elk, .int (iI cnt), .int (iI snd), .ref ept, .ref efr, .ref etk, .ref ebt, .ref etp, .int (iI wp), .ref etb, .ref ewn, .int (iI pl), .long (lI wh)])), (elk, .inl (cI, 4, .inl (aI lk))), (ept, .inl (cL, 4, .inr (.inl (aL pt)))), (efr, .inl (cI, 10, .inl (aI fr))), (etk, .inl (cI, 4, .inl (aI tk))), (ebt, .inl (cI, 16, .inl (aI bt))), (etp, .inl (cI, 4, .inl (aI tps))), (etb, .inl (cL, 9, .inr (.inl (aL tbl)))), (ewn, .inl (cL, 3, .inr (.inl (aL wn)))), (ga, .inr (2, [.int (iI (g 0)), .ref gx, .ref gy, .ref gz, .int (iI (g 1)), .int (iI (g 2)), .int (iI (g 3)), .int (iI (g 4)), .int (iI (g 5)), .int (iI (g 6)), .int (iI (g 7)), .int (iI (g 8)), .int (iI (g 9))])), (gx, .inl (cI, 10, .inl (aI (fun j => g (10 + 3 * j))))), (gy, .inl (cI, 10, .inl (aI (fun j => g (11 + 3 * j))))), (gz, .inl (cI, 10, .inl (aI (fun j => g (12 + 3 * j)))))] [.ref ea, .int (iI x), .int (iI y), .int (iI wo)] sz) (qWv (S := (Nat → Int) × Int × (Nat → Int) × (Nat → Int)) D (tyA cI cL cG cM) (va_A [(ea, .inr (1, [.ref ga, .ref elk, .int (iI cnt), .int (iI snd), .ref ept, .ref efr, .ref etk, .ref ebt, .ref etp, .int (iI wp), .ref etb, .ref ewn, .int (iI pl), .long (lI wh)])), (elk, .inl (cI, 4, .inl (aI lk))), (ept, .inl (cL, 4, .inr (.inl (aL pt)))), (efr, .inl (cI, 10, .inl (aI fr))), (etk, .inl (cI, 4, .inl (aI tk))), (ebt, .inl (cI, 16, .inl (aI bt))), (etp, .inl (cI, 4, .inl (aI tps))), (etb, .inl (cL, 9, .inr (.inl (aL tbl)))), (ewn, .inl (cL, 3, .inr (.inl (aL wn)))), (ga, .inr (2, [.int (iI (g 0)), .ref gx, .ref gy, .ref gz, .int (iI (g 1)), .int (iI (g 2)), .int (iI (g 3)), .int (iI (g 4)), .int (iI (g 5)), .int (iI (g 6)), .int (iI (g 7)), .int (iI (g 8)), .int (iI (g 9))])), (gx, .inl (cI, 10, .inl (aI (fun j => g (10 + 3 * j))))), (gy, .inl (cI, 10, .inl (aI (fun j => g (11 + 3 * j))))), (gz, .inl (cI, 10, .inl (aI (fun j => g (12 + 3 * j)))))] sz) (fun (u : (Nat → Int) × Int × (Nat → Int) × (Nat → Int)) => isL (sp_lk g x y wo) u.1 u.2.1) (fun (u : (Nat → Int) × Int × (Nat → Int) × (Nat → Int)) => [(ea, .inr (1, [.ref ga, .ref elk, .int (iI u.2.1), .int (iI snd), .ref ept, .ref efr, .ref etk, .ref ebt, .ref etp, .int (iI wp), .ref etb, .ref ewn, .int (iI pl), .long (lI wh)])), (elk, .inl (cI, 4, .inl (aI u.1))), (ept, .inl (cL, 4, .inr (.inl (aL pt)))), (efr, .inl (cI, 10, .inl (aI u.2.2.2))), (etk, .inl (cI, 4, .inl (aI u.2.2.1))), (ebt, .inl (cI, 16, .inl (aI bt))), (etp, .inl (cI, 4, .inl (aI tps))), (etb, .inl (cL, 9, .inr (.inl (aL tbl)))), (ewn, .inl (cL, 3, .inr (.inl (aL wn)))), (ga, .inr (2, [.int (iI (g 0)), .ref gx, .ref gy, .ref gz, .int (iI (g 1)), .int (iI (g 2)), .int (iI (g 3)), .int (iI (g 4)), .int (iI (g 5)), .int (iI (g 6)), .int (iI (g 7)), .int (iI (g 8)), .int (iI (g 9))])), (gx, .inl (cI, 10, .inl (aI (fun j => g (10 + 3 * j))))), (gy, .inl (cI, 10, .inl (aI (fun j => g (11 + 3 * j))))), (gz, .inl (cI, 10, .inl (aI (fun j => g (12 + 3 * j)))))])) 0 0 (va_A [(ea, .inr (1, [.ref ga, .ref elk, .int (iI cnt), .int (iI snd), .ref ept, .ref efr, .ref etk, .ref ebt, .ref etp, .int (iI wp), .ref etb, .ref ewn, .int (iI pl), .long (lI wh)])), (elk, .inl (cI, 4, .inl (aI lk))), (ept, .inl (cL, 4, .inr (.inl (aL pt)))), (efr, .inl (cI, 10, .inl (aI fr))), (etk, .inl (cI, 4, .inl (aI tk))), (ebt, .inl (cI, 16, .inl (aI bt))), (etp, .inl (cI, 4, .inl (aI tps))), (etb, .inl (cL, 9, .inr (.inl (aL tbl)))), (ewn, .inl (cL, 3, .inr (.inl (aL wn)))), (ga, .inr (2, [.int (iI (g 0)), .ref gx, .ref gy, .ref gz, .int (iI (g 1)), .int (iI (g 2)), .int (iI (g 3)), .int (iI (g 4)), .int (iI (g 5)), .int (iI (g 6)), .int (iI (g 7)), .int (iI (g 8)), .int (iI (g 9))])), (gx, .inl (cI, 10, .inl (aI (fun j => g (10 + 3 * j))))), (gy, .inl (cI, 10, .inl (aI (fun j => g (11 + 3 * j))))), (gz, .inl (cI, 10, .inl (aI (fun j => g (12 + 3 * j)))))] sz) := by
  refine zm_W (own := RX1) (lv := [(0, .ref ea), (1, .int (iI x)), (2, .int (iI y)), (3, .int (iI wo))]) (QF := fun A => qWv (S := (Nat → Int) × Int × (Nat → Int) × (Nat → Int)) D (tyA cI cL cG cM) A (fun (u : (Nat → Int) × Int × (Nat → Int) × (Nat → Int)) => isL (sp_lk g x y wo) u.1 u.2.1) (fun (u : (Nat → Int) × Int × (Nat → Int) × (Nat → Int)) => [(ea, .inr (1, [.ref ga, .ref elk, .int (iI u.2.1), .int (iI snd), .ref ept, .ref efr, .ref etk, .ref ebt, .ref etp, .int (iI wp), .ref etb, .ref ewn, .int (iI pl), .long (lI wh)])), (elk, .inl (cI, 4, .inl (aI u.1))), (ept, .inl (cL, 4, .inr (.inl (aL pt)))), (efr, .inl (cI, 10, .inl (aI u.2.2.2))), (etk, .inl (cI, 4, .inl (aI u.2.2.1))), (ebt, .inl (cI, 16, .inl (aI bt))), (etp, .inl (cI, 4, .inl (aI tps))), (etb, .inl (cL, 9, .inr (.inl (aL tbl)))), (ewn, .inl (cL, 3, .inr (.inl (aL wn)))), (ga, .inr (2, [.int (iI (g 0)), .ref gx, .ref gy, .ref gz, .int (iI (g 1)), .int (iI (g 2)), .int (iI (g 3)), .int (iI (g 4)), .int (iI (g 5)), .int (iI (g 6)), .int (iI (g 7)), .int (iI (g 8)), .int (iI (g 9))])), (gx, .inl (cI, 10, .inl (aI (fun j => g (10 + 3 * j))))), (gy, .inl (cI, 10, .inl (aI (fun j => g (11 + 3 * j))))), (gz, .inl (cI, 10, .inl (aI (fun j => g (12 + 3 * j)))))])) (by decide) rfl (Nat.le_of_ble_eq_true rfl) rfl ?_
  intro p e s m below meth c A args Q hx hb hr hml hown hU hlk hnm hP hK hNst hD hA hS hsz hQ ls hl
  obtain ⟨H, hH⟩ : ∃ H, H = s.heap := ⟨_, rfl⟩
  obtain ⟨locs, hlocs⟩ : ∃ locs : List Loc, locs = [] := ⟨_, rfl⟩
  rw [← hlocs]
  have hW0 : ∀ (H : Heap) (locs : List Loc), va_P D vwCl [(ea, .inr (1, [.ref ga, .ref elk, .int (iI cnt), .int (iI snd), .ref ept, .ref efr, .ref etk, .ref ebt, .ref etp, .int (iI wp), .ref etb, .ref ewn, .int (iI pl), .long (lI wh)])), (elk, .inl (cI, 4, .inl (aI lk))), (ept, .inl (cL, 4, .inr (.inl (aL pt)))), (efr, .inl (cI, 10, .inl (aI fr))), (etk, .inl (cI, 4, .inl (aI tk))), (ebt, .inl (cI, 16, .inl (aI bt))), (etp, .inl (cI, 4, .inl (aI tps))), (etb, .inl (cL, 9, .inr (.inl (aL tbl)))), (ewn, .inl (cL, 3, .inr (.inl (aL wn)))), (ga, .inr (2, [.int (iI (g 0)), .ref gx, .ref gy, .ref gz, .int (iI (g 1)), .int (iI (g 2)), .int (iI (g 3)), .int (iI (g 4)), .int (iI (g 5)), .int (iI (g 6)), .int (iI (g 7)), .int (iI (g 8)), .int (iI (g 9))])), (gx, .inl (cI, 10, .inl (aI (fun j => g (10 + 3 * j))))), (gy, .inl (cI, 10, .inl (aI (fun j => g (11 + 3 * j))))), (gz, .inl (cI, 10, .inl (aI (fun j => g (12 + 3 * j)))))] H → va_D A [(ea, .inr (1, [.ref ga, .ref elk, .int (iI cnt), .int (iI snd), .ref ept, .ref efr, .ref etk, .ref ebt, .ref etp, .int (iI wp), .ref etb, .ref ewn, .int (iI pl), .long (lI wh)])), (elk, .inl (cI, 4, .inl (aI lk))), (ept, .inl (cL, 4, .inr (.inl (aL pt)))), (efr, .inl (cI, 10, .inl (aI fr))), (etk, .inl (cI, 4, .inl (aI tk))), (ebt, .inl (cI, 16, .inl (aI bt))), (etp, .inl (cI, 4, .inl (aI tps))), (etb, .inl (cL, 9, .inr (.inl (aL tbl)))), (ewn, .inl (cL, 3, .inr (.inl (aL wn)))), (ga, .inr (2, [.int (iI (g 0)), .ref gx, .ref gy, .ref gz, .int (iI (g 1)), .int (iI (g 2)), .int (iI (g 3)), .int (iI (g 4)), .int (iI (g 5)), .int (iI (g 6)), .int (iI (g 7)), .int (iI (g 8)), .int (iI (g 9))])), (gx, .inl (cI, 10, .inl (aI (fun j => g (10 + 3 * j))))), (gy, .inl (cI, 10, .inl (aI (fun j => g (11 + 3 * j))))), (gz, .inl (cI, 10, .inl (aI (fun j => g (12 + 3 * j)))))] → va_S A s.heap H locs → W p l e (rmF 2 48) s m args below meth c H locs 0 0 Q (F0 m 0 ls []) := by
    clear hP hD hS hH hlocs H locs
    intro H locs hP hD hS
    have h0 := hv.1
    have h7 := hv.2.2.2.2.2.2.2.1
    have h8 := hv.2.2.2.2.2.2.2.2.1
    have h9 := hv.2.2.2.2.2.2.2.2.2.1
    refine lv_aload_n hx hb dX1_lookFrom_0 rfl (lv_at hl 0 rfl) ?_
    refine lv_iconst (v := iI 0) hx hb dX1_lookFrom_1 rfl ?_
    refine va_put (D := D) (ci := 1) (v := .int (iI 0)) (ty := .int) (C := RX1) (T := TX1) (N := 14) hx hb hU inlX1 tyX1 tyX1_ok nmX1 hown hK hP hD hS 0 rfl rfl 2 (by decide) (hU _ kf_RX1_49) (fun _ h9 => h9) rfl (by decide +kernel) rfl rfl (Nat.le_of_ble_eq_true rfl) dX1_lookFrom_2 (fun H locs hP hD hS => ?_)
    have hP : va_P D vwCl [(ea, .inr (1, [.ref ga, .ref elk, .int (iI 0), .int (iI snd), .ref ept, .ref efr, .ref etk, .ref ebt, .ref etp, .int (iI wp), .ref etb, .ref ewn, .int (iI pl), .long (lI wh)])), (elk, .inl (cI, 4, .inl (aI lk))), (ept, .inl (cL, 4, .inr (.inl (aL pt)))), (efr, .inl (cI, 10, .inl (aI fr))), (etk, .inl (cI, 4, .inl (aI tk))), (ebt, .inl (cI, 16, .inl (aI bt))), (etp, .inl (cI, 4, .inl (aI tps))), (etb, .inl (cL, 9, .inr (.inl (aL tbl)))), (ewn, .inl (cL, 3, .inr (.inl (aL wn)))), (ga, .inr (2, [.int (iI (g 0)), .ref gx, .ref gy, .ref gz, .int (iI (g 1)), .int (iI (g 2)), .int (iI (g 3)), .int (iI (g 4)), .int (iI (g 5)), .int (iI (g 6)), .int (iI (g 7)), .int (iI (g 8)), .int (iI (g 9))])), (gx, .inl (cI, 10, .inl (aI (fun j => g (10 + 3 * j))))), (gy, .inl (cI, 10, .inl (aI (fun j => g (11 + 3 * j))))), (gz, .inl (cI, 10, .inl (aI (fun j => g (12 + 3 * j)))))] H := hP
    have hD : va_D A [(ea, .inr (1, [.ref ga, .ref elk, .int (iI 0), .int (iI snd), .ref ept, .ref efr, .ref etk, .ref ebt, .ref etp, .int (iI wp), .ref etb, .ref ewn, .int (iI pl), .long (lI wh)])), (elk, .inl (cI, 4, .inl (aI lk))), (ept, .inl (cL, 4, .inr (.inl (aL pt)))), (efr, .inl (cI, 10, .inl (aI fr))), (etk, .inl (cI, 4, .inl (aI tk))), (ebt, .inl (cI, 16, .inl (aI bt))), (etp, .inl (cI, 4, .inl (aI tps))), (etb, .inl (cL, 9, .inr (.inl (aL tbl)))), (ewn, .inl (cL, 3, .inr (.inl (aL wn)))), (ga, .inr (2, [.int (iI (g 0)), .ref gx, .ref gy, .ref gz, .int (iI (g 1)), .int (iI (g 2)), .int (iI (g 3)), .int (iI (g 4)), .int (iI (g 5)), .int (iI (g 6)), .int (iI (g 7)), .int (iI (g 8)), .int (iI (g 9))])), (gx, .inl (cI, 10, .inl (aI (fun j => g (10 + 3 * j))))), (gy, .inl (cI, 10, .inl (aI (fun j => g (11 + 3 * j))))), (gz, .inl (cI, 10, .inl (aI (fun j => g (12 + 3 * j)))))] := hD
    refine lv_iconst (v := iI 0) hx hb dX1_lookFrom_5 rfl ?_
    refine lv_istore (lv' := [(4, .int (iI 0)), (0, .ref ea), (1, .int (iI x)), (2, .int (iI y)), (3, .int (iI wo))]) hx hb dX1_lookFrom_6 hl (by decide) rfl (fun ls hl => ?_)
    have LP8 : ∀ (n : Nat), ∀ (q : Nat) (tk1 : Nat → Int), (q ≤ 4) → (∀ j : Nat, j < q → tk1 j = 0) → (4 < q + n) → ∀ (H : Heap) (locs : List Loc), va_P D vwCl [(ea, .inr (1, [.ref ga, .ref elk, .int (iI 0), .int (iI snd), .ref ept, .ref efr, .ref etk, .ref ebt, .ref etp, .int (iI wp), .ref etb, .ref ewn, .int (iI pl), .long (lI wh)])), (elk, .inl (cI, 4, .inl (aI lk))), (ept, .inl (cL, 4, .inr (.inl (aL pt)))), (efr, .inl (cI, 10, .inl (aI fr))), (etk, .inl (cI, 4, .inl (aI tk1))), (ebt, .inl (cI, 16, .inl (aI bt))), (etp, .inl (cI, 4, .inl (aI tps))), (etb, .inl (cL, 9, .inr (.inl (aL tbl)))), (ewn, .inl (cL, 3, .inr (.inl (aL wn)))), (ga, .inr (2, [.int (iI (g 0)), .ref gx, .ref gy, .ref gz, .int (iI (g 1)), .int (iI (g 2)), .int (iI (g 3)), .int (iI (g 4)), .int (iI (g 5)), .int (iI (g 6)), .int (iI (g 7)), .int (iI (g 8)), .int (iI (g 9))])), (gx, .inl (cI, 10, .inl (aI (fun j => g (10 + 3 * j))))), (gy, .inl (cI, 10, .inl (aI (fun j => g (11 + 3 * j))))), (gz, .inl (cI, 10, .inl (aI (fun j => g (12 + 3 * j)))))] H → va_D A [(ea, .inr (1, [.ref ga, .ref elk, .int (iI 0), .int (iI snd), .ref ept, .ref efr, .ref etk, .ref ebt, .ref etp, .int (iI wp), .ref etb, .ref ewn, .int (iI pl), .long (lI wh)])), (elk, .inl (cI, 4, .inl (aI lk))), (ept, .inl (cL, 4, .inr (.inl (aL pt)))), (efr, .inl (cI, 10, .inl (aI fr))), (etk, .inl (cI, 4, .inl (aI tk1))), (ebt, .inl (cI, 16, .inl (aI bt))), (etp, .inl (cI, 4, .inl (aI tps))), (etb, .inl (cL, 9, .inr (.inl (aL tbl)))), (ewn, .inl (cL, 3, .inr (.inl (aL wn)))), (ga, .inr (2, [.int (iI (g 0)), .ref gx, .ref gy, .ref gz, .int (iI (g 1)), .int (iI (g 2)), .int (iI (g 3)), .int (iI (g 4)), .int (iI (g 5)), .int (iI (g 6)), .int (iI (g 7)), .int (iI (g 8)), .int (iI (g 9))])), (gx, .inl (cI, 10, .inl (aI (fun j => g (10 + 3 * j))))), (gy, .inl (cI, 10, .inl (aI (fun j => g (11 + 3 * j))))), (gz, .inl (cI, 10, .inl (aI (fun j => g (12 + 3 * j)))))] → va_S A s.heap H locs → ∀ (ls : Array Slot), lv_has ls 7 [(0, .ref ea), (1, .int (iI x)), (2, .int (iI y)), (3, .int (iI wo)), (4, .int (iI (q : Int)))] → W p l e (rmF 2 48) s m args below meth c H locs 0 0 Q (F0 m 8 ls []) := by
      intro n
      induction n with
      | zero =>
        intro q tk1 hq4 hz hfu
        exfalso
        omega
      | succ n ih8 =>
        intro q tk1 hq4 hz hfu H locs hP hD hS ls hl
        refine lv_iload hx hb dX1_lookFrom_8 (lv_at hl 4 rfl) ?_
        refine lv_iconst (v := iI 4) hx hb dX1_lookFrom_10 rfl ?_
        refine zr_icmp_ge (tgt := 28) hx hb dX1_lookFrom_11 (by decide) (by omega) (by omega) (fun c_1 => ?_) (fun c_1 => ?_)
        · skip
          refine lv_iconst (v := iI 0) hx hb dX1_lookFrom_28 rfl ?_
          refine lv_istore (lv' := [(4, .int (iI 0)), (0, .ref ea), (1, .int (iI x)), (2, .int (iI y)), (3, .int (iI wo))]) hx hb dX1_lookFrom_29 hl (by decide) rfl (fun ls hl => ?_)
          have LP31 : ∀ (n : Nat), ∀ (i : Nat) (fr1 : Nat → Int), ((i : Int) ≤ g 0) → (∀ j : Nat, j < i → fr1 j = sp_fs g j x y) → ((g 0).toNat < i + n) → ∀ (H : Heap) (locs : List Loc), va_P D vwCl [(ea, .inr (1, [.ref ga, .ref elk, .int (iI 0), .int (iI snd), .ref ept, .ref efr, .ref etk, .ref ebt, .ref etp, .int (iI wp), .ref etb, .ref ewn, .int (iI pl), .long (lI wh)])), (elk, .inl (cI, 4, .inl (aI lk))), (ept, .inl (cL, 4, .inr (.inl (aL pt)))), (efr, .inl (cI, 10, .inl (aI fr1))), (etk, .inl (cI, 4, .inl (aI tk1))), (ebt, .inl (cI, 16, .inl (aI bt))), (etp, .inl (cI, 4, .inl (aI tps))), (etb, .inl (cL, 9, .inr (.inl (aL tbl)))), (ewn, .inl (cL, 3, .inr (.inl (aL wn)))), (ga, .inr (2, [.int (iI (g 0)), .ref gx, .ref gy, .ref gz, .int (iI (g 1)), .int (iI (g 2)), .int (iI (g 3)), .int (iI (g 4)), .int (iI (g 5)), .int (iI (g 6)), .int (iI (g 7)), .int (iI (g 8)), .int (iI (g 9))])), (gx, .inl (cI, 10, .inl (aI (fun j => g (10 + 3 * j))))), (gy, .inl (cI, 10, .inl (aI (fun j => g (11 + 3 * j))))), (gz, .inl (cI, 10, .inl (aI (fun j => g (12 + 3 * j)))))] H → va_D A [(ea, .inr (1, [.ref ga, .ref elk, .int (iI 0), .int (iI snd), .ref ept, .ref efr, .ref etk, .ref ebt, .ref etp, .int (iI wp), .ref etb, .ref ewn, .int (iI pl), .long (lI wh)])), (elk, .inl (cI, 4, .inl (aI lk))), (ept, .inl (cL, 4, .inr (.inl (aL pt)))), (efr, .inl (cI, 10, .inl (aI fr1))), (etk, .inl (cI, 4, .inl (aI tk1))), (ebt, .inl (cI, 16, .inl (aI bt))), (etp, .inl (cI, 4, .inl (aI tps))), (etb, .inl (cL, 9, .inr (.inl (aL tbl)))), (ewn, .inl (cL, 3, .inr (.inl (aL wn)))), (ga, .inr (2, [.int (iI (g 0)), .ref gx, .ref gy, .ref gz, .int (iI (g 1)), .int (iI (g 2)), .int (iI (g 3)), .int (iI (g 4)), .int (iI (g 5)), .int (iI (g 6)), .int (iI (g 7)), .int (iI (g 8)), .int (iI (g 9))])), (gx, .inl (cI, 10, .inl (aI (fun j => g (10 + 3 * j))))), (gy, .inl (cI, 10, .inl (aI (fun j => g (11 + 3 * j))))), (gz, .inl (cI, 10, .inl (aI (fun j => g (12 + 3 * j)))))] → va_S A s.heap H locs → ∀ (ls : Array Slot), lv_has ls 7 [(0, .ref ea), (1, .int (iI x)), (2, .int (iI y)), (3, .int (iI wo)), (4, .int (iI (i : Int)))] → W p l e (rmF 2 48) s m args below meth c H locs 0 0 Q (F0 m 31 ls []) := by
            intro n
            induction n with
            | zero =>
              intro i fr1 hi hf hfu
              exfalso
              omega
            | succ n ih31 =>
              intro i fr1 hi hf hfu H locs hP hD hS ls hl
              refine lv_iload hx hb dX1_lookFrom_31 (lv_at hl 4 rfl) ?_
              refine lv_aload_n hx hb dX1_lookFrom_33 rfl (lv_at hl 0 rfl) ?_
              refine va_get (D := D) (ci := 1) (v := .ref ga) (C := RX1) (T := TX1) (N := 14) hx hb hU inlX1 hown hK hP 0 rfl rfl 0 (by decide) (hU _ kf_RX1_37) (fun _ h9 => h9) rfl dX1_lookFrom_34 ?_
              refine va_get (D := D) (ci := 2) (v := .int (iI (g 0))) (C := RX2) (T := TX2) (N := 13) hx hb hU inlX2 hown hK hP 9 rfl rfl 0 (by decide) (hU _ kf_RX1_83) (fun _ h9 => h9) rfl dX1_lookFrom_37 ?_
              refine zr_icmp_ge (tgt := 87) hx hb dX1_lookFrom_40 (by decide) (by omega) (by omega) (fun c_2 => ?_) (fun c_2 => ?_)
              · skip
                have hfs : ∀ j : Nat, (j : Int) < g 0 → fr1 j = sp_fs g j x y := fun j hj => hf j (by omega)
                have hfr : ∀ j : Nat, (j : Int) < g 0 → 0 ≤ fr1 j ∧ fr1 j ≤ 62 := fun j hj => by rw [hfs j hj]; exact sp_fs_rg hv hj h1 h2
                refine lv_iload_n hx hb dX1_lookFrom_87 rfl (lv_at hl 3 rfl) ?_
                refine lv_iconst (v := iI (-1)) hx hb dX1_lookFrom_88 rfl ?_
                refine zr_icmp_ne (tgt := 96) hx hb dX1_lookFrom_89 (by decide) (by omega) (by omega) (fun c_3 => ?_) (fun c_3 => ?_)
                · skip
                  refine lv_iconst (v := iI 1) hx hb dX1_lookFrom_96 rfl ?_
                  refine lv_iload_n hx hb dX1_lookFrom_97 rfl (lv_at hl 3 rfl) ?_
                  refine zr_rw (v := ((wo.toNat : Nat) : Int)) (by omega) ?_
                  refine lv_ishl hx hb dX1_lookFrom_98 ?_
                  refine zr_bti (z := (((2 ^ wo.toNat) : Nat) : Int)) (bt_shl _ (by omega)) ?_
                  have hps0 : isPs g x y wo (2 ^ wo.toNat) 0 := by have := isPs_w hv (a := wo.toNat) (by omega) h1 h2; rw [Int.toNat_of_nonneg (by omega)] at this; exact this
                  refine lv_istore (lv' := [(4, .int (iI (((2 ^ wo.toNat) : Nat) : Int))), (0, .ref ea), (1, .int (iI x)), (2, .int (iI y)), (3, .int (iI wo))]) hx hb dX1_lookFrom_99 hl (by decide) rfl (fun ls hl => ?_)
                  refine lv_iconst (v := iI 0) hx hb dX1_lookFrom_101 rfl ?_
                  refine lv_istore (lv' := [(5, .int (iI 0)), (4, .int (iI (((2 ^ wo.toNat) : Nat) : Int))), (0, .ref ea), (1, .int (iI x)), (2, .int (iI y)), (3, .int (iI wo))]) hx hb dX1_lookFrom_102 hl (by decide) rfl (fun ls hl => ?_)
                  have LP104 : ∀ (n : Nat), ∀ (t : Nat) (ps : Nat) (K : Nat) (L : List Nat) (lk1 : Nat → Int) (cnt1 : Int) (tk2 : Nat → Int), ((t : Int) ≤ g 0) → (K ≤ (16 * ((g 9).toNat + 1))) → (isPs g x y wo ps K) → (cntU ps (g 0).toNat + t ≤ (g 0).toNat) → (okL g L) → (isL L lk1 cnt1) → (isQ g x y L tk2) → (sp_run g x y wo ((16 * ((g 9).toNat + 1)) - K) K L = sp_lk g x y wo) → ((g 0).toNat < t + n) → ∀ (H : Heap) (locs : List Loc), va_P D vwCl [(ea, .inr (1, [.ref ga, .ref elk, .int (iI cnt1), .int (iI snd), .ref ept, .ref efr, .ref etk, .ref ebt, .ref etp, .int (iI wp), .ref etb, .ref ewn, .int (iI pl), .long (lI wh)])), (elk, .inl (cI, 4, .inl (aI lk1))), (ept, .inl (cL, 4, .inr (.inl (aL pt)))), (efr, .inl (cI, 10, .inl (aI fr1))), (etk, .inl (cI, 4, .inl (aI tk2))), (ebt, .inl (cI, 16, .inl (aI bt))), (etp, .inl (cI, 4, .inl (aI tps))), (etb, .inl (cL, 9, .inr (.inl (aL tbl)))), (ewn, .inl (cL, 3, .inr (.inl (aL wn)))), (ga, .inr (2, [.int (iI (g 0)), .ref gx, .ref gy, .ref gz, .int (iI (g 1)), .int (iI (g 2)), .int (iI (g 3)), .int (iI (g 4)), .int (iI (g 5)), .int (iI (g 6)), .int (iI (g 7)), .int (iI (g 8)), .int (iI (g 9))])), (gx, .inl (cI, 10, .inl (aI (fun j => g (10 + 3 * j))))), (gy, .inl (cI, 10, .inl (aI (fun j => g (11 + 3 * j))))), (gz, .inl (cI, 10, .inl (aI (fun j => g (12 + 3 * j)))))] H → va_D A [(ea, .inr (1, [.ref ga, .ref elk, .int (iI cnt1), .int (iI snd), .ref ept, .ref efr, .ref etk, .ref ebt, .ref etp, .int (iI wp), .ref etb, .ref ewn, .int (iI pl), .long (lI wh)])), (elk, .inl (cI, 4, .inl (aI lk1))), (ept, .inl (cL, 4, .inr (.inl (aL pt)))), (efr, .inl (cI, 10, .inl (aI fr1))), (etk, .inl (cI, 4, .inl (aI tk2))), (ebt, .inl (cI, 16, .inl (aI bt))), (etp, .inl (cI, 4, .inl (aI tps))), (etb, .inl (cL, 9, .inr (.inl (aL tbl)))), (ewn, .inl (cL, 3, .inr (.inl (aL wn)))), (ga, .inr (2, [.int (iI (g 0)), .ref gx, .ref gy, .ref gz, .int (iI (g 1)), .int (iI (g 2)), .int (iI (g 3)), .int (iI (g 4)), .int (iI (g 5)), .int (iI (g 6)), .int (iI (g 7)), .int (iI (g 8)), .int (iI (g 9))])), (gx, .inl (cI, 10, .inl (aI (fun j => g (10 + 3 * j))))), (gy, .inl (cI, 10, .inl (aI (fun j => g (11 + 3 * j))))), (gz, .inl (cI, 10, .inl (aI (fun j => g (12 + 3 * j)))))] → va_S A s.heap H locs → ∀ (ls : Array Slot), lv_has ls 7 [(0, .ref ea), (1, .int (iI x)), (2, .int (iI y)), (3, .int (iI wo)), (4, .int (iI (ps : Int))), (5, .int (iI (t : Int)))] → W p l e (rmF 2 48) s m args below meth c H locs 0 0 Q (F0 m 104 ls []) := by
                    intro n
                    induction n with
                    | zero =>
                      intro t ps K L lk1 cnt1 tk2 ht hKn hps hcu hok hL hq hinv hfu
                      exfalso
                      omega
                    | succ n ih104 =>
                      intro t ps K L lk1 cnt1 tk2 ht hKn hps hcu hok hL hq hinv hfu H locs hP hD hS ls hl
                      have hps1 := hps.1
                      have hl1 := hL.1
                      have h4 := okL_le hv hok
                      refine lv_iload hx hb dX1_lookFrom_104 (lv_at hl 5 rfl) ?_
                      refine lv_aload_n hx hb dX1_lookFrom_106 rfl (lv_at hl 0 rfl) ?_
                      refine va_get (D := D) (ci := 1) (v := .ref ga) (C := RX1) (T := TX1) (N := 14) hx hb hU inlX1 hown hK hP 0 rfl rfl 0 (by decide) (hU _ kf_RX1_37) (fun _ h9 => h9) rfl dX1_lookFrom_107 ?_
                      refine va_get (D := D) (ci := 2) (v := .int (iI (g 0))) (C := RX2) (T := TX2) (N := 13) hx hb hU inlX2 hown hK hP 9 rfl rfl 0 (by decide) (hU _ kf_RX1_83) (fun _ h9 => h9) rfl dX1_lookFrom_110 ?_
                      refine zr_icmp_ge (tgt := 177) hx hb dX1_lookFrom_113 (by decide) (by omega) (by omega) (fun c_4 => ?_) (fun c_4 => ?_)
                      · skip
                        rw [hQ]
                        exact ze_Wv hx hb hr hlk dX1_lookFrom_177 (lk1, cnt1, tk2, fr1) (by rw [← hinv, run_none hv hps rfl hKn (fun i hi hp => by have := cntU_0 (ps := ps) (g 0).toNat (by omega) i (by omega); omega)]; exact hL) hP hK hD hS
                      · skip
                        refine lv_aload_n hx hb dX1_lookFrom_116 rfl (lv_at hl 0 rfl) ?_
                        refine va_get (D := D) (ci := 1) (v := .int (iI cnt1)) (C := RX1) (T := TX1) (N := 14) hx hb hU inlX1 hown hK hP 0 rfl rfl 2 (by decide) (hU _ kf_RX1_49) (fun _ h9 => h9) rfl dX1_lookFrom_117 ?_
                        refine lv_aload_n hx hb dX1_lookFrom_120 rfl (lv_at hl 0 rfl) ?_
                        refine va_get (D := D) (ci := 1) (v := .ref ga) (C := RX1) (T := TX1) (N := 14) hx hb hU inlX1 hown hK hP 0 rfl rfl 0 (by decide) (hU _ kf_RX1_37) (fun _ h9 => h9) rfl dX1_lookFrom_121 ?_
                        refine va_get (D := D) (ci := 2) (v := .int (iI (g 7))) (C := RX2) (T := TX2) (N := 13) hx hb hU inlX2 hown hK hP 9 rfl rfl 10 (by decide) (hU _ kf_RX1_98) (fun _ h9 => h9) rfl dX1_lookFrom_124 ?_
                        refine zr_icmp_ge (tgt := 177) hx hb dX1_lookFrom_127 (by decide) (by omega) (by omega) (fun c_5 => ?_) (fun c_5 => ?_)
                        · skip
                          rw [hQ]
                          exact ze_Wv hx hb hr hlk dX1_lookFrom_177 (lk1, cnt1, tk2, fr1) (by rw [← hinv, sp_run_full (by omega)]; exact hL) hP hK hD hS
                        · skip
                          refine lv_aload_n hx hb dX1_lookFrom_130 rfl (lv_at hl 0 rfl) ?_
                          refine lv_iload hx hb dX1_lookFrom_131 (lv_at hl 4 rfl) ?_
                          refine zc_Vi (As := [.int (iI (ps : Int))]) (rest := []) (c_X1_nearestBut l D cI cL cG cM ea elk ept efr etk ebt etp etb ewn ga gx gy gz lk1 cnt1 snd pt fr1 tk2 bt tps wp tbl wn pl wh g ps (hv) (by omega) (hfr)) hx hb hml hown hU hl.1 ct_yX1_nearestBut cv_yX1_nearestBut km_RX1_101 hK hNst hP 1 0 rfl rfl rfl ⟨rfl, rfl⟩ ⟨Nat.le_of_ble_eq_true rfl, Nat.le_of_ble_eq_true rfl⟩ rfl rfl (Nat.le_of_ble_eq_true rfl) dX1_lookFrom_133 ⟨Nat.le_of_ble_eq_true rfl, Nat.le_of_ble_eq_true rfl⟩ ?_
                          refine zr_rw (v := (sp_nb (fun j => sp_fs g j x y) ps (g 0).toNat 0 (-1) (g 9 + 1))) (sp_nb_congr ps _ _ _ _ (fun j _ hj => hfs j (by omega))) ?_
                          refine zr_topi (fun zn hzn => ?_)
                          refine lv_istore (lv' := [(6, .int (iI zn)), (0, .ref ea), (1, .int (iI x)), (2, .int (iI y)), (3, .int (iI wo)), (4, .int (iI (ps : Int))), (5, .int (iI (t : Int)))]) hx hb dX1_lookFrom_136 hl (by decide) rfl (fun ls hl => ?_)
                          have hspec := sp_nb_spec (fun j => sp_fs g j x y) ps (g 0).toNat 0 (-1) (g 9 + 1)
                          have hzr := sp_nb_rg (f := fun j => sp_fs g j x y) (ps := ps) (n := (g 0).toNat) (i := 0) (nr := -1) (lt := g 9 + 1) (by omega) (by omega)
                          rw [← hzn] at hspec hzr
                          refine lv_iload hx hb dX1_lookFrom_138 (lv_at hl 0 rfl) ?_
                          refine lv_iconst (v := iI (-1)) hx hb dX1_lookFrom_140 rfl ?_
                          refine zr_icmp_ne (tgt := 145) hx hb dX1_lookFrom_141 (by decide) (by omega) (by omega) (fun c141 => ?_) (fun c141 => ?_)
                          · skip
                            obtain ⟨a, hza, -, ha2, hp, hfa, hmn0⟩ := hspec.resolve_left (fun h => c141 h.1)
                            clear hspec
                            have ha : (a : Int) < g 0 := by omega
                            have hmn : ∀ j : Nat, (j : Int) < g 0 → (ps / 2 ^ j) % 2 = 0 → sp_fs g a x y < sp_fs g j x y ∨ (sp_fs g a x y = sp_fs g j x y ∧ a ≤ j) := fun j hj hq => hmn0 j (by omega) (by omega) hq
                            have hf0 := (sp_fs_rg hv ha h1 h2).1
                            have hrn := run_next hv hps rfl hKn ha hp (by omega) hf0 hmn (L := L)
                            refine lv_iload hx hb dX1_lookFrom_145 (lv_at hl 5 rfl) ?_
                            refine lv_iconst (v := iI 1) hx hb dX1_lookFrom_147 rfl ?_
                            refine lv_iload hx hb dX1_lookFrom_148 (lv_at hl 0 rfl) ?_
                            refine zr_rw (v := (a : Int)) (hza) ?_
                            refine lv_ishl hx hb dX1_lookFrom_150 ?_
                            refine zr_bti (z := (((2 ^ a) : Nat) : Int)) (bt_shl _ (by omega)) ?_
                            refine lv_ior hx hb dX1_lookFrom_151 ?_
                            refine zr_bti (z := (((ps ||| 2 ^ a) : Nat) : Int)) (bt_or _ _) ?_
                            refine lv_istore (lv' := [(4, .int (iI (((ps ||| 2 ^ a) : Nat) : Int))), (6, .int (iI zn)), (0, .ref ea), (1, .int (iI x)), (2, .int (iI y)), (3, .int (iI wo)), (5, .int (iI (t : Int)))]) hx hb dX1_lookFrom_152 hl (by decide) rfl (fun ls hl => ?_)
                            refine lv_aload_n hx hb dX1_lookFrom_154 rfl (lv_at hl 2 rfl) ?_
                            refine lv_iload hx hb dX1_lookFrom_155 (lv_at hl 1 rfl) ?_
                            refine zr_rw (v := (a : Int)) (hza) ?_
                            refine lv_aload_n hx hb dX1_lookFrom_157 rfl (lv_at hl 2 rfl) ?_
                            refine va_get (D := D) (ci := 1) (v := .ref ga) (C := RX1) (T := TX1) (N := 14) hx hb hU inlX1 hown hK hP 0 rfl rfl 0 (by decide) (hU _ kf_RX1_37) (fun _ h9 => h9) rfl dX1_lookFrom_158 ?_
                            refine lv_iload hx hb dX1_lookFrom_161 (lv_at hl 1 rfl) ?_
                            refine zr_rw (v := (a : Int)) (hza) ?_
                            refine lv_iload_n hx hb dX1_lookFrom_163 rfl (lv_at hl 3 rfl) ?_
                            refine lv_iload_n hx hb dX1_lookFrom_164 rfl (lv_at hl 4 rfl) ?_
                            have hPc_6 := hP.sub (ws' := [(ga, .inr (2, [.int (iI (g 0)), .ref gx, .ref gy, .ref gz, .int (iI (g 1)), .int (iI (g 2)), .int (iI (g 3)), .int (iI (g 4)), .int (iI (g 5)), .int (iI (g 6)), .int (iI (g 7)), .int (iI (g 8)), .int (iI (g 9))])), (gx, .inl (cI, 10, .inl (aI (fun j => g (10 + 3 * j))))), (gy, .inl (cI, 10, .inl (aI (fun j => g (11 + 3 * j))))), (gz, .inl (cI, 10, .inl (aI (fun j => g (12 + 3 * j)))))]) [9, 10, 11, 12] rfl
                            refine zc_Vi (As := [.int (iI (a : Int)), .int (iI x), .int (iI y)]) (rest := [.int (iI (a : Int)), .ref ea]) (c_X2_quarterOf l D cI cL cG cM ga gx gy gz g a x y (hv) (by omega) (by omega) (by omega)) hx hb hml hown hU hl.1 ct_yX2_quarterOf cv_yX2_quarterOf km_RX1_105 hK hNst hPc_6 2 0 rfl rfl rfl ⟨rfl, rfl⟩ ⟨Nat.le_of_ble_eq_true rfl, Nat.le_of_ble_eq_true rfl⟩ rfl rfl (Nat.le_of_ble_eq_true rfl) dX1_lookFrom_165 ⟨Nat.le_of_ble_eq_true rfl, Nat.le_of_ble_eq_true rfl⟩ ?_
                            refine zc_Wv (As := [.int (iI (a : Int)), .int (iI (sp_qr g a x y))]) (rest := []) (wr := []) (wc := [(ea, .inr (1, [.ref ga, .ref elk, .int (iI cnt1), .int (iI snd), .ref ept, .ref efr, .ref etk, .ref ebt, .ref etp, .int (iI wp), .ref etb, .ref ewn, .int (iI pl), .long (lI wh)])), (elk, .inl (cI, 4, .inl (aI lk1))), (ept, .inl (cL, 4, .inr (.inl (aL pt)))), (efr, .inl (cI, 10, .inl (aI fr1))), (etk, .inl (cI, 4, .inl (aI tk2))), (ebt, .inl (cI, 16, .inl (aI bt))), (etp, .inl (cI, 4, .inl (aI tps))), (etb, .inl (cL, 9, .inr (.inl (aL tbl)))), (ewn, .inl (cL, 3, .inr (.inl (aL wn)))), (ga, .inr (2, [.int (iI (g 0)), .ref gx, .ref gy, .ref gz, .int (iI (g 1)), .int (iI (g 2)), .int (iI (g 3)), .int (iI (g 4)), .int (iI (g 5)), .int (iI (g 6)), .int (iI (g 7)), .int (iI (g 8)), .int (iI (g 9))])), (gx, .inl (cI, 10, .inl (aI (fun j => g (10 + 3 * j))))), (gy, .inl (cI, 10, .inl (aI (fun j => g (11 + 3 * j))))), (gz, .inl (cI, 10, .inl (aI (fun j => g (12 + 3 * j)))))]) (c_X1_lookAt l D cI cL cG cM ea elk ept efr etk ebt etp etb ewn ga gx gy gz lk1 cnt1 snd pt fr1 tk2 bt tps wp tbl wn pl wh g a (sp_qr g a x y) x y L (hv) (ha) (rfl) (hok) (hL) (hq) (by omega) _) hx hb hml hown hU hl.1 ct_yX1_lookAt cv_yX1_lookAt km_RX1_109 hK hNst hP hD hS hA [0, 1, 2, 3, 4, 5, 6, 7, 8, 9, 10, 11, 12] [] rfl rfl (by decide) (by decide) (by decide) 1 0 rfl rfl rfl ⟨rfl, rfl⟩ ⟨Nat.le_of_ble_eq_true rfl, Nat.le_of_ble_eq_true rfl⟩ rfl rfl (Nat.le_of_ble_eq_true rfl) dX1_lookFrom_168 ⟨Nat.le_of_ble_eq_true rfl, Nat.le_of_ble_eq_true rfl⟩ (fun u H locs hwl hP hD hS _ => ?_)
                            obtain ⟨lk_8, cnt_9, tk_10⟩ := u
                            have hwl : isL (sp_st g x y L a) lk_8 cnt_9 ∧ isQ g x y (sp_st g x y L a) tk_10 := hwl
                            have hP : va_P D vwCl [(ea, .inr (1, [.ref ga, .ref elk, .int (iI cnt_9), .int (iI snd), .ref ept, .ref efr, .ref etk, .ref ebt, .ref etp, .int (iI wp), .ref etb, .ref ewn, .int (iI pl), .long (lI wh)])), (elk, .inl (cI, 4, .inl (aI lk_8))), (ept, .inl (cL, 4, .inr (.inl (aL pt)))), (efr, .inl (cI, 10, .inl (aI fr1))), (etk, .inl (cI, 4, .inl (aI tk_10))), (ebt, .inl (cI, 16, .inl (aI bt))), (etp, .inl (cI, 4, .inl (aI tps))), (etb, .inl (cL, 9, .inr (.inl (aL tbl)))), (ewn, .inl (cL, 3, .inr (.inl (aL wn)))), (ga, .inr (2, [.int (iI (g 0)), .ref gx, .ref gy, .ref gz, .int (iI (g 1)), .int (iI (g 2)), .int (iI (g 3)), .int (iI (g 4)), .int (iI (g 5)), .int (iI (g 6)), .int (iI (g 7)), .int (iI (g 8)), .int (iI (g 9))])), (gx, .inl (cI, 10, .inl (aI (fun j => g (10 + 3 * j))))), (gy, .inl (cI, 10, .inl (aI (fun j => g (11 + 3 * j))))), (gz, .inl (cI, 10, .inl (aI (fun j => g (12 + 3 * j)))))] H := hP
                            have hD : va_D A [(ea, .inr (1, [.ref ga, .ref elk, .int (iI cnt_9), .int (iI snd), .ref ept, .ref efr, .ref etk, .ref ebt, .ref etp, .int (iI wp), .ref etb, .ref ewn, .int (iI pl), .long (lI wh)])), (elk, .inl (cI, 4, .inl (aI lk_8))), (ept, .inl (cL, 4, .inr (.inl (aL pt)))), (efr, .inl (cI, 10, .inl (aI fr1))), (etk, .inl (cI, 4, .inl (aI tk_10))), (ebt, .inl (cI, 16, .inl (aI bt))), (etp, .inl (cI, 4, .inl (aI tps))), (etb, .inl (cL, 9, .inr (.inl (aL tbl)))), (ewn, .inl (cL, 3, .inr (.inl (aL wn)))), (ga, .inr (2, [.int (iI (g 0)), .ref gx, .ref gy, .ref gz, .int (iI (g 1)), .int (iI (g 2)), .int (iI (g 3)), .int (iI (g 4)), .int (iI (g 5)), .int (iI (g 6)), .int (iI (g 7)), .int (iI (g 8)), .int (iI (g 9))])), (gx, .inl (cI, 10, .inl (aI (fun j => g (10 + 3 * j))))), (gy, .inl (cI, 10, .inl (aI (fun j => g (11 + 3 * j))))), (gz, .inl (cI, 10, .inl (aI (fun j => g (12 + 3 * j)))))] := hD
                            refine lv_iinc (v := iI ((t : Int) + 1)) (lv' := [(5, .int (iI ((t : Int) + 1))), (4, .int (iI (((ps ||| 2 ^ a) : Nat) : Int))), (6, .int (iI zn)), (0, .ref ea), (1, .int (iI x)), (2, .int (iI y)), (3, .int (iI wo))]) hx hb dX1_lookFrom_171 hl (k := 6) rfl (iI_add _ _) (by decide) rfl (fun ls hl => ?_)
                            refine lv_goto (tgt := 104) hx hb dX1_lookFrom_174 (by decide) ?_
                            exact ih104 (t + 1) (ps ||| 2 ^ a) (16 * (sp_fs g a x y).toNat + a + 1) (sp_st g x y L a) lk_8 cnt_9 tk_10 (by omega) (hrn.1) (isPs_next hps ha (by omega) hp hf0 hmn) (by have := cntU_or hp (g 0).toNat; rw [if_pos (by omega)] at this; omega) (okL_st hok ha) (hwl.1) (hwl.2) (hrn.2.symm.trans hinv) (by omega) _ _ hP hD hS ls (lv_sub hl [3, 4, 5, 6, 1, 0] rfl)
                          · skip
                            have hno : ∀ i : Nat, (i : Int) < g 0 → (ps / 2 ^ i) % 2 = 0 → g 9 < sp_fs g i x y := by rcases hspec with ⟨_, h⟩ | ⟨a, h, _⟩; (intro i hi hp; have := h i (by omega) (by omega) hp; omega); (omega)
                            rw [hQ]
                            exact ze_Wv hx hb hr hlk dX1_lookFrom_144 (lk1, cnt1, tk2, fr1) (by rw [← hinv, run_none hv hps rfl hKn hno]; exact hL) hP hK hD hS
                  exact LP104 ((g 0).toNat + 1) 0 (2 ^ wo.toNat) 0 ([]) lk 0 tk1 (by omega) (by omega) (hps0) (by have := cntU_le (2 ^ wo.toNat) (g 0).toNat; omega) (okL_nil hv) (⟨rfl, fun j h => absurd h (Nat.not_lt_zero j)⟩) (fun q hq4 => by rw [hz q (by omega)]; rfl) (rfl) (by omega) _ _ hP hD hS ls (lv_sub hl [2, 3, 4, 5, 1, 0] rfl)
                · skip
                  refine lv_iconst (v := iI 0) hx hb dX1_lookFrom_92 rfl ?_
                  refine lv_goto (tgt := 99) hx hb dX1_lookFrom_93 (by decide) ?_
                  have hps0 : isPs g x y wo 0 0 := isPs_0 hv h1 h2 (by omega)
                  refine lv_istore (lv' := [(4, .int (iI 0)), (0, .ref ea), (1, .int (iI x)), (2, .int (iI y)), (3, .int (iI wo))]) hx hb dX1_lookFrom_99 hl (by decide) rfl (fun ls hl => ?_)
                  refine lv_iconst (v := iI 0) hx hb dX1_lookFrom_101 rfl ?_
                  refine lv_istore (lv' := [(5, .int (iI 0)), (4, .int (iI 0)), (0, .ref ea), (1, .int (iI x)), (2, .int (iI y)), (3, .int (iI wo))]) hx hb dX1_lookFrom_102 hl (by decide) rfl (fun ls hl => ?_)
                  have LP104 : ∀ (n : Nat), ∀ (t : Nat) (ps : Nat) (K : Nat) (L : List Nat) (lk1 : Nat → Int) (cnt1 : Int) (tk2 : Nat → Int), ((t : Int) ≤ g 0) → (K ≤ (16 * ((g 9).toNat + 1))) → (isPs g x y wo ps K) → (cntU ps (g 0).toNat + t ≤ (g 0).toNat) → (okL g L) → (isL L lk1 cnt1) → (isQ g x y L tk2) → (sp_run g x y wo ((16 * ((g 9).toNat + 1)) - K) K L = sp_lk g x y wo) → ((g 0).toNat < t + n) → ∀ (H : Heap) (locs : List Loc), va_P D vwCl [(ea, .inr (1, [.ref ga, .ref elk, .int (iI cnt1), .int (iI snd), .ref ept, .ref efr, .ref etk, .ref ebt, .ref etp, .int (iI wp), .ref etb, .ref ewn, .int (iI pl), .long (lI wh)])), (elk, .inl (cI, 4, .inl (aI lk1))), (ept, .inl (cL, 4, .inr (.inl (aL pt)))), (efr, .inl (cI, 10, .inl (aI fr1))), (etk, .inl (cI, 4, .inl (aI tk2))), (ebt, .inl (cI, 16, .inl (aI bt))), (etp, .inl (cI, 4, .inl (aI tps))), (etb, .inl (cL, 9, .inr (.inl (aL tbl)))), (ewn, .inl (cL, 3, .inr (.inl (aL wn)))), (ga, .inr (2, [.int (iI (g 0)), .ref gx, .ref gy, .ref gz, .int (iI (g 1)), .int (iI (g 2)), .int (iI (g 3)), .int (iI (g 4)), .int (iI (g 5)), .int (iI (g 6)), .int (iI (g 7)), .int (iI (g 8)), .int (iI (g 9))])), (gx, .inl (cI, 10, .inl (aI (fun j => g (10 + 3 * j))))), (gy, .inl (cI, 10, .inl (aI (fun j => g (11 + 3 * j))))), (gz, .inl (cI, 10, .inl (aI (fun j => g (12 + 3 * j)))))] H → va_D A [(ea, .inr (1, [.ref ga, .ref elk, .int (iI cnt1), .int (iI snd), .ref ept, .ref efr, .ref etk, .ref ebt, .ref etp, .int (iI wp), .ref etb, .ref ewn, .int (iI pl), .long (lI wh)])), (elk, .inl (cI, 4, .inl (aI lk1))), (ept, .inl (cL, 4, .inr (.inl (aL pt)))), (efr, .inl (cI, 10, .inl (aI fr1))), (etk, .inl (cI, 4, .inl (aI tk2))), (ebt, .inl (cI, 16, .inl (aI bt))), (etp, .inl (cI, 4, .inl (aI tps))), (etb, .inl (cL, 9, .inr (.inl (aL tbl)))), (ewn, .inl (cL, 3, .inr (.inl (aL wn)))), (ga, .inr (2, [.int (iI (g 0)), .ref gx, .ref gy, .ref gz, .int (iI (g 1)), .int (iI (g 2)), .int (iI (g 3)), .int (iI (g 4)), .int (iI (g 5)), .int (iI (g 6)), .int (iI (g 7)), .int (iI (g 8)), .int (iI (g 9))])), (gx, .inl (cI, 10, .inl (aI (fun j => g (10 + 3 * j))))), (gy, .inl (cI, 10, .inl (aI (fun j => g (11 + 3 * j))))), (gz, .inl (cI, 10, .inl (aI (fun j => g (12 + 3 * j)))))] → va_S A s.heap H locs → ∀ (ls : Array Slot), lv_has ls 7 [(0, .ref ea), (1, .int (iI x)), (2, .int (iI y)), (3, .int (iI wo)), (4, .int (iI (ps : Int))), (5, .int (iI (t : Int)))] → W p l e (rmF 2 48) s m args below meth c H locs 0 0 Q (F0 m 104 ls []) := by
                    intro n
                    induction n with
                    | zero =>
                      intro t ps K L lk1 cnt1 tk2 ht hKn hps hcu hok hL hq hinv hfu
                      exfalso
                      omega
                    | succ n ih104 =>
                      intro t ps K L lk1 cnt1 tk2 ht hKn hps hcu hok hL hq hinv hfu H locs hP hD hS ls hl
                      have hps1 := hps.1
                      have hl1 := hL.1
                      have h4 := okL_le hv hok
                      refine lv_iload hx hb dX1_lookFrom_104 (lv_at hl 5 rfl) ?_
                      refine lv_aload_n hx hb dX1_lookFrom_106 rfl (lv_at hl 0 rfl) ?_
                      refine va_get (D := D) (ci := 1) (v := .ref ga) (C := RX1) (T := TX1) (N := 14) hx hb hU inlX1 hown hK hP 0 rfl rfl 0 (by decide) (hU _ kf_RX1_37) (fun _ h9 => h9) rfl dX1_lookFrom_107 ?_
                      refine va_get (D := D) (ci := 2) (v := .int (iI (g 0))) (C := RX2) (T := TX2) (N := 13) hx hb hU inlX2 hown hK hP 9 rfl rfl 0 (by decide) (hU _ kf_RX1_83) (fun _ h9 => h9) rfl dX1_lookFrom_110 ?_
                      refine zr_icmp_ge (tgt := 177) hx hb dX1_lookFrom_113 (by decide) (by omega) (by omega) (fun c_11 => ?_) (fun c_11 => ?_)
                      · skip
                        rw [hQ]
                        exact ze_Wv hx hb hr hlk dX1_lookFrom_177 (lk1, cnt1, tk2, fr1) (by rw [← hinv, run_none hv hps rfl hKn (fun i hi hp => by have := cntU_0 (ps := ps) (g 0).toNat (by omega) i (by omega); omega)]; exact hL) hP hK hD hS
                      · skip
                        refine lv_aload_n hx hb dX1_lookFrom_116 rfl (lv_at hl 0 rfl) ?_
                        refine va_get (D := D) (ci := 1) (v := .int (iI cnt1)) (C := RX1) (T := TX1) (N := 14) hx hb hU inlX1 hown hK hP 0 rfl rfl 2 (by decide) (hU _ kf_RX1_49) (fun _ h9 => h9) rfl dX1_lookFrom_117 ?_
                        refine lv_aload_n hx hb dX1_lookFrom_120 rfl (lv_at hl 0 rfl) ?_
                        refine va_get (D := D) (ci := 1) (v := .ref ga) (C := RX1) (T := TX1) (N := 14) hx hb hU inlX1 hown hK hP 0 rfl rfl 0 (by decide) (hU _ kf_RX1_37) (fun _ h9 => h9) rfl dX1_lookFrom_121 ?_
                        refine va_get (D := D) (ci := 2) (v := .int (iI (g 7))) (C := RX2) (T := TX2) (N := 13) hx hb hU inlX2 hown hK hP 9 rfl rfl 10 (by decide) (hU _ kf_RX1_98) (fun _ h9 => h9) rfl dX1_lookFrom_124 ?_
                        refine zr_icmp_ge (tgt := 177) hx hb dX1_lookFrom_127 (by decide) (by omega) (by omega) (fun c_12 => ?_) (fun c_12 => ?_)
                        · skip
                          rw [hQ]
                          exact ze_Wv hx hb hr hlk dX1_lookFrom_177 (lk1, cnt1, tk2, fr1) (by rw [← hinv, sp_run_full (by omega)]; exact hL) hP hK hD hS
                        · skip
                          refine lv_aload_n hx hb dX1_lookFrom_130 rfl (lv_at hl 0 rfl) ?_
                          refine lv_iload hx hb dX1_lookFrom_131 (lv_at hl 4 rfl) ?_
                          refine zc_Vi (As := [.int (iI (ps : Int))]) (rest := []) (c_X1_nearestBut l D cI cL cG cM ea elk ept efr etk ebt etp etb ewn ga gx gy gz lk1 cnt1 snd pt fr1 tk2 bt tps wp tbl wn pl wh g ps (hv) (by omega) (hfr)) hx hb hml hown hU hl.1 ct_yX1_nearestBut cv_yX1_nearestBut km_RX1_101 hK hNst hP 1 0 rfl rfl rfl ⟨rfl, rfl⟩ ⟨Nat.le_of_ble_eq_true rfl, Nat.le_of_ble_eq_true rfl⟩ rfl rfl (Nat.le_of_ble_eq_true rfl) dX1_lookFrom_133 ⟨Nat.le_of_ble_eq_true rfl, Nat.le_of_ble_eq_true rfl⟩ ?_
                          refine zr_rw (v := (sp_nb (fun j => sp_fs g j x y) ps (g 0).toNat 0 (-1) (g 9 + 1))) (sp_nb_congr ps _ _ _ _ (fun j _ hj => hfs j (by omega))) ?_
                          refine zr_topi (fun zn hzn => ?_)
                          refine lv_istore (lv' := [(6, .int (iI zn)), (0, .ref ea), (1, .int (iI x)), (2, .int (iI y)), (3, .int (iI wo)), (4, .int (iI (ps : Int))), (5, .int (iI (t : Int)))]) hx hb dX1_lookFrom_136 hl (by decide) rfl (fun ls hl => ?_)
                          have hspec := sp_nb_spec (fun j => sp_fs g j x y) ps (g 0).toNat 0 (-1) (g 9 + 1)
                          have hzr := sp_nb_rg (f := fun j => sp_fs g j x y) (ps := ps) (n := (g 0).toNat) (i := 0) (nr := -1) (lt := g 9 + 1) (by omega) (by omega)
                          rw [← hzn] at hspec hzr
                          refine lv_iload hx hb dX1_lookFrom_138 (lv_at hl 0 rfl) ?_
                          refine lv_iconst (v := iI (-1)) hx hb dX1_lookFrom_140 rfl ?_
                          refine zr_icmp_ne (tgt := 145) hx hb dX1_lookFrom_141 (by decide) (by omega) (by omega) (fun c141 => ?_) (fun c141 => ?_)
                          · skip
                            obtain ⟨a, hza, -, ha2, hp, hfa, hmn0⟩ := hspec.resolve_left (fun h => c141 h.1)
                            clear hspec
                            have ha : (a : Int) < g 0 := by omega
                            have hmn : ∀ j : Nat, (j : Int) < g 0 → (ps / 2 ^ j) % 2 = 0 → sp_fs g a x y < sp_fs g j x y ∨ (sp_fs g a x y = sp_fs g j x y ∧ a ≤ j) := fun j hj hq => hmn0 j (by omega) (by omega) hq
                            have hf0 := (sp_fs_rg hv ha h1 h2).1
                            have hrn := run_next hv hps rfl hKn ha hp (by omega) hf0 hmn (L := L)
                            refine lv_iload hx hb dX1_lookFrom_145 (lv_at hl 5 rfl) ?_
                            refine lv_iconst (v := iI 1) hx hb dX1_lookFrom_147 rfl ?_
                            refine lv_iload hx hb dX1_lookFrom_148 (lv_at hl 0 rfl) ?_
                            refine zr_rw (v := (a : Int)) (hza) ?_
                            refine lv_ishl hx hb dX1_lookFrom_150 ?_
                            refine zr_bti (z := (((2 ^ a) : Nat) : Int)) (bt_shl _ (by omega)) ?_
                            refine lv_ior hx hb dX1_lookFrom_151 ?_
                            refine zr_bti (z := (((ps ||| 2 ^ a) : Nat) : Int)) (bt_or _ _) ?_
                            refine lv_istore (lv' := [(4, .int (iI (((ps ||| 2 ^ a) : Nat) : Int))), (6, .int (iI zn)), (0, .ref ea), (1, .int (iI x)), (2, .int (iI y)), (3, .int (iI wo)), (5, .int (iI (t : Int)))]) hx hb dX1_lookFrom_152 hl (by decide) rfl (fun ls hl => ?_)
                            refine lv_aload_n hx hb dX1_lookFrom_154 rfl (lv_at hl 2 rfl) ?_
                            refine lv_iload hx hb dX1_lookFrom_155 (lv_at hl 1 rfl) ?_
                            refine zr_rw (v := (a : Int)) (hza) ?_
                            refine lv_aload_n hx hb dX1_lookFrom_157 rfl (lv_at hl 2 rfl) ?_
                            refine va_get (D := D) (ci := 1) (v := .ref ga) (C := RX1) (T := TX1) (N := 14) hx hb hU inlX1 hown hK hP 0 rfl rfl 0 (by decide) (hU _ kf_RX1_37) (fun _ h9 => h9) rfl dX1_lookFrom_158 ?_
                            refine lv_iload hx hb dX1_lookFrom_161 (lv_at hl 1 rfl) ?_
                            refine zr_rw (v := (a : Int)) (hza) ?_
                            refine lv_iload_n hx hb dX1_lookFrom_163 rfl (lv_at hl 3 rfl) ?_
                            refine lv_iload_n hx hb dX1_lookFrom_164 rfl (lv_at hl 4 rfl) ?_
                            have hPc_13 := hP.sub (ws' := [(ga, .inr (2, [.int (iI (g 0)), .ref gx, .ref gy, .ref gz, .int (iI (g 1)), .int (iI (g 2)), .int (iI (g 3)), .int (iI (g 4)), .int (iI (g 5)), .int (iI (g 6)), .int (iI (g 7)), .int (iI (g 8)), .int (iI (g 9))])), (gx, .inl (cI, 10, .inl (aI (fun j => g (10 + 3 * j))))), (gy, .inl (cI, 10, .inl (aI (fun j => g (11 + 3 * j))))), (gz, .inl (cI, 10, .inl (aI (fun j => g (12 + 3 * j)))))]) [9, 10, 11, 12] rfl
                            refine zc_Vi (As := [.int (iI (a : Int)), .int (iI x), .int (iI y)]) (rest := [.int (iI (a : Int)), .ref ea]) (c_X2_quarterOf l D cI cL cG cM ga gx gy gz g a x y (hv) (by omega) (by omega) (by omega)) hx hb hml hown hU hl.1 ct_yX2_quarterOf cv_yX2_quarterOf km_RX1_105 hK hNst hPc_13 2 0 rfl rfl rfl ⟨rfl, rfl⟩ ⟨Nat.le_of_ble_eq_true rfl, Nat.le_of_ble_eq_true rfl⟩ rfl rfl (Nat.le_of_ble_eq_true rfl) dX1_lookFrom_165 ⟨Nat.le_of_ble_eq_true rfl, Nat.le_of_ble_eq_true rfl⟩ ?_
                            refine zc_Wv (As := [.int (iI (a : Int)), .int (iI (sp_qr g a x y))]) (rest := []) (wr := []) (wc := [(ea, .inr (1, [.ref ga, .ref elk, .int (iI cnt1), .int (iI snd), .ref ept, .ref efr, .ref etk, .ref ebt, .ref etp, .int (iI wp), .ref etb, .ref ewn, .int (iI pl), .long (lI wh)])), (elk, .inl (cI, 4, .inl (aI lk1))), (ept, .inl (cL, 4, .inr (.inl (aL pt)))), (efr, .inl (cI, 10, .inl (aI fr1))), (etk, .inl (cI, 4, .inl (aI tk2))), (ebt, .inl (cI, 16, .inl (aI bt))), (etp, .inl (cI, 4, .inl (aI tps))), (etb, .inl (cL, 9, .inr (.inl (aL tbl)))), (ewn, .inl (cL, 3, .inr (.inl (aL wn)))), (ga, .inr (2, [.int (iI (g 0)), .ref gx, .ref gy, .ref gz, .int (iI (g 1)), .int (iI (g 2)), .int (iI (g 3)), .int (iI (g 4)), .int (iI (g 5)), .int (iI (g 6)), .int (iI (g 7)), .int (iI (g 8)), .int (iI (g 9))])), (gx, .inl (cI, 10, .inl (aI (fun j => g (10 + 3 * j))))), (gy, .inl (cI, 10, .inl (aI (fun j => g (11 + 3 * j))))), (gz, .inl (cI, 10, .inl (aI (fun j => g (12 + 3 * j)))))]) (c_X1_lookAt l D cI cL cG cM ea elk ept efr etk ebt etp etb ewn ga gx gy gz lk1 cnt1 snd pt fr1 tk2 bt tps wp tbl wn pl wh g a (sp_qr g a x y) x y L (hv) (ha) (rfl) (hok) (hL) (hq) (by omega) _) hx hb hml hown hU hl.1 ct_yX1_lookAt cv_yX1_lookAt km_RX1_109 hK hNst hP hD hS hA [0, 1, 2, 3, 4, 5, 6, 7, 8, 9, 10, 11, 12] [] rfl rfl (by decide) (by decide) (by decide) 1 0 rfl rfl rfl ⟨rfl, rfl⟩ ⟨Nat.le_of_ble_eq_true rfl, Nat.le_of_ble_eq_true rfl⟩ rfl rfl (Nat.le_of_ble_eq_true rfl) dX1_lookFrom_168 ⟨Nat.le_of_ble_eq_true rfl, Nat.le_of_ble_eq_true rfl⟩ (fun u H locs hwl hP hD hS _ => ?_)
                            obtain ⟨lk_15, cnt_16, tk_17⟩ := u
                            have hwl : isL (sp_st g x y L a) lk_15 cnt_16 ∧ isQ g x y (sp_st g x y L a) tk_17 := hwl
                            have hP : va_P D vwCl [(ea, .inr (1, [.ref ga, .ref elk, .int (iI cnt_16), .int (iI snd), .ref ept, .ref efr, .ref etk, .ref ebt, .ref etp, .int (iI wp), .ref etb, .ref ewn, .int (iI pl), .long (lI wh)])), (elk, .inl (cI, 4, .inl (aI lk_15))), (ept, .inl (cL, 4, .inr (.inl (aL pt)))), (efr, .inl (cI, 10, .inl (aI fr1))), (etk, .inl (cI, 4, .inl (aI tk_17))), (ebt, .inl (cI, 16, .inl (aI bt))), (etp, .inl (cI, 4, .inl (aI tps))), (etb, .inl (cL, 9, .inr (.inl (aL tbl)))), (ewn, .inl (cL, 3, .inr (.inl (aL wn)))), (ga, .inr (2, [.int (iI (g 0)), .ref gx, .ref gy, .ref gz, .int (iI (g 1)), .int (iI (g 2)), .int (iI (g 3)), .int (iI (g 4)), .int (iI (g 5)), .int (iI (g 6)), .int (iI (g 7)), .int (iI (g 8)), .int (iI (g 9))])), (gx, .inl (cI, 10, .inl (aI (fun j => g (10 + 3 * j))))), (gy, .inl (cI, 10, .inl (aI (fun j => g (11 + 3 * j))))), (gz, .inl (cI, 10, .inl (aI (fun j => g (12 + 3 * j)))))] H := hP
                            have hD : va_D A [(ea, .inr (1, [.ref ga, .ref elk, .int (iI cnt_16), .int (iI snd), .ref ept, .ref efr, .ref etk, .ref ebt, .ref etp, .int (iI wp), .ref etb, .ref ewn, .int (iI pl), .long (lI wh)])), (elk, .inl (cI, 4, .inl (aI lk_15))), (ept, .inl (cL, 4, .inr (.inl (aL pt)))), (efr, .inl (cI, 10, .inl (aI fr1))), (etk, .inl (cI, 4, .inl (aI tk_17))), (ebt, .inl (cI, 16, .inl (aI bt))), (etp, .inl (cI, 4, .inl (aI tps))), (etb, .inl (cL, 9, .inr (.inl (aL tbl)))), (ewn, .inl (cL, 3, .inr (.inl (aL wn)))), (ga, .inr (2, [.int (iI (g 0)), .ref gx, .ref gy, .ref gz, .int (iI (g 1)), .int (iI (g 2)), .int (iI (g 3)), .int (iI (g 4)), .int (iI (g 5)), .int (iI (g 6)), .int (iI (g 7)), .int (iI (g 8)), .int (iI (g 9))])), (gx, .inl (cI, 10, .inl (aI (fun j => g (10 + 3 * j))))), (gy, .inl (cI, 10, .inl (aI (fun j => g (11 + 3 * j))))), (gz, .inl (cI, 10, .inl (aI (fun j => g (12 + 3 * j)))))] := hD
                            refine lv_iinc (v := iI ((t : Int) + 1)) (lv' := [(5, .int (iI ((t : Int) + 1))), (4, .int (iI (((ps ||| 2 ^ a) : Nat) : Int))), (6, .int (iI zn)), (0, .ref ea), (1, .int (iI x)), (2, .int (iI y)), (3, .int (iI wo))]) hx hb dX1_lookFrom_171 hl (k := 6) rfl (iI_add _ _) (by decide) rfl (fun ls hl => ?_)
                            refine lv_goto (tgt := 104) hx hb dX1_lookFrom_174 (by decide) ?_
                            exact ih104 (t + 1) (ps ||| 2 ^ a) (16 * (sp_fs g a x y).toNat + a + 1) (sp_st g x y L a) lk_15 cnt_16 tk_17 (by omega) (hrn.1) (isPs_next hps ha (by omega) hp hf0 hmn) (by have := cntU_or hp (g 0).toNat; rw [if_pos (by omega)] at this; omega) (okL_st hok ha) (hwl.1) (hwl.2) (hrn.2.symm.trans hinv) (by omega) _ _ hP hD hS ls (lv_sub hl [3, 4, 5, 6, 1, 0] rfl)
                          · skip
                            have hno : ∀ i : Nat, (i : Int) < g 0 → (ps / 2 ^ i) % 2 = 0 → g 9 < sp_fs g i x y := by rcases hspec with ⟨_, h⟩ | ⟨a, h, _⟩; (intro i hi hp; have := h i (by omega) (by omega) hp; omega); (omega)
                            rw [hQ]
                            exact ze_Wv hx hb hr hlk dX1_lookFrom_144 (lk1, cnt1, tk2, fr1) (by rw [← hinv, run_none hv hps rfl hKn hno]; exact hL) hP hK hD hS
                  exact LP104 ((g 0).toNat + 1) 0 0 0 ([]) lk 0 tk1 (by omega) (by omega) (hps0) (by have := cntU_le 0 (g 0).toNat; omega) (okL_nil hv) (⟨rfl, fun j h => absurd h (Nat.not_lt_zero j)⟩) (fun q hq4 => by rw [hz q (by omega)]; rfl) (rfl) (by omega) _ _ hP hD hS ls (lv_sub hl [2, 3, 4, 5, 1, 0] rfl)
              · skip
                have q1 := hv.2.2.2.2.2.2.2.2.2.2 i (by omega)
                refine lv_aload_n hx hb dX1_lookFrom_43 rfl (lv_at hl 0 rfl) ?_
                refine va_get (D := D) (ci := 1) (v := .ref efr) (C := RX1) (T := TX1) (N := 14) hx hb hU inlX1 hown hK hP 0 rfl rfl 5 (by decide) (hU _ kf_RX1_19) (fun _ h9 => h9) rfl dX1_lookFrom_44 ?_
                refine lv_iload hx hb dX1_lookFrom_47 (lv_at hl 4 rfl) ?_
                refine lv_aload_n hx hb dX1_lookFrom_49 rfl (lv_at hl 0 rfl) ?_
                refine va_get (D := D) (ci := 1) (v := .ref ga) (C := RX1) (T := TX1) (N := 14) hx hb hU inlX1 hown hK hP 0 rfl rfl 0 (by decide) (hU _ kf_RX1_37) (fun _ h9 => h9) rfl dX1_lookFrom_50 ?_
                refine lv_aload_n hx hb dX1_lookFrom_53 rfl (lv_at hl 0 rfl) ?_
                refine va_get (D := D) (ci := 1) (v := .ref ga) (C := RX1) (T := TX1) (N := 14) hx hb hU inlX1 hown hK hP 0 rfl rfl 0 (by decide) (hU _ kf_RX1_37) (fun _ h9 => h9) rfl dX1_lookFrom_54 ?_
                refine va_get (D := D) (ci := 2) (v := .ref gx) (C := RX2) (T := TX2) (N := 13) hx hb hU inlX2 hown hK hP 9 rfl rfl 1 (by decide) (hU _ kf_RX1_88) (fun _ h9 => h9) rfl dX1_lookFrom_57 ?_
                refine lv_iload hx hb dX1_lookFrom_60 (lv_at hl 4 rfl) ?_
                refine zr_iald hx hb hK hP 10 0 rfl rfl i (by omega) (by omega) (Nat.le_of_ble_eq_true rfl) dX1_lookFrom_62 ?_
                refine zr_rw (v := (g (10 + 3 * i))) rfl ?_
                refine lv_iload_n hx hb dX1_lookFrom_63 rfl (lv_at hl 1 rfl) ?_
                refine zr_isub hx hb dX1_lookFrom_64 ?_
                refine lv_aload_n hx hb dX1_lookFrom_65 rfl (lv_at hl 0 rfl) ?_
                refine va_get (D := D) (ci := 1) (v := .ref ga) (C := RX1) (T := TX1) (N := 14) hx hb hU inlX1 hown hK hP 0 rfl rfl 0 (by decide) (hU _ kf_RX1_37) (fun _ h9 => h9) rfl dX1_lookFrom_66 ?_
                refine va_get (D := D) (ci := 2) (v := .ref gy) (C := RX2) (T := TX2) (N := 13) hx hb hU inlX2 hown hK hP 9 rfl rfl 2 (by decide) (hU _ kf_RX1_91) (fun _ h9 => h9) rfl dX1_lookFrom_69 ?_
                refine lv_iload hx hb dX1_lookFrom_72 (lv_at hl 4 rfl) ?_
                refine zr_iald hx hb hK hP 11 0 rfl rfl i (by omega) (by omega) (Nat.le_of_ble_eq_true rfl) dX1_lookFrom_74 ?_
                refine zr_rw (v := (g (11 + 3 * i))) rfl ?_
                refine lv_iload_n hx hb dX1_lookFrom_75 rfl (lv_at hl 2 rfl) ?_
                refine zr_isub hx hb dX1_lookFrom_76 ?_
                have hPc_18 := hP.sub (ws' := [(ga, .inr (2, [.int (iI (g 0)), .ref gx, .ref gy, .ref gz, .int (iI (g 1)), .int (iI (g 2)), .int (iI (g 3)), .int (iI (g 4)), .int (iI (g 5)), .int (iI (g 6)), .int (iI (g 7)), .int (iI (g 8)), .int (iI (g 9))])), (gx, .inl (cI, 10, .inl (aI (fun j => g (10 + 3 * j))))), (gy, .inl (cI, 10, .inl (aI (fun j => g (11 + 3 * j))))), (gz, .inl (cI, 10, .inl (aI (fun j => g (12 + 3 * j)))))]) [9, 10, 11, 12] rfl
                refine zc_Vi (As := [.int (iI ((g (10 + 3 * i)) - x)), .int (iI ((g (11 + 3 * i)) - y))]) (rest := [.int (iI (i : Int)), .ref efr]) (c_X2_far l D cI cL cG cM ga gx gy gz g ((g (10 + 3 * i)) - x) ((g (11 + 3 * i)) - y) (hv) (by omega) (by omega)) hx hb hml hown hU hl.1 ct_yX2_far cv_yX2_far km_RX1_94 hK hNst hPc_18 2 0 rfl rfl rfl ⟨rfl, rfl⟩ ⟨Nat.le_of_ble_eq_true rfl, Nat.le_of_ble_eq_true rfl⟩ rfl rfl (Nat.le_of_ble_eq_true rfl) dX1_lookFrom_77 ⟨Nat.le_of_ble_eq_true rfl, Nat.le_of_ble_eq_true rfl⟩ ?_
                refine zr_iast hx hb hK hP hD hS 3 0 rfl rfl i (by omega) (by omega) (Nat.le_of_ble_eq_true rfl) dX1_lookFrom_80 (fun H locs hP hD hS => ?_)
                have hP : va_P D vwCl [(ea, .inr (1, [.ref ga, .ref elk, .int (iI 0), .int (iI snd), .ref ept, .ref efr, .ref etk, .ref ebt, .ref etp, .int (iI wp), .ref etb, .ref ewn, .int (iI pl), .long (lI wh)])), (elk, .inl (cI, 4, .inl (aI lk))), (ept, .inl (cL, 4, .inr (.inl (aL pt)))), (efr, .inl (cI, 10, .inl (aI (va_up fr1 i (sp_fr (g 1) ((g (10 + 3 * i)) - x) ((g (11 + 3 * i)) - y)))))), (etk, .inl (cI, 4, .inl (aI tk1))), (ebt, .inl (cI, 16, .inl (aI bt))), (etp, .inl (cI, 4, .inl (aI tps))), (etb, .inl (cL, 9, .inr (.inl (aL tbl)))), (ewn, .inl (cL, 3, .inr (.inl (aL wn)))), (ga, .inr (2, [.int (iI (g 0)), .ref gx, .ref gy, .ref gz, .int (iI (g 1)), .int (iI (g 2)), .int (iI (g 3)), .int (iI (g 4)), .int (iI (g 5)), .int (iI (g 6)), .int (iI (g 7)), .int (iI (g 8)), .int (iI (g 9))])), (gx, .inl (cI, 10, .inl (aI (fun j => g (10 + 3 * j))))), (gy, .inl (cI, 10, .inl (aI (fun j => g (11 + 3 * j))))), (gz, .inl (cI, 10, .inl (aI (fun j => g (12 + 3 * j)))))] H := hP
                have hD : va_D A [(ea, .inr (1, [.ref ga, .ref elk, .int (iI 0), .int (iI snd), .ref ept, .ref efr, .ref etk, .ref ebt, .ref etp, .int (iI wp), .ref etb, .ref ewn, .int (iI pl), .long (lI wh)])), (elk, .inl (cI, 4, .inl (aI lk))), (ept, .inl (cL, 4, .inr (.inl (aL pt)))), (efr, .inl (cI, 10, .inl (aI (va_up fr1 i (sp_fr (g 1) ((g (10 + 3 * i)) - x) ((g (11 + 3 * i)) - y)))))), (etk, .inl (cI, 4, .inl (aI tk1))), (ebt, .inl (cI, 16, .inl (aI bt))), (etp, .inl (cI, 4, .inl (aI tps))), (etb, .inl (cL, 9, .inr (.inl (aL tbl)))), (ewn, .inl (cL, 3, .inr (.inl (aL wn)))), (ga, .inr (2, [.int (iI (g 0)), .ref gx, .ref gy, .ref gz, .int (iI (g 1)), .int (iI (g 2)), .int (iI (g 3)), .int (iI (g 4)), .int (iI (g 5)), .int (iI (g 6)), .int (iI (g 7)), .int (iI (g 8)), .int (iI (g 9))])), (gx, .inl (cI, 10, .inl (aI (fun j => g (10 + 3 * j))))), (gy, .inl (cI, 10, .inl (aI (fun j => g (11 + 3 * j))))), (gz, .inl (cI, 10, .inl (aI (fun j => g (12 + 3 * j)))))] := hD
                refine lv_iinc (v := iI ((i : Int) + 1)) (lv' := [(4, .int (iI ((i : Int) + 1))), (0, .ref ea), (1, .int (iI x)), (2, .int (iI y)), (3, .int (iI wo))]) hx hb dX1_lookFrom_81 hl (k := 4) rfl (iI_add _ _) (by decide) rfl (fun ls hl => ?_)
                refine lv_goto (tgt := 31) hx hb dX1_lookFrom_84 (by decide) ?_
                exact ih31 (i + 1) (va_up fr1 i (sp_fr (g 1) ((g (10 + 3 * i)) - x) ((g (11 + 3 * i)) - y))) (by omega) (fun j h => by rcases Nat.lt_or_ge j i with e | e; (rw [va_up_ne _ _ (by omega)]; exact hf j e); (rw [show j = i by omega, va_up_self]; rfl)) (by omega) _ _ hP hD hS ls (lv_sub hl [1, 2, 3, 4, 0] rfl)
          exact LP31 ((g 0).toNat + 1) 0 fr (by omega) (fun j h => absurd h (Nat.not_lt_zero j)) (by omega) _ _ hP hD hS ls (lv_sub hl [1, 2, 3, 4, 0] rfl)
        · skip
          refine lv_aload_n hx hb dX1_lookFrom_14 rfl (lv_at hl 0 rfl) ?_
          refine va_get (D := D) (ci := 1) (v := .ref etk) (C := RX1) (T := TX1) (N := 14) hx hb hU inlX1 hown hK hP 0 rfl rfl 6 (by decide) (hU _ kf_RX1_22) (fun _ h9 => h9) rfl dX1_lookFrom_15 ?_
          refine lv_iload hx hb dX1_lookFrom_18 (lv_at hl 4 rfl) ?_
          refine lv_iconst (v := iI 0) hx hb dX1_lookFrom_20 rfl ?_
          refine zr_iast hx hb hK hP hD hS 4 0 rfl rfl q (by omega) (by omega) (Nat.le_of_ble_eq_true rfl) dX1_lookFrom_21 (fun H locs hP hD hS => ?_)
          have hP : va_P D vwCl [(ea, .inr (1, [.ref ga, .ref elk, .int (iI 0), .int (iI snd), .ref ept, .ref efr, .ref etk, .ref ebt, .ref etp, .int (iI wp), .ref etb, .ref ewn, .int (iI pl), .long (lI wh)])), (elk, .inl (cI, 4, .inl (aI lk))), (ept, .inl (cL, 4, .inr (.inl (aL pt)))), (efr, .inl (cI, 10, .inl (aI fr))), (etk, .inl (cI, 4, .inl (aI (va_up tk1 q 0)))), (ebt, .inl (cI, 16, .inl (aI bt))), (etp, .inl (cI, 4, .inl (aI tps))), (etb, .inl (cL, 9, .inr (.inl (aL tbl)))), (ewn, .inl (cL, 3, .inr (.inl (aL wn)))), (ga, .inr (2, [.int (iI (g 0)), .ref gx, .ref gy, .ref gz, .int (iI (g 1)), .int (iI (g 2)), .int (iI (g 3)), .int (iI (g 4)), .int (iI (g 5)), .int (iI (g 6)), .int (iI (g 7)), .int (iI (g 8)), .int (iI (g 9))])), (gx, .inl (cI, 10, .inl (aI (fun j => g (10 + 3 * j))))), (gy, .inl (cI, 10, .inl (aI (fun j => g (11 + 3 * j))))), (gz, .inl (cI, 10, .inl (aI (fun j => g (12 + 3 * j)))))] H := hP
          have hD : va_D A [(ea, .inr (1, [.ref ga, .ref elk, .int (iI 0), .int (iI snd), .ref ept, .ref efr, .ref etk, .ref ebt, .ref etp, .int (iI wp), .ref etb, .ref ewn, .int (iI pl), .long (lI wh)])), (elk, .inl (cI, 4, .inl (aI lk))), (ept, .inl (cL, 4, .inr (.inl (aL pt)))), (efr, .inl (cI, 10, .inl (aI fr))), (etk, .inl (cI, 4, .inl (aI (va_up tk1 q 0)))), (ebt, .inl (cI, 16, .inl (aI bt))), (etp, .inl (cI, 4, .inl (aI tps))), (etb, .inl (cL, 9, .inr (.inl (aL tbl)))), (ewn, .inl (cL, 3, .inr (.inl (aL wn)))), (ga, .inr (2, [.int (iI (g 0)), .ref gx, .ref gy, .ref gz, .int (iI (g 1)), .int (iI (g 2)), .int (iI (g 3)), .int (iI (g 4)), .int (iI (g 5)), .int (iI (g 6)), .int (iI (g 7)), .int (iI (g 8)), .int (iI (g 9))])), (gx, .inl (cI, 10, .inl (aI (fun j => g (10 + 3 * j))))), (gy, .inl (cI, 10, .inl (aI (fun j => g (11 + 3 * j))))), (gz, .inl (cI, 10, .inl (aI (fun j => g (12 + 3 * j)))))] := hD
          refine lv_iinc (v := iI ((q : Int) + 1)) (lv' := [(4, .int (iI ((q : Int) + 1))), (0, .ref ea), (1, .int (iI x)), (2, .int (iI y)), (3, .int (iI wo))]) hx hb dX1_lookFrom_22 hl (k := 4) rfl (iI_add _ _) (by decide) rfl (fun ls hl => ?_)
          refine lv_goto (tgt := 8) hx hb dX1_lookFrom_25 (by decide) ?_
          exact ih8 (q + 1) (va_up tk1 q 0) (by omega) (fun j h => by rcases Nat.lt_or_ge j q with e | e; (rw [va_up_ne _ _ (by omega)]; exact hz j e); (rw [show j = q by omega]; exact va_up_self _ _ _)) (by omega) _ _ hP hD hS ls (lv_sub hl [1, 2, 3, 4, 0] rfl)
    exact LP8 5 0 tk (by omega) (fun j h => absurd h (Nat.not_lt_zero j)) (by omega) _ _ hP hD hS ls (lv_sub hl [1, 2, 3, 4, 0] rfl)
  rw [hlocs]
  exact hW0 s.heap [] hP hD hS
