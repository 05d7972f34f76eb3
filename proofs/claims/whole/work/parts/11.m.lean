set_option maxHeartbeats 4000000 in
set_option maxRecDepth 100000 in
theorem c_X6_lookAt (l : Launch) (D : va_G) (cI cL cG cM : ClassId) (m0 mw mks mbx mby mbi msn miq mtb mrt mgr mup : Nat) (w : Nat → Int) (kn : Int) (kp : Int) (sd : Int) (ks : Nat → Int) (bkx : Nat → Int) (bky : Nat → Int) (bki : Nat → Int) (bkn : Int) (sn : Nat → Int) (sns : Int) (iq : Nat → Int) (tb : Nat → Int) (rt : Nat → Int) (gr : Nat → Int) (ups : Nat → Int) (bel : Int) (scl : Int) (tp : Int) (bt : Int) (i : Nat) (x : Int) (y : Int) (L : List Nat) (hv : vR w) (hi : (i : Int) < w 0) (h1 : 0 ≤ x ∧ x ≤ 31) (h2 : 0 ≤ y ∧ y ≤ 31) (hok : okL w L) (hL : isL L sn sns) (hq : isQ w x y L iq) (sz : Nat) : Met l yX6_lookAt (wU yX6_lookAt cX6_lookAt 5 none) (rmF 2 45) (pcW D (tyA cI cL cG cM) [(m0, .inr (6, [.ref mw, .int (iI kn), .int (iI kp), .int (iI sd), .ref mks, .ref mbx, .ref mby, .ref mbi, .int (iI bkn), .ref msn, .int (iI sns), .ref miq, .ref mtb, .ref mrt, .ref mgr, .ref mup, .long (lI bel), .long (lI scl), .long (lI tp), .long (lI bt)])), (mw, .inl (cI, 760, .inl (aI w))), (mks, .inl (cI, 2, .inl (aI ks))), (mbx, .inl (cI, 20, .inl (aI bkx))), (mby, .inl (cI, 20, .inl (aI bky))), (mbi, .inl (cI, 20, .inl (aI bki))), (msn, .inl (cI, 4, .inl (aI sn))), (miq, .inl (cI, 4, .inl (aI iq))), (mtb, .inl (cL, 25, .inr (.inl (aL tb)))), (mrt, .inl (cL, 5, .inr (.inl (aL rt)))), (mgr, .inl (cL, 32, .inr (.inl (aL gr)))), (mup, .inl (cL, 5, .inr (.inl (aL ups))))] [.ref m0, .int (iI (i : Int)), .int (iI x), .int (iI y)] sz) (qWv (S := (Nat → Int) × Int × (Nat → Int)) D (tyA cI cL cG cM) (va_A [(m0, .inr (6, [.ref mw, .int (iI kn), .int (iI kp), .int (iI sd), .ref mks, .ref mbx, .ref mby, .ref mbi, .int (iI bkn), .ref msn, .int (iI sns), .ref miq, .ref mtb, .ref mrt, .ref mgr, .ref mup, .long (lI bel), .long (lI scl), .long (lI tp), .long (lI bt)])), (mw, .inl (cI, 760, .inl (aI w))), (mks, .inl (cI, 2, .inl (aI ks))), (mbx, .inl (cI, 20, .inl (aI bkx))), (mby, .inl (cI, 20, .inl (aI bky))), (mbi, .inl (cI, 20, .inl (aI bki))), (msn, .inl (cI, 4, .inl (aI sn))), (miq, .inl (cI, 4, .inl (aI iq))), (mtb, .inl (cL, 25, .inr (.inl (aL tb)))), (mrt, .inl (cL, 5, .inr (.inl (aL rt)))), (mgr, .inl (cL, 32, .inr (.inl (aL gr)))), (mup, .inl (cL, 5, .inr (.inl (aL ups))))] sz) (fun (u : (Nat → Int) × Int × (Nat → Int)) => isL (sp_st w x y L i) u.1 u.2.1 ∧ isQ w x y (sp_st w x y L i) u.2.2) (fun (u : (Nat → Int) × Int × (Nat → Int)) => [(m0, .inr (6, [.ref mw, .int (iI kn), .int (iI kp), .int (iI sd), .ref mks, .ref mbx, .ref mby, .ref mbi, .int (iI bkn), .ref msn, .int (iI u.2.1), .ref miq, .ref mtb, .ref mrt, .ref mgr, .ref mup, .long (lI bel), .long (lI scl), .long (lI tp), .long (lI bt)])), (mw, .inl (cI, 760, .inl (aI w))), (mks, .inl (cI, 2, .inl (aI ks))), (mbx, .inl (cI, 20, .inl (aI bkx))), (mby, .inl (cI, 20, .inl (aI bky))), (mbi, .inl (cI, 20, .inl (aI bki))), (msn, .inl (cI, 4, .inl (aI u.1))), (miq, .inl (cI, 4, .inl (aI u.2.2))), (mtb, .inl (cL, 25, .inr (.inl (aL tb)))), (mrt, .inl (cL, 5, .inr (.inl (aL rt)))), (mgr, .inl (cL, 32, .inr (.inl (aL gr)))), (mup, .inl (cL, 5, .inr (.inl (aL ups))))])) 0 0 (va_A [(m0, .inr (6, [.ref mw, .int (iI kn), .int (iI kp), .int (iI sd), .ref mks, .ref mbx, .ref mby, .ref mbi, .int (iI bkn), .ref msn, .int (iI sns), .ref miq, .ref mtb, .ref mrt, .ref mgr, .ref mup, .long (lI bel), .long (lI scl), .long (lI tp), .long (lI bt)])), (mw, .inl (cI, 760, .inl (aI w))), (mks, .inl (cI, 2, .inl (aI ks))), (mbx, .inl (cI, 20, .inl (aI bkx))), (mby, .inl (cI, 20, .inl (aI bky))), (mbi, .inl (cI, 20, .inl (aI bki))), (msn, .inl (cI, 4, .inl (aI sn))), (miq, .inl (cI, 4, .inl (aI iq))), (mtb, .inl (cL, 25, .inr (.inl (aL tb)))), (mrt, .inl (cL, 5, .inr (.inl (aL rt)))), (mgr, .inl (cL, 32, .inr (.inl (aL gr)))), (mup, .inl (cL, 5, .inr (.inl (aL ups))))] sz) := by
  refine zm_W (own := RX6) (lv := [(0, .ref m0), (1, .int (iI (i : Int))), (2, .int (iI x)), (3, .int (iI y))]) (QF := fun A => qWv (S := (Nat → Int) × Int × (Nat → Int)) D (tyA cI cL cG cM) A (fun (u : (Nat → Int) × Int × (Nat → Int)) => isL (sp_st w x y L i) u.1 u.2.1 ∧ isQ w x y (sp_st w x y L i) u.2.2) (fun (u : (Nat → Int) × Int × (Nat → Int)) => [(m0, .inr (6, [.ref mw, .int (iI kn), .int (iI kp), .int (iI sd), .ref mks, .ref mbx, .ref mby, .ref mbi, .int (iI bkn), .ref msn, .int (iI u.2.1), .ref miq, .ref mtb, .ref mrt, .ref mgr, .ref mup, .long (lI bel), .long (lI scl), .long (lI tp), .long (lI bt)])), (mw, .inl (cI, 760, .inl (aI w))), (mks, .inl (cI, 2, .inl (aI ks))), (mbx, .inl (cI, 20, .inl (aI bkx))), (mby, .inl (cI, 20, .inl (aI bky))), (mbi, .inl (cI, 20, .inl (aI bki))), (msn, .inl (cI, 4, .inl (aI u.1))), (miq, .inl (cI, 4, .inl (aI u.2.2))), (mtb, .inl (cL, 25, .inr (.inl (aL tb)))), (mrt, .inl (cL, 5, .inr (.inl (aL rt)))), (mgr, .inl (cL, 32, .inr (.inl (aL gr)))), (mup, .inl (cL, 5, .inr (.inl (aL ups))))])) (by decide) rfl (Nat.le_of_ble_eq_true rfl) rfl ?_
  intro p e s m below meth c A args Q hx hb hr hml hown hU hlk hnm hP hK hNst hD hA hS hsz hQ ls hl
  obtain ⟨H, hH⟩ : ∃ H, H = s.heap := ⟨_, rfl⟩
  obtain ⟨locs, hlocs⟩ : ∃ locs : List Loc, locs = [] := ⟨_, rfl⟩
  rw [← hlocs]
  have hW0 : ∀ (H : Heap) (locs : List Loc), va_P D vwCl [(m0, .inr (6, [.ref mw, .int (iI kn), .int (iI kp), .int (iI sd), .ref mks, .ref mbx, .ref mby, .ref mbi, .int (iI bkn), .ref msn, .int (iI sns), .ref miq, .ref mtb, .ref mrt, .ref mgr, .ref mup, .long (lI bel), .long (lI scl), .long (lI tp), .long (lI bt)])), (mw, .inl (cI, 760, .inl (aI w))), (mks, .inl (cI, 2, .inl (aI ks))), (mbx, .inl (cI, 20, .inl (aI bkx))), (mby, .inl (cI, 20, .inl (aI bky))), (mbi, .inl (cI, 20, .inl (aI bki))), (msn, .inl (cI, 4, .inl (aI sn))), (miq, .inl (cI, 4, .inl (aI iq))), (mtb, .inl (cL, 25, .inr (.inl (aL tb)))), (mrt, .inl (cL, 5, .inr (.inl (aL rt)))), (mgr, .inl (cL, 32, .inr (.inl (aL gr)))), (mup, .inl (cL, 5, .inr (.inl (aL ups))))] H → va_D A [(m0, .inr (6, [.ref mw, .int (iI kn), .int (iI kp), .int (iI sd), .ref mks, .ref mbx, .ref mby, .ref mbi, .int (iI bkn), .ref msn, .int (iI sns), .ref miq, .ref mtb, .ref mrt, .ref mgr, .ref mup, .long (lI bel), .long (lI scl), .long (lI tp), .long (lI bt)])), (mw, .inl (cI, 760, .inl (aI w))), (mks, .inl (cI, 2, .inl (aI ks))), (mbx, .inl (cI, 20, .inl (aI bkx))), (mby, .inl (cI, 20, .inl (aI bky))), (mbi, .inl (cI, 20, .inl (aI bki))), (msn, .inl (cI, 4, .inl (aI sn))), (miq, .inl (cI, 4, .inl (aI iq))), (mtb, .inl (cL, 25, .inr (.inl (aL tb)))), (mrt, .inl (cL, 5, .inr (.inl (aL rt)))), (mgr, .inl (cL, 32, .inr (.inl (aL gr)))), (mup, .inl (cL, 5, .inr (.inl (aL ups))))] → va_S A s.heap H locs → W p l e (rmF 2 45) s m args below meth c H locs 0 0 Q (F0 m 0 ls []) := by
    clear hP hD hS hH hlocs H locs
    intro H locs hP hD hS
    have h0 := hv.1
    have h7 := hv.2.2.2.2.2.2.2.1
    have h8 := hv.2.2.2.2.2.2.2.2.1
    have h9 := hv.2.2.2.2.2.2.2.2.2.1
    have hqr := sp_qr_rg w i x y
    have hqq : iq (sp_qr w i x y).toNat = sp_cq w x y L (sp_qr w i x y) := by rw [hq _ (by omega), Int.toNat_of_nonneg hqr.1]
    have hcr := sp_cq_rg w x y L (sp_qr w i x y)
    have hle := okL_le hv hok
    have hl1 := hL.1
    refine lv_aload_n hx hb dX6_lookAt_0 rfl (lv_at hl 0 rfl) ?_
    refine lv_iload_n hx hb dX6_lookAt_1 rfl (lv_at hl 1 rfl) ?_
    refine lv_iload_n hx hb dX6_lookAt_2 rfl (lv_at hl 2 rfl) ?_
    refine lv_iload_n hx hb dX6_lookAt_3 rfl (lv_at hl 3 rfl) ?_
    refine zc_Vi (As := [.int (iI (i : Int)), .int (iI x), .int (iI y)]) (rest := []) (c_X6_quarterOf l D cI cL cG cM m0 mw mks mbx mby mbi msn miq mtb mrt mgr mup w kn kp sd ks bkx bky bki bkn sn sns iq tb rt gr ups bel scl tp bt i x y (hv) (by omega) (by omega) (by omega)) hx hb hml hown hU hl.1 ct_yX6_quarterOf cv_yX6_quarterOf km_RX6_61 hK hNst hP 6 0 rfl rfl rfl ⟨rfl, rfl⟩ ⟨Nat.le_of_ble_eq_true rfl, Nat.le_of_ble_eq_true rfl⟩ rfl rfl (Nat.le_of_ble_eq_true rfl) dX6_lookAt_4 ⟨Nat.le_of_ble_eq_true rfl, Nat.le_of_ble_eq_true rfl⟩ ?_
    refine lv_istore (lv' := [(4, .int (iI (sp_qr w i x y))), (0, .ref m0), (1, .int (iI (i : Int))), (2, .int (iI x)), (3, .int (iI y))]) hx hb dX6_lookAt_7 hl (by decide) rfl (fun ls hl => ?_)
    refine lv_aload_n hx hb dX6_lookAt_9 rfl (lv_at hl 1 rfl) ?_
    refine va_get (D := D) (ci := 6) (v := .int (iI sns)) (C := RX6) (T := TX6) (N := 20) hx hb hU inlX6 hown hK hP 0 rfl rfl 10 (by decide) (hU _ kf_RX6_65) (fun _ h9 => h9) rfl dX6_lookAt_10 ?_
    refine lv_aload_n hx hb dX6_lookAt_13 rfl (lv_at hl 1 rfl) ?_
    refine va_get (D := D) (ci := 6) (v := .ref mw) (C := RX6) (T := TX6) (N := 20) hx hb hU inlX6 hown hK hP 0 rfl rfl 0 (by decide) (hU _ kf_RX6_7) (fun _ h9 => h9) rfl dX6_lookAt_14 ?_
    refine lv_bipush (v := iI 7) hx hb dX6_lookAt_17 (by decide) ?_
    refine zr_iald hx hb hK hP 1 0 rfl rfl 7 (by omega) (by omega) (Nat.le_of_ble_eq_true rfl) dX6_lookAt_19 ?_
    refine zr_icmp_ge (tgt := 71) hx hb dX6_lookAt_20 (by decide) (by omega) (by omega) (fun c_1 => ?_) (fun c_1 => ?_)
    · skip
      rw [hQ]
      exact ze_Wv hx hb hr hlk dX6_lookAt_71 (sn, sns, iq) (by have e : sp_st w x y L i = L := if_neg (by have := hL.1; omega); rw [e]; exact ⟨hL, hq⟩) hP hK hD hS
    · skip
      refine lv_aload_n hx hb dX6_lookAt_23 rfl (lv_at hl 1 rfl) ?_
      refine va_get (D := D) (ci := 6) (v := .ref miq) (C := RX6) (T := TX6) (N := 20) hx hb hU inlX6 hown hK hP 0 rfl rfl 11 (by decide) (hU _ kf_RX6_28) (fun _ h9 => h9) rfl dX6_lookAt_24 ?_
      refine lv_iload hx hb dX6_lookAt_27 (lv_at hl 0 rfl) ?_
      refine zr_iald hx hb hK hP 7 0 rfl rfl ((sp_qr w i x y).toNat) (by omega) (by omega) (Nat.le_of_ble_eq_true rfl) dX6_lookAt_29 ?_
      refine lv_aload_n hx hb dX6_lookAt_30 rfl (lv_at hl 1 rfl) ?_
      refine va_get (D := D) (ci := 6) (v := .ref mw) (C := RX6) (T := TX6) (N := 20) hx hb hU inlX6 hown hK hP 0 rfl rfl 0 (by decide) (hU _ kf_RX6_7) (fun _ h9 => h9) rfl dX6_lookAt_31 ?_
      refine lv_bipush (v := iI 8) hx hb dX6_lookAt_34 (by decide) ?_
      refine zr_iald hx hb hK hP 1 0 rfl rfl 8 (by omega) (by omega) (Nat.le_of_ble_eq_true rfl) dX6_lookAt_36 ?_
      refine zr_icmp_ge (tgt := 71) hx hb dX6_lookAt_37 (by decide) (by omega) (by omega) (fun c_2 => ?_) (fun c_2 => ?_)
      · skip
        rw [hQ]
        exact ze_Wv hx hb hr hlk dX6_lookAt_71 (sn, sns, iq) (by have e : sp_st w x y L i = L := if_neg (by have := hL.1; omega); rw [e]; exact ⟨hL, hq⟩) hP hK hD hS
      · skip
        refine lv_aload_n hx hb dX6_lookAt_40 rfl (lv_at hl 1 rfl) ?_
        refine va_get (D := D) (ci := 6) (v := .ref msn) (C := RX6) (T := TX6) (N := 20) hx hb hU inlX6 hown hK hP 0 rfl rfl 9 (by decide) (hU _ kf_RX6_25) (fun _ h9 => h9) rfl dX6_lookAt_41 ?_
        refine lv_aload_n hx hb dX6_lookAt_44 rfl (lv_at hl 1 rfl) ?_
        refine va_get (D := D) (ci := 6) (v := .int (iI sns)) (C := RX6) (T := TX6) (N := 20) hx hb hU inlX6 hown hK hP 0 rfl rfl 10 (by decide) (hU _ kf_RX6_65) (fun _ h9 => h9) rfl dX6_lookAt_45 ?_
        refine lv_iload_n hx hb dX6_lookAt_48 rfl (lv_at hl 2 rfl) ?_
        refine zr_iast hx hb hK hP hD hS 6 0 rfl rfl L.length (by omega) (by omega) (Nat.le_of_ble_eq_true rfl) dX6_lookAt_49 (fun H locs hP hD hS => ?_)
        have hP : va_P D vwCl [(m0, .inr (6, [.ref mw, .int (iI kn), .int (iI kp), .int (iI sd), .ref mks, .ref mbx, .ref mby, .ref mbi, .int (iI bkn), .ref msn, .int (iI sns), .ref miq, .ref mtb, .ref mrt, .ref mgr, .ref mup, .long (lI bel), .long (lI scl), .long (lI tp), .long (lI bt)])), (mw, .inl (cI, 760, .inl (aI w))), (mks, .inl (cI, 2, .inl (aI ks))), (mbx, .inl (cI, 20, .inl (aI bkx))), (mby, .inl (cI, 20, .inl (aI bky))), (mbi, .inl (cI, 20, .inl (aI bki))), (msn, .inl (cI, 4, .inl (aI (va_up sn L.length (i : Int))))), (miq, .inl (cI, 4, .inl (aI iq))), (mtb, .inl (cL, 25, .inr (.inl (aL tb)))), (mrt, .inl (cL, 5, .inr (.inl (aL rt)))), (mgr, .inl (cL, 32, .inr (.inl (aL gr)))), (mup, .inl (cL, 5, .inr (.inl (aL ups))))] H := hP
        have hD : va_D A [(m0, .inr (6, [.ref mw, .int (iI kn), .int (iI kp), .int (iI sd), .ref mks, .ref mbx, .ref mby, .ref mbi, .int (iI bkn), .ref msn, .int (iI sns), .ref miq, .ref mtb, .ref mrt, .ref mgr, .ref mup, .long (lI bel), .long (lI scl), .long (lI tp), .long (lI bt)])), (mw, .inl (cI, 760, .inl (aI w))), (mks, .inl (cI, 2, .inl (aI ks))), (mbx, .inl (cI, 20, .inl (aI bkx))), (mby, .inl (cI, 20, .inl (aI bky))), (mbi, .inl (cI, 20, .inl (aI bki))), (msn, .inl (cI, 4, .inl (aI (va_up sn L.length (i : Int))))), (miq, .inl (cI, 4, .inl (aI iq))), (mtb, .inl (cL, 25, .inr (.inl (aL tb)))), (mrt, .inl (cL, 5, .inr (.inl (aL rt)))), (mgr, .inl (cL, 32, .inr (.inl (aL gr)))), (mup, .inl (cL, 5, .inr (.inl (aL ups))))] := hD
        refine lv_aload_n hx hb dX6_lookAt_50 rfl (lv_at hl 1 rfl) ?_
        refine lv_dup hx hb dX6_lookAt_51 rfl ?_
        refine va_get (D := D) (ci := 6) (v := .int (iI sns)) (C := RX6) (T := TX6) (N := 20) hx hb hU inlX6 hown hK hP 0 rfl rfl 10 (by decide) (hU _ kf_RX6_65) (fun _ h9 => h9) rfl dX6_lookAt_52 ?_
        refine lv_iconst (v := iI 1) hx hb dX6_lookAt_55 rfl ?_
        refine zr_iadd hx hb dX6_lookAt_56 ?_
        refine va_put (D := D) (ci := 6) (v := .int (iI (sns + 1))) (ty := .int) (C := RX6) (T := TX6) (N := 20) hx hb hU inlX6 tyX6 tyX6_ok nmX6 hown hK hP hD hS 0 rfl rfl 10 (by decide) (hU _ kf_RX6_65) (fun _ h9 => h9) rfl (by decide +kernel) rfl rfl (Nat.le_of_ble_eq_true rfl) dX6_lookAt_57 (fun H locs hP hD hS => ?_)
        have hP : va_P D vwCl [(m0, .inr (6, [.ref mw, .int (iI kn), .int (iI kp), .int (iI sd), .ref mks, .ref mbx, .ref mby, .ref mbi, .int (iI bkn), .ref msn, .int (iI (sns + 1)), .ref miq, .ref mtb, .ref mrt, .ref mgr, .ref mup, .long (lI bel), .long (lI scl), .long (lI tp), .long (lI bt)])), (mw, .inl (cI, 760, .inl (aI w))), (mks, .inl (cI, 2, .inl (aI ks))), (mbx, .inl (cI, 20, .inl (aI bkx))), (mby, .inl (cI, 20, .inl (aI bky))), (mbi, .inl (cI, 20, .inl (aI bki))), (msn, .inl (cI, 4, .inl (aI (va_up sn L.length (i : Int))))), (miq, .inl (cI, 4, .inl (aI iq))), (mtb, .inl (cL, 25, .inr (.inl (aL tb)))), (mrt, .inl (cL, 5, .inr (.inl (aL rt)))), (mgr, .inl (cL, 32, .inr (.inl (aL gr)))), (mup, .inl (cL, 5, .inr (.inl (aL ups))))] H := hP
        have hD : va_D A [(m0, .inr (6, [.ref mw, .int (iI kn), .int (iI kp), .int (iI sd), .ref mks, .ref mbx, .ref mby, .ref mbi, .int (iI bkn), .ref msn, .int (iI (sns + 1)), .ref miq, .ref mtb, .ref mrt, .ref mgr, .ref mup, .long (lI bel), .long (lI scl), .long (lI tp), .long (lI bt)])), (mw, .inl (cI, 760, .inl (aI w))), (mks, .inl (cI, 2, .inl (aI ks))), (mbx, .inl (cI, 20, .inl (aI bkx))), (mby, .inl (cI, 20, .inl (aI bky))), (mbi, .inl (cI, 20, .inl (aI bki))), (msn, .inl (cI, 4, .inl (aI (va_up sn L.length (i : Int))))), (miq, .inl (cI, 4, .inl (aI iq))), (mtb, .inl (cL, 25, .inr (.inl (aL tb)))), (mrt, .inl (cL, 5, .inr (.inl (aL rt)))), (mgr, .inl (cL, 32, .inr (.inl (aL gr)))), (mup, .inl (cL, 5, .inr (.inl (aL ups))))] := hD
        refine lv_aload_n hx hb dX6_lookAt_60 rfl (lv_at hl 1 rfl) ?_
        refine va_get (D := D) (ci := 6) (v := .ref miq) (C := RX6) (T := TX6) (N := 20) hx hb hU inlX6 hown hK hP 0 rfl rfl 11 (by decide) (hU _ kf_RX6_28) (fun _ h9 => h9) rfl dX6_lookAt_61 ?_
        refine lv_iload hx hb dX6_lookAt_64 (lv_at hl 0 rfl) ?_
        refine lv_dup2_11 hx hb dX6_lookAt_66 rfl rfl ?_
        refine zr_iald hx hb hK hP 7 0 rfl rfl ((sp_qr w i x y).toNat) (by omega) (by omega) (Nat.le_of_ble_eq_true rfl) dX6_lookAt_67 ?_
        refine lv_iconst (v := iI 1) hx hb dX6_lookAt_68 rfl ?_
        refine zr_iadd hx hb dX6_lookAt_69 ?_
        refine zr_iast hx hb hK hP hD hS 7 0 rfl rfl ((sp_qr w i x y).toNat) (by omega) (by omega) (Nat.le_of_ble_eq_true rfl) dX6_lookAt_70 (fun H locs hP hD hS => ?_)
        have hP : va_P D vwCl [(m0, .inr (6, [.ref mw, .int (iI kn), .int (iI kp), .int (iI sd), .ref mks, .ref mbx, .ref mby, .ref mbi, .int (iI bkn), .ref msn, .int (iI (sns + 1)), .ref miq, .ref mtb, .ref mrt, .ref mgr, .ref mup, .long (lI bel), .long (lI scl), .long (lI tp), .long (lI bt)])), (mw, .inl (cI, 760, .inl (aI w))), (mks, .inl (cI, 2, .inl (aI ks))), (mbx, .inl (cI, 20, .inl (aI bkx))), (mby, .inl (cI, 20, .inl (aI bky))), (mbi, .inl (cI, 20, .inl (aI bki))), (msn, .inl (cI, 4, .inl (aI (va_up sn L.length (i : Int))))), (miq, .inl (cI, 4, .inl (aI (va_up iq ((sp_qr w i x y).toNat) ((iq ((sp_qr w i x y).toNat)) + 1))))), (mtb, .inl (cL, 25, .inr (.inl (aL tb)))), (mrt, .inl (cL, 5, .inr (.inl (aL rt)))), (mgr, .inl (cL, 32, .inr (.inl (aL gr)))), (mup, .inl (cL, 5, .inr (.inl (aL ups))))] H := hP
        have hD : va_D A [(m0, .inr (6, [.ref mw, .int (iI kn), .int (iI kp), .int (iI sd), .ref mks, .ref mbx, .ref mby, .ref mbi, .int (iI bkn), .ref msn, .int (iI (sns + 1)), .ref miq, .ref mtb, .ref mrt, .ref mgr, .ref mup, .long (lI bel), .long (lI scl), .long (lI tp), .long (lI bt)])), (mw, .inl (cI, 760, .inl (aI w))), (mks, .inl (cI, 2, .inl (aI ks))), (mbx, .inl (cI, 20, .inl (aI bkx))), (mby, .inl (cI, 20, .inl (aI bky))), (mbi, .inl (cI, 20, .inl (aI bki))), (msn, .inl (cI, 4, .inl (aI (va_up sn L.length (i : Int))))), (miq, .inl (cI, 4, .inl (aI (va_up iq ((sp_qr w i x y).toNat) ((iq ((sp_qr w i x y).toNat)) + 1))))), (mtb, .inl (cL, 25, .inr (.inl (aL tb)))), (mrt, .inl (cL, 5, .inr (.inl (aL rt)))), (mgr, .inl (cL, 32, .inr (.inl (aL gr)))), (mup, .inl (cL, 5, .inr (.inl (aL ups))))] := hD
        rw [hQ]
        exact ze_Wv hx hb hr hlk dX6_lookAt_71 ((va_up sn L.length (i : Int)), (sns + 1), (va_up iq ((sp_qr w i x y).toNat) ((iq ((sp_qr w i x y).toNat)) + 1))) (by have e : sp_st w x y L i = L ++ [i] := if_pos ⟨by have := hL.1; omega, by omega⟩; rw [e]; exact ⟨isL_push hL i, isQ_push hq i⟩) hP hK hD hS
  rw [hlocs]
  exact hW0 s.heap [] hP hD hS

set_option maxHeartbeats 4000000 in
set_option maxRecDepth 100000 in
theorem c_X6_layLooked (l : Launch) (D : va_G) (cI cL cG cM : ClassId) (m0 mw mks mbx mby mbi msn miq mtb mrt mgr mup : Nat) (w : Nat → Int) (kn : Int) (kp : Int) (sd : Int) (ks : Nat → Int) (bkx : Nat → Int) (bky : Nat → Int) (bki : Nat → Int) (bkn : Int) (sn : Nat → Int) (sns : Int) (iq : Nat → Int) (tb : Nat → Int) (rt : Nat → Int) (gr : Nat → Int) (ups : Nat → Int) (bel : Int) (scl : Int) (tp : Int) (bt : Int) (x : Int) (y : Int) (wo : Int) (hv : vR w) (h1 : 0 ≤ x ∧ x ≤ 31) (h2 : 0 ≤ y ∧ y ≤ 31) (h3 : -1 ≤ wo ∧ wo ≤ 10) (sz : Nat) : Met l yX6_layLooked (wU yX6_layLooked cX6_layLooked 6 none) (rmF 3 69) (pcW D (tyA cI cL cG cM) [(m0, .inr (6, [.ref mw, .int (iI kn), .int (iI kp), .int (iI sd), .ref mks, .ref mbx, .ref mby, .ref mbi, .int (iI bkn), .ref msn, .int (iI sns), .ref miq, .ref mtb, .ref mrt, .ref mgr, .ref mup, .long (lI bel), .long (lI scl), .long (lI tp), .long (lI bt)])), (mw, .inl (cI, 760, .inl (aI w))), (mks, .inl (cI, 2, .inl (aI ks))), (mbx, .inl (cI, 20, .inl (aI bkx))), (mby, .inl (cI, 20, .inl (aI bky))), (mbi, .inl (cI, 20, .inl (aI bki))), (msn, .inl (cI, 4, .inl (aI sn))), (miq, .inl (cI, 4, .inl (aI iq))), (mtb, .inl (cL, 25, .inr (.inl (aL tb)))), (mrt, .inl (cL, 5, .inr (.inl (aL rt)))), (mgr, .inl (cL, 32, .inr (.inl (aL gr)))), (mup, .inl (cL, 5, .inr (.inl (aL ups))))] [.ref m0, .int (iI x), .int (iI y), .int (iI wo)] sz) (qWv (S := (Nat → Int) × Int × (Nat → Int)) D (tyA cI cL cG cM) (va_A [(m0, .inr (6, [.ref mw, .int (iI kn), .int (iI kp), .int (iI sd), .ref mks, .ref mbx, .ref mby, .ref mbi, .int (iI bkn), .ref msn, .int (iI sns), .ref miq, .ref mtb, .ref mrt, .ref mgr, .ref mup, .long (lI bel), .long (lI scl), .long (lI tp), .long (lI bt)])), (mw, .inl (cI, 760, .inl (aI w))), (mks, .inl (cI, 2, .inl (aI ks))), (mbx, .inl (cI, 20, .inl (aI bkx))), (mby, .inl (cI, 20, .inl (aI bky))), (mbi, .inl (cI, 20, .inl (aI bki))), (msn, .inl (cI, 4, .inl (aI sn))), (miq, .inl (cI, 4, .inl (aI iq))), (mtb, .inl (cL, 25, .inr (.inl (aL tb)))), (mrt, .inl (cL, 5, .inr (.inl (aL rt)))), (mgr, .inl (cL, 32, .inr (.inl (aL gr)))), (mup, .inl (cL, 5, .inr (.inl (aL ups))))] sz) (fun (u : (Nat → Int) × Int × (Nat → Int)) => isL (sp_lk w x y wo) u.1 u.2.1) (fun (u : (Nat → Int) × Int × (Nat → Int)) => [(m0, .inr (6, [.ref mw, .int (iI kn), .int (iI kp), .int (iI sd), .ref mks, .ref mbx, .ref mby, .ref mbi, .int (iI bkn), .ref msn, .int (iI u.2.1), .ref miq, .ref mtb, .ref mrt, .ref mgr, .ref mup, .long (lI bel), .long (lI scl), .long (lI tp), .long (lI bt)])), (mw, .inl (cI, 760, .inl (aI w))), (mks, .inl (cI, 2, .inl (aI ks))), (mbx, .inl (cI, 20, .inl (aI bkx))), (mby, .inl (cI, 20, .inl (aI bky))), (mbi, .inl (cI, 20, .inl (aI bki))), (msn, .inl (cI, 4, .inl (aI u.1))), (miq, .inl (cI, 4, .inl (aI u.2.2))), (mtb, .inl (cL, 25, .inr (.inl (aL tb)))), (mrt, .inl (cL, 5, .inr (.inl (aL rt)))), (mgr, .inl (cL, 32, .inr (.inl (aL gr)))), (mup, .inl (cL, 5, .inr (.inl (aL ups))))])) 0 0 (va_A [(m0, .inr (6, [.ref mw, .int (iI kn), .int (iI kp), .int (iI sd), .ref mks, .ref mbx, .ref mby, .ref mbi, .int (iI bkn), .ref msn, .int (iI sns), .ref miq, .ref mtb, .ref mrt, .ref mgr, .ref mup, .long (lI bel), .long (lI scl), .long (lI tp), .long (lI bt)])), (mw, .inl (cI, 760, .inl (aI w))), (mks, .inl (cI, 2, .inl (aI ks))), (mbx, .inl (cI, 20, .inl (aI bkx))), (mby, .inl (cI, 20, .inl (aI bky))), (mbi, .inl (cI, 20, .inl (aI bki))), (msn, .inl (cI, 4, .inl (aI sn))), (miq, .inl (cI, 4, .inl (aI iq))), (mtb, .inl (cL, 25, .inr (.inl (aL tb)))), (mrt, .inl (cL, 5, .inr (.inl (aL rt)))), (mgr, .inl (cL, 32, .inr (.inl (aL gr)))), (mup, .inl (cL, 5, .inr (.inl (aL ups))))] sz) := by
  refine zm_W (own := RX6) (lv := [(0, .ref m0), (1, .int (iI x)), (2, .int (iI y)), (3, .int (iI wo))]) (QF := fun A => qWv (S := (Nat → Int) × Int × (Nat → Int)) D (tyA cI cL cG cM) A (fun (u : (Nat → Int) × Int × (Nat → Int)) => isL (sp_lk w x y wo) u.1 u.2.1) (fun (u : (Nat → Int) × Int × (Nat → Int)) => [(m0, .inr (6, [.ref mw, .int (iI kn), .int (iI kp), .int (iI sd), .ref mks, .ref mbx, .ref mby, .ref mbi, .int (iI bkn), .ref msn, .int (iI u.2.1), .ref miq, .ref mtb, .ref mrt, .ref mgr, .ref mup, .long (lI bel), .long (lI scl), .long (lI tp), .long (lI bt)])), (mw, .inl (cI, 760, .inl (aI w))), (mks, .inl (cI, 2, .inl (aI ks))), (mbx, .inl (cI, 20, .inl (aI bkx))), (mby, .inl (cI, 20, .inl (aI bky))), (mbi, .inl (cI, 20, .inl (aI bki))), (msn, .inl (cI, 4, .inl (aI u.1))), (miq, .inl (cI, 4, .inl (aI u.2.2))), (mtb, .inl (cL, 25, .inr (.inl (aL tb)))), (mrt, .inl (cL, 5, .inr (.inl (aL rt)))), (mgr, .inl (cL, 32, .inr (.inl (aL gr)))), (mup, .inl (cL, 5, .inr (.inl (aL ups))))])) (by decide) rfl (Nat.le_of_ble_eq_true rfl) rfl ?_
  intro p e s m below meth c A args Q hx hb hr hml hown hU hlk hnm hP hK hNst hD hA hS hsz hQ ls hl
  obtain ⟨H, hH⟩ : ∃ H, H = s.heap := ⟨_, rfl⟩
  obtain ⟨locs, hlocs⟩ : ∃ locs : List Loc, locs = [] := ⟨_, rfl⟩
  rw [← hlocs]
  have hW0 : ∀ (H : Heap) (locs : List Loc), va_P D vwCl [(m0, .inr (6, [.ref mw, .int (iI kn), .int (iI kp), .int (iI sd), .ref mks, .ref mbx, .ref mby, .ref mbi, .int (iI bkn), .ref msn, .int (iI sns), .ref miq, .ref mtb, .ref mrt, .ref mgr, .ref mup, .long (lI bel), .long (lI scl), .long (lI tp), .long (lI bt)])), (mw, .inl (cI, 760, .inl (aI w))), (mks, .inl (cI, 2, .inl (aI ks))), (mbx, .inl (cI, 20, .inl (aI bkx))), (mby, .inl (cI, 20, .inl (aI bky))), (mbi, .inl (cI, 20, .inl (aI bki))), (msn, .inl (cI, 4, .inl (aI sn))), (miq, .inl (cI, 4, .inl (aI iq))), (mtb, .inl (cL, 25, .inr (.inl (aL tb)))), (mrt, .inl (cL, 5, .inr (.inl (aL rt)))), (mgr, .inl (cL, 32, .inr (.inl (aL gr)))), (mup, .inl (cL, 5, .inr (.inl (aL ups))))] H → va_D A [(m0, .inr (6, [.ref mw, .int (iI kn), .int (iI kp), .int (iI sd), .ref mks, .ref mbx, .ref mby, .ref mbi, .int (iI bkn), .ref msn, .int (iI sns), .ref miq, .ref mtb, .ref mrt, .ref mgr, .ref mup, .long (lI bel), .long (lI scl), .long (lI tp), .long (lI bt)])), (mw, .inl (cI, 760, .inl (aI w))), (mks, .inl (cI, 2, .inl (aI ks))), (mbx, .inl (cI, 20, .inl (aI bkx))), (mby, .inl (cI, 20, .inl (aI bky))), (mbi, .inl (cI, 20, .inl (aI bki))), (msn, .inl (cI, 4, .inl (aI sn))), (miq, .inl (cI, 4, .inl (aI iq))), (mtb, .inl (cL, 25, .inr (.inl (aL tb)))), (mrt, .inl (cL, 5, .inr (.inl (aL rt)))), (mgr, .inl (cL, 32, .inr (.inl (aL gr)))), (mup, .inl (cL, 5, .inr (.inl (aL ups))))] → va_S A s.heap H locs → W p l e (rmF 3 69) s m args below meth c H locs 0 0 Q (F0 m 0 ls []) := by
    clear hP hD hS hH hlocs H locs
    intro H locs hP hD hS
    have h0 := hv.1
    have h7 := hv.2.2.2.2.2.2.2.1
    have h8 := hv.2.2.2.2.2.2.2.2.1
    have h9 := hv.2.2.2.2.2.2.2.2.2.1
    refine lv_aload_n hx hb dX6_layLooked_0 rfl (lv_at hl 0 rfl) ?_
    refine lv_iconst (v := iI 0) hx hb dX6_layLooked_1 rfl ?_
    refine va_put (D := D) (ci := 6) (v := .int (iI 0)) (ty := .int) (C := RX6) (T := TX6) (N := 20) hx hb hU inlX6 tyX6 tyX6_ok nmX6 hown hK hP hD hS 0 rfl rfl 10 (by decide) (hU _ kf_RX6_65) (fun _ h9 => h9) rfl (by decide +kernel) rfl rfl (Nat.le_of_ble_eq_true rfl) dX6_layLooked_2 (fun H locs hP hD hS => ?_)
    have hP : va_P D vwCl [(m0, .inr (6, [.ref mw, .int (iI kn), .int (iI kp), .int (iI sd), .ref mks, .ref mbx, .ref mby, .ref mbi, .int (iI bkn), .ref msn, .int (iI 0), .ref miq, .ref mtb, .ref mrt, .ref mgr, .ref mup, .long (lI bel), .long (lI scl), .long (lI tp), .long (lI bt)])), (mw, .inl (cI, 760, .inl (aI w))), (mks, .inl (cI, 2, .inl (aI ks))), (mbx, .inl (cI, 20, .inl (aI bkx))), (mby, .inl (cI, 20, .inl (aI bky))), (mbi, .inl (cI, 20, .inl (aI bki))), (msn, .inl (cI, 4, .inl (aI sn))), (miq, .inl (cI, 4, .inl (aI iq))), (mtb, .inl (cL, 25, .inr (.inl (aL tb)))), (mrt, .inl (cL, 5, .inr (.inl (aL rt)))), (mgr, .inl (cL, 32, .inr (.inl (aL gr)))), (mup, .inl (cL, 5, .inr (.inl (aL ups))))] H := hP
    have hD : va_D A [(m0, .inr (6, [.ref mw, .int (iI kn), .int (iI kp), .int (iI sd), .ref mks, .ref mbx, .ref mby, .ref mbi, .int (iI bkn), .ref msn, .int (iI 0), .ref miq, .ref mtb, .ref mrt, .ref mgr, .ref mup, .long (lI bel), .long (lI scl), .long (lI tp), .long (lI bt)])), (mw, .inl (cI, 760, .inl (aI w))), (mks, .inl (cI, 2, .inl (aI ks))), (mbx, .inl (cI, 20, .inl (aI bkx))), (mby, .inl (cI, 20, .inl (aI bky))), (mbi, .inl (cI, 20, .inl (aI bki))), (msn, .inl (cI, 4, .inl (aI sn))), (miq, .inl (cI, 4, .inl (aI iq))), (mtb, .inl (cL, 25, .inr (.inl (aL tb)))), (mrt, .inl (cL, 5, .inr (.inl (aL rt)))), (mgr, .inl (cL, 32, .inr (.inl (aL gr)))), (mup, .inl (cL, 5, .inr (.inl (aL ups))))] := hD
    refine lv_iconst (v := iI 0) hx hb dX6_layLooked_5 rfl ?_
    refine lv_istore (lv' := [(4, .int (iI 0)), (0, .ref m0), (1, .int (iI x)), (2, .int (iI y)), (3, .int (iI wo))]) hx hb dX6_layLooked_6 hl (by decide) rfl (fun ls hl => ?_)
    have LP8 : ∀ (n : Nat), ∀ (q : Nat) (iq1 : Nat → Int), (q ≤ 4) → (∀ j : Nat, j < q → iq1 j = 0) → (4 < q + n) → ∀ (H : Heap) (locs : List Loc), va_P D vwCl [(m0, .inr (6, [.ref mw, .int (iI kn), .int (iI kp), .int (iI sd), .ref mks, .ref mbx, .ref mby, .ref mbi, .int (iI bkn), .ref msn, .int (iI 0), .ref miq, .ref mtb, .ref mrt, .ref mgr, .ref mup, .long (lI bel), .long (lI scl), .long (lI tp), .long (lI bt)])), (mw, .inl (cI, 760, .inl (aI w))), (mks, .inl (cI, 2, .inl (aI ks))), (mbx, .inl (cI, 20, .inl (aI bkx))), (mby, .inl (cI, 20, .inl (aI bky))), (mbi, .inl (cI, 20, .inl (aI bki))), (msn, .inl (cI, 4, .inl (aI sn))), (miq, .inl (cI, 4, .inl (aI iq1))), (mtb, .inl (cL, 25, .inr (.inl (aL tb)))), (mrt, .inl (cL, 5, .inr (.inl (aL rt)))), (mgr, .inl (cL, 32, .inr (.inl (aL gr)))), (mup, .inl (cL, 5, .inr (.inl (aL ups))))] H → va_D A [(m0, .inr (6, [.ref mw, .int (iI kn), .int (iI kp), .int (iI sd), .ref mks, .ref mbx, .ref mby, .ref mbi, .int (iI bkn), .ref msn, .int (iI 0), .ref miq, .ref mtb, .ref mrt, .ref mgr, .ref mup, .long (lI bel), .long (lI scl), .long (lI tp), .long (lI bt)])), (mw, .inl (cI, 760, .inl (aI w))), (mks, .inl (cI, 2, .inl (aI ks))), (mbx, .inl (cI, 20, .inl (aI bkx))), (mby, .inl (cI, 20, .inl (aI bky))), (mbi, .inl (cI, 20, .inl (aI bki))), (msn, .inl (cI, 4, .inl (aI sn))), (miq, .inl (cI, 4, .inl (aI iq1))), (mtb, .inl (cL, 25, .inr (.inl (aL tb)))), (mrt, .inl (cL, 5, .inr (.inl (aL rt)))), (mgr, .inl (cL, 32, .inr (.inl (aL gr)))), (mup, .inl (cL, 5, .inr (.inl (aL ups))))] → va_S A s.heap H locs → ∀ (ls : Array Slot), lv_has ls 6 [(0, .ref m0), (1, .int (iI x)), (2, .int (iI y)), (3, .int (iI wo)), (4, .int (iI (q : Int)))] → W p l e (rmF 3 69) s m args below meth c H locs 0 0 Q (F0 m 8 ls []) := by
      intro n
      induction n with
      | zero =>
        intro q iq1 hq4 hz hfu
        exfalso
        omega
      | succ n ih8 =>
        intro q iq1 hq4 hz hfu H locs hP hD hS ls hl
        refine lv_iload hx hb dX6_layLooked_8 (lv_at hl 4 rfl) ?_
        refine lv_iconst (v := iI 4) hx hb dX6_layLooked_10 rfl ?_
        refine zr_icmp_ge (tgt := 28) hx hb dX6_layLooked_11 (by decide) (by omega) (by omega) (fun c_1 => ?_) (fun c_1 => ?_)
        · skip
          refine lv_iconst (v := iI 0) hx hb dX6_layLooked_28 rfl ?_
          refine lv_istore (lv' := [(4, .int (iI 0)), (0, .ref m0), (1, .int (iI x)), (2, .int (iI y)), (3, .int (iI wo))]) hx hb dX6_layLooked_29 hl (by decide) rfl (fun ls hl => ?_)
          have LP31 : ∀ (n : Nat), ∀ (h : Nat) (L : List Nat) (sn1 : Nat → Int) (sns1 : Int) (iq2 : Nat → Int), (h ≤ (w 9).toNat + 1) → (okL w L) → (isL L sn1 sns1) → (isQ w x y L iq2) → (sp_run w x y wo (16 * ((w 9).toNat + 1) - (16 * h)) (16 * h) L = sp_lk w x y wo) → ((w 9).toNat + 1 < h + n) → ∀ (H : Heap) (locs : List Loc), va_P D vwCl [(m0, .inr (6, [.ref mw, .int (iI kn), .int (iI kp), .int (iI sd), .ref mks, .ref mbx, .ref mby, .ref mbi, .int (iI bkn), .ref msn, .int (iI sns1), .ref miq, .ref mtb, .ref mrt, .ref mgr, .ref mup, .long (lI bel), .long (lI scl), .long (lI tp), .long (lI bt)])), (mw, .inl (cI, 760, .inl (aI w))), (mks, .inl (cI, 2, .inl (aI ks))), (mbx, .inl (cI, 20, .inl (aI bkx))), (mby, .inl (cI, 20, .inl (aI bky))), (mbi, .inl (cI, 20, .inl (aI bki))), (msn, .inl (cI, 4, .inl (aI sn1))), (miq, .inl (cI, 4, .inl (aI iq2))), (mtb, .inl (cL, 25, .inr (.inl (aL tb)))), (mrt, .inl (cL, 5, .inr (.inl (aL rt)))), (mgr, .inl (cL, 32, .inr (.inl (aL gr)))), (mup, .inl (cL, 5, .inr (.inl (aL ups))))] H → va_D A [(m0, .inr (6, [.ref mw, .int (iI kn), .int (iI kp), .int (iI sd), .ref mks, .ref mbx, .ref mby, .ref mbi, .int (iI bkn), .ref msn, .int (iI sns1), .ref miq, .ref mtb, .ref mrt, .ref mgr, .ref mup, .long (lI bel), .long (lI scl), .long (lI tp), .long (lI bt)])), (mw, .inl (cI, 760, .inl (aI w))), (mks, .inl (cI, 2, .inl (aI ks))), (mbx, .inl (cI, 20, .inl (aI bkx))), (mby, .inl (cI, 20, .inl (aI bky))), (mbi, .inl (cI, 20, .inl (aI bki))), (msn, .inl (cI, 4, .inl (aI sn1))), (miq, .inl (cI, 4, .inl (aI iq2))), (mtb, .inl (cL, 25, .inr (.inl (aL tb)))), (mrt, .inl (cL, 5, .inr (.inl (aL rt)))), (mgr, .inl (cL, 32, .inr (.inl (aL gr)))), (mup, .inl (cL, 5, .inr (.inl (aL ups))))] → va_S A s.heap H locs → ∀ (ls : Array Slot), lv_has ls 6 [(0, .ref m0), (1, .int (iI x)), (2, .int (iI y)), (3, .int (iI wo)), (4, .int (iI (h : Int)))] → W p l e (rmF 3 69) s m args below meth c H locs 0 0 Q (F0 m 31 ls []) := by
            intro n
            induction n with
            | zero =>
              intro h L sn1 sns1 iq2 hh hok hL hq hinv hfu
              exfalso
              omega
            | succ n ih31 =>
              intro h L sn1 sns1 iq2 hh hok hL hq hinv hfu H locs hP hD hS ls hl
              refine lv_iload hx hb dX6_layLooked_31 (lv_at hl 4 rfl) ?_
              refine lv_aload_n hx hb dX6_layLooked_33 rfl (lv_at hl 0 rfl) ?_
              refine va_get (D := D) (ci := 6) (v := .ref mw) (C := RX6) (T := TX6) (N := 20) hx hb hU inlX6 hown hK hP 0 rfl rfl 0 (by decide) (hU _ kf_RX6_7) (fun _ h9 => h9) rfl dX6_layLooked_34 ?_
              refine lv_bipush (v := iI 9) hx hb dX6_layLooked_37 (by decide) ?_
              refine zr_iald hx hb hK hP 1 0 rfl rfl 9 (by omega) (by omega) (Nat.le_of_ble_eq_true rfl) dX6_layLooked_39 ?_
              refine zr_icmp_gt (tgt := 116) hx hb dX6_layLooked_40 (by decide) (by omega) (by omega) (fun c_2 => ?_) (fun c_2 => ?_)
              · skip
                rw [hQ]
                exact ze_Wv hx hb hr hlk dX6_layLooked_116 (sn1, sns1, iq2) (by rw [show 16 * h = 16 * ((w 9).toNat + 1) by omega, Nat.sub_self] at hinv; rw [← hinv]; exact hL) hP hK hD hS
              · skip
                refine lv_iconst (v := iI 0) hx hb dX6_layLooked_43 rfl ?_
                refine lv_istore (lv' := [(5, .int (iI 0)), (0, .ref m0), (1, .int (iI x)), (2, .int (iI y)), (3, .int (iI wo)), (4, .int (iI (h : Int)))]) hx hb dX6_layLooked_44 hl (by decide) rfl (fun ls hl => ?_)
                have LP46 : ∀ (n : Nat), ∀ (i : Nat) (L : List Nat) (sn2 : Nat → Int) (sns2 : Int) (iq3 : Nat → Int), ((i : Int) ≤ w 0) → (okL w L) → (isL L sn2 sns2) → (isQ w x y L iq3) → (sp_run w x y wo (16 * ((w 9).toNat + 1) - (16 * h + i)) (16 * h + i) L = sp_lk w x y wo) → ((w 0).toNat < i + n) → ∀ (H : Heap) (locs : List Loc), va_P D vwCl [(m0, .inr (6, [.ref mw, .int (iI kn), .int (iI kp), .int (iI sd), .ref mks, .ref mbx, .ref mby, .ref mbi, .int (iI bkn), .ref msn, .int (iI sns2), .ref miq, .ref mtb, .ref mrt, .ref mgr, .ref mup, .long (lI bel), .long (lI scl), .long (lI tp), .long (lI bt)])), (mw, .inl (cI, 760, .inl (aI w))), (mks, .inl (cI, 2, .inl (aI ks))), (mbx, .inl (cI, 20, .inl (aI bkx))), (mby, .inl (cI, 20, .inl (aI bky))), (mbi, .inl (cI, 20, .inl (aI bki))), (msn, .inl (cI, 4, .inl (aI sn2))), (miq, .inl (cI, 4, .inl (aI iq3))), (mtb, .inl (cL, 25, .inr (.inl (aL tb)))), (mrt, .inl (cL, 5, .inr (.inl (aL rt)))), (mgr, .inl (cL, 32, .inr (.inl (aL gr)))), (mup, .inl (cL, 5, .inr (.inl (aL ups))))] H → va_D A [(m0, .inr (6, [.ref mw, .int (iI kn), .int (iI kp), .int (iI sd), .ref mks, .ref mbx, .ref mby, .ref mbi, .int (iI bkn), .ref msn, .int (iI sns2), .ref miq, .ref mtb, .ref mrt, .ref mgr, .ref mup, .long (lI bel), .long (lI scl), .long (lI tp), .long (lI bt)])), (mw, .inl (cI, 760, .inl (aI w))), (mks, .inl (cI, 2, .inl (aI ks))), (mbx, .inl (cI, 20, .inl (aI bkx))), (mby, .inl (cI, 20, .inl (aI bky))), (mbi, .inl (cI, 20, .inl (aI bki))), (msn, .inl (cI, 4, .inl (aI sn2))), (miq, .inl (cI, 4, .inl (aI iq3))), (mtb, .inl (cL, 25, .inr (.inl (aL tb)))), (mrt, .inl (cL, 5, .inr (.inl (aL rt)))), (mgr, .inl (cL, 32, .inr (.inl (aL gr)))), (mup, .inl (cL, 5, .inr (.inl (aL ups))))] → va_S A s.heap H locs → ∀ (ls : Array Slot), lv_has ls 6 [(0, .ref m0), (1, .int (iI x)), (2, .int (iI y)), (3, .int (iI wo)), (4, .int (iI (h : Int))), (5, .int (iI (i : Int)))] → W p l e (rmF 3 69) s m args below meth c H locs 0 0 Q (F0 m 46 ls []) := by
                  intro n
                  induction n with
                  | zero =>
                    intro i L sn2 sns2 iq3 hi hok hL hq hinv hfu
                    exfalso
                    omega
                  | succ n ih46 =>
                    intro i L sn2 sns2 iq3 hi hok hL hq hinv hfu H locs hP hD hS ls hl
                    refine lv_iload hx hb dX6_layLooked_46 (lv_at hl 5 rfl) ?_
                    refine lv_aload_n hx hb dX6_layLooked_48 rfl (lv_at hl 0 rfl) ?_
                    refine va_get (D := D) (ci := 6) (v := .ref mw) (C := RX6) (T := TX6) (N := 20) hx hb hU inlX6 hown hK hP 0 rfl rfl 0 (by decide) (hU _ kf_RX6_7) (fun _ h9 => h9) rfl dX6_layLooked_49 ?_
                    refine lv_iconst (v := iI 0) hx hb dX6_layLooked_52 rfl ?_
                    refine zr_iald hx hb hK hP 1 0 rfl rfl 0 (by omega) (by omega) (Nat.le_of_ble_eq_true rfl) dX6_layLooked_53 ?_
                    refine zr_icmp_ge (tgt := 110) hx hb dX6_layLooked_54 (by decide) (by omega) (by omega) (fun c_3 => ?_) (fun c_3 => ?_)
                    · skip
                      refine lv_iinc (v := iI ((h : Int) + 1)) (lv' := [(4, .int (iI ((h : Int) + 1))), (0, .ref m0), (1, .int (iI x)), (2, .int (iI y)), (3, .int (iI wo)), (5, .int (iI (i : Int)))]) hx hb dX6_layLooked_110 hl (k := 4) rfl (iI_add _ _) (by decide) rfl (fun ls hl => ?_)
                      refine lv_goto (tgt := 31) hx hb dX6_layLooked_113 (by decide) ?_
                      exact ih31 (h + 1) L sn2 sns2 iq3 (by omega) (hok) (hL) (hq) (by rw [← hinv]; exact Eq.symm (sp_run_row (by omega) (16 - i) i (by omega) (by omega))) (by omega) _ _ hP hD hS ls (lv_sub hl [1, 2, 3, 4, 0] rfl)
                    · skip
                      refine lv_iload hx hb dX6_layLooked_57 (lv_at hl 5 rfl) ?_
                      refine lv_iload_n hx hb dX6_layLooked_59 rfl (lv_at hl 3 rfl) ?_
                      refine zr_icmp_eq (tgt := 104) hx hb dX6_layLooked_60 (by decide) (by omega) (by omega) (fun c_4 => ?_) (fun c_4 => ?_)
                      · skip
                        refine lv_iinc (v := iI ((i : Int) + 1)) (lv' := [(5, .int (iI ((i : Int) + 1))), (0, .ref m0), (1, .int (iI x)), (2, .int (iI y)), (3, .int (iI wo)), (4, .int (iI (h : Int)))]) hx hb dX6_layLooked_104 hl (k := 5) rfl (iI_add _ _) (by decide) rfl (fun ls hl => ?_)
                        refine lv_goto (tgt := 46) hx hb dX6_layLooked_107 (by decide) ?_
                        exact ih46 (i + 1) L sn2 sns2 iq3 (by omega) (hok) (hL) (hq) (by rw [sp_run_hit (by omega) (by omega), if_neg (by omega)] at hinv; exact hinv) (by omega) _ _ hP hD hS ls (lv_sub hl [1, 2, 3, 4, 5, 0] rfl)
                      · skip
                        have q1 := hv.2.2.2.2.2.2.2.2.2.2 i (by omega)
                        refine lv_aload_n hx hb dX6_layLooked_63 rfl (lv_at hl 0 rfl) ?_
                        refine lv_aload_n hx hb dX6_layLooked_64 rfl (lv_at hl 0 rfl) ?_
                        refine va_get (D := D) (ci := 6) (v := .ref mw) (C := RX6) (T := TX6) (N := 20) hx hb hU inlX6 hown hK hP 0 rfl rfl 0 (by decide) (hU _ kf_RX6_7) (fun _ h9 => h9) rfl dX6_layLooked_65 ?_
                        refine lv_iload hx hb dX6_layLooked_68 (lv_at hl 5 rfl) ?_
                        refine zc_Si (As := [.int (iI (i : Int))]) (rest := [.ref mw, .ref m0]) (c_X6_slot l D cI cL cG cM (i : Int)) hx hb hml hown hU hl.1 ct_yX6_slot kt_yX6_slot km_RX6_50 ⟨rfl, rfl⟩ ⟨Nat.le_of_ble_eq_true rfl, Nat.le_of_ble_eq_true rfl⟩ rfl rfl (Nat.le_of_ble_eq_true rfl) dX6_layLooked_70 ⟨Nat.le_of_ble_eq_true rfl, Nat.le_of_ble_eq_true rfl⟩ ?_
                        refine zr_iald hx hb hK hP 1 0 rfl rfl (10 + 3 * i) (by omega) (by omega) (Nat.le_of_ble_eq_true rfl) dX6_layLooked_73 ?_
                        refine lv_aload_n hx hb dX6_layLooked_74 rfl (lv_at hl 0 rfl) ?_
                        refine va_get (D := D) (ci := 6) (v := .ref mw) (C := RX6) (T := TX6) (N := 20) hx hb hU inlX6 hown hK hP 0 rfl rfl 0 (by decide) (hU _ kf_RX6_7) (fun _ h9 => h9) rfl dX6_layLooked_75 ?_
                        refine lv_iload hx hb dX6_layLooked_78 (lv_at hl 5 rfl) ?_
                        refine zc_Si (As := [.int (iI (i : Int))]) (rest := [.ref mw, .int (iI (w (10 + 3 * i))), .ref m0]) (c_X6_slot l D cI cL cG cM (i : Int)) hx hb hml hown hU hl.1 ct_yX6_slot kt_yX6_slot km_RX6_50 ⟨rfl, rfl⟩ ⟨Nat.le_of_ble_eq_true rfl, Nat.le_of_ble_eq_true rfl⟩ rfl rfl (Nat.le_of_ble_eq_true rfl) dX6_layLooked_80 ⟨Nat.le_of_ble_eq_true rfl, Nat.le_of_ble_eq_true rfl⟩ ?_
                        refine lv_iconst (v := iI 1) hx hb dX6_layLooked_83 rfl ?_
                        refine zr_iadd hx hb dX6_layLooked_84 ?_
                        refine zr_iald hx hb hK hP 1 0 rfl rfl (11 + 3 * i) (by omega) (by omega) (Nat.le_of_ble_eq_true rfl) dX6_layLooked_85 ?_
                        refine lv_iload_n hx hb dX6_layLooked_86 rfl (lv_at hl 1 rfl) ?_
                        refine lv_iload_n hx hb dX6_layLooked_87 rfl (lv_at hl 2 rfl) ?_
                        refine zc_Vi (As := [.int (iI (w (10 + 3 * i))), .int (iI (w (11 + 3 * i))), .int (iI x), .int (iI y)]) (rest := []) (c_X6_far l D cI cL cG cM m0 mw mks mbx mby mbi msn miq mtb mrt mgr mup w kn kp sd ks bkx bky bki bkn sn2 sns2 iq3 tb rt gr ups bel scl tp bt (w (10 + 3 * i)) (w (11 + 3 * i)) x y (hv) (by omega) (by omega) (by omega) (by omega)) hx hb hml hown hU hl.1 ct_yX6_far cv_yX6_far km_RX6_54 hK hNst hP 6 0 rfl rfl rfl ⟨rfl, rfl⟩ ⟨Nat.le_of_ble_eq_true rfl, Nat.le_of_ble_eq_true rfl⟩ rfl rfl (Nat.le_of_ble_eq_true rfl) dX6_layLooked_88 ⟨Nat.le_of_ble_eq_true rfl, Nat.le_of_ble_eq_true rfl⟩ ?_
                        refine lv_iload hx hb dX6_layLooked_91 (lv_at hl 4 rfl) ?_
                        have hf : 0 ≤ sp_far w (w (10 + 3 * i)) (w (11 + 3 * i)) x y ∧ sp_far w (w (10 + 3 * i)) (w (11 + 3 * i)) x y ≤ 62 := sp_fs_rg hv (i := i) (by omega) h1 h2
                        refine zr_icmp_ne (tgt := 104) hx hb dX6_layLooked_93 (by decide) (by omega) (by omega) (fun cf => ?_) (fun cf => ?_)
                        · skip
                          refine lv_iinc (v := iI ((i : Int) + 1)) (lv' := [(5, .int (iI ((i : Int) + 1))), (0, .ref m0), (1, .int (iI x)), (2, .int (iI y)), (3, .int (iI wo)), (4, .int (iI (h : Int)))]) hx hb dX6_layLooked_104 hl (k := 5) rfl (iI_add _ _) (by decide) rfl (fun ls hl => ?_)
                          refine lv_goto (tgt := 46) hx hb dX6_layLooked_107 (by decide) ?_
                          exact ih46 (i + 1) L sn2 sns2 iq3 (by omega) (hok) (hL) (hq) (by rw [sp_run_hit (by omega) (by omega), if_neg (fun q => cf q.2.2)] at hinv; exact hinv) (by omega) _ _ hP hD hS ls (lv_sub hl [1, 2, 3, 4, 5, 0] rfl)
                        · skip
                          refine lv_aload_n hx hb dX6_layLooked_96 rfl (lv_at hl 0 rfl) ?_
                          refine lv_iload hx hb dX6_layLooked_97 (lv_at hl 5 rfl) ?_
                          refine lv_iload_n hx hb dX6_layLooked_99 rfl (lv_at hl 1 rfl) ?_
                          refine lv_iload_n hx hb dX6_layLooked_100 rfl (lv_at hl 2 rfl) ?_
                          refine zc_Wv (As := [.int (iI (i : Int)), .int (iI x), .int (iI y)]) (rest := []) (wr := []) (wc := [(m0, .inr (6, [.ref mw, .int (iI kn), .int (iI kp), .int (iI sd), .ref mks, .ref mbx, .ref mby, .ref mbi, .int (iI bkn), .ref msn, .int (iI sns2), .ref miq, .ref mtb, .ref mrt, .ref mgr, .ref mup, .long (lI bel), .long (lI scl), .long (lI tp), .long (lI bt)])), (mw, .inl (cI, 760, .inl (aI w))), (mks, .inl (cI, 2, .inl (aI ks))), (mbx, .inl (cI, 20, .inl (aI bkx))), (mby, .inl (cI, 20, .inl (aI bky))), (mbi, .inl (cI, 20, .inl (aI bki))), (msn, .inl (cI, 4, .inl (aI sn2))), (miq, .inl (cI, 4, .inl (aI iq3))), (mtb, .inl (cL, 25, .inr (.inl (aL tb)))), (mrt, .inl (cL, 5, .inr (.inl (aL rt)))), (mgr, .inl (cL, 32, .inr (.inl (aL gr)))), (mup, .inl (cL, 5, .inr (.inl (aL ups))))]) (c_X6_lookAt l D cI cL cG cM m0 mw mks mbx mby mbi msn miq mtb mrt mgr mup w kn kp sd ks bkx bky bki bkn sn2 sns2 iq3 tb rt gr ups bel scl tp bt i x y L (hv) (by omega) (by omega) (by omega) (hok) (hL) (hq) _) hx hb hml hown hU hl.1 ct_yX6_lookAt cv_yX6_lookAt km_RX6_69 hK hNst hP hD hS hA [0, 1, 2, 3, 4, 5, 6, 7, 8, 9, 10, 11] [] rfl rfl (by decide) (by decide) (by decide) 6 0 rfl rfl rfl ⟨rfl, rfl⟩ ⟨Nat.le_of_ble_eq_true rfl, Nat.le_of_ble_eq_true rfl⟩ rfl rfl (Nat.le_of_ble_eq_true rfl) dX6_layLooked_101 ⟨Nat.le_of_ble_eq_true rfl, Nat.le_of_ble_eq_true rfl⟩ (fun u H locs hw1 hP hD hS _ => ?_)
                          obtain ⟨sn_6, sns_7, iq_8⟩ := u
                          have hw1 : isL (sp_st w x y L i) sn_6 sns_7 ∧ isQ w x y (sp_st w x y L i) iq_8 := hw1
                          have hP : va_P D vwCl [(m0, .inr (6, [.ref mw, .int (iI kn), .int (iI kp), .int (iI sd), .ref mks, .ref mbx, .ref mby, .ref mbi, .int (iI bkn), .ref msn, .int (iI sns_7), .ref miq, .ref mtb, .ref mrt, .ref mgr, .ref mup, .long (lI bel), .long (lI scl), .long (lI tp), .long (lI bt)])), (mw, .inl (cI, 760, .inl (aI w))), (mks, .inl (cI, 2, .inl (aI ks))), (mbx, .inl (cI, 20, .inl (aI bkx))), (mby, .inl (cI, 20, .inl (aI bky))), (mbi, .inl (cI, 20, .inl (aI bki))), (msn, .inl (cI, 4, .inl (aI sn_6))), (miq, .inl (cI, 4, .inl (aI iq_8))), (mtb, .inl (cL, 25, .inr (.inl (aL tb)))), (mrt, .inl (cL, 5, .inr (.inl (aL rt)))), (mgr, .inl (cL, 32, .inr (.inl (aL gr)))), (mup, .inl (cL, 5, .inr (.inl (aL ups))))] H := hP
                          have hD : va_D A [(m0, .inr (6, [.ref mw, .int (iI kn), .int (iI kp), .int (iI sd), .ref mks, .ref mbx, .ref mby, .ref mbi, .int (iI bkn), .ref msn, .int (iI sns_7), .ref miq, .ref mtb, .ref mrt, .ref mgr, .ref mup, .long (lI bel), .long (lI scl), .long (lI tp), .long (lI bt)])), (mw, .inl (cI, 760, .inl (aI w))), (mks, .inl (cI, 2, .inl (aI ks))), (mbx, .inl (cI, 20, .inl (aI bkx))), (mby, .inl (cI, 20, .inl (aI bky))), (mbi, .inl (cI, 20, .inl (aI bki))), (msn, .inl (cI, 4, .inl (aI sn_6))), (miq, .inl (cI, 4, .inl (aI iq_8))), (mtb, .inl (cL, 25, .inr (.inl (aL tb)))), (mrt, .inl (cL, 5, .inr (.inl (aL rt)))), (mgr, .inl (cL, 32, .inr (.inl (aL gr)))), (mup, .inl (cL, 5, .inr (.inl (aL ups))))] := hD
                          refine lv_iinc (v := iI ((i : Int) + 1)) (lv' := [(5, .int (iI ((i : Int) + 1))), (0, .ref m0), (1, .int (iI x)), (2, .int (iI y)), (3, .int (iI wo)), (4, .int (iI (h : Int)))]) hx hb dX6_layLooked_104 hl (k := 5) rfl (iI_add _ _) (by decide) rfl (fun ls hl => ?_)
                          refine lv_goto (tgt := 46) hx hb dX6_layLooked_107 (by decide) ?_
                          exact ih46 (i + 1) (sp_st w x y L i) sn_6 sns_7 iq_8 (by omega) (okL_st hok (by omega)) (hw1.1) (hw1.2) (by rw [sp_run_hit (by omega) (by omega), if_pos ⟨by omega, by omega, cf⟩] at hinv; exact hinv) (by omega) _ _ hP hD hS ls (lv_sub hl [1, 2, 3, 4, 5, 0] rfl)
                exact LP46 ((w 0).toNat + 1) 0 L sn1 sns1 iq2 (by omega) (hok) (hL) (hq) (hinv) (by omega) _ _ hP hD hS ls (lv_sub hl [1, 2, 3, 4, 5, 0] rfl)
          exact LP31 ((w 9).toNat + 2) 0 ([]) sn 0 iq1 (by omega) (okL_nil hv) (⟨rfl, fun j h => absurd h (Nat.not_lt_zero j)⟩) (fun q hq4 => by rw [hz q (by omega)]; rfl) (rfl) (by omega) _ _ hP hD hS ls (lv_sub hl [1, 2, 3, 4, 0] rfl)
        · skip
          refine lv_aload_n hx hb dX6_layLooked_14 rfl (lv_at hl 0 rfl) ?_
          refine va_get (D := D) (ci := 6) (v := .ref miq) (C := RX6) (T := TX6) (N := 20) hx hb hU inlX6 hown hK hP 0 rfl rfl 11 (by decide) (hU _ kf_RX6_28) (fun _ h9 => h9) rfl dX6_layLooked_15 ?_
          refine lv_iload hx hb dX6_layLooked_18 (lv_at hl 4 rfl) ?_
          refine lv_iconst (v := iI 0) hx hb dX6_layLooked_20 rfl ?_
          refine zr_iast hx hb hK hP hD hS 7 0 rfl rfl q (by omega) (by omega) (Nat.le_of_ble_eq_true rfl) dX6_layLooked_21 (fun H locs hP hD hS => ?_)
          have hP : va_P D vwCl [(m0, .inr (6, [.ref mw, .int (iI kn), .int (iI kp), .int (iI sd), .ref mks, .ref mbx, .ref mby, .ref mbi, .int (iI bkn), .ref msn, .int (iI 0), .ref miq, .ref mtb, .ref mrt, .ref mgr, .ref mup, .long (lI bel), .long (lI scl), .long (lI tp), .long (lI bt)])), (mw, .inl (cI, 760, .inl (aI w))), (mks, .inl (cI, 2, .inl (aI ks))), (mbx, .inl (cI, 20, .inl (aI bkx))), (mby, .inl (cI, 20, .inl (aI bky))), (mbi, .inl (cI, 20, .inl (aI bki))), (msn, .inl (cI, 4, .inl (aI sn))), (miq, .inl (cI, 4, .inl (aI (va_up iq1 q 0)))), (mtb, .inl (cL, 25, .inr (.inl (aL tb)))), (mrt, .inl (cL, 5, .inr (.inl (aL rt)))), (mgr, .inl (cL, 32, .inr (.inl (aL gr)))), (mup, .inl (cL, 5, .inr (.inl (aL ups))))] H := hP
          have hD : va_D A [(m0, .inr (6, [.ref mw, .int (iI kn), .int (iI kp), .int (iI sd), .ref mks, .ref mbx, .ref mby, .ref mbi, .int (iI bkn), .ref msn, .int (iI 0), .ref miq, .ref mtb, .ref mrt, .ref mgr, .ref mup, .long (lI bel), .long (lI scl), .long (lI tp), .long (lI bt)])), (mw, .inl (cI, 760, .inl (aI w))), (mks, .inl (cI, 2, .inl (aI ks))), (mbx, .inl (cI, 20, .inl (aI bkx))), (mby, .inl (cI, 20, .inl (aI bky))), (mbi, .inl (cI, 20, .inl (aI bki))), (msn, .inl (cI, 4, .inl (aI sn))), (miq, .inl (cI, 4, .inl (aI (va_up iq1 q 0)))), (mtb, .inl (cL, 25, .inr (.inl (aL tb)))), (mrt, .inl (cL, 5, .inr (.inl (aL rt)))), (mgr, .inl (cL, 32, .inr (.inl (aL gr)))), (mup, .inl (cL, 5, .inr (.inl (aL ups))))] := hD
          refine lv_iinc (v := iI ((q : Int) + 1)) (lv' := [(4, .int (iI ((q : Int) + 1))), (0, .ref m0), (1, .int (iI x)), (2, .int (iI y)), (3, .int (iI wo))]) hx hb dX6_layLooked_22 hl (k := 4) rfl (iI_add _ _) (by decide) rfl (fun ls hl => ?_)
          refine lv_goto (tgt := 8) hx hb dX6_layLooked_25 (by decide) ?_
          exact ih8 (q + 1) (va_up iq1 q 0) (by omega) (fun j h => by rcases Nat.lt_or_ge j q with e | e; (rw [va_up_ne _ _ (by omega)]; exact hz j e); (rw [show j = q by omega]; exact va_up_self _ _ _)) (by omega) _ _ hP hD hS ls (lv_sub hl [1, 2, 3, 4, 0] rfl)
    exact LP8 5 0 iq (by omega) (fun j h => absurd h (Nat.not_lt_zero j)) (by omega) _ _ hP hD hS ls (lv_sub hl [1, 2, 3, 4, 0] rfl)
  rw [hlocs]
  exact hW0 s.heap [] hP hD hS

set_option maxHeartbeats 4000000 in
set_option maxRecDepth 100000 in
theorem c_X6_greaterIn (l : Launch) (D : va_G) (cI cL cG cM : ClassId)  (a : Nat) (ck : Int) (k : Nat) (ha : a < 32) (hc : ck + 1 = (k : Int)) (hk : k ≤ 5) : Met l yX6_greaterIn (wU yX6_greaterIn cX6_greaterIn 4 (some .int)) (rmF 0 0) (pcN [.int (iI (a : Int)), .int (iI ck)]) (qRi ((sp_gb a (5 - k) k : Nat) : Int)) 0 0 (fun _ => False) := by
  refine zm_N (own := RX6) (lv := [(0, .int (iI (a : Int))), (1, .int (iI ck))]) (by decide) rfl (Nat.le_of_ble_eq_true rfl) rfl ?_
  intro p e s m below meth c args Q hx hb hr hml hown hU hlk hQ ls hl
  refine lv_iconst (v := iI 0) hx hb dX6_greaterIn_0 rfl ?_
  refine lv_istore_n (lv' := [(2, .int (iI 0)), (0, .int (iI (a : Int))), (1, .int (iI ck))]) hx hb dX6_greaterIn_1 rfl hl (by decide) rfl (fun ls hl => ?_)
  refine lv_iload_n hx hb dX6_greaterIn_2 rfl (lv_at hl 2 rfl) ?_
  refine lv_iconst (v := iI 1) hx hb dX6_greaterIn_3 rfl ?_
  refine zr_iadd hx hb dX6_greaterIn_4 ?_
  refine zr_rw (v := (k : Int)) (hc) ?_
  refine lv_istore_n (lv' := [(3, .int (iI (k : Int))), (2, .int (iI 0)), (0, .int (iI (a : Int))), (1, .int (iI ck))]) hx hb dX6_greaterIn_5 rfl hl (by decide) rfl (fun ls hl => ?_)
  have LP6 : ∀ (n : Nat), ∀ (j : Nat) (b : Nat), (j ≤ 5) → (b ≤ j) → (b + sp_gb a (5 - j) j = sp_gb a (5 - k) k) → (5 < j + n) → ∀ (ls : Array Slot), lv_has ls 4 [(0, .int (iI (a : Int))), (1, .int (iI ck)), (2, .int (iI (b : Int))), (3, .int (iI (j : Int)))] → W p l e (rmF 0 0) s m args below meth c s.heap [] 0 0 Q (F0 m 6 ls []) := by
    intro n
    induction n with
    | zero =>
      intro j b hj hb5 hinv hfu
      exfalso
      omega
    | succ n ih6 =>
      intro j b hj hb5 hinv hfu ls hl
      refine lv_iload_n hx hb dX6_greaterIn_6 rfl (lv_at hl 3 rfl) ?_
      refine lv_iconst (v := iI 5) hx hb dX6_greaterIn_7 rfl ?_
      refine zr_icmp_ge (tgt := 25) hx hb dX6_greaterIn_8 (by decide) (by omega) (by omega) (fun c_1 => ?_) (fun c_1 => ?_)
      · skip
        refine lv_iload_n hx hb dX6_greaterIn_25 rfl (lv_at hl 2 rfl) ?_
        rw [hQ]
        exact ze_Ri hx hb hr hlk dX6_greaterIn_26 (by rw [← hinv, show 5 - j = 0 by omega]; rfl)
      · skip
        refine lv_iload_n hx hb dX6_greaterIn_11 rfl (lv_at hl 2 rfl) ?_
        refine lv_iload_n hx hb dX6_greaterIn_12 rfl (lv_at hl 0 rfl) ?_
        refine lv_iload_n hx hb dX6_greaterIn_13 rfl (lv_at hl 3 rfl) ?_
        refine lv_ishr hx hb dX6_greaterIn_14 ?_
        refine zr_bti (z := (((a >>> j) : Nat) : Int)) (bt_shr a ha j (by omega)) ?_
        refine lv_iconst (v := iI 1) hx hb dX6_greaterIn_15 rfl ?_
        refine lv_iand hx hb dX6_greaterIn_16 ?_
        refine zr_bti (z := ((((a >>> j) % 2) : Nat) : Int)) (bt_and1 _ (by have := Nat.shiftRight_le a j; omega)) ?_
        refine zr_iadd hx hb dX6_greaterIn_17 ?_
        refine lv_istore_n (lv' := [(2, .int (iI ((b : Int) + ((((a >>> j) % 2) : Nat) : Int)))), (0, .int (iI (a : Int))), (1, .int (iI ck)), (3, .int (iI (j : Int)))]) hx hb dX6_greaterIn_18 rfl hl (by decide) rfl (fun ls hl => ?_)
        refine lv_iinc (v := iI ((j : Int) + 1)) (lv' := [(3, .int (iI ((j : Int) + 1))), (2, .int (iI ((b : Int) + ((((a >>> j) % 2) : Nat) : Int)))), (0, .int (iI (a : Int))), (1, .int (iI ck))]) hx hb dX6_greaterIn_19 hl (k := 3) rfl (iI_add _ _) (by decide) rfl (fun ls hl => ?_)
        refine lv_goto (tgt := 6) hx hb dX6_greaterIn_22 (by decide) ?_
        exact ih6 (j + 1) (b + (a >>> j) % 2) (by omega) (by omega) (by rw [← hinv, show 5 - j = (5 - (j + 1)) + 1 by omega, sp_gb]; omega) (by omega) ls (lv_sub hl [2, 3, 1, 0] rfl)
  exact LP6 6 k 0 (hk) (by omega) (by omega) (by omega) ls (lv_sub hl [2, 3, 1, 0] rfl)

set_option maxHeartbeats 4000000 in
set_option maxRecDepth 100000 in
theorem c_X6_copyRow (l : Launch) (D : va_G) (cI cL cG cM : ClassId) (m0 mw mks mbx mby mbi msn miq mtb mrt mgr mup : Nat) (w : Nat → Int) (kn : Int) (kp : Int) (sd : Int) (ks : Nat → Int) (bkx : Nat → Int) (bky : Nat → Int) (bki : Nat → Int) (bkn : Int) (sn : Nat → Int) (sns : Int) (iq : Nat → Int) (tb : Nat → Int) (rt : Nat → Int) (gr : Nat → Int) (ups : Nat → Int) (bel : Int) (scl : Int) (tp : Int) (bt : Int) (x : Nat) (y : Nat) (h1 : x + 40 ≤ 760) (h2 : y + 40 ≤ 760) (h3 : x + 40 ≤ y ∨ y + 40 ≤ x ∨ x = y) (sz : Nat) : Met l yX6_copyRow (wU yX6_copyRow cX6_copyRow 4 none) (rmF 0 0) (pcW D (tyA cI cL cG cM) [(m0, .inr (6, [.ref mw, .int (iI kn), .int (iI kp), .int (iI sd), .ref mks, .ref mbx, .ref mby, .ref mbi, .int (iI bkn), .ref msn, .int (iI sns), .ref miq, .ref mtb, .ref mrt, .ref mgr, .ref mup, .long (lI bel), .long (lI scl), .long (lI tp), .long (lI bt)])), (mw, .inl (cI, 760, .inl (aI w))), (mks, .inl (cI, 2, .inl (aI ks))), (mbx, .inl (cI, 20, .inl (aI bkx))), (mby, .inl (cI, 20, .inl (aI bky))), (mbi, .inl (cI, 20, .inl (aI bki))), (msn, .inl (cI, 4, .inl (aI sn))), (miq, .inl (cI, 4, .inl (aI iq))), (mtb, .inl (cL, 25, .inr (.inl (aL tb)))), (mrt, .inl (cL, 5, .inr (.inl (aL rt)))), (mgr, .inl (cL, 32, .inr (.inl (aL gr)))), (mup, .inl (cL, 5, .inr (.inl (aL ups))))] [.ref m0, .int (iI (x : Int)), .int (iI (y : Int))] sz) (qWv (S := (Nat → Int)) D (tyA cI cL cG cM) (va_A [(m0, .inr (6, [.ref mw, .int (iI kn), .int (iI kp), .int (iI sd), .ref mks, .ref mbx, .ref mby, .ref mbi, .int (iI bkn), .ref msn, .int (iI sns), .ref miq, .ref mtb, .ref mrt, .ref mgr, .ref mup, .long (lI bel), .long (lI scl), .long (lI tp), .long (lI bt)])), (mw, .inl (cI, 760, .inl (aI w))), (mks, .inl (cI, 2, .inl (aI ks))), (mbx, .inl (cI, 20, .inl (aI bkx))), (mby, .inl (cI, 20, .inl (aI bky))), (mbi, .inl (cI, 20, .inl (aI bki))), (msn, .inl (cI, 4, .inl (aI sn))), (miq, .inl (cI, 4, .inl (aI iq))), (mtb, .inl (cL, 25, .inr (.inl (aL tb)))), (mrt, .inl (cL, 5, .inr (.inl (aL rt)))), (mgr, .inl (cL, 32, .inr (.inl (aL gr)))), (mup, .inl (cL, 5, .inr (.inl (aL ups))))] sz) (fun (u : (Nat → Int)) => u = sp_cp w x y 40) (fun (u : (Nat → Int)) => [(m0, .inr (6, [.ref mw, .int (iI kn), .int (iI kp), .int (iI sd), .ref mks, .ref mbx, .ref mby, .ref mbi, .int (iI bkn), .ref msn, .int (iI sns), .ref miq, .ref mtb, .ref mrt, .ref mgr, .ref mup, .long (lI bel), .long (lI scl), .long (lI tp), .long (lI bt)])), (mw, .inl (cI, 760, .inl (aI u))), (mks, .inl (cI, 2, .inl (aI ks))), (mbx, .inl (cI, 20, .inl (aI bkx))), (mby, .inl (cI, 20, .inl (aI bky))), (mbi, .inl (cI, 20, .inl (aI bki))), (msn, .inl (cI, 4, .inl (aI sn))), (miq, .inl (cI, 4, .inl (aI iq))), (mtb, .inl (cL, 25, .inr (.inl (aL tb)))), (mrt, .inl (cL, 5, .inr (.inl (aL rt)))), (mgr, .inl (cL, 32, .inr (.inl (aL gr)))), (mup, .inl (cL, 5, .inr (.inl (aL ups))))])) 0 0 (va_A [(m0, .inr (6, [.ref mw, .int (iI kn), .int (iI kp), .int (iI sd), .ref mks, .ref mbx, .ref mby, .ref mbi, .int (iI bkn), .ref msn, .int (iI sns), .ref miq, .ref mtb, .ref mrt, .ref mgr, .ref mup, .long (lI bel), .long (lI scl), .long (lI tp), .long (lI bt)])), (mw, .inl (cI, 760, .inl (aI w))), (mks, .inl (cI, 2, .inl (aI ks))), (mbx, .inl (cI, 20, .inl (aI bkx))), (mby, .inl (cI, 20, .inl (aI bky))), (mbi, .inl (cI, 20, .inl (aI bki))), (msn, .inl (cI, 4, .inl (aI sn))), (miq, .inl (cI, 4, .inl (aI iq))), (mtb, .inl (cL, 25, .inr (.inl (aL tb)))), (mrt, .inl (cL, 5, .inr (.inl (aL rt)))), (mgr, .inl (cL, 32, .inr (.inl (aL gr)))), (mup, .inl (cL, 5, .inr (.inl (aL ups))))] sz) := by
  refine zm_W (own := RX6) (lv := [(0, .ref m0), (1, .int (iI (x : Int))), (2, .int (iI (y : Int)))]) (QF := fun A => qWv (S := (Nat → Int)) D (tyA cI cL cG cM) A (fun (u : (Nat → Int)) => u = sp_cp w x y 40) (fun (u : (Nat → Int)) => [(m0, .inr (6, [.ref mw, .int (iI kn), .int (iI kp), .int (iI sd), .ref mks, .ref mbx, .ref mby, .ref mbi, .int (iI bkn), .ref msn, .int (iI sns), .ref miq, .ref mtb, .ref mrt, .ref mgr, .ref mup, .long (lI bel), .long (lI scl), .long (lI tp), .long (lI bt)])), (mw, .inl (cI, 760, .inl (aI u))), (mks, .inl (cI, 2, .inl (aI ks))), (mbx, .inl (cI, 20, .inl (aI bkx))), (mby, .inl (cI, 20, .inl (aI bky))), (mbi, .inl (cI, 20, .inl (aI bki))), (msn, .inl (cI, 4, .inl (aI sn))), (miq, .inl (cI, 4, .inl (aI iq))), (mtb, .inl (cL, 25, .inr (.inl (aL tb)))), (mrt, .inl (cL, 5, .inr (.inl (aL rt)))), (mgr, .inl (cL, 32, .inr (.inl (aL gr)))), (mup, .inl (cL, 5, .inr (.inl (aL ups))))])) (by decide) rfl (Nat.le_of_ble_eq_true rfl) rfl ?_
  intro p e s m below meth c A args Q hx hb hr hml hown hU hlk hnm hP hK hNst hD hA hS hsz hQ ls hl
  obtain ⟨H, hH⟩ : ∃ H, H = s.heap := ⟨_, rfl⟩
  obtain ⟨locs, hlocs⟩ : ∃ locs : List Loc, locs = [] := ⟨_, rfl⟩
  rw [← hlocs]
  have hW0 : ∀ (H : Heap) (locs : List Loc), va_P D vwCl [(m0, .inr (6, [.ref mw, .int (iI kn), .int (iI kp), .int (iI sd), .ref mks, .ref mbx, .ref mby, .ref mbi, .int (iI bkn), .ref msn, .int (iI sns), .ref miq, .ref mtb, .ref mrt, .ref mgr, .ref mup, .long (lI bel), .long (lI scl), .long (lI tp), .long (lI bt)])), (mw, .inl (cI, 760, .inl (aI w))), (mks, .inl (cI, 2, .inl (aI ks))), (mbx, .inl (cI, 20, .inl (aI bkx))), (mby, .inl (cI, 20, .inl (aI bky))), (mbi, .inl (cI, 20, .inl (aI bki))), (msn, .inl (cI, 4, .inl (aI sn))), (miq, .inl (cI, 4, .inl (aI iq))), (mtb, .inl (cL, 25, .inr (.inl (aL tb)))), (mrt, .inl (cL, 5, .inr (.inl (aL rt)))), (mgr, .inl (cL, 32, .inr (.inl (aL gr)))), (mup, .inl (cL, 5, .inr (.inl (aL ups))))] H → va_D A [(m0, .inr (6, [.ref mw, .int (iI kn), .int (iI kp), .int (iI sd), .ref mks, .ref mbx, .ref mby, .ref mbi, .int (iI bkn), .ref msn, .int (iI sns), .ref miq, .ref mtb, .ref mrt, .ref mgr, .ref mup, .long (lI bel), .long (lI scl), .long (lI tp), .long (lI bt)])), (mw, .inl (cI, 760, .inl (aI w))), (mks, .inl (cI, 2, .inl (aI ks))), (mbx, .inl (cI, 20, .inl (aI bkx))), (mby, .inl (cI, 20, .inl (aI bky))), (mbi, .inl (cI, 20, .inl (aI bki))), (msn, .inl (cI, 4, .inl (aI sn))), (miq, .inl (cI, 4, .inl (aI iq))), (mtb, .inl (cL, 25, .inr (.inl (aL tb)))), (mrt, .inl (cL, 5, .inr (.inl (aL rt)))), (mgr, .inl (cL, 32, .inr (.inl (aL gr)))), (mup, .inl (cL, 5, .inr (.inl (aL ups))))] → va_S A s.heap H locs → W p l e (rmF 0 0) s m args below meth c H locs 0 0 Q (F0 m 0 ls []) := by
    clear hP hD hS hH hlocs H locs
    intro H locs hP hD hS
    refine lv_iconst (v := iI 0) hx hb dX6_copyRow_0 rfl ?_
    refine lv_istore_n (lv' := [(3, .int (iI 0)), (0, .ref m0), (1, .int (iI (x : Int))), (2, .int (iI (y : Int)))]) hx hb dX6_copyRow_1 rfl hl (by decide) rfl (fun ls hl => ?_)
    have LP2 : ∀ (n : Nat), ∀ (k : Nat) (w1 : Nat → Int), (k ≤ 40) → (w1 = sp_cp w x y k) → (40 < k + n) → ∀ (H : Heap) (locs : List Loc), va_P D vwCl [(m0, .inr (6, [.ref mw, .int (iI kn), .int (iI kp), .int (iI sd), .ref mks, .ref mbx, .ref mby, .ref mbi, .int (iI bkn), .ref msn, .int (iI sns), .ref miq, .ref mtb, .ref mrt, .ref mgr, .ref mup, .long (lI bel), .long (lI scl), .long (lI tp), .long (lI bt)])), (mw, .inl (cI, 760, .inl (aI w1))), (mks, .inl (cI, 2, .inl (aI ks))), (mbx, .inl (cI, 20, .inl (aI bkx))), (mby, .inl (cI, 20, .inl (aI bky))), (mbi, .inl (cI, 20, .inl (aI bki))), (msn, .inl (cI, 4, .inl (aI sn))), (miq, .inl (cI, 4, .inl (aI iq))), (mtb, .inl (cL, 25, .inr (.inl (aL tb)))), (mrt, .inl (cL, 5, .inr (.inl (aL rt)))), (mgr, .inl (cL, 32, .inr (.inl (aL gr)))), (mup, .inl (cL, 5, .inr (.inl (aL ups))))] H → va_D A [(m0, .inr (6, [.ref mw, .int (iI kn), .int (iI kp), .int (iI sd), .ref mks, .ref mbx, .ref mby, .ref mbi, .int (iI bkn), .ref msn, .int (iI sns), .ref miq, .ref mtb, .ref mrt, .ref mgr, .ref mup, .long (lI bel), .long (lI scl), .long (lI tp), .long (lI bt)])), (mw, .inl (cI, 760, .inl (aI w1))), (mks, .inl (cI, 2, .inl (aI ks))), (mbx, .inl (cI, 20, .inl (aI bkx))), (mby, .inl (cI, 20, .inl (aI bky))), (mbi, .inl (cI, 20, .inl (aI bki))), (msn, .inl (cI, 4, .inl (aI sn))), (miq, .inl (cI, 4, .inl (aI iq))), (mtb, .inl (cL, 25, .inr (.inl (aL tb)))), (mrt, .inl (cL, 5, .inr (.inl (aL rt)))), (mgr, .inl (cL, 32, .inr (.inl (aL gr)))), (mup, .inl (cL, 5, .inr (.inl (aL ups))))] → va_S A s.heap H locs → ∀ (ls : Array Slot), lv_has ls 4 [(0, .ref m0), (1, .int (iI (x : Int))), (2, .int (iI (y : Int))), (3, .int (iI (k : Int)))] → W p l e (rmF 0 0) s m args below meth c H locs 0 0 Q (F0 m 2 ls []) := by
      intro n
      induction n with
      | zero =>
        intro k w1 hk hw1 hfu
        exfalso
        omega
      | succ n ih2 =>
        intro k w1 hk hw1 hfu H locs hP hD hS ls hl
        refine lv_iload_n hx hb dX6_copyRow_2 rfl (lv_at hl 3 rfl) ?_
        refine lv_bipush (v := iI 40) hx hb dX6_copyRow_3 (by decide) ?_
        refine zr_icmp_ge (tgt := 30) hx hb dX6_copyRow_5 (by decide) (by omega) (by omega) (fun c_1 => ?_) (fun c_1 => ?_)
        · skip
          rw [hQ]
          exact ze_Wv hx hb hr hlk dX6_copyRow_30 w1 (by rw [hw1, show k = 40 by omega]) hP hK hD hS
        · skip
          refine lv_aload_n hx hb dX6_copyRow_8 rfl (lv_at hl 0 rfl) ?_
          refine va_get (D := D) (ci := 6) (v := .ref mw) (C := RX6) (T := TX6) (N := 20) hx hb hU inlX6 hown hK hP 0 rfl rfl 0 (by decide) (hU _ kf_RX6_7) (fun _ h9 => h9) rfl dX6_copyRow_9 ?_
          refine lv_iload_n hx hb dX6_copyRow_12 rfl (lv_at hl 2 rfl) ?_
          refine lv_iload_n hx hb dX6_copyRow_13 rfl (lv_at hl 3 rfl) ?_
          refine zr_iadd hx hb dX6_copyRow_14 ?_
          refine lv_aload_n hx hb dX6_copyRow_15 rfl (lv_at hl 0 rfl) ?_
          refine va_get (D := D) (ci := 6) (v := .ref mw) (C := RX6) (T := TX6) (N := 20) hx hb hU inlX6 hown hK hP 0 rfl rfl 0 (by decide) (hU _ kf_RX6_7) (fun _ h9 => h9) rfl dX6_copyRow_16 ?_
          refine lv_iload_n hx hb dX6_copyRow_19 rfl (lv_at hl 1 rfl) ?_
          refine lv_iload_n hx hb dX6_copyRow_20 rfl (lv_at hl 3 rfl) ?_
          refine zr_iadd hx hb dX6_copyRow_21 ?_
          refine zr_iald hx hb hK hP 1 0 rfl rfl (x + k) (by omega) (by omega) (Nat.le_of_ble_eq_true rfl) dX6_copyRow_22 ?_
          refine zr_iast hx hb hK hP hD hS 1 0 rfl rfl (y + k) (by omega) (by omega) (Nat.le_of_ble_eq_true rfl) dX6_copyRow_23 (fun H locs hP hD hS => ?_)
          have hP : va_P D vwCl [(m0, .inr (6, [.ref mw, .int (iI kn), .int (iI kp), .int (iI sd), .ref mks, .ref mbx, .ref mby, .ref mbi, .int (iI bkn), .ref msn, .int (iI sns), .ref miq, .ref mtb, .ref mrt, .ref mgr, .ref mup, .long (lI bel), .long (lI scl), .long (lI tp), .long (lI bt)])), (mw, .inl (cI, 760, .inl (aI (va_up w1 (y + k) (w1 (x + k)))))), (mks, .inl (cI, 2, .inl (aI ks))), (mbx, .inl (cI, 20, .inl (aI bkx))), (mby, .inl (cI, 20, .inl (aI bky))), (mbi, .inl (cI, 20, .inl (aI bki))), (msn, .inl (cI, 4, .inl (aI sn))), (miq, .inl (cI, 4, .inl (aI iq))), (mtb, .inl (cL, 25, .inr (.inl (aL tb)))), (mrt, .inl (cL, 5, .inr (.inl (aL rt)))), (mgr, .inl (cL, 32, .inr (.inl (aL gr)))), (mup, .inl (cL, 5, .inr (.inl (aL ups))))] H := hP
          have hD : va_D A [(m0, .inr (6, [.ref mw, .int (iI kn), .int (iI kp), .int (iI sd), .ref mks, .ref mbx, .ref mby, .ref mbi, .int (iI bkn), .ref msn, .int (iI sns), .ref miq, .ref mtb, .ref mrt, .ref mgr, .ref mup, .long (lI bel), .long (lI scl), .long (lI tp), .long (lI bt)])), (mw, .inl (cI, 760, .inl (aI (va_up w1 (y + k) (w1 (x + k)))))), (mks, .inl (cI, 2, .inl (aI ks))), (mbx, .inl (cI, 20, .inl (aI bkx))), (mby, .inl (cI, 20, .inl (aI bky))), (mbi, .inl (cI, 20, .inl (aI bki))), (msn, .inl (cI, 4, .inl (aI sn))), (miq, .inl (cI, 4, .inl (aI iq))), (mtb, .inl (cL, 25, .inr (.inl (aL tb)))), (mrt, .inl (cL, 5, .inr (.inl (aL rt)))), (mgr, .inl (cL, 32, .inr (.inl (aL gr)))), (mup, .inl (cL, 5, .inr (.inl (aL ups))))] := hD
          refine lv_iinc (v := iI ((k : Int) + 1)) (lv' := [(3, .int (iI ((k : Int) + 1))), (0, .ref m0), (1, .int (iI (x : Int))), (2, .int (iI (y : Int)))]) hx hb dX6_copyRow_24 hl (k := 3) rfl (iI_add _ _) (by decide) rfl (fun ls hl => ?_)
          refine lv_goto (tgt := 2) hx hb dX6_copyRow_27 (by decide) ?_
          exact ih2 (k + 1) (va_up w1 (y + k) (w1 (x + k))) (by omega) (by rw [hw1]; exact sp_cp_up w h3 k (by omega)) (by omega) _ _ hP hD hS ls (lv_sub hl [1, 2, 3, 0] rfl)
    exact LP2 41 0 w (by omega) ((sp_cp_0 w x y).symm) (by omega) _ _ hP hD hS ls (lv_sub hl [1, 2, 3, 0] rfl)
  rw [hlocs]
  exact hW0 s.heap [] hP hD hS

set_option maxHeartbeats 4000000 in
set_option maxRecDepth 100000 in
theorem c_X6_determinant (l : Launch) (D : va_G) (cI cL cG cM : ClassId) (m0 mw mks mbx mby mbi msn miq mtb mrt mgr mup : Nat) (w : Nat → Int) (kn : Int) (kp : Int) (sd : Int) (ks : Nat → Int) (bkx : Nat → Int) (bky : Nat → Int) (bki : Nat → Int) (bkn : Int) (sn : Nat → Int) (sns : Int) (iq : Nat → Int) (tb : Nat → Int) (rt : Nat → Int) (gr : Nat → Int) (ups : Nat → Int) (bel : Int) (scl : Int) (tp : Int) (bt : Int) (mn : Nat) (rep : Int) (N : Nat) (T : Nat → Nat → Int) (G : Nat → Int) (hm : 1 ≤ mn ∧ mn ≤ 5) (hN : 2 ^ mn = N) (hrep : -1 ≤ rep ∧ rep ≤ 10) (hT : ∀ i k : Nat, i < mn → k < mn → (if (k : Int) = rep then rt i else tb (5 * i + k)) = T i k) (hG : isG T G mn) (sz : Nat) : Met l yX6_determinant (wU yX6_determinant cX6_determinant 12 (some .long)) (rmF 1 23) (pcW D (tyA cI cL cG cM) [(m0, .inr (6, [.ref mw, .int (iI kn), .int (iI kp), .int (iI sd), .ref mks, .ref mbx, .ref mby, .ref mbi, .int (iI bkn), .ref msn, .int (iI sns), .ref miq, .ref mtb, .ref mrt, .ref mgr, .ref mup, .long (lI bel), .long (lI scl), .long (lI tp), .long (lI bt)])), (mw, .inl (cI, 760, .inl (aI w))), (mks, .inl (cI, 2, .inl (aI ks))), (mbx, .inl (cI, 20, .inl (aI bkx))), (mby, .inl (cI, 20, .inl (aI bky))), (mbi, .inl (cI, 20, .inl (aI bki))), (msn, .inl (cI, 4, .inl (aI sn))), (miq, .inl (cI, 4, .inl (aI iq))), (mtb, .inl (cL, 25, .inr (.inl (aL tb)))), (mrt, .inl (cL, 5, .inr (.inl (aL rt)))), (mgr, .inl (cL, 32, .inr (.inl (aL gr)))), (mup, .inl (cL, 5, .inr (.inl (aL ups))))] [.ref m0, .int (iI (mn : Int)), .int (iI rep)] sz) (qWl (S := (Nat → Int)) D (tyA cI cL cG cM) (va_A [(m0, .inr (6, [.ref mw, .int (iI kn), .int (iI kp), .int (iI sd), .ref mks, .ref mbx, .ref mby, .ref mbi, .int (iI bkn), .ref msn, .int (iI sns), .ref miq, .ref mtb, .ref mrt, .ref mgr, .ref mup, .long (lI bel), .long (lI scl), .long (lI tp), .long (lI bt)])), (mw, .inl (cI, 760, .inl (aI w))), (mks, .inl (cI, 2, .inl (aI ks))), (mbx, .inl (cI, 20, .inl (aI bkx))), (mby, .inl (cI, 20, .inl (aI bky))), (mbi, .inl (cI, 20, .inl (aI bki))), (msn, .inl (cI, 4, .inl (aI sn))), (miq, .inl (cI, 4, .inl (aI iq))), (mtb, .inl (cL, 25, .inr (.inl (aL tb)))), (mrt, .inl (cL, 5, .inr (.inl (aL rt)))), (mgr, .inl (cL, 32, .inr (.inl (aL gr)))), (mup, .inl (cL, 5, .inr (.inl (aL ups))))] sz) (fun (z : Int) (u : (Nat → Int)) => z = G (N - 1)) (fun (u : (Nat → Int)) => [(m0, .inr (6, [.ref mw, .int (iI kn), .int (iI kp), .int (iI sd), .ref mks, .ref mbx, .ref mby, .ref mbi, .int (iI bkn), .ref msn, .int (iI sns), .ref miq, .ref mtb, .ref mrt, .ref mgr, .ref mup, .long (lI bel), .long (lI scl), .long (lI tp), .long (lI bt)])), (mw, .inl (cI, 760, .inl (aI w))), (mks, .inl (cI, 2, .inl (aI ks))), (mbx, .inl (cI, 20, .inl (aI bkx))), (mby, .inl (cI, 20, .inl (aI bky))), (mbi, .inl (cI, 20, .inl (aI bki))), (msn, .inl (cI, 4, .inl (aI sn))), (miq, .inl (cI, 4, .inl (aI iq))), (mtb, .inl (cL, 25, .inr (.inl (aL tb)))), (mrt, .inl (cL, 5, .inr (.inl (aL rt)))), (mgr, .inl (cL, 32, .inr (.inl (aL u)))), (mup, .inl (cL, 5, .inr (.inl (aL ups))))])) 0 0 (va_A [(m0, .inr (6, [.ref mw, .int (iI kn), .int (iI kp), .int (iI sd), .ref mks, .ref mbx, .ref mby, .ref mbi, .int (iI bkn), .ref msn, .int (iI sns), .ref miq, .ref mtb, .ref mrt, .ref mgr, .ref mup, .long (lI bel), .long (lI scl), .long (lI tp), .long (lI bt)])), (mw, .inl (cI, 760, .inl (aI w))), (mks, .inl (cI, 2, .inl (aI ks))), (mbx, .inl (cI, 20, .inl (aI bkx))), (mby, .inl (cI, 20, .inl (aI bky))), (mbi, .inl (cI, 20, .inl (aI bki))), (msn, .inl (cI, 4, .inl (aI sn))), (miq, .inl (cI, 4, .inl (aI iq))), (mtb, .inl (cL, 25, .inr (.inl (aL tb)))), (mrt, .inl (cL, 5, .inr (.inl (aL rt)))), (mgr, .inl (cL, 32, .inr (.inl (aL gr)))), (mup, .inl (cL, 5, .inr (.inl (aL ups))))] sz) := by
  refine zm_W (own := RX6) (lv := [(0, .ref m0), (1, .int (iI (mn : Int))), (2, .int (iI rep))]) (QF := fun A => qWl (S := (Nat → Int)) D (tyA cI cL cG cM) A (fun (z : Int) (u : (Nat → Int)) => z = G (N - 1)) (fun (u : (Nat → Int)) => [(m0, .inr (6, [.ref mw, .int (iI kn), .int (iI kp), .int (iI sd), .ref mks, .ref mbx, .ref mby, .ref mbi, .int (iI bkn), .ref msn, .int (iI sns), .ref miq, .ref mtb, .ref mrt, .ref mgr, .ref mup, .long (lI bel), .long (lI scl), .long (lI tp), .long (lI bt)])), (mw, .inl (cI, 760, .inl (aI w))), (mks, .inl (cI, 2, .inl (aI ks))), (mbx, .inl (cI, 20, .inl (aI bkx))), (mby, .inl (cI, 20, .inl (aI bky))), (mbi, .inl (cI, 20, .inl (aI bki))), (msn, .inl (cI, 4, .inl (aI sn))), (miq, .inl (cI, 4, .inl (aI iq))), (mtb, .inl (cL, 25, .inr (.inl (aL tb)))), (mrt, .inl (cL, 5, .inr (.inl (aL rt)))), (mgr, .inl (cL, 32, .inr (.inl (aL u)))), (mup, .inl (cL, 5, .inr (.inl (aL ups))))])) (by decide) rfl (Nat.le_of_ble_eq_true rfl) rfl ?_
  intro p e s m below meth c A args Q hx hb hr hml hown hU hlk hnm hP hK hNst hD hA hS hsz hQ ls hl
  obtain ⟨H, hH⟩ : ∃ H, H = s.heap := ⟨_, rfl⟩
  obtain ⟨locs, hlocs⟩ : ∃ locs : List Loc, locs = [] := ⟨_, rfl⟩
  rw [← hlocs]
  have hW0 : ∀ (H : Heap) (locs : List Loc), va_P D vwCl [(m0, .inr (6, [.ref mw, .int (iI kn), .int (iI kp), .int (iI sd), .ref mks, .ref mbx, .ref mby, .ref mbi, .int (iI bkn), .ref msn, .int (iI sns), .ref miq, .ref mtb, .ref mrt, .ref mgr, .ref mup, .long (lI bel), .long (lI scl), .long (lI tp), .long (lI bt)])), (mw, .inl (cI, 760, .inl (aI w))), (mks, .inl (cI, 2, .inl (aI ks))), (mbx, .inl (cI, 20, .inl (aI bkx))), (mby, .inl (cI, 20, .inl (aI bky))), (mbi, .inl (cI, 20, .inl (aI bki))), (msn, .inl (cI, 4, .inl (aI sn))), (miq, .inl (cI, 4, .inl (aI iq))), (mtb, .inl (cL, 25, .inr (.inl (aL tb)))), (mrt, .inl (cL, 5, .inr (.inl (aL rt)))), (mgr, .inl (cL, 32, .inr (.inl (aL gr)))), (mup, .inl (cL, 5, .inr (.inl (aL ups))))] H → va_D A [(m0, .inr (6, [.ref mw, .int (iI kn), .int (iI kp), .int (iI sd), .ref mks, .ref mbx, .ref mby, .ref mbi, .int (iI bkn), .ref msn, .int (iI sns), .ref miq, .ref mtb, .ref mrt, .ref mgr, .ref mup, .long (lI bel), .long (lI scl), .long (lI tp), .long (lI bt)])), (mw, .inl (cI, 760, .inl (aI w))), (mks, .inl (cI, 2, .inl (aI ks))), (mbx, .inl (cI, 20, .inl (aI bkx))), (mby, .inl (cI, 20, .inl (aI bky))), (mbi, .inl (cI, 20, .inl (aI bki))), (msn, .inl (cI, 4, .inl (aI sn))), (miq, .inl (cI, 4, .inl (aI iq))), (mtb, .inl (cL, 25, .inr (.inl (aL tb)))), (mrt, .inl (cL, 5, .inr (.inl (aL rt)))), (mgr, .inl (cL, 32, .inr (.inl (aL gr)))), (mup, .inl (cL, 5, .inr (.inl (aL ups))))] → va_S A s.heap H locs → W p l e (rmF 1 23) s m args below meth c H locs 0 0 Q (F0 m 0 ls []) := by
    clear hP hD hS hH hlocs H locs
    intro H locs hP hD hS
    have hN1 := pow2_le hm.2
    have hN2 := pow2_pos mn
    rw [hN] at hN1 hN2
    refine lv_aload_n hx hb dX6_determinant_0 rfl (lv_at hl 0 rfl) ?_
    refine va_get (D := D) (ci := 6) (v := .ref mgr) (C := RX6) (T := TX6) (N := 20) hx hb hU inlX6 hown hK hP 0 rfl rfl 14 (by decide) (hU _ kf_RX6_38) (fun _ h9 => h9) rfl dX6_determinant_1 ?_
    refine lv_iconst (v := iI 0) hx hb dX6_determinant_4 rfl ?_
    refine lv_lconst (v := lI 1) hx hb dX6_determinant_5 rfl ?_
    refine zr_last hx hb hK hP hD hS 10 1 rfl rfl 0 (by omega) (by omega) (Nat.le_of_ble_eq_true rfl) dX6_determinant_6 (fun H locs hP hD hS => ?_)
    have hP : va_P D vwCl [(m0, .inr (6, [.ref mw, .int (iI kn), .int (iI kp), .int (iI sd), .ref mks, .ref mbx, .ref mby, .ref mbi, .int (iI bkn), .ref msn, .int (iI sns), .ref miq, .ref mtb, .ref mrt, .ref mgr, .ref mup, .long (lI bel), .long (lI scl), .long (lI tp), .long (lI bt)])), (mw, .inl (cI, 760, .inl (aI w))), (mks, .inl (cI, 2, .inl (aI ks))), (mbx, .inl (cI, 20, .inl (aI bkx))), (mby, .inl (cI, 20, .inl (aI bky))), (mbi, .inl (cI, 20, .inl (aI bki))), (msn, .inl (cI, 4, .inl (aI sn))), (miq, .inl (cI, 4, .inl (aI iq))), (mtb, .inl (cL, 25, .inr (.inl (aL tb)))), (mrt, .inl (cL, 5, .inr (.inl (aL rt)))), (mgr, .inl (cL, 32, .inr (.inl (aL (va_up gr 0 1))))), (mup, .inl (cL, 5, .inr (.inl (aL ups))))] H := hP
    have hD : va_D A [(m0, .inr (6, [.ref mw, .int (iI kn), .int (iI kp), .int (iI sd), .ref mks, .ref mbx, .ref mby, .ref mbi, .int (iI bkn), .ref msn, .int (iI sns), .ref miq, .ref mtb, .ref mrt, .ref mgr, .ref mup, .long (lI bel), .long (lI scl), .long (lI tp), .long (lI bt)])), (mw, .inl (cI, 760, .inl (aI w))), (mks, .inl (cI, 2, .inl (aI ks))), (mbx, .inl (cI, 20, .inl (aI bkx))), (mby, .inl (cI, 20, .inl (aI bky))), (mbi, .inl (cI, 20, .inl (aI bki))), (msn, .inl (cI, 4, .inl (aI sn))), (miq, .inl (cI, 4, .inl (aI iq))), (mtb, .inl (cL, 25, .inr (.inl (aL tb)))), (mrt, .inl (cL, 5, .inr (.inl (aL rt)))), (mgr, .inl (cL, 32, .inr (.inl (aL (va_up gr 0 1))))), (mup, .inl (cL, 5, .inr (.inl (aL ups))))] := hD
    refine lv_iconst (v := iI 1) hx hb dX6_determinant_7 rfl ?_
    refine lv_istore_n (lv' := [(3, .int (iI 1)), (0, .ref m0), (1, .int (iI (mn : Int))), (2, .int (iI rep))]) hx hb dX6_determinant_8 rfl hl (by decide) rfl (fun ls hl => ?_)
    have LP9 : ∀ (n : Nat), ∀ (a : Nat) (gr1 : Nat → Int), (1 ≤ a ∧ a ≤ N) → (∀ b : Nat, b < a → gr1 b = G b) → (N < a + n) → ∀ (H : Heap) (locs : List Loc), va_P D vwCl [(m0, .inr (6, [.ref mw, .int (iI kn), .int (iI kp), .int (iI sd), .ref mks, .ref mbx, .ref mby, .ref mbi, .int (iI bkn), .ref msn, .int (iI sns), .ref miq, .ref mtb, .ref mrt, .ref mgr, .ref mup, .long (lI bel), .long (lI scl), .long (lI tp), .long (lI bt)])), (mw, .inl (cI, 760, .inl (aI w))), (mks, .inl (cI, 2, .inl (aI ks))), (mbx, .inl (cI, 20, .inl (aI bkx))), (mby, .inl (cI, 20, .inl (aI bky))), (mbi, .inl (cI, 20, .inl (aI bki))), (msn, .inl (cI, 4, .inl (aI sn))), (miq, .inl (cI, 4, .inl (aI iq))), (mtb, .inl (cL, 25, .inr (.inl (aL tb)))), (mrt, .inl (cL, 5, .inr (.inl (aL rt)))), (mgr, .inl (cL, 32, .inr (.inl (aL gr1)))), (mup, .inl (cL, 5, .inr (.inl (aL ups))))] H → va_D A [(m0, .inr (6, [.ref mw, .int (iI kn), .int (iI kp), .int (iI sd), .ref mks, .ref mbx, .ref mby, .ref mbi, .int (iI bkn), .ref msn, .int (iI sns), .ref miq, .ref mtb, .ref mrt, .ref mgr, .ref mup, .long (lI bel), .long (lI scl), .long (lI tp), .long (lI bt)])), (mw, .inl (cI, 760, .inl (aI w))), (mks, .inl (cI, 2, .inl (aI ks))), (mbx, .inl (cI, 20, .inl (aI bkx))), (mby, .inl (cI, 20, .inl (aI bky))), (mbi, .inl (cI, 20, .inl (aI bki))), (msn, .inl (cI, 4, .inl (aI sn))), (miq, .inl (cI, 4, .inl (aI iq))), (mtb, .inl (cL, 25, .inr (.inl (aL tb)))), (mrt, .inl (cL, 5, .inr (.inl (aL rt)))), (mgr, .inl (cL, 32, .inr (.inl (aL gr1)))), (mup, .inl (cL, 5, .inr (.inl (aL ups))))] → va_S A s.heap H locs → ∀ (ls : Array Slot), lv_has ls 12 [(0, .ref m0), (1, .int (iI (mn : Int))), (2, .int (iI rep)), (3, .int (iI (a : Int)))] → W p l e (rmF 1 23) s m args below meth c H locs 0 0 Q (F0 m 9 ls []) := by
      intro n
      induction n with
      | zero =>
        intro a gr1 ha hinv hfu
        exfalso
        omega
      | succ n ih9 =>
        intro a gr1 ha hinv hfu H locs hP hD hS ls hl
        refine lv_iload_n hx hb dX6_determinant_9 rfl (lv_at hl 3 rfl) ?_
        refine lv_iconst (v := iI 1) hx hb dX6_determinant_10 rfl ?_
        refine lv_iload_n hx hb dX6_determinant_11 rfl (lv_at hl 1 rfl) ?_
        refine lv_ishl hx hb dX6_determinant_12 ?_
        refine zr_bti (z := (N : Int)) (by rw [bt_shl mn (by omega), hN]) ?_
        refine zr_icmp_ge (tgt := 141) hx hb dX6_determinant_13 (by decide) (by omega) (by omega) (fun c_1 => ?_) (fun c_1 => ?_)
        · skip
          refine lv_aload_n hx hb dX6_determinant_141 rfl (lv_at hl 0 rfl) ?_
          refine va_get (D := D) (ci := 6) (v := .ref mgr) (C := RX6) (T := TX6) (N := 20) hx hb hU inlX6 hown hK hP 0 rfl rfl 14 (by decide) (hU _ kf_RX6_38) (fun _ h9 => h9) rfl dX6_determinant_142 ?_
          refine lv_iconst (v := iI 1) hx hb dX6_determinant_145 rfl ?_
          refine lv_iload_n hx hb dX6_determinant_146 rfl (lv_at hl 1 rfl) ?_
          refine lv_ishl hx hb dX6_determinant_147 ?_
          refine zr_bti (z := (N : Int)) (by rw [bt_shl mn (by omega), hN]) ?_
          refine lv_iconst (v := iI 1) hx hb dX6_determinant_148 rfl ?_
          refine zr_isub hx hb dX6_determinant_149 ?_
          refine zr_lald hx hb hK hP 10 1 rfl rfl (N - 1) (by omega) (by omega) (Nat.le_of_ble_eq_true rfl) dX6_determinant_150 ?_
          rw [hQ]
          exact ze_Wl hx hb hr hlk dX6_determinant_151 gr1 (hinv _ (by omega)) hP hK hD hS
        · skip
          have hgp := gb_pos a (by omega) ha.1
          have hgl := gb_le mn (by omega) a (by omega) (by omega)
          refine lv_iload_n hx hb dX6_determinant_16 rfl (lv_at hl 3 rfl) ?_
          refine lv_iconst (v := iI (-1)) hx hb dX6_determinant_17 rfl ?_
          refine zc_Si (As := [.int (iI (a : Int)), .int (iI (-1))]) (rest := []) (c_X6_greaterIn l D cI cL cG cM a (-1) 0 (by omega) (by omega) (by omega)) hx hb hml hown hU hl.1 ct_yX6_greaterIn kt_yX6_greaterIn km_RX6_73 ⟨rfl, rfl⟩ ⟨Nat.le_of_ble_eq_true rfl, Nat.le_of_ble_eq_true rfl⟩ rfl rfl (Nat.le_of_ble_eq_true rfl) dX6_determinant_18 ⟨Nat.le_of_ble_eq_true rfl, Nat.le_of_ble_eq_true rfl⟩ ?_
          refine zr_rw (v := (((sp_gb a 5 0) : Nat) : Int)) (rfl) ?_
          refine lv_iconst (v := iI 1) hx hb dX6_determinant_21 rfl ?_
          refine zr_isub hx hb dX6_determinant_22 ?_
          refine zr_rw (v := (((sp_gb a 5 0 - 1) : Nat) : Int)) (by omega) ?_
          refine lv_istore (lv' := [(4, .int (iI (((sp_gb a 5 0 - 1) : Nat) : Int))), (0, .ref m0), (1, .int (iI (mn : Int))), (2, .int (iI rep)), (3, .int (iI (a : Int)))]) hx hb dX6_determinant_23 hl (by decide) rfl (fun ls hl => ?_)
          refine lv_lconst (v := lI 0) hx hb dX6_determinant_25 rfl ?_
          refine lv_lstore (lv' := [(5, .long (lI 0)), (4, .int (iI (((sp_gb a 5 0 - 1) : Nat) : Int))), (0, .ref m0), (1, .int (iI (mn : Int))), (2, .int (iI rep)), (3, .int (iI (a : Int)))]) hx hb dX6_determinant_26 hl (by decide) rfl (fun ls hl => ?_)
          refine lv_iconst (v := iI 0) hx hb dX6_determinant_28 rfl ?_
          refine lv_istore (lv' := [(7, .int (iI 0)), (5, .long (lI 0)), (4, .int (iI (((sp_gb a 5 0 - 1) : Nat) : Int))), (0, .ref m0), (1, .int (iI (mn : Int))), (2, .int (iI rep)), (3, .int (iI (a : Int)))]) hx hb dX6_determinant_29 hl (by decide) rfl (fun ls hl => ?_)
          have LP31 : ∀ (n : Nat), ∀ (k : Nat) (sm : Int), (k ≤ mn) → (sm = sp_S T G a k) → (mn < k + n) → ∀ (H : Heap) (locs : List Loc), va_P D vwCl [(m0, .inr (6, [.ref mw, .int (iI kn), .int (iI kp), .int (iI sd), .ref mks, .ref mbx, .ref mby, .ref mbi, .int (iI bkn), .ref msn, .int (iI sns), .ref miq, .ref mtb, .ref mrt, .ref mgr, .ref mup, .long (lI bel), .long (lI scl), .long (lI tp), .long (lI bt)])), (mw, .inl (cI, 760, .inl (aI w))), (mks, .inl (cI, 2, .inl (aI ks))), (mbx, .inl (cI, 20, .inl (aI bkx))), (mby, .inl (cI, 20, .inl (aI bky))), (mbi, .inl (cI, 20, .inl (aI bki))), (msn, .inl (cI, 4, .inl (aI sn))), (miq, .inl (cI, 4, .inl (aI iq))), (mtb, .inl (cL, 25, .inr (.inl (aL tb)))), (mrt, .inl (cL, 5, .inr (.inl (aL rt)))), (mgr, .inl (cL, 32, .inr (.inl (aL gr1)))), (mup, .inl (cL, 5, .inr (.inl (aL ups))))] H → va_D A [(m0, .inr (6, [.ref mw, .int (iI kn), .int (iI kp), .int (iI sd), .ref mks, .ref mbx, .ref mby, .ref mbi, .int (iI bkn), .ref msn, .int (iI sns), .ref miq, .ref mtb, .ref mrt, .ref mgr, .ref mup, .long (lI bel), .long (lI scl), .long (lI tp), .long (lI bt)])), (mw, .inl (cI, 760, .inl (aI w))), (mks, .inl (cI, 2, .inl (aI ks))), (mbx, .inl (cI, 20, .inl (aI bkx))), (mby, .inl (cI, 20, .inl (aI bky))), (mbi, .inl (cI, 20, .inl (aI bki))), (msn, .inl (cI, 4, .inl (aI sn))), (miq, .inl (cI, 4, .inl (aI iq))), (mtb, .inl (cL, 25, .inr (.inl (aL tb)))), (mrt, .inl (cL, 5, .inr (.inl (aL rt)))), (mgr, .inl (cL, 32, .inr (.inl (aL gr1)))), (mup, .inl (cL, 5, .inr (.inl (aL ups))))] → va_S A s.heap H locs → ∀ (ls : Array Slot), lv_has ls 12 [(0, .ref m0), (1, .int (iI (mn : Int))), (2, .int (iI rep)), (3, .int (iI (a : Int))), (4, .int (iI (((sp_gb a 5 0 - 1) : Nat) : Int))), (5, .long (lI sm)), (7, .int (iI (k : Int)))] → W p l e (rmF 1 23) s m args below meth c H locs 0 0 Q (F0 m 31 ls []) := by
            intro n
            induction n with
            | zero =>
              intro k sm hk hsm hfu
              exfalso
              omega
            | succ n ih31 =>
              intro k sm hk hsm hfu H locs hP hD hS ls hl
              refine lv_iload hx hb dX6_determinant_31 (lv_at hl 6 rfl) ?_
              refine lv_iload_n hx hb dX6_determinant_33 rfl (lv_at hl 1 rfl) ?_
              refine zr_icmp_ge (tgt := 127) hx hb dX6_determinant_34 (by decide) (by omega) (by omega) (fun c_2 => ?_) (fun c_2 => ?_)
              · skip
                refine lv_aload_n hx hb dX6_determinant_127 rfl (lv_at hl 0 rfl) ?_
                refine va_get (D := D) (ci := 6) (v := .ref mgr) (C := RX6) (T := TX6) (N := 20) hx hb hU inlX6 hown hK hP 0 rfl rfl 14 (by decide) (hU _ kf_RX6_38) (fun _ h9 => h9) rfl dX6_determinant_128 ?_
                refine lv_iload_n hx hb dX6_determinant_131 rfl (lv_at hl 3 rfl) ?_
                refine lv_lload hx hb dX6_determinant_132 (lv_at hl 5 rfl) ?_
                refine zr_last hx hb hK hP hD hS 10 1 rfl rfl a (by omega) (by omega) (Nat.le_of_ble_eq_true rfl) dX6_determinant_134 (fun H locs hP hD hS => ?_)
                have hP : va_P D vwCl [(m0, .inr (6, [.ref mw, .int (iI kn), .int (iI kp), .int (iI sd), .ref mks, .ref mbx, .ref mby, .ref mbi, .int (iI bkn), .ref msn, .int (iI sns), .ref miq, .ref mtb, .ref mrt, .ref mgr, .ref mup, .long (lI bel), .long (lI scl), .long (lI tp), .long (lI bt)])), (mw, .inl (cI, 760, .inl (aI w))), (mks, .inl (cI, 2, .inl (aI ks))), (mbx, .inl (cI, 20, .inl (aI bkx))), (mby, .inl (cI, 20, .inl (aI bky))), (mbi, .inl (cI, 20, .inl (aI bki))), (msn, .inl (cI, 4, .inl (aI sn))), (miq, .inl (cI, 4, .inl (aI iq))), (mtb, .inl (cL, 25, .inr (.inl (aL tb)))), (mrt, .inl (cL, 5, .inr (.inl (aL rt)))), (mgr, .inl (cL, 32, .inr (.inl (aL (va_up gr1 a sm))))), (mup, .inl (cL, 5, .inr (.inl (aL ups))))] H := hP
                have hD : va_D A [(m0, .inr (6, [.ref mw, .int (iI kn), .int (iI kp), .int (iI sd), .ref mks, .ref mbx, .ref mby, .ref mbi, .int (iI bkn), .ref msn, .int (iI sns), .ref miq, .ref mtb, .ref mrt, .ref mgr, .ref mup, .long (lI bel), .long (lI scl), .long (lI tp), .long (lI bt)])), (mw, .inl (cI, 760, .inl (aI w))), (mks, .inl (cI, 2, .inl (aI ks))), (mbx, .inl (cI, 20, .inl (aI bkx))), (mby, .inl (cI, 20, .inl (aI bky))), (mbi, .inl (cI, 20, .inl (aI bki))), (msn, .inl (cI, 4, .inl (aI sn))), (miq, .inl (cI, 4, .inl (aI iq))), (mtb, .inl (cL, 25, .inr (.inl (aL tb)))), (mrt, .inl (cL, 5, .inr (.inl (aL rt)))), (mgr, .inl (cL, 32, .inr (.inl (aL (va_up gr1 a sm))))), (mup, .inl (cL, 5, .inr (.inl (aL ups))))] := hD
                refine lv_iinc (v := iI ((a : Int) + 1)) (lv' := [(3, .int (iI ((a : Int) + 1))), (0, .ref m0), (1, .int (iI (mn : Int))), (2, .int (iI rep)), (4, .int (iI (((sp_gb a 5 0 - 1) : Nat) : Int))), (5, .long (lI sm)), (7, .int (iI (k : Int)))]) hx hb dX6_determinant_135 hl (k := 3) rfl (iI_add _ _) (by decide) rfl (fun ls hl => ?_)
                refine lv_goto (tgt := 9) hx hb dX6_determinant_138 (by decide) ?_
                exact ih9 (a + 1) (va_up gr1 a sm) (by omega) (fun b hb => by rcases Nat.lt_or_ge b a with q | q; (rw [va_up_ne _ _ (by omega)]; exact hinv b q); (rw [show b = a by omega, va_up_self, hsm, show k = mn by omega]; exact (hG.2 a ha.1 (by omega)).symm)) (by omega) _ _ hP hD hS ls (lv_sub hl [1, 2, 3, 0] rfl)
              · skip
                refine lv_iload hx hb dX6_determinant_37 (lv_at hl 6 rfl) ?_
                refine lv_iload_n hx hb dX6_determinant_39 rfl (lv_at hl 2 rfl) ?_
                refine zr_icmp_ne (tgt := 53) hx hb dX6_determinant_40 (by decide) (by omega) (by omega) (fun cR => ?_) (fun cR => ?_)
                · skip
                  refine lv_aload_n hx hb dX6_determinant_53 rfl (lv_at hl 0 rfl) ?_
                  refine va_get (D := D) (ci := 6) (v := .ref mtb) (C := RX6) (T := TX6) (N := 20) hx hb hU inlX6 hown hK hP 0 rfl rfl 12 (by decide) (hU _ kf_RX6_31) (fun _ h9 => h9) rfl dX6_determinant_54 ?_
                  refine lv_iconst (v := iI 5) hx hb dX6_determinant_57 rfl ?_
                  refine lv_iload hx hb dX6_determinant_58 (lv_at hl 4 rfl) ?_
                  refine zr_imul hx hb dX6_determinant_60 ?_
                  refine lv_iload hx hb dX6_determinant_61 (lv_at hl 6 rfl) ?_
                  refine zr_iadd hx hb dX6_determinant_63 ?_
                  refine zr_lald hx hb hK hP 8 1 rfl rfl ((5 * (sp_gb a 5 0 - 1)) + k) (by omega) (by omega) (Nat.le_of_ble_eq_true rfl) dX6_determinant_64 ?_
                  refine zr_rwl (v := (T (sp_gb a 5 0 - 1) k)) (by rw [← hT _ k (by omega) (by omega), if_neg cR]) ?_
                  refine lv_lstore (lv' := [(8, .long (lI (T (sp_gb a 5 0 - 1) k))), (0, .ref m0), (1, .int (iI (mn : Int))), (2, .int (iI rep)), (3, .int (iI (a : Int))), (4, .int (iI (((sp_gb a 5 0 - 1) : Nat) : Int))), (5, .long (lI sm)), (7, .int (iI (k : Int)))]) hx hb dX6_determinant_65 hl (by decide) rfl (fun ls hl => ?_)
                  refine lv_iload_n hx hb dX6_determinant_67 rfl (lv_at hl 4 rfl) ?_
                  refine lv_iload hx hb dX6_determinant_68 (lv_at hl 7 rfl) ?_
                  refine lv_ishr hx hb dX6_determinant_70 ?_
                  refine zr_bti (z := (((a >>> k) : Nat) : Int)) (bt_shr a (by omega) k (by omega)) ?_
                  refine lv_iconst (v := iI 1) hx hb dX6_determinant_71 rfl ?_
                  refine lv_iand hx hb dX6_determinant_72 ?_
                  refine zr_bti (z := ((((a >>> k) % 2) : Nat) : Int)) (bt_and1 _ (by have := Nat.shiftRight_le a k; omega)) ?_
                  refine lv_iconst (v := iI 1) hx hb dX6_determinant_73 rfl ?_
                  refine zr_icmp_ne (tgt := 94) hx hb dX6_determinant_74 (by decide) (by omega) (by omega) (fun cB => ?_) (fun cB => ?_)
                  · skip
                    refine lv_lconst (v := lI 0) hx hb dX6_determinant_94 rfl ?_
                    refine lv_lstore (lv' := [(10, .long (lI 0)), (8, .long (lI (T (sp_gb a 5 0 - 1) k))), (0, .ref m0), (1, .int (iI (mn : Int))), (2, .int (iI rep)), (3, .int (iI (a : Int))), (4, .int (iI (((sp_gb a 5 0 - 1) : Nat) : Int))), (5, .long (lI sm)), (7, .int (iI (k : Int)))]) hx hb dX6_determinant_95 hl (by decide) rfl (fun ls hl => ?_)
                    refine lv_lload hx hb dX6_determinant_97 (lv_at hl 7 rfl) ?_
                    refine lv_iload_n hx hb dX6_determinant_99 rfl (lv_at hl 5 rfl) ?_
                    refine lv_iload hx hb dX6_determinant_100 (lv_at hl 8 rfl) ?_
                    refine zc_Si (As := [.int (iI (a : Int)), .int (iI (k : Int))]) (rest := [.long (lI sm)]) (c_X6_greaterIn l D cI cL cG cM a (k : Int) (k + 1) (by omega) (by omega) (by omega)) hx hb hml hown hU hl.1 ct_yX6_greaterIn kt_yX6_greaterIn km_RX6_73 ⟨rfl, rfl⟩ ⟨Nat.le_of_ble_eq_true rfl, Nat.le_of_ble_eq_true rfl⟩ rfl rfl (Nat.le_of_ble_eq_true rfl) dX6_determinant_102 ⟨Nat.le_of_ble_eq_true rfl, Nat.le_of_ble_eq_true rfl⟩ ?_
                    refine lv_iconst (v := iI 2) hx hb dX6_determinant_105 rfl ?_
                    have hgb := sp_gb_le a (5 - (k + 1)) (k + 1)
                    refine zr_irem hx hb dX6_determinant_106 (by omega) (by omega) (by omega) ?_
                    refine zr_rw (v := (((sp_gb a (5 - (k + 1)) (k + 1) % 2) : Nat) : Int)) (tmod_nat _ 2) ?_
                    refine zr_if_ne (tgt := 115) hx hb dX6_determinant_107 (by decide) (by omega) (fun cS => ?_) (fun cS => ?_)
                    · skip
                      refine lv_lload hx hb dX6_determinant_115 (lv_at hl 0 rfl) ?_
                      refine zr_lneg hx hb dX6_determinant_117 ?_
                      refine zr_ladd hx hb dX6_determinant_118 ?_
                      refine lv_lstore (lv' := [(5, .long (lI (sm + (-0)))), (10, .long (lI 0)), (8, .long (lI (T (sp_gb a 5 0 - 1) k))), (0, .ref m0), (1, .int (iI (mn : Int))), (2, .int (iI rep)), (3, .int (iI (a : Int))), (4, .int (iI (((sp_gb a 5 0 - 1) : Nat) : Int))), (7, .int (iI (k : Int)))]) hx hb dX6_determinant_119 hl (by decide) rfl (fun ls hl => ?_)
                      refine lv_iinc (v := iI ((k : Int) + 1)) (lv' := [(7, .int (iI ((k : Int) + 1))), (5, .long (lI (sm + (-0)))), (10, .long (lI 0)), (8, .long (lI (T (sp_gb a 5 0 - 1) k))), (0, .ref m0), (1, .int (iI (mn : Int))), (2, .int (iI rep)), (3, .int (iI (a : Int))), (4, .int (iI (((sp_gb a 5 0 - 1) : Nat) : Int)))]) hx hb dX6_determinant_121 hl (k := 8) rfl (iI_add _ _) (by decide) rfl (fun ls hl => ?_)
                      refine lv_goto (tgt := 31) hx hb dX6_determinant_124 (by decide) ?_
                      exact ih31 (k + 1) (sm + (-0)) (by omega) (by rw [hsm, sp_S, if_neg (by omega), sp_tm, if_neg (by omega)]) (by omega) _ _ hP hD hS ls (lv_sub hl [4, 5, 6, 7, 8, 1, 0] rfl)
                    · skip
                      refine lv_lload hx hb dX6_determinant_110 (lv_at hl 0 rfl) ?_
                      refine lv_goto (tgt := 118) hx hb dX6_determinant_112 (by decide) ?_
                      refine zr_ladd hx hb dX6_determinant_118 ?_
                      refine lv_lstore (lv' := [(5, .long (lI (sm + 0))), (10, .long (lI 0)), (8, .long (lI (T (sp_gb a 5 0 - 1) k))), (0, .ref m0), (1, .int (iI (mn : Int))), (2, .int (iI rep)), (3, .int (iI (a : Int))), (4, .int (iI (((sp_gb a 5 0 - 1) : Nat) : Int))), (7, .int (iI (k : Int)))]) hx hb dX6_determinant_119 hl (by decide) rfl (fun ls hl => ?_)
                      refine lv_iinc (v := iI ((k : Int) + 1)) (lv' := [(7, .int (iI ((k : Int) + 1))), (5, .long (lI (sm + 0))), (10, .long (lI 0)), (8, .long (lI (T (sp_gb a 5 0 - 1) k))), (0, .ref m0), (1, .int (iI (mn : Int))), (2, .int (iI rep)), (3, .int (iI (a : Int))), (4, .int (iI (((sp_gb a 5 0 - 1) : Nat) : Int)))]) hx hb dX6_determinant_121 hl (k := 8) rfl (iI_add _ _) (by decide) rfl (fun ls hl => ?_)
                      refine lv_goto (tgt := 31) hx hb dX6_determinant_124 (by decide) ?_
                      exact ih31 (k + 1) (sm + 0) (by omega) (by rw [hsm, sp_S, if_pos (by omega), sp_tm, if_neg (by omega)]) (by omega) _ _ hP hD hS ls (lv_sub hl [4, 5, 6, 7, 8, 1, 0] rfl)
                  · skip
                    have hbs := bt_sub a (by omega) k (by omega) (by omega)
                    have hp1 := pow2_pos k
                    refine lv_lload hx hb dX6_determinant_77 (lv_at hl 0 rfl) ?_
                    refine lv_aload_n hx hb dX6_determinant_79 rfl (lv_at hl 1 rfl) ?_
                    refine va_get (D := D) (ci := 6) (v := .ref mgr) (C := RX6) (T := TX6) (N := 20) hx hb hU inlX6 hown hK hP 0 rfl rfl 14 (by decide) (hU _ kf_RX6_38) (fun _ h9 => h9) rfl dX6_determinant_80 ?_
                    refine lv_iload_n hx hb dX6_determinant_83 rfl (lv_at hl 4 rfl) ?_
                    refine lv_iconst (v := iI 1) hx hb dX6_determinant_84 rfl ?_
                    refine lv_iload hx hb dX6_determinant_85 (lv_at hl 7 rfl) ?_
                    refine lv_ishl hx hb dX6_determinant_87 ?_
                    refine zr_bti (z := (((2 ^ k) : Nat) : Int)) (bt_shl k (by omega)) ?_
                    refine zr_isub hx hb dX6_determinant_88 ?_
                    refine zr_lald hx hb hK hP 10 1 rfl rfl (a - 2 ^ k) (by omega) (by omega) (Nat.le_of_ble_eq_true rfl) dX6_determinant_89 ?_
                    refine zr_rwl (v := (G (a - 2 ^ k))) (hinv _ (by omega)) ?_
                    refine zr_lmul hx hb dX6_determinant_90 ?_
                    refine lv_goto (tgt := 95) hx hb dX6_determinant_91 (by decide) ?_
                    refine lv_lstore (lv' := [(10, .long (lI ((T (sp_gb a 5 0 - 1) k) * (G (a - 2 ^ k))))), (8, .long (lI (T (sp_gb a 5 0 - 1) k))), (0, .ref m0), (1, .int (iI (mn : Int))), (2, .int (iI rep)), (3, .int (iI (a : Int))), (4, .int (iI (((sp_gb a 5 0 - 1) : Nat) : Int))), (5, .long (lI sm)), (7, .int (iI (k : Int)))]) hx hb dX6_determinant_95 hl (by decide) rfl (fun ls hl => ?_)
                    refine lv_lload hx hb dX6_determinant_97 (lv_at hl 7 rfl) ?_
                    refine lv_iload_n hx hb dX6_determinant_99 rfl (lv_at hl 5 rfl) ?_
                    refine lv_iload hx hb dX6_determinant_100 (lv_at hl 8 rfl) ?_
                    refine zc_Si (As := [.int (iI (a : Int)), .int (iI (k : Int))]) (rest := [.long (lI sm)]) (c_X6_greaterIn l D cI cL cG cM a (k : Int) (k + 1) (by omega) (by omega) (by omega)) hx hb hml hown hU hl.1 ct_yX6_greaterIn kt_yX6_greaterIn km_RX6_73 ⟨rfl, rfl⟩ ⟨Nat.le_of_ble_eq_true rfl, Nat.le_of_ble_eq_true rfl⟩ rfl rfl (Nat.le_of_ble_eq_true rfl) dX6_determinant_102 ⟨Nat.le_of_ble_eq_true rfl, Nat.le_of_ble_eq_true rfl⟩ ?_
                    refine lv_iconst (v := iI 2) hx hb dX6_determinant_105 rfl ?_
                    have hgb := sp_gb_le a (5 - (k + 1)) (k + 1)
                    refine zr_irem hx hb dX6_determinant_106 (by omega) (by omega) (by omega) ?_
                    refine zr_rw (v := (((sp_gb a (5 - (k + 1)) (k + 1) % 2) : Nat) : Int)) (tmod_nat _ 2) ?_
                    refine zr_if_ne (tgt := 115) hx hb dX6_determinant_107 (by decide) (by omega) (fun cS => ?_) (fun cS => ?_)
                    · skip
                      refine lv_lload hx hb dX6_determinant_115 (lv_at hl 0 rfl) ?_
                      refine zr_lneg hx hb dX6_determinant_117 ?_
                      refine zr_ladd hx hb dX6_determinant_118 ?_
                      refine lv_lstore (lv' := [(5, .long (lI (sm + (-((T (sp_gb a 5 0 - 1) k) * (G (a - 2 ^ k))))))), (10, .long (lI ((T (sp_gb a 5 0 - 1) k) * (G (a - 2 ^ k))))), (8, .long (lI (T (sp_gb a 5 0 - 1) k))), (0, .ref m0), (1, .int (iI (mn : Int))), (2, .int (iI rep)), (3, .int (iI (a : Int))), (4, .int (iI (((sp_gb a 5 0 - 1) : Nat) : Int))), (7, .int (iI (k : Int)))]) hx hb dX6_determinant_119 hl (by decide) rfl (fun ls hl => ?_)
                      refine lv_iinc (v := iI ((k : Int) + 1)) (lv' := [(7, .int (iI ((k : Int) + 1))), (5, .long (lI (sm + (-((T (sp_gb a 5 0 - 1) k) * (G (a - 2 ^ k))))))), (10, .long (lI ((T (sp_gb a 5 0 - 1) k) * (G (a - 2 ^ k))))), (8, .long (lI (T (sp_gb a 5 0 - 1) k))), (0, .ref m0), (1, .int (iI (mn : Int))), (2, .int (iI rep)), (3, .int (iI (a : Int))), (4, .int (iI (((sp_gb a 5 0 - 1) : Nat) : Int)))]) hx hb dX6_determinant_121 hl (k := 8) rfl (iI_add _ _) (by decide) rfl (fun ls hl => ?_)
                      refine lv_goto (tgt := 31) hx hb dX6_determinant_124 (by decide) ?_
                      exact ih31 (k + 1) (sm + (-((T (sp_gb a 5 0 - 1) k) * (G (a - 2 ^ k))))) (by omega) (by rw [hsm, sp_S, if_neg (by omega), sp_tm, if_pos (by omega)]) (by omega) _ _ hP hD hS ls (lv_sub hl [4, 5, 6, 7, 8, 1, 0] rfl)
                    · skip
                      refine lv_lload hx hb dX6_determinant_110 (lv_at hl 0 rfl) ?_
                      refine lv_goto (tgt := 118) hx hb dX6_determinant_112 (by decide) ?_
                      refine zr_ladd hx hb dX6_determinant_118 ?_
                      refine lv_lstore (lv' := [(5, .long (lI (sm + ((T (sp_gb a 5 0 - 1) k) * (G (a - 2 ^ k)))))), (10, .long (lI ((T (sp_gb a 5 0 - 1) k) * (G (a - 2 ^ k))))), (8, .long (lI (T (sp_gb a 5 0 - 1) k))), (0, .ref m0), (1, .int (iI (mn : Int))), (2, .int (iI rep)), (3, .int (iI (a : Int))), (4, .int (iI (((sp_gb a 5 0 - 1) : Nat) : Int))), (7, .int (iI (k : Int)))]) hx hb dX6_determinant_119 hl (by decide) rfl (fun ls hl => ?_)
                      refine lv_iinc (v := iI ((k : Int) + 1)) (lv' := [(7, .int (iI ((k : Int) + 1))), (5, .long (lI (sm + ((T (sp_gb a 5 0 - 1) k) * (G (a - 2 ^ k)))))), (10, .long (lI ((T (sp_gb a 5 0 - 1) k) * (G (a - 2 ^ k))))), (8, .long (lI (T (sp_gb a 5 0 - 1) k))), (0, .ref m0), (1, .int (iI (mn : Int))), (2, .int (iI rep)), (3, .int (iI (a : Int))), (4, .int (iI (((sp_gb a 5 0 - 1) : Nat) : Int)))]) hx hb dX6_determinant_121 hl (k := 8) rfl (iI_add _ _) (by decide) rfl (fun ls hl => ?_)
                      refine lv_goto (tgt := 31) hx hb dX6_determinant_124 (by decide) ?_
                      exact ih31 (k + 1) (sm + ((T (sp_gb a 5 0 - 1) k) * (G (a - 2 ^ k)))) (by omega) (by rw [hsm, sp_S, if_pos (by omega), sp_tm, if_pos (by omega)]) (by omega) _ _ hP hD hS ls (lv_sub hl [4, 5, 6, 7, 8, 1, 0] rfl)
                · skip
                  refine lv_aload_n hx hb dX6_determinant_43 rfl (lv_at hl 0 rfl) ?_
                  refine va_get (D := D) (ci := 6) (v := .ref mrt) (C := RX6) (T := TX6) (N := 20) hx hb hU inlX6 hown hK hP 0 rfl rfl 13 (by decide) (hU _ kf_RX6_35) (fun _ h9 => h9) rfl dX6_determinant_44 ?_
                  refine lv_iload hx hb dX6_determinant_47 (lv_at hl 4 rfl) ?_
                  refine zr_lald hx hb hK hP 9 1 rfl rfl (sp_gb a 5 0 - 1) (by omega) (by omega) (Nat.le_of_ble_eq_true rfl) dX6_determinant_49 ?_
                  refine lv_goto (tgt := 65) hx hb dX6_determinant_50 (by decide) ?_
                  refine zr_rwl (v := (T (sp_gb a 5 0 - 1) k)) (by rw [← hT _ k (by omega) (by omega), if_pos cR]) ?_
                  refine lv_lstore (lv' := [(8, .long (lI (T (sp_gb a 5 0 - 1) k))), (0, .ref m0), (1, .int (iI (mn : Int))), (2, .int (iI rep)), (3, .int (iI (a : Int))), (4, .int (iI (((sp_gb a 5 0 - 1) : Nat) : Int))), (5, .long (lI sm)), (7, .int (iI (k : Int)))]) hx hb dX6_determinant_65 hl (by decide) rfl (fun ls hl => ?_)
                  refine lv_iload_n hx hb dX6_determinant_67 rfl (lv_at hl 4 rfl) ?_
                  refine lv_iload hx hb dX6_determinant_68 (lv_at hl 7 rfl) ?_
                  refine lv_ishr hx hb dX6_determinant_70 ?_
                  refine zr_bti (z := (((a >>> k) : Nat) : Int)) (bt_shr a (by omega) k (by omega)) ?_
                  refine lv_iconst (v := iI 1) hx hb dX6_determinant_71 rfl ?_
                  refine lv_iand hx hb dX6_determinant_72 ?_
                  refine zr_bti (z := ((((a >>> k) % 2) : Nat) : Int)) (bt_and1 _ (by have := Nat.shiftRight_le a k; omega)) ?_
                  refine lv_iconst (v := iI 1) hx hb dX6_determinant_73 rfl ?_
                  refine zr_icmp_ne (tgt := 94) hx hb dX6_determinant_74 (by decide) (by omega) (by omega) (fun cB => ?_) (fun cB => ?_)
                  · skip
                    refine lv_lconst (v := lI 0) hx hb dX6_determinant_94 rfl ?_
                    refine lv_lstore (lv' := [(10, .long (lI 0)), (8, .long (lI (T (sp_gb a 5 0 - 1) k))), (0, .ref m0), (1, .int (iI (mn : Int))), (2, .int (iI rep)), (3, .int (iI (a : Int))), (4, .int (iI (((sp_gb a 5 0 - 1) : Nat) : Int))), (5, .long (lI sm)), (7, .int (iI (k : Int)))]) hx hb dX6_determinant_95 hl (by decide) rfl (fun ls hl => ?_)
                    refine lv_lload hx hb dX6_determinant_97 (lv_at hl 7 rfl) ?_
                    refine lv_iload_n hx hb dX6_determinant_99 rfl (lv_at hl 5 rfl) ?_
                    refine lv_iload hx hb dX6_determinant_100 (lv_at hl 8 rfl) ?_
                    refine zc_Si (As := [.int (iI (a : Int)), .int (iI (k : Int))]) (rest := [.long (lI sm)]) (c_X6_greaterIn l D cI cL cG cM a (k : Int) (k + 1) (by omega) (by omega) (by omega)) hx hb hml hown hU hl.1 ct_yX6_greaterIn kt_yX6_greaterIn km_RX6_73 ⟨rfl, rfl⟩ ⟨Nat.le_of_ble_eq_true rfl, Nat.le_of_ble_eq_true rfl⟩ rfl rfl (Nat.le_of_ble_eq_true rfl) dX6_determinant_102 ⟨Nat.le_of_ble_eq_true rfl, Nat.le_of_ble_eq_true rfl⟩ ?_
                    refine lv_iconst (v := iI 2) hx hb dX6_determinant_105 rfl ?_
                    have hgb := sp_gb_le a (5 - (k + 1)) (k + 1)
                    refine zr_irem hx hb dX6_determinant_106 (by omega) (by omega) (by omega) ?_
                    refine zr_rw (v := (((sp_gb a (5 - (k + 1)) (k + 1) % 2) : Nat) : Int)) (tmod_nat _ 2) ?_
                    refine zr_if_ne (tgt := 115) hx hb dX6_determinant_107 (by decide) (by omega) (fun cS => ?_) (fun cS => ?_)
                    · skip
                      refine lv_lload hx hb dX6_determinant_115 (lv_at hl 0 rfl) ?_
                      refine zr_lneg hx hb dX6_determinant_117 ?_
                      refine zr_ladd hx hb dX6_determinant_118 ?_
                      refine lv_lstore (lv' := [(5, .long (lI (sm + (-0)))), (10, .long (lI 0)), (8, .long (lI (T (sp_gb a 5 0 - 1) k))), (0, .ref m0), (1, .int (iI (mn : Int))), (2, .int (iI rep)), (3, .int (iI (a : Int))), (4, .int (iI (((sp_gb a 5 0 - 1) : Nat) : Int))), (7, .int (iI (k : Int)))]) hx hb dX6_determinant_119 hl (by decide) rfl (fun ls hl => ?_)
                      refine lv_iinc (v := iI ((k : Int) + 1)) (lv' := [(7, .int (iI ((k : Int) + 1))), (5, .long (lI (sm + (-0)))), (10, .long (lI 0)), (8, .long (lI (T (sp_gb a 5 0 - 1) k))), (0, .ref m0), (1, .int (iI (mn : Int))), (2, .int (iI rep)), (3, .int (iI (a : Int))), (4, .int (iI (((sp_gb a 5 0 - 1) : Nat) : Int)))]) hx hb dX6_determinant_121 hl (k := 8) rfl (iI_add _ _) (by decide) rfl (fun ls hl => ?_)
                      refine lv_goto (tgt := 31) hx hb dX6_determinant_124 (by decide) ?_
                      exact ih31 (k + 1) (sm + (-0)) (by omega) (by rw [hsm, sp_S, if_neg (by omega), sp_tm, if_neg (by omega)]) (by omega) _ _ hP hD hS ls (lv_sub hl [4, 5, 6, 7, 8, 1, 0] rfl)
                    · skip
                      refine lv_lload hx hb dX6_determinant_110 (lv_at hl 0 rfl) ?_
                      refine lv_goto (tgt := 118) hx hb dX6_determinant_112 (by decide) ?_
                      refine zr_ladd hx hb dX6_determinant_118 ?_
                      refine lv_lstore (lv' := [(5, .long (lI (sm + 0))), (10, .long (lI 0)), (8, .long (lI (T (sp_gb a 5 0 - 1) k))), (0, .ref m0), (1, .int (iI (mn : Int))), (2, .int (iI rep)), (3, .int (iI (a : Int))), (4, .int (iI (((sp_gb a 5 0 - 1) : Nat) : Int))), (7, .int (iI (k : Int)))]) hx hb dX6_determinant_119 hl (by decide) rfl (fun ls hl => ?_)
                      refine lv_iinc (v := iI ((k : Int) + 1)) (lv' := [(7, .int (iI ((k : Int) + 1))), (5, .long (lI (sm + 0))), (10, .long (lI 0)), (8, .long (lI (T (sp_gb a 5 0 - 1) k))), (0, .ref m0), (1, .int (iI (mn : Int))), (2, .int (iI rep)), (3, .int (iI (a : Int))), (4, .int (iI (((sp_gb a 5 0 - 1) : Nat) : Int)))]) hx hb dX6_determinant_121 hl (k := 8) rfl (iI_add _ _) (by decide) rfl (fun ls hl => ?_)
                      refine lv_goto (tgt := 31) hx hb dX6_determinant_124 (by decide) ?_
                      exact ih31 (k + 1) (sm + 0) (by omega) (by rw [hsm, sp_S, if_pos (by omega), sp_tm, if_neg (by omega)]) (by omega) _ _ hP hD hS ls (lv_sub hl [4, 5, 6, 7, 8, 1, 0] rfl)
                  · skip
                    have hbs := bt_sub a (by omega) k (by omega) (by omega)
                    have hp1 := pow2_pos k
                    refine lv_lload hx hb dX6_determinant_77 (lv_at hl 0 rfl) ?_
                    refine lv_aload_n hx hb dX6_determinant_79 rfl (lv_at hl 1 rfl) ?_
                    refine va_get (D := D) (ci := 6) (v := .ref mgr) (C := RX6) (T := TX6) (N := 20) hx hb hU inlX6 hown hK hP 0 rfl rfl 14 (by decide) (hU _ kf_RX6_38) (fun _ h9 => h9) rfl dX6_determinant_80 ?_
                    refine lv_iload_n hx hb dX6_determinant_83 rfl (lv_at hl 4 rfl) ?_
                    refine lv_iconst (v := iI 1) hx hb dX6_determinant_84 rfl ?_
                    refine lv_iload hx hb dX6_determinant_85 (lv_at hl 7 rfl) ?_
                    refine lv_ishl hx hb dX6_determinant_87 ?_
                    refine zr_bti (z := (((2 ^ k) : Nat) : Int)) (bt_shl k (by omega)) ?_
                    refine zr_isub hx hb dX6_determinant_88 ?_
                    refine zr_lald hx hb hK hP 10 1 rfl rfl (a - 2 ^ k) (by omega) (by omega) (Nat.le_of_ble_eq_true rfl) dX6_determinant_89 ?_
                    refine zr_rwl (v := (G (a - 2 ^ k))) (hinv _ (by omega)) ?_
                    refine zr_lmul hx hb dX6_determinant_90 ?_
                    refine lv_goto (tgt := 95) hx hb dX6_determinant_91 (by decide) ?_
                    refine lv_lstore (lv' := [(10, .long (lI ((T (sp_gb a 5 0 - 1) k) * (G (a - 2 ^ k))))), (8, .long (lI (T (sp_gb a 5 0 - 1) k))), (0, .ref m0), (1, .int (iI (mn : Int))), (2, .int (iI rep)), (3, .int (iI (a : Int))), (4, .int (iI (((sp_gb a 5 0 - 1) : Nat) : Int))), (5, .long (lI sm)), (7, .int (iI (k : Int)))]) hx hb dX6_determinant_95 hl (by decide) rfl (fun ls hl => ?_)
                    refine lv_lload hx hb dX6_determinant_97 (lv_at hl 7 rfl) ?_
                    refine lv_iload_n hx hb dX6_determinant_99 rfl (lv_at hl 5 rfl) ?_
                    refine lv_iload hx hb dX6_determinant_100 (lv_at hl 8 rfl) ?_
                    refine zc_Si (As := [.int (iI (a : Int)), .int (iI (k : Int))]) (rest := [.long (lI sm)]) (c_X6_greaterIn l D cI cL cG cM a (k : Int) (k + 1) (by omega) (by omega) (by omega)) hx hb hml hown hU hl.1 ct_yX6_greaterIn kt_yX6_greaterIn km_RX6_73 ⟨rfl, rfl⟩ ⟨Nat.le_of_ble_eq_true rfl, Nat.le_of_ble_eq_true rfl⟩ rfl rfl (Nat.le_of_ble_eq_true rfl) dX6_determinant_102 ⟨Nat.le_of_ble_eq_true rfl, Nat.le_of_ble_eq_true rfl⟩ ?_
                    refine lv_iconst (v := iI 2) hx hb dX6_determinant_105 rfl ?_
                    have hgb := sp_gb_le a (5 - (k + 1)) (k + 1)
                    refine zr_irem hx hb dX6_determinant_106 (by omega) (by omega) (by omega) ?_
                    refine zr_rw (v := (((sp_gb a (5 - (k + 1)) (k + 1) % 2) : Nat) : Int)) (tmod_nat _ 2) ?_
                    refine zr_if_ne (tgt := 115) hx hb dX6_determinant_107 (by decide) (by omega) (fun cS => ?_) (fun cS => ?_)
                    · skip
                      refine lv_lload hx hb dX6_determinant_115 (lv_at hl 0 rfl) ?_
                      refine zr_lneg hx hb dX6_determinant_117 ?_
                      refine zr_ladd hx hb dX6_determinant_118 ?_
                      refine lv_lstore (lv' := [(5, .long (lI (sm + (-((T (sp_gb a 5 0 - 1) k) * (G (a - 2 ^ k))))))), (10, .long (lI ((T (sp_gb a 5 0 - 1) k) * (G (a - 2 ^ k))))), (8, .long (lI (T (sp_gb a 5 0 - 1) k))), (0, .ref m0), (1, .int (iI (mn : Int))), (2, .int (iI rep)), (3, .int (iI (a : Int))), (4, .int (iI (((sp_gb a 5 0 - 1) : Nat) : Int))), (7, .int (iI (k : Int)))]) hx hb dX6_determinant_119 hl (by decide) rfl (fun ls hl => ?_)
                      refine lv_iinc (v := iI ((k : Int) + 1)) (lv' := [(7, .int (iI ((k : Int) + 1))), (5, .long (lI (sm + (-((T (sp_gb a 5 0 - 1) k) * (G (a - 2 ^ k))))))), (10, .long (lI ((T (sp_gb a 5 0 - 1) k) * (G (a - 2 ^ k))))), (8, .long (lI (T (sp_gb a 5 0 - 1) k))), (0, .ref m0), (1, .int (iI (mn : Int))), (2, .int (iI rep)), (3, .int (iI (a : Int))), (4, .int (iI (((sp_gb a 5 0 - 1) : Nat) : Int)))]) hx hb dX6_determinant_121 hl (k := 8) rfl (iI_add _ _) (by decide) rfl (fun ls hl => ?_)
                      refine lv_goto (tgt := 31) hx hb dX6_determinant_124 (by decide) ?_
                      exact ih31 (k + 1) (sm + (-((T (sp_gb a 5 0 - 1) k) * (G (a - 2 ^ k))))) (by omega) (by rw [hsm, sp_S, if_neg (by omega), sp_tm, if_pos (by omega)]) (by omega) _ _ hP hD hS ls (lv_sub hl [4, 5, 6, 7, 8, 1, 0] rfl)
                    · skip
                      refine lv_lload hx hb dX6_determinant_110 (lv_at hl 0 rfl) ?_
                      refine lv_goto (tgt := 118) hx hb dX6_determinant_112 (by decide) ?_
                      refine zr_ladd hx hb dX6_determinant_118 ?_
                      refine lv_lstore (lv' := [(5, .long (lI (sm + ((T (sp_gb a 5 0 - 1) k) * (G (a - 2 ^ k)))))), (10, .long (lI ((T (sp_gb a 5 0 - 1) k) * (G (a - 2 ^ k))))), (8, .long (lI (T (sp_gb a 5 0 - 1) k))), (0, .ref m0), (1, .int (iI (mn : Int))), (2, .int (iI rep)), (3, .int (iI (a : Int))), (4, .int (iI (((sp_gb a 5 0 - 1) : Nat) : Int))), (7, .int (iI (k : Int)))]) hx hb dX6_determinant_119 hl (by decide) rfl (fun ls hl => ?_)
                      refine lv_iinc (v := iI ((k : Int) + 1)) (lv' := [(7, .int (iI ((k : Int) + 1))), (5, .long (lI (sm + ((T (sp_gb a 5 0 - 1) k) * (G (a - 2 ^ k)))))), (10, .long (lI ((T (sp_gb a 5 0 - 1) k) * (G (a - 2 ^ k))))), (8, .long (lI (T (sp_gb a 5 0 - 1) k))), (0, .ref m0), (1, .int (iI (mn : Int))), (2, .int (iI rep)), (3, .int (iI (a : Int))), (4, .int (iI (((sp_gb a 5 0 - 1) : Nat) : Int)))]) hx hb dX6_determinant_121 hl (k := 8) rfl (iI_add _ _) (by decide) rfl (fun ls hl => ?_)
                      refine lv_goto (tgt := 31) hx hb dX6_determinant_124 (by decide) ?_
                      exact ih31 (k + 1) (sm + ((T (sp_gb a 5 0 - 1) k) * (G (a - 2 ^ k)))) (by omega) (by rw [hsm, sp_S, if_pos (by omega), sp_tm, if_pos (by omega)]) (by omega) _ _ hP hD hS ls (lv_sub hl [4, 5, 6, 7, 8, 1, 0] rfl)
          exact LP31 (mn + 1) 0 0 (by omega) (rfl) (by omega) _ _ hP hD hS ls (lv_sub hl [3, 4, 5, 6, 2, 1, 0] rfl)
    exact LP9 (N + 1) 1 (va_up gr 0 1) (by omega) (fun b hb => by rw [show b = 0 by omega, va_up_self]; exact hG.1.symm) (by omega) _ _ hP hD hS ls (lv_sub hl [1, 2, 3, 0] rfl)
  rw [hlocs]
  exact hW0 s.heap [] hP hD hS
