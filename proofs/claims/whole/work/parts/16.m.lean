set_option maxHeartbeats 4000000 in
set_option maxRecDepth 100000 in
theorem c_X6_place (l : Launch) (D : va_G) (cI cL cG cM : ClassId) (m0 mw mks mbx mby mbi msn miq mtb mrt mgr mup : Nat) (w : Nat → Int) (kn : Int) (kp : Int) (sd : Int) (ks : Nat → Int) (bkx : Nat → Int) (bky : Nat → Int) (bki : Nat → Int) (bkn : Int) (sn : Nat → Int) (sns : Int) (iq : Nat → Int) (tb : Nat → Int) (rt : Nat → Int) (gr : Nat → Int) (ups : Nat → Int) (bel : Int) (scl : Int) (tp : Int) (bt : Int) (x : Int) (y : Int) (wh : Int) (hv : vR w) (g1 : -2147483648 ≤ x ∧ x ≤ 2147483647) (g2 : -2147483648 ≤ y ∧ y ≤ 2147483647) (g3 : -2147483648 ≤ wh ∧ wh ≤ 2147483647) (sz : Nat) : Met l yX6_place (wU yX6_place cX6_place 5 (some .int)) (rmF 5 119) (pcW D (tyA cI cL cG cM) [(m0, .inr (6, [.ref mw, .int (iI kn), .int (iI kp), .int (iI sd), .ref mks, .ref mbx, .ref mby, .ref mbi, .int (iI bkn), .ref msn, .int (iI sns), .ref miq, .ref mtb, .ref mrt, .ref mgr, .ref mup, .long (lI bel), .long (lI scl), .long (lI tp), .long (lI bt)])), (mw, .inl (cI, 760, .inl (aI w))), (mks, .inl (cI, 2, .inl (aI ks))), (mbx, .inl (cI, 20, .inl (aI bkx))), (mby, .inl (cI, 20, .inl (aI bky))), (mbi, .inl (cI, 20, .inl (aI bki))), (msn, .inl (cI, 4, .inl (aI sn))), (miq, .inl (cI, 4, .inl (aI iq))), (mtb, .inl (cL, 25, .inr (.inl (aL tb)))), (mrt, .inl (cL, 5, .inr (.inl (aL rt)))), (mgr, .inl (cL, 32, .inr (.inl (aL gr)))), (mup, .inl (cL, 5, .inr (.inl (aL ups))))] [.ref m0, .int (iI x), .int (iI y), .int (iI wh)] sz) (qWi (S := (Nat → Int) × Int × (Nat → Int) × (Nat → Int) × Int × (Nat → Int) × (Nat → Int) × Int × (Nat → Int) × Int × Int) D (tyA cI cL cG cM) (va_A [(m0, .inr (6, [.ref mw, .int (iI kn), .int (iI kp), .int (iI sd), .ref mks, .ref mbx, .ref mby, .ref mbi, .int (iI bkn), .ref msn, .int (iI sns), .ref miq, .ref mtb, .ref mrt, .ref mgr, .ref mup, .long (lI bel), .long (lI scl), .long (lI tp), .long (lI bt)])), (mw, .inl (cI, 760, .inl (aI w))), (mks, .inl (cI, 2, .inl (aI ks))), (mbx, .inl (cI, 20, .inl (aI bkx))), (mby, .inl (cI, 20, .inl (aI bky))), (mbi, .inl (cI, 20, .inl (aI bki))), (msn, .inl (cI, 4, .inl (aI sn))), (miq, .inl (cI, 4, .inl (aI iq))), (mtb, .inl (cL, 25, .inr (.inl (aL tb)))), (mrt, .inl (cL, 5, .inr (.inl (aL rt)))), (mgr, .inl (cL, 32, .inr (.inl (aL gr)))), (mup, .inl (cL, 5, .inr (.inl (aL ups))))] sz) (fun (z : Int) (u : (Nat → Int) × Int × (Nat → Int) × (Nat → Int) × Int × (Nat → Int) × (Nat → Int) × Int × (Nat → Int) × Int × Int) => z = an_pl w x y wh) (fun (u : (Nat → Int) × Int × (Nat → Int) × (Nat → Int) × Int × (Nat → Int) × (Nat → Int) × Int × (Nat → Int) × Int × Int) => [(m0, .inr (6, [.ref mw, .int (iI kn), .int (iI kp), .int (iI sd), .ref mks, .ref mbx, .ref mby, .ref mbi, .int (iI bkn), .ref msn, .int (iI u.2.1), .ref miq, .ref mtb, .ref mrt, .ref mgr, .ref mup, .long (lI u.2.2.2.2.2.2.2.1), .long (lI u.2.2.2.2.1), .long (lI u.2.2.2.2.2.2.2.2.2.1), .long (lI u.2.2.2.2.2.2.2.2.2.2)])), (mw, .inl (cI, 760, .inl (aI w))), (mks, .inl (cI, 2, .inl (aI ks))), (mbx, .inl (cI, 20, .inl (aI bkx))), (mby, .inl (cI, 20, .inl (aI bky))), (mbi, .inl (cI, 20, .inl (aI bki))), (msn, .inl (cI, 4, .inl (aI u.1))), (miq, .inl (cI, 4, .inl (aI u.2.2.1))), (mtb, .inl (cL, 25, .inr (.inl (aL u.2.2.2.2.2.1)))), (mrt, .inl (cL, 5, .inr (.inl (aL u.2.2.2.1)))), (mgr, .inl (cL, 32, .inr (.inl (aL u.2.2.2.2.2.2.1)))), (mup, .inl (cL, 5, .inr (.inl (aL u.2.2.2.2.2.2.2.2.1))))])) 0 0 (va_A [(m0, .inr (6, [.ref mw, .int (iI kn), .int (iI kp), .int (iI sd), .ref mks, .ref mbx, .ref mby, .ref mbi, .int (iI bkn), .ref msn, .int (iI sns), .ref miq, .ref mtb, .ref mrt, .ref mgr, .ref mup, .long (lI bel), .long (lI scl), .long (lI tp), .long (lI bt)])), (mw, .inl (cI, 760, .inl (aI w))), (mks, .inl (cI, 2, .inl (aI ks))), (mbx, .inl (cI, 20, .inl (aI bkx))), (mby, .inl (cI, 20, .inl (aI bky))), (mbi, .inl (cI, 20, .inl (aI bki))), (msn, .inl (cI, 4, .inl (aI sn))), (miq, .inl (cI, 4, .inl (aI iq))), (mtb, .inl (cL, 25, .inr (.inl (aL tb)))), (mrt, .inl (cL, 5, .inr (.inl (aL rt)))), (mgr, .inl (cL, 32, .inr (.inl (aL gr)))), (mup, .inl (cL, 5, .inr (.inl (aL ups))))] sz) := by
  refine zm_W (own := RX6) (lv := [(0, .ref m0), (1, .int (iI x)), (2, .int (iI y)), (3, .int (iI wh))]) (QF := fun A => qWi (S := (Nat → Int) × Int × (Nat → Int) × (Nat → Int) × Int × (Nat → Int) × (Nat → Int) × Int × (Nat → Int) × Int × Int) D (tyA cI cL cG cM) A (fun (z : Int) (u : (Nat → Int) × Int × (Nat → Int) × (Nat → Int) × Int × (Nat → Int) × (Nat → Int) × Int × (Nat → Int) × Int × Int) => z = an_pl w x y wh) (fun (u : (Nat → Int) × Int × (Nat → Int) × (Nat → Int) × Int × (Nat → Int) × (Nat → Int) × Int × (Nat → Int) × Int × Int) => [(m0, .inr (6, [.ref mw, .int (iI kn), .int (iI kp), .int (iI sd), .ref mks, .ref mbx, .ref mby, .ref mbi, .int (iI bkn), .ref msn, .int (iI u.2.1), .ref miq, .ref mtb, .ref mrt, .ref mgr, .ref mup, .long (lI u.2.2.2.2.2.2.2.1), .long (lI u.2.2.2.2.1), .long (lI u.2.2.2.2.2.2.2.2.2.1), .long (lI u.2.2.2.2.2.2.2.2.2.2)])), (mw, .inl (cI, 760, .inl (aI w))), (mks, .inl (cI, 2, .inl (aI ks))), (mbx, .inl (cI, 20, .inl (aI bkx))), (mby, .inl (cI, 20, .inl (aI bky))), (mbi, .inl (cI, 20, .inl (aI bki))), (msn, .inl (cI, 4, .inl (aI u.1))), (miq, .inl (cI, 4, .inl (aI u.2.2.1))), (mtb, .inl (cL, 25, .inr (.inl (aL u.2.2.2.2.2.1)))), (mrt, .inl (cL, 5, .inr (.inl (aL u.2.2.2.1)))), (mgr, .inl (cL, 32, .inr (.inl (aL u.2.2.2.2.2.2.1)))), (mup, .inl (cL, 5, .inr (.inl (aL u.2.2.2.2.2.2.2.2.1))))])) (by decide) rfl (Nat.le_of_ble_eq_true rfl) rfl ?_
  intro p e s m below meth c A args Q hx hb hr hml hown hU hlk hnm hP hK hNst hD hA hS hsz hQ ls hl
  obtain ⟨H, hH⟩ : ∃ H, H = s.heap := ⟨_, rfl⟩
  obtain ⟨locs, hlocs⟩ : ∃ locs : List Loc, locs = [] := ⟨_, rfl⟩
  rw [← hlocs]
  have hW0 : ∀ (H : Heap) (locs : List Loc), va_P D vwCl [(m0, .inr (6, [.ref mw, .int (iI kn), .int (iI kp), .int (iI sd), .ref mks, .ref mbx, .ref mby, .ref mbi, .int (iI bkn), .ref msn, .int (iI sns), .ref miq, .ref mtb, .ref mrt, .ref mgr, .ref mup, .long (lI bel), .long (lI scl), .long (lI tp), .long (lI bt)])), (mw, .inl (cI, 760, .inl (aI w))), (mks, .inl (cI, 2, .inl (aI ks))), (mbx, .inl (cI, 20, .inl (aI bkx))), (mby, .inl (cI, 20, .inl (aI bky))), (mbi, .inl (cI, 20, .inl (aI bki))), (msn, .inl (cI, 4, .inl (aI sn))), (miq, .inl (cI, 4, .inl (aI iq))), (mtb, .inl (cL, 25, .inr (.inl (aL tb)))), (mrt, .inl (cL, 5, .inr (.inl (aL rt)))), (mgr, .inl (cL, 32, .inr (.inl (aL gr)))), (mup, .inl (cL, 5, .inr (.inl (aL ups))))] H → va_D A [(m0, .inr (6, [.ref mw, .int (iI kn), .int (iI kp), .int (iI sd), .ref mks, .ref mbx, .ref mby, .ref mbi, .int (iI bkn), .ref msn, .int (iI sns), .ref miq, .ref mtb, .ref mrt, .ref mgr, .ref mup, .long (lI bel), .long (lI scl), .long (lI tp), .long (lI bt)])), (mw, .inl (cI, 760, .inl (aI w))), (mks, .inl (cI, 2, .inl (aI ks))), (mbx, .inl (cI, 20, .inl (aI bkx))), (mby, .inl (cI, 20, .inl (aI bky))), (mbi, .inl (cI, 20, .inl (aI bki))), (msn, .inl (cI, 4, .inl (aI sn))), (miq, .inl (cI, 4, .inl (aI iq))), (mtb, .inl (cL, 25, .inr (.inl (aL tb)))), (mrt, .inl (cL, 5, .inr (.inl (aL rt)))), (mgr, .inl (cL, 32, .inr (.inl (aL gr)))), (mup, .inl (cL, 5, .inr (.inl (aL ups))))] → va_S A s.heap H locs → W p l e (rmF 5 119) s m args below meth c H locs 0 0 Q (F0 m 0 ls []) := by
    clear hP hD hS hH hlocs H locs
    intro H locs hP hD hS
    refine lv_iload_n hx hb dX6_place_0 rfl (lv_at hl 1 rfl) ?_
    refine lv_iload_n hx hb dX6_place_1 rfl (lv_at hl 2 rfl) ?_
    refine zc_Si (As := [.int (iI x), .int (iI y)]) (rest := []) (c_X6_isPlace l D cI cL cG cM x y (by omega) (by omega)) hx hb hml hown hU hl.1 ct_yX6_isPlace kt_yX6_isPlace km_RX6_168 ⟨rfl, rfl⟩ ⟨Nat.le_of_ble_eq_true rfl, Nat.le_of_ble_eq_true rfl⟩ rfl rfl (Nat.le_of_ble_eq_true rfl) dX6_place_2 ⟨Nat.le_of_ble_eq_true rfl, Nat.le_of_ble_eq_true rfl⟩ ?_
    refine zr_bif_eq (tgt := 20) hx hb dX6_place_5 (by decide) (fun c_1 => ?_) (fun c_1 => ?_)
    · skip
      refine lv_ldc hx hb hown (hU _ kk_RX6_159) dX6_place_20 ?_
      rw [hQ]
      exact ze_Wi hx hb hr hlk dX6_place_22 (sn, sns, iq, rt, scl, tb, gr, bel, ups, tp, bt) (by unfold an_pl; rw [if_neg (by omega)]) hP hK hD hS
    · skip
      refine lv_iload_n hx hb dX6_place_8 rfl (lv_at hl 3 rfl) ?_
      refine zr_i2l hx hb dX6_place_9 (by omega) ?_
      refine lv_lconst (v := lI 0) hx hb dX6_place_10 rfl ?_
      refine lv_ldc2 hx hb hown (hU _ kk_RX6_172) dX6_place_11 ?_
      refine zc_Si (As := [.long (lI wh), .long (lI 0), .long (lI 5)]) (rest := []) (c_X6_in l D cI cL cG cM wh 0 5 (by omega) (by omega) (by omega)) hx hb hml hown hU hl.1 ct_yX6_in kt_yX6_in km_RX6_44 ⟨rfl, rfl⟩ ⟨Nat.le_of_ble_eq_true rfl, Nat.le_of_ble_eq_true rfl⟩ rfl rfl (Nat.le_of_ble_eq_true rfl) dX6_place_14 ⟨Nat.le_of_ble_eq_true rfl, Nat.le_of_ble_eq_true rfl⟩ ?_
      refine zr_bif_ne (tgt := 23) hx hb dX6_place_17 (by decide) (fun c_2 => ?_) (fun c_2 => ?_)
      · skip
        have h1 : 0 ≤ x ∧ x ≤ 31 := by omega
        have h2 : 0 ≤ y ∧ y ≤ 31 := by omega
        refine lv_aload_n hx hb dX6_place_23 rfl (lv_at hl 0 rfl) ?_
        refine lv_iload_n hx hb dX6_place_24 rfl (lv_at hl 1 rfl) ?_
        refine lv_iload_n hx hb dX6_place_25 rfl (lv_at hl 2 rfl) ?_
        refine lv_iconst (v := iI (-1)) hx hb dX6_place_26 rfl ?_
        refine zc_Wi (As := [.int (iI x), .int (iI y), .int (iI (-1))]) (rest := []) (wr := []) (wc := [(m0, .inr (6, [.ref mw, .int (iI kn), .int (iI kp), .int (iI sd), .ref mks, .ref mbx, .ref mby, .ref mbi, .int (iI bkn), .ref msn, .int (iI sns), .ref miq, .ref mtb, .ref mrt, .ref mgr, .ref mup, .long (lI bel), .long (lI scl), .long (lI tp), .long (lI bt)])), (mw, .inl (cI, 760, .inl (aI w))), (mks, .inl (cI, 2, .inl (aI ks))), (mbx, .inl (cI, 20, .inl (aI bkx))), (mby, .inl (cI, 20, .inl (aI bky))), (mbi, .inl (cI, 20, .inl (aI bki))), (msn, .inl (cI, 4, .inl (aI sn))), (miq, .inl (cI, 4, .inl (aI iq))), (mtb, .inl (cL, 25, .inr (.inl (aL tb)))), (mrt, .inl (cL, 5, .inr (.inl (aL rt)))), (mgr, .inl (cL, 32, .inr (.inl (aL gr)))), (mup, .inl (cL, 5, .inr (.inl (aL ups))))]) (c_X6_guessAt l D cI cL cG cM m0 mw mks mbx mby mbi msn miq mtb mrt mgr mup w kn kp sd ks bkx bky bki bkn sn sns iq tb rt gr ups bel scl tp bt x y (-1) (hv) (by omega) (by omega) (by omega) _) hx hb hml hown hU hl.1 ct_yX6_guessAt cv_yX6_guessAt km_RX6_118 hK hNst hP hD hS hA [0, 1, 2, 3, 4, 5, 6, 7, 8, 9, 10, 11] [] rfl rfl (by decide) (by decide) (by decide) 6 0 rfl rfl rfl ⟨rfl, rfl⟩ ⟨Nat.le_of_ble_eq_true rfl, Nat.le_of_ble_eq_true rfl⟩ rfl rfl (Nat.le_of_ble_eq_true rfl) dX6_place_27 ⟨Nat.le_of_ble_eq_true rfl, Nat.le_of_ble_eq_true rfl⟩ (fun zg u H locs hga hP hD hS _ => ?_)
        obtain ⟨sn_3, sns_4, iq_5, rt_6, scl_7, tb_8, gr_9, bel_10, ups_11⟩ := u
        have hga : isL (sp_lk w x y (-1)) sn_3 sns_4 ∧ zg = zB (gEx w (sp_lk w x y (-1))) ∧ (gEx w (sp_lk w x y (-1)) → gOK w (sp_lk w x y (-1)) (sp_v1 w (sp_lk w x y (-1)) x y) 1 rt_6 ups_11 bel_10 scl_7) := hga
        have hP : va_P D vwCl [(m0, .inr (6, [.ref mw, .int (iI kn), .int (iI kp), .int (iI sd), .ref mks, .ref mbx, .ref mby, .ref mbi, .int (iI bkn), .ref msn, .int (iI sns_4), .ref miq, .ref mtb, .ref mrt, .ref mgr, .ref mup, .long (lI bel_10), .long (lI scl_7), .long (lI tp), .long (lI bt)])), (mw, .inl (cI, 760, .inl (aI w))), (mks, .inl (cI, 2, .inl (aI ks))), (mbx, .inl (cI, 20, .inl (aI bkx))), (mby, .inl (cI, 20, .inl (aI bky))), (mbi, .inl (cI, 20, .inl (aI bki))), (msn, .inl (cI, 4, .inl (aI sn_3))), (miq, .inl (cI, 4, .inl (aI iq_5))), (mtb, .inl (cL, 25, .inr (.inl (aL tb_8)))), (mrt, .inl (cL, 5, .inr (.inl (aL rt_6)))), (mgr, .inl (cL, 32, .inr (.inl (aL gr_9)))), (mup, .inl (cL, 5, .inr (.inl (aL ups_11))))] H := hP
        have hD : va_D A [(m0, .inr (6, [.ref mw, .int (iI kn), .int (iI kp), .int (iI sd), .ref mks, .ref mbx, .ref mby, .ref mbi, .int (iI bkn), .ref msn, .int (iI sns_4), .ref miq, .ref mtb, .ref mrt, .ref mgr, .ref mup, .long (lI bel_10), .long (lI scl_7), .long (lI tp), .long (lI bt)])), (mw, .inl (cI, 760, .inl (aI w))), (mks, .inl (cI, 2, .inl (aI ks))), (mbx, .inl (cI, 20, .inl (aI bkx))), (mby, .inl (cI, 20, .inl (aI bky))), (mbi, .inl (cI, 20, .inl (aI bki))), (msn, .inl (cI, 4, .inl (aI sn_3))), (miq, .inl (cI, 4, .inl (aI iq_5))), (mtb, .inl (cL, 25, .inr (.inl (aL tb_8)))), (mrt, .inl (cL, 5, .inr (.inl (aL rt_6)))), (mgr, .inl (cL, 32, .inr (.inl (aL gr_9)))), (mup, .inl (cL, 5, .inr (.inl (aL ups_11))))] := hD
        have hL : isL (sp_L0 w x y) _ _ := hga.1
        have hz1 : zg = zB (gEx w (sp_L0 w x y)) := hga.2.1
        have hzr := zB_rg (gEx w (sp_L0 w x y))
        rw [← hz1] at hzr
        have hgx : gEx w (sp_L0 w x y) → gOK w (sp_L0 w x y) (sp_V0 w x y) 1 _ _ _ _ := hga.2.2
        have hok : okL w (sp_L0 w x y) := okL_lk hv _ _ _
        refine lv_istore (lv' := [(4, .int (iI zg)), (0, .ref m0), (1, .int (iI x)), (2, .int (iI y)), (3, .int (iI wh))]) hx hb dX6_place_30 hl (by decide) rfl (fun ls hl => ?_)
        refine lv_iload_n hx hb dX6_place_32 rfl (lv_at hl 4 rfl) ?_
        rcases (show wh < 0 ∨ 4 < wh ∨ wh = 0 ∨ wh = 1 ∨ wh = 2 ∨ wh = 3 ∨ wh = 4 by omega) with hs | hs | hs | hs | hs | hs | hs
        · skip
          refine lv_tableOut (tgt := 109) hx hb dX6_place_33 (by rw [iI_toInt (by omega)]; omega) (by decide) ?_
          refine lv_iload hx hb dX6_place_109 (lv_at hl 0 rfl) ?_
          refine zr_if_eq (tgt := 121) hx hb dX6_place_111 (by decide) (by omega) (fun c111 => ?_) (fun c111 => ?_)
          · skip
            refine lv_iconst (v := iI 0) hx hb dX6_place_121 rfl ?_
            rw [hQ]
            exact ze_Wi hx hb hr hlk dX6_place_122 (sn_3, sns_4, iq_5, rt_6, scl_7, tb_8, gr_9, bel_10, ups_11, tp, bt) (by unfold an_pl; rw [if_pos (by omega), if_neg (by omega), if_neg (by omega), if_neg (by omega), if_neg (by omega), if_neg (by omega), ci_f (zB_e0 (by rw [← hz1]; exact c111))]) hP hK hD hS
          · skip
            have hx1 := zB_n0 (by rw [← hz1]; exact c111)
            have hg := hgx hx1
            have hV : okV (sp_L0 w x y).length (sp_V0 w x y) 1 := okV_v1 hv hok (by omega) (by omega)
            refine lv_aload_n hx hb dX6_place_114 rfl (lv_at hl 1 rfl) ?_
            refine zc_Vi (As := []) (rest := []) (c_X6_negatives l D cI cL cG cM m0 mw mks mbx mby mbi msn miq mtb mrt mgr mup w kn kp sd ks bkx bky bki bkn sn_3 sns_4 iq_5 tb_8 rt_6 gr_9 ups_11 bel_10 scl_7 tp bt (sp_L0 w x y) (sp_V0 w x y) 1 (hv) (hok) (hL) (hg) (hx1) (hV)) hx hb hml hown hU hl.1 ct_yX6_negatives cv_yX6_negatives km_RX6_183 hK hNst hP 6 0 rfl rfl rfl ⟨rfl, rfl⟩ ⟨Nat.le_of_ble_eq_true rfl, Nat.le_of_ble_eq_true rfl⟩ rfl rfl (Nat.le_of_ble_eq_true rfl) dX6_place_115 ⟨Nat.le_of_ble_eq_true rfl, Nat.le_of_ble_eq_true rfl⟩ ?_
            refine lv_goto (tgt := 122) hx hb dX6_place_118 (by decide) ?_
            rw [hQ]
            exact ze_Wi hx hb hr hlk dX6_place_122 (sn_3, sns_4, iq_5, rt_6, scl_7, tb_8, gr_9, bel_10, ups_11, tp, bt) (by unfold an_pl; rw [if_pos (by omega), if_neg (by omega), if_neg (by omega), if_neg (by omega), if_neg (by omega), if_neg (by omega), ci_t hx1]) hP hK hD hS
        · skip
          refine lv_tableOut (tgt := 109) hx hb dX6_place_33 (by rw [iI_toInt (by omega)]; omega) (by decide) ?_
          refine lv_iload hx hb dX6_place_109 (lv_at hl 0 rfl) ?_
          refine zr_if_eq (tgt := 121) hx hb dX6_place_111 (by decide) (by omega) (fun c111 => ?_) (fun c111 => ?_)
          · skip
            refine lv_iconst (v := iI 0) hx hb dX6_place_121 rfl ?_
            rw [hQ]
            exact ze_Wi hx hb hr hlk dX6_place_122 (sn_3, sns_4, iq_5, rt_6, scl_7, tb_8, gr_9, bel_10, ups_11, tp, bt) (by unfold an_pl; rw [if_pos (by omega), if_neg (by omega), if_neg (by omega), if_neg (by omega), if_neg (by omega), if_neg (by omega), ci_f (zB_e0 (by rw [← hz1]; exact c111))]) hP hK hD hS
          · skip
            have hx1 := zB_n0 (by rw [← hz1]; exact c111)
            have hg := hgx hx1
            have hV : okV (sp_L0 w x y).length (sp_V0 w x y) 1 := okV_v1 hv hok (by omega) (by omega)
            refine lv_aload_n hx hb dX6_place_114 rfl (lv_at hl 1 rfl) ?_
            refine zc_Vi (As := []) (rest := []) (c_X6_negatives l D cI cL cG cM m0 mw mks mbx mby mbi msn miq mtb mrt mgr mup w kn kp sd ks bkx bky bki bkn sn_3 sns_4 iq_5 tb_8 rt_6 gr_9 ups_11 bel_10 scl_7 tp bt (sp_L0 w x y) (sp_V0 w x y) 1 (hv) (hok) (hL) (hg) (hx1) (hV)) hx hb hml hown hU hl.1 ct_yX6_negatives cv_yX6_negatives km_RX6_183 hK hNst hP 6 0 rfl rfl rfl ⟨rfl, rfl⟩ ⟨Nat.le_of_ble_eq_true rfl, Nat.le_of_ble_eq_true rfl⟩ rfl rfl (Nat.le_of_ble_eq_true rfl) dX6_place_115 ⟨Nat.le_of_ble_eq_true rfl, Nat.le_of_ble_eq_true rfl⟩ ?_
            refine lv_goto (tgt := 122) hx hb dX6_place_118 (by decide) ?_
            rw [hQ]
            exact ze_Wi hx hb hr hlk dX6_place_122 (sn_3, sns_4, iq_5, rt_6, scl_7, tb_8, gr_9, bel_10, ups_11, tp, bt) (by unfold an_pl; rw [if_pos (by omega), if_neg (by omega), if_neg (by omega), if_neg (by omega), if_neg (by omega), if_neg (by omega), ci_t hx1]) hP hK hD hS
        · skip
          subst hs
          refine lv_tableIn (x := iI 0) (tgt := 68) hx hb dX6_place_33 (by decide) (by decide) rfl (by decide) ?_
          refine lv_aload_n hx hb dX6_place_68 rfl (lv_at hl 1 rfl) ?_
          refine lv_iload_n hx hb dX6_place_69 rfl (lv_at hl 2 rfl) ?_
          refine lv_iload_n hx hb dX6_place_70 rfl (lv_at hl 3 rfl) ?_
          refine zc_Vi (As := [.int (iI x), .int (iI y)]) (rest := []) (c_X6_there l D cI cL cG cM m0 mw mks mbx mby mbi msn miq mtb mrt mgr mup w kn kp sd ks bkx bky bki bkn sn_3 sns_4 iq_5 tb_8 rt_6 gr_9 ups_11 bel_10 scl_7 tp bt x y (hv) (by omega) (by omega)) hx hb hml hown hU hl.1 ct_yX6_there cv_yX6_there km_RX6_174 hK hNst hP 6 0 rfl rfl rfl ⟨rfl, rfl⟩ ⟨Nat.le_of_ble_eq_true rfl, Nat.le_of_ble_eq_true rfl⟩ rfl rfl (Nat.le_of_ble_eq_true rfl) dX6_place_71 ⟨Nat.le_of_ble_eq_true rfl, Nat.le_of_ble_eq_true rfl⟩ ?_
          rw [hQ]
          exact ze_Wi hx hb hr hlk dX6_place_74 (sn_3, sns_4, iq_5, rt_6, scl_7, tb_8, gr_9, bel_10, ups_11, tp, bt) (by unfold an_pl; rw [if_pos (by omega), if_pos rfl]) hP hK hD hS
        · skip
          subst hs
          refine lv_tableIn (x := iI 1) (tgt := 75) hx hb dX6_place_33 (by decide) (by decide) rfl (by decide) ?_
          refine lv_aload_n hx hb dX6_place_75 rfl (lv_at hl 1 rfl) ?_
          refine va_get (D := D) (ci := 6) (v := .int (iI sns_4)) (C := RX6) (T := TX6) (N := 20) hx hb hU inlX6 hown hK hP 0 rfl rfl 10 (by decide) (hU _ kf_RX6_65) (fun _ h9 => h9) rfl dX6_place_76 ?_
          rw [hQ]
          exact ze_Wi hx hb hr hlk dX6_place_79 (sn_3, sns_4, iq_5, rt_6, scl_7, tb_8, gr_9, bel_10, ups_11, tp, bt) (by rw [hL.1]; unfold an_pl; rw [if_pos (by omega), if_neg (by omega), if_pos rfl]) hP hK hD hS
        · skip
          subst hs
          refine lv_tableIn (x := iI 2) (tgt := 80) hx hb dX6_place_33 (by decide) (by decide) rfl (by decide) ?_
          refine lv_aload_n hx hb dX6_place_80 rfl (lv_at hl 1 rfl) ?_
          refine zc_Vi (As := []) (rest := []) (c_X6_looks l D cI cL cG cM m0 mw mks mbx mby mbi msn miq mtb mrt mgr mup w kn kp sd ks bkx bky bki bkn sn_3 sns_4 iq_5 tb_8 rt_6 gr_9 ups_11 bel_10 scl_7 tp bt (sp_L0 w x y) (hv) (hok) (hL)) hx hb hml hown hU hl.1 ct_yX6_looks cv_yX6_looks km_RX6_177 hK hNst hP 6 0 rfl rfl rfl ⟨rfl, rfl⟩ ⟨Nat.le_of_ble_eq_true rfl, Nat.le_of_ble_eq_true rfl⟩ rfl rfl (Nat.le_of_ble_eq_true rfl) dX6_place_81 ⟨Nat.le_of_ble_eq_true rfl, Nat.le_of_ble_eq_true rfl⟩ ?_
          rw [hQ]
          exact ze_Wi hx hb hr hlk dX6_place_84 (sn_3, sns_4, iq_5, rt_6, scl_7, tb_8, gr_9, bel_10, ups_11, tp, bt) (by unfold an_pl; rw [if_pos (by omega), if_neg (by omega), if_neg (by omega), if_pos rfl]) hP hK hD hS
        · skip
          subst hs
          refine lv_tableIn (x := iI 3) (tgt := 85) hx hb dX6_place_33 (by decide) (by decide) rfl (by decide) ?_
          refine lv_iload hx hb dX6_place_85 (lv_at hl 0 rfl) ?_
          refine zr_if_eq (tgt := 94) hx hb dX6_place_87 (by decide) (by omega) (fun c87 => ?_) (fun c87 => ?_)
          · skip
            refine lv_iconst (v := iI 0) hx hb dX6_place_94 rfl ?_
            rw [hQ]
            exact ze_Wi hx hb hr hlk dX6_place_95 (sn_3, sns_4, iq_5, rt_6, scl_7, tb_8, gr_9, bel_10, ups_11, tp, bt) (by unfold an_pl; rw [if_pos (by omega), if_neg (by omega), if_neg (by omega), if_neg (by omega), if_pos rfl, ← hz1]; omega) hP hK hD hS
          · skip
            refine lv_iconst (v := iI 1) hx hb dX6_place_90 rfl ?_
            refine lv_goto (tgt := 95) hx hb dX6_place_91 (by decide) ?_
            rw [hQ]
            exact ze_Wi hx hb hr hlk dX6_place_95 (sn_3, sns_4, iq_5, rt_6, scl_7, tb_8, gr_9, bel_10, ups_11, tp, bt) (by unfold an_pl; rw [if_pos (by omega), if_neg (by omega), if_neg (by omega), if_neg (by omega), if_pos rfl, ← hz1]; omega) hP hK hD hS
        · skip
          subst hs
          refine lv_tableIn (x := iI 4) (tgt := 96) hx hb dX6_place_33 (by decide) (by decide) rfl (by decide) ?_
          refine lv_aload_n hx hb dX6_place_96 rfl (lv_at hl 1 rfl) ?_
          refine zc_Wi (As := []) (rest := []) (wr := []) (wc := [(m0, .inr (6, [.ref mw, .int (iI kn), .int (iI kp), .int (iI sd), .ref mks, .ref mbx, .ref mby, .ref mbi, .int (iI bkn), .ref msn, .int (iI sns_4), .ref miq, .ref mtb, .ref mrt, .ref mgr, .ref mup, .long (lI bel_10), .long (lI scl_7), .long (lI tp), .long (lI bt)])), (mw, .inl (cI, 760, .inl (aI w))), (mks, .inl (cI, 2, .inl (aI ks))), (mbx, .inl (cI, 20, .inl (aI bkx))), (mby, .inl (cI, 20, .inl (aI bky))), (mbi, .inl (cI, 20, .inl (aI bki))), (msn, .inl (cI, 4, .inl (aI sn_3))), (miq, .inl (cI, 4, .inl (aI iq_5))), (mtb, .inl (cL, 25, .inr (.inl (aL tb_8)))), (mrt, .inl (cL, 5, .inr (.inl (aL rt_6)))), (mgr, .inl (cL, 32, .inr (.inl (aL gr_9)))), (mup, .inl (cL, 5, .inr (.inl (aL ups_11))))]) (c_X6_isSound l D cI cL cG cM m0 mw mks mbx mby mbi msn miq mtb mrt mgr mup w kn kp sd ks bkx bky bki bkn sn_3 sns_4 iq_5 tb_8 rt_6 gr_9 ups_11 bel_10 scl_7 tp bt (sp_L0 w x y) (hv) (hok) (hL) _) hx hb hml hown hU hl.1 ct_yX6_isSound cv_yX6_isSound km_RX6_180 hK hNst hP hD hS hA [0, 1, 2, 3, 4, 5, 6, 7, 8, 9, 10, 11] [] rfl rfl (by decide) (by decide) (by decide) 6 0 rfl rfl rfl ⟨rfl, rfl⟩ ⟨Nat.le_of_ble_eq_true rfl, Nat.le_of_ble_eq_true rfl⟩ rfl rfl (Nat.le_of_ble_eq_true rfl) dX6_place_97 ⟨Nat.le_of_ble_eq_true rfl, Nat.le_of_ble_eq_true rfl⟩ (fun zs u H locs hzs hP hD hS _ => ?_)
          obtain ⟨tb_12, gr_13⟩ := u
          have hzs : zs = zB (sp_sk (sp_uu w (sp_L0 w x y)) (sp_L0 w x y).length) := hzs
          have hP : va_P D vwCl [(m0, .inr (6, [.ref mw, .int (iI kn), .int (iI kp), .int (iI sd), .ref mks, .ref mbx, .ref mby, .ref mbi, .int (iI bkn), .ref msn, .int (iI sns_4), .ref miq, .ref mtb, .ref mrt, .ref mgr, .ref mup, .long (lI bel_10), .long (lI scl_7), .long (lI tp), .long (lI bt)])), (mw, .inl (cI, 760, .inl (aI w))), (mks, .inl (cI, 2, .inl (aI ks))), (mbx, .inl (cI, 20, .inl (aI bkx))), (mby, .inl (cI, 20, .inl (aI bky))), (mbi, .inl (cI, 20, .inl (aI bki))), (msn, .inl (cI, 4, .inl (aI sn_3))), (miq, .inl (cI, 4, .inl (aI iq_5))), (mtb, .inl (cL, 25, .inr (.inl (aL tb_12)))), (mrt, .inl (cL, 5, .inr (.inl (aL rt_6)))), (mgr, .inl (cL, 32, .inr (.inl (aL gr_13)))), (mup, .inl (cL, 5, .inr (.inl (aL ups_11))))] H := hP
          have hD : va_D A [(m0, .inr (6, [.ref mw, .int (iI kn), .int (iI kp), .int (iI sd), .ref mks, .ref mbx, .ref mby, .ref mbi, .int (iI bkn), .ref msn, .int (iI sns_4), .ref miq, .ref mtb, .ref mrt, .ref mgr, .ref mup, .long (lI bel_10), .long (lI scl_7), .long (lI tp), .long (lI bt)])), (mw, .inl (cI, 760, .inl (aI w))), (mks, .inl (cI, 2, .inl (aI ks))), (mbx, .inl (cI, 20, .inl (aI bkx))), (mby, .inl (cI, 20, .inl (aI bky))), (mbi, .inl (cI, 20, .inl (aI bki))), (msn, .inl (cI, 4, .inl (aI sn_3))), (miq, .inl (cI, 4, .inl (aI iq_5))), (mtb, .inl (cL, 25, .inr (.inl (aL tb_12)))), (mrt, .inl (cL, 5, .inr (.inl (aL rt_6)))), (mgr, .inl (cL, 32, .inr (.inl (aL gr_13)))), (mup, .inl (cL, 5, .inr (.inl (aL ups_11))))] := hD
          have hsr := zB_rg (sp_sk (sp_uu w (sp_L0 w x y)) (sp_L0 w x y).length)
          rw [← hzs] at hsr
          refine zr_if_eq (tgt := 107) hx hb dX6_place_100 (by decide) (by omega) (fun c_14 => ?_) (fun c_14 => ?_)
          · skip
            refine lv_iconst (v := iI 0) hx hb dX6_place_107 rfl ?_
            rw [hQ]
            exact ze_Wi hx hb hr hlk dX6_place_108 (sn_3, sns_4, iq_5, rt_6, scl_7, tb_12, gr_13, bel_10, ups_11, tp, bt) (by unfold an_pl; rw [if_pos (by omega), if_neg (by omega), if_neg (by omega), if_neg (by omega), if_neg (by omega), if_pos rfl, ← hzs]; omega) hP hK hD hS
          · skip
            refine lv_iconst (v := iI 1) hx hb dX6_place_103 rfl ?_
            refine lv_goto (tgt := 108) hx hb dX6_place_104 (by decide) ?_
            rw [hQ]
            exact ze_Wi hx hb hr hlk dX6_place_108 (sn_3, sns_4, iq_5, rt_6, scl_7, tb_12, gr_13, bel_10, ups_11, tp, bt) (by unfold an_pl; rw [if_pos (by omega), if_neg (by omega), if_neg (by omega), if_neg (by omega), if_neg (by omega), if_pos rfl, ← hzs]; omega) hP hK hD hS
      · skip
        refine lv_ldc hx hb hown (hU _ kk_RX6_159) dX6_place_20 ?_
        rw [hQ]
        exact ze_Wi hx hb hr hlk dX6_place_22 (sn, sns, iq, rt, scl, tb, gr, bel, ups, tp, bt) (by unfold an_pl; rw [if_neg (by omega)]) hP hK hD hS
  rw [hlocs]
  exact hW0 s.heap [] hP hD hS

set_option maxHeartbeats 4000000 in
set_option maxRecDepth 100000 in
theorem c_X6_looked (l : Launch) (D : va_G) (cI cL cG cM : ClassId) (m0 mw mks mbx mby mbi msn miq mtb mrt mgr mup : Nat) (w : Nat → Int) (kn : Int) (kp : Int) (sd : Int) (ks : Nat → Int) (bkx : Nat → Int) (bky : Nat → Int) (bki : Nat → Int) (bkn : Int) (sn : Nat → Int) (sns : Int) (iq : Nat → Int) (tb : Nat → Int) (rt : Nat → Int) (gr : Nat → Int) (ups : Nat → Int) (bel : Int) (scl : Int) (tp : Int) (bt : Int) (x : Int) (y : Int) (i : Int) (hv : vR w) (g1 : -2147483648 ≤ x ∧ x ≤ 2147483647) (g2 : -2147483648 ≤ y ∧ y ≤ 2147483647) (g3 : -2147483648 ≤ i ∧ i ≤ 2147483647) (sz : Nat) : Met l yX6_looked (wU yX6_looked cX6_looked 4 (some .int)) (rmF 4 94) (pcW D (tyA cI cL cG cM) [(m0, .inr (6, [.ref mw, .int (iI kn), .int (iI kp), .int (iI sd), .ref mks, .ref mbx, .ref mby, .ref mbi, .int (iI bkn), .ref msn, .int (iI sns), .ref miq, .ref mtb, .ref mrt, .ref mgr, .ref mup, .long (lI bel), .long (lI scl), .long (lI tp), .long (lI bt)])), (mw, .inl (cI, 760, .inl (aI w))), (mks, .inl (cI, 2, .inl (aI ks))), (mbx, .inl (cI, 20, .inl (aI bkx))), (mby, .inl (cI, 20, .inl (aI bky))), (mbi, .inl (cI, 20, .inl (aI bki))), (msn, .inl (cI, 4, .inl (aI sn))), (miq, .inl (cI, 4, .inl (aI iq))), (mtb, .inl (cL, 25, .inr (.inl (aL tb)))), (mrt, .inl (cL, 5, .inr (.inl (aL rt)))), (mgr, .inl (cL, 32, .inr (.inl (aL gr)))), (mup, .inl (cL, 5, .inr (.inl (aL ups))))] [.ref m0, .int (iI x), .int (iI y), .int (iI i)] sz) (qWi (S := (Nat → Int) × Int × (Nat → Int)) D (tyA cI cL cG cM) (va_A [(m0, .inr (6, [.ref mw, .int (iI kn), .int (iI kp), .int (iI sd), .ref mks, .ref mbx, .ref mby, .ref mbi, .int (iI bkn), .ref msn, .int (iI sns), .ref miq, .ref mtb, .ref mrt, .ref mgr, .ref mup, .long (lI bel), .long (lI scl), .long (lI tp), .long (lI bt)])), (mw, .inl (cI, 760, .inl (aI w))), (mks, .inl (cI, 2, .inl (aI ks))), (mbx, .inl (cI, 20, .inl (aI bkx))), (mby, .inl (cI, 20, .inl (aI bky))), (mbi, .inl (cI, 20, .inl (aI bki))), (msn, .inl (cI, 4, .inl (aI sn))), (miq, .inl (cI, 4, .inl (aI iq))), (mtb, .inl (cL, 25, .inr (.inl (aL tb)))), (mrt, .inl (cL, 5, .inr (.inl (aL rt)))), (mgr, .inl (cL, 32, .inr (.inl (aL gr)))), (mup, .inl (cL, 5, .inr (.inl (aL ups))))] sz) (fun (z : Int) (u : (Nat → Int) × Int × (Nat → Int)) => z = an_lk w x y i) (fun (u : (Nat → Int) × Int × (Nat → Int)) => [(m0, .inr (6, [.ref mw, .int (iI kn), .int (iI kp), .int (iI sd), .ref mks, .ref mbx, .ref mby, .ref mbi, .int (iI bkn), .ref msn, .int (iI u.2.1), .ref miq, .ref mtb, .ref mrt, .ref mgr, .ref mup, .long (lI bel), .long (lI scl), .long (lI tp), .long (lI bt)])), (mw, .inl (cI, 760, .inl (aI w))), (mks, .inl (cI, 2, .inl (aI ks))), (mbx, .inl (cI, 20, .inl (aI bkx))), (mby, .inl (cI, 20, .inl (aI bky))), (mbi, .inl (cI, 20, .inl (aI bki))), (msn, .inl (cI, 4, .inl (aI u.1))), (miq, .inl (cI, 4, .inl (aI u.2.2))), (mtb, .inl (cL, 25, .inr (.inl (aL tb)))), (mrt, .inl (cL, 5, .inr (.inl (aL rt)))), (mgr, .inl (cL, 32, .inr (.inl (aL gr)))), (mup, .inl (cL, 5, .inr (.inl (aL ups))))])) 0 0 (va_A [(m0, .inr (6, [.ref mw, .int (iI kn), .int (iI kp), .int (iI sd), .ref mks, .ref mbx, .ref mby, .ref mbi, .int (iI bkn), .ref msn, .int (iI sns), .ref miq, .ref mtb, .ref mrt, .ref mgr, .ref mup, .long (lI bel), .long (lI scl), .long (lI tp), .long (lI bt)])), (mw, .inl (cI, 760, .inl (aI w))), (mks, .inl (cI, 2, .inl (aI ks))), (mbx, .inl (cI, 20, .inl (aI bkx))), (mby, .inl (cI, 20, .inl (aI bky))), (mbi, .inl (cI, 20, .inl (aI bki))), (msn, .inl (cI, 4, .inl (aI sn))), (miq, .inl (cI, 4, .inl (aI iq))), (mtb, .inl (cL, 25, .inr (.inl (aL tb)))), (mrt, .inl (cL, 5, .inr (.inl (aL rt)))), (mgr, .inl (cL, 32, .inr (.inl (aL gr)))), (mup, .inl (cL, 5, .inr (.inl (aL ups))))] sz) := by
  refine zm_W (own := RX6) (lv := [(0, .ref m0), (1, .int (iI x)), (2, .int (iI y)), (3, .int (iI i))]) (QF := fun A => qWi (S := (Nat → Int) × Int × (Nat → Int)) D (tyA cI cL cG cM) A (fun (z : Int) (u : (Nat → Int) × Int × (Nat → Int)) => z = an_lk w x y i) (fun (u : (Nat → Int) × Int × (Nat → Int)) => [(m0, .inr (6, [.ref mw, .int (iI kn), .int (iI kp), .int (iI sd), .ref mks, .ref mbx, .ref mby, .ref mbi, .int (iI bkn), .ref msn, .int (iI u.2.1), .ref miq, .ref mtb, .ref mrt, .ref mgr, .ref mup, .long (lI bel), .long (lI scl), .long (lI tp), .long (lI bt)])), (mw, .inl (cI, 760, .inl (aI w))), (mks, .inl (cI, 2, .inl (aI ks))), (mbx, .inl (cI, 20, .inl (aI bkx))), (mby, .inl (cI, 20, .inl (aI bky))), (mbi, .inl (cI, 20, .inl (aI bki))), (msn, .inl (cI, 4, .inl (aI u.1))), (miq, .inl (cI, 4, .inl (aI u.2.2))), (mtb, .inl (cL, 25, .inr (.inl (aL tb)))), (mrt, .inl (cL, 5, .inr (.inl (aL rt)))), (mgr, .inl (cL, 32, .inr (.inl (aL gr)))), (mup, .inl (cL, 5, .inr (.inl (aL ups))))])) (by decide) rfl (Nat.le_of_ble_eq_true rfl) rfl ?_
  intro p e s m below meth c A args Q hx hb hr hml hown hU hlk hnm hP hK hNst hD hA hS hsz hQ ls hl
  obtain ⟨H, hH⟩ : ∃ H, H = s.heap := ⟨_, rfl⟩
  obtain ⟨locs, hlocs⟩ : ∃ locs : List Loc, locs = [] := ⟨_, rfl⟩
  rw [← hlocs]
  have hW0 : ∀ (H : Heap) (locs : List Loc), va_P D vwCl [(m0, .inr (6, [.ref mw, .int (iI kn), .int (iI kp), .int (iI sd), .ref mks, .ref mbx, .ref mby, .ref mbi, .int (iI bkn), .ref msn, .int (iI sns), .ref miq, .ref mtb, .ref mrt, .ref mgr, .ref mup, .long (lI bel), .long (lI scl), .long (lI tp), .long (lI bt)])), (mw, .inl (cI, 760, .inl (aI w))), (mks, .inl (cI, 2, .inl (aI ks))), (mbx, .inl (cI, 20, .inl (aI bkx))), (mby, .inl (cI, 20, .inl (aI bky))), (mbi, .inl (cI, 20, .inl (aI bki))), (msn, .inl (cI, 4, .inl (aI sn))), (miq, .inl (cI, 4, .inl (aI iq))), (mtb, .inl (cL, 25, .inr (.inl (aL tb)))), (mrt, .inl (cL, 5, .inr (.inl (aL rt)))), (mgr, .inl (cL, 32, .inr (.inl (aL gr)))), (mup, .inl (cL, 5, .inr (.inl (aL ups))))] H → va_D A [(m0, .inr (6, [.ref mw, .int (iI kn), .int (iI kp), .int (iI sd), .ref mks, .ref mbx, .ref mby, .ref mbi, .int (iI bkn), .ref msn, .int (iI sns), .ref miq, .ref mtb, .ref mrt, .ref mgr, .ref mup, .long (lI bel), .long (lI scl), .long (lI tp), .long (lI bt)])), (mw, .inl (cI, 760, .inl (aI w))), (mks, .inl (cI, 2, .inl (aI ks))), (mbx, .inl (cI, 20, .inl (aI bkx))), (mby, .inl (cI, 20, .inl (aI bky))), (mbi, .inl (cI, 20, .inl (aI bki))), (msn, .inl (cI, 4, .inl (aI sn))), (miq, .inl (cI, 4, .inl (aI iq))), (mtb, .inl (cL, 25, .inr (.inl (aL tb)))), (mrt, .inl (cL, 5, .inr (.inl (aL rt)))), (mgr, .inl (cL, 32, .inr (.inl (aL gr)))), (mup, .inl (cL, 5, .inr (.inl (aL ups))))] → va_S A s.heap H locs → W p l e (rmF 4 94) s m args below meth c H locs 0 0 Q (F0 m 0 ls []) := by
    clear hP hD hS hH hlocs H locs
    intro H locs hP hD hS
    refine lv_iload_n hx hb dX6_looked_0 rfl (lv_at hl 1 rfl) ?_
    refine lv_iload_n hx hb dX6_looked_1 rfl (lv_at hl 2 rfl) ?_
    refine zc_Si (As := [.int (iI x), .int (iI y)]) (rest := []) (c_X6_isPlace l D cI cL cG cM x y (by omega) (by omega)) hx hb hml hown hU hl.1 ct_yX6_isPlace kt_yX6_isPlace km_RX6_168 ⟨rfl, rfl⟩ ⟨Nat.le_of_ble_eq_true rfl, Nat.le_of_ble_eq_true rfl⟩ rfl rfl (Nat.le_of_ble_eq_true rfl) dX6_looked_2 ⟨Nat.le_of_ble_eq_true rfl, Nat.le_of_ble_eq_true rfl⟩ ?_
    refine zr_bif_eq (tgt := 20) hx hb dX6_looked_5 (by decide) (fun c_1 => ?_) (fun c_1 => ?_)
    · skip
      refine lv_ldc hx hb hown (hU _ kk_RX6_159) dX6_looked_20 ?_
      rw [hQ]
      exact ze_Wi hx hb hr hlk dX6_looked_22 (sn, sns, iq) (by unfold an_lk; rw [if_neg (by omega)]) hP hK hD hS
    · skip
      refine lv_iload_n hx hb dX6_looked_8 rfl (lv_at hl 3 rfl) ?_
      refine zr_i2l hx hb dX6_looked_9 (by omega) ?_
      refine lv_lconst (v := lI 0) hx hb dX6_looked_10 rfl ?_
      refine lv_ldc2 hx hb hown (hU _ kk_RX6_186) dX6_looked_11 ?_
      refine zc_Si (As := [.long (lI i), .long (lI 0), .long (lI 3)]) (rest := []) (c_X6_in l D cI cL cG cM i 0 3 (by omega) (by omega) (by omega)) hx hb hml hown hU hl.1 ct_yX6_in kt_yX6_in km_RX6_44 ⟨rfl, rfl⟩ ⟨Nat.le_of_ble_eq_true rfl, Nat.le_of_ble_eq_true rfl⟩ rfl rfl (Nat.le_of_ble_eq_true rfl) dX6_looked_14 ⟨Nat.le_of_ble_eq_true rfl, Nat.le_of_ble_eq_true rfl⟩ ?_
      refine zr_bif_ne (tgt := 23) hx hb dX6_looked_17 (by decide) (fun c_2 => ?_) (fun c_2 => ?_)
      · skip
        refine lv_aload_n hx hb dX6_looked_23 rfl (lv_at hl 0 rfl) ?_
        refine lv_iload_n hx hb dX6_looked_24 rfl (lv_at hl 1 rfl) ?_
        refine lv_iload_n hx hb dX6_looked_25 rfl (lv_at hl 2 rfl) ?_
        refine lv_iconst (v := iI (-1)) hx hb dX6_looked_26 rfl ?_
        refine zc_Wv (As := [.int (iI x), .int (iI y), .int (iI (-1))]) (rest := []) (wr := []) (wc := [(m0, .inr (6, [.ref mw, .int (iI kn), .int (iI kp), .int (iI sd), .ref mks, .ref mbx, .ref mby, .ref mbi, .int (iI bkn), .ref msn, .int (iI sns), .ref miq, .ref mtb, .ref mrt, .ref mgr, .ref mup, .long (lI bel), .long (lI scl), .long (lI tp), .long (lI bt)])), (mw, .inl (cI, 760, .inl (aI w))), (mks, .inl (cI, 2, .inl (aI ks))), (mbx, .inl (cI, 20, .inl (aI bkx))), (mby, .inl (cI, 20, .inl (aI bky))), (mbi, .inl (cI, 20, .inl (aI bki))), (msn, .inl (cI, 4, .inl (aI sn))), (miq, .inl (cI, 4, .inl (aI iq))), (mtb, .inl (cL, 25, .inr (.inl (aL tb)))), (mrt, .inl (cL, 5, .inr (.inl (aL rt)))), (mgr, .inl (cL, 32, .inr (.inl (aL gr)))), (mup, .inl (cL, 5, .inr (.inl (aL ups))))]) (c_X6_layLooked l D cI cL cG cM m0 mw mks mbx mby mbi msn miq mtb mrt mgr mup w kn kp sd ks bkx bky bki bkn sn sns iq tb rt gr ups bel scl tp bt x y (-1) (hv) (by omega) (by omega) (by omega) _) hx hb hml hown hU hl.1 ct_yX6_layLooked cv_yX6_layLooked km_RX6_92 hK hNst hP hD hS hA [0, 1, 2, 3, 4, 5, 6, 7, 8, 9, 10, 11] [] rfl rfl (by decide) (by decide) (by decide) 6 0 rfl rfl rfl ⟨rfl, rfl⟩ ⟨Nat.le_of_ble_eq_true rfl, Nat.le_of_ble_eq_true rfl⟩ rfl rfl (Nat.le_of_ble_eq_true rfl) dX6_looked_27 ⟨Nat.le_of_ble_eq_true rfl, Nat.le_of_ble_eq_true rfl⟩ (fun u H locs hL hP hD hS _ => ?_)
        obtain ⟨sn1, sns1, iq_4⟩ := u
        have hL : isL (sp_lk w x y (-1)) sn1 sns1 := hL
        have hP : va_P D vwCl [(m0, .inr (6, [.ref mw, .int (iI kn), .int (iI kp), .int (iI sd), .ref mks, .ref mbx, .ref mby, .ref mbi, .int (iI bkn), .ref msn, .int (iI sns1), .ref miq, .ref mtb, .ref mrt, .ref mgr, .ref mup, .long (lI bel), .long (lI scl), .long (lI tp), .long (lI bt)])), (mw, .inl (cI, 760, .inl (aI w))), (mks, .inl (cI, 2, .inl (aI ks))), (mbx, .inl (cI, 20, .inl (aI bkx))), (mby, .inl (cI, 20, .inl (aI bky))), (mbi, .inl (cI, 20, .inl (aI bki))), (msn, .inl (cI, 4, .inl (aI sn1))), (miq, .inl (cI, 4, .inl (aI iq_4))), (mtb, .inl (cL, 25, .inr (.inl (aL tb)))), (mrt, .inl (cL, 5, .inr (.inl (aL rt)))), (mgr, .inl (cL, 32, .inr (.inl (aL gr)))), (mup, .inl (cL, 5, .inr (.inl (aL ups))))] H := hP
        have hD : va_D A [(m0, .inr (6, [.ref mw, .int (iI kn), .int (iI kp), .int (iI sd), .ref mks, .ref mbx, .ref mby, .ref mbi, .int (iI bkn), .ref msn, .int (iI sns1), .ref miq, .ref mtb, .ref mrt, .ref mgr, .ref mup, .long (lI bel), .long (lI scl), .long (lI tp), .long (lI bt)])), (mw, .inl (cI, 760, .inl (aI w))), (mks, .inl (cI, 2, .inl (aI ks))), (mbx, .inl (cI, 20, .inl (aI bkx))), (mby, .inl (cI, 20, .inl (aI bky))), (mbi, .inl (cI, 20, .inl (aI bki))), (msn, .inl (cI, 4, .inl (aI sn1))), (miq, .inl (cI, 4, .inl (aI iq_4))), (mtb, .inl (cL, 25, .inr (.inl (aL tb)))), (mrt, .inl (cL, 5, .inr (.inl (aL rt)))), (mgr, .inl (cL, 32, .inr (.inl (aL gr)))), (mup, .inl (cL, 5, .inr (.inl (aL ups))))] := hD
        have hL : isL (sp_L0 w x y) _ _ := hL
        have hok : okL w (sp_L0 w x y) := okL_lk hv _ _ _
        have h4 := okL_le hv hok
        have hl1 := hL.1
        refine lv_iload_n hx hb dX6_looked_30 rfl (lv_at hl 3 rfl) ?_
        refine lv_aload_n hx hb dX6_looked_31 rfl (lv_at hl 0 rfl) ?_
        refine va_get (D := D) (ci := 6) (v := .int (iI sns1)) (C := RX6) (T := TX6) (N := 20) hx hb hU inlX6 hown hK hP 0 rfl rfl 10 (by decide) (hU _ kf_RX6_65) (fun _ h9 => h9) rfl dX6_looked_32 ?_
        refine zr_icmp_ge (tgt := 47) hx hb dX6_looked_35 (by decide) (by omega) (by omega) (fun c_5 => ?_) (fun c_5 => ?_)
        · skip
          refine lv_iconst (v := iI (-1)) hx hb dX6_looked_47 rfl ?_
          rw [hQ]
          exact ze_Wi hx hb hr hlk dX6_looked_48 (sn1, sns1, iq_4) (by unfold an_lk; rw [if_pos (by omega), if_neg (by omega)]) hP hK hD hS
        · skip
          refine lv_aload_n hx hb dX6_looked_38 rfl (lv_at hl 0 rfl) ?_
          refine va_get (D := D) (ci := 6) (v := .ref msn) (C := RX6) (T := TX6) (N := 20) hx hb hU inlX6 hown hK hP 0 rfl rfl 9 (by decide) (hU _ kf_RX6_25) (fun _ h9 => h9) rfl dX6_looked_39 ?_
          refine lv_iload_n hx hb dX6_looked_42 rfl (lv_at hl 3 rfl) ?_
          refine zr_iald hx hb hK hP 6 0 rfl rfl i.toNat (by omega) (by omega) (Nat.le_of_ble_eq_true rfl) dX6_looked_43 ?_
          refine lv_goto (tgt := 48) hx hb dX6_looked_44 (by decide) ?_
          rw [hQ]
          exact ze_Wi hx hb hr hlk dX6_looked_48 (sn1, sns1, iq_4) (by rw [hL.2 _ (by omega)]; unfold an_lk; rw [if_pos (by omega), if_pos (by omega)]) hP hK hD hS
      · skip
        refine lv_ldc hx hb hown (hU _ kk_RX6_159) dX6_looked_20 ?_
        rw [hQ]
        exact ze_Wi hx hb hr hlk dX6_looked_22 (sn, sns, iq) (by unfold an_lk; rw [if_neg (by omega)]) hP hK hD hS
  rw [hlocs]
  exact hW0 s.heap [] hP hD hS

set_option maxHeartbeats 4000000 in
set_option maxRecDepth 100000 in
theorem c_X6_guess (l : Launch) (D : va_G) (cI cL cG cM : ClassId) (m0 mw mks mbx mby mbi msn miq mtb mrt mgr mup : Nat) (w : Nat → Int) (kn : Int) (kp : Int) (sd : Int) (ks : Nat → Int) (bkx : Nat → Int) (bky : Nat → Int) (bki : Nat → Int) (bkn : Int) (sn : Nat → Int) (sns : Int) (iq : Nat → Int) (tb : Nat → Int) (rt : Nat → Int) (gr : Nat → Int) (ups : Nat → Int) (bel : Int) (scl : Int) (tp : Int) (bt : Int) (x : Int) (y : Int) (wh : Int) (hv : vR w) (g1 : -2147483648 ≤ x ∧ x ≤ 2147483647) (g2 : -2147483648 ≤ y ∧ y ≤ 2147483647) (g3 : -2147483648 ≤ wh ∧ wh ≤ 2147483647) (sz : Nat) : Met l yX6_guess (wU yX6_guess cX6_guess 4 (some .long)) (rmF 5 119) (pcW D (tyA cI cL cG cM) [(m0, .inr (6, [.ref mw, .int (iI kn), .int (iI kp), .int (iI sd), .ref mks, .ref mbx, .ref mby, .ref mbi, .int (iI bkn), .ref msn, .int (iI sns), .ref miq, .ref mtb, .ref mrt, .ref mgr, .ref mup, .long (lI bel), .long (lI scl), .long (lI tp), .long (lI bt)])), (mw, .inl (cI, 760, .inl (aI w))), (mks, .inl (cI, 2, .inl (aI ks))), (mbx, .inl (cI, 20, .inl (aI bkx))), (mby, .inl (cI, 20, .inl (aI bky))), (mbi, .inl (cI, 20, .inl (aI bki))), (msn, .inl (cI, 4, .inl (aI sn))), (miq, .inl (cI, 4, .inl (aI iq))), (mtb, .inl (cL, 25, .inr (.inl (aL tb)))), (mrt, .inl (cL, 5, .inr (.inl (aL rt)))), (mgr, .inl (cL, 32, .inr (.inl (aL gr)))), (mup, .inl (cL, 5, .inr (.inl (aL ups))))] [.ref m0, .int (iI x), .int (iI y), .int (iI wh)] sz) (qWl (S := (Nat → Int) × Int × (Nat → Int) × (Nat → Int) × Int × (Nat → Int) × (Nat → Int) × Int × (Nat → Int) × Int × Int) D (tyA cI cL cG cM) (va_A [(m0, .inr (6, [.ref mw, .int (iI kn), .int (iI kp), .int (iI sd), .ref mks, .ref mbx, .ref mby, .ref mbi, .int (iI bkn), .ref msn, .int (iI sns), .ref miq, .ref mtb, .ref mrt, .ref mgr, .ref mup, .long (lI bel), .long (lI scl), .long (lI tp), .long (lI bt)])), (mw, .inl (cI, 760, .inl (aI w))), (mks, .inl (cI, 2, .inl (aI ks))), (mbx, .inl (cI, 20, .inl (aI bkx))), (mby, .inl (cI, 20, .inl (aI bky))), (mbi, .inl (cI, 20, .inl (aI bki))), (msn, .inl (cI, 4, .inl (aI sn))), (miq, .inl (cI, 4, .inl (aI iq))), (mtb, .inl (cL, 25, .inr (.inl (aL tb)))), (mrt, .inl (cL, 5, .inr (.inl (aL rt)))), (mgr, .inl (cL, 32, .inr (.inl (aL gr)))), (mup, .inl (cL, 5, .inr (.inl (aL ups))))] sz) (fun (z : Int) (u : (Nat → Int) × Int × (Nat → Int) × (Nat → Int) × Int × (Nat → Int) × (Nat → Int) × Int × (Nat → Int) × Int × Int) => z = an_gs w x y wh) (fun (u : (Nat → Int) × Int × (Nat → Int) × (Nat → Int) × Int × (Nat → Int) × (Nat → Int) × Int × (Nat → Int) × Int × Int) => [(m0, .inr (6, [.ref mw, .int (iI kn), .int (iI kp), .int (iI sd), .ref mks, .ref mbx, .ref mby, .ref mbi, .int (iI bkn), .ref msn, .int (iI u.2.1), .ref miq, .ref mtb, .ref mrt, .ref mgr, .ref mup, .long (lI u.2.2.2.2.2.2.2.1), .long (lI u.2.2.2.2.1), .long (lI u.2.2.2.2.2.2.2.2.2.1), .long (lI u.2.2.2.2.2.2.2.2.2.2)])), (mw, .inl (cI, 760, .inl (aI w))), (mks, .inl (cI, 2, .inl (aI ks))), (mbx, .inl (cI, 20, .inl (aI bkx))), (mby, .inl (cI, 20, .inl (aI bky))), (mbi, .inl (cI, 20, .inl (aI bki))), (msn, .inl (cI, 4, .inl (aI u.1))), (miq, .inl (cI, 4, .inl (aI u.2.2.1))), (mtb, .inl (cL, 25, .inr (.inl (aL u.2.2.2.2.2.1)))), (mrt, .inl (cL, 5, .inr (.inl (aL u.2.2.2.1)))), (mgr, .inl (cL, 32, .inr (.inl (aL u.2.2.2.2.2.2.1)))), (mup, .inl (cL, 5, .inr (.inl (aL u.2.2.2.2.2.2.2.2.1))))])) 0 0 (va_A [(m0, .inr (6, [.ref mw, .int (iI kn), .int (iI kp), .int (iI sd), .ref mks, .ref mbx, .ref mby, .ref mbi, .int (iI bkn), .ref msn, .int (iI sns), .ref miq, .ref mtb, .ref mrt, .ref mgr, .ref mup, .long (lI bel), .long (lI scl), .long (lI tp), .long (lI bt)])), (mw, .inl (cI, 760, .inl (aI w))), (mks, .inl (cI, 2, .inl (aI ks))), (mbx, .inl (cI, 20, .inl (aI bkx))), (mby, .inl (cI, 20, .inl (aI bky))), (mbi, .inl (cI, 20, .inl (aI bki))), (msn, .inl (cI, 4, .inl (aI sn))), (miq, .inl (cI, 4, .inl (aI iq))), (mtb, .inl (cL, 25, .inr (.inl (aL tb)))), (mrt, .inl (cL, 5, .inr (.inl (aL rt)))), (mgr, .inl (cL, 32, .inr (.inl (aL gr)))), (mup, .inl (cL, 5, .inr (.inl (aL ups))))] sz) := by
  refine zm_W (own := RX6) (lv := [(0, .ref m0), (1, .int (iI x)), (2, .int (iI y)), (3, .int (iI wh))]) (QF := fun A => qWl (S := (Nat → Int) × Int × (Nat → Int) × (Nat → Int) × Int × (Nat → Int) × (Nat → Int) × Int × (Nat → Int) × Int × Int) D (tyA cI cL cG cM) A (fun (z : Int) (u : (Nat → Int) × Int × (Nat → Int) × (Nat → Int) × Int × (Nat → Int) × (Nat → Int) × Int × (Nat → Int) × Int × Int) => z = an_gs w x y wh) (fun (u : (Nat → Int) × Int × (Nat → Int) × (Nat → Int) × Int × (Nat → Int) × (Nat → Int) × Int × (Nat → Int) × Int × Int) => [(m0, .inr (6, [.ref mw, .int (iI kn), .int (iI kp), .int (iI sd), .ref mks, .ref mbx, .ref mby, .ref mbi, .int (iI bkn), .ref msn, .int (iI u.2.1), .ref miq, .ref mtb, .ref mrt, .ref mgr, .ref mup, .long (lI u.2.2.2.2.2.2.2.1), .long (lI u.2.2.2.2.1), .long (lI u.2.2.2.2.2.2.2.2.2.1), .long (lI u.2.2.2.2.2.2.2.2.2.2)])), (mw, .inl (cI, 760, .inl (aI w))), (mks, .inl (cI, 2, .inl (aI ks))), (mbx, .inl (cI, 20, .inl (aI bkx))), (mby, .inl (cI, 20, .inl (aI bky))), (mbi, .inl (cI, 20, .inl (aI bki))), (msn, .inl (cI, 4, .inl (aI u.1))), (miq, .inl (cI, 4, .inl (aI u.2.2.1))), (mtb, .inl (cL, 25, .inr (.inl (aL u.2.2.2.2.2.1)))), (mrt, .inl (cL, 5, .inr (.inl (aL u.2.2.2.1)))), (mgr, .inl (cL, 32, .inr (.inl (aL u.2.2.2.2.2.2.1)))), (mup, .inl (cL, 5, .inr (.inl (aL u.2.2.2.2.2.2.2.2.1))))])) (by decide) rfl (Nat.le_of_ble_eq_true rfl) rfl ?_
  intro p e s m below meth c A args Q hx hb hr hml hown hU hlk hnm hP hK hNst hD hA hS hsz hQ ls hl
  obtain ⟨H, hH⟩ : ∃ H, H = s.heap := ⟨_, rfl⟩
  obtain ⟨locs, hlocs⟩ : ∃ locs : List Loc, locs = [] := ⟨_, rfl⟩
  rw [← hlocs]
  have hW0 : ∀ (H : Heap) (locs : List Loc), va_P D vwCl [(m0, .inr (6, [.ref mw, .int (iI kn), .int (iI kp), .int (iI sd), .ref mks, .ref mbx, .ref mby, .ref mbi, .int (iI bkn), .ref msn, .int (iI sns), .ref miq, .ref mtb, .ref mrt, .ref mgr, .ref mup, .long (lI bel), .long (lI scl), .long (lI tp), .long (lI bt)])), (mw, .inl (cI, 760, .inl (aI w))), (mks, .inl (cI, 2, .inl (aI ks))), (mbx, .inl (cI, 20, .inl (aI bkx))), (mby, .inl (cI, 20, .inl (aI bky))), (mbi, .inl (cI, 20, .inl (aI bki))), (msn, .inl (cI, 4, .inl (aI sn))), (miq, .inl (cI, 4, .inl (aI iq))), (mtb, .inl (cL, 25, .inr (.inl (aL tb)))), (mrt, .inl (cL, 5, .inr (.inl (aL rt)))), (mgr, .inl (cL, 32, .inr (.inl (aL gr)))), (mup, .inl (cL, 5, .inr (.inl (aL ups))))] H → va_D A [(m0, .inr (6, [.ref mw, .int (iI kn), .int (iI kp), .int (iI sd), .ref mks, .ref mbx, .ref mby, .ref mbi, .int (iI bkn), .ref msn, .int (iI sns), .ref miq, .ref mtb, .ref mrt, .ref mgr, .ref mup, .long (lI bel), .long (lI scl), .long (lI tp), .long (lI bt)])), (mw, .inl (cI, 760, .inl (aI w))), (mks, .inl (cI, 2, .inl (aI ks))), (mbx, .inl (cI, 20, .inl (aI bkx))), (mby, .inl (cI, 20, .inl (aI bky))), (mbi, .inl (cI, 20, .inl (aI bki))), (msn, .inl (cI, 4, .inl (aI sn))), (miq, .inl (cI, 4, .inl (aI iq))), (mtb, .inl (cL, 25, .inr (.inl (aL tb)))), (mrt, .inl (cL, 5, .inr (.inl (aL rt)))), (mgr, .inl (cL, 32, .inr (.inl (aL gr)))), (mup, .inl (cL, 5, .inr (.inl (aL ups))))] → va_S A s.heap H locs → W p l e (rmF 5 119) s m args below meth c H locs 0 0 Q (F0 m 0 ls []) := by
    clear hP hD hS hH hlocs H locs
    intro H locs hP hD hS
    refine lv_iload_n hx hb dX6_guess_0 rfl (lv_at hl 1 rfl) ?_
    refine lv_iload_n hx hb dX6_guess_1 rfl (lv_at hl 2 rfl) ?_
    refine zc_Si (As := [.int (iI x), .int (iI y)]) (rest := []) (c_X6_isPlace l D cI cL cG cM x y (by omega) (by omega)) hx hb hml hown hU hl.1 ct_yX6_isPlace kt_yX6_isPlace km_RX6_168 ⟨rfl, rfl⟩ ⟨Nat.le_of_ble_eq_true rfl, Nat.le_of_ble_eq_true rfl⟩ rfl rfl (Nat.le_of_ble_eq_true rfl) dX6_guess_2 ⟨Nat.le_of_ble_eq_true rfl, Nat.le_of_ble_eq_true rfl⟩ ?_
    refine zr_bif_eq (tgt := 20) hx hb dX6_guess_5 (by decide) (fun c_1 => ?_) (fun c_1 => ?_)
    · skip
      refine lv_ldc2 hx hb hown (hU _ kk_RX6_188) dX6_guess_20 ?_
      rw [hQ]
      exact ze_Wl hx hb hr hlk dX6_guess_23 (sn, sns, iq, rt, scl, tb, gr, bel, ups, tp, bt) (by unfold an_gs; rw [if_neg (by omega)]) hP hK hD hS
    · skip
      refine lv_iload_n hx hb dX6_guess_8 rfl (lv_at hl 3 rfl) ?_
      refine zr_i2l hx hb dX6_guess_9 (by omega) ?_
      refine lv_lconst (v := lI 0) hx hb dX6_guess_10 rfl ?_
      refine lv_ldc2 hx hb hown (hU _ kk_RX6_172) dX6_guess_11 ?_
      refine zc_Si (As := [.long (lI wh), .long (lI 0), .long (lI 5)]) (rest := []) (c_X6_in l D cI cL cG cM wh 0 5 (by omega) (by omega) (by omega)) hx hb hml hown hU hl.1 ct_yX6_in kt_yX6_in km_RX6_44 ⟨rfl, rfl⟩ ⟨Nat.le_of_ble_eq_true rfl, Nat.le_of_ble_eq_true rfl⟩ rfl rfl (Nat.le_of_ble_eq_true rfl) dX6_guess_14 ⟨Nat.le_of_ble_eq_true rfl, Nat.le_of_ble_eq_true rfl⟩ ?_
      refine zr_bif_ne (tgt := 24) hx hb dX6_guess_17 (by decide) (fun c_2 => ?_) (fun c_2 => ?_)
      · skip
        have h1 : 0 ≤ x ∧ x ≤ 31 := by omega
        have h2 : 0 ≤ y ∧ y ≤ 31 := by omega
        refine lv_aload_n hx hb dX6_guess_24 rfl (lv_at hl 0 rfl) ?_
        refine lv_iload_n hx hb dX6_guess_25 rfl (lv_at hl 1 rfl) ?_
        refine lv_iload_n hx hb dX6_guess_26 rfl (lv_at hl 2 rfl) ?_
        refine lv_iconst (v := iI (-1)) hx hb dX6_guess_27 rfl ?_
        refine zc_Wi (As := [.int (iI x), .int (iI y), .int (iI (-1))]) (rest := []) (wr := []) (wc := [(m0, .inr (6, [.ref mw, .int (iI kn), .int (iI kp), .int (iI sd), .ref mks, .ref mbx, .ref mby, .ref mbi, .int (iI bkn), .ref msn, .int (iI sns), .ref miq, .ref mtb, .ref mrt, .ref mgr, .ref mup, .long (lI bel), .long (lI scl), .long (lI tp), .long (lI bt)])), (mw, .inl (cI, 760, .inl (aI w))), (mks, .inl (cI, 2, .inl (aI ks))), (mbx, .inl (cI, 20, .inl (aI bkx))), (mby, .inl (cI, 20, .inl (aI bky))), (mbi, .inl (cI, 20, .inl (aI bki))), (msn, .inl (cI, 4, .inl (aI sn))), (miq, .inl (cI, 4, .inl (aI iq))), (mtb, .inl (cL, 25, .inr (.inl (aL tb)))), (mrt, .inl (cL, 5, .inr (.inl (aL rt)))), (mgr, .inl (cL, 32, .inr (.inl (aL gr)))), (mup, .inl (cL, 5, .inr (.inl (aL ups))))]) (c_X6_guessAt l D cI cL cG cM m0 mw mks mbx mby mbi msn miq mtb mrt mgr mup w kn kp sd ks bkx bky bki bkn sn sns iq tb rt gr ups bel scl tp bt x y (-1) (hv) (by omega) (by omega) (by omega) _) hx hb hml hown hU hl.1 ct_yX6_guessAt cv_yX6_guessAt km_RX6_118 hK hNst hP hD hS hA [0, 1, 2, 3, 4, 5, 6, 7, 8, 9, 10, 11] [] rfl rfl (by decide) (by decide) (by decide) 6 0 rfl rfl rfl ⟨rfl, rfl⟩ ⟨Nat.le_of_ble_eq_true rfl, Nat.le_of_ble_eq_true rfl⟩ rfl rfl (Nat.le_of_ble_eq_true rfl) dX6_guess_28 ⟨Nat.le_of_ble_eq_true rfl, Nat.le_of_ble_eq_true rfl⟩ (fun zg u H locs hga hP hD hS _ => ?_)
        obtain ⟨sn_3, sns_4, iq_5, rt_6, scl_7, tb_8, gr_9, bel_10, ups_11⟩ := u
        have hga : isL (sp_lk w x y (-1)) sn_3 sns_4 ∧ zg = zB (gEx w (sp_lk w x y (-1))) ∧ (gEx w (sp_lk w x y (-1)) → gOK w (sp_lk w x y (-1)) (sp_v1 w (sp_lk w x y (-1)) x y) 1 rt_6 ups_11 bel_10 scl_7) := hga
        have hP : va_P D vwCl [(m0, .inr (6, [.ref mw, .int (iI kn), .int (iI kp), .int (iI sd), .ref mks, .ref mbx, .ref mby, .ref mbi, .int (iI bkn), .ref msn, .int (iI sns_4), .ref miq, .ref mtb, .ref mrt, .ref mgr, .ref mup, .long (lI bel_10), .long (lI scl_7), .long (lI tp), .long (lI bt)])), (mw, .inl (cI, 760, .inl (aI w))), (mks, .inl (cI, 2, .inl (aI ks))), (mbx, .inl (cI, 20, .inl (aI bkx))), (mby, .inl (cI, 20, .inl (aI bky))), (mbi, .inl (cI, 20, .inl (aI bki))), (msn, .inl (cI, 4, .inl (aI sn_3))), (miq, .inl (cI, 4, .inl (aI iq_5))), (mtb, .inl (cL, 25, .inr (.inl (aL tb_8)))), (mrt, .inl (cL, 5, .inr (.inl (aL rt_6)))), (mgr, .inl (cL, 32, .inr (.inl (aL gr_9)))), (mup, .inl (cL, 5, .inr (.inl (aL ups_11))))] H := hP
        have hD : va_D A [(m0, .inr (6, [.ref mw, .int (iI kn), .int (iI kp), .int (iI sd), .ref mks, .ref mbx, .ref mby, .ref mbi, .int (iI bkn), .ref msn, .int (iI sns_4), .ref miq, .ref mtb, .ref mrt, .ref mgr, .ref mup, .long (lI bel_10), .long (lI scl_7), .long (lI tp), .long (lI bt)])), (mw, .inl (cI, 760, .inl (aI w))), (mks, .inl (cI, 2, .inl (aI ks))), (mbx, .inl (cI, 20, .inl (aI bkx))), (mby, .inl (cI, 20, .inl (aI bky))), (mbi, .inl (cI, 20, .inl (aI bki))), (msn, .inl (cI, 4, .inl (aI sn_3))), (miq, .inl (cI, 4, .inl (aI iq_5))), (mtb, .inl (cL, 25, .inr (.inl (aL tb_8)))), (mrt, .inl (cL, 5, .inr (.inl (aL rt_6)))), (mgr, .inl (cL, 32, .inr (.inl (aL gr_9)))), (mup, .inl (cL, 5, .inr (.inl (aL ups_11))))] := hD
        have hL : isL (sp_L0 w x y) _ _ := hga.1
        have hz1 : zg = zB (gEx w (sp_L0 w x y)) := hga.2.1
        have hzr := zB_rg (gEx w (sp_L0 w x y))
        rw [← hz1] at hzr
        have hgx : gEx w (sp_L0 w x y) → gOK w (sp_L0 w x y) (sp_V0 w x y) 1 _ _ _ _ := hga.2.2
        have hok : okL w (sp_L0 w x y) := okL_lk hv _ _ _
        refine zr_if_ne (tgt := 38) hx hb dX6_guess_31 (by decide) (by omega) (fun c31 => ?_) (fun c31 => ?_)
        · skip
          have hx1 := zB_n0 (by rw [← hz1]; exact c31)
          have hg := hgx hx1
          have hV : okV (sp_L0 w x y).length (sp_V0 w x y) 1 := okV_v1 hv hok (by omega) (by omega)
          refine lv_iload_n hx hb dX6_guess_38 rfl (lv_at hl 3 rfl) ?_
          refine lv_iconst (v := iI 2) hx hb dX6_guess_39 rfl ?_
          refine zr_icmp_ge (tgt := 50) hx hb dX6_guess_40 (by decide) (by omega) (by omega) (fun c_12 => ?_) (fun c_12 => ?_)
          · skip
            refine lv_iload_n hx hb dX6_guess_50 rfl (lv_at hl 3 rfl) ?_
            refine lv_iconst (v := iI 4) hx hb dX6_guess_51 rfl ?_
            refine zr_icmp_ge (tgt := 63) hx hb dX6_guess_52 (by decide) (by omega) (by omega) (fun c_13 => ?_) (fun c_13 => ?_)
            · skip
              have h4 := okL_le hv hok
              have hl1 := hL.1
              have hdr := nD_rg hv hok
              have hFr := nF_rg hv hok hx1.1 hV
              have hs5 := sg_cases (sp_L0 w x y).length
              refine lv_aload_n hx hb dX6_guess_63 rfl (lv_at hl 0 rfl) ?_
              refine lv_aload_n hx hb dX6_guess_64 rfl (lv_at hl 0 rfl) ?_
              refine va_get (D := D) (ci := 6) (v := .ref mup) (C := RX6) (T := TX6) (N := 20) hx hb hU inlX6 hown hK hP 0 rfl rfl 15 (by decide) (hU _ kf_RX6_41) (fun _ h9 => h9) rfl dX6_guess_65 ?_
              refine lv_aload_n hx hb dX6_guess_68 rfl (lv_at hl 0 rfl) ?_
              refine va_get (D := D) (ci := 6) (v := .int (iI sns_4)) (C := RX6) (T := TX6) (N := 20) hx hb hU inlX6 hown hK hP 0 rfl rfl 10 (by decide) (hU _ kf_RX6_65) (fun _ h9 => h9) rfl dX6_guess_69 ?_
              refine zr_lald hx hb hK hP 11 1 rfl rfl ((sp_L0 w x y).length) (by omega) (by omega) (Nat.le_of_ble_eq_true rfl) dX6_guess_72 ?_
              refine lv_aload_n hx hb dX6_guess_73 rfl (lv_at hl 0 rfl) ?_
              refine va_get (D := D) (ci := 6) (v := .long (lI bel_10)) (C := RX6) (T := TX6) (N := 20) hx hb hU inlX6 hown hK hP 0 rfl rfl 16 (by decide) (hU _ kf_RX6_88) (fun _ h9 => h9) rfl dX6_guess_74 ?_
              refine zc_Wv (As := [.long (lI (ups_11 ((sp_L0 w x y).length))), .long (lI bel_10)]) (rest := []) (wr := []) (wc := [(m0, .inr (6, [.ref mw, .int (iI kn), .int (iI kp), .int (iI sd), .ref mks, .ref mbx, .ref mby, .ref mbi, .int (iI bkn), .ref msn, .int (iI sns_4), .ref miq, .ref mtb, .ref mrt, .ref mgr, .ref mup, .long (lI bel_10), .long (lI scl_7), .long (lI tp), .long (lI bt)])), (mw, .inl (cI, 760, .inl (aI w))), (mks, .inl (cI, 2, .inl (aI ks))), (mbx, .inl (cI, 20, .inl (aI bkx))), (mby, .inl (cI, 20, .inl (aI bky))), (mbi, .inl (cI, 20, .inl (aI bki))), (msn, .inl (cI, 4, .inl (aI sn_3))), (miq, .inl (cI, 4, .inl (aI iq_5))), (mtb, .inl (cL, 25, .inr (.inl (aL tb_8)))), (mrt, .inl (cL, 5, .inr (.inl (aL rt_6)))), (mgr, .inl (cL, 32, .inr (.inl (aL gr_9)))), (mup, .inl (cL, 5, .inr (.inl (aL ups_11))))]) (c_X6_reduce l D cI cL cG cM m0 mw mks mbx mby mbi msn miq mtb mrt mgr mup w kn kp sd ks bkx bky bki bkn sn_3 sns_4 iq_5 tb_8 rt_6 gr_9 ups_11 bel_10 scl_7 tp bt (ups_11 ((sp_L0 w x y).length)) bel_10 (by rw [hg.2.2.2.2]; rcases hs5 with h | h <;> rw [h] <;> omega) (by rw [hg.2.2.1]; rcases hs5 with h | h <;> rw [h] <;> omega) (by rw [hg.2.2.1]; exact sg_mul_ne.mpr hx1.2) _) hx hb hml hown hU hl.1 ct_yX6_reduce cv_yX6_reduce km_RX6_114 hK hNst hP hD hS hA [0, 1, 2, 3, 4, 5, 6, 7, 8, 9, 10, 11] [] rfl rfl (by decide) (by decide) (by decide) 6 0 rfl rfl rfl ⟨rfl, rfl⟩ ⟨Nat.le_of_ble_eq_true rfl, Nat.le_of_ble_eq_true rfl⟩ rfl rfl (Nat.le_of_ble_eq_true rfl) dX6_guess_77 ⟨Nat.le_of_ble_eq_true rfl, Nat.le_of_ble_eq_true rfl⟩ (fun u H locs hlg hP hD hS _ => ?_)
              obtain ⟨tp1, bt1⟩ := u
              have hlg : tp1 = sp_top (ups_11 ((sp_L0 w x y).length)) bel_10 ∧ bt1 = sp_bot (ups_11 ((sp_L0 w x y).length)) bel_10 := hlg
              have hP : va_P D vwCl [(m0, .inr (6, [.ref mw, .int (iI kn), .int (iI kp), .int (iI sd), .ref mks, .ref mbx, .ref mby, .ref mbi, .int (iI bkn), .ref msn, .int (iI sns_4), .ref miq, .ref mtb, .ref mrt, .ref mgr, .ref mup, .long (lI bel_10), .long (lI scl_7), .long (lI tp1), .long (lI bt1)])), (mw, .inl (cI, 760, .inl (aI w))), (mks, .inl (cI, 2, .inl (aI ks))), (mbx, .inl (cI, 20, .inl (aI bkx))), (mby, .inl (cI, 20, .inl (aI bky))), (mbi, .inl (cI, 20, .inl (aI bki))), (msn, .inl (cI, 4, .inl (aI sn_3))), (miq, .inl (cI, 4, .inl (aI iq_5))), (mtb, .inl (cL, 25, .inr (.inl (aL tb_8)))), (mrt, .inl (cL, 5, .inr (.inl (aL rt_6)))), (mgr, .inl (cL, 32, .inr (.inl (aL gr_9)))), (mup, .inl (cL, 5, .inr (.inl (aL ups_11))))] H := hP
              have hD : va_D A [(m0, .inr (6, [.ref mw, .int (iI kn), .int (iI kp), .int (iI sd), .ref mks, .ref mbx, .ref mby, .ref mbi, .int (iI bkn), .ref msn, .int (iI sns_4), .ref miq, .ref mtb, .ref mrt, .ref mgr, .ref mup, .long (lI bel_10), .long (lI scl_7), .long (lI tp1), .long (lI bt1)])), (mw, .inl (cI, 760, .inl (aI w))), (mks, .inl (cI, 2, .inl (aI ks))), (mbx, .inl (cI, 20, .inl (aI bkx))), (mby, .inl (cI, 20, .inl (aI bky))), (mbi, .inl (cI, 20, .inl (aI bki))), (msn, .inl (cI, 4, .inl (aI sn_3))), (miq, .inl (cI, 4, .inl (aI iq_5))), (mtb, .inl (cL, 25, .inr (.inl (aL tb_8)))), (mrt, .inl (cL, 5, .inr (.inl (aL rt_6)))), (mgr, .inl (cL, 32, .inr (.inl (aL gr_9)))), (mup, .inl (cL, 5, .inr (.inl (aL ups_11))))] := hD
              refine lv_iload_n hx hb dX6_guess_80 rfl (lv_at hl 3 rfl) ?_
              refine lv_iconst (v := iI 2) hx hb dX6_guess_81 rfl ?_
              refine zr_irem hx hb dX6_guess_82 (by omega) (by omega) (by omega) ?_
              have hwm : wh.tmod 2 = wh % 2 := Int.tmod_eq_emod_of_nonneg (by omega)
              refine zr_rw (v := (wh % 2)) (hwm) ?_
              refine zr_if_ne (tgt := 93) hx hb dX6_guess_83 (by decide) (by omega) (fun c_15 => ?_) (fun c_15 => ?_)
              · skip
                refine lv_aload_n hx hb dX6_guess_93 rfl (lv_at hl 0 rfl) ?_
                refine va_get (D := D) (ci := 6) (v := .long (lI bt1)) (C := RX6) (T := TX6) (N := 20) hx hb hU inlX6 hown hK hP 0 rfl rfl 19 (by decide) (hU _ kf_RX6_111) (fun _ h9 => h9) rfl dX6_guess_94 ?_
                rw [hQ]
                exact ze_Wl hx hb hr hlk dX6_guess_97 (sn_3, sns_4, iq_5, rt_6, scl_7, tb_8, gr_9, bel_10, ups_11, tp1, bt1) (by unfold an_gs; rw [if_pos (by omega), ci_t hx1, if_neg (by omega), if_neg (by omega), if_neg (by omega), if_neg (by omega), if_neg (by omega), hlg.2, hg.2.2.2.2, hg.2.2.1]; exact sp_bot_sg _ _ _) hP hK hD hS
              · skip
                refine lv_aload_n hx hb dX6_guess_86 rfl (lv_at hl 0 rfl) ?_
                refine va_get (D := D) (ci := 6) (v := .long (lI tp1)) (C := RX6) (T := TX6) (N := 20) hx hb hU inlX6 hown hK hP 0 rfl rfl 18 (by decide) (hU _ kf_RX6_108) (fun _ h9 => h9) rfl dX6_guess_87 ?_
                refine lv_goto (tgt := 97) hx hb dX6_guess_90 (by decide) ?_
                rw [hQ]
                exact ze_Wl hx hb hr hlk dX6_guess_97 (sn_3, sns_4, iq_5, rt_6, scl_7, tb_8, gr_9, bel_10, ups_11, tp1, bt1) (by unfold an_gs; rw [if_pos (by omega), ci_t hx1, if_neg (by omega), if_neg (by omega), if_neg (by omega), if_neg (by omega), if_pos (by omega), hlg.1, hg.2.2.2.2, hg.2.2.1]; exact sp_top_sg _ hx1.2) hP hK hD hS
            · skip
              refine lv_aload_n hx hb dX6_guess_55 rfl (lv_at hl 0 rfl) ?_
              refine lv_lconst (v := lI 0) hx hb dX6_guess_56 rfl ?_
              refine zc_Wv (As := [.long (lI 0)]) (rest := []) (wr := []) (wc := [(m0, .inr (6, [.ref mw, .int (iI kn), .int (iI kp), .int (iI sd), .ref mks, .ref mbx, .ref mby, .ref mbi, .int (iI bkn), .ref msn, .int (iI sns_4), .ref miq, .ref mtb, .ref mrt, .ref mgr, .ref mup, .long (lI bel_10), .long (lI scl_7), .long (lI tp), .long (lI bt)])), (mw, .inl (cI, 760, .inl (aI w))), (mks, .inl (cI, 2, .inl (aI ks))), (mbx, .inl (cI, 20, .inl (aI bkx))), (mby, .inl (cI, 20, .inl (aI bky))), (mbi, .inl (cI, 20, .inl (aI bki))), (msn, .inl (cI, 4, .inl (aI sn_3))), (miq, .inl (cI, 4, .inl (aI iq_5))), (mtb, .inl (cL, 25, .inr (.inl (aL tb_8)))), (mrt, .inl (cL, 5, .inr (.inl (aL rt_6)))), (mgr, .inl (cL, 32, .inr (.inl (aL gr_9)))), (mup, .inl (cL, 5, .inr (.inl (aL ups_11))))]) (c_X6_laySpread l D cI cL cG cM m0 mw mks mbx mby mbi msn miq mtb mrt mgr mup w kn kp sd ks bkx bky bki bkn sn_3 sns_4 iq_5 tb_8 rt_6 gr_9 ups_11 bel_10 scl_7 tp bt 0 (sp_L0 w x y) (sp_V0 w x y) 1 (hv) (hok) (hL) (hg) (hx1) (hV) (by omega) _) hx hb hml hown hU hl.1 ct_yX6_laySpread cv_yX6_laySpread km_RX6_192 hK hNst hP hD hS hA [0, 1, 2, 3, 4, 5, 6, 7, 8, 9, 10, 11] [] rfl rfl (by decide) (by decide) (by decide) 6 0 rfl rfl rfl ⟨rfl, rfl⟩ ⟨Nat.le_of_ble_eq_true rfl, Nat.le_of_ble_eq_true rfl⟩ rfl rfl (Nat.le_of_ble_eq_true rfl) dX6_guess_57 ⟨Nat.le_of_ble_eq_true rfl, Nat.le_of_ble_eq_true rfl⟩ (fun u H locs hlg hP hD hS _ => ?_)
              obtain ⟨tp1, bt1⟩ := u
              have hlg : tp1 = sp_top (nS w (sp_L0 w x y) (sp_V0 w x y) 1 0) (1 * 1 * nD w (sp_L0 w x y)) ∧ bt1 = sp_bot (nS w (sp_L0 w x y) (sp_V0 w x y) 1 0) (1 * 1 * nD w (sp_L0 w x y)) := hlg
              have hP : va_P D vwCl [(m0, .inr (6, [.ref mw, .int (iI kn), .int (iI kp), .int (iI sd), .ref mks, .ref mbx, .ref mby, .ref mbi, .int (iI bkn), .ref msn, .int (iI sns_4), .ref miq, .ref mtb, .ref mrt, .ref mgr, .ref mup, .long (lI bel_10), .long (lI scl_7), .long (lI tp1), .long (lI bt1)])), (mw, .inl (cI, 760, .inl (aI w))), (mks, .inl (cI, 2, .inl (aI ks))), (mbx, .inl (cI, 20, .inl (aI bkx))), (mby, .inl (cI, 20, .inl (aI bky))), (mbi, .inl (cI, 20, .inl (aI bki))), (msn, .inl (cI, 4, .inl (aI sn_3))), (miq, .inl (cI, 4, .inl (aI iq_5))), (mtb, .inl (cL, 25, .inr (.inl (aL tb_8)))), (mrt, .inl (cL, 5, .inr (.inl (aL rt_6)))), (mgr, .inl (cL, 32, .inr (.inl (aL gr_9)))), (mup, .inl (cL, 5, .inr (.inl (aL ups_11))))] H := hP
              have hD : va_D A [(m0, .inr (6, [.ref mw, .int (iI kn), .int (iI kp), .int (iI sd), .ref mks, .ref mbx, .ref mby, .ref mbi, .int (iI bkn), .ref msn, .int (iI sns_4), .ref miq, .ref mtb, .ref mrt, .ref mgr, .ref mup, .long (lI bel_10), .long (lI scl_7), .long (lI tp1), .long (lI bt1)])), (mw, .inl (cI, 760, .inl (aI w))), (mks, .inl (cI, 2, .inl (aI ks))), (mbx, .inl (cI, 20, .inl (aI bkx))), (mby, .inl (cI, 20, .inl (aI bky))), (mbi, .inl (cI, 20, .inl (aI bki))), (msn, .inl (cI, 4, .inl (aI sn_3))), (miq, .inl (cI, 4, .inl (aI iq_5))), (mtb, .inl (cL, 25, .inr (.inl (aL tb_8)))), (mrt, .inl (cL, 5, .inr (.inl (aL rt_6)))), (mgr, .inl (cL, 32, .inr (.inl (aL gr_9)))), (mup, .inl (cL, 5, .inr (.inl (aL ups_11))))] := hD
              refine lv_goto (tgt := 80) hx hb dX6_guess_60 (by decide) ?_
              refine lv_iload_n hx hb dX6_guess_80 rfl (lv_at hl 3 rfl) ?_
              refine lv_iconst (v := iI 2) hx hb dX6_guess_81 rfl ?_
              refine zr_irem hx hb dX6_guess_82 (by omega) (by omega) (by omega) ?_
              have hwm : wh.tmod 2 = wh % 2 := Int.tmod_eq_emod_of_nonneg (by omega)
              refine zr_rw (v := (wh % 2)) (hwm) ?_
              refine zr_if_ne (tgt := 93) hx hb dX6_guess_83 (by decide) (by omega) (fun c_17 => ?_) (fun c_17 => ?_)
              · skip
                refine lv_aload_n hx hb dX6_guess_93 rfl (lv_at hl 0 rfl) ?_
                refine va_get (D := D) (ci := 6) (v := .long (lI bt1)) (C := RX6) (T := TX6) (N := 20) hx hb hU inlX6 hown hK hP 0 rfl rfl 19 (by decide) (hU _ kf_RX6_111) (fun _ h9 => h9) rfl dX6_guess_94 ?_
                rw [hQ]
                exact ze_Wl hx hb hr hlk dX6_guess_97 (sn_3, sns_4, iq_5, rt_6, scl_7, tb_8, gr_9, bel_10, ups_11, tp1, bt1) (by unfold an_gs; rw [if_pos (by omega), ci_t hx1, if_neg (by omega), if_neg (by omega), if_neg (by omega), if_pos (by omega), hlg.2, Int.one_mul, Int.one_mul]) hP hK hD hS
              · skip
                refine lv_aload_n hx hb dX6_guess_86 rfl (lv_at hl 0 rfl) ?_
                refine va_get (D := D) (ci := 6) (v := .long (lI tp1)) (C := RX6) (T := TX6) (N := 20) hx hb hU inlX6 hown hK hP 0 rfl rfl 18 (by decide) (hU _ kf_RX6_108) (fun _ h9 => h9) rfl dX6_guess_87 ?_
                refine lv_goto (tgt := 97) hx hb dX6_guess_90 (by decide) ?_
                rw [hQ]
                exact ze_Wl hx hb hr hlk dX6_guess_97 (sn_3, sns_4, iq_5, rt_6, scl_7, tb_8, gr_9, bel_10, ups_11, tp1, bt1) (by unfold an_gs; rw [if_pos (by omega), ci_t hx1, if_neg (by omega), if_neg (by omega), if_pos (by omega), hlg.1, Int.one_mul, Int.one_mul]) hP hK hD hS
          · skip
            refine lv_aload_n hx hb dX6_guess_43 rfl (lv_at hl 0 rfl) ?_
            refine zc_Wv (As := []) (rest := []) (wr := []) (wc := [(m0, .inr (6, [.ref mw, .int (iI kn), .int (iI kp), .int (iI sd), .ref mks, .ref mbx, .ref mby, .ref mbi, .int (iI bkn), .ref msn, .int (iI sns_4), .ref miq, .ref mtb, .ref mrt, .ref mgr, .ref mup, .long (lI bel_10), .long (lI scl_7), .long (lI tp), .long (lI bt)])), (mw, .inl (cI, 760, .inl (aI w))), (mks, .inl (cI, 2, .inl (aI ks))), (mbx, .inl (cI, 20, .inl (aI bkx))), (mby, .inl (cI, 20, .inl (aI bky))), (mbi, .inl (cI, 20, .inl (aI bki))), (msn, .inl (cI, 4, .inl (aI sn_3))), (miq, .inl (cI, 4, .inl (aI iq_5))), (mtb, .inl (cL, 25, .inr (.inl (aL tb_8)))), (mrt, .inl (cL, 5, .inr (.inl (aL rt_6)))), (mgr, .inl (cL, 32, .inr (.inl (aL gr_9)))), (mup, .inl (cL, 5, .inr (.inl (aL ups_11))))]) (c_X6_layGrade l D cI cL cG cM m0 mw mks mbx mby mbi msn miq mtb mrt mgr mup w kn kp sd ks bkx bky bki bkn sn_3 sns_4 iq_5 tb_8 rt_6 gr_9 ups_11 bel_10 scl_7 tp bt (sp_L0 w x y) (sp_V0 w x y) 1 (hv) (hok) (hL) (hg) (hx1) (hV) _) hx hb hml hown hU hl.1 ct_yX6_layGrade cv_yX6_layGrade km_RX6_122 hK hNst hP hD hS hA [0, 1, 2, 3, 4, 5, 6, 7, 8, 9, 10, 11] [] rfl rfl (by decide) (by decide) (by decide) 6 0 rfl rfl rfl ⟨rfl, rfl⟩ ⟨Nat.le_of_ble_eq_true rfl, Nat.le_of_ble_eq_true rfl⟩ rfl rfl (Nat.le_of_ble_eq_true rfl) dX6_guess_44 ⟨Nat.le_of_ble_eq_true rfl, Nat.le_of_ble_eq_true rfl⟩ (fun u H locs hlg hP hD hS _ => ?_)
            obtain ⟨tp1, bt1⟩ := u
            have hlg : tp1 = sp_top (nG w (sp_L0 w x y) (sp_V0 w x y) 1) (1 * nD w (sp_L0 w x y)) ∧ bt1 = sp_bot (nG w (sp_L0 w x y) (sp_V0 w x y) 1) (1 * nD w (sp_L0 w x y)) := hlg
            have hP : va_P D vwCl [(m0, .inr (6, [.ref mw, .int (iI kn), .int (iI kp), .int (iI sd), .ref mks, .ref mbx, .ref mby, .ref mbi, .int (iI bkn), .ref msn, .int (iI sns_4), .ref miq, .ref mtb, .ref mrt, .ref mgr, .ref mup, .long (lI bel_10), .long (lI scl_7), .long (lI tp1), .long (lI bt1)])), (mw, .inl (cI, 760, .inl (aI w))), (mks, .inl (cI, 2, .inl (aI ks))), (mbx, .inl (cI, 20, .inl (aI bkx))), (mby, .inl (cI, 20, .inl (aI bky))), (mbi, .inl (cI, 20, .inl (aI bki))), (msn, .inl (cI, 4, .inl (aI sn_3))), (miq, .inl (cI, 4, .inl (aI iq_5))), (mtb, .inl (cL, 25, .inr (.inl (aL tb_8)))), (mrt, .inl (cL, 5, .inr (.inl (aL rt_6)))), (mgr, .inl (cL, 32, .inr (.inl (aL gr_9)))), (mup, .inl (cL, 5, .inr (.inl (aL ups_11))))] H := hP
            have hD : va_D A [(m0, .inr (6, [.ref mw, .int (iI kn), .int (iI kp), .int (iI sd), .ref mks, .ref mbx, .ref mby, .ref mbi, .int (iI bkn), .ref msn, .int (iI sns_4), .ref miq, .ref mtb, .ref mrt, .ref mgr, .ref mup, .long (lI bel_10), .long (lI scl_7), .long (lI tp1), .long (lI bt1)])), (mw, .inl (cI, 760, .inl (aI w))), (mks, .inl (cI, 2, .inl (aI ks))), (mbx, .inl (cI, 20, .inl (aI bkx))), (mby, .inl (cI, 20, .inl (aI bky))), (mbi, .inl (cI, 20, .inl (aI bki))), (msn, .inl (cI, 4, .inl (aI sn_3))), (miq, .inl (cI, 4, .inl (aI iq_5))), (mtb, .inl (cL, 25, .inr (.inl (aL tb_8)))), (mrt, .inl (cL, 5, .inr (.inl (aL rt_6)))), (mgr, .inl (cL, 32, .inr (.inl (aL gr_9)))), (mup, .inl (cL, 5, .inr (.inl (aL ups_11))))] := hD
            refine lv_goto (tgt := 80) hx hb dX6_guess_47 (by decide) ?_
            refine lv_iload_n hx hb dX6_guess_80 rfl (lv_at hl 3 rfl) ?_
            refine lv_iconst (v := iI 2) hx hb dX6_guess_81 rfl ?_
            refine zr_irem hx hb dX6_guess_82 (by omega) (by omega) (by omega) ?_
            have hwm : wh.tmod 2 = wh % 2 := Int.tmod_eq_emod_of_nonneg (by omega)
            refine zr_rw (v := (wh % 2)) (hwm) ?_
            refine zr_if_ne (tgt := 93) hx hb dX6_guess_83 (by decide) (by omega) (fun c_19 => ?_) (fun c_19 => ?_)
            · skip
              refine lv_aload_n hx hb dX6_guess_93 rfl (lv_at hl 0 rfl) ?_
              refine va_get (D := D) (ci := 6) (v := .long (lI bt1)) (C := RX6) (T := TX6) (N := 20) hx hb hU inlX6 hown hK hP 0 rfl rfl 19 (by decide) (hU _ kf_RX6_111) (fun _ h9 => h9) rfl dX6_guess_94 ?_
              rw [hQ]
              exact ze_Wl hx hb hr hlk dX6_guess_97 (sn_3, sns_4, iq_5, rt_6, scl_7, tb_8, gr_9, bel_10, ups_11, tp1, bt1) (by unfold an_gs; rw [if_pos (by omega), ci_t hx1, if_neg (by omega), if_pos (by omega), hlg.2, Int.one_mul]) hP hK hD hS
            · skip
              refine lv_aload_n hx hb dX6_guess_86 rfl (lv_at hl 0 rfl) ?_
              refine va_get (D := D) (ci := 6) (v := .long (lI tp1)) (C := RX6) (T := TX6) (N := 20) hx hb hU inlX6 hown hK hP 0 rfl rfl 18 (by decide) (hU _ kf_RX6_108) (fun _ h9 => h9) rfl dX6_guess_87 ?_
              refine lv_goto (tgt := 97) hx hb dX6_guess_90 (by decide) ?_
              rw [hQ]
              exact ze_Wl hx hb hr hlk dX6_guess_97 (sn_3, sns_4, iq_5, rt_6, scl_7, tb_8, gr_9, bel_10, ups_11, tp1, bt1) (by unfold an_gs; rw [if_pos (by omega), ci_t hx1, if_pos (by omega), hlg.1, Int.one_mul]) hP hK hD hS
        · skip
          refine lv_ldc2 hx hb hown (hU _ kk_RX6_190) dX6_guess_34 ?_
          rw [hQ]
          exact ze_Wl hx hb hr hlk dX6_guess_37 (sn_3, sns_4, iq_5, rt_6, scl_7, tb_8, gr_9, bel_10, ups_11, tp, bt) (by unfold an_gs; rw [if_pos (by omega), ci_f (zB_e0 (by rw [← hz1]; exact c31))]) hP hK hD hS
      · skip
        refine lv_ldc2 hx hb hown (hU _ kk_RX6_188) dX6_guess_20 ?_
        rw [hQ]
        exact ze_Wl hx hb hr hlk dX6_guess_23 (sn, sns, iq, rt, scl, tb, gr, bel, ups, tp, bt) (by unfold an_gs; rw [if_neg (by omega)]) hP hK hD hS
  rw [hlocs]
  exact hW0 s.heap [] hP hD hS

set_option maxHeartbeats 4000000 in
set_option maxRecDepth 100000 in
theorem c_X6_weight (l : Launch) (D : va_G) (cI cL cG cM : ClassId) (m0 mw mks mbx mby mbi msn miq mtb mrt mgr mup : Nat) (w : Nat → Int) (kn : Int) (kp : Int) (sd : Int) (ks : Nat → Int) (bkx : Nat → Int) (bky : Nat → Int) (bki : Nat → Int) (bkn : Int) (sn : Nat → Int) (sns : Int) (iq : Nat → Int) (tb : Nat → Int) (rt : Nat → Int) (gr : Nat → Int) (ups : Nat → Int) (bel : Int) (scl : Int) (tp : Int) (bt : Int) (x : Int) (y : Int) (i : Int) (wh : Int) (hv : vR w) (g1 : -2147483648 ≤ x ∧ x ≤ 2147483647) (g2 : -2147483648 ≤ y ∧ y ≤ 2147483647) (g3 : -2147483648 ≤ i ∧ i ≤ 2147483647) (g4 : -2147483648 ≤ wh ∧ wh ≤ 2147483647) (sz : Nat) : Met l yX6_weight (wU yX6_weight cX6_weight 5 (some .long)) (rmF 5 119) (pcW D (tyA cI cL cG cM) [(m0, .inr (6, [.ref mw, .int (iI kn), .int (iI kp), .int (iI sd), .ref mks, .ref mbx, .ref mby, .ref mbi, .int (iI bkn), .ref msn, .int (iI sns), .ref miq, .ref mtb, .ref mrt, .ref mgr, .ref mup, .long (lI bel), .long (lI scl), .long (lI tp), .long (lI bt)])), (mw, .inl (cI, 760, .inl (aI w))), (mks, .inl (cI, 2, .inl (aI ks))), (mbx, .inl (cI, 20, .inl (aI bkx))), (mby, .inl (cI, 20, .inl (aI bky))), (mbi, .inl (cI, 20, .inl (aI bki))), (msn, .inl (cI, 4, .inl (aI sn))), (miq, .inl (cI, 4, .inl (aI iq))), (mtb, .inl (cL, 25, .inr (.inl (aL tb)))), (mrt, .inl (cL, 5, .inr (.inl (aL rt)))), (mgr, .inl (cL, 32, .inr (.inl (aL gr)))), (mup, .inl (cL, 5, .inr (.inl (aL ups))))] [.ref m0, .int (iI x), .int (iI y), .int (iI i), .int (iI wh)] sz) (qWl (S := (Nat → Int) × Int × (Nat → Int) × (Nat → Int) × Int × (Nat → Int) × (Nat → Int) × Int × (Nat → Int) × Int × Int) D (tyA cI cL cG cM) (va_A [(m0, .inr (6, [.ref mw, .int (iI kn), .int (iI kp), .int (iI sd), .ref mks, .ref mbx, .ref mby, .ref mbi, .int (iI bkn), .ref msn, .int (iI sns), .ref miq, .ref mtb, .ref mrt, .ref mgr, .ref mup, .long (lI bel), .long (lI scl), .long (lI tp), .long (lI bt)])), (mw, .inl (cI, 760, .inl (aI w))), (mks, .inl (cI, 2, .inl (aI ks))), (mbx, .inl (cI, 20, .inl (aI bkx))), (mby, .inl (cI, 20, .inl (aI bky))), (mbi, .inl (cI, 20, .inl (aI bki))), (msn, .inl (cI, 4, .inl (aI sn))), (miq, .inl (cI, 4, .inl (aI iq))), (mtb, .inl (cL, 25, .inr (.inl (aL tb)))), (mrt, .inl (cL, 5, .inr (.inl (aL rt)))), (mgr, .inl (cL, 32, .inr (.inl (aL gr)))), (mup, .inl (cL, 5, .inr (.inl (aL ups))))] sz) (fun (z : Int) (u : (Nat → Int) × Int × (Nat → Int) × (Nat → Int) × Int × (Nat → Int) × (Nat → Int) × Int × (Nat → Int) × Int × Int) => z = an_wt w x y i wh) (fun (u : (Nat → Int) × Int × (Nat → Int) × (Nat → Int) × Int × (Nat → Int) × (Nat → Int) × Int × (Nat → Int) × Int × Int) => [(m0, .inr (6, [.ref mw, .int (iI kn), .int (iI kp), .int (iI sd), .ref mks, .ref mbx, .ref mby, .ref mbi, .int (iI bkn), .ref msn, .int (iI u.2.1), .ref miq, .ref mtb, .ref mrt, .ref mgr, .ref mup, .long (lI u.2.2.2.2.2.2.2.1), .long (lI u.2.2.2.2.1), .long (lI u.2.2.2.2.2.2.2.2.2.1), .long (lI u.2.2.2.2.2.2.2.2.2.2)])), (mw, .inl (cI, 760, .inl (aI w))), (mks, .inl (cI, 2, .inl (aI ks))), (mbx, .inl (cI, 20, .inl (aI bkx))), (mby, .inl (cI, 20, .inl (aI bky))), (mbi, .inl (cI, 20, .inl (aI bki))), (msn, .inl (cI, 4, .inl (aI u.1))), (miq, .inl (cI, 4, .inl (aI u.2.2.1))), (mtb, .inl (cL, 25, .inr (.inl (aL u.2.2.2.2.2.1)))), (mrt, .inl (cL, 5, .inr (.inl (aL u.2.2.2.1)))), (mgr, .inl (cL, 32, .inr (.inl (aL u.2.2.2.2.2.2.1)))), (mup, .inl (cL, 5, .inr (.inl (aL u.2.2.2.2.2.2.2.2.1))))])) 0 0 (va_A [(m0, .inr (6, [.ref mw, .int (iI kn), .int (iI kp), .int (iI sd), .ref mks, .ref mbx, .ref mby, .ref mbi, .int (iI bkn), .ref msn, .int (iI sns), .ref miq, .ref mtb, .ref mrt, .ref mgr, .ref mup, .long (lI bel), .long (lI scl), .long (lI tp), .long (lI bt)])), (mw, .inl (cI, 760, .inl (aI w))), (mks, .inl (cI, 2, .inl (aI ks))), (mbx, .inl (cI, 20, .inl (aI bkx))), (mby, .inl (cI, 20, .inl (aI bky))), (mbi, .inl (cI, 20, .inl (aI bki))), (msn, .inl (cI, 4, .inl (aI sn))), (miq, .inl (cI, 4, .inl (aI iq))), (mtb, .inl (cL, 25, .inr (.inl (aL tb)))), (mrt, .inl (cL, 5, .inr (.inl (aL rt)))), (mgr, .inl (cL, 32, .inr (.inl (aL gr)))), (mup, .inl (cL, 5, .inr (.inl (aL ups))))] sz) := by
  refine zm_W (own := RX6) (lv := [(0, .ref m0), (1, .int (iI x)), (2, .int (iI y)), (3, .int (iI i)), (4, .int (iI wh))]) (QF := fun A => qWl (S := (Nat → Int) × Int × (Nat → Int) × (Nat → Int) × Int × (Nat → Int) × (Nat → Int) × Int × (Nat → Int) × Int × Int) D (tyA cI cL cG cM) A (fun (z : Int) (u : (Nat → Int) × Int × (Nat → Int) × (Nat → Int) × Int × (Nat → Int) × (Nat → Int) × Int × (Nat → Int) × Int × Int) => z = an_wt w x y i wh) (fun (u : (Nat → Int) × Int × (Nat → Int) × (Nat → Int) × Int × (Nat → Int) × (Nat → Int) × Int × (Nat → Int) × Int × Int) => [(m0, .inr (6, [.ref mw, .int (iI kn), .int (iI kp), .int (iI sd), .ref mks, .ref mbx, .ref mby, .ref mbi, .int (iI bkn), .ref msn, .int (iI u.2.1), .ref miq, .ref mtb, .ref mrt, .ref mgr, .ref mup, .long (lI u.2.2.2.2.2.2.2.1), .long (lI u.2.2.2.2.1), .long (lI u.2.2.2.2.2.2.2.2.2.1), .long (lI u.2.2.2.2.2.2.2.2.2.2)])), (mw, .inl (cI, 760, .inl (aI w))), (mks, .inl (cI, 2, .inl (aI ks))), (mbx, .inl (cI, 20, .inl (aI bkx))), (mby, .inl (cI, 20, .inl (aI bky))), (mbi, .inl (cI, 20, .inl (aI bki))), (msn, .inl (cI, 4, .inl (aI u.1))), (miq, .inl (cI, 4, .inl (aI u.2.2.1))), (mtb, .inl (cL, 25, .inr (.inl (aL u.2.2.2.2.2.1)))), (mrt, .inl (cL, 5, .inr (.inl (aL u.2.2.2.1)))), (mgr, .inl (cL, 32, .inr (.inl (aL u.2.2.2.2.2.2.1)))), (mup, .inl (cL, 5, .inr (.inl (aL u.2.2.2.2.2.2.2.2.1))))])) (by decide) rfl (Nat.le_of_ble_eq_true rfl) rfl ?_
  intro p e s m below meth c A args Q hx hb hr hml hown hU hlk hnm hP hK hNst hD hA hS hsz hQ ls hl
  obtain ⟨H, hH⟩ : ∃ H, H = s.heap := ⟨_, rfl⟩
  obtain ⟨locs, hlocs⟩ : ∃ locs : List Loc, locs = [] := ⟨_, rfl⟩
  rw [← hlocs]
  have hW0 : ∀ (H : Heap) (locs : List Loc), va_P D vwCl [(m0, .inr (6, [.ref mw, .int (iI kn), .int (iI kp), .int (iI sd), .ref mks, .ref mbx, .ref mby, .ref mbi, .int (iI bkn), .ref msn, .int (iI sns), .ref miq, .ref mtb, .ref mrt, .ref mgr, .ref mup, .long (lI bel), .long (lI scl), .long (lI tp), .long (lI bt)])), (mw, .inl (cI, 760, .inl (aI w))), (mks, .inl (cI, 2, .inl (aI ks))), (mbx, .inl (cI, 20, .inl (aI bkx))), (mby, .inl (cI, 20, .inl (aI bky))), (mbi, .inl (cI, 20, .inl (aI bki))), (msn, .inl (cI, 4, .inl (aI sn))), (miq, .inl (cI, 4, .inl (aI iq))), (mtb, .inl (cL, 25, .inr (.inl (aL tb)))), (mrt, .inl (cL, 5, .inr (.inl (aL rt)))), (mgr, .inl (cL, 32, .inr (.inl (aL gr)))), (mup, .inl (cL, 5, .inr (.inl (aL ups))))] H → va_D A [(m0, .inr (6, [.ref mw, .int (iI kn), .int (iI kp), .int (iI sd), .ref mks, .ref mbx, .ref mby, .ref mbi, .int (iI bkn), .ref msn, .int (iI sns), .ref miq, .ref mtb, .ref mrt, .ref mgr, .ref mup, .long (lI bel), .long (lI scl), .long (lI tp), .long (lI bt)])), (mw, .inl (cI, 760, .inl (aI w))), (mks, .inl (cI, 2, .inl (aI ks))), (mbx, .inl (cI, 20, .inl (aI bkx))), (mby, .inl (cI, 20, .inl (aI bky))), (mbi, .inl (cI, 20, .inl (aI bki))), (msn, .inl (cI, 4, .inl (aI sn))), (miq, .inl (cI, 4, .inl (aI iq))), (mtb, .inl (cL, 25, .inr (.inl (aL tb)))), (mrt, .inl (cL, 5, .inr (.inl (aL rt)))), (mgr, .inl (cL, 32, .inr (.inl (aL gr)))), (mup, .inl (cL, 5, .inr (.inl (aL ups))))] → va_S A s.heap H locs → W p l e (rmF 5 119) s m args below meth c H locs 0 0 Q (F0 m 0 ls []) := by
    clear hP hD hS hH hlocs H locs
    intro H locs hP hD hS
    refine lv_iload_n hx hb dX6_weight_0 rfl (lv_at hl 1 rfl) ?_
    refine lv_iload_n hx hb dX6_weight_1 rfl (lv_at hl 2 rfl) ?_
    refine zc_Si (As := [.int (iI x), .int (iI y)]) (rest := []) (c_X6_isPlace l D cI cL cG cM x y (by omega) (by omega)) hx hb hml hown hU hl.1 ct_yX6_isPlace kt_yX6_isPlace km_RX6_168 ⟨rfl, rfl⟩ ⟨Nat.le_of_ble_eq_true rfl, Nat.le_of_ble_eq_true rfl⟩ rfl rfl (Nat.le_of_ble_eq_true rfl) dX6_weight_2 ⟨Nat.le_of_ble_eq_true rfl, Nat.le_of_ble_eq_true rfl⟩ ?_
    refine zr_bif_eq (tgt := 31) hx hb dX6_weight_5 (by decide) (fun c_1 => ?_) (fun c_1 => ?_)
    · skip
      refine lv_ldc2 hx hb hown (hU _ kk_RX6_188) dX6_weight_31 ?_
      rw [hQ]
      exact ze_Wl hx hb hr hlk dX6_weight_34 (sn, sns, iq, rt, scl, tb, gr, bel, ups, tp, bt) (by unfold an_wt; rw [if_neg (by omega)]) hP hK hD hS
    · skip
      refine lv_iload_n hx hb dX6_weight_8 rfl (lv_at hl 3 rfl) ?_
      refine zr_i2l hx hb dX6_weight_9 (by omega) ?_
      refine lv_lconst (v := lI 0) hx hb dX6_weight_10 rfl ?_
      refine lv_ldc2 hx hb hown (hU _ kk_RX6_186) dX6_weight_11 ?_
      refine zc_Si (As := [.long (lI i), .long (lI 0), .long (lI 3)]) (rest := []) (c_X6_in l D cI cL cG cM i 0 3 (by omega) (by omega) (by omega)) hx hb hml hown hU hl.1 ct_yX6_in kt_yX6_in km_RX6_44 ⟨rfl, rfl⟩ ⟨Nat.le_of_ble_eq_true rfl, Nat.le_of_ble_eq_true rfl⟩ rfl rfl (Nat.le_of_ble_eq_true rfl) dX6_weight_14 ⟨Nat.le_of_ble_eq_true rfl, Nat.le_of_ble_eq_true rfl⟩ ?_
      refine zr_bif_eq (tgt := 31) hx hb dX6_weight_17 (by decide) (fun c_2 => ?_) (fun c_2 => ?_)
      · skip
        refine lv_ldc2 hx hb hown (hU _ kk_RX6_188) dX6_weight_31 ?_
        rw [hQ]
        exact ze_Wl hx hb hr hlk dX6_weight_34 (sn, sns, iq, rt, scl, tb, gr, bel, ups, tp, bt) (by unfold an_wt; rw [if_neg (by omega)]) hP hK hD hS
      · skip
        refine lv_iload hx hb dX6_weight_20 (lv_at hl 4 rfl) ?_
        refine zr_i2l hx hb dX6_weight_22 (by omega) ?_
        refine lv_lconst (v := lI 0) hx hb dX6_weight_23 rfl ?_
        refine lv_lconst (v := lI 1) hx hb dX6_weight_24 rfl ?_
        refine zc_Si (As := [.long (lI wh), .long (lI 0), .long (lI 1)]) (rest := []) (c_X6_in l D cI cL cG cM wh 0 1 (by omega) (by omega) (by omega)) hx hb hml hown hU hl.1 ct_yX6_in kt_yX6_in km_RX6_44 ⟨rfl, rfl⟩ ⟨Nat.le_of_ble_eq_true rfl, Nat.le_of_ble_eq_true rfl⟩ rfl rfl (Nat.le_of_ble_eq_true rfl) dX6_weight_25 ⟨Nat.le_of_ble_eq_true rfl, Nat.le_of_ble_eq_true rfl⟩ ?_
        refine zr_bif_ne (tgt := 35) hx hb dX6_weight_28 (by decide) (fun c_3 => ?_) (fun c_3 => ?_)
        · skip
          have h1 : 0 ≤ x ∧ x ≤ 31 := by omega
          have h2 : 0 ≤ y ∧ y ≤ 31 := by omega
          refine lv_aload_n hx hb dX6_weight_35 rfl (lv_at hl 0 rfl) ?_
          refine lv_iload_n hx hb dX6_weight_36 rfl (lv_at hl 1 rfl) ?_
          refine lv_iload_n hx hb dX6_weight_37 rfl (lv_at hl 2 rfl) ?_
          refine lv_iconst (v := iI (-1)) hx hb dX6_weight_38 rfl ?_
          refine zc_Wi (As := [.int (iI x), .int (iI y), .int (iI (-1))]) (rest := []) (wr := []) (wc := [(m0, .inr (6, [.ref mw, .int (iI kn), .int (iI kp), .int (iI sd), .ref mks, .ref mbx, .ref mby, .ref mbi, .int (iI bkn), .ref msn, .int (iI sns), .ref miq, .ref mtb, .ref mrt, .ref mgr, .ref mup, .long (lI bel), .long (lI scl), .long (lI tp), .long (lI bt)])), (mw, .inl (cI, 760, .inl (aI w))), (mks, .inl (cI, 2, .inl (aI ks))), (mbx, .inl (cI, 20, .inl (aI bkx))), (mby, .inl (cI, 20, .inl (aI bky))), (mbi, .inl (cI, 20, .inl (aI bki))), (msn, .inl (cI, 4, .inl (aI sn))), (miq, .inl (cI, 4, .inl (aI iq))), (mtb, .inl (cL, 25, .inr (.inl (aL tb)))), (mrt, .inl (cL, 5, .inr (.inl (aL rt)))), (mgr, .inl (cL, 32, .inr (.inl (aL gr)))), (mup, .inl (cL, 5, .inr (.inl (aL ups))))]) (c_X6_guessAt l D cI cL cG cM m0 mw mks mbx mby mbi msn miq mtb mrt mgr mup w kn kp sd ks bkx bky bki bkn sn sns iq tb rt gr ups bel scl tp bt x y (-1) (hv) (by omega) (by omega) (by omega) _) hx hb hml hown hU hl.1 ct_yX6_guessAt cv_yX6_guessAt km_RX6_118 hK hNst hP hD hS hA [0, 1, 2, 3, 4, 5, 6, 7, 8, 9, 10, 11] [] rfl rfl (by decide) (by decide) (by decide) 6 0 rfl rfl rfl ⟨rfl, rfl⟩ ⟨Nat.le_of_ble_eq_true rfl, Nat.le_of_ble_eq_true rfl⟩ rfl rfl (Nat.le_of_ble_eq_true rfl) dX6_weight_39 ⟨Nat.le_of_ble_eq_true rfl, Nat.le_of_ble_eq_true rfl⟩ (fun zg u H locs hga hP hD hS _ => ?_)
          obtain ⟨sn_4, sns_5, iq_6, rt_7, scl_8, tb_9, gr_10, bel_11, ups_12⟩ := u
          have hga : isL (sp_lk w x y (-1)) sn_4 sns_5 ∧ zg = zB (gEx w (sp_lk w x y (-1))) ∧ (gEx w (sp_lk w x y (-1)) → gOK w (sp_lk w x y (-1)) (sp_v1 w (sp_lk w x y (-1)) x y) 1 rt_7 ups_12 bel_11 scl_8) := hga
          have hP : va_P D vwCl [(m0, .inr (6, [.ref mw, .int (iI kn), .int (iI kp), .int (iI sd), .ref mks, .ref mbx, .ref mby, .ref mbi, .int (iI bkn), .ref msn, .int (iI sns_5), .ref miq, .ref mtb, .ref mrt, .ref mgr, .ref mup, .long (lI bel_11), .long (lI scl_8), .long (lI tp), .long (lI bt)])), (mw, .inl (cI, 760, .inl (aI w))), (mks, .inl (cI, 2, .inl (aI ks))), (mbx, .inl (cI, 20, .inl (aI bkx))), (mby, .inl (cI, 20, .inl (aI bky))), (mbi, .inl (cI, 20, .inl (aI bki))), (msn, .inl (cI, 4, .inl (aI sn_4))), (miq, .inl (cI, 4, .inl (aI iq_6))), (mtb, .inl (cL, 25, .inr (.inl (aL tb_9)))), (mrt, .inl (cL, 5, .inr (.inl (aL rt_7)))), (mgr, .inl (cL, 32, .inr (.inl (aL gr_10)))), (mup, .inl (cL, 5, .inr (.inl (aL ups_12))))] H := hP
          have hD : va_D A [(m0, .inr (6, [.ref mw, .int (iI kn), .int (iI kp), .int (iI sd), .ref mks, .ref mbx, .ref mby, .ref mbi, .int (iI bkn), .ref msn, .int (iI sns_5), .ref miq, .ref mtb, .ref mrt, .ref mgr, .ref mup, .long (lI bel_11), .long (lI scl_8), .long (lI tp), .long (lI bt)])), (mw, .inl (cI, 760, .inl (aI w))), (mks, .inl (cI, 2, .inl (aI ks))), (mbx, .inl (cI, 20, .inl (aI bkx))), (mby, .inl (cI, 20, .inl (aI bky))), (mbi, .inl (cI, 20, .inl (aI bki))), (msn, .inl (cI, 4, .inl (aI sn_4))), (miq, .inl (cI, 4, .inl (aI iq_6))), (mtb, .inl (cL, 25, .inr (.inl (aL tb_9)))), (mrt, .inl (cL, 5, .inr (.inl (aL rt_7)))), (mgr, .inl (cL, 32, .inr (.inl (aL gr_10)))), (mup, .inl (cL, 5, .inr (.inl (aL ups_12))))] := hD
          have hL : isL (sp_L0 w x y) _ _ := hga.1
          have hz1 : zg = zB (gEx w (sp_L0 w x y)) := hga.2.1
          have hzr := zB_rg (gEx w (sp_L0 w x y))
          rw [← hz1] at hzr
          have hgx : gEx w (sp_L0 w x y) → gOK w (sp_L0 w x y) (sp_V0 w x y) 1 _ _ _ _ := hga.2.2
          have hok : okL w (sp_L0 w x y) := okL_lk hv _ _ _
          refine zr_if_eq (tgt := 53) hx hb dX6_weight_42 (by decide) (by omega) (fun c42 => ?_) (fun c42 => ?_)
          · skip
            refine lv_ldc2 hx hb hown (hU _ kk_RX6_190) dX6_weight_53 ?_
            rw [hQ]
            exact ze_Wl hx hb hr hlk dX6_weight_56 (sn_4, sns_5, iq_6, rt_7, scl_8, tb_9, gr_10, bel_11, ups_12, tp, bt) (by unfold an_wt; rw [if_pos (by omega), ci_f (fun h => zB_e0 (by rw [← hz1]; exact c42) h.1)]) hP hK hD hS
          · skip
            have hx1 := zB_n0 (by rw [← hz1]; exact c42)
            have hg := hgx hx1
            have hV : okV (sp_L0 w x y).length (sp_V0 w x y) 1 := okV_v1 hv hok (by omega) (by omega)
            have h4 := okL_le hv hok
            have hl1 := hL.1
            have hdr := nD_rg hv hok
            have hFr := nF_rg hv hok hx1.1 hV
            have hs5 := sg_cases (sp_L0 w x y).length
            refine lv_iload_n hx hb dX6_weight_45 rfl (lv_at hl 3 rfl) ?_
            refine lv_aload_n hx hb dX6_weight_46 rfl (lv_at hl 0 rfl) ?_
            refine va_get (D := D) (ci := 6) (v := .int (iI sns_5)) (C := RX6) (T := TX6) (N := 20) hx hb hU inlX6 hown hK hP 0 rfl rfl 10 (by decide) (hU _ kf_RX6_65) (fun _ h9 => h9) rfl dX6_weight_47 ?_
            refine zr_icmp_lt (tgt := 57) hx hb dX6_weight_50 (by decide) (by omega) (by omega) (fun c50 => ?_) (fun c50 => ?_)
            · skip
              have hpr := nP_rg hv hok hV i.toNat
              refine lv_aload_n hx hb dX6_weight_57 rfl (lv_at hl 0 rfl) ?_
              refine lv_aload_n hx hb dX6_weight_58 rfl (lv_at hl 0 rfl) ?_
              refine va_get (D := D) (ci := 6) (v := .ref mup) (C := RX6) (T := TX6) (N := 20) hx hb hU inlX6 hown hK hP 0 rfl rfl 15 (by decide) (hU _ kf_RX6_41) (fun _ h9 => h9) rfl dX6_weight_59 ?_
              refine lv_iload_n hx hb dX6_weight_62 rfl (lv_at hl 3 rfl) ?_
              refine zr_lald hx hb hK hP 11 1 rfl rfl i.toNat (by omega) (by omega) (Nat.le_of_ble_eq_true rfl) dX6_weight_63 ?_
              refine lv_aload_n hx hb dX6_weight_64 rfl (lv_at hl 0 rfl) ?_
              refine va_get (D := D) (ci := 6) (v := .long (lI bel_11)) (C := RX6) (T := TX6) (N := 20) hx hb hU inlX6 hown hK hP 0 rfl rfl 16 (by decide) (hU _ kf_RX6_88) (fun _ h9 => h9) rfl dX6_weight_65 ?_
              refine zc_Wv (As := [.long (lI (ups_12 i.toNat)), .long (lI bel_11)]) (rest := []) (wr := []) (wc := [(m0, .inr (6, [.ref mw, .int (iI kn), .int (iI kp), .int (iI sd), .ref mks, .ref mbx, .ref mby, .ref mbi, .int (iI bkn), .ref msn, .int (iI sns_5), .ref miq, .ref mtb, .ref mrt, .ref mgr, .ref mup, .long (lI bel_11), .long (lI scl_8), .long (lI tp), .long (lI bt)])), (mw, .inl (cI, 760, .inl (aI w))), (mks, .inl (cI, 2, .inl (aI ks))), (mbx, .inl (cI, 20, .inl (aI bkx))), (mby, .inl (cI, 20, .inl (aI bky))), (mbi, .inl (cI, 20, .inl (aI bki))), (msn, .inl (cI, 4, .inl (aI sn_4))), (miq, .inl (cI, 4, .inl (aI iq_6))), (mtb, .inl (cL, 25, .inr (.inl (aL tb_9)))), (mrt, .inl (cL, 5, .inr (.inl (aL rt_7)))), (mgr, .inl (cL, 32, .inr (.inl (aL gr_10)))), (mup, .inl (cL, 5, .inr (.inl (aL ups_12))))]) (c_X6_reduce l D cI cL cG cM m0 mw mks mbx mby mbi msn miq mtb mrt mgr mup w kn kp sd ks bkx bky bki bkn sn_4 sns_5 iq_6 tb_9 rt_7 gr_10 ups_12 bel_11 scl_8 tp bt (ups_12 i.toNat) bel_11 (by rw [hg.2.2.2.1 _ (by omega)]; rcases hs5 with h | h <;> rw [h] <;> omega) (by rw [hg.2.2.1]; rcases hs5 with h | h <;> rw [h] <;> omega) (by rw [hg.2.2.1]; exact sg_mul_ne.mpr hx1.2) _) hx hb hml hown hU hl.1 ct_yX6_reduce cv_yX6_reduce km_RX6_114 hK hNst hP hD hS hA [0, 1, 2, 3, 4, 5, 6, 7, 8, 9, 10, 11] [] rfl rfl (by decide) (by decide) (by decide) 6 0 rfl rfl rfl ⟨rfl, rfl⟩ ⟨Nat.le_of_ble_eq_true rfl, Nat.le_of_ble_eq_true rfl⟩ rfl rfl (Nat.le_of_ble_eq_true rfl) dX6_weight_68 ⟨Nat.le_of_ble_eq_true rfl, Nat.le_of_ble_eq_true rfl⟩ (fun u H locs hlg hP hD hS _ => ?_)
              obtain ⟨tp1, bt1⟩ := u
              have hlg : tp1 = sp_top (ups_12 i.toNat) bel_11 ∧ bt1 = sp_bot (ups_12 i.toNat) bel_11 := hlg
              have hP : va_P D vwCl [(m0, .inr (6, [.ref mw, .int (iI kn), .int (iI kp), .int (iI sd), .ref mks, .ref mbx, .ref mby, .ref mbi, .int (iI bkn), .ref msn, .int (iI sns_5), .ref miq, .ref mtb, .ref mrt, .ref mgr, .ref mup, .long (lI bel_11), .long (lI scl_8), .long (lI tp1), .long (lI bt1)])), (mw, .inl (cI, 760, .inl (aI w))), (mks, .inl (cI, 2, .inl (aI ks))), (mbx, .inl (cI, 20, .inl (aI bkx))), (mby, .inl (cI, 20, .inl (aI bky))), (mbi, .inl (cI, 20, .inl (aI bki))), (msn, .inl (cI, 4, .inl (aI sn_4))), (miq, .inl (cI, 4, .inl (aI iq_6))), (mtb, .inl (cL, 25, .inr (.inl (aL tb_9)))), (mrt, .inl (cL, 5, .inr (.inl (aL rt_7)))), (mgr, .inl (cL, 32, .inr (.inl (aL gr_10)))), (mup, .inl (cL, 5, .inr (.inl (aL ups_12))))] H := hP
              have hD : va_D A [(m0, .inr (6, [.ref mw, .int (iI kn), .int (iI kp), .int (iI sd), .ref mks, .ref mbx, .ref mby, .ref mbi, .int (iI bkn), .ref msn, .int (iI sns_5), .ref miq, .ref mtb, .ref mrt, .ref mgr, .ref mup, .long (lI bel_11), .long (lI scl_8), .long (lI tp1), .long (lI bt1)])), (mw, .inl (cI, 760, .inl (aI w))), (mks, .inl (cI, 2, .inl (aI ks))), (mbx, .inl (cI, 20, .inl (aI bkx))), (mby, .inl (cI, 20, .inl (aI bky))), (mbi, .inl (cI, 20, .inl (aI bki))), (msn, .inl (cI, 4, .inl (aI sn_4))), (miq, .inl (cI, 4, .inl (aI iq_6))), (mtb, .inl (cL, 25, .inr (.inl (aL tb_9)))), (mrt, .inl (cL, 5, .inr (.inl (aL rt_7)))), (mgr, .inl (cL, 32, .inr (.inl (aL gr_10)))), (mup, .inl (cL, 5, .inr (.inl (aL ups_12))))] := hD
              refine lv_iload hx hb dX6_weight_71 (lv_at hl 4 rfl) ?_
              refine zr_if_ne (tgt := 83) hx hb dX6_weight_73 (by decide) (by omega) (fun c_14 => ?_) (fun c_14 => ?_)
              · skip
                refine lv_aload_n hx hb dX6_weight_83 rfl (lv_at hl 0 rfl) ?_
                refine va_get (D := D) (ci := 6) (v := .long (lI bt1)) (C := RX6) (T := TX6) (N := 20) hx hb hU inlX6 hown hK hP 0 rfl rfl 19 (by decide) (hU _ kf_RX6_111) (fun _ h9 => h9) rfl dX6_weight_84 ?_
                rw [hQ]
                exact ze_Wl hx hb hr hlk dX6_weight_87 (sn_4, sns_5, iq_6, rt_7, scl_8, tb_9, gr_10, bel_11, ups_12, tp1, bt1) (by unfold an_wt; rw [if_pos (by omega), ci_t ⟨hx1, by omega⟩, if_neg (by omega), hlg.2, hg.2.2.2.1 _ (by omega), hg.2.2.1]; exact sp_bot_sg _ _ _) hP hK hD hS
              · skip
                refine lv_aload_n hx hb dX6_weight_76 rfl (lv_at hl 0 rfl) ?_
                refine va_get (D := D) (ci := 6) (v := .long (lI tp1)) (C := RX6) (T := TX6) (N := 20) hx hb hU inlX6 hown hK hP 0 rfl rfl 18 (by decide) (hU _ kf_RX6_108) (fun _ h9 => h9) rfl dX6_weight_77 ?_
                refine lv_goto (tgt := 87) hx hb dX6_weight_80 (by decide) ?_
                rw [hQ]
                exact ze_Wl hx hb hr hlk dX6_weight_87 (sn_4, sns_5, iq_6, rt_7, scl_8, tb_9, gr_10, bel_11, ups_12, tp1, bt1) (by unfold an_wt; rw [if_pos (by omega), ci_t ⟨hx1, by omega⟩, if_pos (by omega), hlg.1, hg.2.2.2.1 _ (by omega), hg.2.2.1]; exact sp_top_sg _ hx1.2) hP hK hD hS
            · skip
              refine lv_ldc2 hx hb hown (hU _ kk_RX6_190) dX6_weight_53 ?_
              rw [hQ]
              exact ze_Wl hx hb hr hlk dX6_weight_56 (sn_4, sns_5, iq_6, rt_7, scl_8, tb_9, gr_10, bel_11, ups_12, tp, bt) (by unfold an_wt; rw [if_pos (by omega), ci_f (fun h => by omega)]) hP hK hD hS
        · skip
          refine lv_ldc2 hx hb hown (hU _ kk_RX6_188) dX6_weight_31 ?_
          rw [hQ]
          exact ze_Wl hx hb hr hlk dX6_weight_34 (sn, sns, iq, rt, scl, tb, gr, bel, ups, tp, bt) (by unfold an_wt; rw [if_neg (by omega)]) hP hK hD hS
  rw [hlocs]
  exact hW0 s.heap [] hP hD hS

set_option maxHeartbeats 4000000 in
set_option maxRecDepth 100000 in
theorem c_X6_block (l : Launch) (D : va_G) (cI cL cG cM : ClassId) (m0 mw mks mbx mby mbi msn miq mtb mrt mgr mup : Nat) (w : Nat → Int) (kn : Int) (kp : Int) (sd : Int) (ks : Nat → Int) (bkx : Nat → Int) (bky : Nat → Int) (bki : Nat → Int) (bkn : Int) (sn : Nat → Int) (sns : Int) (iq : Nat → Int) (tb : Nat → Int) (rt : Nat → Int) (gr : Nat → Int) (ups : Nat → Int) (bel : Int) (scl : Int) (tp : Int) (bt : Int) (x : Int) (y : Int) (wh : Int) (hv : vR w) (g1 : -2147483648 ≤ x ∧ x ≤ 2147483647) (g2 : -2147483648 ≤ y ∧ y ≤ 2147483647) (g3 : -2147483648 ≤ wh ∧ wh ≤ 2147483647) (sz : Nat) : Met l yX6_block (wU yX6_block cX6_block 4 (some .long)) (rmF 5 119) (pcW D (tyA cI cL cG cM) [(m0, .inr (6, [.ref mw, .int (iI kn), .int (iI kp), .int (iI sd), .ref mks, .ref mbx, .ref mby, .ref mbi, .int (iI bkn), .ref msn, .int (iI sns), .ref miq, .ref mtb, .ref mrt, .ref mgr, .ref mup, .long (lI bel), .long (lI scl), .long (lI tp), .long (lI bt)])), (mw, .inl (cI, 760, .inl (aI w))), (mks, .inl (cI, 2, .inl (aI ks))), (mbx, .inl (cI, 20, .inl (aI bkx))), (mby, .inl (cI, 20, .inl (aI bky))), (mbi, .inl (cI, 20, .inl (aI bki))), (msn, .inl (cI, 4, .inl (aI sn))), (miq, .inl (cI, 4, .inl (aI iq))), (mtb, .inl (cL, 25, .inr (.inl (aL tb)))), (mrt, .inl (cL, 5, .inr (.inl (aL rt)))), (mgr, .inl (cL, 32, .inr (.inl (aL gr)))), (mup, .inl (cL, 5, .inr (.inl (aL ups))))] [.ref m0, .int (iI x), .int (iI y), .int (iI wh)] sz) (qWl (S := (Nat → Int) × Int × (Nat → Int) × (Nat → Int) × Int × (Nat → Int) × (Nat → Int) × Int × (Nat → Int) × Int × Int) D (tyA cI cL cG cM) (va_A [(m0, .inr (6, [.ref mw, .int (iI kn), .int (iI kp), .int (iI sd), .ref mks, .ref mbx, .ref mby, .ref mbi, .int (iI bkn), .ref msn, .int (iI sns), .ref miq, .ref mtb, .ref mrt, .ref mgr, .ref mup, .long (lI bel), .long (lI scl), .long (lI tp), .long (lI bt)])), (mw, .inl (cI, 760, .inl (aI w))), (mks, .inl (cI, 2, .inl (aI ks))), (mbx, .inl (cI, 20, .inl (aI bkx))), (mby, .inl (cI, 20, .inl (aI bky))), (mbi, .inl (cI, 20, .inl (aI bki))), (msn, .inl (cI, 4, .inl (aI sn))), (miq, .inl (cI, 4, .inl (aI iq))), (mtb, .inl (cL, 25, .inr (.inl (aL tb)))), (mrt, .inl (cL, 5, .inr (.inl (aL rt)))), (mgr, .inl (cL, 32, .inr (.inl (aL gr)))), (mup, .inl (cL, 5, .inr (.inl (aL ups))))] sz) (fun (z : Int) (u : (Nat → Int) × Int × (Nat → Int) × (Nat → Int) × Int × (Nat → Int) × (Nat → Int) × Int × (Nat → Int) × Int × Int) => z = an_bl w x y wh) (fun (u : (Nat → Int) × Int × (Nat → Int) × (Nat → Int) × Int × (Nat → Int) × (Nat → Int) × Int × (Nat → Int) × Int × Int) => [(m0, .inr (6, [.ref mw, .int (iI kn), .int (iI kp), .int (iI sd), .ref mks, .ref mbx, .ref mby, .ref mbi, .int (iI bkn), .ref msn, .int (iI u.2.1), .ref miq, .ref mtb, .ref mrt, .ref mgr, .ref mup, .long (lI u.2.2.2.2.2.2.2.1), .long (lI u.2.2.2.2.1), .long (lI u.2.2.2.2.2.2.2.2.2.1), .long (lI u.2.2.2.2.2.2.2.2.2.2)])), (mw, .inl (cI, 760, .inl (aI w))), (mks, .inl (cI, 2, .inl (aI ks))), (mbx, .inl (cI, 20, .inl (aI bkx))), (mby, .inl (cI, 20, .inl (aI bky))), (mbi, .inl (cI, 20, .inl (aI bki))), (msn, .inl (cI, 4, .inl (aI u.1))), (miq, .inl (cI, 4, .inl (aI u.2.2.1))), (mtb, .inl (cL, 25, .inr (.inl (aL u.2.2.2.2.2.1)))), (mrt, .inl (cL, 5, .inr (.inl (aL u.2.2.2.1)))), (mgr, .inl (cL, 32, .inr (.inl (aL u.2.2.2.2.2.2.1)))), (mup, .inl (cL, 5, .inr (.inl (aL u.2.2.2.2.2.2.2.2.1))))])) 0 0 (va_A [(m0, .inr (6, [.ref mw, .int (iI kn), .int (iI kp), .int (iI sd), .ref mks, .ref mbx, .ref mby, .ref mbi, .int (iI bkn), .ref msn, .int (iI sns), .ref miq, .ref mtb, .ref mrt, .ref mgr, .ref mup, .long (lI bel), .long (lI scl), .long (lI tp), .long (lI bt)])), (mw, .inl (cI, 760, .inl (aI w))), (mks, .inl (cI, 2, .inl (aI ks))), (mbx, .inl (cI, 20, .inl (aI bkx))), (mby, .inl (cI, 20, .inl (aI bky))), (mbi, .inl (cI, 20, .inl (aI bki))), (msn, .inl (cI, 4, .inl (aI sn))), (miq, .inl (cI, 4, .inl (aI iq))), (mtb, .inl (cL, 25, .inr (.inl (aL tb)))), (mrt, .inl (cL, 5, .inr (.inl (aL rt)))), (mgr, .inl (cL, 32, .inr (.inl (aL gr)))), (mup, .inl (cL, 5, .inr (.inl (aL ups))))] sz) := by
  refine zm_W (own := RX6) (lv := [(0, .ref m0), (1, .int (iI x)), (2, .int (iI y)), (3, .int (iI wh))]) (QF := fun A => qWl (S := (Nat → Int) × Int × (Nat → Int) × (Nat → Int) × Int × (Nat → Int) × (Nat → Int) × Int × (Nat → Int) × Int × Int) D (tyA cI cL cG cM) A (fun (z : Int) (u : (Nat → Int) × Int × (Nat → Int) × (Nat → Int) × Int × (Nat → Int) × (Nat → Int) × Int × (Nat → Int) × Int × Int) => z = an_bl w x y wh) (fun (u : (Nat → Int) × Int × (Nat → Int) × (Nat → Int) × Int × (Nat → Int) × (Nat → Int) × Int × (Nat → Int) × Int × Int) => [(m0, .inr (6, [.ref mw, .int (iI kn), .int (iI kp), .int (iI sd), .ref mks, .ref mbx, .ref mby, .ref mbi, .int (iI bkn), .ref msn, .int (iI u.2.1), .ref miq, .ref mtb, .ref mrt, .ref mgr, .ref mup, .long (lI u.2.2.2.2.2.2.2.1), .long (lI u.2.2.2.2.1), .long (lI u.2.2.2.2.2.2.2.2.2.1), .long (lI u.2.2.2.2.2.2.2.2.2.2)])), (mw, .inl (cI, 760, .inl (aI w))), (mks, .inl (cI, 2, .inl (aI ks))), (mbx, .inl (cI, 20, .inl (aI bkx))), (mby, .inl (cI, 20, .inl (aI bky))), (mbi, .inl (cI, 20, .inl (aI bki))), (msn, .inl (cI, 4, .inl (aI u.1))), (miq, .inl (cI, 4, .inl (aI u.2.2.1))), (mtb, .inl (cL, 25, .inr (.inl (aL u.2.2.2.2.2.1)))), (mrt, .inl (cL, 5, .inr (.inl (aL u.2.2.2.1)))), (mgr, .inl (cL, 32, .inr (.inl (aL u.2.2.2.2.2.2.1)))), (mup, .inl (cL, 5, .inr (.inl (aL u.2.2.2.2.2.2.2.2.1))))])) (by decide) rfl (Nat.le_of_ble_eq_true rfl) rfl ?_
  intro p e s m below meth c A args Q hx hb hr hml hown hU hlk hnm hP hK hNst hD hA hS hsz hQ ls hl
  obtain ⟨H, hH⟩ : ∃ H, H = s.heap := ⟨_, rfl⟩
  obtain ⟨locs, hlocs⟩ : ∃ locs : List Loc, locs = [] := ⟨_, rfl⟩
  rw [← hlocs]
  have hW0 : ∀ (H : Heap) (locs : List Loc), va_P D vwCl [(m0, .inr (6, [.ref mw, .int (iI kn), .int (iI kp), .int (iI sd), .ref mks, .ref mbx, .ref mby, .ref mbi, .int (iI bkn), .ref msn, .int (iI sns), .ref miq, .ref mtb, .ref mrt, .ref mgr, .ref mup, .long (lI bel), .long (lI scl), .long (lI tp), .long (lI bt)])), (mw, .inl (cI, 760, .inl (aI w))), (mks, .inl (cI, 2, .inl (aI ks))), (mbx, .inl (cI, 20, .inl (aI bkx))), (mby, .inl (cI, 20, .inl (aI bky))), (mbi, .inl (cI, 20, .inl (aI bki))), (msn, .inl (cI, 4, .inl (aI sn))), (miq, .inl (cI, 4, .inl (aI iq))), (mtb, .inl (cL, 25, .inr (.inl (aL tb)))), (mrt, .inl (cL, 5, .inr (.inl (aL rt)))), (mgr, .inl (cL, 32, .inr (.inl (aL gr)))), (mup, .inl (cL, 5, .inr (.inl (aL ups))))] H → va_D A [(m0, .inr (6, [.ref mw, .int (iI kn), .int (iI kp), .int (iI sd), .ref mks, .ref mbx, .ref mby, .ref mbi, .int (iI bkn), .ref msn, .int (iI sns), .ref miq, .ref mtb, .ref mrt, .ref mgr, .ref mup, .long (lI bel), .long (lI scl), .long (lI tp), .long (lI bt)])), (mw, .inl (cI, 760, .inl (aI w))), (mks, .inl (cI, 2, .inl (aI ks))), (mbx, .inl (cI, 20, .inl (aI bkx))), (mby, .inl (cI, 20, .inl (aI bky))), (mbi, .inl (cI, 20, .inl (aI bki))), (msn, .inl (cI, 4, .inl (aI sn))), (miq, .inl (cI, 4, .inl (aI iq))), (mtb, .inl (cL, 25, .inr (.inl (aL tb)))), (mrt, .inl (cL, 5, .inr (.inl (aL rt)))), (mgr, .inl (cL, 32, .inr (.inl (aL gr)))), (mup, .inl (cL, 5, .inr (.inl (aL ups))))] → va_S A s.heap H locs → W p l e (rmF 5 119) s m args below meth c H locs 0 0 Q (F0 m 0 ls []) := by
    clear hP hD hS hH hlocs H locs
    intro H locs hP hD hS
    refine lv_iload_n hx hb dX6_block_0 rfl (lv_at hl 1 rfl) ?_
    refine zr_i2l hx hb dX6_block_1 (by omega) ?_
    refine lv_lconst (v := lI 0) hx hb dX6_block_2 rfl ?_
    refine lv_ldc2 hx hb hown (hU _ kk_RX6_196) dX6_block_3 ?_
    refine zc_Si (As := [.long (lI x), .long (lI 0), .long (lI 30)]) (rest := []) (c_X6_in l D cI cL cG cM x 0 30 (by omega) (by omega) (by omega)) hx hb hml hown hU hl.1 ct_yX6_in kt_yX6_in km_RX6_44 ⟨rfl, rfl⟩ ⟨Nat.le_of_ble_eq_true rfl, Nat.le_of_ble_eq_true rfl⟩ rfl rfl (Nat.le_of_ble_eq_true rfl) dX6_block_6 ⟨Nat.le_of_ble_eq_true rfl, Nat.le_of_ble_eq_true rfl⟩ ?_
    refine zr_bif_eq (tgt := 36) hx hb dX6_block_9 (by decide) (fun c_1 => ?_) (fun c_1 => ?_)
    · skip
      refine lv_ldc2 hx hb hown (hU _ kk_RX6_188) dX6_block_36 ?_
      rw [hQ]
      exact ze_Wl hx hb hr hlk dX6_block_39 (sn, sns, iq, rt, scl, tb, gr, bel, ups, tp, bt) (by unfold an_bl; rw [if_neg (by omega)]) hP hK hD hS
    · skip
      refine lv_iload_n hx hb dX6_block_12 rfl (lv_at hl 2 rfl) ?_
      refine zr_i2l hx hb dX6_block_13 (by omega) ?_
      refine lv_lconst (v := lI 0) hx hb dX6_block_14 rfl ?_
      refine lv_ldc2 hx hb hown (hU _ kk_RX6_196) dX6_block_15 ?_
      refine zc_Si (As := [.long (lI y), .long (lI 0), .long (lI 30)]) (rest := []) (c_X6_in l D cI cL cG cM y 0 30 (by omega) (by omega) (by omega)) hx hb hml hown hU hl.1 ct_yX6_in kt_yX6_in km_RX6_44 ⟨rfl, rfl⟩ ⟨Nat.le_of_ble_eq_true rfl, Nat.le_of_ble_eq_true rfl⟩ rfl rfl (Nat.le_of_ble_eq_true rfl) dX6_block_18 ⟨Nat.le_of_ble_eq_true rfl, Nat.le_of_ble_eq_true rfl⟩ ?_
      refine zr_bif_eq (tgt := 36) hx hb dX6_block_21 (by decide) (fun c_2 => ?_) (fun c_2 => ?_)
      · skip
        refine lv_ldc2 hx hb hown (hU _ kk_RX6_188) dX6_block_36 ?_
        rw [hQ]
        exact ze_Wl hx hb hr hlk dX6_block_39 (sn, sns, iq, rt, scl, tb, gr, bel, ups, tp, bt) (by unfold an_bl; rw [if_neg (by omega)]) hP hK hD hS
      · skip
        refine lv_iload_n hx hb dX6_block_24 rfl (lv_at hl 3 rfl) ?_
        refine zr_i2l hx hb dX6_block_25 (by omega) ?_
        refine lv_lconst (v := lI 0) hx hb dX6_block_26 rfl ?_
        refine lv_ldc2 hx hb hown (hU _ kk_RX6_186) dX6_block_27 ?_
        refine zc_Si (As := [.long (lI wh), .long (lI 0), .long (lI 3)]) (rest := []) (c_X6_in l D cI cL cG cM wh 0 3 (by omega) (by omega) (by omega)) hx hb hml hown hU hl.1 ct_yX6_in kt_yX6_in km_RX6_44 ⟨rfl, rfl⟩ ⟨Nat.le_of_ble_eq_true rfl, Nat.le_of_ble_eq_true rfl⟩ rfl rfl (Nat.le_of_ble_eq_true rfl) dX6_block_30 ⟨Nat.le_of_ble_eq_true rfl, Nat.le_of_ble_eq_true rfl⟩ ?_
        refine zr_bif_ne (tgt := 40) hx hb dX6_block_33 (by decide) (fun c_3 => ?_) (fun c_3 => ?_)
        · skip
          refine lv_aload_n hx hb dX6_block_40 rfl (lv_at hl 0 rfl) ?_
          refine lv_iload_n hx hb dX6_block_41 rfl (lv_at hl 1 rfl) ?_
          refine lv_iload_n hx hb dX6_block_42 rfl (lv_at hl 2 rfl) ?_
          refine zc_Wi (As := [.int (iI x), .int (iI y)]) (rest := []) (wr := []) (wc := [(m0, .inr (6, [.ref mw, .int (iI kn), .int (iI kp), .int (iI sd), .ref mks, .ref mbx, .ref mby, .ref mbi, .int (iI bkn), .ref msn, .int (iI sns), .ref miq, .ref mtb, .ref mrt, .ref mgr, .ref mup, .long (lI bel), .long (lI scl), .long (lI tp), .long (lI bt)])), (mw, .inl (cI, 760, .inl (aI w))), (mks, .inl (cI, 2, .inl (aI ks))), (mbx, .inl (cI, 20, .inl (aI bkx))), (mby, .inl (cI, 20, .inl (aI bky))), (mbi, .inl (cI, 20, .inl (aI bki))), (msn, .inl (cI, 4, .inl (aI sn))), (miq, .inl (cI, 4, .inl (aI iq))), (mtb, .inl (cL, 25, .inr (.inl (aL tb)))), (mrt, .inl (cL, 5, .inr (.inl (aL rt)))), (mgr, .inl (cL, 32, .inr (.inl (aL gr)))), (mup, .inl (cL, 5, .inr (.inl (aL ups))))]) (c_X6_guessBlock l D cI cL cG cM m0 mw mks mbx mby mbi msn miq mtb mrt mgr mup w kn kp sd ks bkx bky bki bkn sn sns iq tb rt gr ups bel scl tp bt x y (hv) (by omega) (by omega) _) hx hb hml hown hU hl.1 ct_yX6_guessBlock cv_yX6_guessBlock km_RX6_198 hK hNst hP hD hS hA [0, 1, 2, 3, 4, 5, 6, 7, 8, 9, 10, 11] [] rfl rfl (by decide) (by decide) (by decide) 6 0 rfl rfl rfl ⟨rfl, rfl⟩ ⟨Nat.le_of_ble_eq_true rfl, Nat.le_of_ble_eq_true rfl⟩ rfl rfl (Nat.le_of_ble_eq_true rfl) dX6_block_43 ⟨Nat.le_of_ble_eq_true rfl, Nat.le_of_ble_eq_true rfl⟩ (fun zg u H locs hga hP hD hS _ => ?_)
          obtain ⟨sn_4, sns_5, iq_6, rt_7, scl_8, tb_9, gr_10, bel_11, ups_12⟩ := u
          have hga : isL (sp_lk w x y (-1)) sn_4 sns_5 ∧ zg = zB (gEx w (sp_lk w x y (-1))) ∧ (gEx w (sp_lk w x y (-1)) → gOK w (sp_lk w x y (-1)) (sp_vb w (sp_lk w x y (-1)) x y) 4 rt_7 ups_12 bel_11 scl_8) := hga
          have hP : va_P D vwCl [(m0, .inr (6, [.ref mw, .int (iI kn), .int (iI kp), .int (iI sd), .ref mks, .ref mbx, .ref mby, .ref mbi, .int (iI bkn), .ref msn, .int (iI sns_5), .ref miq, .ref mtb, .ref mrt, .ref mgr, .ref mup, .long (lI bel_11), .long (lI scl_8), .long (lI tp), .long (lI bt)])), (mw, .inl (cI, 760, .inl (aI w))), (mks, .inl (cI, 2, .inl (aI ks))), (mbx, .inl (cI, 20, .inl (aI bkx))), (mby, .inl (cI, 20, .inl (aI bky))), (mbi, .inl (cI, 20, .inl (aI bki))), (msn, .inl (cI, 4, .inl (aI sn_4))), (miq, .inl (cI, 4, .inl (aI iq_6))), (mtb, .inl (cL, 25, .inr (.inl (aL tb_9)))), (mrt, .inl (cL, 5, .inr (.inl (aL rt_7)))), (mgr, .inl (cL, 32, .inr (.inl (aL gr_10)))), (mup, .inl (cL, 5, .inr (.inl (aL ups_12))))] H := hP
          have hD : va_D A [(m0, .inr (6, [.ref mw, .int (iI kn), .int (iI kp), .int (iI sd), .ref mks, .ref mbx, .ref mby, .ref mbi, .int (iI bkn), .ref msn, .int (iI sns_5), .ref miq, .ref mtb, .ref mrt, .ref mgr, .ref mup, .long (lI bel_11), .long (lI scl_8), .long (lI tp), .long (lI bt)])), (mw, .inl (cI, 760, .inl (aI w))), (mks, .inl (cI, 2, .inl (aI ks))), (mbx, .inl (cI, 20, .inl (aI bkx))), (mby, .inl (cI, 20, .inl (aI bky))), (mbi, .inl (cI, 20, .inl (aI bki))), (msn, .inl (cI, 4, .inl (aI sn_4))), (miq, .inl (cI, 4, .inl (aI iq_6))), (mtb, .inl (cL, 25, .inr (.inl (aL tb_9)))), (mrt, .inl (cL, 5, .inr (.inl (aL rt_7)))), (mgr, .inl (cL, 32, .inr (.inl (aL gr_10)))), (mup, .inl (cL, 5, .inr (.inl (aL ups_12))))] := hD
          have hL : isL (sp_L0 w x y) _ _ := hga.1
          have hz1 : zg = zB (gEx w (sp_L0 w x y)) := hga.2.1
          have hzr := zB_rg (gEx w (sp_L0 w x y))
          rw [← hz1] at hzr
          have hgx : gEx w (sp_L0 w x y) → gOK w (sp_L0 w x y) (sp_VB w x y) 4 _ _ _ _ := hga.2.2
          have hok : okL w (sp_L0 w x y) := okL_lk hv _ _ _
          refine zr_if_ne (tgt := 53) hx hb dX6_block_46 (by decide) (by omega) (fun c46 => ?_) (fun c46 => ?_)
          · skip
            have hx1 := zB_n0 (by rw [← hz1]; exact c46)
            have hg := hgx hx1
            have hV : okV (sp_L0 w x y).length (sp_VB w x y) 4 := okV_vb hv hok (by omega) (by omega)
            have hir := sp_inn_rg hv
            refine lv_iload_n hx hb dX6_block_53 rfl (lv_at hl 3 rfl) ?_
            refine lv_iconst (v := iI 2) hx hb dX6_block_54 rfl ?_
            refine zr_icmp_ge (tgt := 65) hx hb dX6_block_55 (by decide) (by omega) (by omega) (fun c_13 => ?_) (fun c_13 => ?_)
            · skip
              refine lv_aload_n hx hb dX6_block_65 rfl (lv_at hl 0 rfl) ?_
              refine lv_aload_n hx hb dX6_block_66 rfl (lv_at hl 0 rfl) ?_
              refine zc_Vl (As := []) (rest := [.ref m0]) (c_X6_inner l D cI cL cG cM m0 mw mks mbx mby mbi msn miq mtb mrt mgr mup w kn kp sd ks bkx bky bki bkn sn_4 sns_5 iq_6 tb_9 rt_7 gr_10 ups_12 bel_11 scl_8 tp bt (hv)) hx hb hml hown hU hl.1 ct_yX6_inner cv_yX6_inner km_RX6_201 hK hNst hP 6 0 rfl rfl rfl ⟨rfl, rfl⟩ ⟨Nat.le_of_ble_eq_true rfl, Nat.le_of_ble_eq_true rfl⟩ rfl rfl (Nat.le_of_ble_eq_true rfl) dX6_block_67 ⟨Nat.le_of_ble_eq_true rfl, Nat.le_of_ble_eq_true rfl⟩ ?_
              refine zc_Wv (As := [.long (lI (sp_inn w))]) (rest := []) (wr := []) (wc := [(m0, .inr (6, [.ref mw, .int (iI kn), .int (iI kp), .int (iI sd), .ref mks, .ref mbx, .ref mby, .ref mbi, .int (iI bkn), .ref msn, .int (iI sns_5), .ref miq, .ref mtb, .ref mrt, .ref mgr, .ref mup, .long (lI bel_11), .long (lI scl_8), .long (lI tp), .long (lI bt)])), (mw, .inl (cI, 760, .inl (aI w))), (mks, .inl (cI, 2, .inl (aI ks))), (mbx, .inl (cI, 20, .inl (aI bkx))), (mby, .inl (cI, 20, .inl (aI bky))), (mbi, .inl (cI, 20, .inl (aI bki))), (msn, .inl (cI, 4, .inl (aI sn_4))), (miq, .inl (cI, 4, .inl (aI iq_6))), (mtb, .inl (cL, 25, .inr (.inl (aL tb_9)))), (mrt, .inl (cL, 5, .inr (.inl (aL rt_7)))), (mgr, .inl (cL, 32, .inr (.inl (aL gr_10)))), (mup, .inl (cL, 5, .inr (.inl (aL ups_12))))]) (c_X6_laySpread l D cI cL cG cM m0 mw mks mbx mby mbi msn miq mtb mrt mgr mup w kn kp sd ks bkx bky bki bkn sn_4 sns_5 iq_6 tb_9 rt_7 gr_10 ups_12 bel_11 scl_8 tp bt (sp_inn w) (sp_L0 w x y) (sp_VB w x y) 4 (hv) (hok) (hL) (hg) (hx1) (hV) (by omega) _) hx hb hml hown hU hl.1 ct_yX6_laySpread cv_yX6_laySpread km_RX6_192 hK hNst hP hD hS hA [0, 1, 2, 3, 4, 5, 6, 7, 8, 9, 10, 11] [] rfl rfl (by decide) (by decide) (by decide) 6 0 rfl rfl rfl ⟨rfl, rfl⟩ ⟨Nat.le_of_ble_eq_true rfl, Nat.le_of_ble_eq_true rfl⟩ rfl rfl (Nat.le_of_ble_eq_true rfl) dX6_block_70 ⟨Nat.le_of_ble_eq_true rfl, Nat.le_of_ble_eq_true rfl⟩ (fun u H locs hlg hP hD hS _ => ?_)
              obtain ⟨tp1, bt1⟩ := u
              have hlg : tp1 = sp_top (nS w (sp_L0 w x y) (sp_VB w x y) 4 (sp_inn w)) (4 * 4 * nD w (sp_L0 w x y)) ∧ bt1 = sp_bot (nS w (sp_L0 w x y) (sp_VB w x y) 4 (sp_inn w)) (4 * 4 * nD w (sp_L0 w x y)) := hlg
              have hP : va_P D vwCl [(m0, .inr (6, [.ref mw, .int (iI kn), .int (iI kp), .int (iI sd), .ref mks, .ref mbx, .ref mby, .ref mbi, .int (iI bkn), .ref msn, .int (iI sns_5), .ref miq, .ref mtb, .ref mrt, .ref mgr, .ref mup, .long (lI bel_11), .long (lI scl_8), .long (lI tp1), .long (lI bt1)])), (mw, .inl (cI, 760, .inl (aI w))), (mks, .inl (cI, 2, .inl (aI ks))), (mbx, .inl (cI, 20, .inl (aI bkx))), (mby, .inl (cI, 20, .inl (aI bky))), (mbi, .inl (cI, 20, .inl (aI bki))), (msn, .inl (cI, 4, .inl (aI sn_4))), (miq, .inl (cI, 4, .inl (aI iq_6))), (mtb, .inl (cL, 25, .inr (.inl (aL tb_9)))), (mrt, .inl (cL, 5, .inr (.inl (aL rt_7)))), (mgr, .inl (cL, 32, .inr (.inl (aL gr_10)))), (mup, .inl (cL, 5, .inr (.inl (aL ups_12))))] H := hP
              have hD : va_D A [(m0, .inr (6, [.ref mw, .int (iI kn), .int (iI kp), .int (iI sd), .ref mks, .ref mbx, .ref mby, .ref mbi, .int (iI bkn), .ref msn, .int (iI sns_5), .ref miq, .ref mtb, .ref mrt, .ref mgr, .ref mup, .long (lI bel_11), .long (lI scl_8), .long (lI tp1), .long (lI bt1)])), (mw, .inl (cI, 760, .inl (aI w))), (mks, .inl (cI, 2, .inl (aI ks))), (mbx, .inl (cI, 20, .inl (aI bkx))), (mby, .inl (cI, 20, .inl (aI bky))), (mbi, .inl (cI, 20, .inl (aI bki))), (msn, .inl (cI, 4, .inl (aI sn_4))), (miq, .inl (cI, 4, .inl (aI iq_6))), (mtb, .inl (cL, 25, .inr (.inl (aL tb_9)))), (mrt, .inl (cL, 5, .inr (.inl (aL rt_7)))), (mgr, .inl (cL, 32, .inr (.inl (aL gr_10)))), (mup, .inl (cL, 5, .inr (.inl (aL ups_12))))] := hD
              refine lv_iload_n hx hb dX6_block_73 rfl (lv_at hl 3 rfl) ?_
              refine lv_iconst (v := iI 2) hx hb dX6_block_74 rfl ?_
              refine zr_irem hx hb dX6_block_75 (by omega) (by omega) (by omega) ?_
              have hwm : wh.tmod 2 = wh % 2 := Int.tmod_eq_emod_of_nonneg (by omega)
              refine zr_rw (v := (wh % 2)) (hwm) ?_
              refine zr_if_ne (tgt := 86) hx hb dX6_block_76 (by decide) (by omega) (fun c_15 => ?_) (fun c_15 => ?_)
              · skip
                refine lv_aload_n hx hb dX6_block_86 rfl (lv_at hl 0 rfl) ?_
                refine va_get (D := D) (ci := 6) (v := .long (lI bt1)) (C := RX6) (T := TX6) (N := 20) hx hb hU inlX6 hown hK hP 0 rfl rfl 19 (by decide) (hU _ kf_RX6_111) (fun _ h9 => h9) rfl dX6_block_87 ?_
                rw [hQ]
                exact ze_Wl hx hb hr hlk dX6_block_90 (sn_4, sns_5, iq_6, rt_7, scl_8, tb_9, gr_10, bel_11, ups_12, tp1, bt1) (by unfold an_bl; rw [if_pos (by omega), ci_t hx1, if_neg (by omega), if_neg (by omega), if_neg (by omega)]; exact hlg.2) hP hK hD hS
              · skip
                refine lv_aload_n hx hb dX6_block_79 rfl (lv_at hl 0 rfl) ?_
                refine va_get (D := D) (ci := 6) (v := .long (lI tp1)) (C := RX6) (T := TX6) (N := 20) hx hb hU inlX6 hown hK hP 0 rfl rfl 18 (by decide) (hU _ kf_RX6_108) (fun _ h9 => h9) rfl dX6_block_80 ?_
                refine lv_goto (tgt := 90) hx hb dX6_block_83 (by decide) ?_
                rw [hQ]
                exact ze_Wl hx hb hr hlk dX6_block_90 (sn_4, sns_5, iq_6, rt_7, scl_8, tb_9, gr_10, bel_11, ups_12, tp1, bt1) (by unfold an_bl; rw [if_pos (by omega), ci_t hx1, if_neg (by omega), if_neg (by omega), if_pos (by omega)]; exact hlg.1) hP hK hD hS
            · skip
              refine lv_aload_n hx hb dX6_block_58 rfl (lv_at hl 0 rfl) ?_
              refine zc_Wv (As := []) (rest := []) (wr := []) (wc := [(m0, .inr (6, [.ref mw, .int (iI kn), .int (iI kp), .int (iI sd), .ref mks, .ref mbx, .ref mby, .ref mbi, .int (iI bkn), .ref msn, .int (iI sns_5), .ref miq, .ref mtb, .ref mrt, .ref mgr, .ref mup, .long (lI bel_11), .long (lI scl_8), .long (lI tp), .long (lI bt)])), (mw, .inl (cI, 760, .inl (aI w))), (mks, .inl (cI, 2, .inl (aI ks))), (mbx, .inl (cI, 20, .inl (aI bkx))), (mby, .inl (cI, 20, .inl (aI bky))), (mbi, .inl (cI, 20, .inl (aI bki))), (msn, .inl (cI, 4, .inl (aI sn_4))), (miq, .inl (cI, 4, .inl (aI iq_6))), (mtb, .inl (cL, 25, .inr (.inl (aL tb_9)))), (mrt, .inl (cL, 5, .inr (.inl (aL rt_7)))), (mgr, .inl (cL, 32, .inr (.inl (aL gr_10)))), (mup, .inl (cL, 5, .inr (.inl (aL ups_12))))]) (c_X6_layGrade l D cI cL cG cM m0 mw mks mbx mby mbi msn miq mtb mrt mgr mup w kn kp sd ks bkx bky bki bkn sn_4 sns_5 iq_6 tb_9 rt_7 gr_10 ups_12 bel_11 scl_8 tp bt (sp_L0 w x y) (sp_VB w x y) 4 (hv) (hok) (hL) (hg) (hx1) (hV) _) hx hb hml hown hU hl.1 ct_yX6_layGrade cv_yX6_layGrade km_RX6_122 hK hNst hP hD hS hA [0, 1, 2, 3, 4, 5, 6, 7, 8, 9, 10, 11] [] rfl rfl (by decide) (by decide) (by decide) 6 0 rfl rfl rfl ⟨rfl, rfl⟩ ⟨Nat.le_of_ble_eq_true rfl, Nat.le_of_ble_eq_true rfl⟩ rfl rfl (Nat.le_of_ble_eq_true rfl) dX6_block_59 ⟨Nat.le_of_ble_eq_true rfl, Nat.le_of_ble_eq_true rfl⟩ (fun u H locs hlg hP hD hS _ => ?_)
              obtain ⟨tp1, bt1⟩ := u
              have hlg : tp1 = sp_top (nG w (sp_L0 w x y) (sp_VB w x y) 4) (4 * nD w (sp_L0 w x y)) ∧ bt1 = sp_bot (nG w (sp_L0 w x y) (sp_VB w x y) 4) (4 * nD w (sp_L0 w x y)) := hlg
              have hP : va_P D vwCl [(m0, .inr (6, [.ref mw, .int (iI kn), .int (iI kp), .int (iI sd), .ref mks, .ref mbx, .ref mby, .ref mbi, .int (iI bkn), .ref msn, .int (iI sns_5), .ref miq, .ref mtb, .ref mrt, .ref mgr, .ref mup, .long (lI bel_11), .long (lI scl_8), .long (lI tp1), .long (lI bt1)])), (mw, .inl (cI, 760, .inl (aI w))), (mks, .inl (cI, 2, .inl (aI ks))), (mbx, .inl (cI, 20, .inl (aI bkx))), (mby, .inl (cI, 20, .inl (aI bky))), (mbi, .inl (cI, 20, .inl (aI bki))), (msn, .inl (cI, 4, .inl (aI sn_4))), (miq, .inl (cI, 4, .inl (aI iq_6))), (mtb, .inl (cL, 25, .inr (.inl (aL tb_9)))), (mrt, .inl (cL, 5, .inr (.inl (aL rt_7)))), (mgr, .inl (cL, 32, .inr (.inl (aL gr_10)))), (mup, .inl (cL, 5, .inr (.inl (aL ups_12))))] H := hP
              have hD : va_D A [(m0, .inr (6, [.ref mw, .int (iI kn), .int (iI kp), .int (iI sd), .ref mks, .ref mbx, .ref mby, .ref mbi, .int (iI bkn), .ref msn, .int (iI sns_5), .ref miq, .ref mtb, .ref mrt, .ref mgr, .ref mup, .long (lI bel_11), .long (lI scl_8), .long (lI tp1), .long (lI bt1)])), (mw, .inl (cI, 760, .inl (aI w))), (mks, .inl (cI, 2, .inl (aI ks))), (mbx, .inl (cI, 20, .inl (aI bkx))), (mby, .inl (cI, 20, .inl (aI bky))), (mbi, .inl (cI, 20, .inl (aI bki))), (msn, .inl (cI, 4, .inl (aI sn_4))), (miq, .inl (cI, 4, .inl (aI iq_6))), (mtb, .inl (cL, 25, .inr (.inl (aL tb_9)))), (mrt, .inl (cL, 5, .inr (.inl (aL rt_7)))), (mgr, .inl (cL, 32, .inr (.inl (aL gr_10)))), (mup, .inl (cL, 5, .inr (.inl (aL ups_12))))] := hD
              refine lv_goto (tgt := 73) hx hb dX6_block_62 (by decide) ?_
              refine lv_iload_n hx hb dX6_block_73 rfl (lv_at hl 3 rfl) ?_
              refine lv_iconst (v := iI 2) hx hb dX6_block_74 rfl ?_
              refine zr_irem hx hb dX6_block_75 (by omega) (by omega) (by omega) ?_
              have hwm : wh.tmod 2 = wh % 2 := Int.tmod_eq_emod_of_nonneg (by omega)
              refine zr_rw (v := (wh % 2)) (hwm) ?_
              refine zr_if_ne (tgt := 86) hx hb dX6_block_76 (by decide) (by omega) (fun c_17 => ?_) (fun c_17 => ?_)
              · skip
                refine lv_aload_n hx hb dX6_block_86 rfl (lv_at hl 0 rfl) ?_
                refine va_get (D := D) (ci := 6) (v := .long (lI bt1)) (C := RX6) (T := TX6) (N := 20) hx hb hU inlX6 hown hK hP 0 rfl rfl 19 (by decide) (hU _ kf_RX6_111) (fun _ h9 => h9) rfl dX6_block_87 ?_
                rw [hQ]
                exact ze_Wl hx hb hr hlk dX6_block_90 (sn_4, sns_5, iq_6, rt_7, scl_8, tb_9, gr_10, bel_11, ups_12, tp1, bt1) (by unfold an_bl; rw [if_pos (by omega), ci_t hx1, if_neg (by omega), if_pos (by omega)]; exact hlg.2) hP hK hD hS
              · skip
                refine lv_aload_n hx hb dX6_block_79 rfl (lv_at hl 0 rfl) ?_
                refine va_get (D := D) (ci := 6) (v := .long (lI tp1)) (C := RX6) (T := TX6) (N := 20) hx hb hU inlX6 hown hK hP 0 rfl rfl 18 (by decide) (hU _ kf_RX6_108) (fun _ h9 => h9) rfl dX6_block_80 ?_
                refine lv_goto (tgt := 90) hx hb dX6_block_83 (by decide) ?_
                rw [hQ]
                exact ze_Wl hx hb hr hlk dX6_block_90 (sn_4, sns_5, iq_6, rt_7, scl_8, tb_9, gr_10, bel_11, ups_12, tp1, bt1) (by unfold an_bl; rw [if_pos (by omega), ci_t hx1, if_pos (by omega)]; exact hlg.1) hP hK hD hS
          · skip
            refine lv_ldc2 hx hb hown (hU _ kk_RX6_190) dX6_block_49 ?_
            rw [hQ]
            exact ze_Wl hx hb hr hlk dX6_block_52 (sn_4, sns_5, iq_6, rt_7, scl_8, tb_9, gr_10, bel_11, ups_12, tp, bt) (by unfold an_bl; rw [if_pos (by omega), ci_f (zB_e0 (by rw [← hz1]; exact c46))]) hP hK hD hS
        · skip
          refine lv_ldc2 hx hb hown (hU _ kk_RX6_188) dX6_block_36 ?_
          rw [hQ]
          exact ze_Wl hx hb hr hlk dX6_block_39 (sn, sns, iq, rt, scl, tb, gr, bel, ups, tp, bt) (by unfold an_bl; rw [if_neg (by omega)]) hP hK hD hS
  rw [hlocs]
  exact hW0 s.heap [] hP hD hS

set_option maxHeartbeats 4000000 in
set_option maxRecDepth 100000 in
theorem c_X6_error (l : Launch) (D : va_G) (cI cL cG cM : ClassId) (m0 mw mks mbx mby mbi msn miq mtb mrt mgr mup : Nat) (w : Nat → Int) (kn : Int) (kp : Int) (sd : Int) (ks : Nat → Int) (bkx : Nat → Int) (bky : Nat → Int) (bki : Nat → Int) (bkn : Int) (sn : Nat → Int) (sns : Int) (iq : Nat → Int) (tb : Nat → Int) (rt : Nat → Int) (gr : Nat → Int) (ups : Nat → Int) (bel : Int) (scl : Int) (tp : Int) (bt : Int) (i : Int) (wh : Int) (hv : vR w) (g1 : -2147483648 ≤ i ∧ i ≤ 2147483647) (g2 : -2147483648 ≤ wh ∧ wh ≤ 2147483647) (sz : Nat) : Met l yX6_error (wU yX6_error cX6_error 3 (some .long)) (rmF 6 141) (pcW D (tyA cI cL cG cM) [(m0, .inr (6, [.ref mw, .int (iI kn), .int (iI kp), .int (iI sd), .ref mks, .ref mbx, .ref mby, .ref mbi, .int (iI bkn), .ref msn, .int (iI sns), .ref miq, .ref mtb, .ref mrt, .ref mgr, .ref mup, .long (lI bel), .long (lI scl), .long (lI tp), .long (lI bt)])), (mw, .inl (cI, 760, .inl (aI w))), (mks, .inl (cI, 2, .inl (aI ks))), (mbx, .inl (cI, 20, .inl (aI bkx))), (mby, .inl (cI, 20, .inl (aI bky))), (mbi, .inl (cI, 20, .inl (aI bki))), (msn, .inl (cI, 4, .inl (aI sn))), (miq, .inl (cI, 4, .inl (aI iq))), (mtb, .inl (cL, 25, .inr (.inl (aL tb)))), (mrt, .inl (cL, 5, .inr (.inl (aL rt)))), (mgr, .inl (cL, 32, .inr (.inl (aL gr)))), (mup, .inl (cL, 5, .inr (.inl (aL ups))))] [.ref m0, .int (iI i), .int (iI wh)] sz) (qWl (S := (Nat → Int) × Int × (Nat → Int) × (Nat → Int) × Int × (Nat → Int) × (Nat → Int) × Int × (Nat → Int) × Int × Int) D (tyA cI cL cG cM) (va_A [(m0, .inr (6, [.ref mw, .int (iI kn), .int (iI kp), .int (iI sd), .ref mks, .ref mbx, .ref mby, .ref mbi, .int (iI bkn), .ref msn, .int (iI sns), .ref miq, .ref mtb, .ref mrt, .ref mgr, .ref mup, .long (lI bel), .long (lI scl), .long (lI tp), .long (lI bt)])), (mw, .inl (cI, 760, .inl (aI w))), (mks, .inl (cI, 2, .inl (aI ks))), (mbx, .inl (cI, 20, .inl (aI bkx))), (mby, .inl (cI, 20, .inl (aI bky))), (mbi, .inl (cI, 20, .inl (aI bki))), (msn, .inl (cI, 4, .inl (aI sn))), (miq, .inl (cI, 4, .inl (aI iq))), (mtb, .inl (cL, 25, .inr (.inl (aL tb)))), (mrt, .inl (cL, 5, .inr (.inl (aL rt)))), (mgr, .inl (cL, 32, .inr (.inl (aL gr)))), (mup, .inl (cL, 5, .inr (.inl (aL ups))))] sz) (fun (z : Int) (u : (Nat → Int) × Int × (Nat → Int) × (Nat → Int) × Int × (Nat → Int) × (Nat → Int) × Int × (Nat → Int) × Int × Int) => z = an_er w i wh) (fun (u : (Nat → Int) × Int × (Nat → Int) × (Nat → Int) × Int × (Nat → Int) × (Nat → Int) × Int × (Nat → Int) × Int × Int) => [(m0, .inr (6, [.ref mw, .int (iI kn), .int (iI kp), .int (iI sd), .ref mks, .ref mbx, .ref mby, .ref mbi, .int (iI bkn), .ref msn, .int (iI u.2.1), .ref miq, .ref mtb, .ref mrt, .ref mgr, .ref mup, .long (lI u.2.2.2.2.2.2.2.1), .long (lI u.2.2.2.2.1), .long (lI u.2.2.2.2.2.2.2.2.2.1), .long (lI u.2.2.2.2.2.2.2.2.2.2)])), (mw, .inl (cI, 760, .inl (aI w))), (mks, .inl (cI, 2, .inl (aI ks))), (mbx, .inl (cI, 20, .inl (aI bkx))), (mby, .inl (cI, 20, .inl (aI bky))), (mbi, .inl (cI, 20, .inl (aI bki))), (msn, .inl (cI, 4, .inl (aI u.1))), (miq, .inl (cI, 4, .inl (aI u.2.2.1))), (mtb, .inl (cL, 25, .inr (.inl (aL u.2.2.2.2.2.1)))), (mrt, .inl (cL, 5, .inr (.inl (aL u.2.2.2.1)))), (mgr, .inl (cL, 32, .inr (.inl (aL u.2.2.2.2.2.2.1)))), (mup, .inl (cL, 5, .inr (.inl (aL u.2.2.2.2.2.2.2.2.1))))])) 0 0 (va_A [(m0, .inr (6, [.ref mw, .int (iI kn), .int (iI kp), .int (iI sd), .ref mks, .ref mbx, .ref mby, .ref mbi, .int (iI bkn), .ref msn, .int (iI sns), .ref miq, .ref mtb, .ref mrt, .ref mgr, .ref mup, .long (lI bel), .long (lI scl), .long (lI tp), .long (lI bt)])), (mw, .inl (cI, 760, .inl (aI w))), (mks, .inl (cI, 2, .inl (aI ks))), (mbx, .inl (cI, 20, .inl (aI bkx))), (mby, .inl (cI, 20, .inl (aI bky))), (mbi, .inl (cI, 20, .inl (aI bki))), (msn, .inl (cI, 4, .inl (aI sn))), (miq, .inl (cI, 4, .inl (aI iq))), (mtb, .inl (cL, 25, .inr (.inl (aL tb)))), (mrt, .inl (cL, 5, .inr (.inl (aL rt)))), (mgr, .inl (cL, 32, .inr (.inl (aL gr)))), (mup, .inl (cL, 5, .inr (.inl (aL ups))))] sz) := by
  refine zm_W (own := RX6) (lv := [(0, .ref m0), (1, .int (iI i)), (2, .int (iI wh))]) (QF := fun A => qWl (S := (Nat → Int) × Int × (Nat → Int) × (Nat → Int) × Int × (Nat → Int) × (Nat → Int) × Int × (Nat → Int) × Int × Int) D (tyA cI cL cG cM) A (fun (z : Int) (u : (Nat → Int) × Int × (Nat → Int) × (Nat → Int) × Int × (Nat → Int) × (Nat → Int) × Int × (Nat → Int) × Int × Int) => z = an_er w i wh) (fun (u : (Nat → Int) × Int × (Nat → Int) × (Nat → Int) × Int × (Nat → Int) × (Nat → Int) × Int × (Nat → Int) × Int × Int) => [(m0, .inr (6, [.ref mw, .int (iI kn), .int (iI kp), .int (iI sd), .ref mks, .ref mbx, .ref mby, .ref mbi, .int (iI bkn), .ref msn, .int (iI u.2.1), .ref miq, .ref mtb, .ref mrt, .ref mgr, .ref mup, .long (lI u.2.2.2.2.2.2.2.1), .long (lI u.2.2.2.2.1), .long (lI u.2.2.2.2.2.2.2.2.2.1), .long (lI u.2.2.2.2.2.2.2.2.2.2)])), (mw, .inl (cI, 760, .inl (aI w))), (mks, .inl (cI, 2, .inl (aI ks))), (mbx, .inl (cI, 20, .inl (aI bkx))), (mby, .inl (cI, 20, .inl (aI bky))), (mbi, .inl (cI, 20, .inl (aI bki))), (msn, .inl (cI, 4, .inl (aI u.1))), (miq, .inl (cI, 4, .inl (aI u.2.2.1))), (mtb, .inl (cL, 25, .inr (.inl (aL u.2.2.2.2.2.1)))), (mrt, .inl (cL, 5, .inr (.inl (aL u.2.2.2.1)))), (mgr, .inl (cL, 32, .inr (.inl (aL u.2.2.2.2.2.2.1)))), (mup, .inl (cL, 5, .inr (.inl (aL u.2.2.2.2.2.2.2.2.1))))])) (by decide) rfl (Nat.le_of_ble_eq_true rfl) rfl ?_
  intro p e s m below meth c A args Q hx hb hr hml hown hU hlk hnm hP hK hNst hD hA hS hsz hQ ls hl
  obtain ⟨H, hH⟩ : ∃ H, H = s.heap := ⟨_, rfl⟩
  obtain ⟨locs, hlocs⟩ : ∃ locs : List Loc, locs = [] := ⟨_, rfl⟩
  rw [← hlocs]
  have hW0 : ∀ (H : Heap) (locs : List Loc), va_P D vwCl [(m0, .inr (6, [.ref mw, .int (iI kn), .int (iI kp), .int (iI sd), .ref mks, .ref mbx, .ref mby, .ref mbi, .int (iI bkn), .ref msn, .int (iI sns), .ref miq, .ref mtb, .ref mrt, .ref mgr, .ref mup, .long (lI bel), .long (lI scl), .long (lI tp), .long (lI bt)])), (mw, .inl (cI, 760, .inl (aI w))), (mks, .inl (cI, 2, .inl (aI ks))), (mbx, .inl (cI, 20, .inl (aI bkx))), (mby, .inl (cI, 20, .inl (aI bky))), (mbi, .inl (cI, 20, .inl (aI bki))), (msn, .inl (cI, 4, .inl (aI sn))), (miq, .inl (cI, 4, .inl (aI iq))), (mtb, .inl (cL, 25, .inr (.inl (aL tb)))), (mrt, .inl (cL, 5, .inr (.inl (aL rt)))), (mgr, .inl (cL, 32, .inr (.inl (aL gr)))), (mup, .inl (cL, 5, .inr (.inl (aL ups))))] H → va_D A [(m0, .inr (6, [.ref mw, .int (iI kn), .int (iI kp), .int (iI sd), .ref mks, .ref mbx, .ref mby, .ref mbi, .int (iI bkn), .ref msn, .int (iI sns), .ref miq, .ref mtb, .ref mrt, .ref mgr, .ref mup, .long (lI bel), .long (lI scl), .long (lI tp), .long (lI bt)])), (mw, .inl (cI, 760, .inl (aI w))), (mks, .inl (cI, 2, .inl (aI ks))), (mbx, .inl (cI, 20, .inl (aI bkx))), (mby, .inl (cI, 20, .inl (aI bky))), (mbi, .inl (cI, 20, .inl (aI bki))), (msn, .inl (cI, 4, .inl (aI sn))), (miq, .inl (cI, 4, .inl (aI iq))), (mtb, .inl (cL, 25, .inr (.inl (aL tb)))), (mrt, .inl (cL, 5, .inr (.inl (aL rt)))), (mgr, .inl (cL, 32, .inr (.inl (aL gr)))), (mup, .inl (cL, 5, .inr (.inl (aL ups))))] → va_S A s.heap H locs → W p l e (rmF 6 141) s m args below meth c H locs 0 0 Q (F0 m 0 ls []) := by
    clear hP hD hS hH hlocs H locs
    intro H locs hP hD hS
    have hw0 := hv.1
    refine lv_aload_n hx hb dX6_error_0 rfl (lv_at hl 0 rfl) ?_
    refine lv_iload_n hx hb dX6_error_1 rfl (lv_at hl 1 rfl) ?_
    refine zc_Vi (As := [.int (iI i)]) (rest := []) (c_X6_isSample l D cI cL cG cM m0 mw mks mbx mby mbi msn miq mtb mrt mgr mup w kn kp sd ks bkx bky bki bkn sn sns iq tb rt gr ups bel scl tp bt i (hw0) (by omega)) hx hb hml hown hU hl.1 ct_yX6_isSample cv_yX6_isSample km_RX6_160 hK hNst hP 6 0 rfl rfl rfl ⟨rfl, rfl⟩ ⟨Nat.le_of_ble_eq_true rfl, Nat.le_of_ble_eq_true rfl⟩ rfl rfl (Nat.le_of_ble_eq_true rfl) dX6_error_2 ⟨Nat.le_of_ble_eq_true rfl, Nat.le_of_ble_eq_true rfl⟩ ?_
    refine zr_bif_ne (tgt := 12) hx hb dX6_error_5 (by decide) (fun c_1 => ?_) (fun c_1 => ?_)
    · skip
      refine lv_iload_n hx hb dX6_error_12 rfl (lv_at hl 2 rfl) ?_
      refine zr_i2l hx hb dX6_error_13 (by omega) ?_
      refine lv_lconst (v := lI 0) hx hb dX6_error_14 rfl ?_
      refine lv_lconst (v := lI 1) hx hb dX6_error_15 rfl ?_
      refine zc_Si (As := [.long (lI wh), .long (lI 0), .long (lI 1)]) (rest := []) (c_X6_in l D cI cL cG cM wh 0 1 (by omega) (by omega) (by omega)) hx hb hml hown hU hl.1 ct_yX6_in kt_yX6_in km_RX6_44 ⟨rfl, rfl⟩ ⟨Nat.le_of_ble_eq_true rfl, Nat.le_of_ble_eq_true rfl⟩ rfl rfl (Nat.le_of_ble_eq_true rfl) dX6_error_16 ⟨Nat.le_of_ble_eq_true rfl, Nat.le_of_ble_eq_true rfl⟩ ?_
      refine zr_bif_ne (tgt := 26) hx hb dX6_error_19 (by decide) (fun c_2 => ?_) (fun c_2 => ?_)
      · skip
        refine lv_aload_n hx hb dX6_error_26 rfl (lv_at hl 0 rfl) ?_
        refine lv_iload_n hx hb dX6_error_27 rfl (lv_at hl 1 rfl) ?_
        refine zr_rw (v := ((i.toNat : Nat) : Int)) (by omega) ?_
        refine zc_Wi (As := [.int (iI ((i.toNat : Nat) : Int))]) (rest := []) (wr := []) (wc := [(m0, .inr (6, [.ref mw, .int (iI kn), .int (iI kp), .int (iI sd), .ref mks, .ref mbx, .ref mby, .ref mbi, .int (iI bkn), .ref msn, .int (iI sns), .ref miq, .ref mtb, .ref mrt, .ref mgr, .ref mup, .long (lI bel), .long (lI scl), .long (lI tp), .long (lI bt)])), (mw, .inl (cI, 760, .inl (aI w))), (mks, .inl (cI, 2, .inl (aI ks))), (mbx, .inl (cI, 20, .inl (aI bkx))), (mby, .inl (cI, 20, .inl (aI bky))), (mbi, .inl (cI, 20, .inl (aI bki))), (msn, .inl (cI, 4, .inl (aI sn))), (miq, .inl (cI, 4, .inl (aI iq))), (mtb, .inl (cL, 25, .inr (.inl (aL tb)))), (mrt, .inl (cL, 5, .inr (.inl (aL rt)))), (mgr, .inl (cL, 32, .inr (.inl (aL gr)))), (mup, .inl (cL, 5, .inr (.inl (aL ups))))]) (c_X6_leftOut l D cI cL cG cM m0 mw mks mbx mby mbi msn miq mtb mrt mgr mup w kn kp sd ks bkx bky bki bkn sn sns iq tb rt gr ups bel scl tp bt i.toNat (hv) (by omega) _) hx hb hml hown hU hl.1 ct_yX6_leftOut cv_yX6_leftOut km_RX6_125 hK hNst hP hD hS hA [0, 1, 2, 3, 4, 5, 6, 7, 8, 9, 10, 11] [] rfl rfl (by decide) (by decide) (by decide) 6 0 rfl rfl rfl ⟨rfl, rfl⟩ ⟨Nat.le_of_ble_eq_true rfl, Nat.le_of_ble_eq_true rfl⟩ rfl rfl (Nat.le_of_ble_eq_true rfl) dX6_error_28 ⟨Nat.le_of_ble_eq_true rfl, Nat.le_of_ble_eq_true rfl⟩ (fun zl u H locs hlo hP hD hS _ => ?_)
        obtain ⟨sn_3, sns_4, iq_5, rt_6, scl_7, tb_8, gr_9, bel_10, ups_11, tp_12, bt_13⟩ := u
        have hlo : zl = zB (gEx w (sp_Le w i.toNat)) ∧ (gEx w (sp_Le w i.toNat) → tp_12 = sp_top (sp_eA w i.toNat) (sp_eB w i.toNat) ∧ bt_13 = sp_bot (sp_eA w i.toNat) (sp_eB w i.toNat)) := hlo
        have hP : va_P D vwCl [(m0, .inr (6, [.ref mw, .int (iI kn), .int (iI kp), .int (iI sd), .ref mks, .ref mbx, .ref mby, .ref mbi, .int (iI bkn), .ref msn, .int (iI sns_4), .ref miq, .ref mtb, .ref mrt, .ref mgr, .ref mup, .long (lI bel_10), .long (lI scl_7), .long (lI tp_12), .long (lI bt_13)])), (mw, .inl (cI, 760, .inl (aI w))), (mks, .inl (cI, 2, .inl (aI ks))), (mbx, .inl (cI, 20, .inl (aI bkx))), (mby, .inl (cI, 20, .inl (aI bky))), (mbi, .inl (cI, 20, .inl (aI bki))), (msn, .inl (cI, 4, .inl (aI sn_3))), (miq, .inl (cI, 4, .inl (aI iq_5))), (mtb, .inl (cL, 25, .inr (.inl (aL tb_8)))), (mrt, .inl (cL, 5, .inr (.inl (aL rt_6)))), (mgr, .inl (cL, 32, .inr (.inl (aL gr_9)))), (mup, .inl (cL, 5, .inr (.inl (aL ups_11))))] H := hP
        have hD : va_D A [(m0, .inr (6, [.ref mw, .int (iI kn), .int (iI kp), .int (iI sd), .ref mks, .ref mbx, .ref mby, .ref mbi, .int (iI bkn), .ref msn, .int (iI sns_4), .ref miq, .ref mtb, .ref mrt, .ref mgr, .ref mup, .long (lI bel_10), .long (lI scl_7), .long (lI tp_12), .long (lI bt_13)])), (mw, .inl (cI, 760, .inl (aI w))), (mks, .inl (cI, 2, .inl (aI ks))), (mbx, .inl (cI, 20, .inl (aI bkx))), (mby, .inl (cI, 20, .inl (aI bky))), (mbi, .inl (cI, 20, .inl (aI bki))), (msn, .inl (cI, 4, .inl (aI sn_3))), (miq, .inl (cI, 4, .inl (aI iq_5))), (mtb, .inl (cL, 25, .inr (.inl (aL tb_8)))), (mrt, .inl (cL, 5, .inr (.inl (aL rt_6)))), (mgr, .inl (cL, 32, .inr (.inl (aL gr_9)))), (mup, .inl (cL, 5, .inr (.inl (aL ups_11))))] := hD
        have hzr := zB_rg (gEx w (sp_Le w i.toNat))
        rw [← hlo.1] at hzr
        refine zr_if_ne (tgt := 38) hx hb dX6_error_31 (by decide) (by omega) (fun c31 => ?_) (fun c31 => ?_)
        · skip
          have hx1 := zB_n0 (by rw [← hlo.1]; exact c31)
          refine lv_iload_n hx hb dX6_error_38 rfl (lv_at hl 2 rfl) ?_
          refine zr_if_ne (tgt := 49) hx hb dX6_error_39 (by decide) (by omega) (fun c_14 => ?_) (fun c_14 => ?_)
          · skip
            refine lv_aload_n hx hb dX6_error_49 rfl (lv_at hl 0 rfl) ?_
            refine va_get (D := D) (ci := 6) (v := .long (lI bt_13)) (C := RX6) (T := TX6) (N := 20) hx hb hU inlX6 hown hK hP 0 rfl rfl 19 (by decide) (hU _ kf_RX6_111) (fun _ h9 => h9) rfl dX6_error_50 ?_
            rw [hQ]
            exact ze_Wl hx hb hr hlk dX6_error_53 (sn_3, sns_4, iq_5, rt_6, scl_7, tb_8, gr_9, bel_10, ups_11, tp_12, bt_13) (by unfold an_er; rw [if_pos (by omega), if_pos (by omega), ci_t hx1, if_neg (by omega)]; exact (hlo.2 hx1).2) hP hK hD hS
          · skip
            refine lv_aload_n hx hb dX6_error_42 rfl (lv_at hl 0 rfl) ?_
            refine va_get (D := D) (ci := 6) (v := .long (lI tp_12)) (C := RX6) (T := TX6) (N := 20) hx hb hU inlX6 hown hK hP 0 rfl rfl 18 (by decide) (hU _ kf_RX6_108) (fun _ h9 => h9) rfl dX6_error_43 ?_
            refine lv_goto (tgt := 53) hx hb dX6_error_46 (by decide) ?_
            rw [hQ]
            exact ze_Wl hx hb hr hlk dX6_error_53 (sn_3, sns_4, iq_5, rt_6, scl_7, tb_8, gr_9, bel_10, ups_11, tp_12, bt_13) (by unfold an_er; rw [if_pos (by omega), if_pos (by omega), ci_t hx1, if_pos (by omega)]; exact (hlo.2 hx1).1) hP hK hD hS
        · skip
          refine lv_ldc2 hx hb hown (hU _ kk_RX6_190) dX6_error_34 ?_
          rw [hQ]
          exact ze_Wl hx hb hr hlk dX6_error_37 (sn_3, sns_4, iq_5, rt_6, scl_7, tb_8, gr_9, bel_10, ups_11, tp_12, bt_13) (by unfold an_er; rw [if_pos (by omega), if_pos (by omega), ci_f (zB_e0 (by rw [← hlo.1]; exact c31))]) hP hK hD hS
      · skip
        refine lv_ldc2 hx hb hown (hU _ kk_RX6_188) dX6_error_22 ?_
        rw [hQ]
        exact ze_Wl hx hb hr hlk dX6_error_25 (sn, sns, iq, rt, scl, tb, gr, bel, ups, tp, bt) (by unfold an_er; rw [if_pos (by omega), if_neg (by omega)]) hP hK hD hS
    · skip
      refine lv_ldc2 hx hb hown (hU _ kk_RX6_205) dX6_error_8 ?_
      rw [hQ]
      exact ze_Wl hx hb hr hlk dX6_error_11 (sn, sns, iq, rt, scl, tb, gr, bel, ups, tp, bt) (by unfold an_er; rw [if_neg (by omega)]) hP hK hD hS
  rw [hlocs]
  exact hW0 s.heap [] hP hD hS
