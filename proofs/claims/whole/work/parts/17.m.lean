set_option maxHeartbeats 4000000 in
set_option maxRecDepth 100000 in
theorem c_X6_hole (l : Launch) (D : va_G) (cI cL cG cM : ClassId) (m0 mw mks mbx mby mbi msn miq mtb mrt mgr mup : Nat) (w : Nat → Int) (kn : Int) (kp : Int) (sd : Int) (ks : Nat → Int) (bkx : Nat → Int) (bky : Nat → Int) (bki : Nat → Int) (bkn : Int) (sn : Nat → Int) (sns : Int) (iq : Nat → Int) (tb : Nat → Int) (rt : Nat → Int) (gr : Nat → Int) (ups : Nat → Int) (bel : Int) (scl : Int) (tp : Int) (bt : Int) (x : Int) (y : Int) (ux : Int) (vy : Int) (hv : vR w) (g1 : -2147483648 ≤ x ∧ x ≤ 2147483647) (g2 : -2147483648 ≤ y ∧ y ≤ 2147483647) (g3 : -2147483648 ≤ ux ∧ ux ≤ 2147483647) (g4 : -2147483648 ≤ vy ∧ vy ≤ 2147483647) (sz : Nat) : Met l yX6_hole (wU yX6_hole cX6_hole 13 (some .int)) (rmF 5 119) (pcW D (tyA cI cL cG cM) [(m0, .inr (6, [.ref mw, .int (iI kn), .int (iI kp), .int (iI sd), .ref mks, .ref mbx, .ref mby, .ref mbi, .int (iI bkn), .ref msn, .int (iI sns), .ref miq, .ref mtb, .ref mrt, .ref mgr, .ref mup, .long (lI bel), .long (lI scl), .long (lI tp), .long (lI bt)])), (mw, .inl (cI, 760, .inl (aI w))), (mks, .inl (cI, 2, .inl (aI ks))), (mbx, .inl (cI, 20, .inl (aI bkx))), (mby, .inl (cI, 20, .inl (aI bky))), (mbi, .inl (cI, 20, .inl (aI bki))), (msn, .inl (cI, 4, .inl (aI sn))), (miq, .inl (cI, 4, .inl (aI iq))), (mtb, .inl (cL, 25, .inr (.inl (aL tb)))), (mrt, .inl (cL, 5, .inr (.inl (aL rt)))), (mgr, .inl (cL, 32, .inr (.inl (aL gr)))), (mup, .inl (cL, 5, .inr (.inl (aL ups))))] [.ref m0, .int (iI x), .int (iI y), .int (iI ux), .int (iI vy)] sz) (qWi (S := (Nat → Int) × Int × (Nat → Int) × (Nat → Int) × Int × (Nat → Int) × (Nat → Int) × Int × (Nat → Int) × Int × Int) D (tyA cI cL cG cM) (va_A [(m0, .inr (6, [.ref mw, .int (iI kn), .int (iI kp), .int (iI sd), .ref mks, .ref mbx, .ref mby, .ref mbi, .int (iI bkn), .ref msn, .int (iI sns), .ref miq, .ref mtb, .ref mrt, .ref mgr, .ref mup, .long (lI bel), .long (lI scl), .long (lI tp), .long (lI bt)])), (mw, .inl (cI, 760, .inl (aI w))), (mks, .inl (cI, 2, .inl (aI ks))), (mbx, .inl (cI, 20, .inl (aI bkx))), (mby, .inl (cI, 20, .inl (aI bky))), (mbi, .inl (cI, 20, .inl (aI bki))), (msn, .inl (cI, 4, .inl (aI sn))), (miq, .inl (cI, 4, .inl (aI iq))), (mtb, .inl (cL, 25, .inr (.inl (aL tb)))), (mrt, .inl (cL, 5, .inr (.inl (aL rt)))), (mgr, .inl (cL, 32, .inr (.inl (aL gr)))), (mup, .inl (cL, 5, .inr (.inl (aL ups))))] sz) (fun (z : Int) (u : (Nat → Int) × Int × (Nat → Int) × (Nat → Int) × Int × (Nat → Int) × (Nat → Int) × Int × (Nat → Int) × Int × Int) => z = an_ho w x y ux vy) (fun (u : (Nat → Int) × Int × (Nat → Int) × (Nat → Int) × Int × (Nat → Int) × (Nat → Int) × Int × (Nat → Int) × Int × Int) => [(m0, .inr (6, [.ref mw, .int (iI kn), .int (iI kp), .int (iI sd), .ref mks, .ref mbx, .ref mby, .ref mbi, .int (iI bkn), .ref msn, .int (iI u.2.1), .ref miq, .ref mtb, .ref mrt, .ref mgr, .ref mup, .long (lI u.2.2.2.2.2.2.2.1), .long (lI u.2.2.2.2.1), .long (lI u.2.2.2.2.2.2.2.2.2.1), .long (lI u.2.2.2.2.2.2.2.2.2.2)])), (mw, .inl (cI, 760, .inl (aI w))), (mks, .inl (cI, 2, .inl (aI ks))), (mbx, .inl (cI, 20, .inl (aI bkx))), (mby, .inl (cI, 20, .inl (aI bky))), (mbi, .inl (cI, 20, .inl (aI bki))), (msn, .inl (cI, 4, .inl (aI u.1))), (miq, .inl (cI, 4, .inl (aI u.2.2.1))), (mtb, .inl (cL, 25, .inr (.inl (aL u.2.2.2.2.2.1)))), (mrt, .inl (cL, 5, .inr (.inl (aL u.2.2.2.1)))), (mgr, .inl (cL, 32, .inr (.inl (aL u.2.2.2.2.2.2.1)))), (mup, .inl (cL, 5, .inr (.inl (aL u.2.2.2.2.2.2.2.2.1))))])) 0 0 (va_A [(m0, .inr (6, [.ref mw, .int (iI kn), .int (iI kp), .int (iI sd), .ref mks, .ref mbx, .ref mby, .ref mbi, .int (iI bkn), .ref msn, .int (iI sns), .ref miq, .ref mtb, .ref mrt, .ref mgr, .ref mup, .long (lI bel), .long (lI scl), .long (lI tp), .long (lI bt)])), (mw, .inl (cI, 760, .inl (aI w))), (mks, .inl (cI, 2, .inl (aI ks))), (mbx, .inl (cI, 20, .inl (aI bkx))), (mby, .inl (cI, 20, .inl (aI bky))), (mbi, .inl (cI, 20, .inl (aI bki))), (msn, .inl (cI, 4, .inl (aI sn))), (miq, .inl (cI, 4, .inl (aI iq))), (mtb, .inl (cL, 25, .inr (.inl (aL tb)))), (mrt, .inl (cL, 5, .inr (.inl (aL rt)))), (mgr, .inl (cL, 32, .inr (.inl (aL gr)))), (mup, .inl (cL, 5, .inr (.inl (aL ups))))] sz) := by
  refine zm_W (own := RX6) (lv := [(0, .ref m0), (1, .int (iI x)), (2, .int (iI y)), (3, .int (iI ux)), (4, .int (iI vy))]) (QF := fun A => qWi (S := (Nat → Int) × Int × (Nat → Int) × (Nat → Int) × Int × (Nat → Int) × (Nat → Int) × Int × (Nat → Int) × Int × Int) D (tyA cI cL cG cM) A (fun (z : Int) (u : (Nat → Int) × Int × (Nat → Int) × (Nat → Int) × Int × (Nat → Int) × (Nat → Int) × Int × (Nat → Int) × Int × Int) => z = an_ho w x y ux vy) (fun (u : (Nat → Int) × Int × (Nat → Int) × (Nat → Int) × Int × (Nat → Int) × (Nat → Int) × Int × (Nat → Int) × Int × Int) => [(m0, .inr (6, [.ref mw, .int (iI kn), .int (iI kp), .int (iI sd), .ref mks, .ref mbx, .ref mby, .ref mbi, .int (iI bkn), .ref msn, .int (iI u.2.1), .ref miq, .ref mtb, .ref mrt, .ref mgr, .ref mup, .long (lI u.2.2.2.2.2.2.2.1), .long (lI u.2.2.2.2.1), .long (lI u.2.2.2.2.2.2.2.2.2.1), .long (lI u.2.2.2.2.2.2.2.2.2.2)])), (mw, .inl (cI, 760, .inl (aI w))), (mks, .inl (cI, 2, .inl (aI ks))), (mbx, .inl (cI, 20, .inl (aI bkx))), (mby, .inl (cI, 20, .inl (aI bky))), (mbi, .inl (cI, 20, .inl (aI bki))), (msn, .inl (cI, 4, .inl (aI u.1))), (miq, .inl (cI, 4, .inl (aI u.2.2.1))), (mtb, .inl (cL, 25, .inr (.inl (aL u.2.2.2.2.2.1)))), (mrt, .inl (cL, 5, .inr (.inl (aL u.2.2.2.1)))), (mgr, .inl (cL, 32, .inr (.inl (aL u.2.2.2.2.2.2.1)))), (mup, .inl (cL, 5, .inr (.inl (aL u.2.2.2.2.2.2.2.2.1))))])) (by decide) rfl (Nat.le_of_ble_eq_true rfl) rfl ?_
  intro p e s m below meth c A args Q hx hb hr hml hown hU hlk hnm hP hK hNst hD hA hS hsz hQ ls hl
  obtain ⟨H, hH⟩ : ∃ H, H = s.heap := ⟨_, rfl⟩
  obtain ⟨locs, hlocs⟩ : ∃ locs : List Loc, locs = [] := ⟨_, rfl⟩
  rw [← hlocs]
  have hW0 : ∀ (H : Heap) (locs : List Loc), va_P D vwCl [(m0, .inr (6, [.ref mw, .int (iI kn), .int (iI kp), .int (iI sd), .ref mks, .ref mbx, .ref mby, .ref mbi, .int (iI bkn), .ref msn, .int (iI sns), .ref miq, .ref mtb, .ref mrt, .ref mgr, .ref mup, .long (lI bel), .long (lI scl), .long (lI tp), .long (lI bt)])), (mw, .inl (cI, 760, .inl (aI w))), (mks, .inl (cI, 2, .inl (aI ks))), (mbx, .inl (cI, 20, .inl (aI bkx))), (mby, .inl (cI, 20, .inl (aI bky))), (mbi, .inl (cI, 20, .inl (aI bki))), (msn, .inl (cI, 4, .inl (aI sn))), (miq, .inl (cI, 4, .inl (aI iq))), (mtb, .inl (cL, 25, .inr (.inl (aL tb)))), (mrt, .inl (cL, 5, .inr (.inl (aL rt)))), (mgr, .inl (cL, 32, .inr (.inl (aL gr)))), (mup, .inl (cL, 5, .inr (.inl (aL ups))))] H → va_D A [(m0, .inr (6, [.ref mw, .int (iI kn), .int (iI kp), .int (iI sd), .ref mks, .ref mbx, .ref mby, .ref mbi, .int (iI bkn), .ref msn, .int (iI sns), .ref miq, .ref mtb, .ref mrt, .ref mgr, .ref mup, .long (lI bel), .long (lI scl), .long (lI tp), .long (lI bt)])), (mw, .inl (cI, 760, .inl (aI w))), (mks, .inl (cI, 2, .inl (aI ks))), (mbx, .inl (cI, 20, .inl (aI bkx))), (mby, .inl (cI, 20, .inl (aI bky))), (mbi, .inl (cI, 20, .inl (aI bki))), (msn, .inl (cI, 4, .inl (aI sn))), (miq, .inl (cI, 4, .inl (aI iq))), (mtb, .inl (cL, 25, .inr (.inl (aL tb)))), (mrt, .inl (cL, 5, .inr (.inl (aL rt)))), (mgr, .inl (cL, 32, .inr (.inl (aL gr)))), (mup, .inl (cL, 5, .inr (.inl (aL ups))))] → va_S A s.heap H locs → W p l e (rmF 5 119) s m args below meth c H locs 0 0 Q (F0 m 0 ls []) := by
    clear hP hD hS hH hlocs H locs
    intro H locs hP hD hS
    have hw0 := hv.1
    refine lv_iload_n hx hb dX6_hole_0 rfl (lv_at hl 1 rfl) ?_
    refine lv_iload_n hx hb dX6_hole_1 rfl (lv_at hl 2 rfl) ?_
    refine zc_Si (As := [.int (iI x), .int (iI y)]) (rest := []) (c_X6_isPlace l D cI cL cG cM x y (by omega) (by omega)) hx hb hml hown hU hl.1 ct_yX6_isPlace kt_yX6_isPlace km_RX6_168 ⟨rfl, rfl⟩ ⟨Nat.le_of_ble_eq_true rfl, Nat.le_of_ble_eq_true rfl⟩ rfl rfl (Nat.le_of_ble_eq_true rfl) dX6_hole_2 ⟨Nat.le_of_ble_eq_true rfl, Nat.le_of_ble_eq_true rfl⟩ ?_
    refine zr_bif_eq (tgt := 46) hx hb dX6_hole_5 (by decide) (fun c_1 => ?_) (fun c_1 => ?_)
    · skip
      refine lv_ldc hx hb hown (hU _ kk_RX6_159) dX6_hole_46 ?_
      rw [hQ]
      exact ze_Wi hx hb hr hlk dX6_hole_48 (sn, sns, iq, rt, scl, tb, gr, bel, ups, tp, bt) (by unfold an_ho; rw [if_neg (by omega)]) hP hK hD hS
    · skip
      refine lv_iload_n hx hb dX6_hole_8 rfl (lv_at hl 3 rfl) ?_
      refine lv_iload hx hb dX6_hole_9 (lv_at hl 4 rfl) ?_
      refine zc_Si (As := [.int (iI ux), .int (iI vy)]) (rest := []) (c_X6_isPlace l D cI cL cG cM ux vy (by omega) (by omega)) hx hb hml hown hU hl.1 ct_yX6_isPlace kt_yX6_isPlace km_RX6_168 ⟨rfl, rfl⟩ ⟨Nat.le_of_ble_eq_true rfl, Nat.le_of_ble_eq_true rfl⟩ rfl rfl (Nat.le_of_ble_eq_true rfl) dX6_hole_11 ⟨Nat.le_of_ble_eq_true rfl, Nat.le_of_ble_eq_true rfl⟩ ?_
      refine zr_bif_eq (tgt := 46) hx hb dX6_hole_14 (by decide) (fun c_2 => ?_) (fun c_2 => ?_)
      · skip
        refine lv_ldc hx hb hown (hU _ kk_RX6_159) dX6_hole_46 ?_
        rw [hQ]
        exact ze_Wi hx hb hr hlk dX6_hole_48 (sn, sns, iq, rt, scl, tb, gr, bel, ups, tp, bt) (by unfold an_ho; rw [if_neg (by omega)]) hP hK hD hS
      · skip
        refine lv_iload_n hx hb dX6_hole_17 rfl (lv_at hl 3 rfl) ?_
        refine lv_iload_n hx hb dX6_hole_18 rfl (lv_at hl 1 rfl) ?_
        refine zr_isub hx hb dX6_hole_19 ?_
        refine zr_i2l hx hb dX6_hole_20 (by omega) ?_
        refine lv_lconst (v := lI 0) hx hb dX6_hole_21 rfl ?_
        refine lv_ldc2 hx hb hown (hU _ kk_RX6_207) dX6_hole_22 ?_
        refine zc_Si (As := [.long (lI (ux - x)), .long (lI 0), .long (lI 7)]) (rest := []) (c_X6_in l D cI cL cG cM (ux - x) 0 7 (by omega) (by omega) (by omega)) hx hb hml hown hU hl.1 ct_yX6_in kt_yX6_in km_RX6_44 ⟨rfl, rfl⟩ ⟨Nat.le_of_ble_eq_true rfl, Nat.le_of_ble_eq_true rfl⟩ rfl rfl (Nat.le_of_ble_eq_true rfl) dX6_hole_25 ⟨Nat.le_of_ble_eq_true rfl, Nat.le_of_ble_eq_true rfl⟩ ?_
        refine zr_bif_eq (tgt := 46) hx hb dX6_hole_28 (by decide) (fun c_3 => ?_) (fun c_3 => ?_)
        · skip
          refine lv_ldc hx hb hown (hU _ kk_RX6_159) dX6_hole_46 ?_
          rw [hQ]
          exact ze_Wi hx hb hr hlk dX6_hole_48 (sn, sns, iq, rt, scl, tb, gr, bel, ups, tp, bt) (by unfold an_ho; rw [if_neg (by omega)]) hP hK hD hS
        · skip
          refine lv_iload hx hb dX6_hole_31 (lv_at hl 4 rfl) ?_
          refine lv_iload_n hx hb dX6_hole_33 rfl (lv_at hl 2 rfl) ?_
          refine zr_isub hx hb dX6_hole_34 ?_
          refine zr_i2l hx hb dX6_hole_35 (by omega) ?_
          refine lv_lconst (v := lI 0) hx hb dX6_hole_36 rfl ?_
          refine lv_ldc2 hx hb hown (hU _ kk_RX6_207) dX6_hole_37 ?_
          refine zc_Si (As := [.long (lI (vy - y)), .long (lI 0), .long (lI 7)]) (rest := []) (c_X6_in l D cI cL cG cM (vy - y) 0 7 (by omega) (by omega) (by omega)) hx hb hml hown hU hl.1 ct_yX6_in kt_yX6_in km_RX6_44 ⟨rfl, rfl⟩ ⟨Nat.le_of_ble_eq_true rfl, Nat.le_of_ble_eq_true rfl⟩ rfl rfl (Nat.le_of_ble_eq_true rfl) dX6_hole_40 ⟨Nat.le_of_ble_eq_true rfl, Nat.le_of_ble_eq_true rfl⟩ ?_
          refine zr_bif_ne (tgt := 49) hx hb dX6_hole_43 (by decide) (fun c_4 => ?_) (fun c_4 => ?_)
          · skip
            obtain ⟨Wd, e1⟩ : ∃ Wd : Nat, (ux - x) + 1 = (Wd : Int) := ⟨((ux - x) + 1).toNat, by omega⟩
            obtain ⟨Hd, e2⟩ : ∃ Hd : Nat, (vy - y) + 1 = (Hd : Int) := ⟨((vy - y) + 1).toNat, by omega⟩
            have hWH : Wd * Hd ≤ 8 * 8 := Nat.mul_le_mul (by omega) (by omega)
            refine lv_iconst (v := iI (-1)) hx hb dX6_hole_49 rfl ?_
            refine lv_istore (lv' := [(5, .int (iI (-1))), (0, .ref m0), (1, .int (iI x)), (2, .int (iI y)), (3, .int (iI ux)), (4, .int (iI vy))]) hx hb dX6_hole_50 hl (by decide) rfl (fun ls hl => ?_)
            refine lv_lconst (v := lI 0) hx hb dX6_hole_52 rfl ?_
            refine lv_lstore (lv' := [(6, .long (lI 0)), (5, .int (iI (-1))), (0, .ref m0), (1, .int (iI x)), (2, .int (iI y)), (3, .int (iI ux)), (4, .int (iI vy))]) hx hb dX6_hole_53 hl (by decide) rfl (fun ls hl => ?_)
            refine lv_lconst (v := lI 1) hx hb dX6_hole_55 rfl ?_
            refine lv_lstore (lv' := [(8, .long (lI 1)), (6, .long (lI 0)), (5, .int (iI (-1))), (0, .ref m0), (1, .int (iI x)), (2, .int (iI y)), (3, .int (iI ux)), (4, .int (iI vy))]) hx hb dX6_hole_56 hl (by decide) rfl (fun ls hl => ?_)
            refine lv_iconst (v := iI 0) hx hb dX6_hole_58 rfl ?_
            refine lv_istore (lv' := [(10, .int (iI 0)), (8, .long (lI 1)), (6, .long (lI 0)), (5, .int (iI (-1))), (0, .ref m0), (1, .int (iI x)), (2, .int (iI y)), (3, .int (iI ux)), (4, .int (iI vy))]) hx hb dX6_hole_59 hl (by decide) rfl (fun ls hl => ?_)
            have LP61 : ∀ (n : Nat), ∀ (k : Nat) (fk : Int) (fd : Int) (ab : Int) (un : Int) (sna : Nat → Int) (snsa : Int) (iqa : Nat → Int) (rta : Nat → Int) (scla : Int) (tba : Nat → Int) (gra : Nat → Int) (bela : Int) (upsa : Nat → Int) (tpa : Int) (bta : Int), (k ≤ Wd * Hd) → (-1 ≤ fk ∧ fk < (k : Int)) → (fd = sp_hz x y Wd fk) → ((fk = -1 ∧ fd = -1) ∨ (0 ≤ fk ∧ 0 ≤ fd ∧ fd ≤ 4000)) → (sp_it (sp_hs w x y Wd) (Wd * Hd - k) k fk = sp_it (sp_hs w x y Wd) (Wd * Hd) 0 (-1)) → (fk ≠ -1 → gEx w (sp_L0 w (sp_hx x Wd fk.toNat) (sp_hy y Wd fk.toNat)) ∧ ab = sp_top (sp_hA w (sp_hx x Wd fk.toNat) (sp_hy y Wd fk.toNat)) (sp_hB w (sp_hx x Wd fk.toNat) (sp_hy y Wd fk.toNat)) ∧ un = sp_bot (sp_hA w (sp_hx x Wd fk.toNat) (sp_hy y Wd fk.toNat)) (sp_hB w (sp_hx x Wd fk.toNat) (sp_hy y Wd fk.toNat))) → (Wd * Hd < k + n) → ∀ (H : Heap) (locs : List Loc), va_P D vwCl [(m0, .inr (6, [.ref mw, .int (iI kn), .int (iI kp), .int (iI sd), .ref mks, .ref mbx, .ref mby, .ref mbi, .int (iI bkn), .ref msn, .int (iI snsa), .ref miq, .ref mtb, .ref mrt, .ref mgr, .ref mup, .long (lI bela), .long (lI scla), .long (lI tpa), .long (lI bta)])), (mw, .inl (cI, 760, .inl (aI w))), (mks, .inl (cI, 2, .inl (aI ks))), (mbx, .inl (cI, 20, .inl (aI bkx))), (mby, .inl (cI, 20, .inl (aI bky))), (mbi, .inl (cI, 20, .inl (aI bki))), (msn, .inl (cI, 4, .inl (aI sna))), (miq, .inl (cI, 4, .inl (aI iqa))), (mtb, .inl (cL, 25, .inr (.inl (aL tba)))), (mrt, .inl (cL, 5, .inr (.inl (aL rta)))), (mgr, .inl (cL, 32, .inr (.inl (aL gra)))), (mup, .inl (cL, 5, .inr (.inl (aL upsa))))] H → va_D A [(m0, .inr (6, [.ref mw, .int (iI kn), .int (iI kp), .int (iI sd), .ref mks, .ref mbx, .ref mby, .ref mbi, .int (iI bkn), .ref msn, .int (iI snsa), .ref miq, .ref mtb, .ref mrt, .ref mgr, .ref mup, .long (lI bela), .long (lI scla), .long (lI tpa), .long (lI bta)])), (mw, .inl (cI, 760, .inl (aI w))), (mks, .inl (cI, 2, .inl (aI ks))), (mbx, .inl (cI, 20, .inl (aI bkx))), (mby, .inl (cI, 20, .inl (aI bky))), (mbi, .inl (cI, 20, .inl (aI bki))), (msn, .inl (cI, 4, .inl (aI sna))), (miq, .inl (cI, 4, .inl (aI iqa))), (mtb, .inl (cL, 25, .inr (.inl (aL tba)))), (mrt, .inl (cL, 5, .inr (.inl (aL rta)))), (mgr, .inl (cL, 32, .inr (.inl (aL gra)))), (mup, .inl (cL, 5, .inr (.inl (aL upsa))))] → va_S A s.heap H locs → ∀ (ls : Array Slot), lv_has ls 13 [(0, .ref m0), (1, .int (iI x)), (2, .int (iI y)), (3, .int (iI ux)), (4, .int (iI vy)), (5, .int (iI fd)), (6, .long (lI ab)), (8, .long (lI un)), (10, .int (iI (k : Int)))] → W p l e (rmF 5 119) s m args below meth c H locs 0 0 Q (F0 m 61 ls []) := by
              intro n
              induction n with
              | zero =>
                intro k fk fd ab un sna snsa iqa rta scla tba gra bela upsa tpa bta hk hfk hfd hfr hinv hab hfu
                exfalso
                omega
              | succ n ih61 =>
                intro k fk fd ab un sna snsa iqa rta scla tba gra bela upsa tpa bta hk hfk hfd hfr hinv hab hfu H locs hP hD hS ls hl
                refine lv_iload hx hb dX6_hole_61 (lv_at hl 8 rfl) ?_
                refine lv_iload_n hx hb dX6_hole_63 rfl (lv_at hl 3 rfl) ?_
                refine lv_iload_n hx hb dX6_hole_64 rfl (lv_at hl 1 rfl) ?_
                refine zr_isub hx hb dX6_hole_65 ?_
                refine lv_iconst (v := iI 1) hx hb dX6_hole_66 rfl ?_
                refine zr_iadd hx hb dX6_hole_67 ?_
                refine lv_iload hx hb dX6_hole_68 (lv_at hl 4 rfl) ?_
                refine lv_iload_n hx hb dX6_hole_70 rfl (lv_at hl 2 rfl) ?_
                refine zr_isub hx hb dX6_hole_71 ?_
                refine lv_iconst (v := iI 1) hx hb dX6_hole_72 rfl ?_
                refine zr_iadd hx hb dX6_hole_73 ?_
                refine zr_imul hx hb dX6_hole_74 ?_
                refine zr_rw (v := (((Wd * Hd) : Nat) : Int)) (by rw [e1, e2]; exact (Int.natCast_mul Wd Hd).symm) ?_
                refine zr_icmp_ge (tgt := 183) hx hb dX6_hole_75 (by decide) (by omega) (by omega) (fun c_5 => ?_) (fun c_5 => ?_)
                · skip
                  refine lv_iload hx hb dX6_hole_183 (lv_at hl 5 rfl) ?_
                  rw [hQ]
                  exact ze_Wi hx hb hr hlk dX6_hole_185 (sna, snsa, iqa, rta, scla, tba, gra, bela, upsa, tpa, bta) (by rw [hfd]; unfold an_ho; rw [if_pos (by omega), show (ux - x + 1).toNat = Wd by omega, show ((ux - x + 1) * (vy - y + 1)).toNat = Wd * Hd from by rw [e1, e2]; rfl]; unfold sp_ho; rw [← hinv, show Wd * Hd - k = 0 by omega]; rfl) hP hK hD hS
                · skip
                  have hmx := Nat.mod_lt k (show 0 < Wd by omega)
                  have hdx : k / Wd < Hd := Nat.div_lt_of_lt_mul (by omega)
                  have hdn := Int.natCast_nonneg (k / Wd)
                  have hX : 0 ≤ sp_hx x Wd k ∧ sp_hx x Wd k ≤ 31 := by unfold sp_hx; omega
                  have hY : 0 ≤ sp_hy y Wd k ∧ sp_hy y Wd k ≤ 31 := by unfold sp_hy; omega
                  have htr := sp_th_rg (sp_hx x Wd k) (sp_hy y Wd k) hw0
                  refine lv_iload_n hx hb dX6_hole_78 rfl (lv_at hl 1 rfl) ?_
                  refine lv_iload hx hb dX6_hole_79 (lv_at hl 8 rfl) ?_
                  refine lv_iload_n hx hb dX6_hole_81 rfl (lv_at hl 3 rfl) ?_
                  refine lv_iload_n hx hb dX6_hole_82 rfl (lv_at hl 1 rfl) ?_
                  refine zr_isub hx hb dX6_hole_83 ?_
                  refine lv_iconst (v := iI 1) hx hb dX6_hole_84 rfl ?_
                  refine zr_iadd hx hb dX6_hole_85 ?_
                  refine zr_rw (v := (Wd : Int)) (e1) ?_
                  refine zr_irem hx hb dX6_hole_86 (by omega) (by omega) (by omega) ?_
                  refine zr_rw (v := (((k % Wd) : Nat) : Int)) (tmod_nat _ _) ?_
                  refine zr_iadd hx hb dX6_hole_87 ?_
                  refine zr_rw (v := (sp_hx x Wd k)) (rfl) ?_
                  refine lv_istore (lv' := [(11, .int (iI (sp_hx x Wd k))), (0, .ref m0), (1, .int (iI x)), (2, .int (iI y)), (3, .int (iI ux)), (4, .int (iI vy)), (5, .int (iI fd)), (6, .long (lI ab)), (8, .long (lI un)), (10, .int (iI (k : Int)))]) hx hb dX6_hole_88 hl (by decide) rfl (fun ls hl => ?_)
                  refine lv_iload_n hx hb dX6_hole_90 rfl (lv_at hl 3 rfl) ?_
                  refine lv_iload hx hb dX6_hole_91 (lv_at hl 9 rfl) ?_
                  refine lv_iload_n hx hb dX6_hole_93 rfl (lv_at hl 4 rfl) ?_
                  refine lv_iload_n hx hb dX6_hole_94 rfl (lv_at hl 2 rfl) ?_
                  refine zr_isub hx hb dX6_hole_95 ?_
                  refine lv_iconst (v := iI 1) hx hb dX6_hole_96 rfl ?_
                  refine zr_iadd hx hb dX6_hole_97 ?_
                  refine zr_rw (v := (Wd : Int)) (e1) ?_
                  refine zr_idiv hx hb dX6_hole_98 (by omega) (by omega) (by omega) ?_
                  refine zr_rw (v := (((k / Wd) : Nat) : Int)) (tdiv_nat _ _) ?_
                  refine zr_iadd hx hb dX6_hole_99 ?_
                  refine zr_rw (v := (sp_hy y Wd k)) (rfl) ?_
                  refine lv_istore (lv' := [(12, .int (iI (sp_hy y Wd k))), (11, .int (iI (sp_hx x Wd k))), (0, .ref m0), (1, .int (iI x)), (2, .int (iI y)), (3, .int (iI ux)), (4, .int (iI vy)), (5, .int (iI fd)), (6, .long (lI ab)), (8, .long (lI un)), (10, .int (iI (k : Int)))]) hx hb dX6_hole_100 hl (by decide) rfl (fun ls hl => ?_)
                  refine lv_aload_n hx hb dX6_hole_102 rfl (lv_at hl 2 rfl) ?_
                  refine lv_iload hx hb dX6_hole_103 (lv_at hl 1 rfl) ?_
                  refine lv_iload hx hb dX6_hole_105 (lv_at hl 0 rfl) ?_
                  refine zc_Vi (As := [.int (iI (sp_hx x Wd k)), .int (iI (sp_hy y Wd k))]) (rest := []) (c_X6_there l D cI cL cG cM m0 mw mks mbx mby mbi msn miq mtb mrt mgr mup w kn kp sd ks bkx bky bki bkn sna snsa iqa tba rta gra upsa bela scla tpa bta (sp_hx x Wd k) (sp_hy y Wd k) (hv) (by omega) (by omega)) hx hb hml hown hU hl.1 ct_yX6_there cv_yX6_there km_RX6_174 hK hNst hP 6 0 rfl rfl rfl ⟨rfl, rfl⟩ ⟨Nat.le_of_ble_eq_true rfl, Nat.le_of_ble_eq_true rfl⟩ rfl rfl (Nat.le_of_ble_eq_true rfl) dX6_hole_107 ⟨Nat.le_of_ble_eq_true rfl, Nat.le_of_ble_eq_true rfl⟩ ?_
                  refine lv_iconst (v := iI (-1)) hx hb dX6_hole_110 rfl ?_
                  refine zr_icmp_ne (tgt := 177) hx hb dX6_hole_111 (by decide) (by omega) (by omega) (fun c111 => ?_) (fun c111 => ?_)
                  · skip
                    refine lv_iinc (v := iI ((k : Int) + 1)) (lv' := [(10, .int (iI ((k : Int) + 1))), (12, .int (iI (sp_hy y Wd k))), (11, .int (iI (sp_hx x Wd k))), (0, .ref m0), (1, .int (iI x)), (2, .int (iI y)), (3, .int (iI ux)), (4, .int (iI vy)), (5, .int (iI fd)), (6, .long (lI ab)), (8, .long (lI un))]) hx hb dX6_hole_177 hl (k := 10) rfl (iI_add _ _) (by decide) rfl (fun ls hl => ?_)
                    refine lv_goto (tgt := 61) hx hb dX6_hole_180 (by decide) ?_
                    exact ih61 (k + 1) fk fd ab un sna snsa iqa rta scla tba gra bela upsa tpa bta (by omega) (by omega) (hfd) (by omega) (by rw [← hinv, show Wd * Hd - k = (Wd * Hd - (k + 1)) + 1 by omega, sp_it, show sp_hs w x y Wd k fk = _ from ci_f (fun h => c111 h.1)]) (hab) (by omega) _ _ hP hD hS ls (lv_sub hl [3, 4, 5, 6, 7, 8, 9, 10, 0] rfl)
                  · skip
                    refine lv_aload_n hx hb dX6_hole_114 rfl (lv_at hl 2 rfl) ?_
                    refine lv_iload hx hb dX6_hole_115 (lv_at hl 1 rfl) ?_
                    refine lv_iload hx hb dX6_hole_117 (lv_at hl 0 rfl) ?_
                    refine lv_iconst (v := iI (-1)) hx hb dX6_hole_119 rfl ?_
                    refine zc_Wi (As := [.int (iI (sp_hx x Wd k)), .int (iI (sp_hy y Wd k)), .int (iI (-1))]) (rest := []) (wr := []) (wc := [(m0, .inr (6, [.ref mw, .int (iI kn), .int (iI kp), .int (iI sd), .ref mks, .ref mbx, .ref mby, .ref mbi, .int (iI bkn), .ref msn, .int (iI snsa), .ref miq, .ref mtb, .ref mrt, .ref mgr, .ref mup, .long (lI bela), .long (lI scla), .long (lI tpa), .long (lI bta)])), (mw, .inl (cI, 760, .inl (aI w))), (mks, .inl (cI, 2, .inl (aI ks))), (mbx, .inl (cI, 20, .inl (aI bkx))), (mby, .inl (cI, 20, .inl (aI bky))), (mbi, .inl (cI, 20, .inl (aI bki))), (msn, .inl (cI, 4, .inl (aI sna))), (miq, .inl (cI, 4, .inl (aI iqa))), (mtb, .inl (cL, 25, .inr (.inl (aL tba)))), (mrt, .inl (cL, 5, .inr (.inl (aL rta)))), (mgr, .inl (cL, 32, .inr (.inl (aL gra)))), (mup, .inl (cL, 5, .inr (.inl (aL upsa))))]) (c_X6_guessAt l D cI cL cG cM m0 mw mks mbx mby mbi msn miq mtb mrt mgr mup w kn kp sd ks bkx bky bki bkn sna snsa iqa tba rta gra upsa bela scla tpa bta (sp_hx x Wd k) (sp_hy y Wd k) (-1) (hv) (by omega) (by omega) (by omega) _) hx hb hml hown hU hl.1 ct_yX6_guessAt cv_yX6_guessAt km_RX6_118 hK hNst hP hD hS hA [0, 1, 2, 3, 4, 5, 6, 7, 8, 9, 10, 11] [] rfl rfl (by decide) (by decide) (by decide) 6 0 rfl rfl rfl ⟨rfl, rfl⟩ ⟨Nat.le_of_ble_eq_true rfl, Nat.le_of_ble_eq_true rfl⟩ rfl rfl (Nat.le_of_ble_eq_true rfl) dX6_hole_120 ⟨Nat.le_of_ble_eq_true rfl, Nat.le_of_ble_eq_true rfl⟩ (fun zg u H locs hga hP hD hS _ => ?_)
                    obtain ⟨sn_6, sns_7, iq_8, rt_9, scl_10, tb_11, gr_12, bel_13, ups_14⟩ := u
                    have hga : isL (sp_lk w (sp_hx x Wd k) (sp_hy y Wd k) (-1)) sn_6 sns_7 ∧ zg = zB (gEx w (sp_lk w (sp_hx x Wd k) (sp_hy y Wd k) (-1))) ∧ (gEx w (sp_lk w (sp_hx x Wd k) (sp_hy y Wd k) (-1)) → gOK w (sp_lk w (sp_hx x Wd k) (sp_hy y Wd k) (-1)) (sp_v1 w (sp_lk w (sp_hx x Wd k) (sp_hy y Wd k) (-1)) (sp_hx x Wd k) (sp_hy y Wd k)) 1 rt_9 ups_14 bel_13 scl_10) := hga
                    have hP : va_P D vwCl [(m0, .inr (6, [.ref mw, .int (iI kn), .int (iI kp), .int (iI sd), .ref mks, .ref mbx, .ref mby, .ref mbi, .int (iI bkn), .ref msn, .int (iI sns_7), .ref miq, .ref mtb, .ref mrt, .ref mgr, .ref mup, .long (lI bel_13), .long (lI scl_10), .long (lI tpa), .long (lI bta)])), (mw, .inl (cI, 760, .inl (aI w))), (mks, .inl (cI, 2, .inl (aI ks))), (mbx, .inl (cI, 20, .inl (aI bkx))), (mby, .inl (cI, 20, .inl (aI bky))), (mbi, .inl (cI, 20, .inl (aI bki))), (msn, .inl (cI, 4, .inl (aI sn_6))), (miq, .inl (cI, 4, .inl (aI iq_8))), (mtb, .inl (cL, 25, .inr (.inl (aL tb_11)))), (mrt, .inl (cL, 5, .inr (.inl (aL rt_9)))), (mgr, .inl (cL, 32, .inr (.inl (aL gr_12)))), (mup, .inl (cL, 5, .inr (.inl (aL ups_14))))] H := hP
                    have hD : va_D A [(m0, .inr (6, [.ref mw, .int (iI kn), .int (iI kp), .int (iI sd), .ref mks, .ref mbx, .ref mby, .ref mbi, .int (iI bkn), .ref msn, .int (iI sns_7), .ref miq, .ref mtb, .ref mrt, .ref mgr, .ref mup, .long (lI bel_13), .long (lI scl_10), .long (lI tpa), .long (lI bta)])), (mw, .inl (cI, 760, .inl (aI w))), (mks, .inl (cI, 2, .inl (aI ks))), (mbx, .inl (cI, 20, .inl (aI bkx))), (mby, .inl (cI, 20, .inl (aI bky))), (mbi, .inl (cI, 20, .inl (aI bki))), (msn, .inl (cI, 4, .inl (aI sn_6))), (miq, .inl (cI, 4, .inl (aI iq_8))), (mtb, .inl (cL, 25, .inr (.inl (aL tb_11)))), (mrt, .inl (cL, 5, .inr (.inl (aL rt_9)))), (mgr, .inl (cL, 32, .inr (.inl (aL gr_12)))), (mup, .inl (cL, 5, .inr (.inl (aL ups_14))))] := hD
                    have hL : isL (sp_L0 w (sp_hx x Wd k) (sp_hy y Wd k)) _ _ := hga.1
                    have hz1 : zg = zB (gEx w (sp_L0 w (sp_hx x Wd k) (sp_hy y Wd k))) := hga.2.1
                    have hzr := zB_rg (gEx w (sp_L0 w (sp_hx x Wd k) (sp_hy y Wd k)))
                    rw [← hz1] at hzr
                    have hgx : gEx w (sp_L0 w (sp_hx x Wd k) (sp_hy y Wd k)) → gOK w (sp_L0 w (sp_hx x Wd k) (sp_hy y Wd k)) (sp_V0 w (sp_hx x Wd k) (sp_hy y Wd k)) 1 _ _ _ _ := hga.2.2
                    have hok : okL w (sp_L0 w (sp_hx x Wd k) (sp_hy y Wd k)) := okL_lk hv _ _ _
                    refine zr_if_eq (tgt := 177) hx hb dX6_hole_123 (by decide) (by omega) (fun c123 => ?_) (fun c123 => ?_)
                    · skip
                      refine lv_iinc (v := iI ((k : Int) + 1)) (lv' := [(10, .int (iI ((k : Int) + 1))), (12, .int (iI (sp_hy y Wd k))), (11, .int (iI (sp_hx x Wd k))), (0, .ref m0), (1, .int (iI x)), (2, .int (iI y)), (3, .int (iI ux)), (4, .int (iI vy)), (5, .int (iI fd)), (6, .long (lI ab)), (8, .long (lI un))]) hx hb dX6_hole_177 hl (k := 10) rfl (iI_add _ _) (by decide) rfl (fun ls hl => ?_)
                      refine lv_goto (tgt := 61) hx hb dX6_hole_180 (by decide) ?_
                      exact ih61 (k + 1) fk fd ab un sn_6 sns_7 iq_8 rt_9 scl_10 tb_11 gr_12 bel_13 ups_14 tpa bta (by omega) (by omega) (hfd) (by omega) (by rw [← hinv, show Wd * Hd - k = (Wd * Hd - (k + 1)) + 1 by omega, sp_it, show sp_hs w x y Wd k fk = _ from ci_f (fun h => zB_e0 (by rw [← hz1]; exact c123) h.2.1)]) (hab) (by omega) _ _ hP hD hS ls (lv_sub hl [3, 4, 5, 6, 7, 8, 9, 10, 0] rfl)
                    · skip
                      have hx1 := zB_n0 (by rw [← hz1]; exact c123)
                      have hg := hgx hx1
                      have hV : okV (sp_L0 w (sp_hx x Wd k) (sp_hy y Wd k)).length (sp_V0 w (sp_hx x Wd k) (sp_hy y Wd k)) 1 := okV_v1 hv hok hX hY
                      refine lv_aload_n hx hb dX6_hole_126 rfl (lv_at hl 2 rfl) ?_
                      refine lv_lconst (v := lI 0) hx hb dX6_hole_127 rfl ?_
                      refine zc_Wv (As := [.long (lI 0)]) (rest := []) (wr := []) (wc := [(m0, .inr (6, [.ref mw, .int (iI kn), .int (iI kp), .int (iI sd), .ref mks, .ref mbx, .ref mby, .ref mbi, .int (iI bkn), .ref msn, .int (iI sns_7), .ref miq, .ref mtb, .ref mrt, .ref mgr, .ref mup, .long (lI bel_13), .long (lI scl_10), .long (lI tpa), .long (lI bta)])), (mw, .inl (cI, 760, .inl (aI w))), (mks, .inl (cI, 2, .inl (aI ks))), (mbx, .inl (cI, 20, .inl (aI bkx))), (mby, .inl (cI, 20, .inl (aI bky))), (mbi, .inl (cI, 20, .inl (aI bki))), (msn, .inl (cI, 4, .inl (aI sn_6))), (miq, .inl (cI, 4, .inl (aI iq_8))), (mtb, .inl (cL, 25, .inr (.inl (aL tb_11)))), (mrt, .inl (cL, 5, .inr (.inl (aL rt_9)))), (mgr, .inl (cL, 32, .inr (.inl (aL gr_12)))), (mup, .inl (cL, 5, .inr (.inl (aL ups_14))))]) (c_X6_laySpread l D cI cL cG cM m0 mw mks mbx mby mbi msn miq mtb mrt mgr mup w kn kp sd ks bkx bky bki bkn sn_6 sns_7 iq_8 tb_11 rt_9 gr_12 ups_14 bel_13 scl_10 tpa bta 0 (sp_L0 w (sp_hx x Wd k) (sp_hy y Wd k)) (sp_V0 w (sp_hx x Wd k) (sp_hy y Wd k)) 1 (hv) (hok) (hL) (hg) (hx1) (hV) (by omega) _) hx hb hml hown hU hl.1 ct_yX6_laySpread cv_yX6_laySpread km_RX6_192 hK hNst hP hD hS hA [0, 1, 2, 3, 4, 5, 6, 7, 8, 9, 10, 11] [] rfl rfl (by decide) (by decide) (by decide) 6 0 rfl rfl rfl ⟨rfl, rfl⟩ ⟨Nat.le_of_ble_eq_true rfl, Nat.le_of_ble_eq_true rfl⟩ rfl rfl (Nat.le_of_ble_eq_true rfl) dX6_hole_128 ⟨Nat.le_of_ble_eq_true rfl, Nat.le_of_ble_eq_true rfl⟩ (fun u H locs hlg hP hD hS _ => ?_)
                      obtain ⟨tp1, bt1⟩ := u
                      have hlg : tp1 = sp_top (nS w (sp_L0 w (sp_hx x Wd k) (sp_hy y Wd k)) (sp_V0 w (sp_hx x Wd k) (sp_hy y Wd k)) 1 0) (1 * 1 * nD w (sp_L0 w (sp_hx x Wd k) (sp_hy y Wd k))) ∧ bt1 = sp_bot (nS w (sp_L0 w (sp_hx x Wd k) (sp_hy y Wd k)) (sp_V0 w (sp_hx x Wd k) (sp_hy y Wd k)) 1 0) (1 * 1 * nD w (sp_L0 w (sp_hx x Wd k) (sp_hy y Wd k))) := hlg
                      have hP : va_P D vwCl [(m0, .inr (6, [.ref mw, .int (iI kn), .int (iI kp), .int (iI sd), .ref mks, .ref mbx, .ref mby, .ref mbi, .int (iI bkn), .ref msn, .int (iI sns_7), .ref miq, .ref mtb, .ref mrt, .ref mgr, .ref mup, .long (lI bel_13), .long (lI scl_10), .long (lI tp1), .long (lI bt1)])), (mw, .inl (cI, 760, .inl (aI w))), (mks, .inl (cI, 2, .inl (aI ks))), (mbx, .inl (cI, 20, .inl (aI bkx))), (mby, .inl (cI, 20, .inl (aI bky))), (mbi, .inl (cI, 20, .inl (aI bki))), (msn, .inl (cI, 4, .inl (aI sn_6))), (miq, .inl (cI, 4, .inl (aI iq_8))), (mtb, .inl (cL, 25, .inr (.inl (aL tb_11)))), (mrt, .inl (cL, 5, .inr (.inl (aL rt_9)))), (mgr, .inl (cL, 32, .inr (.inl (aL gr_12)))), (mup, .inl (cL, 5, .inr (.inl (aL ups_14))))] H := hP
                      have hD : va_D A [(m0, .inr (6, [.ref mw, .int (iI kn), .int (iI kp), .int (iI sd), .ref mks, .ref mbx, .ref mby, .ref mbi, .int (iI bkn), .ref msn, .int (iI sns_7), .ref miq, .ref mtb, .ref mrt, .ref mgr, .ref mup, .long (lI bel_13), .long (lI scl_10), .long (lI tp1), .long (lI bt1)])), (mw, .inl (cI, 760, .inl (aI w))), (mks, .inl (cI, 2, .inl (aI ks))), (mbx, .inl (cI, 20, .inl (aI bkx))), (mby, .inl (cI, 20, .inl (aI bky))), (mbi, .inl (cI, 20, .inl (aI bki))), (msn, .inl (cI, 4, .inl (aI sn_6))), (miq, .inl (cI, 4, .inl (aI iq_8))), (mtb, .inl (cL, 25, .inr (.inl (aL tb_11)))), (mrt, .inl (cL, 5, .inr (.inl (aL rt_9)))), (mgr, .inl (cL, 32, .inr (.inl (aL gr_12)))), (mup, .inl (cL, 5, .inr (.inl (aL ups_14))))] := hD
                      rw [Int.one_mul, Int.one_mul] at hlg
                      have hlg : tp1 = sp_top (sp_hA w (sp_hx x Wd k) (sp_hy y Wd k)) (sp_hB w (sp_hx x Wd k) (sp_hy y Wd k)) ∧ bt1 = sp_bot (sp_hA w (sp_hx x Wd k) (sp_hy y Wd k)) (sp_hB w (sp_hx x Wd k) (sp_hy y Wd k)) := hlg
                      have hSr : -100000000000000 ≤ (sp_hA w (sp_hx x Wd k) (sp_hy y Wd k)) ∧ (sp_hA w (sp_hx x Wd k) (sp_hy y Wd k)) ≤ 100000000000000 := nS_rg hv hok hx1.1 hV (by omega)
                      have hdr : -324060912 ≤ (sp_hB w (sp_hx x Wd k) (sp_hy y Wd k)) ∧ (sp_hB w (sp_hx x Wd k) (sp_hy y Wd k)) ≤ 324060912 := nD_rg hv hok
                      have t1 := top_le (sp_hA w (sp_hx x Wd k) (sp_hy y Wd k)) (sp_hB w (sp_hx x Wd k) (sp_hy y Wd k)) hx1.2 hSr
                      have t2 := bot_le (sp_hA w (sp_hx x Wd k) (sp_hy y Wd k)) (sp_hB w (sp_hx x Wd k) (sp_hy y Wd k)) hx1.2 hdr
                      have t3 := bot_pos (a := (sp_hA w (sp_hx x Wd k) (sp_hy y Wd k))) (b := (sp_hB w (sp_hx x Wd k) (sp_hy y Wd k))) hx1.2
                      rw [← hlg.1] at t1
                      rw [← hlg.2] at t2 t3
                      refine lv_iload hx hb dX6_hole_131 (lv_at hl 7 rfl) ?_
                      refine lv_iconst (v := iI (-1)) hx hb dX6_hole_133 rfl ?_
                      refine zr_icmp_eq (tgt := 155) hx hb dX6_hole_134 (by decide) (by omega) (by omega) (fun c134 => ?_) (fun c134 => ?_)
                      · skip
                        refine lv_bipush (v := iI 100) hx hb dX6_hole_155 (by decide) ?_
                        refine lv_iload hx hb dX6_hole_157 (lv_at hl 0 rfl) ?_
                        refine zr_imul hx hb dX6_hole_159 ?_
                        refine lv_iload hx hb dX6_hole_160 (lv_at hl 1 rfl) ?_
                        refine zr_iadd hx hb dX6_hole_162 ?_
                        refine lv_istore (lv' := [(5, .int (iI ((100 * (sp_hy y Wd k)) + (sp_hx x Wd k)))), (12, .int (iI (sp_hy y Wd k))), (11, .int (iI (sp_hx x Wd k))), (0, .ref m0), (1, .int (iI x)), (2, .int (iI y)), (3, .int (iI ux)), (4, .int (iI vy)), (6, .long (lI ab)), (8, .long (lI un)), (10, .int (iI (k : Int)))]) hx hb dX6_hole_163 hl (by decide) rfl (fun ls hl => ?_)
                        refine lv_aload_n hx hb dX6_hole_165 rfl (lv_at hl 3 rfl) ?_
                        refine va_get (D := D) (ci := 6) (v := .long (lI tp1)) (C := RX6) (T := TX6) (N := 20) hx hb hU inlX6 hown hK hP 0 rfl rfl 18 (by decide) (hU _ kf_RX6_108) (fun _ h9 => h9) rfl dX6_hole_166 ?_
                        refine lv_lstore (lv' := [(6, .long (lI tp1)), (5, .int (iI ((100 * (sp_hy y Wd k)) + (sp_hx x Wd k)))), (12, .int (iI (sp_hy y Wd k))), (11, .int (iI (sp_hx x Wd k))), (0, .ref m0), (1, .int (iI x)), (2, .int (iI y)), (3, .int (iI ux)), (4, .int (iI vy)), (8, .long (lI un)), (10, .int (iI (k : Int)))]) hx hb dX6_hole_169 hl (by decide) rfl (fun ls hl => ?_)
                        refine lv_aload_n hx hb dX6_hole_171 rfl (lv_at hl 4 rfl) ?_
                        refine va_get (D := D) (ci := 6) (v := .long (lI bt1)) (C := RX6) (T := TX6) (N := 20) hx hb hU inlX6 hown hK hP 0 rfl rfl 19 (by decide) (hU _ kf_RX6_111) (fun _ h9 => h9) rfl dX6_hole_172 ?_
                        refine lv_lstore (lv' := [(8, .long (lI bt1)), (6, .long (lI tp1)), (5, .int (iI ((100 * (sp_hy y Wd k)) + (sp_hx x Wd k)))), (12, .int (iI (sp_hy y Wd k))), (11, .int (iI (sp_hx x Wd k))), (0, .ref m0), (1, .int (iI x)), (2, .int (iI y)), (3, .int (iI ux)), (4, .int (iI vy)), (10, .int (iI (k : Int)))]) hx hb dX6_hole_175 hl (by decide) rfl (fun ls hl => ?_)
                        refine lv_iinc (v := iI ((k : Int) + 1)) (lv' := [(10, .int (iI ((k : Int) + 1))), (8, .long (lI bt1)), (6, .long (lI tp1)), (5, .int (iI ((100 * (sp_hy y Wd k)) + (sp_hx x Wd k)))), (12, .int (iI (sp_hy y Wd k))), (11, .int (iI (sp_hx x Wd k))), (0, .ref m0), (1, .int (iI x)), (2, .int (iI y)), (3, .int (iI ux)), (4, .int (iI vy))]) hx hb dX6_hole_177 hl (k := 10) rfl (iI_add _ _) (by decide) rfl (fun ls hl => ?_)
                        refine lv_goto (tgt := 61) hx hb dX6_hole_180 (by decide) ?_
                        exact ih61 (k + 1) (k : Int) ((100 * (sp_hy y Wd k)) + (sp_hx x Wd k)) tp1 bt1 sn_6 sns_7 iq_8 rt_9 scl_10 tb_11 gr_12 bel_13 ups_14 tp1 bt1 (by omega) (by omega) (by unfold sp_hz; rw [if_neg (by omega), Int.toNat_natCast]) (by omega) (by rw [← hinv, show Wd * Hd - k = (Wd * Hd - (k + 1)) + 1 by omega, sp_it, show sp_hs w x y Wd k fk = _ from ci_t ⟨c111, hx1, Or.inl (by omega)⟩]) (fun _ => by rw [Int.toNat_natCast]; exact ⟨hx1, hlg.1, hlg.2⟩) (by omega) _ _ hP hD hS ls (lv_sub hl [6, 7, 8, 9, 10, 3, 2, 1, 0] rfl)
                      · skip
                        obtain ⟨hb1, hb2, hb3⟩ := hab (by omega)
                        have hmf := Nat.mod_lt fk.toNat (show 0 < Wd by omega)
                        have hdf : fk.toNat / Wd < Hd := Nat.div_lt_of_lt_mul (by omega)
                        have hdn2 := Int.natCast_nonneg (fk.toNat / Wd)
                        have hXf : 0 ≤ (sp_hx x Wd fk.toNat) ∧ (sp_hx x Wd fk.toNat) ≤ 31 := by unfold sp_hx; omega
                        have hYf : 0 ≤ (sp_hy y Wd fk.toNat) ∧ (sp_hy y Wd fk.toNat) ≤ 31 := by unfold sp_hy; omega
                        have hokf : okL w (sp_L0 w (sp_hx x Wd fk.toNat) (sp_hy y Wd fk.toNat)) := okL_lk hv _ _ _
                        have hVf : okV (sp_L0 w (sp_hx x Wd fk.toNat) (sp_hy y Wd fk.toNat)).length (sp_V0 w (sp_hx x Wd fk.toNat) (sp_hy y Wd fk.toNat)) 1 := okV_v1 hv hokf hXf hYf
                        have hSf : -100000000000000 ≤ (sp_hA w (sp_hx x Wd fk.toNat) (sp_hy y Wd fk.toNat)) ∧ (sp_hA w (sp_hx x Wd fk.toNat) (sp_hy y Wd fk.toNat)) ≤ 100000000000000 := nS_rg hv hokf hb1.1 hVf (by omega)
                        have hdf2 : -324060912 ≤ (sp_hB w (sp_hx x Wd fk.toNat) (sp_hy y Wd fk.toNat)) ∧ (sp_hB w (sp_hx x Wd fk.toNat) (sp_hy y Wd fk.toNat)) ≤ 324060912 := nD_rg hv hokf
                        have s1 := top_le (sp_hA w (sp_hx x Wd fk.toNat) (sp_hy y Wd fk.toNat)) (sp_hB w (sp_hx x Wd fk.toNat) (sp_hy y Wd fk.toNat)) hb1.2 hSf
                        have s2 := bot_le (sp_hA w (sp_hx x Wd fk.toNat) (sp_hy y Wd fk.toNat)) (sp_hB w (sp_hx x Wd fk.toNat) (sp_hy y Wd fk.toNat)) hb1.2 hdf2
                        have s3 := bot_pos (a := (sp_hA w (sp_hx x Wd fk.toNat) (sp_hy y Wd fk.toNat))) (b := (sp_hB w (sp_hx x Wd fk.toNat) (sp_hy y Wd fk.toNat))) hb1.2
                        rw [← hb2] at s1
                        rw [← hb3] at s2 s3
                        have hMM : ab * bt1 < tp1 * un ↔ sp_hM w x y Wd k fk.toNat := by rw [hb2, hb3, hlg.1, hlg.2]; exact more_red hx1.2 hb1.2
                        refine lv_aload_n hx hb dX6_hole_137 rfl (lv_at hl 2 rfl) ?_
                        refine va_get (D := D) (ci := 6) (v := .long (lI tp1)) (C := RX6) (T := TX6) (N := 20) hx hb hU inlX6 hown hK hP 0 rfl rfl 18 (by decide) (hU _ kf_RX6_108) (fun _ h9 => h9) rfl dX6_hole_138 ?_
                        refine lv_aload_n hx hb dX6_hole_141 rfl (lv_at hl 2 rfl) ?_
                        refine va_get (D := D) (ci := 6) (v := .long (lI bt1)) (C := RX6) (T := TX6) (N := 20) hx hb hU inlX6 hown hK hP 0 rfl rfl 19 (by decide) (hU _ kf_RX6_111) (fun _ h9 => h9) rfl dX6_hole_142 ?_
                        refine lv_lload hx hb dX6_hole_145 (lv_at hl 8 rfl) ?_
                        refine lv_lload hx hb dX6_hole_147 (lv_at hl 9 rfl) ?_
                        refine zc_Si (As := [.long (lI tp1), .long (lI bt1), .long (lI ab), .long (lI un)]) (rest := []) (c_X6_isMore l D cI cL cG cM tp1 bt1 ab un (by omega) (by omega) (by omega) (by omega)) hx hb hml hown hU hl.1 ct_yX6_isMore kt_yX6_isMore km_RX6_129 ⟨rfl, rfl⟩ ⟨Nat.le_of_ble_eq_true rfl, Nat.le_of_ble_eq_true rfl⟩ rfl rfl (Nat.le_of_ble_eq_true rfl) dX6_hole_149 ⟨Nat.le_of_ble_eq_true rfl, Nat.le_of_ble_eq_true rfl⟩ ?_
                        refine zr_bif_eq (tgt := 177) hx hb dX6_hole_152 (by decide) (fun cMo => ?_) (fun cMo => ?_)
                        · skip
                          refine lv_iinc (v := iI ((k : Int) + 1)) (lv' := [(10, .int (iI ((k : Int) + 1))), (12, .int (iI (sp_hy y Wd k))), (11, .int (iI (sp_hx x Wd k))), (0, .ref m0), (1, .int (iI x)), (2, .int (iI y)), (3, .int (iI ux)), (4, .int (iI vy)), (5, .int (iI fd)), (6, .long (lI ab)), (8, .long (lI un))]) hx hb dX6_hole_177 hl (k := 10) rfl (iI_add _ _) (by decide) rfl (fun ls hl => ?_)
                          refine lv_goto (tgt := 61) hx hb dX6_hole_180 (by decide) ?_
                          exact ih61 (k + 1) fk fd ab un sn_6 sns_7 iq_8 rt_9 scl_10 tb_11 gr_12 bel_13 ups_14 tp1 bt1 (by omega) (by omega) (hfd) (by omega) (by rw [← hinv, show Wd * Hd - k = (Wd * Hd - (k + 1)) + 1 by omega, sp_it, show sp_hs w x y Wd k fk = _ from ci_f (fun h => h.2.2.elim (fun q => by omega) (fun q => cMo (hMM.mpr q)))]) (hab) (by omega) _ _ hP hD hS ls (lv_sub hl [3, 4, 5, 6, 7, 8, 9, 10, 0] rfl)
                        · skip
                          refine lv_bipush (v := iI 100) hx hb dX6_hole_155 (by decide) ?_
                          refine lv_iload hx hb dX6_hole_157 (lv_at hl 0 rfl) ?_
                          refine zr_imul hx hb dX6_hole_159 ?_
                          refine lv_iload hx hb dX6_hole_160 (lv_at hl 1 rfl) ?_
                          refine zr_iadd hx hb dX6_hole_162 ?_
                          refine lv_istore (lv' := [(5, .int (iI ((100 * (sp_hy y Wd k)) + (sp_hx x Wd k)))), (12, .int (iI (sp_hy y Wd k))), (11, .int (iI (sp_hx x Wd k))), (0, .ref m0), (1, .int (iI x)), (2, .int (iI y)), (3, .int (iI ux)), (4, .int (iI vy)), (6, .long (lI ab)), (8, .long (lI un)), (10, .int (iI (k : Int)))]) hx hb dX6_hole_163 hl (by decide) rfl (fun ls hl => ?_)
                          refine lv_aload_n hx hb dX6_hole_165 rfl (lv_at hl 3 rfl) ?_
                          refine va_get (D := D) (ci := 6) (v := .long (lI tp1)) (C := RX6) (T := TX6) (N := 20) hx hb hU inlX6 hown hK hP 0 rfl rfl 18 (by decide) (hU _ kf_RX6_108) (fun _ h9 => h9) rfl dX6_hole_166 ?_
                          refine lv_lstore (lv' := [(6, .long (lI tp1)), (5, .int (iI ((100 * (sp_hy y Wd k)) + (sp_hx x Wd k)))), (12, .int (iI (sp_hy y Wd k))), (11, .int (iI (sp_hx x Wd k))), (0, .ref m0), (1, .int (iI x)), (2, .int (iI y)), (3, .int (iI ux)), (4, .int (iI vy)), (8, .long (lI un)), (10, .int (iI (k : Int)))]) hx hb dX6_hole_169 hl (by decide) rfl (fun ls hl => ?_)
                          refine lv_aload_n hx hb dX6_hole_171 rfl (lv_at hl 4 rfl) ?_
                          refine va_get (D := D) (ci := 6) (v := .long (lI bt1)) (C := RX6) (T := TX6) (N := 20) hx hb hU inlX6 hown hK hP 0 rfl rfl 19 (by decide) (hU _ kf_RX6_111) (fun _ h9 => h9) rfl dX6_hole_172 ?_
                          refine lv_lstore (lv' := [(8, .long (lI bt1)), (6, .long (lI tp1)), (5, .int (iI ((100 * (sp_hy y Wd k)) + (sp_hx x Wd k)))), (12, .int (iI (sp_hy y Wd k))), (11, .int (iI (sp_hx x Wd k))), (0, .ref m0), (1, .int (iI x)), (2, .int (iI y)), (3, .int (iI ux)), (4, .int (iI vy)), (10, .int (iI (k : Int)))]) hx hb dX6_hole_175 hl (by decide) rfl (fun ls hl => ?_)
                          refine lv_iinc (v := iI ((k : Int) + 1)) (lv' := [(10, .int (iI ((k : Int) + 1))), (8, .long (lI bt1)), (6, .long (lI tp1)), (5, .int (iI ((100 * (sp_hy y Wd k)) + (sp_hx x Wd k)))), (12, .int (iI (sp_hy y Wd k))), (11, .int (iI (sp_hx x Wd k))), (0, .ref m0), (1, .int (iI x)), (2, .int (iI y)), (3, .int (iI ux)), (4, .int (iI vy))]) hx hb dX6_hole_177 hl (k := 10) rfl (iI_add _ _) (by decide) rfl (fun ls hl => ?_)
                          refine lv_goto (tgt := 61) hx hb dX6_hole_180 (by decide) ?_
                          exact ih61 (k + 1) (k : Int) ((100 * (sp_hy y Wd k)) + (sp_hx x Wd k)) tp1 bt1 sn_6 sns_7 iq_8 rt_9 scl_10 tb_11 gr_12 bel_13 ups_14 tp1 bt1 (by omega) (by omega) (by unfold sp_hz; rw [if_neg (by omega), Int.toNat_natCast]) (by omega) (by rw [← hinv, show Wd * Hd - k = (Wd * Hd - (k + 1)) + 1 by omega, sp_it, show sp_hs w x y Wd k fk = _ from ci_t ⟨c111, hx1, Or.inr (hMM.mp cMo)⟩]) (fun _ => by rw [Int.toNat_natCast]; exact ⟨hx1, hlg.1, hlg.2⟩) (by omega) _ _ hP hD hS ls (lv_sub hl [6, 7, 8, 9, 10, 3, 2, 1, 0] rfl)
            exact LP61 (Wd * Hd + 1) 0 (-1) (-1) 0 1 sn sns iq rt scl tb gr bel ups tp bt (by omega) (by omega) (rfl) (by omega) (rfl) (fun h => absurd rfl h) (by omega) _ _ hP hD hS ls (lv_sub hl [4, 5, 6, 7, 8, 3, 2, 1, 0] rfl)
          · skip
            refine lv_ldc hx hb hown (hU _ kk_RX6_159) dX6_hole_46 ?_
            rw [hQ]
            exact ze_Wi hx hb hr hlk dX6_hole_48 (sn, sns, iq, rt, scl, tb, gr, bel, ups, tp, bt) (by unfold an_ho; rw [if_neg (by omega)]) hP hK hD hS
  rw [hlocs]
  exact hW0 s.heap [] hP hD hS
