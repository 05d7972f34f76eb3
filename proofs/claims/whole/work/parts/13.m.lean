set_option maxHeartbeats 4000000 in
set_option maxRecDepth 100000 in
theorem c_X6_isSound (l : Launch) (D : va_G) (cI cL cG cM : ClassId) (m0 mw mks mbx mby mbi msn miq mtb mrt mgr mup : Nat) (w : Nat → Int) (kn : Int) (kp : Int) (sd : Int) (ks : Nat → Int) (bkx : Nat → Int) (bky : Nat → Int) (bki : Nat → Int) (bkn : Int) (sn : Nat → Int) (sns : Int) (iq : Nat → Int) (tb : Nat → Int) (rt : Nat → Int) (gr : Nat → Int) (ups : Nat → Int) (bel : Int) (scl : Int) (tp : Int) (bt : Int) (L : List Nat) (hv : vR w) (hok : okL w L) (hL : isL L sn sns) (sz : Nat) : Met l yX6_isSound (wU yX6_isSound cX6_isSound 5 (some .boolean)) (rmF 3 74) (pcW D (tyA cI cL cG cM) [(m0, .inr (6, [.ref mw, .int (iI kn), .int (iI kp), .int (iI sd), .ref mks, .ref mbx, .ref mby, .ref mbi, .int (iI bkn), .ref msn, .int (iI sns), .ref miq, .ref mtb, .ref mrt, .ref mgr, .ref mup, .long (lI bel), .long (lI scl), .long (lI tp), .long (lI bt)])), (mw, .inl (cI, 760, .inl (aI w))), (mks, .inl (cI, 2, .inl (aI ks))), (mbx, .inl (cI, 20, .inl (aI bkx))), (mby, .inl (cI, 20, .inl (aI bky))), (mbi, .inl (cI, 20, .inl (aI bki))), (msn, .inl (cI, 4, .inl (aI sn))), (miq, .inl (cI, 4, .inl (aI iq))), (mtb, .inl (cL, 25, .inr (.inl (aL tb)))), (mrt, .inl (cL, 5, .inr (.inl (aL rt)))), (mgr, .inl (cL, 32, .inr (.inl (aL gr)))), (mup, .inl (cL, 5, .inr (.inl (aL ups))))] [.ref m0] sz) (qWi (S := (Nat → Int) × (Nat → Int)) D (tyA cI cL cG cM) (va_A [(m0, .inr (6, [.ref mw, .int (iI kn), .int (iI kp), .int (iI sd), .ref mks, .ref mbx, .ref mby, .ref mbi, .int (iI bkn), .ref msn, .int (iI sns), .ref miq, .ref mtb, .ref mrt, .ref mgr, .ref mup, .long (lI bel), .long (lI scl), .long (lI tp), .long (lI bt)])), (mw, .inl (cI, 760, .inl (aI w))), (mks, .inl (cI, 2, .inl (aI ks))), (mbx, .inl (cI, 20, .inl (aI bkx))), (mby, .inl (cI, 20, .inl (aI bky))), (mbi, .inl (cI, 20, .inl (aI bki))), (msn, .inl (cI, 4, .inl (aI sn))), (miq, .inl (cI, 4, .inl (aI iq))), (mtb, .inl (cL, 25, .inr (.inl (aL tb)))), (mrt, .inl (cL, 5, .inr (.inl (aL rt)))), (mgr, .inl (cL, 32, .inr (.inl (aL gr)))), (mup, .inl (cL, 5, .inr (.inl (aL ups))))] sz) (fun (z : Int) (u : (Nat → Int) × (Nat → Int)) => z = zB (sp_sk (sp_uu w L) L.length)) (fun (u : (Nat → Int) × (Nat → Int)) => [(m0, .inr (6, [.ref mw, .int (iI kn), .int (iI kp), .int (iI sd), .ref mks, .ref mbx, .ref mby, .ref mbi, .int (iI bkn), .ref msn, .int (iI sns), .ref miq, .ref mtb, .ref mrt, .ref mgr, .ref mup, .long (lI bel), .long (lI scl), .long (lI tp), .long (lI bt)])), (mw, .inl (cI, 760, .inl (aI w))), (mks, .inl (cI, 2, .inl (aI ks))), (mbx, .inl (cI, 20, .inl (aI bkx))), (mby, .inl (cI, 20, .inl (aI bky))), (mbi, .inl (cI, 20, .inl (aI bki))), (msn, .inl (cI, 4, .inl (aI sn))), (miq, .inl (cI, 4, .inl (aI iq))), (mtb, .inl (cL, 25, .inr (.inl (aL u.1)))), (mrt, .inl (cL, 5, .inr (.inl (aL rt)))), (mgr, .inl (cL, 32, .inr (.inl (aL u.2)))), (mup, .inl (cL, 5, .inr (.inl (aL ups))))])) 0 0 (va_A [(m0, .inr (6, [.ref mw, .int (iI kn), .int (iI kp), .int (iI sd), .ref mks, .ref mbx, .ref mby, .ref mbi, .int (iI bkn), .ref msn, .int (iI sns), .ref miq, .ref mtb, .ref mrt, .ref mgr, .ref mup, .long (lI bel), .long (lI scl), .long (lI tp), .long (lI bt)])), (mw, .inl (cI, 760, .inl (aI w))), (mks, .inl (cI, 2, .inl (aI ks))), (mbx, .inl (cI, 20, .inl (aI bkx))), (mby, .inl (cI, 20, .inl (aI bky))), (mbi, .inl (cI, 20, .inl (aI bki))), (msn, .inl (cI, 4, .inl (aI sn))), (miq, .inl (cI, 4, .inl (aI iq))), (mtb, .inl (cL, 25, .inr (.inl (aL tb)))), (mrt, .inl (cL, 5, .inr (.inl (aL rt)))), (mgr, .inl (cL, 32, .inr (.inl (aL gr)))), (mup, .inl (cL, 5, .inr (.inl (aL ups))))] sz) := by
  refine zm_W (own := RX6) (lv := [(0, .ref m0)]) (QF := fun A => qWi (S := (Nat → Int) × (Nat → Int)) D (tyA cI cL cG cM) A (fun (z : Int) (u : (Nat → Int) × (Nat → Int)) => z = zB (sp_sk (sp_uu w L) L.length)) (fun (u : (Nat → Int) × (Nat → Int)) => [(m0, .inr (6, [.ref mw, .int (iI kn), .int (iI kp), .int (iI sd), .ref mks, .ref mbx, .ref mby, .ref mbi, .int (iI bkn), .ref msn, .int (iI sns), .ref miq, .ref mtb, .ref mrt, .ref mgr, .ref mup, .long (lI bel), .long (lI scl), .long (lI tp), .long (lI bt)])), (mw, .inl (cI, 760, .inl (aI w))), (mks, .inl (cI, 2, .inl (aI ks))), (mbx, .inl (cI, 20, .inl (aI bkx))), (mby, .inl (cI, 20, .inl (aI bky))), (mbi, .inl (cI, 20, .inl (aI bki))), (msn, .inl (cI, 4, .inl (aI sn))), (miq, .inl (cI, 4, .inl (aI iq))), (mtb, .inl (cL, 25, .inr (.inl (aL u.1)))), (mrt, .inl (cL, 5, .inr (.inl (aL rt)))), (mgr, .inl (cL, 32, .inr (.inl (aL u.2)))), (mup, .inl (cL, 5, .inr (.inl (aL ups))))])) (by decide) rfl (Nat.le_of_ble_eq_true rfl) rfl ?_
  intro p e s m below meth c A args Q hx hb hr hml hown hU hlk hnm hP hK hNst hD hA hS hsz hQ ls hl
  obtain ⟨H, hH⟩ : ∃ H, H = s.heap := ⟨_, rfl⟩
  obtain ⟨locs, hlocs⟩ : ∃ locs : List Loc, locs = [] := ⟨_, rfl⟩
  rw [← hlocs]
  have hW0 : ∀ (H : Heap) (locs : List Loc), va_P D vwCl [(m0, .inr (6, [.ref mw, .int (iI kn), .int (iI kp), .int (iI sd), .ref mks, .ref mbx, .ref mby, .ref mbi, .int (iI bkn), .ref msn, .int (iI sns), .ref miq, .ref mtb, .ref mrt, .ref mgr, .ref mup, .long (lI bel), .long (lI scl), .long (lI tp), .long (lI bt)])), (mw, .inl (cI, 760, .inl (aI w))), (mks, .inl (cI, 2, .inl (aI ks))), (mbx, .inl (cI, 20, .inl (aI bkx))), (mby, .inl (cI, 20, .inl (aI bky))), (mbi, .inl (cI, 20, .inl (aI bki))), (msn, .inl (cI, 4, .inl (aI sn))), (miq, .inl (cI, 4, .inl (aI iq))), (mtb, .inl (cL, 25, .inr (.inl (aL tb)))), (mrt, .inl (cL, 5, .inr (.inl (aL rt)))), (mgr, .inl (cL, 32, .inr (.inl (aL gr)))), (mup, .inl (cL, 5, .inr (.inl (aL ups))))] H → va_D A [(m0, .inr (6, [.ref mw, .int (iI kn), .int (iI kp), .int (iI sd), .ref mks, .ref mbx, .ref mby, .ref mbi, .int (iI bkn), .ref msn, .int (iI sns), .ref miq, .ref mtb, .ref mrt, .ref mgr, .ref mup, .long (lI bel), .long (lI scl), .long (lI tp), .long (lI bt)])), (mw, .inl (cI, 760, .inl (aI w))), (mks, .inl (cI, 2, .inl (aI ks))), (mbx, .inl (cI, 20, .inl (aI bkx))), (mby, .inl (cI, 20, .inl (aI bky))), (mbi, .inl (cI, 20, .inl (aI bki))), (msn, .inl (cI, 4, .inl (aI sn))), (miq, .inl (cI, 4, .inl (aI iq))), (mtb, .inl (cL, 25, .inr (.inl (aL tb)))), (mrt, .inl (cL, 5, .inr (.inl (aL rt)))), (mgr, .inl (cL, 32, .inr (.inl (aL gr)))), (mup, .inl (cL, 5, .inr (.inl (aL ups))))] → va_S A s.heap H locs → W p l e (rmF 3 74) s m args below meth c H locs 0 0 Q (F0 m 0 ls []) := by
    clear hP hD hS hH hlocs H locs
    intro H locs hP hD hS
    have h0 := hv.1
    have h7 := hv.2.2.2.2.2.2.2.1
    have h8 := hv.2.2.2.2.2.2.2.2.1
    have h9 := hv.2.2.2.2.2.2.2.2.2.1
    have h4 := okL_le hv hok
    have hl1 := hL.1
    refine lv_iconst (v := iI 1) hx hb dX6_isSound_0 rfl ?_
    refine lv_istore_n (lv' := [(1, .int (iI 1)), (0, .ref m0)]) hx hb dX6_isSound_1 rfl hl (by decide) rfl (fun ls hl => ?_)
    refine lv_iconst (v := iI 1) hx hb dX6_isSound_2 rfl ?_
    refine lv_istore_n (lv' := [(2, .int (iI 1)), (1, .int (iI 1)), (0, .ref m0)]) hx hb dX6_isSound_3 rfl hl (by decide) rfl (fun ls hl => ?_)
    have LP4 : ∀ (n : Nat), ∀ (q : Nat) (is : Int) (tb1 : Nat → Int) (gr1 : Nat → Int), (q ≤ L.length) → (is = zB (sp_sk (sp_uu w L) q)) → (L.length < q + n) → ∀ (H : Heap) (locs : List Loc), va_P D vwCl [(m0, .inr (6, [.ref mw, .int (iI kn), .int (iI kp), .int (iI sd), .ref mks, .ref mbx, .ref mby, .ref mbi, .int (iI bkn), .ref msn, .int (iI sns), .ref miq, .ref mtb, .ref mrt, .ref mgr, .ref mup, .long (lI bel), .long (lI scl), .long (lI tp), .long (lI bt)])), (mw, .inl (cI, 760, .inl (aI w))), (mks, .inl (cI, 2, .inl (aI ks))), (mbx, .inl (cI, 20, .inl (aI bkx))), (mby, .inl (cI, 20, .inl (aI bky))), (mbi, .inl (cI, 20, .inl (aI bki))), (msn, .inl (cI, 4, .inl (aI sn))), (miq, .inl (cI, 4, .inl (aI iq))), (mtb, .inl (cL, 25, .inr (.inl (aL tb1)))), (mrt, .inl (cL, 5, .inr (.inl (aL rt)))), (mgr, .inl (cL, 32, .inr (.inl (aL gr1)))), (mup, .inl (cL, 5, .inr (.inl (aL ups))))] H → va_D A [(m0, .inr (6, [.ref mw, .int (iI kn), .int (iI kp), .int (iI sd), .ref mks, .ref mbx, .ref mby, .ref mbi, .int (iI bkn), .ref msn, .int (iI sns), .ref miq, .ref mtb, .ref mrt, .ref mgr, .ref mup, .long (lI bel), .long (lI scl), .long (lI tp), .long (lI bt)])), (mw, .inl (cI, 760, .inl (aI w))), (mks, .inl (cI, 2, .inl (aI ks))), (mbx, .inl (cI, 20, .inl (aI bkx))), (mby, .inl (cI, 20, .inl (aI bky))), (mbi, .inl (cI, 20, .inl (aI bki))), (msn, .inl (cI, 4, .inl (aI sn))), (miq, .inl (cI, 4, .inl (aI iq))), (mtb, .inl (cL, 25, .inr (.inl (aL tb1)))), (mrt, .inl (cL, 5, .inr (.inl (aL rt)))), (mgr, .inl (cL, 32, .inr (.inl (aL gr1)))), (mup, .inl (cL, 5, .inr (.inl (aL ups))))] → va_S A s.heap H locs → ∀ (ls : Array Slot), lv_has ls 5 [(0, .ref m0), (1, .int (iI is)), (2, .int (iI (((q + 1) : Nat) : Int)))] → W p l e (rmF 3 74) s m args below meth c H locs 0 0 Q (F0 m 4 ls []) := by
      intro n
      induction n with
      | zero =>
        intro q is tb1 gr1 hq his hfu
        exfalso
        omega
      | succ n ih4 =>
        intro q is tb1 gr1 hq his hfu H locs hP hD hS ls hl
        refine lv_iload_n hx hb dX6_isSound_4 rfl (lv_at hl 2 rfl) ?_
        refine lv_aload_n hx hb dX6_isSound_5 rfl (lv_at hl 0 rfl) ?_
        refine va_get (D := D) (ci := 6) (v := .int (iI sns)) (C := RX6) (T := TX6) (N := 20) hx hb hU inlX6 hown hK hP 0 rfl rfl 10 (by decide) (hU _ kf_RX6_65) (fun _ h9 => h9) rfl dX6_isSound_6 ?_
        refine zr_icmp_gt (tgt := 63) hx hb dX6_isSound_9 (by decide) (by omega) (by omega) (fun c_1 => ?_) (fun c_1 => ?_)
        · skip
          refine lv_iload_n hx hb dX6_isSound_63 rfl (lv_at hl 1 rfl) ?_
          rw [hQ]
          exact ze_Wz hx hb hr hlk dX6_isSound_64 (by rw [his]; exact zB_01 _) (tb1, gr1) (by rw [his, show q = L.length by omega]) hP hK hD hS
        · skip
          have hdr := dt_rg hv hok (k := q + 1) (by omega) (by omega)
          have hir := zB_rg (sp_sk (sp_uu w L) q)
          rw [← his] at hir
          refine lv_aload_n hx hb dX6_isSound_12 rfl (lv_at hl 0 rfl) ?_
          refine lv_iload_n hx hb dX6_isSound_13 rfl (lv_at hl 2 rfl) ?_
          refine zc_Wv (As := [.int (iI (((q + 1) : Nat) : Int))]) (rest := []) (wr := []) (wc := [(m0, .inr (6, [.ref mw, .int (iI kn), .int (iI kp), .int (iI sd), .ref mks, .ref mbx, .ref mby, .ref mbi, .int (iI bkn), .ref msn, .int (iI sns), .ref miq, .ref mtb, .ref mrt, .ref mgr, .ref mup, .long (lI bel), .long (lI scl), .long (lI tp), .long (lI bt)])), (mw, .inl (cI, 760, .inl (aI w))), (mks, .inl (cI, 2, .inl (aI ks))), (mbx, .inl (cI, 20, .inl (aI bkx))), (mby, .inl (cI, 20, .inl (aI bky))), (mbi, .inl (cI, 20, .inl (aI bki))), (msn, .inl (cI, 4, .inl (aI sn))), (miq, .inl (cI, 4, .inl (aI iq))), (mtb, .inl (cL, 25, .inr (.inl (aL tb1)))), (mrt, .inl (cL, 5, .inr (.inl (aL rt)))), (mgr, .inl (cL, 32, .inr (.inl (aL gr1)))), (mup, .inl (cL, 5, .inr (.inl (aL ups))))]) (c_X6_layTable l D cI cL cG cM m0 mw mks mbx mby mbi msn miq mtb mrt mgr mup w kn kp sd ks bkx bky bki bkn sn sns iq tb1 rt gr1 ups bel scl tp bt (q + 1) L (hv) (hok) (hL) (by omega) _) hx hb hml hown hU hl.1 ct_yX6_layTable cv_yX6_layTable km_RX6_80 hK hNst hP hD hS hA [0, 1, 2, 3, 4, 5, 6, 7, 8, 9, 10, 11] [] rfl rfl (by decide) (by decide) (by decide) 6 0 rfl rfl rfl ⟨rfl, rfl⟩ ⟨Nat.le_of_ble_eq_true rfl, Nat.le_of_ble_eq_true rfl⟩ rfl rfl (Nat.le_of_ble_eq_true rfl) dX6_isSound_14 ⟨Nat.le_of_ble_eq_true rfl, Nat.le_of_ble_eq_true rfl⟩ (fun u H locs htb hP hD hS _ => ?_)
          obtain ⟨tb_3, rfl⟩ : ∃ q, q = u := ⟨_, rfl⟩
          have htb : ∀ i j : Nat, i ≤ (q + 1) → j ≤ (q + 1) → tb_3 (5 * i + j) = sp_tab (sp_uu w L) (q + 1) i j := htb
          have hP : va_P D vwCl [(m0, .inr (6, [.ref mw, .int (iI kn), .int (iI kp), .int (iI sd), .ref mks, .ref mbx, .ref mby, .ref mbi, .int (iI bkn), .ref msn, .int (iI sns), .ref miq, .ref mtb, .ref mrt, .ref mgr, .ref mup, .long (lI bel), .long (lI scl), .long (lI tp), .long (lI bt)])), (mw, .inl (cI, 760, .inl (aI w))), (mks, .inl (cI, 2, .inl (aI ks))), (mbx, .inl (cI, 20, .inl (aI bkx))), (mby, .inl (cI, 20, .inl (aI bky))), (mbi, .inl (cI, 20, .inl (aI bki))), (msn, .inl (cI, 4, .inl (aI sn))), (miq, .inl (cI, 4, .inl (aI iq))), (mtb, .inl (cL, 25, .inr (.inl (aL tb_3)))), (mrt, .inl (cL, 5, .inr (.inl (aL rt)))), (mgr, .inl (cL, 32, .inr (.inl (aL gr1)))), (mup, .inl (cL, 5, .inr (.inl (aL ups))))] H := hP
          have hD : va_D A [(m0, .inr (6, [.ref mw, .int (iI kn), .int (iI kp), .int (iI sd), .ref mks, .ref mbx, .ref mby, .ref mbi, .int (iI bkn), .ref msn, .int (iI sns), .ref miq, .ref mtb, .ref mrt, .ref mgr, .ref mup, .long (lI bel), .long (lI scl), .long (lI tp), .long (lI bt)])), (mw, .inl (cI, 760, .inl (aI w))), (mks, .inl (cI, 2, .inl (aI ks))), (mbx, .inl (cI, 20, .inl (aI bkx))), (mby, .inl (cI, 20, .inl (aI bky))), (mbi, .inl (cI, 20, .inl (aI bki))), (msn, .inl (cI, 4, .inl (aI sn))), (miq, .inl (cI, 4, .inl (aI iq))), (mtb, .inl (cL, 25, .inr (.inl (aL tb_3)))), (mrt, .inl (cL, 5, .inr (.inl (aL rt)))), (mgr, .inl (cL, 32, .inr (.inl (aL gr1)))), (mup, .inl (cL, 5, .inr (.inl (aL ups))))] := hD
          refine lv_aload_n hx hb dX6_isSound_17 rfl (lv_at hl 0 rfl) ?_
          refine lv_iload_n hx hb dX6_isSound_18 rfl (lv_at hl 2 rfl) ?_
          refine lv_iconst (v := iI 1) hx hb dX6_isSound_19 rfl ?_
          refine zr_iadd hx hb dX6_isSound_20 ?_
          refine zr_rw (v := (((q + 1 + 1) : Nat) : Int)) (by omega) ?_
          refine lv_iconst (v := iI (-1)) hx hb dX6_isSound_21 rfl ?_
          refine zc_Wl (As := [.int (iI (((q + 1 + 1) : Nat) : Int)), .int (iI (-1))]) (rest := []) (wr := []) (wc := [(m0, .inr (6, [.ref mw, .int (iI kn), .int (iI kp), .int (iI sd), .ref mks, .ref mbx, .ref mby, .ref mbi, .int (iI bkn), .ref msn, .int (iI sns), .ref miq, .ref mtb, .ref mrt, .ref mgr, .ref mup, .long (lI bel), .long (lI scl), .long (lI tp), .long (lI bt)])), (mw, .inl (cI, 760, .inl (aI w))), (mks, .inl (cI, 2, .inl (aI ks))), (mbx, .inl (cI, 20, .inl (aI bkx))), (mby, .inl (cI, 20, .inl (aI bky))), (mbi, .inl (cI, 20, .inl (aI bki))), (msn, .inl (cI, 4, .inl (aI sn))), (miq, .inl (cI, 4, .inl (aI iq))), (mtb, .inl (cL, 25, .inr (.inl (aL tb_3)))), (mrt, .inl (cL, 5, .inr (.inl (aL rt)))), (mgr, .inl (cL, 32, .inr (.inl (aL gr1)))), (mup, .inl (cL, 5, .inr (.inl (aL ups))))]) (c_X6_determinant l D cI cL cG cM m0 mw mks mbx mby mbi msn miq mtb mrt mgr mup w kn kp sd ks bkx bky bki bkn sn sns iq tb_3 rt gr1 ups bel scl tp bt (q + 1 + 1) (-1) (2 ^ (q + 1 + 1)) (sp_tab (sp_uu w L) (q + 1)) (sp_G (sp_tab (sp_uu w L) (q + 1)) (q + 1 + 1)) (by omega) (rfl) (by omega) (fun i k hi hk => by rw [if_neg (by omega)]; exact htb i k (by omega) (by omega)) (isG_G _ (by omega)) _) hx hb hml hown hU hl.1 ct_yX6_determinant cv_yX6_determinant km_RX6_84 hK hNst hP hD hS hA [0, 1, 2, 3, 4, 5, 6, 7, 8, 9, 10, 11] [] rfl rfl (by decide) (by decide) (by decide) 6 0 rfl rfl rfl ⟨rfl, rfl⟩ ⟨Nat.le_of_ble_eq_true rfl, Nat.le_of_ble_eq_true rfl⟩ rfl rfl (Nat.le_of_ble_eq_true rfl) dX6_isSound_22 ⟨Nat.le_of_ble_eq_true rfl, Nat.le_of_ble_eq_true rfl⟩ (fun zd u H locs hzd hP hD hS _ => ?_)
          obtain ⟨gr_4, rfl⟩ : ∃ q, q = u := ⟨_, rfl⟩
          have hzd : zd = (sp_G (sp_tab (sp_uu w L) (q + 1)) (q + 1 + 1)) ((2 ^ (q + 1 + 1)) - 1) := hzd
          have hP : va_P D vwCl [(m0, .inr (6, [.ref mw, .int (iI kn), .int (iI kp), .int (iI sd), .ref mks, .ref mbx, .ref mby, .ref mbi, .int (iI bkn), .ref msn, .int (iI sns), .ref miq, .ref mtb, .ref mrt, .ref mgr, .ref mup, .long (lI bel), .long (lI scl), .long (lI tp), .long (lI bt)])), (mw, .inl (cI, 760, .inl (aI w))), (mks, .inl (cI, 2, .inl (aI ks))), (mbx, .inl (cI, 20, .inl (aI bkx))), (mby, .inl (cI, 20, .inl (aI bky))), (mbi, .inl (cI, 20, .inl (aI bki))), (msn, .inl (cI, 4, .inl (aI sn))), (miq, .inl (cI, 4, .inl (aI iq))), (mtb, .inl (cL, 25, .inr (.inl (aL tb_3)))), (mrt, .inl (cL, 5, .inr (.inl (aL rt)))), (mgr, .inl (cL, 32, .inr (.inl (aL gr_4)))), (mup, .inl (cL, 5, .inr (.inl (aL ups))))] H := hP
          have hD : va_D A [(m0, .inr (6, [.ref mw, .int (iI kn), .int (iI kp), .int (iI sd), .ref mks, .ref mbx, .ref mby, .ref mbi, .int (iI bkn), .ref msn, .int (iI sns), .ref miq, .ref mtb, .ref mrt, .ref mgr, .ref mup, .long (lI bel), .long (lI scl), .long (lI tp), .long (lI bt)])), (mw, .inl (cI, 760, .inl (aI w))), (mks, .inl (cI, 2, .inl (aI ks))), (mbx, .inl (cI, 20, .inl (aI bkx))), (mby, .inl (cI, 20, .inl (aI bky))), (mbi, .inl (cI, 20, .inl (aI bki))), (msn, .inl (cI, 4, .inl (aI sn))), (miq, .inl (cI, 4, .inl (aI iq))), (mtb, .inl (cL, 25, .inr (.inl (aL tb_3)))), (mrt, .inl (cL, 5, .inr (.inl (aL rt)))), (mgr, .inl (cL, 32, .inr (.inl (aL gr_4)))), (mup, .inl (cL, 5, .inr (.inl (aL ups))))] := hD
          have hzd : zd = sp_dt (sp_tab (sp_uu w L) (q + 1)) (q + 1 + 1) := hzd
          refine lv_lstore_n (lv' := [(3, .long (lI zd)), (0, .ref m0), (1, .int (iI is)), (2, .int (iI (((q + 1) : Nat) : Int)))]) hx hb dX6_isSound_25 rfl hl (by decide) rfl (fun ls hl => ?_)
          refine lv_iload_n hx hb dX6_isSound_26 rfl (lv_at hl 2 rfl) ?_
          refine zr_if_eq (tgt := 55) hx hb dX6_isSound_27 (by decide) (by omega) (fun c27 => ?_) (fun c27 => ?_)
          · skip
            refine lv_iconst (v := iI 0) hx hb dX6_isSound_55 rfl ?_
            refine lv_istore_n (lv' := [(1, .int (iI 0)), (3, .long (lI zd)), (0, .ref m0), (2, .int (iI (((q + 1) : Nat) : Int)))]) hx hb dX6_isSound_56 rfl hl (by decide) rfl (fun ls hl => ?_)
            refine lv_iinc (v := iI ((((q + 1) : Nat) : Int) + 1)) (lv' := [(2, .int (iI ((((q + 1) : Nat) : Int) + 1))), (1, .int (iI 0)), (3, .long (lI zd)), (0, .ref m0)]) hx hb dX6_isSound_57 hl (k := 3) rfl (iI_add _ _) (by decide) rfl (fun ls hl => ?_)
            refine lv_goto (tgt := 4) hx hb dX6_isSound_60 (by decide) ?_
            exact ih4 (q + 1) 0 tb_3 gr_4 (by omega) ((zB_f (fun h => zB_e0 (by rw [← his]; exact c27) h.1)).symm) (by omega) _ _ hP hD hS ls (lv_sub hl [3, 1, 0] rfl)
          · skip
            refine lv_iload_n hx hb dX6_isSound_30 rfl (lv_at hl 3 rfl) ?_
            refine lv_iconst (v := iI 2) hx hb dX6_isSound_31 rfl ?_
            refine zr_irem hx hb dX6_isSound_32 (by omega) (by omega) (by omega) ?_
            refine zr_rw (v := ((((q + 1) % 2) : Nat) : Int)) (tmod_nat _ 2) ?_
            refine zr_if_ne (tgt := 45) hx hb dX6_isSound_33 (by decide) (by omega) (fun c_5 => ?_) (fun c_5 => ?_)
            · skip
              refine lv_lload_n hx hb dX6_isSound_45 rfl (lv_at hl 0 rfl) ?_
              refine lv_lconst (v := lI 0) hx hb dX6_isSound_46 rfl ?_
              refine zr_lcmp_ge (tgt := 55) hx hb dX6_isSound_47 dX6_isSound_48 (by decide) (by omega) (by omega) (fun c_6 => ?_) (fun c_6 => ?_)
              · skip
                refine lv_iconst (v := iI 0) hx hb dX6_isSound_55 rfl ?_
                refine lv_istore_n (lv' := [(1, .int (iI 0)), (3, .long (lI zd)), (0, .ref m0), (2, .int (iI (((q + 1) : Nat) : Int)))]) hx hb dX6_isSound_56 rfl hl (by decide) rfl (fun ls hl => ?_)
                refine lv_iinc (v := iI ((((q + 1) : Nat) : Int) + 1)) (lv' := [(2, .int (iI ((((q + 1) : Nat) : Int) + 1))), (1, .int (iI 0)), (3, .long (lI zd)), (0, .ref m0)]) hx hb dX6_isSound_57 hl (k := 3) rfl (iI_add _ _) (by decide) rfl (fun ls hl => ?_)
                refine lv_goto (tgt := 4) hx hb dX6_isSound_60 (by decide) ?_
                exact ih4 (q + 1) 0 tb_3 gr_4 (by omega) ((zB_f (fun h => by have h2 := h.2; unfold sp_c1 at h2; rw [if_neg (by omega)] at h2; omega)).symm) (by omega) _ _ hP hD hS ls (lv_sub hl [3, 1, 0] rfl)
              · skip
                refine lv_iconst (v := iI 1) hx hb dX6_isSound_51 rfl ?_
                refine lv_goto (tgt := 56) hx hb dX6_isSound_52 (by decide) ?_
                refine lv_istore_n (lv' := [(1, .int (iI 1)), (3, .long (lI zd)), (0, .ref m0), (2, .int (iI (((q + 1) : Nat) : Int)))]) hx hb dX6_isSound_56 rfl hl (by decide) rfl (fun ls hl => ?_)
                refine lv_iinc (v := iI ((((q + 1) : Nat) : Int) + 1)) (lv' := [(2, .int (iI ((((q + 1) : Nat) : Int) + 1))), (1, .int (iI 1)), (3, .long (lI zd)), (0, .ref m0)]) hx hb dX6_isSound_57 hl (k := 3) rfl (iI_add _ _) (by decide) rfl (fun ls hl => ?_)
                refine lv_goto (tgt := 4) hx hb dX6_isSound_60 (by decide) ?_
                exact ih4 (q + 1) 1 tb_3 gr_4 (by omega) ((zB_t ⟨zB_n0 (by rw [← his]; exact c27), by unfold sp_c1; rw [if_neg (by omega)]; omega⟩).symm) (by omega) _ _ hP hD hS ls (lv_sub hl [3, 1, 0] rfl)
            · skip
              refine lv_lload_n hx hb dX6_isSound_36 rfl (lv_at hl 0 rfl) ?_
              refine lv_lconst (v := lI 0) hx hb dX6_isSound_37 rfl ?_
              refine zr_lcmp_le (tgt := 55) hx hb dX6_isSound_38 dX6_isSound_39 (by decide) (by omega) (by omega) (fun c_7 => ?_) (fun c_7 => ?_)
              · skip
                refine lv_iconst (v := iI 0) hx hb dX6_isSound_55 rfl ?_
                refine lv_istore_n (lv' := [(1, .int (iI 0)), (3, .long (lI zd)), (0, .ref m0), (2, .int (iI (((q + 1) : Nat) : Int)))]) hx hb dX6_isSound_56 rfl hl (by decide) rfl (fun ls hl => ?_)
                refine lv_iinc (v := iI ((((q + 1) : Nat) : Int) + 1)) (lv' := [(2, .int (iI ((((q + 1) : Nat) : Int) + 1))), (1, .int (iI 0)), (3, .long (lI zd)), (0, .ref m0)]) hx hb dX6_isSound_57 hl (k := 3) rfl (iI_add _ _) (by decide) rfl (fun ls hl => ?_)
                refine lv_goto (tgt := 4) hx hb dX6_isSound_60 (by decide) ?_
                exact ih4 (q + 1) 0 tb_3 gr_4 (by omega) ((zB_f (fun h => by have h2 := h.2; unfold sp_c1 at h2; rw [if_pos (by omega)] at h2; omega)).symm) (by omega) _ _ hP hD hS ls (lv_sub hl [3, 1, 0] rfl)
              · skip
                refine lv_goto (tgt := 51) hx hb dX6_isSound_42 (by decide) ?_
                refine lv_iconst (v := iI 1) hx hb dX6_isSound_51 rfl ?_
                refine lv_goto (tgt := 56) hx hb dX6_isSound_52 (by decide) ?_
                refine lv_istore_n (lv' := [(1, .int (iI 1)), (3, .long (lI zd)), (0, .ref m0), (2, .int (iI (((q + 1) : Nat) : Int)))]) hx hb dX6_isSound_56 rfl hl (by decide) rfl (fun ls hl => ?_)
                refine lv_iinc (v := iI ((((q + 1) : Nat) : Int) + 1)) (lv' := [(2, .int (iI ((((q + 1) : Nat) : Int) + 1))), (1, .int (iI 1)), (3, .long (lI zd)), (0, .ref m0)]) hx hb dX6_isSound_57 hl (k := 3) rfl (iI_add _ _) (by decide) rfl (fun ls hl => ?_)
                refine lv_goto (tgt := 4) hx hb dX6_isSound_60 (by decide) ?_
                exact ih4 (q + 1) 1 tb_3 gr_4 (by omega) ((zB_t ⟨zB_n0 (by rw [← his]; exact c27), by unfold sp_c1; rw [if_pos (by omega)]; omega⟩).symm) (by omega) _ _ hP hD hS ls (lv_sub hl [3, 1, 0] rfl)
    exact LP4 (L.length + 1) 0 1 tb gr (by omega) ((zB_t trivial).symm) (by omega) _ _ hP hD hS ls (lv_sub hl [2, 1, 0] rfl)
  rw [hlocs]
  exact hW0 s.heap [] hP hD hS

set_option maxHeartbeats 4000000 in
set_option maxRecDepth 100000 in
theorem c_X6_guessAt (l : Launch) (D : va_G) (cI cL cG cM : ClassId) (m0 mw mks mbx mby mbi msn miq mtb mrt mgr mup : Nat) (w : Nat → Int) (kn : Int) (kp : Int) (sd : Int) (ks : Nat → Int) (bkx : Nat → Int) (bky : Nat → Int) (bki : Nat → Int) (bkn : Int) (sn : Nat → Int) (sns : Int) (iq : Nat → Int) (tb : Nat → Int) (rt : Nat → Int) (gr : Nat → Int) (ups : Nat → Int) (bel : Int) (scl : Int) (tp : Int) (bt : Int) (x : Int) (y : Int) (wo : Int) (hv : vR w) (h1 : 0 ≤ x ∧ x ≤ 31) (h2 : 0 ≤ y ∧ y ≤ 31) (h3 : -1 ≤ wo ∧ wo ≤ 10) (sz : Nat) : Met l yX6_guessAt (wU yX6_guessAt cX6_guessAt 5 (some .boolean)) (rmF 4 95) (pcW D (tyA cI cL cG cM) [(m0, .inr (6, [.ref mw, .int (iI kn), .int (iI kp), .int (iI sd), .ref mks, .ref mbx, .ref mby, .ref mbi, .int (iI bkn), .ref msn, .int (iI sns), .ref miq, .ref mtb, .ref mrt, .ref mgr, .ref mup, .long (lI bel), .long (lI scl), .long (lI tp), .long (lI bt)])), (mw, .inl (cI, 760, .inl (aI w))), (mks, .inl (cI, 2, .inl (aI ks))), (mbx, .inl (cI, 20, .inl (aI bkx))), (mby, .inl (cI, 20, .inl (aI bky))), (mbi, .inl (cI, 20, .inl (aI bki))), (msn, .inl (cI, 4, .inl (aI sn))), (miq, .inl (cI, 4, .inl (aI iq))), (mtb, .inl (cL, 25, .inr (.inl (aL tb)))), (mrt, .inl (cL, 5, .inr (.inl (aL rt)))), (mgr, .inl (cL, 32, .inr (.inl (aL gr)))), (mup, .inl (cL, 5, .inr (.inl (aL ups))))] [.ref m0, .int (iI x), .int (iI y), .int (iI wo)] sz) (qWi (S := (Nat → Int) × Int × (Nat → Int) × (Nat → Int) × Int × (Nat → Int) × (Nat → Int) × Int × (Nat → Int)) D (tyA cI cL cG cM) (va_A [(m0, .inr (6, [.ref mw, .int (iI kn), .int (iI kp), .int (iI sd), .ref mks, .ref mbx, .ref mby, .ref mbi, .int (iI bkn), .ref msn, .int (iI sns), .ref miq, .ref mtb, .ref mrt, .ref mgr, .ref mup, .long (lI bel), .long (lI scl), .long (lI tp), .long (lI bt)])), (mw, .inl (cI, 760, .inl (aI w))), (mks, .inl (cI, 2, .inl (aI ks))), (mbx, .inl (cI, 20, .inl (aI bkx))), (mby, .inl (cI, 20, .inl (aI bky))), (mbi, .inl (cI, 20, .inl (aI bki))), (msn, .inl (cI, 4, .inl (aI sn))), (miq, .inl (cI, 4, .inl (aI iq))), (mtb, .inl (cL, 25, .inr (.inl (aL tb)))), (mrt, .inl (cL, 5, .inr (.inl (aL rt)))), (mgr, .inl (cL, 32, .inr (.inl (aL gr)))), (mup, .inl (cL, 5, .inr (.inl (aL ups))))] sz) (fun (z : Int) (u : (Nat → Int) × Int × (Nat → Int) × (Nat → Int) × Int × (Nat → Int) × (Nat → Int) × Int × (Nat → Int)) => isL (sp_lk w x y wo) u.1 u.2.1 ∧ z = zB (gEx w (sp_lk w x y wo)) ∧ (gEx w (sp_lk w x y wo) → gOK w (sp_lk w x y wo) (sp_v1 w (sp_lk w x y wo) x y) 1 u.2.2.2.1 u.2.2.2.2.2.2.2.2 u.2.2.2.2.2.2.2.1 u.2.2.2.2.1)) (fun (u : (Nat → Int) × Int × (Nat → Int) × (Nat → Int) × Int × (Nat → Int) × (Nat → Int) × Int × (Nat → Int)) => [(m0, .inr (6, [.ref mw, .int (iI kn), .int (iI kp), .int (iI sd), .ref mks, .ref mbx, .ref mby, .ref mbi, .int (iI bkn), .ref msn, .int (iI u.2.1), .ref miq, .ref mtb, .ref mrt, .ref mgr, .ref mup, .long (lI u.2.2.2.2.2.2.2.1), .long (lI u.2.2.2.2.1), .long (lI tp), .long (lI bt)])), (mw, .inl (cI, 760, .inl (aI w))), (mks, .inl (cI, 2, .inl (aI ks))), (mbx, .inl (cI, 20, .inl (aI bkx))), (mby, .inl (cI, 20, .inl (aI bky))), (mbi, .inl (cI, 20, .inl (aI bki))), (msn, .inl (cI, 4, .inl (aI u.1))), (miq, .inl (cI, 4, .inl (aI u.2.2.1))), (mtb, .inl (cL, 25, .inr (.inl (aL u.2.2.2.2.2.1)))), (mrt, .inl (cL, 5, .inr (.inl (aL u.2.2.2.1)))), (mgr, .inl (cL, 32, .inr (.inl (aL u.2.2.2.2.2.2.1)))), (mup, .inl (cL, 5, .inr (.inl (aL u.2.2.2.2.2.2.2.2))))])) 0 0 (va_A [(m0, .inr (6, [.ref mw, .int (iI kn), .int (iI kp), .int (iI sd), .ref mks, .ref mbx, .ref mby, .ref mbi, .int (iI bkn), .ref msn, .int (iI sns), .ref miq, .ref mtb, .ref mrt, .ref mgr, .ref mup, .long (lI bel), .long (lI scl), .long (lI tp), .long (lI bt)])), (mw, .inl (cI, 760, .inl (aI w))), (mks, .inl (cI, 2, .inl (aI ks))), (mbx, .inl (cI, 20, .inl (aI bkx))), (mby, .inl (cI, 20, .inl (aI bky))), (mbi, .inl (cI, 20, .inl (aI bki))), (msn, .inl (cI, 4, .inl (aI sn))), (miq, .inl (cI, 4, .inl (aI iq))), (mtb, .inl (cL, 25, .inr (.inl (aL tb)))), (mrt, .inl (cL, 5, .inr (.inl (aL rt)))), (mgr, .inl (cL, 32, .inr (.inl (aL gr)))), (mup, .inl (cL, 5, .inr (.inl (aL ups))))] sz) := by
  refine zm_W (own := RX6) (lv := [(0, .ref m0), (1, .int (iI x)), (2, .int (iI y)), (3, .int (iI wo))]) (QF := fun A => qWi (S := (Nat → Int) × Int × (Nat → Int) × (Nat → Int) × Int × (Nat → Int) × (Nat → Int) × Int × (Nat → Int)) D (tyA cI cL cG cM) A (fun (z : Int) (u : (Nat → Int) × Int × (Nat → Int) × (Nat → Int) × Int × (Nat → Int) × (Nat → Int) × Int × (Nat → Int)) => isL (sp_lk w x y wo) u.1 u.2.1 ∧ z = zB (gEx w (sp_lk w x y wo)) ∧ (gEx w (sp_lk w x y wo) → gOK w (sp_lk w x y wo) (sp_v1 w (sp_lk w x y wo) x y) 1 u.2.2.2.1 u.2.2.2.2.2.2.2.2 u.2.2.2.2.2.2.2.1 u.2.2.2.2.1)) (fun (u : (Nat → Int) × Int × (Nat → Int) × (Nat → Int) × Int × (Nat → Int) × (Nat → Int) × Int × (Nat → Int)) => [(m0, .inr (6, [.ref mw, .int (iI kn), .int (iI kp), .int (iI sd), .ref mks, .ref mbx, .ref mby, .ref mbi, .int (iI bkn), .ref msn, .int (iI u.2.1), .ref miq, .ref mtb, .ref mrt, .ref mgr, .ref mup, .long (lI u.2.2.2.2.2.2.2.1), .long (lI u.2.2.2.2.1), .long (lI tp), .long (lI bt)])), (mw, .inl (cI, 760, .inl (aI w))), (mks, .inl (cI, 2, .inl (aI ks))), (mbx, .inl (cI, 20, .inl (aI bkx))), (mby, .inl (cI, 20, .inl (aI bky))), (mbi, .inl (cI, 20, .inl (aI bki))), (msn, .inl (cI, 4, .inl (aI u.1))), (miq, .inl (cI, 4, .inl (aI u.2.2.1))), (mtb, .inl (cL, 25, .inr (.inl (aL u.2.2.2.2.2.1)))), (mrt, .inl (cL, 5, .inr (.inl (aL u.2.2.2.1)))), (mgr, .inl (cL, 32, .inr (.inl (aL u.2.2.2.2.2.2.1)))), (mup, .inl (cL, 5, .inr (.inl (aL u.2.2.2.2.2.2.2.2))))])) (by decide) rfl (Nat.le_of_ble_eq_true rfl) rfl ?_
  intro p e s m below meth c A args Q hx hb hr hml hown hU hlk hnm hP hK hNst hD hA hS hsz hQ ls hl
  obtain ⟨H, hH⟩ : ∃ H, H = s.heap := ⟨_, rfl⟩
  obtain ⟨locs, hlocs⟩ : ∃ locs : List Loc, locs = [] := ⟨_, rfl⟩
  rw [← hlocs]
  have hW0 : ∀ (H : Heap) (locs : List Loc), va_P D vwCl [(m0, .inr (6, [.ref mw, .int (iI kn), .int (iI kp), .int (iI sd), .ref mks, .ref mbx, .ref mby, .ref mbi, .int (iI bkn), .ref msn, .int (iI sns), .ref miq, .ref mtb, .ref mrt, .ref mgr, .ref mup, .long (lI bel), .long (lI scl), .long (lI tp), .long (lI bt)])), (mw, .inl (cI, 760, .inl (aI w))), (mks, .inl (cI, 2, .inl (aI ks))), (mbx, .inl (cI, 20, .inl (aI bkx))), (mby, .inl (cI, 20, .inl (aI bky))), (mbi, .inl (cI, 20, .inl (aI bki))), (msn, .inl (cI, 4, .inl (aI sn))), (miq, .inl (cI, 4, .inl (aI iq))), (mtb, .inl (cL, 25, .inr (.inl (aL tb)))), (mrt, .inl (cL, 5, .inr (.inl (aL rt)))), (mgr, .inl (cL, 32, .inr (.inl (aL gr)))), (mup, .inl (cL, 5, .inr (.inl (aL ups))))] H → va_D A [(m0, .inr (6, [.ref mw, .int (iI kn), .int (iI kp), .int (iI sd), .ref mks, .ref mbx, .ref mby, .ref mbi, .int (iI bkn), .ref msn, .int (iI sns), .ref miq, .ref mtb, .ref mrt, .ref mgr, .ref mup, .long (lI bel), .long (lI scl), .long (lI tp), .long (lI bt)])), (mw, .inl (cI, 760, .inl (aI w))), (mks, .inl (cI, 2, .inl (aI ks))), (mbx, .inl (cI, 20, .inl (aI bkx))), (mby, .inl (cI, 20, .inl (aI bky))), (mbi, .inl (cI, 20, .inl (aI bki))), (msn, .inl (cI, 4, .inl (aI sn))), (miq, .inl (cI, 4, .inl (aI iq))), (mtb, .inl (cL, 25, .inr (.inl (aL tb)))), (mrt, .inl (cL, 5, .inr (.inl (aL rt)))), (mgr, .inl (cL, 32, .inr (.inl (aL gr)))), (mup, .inl (cL, 5, .inr (.inl (aL ups))))] → va_S A s.heap H locs → W p l e (rmF 4 95) s m args below meth c H locs 0 0 Q (F0 m 0 ls []) := by
    clear hP hD hS hH hlocs H locs
    intro H locs hP hD hS
    have h0 := hv.1
    have h7 := hv.2.2.2.2.2.2.2.1
    have h8 := hv.2.2.2.2.2.2.2.2.1
    have h9 := hv.2.2.2.2.2.2.2.2.2.1
    have hok := okL_lk hv x y wo
    have h4 := okL_le hv hok
    refine lv_aload_n hx hb dX6_guessAt_0 rfl (lv_at hl 0 rfl) ?_
    refine lv_iload_n hx hb dX6_guessAt_1 rfl (lv_at hl 1 rfl) ?_
    refine lv_iload_n hx hb dX6_guessAt_2 rfl (lv_at hl 2 rfl) ?_
    refine lv_iload_n hx hb dX6_guessAt_3 rfl (lv_at hl 3 rfl) ?_
    refine zc_Wv (As := [.int (iI x), .int (iI y), .int (iI wo)]) (rest := []) (wr := []) (wc := [(m0, .inr (6, [.ref mw, .int (iI kn), .int (iI kp), .int (iI sd), .ref mks, .ref mbx, .ref mby, .ref mbi, .int (iI bkn), .ref msn, .int (iI sns), .ref miq, .ref mtb, .ref mrt, .ref mgr, .ref mup, .long (lI bel), .long (lI scl), .long (lI tp), .long (lI bt)])), (mw, .inl (cI, 760, .inl (aI w))), (mks, .inl (cI, 2, .inl (aI ks))), (mbx, .inl (cI, 20, .inl (aI bkx))), (mby, .inl (cI, 20, .inl (aI bky))), (mbi, .inl (cI, 20, .inl (aI bki))), (msn, .inl (cI, 4, .inl (aI sn))), (miq, .inl (cI, 4, .inl (aI iq))), (mtb, .inl (cL, 25, .inr (.inl (aL tb)))), (mrt, .inl (cL, 5, .inr (.inl (aL rt)))), (mgr, .inl (cL, 32, .inr (.inl (aL gr)))), (mup, .inl (cL, 5, .inr (.inl (aL ups))))]) (c_X6_layLooked l D cI cL cG cM m0 mw mks mbx mby mbi msn miq mtb mrt mgr mup w kn kp sd ks bkx bky bki bkn sn sns iq tb rt gr ups bel scl tp bt x y wo (hv) (by omega) (by omega) (by omega) _) hx hb hml hown hU hl.1 ct_yX6_layLooked cv_yX6_layLooked km_RX6_92 hK hNst hP hD hS hA [0, 1, 2, 3, 4, 5, 6, 7, 8, 9, 10, 11] [] rfl rfl (by decide) (by decide) (by decide) 6 0 rfl rfl rfl ⟨rfl, rfl⟩ ⟨Nat.le_of_ble_eq_true rfl, Nat.le_of_ble_eq_true rfl⟩ rfl rfl (Nat.le_of_ble_eq_true rfl) dX6_guessAt_4 ⟨Nat.le_of_ble_eq_true rfl, Nat.le_of_ble_eq_true rfl⟩ (fun u H locs hL hP hD hS _ => ?_)
    obtain ⟨sn1, sns1, iq_2⟩ := u
    have hL : isL (sp_lk w x y wo) sn1 sns1 := hL
    have hP : va_P D vwCl [(m0, .inr (6, [.ref mw, .int (iI kn), .int (iI kp), .int (iI sd), .ref mks, .ref mbx, .ref mby, .ref mbi, .int (iI bkn), .ref msn, .int (iI sns1), .ref miq, .ref mtb, .ref mrt, .ref mgr, .ref mup, .long (lI bel), .long (lI scl), .long (lI tp), .long (lI bt)])), (mw, .inl (cI, 760, .inl (aI w))), (mks, .inl (cI, 2, .inl (aI ks))), (mbx, .inl (cI, 20, .inl (aI bkx))), (mby, .inl (cI, 20, .inl (aI bky))), (mbi, .inl (cI, 20, .inl (aI bki))), (msn, .inl (cI, 4, .inl (aI sn1))), (miq, .inl (cI, 4, .inl (aI iq_2))), (mtb, .inl (cL, 25, .inr (.inl (aL tb)))), (mrt, .inl (cL, 5, .inr (.inl (aL rt)))), (mgr, .inl (cL, 32, .inr (.inl (aL gr)))), (mup, .inl (cL, 5, .inr (.inl (aL ups))))] H := hP
    have hD : va_D A [(m0, .inr (6, [.ref mw, .int (iI kn), .int (iI kp), .int (iI sd), .ref mks, .ref mbx, .ref mby, .ref mbi, .int (iI bkn), .ref msn, .int (iI sns1), .ref miq, .ref mtb, .ref mrt, .ref mgr, .ref mup, .long (lI bel), .long (lI scl), .long (lI tp), .long (lI bt)])), (mw, .inl (cI, 760, .inl (aI w))), (mks, .inl (cI, 2, .inl (aI ks))), (mbx, .inl (cI, 20, .inl (aI bkx))), (mby, .inl (cI, 20, .inl (aI bky))), (mbi, .inl (cI, 20, .inl (aI bki))), (msn, .inl (cI, 4, .inl (aI sn1))), (miq, .inl (cI, 4, .inl (aI iq_2))), (mtb, .inl (cL, 25, .inr (.inl (aL tb)))), (mrt, .inl (cL, 5, .inr (.inl (aL rt)))), (mgr, .inl (cL, 32, .inr (.inl (aL gr)))), (mup, .inl (cL, 5, .inr (.inl (aL ups))))] := hD
    generalize sp_lk w x y wo = L at hL hok h4 hQ
    have hl1 := hL.1
    refine lv_iconst (v := iI 0) hx hb dX6_guessAt_7 rfl ?_
    refine lv_istore (lv' := [(4, .int (iI 0)), (0, .ref m0), (1, .int (iI x)), (2, .int (iI y)), (3, .int (iI wo))]) hx hb dX6_guessAt_8 hl (by decide) rfl (fun ls hl => ?_)
    have LP10 : ∀ (n : Nat), ∀ (i : Nat) (rt1 : Nat → Int), (i ≤ L.length) → (∀ j : Nat, j < i → rt1 j = sp_v1 w L x y j) → (L.length < i + n) → ∀ (H : Heap) (locs : List Loc), va_P D vwCl [(m0, .inr (6, [.ref mw, .int (iI kn), .int (iI kp), .int (iI sd), .ref mks, .ref mbx, .ref mby, .ref mbi, .int (iI bkn), .ref msn, .int (iI sns1), .ref miq, .ref mtb, .ref mrt, .ref mgr, .ref mup, .long (lI bel), .long (lI scl), .long (lI tp), .long (lI bt)])), (mw, .inl (cI, 760, .inl (aI w))), (mks, .inl (cI, 2, .inl (aI ks))), (mbx, .inl (cI, 20, .inl (aI bkx))), (mby, .inl (cI, 20, .inl (aI bky))), (mbi, .inl (cI, 20, .inl (aI bki))), (msn, .inl (cI, 4, .inl (aI sn1))), (miq, .inl (cI, 4, .inl (aI iq_2))), (mtb, .inl (cL, 25, .inr (.inl (aL tb)))), (mrt, .inl (cL, 5, .inr (.inl (aL rt1)))), (mgr, .inl (cL, 32, .inr (.inl (aL gr)))), (mup, .inl (cL, 5, .inr (.inl (aL ups))))] H → va_D A [(m0, .inr (6, [.ref mw, .int (iI kn), .int (iI kp), .int (iI sd), .ref mks, .ref mbx, .ref mby, .ref mbi, .int (iI bkn), .ref msn, .int (iI sns1), .ref miq, .ref mtb, .ref mrt, .ref mgr, .ref mup, .long (lI bel), .long (lI scl), .long (lI tp), .long (lI bt)])), (mw, .inl (cI, 760, .inl (aI w))), (mks, .inl (cI, 2, .inl (aI ks))), (mbx, .inl (cI, 20, .inl (aI bkx))), (mby, .inl (cI, 20, .inl (aI bky))), (mbi, .inl (cI, 20, .inl (aI bki))), (msn, .inl (cI, 4, .inl (aI sn1))), (miq, .inl (cI, 4, .inl (aI iq_2))), (mtb, .inl (cL, 25, .inr (.inl (aL tb)))), (mrt, .inl (cL, 5, .inr (.inl (aL rt1)))), (mgr, .inl (cL, 32, .inr (.inl (aL gr)))), (mup, .inl (cL, 5, .inr (.inl (aL ups))))] → va_S A s.heap H locs → ∀ (ls : Array Slot), lv_has ls 5 [(0, .ref m0), (1, .int (iI x)), (2, .int (iI y)), (3, .int (iI wo)), (4, .int (iI (i : Int)))] → W p l e (rmF 4 95) s m args below meth c H locs 0 0 Q (F0 m 10 ls []) := by
      intro n
      induction n with
      | zero =>
        intro i rt1 hi hinv hfu
        exfalso
        omega
      | succ n ih10 =>
        intro i rt1 hi hinv hfu H locs hP hD hS ls hl
        refine lv_iload hx hb dX6_guessAt_10 (lv_at hl 4 rfl) ?_
        refine lv_aload_n hx hb dX6_guessAt_12 rfl (lv_at hl 0 rfl) ?_
        refine va_get (D := D) (ci := 6) (v := .int (iI sns1)) (C := RX6) (T := TX6) (N := 20) hx hb hU inlX6 hown hK hP 0 rfl rfl 10 (by decide) (hU _ kf_RX6_65) (fun _ h9 => h9) rfl dX6_guessAt_13 ?_
        refine zr_icmp_ge (tgt := 46) hx hb dX6_guessAt_16 (by decide) (by omega) (by omega) (fun c_3 => ?_) (fun c_3 => ?_)
        · skip
          refine lv_aload_n hx hb dX6_guessAt_46 rfl (lv_at hl 0 rfl) ?_
          refine va_get (D := D) (ci := 6) (v := .ref mrt) (C := RX6) (T := TX6) (N := 20) hx hb hU inlX6 hown hK hP 0 rfl rfl 13 (by decide) (hU _ kf_RX6_35) (fun _ h9 => h9) rfl dX6_guessAt_47 ?_
          refine lv_aload_n hx hb dX6_guessAt_50 rfl (lv_at hl 0 rfl) ?_
          refine va_get (D := D) (ci := 6) (v := .int (iI sns1)) (C := RX6) (T := TX6) (N := 20) hx hb hU inlX6 hown hK hP 0 rfl rfl 10 (by decide) (hU _ kf_RX6_65) (fun _ h9 => h9) rfl dX6_guessAt_51 ?_
          refine lv_lconst (v := lI 1) hx hb dX6_guessAt_54 rfl ?_
          refine zr_last hx hb hK hP hD hS 9 1 rfl rfl L.length (by omega) (by omega) (Nat.le_of_ble_eq_true rfl) dX6_guessAt_55 (fun H locs hP hD hS => ?_)
          have hP : va_P D vwCl [(m0, .inr (6, [.ref mw, .int (iI kn), .int (iI kp), .int (iI sd), .ref mks, .ref mbx, .ref mby, .ref mbi, .int (iI bkn), .ref msn, .int (iI sns1), .ref miq, .ref mtb, .ref mrt, .ref mgr, .ref mup, .long (lI bel), .long (lI scl), .long (lI tp), .long (lI bt)])), (mw, .inl (cI, 760, .inl (aI w))), (mks, .inl (cI, 2, .inl (aI ks))), (mbx, .inl (cI, 20, .inl (aI bkx))), (mby, .inl (cI, 20, .inl (aI bky))), (mbi, .inl (cI, 20, .inl (aI bki))), (msn, .inl (cI, 4, .inl (aI sn1))), (miq, .inl (cI, 4, .inl (aI iq_2))), (mtb, .inl (cL, 25, .inr (.inl (aL tb)))), (mrt, .inl (cL, 5, .inr (.inl (aL (va_up rt1 L.length 1))))), (mgr, .inl (cL, 32, .inr (.inl (aL gr)))), (mup, .inl (cL, 5, .inr (.inl (aL ups))))] H := hP
          have hD : va_D A [(m0, .inr (6, [.ref mw, .int (iI kn), .int (iI kp), .int (iI sd), .ref mks, .ref mbx, .ref mby, .ref mbi, .int (iI bkn), .ref msn, .int (iI sns1), .ref miq, .ref mtb, .ref mrt, .ref mgr, .ref mup, .long (lI bel), .long (lI scl), .long (lI tp), .long (lI bt)])), (mw, .inl (cI, 760, .inl (aI w))), (mks, .inl (cI, 2, .inl (aI ks))), (mbx, .inl (cI, 20, .inl (aI bkx))), (mby, .inl (cI, 20, .inl (aI bky))), (mbi, .inl (cI, 20, .inl (aI bki))), (msn, .inl (cI, 4, .inl (aI sn1))), (miq, .inl (cI, 4, .inl (aI iq_2))), (mtb, .inl (cL, 25, .inr (.inl (aL tb)))), (mrt, .inl (cL, 5, .inr (.inl (aL (va_up rt1 L.length 1))))), (mgr, .inl (cL, 32, .inr (.inl (aL gr)))), (mup, .inl (cL, 5, .inr (.inl (aL ups))))] := hD
          refine lv_aload_n hx hb dX6_guessAt_56 rfl (lv_at hl 0 rfl) ?_
          refine lv_lconst (v := lI 1) hx hb dX6_guessAt_57 rfl ?_
          refine va_put (D := D) (ci := 6) (v := .long (lI 1)) (ty := .long) (C := RX6) (T := TX6) (N := 20) hx hb hU inlX6 tyX6 tyX6_ok nmX6 hown hK hP hD hS 0 rfl rfl 17 (by decide) (hU _ kf_RX6_95) (fun _ h9 => h9) rfl (by decide +kernel) rfl rfl (Nat.le_of_ble_eq_true rfl) dX6_guessAt_58 (fun H locs hP hD hS => ?_)
          have hP : va_P D vwCl [(m0, .inr (6, [.ref mw, .int (iI kn), .int (iI kp), .int (iI sd), .ref mks, .ref mbx, .ref mby, .ref mbi, .int (iI bkn), .ref msn, .int (iI sns1), .ref miq, .ref mtb, .ref mrt, .ref mgr, .ref mup, .long (lI bel), .long (lI 1), .long (lI tp), .long (lI bt)])), (mw, .inl (cI, 760, .inl (aI w))), (mks, .inl (cI, 2, .inl (aI ks))), (mbx, .inl (cI, 20, .inl (aI bkx))), (mby, .inl (cI, 20, .inl (aI bky))), (mbi, .inl (cI, 20, .inl (aI bki))), (msn, .inl (cI, 4, .inl (aI sn1))), (miq, .inl (cI, 4, .inl (aI iq_2))), (mtb, .inl (cL, 25, .inr (.inl (aL tb)))), (mrt, .inl (cL, 5, .inr (.inl (aL (va_up rt1 L.length 1))))), (mgr, .inl (cL, 32, .inr (.inl (aL gr)))), (mup, .inl (cL, 5, .inr (.inl (aL ups))))] H := hP
          have hD : va_D A [(m0, .inr (6, [.ref mw, .int (iI kn), .int (iI kp), .int (iI sd), .ref mks, .ref mbx, .ref mby, .ref mbi, .int (iI bkn), .ref msn, .int (iI sns1), .ref miq, .ref mtb, .ref mrt, .ref mgr, .ref mup, .long (lI bel), .long (lI 1), .long (lI tp), .long (lI bt)])), (mw, .inl (cI, 760, .inl (aI w))), (mks, .inl (cI, 2, .inl (aI ks))), (mbx, .inl (cI, 20, .inl (aI bkx))), (mby, .inl (cI, 20, .inl (aI bky))), (mbi, .inl (cI, 20, .inl (aI bki))), (msn, .inl (cI, 4, .inl (aI sn1))), (miq, .inl (cI, 4, .inl (aI iq_2))), (mtb, .inl (cL, 25, .inr (.inl (aL tb)))), (mrt, .inl (cL, 5, .inr (.inl (aL (va_up rt1 L.length 1))))), (mgr, .inl (cL, 32, .inr (.inl (aL gr)))), (mup, .inl (cL, 5, .inr (.inl (aL ups))))] := hD
          refine lv_aload_n hx hb dX6_guessAt_61 rfl (lv_at hl 0 rfl) ?_
          refine zc_Wi (As := []) (rest := []) (wr := []) (wc := [(m0, .inr (6, [.ref mw, .int (iI kn), .int (iI kp), .int (iI sd), .ref mks, .ref mbx, .ref mby, .ref mbi, .int (iI bkn), .ref msn, .int (iI sns1), .ref miq, .ref mtb, .ref mrt, .ref mgr, .ref mup, .long (lI bel), .long (lI 1), .long (lI tp), .long (lI bt)])), (mw, .inl (cI, 760, .inl (aI w))), (mks, .inl (cI, 2, .inl (aI ks))), (mbx, .inl (cI, 20, .inl (aI bkx))), (mby, .inl (cI, 20, .inl (aI bky))), (mbi, .inl (cI, 20, .inl (aI bki))), (msn, .inl (cI, 4, .inl (aI sn1))), (miq, .inl (cI, 4, .inl (aI iq_2))), (mtb, .inl (cL, 25, .inr (.inl (aL tb)))), (mrt, .inl (cL, 5, .inr (.inl (aL (va_up rt1 L.length 1))))), (mgr, .inl (cL, 32, .inr (.inl (aL gr)))), (mup, .inl (cL, 5, .inr (.inl (aL ups))))]) (c_X6_solved l D cI cL cG cM m0 mw mks mbx mby mbi msn miq mtb mrt mgr mup w kn kp sd ks bkx bky bki bkn sn1 sns1 iq_2 tb (va_up rt1 L.length 1) gr ups bel 1 tp bt L (hv) (hok) (hL) _) hx hb hml hown hU hl.1 ct_yX6_solved cv_yX6_solved km_RX6_98 hK hNst hP hD hS hA [0, 1, 2, 3, 4, 5, 6, 7, 8, 9, 10, 11] [] rfl rfl (by decide) (by decide) (by decide) 6 0 rfl rfl rfl ⟨rfl, rfl⟩ ⟨Nat.le_of_ble_eq_true rfl, Nat.le_of_ble_eq_true rfl⟩ rfl rfl (Nat.le_of_ble_eq_true rfl) dX6_guessAt_62 ⟨Nat.le_of_ble_eq_true rfl, Nat.le_of_ble_eq_true rfl⟩ (fun z_4 u H locs hsl hP hD hS _ => ?_)
          obtain ⟨tb_5, gr_6, bel_7, ups_8⟩ := u
          have hsl : z_4 = zB (1 ≤ L.length ∧ sp_dt (sp_tab (sp_uu w L) L.length) (L.length + 1) ≠ 0) ∧ (1 ≤ L.length → bel_7 = sp_dt (sp_tab (sp_uu w L) L.length) (L.length + 1)) ∧ (1 ≤ L.length → sp_dt (sp_tab (sp_uu w L) L.length) (L.length + 1) ≠ 0 → ∀ j : Nat, j ≤ L.length → ups_8 j = sp_dt (sp_rep (sp_tab (sp_uu w L) L.length) (va_up rt1 L.length 1) j) (L.length + 1)) := hsl
          have hP : va_P D vwCl [(m0, .inr (6, [.ref mw, .int (iI kn), .int (iI kp), .int (iI sd), .ref mks, .ref mbx, .ref mby, .ref mbi, .int (iI bkn), .ref msn, .int (iI sns1), .ref miq, .ref mtb, .ref mrt, .ref mgr, .ref mup, .long (lI bel_7), .long (lI 1), .long (lI tp), .long (lI bt)])), (mw, .inl (cI, 760, .inl (aI w))), (mks, .inl (cI, 2, .inl (aI ks))), (mbx, .inl (cI, 20, .inl (aI bkx))), (mby, .inl (cI, 20, .inl (aI bky))), (mbi, .inl (cI, 20, .inl (aI bki))), (msn, .inl (cI, 4, .inl (aI sn1))), (miq, .inl (cI, 4, .inl (aI iq_2))), (mtb, .inl (cL, 25, .inr (.inl (aL tb_5)))), (mrt, .inl (cL, 5, .inr (.inl (aL (va_up rt1 L.length 1))))), (mgr, .inl (cL, 32, .inr (.inl (aL gr_6)))), (mup, .inl (cL, 5, .inr (.inl (aL ups_8))))] H := hP
          have hD : va_D A [(m0, .inr (6, [.ref mw, .int (iI kn), .int (iI kp), .int (iI sd), .ref mks, .ref mbx, .ref mby, .ref mbi, .int (iI bkn), .ref msn, .int (iI sns1), .ref miq, .ref mtb, .ref mrt, .ref mgr, .ref mup, .long (lI bel_7), .long (lI 1), .long (lI tp), .long (lI bt)])), (mw, .inl (cI, 760, .inl (aI w))), (mks, .inl (cI, 2, .inl (aI ks))), (mbx, .inl (cI, 20, .inl (aI bkx))), (mby, .inl (cI, 20, .inl (aI bky))), (mbi, .inl (cI, 20, .inl (aI bki))), (msn, .inl (cI, 4, .inl (aI sn1))), (miq, .inl (cI, 4, .inl (aI iq_2))), (mtb, .inl (cL, 25, .inr (.inl (aL tb_5)))), (mrt, .inl (cL, 5, .inr (.inl (aL (va_up rt1 L.length 1))))), (mgr, .inl (cL, 32, .inr (.inl (aL gr_6)))), (mup, .inl (cL, 5, .inr (.inl (aL ups_8))))] := hD
          rw [hQ]
          exact ze_Wz hx hb hr hlk dX6_guessAt_65 (by rw [hsl.1]; exact zB_01 _) (sn1, sns1, iq_2, (va_up rt1 L.length 1), 1, tb_5, gr_6, bel_7, ups_8) (⟨hL, g_fin hv hok (fun j hj => (va_up_ne rt1 1 (show j ≠ L.length by omega)).trans (hinv j (by omega))) (va_up_self _ _ _) hsl.1 hsl.2.1 hsl.2.2⟩) hP hK hD hS
        · skip
          have g1 := okL_get hok (j := i) (by omega)
          have hur := sp_ut_rg hv g1 (x := x) (y := y) (by omega) (by omega)
          refine lv_aload_n hx hb dX6_guessAt_19 rfl (lv_at hl 0 rfl) ?_
          refine va_get (D := D) (ci := 6) (v := .ref mrt) (C := RX6) (T := TX6) (N := 20) hx hb hU inlX6 hown hK hP 0 rfl rfl 13 (by decide) (hU _ kf_RX6_35) (fun _ h9 => h9) rfl dX6_guessAt_20 ?_
          refine lv_iload hx hb dX6_guessAt_23 (lv_at hl 4 rfl) ?_
          refine lv_aload_n hx hb dX6_guessAt_25 rfl (lv_at hl 0 rfl) ?_
          refine lv_aload_n hx hb dX6_guessAt_26 rfl (lv_at hl 0 rfl) ?_
          refine va_get (D := D) (ci := 6) (v := .ref msn) (C := RX6) (T := TX6) (N := 20) hx hb hU inlX6 hown hK hP 0 rfl rfl 9 (by decide) (hU _ kf_RX6_25) (fun _ h9 => h9) rfl dX6_guessAt_27 ?_
          refine lv_iload hx hb dX6_guessAt_30 (lv_at hl 4 rfl) ?_
          refine zr_iald hx hb hK hP 6 0 rfl rfl i (by omega) (by omega) (Nat.le_of_ble_eq_true rfl) dX6_guessAt_32 ?_
          refine zr_rw (v := (((L.getD i 0) : Nat) : Int)) (hL.2 i (by omega)) ?_
          refine lv_iload_n hx hb dX6_guessAt_33 rfl (lv_at hl 1 rfl) ?_
          refine lv_iload_n hx hb dX6_guessAt_34 rfl (lv_at hl 2 rfl) ?_
          refine zc_Vi (As := [.int (iI (((L.getD i 0) : Nat) : Int)), .int (iI x), .int (iI y)]) (rest := [.int (iI (i : Int)), .ref mrt]) (c_X6_unlikeTo l D cI cL cG cM m0 mw mks mbx mby mbi msn miq mtb mrt mgr mup w kn kp sd ks bkx bky bki bkn sn1 sns1 iq_2 tb rt1 gr ups bel scl tp bt (L.getD i 0) x y (hv) (by omega) (by omega) (by omega)) hx hb hml hown hU hl.1 ct_yX6_unlikeTo cv_yX6_unlikeTo km_RX6_77 hK hNst hP 6 0 rfl rfl rfl ⟨rfl, rfl⟩ ⟨Nat.le_of_ble_eq_true rfl, Nat.le_of_ble_eq_true rfl⟩ rfl rfl (Nat.le_of_ble_eq_true rfl) dX6_guessAt_35 ⟨Nat.le_of_ble_eq_true rfl, Nat.le_of_ble_eq_true rfl⟩ ?_
          refine zr_i2l hx hb dX6_guessAt_38 (by omega) ?_
          refine zr_last hx hb hK hP hD hS 9 1 rfl rfl i (by omega) (by omega) (Nat.le_of_ble_eq_true rfl) dX6_guessAt_39 (fun H locs hP hD hS => ?_)
          have hP : va_P D vwCl [(m0, .inr (6, [.ref mw, .int (iI kn), .int (iI kp), .int (iI sd), .ref mks, .ref mbx, .ref mby, .ref mbi, .int (iI bkn), .ref msn, .int (iI sns1), .ref miq, .ref mtb, .ref mrt, .ref mgr, .ref mup, .long (lI bel), .long (lI scl), .long (lI tp), .long (lI bt)])), (mw, .inl (cI, 760, .inl (aI w))), (mks, .inl (cI, 2, .inl (aI ks))), (mbx, .inl (cI, 20, .inl (aI bkx))), (mby, .inl (cI, 20, .inl (aI bky))), (mbi, .inl (cI, 20, .inl (aI bki))), (msn, .inl (cI, 4, .inl (aI sn1))), (miq, .inl (cI, 4, .inl (aI iq_2))), (mtb, .inl (cL, 25, .inr (.inl (aL tb)))), (mrt, .inl (cL, 5, .inr (.inl (aL (va_up rt1 i (sp_ut w (L.getD i 0) x y)))))), (mgr, .inl (cL, 32, .inr (.inl (aL gr)))), (mup, .inl (cL, 5, .inr (.inl (aL ups))))] H := hP
          have hD : va_D A [(m0, .inr (6, [.ref mw, .int (iI kn), .int (iI kp), .int (iI sd), .ref mks, .ref mbx, .ref mby, .ref mbi, .int (iI bkn), .ref msn, .int (iI sns1), .ref miq, .ref mtb, .ref mrt, .ref mgr, .ref mup, .long (lI bel), .long (lI scl), .long (lI tp), .long (lI bt)])), (mw, .inl (cI, 760, .inl (aI w))), (mks, .inl (cI, 2, .inl (aI ks))), (mbx, .inl (cI, 20, .inl (aI bkx))), (mby, .inl (cI, 20, .inl (aI bky))), (mbi, .inl (cI, 20, .inl (aI bki))), (msn, .inl (cI, 4, .inl (aI sn1))), (miq, .inl (cI, 4, .inl (aI iq_2))), (mtb, .inl (cL, 25, .inr (.inl (aL tb)))), (mrt, .inl (cL, 5, .inr (.inl (aL (va_up rt1 i (sp_ut w (L.getD i 0) x y)))))), (mgr, .inl (cL, 32, .inr (.inl (aL gr)))), (mup, .inl (cL, 5, .inr (.inl (aL ups))))] := hD
          refine lv_iinc (v := iI ((i : Int) + 1)) (lv' := [(4, .int (iI ((i : Int) + 1))), (0, .ref m0), (1, .int (iI x)), (2, .int (iI y)), (3, .int (iI wo))]) hx hb dX6_guessAt_40 hl (k := 4) rfl (iI_add _ _) (by decide) rfl (fun ls hl => ?_)
          refine lv_goto (tgt := 10) hx hb dX6_guessAt_43 (by decide) ?_
          exact ih10 (i + 1) (va_up rt1 i (sp_ut w (L.getD i 0) x y)) (by omega) (fun j h => by rcases Nat.lt_or_ge j i with q | q; (rw [va_up_ne _ _ (by omega)]; exact hinv j q); (rw [show j = i by omega, va_up_self]; rfl)) (by omega) _ _ hP hD hS ls (lv_sub hl [1, 2, 3, 4, 0] rfl)
    exact LP10 (L.length + 1) 0 rt (by omega) (fun j h => absurd h (Nat.not_lt_zero j)) (by omega) _ _ hP hD hS ls (lv_sub hl [1, 2, 3, 4, 0] rfl)
  rw [hlocs]
  exact hW0 s.heap [] hP hD hS

set_option maxHeartbeats 4000000 in
set_option maxRecDepth 100000 in
theorem c_X6_guessBlock (l : Launch) (D : va_G) (cI cL cG cM : ClassId) (m0 mw mks mbx mby mbi msn miq mtb mrt mgr mup : Nat) (w : Nat → Int) (kn : Int) (kp : Int) (sd : Int) (ks : Nat → Int) (bkx : Nat → Int) (bky : Nat → Int) (bki : Nat → Int) (bkn : Int) (sn : Nat → Int) (sns : Int) (iq : Nat → Int) (tb : Nat → Int) (rt : Nat → Int) (gr : Nat → Int) (ups : Nat → Int) (bel : Int) (scl : Int) (tp : Int) (bt : Int) (x : Int) (y : Int) (hv : vR w) (h1 : 0 ≤ x ∧ x ≤ 30) (h2 : 0 ≤ y ∧ y ≤ 30) (sz : Nat) : Met l yX6_guessBlock (wU yX6_guessBlock cX6_guessBlock 5 (some .boolean)) (rmF 4 95) (pcW D (tyA cI cL cG cM) [(m0, .inr (6, [.ref mw, .int (iI kn), .int (iI kp), .int (iI sd), .ref mks, .ref mbx, .ref mby, .ref mbi, .int (iI bkn), .ref msn, .int (iI sns), .ref miq, .ref mtb, .ref mrt, .ref mgr, .ref mup, .long (lI bel), .long (lI scl), .long (lI tp), .long (lI bt)])), (mw, .inl (cI, 760, .inl (aI w))), (mks, .inl (cI, 2, .inl (aI ks))), (mbx, .inl (cI, 20, .inl (aI bkx))), (mby, .inl (cI, 20, .inl (aI bky))), (mbi, .inl (cI, 20, .inl (aI bki))), (msn, .inl (cI, 4, .inl (aI sn))), (miq, .inl (cI, 4, .inl (aI iq))), (mtb, .inl (cL, 25, .inr (.inl (aL tb)))), (mrt, .inl (cL, 5, .inr (.inl (aL rt)))), (mgr, .inl (cL, 32, .inr (.inl (aL gr)))), (mup, .inl (cL, 5, .inr (.inl (aL ups))))] [.ref m0, .int (iI x), .int (iI y)] sz) (qWi (S := (Nat → Int) × Int × (Nat → Int) × (Nat → Int) × Int × (Nat → Int) × (Nat → Int) × Int × (Nat → Int)) D (tyA cI cL cG cM) (va_A [(m0, .inr (6, [.ref mw, .int (iI kn), .int (iI kp), .int (iI sd), .ref mks, .ref mbx, .ref mby, .ref mbi, .int (iI bkn), .ref msn, .int (iI sns), .ref miq, .ref mtb, .ref mrt, .ref mgr, .ref mup, .long (lI bel), .long (lI scl), .long (lI tp), .long (lI bt)])), (mw, .inl (cI, 760, .inl (aI w))), (mks, .inl (cI, 2, .inl (aI ks))), (mbx, .inl (cI, 20, .inl (aI bkx))), (mby, .inl (cI, 20, .inl (aI bky))), (mbi, .inl (cI, 20, .inl (aI bki))), (msn, .inl (cI, 4, .inl (aI sn))), (miq, .inl (cI, 4, .inl (aI iq))), (mtb, .inl (cL, 25, .inr (.inl (aL tb)))), (mrt, .inl (cL, 5, .inr (.inl (aL rt)))), (mgr, .inl (cL, 32, .inr (.inl (aL gr)))), (mup, .inl (cL, 5, .inr (.inl (aL ups))))] sz) (fun (z : Int) (u : (Nat → Int) × Int × (Nat → Int) × (Nat → Int) × Int × (Nat → Int) × (Nat → Int) × Int × (Nat → Int)) => isL (sp_lk w x y (-1)) u.1 u.2.1 ∧ z = zB (gEx w (sp_lk w x y (-1))) ∧ (gEx w (sp_lk w x y (-1)) → gOK w (sp_lk w x y (-1)) (sp_vb w (sp_lk w x y (-1)) x y) 4 u.2.2.2.1 u.2.2.2.2.2.2.2.2 u.2.2.2.2.2.2.2.1 u.2.2.2.2.1)) (fun (u : (Nat → Int) × Int × (Nat → Int) × (Nat → Int) × Int × (Nat → Int) × (Nat → Int) × Int × (Nat → Int)) => [(m0, .inr (6, [.ref mw, .int (iI kn), .int (iI kp), .int (iI sd), .ref mks, .ref mbx, .ref mby, .ref mbi, .int (iI bkn), .ref msn, .int (iI u.2.1), .ref miq, .ref mtb, .ref mrt, .ref mgr, .ref mup, .long (lI u.2.2.2.2.2.2.2.1), .long (lI u.2.2.2.2.1), .long (lI tp), .long (lI bt)])), (mw, .inl (cI, 760, .inl (aI w))), (mks, .inl (cI, 2, .inl (aI ks))), (mbx, .inl (cI, 20, .inl (aI bkx))), (mby, .inl (cI, 20, .inl (aI bky))), (mbi, .inl (cI, 20, .inl (aI bki))), (msn, .inl (cI, 4, .inl (aI u.1))), (miq, .inl (cI, 4, .inl (aI u.2.2.1))), (mtb, .inl (cL, 25, .inr (.inl (aL u.2.2.2.2.2.1)))), (mrt, .inl (cL, 5, .inr (.inl (aL u.2.2.2.1)))), (mgr, .inl (cL, 32, .inr (.inl (aL u.2.2.2.2.2.2.1)))), (mup, .inl (cL, 5, .inr (.inl (aL u.2.2.2.2.2.2.2.2))))])) 0 0 (va_A [(m0, .inr (6, [.ref mw, .int (iI kn), .int (iI kp), .int (iI sd), .ref mks, .ref mbx, .ref mby, .ref mbi, .int (iI bkn), .ref msn, .int (iI sns), .ref miq, .ref mtb, .ref mrt, .ref mgr, .ref mup, .long (lI bel), .long (lI scl), .long (lI tp), .long (lI bt)])), (mw, .inl (cI, 760, .inl (aI w))), (mks, .inl (cI, 2, .inl (aI ks))), (mbx, .inl (cI, 20, .inl (aI bkx))), (mby, .inl (cI, 20, .inl (aI bky))), (mbi, .inl (cI, 20, .inl (aI bki))), (msn, .inl (cI, 4, .inl (aI sn))), (miq, .inl (cI, 4, .inl (aI iq))), (mtb, .inl (cL, 25, .inr (.inl (aL tb)))), (mrt, .inl (cL, 5, .inr (.inl (aL rt)))), (mgr, .inl (cL, 32, .inr (.inl (aL gr)))), (mup, .inl (cL, 5, .inr (.inl (aL ups))))] sz) := by
  refine zm_W (own := RX6) (lv := [(0, .ref m0), (1, .int (iI x)), (2, .int (iI y))]) (QF := fun A => qWi (S := (Nat → Int) × Int × (Nat → Int) × (Nat → Int) × Int × (Nat → Int) × (Nat → Int) × Int × (Nat → Int)) D (tyA cI cL cG cM) A (fun (z : Int) (u : (Nat → Int) × Int × (Nat → Int) × (Nat → Int) × Int × (Nat → Int) × (Nat → Int) × Int × (Nat → Int)) => isL (sp_lk w x y (-1)) u.1 u.2.1 ∧ z = zB (gEx w (sp_lk w x y (-1))) ∧ (gEx w (sp_lk w x y (-1)) → gOK w (sp_lk w x y (-1)) (sp_vb w (sp_lk w x y (-1)) x y) 4 u.2.2.2.1 u.2.2.2.2.2.2.2.2 u.2.2.2.2.2.2.2.1 u.2.2.2.2.1)) (fun (u : (Nat → Int) × Int × (Nat → Int) × (Nat → Int) × Int × (Nat → Int) × (Nat → Int) × Int × (Nat → Int)) => [(m0, .inr (6, [.ref mw, .int (iI kn), .int (iI kp), .int (iI sd), .ref mks, .ref mbx, .ref mby, .ref mbi, .int (iI bkn), .ref msn, .int (iI u.2.1), .ref miq, .ref mtb, .ref mrt, .ref mgr, .ref mup, .long (lI u.2.2.2.2.2.2.2.1), .long (lI u.2.2.2.2.1), .long (lI tp), .long (lI bt)])), (mw, .inl (cI, 760, .inl (aI w))), (mks, .inl (cI, 2, .inl (aI ks))), (mbx, .inl (cI, 20, .inl (aI bkx))), (mby, .inl (cI, 20, .inl (aI bky))), (mbi, .inl (cI, 20, .inl (aI bki))), (msn, .inl (cI, 4, .inl (aI u.1))), (miq, .inl (cI, 4, .inl (aI u.2.2.1))), (mtb, .inl (cL, 25, .inr (.inl (aL u.2.2.2.2.2.1)))), (mrt, .inl (cL, 5, .inr (.inl (aL u.2.2.2.1)))), (mgr, .inl (cL, 32, .inr (.inl (aL u.2.2.2.2.2.2.1)))), (mup, .inl (cL, 5, .inr (.inl (aL u.2.2.2.2.2.2.2.2))))])) (by decide) rfl (Nat.le_of_ble_eq_true rfl) rfl ?_
  intro p e s m below meth c A args Q hx hb hr hml hown hU hlk hnm hP hK hNst hD hA hS hsz hQ ls hl
  obtain ⟨H, hH⟩ : ∃ H, H = s.heap := ⟨_, rfl⟩
  obtain ⟨locs, hlocs⟩ : ∃ locs : List Loc, locs = [] := ⟨_, rfl⟩
  rw [← hlocs]
  have hW0 : ∀ (H : Heap) (locs : List Loc), va_P D vwCl [(m0, .inr (6, [.ref mw, .int (iI kn), .int (iI kp), .int (iI sd), .ref mks, .ref mbx, .ref mby, .ref mbi, .int (iI bkn), .ref msn, .int (iI sns), .ref miq, .ref mtb, .ref mrt, .ref mgr, .ref mup, .long (lI bel), .long (lI scl), .long (lI tp), .long (lI bt)])), (mw, .inl (cI, 760, .inl (aI w))), (mks, .inl (cI, 2, .inl (aI ks))), (mbx, .inl (cI, 20, .inl (aI bkx))), (mby, .inl (cI, 20, .inl (aI bky))), (mbi, .inl (cI, 20, .inl (aI bki))), (msn, .inl (cI, 4, .inl (aI sn))), (miq, .inl (cI, 4, .inl (aI iq))), (mtb, .inl (cL, 25, .inr (.inl (aL tb)))), (mrt, .inl (cL, 5, .inr (.inl (aL rt)))), (mgr, .inl (cL, 32, .inr (.inl (aL gr)))), (mup, .inl (cL, 5, .inr (.inl (aL ups))))] H → va_D A [(m0, .inr (6, [.ref mw, .int (iI kn), .int (iI kp), .int (iI sd), .ref mks, .ref mbx, .ref mby, .ref mbi, .int (iI bkn), .ref msn, .int (iI sns), .ref miq, .ref mtb, .ref mrt, .ref mgr, .ref mup, .long (lI bel), .long (lI scl), .long (lI tp), .long (lI bt)])), (mw, .inl (cI, 760, .inl (aI w))), (mks, .inl (cI, 2, .inl (aI ks))), (mbx, .inl (cI, 20, .inl (aI bkx))), (mby, .inl (cI, 20, .inl (aI bky))), (mbi, .inl (cI, 20, .inl (aI bki))), (msn, .inl (cI, 4, .inl (aI sn))), (miq, .inl (cI, 4, .inl (aI iq))), (mtb, .inl (cL, 25, .inr (.inl (aL tb)))), (mrt, .inl (cL, 5, .inr (.inl (aL rt)))), (mgr, .inl (cL, 32, .inr (.inl (aL gr)))), (mup, .inl (cL, 5, .inr (.inl (aL ups))))] → va_S A s.heap H locs → W p l e (rmF 4 95) s m args below meth c H locs 0 0 Q (F0 m 0 ls []) := by
    clear hP hD hS hH hlocs H locs
    intro H locs hP hD hS
    have h0 := hv.1
    have h7 := hv.2.2.2.2.2.2.2.1
    have h8 := hv.2.2.2.2.2.2.2.2.1
    have h9 := hv.2.2.2.2.2.2.2.2.2.1
    have hok := okL_lk hv x y (-1)
    have h4 := okL_le hv hok
    refine lv_aload_n hx hb dX6_guessBlock_0 rfl (lv_at hl 0 rfl) ?_
    refine lv_iload_n hx hb dX6_guessBlock_1 rfl (lv_at hl 1 rfl) ?_
    refine lv_iload_n hx hb dX6_guessBlock_2 rfl (lv_at hl 2 rfl) ?_
    refine lv_iconst (v := iI (-1)) hx hb dX6_guessBlock_3 rfl ?_
    refine zc_Wv (As := [.int (iI x), .int (iI y), .int (iI (-1))]) (rest := []) (wr := []) (wc := [(m0, .inr (6, [.ref mw, .int (iI kn), .int (iI kp), .int (iI sd), .ref mks, .ref mbx, .ref mby, .ref mbi, .int (iI bkn), .ref msn, .int (iI sns), .ref miq, .ref mtb, .ref mrt, .ref mgr, .ref mup, .long (lI bel), .long (lI scl), .long (lI tp), .long (lI bt)])), (mw, .inl (cI, 760, .inl (aI w))), (mks, .inl (cI, 2, .inl (aI ks))), (mbx, .inl (cI, 20, .inl (aI bkx))), (mby, .inl (cI, 20, .inl (aI bky))), (mbi, .inl (cI, 20, .inl (aI bki))), (msn, .inl (cI, 4, .inl (aI sn))), (miq, .inl (cI, 4, .inl (aI iq))), (mtb, .inl (cL, 25, .inr (.inl (aL tb)))), (mrt, .inl (cL, 5, .inr (.inl (aL rt)))), (mgr, .inl (cL, 32, .inr (.inl (aL gr)))), (mup, .inl (cL, 5, .inr (.inl (aL ups))))]) (c_X6_layLooked l D cI cL cG cM m0 mw mks mbx mby mbi msn miq mtb mrt mgr mup w kn kp sd ks bkx bky bki bkn sn sns iq tb rt gr ups bel scl tp bt x y (-1) (hv) (by omega) (by omega) (by omega) _) hx hb hml hown hU hl.1 ct_yX6_layLooked cv_yX6_layLooked km_RX6_92 hK hNst hP hD hS hA [0, 1, 2, 3, 4, 5, 6, 7, 8, 9, 10, 11] [] rfl rfl (by decide) (by decide) (by decide) 6 0 rfl rfl rfl ⟨rfl, rfl⟩ ⟨Nat.le_of_ble_eq_true rfl, Nat.le_of_ble_eq_true rfl⟩ rfl rfl (Nat.le_of_ble_eq_true rfl) dX6_guessBlock_4 ⟨Nat.le_of_ble_eq_true rfl, Nat.le_of_ble_eq_true rfl⟩ (fun u H locs hL hP hD hS _ => ?_)
    obtain ⟨sn1, sns1, iq_2⟩ := u
    have hL : isL (sp_lk w x y (-1)) sn1 sns1 := hL
    have hP : va_P D vwCl [(m0, .inr (6, [.ref mw, .int (iI kn), .int (iI kp), .int (iI sd), .ref mks, .ref mbx, .ref mby, .ref mbi, .int (iI bkn), .ref msn, .int (iI sns1), .ref miq, .ref mtb, .ref mrt, .ref mgr, .ref mup, .long (lI bel), .long (lI scl), .long (lI tp), .long (lI bt)])), (mw, .inl (cI, 760, .inl (aI w))), (mks, .inl (cI, 2, .inl (aI ks))), (mbx, .inl (cI, 20, .inl (aI bkx))), (mby, .inl (cI, 20, .inl (aI bky))), (mbi, .inl (cI, 20, .inl (aI bki))), (msn, .inl (cI, 4, .inl (aI sn1))), (miq, .inl (cI, 4, .inl (aI iq_2))), (mtb, .inl (cL, 25, .inr (.inl (aL tb)))), (mrt, .inl (cL, 5, .inr (.inl (aL rt)))), (mgr, .inl (cL, 32, .inr (.inl (aL gr)))), (mup, .inl (cL, 5, .inr (.inl (aL ups))))] H := hP
    have hD : va_D A [(m0, .inr (6, [.ref mw, .int (iI kn), .int (iI kp), .int (iI sd), .ref mks, .ref mbx, .ref mby, .ref mbi, .int (iI bkn), .ref msn, .int (iI sns1), .ref miq, .ref mtb, .ref mrt, .ref mgr, .ref mup, .long (lI bel), .long (lI scl), .long (lI tp), .long (lI bt)])), (mw, .inl (cI, 760, .inl (aI w))), (mks, .inl (cI, 2, .inl (aI ks))), (mbx, .inl (cI, 20, .inl (aI bkx))), (mby, .inl (cI, 20, .inl (aI bky))), (mbi, .inl (cI, 20, .inl (aI bki))), (msn, .inl (cI, 4, .inl (aI sn1))), (miq, .inl (cI, 4, .inl (aI iq_2))), (mtb, .inl (cL, 25, .inr (.inl (aL tb)))), (mrt, .inl (cL, 5, .inr (.inl (aL rt)))), (mgr, .inl (cL, 32, .inr (.inl (aL gr)))), (mup, .inl (cL, 5, .inr (.inl (aL ups))))] := hD
    generalize sp_lk w x y (-1) = L at hL hok h4 hQ
    have hl1 := hL.1
    refine lv_iconst (v := iI 0) hx hb dX6_guessBlock_7 rfl ?_
    refine lv_istore_n (lv' := [(3, .int (iI 0)), (0, .ref m0), (1, .int (iI x)), (2, .int (iI y))]) hx hb dX6_guessBlock_8 rfl hl (by decide) rfl (fun ls hl => ?_)
    have LP9 : ∀ (n : Nat), ∀ (i : Nat) (rt1 : Nat → Int), (i ≤ L.length) → (∀ j : Nat, j < i → rt1 j = sp_vb w L x y j) → (L.length < i + n) → ∀ (H : Heap) (locs : List Loc), va_P D vwCl [(m0, .inr (6, [.ref mw, .int (iI kn), .int (iI kp), .int (iI sd), .ref mks, .ref mbx, .ref mby, .ref mbi, .int (iI bkn), .ref msn, .int (iI sns1), .ref miq, .ref mtb, .ref mrt, .ref mgr, .ref mup, .long (lI bel), .long (lI scl), .long (lI tp), .long (lI bt)])), (mw, .inl (cI, 760, .inl (aI w))), (mks, .inl (cI, 2, .inl (aI ks))), (mbx, .inl (cI, 20, .inl (aI bkx))), (mby, .inl (cI, 20, .inl (aI bky))), (mbi, .inl (cI, 20, .inl (aI bki))), (msn, .inl (cI, 4, .inl (aI sn1))), (miq, .inl (cI, 4, .inl (aI iq_2))), (mtb, .inl (cL, 25, .inr (.inl (aL tb)))), (mrt, .inl (cL, 5, .inr (.inl (aL rt1)))), (mgr, .inl (cL, 32, .inr (.inl (aL gr)))), (mup, .inl (cL, 5, .inr (.inl (aL ups))))] H → va_D A [(m0, .inr (6, [.ref mw, .int (iI kn), .int (iI kp), .int (iI sd), .ref mks, .ref mbx, .ref mby, .ref mbi, .int (iI bkn), .ref msn, .int (iI sns1), .ref miq, .ref mtb, .ref mrt, .ref mgr, .ref mup, .long (lI bel), .long (lI scl), .long (lI tp), .long (lI bt)])), (mw, .inl (cI, 760, .inl (aI w))), (mks, .inl (cI, 2, .inl (aI ks))), (mbx, .inl (cI, 20, .inl (aI bkx))), (mby, .inl (cI, 20, .inl (aI bky))), (mbi, .inl (cI, 20, .inl (aI bki))), (msn, .inl (cI, 4, .inl (aI sn1))), (miq, .inl (cI, 4, .inl (aI iq_2))), (mtb, .inl (cL, 25, .inr (.inl (aL tb)))), (mrt, .inl (cL, 5, .inr (.inl (aL rt1)))), (mgr, .inl (cL, 32, .inr (.inl (aL gr)))), (mup, .inl (cL, 5, .inr (.inl (aL ups))))] → va_S A s.heap H locs → ∀ (ls : Array Slot), lv_has ls 5 [(0, .ref m0), (1, .int (iI x)), (2, .int (iI y)), (3, .int (iI (i : Int)))] → W p l e (rmF 4 95) s m args below meth c H locs 0 0 Q (F0 m 9 ls []) := by
      intro n
      induction n with
      | zero =>
        intro i rt1 hi hinv hfu
        exfalso
        omega
      | succ n ih9 =>
        intro i rt1 hi hinv hfu H locs hP hD hS ls hl
        refine lv_iload_n hx hb dX6_guessBlock_9 rfl (lv_at hl 3 rfl) ?_
        refine lv_aload_n hx hb dX6_guessBlock_10 rfl (lv_at hl 0 rfl) ?_
        refine va_get (D := D) (ci := 6) (v := .int (iI sns1)) (C := RX6) (T := TX6) (N := 20) hx hb hU inlX6 hown hK hP 0 rfl rfl 10 (by decide) (hU _ kf_RX6_65) (fun _ h9 => h9) rfl dX6_guessBlock_11 ?_
        refine zr_icmp_ge (tgt := 77) hx hb dX6_guessBlock_14 (by decide) (by omega) (by omega) (fun c_3 => ?_) (fun c_3 => ?_)
        · skip
          refine lv_aload_n hx hb dX6_guessBlock_77 rfl (lv_at hl 0 rfl) ?_
          refine va_get (D := D) (ci := 6) (v := .ref mrt) (C := RX6) (T := TX6) (N := 20) hx hb hU inlX6 hown hK hP 0 rfl rfl 13 (by decide) (hU _ kf_RX6_35) (fun _ h9 => h9) rfl dX6_guessBlock_78 ?_
          refine lv_aload_n hx hb dX6_guessBlock_81 rfl (lv_at hl 0 rfl) ?_
          refine va_get (D := D) (ci := 6) (v := .int (iI sns1)) (C := RX6) (T := TX6) (N := 20) hx hb hU inlX6 hown hK hP 0 rfl rfl 10 (by decide) (hU _ kf_RX6_65) (fun _ h9 => h9) rfl dX6_guessBlock_82 ?_
          refine lv_ldc2 hx hb hown (hU _ kk_RX6_102) dX6_guessBlock_85 ?_
          refine zr_last hx hb hK hP hD hS 9 1 rfl rfl L.length (by omega) (by omega) (Nat.le_of_ble_eq_true rfl) dX6_guessBlock_88 (fun H locs hP hD hS => ?_)
          have hP : va_P D vwCl [(m0, .inr (6, [.ref mw, .int (iI kn), .int (iI kp), .int (iI sd), .ref mks, .ref mbx, .ref mby, .ref mbi, .int (iI bkn), .ref msn, .int (iI sns1), .ref miq, .ref mtb, .ref mrt, .ref mgr, .ref mup, .long (lI bel), .long (lI scl), .long (lI tp), .long (lI bt)])), (mw, .inl (cI, 760, .inl (aI w))), (mks, .inl (cI, 2, .inl (aI ks))), (mbx, .inl (cI, 20, .inl (aI bkx))), (mby, .inl (cI, 20, .inl (aI bky))), (mbi, .inl (cI, 20, .inl (aI bki))), (msn, .inl (cI, 4, .inl (aI sn1))), (miq, .inl (cI, 4, .inl (aI iq_2))), (mtb, .inl (cL, 25, .inr (.inl (aL tb)))), (mrt, .inl (cL, 5, .inr (.inl (aL (va_up rt1 L.length 4))))), (mgr, .inl (cL, 32, .inr (.inl (aL gr)))), (mup, .inl (cL, 5, .inr (.inl (aL ups))))] H := hP
          have hD : va_D A [(m0, .inr (6, [.ref mw, .int (iI kn), .int (iI kp), .int (iI sd), .ref mks, .ref mbx, .ref mby, .ref mbi, .int (iI bkn), .ref msn, .int (iI sns1), .ref miq, .ref mtb, .ref mrt, .ref mgr, .ref mup, .long (lI bel), .long (lI scl), .long (lI tp), .long (lI bt)])), (mw, .inl (cI, 760, .inl (aI w))), (mks, .inl (cI, 2, .inl (aI ks))), (mbx, .inl (cI, 20, .inl (aI bkx))), (mby, .inl (cI, 20, .inl (aI bky))), (mbi, .inl (cI, 20, .inl (aI bki))), (msn, .inl (cI, 4, .inl (aI sn1))), (miq, .inl (cI, 4, .inl (aI iq_2))), (mtb, .inl (cL, 25, .inr (.inl (aL tb)))), (mrt, .inl (cL, 5, .inr (.inl (aL (va_up rt1 L.length 4))))), (mgr, .inl (cL, 32, .inr (.inl (aL gr)))), (mup, .inl (cL, 5, .inr (.inl (aL ups))))] := hD
          refine lv_aload_n hx hb dX6_guessBlock_89 rfl (lv_at hl 0 rfl) ?_
          refine lv_ldc2 hx hb hown (hU _ kk_RX6_102) dX6_guessBlock_90 ?_
          refine va_put (D := D) (ci := 6) (v := .long (lI 4)) (ty := .long) (C := RX6) (T := TX6) (N := 20) hx hb hU inlX6 tyX6 tyX6_ok nmX6 hown hK hP hD hS 0 rfl rfl 17 (by decide) (hU _ kf_RX6_95) (fun _ h9 => h9) rfl (by decide +kernel) rfl rfl (Nat.le_of_ble_eq_true rfl) dX6_guessBlock_93 (fun H locs hP hD hS => ?_)
          have hP : va_P D vwCl [(m0, .inr (6, [.ref mw, .int (iI kn), .int (iI kp), .int (iI sd), .ref mks, .ref mbx, .ref mby, .ref mbi, .int (iI bkn), .ref msn, .int (iI sns1), .ref miq, .ref mtb, .ref mrt, .ref mgr, .ref mup, .long (lI bel), .long (lI 4), .long (lI tp), .long (lI bt)])), (mw, .inl (cI, 760, .inl (aI w))), (mks, .inl (cI, 2, .inl (aI ks))), (mbx, .inl (cI, 20, .inl (aI bkx))), (mby, .inl (cI, 20, .inl (aI bky))), (mbi, .inl (cI, 20, .inl (aI bki))), (msn, .inl (cI, 4, .inl (aI sn1))), (miq, .inl (cI, 4, .inl (aI iq_2))), (mtb, .inl (cL, 25, .inr (.inl (aL tb)))), (mrt, .inl (cL, 5, .inr (.inl (aL (va_up rt1 L.length 4))))), (mgr, .inl (cL, 32, .inr (.inl (aL gr)))), (mup, .inl (cL, 5, .inr (.inl (aL ups))))] H := hP
          have hD : va_D A [(m0, .inr (6, [.ref mw, .int (iI kn), .int (iI kp), .int (iI sd), .ref mks, .ref mbx, .ref mby, .ref mbi, .int (iI bkn), .ref msn, .int (iI sns1), .ref miq, .ref mtb, .ref mrt, .ref mgr, .ref mup, .long (lI bel), .long (lI 4), .long (lI tp), .long (lI bt)])), (mw, .inl (cI, 760, .inl (aI w))), (mks, .inl (cI, 2, .inl (aI ks))), (mbx, .inl (cI, 20, .inl (aI bkx))), (mby, .inl (cI, 20, .inl (aI bky))), (mbi, .inl (cI, 20, .inl (aI bki))), (msn, .inl (cI, 4, .inl (aI sn1))), (miq, .inl (cI, 4, .inl (aI iq_2))), (mtb, .inl (cL, 25, .inr (.inl (aL tb)))), (mrt, .inl (cL, 5, .inr (.inl (aL (va_up rt1 L.length 4))))), (mgr, .inl (cL, 32, .inr (.inl (aL gr)))), (mup, .inl (cL, 5, .inr (.inl (aL ups))))] := hD
          refine lv_aload_n hx hb dX6_guessBlock_96 rfl (lv_at hl 0 rfl) ?_
          refine zc_Wi (As := []) (rest := []) (wr := []) (wc := [(m0, .inr (6, [.ref mw, .int (iI kn), .int (iI kp), .int (iI sd), .ref mks, .ref mbx, .ref mby, .ref mbi, .int (iI bkn), .ref msn, .int (iI sns1), .ref miq, .ref mtb, .ref mrt, .ref mgr, .ref mup, .long (lI bel), .long (lI 4), .long (lI tp), .long (lI bt)])), (mw, .inl (cI, 760, .inl (aI w))), (mks, .inl (cI, 2, .inl (aI ks))), (mbx, .inl (cI, 20, .inl (aI bkx))), (mby, .inl (cI, 20, .inl (aI bky))), (mbi, .inl (cI, 20, .inl (aI bki))), (msn, .inl (cI, 4, .inl (aI sn1))), (miq, .inl (cI, 4, .inl (aI iq_2))), (mtb, .inl (cL, 25, .inr (.inl (aL tb)))), (mrt, .inl (cL, 5, .inr (.inl (aL (va_up rt1 L.length 4))))), (mgr, .inl (cL, 32, .inr (.inl (aL gr)))), (mup, .inl (cL, 5, .inr (.inl (aL ups))))]) (c_X6_solved l D cI cL cG cM m0 mw mks mbx mby mbi msn miq mtb mrt mgr mup w kn kp sd ks bkx bky bki bkn sn1 sns1 iq_2 tb (va_up rt1 L.length 4) gr ups bel 4 tp bt L (hv) (hok) (hL) _) hx hb hml hown hU hl.1 ct_yX6_solved cv_yX6_solved km_RX6_98 hK hNst hP hD hS hA [0, 1, 2, 3, 4, 5, 6, 7, 8, 9, 10, 11] [] rfl rfl (by decide) (by decide) (by decide) 6 0 rfl rfl rfl ⟨rfl, rfl⟩ ⟨Nat.le_of_ble_eq_true rfl, Nat.le_of_ble_eq_true rfl⟩ rfl rfl (Nat.le_of_ble_eq_true rfl) dX6_guessBlock_97 ⟨Nat.le_of_ble_eq_true rfl, Nat.le_of_ble_eq_true rfl⟩ (fun z_4 u H locs hsl hP hD hS _ => ?_)
          obtain ⟨tb_5, gr_6, bel_7, ups_8⟩ := u
          have hsl : z_4 = zB (1 ≤ L.length ∧ sp_dt (sp_tab (sp_uu w L) L.length) (L.length + 1) ≠ 0) ∧ (1 ≤ L.length → bel_7 = sp_dt (sp_tab (sp_uu w L) L.length) (L.length + 1)) ∧ (1 ≤ L.length → sp_dt (sp_tab (sp_uu w L) L.length) (L.length + 1) ≠ 0 → ∀ j : Nat, j ≤ L.length → ups_8 j = sp_dt (sp_rep (sp_tab (sp_uu w L) L.length) (va_up rt1 L.length 4) j) (L.length + 1)) := hsl
          have hP : va_P D vwCl [(m0, .inr (6, [.ref mw, .int (iI kn), .int (iI kp), .int (iI sd), .ref mks, .ref mbx, .ref mby, .ref mbi, .int (iI bkn), .ref msn, .int (iI sns1), .ref miq, .ref mtb, .ref mrt, .ref mgr, .ref mup, .long (lI bel_7), .long (lI 4), .long (lI tp), .long (lI bt)])), (mw, .inl (cI, 760, .inl (aI w))), (mks, .inl (cI, 2, .inl (aI ks))), (mbx, .inl (cI, 20, .inl (aI bkx))), (mby, .inl (cI, 20, .inl (aI bky))), (mbi, .inl (cI, 20, .inl (aI bki))), (msn, .inl (cI, 4, .inl (aI sn1))), (miq, .inl (cI, 4, .inl (aI iq_2))), (mtb, .inl (cL, 25, .inr (.inl (aL tb_5)))), (mrt, .inl (cL, 5, .inr (.inl (aL (va_up rt1 L.length 4))))), (mgr, .inl (cL, 32, .inr (.inl (aL gr_6)))), (mup, .inl (cL, 5, .inr (.inl (aL ups_8))))] H := hP
          have hD : va_D A [(m0, .inr (6, [.ref mw, .int (iI kn), .int (iI kp), .int (iI sd), .ref mks, .ref mbx, .ref mby, .ref mbi, .int (iI bkn), .ref msn, .int (iI sns1), .ref miq, .ref mtb, .ref mrt, .ref mgr, .ref mup, .long (lI bel_7), .long (lI 4), .long (lI tp), .long (lI bt)])), (mw, .inl (cI, 760, .inl (aI w))), (mks, .inl (cI, 2, .inl (aI ks))), (mbx, .inl (cI, 20, .inl (aI bkx))), (mby, .inl (cI, 20, .inl (aI bky))), (mbi, .inl (cI, 20, .inl (aI bki))), (msn, .inl (cI, 4, .inl (aI sn1))), (miq, .inl (cI, 4, .inl (aI iq_2))), (mtb, .inl (cL, 25, .inr (.inl (aL tb_5)))), (mrt, .inl (cL, 5, .inr (.inl (aL (va_up rt1 L.length 4))))), (mgr, .inl (cL, 32, .inr (.inl (aL gr_6)))), (mup, .inl (cL, 5, .inr (.inl (aL ups_8))))] := hD
          rw [hQ]
          exact ze_Wz hx hb hr hlk dX6_guessBlock_100 (by rw [hsl.1]; exact zB_01 _) (sn1, sns1, iq_2, (va_up rt1 L.length 4), 4, tb_5, gr_6, bel_7, ups_8) (⟨hL, g_fin hv hok (fun j hj => (va_up_ne rt1 4 (show j ≠ L.length by omega)).trans (hinv j (by omega))) (va_up_self _ _ _) hsl.1 hsl.2.1 hsl.2.2⟩) hP hK hD hS
        · skip
          refine lv_aload_n hx hb dX6_guessBlock_17 rfl (lv_at hl 0 rfl) ?_
          refine va_get (D := D) (ci := 6) (v := .ref mrt) (C := RX6) (T := TX6) (N := 20) hx hb hU inlX6 hown hK hP 0 rfl rfl 13 (by decide) (hU _ kf_RX6_35) (fun _ h9 => h9) rfl dX6_guessBlock_18 ?_
          refine lv_iload_n hx hb dX6_guessBlock_21 rfl (lv_at hl 3 rfl) ?_
          refine lv_lconst (v := lI 0) hx hb dX6_guessBlock_22 rfl ?_
          refine zr_last hx hb hK hP hD hS 9 1 rfl rfl i (by omega) (by omega) (Nat.le_of_ble_eq_true rfl) dX6_guessBlock_23 (fun H locs hP hD hS => ?_)
          have hP : va_P D vwCl [(m0, .inr (6, [.ref mw, .int (iI kn), .int (iI kp), .int (iI sd), .ref mks, .ref mbx, .ref mby, .ref mbi, .int (iI bkn), .ref msn, .int (iI sns1), .ref miq, .ref mtb, .ref mrt, .ref mgr, .ref mup, .long (lI bel), .long (lI scl), .long (lI tp), .long (lI bt)])), (mw, .inl (cI, 760, .inl (aI w))), (mks, .inl (cI, 2, .inl (aI ks))), (mbx, .inl (cI, 20, .inl (aI bkx))), (mby, .inl (cI, 20, .inl (aI bky))), (mbi, .inl (cI, 20, .inl (aI bki))), (msn, .inl (cI, 4, .inl (aI sn1))), (miq, .inl (cI, 4, .inl (aI iq_2))), (mtb, .inl (cL, 25, .inr (.inl (aL tb)))), (mrt, .inl (cL, 5, .inr (.inl (aL (va_up rt1 i 0))))), (mgr, .inl (cL, 32, .inr (.inl (aL gr)))), (mup, .inl (cL, 5, .inr (.inl (aL ups))))] H := hP
          have hD : va_D A [(m0, .inr (6, [.ref mw, .int (iI kn), .int (iI kp), .int (iI sd), .ref mks, .ref mbx, .ref mby, .ref mbi, .int (iI bkn), .ref msn, .int (iI sns1), .ref miq, .ref mtb, .ref mrt, .ref mgr, .ref mup, .long (lI bel), .long (lI scl), .long (lI tp), .long (lI bt)])), (mw, .inl (cI, 760, .inl (aI w))), (mks, .inl (cI, 2, .inl (aI ks))), (mbx, .inl (cI, 20, .inl (aI bkx))), (mby, .inl (cI, 20, .inl (aI bky))), (mbi, .inl (cI, 20, .inl (aI bki))), (msn, .inl (cI, 4, .inl (aI sn1))), (miq, .inl (cI, 4, .inl (aI iq_2))), (mtb, .inl (cL, 25, .inr (.inl (aL tb)))), (mrt, .inl (cL, 5, .inr (.inl (aL (va_up rt1 i 0))))), (mgr, .inl (cL, 32, .inr (.inl (aL gr)))), (mup, .inl (cL, 5, .inr (.inl (aL ups))))] := hD
          refine lv_iconst (v := iI 0) hx hb dX6_guessBlock_24 rfl ?_
          refine lv_istore (lv' := [(4, .int (iI 0)), (0, .ref m0), (1, .int (iI x)), (2, .int (iI y)), (3, .int (iI (i : Int)))]) hx hb dX6_guessBlock_25 hl (by decide) rfl (fun ls hl => ?_)
          have LP27 : ∀ (n : Nat), ∀ (k : Nat) (rt2 : Nat → Int), (k ≤ 4) → (∀ j : Nat, j < i → rt2 j = sp_vb w L x y j) → (rt2 i = sm (fun k => sp_ut w (L.getD i 0) (x + ((k % 2 : Nat) : Int)) (y + ((k / 2 : Nat) : Int))) k) → (4 < k + n) → ∀ (H : Heap) (locs : List Loc), va_P D vwCl [(m0, .inr (6, [.ref mw, .int (iI kn), .int (iI kp), .int (iI sd), .ref mks, .ref mbx, .ref mby, .ref mbi, .int (iI bkn), .ref msn, .int (iI sns1), .ref miq, .ref mtb, .ref mrt, .ref mgr, .ref mup, .long (lI bel), .long (lI scl), .long (lI tp), .long (lI bt)])), (mw, .inl (cI, 760, .inl (aI w))), (mks, .inl (cI, 2, .inl (aI ks))), (mbx, .inl (cI, 20, .inl (aI bkx))), (mby, .inl (cI, 20, .inl (aI bky))), (mbi, .inl (cI, 20, .inl (aI bki))), (msn, .inl (cI, 4, .inl (aI sn1))), (miq, .inl (cI, 4, .inl (aI iq_2))), (mtb, .inl (cL, 25, .inr (.inl (aL tb)))), (mrt, .inl (cL, 5, .inr (.inl (aL rt2)))), (mgr, .inl (cL, 32, .inr (.inl (aL gr)))), (mup, .inl (cL, 5, .inr (.inl (aL ups))))] H → va_D A [(m0, .inr (6, [.ref mw, .int (iI kn), .int (iI kp), .int (iI sd), .ref mks, .ref mbx, .ref mby, .ref mbi, .int (iI bkn), .ref msn, .int (iI sns1), .ref miq, .ref mtb, .ref mrt, .ref mgr, .ref mup, .long (lI bel), .long (lI scl), .long (lI tp), .long (lI bt)])), (mw, .inl (cI, 760, .inl (aI w))), (mks, .inl (cI, 2, .inl (aI ks))), (mbx, .inl (cI, 20, .inl (aI bkx))), (mby, .inl (cI, 20, .inl (aI bky))), (mbi, .inl (cI, 20, .inl (aI bki))), (msn, .inl (cI, 4, .inl (aI sn1))), (miq, .inl (cI, 4, .inl (aI iq_2))), (mtb, .inl (cL, 25, .inr (.inl (aL tb)))), (mrt, .inl (cL, 5, .inr (.inl (aL rt2)))), (mgr, .inl (cL, 32, .inr (.inl (aL gr)))), (mup, .inl (cL, 5, .inr (.inl (aL ups))))] → va_S A s.heap H locs → ∀ (ls : Array Slot), lv_has ls 5 [(0, .ref m0), (1, .int (iI x)), (2, .int (iI y)), (3, .int (iI (i : Int))), (4, .int (iI (k : Int)))] → W p l e (rmF 4 95) s m args below meth c H locs 0 0 Q (F0 m 27 ls []) := by
            intro n
            induction n with
            | zero =>
              intro k rt2 hk hinv2 hacc hfu
              exfalso
              omega
            | succ n ih27 =>
              intro k rt2 hk hinv2 hacc hfu H locs hP hD hS ls hl
              refine lv_iload hx hb dX6_guessBlock_27 (lv_at hl 4 rfl) ?_
              refine lv_iconst (v := iI 4) hx hb dX6_guessBlock_29 rfl ?_
              refine zr_icmp_ge (tgt := 71) hx hb dX6_guessBlock_30 (by decide) (by omega) (by omega) (fun c_9 => ?_) (fun c_9 => ?_)
              · skip
                refine lv_iinc (v := iI ((i : Int) + 1)) (lv' := [(3, .int (iI ((i : Int) + 1))), (0, .ref m0), (1, .int (iI x)), (2, .int (iI y)), (4, .int (iI (k : Int)))]) hx hb dX6_guessBlock_71 hl (k := 3) rfl (iI_add _ _) (by decide) rfl (fun ls hl => ?_)
                refine lv_goto (tgt := 9) hx hb dX6_guessBlock_74 (by decide) ?_
                exact ih9 (i + 1) rt2 (by omega) (fun j h => by rcases Nat.lt_or_ge j i with q | q; (exact hinv2 j q); (rw [show j = i by omega, hacc, show k = 4 by omega]; rfl)) (by omega) _ _ hP hD hS ls (lv_sub hl [1, 2, 3, 0] rfl)
              · skip
                have g1 := okL_get hok (j := i) (by omega)
                have hur := sp_ut_rg hv g1 (x := x + ((k % 2 : Nat) : Int)) (y := y + ((k / 2 : Nat) : Int)) (by omega) (by omega)
                refine lv_aload_n hx hb dX6_guessBlock_33 rfl (lv_at hl 0 rfl) ?_
                refine va_get (D := D) (ci := 6) (v := .ref mrt) (C := RX6) (T := TX6) (N := 20) hx hb hU inlX6 hown hK hP 0 rfl rfl 13 (by decide) (hU _ kf_RX6_35) (fun _ h9 => h9) rfl dX6_guessBlock_34 ?_
                refine lv_iload_n hx hb dX6_guessBlock_37 rfl (lv_at hl 3 rfl) ?_
                refine lv_dup2_11 hx hb dX6_guessBlock_38 rfl rfl ?_
                refine zr_lald hx hb hK hP 9 1 rfl rfl i (by omega) (by omega) (Nat.le_of_ble_eq_true rfl) dX6_guessBlock_39 ?_
                refine lv_aload_n hx hb dX6_guessBlock_40 rfl (lv_at hl 0 rfl) ?_
                refine lv_aload_n hx hb dX6_guessBlock_41 rfl (lv_at hl 0 rfl) ?_
                refine va_get (D := D) (ci := 6) (v := .ref msn) (C := RX6) (T := TX6) (N := 20) hx hb hU inlX6 hown hK hP 0 rfl rfl 9 (by decide) (hU _ kf_RX6_25) (fun _ h9 => h9) rfl dX6_guessBlock_42 ?_
                refine lv_iload_n hx hb dX6_guessBlock_45 rfl (lv_at hl 3 rfl) ?_
                refine zr_iald hx hb hK hP 6 0 rfl rfl i (by omega) (by omega) (Nat.le_of_ble_eq_true rfl) dX6_guessBlock_46 ?_
                refine zr_rw (v := (((L.getD i 0) : Nat) : Int)) (hL.2 i (by omega)) ?_
                refine lv_iload_n hx hb dX6_guessBlock_47 rfl (lv_at hl 1 rfl) ?_
                refine lv_iload hx hb dX6_guessBlock_48 (lv_at hl 4 rfl) ?_
                refine lv_iconst (v := iI 2) hx hb dX6_guessBlock_50 rfl ?_
                refine zr_irem hx hb dX6_guessBlock_51 (by omega) (by omega) (by omega) ?_
                refine zr_rw (v := (((k % 2) : Nat) : Int)) (tmod_nat _ 2) ?_
                refine zr_iadd hx hb dX6_guessBlock_52 ?_
                refine lv_iload_n hx hb dX6_guessBlock_53 rfl (lv_at hl 2 rfl) ?_
                refine lv_iload hx hb dX6_guessBlock_54 (lv_at hl 4 rfl) ?_
                refine lv_iconst (v := iI 2) hx hb dX6_guessBlock_56 rfl ?_
                refine zr_idiv hx hb dX6_guessBlock_57 (by omega) (by omega) (by omega) ?_
                refine zr_rw (v := (((k / 2) : Nat) : Int)) (tdiv_nat _ 2) ?_
                refine zr_iadd hx hb dX6_guessBlock_58 ?_
                refine zc_Vi (As := [.int (iI (((L.getD i 0) : Nat) : Int)), .int (iI (x + (((k % 2) : Nat) : Int))), .int (iI (y + (((k / 2) : Nat) : Int)))]) (rest := [.long (lI (rt2 i)), .int (iI (i : Int)), .ref mrt]) (c_X6_unlikeTo l D cI cL cG cM m0 mw mks mbx mby mbi msn miq mtb mrt mgr mup w kn kp sd ks bkx bky bki bkn sn1 sns1 iq_2 tb rt2 gr ups bel scl tp bt (L.getD i 0) (x + (((k % 2) : Nat) : Int)) (y + (((k / 2) : Nat) : Int)) (hv) (by omega) (by omega) (by omega)) hx hb hml hown hU hl.1 ct_yX6_unlikeTo cv_yX6_unlikeTo km_RX6_77 hK hNst hP 6 0 rfl rfl rfl ⟨rfl, rfl⟩ ⟨Nat.le_of_ble_eq_true rfl, Nat.le_of_ble_eq_true rfl⟩ rfl rfl (Nat.le_of_ble_eq_true rfl) dX6_guessBlock_59 ⟨Nat.le_of_ble_eq_true rfl, Nat.le_of_ble_eq_true rfl⟩ ?_
                refine zr_i2l hx hb dX6_guessBlock_62 (by omega) ?_
                refine zr_ladd hx hb dX6_guessBlock_63 ?_
                refine zr_last hx hb hK hP hD hS 9 1 rfl rfl i (by omega) (by omega) (Nat.le_of_ble_eq_true rfl) dX6_guessBlock_64 (fun H locs hP hD hS => ?_)
                have hP : va_P D vwCl [(m0, .inr (6, [.ref mw, .int (iI kn), .int (iI kp), .int (iI sd), .ref mks, .ref mbx, .ref mby, .ref mbi, .int (iI bkn), .ref msn, .int (iI sns1), .ref miq, .ref mtb, .ref mrt, .ref mgr, .ref mup, .long (lI bel), .long (lI scl), .long (lI tp), .long (lI bt)])), (mw, .inl (cI, 760, .inl (aI w))), (mks, .inl (cI, 2, .inl (aI ks))), (mbx, .inl (cI, 20, .inl (aI bkx))), (mby, .inl (cI, 20, .inl (aI bky))), (mbi, .inl (cI, 20, .inl (aI bki))), (msn, .inl (cI, 4, .inl (aI sn1))), (miq, .inl (cI, 4, .inl (aI iq_2))), (mtb, .inl (cL, 25, .inr (.inl (aL tb)))), (mrt, .inl (cL, 5, .inr (.inl (aL (va_up rt2 i ((rt2 i) + (sp_ut w (L.getD i 0) (x + (((k % 2) : Nat) : Int)) (y + (((k / 2) : Nat) : Int))))))))), (mgr, .inl (cL, 32, .inr (.inl (aL gr)))), (mup, .inl (cL, 5, .inr (.inl (aL ups))))] H := hP
                have hD : va_D A [(m0, .inr (6, [.ref mw, .int (iI kn), .int (iI kp), .int (iI sd), .ref mks, .ref mbx, .ref mby, .ref mbi, .int (iI bkn), .ref msn, .int (iI sns1), .ref miq, .ref mtb, .ref mrt, .ref mgr, .ref mup, .long (lI bel), .long (lI scl), .long (lI tp), .long (lI bt)])), (mw, .inl (cI, 760, .inl (aI w))), (mks, .inl (cI, 2, .inl (aI ks))), (mbx, .inl (cI, 20, .inl (aI bkx))), (mby, .inl (cI, 20, .inl (aI bky))), (mbi, .inl (cI, 20, .inl (aI bki))), (msn, .inl (cI, 4, .inl (aI sn1))), (miq, .inl (cI, 4, .inl (aI iq_2))), (mtb, .inl (cL, 25, .inr (.inl (aL tb)))), (mrt, .inl (cL, 5, .inr (.inl (aL (va_up rt2 i ((rt2 i) + (sp_ut w (L.getD i 0) (x + (((k % 2) : Nat) : Int)) (y + (((k / 2) : Nat) : Int))))))))), (mgr, .inl (cL, 32, .inr (.inl (aL gr)))), (mup, .inl (cL, 5, .inr (.inl (aL ups))))] := hD
                refine lv_iinc (v := iI ((k : Int) + 1)) (lv' := [(4, .int (iI ((k : Int) + 1))), (0, .ref m0), (1, .int (iI x)), (2, .int (iI y)), (3, .int (iI (i : Int)))]) hx hb dX6_guessBlock_65 hl (k := 4) rfl (iI_add _ _) (by decide) rfl (fun ls hl => ?_)
                refine lv_goto (tgt := 27) hx hb dX6_guessBlock_68 (by decide) ?_
                exact ih27 (k + 1) (va_up rt2 i ((rt2 i) + (sp_ut w (L.getD i 0) (x + (((k % 2) : Nat) : Int)) (y + (((k / 2) : Nat) : Int))))) (by omega) (fun j h => by rw [va_up_ne _ _ (by omega)]; exact hinv2 j h) (by rw [va_up_self, hacc]; rfl) (by omega) _ _ hP hD hS ls (lv_sub hl [1, 2, 3, 4, 0] rfl)
          exact LP27 5 0 (va_up rt1 i 0) (by omega) (fun j h => by rw [va_up_ne _ _ (by omega)]; exact hinv j h) (va_up_self _ _ _) (by omega) _ _ hP hD hS ls (lv_sub hl [1, 2, 3, 4, 0] rfl)
    exact LP9 (L.length + 1) 0 rt (by omega) (fun j h => absurd h (Nat.not_lt_zero j)) (by omega) _ _ hP hD hS ls (lv_sub hl [1, 2, 3, 0] rfl)
  rw [hlocs]
  exact hW0 s.heap [] hP hD hS

set_option maxHeartbeats 4000000 in
set_option maxRecDepth 100000 in
theorem c_X6_looks (l : Launch) (D : va_G) (cI cL cG cM : ClassId) (m0 mw mks mbx mby mbi msn miq mtb mrt mgr mup : Nat) (w : Nat → Int) (kn : Int) (kp : Int) (sd : Int) (ks : Nat → Int) (bkx : Nat → Int) (bky : Nat → Int) (bki : Nat → Int) (bkn : Int) (sn : Nat → Int) (sns : Int) (iq : Nat → Int) (tb : Nat → Int) (rt : Nat → Int) (gr : Nat → Int) (ups : Nat → Int) (bel : Int) (scl : Int) (tp : Int) (bt : Int) (L : List Nat) (hv : vR w) (hok : okL w L) (hL : isL L sn sns) : Met l yX6_looks (wU yX6_looks cX6_looks 3 (some .int)) (rmF 0 0) (pcR D (tyA cI cL cG cM) [(m0, .inr (6, [.ref mw, .int (iI kn), .int (iI kp), .int (iI sd), .ref mks, .ref mbx, .ref mby, .ref mbi, .int (iI bkn), .ref msn, .int (iI sns), .ref miq, .ref mtb, .ref mrt, .ref mgr, .ref mup, .long (lI bel), .long (lI scl), .long (lI tp), .long (lI bt)])), (mw, .inl (cI, 760, .inl (aI w))), (mks, .inl (cI, 2, .inl (aI ks))), (mbx, .inl (cI, 20, .inl (aI bkx))), (mby, .inl (cI, 20, .inl (aI bky))), (mbi, .inl (cI, 20, .inl (aI bki))), (msn, .inl (cI, 4, .inl (aI sn))), (miq, .inl (cI, 4, .inl (aI iq))), (mtb, .inl (cL, 25, .inr (.inl (aL tb)))), (mrt, .inl (cL, 5, .inr (.inl (aL rt)))), (mgr, .inl (cL, 32, .inr (.inl (aL gr)))), (mup, .inl (cL, 5, .inr (.inl (aL ups))))] [.ref m0]) (qRi ((sp_sets (fun _ => True) L L.length : Nat) : Int)) 0 0 (fun _ => False) := by
  refine zm_R (own := RX6) (lv := [(0, .ref m0)]) (by decide) rfl (Nat.le_of_ble_eq_true rfl) rfl ?_
  intro p e s m below meth c args Q hx hb hr hml hown hU hlk hP hK hNst hQ ls hl
  have h0 := hv.1
  have h7 := hv.2.2.2.2.2.2.2.1
  have h8 := hv.2.2.2.2.2.2.2.2.1
  have h9 := hv.2.2.2.2.2.2.2.2.2.1
  have h4 := okL_le hv hok
  have hl1 := hL.1
  refine lv_iconst (v := iI 0) hx hb dX6_looks_0 rfl ?_
  refine lv_istore_n (lv' := [(1, .int (iI 0)), (0, .ref m0)]) hx hb dX6_looks_1 rfl hl (by decide) rfl (fun ls hl => ?_)
  refine lv_iconst (v := iI 0) hx hb dX6_looks_2 rfl ?_
  refine lv_istore_n (lv' := [(2, .int (iI 0)), (1, .int (iI 0)), (0, .ref m0)]) hx hb dX6_looks_3 rfl hl (by decide) rfl (fun ls hl => ?_)
  have LP4 : ∀ (n : Nat), ∀ (k : Nat), (k ≤ L.length) → (L.length < k + n) → ∀ (ls : Array Slot), lv_has ls 3 [(0, .ref m0), (1, .int (iI (((sp_sets (fun _ => True) L k) : Nat) : Int))), (2, .int (iI (k : Int)))] → W p l e (rmF 0 0) s m args below meth c s.heap [] 0 0 Q (F0 m 4 ls []) := by
    intro n
    induction n with
    | zero =>
      intro k hk hfu
      exfalso
      omega
    | succ n ih4 =>
      intro k hk hfu ls hl
      refine lv_iload_n hx hb dX6_looks_4 rfl (lv_at hl 2 rfl) ?_
      refine lv_aload_n hx hb dX6_looks_5 rfl (lv_at hl 0 rfl) ?_
      refine va_get (D := D) (ci := 6) (v := .int (iI sns)) (C := RX6) (T := TX6) (N := 20) hx hb hU inlX6 hown hK hP 0 rfl rfl 10 (by decide) (hU _ kf_RX6_65) (fun _ h9 => h9) rfl dX6_looks_6 ?_
      refine zr_icmp_ge (tgt := 29) hx hb dX6_looks_9 (by decide) (by omega) (by omega) (fun c_1 => ?_) (fun c_1 => ?_)
      · skip
        refine lv_iload_n hx hb dX6_looks_29 rfl (lv_at hl 1 rfl) ?_
        rw [hQ]
        exact ze_Ri hx hb hr hlk dX6_looks_30 (by rw [show k = L.length by omega])
      · skip
        have g1 := okL_get hok (j := k) (by omega)
        refine lv_iload_n hx hb dX6_looks_12 rfl (lv_at hl 1 rfl) ?_
        refine lv_iconst (v := iI 1) hx hb dX6_looks_13 rfl ?_
        refine lv_aload_n hx hb dX6_looks_14 rfl (lv_at hl 0 rfl) ?_
        refine va_get (D := D) (ci := 6) (v := .ref msn) (C := RX6) (T := TX6) (N := 20) hx hb hU inlX6 hown hK hP 0 rfl rfl 9 (by decide) (hU _ kf_RX6_25) (fun _ h9 => h9) rfl dX6_looks_15 ?_
        refine lv_iload_n hx hb dX6_looks_18 rfl (lv_at hl 2 rfl) ?_
        refine zr_iald hx hb hK hP 6 0 rfl rfl k (by omega) (by omega) (Nat.le_of_ble_eq_true rfl) dX6_looks_19 ?_
        refine zr_rw (v := (((L.getD k 0) : Nat) : Int)) (hL.2 k (by omega)) ?_
        refine lv_ishl hx hb dX6_looks_20 ?_
        refine zr_bti (z := (((2 ^ L.getD k 0) : Nat) : Int)) (bt_shl _ (by omega)) ?_
        refine lv_ior hx hb dX6_looks_21 ?_
        refine zr_bti (z := (((sp_sets (fun _ => True) L (k + 1)) : Nat) : Int)) (by rw [bt_or, sp_sets, if_pos trivial]) ?_
        refine lv_istore_n (lv' := [(1, .int (iI (((sp_sets (fun _ => True) L (k + 1)) : Nat) : Int))), (0, .ref m0), (2, .int (iI (k : Int)))]) hx hb dX6_looks_22 rfl hl (by decide) rfl (fun ls hl => ?_)
        refine lv_iinc (v := iI ((k : Int) + 1)) (lv' := [(2, .int (iI ((k : Int) + 1))), (1, .int (iI (((sp_sets (fun _ => True) L (k + 1)) : Nat) : Int))), (0, .ref m0)]) hx hb dX6_looks_23 hl (k := 2) rfl (iI_add _ _) (by decide) rfl (fun ls hl => ?_)
        refine lv_goto (tgt := 4) hx hb dX6_looks_26 (by decide) ?_
        exact ih4 (k + 1) (by omega) (by omega) ls (lv_sub hl [2, 1, 0] rfl)
  exact LP4 (L.length + 1) 0 (by omega) (by omega) ls (lv_sub hl [2, 1, 0] rfl)

set_option maxHeartbeats 4000000 in
set_option maxRecDepth 100000 in
theorem c_X6_negatives (l : Launch) (D : va_G) (cI cL cG cM : ClassId) (m0 mw mks mbx mby mbi msn miq mtb mrt mgr mup : Nat) (w : Nat → Int) (kn : Int) (kp : Int) (sd : Int) (ks : Nat → Int) (bkx : Nat → Int) (bky : Nat → Int) (bki : Nat → Int) (bkn : Int) (sn : Nat → Int) (sns : Int) (iq : Nat → Int) (tb : Nat → Int) (rt : Nat → Int) (gr : Nat → Int) (ups : Nat → Int) (bel : Int) (scl : Int) (tp : Int) (bt : Int) (L : List Nat) (v : Nat → Int) (pz : Int) (hv : vR w) (hok : okL w L) (hL : isL L sn sns) (hg : gOK w L v pz rt ups bel scl) (hx1 : gEx w L) (hV : okV L.length v pz) : Met l yX6_negatives (wU yX6_negatives cX6_negatives 3 (some .int)) (rmF 0 0) (pcR D (tyA cI cL cG cM) [(m0, .inr (6, [.ref mw, .int (iI kn), .int (iI kp), .int (iI sd), .ref mks, .ref mbx, .ref mby, .ref mbi, .int (iI bkn), .ref msn, .int (iI sns), .ref miq, .ref mtb, .ref mrt, .ref mgr, .ref mup, .long (lI bel), .long (lI scl), .long (lI tp), .long (lI bt)])), (mw, .inl (cI, 760, .inl (aI w))), (mks, .inl (cI, 2, .inl (aI ks))), (mbx, .inl (cI, 20, .inl (aI bkx))), (mby, .inl (cI, 20, .inl (aI bky))), (mbi, .inl (cI, 20, .inl (aI bki))), (msn, .inl (cI, 4, .inl (aI sn))), (miq, .inl (cI, 4, .inl (aI iq))), (mtb, .inl (cL, 25, .inr (.inl (aL tb)))), (mrt, .inl (cL, 5, .inr (.inl (aL rt)))), (mgr, .inl (cL, 32, .inr (.inl (aL gr)))), (mup, .inl (cL, 5, .inr (.inl (aL ups))))] [.ref m0]) (qRi ((sp_sets (sp_ngt w L v pz) L L.length : Nat) : Int)) 0 0 (fun _ => False) := by
  refine zm_R (own := RX6) (lv := [(0, .ref m0)]) (by decide) rfl (Nat.le_of_ble_eq_true rfl) rfl ?_
  intro p e s m below meth c args Q hx hb hr hml hown hU hlk hP hK hNst hQ ls hl
  have h0 := hv.1
  have h7 := hv.2.2.2.2.2.2.2.1
  have h8 := hv.2.2.2.2.2.2.2.2.1
  have h9 := hv.2.2.2.2.2.2.2.2.2.1
  have h4 := okL_le hv hok
  have hl1 := hL.1
  have hdr := nD_rg hv hok
  have hb0 : bel = nD w L ∨ bel = -nD w L := by rcases sg_cases L.length with h | h <;> (have := hg.2.2.1; rw [h] at this; omega)
  have hd0 := hx1.2
  refine lv_iconst (v := iI 0) hx hb dX6_negatives_0 rfl ?_
  refine lv_istore_n (lv' := [(1, .int (iI 0)), (0, .ref m0)]) hx hb dX6_negatives_1 rfl hl (by decide) rfl (fun ls hl => ?_)
  refine lv_iconst (v := iI 0) hx hb dX6_negatives_2 rfl ?_
  refine lv_istore_n (lv' := [(2, .int (iI 0)), (1, .int (iI 0)), (0, .ref m0)]) hx hb dX6_negatives_3 rfl hl (by decide) rfl (fun ls hl => ?_)
  have LP4 : ∀ (n : Nat), ∀ (k : Nat), (k ≤ L.length) → (L.length < k + n) → ∀ (ls : Array Slot), lv_has ls 3 [(0, .ref m0), (1, .int (iI (((sp_sets (sp_ngt w L v pz) L k) : Nat) : Int))), (2, .int (iI (k : Int)))] → W p l e (rmF 0 0) s m args below meth c s.heap [] 0 0 Q (F0 m 4 ls []) := by
    intro n
    induction n with
    | zero =>
      intro k hk hfu
      exfalso
      omega
    | succ n ih4 =>
      intro k hk hfu ls hl
      refine lv_iload_n hx hb dX6_negatives_4 rfl (lv_at hl 2 rfl) ?_
      refine lv_aload_n hx hb dX6_negatives_5 rfl (lv_at hl 0 rfl) ?_
      refine va_get (D := D) (ci := 6) (v := .int (iI sns)) (C := RX6) (T := TX6) (N := 20) hx hb hU inlX6 hown hK hP 0 rfl rfl 10 (by decide) (hU _ kf_RX6_65) (fun _ h9 => h9) rfl dX6_negatives_6 ?_
      refine zr_icmp_ge (tgt := 77) hx hb dX6_negatives_9 (by decide) (by omega) (by omega) (fun c_1 => ?_) (fun c_1 => ?_)
      · skip
        refine lv_iload_n hx hb dX6_negatives_77 rfl (lv_at hl 1 rfl) ?_
        rw [hQ]
        exact ze_Ri hx hb hr hlk dX6_negatives_78 (by rw [show k = L.length by omega])
      · skip
        have g1 := okL_get hok (j := k) (by omega)
        have hpr := nP_rg hv hok hV k
        have hu0 : ups k = nP w L v pz k ∨ ups k = -nP w L v pz k := by rcases sg_cases L.length with h | h <;> (have := hg.2.2.2.1 k (by omega); rw [h] at this; omega)
        refine lv_iload_n hx hb dX6_negatives_12 rfl (lv_at hl 1 rfl) ?_
        refine lv_aload_n hx hb dX6_negatives_13 rfl (lv_at hl 0 rfl) ?_
        refine va_get (D := D) (ci := 6) (v := .ref mup) (C := RX6) (T := TX6) (N := 20) hx hb hU inlX6 hown hK hP 0 rfl rfl 15 (by decide) (hU _ kf_RX6_41) (fun _ h9 => h9) rfl dX6_negatives_14 ?_
        refine lv_iload_n hx hb dX6_negatives_17 rfl (lv_at hl 2 rfl) ?_
        refine zr_lald hx hb hK hP 11 1 rfl rfl k (by omega) (by omega) (Nat.le_of_ble_eq_true rfl) dX6_negatives_18 ?_
        refine lv_lconst (v := lI 0) hx hb dX6_negatives_19 rfl ?_
        refine zr_lcmp_ge (tgt := 28) hx hb dX6_negatives_20 dX6_negatives_21 (by decide) (by omega) (by omega) (fun c_2 => ?_) (fun c_2 => ?_)
        · skip
          refine lv_iconst (v := iI 0) hx hb dX6_negatives_28 rfl ?_
          refine lv_aload_n hx hb dX6_negatives_29 rfl (lv_at hl 0 rfl) ?_
          refine va_get (D := D) (ci := 6) (v := .long (lI bel)) (C := RX6) (T := TX6) (N := 20) hx hb hU inlX6 hown hK hP 0 rfl rfl 16 (by decide) (hU _ kf_RX6_88) (fun _ h9 => h9) rfl dX6_negatives_30 ?_
          refine lv_lconst (v := lI 0) hx hb dX6_negatives_33 rfl ?_
          refine zr_lcmp_ge (tgt := 42) hx hb dX6_negatives_34 dX6_negatives_35 (by decide) (by omega) (by omega) (fun c_3 => ?_) (fun c_3 => ?_)
          · skip
            refine lv_iconst (v := iI 0) hx hb dX6_negatives_42 rfl ?_
            refine zr_icmp_eq (tgt := 68) hx hb dX6_negatives_43 (by decide) (by omega) (by omega) (fun c_4 => ?_) (fun c_4 => absurd c_4 (by decide))
            refine lv_iconst (v := iI 0) hx hb dX6_negatives_68 rfl ?_
            refine lv_ior hx hb dX6_negatives_69 ?_
            refine zr_bti (z := (((sp_sets (sp_ngt w L v pz) L (k + 1)) : Nat) : Int)) (by rw [bt_or0, sp_sets, if_neg (fun h => by have h2 := (ngt_iff _ (hg.2.2.2.1 k (by omega)) hg.2.2.1).mp h; omega), Nat.or_zero]) ?_
            refine lv_istore_n (lv' := [(1, .int (iI (((sp_sets (sp_ngt w L v pz) L (k + 1)) : Nat) : Int))), (0, .ref m0), (2, .int (iI (k : Int)))]) hx hb dX6_negatives_70 rfl hl (by decide) rfl (fun ls hl => ?_)
            refine lv_iinc (v := iI ((k : Int) + 1)) (lv' := [(2, .int (iI ((k : Int) + 1))), (1, .int (iI (((sp_sets (sp_ngt w L v pz) L (k + 1)) : Nat) : Int))), (0, .ref m0)]) hx hb dX6_negatives_71 hl (k := 2) rfl (iI_add _ _) (by decide) rfl (fun ls hl => ?_)
            refine lv_goto (tgt := 4) hx hb dX6_negatives_74 (by decide) ?_
            exact ih4 (k + 1) (by omega) (by omega) ls (lv_sub hl [2, 1, 0] rfl)
          · skip
            refine lv_iconst (v := iI 1) hx hb dX6_negatives_38 rfl ?_
            refine lv_goto (tgt := 43) hx hb dX6_negatives_39 (by decide) ?_
            refine zr_icmp_eq (tgt := 68) hx hb dX6_negatives_43 (by decide) (by omega) (by omega) (fun c_5 => absurd c_5 (by decide)) (fun c_5 => ?_)
            refine lv_aload_n hx hb dX6_negatives_46 rfl (lv_at hl 0 rfl) ?_
            refine va_get (D := D) (ci := 6) (v := .ref mup) (C := RX6) (T := TX6) (N := 20) hx hb hU inlX6 hown hK hP 0 rfl rfl 15 (by decide) (hU _ kf_RX6_41) (fun _ h9 => h9) rfl dX6_negatives_47 ?_
            refine lv_iload_n hx hb dX6_negatives_50 rfl (lv_at hl 2 rfl) ?_
            refine zr_lald hx hb hK hP 11 1 rfl rfl k (by omega) (by omega) (Nat.le_of_ble_eq_true rfl) dX6_negatives_51 ?_
            refine lv_lconst (v := lI 0) hx hb dX6_negatives_52 rfl ?_
            refine zr_lcmp_eq (tgt := 68) hx hb dX6_negatives_53 dX6_negatives_54 (by decide) (by omega) (by omega) (fun c_6 => ?_) (fun c_6 => ?_)
            · skip
              refine lv_iconst (v := iI 0) hx hb dX6_negatives_68 rfl ?_
              refine lv_ior hx hb dX6_negatives_69 ?_
              refine zr_bti (z := (((sp_sets (sp_ngt w L v pz) L (k + 1)) : Nat) : Int)) (by rw [bt_or0, sp_sets, if_neg (fun h => by have h2 := (ngt_iff _ (hg.2.2.2.1 k (by omega)) hg.2.2.1).mp h; omega), Nat.or_zero]) ?_
              refine lv_istore_n (lv' := [(1, .int (iI (((sp_sets (sp_ngt w L v pz) L (k + 1)) : Nat) : Int))), (0, .ref m0), (2, .int (iI (k : Int)))]) hx hb dX6_negatives_70 rfl hl (by decide) rfl (fun ls hl => ?_)
              refine lv_iinc (v := iI ((k : Int) + 1)) (lv' := [(2, .int (iI ((k : Int) + 1))), (1, .int (iI (((sp_sets (sp_ngt w L v pz) L (k + 1)) : Nat) : Int))), (0, .ref m0)]) hx hb dX6_negatives_71 hl (k := 2) rfl (iI_add _ _) (by decide) rfl (fun ls hl => ?_)
              refine lv_goto (tgt := 4) hx hb dX6_negatives_74 (by decide) ?_
              exact ih4 (k + 1) (by omega) (by omega) ls (lv_sub hl [2, 1, 0] rfl)
            · skip
              refine lv_iconst (v := iI 1) hx hb dX6_negatives_57 rfl ?_
              refine lv_aload_n hx hb dX6_negatives_58 rfl (lv_at hl 0 rfl) ?_
              refine va_get (D := D) (ci := 6) (v := .ref msn) (C := RX6) (T := TX6) (N := 20) hx hb hU inlX6 hown hK hP 0 rfl rfl 9 (by decide) (hU _ kf_RX6_25) (fun _ h9 => h9) rfl dX6_negatives_59 ?_
              refine lv_iload_n hx hb dX6_negatives_62 rfl (lv_at hl 2 rfl) ?_
              refine zr_iald hx hb hK hP 6 0 rfl rfl k (by omega) (by omega) (Nat.le_of_ble_eq_true rfl) dX6_negatives_63 ?_
              refine zr_rw (v := (((L.getD k 0) : Nat) : Int)) (hL.2 k (by omega)) ?_
              refine lv_ishl hx hb dX6_negatives_64 ?_
              refine zr_bti (z := (((2 ^ L.getD k 0) : Nat) : Int)) (bt_shl _ (by omega)) ?_
              refine lv_goto (tgt := 69) hx hb dX6_negatives_65 (by decide) ?_
              refine lv_ior hx hb dX6_negatives_69 ?_
              refine zr_bti (z := (((sp_sets (sp_ngt w L v pz) L (k + 1)) : Nat) : Int)) (by rw [bt_or, sp_sets, if_pos ((ngt_iff _ (hg.2.2.2.1 k (by omega)) hg.2.2.1).mpr (by omega))]) ?_
              refine lv_istore_n (lv' := [(1, .int (iI (((sp_sets (sp_ngt w L v pz) L (k + 1)) : Nat) : Int))), (0, .ref m0), (2, .int (iI (k : Int)))]) hx hb dX6_negatives_70 rfl hl (by decide) rfl (fun ls hl => ?_)
              refine lv_iinc (v := iI ((k : Int) + 1)) (lv' := [(2, .int (iI ((k : Int) + 1))), (1, .int (iI (((sp_sets (sp_ngt w L v pz) L (k + 1)) : Nat) : Int))), (0, .ref m0)]) hx hb dX6_negatives_71 hl (k := 2) rfl (iI_add _ _) (by decide) rfl (fun ls hl => ?_)
              refine lv_goto (tgt := 4) hx hb dX6_negatives_74 (by decide) ?_
              exact ih4 (k + 1) (by omega) (by omega) ls (lv_sub hl [2, 1, 0] rfl)
        · skip
          refine lv_iconst (v := iI 1) hx hb dX6_negatives_24 rfl ?_
          refine lv_goto (tgt := 29) hx hb dX6_negatives_25 (by decide) ?_
          refine lv_aload_n hx hb dX6_negatives_29 rfl (lv_at hl 0 rfl) ?_
          refine va_get (D := D) (ci := 6) (v := .long (lI bel)) (C := RX6) (T := TX6) (N := 20) hx hb hU inlX6 hown hK hP 0 rfl rfl 16 (by decide) (hU _ kf_RX6_88) (fun _ h9 => h9) rfl dX6_negatives_30 ?_
          refine lv_lconst (v := lI 0) hx hb dX6_negatives_33 rfl ?_
          refine zr_lcmp_ge (tgt := 42) hx hb dX6_negatives_34 dX6_negatives_35 (by decide) (by omega) (by omega) (fun c_7 => ?_) (fun c_7 => ?_)
          · skip
            refine lv_iconst (v := iI 0) hx hb dX6_negatives_42 rfl ?_
            refine zr_icmp_eq (tgt := 68) hx hb dX6_negatives_43 (by decide) (by omega) (by omega) (fun c_8 => absurd c_8 (by decide)) (fun c_8 => ?_)
            refine lv_aload_n hx hb dX6_negatives_46 rfl (lv_at hl 0 rfl) ?_
            refine va_get (D := D) (ci := 6) (v := .ref mup) (C := RX6) (T := TX6) (N := 20) hx hb hU inlX6 hown hK hP 0 rfl rfl 15 (by decide) (hU _ kf_RX6_41) (fun _ h9 => h9) rfl dX6_negatives_47 ?_
            refine lv_iload_n hx hb dX6_negatives_50 rfl (lv_at hl 2 rfl) ?_
            refine zr_lald hx hb hK hP 11 1 rfl rfl k (by omega) (by omega) (Nat.le_of_ble_eq_true rfl) dX6_negatives_51 ?_
            refine lv_lconst (v := lI 0) hx hb dX6_negatives_52 rfl ?_
            refine zr_lcmp_eq (tgt := 68) hx hb dX6_negatives_53 dX6_negatives_54 (by decide) (by omega) (by omega) (fun c_9 => ?_) (fun c_9 => ?_)
            · skip
              refine lv_iconst (v := iI 0) hx hb dX6_negatives_68 rfl ?_
              refine lv_ior hx hb dX6_negatives_69 ?_
              refine zr_bti (z := (((sp_sets (sp_ngt w L v pz) L (k + 1)) : Nat) : Int)) (by rw [bt_or0, sp_sets, if_neg (fun h => by have h2 := (ngt_iff _ (hg.2.2.2.1 k (by omega)) hg.2.2.1).mp h; omega), Nat.or_zero]) ?_
              refine lv_istore_n (lv' := [(1, .int (iI (((sp_sets (sp_ngt w L v pz) L (k + 1)) : Nat) : Int))), (0, .ref m0), (2, .int (iI (k : Int)))]) hx hb dX6_negatives_70 rfl hl (by decide) rfl (fun ls hl => ?_)
              refine lv_iinc (v := iI ((k : Int) + 1)) (lv' := [(2, .int (iI ((k : Int) + 1))), (1, .int (iI (((sp_sets (sp_ngt w L v pz) L (k + 1)) : Nat) : Int))), (0, .ref m0)]) hx hb dX6_negatives_71 hl (k := 2) rfl (iI_add _ _) (by decide) rfl (fun ls hl => ?_)
              refine lv_goto (tgt := 4) hx hb dX6_negatives_74 (by decide) ?_
              exact ih4 (k + 1) (by omega) (by omega) ls (lv_sub hl [2, 1, 0] rfl)
            · skip
              refine lv_iconst (v := iI 1) hx hb dX6_negatives_57 rfl ?_
              refine lv_aload_n hx hb dX6_negatives_58 rfl (lv_at hl 0 rfl) ?_
              refine va_get (D := D) (ci := 6) (v := .ref msn) (C := RX6) (T := TX6) (N := 20) hx hb hU inlX6 hown hK hP 0 rfl rfl 9 (by decide) (hU _ kf_RX6_25) (fun _ h9 => h9) rfl dX6_negatives_59 ?_
              refine lv_iload_n hx hb dX6_negatives_62 rfl (lv_at hl 2 rfl) ?_
              refine zr_iald hx hb hK hP 6 0 rfl rfl k (by omega) (by omega) (Nat.le_of_ble_eq_true rfl) dX6_negatives_63 ?_
              refine zr_rw (v := (((L.getD k 0) : Nat) : Int)) (hL.2 k (by omega)) ?_
              refine lv_ishl hx hb dX6_negatives_64 ?_
              refine zr_bti (z := (((2 ^ L.getD k 0) : Nat) : Int)) (bt_shl _ (by omega)) ?_
              refine lv_goto (tgt := 69) hx hb dX6_negatives_65 (by decide) ?_
              refine lv_ior hx hb dX6_negatives_69 ?_
              refine zr_bti (z := (((sp_sets (sp_ngt w L v pz) L (k + 1)) : Nat) : Int)) (by rw [bt_or, sp_sets, if_pos ((ngt_iff _ (hg.2.2.2.1 k (by omega)) hg.2.2.1).mpr (by omega))]) ?_
              refine lv_istore_n (lv' := [(1, .int (iI (((sp_sets (sp_ngt w L v pz) L (k + 1)) : Nat) : Int))), (0, .ref m0), (2, .int (iI (k : Int)))]) hx hb dX6_negatives_70 rfl hl (by decide) rfl (fun ls hl => ?_)
              refine lv_iinc (v := iI ((k : Int) + 1)) (lv' := [(2, .int (iI ((k : Int) + 1))), (1, .int (iI (((sp_sets (sp_ngt w L v pz) L (k + 1)) : Nat) : Int))), (0, .ref m0)]) hx hb dX6_negatives_71 hl (k := 2) rfl (iI_add _ _) (by decide) rfl (fun ls hl => ?_)
              refine lv_goto (tgt := 4) hx hb dX6_negatives_74 (by decide) ?_
              exact ih4 (k + 1) (by omega) (by omega) ls (lv_sub hl [2, 1, 0] rfl)
          · skip
            refine lv_iconst (v := iI 1) hx hb dX6_negatives_38 rfl ?_
            refine lv_goto (tgt := 43) hx hb dX6_negatives_39 (by decide) ?_
            refine zr_icmp_eq (tgt := 68) hx hb dX6_negatives_43 (by decide) (by omega) (by omega) (fun c_10 => ?_) (fun c_10 => absurd c_10 (by decide))
            refine lv_iconst (v := iI 0) hx hb dX6_negatives_68 rfl ?_
            refine lv_ior hx hb dX6_negatives_69 ?_
            refine zr_bti (z := (((sp_sets (sp_ngt w L v pz) L (k + 1)) : Nat) : Int)) (by rw [bt_or0, sp_sets, if_neg (fun h => by have h2 := (ngt_iff _ (hg.2.2.2.1 k (by omega)) hg.2.2.1).mp h; omega), Nat.or_zero]) ?_
            refine lv_istore_n (lv' := [(1, .int (iI (((sp_sets (sp_ngt w L v pz) L (k + 1)) : Nat) : Int))), (0, .ref m0), (2, .int (iI (k : Int)))]) hx hb dX6_negatives_70 rfl hl (by decide) rfl (fun ls hl => ?_)
            refine lv_iinc (v := iI ((k : Int) + 1)) (lv' := [(2, .int (iI ((k : Int) + 1))), (1, .int (iI (((sp_sets (sp_ngt w L v pz) L (k + 1)) : Nat) : Int))), (0, .ref m0)]) hx hb dX6_negatives_71 hl (k := 2) rfl (iI_add _ _) (by decide) rfl (fun ls hl => ?_)
            refine lv_goto (tgt := 4) hx hb dX6_negatives_74 (by decide) ?_
            exact ih4 (k + 1) (by omega) (by omega) ls (lv_sub hl [2, 1, 0] rfl)
  exact LP4 (L.length + 1) 0 (by omega) (by omega) ls (lv_sub hl [2, 1, 0] rfl)

set_option maxHeartbeats 4000000 in
set_option maxRecDepth 100000 in
theorem c_X6_inner (l : Launch) (D : va_G) (cI cL cG cM : ClassId) (m0 mw mks mbx mby mbi msn miq mtb mrt mgr mup : Nat) (w : Nat → Int) (kn : Int) (kp : Int) (sd : Int) (ks : Nat → Int) (bkx : Nat → Int) (bky : Nat → Int) (bki : Nat → Int) (bkn : Int) (sn : Nat → Int) (sns : Int) (iq : Nat → Int) (tb : Nat → Int) (rt : Nat → Int) (gr : Nat → Int) (ups : Nat → Int) (bel : Int) (scl : Int) (tp : Int) (bt : Int) (hv : vR w) : Met l yX6_inner (wU yX6_inner cX6_inner 6 (some .long)) (rmF 1 26) (pcR D (tyA cI cL cG cM) [(m0, .inr (6, [.ref mw, .int (iI kn), .int (iI kp), .int (iI sd), .ref mks, .ref mbx, .ref mby, .ref mbi, .int (iI bkn), .ref msn, .int (iI sns), .ref miq, .ref mtb, .ref mrt, .ref mgr, .ref mup, .long (lI bel), .long (lI scl), .long (lI tp), .long (lI bt)])), (mw, .inl (cI, 760, .inl (aI w))), (mks, .inl (cI, 2, .inl (aI ks))), (mbx, .inl (cI, 20, .inl (aI bkx))), (mby, .inl (cI, 20, .inl (aI bky))), (mbi, .inl (cI, 20, .inl (aI bki))), (msn, .inl (cI, 4, .inl (aI sn))), (miq, .inl (cI, 4, .inl (aI iq))), (mtb, .inl (cL, 25, .inr (.inl (aL tb)))), (mrt, .inl (cL, 5, .inr (.inl (aL rt)))), (mgr, .inl (cL, 32, .inr (.inl (aL gr)))), (mup, .inl (cL, 5, .inr (.inl (aL ups))))] [.ref m0]) (qRl (sp_inn w)) 0 0 (fun _ => False) := by
  refine zm_R (own := RX6) (lv := [(0, .ref m0)]) (by decide) rfl (Nat.le_of_ble_eq_true rfl) rfl ?_
  intro p e s m below meth c args Q hx hb hr hml hown hU hlk hP hK hNst hQ ls hl
  refine lv_lconst (v := lI 0) hx hb dX6_inner_0 rfl ?_
  refine lv_lstore_n (lv' := [(1, .long (lI 0)), (0, .ref m0)]) hx hb dX6_inner_1 rfl hl (by decide) rfl (fun ls hl => ?_)
  refine lv_iconst (v := iI 0) hx hb dX6_inner_2 rfl ?_
  refine lv_istore_n (lv' := [(3, .int (iI 0)), (1, .long (lI 0)), (0, .ref m0)]) hx hb dX6_inner_3 rfl hl (by decide) rfl (fun ls hl => ?_)
  have LP4 : ∀ (n : Nat), ∀ (k : Nat) (sm1 : Int), (k ≤ 16) → (sm1 = sm (fun k => sp_unl w (sp_fr (w 1) (((k / 4 % 2 : Nat) : Int) - ((k % 4 % 2 : Nat) : Int)) (((k / 4 / 2 : Nat) : Int) - ((k % 4 / 2 : Nat) : Int)))) k) → (16 < k + n) → ∀ (ls : Array Slot), lv_has ls 6 [(0, .ref m0), (1, .long (lI sm1)), (3, .int (iI (k : Int)))] → W p l e (rmF 1 26) s m args below meth c s.heap [] 0 0 Q (F0 m 4 ls []) := by
    intro n
    induction n with
    | zero =>
      intro k sm1 hk hsm hfu
      exfalso
      omega
    | succ n ih4 =>
      intro k sm1 hk hsm hfu ls hl
      refine lv_iload_n hx hb dX6_inner_4 rfl (lv_at hl 2 rfl) ?_
      refine lv_bipush (v := iI 16) hx hb dX6_inner_5 (by decide) ?_
      refine zr_icmp_ge (tgt := 54) hx hb dX6_inner_7 (by decide) (by omega) (by omega) (fun c_1 => ?_) (fun c_1 => ?_)
      · skip
        refine lv_lload_n hx hb dX6_inner_54 rfl (lv_at hl 1 rfl) ?_
        rw [hQ]
        exact ze_Rl hx hb hr hlk dX6_inner_55 (by rw [hsm, show k = 16 by omega]; rfl)
      · skip
        refine lv_iload_n hx hb dX6_inner_10 rfl (lv_at hl 2 rfl) ?_
        refine lv_iconst (v := iI 4) hx hb dX6_inner_11 rfl ?_
        refine zr_idiv hx hb dX6_inner_12 (by omega) (by omega) (by omega) ?_
        refine zr_rw (v := (((k / 4) : Nat) : Int)) (tdiv_nat _ 4) ?_
        refine lv_istore (lv' := [(4, .int (iI (((k / 4) : Nat) : Int))), (0, .ref m0), (1, .long (lI sm1)), (3, .int (iI (k : Int)))]) hx hb dX6_inner_13 hl (by decide) rfl (fun ls hl => ?_)
        refine lv_iload_n hx hb dX6_inner_15 rfl (lv_at hl 3 rfl) ?_
        refine lv_iconst (v := iI 4) hx hb dX6_inner_16 rfl ?_
        refine zr_irem hx hb dX6_inner_17 (by omega) (by omega) (by omega) ?_
        refine zr_rw (v := (((k % 4) : Nat) : Int)) (tmod_nat _ 4) ?_
        refine lv_istore (lv' := [(5, .int (iI (((k % 4) : Nat) : Int))), (4, .int (iI (((k / 4) : Nat) : Int))), (0, .ref m0), (1, .long (lI sm1)), (3, .int (iI (k : Int)))]) hx hb dX6_inner_18 hl (by decide) rfl (fun ls hl => ?_)
        refine lv_lload_n hx hb dX6_inner_20 rfl (lv_at hl 3 rfl) ?_
        refine lv_aload_n hx hb dX6_inner_21 rfl (lv_at hl 2 rfl) ?_
        refine lv_aload_n hx hb dX6_inner_22 rfl (lv_at hl 2 rfl) ?_
        refine lv_iload hx hb dX6_inner_23 (lv_at hl 1 rfl) ?_
        refine lv_iconst (v := iI 2) hx hb dX6_inner_25 rfl ?_
        refine zr_irem hx hb dX6_inner_26 (by omega) (by omega) (by omega) ?_
        refine zr_rw (v := (((k / 4 % 2) : Nat) : Int)) (tmod_nat _ 2) ?_
        refine lv_iload hx hb dX6_inner_27 (lv_at hl 1 rfl) ?_
        refine lv_iconst (v := iI 2) hx hb dX6_inner_29 rfl ?_
        refine zr_idiv hx hb dX6_inner_30 (by omega) (by omega) (by omega) ?_
        refine zr_rw (v := (((k / 4 / 2) : Nat) : Int)) (tdiv_nat _ 2) ?_
        refine lv_iload hx hb dX6_inner_31 (lv_at hl 0 rfl) ?_
        refine lv_iconst (v := iI 2) hx hb dX6_inner_33 rfl ?_
        refine zr_irem hx hb dX6_inner_34 (by omega) (by omega) (by omega) ?_
        refine zr_rw (v := (((k % 4 % 2) : Nat) : Int)) (tmod_nat _ 2) ?_
        refine lv_iload hx hb dX6_inner_35 (lv_at hl 0 rfl) ?_
        refine lv_iconst (v := iI 2) hx hb dX6_inner_37 rfl ?_
        refine zr_idiv hx hb dX6_inner_38 (by omega) (by omega) (by omega) ?_
        refine zr_rw (v := (((k % 4 / 2) : Nat) : Int)) (tdiv_nat _ 2) ?_
        refine zc_Vi (As := [.int (iI (((k / 4 % 2) : Nat) : Int)), .int (iI (((k / 4 / 2) : Nat) : Int)), .int (iI (((k % 4 % 2) : Nat) : Int)), .int (iI (((k % 4 / 2) : Nat) : Int))]) (rest := [.ref m0, .long (lI sm1)]) (c_X6_far l D cI cL cG cM m0 mw mks mbx mby mbi msn miq mtb mrt mgr mup w kn kp sd ks bkx bky bki bkn sn sns iq tb rt gr ups bel scl tp bt (((k / 4 % 2) : Nat) : Int) (((k / 4 / 2) : Nat) : Int) (((k % 4 % 2) : Nat) : Int) (((k % 4 / 2) : Nat) : Int) (hv) (by omega) (by omega) (by omega) (by omega)) hx hb hml hown hU hl.1 ct_yX6_far cv_yX6_far km_RX6_54 hK hNst hP 6 0 rfl rfl rfl ⟨rfl, rfl⟩ ⟨Nat.le_of_ble_eq_true rfl, Nat.le_of_ble_eq_true rfl⟩ rfl rfl (Nat.le_of_ble_eq_true rfl) dX6_inner_39 ⟨Nat.le_of_ble_eq_true rfl, Nat.le_of_ble_eq_true rfl⟩ ?_
        have hf := sp_fr_rg2 (mt := w 1) (dx := ((k / 4 % 2 : Nat) : Int) - ((k % 4 % 2 : Nat) : Int)) (dy := ((k / 4 / 2 : Nat) : Int) - ((k % 4 / 2 : Nat) : Int)) (by omega) (by omega)
        have hur := sp_unl_rg hv hf.1
        refine zc_Vi (As := [.int (iI (sp_far w (((k / 4 % 2) : Nat) : Int) (((k / 4 / 2) : Nat) : Int) (((k % 4 % 2) : Nat) : Int) (((k % 4 / 2) : Nat) : Int)))]) (rest := [.long (lI sm1)]) (c_X6_unlikeOf l D cI cL cG cM m0 mw mks mbx mby mbi msn miq mtb mrt mgr mup w kn kp sd ks bkx bky bki bkn sn sns iq tb rt gr ups bel scl tp bt (sp_far w (((k / 4 % 2) : Nat) : Int) (((k / 4 / 2) : Nat) : Int) (((k % 4 % 2) : Nat) : Int) (((k % 4 / 2) : Nat) : Int)) (hv) (hf)) hx hb hml hown hU hl.1 ct_yX6_unlikeOf cv_yX6_unlikeOf km_RX6_58 hK hNst hP 6 0 rfl rfl rfl ⟨rfl, rfl⟩ ⟨Nat.le_of_ble_eq_true rfl, Nat.le_of_ble_eq_true rfl⟩ rfl rfl (Nat.le_of_ble_eq_true rfl) dX6_inner_42 ⟨Nat.le_of_ble_eq_true rfl, Nat.le_of_ble_eq_true rfl⟩ ?_
        refine zr_i2l hx hb dX6_inner_45 (by have h5 : 0 ≤ sp_unl w (sp_far w ((k / 4 % 2 : Nat) : Int) ((k / 4 / 2 : Nat) : Int) ((k % 4 % 2 : Nat) : Int) ((k % 4 / 2 : Nat) : Int)) ∧ sp_unl w (sp_far w ((k / 4 % 2 : Nat) : Int) ((k / 4 / 2 : Nat) : Int) ((k % 4 % 2 : Nat) : Int) ((k % 4 / 2 : Nat) : Int)) ≤ 189 := hur; omega) ?_
        refine zr_ladd hx hb dX6_inner_46 ?_
        refine lv_lstore_n (lv' := [(1, .long (lI (sm1 + (sp_unl w (sp_far w (((k / 4 % 2) : Nat) : Int) (((k / 4 / 2) : Nat) : Int) (((k % 4 % 2) : Nat) : Int) (((k % 4 / 2) : Nat) : Int)))))), (5, .int (iI (((k % 4) : Nat) : Int))), (4, .int (iI (((k / 4) : Nat) : Int))), (0, .ref m0), (3, .int (iI (k : Int)))]) hx hb dX6_inner_47 rfl hl (by decide) rfl (fun ls hl => ?_)
        refine lv_iinc (v := iI ((k : Int) + 1)) (lv' := [(3, .int (iI ((k : Int) + 1))), (1, .long (lI (sm1 + (sp_unl w (sp_far w (((k / 4 % 2) : Nat) : Int) (((k / 4 / 2) : Nat) : Int) (((k % 4 % 2) : Nat) : Int) (((k % 4 / 2) : Nat) : Int)))))), (5, .int (iI (((k % 4) : Nat) : Int))), (4, .int (iI (((k / 4) : Nat) : Int))), (0, .ref m0)]) hx hb dX6_inner_48 hl (k := 4) rfl (iI_add _ _) (by decide) rfl (fun ls hl => ?_)
        refine lv_goto (tgt := 4) hx hb dX6_inner_51 (by decide) ?_
        exact ih4 (k + 1) (sm1 + (sp_unl w (sp_far w (((k / 4 % 2) : Nat) : Int) (((k / 4 / 2) : Nat) : Int) (((k % 4 % 2) : Nat) : Int) (((k % 4 / 2) : Nat) : Int)))) (by omega) (by rw [hsm]; rfl) (by omega) ls (lv_sub hl [4, 1, 0] rfl)
  exact LP4 17 0 0 (by omega) (rfl) (by omega) ls (lv_sub hl [2, 1, 0] rfl)

set_option maxHeartbeats 4000000 in
set_option maxRecDepth 100000 in
theorem c_X6_reduce (l : Launch) (D : va_G) (cI cL cG cM : ClassId) (m0 mw mks mbx mby mbi msn miq mtb mrt mgr mup : Nat) (w : Nat → Int) (kn : Int) (kp : Int) (sd : Int) (ks : Nat → Int) (bkx : Nat → Int) (bky : Nat → Int) (bki : Nat → Int) (bkn : Int) (sn : Nat → Int) (sns : Int) (iq : Nat → Int) (tb : Nat → Int) (rt : Nat → Int) (gr : Nat → Int) (ups : Nat → Int) (bel : Int) (scl : Int) (tp : Int) (bt : Int) (ab : Int) (un : Int) (ha : -4611686018427387904 ≤ ab ∧ ab ≤ 4611686018427387904) (hu : -4611686018427387904 ≤ un ∧ un ≤ 4611686018427387904) (hn : un ≠ 0) (sz : Nat) : Met l yX6_reduce (wU yX6_reduce cX6_reduce 11 none) (rmF 1 21) (pcW D (tyA cI cL cG cM) [(m0, .inr (6, [.ref mw, .int (iI kn), .int (iI kp), .int (iI sd), .ref mks, .ref mbx, .ref mby, .ref mbi, .int (iI bkn), .ref msn, .int (iI sns), .ref miq, .ref mtb, .ref mrt, .ref mgr, .ref mup, .long (lI bel), .long (lI scl), .long (lI tp), .long (lI bt)])), (mw, .inl (cI, 760, .inl (aI w))), (mks, .inl (cI, 2, .inl (aI ks))), (mbx, .inl (cI, 20, .inl (aI bkx))), (mby, .inl (cI, 20, .inl (aI bky))), (mbi, .inl (cI, 20, .inl (aI bki))), (msn, .inl (cI, 4, .inl (aI sn))), (miq, .inl (cI, 4, .inl (aI iq))), (mtb, .inl (cL, 25, .inr (.inl (aL tb)))), (mrt, .inl (cL, 5, .inr (.inl (aL rt)))), (mgr, .inl (cL, 32, .inr (.inl (aL gr)))), (mup, .inl (cL, 5, .inr (.inl (aL ups))))] [.ref m0, .long (lI ab), .long (lI un)] sz) (qWv (S := Int × Int) D (tyA cI cL cG cM) (va_A [(m0, .inr (6, [.ref mw, .int (iI kn), .int (iI kp), .int (iI sd), .ref mks, .ref mbx, .ref mby, .ref mbi, .int (iI bkn), .ref msn, .int (iI sns), .ref miq, .ref mtb, .ref mrt, .ref mgr, .ref mup, .long (lI bel), .long (lI scl), .long (lI tp), .long (lI bt)])), (mw, .inl (cI, 760, .inl (aI w))), (mks, .inl (cI, 2, .inl (aI ks))), (mbx, .inl (cI, 20, .inl (aI bkx))), (mby, .inl (cI, 20, .inl (aI bky))), (mbi, .inl (cI, 20, .inl (aI bki))), (msn, .inl (cI, 4, .inl (aI sn))), (miq, .inl (cI, 4, .inl (aI iq))), (mtb, .inl (cL, 25, .inr (.inl (aL tb)))), (mrt, .inl (cL, 5, .inr (.inl (aL rt)))), (mgr, .inl (cL, 32, .inr (.inl (aL gr)))), (mup, .inl (cL, 5, .inr (.inl (aL ups))))] sz) (fun (u : Int × Int) => u.1 = sp_top ab un ∧ u.2 = sp_bot ab un) (fun (u : Int × Int) => [(m0, .inr (6, [.ref mw, .int (iI kn), .int (iI kp), .int (iI sd), .ref mks, .ref mbx, .ref mby, .ref mbi, .int (iI bkn), .ref msn, .int (iI sns), .ref miq, .ref mtb, .ref mrt, .ref mgr, .ref mup, .long (lI bel), .long (lI scl), .long (lI u.1), .long (lI u.2)])), (mw, .inl (cI, 760, .inl (aI w))), (mks, .inl (cI, 2, .inl (aI ks))), (mbx, .inl (cI, 20, .inl (aI bkx))), (mby, .inl (cI, 20, .inl (aI bky))), (mbi, .inl (cI, 20, .inl (aI bki))), (msn, .inl (cI, 4, .inl (aI sn))), (miq, .inl (cI, 4, .inl (aI iq))), (mtb, .inl (cL, 25, .inr (.inl (aL tb)))), (mrt, .inl (cL, 5, .inr (.inl (aL rt)))), (mgr, .inl (cL, 32, .inr (.inl (aL gr)))), (mup, .inl (cL, 5, .inr (.inl (aL ups))))])) 0 0 (va_A [(m0, .inr (6, [.ref mw, .int (iI kn), .int (iI kp), .int (iI sd), .ref mks, .ref mbx, .ref mby, .ref mbi, .int (iI bkn), .ref msn, .int (iI sns), .ref miq, .ref mtb, .ref mrt, .ref mgr, .ref mup, .long (lI bel), .long (lI scl), .long (lI tp), .long (lI bt)])), (mw, .inl (cI, 760, .inl (aI w))), (mks, .inl (cI, 2, .inl (aI ks))), (mbx, .inl (cI, 20, .inl (aI bkx))), (mby, .inl (cI, 20, .inl (aI bky))), (mbi, .inl (cI, 20, .inl (aI bki))), (msn, .inl (cI, 4, .inl (aI sn))), (miq, .inl (cI, 4, .inl (aI iq))), (mtb, .inl (cL, 25, .inr (.inl (aL tb)))), (mrt, .inl (cL, 5, .inr (.inl (aL rt)))), (mgr, .inl (cL, 32, .inr (.inl (aL gr)))), (mup, .inl (cL, 5, .inr (.inl (aL ups))))] sz) := by
  refine zm_W (own := RX6) (lv := [(0, .ref m0), (1, .long (lI ab)), (3, .long (lI un))]) (QF := fun A => qWv (S := Int × Int) D (tyA cI cL cG cM) A (fun (u : Int × Int) => u.1 = sp_top ab un ∧ u.2 = sp_bot ab un) (fun (u : Int × Int) => [(m0, .inr (6, [.ref mw, .int (iI kn), .int (iI kp), .int (iI sd), .ref mks, .ref mbx, .ref mby, .ref mbi, .int (iI bkn), .ref msn, .int (iI sns), .ref miq, .ref mtb, .ref mrt, .ref mgr, .ref mup, .long (lI bel), .long (lI scl), .long (lI u.1), .long (lI u.2)])), (mw, .inl (cI, 760, .inl (aI w))), (mks, .inl (cI, 2, .inl (aI ks))), (mbx, .inl (cI, 20, .inl (aI bkx))), (mby, .inl (cI, 20, .inl (aI bky))), (mbi, .inl (cI, 20, .inl (aI bki))), (msn, .inl (cI, 4, .inl (aI sn))), (miq, .inl (cI, 4, .inl (aI iq))), (mtb, .inl (cL, 25, .inr (.inl (aL tb)))), (mrt, .inl (cL, 5, .inr (.inl (aL rt)))), (mgr, .inl (cL, 32, .inr (.inl (aL gr)))), (mup, .inl (cL, 5, .inr (.inl (aL ups))))])) (by decide) rfl (Nat.le_of_ble_eq_true rfl) rfl ?_
  intro p e s m below meth c A args Q hx hb hr hml hown hU hlk hnm hP hK hNst hD hA hS hsz hQ ls hl
  obtain ⟨H, hH⟩ : ∃ H, H = s.heap := ⟨_, rfl⟩
  obtain ⟨locs, hlocs⟩ : ∃ locs : List Loc, locs = [] := ⟨_, rfl⟩
  rw [← hlocs]
  have hW0 : ∀ (H : Heap) (locs : List Loc), va_P D vwCl [(m0, .inr (6, [.ref mw, .int (iI kn), .int (iI kp), .int (iI sd), .ref mks, .ref mbx, .ref mby, .ref mbi, .int (iI bkn), .ref msn, .int (iI sns), .ref miq, .ref mtb, .ref mrt, .ref mgr, .ref mup, .long (lI bel), .long (lI scl), .long (lI tp), .long (lI bt)])), (mw, .inl (cI, 760, .inl (aI w))), (mks, .inl (cI, 2, .inl (aI ks))), (mbx, .inl (cI, 20, .inl (aI bkx))), (mby, .inl (cI, 20, .inl (aI bky))), (mbi, .inl (cI, 20, .inl (aI bki))), (msn, .inl (cI, 4, .inl (aI sn))), (miq, .inl (cI, 4, .inl (aI iq))), (mtb, .inl (cL, 25, .inr (.inl (aL tb)))), (mrt, .inl (cL, 5, .inr (.inl (aL rt)))), (mgr, .inl (cL, 32, .inr (.inl (aL gr)))), (mup, .inl (cL, 5, .inr (.inl (aL ups))))] H → va_D A [(m0, .inr (6, [.ref mw, .int (iI kn), .int (iI kp), .int (iI sd), .ref mks, .ref mbx, .ref mby, .ref mbi, .int (iI bkn), .ref msn, .int (iI sns), .ref miq, .ref mtb, .ref mrt, .ref mgr, .ref mup, .long (lI bel), .long (lI scl), .long (lI tp), .long (lI bt)])), (mw, .inl (cI, 760, .inl (aI w))), (mks, .inl (cI, 2, .inl (aI ks))), (mbx, .inl (cI, 20, .inl (aI bkx))), (mby, .inl (cI, 20, .inl (aI bky))), (mbi, .inl (cI, 20, .inl (aI bki))), (msn, .inl (cI, 4, .inl (aI sn))), (miq, .inl (cI, 4, .inl (aI iq))), (mtb, .inl (cL, 25, .inr (.inl (aL tb)))), (mrt, .inl (cL, 5, .inr (.inl (aL rt)))), (mgr, .inl (cL, 32, .inr (.inl (aL gr)))), (mup, .inl (cL, 5, .inr (.inl (aL ups))))] → va_S A s.heap H locs → W p l e (rmF 1 21) s m args below meth c H locs 0 0 Q (F0 m 0 ls []) := by
    clear hP hD hS hH hlocs H locs
    intro H locs hP hD hS
    have hgp : 0 < Int.gcd ab un := Int.gcd_pos_of_ne_zero_right ab hn
    refine lv_lload_n hx hb dX6_reduce_0 rfl (lv_at hl 1 rfl) ?_
    refine zc_Sl (As := [.long (lI ab)]) (rest := []) (c_X6_size l D cI cL cG cM ab (by omega)) hx hb hml hown hU hl.1 ct_yX6_size kt_yX6_size km_RX6_104 ⟨rfl, rfl⟩ ⟨Nat.le_of_ble_eq_true rfl, Nat.le_of_ble_eq_true rfl⟩ rfl rfl (Nat.le_of_ble_eq_true rfl) dX6_reduce_1 ⟨Nat.le_of_ble_eq_true rfl, Nat.le_of_ble_eq_true rfl⟩ ?_
    refine zr_rwl (v := ((ab.natAbs : Nat) : Int)) (by omega) ?_
    refine lv_lstore (lv' := [(5, .long (lI ((ab.natAbs : Nat) : Int))), (0, .ref m0), (1, .long (lI ab)), (3, .long (lI un))]) hx hb dX6_reduce_4 hl (by decide) rfl (fun ls hl => ?_)
    refine lv_lload_n hx hb dX6_reduce_6 rfl (lv_at hl 3 rfl) ?_
    refine zc_Sl (As := [.long (lI un)]) (rest := []) (c_X6_size l D cI cL cG cM un (by omega)) hx hb hml hown hU hl.1 ct_yX6_size kt_yX6_size km_RX6_104 ⟨rfl, rfl⟩ ⟨Nat.le_of_ble_eq_true rfl, Nat.le_of_ble_eq_true rfl⟩ rfl rfl (Nat.le_of_ble_eq_true rfl) dX6_reduce_7 ⟨Nat.le_of_ble_eq_true rfl, Nat.le_of_ble_eq_true rfl⟩ ?_
    refine zr_rwl (v := ((un.natAbs : Nat) : Int)) (by omega) ?_
    refine lv_lstore (lv' := [(7, .long (lI ((un.natAbs : Nat) : Int))), (5, .long (lI ((ab.natAbs : Nat) : Int))), (0, .ref m0), (1, .long (lI ab)), (3, .long (lI un))]) hx hb dX6_reduce_10 hl (by decide) rfl (fun ls hl => ?_)
    have LP12 : ∀ (n : Nat), ∀ (na : Nat) (nb : Nat), (Nat.gcd na nb = Int.gcd ab un) → (na ≤ 4611686018427387904 ∧ nb ≤ 4611686018427387904) → (nb < n) → ∀ (H : Heap) (locs : List Loc), va_P D vwCl [(m0, .inr (6, [.ref mw, .int (iI kn), .int (iI kp), .int (iI sd), .ref mks, .ref mbx, .ref mby, .ref mbi, .int (iI bkn), .ref msn, .int (iI sns), .ref miq, .ref mtb, .ref mrt, .ref mgr, .ref mup, .long (lI bel), .long (lI scl), .long (lI tp), .long (lI bt)])), (mw, .inl (cI, 760, .inl (aI w))), (mks, .inl (cI, 2, .inl (aI ks))), (mbx, .inl (cI, 20, .inl (aI bkx))), (mby, .inl (cI, 20, .inl (aI bky))), (mbi, .inl (cI, 20, .inl (aI bki))), (msn, .inl (cI, 4, .inl (aI sn))), (miq, .inl (cI, 4, .inl (aI iq))), (mtb, .inl (cL, 25, .inr (.inl (aL tb)))), (mrt, .inl (cL, 5, .inr (.inl (aL rt)))), (mgr, .inl (cL, 32, .inr (.inl (aL gr)))), (mup, .inl (cL, 5, .inr (.inl (aL ups))))] H → va_D A [(m0, .inr (6, [.ref mw, .int (iI kn), .int (iI kp), .int (iI sd), .ref mks, .ref mbx, .ref mby, .ref mbi, .int (iI bkn), .ref msn, .int (iI sns), .ref miq, .ref mtb, .ref mrt, .ref mgr, .ref mup, .long (lI bel), .long (lI scl), .long (lI tp), .long (lI bt)])), (mw, .inl (cI, 760, .inl (aI w))), (mks, .inl (cI, 2, .inl (aI ks))), (mbx, .inl (cI, 20, .inl (aI bkx))), (mby, .inl (cI, 20, .inl (aI bky))), (mbi, .inl (cI, 20, .inl (aI bki))), (msn, .inl (cI, 4, .inl (aI sn))), (miq, .inl (cI, 4, .inl (aI iq))), (mtb, .inl (cL, 25, .inr (.inl (aL tb)))), (mrt, .inl (cL, 5, .inr (.inl (aL rt)))), (mgr, .inl (cL, 32, .inr (.inl (aL gr)))), (mup, .inl (cL, 5, .inr (.inl (aL ups))))] → va_S A s.heap H locs → ∀ (ls : Array Slot), lv_has ls 11 [(0, .ref m0), (1, .long (lI ab)), (3, .long (lI un)), (5, .long (lI (na : Int))), (7, .long (lI (nb : Int)))] → W p l e (rmF 1 21) s m args below meth c H locs 0 0 Q (F0 m 12 ls []) := by
      intro n
      induction n with
      | zero =>
        intro na nb hg hr1 hfu
        exfalso
        omega
      | succ n ih12 =>
        intro na nb hg hr1 hfu H locs hP hD hS ls hl
        refine lv_lload hx hb dX6_reduce_12 (lv_at hl 4 rfl) ?_
        refine lv_lconst (v := lI 0) hx hb dX6_reduce_14 rfl ?_
        refine zr_lcmp_le (tgt := 37) hx hb dX6_reduce_15 dX6_reduce_16 (by decide) (by omega) (by omega) (fun c_1 => ?_) (fun c_1 => ?_)
        · skip
          have hz : nb = 0 := by omega
          subst hz
          rw [Nat.gcd_zero_right] at hg
          refine lv_aload_n hx hb dX6_reduce_37 rfl (lv_at hl 0 rfl) ?_
          refine lv_lload_n hx hb dX6_reduce_38 rfl (lv_at hl 2 rfl) ?_
          refine lv_lconst (v := lI 0) hx hb dX6_reduce_39 rfl ?_
          refine zr_lcmp_ge (tgt := 52) hx hb dX6_reduce_40 dX6_reduce_41 (by decide) (by omega) (by omega) (fun c_2 => ?_) (fun c_2 => ?_)
          · skip
            refine lv_lload_n hx hb dX6_reduce_52 rfl (lv_at hl 1 rfl) ?_
            refine lv_lload hx hb dX6_reduce_53 (lv_at hl 3 rfl) ?_
            refine zr_ldiv hx hb dX6_reduce_55 (by omega) (by omega) (by omega) ?_
            refine va_put (D := D) (ci := 6) (v := .long (lI (ab.tdiv (na : Int)))) (ty := .long) (C := RX6) (T := TX6) (N := 20) hx hb hU inlX6 tyX6 tyX6_ok nmX6 hown hK hP hD hS 0 rfl rfl 18 (by decide) (hU _ kf_RX6_108) (fun _ h9 => h9) rfl (by decide +kernel) rfl rfl (Nat.le_of_ble_eq_true rfl) dX6_reduce_56 (fun H locs hP hD hS => ?_)
            have hP : va_P D vwCl [(m0, .inr (6, [.ref mw, .int (iI kn), .int (iI kp), .int (iI sd), .ref mks, .ref mbx, .ref mby, .ref mbi, .int (iI bkn), .ref msn, .int (iI sns), .ref miq, .ref mtb, .ref mrt, .ref mgr, .ref mup, .long (lI bel), .long (lI scl), .long (lI (ab.tdiv (na : Int))), .long (lI bt)])), (mw, .inl (cI, 760, .inl (aI w))), (mks, .inl (cI, 2, .inl (aI ks))), (mbx, .inl (cI, 20, .inl (aI bkx))), (mby, .inl (cI, 20, .inl (aI bky))), (mbi, .inl (cI, 20, .inl (aI bki))), (msn, .inl (cI, 4, .inl (aI sn))), (miq, .inl (cI, 4, .inl (aI iq))), (mtb, .inl (cL, 25, .inr (.inl (aL tb)))), (mrt, .inl (cL, 5, .inr (.inl (aL rt)))), (mgr, .inl (cL, 32, .inr (.inl (aL gr)))), (mup, .inl (cL, 5, .inr (.inl (aL ups))))] H := hP
            have hD : va_D A [(m0, .inr (6, [.ref mw, .int (iI kn), .int (iI kp), .int (iI sd), .ref mks, .ref mbx, .ref mby, .ref mbi, .int (iI bkn), .ref msn, .int (iI sns), .ref miq, .ref mtb, .ref mrt, .ref mgr, .ref mup, .long (lI bel), .long (lI scl), .long (lI (ab.tdiv (na : Int))), .long (lI bt)])), (mw, .inl (cI, 760, .inl (aI w))), (mks, .inl (cI, 2, .inl (aI ks))), (mbx, .inl (cI, 20, .inl (aI bkx))), (mby, .inl (cI, 20, .inl (aI bky))), (mbi, .inl (cI, 20, .inl (aI bki))), (msn, .inl (cI, 4, .inl (aI sn))), (miq, .inl (cI, 4, .inl (aI iq))), (mtb, .inl (cL, 25, .inr (.inl (aL tb)))), (mrt, .inl (cL, 5, .inr (.inl (aL rt)))), (mgr, .inl (cL, 32, .inr (.inl (aL gr)))), (mup, .inl (cL, 5, .inr (.inl (aL ups))))] := hD
            refine lv_aload_n hx hb dX6_reduce_59 rfl (lv_at hl 0 rfl) ?_
            refine lv_lload_n hx hb dX6_reduce_60 rfl (lv_at hl 2 rfl) ?_
            refine zc_Sl (As := [.long (lI un)]) (rest := [.ref m0]) (c_X6_size l D cI cL cG cM un (by omega)) hx hb hml hown hU hl.1 ct_yX6_size kt_yX6_size km_RX6_104 ⟨rfl, rfl⟩ ⟨Nat.le_of_ble_eq_true rfl, Nat.le_of_ble_eq_true rfl⟩ rfl rfl (Nat.le_of_ble_eq_true rfl) dX6_reduce_61 ⟨Nat.le_of_ble_eq_true rfl, Nat.le_of_ble_eq_true rfl⟩ ?_
            refine lv_lload hx hb dX6_reduce_64 (lv_at hl 3 rfl) ?_
            refine zr_ldiv hx hb dX6_reduce_66 (by omega) (by omega) (by omega) ?_
            refine va_put (D := D) (ci := 6) (v := .long (lI ((max un (-un)).tdiv (na : Int)))) (ty := .long) (C := RX6) (T := TX6) (N := 20) hx hb hU inlX6 tyX6 tyX6_ok nmX6 hown hK hP hD hS 0 rfl rfl 19 (by decide) (hU _ kf_RX6_111) (fun _ h9 => h9) rfl (by decide +kernel) rfl rfl (Nat.le_of_ble_eq_true rfl) dX6_reduce_67 (fun H locs hP hD hS => ?_)
            have hP : va_P D vwCl [(m0, .inr (6, [.ref mw, .int (iI kn), .int (iI kp), .int (iI sd), .ref mks, .ref mbx, .ref mby, .ref mbi, .int (iI bkn), .ref msn, .int (iI sns), .ref miq, .ref mtb, .ref mrt, .ref mgr, .ref mup, .long (lI bel), .long (lI scl), .long (lI (ab.tdiv (na : Int))), .long (lI ((max un (-un)).tdiv (na : Int)))])), (mw, .inl (cI, 760, .inl (aI w))), (mks, .inl (cI, 2, .inl (aI ks))), (mbx, .inl (cI, 20, .inl (aI bkx))), (mby, .inl (cI, 20, .inl (aI bky))), (mbi, .inl (cI, 20, .inl (aI bki))), (msn, .inl (cI, 4, .inl (aI sn))), (miq, .inl (cI, 4, .inl (aI iq))), (mtb, .inl (cL, 25, .inr (.inl (aL tb)))), (mrt, .inl (cL, 5, .inr (.inl (aL rt)))), (mgr, .inl (cL, 32, .inr (.inl (aL gr)))), (mup, .inl (cL, 5, .inr (.inl (aL ups))))] H := hP
            have hD : va_D A [(m0, .inr (6, [.ref mw, .int (iI kn), .int (iI kp), .int (iI sd), .ref mks, .ref mbx, .ref mby, .ref mbi, .int (iI bkn), .ref msn, .int (iI sns), .ref miq, .ref mtb, .ref mrt, .ref mgr, .ref mup, .long (lI bel), .long (lI scl), .long (lI (ab.tdiv (na : Int))), .long (lI ((max un (-un)).tdiv (na : Int)))])), (mw, .inl (cI, 760, .inl (aI w))), (mks, .inl (cI, 2, .inl (aI ks))), (mbx, .inl (cI, 20, .inl (aI bkx))), (mby, .inl (cI, 20, .inl (aI bky))), (mbi, .inl (cI, 20, .inl (aI bki))), (msn, .inl (cI, 4, .inl (aI sn))), (miq, .inl (cI, 4, .inl (aI iq))), (mtb, .inl (cL, 25, .inr (.inl (aL tb)))), (mrt, .inl (cL, 5, .inr (.inl (aL rt)))), (mgr, .inl (cL, 32, .inr (.inl (aL gr)))), (mup, .inl (cL, 5, .inr (.inl (aL ups))))] := hD
            rw [hQ]
            exact ze_Wv hx hb hr hlk dX6_reduce_70 ((ab.tdiv (na : Int)), ((max un (-un)).tdiv (na : Int))) (⟨by unfold sp_top; rw [if_neg (by omega), hg], by unfold sp_bot; rw [hg]⟩) hP hK hD hS
          · skip
            refine lv_lload_n hx hb dX6_reduce_44 rfl (lv_at hl 1 rfl) ?_
            refine zr_lneg hx hb dX6_reduce_45 ?_
            refine lv_lload hx hb dX6_reduce_46 (lv_at hl 3 rfl) ?_
            refine zr_ldiv hx hb dX6_reduce_48 (by omega) (by omega) (by omega) ?_
            refine lv_goto (tgt := 56) hx hb dX6_reduce_49 (by decide) ?_
            refine va_put (D := D) (ci := 6) (v := .long (lI ((-ab).tdiv (na : Int)))) (ty := .long) (C := RX6) (T := TX6) (N := 20) hx hb hU inlX6 tyX6 tyX6_ok nmX6 hown hK hP hD hS 0 rfl rfl 18 (by decide) (hU _ kf_RX6_108) (fun _ h9 => h9) rfl (by decide +kernel) rfl rfl (Nat.le_of_ble_eq_true rfl) dX6_reduce_56 (fun H locs hP hD hS => ?_)
            have hP : va_P D vwCl [(m0, .inr (6, [.ref mw, .int (iI kn), .int (iI kp), .int (iI sd), .ref mks, .ref mbx, .ref mby, .ref mbi, .int (iI bkn), .ref msn, .int (iI sns), .ref miq, .ref mtb, .ref mrt, .ref mgr, .ref mup, .long (lI bel), .long (lI scl), .long (lI ((-ab).tdiv (na : Int))), .long (lI bt)])), (mw, .inl (cI, 760, .inl (aI w))), (mks, .inl (cI, 2, .inl (aI ks))), (mbx, .inl (cI, 20, .inl (aI bkx))), (mby, .inl (cI, 20, .inl (aI bky))), (mbi, .inl (cI, 20, .inl (aI bki))), (msn, .inl (cI, 4, .inl (aI sn))), (miq, .inl (cI, 4, .inl (aI iq))), (mtb, .inl (cL, 25, .inr (.inl (aL tb)))), (mrt, .inl (cL, 5, .inr (.inl (aL rt)))), (mgr, .inl (cL, 32, .inr (.inl (aL gr)))), (mup, .inl (cL, 5, .inr (.inl (aL ups))))] H := hP
            have hD : va_D A [(m0, .inr (6, [.ref mw, .int (iI kn), .int (iI kp), .int (iI sd), .ref mks, .ref mbx, .ref mby, .ref mbi, .int (iI bkn), .ref msn, .int (iI sns), .ref miq, .ref mtb, .ref mrt, .ref mgr, .ref mup, .long (lI bel), .long (lI scl), .long (lI ((-ab).tdiv (na : Int))), .long (lI bt)])), (mw, .inl (cI, 760, .inl (aI w))), (mks, .inl (cI, 2, .inl (aI ks))), (mbx, .inl (cI, 20, .inl (aI bkx))), (mby, .inl (cI, 20, .inl (aI bky))), (mbi, .inl (cI, 20, .inl (aI bki))), (msn, .inl (cI, 4, .inl (aI sn))), (miq, .inl (cI, 4, .inl (aI iq))), (mtb, .inl (cL, 25, .inr (.inl (aL tb)))), (mrt, .inl (cL, 5, .inr (.inl (aL rt)))), (mgr, .inl (cL, 32, .inr (.inl (aL gr)))), (mup, .inl (cL, 5, .inr (.inl (aL ups))))] := hD
            refine lv_aload_n hx hb dX6_reduce_59 rfl (lv_at hl 0 rfl) ?_
            refine lv_lload_n hx hb dX6_reduce_60 rfl (lv_at hl 2 rfl) ?_
            refine zc_Sl (As := [.long (lI un)]) (rest := [.ref m0]) (c_X6_size l D cI cL cG cM un (by omega)) hx hb hml hown hU hl.1 ct_yX6_size kt_yX6_size km_RX6_104 ⟨rfl, rfl⟩ ⟨Nat.le_of_ble_eq_true rfl, Nat.le_of_ble_eq_true rfl⟩ rfl rfl (Nat.le_of_ble_eq_true rfl) dX6_reduce_61 ⟨Nat.le_of_ble_eq_true rfl, Nat.le_of_ble_eq_true rfl⟩ ?_
            refine lv_lload hx hb dX6_reduce_64 (lv_at hl 3 rfl) ?_
            refine zr_ldiv hx hb dX6_reduce_66 (by omega) (by omega) (by omega) ?_
            refine va_put (D := D) (ci := 6) (v := .long (lI ((max un (-un)).tdiv (na : Int)))) (ty := .long) (C := RX6) (T := TX6) (N := 20) hx hb hU inlX6 tyX6 tyX6_ok nmX6 hown hK hP hD hS 0 rfl rfl 19 (by decide) (hU _ kf_RX6_111) (fun _ h9 => h9) rfl (by decide +kernel) rfl rfl (Nat.le_of_ble_eq_true rfl) dX6_reduce_67 (fun H locs hP hD hS => ?_)
            have hP : va_P D vwCl [(m0, .inr (6, [.ref mw, .int (iI kn), .int (iI kp), .int (iI sd), .ref mks, .ref mbx, .ref mby, .ref mbi, .int (iI bkn), .ref msn, .int (iI sns), .ref miq, .ref mtb, .ref mrt, .ref mgr, .ref mup, .long (lI bel), .long (lI scl), .long (lI ((-ab).tdiv (na : Int))), .long (lI ((max un (-un)).tdiv (na : Int)))])), (mw, .inl (cI, 760, .inl (aI w))), (mks, .inl (cI, 2, .inl (aI ks))), (mbx, .inl (cI, 20, .inl (aI bkx))), (mby, .inl (cI, 20, .inl (aI bky))), (mbi, .inl (cI, 20, .inl (aI bki))), (msn, .inl (cI, 4, .inl (aI sn))), (miq, .inl (cI, 4, .inl (aI iq))), (mtb, .inl (cL, 25, .inr (.inl (aL tb)))), (mrt, .inl (cL, 5, .inr (.inl (aL rt)))), (mgr, .inl (cL, 32, .inr (.inl (aL gr)))), (mup, .inl (cL, 5, .inr (.inl (aL ups))))] H := hP
            have hD : va_D A [(m0, .inr (6, [.ref mw, .int (iI kn), .int (iI kp), .int (iI sd), .ref mks, .ref mbx, .ref mby, .ref mbi, .int (iI bkn), .ref msn, .int (iI sns), .ref miq, .ref mtb, .ref mrt, .ref mgr, .ref mup, .long (lI bel), .long (lI scl), .long (lI ((-ab).tdiv (na : Int))), .long (lI ((max un (-un)).tdiv (na : Int)))])), (mw, .inl (cI, 760, .inl (aI w))), (mks, .inl (cI, 2, .inl (aI ks))), (mbx, .inl (cI, 20, .inl (aI bkx))), (mby, .inl (cI, 20, .inl (aI bky))), (mbi, .inl (cI, 20, .inl (aI bki))), (msn, .inl (cI, 4, .inl (aI sn))), (miq, .inl (cI, 4, .inl (aI iq))), (mtb, .inl (cL, 25, .inr (.inl (aL tb)))), (mrt, .inl (cL, 5, .inr (.inl (aL rt)))), (mgr, .inl (cL, 32, .inr (.inl (aL gr)))), (mup, .inl (cL, 5, .inr (.inl (aL ups))))] := hD
            rw [hQ]
            exact ze_Wv hx hb hr hlk dX6_reduce_70 (((-ab).tdiv (na : Int)), ((max un (-un)).tdiv (na : Int))) (⟨by unfold sp_top; rw [if_pos (by omega), hg], by unfold sp_bot; rw [hg]⟩) hP hK hD hS
        · skip
          refine lv_lload hx hb dX6_reduce_19 (lv_at hl 3 rfl) ?_
          refine lv_lload hx hb dX6_reduce_21 (lv_at hl 4 rfl) ?_
          refine zr_lrem hx hb dX6_reduce_23 (by omega) (by omega) (by omega) ?_
          refine zr_rwl (v := (((na % nb) : Nat) : Int)) (tmod_nat _ _) ?_
          refine lv_lstore (lv' := [(9, .long (lI (((na % nb) : Nat) : Int))), (0, .ref m0), (1, .long (lI ab)), (3, .long (lI un)), (5, .long (lI (na : Int))), (7, .long (lI (nb : Int)))]) hx hb dX6_reduce_24 hl (by decide) rfl (fun ls hl => ?_)
          refine lv_lload hx hb dX6_reduce_26 (lv_at hl 5 rfl) ?_
          refine lv_lstore (lv' := [(5, .long (lI (nb : Int))), (9, .long (lI (((na % nb) : Nat) : Int))), (0, .ref m0), (1, .long (lI ab)), (3, .long (lI un)), (7, .long (lI (nb : Int)))]) hx hb dX6_reduce_28 hl (by decide) rfl (fun ls hl => ?_)
          refine lv_lload hx hb dX6_reduce_30 (lv_at hl 1 rfl) ?_
          refine lv_lstore (lv' := [(7, .long (lI (((na % nb) : Nat) : Int))), (5, .long (lI (nb : Int))), (9, .long (lI (((na % nb) : Nat) : Int))), (0, .ref m0), (1, .long (lI ab)), (3, .long (lI un))]) hx hb dX6_reduce_32 hl (by decide) rfl (fun ls hl => ?_)
          refine lv_goto (tgt := 12) hx hb dX6_reduce_34 (by decide) ?_
          have hml2 := Nat.mod_lt na (show 0 < nb by omega)
          exact ih12 nb (na % nb) (by rw [Nat.gcd_comm, ← Nat.gcd_rec, Nat.gcd_comm]; exact hg) (by omega) (by omega) _ _ hP hD hS ls (lv_sub hl [3, 4, 5, 1, 0] rfl)
    exact LP12 (un.natAbs + 1) ab.natAbs un.natAbs (rfl) (by omega) (by omega) _ _ hP hD hS ls (lv_sub hl [2, 3, 4, 1, 0] rfl)
  rw [hlocs]
  exact hW0 s.heap [] hP hD hS

set_option maxHeartbeats 4000000 in
set_option maxRecDepth 100000 in
theorem c_X6_layGrade (l : Launch) (D : va_G) (cI cL cG cM : ClassId) (m0 mw mks mbx mby mbi msn miq mtb mrt mgr mup : Nat) (w : Nat → Int) (kn : Int) (kp : Int) (sd : Int) (ks : Nat → Int) (bkx : Nat → Int) (bky : Nat → Int) (bki : Nat → Int) (bkn : Int) (sn : Nat → Int) (sns : Int) (iq : Nat → Int) (tb : Nat → Int) (rt : Nat → Int) (gr : Nat → Int) (ups : Nat → Int) (bel : Int) (scl : Int) (tp : Int) (bt : Int) (L : List Nat) (v : Nat → Int) (pz : Int) (hv : vR w) (hok : okL w L) (hL : isL L sn sns) (hg : gOK w L v pz rt ups bel scl) (hx1 : gEx w L) (hV : okV L.length v pz) (sz : Nat) : Met l yX6_layGrade (wU yX6_layGrade cX6_layGrade 4 none) (rmF 2 51) (pcW D (tyA cI cL cG cM) [(m0, .inr (6, [.ref mw, .int (iI kn), .int (iI kp), .int (iI sd), .ref mks, .ref mbx, .ref mby, .ref mbi, .int (iI bkn), .ref msn, .int (iI sns), .ref miq, .ref mtb, .ref mrt, .ref mgr, .ref mup, .long (lI bel), .long (lI scl), .long (lI tp), .long (lI bt)])), (mw, .inl (cI, 760, .inl (aI w))), (mks, .inl (cI, 2, .inl (aI ks))), (mbx, .inl (cI, 20, .inl (aI bkx))), (mby, .inl (cI, 20, .inl (aI bky))), (mbi, .inl (cI, 20, .inl (aI bki))), (msn, .inl (cI, 4, .inl (aI sn))), (miq, .inl (cI, 4, .inl (aI iq))), (mtb, .inl (cL, 25, .inr (.inl (aL tb)))), (mrt, .inl (cL, 5, .inr (.inl (aL rt)))), (mgr, .inl (cL, 32, .inr (.inl (aL gr)))), (mup, .inl (cL, 5, .inr (.inl (aL ups))))] [.ref m0] sz) (qWv (S := Int × Int) D (tyA cI cL cG cM) (va_A [(m0, .inr (6, [.ref mw, .int (iI kn), .int (iI kp), .int (iI sd), .ref mks, .ref mbx, .ref mby, .ref mbi, .int (iI bkn), .ref msn, .int (iI sns), .ref miq, .ref mtb, .ref mrt, .ref mgr, .ref mup, .long (lI bel), .long (lI scl), .long (lI tp), .long (lI bt)])), (mw, .inl (cI, 760, .inl (aI w))), (mks, .inl (cI, 2, .inl (aI ks))), (mbx, .inl (cI, 20, .inl (aI bkx))), (mby, .inl (cI, 20, .inl (aI bky))), (mbi, .inl (cI, 20, .inl (aI bki))), (msn, .inl (cI, 4, .inl (aI sn))), (miq, .inl (cI, 4, .inl (aI iq))), (mtb, .inl (cL, 25, .inr (.inl (aL tb)))), (mrt, .inl (cL, 5, .inr (.inl (aL rt)))), (mgr, .inl (cL, 32, .inr (.inl (aL gr)))), (mup, .inl (cL, 5, .inr (.inl (aL ups))))] sz) (fun (u : Int × Int) => u.1 = sp_top (nG w L v pz) (pz * nD w L) ∧ u.2 = sp_bot (nG w L v pz) (pz * nD w L)) (fun (u : Int × Int) => [(m0, .inr (6, [.ref mw, .int (iI kn), .int (iI kp), .int (iI sd), .ref mks, .ref mbx, .ref mby, .ref mbi, .int (iI bkn), .ref msn, .int (iI sns), .ref miq, .ref mtb, .ref mrt, .ref mgr, .ref mup, .long (lI bel), .long (lI scl), .long (lI u.1), .long (lI u.2)])), (mw, .inl (cI, 760, .inl (aI w))), (mks, .inl (cI, 2, .inl (aI ks))), (mbx, .inl (cI, 20, .inl (aI bkx))), (mby, .inl (cI, 20, .inl (aI bky))), (mbi, .inl (cI, 20, .inl (aI bki))), (msn, .inl (cI, 4, .inl (aI sn))), (miq, .inl (cI, 4, .inl (aI iq))), (mtb, .inl (cL, 25, .inr (.inl (aL tb)))), (mrt, .inl (cL, 5, .inr (.inl (aL rt)))), (mgr, .inl (cL, 32, .inr (.inl (aL gr)))), (mup, .inl (cL, 5, .inr (.inl (aL ups))))])) 0 0 (va_A [(m0, .inr (6, [.ref mw, .int (iI kn), .int (iI kp), .int (iI sd), .ref mks, .ref mbx, .ref mby, .ref mbi, .int (iI bkn), .ref msn, .int (iI sns), .ref miq, .ref mtb, .ref mrt, .ref mgr, .ref mup, .long (lI bel), .long (lI scl), .long (lI tp), .long (lI bt)])), (mw, .inl (cI, 760, .inl (aI w))), (mks, .inl (cI, 2, .inl (aI ks))), (mbx, .inl (cI, 20, .inl (aI bkx))), (mby, .inl (cI, 20, .inl (aI bky))), (mbi, .inl (cI, 20, .inl (aI bki))), (msn, .inl (cI, 4, .inl (aI sn))), (miq, .inl (cI, 4, .inl (aI iq))), (mtb, .inl (cL, 25, .inr (.inl (aL tb)))), (mrt, .inl (cL, 5, .inr (.inl (aL rt)))), (mgr, .inl (cL, 32, .inr (.inl (aL gr)))), (mup, .inl (cL, 5, .inr (.inl (aL ups))))] sz) := by
  refine zm_W (own := RX6) (lv := [(0, .ref m0)]) (QF := fun A => qWv (S := Int × Int) D (tyA cI cL cG cM) A (fun (u : Int × Int) => u.1 = sp_top (nG w L v pz) (pz * nD w L) ∧ u.2 = sp_bot (nG w L v pz) (pz * nD w L)) (fun (u : Int × Int) => [(m0, .inr (6, [.ref mw, .int (iI kn), .int (iI kp), .int (iI sd), .ref mks, .ref mbx, .ref mby, .ref mbi, .int (iI bkn), .ref msn, .int (iI sns), .ref miq, .ref mtb, .ref mrt, .ref mgr, .ref mup, .long (lI bel), .long (lI scl), .long (lI u.1), .long (lI u.2)])), (mw, .inl (cI, 760, .inl (aI w))), (mks, .inl (cI, 2, .inl (aI ks))), (mbx, .inl (cI, 20, .inl (aI bkx))), (mby, .inl (cI, 20, .inl (aI bky))), (mbi, .inl (cI, 20, .inl (aI bki))), (msn, .inl (cI, 4, .inl (aI sn))), (miq, .inl (cI, 4, .inl (aI iq))), (mtb, .inl (cL, 25, .inr (.inl (aL tb)))), (mrt, .inl (cL, 5, .inr (.inl (aL rt)))), (mgr, .inl (cL, 32, .inr (.inl (aL gr)))), (mup, .inl (cL, 5, .inr (.inl (aL ups))))])) (by decide) rfl (Nat.le_of_ble_eq_true rfl) rfl ?_
  intro p e s m below meth c A args Q hx hb hr hml hown hU hlk hnm hP hK hNst hD hA hS hsz hQ ls hl
  obtain ⟨H, hH⟩ : ∃ H, H = s.heap := ⟨_, rfl⟩
  obtain ⟨locs, hlocs⟩ : ∃ locs : List Loc, locs = [] := ⟨_, rfl⟩
  rw [← hlocs]
  have hW0 : ∀ (H : Heap) (locs : List Loc), va_P D vwCl [(m0, .inr (6, [.ref mw, .int (iI kn), .int (iI kp), .int (iI sd), .ref mks, .ref mbx, .ref mby, .ref mbi, .int (iI bkn), .ref msn, .int (iI sns), .ref miq, .ref mtb, .ref mrt, .ref mgr, .ref mup, .long (lI bel), .long (lI scl), .long (lI tp), .long (lI bt)])), (mw, .inl (cI, 760, .inl (aI w))), (mks, .inl (cI, 2, .inl (aI ks))), (mbx, .inl (cI, 20, .inl (aI bkx))), (mby, .inl (cI, 20, .inl (aI bky))), (mbi, .inl (cI, 20, .inl (aI bki))), (msn, .inl (cI, 4, .inl (aI sn))), (miq, .inl (cI, 4, .inl (aI iq))), (mtb, .inl (cL, 25, .inr (.inl (aL tb)))), (mrt, .inl (cL, 5, .inr (.inl (aL rt)))), (mgr, .inl (cL, 32, .inr (.inl (aL gr)))), (mup, .inl (cL, 5, .inr (.inl (aL ups))))] H → va_D A [(m0, .inr (6, [.ref mw, .int (iI kn), .int (iI kp), .int (iI sd), .ref mks, .ref mbx, .ref mby, .ref mbi, .int (iI bkn), .ref msn, .int (iI sns), .ref miq, .ref mtb, .ref mrt, .ref mgr, .ref mup, .long (lI bel), .long (lI scl), .long (lI tp), .long (lI bt)])), (mw, .inl (cI, 760, .inl (aI w))), (mks, .inl (cI, 2, .inl (aI ks))), (mbx, .inl (cI, 20, .inl (aI bkx))), (mby, .inl (cI, 20, .inl (aI bky))), (mbi, .inl (cI, 20, .inl (aI bki))), (msn, .inl (cI, 4, .inl (aI sn))), (miq, .inl (cI, 4, .inl (aI iq))), (mtb, .inl (cL, 25, .inr (.inl (aL tb)))), (mrt, .inl (cL, 5, .inr (.inl (aL rt)))), (mgr, .inl (cL, 32, .inr (.inl (aL gr)))), (mup, .inl (cL, 5, .inr (.inl (aL ups))))] → va_S A s.heap H locs → W p l e (rmF 2 51) s m args below meth c H locs 0 0 Q (F0 m 0 ls []) := by
    clear hP hD hS hH hlocs H locs
    intro H locs hP hD hS
    have h0 := hv.1
    have h7 := hv.2.2.2.2.2.2.2.1
    have h8 := hv.2.2.2.2.2.2.2.2.1
    have h9 := hv.2.2.2.2.2.2.2.2.2.1
    have h4 := okL_le hv hok
    have hl1 := hL.1
    have hdr := nD_rg hv hok
    have hpz := hV.1
    obtain ⟨hgr, hgs, hgb, hgu, hgf⟩ := id hg
    have hx11 := hx1.1
    have hx12 := hx1.2
    have hGr := nG_rg hv hok hV
    refine lv_lconst (v := lI 0) hx hb dX6_layGrade_0 rfl ?_
    refine lv_lstore_n (lv' := [(1, .long (lI 0)), (0, .ref m0)]) hx hb dX6_layGrade_1 rfl hl (by decide) rfl (fun ls hl => ?_)
    refine lv_iconst (v := iI 0) hx hb dX6_layGrade_2 rfl ?_
    refine lv_istore_n (lv' := [(3, .int (iI 0)), (1, .long (lI 0)), (0, .ref m0)]) hx hb dX6_layGrade_3 rfl hl (by decide) rfl (fun ls hl => ?_)
    have LP4 : ∀ (n : Nat), ∀ (j : Nat) (sm1 : Int), (j ≤ L.length) → (sm1 = sm (fun j => ups j * w (12 + 3 * L.getD j 0)) j) → (L.length < j + n) → ∀ (H : Heap) (locs : List Loc), va_P D vwCl [(m0, .inr (6, [.ref mw, .int (iI kn), .int (iI kp), .int (iI sd), .ref mks, .ref mbx, .ref mby, .ref mbi, .int (iI bkn), .ref msn, .int (iI sns), .ref miq, .ref mtb, .ref mrt, .ref mgr, .ref mup, .long (lI bel), .long (lI scl), .long (lI tp), .long (lI bt)])), (mw, .inl (cI, 760, .inl (aI w))), (mks, .inl (cI, 2, .inl (aI ks))), (mbx, .inl (cI, 20, .inl (aI bkx))), (mby, .inl (cI, 20, .inl (aI bky))), (mbi, .inl (cI, 20, .inl (aI bki))), (msn, .inl (cI, 4, .inl (aI sn))), (miq, .inl (cI, 4, .inl (aI iq))), (mtb, .inl (cL, 25, .inr (.inl (aL tb)))), (mrt, .inl (cL, 5, .inr (.inl (aL rt)))), (mgr, .inl (cL, 32, .inr (.inl (aL gr)))), (mup, .inl (cL, 5, .inr (.inl (aL ups))))] H → va_D A [(m0, .inr (6, [.ref mw, .int (iI kn), .int (iI kp), .int (iI sd), .ref mks, .ref mbx, .ref mby, .ref mbi, .int (iI bkn), .ref msn, .int (iI sns), .ref miq, .ref mtb, .ref mrt, .ref mgr, .ref mup, .long (lI bel), .long (lI scl), .long (lI tp), .long (lI bt)])), (mw, .inl (cI, 760, .inl (aI w))), (mks, .inl (cI, 2, .inl (aI ks))), (mbx, .inl (cI, 20, .inl (aI bkx))), (mby, .inl (cI, 20, .inl (aI bky))), (mbi, .inl (cI, 20, .inl (aI bki))), (msn, .inl (cI, 4, .inl (aI sn))), (miq, .inl (cI, 4, .inl (aI iq))), (mtb, .inl (cL, 25, .inr (.inl (aL tb)))), (mrt, .inl (cL, 5, .inr (.inl (aL rt)))), (mgr, .inl (cL, 32, .inr (.inl (aL gr)))), (mup, .inl (cL, 5, .inr (.inl (aL ups))))] → va_S A s.heap H locs → ∀ (ls : Array Slot), lv_has ls 4 [(0, .ref m0), (1, .long (lI sm1)), (3, .int (iI (j : Int)))] → W p l e (rmF 2 51) s m args below meth c H locs 0 0 Q (F0 m 4 ls []) := by
      intro n
      induction n with
      | zero =>
        intro j sm1 hj hsm hfu
        exfalso
        omega
      | succ n ih4 =>
        intro j sm1 hj hsm hfu H locs hP hD hS ls hl
        refine lv_iload_n hx hb dX6_layGrade_4 rfl (lv_at hl 2 rfl) ?_
        refine lv_aload_n hx hb dX6_layGrade_5 rfl (lv_at hl 0 rfl) ?_
        refine va_get (D := D) (ci := 6) (v := .int (iI sns)) (C := RX6) (T := TX6) (N := 20) hx hb hU inlX6 hown hK hP 0 rfl rfl 10 (by decide) (hU _ kf_RX6_65) (fun _ h9 => h9) rfl dX6_layGrade_6 ?_
        refine zr_icmp_ge (tgt := 45) hx hb dX6_layGrade_9 (by decide) (by omega) (by omega) (fun c_1 => ?_) (fun c_1 => ?_)
        · skip
          have hs1 : sm1 = sg L.length * nG w L v pz := by rw [hsm, show j = L.length by omega]; unfold nG; rw [← sm_mul]; exact sm_congr _ (fun i hi => by rw [hgu i hi, Int.mul_assoc])
          have hs2 : scl * bel = sg L.length * (pz * nD w L) := by rw [hgs, hgb]; grind
          have hs3 := mul_ne (show pz ≠ 0 by omega) hx12
          have hs4 := in_mul (a := pz) (A := 4) (by omega) hdr
          have hs5 := sg_cases L.length
          refine lv_aload_n hx hb dX6_layGrade_45 rfl (lv_at hl 0 rfl) ?_
          refine lv_lload_n hx hb dX6_layGrade_46 rfl (lv_at hl 1 rfl) ?_
          refine lv_aload_n hx hb dX6_layGrade_47 rfl (lv_at hl 0 rfl) ?_
          refine va_get (D := D) (ci := 6) (v := .long (lI scl)) (C := RX6) (T := TX6) (N := 20) hx hb hU inlX6 hown hK hP 0 rfl rfl 17 (by decide) (hU _ kf_RX6_95) (fun _ h9 => h9) rfl dX6_layGrade_48 ?_
          refine lv_aload_n hx hb dX6_layGrade_51 rfl (lv_at hl 0 rfl) ?_
          refine va_get (D := D) (ci := 6) (v := .long (lI bel)) (C := RX6) (T := TX6) (N := 20) hx hb hU inlX6 hown hK hP 0 rfl rfl 16 (by decide) (hU _ kf_RX6_88) (fun _ h9 => h9) rfl dX6_layGrade_52 ?_
          refine zr_lmul hx hb dX6_layGrade_55 ?_
          refine zc_Wv (As := [.long (lI sm1), .long (lI (scl * bel))]) (rest := []) (wr := []) (wc := [(m0, .inr (6, [.ref mw, .int (iI kn), .int (iI kp), .int (iI sd), .ref mks, .ref mbx, .ref mby, .ref mbi, .int (iI bkn), .ref msn, .int (iI sns), .ref miq, .ref mtb, .ref mrt, .ref mgr, .ref mup, .long (lI bel), .long (lI scl), .long (lI tp), .long (lI bt)])), (mw, .inl (cI, 760, .inl (aI w))), (mks, .inl (cI, 2, .inl (aI ks))), (mbx, .inl (cI, 20, .inl (aI bkx))), (mby, .inl (cI, 20, .inl (aI bky))), (mbi, .inl (cI, 20, .inl (aI bki))), (msn, .inl (cI, 4, .inl (aI sn))), (miq, .inl (cI, 4, .inl (aI iq))), (mtb, .inl (cL, 25, .inr (.inl (aL tb)))), (mrt, .inl (cL, 5, .inr (.inl (aL rt)))), (mgr, .inl (cL, 32, .inr (.inl (aL gr)))), (mup, .inl (cL, 5, .inr (.inl (aL ups))))]) (c_X6_reduce l D cI cL cG cM m0 mw mks mbx mby mbi msn miq mtb mrt mgr mup w kn kp sd ks bkx bky bki bkn sn sns iq tb rt gr ups bel scl tp bt sm1 (scl * bel) (by rw [hs1]; rcases hs5 with h | h <;> rw [h] <;> omega) (by rw [hs2]; rcases hs5 with h | h <;> rw [h] <;> omega) (by rw [hs2]; exact sg_mul_ne.mpr hs3) _) hx hb hml hown hU hl.1 ct_yX6_reduce cv_yX6_reduce km_RX6_114 hK hNst hP hD hS hA [0, 1, 2, 3, 4, 5, 6, 7, 8, 9, 10, 11] [] rfl rfl (by decide) (by decide) (by decide) 6 0 rfl rfl rfl ⟨rfl, rfl⟩ ⟨Nat.le_of_ble_eq_true rfl, Nat.le_of_ble_eq_true rfl⟩ rfl rfl (Nat.le_of_ble_eq_true rfl) dX6_layGrade_56 ⟨Nat.le_of_ble_eq_true rfl, Nat.le_of_ble_eq_true rfl⟩ (fun u H locs hw1 hP hD hS _ => ?_)
          obtain ⟨tp1, bt1⟩ := u
          have hw1 : tp1 = sp_top sm1 (scl * bel) ∧ bt1 = sp_bot sm1 (scl * bel) := hw1
          have hP : va_P D vwCl [(m0, .inr (6, [.ref mw, .int (iI kn), .int (iI kp), .int (iI sd), .ref mks, .ref mbx, .ref mby, .ref mbi, .int (iI bkn), .ref msn, .int (iI sns), .ref miq, .ref mtb, .ref mrt, .ref mgr, .ref mup, .long (lI bel), .long (lI scl), .long (lI tp1), .long (lI bt1)])), (mw, .inl (cI, 760, .inl (aI w))), (mks, .inl (cI, 2, .inl (aI ks))), (mbx, .inl (cI, 20, .inl (aI bkx))), (mby, .inl (cI, 20, .inl (aI bky))), (mbi, .inl (cI, 20, .inl (aI bki))), (msn, .inl (cI, 4, .inl (aI sn))), (miq, .inl (cI, 4, .inl (aI iq))), (mtb, .inl (cL, 25, .inr (.inl (aL tb)))), (mrt, .inl (cL, 5, .inr (.inl (aL rt)))), (mgr, .inl (cL, 32, .inr (.inl (aL gr)))), (mup, .inl (cL, 5, .inr (.inl (aL ups))))] H := hP
          have hD : va_D A [(m0, .inr (6, [.ref mw, .int (iI kn), .int (iI kp), .int (iI sd), .ref mks, .ref mbx, .ref mby, .ref mbi, .int (iI bkn), .ref msn, .int (iI sns), .ref miq, .ref mtb, .ref mrt, .ref mgr, .ref mup, .long (lI bel), .long (lI scl), .long (lI tp1), .long (lI bt1)])), (mw, .inl (cI, 760, .inl (aI w))), (mks, .inl (cI, 2, .inl (aI ks))), (mbx, .inl (cI, 20, .inl (aI bkx))), (mby, .inl (cI, 20, .inl (aI bky))), (mbi, .inl (cI, 20, .inl (aI bki))), (msn, .inl (cI, 4, .inl (aI sn))), (miq, .inl (cI, 4, .inl (aI iq))), (mtb, .inl (cL, 25, .inr (.inl (aL tb)))), (mrt, .inl (cL, 5, .inr (.inl (aL rt)))), (mgr, .inl (cL, 32, .inr (.inl (aL gr)))), (mup, .inl (cL, 5, .inr (.inl (aL ups))))] := hD
          rw [hQ]
          exact ze_Wv hx hb hr hlk dX6_layGrade_59 (tp1, bt1) (⟨by rw [hw1.1, hs1, hs2]; exact sp_top_sg _ hs3, by rw [hw1.2, hs1, hs2]; exact sp_bot_sg _ _ _⟩) hP hK hD hS
        · skip
          have g1 := okL_get hok (j := j) (by omega)
          have q1 := hv.2.2.2.2.2.2.2.2.2.2 _ g1
          refine lv_lload_n hx hb dX6_layGrade_12 rfl (lv_at hl 1 rfl) ?_
          refine lv_aload_n hx hb dX6_layGrade_13 rfl (lv_at hl 0 rfl) ?_
          refine va_get (D := D) (ci := 6) (v := .ref mup) (C := RX6) (T := TX6) (N := 20) hx hb hU inlX6 hown hK hP 0 rfl rfl 15 (by decide) (hU _ kf_RX6_41) (fun _ h9 => h9) rfl dX6_layGrade_14 ?_
          refine lv_iload_n hx hb dX6_layGrade_17 rfl (lv_at hl 2 rfl) ?_
          refine zr_lald hx hb hK hP 11 1 rfl rfl j (by omega) (by omega) (Nat.le_of_ble_eq_true rfl) dX6_layGrade_18 ?_
          refine lv_aload_n hx hb dX6_layGrade_19 rfl (lv_at hl 0 rfl) ?_
          refine va_get (D := D) (ci := 6) (v := .ref mw) (C := RX6) (T := TX6) (N := 20) hx hb hU inlX6 hown hK hP 0 rfl rfl 0 (by decide) (hU _ kf_RX6_7) (fun _ h9 => h9) rfl dX6_layGrade_20 ?_
          refine lv_aload_n hx hb dX6_layGrade_23 rfl (lv_at hl 0 rfl) ?_
          refine va_get (D := D) (ci := 6) (v := .ref msn) (C := RX6) (T := TX6) (N := 20) hx hb hU inlX6 hown hK hP 0 rfl rfl 9 (by decide) (hU _ kf_RX6_25) (fun _ h9 => h9) rfl dX6_layGrade_24 ?_
          refine lv_iload_n hx hb dX6_layGrade_27 rfl (lv_at hl 2 rfl) ?_
          refine zr_iald hx hb hK hP 6 0 rfl rfl j (by omega) (by omega) (Nat.le_of_ble_eq_true rfl) dX6_layGrade_28 ?_
          refine zr_rw (v := (((L.getD j 0) : Nat) : Int)) (hL.2 j (by omega)) ?_
          refine zc_Si (As := [.int (iI (((L.getD j 0) : Nat) : Int))]) (rest := [.ref mw, .long (lI (ups j)), .long (lI sm1)]) (c_X6_slot l D cI cL cG cM (((L.getD j 0) : Nat) : Int)) hx hb hml hown hU hl.1 ct_yX6_slot kt_yX6_slot km_RX6_50 ⟨rfl, rfl⟩ ⟨Nat.le_of_ble_eq_true rfl, Nat.le_of_ble_eq_true rfl⟩ rfl rfl (Nat.le_of_ble_eq_true rfl) dX6_layGrade_29 ⟨Nat.le_of_ble_eq_true rfl, Nat.le_of_ble_eq_true rfl⟩ ?_
          refine lv_iconst (v := iI 2) hx hb dX6_layGrade_32 rfl ?_
          refine zr_iadd hx hb dX6_layGrade_33 ?_
          refine zr_iald hx hb hK hP 1 0 rfl rfl (12 + 3 * (L.getD j 0)) (by omega) (by omega) (Nat.le_of_ble_eq_true rfl) dX6_layGrade_34 ?_
          refine zr_i2l hx hb dX6_layGrade_35 (by omega) ?_
          refine zr_lmul hx hb dX6_layGrade_36 ?_
          refine zr_ladd hx hb dX6_layGrade_37 ?_
          refine lv_lstore_n (lv' := [(1, .long (lI (sm1 + ((ups j) * (w (12 + 3 * (L.getD j 0))))))), (0, .ref m0), (3, .int (iI (j : Int)))]) hx hb dX6_layGrade_38 rfl hl (by decide) rfl (fun ls hl => ?_)
          refine lv_iinc (v := iI ((j : Int) + 1)) (lv' := [(3, .int (iI ((j : Int) + 1))), (1, .long (lI (sm1 + ((ups j) * (w (12 + 3 * (L.getD j 0))))))), (0, .ref m0)]) hx hb dX6_layGrade_39 hl (k := 2) rfl (iI_add _ _) (by decide) rfl (fun ls hl => ?_)
          refine lv_goto (tgt := 4) hx hb dX6_layGrade_42 (by decide) ?_
          exact ih4 (j + 1) (sm1 + ((ups j) * (w (12 + 3 * (L.getD j 0))))) (by omega) (by rw [hsm]; rfl) (by omega) _ _ hP hD hS ls (lv_sub hl [2, 1, 0] rfl)
    exact LP4 (L.length + 1) 0 0 (by omega) (rfl) (by omega) _ _ hP hD hS ls (lv_sub hl [2, 1, 0] rfl)
  rw [hlocs]
  exact hW0 s.heap [] hP hD hS

set_option maxHeartbeats 4000000 in
set_option maxRecDepth 100000 in
theorem c_X6_laySpread (l : Launch) (D : va_G) (cI cL cG cM : ClassId) (m0 mw mks mbx mby mbi msn miq mtb mrt mgr mup : Nat) (w : Nat → Int) (kn : Int) (kp : Int) (sd : Int) (ks : Nat → Int) (bkx : Nat → Int) (bky : Nat → Int) (bki : Nat → Int) (bkn : Int) (sn : Nat → Int) (sns : Int) (iq : Nat → Int) (tb : Nat → Int) (rt : Nat → Int) (gr : Nat → Int) (ups : Nat → Int) (bel : Int) (scl : Int) (tp : Int) (bt : Int) (inn : Int) (L : List Nat) (v : Nat → Int) (pz : Int) (hv : vR w) (hok : okL w L) (hL : isL L sn sns) (hg : gOK w L v pz rt ups bel scl) (hx1 : gEx w L) (hV : okV L.length v pz) (hin : 0 ≤ inn ∧ inn ≤ 10000) (sz : Nat) : Met l yX6_laySpread (wU yX6_laySpread cX6_laySpread 6 none) (rmF 2 51) (pcW D (tyA cI cL cG cM) [(m0, .inr (6, [.ref mw, .int (iI kn), .int (iI kp), .int (iI sd), .ref mks, .ref mbx, .ref mby, .ref mbi, .int (iI bkn), .ref msn, .int (iI sns), .ref miq, .ref mtb, .ref mrt, .ref mgr, .ref mup, .long (lI bel), .long (lI scl), .long (lI tp), .long (lI bt)])), (mw, .inl (cI, 760, .inl (aI w))), (mks, .inl (cI, 2, .inl (aI ks))), (mbx, .inl (cI, 20, .inl (aI bkx))), (mby, .inl (cI, 20, .inl (aI bky))), (mbi, .inl (cI, 20, .inl (aI bki))), (msn, .inl (cI, 4, .inl (aI sn))), (miq, .inl (cI, 4, .inl (aI iq))), (mtb, .inl (cL, 25, .inr (.inl (aL tb)))), (mrt, .inl (cL, 5, .inr (.inl (aL rt)))), (mgr, .inl (cL, 32, .inr (.inl (aL gr)))), (mup, .inl (cL, 5, .inr (.inl (aL ups))))] [.ref m0, .long (lI inn)] sz) (qWv (S := Int × Int) D (tyA cI cL cG cM) (va_A [(m0, .inr (6, [.ref mw, .int (iI kn), .int (iI kp), .int (iI sd), .ref mks, .ref mbx, .ref mby, .ref mbi, .int (iI bkn), .ref msn, .int (iI sns), .ref miq, .ref mtb, .ref mrt, .ref mgr, .ref mup, .long (lI bel), .long (lI scl), .long (lI tp), .long (lI bt)])), (mw, .inl (cI, 760, .inl (aI w))), (mks, .inl (cI, 2, .inl (aI ks))), (mbx, .inl (cI, 20, .inl (aI bkx))), (mby, .inl (cI, 20, .inl (aI bky))), (mbi, .inl (cI, 20, .inl (aI bki))), (msn, .inl (cI, 4, .inl (aI sn))), (miq, .inl (cI, 4, .inl (aI iq))), (mtb, .inl (cL, 25, .inr (.inl (aL tb)))), (mrt, .inl (cL, 5, .inr (.inl (aL rt)))), (mgr, .inl (cL, 32, .inr (.inl (aL gr)))), (mup, .inl (cL, 5, .inr (.inl (aL ups))))] sz) (fun (u : Int × Int) => u.1 = sp_top (nS w L v pz inn) (pz * pz * nD w L) ∧ u.2 = sp_bot (nS w L v pz inn) (pz * pz * nD w L)) (fun (u : Int × Int) => [(m0, .inr (6, [.ref mw, .int (iI kn), .int (iI kp), .int (iI sd), .ref mks, .ref mbx, .ref mby, .ref mbi, .int (iI bkn), .ref msn, .int (iI sns), .ref miq, .ref mtb, .ref mrt, .ref mgr, .ref mup, .long (lI bel), .long (lI scl), .long (lI u.1), .long (lI u.2)])), (mw, .inl (cI, 760, .inl (aI w))), (mks, .inl (cI, 2, .inl (aI ks))), (mbx, .inl (cI, 20, .inl (aI bkx))), (mby, .inl (cI, 20, .inl (aI bky))), (mbi, .inl (cI, 20, .inl (aI bki))), (msn, .inl (cI, 4, .inl (aI sn))), (miq, .inl (cI, 4, .inl (aI iq))), (mtb, .inl (cL, 25, .inr (.inl (aL tb)))), (mrt, .inl (cL, 5, .inr (.inl (aL rt)))), (mgr, .inl (cL, 32, .inr (.inl (aL gr)))), (mup, .inl (cL, 5, .inr (.inl (aL ups))))])) 0 0 (va_A [(m0, .inr (6, [.ref mw, .int (iI kn), .int (iI kp), .int (iI sd), .ref mks, .ref mbx, .ref mby, .ref mbi, .int (iI bkn), .ref msn, .int (iI sns), .ref miq, .ref mtb, .ref mrt, .ref mgr, .ref mup, .long (lI bel), .long (lI scl), .long (lI tp), .long (lI bt)])), (mw, .inl (cI, 760, .inl (aI w))), (mks, .inl (cI, 2, .inl (aI ks))), (mbx, .inl (cI, 20, .inl (aI bkx))), (mby, .inl (cI, 20, .inl (aI bky))), (mbi, .inl (cI, 20, .inl (aI bki))), (msn, .inl (cI, 4, .inl (aI sn))), (miq, .inl (cI, 4, .inl (aI iq))), (mtb, .inl (cL, 25, .inr (.inl (aL tb)))), (mrt, .inl (cL, 5, .inr (.inl (aL rt)))), (mgr, .inl (cL, 32, .inr (.inl (aL gr)))), (mup, .inl (cL, 5, .inr (.inl (aL ups))))] sz) := by
  refine zm_W (own := RX6) (lv := [(0, .ref m0), (1, .long (lI inn))]) (QF := fun A => qWv (S := Int × Int) D (tyA cI cL cG cM) A (fun (u : Int × Int) => u.1 = sp_top (nS w L v pz inn) (pz * pz * nD w L) ∧ u.2 = sp_bot (nS w L v pz inn) (pz * pz * nD w L)) (fun (u : Int × Int) => [(m0, .inr (6, [.ref mw, .int (iI kn), .int (iI kp), .int (iI sd), .ref mks, .ref mbx, .ref mby, .ref mbi, .int (iI bkn), .ref msn, .int (iI sns), .ref miq, .ref mtb, .ref mrt, .ref mgr, .ref mup, .long (lI bel), .long (lI scl), .long (lI u.1), .long (lI u.2)])), (mw, .inl (cI, 760, .inl (aI w))), (mks, .inl (cI, 2, .inl (aI ks))), (mbx, .inl (cI, 20, .inl (aI bkx))), (mby, .inl (cI, 20, .inl (aI bky))), (mbi, .inl (cI, 20, .inl (aI bki))), (msn, .inl (cI, 4, .inl (aI sn))), (miq, .inl (cI, 4, .inl (aI iq))), (mtb, .inl (cL, 25, .inr (.inl (aL tb)))), (mrt, .inl (cL, 5, .inr (.inl (aL rt)))), (mgr, .inl (cL, 32, .inr (.inl (aL gr)))), (mup, .inl (cL, 5, .inr (.inl (aL ups))))])) (by decide) rfl (Nat.le_of_ble_eq_true rfl) rfl ?_
  intro p e s m below meth c A args Q hx hb hr hml hown hU hlk hnm hP hK hNst hD hA hS hsz hQ ls hl
  obtain ⟨H, hH⟩ : ∃ H, H = s.heap := ⟨_, rfl⟩
  obtain ⟨locs, hlocs⟩ : ∃ locs : List Loc, locs = [] := ⟨_, rfl⟩
  rw [← hlocs]
  have hW0 : ∀ (H : Heap) (locs : List Loc), va_P D vwCl [(m0, .inr (6, [.ref mw, .int (iI kn), .int (iI kp), .int (iI sd), .ref mks, .ref mbx, .ref mby, .ref mbi, .int (iI bkn), .ref msn, .int (iI sns), .ref miq, .ref mtb, .ref mrt, .ref mgr, .ref mup, .long (lI bel), .long (lI scl), .long (lI tp), .long (lI bt)])), (mw, .inl (cI, 760, .inl (aI w))), (mks, .inl (cI, 2, .inl (aI ks))), (mbx, .inl (cI, 20, .inl (aI bkx))), (mby, .inl (cI, 20, .inl (aI bky))), (mbi, .inl (cI, 20, .inl (aI bki))), (msn, .inl (cI, 4, .inl (aI sn))), (miq, .inl (cI, 4, .inl (aI iq))), (mtb, .inl (cL, 25, .inr (.inl (aL tb)))), (mrt, .inl (cL, 5, .inr (.inl (aL rt)))), (mgr, .inl (cL, 32, .inr (.inl (aL gr)))), (mup, .inl (cL, 5, .inr (.inl (aL ups))))] H → va_D A [(m0, .inr (6, [.ref mw, .int (iI kn), .int (iI kp), .int (iI sd), .ref mks, .ref mbx, .ref mby, .ref mbi, .int (iI bkn), .ref msn, .int (iI sns), .ref miq, .ref mtb, .ref mrt, .ref mgr, .ref mup, .long (lI bel), .long (lI scl), .long (lI tp), .long (lI bt)])), (mw, .inl (cI, 760, .inl (aI w))), (mks, .inl (cI, 2, .inl (aI ks))), (mbx, .inl (cI, 20, .inl (aI bkx))), (mby, .inl (cI, 20, .inl (aI bky))), (mbi, .inl (cI, 20, .inl (aI bki))), (msn, .inl (cI, 4, .inl (aI sn))), (miq, .inl (cI, 4, .inl (aI iq))), (mtb, .inl (cL, 25, .inr (.inl (aL tb)))), (mrt, .inl (cL, 5, .inr (.inl (aL rt)))), (mgr, .inl (cL, 32, .inr (.inl (aL gr)))), (mup, .inl (cL, 5, .inr (.inl (aL ups))))] → va_S A s.heap H locs → W p l e (rmF 2 51) s m args below meth c H locs 0 0 Q (F0 m 0 ls []) := by
    clear hP hD hS hH hlocs H locs
    intro H locs hP hD hS
    have h0 := hv.1
    have h7 := hv.2.2.2.2.2.2.2.1
    have h8 := hv.2.2.2.2.2.2.2.2.1
    have h9 := hv.2.2.2.2.2.2.2.2.2.1
    have h4 := okL_le hv hok
    have hl1 := hL.1
    have hdr := nD_rg hv hok
    have hpz := hV.1
    obtain ⟨hgr, hgs, hgb, hgu, hgf⟩ := id hg
    have hx11 := hx1.1
    have hx12 := hx1.2
    have hSr := nS_rg hv hok hx11 hV hin
    refine lv_aload_n hx hb dX6_laySpread_0 rfl (lv_at hl 0 rfl) ?_
    refine va_get (D := D) (ci := 6) (v := .long (lI scl)) (C := RX6) (T := TX6) (N := 20) hx hb hU inlX6 hown hK hP 0 rfl rfl 17 (by decide) (hU _ kf_RX6_95) (fun _ h9 => h9) rfl dX6_laySpread_1 ?_
    refine lv_aload_n hx hb dX6_laySpread_4 rfl (lv_at hl 0 rfl) ?_
    refine va_get (D := D) (ci := 6) (v := .ref mup) (C := RX6) (T := TX6) (N := 20) hx hb hU inlX6 hown hK hP 0 rfl rfl 15 (by decide) (hU _ kf_RX6_41) (fun _ h9 => h9) rfl dX6_laySpread_5 ?_
    refine lv_aload_n hx hb dX6_laySpread_8 rfl (lv_at hl 0 rfl) ?_
    refine va_get (D := D) (ci := 6) (v := .int (iI sns)) (C := RX6) (T := TX6) (N := 20) hx hb hU inlX6 hown hK hP 0 rfl rfl 10 (by decide) (hU _ kf_RX6_65) (fun _ h9 => h9) rfl dX6_laySpread_9 ?_
    refine zr_lald hx hb hK hP 11 1 rfl rfl L.length (by omega) (by omega) (Nat.le_of_ble_eq_true rfl) dX6_laySpread_12 ?_
    refine zr_lmul hx hb dX6_laySpread_13 ?_
    refine lv_lload_n hx hb dX6_laySpread_14 rfl (lv_at hl 1 rfl) ?_
    refine lv_aload_n hx hb dX6_laySpread_15 rfl (lv_at hl 0 rfl) ?_
    refine va_get (D := D) (ci := 6) (v := .long (lI bel)) (C := RX6) (T := TX6) (N := 20) hx hb hU inlX6 hown hK hP 0 rfl rfl 16 (by decide) (hU _ kf_RX6_88) (fun _ h9 => h9) rfl dX6_laySpread_16 ?_
    refine zr_lmul hx hb dX6_laySpread_19 ?_
    refine zr_lsub hx hb dX6_laySpread_20 ?_
    refine lv_lstore_n (lv' := [(3, .long (lI ((scl * (ups L.length)) - (inn * bel)))), (0, .ref m0), (1, .long (lI inn))]) hx hb dX6_laySpread_21 rfl hl (by decide) rfl (fun ls hl => ?_)
    refine lv_iconst (v := iI 0) hx hb dX6_laySpread_22 rfl ?_
    refine lv_istore (lv' := [(5, .int (iI 0)), (3, .long (lI ((scl * (ups L.length)) - (inn * bel)))), (0, .ref m0), (1, .long (lI inn))]) hx hb dX6_laySpread_23 hl (by decide) rfl (fun ls hl => ?_)
    have LP25 : ∀ (n : Nat), ∀ (j : Nat) (sm1 : Int), (j ≤ L.length) → (sm1 = scl * ups L.length - inn * bel + sm (fun j => ups j * rt j) j) → (L.length < j + n) → ∀ (H : Heap) (locs : List Loc), va_P D vwCl [(m0, .inr (6, [.ref mw, .int (iI kn), .int (iI kp), .int (iI sd), .ref mks, .ref mbx, .ref mby, .ref mbi, .int (iI bkn), .ref msn, .int (iI sns), .ref miq, .ref mtb, .ref mrt, .ref mgr, .ref mup, .long (lI bel), .long (lI scl), .long (lI tp), .long (lI bt)])), (mw, .inl (cI, 760, .inl (aI w))), (mks, .inl (cI, 2, .inl (aI ks))), (mbx, .inl (cI, 20, .inl (aI bkx))), (mby, .inl (cI, 20, .inl (aI bky))), (mbi, .inl (cI, 20, .inl (aI bki))), (msn, .inl (cI, 4, .inl (aI sn))), (miq, .inl (cI, 4, .inl (aI iq))), (mtb, .inl (cL, 25, .inr (.inl (aL tb)))), (mrt, .inl (cL, 5, .inr (.inl (aL rt)))), (mgr, .inl (cL, 32, .inr (.inl (aL gr)))), (mup, .inl (cL, 5, .inr (.inl (aL ups))))] H → va_D A [(m0, .inr (6, [.ref mw, .int (iI kn), .int (iI kp), .int (iI sd), .ref mks, .ref mbx, .ref mby, .ref mbi, .int (iI bkn), .ref msn, .int (iI sns), .ref miq, .ref mtb, .ref mrt, .ref mgr, .ref mup, .long (lI bel), .long (lI scl), .long (lI tp), .long (lI bt)])), (mw, .inl (cI, 760, .inl (aI w))), (mks, .inl (cI, 2, .inl (aI ks))), (mbx, .inl (cI, 20, .inl (aI bkx))), (mby, .inl (cI, 20, .inl (aI bky))), (mbi, .inl (cI, 20, .inl (aI bki))), (msn, .inl (cI, 4, .inl (aI sn))), (miq, .inl (cI, 4, .inl (aI iq))), (mtb, .inl (cL, 25, .inr (.inl (aL tb)))), (mrt, .inl (cL, 5, .inr (.inl (aL rt)))), (mgr, .inl (cL, 32, .inr (.inl (aL gr)))), (mup, .inl (cL, 5, .inr (.inl (aL ups))))] → va_S A s.heap H locs → ∀ (ls : Array Slot), lv_has ls 6 [(0, .ref m0), (1, .long (lI inn)), (3, .long (lI sm1)), (5, .int (iI (j : Int)))] → W p l e (rmF 2 51) s m args below meth c H locs 0 0 Q (F0 m 25 ls []) := by
      intro n
      induction n with
      | zero =>
        intro j sm1 hj hsm hfu
        exfalso
        omega
      | succ n ih25 =>
        intro j sm1 hj hsm hfu H locs hP hD hS ls hl
        refine lv_iload hx hb dX6_laySpread_25 (lv_at hl 3 rfl) ?_
        refine lv_aload_n hx hb dX6_laySpread_27 rfl (lv_at hl 0 rfl) ?_
        refine va_get (D := D) (ci := 6) (v := .int (iI sns)) (C := RX6) (T := TX6) (N := 20) hx hb hU inlX6 hown hK hP 0 rfl rfl 10 (by decide) (hU _ kf_RX6_65) (fun _ h9 => h9) rfl dX6_laySpread_28 ?_
        refine zr_icmp_ge (tgt := 58) hx hb dX6_laySpread_31 (by decide) (by omega) (by omega) (fun c_1 => ?_) (fun c_1 => ?_)
        · skip
          have hs1 : sm1 = sg L.length * nS w L v pz inn := by rw [hsm, show j = L.length by omega]; unfold nS; rw [sm_congr (g := fun i => sg L.length * (nP w L v pz i * v i)) _ (fun i hi => by rw [hgu i hi, hgr i hi, Int.mul_assoc]), sm_mul, hgf, hgb, hgs]; grind
          have hs2 : scl * scl * bel = sg L.length * (pz * pz * nD w L) := by rw [hgs, hgb]; grind
          have hs3 := mul_ne (mul_ne (show pz ≠ 0 by omega) (show pz ≠ 0 by omega)) hx12
          have hs4 := in_mul (in_mul (a := pz) (A := 4) (b := pz) (B := 4) (by omega) (by omega)) hdr
          have hs5 := sg_cases L.length
          refine lv_aload_n hx hb dX6_laySpread_58 rfl (lv_at hl 0 rfl) ?_
          refine lv_lload_n hx hb dX6_laySpread_59 rfl (lv_at hl 2 rfl) ?_
          refine lv_aload_n hx hb dX6_laySpread_60 rfl (lv_at hl 0 rfl) ?_
          refine va_get (D := D) (ci := 6) (v := .long (lI scl)) (C := RX6) (T := TX6) (N := 20) hx hb hU inlX6 hown hK hP 0 rfl rfl 17 (by decide) (hU _ kf_RX6_95) (fun _ h9 => h9) rfl dX6_laySpread_61 ?_
          refine lv_aload_n hx hb dX6_laySpread_64 rfl (lv_at hl 0 rfl) ?_
          refine va_get (D := D) (ci := 6) (v := .long (lI scl)) (C := RX6) (T := TX6) (N := 20) hx hb hU inlX6 hown hK hP 0 rfl rfl 17 (by decide) (hU _ kf_RX6_95) (fun _ h9 => h9) rfl dX6_laySpread_65 ?_
          refine zr_lmul hx hb dX6_laySpread_68 ?_
          refine lv_aload_n hx hb dX6_laySpread_69 rfl (lv_at hl 0 rfl) ?_
          refine va_get (D := D) (ci := 6) (v := .long (lI bel)) (C := RX6) (T := TX6) (N := 20) hx hb hU inlX6 hown hK hP 0 rfl rfl 16 (by decide) (hU _ kf_RX6_88) (fun _ h9 => h9) rfl dX6_laySpread_70 ?_
          refine zr_lmul hx hb dX6_laySpread_73 ?_
          refine zc_Wv (As := [.long (lI sm1), .long (lI ((scl * scl) * bel))]) (rest := []) (wr := []) (wc := [(m0, .inr (6, [.ref mw, .int (iI kn), .int (iI kp), .int (iI sd), .ref mks, .ref mbx, .ref mby, .ref mbi, .int (iI bkn), .ref msn, .int (iI sns), .ref miq, .ref mtb, .ref mrt, .ref mgr, .ref mup, .long (lI bel), .long (lI scl), .long (lI tp), .long (lI bt)])), (mw, .inl (cI, 760, .inl (aI w))), (mks, .inl (cI, 2, .inl (aI ks))), (mbx, .inl (cI, 20, .inl (aI bkx))), (mby, .inl (cI, 20, .inl (aI bky))), (mbi, .inl (cI, 20, .inl (aI bki))), (msn, .inl (cI, 4, .inl (aI sn))), (miq, .inl (cI, 4, .inl (aI iq))), (mtb, .inl (cL, 25, .inr (.inl (aL tb)))), (mrt, .inl (cL, 5, .inr (.inl (aL rt)))), (mgr, .inl (cL, 32, .inr (.inl (aL gr)))), (mup, .inl (cL, 5, .inr (.inl (aL ups))))]) (c_X6_reduce l D cI cL cG cM m0 mw mks mbx mby mbi msn miq mtb mrt mgr mup w kn kp sd ks bkx bky bki bkn sn sns iq tb rt gr ups bel scl tp bt sm1 ((scl * scl) * bel) (by rw [hs1]; rcases hs5 with h | h <;> rw [h] <;> omega) (by rw [hs2]; rcases hs5 with h | h <;> rw [h] <;> omega) (by rw [hs2]; exact sg_mul_ne.mpr hs3) _) hx hb hml hown hU hl.1 ct_yX6_reduce cv_yX6_reduce km_RX6_114 hK hNst hP hD hS hA [0, 1, 2, 3, 4, 5, 6, 7, 8, 9, 10, 11] [] rfl rfl (by decide) (by decide) (by decide) 6 0 rfl rfl rfl ⟨rfl, rfl⟩ ⟨Nat.le_of_ble_eq_true rfl, Nat.le_of_ble_eq_true rfl⟩ rfl rfl (Nat.le_of_ble_eq_true rfl) dX6_laySpread_74 ⟨Nat.le_of_ble_eq_true rfl, Nat.le_of_ble_eq_true rfl⟩ (fun u H locs hw1 hP hD hS _ => ?_)
          obtain ⟨tp1, bt1⟩ := u
          have hw1 : tp1 = sp_top sm1 ((scl * scl) * bel) ∧ bt1 = sp_bot sm1 ((scl * scl) * bel) := hw1
          have hP : va_P D vwCl [(m0, .inr (6, [.ref mw, .int (iI kn), .int (iI kp), .int (iI sd), .ref mks, .ref mbx, .ref mby, .ref mbi, .int (iI bkn), .ref msn, .int (iI sns), .ref miq, .ref mtb, .ref mrt, .ref mgr, .ref mup, .long (lI bel), .long (lI scl), .long (lI tp1), .long (lI bt1)])), (mw, .inl (cI, 760, .inl (aI w))), (mks, .inl (cI, 2, .inl (aI ks))), (mbx, .inl (cI, 20, .inl (aI bkx))), (mby, .inl (cI, 20, .inl (aI bky))), (mbi, .inl (cI, 20, .inl (aI bki))), (msn, .inl (cI, 4, .inl (aI sn))), (miq, .inl (cI, 4, .inl (aI iq))), (mtb, .inl (cL, 25, .inr (.inl (aL tb)))), (mrt, .inl (cL, 5, .inr (.inl (aL rt)))), (mgr, .inl (cL, 32, .inr (.inl (aL gr)))), (mup, .inl (cL, 5, .inr (.inl (aL ups))))] H := hP
          have hD : va_D A [(m0, .inr (6, [.ref mw, .int (iI kn), .int (iI kp), .int (iI sd), .ref mks, .ref mbx, .ref mby, .ref mbi, .int (iI bkn), .ref msn, .int (iI sns), .ref miq, .ref mtb, .ref mrt, .ref mgr, .ref mup, .long (lI bel), .long (lI scl), .long (lI tp1), .long (lI bt1)])), (mw, .inl (cI, 760, .inl (aI w))), (mks, .inl (cI, 2, .inl (aI ks))), (mbx, .inl (cI, 20, .inl (aI bkx))), (mby, .inl (cI, 20, .inl (aI bky))), (mbi, .inl (cI, 20, .inl (aI bki))), (msn, .inl (cI, 4, .inl (aI sn))), (miq, .inl (cI, 4, .inl (aI iq))), (mtb, .inl (cL, 25, .inr (.inl (aL tb)))), (mrt, .inl (cL, 5, .inr (.inl (aL rt)))), (mgr, .inl (cL, 32, .inr (.inl (aL gr)))), (mup, .inl (cL, 5, .inr (.inl (aL ups))))] := hD
          rw [hQ]
          exact ze_Wv hx hb hr hlk dX6_laySpread_77 (tp1, bt1) (⟨by rw [hw1.1, hs1, hs2]; exact sp_top_sg _ hs3, by rw [hw1.2, hs1, hs2]; exact sp_bot_sg _ _ _⟩) hP hK hD hS
        · skip
          refine lv_lload_n hx hb dX6_laySpread_34 rfl (lv_at hl 2 rfl) ?_
          refine lv_aload_n hx hb dX6_laySpread_35 rfl (lv_at hl 0 rfl) ?_
          refine va_get (D := D) (ci := 6) (v := .ref mup) (C := RX6) (T := TX6) (N := 20) hx hb hU inlX6 hown hK hP 0 rfl rfl 15 (by decide) (hU _ kf_RX6_41) (fun _ h9 => h9) rfl dX6_laySpread_36 ?_
          refine lv_iload hx hb dX6_laySpread_39 (lv_at hl 3 rfl) ?_
          refine zr_lald hx hb hK hP 11 1 rfl rfl j (by omega) (by omega) (Nat.le_of_ble_eq_true rfl) dX6_laySpread_41 ?_
          refine lv_aload_n hx hb dX6_laySpread_42 rfl (lv_at hl 0 rfl) ?_
          refine va_get (D := D) (ci := 6) (v := .ref mrt) (C := RX6) (T := TX6) (N := 20) hx hb hU inlX6 hown hK hP 0 rfl rfl 13 (by decide) (hU _ kf_RX6_35) (fun _ h9 => h9) rfl dX6_laySpread_43 ?_
          refine lv_iload hx hb dX6_laySpread_46 (lv_at hl 3 rfl) ?_
          refine zr_lald hx hb hK hP 9 1 rfl rfl j (by omega) (by omega) (Nat.le_of_ble_eq_true rfl) dX6_laySpread_48 ?_
          refine zr_lmul hx hb dX6_laySpread_49 ?_
          refine zr_ladd hx hb dX6_laySpread_50 ?_
          refine lv_lstore_n (lv' := [(3, .long (lI (sm1 + ((ups j) * (rt j))))), (0, .ref m0), (1, .long (lI inn)), (5, .int (iI (j : Int)))]) hx hb dX6_laySpread_51 rfl hl (by decide) rfl (fun ls hl => ?_)
          refine lv_iinc (v := iI ((j : Int) + 1)) (lv' := [(5, .int (iI ((j : Int) + 1))), (3, .long (lI (sm1 + ((ups j) * (rt j))))), (0, .ref m0), (1, .long (lI inn))]) hx hb dX6_laySpread_52 hl (k := 3) rfl (iI_add _ _) (by decide) rfl (fun ls hl => ?_)
          refine lv_goto (tgt := 25) hx hb dX6_laySpread_55 (by decide) ?_
          exact ih25 (j + 1) (sm1 + ((ups j) * (rt j))) (by omega) (by rw [hsm]; show _ = _ + (sm _ j + ups j * rt j); omega) (by omega) _ _ hP hD hS ls (lv_sub hl [2, 3, 1, 0] rfl)
    exact LP25 (L.length + 1) 0 ((scl * (ups L.length)) - (inn * bel)) (by omega) ((Int.add_zero _).symm) (by omega) _ _ hP hD hS ls (lv_sub hl [2, 3, 1, 0] rfl)
  rw [hlocs]
  exact hW0 s.heap [] hP hD hS
