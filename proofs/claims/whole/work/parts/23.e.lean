set_option maxHeartbeats 4000000 in
set_option maxRecDepth 100000 in
theorem c_X1_setOfLooked (l : Launch) (D : va_G) (cI cL cG cM : ClassId) (ea elk ept efr etk ebt etp etb ewn ga gx gy gz : Nat) (lk : Nat → Int) (cnt : Int) (snd : Int) (pt : Nat → Int) (fr : Nat → Int) (tk : Nat → Int) (bt : Nat → Int) (tps : Nat → Int) (wp : Int) (tbl : Nat → Int) (wn : Nat → Int) (pl : Int) (wh : Int) (g : Nat → Int) (L : List Nat) (hv : vR g) (hok : okL g L) (hL : isL L lk cnt) : Met l yX1_setOfLooked (wU yX1_setOfLooked cX1_setOfLooked 3 (some .int)) (rmF 0 0) (pcR D (tyA cI cL cG cM) [(ea, .inr (1, [.ref ga, .ref elk, .int (iI cnt), .int (iI snd), .ref ept, .ref efr, .ref etk, .ref ebt, .ref etp, .int (iI wp), .ref etb, .ref ewn, .int (iI pl), .long (lI wh)])), (elk, .inl (cI, 4, .inl (aI lk))), (ept, .inl (cL, 4, .inr (.inl (aL pt)))), (efr, .inl (cI, 10, .inl (aI fr))), (etk, .inl (cI, 4, .inl (aI tk))), (ebt, .inl (cI, 16, .inl (aI bt))), (etp, .inl (cI, 4, .inl (aI tps))), (etb, .inl (cL, 9, .inr (.inl (aL tbl)))), (ewn, .inl (cL, 3, .inr (.inl (aL wn)))), (ga, .inr (2, [.int (iI (g 0)), .ref gx, .ref gy, .ref gz, .int (iI (g 1)), .int (iI (g 2)), .int (iI (g 3)), .int (iI (g 4)), .int (iI (g 5)), .int (iI (g 6)), .int (iI (g 7)), .int (iI (g 8)), .int (iI (g 9))])), (gx, .inl (cI, 10, .inl (aI (fun j => g (10 + 3 * j))))), (gy, .inl (cI, 10, .inl (aI (fun j => g (11 + 3 * j))))), (gz, .inl (cI, 10, .inl (aI (fun j => g (12 + 3 * j)))))] [.ref ea]) (qRi ((sp_sets (fun _ => True) L L.length : Nat) : Int)) 0 0 (fun _ => False) := by
  refine zm_R (own := RX1) (lv := [(0, .ref ea)]) (by decide) rfl (Nat.le_of_ble_eq_true rfl) rfl ?_
  intro p e s m below meth c args Q hx hb hr hml hown hU hlk hP hK hNst hQ ls hl
  have h0 := hv.1
  have h7 := hv.2.2.2.2.2.2.2.1
  have h8 := hv.2.2.2.2.2.2.2.2.1
  have h9 := hv.2.2.2.2.2.2.2.2.2.1
  have h4 := okL_le hv hok
  have hl1 := hL.1
  refine lv_iconst (v := iI 0) hx hb dX1_setOfLooked_0 rfl ?_
  refine lv_istore_n (lv' := [(1, .int (iI 0)), (0, .ref ea)]) hx hb dX1_setOfLooked_1 rfl hl (by decide) rfl (fun ls hl => ?_)
  refine lv_iconst (v := iI 0) hx hb dX1_setOfLooked_2 rfl ?_
  refine lv_istore_n (lv' := [(2, .int (iI 0)), (1, .int (iI 0)), (0, .ref ea)]) hx hb dX1_setOfLooked_3 rfl hl (by decide) rfl (fun ls hl => ?_)
  have LP4 : ∀ (n : Nat), ∀ (k : Nat), (k ≤ L.length) → (L.length < k + n) → ∀ (ls : Array Slot), lv_has ls 3 [(0, .ref ea), (1, .int (iI (((sp_sets (fun _ => True) L k) : Nat) : Int))), (2, .int (iI (k : Int)))] → W p l e (rmF 0 0) s m args below meth c s.heap [] 0 0 Q (F0 m 4 ls []) := by
    intro n
    induction n with
    | zero =>
      intro k hk hfu
      exfalso
      omega
    | succ n ih4 =>
      intro k hk hfu ls hl
      refine lv_iload_n hx hb dX1_setOfLooked_4 rfl (lv_at hl 2 rfl) ?_
      refine lv_aload_n hx hb dX1_setOfLooked_5 rfl (lv_at hl 0 rfl) ?_
      refine va_get (D := D) (ci := 1) (v := .int (iI cnt)) (C := RX1) (T := TX1) (N := 14) hx hb hU inlX1 hown hK hP 0 rfl rfl 2 (by decide) (hU _ kf_RX1_49) (fun _ h9 => h9) rfl dX1_setOfLooked_6 ?_
      refine zr_icmp_ge (tgt := 29) hx hb dX1_setOfLooked_9 (by decide) (by omega) (by omega) (fun c_1 => ?_) (fun c_1 => ?_)
      · skip
        refine lv_iload_n hx hb dX1_setOfLooked_29 rfl (lv_at hl 1 rfl) ?_
        rw [hQ]
        exact ze_Ri hx hb hr hlk dX1_setOfLooked_30 (by rw [show k = L.length by omega])
      · skip
        have g1 := okL_get hok (j := k) (by omega)
        refine lv_iload_n hx hb dX1_setOfLooked_12 rfl (lv_at hl 1 rfl) ?_
        refine lv_iconst (v := iI 1) hx hb dX1_setOfLooked_13 rfl ?_
        refine lv_aload_n hx hb dX1_setOfLooked_14 rfl (lv_at hl 0 rfl) ?_
        refine va_get (D := D) (ci := 1) (v := .ref elk) (C := RX1) (T := TX1) (N := 14) hx hb hU inlX1 hown hK hP 0 rfl rfl 1 (by decide) (hU _ kf_RX1_9) (fun _ h9 => h9) rfl dX1_setOfLooked_15 ?_
        refine lv_iload_n hx hb dX1_setOfLooked_18 rfl (lv_at hl 2 rfl) ?_
        refine zr_iald hx hb hK hP 1 0 rfl rfl k (by omega) (by omega) (Nat.le_of_ble_eq_true rfl) dX1_setOfLooked_19 ?_
        refine zr_rw (v := (((L.getD k 0) : Nat) : Int)) (hL.2 k (by omega)) ?_
        refine lv_ishl hx hb dX1_setOfLooked_20 ?_
        refine zr_bti (z := (((2 ^ L.getD k 0) : Nat) : Int)) (bt_shl _ (by omega)) ?_
        refine lv_ior hx hb dX1_setOfLooked_21 ?_
        refine zr_bti (z := (((sp_sets (fun _ => True) L (k + 1)) : Nat) : Int)) (by rw [bt_or, sp_sets, if_pos trivial]) ?_
        refine lv_istore_n (lv' := [(1, .int (iI (((sp_sets (fun _ => True) L (k + 1)) : Nat) : Int))), (0, .ref ea), (2, .int (iI (k : Int)))]) hx hb dX1_setOfLooked_22 rfl hl (by decide) rfl (fun ls hl => ?_)
        refine lv_iinc (v := iI ((k : Int) + 1)) (lv' := [(2, .int (iI ((k : Int) + 1))), (1, .int (iI (((sp_sets (fun _ => True) L (k + 1)) : Nat) : Int))), (0, .ref ea)]) hx hb dX1_setOfLooked_23 hl (k := 2) rfl (iI_add _ _) (by decide) rfl (fun ls hl => ?_)
        refine lv_goto (tgt := 4) hx hb dX1_setOfLooked_26 (by decide) ?_
        exact ih4 (k + 1) (by omega) (by omega) ls (lv_sub hl [2, 1, 0] rfl)
  exact LP4 (L.length + 1) 0 (by omega) (by omega) ls (lv_sub hl [2, 1, 0] rfl)

set_option maxHeartbeats 4000000 in
set_option maxRecDepth 100000 in
theorem c_X1_fillBetween (l : Launch) (D : va_G) (cI cL cG cM : ClassId) (ea elk ept efr etk ebt etp etb ewn ga gx gy gz : Nat) (lk : Nat → Int) (cnt : Int) (snd : Int) (pt : Nat → Int) (fr : Nat → Int) (tk : Nat → Int) (bt : Nat → Int) (tps : Nat → Int) (wp : Int) (tbl : Nat → Int) (wn : Nat → Int) (pl : Int) (wh : Int) (g : Nat → Int) (L : List Nat) (hv : vR g) (hok : okL g L) (hL : isL L lk cnt) (sz : Nat) : Met l yX1_fillBetween (wU yX1_fillBetween cX1_fillBetween 5 none) (rmF 3 70) (pcW D (tyA cI cL cG cM) [(ea, .inr (1, [.ref ga, .ref elk, .int (iI cnt), .int (iI snd), .ref ept, .ref efr, .ref etk, .ref ebt, .ref etp, .int (iI wp), .ref etb, .ref ewn, .int (iI pl), .long (lI wh)])), (elk, .inl (cI, 4, .inl (aI lk))), (ept, .inl (cL, 4, .inr (.inl (aL pt)))), (efr, .inl (cI, 10, .inl (aI fr))), (etk, .inl (cI, 4, .inl (aI tk))), (ebt, .inl (cI, 16, .inl (aI bt))), (etp, .inl (cI, 4, .inl (aI tps))), (etb, .inl (cL, 9, .inr (.inl (aL tbl)))), (ewn, .inl (cL, 3, .inr (.inl (aL wn)))), (ga, .inr (2, [.int (iI (g 0)), .ref gx, .ref gy, .ref gz, .int (iI (g 1)), .int (iI (g 2)), .int (iI (g 3)), .int (iI (g 4)), .int (iI (g 5)), .int (iI (g 6)), .int (iI (g 7)), .int (iI (g 8)), .int (iI (g 9))])), (gx, .inl (cI, 10, .inl (aI (fun j => g (10 + 3 * j))))), (gy, .inl (cI, 10, .inl (aI (fun j => g (11 + 3 * j))))), (gz, .inl (cI, 10, .inl (aI (fun j => g (12 + 3 * j)))))] [.ref ea] sz) (qWv (S := (Nat → Int)) D (tyA cI cL cG cM) (va_A [(ea, .inr (1, [.ref ga, .ref elk, .int (iI cnt), .int (iI snd), .ref ept, .ref efr, .ref etk, .ref ebt, .ref etp, .int (iI wp), .ref etb, .ref ewn, .int (iI pl), .long (lI wh)])), (elk, .inl (cI, 4, .inl (aI lk))), (ept, .inl (cL, 4, .inr (.inl (aL pt)))), (efr, .inl (cI, 10, .inl (aI fr))), (etk, .inl (cI, 4, .inl (aI tk))), (ebt, .inl (cI, 16, .inl (aI bt))), (etp, .inl (cI, 4, .inl (aI tps))), (etb, .inl (cL, 9, .inr (.inl (aL tbl)))), (ewn, .inl (cL, 3, .inr (.inl (aL wn)))), (ga, .inr (2, [.int (iI (g 0)), .ref gx, .ref gy, .ref gz, .int (iI (g 1)), .int (iI (g 2)), .int (iI (g 3)), .int (iI (g 4)), .int (iI (g 5)), .int (iI (g 6)), .int (iI (g 7)), .int (iI (g 8)), .int (iI (g 9))])), (gx, .inl (cI, 10, .inl (aI (fun j => g (10 + 3 * j))))), (gy, .inl (cI, 10, .inl (aI (fun j => g (11 + 3 * j))))), (gz, .inl (cI, 10, .inl (aI (fun j => g (12 + 3 * j)))))] sz) (fun (u : (Nat → Int)) => ∀ i j : Nat, i < L.length → j < L.length → u (4 * i + j) = sp_uu g L i j) (fun (u : (Nat → Int)) => [(ea, .inr (1, [.ref ga, .ref elk, .int (iI cnt), .int (iI snd), .ref ept, .ref efr, .ref etk, .ref ebt, .ref etp, .int (iI wp), .ref etb, .ref ewn, .int (iI pl), .long (lI wh)])), (elk, .inl (cI, 4, .inl (aI lk))), (ept, .inl (cL, 4, .inr (.inl (aL pt)))), (efr, .inl (cI, 10, .inl (aI fr))), (etk, .inl (cI, 4, .inl (aI tk))), (ebt, .inl (cI, 16, .inl (aI u))), (etp, .inl (cI, 4, .inl (aI tps))), (etb, .inl (cL, 9, .inr (.inl (aL tbl)))), (ewn, .inl (cL, 3, .inr (.inl (aL wn)))), (ga, .inr (2, [.int (iI (g 0)), .ref gx, .ref gy, .ref gz, .int (iI (g 1)), .int (iI (g 2)), .int (iI (g 3)), .int (iI (g 4)), .int (iI (g 5)), .int (iI (g 6)), .int (iI (g 7)), .int (iI (g 8)), .int (iI (g 9))])), (gx, .inl (cI, 10, .inl (aI (fun j => g (10 + 3 * j))))), (gy, .inl (cI, 10, .inl (aI (fun j => g (11 + 3 * j))))), (gz, .inl (cI, 10, .inl (aI (fun j => g (12 + 3 * j)))))])) 0 0 (va_A [(ea, .inr (1, [.ref ga, .ref elk, .int (iI cnt), .int (iI snd), .ref ept, .ref efr, .ref etk, .ref ebt, .ref etp, .int (iI wp), .ref etb, .ref ewn, .int (iI pl), .long (lI wh)])), (elk, .inl (cI, 4, .inl (aI lk))), (ept, .inl (cL, 4, .inr (.inl (aL pt)))), (efr, .inl (cI, 10, .inl (aI fr))), (etk, .inl (cI, 4, .inl (aI tk))), (ebt, .inl (cI, 16, .inl (aI bt))), (etp, .inl (cI, 4, .inl (aI tps))), (etb, .inl (cL, 9, .inr (.inl (aL tbl)))), (ewn, .inl (cL, 3, .inr (.inl (aL wn)))), (ga, .inr (2, [.int (iI (g 0)), .ref gx, .ref gy, .ref gz, .int (iI (g 1)), .int (iI (g 2)), .int (iI (g 3)), .int (iI (g 4)), .int (iI (g 5)), .int (iI (g 6)), .int (iI (g 7)), .int (iI (g 8)), .int (iI (g 9))])), (gx, .inl (cI, 10, .inl (aI (fun j => g (10 + 3 * j))))), (gy, .inl (cI, 10, .inl (aI (fun j => g (11 + 3 * j))))), (gz, .inl (cI, 10, .inl (aI (fun j => g (12 + 3 * j)))))] sz) := by
  refine zm_W (own := RX1) (lv := [(0, .ref ea)]) (QF := fun A => qWv (S := (Nat → Int)) D (tyA cI cL cG cM) A (fun (u : (Nat → Int)) => ∀ i j : Nat, i < L.length → j < L.length → u (4 * i + j) = sp_uu g L i j) (fun (u : (Nat → Int)) => [(ea, .inr (1, [.ref ga, .ref elk, .int (iI cnt), .int (iI snd), .ref ept, .ref efr, .ref etk, .ref ebt, .ref etp, .int (iI wp), .ref etb, .ref ewn, .int (iI pl), .long (lI wh)])), (elk, .inl (cI, 4, .inl (aI lk))), (ept, .inl (cL, 4, .inr (.inl (aL pt)))), (efr, .inl (cI, 10, .inl (aI fr))), (etk, .inl (cI, 4, .inl (aI tk))), (ebt, .inl (cI, 16, .inl (aI u))), (etp, .inl (cI, 4, .inl (aI tps))), (etb, .inl (cL, 9, .inr (.inl (aL tbl)))), (ewn, .inl (cL, 3, .inr (.inl (aL wn)))), (ga, .inr (2, [.int (iI (g 0)), .ref gx, .ref gy, .ref gz, .int (iI (g 1)), .int (iI (g 2)), .int (iI (g 3)), .int (iI (g 4)), .int (iI (g 5)), .int (iI (g 6)), .int (iI (g 7)), .int (iI (g 8)), .int (iI (g 9))])), (gx, .inl (cI, 10, .inl (aI (fun j => g (10 + 3 * j))))), (gy, .inl (cI, 10, .inl (aI (fun j => g (11 + 3 * j))))), (gz, .inl (cI, 10, .inl (aI (fun j => g (12 + 3 * j)))))])) (by decide) rfl (Nat.le_of_ble_eq_true rfl) rfl ?_
  intro p e s m below meth c A args Q hx hb hr hml hown hU hlk hnm hP hK hNst hD hA hS hsz hQ ls hl
  obtain ⟨H, hH⟩ : ∃ H, H = s.heap := ⟨_, rfl⟩
  obtain ⟨locs, hlocs⟩ : ∃ locs : List Loc, locs = [] := ⟨_, rfl⟩
  rw [← hlocs]
  have hW0 : ∀ (H : Heap) (locs : List Loc), va_P D vwCl [(ea, .inr (1, [.ref ga, .ref elk, .int (iI cnt), .int (iI snd), .ref ept, .ref efr, .ref etk, .ref ebt, .ref etp, .int (iI wp), .ref etb, .ref ewn, .int (iI pl), .long (lI wh)])), (elk, .inl (cI, 4, .inl (aI lk))), (ept, .inl (cL, 4, .inr (.inl (aL pt)))), (efr, .inl (cI, 10, .inl (aI fr))), (etk, .inl (cI, 4, .inl (aI tk))), (ebt, .inl (cI, 16, .inl (aI bt))), (etp, .inl (cI, 4, .inl (aI tps))), (etb, .inl (cL, 9, .inr (.inl (aL tbl)))), (ewn, .inl (cL, 3, .inr (.inl (aL wn)))), (ga, .inr (2, [.int (iI (g 0)), .ref gx, .ref gy, .ref gz, .int (iI (g 1)), .int (iI (g 2)), .int (iI (g 3)), .int (iI (g 4)), .int (iI (g 5)), .int (iI (g 6)), .int (iI (g 7)), .int (iI (g 8)), .int (iI (g 9))])), (gx, .inl (cI, 10, .inl (aI (fun j => g (10 + 3 * j))))), (gy, .inl (cI, 10, .inl (aI (fun j => g (11 + 3 * j))))), (gz, .inl (cI, 10, .inl (aI (fun j => g (12 + 3 * j)))))] H → va_D A [(ea, .inr (1, [.ref ga, .ref elk, .int (iI cnt), .int (iI snd), .ref ept, .ref efr, .ref etk, .ref ebt, .ref etp, .int (iI wp), .ref etb, .ref ewn, .int (iI pl), .long (lI wh)])), (elk, .inl (cI, 4, .inl (aI lk))), (ept, .inl (cL, 4, .inr (.inl (aL pt)))), (efr, .inl (cI, 10, .inl (aI fr))), (etk, .inl (cI, 4, .inl (aI tk))), (ebt, .inl (cI, 16, .inl (aI bt))), (etp, .inl (cI, 4, .inl (aI tps))), (etb, .inl (cL, 9, .inr (.inl (aL tbl)))), (ewn, .inl (cL, 3, .inr (.inl (aL wn)))), (ga, .inr (2, [.int (iI (g 0)), .ref gx, .ref gy, .ref gz, .int (iI (g 1)), .int (iI (g 2)), .int (iI (g 3)), .int (iI (g 4)), .int (iI (g 5)), .int (iI (g 6)), .int (iI (g 7)), .int (iI (g 8)), .int (iI (g 9))])), (gx, .inl (cI, 10, .inl (aI (fun j => g (10 + 3 * j))))), (gy, .inl (cI, 10, .inl (aI (fun j => g (11 + 3 * j))))), (gz, .inl (cI, 10, .inl (aI (fun j => g (12 + 3 * j)))))] → va_S A s.heap H locs → W p l e (rmF 3 70) s m args below meth c H locs 0 0 Q (F0 m 0 ls []) := by
    clear hP hD hS hH hlocs H locs
    intro H locs hP hD hS
    have h0 := hv.1
    have h7 := hv.2.2.2.2.2.2.2.1
    have h8 := hv.2.2.2.2.2.2.2.2.1
    have h9 := hv.2.2.2.2.2.2.2.2.2.1
    have h4 := okL_le hv hok
    have hl1 := hL.1
    refine lv_iconst (v := iI 0) hx hb dX1_fillBetween_0 rfl ?_
    refine lv_istore_n (lv' := [(1, .int (iI 0)), (0, .ref ea)]) hx hb dX1_fillBetween_1 rfl hl (by decide) rfl (fun ls hl => ?_)
    have LP2 : ∀ (n : Nat), ∀ (i : Nat) (bt1 : Nat → Int), (i ≤ L.length) → (∀ a b : Nat, a < i → b < L.length → bt1 (4 * a + b) = sp_uu g L a b) → (L.length < i + n) → ∀ (H : Heap) (locs : List Loc), va_P D vwCl [(ea, .inr (1, [.ref ga, .ref elk, .int (iI cnt), .int (iI snd), .ref ept, .ref efr, .ref etk, .ref ebt, .ref etp, .int (iI wp), .ref etb, .ref ewn, .int (iI pl), .long (lI wh)])), (elk, .inl (cI, 4, .inl (aI lk))), (ept, .inl (cL, 4, .inr (.inl (aL pt)))), (efr, .inl (cI, 10, .inl (aI fr))), (etk, .inl (cI, 4, .inl (aI tk))), (ebt, .inl (cI, 16, .inl (aI bt1))), (etp, .inl (cI, 4, .inl (aI tps))), (etb, .inl (cL, 9, .inr (.inl (aL tbl)))), (ewn, .inl (cL, 3, .inr (.inl (aL wn)))), (ga, .inr (2, [.int (iI (g 0)), .ref gx, .ref gy, .ref gz, .int (iI (g 1)), .int (iI (g 2)), .int (iI (g 3)), .int (iI (g 4)), .int (iI (g 5)), .int (iI (g 6)), .int (iI (g 7)), .int (iI (g 8)), .int (iI (g 9))])), (gx, .inl (cI, 10, .inl (aI (fun j => g (10 + 3 * j))))), (gy, .inl (cI, 10, .inl (aI (fun j => g (11 + 3 * j))))), (gz, .inl (cI, 10, .inl (aI (fun j => g (12 + 3 * j)))))] H → va_D A [(ea, .inr (1, [.ref ga, .ref elk, .int (iI cnt), .int (iI snd), .ref ept, .ref efr, .ref etk, .ref ebt, .ref etp, .int (iI wp), .ref etb, .ref ewn, .int (iI pl), .long (lI wh)])), (elk, .inl (cI, 4, .inl (aI lk))), (ept, .inl (cL, 4, .inr (.inl (aL pt)))), (efr, .inl (cI, 10, .inl (aI fr))), (etk, .inl (cI, 4, .inl (aI tk))), (ebt, .inl (cI, 16, .inl (aI bt1))), (etp, .inl (cI, 4, .inl (aI tps))), (etb, .inl (cL, 9, .inr (.inl (aL tbl)))), (ewn, .inl (cL, 3, .inr (.inl (aL wn)))), (ga, .inr (2, [.int (iI (g 0)), .ref gx, .ref gy, .ref gz, .int (iI (g 1)), .int (iI (g 2)), .int (iI (g 3)), .int (iI (g 4)), .int (iI (g 5)), .int (iI (g 6)), .int (iI (g 7)), .int (iI (g 8)), .int (iI (g 9))])), (gx, .inl (cI, 10, .inl (aI (fun j => g (10 + 3 * j))))), (gy, .inl (cI, 10, .inl (aI (fun j => g (11 + 3 * j))))), (gz, .inl (cI, 10, .inl (aI (fun j => g (12 + 3 * j)))))] → va_S A s.heap H locs → ∀ (ls : Array Slot), lv_has ls 5 [(0, .ref ea), (1, .int (iI (i : Int)))] → W p l e (rmF 3 70) s m args below meth c H locs 0 0 Q (F0 m 2 ls []) := by
      intro n
      induction n with
      | zero =>
        intro i bt1 hi hinv hfu
        exfalso
        omega
      | succ n ih2 =>
        intro i bt1 hi hinv hfu H locs hP hD hS ls hl
        refine lv_iload_n hx hb dX1_fillBetween_2 rfl (lv_at hl 1 rfl) ?_
        refine lv_aload_n hx hb dX1_fillBetween_3 rfl (lv_at hl 0 rfl) ?_
        refine va_get (D := D) (ci := 1) (v := .int (iI cnt)) (C := RX1) (T := TX1) (N := 14) hx hb hU inlX1 hown hK hP 0 rfl rfl 2 (by decide) (hU _ kf_RX1_49) (fun _ h9 => h9) rfl dX1_fillBetween_4 ?_
        refine zr_icmp_ge (tgt := 104) hx hb dX1_fillBetween_7 (by decide) (by omega) (by omega) (fun c_1 => ?_) (fun c_1 => ?_)
        · skip
          rw [hQ]
          exact ze_Wv hx hb hr hlk dX1_fillBetween_104 bt1 (fun a b h1 h2 => hinv a b (by omega) h2) hP hK hD hS
        · skip
          have g1 := okL_get hok (j := i) (by omega)
          have q1 := hv.2.2.2.2.2.2.2.2.2.2 _ g1
          refine lv_aload_n hx hb dX1_fillBetween_10 rfl (lv_at hl 0 rfl) ?_
          refine va_get (D := D) (ci := 1) (v := .ref elk) (C := RX1) (T := TX1) (N := 14) hx hb hU inlX1 hown hK hP 0 rfl rfl 1 (by decide) (hU _ kf_RX1_9) (fun _ h9 => h9) rfl dX1_fillBetween_11 ?_
          refine lv_iload_n hx hb dX1_fillBetween_14 rfl (lv_at hl 1 rfl) ?_
          refine zr_iald hx hb hK hP 1 0 rfl rfl i (by omega) (by omega) (Nat.le_of_ble_eq_true rfl) dX1_fillBetween_15 ?_
          refine zr_rw (v := (((L.getD i 0) : Nat) : Int)) (hL.2 i (by omega)) ?_
          refine lv_istore_n (lv' := [(2, .int (iI (((L.getD i 0) : Nat) : Int))), (0, .ref ea), (1, .int (iI (i : Int)))]) hx hb dX1_fillBetween_16 rfl hl (by decide) rfl (fun ls hl => ?_)
          refine lv_iconst (v := iI 0) hx hb dX1_fillBetween_17 rfl ?_
          refine lv_istore_n (lv' := [(3, .int (iI 0)), (2, .int (iI (((L.getD i 0) : Nat) : Int))), (0, .ref ea), (1, .int (iI (i : Int)))]) hx hb dX1_fillBetween_18 rfl hl (by decide) rfl (fun ls hl => ?_)
          have LP19 : ∀ (n : Nat), ∀ (j : Nat) (bt2 : Nat → Int), (j ≤ L.length) → (∀ a b : Nat, a < L.length → b < L.length → (a < i ∨ (a = i ∧ b < j)) → bt2 (4 * a + b) = sp_uu g L a b) → (L.length < j + n) → ∀ (H : Heap) (locs : List Loc), va_P D vwCl [(ea, .inr (1, [.ref ga, .ref elk, .int (iI cnt), .int (iI snd), .ref ept, .ref efr, .ref etk, .ref ebt, .ref etp, .int (iI wp), .ref etb, .ref ewn, .int (iI pl), .long (lI wh)])), (elk, .inl (cI, 4, .inl (aI lk))), (ept, .inl (cL, 4, .inr (.inl (aL pt)))), (efr, .inl (cI, 10, .inl (aI fr))), (etk, .inl (cI, 4, .inl (aI tk))), (ebt, .inl (cI, 16, .inl (aI bt2))), (etp, .inl (cI, 4, .inl (aI tps))), (etb, .inl (cL, 9, .inr (.inl (aL tbl)))), (ewn, .inl (cL, 3, .inr (.inl (aL wn)))), (ga, .inr (2, [.int (iI (g 0)), .ref gx, .ref gy, .ref gz, .int (iI (g 1)), .int (iI (g 2)), .int (iI (g 3)), .int (iI (g 4)), .int (iI (g 5)), .int (iI (g 6)), .int (iI (g 7)), .int (iI (g 8)), .int (iI (g 9))])), (gx, .inl (cI, 10, .inl (aI (fun j => g (10 + 3 * j))))), (gy, .inl (cI, 10, .inl (aI (fun j => g (11 + 3 * j))))), (gz, .inl (cI, 10, .inl (aI (fun j => g (12 + 3 * j)))))] H → va_D A [(ea, .inr (1, [.ref ga, .ref elk, .int (iI cnt), .int (iI snd), .ref ept, .ref efr, .ref etk, .ref ebt, .ref etp, .int (iI wp), .ref etb, .ref ewn, .int (iI pl), .long (lI wh)])), (elk, .inl (cI, 4, .inl (aI lk))), (ept, .inl (cL, 4, .inr (.inl (aL pt)))), (efr, .inl (cI, 10, .inl (aI fr))), (etk, .inl (cI, 4, .inl (aI tk))), (ebt, .inl (cI, 16, .inl (aI bt2))), (etp, .inl (cI, 4, .inl (aI tps))), (etb, .inl (cL, 9, .inr (.inl (aL tbl)))), (ewn, .inl (cL, 3, .inr (.inl (aL wn)))), (ga, .inr (2, [.int (iI (g 0)), .ref gx, .ref gy, .ref gz, .int (iI (g 1)), .int (iI (g 2)), .int (iI (g 3)), .int (iI (g 4)), .int (iI (g 5)), .int (iI (g 6)), .int (iI (g 7)), .int (iI (g 8)), .int (iI (g 9))])), (gx, .inl (cI, 10, .inl (aI (fun j => g (10 + 3 * j))))), (gy, .inl (cI, 10, .inl (aI (fun j => g (11 + 3 * j))))), (gz, .inl (cI, 10, .inl (aI (fun j => g (12 + 3 * j)))))] → va_S A s.heap H locs → ∀ (ls : Array Slot), lv_has ls 5 [(0, .ref ea), (1, .int (iI (i : Int))), (2, .int (iI (((L.getD i 0) : Nat) : Int))), (3, .int (iI (j : Int)))] → W p l e (rmF 3 70) s m args below meth c H locs 0 0 Q (F0 m 19 ls []) := by
            intro n
            induction n with
            | zero =>
              intro j bt2 hj hinv2 hfu
              exfalso
              omega
            | succ n ih19 =>
              intro j bt2 hj hinv2 hfu H locs hP hD hS ls hl
              refine lv_iload_n hx hb dX1_fillBetween_19 rfl (lv_at hl 3 rfl) ?_
              refine lv_aload_n hx hb dX1_fillBetween_20 rfl (lv_at hl 0 rfl) ?_
              refine va_get (D := D) (ci := 1) (v := .int (iI cnt)) (C := RX1) (T := TX1) (N := 14) hx hb hU inlX1 hown hK hP 0 rfl rfl 2 (by decide) (hU _ kf_RX1_49) (fun _ h9 => h9) rfl dX1_fillBetween_21 ?_
              refine zr_icmp_ge (tgt := 98) hx hb dX1_fillBetween_24 (by decide) (by omega) (by omega) (fun c_2 => ?_) (fun c_2 => ?_)
              · skip
                refine lv_iinc (v := iI ((i : Int) + 1)) (lv' := [(1, .int (iI ((i : Int) + 1))), (0, .ref ea), (2, .int (iI (((L.getD i 0) : Nat) : Int))), (3, .int (iI (j : Int)))]) hx hb dX1_fillBetween_98 hl (k := 1) rfl (iI_add _ _) (by decide) rfl (fun ls hl => ?_)
                refine lv_goto (tgt := 2) hx hb dX1_fillBetween_101 (by decide) ?_
                exact ih2 (i + 1) bt2 (by omega) (fun a b h1 h2 => hinv2 a b (by omega) h2 (by omega)) (by omega) _ _ hP hD hS ls (lv_sub hl [1, 0] rfl)
              · skip
                have g2 := okL_get hok (j := j) (by omega)
                have q2 := hv.2.2.2.2.2.2.2.2.2.2 _ g2
                refine lv_aload_n hx hb dX1_fillBetween_27 rfl (lv_at hl 0 rfl) ?_
                refine va_get (D := D) (ci := 1) (v := .ref elk) (C := RX1) (T := TX1) (N := 14) hx hb hU inlX1 hown hK hP 0 rfl rfl 1 (by decide) (hU _ kf_RX1_9) (fun _ h9 => h9) rfl dX1_fillBetween_28 ?_
                refine lv_iload_n hx hb dX1_fillBetween_31 rfl (lv_at hl 3 rfl) ?_
                refine zr_iald hx hb hK hP 1 0 rfl rfl j (by omega) (by omega) (Nat.le_of_ble_eq_true rfl) dX1_fillBetween_32 ?_
                refine zr_rw (v := (((L.getD j 0) : Nat) : Int)) (hL.2 j (by omega)) ?_
                refine lv_istore (lv' := [(4, .int (iI (((L.getD j 0) : Nat) : Int))), (0, .ref ea), (1, .int (iI (i : Int))), (2, .int (iI (((L.getD i 0) : Nat) : Int))), (3, .int (iI (j : Int)))]) hx hb dX1_fillBetween_33 hl (by decide) rfl (fun ls hl => ?_)
                refine lv_aload_n hx hb dX1_fillBetween_35 rfl (lv_at hl 1 rfl) ?_
                refine va_get (D := D) (ci := 1) (v := .ref ebt) (C := RX1) (T := TX1) (N := 14) hx hb hU inlX1 hown hK hP 0 rfl rfl 7 (by decide) (hU _ kf_RX1_25) (fun _ h9 => h9) rfl dX1_fillBetween_36 ?_
                refine lv_iload_n hx hb dX1_fillBetween_39 rfl (lv_at hl 2 rfl) ?_
                refine lv_iconst (v := iI 4) hx hb dX1_fillBetween_40 rfl ?_
                refine zr_imul hx hb dX1_fillBetween_41 ?_
                refine lv_iload_n hx hb dX1_fillBetween_42 rfl (lv_at hl 4 rfl) ?_
                refine zr_iadd hx hb dX1_fillBetween_43 ?_
                refine lv_aload_n hx hb dX1_fillBetween_44 rfl (lv_at hl 1 rfl) ?_
                refine va_get (D := D) (ci := 1) (v := .ref ga) (C := RX1) (T := TX1) (N := 14) hx hb hU inlX1 hown hK hP 0 rfl rfl 0 (by decide) (hU _ kf_RX1_37) (fun _ h9 => h9) rfl dX1_fillBetween_45 ?_
                refine lv_aload_n hx hb dX1_fillBetween_48 rfl (lv_at hl 1 rfl) ?_
                refine va_get (D := D) (ci := 1) (v := .ref ga) (C := RX1) (T := TX1) (N := 14) hx hb hU inlX1 hown hK hP 0 rfl rfl 0 (by decide) (hU _ kf_RX1_37) (fun _ h9 => h9) rfl dX1_fillBetween_49 ?_
                refine va_get (D := D) (ci := 2) (v := .ref gx) (C := RX2) (T := TX2) (N := 13) hx hb hU inlX2 hown hK hP 9 rfl rfl 1 (by decide) (hU _ kf_RX1_88) (fun _ h9 => h9) rfl dX1_fillBetween_52 ?_
                refine lv_iload_n hx hb dX1_fillBetween_55 rfl (lv_at hl 3 rfl) ?_
                refine zr_iald hx hb hK hP 10 0 rfl rfl (L.getD i 0) (by omega) (by omega) (Nat.le_of_ble_eq_true rfl) dX1_fillBetween_56 ?_
                refine zr_rw (v := (g (10 + 3 * (L.getD i 0)))) rfl ?_
                refine lv_aload_n hx hb dX1_fillBetween_57 rfl (lv_at hl 1 rfl) ?_
                refine va_get (D := D) (ci := 1) (v := .ref ga) (C := RX1) (T := TX1) (N := 14) hx hb hU inlX1 hown hK hP 0 rfl rfl 0 (by decide) (hU _ kf_RX1_37) (fun _ h9 => h9) rfl dX1_fillBetween_58 ?_
                refine va_get (D := D) (ci := 2) (v := .ref gx) (C := RX2) (T := TX2) (N := 13) hx hb hU inlX2 hown hK hP 9 rfl rfl 1 (by decide) (hU _ kf_RX1_88) (fun _ h9 => h9) rfl dX1_fillBetween_61 ?_
                refine lv_iload hx hb dX1_fillBetween_64 (lv_at hl 0 rfl) ?_
                refine zr_iald hx hb hK hP 10 0 rfl rfl (L.getD j 0) (by omega) (by omega) (Nat.le_of_ble_eq_true rfl) dX1_fillBetween_66 ?_
                refine zr_rw (v := (g (10 + 3 * (L.getD j 0)))) rfl ?_
                refine zr_isub hx hb dX1_fillBetween_67 ?_
                refine lv_aload_n hx hb dX1_fillBetween_68 rfl (lv_at hl 1 rfl) ?_
                refine va_get (D := D) (ci := 1) (v := .ref ga) (C := RX1) (T := TX1) (N := 14) hx hb hU inlX1 hown hK hP 0 rfl rfl 0 (by decide) (hU _ kf_RX1_37) (fun _ h9 => h9) rfl dX1_fillBetween_69 ?_
                refine va_get (D := D) (ci := 2) (v := .ref gy) (C := RX2) (T := TX2) (N := 13) hx hb hU inlX2 hown hK hP 9 rfl rfl 2 (by decide) (hU _ kf_RX1_91) (fun _ h9 => h9) rfl dX1_fillBetween_72 ?_
                refine lv_iload_n hx hb dX1_fillBetween_75 rfl (lv_at hl 3 rfl) ?_
                refine zr_iald hx hb hK hP 11 0 rfl rfl (L.getD i 0) (by omega) (by omega) (Nat.le_of_ble_eq_true rfl) dX1_fillBetween_76 ?_
                refine zr_rw (v := (g (11 + 3 * (L.getD i 0)))) rfl ?_
                refine lv_aload_n hx hb dX1_fillBetween_77 rfl (lv_at hl 1 rfl) ?_
                refine va_get (D := D) (ci := 1) (v := .ref ga) (C := RX1) (T := TX1) (N := 14) hx hb hU inlX1 hown hK hP 0 rfl rfl 0 (by decide) (hU _ kf_RX1_37) (fun _ h9 => h9) rfl dX1_fillBetween_78 ?_
                refine va_get (D := D) (ci := 2) (v := .ref gy) (C := RX2) (T := TX2) (N := 13) hx hb hU inlX2 hown hK hP 9 rfl rfl 2 (by decide) (hU _ kf_RX1_91) (fun _ h9 => h9) rfl dX1_fillBetween_81 ?_
                refine lv_iload hx hb dX1_fillBetween_84 (lv_at hl 0 rfl) ?_
                refine zr_iald hx hb hK hP 11 0 rfl rfl (L.getD j 0) (by omega) (by omega) (Nat.le_of_ble_eq_true rfl) dX1_fillBetween_86 ?_
                refine zr_rw (v := (g (11 + 3 * (L.getD j 0)))) rfl ?_
                refine zr_isub hx hb dX1_fillBetween_87 ?_
                have hPc_3 := hP.sub (ws' := [(ga, .inr (2, [.int (iI (g 0)), .ref gx, .ref gy, .ref gz, .int (iI (g 1)), .int (iI (g 2)), .int (iI (g 3)), .int (iI (g 4)), .int (iI (g 5)), .int (iI (g 6)), .int (iI (g 7)), .int (iI (g 8)), .int (iI (g 9))])), (gx, .inl (cI, 10, .inl (aI (fun j => g (10 + 3 * j))))), (gy, .inl (cI, 10, .inl (aI (fun j => g (11 + 3 * j))))), (gz, .inl (cI, 10, .inl (aI (fun j => g (12 + 3 * j)))))]) [9, 10, 11, 12] rfl
                refine zc_Vi (As := [.int (iI ((g (10 + 3 * (L.getD i 0))) - (g (10 + 3 * (L.getD j 0))))), .int (iI ((g (11 + 3 * (L.getD i 0))) - (g (11 + 3 * (L.getD j 0)))))]) (rest := [.int (iI (((i : Int) * 4) + (j : Int))), .ref ebt]) (c_X2_unlikeApart l D cI cL cG cM ga gx gy gz g ((g (10 + 3 * (L.getD i 0))) - (g (10 + 3 * (L.getD j 0)))) ((g (11 + 3 * (L.getD i 0))) - (g (11 + 3 * (L.getD j 0)))) (hv) (by omega) (by omega)) hx hb hml hown hU hl.1 ct_yX2_unlikeApart cv_yX2_unlikeApart km_RX1_118 hK hNst hPc_3 2 0 rfl rfl rfl ⟨rfl, rfl⟩ ⟨Nat.le_of_ble_eq_true rfl, Nat.le_of_ble_eq_true rfl⟩ rfl rfl (Nat.le_of_ble_eq_true rfl) dX1_fillBetween_88 ⟨Nat.le_of_ble_eq_true rfl, Nat.le_of_ble_eq_true rfl⟩ ?_
                refine zr_iast hx hb hK hP hD hS 5 0 rfl rfl (4 * i + j) (by omega) (by omega) (Nat.le_of_ble_eq_true rfl) dX1_fillBetween_91 (fun H locs hP hD hS => ?_)
                have hP : va_P D vwCl [(ea, .inr (1, [.ref ga, .ref elk, .int (iI cnt), .int (iI snd), .ref ept, .ref efr, .ref etk, .ref ebt, .ref etp, .int (iI wp), .ref etb, .ref ewn, .int (iI pl), .long (lI wh)])), (elk, .inl (cI, 4, .inl (aI lk))), (ept, .inl (cL, 4, .inr (.inl (aL pt)))), (efr, .inl (cI, 10, .inl (aI fr))), (etk, .inl (cI, 4, .inl (aI tk))), (ebt, .inl (cI, 16, .inl (aI (va_up bt2 (4 * i + j) (sp_unl g (sp_fr (g 1) ((g (10 + 3 * (L.getD i 0))) - (g (10 + 3 * (L.getD j 0)))) ((g (11 + 3 * (L.getD i 0))) - (g (11 + 3 * (L.getD j 0)))))))))), (etp, .inl (cI, 4, .inl (aI tps))), (etb, .inl (cL, 9, .inr (.inl (aL tbl)))), (ewn, .inl (cL, 3, .inr (.inl (aL wn)))), (ga, .inr (2, [.int (iI (g 0)), .ref gx, .ref gy, .ref gz, .int (iI (g 1)), .int (iI (g 2)), .int (iI (g 3)), .int (iI (g 4)), .int (iI (g 5)), .int (iI (g 6)), .int (iI (g 7)), .int (iI (g 8)), .int (iI (g 9))])), (gx, .inl (cI, 10, .inl (aI (fun j => g (10 + 3 * j))))), (gy, .inl (cI, 10, .inl (aI (fun j => g (11 + 3 * j))))), (gz, .inl (cI, 10, .inl (aI (fun j => g (12 + 3 * j)))))] H := hP
                have hD : va_D A [(ea, .inr (1, [.ref ga, .ref elk, .int (iI cnt), .int (iI snd), .ref ept, .ref efr, .ref etk, .ref ebt, .ref etp, .int (iI wp), .ref etb, .ref ewn, .int (iI pl), .long (lI wh)])), (elk, .inl (cI, 4, .inl (aI lk))), (ept, .inl (cL, 4, .inr (.inl (aL pt)))), (efr, .inl (cI, 10, .inl (aI fr))), (etk, .inl (cI, 4, .inl (aI tk))), (ebt, .inl (cI, 16, .inl (aI (va_up bt2 (4 * i + j) (sp_unl g (sp_fr (g 1) ((g (10 + 3 * (L.getD i 0))) - (g (10 + 3 * (L.getD j 0)))) ((g (11 + 3 * (L.getD i 0))) - (g (11 + 3 * (L.getD j 0)))))))))), (etp, .inl (cI, 4, .inl (aI tps))), (etb, .inl (cL, 9, .inr (.inl (aL tbl)))), (ewn, .inl (cL, 3, .inr (.inl (aL wn)))), (ga, .inr (2, [.int (iI (g 0)), .ref gx, .ref gy, .ref gz, .int (iI (g 1)), .int (iI (g 2)), .int (iI (g 3)), .int (iI (g 4)), .int (iI (g 5)), .int (iI (g 6)), .int (iI (g 7)), .int (iI (g 8)), .int (iI (g 9))])), (gx, .inl (cI, 10, .inl (aI (fun j => g (10 + 3 * j))))), (gy, .inl (cI, 10, .inl (aI (fun j => g (11 + 3 * j))))), (gz, .inl (cI, 10, .inl (aI (fun j => g (12 + 3 * j)))))] := hD
                refine lv_iinc (v := iI ((j : Int) + 1)) (lv' := [(3, .int (iI ((j : Int) + 1))), (4, .int (iI (((L.getD j 0) : Nat) : Int))), (0, .ref ea), (1, .int (iI (i : Int))), (2, .int (iI (((L.getD i 0) : Nat) : Int)))]) hx hb dX1_fillBetween_92 hl (k := 4) rfl (iI_add _ _) (by decide) rfl (fun ls hl => ?_)
                refine lv_goto (tgt := 19) hx hb dX1_fillBetween_95 (by decide) ?_
                exact ih19 (j + 1) (va_up bt2 (4 * i + j) (sp_unl g (sp_fr (g 1) ((g (10 + 3 * (L.getD i 0))) - (g (10 + 3 * (L.getD j 0)))) ((g (11 + 3 * (L.getD i 0))) - (g (11 + 3 * (L.getD j 0))))))) (by omega) (fun a b h1 h2 h3 => by by_cases q : a = i ∧ b = j; (rw [q.1, q.2, va_up_self]; rfl); (rw [va_up_ne _ _ (by omega)]; exact hinv2 a b h1 h2 (by omega))) (by omega) _ _ hP hD hS ls (lv_sub hl [2, 3, 4, 0] rfl)
          exact LP19 (L.length + 1) 0 bt1 (by omega) (fun a b h1 h2 h3 => hinv a b (by omega) h2) (by omega) _ _ hP hD hS ls (lv_sub hl [2, 3, 1, 0] rfl)
    exact LP2 (L.length + 1) 0 bt (by omega) (fun a b h => absurd h (Nat.not_lt_zero a)) (by omega) _ _ hP hD hS ls (lv_sub hl [1, 0] rfl)
  rw [hlocs]
  exact hW0 s.heap [] hP hD hS

set_option maxHeartbeats 4000000 in
set_option maxRecDepth 100000 in
theorem c_X1_sumToPlaces (l : Launch) (D : va_G) (cI cL cG cM : ClassId) (ea elk ept efr etk ebt etp etb ewn ga gx gy gz : Nat) (lk : Nat → Int) (cnt : Int) (snd : Int) (pt : Nat → Int) (fr : Nat → Int) (tk : Nat → Int) (bt : Nat → Int) (tps : Nat → Int) (wp : Int) (tbl : Nat → Int) (wn : Nat → Int) (pl : Int) (wh : Int) (g : Nat → Int) (x : Int) (y : Int) (L : List Nat) (P : Nat) (hv : vR g) (h1 : 0 ≤ x ∧ x ≤ 31) (h2 : 0 ≤ y ∧ y ≤ 31) (hok : okL g L) (hL : isL L lk cnt) (hpl : pl = (P : Int)) (hP : 1 ≤ P ∧ P ≤ 4) (sz : Nat) : Met l yX1_sumToPlaces (wU yX1_sumToPlaces cX1_sumToPlaces 7 none) (rmF 3 70) (pcW D (tyA cI cL cG cM) [(ea, .inr (1, [.ref ga, .ref elk, .int (iI cnt), .int (iI snd), .ref ept, .ref efr, .ref etk, .ref ebt, .ref etp, .int (iI wp), .ref etb, .ref ewn, .int (iI pl), .long (lI wh)])), (elk, .inl (cI, 4, .inl (aI lk))), (ept, .inl (cL, 4, .inr (.inl (aL pt)))), (efr, .inl (cI, 10, .inl (aI fr))), (etk, .inl (cI, 4, .inl (aI tk))), (ebt, .inl (cI, 16, .inl (aI bt))), (etp, .inl (cI, 4, .inl (aI tps))), (etb, .inl (cL, 9, .inr (.inl (aL tbl)))), (ewn, .inl (cL, 3, .inr (.inl (aL wn)))), (ga, .inr (2, [.int (iI (g 0)), .ref gx, .ref gy, .ref gz, .int (iI (g 1)), .int (iI (g 2)), .int (iI (g 3)), .int (iI (g 4)), .int (iI (g 5)), .int (iI (g 6)), .int (iI (g 7)), .int (iI (g 8)), .int (iI (g 9))])), (gx, .inl (cI, 10, .inl (aI (fun j => g (10 + 3 * j))))), (gy, .inl (cI, 10, .inl (aI (fun j => g (11 + 3 * j))))), (gz, .inl (cI, 10, .inl (aI (fun j => g (12 + 3 * j)))))] [.ref ea, .int (iI x), .int (iI y)] sz) (qWv (S := (Nat → Int)) D (tyA cI cL cG cM) (va_A [(ea, .inr (1, [.ref ga, .ref elk, .int (iI cnt), .int (iI snd), .ref ept, .ref efr, .ref etk, .ref ebt, .ref etp, .int (iI wp), .ref etb, .ref ewn, .int (iI pl), .long (lI wh)])), (elk, .inl (cI, 4, .inl (aI lk))), (ept, .inl (cL, 4, .inr (.inl (aL pt)))), (efr, .inl (cI, 10, .inl (aI fr))), (etk, .inl (cI, 4, .inl (aI tk))), (ebt, .inl (cI, 16, .inl (aI bt))), (etp, .inl (cI, 4, .inl (aI tps))), (etb, .inl (cL, 9, .inr (.inl (aL tbl)))), (ewn, .inl (cL, 3, .inr (.inl (aL wn)))), (ga, .inr (2, [.int (iI (g 0)), .ref gx, .ref gy, .ref gz, .int (iI (g 1)), .int (iI (g 2)), .int (iI (g 3)), .int (iI (g 4)), .int (iI (g 5)), .int (iI (g 6)), .int (iI (g 7)), .int (iI (g 8)), .int (iI (g 9))])), (gx, .inl (cI, 10, .inl (aI (fun j => g (10 + 3 * j))))), (gy, .inl (cI, 10, .inl (aI (fun j => g (11 + 3 * j))))), (gz, .inl (cI, 10, .inl (aI (fun j => g (12 + 3 * j)))))] sz) (fun (u : (Nat → Int)) => ∀ i : Nat, i < L.length → u i = sp_vp g L x y P i) (fun (u : (Nat → Int)) => [(ea, .inr (1, [.ref ga, .ref elk, .int (iI cnt), .int (iI snd), .ref ept, .ref efr, .ref etk, .ref ebt, .ref etp, .int (iI wp), .ref etb, .ref ewn, .int (iI pl), .long (lI wh)])), (elk, .inl (cI, 4, .inl (aI lk))), (ept, .inl (cL, 4, .inr (.inl (aL pt)))), (efr, .inl (cI, 10, .inl (aI fr))), (etk, .inl (cI, 4, .inl (aI tk))), (ebt, .inl (cI, 16, .inl (aI bt))), (etp, .inl (cI, 4, .inl (aI u))), (etb, .inl (cL, 9, .inr (.inl (aL tbl)))), (ewn, .inl (cL, 3, .inr (.inl (aL wn)))), (ga, .inr (2, [.int (iI (g 0)), .ref gx, .ref gy, .ref gz, .int (iI (g 1)), .int (iI (g 2)), .int (iI (g 3)), .int (iI (g 4)), .int (iI (g 5)), .int (iI (g 6)), .int (iI (g 7)), .int (iI (g 8)), .int (iI (g 9))])), (gx, .inl (cI, 10, .inl (aI (fun j => g (10 + 3 * j))))), (gy, .inl (cI, 10, .inl (aI (fun j => g (11 + 3 * j))))), (gz, .inl (cI, 10, .inl (aI (fun j => g (12 + 3 * j)))))])) 0 0 (va_A [(ea, .inr (1, [.ref ga, .ref elk, .int (iI cnt), .int (iI snd), .ref ept, .ref efr, .ref etk, .ref ebt, .ref etp, .int (iI wp), .ref etb, .ref ewn, .int (iI pl), .long (lI wh)])), (elk, .inl (cI, 4, .inl (aI lk))), (ept, .inl (cL, 4, .inr (.inl (aL pt)))), (efr, .inl (cI, 10, .inl (aI fr))), (etk, .inl (cI, 4, .inl (aI tk))), (ebt, .inl (cI, 16, .inl (aI bt))), (etp, .inl (cI, 4, .inl (aI tps))), (etb, .inl (cL, 9, .inr (.inl (aL tbl)))), (ewn, .inl (cL, 3, .inr (.inl (aL wn)))), (ga, .inr (2, [.int (iI (g 0)), .ref gx, .ref gy, .ref gz, .int (iI (g 1)), .int (iI (g 2)), .int (iI (g 3)), .int (iI (g 4)), .int (iI (g 5)), .int (iI (g 6)), .int (iI (g 7)), .int (iI (g 8)), .int (iI (g 9))])), (gx, .inl (cI, 10, .inl (aI (fun j => g (10 + 3 * j))))), (gy, .inl (cI, 10, .inl (aI (fun j => g (11 + 3 * j))))), (gz, .inl (cI, 10, .inl (aI (fun j => g (12 + 3 * j)))))] sz) := by
  refine zm_W (own := RX1) (lv := [(0, .ref ea), (1, .int (iI x)), (2, .int (iI y))]) (QF := fun A => qWv (S := (Nat → Int)) D (tyA cI cL cG cM) A (fun (u : (Nat → Int)) => ∀ i : Nat, i < L.length → u i = sp_vp g L x y P i) (fun (u : (Nat → Int)) => [(ea, .inr (1, [.ref ga, .ref elk, .int (iI cnt), .int (iI snd), .ref ept, .ref efr, .ref etk, .ref ebt, .ref etp, .int (iI wp), .ref etb, .ref ewn, .int (iI pl), .long (lI wh)])), (elk, .inl (cI, 4, .inl (aI lk))), (ept, .inl (cL, 4, .inr (.inl (aL pt)))), (efr, .inl (cI, 10, .inl (aI fr))), (etk, .inl (cI, 4, .inl (aI tk))), (ebt, .inl (cI, 16, .inl (aI bt))), (etp, .inl (cI, 4, .inl (aI u))), (etb, .inl (cL, 9, .inr (.inl (aL tbl)))), (ewn, .inl (cL, 3, .inr (.inl (aL wn)))), (ga, .inr (2, [.int (iI (g 0)), .ref gx, .ref gy, .ref gz, .int (iI (g 1)), .int (iI (g 2)), .int (iI (g 3)), .int (iI (g 4)), .int (iI (g 5)), .int (iI (g 6)), .int (iI (g 7)), .int (iI (g 8)), .int (iI (g 9))])), (gx, .inl (cI, 10, .inl (aI (fun j => g (10 + 3 * j))))), (gy, .inl (cI, 10, .inl (aI (fun j => g (11 + 3 * j))))), (gz, .inl (cI, 10, .inl (aI (fun j => g (12 + 3 * j)))))])) (by decide) rfl (Nat.le_of_ble_eq_true rfl) rfl ?_
  intro p e s m below meth c A args Q hx hb hr hml hown hU hlk hnm hP hK hNst hD hA hS hsz hQ ls hl
  obtain ⟨H, hH⟩ : ∃ H, H = s.heap := ⟨_, rfl⟩
  obtain ⟨locs, hlocs⟩ : ∃ locs : List Loc, locs = [] := ⟨_, rfl⟩
  rw [← hlocs]
  have hW0 : ∀ (H : Heap) (locs : List Loc), va_P D vwCl [(ea, .inr (1, [.ref ga, .ref elk, .int (iI cnt), .int (iI snd), .ref ept, .ref efr, .ref etk, .ref ebt, .ref etp, .int (iI wp), .ref etb, .ref ewn, .int (iI pl), .long (lI wh)])), (elk, .inl (cI, 4, .inl (aI lk))), (ept, .inl (cL, 4, .inr (.inl (aL pt)))), (efr, .inl (cI, 10, .inl (aI fr))), (etk, .inl (cI, 4, .inl (aI tk))), (ebt, .inl (cI, 16, .inl (aI bt))), (etp, .inl (cI, 4, .inl (aI tps))), (etb, .inl (cL, 9, .inr (.inl (aL tbl)))), (ewn, .inl (cL, 3, .inr (.inl (aL wn)))), (ga, .inr (2, [.int (iI (g 0)), .ref gx, .ref gy, .ref gz, .int (iI (g 1)), .int (iI (g 2)), .int (iI (g 3)), .int (iI (g 4)), .int (iI (g 5)), .int (iI (g 6)), .int (iI (g 7)), .int (iI (g 8)), .int (iI (g 9))])), (gx, .inl (cI, 10, .inl (aI (fun j => g (10 + 3 * j))))), (gy, .inl (cI, 10, .inl (aI (fun j => g (11 + 3 * j))))), (gz, .inl (cI, 10, .inl (aI (fun j => g (12 + 3 * j)))))] H → va_D A [(ea, .inr (1, [.ref ga, .ref elk, .int (iI cnt), .int (iI snd), .ref ept, .ref efr, .ref etk, .ref ebt, .ref etp, .int (iI wp), .ref etb, .ref ewn, .int (iI pl), .long (lI wh)])), (elk, .inl (cI, 4, .inl (aI lk))), (ept, .inl (cL, 4, .inr (.inl (aL pt)))), (efr, .inl (cI, 10, .inl (aI fr))), (etk, .inl (cI, 4, .inl (aI tk))), (ebt, .inl (cI, 16, .inl (aI bt))), (etp, .inl (cI, 4, .inl (aI tps))), (etb, .inl (cL, 9, .inr (.inl (aL tbl)))), (ewn, .inl (cL, 3, .inr (.inl (aL wn)))), (ga, .inr (2, [.int (iI (g 0)), .ref gx, .ref gy, .ref gz, .int (iI (g 1)), .int (iI (g 2)), .int (iI (g 3)), .int (iI (g 4)), .int (iI (g 5)), .int (iI (g 6)), .int (iI (g 7)), .int (iI (g 8)), .int (iI (g 9))])), (gx, .inl (cI, 10, .inl (aI (fun j => g (10 + 3 * j))))), (gy, .inl (cI, 10, .inl (aI (fun j => g (11 + 3 * j))))), (gz, .inl (cI, 10, .inl (aI (fun j => g (12 + 3 * j)))))] → va_S A s.heap H locs → W p l e (rmF 3 70) s m args below meth c H locs 0 0 Q (F0 m 0 ls []) := by
    clear hP hD hS hH hlocs H locs
    intro H locs hP hD hS
    have h0 := hv.1
    have h7 := hv.2.2.2.2.2.2.2.1
    have h8 := hv.2.2.2.2.2.2.2.2.1
    have h9 := hv.2.2.2.2.2.2.2.2.2.1
    have h4 := okL_le hv hok
    have hl1 := hL.1
    refine lv_iconst (v := iI 0) hx hb dX1_sumToPlaces_0 rfl ?_
    refine lv_istore_n (lv' := [(3, .int (iI 0)), (0, .ref ea), (1, .int (iI x)), (2, .int (iI y))]) hx hb dX1_sumToPlaces_1 rfl hl (by decide) rfl (fun ls hl => ?_)
    have LP2 : ∀ (n : Nat), ∀ (i : Nat) (tps1 : Nat → Int), (i ≤ L.length) → (∀ a : Nat, a < i → tps1 a = sp_vp g L x y P a) → (L.length < i + n) → ∀ (H : Heap) (locs : List Loc), va_P D vwCl [(ea, .inr (1, [.ref ga, .ref elk, .int (iI cnt), .int (iI snd), .ref ept, .ref efr, .ref etk, .ref ebt, .ref etp, .int (iI wp), .ref etb, .ref ewn, .int (iI pl), .long (lI wh)])), (elk, .inl (cI, 4, .inl (aI lk))), (ept, .inl (cL, 4, .inr (.inl (aL pt)))), (efr, .inl (cI, 10, .inl (aI fr))), (etk, .inl (cI, 4, .inl (aI tk))), (ebt, .inl (cI, 16, .inl (aI bt))), (etp, .inl (cI, 4, .inl (aI tps1))), (etb, .inl (cL, 9, .inr (.inl (aL tbl)))), (ewn, .inl (cL, 3, .inr (.inl (aL wn)))), (ga, .inr (2, [.int (iI (g 0)), .ref gx, .ref gy, .ref gz, .int (iI (g 1)), .int (iI (g 2)), .int (iI (g 3)), .int (iI (g 4)), .int (iI (g 5)), .int (iI (g 6)), .int (iI (g 7)), .int (iI (g 8)), .int (iI (g 9))])), (gx, .inl (cI, 10, .inl (aI (fun j => g (10 + 3 * j))))), (gy, .inl (cI, 10, .inl (aI (fun j => g (11 + 3 * j))))), (gz, .inl (cI, 10, .inl (aI (fun j => g (12 + 3 * j)))))] H → va_D A [(ea, .inr (1, [.ref ga, .ref elk, .int (iI cnt), .int (iI snd), .ref ept, .ref efr, .ref etk, .ref ebt, .ref etp, .int (iI wp), .ref etb, .ref ewn, .int (iI pl), .long (lI wh)])), (elk, .inl (cI, 4, .inl (aI lk))), (ept, .inl (cL, 4, .inr (.inl (aL pt)))), (efr, .inl (cI, 10, .inl (aI fr))), (etk, .inl (cI, 4, .inl (aI tk))), (ebt, .inl (cI, 16, .inl (aI bt))), (etp, .inl (cI, 4, .inl (aI tps1))), (etb, .inl (cL, 9, .inr (.inl (aL tbl)))), (ewn, .inl (cL, 3, .inr (.inl (aL wn)))), (ga, .inr (2, [.int (iI (g 0)), .ref gx, .ref gy, .ref gz, .int (iI (g 1)), .int (iI (g 2)), .int (iI (g 3)), .int (iI (g 4)), .int (iI (g 5)), .int (iI (g 6)), .int (iI (g 7)), .int (iI (g 8)), .int (iI (g 9))])), (gx, .inl (cI, 10, .inl (aI (fun j => g (10 + 3 * j))))), (gy, .inl (cI, 10, .inl (aI (fun j => g (11 + 3 * j))))), (gz, .inl (cI, 10, .inl (aI (fun j => g (12 + 3 * j)))))] → va_S A s.heap H locs → ∀ (ls : Array Slot), lv_has ls 7 [(0, .ref ea), (1, .int (iI x)), (2, .int (iI y)), (3, .int (iI (i : Int)))] → W p l e (rmF 3 70) s m args below meth c H locs 0 0 Q (F0 m 2 ls []) := by
      intro n
      induction n with
      | zero =>
        intro i tps1 hi hinv hfu
        exfalso
        omega
      | succ n ih2 =>
        intro i tps1 hi hinv hfu H locs hP hD hS ls hl
        refine lv_iload_n hx hb dX1_sumToPlaces_2 rfl (lv_at hl 3 rfl) ?_
        refine lv_aload_n hx hb dX1_sumToPlaces_3 rfl (lv_at hl 0 rfl) ?_
        refine va_get (D := D) (ci := 1) (v := .int (iI cnt)) (C := RX1) (T := TX1) (N := 14) hx hb hU inlX1 hown hK hP 0 rfl rfl 2 (by decide) (hU _ kf_RX1_49) (fun _ h9 => h9) rfl dX1_sumToPlaces_4 ?_
        refine zr_icmp_ge (tgt := 101) hx hb dX1_sumToPlaces_7 (by decide) (by omega) (by omega) (fun c_1 => ?_) (fun c_1 => ?_)
        · skip
          rw [hQ]
          exact ze_Wv hx hb hr hlk dX1_sumToPlaces_101 tps1 (fun a h => hinv a (by omega)) hP hK hD hS
        · skip
          have g1 := okL_get hok (j := i) (by omega)
          have q1 := hv.2.2.2.2.2.2.2.2.2.2 _ g1
          refine lv_aload_n hx hb dX1_sumToPlaces_10 rfl (lv_at hl 0 rfl) ?_
          refine va_get (D := D) (ci := 1) (v := .ref elk) (C := RX1) (T := TX1) (N := 14) hx hb hU inlX1 hown hK hP 0 rfl rfl 1 (by decide) (hU _ kf_RX1_9) (fun _ h9 => h9) rfl dX1_sumToPlaces_11 ?_
          refine lv_iload_n hx hb dX1_sumToPlaces_14 rfl (lv_at hl 3 rfl) ?_
          refine zr_iald hx hb hK hP 1 0 rfl rfl i (by omega) (by omega) (Nat.le_of_ble_eq_true rfl) dX1_sumToPlaces_15 ?_
          refine zr_rw (v := (((L.getD i 0) : Nat) : Int)) (hL.2 i (by omega)) ?_
          refine lv_istore (lv' := [(4, .int (iI (((L.getD i 0) : Nat) : Int))), (0, .ref ea), (1, .int (iI x)), (2, .int (iI y)), (3, .int (iI (i : Int)))]) hx hb dX1_sumToPlaces_16 hl (by decide) rfl (fun ls hl => ?_)
          refine lv_iconst (v := iI 0) hx hb dX1_sumToPlaces_18 rfl ?_
          refine lv_istore (lv' := [(5, .int (iI 0)), (4, .int (iI (((L.getD i 0) : Nat) : Int))), (0, .ref ea), (1, .int (iI x)), (2, .int (iI y)), (3, .int (iI (i : Int)))]) hx hb dX1_sumToPlaces_19 hl (by decide) rfl (fun ls hl => ?_)
          refine lv_iconst (v := iI 0) hx hb dX1_sumToPlaces_21 rfl ?_
          refine lv_istore (lv' := [(6, .int (iI 0)), (5, .int (iI 0)), (4, .int (iI (((L.getD i 0) : Nat) : Int))), (0, .ref ea), (1, .int (iI x)), (2, .int (iI y)), (3, .int (iI (i : Int)))]) hx hb dX1_sumToPlaces_22 hl (by decide) rfl (fun ls hl => ?_)
          have LP24 : ∀ (n : Nat), ∀ (k : Nat) (sm1 : Int), (k ≤ P) → (sm1 = sm (fun k => sp_ut g (L.getD i 0) (x + ((k % 2 : Nat) : Int)) (y + ((k / 2 : Nat) : Int))) k) → (P < k + n) → ∀ (H : Heap) (locs : List Loc), va_P D vwCl [(ea, .inr (1, [.ref ga, .ref elk, .int (iI cnt), .int (iI snd), .ref ept, .ref efr, .ref etk, .ref ebt, .ref etp, .int (iI wp), .ref etb, .ref ewn, .int (iI pl), .long (lI wh)])), (elk, .inl (cI, 4, .inl (aI lk))), (ept, .inl (cL, 4, .inr (.inl (aL pt)))), (efr, .inl (cI, 10, .inl (aI fr))), (etk, .inl (cI, 4, .inl (aI tk))), (ebt, .inl (cI, 16, .inl (aI bt))), (etp, .inl (cI, 4, .inl (aI tps1))), (etb, .inl (cL, 9, .inr (.inl (aL tbl)))), (ewn, .inl (cL, 3, .inr (.inl (aL wn)))), (ga, .inr (2, [.int (iI (g 0)), .ref gx, .ref gy, .ref gz, .int (iI (g 1)), .int (iI (g 2)), .int (iI (g 3)), .int (iI (g 4)), .int (iI (g 5)), .int (iI (g 6)), .int (iI (g 7)), .int (iI (g 8)), .int (iI (g 9))])), (gx, .inl (cI, 10, .inl (aI (fun j => g (10 + 3 * j))))), (gy, .inl (cI, 10, .inl (aI (fun j => g (11 + 3 * j))))), (gz, .inl (cI, 10, .inl (aI (fun j => g (12 + 3 * j)))))] H → va_D A [(ea, .inr (1, [.ref ga, .ref elk, .int (iI cnt), .int (iI snd), .ref ept, .ref efr, .ref etk, .ref ebt, .ref etp, .int (iI wp), .ref etb, .ref ewn, .int (iI pl), .long (lI wh)])), (elk, .inl (cI, 4, .inl (aI lk))), (ept, .inl (cL, 4, .inr (.inl (aL pt)))), (efr, .inl (cI, 10, .inl (aI fr))), (etk, .inl (cI, 4, .inl (aI tk))), (ebt, .inl (cI, 16, .inl (aI bt))), (etp, .inl (cI, 4, .inl (aI tps1))), (etb, .inl (cL, 9, .inr (.inl (aL tbl)))), (ewn, .inl (cL, 3, .inr (.inl (aL wn)))), (ga, .inr (2, [.int (iI (g 0)), .ref gx, .ref gy, .ref gz, .int (iI (g 1)), .int (iI (g 2)), .int (iI (g 3)), .int (iI (g 4)), .int (iI (g 5)), .int (iI (g 6)), .int (iI (g 7)), .int (iI (g 8)), .int (iI (g 9))])), (gx, .inl (cI, 10, .inl (aI (fun j => g (10 + 3 * j))))), (gy, .inl (cI, 10, .inl (aI (fun j => g (11 + 3 * j))))), (gz, .inl (cI, 10, .inl (aI (fun j => g (12 + 3 * j)))))] → va_S A s.heap H locs → ∀ (ls : Array Slot), lv_has ls 7 [(0, .ref ea), (1, .int (iI x)), (2, .int (iI y)), (3, .int (iI (i : Int))), (4, .int (iI (((L.getD i 0) : Nat) : Int))), (5, .int (iI sm1)), (6, .int (iI (k : Int)))] → W p l e (rmF 3 70) s m args below meth c H locs 0 0 Q (F0 m 24 ls []) := by
            intro n
            induction n with
            | zero =>
              intro k sm1 hk hsm hfu
              exfalso
              omega
            | succ n ih24 =>
              intro k sm1 hk hsm hfu H locs hP hD hS ls hl
              refine lv_iload hx hb dX1_sumToPlaces_24 (lv_at hl 6 rfl) ?_
              refine lv_aload_n hx hb dX1_sumToPlaces_26 rfl (lv_at hl 0 rfl) ?_
              refine va_get (D := D) (ci := 1) (v := .int (iI pl)) (C := RX1) (T := TX1) (N := 14) hx hb hU inlX1 hown hK hP 0 rfl rfl 12 (by decide) (hU _ kf_RX1_41) (fun _ h9 => h9) rfl dX1_sumToPlaces_27 ?_
              refine zr_icmp_ge (tgt := 87) hx hb dX1_sumToPlaces_30 (by decide) (by omega) (by omega) (fun c_2 => ?_) (fun c_2 => ?_)
              · skip
                refine lv_aload_n hx hb dX1_sumToPlaces_87 rfl (lv_at hl 0 rfl) ?_
                refine va_get (D := D) (ci := 1) (v := .ref etp) (C := RX1) (T := TX1) (N := 14) hx hb hU inlX1 hown hK hP 0 rfl rfl 8 (by decide) (hU _ kf_RX1_28) (fun _ h9 => h9) rfl dX1_sumToPlaces_88 ?_
                refine lv_iload_n hx hb dX1_sumToPlaces_91 rfl (lv_at hl 3 rfl) ?_
                refine lv_iload hx hb dX1_sumToPlaces_92 (lv_at hl 5 rfl) ?_
                refine zr_iast hx hb hK hP hD hS 6 0 rfl rfl i (by omega) (by omega) (Nat.le_of_ble_eq_true rfl) dX1_sumToPlaces_94 (fun H locs hP hD hS => ?_)
                have hP : va_P D vwCl [(ea, .inr (1, [.ref ga, .ref elk, .int (iI cnt), .int (iI snd), .ref ept, .ref efr, .ref etk, .ref ebt, .ref etp, .int (iI wp), .ref etb, .ref ewn, .int (iI pl), .long (lI wh)])), (elk, .inl (cI, 4, .inl (aI lk))), (ept, .inl (cL, 4, .inr (.inl (aL pt)))), (efr, .inl (cI, 10, .inl (aI fr))), (etk, .inl (cI, 4, .inl (aI tk))), (ebt, .inl (cI, 16, .inl (aI bt))), (etp, .inl (cI, 4, .inl (aI (va_up tps1 i sm1)))), (etb, .inl (cL, 9, .inr (.inl (aL tbl)))), (ewn, .inl (cL, 3, .inr (.inl (aL wn)))), (ga, .inr (2, [.int (iI (g 0)), .ref gx, .ref gy, .ref gz, .int (iI (g 1)), .int (iI (g 2)), .int (iI (g 3)), .int (iI (g 4)), .int (iI (g 5)), .int (iI (g 6)), .int (iI (g 7)), .int (iI (g 8)), .int (iI (g 9))])), (gx, .inl (cI, 10, .inl (aI (fun j => g (10 + 3 * j))))), (gy, .inl (cI, 10, .inl (aI (fun j => g (11 + 3 * j))))), (gz, .inl (cI, 10, .inl (aI (fun j => g (12 + 3 * j)))))] H := hP
                have hD : va_D A [(ea, .inr (1, [.ref ga, .ref elk, .int (iI cnt), .int (iI snd), .ref ept, .ref efr, .ref etk, .ref ebt, .ref etp, .int (iI wp), .ref etb, .ref ewn, .int (iI pl), .long (lI wh)])), (elk, .inl (cI, 4, .inl (aI lk))), (ept, .inl (cL, 4, .inr (.inl (aL pt)))), (efr, .inl (cI, 10, .inl (aI fr))), (etk, .inl (cI, 4, .inl (aI tk))), (ebt, .inl (cI, 16, .inl (aI bt))), (etp, .inl (cI, 4, .inl (aI (va_up tps1 i sm1)))), (etb, .inl (cL, 9, .inr (.inl (aL tbl)))), (ewn, .inl (cL, 3, .inr (.inl (aL wn)))), (ga, .inr (2, [.int (iI (g 0)), .ref gx, .ref gy, .ref gz, .int (iI (g 1)), .int (iI (g 2)), .int (iI (g 3)), .int (iI (g 4)), .int (iI (g 5)), .int (iI (g 6)), .int (iI (g 7)), .int (iI (g 8)), .int (iI (g 9))])), (gx, .inl (cI, 10, .inl (aI (fun j => g (10 + 3 * j))))), (gy, .inl (cI, 10, .inl (aI (fun j => g (11 + 3 * j))))), (gz, .inl (cI, 10, .inl (aI (fun j => g (12 + 3 * j)))))] := hD
                refine lv_iinc (v := iI ((i : Int) + 1)) (lv' := [(3, .int (iI ((i : Int) + 1))), (0, .ref ea), (1, .int (iI x)), (2, .int (iI y)), (4, .int (iI (((L.getD i 0) : Nat) : Int))), (5, .int (iI sm1)), (6, .int (iI (k : Int)))]) hx hb dX1_sumToPlaces_95 hl (k := 3) rfl (iI_add _ _) (by decide) rfl (fun ls hl => ?_)
                refine lv_goto (tgt := 2) hx hb dX1_sumToPlaces_98 (by decide) ?_
                exact ih2 (i + 1) (va_up tps1 i sm1) (by omega) (fun a h => by rcases Nat.lt_or_ge a i with e | e; (rw [va_up_ne _ _ (by omega)]; exact hinv a e); (rw [show a = i by omega, va_up_self, hsm, show k = P by omega]; rfl)) (by omega) _ _ hP hD hS ls (lv_sub hl [1, 2, 3, 0] rfl)
              · skip
                refine lv_iload hx hb dX1_sumToPlaces_33 (lv_at hl 5 rfl) ?_
                refine lv_aload_n hx hb dX1_sumToPlaces_35 rfl (lv_at hl 0 rfl) ?_
                refine va_get (D := D) (ci := 1) (v := .ref ga) (C := RX1) (T := TX1) (N := 14) hx hb hU inlX1 hown hK hP 0 rfl rfl 0 (by decide) (hU _ kf_RX1_37) (fun _ h9 => h9) rfl dX1_sumToPlaces_36 ?_
                refine lv_aload_n hx hb dX1_sumToPlaces_39 rfl (lv_at hl 0 rfl) ?_
                refine va_get (D := D) (ci := 1) (v := .ref ga) (C := RX1) (T := TX1) (N := 14) hx hb hU inlX1 hown hK hP 0 rfl rfl 0 (by decide) (hU _ kf_RX1_37) (fun _ h9 => h9) rfl dX1_sumToPlaces_40 ?_
                refine va_get (D := D) (ci := 2) (v := .ref gx) (C := RX2) (T := TX2) (N := 13) hx hb hU inlX2 hown hK hP 9 rfl rfl 1 (by decide) (hU _ kf_RX1_88) (fun _ h9 => h9) rfl dX1_sumToPlaces_43 ?_
                refine lv_iload hx hb dX1_sumToPlaces_46 (lv_at hl 4 rfl) ?_
                refine zr_iald hx hb hK hP 10 0 rfl rfl (L.getD i 0) (by omega) (by omega) (Nat.le_of_ble_eq_true rfl) dX1_sumToPlaces_48 ?_
                refine zr_rw (v := (g (10 + 3 * (L.getD i 0)))) rfl ?_
                refine lv_iload_n hx hb dX1_sumToPlaces_49 rfl (lv_at hl 1 rfl) ?_
                refine zr_isub hx hb dX1_sumToPlaces_50 ?_
                refine lv_iload hx hb dX1_sumToPlaces_51 (lv_at hl 6 rfl) ?_
                refine zc_Si (As := [.int (iI (k : Int))]) (rest := [.int (iI ((g (10 + 3 * (L.getD i 0))) - x)), .ref ga, .int (iI sm1)]) (c_X1_alongX l D cI cL cG cM k (by omega)) hx hb hml hown hU hl.1 ct_yX1_alongX kt_yX1_alongX km_RX1_121 ⟨rfl, rfl⟩ ⟨Nat.le_of_ble_eq_true rfl, Nat.le_of_ble_eq_true rfl⟩ rfl rfl (Nat.le_of_ble_eq_true rfl) dX1_sumToPlaces_53 ⟨Nat.le_of_ble_eq_true rfl, Nat.le_of_ble_eq_true rfl⟩ ?_
                refine zr_isub hx hb dX1_sumToPlaces_56 ?_
                refine lv_aload_n hx hb dX1_sumToPlaces_57 rfl (lv_at hl 0 rfl) ?_
                refine va_get (D := D) (ci := 1) (v := .ref ga) (C := RX1) (T := TX1) (N := 14) hx hb hU inlX1 hown hK hP 0 rfl rfl 0 (by decide) (hU _ kf_RX1_37) (fun _ h9 => h9) rfl dX1_sumToPlaces_58 ?_
                refine va_get (D := D) (ci := 2) (v := .ref gy) (C := RX2) (T := TX2) (N := 13) hx hb hU inlX2 hown hK hP 9 rfl rfl 2 (by decide) (hU _ kf_RX1_91) (fun _ h9 => h9) rfl dX1_sumToPlaces_61 ?_
                refine lv_iload hx hb dX1_sumToPlaces_64 (lv_at hl 4 rfl) ?_
                refine zr_iald hx hb hK hP 11 0 rfl rfl (L.getD i 0) (by omega) (by omega) (Nat.le_of_ble_eq_true rfl) dX1_sumToPlaces_66 ?_
                refine zr_rw (v := (g (11 + 3 * (L.getD i 0)))) rfl ?_
                refine lv_iload_n hx hb dX1_sumToPlaces_67 rfl (lv_at hl 2 rfl) ?_
                refine zr_isub hx hb dX1_sumToPlaces_68 ?_
                refine lv_iload hx hb dX1_sumToPlaces_69 (lv_at hl 6 rfl) ?_
                refine zc_Si (As := [.int (iI (k : Int))]) (rest := [.int (iI ((g (11 + 3 * (L.getD i 0))) - y)), .int (iI (((g (10 + 3 * (L.getD i 0))) - x) - (((k % 2 : Nat) : Int)))), .ref ga, .int (iI sm1)]) (c_X1_alongY l D cI cL cG cM k (by omega)) hx hb hml hown hU hl.1 ct_yX1_alongY kt_yX1_alongY km_RX1_124 ⟨rfl, rfl⟩ ⟨Nat.le_of_ble_eq_true rfl, Nat.le_of_ble_eq_true rfl⟩ rfl rfl (Nat.le_of_ble_eq_true rfl) dX1_sumToPlaces_71 ⟨Nat.le_of_ble_eq_true rfl, Nat.le_of_ble_eq_true rfl⟩ ?_
                refine zr_isub hx hb dX1_sumToPlaces_74 ?_
                have hPc_3 := hP.sub (ws' := [(ga, .inr (2, [.int (iI (g 0)), .ref gx, .ref gy, .ref gz, .int (iI (g 1)), .int (iI (g 2)), .int (iI (g 3)), .int (iI (g 4)), .int (iI (g 5)), .int (iI (g 6)), .int (iI (g 7)), .int (iI (g 8)), .int (iI (g 9))])), (gx, .inl (cI, 10, .inl (aI (fun j => g (10 + 3 * j))))), (gy, .inl (cI, 10, .inl (aI (fun j => g (11 + 3 * j))))), (gz, .inl (cI, 10, .inl (aI (fun j => g (12 + 3 * j)))))]) [9, 10, 11, 12] rfl
                refine zc_Vi (As := [.int (iI (((g (10 + 3 * (L.getD i 0))) - x) - (((k % 2 : Nat) : Int)))), .int (iI (((g (11 + 3 * (L.getD i 0))) - y) - (((k / 2 : Nat) : Int))))]) (rest := [.int (iI sm1)]) (c_X2_unlikeApart l D cI cL cG cM ga gx gy gz g (((g (10 + 3 * (L.getD i 0))) - x) - (((k % 2 : Nat) : Int))) (((g (11 + 3 * (L.getD i 0))) - y) - (((k / 2 : Nat) : Int))) (hv) (by omega) (by omega)) hx hb hml hown hU hl.1 ct_yX2_unlikeApart cv_yX2_unlikeApart km_RX1_118 hK hNst hPc_3 2 0 rfl rfl rfl ⟨rfl, rfl⟩ ⟨Nat.le_of_ble_eq_true rfl, Nat.le_of_ble_eq_true rfl⟩ rfl rfl (Nat.le_of_ble_eq_true rfl) dX1_sumToPlaces_75 ⟨Nat.le_of_ble_eq_true rfl, Nat.le_of_ble_eq_true rfl⟩ ?_
                refine zr_rw (v := (sp_ut g (L.getD i 0) (x + ((k % 2 : Nat) : Int)) (y + ((k / 2 : Nat) : Int)))) (by unfold sp_ut sp_fs sp_far; rw [Int.sub_sub, Int.sub_sub]) ?_
                refine zr_iadd hx hb dX1_sumToPlaces_78 ?_
                refine lv_istore (lv' := [(5, .int (iI (sm1 + (sp_ut g (L.getD i 0) (x + ((k % 2 : Nat) : Int)) (y + ((k / 2 : Nat) : Int)))))), (0, .ref ea), (1, .int (iI x)), (2, .int (iI y)), (3, .int (iI (i : Int))), (4, .int (iI (((L.getD i 0) : Nat) : Int))), (6, .int (iI (k : Int)))]) hx hb dX1_sumToPlaces_79 hl (by decide) rfl (fun ls hl => ?_)
                refine lv_iinc (v := iI ((k : Int) + 1)) (lv' := [(6, .int (iI ((k : Int) + 1))), (5, .int (iI (sm1 + (sp_ut g (L.getD i 0) (x + ((k % 2 : Nat) : Int)) (y + ((k / 2 : Nat) : Int)))))), (0, .ref ea), (1, .int (iI x)), (2, .int (iI y)), (3, .int (iI (i : Int))), (4, .int (iI (((L.getD i 0) : Nat) : Int)))]) hx hb dX1_sumToPlaces_81 hl (k := 6) rfl (iI_add _ _) (by decide) rfl (fun ls hl => ?_)
                refine lv_goto (tgt := 24) hx hb dX1_sumToPlaces_84 (by decide) ?_
                exact ih24 (k + 1) (sm1 + (sp_ut g (L.getD i 0) (x + ((k % 2 : Nat) : Int)) (y + ((k / 2 : Nat) : Int)))) (by omega) (by rw [hsm]; rfl) (by omega) _ _ hP hD hS ls (lv_sub hl [2, 3, 4, 5, 6, 1, 0] rfl)
          exact LP24 (P + 1) 0 0 (by omega) (rfl) (by omega) _ _ hP hD hS ls (lv_sub hl [3, 4, 5, 6, 2, 1, 0] rfl)
    exact LP2 (L.length + 1) 0 tps (by omega) (fun a h => absurd h (Nat.not_lt_zero a)) (by omega) _ _ hP hD hS ls (lv_sub hl [1, 2, 3, 0] rfl)
  rw [hlocs]
  exact hW0 s.heap [] hP hD hS

set_option maxHeartbeats 4000000 in
set_option maxRecDepth 100000 in
theorem c_X1_sumWithinPlaces (l : Launch) (D : va_G) (cI cL cG cM : ClassId) (ea elk ept efr etk ebt etp etb ewn ga gx gy gz : Nat) (lk : Nat → Int) (cnt : Int) (snd : Int) (pt : Nat → Int) (fr : Nat → Int) (tk : Nat → Int) (bt : Nat → Int) (tps : Nat → Int) (wp : Int) (tbl : Nat → Int) (wn : Nat → Int) (pl : Int) (wh : Int) (g : Nat → Int) (P : Nat) (hv : vR g) (hpl : pl = (P : Int)) (hP : 1 ≤ P ∧ P ≤ 4) (sz : Nat) : Met l yX1_sumWithinPlaces (wU yX1_sumWithinPlaces cX1_sumWithinPlaces 3 none) (rmF 3 70) (pcW D (tyA cI cL cG cM) [(ea, .inr (1, [.ref ga, .ref elk, .int (iI cnt), .int (iI snd), .ref ept, .ref efr, .ref etk, .ref ebt, .ref etp, .int (iI wp), .ref etb, .ref ewn, .int (iI pl), .long (lI wh)])), (elk, .inl (cI, 4, .inl (aI lk))), (ept, .inl (cL, 4, .inr (.inl (aL pt)))), (efr, .inl (cI, 10, .inl (aI fr))), (etk, .inl (cI, 4, .inl (aI tk))), (ebt, .inl (cI, 16, .inl (aI bt))), (etp, .inl (cI, 4, .inl (aI tps))), (etb, .inl (cL, 9, .inr (.inl (aL tbl)))), (ewn, .inl (cL, 3, .inr (.inl (aL wn)))), (ga, .inr (2, [.int (iI (g 0)), .ref gx, .ref gy, .ref gz, .int (iI (g 1)), .int (iI (g 2)), .int (iI (g 3)), .int (iI (g 4)), .int (iI (g 5)), .int (iI (g 6)), .int (iI (g 7)), .int (iI (g 8)), .int (iI (g 9))])), (gx, .inl (cI, 10, .inl (aI (fun j => g (10 + 3 * j))))), (gy, .inl (cI, 10, .inl (aI (fun j => g (11 + 3 * j))))), (gz, .inl (cI, 10, .inl (aI (fun j => g (12 + 3 * j)))))] [.ref ea] sz) (qWv (S := Int) D (tyA cI cL cG cM) (va_A [(ea, .inr (1, [.ref ga, .ref elk, .int (iI cnt), .int (iI snd), .ref ept, .ref efr, .ref etk, .ref ebt, .ref etp, .int (iI wp), .ref etb, .ref ewn, .int (iI pl), .long (lI wh)])), (elk, .inl (cI, 4, .inl (aI lk))), (ept, .inl (cL, 4, .inr (.inl (aL pt)))), (efr, .inl (cI, 10, .inl (aI fr))), (etk, .inl (cI, 4, .inl (aI tk))), (ebt, .inl (cI, 16, .inl (aI bt))), (etp, .inl (cI, 4, .inl (aI tps))), (etb, .inl (cL, 9, .inr (.inl (aL tbl)))), (ewn, .inl (cL, 3, .inr (.inl (aL wn)))), (ga, .inr (2, [.int (iI (g 0)), .ref gx, .ref gy, .ref gz, .int (iI (g 1)), .int (iI (g 2)), .int (iI (g 3)), .int (iI (g 4)), .int (iI (g 5)), .int (iI (g 6)), .int (iI (g 7)), .int (iI (g 8)), .int (iI (g 9))])), (gx, .inl (cI, 10, .inl (aI (fun j => g (10 + 3 * j))))), (gy, .inl (cI, 10, .inl (aI (fun j => g (11 + 3 * j))))), (gz, .inl (cI, 10, .inl (aI (fun j => g (12 + 3 * j)))))] sz) (fun (u : Int) => u = sp_wi g P) (fun (u : Int) => [(ea, .inr (1, [.ref ga, .ref elk, .int (iI cnt), .int (iI snd), .ref ept, .ref efr, .ref etk, .ref ebt, .ref etp, .int (iI u), .ref etb, .ref ewn, .int (iI pl), .long (lI wh)])), (elk, .inl (cI, 4, .inl (aI lk))), (ept, .inl (cL, 4, .inr (.inl (aL pt)))), (efr, .inl (cI, 10, .inl (aI fr))), (etk, .inl (cI, 4, .inl (aI tk))), (ebt, .inl (cI, 16, .inl (aI bt))), (etp, .inl (cI, 4, .inl (aI tps))), (etb, .inl (cL, 9, .inr (.inl (aL tbl)))), (ewn, .inl (cL, 3, .inr (.inl (aL wn)))), (ga, .inr (2, [.int (iI (g 0)), .ref gx, .ref gy, .ref gz, .int (iI (g 1)), .int (iI (g 2)), .int (iI (g 3)), .int (iI (g 4)), .int (iI (g 5)), .int (iI (g 6)), .int (iI (g 7)), .int (iI (g 8)), .int (iI (g 9))])), (gx, .inl (cI, 10, .inl (aI (fun j => g (10 + 3 * j))))), (gy, .inl (cI, 10, .inl (aI (fun j => g (11 + 3 * j))))), (gz, .inl (cI, 10, .inl (aI (fun j => g (12 + 3 * j)))))])) 0 0 (va_A [(ea, .inr (1, [.ref ga, .ref elk, .int (iI cnt), .int (iI snd), .ref ept, .ref efr, .ref etk, .ref ebt, .ref etp, .int (iI wp), .ref etb, .ref ewn, .int (iI pl), .long (lI wh)])), (elk, .inl (cI, 4, .inl (aI lk))), (ept, .inl (cL, 4, .inr (.inl (aL pt)))), (efr, .inl (cI, 10, .inl (aI fr))), (etk, .inl (cI, 4, .inl (aI tk))), (ebt, .inl (cI, 16, .inl (aI bt))), (etp, .inl (cI, 4, .inl (aI tps))), (etb, .inl (cL, 9, .inr (.inl (aL tbl)))), (ewn, .inl (cL, 3, .inr (.inl (aL wn)))), (ga, .inr (2, [.int (iI (g 0)), .ref gx, .ref gy, .ref gz, .int (iI (g 1)), .int (iI (g 2)), .int (iI (g 3)), .int (iI (g 4)), .int (iI (g 5)), .int (iI (g 6)), .int (iI (g 7)), .int (iI (g 8)), .int (iI (g 9))])), (gx, .inl (cI, 10, .inl (aI (fun j => g (10 + 3 * j))))), (gy, .inl (cI, 10, .inl (aI (fun j => g (11 + 3 * j))))), (gz, .inl (cI, 10, .inl (aI (fun j => g (12 + 3 * j)))))] sz) := by
  refine zm_W (own := RX1) (lv := [(0, .ref ea)]) (QF := fun A => qWv (S := Int) D (tyA cI cL cG cM) A (fun (u : Int) => u = sp_wi g P) (fun (u : Int) => [(ea, .inr (1, [.ref ga, .ref elk, .int (iI cnt), .int (iI snd), .ref ept, .ref efr, .ref etk, .ref ebt, .ref etp, .int (iI u), .ref etb, .ref ewn, .int (iI pl), .long (lI wh)])), (elk, .inl (cI, 4, .inl (aI lk))), (ept, .inl (cL, 4, .inr (.inl (aL pt)))), (efr, .inl (cI, 10, .inl (aI fr))), (etk, .inl (cI, 4, .inl (aI tk))), (ebt, .inl (cI, 16, .inl (aI bt))), (etp, .inl (cI, 4, .inl (aI tps))), (etb, .inl (cL, 9, .inr (.inl (aL tbl)))), (ewn, .inl (cL, 3, .inr (.inl (aL wn)))), (ga, .inr (2, [.int (iI (g 0)), .ref gx, .ref gy, .ref gz, .int (iI (g 1)), .int (iI (g 2)), .int (iI (g 3)), .int (iI (g 4)), .int (iI (g 5)), .int (iI (g 6)), .int (iI (g 7)), .int (iI (g 8)), .int (iI (g 9))])), (gx, .inl (cI, 10, .inl (aI (fun j => g (10 + 3 * j))))), (gy, .inl (cI, 10, .inl (aI (fun j => g (11 + 3 * j))))), (gz, .inl (cI, 10, .inl (aI (fun j => g (12 + 3 * j)))))])) (by decide) rfl (Nat.le_of_ble_eq_true rfl) rfl ?_
  intro p e s m below meth c A args Q hx hb hr hml hown hU hlk hnm hP hK hNst hD hA hS hsz hQ ls hl
  obtain ⟨H, hH⟩ : ∃ H, H = s.heap := ⟨_, rfl⟩
  obtain ⟨locs, hlocs⟩ : ∃ locs : List Loc, locs = [] := ⟨_, rfl⟩
  rw [← hlocs]
  have hW0 : ∀ (H : Heap) (locs : List Loc), va_P D vwCl [(ea, .inr (1, [.ref ga, .ref elk, .int (iI cnt), .int (iI snd), .ref ept, .ref efr, .ref etk, .ref ebt, .ref etp, .int (iI wp), .ref etb, .ref ewn, .int (iI pl), .long (lI wh)])), (elk, .inl (cI, 4, .inl (aI lk))), (ept, .inl (cL, 4, .inr (.inl (aL pt)))), (efr, .inl (cI, 10, .inl (aI fr))), (etk, .inl (cI, 4, .inl (aI tk))), (ebt, .inl (cI, 16, .inl (aI bt))), (etp, .inl (cI, 4, .inl (aI tps))), (etb, .inl (cL, 9, .inr (.inl (aL tbl)))), (ewn, .inl (cL, 3, .inr (.inl (aL wn)))), (ga, .inr (2, [.int (iI (g 0)), .ref gx, .ref gy, .ref gz, .int (iI (g 1)), .int (iI (g 2)), .int (iI (g 3)), .int (iI (g 4)), .int (iI (g 5)), .int (iI (g 6)), .int (iI (g 7)), .int (iI (g 8)), .int (iI (g 9))])), (gx, .inl (cI, 10, .inl (aI (fun j => g (10 + 3 * j))))), (gy, .inl (cI, 10, .inl (aI (fun j => g (11 + 3 * j))))), (gz, .inl (cI, 10, .inl (aI (fun j => g (12 + 3 * j)))))] H → va_D A [(ea, .inr (1, [.ref ga, .ref elk, .int (iI cnt), .int (iI snd), .ref ept, .ref efr, .ref etk, .ref ebt, .ref etp, .int (iI wp), .ref etb, .ref ewn, .int (iI pl), .long (lI wh)])), (elk, .inl (cI, 4, .inl (aI lk))), (ept, .inl (cL, 4, .inr (.inl (aL pt)))), (efr, .inl (cI, 10, .inl (aI fr))), (etk, .inl (cI, 4, .inl (aI tk))), (ebt, .inl (cI, 16, .inl (aI bt))), (etp, .inl (cI, 4, .inl (aI tps))), (etb, .inl (cL, 9, .inr (.inl (aL tbl)))), (ewn, .inl (cL, 3, .inr (.inl (aL wn)))), (ga, .inr (2, [.int (iI (g 0)), .ref gx, .ref gy, .ref gz, .int (iI (g 1)), .int (iI (g 2)), .int (iI (g 3)), .int (iI (g 4)), .int (iI (g 5)), .int (iI (g 6)), .int (iI (g 7)), .int (iI (g 8)), .int (iI (g 9))])), (gx, .inl (cI, 10, .inl (aI (fun j => g (10 + 3 * j))))), (gy, .inl (cI, 10, .inl (aI (fun j => g (11 + 3 * j))))), (gz, .inl (cI, 10, .inl (aI (fun j => g (12 + 3 * j)))))] → va_S A s.heap H locs → W p l e (rmF 3 70) s m args below meth c H locs 0 0 Q (F0 m 0 ls []) := by
    clear hP hD hS hH hlocs H locs
    intro H locs hP hD hS
    refine lv_aload_n hx hb dX1_sumWithinPlaces_0 rfl (lv_at hl 0 rfl) ?_
    refine lv_iconst (v := iI 0) hx hb dX1_sumWithinPlaces_1 rfl ?_
    refine va_put (D := D) (ci := 1) (v := .int (iI 0)) (ty := .int) (C := RX1) (T := TX1) (N := 14) hx hb hU inlX1 tyX1 tyX1_ok nmX1 hown hK hP hD hS 0 rfl rfl 9 (by decide) (hU _ kf_RX1_127) (fun _ h9 => h9) rfl (by decide +kernel) rfl rfl (Nat.le_of_ble_eq_true rfl) dX1_sumWithinPlaces_2 (fun H locs hP hD hS => ?_)
    have hP : va_P D vwCl [(ea, .inr (1, [.ref ga, .ref elk, .int (iI cnt), .int (iI snd), .ref ept, .ref efr, .ref etk, .ref ebt, .ref etp, .int (iI 0), .ref etb, .ref ewn, .int (iI pl), .long (lI wh)])), (elk, .inl (cI, 4, .inl (aI lk))), (ept, .inl (cL, 4, .inr (.inl (aL pt)))), (efr, .inl (cI, 10, .inl (aI fr))), (etk, .inl (cI, 4, .inl (aI tk))), (ebt, .inl (cI, 16, .inl (aI bt))), (etp, .inl (cI, 4, .inl (aI tps))), (etb, .inl (cL, 9, .inr (.inl (aL tbl)))), (ewn, .inl (cL, 3, .inr (.inl (aL wn)))), (ga, .inr (2, [.int (iI (g 0)), .ref gx, .ref gy, .ref gz, .int (iI (g 1)), .int (iI (g 2)), .int (iI (g 3)), .int (iI (g 4)), .int (iI (g 5)), .int (iI (g 6)), .int (iI (g 7)), .int (iI (g 8)), .int (iI (g 9))])), (gx, .inl (cI, 10, .inl (aI (fun j => g (10 + 3 * j))))), (gy, .inl (cI, 10, .inl (aI (fun j => g (11 + 3 * j))))), (gz, .inl (cI, 10, .inl (aI (fun j => g (12 + 3 * j)))))] H := hP
    have hD : va_D A [(ea, .inr (1, [.ref ga, .ref elk, .int (iI cnt), .int (iI snd), .ref ept, .ref efr, .ref etk, .ref ebt, .ref etp, .int (iI 0), .ref etb, .ref ewn, .int (iI pl), .long (lI wh)])), (elk, .inl (cI, 4, .inl (aI lk))), (ept, .inl (cL, 4, .inr (.inl (aL pt)))), (efr, .inl (cI, 10, .inl (aI fr))), (etk, .inl (cI, 4, .inl (aI tk))), (ebt, .inl (cI, 16, .inl (aI bt))), (etp, .inl (cI, 4, .inl (aI tps))), (etb, .inl (cL, 9, .inr (.inl (aL tbl)))), (ewn, .inl (cL, 3, .inr (.inl (aL wn)))), (ga, .inr (2, [.int (iI (g 0)), .ref gx, .ref gy, .ref gz, .int (iI (g 1)), .int (iI (g 2)), .int (iI (g 3)), .int (iI (g 4)), .int (iI (g 5)), .int (iI (g 6)), .int (iI (g 7)), .int (iI (g 8)), .int (iI (g 9))])), (gx, .inl (cI, 10, .inl (aI (fun j => g (10 + 3 * j))))), (gy, .inl (cI, 10, .inl (aI (fun j => g (11 + 3 * j))))), (gz, .inl (cI, 10, .inl (aI (fun j => g (12 + 3 * j)))))] := hD
    refine lv_iconst (v := iI 0) hx hb dX1_sumWithinPlaces_5 rfl ?_
    refine lv_istore_n (lv' := [(1, .int (iI 0)), (0, .ref ea)]) hx hb dX1_sumWithinPlaces_6 rfl hl (by decide) rfl (fun ls hl => ?_)
    have LP7 : ∀ (n : Nat), ∀ (a : Nat) (wp1 : Int), (a ≤ P) → (wp1 = sm (fun p => sm (fun q => sp_wf g p q) P) a) → (P < a + n) → ∀ (H : Heap) (locs : List Loc), va_P D vwCl [(ea, .inr (1, [.ref ga, .ref elk, .int (iI cnt), .int (iI snd), .ref ept, .ref efr, .ref etk, .ref ebt, .ref etp, .int (iI wp1), .ref etb, .ref ewn, .int (iI pl), .long (lI wh)])), (elk, .inl (cI, 4, .inl (aI lk))), (ept, .inl (cL, 4, .inr (.inl (aL pt)))), (efr, .inl (cI, 10, .inl (aI fr))), (etk, .inl (cI, 4, .inl (aI tk))), (ebt, .inl (cI, 16, .inl (aI bt))), (etp, .inl (cI, 4, .inl (aI tps))), (etb, .inl (cL, 9, .inr (.inl (aL tbl)))), (ewn, .inl (cL, 3, .inr (.inl (aL wn)))), (ga, .inr (2, [.int (iI (g 0)), .ref gx, .ref gy, .ref gz, .int (iI (g 1)), .int (iI (g 2)), .int (iI (g 3)), .int (iI (g 4)), .int (iI (g 5)), .int (iI (g 6)), .int (iI (g 7)), .int (iI (g 8)), .int (iI (g 9))])), (gx, .inl (cI, 10, .inl (aI (fun j => g (10 + 3 * j))))), (gy, .inl (cI, 10, .inl (aI (fun j => g (11 + 3 * j))))), (gz, .inl (cI, 10, .inl (aI (fun j => g (12 + 3 * j)))))] H → va_D A [(ea, .inr (1, [.ref ga, .ref elk, .int (iI cnt), .int (iI snd), .ref ept, .ref efr, .ref etk, .ref ebt, .ref etp, .int (iI wp1), .ref etb, .ref ewn, .int (iI pl), .long (lI wh)])), (elk, .inl (cI, 4, .inl (aI lk))), (ept, .inl (cL, 4, .inr (.inl (aL pt)))), (efr, .inl (cI, 10, .inl (aI fr))), (etk, .inl (cI, 4, .inl (aI tk))), (ebt, .inl (cI, 16, .inl (aI bt))), (etp, .inl (cI, 4, .inl (aI tps))), (etb, .inl (cL, 9, .inr (.inl (aL tbl)))), (ewn, .inl (cL, 3, .inr (.inl (aL wn)))), (ga, .inr (2, [.int (iI (g 0)), .ref gx, .ref gy, .ref gz, .int (iI (g 1)), .int (iI (g 2)), .int (iI (g 3)), .int (iI (g 4)), .int (iI (g 5)), .int (iI (g 6)), .int (iI (g 7)), .int (iI (g 8)), .int (iI (g 9))])), (gx, .inl (cI, 10, .inl (aI (fun j => g (10 + 3 * j))))), (gy, .inl (cI, 10, .inl (aI (fun j => g (11 + 3 * j))))), (gz, .inl (cI, 10, .inl (aI (fun j => g (12 + 3 * j)))))] → va_S A s.heap H locs → ∀ (ls : Array Slot), lv_has ls 3 [(0, .ref ea), (1, .int (iI (a : Int)))] → W p l e (rmF 3 70) s m args below meth c H locs 0 0 Q (F0 m 7 ls []) := by
      intro n
      induction n with
      | zero =>
        intro a wp1 ha hs1 hfu
        exfalso
        omega
      | succ n ih7 =>
        intro a wp1 ha hs1 hfu H locs hP hD hS ls hl
        refine lv_iload_n hx hb dX1_sumWithinPlaces_7 rfl (lv_at hl 1 rfl) ?_
        refine lv_aload_n hx hb dX1_sumWithinPlaces_8 rfl (lv_at hl 0 rfl) ?_
        refine va_get (D := D) (ci := 1) (v := .int (iI pl)) (C := RX1) (T := TX1) (N := 14) hx hb hU inlX1 hown hK hP 0 rfl rfl 12 (by decide) (hU _ kf_RX1_41) (fun _ h9 => h9) rfl dX1_sumWithinPlaces_9 ?_
        refine zr_icmp_ge (tgt := 71) hx hb dX1_sumWithinPlaces_12 (by decide) (by omega) (by omega) (fun c_1 => ?_) (fun c_1 => ?_)
        · skip
          rw [hQ]
          exact ze_Wv hx hb hr hlk dX1_sumWithinPlaces_71 wp1 (by rw [hs1, show a = P by omega]; rfl) hP hK hD hS
        · skip
          refine lv_iconst (v := iI 0) hx hb dX1_sumWithinPlaces_15 rfl ?_
          refine lv_istore_n (lv' := [(2, .int (iI 0)), (0, .ref ea), (1, .int (iI (a : Int)))]) hx hb dX1_sumWithinPlaces_16 rfl hl (by decide) rfl (fun ls hl => ?_)
          have LP17 : ∀ (n : Nat), ∀ (b : Nat) (wp2 : Int), (b ≤ P) → (wp2 = sm (fun p => sm (fun q => sp_wf g p q) P) a + sm (fun q => sp_wf g a q) b) → (P < b + n) → ∀ (H : Heap) (locs : List Loc), va_P D vwCl [(ea, .inr (1, [.ref ga, .ref elk, .int (iI cnt), .int (iI snd), .ref ept, .ref efr, .ref etk, .ref ebt, .ref etp, .int (iI wp2), .ref etb, .ref ewn, .int (iI pl), .long (lI wh)])), (elk, .inl (cI, 4, .inl (aI lk))), (ept, .inl (cL, 4, .inr (.inl (aL pt)))), (efr, .inl (cI, 10, .inl (aI fr))), (etk, .inl (cI, 4, .inl (aI tk))), (ebt, .inl (cI, 16, .inl (aI bt))), (etp, .inl (cI, 4, .inl (aI tps))), (etb, .inl (cL, 9, .inr (.inl (aL tbl)))), (ewn, .inl (cL, 3, .inr (.inl (aL wn)))), (ga, .inr (2, [.int (iI (g 0)), .ref gx, .ref gy, .ref gz, .int (iI (g 1)), .int (iI (g 2)), .int (iI (g 3)), .int (iI (g 4)), .int (iI (g 5)), .int (iI (g 6)), .int (iI (g 7)), .int (iI (g 8)), .int (iI (g 9))])), (gx, .inl (cI, 10, .inl (aI (fun j => g (10 + 3 * j))))), (gy, .inl (cI, 10, .inl (aI (fun j => g (11 + 3 * j))))), (gz, .inl (cI, 10, .inl (aI (fun j => g (12 + 3 * j)))))] H → va_D A [(ea, .inr (1, [.ref ga, .ref elk, .int (iI cnt), .int (iI snd), .ref ept, .ref efr, .ref etk, .ref ebt, .ref etp, .int (iI wp2), .ref etb, .ref ewn, .int (iI pl), .long (lI wh)])), (elk, .inl (cI, 4, .inl (aI lk))), (ept, .inl (cL, 4, .inr (.inl (aL pt)))), (efr, .inl (cI, 10, .inl (aI fr))), (etk, .inl (cI, 4, .inl (aI tk))), (ebt, .inl (cI, 16, .inl (aI bt))), (etp, .inl (cI, 4, .inl (aI tps))), (etb, .inl (cL, 9, .inr (.inl (aL tbl)))), (ewn, .inl (cL, 3, .inr (.inl (aL wn)))), (ga, .inr (2, [.int (iI (g 0)), .ref gx, .ref gy, .ref gz, .int (iI (g 1)), .int (iI (g 2)), .int (iI (g 3)), .int (iI (g 4)), .int (iI (g 5)), .int (iI (g 6)), .int (iI (g 7)), .int (iI (g 8)), .int (iI (g 9))])), (gx, .inl (cI, 10, .inl (aI (fun j => g (10 + 3 * j))))), (gy, .inl (cI, 10, .inl (aI (fun j => g (11 + 3 * j))))), (gz, .inl (cI, 10, .inl (aI (fun j => g (12 + 3 * j)))))] → va_S A s.heap H locs → ∀ (ls : Array Slot), lv_has ls 3 [(0, .ref ea), (1, .int (iI (a : Int))), (2, .int (iI (b : Int)))] → W p l e (rmF 3 70) s m args below meth c H locs 0 0 Q (F0 m 17 ls []) := by
            intro n
            induction n with
            | zero =>
              intro b wp2 hb2 hs2 hfu
              exfalso
              omega
            | succ n ih17 =>
              intro b wp2 hb2 hs2 hfu H locs hP hD hS ls hl
              refine lv_iload_n hx hb dX1_sumWithinPlaces_17 rfl (lv_at hl 2 rfl) ?_
              refine lv_aload_n hx hb dX1_sumWithinPlaces_18 rfl (lv_at hl 0 rfl) ?_
              refine va_get (D := D) (ci := 1) (v := .int (iI pl)) (C := RX1) (T := TX1) (N := 14) hx hb hU inlX1 hown hK hP 0 rfl rfl 12 (by decide) (hU _ kf_RX1_41) (fun _ h9 => h9) rfl dX1_sumWithinPlaces_19 ?_
              refine zr_icmp_ge (tgt := 65) hx hb dX1_sumWithinPlaces_22 (by decide) (by omega) (by omega) (fun c_2 => ?_) (fun c_2 => ?_)
              · skip
                refine lv_iinc (v := iI ((a : Int) + 1)) (lv' := [(1, .int (iI ((a : Int) + 1))), (0, .ref ea), (2, .int (iI (b : Int)))]) hx hb dX1_sumWithinPlaces_65 hl (k := 1) rfl (iI_add _ _) (by decide) rfl (fun ls hl => ?_)
                refine lv_goto (tgt := 7) hx hb dX1_sumWithinPlaces_68 (by decide) ?_
                exact ih7 (a + 1) wp2 (by omega) (by rw [hs2, show b = P by omega]; rfl) (by omega) _ _ hP hD hS ls (lv_sub hl [1, 0] rfl)
              · skip
                refine lv_aload_n hx hb dX1_sumWithinPlaces_25 rfl (lv_at hl 0 rfl) ?_
                refine lv_dup hx hb dX1_sumWithinPlaces_26 rfl ?_
                refine va_get (D := D) (ci := 1) (v := .int (iI wp2)) (C := RX1) (T := TX1) (N := 14) hx hb hU inlX1 hown hK hP 0 rfl rfl 9 (by decide) (hU _ kf_RX1_127) (fun _ h9 => h9) rfl dX1_sumWithinPlaces_27 ?_
                refine lv_aload_n hx hb dX1_sumWithinPlaces_30 rfl (lv_at hl 0 rfl) ?_
                refine va_get (D := D) (ci := 1) (v := .ref ga) (C := RX1) (T := TX1) (N := 14) hx hb hU inlX1 hown hK hP 0 rfl rfl 0 (by decide) (hU _ kf_RX1_37) (fun _ h9 => h9) rfl dX1_sumWithinPlaces_31 ?_
                refine lv_iload_n hx hb dX1_sumWithinPlaces_34 rfl (lv_at hl 1 rfl) ?_
                refine zc_Si (As := [.int (iI (a : Int))]) (rest := [.ref ga, .int (iI wp2), .ref ea]) (c_X1_alongX l D cI cL cG cM a (by omega)) hx hb hml hown hU hl.1 ct_yX1_alongX kt_yX1_alongX km_RX1_121 ⟨rfl, rfl⟩ ⟨Nat.le_of_ble_eq_true rfl, Nat.le_of_ble_eq_true rfl⟩ rfl rfl (Nat.le_of_ble_eq_true rfl) dX1_sumWithinPlaces_35 ⟨Nat.le_of_ble_eq_true rfl, Nat.le_of_ble_eq_true rfl⟩ ?_
                refine lv_iload_n hx hb dX1_sumWithinPlaces_38 rfl (lv_at hl 2 rfl) ?_
                refine zc_Si (As := [.int (iI (b : Int))]) (rest := [.int (iI (((a % 2 : Nat) : Int))), .ref ga, .int (iI wp2), .ref ea]) (c_X1_alongX l D cI cL cG cM b (by omega)) hx hb hml hown hU hl.1 ct_yX1_alongX kt_yX1_alongX km_RX1_121 ⟨rfl, rfl⟩ ⟨Nat.le_of_ble_eq_true rfl, Nat.le_of_ble_eq_true rfl⟩ rfl rfl (Nat.le_of_ble_eq_true rfl) dX1_sumWithinPlaces_39 ⟨Nat.le_of_ble_eq_true rfl, Nat.le_of_ble_eq_true rfl⟩ ?_
                refine zr_isub hx hb dX1_sumWithinPlaces_42 ?_
                refine lv_iload_n hx hb dX1_sumWithinPlaces_43 rfl (lv_at hl 1 rfl) ?_
                refine zc_Si (As := [.int (iI (a : Int))]) (rest := [.int (iI ((((a % 2 : Nat) : Int)) - (((b % 2 : Nat) : Int)))), .ref ga, .int (iI wp2), .ref ea]) (c_X1_alongY l D cI cL cG cM a (by omega)) hx hb hml hown hU hl.1 ct_yX1_alongY kt_yX1_alongY km_RX1_124 ⟨rfl, rfl⟩ ⟨Nat.le_of_ble_eq_true rfl, Nat.le_of_ble_eq_true rfl⟩ rfl rfl (Nat.le_of_ble_eq_true rfl) dX1_sumWithinPlaces_44 ⟨Nat.le_of_ble_eq_true rfl, Nat.le_of_ble_eq_true rfl⟩ ?_
                refine lv_iload_n hx hb dX1_sumWithinPlaces_47 rfl (lv_at hl 2 rfl) ?_
                refine zc_Si (As := [.int (iI (b : Int))]) (rest := [.int (iI (((a / 2 : Nat) : Int))), .int (iI ((((a % 2 : Nat) : Int)) - (((b % 2 : Nat) : Int)))), .ref ga, .int (iI wp2), .ref ea]) (c_X1_alongY l D cI cL cG cM b (by omega)) hx hb hml hown hU hl.1 ct_yX1_alongY kt_yX1_alongY km_RX1_124 ⟨rfl, rfl⟩ ⟨Nat.le_of_ble_eq_true rfl, Nat.le_of_ble_eq_true rfl⟩ rfl rfl (Nat.le_of_ble_eq_true rfl) dX1_sumWithinPlaces_48 ⟨Nat.le_of_ble_eq_true rfl, Nat.le_of_ble_eq_true rfl⟩ ?_
                refine zr_isub hx hb dX1_sumWithinPlaces_51 ?_
                have hPc_3 := hP.sub (ws' := [(ga, .inr (2, [.int (iI (g 0)), .ref gx, .ref gy, .ref gz, .int (iI (g 1)), .int (iI (g 2)), .int (iI (g 3)), .int (iI (g 4)), .int (iI (g 5)), .int (iI (g 6)), .int (iI (g 7)), .int (iI (g 8)), .int (iI (g 9))])), (gx, .inl (cI, 10, .inl (aI (fun j => g (10 + 3 * j))))), (gy, .inl (cI, 10, .inl (aI (fun j => g (11 + 3 * j))))), (gz, .inl (cI, 10, .inl (aI (fun j => g (12 + 3 * j)))))]) [9, 10, 11, 12] rfl
                refine zc_Vi (As := [.int (iI ((((a % 2 : Nat) : Int)) - (((b % 2 : Nat) : Int)))), .int (iI ((((a / 2 : Nat) : Int)) - (((b / 2 : Nat) : Int))))]) (rest := [.int (iI wp2), .ref ea]) (c_X2_unlikeApart l D cI cL cG cM ga gx gy gz g ((((a % 2 : Nat) : Int)) - (((b % 2 : Nat) : Int))) ((((a / 2 : Nat) : Int)) - (((b / 2 : Nat) : Int))) (hv) (by omega) (by omega)) hx hb hml hown hU hl.1 ct_yX2_unlikeApart cv_yX2_unlikeApart km_RX1_118 hK hNst hPc_3 2 0 rfl rfl rfl ⟨rfl, rfl⟩ ⟨Nat.le_of_ble_eq_true rfl, Nat.le_of_ble_eq_true rfl⟩ rfl rfl (Nat.le_of_ble_eq_true rfl) dX1_sumWithinPlaces_52 ⟨Nat.le_of_ble_eq_true rfl, Nat.le_of_ble_eq_true rfl⟩ ?_
                refine zr_rw (v := (sp_wf g a b)) (rfl) ?_
                refine zr_iadd hx hb dX1_sumWithinPlaces_55 ?_
                refine va_put (D := D) (ci := 1) (v := .int (iI (wp2 + (sp_wf g a b)))) (ty := .int) (C := RX1) (T := TX1) (N := 14) hx hb hU inlX1 tyX1 tyX1_ok nmX1 hown hK hP hD hS 0 rfl rfl 9 (by decide) (hU _ kf_RX1_127) (fun _ h9 => h9) rfl (by decide +kernel) rfl rfl (Nat.le_of_ble_eq_true rfl) dX1_sumWithinPlaces_56 (fun H locs hP hD hS => ?_)
                have hP : va_P D vwCl [(ea, .inr (1, [.ref ga, .ref elk, .int (iI cnt), .int (iI snd), .ref ept, .ref efr, .ref etk, .ref ebt, .ref etp, .int (iI (wp2 + (sp_wf g a b))), .ref etb, .ref ewn, .int (iI pl), .long (lI wh)])), (elk, .inl (cI, 4, .inl (aI lk))), (ept, .inl (cL, 4, .inr (.inl (aL pt)))), (efr, .inl (cI, 10, .inl (aI fr))), (etk, .inl (cI, 4, .inl (aI tk))), (ebt, .inl (cI, 16, .inl (aI bt))), (etp, .inl (cI, 4, .inl (aI tps))), (etb, .inl (cL, 9, .inr (.inl (aL tbl)))), (ewn, .inl (cL, 3, .inr (.inl (aL wn)))), (ga, .inr (2, [.int (iI (g 0)), .ref gx, .ref gy, .ref gz, .int (iI (g 1)), .int (iI (g 2)), .int (iI (g 3)), .int (iI (g 4)), .int (iI (g 5)), .int (iI (g 6)), .int (iI (g 7)), .int (iI (g 8)), .int (iI (g 9))])), (gx, .inl (cI, 10, .inl (aI (fun j => g (10 + 3 * j))))), (gy, .inl (cI, 10, .inl (aI (fun j => g (11 + 3 * j))))), (gz, .inl (cI, 10, .inl (aI (fun j => g (12 + 3 * j)))))] H := hP
                have hD : va_D A [(ea, .inr (1, [.ref ga, .ref elk, .int (iI cnt), .int (iI snd), .ref ept, .ref efr, .ref etk, .ref ebt, .ref etp, .int (iI (wp2 + (sp_wf g a b))), .ref etb, .ref ewn, .int (iI pl), .long (lI wh)])), (elk, .inl (cI, 4, .inl (aI lk))), (ept, .inl (cL, 4, .inr (.inl (aL pt)))), (efr, .inl (cI, 10, .inl (aI fr))), (etk, .inl (cI, 4, .inl (aI tk))), (ebt, .inl (cI, 16, .inl (aI bt))), (etp, .inl (cI, 4, .inl (aI tps))), (etb, .inl (cL, 9, .inr (.inl (aL tbl)))), (ewn, .inl (cL, 3, .inr (.inl (aL wn)))), (ga, .inr (2, [.int (iI (g 0)), .ref gx, .ref gy, .ref gz, .int (iI (g 1)), .int (iI (g 2)), .int (iI (g 3)), .int (iI (g 4)), .int (iI (g 5)), .int (iI (g 6)), .int (iI (g 7)), .int (iI (g 8)), .int (iI (g 9))])), (gx, .inl (cI, 10, .inl (aI (fun j => g (10 + 3 * j))))), (gy, .inl (cI, 10, .inl (aI (fun j => g (11 + 3 * j))))), (gz, .inl (cI, 10, .inl (aI (fun j => g (12 + 3 * j)))))] := hD
                refine lv_iinc (v := iI ((b : Int) + 1)) (lv' := [(2, .int (iI ((b : Int) + 1))), (0, .ref ea), (1, .int (iI (a : Int)))]) hx hb dX1_sumWithinPlaces_59 hl (k := 2) rfl (iI_add _ _) (by decide) rfl (fun ls hl => ?_)
                refine lv_goto (tgt := 17) hx hb dX1_sumWithinPlaces_62 (by decide) ?_
                exact ih17 (b + 1) (wp2 + (sp_wf g a b)) (by omega) (by rw [hs2]; show _ = _ + (sm _ b + sp_wf g a b); omega) (by omega) _ _ hP hD hS ls (lv_sub hl [1, 2, 0] rfl)
          exact LP17 (P + 1) 0 wp1 (by omega) (by rw [hs1]; exact (Int.add_zero _).symm) (by omega) _ _ hP hD hS ls (lv_sub hl [1, 2, 0] rfl)
    exact LP7 (P + 1) 0 0 (by omega) (rfl) (by omega) _ _ hP hD hS ls (lv_sub hl [1, 0] rfl)
  rw [hlocs]
  exact hW0 s.heap [] hP hD hS

set_option maxHeartbeats 4000000 in
set_option maxRecDepth 100000 in
theorem c_X1_fillTable (l : Launch) (D : va_G) (cI cL cG cM : ClassId) (ea elk ept efr etk ebt etp etb ewn ga gx gy gz : Nat) (lk : Nat → Int) (cnt : Int) (snd : Int) (pt : Nat → Int) (fr : Nat → Int) (tk : Nat → Int) (bt : Nat → Int) (tps : Nat → Int) (wp : Int) (tbl : Nat → Int) (wn : Nat → Int) (pl : Int) (wh : Int) (g : Nat → Int) (L : List Nat) (U : Nat → Nat → Int) (v : Nat → Int) (pz : Int) (hv : vR g) (hok : okL g L) (hL : isL L lk cnt) (hpl : pl = pz) (hV : okV L.length v pz) (hU2 : bdU U L.length) (hbt : ∀ i j : Nat, i < L.length → j < L.length → bt (4 * i + j) = U i j) (htp : ∀ i : Nat, i < L.length → tps i = v i) (sz : Nat) : Met l yX1_fillTable (wU yX1_fillTable cX1_fillTable 4 none) (rmF 0 0) (pcW D (tyA cI cL cG cM) [(ea, .inr (1, [.ref ga, .ref elk, .int (iI cnt), .int (iI snd), .ref ept, .ref efr, .ref etk, .ref ebt, .ref etp, .int (iI wp), .ref etb, .ref ewn, .int (iI pl), .long (lI wh)])), (elk, .inl (cI, 4, .inl (aI lk))), (ept, .inl (cL, 4, .inr (.inl (aL pt)))), (efr, .inl (cI, 10, .inl (aI fr))), (etk, .inl (cI, 4, .inl (aI tk))), (ebt, .inl (cI, 16, .inl (aI bt))), (etp, .inl (cI, 4, .inl (aI tps))), (etb, .inl (cL, 9, .inr (.inl (aL tbl)))), (ewn, .inl (cL, 3, .inr (.inl (aL wn)))), (ga, .inr (2, [.int (iI (g 0)), .ref gx, .ref gy, .ref gz, .int (iI (g 1)), .int (iI (g 2)), .int (iI (g 3)), .int (iI (g 4)), .int (iI (g 5)), .int (iI (g 6)), .int (iI (g 7)), .int (iI (g 8)), .int (iI (g 9))])), (gx, .inl (cI, 10, .inl (aI (fun j => g (10 + 3 * j))))), (gy, .inl (cI, 10, .inl (aI (fun j => g (11 + 3 * j))))), (gz, .inl (cI, 10, .inl (aI (fun j => g (12 + 3 * j)))))] [.ref ea] sz) (qWv (S := (Nat → Int) × (Nat → Int)) D (tyA cI cL cG cM) (va_A [(ea, .inr (1, [.ref ga, .ref elk, .int (iI cnt), .int (iI snd), .ref ept, .ref efr, .ref etk, .ref ebt, .ref etp, .int (iI wp), .ref etb, .ref ewn, .int (iI pl), .long (lI wh)])), (elk, .inl (cI, 4, .inl (aI lk))), (ept, .inl (cL, 4, .inr (.inl (aL pt)))), (efr, .inl (cI, 10, .inl (aI fr))), (etk, .inl (cI, 4, .inl (aI tk))), (ebt, .inl (cI, 16, .inl (aI bt))), (etp, .inl (cI, 4, .inl (aI tps))), (etb, .inl (cL, 9, .inr (.inl (aL tbl)))), (ewn, .inl (cL, 3, .inr (.inl (aL wn)))), (ga, .inr (2, [.int (iI (g 0)), .ref gx, .ref gy, .ref gz, .int (iI (g 1)), .int (iI (g 2)), .int (iI (g 3)), .int (iI (g 4)), .int (iI (g 5)), .int (iI (g 6)), .int (iI (g 7)), .int (iI (g 8)), .int (iI (g 9))])), (gx, .inl (cI, 10, .inl (aI (fun j => g (10 + 3 * j))))), (gy, .inl (cI, 10, .inl (aI (fun j => g (11 + 3 * j))))), (gz, .inl (cI, 10, .inl (aI (fun j => g (12 + 3 * j)))))] sz) (fun (u : (Nat → Int) × (Nat → Int)) => (∀ i : Nat, i < 3 → u.1 i = kw U v pz L.length i) ∧ (∀ i j : Nat, i < 3 → j < 3 → u.2 (3 * i + j) = kB U L.length i j)) (fun (u : (Nat → Int) × (Nat → Int)) => [(ea, .inr (1, [.ref ga, .ref elk, .int (iI cnt), .int (iI snd), .ref ept, .ref efr, .ref etk, .ref ebt, .ref etp, .int (iI wp), .ref etb, .ref ewn, .int (iI pl), .long (lI wh)])), (elk, .inl (cI, 4, .inl (aI lk))), (ept, .inl (cL, 4, .inr (.inl (aL pt)))), (efr, .inl (cI, 10, .inl (aI fr))), (etk, .inl (cI, 4, .inl (aI tk))), (ebt, .inl (cI, 16, .inl (aI bt))), (etp, .inl (cI, 4, .inl (aI tps))), (etb, .inl (cL, 9, .inr (.inl (aL u.2)))), (ewn, .inl (cL, 3, .inr (.inl (aL u.1)))), (ga, .inr (2, [.int (iI (g 0)), .ref gx, .ref gy, .ref gz, .int (iI (g 1)), .int (iI (g 2)), .int (iI (g 3)), .int (iI (g 4)), .int (iI (g 5)), .int (iI (g 6)), .int (iI (g 7)), .int (iI (g 8)), .int (iI (g 9))])), (gx, .inl (cI, 10, .inl (aI (fun j => g (10 + 3 * j))))), (gy, .inl (cI, 10, .inl (aI (fun j => g (11 + 3 * j))))), (gz, .inl (cI, 10, .inl (aI (fun j => g (12 + 3 * j)))))])) 0 0 (va_A [(ea, .inr (1, [.ref ga, .ref elk, .int (iI cnt), .int (iI snd), .ref ept, .ref efr, .ref etk, .ref ebt, .ref etp, .int (iI wp), .ref etb, .ref ewn, .int (iI pl), .long (lI wh)])), (elk, .inl (cI, 4, .inl (aI lk))), (ept, .inl (cL, 4, .inr (.inl (aL pt)))), (efr, .inl (cI, 10, .inl (aI fr))), (etk, .inl (cI, 4, .inl (aI tk))), (ebt, .inl (cI, 16, .inl (aI bt))), (etp, .inl (cI, 4, .inl (aI tps))), (etb, .inl (cL, 9, .inr (.inl (aL tbl)))), (ewn, .inl (cL, 3, .inr (.inl (aL wn)))), (ga, .inr (2, [.int (iI (g 0)), .ref gx, .ref gy, .ref gz, .int (iI (g 1)), .int (iI (g 2)), .int (iI (g 3)), .int (iI (g 4)), .int (iI (g 5)), .int (iI (g 6)), .int (iI (g 7)), .int (iI (g 8)), .int (iI (g 9))])), (gx, .inl (cI, 10, .inl (aI (fun j => g (10 + 3 * j))))), (gy, .inl (cI, 10, .inl (aI (fun j => g (11 + 3 * j))))), (gz, .inl (cI, 10, .inl (aI (fun j => g (12 + 3 * j)))))] sz) := by
  refine zm_W (own := RX1) (lv := [(0, .ref ea)]) (QF := fun A => qWv (S := (Nat → Int) × (Nat → Int)) D (tyA cI cL cG cM) A (fun (u : (Nat → Int) × (Nat → Int)) => (∀ i : Nat, i < 3 → u.1 i = kw U v pz L.length i) ∧ (∀ i j : Nat, i < 3 → j < 3 → u.2 (3 * i + j) = kB U L.length i j)) (fun (u : (Nat → Int) × (Nat → Int)) => [(ea, .inr (1, [.ref ga, .ref elk, .int (iI cnt), .int (iI snd), .ref ept, .ref efr, .ref etk, .ref ebt, .ref etp, .int (iI wp), .ref etb, .ref ewn, .int (iI pl), .long (lI wh)])), (elk, .inl (cI, 4, .inl (aI lk))), (ept, .inl (cL, 4, .inr (.inl (aL pt)))), (efr, .inl (cI, 10, .inl (aI fr))), (etk, .inl (cI, 4, .inl (aI tk))), (ebt, .inl (cI, 16, .inl (aI bt))), (etp, .inl (cI, 4, .inl (aI tps))), (etb, .inl (cL, 9, .inr (.inl (aL u.2)))), (ewn, .inl (cL, 3, .inr (.inl (aL u.1)))), (ga, .inr (2, [.int (iI (g 0)), .ref gx, .ref gy, .ref gz, .int (iI (g 1)), .int (iI (g 2)), .int (iI (g 3)), .int (iI (g 4)), .int (iI (g 5)), .int (iI (g 6)), .int (iI (g 7)), .int (iI (g 8)), .int (iI (g 9))])), (gx, .inl (cI, 10, .inl (aI (fun j => g (10 + 3 * j))))), (gy, .inl (cI, 10, .inl (aI (fun j => g (11 + 3 * j))))), (gz, .inl (cI, 10, .inl (aI (fun j => g (12 + 3 * j)))))])) (by decide) rfl (Nat.le_of_ble_eq_true rfl) rfl ?_
  intro p e s m below meth c A args Q hx hb hr hml hown hU hlk hnm hP hK hNst hD hA hS hsz hQ ls hl
  obtain ⟨H, hH⟩ : ∃ H, H = s.heap := ⟨_, rfl⟩
  obtain ⟨locs, hlocs⟩ : ∃ locs : List Loc, locs = [] := ⟨_, rfl⟩
  rw [← hlocs]
  have hW0 : ∀ (H : Heap) (locs : List Loc), va_P D vwCl [(ea, .inr (1, [.ref ga, .ref elk, .int (iI cnt), .int (iI snd), .ref ept, .ref efr, .ref etk, .ref ebt, .ref etp, .int (iI wp), .ref etb, .ref ewn, .int (iI pl), .long (lI wh)])), (elk, .inl (cI, 4, .inl (aI lk))), (ept, .inl (cL, 4, .inr (.inl (aL pt)))), (efr, .inl (cI, 10, .inl (aI fr))), (etk, .inl (cI, 4, .inl (aI tk))), (ebt, .inl (cI, 16, .inl (aI bt))), (etp, .inl (cI, 4, .inl (aI tps))), (etb, .inl (cL, 9, .inr (.inl (aL tbl)))), (ewn, .inl (cL, 3, .inr (.inl (aL wn)))), (ga, .inr (2, [.int (iI (g 0)), .ref gx, .ref gy, .ref gz, .int (iI (g 1)), .int (iI (g 2)), .int (iI (g 3)), .int (iI (g 4)), .int (iI (g 5)), .int (iI (g 6)), .int (iI (g 7)), .int (iI (g 8)), .int (iI (g 9))])), (gx, .inl (cI, 10, .inl (aI (fun j => g (10 + 3 * j))))), (gy, .inl (cI, 10, .inl (aI (fun j => g (11 + 3 * j))))), (gz, .inl (cI, 10, .inl (aI (fun j => g (12 + 3 * j)))))] H → va_D A [(ea, .inr (1, [.ref ga, .ref elk, .int (iI cnt), .int (iI snd), .ref ept, .ref efr, .ref etk, .ref ebt, .ref etp, .int (iI wp), .ref etb, .ref ewn, .int (iI pl), .long (lI wh)])), (elk, .inl (cI, 4, .inl (aI lk))), (ept, .inl (cL, 4, .inr (.inl (aL pt)))), (efr, .inl (cI, 10, .inl (aI fr))), (etk, .inl (cI, 4, .inl (aI tk))), (ebt, .inl (cI, 16, .inl (aI bt))), (etp, .inl (cI, 4, .inl (aI tps))), (etb, .inl (cL, 9, .inr (.inl (aL tbl)))), (ewn, .inl (cL, 3, .inr (.inl (aL wn)))), (ga, .inr (2, [.int (iI (g 0)), .ref gx, .ref gy, .ref gz, .int (iI (g 1)), .int (iI (g 2)), .int (iI (g 3)), .int (iI (g 4)), .int (iI (g 5)), .int (iI (g 6)), .int (iI (g 7)), .int (iI (g 8)), .int (iI (g 9))])), (gx, .inl (cI, 10, .inl (aI (fun j => g (10 + 3 * j))))), (gy, .inl (cI, 10, .inl (aI (fun j => g (11 + 3 * j))))), (gz, .inl (cI, 10, .inl (aI (fun j => g (12 + 3 * j)))))] → va_S A s.heap H locs → W p l e (rmF 0 0) s m args below meth c H locs 0 0 Q (F0 m 0 ls []) := by
    clear hP hD hS hH hlocs H locs
    intro H locs hP hD hS
    have h0 := hv.1
    have h7 := hv.2.2.2.2.2.2.2.1
    have h8 := hv.2.2.2.2.2.2.2.2.1
    have h9 := hv.2.2.2.2.2.2.2.2.2.1
    have h4 := okL_le hv hok
    have hl1 := hL.1
    have hpz := hV.1
    refine lv_iconst (v := iI 0) hx hb dX1_fillTable_0 rfl ?_
    refine lv_istore_n (lv' := [(1, .int (iI 0)), (0, .ref ea)]) hx hb dX1_fillTable_1 rfl hl (by decide) rfl (fun ls hl => ?_)
    have LP2 : ∀ (n : Nat), ∀ (i : Nat) (wn1 : Nat → Int) (tbl1 : Nat → Int), (i ≤ 3) → (∀ a : Nat, a < i → wn1 a = kw U v pz L.length a) → (∀ a b : Nat, a < i → b < 3 → tbl1 (3 * a + b) = kB U L.length a b) → (3 < i + n) → ∀ (H : Heap) (locs : List Loc), va_P D vwCl [(ea, .inr (1, [.ref ga, .ref elk, .int (iI cnt), .int (iI snd), .ref ept, .ref efr, .ref etk, .ref ebt, .ref etp, .int (iI wp), .ref etb, .ref ewn, .int (iI pl), .long (lI wh)])), (elk, .inl (cI, 4, .inl (aI lk))), (ept, .inl (cL, 4, .inr (.inl (aL pt)))), (efr, .inl (cI, 10, .inl (aI fr))), (etk, .inl (cI, 4, .inl (aI tk))), (ebt, .inl (cI, 16, .inl (aI bt))), (etp, .inl (cI, 4, .inl (aI tps))), (etb, .inl (cL, 9, .inr (.inl (aL tbl1)))), (ewn, .inl (cL, 3, .inr (.inl (aL wn1)))), (ga, .inr (2, [.int (iI (g 0)), .ref gx, .ref gy, .ref gz, .int (iI (g 1)), .int (iI (g 2)), .int (iI (g 3)), .int (iI (g 4)), .int (iI (g 5)), .int (iI (g 6)), .int (iI (g 7)), .int (iI (g 8)), .int (iI (g 9))])), (gx, .inl (cI, 10, .inl (aI (fun j => g (10 + 3 * j))))), (gy, .inl (cI, 10, .inl (aI (fun j => g (11 + 3 * j))))), (gz, .inl (cI, 10, .inl (aI (fun j => g (12 + 3 * j)))))] H → va_D A [(ea, .inr (1, [.ref ga, .ref elk, .int (iI cnt), .int (iI snd), .ref ept, .ref efr, .ref etk, .ref ebt, .ref etp, .int (iI wp), .ref etb, .ref ewn, .int (iI pl), .long (lI wh)])), (elk, .inl (cI, 4, .inl (aI lk))), (ept, .inl (cL, 4, .inr (.inl (aL pt)))), (efr, .inl (cI, 10, .inl (aI fr))), (etk, .inl (cI, 4, .inl (aI tk))), (ebt, .inl (cI, 16, .inl (aI bt))), (etp, .inl (cI, 4, .inl (aI tps))), (etb, .inl (cL, 9, .inr (.inl (aL tbl1)))), (ewn, .inl (cL, 3, .inr (.inl (aL wn1)))), (ga, .inr (2, [.int (iI (g 0)), .ref gx, .ref gy, .ref gz, .int (iI (g 1)), .int (iI (g 2)), .int (iI (g 3)), .int (iI (g 4)), .int (iI (g 5)), .int (iI (g 6)), .int (iI (g 7)), .int (iI (g 8)), .int (iI (g 9))])), (gx, .inl (cI, 10, .inl (aI (fun j => g (10 + 3 * j))))), (gy, .inl (cI, 10, .inl (aI (fun j => g (11 + 3 * j))))), (gz, .inl (cI, 10, .inl (aI (fun j => g (12 + 3 * j)))))] → va_S A s.heap H locs → ∀ (ls : Array Slot), lv_has ls 4 [(0, .ref ea), (1, .int (iI (i : Int)))] → W p l e (rmF 0 0) s m args below meth c H locs 0 0 Q (F0 m 2 ls []) := by
      intro n
      induction n with
      | zero =>
        intro i wn1 tbl1 hi hw1 ht1 hfu
        exfalso
        omega
      | succ n ih2 =>
        intro i wn1 tbl1 hi hw1 ht1 hfu H locs hP hD hS ls hl
        refine lv_iload_n hx hb dX1_fillTable_2 rfl (lv_at hl 1 rfl) ?_
        refine lv_iconst (v := iI 3) hx hb dX1_fillTable_3 rfl ?_
        refine zr_icmp_ge (tgt := 166) hx hb dX1_fillTable_4 (by decide) (by omega) (by omega) (fun c_1 => ?_) (fun c_1 => ?_)
        · skip
          rw [hQ]
          exact ze_Wv hx hb hr hlk dX1_fillTable_166 (wn1, tbl1) (⟨fun a h => hw1 a (by omega), fun a b h1 h2 => ht1 a b (by omega) h2⟩) hP hK hD hS
        · skip
          refine lv_iload_n hx hb dX1_fillTable_7 rfl (lv_at hl 1 rfl) ?_
          refine lv_iconst (v := iI 1) hx hb dX1_fillTable_8 rfl ?_
          refine zr_iadd hx hb dX1_fillTable_9 ?_
          refine lv_aload_n hx hb dX1_fillTable_10 rfl (lv_at hl 0 rfl) ?_
          refine va_get (D := D) (ci := 1) (v := .int (iI cnt)) (C := RX1) (T := TX1) (N := 14) hx hb hU inlX1 hown hK hP 0 rfl rfl 2 (by decide) (hU _ kf_RX1_49) (fun _ h9 => h9) rfl dX1_fillTable_11 ?_
          refine zr_icmp_ge (tgt := 21) hx hb dX1_fillTable_14 (by decide) (by omega) (by omega) (fun c_2 => ?_) (fun c_2 => ?_)
          · skip
            refine lv_iconst (v := iI 0) hx hb dX1_fillTable_21 rfl ?_
            refine lv_istore_n (lv' := [(2, .int (iI 0)), (0, .ref ea), (1, .int (iI (i : Int)))]) hx hb dX1_fillTable_22 rfl hl (by decide) rfl (fun ls hl => ?_)
            refine lv_aload_n hx hb dX1_fillTable_23 rfl (lv_at hl 1 rfl) ?_
            refine va_get (D := D) (ci := 1) (v := .ref ewn) (C := RX1) (T := TX1) (N := 14) hx hb hU inlX1 hown hK hP 0 rfl rfl 11 (by decide) (hU _ kf_RX1_34) (fun _ h9 => h9) rfl dX1_fillTable_24 ?_
            refine lv_iload_n hx hb dX1_fillTable_27 rfl (lv_at hl 2 rfl) ?_
            refine lv_iload_n hx hb dX1_fillTable_28 rfl (lv_at hl 0 rfl) ?_
            refine zr_if_eq (tgt := 65) hx hb dX1_fillTable_29 (by decide) (by omega) (fun c_3 => ?_) (fun c_3 => absurd c_3 (by decide))
            refine lv_lconst (v := lI 0) hx hb dX1_fillTable_65 rfl ?_
            refine zr_rwl (v := (kw U v pz L.length i)) (by unfold kw; rw [if_neg (by omega)]) ?_
            refine zr_last hx hb hK hP hD hS 8 1 rfl rfl i (by omega) (by omega) (Nat.le_of_ble_eq_true rfl) dX1_fillTable_66 (fun H locs hP hD hS => ?_)
            have hP : va_P D vwCl [(ea, .inr (1, [.ref ga, .ref elk, .int (iI cnt), .int (iI snd), .ref ept, .ref efr, .ref etk, .ref ebt, .ref etp, .int (iI wp), .ref etb, .ref ewn, .int (iI pl), .long (lI wh)])), (elk, .inl (cI, 4, .inl (aI lk))), (ept, .inl (cL, 4, .inr (.inl (aL pt)))), (efr, .inl (cI, 10, .inl (aI fr))), (etk, .inl (cI, 4, .inl (aI tk))), (ebt, .inl (cI, 16, .inl (aI bt))), (etp, .inl (cI, 4, .inl (aI tps))), (etb, .inl (cL, 9, .inr (.inl (aL tbl1)))), (ewn, .inl (cL, 3, .inr (.inl (aL (va_up wn1 i (kw U v pz L.length i)))))), (ga, .inr (2, [.int (iI (g 0)), .ref gx, .ref gy, .ref gz, .int (iI (g 1)), .int (iI (g 2)), .int (iI (g 3)), .int (iI (g 4)), .int (iI (g 5)), .int (iI (g 6)), .int (iI (g 7)), .int (iI (g 8)), .int (iI (g 9))])), (gx, .inl (cI, 10, .inl (aI (fun j => g (10 + 3 * j))))), (gy, .inl (cI, 10, .inl (aI (fun j => g (11 + 3 * j))))), (gz, .inl (cI, 10, .inl (aI (fun j => g (12 + 3 * j)))))] H := hP
            have hD : va_D A [(ea, .inr (1, [.ref ga, .ref elk, .int (iI cnt), .int (iI snd), .ref ept, .ref efr, .ref etk, .ref ebt, .ref etp, .int (iI wp), .ref etb, .ref ewn, .int (iI pl), .long (lI wh)])), (elk, .inl (cI, 4, .inl (aI lk))), (ept, .inl (cL, 4, .inr (.inl (aL pt)))), (efr, .inl (cI, 10, .inl (aI fr))), (etk, .inl (cI, 4, .inl (aI tk))), (ebt, .inl (cI, 16, .inl (aI bt))), (etp, .inl (cI, 4, .inl (aI tps))), (etb, .inl (cL, 9, .inr (.inl (aL tbl1)))), (ewn, .inl (cL, 3, .inr (.inl (aL (va_up wn1 i (kw U v pz L.length i)))))), (ga, .inr (2, [.int (iI (g 0)), .ref gx, .ref gy, .ref gz, .int (iI (g 1)), .int (iI (g 2)), .int (iI (g 3)), .int (iI (g 4)), .int (iI (g 5)), .int (iI (g 6)), .int (iI (g 7)), .int (iI (g 8)), .int (iI (g 9))])), (gx, .inl (cI, 10, .inl (aI (fun j => g (10 + 3 * j))))), (gy, .inl (cI, 10, .inl (aI (fun j => g (11 + 3 * j))))), (gz, .inl (cI, 10, .inl (aI (fun j => g (12 + 3 * j)))))] := hD
            refine lv_iconst (v := iI 0) hx hb dX1_fillTable_67 rfl ?_
            refine lv_istore_n (lv' := [(3, .int (iI 0)), (2, .int (iI 0)), (0, .ref ea), (1, .int (iI (i : Int)))]) hx hb dX1_fillTable_68 rfl hl (by decide) rfl (fun ls hl => ?_)
            have LPJ : ∀ (n : Nat), ∀ (j : Nat) (tbl2 : Nat → Int), (j ≤ 3) → (∀ a b : Nat, a < 3 → b < 3 → (a < i ∨ (a = i ∧ b < j)) → tbl2 (3 * a + b) = kB U L.length a b) → (3 < j + n) → ∀ (H : Heap) (locs : List Loc), va_P D vwCl [(ea, .inr (1, [.ref ga, .ref elk, .int (iI cnt), .int (iI snd), .ref ept, .ref efr, .ref etk, .ref ebt, .ref etp, .int (iI wp), .ref etb, .ref ewn, .int (iI pl), .long (lI wh)])), (elk, .inl (cI, 4, .inl (aI lk))), (ept, .inl (cL, 4, .inr (.inl (aL pt)))), (efr, .inl (cI, 10, .inl (aI fr))), (etk, .inl (cI, 4, .inl (aI tk))), (ebt, .inl (cI, 16, .inl (aI bt))), (etp, .inl (cI, 4, .inl (aI tps))), (etb, .inl (cL, 9, .inr (.inl (aL tbl2)))), (ewn, .inl (cL, 3, .inr (.inl (aL (va_up wn1 i (kw U v pz L.length i)))))), (ga, .inr (2, [.int (iI (g 0)), .ref gx, .ref gy, .ref gz, .int (iI (g 1)), .int (iI (g 2)), .int (iI (g 3)), .int (iI (g 4)), .int (iI (g 5)), .int (iI (g 6)), .int (iI (g 7)), .int (iI (g 8)), .int (iI (g 9))])), (gx, .inl (cI, 10, .inl (aI (fun j => g (10 + 3 * j))))), (gy, .inl (cI, 10, .inl (aI (fun j => g (11 + 3 * j))))), (gz, .inl (cI, 10, .inl (aI (fun j => g (12 + 3 * j)))))] H → va_D A [(ea, .inr (1, [.ref ga, .ref elk, .int (iI cnt), .int (iI snd), .ref ept, .ref efr, .ref etk, .ref ebt, .ref etp, .int (iI wp), .ref etb, .ref ewn, .int (iI pl), .long (lI wh)])), (elk, .inl (cI, 4, .inl (aI lk))), (ept, .inl (cL, 4, .inr (.inl (aL pt)))), (efr, .inl (cI, 10, .inl (aI fr))), (etk, .inl (cI, 4, .inl (aI tk))), (ebt, .inl (cI, 16, .inl (aI bt))), (etp, .inl (cI, 4, .inl (aI tps))), (etb, .inl (cL, 9, .inr (.inl (aL tbl2)))), (ewn, .inl (cL, 3, .inr (.inl (aL (va_up wn1 i (kw U v pz L.length i)))))), (ga, .inr (2, [.int (iI (g 0)), .ref gx, .ref gy, .ref gz, .int (iI (g 1)), .int (iI (g 2)), .int (iI (g 3)), .int (iI (g 4)), .int (iI (g 5)), .int (iI (g 6)), .int (iI (g 7)), .int (iI (g 8)), .int (iI (g 9))])), (gx, .inl (cI, 10, .inl (aI (fun j => g (10 + 3 * j))))), (gy, .inl (cI, 10, .inl (aI (fun j => g (11 + 3 * j))))), (gz, .inl (cI, 10, .inl (aI (fun j => g (12 + 3 * j)))))] → va_S A s.heap H locs → ∀ (ls : Array Slot), lv_has ls 4 [(0, .ref ea), (1, .int (iI (i : Int))), (2, .int (iI 0)), (3, .int (iI (j : Int)))] → W p l e (rmF 0 0) s m args below meth c H locs 0 0 Q (F0 m 69 ls []) := by
              intro n
              induction n with
              | zero =>
                intro j tbl2 hj ht2 hfu
                exfalso
                omega
              | succ n ih69 =>
                intro j tbl2 hj ht2 hfu H locs hP hD hS ls hl
                refine lv_iload_n hx hb dX1_fillTable_69 rfl (lv_at hl 3 rfl) ?_
                refine lv_iconst (v := iI 3) hx hb dX1_fillTable_70 rfl ?_
                refine zr_icmp_ge (tgt := 160) hx hb dX1_fillTable_71 (by decide) (by omega) (by omega) (fun c_4 => ?_) (fun c_4 => ?_)
                · skip
                  refine lv_iinc (v := iI ((i : Int) + 1)) (lv' := [(1, .int (iI ((i : Int) + 1))), (0, .ref ea), (2, .int (iI 0)), (3, .int (iI (j : Int)))]) hx hb dX1_fillTable_160 hl (k := 1) rfl (iI_add _ _) (by decide) rfl (fun ls hl => ?_)
                  refine lv_goto (tgt := 2) hx hb dX1_fillTable_163 (by decide) ?_
                  exact ih2 (i + 1) (va_up wn1 i (kw U v pz L.length i)) tbl2 (by omega) (fun a h => by rcases Nat.lt_or_ge a i with e | e; (rw [va_up_ne _ _ (by omega)]; exact hw1 a e); (rw [show a = i by omega, va_up_self])) (fun a b h1 h2 => ht2 a b (by omega) h2 (by omega)) (by omega) _ _ hP hD hS ls (lv_sub hl [1, 0] rfl)
                · skip
                  refine lv_iload_n hx hb dX1_fillTable_74 rfl (lv_at hl 2 rfl) ?_
                  refine zr_if_eq (tgt := 134) hx hb dX1_fillTable_75 (by decide) (by omega) (fun c_5 => ?_) (fun c_5 => absurd c_5 (by decide))
                  refine lv_aload_n hx hb dX1_fillTable_134 rfl (lv_at hl 0 rfl) ?_
                  refine va_get (D := D) (ci := 1) (v := .ref etb) (C := RX1) (T := TX1) (N := 14) hx hb hU inlX1 hown hK hP 0 rfl rfl 10 (by decide) (hU _ kf_RX1_31) (fun _ h9 => h9) rfl dX1_fillTable_135 ?_
                  refine lv_iload_n hx hb dX1_fillTable_138 rfl (lv_at hl 1 rfl) ?_
                  refine lv_iconst (v := iI 3) hx hb dX1_fillTable_139 rfl ?_
                  refine zr_imul hx hb dX1_fillTable_140 ?_
                  refine lv_iload_n hx hb dX1_fillTable_141 rfl (lv_at hl 3 rfl) ?_
                  refine zr_iadd hx hb dX1_fillTable_142 ?_
                  refine lv_iload_n hx hb dX1_fillTable_143 rfl (lv_at hl 1 rfl) ?_
                  refine lv_iload_n hx hb dX1_fillTable_144 rfl (lv_at hl 3 rfl) ?_
                  refine zr_icmp_ne (tgt := 152) hx hb dX1_fillTable_145 (by decide) (by omega) (by omega) (fun c_6 => ?_) (fun c_6 => ?_)
                  · skip
                    refine lv_lconst (v := lI 0) hx hb dX1_fillTable_152 rfl ?_
                    refine zr_rwl (v := (kB U L.length i j)) (by unfold kB; rw [if_neg (by omega), if_neg (by omega)]) ?_
                    refine zr_last hx hb hK hP hD hS 7 1 rfl rfl (3 * i + j) (by omega) (by omega) (Nat.le_of_ble_eq_true rfl) dX1_fillTable_153 (fun H locs hP hD hS => ?_)
                    have hP : va_P D vwCl [(ea, .inr (1, [.ref ga, .ref elk, .int (iI cnt), .int (iI snd), .ref ept, .ref efr, .ref etk, .ref ebt, .ref etp, .int (iI wp), .ref etb, .ref ewn, .int (iI pl), .long (lI wh)])), (elk, .inl (cI, 4, .inl (aI lk))), (ept, .inl (cL, 4, .inr (.inl (aL pt)))), (efr, .inl (cI, 10, .inl (aI fr))), (etk, .inl (cI, 4, .inl (aI tk))), (ebt, .inl (cI, 16, .inl (aI bt))), (etp, .inl (cI, 4, .inl (aI tps))), (etb, .inl (cL, 9, .inr (.inl (aL (va_up tbl2 (3 * i + j) (kB U L.length i j)))))), (ewn, .inl (cL, 3, .inr (.inl (aL (va_up wn1 i (kw U v pz L.length i)))))), (ga, .inr (2, [.int (iI (g 0)), .ref gx, .ref gy, .ref gz, .int (iI (g 1)), .int (iI (g 2)), .int (iI (g 3)), .int (iI (g 4)), .int (iI (g 5)), .int (iI (g 6)), .int (iI (g 7)), .int (iI (g 8)), .int (iI (g 9))])), (gx, .inl (cI, 10, .inl (aI (fun j => g (10 + 3 * j))))), (gy, .inl (cI, 10, .inl (aI (fun j => g (11 + 3 * j))))), (gz, .inl (cI, 10, .inl (aI (fun j => g (12 + 3 * j)))))] H := hP
                    have hD : va_D A [(ea, .inr (1, [.ref ga, .ref elk, .int (iI cnt), .int (iI snd), .ref ept, .ref efr, .ref etk, .ref ebt, .ref etp, .int (iI wp), .ref etb, .ref ewn, .int (iI pl), .long (lI wh)])), (elk, .inl (cI, 4, .inl (aI lk))), (ept, .inl (cL, 4, .inr (.inl (aL pt)))), (efr, .inl (cI, 10, .inl (aI fr))), (etk, .inl (cI, 4, .inl (aI tk))), (ebt, .inl (cI, 16, .inl (aI bt))), (etp, .inl (cI, 4, .inl (aI tps))), (etb, .inl (cL, 9, .inr (.inl (aL (va_up tbl2 (3 * i + j) (kB U L.length i j)))))), (ewn, .inl (cL, 3, .inr (.inl (aL (va_up wn1 i (kw U v pz L.length i)))))), (ga, .inr (2, [.int (iI (g 0)), .ref gx, .ref gy, .ref gz, .int (iI (g 1)), .int (iI (g 2)), .int (iI (g 3)), .int (iI (g 4)), .int (iI (g 5)), .int (iI (g 6)), .int (iI (g 7)), .int (iI (g 8)), .int (iI (g 9))])), (gx, .inl (cI, 10, .inl (aI (fun j => g (10 + 3 * j))))), (gy, .inl (cI, 10, .inl (aI (fun j => g (11 + 3 * j))))), (gz, .inl (cI, 10, .inl (aI (fun j => g (12 + 3 * j)))))] := hD
                    refine lv_iinc (v := iI ((j : Int) + 1)) (lv' := [(3, .int (iI ((j : Int) + 1))), (0, .ref ea), (1, .int (iI (i : Int))), (2, .int (iI 0))]) hx hb dX1_fillTable_154 hl (k := 3) rfl (iI_add _ _) (by decide) rfl (fun ls hl => ?_)
                    refine lv_goto (tgt := 69) hx hb dX1_fillTable_157 (by decide) ?_
                    exact ih69 (j + 1) (va_up tbl2 (3 * i + j) (kB U L.length i j)) (by omega) (fun a b h1 h2 h3 => by by_cases q : a = i ∧ b = j; (rw [q.1, q.2]; exact va_up_self _ _ _); (rw [va_up_ne _ _ (by omega)]; exact ht2 a b h1 h2 (by omega))) (by omega) _ _ hP hD hS ls (lv_sub hl [1, 2, 3, 0] rfl)
                  · skip
                    refine lv_lconst (v := lI 1) hx hb dX1_fillTable_148 rfl ?_
                    refine lv_goto (tgt := 153) hx hb dX1_fillTable_149 (by decide) ?_
                    refine zr_rwl (v := (kB U L.length i j)) (by unfold kB; rw [if_neg (by omega), if_pos (by omega)]) ?_
                    refine zr_last hx hb hK hP hD hS 7 1 rfl rfl (3 * i + j) (by omega) (by omega) (Nat.le_of_ble_eq_true rfl) dX1_fillTable_153 (fun H locs hP hD hS => ?_)
                    have hP : va_P D vwCl [(ea, .inr (1, [.ref ga, .ref elk, .int (iI cnt), .int (iI snd), .ref ept, .ref efr, .ref etk, .ref ebt, .ref etp, .int (iI wp), .ref etb, .ref ewn, .int (iI pl), .long (lI wh)])), (elk, .inl (cI, 4, .inl (aI lk))), (ept, .inl (cL, 4, .inr (.inl (aL pt)))), (efr, .inl (cI, 10, .inl (aI fr))), (etk, .inl (cI, 4, .inl (aI tk))), (ebt, .inl (cI, 16, .inl (aI bt))), (etp, .inl (cI, 4, .inl (aI tps))), (etb, .inl (cL, 9, .inr (.inl (aL (va_up tbl2 (3 * i + j) (kB U L.length i j)))))), (ewn, .inl (cL, 3, .inr (.inl (aL (va_up wn1 i (kw U v pz L.length i)))))), (ga, .inr (2, [.int (iI (g 0)), .ref gx, .ref gy, .ref gz, .int (iI (g 1)), .int (iI (g 2)), .int (iI (g 3)), .int (iI (g 4)), .int (iI (g 5)), .int (iI (g 6)), .int (iI (g 7)), .int (iI (g 8)), .int (iI (g 9))])), (gx, .inl (cI, 10, .inl (aI (fun j => g (10 + 3 * j))))), (gy, .inl (cI, 10, .inl (aI (fun j => g (11 + 3 * j))))), (gz, .inl (cI, 10, .inl (aI (fun j => g (12 + 3 * j)))))] H := hP
                    have hD : va_D A [(ea, .inr (1, [.ref ga, .ref elk, .int (iI cnt), .int (iI snd), .ref ept, .ref efr, .ref etk, .ref ebt, .ref etp, .int (iI wp), .ref etb, .ref ewn, .int (iI pl), .long (lI wh)])), (elk, .inl (cI, 4, .inl (aI lk))), (ept, .inl (cL, 4, .inr (.inl (aL pt)))), (efr, .inl (cI, 10, .inl (aI fr))), (etk, .inl (cI, 4, .inl (aI tk))), (ebt, .inl (cI, 16, .inl (aI bt))), (etp, .inl (cI, 4, .inl (aI tps))), (etb, .inl (cL, 9, .inr (.inl (aL (va_up tbl2 (3 * i + j) (kB U L.length i j)))))), (ewn, .inl (cL, 3, .inr (.inl (aL (va_up wn1 i (kw U v pz L.length i)))))), (ga, .inr (2, [.int (iI (g 0)), .ref gx, .ref gy, .ref gz, .int (iI (g 1)), .int (iI (g 2)), .int (iI (g 3)), .int (iI (g 4)), .int (iI (g 5)), .int (iI (g 6)), .int (iI (g 7)), .int (iI (g 8)), .int (iI (g 9))])), (gx, .inl (cI, 10, .inl (aI (fun j => g (10 + 3 * j))))), (gy, .inl (cI, 10, .inl (aI (fun j => g (11 + 3 * j))))), (gz, .inl (cI, 10, .inl (aI (fun j => g (12 + 3 * j)))))] := hD
                    refine lv_iinc (v := iI ((j : Int) + 1)) (lv' := [(3, .int (iI ((j : Int) + 1))), (0, .ref ea), (1, .int (iI (i : Int))), (2, .int (iI 0))]) hx hb dX1_fillTable_154 hl (k := 3) rfl (iI_add _ _) (by decide) rfl (fun ls hl => ?_)
                    refine lv_goto (tgt := 69) hx hb dX1_fillTable_157 (by decide) ?_
                    exact ih69 (j + 1) (va_up tbl2 (3 * i + j) (kB U L.length i j)) (by omega) (fun a b h1 h2 h3 => by by_cases q : a = i ∧ b = j; (rw [q.1, q.2]; exact va_up_self _ _ _); (rw [va_up_ne _ _ (by omega)]; exact ht2 a b h1 h2 (by omega))) (by omega) _ _ hP hD hS ls (lv_sub hl [1, 2, 3, 0] rfl)
            exact LPJ 4 0 tbl1 (by omega) (fun a b h1 h2 h3 => ht1 a b (by omega) h2) (by omega) _ _ hP hD hS ls (lv_sub hl [2, 3, 1, 0] rfl)
          · skip
            refine lv_iconst (v := iI 1) hx hb dX1_fillTable_17 rfl ?_
            refine lv_goto (tgt := 22) hx hb dX1_fillTable_18 (by decide) ?_
            refine lv_istore_n (lv' := [(2, .int (iI 1)), (0, .ref ea), (1, .int (iI (i : Int)))]) hx hb dX1_fillTable_22 rfl hl (by decide) rfl (fun ls hl => ?_)
            refine lv_aload_n hx hb dX1_fillTable_23 rfl (lv_at hl 1 rfl) ?_
            refine va_get (D := D) (ci := 1) (v := .ref ewn) (C := RX1) (T := TX1) (N := 14) hx hb hU inlX1 hown hK hP 0 rfl rfl 11 (by decide) (hU _ kf_RX1_34) (fun _ h9 => h9) rfl dX1_fillTable_24 ?_
            refine lv_iload_n hx hb dX1_fillTable_27 rfl (lv_at hl 2 rfl) ?_
            refine lv_iload_n hx hb dX1_fillTable_28 rfl (lv_at hl 0 rfl) ?_
            refine zr_if_eq (tgt := 65) hx hb dX1_fillTable_29 (by decide) (by omega) (fun c_7 => absurd c_7 (by decide)) (fun c_7 => ?_)
            have k1 := hV.2 0 (by omega)
            have k2 := hV.2 (i + 1) (by omega)
            have k3 := hU2 0 (i + 1) (by omega) (by omega)
            have k4 := mul_rg (a := pz) (b := U 0 (i + 1)) (A := 4) (B := 189) (by omega) k3
            refine lv_aload_n hx hb dX1_fillTable_32 rfl (lv_at hl 1 rfl) ?_
            refine va_get (D := D) (ci := 1) (v := .ref etp) (C := RX1) (T := TX1) (N := 14) hx hb hU inlX1 hown hK hP 0 rfl rfl 8 (by decide) (hU _ kf_RX1_28) (fun _ h9 => h9) rfl dX1_fillTable_33 ?_
            refine lv_iconst (v := iI 0) hx hb dX1_fillTable_36 rfl ?_
            refine zr_iald hx hb hK hP 6 0 rfl rfl 0 (by omega) (by omega) (Nat.le_of_ble_eq_true rfl) dX1_fillTable_37 ?_
            refine zr_rw (v := (v 0)) (htp 0 (by omega)) ?_
            refine lv_aload_n hx hb dX1_fillTable_38 rfl (lv_at hl 1 rfl) ?_
            refine va_get (D := D) (ci := 1) (v := .int (iI pl)) (C := RX1) (T := TX1) (N := 14) hx hb hU inlX1 hown hK hP 0 rfl rfl 12 (by decide) (hU _ kf_RX1_41) (fun _ h9 => h9) rfl dX1_fillTable_39 ?_
            refine zr_rw (v := pz) (hpl) ?_
            refine lv_aload_n hx hb dX1_fillTable_42 rfl (lv_at hl 1 rfl) ?_
            refine va_get (D := D) (ci := 1) (v := .ref ebt) (C := RX1) (T := TX1) (N := 14) hx hb hU inlX1 hown hK hP 0 rfl rfl 7 (by decide) (hU _ kf_RX1_25) (fun _ h9 => h9) rfl dX1_fillTable_43 ?_
            refine lv_iload_n hx hb dX1_fillTable_46 rfl (lv_at hl 2 rfl) ?_
            refine lv_iconst (v := iI 1) hx hb dX1_fillTable_47 rfl ?_
            refine zr_iadd hx hb dX1_fillTable_48 ?_
            refine zr_iald hx hb hK hP 5 0 rfl rfl (4 * 0 + (i + 1)) (by omega) (by omega) (Nat.le_of_ble_eq_true rfl) dX1_fillTable_49 ?_
            refine zr_rw (v := (U 0 (i + 1))) (hbt 0 (i + 1) (by omega) (by omega)) ?_
            refine zr_imul hx hb dX1_fillTable_50 ?_
            refine zr_iadd hx hb dX1_fillTable_51 ?_
            refine lv_aload_n hx hb dX1_fillTable_52 rfl (lv_at hl 1 rfl) ?_
            refine va_get (D := D) (ci := 1) (v := .ref etp) (C := RX1) (T := TX1) (N := 14) hx hb hU inlX1 hown hK hP 0 rfl rfl 8 (by decide) (hU _ kf_RX1_28) (fun _ h9 => h9) rfl dX1_fillTable_53 ?_
            refine lv_iload_n hx hb dX1_fillTable_56 rfl (lv_at hl 2 rfl) ?_
            refine lv_iconst (v := iI 1) hx hb dX1_fillTable_57 rfl ?_
            refine zr_iadd hx hb dX1_fillTable_58 ?_
            refine zr_iald hx hb hK hP 6 0 rfl rfl (i + 1) (by omega) (by omega) (Nat.le_of_ble_eq_true rfl) dX1_fillTable_59 ?_
            refine zr_rw (v := (v (i + 1))) (htp (i + 1) (by omega)) ?_
            refine zr_isub hx hb dX1_fillTable_60 ?_
            refine zr_i2l hx hb dX1_fillTable_61 (by omega) ?_
            refine lv_goto (tgt := 66) hx hb dX1_fillTable_62 (by decide) ?_
            refine zr_rwl (v := (kw U v pz L.length i)) (by unfold kw; rw [if_pos (by omega)]) ?_
            refine zr_last hx hb hK hP hD hS 8 1 rfl rfl i (by omega) (by omega) (Nat.le_of_ble_eq_true rfl) dX1_fillTable_66 (fun H locs hP hD hS => ?_)
            have hP : va_P D vwCl [(ea, .inr (1, [.ref ga, .ref elk, .int (iI cnt), .int (iI snd), .ref ept, .ref efr, .ref etk, .ref ebt, .ref etp, .int (iI wp), .ref etb, .ref ewn, .int (iI pl), .long (lI wh)])), (elk, .inl (cI, 4, .inl (aI lk))), (ept, .inl (cL, 4, .inr (.inl (aL pt)))), (efr, .inl (cI, 10, .inl (aI fr))), (etk, .inl (cI, 4, .inl (aI tk))), (ebt, .inl (cI, 16, .inl (aI bt))), (etp, .inl (cI, 4, .inl (aI tps))), (etb, .inl (cL, 9, .inr (.inl (aL tbl1)))), (ewn, .inl (cL, 3, .inr (.inl (aL (va_up wn1 i (kw U v pz L.length i)))))), (ga, .inr (2, [.int (iI (g 0)), .ref gx, .ref gy, .ref gz, .int (iI (g 1)), .int (iI (g 2)), .int (iI (g 3)), .int (iI (g 4)), .int (iI (g 5)), .int (iI (g 6)), .int (iI (g 7)), .int (iI (g 8)), .int (iI (g 9))])), (gx, .inl (cI, 10, .inl (aI (fun j => g (10 + 3 * j))))), (gy, .inl (cI, 10, .inl (aI (fun j => g (11 + 3 * j))))), (gz, .inl (cI, 10, .inl (aI (fun j => g (12 + 3 * j)))))] H := hP
            have hD : va_D A [(ea, .inr (1, [.ref ga, .ref elk, .int (iI cnt), .int (iI snd), .ref ept, .ref efr, .ref etk, .ref ebt, .ref etp, .int (iI wp), .ref etb, .ref ewn, .int (iI pl), .long (lI wh)])), (elk, .inl (cI, 4, .inl (aI lk))), (ept, .inl (cL, 4, .inr (.inl (aL pt)))), (efr, .inl (cI, 10, .inl (aI fr))), (etk, .inl (cI, 4, .inl (aI tk))), (ebt, .inl (cI, 16, .inl (aI bt))), (etp, .inl (cI, 4, .inl (aI tps))), (etb, .inl (cL, 9, .inr (.inl (aL tbl1)))), (ewn, .inl (cL, 3, .inr (.inl (aL (va_up wn1 i (kw U v pz L.length i)))))), (ga, .inr (2, [.int (iI (g 0)), .ref gx, .ref gy, .ref gz, .int (iI (g 1)), .int (iI (g 2)), .int (iI (g 3)), .int (iI (g 4)), .int (iI (g 5)), .int (iI (g 6)), .int (iI (g 7)), .int (iI (g 8)), .int (iI (g 9))])), (gx, .inl (cI, 10, .inl (aI (fun j => g (10 + 3 * j))))), (gy, .inl (cI, 10, .inl (aI (fun j => g (11 + 3 * j))))), (gz, .inl (cI, 10, .inl (aI (fun j => g (12 + 3 * j)))))] := hD
            refine lv_iconst (v := iI 0) hx hb dX1_fillTable_67 rfl ?_
            refine lv_istore_n (lv' := [(3, .int (iI 0)), (2, .int (iI 1)), (0, .ref ea), (1, .int (iI (i : Int)))]) hx hb dX1_fillTable_68 rfl hl (by decide) rfl (fun ls hl => ?_)
            have LPJ : ∀ (n : Nat), ∀ (j : Nat) (tbl2 : Nat → Int), (j ≤ 3) → (∀ a b : Nat, a < 3 → b < 3 → (a < i ∨ (a = i ∧ b < j)) → tbl2 (3 * a + b) = kB U L.length a b) → (3 < j + n) → ∀ (H : Heap) (locs : List Loc), va_P D vwCl [(ea, .inr (1, [.ref ga, .ref elk, .int (iI cnt), .int (iI snd), .ref ept, .ref efr, .ref etk, .ref ebt, .ref etp, .int (iI wp), .ref etb, .ref ewn, .int (iI pl), .long (lI wh)])), (elk, .inl (cI, 4, .inl (aI lk))), (ept, .inl (cL, 4, .inr (.inl (aL pt)))), (efr, .inl (cI, 10, .inl (aI fr))), (etk, .inl (cI, 4, .inl (aI tk))), (ebt, .inl (cI, 16, .inl (aI bt))), (etp, .inl (cI, 4, .inl (aI tps))), (etb, .inl (cL, 9, .inr (.inl (aL tbl2)))), (ewn, .inl (cL, 3, .inr (.inl (aL (va_up wn1 i (kw U v pz L.length i)))))), (ga, .inr (2, [.int (iI (g 0)), .ref gx, .ref gy, .ref gz, .int (iI (g 1)), .int (iI (g 2)), .int (iI (g 3)), .int (iI (g 4)), .int (iI (g 5)), .int (iI (g 6)), .int (iI (g 7)), .int (iI (g 8)), .int (iI (g 9))])), (gx, .inl (cI, 10, .inl (aI (fun j => g (10 + 3 * j))))), (gy, .inl (cI, 10, .inl (aI (fun j => g (11 + 3 * j))))), (gz, .inl (cI, 10, .inl (aI (fun j => g (12 + 3 * j)))))] H → va_D A [(ea, .inr (1, [.ref ga, .ref elk, .int (iI cnt), .int (iI snd), .ref ept, .ref efr, .ref etk, .ref ebt, .ref etp, .int (iI wp), .ref etb, .ref ewn, .int (iI pl), .long (lI wh)])), (elk, .inl (cI, 4, .inl (aI lk))), (ept, .inl (cL, 4, .inr (.inl (aL pt)))), (efr, .inl (cI, 10, .inl (aI fr))), (etk, .inl (cI, 4, .inl (aI tk))), (ebt, .inl (cI, 16, .inl (aI bt))), (etp, .inl (cI, 4, .inl (aI tps))), (etb, .inl (cL, 9, .inr (.inl (aL tbl2)))), (ewn, .inl (cL, 3, .inr (.inl (aL (va_up wn1 i (kw U v pz L.length i)))))), (ga, .inr (2, [.int (iI (g 0)), .ref gx, .ref gy, .ref gz, .int (iI (g 1)), .int (iI (g 2)), .int (iI (g 3)), .int (iI (g 4)), .int (iI (g 5)), .int (iI (g 6)), .int (iI (g 7)), .int (iI (g 8)), .int (iI (g 9))])), (gx, .inl (cI, 10, .inl (aI (fun j => g (10 + 3 * j))))), (gy, .inl (cI, 10, .inl (aI (fun j => g (11 + 3 * j))))), (gz, .inl (cI, 10, .inl (aI (fun j => g (12 + 3 * j)))))] → va_S A s.heap H locs → ∀ (ls : Array Slot), lv_has ls 4 [(0, .ref ea), (1, .int (iI (i : Int))), (2, .int (iI 1)), (3, .int (iI (j : Int)))] → W p l e (rmF 0 0) s m args below meth c H locs 0 0 Q (F0 m 69 ls []) := by
              intro n
              induction n with
              | zero =>
                intro j tbl2 hj ht2 hfu
                exfalso
                omega
              | succ n ih69 =>
                intro j tbl2 hj ht2 hfu H locs hP hD hS ls hl
                refine lv_iload_n hx hb dX1_fillTable_69 rfl (lv_at hl 3 rfl) ?_
                refine lv_iconst (v := iI 3) hx hb dX1_fillTable_70 rfl ?_
                refine zr_icmp_ge (tgt := 160) hx hb dX1_fillTable_71 (by decide) (by omega) (by omega) (fun c_8 => ?_) (fun c_8 => ?_)
                · skip
                  refine lv_iinc (v := iI ((i : Int) + 1)) (lv' := [(1, .int (iI ((i : Int) + 1))), (0, .ref ea), (2, .int (iI 1)), (3, .int (iI (j : Int)))]) hx hb dX1_fillTable_160 hl (k := 1) rfl (iI_add _ _) (by decide) rfl (fun ls hl => ?_)
                  refine lv_goto (tgt := 2) hx hb dX1_fillTable_163 (by decide) ?_
                  exact ih2 (i + 1) (va_up wn1 i (kw U v pz L.length i)) tbl2 (by omega) (fun a h => by rcases Nat.lt_or_ge a i with e | e; (rw [va_up_ne _ _ (by omega)]; exact hw1 a e); (rw [show a = i by omega, va_up_self])) (fun a b h1 h2 => ht2 a b (by omega) h2 (by omega)) (by omega) _ _ hP hD hS ls (lv_sub hl [1, 0] rfl)
                · skip
                  refine lv_iload_n hx hb dX1_fillTable_74 rfl (lv_at hl 2 rfl) ?_
                  refine zr_if_eq (tgt := 134) hx hb dX1_fillTable_75 (by decide) (by omega) (fun c_9 => absurd c_9 (by decide)) (fun c_9 => ?_)
                  refine lv_iload_n hx hb dX1_fillTable_78 rfl (lv_at hl 3 rfl) ?_
                  refine lv_iconst (v := iI 1) hx hb dX1_fillTable_79 rfl ?_
                  refine zr_iadd hx hb dX1_fillTable_80 ?_
                  refine lv_aload_n hx hb dX1_fillTable_81 rfl (lv_at hl 0 rfl) ?_
                  refine va_get (D := D) (ci := 1) (v := .int (iI cnt)) (C := RX1) (T := TX1) (N := 14) hx hb hU inlX1 hown hK hP 0 rfl rfl 2 (by decide) (hU _ kf_RX1_49) (fun _ h9 => h9) rfl dX1_fillTable_82 ?_
                  refine zr_icmp_ge (tgt := 134) hx hb dX1_fillTable_85 (by decide) (by omega) (by omega) (fun c_10 => ?_) (fun c_10 => ?_)
                  · skip
                    refine lv_aload_n hx hb dX1_fillTable_134 rfl (lv_at hl 0 rfl) ?_
                    refine va_get (D := D) (ci := 1) (v := .ref etb) (C := RX1) (T := TX1) (N := 14) hx hb hU inlX1 hown hK hP 0 rfl rfl 10 (by decide) (hU _ kf_RX1_31) (fun _ h9 => h9) rfl dX1_fillTable_135 ?_
                    refine lv_iload_n hx hb dX1_fillTable_138 rfl (lv_at hl 1 rfl) ?_
                    refine lv_iconst (v := iI 3) hx hb dX1_fillTable_139 rfl ?_
                    refine zr_imul hx hb dX1_fillTable_140 ?_
                    refine lv_iload_n hx hb dX1_fillTable_141 rfl (lv_at hl 3 rfl) ?_
                    refine zr_iadd hx hb dX1_fillTable_142 ?_
                    refine lv_iload_n hx hb dX1_fillTable_143 rfl (lv_at hl 1 rfl) ?_
                    refine lv_iload_n hx hb dX1_fillTable_144 rfl (lv_at hl 3 rfl) ?_
                    refine zr_icmp_ne (tgt := 152) hx hb dX1_fillTable_145 (by decide) (by omega) (by omega) (fun c_11 => ?_) (fun c_11 => ?_)
                    · skip
                      refine lv_lconst (v := lI 0) hx hb dX1_fillTable_152 rfl ?_
                      refine zr_rwl (v := (kB U L.length i j)) (by unfold kB; rw [if_neg (by omega), if_neg (by omega)]) ?_
                      refine zr_last hx hb hK hP hD hS 7 1 rfl rfl (3 * i + j) (by omega) (by omega) (Nat.le_of_ble_eq_true rfl) dX1_fillTable_153 (fun H locs hP hD hS => ?_)
                      have hP : va_P D vwCl [(ea, .inr (1, [.ref ga, .ref elk, .int (iI cnt), .int (iI snd), .ref ept, .ref efr, .ref etk, .ref ebt, .ref etp, .int (iI wp), .ref etb, .ref ewn, .int (iI pl), .long (lI wh)])), (elk, .inl (cI, 4, .inl (aI lk))), (ept, .inl (cL, 4, .inr (.inl (aL pt)))), (efr, .inl (cI, 10, .inl (aI fr))), (etk, .inl (cI, 4, .inl (aI tk))), (ebt, .inl (cI, 16, .inl (aI bt))), (etp, .inl (cI, 4, .inl (aI tps))), (etb, .inl (cL, 9, .inr (.inl (aL (va_up tbl2 (3 * i + j) (kB U L.length i j)))))), (ewn, .inl (cL, 3, .inr (.inl (aL (va_up wn1 i (kw U v pz L.length i)))))), (ga, .inr (2, [.int (iI (g 0)), .ref gx, .ref gy, .ref gz, .int (iI (g 1)), .int (iI (g 2)), .int (iI (g 3)), .int (iI (g 4)), .int (iI (g 5)), .int (iI (g 6)), .int (iI (g 7)), .int (iI (g 8)), .int (iI (g 9))])), (gx, .inl (cI, 10, .inl (aI (fun j => g (10 + 3 * j))))), (gy, .inl (cI, 10, .inl (aI (fun j => g (11 + 3 * j))))), (gz, .inl (cI, 10, .inl (aI (fun j => g (12 + 3 * j)))))] H := hP
                      have hD : va_D A [(ea, .inr (1, [.ref ga, .ref elk, .int (iI cnt), .int (iI snd), .ref ept, .ref efr, .ref etk, .ref ebt, .ref etp, .int (iI wp), .ref etb, .ref ewn, .int (iI pl), .long (lI wh)])), (elk, .inl (cI, 4, .inl (aI lk))), (ept, .inl (cL, 4, .inr (.inl (aL pt)))), (efr, .inl (cI, 10, .inl (aI fr))), (etk, .inl (cI, 4, .inl (aI tk))), (ebt, .inl (cI, 16, .inl (aI bt))), (etp, .inl (cI, 4, .inl (aI tps))), (etb, .inl (cL, 9, .inr (.inl (aL (va_up tbl2 (3 * i + j) (kB U L.length i j)))))), (ewn, .inl (cL, 3, .inr (.inl (aL (va_up wn1 i (kw U v pz L.length i)))))), (ga, .inr (2, [.int (iI (g 0)), .ref gx, .ref gy, .ref gz, .int (iI (g 1)), .int (iI (g 2)), .int (iI (g 3)), .int (iI (g 4)), .int (iI (g 5)), .int (iI (g 6)), .int (iI (g 7)), .int (iI (g 8)), .int (iI (g 9))])), (gx, .inl (cI, 10, .inl (aI (fun j => g (10 + 3 * j))))), (gy, .inl (cI, 10, .inl (aI (fun j => g (11 + 3 * j))))), (gz, .inl (cI, 10, .inl (aI (fun j => g (12 + 3 * j)))))] := hD
                      refine lv_iinc (v := iI ((j : Int) + 1)) (lv' := [(3, .int (iI ((j : Int) + 1))), (0, .ref ea), (1, .int (iI (i : Int))), (2, .int (iI 1))]) hx hb dX1_fillTable_154 hl (k := 3) rfl (iI_add _ _) (by decide) rfl (fun ls hl => ?_)
                      refine lv_goto (tgt := 69) hx hb dX1_fillTable_157 (by decide) ?_
                      exact ih69 (j + 1) (va_up tbl2 (3 * i + j) (kB U L.length i j)) (by omega) (fun a b h1 h2 h3 => by by_cases q : a = i ∧ b = j; (rw [q.1, q.2]; exact va_up_self _ _ _); (rw [va_up_ne _ _ (by omega)]; exact ht2 a b h1 h2 (by omega))) (by omega) _ _ hP hD hS ls (lv_sub hl [1, 2, 3, 0] rfl)
                    · skip
                      refine lv_lconst (v := lI 1) hx hb dX1_fillTable_148 rfl ?_
                      refine lv_goto (tgt := 153) hx hb dX1_fillTable_149 (by decide) ?_
                      refine zr_rwl (v := (kB U L.length i j)) (by unfold kB; rw [if_neg (by omega), if_pos (by omega)]) ?_
                      refine zr_last hx hb hK hP hD hS 7 1 rfl rfl (3 * i + j) (by omega) (by omega) (Nat.le_of_ble_eq_true rfl) dX1_fillTable_153 (fun H locs hP hD hS => ?_)
                      have hP : va_P D vwCl [(ea, .inr (1, [.ref ga, .ref elk, .int (iI cnt), .int (iI snd), .ref ept, .ref efr, .ref etk, .ref ebt, .ref etp, .int (iI wp), .ref etb, .ref ewn, .int (iI pl), .long (lI wh)])), (elk, .inl (cI, 4, .inl (aI lk))), (ept, .inl (cL, 4, .inr (.inl (aL pt)))), (efr, .inl (cI, 10, .inl (aI fr))), (etk, .inl (cI, 4, .inl (aI tk))), (ebt, .inl (cI, 16, .inl (aI bt))), (etp, .inl (cI, 4, .inl (aI tps))), (etb, .inl (cL, 9, .inr (.inl (aL (va_up tbl2 (3 * i + j) (kB U L.length i j)))))), (ewn, .inl (cL, 3, .inr (.inl (aL (va_up wn1 i (kw U v pz L.length i)))))), (ga, .inr (2, [.int (iI (g 0)), .ref gx, .ref gy, .ref gz, .int (iI (g 1)), .int (iI (g 2)), .int (iI (g 3)), .int (iI (g 4)), .int (iI (g 5)), .int (iI (g 6)), .int (iI (g 7)), .int (iI (g 8)), .int (iI (g 9))])), (gx, .inl (cI, 10, .inl (aI (fun j => g (10 + 3 * j))))), (gy, .inl (cI, 10, .inl (aI (fun j => g (11 + 3 * j))))), (gz, .inl (cI, 10, .inl (aI (fun j => g (12 + 3 * j)))))] H := hP
                      have hD : va_D A [(ea, .inr (1, [.ref ga, .ref elk, .int (iI cnt), .int (iI snd), .ref ept, .ref efr, .ref etk, .ref ebt, .ref etp, .int (iI wp), .ref etb, .ref ewn, .int (iI pl), .long (lI wh)])), (elk, .inl (cI, 4, .inl (aI lk))), (ept, .inl (cL, 4, .inr (.inl (aL pt)))), (efr, .inl (cI, 10, .inl (aI fr))), (etk, .inl (cI, 4, .inl (aI tk))), (ebt, .inl (cI, 16, .inl (aI bt))), (etp, .inl (cI, 4, .inl (aI tps))), (etb, .inl (cL, 9, .inr (.inl (aL (va_up tbl2 (3 * i + j) (kB U L.length i j)))))), (ewn, .inl (cL, 3, .inr (.inl (aL (va_up wn1 i (kw U v pz L.length i)))))), (ga, .inr (2, [.int (iI (g 0)), .ref gx, .ref gy, .ref gz, .int (iI (g 1)), .int (iI (g 2)), .int (iI (g 3)), .int (iI (g 4)), .int (iI (g 5)), .int (iI (g 6)), .int (iI (g 7)), .int (iI (g 8)), .int (iI (g 9))])), (gx, .inl (cI, 10, .inl (aI (fun j => g (10 + 3 * j))))), (gy, .inl (cI, 10, .inl (aI (fun j => g (11 + 3 * j))))), (gz, .inl (cI, 10, .inl (aI (fun j => g (12 + 3 * j)))))] := hD
                      refine lv_iinc (v := iI ((j : Int) + 1)) (lv' := [(3, .int (iI ((j : Int) + 1))), (0, .ref ea), (1, .int (iI (i : Int))), (2, .int (iI 1))]) hx hb dX1_fillTable_154 hl (k := 3) rfl (iI_add _ _) (by decide) rfl (fun ls hl => ?_)
                      refine lv_goto (tgt := 69) hx hb dX1_fillTable_157 (by decide) ?_
                      exact ih69 (j + 1) (va_up tbl2 (3 * i + j) (kB U L.length i j)) (by omega) (fun a b h1 h2 h3 => by by_cases q : a = i ∧ b = j; (rw [q.1, q.2]; exact va_up_self _ _ _); (rw [va_up_ne _ _ (by omega)]; exact ht2 a b h1 h2 (by omega))) (by omega) _ _ hP hD hS ls (lv_sub hl [1, 2, 3, 0] rfl)
                  · skip
                    have k3 := hU2 0 (i + 1) (by omega) (by omega)
                    have k5 := hU2 0 (j + 1) (by omega) (by omega)
                    have k6 := hU2 (i + 1) (j + 1) (by omega) (by omega)
                    refine lv_aload_n hx hb dX1_fillTable_88 rfl (lv_at hl 0 rfl) ?_
                    refine va_get (D := D) (ci := 1) (v := .ref etb) (C := RX1) (T := TX1) (N := 14) hx hb hU inlX1 hown hK hP 0 rfl rfl 10 (by decide) (hU _ kf_RX1_31) (fun _ h9 => h9) rfl dX1_fillTable_89 ?_
                    refine lv_iload_n hx hb dX1_fillTable_92 rfl (lv_at hl 1 rfl) ?_
                    refine lv_iconst (v := iI 3) hx hb dX1_fillTable_93 rfl ?_
                    refine zr_imul hx hb dX1_fillTable_94 ?_
                    refine lv_iload_n hx hb dX1_fillTable_95 rfl (lv_at hl 3 rfl) ?_
                    refine zr_iadd hx hb dX1_fillTable_96 ?_
                    refine lv_aload_n hx hb dX1_fillTable_97 rfl (lv_at hl 0 rfl) ?_
                    refine va_get (D := D) (ci := 1) (v := .ref ebt) (C := RX1) (T := TX1) (N := 14) hx hb hU inlX1 hown hK hP 0 rfl rfl 7 (by decide) (hU _ kf_RX1_25) (fun _ h9 => h9) rfl dX1_fillTable_98 ?_
                    refine lv_iload_n hx hb dX1_fillTable_101 rfl (lv_at hl 1 rfl) ?_
                    refine lv_iconst (v := iI 1) hx hb dX1_fillTable_102 rfl ?_
                    refine zr_iadd hx hb dX1_fillTable_103 ?_
                    refine zr_iald hx hb hK hP 5 0 rfl rfl (4 * 0 + (i + 1)) (by omega) (by omega) (Nat.le_of_ble_eq_true rfl) dX1_fillTable_104 ?_
                    refine zr_rw (v := (U 0 (i + 1))) (hbt 0 (i + 1) (by omega) (by omega)) ?_
                    refine lv_aload_n hx hb dX1_fillTable_105 rfl (lv_at hl 0 rfl) ?_
                    refine va_get (D := D) (ci := 1) (v := .ref ebt) (C := RX1) (T := TX1) (N := 14) hx hb hU inlX1 hown hK hP 0 rfl rfl 7 (by decide) (hU _ kf_RX1_25) (fun _ h9 => h9) rfl dX1_fillTable_106 ?_
                    refine lv_iload_n hx hb dX1_fillTable_109 rfl (lv_at hl 3 rfl) ?_
                    refine lv_iconst (v := iI 1) hx hb dX1_fillTable_110 rfl ?_
                    refine zr_iadd hx hb dX1_fillTable_111 ?_
                    refine zr_iald hx hb hK hP 5 0 rfl rfl (4 * 0 + (j + 1)) (by omega) (by omega) (Nat.le_of_ble_eq_true rfl) dX1_fillTable_112 ?_
                    refine zr_rw (v := (U 0 (j + 1))) (hbt 0 (j + 1) (by omega) (by omega)) ?_
                    refine zr_iadd hx hb dX1_fillTable_113 ?_
                    refine lv_aload_n hx hb dX1_fillTable_114 rfl (lv_at hl 0 rfl) ?_
                    refine va_get (D := D) (ci := 1) (v := .ref ebt) (C := RX1) (T := TX1) (N := 14) hx hb hU inlX1 hown hK hP 0 rfl rfl 7 (by decide) (hU _ kf_RX1_25) (fun _ h9 => h9) rfl dX1_fillTable_115 ?_
                    refine lv_iload_n hx hb dX1_fillTable_118 rfl (lv_at hl 1 rfl) ?_
                    refine lv_iconst (v := iI 1) hx hb dX1_fillTable_119 rfl ?_
                    refine zr_iadd hx hb dX1_fillTable_120 ?_
                    refine lv_iconst (v := iI 4) hx hb dX1_fillTable_121 rfl ?_
                    refine zr_imul hx hb dX1_fillTable_122 ?_
                    refine lv_iload_n hx hb dX1_fillTable_123 rfl (lv_at hl 3 rfl) ?_
                    refine zr_iadd hx hb dX1_fillTable_124 ?_
                    refine lv_iconst (v := iI 1) hx hb dX1_fillTable_125 rfl ?_
                    refine zr_iadd hx hb dX1_fillTable_126 ?_
                    refine zr_iald hx hb hK hP 5 0 rfl rfl (4 * (i + 1) + (j + 1)) (by omega) (by omega) (Nat.le_of_ble_eq_true rfl) dX1_fillTable_127 ?_
                    refine zr_rw (v := (U (i + 1) (j + 1))) (hbt (i + 1) (j + 1) (by omega) (by omega)) ?_
                    refine zr_isub hx hb dX1_fillTable_128 ?_
                    refine zr_i2l hx hb dX1_fillTable_129 (by omega) ?_
                    refine zr_rwl (v := (kB U L.length i j)) (by unfold kB; rw [if_pos (by omega)]) ?_
                    refine zr_last hx hb hK hP hD hS 7 1 rfl rfl (3 * i + j) (by omega) (by omega) (Nat.le_of_ble_eq_true rfl) dX1_fillTable_130 (fun H locs hP hD hS => ?_)
                    have hP : va_P D vwCl [(ea, .inr (1, [.ref ga, .ref elk, .int (iI cnt), .int (iI snd), .ref ept, .ref efr, .ref etk, .ref ebt, .ref etp, .int (iI wp), .ref etb, .ref ewn, .int (iI pl), .long (lI wh)])), (elk, .inl (cI, 4, .inl (aI lk))), (ept, .inl (cL, 4, .inr (.inl (aL pt)))), (efr, .inl (cI, 10, .inl (aI fr))), (etk, .inl (cI, 4, .inl (aI tk))), (ebt, .inl (cI, 16, .inl (aI bt))), (etp, .inl (cI, 4, .inl (aI tps))), (etb, .inl (cL, 9, .inr (.inl (aL (va_up tbl2 (3 * i + j) (kB U L.length i j)))))), (ewn, .inl (cL, 3, .inr (.inl (aL (va_up wn1 i (kw U v pz L.length i)))))), (ga, .inr (2, [.int (iI (g 0)), .ref gx, .ref gy, .ref gz, .int (iI (g 1)), .int (iI (g 2)), .int (iI (g 3)), .int (iI (g 4)), .int (iI (g 5)), .int (iI (g 6)), .int (iI (g 7)), .int (iI (g 8)), .int (iI (g 9))])), (gx, .inl (cI, 10, .inl (aI (fun j => g (10 + 3 * j))))), (gy, .inl (cI, 10, .inl (aI (fun j => g (11 + 3 * j))))), (gz, .inl (cI, 10, .inl (aI (fun j => g (12 + 3 * j)))))] H := hP
                    have hD : va_D A [(ea, .inr (1, [.ref ga, .ref elk, .int (iI cnt), .int (iI snd), .ref ept, .ref efr, .ref etk, .ref ebt, .ref etp, .int (iI wp), .ref etb, .ref ewn, .int (iI pl), .long (lI wh)])), (elk, .inl (cI, 4, .inl (aI lk))), (ept, .inl (cL, 4, .inr (.inl (aL pt)))), (efr, .inl (cI, 10, .inl (aI fr))), (etk, .inl (cI, 4, .inl (aI tk))), (ebt, .inl (cI, 16, .inl (aI bt))), (etp, .inl (cI, 4, .inl (aI tps))), (etb, .inl (cL, 9, .inr (.inl (aL (va_up tbl2 (3 * i + j) (kB U L.length i j)))))), (ewn, .inl (cL, 3, .inr (.inl (aL (va_up wn1 i (kw U v pz L.length i)))))), (ga, .inr (2, [.int (iI (g 0)), .ref gx, .ref gy, .ref gz, .int (iI (g 1)), .int (iI (g 2)), .int (iI (g 3)), .int (iI (g 4)), .int (iI (g 5)), .int (iI (g 6)), .int (iI (g 7)), .int (iI (g 8)), .int (iI (g 9))])), (gx, .inl (cI, 10, .inl (aI (fun j => g (10 + 3 * j))))), (gy, .inl (cI, 10, .inl (aI (fun j => g (11 + 3 * j))))), (gz, .inl (cI, 10, .inl (aI (fun j => g (12 + 3 * j)))))] := hD
                    refine lv_goto (tgt := 154) hx hb dX1_fillTable_131 (by decide) ?_
                    refine lv_iinc (v := iI ((j : Int) + 1)) (lv' := [(3, .int (iI ((j : Int) + 1))), (0, .ref ea), (1, .int (iI (i : Int))), (2, .int (iI 1))]) hx hb dX1_fillTable_154 hl (k := 3) rfl (iI_add _ _) (by decide) rfl (fun ls hl => ?_)
                    refine lv_goto (tgt := 69) hx hb dX1_fillTable_157 (by decide) ?_
                    exact ih69 (j + 1) (va_up tbl2 (3 * i + j) (kB U L.length i j)) (by omega) (fun a b h1 h2 h3 => by by_cases q : a = i ∧ b = j; (rw [q.1, q.2]; exact va_up_self _ _ _); (rw [va_up_ne _ _ (by omega)]; exact ht2 a b h1 h2 (by omega))) (by omega) _ _ hP hD hS ls (lv_sub hl [1, 2, 3, 0] rfl)
            exact LPJ 4 0 tbl1 (by omega) (fun a b h1 h2 h3 => ht1 a b (by omega) h2) (by omega) _ _ hP hD hS ls (lv_sub hl [2, 3, 1, 0] rfl)
    exact LP2 4 0 wn tbl (by omega) (fun a h => absurd h (Nat.not_lt_zero a)) (fun a b h => absurd h (Nat.not_lt_zero a)) (by omega) _ _ hP hD hS ls (lv_sub hl [1, 0] rfl)
  rw [hlocs]
  exact hW0 s.heap [] hP hD hS

set_option maxHeartbeats 4000000 in
set_option maxRecDepth 100000 in
theorem c_X1_cofactor (l : Launch) (D : va_G) (cI cL cG cM : ClassId) (ea elk ept efr etk ebt etp etb ewn ga gx gy gz : Nat) (lk : Nat → Int) (cnt : Int) (snd : Int) (pt : Nat → Int) (fr : Nat → Int) (tk : Nat → Int) (bt : Nat → Int) (tps : Nat → Int) (wp : Int) (tbl : Nat → Int) (wn : Nat → Int) (pl : Int) (wh : Int) (g : Nat → Int) (rr : Nat) (cc : Nat) (B : Nat → Nat → Int) (hr3 : rr < 3) (hc3 : cc < 3) (hB : ∀ i j : Nat, i < 3 → j < 3 → tbl (3 * i + j) = B i j) : Met l yX1_cofactor (wU yX1_cofactor cX1_cofactor 9 (some .long)) (rmF 0 0) (pcR D (tyA cI cL cG cM) [(ea, .inr (1, [.ref ga, .ref elk, .int (iI cnt), .int (iI snd), .ref ept, .ref efr, .ref etk, .ref ebt, .ref etp, .int (iI wp), .ref etb, .ref ewn, .int (iI pl), .long (lI wh)])), (elk, .inl (cI, 4, .inl (aI lk))), (ept, .inl (cL, 4, .inr (.inl (aL pt)))), (efr, .inl (cI, 10, .inl (aI fr))), (etk, .inl (cI, 4, .inl (aI tk))), (ebt, .inl (cI, 16, .inl (aI bt))), (etp, .inl (cI, 4, .inl (aI tps))), (etb, .inl (cL, 9, .inr (.inl (aL tbl)))), (ewn, .inl (cL, 3, .inr (.inl (aL wn)))), (ga, .inr (2, [.int (iI (g 0)), .ref gx, .ref gy, .ref gz, .int (iI (g 1)), .int (iI (g 2)), .int (iI (g 3)), .int (iI (g 4)), .int (iI (g 5)), .int (iI (g 6)), .int (iI (g 7)), .int (iI (g 8)), .int (iI (g 9))])), (gx, .inl (cI, 10, .inl (aI (fun j => g (10 + 3 * j))))), (gy, .inl (cI, 10, .inl (aI (fun j => g (11 + 3 * j))))), (gz, .inl (cI, 10, .inl (aI (fun j => g (12 + 3 * j)))))] [.ref ea, .int (iI (rr : Int)), .int (iI (cc : Int))]) (qRl (kN B rr cc)) 0 0 (fun _ => False) := by
  refine zm_R (own := RX1) (lv := [(0, .ref ea), (1, .int (iI (rr : Int))), (2, .int (iI (cc : Int)))]) (by decide) rfl (Nat.le_of_ble_eq_true rfl) rfl ?_
  intro p e s m below meth c args Q hx hb hr hml hown hU hlk hP hK hNst hQ ls hl
  rcases (show rr = 0 ∨ rr = 1 ∨ rr = 2 by omega) with rfl | rfl | rfl
  · skip
    refine lv_iload_n hx hb dX1_cofactor_0 rfl (lv_at hl 1 rfl) ?_
    rcases (show cc = 0 ∨ cc = 1 ∨ cc = 2 by omega) with rfl | rfl | rfl
    · skip
      refine zr_if_ne (tgt := 8) hx hb dX1_cofactor_1 (by decide) (by omega) (fun c_1 => absurd c_1 (by decide)) (fun c_1 => ?_)
      refine lv_iconst (v := iI 1) hx hb dX1_cofactor_4 rfl ?_
      refine lv_goto (tgt := 9) hx hb dX1_cofactor_5 (by decide) ?_
      refine lv_iconst (v := iI 3) hx hb dX1_cofactor_9 rfl ?_
      refine zr_imul hx hb dX1_cofactor_10 ?_
      refine lv_istore_n (lv' := [(3, .int (iI (1 * 3))), (0, .ref ea), (1, .int (iI 0)), (2, .int (iI 0))]) hx hb dX1_cofactor_11 rfl hl (by decide) rfl (fun ls hl => ?_)
      refine lv_iload_n hx hb dX1_cofactor_12 rfl (lv_at hl 2 rfl) ?_
      refine lv_iconst (v := iI 2) hx hb dX1_cofactor_13 rfl ?_
      refine zr_icmp_ne (tgt := 21) hx hb dX1_cofactor_14 (by decide) (by omega) (by omega) (fun c_2 => ?_) (fun c_2 => absurd c_2 (by decide))
      refine lv_iconst (v := iI 2) hx hb dX1_cofactor_21 rfl ?_
      refine lv_iconst (v := iI 3) hx hb dX1_cofactor_22 rfl ?_
      refine zr_imul hx hb dX1_cofactor_23 ?_
      refine lv_istore (lv' := [(4, .int (iI (2 * 3))), (3, .int (iI (1 * 3))), (0, .ref ea), (1, .int (iI 0)), (2, .int (iI 0))]) hx hb dX1_cofactor_24 hl (by decide) rfl (fun ls hl => ?_)
      refine lv_iload_n hx hb dX1_cofactor_26 rfl (lv_at hl 4 rfl) ?_
      refine zr_if_ne (tgt := 34) hx hb dX1_cofactor_27 (by decide) (by omega) (fun c_3 => absurd c_3 (by decide)) (fun c_3 => ?_)
      refine lv_iconst (v := iI 1) hx hb dX1_cofactor_30 rfl ?_
      refine lv_goto (tgt := 35) hx hb dX1_cofactor_31 (by decide) ?_
      refine lv_istore (lv' := [(5, .int (iI 1)), (4, .int (iI (2 * 3))), (3, .int (iI (1 * 3))), (0, .ref ea), (1, .int (iI 0)), (2, .int (iI 0))]) hx hb dX1_cofactor_35 hl (by decide) rfl (fun ls hl => ?_)
      refine lv_iload_n hx hb dX1_cofactor_37 rfl (lv_at hl 5 rfl) ?_
      refine lv_iconst (v := iI 2) hx hb dX1_cofactor_38 rfl ?_
      refine zr_icmp_ne (tgt := 46) hx hb dX1_cofactor_39 (by decide) (by omega) (by omega) (fun c_4 => ?_) (fun c_4 => absurd c_4 (by decide))
      refine lv_iconst (v := iI 2) hx hb dX1_cofactor_46 rfl ?_
      refine lv_istore (lv' := [(6, .int (iI 2)), (5, .int (iI 1)), (4, .int (iI (2 * 3))), (3, .int (iI (1 * 3))), (0, .ref ea), (1, .int (iI 0)), (2, .int (iI 0))]) hx hb dX1_cofactor_47 hl (by decide) rfl (fun ls hl => ?_)
      refine lv_aload_n hx hb dX1_cofactor_49 rfl (lv_at hl 4 rfl) ?_
      refine va_get (D := D) (ci := 1) (v := .ref etb) (C := RX1) (T := TX1) (N := 14) hx hb hU inlX1 hown hK hP 0 rfl rfl 10 (by decide) (hU _ kf_RX1_31) (fun _ h9 => h9) rfl dX1_cofactor_50 ?_
      refine lv_iload_n hx hb dX1_cofactor_53 rfl (lv_at hl 3 rfl) ?_
      refine lv_iload hx hb dX1_cofactor_54 (lv_at hl 1 rfl) ?_
      refine zr_iadd hx hb dX1_cofactor_56 ?_
      refine zr_lald hx hb hK hP 7 1 rfl rfl (3 * 1 + 1) (by omega) (by omega) (Nat.le_of_ble_eq_true rfl) dX1_cofactor_57 ?_
      refine zr_rwl (v := (B 1 1)) (hB 1 1 (by omega) (by omega)) ?_
      refine lv_aload_n hx hb dX1_cofactor_58 rfl (lv_at hl 4 rfl) ?_
      refine va_get (D := D) (ci := 1) (v := .ref etb) (C := RX1) (T := TX1) (N := 14) hx hb hU inlX1 hown hK hP 0 rfl rfl 10 (by decide) (hU _ kf_RX1_31) (fun _ h9 => h9) rfl dX1_cofactor_59 ?_
      refine lv_iload hx hb dX1_cofactor_62 (lv_at hl 2 rfl) ?_
      refine lv_iload hx hb dX1_cofactor_64 (lv_at hl 0 rfl) ?_
      refine zr_iadd hx hb dX1_cofactor_66 ?_
      refine zr_lald hx hb hK hP 7 1 rfl rfl (3 * 2 + 2) (by omega) (by omega) (Nat.le_of_ble_eq_true rfl) dX1_cofactor_67 ?_
      refine zr_rwl (v := (B 2 2)) (hB 2 2 (by omega) (by omega)) ?_
      refine zr_lmul hx hb dX1_cofactor_68 ?_
      refine lv_aload_n hx hb dX1_cofactor_69 rfl (lv_at hl 4 rfl) ?_
      refine va_get (D := D) (ci := 1) (v := .ref etb) (C := RX1) (T := TX1) (N := 14) hx hb hU inlX1 hown hK hP 0 rfl rfl 10 (by decide) (hU _ kf_RX1_31) (fun _ h9 => h9) rfl dX1_cofactor_70 ?_
      refine lv_iload_n hx hb dX1_cofactor_73 rfl (lv_at hl 3 rfl) ?_
      refine lv_iload hx hb dX1_cofactor_74 (lv_at hl 0 rfl) ?_
      refine zr_iadd hx hb dX1_cofactor_76 ?_
      refine zr_lald hx hb hK hP 7 1 rfl rfl (3 * 1 + 2) (by omega) (by omega) (Nat.le_of_ble_eq_true rfl) dX1_cofactor_77 ?_
      refine zr_rwl (v := (B 1 2)) (hB 1 2 (by omega) (by omega)) ?_
      refine lv_aload_n hx hb dX1_cofactor_78 rfl (lv_at hl 4 rfl) ?_
      refine va_get (D := D) (ci := 1) (v := .ref etb) (C := RX1) (T := TX1) (N := 14) hx hb hU inlX1 hown hK hP 0 rfl rfl 10 (by decide) (hU _ kf_RX1_31) (fun _ h9 => h9) rfl dX1_cofactor_79 ?_
      refine lv_iload hx hb dX1_cofactor_82 (lv_at hl 2 rfl) ?_
      refine lv_iload hx hb dX1_cofactor_84 (lv_at hl 1 rfl) ?_
      refine zr_iadd hx hb dX1_cofactor_86 ?_
      refine zr_lald hx hb hK hP 7 1 rfl rfl (3 * 2 + 1) (by omega) (by omega) (Nat.le_of_ble_eq_true rfl) dX1_cofactor_87 ?_
      refine zr_rwl (v := (B 2 1)) (hB 2 1 (by omega) (by omega)) ?_
      refine zr_lmul hx hb dX1_cofactor_88 ?_
      refine zr_lsub hx hb dX1_cofactor_89 ?_
      refine lv_lstore (lv' := [(7, .long (lI (((B 1 1) * (B 2 2)) - ((B 1 2) * (B 2 1))))), (6, .int (iI 2)), (5, .int (iI 1)), (4, .int (iI (2 * 3))), (3, .int (iI (1 * 3))), (0, .ref ea), (1, .int (iI 0)), (2, .int (iI 0))]) hx hb dX1_cofactor_90 hl (by decide) rfl (fun ls hl => ?_)
      refine lv_iload_n hx hb dX1_cofactor_92 rfl (lv_at hl 6 rfl) ?_
      refine lv_iload_n hx hb dX1_cofactor_93 rfl (lv_at hl 7 rfl) ?_
      refine zr_iadd hx hb dX1_cofactor_94 ?_
      refine lv_iconst (v := iI 1) hx hb dX1_cofactor_95 rfl ?_
      refine lv_iand hx hb dX1_cofactor_96 ?_
      refine zr_bti (z := 0) (by decide) ?_
      refine zr_if_ne (tgt := 105) hx hb dX1_cofactor_97 (by decide) (by omega) (fun c_5 => absurd c_5 (by decide)) (fun c_5 => ?_)
      refine lv_lload hx hb dX1_cofactor_100 (lv_at hl 0 rfl) ?_
      refine lv_goto (tgt := 108) hx hb dX1_cofactor_102 (by decide) ?_
      rw [hQ]
      exact ze_Rl hx hb hr hlk dX1_cofactor_108 (rfl)
    · skip
      refine zr_if_ne (tgt := 8) hx hb dX1_cofactor_1 (by decide) (by omega) (fun c_6 => absurd c_6 (by decide)) (fun c_6 => ?_)
      refine lv_iconst (v := iI 1) hx hb dX1_cofactor_4 rfl ?_
      refine lv_goto (tgt := 9) hx hb dX1_cofactor_5 (by decide) ?_
      refine lv_iconst (v := iI 3) hx hb dX1_cofactor_9 rfl ?_
      refine zr_imul hx hb dX1_cofactor_10 ?_
      refine lv_istore_n (lv' := [(3, .int (iI (1 * 3))), (0, .ref ea), (1, .int (iI 0)), (2, .int (iI 1))]) hx hb dX1_cofactor_11 rfl hl (by decide) rfl (fun ls hl => ?_)
      refine lv_iload_n hx hb dX1_cofactor_12 rfl (lv_at hl 2 rfl) ?_
      refine lv_iconst (v := iI 2) hx hb dX1_cofactor_13 rfl ?_
      refine zr_icmp_ne (tgt := 21) hx hb dX1_cofactor_14 (by decide) (by omega) (by omega) (fun c_7 => ?_) (fun c_7 => absurd c_7 (by decide))
      refine lv_iconst (v := iI 2) hx hb dX1_cofactor_21 rfl ?_
      refine lv_iconst (v := iI 3) hx hb dX1_cofactor_22 rfl ?_
      refine zr_imul hx hb dX1_cofactor_23 ?_
      refine lv_istore (lv' := [(4, .int (iI (2 * 3))), (3, .int (iI (1 * 3))), (0, .ref ea), (1, .int (iI 0)), (2, .int (iI 1))]) hx hb dX1_cofactor_24 hl (by decide) rfl (fun ls hl => ?_)
      refine lv_iload_n hx hb dX1_cofactor_26 rfl (lv_at hl 4 rfl) ?_
      refine zr_if_ne (tgt := 34) hx hb dX1_cofactor_27 (by decide) (by omega) (fun c_8 => ?_) (fun c_8 => absurd c_8 (by decide))
      refine lv_iconst (v := iI 0) hx hb dX1_cofactor_34 rfl ?_
      refine lv_istore (lv' := [(5, .int (iI 0)), (4, .int (iI (2 * 3))), (3, .int (iI (1 * 3))), (0, .ref ea), (1, .int (iI 0)), (2, .int (iI 1))]) hx hb dX1_cofactor_35 hl (by decide) rfl (fun ls hl => ?_)
      refine lv_iload_n hx hb dX1_cofactor_37 rfl (lv_at hl 5 rfl) ?_
      refine lv_iconst (v := iI 2) hx hb dX1_cofactor_38 rfl ?_
      refine zr_icmp_ne (tgt := 46) hx hb dX1_cofactor_39 (by decide) (by omega) (by omega) (fun c_9 => ?_) (fun c_9 => absurd c_9 (by decide))
      refine lv_iconst (v := iI 2) hx hb dX1_cofactor_46 rfl ?_
      refine lv_istore (lv' := [(6, .int (iI 2)), (5, .int (iI 0)), (4, .int (iI (2 * 3))), (3, .int (iI (1 * 3))), (0, .ref ea), (1, .int (iI 0)), (2, .int (iI 1))]) hx hb dX1_cofactor_47 hl (by decide) rfl (fun ls hl => ?_)
      refine lv_aload_n hx hb dX1_cofactor_49 rfl (lv_at hl 4 rfl) ?_
      refine va_get (D := D) (ci := 1) (v := .ref etb) (C := RX1) (T := TX1) (N := 14) hx hb hU inlX1 hown hK hP 0 rfl rfl 10 (by decide) (hU _ kf_RX1_31) (fun _ h9 => h9) rfl dX1_cofactor_50 ?_
      refine lv_iload_n hx hb dX1_cofactor_53 rfl (lv_at hl 3 rfl) ?_
      refine lv_iload hx hb dX1_cofactor_54 (lv_at hl 1 rfl) ?_
      refine zr_iadd hx hb dX1_cofactor_56 ?_
      refine zr_lald hx hb hK hP 7 1 rfl rfl (3 * 1 + 0) (by omega) (by omega) (Nat.le_of_ble_eq_true rfl) dX1_cofactor_57 ?_
      refine zr_rwl (v := (B 1 0)) (hB 1 0 (by omega) (by omega)) ?_
      refine lv_aload_n hx hb dX1_cofactor_58 rfl (lv_at hl 4 rfl) ?_
      refine va_get (D := D) (ci := 1) (v := .ref etb) (C := RX1) (T := TX1) (N := 14) hx hb hU inlX1 hown hK hP 0 rfl rfl 10 (by decide) (hU _ kf_RX1_31) (fun _ h9 => h9) rfl dX1_cofactor_59 ?_
      refine lv_iload hx hb dX1_cofactor_62 (lv_at hl 2 rfl) ?_
      refine lv_iload hx hb dX1_cofactor_64 (lv_at hl 0 rfl) ?_
      refine zr_iadd hx hb dX1_cofactor_66 ?_
      refine zr_lald hx hb hK hP 7 1 rfl rfl (3 * 2 + 2) (by omega) (by omega) (Nat.le_of_ble_eq_true rfl) dX1_cofactor_67 ?_
      refine zr_rwl (v := (B 2 2)) (hB 2 2 (by omega) (by omega)) ?_
      refine zr_lmul hx hb dX1_cofactor_68 ?_
      refine lv_aload_n hx hb dX1_cofactor_69 rfl (lv_at hl 4 rfl) ?_
      refine va_get (D := D) (ci := 1) (v := .ref etb) (C := RX1) (T := TX1) (N := 14) hx hb hU inlX1 hown hK hP 0 rfl rfl 10 (by decide) (hU _ kf_RX1_31) (fun _ h9 => h9) rfl dX1_cofactor_70 ?_
      refine lv_iload_n hx hb dX1_cofactor_73 rfl (lv_at hl 3 rfl) ?_
      refine lv_iload hx hb dX1_cofactor_74 (lv_at hl 0 rfl) ?_
      refine zr_iadd hx hb dX1_cofactor_76 ?_
      refine zr_lald hx hb hK hP 7 1 rfl rfl (3 * 1 + 2) (by omega) (by omega) (Nat.le_of_ble_eq_true rfl) dX1_cofactor_77 ?_
      refine zr_rwl (v := (B 1 2)) (hB 1 2 (by omega) (by omega)) ?_
      refine lv_aload_n hx hb dX1_cofactor_78 rfl (lv_at hl 4 rfl) ?_
      refine va_get (D := D) (ci := 1) (v := .ref etb) (C := RX1) (T := TX1) (N := 14) hx hb hU inlX1 hown hK hP 0 rfl rfl 10 (by decide) (hU _ kf_RX1_31) (fun _ h9 => h9) rfl dX1_cofactor_79 ?_
      refine lv_iload hx hb dX1_cofactor_82 (lv_at hl 2 rfl) ?_
      refine lv_iload hx hb dX1_cofactor_84 (lv_at hl 1 rfl) ?_
      refine zr_iadd hx hb dX1_cofactor_86 ?_
      refine zr_lald hx hb hK hP 7 1 rfl rfl (3 * 2 + 0) (by omega) (by omega) (Nat.le_of_ble_eq_true rfl) dX1_cofactor_87 ?_
      refine zr_rwl (v := (B 2 0)) (hB 2 0 (by omega) (by omega)) ?_
      refine zr_lmul hx hb dX1_cofactor_88 ?_
      refine zr_lsub hx hb dX1_cofactor_89 ?_
      refine lv_lstore (lv' := [(7, .long (lI (((B 1 0) * (B 2 2)) - ((B 1 2) * (B 2 0))))), (6, .int (iI 2)), (5, .int (iI 0)), (4, .int (iI (2 * 3))), (3, .int (iI (1 * 3))), (0, .ref ea), (1, .int (iI 0)), (2, .int (iI 1))]) hx hb dX1_cofactor_90 hl (by decide) rfl (fun ls hl => ?_)
      refine lv_iload_n hx hb dX1_cofactor_92 rfl (lv_at hl 6 rfl) ?_
      refine lv_iload_n hx hb dX1_cofactor_93 rfl (lv_at hl 7 rfl) ?_
      refine zr_iadd hx hb dX1_cofactor_94 ?_
      refine lv_iconst (v := iI 1) hx hb dX1_cofactor_95 rfl ?_
      refine lv_iand hx hb dX1_cofactor_96 ?_
      refine zr_bti (z := 1) (by decide) ?_
      refine zr_if_ne (tgt := 105) hx hb dX1_cofactor_97 (by decide) (by omega) (fun c_10 => ?_) (fun c_10 => absurd c_10 (by decide))
      refine lv_lload hx hb dX1_cofactor_105 (lv_at hl 0 rfl) ?_
      refine zr_lneg hx hb dX1_cofactor_107 ?_
      rw [hQ]
      exact ze_Rl hx hb hr hlk dX1_cofactor_108 (rfl)
    · skip
      refine zr_if_ne (tgt := 8) hx hb dX1_cofactor_1 (by decide) (by omega) (fun c_11 => absurd c_11 (by decide)) (fun c_11 => ?_)
      refine lv_iconst (v := iI 1) hx hb dX1_cofactor_4 rfl ?_
      refine lv_goto (tgt := 9) hx hb dX1_cofactor_5 (by decide) ?_
      refine lv_iconst (v := iI 3) hx hb dX1_cofactor_9 rfl ?_
      refine zr_imul hx hb dX1_cofactor_10 ?_
      refine lv_istore_n (lv' := [(3, .int (iI (1 * 3))), (0, .ref ea), (1, .int (iI 0)), (2, .int (iI 2))]) hx hb dX1_cofactor_11 rfl hl (by decide) rfl (fun ls hl => ?_)
      refine lv_iload_n hx hb dX1_cofactor_12 rfl (lv_at hl 2 rfl) ?_
      refine lv_iconst (v := iI 2) hx hb dX1_cofactor_13 rfl ?_
      refine zr_icmp_ne (tgt := 21) hx hb dX1_cofactor_14 (by decide) (by omega) (by omega) (fun c_12 => ?_) (fun c_12 => absurd c_12 (by decide))
      refine lv_iconst (v := iI 2) hx hb dX1_cofactor_21 rfl ?_
      refine lv_iconst (v := iI 3) hx hb dX1_cofactor_22 rfl ?_
      refine zr_imul hx hb dX1_cofactor_23 ?_
      refine lv_istore (lv' := [(4, .int (iI (2 * 3))), (3, .int (iI (1 * 3))), (0, .ref ea), (1, .int (iI 0)), (2, .int (iI 2))]) hx hb dX1_cofactor_24 hl (by decide) rfl (fun ls hl => ?_)
      refine lv_iload_n hx hb dX1_cofactor_26 rfl (lv_at hl 4 rfl) ?_
      refine zr_if_ne (tgt := 34) hx hb dX1_cofactor_27 (by decide) (by omega) (fun c_13 => ?_) (fun c_13 => absurd c_13 (by decide))
      refine lv_iconst (v := iI 0) hx hb dX1_cofactor_34 rfl ?_
      refine lv_istore (lv' := [(5, .int (iI 0)), (4, .int (iI (2 * 3))), (3, .int (iI (1 * 3))), (0, .ref ea), (1, .int (iI 0)), (2, .int (iI 2))]) hx hb dX1_cofactor_35 hl (by decide) rfl (fun ls hl => ?_)
      refine lv_iload_n hx hb dX1_cofactor_37 rfl (lv_at hl 5 rfl) ?_
      refine lv_iconst (v := iI 2) hx hb dX1_cofactor_38 rfl ?_
      refine zr_icmp_ne (tgt := 46) hx hb dX1_cofactor_39 (by decide) (by omega) (by omega) (fun c_14 => absurd c_14 (by decide)) (fun c_14 => ?_)
      refine lv_iconst (v := iI 1) hx hb dX1_cofactor_42 rfl ?_
      refine lv_goto (tgt := 47) hx hb dX1_cofactor_43 (by decide) ?_
      refine lv_istore (lv' := [(6, .int (iI 1)), (5, .int (iI 0)), (4, .int (iI (2 * 3))), (3, .int (iI (1 * 3))), (0, .ref ea), (1, .int (iI 0)), (2, .int (iI 2))]) hx hb dX1_cofactor_47 hl (by decide) rfl (fun ls hl => ?_)
      refine lv_aload_n hx hb dX1_cofactor_49 rfl (lv_at hl 4 rfl) ?_
      refine va_get (D := D) (ci := 1) (v := .ref etb) (C := RX1) (T := TX1) (N := 14) hx hb hU inlX1 hown hK hP 0 rfl rfl 10 (by decide) (hU _ kf_RX1_31) (fun _ h9 => h9) rfl dX1_cofactor_50 ?_
      refine lv_iload_n hx hb dX1_cofactor_53 rfl (lv_at hl 3 rfl) ?_
      refine lv_iload hx hb dX1_cofactor_54 (lv_at hl 1 rfl) ?_
      refine zr_iadd hx hb dX1_cofactor_56 ?_
      refine zr_lald hx hb hK hP 7 1 rfl rfl (3 * 1 + 0) (by omega) (by omega) (Nat.le_of_ble_eq_true rfl) dX1_cofactor_57 ?_
      refine zr_rwl (v := (B 1 0)) (hB 1 0 (by omega) (by omega)) ?_
      refine lv_aload_n hx hb dX1_cofactor_58 rfl (lv_at hl 4 rfl) ?_
      refine va_get (D := D) (ci := 1) (v := .ref etb) (C := RX1) (T := TX1) (N := 14) hx hb hU inlX1 hown hK hP 0 rfl rfl 10 (by decide) (hU _ kf_RX1_31) (fun _ h9 => h9) rfl dX1_cofactor_59 ?_
      refine lv_iload hx hb dX1_cofactor_62 (lv_at hl 2 rfl) ?_
      refine lv_iload hx hb dX1_cofactor_64 (lv_at hl 0 rfl) ?_
      refine zr_iadd hx hb dX1_cofactor_66 ?_
      refine zr_lald hx hb hK hP 7 1 rfl rfl (3 * 2 + 1) (by omega) (by omega) (Nat.le_of_ble_eq_true rfl) dX1_cofactor_67 ?_
      refine zr_rwl (v := (B 2 1)) (hB 2 1 (by omega) (by omega)) ?_
      refine zr_lmul hx hb dX1_cofactor_68 ?_
      refine lv_aload_n hx hb dX1_cofactor_69 rfl (lv_at hl 4 rfl) ?_
      refine va_get (D := D) (ci := 1) (v := .ref etb) (C := RX1) (T := TX1) (N := 14) hx hb hU inlX1 hown hK hP 0 rfl rfl 10 (by decide) (hU _ kf_RX1_31) (fun _ h9 => h9) rfl dX1_cofactor_70 ?_
      refine lv_iload_n hx hb dX1_cofactor_73 rfl (lv_at hl 3 rfl) ?_
      refine lv_iload hx hb dX1_cofactor_74 (lv_at hl 0 rfl) ?_
      refine zr_iadd hx hb dX1_cofactor_76 ?_
      refine zr_lald hx hb hK hP 7 1 rfl rfl (3 * 1 + 1) (by omega) (by omega) (Nat.le_of_ble_eq_true rfl) dX1_cofactor_77 ?_
      refine zr_rwl (v := (B 1 1)) (hB 1 1 (by omega) (by omega)) ?_
      refine lv_aload_n hx hb dX1_cofactor_78 rfl (lv_at hl 4 rfl) ?_
      refine va_get (D := D) (ci := 1) (v := .ref etb) (C := RX1) (T := TX1) (N := 14) hx hb hU inlX1 hown hK hP 0 rfl rfl 10 (by decide) (hU _ kf_RX1_31) (fun _ h9 => h9) rfl dX1_cofactor_79 ?_
      refine lv_iload hx hb dX1_cofactor_82 (lv_at hl 2 rfl) ?_
      refine lv_iload hx hb dX1_cofactor_84 (lv_at hl 1 rfl) ?_
      refine zr_iadd hx hb dX1_cofactor_86 ?_
      refine zr_lald hx hb hK hP 7 1 rfl rfl (3 * 2 + 0) (by omega) (by omega) (Nat.le_of_ble_eq_true rfl) dX1_cofactor_87 ?_
      refine zr_rwl (v := (B 2 0)) (hB 2 0 (by omega) (by omega)) ?_
      refine zr_lmul hx hb dX1_cofactor_88 ?_
      refine zr_lsub hx hb dX1_cofactor_89 ?_
      refine lv_lstore (lv' := [(7, .long (lI (((B 1 0) * (B 2 1)) - ((B 1 1) * (B 2 0))))), (6, .int (iI 1)), (5, .int (iI 0)), (4, .int (iI (2 * 3))), (3, .int (iI (1 * 3))), (0, .ref ea), (1, .int (iI 0)), (2, .int (iI 2))]) hx hb dX1_cofactor_90 hl (by decide) rfl (fun ls hl => ?_)
      refine lv_iload_n hx hb dX1_cofactor_92 rfl (lv_at hl 6 rfl) ?_
      refine lv_iload_n hx hb dX1_cofactor_93 rfl (lv_at hl 7 rfl) ?_
      refine zr_iadd hx hb dX1_cofactor_94 ?_
      refine lv_iconst (v := iI 1) hx hb dX1_cofactor_95 rfl ?_
      refine lv_iand hx hb dX1_cofactor_96 ?_
      refine zr_bti (z := 0) (by decide) ?_
      refine zr_if_ne (tgt := 105) hx hb dX1_cofactor_97 (by decide) (by omega) (fun c_15 => absurd c_15 (by decide)) (fun c_15 => ?_)
      refine lv_lload hx hb dX1_cofactor_100 (lv_at hl 0 rfl) ?_
      refine lv_goto (tgt := 108) hx hb dX1_cofactor_102 (by decide) ?_
      rw [hQ]
      exact ze_Rl hx hb hr hlk dX1_cofactor_108 (rfl)
  · skip
    refine lv_iload_n hx hb dX1_cofactor_0 rfl (lv_at hl 1 rfl) ?_
    rcases (show cc = 0 ∨ cc = 1 ∨ cc = 2 by omega) with rfl | rfl | rfl
    · skip
      refine zr_if_ne (tgt := 8) hx hb dX1_cofactor_1 (by decide) (by omega) (fun c_16 => ?_) (fun c_16 => absurd c_16 (by decide))
      refine lv_iconst (v := iI 0) hx hb dX1_cofactor_8 rfl ?_
      refine lv_iconst (v := iI 3) hx hb dX1_cofactor_9 rfl ?_
      refine zr_imul hx hb dX1_cofactor_10 ?_
      refine lv_istore_n (lv' := [(3, .int (iI (0 * 3))), (0, .ref ea), (1, .int (iI 1)), (2, .int (iI 0))]) hx hb dX1_cofactor_11 rfl hl (by decide) rfl (fun ls hl => ?_)
      refine lv_iload_n hx hb dX1_cofactor_12 rfl (lv_at hl 2 rfl) ?_
      refine lv_iconst (v := iI 2) hx hb dX1_cofactor_13 rfl ?_
      refine zr_icmp_ne (tgt := 21) hx hb dX1_cofactor_14 (by decide) (by omega) (by omega) (fun c_17 => ?_) (fun c_17 => absurd c_17 (by decide))
      refine lv_iconst (v := iI 2) hx hb dX1_cofactor_21 rfl ?_
      refine lv_iconst (v := iI 3) hx hb dX1_cofactor_22 rfl ?_
      refine zr_imul hx hb dX1_cofactor_23 ?_
      refine lv_istore (lv' := [(4, .int (iI (2 * 3))), (3, .int (iI (0 * 3))), (0, .ref ea), (1, .int (iI 1)), (2, .int (iI 0))]) hx hb dX1_cofactor_24 hl (by decide) rfl (fun ls hl => ?_)
      refine lv_iload_n hx hb dX1_cofactor_26 rfl (lv_at hl 4 rfl) ?_
      refine zr_if_ne (tgt := 34) hx hb dX1_cofactor_27 (by decide) (by omega) (fun c_18 => absurd c_18 (by decide)) (fun c_18 => ?_)
      refine lv_iconst (v := iI 1) hx hb dX1_cofactor_30 rfl ?_
      refine lv_goto (tgt := 35) hx hb dX1_cofactor_31 (by decide) ?_
      refine lv_istore (lv' := [(5, .int (iI 1)), (4, .int (iI (2 * 3))), (3, .int (iI (0 * 3))), (0, .ref ea), (1, .int (iI 1)), (2, .int (iI 0))]) hx hb dX1_cofactor_35 hl (by decide) rfl (fun ls hl => ?_)
      refine lv_iload_n hx hb dX1_cofactor_37 rfl (lv_at hl 5 rfl) ?_
      refine lv_iconst (v := iI 2) hx hb dX1_cofactor_38 rfl ?_
      refine zr_icmp_ne (tgt := 46) hx hb dX1_cofactor_39 (by decide) (by omega) (by omega) (fun c_19 => ?_) (fun c_19 => absurd c_19 (by decide))
      refine lv_iconst (v := iI 2) hx hb dX1_cofactor_46 rfl ?_
      refine lv_istore (lv' := [(6, .int (iI 2)), (5, .int (iI 1)), (4, .int (iI (2 * 3))), (3, .int (iI (0 * 3))), (0, .ref ea), (1, .int (iI 1)), (2, .int (iI 0))]) hx hb dX1_cofactor_47 hl (by decide) rfl (fun ls hl => ?_)
      refine lv_aload_n hx hb dX1_cofactor_49 rfl (lv_at hl 4 rfl) ?_
      refine va_get (D := D) (ci := 1) (v := .ref etb) (C := RX1) (T := TX1) (N := 14) hx hb hU inlX1 hown hK hP 0 rfl rfl 10 (by decide) (hU _ kf_RX1_31) (fun _ h9 => h9) rfl dX1_cofactor_50 ?_
      refine lv_iload_n hx hb dX1_cofactor_53 rfl (lv_at hl 3 rfl) ?_
      refine lv_iload hx hb dX1_cofactor_54 (lv_at hl 1 rfl) ?_
      refine zr_iadd hx hb dX1_cofactor_56 ?_
      refine zr_lald hx hb hK hP 7 1 rfl rfl (3 * 0 + 1) (by omega) (by omega) (Nat.le_of_ble_eq_true rfl) dX1_cofactor_57 ?_
      refine zr_rwl (v := (B 0 1)) (hB 0 1 (by omega) (by omega)) ?_
      refine lv_aload_n hx hb dX1_cofactor_58 rfl (lv_at hl 4 rfl) ?_
      refine va_get (D := D) (ci := 1) (v := .ref etb) (C := RX1) (T := TX1) (N := 14) hx hb hU inlX1 hown hK hP 0 rfl rfl 10 (by decide) (hU _ kf_RX1_31) (fun _ h9 => h9) rfl dX1_cofactor_59 ?_
      refine lv_iload hx hb dX1_cofactor_62 (lv_at hl 2 rfl) ?_
      refine lv_iload hx hb dX1_cofactor_64 (lv_at hl 0 rfl) ?_
      refine zr_iadd hx hb dX1_cofactor_66 ?_
      refine zr_lald hx hb hK hP 7 1 rfl rfl (3 * 2 + 2) (by omega) (by omega) (Nat.le_of_ble_eq_true rfl) dX1_cofactor_67 ?_
      refine zr_rwl (v := (B 2 2)) (hB 2 2 (by omega) (by omega)) ?_
      refine zr_lmul hx hb dX1_cofactor_68 ?_
      refine lv_aload_n hx hb dX1_cofactor_69 rfl (lv_at hl 4 rfl) ?_
      refine va_get (D := D) (ci := 1) (v := .ref etb) (C := RX1) (T := TX1) (N := 14) hx hb hU inlX1 hown hK hP 0 rfl rfl 10 (by decide) (hU _ kf_RX1_31) (fun _ h9 => h9) rfl dX1_cofactor_70 ?_
      refine lv_iload_n hx hb dX1_cofactor_73 rfl (lv_at hl 3 rfl) ?_
      refine lv_iload hx hb dX1_cofactor_74 (lv_at hl 0 rfl) ?_
      refine zr_iadd hx hb dX1_cofactor_76 ?_
      refine zr_lald hx hb hK hP 7 1 rfl rfl (3 * 0 + 2) (by omega) (by omega) (Nat.le_of_ble_eq_true rfl) dX1_cofactor_77 ?_
      refine zr_rwl (v := (B 0 2)) (hB 0 2 (by omega) (by omega)) ?_
      refine lv_aload_n hx hb dX1_cofactor_78 rfl (lv_at hl 4 rfl) ?_
      refine va_get (D := D) (ci := 1) (v := .ref etb) (C := RX1) (T := TX1) (N := 14) hx hb hU inlX1 hown hK hP 0 rfl rfl 10 (by decide) (hU _ kf_RX1_31) (fun _ h9 => h9) rfl dX1_cofactor_79 ?_
      refine lv_iload hx hb dX1_cofactor_82 (lv_at hl 2 rfl) ?_
      refine lv_iload hx hb dX1_cofactor_84 (lv_at hl 1 rfl) ?_
      refine zr_iadd hx hb dX1_cofactor_86 ?_
      refine zr_lald hx hb hK hP 7 1 rfl rfl (3 * 2 + 1) (by omega) (by omega) (Nat.le_of_ble_eq_true rfl) dX1_cofactor_87 ?_
      refine zr_rwl (v := (B 2 1)) (hB 2 1 (by omega) (by omega)) ?_
      refine zr_lmul hx hb dX1_cofactor_88 ?_
      refine zr_lsub hx hb dX1_cofactor_89 ?_
      refine lv_lstore (lv' := [(7, .long (lI (((B 0 1) * (B 2 2)) - ((B 0 2) * (B 2 1))))), (6, .int (iI 2)), (5, .int (iI 1)), (4, .int (iI (2 * 3))), (3, .int (iI (0 * 3))), (0, .ref ea), (1, .int (iI 1)), (2, .int (iI 0))]) hx hb dX1_cofactor_90 hl (by decide) rfl (fun ls hl => ?_)
      refine lv_iload_n hx hb dX1_cofactor_92 rfl (lv_at hl 6 rfl) ?_
      refine lv_iload_n hx hb dX1_cofactor_93 rfl (lv_at hl 7 rfl) ?_
      refine zr_iadd hx hb dX1_cofactor_94 ?_
      refine lv_iconst (v := iI 1) hx hb dX1_cofactor_95 rfl ?_
      refine lv_iand hx hb dX1_cofactor_96 ?_
      refine zr_bti (z := 1) (by decide) ?_
      refine zr_if_ne (tgt := 105) hx hb dX1_cofactor_97 (by decide) (by omega) (fun c_20 => ?_) (fun c_20 => absurd c_20 (by decide))
      refine lv_lload hx hb dX1_cofactor_105 (lv_at hl 0 rfl) ?_
      refine zr_lneg hx hb dX1_cofactor_107 ?_
      rw [hQ]
      exact ze_Rl hx hb hr hlk dX1_cofactor_108 (rfl)
    · skip
      refine zr_if_ne (tgt := 8) hx hb dX1_cofactor_1 (by decide) (by omega) (fun c_21 => ?_) (fun c_21 => absurd c_21 (by decide))
      refine lv_iconst (v := iI 0) hx hb dX1_cofactor_8 rfl ?_
      refine lv_iconst (v := iI 3) hx hb dX1_cofactor_9 rfl ?_
      refine zr_imul hx hb dX1_cofactor_10 ?_
      refine lv_istore_n (lv' := [(3, .int (iI (0 * 3))), (0, .ref ea), (1, .int (iI 1)), (2, .int (iI 1))]) hx hb dX1_cofactor_11 rfl hl (by decide) rfl (fun ls hl => ?_)
      refine lv_iload_n hx hb dX1_cofactor_12 rfl (lv_at hl 2 rfl) ?_
      refine lv_iconst (v := iI 2) hx hb dX1_cofactor_13 rfl ?_
      refine zr_icmp_ne (tgt := 21) hx hb dX1_cofactor_14 (by decide) (by omega) (by omega) (fun c_22 => ?_) (fun c_22 => absurd c_22 (by decide))
      refine lv_iconst (v := iI 2) hx hb dX1_cofactor_21 rfl ?_
      refine lv_iconst (v := iI 3) hx hb dX1_cofactor_22 rfl ?_
      refine zr_imul hx hb dX1_cofactor_23 ?_
      refine lv_istore (lv' := [(4, .int (iI (2 * 3))), (3, .int (iI (0 * 3))), (0, .ref ea), (1, .int (iI 1)), (2, .int (iI 1))]) hx hb dX1_cofactor_24 hl (by decide) rfl (fun ls hl => ?_)
      refine lv_iload_n hx hb dX1_cofactor_26 rfl (lv_at hl 4 rfl) ?_
      refine zr_if_ne (tgt := 34) hx hb dX1_cofactor_27 (by decide) (by omega) (fun c_23 => ?_) (fun c_23 => absurd c_23 (by decide))
      refine lv_iconst (v := iI 0) hx hb dX1_cofactor_34 rfl ?_
      refine lv_istore (lv' := [(5, .int (iI 0)), (4, .int (iI (2 * 3))), (3, .int (iI (0 * 3))), (0, .ref ea), (1, .int (iI 1)), (2, .int (iI 1))]) hx hb dX1_cofactor_35 hl (by decide) rfl (fun ls hl => ?_)
      refine lv_iload_n hx hb dX1_cofactor_37 rfl (lv_at hl 5 rfl) ?_
      refine lv_iconst (v := iI 2) hx hb dX1_cofactor_38 rfl ?_
      refine zr_icmp_ne (tgt := 46) hx hb dX1_cofactor_39 (by decide) (by omega) (by omega) (fun c_24 => ?_) (fun c_24 => absurd c_24 (by decide))
      refine lv_iconst (v := iI 2) hx hb dX1_cofactor_46 rfl ?_
      refine lv_istore (lv' := [(6, .int (iI 2)), (5, .int (iI 0)), (4, .int (iI (2 * 3))), (3, .int (iI (0 * 3))), (0, .ref ea), (1, .int (iI 1)), (2, .int (iI 1))]) hx hb dX1_cofactor_47 hl (by decide) rfl (fun ls hl => ?_)
      refine lv_aload_n hx hb dX1_cofactor_49 rfl (lv_at hl 4 rfl) ?_
      refine va_get (D := D) (ci := 1) (v := .ref etb) (C := RX1) (T := TX1) (N := 14) hx hb hU inlX1 hown hK hP 0 rfl rfl 10 (by decide) (hU _ kf_RX1_31) (fun _ h9 => h9) rfl dX1_cofactor_50 ?_
      refine lv_iload_n hx hb dX1_cofactor_53 rfl (lv_at hl 3 rfl) ?_
      refine lv_iload hx hb dX1_cofactor_54 (lv_at hl 1 rfl) ?_
      refine zr_iadd hx hb dX1_cofactor_56 ?_
      refine zr_lald hx hb hK hP 7 1 rfl rfl (3 * 0 + 0) (by omega) (by omega) (Nat.le_of_ble_eq_true rfl) dX1_cofactor_57 ?_
      refine zr_rwl (v := (B 0 0)) (hB 0 0 (by omega) (by omega)) ?_
      refine lv_aload_n hx hb dX1_cofactor_58 rfl (lv_at hl 4 rfl) ?_
      refine va_get (D := D) (ci := 1) (v := .ref etb) (C := RX1) (T := TX1) (N := 14) hx hb hU inlX1 hown hK hP 0 rfl rfl 10 (by decide) (hU _ kf_RX1_31) (fun _ h9 => h9) rfl dX1_cofactor_59 ?_
      refine lv_iload hx hb dX1_cofactor_62 (lv_at hl 2 rfl) ?_
      refine lv_iload hx hb dX1_cofactor_64 (lv_at hl 0 rfl) ?_
      refine zr_iadd hx hb dX1_cofactor_66 ?_
      refine zr_lald hx hb hK hP 7 1 rfl rfl (3 * 2 + 2) (by omega) (by omega) (Nat.le_of_ble_eq_true rfl) dX1_cofactor_67 ?_
      refine zr_rwl (v := (B 2 2)) (hB 2 2 (by omega) (by omega)) ?_
      refine zr_lmul hx hb dX1_cofactor_68 ?_
      refine lv_aload_n hx hb dX1_cofactor_69 rfl (lv_at hl 4 rfl) ?_
      refine va_get (D := D) (ci := 1) (v := .ref etb) (C := RX1) (T := TX1) (N := 14) hx hb hU inlX1 hown hK hP 0 rfl rfl 10 (by decide) (hU _ kf_RX1_31) (fun _ h9 => h9) rfl dX1_cofactor_70 ?_
      refine lv_iload_n hx hb dX1_cofactor_73 rfl (lv_at hl 3 rfl) ?_
      refine lv_iload hx hb dX1_cofactor_74 (lv_at hl 0 rfl) ?_
      refine zr_iadd hx hb dX1_cofactor_76 ?_
      refine zr_lald hx hb hK hP 7 1 rfl rfl (3 * 0 + 2) (by omega) (by omega) (Nat.le_of_ble_eq_true rfl) dX1_cofactor_77 ?_
      refine zr_rwl (v := (B 0 2)) (hB 0 2 (by omega) (by omega)) ?_
      refine lv_aload_n hx hb dX1_cofactor_78 rfl (lv_at hl 4 rfl) ?_
      refine va_get (D := D) (ci := 1) (v := .ref etb) (C := RX1) (T := TX1) (N := 14) hx hb hU inlX1 hown hK hP 0 rfl rfl 10 (by decide) (hU _ kf_RX1_31) (fun _ h9 => h9) rfl dX1_cofactor_79 ?_
      refine lv_iload hx hb dX1_cofactor_82 (lv_at hl 2 rfl) ?_
      refine lv_iload hx hb dX1_cofactor_84 (lv_at hl 1 rfl) ?_
      refine zr_iadd hx hb dX1_cofactor_86 ?_
      refine zr_lald hx hb hK hP 7 1 rfl rfl (3 * 2 + 0) (by omega) (by omega) (Nat.le_of_ble_eq_true rfl) dX1_cofactor_87 ?_
      refine zr_rwl (v := (B 2 0)) (hB 2 0 (by omega) (by omega)) ?_
      refine zr_lmul hx hb dX1_cofactor_88 ?_
      refine zr_lsub hx hb dX1_cofactor_89 ?_
      refine lv_lstore (lv' := [(7, .long (lI (((B 0 0) * (B 2 2)) - ((B 0 2) * (B 2 0))))), (6, .int (iI 2)), (5, .int (iI 0)), (4, .int (iI (2 * 3))), (3, .int (iI (0 * 3))), (0, .ref ea), (1, .int (iI 1)), (2, .int (iI 1))]) hx hb dX1_cofactor_90 hl (by decide) rfl (fun ls hl => ?_)
      refine lv_iload_n hx hb dX1_cofactor_92 rfl (lv_at hl 6 rfl) ?_
      refine lv_iload_n hx hb dX1_cofactor_93 rfl (lv_at hl 7 rfl) ?_
      refine zr_iadd hx hb dX1_cofactor_94 ?_
      refine lv_iconst (v := iI 1) hx hb dX1_cofactor_95 rfl ?_
      refine lv_iand hx hb dX1_cofactor_96 ?_
      refine zr_bti (z := 0) (by decide) ?_
      refine zr_if_ne (tgt := 105) hx hb dX1_cofactor_97 (by decide) (by omega) (fun c_25 => absurd c_25 (by decide)) (fun c_25 => ?_)
      refine lv_lload hx hb dX1_cofactor_100 (lv_at hl 0 rfl) ?_
      refine lv_goto (tgt := 108) hx hb dX1_cofactor_102 (by decide) ?_
      rw [hQ]
      exact ze_Rl hx hb hr hlk dX1_cofactor_108 (rfl)
    · skip
      refine zr_if_ne (tgt := 8) hx hb dX1_cofactor_1 (by decide) (by omega) (fun c_26 => ?_) (fun c_26 => absurd c_26 (by decide))
      refine lv_iconst (v := iI 0) hx hb dX1_cofactor_8 rfl ?_
      refine lv_iconst (v := iI 3) hx hb dX1_cofactor_9 rfl ?_
      refine zr_imul hx hb dX1_cofactor_10 ?_
      refine lv_istore_n (lv' := [(3, .int (iI (0 * 3))), (0, .ref ea), (1, .int (iI 1)), (2, .int (iI 2))]) hx hb dX1_cofactor_11 rfl hl (by decide) rfl (fun ls hl => ?_)
      refine lv_iload_n hx hb dX1_cofactor_12 rfl (lv_at hl 2 rfl) ?_
      refine lv_iconst (v := iI 2) hx hb dX1_cofactor_13 rfl ?_
      refine zr_icmp_ne (tgt := 21) hx hb dX1_cofactor_14 (by decide) (by omega) (by omega) (fun c_27 => ?_) (fun c_27 => absurd c_27 (by decide))
      refine lv_iconst (v := iI 2) hx hb dX1_cofactor_21 rfl ?_
      refine lv_iconst (v := iI 3) hx hb dX1_cofactor_22 rfl ?_
      refine zr_imul hx hb dX1_cofactor_23 ?_
      refine lv_istore (lv' := [(4, .int (iI (2 * 3))), (3, .int (iI (0 * 3))), (0, .ref ea), (1, .int (iI 1)), (2, .int (iI 2))]) hx hb dX1_cofactor_24 hl (by decide) rfl (fun ls hl => ?_)
      refine lv_iload_n hx hb dX1_cofactor_26 rfl (lv_at hl 4 rfl) ?_
      refine zr_if_ne (tgt := 34) hx hb dX1_cofactor_27 (by decide) (by omega) (fun c_28 => ?_) (fun c_28 => absurd c_28 (by decide))
      refine lv_iconst (v := iI 0) hx hb dX1_cofactor_34 rfl ?_
      refine lv_istore (lv' := [(5, .int (iI 0)), (4, .int (iI (2 * 3))), (3, .int (iI (0 * 3))), (0, .ref ea), (1, .int (iI 1)), (2, .int (iI 2))]) hx hb dX1_cofactor_35 hl (by decide) rfl (fun ls hl => ?_)
      refine lv_iload_n hx hb dX1_cofactor_37 rfl (lv_at hl 5 rfl) ?_
      refine lv_iconst (v := iI 2) hx hb dX1_cofactor_38 rfl ?_
      refine zr_icmp_ne (tgt := 46) hx hb dX1_cofactor_39 (by decide) (by omega) (by omega) (fun c_29 => absurd c_29 (by decide)) (fun c_29 => ?_)
      refine lv_iconst (v := iI 1) hx hb dX1_cofactor_42 rfl ?_
      refine lv_goto (tgt := 47) hx hb dX1_cofactor_43 (by decide) ?_
      refine lv_istore (lv' := [(6, .int (iI 1)), (5, .int (iI 0)), (4, .int (iI (2 * 3))), (3, .int (iI (0 * 3))), (0, .ref ea), (1, .int (iI 1)), (2, .int (iI 2))]) hx hb dX1_cofactor_47 hl (by decide) rfl (fun ls hl => ?_)
      refine lv_aload_n hx hb dX1_cofactor_49 rfl (lv_at hl 4 rfl) ?_
      refine va_get (D := D) (ci := 1) (v := .ref etb) (C := RX1) (T := TX1) (N := 14) hx hb hU inlX1 hown hK hP 0 rfl rfl 10 (by decide) (hU _ kf_RX1_31) (fun _ h9 => h9) rfl dX1_cofactor_50 ?_
      refine lv_iload_n hx hb dX1_cofactor_53 rfl (lv_at hl 3 rfl) ?_
      refine lv_iload hx hb dX1_cofactor_54 (lv_at hl 1 rfl) ?_
      refine zr_iadd hx hb dX1_cofactor_56 ?_
      refine zr_lald hx hb hK hP 7 1 rfl rfl (3 * 0 + 0) (by omega) (by omega) (Nat.le_of_ble_eq_true rfl) dX1_cofactor_57 ?_
      refine zr_rwl (v := (B 0 0)) (hB 0 0 (by omega) (by omega)) ?_
      refine lv_aload_n hx hb dX1_cofactor_58 rfl (lv_at hl 4 rfl) ?_
      refine va_get (D := D) (ci := 1) (v := .ref etb) (C := RX1) (T := TX1) (N := 14) hx hb hU inlX1 hown hK hP 0 rfl rfl 10 (by decide) (hU _ kf_RX1_31) (fun _ h9 => h9) rfl dX1_cofactor_59 ?_
      refine lv_iload hx hb dX1_cofactor_62 (lv_at hl 2 rfl) ?_
      refine lv_iload hx hb dX1_cofactor_64 (lv_at hl 0 rfl) ?_
      refine zr_iadd hx hb dX1_cofactor_66 ?_
      refine zr_lald hx hb hK hP 7 1 rfl rfl (3 * 2 + 1) (by omega) (by omega) (Nat.le_of_ble_eq_true rfl) dX1_cofactor_67 ?_
      refine zr_rwl (v := (B 2 1)) (hB 2 1 (by omega) (by omega)) ?_
      refine zr_lmul hx hb dX1_cofactor_68 ?_
      refine lv_aload_n hx hb dX1_cofactor_69 rfl (lv_at hl 4 rfl) ?_
      refine va_get (D := D) (ci := 1) (v := .ref etb) (C := RX1) (T := TX1) (N := 14) hx hb hU inlX1 hown hK hP 0 rfl rfl 10 (by decide) (hU _ kf_RX1_31) (fun _ h9 => h9) rfl dX1_cofactor_70 ?_
      refine lv_iload_n hx hb dX1_cofactor_73 rfl (lv_at hl 3 rfl) ?_
      refine lv_iload hx hb dX1_cofactor_74 (lv_at hl 0 rfl) ?_
      refine zr_iadd hx hb dX1_cofactor_76 ?_
      refine zr_lald hx hb hK hP 7 1 rfl rfl (3 * 0 + 1) (by omega) (by omega) (Nat.le_of_ble_eq_true rfl) dX1_cofactor_77 ?_
      refine zr_rwl (v := (B 0 1)) (hB 0 1 (by omega) (by omega)) ?_
      refine lv_aload_n hx hb dX1_cofactor_78 rfl (lv_at hl 4 rfl) ?_
      refine va_get (D := D) (ci := 1) (v := .ref etb) (C := RX1) (T := TX1) (N := 14) hx hb hU inlX1 hown hK hP 0 rfl rfl 10 (by decide) (hU _ kf_RX1_31) (fun _ h9 => h9) rfl dX1_cofactor_79 ?_
      refine lv_iload hx hb dX1_cofactor_82 (lv_at hl 2 rfl) ?_
      refine lv_iload hx hb dX1_cofactor_84 (lv_at hl 1 rfl) ?_
      refine zr_iadd hx hb dX1_cofactor_86 ?_
      refine zr_lald hx hb hK hP 7 1 rfl rfl (3 * 2 + 0) (by omega) (by omega) (Nat.le_of_ble_eq_true rfl) dX1_cofactor_87 ?_
      refine zr_rwl (v := (B 2 0)) (hB 2 0 (by omega) (by omega)) ?_
      refine zr_lmul hx hb dX1_cofactor_88 ?_
      refine zr_lsub hx hb dX1_cofactor_89 ?_
      refine lv_lstore (lv' := [(7, .long (lI (((B 0 0) * (B 2 1)) - ((B 0 1) * (B 2 0))))), (6, .int (iI 1)), (5, .int (iI 0)), (4, .int (iI (2 * 3))), (3, .int (iI (0 * 3))), (0, .ref ea), (1, .int (iI 1)), (2, .int (iI 2))]) hx hb dX1_cofactor_90 hl (by decide) rfl (fun ls hl => ?_)
      refine lv_iload_n hx hb dX1_cofactor_92 rfl (lv_at hl 6 rfl) ?_
      refine lv_iload_n hx hb dX1_cofactor_93 rfl (lv_at hl 7 rfl) ?_
      refine zr_iadd hx hb dX1_cofactor_94 ?_
      refine lv_iconst (v := iI 1) hx hb dX1_cofactor_95 rfl ?_
      refine lv_iand hx hb dX1_cofactor_96 ?_
      refine zr_bti (z := 1) (by decide) ?_
      refine zr_if_ne (tgt := 105) hx hb dX1_cofactor_97 (by decide) (by omega) (fun c_30 => ?_) (fun c_30 => absurd c_30 (by decide))
      refine lv_lload hx hb dX1_cofactor_105 (lv_at hl 0 rfl) ?_
      refine zr_lneg hx hb dX1_cofactor_107 ?_
      rw [hQ]
      exact ze_Rl hx hb hr hlk dX1_cofactor_108 (rfl)
  · skip
    refine lv_iload_n hx hb dX1_cofactor_0 rfl (lv_at hl 1 rfl) ?_
    rcases (show cc = 0 ∨ cc = 1 ∨ cc = 2 by omega) with rfl | rfl | rfl
    · skip
      refine zr_if_ne (tgt := 8) hx hb dX1_cofactor_1 (by decide) (by omega) (fun c_31 => ?_) (fun c_31 => absurd c_31 (by decide))
      refine lv_iconst (v := iI 0) hx hb dX1_cofactor_8 rfl ?_
      refine lv_iconst (v := iI 3) hx hb dX1_cofactor_9 rfl ?_
      refine zr_imul hx hb dX1_cofactor_10 ?_
      refine lv_istore_n (lv' := [(3, .int (iI (0 * 3))), (0, .ref ea), (1, .int (iI 2)), (2, .int (iI 0))]) hx hb dX1_cofactor_11 rfl hl (by decide) rfl (fun ls hl => ?_)
      refine lv_iload_n hx hb dX1_cofactor_12 rfl (lv_at hl 2 rfl) ?_
      refine lv_iconst (v := iI 2) hx hb dX1_cofactor_13 rfl ?_
      refine zr_icmp_ne (tgt := 21) hx hb dX1_cofactor_14 (by decide) (by omega) (by omega) (fun c_32 => absurd c_32 (by decide)) (fun c_32 => ?_)
      refine lv_iconst (v := iI 1) hx hb dX1_cofactor_17 rfl ?_
      refine lv_goto (tgt := 22) hx hb dX1_cofactor_18 (by decide) ?_
      refine lv_iconst (v := iI 3) hx hb dX1_cofactor_22 rfl ?_
      refine zr_imul hx hb dX1_cofactor_23 ?_
      refine lv_istore (lv' := [(4, .int (iI (1 * 3))), (3, .int (iI (0 * 3))), (0, .ref ea), (1, .int (iI 2)), (2, .int (iI 0))]) hx hb dX1_cofactor_24 hl (by decide) rfl (fun ls hl => ?_)
      refine lv_iload_n hx hb dX1_cofactor_26 rfl (lv_at hl 4 rfl) ?_
      refine zr_if_ne (tgt := 34) hx hb dX1_cofactor_27 (by decide) (by omega) (fun c_33 => absurd c_33 (by decide)) (fun c_33 => ?_)
      refine lv_iconst (v := iI 1) hx hb dX1_cofactor_30 rfl ?_
      refine lv_goto (tgt := 35) hx hb dX1_cofactor_31 (by decide) ?_
      refine lv_istore (lv' := [(5, .int (iI 1)), (4, .int (iI (1 * 3))), (3, .int (iI (0 * 3))), (0, .ref ea), (1, .int (iI 2)), (2, .int (iI 0))]) hx hb dX1_cofactor_35 hl (by decide) rfl (fun ls hl => ?_)
      refine lv_iload_n hx hb dX1_cofactor_37 rfl (lv_at hl 5 rfl) ?_
      refine lv_iconst (v := iI 2) hx hb dX1_cofactor_38 rfl ?_
      refine zr_icmp_ne (tgt := 46) hx hb dX1_cofactor_39 (by decide) (by omega) (by omega) (fun c_34 => ?_) (fun c_34 => absurd c_34 (by decide))
      refine lv_iconst (v := iI 2) hx hb dX1_cofactor_46 rfl ?_
      refine lv_istore (lv' := [(6, .int (iI 2)), (5, .int (iI 1)), (4, .int (iI (1 * 3))), (3, .int (iI (0 * 3))), (0, .ref ea), (1, .int (iI 2)), (2, .int (iI 0))]) hx hb dX1_cofactor_47 hl (by decide) rfl (fun ls hl => ?_)
      refine lv_aload_n hx hb dX1_cofactor_49 rfl (lv_at hl 4 rfl) ?_
      refine va_get (D := D) (ci := 1) (v := .ref etb) (C := RX1) (T := TX1) (N := 14) hx hb hU inlX1 hown hK hP 0 rfl rfl 10 (by decide) (hU _ kf_RX1_31) (fun _ h9 => h9) rfl dX1_cofactor_50 ?_
      refine lv_iload_n hx hb dX1_cofactor_53 rfl (lv_at hl 3 rfl) ?_
      refine lv_iload hx hb dX1_cofactor_54 (lv_at hl 1 rfl) ?_
      refine zr_iadd hx hb dX1_cofactor_56 ?_
      refine zr_lald hx hb hK hP 7 1 rfl rfl (3 * 0 + 1) (by omega) (by omega) (Nat.le_of_ble_eq_true rfl) dX1_cofactor_57 ?_
      refine zr_rwl (v := (B 0 1)) (hB 0 1 (by omega) (by omega)) ?_
      refine lv_aload_n hx hb dX1_cofactor_58 rfl (lv_at hl 4 rfl) ?_
      refine va_get (D := D) (ci := 1) (v := .ref etb) (C := RX1) (T := TX1) (N := 14) hx hb hU inlX1 hown hK hP 0 rfl rfl 10 (by decide) (hU _ kf_RX1_31) (fun _ h9 => h9) rfl dX1_cofactor_59 ?_
      refine lv_iload hx hb dX1_cofactor_62 (lv_at hl 2 rfl) ?_
      refine lv_iload hx hb dX1_cofactor_64 (lv_at hl 0 rfl) ?_
      refine zr_iadd hx hb dX1_cofactor_66 ?_
      refine zr_lald hx hb hK hP 7 1 rfl rfl (3 * 1 + 2) (by omega) (by omega) (Nat.le_of_ble_eq_true rfl) dX1_cofactor_67 ?_
      refine zr_rwl (v := (B 1 2)) (hB 1 2 (by omega) (by omega)) ?_
      refine zr_lmul hx hb dX1_cofactor_68 ?_
      refine lv_aload_n hx hb dX1_cofactor_69 rfl (lv_at hl 4 rfl) ?_
      refine va_get (D := D) (ci := 1) (v := .ref etb) (C := RX1) (T := TX1) (N := 14) hx hb hU inlX1 hown hK hP 0 rfl rfl 10 (by decide) (hU _ kf_RX1_31) (fun _ h9 => h9) rfl dX1_cofactor_70 ?_
      refine lv_iload_n hx hb dX1_cofactor_73 rfl (lv_at hl 3 rfl) ?_
      refine lv_iload hx hb dX1_cofactor_74 (lv_at hl 0 rfl) ?_
      refine zr_iadd hx hb dX1_cofactor_76 ?_
      refine zr_lald hx hb hK hP 7 1 rfl rfl (3 * 0 + 2) (by omega) (by omega) (Nat.le_of_ble_eq_true rfl) dX1_cofactor_77 ?_
      refine zr_rwl (v := (B 0 2)) (hB 0 2 (by omega) (by omega)) ?_
      refine lv_aload_n hx hb dX1_cofactor_78 rfl (lv_at hl 4 rfl) ?_
      refine va_get (D := D) (ci := 1) (v := .ref etb) (C := RX1) (T := TX1) (N := 14) hx hb hU inlX1 hown hK hP 0 rfl rfl 10 (by decide) (hU _ kf_RX1_31) (fun _ h9 => h9) rfl dX1_cofactor_79 ?_
      refine lv_iload hx hb dX1_cofactor_82 (lv_at hl 2 rfl) ?_
      refine lv_iload hx hb dX1_cofactor_84 (lv_at hl 1 rfl) ?_
      refine zr_iadd hx hb dX1_cofactor_86 ?_
      refine zr_lald hx hb hK hP 7 1 rfl rfl (3 * 1 + 1) (by omega) (by omega) (Nat.le_of_ble_eq_true rfl) dX1_cofactor_87 ?_
      refine zr_rwl (v := (B 1 1)) (hB 1 1 (by omega) (by omega)) ?_
      refine zr_lmul hx hb dX1_cofactor_88 ?_
      refine zr_lsub hx hb dX1_cofactor_89 ?_
      refine lv_lstore (lv' := [(7, .long (lI (((B 0 1) * (B 1 2)) - ((B 0 2) * (B 1 1))))), (6, .int (iI 2)), (5, .int (iI 1)), (4, .int (iI (1 * 3))), (3, .int (iI (0 * 3))), (0, .ref ea), (1, .int (iI 2)), (2, .int (iI 0))]) hx hb dX1_cofactor_90 hl (by decide) rfl (fun ls hl => ?_)
      refine lv_iload_n hx hb dX1_cofactor_92 rfl (lv_at hl 6 rfl) ?_
      refine lv_iload_n hx hb dX1_cofactor_93 rfl (lv_at hl 7 rfl) ?_
      refine zr_iadd hx hb dX1_cofactor_94 ?_
      refine lv_iconst (v := iI 1) hx hb dX1_cofactor_95 rfl ?_
      refine lv_iand hx hb dX1_cofactor_96 ?_
      refine zr_bti (z := 0) (by decide) ?_
      refine zr_if_ne (tgt := 105) hx hb dX1_cofactor_97 (by decide) (by omega) (fun c_35 => absurd c_35 (by decide)) (fun c_35 => ?_)
      refine lv_lload hx hb dX1_cofactor_100 (lv_at hl 0 rfl) ?_
      refine lv_goto (tgt := 108) hx hb dX1_cofactor_102 (by decide) ?_
      rw [hQ]
      exact ze_Rl hx hb hr hlk dX1_cofactor_108 (rfl)
    · skip
      refine zr_if_ne (tgt := 8) hx hb dX1_cofactor_1 (by decide) (by omega) (fun c_36 => ?_) (fun c_36 => absurd c_36 (by decide))
      refine lv_iconst (v := iI 0) hx hb dX1_cofactor_8 rfl ?_
      refine lv_iconst (v := iI 3) hx hb dX1_cofactor_9 rfl ?_
      refine zr_imul hx hb dX1_cofactor_10 ?_
      refine lv_istore_n (lv' := [(3, .int (iI (0 * 3))), (0, .ref ea), (1, .int (iI 2)), (2, .int (iI 1))]) hx hb dX1_cofactor_11 rfl hl (by decide) rfl (fun ls hl => ?_)
      refine lv_iload_n hx hb dX1_cofactor_12 rfl (lv_at hl 2 rfl) ?_
      refine lv_iconst (v := iI 2) hx hb dX1_cofactor_13 rfl ?_
      refine zr_icmp_ne (tgt := 21) hx hb dX1_cofactor_14 (by decide) (by omega) (by omega) (fun c_37 => absurd c_37 (by decide)) (fun c_37 => ?_)
      refine lv_iconst (v := iI 1) hx hb dX1_cofactor_17 rfl ?_
      refine lv_goto (tgt := 22) hx hb dX1_cofactor_18 (by decide) ?_
      refine lv_iconst (v := iI 3) hx hb dX1_cofactor_22 rfl ?_
      refine zr_imul hx hb dX1_cofactor_23 ?_
      refine lv_istore (lv' := [(4, .int (iI (1 * 3))), (3, .int (iI (0 * 3))), (0, .ref ea), (1, .int (iI 2)), (2, .int (iI 1))]) hx hb dX1_cofactor_24 hl (by decide) rfl (fun ls hl => ?_)
      refine lv_iload_n hx hb dX1_cofactor_26 rfl (lv_at hl 4 rfl) ?_
      refine zr_if_ne (tgt := 34) hx hb dX1_cofactor_27 (by decide) (by omega) (fun c_38 => ?_) (fun c_38 => absurd c_38 (by decide))
      refine lv_iconst (v := iI 0) hx hb dX1_cofactor_34 rfl ?_
      refine lv_istore (lv' := [(5, .int (iI 0)), (4, .int (iI (1 * 3))), (3, .int (iI (0 * 3))), (0, .ref ea), (1, .int (iI 2)), (2, .int (iI 1))]) hx hb dX1_cofactor_35 hl (by decide) rfl (fun ls hl => ?_)
      refine lv_iload_n hx hb dX1_cofactor_37 rfl (lv_at hl 5 rfl) ?_
      refine lv_iconst (v := iI 2) hx hb dX1_cofactor_38 rfl ?_
      refine zr_icmp_ne (tgt := 46) hx hb dX1_cofactor_39 (by decide) (by omega) (by omega) (fun c_39 => ?_) (fun c_39 => absurd c_39 (by decide))
      refine lv_iconst (v := iI 2) hx hb dX1_cofactor_46 rfl ?_
      refine lv_istore (lv' := [(6, .int (iI 2)), (5, .int (iI 0)), (4, .int (iI (1 * 3))), (3, .int (iI (0 * 3))), (0, .ref ea), (1, .int (iI 2)), (2, .int (iI 1))]) hx hb dX1_cofactor_47 hl (by decide) rfl (fun ls hl => ?_)
      refine lv_aload_n hx hb dX1_cofactor_49 rfl (lv_at hl 4 rfl) ?_
      refine va_get (D := D) (ci := 1) (v := .ref etb) (C := RX1) (T := TX1) (N := 14) hx hb hU inlX1 hown hK hP 0 rfl rfl 10 (by decide) (hU _ kf_RX1_31) (fun _ h9 => h9) rfl dX1_cofactor_50 ?_
      refine lv_iload_n hx hb dX1_cofactor_53 rfl (lv_at hl 3 rfl) ?_
      refine lv_iload hx hb dX1_cofactor_54 (lv_at hl 1 rfl) ?_
      refine zr_iadd hx hb dX1_cofactor_56 ?_
      refine zr_lald hx hb hK hP 7 1 rfl rfl (3 * 0 + 0) (by omega) (by omega) (Nat.le_of_ble_eq_true rfl) dX1_cofactor_57 ?_
      refine zr_rwl (v := (B 0 0)) (hB 0 0 (by omega) (by omega)) ?_
      refine lv_aload_n hx hb dX1_cofactor_58 rfl (lv_at hl 4 rfl) ?_
      refine va_get (D := D) (ci := 1) (v := .ref etb) (C := RX1) (T := TX1) (N := 14) hx hb hU inlX1 hown hK hP 0 rfl rfl 10 (by decide) (hU _ kf_RX1_31) (fun _ h9 => h9) rfl dX1_cofactor_59 ?_
      refine lv_iload hx hb dX1_cofactor_62 (lv_at hl 2 rfl) ?_
      refine lv_iload hx hb dX1_cofactor_64 (lv_at hl 0 rfl) ?_
      refine zr_iadd hx hb dX1_cofactor_66 ?_
      refine zr_lald hx hb hK hP 7 1 rfl rfl (3 * 1 + 2) (by omega) (by omega) (Nat.le_of_ble_eq_true rfl) dX1_cofactor_67 ?_
      refine zr_rwl (v := (B 1 2)) (hB 1 2 (by omega) (by omega)) ?_
      refine zr_lmul hx hb dX1_cofactor_68 ?_
      refine lv_aload_n hx hb dX1_cofactor_69 rfl (lv_at hl 4 rfl) ?_
      refine va_get (D := D) (ci := 1) (v := .ref etb) (C := RX1) (T := TX1) (N := 14) hx hb hU inlX1 hown hK hP 0 rfl rfl 10 (by decide) (hU _ kf_RX1_31) (fun _ h9 => h9) rfl dX1_cofactor_70 ?_
      refine lv_iload_n hx hb dX1_cofactor_73 rfl (lv_at hl 3 rfl) ?_
      refine lv_iload hx hb dX1_cofactor_74 (lv_at hl 0 rfl) ?_
      refine zr_iadd hx hb dX1_cofactor_76 ?_
      refine zr_lald hx hb hK hP 7 1 rfl rfl (3 * 0 + 2) (by omega) (by omega) (Nat.le_of_ble_eq_true rfl) dX1_cofactor_77 ?_
      refine zr_rwl (v := (B 0 2)) (hB 0 2 (by omega) (by omega)) ?_
      refine lv_aload_n hx hb dX1_cofactor_78 rfl (lv_at hl 4 rfl) ?_
      refine va_get (D := D) (ci := 1) (v := .ref etb) (C := RX1) (T := TX1) (N := 14) hx hb hU inlX1 hown hK hP 0 rfl rfl 10 (by decide) (hU _ kf_RX1_31) (fun _ h9 => h9) rfl dX1_cofactor_79 ?_
      refine lv_iload hx hb dX1_cofactor_82 (lv_at hl 2 rfl) ?_
      refine lv_iload hx hb dX1_cofactor_84 (lv_at hl 1 rfl) ?_
      refine zr_iadd hx hb dX1_cofactor_86 ?_
      refine zr_lald hx hb hK hP 7 1 rfl rfl (3 * 1 + 0) (by omega) (by omega) (Nat.le_of_ble_eq_true rfl) dX1_cofactor_87 ?_
      refine zr_rwl (v := (B 1 0)) (hB 1 0 (by omega) (by omega)) ?_
      refine zr_lmul hx hb dX1_cofactor_88 ?_
      refine zr_lsub hx hb dX1_cofactor_89 ?_
      refine lv_lstore (lv' := [(7, .long (lI (((B 0 0) * (B 1 2)) - ((B 0 2) * (B 1 0))))), (6, .int (iI 2)), (5, .int (iI 0)), (4, .int (iI (1 * 3))), (3, .int (iI (0 * 3))), (0, .ref ea), (1, .int (iI 2)), (2, .int (iI 1))]) hx hb dX1_cofactor_90 hl (by decide) rfl (fun ls hl => ?_)
      refine lv_iload_n hx hb dX1_cofactor_92 rfl (lv_at hl 6 rfl) ?_
      refine lv_iload_n hx hb dX1_cofactor_93 rfl (lv_at hl 7 rfl) ?_
      refine zr_iadd hx hb dX1_cofactor_94 ?_
      refine lv_iconst (v := iI 1) hx hb dX1_cofactor_95 rfl ?_
      refine lv_iand hx hb dX1_cofactor_96 ?_
      refine zr_bti (z := 1) (by decide) ?_
      refine zr_if_ne (tgt := 105) hx hb dX1_cofactor_97 (by decide) (by omega) (fun c_40 => ?_) (fun c_40 => absurd c_40 (by decide))
      refine lv_lload hx hb dX1_cofactor_105 (lv_at hl 0 rfl) ?_
      refine zr_lneg hx hb dX1_cofactor_107 ?_
      rw [hQ]
      exact ze_Rl hx hb hr hlk dX1_cofactor_108 (rfl)
    · skip
      refine zr_if_ne (tgt := 8) hx hb dX1_cofactor_1 (by decide) (by omega) (fun c_41 => ?_) (fun c_41 => absurd c_41 (by decide))
      refine lv_iconst (v := iI 0) hx hb dX1_cofactor_8 rfl ?_
      refine lv_iconst (v := iI 3) hx hb dX1_cofactor_9 rfl ?_
      refine zr_imul hx hb dX1_cofactor_10 ?_
      refine lv_istore_n (lv' := [(3, .int (iI (0 * 3))), (0, .ref ea), (1, .int (iI 2)), (2, .int (iI 2))]) hx hb dX1_cofactor_11 rfl hl (by decide) rfl (fun ls hl => ?_)
      refine lv_iload_n hx hb dX1_cofactor_12 rfl (lv_at hl 2 rfl) ?_
      refine lv_iconst (v := iI 2) hx hb dX1_cofactor_13 rfl ?_
      refine zr_icmp_ne (tgt := 21) hx hb dX1_cofactor_14 (by decide) (by omega) (by omega) (fun c_42 => absurd c_42 (by decide)) (fun c_42 => ?_)
      refine lv_iconst (v := iI 1) hx hb dX1_cofactor_17 rfl ?_
      refine lv_goto (tgt := 22) hx hb dX1_cofactor_18 (by decide) ?_
      refine lv_iconst (v := iI 3) hx hb dX1_cofactor_22 rfl ?_
      refine zr_imul hx hb dX1_cofactor_23 ?_
      refine lv_istore (lv' := [(4, .int (iI (1 * 3))), (3, .int (iI (0 * 3))), (0, .ref ea), (1, .int (iI 2)), (2, .int (iI 2))]) hx hb dX1_cofactor_24 hl (by decide) rfl (fun ls hl => ?_)
      refine lv_iload_n hx hb dX1_cofactor_26 rfl (lv_at hl 4 rfl) ?_
      refine zr_if_ne (tgt := 34) hx hb dX1_cofactor_27 (by decide) (by omega) (fun c_43 => ?_) (fun c_43 => absurd c_43 (by decide))
      refine lv_iconst (v := iI 0) hx hb dX1_cofactor_34 rfl ?_
      refine lv_istore (lv' := [(5, .int (iI 0)), (4, .int (iI (1 * 3))), (3, .int (iI (0 * 3))), (0, .ref ea), (1, .int (iI 2)), (2, .int (iI 2))]) hx hb dX1_cofactor_35 hl (by decide) rfl (fun ls hl => ?_)
      refine lv_iload_n hx hb dX1_cofactor_37 rfl (lv_at hl 5 rfl) ?_
      refine lv_iconst (v := iI 2) hx hb dX1_cofactor_38 rfl ?_
      refine zr_icmp_ne (tgt := 46) hx hb dX1_cofactor_39 (by decide) (by omega) (by omega) (fun c_44 => absurd c_44 (by decide)) (fun c_44 => ?_)
      refine lv_iconst (v := iI 1) hx hb dX1_cofactor_42 rfl ?_
      refine lv_goto (tgt := 47) hx hb dX1_cofactor_43 (by decide) ?_
      refine lv_istore (lv' := [(6, .int (iI 1)), (5, .int (iI 0)), (4, .int (iI (1 * 3))), (3, .int (iI (0 * 3))), (0, .ref ea), (1, .int (iI 2)), (2, .int (iI 2))]) hx hb dX1_cofactor_47 hl (by decide) rfl (fun ls hl => ?_)
      refine lv_aload_n hx hb dX1_cofactor_49 rfl (lv_at hl 4 rfl) ?_
      refine va_get (D := D) (ci := 1) (v := .ref etb) (C := RX1) (T := TX1) (N := 14) hx hb hU inlX1 hown hK hP 0 rfl rfl 10 (by decide) (hU _ kf_RX1_31) (fun _ h9 => h9) rfl dX1_cofactor_50 ?_
      refine lv_iload_n hx hb dX1_cofactor_53 rfl (lv_at hl 3 rfl) ?_
      refine lv_iload hx hb dX1_cofactor_54 (lv_at hl 1 rfl) ?_
      refine zr_iadd hx hb dX1_cofactor_56 ?_
      refine zr_lald hx hb hK hP 7 1 rfl rfl (3 * 0 + 0) (by omega) (by omega) (Nat.le_of_ble_eq_true rfl) dX1_cofactor_57 ?_
      refine zr_rwl (v := (B 0 0)) (hB 0 0 (by omega) (by omega)) ?_
      refine lv_aload_n hx hb dX1_cofactor_58 rfl (lv_at hl 4 rfl) ?_
      refine va_get (D := D) (ci := 1) (v := .ref etb) (C := RX1) (T := TX1) (N := 14) hx hb hU inlX1 hown hK hP 0 rfl rfl 10 (by decide) (hU _ kf_RX1_31) (fun _ h9 => h9) rfl dX1_cofactor_59 ?_
      refine lv_iload hx hb dX1_cofactor_62 (lv_at hl 2 rfl) ?_
      refine lv_iload hx hb dX1_cofactor_64 (lv_at hl 0 rfl) ?_
      refine zr_iadd hx hb dX1_cofactor_66 ?_
      refine zr_lald hx hb hK hP 7 1 rfl rfl (3 * 1 + 1) (by omega) (by omega) (Nat.le_of_ble_eq_true rfl) dX1_cofactor_67 ?_
      refine zr_rwl (v := (B 1 1)) (hB 1 1 (by omega) (by omega)) ?_
      refine zr_lmul hx hb dX1_cofactor_68 ?_
      refine lv_aload_n hx hb dX1_cofactor_69 rfl (lv_at hl 4 rfl) ?_
      refine va_get (D := D) (ci := 1) (v := .ref etb) (C := RX1) (T := TX1) (N := 14) hx hb hU inlX1 hown hK hP 0 rfl rfl 10 (by decide) (hU _ kf_RX1_31) (fun _ h9 => h9) rfl dX1_cofactor_70 ?_
      refine lv_iload_n hx hb dX1_cofactor_73 rfl (lv_at hl 3 rfl) ?_
      refine lv_iload hx hb dX1_cofactor_74 (lv_at hl 0 rfl) ?_
      refine zr_iadd hx hb dX1_cofactor_76 ?_
      refine zr_lald hx hb hK hP 7 1 rfl rfl (3 * 0 + 1) (by omega) (by omega) (Nat.le_of_ble_eq_true rfl) dX1_cofactor_77 ?_
      refine zr_rwl (v := (B 0 1)) (hB 0 1 (by omega) (by omega)) ?_
      refine lv_aload_n hx hb dX1_cofactor_78 rfl (lv_at hl 4 rfl) ?_
      refine va_get (D := D) (ci := 1) (v := .ref etb) (C := RX1) (T := TX1) (N := 14) hx hb hU inlX1 hown hK hP 0 rfl rfl 10 (by decide) (hU _ kf_RX1_31) (fun _ h9 => h9) rfl dX1_cofactor_79 ?_
      refine lv_iload hx hb dX1_cofactor_82 (lv_at hl 2 rfl) ?_
      refine lv_iload hx hb dX1_cofactor_84 (lv_at hl 1 rfl) ?_
      refine zr_iadd hx hb dX1_cofactor_86 ?_
      refine zr_lald hx hb hK hP 7 1 rfl rfl (3 * 1 + 0) (by omega) (by omega) (Nat.le_of_ble_eq_true rfl) dX1_cofactor_87 ?_
      refine zr_rwl (v := (B 1 0)) (hB 1 0 (by omega) (by omega)) ?_
      refine zr_lmul hx hb dX1_cofactor_88 ?_
      refine zr_lsub hx hb dX1_cofactor_89 ?_
      refine lv_lstore (lv' := [(7, .long (lI (((B 0 0) * (B 1 1)) - ((B 0 1) * (B 1 0))))), (6, .int (iI 1)), (5, .int (iI 0)), (4, .int (iI (1 * 3))), (3, .int (iI (0 * 3))), (0, .ref ea), (1, .int (iI 2)), (2, .int (iI 2))]) hx hb dX1_cofactor_90 hl (by decide) rfl (fun ls hl => ?_)
      refine lv_iload_n hx hb dX1_cofactor_92 rfl (lv_at hl 6 rfl) ?_
      refine lv_iload_n hx hb dX1_cofactor_93 rfl (lv_at hl 7 rfl) ?_
      refine zr_iadd hx hb dX1_cofactor_94 ?_
      refine lv_iconst (v := iI 1) hx hb dX1_cofactor_95 rfl ?_
      refine lv_iand hx hb dX1_cofactor_96 ?_
      refine zr_bti (z := 0) (by decide) ?_
      refine zr_if_ne (tgt := 105) hx hb dX1_cofactor_97 (by decide) (by omega) (fun c_45 => absurd c_45 (by decide)) (fun c_45 => ?_)
      refine lv_lload hx hb dX1_cofactor_100 (lv_at hl 0 rfl) ?_
      refine lv_goto (tgt := 108) hx hb dX1_cofactor_102 (by decide) ?_
      rw [hQ]
      exact ze_Rl hx hb hr hlk dX1_cofactor_108 (rfl)

set_option maxHeartbeats 4000000 in
set_option maxRecDepth 100000 in
theorem c_X1_share (l : Launch) (D : va_G) (cI cL cG cM : ClassId) (ea elk ept efr etk ebt etp etb ewn ga gx gy gz : Nat) (lk : Nat → Int) (cnt : Int) (snd : Int) (pt : Nat → Int) (fr : Nat → Int) (tk : Nat → Int) (bt : Nat → Int) (tps : Nat → Int) (wp : Int) (tbl : Nat → Int) (wn : Nat → Int) (pl : Int) (wh : Int) (g : Nat → Int) (B : Nat → Nat → Int) (W1 : Nat → Int) (pz : Int) (hB : ∀ i j : Nat, i < 3 → j < 3 → tbl (3 * i + j) = B i j) (hwn : ∀ i : Nat, i < 3 → wn i = W1 i) (hpl : pl = pz) (hpz : 1 ≤ pz ∧ pz ≤ 4) (hwh : wh = kD B) (sz : Nat) : Met l yX1_share (wU yX1_share cX1_share 4 none) (rmF 1 28) (pcW D (tyA cI cL cG cM) [(ea, .inr (1, [.ref ga, .ref elk, .int (iI cnt), .int (iI snd), .ref ept, .ref efr, .ref etk, .ref ebt, .ref etp, .int (iI wp), .ref etb, .ref ewn, .int (iI pl), .long (lI wh)])), (elk, .inl (cI, 4, .inl (aI lk))), (ept, .inl (cL, 4, .inr (.inl (aL pt)))), (efr, .inl (cI, 10, .inl (aI fr))), (etk, .inl (cI, 4, .inl (aI tk))), (ebt, .inl (cI, 16, .inl (aI bt))), (etp, .inl (cI, 4, .inl (aI tps))), (etb, .inl (cL, 9, .inr (.inl (aL tbl)))), (ewn, .inl (cL, 3, .inr (.inl (aL wn)))), (ga, .inr (2, [.int (iI (g 0)), .ref gx, .ref gy, .ref gz, .int (iI (g 1)), .int (iI (g 2)), .int (iI (g 3)), .int (iI (g 4)), .int (iI (g 5)), .int (iI (g 6)), .int (iI (g 7)), .int (iI (g 8)), .int (iI (g 9))])), (gx, .inl (cI, 10, .inl (aI (fun j => g (10 + 3 * j))))), (gy, .inl (cI, 10, .inl (aI (fun j => g (11 + 3 * j))))), (gz, .inl (cI, 10, .inl (aI (fun j => g (12 + 3 * j)))))] [.ref ea] sz) (qWv (S := (Nat → Int)) D (tyA cI cL cG cM) (va_A [(ea, .inr (1, [.ref ga, .ref elk, .int (iI cnt), .int (iI snd), .ref ept, .ref efr, .ref etk, .ref ebt, .ref etp, .int (iI wp), .ref etb, .ref ewn, .int (iI pl), .long (lI wh)])), (elk, .inl (cI, 4, .inl (aI lk))), (ept, .inl (cL, 4, .inr (.inl (aL pt)))), (efr, .inl (cI, 10, .inl (aI fr))), (etk, .inl (cI, 4, .inl (aI tk))), (ebt, .inl (cI, 16, .inl (aI bt))), (etp, .inl (cI, 4, .inl (aI tps))), (etb, .inl (cL, 9, .inr (.inl (aL tbl)))), (ewn, .inl (cL, 3, .inr (.inl (aL wn)))), (ga, .inr (2, [.int (iI (g 0)), .ref gx, .ref gy, .ref gz, .int (iI (g 1)), .int (iI (g 2)), .int (iI (g 3)), .int (iI (g 4)), .int (iI (g 5)), .int (iI (g 6)), .int (iI (g 7)), .int (iI (g 8)), .int (iI (g 9))])), (gx, .inl (cI, 10, .inl (aI (fun j => g (10 + 3 * j))))), (gy, .inl (cI, 10, .inl (aI (fun j => g (11 + 3 * j))))), (gz, .inl (cI, 10, .inl (aI (fun j => g (12 + 3 * j)))))] sz) (fun (u : (Nat → Int)) => ∀ j : Nat, j < 4 → u j = kP B W1 pz j) (fun (u : (Nat → Int)) => [(ea, .inr (1, [.ref ga, .ref elk, .int (iI cnt), .int (iI snd), .ref ept, .ref efr, .ref etk, .ref ebt, .ref etp, .int (iI wp), .ref etb, .ref ewn, .int (iI pl), .long (lI wh)])), (elk, .inl (cI, 4, .inl (aI lk))), (ept, .inl (cL, 4, .inr (.inl (aL u)))), (efr, .inl (cI, 10, .inl (aI fr))), (etk, .inl (cI, 4, .inl (aI tk))), (ebt, .inl (cI, 16, .inl (aI bt))), (etp, .inl (cI, 4, .inl (aI tps))), (etb, .inl (cL, 9, .inr (.inl (aL tbl)))), (ewn, .inl (cL, 3, .inr (.inl (aL wn)))), (ga, .inr (2, [.int (iI (g 0)), .ref gx, .ref gy, .ref gz, .int (iI (g 1)), .int (iI (g 2)), .int (iI (g 3)), .int (iI (g 4)), .int (iI (g 5)), .int (iI (g 6)), .int (iI (g 7)), .int (iI (g 8)), .int (iI (g 9))])), (gx, .inl (cI, 10, .inl (aI (fun j => g (10 + 3 * j))))), (gy, .inl (cI, 10, .inl (aI (fun j => g (11 + 3 * j))))), (gz, .inl (cI, 10, .inl (aI (fun j => g (12 + 3 * j)))))])) 0 0 (va_A [(ea, .inr (1, [.ref ga, .ref elk, .int (iI cnt), .int (iI snd), .ref ept, .ref efr, .ref etk, .ref ebt, .ref etp, .int (iI wp), .ref etb, .ref ewn, .int (iI pl), .long (lI wh)])), (elk, .inl (cI, 4, .inl (aI lk))), (ept, .inl (cL, 4, .inr (.inl (aL pt)))), (efr, .inl (cI, 10, .inl (aI fr))), (etk, .inl (cI, 4, .inl (aI tk))), (ebt, .inl (cI, 16, .inl (aI bt))), (etp, .inl (cI, 4, .inl (aI tps))), (etb, .inl (cL, 9, .inr (.inl (aL tbl)))), (ewn, .inl (cL, 3, .inr (.inl (aL wn)))), (ga, .inr (2, [.int (iI (g 0)), .ref gx, .ref gy, .ref gz, .int (iI (g 1)), .int (iI (g 2)), .int (iI (g 3)), .int (iI (g 4)), .int (iI (g 5)), .int (iI (g 6)), .int (iI (g 7)), .int (iI (g 8)), .int (iI (g 9))])), (gx, .inl (cI, 10, .inl (aI (fun j => g (10 + 3 * j))))), (gy, .inl (cI, 10, .inl (aI (fun j => g (11 + 3 * j))))), (gz, .inl (cI, 10, .inl (aI (fun j => g (12 + 3 * j)))))] sz) := by
  refine zm_W (own := RX1) (lv := [(0, .ref ea)]) (QF := fun A => qWv (S := (Nat → Int)) D (tyA cI cL cG cM) A (fun (u : (Nat → Int)) => ∀ j : Nat, j < 4 → u j = kP B W1 pz j) (fun (u : (Nat → Int)) => [(ea, .inr (1, [.ref ga, .ref elk, .int (iI cnt), .int (iI snd), .ref ept, .ref efr, .ref etk, .ref ebt, .ref etp, .int (iI wp), .ref etb, .ref ewn, .int (iI pl), .long (lI wh)])), (elk, .inl (cI, 4, .inl (aI lk))), (ept, .inl (cL, 4, .inr (.inl (aL u)))), (efr, .inl (cI, 10, .inl (aI fr))), (etk, .inl (cI, 4, .inl (aI tk))), (ebt, .inl (cI, 16, .inl (aI bt))), (etp, .inl (cI, 4, .inl (aI tps))), (etb, .inl (cL, 9, .inr (.inl (aL tbl)))), (ewn, .inl (cL, 3, .inr (.inl (aL wn)))), (ga, .inr (2, [.int (iI (g 0)), .ref gx, .ref gy, .ref gz, .int (iI (g 1)), .int (iI (g 2)), .int (iI (g 3)), .int (iI (g 4)), .int (iI (g 5)), .int (iI (g 6)), .int (iI (g 7)), .int (iI (g 8)), .int (iI (g 9))])), (gx, .inl (cI, 10, .inl (aI (fun j => g (10 + 3 * j))))), (gy, .inl (cI, 10, .inl (aI (fun j => g (11 + 3 * j))))), (gz, .inl (cI, 10, .inl (aI (fun j => g (12 + 3 * j)))))])) (by decide) rfl (Nat.le_of_ble_eq_true rfl) rfl ?_
  intro p e s m below meth c A args Q hx hb hr hml hown hU hlk hnm hP hK hNst hD hA hS hsz hQ ls hl
  obtain ⟨H, hH⟩ : ∃ H, H = s.heap := ⟨_, rfl⟩
  obtain ⟨locs, hlocs⟩ : ∃ locs : List Loc, locs = [] := ⟨_, rfl⟩
  rw [← hlocs]
  have hW0 : ∀ (H : Heap) (locs : List Loc), va_P D vwCl [(ea, .inr (1, [.ref ga, .ref elk, .int (iI cnt), .int (iI snd), .ref ept, .ref efr, .ref etk, .ref ebt, .ref etp, .int (iI wp), .ref etb, .ref ewn, .int (iI pl), .long (lI wh)])), (elk, .inl (cI, 4, .inl (aI lk))), (ept, .inl (cL, 4, .inr (.inl (aL pt)))), (efr, .inl (cI, 10, .inl (aI fr))), (etk, .inl (cI, 4, .inl (aI tk))), (ebt, .inl (cI, 16, .inl (aI bt))), (etp, .inl (cI, 4, .inl (aI tps))), (etb, .inl (cL, 9, .inr (.inl (aL tbl)))), (ewn, .inl (cL, 3, .inr (.inl (aL wn)))), (ga, .inr (2, [.int (iI (g 0)), .ref gx, .ref gy, .ref gz, .int (iI (g 1)), .int (iI (g 2)), .int (iI (g 3)), .int (iI (g 4)), .int (iI (g 5)), .int (iI (g 6)), .int (iI (g 7)), .int (iI (g 8)), .int (iI (g 9))])), (gx, .inl (cI, 10, .inl (aI (fun j => g (10 + 3 * j))))), (gy, .inl (cI, 10, .inl (aI (fun j => g (11 + 3 * j))))), (gz, .inl (cI, 10, .inl (aI (fun j => g (12 + 3 * j)))))] H → va_D A [(ea, .inr (1, [.ref ga, .ref elk, .int (iI cnt), .int (iI snd), .ref ept, .ref efr, .ref etk, .ref ebt, .ref etp, .int (iI wp), .ref etb, .ref ewn, .int (iI pl), .long (lI wh)])), (elk, .inl (cI, 4, .inl (aI lk))), (ept, .inl (cL, 4, .inr (.inl (aL pt)))), (efr, .inl (cI, 10, .inl (aI fr))), (etk, .inl (cI, 4, .inl (aI tk))), (ebt, .inl (cI, 16, .inl (aI bt))), (etp, .inl (cI, 4, .inl (aI tps))), (etb, .inl (cL, 9, .inr (.inl (aL tbl)))), (ewn, .inl (cL, 3, .inr (.inl (aL wn)))), (ga, .inr (2, [.int (iI (g 0)), .ref gx, .ref gy, .ref gz, .int (iI (g 1)), .int (iI (g 2)), .int (iI (g 3)), .int (iI (g 4)), .int (iI (g 5)), .int (iI (g 6)), .int (iI (g 7)), .int (iI (g 8)), .int (iI (g 9))])), (gx, .inl (cI, 10, .inl (aI (fun j => g (10 + 3 * j))))), (gy, .inl (cI, 10, .inl (aI (fun j => g (11 + 3 * j))))), (gz, .inl (cI, 10, .inl (aI (fun j => g (12 + 3 * j)))))] → va_S A s.heap H locs → W p l e (rmF 1 28) s m args below meth c H locs 0 0 Q (F0 m 0 ls []) := by
    clear hP hD hS hH hlocs H locs
    intro H locs hP hD hS
    refine lv_aload_n hx hb dX1_share_0 rfl (lv_at hl 0 rfl) ?_
    refine va_get (D := D) (ci := 1) (v := .ref ept) (C := RX1) (T := TX1) (N := 14) hx hb hU inlX1 hown hK hP 0 rfl rfl 4 (by decide) (hU _ kf_RX1_15) (fun _ h9 => h9) rfl dX1_share_1 ?_
    refine lv_iconst (v := iI 0) hx hb dX1_share_4 rfl ?_
    refine lv_aload_n hx hb dX1_share_5 rfl (lv_at hl 0 rfl) ?_
    refine va_get (D := D) (ci := 1) (v := .int (iI pl)) (C := RX1) (T := TX1) (N := 14) hx hb hU inlX1 hown hK hP 0 rfl rfl 12 (by decide) (hU _ kf_RX1_41) (fun _ h9 => h9) rfl dX1_share_6 ?_
    refine zr_i2l hx hb dX1_share_9 (by omega) ?_
    refine lv_aload_n hx hb dX1_share_10 rfl (lv_at hl 0 rfl) ?_
    refine va_get (D := D) (ci := 1) (v := .long (lI wh)) (C := RX1) (T := TX1) (N := 14) hx hb hU inlX1 hown hK hP 0 rfl rfl 13 (by decide) (hU _ kf_RX1_52) (fun _ h9 => h9) rfl dX1_share_11 ?_
    refine zr_lmul hx hb dX1_share_14 ?_
    refine zr_last hx hb hK hP hD hS 2 1 rfl rfl 0 (by omega) (by omega) (Nat.le_of_ble_eq_true rfl) dX1_share_15 (fun H locs hP hD hS => ?_)
    have hP : va_P D vwCl [(ea, .inr (1, [.ref ga, .ref elk, .int (iI cnt), .int (iI snd), .ref ept, .ref efr, .ref etk, .ref ebt, .ref etp, .int (iI wp), .ref etb, .ref ewn, .int (iI pl), .long (lI wh)])), (elk, .inl (cI, 4, .inl (aI lk))), (ept, .inl (cL, 4, .inr (.inl (aL (va_up pt 0 (pl * wh)))))), (efr, .inl (cI, 10, .inl (aI fr))), (etk, .inl (cI, 4, .inl (aI tk))), (ebt, .inl (cI, 16, .inl (aI bt))), (etp, .inl (cI, 4, .inl (aI tps))), (etb, .inl (cL, 9, .inr (.inl (aL tbl)))), (ewn, .inl (cL, 3, .inr (.inl (aL wn)))), (ga, .inr (2, [.int (iI (g 0)), .ref gx, .ref gy, .ref gz, .int (iI (g 1)), .int (iI (g 2)), .int (iI (g 3)), .int (iI (g 4)), .int (iI (g 5)), .int (iI (g 6)), .int (iI (g 7)), .int (iI (g 8)), .int (iI (g 9))])), (gx, .inl (cI, 10, .inl (aI (fun j => g (10 + 3 * j))))), (gy, .inl (cI, 10, .inl (aI (fun j => g (11 + 3 * j))))), (gz, .inl (cI, 10, .inl (aI (fun j => g (12 + 3 * j)))))] H := hP
    have hD : va_D A [(ea, .inr (1, [.ref ga, .ref elk, .int (iI cnt), .int (iI snd), .ref ept, .ref efr, .ref etk, .ref ebt, .ref etp, .int (iI wp), .ref etb, .ref ewn, .int (iI pl), .long (lI wh)])), (elk, .inl (cI, 4, .inl (aI lk))), (ept, .inl (cL, 4, .inr (.inl (aL (va_up pt 0 (pl * wh)))))), (efr, .inl (cI, 10, .inl (aI fr))), (etk, .inl (cI, 4, .inl (aI tk))), (ebt, .inl (cI, 16, .inl (aI bt))), (etp, .inl (cI, 4, .inl (aI tps))), (etb, .inl (cL, 9, .inr (.inl (aL tbl)))), (ewn, .inl (cL, 3, .inr (.inl (aL wn)))), (ga, .inr (2, [.int (iI (g 0)), .ref gx, .ref gy, .ref gz, .int (iI (g 1)), .int (iI (g 2)), .int (iI (g 3)), .int (iI (g 4)), .int (iI (g 5)), .int (iI (g 6)), .int (iI (g 7)), .int (iI (g 8)), .int (iI (g 9))])), (gx, .inl (cI, 10, .inl (aI (fun j => g (10 + 3 * j))))), (gy, .inl (cI, 10, .inl (aI (fun j => g (11 + 3 * j))))), (gz, .inl (cI, 10, .inl (aI (fun j => g (12 + 3 * j)))))] := hD
    refine lv_iconst (v := iI 0) hx hb dX1_share_16 rfl ?_
    refine lv_istore_n (lv' := [(1, .int (iI 0)), (0, .ref ea)]) hx hb dX1_share_17 rfl hl (by decide) rfl (fun ls hl => ?_)
    have LP18 : ∀ (n : Nat), ∀ (j : Nat) (pt1 : Nat → Int), (j ≤ 3) → (pt1 0 = pz * kD B - sm (kq B W1) j) → (∀ a : Nat, a < j → pt1 (a + 1) = kq B W1 a) → (3 < j + n) → ∀ (H : Heap) (locs : List Loc), va_P D vwCl [(ea, .inr (1, [.ref ga, .ref elk, .int (iI cnt), .int (iI snd), .ref ept, .ref efr, .ref etk, .ref ebt, .ref etp, .int (iI wp), .ref etb, .ref ewn, .int (iI pl), .long (lI wh)])), (elk, .inl (cI, 4, .inl (aI lk))), (ept, .inl (cL, 4, .inr (.inl (aL pt1)))), (efr, .inl (cI, 10, .inl (aI fr))), (etk, .inl (cI, 4, .inl (aI tk))), (ebt, .inl (cI, 16, .inl (aI bt))), (etp, .inl (cI, 4, .inl (aI tps))), (etb, .inl (cL, 9, .inr (.inl (aL tbl)))), (ewn, .inl (cL, 3, .inr (.inl (aL wn)))), (ga, .inr (2, [.int (iI (g 0)), .ref gx, .ref gy, .ref gz, .int (iI (g 1)), .int (iI (g 2)), .int (iI (g 3)), .int (iI (g 4)), .int (iI (g 5)), .int (iI (g 6)), .int (iI (g 7)), .int (iI (g 8)), .int (iI (g 9))])), (gx, .inl (cI, 10, .inl (aI (fun j => g (10 + 3 * j))))), (gy, .inl (cI, 10, .inl (aI (fun j => g (11 + 3 * j))))), (gz, .inl (cI, 10, .inl (aI (fun j => g (12 + 3 * j)))))] H → va_D A [(ea, .inr (1, [.ref ga, .ref elk, .int (iI cnt), .int (iI snd), .ref ept, .ref efr, .ref etk, .ref ebt, .ref etp, .int (iI wp), .ref etb, .ref ewn, .int (iI pl), .long (lI wh)])), (elk, .inl (cI, 4, .inl (aI lk))), (ept, .inl (cL, 4, .inr (.inl (aL pt1)))), (efr, .inl (cI, 10, .inl (aI fr))), (etk, .inl (cI, 4, .inl (aI tk))), (ebt, .inl (cI, 16, .inl (aI bt))), (etp, .inl (cI, 4, .inl (aI tps))), (etb, .inl (cL, 9, .inr (.inl (aL tbl)))), (ewn, .inl (cL, 3, .inr (.inl (aL wn)))), (ga, .inr (2, [.int (iI (g 0)), .ref gx, .ref gy, .ref gz, .int (iI (g 1)), .int (iI (g 2)), .int (iI (g 3)), .int (iI (g 4)), .int (iI (g 5)), .int (iI (g 6)), .int (iI (g 7)), .int (iI (g 8)), .int (iI (g 9))])), (gx, .inl (cI, 10, .inl (aI (fun j => g (10 + 3 * j))))), (gy, .inl (cI, 10, .inl (aI (fun j => g (11 + 3 * j))))), (gz, .inl (cI, 10, .inl (aI (fun j => g (12 + 3 * j)))))] → va_S A s.heap H locs → ∀ (ls : Array Slot), lv_has ls 4 [(0, .ref ea), (1, .int (iI (j : Int)))] → W p l e (rmF 1 28) s m args below meth c H locs 0 0 Q (F0 m 18 ls []) := by
      intro n
      induction n with
      | zero =>
        intro j pt1 hj hp0 hp1 hfu
        exfalso
        omega
      | succ n ih18 =>
        intro j pt1 hj hp0 hp1 hfu H locs hP hD hS ls hl
        refine lv_iload_n hx hb dX1_share_18 rfl (lv_at hl 1 rfl) ?_
        refine lv_iconst (v := iI 3) hx hb dX1_share_19 rfl ?_
        refine zr_icmp_ge (tgt := 90) hx hb dX1_share_20 (by decide) (by omega) (by omega) (fun c_1 => ?_) (fun c_1 => ?_)
        · skip
          rw [hQ]
          exact ze_Wv hx hb hr hlk dX1_share_90 pt1 (fun a h => by rcases (show a = 0 ∨ a = 1 ∨ a = 2 ∨ a = 3 by omega) with rfl | rfl | rfl | rfl; (rw [hp0, show j = 3 by omega]; show _ = pz * kD B - kq B W1 0 - kq B W1 1 - kq B W1 2; show pz * kD B - (0 + kq B W1 0 + kq B W1 1 + kq B W1 2) = _; omega); (exact hp1 0 (by omega)); (exact hp1 1 (by omega)); (exact hp1 2 (by omega))) hP hK hD hS
        · skip
          refine lv_aload_n hx hb dX1_share_23 rfl (lv_at hl 0 rfl) ?_
          refine va_get (D := D) (ci := 1) (v := .ref ewn) (C := RX1) (T := TX1) (N := 14) hx hb hU inlX1 hown hK hP 0 rfl rfl 11 (by decide) (hU _ kf_RX1_34) (fun _ h9 => h9) rfl dX1_share_24 ?_
          refine lv_iconst (v := iI 0) hx hb dX1_share_27 rfl ?_
          refine zr_lald hx hb hK hP 8 1 rfl rfl 0 (by omega) (by omega) (Nat.le_of_ble_eq_true rfl) dX1_share_28 ?_
          refine zr_rwl (v := (W1 0)) (hwn 0 (by omega)) ?_
          refine lv_aload_n hx hb dX1_share_29 rfl (lv_at hl 0 rfl) ?_
          refine lv_iconst (v := iI 0) hx hb dX1_share_30 rfl ?_
          refine lv_iload_n hx hb dX1_share_31 rfl (lv_at hl 1 rfl) ?_
          refine zc_Vl (As := [.int (iI 0), .int (iI (j : Int))]) (rest := [.long (lI (W1 0))]) (c_X1_cofactor l D cI cL cG cM ea elk ept efr etk ebt etp etb ewn ga gx gy gz lk cnt snd pt1 fr tk bt tps wp tbl wn pl wh g 0 j B (by omega) (by omega) (hB)) hx hb hml hown hU hl.1 ct_yX1_cofactor cv_yX1_cofactor km_RX1_73 hK hNst hP 1 0 rfl rfl rfl ⟨rfl, rfl⟩ ⟨Nat.le_of_ble_eq_true rfl, Nat.le_of_ble_eq_true rfl⟩ rfl rfl (Nat.le_of_ble_eq_true rfl) dX1_share_32 ⟨Nat.le_of_ble_eq_true rfl, Nat.le_of_ble_eq_true rfl⟩ ?_
          refine zr_lmul hx hb dX1_share_35 ?_
          refine lv_aload_n hx hb dX1_share_36 rfl (lv_at hl 0 rfl) ?_
          refine va_get (D := D) (ci := 1) (v := .ref ewn) (C := RX1) (T := TX1) (N := 14) hx hb hU inlX1 hown hK hP 0 rfl rfl 11 (by decide) (hU _ kf_RX1_34) (fun _ h9 => h9) rfl dX1_share_37 ?_
          refine lv_iconst (v := iI 1) hx hb dX1_share_40 rfl ?_
          refine zr_lald hx hb hK hP 8 1 rfl rfl 1 (by omega) (by omega) (Nat.le_of_ble_eq_true rfl) dX1_share_41 ?_
          refine zr_rwl (v := (W1 1)) (hwn 1 (by omega)) ?_
          refine lv_aload_n hx hb dX1_share_42 rfl (lv_at hl 0 rfl) ?_
          refine lv_iconst (v := iI 1) hx hb dX1_share_43 rfl ?_
          refine lv_iload_n hx hb dX1_share_44 rfl (lv_at hl 1 rfl) ?_
          refine zc_Vl (As := [.int (iI 1), .int (iI (j : Int))]) (rest := [.long (lI (W1 1)), .long (lI ((W1 0) * (kN B 0 j)))]) (c_X1_cofactor l D cI cL cG cM ea elk ept efr etk ebt etp etb ewn ga gx gy gz lk cnt snd pt1 fr tk bt tps wp tbl wn pl wh g 1 j B (by omega) (by omega) (hB)) hx hb hml hown hU hl.1 ct_yX1_cofactor cv_yX1_cofactor km_RX1_73 hK hNst hP 1 0 rfl rfl rfl ⟨rfl, rfl⟩ ⟨Nat.le_of_ble_eq_true rfl, Nat.le_of_ble_eq_true rfl⟩ rfl rfl (Nat.le_of_ble_eq_true rfl) dX1_share_45 ⟨Nat.le_of_ble_eq_true rfl, Nat.le_of_ble_eq_true rfl⟩ ?_
          refine zr_lmul hx hb dX1_share_48 ?_
          refine zr_ladd hx hb dX1_share_49 ?_
          refine lv_aload_n hx hb dX1_share_50 rfl (lv_at hl 0 rfl) ?_
          refine va_get (D := D) (ci := 1) (v := .ref ewn) (C := RX1) (T := TX1) (N := 14) hx hb hU inlX1 hown hK hP 0 rfl rfl 11 (by decide) (hU _ kf_RX1_34) (fun _ h9 => h9) rfl dX1_share_51 ?_
          refine lv_iconst (v := iI 2) hx hb dX1_share_54 rfl ?_
          refine zr_lald hx hb hK hP 8 1 rfl rfl 2 (by omega) (by omega) (Nat.le_of_ble_eq_true rfl) dX1_share_55 ?_
          refine zr_rwl (v := (W1 2)) (hwn 2 (by omega)) ?_
          refine lv_aload_n hx hb dX1_share_56 rfl (lv_at hl 0 rfl) ?_
          refine lv_iconst (v := iI 2) hx hb dX1_share_57 rfl ?_
          refine lv_iload_n hx hb dX1_share_58 rfl (lv_at hl 1 rfl) ?_
          refine zc_Vl (As := [.int (iI 2), .int (iI (j : Int))]) (rest := [.long (lI (W1 2)), .long (lI (((W1 0) * (kN B 0 j)) + ((W1 1) * (kN B 1 j))))]) (c_X1_cofactor l D cI cL cG cM ea elk ept efr etk ebt etp etb ewn ga gx gy gz lk cnt snd pt1 fr tk bt tps wp tbl wn pl wh g 2 j B (by omega) (by omega) (hB)) hx hb hml hown hU hl.1 ct_yX1_cofactor cv_yX1_cofactor km_RX1_73 hK hNst hP 1 0 rfl rfl rfl ⟨rfl, rfl⟩ ⟨Nat.le_of_ble_eq_true rfl, Nat.le_of_ble_eq_true rfl⟩ rfl rfl (Nat.le_of_ble_eq_true rfl) dX1_share_59 ⟨Nat.le_of_ble_eq_true rfl, Nat.le_of_ble_eq_true rfl⟩ ?_
          refine zr_lmul hx hb dX1_share_62 ?_
          refine zr_ladd hx hb dX1_share_63 ?_
          refine zr_rwl (v := (kq B W1 j)) (rfl) ?_
          refine lv_lstore_n (lv' := [(2, .long (lI (kq B W1 j))), (0, .ref ea), (1, .int (iI (j : Int)))]) hx hb dX1_share_64 rfl hl (by decide) rfl (fun ls hl => ?_)
          refine lv_aload_n hx hb dX1_share_65 rfl (lv_at hl 1 rfl) ?_
          refine va_get (D := D) (ci := 1) (v := .ref ept) (C := RX1) (T := TX1) (N := 14) hx hb hU inlX1 hown hK hP 0 rfl rfl 4 (by decide) (hU _ kf_RX1_15) (fun _ h9 => h9) rfl dX1_share_66 ?_
          refine lv_iload_n hx hb dX1_share_69 rfl (lv_at hl 2 rfl) ?_
          refine lv_iconst (v := iI 1) hx hb dX1_share_70 rfl ?_
          refine zr_iadd hx hb dX1_share_71 ?_
          refine lv_lload_n hx hb dX1_share_72 rfl (lv_at hl 0 rfl) ?_
          refine zr_last hx hb hK hP hD hS 2 1 rfl rfl (j + 1) (by omega) (by omega) (Nat.le_of_ble_eq_true rfl) dX1_share_73 (fun H locs hP hD hS => ?_)
          have hP : va_P D vwCl [(ea, .inr (1, [.ref ga, .ref elk, .int (iI cnt), .int (iI snd), .ref ept, .ref efr, .ref etk, .ref ebt, .ref etp, .int (iI wp), .ref etb, .ref ewn, .int (iI pl), .long (lI wh)])), (elk, .inl (cI, 4, .inl (aI lk))), (ept, .inl (cL, 4, .inr (.inl (aL (va_up pt1 (j + 1) (kq B W1 j)))))), (efr, .inl (cI, 10, .inl (aI fr))), (etk, .inl (cI, 4, .inl (aI tk))), (ebt, .inl (cI, 16, .inl (aI bt))), (etp, .inl (cI, 4, .inl (aI tps))), (etb, .inl (cL, 9, .inr (.inl (aL tbl)))), (ewn, .inl (cL, 3, .inr (.inl (aL wn)))), (ga, .inr (2, [.int (iI (g 0)), .ref gx, .ref gy, .ref gz, .int (iI (g 1)), .int (iI (g 2)), .int (iI (g 3)), .int (iI (g 4)), .int (iI (g 5)), .int (iI (g 6)), .int (iI (g 7)), .int (iI (g 8)), .int (iI (g 9))])), (gx, .inl (cI, 10, .inl (aI (fun j => g (10 + 3 * j))))), (gy, .inl (cI, 10, .inl (aI (fun j => g (11 + 3 * j))))), (gz, .inl (cI, 10, .inl (aI (fun j => g (12 + 3 * j)))))] H := hP
          have hD : va_D A [(ea, .inr (1, [.ref ga, .ref elk, .int (iI cnt), .int (iI snd), .ref ept, .ref efr, .ref etk, .ref ebt, .ref etp, .int (iI wp), .ref etb, .ref ewn, .int (iI pl), .long (lI wh)])), (elk, .inl (cI, 4, .inl (aI lk))), (ept, .inl (cL, 4, .inr (.inl (aL (va_up pt1 (j + 1) (kq B W1 j)))))), (efr, .inl (cI, 10, .inl (aI fr))), (etk, .inl (cI, 4, .inl (aI tk))), (ebt, .inl (cI, 16, .inl (aI bt))), (etp, .inl (cI, 4, .inl (aI tps))), (etb, .inl (cL, 9, .inr (.inl (aL tbl)))), (ewn, .inl (cL, 3, .inr (.inl (aL wn)))), (ga, .inr (2, [.int (iI (g 0)), .ref gx, .ref gy, .ref gz, .int (iI (g 1)), .int (iI (g 2)), .int (iI (g 3)), .int (iI (g 4)), .int (iI (g 5)), .int (iI (g 6)), .int (iI (g 7)), .int (iI (g 8)), .int (iI (g 9))])), (gx, .inl (cI, 10, .inl (aI (fun j => g (10 + 3 * j))))), (gy, .inl (cI, 10, .inl (aI (fun j => g (11 + 3 * j))))), (gz, .inl (cI, 10, .inl (aI (fun j => g (12 + 3 * j)))))] := hD
          refine lv_aload_n hx hb dX1_share_74 rfl (lv_at hl 1 rfl) ?_
          refine va_get (D := D) (ci := 1) (v := .ref ept) (C := RX1) (T := TX1) (N := 14) hx hb hU inlX1 hown hK hP 0 rfl rfl 4 (by decide) (hU _ kf_RX1_15) (fun _ h9 => h9) rfl dX1_share_75 ?_
          refine lv_iconst (v := iI 0) hx hb dX1_share_78 rfl ?_
          refine lv_dup2_11 hx hb dX1_share_79 rfl rfl ?_
          refine zr_lald hx hb hK hP 2 1 rfl rfl 0 (by omega) (by omega) (Nat.le_of_ble_eq_true rfl) dX1_share_80 ?_
          refine lv_lload_n hx hb dX1_share_81 rfl (lv_at hl 0 rfl) ?_
          refine zr_lsub hx hb dX1_share_82 ?_
          refine zr_last hx hb hK hP hD hS 2 1 rfl rfl 0 (by omega) (by omega) (Nat.le_of_ble_eq_true rfl) dX1_share_83 (fun H locs hP hD hS => ?_)
          have hP : va_P D vwCl [(ea, .inr (1, [.ref ga, .ref elk, .int (iI cnt), .int (iI snd), .ref ept, .ref efr, .ref etk, .ref ebt, .ref etp, .int (iI wp), .ref etb, .ref ewn, .int (iI pl), .long (lI wh)])), (elk, .inl (cI, 4, .inl (aI lk))), (ept, .inl (cL, 4, .inr (.inl (aL (va_up (va_up pt1 (j + 1) (kq B W1 j)) 0 (((va_up pt1 (j + 1) (kq B W1 j)) 0) - (kq B W1 j))))))), (efr, .inl (cI, 10, .inl (aI fr))), (etk, .inl (cI, 4, .inl (aI tk))), (ebt, .inl (cI, 16, .inl (aI bt))), (etp, .inl (cI, 4, .inl (aI tps))), (etb, .inl (cL, 9, .inr (.inl (aL tbl)))), (ewn, .inl (cL, 3, .inr (.inl (aL wn)))), (ga, .inr (2, [.int (iI (g 0)), .ref gx, .ref gy, .ref gz, .int (iI (g 1)), .int (iI (g 2)), .int (iI (g 3)), .int (iI (g 4)), .int (iI (g 5)), .int (iI (g 6)), .int (iI (g 7)), .int (iI (g 8)), .int (iI (g 9))])), (gx, .inl (cI, 10, .inl (aI (fun j => g (10 + 3 * j))))), (gy, .inl (cI, 10, .inl (aI (fun j => g (11 + 3 * j))))), (gz, .inl (cI, 10, .inl (aI (fun j => g (12 + 3 * j)))))] H := hP
          have hD : va_D A [(ea, .inr (1, [.ref ga, .ref elk, .int (iI cnt), .int (iI snd), .ref ept, .ref efr, .ref etk, .ref ebt, .ref etp, .int (iI wp), .ref etb, .ref ewn, .int (iI pl), .long (lI wh)])), (elk, .inl (cI, 4, .inl (aI lk))), (ept, .inl (cL, 4, .inr (.inl (aL (va_up (va_up pt1 (j + 1) (kq B W1 j)) 0 (((va_up pt1 (j + 1) (kq B W1 j)) 0) - (kq B W1 j))))))), (efr, .inl (cI, 10, .inl (aI fr))), (etk, .inl (cI, 4, .inl (aI tk))), (ebt, .inl (cI, 16, .inl (aI bt))), (etp, .inl (cI, 4, .inl (aI tps))), (etb, .inl (cL, 9, .inr (.inl (aL tbl)))), (ewn, .inl (cL, 3, .inr (.inl (aL wn)))), (ga, .inr (2, [.int (iI (g 0)), .ref gx, .ref gy, .ref gz, .int (iI (g 1)), .int (iI (g 2)), .int (iI (g 3)), .int (iI (g 4)), .int (iI (g 5)), .int (iI (g 6)), .int (iI (g 7)), .int (iI (g 8)), .int (iI (g 9))])), (gx, .inl (cI, 10, .inl (aI (fun j => g (10 + 3 * j))))), (gy, .inl (cI, 10, .inl (aI (fun j => g (11 + 3 * j))))), (gz, .inl (cI, 10, .inl (aI (fun j => g (12 + 3 * j)))))] := hD
          refine lv_iinc (v := iI ((j : Int) + 1)) (lv' := [(1, .int (iI ((j : Int) + 1))), (2, .long (lI (kq B W1 j))), (0, .ref ea)]) hx hb dX1_share_84 hl (k := 2) rfl (iI_add _ _) (by decide) rfl (fun ls hl => ?_)
          refine lv_goto (tgt := 18) hx hb dX1_share_87 (by decide) ?_
          exact ih18 (j + 1) (va_up (va_up pt1 (j + 1) (kq B W1 j)) 0 (((va_up pt1 (j + 1) (kq B W1 j)) 0) - (kq B W1 j))) (by omega) (by rw [va_up_self, va_up_ne _ _ (by omega), hp0]; show _ = _ - (sm (kq B W1) j + kq B W1 j); omega) (fun a h => by rw [va_up_ne _ _ (by omega)]; rcases Nat.lt_or_ge a j with e | e; (rw [va_up_ne _ _ (by omega)]; exact hp1 a e); (rw [show a = j by omega, va_up_self])) (by omega) _ _ hP hD hS ls (lv_sub hl [2, 0] rfl)
    exact LP18 4 0 (va_up pt 0 (pl * wh)) (by omega) (by rw [va_up_self, hpl, hwh]; exact (Int.sub_zero _).symm) (fun a h => absurd h (Nat.not_lt_zero a)) (by omega) _ _ hP hD hS ls (lv_sub hl [1, 0] rfl)
  rw [hlocs]
  exact hW0 s.heap [] hP hD hS

set_option maxHeartbeats 4000000 in
set_option maxRecDepth 100000 in
theorem c_X1_turnSigns (l : Launch) (D : va_G) (cI cL cG cM : ClassId) (ea elk ept efr etk ebt etp etb ewn ga gx gy gz : Nat) (lk : Nat → Int) (cnt : Int) (snd : Int) (pt : Nat → Int) (fr : Nat → Int) (tk : Nat → Int) (bt : Nat → Int) (tps : Nat → Int) (wp : Int) (tbl : Nat → Int) (wn : Nat → Int) (pl : Int) (wh : Int) (g : Nat → Int) (sz : Nat) : Met l yX1_turnSigns (wU yX1_turnSigns cX1_turnSigns 2 none) (rmF 0 0) (pcW D (tyA cI cL cG cM) [(ea, .inr (1, [.ref ga, .ref elk, .int (iI cnt), .int (iI snd), .ref ept, .ref efr, .ref etk, .ref ebt, .ref etp, .int (iI wp), .ref etb, .ref ewn, .int (iI pl), .long (lI wh)])), (elk, .inl (cI, 4, .inl (aI lk))), (ept, .inl (cL, 4, .inr (.inl (aL pt)))), (efr, .inl (cI, 10, .inl (aI fr))), (etk, .inl (cI, 4, .inl (aI tk))), (ebt, .inl (cI, 16, .inl (aI bt))), (etp, .inl (cI, 4, .inl (aI tps))), (etb, .inl (cL, 9, .inr (.inl (aL tbl)))), (ewn, .inl (cL, 3, .inr (.inl (aL wn)))), (ga, .inr (2, [.int (iI (g 0)), .ref gx, .ref gy, .ref gz, .int (iI (g 1)), .int (iI (g 2)), .int (iI (g 3)), .int (iI (g 4)), .int (iI (g 5)), .int (iI (g 6)), .int (iI (g 7)), .int (iI (g 8)), .int (iI (g 9))])), (gx, .inl (cI, 10, .inl (aI (fun j => g (10 + 3 * j))))), (gy, .inl (cI, 10, .inl (aI (fun j => g (11 + 3 * j))))), (gz, .inl (cI, 10, .inl (aI (fun j => g (12 + 3 * j)))))] [.ref ea] sz) (qWv (S := (Nat → Int) × Int) D (tyA cI cL cG cM) (va_A [(ea, .inr (1, [.ref ga, .ref elk, .int (iI cnt), .int (iI snd), .ref ept, .ref efr, .ref etk, .ref ebt, .ref etp, .int (iI wp), .ref etb, .ref ewn, .int (iI pl), .long (lI wh)])), (elk, .inl (cI, 4, .inl (aI lk))), (ept, .inl (cL, 4, .inr (.inl (aL pt)))), (efr, .inl (cI, 10, .inl (aI fr))), (etk, .inl (cI, 4, .inl (aI tk))), (ebt, .inl (cI, 16, .inl (aI bt))), (etp, .inl (cI, 4, .inl (aI tps))), (etb, .inl (cL, 9, .inr (.inl (aL tbl)))), (ewn, .inl (cL, 3, .inr (.inl (aL wn)))), (ga, .inr (2, [.int (iI (g 0)), .ref gx, .ref gy, .ref gz, .int (iI (g 1)), .int (iI (g 2)), .int (iI (g 3)), .int (iI (g 4)), .int (iI (g 5)), .int (iI (g 6)), .int (iI (g 7)), .int (iI (g 8)), .int (iI (g 9))])), (gx, .inl (cI, 10, .inl (aI (fun j => g (10 + 3 * j))))), (gy, .inl (cI, 10, .inl (aI (fun j => g (11 + 3 * j))))), (gz, .inl (cI, 10, .inl (aI (fun j => g (12 + 3 * j)))))] sz) (fun (u : (Nat → Int) × Int) => u.2 = -wh ∧ ∀ j : Nat, j < 4 → u.1 j = -pt j) (fun (u : (Nat → Int) × Int) => [(ea, .inr (1, [.ref ga, .ref elk, .int (iI cnt), .int (iI snd), .ref ept, .ref efr, .ref etk, .ref ebt, .ref etp, .int (iI wp), .ref etb, .ref ewn, .int (iI pl), .long (lI u.2)])), (elk, .inl (cI, 4, .inl (aI lk))), (ept, .inl (cL, 4, .inr (.inl (aL u.1)))), (efr, .inl (cI, 10, .inl (aI fr))), (etk, .inl (cI, 4, .inl (aI tk))), (ebt, .inl (cI, 16, .inl (aI bt))), (etp, .inl (cI, 4, .inl (aI tps))), (etb, .inl (cL, 9, .inr (.inl (aL tbl)))), (ewn, .inl (cL, 3, .inr (.inl (aL wn)))), (ga, .inr (2, [.int (iI (g 0)), .ref gx, .ref gy, .ref gz, .int (iI (g 1)), .int (iI (g 2)), .int (iI (g 3)), .int (iI (g 4)), .int (iI (g 5)), .int (iI (g 6)), .int (iI (g 7)), .int (iI (g 8)), .int (iI (g 9))])), (gx, .inl (cI, 10, .inl (aI (fun j => g (10 + 3 * j))))), (gy, .inl (cI, 10, .inl (aI (fun j => g (11 + 3 * j))))), (gz, .inl (cI, 10, .inl (aI (fun j => g (12 + 3 * j)))))])) 0 0 (va_A [(ea, .inr (1, [.ref ga, .ref elk, .int (iI cnt), .int (iI snd), .ref ept, .ref efr, .ref etk, .ref ebt, .ref etp, .int (iI wp), .ref etb, .ref ewn, .int (iI pl), .long (lI wh)])), (elk, .inl (cI, 4, .inl (aI lk))), (ept, .inl (cL, 4, .inr (.inl (aL pt)))), (efr, .inl (cI, 10, .inl (aI fr))), (etk, .inl (cI, 4, .inl (aI tk))), (ebt, .inl (cI, 16, .inl (aI bt))), (etp, .inl (cI, 4, .inl (aI tps))), (etb, .inl (cL, 9, .inr (.inl (aL tbl)))), (ewn, .inl (cL, 3, .inr (.inl (aL wn)))), (ga, .inr (2, [.int (iI (g 0)), .ref gx, .ref gy, .ref gz, .int (iI (g 1)), .int (iI (g 2)), .int (iI (g 3)), .int (iI (g 4)), .int (iI (g 5)), .int (iI (g 6)), .int (iI (g 7)), .int (iI (g 8)), .int (iI (g 9))])), (gx, .inl (cI, 10, .inl (aI (fun j => g (10 + 3 * j))))), (gy, .inl (cI, 10, .inl (aI (fun j => g (11 + 3 * j))))), (gz, .inl (cI, 10, .inl (aI (fun j => g (12 + 3 * j)))))] sz) := by
  refine zm_W (own := RX1) (lv := [(0, .ref ea)]) (QF := fun A => qWv (S := (Nat → Int) × Int) D (tyA cI cL cG cM) A (fun (u : (Nat → Int) × Int) => u.2 = -wh ∧ ∀ j : Nat, j < 4 → u.1 j = -pt j) (fun (u : (Nat → Int) × Int) => [(ea, .inr (1, [.ref ga, .ref elk, .int (iI cnt), .int (iI snd), .ref ept, .ref efr, .ref etk, .ref ebt, .ref etp, .int (iI wp), .ref etb, .ref ewn, .int (iI pl), .long (lI u.2)])), (elk, .inl (cI, 4, .inl (aI lk))), (ept, .inl (cL, 4, .inr (.inl (aL u.1)))), (efr, .inl (cI, 10, .inl (aI fr))), (etk, .inl (cI, 4, .inl (aI tk))), (ebt, .inl (cI, 16, .inl (aI bt))), (etp, .inl (cI, 4, .inl (aI tps))), (etb, .inl (cL, 9, .inr (.inl (aL tbl)))), (ewn, .inl (cL, 3, .inr (.inl (aL wn)))), (ga, .inr (2, [.int (iI (g 0)), .ref gx, .ref gy, .ref gz, .int (iI (g 1)), .int (iI (g 2)), .int (iI (g 3)), .int (iI (g 4)), .int (iI (g 5)), .int (iI (g 6)), .int (iI (g 7)), .int (iI (g 8)), .int (iI (g 9))])), (gx, .inl (cI, 10, .inl (aI (fun j => g (10 + 3 * j))))), (gy, .inl (cI, 10, .inl (aI (fun j => g (11 + 3 * j))))), (gz, .inl (cI, 10, .inl (aI (fun j => g (12 + 3 * j)))))])) (by decide) rfl (Nat.le_of_ble_eq_true rfl) rfl ?_
  intro p e s m below meth c A args Q hx hb hr hml hown hU hlk hnm hP hK hNst hD hA hS hsz hQ ls hl
  obtain ⟨H, hH⟩ : ∃ H, H = s.heap := ⟨_, rfl⟩
  obtain ⟨locs, hlocs⟩ : ∃ locs : List Loc, locs = [] := ⟨_, rfl⟩
  rw [← hlocs]
  have hW0 : ∀ (H : Heap) (locs : List Loc), va_P D vwCl [(ea, .inr (1, [.ref ga, .ref elk, .int (iI cnt), .int (iI snd), .ref ept, .ref efr, .ref etk, .ref ebt, .ref etp, .int (iI wp), .ref etb, .ref ewn, .int (iI pl), .long (lI wh)])), (elk, .inl (cI, 4, .inl (aI lk))), (ept, .inl (cL, 4, .inr (.inl (aL pt)))), (efr, .inl (cI, 10, .inl (aI fr))), (etk, .inl (cI, 4, .inl (aI tk))), (ebt, .inl (cI, 16, .inl (aI bt))), (etp, .inl (cI, 4, .inl (aI tps))), (etb, .inl (cL, 9, .inr (.inl (aL tbl)))), (ewn, .inl (cL, 3, .inr (.inl (aL wn)))), (ga, .inr (2, [.int (iI (g 0)), .ref gx, .ref gy, .ref gz, .int (iI (g 1)), .int (iI (g 2)), .int (iI (g 3)), .int (iI (g 4)), .int (iI (g 5)), .int (iI (g 6)), .int (iI (g 7)), .int (iI (g 8)), .int (iI (g 9))])), (gx, .inl (cI, 10, .inl (aI (fun j => g (10 + 3 * j))))), (gy, .inl (cI, 10, .inl (aI (fun j => g (11 + 3 * j))))), (gz, .inl (cI, 10, .inl (aI (fun j => g (12 + 3 * j)))))] H → va_D A [(ea, .inr (1, [.ref ga, .ref elk, .int (iI cnt), .int (iI snd), .ref ept, .ref efr, .ref etk, .ref ebt, .ref etp, .int (iI wp), .ref etb, .ref ewn, .int (iI pl), .long (lI wh)])), (elk, .inl (cI, 4, .inl (aI lk))), (ept, .inl (cL, 4, .inr (.inl (aL pt)))), (efr, .inl (cI, 10, .inl (aI fr))), (etk, .inl (cI, 4, .inl (aI tk))), (ebt, .inl (cI, 16, .inl (aI bt))), (etp, .inl (cI, 4, .inl (aI tps))), (etb, .inl (cL, 9, .inr (.inl (aL tbl)))), (ewn, .inl (cL, 3, .inr (.inl (aL wn)))), (ga, .inr (2, [.int (iI (g 0)), .ref gx, .ref gy, .ref gz, .int (iI (g 1)), .int (iI (g 2)), .int (iI (g 3)), .int (iI (g 4)), .int (iI (g 5)), .int (iI (g 6)), .int (iI (g 7)), .int (iI (g 8)), .int (iI (g 9))])), (gx, .inl (cI, 10, .inl (aI (fun j => g (10 + 3 * j))))), (gy, .inl (cI, 10, .inl (aI (fun j => g (11 + 3 * j))))), (gz, .inl (cI, 10, .inl (aI (fun j => g (12 + 3 * j)))))] → va_S A s.heap H locs → W p l e (rmF 0 0) s m args below meth c H locs 0 0 Q (F0 m 0 ls []) := by
    clear hP hD hS hH hlocs H locs
    intro H locs hP hD hS
    refine lv_aload_n hx hb dX1_turnSigns_0 rfl (lv_at hl 0 rfl) ?_
    refine lv_aload_n hx hb dX1_turnSigns_1 rfl (lv_at hl 0 rfl) ?_
    refine va_get (D := D) (ci := 1) (v := .long (lI wh)) (C := RX1) (T := TX1) (N := 14) hx hb hU inlX1 hown hK hP 0 rfl rfl 13 (by decide) (hU _ kf_RX1_52) (fun _ h9 => h9) rfl dX1_turnSigns_2 ?_
    refine zr_lneg hx hb dX1_turnSigns_5 ?_
    refine va_put (D := D) (ci := 1) (v := .long (lI (-wh))) (ty := .long) (C := RX1) (T := TX1) (N := 14) hx hb hU inlX1 tyX1 tyX1_ok nmX1 hown hK hP hD hS 0 rfl rfl 13 (by decide) (hU _ kf_RX1_52) (fun _ h9 => h9) rfl (by decide +kernel) rfl rfl (Nat.le_of_ble_eq_true rfl) dX1_turnSigns_6 (fun H locs hP hD hS => ?_)
    have hP : va_P D vwCl [(ea, .inr (1, [.ref ga, .ref elk, .int (iI cnt), .int (iI snd), .ref ept, .ref efr, .ref etk, .ref ebt, .ref etp, .int (iI wp), .ref etb, .ref ewn, .int (iI pl), .long (lI (-wh))])), (elk, .inl (cI, 4, .inl (aI lk))), (ept, .inl (cL, 4, .inr (.inl (aL pt)))), (efr, .inl (cI, 10, .inl (aI fr))), (etk, .inl (cI, 4, .inl (aI tk))), (ebt, .inl (cI, 16, .inl (aI bt))), (etp, .inl (cI, 4, .inl (aI tps))), (etb, .inl (cL, 9, .inr (.inl (aL tbl)))), (ewn, .inl (cL, 3, .inr (.inl (aL wn)))), (ga, .inr (2, [.int (iI (g 0)), .ref gx, .ref gy, .ref gz, .int (iI (g 1)), .int (iI (g 2)), .int (iI (g 3)), .int (iI (g 4)), .int (iI (g 5)), .int (iI (g 6)), .int (iI (g 7)), .int (iI (g 8)), .int (iI (g 9))])), (gx, .inl (cI, 10, .inl (aI (fun j => g (10 + 3 * j))))), (gy, .inl (cI, 10, .inl (aI (fun j => g (11 + 3 * j))))), (gz, .inl (cI, 10, .inl (aI (fun j => g (12 + 3 * j)))))] H := hP
    have hD : va_D A [(ea, .inr (1, [.ref ga, .ref elk, .int (iI cnt), .int (iI snd), .ref ept, .ref efr, .ref etk, .ref ebt, .ref etp, .int (iI wp), .ref etb, .ref ewn, .int (iI pl), .long (lI (-wh))])), (elk, .inl (cI, 4, .inl (aI lk))), (ept, .inl (cL, 4, .inr (.inl (aL pt)))), (efr, .inl (cI, 10, .inl (aI fr))), (etk, .inl (cI, 4, .inl (aI tk))), (ebt, .inl (cI, 16, .inl (aI bt))), (etp, .inl (cI, 4, .inl (aI tps))), (etb, .inl (cL, 9, .inr (.inl (aL tbl)))), (ewn, .inl (cL, 3, .inr (.inl (aL wn)))), (ga, .inr (2, [.int (iI (g 0)), .ref gx, .ref gy, .ref gz, .int (iI (g 1)), .int (iI (g 2)), .int (iI (g 3)), .int (iI (g 4)), .int (iI (g 5)), .int (iI (g 6)), .int (iI (g 7)), .int (iI (g 8)), .int (iI (g 9))])), (gx, .inl (cI, 10, .inl (aI (fun j => g (10 + 3 * j))))), (gy, .inl (cI, 10, .inl (aI (fun j => g (11 + 3 * j))))), (gz, .inl (cI, 10, .inl (aI (fun j => g (12 + 3 * j)))))] := hD
    refine lv_iconst (v := iI 0) hx hb dX1_turnSigns_9 rfl ?_
    refine lv_istore_n (lv' := [(1, .int (iI 0)), (0, .ref ea)]) hx hb dX1_turnSigns_10 rfl hl (by decide) rfl (fun ls hl => ?_)
    have LP11 : ∀ (n : Nat), ∀ (j : Nat) (pt1 : Nat → Int), (j ≤ 4) → (∀ a : Nat, a < 4 → pt1 a = if a < j then -pt a else pt a) → (4 < j + n) → ∀ (H : Heap) (locs : List Loc), va_P D vwCl [(ea, .inr (1, [.ref ga, .ref elk, .int (iI cnt), .int (iI snd), .ref ept, .ref efr, .ref etk, .ref ebt, .ref etp, .int (iI wp), .ref etb, .ref ewn, .int (iI pl), .long (lI (-wh))])), (elk, .inl (cI, 4, .inl (aI lk))), (ept, .inl (cL, 4, .inr (.inl (aL pt1)))), (efr, .inl (cI, 10, .inl (aI fr))), (etk, .inl (cI, 4, .inl (aI tk))), (ebt, .inl (cI, 16, .inl (aI bt))), (etp, .inl (cI, 4, .inl (aI tps))), (etb, .inl (cL, 9, .inr (.inl (aL tbl)))), (ewn, .inl (cL, 3, .inr (.inl (aL wn)))), (ga, .inr (2, [.int (iI (g 0)), .ref gx, .ref gy, .ref gz, .int (iI (g 1)), .int (iI (g 2)), .int (iI (g 3)), .int (iI (g 4)), .int (iI (g 5)), .int (iI (g 6)), .int (iI (g 7)), .int (iI (g 8)), .int (iI (g 9))])), (gx, .inl (cI, 10, .inl (aI (fun j => g (10 + 3 * j))))), (gy, .inl (cI, 10, .inl (aI (fun j => g (11 + 3 * j))))), (gz, .inl (cI, 10, .inl (aI (fun j => g (12 + 3 * j)))))] H → va_D A [(ea, .inr (1, [.ref ga, .ref elk, .int (iI cnt), .int (iI snd), .ref ept, .ref efr, .ref etk, .ref ebt, .ref etp, .int (iI wp), .ref etb, .ref ewn, .int (iI pl), .long (lI (-wh))])), (elk, .inl (cI, 4, .inl (aI lk))), (ept, .inl (cL, 4, .inr (.inl (aL pt1)))), (efr, .inl (cI, 10, .inl (aI fr))), (etk, .inl (cI, 4, .inl (aI tk))), (ebt, .inl (cI, 16, .inl (aI bt))), (etp, .inl (cI, 4, .inl (aI tps))), (etb, .inl (cL, 9, .inr (.inl (aL tbl)))), (ewn, .inl (cL, 3, .inr (.inl (aL wn)))), (ga, .inr (2, [.int (iI (g 0)), .ref gx, .ref gy, .ref gz, .int (iI (g 1)), .int (iI (g 2)), .int (iI (g 3)), .int (iI (g 4)), .int (iI (g 5)), .int (iI (g 6)), .int (iI (g 7)), .int (iI (g 8)), .int (iI (g 9))])), (gx, .inl (cI, 10, .inl (aI (fun j => g (10 + 3 * j))))), (gy, .inl (cI, 10, .inl (aI (fun j => g (11 + 3 * j))))), (gz, .inl (cI, 10, .inl (aI (fun j => g (12 + 3 * j)))))] → va_S A s.heap H locs → ∀ (ls : Array Slot), lv_has ls 2 [(0, .ref ea), (1, .int (iI (j : Int)))] → W p l e (rmF 0 0) s m args below meth c H locs 0 0 Q (F0 m 11 ls []) := by
      intro n
      induction n with
      | zero =>
        intro j pt1 hj hp1 hfu
        exfalso
        omega
      | succ n ih11 =>
        intro j pt1 hj hp1 hfu H locs hP hD hS ls hl
        refine lv_iload_n hx hb dX1_turnSigns_11 rfl (lv_at hl 1 rfl) ?_
        refine lv_iconst (v := iI 4) hx hb dX1_turnSigns_12 rfl ?_
        refine zr_icmp_ge (tgt := 35) hx hb dX1_turnSigns_13 (by decide) (by omega) (by omega) (fun c_1 => ?_) (fun c_1 => ?_)
        · skip
          rw [hQ]
          exact ze_Wv hx hb hr hlk dX1_turnSigns_35 (pt1, (-wh)) (⟨rfl, fun a h => (hp1 a h).trans (if_pos (by omega))⟩) hP hK hD hS
        · skip
          refine lv_aload_n hx hb dX1_turnSigns_16 rfl (lv_at hl 0 rfl) ?_
          refine va_get (D := D) (ci := 1) (v := .ref ept) (C := RX1) (T := TX1) (N := 14) hx hb hU inlX1 hown hK hP 0 rfl rfl 4 (by decide) (hU _ kf_RX1_15) (fun _ h9 => h9) rfl dX1_turnSigns_17 ?_
          refine lv_iload_n hx hb dX1_turnSigns_20 rfl (lv_at hl 1 rfl) ?_
          refine lv_aload_n hx hb dX1_turnSigns_21 rfl (lv_at hl 0 rfl) ?_
          refine va_get (D := D) (ci := 1) (v := .ref ept) (C := RX1) (T := TX1) (N := 14) hx hb hU inlX1 hown hK hP 0 rfl rfl 4 (by decide) (hU _ kf_RX1_15) (fun _ h9 => h9) rfl dX1_turnSigns_22 ?_
          refine lv_iload_n hx hb dX1_turnSigns_25 rfl (lv_at hl 1 rfl) ?_
          refine zr_lald hx hb hK hP 2 1 rfl rfl j (by omega) (by omega) (Nat.le_of_ble_eq_true rfl) dX1_turnSigns_26 ?_
          refine zr_lneg hx hb dX1_turnSigns_27 ?_
          refine zr_last hx hb hK hP hD hS 2 1 rfl rfl j (by omega) (by omega) (Nat.le_of_ble_eq_true rfl) dX1_turnSigns_28 (fun H locs hP hD hS => ?_)
          have hP : va_P D vwCl [(ea, .inr (1, [.ref ga, .ref elk, .int (iI cnt), .int (iI snd), .ref ept, .ref efr, .ref etk, .ref ebt, .ref etp, .int (iI wp), .ref etb, .ref ewn, .int (iI pl), .long (lI (-wh))])), (elk, .inl (cI, 4, .inl (aI lk))), (ept, .inl (cL, 4, .inr (.inl (aL (va_up pt1 j (-(pt1 j))))))), (efr, .inl (cI, 10, .inl (aI fr))), (etk, .inl (cI, 4, .inl (aI tk))), (ebt, .inl (cI, 16, .inl (aI bt))), (etp, .inl (cI, 4, .inl (aI tps))), (etb, .inl (cL, 9, .inr (.inl (aL tbl)))), (ewn, .inl (cL, 3, .inr (.inl (aL wn)))), (ga, .inr (2, [.int (iI (g 0)), .ref gx, .ref gy, .ref gz, .int (iI (g 1)), .int (iI (g 2)), .int (iI (g 3)), .int (iI (g 4)), .int (iI (g 5)), .int (iI (g 6)), .int (iI (g 7)), .int (iI (g 8)), .int (iI (g 9))])), (gx, .inl (cI, 10, .inl (aI (fun j => g (10 + 3 * j))))), (gy, .inl (cI, 10, .inl (aI (fun j => g (11 + 3 * j))))), (gz, .inl (cI, 10, .inl (aI (fun j => g (12 + 3 * j)))))] H := hP
          have hD : va_D A [(ea, .inr (1, [.ref ga, .ref elk, .int (iI cnt), .int (iI snd), .ref ept, .ref efr, .ref etk, .ref ebt, .ref etp, .int (iI wp), .ref etb, .ref ewn, .int (iI pl), .long (lI (-wh))])), (elk, .inl (cI, 4, .inl (aI lk))), (ept, .inl (cL, 4, .inr (.inl (aL (va_up pt1 j (-(pt1 j))))))), (efr, .inl (cI, 10, .inl (aI fr))), (etk, .inl (cI, 4, .inl (aI tk))), (ebt, .inl (cI, 16, .inl (aI bt))), (etp, .inl (cI, 4, .inl (aI tps))), (etb, .inl (cL, 9, .inr (.inl (aL tbl)))), (ewn, .inl (cL, 3, .inr (.inl (aL wn)))), (ga, .inr (2, [.int (iI (g 0)), .ref gx, .ref gy, .ref gz, .int (iI (g 1)), .int (iI (g 2)), .int (iI (g 3)), .int (iI (g 4)), .int (iI (g 5)), .int (iI (g 6)), .int (iI (g 7)), .int (iI (g 8)), .int (iI (g 9))])), (gx, .inl (cI, 10, .inl (aI (fun j => g (10 + 3 * j))))), (gy, .inl (cI, 10, .inl (aI (fun j => g (11 + 3 * j))))), (gz, .inl (cI, 10, .inl (aI (fun j => g (12 + 3 * j)))))] := hD
          refine lv_iinc (v := iI ((j : Int) + 1)) (lv' := [(1, .int (iI ((j : Int) + 1))), (0, .ref ea)]) hx hb dX1_turnSigns_29 hl (k := 1) rfl (iI_add _ _) (by decide) rfl (fun ls hl => ?_)
          refine lv_goto (tgt := 11) hx hb dX1_turnSigns_32 (by decide) ?_
          exact ih11 (j + 1) (va_up pt1 j (-(pt1 j))) (by omega) (fun a h => by by_cases e : a = j; (rw [e, va_up_self, hp1 j (by omega), if_neg (by omega), if_pos (by omega)]); (rw [va_up_ne _ _ e, hp1 a h]; by_cases q : a < j; (rw [if_pos q, if_pos (by omega)]); (rw [if_neg q, if_neg (by omega)]))) (by omega) _ _ hP hD hS ls (lv_sub hl [1, 0] rfl)
    exact LP11 5 0 pt (by omega) (fun a h => by rw [if_neg (by omega)]) (by omega) _ _ hP hD hS ls (lv_sub hl [1, 0] rfl)
  rw [hlocs]
  exact hW0 s.heap [] hP hD hS
