def R_law : String := "OreBlocksLaw"
def lw_P (b : Addr) (xs : List Int32) (args : Array Value) (s : State) : Prop := args = #[.ref b] ∧ s.IntsAt b xs ∧ xs.length ≤ 3072 ∧ (Jvm.Cond.and given_1 narrow_1).before args s = true
def lw_Q (_ : Array Value) (s : State) (o : Outcome) (t : State) : Prop := o = .returned (some (.int 1)) ∧ Framed s o t [] 600000 7302249
def lw_Z (below : List Frame) (a : Array Value) (s : State) : State → Prop := fun t => ∃ o, t.status = .running ∧ Ended t below o ∧ lw_Q a s o t
/-- the law's own end, with 1 on the stack, nothing written that was there before, its room as the claim has it -/
theorem lw_ret {p : Program} {l : Launch} {e : Env} {s : State} {m : MethodId} {below : List Frame} {meth : Method} {c : Code} {b : Nat} (hx : p.tables.exec = Jvm.exec) (hb : c.code = code) (hr : meth.sig.returnType = ret) (hlocks : meth.locks = false) {pc : Nat} {H : Heap} {ls : Array Slot} (hdg : decode code pc = .ok (.ireturn, 1)) : W p l e room_1 s m #[Value.ref b] below meth c H [] 600000 7302249 (lw_Z below #[Value.ref b] s) (F0 m pc ls [.int 1]) := by
  intro T hT X
  obtain ⟨fs, hret, hrun, hended, hW, hframe⟩ := X.leave (v := some (.int 1)) (hlocks := hlocks) (fun h => by rw [hr] at h; cases h)
  have hmeth' : T.vm.method? m = some meth := X.method'
  refine ⟨T.setFrames fs, ?_, .returned (some (.int 1)), hrun, hended, rfl, ⟨_, rfl⟩, hW, hframe⟩
  jvm_step X.here [X.here.top, hx, hb, hdg, hmeth', hr, ret, narrow_b1]
  (try refine ⟨rfl, ?_⟩); (try refine ⟨rfl, ?_⟩)
  first | (intro acts; rw [hret _ acts rfl rfl rfl]) | rw [hret _ _ rfl rfl rfl]
  exact Steps.refl _
/-- what holds at the law's entry: the machine, the code, the tables' words (any of lw_tbl by 'hts w (by decide +kernel)'), the script of L ints xs at the cell b, what the Statement gives of the start (any of its parts by flat_of_before) -/
def lw_At (p : Program) (s : State) (m : MethodId) (meth : Method) (c : Code) (b L : Nat) (xs : Nat → Int32) : Prop :=
  p.tables.exec = Jvm.exec ∧ c.code = code ∧ meth.sig.returnType = ret ∧ c.maxLocals = 4 ∧ s.vm.findClass R_law = some m.cls ∧ (∀ w ∈ lw_tbl, w.before #[Value.ref b] s = true) ∧ va_X b L xs s s.heap ∧ b < s.heap.size ∧ meth.locks = false ∧ (Jvm.Cond.and given_1 narrow_1).before #[Value.ref b] s = true

section
variable {p : Program} {l : Launch} {e : Env} {s : State} {m : MethodId} {below : List Frame} {meth : Method} {c : Code} {D : va_G} {cI cL cG cM : ClassId} {b L : Nat} {xs : Nat → Int32}
variable {m0 mw mks mbx mby mbi msn miq mtb mrt mgr mup oa ea elk ept efr etk ebt etp etb ewn ga gx gy gz ha hra ba bax bay bav ia : Nat} {pa px py pz ja jg jx jy jz : Nat → Nat}
set_option maxHeartbeats 4000000 in
set_option maxRecDepth 100000 in
theorem law_exit (hC : LC p s m #[Value.ref b] c (fun q : Nat => s.heap.size ≤ q) D cI cL cG cM b L xs) (hr : meth.sig.returnType = ret) (hlk : meth.locks = false) (i : Nat) (hi : ¬ i + 6 ≤ L) (hi2 : i ≤ L + 6) : LH p l e s m #[Value.ref b] below meth c (fun q : Nat => s.heap.size ≤ q) (lw_Z below #[Value.ref b] s) D cI cL cG cM b m0 mw mks mbx mby mbi msn miq mtb mrt mgr mup oa ea elk ept efr etk ebt etp etb ewn ga gx gy gz ha hra ba bax bay bav ia pa px py pz ja jg jx jy jz i := by
  intro w kn kp sd ks bkx bky bki bkn sn sns iq tb rt gr ups bel scl tp bt vlk vcnt vsnd vpt vfr vtk vbt vtps vwp vtbl vwn vpl vwh nx hh ir ik hRR H locs hP hD hS ls hl
  obtain ⟨hx, hb, hml, hown, hU, hK, hNst, hA, hX, hbl, hbA, hL⟩ := hC
  refine lv_iload_n hx hb dL_law_18 rfl (lv_at hl 3 rfl) ?_
  refine lv_aload_n hx hb dL_law_19 rfl (lv_at hl 0 rfl) ?_
  refine zr_slen hx hb hX hbl hbA hS dL_law_20 ?_
  refine lv_bipush (v := iI 6) hx hb dL_law_21 (by decide) ?_
  refine zr_isub hx hb dL_law_23 ?_
  refine zr_icmp_gt (tgt := 939) hx hb dL_law_24 (by decide) (by omega) (by omega) (fun c9 => ?_) (fun c9 => by exfalso; omega)
  refine lv_iconst (v := 1) hx hb dL_law_939 (by decide) ?_
  refine va_forget (fun q h => hS.2.2 q h) ?_
  refine W.widen (k := 600000) (n := 7302249) (Nat.le_of_ble_eq_true rfl) (Nat.le_of_ble_eq_true rfl) ?_
  exact lw_ret hx hb hr hlk dL_law_940
end
section
variable {p : Program} {l : Launch} {e : Env} {s : State} {m : MethodId} {args : Array Value} {below : List Frame} {meth : Method} {c : Code} {A : Nat → Prop} {Q : State → Prop} {D : va_G} {cI cL cG cM : ClassId} {b L : Nat} {xs : Nat → Int32}
variable {m0 mw mks mbx mby mbi msn miq mtb mrt mgr mup oa ea elk ept efr etk ebt etp etb ewn ga gx gy gz ha hra ba bax bay bav ia : Nat} {pa px py pz ja jg jx jy jz : Nat → Nat}
set_option maxHeartbeats 4000000 in
set_option maxRecDepth 100000 in
theorem law_body (hC : LC p s m args c A D cI cL cG cM b L xs) (i : Nat) (hi : i + 6 ≤ L) (ih : LH p l e s m args below meth c A Q D cI cL cG cM b m0 mw mks mbx mby mbi msn miq mtb mrt mgr mup oa ea elk ept efr etk ebt etp etb ewn ga gx gy gz ha hra ba bax bay bav ia pa px py pz ja jg jx jy jz (i + 6)) : LH p l e s m args below meth c A Q D cI cL cG cM b m0 mw mks mbx mby mbi msn miq mtb mrt mgr mup oa ea elk ept efr etk ebt etp etb ewn ga gx gy gz ha hra ba bax bay bav ia pa px py pz ja jg jx jy jz i := by
  intro w kn kp sd ks bkx bky bki bkn sn sns iq tb rt gr ups bel scl tp bt vlk vcnt vsnd vpt vfr vtk vbt vtps vwp vtbl vwn vpl vwh nx hh ir ik hRR H locs hP hD hS ls hl
  have hC0 := hC
  obtain ⟨hx, hb, hml, hown, hU, hK, hNst, hA, hX, hbl, hbA, hL⟩ := hC
  refine lv_iload_n hx hb dL_law_18 rfl (lv_at hl 3 rfl) ?_
  refine lv_aload_n hx hb dL_law_19 rfl (lv_at hl 0 rfl) ?_
  refine zr_slen hx hb hX hbl hbA hS dL_law_20 ?_
  refine lv_bipush (v := iI 6) hx hb dL_law_21 (by decide) ?_
  refine zr_isub hx hb dL_law_23 ?_
  refine zr_icmp_gt (tgt := 939) hx hb dL_law_24 (by decide) (by omega) (by omega) (fun c9 => by exfalso; omega) (fun c9 => ?_)
  refine lv_aload_n hx hb dL_law_27 rfl (lv_at hl 0 rfl) ?_
  refine lv_iload_n hx hb dL_law_28 rfl (lv_at hl 3 rfl) ?_
  refine zr_sld hx hb hX hbl hbA hS i rfl (by omega) hL dL_law_29 ?_
  refine lv_bipush (v := iI 31) hx hb dL_law_30 (by decide) ?_
  refine lv_iand hx hb dL_law_32 ?_
  refine zr_bti (z := sx xs i % 32) (bt_and31 _) ?_
  refine zr_topi (fun op hop => ?_)
  have ho : 0 ≤ op ∧ op ≤ 31 := by omega
  clear hop
  have hdef : ∀ (ls : Array Slot), lv_has ls 4 [(0, .ref b), (1, .ref oa), (2, .ref m0), (3, .int (iI (i : Int)))] → W p l e room_1 s m args below meth c H locs 107 1899 Q (F0 m 933 ls []) := by
    intro ls hl
    refine lv_iinc (v := iI ((i : Int) + 6)) (lv' := [(3, .int (iI ((i : Int) + 6))), (0, .ref b), (1, .ref oa), (2, .ref m0)]) hx hb dL_law_933 hl (k := 3) rfl (iI_add _ _) (by decide) rfl (fun ls hl => ?_)
    refine lv_goto (tgt := 18) hx hb dL_law_936 (by decide) ?_
    exact ih w kn kp sd ks bkx bky bki bkn sn sns iq tb rt gr ups bel scl tp bt vlk vcnt vsnd vpt vfr vtk vbt vtps vwp vtbl vwn vpl vwh nx hh ir ik hRR _ _ hP hD hS ls (lv_sub hl [1, 2, 3, 0] rfl)
  rcases (show 22 < op ∨ op = 0 ∨ op = 1 ∨ op = 2 ∨ op = 3 ∨ op = 4 ∨ op = 5 ∨ op = 6 ∨ op = 7 ∨ op = 8 ∨ op = 9 ∨ op = 10 ∨ op = 11 ∨ op = 12 ∨ op = 13 ∨ op = 14 ∨ op = 15 ∨ op = 16 ∨ op = 17 ∨ op = 18 ∨ op = 19 ∨ op = 20 ∨ op = 21 ∨ op = 22 by omega) with hs | hs | hs | hs | hs | hs | hs | hs | hs | hs | hs | hs | hs | hs | hs | hs | hs | hs | hs | hs | hs | hs | hs | hs
  · refine lv_tableOut (tgt := 933) hx hb dL_law_33 (by rw [iI_toInt (by omega)]; omega) (by decide) ?_
    exact hdef ls hl
  · rw [hs]
    refine lv_tableIn (x := iI 0) (tgt := 140) hx hb dL_law_33 (by decide) (by decide) rfl (by decide) ?_
    exact law_c0 hC0 i hi ih w kn kp sd ks bkx bky bki bkn sn sns iq tb rt gr ups bel scl tp bt vlk vcnt vsnd vpt vfr vtk vbt vtps vwp vtbl vwn vpl vwh nx hh ir ik hRR H locs hP hD hS ls hl
  · rw [hs]
    refine lv_tableIn (x := iI 1) (tgt := 163) hx hb dL_law_33 (by decide) (by decide) rfl (by decide) ?_
    exact law_c1 hC0 i hi ih w kn kp sd ks bkx bky bki bkn sn sns iq tb rt gr ups bel scl tp bt vlk vcnt vsnd vpt vfr vtk vbt vtps vwp vtbl vwn vpl vwh nx hh ir ik hRR H locs hP hD hS ls hl
  · rw [hs]
    refine lv_tableIn (x := iI 2) (tgt := 196) hx hb dL_law_33 (by decide) (by decide) rfl (by decide) ?_
    exact law_c2 hC0 i hi ih w kn kp sd ks bkx bky bki bkn sn sns iq tb rt gr ups bel scl tp bt vlk vcnt vsnd vpt vfr vtk vbt vtps vwp vtbl vwn vpl vwh nx hh ir ik hRR H locs hP hD hS ls hl
  · rw [hs]
    refine lv_tableIn (x := iI 3) (tgt := 219) hx hb dL_law_33 (by decide) (by decide) rfl (by decide) ?_
    exact law_c3 hC0 i hi ih w kn kp sd ks bkx bky bki bkn sn sns iq tb rt gr ups bel scl tp bt vlk vcnt vsnd vpt vfr vtk vbt vtps vwp vtbl vwn vpl vwh nx hh ir ik hRR H locs hP hD hS ls hl
  · rw [hs]
    refine lv_tableIn (x := iI 4) (tgt := 262) hx hb dL_law_33 (by decide) (by decide) rfl (by decide) ?_
    exact law_c4 hC0 i hi ih w kn kp sd ks bkx bky bki bkn sn sns iq tb rt gr ups bel scl tp bt vlk vcnt vsnd vpt vfr vtk vbt vtps vwp vtbl vwn vpl vwh nx hh ir ik hRR H locs hP hD hS ls hl
  · rw [hs]
    refine lv_tableIn (x := iI 5) (tgt := 305) hx hb dL_law_33 (by decide) (by decide) rfl (by decide) ?_
    exact law_c5 hC0 i hi ih w kn kp sd ks bkx bky bki bkn sn sns iq tb rt gr ups bel scl tp bt vlk vcnt vsnd vpt vfr vtk vbt vtps vwp vtbl vwn vpl vwh nx hh ir ik hRR H locs hP hD hS ls hl
  · rw [hs]
    refine lv_tableIn (x := iI 6) (tgt := 349) hx hb dL_law_33 (by decide) (by decide) rfl (by decide) ?_
    exact law_c6 hC0 i hi ih w kn kp sd ks bkx bky bki bkn sn sns iq tb rt gr ups bel scl tp bt vlk vcnt vsnd vpt vfr vtk vbt vtps vwp vtbl vwn vpl vwh nx hh ir ik hRR H locs hP hD hS ls hl
  · rw [hs]
    refine lv_tableIn (x := iI 7) (tgt := 403) hx hb dL_law_33 (by decide) (by decide) rfl (by decide) ?_
    exact law_c7 hC0 i hi ih w kn kp sd ks bkx bky bki bkn sn sns iq tb rt gr ups bel scl tp bt vlk vcnt vsnd vpt vfr vtk vbt vtps vwp vtbl vwn vpl vwh nx hh ir ik hRR H locs hP hD hS ls hl
  · rw [hs]
    refine lv_tableIn (x := iI 8) (tgt := 447) hx hb dL_law_33 (by decide) (by decide) rfl (by decide) ?_
    exact law_c8 hC0 i hi ih w kn kp sd ks bkx bky bki bkn sn sns iq tb rt gr ups bel scl tp bt vlk vcnt vsnd vpt vfr vtk vbt vtps vwp vtbl vwn vpl vwh nx hh ir ik hRR H locs hP hD hS ls hl
  · rw [hs]
    refine lv_tableIn (x := iI 9) (tgt := 481) hx hb dL_law_33 (by decide) (by decide) rfl (by decide) ?_
    exact law_c9 hC0 i hi ih w kn kp sd ks bkx bky bki bkn sn sns iq tb rt gr ups bel scl tp bt vlk vcnt vsnd vpt vfr vtk vbt vtps vwp vtbl vwn vpl vwh nx hh ir ik hRR H locs hP hD hS ls hl
  · rw [hs]
    refine lv_tableIn (x := iI 10) (tgt := 534) hx hb dL_law_33 (by decide) (by decide) rfl (by decide) ?_
    exact law_c10 hC0 i hi ih w kn kp sd ks bkx bky bki bkn sn sns iq tb rt gr ups bel scl tp bt vlk vcnt vsnd vpt vfr vtk vbt vtps vwp vtbl vwn vpl vwh nx hh ir ik hRR H locs hP hD hS ls hl
  · rw [hs]
    refine lv_tableIn (x := iI 11) (tgt := 577) hx hb dL_law_33 (by decide) (by decide) rfl (by decide) ?_
    exact law_c11 hC0 i hi ih w kn kp sd ks bkx bky bki bkn sn sns iq tb rt gr ups bel scl tp bt vlk vcnt vsnd vpt vfr vtk vbt vtps vwp vtbl vwn vpl vwh nx hh ir ik hRR H locs hP hD hS ls hl
  · rw [hs]
    refine lv_tableIn (x := iI 12) (tgt := 600) hx hb dL_law_33 (by decide) (by decide) rfl (by decide) ?_
    exact law_c12 hC0 i hi ih w kn kp sd ks bkx bky bki bkn sn sns iq tb rt gr ups bel scl tp bt vlk vcnt vsnd vpt vfr vtk vbt vtps vwp vtbl vwn vpl vwh nx hh ir ik hRR H locs hP hD hS ls hl
  · rw [hs]
    refine lv_tableIn (x := iI 13) (tgt := 633) hx hb dL_law_33 (by decide) (by decide) rfl (by decide) ?_
    exact law_c13 hC0 i hi ih w kn kp sd ks bkx bky bki bkn sn sns iq tb rt gr ups bel scl tp bt vlk vcnt vsnd vpt vfr vtk vbt vtps vwp vtbl vwn vpl vwh nx hh ir ik hRR H locs hP hD hS ls hl
  · rw [hs]
    refine lv_tableIn (x := iI 14) (tgt := 696) hx hb dL_law_33 (by decide) (by decide) rfl (by decide) ?_
    exact law_c14 hC0 i hi ih w kn kp sd ks bkx bky bki bkn sn sns iq tb rt gr ups bel scl tp bt vlk vcnt vsnd vpt vfr vtk vbt vtps vwp vtbl vwn vpl vwh nx hh ir ik hRR H locs hP hD hS ls hl
  · rw [hs]
    refine lv_tableIn (x := iI 15) (tgt := 739) hx hb dL_law_33 (by decide) (by decide) rfl (by decide) ?_
    exact law_c15 hC0 i hi ih w kn kp sd ks bkx bky bki bkn sn sns iq tb rt gr ups bel scl tp bt vlk vcnt vsnd vpt vfr vtk vbt vtps vwp vtbl vwn vpl vwh nx hh ir ik hRR H locs hP hD hS ls hl
  · rw [hs]
    refine lv_tableIn (x := iI 16) (tgt := 762) hx hb dL_law_33 (by decide) (by decide) rfl (by decide) ?_
    exact law_c16 hC0 i hi ih w kn kp sd ks bkx bky bki bkn sn sns iq tb rt gr ups bel scl tp bt vlk vcnt vsnd vpt vfr vtk vbt vtps vwp vtbl vwn vpl vwh nx hh ir ik hRR H locs hP hD hS ls hl
  · rw [hs]
    refine lv_tableIn (x := iI 17) (tgt := 785) hx hb dL_law_33 (by decide) (by decide) rfl (by decide) ?_
    exact law_c17 hC0 i hi ih w kn kp sd ks bkx bky bki bkn sn sns iq tb rt gr ups bel scl tp bt vlk vcnt vsnd vpt vfr vtk vbt vtps vwp vtbl vwn vpl vwh nx hh ir ik hRR H locs hP hD hS ls hl
  · rw [hs]
    refine lv_tableIn (x := iI 18) (tgt := 808) hx hb dL_law_33 (by decide) (by decide) rfl (by decide) ?_
    exact law_c18 hC0 i hi ih w kn kp sd ks bkx bky bki bkn sn sns iq tb rt gr ups bel scl tp bt vlk vcnt vsnd vpt vfr vtk vbt vtps vwp vtbl vwn vpl vwh nx hh ir ik hRR H locs hP hD hS ls hl
  · rw [hs]
    refine lv_tableIn (x := iI 19) (tgt := 851) hx hb dL_law_33 (by decide) (by decide) rfl (by decide) ?_
    exact law_c19 hC0 i hi ih w kn kp sd ks bkx bky bki bkn sn sns iq tb rt gr ups bel scl tp bt vlk vcnt vsnd vpt vfr vtk vbt vtps vwp vtbl vwn vpl vwh nx hh ir ik hRR H locs hP hD hS ls hl
  · rw [hs]
    refine lv_tableIn (x := iI 20) (tgt := 864) hx hb dL_law_33 (by decide) (by decide) rfl (by decide) ?_
    exact law_c20 hC0 i hi ih w kn kp sd ks bkx bky bki bkn sn sns iq tb rt gr ups bel scl tp bt vlk vcnt vsnd vpt vfr vtk vbt vtps vwp vtbl vwn vpl vwh nx hh ir ik hRR H locs hP hD hS ls hl
  · rw [hs]
    refine lv_tableIn (x := iI 21) (tgt := 887) hx hb dL_law_33 (by decide) (by decide) rfl (by decide) ?_
    exact law_c21 hC0 i hi ih w kn kp sd ks bkx bky bki bkn sn sns iq tb rt gr ups bel scl tp bt vlk vcnt vsnd vpt vfr vtk vbt vtps vwp vtbl vwn vpl vwh nx hh ir ik hRR H locs hP hD hS ls hl
  · rw [hs]
    refine lv_tableIn (x := iI 22) (tgt := 910) hx hb dL_law_33 (by decide) (by decide) rfl (by decide) ?_
    exact law_c22 hC0 i hi ih w kn kp sd ks bkx bky bki bkn sn sns iq tb rt gr ups bel scl tp bt vlk vcnt vsnd vpt vfr vtk vbt vtps vwp vtbl vwn vpl vwh nx hh ir ik hRR H locs hP hD hS ls hl
end
section
variable {p : Program} {l : Launch} {e : Env} {s : State} {m : MethodId} {below : List Frame} {meth : Method} {c : Code} {D : va_G} {cI cL cG cM : ClassId} {b L : Nat} {xs : Nat → Int32}
variable {m0 mw mks mbx mby mbi msn miq mtb mrt mgr mup oa ea elk ept efr etk ebt etp etb ewn ga gx gy gz ha hra ba bax bay bav ia : Nat} {pa px py pz ja jg jx jy jz : Nat → Nat}
theorem law_loop (hC : LC p s m #[Value.ref b] c (fun q : Nat => s.heap.size ≤ q) D cI cL cG cM b L xs) (hr : meth.sig.returnType = ret) (hlk : meth.locks = false) : ∀ (n i : Nat), L + 6 ≤ i + n → i ≤ L + 6 → LH p l e s m #[Value.ref b] below meth c (fun q : Nat => s.heap.size ≤ q) (lw_Z below #[Value.ref b] s) D cI cL cG cM b m0 mw mks mbx mby mbi msn miq mtb mrt mgr mup oa ea elk ept efr etk ebt etp etb ewn ga gx gy gz ha hra ba bax bay bav ia pa px py pz ja jg jx jy jz i := by
  intro n
  induction n with
  | zero =>
    intro i h h2
    exact law_exit hC hr hlk i (by omega) h2
  | succ n ihn =>
    intro i h h2
    by_cases hi : i + 6 ≤ L
    · exact law_body hC i hi (ihn (i + 6) (by omega) (by omega))
    · exact law_exit hC hr hlk i hi h2
end
