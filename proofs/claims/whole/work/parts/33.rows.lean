/-! ===== rows for constructors ===== -/
theorem va_P_mem {D : va_G} {cl : List vw_C} {ws ws2 : va_W} {H : Heap} (h : va_P D cl ws H) (hs : ∀ x ∈ ws2, x ∈ ws) : va_P D cl ws2 H := fun k q hk => by
  obtain ⟨i, hi⟩ := List.getElem?_of_mem (hs q (List.mem_of_getElem? hk))
  exact h i q hi
theorem va_P_app {D : va_G} {cl : List vw_C} {a b : va_W} {H : Heap} (h1 : va_P D cl a H) (h2 : va_P D cl b H) : va_P D cl (a ++ b) H := fun k q hk => by
  rcases List.mem_append.mp (List.mem_of_getElem? hk) with h | h
  · obtain ⟨i, hi⟩ := List.getElem?_of_mem h
    exact h1 i q hi
  · obtain ⟨i, hi⟩ := List.getElem?_of_mem h
    exact h2 i q hi
theorem va_D_iff {A : Nat → Prop} {ws : va_W} : va_D A ws ↔ (ws.map (fun x => x.1)).Pairwise (· ≠ ·) ∧ ∀ x ∈ ws, A x.1 := by
  constructor
  · intro h
    refine ⟨List.pairwise_iff_getElem.mpr (fun i j hi hj hij e => ?_), fun x hx => ?_⟩
    · rw [List.length_map] at hi hj
      rw [List.getElem_map, List.getElem_map] at e
      have := h.1 i j ws[i] ws[j] (List.getElem?_eq_getElem hi) (List.getElem?_eq_getElem hj) e
      omega
    · obtain ⟨i, hi⟩ := List.getElem?_of_mem hx
      exact h.2 i x hi
  · intro h
    refine ⟨fun i j p q hi hj e => ?_, fun k q hk => h.2 q (List.mem_of_getElem? hk)⟩
    obtain ⟨li, ei⟩ := List.getElem?_eq_some_iff.mp hi
    obtain ⟨lj, ej⟩ := List.getElem?_eq_some_iff.mp hj
    have hp := List.pairwise_iff_getElem.mp h.1
    rcases Nat.lt_trichotomy i j with hl | hl | hl
    · exact absurd (by rw [List.getElem_map, List.getElem_map, ei, ej]; exact e) (hp i j (by rw [List.length_map]; exact li) (by rw [List.length_map]; exact lj) hl)
    · exact hl
    · exact absurd (by rw [List.getElem_map, List.getElem_map, ei, ej]; exact e.symm) (hp j i (by rw [List.length_map]; exact lj) (by rw [List.length_map]; exact li) hl)
theorem va_D_perm {A : Nat → Prop} {ws ws2 : va_W} (h : va_D A ws) (hs : ws.Perm ws2) : va_D A ws2 := by
  rw [va_D_iff] at h ⊢
  exact ⟨(List.Perm.pairwise_iff (fun {x y} (q : x ≠ y) => Ne.symm q) (hs.map _)).mp h.1, fun x hx => h.2 x (hs.mem_iff.mpr hx)⟩
theorem va_P_perm {D : va_G} {cl : List vw_C} {ws ws2 : va_W} {H : Heap} (h : va_P D cl ws H) (hs : ws.Perm ws2) : va_P D cl ws2 H := va_P_mem h (fun _ hx => hs.mem_iff.mpr hx)
theorem mv_perm {X pl : va_W} {x : Nat × va_E} : ((X ++ pl) ++ [x]).Perm ((X ++ [x]) ++ pl) := by
  rw [List.append_assoc, List.append_assoc]
  exact List.Perm.append_left X List.perm_append_comm
theorem va_P_mv {D : va_G} {cl : List vw_C} {X pl : va_W} {x : Nat × va_E} {H : Heap} (h : va_P D cl ((X ++ pl) ++ [x]) H) : va_P D cl ((X ++ [x]) ++ pl) H := va_P_perm h mv_perm
theorem va_D_mv {A : Nat → Prop} {X pl : va_W} {x : Nat × va_E} (h : va_D A ((X ++ pl) ++ [x])) : va_D A ((X ++ [x]) ++ pl) := va_D_perm h mv_perm
/-- some of the front's cells go behind the pool -/
theorem bk_perm {X Y pl : va_W} : ((X ++ Y) ++ pl).Perm (X ++ (pl ++ Y)) := by
  rw [List.append_assoc]
  exact List.Perm.append_left X List.perm_append_comm
theorem arrV_congr {c : ClassId} {n : Nat} {f g : Nat → Value} (h : ∀ j, j < n → f j = g j) : arrV c n f = arrV c n g := by
  unfold arrV
  have e : (fun j : Fin n => f j.val) = (fun j : Fin n => g j.val) := funext (fun j => h j.val j.isLt)
  rw [e]
theorem at_i {D : va_G} {cl : List vw_C} {a : Nat} {c : ClassId} {n : Nat} {F G : Nat → Int} {H : Heap} (h : ∀ j, j < n → F j = G j) (q : va_at D cl (a, .inl (c, n, .inl (aI F))) H) : va_at D cl (a, .inl (c, n, .inl (aI G))) H := by
  have q1 : H[a]? = some (arrV c n (fun j => .int (aI F j))) := q
  show H[a]? = some (arrV c n (fun j => .int (aI G j)))
  exact q1.trans (congrArg some (arrV_congr (fun j hj => by show Value.int (iI (F j)) = Value.int (iI (G j)); rw [h j hj])))
theorem at_q {D : va_G} {cl : List vw_C} {a : Nat} {c : ClassId} {n : Nat} {F G : Nat → Option Nat} {H : Heap} (h : ∀ j, j < n → F j = G j) (q : va_at D cl (a, .inl (c, n, .inr (.inr (.inr (.inr F))))) H) : va_at D cl (a, .inl (c, n, .inr (.inr (.inr (.inr G))))) H := by
  have q1 : H[a]? = some (arrV c n (fun j => va_rf (F j))) := q
  show H[a]? = some (arrV c n (fun j => va_rf (G j)))
  rw [q1, arrV_congr (fun j hj => by show va_rf (F j) = va_rf (G j); rw [h j hj])]
theorem va_P_at {D : va_G} {cl : List vw_C} {ws : va_W} {H : Heap} (h : va_P D cl ws H) (i : Nat) {x : Nat × va_E} (hx : va_at D cl x H) : va_P D cl (ws.set i x) H := fun k q hk => by
  rw [List.getElem?_set] at hk
  by_cases e : i = k
  · rw [if_pos e] at hk
    split at hk
    · rw [← Option.some.inj hk]; exact hx
    · cases hk
  · rw [if_neg e] at hk
    exact h k q hk
section
variable {p : Program} {l : Launch} {e : Env} {R : Room} {s : State} {m : MethodId} {args : Array Value} {below : List Frame} {meth : Method} {c : Code} {H H0 : Heap} {locs : List Loc} {cells slots : Nat} {Q : State → Prop} {pc : Nat} {ls : Array Slot} {rest st : List Value} {cc : ByteArray} {a : Nat} {D : va_G} {cl : List vw_C} {tys : List (ClassId × FieldType)} {ws : va_W} {A : Nat → Prop} {cI cL cG cM : ClassId}
theorem zr_obj (hx : p.tables.exec = Jvm.exec) (hb : c.code = cc) {own : String} (hown : s.vm.findClass own = some m.cls) {idx : Nat} (hU : ∀ w ∈ wsL_law, w.before args s = true) (hlink : Cond.methodLink own idx objectInit ∈ wsL_law) (hml : c.maxLocals = ls.size) (hdg : decode cc pc = .ok (.invokespecial idx, 3)) (hf : 1 ≤ R.frames) (hl : (rest.map fun v => v.category).sum + 12 ≤ R.locals)
    (kk : W p l e R s m args below meth c H locs cells slots Q (F0 m (pc + 3) ls rest)) : W p l e R s m args below meth c H locs cells slots Q (F0 m pc ls (.ref a :: rest)) := by
  refine W.objInit hx hb hown (hU _ hlink) (hU _ ki_objectInit) (hU _ kc_objectInit) rfl hml.symm rfl hdg hf (by show 2 * 0 + _ + 12 ≤ _; omega) ?_
  exact W.eq (g2 := F0 m (pc + 3) ls rest) rfl kk
theorem ny_i {N : Nat} {z : Int} (hz : z = (N : Int)) (hN : N ≤ 1000) : ¬ iI z < 0 ∧ (iI z).toNatClampNeg = N := by
  subst hz
  exact ⟨fun h => iI_in (k := N) (n := N + 1) (by omega) (by omega) (Or.inl h), iI_clamp (by omega)⟩
theorem zr_newi (hx : p.tables.exec = Jvm.exec) (hb : c.code = cc) (hU : ∀ w ∈ wsL_law, w.before args s = true) (hK : va_K D cl (tyA cI cL cG cM) s) (hP : va_P D cl ws H) (hD : va_D A ws) (hS : va_S A H0 H locs) (hA : ∀ q, H0.size ≤ q → A q)
    {z : Int} (N : Nat) (hz : z = (N : Int)) (hN : N ≤ 1000) (hcells : cells + 1 ≤ R.cells) (hslots : slots + N ≤ R.slots) (hdg : decode cc pc = .ok (.newarray .int, 2))
    (kk : ∀ (q : Nat) (H1 : Heap), va_P D cl (ws ++ [(q, .inl (cI, N, .inl (aI (fun _ => 0))))]) H1 → va_D A (ws ++ [(q, .inl (cI, N, .inl (aI (fun _ => 0))))]) → va_S A H0 H1 locs → W p l e R s m args below meth c H1 locs (cells + 1) (slots + N) Q (F0 m (pc + 2) ls (.ref q :: rest))) : W p l e R s m args below meth c H locs cells slots Q (F0 m pc ls (.int (iI z) :: rest)) := by
  refine va_newa (atype := .int) (ty := .int) (N' := N) (a0 := (N, .inl (aI (fun _ => 0)))) hx hb (hU _ kz_arrayClass__int) rfl hK hP hD hS hA (fun _ => rfl) (ny_i hz hN).1 (ny_i hz hN).2 (by show N * 4 ≤ _; omega) hcells hslots hdg (fun q cA H1 hK1 hP1 hD1 hS1 => ?_)
  have e1 : s.vm.findClass ("[" ++ FieldType.int.toString) = some cA := (hK1.2 4 (cA, .int) rfl).2
  have e2 : s.vm.findClass ("[" ++ FieldType.int.toString) = some cI := (hK.2 0 (cI, .int) rfl).2
  have e3 : cA = cI := Option.some.inj (e1.symm.trans e2)
  subst e3
  exact kk q H1 hP1 hD1 hS1
theorem zr_newl (hx : p.tables.exec = Jvm.exec) (hb : c.code = cc) (hU : ∀ w ∈ wsL_law, w.before args s = true) (hK : va_K D cl (tyA cI cL cG cM) s) (hP : va_P D cl ws H) (hD : va_D A ws) (hS : va_S A H0 H locs) (hA : ∀ q, H0.size ≤ q → A q)
    {z : Int} (N : Nat) (hz : z = (N : Int)) (hN : N ≤ 1000) (hcells : cells + 1 ≤ R.cells) (hslots : slots + N ≤ R.slots) (hdg : decode cc pc = .ok (.newarray .long, 2))
    (kk : ∀ (q : Nat) (H1 : Heap), va_P D cl (ws ++ [(q, .inl (cL, N, .inr (.inl (aL (fun _ => 0)))))]) H1 → va_D A (ws ++ [(q, .inl (cL, N, .inr (.inl (aL (fun _ => 0)))))]) → va_S A H0 H1 locs → W p l e R s m args below meth c H1 locs (cells + 1) (slots + N) Q (F0 m (pc + 2) ls (.ref q :: rest))) : W p l e R s m args below meth c H locs cells slots Q (F0 m pc ls (.int (iI z) :: rest)) := by
  refine va_newa (atype := .long) (ty := .long) (N' := N) (a0 := (N, .inr (.inl (aL (fun _ => 0))))) hx hb (hU _ kz_arrayClass__long) rfl hK hP hD hS hA (fun _ => rfl) (ny_i hz hN).1 (ny_i hz hN).2 (by show N * 8 ≤ _; omega) hcells hslots hdg (fun q cA H1 hK1 hP1 hD1 hS1 => ?_)
  have e1 : s.vm.findClass ("[" ++ FieldType.long.toString) = some cA := (hK1.2 4 (cA, .long) rfl).2
  have e2 : s.vm.findClass ("[" ++ FieldType.long.toString) = some cL := (hK.2 1 (cL, .long) rfl).2
  have e3 : cA = cL := Option.some.inj (e1.symm.trans e2)
  subst e3
  exact kk q H1 hP1 hD1 hS1
theorem zr_newq (hx : p.tables.exec = Jvm.exec) (hb : c.code = cc) {own C : String} {index : Nat} (hown : s.vm.findClass own = some m.cls) (hU : ∀ w ∈ wsL_law, w.before args s = true) (hcl : Cond.classLink own index C ∈ wsL_law) (hao : va_AO C s) (hK : va_K D cl tys s) (hP : va_P D cl ws H) (hD : va_D A ws) (hS : va_S A H0 H locs) (hA : ∀ q, H0.size ≤ q → A q) (t0 : Nat) {cA : ClassId} (ht : tys[t0]? = some (cA, .object C))
    {z : Int} (N : Nat) (hz : z = (N : Int)) (hN : N ≤ 1000) (hcells : cells + 1 ≤ R.cells) (hslots : slots + N ≤ R.slots) (hdg : decode cc pc = .ok (.anewarray index, 3))
    (kk : ∀ (q : Nat) (H1 : Heap), va_P D cl (ws ++ [(q, .inl (cA, N, .inr (.inr (.inr (.inr (fun _ => none))))))]) H1 → va_D A (ws ++ [(q, .inl (cA, N, .inr (.inr (.inr (.inr (fun _ => none))))))]) → va_S A H0 H1 locs → W p l e R s m args below meth c H1 locs (cells + 1) (slots + N) Q (F0 m (pc + 3) ls (.ref q :: rest))) : W p l e R s m args below meth c H locs cells slots Q (F0 m pc ls (.int (iI z) :: rest)) := by
  refine va_newq hx hb hown (hU _ hcl) hao hK hP hD hS hA (ny_i hz hN).1 (ny_i hz hN).2 (by omega) hcells hslots hdg (fun q cB H1 hK1 hP1 hD1 hS1 => ?_)
  have hq : (tys ++ [(cB, FieldType.object C)])[tys.length]? = some (cB, FieldType.object C) := by simp
  obtain ⟨_, _, _, _, _, e1⟩ := (hK1.2 tys.length (cB, .object C) hq).2
  obtain ⟨_, _, _, _, _, e2⟩ := (hK.2 t0 (cA, .object C) ht).2
  have e3 : cB = cA := Option.some.inj (e1.symm.trans e2)
  subst e3
  exact kk q H1 hP1 hD1 hS1
theorem zr_aast (hx : p.tables.exec = Jvm.exec) (hb : c.code = cc) (hK : va_K D cl tys s) (hP : va_P D cl ws H) (hD : va_D A ws) (hS : va_S A H0 H locs) (q0 t0 qk ci : Nat) {cA : ClassId} {r : vw_C} {n v : Nat} {vs : List Value} {f : Nat → Option Nat} (ha : ws[q0]? = some (a, .inl (cA, n, .inr (.inr (.inr (.inr f)))))) (ht : tys[t0]? = some (cA, .object r.1)) (hv : ws[qk]? = some (v, .inr (ci, vs))) (hc : cl[ci]? = some r) {z : Int} (k : Nat) (hz : z = (k : Int)) (hk : k < n) (hn : n ≤ 1000000) (hdg : decode cc pc = .ok (.aastore, 1))
    (kk : ∀ (H1 : Heap) (locs1 : List Loc), va_P D cl (ws.set q0 (a, .inl (cA, n, .inr (.inr (.inr (.inr (va_up f k (some v)))))))) H1 → va_D A (ws.set q0 (a, .inl (cA, n, .inr (.inr (.inr (.inr (va_up f k (some v)))))))) → va_S A H0 H1 locs1 → W p l e R s m args below meth c H1 locs1 cells slots Q (F0 m (pc + 1) ls rest)) : W p l e R s m args below meth c H locs cells slots Q (F0 m pc ls (.ref v :: .int (iI z) :: .ref a :: rest)) := by
  subst hz
  refine va_astq hx hb hK hP hD hS q0 t0 qk ci ha ht hv hc (iI_in hk hn) hdg (fun H1 locs1 h1 h2 h3 => ?_)
  rw [iI_clamp (by omega)] at h1 h2
  exact kk H1 locs1 h1 h2 h3
end
section
variable {p : Program} {l : Launch} {e : Env} {R : Room} {s : State} {m : MethodId} {args : Array Value} {below : List Frame} {meth : Method} {c : Code} {H : Heap} {locs : List Loc} {cells slots : Nat} {Q : State → Prop} {cc : ByteArray} {pc : Nat} {ls : Array Slot} {rest st : List Value} {D : va_G} {tys : List (ClassId × FieldType)} {A : Nat → Prop}
variable {own : String} {nL idx n k bb : Nat} {y : MethodName} {b : ByteArray} {rm : Room} {As : List Value} {wc : va_W}
variable {S : Type} {ws wr : va_W} {w1 : S → va_W} {H0 : Heap} {X pl : va_W}
theorem zc_I {post : S → Prop} {mc ms : Nat} (hM : Met l y (wU y b n none) rm (pcW D tys wc (.ref bb :: As) H.size) (qWv D tys (va_A wc H.size) post w1) mc ms (va_A wc H.size)) (hx : p.tables.exec = Jvm.exec) (hb : c.code = cc) (hml : c.maxLocals = nL) (hown : s.vm.findClass own = some m.cls) (hU : ∀ w ∈ wsL_law, w.before args s = true) (hsz : ls.size = nL)
    (hT : cT y b n none k) (hi : Cond.instanceMethod y ∈ wsL_law) (hy1 : y.name = "<init>") (hl : Cond.methodLink own idx y ∈ wsL_law) (hK : va_K D vwCl tys s) (hN : nst s) (hP : va_P D vwCl ws H) (hD : va_D A ws) (hS : va_S A H0 H locs) (hA : ∀ q : Nat, H0.size ≤ q → A q) (isC isR : List Nat) (hC2 : isC.map (fun i => ws[i]?) = wc.map some) (hRr : isR.map (fun i => ws[i]?) = wr.map some) (hnC : va_nd isC = true) (hnR : va_nd isR = true) (hdis : ∀ i ∈ isR, i ∉ isC) (hrm : rm.cells = mc ∧ rm.slots = ms) (hR : rm.frames + 1 ≤ R.frames ∧ 8 + (n + 11) + rm.locals ≤ R.locals) (hn : As.length = k) (hst : st = As.reverse ++ .ref bb :: rest) (hrs : (rest.map fun v => v.category).sum ≤ 8) (hdg : decode cc pc = .ok (.invokespecial idx, 3)) (hcs : cells + mc ≤ R.cells ∧ slots + ms ≤ R.slots)
    (kk : ∀ (u : S) (H1 : Heap) (locs1 : List Loc), post u → va_P D vwCl (wr ++ w1 u) H1 → va_D A (wr ++ w1 u) → va_S A H0 H1 locs1 → H.size ≤ H1.size → W p l e R s m args below meth c H1 locs1 (cells + mc) (slots + ms) Q (F0 m (pc + 3) ls rest)) : W p l e R s m args below meth c H locs cells slots Q (F0 m pc ls st) := by
  have hPc : va_P D vwCl wc H := fun k q hk => by
    obtain ⟨i, -, h2⟩ := va_in_of isC hC2 hk
    exact hP i q h2
  have hDc : va_D A wc := hD.sub isC hnC hC2
  have hFc := va_free (wc := wc) hD hS hA isC hC2
  refine va_callv (va_runI (As := As) (rest := rest) ⟨hx, hb, hml, hown, hU⟩ hM ⟨zc_B hU hT hl hrm hR, hy1, hU _ hi⟩ ⟨pcW_bl, fun U hU2 hW => ⟨rfl, by rw [hU2], by rw [hU2]; exact hPc, va_K.moved hW.alike hK, hDc.weaken (fun _ _ _ _ => trivial), nst_warm hW hN⟩⟩ rfl hn hsz hst (lv_room hrs) hdg hcs) hS (fun q _ h => hFc q h) hFc (fun u t H1 locs1 ht hvm hw hB hz1 hk1 hS1 => ?_)
  obtain ⟨hP1, hK1, hD1⟩ := hB
  rw [ht] at hP1
  obtain ⟨hP2, hD2⟩ := va_join hP hD isC isR hC2 hRr hnR hdis hk1 hFc hP1 hD1
  exact kk u H1 locs1 hw hP2 hD2 hS1 hz1
theorem zc_IQ {post : S → Prop} {mc ms : Nat} (hM : Met l y (wU y b n none) rm (pcW D tys wc (.ref bb :: As) H.size) (qWv D tys (va_A wc H.size) post w1) mc ms (va_A wc H.size)) (hx : p.tables.exec = Jvm.exec) (hb : c.code = cc) (hml : c.maxLocals = nL) (hown : s.vm.findClass own = some m.cls) (hU : ∀ w ∈ wsL_law, w.before args s = true) (hsz : ls.size = nL)
    (hT : cT y b n none k) (hi : Cond.instanceMethod y ∈ wsL_law) (hy1 : y.name = "<init>") (hl : Cond.methodLink own idx y ∈ wsL_law) (hK : va_K D vwCl tys s) (hN : nst s) (hP : va_P D vwCl (X ++ pl) H) (hD : va_D A (X ++ pl)) (hS : va_S A H0 H locs) (hA : ∀ q : Nat, H0.size ≤ q → A q) (isC isR : List Nat) (hC : isC.map (fun i => X[i]?) = wc.map some) (hC2 : isC.map (fun i => (X ++ pl)[i]?) = wc.map some) (hRr : isR.map (fun i => X[i]?) = wr.map some) (hnC : va_nd isC = true) (hnR : va_nd isR = true) (hdis : ∀ i ∈ isR, i ∉ isC) (hrm : rm.cells = mc ∧ rm.slots = ms) (hR : rm.frames + 1 ≤ R.frames ∧ 8 + (n + 11) + rm.locals ≤ R.locals) (hn : As.length = k) (hst : st = As.reverse ++ .ref bb :: rest) (hrs : (rest.map fun v => v.category).sum ≤ 8) (hdg : decode cc pc = .ok (.invokespecial idx, 3)) (hcs : cells + mc ≤ R.cells ∧ slots + ms ≤ R.slots)
    (kk : ∀ (u : S) (H1 : Heap) (locs1 : List Loc), post u → va_P D vwCl ((wr ++ w1 u) ++ pl) H1 → va_D A ((wr ++ w1 u) ++ pl) → va_S A H0 H1 locs1 → H.size ≤ H1.size → W p l e R s m args below meth c H1 locs1 (cells + mc) (slots + ms) Q (F0 m (pc + 3) ls rest)) : W p l e R s m args below meth c H locs cells slots Q (F0 m pc ls st) := by
  have hPc : va_P D vwCl wc H := fun k q hk => by
    obtain ⟨i, -, h2⟩ := va_in_of isC hC2 hk
    exact hP i q h2
  have hDc : va_D A wc := hD.sub isC hnC hC2
  have hFc := va_free (wc := wc) hD hS hA isC hC2
  refine va_callv (va_runI (As := As) (rest := rest) ⟨hx, hb, hml, hown, hU⟩ hM ⟨zc_B hU hT hl hrm hR, hy1, hU _ hi⟩ ⟨pcW_bl, fun U hU2 hW => ⟨rfl, by rw [hU2], by rw [hU2]; exact hPc, va_K.moved hW.alike hK, hDc.weaken (fun _ _ _ _ => trivial), nst_warm hW hN⟩⟩ rfl hn hsz hst (lv_room hrs) hdg hcs) hS (fun q _ h => hFc q h) hFc (fun u t H1 locs1 ht hvm hw hB hz1 hk1 hS1 => ?_)
  obtain ⟨hP1, hK1, hD1⟩ := hB
  rw [ht] at hP1
  obtain ⟨hP2, hD2⟩ := va_joinQ hP hD isC isR hC hRr hnR hdis hk1 hFc hP1 hD1
  exact kk u H1 locs1 hw hP2 hD2 hS1 hz1
theorem zc_IN {post : S → Prop} {mc ms : Nat} {host : String} (hM : Met l y (wU y b n none) rm (pcW D tys wc (.ref bb :: As) H.size) (qWv D tys (va_A wc H.size) post w1) mc ms (va_A wc H.size)) (hx : p.tables.exec = Jvm.exec) (hb : c.code = cc) (hml : c.maxLocals = nL) (hown : s.vm.findClass own = some m.cls) (hU : ∀ w ∈ wsL_law, w.before args s = true) (hsz : ls.size = nL)
    (hT : cT y b n none k) (hi : Cond.instanceMethod y ∈ wsL_law) (hy1 : y.name = "<init>") (hl : va_Nw (.methodLinkNest own idx y host) s) (hK : va_K D vwCl tys s) (hN : nst s) (hP : va_P D vwCl ws H) (hD : va_D A ws) (hS : va_S A H0 H locs) (hA : ∀ q : Nat, H0.size ≤ q → A q) (isC isR : List Nat) (hC2 : isC.map (fun i => ws[i]?) = wc.map some) (hRr : isR.map (fun i => ws[i]?) = wr.map some) (hnC : va_nd isC = true) (hnR : va_nd isR = true) (hdis : ∀ i ∈ isR, i ∉ isC) (hrm : rm.cells = mc ∧ rm.slots = ms) (hR : rm.frames + 1 ≤ R.frames ∧ 8 + (n + 11) + rm.locals ≤ R.locals) (hn : As.length = k) (hst : st = As.reverse ++ .ref bb :: rest) (hrs : (rest.map fun v => v.category).sum ≤ 8) (hdg : decode cc pc = .ok (.invokespecial idx, 3)) (hcs : cells + mc ≤ R.cells ∧ slots + ms ≤ R.slots)
    (kk : ∀ (u : S) (H1 : Heap) (locs1 : List Loc), post u → va_P D vwCl (wr ++ w1 u) H1 → va_D A (wr ++ w1 u) → va_S A H0 H1 locs1 → H.size ≤ H1.size → W p l e R s m args below meth c H1 locs1 (cells + mc) (slots + ms) Q (F0 m (pc + 3) ls rest)) : W p l e R s m args below meth c H locs cells slots Q (F0 m pc ls st) := by
  have hPc : va_P D vwCl wc H := fun k q hk => by
    obtain ⟨i, -, h2⟩ := va_in_of isC hC2 hk
    exact hP i q h2
  have hDc : va_D A wc := hD.sub isC hnC hC2
  have hFc := va_free (wc := wc) hD hS hA isC hC2
  refine va_callv (va_runIN (As := As) (rest := rest) ⟨hx, hb, hml, hown, hU⟩ hM ⟨va_cnB k hU (gU hT.1) rfl hrm.1 hrm.2 hl (hU _ hT.2.1) hT.2.2 hR, hy1, hU _ hi⟩ ⟨pcW_bl, fun U hU2 hW => ⟨rfl, by rw [hU2], by rw [hU2]; exact hPc, va_K.moved hW.alike hK, hDc.weaken (fun _ _ _ _ => trivial), nst_warm hW hN⟩⟩ rfl hn hsz hst (lv_room hrs) hdg hcs) hS (fun q _ h => hFc q h) hFc (fun u t H1 locs1 ht hvm hw hB hz1 hk1 hS1 => ?_)
  obtain ⟨hP1, hK1, hD1⟩ := hB
  rw [ht] at hP1
  obtain ⟨hP2, hD2⟩ := va_join hP hD isC isR hC2 hRr hnR hdis hk1 hFc hP1 hD1
  exact kk u H1 locs1 hw hP2 hD2 hS1 hz1
theorem zc_INQ {post : S → Prop} {mc ms : Nat} {host : String} (hM : Met l y (wU y b n none) rm (pcW D tys wc (.ref bb :: As) H.size) (qWv D tys (va_A wc H.size) post w1) mc ms (va_A wc H.size)) (hx : p.tables.exec = Jvm.exec) (hb : c.code = cc) (hml : c.maxLocals = nL) (hown : s.vm.findClass own = some m.cls) (hU : ∀ w ∈ wsL_law, w.before args s = true) (hsz : ls.size = nL)
    (hT : cT y b n none k) (hi : Cond.instanceMethod y ∈ wsL_law) (hy1 : y.name = "<init>") (hl : va_Nw (.methodLinkNest own idx y host) s) (hK : va_K D vwCl tys s) (hN : nst s) (hP : va_P D vwCl (X ++ pl) H) (hD : va_D A (X ++ pl)) (hS : va_S A H0 H locs) (hA : ∀ q : Nat, H0.size ≤ q → A q) (isC isR : List Nat) (hC : isC.map (fun i => X[i]?) = wc.map some) (hC2 : isC.map (fun i => (X ++ pl)[i]?) = wc.map some) (hRr : isR.map (fun i => X[i]?) = wr.map some) (hnC : va_nd isC = true) (hnR : va_nd isR = true) (hdis : ∀ i ∈ isR, i ∉ isC) (hrm : rm.cells = mc ∧ rm.slots = ms) (hR : rm.frames + 1 ≤ R.frames ∧ 8 + (n + 11) + rm.locals ≤ R.locals) (hn : As.length = k) (hst : st = As.reverse ++ .ref bb :: rest) (hrs : (rest.map fun v => v.category).sum ≤ 8) (hdg : decode cc pc = .ok (.invokespecial idx, 3)) (hcs : cells + mc ≤ R.cells ∧ slots + ms ≤ R.slots)
    (kk : ∀ (u : S) (H1 : Heap) (locs1 : List Loc), post u → va_P D vwCl ((wr ++ w1 u) ++ pl) H1 → va_D A ((wr ++ w1 u) ++ pl) → va_S A H0 H1 locs1 → H.size ≤ H1.size → W p l e R s m args below meth c H1 locs1 (cells + mc) (slots + ms) Q (F0 m (pc + 3) ls rest)) : W p l e R s m args below meth c H locs cells slots Q (F0 m pc ls st) := by
  have hPc : va_P D vwCl wc H := fun k q hk => by
    obtain ⟨i, -, h2⟩ := va_in_of isC hC2 hk
    exact hP i q h2
  have hDc : va_D A wc := hD.sub isC hnC hC2
  have hFc := va_free (wc := wc) hD hS hA isC hC2
  refine va_callv (va_runIN (As := As) (rest := rest) ⟨hx, hb, hml, hown, hU⟩ hM ⟨va_cnB k hU (gU hT.1) rfl hrm.1 hrm.2 hl (hU _ hT.2.1) hT.2.2 hR, hy1, hU _ hi⟩ ⟨pcW_bl, fun U hU2 hW => ⟨rfl, by rw [hU2], by rw [hU2]; exact hPc, va_K.moved hW.alike hK, hDc.weaken (fun _ _ _ _ => trivial), nst_warm hW hN⟩⟩ rfl hn hsz hst (lv_room hrs) hdg hcs) hS (fun q _ h => hFc q h) hFc (fun u t H1 locs1 ht hvm hw hB hz1 hk1 hS1 => ?_)
  obtain ⟨hP1, hK1, hD1⟩ := hB
  rw [ht] at hP1
  obtain ⟨hP2, hD2⟩ := va_joinQ hP hD isC isR hC hRr hnR hdis hk1 hFc hP1 hD1
  exact kk u H1 locs1 hw hP2 hD2 hS1 hz1
end
/-! ===== a Ground's cells by a row; the start's row ===== -/
def w0 : Nat → Int := va_up (va_up (va_up (va_up (va_up (va_up (va_up (fun _ => 0) 3 2) 4 5) 5 1) 6 12) 7 4) 8 4) 9 62
theorem w0_a (a : Nat) (h : 10 ≤ a) : (fun j => w0 (a + 3 * j)) = fun _ => 0 := by
  funext j
  unfold w0
  rw [va_up_ne _ _ (by omega), va_up_ne _ _ (by omega), va_up_ne _ _ (by omega), va_up_ne _ _ (by omega), va_up_ne _ _ (by omega), va_up_ne _ _ (by omega), va_up_ne _ _ (by omega)]
theorem w0_hi (k : Nat) (h : 10 ≤ k) : w0 k = 0 := by
  unfold w0
  rw [va_up_ne _ _ (by omega), va_up_ne _ _ (by omega), va_up_ne _ _ (by omega), va_up_ne _ _ (by omega), va_up_ne _ _ (by omega), va_up_ne _ _ (by omega), va_up_ne _ _ (by omega)]
theorem w0_v : vR w0 := by
  refine ⟨by decide, by decide, by decide, by decide, by decide, by decide, by decide, by decide, by decide, by decide, fun i hi => ?_⟩
  exfalso
  have h0 : w0 0 = 0 := by decide
  rw [h0] at hi
  omega
/-- a Ground's row changed for one that is the same in its forty places -/
theorem zw_G {D : va_G} {A : Nat → Prop} {ws : va_W} {H : Heap} {cI : ClassId} {ga gx gy gz : Nat} {g g2 : Nat → Int} (hP : va_P D vwCl ws H) (hD : va_D A ws) (hg : ∀ k, k < 40 → g k = g2 k) (i : Nat) (h0 : ws[i]? = some (ga, .inr (2, [.int (iI (g 0)), .ref gx, .ref gy, .ref gz, .int (iI (g 1)), .int (iI (g 2)), .int (iI (g 3)), .int (iI (g 4)), .int (iI (g 5)), .int (iI (g 6)), .int (iI (g 7)), .int (iI (g 8)), .int (iI (g 9))]))) (h1 : ws[i + 1]? = some (gx, .inl (cI, 10, .inl (aI (fun j => g (10 + 3 * j)))))) (h2 : ws[i + 2]? = some (gy, .inl (cI, 10, .inl (aI (fun j => g (11 + 3 * j)))))) (h3 : ws[i + 3]? = some (gz, .inl (cI, 10, .inl (aI (fun j => g (12 + 3 * j)))))) : va_P D vwCl ((((ws.set i (ga, .inr (2, [.int (iI (g2 0)), .ref gx, .ref gy, .ref gz, .int (iI (g2 1)), .int (iI (g2 2)), .int (iI (g2 3)), .int (iI (g2 4)), .int (iI (g2 5)), .int (iI (g2 6)), .int (iI (g2 7)), .int (iI (g2 8)), .int (iI (g2 9))]))).set (i + 1) (gx, .inl (cI, 10, .inl (aI (fun j => g2 (10 + 3 * j)))))).set (i + 2) (gy, .inl (cI, 10, .inl (aI (fun j => g2 (11 + 3 * j)))))).set (i + 3) (gz, .inl (cI, 10, .inl (aI (fun j => g2 (12 + 3 * j)))))) H ∧ va_D A ((((ws.set i (ga, .inr (2, [.int (iI (g2 0)), .ref gx, .ref gy, .ref gz, .int (iI (g2 1)), .int (iI (g2 2)), .int (iI (g2 3)), .int (iI (g2 4)), .int (iI (g2 5)), .int (iI (g2 6)), .int (iI (g2 7)), .int (iI (g2 8)), .int (iI (g2 9))]))).set (i + 1) (gx, .inl (cI, 10, .inl (aI (fun j => g2 (10 + 3 * j)))))).set (i + 2) (gy, .inl (cI, 10, .inl (aI (fun j => g2 (11 + 3 * j)))))).set (i + 3) (gz, .inl (cI, 10, .inl (aI (fun j => g2 (12 + 3 * j)))))) := by
  have p0 := hP i _ h0
  have p1 := hP (i + 1) _ h1
  have p2 := hP (i + 2) _ h2
  have p3 := hP (i + 3) _ h3
  refine ⟨va_P_at (va_P_at (va_P_at (va_P_at hP i ?_) (i + 1) ?_) (i + 2) ?_) (i + 3) ?_, ?_⟩
  · rw [← hg 0 (by omega), ← hg 1 (by omega), ← hg 2 (by omega), ← hg 3 (by omega), ← hg 4 (by omega), ← hg 5 (by omega), ← hg 6 (by omega), ← hg 7 (by omega), ← hg 8 (by omega), ← hg 9 (by omega)]; exact p0
  · exact at_i (fun j hj => hg (10 + 3 * j) (by omega)) p1
  · exact at_i (fun j hj => hg (11 + 3 * j) (by omega)) p2
  · exact at_i (fun j hj => hg (12 + 3 * j) (by omega)) p3
  · have d0 : va_D A (ws.set i (ga, .inr (2, [.int (iI (g2 0)), .ref gx, .ref gy, .ref gz, .int (iI (g2 1)), .int (iI (g2 2)), .int (iI (g2 3)), .int (iI (g2 4)), .int (iI (g2 5)), .int (iI (g2 6)), .int (iI (g2 7)), .int (iI (g2 8)), .int (iI (g2 9))]))) := hD.set h0
    have d1 : va_D A ((ws.set i (ga, .inr (2, [.int (iI (g2 0)), .ref gx, .ref gy, .ref gz, .int (iI (g2 1)), .int (iI (g2 2)), .int (iI (g2 3)), .int (iI (g2 4)), .int (iI (g2 5)), .int (iI (g2 6)), .int (iI (g2 7)), .int (iI (g2 8)), .int (iI (g2 9))]))).set (i + 1) (gx, .inl (cI, 10, .inl (aI (fun j => g2 (10 + 3 * j)))))) := d0.set (by rw [List.getElem?_set_ne (by omega)]; exact h1)
    have d2 : va_D A (((ws.set i (ga, .inr (2, [.int (iI (g2 0)), .ref gx, .ref gy, .ref gz, .int (iI (g2 1)), .int (iI (g2 2)), .int (iI (g2 3)), .int (iI (g2 4)), .int (iI (g2 5)), .int (iI (g2 6)), .int (iI (g2 7)), .int (iI (g2 8)), .int (iI (g2 9))]))).set (i + 1) (gx, .inl (cI, 10, .inl (aI (fun j => g2 (10 + 3 * j)))))).set (i + 2) (gy, .inl (cI, 10, .inl (aI (fun j => g2 (11 + 3 * j)))))) := d1.set (by rw [List.getElem?_set_ne (by omega), List.getElem?_set_ne (by omega)]; exact h2)
    exact d2.set (by rw [List.getElem?_set_ne (by omega), List.getElem?_set_ne (by omega), List.getElem?_set_ne (by omega)]; exact h3)
/-! ===== the ring as it grows ===== -/
def gW (cI : ClassId) (ga gx gy gz : Nat) (g : Nat → Int) : va_W := [(ga, .inr (2, [.int (iI (g 0)), .ref gx, .ref gy, .ref gz, .int (iI (g 1)), .int (iI (g 2)), .int (iI (g 3)), .int (iI (g 4)), .int (iI (g 5)), .int (iI (g 6)), .int (iI (g 7)), .int (iI (g 8)), .int (iI (g 9))])), (gx, .inl (cI, 10, .inl (aI (fun j => g (10 + 3 * j))))), (gy, .inl (cI, 10, .inl (aI (fun j => g (11 + 3 * j))))), (gz, .inl (cI, 10, .inl (aI (fun j => g (12 + 3 * j)))))]
def rP (cI : ClassId) (pa px py pz : Nat → Nat) (hh : Nat → Nat → Int) : Nat → va_W
  | 0 => []
  | n + 1 => rP cI pa px py pz hh n ++ gW cI (pa n) (px n) (py n) (pz n) (hh n)
theorem rP_16 (cI : ClassId) (pa px py pz : Nat → Nat) (hh : Nat → Nat → Int) : rP cI pa px py pz hh 16 = rC cI pa px py pz hh := rfl
theorem rP_congr {cI : ClassId} {pa px py pz pa2 px2 py2 pz2 : Nat → Nat} {hh : Nat → Nat → Int} : ∀ (n : Nat), (∀ k, k < n → pa k = pa2 k ∧ px k = px2 k ∧ py k = py2 k ∧ pz k = pz2 k) → rP cI pa px py pz hh n = rP cI pa2 px2 py2 pz2 hh n := by
  intro n
  induction n with
  | zero => intro _; rfl
  | succ n ih =>
    intro h
    have hn := h n (by omega)
    show rP cI pa px py pz hh n ++ gW cI (pa n) (px n) (py n) (pz n) (hh n) = rP cI pa2 px2 py2 pz2 hh n ++ gW cI (pa2 n) (px2 n) (py2 n) (pz2 n) (hh n)
    rw [ih (fun k hk => h k (by omega)), hn.1, hn.2.1, hn.2.2.1, hn.2.2.2]
theorem rP_grow {cI : ClassId} {pa px py pz : Nat → Nat} {hh : Nat → Nat → Int} (n a x y z : Nat) : rP cI pa px py pz hh n ++ gW cI a x y z (hh n) = rP cI (va_up pa n a) (va_up px n x) (va_up py n y) (va_up pz n z) hh (n + 1) := by
  show _ = rP cI (va_up pa n a) (va_up px n x) (va_up py n y) (va_up pz n z) hh n ++ gW cI (va_up pa n a n) (va_up px n x n) (va_up py n y n) (va_up pz n z n) (hh n)
  rw [va_up_self, va_up_self, va_up_self, va_up_self, rP_congr (pa := pa) (px := px) (py := py) (pz := pz) (pa2 := va_up pa n a) (px2 := va_up px n x) (py2 := va_up py n y) (pz2 := va_up pz n z) n (fun k hk => ⟨(va_up_ne _ _ (by omega)).symm, (va_up_ne _ _ (by omega)).symm, (va_up_ne _ _ (by omega)).symm, (va_up_ne _ _ (by omega)).symm⟩)]
def rF (pa : Nat → Nat) (n : Nat) : Nat → Option Nat := fun k => if k < n then some (pa k) else none
theorem rF_0 (pa : Nat → Nat) : rF pa 0 = fun _ => none := by funext k; unfold rF; rw [if_neg (by omega)]
theorem rF_1 (pa : Nat → Nat) (n a : Nat) : va_up (rF pa n) n (some a) = rF (va_up pa n a) (n + 1) := by
  funext k
  unfold rF
  by_cases e : k = n
  · rw [e, va_up_self, va_up_self, if_pos (by omega)]
  · rw [va_up_ne _ _ e, va_up_ne _ _ e]
    by_cases h : k < n
    · rw [if_pos h, if_pos (by omega)]
    · rw [if_neg h, if_neg (by omega)]
