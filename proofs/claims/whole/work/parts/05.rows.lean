/-! ===== the shapes of the contracts, entries, ends and calls ===== -/
abbrev rmF (f lc : Nat) : Room := { frames := f, cells := 0, slots := 0, locals := lc }
abbrev rmC (f cs sl lc : Nat) : Room := { frames := f, cells := cs, slots := sl, locals := lc }
/-- links among nest mates, arrays of the class's own objects: what the tables say of them -/
def nst (U : State) : Prop := va_Nw (.methodLinkNest RX3 17 yX2_init RX5) U ∧ va_Nw (.methodLinkNest RX5 18 yX0_init RX5) U ∧ va_Nw (.methodLinkNest RX5 31 yX2_init RX5) U ∧ va_Nw (.methodLinkNest RX5 45 yX4_init RX5) U ∧ va_Nw (.methodLinkNest RX4 9 yX2_init RX5) U ∧ va_Nw (.methodLinkNest RX1 141 yX5_inLowestTerms RX5) U ∧ va_AO RX2 U ∧ va_AO RX4 U
theorem nst_warm {s U : State} (hW : s.WarmedH U.vm) (h : nst s) : nst U := ⟨va_Nw.warmM hW h.1, va_Nw.warmM hW h.2.1, va_Nw.warmM hW h.2.2.1, va_Nw.warmM hW h.2.2.2.1, va_Nw.warmM hW h.2.2.2.2.1, va_Nw.warmM hW h.2.2.2.2.2.1, va_AO.moved hW.alike h.2.2.2.2.2.2.1, va_AO.moved hW.alike h.2.2.2.2.2.2.2⟩
theorem nst_call {U : State} {g : JFrame} {mk : MethodId} {a : Array Value} (h : nst U) : nst (U.calling g mk a) := ⟨va_Nw.same rfl rfl h.1, va_Nw.same rfl rfl h.2.1, va_Nw.same rfl rfl h.2.2.1, va_Nw.same rfl rfl h.2.2.2.1, va_Nw.same rfl rfl h.2.2.2.2.1, va_Nw.same rfl rfl h.2.2.2.2.2.1, va_AO.moved (u := U) (Vm.Alike.refl U.vm) h.2.2.2.2.2.2.1, va_AO.moved (u := U) (Vm.Alike.refl U.vm) h.2.2.2.2.2.2.2⟩
abbrev pcN (av : List Value) : Array Value → State → Prop := va_Pc av (fun _ => True)
abbrev pcR (D : va_G) (tys : List (ClassId × FieldType)) (ws : va_W) (av : List Value) : Array Value → State → Prop := va_Pc av (fun U => va_P D vwCl ws U.heap ∧ va_K D vwCl tys U ∧ nst U)
abbrev pcW (D : va_G) (tys : List (ClassId × FieldType)) (ws : va_W) (av : List Value) (sz : Nat) : Array Value → State → Prop := va_Pc av (fun U => U.heap.size = sz ∧ va_P D vwCl ws U.heap ∧ va_K D vwCl tys U ∧ va_D (fun _ => True) ws ∧ nst U)
theorem pcN_bl {av : List Value} : FrameBlind (pcN av) := fun _ _ _ _ q => q
theorem pcR_bl {D : va_G} {tys : List (ClassId × FieldType)} {ws : va_W} {av : List Value} : FrameBlind (pcR D tys ws av) := fun a U g mk q => by
  obtain ⟨q0, qP, qK, qN⟩ := q
  exact ⟨q0, qP, va_K.moved (u := U) (U := U.calling g mk a) (Vm.Alike.refl U.vm) qK, nst_call qN⟩
theorem pcW_bl {D : va_G} {tys : List (ClassId × FieldType)} {ws : va_W} {av : List Value} {sz : Nat} : FrameBlind (pcW D tys ws av sz) := fun a U g mk q => by
  obtain ⟨q0, q1, qP, qK, qD, qN⟩ := q
  exact ⟨q0, q1, qP, va_K.moved (u := U) (U := U.calling g mk a) (Vm.Alike.refl U.vm) qK, qD, nst_call qN⟩
abbrev bW (D : va_G) (tys : List (ClassId × FieldType)) (A : Nat → Prop) (ws : va_W) (t : State) : Prop := va_P D vwCl ws t.heap ∧ va_K D vwCl tys t ∧ va_D A ws
abbrev qWv {S : Type} (D : va_G) (tys : List (ClassId × FieldType)) (A : Nat → Prop) (post : S → Prop) (w1 : S → va_W) : Array Value → State → Outcome → State → Prop := va_Qv post (fun u t => bW D tys A (w1 u) t) A
abbrev qWi {S : Type} (D : va_G) (tys : List (ClassId × FieldType)) (A : Nat → Prop) (post : Int → S → Prop) (w1 : S → va_W) : Array Value → State → Outcome → State → Prop := va_Qi (fun r u => ∃ z : Int, r = iI z ∧ post z u) (fun u t => bW D tys A (w1 u) t) A
abbrev qWl {S : Type} (D : va_G) (tys : List (ClassId × FieldType)) (A : Nat → Prop) (post : Int → S → Prop) (w1 : S → va_W) : Array Value → State → Outcome → State → Prop := va_Ql (fun r u => ∃ z : Int, r = lI z ∧ post z u) (fun u t => bW D tys A (w1 u) t) A
abbrev qRi (z : Int) : Array Value → State → Outcome → State → Prop := vp_Si (fun r => r = iI z)
abbrev qRl (z : Int) : Array Value → State → Outcome → State → Prop := vp_Sl (fun r => r = lI z)
/-- a truth as a number -/
def zb (P : Prop) [Decidable P] : Int := if P then 1 else 0
theorem zb_rg (P : Prop) [Decidable P] : 0 ≤ zb P ∧ zb P ≤ 1 := by unfold zb; split <;> omega
theorem zb_t {P : Prop} [Decidable P] (h : P) : zb P = 1 := if_pos h
theorem zb_f {P : Prop} [Decidable P] (h : ¬ P) : zb P = 0 := if_neg h
theorem zb_iff {P Q : Prop} [Decidable P] [Decidable Q] (h : P ↔ Q) : zb P = zb Q := by unfold zb; by_cases hp : P <;> simp [hp, ← h]
theorem zb_01 (P : Prop) [Decidable P] : zb P = 0 ∨ zb P = 1 := by unfold zb; split <;> simp
abbrev tyA (cI cL cG cM : ClassId) : List (ClassId × FieldType) := [(cI, .int), (cL, .long), (cG, .object RX2), (cM, .object RX4)]
section ZE
variable {p : Program} {l : Launch} {e : Env} {R : Room} {s : State} {m : MethodId} {args : Array Value} {below : List Frame} {meth : Method} {c : Code} {H : Heap} {locs : List Loc} {cells slots : Nat} {Q : State → Prop} {cc : ByteArray} {pc : Nat} {ls : Array Slot} {rest st : List Value} {D : va_G} {tys : List (ClassId × FieldType)} {A : Nat → Prop}
/-- ends of methods that only read -/
theorem ze_Ri (hx : p.tables.exec = Jvm.exec) (hb : c.code = cc) (hr : meth.sig.returnType = some .int) (hlk : meth.locks = false) (hdg : decode cc pc = .ok (.ireturn, 1)) {z z2 : Int} (hz : z = z2) : W p l e R s m args below meth c s.heap [] 0 0 (MQ below (qRi z2) args s 0 0 (fun _ => False)) (F0 m pc ls [.int (iI z)]) :=
  W.iret hx hb hr (fun t ht _ => ⟨_, rfl, by rw [hz], ht⟩) (fun _ h => absurd h List.not_mem_nil) hdg
theorem ze_Rz (hx : p.tables.exec = Jvm.exec) (hb : c.code = cc) (hr : meth.sig.returnType = some .boolean) (hlk : meth.locks = false) (hdg : decode cc pc = .ok (.ireturn, 1)) {z z2 : Int} (h01 : z = 0 ∨ z = 1) (hz : z = z2) : W p l e R s m args below meth c s.heap [] 0 0 (MQ below (qRi z2) args s 0 0 (fun _ => False)) (F0 m pc ls [.int (iI z)]) :=
  W.zret (ty := .boolean) hx hb hr (by rcases h01 with rfl | rfl <;> decide) (fun t ht _ => ⟨_, rfl, by rw [hz], ht⟩) (fun _ h => absurd h List.not_mem_nil) hdg
theorem ze_Rl (hx : p.tables.exec = Jvm.exec) (hb : c.code = cc) (hr : meth.sig.returnType = some .long) (hlk : meth.locks = false) (hdg : decode cc pc = .ok (.lreturn, 1)) {z z2 : Int} (hz : z = z2) : W p l e R s m args below meth c s.heap [] 0 0 (MQ below (qRl z2) args s 0 0 (fun _ => False)) (F0 m pc ls [.long (lI z)]) :=
  W.lret hx hb hr (fun t ht _ => ⟨_, rfl, by rw [hz], ht⟩) (fun _ h => absurd h List.not_mem_nil) hdg
/-- ends of methods that write -/
theorem ze_Wv {S : Type} {post : S → Prop} {w1 : S → va_W} (hx : p.tables.exec = Jvm.exec) (hb : c.code = cc) (hr : meth.sig.returnType = none) (hlk : meth.locks = false) (hdg : decode cc pc = .ok (.return_, 1)) (u : S) (hp : post u) (hP : va_P D vwCl (w1 u) H) (hK : va_K D vwCl tys s) (hD : va_D A (w1 u)) (hS : va_S A s.heap H locs) : W p l e R s m args below meth c H locs cells slots (MQ below (qWv D tys A post w1) args s cells slots A) (F0 m pc ls []) :=
  W.vret hx hb hr (fun t ht hW => ⟨⟨u, rfl, hp, by rw [ht]; exact hP, va_K.moved hW.alike hK, hD⟩, hS.F ht⟩) hS.2.2 hdg
theorem ze_Wi {S : Type} {post : Int → S → Prop} {w1 : S → va_W} (hx : p.tables.exec = Jvm.exec) (hb : c.code = cc) (hr : meth.sig.returnType = some .int) (hlk : meth.locks = false) (hdg : decode cc pc = .ok (.ireturn, 1)) {z : Int} (u : S) (hp : post z u) (hP : va_P D vwCl (w1 u) H) (hK : va_K D vwCl tys s) (hD : va_D A (w1 u)) (hS : va_S A s.heap H locs) : W p l e R s m args below meth c H locs cells slots (MQ below (qWi D tys A post w1) args s cells slots A) (F0 m pc ls [.int (iI z)]) :=
  W.iret hx hb hr (fun t ht hW => ⟨⟨_, u, rfl, ⟨z, rfl, hp⟩, by rw [ht]; exact hP, va_K.moved hW.alike hK, hD⟩, hS.F ht⟩) hS.2.2 hdg
theorem ze_Wz {S : Type} {post : Int → S → Prop} {w1 : S → va_W} (hx : p.tables.exec = Jvm.exec) (hb : c.code = cc) (hr : meth.sig.returnType = some .boolean) (hlk : meth.locks = false) (hdg : decode cc pc = .ok (.ireturn, 1)) {z : Int} (h01 : z = 0 ∨ z = 1) (u : S) (hp : post z u) (hP : va_P D vwCl (w1 u) H) (hK : va_K D vwCl tys s) (hD : va_D A (w1 u)) (hS : va_S A s.heap H locs) : W p l e R s m args below meth c H locs cells slots (MQ below (qWi D tys A post w1) args s cells slots A) (F0 m pc ls [.int (iI z)]) :=
  W.zret (ty := .boolean) hx hb hr (by rcases h01 with rfl | rfl <;> decide) (fun t ht hW => ⟨⟨_, u, rfl, ⟨z, rfl, hp⟩, by rw [ht]; exact hP, va_K.moved hW.alike hK, hD⟩, hS.F ht⟩) hS.2.2 hdg
theorem ze_Wl {S : Type} {post : Int → S → Prop} {w1 : S → va_W} (hx : p.tables.exec = Jvm.exec) (hb : c.code = cc) (hr : meth.sig.returnType = some .long) (hlk : meth.locks = false) (hdg : decode cc pc = .ok (.lreturn, 1)) {z : Int} (u : S) (hp : post z u) (hP : va_P D vwCl (w1 u) H) (hK : va_K D vwCl tys s) (hD : va_D A (w1 u)) (hS : va_S A s.heap H locs) : W p l e R s m args below meth c H locs cells slots (MQ below (qWl D tys A post w1) args s cells slots A) (F0 m pc ls [.long (lI z)]) :=
  W.lret hx hb hr (fun t ht hW => ⟨⟨_, u, rfl, ⟨z, rfl, hp⟩, by rw [ht]; exact hP, va_K.moved hW.alike hK, hD⟩, hS.F ht⟩) hS.2.2 hdg
/-- a truth on the stack, asked -/
theorem zr_bif_eq (hx : p.tables.exec = Jvm.exec) (hb : c.code = cc) {P : Prop} [Decidable P] {off : Int} {tgt : Nat} (hdg : decode cc pc = .ok (.ifCond .eq off, 3)) (ht : (pc : Int) + off = (tgt : Int)) (kt : ¬ P → W p l e R s m args below meth c H locs cells slots Q (F0 m tgt ls rest)) (kf : P → W p l e R s m args below meth c H locs cells slots Q (F0 m (pc + 3) ls rest)) : W p l e R s m args below meth c H locs cells slots Q (F0 m pc ls (.int (iI (zb P)) :: rest)) :=
  zr_if_eq hx hb hdg ht (by have := zb_rg P; omega) (fun h => kt (fun hp => by rw [zb_t hp] at h; omega)) (fun h => kf (Classical.byContradiction fun hn => h (zb_f hn)))
theorem zr_bif_ne (hx : p.tables.exec = Jvm.exec) (hb : c.code = cc) {P : Prop} [Decidable P] {off : Int} {tgt : Nat} (hdg : decode cc pc = .ok (.ifCond .ne off, 3)) (ht : (pc : Int) + off = (tgt : Int)) (kt : P → W p l e R s m args below meth c H locs cells slots Q (F0 m tgt ls rest)) (kf : ¬ P → W p l e R s m args below meth c H locs cells slots Q (F0 m (pc + 3) ls rest)) : W p l e R s m args below meth c H locs cells slots Q (F0 m pc ls (.int (iI (zb P)) :: rest)) :=
  zr_if_ne hx hb hdg ht (by have := zb_rg P; omega) (fun h => kt (Classical.byContradiction fun hn => h (zb_f hn))) (fun h => kf (fun hp => by rw [zb_t hp] at h; omega))
end ZE
section ZM
variable {l : Launch} {y : MethodName} {b : ByteArray} {n : Nat} {ret : Option FieldType} {rm : Room} {D : va_G} {tys : List (ClassId × FieldType)} {ws : va_W} {av : List Value} {own : String} {lv : List (Nat × Value)}
/-- entries -/
theorem zm_N {Qc : Array Value → State → Outcome → State → Prop} (hy : plainName y.cls = true) (ho : y.cls = own) (hsl : (lg_sl av).length ≤ n) (hlv : lv_args 0 av = lv)
    (body : ∀ (p : Program) (e : Env) (s : State) (m : MethodId) (below : List Frame) (meth : Method) (c : Code) (args : Array Value) (Q : State → Prop), p.tables.exec = Jvm.exec → c.code = b → meth.sig.returnType = ret → c.maxLocals = n → s.vm.findClass own = some m.cls → (∀ w ∈ wsL_law, w.before args s = true) → meth.locks = false → Q = MQ below Qc args s 0 0 (fun _ => False) → ∀ ls : Array Slot, lv_has ls n lv → W p l e rm s m args below meth c s.heap [] 0 0 Q (F0 m 0 ls [])) :
    Met l y (wU y b n ret) rm (pcN av) Qc 0 0 (fun _ => False) := by
  refine Met.ofW (cc := b) (maxL := n) (ret := ret) hy rfl ?_
  intro p e s m args below meth c s₁ B hml hv
  obtain ⟨rfl, -⟩ := hv
  have hts := atoms_spec (ws := wU y b n ret) B.pre
  have hl := lv_entry av (n := n) hsl
  rw [lg_entry_eq]
  rw [hlv] at hl
  exact body p e s m below meth c _ _ B.exec B.bytes B.returns hml (by rw [← ho]; exact findClass_of_methodNamed B.named) (fun w h => hts w (List.mem_cons_of_mem _ h)) B.notSynchronized rfl _ hl
theorem zm_R {Qc : Array Value → State → Outcome → State → Prop} (hy : plainName y.cls = true) (ho : y.cls = own) (hsl : (lg_sl av).length ≤ n) (hlv : lv_args 0 av = lv)
    (body : ∀ (p : Program) (e : Env) (s : State) (m : MethodId) (below : List Frame) (meth : Method) (c : Code) (args : Array Value) (Q : State → Prop), p.tables.exec = Jvm.exec → c.code = b → meth.sig.returnType = ret → c.maxLocals = n → s.vm.findClass own = some m.cls → (∀ w ∈ wsL_law, w.before args s = true) → meth.locks = false → va_P D vwCl ws s.heap → va_K D vwCl tys s → nst s → Q = MQ below Qc args s 0 0 (fun _ => False) → ∀ ls : Array Slot, lv_has ls n lv → W p l e rm s m args below meth c s.heap [] 0 0 Q (F0 m 0 ls [])) :
    Met l y (wU y b n ret) rm (pcR D tys ws av) Qc 0 0 (fun _ => False) := by
  refine Met.ofW (cc := b) (maxL := n) (ret := ret) hy rfl ?_
  intro p e s m args below meth c s₁ B hml hv
  obtain ⟨rfl, hP, hK, hN⟩ := hv
  have hts := atoms_spec (ws := wU y b n ret) B.pre
  have hl := lv_entry av (n := n) hsl
  rw [lg_entry_eq]
  rw [hlv] at hl
  exact body p e s m below meth c _ _ B.exec B.bytes B.returns hml (by rw [← ho]; exact findClass_of_methodNamed B.named) (fun w h => hts w (List.mem_cons_of_mem _ h)) B.notSynchronized hP hK hN rfl _ hl
theorem zm_W {QF : (Nat → Prop) → Array Value → State → Outcome → State → Prop} {mc ms sz : Nat} (hy : plainName y.cls = true) (ho : y.cls = own) (hsl : (lg_sl av).length ≤ n) (hlv : lv_args 0 av = lv)
    (body : ∀ (p : Program) (e : Env) (s : State) (m : MethodId) (below : List Frame) (meth : Method) (c : Code) (A : Nat → Prop) (args : Array Value) (Q : State → Prop), p.tables.exec = Jvm.exec → c.code = b → meth.sig.returnType = ret → c.maxLocals = n → s.vm.findClass own = some m.cls → (∀ w ∈ wsL_law, w.before args s = true) → meth.locks = false → meth.name = y.name → va_P D vwCl ws s.heap → va_K D vwCl tys s → nst s → va_D A ws → (∀ q : Nat, s.heap.size ≤ q → A q) → va_S A s.heap s.heap [] → s.heap.size = sz → Q = MQ below (QF A) args s mc ms A → ∀ ls : Array Slot, lv_has ls n lv → W p l e rm s m args below meth c s.heap [] 0 0 Q (F0 m 0 ls [])) :
    Met l y (wU y b n ret) rm (pcW D tys ws av sz) (QF (va_A ws sz)) mc ms (va_A ws sz) := by
  refine Met.ofW (cc := b) (maxL := n) (ret := ret) hy rfl ?_
  intro p e s m args below meth c s₁ B hml hv
  obtain ⟨rfl, hsz, hP, hK, hD0, hN⟩ := hv
  have hts := atoms_spec (ws := wU y b n ret) B.pre
  have hl := lv_entry av (n := n) hsl
  rw [lg_entry_eq]
  rw [hlv] at hl
  exact body p e s m below meth c (va_A ws sz) _ _ B.exec B.bytes B.returns hml (by rw [← ho]; exact findClass_of_methodNamed B.named) (fun w h => hts w (List.mem_cons_of_mem _ h)) B.notSynchronized (name_of_methodNamed B.named B.method).1 hP hK hN (hD0.self (sz := sz)) (fun q h => Or.inr (by omega)) va_S.rf hsz rfl _ hl
end ZM
section ZC
variable {p : Program} {l : Launch} {e : Env} {R : Room} {s : State} {m : MethodId} {args : Array Value} {below : List Frame} {meth : Method} {c : Code} {H : Heap} {locs : List Loc} {cells slots : Nat} {Q : State → Prop} {cc : ByteArray} {pc : Nat} {ls : Array Slot} {rest st : List Value} {D : va_G} {tys : List (ClassId × FieldType)} {A : Nat → Prop}
variable {own : String} {nL idx n k bb : Nat} {y : MethodName} {b : ByteArray} {ret : Option FieldType} {rm : Room} {As : List Value} {wc : va_W}
theorem zc_B {mc ms : Nat} (hU : ∀ w ∈ wsL_law, w.before args s = true) (hT : cT y b n ret k) (hl : Cond.methodLink own idx y ∈ wsL_law) (hrm : rm.cells = mc ∧ rm.slots = ms) (hR : rm.frames + 1 ≤ R.frames ∧ 8 + (n + 11) + rm.locals ≤ R.locals) : CallB R s args own idx y b n ret (wU y b n ret) rm mc ms k :=
  callB_of k hU (gU hT.1) rfl hrm.1 hrm.2 (hU _ hT.2.1) (hU _ hl) hT.2.2 hR
/-- a static method of numbers alone -/
theorem zc_Si {z : Int} (hM : Met l y (wU y b n ret) rm (pcN As) (qRi z) 0 0 (fun _ => False)) (hx : p.tables.exec = Jvm.exec) (hb : c.code = cc) (hml : c.maxLocals = nL) (hown : s.vm.findClass own = some m.cls) (hU : ∀ w ∈ wsL_law, w.before args s = true) (hsz : ls.size = nL)
    (hT : cT y b n ret k) (hV : Cond.static y ∈ wsL_law) (hl : Cond.methodLink own idx y ∈ wsL_law) (hrm : rm.cells = 0 ∧ rm.slots = 0) (hR : rm.frames + 1 ≤ R.frames ∧ 8 + (n + 11) + rm.locals ≤ R.locals) (hn : As.length = k) (hst : st = As.reverse ++ rest) (hrs : (rest.map fun v => v.category).sum ≤ 8) (hdg : decode cc pc = .ok (.invokestatic idx, 3)) (hcs : cells + 0 ≤ R.cells ∧ slots + 0 ≤ R.slots)
    (kk : W p l e R s m args below meth c H locs cells slots Q (F0 m (pc + 3) ls (.int (iI z) :: rest))) : W p l e R s m args below meth c H locs cells slots Q (F0 m pc ls st) := by
  refine vp_callSi (W.runS (As := As) (rest := rest) ⟨hx, hb, hml, hown, hU⟩ hM ⟨zc_B hU hT hl hrm hR, hU _ hV⟩ ⟨pcN_bl, fun U _ _ => ⟨rfl, trivial⟩⟩ rfl hn hsz hst (lv_room hrs) hdg hcs) (fun r hr => ?_)
  subst hr
  exact kk
theorem zc_Sl {z : Int} (hM : Met l y (wU y b n ret) rm (pcN As) (qRl z) 0 0 (fun _ => False)) (hx : p.tables.exec = Jvm.exec) (hb : c.code = cc) (hml : c.maxLocals = nL) (hown : s.vm.findClass own = some m.cls) (hU : ∀ w ∈ wsL_law, w.before args s = true) (hsz : ls.size = nL)
    (hT : cT y b n ret k) (hV : Cond.static y ∈ wsL_law) (hl : Cond.methodLink own idx y ∈ wsL_law) (hrm : rm.cells = 0 ∧ rm.slots = 0) (hR : rm.frames + 1 ≤ R.frames ∧ 8 + (n + 11) + rm.locals ≤ R.locals) (hn : As.length = k) (hst : st = As.reverse ++ rest) (hrs : (rest.map fun v => v.category).sum ≤ 8) (hdg : decode cc pc = .ok (.invokestatic idx, 3)) (hcs : cells + 0 ≤ R.cells ∧ slots + 0 ≤ R.slots)
    (kk : W p l e R s m args below meth c H locs cells slots Q (F0 m (pc + 3) ls (.long (lI z) :: rest))) : W p l e R s m args below meth c H locs cells slots Q (F0 m pc ls st) := by
  refine vp_callSl (W.runS (As := As) (rest := rest) ⟨hx, hb, hml, hown, hU⟩ hM ⟨zc_B hU hT hl hrm hR, hU _ hV⟩ ⟨pcN_bl, fun U _ _ => ⟨rfl, trivial⟩⟩ rfl hn hsz hst (lv_room hrs) hdg hcs) (fun r hr => ?_)
  subst hr
  exact kk
/-- a nest mate's static method of numbers alone -/
theorem zc_SlN {z : Int} {host : String} (hM : Met l y (wU y b n ret) rm (pcN As) (qRl z) 0 0 (fun _ => False)) (hx : p.tables.exec = Jvm.exec) (hb : c.code = cc) (hml : c.maxLocals = nL) (hown : s.vm.findClass own = some m.cls) (hU : ∀ w ∈ wsL_law, w.before args s = true) (hsz : ls.size = nL)
    (hT : cT y b n ret k) (hV : Cond.static y ∈ wsL_law) (hl : va_Nw (.methodLinkNest own idx y host) s) (hrm : rm.cells = 0 ∧ rm.slots = 0) (hR : rm.frames + 1 ≤ R.frames ∧ 8 + (n + 11) + rm.locals ≤ R.locals) (hn : As.length = k) (hst : st = As.reverse ++ rest) (hrs : (rest.map fun v => v.category).sum ≤ 8) (hdg : decode cc pc = .ok (.invokestatic idx, 3)) (hcs : cells + 0 ≤ R.cells ∧ slots + 0 ≤ R.slots)
    (kk : W p l e R s m args below meth c H locs cells slots Q (F0 m (pc + 3) ls (.long (lI z) :: rest))) : W p l e R s m args below meth c H locs cells slots Q (F0 m pc ls st) := by
  refine vp_callSl (va_Run.run (va_runSN (As := As) (rest := rest) ⟨hx, hb, hml, hown, hU⟩ hM ⟨va_cnB k hU (gU hT.1) rfl hrm.1 hrm.2 hl (hU _ hT.2.1) hT.2.2 hR, hU _ hV, trivial⟩ ⟨pcN_bl, fun U _ _ => ⟨rfl, trivial⟩⟩ rfl hn hsz hst (lv_room hrs) hdg hcs)) (fun r hr => ?_)
  subst hr
  exact kk
/-- an object's method that only reads -/
theorem zc_Vi {z : Int} (hM : Met l y (wU y b n ret) rm (pcR D tys wc (.ref bb :: As)) (qRi z) 0 0 (fun _ => False)) (hx : p.tables.exec = Jvm.exec) (hb : c.code = cc) (hml : c.maxLocals = nL) (hown : s.vm.findClass own = some m.cls) (hU : ∀ w ∈ wsL_law, w.before args s = true) (hsz : ls.size = nL)
    (hT : cT y b n ret k) (hV : cTV y) (hl : Cond.methodLink own idx y ∈ wsL_law) (hK : va_K D vwCl tys s) (hN : nst s) (hPc : va_P D vwCl wc H) (ci q0 : Nat) {q : vw_C} {fs : List Value} (hc : vwCl[ci]? = some q) (hq : q.1 = y.cls) (he : wc[q0]? = some (bb, .inr (ci, fs))) (hrm : rm.cells = 0 ∧ rm.slots = 0) (hR : rm.frames + 1 ≤ R.frames ∧ 8 + (n + 11) + rm.locals ≤ R.locals) (hn : As.length = k) (hst : st = As.reverse ++ .ref bb :: rest) (hrs : (rest.map fun v => v.category).sum ≤ 8) (hdg : decode cc pc = .ok (.invokevirtual idx, 3)) (hcs : cells + 0 ≤ R.cells ∧ slots + 0 ≤ R.slots)
    (kk : W p l e R s m args below meth c H locs cells slots Q (F0 m (pc + 3) ls (.int (iI z) :: rest))) : W p l e R s m args below meth c H locs cells slots Q (F0 m pc ls st) := by
  refine vp_callSi (W.runV (C := y.cls) (As := As) (rest := rest) ⟨hx, hb, hml, hown, hU⟩ hM ⟨zc_B hU hT hl hrm hR, hU _ hV.1, hU _ hV.2⟩ ⟨pcR_bl, hq ▸ va_recv hK hPc hc he, fun U hU2 hW => ⟨rfl, by rw [hU2]; exact hPc, va_K.moved hW.alike hK, nst_warm hW hN⟩⟩ rfl hn hsz hst (lv_room hrs) hdg hcs) (fun r hr => ?_)
  subst hr
  exact kk
theorem zc_Vl {z : Int} (hM : Met l y (wU y b n ret) rm (pcR D tys wc (.ref bb :: As)) (qRl z) 0 0 (fun _ => False)) (hx : p.tables.exec = Jvm.exec) (hb : c.code = cc) (hml : c.maxLocals = nL) (hown : s.vm.findClass own = some m.cls) (hU : ∀ w ∈ wsL_law, w.before args s = true) (hsz : ls.size = nL)
    (hT : cT y b n ret k) (hV : cTV y) (hl : Cond.methodLink own idx y ∈ wsL_law) (hK : va_K D vwCl tys s) (hN : nst s) (hPc : va_P D vwCl wc H) (ci q0 : Nat) {q : vw_C} {fs : List Value} (hc : vwCl[ci]? = some q) (hq : q.1 = y.cls) (he : wc[q0]? = some (bb, .inr (ci, fs))) (hrm : rm.cells = 0 ∧ rm.slots = 0) (hR : rm.frames + 1 ≤ R.frames ∧ 8 + (n + 11) + rm.locals ≤ R.locals) (hn : As.length = k) (hst : st = As.reverse ++ .ref bb :: rest) (hrs : (rest.map fun v => v.category).sum ≤ 8) (hdg : decode cc pc = .ok (.invokevirtual idx, 3)) (hcs : cells + 0 ≤ R.cells ∧ slots + 0 ≤ R.slots)
    (kk : W p l e R s m args below meth c H locs cells slots Q (F0 m (pc + 3) ls (.long (lI z) :: rest))) : W p l e R s m args below meth c H locs cells slots Q (F0 m pc ls st) := by
  refine vp_callSl (W.runV (C := y.cls) (As := As) (rest := rest) ⟨hx, hb, hml, hown, hU⟩ hM ⟨zc_B hU hT hl hrm hR, hU _ hV.1, hU _ hV.2⟩ ⟨pcR_bl, hq ▸ va_recv hK hPc hc he, fun U hU2 hW => ⟨rfl, by rw [hU2]; exact hPc, va_K.moved hW.alike hK, nst_warm hW hN⟩⟩ rfl hn hsz hst (lv_room hrs) hdg hcs) (fun r hr => ?_)
  subst hr
  exact kk
variable {S : Type} {ws wr : va_W} {w1 : S → va_W} {H0 : Heap}
/-- an object's method that writes: its cells (places isC of the caller's), the rest (places isR) -/
theorem zc_Wv {post : S → Prop} {mc ms : Nat} (hM : Met l y (wU y b n ret) rm (pcW D tys wc (.ref bb :: As) H.size) (qWv D tys (va_A wc H.size) post w1) mc ms (va_A wc H.size)) (hx : p.tables.exec = Jvm.exec) (hb : c.code = cc) (hml : c.maxLocals = nL) (hown : s.vm.findClass own = some m.cls) (hU : ∀ w ∈ wsL_law, w.before args s = true) (hsz : ls.size = nL)
    (hT : cT y b n ret k) (hV : cTV y) (hl : Cond.methodLink own idx y ∈ wsL_law) (hK : va_K D vwCl tys s) (hN : nst s) (hP : va_P D vwCl ws H) (hD : va_D A ws) (hS : va_S A H0 H locs) (hA : ∀ q : Nat, H0.size ≤ q → A q) (isC isR : List Nat) (hC : isC.map (fun i => ws[i]?) = wc.map some) (hRr : isR.map (fun i => ws[i]?) = wr.map some) (hnC : va_nd isC = true) (hnR : va_nd isR = true) (hdis : ∀ i ∈ isR, i ∉ isC) (ci q0 : Nat) {q : vw_C} {fs : List Value} (hc : vwCl[ci]? = some q) (hq : q.1 = y.cls) (he : wc[q0]? = some (bb, .inr (ci, fs))) (hrm : rm.cells = mc ∧ rm.slots = ms) (hR : rm.frames + 1 ≤ R.frames ∧ 8 + (n + 11) + rm.locals ≤ R.locals) (hn : As.length = k) (hst : st = As.reverse ++ .ref bb :: rest) (hrs : (rest.map fun v => v.category).sum ≤ 8) (hdg : decode cc pc = .ok (.invokevirtual idx, 3)) (hcs : cells + mc ≤ R.cells ∧ slots + ms ≤ R.slots)
    (kk : ∀ (u : S) (H1 : Heap) (locs1 : List Loc), post u → va_P D vwCl (wr ++ w1 u) H1 → va_D A (wr ++ w1 u) → va_S A H0 H1 locs1 → H.size ≤ H1.size → W p l e R s m args below meth c H1 locs1 (cells + mc) (slots + ms) Q (F0 m (pc + 3) ls rest)) : W p l e R s m args below meth c H locs cells slots Q (F0 m pc ls st) := by
  have hPc : va_P D vwCl wc H := fun k q hk => by
    obtain ⟨i, -, h2⟩ := va_in_of isC hC hk
    exact hP i q h2
  have hDc : va_D A wc := hD.sub isC hnC hC
  have hFc := va_free (wc := wc) hD hS hA isC hC
  refine va_callv (va_runV (C := y.cls) (As := As) (rest := rest) ⟨hx, hb, hml, hown, hU⟩ hM ⟨zc_B hU hT hl hrm hR, hU _ hV.1, hU _ hV.2⟩ ⟨pcW_bl, hq ▸ va_recv hK hPc hc he, fun U hU2 hW => ⟨rfl, by rw [hU2], by rw [hU2]; exact hPc, va_K.moved hW.alike hK, hDc.weaken (fun _ _ _ _ => trivial), nst_warm hW hN⟩⟩ rfl hn hsz hst (lv_room hrs) hdg hcs) hS (fun q _ h => hFc q h) hFc (fun u t H1 locs1 ht hvm hw hB hz1 hk1 hS1 => ?_)
  obtain ⟨hP1, hK1, hD1⟩ := hB
  rw [ht] at hP1
  obtain ⟨hP2, hD2⟩ := va_join hP hD isC isR hC hRr hnR hdis hk1 hFc hP1 hD1
  exact kk u H1 locs1 hw hP2 hD2 hS1 hz1
theorem zc_Wi {post : Int → S → Prop} {mc ms : Nat} (hM : Met l y (wU y b n ret) rm (pcW D tys wc (.ref bb :: As) H.size) (qWi D tys (va_A wc H.size) post w1) mc ms (va_A wc H.size)) (hx : p.tables.exec = Jvm.exec) (hb : c.code = cc) (hml : c.maxLocals = nL) (hown : s.vm.findClass own = some m.cls) (hU : ∀ w ∈ wsL_law, w.before args s = true) (hsz : ls.size = nL)
    (hT : cT y b n ret k) (hV : cTV y) (hl : Cond.methodLink own idx y ∈ wsL_law) (hK : va_K D vwCl tys s) (hN : nst s) (hP : va_P D vwCl ws H) (hD : va_D A ws) (hS : va_S A H0 H locs) (hA : ∀ q : Nat, H0.size ≤ q → A q) (isC isR : List Nat) (hC : isC.map (fun i => ws[i]?) = wc.map some) (hRr : isR.map (fun i => ws[i]?) = wr.map some) (hnC : va_nd isC = true) (hnR : va_nd isR = true) (hdis : ∀ i ∈ isR, i ∉ isC) (ci q0 : Nat) {q : vw_C} {fs : List Value} (hc : vwCl[ci]? = some q) (hq : q.1 = y.cls) (he : wc[q0]? = some (bb, .inr (ci, fs))) (hrm : rm.cells = mc ∧ rm.slots = ms) (hR : rm.frames + 1 ≤ R.frames ∧ 8 + (n + 11) + rm.locals ≤ R.locals) (hn : As.length = k) (hst : st = As.reverse ++ .ref bb :: rest) (hrs : (rest.map fun v => v.category).sum ≤ 8) (hdg : decode cc pc = .ok (.invokevirtual idx, 3)) (hcs : cells + mc ≤ R.cells ∧ slots + ms ≤ R.slots)
    (kk : ∀ (z : Int) (u : S) (H1 : Heap) (locs1 : List Loc), post z u → va_P D vwCl (wr ++ w1 u) H1 → va_D A (wr ++ w1 u) → va_S A H0 H1 locs1 → H.size ≤ H1.size → W p l e R s m args below meth c H1 locs1 (cells + mc) (slots + ms) Q (F0 m (pc + 3) ls (.int (iI z) :: rest))) : W p l e R s m args below meth c H locs cells slots Q (F0 m pc ls st) := by
  have hPc : va_P D vwCl wc H := fun k q hk => by
    obtain ⟨i, -, h2⟩ := va_in_of isC hC hk
    exact hP i q h2
  have hDc : va_D A wc := hD.sub isC hnC hC
  have hFc := va_free (wc := wc) hD hS hA isC hC
  refine va_calli (va_runV (C := y.cls) (As := As) (rest := rest) ⟨hx, hb, hml, hown, hU⟩ hM ⟨zc_B hU hT hl hrm hR, hU _ hV.1, hU _ hV.2⟩ ⟨pcW_bl, hq ▸ va_recv hK hPc hc he, fun U hU2 hW => ⟨rfl, by rw [hU2], by rw [hU2]; exact hPc, va_K.moved hW.alike hK, hDc.weaken (fun _ _ _ _ => trivial), nst_warm hW hN⟩⟩ rfl hn hsz hst (lv_room hrs) hdg hcs) hS (fun q _ h => hFc q h) hFc (fun r u t H1 locs1 ht hvm hw hB hz1 hk1 hS1 => ?_)
  obtain ⟨hP1, hK1, hD1⟩ := hB
  obtain ⟨z, rfl, hw⟩ := hw
  rw [ht] at hP1
  obtain ⟨hP2, hD2⟩ := va_join hP hD isC isR hC hRr hnR hdis hk1 hFc hP1 hD1
  exact kk z u H1 locs1 hw hP2 hD2 hS1 hz1
theorem zc_Wl {post : Int → S → Prop} {mc ms : Nat} (hM : Met l y (wU y b n ret) rm (pcW D tys wc (.ref bb :: As) H.size) (qWl D tys (va_A wc H.size) post w1) mc ms (va_A wc H.size)) (hx : p.tables.exec = Jvm.exec) (hb : c.code = cc) (hml : c.maxLocals = nL) (hown : s.vm.findClass own = some m.cls) (hU : ∀ w ∈ wsL_law, w.before args s = true) (hsz : ls.size = nL)
    (hT : cT y b n ret k) (hV : cTV y) (hl : Cond.methodLink own idx y ∈ wsL_law) (hK : va_K D vwCl tys s) (hN : nst s) (hP : va_P D vwCl ws H) (hD : va_D A ws) (hS : va_S A H0 H locs) (hA : ∀ q : Nat, H0.size ≤ q → A q) (isC isR : List Nat) (hC : isC.map (fun i => ws[i]?) = wc.map some) (hRr : isR.map (fun i => ws[i]?) = wr.map some) (hnC : va_nd isC = true) (hnR : va_nd isR = true) (hdis : ∀ i ∈ isR, i ∉ isC) (ci q0 : Nat) {q : vw_C} {fs : List Value} (hc : vwCl[ci]? = some q) (hq : q.1 = y.cls) (he : wc[q0]? = some (bb, .inr (ci, fs))) (hrm : rm.cells = mc ∧ rm.slots = ms) (hR : rm.frames + 1 ≤ R.frames ∧ 8 + (n + 11) + rm.locals ≤ R.locals) (hn : As.length = k) (hst : st = As.reverse ++ .ref bb :: rest) (hrs : (rest.map fun v => v.category).sum ≤ 8) (hdg : decode cc pc = .ok (.invokevirtual idx, 3)) (hcs : cells + mc ≤ R.cells ∧ slots + ms ≤ R.slots)
    (kk : ∀ (z : Int) (u : S) (H1 : Heap) (locs1 : List Loc), post z u → va_P D vwCl (wr ++ w1 u) H1 → va_D A (wr ++ w1 u) → va_S A H0 H1 locs1 → H.size ≤ H1.size → W p l e R s m args below meth c H1 locs1 (cells + mc) (slots + ms) Q (F0 m (pc + 3) ls (.long (lI z) :: rest))) : W p l e R s m args below meth c H locs cells slots Q (F0 m pc ls st) := by
  have hPc : va_P D vwCl wc H := fun k q hk => by
    obtain ⟨i, -, h2⟩ := va_in_of isC hC hk
    exact hP i q h2
  have hDc : va_D A wc := hD.sub isC hnC hC
  have hFc := va_free (wc := wc) hD hS hA isC hC
  refine va_calll (va_runV (C := y.cls) (As := As) (rest := rest) ⟨hx, hb, hml, hown, hU⟩ hM ⟨zc_B hU hT hl hrm hR, hU _ hV.1, hU _ hV.2⟩ ⟨pcW_bl, hq ▸ va_recv hK hPc hc he, fun U hU2 hW => ⟨rfl, by rw [hU2], by rw [hU2]; exact hPc, va_K.moved hW.alike hK, hDc.weaken (fun _ _ _ _ => trivial), nst_warm hW hN⟩⟩ rfl hn hsz hst (lv_room hrs) hdg hcs) hS (fun q _ h => hFc q h) hFc (fun r u t H1 locs1 ht hvm hw hB hz1 hk1 hS1 => ?_)
  obtain ⟨hP1, hK1, hD1⟩ := hB
  obtain ⟨z, rfl, hw⟩ := hw
  rw [ht] at hP1
  obtain ⟨hP2, hD2⟩ := va_join hP hD isC isR hC hRr hnR hdis hk1 hFc hP1 hD1
  exact kk z u H1 locs1 hw hP2 hD2 hS1 hz1
end ZC
