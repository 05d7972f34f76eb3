/-! ===== rows for the class's deeds ===== -/
section
variable {p : Program} {l : Launch} {e : Env} {R : Room} {s : State} {m : MethodId} {args : Array Value} {below : List Frame} {meth : Method} {c : Code} {H H0 : Heap} {locs : List Loc} {cells slots : Nat} {Q : State → Prop} {pc : Nat} {ls : Array Slot} {rest : List Value} {cc : ByteArray} {a : Nat} {D : va_G} {cl : List vw_C} {tys : List (ClassId × FieldType)} {ws : va_W} {A : Nat → Prop}
theorem zr_aald (hx : p.tables.exec = Jvm.exec) (hb : c.code = cc) (hK : va_K D cl tys s) (hP : va_P D cl ws H) (q0 t0 : Nat) {cA : ClassId} {C : String} {n : Nat} {F : Nat → Nat} (ha : ws[q0]? = some (a, .inl (cA, n, .inr (.inr (.inr (.inr (fun k => some (F k)))))))) (ht : tys[t0]? = some (cA, .object C)) {z : Int} (k : Nat) (hz : z = (k : Int)) (hk : k < n) (hn : n ≤ 1000000) (hdg : decode cc pc = .ok (.aaload, 1))
    (kk : W p l e R s m args below meth c H locs cells slots Q (F0 m (pc + 1) ls (.ref (F k) :: rest))) : W p l e R s m args below meth c H locs cells slots Q (F0 m pc ls (.int (iI z) :: .ref a :: rest)) := by
  subst hz
  refine va_aldq hx hb hK hP q0 t0 ha ht (iI_in hk hn) hdg ?_
  rw [iI_clamp (by omega)]
  exact kk
def cpF (n : Nat) (X Y : Nat → Int) : Nat → Int := fun j => if j < n then X j else Y j
theorem zr_copy (hx : p.tables.exec = Jvm.exec) (hb : c.code = cc) (hml : c.maxLocals = ls.size) {own : String} {index : Nat} (hown : s.vm.findClass own = some m.cls) (hlink : (Cond.methodLink own index arraycopyName).before args s = true) (hnat : (Cond.native arraycopyName).before args s = true) (hstat : (Cond.static arraycopyName).before args s = true) (hini : (Cond.initialized "java/lang/System").before args s = true)
    (hK : va_K D cl tys s) (hP : va_P D cl ws H) (hD : va_D A ws) (hS : va_S A H0 H locs) (q0 q1 t0 : Nat) {a0 : Nat} {c0 : ClassId} {X Y : Nat → Int} (ha0 : ws[q0]? = some (a0, .inl (c0, 10, .inl (aI X)))) (ha1 : ws[q1]? = some (a, .inl (c0, 10, .inl (aI Y)))) (ht0 : tys[t0]? = some (c0, .int))
    (hframes : 1 ≤ R.frames) (hlocals : (rest.map fun v => v.category).sum + (nativeFrameWords "java/lang/System" "arraycopy" 5 + 11) ≤ R.locals) (hdg : decode cc pc = .ok (.invokestatic index, 3))
    (kk : ∀ (H1 : Heap) (locs1 : List Loc), va_P D cl (ws.set q1 (a, .inl (c0, 10, .inl (aI (cpF 10 X Y))))) H1 → va_D A (ws.set q1 (a, .inl (c0, 10, .inl (aI (cpF 10 X Y))))) → va_S A H0 H1 locs1 → W p l e R s m args below meth c H1 locs1 cells slots Q (F0 m (pc + 3) ls rest)) : W p l e R s m args below meth c H locs cells slots Q (F0 m pc ls (.int (iI 10) :: .int (iI 0) :: .ref a :: .int (iI 0) :: .ref a0 :: rest)) := by
  refine va_copyi hx hb hml hown hlink hnat hstat hini hK hP hD hS q0 q1 t0 t0 ha0 ha1 ht0 ht0 rfl (by decide) (by decide) (by decide) (by decide) (by decide) (fun _ _ => rfl) hframes hlocals hdg (fun H1 locs1 h1 h2 h3 => ?_)
  have e1 : va_cpy (aI X) (aI Y) (iI 0).toNatClampNeg (iI 0).toNatClampNeg (iI 10).toNatClampNeg = aI (cpF 10 X Y) := by
    funext k
    show (if 0 ≤ k ∧ k < 0 + 10 then iI (X (0 + (k - 0))) else iI (Y k)) = iI (cpF 10 X Y k)
    unfold cpF
    by_cases h : k < 10
    · rw [if_pos (by omega), if_pos h, Nat.sub_zero, Nat.zero_add]
    · rw [if_neg (by omega), if_neg h]
  rw [e1] at h1 h2
  exact kk H1 locs1 h1 h2 h3
end
/-- the first forty of a row, the rest of another -/
def gmx (r g : Nat → Int) : Nat → Int := fun k => if k < 40 then r k else g k
theorem gmx_lt {r g : Nat → Int} {k : Nat} (h : k < 40) : gmx r g k = r k := if_pos h
theorem gmx_a {r g : Nat → Int} (a : Nat) (ha : 10 ≤ a) (ha2 : a ≤ 12) : cpF 10 (fun j => r (a + 3 * j)) (fun j => g (a + 3 * j)) = fun j => gmx r g (a + 3 * j) := by
  funext j
  unfold cpF gmx
  by_cases h : j < 10
  · rw [if_pos h, if_pos (by omega)]
  · rw [if_neg h, if_neg (by omega)]
theorem add_X {g : Nat → Int} (x y z : Int) : va_up (fun j => g (10 + 3 * j)) (g 0).toNat x = fun j => sp_add g x y z (10 + 3 * j) := by
  funext j
  unfold sp_add va_up
  by_cases h : j = (g 0).toNat
  · rw [if_pos h, if_neg (by omega), if_neg (by omega), if_neg (by omega), if_pos (by omega)]
  · rw [if_neg h, if_neg (by omega), if_neg (by omega), if_neg (by omega), if_neg (by omega)]
theorem add_Y {g : Nat → Int} (x y z : Int) : va_up (fun j => g (11 + 3 * j)) (g 0).toNat y = fun j => sp_add g x y z (11 + 3 * j) := by
  funext j
  unfold sp_add va_up
  by_cases h : j = (g 0).toNat
  · rw [if_pos h, if_neg (by omega), if_neg (by omega), if_pos (by omega)]
  · rw [if_neg h, if_neg (by omega), if_neg (by omega), if_neg (by omega), if_neg (by omega)]
theorem add_Z {g : Nat → Int} (x y z : Int) : va_up (fun j => g (12 + 3 * j)) (g 0).toNat z = fun j => sp_add g x y z (12 + 3 * j) := by
  funext j
  unfold sp_add va_up
  by_cases h : j = (g 0).toNat
  · rw [if_pos h, if_neg (by omega), if_pos (by omega)]
  · rw [if_neg h, if_neg (by omega), if_neg (by omega), if_neg (by omega), if_neg (by omega)]
theorem add_k {g : Nat → Int} (x y z : Int) (k : Nat) (h1 : 1 ≤ k) (h2 : k < 10) : g k = sp_add g x y z k := by
  unfold sp_add va_up
  rw [if_neg (by omega), if_neg (by omega), if_neg (by omega), if_neg (by omega)]
theorem add_0 {g : Nat → Int} (x y z : Int) : g 0 + 1 = sp_add g x y z 0 := rfl
/-- samples move down by one, as far as place k -/
def rmA (X : Nat → Int) (i k : Nat) : Nat → Int := fun j => if i ≤ j ∧ j < k then X (j + 1) else X j
theorem rmA_0 (X : Nat → Int) (i : Nat) : rmA X i i = X := by
  funext j; unfold rmA; rw [if_neg (by omega)]
theorem rmA_1 (X : Nat → Int) {i k : Nat} (h : i ≤ k) : va_up (rmA X i k) k (X (k + 1)) = rmA X i (k + 1) := by
  funext j
  unfold va_up rmA
  by_cases e : j = k
  · rw [if_pos e, if_pos (by omega), e]
  · rw [if_neg e]
    by_cases h2 : i ≤ j ∧ j < k
    · rw [if_pos h2, if_pos (by omega)]
    · rw [if_neg h2, if_neg (by omega)]
theorem rmA_at (X : Nat → Int) (i k : Nat) : rmA X i k (k + 1) = X (k + 1) := by
  unfold rmA; rw [if_neg (by omega)]
theorem rmv_a {g : Nat → Int} {i : Nat} (hi : (i : Int) < g 0) (a : Nat) (ha : 10 ≤ a) (ha2 : a ≤ 12) : rmA (fun j => g (a + 3 * j)) i ((g 0).toNat - 1) = fun j => sp_rmv g i (a + 3 * j) := by
  funext j
  unfold rmA sp_rmv
  by_cases h : i ≤ j ∧ j < (g 0).toNat - 1
  · rw [if_pos h, if_neg (by omega), if_pos (by omega), show a + 3 * j + 3 = a + 3 * (j + 1) by omega]
  · rw [if_neg h, if_neg (by omega), if_neg (by omega)]
theorem rmv_k {g : Nat → Int} {i : Nat} (k : Nat) (h1 : 1 ≤ k) (h2 : k < 10) : g k = sp_rmv g i k := by
  unfold sp_rmv; rw [if_neg (by omega), if_neg (by omega)]
theorem rmv_0 {g : Nat → Int} {i : Nat} : g 0 - 1 = sp_rmv g i 0 := rfl
/-- the ring: the j-th latest row -/
def rH (hh : Nat → Nat → Int) (n q : Nat) (h : Nat → Nat → Int) : Prop := ∀ j, j < q → ∀ k, k < 40 → hh ((n + 15 - j) % 16) k = h j k
theorem rH_push {hh : Nat → Nat → Int} {n q : Nat} {h : Nat → Nat → Int} {g g1 : Nat → Int} (hn : n < 16) (hR : rH hh n q h) (hg : ∀ k, k < 40 → g1 k = g k) : rH (va_up hh n g1) ((n + 1) % 16) (qs q) (ph h g) := by
  intro j hj k hk
  have hq : qs q = min (q + 1) 16 := rfl
  cases j with
  | zero =>
    rw [show ((n + 1) % 16 + 15 - 0) % 16 = n by omega, va_up_self]
    exact hg k hk
  | succ j =>
    rw [va_up_ne _ _ (by omega), show ((n + 1) % 16 + 15 - (j + 1)) % 16 = (n + 15 - j) % 16 by omega]
    exact hR j (by omega) k hk
theorem rH_back {hh : Nat → Nat → Int} {n q d : Nat} {h : Nat → Nat → Int} (hn : n < 16) (hR : rH hh n q h) (h1 : 1 ≤ d) (h2 : d ≤ q) (h3 : q ≤ 16) : (∀ k, k < 40 → hh ((n + 16 - d) % 16) k = h (d - 1) k) ∧ rH hh ((n + 16 - d) % 16) (q - d) (fun j => h (j + d)) := by
  refine ⟨fun k hk => ?_, fun j hj k hk => ?_⟩
  · rw [show (n + 16 - d) % 16 = (n + 15 - (d - 1)) % 16 by omega]
    exact hR (d - 1) (by omega) k hk
  · rw [show ((n + 16 - d) % 16 + 15 - j) % 16 = (n + 15 - (j + d)) % 16 by omega]
    exact hR (j + d) (by omega) k hk
theorem bt_xor16 : ∀ d, d < 32 → (iI (((d : Nat) : Int) - 16) ^^^ iI 16) = iI (if d < 16 then (d : Int) - 32 else (d : Int)) := by decide
theorem bt_land31 (z : Int) : (lI z &&& lI 2147483647) = lI (z % 2147483648) := by
  apply Int64.toBitVec_inj.1
  show BitVec.ofInt 64 z &&& BitVec.ofInt 64 2147483647 = BitVec.ofInt 64 (z % 2147483648)
  apply BitVec.eq_of_toNat_eq
  rw [BitVec.toNat_and, BitVec.toNat_ofInt, BitVec.toNat_ofInt, BitVec.toNat_ofInt]
  show (z % 18446744073709551616).toNat &&& (2 ^ 31 - 1) = _
  rw [Nat.and_two_pow_sub_one_eq_mod]
  show _ = (z % 2147483648 % 18446744073709551616).toNat
  omega
theorem ct_yJ9_floorMod_7cf53 : cT yJ9_floorMod_7cf53 cJ9_floorMod_7cf53 3 (some .int) 2 := ⟨kc_yJ9_floorMod_7cf53, kn__java_lang_Math_, by decide +kernel⟩
def xf (x : Int) : Int := if x < 0 then x - 16 else x + 16
theorem xf_rg {x : Int} (h : -16 ≤ x ∧ x ≤ 15) : (xf x < 0 ↔ x < 0) ∧ -32 ≤ xf x ∧ xf x ≤ 31 := by unfold xf; split <;> omega
theorem xf_bt {x : Int} (h : -16 ≤ x ∧ x ≤ 15) : (iI x ^^^ iI 16) = iI (xf x) := by
  obtain ⟨d, hd, rfl⟩ : ∃ d : Nat, d < 32 ∧ x = (d : Int) - 16 := ⟨(x + 16).toNat, by omega, by omega⟩
  rw [bt_xor16 d hd]
  congr 1
  unfold xf
  split <;> split <;> omega
theorem tm16 : ∀ d, d < 32 → ((((d : Nat) : Int) - 16).tmod 16) = if d = 0 then 0 else if d < 16 then (d : Int) - 16 else (d : Int) - 16 := by decide
theorem tm_rg {x : Int} (h : -16 ≤ x ∧ x ≤ 15) : (x = -16 ∧ x.tmod 16 = 0) ∨ (-16 < x ∧ x.tmod 16 = x) := by
  obtain ⟨d, hd, rfl⟩ : ∃ d : Nat, d < 32 ∧ x = (d : Int) - 16 := ⟨(x + 16).toNat, by omega, by omega⟩
  rw [tm16 d hd]
  split
  · exact Or.inl ⟨by omega, rfl⟩
  · exact Or.inr ⟨by omega, by split <;> rfl⟩
/-- a deed in the class: done, or not -/
def dC (g g2 : Nat → Int) (nx nx2 kpt kpt2 : Int) (hh hh2 : Nat → Nat → Int) (n q : Nat) (h : Nat → Nat → Int) (ch : Prop) (nr : Nat → Int) : Prop := (ch → nx2 = (((n + 1) % 16 : Nat) : Int) ∧ kpt2 = (qs q : Int) ∧ rH hh2 ((n + 1) % 16) (qs q) (ph h g) ∧ g2 = nr) ∧ (¬ ch → g2 = g ∧ nx2 = nx ∧ kpt2 = kpt ∧ hh2 = hh)
theorem gr_a {g : Nat → Int} (i : Nat) (v : Int) (a : Nat) (ha : 10 ≤ a) (ha2 : a ≤ 11) : (fun j => g (a + 3 * j)) = fun j => va_up g (12 + 3 * i) v (a + 3 * j) := by
  funext j; rw [va_up_ne _ _ (by omega)]
theorem gr_z {g : Nat → Int} (i : Nat) (v : Int) : va_up (fun j => g (12 + 3 * j)) i v = fun j => va_up g (12 + 3 * i) v (12 + 3 * j) := by
  funext j
  unfold va_up
  by_cases h : j = i
  · rw [if_pos h, if_pos (by omega)]
  · rw [if_neg h, if_neg (by omega)]
theorem gr_k {g : Nat → Int} (i : Nat) (v : Int) (k : Nat) (h : k < 10) : g k = va_up g (12 + 3 * i) v k := by rw [va_up_ne _ _ (by omega)]
theorem pcs_a {g : Nat → Int} (p q r s t : Int) (a : Nat) (ha : 10 ≤ a) : (fun j => g (a + 3 * j)) = fun j => sp_pcs g p q r s t (a + 3 * j) := by
  funext j
  unfold sp_pcs
  rw [va_up_ne _ _ (by omega), va_up_ne _ _ (by omega), va_up_ne _ _ (by omega), va_up_ne _ _ (by omega), va_up_ne _ _ (by omega)]
theorem sea_a {g : Nat → Int} (p q r : Int) (a : Nat) (ha : 10 ≤ a) : (fun j => g (a + 3 * j)) = fun j => sp_sea g p q r (a + 3 * j) := by
  funext j
  unfold sp_sea
  rw [va_up_ne _ _ (by omega), va_up_ne _ _ (by omega), va_up_ne _ _ (by omega)]
theorem met_a {g : Nat → Int} (p : Int) (a : Nat) (ha : 10 ≤ a) : (fun j => g (a + 3 * j)) = fun j => va_up g 1 p (a + 3 * j) := by
  funext j
  rw [va_up_ne _ _ (by omega)]
/-- an entry for a method of a library class that no row of the natives stands for -/
theorem zm_NF {l : Launch} {y : MethodName} {b : ByteArray} {n : Nat} {ret : Option FieldType} {rm : Room} {own : String} {av : List Value} {lv : List (Nat × Value)} {Qc : Array Value → State → Outcome → State → Prop} (hy : plainFor y = true) (ho : y.cls = own) (hsl : (lg_sl av).length ≤ n) (hlv : lv_args 0 av = lv)
    (body : ∀ (p : Program) (e : Env) (s : State) (m : MethodId) (below : List Frame) (meth : Method) (c : Code) (args : Array Value) (Q : State → Prop), p.tables.exec = Jvm.exec → c.code = b → meth.sig.returnType = ret → c.maxLocals = n → s.vm.findClass own = some m.cls → (∀ w ∈ wsL_law, w.before args s = true) → meth.locks = false → Q = MQ below Qc args s 0 0 (fun _ => False) → ∀ ls : Array Slot, lv_has ls n lv → W p l e rm s m args below meth c s.heap [] 0 0 Q (F0 m 0 ls [])) :
    Met l y (wU y b n ret) rm (pcN av) Qc 0 0 (fun _ => False) := by
  refine MetFree.of_bodySF (code := b) (maxLocals := n) (ret := ret) hy ?_ ?_
  · intro args s m h hn
    obtain ⟨meth, c, h1, h2, h3, h4, h5, h6, -, -⟩ := Cond.code_spec hn (atoms_spec (ws := wU y b n ret) h _ List.mem_cons_self)
    exact ⟨meth, c, h1, h2, h3, h4, h5, h6⟩
  · intro p e s m args below meth c s₁ B hml hv _
    have hh0 : s₁.heap = s.heap := by rw [B.state]; rfl
    obtain ⟨rfl, -⟩ := hv
    have hts := atoms_spec (ws := wU y b n ret) B.pre
    have hl := lv_entry av (n := n) hsl
    rw [hlv] at hl
    have hw := body p e s m below meth c _ _ B.exec B.bytes B.returns hml (by rw [← ho]; exact findClass_of_methodNamed B.named) (fun w h => hts w (List.mem_cons_of_mem _ h)) B.notSynchronized rfl _ hl
    rw [← lg_entry_eq] at hw
    obtain ⟨t, a1, o, b1, b2, b3⟩ := hw s₁ hh0 (Stand.of_body B)
    exact ⟨t, o, a1, b1, b2, ⟨b3.1, b3.2⟩⟩
