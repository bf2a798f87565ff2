/-! what the constructors need of the tables and no list of words keeps: links across the nest, arrays over classes -/
def nestL : List (String × Nat × MethodName × String) := [("UnaskedGuests", 11, ⟨"UnaskedGuests$Tape", "<init>", "()V"⟩, "UnaskedGuests"), ("UnaskedGuests$TextReader", 11, ⟨"UnaskedGuests$County", "<init>", "()V"⟩, "UnaskedGuests"), ("UnaskedGuests", 27, ⟨"UnaskedGuests$County", "<init>", "()V"⟩, "UnaskedGuests"), ("UnaskedGuests", 34, ⟨"UnaskedGuests$Sightings", "<init>", "()V"⟩, "UnaskedGuests"), ("UnaskedGuests$Trial", 11, ⟨"UnaskedGuests$County", "<init>", "()V"⟩, "UnaskedGuests"), ("UnaskedGuests$Trial", 20, ⟨"UnaskedGuests$Evening", "<init>", "()V"⟩, "UnaskedGuests"), ("UnaskedGuests", 89, ⟨"UnaskedGuests$Image", "<init>", "()V"⟩, "UnaskedGuests"), ("UnaskedGuests$Image", 9, ⟨"UnaskedGuests$County", "<init>", "()V"⟩, "UnaskedGuests"), ("UnaskedGuests$Image", 18, ⟨"UnaskedGuests$Sightings", "<init>", "()V"⟩, "UnaskedGuests"), ("UnaskedGuests", 90, ⟨"UnaskedGuests$Sheet", "<init>", "()V"⟩, "UnaskedGuests")]
def va_AOA (t : FieldType) (U : State) : Prop := (Cond.arrayOver (.array t)).before #[] U = true
def NN (U : State) : Prop := (∀ w ∈ nestL, va_Nw (.methodLinkNest w.1 w.2.1 w.2.2.1 w.2.2.2) U) ∧ va_AO "UnaskedGuests$Image" U ∧ va_AO "UnaskedGuests$Sheet" U ∧ va_AOA .int U
theorem NN.go {s U : State} (hW : s.WarmedH U.vm) (h : NN s) : NN U := ⟨fun w hw => va_Nw.warmM hW (h.1 w hw), h.2.1.moved hW.alike, h.2.2.1.moved hW.alike, over_moved (a := #[]) (a' := #[]) hW.alike h.2.2.2⟩
theorem NN.same {U : State} {g : JFrame} {mk : MethodId} {a : Array Value} (h : NN U) : NN (U.calling g mk a) := ⟨fun w hw => va_Nw.same rfl rfl (h.1 w hw), h.2.1.moved (Vm.Alike.refl U.vm), h.2.2.1.moved (Vm.Alike.refl U.vm), over_moved (a := #[]) (a' := #[]) (Vm.Alike.refl U.vm) h.2.2.2⟩
/-! constructors: what they make comes behind what there was -/
def Mc (E : Ev) (y : MethodName) (cc : ByteArray) (nL : Nat) (rm : Room) (av : List Value) (ws : va_W) (Pw : va_W → Prop) : Prop :=
  ∀ sz : Nat, Met E.1 y (gW y cc nL none) rm (va_Pc av (fun U => U.heap.size = sz ∧ va_P E.2.1 vwCl ws U.heap ∧ va_K E.2.1 vwCl (tyl E.2.2.1) U ∧ va_D (fun _ => True) ws ∧ ZZ E.2.2.2.1 E.2.2.2.2 (va_A ws sz) U U.heap ∧ NN U))
    (fun _ st oc t => oc = .returned none ∧ (∃ w', Pw w' ∧ va_P E.2.1 vwCl w' t.heap ∧ va_D (va_A ws sz) w') ∧ va_F (va_A ws sz) st t) rm.cells rm.slots (va_A ws sz)
theorem Mc.intro {E : Ev} {y : MethodName} {cc : ByteArray} {nL : Nat} {rm : Room} {av : List Value} {ws : va_W} {Pw : va_W → Prop} {lv : List (Nat × Value)} (hy : plainName y.cls = true) (hyn : y.name = "<init>") (hav : (lg_sl av).length ≤ nL) (hlv : lv_args 0 av = lv)
    (body : ∀ X : Cx, CX E X cc y.cls nL rm → X.meth.name = "<init>" → NN X.s → (∀ w', Pw w' → QK E X rm.cells rm.slots none w' none) → G E X 0 0 ws lv 0 []) : Mc E y cc nL rm av ws Pw := by
  intro sz
  refine Met.ofW (cc := cc) (maxL := nL) (ret := none) hy rfl ?_
  intro p e s m args below meth c s₁ B hml hv
  obtain ⟨rfl, hsz, hP, hK, hD0, hZ, hNN⟩ := hv
  subst hsz
  have hts := atoms_spec (ws := gW y cc nL none) B.pre
  have hown : s.vm.findClass y.cls = some m.cls := findClass_of_methodNamed B.named
  have hin : meth.name = "<init>" := (name_of_methodNamed B.named B.method).1.trans hyn
  have hl := lv_entry av (n := nL) hav
  rw [lg_entry_eq]
  rw [hlv] at hl
  have hb := body ((p, e, rm, s), (m, av.toArray, below, meth, c), (MQ below (fun _ st oc t => oc = .returned none ∧ (∃ w', Pw w' ∧ va_P E.2.1 vwCl w' t.heap ∧ va_D (va_A ws s.heap.size) w') ∧ va_F (va_A ws s.heap.size) st t) av.toArray s rm.cells rm.slots (va_A ws s.heap.size)), va_A ws s.heap.size, nL)
    ⟨B.exec, B.bytes, hml, rfl, hown, fun w hw => hts w (List.mem_cons_of_mem _ hw), hK, rfl, fun q h => Or.inr h, hZ⟩ hin hNN
    (fun w' hw' => ⟨B.returns, B.notSynchronized, (fun _ st oc t => oc = .returned none ∧ (∃ w', Pw w' ∧ va_P E.2.1 vwCl w' t.heap ∧ va_D (va_A ws s.heap.size) w') ∧ va_F (va_A ws s.heap.size) st t), va_A ws s.heap.size, rfl, fun q h => h, fun H locs t hP1 hD1 hS1 ht hW => ⟨rfl, ⟨w', hw', by rw [ht]; exact hP1, hD1⟩, hS1.F ht⟩⟩)
  exact hb s.heap [] _ hP (hD0.self) va_S.rf hl
/-- what 'new' names: class ci with fields fs at first -/
def NW (own : String) (index ci N : Nat) (fs : List Value) : Prop := ∃ (Cn : String) (T : u_T) (ty : Nat → FieldType), vwCl[ci]? = some (Cn, T, N) ∧ (∀ w ∈ u_ws Cn T N, w ∈ gT) ∧ (∀ k, k < N → parseFieldDescriptor (T k).2.2.1 = some (ty k)) ∧ Cond.classLink own index Cn ∈ gT ∧ Cond.instantiable Cn N ∈ gT ∧ Cond.initialized Cn ∈ gT ∧ ∀ j, j < N → defaultValue (ty j) = vp_V fs j
def MI (own : String) (index : Nat) (y : MethodName) (bytes : ByteArray) (mL np : Nat) : Prop :=
  Cond.methodLink own index y ∈ gT ∧ Cond.instanceMethod y ∈ gT ∧ Cond.initialized y.cls ∈ gT ∧ Cond.code y bytes mL none ∈ gT ∧ y.name = "<init>" ∧ (y.cls ≠ "java/lang/invoke/MethodHandle" ∧ y.cls ≠ "java/lang/invoke/VarHandle" ∧ (parseMethodDescriptor y.desc).map (fun d => d.parameters.length) = some np)
def MN (own : String) (index : Nat) (host : String) (y : MethodName) (bytes : ByteArray) (mL np : Nat) : Prop :=
  (own, index, y, host) ∈ nestL ∧ Cond.instanceMethod y ∈ gT ∧ Cond.initialized y.cls ∈ gT ∧ Cond.code y bytes mL none ∈ gT ∧ y.name = "<init>" ∧ (y.cls ≠ "java/lang/invoke/MethodHandle" ∧ y.cls ≠ "java/lang/invoke/VarHandle" ∧ (parseMethodDescriptor y.desc).map (fun d => d.parameters.length) = some np)
section
variable {E : Ev} {X : Cx} {n z : Nat} {ws ws' wc wr : va_W} {lv : List (Nat × Value)} {pc : Nat} {st st0 : List Value} {cc : ByteArray} {own : String} {nL : Nat} {rm : Room} {Pw : va_W → Prop}
variable {y : MethodName} {bytes : ByteArray} {mL np index : Nat} {rm2 : Room} {As : List Value}
theorem g_eqw (h : ws = ws') (kk : G E X n z ws' lv pc st) : G E X n z ws lv pc st := h ▸ kk
theorem g_sub (is : List Nat) (hn : va_nd is = true) (hs : is.map (fun i => ws[i]?) = ws'.map some) (kk : G E X n z ws' lv pc st) : G E X n z ws lv pc st := fun H locs ls hP hD hS hl => kk H locs ls (by
    intro k q hk
    have h1 : (is.map (fun i => ws[i]?))[k]? = some (some q) := by rw [hs, List.getElem?_map, hk]; rfl
    rw [List.getElem?_map] at h1
    cases hi : is[k]? with
    | none => rw [hi] at h1; cases h1
    | some i => rw [hi] at h1; exact hP i q (Option.some.inj h1)) (hD.sub is hn hs) hS hl
theorem g_wid {k m : Nat} (h1 : n ≤ k) (h2 : z ≤ m) (kk : G E X k m ws lv pc st) : G E X n z ws lv pc st := fun H locs ls hP hD hS hl => W.widen h1 h2 (kk H locs ls hP hD hS hl)
theorem g_new {ci N : Nat} {fs : List Value} (C : CX E X cc own nL rm) (hw : NW own index ci N fs) (hc : n + 1 ≤ rm.cells) (hs : z + N ≤ rm.slots) (hd : decode cc pc = .ok (.new index, 3)) (kk : ∀ q : Nat, G E X (n + 1) (z + N) (ws ++ [(q, .inr (ci, fs))]) lv (pc + 3) (.ref q :: st)) : G E X n z ws lv pc st := by
  obtain ⟨Cn, T, ty, h1, h2, h3, h4, h5, h6, h7⟩ := hw
  exact fun H locs ls hP hD hS hl => va_new C.1 C.2.1 C.2.2.2.2.2.1 h2 ty h3 C.2.2.2.2.1 (C.2.2.2.2.2.1 _ h4) (C.2.2.2.2.2.1 _ h5) (C.2.2.2.2.2.1 _ h6) C.2.2.2.2.2.2.1 hP hD hS C.2.2.2.2.2.2.2.2.1 h1 h7 (by rw [C.2.2.2.2.2.2.2.1]; exact hc) (by rw [C.2.2.2.2.2.2.2.1]; exact hs) hd (fun q H1 hP1 hD1 hS1 => kk q H1 locs ls hP1 hD1 hS1 hl)
theorem g_newI {m0 : Int32} (N : Nat) (C : CX E X cc own nL rm) (ha : Cond.arrayClass .int ∈ gT) (hn : ¬ m0 < 0) (hN : m0.toNatClampNeg = N) (hb : N * componentBytes .int ≤ 536870912) (hc : n + 1 ≤ rm.cells) (hs : z + N ≤ rm.slots) (hd : decode cc pc = .ok (.newarray .int, 2)) (kk : ∀ q : Nat, G E X (n + 1) (z + N) (ws ++ [aI E q N (fun _ => 0)]) lv (pc + 2) (.ref q :: st)) : G E X n z ws lv pc (.int m0 :: st) := fun H locs ls hP hD hS hl => by
  refine va_newa (atype := .int) (ty := .int) (a0 := (N, .inl (fun _ => 0))) C.1 C.2.1 (C.2.2.2.2.2.1 _ ha) rfl C.2.2.2.2.2.2.1 hP hD hS C.2.2.2.2.2.2.2.2.1 (fun cA => rfl) hn hN hb (by rw [C.2.2.2.2.2.2.2.1]; exact hc) (by rw [C.2.2.2.2.2.2.2.1]; exact hs) hd (fun q cA H1 hK1 hP1 hD1 hS1 => ?_)
  have e1 : X.s.vm.findClass ("[" ++ (FieldType.int).toString) = some cA := (hK1.2 5 _ rfl).2
  have e2 : X.s.vm.findClass ("[" ++ (FieldType.int).toString) = some (E.2.2.1 0) := (C.2.2.2.2.2.2.1.2 0 _ rfl).2
  have e3 : cA = E.2.2.1 0 := Option.some.inj (e1.symm.trans e2)
  subst e3
  exact kk q H1 locs ls hP1 hD1 hS1 hl
theorem g_newZ {m0 : Int32} (N : Nat) (C : CX E X cc own nL rm) (ha : Cond.arrayClass .boolean ∈ gT) (hn : ¬ m0 < 0) (hN : m0.toNatClampNeg = N) (hb : N * componentBytes .boolean ≤ 536870912) (hc : n + 1 ≤ rm.cells) (hs : z + N ≤ rm.slots) (hd : decode cc pc = .ok (.newarray .boolean, 2)) (kk : ∀ q : Nat, G E X (n + 1) (z + N) (ws ++ [aZ E q N (fun _ => 0)]) lv (pc + 2) (.ref q :: st)) : G E X n z ws lv pc (.int m0 :: st) := fun H locs ls hP hD hS hl => by
  refine va_newa (atype := .boolean) (ty := .boolean) (a0 := (N, .inl (fun _ => 0))) C.1 C.2.1 (C.2.2.2.2.2.1 _ ha) rfl C.2.2.2.2.2.2.1 hP hD hS C.2.2.2.2.2.2.2.2.1 (fun cA => rfl) hn hN hb (by rw [C.2.2.2.2.2.2.2.1]; exact hc) (by rw [C.2.2.2.2.2.2.2.1]; exact hs) hd (fun q cA H1 hK1 hP1 hD1 hS1 => ?_)
  have e1 : X.s.vm.findClass ("[" ++ (FieldType.boolean).toString) = some cA := (hK1.2 5 _ rfl).2
  have e2 : X.s.vm.findClass ("[" ++ (FieldType.boolean).toString) = some (E.2.2.1 1) := (C.2.2.2.2.2.2.1.2 1 _ rfl).2
  have e3 : cA = E.2.2.1 1 := Option.some.inj (e1.symm.trans e2)
  subst e3
  exact kk q H1 locs ls hP1 hD1 hS1 hl
abbrev aF (E : Ev) (t a k : Nat) (f : Nat → Option Nat) : Nat × va_E := (a, .inl (E.2.2.1 t, k, .inr (.inr (.inr (.inr f)))))
theorem g_newQ {m0 : Int32} {Cn : String} (t N : Nat) (C : CX E X cc own nL rm) (hcl : Cond.classLink own index Cn ∈ gT) (hao : va_AO Cn X.s) (ht : (tyl E.2.2.1)[t]? = some (E.2.2.1 t, .object Cn)) (hn : ¬ m0 < 0) (hN : m0.toNatClampNeg = N) (hb : N * 4 ≤ 536870912) (hc : n + 1 ≤ rm.cells) (hs : z + N ≤ rm.slots) (hd : decode cc pc = .ok (.anewarray index, 3)) (kk : ∀ q : Nat, G E X (n + 1) (z + N) (ws ++ [aF E t q N (fun _ => none)]) lv (pc + 3) (.ref q :: st)) : G E X n z ws lv pc (.int m0 :: st) := fun H locs ls hP hD hS hl => by
  refine va_newq C.1 C.2.1 C.2.2.2.2.1 (C.2.2.2.2.2.1 _ hcl) hao C.2.2.2.2.2.2.1 hP hD hS C.2.2.2.2.2.2.2.2.1 hn hN hb (by rw [C.2.2.2.2.2.2.2.1]; exact hc) (by rw [C.2.2.2.2.2.2.2.1]; exact hs) hd (fun q cA H1 hK1 hP1 hD1 hS1 => ?_)
  obtain ⟨-, -, -, -, -, e1⟩ := (hK1.2 5 _ rfl).2
  obtain ⟨-, -, -, -, -, e2⟩ := (C.2.2.2.2.2.2.1.2 t _ ht).2
  have e3 : cA = E.2.2.1 t := Option.some.inj (e1.symm.trans e2)
  subst e3
  exact kk q H1 locs ls hP1 hD1 hS1 hl
theorem g_astq {a v k t ci : Nat} {f : Nat → Option Nat} {r : vw_C} {vs : List Value} {i : Int32} (q0 qk : Nat) (C : CX E X cc own nL rm) (ha : ws[q0]? = some (aF E t a k f)) (ht : (tyl E.2.2.1)[t]? = some (E.2.2.1 t, .object r.1)) (hv : ws[qk]? = some (v, .inr (ci, vs))) (hc : vwCl[ci]? = some r) (hin : inb i k) (hw : ws.set q0 (aF E t a k (va_up f (ix i) (some v))) = ws') (hd : decode cc pc = .ok (.aastore, 1)) (kk : G E X n z ws' lv (pc + 1) st) : G E X n z ws lv pc (.ref v :: .int i :: .ref a :: st) := fun H locs ls hP hD hS hl => by
  subst hw
  exact va_astq C.1 C.2.1 C.2.2.2.2.2.2.1 hP hD hS q0 t qk ci ha ht hv hc hin hd (fun H1 locs1 hP1 hD1 hS1 => kk H1 locs1 ls hP1 hD1 hS1 hl)
theorem cell_sameQ {cA : ClassId} {k : Nat} {f g : Nat → Option Nat} (hf : ∀ j, j < k → f j = g j) : vp_cell cA (k, .inr (.inr (.inr (.inr f)))) = vp_cell cA (k, .inr (.inr (.inr (.inr g)))) := by
  show arrV cA k (fun j => va_rf (f j)) = arrV cA k (fun j => va_rf (g j))
  unfold arrV
  congr 1
  apply congrArg
  funext j
  exact congrArg va_rf (hf j.val j.isLt)
theorem g_sameQ {a t k : Nat} {f : Nat → Option Nat} (L : List Nat) (q0 : Nat) (ha : ws[q0]? = some (aF E t a k f)) (hk : L.length = k) (hf : ∀ j, j < k → f j = L[j]?) (hw : ws.set q0 (aQ E t a L) = ws') (kk : G E X n z ws' lv pc st) : G E X n z ws lv pc st := fun H locs ls hP hD hS hl => by
  subst hw
  subst hk
  refine kk H locs ls (hP.set hD ha ?_ (fun _ _ => rfl)) (hD.set ha) hS hl
  have h1 : H[a]? = some (vp_cell (E.2.2.1 t) (L.length, .inr (.inr (.inr (.inr f))))) := hP q0 _ ha
  show H[a]? = some (vp_cell (E.2.2.1 t) (L.length, .inr (.inr (.inr (.inr (fun i => L[i]?))))))
  rw [h1, cell_sameQ hf]
theorem g_sameZ {a k : Nat} {f g : Nat → Int32} (q0 : Nat) (ha : ws[q0]? = some (aZ E a k f)) (hf : ∀ j, j < k → f j = g j) (hw : ws.set q0 (aZ E a k g) = ws') (kk : G E X n z ws' lv pc st) : G E X n z ws lv pc st := fun H locs ls hP hD hS hl => by
  subst hw
  refine kk H locs ls (hP.set hD ha ?_ (fun _ _ => rfl)) (hD.set ha) hS hl
  have h1 : H[a]? = some (vp_cell (E.2.2.1 1) (k, .inl f)) := hP q0 _ ha
  show H[a]? = some (vp_cell (E.2.2.1 1) (k, .inl g))
  rw [h1, cell_same hf]
theorem g_putF {a ci k : Nat} {fs : List Value} {v : Value} {ty : FieldType} (q0 : Nat) (C : CX E X cc own nL rm) (hi : X.meth.name = "<init>") (hf : FP own index ci k true ty) (he : ws[q0]? = some (a, .inr (ci, fs))) (hn : narrow ty v = v) (hfit : fits ty v = true) (hl0 : k < fs.length) (hw : ws.set q0 (a, .inr (ci, fs.set k v)) = ws') (hd : decode cc pc = .ok (.putfield index, 3)) (kk : G E X n z ws' lv (pc + 3) st) : G E X n z ws lv pc (v :: .ref a :: st) := by
  obtain ⟨Cn, T, N, ty0, h1, h2, h3, h4, h5, h6, h7, h8, h9⟩ := hf
  subst hw
  exact fun H locs ls hP hD hS hl => va_putF C.1 C.2.1 C.2.2.2.2.2.1 h2 ty0 h5 h6 C.2.2.2.2.1 C.2.2.2.2.2.2.1 hP hD hS q0 he h1 k h3 (C.2.2.2.2.2.1 _ h4) (fun _ h9 => h9) h7 hi (h9 rfl) h8 hn hfit hl0 hd (fun H1 locs1 hP1 hD1 hS1 => kk H1 locs1 ls hP1 hD1 hS1 hl)
theorem g_objInit {a : Nat} (C : CX E X cc own nL rm) (hm : Cond.methodLink own index objectInit ∈ gT ∧ Cond.instanceMethod objectInit ∈ gT ∧ Cond.code objectInit ⟨#[0xb1]⟩ 1 none ∈ gT) (hfr : 1 ≤ rm.frames) (hlo : (st.map fun v => v.category).sum + 12 ≤ rm.locals) (hd : decode cc pc = .ok (.invokespecial index, 3)) (kk : G E X n z ws lv (pc + 3) st) : G E X n z ws lv pc (.ref a :: st) := fun H locs ls hP hD hS hl => by
  refine W.objInit C.1 C.2.1 C.2.2.2.2.1 (C.2.2.2.2.2.1 _ hm.1) (C.2.2.2.2.2.1 _ hm.2.1) (C.2.2.2.2.2.1 _ hm.2.2) rfl (by rw [C.2.2.1]; exact hl.1.trans C.2.2.2.1) rfl hd (by rw [C.2.2.2.2.2.2.2.1]; exact hfr) (by rw [C.2.2.2.2.2.2.2.1]; show 2 * (F0 X.m pc ls (.ref a :: st)).monitorRoom + _ + 12 ≤ _; have h9 : (F0 X.m pc ls (.ref a :: st)).monitorRoom = 0 := rfl; rw [h9]; omega) ?_
  exact kk H locs ls hP hD hS hl
theorem g_preC {H : Heap} {locs : List Loc} {av : List Value} (C : CX E X cc own nL rm) (hN : NN X.s) (hP : va_P E.2.1 vwCl ws H) (hD : va_D X.A ws) (hS : va_S X.A X.s.heap H locs) (isC : List Nat) (hC : isC.map (fun i => ws[i]?) = wc.map some) (hn : va_nd isC = true) : PreS X.s H (va_Pc av (fun U => U.heap.size = H.size ∧ va_P E.2.1 vwCl wc U.heap ∧ va_K E.2.1 vwCl (tyl E.2.2.1) U ∧ va_D (fun _ => True) wc ∧ ZZ E.2.2.2.1 E.2.2.2.2 (va_A wc H.size) U U.heap ∧ NN U)) av ∧ (∀ q, va_A wc H.size q → X.A q) ∧ va_P E.2.1 vwCl wc H := by
  obtain ⟨h1, h2, h3⟩ := g_pre (av := av) C hP hD hS isC hC hn
  refine ⟨⟨fun a U g mk q => ?_, fun U hU hW => ?_⟩, h2, h3⟩
  · obtain ⟨q0, q1, qP, qK, qD, qZ, qN⟩ := q
    exact ⟨q0, q1, qP, va_K.moved (u := U) (U := U.calling g mk a) (Vm.Alike.refl U.vm) qK, qD, qZ.same, qN.same⟩
  · obtain ⟨q0, q1, qP, qK, qD, qZ⟩ := h1.2 U hU hW
    exact ⟨q0, q1, qP, qK, qD, qZ, hN.go hW⟩
theorem g_afterC {H : Heap} {locs : List Loc} {ls : Array Slot} (C : CX E X cc own nL rm) (hP : va_P E.2.1 vwCl ws H) (hD : va_D X.A ws) (hS : va_S X.A X.s.heap H locs) (hl : lv_has ls X.nL lv) (isC isR : List Nat) (hC : isC.map (fun i => ws[i]?) = wc.map some) (hR : isR.map (fun i => ws[i]?) = wr.map some) (hnR : va_nd isR = true) (hdis : ∀ i ∈ isR, i ∉ isC) (hFc : ∀ q, va_A wc H.size q → X.A q)
    (hrun : va_Run X.p E.1 X.e X.R X.s X.m X.args X.below X.meth X.c H locs n z rm2.cells rm2.slots (F0 X.m pc ls st0) st (fun st oc t => oc = .returned none ∧ (∃ w', Pw w' ∧ va_P E.2.1 vwCl w' t.heap ∧ va_D (va_A wc H.size) w') ∧ va_F (va_A wc H.size) st t) (va_A wc H.size))
    (kk : ∀ w', Pw w' → G E X (n + rm2.cells) (z + rm2.slots) (wr ++ w') lv (pc + 3) st) : W X.p E.1 X.e X.R X.s X.m X.args X.below X.meth X.c H locs n z X.Q (F0 X.m pc ls st0) := by
  intro T hT Xs
  obtain ⟨v, st₀, t, T', L, h1, X', hL, e1, e2, ⟨hv, ⟨w', hw', hP1, hD1⟩, hz, hk⟩, step⟩ := hrun T hT Xs
  cases hv
  rw [h1] at hz hk
  rw [← e1] at hP1 hz hk
  obtain ⟨hP2, hD2⟩ := va_join hP hD isC isR hC hR hnR hdis hk hFc hP1 hD1
  obtain ⟨t2, a1, b1⟩ := kk w' hw' T'.heap (locs ++ L) ls hP2 hD2 ⟨Nat.le_trans hS.1 hz, fun q h1 h2 => by rw [hk q (Nat.lt_of_lt_of_le h1 hS.1) (fun z => h2 (hFc q z))]; exact hS.2.1 q h1 h2, fun q hq => by
      rcases List.mem_append.mp hq with h | h
      · exact hS.2.2 q h
      · exact hFc _ (hL q h)⟩ hl T' rfl X'
  exact ⟨t2, step t2 a1, b1⟩
theorem g_callI {b : Nat} (C : CX E X cc own nL rm) (hN : NN X.s) (hm : MI own index y bytes mL np) (K : Mc E y bytes mL rm2 (.ref b :: As) wc Pw) (isC isR : List Nat) (hC : isC.map (fun i => ws[i]?) = wc.map some) (hn : va_nd isC = true) (hR9 : isR.map (fun i => ws[i]?) = wr.map some) (hnR : va_nd isR = true) (hdis : ∀ i ∈ isR, i ∉ isC)
    (hR : rm2.frames + 1 ≤ rm.frames ∧ 8 + (mL + 11) + rm2.locals ≤ rm.locals) (hnz : n + rm2.cells ≤ rm.cells ∧ z + rm2.slots ≤ rm.slots) (hA : As.length = np) (hst : st0 = As.reverse ++ .ref b :: st) (hW : (st.map fun v => v.category).sum ≤ 8) (hd : decode cc pc = .ok (.invokespecial index, 3))
    (kk : ∀ w', Pw w' → G E X (n + rm2.cells) (z + rm2.slots) (wr ++ w') lv (pc + 3) st) : G E X n z ws lv pc st0 := by
  intro H locs ls hP hD hS hl
  obtain ⟨hpre, hFc, hPc⟩ := g_preC (av := .ref b :: As) C hN hP hD hS isC hC hn
  obtain ⟨m1, m2, m3, m4, m5, m6⟩ := hm
  refine g_afterC C hP hD hS hl isC isR hC hR9 hnR hdis hFc ?_ kk
  exact va_runI (own := own) (index := index) (n := np) ⟨C.1, C.2.1, C.2.2.1, C.2.2.2.2.1, C.2.2.2.2.2.1⟩ (K H.size) (cwI np C.2.2.2.2.2.1 (gW_good m4) rfl rfl rfl (C.2.2.2.2.2.1 _ m3) (C.2.2.2.2.2.1 _ m1) (C.2.2.2.2.2.1 _ m2) m5 m6 (by rw [C.2.2.2.2.2.2.2.1]; exact hR)) hpre rfl hA (hl.1.trans C.2.2.2.1) hst (lv_room hW) hd (by rw [C.2.2.2.2.2.2.2.1]; exact hnz)
theorem g_callN {b : Nat} {host : String} (C : CX E X cc own nL rm) (hN : NN X.s) (hm : MN own index host y bytes mL np) (K : Mc E y bytes mL rm2 (.ref b :: As) wc Pw) (isC isR : List Nat) (hC : isC.map (fun i => ws[i]?) = wc.map some) (hn : va_nd isC = true) (hR9 : isR.map (fun i => ws[i]?) = wr.map some) (hnR : va_nd isR = true) (hdis : ∀ i ∈ isR, i ∉ isC)
    (hR : rm2.frames + 1 ≤ rm.frames ∧ 8 + (mL + 11) + rm2.locals ≤ rm.locals) (hnz : n + rm2.cells ≤ rm.cells ∧ z + rm2.slots ≤ rm.slots) (hA : As.length = np) (hst : st0 = As.reverse ++ .ref b :: st) (hW : (st.map fun v => v.category).sum ≤ 8) (hd : decode cc pc = .ok (.invokespecial index, 3))
    (kk : ∀ w', Pw w' → G E X (n + rm2.cells) (z + rm2.slots) (wr ++ w') lv (pc + 3) st) : G E X n z ws lv pc st0 := by
  intro H locs ls hP hD hS hl
  obtain ⟨hpre, hFc, hPc⟩ := g_preC (av := .ref b :: As) C hN hP hD hS isC hC hn
  obtain ⟨m1, m2, m3, m4, m5, m6⟩ := hm
  refine g_afterC C hP hD hS hl isC isR hC hR9 hnR hdis hFc ?_ kk
  exact va_runIN (own := own) (index := index) (n := np) (host := host) ⟨C.1, C.2.1, C.2.2.1, C.2.2.2.2.1, C.2.2.2.2.2.1⟩ (K H.size) ⟨va_cnB np C.2.2.2.2.2.1 (gW_good m4) rfl rfl rfl (hN.1 _ m1) (C.2.2.2.2.2.1 _ m3) m6 (by rw [C.2.2.2.2.2.2.2.1]; exact hR), m5, C.2.2.2.2.2.1 _ m2⟩ hpre rfl hA (hl.1.trans C.2.2.2.1) hst (lv_room hW) hd (by rw [C.2.2.2.2.2.2.2.1]; exact hnz)
end
/-- f, but v at every address of l -/
def vr_up {α : Type} (f : Nat → α) (l : List Nat) (v : α) : Nat → α := fun a => if a ∈ l then v else f a
theorem vr_up_in {α : Type} {f : Nat → α} {l : List Nat} {v : α} {a : Nat} (h : a ∈ l) : vr_up f l v a = v := if_pos h
theorem vr_up_ne {α : Type} {f : Nat → α} {l : List Nat} {v : α} {a : Nat} (h : a ∉ l) : vr_up f l v a = f a := if_neg h
theorem vr_rows {L l : List Nat} {f : Nat → va_E} {e : va_E} (h : ∀ a, a ∈ l → a ∉ L) : va_pl L f ++ l.map (fun a => (a, e)) = va_pl (L ++ l) (vr_up f l e) := by
  unfold va_pl
  rw [List.map_append]
  congr 1
  · apply List.map_congr_left
    intro a ha
    rw [vr_up_ne (fun q => h a q ha)]
  · apply List.map_congr_left
    intro a ha
    rw [vr_up_in ha]
theorem vr_lay {X rows : va_W} {x : Nat × va_E} {pl : va_W} {D : va_G} {cl : List vw_C} {H : Heap} (hP : va_P D cl (((X ++ pl) ++ [x]) ++ rows) H) : va_P D cl ((X ++ [x]) ++ (pl ++ rows)) H := by
  rw [List.append_assoc (X ++ pl)] at hP
  have h := va_P.swap hP
  rw [← List.append_assoc X] at h
  have h2 := va_P.swap h
  rw [List.append_assoc (X ++ [x])] at h2
  exact h2
theorem vr_layD {X rows : va_W} {x : Nat × va_E} {pl : va_W} {A : Nat → Prop} (hD : va_D A (((X ++ pl) ++ [x]) ++ rows)) : va_D A ((X ++ [x]) ++ (pl ++ rows)) := by
  rw [List.append_assoc (X ++ pl)] at hD
  have h := va_D.swap hD
  rw [← List.append_assoc X] at h
  have h2 := va_D.swap h
  rw [List.append_assoc (X ++ [x])] at h2
  exact h2
theorem vr_outer (c : ClassId) (N h0 : Nat) : ∀ i : Nat, Jvm.Free.Multi.outerC c N h0 i = arrV c N (fun j => va_rf (if j < i then some (h0 + 1 + j) else none))
  | 0 => by
    show ({ cls := c, slots := Array.replicate N .null, vm := .none } : Cell) = _
    rw [arrV_new]
    refine congrArg (arrV c N) (funext fun j => ?_)
    simp [va_rf]
  | i + 1 => by
    show (Jvm.Free.Multi.outerC c N h0 i).setSlot i (.ref (h0 + 1 + i)) = _
    rw [vr_outer c N h0 i, arrV_store]
    refine congrArg (arrV c N) (funext fun j => ?_)
    by_cases e : j = i
    · subst e
      simp [updV, va_rf]
    · by_cases h : j < i
      · simp [updV, e, h, Nat.lt_succ_of_lt h]
      · simp [updV, e, h, show ¬ j < i + 1 by omega]
section VGM
variable {p : Program} {l : Launch} {e : Env} {R : Room} {s : State} {m : MethodId} {args : Array Value} {below : List Frame} {meth : Method} {c : Code} {H : Heap} {locs : List Loc} {cells slots : Nat} {Q : State → Prop}
variable {cc : ByteArray} {pc : Nat} {ls : Array Slot} {rest : List Value} {D : va_G} {cl : List vw_C} {A : Nat → Prop} {a : Nat} {tys : List (ClassId × FieldType)} {ws : va_W} {H0 : Heap}
theorem va_mna {X : va_W} {L : List Nat} {f : Nat → va_E} {cc : ByteArray} (hexec : p.tables.exec = Jvm.exec) (hb : c.code = cc) {own : String} {index : Nat} {ty : FieldType} {cy : ClassId} (hown : s.vm.findClass own = some m.cls) (hclink : (Cond.classLink own index ("[" ++ (FieldType.array ty).toString)).before args s = true) (hover : va_AOA ty s) (harr : (Cond.arrayClass ty).before args s = true) (hcy : s.vm.findClass (FieldType.array ty).toString = some cy)
    (hK : va_K D cl tys s) (hP : va_P D cl (X ++ va_pl L f) H) (hD : va_D A (X ++ va_pl L f)) (hS : va_S A H0 H locs) (hA : ∀ q, H0.size ≤ q → A q) {n k : Int32} {N' K' : Nat} {z : vp_A} (hn : ¬ n < 0) (hk : ¬ k < 0) (hN : n.toNatClampNeg = N') (hM : k.toNatClampNeg = K')
    (hb1 : N' * 4 ≤ 536870912) (hb2 : K' * componentBytes ty ≤ 536870912) (hb3 : K' ≤ 536870912) (hdf : fits ty (defaultValue ty) = true) (hdd : (defaultValue ty).isDefault = true) (hcells : cells + (1 + N') ≤ R.cells) (hslots : slots + (N' + N' * K') ≤ R.slots) (hz : ∀ c : ClassId, Jvm.Free.Multi.innerC c K' (defaultValue ty) = vp_cell c z) (hdg : decode cc pc = .ok (.multianewarray index 2, 4))
    (kk : ∀ (q : Nat) (r : Nat → Nat) (cA : ClassId) (H1 : Heap), (∀ i j : Nat, i < N' → j < N' → r i = r j → i = j) → (∀ i : Nat, i < N' → r i ∉ L) → va_K D cl (tys ++ [(cA, .array ty)]) s →
      va_P D cl ((X ++ [(q, .inl (cA, N', .inr (.inr (.inr (.inr (fun i => if i < N' then some (r i) else none))))))]) ++ va_pl (L ++ (List.range N').map r) (vr_up f ((List.range N').map r) (.inl (cy, z)))) H1 → va_D A ((X ++ [(q, .inl (cA, N', .inr (.inr (.inr (.inr (fun i => if i < N' then some (r i) else none))))))]) ++ va_pl (L ++ (List.range N').map r) (vr_up f ((List.range N').map r) (.inl (cy, z)))) → va_S A H0 H1 locs →
      W p l e R s m args below meth c H1 locs (cells + 1 + N') (slots + N' + N' * K') Q (F0 m (pc + 4) ls (.ref q :: rest))) : W p l e R s m args below meth c H locs cells slots Q (F0 m pc ls (.int k :: .int n :: rest)) := by
  subst hN
  subst hM
  intro T hT Xs
  obtain ⟨vm₁, cA, comp, -, fA, fC, hO, -, X', step⟩ := _root_.Jvm.Stand.multianewarray2F Xs hexec hown hclink hover harr (g := F0 m pc ls (.int k :: .int n :: rest)) rfl (by rw [hb]; exact hdg) rfl hn hk hb1 hb2 hb3 hdf hdd hcells hslots
  have ec : some cy = some comp := hcy.symm.trans fC
  cases ec
  generalize hF : Jvm.Free.Multi.fill (T.setVm vm₁) cA cy n.toNatClampNeg k.toNatClampNeg (defaultValue ty) n.toNatClampNeg = F at X' step
  have hTh : (T.setVm vm₁).heap = H := hT
  obtain ⟨f1, f2, -, -⟩ := Jvm.Free.Multi.fill_facts (T.setVm vm₁) cA cy n.toNatClampNeg k.toNatClampNeg (defaultValue ty) n.toNatClampNeg
  rw [hF, hTh] at f1 f2
  have hold : ∀ x : Nat, x < H.size → F.heap[x]? = H[x]? := fun x hx => by
    have := Jvm.Free.Multi.fill_old (T.setVm vm₁) cA cy n.toNatClampNeg k.toNatClampNeg (defaultValue ty) (a := x) (by rw [hTh]; exact hx) n.toNatClampNeg
    rw [hF, hTh] at this
    exact this
  have hrow : ∀ j : Nat, j < n.toNatClampNeg → F.heap[H.size + 1 + j]? = some (vp_cell cy z) := fun j hj => by
    have := Jvm.Free.Multi.fill_inner (T.setVm vm₁) cA cy n.toNatClampNeg k.toNatClampNeg (defaultValue ty) n.toNatClampNeg j hj
    rw [hF, hTh, hz] at this
    exact this
  have hout : Jvm.Free.Multi.outerC cA n.toNatClampNeg H.size n.toNatClampNeg = vp_cell cA (n.toNatClampNeg, .inr (.inr (.inr (.inr (fun i => if i < n.toNatClampNeg then some (H.size + 1 + i) else none))))) := by
    rw [vp_cell_q]
    exact vr_outer cA n.toNatClampNeg H.size n.toNatClampNeg
  rw [hout] at f2
  have hlt : ∀ a, a ∈ L → a < H.size := fun a ha => by
    obtain ⟨k9, hk9⟩ := va_pl_get (X := X) (f := f) ha
    exact (hP k9 _ hk9).lt
  have hnl : ∀ i : Nat, i < n.toNatClampNeg → H.size + 1 + i ∉ L := fun i _ h => by
    have := hlt _ h
    omega
  have hnm : ∀ a, a ∈ (List.range n.toNatClampNeg).map (fun i => H.size + 1 + i) → a ∉ L := fun a ha h => by
    obtain ⟨i, -, rfl⟩ := List.mem_map.mp ha
    have := hlt _ h
    omega
  have hP0 : va_P D cl (X ++ va_pl L f) F.heap := hP.kept (fun k9 x hx => hold x.1 ((hP k9 x hx).lt))
  have hP1 : va_P D cl ((X ++ va_pl L f) ++ [(H.size, .inl (cA, n.toNatClampNeg, .inr (.inr (.inr (.inr (fun i => if i < n.toNatClampNeg then some (H.size + 1 + i) else none))))))]) F.heap := hP0.app (fun k9 x hx => by
    have h0 : k9 < 1 := (List.getElem?_eq_some_iff.mp hx).1
    rw [show k9 = 0 by omega] at hx
    cases hx
    exact f2)
  have hP2 : va_P D cl (((X ++ va_pl L f) ++ [(H.size, .inl (cA, n.toNatClampNeg, .inr (.inr (.inr (.inr (fun i => if i < n.toNatClampNeg then some (H.size + 1 + i) else none))))))]) ++ ((List.range n.toNatClampNeg).map (fun i => H.size + 1 + i)).map (fun a => (a, .inl (cy, z)))) F.heap := hP1.app (fun k9 x hx => by
    obtain ⟨a, ha, rfl⟩ := List.mem_map.mp (List.mem_of_getElem? hx)
    obtain ⟨i, hi, rfl⟩ := List.mem_map.mp ha
    exact hrow i (List.mem_range.mp hi))
  have hD2 : va_D A (((X ++ va_pl L f) ++ [(H.size, .inl (cA, n.toNatClampNeg, .inr (.inr (.inr (.inr (fun i => if i < n.toNatClampNeg then some (H.size + 1 + i) else none))))))]) ++ ((List.range n.toNatClampNeg).map (fun i => H.size + 1 + i)).map (fun a => (a, .inl (cy, z)))) := by
    have hD1 := hD.push (e := .inl (cA, n.toNatClampNeg, .inr (.inr (.inr (.inr (fun i => if i < n.toNatClampNeg then some (H.size + 1 + i) else none)))))) hP rfl (hA _ hS.1)
    generalize hW1 : (X ++ va_pl L f) ++ [(H.size, .inl (cA, n.toNatClampNeg, .inr (.inr (.inr (.inr (fun i => if i < n.toNatClampNeg then some (H.size + 1 + i) else none))))))] = W1 at hD1 hP1 ⊢
    have hle : ∀ (k9 : Nat) (x : Nat × va_E), W1[k9]? = some x → x.1 ≤ H.size := fun k9 x hx => by
      rw [← hW1] at hx
      by_cases hl : k9 < (X ++ va_pl L f).length
      · rw [List.getElem?_append_left hl] at hx
        exact Nat.le_of_lt ((hP k9 x hx).lt)
      · rw [List.getElem?_append_right (by omega)] at hx
        have h0 : k9 - (X ++ va_pl L f).length < 1 := (List.getElem?_eq_some_iff.mp hx).1
        rw [show k9 - (X ++ va_pl L f).length = 0 by omega] at hx
        cases hx
        exact Nat.le_refl _
    have hr : ∀ (k9 : Nat) (x : Nat × va_E), (((List.range n.toNatClampNeg).map (fun i => H.size + 1 + i)).map (fun a => ((a, .inl (cy, z)) : Nat × va_E)))[k9]? = some x → x.1 = H.size + 1 + k9 := fun k9 x hx => by
      rw [List.getElem?_map, List.getElem?_map] at hx
      by_cases h9 : k9 < n.toNatClampNeg
      · rw [List.getElem?_range h9] at hx
        cases hx
        rfl
      · have hn0 : (List.range n.toNatClampNeg)[k9]? = none := List.getElem?_eq_none (by rw [List.length_range]; omega)
        rw [hn0] at hx
        cases hx
    refine ⟨fun i j x y hi hj hxy => ?_, fun k9 x hx => ?_⟩
    · by_cases h1 : i < W1.length <;> by_cases h2 : j < W1.length
      · rw [List.getElem?_append_left h1] at hi
        rw [List.getElem?_append_left h2] at hj
        exact hD1.1 i j x y hi hj hxy
      · rw [List.getElem?_append_left h1] at hi
        rw [List.getElem?_append_right (by omega)] at hj
        have := hle _ _ hi
        have := hr _ _ hj
        omega
      · rw [List.getElem?_append_right (by omega)] at hi
        rw [List.getElem?_append_left h2] at hj
        have := hle _ _ hj
        have := hr _ _ hi
        omega
      · rw [List.getElem?_append_right (by omega)] at hi hj
        have := hr _ _ hi
        have := hr _ _ hj
        omega
    · by_cases h1 : k9 < W1.length
      · rw [List.getElem?_append_left h1] at hx
        exact hD1.2 k9 x hx
      · rw [List.getElem?_append_right (by omega)] at hx
        have := hr _ _ hx
        exact hA _ (by have := hS.1; omega)
  have hAr : ArrOfT s cA (.array ty) := fun N9 z9 => by
    obtain ⟨-, k9, hk9, cm9, hkk9⟩ := (hO 0 0 0).1
    exact ⟨(fun q hq => by cases hq), k9, hk9, cm9, hkk9⟩
  have hK2 : va_K D cl (tys ++ [(cA, .array ty)]) s := ⟨hK.1, fun k9 x hx => by
    by_cases hl : k9 < tys.length
    · rw [List.getElem?_append_left hl] at hx
      exact hK.2 k9 x hx
    · rw [List.getElem?_append_right (by omega)] at hx
      have h0 : k9 - tys.length < 1 := (List.getElem?_eq_some_iff.mp hx).1
      rw [show k9 - tys.length = 0 by omega] at hx
      cases hx
      exact ⟨hAr, fA⟩⟩
  obtain ⟨t, a1, b1⟩ := kk H.size (fun i => H.size + 1 + i) cA F.heap (fun i j _ _ h => by have h9 : H.size + 1 + i = H.size + 1 + j := h; omega) hnl hK2 (by rw [← vr_rows hnm]; exact vr_lay hP2) (by rw [← vr_rows hnm]; exact vr_layD hD2) ⟨by rw [f1]; have := hS.1; omega, fun x h1 h2 => (hold x (Nat.lt_of_lt_of_le h1 hS.1)).trans (hS.2.1 x h1 h2), hS.2.2⟩ F rfl X'
  refine ⟨t, step t ?_, b1⟩
  have e : T.heap.size = H.size := by rw [hT]
  rw [e]
  exact a1
end VGM

section
variable {E : Ev} {X : Cx} {n z : Nat} {ws : va_W} {lv : List (Nat × Value)} {pc : Nat} {st : List Value} {cc : ByteArray} {own : String} {nL index : Nat} {rm : Room}
theorem g_mna {m1 m0 : Int32} (C : CX E X cc own nL rm) (hN : NN X.s) (hcl : Cond.classLink own index "[[I" ∈ gT) (ha : Cond.arrayClass .int ∈ gT) (h1 : ¬ m1 < 0) (h0 : ¬ m0 < 0) (e1 : m1.toNatClampNeg = 4) (e0 : m0.toNatClampNeg = 40) (hc : n + 5 ≤ rm.cells) (hs : z + 164 ≤ rm.slots) (hd : decode cc pc = .ok (.multianewarray index 2, 4)) (kk : ∀ q r0 r1 r2 r3 : Nat, G E X (n + 5) (z + 164) (ws ++ [aQ E 4 q [r0, r1, r2, r3], aI E r0 40 (fun _ => 0), aI E r1 40 (fun _ => 0), aI E r2 40 (fun _ => 0), aI E r3 40 (fun _ => 0)]) lv (pc + 4) (.ref q :: st)) : G E X n z ws lv pc (.int m0 :: .int m1 :: st) := fun H locs ls hP hD hS hl => by
  have e2 : X.s.vm.findClass ("[" ++ (FieldType.int).toString) = some (E.2.2.1 0) := (C.2.2.2.2.2.2.1.2 0 _ rfl).2
  have e4 : X.s.vm.findClass ("[" ++ (FieldType.array .int).toString) = some (E.2.2.1 4) := (C.2.2.2.2.2.2.1.2 4 _ rfl).2
  refine va_mna (X := ws) (L := []) (f := fun _ => .inr (0, [])) (ty := .int) (cy := E.2.2.1 0) (z := (40, .inl (fun _ => 0))) (N' := 4) (K' := 40) C.1 C.2.1 C.2.2.2.2.1 (C.2.2.2.2.2.1 _ hcl) hN.2.2.2 (C.2.2.2.2.2.1 _ ha) e2 C.2.2.2.2.2.2.1 (by rw [show va_pl [] (fun _ => (.inr (0, []) : va_E)) = [] from rfl, List.append_nil]; exact hP) (by rw [show va_pl [] (fun _ => (.inr (0, []) : va_E)) = [] from rfl, List.append_nil]; exact hD) hS C.2.2.2.2.2.2.2.2.1 h1 h0 e1 e0 (by decide) (by decide) (by decide) rfl rfl (by rw [C.2.2.2.2.2.2.2.1]; exact hc) (by rw [C.2.2.2.2.2.2.2.1]; exact hs) (fun c => (arrV_new c 40 (.int 0))) hd (fun q r cA H1 _ _ hK1 hP1 hD1 hS1 => ?_)
  have e5 : X.s.vm.findClass ("[" ++ (FieldType.array .int).toString) = some cA := (hK1.2 5 _ rfl).2
  have e6 : cA = E.2.2.1 4 := Option.some.inj (e5.symm.trans e4)
  subst e6
  have ew : (ws ++ [(q, .inl (E.2.2.1 4, 4, .inr (.inr (.inr (.inr (fun i => if i < 4 then some (r i) else none))))))]) ++ va_pl ([] ++ (List.range 4).map r) (vr_up (fun _ => (.inr (0, []) : va_E)) ((List.range 4).map r) (.inl (E.2.2.1 0, 40, .inl (fun _ => 0)))) = ws ++ [aF E 4 q 4 (fun i => if i < 4 then some (r i) else none), aI E (r 0) 40 (fun _ => 0), aI E (r 1) 40 (fun _ => 0), aI E (r 2) 40 (fun _ => 0), aI E (r 3) 40 (fun _ => 0)] := by
    rw [List.append_assoc]
    congr 1
    simp [va_pl, vr_up, List.range_succ]
  rw [ew] at hP1 hD1
  have hidx : (ws ++ [aF E 4 q 4 (fun i => if i < 4 then some (r i) else none), aI E (r 0) 40 (fun _ => 0), aI E (r 1) 40 (fun _ => 0), aI E (r 2) 40 (fun _ => 0), aI E (r 3) 40 (fun _ => 0)])[ws.length]? = some (aF E 4 q 4 (fun i => if i < 4 then some (r i) else none)) := by
    rw [List.getElem?_append_right (Nat.le_refl _), Nat.sub_self]; rfl
  refine g_sameQ (ws' := ws ++ [aQ E 4 q [r 0, r 1, r 2, r 3], aI E (r 0) 40 (fun _ => 0), aI E (r 1) 40 (fun _ => 0), aI E (r 2) 40 (fun _ => 0), aI E (r 3) 40 (fun _ => 0)]) [r 0, r 1, r 2, r 3] ws.length hidx rfl (fun j hj => ?_) ?_ (kk q (r 0) (r 1) (r 2) (r 3)) H1 locs ls hP1 hD1 hS1 hl
  · match j, hj with
    | 0, _ => rfl
    | 1, _ => rfl
    | 2, _ => rfl
    | 3, _ => rfl
  · rw [List.set_append_right _ _ (Nat.le_refl _), Nat.sub_self]; rfl
end
