/-! the words that every method's list ends in -/
def gT : List Cond := lw_tbl.filter goodWord
def gW (y : MethodName) (cc : ByteArray) (n : Nat) (r : Option FieldType) : List Cond := Cond.code y cc n r :: gT
theorem gT_in {w : Cond} (h : w ∈ lw_tbl) (hg : goodWord w = true) : w ∈ gT := List.mem_filter.mpr ⟨h, hg⟩
theorem gT_good : GoodIn gT gT := fun _ h => ⟨h, good_of_word (List.mem_filter.mp h).2⟩
theorem gW_good {y : MethodName} {cc : ByteArray} {n : Nat} {r : Option FieldType} (h : Cond.code y cc n r ∈ gT) : GoodIn gT (gW y cc n r) := fun w hw => by
  rcases List.mem_cons.mp hw with rfl | hw
  · exact gT_good _ h
  · exact gT_good _ hw
theorem tb1 {w : Cond} (i : Nat) (h : tables_1_1[i]? = some w) (hg : goodWord w = true) : w ∈ gT := gT_in (List.mem_append_right _ (List.mem_append_left _ (List.mem_of_getElem? h))) hg
theorem tb2 {w : Cond} (i : Nat) (h : tables_1_2[i]? = some w) (hg : goodWord w = true) : w ∈ gT := gT_in (List.mem_append_right _ (List.mem_append_right _ (List.mem_append_left _ (List.mem_of_getElem? h)))) hg
theorem tb3 {w : Cond} (i : Nat) (h : tables_1_3[i]? = some w) (hg : goodWord w = true) : w ∈ gT := gT_in (List.mem_append_right _ (List.mem_append_right _ (List.mem_append_right _ (List.mem_append_left _ (List.mem_of_getElem? h))))) hg
theorem tb4 {w : Cond} (i : Nat) (h : tables_1_4[i]? = some w) (hg : goodWord w = true) : w ∈ gT := gT_in (List.mem_append_right _ (List.mem_append_right _ (List.mem_append_right _ (List.mem_append_right _ (List.mem_append_left _ (List.mem_of_getElem? h)))))) hg
theorem tb5 {w : Cond} (i : Nat) (h : tables_1_5[i]? = some w) (hg : goodWord w = true) : w ∈ gT := gT_in (List.mem_append_right _ (List.mem_append_right _ (List.mem_append_right _ (List.mem_append_right _ (List.mem_append_right _ (List.mem_append_left _ (List.mem_of_getElem? h))))))) hg
theorem tb6 {w : Cond} (i : Nat) (h : tables_1_6[i]? = some w) (hg : goodWord w = true) : w ∈ gT := gT_in (List.mem_append_right _ (List.mem_append_right _ (List.mem_append_right _ (List.mem_append_right _ (List.mem_append_right _ (List.mem_append_right _ (List.mem_of_getElem? h))))))) hg
/-! the five texts that the reader holds against the tape, and String's own switch -/
def zLen : List Nat := [5, 6, 4, 4, 5]
def zByt : List (List Int32) := [[104, 111, 117, 115, 101], [102, 114, 105, 101, 110, 100], [98, 111, 114, 101], [97, 117, 110, 116], [101, 110, 101, 109, 121]]
abbrev RTR : String := "UnaskedGuests$TextReader"
def ZZ (zk zv : Nat → Nat) (A : Nat → Prop) (U : State) (H : Heap) : Prop := vk_S 5 zLen zByt zk zv A U H ∧ va_Z "java/lang/String" "COMPACT_STRINGS" "Z" (.int 1) A U H ∧ vk_R RTR 67 "house" (zk 0) U ∧ vk_R RTR 122 "friend" (zk 1) U ∧ vk_R RTR 124 "bore" (zk 2) U ∧ vk_R RTR 126 "aunt" (zk 3) U ∧ vk_R RTR 128 "enemy" (zk 4) U ∧ ∃ v : Value, v.isRef = true ∧ va_Z "jdk/internal/util/Preconditions" "SIOOBE_FORMATTER" "Ljava/util/function/BiFunction;" v A U H
theorem ZZ.go {zk zv : Nat → Nat} {A B : Nat → Prop} {s U : State} {H H1 : Heap} (hW : s.WarmedH U.vm) (h : ZZ zk zv A s H) (hq : ∀ a : Nat, a < H.size → ¬ A a → H1[a]? = H[a]?) (hAB : ∀ q, B q → A q) : ZZ zk zv B U H1 :=
  ⟨((h.1.kept hq).narrow hAB).moved hW.alike, ((h.2.1.kept hq).narrow hAB).moved hW.alike, h.2.2.1.warm hW, h.2.2.2.1.warm hW, h.2.2.2.2.1.warm hW, h.2.2.2.2.2.1.warm hW, h.2.2.2.2.2.2.1.warm hW, by obtain ⟨v, h1, h2⟩ := h.2.2.2.2.2.2.2; exact ⟨v, h1, ((h2.kept hq).narrow hAB).moved hW.alike⟩⟩
theorem ZZ.same {zk zv : Nat → Nat} {A : Nat → Prop} {U : State} {H : Heap} {g : JFrame} {mk : MethodId} {a : Array Value} (h : ZZ zk zv A U H) : ZZ zk zv A (U.calling g mk a) H :=
  ⟨h.1.moved (Vm.Alike.refl U.vm), h.2.1.moved (Vm.Alike.refl U.vm), h.2.2.1.same rfl, h.2.2.2.1.same rfl, h.2.2.2.2.1.same rfl, h.2.2.2.2.2.1.same rfl, h.2.2.2.2.2.2.1.same rfl, by obtain ⟨v, h1, h2⟩ := h.2.2.2.2.2.2.2; exact ⟨v, h1, h2.moved (Vm.Alike.refl U.vm)⟩⟩
/-! what all contracts share (launch, the classes' places, the array classes, the texts' cells), and what a walk stands in -/
abbrev Ev := Launch × va_G × (Nat → ClassId) × (Nat → Nat) × (Nat → Nat)
abbrev Cx := (Program × Env × Room × State) × (MethodId × Array Value × List Frame × Method × Code) × (State → Prop) × (Nat → Prop) × Nat
abbrev Cx.p (X : Cx) : Program := X.1.1
abbrev Cx.e (X : Cx) : Env := X.1.2.1
abbrev Cx.R (X : Cx) : Room := X.1.2.2.1
abbrev Cx.s (X : Cx) : State := X.1.2.2.2
abbrev Cx.m (X : Cx) : MethodId := X.2.1.1
abbrev Cx.args (X : Cx) : Array Value := X.2.1.2.1
abbrev Cx.below (X : Cx) : List Frame := X.2.1.2.2.1
abbrev Cx.meth (X : Cx) : Method := X.2.1.2.2.2.1
abbrev Cx.c (X : Cx) : Code := X.2.1.2.2.2.2
abbrev Cx.Q (X : Cx) : State → Prop := X.2.2.1
abbrev Cx.A (X : Cx) : Nat → Prop := X.2.2.2.1
abbrev Cx.nL (X : Cx) : Nat := X.2.2.2.2
def tyl (cy : Nat → ClassId) : List (ClassId × FieldType) := [(cy 0, .int), (cy 1, .boolean), (cy 2, .object "UnaskedGuests$Image"), (cy 3, .object "UnaskedGuests$Sheet"), (cy 4, .array .int)]
/-- the machine at pc, in any heap that holds ws, with any locals that hold lv, comes to X's end -/
def G (E : Ev) (X : Cx) (n z : Nat) (ws : va_W) (lv : List (Nat × Value)) (pc : Nat) (st : List Value) : Prop :=
  ∀ (H : Heap) (locs : List Loc) (ls : Array Slot), va_P E.2.1 vwCl ws H → va_D X.A ws → va_S X.A X.s.heap H locs → lv_has ls X.nL lv → W X.p E.1 X.e X.R X.s X.m X.args X.below X.meth X.c H locs n z X.Q (F0 X.m pc ls st)
def CX (E : Ev) (X : Cx) (cc : ByteArray) (own : String) (nL : Nat) (rm : Room) : Prop :=
  X.p.tables.exec = Jvm.exec ∧ X.c.code = cc ∧ X.c.maxLocals = nL ∧ X.nL = nL ∧ X.s.vm.findClass own = some X.m.cls ∧ (∀ w ∈ gT, w.before X.args X.s = true) ∧ va_K E.2.1 vwCl (tyl E.2.2.1) X.s ∧ X.R = rm ∧ (∀ q, X.s.heap.size ≤ q → X.A q) ∧ ZZ E.2.2.2.1 E.2.2.2.2 X.A X.s X.s.heap
/-- a return with rv from a heap that holds ws is what X asks for -/
def QK (E : Ev) (X : Cx) (n z : Nat) (ret : Option FieldType) (ws : va_W) (rv : Option Value) : Prop :=
  X.meth.sig.returnType = ret ∧ X.meth.locks = false ∧ ∃ (Qc : Array Value → State → Outcome → State → Prop) (free : Addr → Prop), X.Q = MQ X.below Qc X.args X.s n z free ∧ (∀ q, X.A q → free q) ∧
    ∀ (H : Heap) (locs : List Loc) (t : State), va_P E.2.1 vwCl ws H → va_D X.A ws → va_S X.A X.s.heap H locs → t.heap = H → X.s.WarmedH t.vm → Qc X.args X.s (.returned rv) t
def Mt (E : Ev) (y : MethodName) (cc : ByteArray) (nL : Nat) (ret : Option FieldType) (rm : Room) (av : List Value) (ws ws' : va_W) (rv : Option Value) : Prop :=
  ∀ sz : Nat, Met E.1 y (gW y cc nL ret) rm (va_Pc av (fun U => U.heap.size = sz ∧ va_P E.2.1 vwCl ws U.heap ∧ va_K E.2.1 vwCl (tyl E.2.2.1) U ∧ va_D (fun _ => True) ws ∧ ZZ E.2.2.2.1 E.2.2.2.2 (va_A ws sz) U U.heap))
    (fun _ st oc t => oc = .returned rv ∧ va_P E.2.1 vwCl ws' t.heap ∧ va_D (va_A ws sz) ws' ∧ va_F (va_A ws sz) st t) rm.cells rm.slots (va_A ws sz)
theorem Mt.intro {E : Ev} {y : MethodName} {cc : ByteArray} {nL : Nat} {ret : Option FieldType} {rm : Room} {av : List Value} {ws ws' : va_W} {rv : Option Value} {lv : List (Nat × Value)} (hy : plainName y.cls = true) (hav : (lg_sl av).length ≤ nL) (hlv : lv_args 0 av = lv)
    (body : ∀ X : Cx, CX E X cc y.cls nL rm → QK E X rm.cells rm.slots ret ws' rv → G E X 0 0 ws lv 0 []) : Mt E y cc nL ret rm av ws ws' rv := by
  intro sz
  refine Met.ofW (cc := cc) (maxL := nL) (ret := ret) hy rfl ?_
  intro p e s m args below meth c s₁ B hml hv
  obtain ⟨rfl, hsz, hP, hK, hD0, hZ⟩ := hv
  subst hsz
  have hts := atoms_spec (ws := gW y cc nL ret) B.pre
  have hown : s.vm.findClass y.cls = some m.cls := findClass_of_methodNamed B.named
  have hl := lv_entry av (n := nL) hav
  rw [lg_entry_eq]
  rw [hlv] at hl
  have hb := body ((p, e, rm, s), (m, av.toArray, below, meth, c), (MQ below (fun _ st oc t => oc = .returned rv ∧ va_P E.2.1 vwCl ws' t.heap ∧ va_D (va_A ws s.heap.size) ws' ∧ va_F (va_A ws s.heap.size) st t) av.toArray s rm.cells rm.slots (va_A ws s.heap.size)), va_A ws s.heap.size, nL)
    ⟨B.exec, B.bytes, hml, rfl, hown, fun w hw => hts w (List.mem_cons_of_mem _ hw), hK, rfl, fun q h => Or.inr h, hZ⟩
    ⟨B.returns, B.notSynchronized, (fun _ st oc t => oc = .returned rv ∧ va_P E.2.1 vwCl ws' t.heap ∧ va_D (va_A ws s.heap.size) ws' ∧ va_F (va_A ws s.heap.size) st t), va_A ws s.heap.size, rfl, fun q h => h, fun H locs t hP1 hD1 hS1 ht hW => ⟨rfl, by rw [ht]; exact hP1, hD1, hS1.F ht⟩⟩
  exact hb s.heap [] _ hP (hD0.self) va_S.rf hl
section
variable {E : Ev} {X : Cx} {n z : Nat} {ws : va_W} {lv lv' : List (Nat × Value)} {pc : Nat} {st : List Value} {cc : ByteArray} {own : String} {nL : Nat} {rm : Room}
theorem g_iret {v : Int32} (C : CX E X cc own nL rm) (K : QK E X n z (some .int) ws (some (.int v))) (hd : decode cc pc = .ok (.ireturn, 1)) : G E X n z ws lv pc [.int v] := by
  intro H locs ls hP hD hS hl
  obtain ⟨h1, h2, Qc, free, h3, h4, h5⟩ := K
  rw [h3]
  exact W.iret C.1 C.2.1 h1 (fun t ht hW => h5 H locs t hP hD hS ht hW) (fun q hq => h4 _ (hS.2.2 q hq)) hd h2
theorem g_zret {v : Int32} {ty : FieldType} (C : CX E X cc own nL rm) (K : QK E X n z (some ty) ws (some (.int v))) (hn : narrow ty (.int v) = .int v) (hd : decode cc pc = .ok (.ireturn, 1)) : G E X n z ws lv pc [.int v] := by
  intro H locs ls hP hD hS hl
  obtain ⟨h1, h2, Qc, free, h3, h4, h5⟩ := K
  rw [h3]
  exact W.zret C.1 C.2.1 h1 hn (fun t ht hW => h5 H locs t hP hD hS ht hW) (fun q hq => h4 _ (hS.2.2 q hq)) hd h2
theorem g_lret {v : Int64} (C : CX E X cc own nL rm) (K : QK E X n z (some .long) ws (some (.long v))) (hd : decode cc pc = .ok (.lreturn, 1)) : G E X n z ws lv pc [.long v] := by
  intro H locs ls hP hD hS hl
  obtain ⟨h1, h2, Qc, free, h3, h4, h5⟩ := K
  rw [h3]
  exact W.lret C.1 C.2.1 h1 (fun t ht hW => h5 H locs t hP hD hS ht hW) (fun q hq => h4 _ (hS.2.2 q hq)) hd h2
theorem g_vret (C : CX E X cc own nL rm) (K : QK E X n z none ws none) (hd : decode cc pc = .ok (.return_, 1)) : G E X n z ws lv pc [] := by
  intro H locs ls hP hD hS hl
  obtain ⟨h1, h2, Qc, free, h3, h4, h5⟩ := K
  rw [h3]
  exact W.vret C.1 C.2.1 h1 (fun t ht hW => h5 H locs t hP hD hS ht hW) (fun q hq => h4 _ (hS.2.2 q hq)) hd h2
theorem g_aret {a : Nat} {rt : FieldType} (C : CX E X cc own nL rm) (hrt : (∃ n, rt = .object n) ∨ ∃ t, rt = .array t) (K : QK E X n z (some rt) ws (some (.ref a))) (hd : decode cc pc = .ok (.areturn, 1)) : G E X n z ws lv pc [.ref a] := by
  intro H locs ls hP hD hS hl
  obtain ⟨h1, h2, Qc, free, h3, h4, h5⟩ := K
  rw [h3]
  exact W.aret C.1 C.2.1 h1 hrt (Or.inr ⟨a, rfl⟩) (fun t ht hW => h5 H locs t hP hD hS ht hW) (fun q hq => h4 _ (hS.2.2 q hq)) hd h2
-- constants, locals, the stack
theorem g_iconst {k : Int} {v : Int32} (C : CX E X cc own nL rm) (hd : decode cc pc = .ok (.iconst k, 1)) (hv : Int32.ofInt k = v) (kk : G E X n z ws lv (pc + 1) (.int v :: st)) : G E X n z ws lv pc st := fun H locs ls hP hD hS hl => lv_iconst C.1 C.2.1 hd hv (kk H locs ls hP hD hS hl)
theorem g_bipush {k : Int} {v : Int32} (C : CX E X cc own nL rm) (hd : decode cc pc = .ok (.bipush k, 2)) (hv : (Int8.ofInt k).toInt32 = v) (kk : G E X n z ws lv (pc + 2) (.int v :: st)) : G E X n z ws lv pc st := fun H locs ls hP hD hS hl => lv_bipush C.1 C.2.1 hd hv (kk H locs ls hP hD hS hl)
theorem g_sipush {k : Int} {v : Int32} (C : CX E X cc own nL rm) (hd : decode cc pc = .ok (.sipush k, 3)) (hv : (Int16.ofInt k).toInt32 = v) (kk : G E X n z ws lv (pc + 3) (.int v :: st)) : G E X n z ws lv pc st := fun H locs ls hP hD hS hl => lv_sipush C.1 C.2.1 hd hv (kk H locs ls hP hD hS hl)
theorem g_lconst {k : Fin 2} {v : Int64} (C : CX E X cc own nL rm) (hd : decode cc pc = .ok (.lconst k, 1)) (hv : Int64.ofNat (k : Nat) = v) (kk : G E X n z ws lv (pc + 1) (.long v :: st)) : G E X n z ws lv pc st := fun H locs ls hP hD hS hl => lv_lconst C.1 C.2.1 hd hv (kk H locs ls hP hD hS hl)
theorem g_iload_n {k : Fin 4} {x : Int32} (C : CX E X cc own nL rm) (hd : decode cc pc = .ok (.iload_n k, 1)) (j : Nat) (hv : lv[j]? = some ((k : Nat), .int x)) (kk : G E X n z ws lv (pc + 1) (.int x :: st)) : G E X n z ws lv pc st := fun H locs ls hP hD hS hl => lv_iload_n C.1 C.2.1 hd rfl (lv_at hl j hv) (kk H locs ls hP hD hS hl)
theorem g_iload {i : Nat} {x : Int32} (C : CX E X cc own nL rm) (hd : decode cc pc = .ok (.iload i, 2)) (j : Nat) (hv : lv[j]? = some (i, .int x)) (kk : G E X n z ws lv (pc + 2) (.int x :: st)) : G E X n z ws lv pc st := fun H locs ls hP hD hS hl => lv_iload C.1 C.2.1 hd (lv_at hl j hv) (kk H locs ls hP hD hS hl)
theorem g_lload_n {k : Fin 4} {x : Int64} (C : CX E X cc own nL rm) (hd : decode cc pc = .ok (.lload_n k, 1)) (j : Nat) (hv : lv[j]? = some ((k : Nat), .long x)) (kk : G E X n z ws lv (pc + 1) (.long x :: st)) : G E X n z ws lv pc st := fun H locs ls hP hD hS hl => lv_lload_n C.1 C.2.1 hd rfl (lv_at hl j hv) (kk H locs ls hP hD hS hl)
theorem g_lload {i : Nat} {x : Int64} (C : CX E X cc own nL rm) (hd : decode cc pc = .ok (.lload i, 2)) (j : Nat) (hv : lv[j]? = some (i, .long x)) (kk : G E X n z ws lv (pc + 2) (.long x :: st)) : G E X n z ws lv pc st := fun H locs ls hP hD hS hl => lv_lload C.1 C.2.1 hd (lv_at hl j hv) (kk H locs ls hP hD hS hl)
theorem g_aload_n {k : Fin 4} {x : Nat} (C : CX E X cc own nL rm) (hd : decode cc pc = .ok (.aload_n k, 1)) (j : Nat) (hv : lv[j]? = some ((k : Nat), .ref x)) (kk : G E X n z ws lv (pc + 1) (.ref x :: st)) : G E X n z ws lv pc st := fun H locs ls hP hD hS hl => lv_aload_n C.1 C.2.1 hd rfl (lv_at hl j hv) (kk H locs ls hP hD hS hl)
theorem g_aload {i : Nat} {x : Nat} (C : CX E X cc own nL rm) (hd : decode cc pc = .ok (.aload i, 2)) (j : Nat) (hv : lv[j]? = some (i, .ref x)) (kk : G E X n z ws lv (pc + 2) (.ref x :: st)) : G E X n z ws lv pc st := fun H locs ls hP hD hS hl => lv_aload C.1 C.2.1 hd (lv_at hl j hv) (kk H locs ls hP hD hS hl)
theorem g_istore_n {k : Fin 4} {x : Int32} (C : CX E X cc own nL rm) (hd : decode cc pc = .ok (.istore_n k, 1)) (hn : (k : Nat) < nL) (hv : ((k : Nat), Value.int x) :: lv.filter (fun q => !(q.1 == (k : Nat)) && !(q.1 + 1 == (k : Nat) && q.2.category == 2)) = lv') (kk : G E X n z ws lv' (pc + 1) st) : G E X n z ws lv pc (.int x :: st) := fun H locs ls hP hD hS hl => lv_istore_n C.1 C.2.1 hd rfl hl (by rw [C.2.2.2.1]; exact hn) hv (fun ls' hl' => kk H locs ls' hP hD hS hl')
theorem g_istore {i : Nat} {x : Int32} (C : CX E X cc own nL rm) (hd : decode cc pc = .ok (.istore i, 2)) (hn : i < nL) (hv : (i, Value.int x) :: lv.filter (fun q => !(q.1 == i) && !(q.1 + 1 == i && q.2.category == 2)) = lv') (kk : G E X n z ws lv' (pc + 2) st) : G E X n z ws lv pc (.int x :: st) := fun H locs ls hP hD hS hl => lv_istore C.1 C.2.1 hd hl (by rw [C.2.2.2.1]; exact hn) hv (fun ls' hl' => kk H locs ls' hP hD hS hl')
theorem g_lstore_n {k : Fin 4} {x : Int64} (C : CX E X cc own nL rm) (hd : decode cc pc = .ok (.lstore_n k, 1)) (hn : (k : Nat) + 1 < nL) (hv : ((k : Nat), Value.long x) :: lv.filter (fun q => !(q.1 == (k : Nat)) && (!(q.1 == (k : Nat) + 1) && !(q.1 + 1 == (k : Nat) && q.2.category == 2))) = lv') (kk : G E X n z ws lv' (pc + 1) st) : G E X n z ws lv pc (.long x :: st) := fun H locs ls hP hD hS hl => lv_lstore_n C.1 C.2.1 hd rfl hl (by rw [C.2.2.2.1]; exact hn) hv (fun ls' hl' => kk H locs ls' hP hD hS hl')
theorem g_lstore {i : Nat} {x : Int64} (C : CX E X cc own nL rm) (hd : decode cc pc = .ok (.lstore i, 2)) (hn : i + 1 < nL) (hv : (i, Value.long x) :: lv.filter (fun q => !(q.1 == i) && (!(q.1 == i + 1) && !(q.1 + 1 == i && q.2.category == 2))) = lv') (kk : G E X n z ws lv' (pc + 2) st) : G E X n z ws lv pc (.long x :: st) := fun H locs ls hP hD hS hl => lv_lstore C.1 C.2.1 hd hl (by rw [C.2.2.2.1]; exact hn) hv (fun ls' hl' => kk H locs ls' hP hD hS hl')
theorem g_astore_n {k : Fin 4} {x : Nat} (C : CX E X cc own nL rm) (hd : decode cc pc = .ok (.astore_n k, 1)) (hn : (k : Nat) < nL) (hv : ((k : Nat), Value.ref x) :: lv.filter (fun q => !(q.1 == (k : Nat)) && !(q.1 + 1 == (k : Nat) && q.2.category == 2)) = lv') (kk : G E X n z ws lv' (pc + 1) st) : G E X n z ws lv pc (.ref x :: st) := fun H locs ls hP hD hS hl => lv_astore_n C.1 C.2.1 hd rfl hl (by rw [C.2.2.2.1]; exact hn) hv (fun ls' hl' => kk H locs ls' hP hD hS hl')
theorem g_astore {i : Nat} {x : Nat} (C : CX E X cc own nL rm) (hd : decode cc pc = .ok (.astore i, 2)) (hn : i < nL) (hv : (i, Value.ref x) :: lv.filter (fun q => !(q.1 == i) && !(q.1 + 1 == i && q.2.category == 2)) = lv') (kk : G E X n z ws lv' (pc + 2) st) : G E X n z ws lv pc (.ref x :: st) := fun H locs ls hP hD hS hl => lv_astore C.1 C.2.1 hd hl (by rw [C.2.2.2.1]; exact hn) hv (fun ls' hl' => kk H locs ls' hP hD hS hl')
theorem g_iinc {i : Nat} {k : Int} {x v : Int32} (C : CX E X cc own nL rm) (hd : decode cc pc = .ok (.iinc i k, 3)) (j : Nat) (hj : lv[j]? = some (i, .int x)) (hx : x + Int32.ofInt k = v) (hn : i < nL) (hv : (i, Value.int v) :: lv.filter (fun q => !(q.1 == i) && !(q.1 + 1 == i && q.2.category == 2)) = lv') (kk : G E X n z ws lv' (pc + 3) st) : G E X n z ws lv pc st := fun H locs ls hP hD hS hl => lv_iinc C.1 C.2.1 hd hl hj hx (by rw [C.2.2.2.1]; exact hn) hv (fun ls' hl' => kk H locs ls' hP hD hS hl')
theorem g_dup {v : Value} (C : CX E X cc own nL rm) (hd : decode cc pc = .ok (.dup, 1)) (hv : v.category = 1) (kk : G E X n z ws lv (pc + 1) (v :: v :: st)) : G E X n z ws lv pc (v :: st) := fun H locs ls hP hD hS hl => lv_dup C.1 C.2.1 hd hv (kk H locs ls hP hD hS hl)
theorem g_pop {v : Value} (C : CX E X cc own nL rm) (hd : decode cc pc = .ok (.pop, 1)) (hv : v.category = 1) (kk : G E X n z ws lv (pc + 1) st) : G E X n z ws lv pc (v :: st) := fun H locs ls hP hD hS hl => lv_pop C.1 C.2.1 hd hv (kk H locs ls hP hD hS hl)
theorem g_dup2 {v w : Value} (C : CX E X cc own nL rm) (hd : decode cc pc = .ok (.dup2, 1)) (hv : v.category = 1) (hw : w.category = 1) (kk : G E X n z ws lv (pc + 1) (v :: w :: v :: w :: st)) : G E X n z ws lv pc (v :: w :: st) := fun H locs ls hP hD hS hl => lv_dup2_11 C.1 C.2.1 hd hv hw (kk H locs ls hP hD hS hl)
-- numbers
theorem g_iadd {x y : Int32} (C : CX E X cc own nL rm) (hd : decode cc pc = .ok (.iadd, 1)) (kk : G E X n z ws lv (pc + 1) (.int (x + y) :: st)) : G E X n z ws lv pc (.int y :: .int x :: st) := fun H locs ls hP hD hS hl => lv_iadd C.1 C.2.1 hd (kk H locs ls hP hD hS hl)
theorem g_isub {x y : Int32} (C : CX E X cc own nL rm) (hd : decode cc pc = .ok (.isub, 1)) (kk : G E X n z ws lv (pc + 1) (.int (x - y) :: st)) : G E X n z ws lv pc (.int y :: .int x :: st) := fun H locs ls hP hD hS hl => lv_isub C.1 C.2.1 hd (kk H locs ls hP hD hS hl)
theorem g_imul {x y : Int32} (C : CX E X cc own nL rm) (hd : decode cc pc = .ok (.imul, 1)) (kk : G E X n z ws lv (pc + 1) (.int (x * y) :: st)) : G E X n z ws lv pc (.int y :: .int x :: st) := fun H locs ls hP hD hS hl => lv_imul C.1 C.2.1 hd (kk H locs ls hP hD hS hl)
theorem g_iand {x y : Int32} (C : CX E X cc own nL rm) (hd : decode cc pc = .ok (.iand, 1)) (kk : G E X n z ws lv (pc + 1) (.int (x &&& y) :: st)) : G E X n z ws lv pc (.int y :: .int x :: st) := fun H locs ls hP hD hS hl => lv_iand C.1 C.2.1 hd (kk H locs ls hP hD hS hl)
theorem g_ior {x y : Int32} (C : CX E X cc own nL rm) (hd : decode cc pc = .ok (.ior, 1)) (kk : G E X n z ws lv (pc + 1) (.int (x ||| y) :: st)) : G E X n z ws lv pc (.int y :: .int x :: st) := fun H locs ls hP hD hS hl => lv_ior C.1 C.2.1 hd (kk H locs ls hP hD hS hl)
theorem g_ixor {x y : Int32} (C : CX E X cc own nL rm) (hd : decode cc pc = .ok (.ixor, 1)) (kk : G E X n z ws lv (pc + 1) (.int (x ^^^ y) :: st)) : G E X n z ws lv pc (.int y :: .int x :: st) := fun H locs ls hP hD hS hl => lv_ixor C.1 C.2.1 hd (kk H locs ls hP hD hS hl)
theorem g_ishl {x y : Int32} (C : CX E X cc own nL rm) (hd : decode cc pc = .ok (.ishl, 1)) (kk : G E X n z ws lv (pc + 1) (.int (x <<< (y &&& 31)) :: st)) : G E X n z ws lv pc (.int y :: .int x :: st) := fun H locs ls hP hD hS hl => lv_ishl C.1 C.2.1 hd (kk H locs ls hP hD hS hl)
theorem g_ishr {x y : Int32} (C : CX E X cc own nL rm) (hd : decode cc pc = .ok (.ishr, 1)) (kk : G E X n z ws lv (pc + 1) (.int (x >>> (y &&& 31)) :: st)) : G E X n z ws lv pc (.int y :: .int x :: st) := fun H locs ls hP hD hS hl => lv_ishr C.1 C.2.1 hd (kk H locs ls hP hD hS hl)
def iushr (x y : Int32) : Int32 := (x.toUInt32 >>> (y.toUInt32 &&& Int32.toUInt32 31)).toInt32
theorem g_iushr {x y : Int32} (C : CX E X cc own nL rm) (hd : decode cc pc = .ok (.iushr, 1)) (kk : G E X n z ws lv (pc + 1) (.int (iushr x y) :: st)) : G E X n z ws lv pc (.int y :: .int x :: st) := fun H locs ls hP hD hS hl => lv_iushr C.1 C.2.1 hd rfl (kk H locs ls hP hD hS hl)
theorem g_i2l {x : Int32} (C : CX E X cc own nL rm) (hd : decode cc pc = .ok (.i2l, 1)) (kk : G E X n z ws lv (pc + 1) (.long x.toInt64 :: st)) : G E X n z ws lv pc (.int x :: st) := fun H locs ls hP hD hS hl => lv_i2l C.1 C.2.1 hd rfl (kk H locs ls hP hD hS hl)
theorem g_i2b {x : Int32} (C : CX E X cc own nL rm) (hd : decode cc pc = .ok (.i2b, 1)) (kk : G E X n z ws lv (pc + 1) (.int x.toInt8.toInt32 :: st)) : G E X n z ws lv pc (.int x :: st) := fun H locs ls hP hD hS hl => lv_i2b C.1 C.2.1 hd rfl (kk H locs ls hP hD hS hl)
theorem g_i2s {x : Int32} (C : CX E X cc own nL rm) (hd : decode cc pc = .ok (.i2s, 1)) (kk : G E X n z ws lv (pc + 1) (.int x.toInt16.toInt32 :: st)) : G E X n z ws lv pc (.int x :: st) := fun H locs ls hP hD hS hl => lv_i2s C.1 C.2.1 hd rfl (kk H locs ls hP hD hS hl)
theorem g_ladd {x y : Int64} (C : CX E X cc own nL rm) (hd : decode cc pc = .ok (.ladd, 1)) (kk : G E X n z ws lv (pc + 1) (.long (x + y) :: st)) : G E X n z ws lv pc (.long y :: .long x :: st) := fun H locs ls hP hD hS hl => lv_ladd C.1 C.2.1 hd (kk H locs ls hP hD hS hl)
theorem g_lmul {x y : Int64} (C : CX E X cc own nL rm) (hd : decode cc pc = .ok (.lmul, 1)) (kk : G E X n z ws lv (pc + 1) (.long (x * y) :: st)) : G E X n z ws lv pc (.long y :: .long x :: st) := fun H locs ls hP hD hS hl => lv_lmul C.1 C.2.1 hd (kk H locs ls hP hD hS hl)
theorem g_goto {off : Int} (tgt : Nat) (C : CX E X cc own nL rm) (hd : decode cc pc = .ok (.goto off, 3)) (ht : (pc : Int) + off = (tgt : Int)) (kk : G E X n z ws lv tgt st) : G E X n z ws lv pc st := fun H locs ls hP hD hS hl => lv_goto C.1 C.2.1 hd ht (kk H locs ls hP hD hS hl)
end
/-! what a piece that may fail says: the road on it, and the rest -/
theorem o_grd {α : Type} {P : Prop} [Decidable P] {F : Option α} {r : α} (h : (if P then F else none) = some r) : P ∧ F = some r := by
  by_cases hp : P
  · rw [if_pos hp] at h; exact ⟨hp, h⟩
  · rw [if_neg hp] at h; cases h
theorem o_bnd {α β : Type} {x : Option α} {F : α → Option β} {r : β} (h : x.bind F = some r) : ∃ v, x = some v ∧ F v = some r := by
  cases x with
  | none => cases h
  | some v => exact ⟨v, rfl, h⟩
