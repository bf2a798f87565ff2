/-! rows of the judgement G: branches, cells, calls -/
abbrev inb (i : Int32) (k : Nat) : Prop := ¬ (i < 0 ∨ k ≤ i.toNatClampNeg)
abbrev ix (i : Int32) : Nat := i.toNatClampNeg
abbrev aI (E : Ev) (a k : Nat) (f : Nat → Int32) : Nat × va_E := (a, .inl (E.2.2.1 0, k, .inl f))
abbrev aZ (E : Ev) (a k : Nat) (f : Nat → Int32) : Nat × va_E := (a, .inl (E.2.2.1 1, k, .inl f))
abbrev aQ (E : Ev) (t a : Nat) (L : List Nat) : Nat × va_E := (a, .inl (E.2.2.1 t, L.length, .inr (.inr (.inr (.inr (fun i => L[i]?))))))
section
variable {E : Ev} {X : Cx} {n z : Nat} {ws ws' : va_W} {lv lv' : List (Nat × Value)} {pc : Nat} {st : List Value} {cc : ByteArray} {own : String} {nL : Nat} {rm : Room} {α : Type} {F1 F2 F : Option α} {r : α}
theorem o_ite {c : Prop} [Decidable c] (h : (if c then F1 else F2) = some r) : (c ∧ F1 = some r) ∨ (¬ c ∧ F2 = some r) := by
  by_cases hc : c
  · rw [if_pos hc] at h; exact Or.inl ⟨hc, h⟩
  · rw [if_neg hc] at h; exact Or.inr ⟨hc, h⟩
theorem b_if_eq {x : Int32} {off : Int} (tgt : Nat) (C : CX E X cc own nL rm) (hd : decode cc pc = .ok (.ifCond .eq off, 3)) (ht : (pc : Int) + off = (tgt : Int)) (h : (if x = 0 then F1 else F2) = some r) (kt : x = 0 → F1 = some r → G E X n z ws lv tgt st) (kf : ¬ x = 0 → F2 = some r → G E X n z ws lv (pc + 3) st) : G E X n z ws lv pc (.int x :: st) := fun H locs ls hP hD hS hl => lv_if_eq C.1 C.2.1 hd ht (fun c => kt c (by rw [if_pos c] at h; exact h) H locs ls hP hD hS hl) (fun c => kf c (by rw [if_neg c] at h; exact h) H locs ls hP hD hS hl)
theorem b_icmp_eq {x y : Int32} {off : Int} (tgt : Nat) (C : CX E X cc own nL rm) (hd : decode cc pc = .ok (.if_icmp .eq off, 3)) (ht : (pc : Int) + off = (tgt : Int)) (h : (if x = y then F1 else F2) = some r) (kt : x = y → F1 = some r → G E X n z ws lv tgt st) (kf : ¬ x = y → F2 = some r → G E X n z ws lv (pc + 3) st) : G E X n z ws lv pc (.int y :: .int x :: st) := fun H locs ls hP hD hS hl => lv_icmp_eq C.1 C.2.1 hd ht (fun c => kt c (by rw [if_pos c] at h; exact h) H locs ls hP hD hS hl) (fun c => kf c (by rw [if_neg c] at h; exact h) H locs ls hP hD hS hl)
theorem b_if_ne {x : Int32} {off : Int} (tgt : Nat) (C : CX E X cc own nL rm) (hd : decode cc pc = .ok (.ifCond .ne off, 3)) (ht : (pc : Int) + off = (tgt : Int)) (h : (if x = 0 then F1 else F2) = some r) (kt : ¬ x = 0 → F2 = some r → G E X n z ws lv tgt st) (kf : x = 0 → F1 = some r → G E X n z ws lv (pc + 3) st) : G E X n z ws lv pc (.int x :: st) := fun H locs ls hP hD hS hl => lv_if_ne C.1 C.2.1 hd ht (fun c => kt c (by rw [if_neg c] at h; exact h) H locs ls hP hD hS hl) (fun c => kf c (by rw [if_pos c] at h; exact h) H locs ls hP hD hS hl)
theorem b_icmp_ne {x y : Int32} {off : Int} (tgt : Nat) (C : CX E X cc own nL rm) (hd : decode cc pc = .ok (.if_icmp .ne off, 3)) (ht : (pc : Int) + off = (tgt : Int)) (h : (if x = y then F1 else F2) = some r) (kt : ¬ x = y → F2 = some r → G E X n z ws lv tgt st) (kf : x = y → F1 = some r → G E X n z ws lv (pc + 3) st) : G E X n z ws lv pc (.int y :: .int x :: st) := fun H locs ls hP hD hS hl => lv_icmp_ne C.1 C.2.1 hd ht (fun c => kt c (by rw [if_neg c] at h; exact h) H locs ls hP hD hS hl) (fun c => kf c (by rw [if_pos c] at h; exact h) H locs ls hP hD hS hl)
theorem b_if_lt {x : Int32} {off : Int} (tgt : Nat) (C : CX E X cc own nL rm) (hd : decode cc pc = .ok (.ifCond .lt off, 3)) (ht : (pc : Int) + off = (tgt : Int)) (h : (if x < 0 then F1 else F2) = some r) (kt : x < 0 → F1 = some r → G E X n z ws lv tgt st) (kf : ¬ x < 0 → F2 = some r → G E X n z ws lv (pc + 3) st) : G E X n z ws lv pc (.int x :: st) := fun H locs ls hP hD hS hl => lv_if_lt C.1 C.2.1 hd ht (fun c => kt c (by rw [if_pos c] at h; exact h) H locs ls hP hD hS hl) (fun c => kf c (by rw [if_neg c] at h; exact h) H locs ls hP hD hS hl)
theorem b_icmp_lt {x y : Int32} {off : Int} (tgt : Nat) (C : CX E X cc own nL rm) (hd : decode cc pc = .ok (.if_icmp .lt off, 3)) (ht : (pc : Int) + off = (tgt : Int)) (h : (if x < y then F1 else F2) = some r) (kt : x < y → F1 = some r → G E X n z ws lv tgt st) (kf : ¬ x < y → F2 = some r → G E X n z ws lv (pc + 3) st) : G E X n z ws lv pc (.int y :: .int x :: st) := fun H locs ls hP hD hS hl => lv_icmp_lt C.1 C.2.1 hd ht (fun c => kt c (by rw [if_pos c] at h; exact h) H locs ls hP hD hS hl) (fun c => kf c (by rw [if_neg c] at h; exact h) H locs ls hP hD hS hl)
theorem b_if_ge {x : Int32} {off : Int} (tgt : Nat) (C : CX E X cc own nL rm) (hd : decode cc pc = .ok (.ifCond .ge off, 3)) (ht : (pc : Int) + off = (tgt : Int)) (h : (if 0 ≤ x then F1 else F2) = some r) (kt : 0 ≤ x → F1 = some r → G E X n z ws lv tgt st) (kf : ¬ 0 ≤ x → F2 = some r → G E X n z ws lv (pc + 3) st) : G E X n z ws lv pc (.int x :: st) := fun H locs ls hP hD hS hl => lv_if_ge C.1 C.2.1 hd ht (fun c => kt c (by rw [if_pos c] at h; exact h) H locs ls hP hD hS hl) (fun c => kf c (by rw [if_neg c] at h; exact h) H locs ls hP hD hS hl)
theorem b_icmp_ge {x y : Int32} {off : Int} (tgt : Nat) (C : CX E X cc own nL rm) (hd : decode cc pc = .ok (.if_icmp .ge off, 3)) (ht : (pc : Int) + off = (tgt : Int)) (h : (if y ≤ x then F1 else F2) = some r) (kt : y ≤ x → F1 = some r → G E X n z ws lv tgt st) (kf : ¬ y ≤ x → F2 = some r → G E X n z ws lv (pc + 3) st) : G E X n z ws lv pc (.int y :: .int x :: st) := fun H locs ls hP hD hS hl => lv_icmp_ge C.1 C.2.1 hd ht (fun c => kt c (by rw [if_pos c] at h; exact h) H locs ls hP hD hS hl) (fun c => kf c (by rw [if_neg c] at h; exact h) H locs ls hP hD hS hl)
theorem b_if_gt {x : Int32} {off : Int} (tgt : Nat) (C : CX E X cc own nL rm) (hd : decode cc pc = .ok (.ifCond .gt off, 3)) (ht : (pc : Int) + off = (tgt : Int)) (h : (if 0 < x then F1 else F2) = some r) (kt : 0 < x → F1 = some r → G E X n z ws lv tgt st) (kf : ¬ 0 < x → F2 = some r → G E X n z ws lv (pc + 3) st) : G E X n z ws lv pc (.int x :: st) := fun H locs ls hP hD hS hl => lv_if_gt C.1 C.2.1 hd ht (fun c => kt c (by rw [if_pos c] at h; exact h) H locs ls hP hD hS hl) (fun c => kf c (by rw [if_neg c] at h; exact h) H locs ls hP hD hS hl)
theorem b_icmp_gt {x y : Int32} {off : Int} (tgt : Nat) (C : CX E X cc own nL rm) (hd : decode cc pc = .ok (.if_icmp .gt off, 3)) (ht : (pc : Int) + off = (tgt : Int)) (h : (if y < x then F1 else F2) = some r) (kt : y < x → F1 = some r → G E X n z ws lv tgt st) (kf : ¬ y < x → F2 = some r → G E X n z ws lv (pc + 3) st) : G E X n z ws lv pc (.int y :: .int x :: st) := fun H locs ls hP hD hS hl => lv_icmp_gt C.1 C.2.1 hd ht (fun c => kt c (by rw [if_pos c] at h; exact h) H locs ls hP hD hS hl) (fun c => kf c (by rw [if_neg c] at h; exact h) H locs ls hP hD hS hl)
theorem b_if_le {x : Int32} {off : Int} (tgt : Nat) (C : CX E X cc own nL rm) (hd : decode cc pc = .ok (.ifCond .le off, 3)) (ht : (pc : Int) + off = (tgt : Int)) (h : (if x ≤ 0 then F1 else F2) = some r) (kt : x ≤ 0 → F1 = some r → G E X n z ws lv tgt st) (kf : ¬ x ≤ 0 → F2 = some r → G E X n z ws lv (pc + 3) st) : G E X n z ws lv pc (.int x :: st) := fun H locs ls hP hD hS hl => lv_if_le C.1 C.2.1 hd ht (fun c => kt c (by rw [if_pos c] at h; exact h) H locs ls hP hD hS hl) (fun c => kf c (by rw [if_neg c] at h; exact h) H locs ls hP hD hS hl)
theorem b_icmp_le {x y : Int32} {off : Int} (tgt : Nat) (C : CX E X cc own nL rm) (hd : decode cc pc = .ok (.if_icmp .le off, 3)) (ht : (pc : Int) + off = (tgt : Int)) (h : (if x ≤ y then F1 else F2) = some r) (kt : x ≤ y → F1 = some r → G E X n z ws lv tgt st) (kf : ¬ x ≤ y → F2 = some r → G E X n z ws lv (pc + 3) st) : G E X n z ws lv pc (.int y :: .int x :: st) := fun H locs ls hP hD hS hl => lv_icmp_le C.1 C.2.1 hd ht (fun c => kt c (by rw [if_pos c] at h; exact h) H locs ls hP hD hS hl) (fun c => kf c (by rw [if_neg c] at h; exact h) H locs ls hP hD hS hl)
theorem b_idiv {x y : Int32} (C : CX E X cc own nL rm) (hd : decode cc pc = .ok (.idiv, 1)) (h : (if ¬ y = 0 then F else none) = some r) (kk : F = some r → G E X n z ws lv (pc + 1) (.int (x / y) :: st)) : G E X n z ws lv pc (.int y :: .int x :: st) := fun H locs ls hP hD hS hl => lv_idiv C.1 C.2.1 hd (o_grd h).1 (kk (o_grd h).2 H locs ls hP hD hS hl)
theorem b_irem {x y : Int32} (C : CX E X cc own nL rm) (hd : decode cc pc = .ok (.irem, 1)) (h : (if ¬ y = 0 then F else none) = some r) (kk : F = some r → G E X n z ws lv (pc + 1) (.int (x - x / y * y) :: st)) : G E X n z ws lv pc (.int y :: .int x :: st) := fun H locs ls hP hD hS hl => lv_irem C.1 C.2.1 hd (o_grd h).1 (kk (o_grd h).2 H locs ls hP hD hS hl)
theorem b_ldiv {x y : Int64} (C : CX E X cc own nL rm) (hd : decode cc pc = .ok (.ldiv, 1)) (h : (if ¬ y = 0 then F else none) = some r) (kk : F = some r → G E X n z ws lv (pc + 1) (.long (x / y) :: st)) : G E X n z ws lv pc (.long y :: .long x :: st) := fun H locs ls hP hD hS hl => lv_ldiv C.1 C.2.1 hd (o_grd h).1 (kk (o_grd h).2 H locs ls hP hD hS hl)
theorem b_lrem {x y : Int64} (C : CX E X cc own nL rm) (hd : decode cc pc = .ok (.lrem, 1)) (h : (if ¬ y = 0 then F else none) = some r) (kk : F = some r → G E X n z ws lv (pc + 1) (.long (x - x / y * y) :: st)) : G E X n z ws lv pc (.long y :: .long x :: st) := fun H locs ls hP hD hS hl => lv_lrem C.1 C.2.1 hd (o_grd h).1 (kk (o_grd h).2 H locs ls hP hD hS hl)
theorem g_lcmp {x y : Int64} (C : CX E X cc own nL rm) (hd : decode cc pc = .ok (.lcmp, 1)) (kk : G E X n z ws lv (pc + 1) (.int (lg_cmp x y) :: st)) : G E X n z ws lv pc (.long y :: .long x :: st) := fun H locs ls hP hD hS hl => W.lcmp C.1 C.2.1 hd (kk H locs ls hP hD hS hl)
theorem g_ldc {index : Nat} {v : Int32} (C : CX E X cc own nL rm) (hc : Cond.constant own index v ∈ gT) (hd : decode cc pc = .ok (.ldc index, 2)) (kk : G E X n z ws lv (pc + 2) (.int v :: st)) : G E X n z ws lv pc st := fun H locs ls hP hD hS hl => lv_ldc C.1 C.2.1 C.2.2.2.2.1 (C.2.2.2.2.2.1 _ hc) hd (kk H locs ls hP hD hS hl)
theorem g_ldcw {index : Nat} {v : Int32} (C : CX E X cc own nL rm) (hc : Cond.constant own index v ∈ gT) (hd : decode cc pc = .ok (.ldc_w index, 3)) (kk : G E X n z ws lv (pc + 3) (.int v :: st)) : G E X n z ws lv pc st := fun H locs ls hP hD hS hl => lv_ldcw C.1 C.2.1 C.2.2.2.2.1 (C.2.2.2.2.2.1 _ hc) hd (kk H locs ls hP hD hS hl)
theorem g_ldc2 {index : Nat} {v : Int64} (C : CX E X cc own nL rm) (hc : Cond.constantLong own index v ∈ gT) (hd : decode cc pc = .ok (.ldc2_w index, 3)) (kk : G E X n z ws lv (pc + 3) (.long v :: st)) : G E X n z ws lv pc st := fun H locs ls hP hD hS hl => lv_ldc2 C.1 C.2.1 C.2.2.2.2.1 (C.2.2.2.2.2.1 _ hc) hd (kk H locs ls hP hD hS hl)
theorem g_tabIn {dflt lo hi : Int} {offs : Array Int} {len : Nat} {x : Int32} {off : Int} (tgt j : Nat) (C : CX E X cc own nL rm) (hd : decode cc pc = .ok (.tableswitch dflt lo hi offs, len)) (hx : x.toInt = lo + j) (hj : lo + j ≤ hi) (ho : offs[j]? = some off) (ht : (pc : Int) + off = (tgt : Int)) (kk : G E X n z ws lv tgt st) : G E X n z ws lv pc (.int x :: st) := fun H locs ls hP hD hS hl => lv_tableIn C.1 C.2.1 hd (by omega) (by omega) (by rw [hx, show (lo + (j : Int) - lo).toNat = j by omega]; exact ho) ht (kk H locs ls hP hD hS hl)
theorem g_tabOut {dflt lo hi : Int} {offs : Array Int} {len : Nat} {x : Int32} (tgt : Nat) (C : CX E X cc own nL rm) (hd : decode cc pc = .ok (.tableswitch dflt lo hi offs, len)) (hx : x.toInt < lo ∨ hi < x.toInt) (ht : (pc : Int) + dflt = (tgt : Int)) (kk : G E X n z ws lv tgt st) : G E X n z ws lv pc (.int x :: st) := fun H locs ls hP hD hS hl => lv_tableOut C.1 C.2.1 hd hx ht (kk H locs ls hP hD hS hl)
theorem b_iald {a k : Nat} {f : Nat → Int32} {i : Int32} (q0 : Nat) (C : CX E X cc own nL rm) (ha : ws[q0]? = some (aI E a k f)) (hd : decode cc pc = .ok (.iaload, 1)) (h : (if inb i k then F else none) = some r) (kk : inb i k → F = some r → G E X n z ws lv (pc + 1) (.int (f (ix i)) :: st)) : G E X n z ws lv pc (.int i :: .ref a :: st) := fun H locs ls hP hD hS hl => va_iald C.1 C.2.1 C.2.2.2.2.2.2.1 hP q0 0 ha rfl (o_grd h).1 hd (kk (o_grd h).1 (o_grd h).2 H locs ls hP hD hS hl)
theorem b_zald {a k : Nat} {f : Nat → Int32} {i : Int32} (q0 : Nat) (C : CX E X cc own nL rm) (ha : ws[q0]? = some (aZ E a k f)) (hd : decode cc pc = .ok (.baload, 1)) (h : (if inb i k then F else none) = some r) (kk : inb i k → F = some r → G E X n z ws lv (pc + 1) (.int (f (ix i)) :: st)) : G E X n z ws lv pc (.int i :: .ref a :: st) := fun H locs ls hP hD hS hl => va_zald C.1 C.2.1 C.2.2.2.2.2.2.1 hP q0 1 ha rfl (o_grd h).1 hd (kk (o_grd h).1 (o_grd h).2 H locs ls hP hD hS hl)
theorem b_iast {a k : Nat} {f : Nat → Int32} {i x : Int32} (q0 : Nat) (C : CX E X cc own nL rm) (ha : ws[q0]? = some (aI E a k f)) (hw : ws.set q0 (aI E a k (upd f (ix i) x)) = ws') (hd : decode cc pc = .ok (.iastore, 1)) (h : (if inb i k then F else none) = some r) (kk : inb i k → F = some r → G E X n z ws' lv (pc + 1) st) : G E X n z ws lv pc (.int x :: .int i :: .ref a :: st) := fun H locs ls hP hD hS hl => va_iast C.1 C.2.1 C.2.2.2.2.2.2.1 hP hD hS q0 0 ha rfl (o_grd h).1 hd (fun H1 locs1 hP1 hD1 hS1 => kk (o_grd h).1 (o_grd h).2 H1 locs1 ls (by rw [← hw]; exact hP1) (by rw [← hw]; exact hD1) hS1 hl)
theorem b_zast {a k : Nat} {f : Nat → Int32} {i x : Int32} (q0 : Nat) (C : CX E X cc own nL rm) (ha : ws[q0]? = some (aZ E a k f)) (hx : vp_nar .boolean x = x) (hw : ws.set q0 (aZ E a k (upd f (ix i) x)) = ws') (hd : decode cc pc = .ok (.bastore, 1)) (h : (if inb i k then F else none) = some r) (kk : inb i k → F = some r → G E X n z ws' lv (pc + 1) st) : G E X n z ws lv pc (.int x :: .int i :: .ref a :: st) := fun H locs ls hP hD hS hl => va_zast C.1 C.2.1 C.2.2.2.2.2.2.1 hP hD hS q0 1 ha rfl (o_grd h).1 hd (fun H1 locs1 hP1 hD1 hS1 => kk (o_grd h).1 (o_grd h).2 H1 locs1 ls (by rw [← hw]; rw [hx] at hP1; exact hP1) (by rw [← hw]; rw [hx] at hD1; exact hD1) hS1 hl)
theorem g_aald {a t v : Nat} {L : List Nat} {i : Int32} {ty : FieldType} (q0 : Nat) (C : CX E X cc own nL rm) (ha : ws[q0]? = some (aQ E t a L)) (ht : (tyl E.2.2.1)[t]? = some (E.2.2.1 t, ty)) (hty : ty.isReference = true) (hin : inb i L.length) (hv : L[ix i]? = some v) (hd : decode cc pc = .ok (.aaload, 1)) (kk : G E X n z ws lv (pc + 1) (.ref v :: st)) : G E X n z ws lv pc (.int i :: .ref a :: st) := fun H locs ls hP hD hS hl => by
  have hlt : ix i < L.length := Nat.not_le.mp fun q => hin (Or.inr q)
  refine W.aald (v := .ref v) (ty := ty) C.1 C.2.1 (hP q0 _ ha) ((C.2.2.2.2.2.2.1.2 t _ ht).1 L.length (fun j => va_rf (L[j]?))) hty (fun q => by cases q) (by show ¬ (i < 0 ∨ (arrV _ _ _).slots.size ≤ _); rw [arrV_size]; exact hin) (by show (arrV _ _ _).slots[_]? = _; rw [arrV_read _ _ hlt]; show some (va_rf (L[ix i]?)) = _; rw [hv]; rfl) rfl rfl hd (kk H locs ls hP hD hS hl)
/-- field k of class ci, by the entry index of own's pool -/
def FL (own : String) (index ci k : Nat) : Prop := ∃ (Cn : String) (T : u_T) (N : Nat), vwCl[ci]? = some (Cn, T, N) ∧ (∀ w ∈ u_ws Cn T N, w ∈ gT) ∧ k < N ∧ Cond.fieldLink own index (T k).1 (T k).2.1 (T k).2.2.1 ∈ gT
def FP (own : String) (index ci k : Nat) (fin : Bool) (ty : FieldType) : Prop := ∃ (Cn : String) (T : u_T) (N : Nat) (ty0 : Nat → FieldType), vwCl[ci]? = some (Cn, T, N) ∧ (∀ w ∈ u_ws Cn T N, w ∈ gT) ∧ k < N ∧ Cond.fieldLink own index (T k).1 (T k).2.1 (T k).2.2.1 ∈ gT ∧ (∀ k, k < N → parseFieldDescriptor (T k).2.2.1 = some (ty0 k)) ∧ (∀ a, a < N → ∀ b, b < N → a ≠ b → (T a).2.1 ≠ (T b).2.1) ∧ (T k).2.2.2 = fin ∧ parseFieldDescriptor (T k).2.2.1 = some ty ∧ (fin = true → (T k).1 = own)
theorem g_get {a index ci k : Nat} {fs : List Value} {v : Value} (q0 : Nat) (C : CX E X cc own nL rm) (hf : FL own index ci k) (he : ws[q0]? = some (a, .inr (ci, fs))) (hv : fs[k]? = some v) (hd : decode cc pc = .ok (.getfield index, 3)) (kk : G E X n z ws lv (pc + 3) (v :: st)) : G E X n z ws lv pc (.ref a :: st) := by
  obtain ⟨Cn, T, N, h1, h2, h3, h4⟩ := hf
  exact fun H locs ls hP hD hS hl => va_get C.1 C.2.1 C.2.2.2.2.2.1 h2 C.2.2.2.2.1 C.2.2.2.2.2.2.1 hP q0 he h1 k h3 (C.2.2.2.2.2.1 _ h4) (fun _ h9 => h9) hv hd (kk H locs ls hP hD hS hl)
theorem g_put {a index ci k : Nat} {fs : List Value} {v : Value} {ty : FieldType} (q0 : Nat) (C : CX E X cc own nL rm) (hf : FP own index ci k false ty) (he : ws[q0]? = some (a, .inr (ci, fs))) (hn : narrow ty v = v) (hfit : fits ty v = true) (hl0 : k < fs.length) (hw : ws.set q0 (a, .inr (ci, fs.set k v)) = ws') (hd : decode cc pc = .ok (.putfield index, 3)) (kk : G E X n z ws' lv (pc + 3) st) : G E X n z ws lv pc (v :: .ref a :: st) := by
  obtain ⟨Cn, T, N, ty0, h1, h2, h3, h4, h5, h6, h7, h8, -⟩ := hf
  subst hw
  exact fun H locs ls hP hD hS hl => va_put C.1 C.2.1 C.2.2.2.2.2.1 h2 ty0 h5 h6 C.2.2.2.2.1 C.2.2.2.2.2.2.1 hP hD hS q0 he h1 k h3 (C.2.2.2.2.2.1 _ h4) (fun _ h9 => h9) h7 h8 hn hfit hl0 hd (fun H1 locs1 hP1 hD1 hS1 => kk H1 locs1 ls hP1 hD1 hS1 hl)
theorem nb_int (x : Int32) : narrow .int (.int x) = .int x := rfl
theorem nb_one {x : Int32} (h : x &&& 1 = x) : narrow .boolean (.int x) = .int x := by
  show Value.int (x &&& 1) = _
  rw [h]
end
/-- ws with the cells of w1 at the places is -/
def putAll : va_W → List Nat → va_W → va_W
  | ws, i :: is, q :: qs => putAll (ws.set i q) is qs
  | ws, _, _ => ws
theorem putAll_get : ∀ (is : List Nat) (w1 ws : va_W) (k : Nat) (q : Nat × va_E), (putAll ws is w1)[k]? = some q → is.length = w1.length → (∃ j : Nat, w1[j]? = some q) ∨ (ws[k]? = some q ∧ k ∉ is)
  | [], w1, ws, k, q, h, hl => by
    cases w1 with
    | nil => exact Or.inr ⟨h, List.not_mem_nil⟩
    | cons a t => cases hl
  | i :: is, [], ws, k, q, h, hl => by cases hl
  | i :: is, a :: w1, ws, k, q, h, hl => by
    rcases putAll_get is w1 (ws.set i a) k q h (by simpa using hl) with ⟨j, hj⟩ | ⟨h1, h2⟩
    · exact Or.inl ⟨j + 1, hj⟩
    · by_cases e : i = k
      · subst e
        rw [List.getElem?_set_self'] at h1
        cases hw : ws[i]? with
        | none => rw [hw] at h1; cases h1
        | some b => rw [hw] at h1; exact Or.inl ⟨0, h1⟩
      · rw [List.getElem?_set_ne e] at h1
        exact Or.inr ⟨h1, fun h => (List.mem_cons.mp h).elim (fun e2 => e e2.symm) h2⟩
theorem putAll_len : ∀ (is : List Nat) (w1 ws : va_W), (putAll ws is w1).length = ws.length
  | [], w1, ws => by cases w1 <;> rfl
  | i :: is, [], ws => rfl
  | i :: is, a :: w1, ws => by rw [putAll, putAll_len is w1]; simp
theorem putAll_fst : ∀ (is : List Nat) (wc w1 ws : va_W), is.map (fun i => ws[i]?) = wc.map some → va_nd is = true → w1.map Prod.fst = wc.map Prod.fst → (putAll ws is w1).map Prod.fst = ws.map Prod.fst
  | [], wc, w1, ws, _, _, _ => by cases w1 <;> rfl
  | i :: is, wc, [], ws, _, _, _ => rfl
  | i :: is, [], a :: w1, ws, h, _, hl => by cases hl
  | i :: is, b :: wc, a :: w1, ws, h, hn, hl => by
    have h0 : ws[i]? = some b := (List.cons.inj h).1
    have h1 : is.map (fun i => ws[i]?) = wc.map some := (List.cons.inj h).2
    have e0 : a.1 = b.1 := (List.cons.inj hl).1
    have hn2 : i ∉ is ∧ va_nd is = true := by
      have h9 : va_nd (i :: is) = true := hn
      simpa [va_nd] using h9
    have hset : (ws.set i a).map Prod.fst = ws.map Prod.fst := by
      rw [List.map_set]
      apply List.ext_getElem?
      intro k
      by_cases e : i = k
      · subst e
        rw [List.getElem?_set_self', List.getElem?_map, h0]
        simp [e0]
      · rw [List.getElem?_set_ne e]
    rw [putAll, putAll_fst is wc w1 (ws.set i a) (by
      rw [← h1]
      apply List.map_congr_left
      intro j hj
      exact List.getElem?_set_ne (fun (e : i = j) => hn2.1 (by rw [e]; exact hj))) hn2.2 (List.cons.inj hl).2, hset]
theorem va_D_fst {A : Nat → Prop} {w w' : va_W} (h : va_D A w) (e : w'.map Prod.fst = w.map Prod.fst) : va_D A w' := by
  have key : ∀ (k : Nat) (q : Nat × va_E), w'[k]? = some q → ∃ q0 : Nat × va_E, w[k]? = some q0 ∧ q0.1 = q.1 := fun k q hq => by
    have h1 : (w'.map Prod.fst)[k]? = some q.1 := by rw [List.getElem?_map, hq]; rfl
    rw [e, List.getElem?_map] at h1
    cases hw : w[k]? with
    | none => rw [hw] at h1; cases h1
    | some q0 => rw [hw] at h1; exact ⟨q0, rfl, Option.some.inj h1⟩
  refine ⟨fun i j p q hi hj hpq => ?_, fun k q hq => ?_⟩
  · obtain ⟨p0, a1, a2⟩ := key i p hi
    obtain ⟨q0, b1, b2⟩ := key j q hj
    exact h.1 i j p0 q0 a1 b1 (by rw [a2, b2]; exact hpq)
  · obtain ⟨q0, a1, a2⟩ := key k q hq
    rw [← a2]
    exact h.2 k q0 a1
theorem join_put {A0 : Nat → Prop} {D : va_G} {cl : List vw_C} {ws wc w1 : va_W} {H H1 : Heap} (hP : va_P D cl ws H) (hD : va_D A0 ws) (isC : List Nat) (hC : isC.map (fun i => ws[i]?) = wc.map some) (hn : va_nd isC = true) (hw : w1.map Prod.fst = wc.map Prod.fst)
    (hk : ∀ q : Nat, q < H.size → ¬ va_A wc H.size q → H1[q]? = H[q]?) (hP1 : va_P D cl w1 H1) : va_P D cl (putAll ws isC w1) H1 ∧ va_D A0 (putAll ws isC w1) := by
  have hlen : isC.length = w1.length := by
    have h1 := congrArg List.length hC
    have h2 := congrArg List.length hw
    simp at h1 h2
    omega
  refine ⟨fun k q hq => ?_, va_D_fst hD (putAll_fst isC wc w1 ws hC hn hw)⟩
  rcases putAll_get isC w1 ws k q hq hlen with ⟨j, hj⟩ | ⟨h1, h2⟩
  · exact hP1 j q hj
  · refine (hP k q h1).kept (hk q.1 (hP k q h1).lt ?_)
    rintro (⟨j, e, he⟩ | hge)
    · have hj : (isC.map (fun i => ws[i]?))[j]? = some (some (q.1, e)) := by rw [hC, List.getElem?_map, he]; rfl
      rw [List.getElem?_map] at hj
      cases hi : isC[j]? with
      | none => rw [hi] at hj; cases hj
      | some i =>
        rw [hi] at hj
        have hi2 : ws[i]? = some (q.1, e) := Option.some.inj hj
        have : k = i := hD.1 k i q _ h1 hi2 rfl
        exact h2 (this ▸ List.mem_of_getElem? hi)
    · exact absurd (hP k q h1).lt (Nat.not_lt.mpr hge)
/-- ws with cells of w1 at the places that the tags name -/
def mixL (w1 : va_W) : List (Option Nat) → va_W → va_W
  | none :: t, c :: ws => c :: mixL w1 t ws
  | some j :: t, c :: ws => (w1.getD j c) :: mixL w1 t ws
  | _, ws => ws
def mixOk (isC : List Nat) (tags : List (Option Nat)) (n : Nat) : Bool := (tags.length == n) && (List.range n).all (fun k => match tags.getD k none with | none => !(isC.contains k) | some j => isC[j]? == some k)
theorem mixL_get (w1 : va_W) : ∀ (tags : List (Option Nat)) (ws : va_W) (k : Nat), (mixL w1 tags ws)[k]? = match tags.getD k none with | some j => (ws[k]?).map (fun c => w1.getD j c) | none => ws[k]?
  | [], ws, k => by simp [mixL]
  | none :: t, [], k => by cases k <;> simp [mixL] <;> split <;> rfl
  | some j :: t, [], k => by cases k <;> simp [mixL] <;> split <;> rfl
  | none :: t, c :: ws, 0 => by simp [mixL]
  | some j :: t, c :: ws, 0 => by simp [mixL]
  | none :: t, c :: ws, k + 1 => by simpa [mixL] using mixL_get w1 t ws k
  | some j :: t, c :: ws, k + 1 => by simpa [mixL] using mixL_get w1 t ws k
theorem join_mix {A0 : Nat → Prop} {D : va_G} {cl : List vw_C} {ws wc w1 : va_W} {H H1 : Heap} (hP : va_P D cl ws H) (hD : va_D A0 ws) (isC : List Nat) (hC : isC.map (fun i => ws[i]?) = wc.map some) (tags : List (Option Nat)) (hm : mixOk isC tags ws.length = true) (hw : w1.map Prod.fst = wc.map Prod.fst)
    (hk : ∀ q : Nat, q < H.size → ¬ va_A wc H.size q → H1[q]? = H[q]?) (hP1 : va_P D cl w1 H1) : va_P D cl (mixL w1 tags ws) H1 ∧ va_D A0 (mixL w1 tags ws) := by
  have hm2 : tags.length = ws.length ∧ ∀ k, k < ws.length → (match tags.getD k none with | none => !(isC.contains k) | some j => isC[j]? == some k) = true := by
    have h := hm
    simp only [mixOk, Bool.and_eq_true, beq_iff_eq, List.all_eq_true, List.mem_range] at h
    exact h
  have at_some : ∀ (k j : Nat) (c : Nat × va_E), tags.getD k none = some j → ws[k]? = some c → wc[j]? = some c ∧ ∃ q, w1[j]? = some q ∧ q.1 = c.1 ∧ w1.getD j c = q := fun k j c ht hc => by
    have hlt : k < ws.length := (List.getElem?_eq_some_iff.mp hc).1
    have h1 := hm2.2 k hlt
    rw [ht] at h1
    have h2 : isC[j]? = some k := by simpa using h1
    have h3 : (isC.map (fun i => ws[i]?))[j]? = some (some c) := by rw [List.getElem?_map, h2]; show some (ws[k]?) = _; rw [hc]
    rw [hC, List.getElem?_map] at h3
    have h4 : wc[j]? = some c := by
      cases hx : wc[j]? with
      | none => rw [hx] at h3; cases h3
      | some x => rw [hx] at h3; exact congrArg some (Option.some.inj (Option.some.inj h3))
    have h5 : (w1.map Prod.fst)[j]? = some c.1 := by rw [hw, List.getElem?_map, h4]; rfl
    rw [List.getElem?_map] at h5
    cases hx : w1[j]? with
    | none => rw [hx] at h5; cases h5
    | some q => rw [hx] at h5; exact ⟨h4, q, rfl, Option.some.inj h5, by simp [List.getD, hx]⟩
  refine ⟨fun k q hq => ?_, ?_⟩
  · rw [mixL_get] at hq
    cases ht : tags.getD k none with
    | some j =>
      rw [ht] at hq
      cases hc : ws[k]? with
      | none => rw [hc] at hq; cases hq
      | some c =>
        rw [hc] at hq
        obtain ⟨-, q', a1, -, a3⟩ := at_some k j c ht hc
        have e : w1.getD j c = q := Option.some.inj hq
        exact hP1 j q (by rw [a1, ← e, a3])
    | none =>
      rw [ht] at hq
      have hlt : k < ws.length := (List.getElem?_eq_some_iff.mp hq).1
      have h1 := hm2.2 k hlt
      rw [ht] at h1
      have h2 : k ∉ isC := by simpa using h1
      refine (hP k q hq).kept (hk q.1 (hP k q hq).lt ?_)
      rintro (⟨j, e, he⟩ | hge)
      · have hj : (isC.map (fun i => ws[i]?))[j]? = some (some (q.1, e)) := by rw [hC, List.getElem?_map, he]; rfl
        rw [List.getElem?_map] at hj
        cases hi : isC[j]? with
        | none => rw [hi] at hj; cases hj
        | some i =>
          rw [hi] at hj
          have hi2 : ws[i]? = some (q.1, e) := Option.some.inj hj
          have : k = i := hD.1 k i q _ hq hi2 rfl
          exact h2 (this ▸ List.mem_of_getElem? hi)
      · exact absurd (hP k q hq).lt (Nat.not_lt.mpr hge)
  · refine va_D_fst hD ?_
    apply List.ext_getElem?
    intro k
    rw [List.getElem?_map, List.getElem?_map, mixL_get]
    cases ht : tags.getD k none with
    | none => rfl
    | some j =>
      cases hc : ws[k]? with
      | none => rfl
      | some c =>
        obtain ⟨-, q', -, a2, a3⟩ := at_some k j c ht hc
        show some (w1.getD j c).1 = some c.1
        rw [a3, a2]
/-- what a call names: a method of the receiver's own class -/
def MV (own : String) (index : Nat) (C : String) (y : MethodName) (bytes : ByteArray) (mL : Nat) (ret : Option FieldType) (np : Nat) : Prop :=
  Cond.methodLink own index y ∈ gT ∧ Cond.instanceMethod y ∈ gT ∧ Cond.selects C y y ∈ gT ∧ Cond.initialized C ∈ gT ∧ Cond.code y bytes mL ret ∈ gT ∧ (y.cls = C ∧ y.cls ≠ "java/lang/invoke/MethodHandle" ∧ y.cls ≠ "java/lang/invoke/VarHandle" ∧ (parseMethodDescriptor y.desc).map (fun d => d.parameters.length) = some np)
def MS (own : String) (index : Nat) (y : MethodName) (bytes : ByteArray) (mL : Nat) (ret : Option FieldType) (np : Nat) : Prop :=
  Cond.methodLink own index y ∈ gT ∧ Cond.static y ∈ gT ∧ Cond.initialized y.cls ∈ gT ∧ Cond.code y bytes mL ret ∈ gT ∧ (y.cls ≠ "java/lang/invoke/MethodHandle" ∧ y.cls ≠ "java/lang/invoke/VarHandle" ∧ (parseMethodDescriptor y.desc).map (fun d => d.parameters.length) = some np)
section
variable {E : Ev} {X : Cx} {n z : Nat} {ws ws' wc w1 : va_W} {lv : List (Nat × Value)} {pc : Nat} {st st0 st1 : List Value} {cc : ByteArray} {own : String} {nL : Nat} {rm : Room}
variable {y : MethodName} {bytes : ByteArray} {mL np index : Nat} {ret : Option FieldType} {rm2 : Room} {As : List Value} {rv : Option Value}
theorem g_pre {H : Heap} {locs : List Loc} {av : List Value} (C : CX E X cc own nL rm) (hP : va_P E.2.1 vwCl ws H) (hD : va_D X.A ws) (hS : va_S X.A X.s.heap H locs) (isC : List Nat) (hC : isC.map (fun i => ws[i]?) = wc.map some) (hn : va_nd isC = true) : PreS X.s H (va_Pc av (fun U => U.heap.size = H.size ∧ va_P E.2.1 vwCl wc U.heap ∧ va_K E.2.1 vwCl (tyl E.2.2.1) U ∧ va_D (fun _ => True) wc ∧ ZZ E.2.2.2.1 E.2.2.2.2 (va_A wc H.size) U U.heap)) av ∧ (∀ q, va_A wc H.size q → X.A q) ∧ va_P E.2.1 vwCl wc H := by
  have hFc := va_free (wc := wc) hD hS C.2.2.2.2.2.2.2.2.1 isC hC
  have hDc : va_D X.A wc := hD.sub isC hn hC
  have hPc : va_P E.2.1 vwCl wc H := by
    intro k q hk
    have h1 : (isC.map (fun i => ws[i]?))[k]? = some (some q) := by rw [hC, List.getElem?_map, hk]; rfl
    rw [List.getElem?_map] at h1
    cases hi : isC[k]? with
    | none => rw [hi] at h1; cases h1
    | some i => rw [hi] at h1; exact hP i q (Option.some.inj h1)
  refine ⟨⟨fun a U g mk q => ?_, fun U hU hW => ?_⟩, hFc, hPc⟩
  · obtain ⟨q0, q1, qP, qK, qD, qZ⟩ := q
    exact ⟨q0, q1, qP, va_K.moved (u := U) (U := U.calling g mk a) (Vm.Alike.refl U.vm) qK, qD, qZ.same⟩
  · exact ⟨rfl, by rw [hU], by rw [hU]; exact hPc, va_K.moved hW.alike C.2.2.2.2.2.2.1, hDc.weaken (fun _ _ _ _ => trivial), by rw [hU]; exact C.2.2.2.2.2.2.2.2.2.go hW (fun a h1 h2 => hS.2.1 a h1 h2) hFc⟩
theorem g_after {H : Heap} {locs : List Loc} {ls : Array Slot} {av : List Value} (C : CX E X cc own nL rm) (hP : va_P E.2.1 vwCl ws H) (hD : va_D X.A ws) (hS : va_S X.A X.s.heap H locs) (hl : lv_has ls X.nL lv) (isC : List Nat) (hC : isC.map (fun i => ws[i]?) = wc.map some) (hn : va_nd isC = true) (hw : w1.map Prod.fst = wc.map Prod.fst) (tags : List (Option Nat)) (N9 : Nat) (hm9 : mixOk isC tags N9 = true) (hN9 : ws.length = N9) (hws : mixL w1 tags ws = ws') (hFc : ∀ q, va_A wc H.size q → X.A q) (h0 : rm2.cells = 0 ∧ rm2.slots = 0) (hst1 : rv.toList ++ st = st1)
    (hrun : va_Run X.p E.1 X.e X.R X.s X.m X.args X.below X.meth X.c H locs n z rm2.cells rm2.slots (F0 X.m pc ls st0) st (fun st oc t => oc = .returned rv ∧ va_P E.2.1 vwCl w1 t.heap ∧ va_D (va_A wc H.size) w1 ∧ va_F (va_A wc H.size) st t) (va_A wc H.size))
    (kk : G E X n z ws' lv (pc + 3) st1) : W X.p E.1 X.e X.R X.s X.m X.args X.below X.meth X.c H locs n z X.Q (F0 X.m pc ls st0) := by
  intro T hT Xs
  obtain ⟨v, st₀, t, T', L, h1, X', hL, e1, e2, ⟨hv, hP1, hD1, hz, hk⟩, step⟩ := hrun T hT Xs
  cases hv
  rw [h1] at hz hk
  rw [← e1] at hP1 hz hk
  rw [h0.1, h0.2] at X'
  obtain ⟨hP2, hD2⟩ := join_mix hP hD isC hC tags (by rw [hN9]; exact hm9) hw hk hP1
  rw [hws] at hP2 hD2
  subst hst1
  obtain ⟨t2, a1, b1⟩ := kk T'.heap (locs ++ L) ls hP2 hD2 ⟨Nat.le_trans hS.1 hz, fun q h1 h2 => by rw [hk q (Nat.lt_of_lt_of_le h1 hS.1) (fun z => h2 (hFc q z))]; exact hS.2.1 q h1 h2, fun q hq => by
      rcases List.mem_append.mp hq with h | h
      · exact hS.2.2 q h
      · exact hFc _ (hL q h)⟩ hl T' rfl X'
  exact ⟨t2, step t2 a1, b1⟩
theorem g_callV {b ci N : Nat} {fs : List Value} {T : u_T} {Cn : String} (C : CX E X cc own nL rm) (hm : MV own index Cn y bytes mL ret np) (K : Mt E y bytes mL ret rm2 (.ref b :: As) wc w1 rv) (isC : List Nat) (hC : isC.map (fun i => ws[i]?) = wc.map some) (hn : va_nd isC = true) (hw : w1.map Prod.fst = wc.map Prod.fst) (tags : List (Option Nat)) (N9 : Nat) (hm9 : mixOk isC tags N9 = true) (hN9 : ws.length = N9) (hws : mixL w1 tags ws = ws')
    (q0 : Nat) (he : wc[q0]? = some (b, .inr (ci, fs))) (hc : vwCl[ci]? = some (Cn, T, N)) (hR : rm2.frames + 1 ≤ rm.frames ∧ 8 + (mL + 11) + rm2.locals ≤ rm.locals) (h0 : rm2.cells = 0 ∧ rm2.slots = 0) (hnz : n ≤ rm.cells ∧ z ≤ rm.slots) (hA : As.length = np) (hst : st0 = As.reverse ++ .ref b :: st) (hst1 : rv.toList ++ st = st1) (hW : (st.map fun v => v.category).sum ≤ 8) (hd : decode cc pc = .ok (.invokevirtual index, 3))
    (kk : G E X n z ws' lv (pc + 3) st1) : G E X n z ws lv pc st0 := by
  intro H locs ls hP hD hS hl
  obtain ⟨hpre, hFc, hPc⟩ := g_pre (av := .ref b :: As) C hP hD hS isC hC hn
  obtain ⟨m1, m2, m3, m4, m5, m6⟩ := hm
  have hg : GoodIn gT (wsV own index Cn y (gW y bytes mL ret)) := fun w hw9 => by
    rcases List.mem_append.mp hw9 with h | h
    · simp only [List.mem_cons, List.not_mem_nil, or_false] at h
      rcases h with rfl | rfl | rfl | rfl <;> exact gT_good _ (by assumption)
    · exact gW_good m5 w h
  refine g_after (av := .ref b :: As) C hP hD hS hl isC hC hn hw tags N9 hm9 hN9 hws hFc h0 hst1 ?_ kk
  exact va_runV (own := own) (index := index) (C := Cn) (n := np) ⟨C.1, C.2.1, C.2.2.1, C.2.2.2.2.1, C.2.2.2.2.2.1⟩ (K H.size) (cwV np C.2.2.2.2.2.1 hg rfl rfl rfl m6 (by rw [C.2.2.2.2.2.2.2.1]; exact hR)) ⟨hpre.1, va_recv C.2.2.2.2.2.2.1 hPc hc he, hpre.2⟩ rfl hA (hl.1.trans C.2.2.2.1) hst (lv_room hW) hd (by rw [C.2.2.2.2.2.2.2.1, h0.1, h0.2]; exact hnz)
theorem g_callS (C : CX E X cc own nL rm) (hm : MS own index y bytes mL ret np) (K : Mt E y bytes mL ret rm2 As wc w1 rv) (isC : List Nat) (hC : isC.map (fun i => ws[i]?) = wc.map some) (hn : va_nd isC = true) (hw : w1.map Prod.fst = wc.map Prod.fst) (tags : List (Option Nat)) (N9 : Nat) (hm9 : mixOk isC tags N9 = true) (hN9 : ws.length = N9) (hws : mixL w1 tags ws = ws')
    (hR : rm2.frames + 1 ≤ rm.frames ∧ 8 + (mL + 11) + rm2.locals ≤ rm.locals) (h0 : rm2.cells = 0 ∧ rm2.slots = 0) (hnz : n ≤ rm.cells ∧ z ≤ rm.slots) (hA : As.length = np) (hst : st0 = As.reverse ++ st) (hst1 : rv.toList ++ st = st1) (hW : (st.map fun v => v.category).sum ≤ 8) (hd : decode cc pc = .ok (.invokestatic index, 3))
    (kk : G E X n z ws' lv (pc + 3) st1) : G E X n z ws lv pc st0 := by
  intro H locs ls hP hD hS hl
  obtain ⟨hpre, hFc, hPc⟩ := g_pre (av := As) C hP hD hS isC hC hn
  obtain ⟨m1, m2, m3, m4, m5⟩ := hm
  have hg : GoodIn gT (va_wsS own index y (gW y bytes mL ret)) := fun w hw9 => by
    rcases List.mem_append.mp hw9 with h | h
    · simp only [List.mem_cons, List.not_mem_nil, or_false] at h
      rcases h with rfl | rfl | rfl <;> exact gT_good _ (by assumption)
    · exact gW_good m4 w h
  refine g_after (av := As) C hP hD hS hl isC hC hn hw tags N9 hm9 hN9 hws hFc h0 hst1 ?_ kk
  exact va_runS (own := own) (index := index) (n := np) ⟨C.1, C.2.1, C.2.2.1, C.2.2.2.2.1, C.2.2.2.2.2.1⟩ (K H.size) (va_cwS np C.2.2.2.2.2.1 hg rfl rfl rfl m5 (by rw [C.2.2.2.2.2.2.2.1]; exact hR)) hpre rfl hA (hl.1.trans C.2.2.2.1) hst (lv_room hW) hd (by rw [C.2.2.2.2.2.2.2.1, h0.1, h0.2]; exact hnz)
end
theorem cell_same {cA : ClassId} {k : Nat} {f g : Nat → Int32} (hf : ∀ j, j < k → f j = g j) : vp_cell cA (k, .inl f) = vp_cell cA (k, .inl g) := by
  show arrV cA k (fun j => .int (f j)) = arrV cA k (fun j => .int (g j))
  unfold arrV
  congr 1
  apply congrArg
  funext j
  exact congrArg Value.int (hf j.val j.isLt)
section
variable {E : Ev} {X : Cx} {n z : Nat} {ws ws' : va_W} {lv lv' : List (Nat × Value)} {pc : Nat} {st : List Value} {cc : ByteArray} {own : String} {nL : Nat} {rm : Room}
theorem g_lv (ks : List Nat) (hv : lv_pick lv ks = lv') (kk : G E X n z ws lv' pc st) : G E X n z ws lv pc st := fun H locs ls hP hD hS hl => kk H locs ls hP hD hS (lv_sub hl ks hv)
/-- an array's row counts within its length alone -/
theorem g_same {a k : Nat} {f g : Nat → Int32} (q0 : Nat) (ha : ws[q0]? = some (aI E a k f)) (hf : ∀ j, j < k → f j = g j) (hw : ws.set q0 (aI E a k g) = ws') (kk : G E X n z ws' lv pc st) : G E X n z ws lv pc st := fun H locs ls hP hD hS hl => by
  subst hw
  refine kk H locs ls (hP.set hD ha ?_ (fun _ _ => rfl)) (hD.set ha) hS hl
  have h1 : H[a]? = some (vp_cell (E.2.2.1 0) (k, .inl f)) := hP q0 _ ha
  show H[a]? = some (vp_cell (E.2.2.1 0) (k, .inl g))
  rw [h1, cell_same hf]
/-- System.arraycopy of a whole row of ints -/
theorem g_copy {a b k index : Nat} {f g : Nat → Int32} {m0 : Int32} (q0 q1 : Nat) (C : CX E X cc own nL rm) (hm : Cond.methodLink own index arraycopyName ∈ gT ∧ Cond.native arraycopyName ∈ gT ∧ Cond.static arraycopyName ∈ gT ∧ Cond.initialized "java/lang/System" ∈ gT) (ha : ws[q0]? = some (aI E a k f)) (hb : ws[q1]? = some (aI E b k g)) (h3 : ¬ m0 < 0) (h4 : m0.toNatClampNeg = k) (hw : ws.set q1 (aI E b k f) = ws') (hfr : 1 ≤ rm.frames) (hlo : (st.map fun v => v.category).sum + (nativeFrameWords "java/lang/System" "arraycopy" 5 + 11) ≤ rm.locals) (hd : decode cc pc = .ok (.invokestatic index, 3))
    (kk : G E X n z ws' lv (pc + 3) st) : G E X n z ws lv pc (.int m0 :: .int 0 :: .ref b :: .int 0 :: .ref a :: st) := fun H locs ls hP hD hS hl => by
  obtain ⟨m1, m2, m3, m4⟩ := hm
  refine va_copyi C.1 C.2.1 (by rw [C.2.2.1, hl.1, C.2.2.2.1]) C.2.2.2.2.1 (C.2.2.2.2.2.1 _ m1) (C.2.2.2.2.2.1 _ m2) (C.2.2.2.2.2.1 _ m3) (C.2.2.2.2.2.1 _ m4) C.2.2.2.2.2.2.1 hP hD hS q0 q1 0 0 (ty := .int) ha hb rfl rfl rfl (by decide) (by decide) h3 (by rw [h4]; exact Nat.le_of_eq (Nat.zero_add k)) (by rw [h4]; exact Nat.le_of_eq (Nat.zero_add k)) (fun _ _ => rfl) (by rw [C.2.2.2.2.2.2.2.1]; exact hfr) (by rw [C.2.2.2.2.2.2.2.1]; exact hlo) hd (fun H1 locs1 hP1 hD1 hS1 => ?_)
  have hl2 := (List.getElem?_eq_some_iff.mp hb).1
  refine g_same (f := va_cpy f g (0 : Int32).toNatClampNeg (0 : Int32).toNatClampNeg m0.toNatClampNeg) (g := f) (a := b) (k := k) q1 (List.getElem?_set_self hl2) (fun j hj => ?_) ?_ kk H1 locs1 ls hP1 hD1 hS1 hl
  · show va_cpy f g 0 0 m0.toNatClampNeg j = f j
    rw [h4, pk_cpy_in (Nat.zero_le j) (by omega)]
    exact congrArg f (by omega)
  · rw [List.set_set]; exact hw
end
