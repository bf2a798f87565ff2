abbrev oX0 (a : Nat) (f0 : Nat) (f1 : Nat) (f2 : Int32) (f3 : Int32) : Nat × va_E := (a, .inr (0, [.ref f0, .ref f1, .int f2, .int f3]))
abbrev oX1 (a : Nat) (f0 : Int32) (f1 : Int32) (f2 : Int32) (f3 : Nat) (f4 : Nat) (f5 : Nat) (f6 : Nat) (f7 : Nat) : Nat × va_E := (a, .inr (1, [.int f0, .int f1, .int f2, .ref f3, .ref f4, .ref f5, .ref f6, .ref f7]))
abbrev oX2 (a : Nat) (f0 : Nat) (f1 : Nat) (f2 : Int32) (f3 : Int32) : Nat × va_E := (a, .inr (2, [.ref f0, .ref f1, .int f2, .int f3]))
abbrev oX3 (a : Nat) (f0 : Nat) (f1 : Nat) (f2 : Nat) (f3 : Nat) (f4 : Int32) (f5 : Int32) : Nat × va_E := (a, .inr (3, [.ref f0, .ref f1, .ref f2, .ref f3, .int f4, .int f5]))
abbrev oX4 (a : Nat) (f0 : Nat) (f1 : Nat) (f2 : Int32) : Nat × va_E := (a, .inr (4, [.ref f0, .ref f1, .int f2]))
abbrev oX5 (a : Nat) (f0 : Nat) (f1 : Nat) : Nat × va_E := (a, .inr (5, [.ref f0, .ref f1]))
abbrev oX6 (a : Nat) (f0 : Nat) (f1 : Int32) (f2 : Int32) : Nat × va_E := (a, .inr (6, [.ref f0, .int f1, .int f2]))
abbrev oX7 (a : Nat) (f0 : Int32) (f1 : Nat) (f2 : Nat) (f3 : Nat) : Nat × va_E := (a, .inr (7, [.int f0, .ref f1, .ref f2, .ref f3]))
abbrev oX8 (a : Nat) (f0 : Nat) (f1 : Int32) : Nat × va_E := (a, .inr (8, [.ref f0, .int f1]))
abbrev oX9 (a : Nat) (f0 : Nat) (f1 : Nat) (f2 : Int32) (f3 : Int32) (f4 : Int32) (f5 : Int32) (f6 : Int32) (f7 : Int32) : Nat × va_E := (a, .inr (9, [.ref f0, .ref f1, .int f2, .int f3, .int f4, .int f5, .int f6, .int f7]))
abbrev oX10 (a : Nat) (f0 : Nat) (f1 : Nat) (f2 : Nat) (f3 : Int32) (f4 : Int32) (f5 : Int32) : Nat × va_E := (a, .inr (10, [.ref f0, .ref f1, .ref f2, .int f3, .int f4, .int f5]))
abbrev oX11 (a : Nat) (f0 : Nat) (f1 : Nat) (f2 : Nat) (f3 : Nat) (f4 : Nat) (f5 : Nat) (f6 : Nat) (f7 : Nat) (f8 : Nat) (f9 : Nat) (f10 : Int32) : Nat × va_E := (a, .inr (11, [.ref f0, .ref f1, .ref f2, .ref f3, .ref f4, .ref f5, .ref f6, .ref f7, .ref f8, .ref f9, .int f10]))
abbrev oX12 (a : Nat) (f0 : Nat) (f1 : Nat) (f2 : Nat) (f3 : Int32) (f4 : Int32) (f5 : Nat) (f6 : Int32) (f7 : Int32) (f8 : Int32) (f9 : Int32) (f10 : Nat) (f11 : Int32) (f12 : Int32) (f13 : Int32) (f14 : Int32) (f15 : Int32) (f16 : Int32) (f17 : Int32) (f18 : Int32) (f19 : Nat) (f20 : Nat) (f21 : Int32) (f22 : Int32) (f23 : Int64) (f24 : Int64) (f25 : Int64) (f26 : Nat) (f27 : Nat) (f28 : Nat) (f29 : Nat) (f30 : Nat) (f31 : Int32) (f32 : Nat) : Nat × va_E := (a, .inr (12, [.ref f0, .ref f1, .ref f2, .int f3, .int f4, .ref f5, .int f6, .int f7, .int f8, .int f9, .ref f10, .int f11, .int f12, .int f13, .int f14, .int f15, .int f16, .int f17, .int f18, .ref f19, .ref f20, .int f21, .int f22, .long f23, .long f24, .long f25, .ref f26, .ref f27, .ref f28, .ref f29, .ref f30, .int f31, .ref f32]))
theorem inX0 : ∀ w ∈ u_ws RX0 TX0 4, w ∈ gT := by
  have h : (u_ws RX0 TX0 4).all (fun w => decide (w ∈ lw_tbl) && goodWord w) = true := by decide +kernel
  intro w hw
  have h1 := List.all_eq_true.mp h w hw
  simp only [Bool.and_eq_true, decide_eq_true_eq] at h1
  exact gT_in h1.1 h1.2
theorem inX1 : ∀ w ∈ u_ws RX1 TX1 8, w ∈ gT := by
  have h : (u_ws RX1 TX1 8).all (fun w => decide (w ∈ lw_tbl) && goodWord w) = true := by decide +kernel
  intro w hw
  have h1 := List.all_eq_true.mp h w hw
  simp only [Bool.and_eq_true, decide_eq_true_eq] at h1
  exact gT_in h1.1 h1.2
theorem inX2 : ∀ w ∈ u_ws RX2 TX2 4, w ∈ gT := by
  have h : (u_ws RX2 TX2 4).all (fun w => decide (w ∈ lw_tbl) && goodWord w) = true := by decide +kernel
  intro w hw
  have h1 := List.all_eq_true.mp h w hw
  simp only [Bool.and_eq_true, decide_eq_true_eq] at h1
  exact gT_in h1.1 h1.2
theorem inX3 : ∀ w ∈ u_ws RX3 TX3 6, w ∈ gT := by
  have h : (u_ws RX3 TX3 6).all (fun w => decide (w ∈ lw_tbl) && goodWord w) = true := by decide +kernel
  intro w hw
  have h1 := List.all_eq_true.mp h w hw
  simp only [Bool.and_eq_true, decide_eq_true_eq] at h1
  exact gT_in h1.1 h1.2
theorem inX4 : ∀ w ∈ u_ws RX4 TX4 3, w ∈ gT := by
  have h : (u_ws RX4 TX4 3).all (fun w => decide (w ∈ lw_tbl) && goodWord w) = true := by decide +kernel
  intro w hw
  have h1 := List.all_eq_true.mp h w hw
  simp only [Bool.and_eq_true, decide_eq_true_eq] at h1
  exact gT_in h1.1 h1.2
theorem inX5 : ∀ w ∈ u_ws RX5 TX5 2, w ∈ gT := by
  have h : (u_ws RX5 TX5 2).all (fun w => decide (w ∈ lw_tbl) && goodWord w) = true := by decide +kernel
  intro w hw
  have h1 := List.all_eq_true.mp h w hw
  simp only [Bool.and_eq_true, decide_eq_true_eq] at h1
  exact gT_in h1.1 h1.2
theorem inX6 : ∀ w ∈ u_ws RX6 TX6 3, w ∈ gT := by
  have h : (u_ws RX6 TX6 3).all (fun w => decide (w ∈ lw_tbl) && goodWord w) = true := by decide +kernel
  intro w hw
  have h1 := List.all_eq_true.mp h w hw
  simp only [Bool.and_eq_true, decide_eq_true_eq] at h1
  exact gT_in h1.1 h1.2
theorem inX7 : ∀ w ∈ u_ws RX7 TX7 4, w ∈ gT := by
  have h : (u_ws RX7 TX7 4).all (fun w => decide (w ∈ lw_tbl) && goodWord w) = true := by decide +kernel
  intro w hw
  have h1 := List.all_eq_true.mp h w hw
  simp only [Bool.and_eq_true, decide_eq_true_eq] at h1
  exact gT_in h1.1 h1.2
theorem inX8 : ∀ w ∈ u_ws RX8 TX8 2, w ∈ gT := by
  have h : (u_ws RX8 TX8 2).all (fun w => decide (w ∈ lw_tbl) && goodWord w) = true := by decide +kernel
  intro w hw
  have h1 := List.all_eq_true.mp h w hw
  simp only [Bool.and_eq_true, decide_eq_true_eq] at h1
  exact gT_in h1.1 h1.2
theorem inX9 : ∀ w ∈ u_ws RX9 TX9 8, w ∈ gT := by
  have h : (u_ws RX9 TX9 8).all (fun w => decide (w ∈ lw_tbl) && goodWord w) = true := by decide +kernel
  intro w hw
  have h1 := List.all_eq_true.mp h w hw
  simp only [Bool.and_eq_true, decide_eq_true_eq] at h1
  exact gT_in h1.1 h1.2
theorem inX10 : ∀ w ∈ u_ws RX10 TX10 6, w ∈ gT := by
  have h : (u_ws RX10 TX10 6).all (fun w => decide (w ∈ lw_tbl) && goodWord w) = true := by decide +kernel
  intro w hw
  have h1 := List.all_eq_true.mp h w hw
  simp only [Bool.and_eq_true, decide_eq_true_eq] at h1
  exact gT_in h1.1 h1.2
theorem inX11 : ∀ w ∈ u_ws RX11 TX11 11, w ∈ gT := by
  have h : (u_ws RX11 TX11 11).all (fun w => decide (w ∈ lw_tbl) && goodWord w) = true := by decide +kernel
  intro w hw
  have h1 := List.all_eq_true.mp h w hw
  simp only [Bool.and_eq_true, decide_eq_true_eq] at h1
  exact gT_in h1.1 h1.2
theorem inX12 : ∀ w ∈ u_ws RX12 TX12 33, w ∈ gT := by
  have h : (u_ws RX12 TX12 33).all (fun w => decide (w ∈ lw_tbl) && goodWord w) = true := by decide +kernel
  intro w hw
  have h1 := List.all_eq_true.mp h w hw
  simp only [Bool.and_eq_true, decide_eq_true_eq] at h1
  exact gT_in h1.1 h1.2
def sel {α β γ : Type} (f : α → γ) (g : β → γ) : α ⊕ β → γ
  | .inl a => f a
  | .inr b => g b
theorem o_sel {α β γ : Type} {x : Option (α ⊕ β)} {f : α → Option γ} {g : β → Option γ} {r : γ} (h : (x.bind (fun o => sel f g o)) = some r) : (∃ w, x = some (.inl w) ∧ f w = some r) ∨ (∃ v, x = some (.inr v) ∧ g v = some r) := by
  obtain ⟨o, ho, h⟩ := o_bnd h
  cases o with
  | inl w => exact Or.inl ⟨w, ho, h⟩
  | inr v => exact Or.inr ⟨v, ho, h⟩
theorem sw_n {x : Int32} (j : Nat) (hj : j < 2 ^ 31) (h : ¬ x = nI j) : x.toInt ≠ (j : Int) := fun e => h (Int32.toInt_inj.mp (e.trans (nI_toInt hj).symm))
theorem g_ldcs {E : Ev} {X : Cx} {n z : Nat} {ws : va_W} {lv : List (Nat × Value)} {pc : Nat} {st : List Value} {cc : ByteArray} {own : String} {nL : Nat} {rm : Room} {tx : String} {index q : Nat} (C : CX E X cc own nL rm) (hr : vk_R own index tx q X.s) (hd : decode cc pc = .ok (.ldc index, 2)) (kk : G E X n z ws lv (pc + 2) (.ref q :: st)) : G E X n z ws lv pc st := fun H locs ls hP hD hS hl => va_ldcS C.1 C.2.1 C.2.2.2.2.1 hr hd (kk H locs ls hP hD hS hl)
theorem g_max {E : Ev} {X : Cx} {n z : Nat} {ws : va_W} {lv : List (Nat × Value)} {pc : Nat} {st : List Value} {cc : ByteArray} {own : String} {nL : Nat} {rm : Room} {index : Nat} {x y : Int32} (C : CX E X cc own nL rm) (hm : Cond.methodLink own index Lib.Math.max.name ∈ gT ∧ Cond.static Lib.Math.max.name ∈ gT ∧ Cond.initialized "java/lang/Math" ∈ gT ∧ Cond.code Lib.Math.max.name Lib.Math.max.code 2 (some .int) ∈ gT) (hnz : n ≤ rm.cells ∧ z ≤ rm.slots) (hfr : 1 ≤ rm.frames) (hlo : (st.map fun v => v.category).sum + 13 ≤ rm.locals) (hd : decode cc pc = .ok (.invokestatic index, 3)) (kk : G E X n z ws lv (pc + 3) (.int (if x < y then y else x) :: st)) : G E X n z ws lv pc (.int y :: .int x :: st) := fun H locs ls hP hD hS hl => va_mmax C.1 C.2.1 (by rw [C.2.2.1, hl.1, C.2.2.2.1]) C.2.2.2.2.1 (C.2.2.2.2.2.1 _ hm.1) (C.2.2.2.2.2.1 _ hm.2.1) (C.2.2.2.2.2.1 _ hm.2.2.1) (C.2.2.2.2.2.1 _ hm.2.2.2) (by rw [C.2.2.2.2.2.2.2.1]; exact hfr) (by rw [C.2.2.2.2.2.2.2.1]; exact hlo) (by rw [C.2.2.2.2.2.2.2.1]; exact hnz.1) (by rw [C.2.2.2.2.2.2.2.1]; exact hnz.2) hd (kk H locs ls hP hD hS hl)
theorem kc_X10_65 : Cond.constant RX10 65 1103515245 ∈ gT := tb4 134 rfl rfl
theorem kc_X11_264 : Cond.constantLong RX11 264 (-1) ∈ gT := tb4 38 rfl rfl
theorem kc_X12_111 : Cond.constantLong RX12 111 97 ∈ gT := tb5 99 rfl rfl
theorem kc_X12_113 : Cond.constantLong RX12 113 122 ∈ gT := tb5 100 rfl rfl
theorem kc_X12_115 : Cond.constantLong RX12 115 48 ∈ gT := tb5 101 rfl rfl
theorem kc_X12_117 : Cond.constantLong RX12 117 57 ∈ gT := tb5 102 rfl rfl
theorem kc_X12_214 : Cond.constantLong RX12 214 4 ∈ gT := tb5 212 rfl rfl
theorem kc_X12_219 : Cond.constantLong RX12 219 3 ∈ gT := tb5 233 rfl rfl
theorem kc_X12_221 : Cond.constantLong RX12 221 6 ∈ gT := tb5 234 rfl rfl
theorem kc_X12_229 : Cond.constantLong RX12 229 9 ∈ gT := tb6 6 rfl rfl
theorem kc_X12_231 : Cond.constantLong RX12 231 30 ∈ gT := tb6 15 rfl rfl
theorem kc_X12_236 : Cond.constantLong RX12 236 60 ∈ gT := tb6 27 rfl rfl
theorem kc_X12_260 : Cond.constantLong RX12 260 2 ∈ gT := tb6 86 rfl rfl
theorem kc_X12_276 : Cond.constantLong RX12 276 10 ∈ gT := tb6 91 rfl rfl
theorem kc_X12_278 : Cond.constantLong RX12 278 (-1) ∈ gT := tb6 92 rfl rfl
theorem kc_X12_288 : Cond.constantLong RX12 288 7 ∈ gT := tb6 111 rfl rfl
theorem kc_X12_300 : Cond.constantLong RX12 300 20 ∈ gT := tb6 164 rfl rfl
theorem kc_X12_75 : Cond.constantLong RX12 75 127 ∈ gT := tb5 79 rfl rfl
theorem kc_X5_25 : Cond.constantLong RX5 25 10 ∈ gT := tb4 54 rfl rfl
theorem kc_J6_265 : Cond.constant RJ6 265 1431655765 ∈ gT := tb3 103 rfl rfl
theorem kc_J6_266 : Cond.constant RJ6 266 858993459 ∈ gT := tb3 104 rfl rfl
theorem kc_J6_267 : Cond.constant RJ6 267 252645135 ∈ gT := tb3 105 rfl rfl
theorem kc_X12_293 : Cond.constant RX12 293 1103515245 ∈ gT := tb6 136 rfl rfl
theorem ac_X1_37 : Cond.methodLink RX1 37 arraycopyName ∈ gT ∧ Cond.native arraycopyName ∈ gT ∧ Cond.static arraycopyName ∈ gT ∧ Cond.initialized "java/lang/System" ∈ gT := ⟨tb3 43 rfl rfl, tb3 45 rfl rfl, tb3 44 rfl rfl, tb1 18 rfl rfl⟩
theorem ac_X7_25 : Cond.methodLink RX7 25 arraycopyName ∈ gT ∧ Cond.native arraycopyName ∈ gT ∧ Cond.static arraycopyName ∈ gT ∧ Cond.initialized "java/lang/System" ∈ gT := ⟨tb4 144 rfl rfl, tb3 45 rfl rfl, tb3 44 rfl rfl, tb1 18 rfl rfl⟩
theorem fl_X0_15 : FL RX0 15 0 3 := ⟨_, _, _, rfl, inX0, by decide, tb1 228 rfl rfl⟩
theorem fl_X0_18 : FL RX0 18 0 0 := ⟨_, _, _, rfl, inX0, by decide, tb1 224 rfl rfl⟩
theorem fl_X0_22 : FL RX0 22 0 1 := ⟨_, _, _, rfl, inX0, by decide, tb1 225 rfl rfl⟩
theorem fl_X0_30 : FL RX0 30 1 0 := ⟨_, _, _, rfl, inX1, by decide, tb1 60 rfl rfl⟩
theorem fl_X0_45 : FL RX0 45 1 5 := ⟨_, _, _, rfl, inX1, by decide, tb1 81 rfl rfl⟩
theorem fl_X0_56 : FL RX0 56 1 1 := ⟨_, _, _, rfl, inX1, by decide, tb1 69 rfl rfl⟩
theorem fl_X0_67 : FL RX0 67 1 4 := ⟨_, _, _, rfl, inX1, by decide, tb1 78 rfl rfl⟩
theorem fl_X0_70 : FL RX0 70 1 6 := ⟨_, _, _, rfl, inX1, by decide, tb1 86 rfl rfl⟩
theorem fl_X0_73 : FL RX0 73 10 2 := ⟨_, _, _, rfl, inX10, by decide, tb1 198 rfl rfl⟩
theorem fl_X0_77 : FL RX0 77 10 1 := ⟨_, _, _, rfl, inX10, by decide, tb1 193 rfl rfl⟩
theorem fl_X0_9 : FL RX0 9 0 2 := ⟨_, _, _, rfl, inX0, by decide, tb1 226 rfl rfl⟩
theorem fl_X1_15 : FL RX1 15 1 1 := ⟨_, _, _, rfl, inX1, by decide, tb1 65 rfl rfl⟩
theorem fl_X1_18 : FL RX1 18 1 2 := ⟨_, _, _, rfl, inX1, by decide, tb1 71 rfl rfl⟩
theorem fl_X1_21 : FL RX1 21 1 3 := ⟨_, _, _, rfl, inX1, by decide, tb1 74 rfl rfl⟩
theorem fl_X1_25 : FL RX1 25 1 4 := ⟨_, _, _, rfl, inX1, by decide, tb1 76 rfl rfl⟩
theorem fl_X1_28 : FL RX1 28 1 5 := ⟨_, _, _, rfl, inX1, by decide, tb1 80 rfl rfl⟩
theorem fl_X1_31 : FL RX1 31 1 6 := ⟨_, _, _, rfl, inX1, by decide, tb1 84 rfl rfl⟩
theorem fl_X1_34 : FL RX1 34 1 7 := ⟨_, _, _, rfl, inX1, by decide, tb1 88 rfl rfl⟩
theorem fl_X1_9 : FL RX1 9 1 0 := ⟨_, _, _, rfl, inX1, by decide, tb1 58 rfl rfl⟩
theorem fl_X10_12 : FL RX10 12 10 1 := ⟨_, _, _, rfl, inX10, by decide, tb1 190 rfl rfl⟩
theorem fl_X10_21 : FL RX10 21 10 2 := ⟨_, _, _, rfl, inX10, by decide, tb1 195 rfl rfl⟩
theorem fl_X10_25 : FL RX10 25 10 3 := ⟨_, _, _, rfl, inX10, by decide, tb1 200 rfl rfl⟩
theorem fl_X10_29 : FL RX10 29 10 4 := ⟨_, _, _, rfl, inX10, by decide, tb1 201 rfl rfl⟩
theorem fl_X10_32 : FL RX10 32 10 5 := ⟨_, _, _, rfl, inX10, by decide, tb1 203 rfl rfl⟩
theorem fl_X10_35 : FL RX10 35 10 0 := ⟨_, _, _, rfl, inX10, by decide, tb1 189 rfl rfl⟩
theorem fl_X10_49 : FL RX10 49 2 3 := ⟨_, _, _, rfl, inX2, by decide, tb1 178 rfl rfl⟩
theorem fl_X10_50 : FL RX10 50 2 2 := ⟨_, _, _, rfl, inX2, by decide, tb1 175 rfl rfl⟩
theorem fl_X10_59 : FL RX10 59 1 0 := ⟨_, _, _, rfl, inX1, by decide, tb1 63 rfl rfl⟩
theorem fl_X10_62 : FL RX10 62 1 1 := ⟨_, _, _, rfl, inX1, by decide, tb1 68 rfl rfl⟩
theorem fl_X10_66 : FL RX10 66 1 5 := ⟨_, _, _, rfl, inX1, by decide, tb1 82 rfl rfl⟩
theorem fl_X10_70 : FL RX10 70 1 6 := ⟨_, _, _, rfl, inX1, by decide, tb1 85 rfl rfl⟩
theorem fl_X11_106 : FL RX11 106 9 1 := ⟨_, _, _, rfl, inX9, by decide, tb1 108 rfl rfl⟩
theorem fl_X11_112 : FL RX11 112 7 0 := ⟨_, _, _, rfl, inX7, by decide, tb1 142 rfl rfl⟩
theorem fl_X11_115 : FL RX11 115 4 2 := ⟨_, _, _, rfl, inX4, by decide, tb2 59 rfl rfl⟩
theorem fl_X11_119 : FL RX11 119 9 2 := ⟨_, _, _, rfl, inX9, by decide, tb1 110 rfl rfl⟩
theorem fl_X11_12 : FL RX11 12 11 0 := ⟨_, _, _, rfl, inX11, by decide, tb2 85 rfl rfl⟩
theorem fl_X11_122 : FL RX11 122 1 0 := ⟨_, _, _, rfl, inX1, by decide, tb1 64 rfl rfl⟩
theorem fl_X11_125 : FL RX11 125 1 1 := ⟨_, _, _, rfl, inX1, by decide, tb1 70 rfl rfl⟩
theorem fl_X11_128 : FL RX11 128 1 2 := ⟨_, _, _, rfl, inX1, by decide, tb1 73 rfl rfl⟩
theorem fl_X11_135 : FL RX11 135 2 2 := ⟨_, _, _, rfl, inX2, by decide, tb1 176 rfl rfl⟩
theorem fl_X11_140 : FL RX11 140 2 3 := ⟨_, _, _, rfl, inX2, by decide, tb1 179 rfl rfl⟩
theorem fl_X11_149 : FL RX11 149 1 3 := ⟨_, _, _, rfl, inX1, by decide, tb1 75 rfl rfl⟩
theorem fl_X11_157 : FL RX11 157 2 0 := ⟨_, _, _, rfl, inX2, by decide, tb1 171 rfl rfl⟩
theorem fl_X11_163 : FL RX11 163 2 1 := ⟨_, _, _, rfl, inX2, by decide, tb1 173 rfl rfl⟩
theorem fl_X11_172 : FL RX11 172 1 4 := ⟨_, _, _, rfl, inX1, by decide, tb1 79 rfl rfl⟩
theorem fl_X11_175 : FL RX11 175 1 5 := ⟨_, _, _, rfl, inX1, by decide, tb1 83 rfl rfl⟩
theorem fl_X11_181 : FL RX11 181 1 6 := ⟨_, _, _, rfl, inX1, by decide, tb1 87 rfl rfl⟩
theorem fl_X11_21 : FL RX11 21 11 1 := ⟨_, _, _, rfl, inX11, by decide, tb2 86 rfl rfl⟩
theorem fl_X11_219 : FL RX11 219 10 1 := ⟨_, _, _, rfl, inX10, by decide, tb1 194 rfl rfl⟩
theorem fl_X11_222 : FL RX11 222 10 4 := ⟨_, _, _, rfl, inX10, by decide, tb1 202 rfl rfl⟩
theorem fl_X11_223 : FL RX11 223 10 5 := ⟨_, _, _, rfl, inX10, by decide, tb1 204 rfl rfl⟩
theorem fl_X11_229 : FL RX11 229 10 2 := ⟨_, _, _, rfl, inX10, by decide, tb1 199 rfl rfl⟩
theorem fl_X11_258 : FL RX11 258 0 3 := ⟨_, _, _, rfl, inX0, by decide, tb1 229 rfl rfl⟩
theorem fl_X11_261 : FL RX11 261 0 2 := ⟨_, _, _, rfl, inX0, by decide, tb1 227 rfl rfl⟩
theorem fl_X11_28 : FL RX11 28 11 2 := ⟨_, _, _, rfl, inX11, by decide, tb2 87 rfl rfl⟩
theorem fl_X11_294 : FL RX11 294 3 4 := ⟨_, _, _, rfl, inX3, by decide, tb2 25 rfl rfl⟩
theorem fl_X11_297 : FL RX11 297 3 5 := ⟨_, _, _, rfl, inX3, by decide, tb2 27 rfl rfl⟩
theorem fl_X11_303 : FL RX11 303 4 0 := ⟨_, _, _, rfl, inX4, by decide, tb2 55 rfl rfl⟩
theorem fl_X11_304 : FL RX11 304 4 1 := ⟨_, _, _, rfl, inX4, by decide, tb2 57 rfl rfl⟩
theorem fl_X11_311 : FL RX11 311 6 1 := ⟨_, _, _, rfl, inX6, by decide, tb2 75 rfl rfl⟩
theorem fl_X11_322 : FL RX11 322 6 0 := ⟨_, _, _, rfl, inX6, by decide, tb2 73 rfl rfl⟩
theorem fl_X11_332 : FL RX11 332 6 2 := ⟨_, _, _, rfl, inX6, by decide, tb2 77 rfl rfl⟩
theorem fl_X11_35 : FL RX11 35 11 3 := ⟨_, _, _, rfl, inX11, by decide, tb2 88 rfl rfl⟩
theorem fl_X11_44 : FL RX11 44 11 4 := ⟨_, _, _, rfl, inX11, by decide, tb2 89 rfl rfl⟩
theorem fl_X11_53 : FL RX11 53 11 5 := ⟨_, _, _, rfl, inX11, by decide, tb2 90 rfl rfl⟩
theorem fl_X11_60 : FL RX11 60 11 6 := ⟨_, _, _, rfl, inX11, by decide, tb2 91 rfl rfl⟩
theorem fl_X11_69 : FL RX11 69 11 7 := ⟨_, _, _, rfl, inX11, by decide, tb2 92 rfl rfl⟩
theorem fl_X11_75 : FL RX11 75 11 8 := ⟨_, _, _, rfl, inX11, by decide, tb2 93 rfl rfl⟩
theorem fl_X11_81 : FL RX11 81 11 9 := ⟨_, _, _, rfl, inX11, by decide, tb2 94 rfl rfl⟩
theorem fl_X11_85 : FL RX11 85 11 10 := ⟨_, _, _, rfl, inX11, by decide, tb2 95 rfl rfl⟩
theorem fl_X11_99 : FL RX11 99 8 1 := ⟨_, _, _, rfl, inX8, by decide, tb1 38 rfl rfl⟩
theorem fl_X12_108 : FL RX12 108 12 14 := ⟨_, _, _, rfl, inX12, by decide, tb4 228 rfl rfl⟩
theorem fl_X12_119 : FL RX12 119 12 15 := ⟨_, _, _, rfl, inX12, by decide, tb4 229 rfl rfl⟩
theorem fl_X12_13 : FL RX12 13 12 1 := ⟨_, _, _, rfl, inX12, by decide, tb4 215 rfl rfl⟩
theorem fl_X12_150 : FL RX12 150 12 18 := ⟨_, _, _, rfl, inX12, by decide, tb4 232 rfl rfl⟩
theorem fl_X12_16 : FL RX12 16 12 2 := ⟨_, _, _, rfl, inX12, by decide, tb4 216 rfl rfl⟩
theorem fl_X12_180 : FL RX12 180 12 21 := ⟨_, _, _, rfl, inX12, by decide, tb4 235 rfl rfl⟩
theorem fl_X12_183 : FL RX12 183 12 22 := ⟨_, _, _, rfl, inX12, by decide, tb4 236 rfl rfl⟩
theorem fl_X12_20 : FL RX12 20 12 5 := ⟨_, _, _, rfl, inX12, by decide, tb4 219 rfl rfl⟩
theorem fl_X12_23 : FL RX12 23 12 10 := ⟨_, _, _, rfl, inX12, by decide, tb4 224 rfl rfl⟩
theorem fl_X12_26 : FL RX12 26 12 19 := ⟨_, _, _, rfl, inX12, by decide, tb4 233 rfl rfl⟩
theorem fl_X12_266 : FL RX12 266 12 23 := ⟨_, _, _, rfl, inX12, by decide, tb4 237 rfl rfl⟩
theorem fl_X12_270 : FL RX12 270 12 24 := ⟨_, _, _, rfl, inX12, by decide, tb4 238 rfl rfl⟩
theorem fl_X12_273 : FL RX12 273 12 25 := ⟨_, _, _, rfl, inX12, by decide, tb4 239 rfl rfl⟩
theorem fl_X12_29 : FL RX12 29 12 20 := ⟨_, _, _, rfl, inX12, by decide, tb4 234 rfl rfl⟩
theorem fl_X12_305 : FL RX12 305 12 31 := ⟨_, _, _, rfl, inX12, by decide, tb5 5 rfl rfl⟩
theorem fl_X12_32 : FL RX12 32 12 26 := ⟨_, _, _, rfl, inX12, by decide, tb5 0 rfl rfl⟩
theorem fl_X12_35 : FL RX12 35 12 27 := ⟨_, _, _, rfl, inX12, by decide, tb5 1 rfl rfl⟩
theorem fl_X12_38 : FL RX12 38 12 28 := ⟨_, _, _, rfl, inX12, by decide, tb5 2 rfl rfl⟩
theorem fl_X12_41 : FL RX12 41 12 29 := ⟨_, _, _, rfl, inX12, by decide, tb5 3 rfl rfl⟩
theorem fl_X12_44 : FL RX12 44 12 30 := ⟨_, _, _, rfl, inX12, by decide, tb5 4 rfl rfl⟩
theorem fl_X12_47 : FL RX12 47 12 32 := ⟨_, _, _, rfl, inX12, by decide, tb5 6 rfl rfl⟩
theorem fl_X12_56 : FL RX12 56 12 6 := ⟨_, _, _, rfl, inX12, by decide, tb4 220 rfl rfl⟩
theorem fl_X12_60 : FL RX12 60 12 7 := ⟨_, _, _, rfl, inX12, by decide, tb4 221 rfl rfl⟩
theorem fl_X12_63 : FL RX12 63 12 8 := ⟨_, _, _, rfl, inX12, by decide, tb4 222 rfl rfl⟩
theorem fl_X12_66 : FL RX12 66 12 9 := ⟨_, _, _, rfl, inX12, by decide, tb4 223 rfl rfl⟩
theorem fl_X12_69 : FL RX12 69 12 3 := ⟨_, _, _, rfl, inX12, by decide, tb4 217 rfl rfl⟩
theorem fl_X12_7 : FL RX12 7 12 0 := ⟨_, _, _, rfl, inX12, by decide, tb4 214 rfl rfl⟩
theorem fl_X12_72 : FL RX12 72 12 4 := ⟨_, _, _, rfl, inX12, by decide, tb4 218 rfl rfl⟩
theorem fl_X12_81 : FL RX12 81 12 11 := ⟨_, _, _, rfl, inX12, by decide, tb4 225 rfl rfl⟩
theorem fl_X12_84 : FL RX12 84 12 16 := ⟨_, _, _, rfl, inX12, by decide, tb4 230 rfl rfl⟩
theorem fl_X12_87 : FL RX12 87 12 13 := ⟨_, _, _, rfl, inX12, by decide, tb4 227 rfl rfl⟩
theorem fl_X12_90 : FL RX12 90 12 17 := ⟨_, _, _, rfl, inX12, by decide, tb4 231 rfl rfl⟩
theorem fl_X12_93 : FL RX12 93 12 12 := ⟨_, _, _, rfl, inX12, by decide, tb4 226 rfl rfl⟩
theorem fl_X2_15 : FL RX2 15 2 1 := ⟨_, _, _, rfl, inX2, by decide, tb1 172 rfl rfl⟩
theorem fl_X2_18 : FL RX2 18 2 2 := ⟨_, _, _, rfl, inX2, by decide, tb1 174 rfl rfl⟩
theorem fl_X2_22 : FL RX2 22 2 3 := ⟨_, _, _, rfl, inX2, by decide, tb1 177 rfl rfl⟩
theorem fl_X2_25 : FL RX2 25 1 0 := ⟨_, _, _, rfl, inX1, by decide, tb1 59 rfl rfl⟩
theorem fl_X2_34 : FL RX2 34 1 2 := ⟨_, _, _, rfl, inX1, by decide, tb1 72 rfl rfl⟩
theorem fl_X2_9 : FL RX2 9 2 0 := ⟨_, _, _, rfl, inX2, by decide, tb1 169 rfl rfl⟩
theorem fl_X3_11 : FL RX3 11 3 3 := ⟨_, _, _, rfl, inX3, by decide, tb2 23 rfl rfl⟩
theorem fl_X3_20 : FL RX3 20 3 5 := ⟨_, _, _, rfl, inX3, by decide, tb2 26 rfl rfl⟩
theorem fl_X3_23 : FL RX3 23 3 0 := ⟨_, _, _, rfl, inX3, by decide, tb2 20 rfl rfl⟩
theorem fl_X3_27 : FL RX3 27 3 1 := ⟨_, _, _, rfl, inX3, by decide, tb2 21 rfl rfl⟩
theorem fl_X3_31 : FL RX3 31 3 2 := ⟨_, _, _, rfl, inX3, by decide, tb2 22 rfl rfl⟩
theorem fl_X3_41 : FL RX3 41 1 4 := ⟨_, _, _, rfl, inX1, by decide, tb1 77 rfl rfl⟩
theorem fl_X3_71 : FL RX3 71 1 0 := ⟨_, _, _, rfl, inX1, by decide, tb1 62 rfl rfl⟩
theorem fl_X3_83 : FL RX3 83 10 2 := ⟨_, _, _, rfl, inX10, by decide, tb1 197 rfl rfl⟩
theorem fl_X3_87 : FL RX3 87 10 1 := ⟨_, _, _, rfl, inX10, by decide, tb1 192 rfl rfl⟩
theorem fl_X3_96 : FL RX3 96 2 0 := ⟨_, _, _, rfl, inX2, by decide, tb1 170 rfl rfl⟩
theorem fl_X5_15 : FL RX5 15 5 1 := ⟨_, _, _, rfl, inX5, by decide, tb2 6 rfl rfl⟩
theorem fl_X5_19 : FL RX5 19 1 1 := ⟨_, _, _, rfl, inX1, by decide, tb1 66 rfl rfl⟩
theorem fl_X5_33 : FL RX5 33 10 1 := ⟨_, _, _, rfl, inX10, by decide, tb1 191 rfl rfl⟩
theorem fl_X5_40 : FL RX5 40 10 2 := ⟨_, _, _, rfl, inX10, by decide, tb1 196 rfl rfl⟩
theorem fl_X5_9 : FL RX5 9 5 0 := ⟨_, _, _, rfl, inX5, by decide, tb2 5 rfl rfl⟩
theorem fl_X6_15 : FL RX6 15 6 1 := ⟨_, _, _, rfl, inX6, by decide, tb2 74 rfl rfl⟩
theorem fl_X6_19 : FL RX6 19 6 2 := ⟨_, _, _, rfl, inX6, by decide, tb2 76 rfl rfl⟩
theorem fl_X6_9 : FL RX6 9 6 0 := ⟨_, _, _, rfl, inX6, by decide, tb2 72 rfl rfl⟩
theorem fl_X7_15 : FL RX7 15 7 1 := ⟨_, _, _, rfl, inX7, by decide, tb1 143 rfl rfl⟩
theorem fl_X7_19 : FL RX7 19 7 2 := ⟨_, _, _, rfl, inX7, by decide, tb1 144 rfl rfl⟩
theorem fl_X7_22 : FL RX7 22 7 3 := ⟨_, _, _, rfl, inX7, by decide, tb1 145 rfl rfl⟩
theorem fl_X7_9 : FL RX7 9 7 0 := ⟨_, _, _, rfl, inX7, by decide, tb1 141 rfl rfl⟩
theorem fl_X8_15 : FL RX8 15 8 1 := ⟨_, _, _, rfl, inX8, by decide, tb1 37 rfl rfl⟩
theorem fl_X8_9 : FL RX8 9 8 0 := ⟨_, _, _, rfl, inX8, by decide, tb1 35 rfl rfl⟩
theorem fl_X9_106 : FL RX9 106 8 0 := ⟨_, _, _, rfl, inX8, by decide, tb1 36 rfl rfl⟩
theorem fl_X9_12 : FL RX9 12 9 1 := ⟨_, _, _, rfl, inX9, by decide, tb1 107 rfl rfl⟩
theorem fl_X9_22 : FL RX9 22 9 3 := ⟨_, _, _, rfl, inX9, by decide, tb1 111 rfl rfl⟩
theorem fl_X9_25 : FL RX9 25 9 4 := ⟨_, _, _, rfl, inX9, by decide, tb1 112 rfl rfl⟩
theorem fl_X9_28 : FL RX9 28 9 5 := ⟨_, _, _, rfl, inX9, by decide, tb1 113 rfl rfl⟩
theorem fl_X9_31 : FL RX9 31 9 6 := ⟨_, _, _, rfl, inX9, by decide, tb1 114 rfl rfl⟩
theorem fl_X9_34 : FL RX9 34 9 7 := ⟨_, _, _, rfl, inX9, by decide, tb1 115 rfl rfl⟩
theorem fl_X9_37 : FL RX9 37 9 0 := ⟨_, _, _, rfl, inX9, by decide, tb1 106 rfl rfl⟩
theorem fl_X9_54 : FL RX9 54 8 1 := ⟨_, _, _, rfl, inX8, by decide, tb1 39 rfl rfl⟩
theorem fl_X9_83 : FL RX9 83 1 0 := ⟨_, _, _, rfl, inX1, by decide, tb1 61 rfl rfl⟩
theorem fl_X9_96 : FL RX9 96 1 1 := ⟨_, _, _, rfl, inX1, by decide, tb1 67 rfl rfl⟩
theorem fp_X0_15 : FP RX0 15 0 3 false .int := ⟨_, _, _, tyX0, rfl, inX0, by decide, tb1 228 rfl rfl, tyX0_ok, nmX0, rfl, by decide +kernel, fun h => by cases h⟩
theorem fp_X0_9 : FP RX0 9 0 2 false .int := ⟨_, _, _, tyX0, rfl, inX0, by decide, tb1 226 rfl rfl, tyX0_ok, nmX0, rfl, by decide +kernel, fun h => by cases h⟩
theorem fp_X1_15 : FP RX1 15 1 1 false .int := ⟨_, _, _, tyX1, rfl, inX1, by decide, tb1 65 rfl rfl, tyX1_ok, nmX1, rfl, by decide +kernel, fun h => by cases h⟩
theorem fp_X1_18 : FP RX1 18 1 2 false .int := ⟨_, _, _, tyX1, rfl, inX1, by decide, tb1 71 rfl rfl, tyX1_ok, nmX1, rfl, by decide +kernel, fun h => by cases h⟩
theorem fp_X1_9 : FP RX1 9 1 0 false .int := ⟨_, _, _, tyX1, rfl, inX1, by decide, tb1 58 rfl rfl, tyX1_ok, nmX1, rfl, by decide +kernel, fun h => by cases h⟩
theorem fp_X10_25 : FP RX10 25 10 3 false .int := ⟨_, _, _, tyX10, rfl, inX10, by decide, tb1 200 rfl rfl, tyX10_ok, nmX10, rfl, by decide +kernel, fun h => by cases h⟩
theorem fp_X10_29 : FP RX10 29 10 4 false .int := ⟨_, _, _, tyX10, rfl, inX10, by decide, tb1 201 rfl rfl, tyX10_ok, nmX10, rfl, by decide +kernel, fun h => by cases h⟩
theorem fp_X10_32 : FP RX10 32 10 5 false .int := ⟨_, _, _, tyX10, rfl, inX10, by decide, tb1 203 rfl rfl, tyX10_ok, nmX10, rfl, by decide +kernel, fun h => by cases h⟩
theorem fp_X11_112 : FP RX11 112 7 0 false .int := ⟨_, _, _, tyX7, rfl, inX7, by decide, tb1 142 rfl rfl, tyX7_ok, nmX7, rfl, by decide +kernel, fun h => by cases h⟩
theorem fp_X11_115 : FP RX11 115 4 2 false .boolean := ⟨_, _, _, tyX4, rfl, inX4, by decide, tb2 59 rfl rfl, tyX4_ok, nmX4, rfl, by decide +kernel, fun h => by cases h⟩
theorem fp_X11_85 : FP RX11 85 11 10 false .int := ⟨_, _, _, tyX11, rfl, inX11, by decide, tb2 95 rfl rfl, tyX11_ok, nmX11, rfl, by decide +kernel, fun h => by cases h⟩
theorem fp_X11_99 : FP RX11 99 8 1 false .int := ⟨_, _, _, tyX8, rfl, inX8, by decide, tb1 38 rfl rfl, tyX8_ok, nmX8, rfl, by decide +kernel, fun h => by cases h⟩
theorem fp_X12_108 : FP RX12 108 12 14 false .int := ⟨_, _, _, tyX12, rfl, inX12, by decide, tb4 228 rfl rfl, tyX12_ok, nmX12, rfl, by decide +kernel, fun h => by cases h⟩
theorem fp_X12_119 : FP RX12 119 12 15 false .int := ⟨_, _, _, tyX12, rfl, inX12, by decide, tb4 229 rfl rfl, tyX12_ok, nmX12, rfl, by decide +kernel, fun h => by cases h⟩
theorem fp_X12_150 : FP RX12 150 12 18 false .int := ⟨_, _, _, tyX12, rfl, inX12, by decide, tb4 232 rfl rfl, tyX12_ok, nmX12, rfl, by decide +kernel, fun h => by cases h⟩
theorem fp_X12_180 : FP RX12 180 12 21 false .int := ⟨_, _, _, tyX12, rfl, inX12, by decide, tb4 235 rfl rfl, tyX12_ok, nmX12, rfl, by decide +kernel, fun h => by cases h⟩
theorem fp_X12_183 : FP RX12 183 12 22 false .int := ⟨_, _, _, tyX12, rfl, inX12, by decide, tb4 236 rfl rfl, tyX12_ok, nmX12, rfl, by decide +kernel, fun h => by cases h⟩
theorem fp_X12_266 : FP RX12 266 12 23 false .long := ⟨_, _, _, tyX12, rfl, inX12, by decide, tb4 237 rfl rfl, tyX12_ok, nmX12, rfl, by decide +kernel, fun h => by cases h⟩
theorem fp_X12_270 : FP RX12 270 12 24 false .long := ⟨_, _, _, tyX12, rfl, inX12, by decide, tb4 238 rfl rfl, tyX12_ok, nmX12, rfl, by decide +kernel, fun h => by cases h⟩
theorem fp_X12_273 : FP RX12 273 12 25 false .long := ⟨_, _, _, tyX12, rfl, inX12, by decide, tb4 239 rfl rfl, tyX12_ok, nmX12, rfl, by decide +kernel, fun h => by cases h⟩
theorem fp_X12_305 : FP RX12 305 12 31 false .int := ⟨_, _, _, tyX12, rfl, inX12, by decide, tb5 5 rfl rfl, tyX12_ok, nmX12, rfl, by decide +kernel, fun h => by cases h⟩
theorem fp_X12_56 : FP RX12 56 12 6 false .int := ⟨_, _, _, tyX12, rfl, inX12, by decide, tb4 220 rfl rfl, tyX12_ok, nmX12, rfl, by decide +kernel, fun h => by cases h⟩
theorem fp_X12_60 : FP RX12 60 12 7 false .int := ⟨_, _, _, tyX12, rfl, inX12, by decide, tb4 221 rfl rfl, tyX12_ok, nmX12, rfl, by decide +kernel, fun h => by cases h⟩
theorem fp_X12_63 : FP RX12 63 12 8 false .int := ⟨_, _, _, tyX12, rfl, inX12, by decide, tb4 222 rfl rfl, tyX12_ok, nmX12, rfl, by decide +kernel, fun h => by cases h⟩
theorem fp_X12_66 : FP RX12 66 12 9 false .int := ⟨_, _, _, tyX12, rfl, inX12, by decide, tb4 223 rfl rfl, tyX12_ok, nmX12, rfl, by decide +kernel, fun h => by cases h⟩
theorem fp_X12_69 : FP RX12 69 12 3 false .int := ⟨_, _, _, tyX12, rfl, inX12, by decide, tb4 217 rfl rfl, tyX12_ok, nmX12, rfl, by decide +kernel, fun h => by cases h⟩
theorem fp_X12_72 : FP RX12 72 12 4 false .int := ⟨_, _, _, tyX12, rfl, inX12, by decide, tb4 218 rfl rfl, tyX12_ok, nmX12, rfl, by decide +kernel, fun h => by cases h⟩
theorem fp_X12_81 : FP RX12 81 12 11 false .int := ⟨_, _, _, tyX12, rfl, inX12, by decide, tb4 225 rfl rfl, tyX12_ok, nmX12, rfl, by decide +kernel, fun h => by cases h⟩
theorem fp_X12_84 : FP RX12 84 12 16 false .int := ⟨_, _, _, tyX12, rfl, inX12, by decide, tb4 230 rfl rfl, tyX12_ok, nmX12, rfl, by decide +kernel, fun h => by cases h⟩
theorem fp_X12_87 : FP RX12 87 12 13 false .int := ⟨_, _, _, tyX12, rfl, inX12, by decide, tb4 227 rfl rfl, tyX12_ok, nmX12, rfl, by decide +kernel, fun h => by cases h⟩
theorem fp_X12_90 : FP RX12 90 12 17 false .int := ⟨_, _, _, tyX12, rfl, inX12, by decide, tb4 231 rfl rfl, tyX12_ok, nmX12, rfl, by decide +kernel, fun h => by cases h⟩
theorem fp_X12_93 : FP RX12 93 12 12 false .int := ⟨_, _, _, tyX12, rfl, inX12, by decide, tb4 226 rfl rfl, tyX12_ok, nmX12, rfl, by decide +kernel, fun h => by cases h⟩
theorem fp_X2_18 : FP RX2 18 2 2 false .int := ⟨_, _, _, tyX2, rfl, inX2, by decide, tb1 174 rfl rfl, tyX2_ok, nmX2, rfl, by decide +kernel, fun h => by cases h⟩
theorem fp_X2_22 : FP RX2 22 2 3 false .int := ⟨_, _, _, tyX2, rfl, inX2, by decide, tb1 177 rfl rfl, tyX2_ok, nmX2, rfl, by decide +kernel, fun h => by cases h⟩
theorem fp_X2_34 : FP RX2 34 1 2 false .int := ⟨_, _, _, tyX1, rfl, inX1, by decide, tb1 72 rfl rfl, tyX1_ok, nmX1, rfl, by decide +kernel, fun h => by cases h⟩
theorem fp_X3_16 : FP RX3 16 3 4 false .int := ⟨_, _, _, tyX3, rfl, inX3, by decide, tb2 24 rfl rfl, tyX3_ok, nmX3, rfl, by decide +kernel, fun h => by cases h⟩
theorem fp_X3_20 : FP RX3 20 3 5 false .int := ⟨_, _, _, tyX3, rfl, inX3, by decide, tb2 26 rfl rfl, tyX3_ok, nmX3, rfl, by decide +kernel, fun h => by cases h⟩
theorem fp_X6_15 : FP RX6 15 6 1 false .int := ⟨_, _, _, tyX6, rfl, inX6, by decide, tb2 74 rfl rfl, tyX6_ok, nmX6, rfl, by decide +kernel, fun h => by cases h⟩
theorem fp_X6_19 : FP RX6 19 6 2 false .int := ⟨_, _, _, tyX6, rfl, inX6, by decide, tb2 76 rfl rfl, tyX6_ok, nmX6, rfl, by decide +kernel, fun h => by cases h⟩
theorem fp_X7_9 : FP RX7 9 7 0 false .int := ⟨_, _, _, tyX7, rfl, inX7, by decide, tb1 141 rfl rfl, tyX7_ok, nmX7, rfl, by decide +kernel, fun h => by cases h⟩
theorem fp_X8_15 : FP RX8 15 8 1 false .int := ⟨_, _, _, tyX8, rfl, inX8, by decide, tb1 37 rfl rfl, tyX8_ok, nmX8, rfl, by decide +kernel, fun h => by cases h⟩
theorem fp_X9_18 : FP RX9 18 9 2 false .int := ⟨_, _, _, tyX9, rfl, inX9, by decide, tb1 109 rfl rfl, tyX9_ok, nmX9, rfl, by decide +kernel, fun h => by cases h⟩
theorem fp_X9_22 : FP RX9 22 9 3 false .int := ⟨_, _, _, tyX9, rfl, inX9, by decide, tb1 111 rfl rfl, tyX9_ok, nmX9, rfl, by decide +kernel, fun h => by cases h⟩
theorem fp_X9_25 : FP RX9 25 9 4 false .int := ⟨_, _, _, tyX9, rfl, inX9, by decide, tb1 112 rfl rfl, tyX9_ok, nmX9, rfl, by decide +kernel, fun h => by cases h⟩
theorem fp_X9_28 : FP RX9 28 9 5 false .int := ⟨_, _, _, tyX9, rfl, inX9, by decide, tb1 113 rfl rfl, tyX9_ok, nmX9, rfl, by decide +kernel, fun h => by cases h⟩
theorem fp_X9_31 : FP RX9 31 9 6 false .int := ⟨_, _, _, tyX9, rfl, inX9, by decide, tb1 114 rfl rfl, tyX9_ok, nmX9, rfl, by decide +kernel, fun h => by cases h⟩
theorem fp_X9_34 : FP RX9 34 9 7 false .int := ⟨_, _, _, tyX9, rfl, inX9, by decide, tb1 115 rfl rfl, tyX9_ok, nmX9, rfl, by decide +kernel, fun h => by cases h⟩
theorem mx_X3_78 : Cond.methodLink RX3 78 Lib.Math.max.name ∈ gT ∧ Cond.static Lib.Math.max.name ∈ gT ∧ Cond.initialized "java/lang/Math" ∈ gT ∧ Cond.code Lib.Math.max.name Lib.Math.max.code 2 (some .int) ∈ gT := ⟨tb4 125 rfl rfl, tb4 86 rfl rfl, tb1 20 rfl rfl, tb4 87 rfl rfl⟩
theorem mx_X7_31 : Cond.methodLink RX7 31 Lib.Math.max.name ∈ gT ∧ Cond.static Lib.Math.max.name ∈ gT ∧ Cond.initialized "java/lang/Math" ∈ gT ∧ Cond.code Lib.Math.max.name Lib.Math.max.code 2 (some .int) ∈ gT := ⟨tb4 85 rfl rfl, tb4 86 rfl rfl, tb1 20 rfl rfl, tb4 87 rfl rfl⟩
theorem ms_X1_51 : MS RX1 51 yJ6_bitCount_0f7a4 cJ6_bitCount_0f7a4 1 (some .int) 1 := ⟨tb3 100 rfl rfl, tb3 101 rfl rfl, tb1 19 rfl rfl, tb3 102 rfl rfl, by decide +kernel⟩
theorem ms_X1_64 : MS RX1 64 yX1_warmed cX1_warmed 5 (some .int) 3 := ⟨tb3 106 rfl rfl, tb3 107 rfl rfl, tb1 4 rfl rfl, tb3 108 rfl rfl, by decide +kernel⟩
theorem ms_X10_53 : MS RX10 53 yJ6_bitCount_0f7a4 cJ6_bitCount_0f7a4 1 (some .int) 1 := ⟨tb3 178 rfl rfl, tb3 101 rfl rfl, tb1 19 rfl rfl, tb3 102 rfl rfl, by decide +kernel⟩
theorem ms_X11_160 : MS RX11 160 yX11_hourOrNone cX11_hourOrNone 1 (some .int) 1 := ⟨tb3 122 rfl rfl, tb3 123 rfl rfl, tb1 1 rfl rfl, tb3 124 rfl rfl, by decide +kernel⟩
theorem ms_X11_178 : MS RX11 178 yX11_houseOrNone cX11_houseOrNone 1 (some .int) 1 := ⟨tb3 134 rfl rfl, tb3 135 rfl rfl, tb1 1 rfl rfl, tb3 136 rfl rfl, by decide +kernel⟩
theorem ms_X11_194 : MS RX11 194 yX11_exchange cX11_exchange 4 (some .int) 3 := ⟨tb3 154 rfl rfl, tb3 155 rfl rfl, tb1 1 rfl rfl, tb3 156 rfl rfl, by decide +kernel⟩
theorem ms_X11_274 : MS RX11 274 yX11_partOfFraction cX11_partOfFraction 7 (some .long) 3 := ⟨tb4 55 rfl rfl, tb4 56 rfl rfl, tb1 1 rfl rfl, tb4 57 rfl rfl, by decide +kernel⟩
theorem ms_X11_336 : MS RX11 336 yX11_greatestDivisor cX11_greatestDivisor 11 (some .long) 2 := ⟨tb4 58 rfl rfl, tb4 59 rfl rfl, tb1 1 rfl rfl, tb4 60 rfl rfl, by decide +kernel⟩
theorem ms_X11_91 : MS RX11 91 yX11_outside cX11_outside 2 (some .boolean) 2 := ⟨tb2 123 rfl rfl, tb2 124 rfl rfl, tb1 1 rfl rfl, tb2 125 rfl rfl, by decide +kernel⟩
theorem ms_X12_159 : MS RX12 159 yX12_lesser cX12_lesser 2 (some .int) 2 := ⟨tb5 193 rfl rfl, tb5 194 rfl rfl, tb1 13 rfl rfl, tb5 195 rfl rfl, by decide +kernel⟩
theorem ms_X12_166 : MS RX12 166 yX12_flag cX12_flag 1 (some .int) 1 := ⟨tb5 187 rfl rfl, tb5 188 rfl rfl, tb1 13 rfl rfl, tb5 189 rfl rfl, by decide +kernel⟩
theorem ms_X12_176 : MS RX12 176 yX12_warmed cX12_warmed 5 (some .int) 3 := ⟨tb5 190 rfl rfl, tb5 191 rfl rfl, tb1 13 rfl rfl, tb5 192 rfl rfl, by decide +kernel⟩
theorem ms_X12_223 : MS RX12 223 yX12_asKept cX12_asKept 1 (some .int) 1 := ⟨tb5 235 rfl rfl, tb5 236 rfl rfl, tb1 13 rfl rfl, tb5 237 rfl rfl, by decide +kernel⟩
theorem ms_X12_238 : MS RX12 238 yX12_isFar cX12_isFar 1 (some .boolean) 1 := ⟨tb6 24 rfl rfl, tb6 25 rfl rfl, tb1 13 rfl rfl, tb6 26 rfl rfl, by decide +kernel⟩
theorem ms_X12_244 : MS RX12 244 yX12_isPart cX12_isPart 1 (some .boolean) 1 := ⟨tb6 44 rfl rfl, tb6 45 rfl rfl, tb1 13 rfl rfl, tb6 46 rfl rfl, by decide +kernel⟩
theorem ms_X12_257 : MS RX12 257 yX12_asTold cX12_asTold 1 (some .int) 1 := ⟨tb6 59 rfl rfl, tb6 60 rfl rfl, tb1 13 rfl rfl, tb6 61 rfl rfl, by decide +kernel⟩
theorem ms_X12_262 : MS RX12 262 yX12_common cX12_common 10 (some .long) 2 := ⟨tb6 100 rfl rfl, tb6 101 rfl rfl, tb1 13 rfl rfl, tb6 102 rfl rfl, by decide +kernel⟩
theorem ms_X12_284 : MS RX12 284 yX12_told cX12_told 7 (some .long) 3 := ⟨tb6 97 rfl rfl, tb6 98 rfl rfl, tb1 13 rfl rfl, tb6 99 rfl rfl, by decide +kernel⟩
theorem ms_X12_297 : MS RX12 297 yX12_isSheet cX12_isSheet 2 (some .boolean) 2 := ⟨tb6 153 rfl rfl, tb6 154 rfl rfl, tb1 13 rfl rfl, tb6 155 rfl rfl, by decide +kernel⟩
theorem ms_X12_77 : MS RX12 77 yX12_in cX12_in 6 (some .boolean) 3 := ⟨tb5 80 rfl rfl, tb5 81 rfl rfl, tb1 13 rfl rfl, tb5 82 rfl rfl, by decide +kernel⟩
theorem ms_X2_48 : MS RX2 48 yX2_firstOf cX2_firstOf 2 (some .int) 1 := ⟨tb3 93 rfl rfl, tb3 94 rfl rfl, tb1 7 rfl rfl, tb3 95 rfl rfl, by decide +kernel⟩
theorem ms_X3_65 : MS RX3 65 yJ6_bitCount_0f7a4 cJ6_bitCount_0f7a4 1 (some .int) 1 := ⟨tb4 120 rfl rfl, tb3 101 rfl rfl, tb1 19 rfl rfl, tb3 102 rfl rfl, by decide +kernel⟩
theorem mv_X0_26 : MV RX0 26 RX0 yX0_beginAt cX0_beginAt 2 none 1 := ⟨tb3 204 rfl rfl, tb3 206 rfl rfl, gT_in (List.mem_append_left _ (by decide +kernel)) (by decide +kernel), tb1 8 rfl rfl, tb3 207 rfl rfl, by decide +kernel⟩
theorem mv_X0_35 : MV RX0 35 RX1 yX1_destination cX1_destination 2 (some .int) 1 := ⟨tb3 208 rfl rfl, tb3 209 rfl rfl, tb3 210 rfl rfl, tb1 4 rfl rfl, tb3 211 rfl rfl, by decide +kernel⟩
theorem mv_X0_39 : MV RX0 39 RX10 yX10_restart cX10_restart 1 (some (.object "UnaskedGuests$County")) 0 := ⟨tb3 212 rfl rfl, tb3 64 rfl rfl, tb3 65 rfl rfl, tb1 6 rfl rfl, tb3 66 rfl rfl, by decide +kernel⟩
theorem mv_X0_49 : MV RX0 49 RX10 yX10_dinnersIn cX10_dinnersIn 5 (some .int) 1 := ⟨tb3 213 rfl rfl, tb3 175 rfl rfl, tb3 176 rfl rfl, tb1 6 rfl rfl, tb3 177 rfl rfl, by decide +kernel⟩
theorem mv_X0_52 : MV RX0 52 RX0 yX0_weigh cX0_weigh 3 none 2 := ⟨tb3 214 rfl rfl, tb3 216 rfl rfl, gT_in (List.mem_append_left _ (by decide +kernel)) (by decide +kernel), tb1 8 rfl rfl, tb3 217 rfl rfl, by decide +kernel⟩
theorem mv_X0_59 : MV RX0 59 RX1 yX1_onList cX1_onList 3 (some .boolean) 2 := ⟨tb3 238 rfl rfl, tb3 0 rfl rfl, tb3 1 rfl rfl, tb1 4 rfl rfl, tb3 2 rfl rfl, by decide +kernel⟩
theorem mv_X0_63 : MV RX0 63 RX1 yX1_setOnList cX1_setOnList 4 none 3 := ⟨tb3 239 rfl rfl, tb3 4 rfl rfl, tb3 5 rfl rfl, tb1 4 rfl rfl, tb3 6 rfl rfl, by decide +kernel⟩
theorem mv_X0_80 : MV RX0 80 RX2 yX2_holdAt cX2_holdAt 8 (some .int) 3 := ⟨tb4 8 rfl rfl, tb3 73 rfl rfl, tb3 74 rfl rfl, tb1 7 rfl rfl, tb3 75 rfl rfl, by decide +kernel⟩
theorem mv_X0_86 : MV RX0 86 RX1 yX1_setLiked cX1_setLiked 4 none 3 := ⟨tb4 17 rfl rfl, tb3 28 rfl rfl, tb3 29 rfl rfl, tb1 4 rfl rfl, tb3 30 rfl rfl, by decide +kernel⟩
theorem mv_X1_43 : MV RX1 43 RX1 yX1_copyLikingsFrom cX1_copyLikingsFrom 2 none 1 := ⟨tb3 46 rfl rfl, tb3 47 rfl rfl, tb3 48 rfl rfl, tb1 4 rfl rfl, tb3 49 rfl rfl, by decide +kernel⟩
theorem mv_X1_47 : MV RX1 47 RX1 yX1_goers cX1_goers 4 (some .int) 1 := ⟨tb4 199 rfl rfl, tb3 77 rfl rfl, tb3 78 rfl rfl, tb1 4 rfl rfl, tb3 79 rfl rfl, by decide +kernel⟩
theorem mv_X1_56 : MV RX1 56 RX1 yX1_onList cX1_onList 3 (some .boolean) 2 := ⟨tb3 88 rfl rfl, tb3 0 rfl rfl, tb3 1 rfl rfl, tb1 4 rfl rfl, tb3 2 rfl rfl, by decide +kernel⟩
theorem mv_X1_60 : MV RX1 60 RX1 yX1_liked cX1_liked 3 (some .int) 2 := ⟨tb3 89 rfl rfl, tb3 90 rfl rfl, tb3 91 rfl rfl, tb1 4 rfl rfl, tb3 92 rfl rfl, by decide +kernel⟩
theorem mv_X1_68 : MV RX1 68 RX1 yX1_setLiked cX1_setLiked 4 none 3 := ⟨tb3 27 rfl rfl, tb3 28 rfl rfl, tb3 29 rfl rfl, tb1 4 rfl rfl, tb3 30 rfl rfl, by decide +kernel⟩
theorem mv_X1_72 : MV RX1 72 RX1 yX1_likingsOf cX1_likingsOf 4 (some .int) 1 := ⟨tb3 187 rfl rfl, tb3 142 rfl rfl, tb3 143 rfl rfl, tb1 4 rfl rfl, tb3 144 rfl rfl, by decide +kernel⟩
theorem mv_X1_75 : MV RX1 75 RX1 yX1_noDestination cX1_noDestination 2 (some .boolean) 1 := ⟨tb3 35 rfl rfl, tb3 36 rfl rfl, tb3 37 rfl rfl, tb1 4 rfl rfl, tb3 38 rfl rfl, by decide +kernel⟩
theorem mv_X10_38 : MV RX10 38 RX1 yX1_copyFrom cX1_copyFrom 2 none 1 := ⟨tb3 67 rfl rfl, tb3 40 rfl rfl, tb3 41 rfl rfl, tb1 4 rfl rfl, tb3 42 rfl rfl, by decide +kernel⟩
theorem mv_X10_42 : MV RX10 42 RX10 yX10_restart cX10_restart 1 (some (.object "UnaskedGuests$County")) 0 := ⟨tb3 63 rfl rfl, tb3 64 rfl rfl, tb3 65 rfl rfl, tb1 6 rfl rfl, tb3 66 rfl rfl, by decide +kernel⟩
theorem mv_X10_46 : MV RX10 46 RX2 yX2_hold cX2_hold 4 none 1 := ⟨tb3 68 rfl rfl, tb3 69 rfl rfl, tb3 70 rfl rfl, tb1 7 rfl rfl, tb3 71 rfl rfl, by decide +kernel⟩
theorem mv_X10_73 : MV RX10 73 RX10 yX10_dinnersIn cX10_dinnersIn 5 (some .int) 1 := ⟨tb4 135 rfl rfl, tb3 175 rfl rfl, tb3 176 rfl rfl, tb1 6 rfl rfl, tb3 177 rfl rfl, by decide +kernel⟩
theorem mv_X11_102 : MV RX11 102 RX9 yX9_readAll cX9_readAll 2 (some .int) 0 := ⟨tb2 138 rfl rfl, tb2 139 rfl rfl, tb2 140 rfl rfl, tb1 3 rfl rfl, tb2 141 rfl rfl, by decide +kernel⟩
theorem mv_X11_109 : MV RX11 109 RX1 yX1_copyFrom cX1_copyFrom 2 none 1 := ⟨tb3 39 rfl rfl, tb3 40 rfl rfl, tb3 41 rfl rfl, tb1 4 rfl rfl, tb3 42 rfl rfl, by decide +kernel⟩
theorem mv_X11_131 : MV RX11 131 RX10 yX10_tonight cX10_tonight 1 (some (.object "UnaskedGuests$Evening")) 0 := ⟨tb3 59 rfl rfl, tb3 60 rfl rfl, tb3 61 rfl rfl, tb1 6 rfl rfl, tb3 62 rfl rfl, by decide +kernel⟩
theorem mv_X11_143 : MV RX11 143 RX1 yX1_invitations cX1_invitations 3 (some .int) 0 := ⟨tb3 109 rfl rfl, tb3 110 rfl rfl, tb3 111 rfl rfl, tb1 4 rfl rfl, tb3 112 rfl rfl, by decide +kernel⟩
theorem mv_X11_146 : MV RX11 146 RX11 yX11_noHouse cX11_noHouse 2 (some .boolean) 1 := ⟨tb3 117 rfl rfl, tb3 119 rfl rfl, gT_in (List.mem_append_left _ (by decide +kernel)) (by decide +kernel), tb1 1 rfl rfl, tb3 120 rfl rfl, by decide +kernel⟩
theorem mv_X11_153 : MV RX11 153 RX1 yX1_goers cX1_goers 4 (some .int) 1 := ⟨tb3 121 rfl rfl, tb3 77 rfl rfl, tb3 78 rfl rfl, tb1 4 rfl rfl, tb3 79 rfl rfl, by decide +kernel⟩
theorem mv_X11_166 : MV RX11 166 RX1 yX1_unwelcome cX1_unwelcome 4 (some .int) 1 := ⟨tb3 125 rfl rfl, tb3 85 rfl rfl, tb3 86 rfl rfl, tb1 4 rfl rfl, tb3 87 rfl rfl, by decide +kernel⟩
theorem mv_X11_169 : MV RX11 169 RX11 yX11_noComer cX11_noComer 2 (some .boolean) 1 := ⟨tb3 130 rfl rfl, tb3 132 rfl rfl, gT_in (List.mem_append_left _ (by decide +kernel)) (by decide +kernel), tb1 1 rfl rfl, tb3 133 rfl rfl, by decide +kernel⟩
theorem mv_X11_184 : MV RX11 184 RX1 yX1_listsWith cX1_listsWith 4 (some .int) 1 := ⟨tb3 137 rfl rfl, tb3 138 rfl rfl, tb3 139 rfl rfl, tb1 4 rfl rfl, tb3 140 rfl rfl, by decide +kernel⟩
theorem mv_X11_187 : MV RX11 187 RX1 yX1_likingsOf cX1_likingsOf 4 (some .int) 1 := ⟨tb3 141 rfl rfl, tb3 142 rfl rfl, tb3 143 rfl rfl, tb1 4 rfl rfl, tb3 144 rfl rfl, by decide +kernel⟩
theorem mv_X11_190 : MV RX11 190 RX1 yX1_liked cX1_liked 3 (some .int) 2 := ⟨tb3 149 rfl rfl, tb3 90 rfl rfl, tb3 91 rfl rfl, tb1 4 rfl rfl, tb3 92 rfl rfl, by decide +kernel⟩
theorem mv_X11_198 : MV RX11 198 RX1 yX1_noDestination cX1_noDestination 2 (some .boolean) 1 := ⟨tb3 157 rfl rfl, tb3 36 rfl rfl, tb3 37 rfl rfl, tb1 4 rfl rfl, tb3 38 rfl rfl, by decide +kernel⟩
theorem mv_X11_201 : MV RX11 201 RX1 yX1_setLiked cX1_setLiked 4 none 3 := ⟨tb3 162 rfl rfl, tb3 28 rfl rfl, tb3 29 rfl rfl, tb1 4 rfl rfl, tb3 30 rfl rfl, by decide +kernel⟩
theorem mv_X11_205 : MV RX11 205 RX1 yX1_onList cX1_onList 3 (some .boolean) 2 := ⟨tb3 167 rfl rfl, tb3 0 rfl rfl, tb3 1 rfl rfl, tb1 4 rfl rfl, tb3 2 rfl rfl, by decide +kernel⟩
theorem mv_X11_208 : MV RX11 208 RX1 yX1_setOnList cX1_setOnList 4 none 3 := ⟨tb3 168 rfl rfl, tb3 4 rfl rfl, tb3 5 rfl rfl, tb1 4 rfl rfl, tb3 6 rfl rfl, by decide +kernel⟩
theorem mv_X11_212 : MV RX11 212 RX10 yX10_restart cX10_restart 1 (some (.object "UnaskedGuests$County")) 0 := ⟨tb3 173 rfl rfl, tb3 64 rfl rfl, tb3 65 rfl rfl, tb1 6 rfl rfl, tb3 66 rfl rfl, by decide +kernel⟩
theorem mv_X11_216 : MV RX11 216 RX10 yX10_dinnersIn cX10_dinnersIn 5 (some .int) 1 := ⟨tb3 174 rfl rfl, tb3 175 rfl rfl, tb3 176 rfl rfl, tb1 6 rfl rfl, tb3 177 rfl rfl, by decide +kernel⟩
theorem mv_X11_226 : MV RX11 226 RX1 yX1_likings cX1_likings 3 (some .int) 0 := ⟨tb3 183 rfl rfl, tb3 184 rfl rfl, tb3 185 rfl rfl, tb1 4 rfl rfl, tb3 186 rfl rfl, by decide +kernel⟩
theorem mv_X11_232 : MV RX11 232 RX0 yX0_sendOne cX0_sendOne 4 none 1 := ⟨tb3 200 rfl rfl, tb3 201 rfl rfl, tb3 202 rfl rfl, tb1 8 rfl rfl, tb3 203 rfl rfl, by decide +kernel⟩
theorem mv_X11_236 : MV RX11 236 RX0 yX0_planOrDinners cX0_planOrDinners 2 (some .int) 1 := ⟨tb3 218 rfl rfl, tb3 219 rfl rfl, tb3 220 rfl rfl, tb1 8 rfl rfl, tb3 221 rfl rfl, by decide +kernel⟩
theorem mv_X11_239 : MV RX11 239 RX0 yX0_swapTwo cX0_swapTwo 4 none 0 := ⟨tb3 226 rfl rfl, tb3 227 rfl rfl, tb3 228 rfl rfl, tb1 8 rfl rfl, tb3 229 rfl rfl, by decide +kernel⟩
theorem mv_X11_242 : MV RX11 242 RX0 yX0_strikeOne cX0_strikeOne 3 none 0 := ⟨tb3 234 rfl rfl, tb3 235 rfl rfl, tb3 236 rfl rfl, tb1 8 rfl rfl, tb3 237 rfl rfl, by decide +kernel⟩
theorem mv_X11_245 : MV RX11 245 RX0 yX0_latestHour cX0_latestHour 4 (some .int) 1 := ⟨tb4 4 rfl rfl, tb4 5 rfl rfl, tb4 6 rfl rfl, tb1 8 rfl rfl, tb4 7 rfl rfl, by decide +kernel⟩
theorem mv_X11_248 : MV RX11 248 RX0 yX0_mostLiked cX0_mostLiked 4 (some .int) 2 := ⟨tb4 13 rfl rfl, tb4 14 rfl rfl, tb4 15 rfl rfl, tb1 8 rfl rfl, tb4 16 rfl rfl, by decide +kernel⟩
theorem mv_X11_251 : MV RX11 251 RX0 yX0_bestKind cX0_bestKind 4 none 2 := ⟨tb4 22 rfl rfl, tb4 23 rfl rfl, tb4 24 rfl rfl, tb1 8 rfl rfl, tb4 25 rfl rfl, by decide +kernel⟩
theorem mv_X11_255 : MV RX11 255 RX0 yX0_sendTwo cX0_sendTwo 6 none 2 := ⟨tb4 30 rfl rfl, tb4 31 rfl rfl, tb4 32 rfl rfl, tb1 8 rfl rfl, tb4 33 rfl rfl, by decide +kernel⟩
theorem mv_X11_266 : MV RX11 266 RX5 yX5_ofDinner cX5_ofDinner 6 (some .long) 2 := ⟨tb4 39 rfl rfl, tb4 40 rfl rfl, tb4 41 rfl rfl, tb1 9 rfl rfl, tb4 42 rfl rfl, by decide +kernel⟩
theorem mv_X11_270 : MV RX11 270 RX5 yX5_ofAll cX5_ofAll 4 (some .long) 0 := ⟨tb4 50 rfl rfl, tb4 51 rfl rfl, tb4 52 rfl rfl, tb1 9 rfl rfl, tb4 53 rfl rfl, by decide +kernel⟩
theorem mv_X11_278 : MV RX11 278 RX7 yX7_add cX7_add 4 (some .boolean) 3 := ⟨tb4 69 rfl rfl, tb4 70 rfl rfl, tb4 71 rfl rfl, tb1 5 rfl rfl, tb4 72 rfl rfl, by decide +kernel⟩
theorem mv_X11_282 : MV RX11 282 RX7 yX7_reach cX7_reach 3 (some .int) 0 := ⟨tb4 81 rfl rfl, tb4 82 rfl rfl, tb4 83 rfl rfl, tb1 5 rfl rfl, tb4 84 rfl rfl, by decide +kernel⟩
theorem mv_X11_285 : MV RX11 285 RX3 yX3_kindsLeft cX3_kindsLeft 5 (some .int) 2 := ⟨tb4 88 rfl rfl, tb4 89 rfl rfl, tb4 90 rfl rfl, tb1 10 rfl rfl, tb4 91 rfl rfl, by decide +kernel⟩
theorem mv_X11_288 : MV RX11 288 RX3 yX3_levelsLeft cX3_levelsLeft 6 (some .int) 2 := ⟨tb4 106 rfl rfl, tb4 107 rfl rfl, tb4 108 rfl rfl, tb1 10 rfl rfl, tb4 109 rfl rfl, by decide +kernel⟩
theorem mv_X11_291 : MV RX11 291 RX3 yX3_bestQuestion cX3_bestQuestion 5 none 1 := ⟨tb4 116 rfl rfl, tb4 117 rfl rfl, tb4 118 rfl rfl, tb1 10 rfl rfl, tb4 119 rfl rfl, by decide +kernel⟩
theorem mv_X11_300 : MV RX11 300 RX10 yX10_driftBy cX10_driftBy 8 (some .int) 2 := ⟨tb4 130 rfl rfl, tb4 131 rfl rfl, tb4 132 rfl rfl, tb1 6 rfl rfl, tb4 133 rfl rfl, by decide +kernel⟩
theorem mv_X11_305 : MV RX11 305 RX7 yX7_copyFrom cX7_copyFrom 2 none 1 := ⟨tb4 140 rfl rfl, tb4 141 rfl rfl, tb4 142 rfl rfl, tb1 5 rfl rfl, tb4 143 rfl rfl, by decide +kernel⟩
theorem mv_X11_308 : MV RX11 308 RX6 yX6_renew cX6_renew 4 none 2 := ⟨tb4 153 rfl rfl, tb4 154 rfl rfl, tb4 155 rfl rfl, tb1 12 rfl rfl, tb4 156 rfl rfl, by decide +kernel⟩
theorem mv_X11_314 : MV RX11 314 RX6 yX6_faultAt cX6_faultAt 3 (some .int) 2 := ⟨tb4 161 rfl rfl, tb4 162 rfl rfl, tb4 163 rfl rfl, tb1 12 rfl rfl, tb4 164 rfl rfl, by decide +kernel⟩
theorem mv_X11_317 : MV RX11 317 RX6 yX6_put cX6_put 3 none 2 := ⟨tb4 169 rfl rfl, tb4 170 rfl rfl, tb4 171 rfl rfl, tb1 12 rfl rfl, tb4 172 rfl rfl, by decide +kernel⟩
theorem mv_X11_319 : MV RX11 319 RX6 yX6_faultOfTwo cX6_faultOfTwo 4 (some .int) 2 := ⟨tb4 177 rfl rfl, tb4 178 rfl rfl, tb4 179 rfl rfl, tb1 12 rfl rfl, tb4 180 rfl rfl, by decide +kernel⟩
theorem mv_X11_325 : MV RX11 325 RX11 yX11_imagesKept cX11_imagesKept 3 (some .int) 0 := ⟨tb4 190 rfl rfl, tb4 192 rfl rfl, gT_in (List.mem_append_left _ (by decide +kernel)) (by decide +kernel), tb1 1 rfl rfl, tb4 193 rfl rfl, by decide +kernel⟩
theorem mv_X11_328 : MV RX11 328 RX6 yX6_isNothing cX6_isNothing 1 (some .boolean) 0 := ⟨tb4 194 rfl rfl, tb4 166 rfl rfl, tb4 167 rfl rfl, tb1 12 rfl rfl, tb4 168 rfl rfl, by decide +kernel⟩
theorem mv_X11_333 : MV RX11 333 RX1 yX1_goersAnywhere cX1_goersAnywhere 1 (some .int) 0 := ⟨tb4 195 rfl rfl, tb4 196 rfl rfl, tb4 197 rfl rfl, tb1 4 rfl rfl, tb4 198 rfl rfl, by decide +kernel⟩
theorem mv_X11_95 : MV RX11 95 RX8 yX8_put cX8_put 2 (some .boolean) 1 := ⟨tb2 126 rfl rfl, tb2 127 rfl rfl, tb2 128 rfl rfl, tb1 2 rfl rfl, tb2 129 rfl rfl, by decide +kernel⟩
theorem mv_X12_100 : MV RX12 100 RX12 yX12_is cX12_is 6 (some .boolean) 5 := ⟨tb5 115 rfl rfl, tb5 117 rfl rfl, gT_in (List.mem_append_left _ (by decide +kernel)) (by decide +kernel), tb1 13 rfl rfl, tb5 118 rfl rfl, by decide +kernel⟩
theorem mv_X12_104 : MV RX12 104 RX12 yX12_ends cX12_ends 3 (some .boolean) 2 := ⟨tb5 119 rfl rfl, tb5 121 rfl rfl, gT_in (List.mem_append_left _ (by decide +kernel)) (by decide +kernel), tb1 13 rfl rfl, tb5 122 rfl rfl, by decide +kernel⟩
theorem mv_X12_122 : MV RX12 122 RX12 yX12_needs cX12_needs 3 none 2 := ⟨tb5 103 rfl rfl, tb5 105 rfl rfl, gT_in (List.mem_append_left _ (by decide +kernel)) (by decide +kernel), tb1 13 rfl rfl, tb5 106 rfl rfl, by decide +kernel⟩
theorem mv_X12_126 : MV RX12 126 RX12 yX12_looked cX12_looked 3 (some .int) 2 := ⟨tb5 127 rfl rfl, tb5 129 rfl rfl, gT_in (List.mem_append_left _ (by decide +kernel)) (by decide +kernel), tb1 13 rfl rfl, tb5 130 rfl rfl, by decide +kernel⟩
theorem mv_X12_130 : MV RX12 130 RX12 yX12_takes cX12_takes 2 none 0 := ⟨tb5 91 rfl rfl, tb5 93 rfl rfl, gT_in (List.mem_append_left _ (by decide +kernel)) (by decide +kernel), tb1 13 rfl rfl, tb5 94 rfl rfl, by decide +kernel⟩
theorem mv_X12_133 : MV RX12 133 RX12 yX12_readNumber cX12_readNumber 4 (some .int) 2 := ⟨tb5 135 rfl rfl, tb5 137 rfl rfl, gT_in (List.mem_append_left _ (by decide +kernel)) (by decide +kernel), tb1 13 rfl rfl, tb5 138 rfl rfl, by decide +kernel⟩
theorem mv_X12_136 : MV RX12 136 RX12 yX12_lineNow cX12_lineNow 1 (some .int) 0 := ⟨tb5 111 rfl rfl, tb5 113 rfl rfl, gT_in (List.mem_append_left _ (by decide +kernel)) (by decide +kernel), tb1 13 rfl rfl, tb5 114 rfl rfl, by decide +kernel⟩
theorem mv_X12_140 : MV RX12 140 RX12 yX12_readHouse cX12_readHouse 3 none 0 := ⟨tb5 123 rfl rfl, tb5 125 rfl rfl, gT_in (List.mem_append_left _ (by decide +kernel)) (by decide +kernel), tb1 13 rfl rfl, tb5 126 rfl rfl, by decide +kernel⟩
theorem mv_X12_143 : MV RX12 143 RX12 yX12_readComer cX12_readComer 6 none 1 := ⟨tb5 131 rfl rfl, tb5 133 rfl rfl, gT_in (List.mem_append_left _ (by decide +kernel)) (by decide +kernel), tb1 13 rfl rfl, tb5 134 rfl rfl, by decide +kernel⟩
theorem mv_X12_147 : MV RX12 147 RX12 yX12_readLine cX12_readLine 2 none 0 := ⟨tb5 107 rfl rfl, tb5 109 rfl rfl, gT_in (List.mem_append_left _ (by decide +kernel)) (by decide +kernel), tb1 13 rfl rfl, tb5 110 rfl rfl, by decide +kernel⟩
theorem mv_X12_153 : MV RX12 153 RX12 yX12_liking cX12_liking 3 (some .int) 2 := ⟨tb5 179 rfl rfl, tb5 181 rfl rfl, gT_in (List.mem_append_left _ (by decide +kernel)) (by decide +kernel), tb1 13 rfl rfl, tb5 182 rfl rfl, by decide +kernel⟩
theorem mv_X12_156 : MV RX12 156 RX12 yX12_of cX12_of 3 (some .int) 2 := ⟨tb5 171 rfl rfl, tb5 173 rfl rfl, gT_in (List.mem_append_left _ (by decide +kernel)) (by decide +kernel), tb1 13 rfl rfl, tb5 174 rfl rfl, by decide +kernel⟩
theorem mv_X12_162 : MV RX12 162 RX12 yX12_isThere cX12_isThere 4 (some .boolean) 3 := ⟨tb5 167 rfl rfl, tb5 169 rfl rfl, gT_in (List.mem_append_left _ (by decide +kernel)) (by decide +kernel), tb1 13 rfl rfl, tb5 170 rfl rfl, by decide +kernel⟩
theorem mv_X12_170 : MV RX12 170 RX12 yX12_isUnwelcome cX12_isUnwelcome 3 (some .boolean) 2 := ⟨tb5 175 rfl rfl, tb5 177 rfl rfl, gT_in (List.mem_append_left _ (by decide +kernel)) (by decide +kernel), tb1 13 rfl rfl, tb5 178 rfl rfl, by decide +kernel⟩
theorem mv_X12_173 : MV RX12 173 RX12 yX12_manyThere cX12_manyThere 5 (some .int) 2 := ⟨tb5 183 rfl rfl, tb5 185 rfl rfl, gT_in (List.mem_append_left _ (by decide +kernel)) (by decide +kernel), tb1 13 rfl rfl, tb5 186 rfl rfl, by decide +kernel⟩
theorem mv_X12_186 : MV RX12 186 RX12 yX12_houseWaits cX12_houseWaits 5 none 1 := ⟨tb5 163 rfl rfl, tb5 165 rfl rfl, gT_in (List.mem_append_left _ (by decide +kernel)) (by decide +kernel), tb1 13 rfl rfl, tb5 166 rfl rfl, by decide +kernel⟩
theorem mv_X12_189 : MV RX12 189 RX12 yX12_startsCounting cX12_startsCounting 1 none 0 := ⟨tb5 155 rfl rfl, tb5 157 rfl rfl, gT_in (List.mem_append_left _ (by decide +kernel)) (by decide +kernel), tb1 13 rfl rfl, tb5 158 rfl rfl, by decide +kernel⟩
theorem mv_X12_192 : MV RX12 192 RX12 yX12_eveningGoes cX12_eveningGoes 2 none 0 := ⟨tb5 159 rfl rfl, tb5 161 rfl rfl, gT_in (List.mem_append_left _ (by decide +kernel)) (by decide +kernel), tb1 13 rfl rfl, tb5 162 rfl rfl, by decide +kernel⟩
theorem mv_X12_195 : MV RX12 195 RX12 yX12_eveningsGo cX12_eveningsGo 3 none 1 := ⟨tb5 151 rfl rfl, tb5 153 rfl rfl, gT_in (List.mem_append_left _ (by decide +kernel)) (by decide +kernel), tb1 13 rfl rfl, tb5 154 rfl rfl, by decide +kernel⟩
theorem mv_X12_198 : MV RX12 198 RX12 yX12_listed cX12_listed 4 (some .int) 1 := ⟨tb5 200 rfl rfl, tb5 202 rfl rfl, gT_in (List.mem_append_left _ (by decide +kernel)) (by decide +kernel), tb1 13 rfl rfl, tb5 203 rfl rfl, by decide +kernel⟩
theorem mv_X12_201 : MV RX12 201 RX12 yX12_likedInAll cX12_likedInAll 4 (some .int) 1 := ⟨tb5 221 rfl rfl, tb5 223 rfl rfl, gT_in (List.mem_append_left _ (by decide +kernel)) (by decide +kernel), tb1 13 rfl rfl, tb5 224 rfl rfl, by decide +kernel⟩
theorem mv_X12_204 : MV RX12 204 RX12 yX12_starts cX12_starts 2 none 0 := ⟨tb5 147 rfl rfl, tb5 149 rfl rfl, gT_in (List.mem_append_left _ (by decide +kernel)) (by decide +kernel), tb1 13 rfl rfl, tb5 150 rfl rfl, by decide +kernel⟩
theorem mv_X12_207 : MV RX12 207 RX12 yX12_allListed cX12_allListed 3 (some .int) 0 := ⟨tb5 196 rfl rfl, tb5 198 rfl rfl, gT_in (List.mem_append_left _ (by decide +kernel)) (by decide +kernel), tb1 13 rfl rfl, tb5 199 rfl rfl, by decide +kernel⟩
theorem mv_X12_210 : MV RX12 210 RX12 yX12_isHouse cX12_isHouse 2 (some .boolean) 1 := ⟨tb5 208 rfl rfl, tb5 210 rfl rfl, gT_in (List.mem_append_left _ (by decide +kernel)) (by decide +kernel), tb1 13 rfl rfl, tb5 211 rfl rfl, by decide +kernel⟩
theorem mv_X12_216 : MV RX12 216 RX12 yX12_isComer cX12_isComer 2 (some .boolean) 1 := ⟨tb5 217 rfl rfl, tb5 219 rfl rfl, gT_in (List.mem_append_left _ (by decide +kernel)) (by decide +kernel), tb1 13 rfl rfl, tb5 220 rfl rfl, by decide +kernel⟩
theorem mv_X12_226 : MV RX12 226 RX12 yX12_becomes cX12_becomes 4 (some .int) 2 := ⟨tb5 238 rfl rfl, tb6 0 rfl rfl, gT_in (List.mem_append_left _ (by decide +kernel)) (by decide +kernel), tb1 13 rfl rfl, tb6 1 rfl rfl, by decide +kernel⟩
theorem mv_X12_233 : MV RX12 233 RX12 yX12_settles cX12_settles 2 none 0 := ⟨tb6 16 rfl rfl, tb6 18 rfl rfl, gT_in (List.mem_append_left _ (by decide +kernel)) (by decide +kernel), tb1 13 rfl rfl, tb6 19 rfl rfl, by decide +kernel⟩
theorem mv_X12_241 : MV RX12 241 RX12 yX12_allLiked cX12_allLiked 3 (some .int) 0 := ⟨tb6 28 rfl rfl, tb6 30 rfl rfl, gT_in (List.mem_append_left _ (by decide +kernel)) (by decide +kernel), tb1 13 rfl rfl, tb6 31 rfl rfl, by decide +kernel⟩
theorem mv_X12_247 : MV RX12 247 RX12 yX12_placeBy cX12_placeBy 2 (some .int) 1 := ⟨tb6 47 rfl rfl, tb6 49 rfl rfl, gT_in (List.mem_append_left _ (by decide +kernel)) (by decide +kernel), tb1 13 rfl rfl, tb6 50 rfl rfl, by decide +kernel⟩
theorem mv_X12_250 : MV RX12 250 RX12 yX12_becomesOf cX12_becomesOf 4 none 3 := ⟨tb6 51 rfl rfl, tb6 53 rfl rfl, gT_in (List.mem_append_left _ (by decide +kernel)) (by decide +kernel), tb1 13 rfl rfl, tb6 54 rfl rfl, by decide +kernel⟩
theorem mv_X12_254 : MV RX12 254 RX12 yX12_dinnersTonight cX12_dinnersTonight 1 (some .int) 0 := ⟨tb6 55 rfl rfl, tb6 57 rfl rfl, gT_in (List.mem_append_left _ (by decide +kernel)) (by decide +kernel), tb1 13 rfl rfl, tb6 58 rfl rfl, by decide +kernel⟩
theorem mv_X12_280 : MV RX12 280 RX12 yX12_findOdds cX12_findOdds 7 none 2 := ⟨tb6 93 rfl rfl, tb6 95 rfl rfl, gT_in (List.mem_append_left _ (by decide +kernel)) (by decide +kernel), tb1 13 rfl rfl, tb6 96 rfl rfl, by decide +kernel⟩
theorem mv_X12_290 : MV RX12 290 RX12 yX12_isSoWith cX12_isSoWith 6 (some .boolean) 2 := ⟨tb6 120 rfl rfl, tb6 122 rfl rfl, gT_in (List.mem_append_left _ (by decide +kernel)) (by decide +kernel), tb1 13 rfl rfl, tb6 123 rfl rfl, by decide +kernel⟩
theorem mv_X12_294 : MV RX12 294 RX12 yX12_copies cX12_copies 4 none 2 := ⟨tb6 141 rfl rfl, tb6 143 rfl rfl, gT_in (List.mem_append_left _ (by decide +kernel)) (by decide +kernel), tb1 13 rfl rfl, tb6 144 rfl rfl, by decide +kernel⟩
theorem mv_X12_302 : MV RX12 302 RX12 yX12_alter cX12_alter 5 (some .int) 3 := ⟨tb6 165 rfl rfl, tb5 230 rfl rfl, tb5 231 rfl rfl, tb1 13 rfl rfl, tb5 232 rfl rfl, by decide +kernel⟩
theorem mv_X12_50 : MV RX12 50 RX12 yX12_firstDraft cX12_firstDraft 2 none 0 := ⟨tb4 206 rfl rfl, tb4 208 rfl rfl, gT_in (List.mem_append_left _ (by decide +kernel)) (by decide +kernel), tb1 13 rfl rfl, tb4 209 rfl rfl, by decide +kernel⟩
theorem mv_X12_53 : MV RX12 53 RX12 yX12_keepDraft cX12_keepDraft 2 none 0 := ⟨tb4 210 rfl rfl, tb4 212 rfl rfl, gT_in (List.mem_append_left _ (by decide +kernel)) (by decide +kernel), tb1 13 rfl rfl, tb4 213 rfl rfl, by decide +kernel⟩
theorem mv_X12_96 : MV RX12 96 RX12 yX12_byteAt cX12_byteAt 2 (some .int) 1 := ⟨tb5 95 rfl rfl, tb5 97 rfl rfl, gT_in (List.mem_append_left _ (by decide +kernel)) (by decide +kernel), tb1 13 rfl rfl, tb5 98 rfl rfl, by decide +kernel⟩
theorem mv_X2_30 : MV RX2 30 RX2 yX2_holdAt cX2_holdAt 8 (some .int) 3 := ⟨tb3 72 rfl rfl, tb3 73 rfl rfl, tb3 74 rfl rfl, tb1 7 rfl rfl, tb3 75 rfl rfl, by decide +kernel⟩
theorem mv_X2_37 : MV RX2 37 RX1 yX1_goers cX1_goers 4 (some .int) 1 := ⟨tb3 76 rfl rfl, tb3 77 rfl rfl, tb3 78 rfl rfl, tb1 4 rfl rfl, tb3 79 rfl rfl, by decide +kernel⟩
theorem mv_X2_41 : MV RX2 41 RX1 yX1_arrived cX1_arrived 5 (some .int) 2 := ⟨tb3 80 rfl rfl, tb3 81 rfl rfl, tb3 82 rfl rfl, tb1 4 rfl rfl, tb3 83 rfl rfl, by decide +kernel⟩
theorem mv_X2_45 : MV RX2 45 RX1 yX1_unwelcome cX1_unwelcome 4 (some .int) 1 := ⟨tb3 84 rfl rfl, tb3 85 rfl rfl, tb3 86 rfl rfl, tb1 4 rfl rfl, tb3 87 rfl rfl, by decide +kernel⟩
theorem mv_X2_51 : MV RX2 51 RX1 yX1_warm cX1_warm 5 none 2 := ⟨tb3 96 rfl rfl, tb3 97 rfl rfl, tb3 98 rfl rfl, tb1 4 rfl rfl, tb3 99 rfl rfl, by decide +kernel⟩
theorem mv_X3_35 : MV RX3 35 RX10 yX10_restart cX10_restart 1 (some (.object "UnaskedGuests$County")) 0 := ⟨tb4 92 rfl rfl, tb3 64 rfl rfl, tb3 65 rfl rfl, tb1 6 rfl rfl, tb3 66 rfl rfl, by decide +kernel⟩
theorem mv_X3_47 : MV RX3 47 RX3 yX3_foretell cX3_foretell 5 none 2 := ⟨tb4 93 rfl rfl, tb4 95 rfl rfl, gT_in (List.mem_append_left _ (by decide +kernel)) (by decide +kernel), tb1 10 rfl rfl, tb4 96 rfl rfl, by decide +kernel⟩
theorem mv_X3_51 : MV RX3 51 RX7 yX7_agreeWith cX7_agreeWith 3 (some .boolean) 1 := ⟨tb4 98 rfl rfl, tb4 99 rfl rfl, tb4 100 rfl rfl, tb1 5 rfl rfl, tb4 101 rfl rfl, by decide +kernel⟩
theorem mv_X3_57 : MV RX3 57 RX7 yX7_reach cX7_reach 3 (some .int) 0 := ⟨tb4 110 rfl rfl, tb4 82 rfl rfl, tb4 83 rfl rfl, tb1 5 rfl rfl, tb4 84 rfl rfl, by decide +kernel⟩
theorem mv_X3_61 : MV RX3 61 RX1 yX1_setLiked cX1_setLiked 4 none 3 := ⟨tb4 111 rfl rfl, tb3 28 rfl rfl, tb3 29 rfl rfl, tb1 4 rfl rfl, tb3 30 rfl rfl, by decide +kernel⟩
theorem mv_X3_74 : MV RX3 74 RX3 yX3_worstLeft cX3_worstLeft 7 (some .int) 2 := ⟨tb4 121 rfl rfl, tb4 123 rfl rfl, gT_in (List.mem_append_left _ (by decide +kernel)) (by decide +kernel), tb1 10 rfl rfl, tb4 124 rfl rfl, by decide +kernel⟩
theorem mv_X3_90 : MV RX3 90 RX2 yX2_hold cX2_hold 4 none 1 := ⟨tb4 97 rfl rfl, tb3 69 rfl rfl, tb3 70 rfl rfl, tb1 7 rfl rfl, tb3 71 rfl rfl, by decide +kernel⟩
theorem mv_X5_27 : MV RX5 27 RX10 yX10_restart cX10_restart 1 (some (.object "UnaskedGuests$County")) 0 := ⟨tb4 43 rfl rfl, tb3 64 rfl rfl, tb3 65 rfl rfl, tb1 6 rfl rfl, tb3 66 rfl rfl, by decide +kernel⟩
theorem mv_X5_36 : MV RX5 36 RX1 yX1_copyLikingsFrom cX1_copyLikingsFrom 2 none 1 := ⟨tb4 44 rfl rfl, tb3 47 rfl rfl, tb3 48 rfl rfl, tb1 4 rfl rfl, tb3 49 rfl rfl, by decide +kernel⟩
theorem mv_X5_44 : MV RX5 44 RX2 yX2_holdAt cX2_holdAt 8 (some .int) 3 := ⟨tb4 45 rfl rfl, tb3 73 rfl rfl, tb3 74 rfl rfl, tb1 7 rfl rfl, tb3 75 rfl rfl, by decide +kernel⟩
theorem mv_X5_50 : MV RX5 50 RX5 yX5_ofComing cX5_ofComing 6 (some .long) 2 := ⟨tb4 46 rfl rfl, tb4 48 rfl rfl, gT_in (List.mem_append_left _ (by decide +kernel)) (by decide +kernel), tb1 9 rfl rfl, tb4 49 rfl rfl, by decide +kernel⟩
theorem mv_X6_22 : MV RX6 22 RX6 yX6_isNothing cX6_isNothing 1 (some .boolean) 0 := ⟨tb4 165 rfl rfl, tb4 166 rfl rfl, tb4 167 rfl rfl, tb1 12 rfl rfl, tb4 168 rfl rfl, by decide +kernel⟩
theorem mv_X6_26 : MV RX6 26 RX6 yX6_faultAt cX6_faultAt 3 (some .int) 2 := ⟨tb4 181 rfl rfl, tb4 162 rfl rfl, tb4 163 rfl rfl, tb1 12 rfl rfl, tb4 164 rfl rfl, by decide +kernel⟩
theorem mv_X9_102 : MV RX9 102 RX1 yX1_addComer cX1_addComer 6 none 4 := ⟨tb3 23 rfl rfl, tb3 24 rfl rfl, tb3 25 rfl rfl, tb1 4 rfl rfl, tb3 26 rfl rfl, by decide +kernel⟩
theorem mv_X9_110 : MV RX9 110 RX8 yX8_isLetter cX8_isLetter 2 (some .boolean) 1 := ⟨tb2 150 rfl rfl, tb2 151 rfl rfl, tb2 152 rfl rfl, tb1 2 rfl rfl, tb2 153 rfl rfl, by decide +kernel⟩
theorem mv_X9_113 : MV RX9 113 RX9 yX9_readName cX9_readName 1 none 0 := ⟨tb2 154 rfl rfl, tb2 156 rfl rfl, gT_in (List.mem_append_left _ (by decide +kernel)) (by decide +kernel), tb1 3 rfl rfl, tb2 157 rfl rfl, by decide +kernel⟩
theorem mv_X9_116 : MV RX9 116 RX8 yX8_isFigure cX8_isFigure 2 (some .boolean) 1 := ⟨tb2 158 rfl rfl, tb2 159 rfl rfl, tb2 160 rfl rfl, tb1 2 rfl rfl, tb2 161 rfl rfl, by decide +kernel⟩
theorem mv_X9_119 : MV RX9 119 RX9 yX9_readFigures cX9_readFigures 1 none 0 := ⟨tb2 162 rfl rfl, tb2 164 rfl rfl, gT_in (List.mem_append_left _ (by decide +kernel)) (by decide +kernel), tb1 3 rfl rfl, tb2 165 rfl rfl, by decide +kernel⟩
theorem mv_X9_130 : MV RX9 130 RJ0 yJ0_length_8abf5 cJ0_length_8abf5 1 (some .int) 0 := ⟨tb2 183 rfl rfl, tb2 184 rfl rfl, tb2 185 rfl rfl, tb1 14 rfl rfl, tb2 186 rfl rfl, by decide +kernel⟩
theorem mv_X9_134 : MV RX9 134 RJ0 yJ0_charAt_5068e cJ0_charAt_5068e 2 (some .char) 1 := ⟨tb2 193 rfl rfl, tb2 194 rfl rfl, tb2 195 rfl rfl, tb1 14 rfl rfl, tb2 196 rfl rfl, by decide +kernel⟩
theorem mv_X9_41 : MV RX9 41 RX1 yX1_clear cX1_clear 1 none 0 := ⟨tb2 142 rfl rfl, tb2 143 rfl rfl, tb2 144 rfl rfl, tb1 4 rfl rfl, tb2 145 rfl rfl, by decide +kernel⟩
theorem mv_X9_44 : MV RX9 44 RX9 yX9_readToken cX9_readToken 1 none 0 := ⟨tb2 146 rfl rfl, tb2 148 rfl rfl, gT_in (List.mem_append_left _ (by decide +kernel)) (by decide +kernel), tb1 3 rfl rfl, tb2 149 rfl rfl, by decide +kernel⟩
theorem mv_X9_47 : MV RX9 47 RX9 yX9_readLine cX9_readLine 2 (some .boolean) 0 := ⟨tb2 166 rfl rfl, tb2 168 rfl rfl, gT_in (List.mem_append_left _ (by decide +kernel)) (by decide +kernel), tb1 3 rfl rfl, tb2 169 rfl rfl, by decide +kernel⟩
theorem mv_X9_51 : MV RX9 51 RX1 yX1_namesOnlyWhatThereIs cX1_namesOnlyWhatThereIs 2 (some .boolean) 0 := ⟨tb3 31 rfl rfl, tb3 32 rfl rfl, tb3 33 rfl rfl, tb1 4 rfl rfl, tb3 34 rfl rfl, by decide +kernel⟩
theorem mv_X9_59 : MV RX9 59 RX9 yX9_fail cX9_fail 3 (some .boolean) 2 := ⟨tb2 174 rfl rfl, tb2 176 rfl rfl, gT_in (List.mem_append_left _ (by decide +kernel)) (by decide +kernel), tb1 3 rfl rfl, tb2 177 rfl rfl, by decide +kernel⟩
theorem mv_X9_63 : MV RX9 63 RX9 yX9_stands cX9_stands 2 (some .boolean) 1 := ⟨tb2 170 rfl rfl, tb2 172 rfl rfl, gT_in (List.mem_append_left _ (by decide +kernel)) (by decide +kernel), tb1 3 rfl rfl, tb2 173 rfl rfl, by decide +kernel⟩
theorem mv_X9_69 : MV RX9 69 RX9 yX9_named cX9_named 3 (some .boolean) 1 := ⟨tb2 179 rfl rfl, tb2 181 rfl rfl, gT_in (List.mem_append_left _ (by decide +kernel)) (by decide +kernel), tb1 3 rfl rfl, tb2 182 rfl rfl, by decide +kernel⟩
theorem mv_X9_73 : MV RX9 73 RX9 yX9_readHouse cX9_readHouse 3 (some .boolean) 0 := ⟨tb2 231 rfl rfl, tb2 233 rfl rfl, gT_in (List.mem_append_left _ (by decide +kernel)) (by decide +kernel), tb1 3 rfl rfl, tb2 234 rfl rfl, by decide +kernel⟩
theorem mv_X9_76 : MV RX9 76 RX9 yX9_kindNamed cX9_kindNamed 1 (some .int) 0 := ⟨tb3 7 rfl rfl, tb3 9 rfl rfl, gT_in (List.mem_append_left _ (by decide +kernel)) (by decide +kernel), tb1 3 rfl rfl, tb3 10 rfl rfl, by decide +kernel⟩
theorem mv_X9_80 : MV RX9 80 RX9 yX9_readComer cX9_readComer 5 (some .boolean) 1 := ⟨tb3 15 rfl rfl, tb3 17 rfl rfl, gT_in (List.mem_append_left _ (by decide +kernel)) (by decide +kernel), tb1 3 rfl rfl, tb3 18 rfl rfl, by decide +kernel⟩
theorem mv_X9_86 : MV RX9 86 RX1 yX1_addHouse cX1_addHouse 1 none 0 := ⟨tb2 235 rfl rfl, tb2 236 rfl rfl, tb2 237 rfl rfl, tb1 4 rfl rfl, tb2 238 rfl rfl, by decide +kernel⟩
theorem mv_X9_89 : MV RX9 89 RX1 yX1_onList cX1_onList 3 (some .boolean) 2 := ⟨tb2 239 rfl rfl, tb3 0 rfl rfl, tb3 1 rfl rfl, tb1 4 rfl rfl, tb3 2 rfl rfl, by decide +kernel⟩
theorem mv_X9_92 : MV RX9 92 RX1 yX1_setOnList cX1_setOnList 4 none 3 := ⟨tb3 3 rfl rfl, tb3 4 rfl rfl, tb3 5 rfl rfl, tb1 4 rfl rfl, tb3 6 rfl rfl, by decide +kernel⟩
theorem mv_X9_99 : MV RX9 99 RX9 yX9_readNumber cX9_readNumber 1 (some .boolean) 0 := ⟨tb3 19 rfl rfl, tb3 21 rfl rfl, gT_in (List.mem_append_left _ (by decide +kernel)) (by decide +kernel), tb1 3 rfl rfl, tb3 22 rfl rfl, by decide +kernel⟩
