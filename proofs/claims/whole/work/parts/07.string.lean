theorem dJ3_checkIndex_8e157_0 : decode cJ3_checkIndex_8e157 0 = .ok (.iload_n 0, 1) := by decide +kernel
theorem dJ3_checkIndex_8e157_1 : decode cJ3_checkIndex_8e157 1 = .ok (.ifCond .lt 8, 3) := by decide +kernel
theorem dJ3_checkIndex_8e157_4 : decode cJ3_checkIndex_8e157 4 = .ok (.iload_n 0, 1) := by decide +kernel
theorem dJ3_checkIndex_8e157_5 : decode cJ3_checkIndex_8e157 5 = .ok (.iload_n 1, 1) := by decide +kernel
theorem dJ3_checkIndex_8e157_6 : decode cJ3_checkIndex_8e157 6 = .ok (.if_icmp .lt 10, 3) := by decide +kernel
theorem dJ3_checkIndex_8e157_9 : decode cJ3_checkIndex_8e157 9 = .ok (.aload_n 2, 1) := by decide +kernel
theorem dJ3_checkIndex_8e157_10 : decode cJ3_checkIndex_8e157 10 = .ok (.iload_n 0, 1) := by decide +kernel
theorem dJ3_checkIndex_8e157_11 : decode cJ3_checkIndex_8e157 11 = .ok (.iload_n 1, 1) := by decide +kernel
theorem dJ3_checkIndex_8e157_12 : decode cJ3_checkIndex_8e157 12 = .ok (.invokestatic 95, 3) := by decide +kernel
theorem dJ3_checkIndex_8e157_15 : decode cJ3_checkIndex_8e157 15 = .ok (.athrow, 1) := by decide +kernel
theorem dJ3_checkIndex_8e157_16 : decode cJ3_checkIndex_8e157 16 = .ok (.iload_n 0, 1) := by decide +kernel
theorem dJ3_checkIndex_8e157_17 : decode cJ3_checkIndex_8e157 17 = .ok (.ireturn, 1) := by decide +kernel
theorem dJ0_checkIndex_df160_0 : decode cJ0_checkIndex_df160 0 = .ok (.iload_n 0, 1) := by decide +kernel
theorem dJ0_checkIndex_df160_1 : decode cJ0_checkIndex_df160 1 = .ok (.iload_n 1, 1) := by decide +kernel
theorem dJ0_checkIndex_df160_2 : decode cJ0_checkIndex_df160 2 = .ok (.getstatic 1053, 3) := by decide +kernel
theorem dJ0_checkIndex_df160_5 : decode cJ0_checkIndex_df160 5 = .ok (.invokestatic 1059, 3) := by decide +kernel
theorem dJ0_checkIndex_df160_8 : decode cJ0_checkIndex_df160 8 = .ok (.pop, 1) := by decide +kernel
theorem dJ0_checkIndex_df160_9 : decode cJ0_checkIndex_df160 9 = .ok (.return_, 1) := by decide +kernel
theorem dJ1_charAt_3b067_0 : decode cJ1_charAt_3b067 0 = .ok (.iload_n 1, 1) := by decide +kernel
theorem dJ1_charAt_3b067_1 : decode cJ1_charAt_3b067 1 = .ok (.aload_n 0, 1) := by decide +kernel
theorem dJ1_charAt_3b067_2 : decode cJ1_charAt_3b067 2 = .ok (.arraylength, 1) := by decide +kernel
theorem dJ1_charAt_3b067_3 : decode cJ1_charAt_3b067 3 = .ok (.invokestatic 9, 3) := by decide +kernel
theorem dJ1_charAt_3b067_6 : decode cJ1_charAt_3b067 6 = .ok (.aload_n 0, 1) := by decide +kernel
theorem dJ1_charAt_3b067_7 : decode cJ1_charAt_3b067 7 = .ok (.iload_n 1, 1) := by decide +kernel
theorem dJ1_charAt_3b067_8 : decode cJ1_charAt_3b067 8 = .ok (.baload, 1) := by decide +kernel
theorem dJ1_charAt_3b067_9 : decode cJ1_charAt_3b067 9 = .ok (.sipush 255, 3) := by decide +kernel
theorem dJ1_charAt_3b067_12 : decode cJ1_charAt_3b067 12 = .ok (.iand, 1) := by decide +kernel
theorem dJ1_charAt_3b067_13 : decode cJ1_charAt_3b067 13 = .ok (.i2c, 1) := by decide +kernel
theorem dJ1_charAt_3b067_14 : decode cJ1_charAt_3b067 14 = .ok (.ireturn, 1) := by decide +kernel
theorem dJ0_isLatin1_aae02_0 : decode cJ0_isLatin1_aae02 0 = .ok (.getstatic 38, 3) := by decide +kernel
theorem dJ0_isLatin1_aae02_3 : decode cJ0_isLatin1_aae02 3 = .ok (.ifCond .eq 14, 3) := by decide +kernel
theorem dJ0_isLatin1_aae02_6 : decode cJ0_isLatin1_aae02 6 = .ok (.aload_n 0, 1) := by decide +kernel
theorem dJ0_isLatin1_aae02_7 : decode cJ0_isLatin1_aae02 7 = .ok (.getfield 15, 3) := by decide +kernel
theorem dJ0_isLatin1_aae02_10 : decode cJ0_isLatin1_aae02 10 = .ok (.ifCond .ne 7, 3) := by decide +kernel
theorem dJ0_isLatin1_aae02_13 : decode cJ0_isLatin1_aae02 13 = .ok (.iconst 1, 1) := by decide +kernel
theorem dJ0_isLatin1_aae02_14 : decode cJ0_isLatin1_aae02 14 = .ok (.goto 4, 3) := by decide +kernel
theorem dJ0_isLatin1_aae02_17 : decode cJ0_isLatin1_aae02 17 = .ok (.iconst 0, 1) := by decide +kernel
theorem dJ0_isLatin1_aae02_18 : decode cJ0_isLatin1_aae02 18 = .ok (.ireturn, 1) := by decide +kernel
theorem dJ0_coder_7d493_0 : decode cJ0_coder_7d493 0 = .ok (.getstatic 38, 3) := by decide +kernel
theorem dJ0_coder_7d493_3 : decode cJ0_coder_7d493 3 = .ok (.ifCond .eq 10, 3) := by decide +kernel
theorem dJ0_coder_7d493_6 : decode cJ0_coder_7d493 6 = .ok (.aload_n 0, 1) := by decide +kernel
theorem dJ0_coder_7d493_7 : decode cJ0_coder_7d493 7 = .ok (.getfield 15, 3) := by decide +kernel
theorem dJ0_coder_7d493_10 : decode cJ0_coder_7d493 10 = .ok (.goto 4, 3) := by decide +kernel
theorem dJ0_coder_7d493_13 : decode cJ0_coder_7d493 13 = .ok (.iconst 1, 1) := by decide +kernel
theorem dJ0_coder_7d493_14 : decode cJ0_coder_7d493 14 = .ok (.ireturn, 1) := by decide +kernel
theorem dJ0_length_8abf5_0 : decode cJ0_length_8abf5 0 = .ok (.aload_n 0, 1) := by decide +kernel
theorem dJ0_length_8abf5_1 : decode cJ0_length_8abf5 1 = .ok (.getfield 9, 3) := by decide +kernel
theorem dJ0_length_8abf5_4 : decode cJ0_length_8abf5 4 = .ok (.arraylength, 1) := by decide +kernel
theorem dJ0_length_8abf5_5 : decode cJ0_length_8abf5 5 = .ok (.aload_n 0, 1) := by decide +kernel
theorem dJ0_length_8abf5_6 : decode cJ0_length_8abf5 6 = .ok (.invokevirtual 335, 3) := by decide +kernel
theorem dJ0_length_8abf5_9 : decode cJ0_length_8abf5 9 = .ok (.ishr, 1) := by decide +kernel
theorem dJ0_length_8abf5_10 : decode cJ0_length_8abf5 10 = .ok (.ireturn, 1) := by decide +kernel
theorem dJ0_charAt_5068e_0 : decode cJ0_charAt_5068e 0 = .ok (.aload_n 0, 1) := by decide +kernel
theorem dJ0_charAt_5068e_1 : decode cJ0_charAt_5068e 1 = .ok (.invokevirtual 492, 3) := by decide +kernel
theorem dJ0_charAt_5068e_4 : decode cJ0_charAt_5068e 4 = .ok (.ifCond .eq 12, 3) := by decide +kernel
theorem dJ0_charAt_5068e_7 : decode cJ0_charAt_5068e 7 = .ok (.aload_n 0, 1) := by decide +kernel
theorem dJ0_charAt_5068e_8 : decode cJ0_charAt_5068e 8 = .ok (.getfield 9, 3) := by decide +kernel
theorem dJ0_charAt_5068e_11 : decode cJ0_charAt_5068e 11 = .ok (.iload_n 1, 1) := by decide +kernel
theorem dJ0_charAt_5068e_12 : decode cJ0_charAt_5068e 12 = .ok (.invokestatic 495, 3) := by decide +kernel
theorem dJ0_charAt_5068e_15 : decode cJ0_charAt_5068e 15 = .ok (.ireturn, 1) := by decide +kernel
theorem dJ0_charAt_5068e_16 : decode cJ0_charAt_5068e 16 = .ok (.aload_n 0, 1) := by decide +kernel
theorem dJ0_charAt_5068e_17 : decode cJ0_charAt_5068e 17 = .ok (.getfield 9, 3) := by decide +kernel
theorem dJ0_charAt_5068e_20 : decode cJ0_charAt_5068e 20 = .ok (.iload_n 1, 1) := by decide +kernel
theorem dJ0_charAt_5068e_21 : decode cJ0_charAt_5068e 21 = .ok (.invokestatic 498, 3) := by decide +kernel
theorem dJ0_charAt_5068e_24 : decode cJ0_charAt_5068e 24 = .ok (.ireturn, 1) := by decide +kernel
def zch (i k : Nat) : Int32 := (zByt.getD i []).getD k 0
theorem zch_ok : ∀ i, i < 5 → ∀ k, k < 6 → ((zch i k &&& 255).toUInt32 % 65536).toInt32 = zch i k ∧ narrow .char (.int (zch i k)) = .int (zch i k) := by decide +kernel
theorem zlen_ok : ∀ i, i < 5 → zLen.getD i 0 ≤ 6 ∧ (Int32.ofNat (zLen.getD i 0)) >>> ((0 : Int32) &&& 31) = nI (zLen.getD i 0) := by decide +kernel
theorem nI_lt_len {j : Int32} {i : Nat} (hi : i < 5) (h : inb j (zLen.getD i 0)) : ¬ j < 0 ∧ j < Int32.ofNat (zLen.getD i 0) ∧ ix j < 6 := by
  have h6 := (zlen_ok i hi).1
  obtain ⟨k, hk, rfl⟩ := vp_in_of h (by omega)
  refine ⟨nI_pos (by omega), nI_lt hk (by omega), ?_⟩
  show (nI k).toNatClampNeg < 6
  rw [nI_clamp (by omega)]
  omega
theorem mixL_none : ∀ ws : va_W, mixL [] (ws.map (fun _ => (none : Option Nat))) ws = ws
  | [] => rfl
  | c :: ws => congrArg (List.cons c) (mixL_none ws)
theorem mixOk_none (ws : va_W) : mixOk [] (ws.map (fun _ => (none : Option Nat))) ws.length = true := by
  simp only [mixOk, Bool.and_eq_true, beq_iff_eq, List.all_eq_true, List.mem_range, List.length_map, true_and]
  intro k hk
  have e : (ws.map (fun _ => (none : Option Nat))).getD k none = none := by simp [List.getD, List.getElem?_map]; cases ws[k]? <;> rfl
  rw [e]
  rfl
section
variable {E : Ev} {X : Cx} {n z : Nat} {ws ws' wc w1 : va_W} {lv : List (Nat × Value)} {pc : Nat} {st st0 st1 : List Value} {cc : ByteArray} {own : String} {nL : Nat} {rm : Room}
variable {y : MethodName} {bytes : ByteArray} {mL np index : Nat} {ret : Option FieldType} {rm2 : Room} {As : List Value} {rv : Option Value}
theorem g_osf {q : Nat} {v : Value} {o nm d : String} (C : CX E X cc own nL rm) (hE : va_OF o nm d v q X.A X.s X.s.heap) (hl : Cond.fieldLink own index o nm d ∈ gT) (hd : decode cc pc = .ok (.getfield index, 3)) (kk : G E X n z ws lv (pc + 3) (v :: st)) : G E X n z ws lv pc (.ref q :: st) := fun H locs ls hP hD hS hl0 => vk_getf C.1 C.2.1 hE hS C.2.2.2.2.1 (C.2.2.2.2.2.1 _ hl) (fun _ h => h) hd (kk H locs ls hP hD hS hl0)
theorem g_gets {v : Value} {o nm d : String} (C : CX E X cc own nL rm) (hZ : va_Z o nm d v X.A X.s X.s.heap) (hl : Cond.fieldLink own index o nm d ∈ gT) (hd : decode cc pc = .ok (.getstatic index, 3)) (kk : G E X n z ws lv (pc + 3) (v :: st)) : G E X n z ws lv pc st := fun H locs ls hP hD hS hl0 => va_gets C.1 C.2.1 hZ hS C.2.2.2.2.1 (C.2.2.2.2.2.1 _ hl) (fun _ h => h) hd (kk H locs ls hP hD hS hl0)
theorem g_talen {t N : Nat} {f : Nat → Value} {ty : FieldType} (C : CX E X cc own nL rm) (hT : va_T ty t N f X.A X.s X.s.heap) (hd : decode cc pc = .ok (.arraylength, 1)) (kk : G E X n z ws lv (pc + 1) (.int (Int32.ofNat N) :: st)) : G E X n z ws lv pc (.ref t :: st) := fun H locs ls hP hD hS hl => va_tlen C.1 C.2.1 hT hS rfl hd (kk H locs ls hP hD hS hl)
theorem g_tald {t N : Nat} {f : Nat → Value} {i : Int32} (C : CX E X cc own nL rm) (hT : va_T .byte t N f X.A X.s X.s.heap) (hin : inb i N) (hd : decode cc pc = .ok (.baload, 1)) (kk : G E X n z ws lv (pc + 1) (f (ix i) :: st)) : G E X n z ws lv pc (.int i :: .ref t :: st) := fun H locs ls hP hD hS hl => va_tb C.1 C.2.1 hT hS hin rfl hd (kk H locs ls hP hD hS hl)
theorem g_i2c {x : Int32} (C : CX E X cc own nL rm) (hd : decode cc pc = .ok (.i2c, 1)) (kk : G E X n z ws lv (pc + 1) (.int (x.toUInt32 % 65536).toInt32 :: st)) : G E X n z ws lv pc (.int x :: st) := fun H locs ls hP hD hS hl => lv_i2c C.1 C.2.1 hd rfl (kk H locs ls hP hD hS hl)
theorem g_callVz {i : Nat} (C : CX E X cc own nL rm) (hi : i < 5) (hm : MV own index "java/lang/String" y bytes mL ret np) (K : Mt E y bytes mL ret rm2 (.ref (E.2.2.2.1 i) :: As) [] [] rv)
    (hR : rm2.frames + 1 ≤ rm.frames ∧ 8 + (mL + 11) + rm2.locals ≤ rm.locals) (h0 : rm2.cells = 0 ∧ rm2.slots = 0) (hnz : n ≤ rm.cells ∧ z ≤ rm.slots) (hA : As.length = np) (hst : st0 = As.reverse ++ .ref (E.2.2.2.1 i) :: st) (hst1 : rv.toList ++ st = st1) (hW : (st.map fun v => v.category).sum ≤ 8) (hd : decode cc pc = .ok (.invokevirtual index, 3))
    (kk : G E X n z ws lv (pc + 3) st1) : G E X n z ws lv pc st0 := by
  intro H locs ls hP hD hS hl
  obtain ⟨hpre, hFc, hPc⟩ := g_pre (wc := []) (av := .ref (E.2.2.2.1 i) :: As) C hP hD hS [] rfl rfl
  obtain ⟨m1, m2, m3, m4, m5, m6⟩ := hm
  have hg : GoodIn gT (wsV own index "java/lang/String" y (gW y bytes mL ret)) := fun w hw9 => by
    rcases List.mem_append.mp hw9 with h | h
    · simp only [List.mem_cons, List.not_mem_nil, or_false] at h
      rcases h with rfl | rfl | rfl | rfl <;> exact gT_good _ (by assumption)
    · exact gW_good m5 w h
  refine g_after (av := .ref (E.2.2.2.1 i) :: As) (wc := []) (w1 := []) (ws' := ws) C hP hD hS hl [] rfl rfl rfl (ws.map (fun _ => none)) ws.length (mixOk_none ws) rfl (mixL_none ws) hFc h0 hst1 ?_ kk
  exact va_runV (own := own) (index := index) (C := "java/lang/String") (n := np) ⟨C.1, C.2.1, C.2.2.1, C.2.2.2.2.1, C.2.2.2.2.2.1⟩ (K H.size) (cwV np C.2.2.2.2.2.1 hg rfl rfl rfl m6 (by rw [C.2.2.2.2.2.2.2.1]; exact hR)) ⟨hpre.1, vk_recv C.2.2.2.2.2.2.2.2.2.1 hi hS, hpre.2⟩ rfl hA (hl.1.trans C.2.2.2.1) hst (lv_room hW) hd (by rw [C.2.2.2.2.2.2.2.1, h0.1, h0.2]; exact hnz)
end
abbrev rm_j0 : Room := { frames := 0, cells := 0, slots := 0, locals := 0 }
abbrev rm_j1 : Room := { frames := 1, cells := 0, slots := 0, locals := 30 }
abbrev rm_j2 : Room := { frames := 2, cells := 0, slots := 0, locals := 60 }
abbrev rm_j3 : Room := { frames := 3, cells := 0, slots := 0, locals := 90 }
theorem ms_J0_1059 : MS RJ0 1059 yJ3_checkIndex_8e157 cJ3_checkIndex_8e157 3 (some .int) 3 := ⟨tb2 209 rfl rfl, tb2 210 rfl rfl, tb1 16 rfl rfl, tb2 211 rfl rfl, by decide +kernel⟩
theorem ms_J1_9 : MS RJ1 9 yJ0_checkIndex_df160 cJ0_checkIndex_df160 2 none 2 := ⟨tb2 204 rfl rfl, tb2 205 rfl rfl, tb1 14 rfl rfl, tb2 206 rfl rfl, by decide +kernel⟩
theorem ms_J0_495 : MS RJ0 495 yJ1_charAt_3b067 cJ1_charAt_3b067 2 (some .char) 2 := ⟨tb2 201 rfl rfl, tb2 202 rfl rfl, tb1 15 rfl rfl, tb2 203 rfl rfl, by decide +kernel⟩
theorem mv_J0_335 : MV RJ0 335 RJ0 yJ0_coder_7d493 cJ0_coder_7d493 1 (some .byte) 0 := ⟨tb2 187 rfl rfl, tb2 188 rfl rfl, tb2 189 rfl rfl, tb1 14 rfl rfl, tb2 190 rfl rfl, by decide +kernel⟩
theorem mv_J0_492 : MV RJ0 492 RJ0 yJ0_isLatin1_aae02 cJ0_isLatin1_aae02 1 (some .boolean) 0 := ⟨tb2 197 rfl rfl, tb2 198 rfl rfl, tb2 199 rfl rfl, tb1 14 rfl rfl, tb2 200 rfl rfl, by decide +kernel⟩
theorem fj_9 : Cond.fieldLink RJ0 9 "java/lang/String" "value" "[B" ∈ gT := tb6 174 rfl rfl
theorem fj_15 : Cond.fieldLink RJ0 15 "java/lang/String" "coder" "B" ∈ gT := tb6 175 rfl rfl
theorem fj_38 : Cond.fieldLink RJ0 38 "java/lang/String" "COMPACT_STRINGS" "Z" ∈ gT := tb2 191 rfl rfl
theorem fj_1053 : Cond.fieldLink RJ0 1053 "jdk/internal/util/Preconditions" "SIOOBE_FORMATTER" "Ljava/util/function/BiFunction;" ∈ gT := tb2 207 rfl rfl
theorem k_J3_check (E : Ev) (j m : Int32) (v : Value) (hv : v.isRef = true) (h0 : ¬ j < 0) (h1 : j < m) : Mt E yJ3_checkIndex_8e157 cJ3_checkIndex_8e157 3 (some .int) rm_j0 [.int j, .int m, v] [] [] (some (.int j)) := by
  refine Mt.intro (lv := [(0, .int j), (1, .int m), (2, v)]) (by decide +kernel) (by cases v <;> first | exact Nat.le_of_ble_eq_true rfl | cases hv) rfl (fun X C K => ?_)
  have C : CX E X cJ3_checkIndex_8e157 RJ3 3 rm_j0 := C
  refine g_iload_n (pc := 0) C dJ3_checkIndex_8e157_0 0 rfl ?_
  refine b_if_lt (pc := 1) (F1 := (none : Option Unit)) (F2 := some ()) (r := ()) 9 C dJ3_checkIndex_8e157_1 (by decide) (if_neg h0) (fun c _ => absurd c h0) (fun _ _ => ?_)
  refine g_iload_n (pc := 4) C dJ3_checkIndex_8e157_4 0 rfl ?_
  refine g_iload_n (pc := 5) C dJ3_checkIndex_8e157_5 1 rfl ?_
  refine b_icmp_lt (pc := 6) (F1 := some ()) (F2 := (none : Option Unit)) (r := ()) 16 C dJ3_checkIndex_8e157_6 (by decide) (if_pos h1) (fun _ _ => ?_) (fun c _ => absurd h1 c)
  refine g_iload_n (pc := 16) C dJ3_checkIndex_8e157_16 0 rfl ?_
  exact g_iret (pc := 17) C K dJ3_checkIndex_8e157_17
theorem k_J0_check (E : Ev) (j m : Int32) (h0 : ¬ j < 0) (h1 : j < m) : Mt E yJ0_checkIndex_df160 cJ0_checkIndex_df160 2 none rm_j1 [.int j, .int m] [] [] none := by
  refine Mt.intro (lv := [(0, .int j), (1, .int m)]) (by decide +kernel) (Nat.le_of_ble_eq_true rfl) rfl (fun X C K => ?_)
  have C : CX E X cJ0_checkIndex_df160 RJ0 2 rm_j1 := C
  obtain ⟨v, hv, hZ⟩ := C.2.2.2.2.2.2.2.2.2.2.2.2.2.2.2.2
  refine g_iload_n (pc := 0) C dJ0_checkIndex_df160_0 0 rfl ?_
  refine g_iload_n (pc := 1) C dJ0_checkIndex_df160_1 1 rfl ?_
  refine g_gets (pc := 2) C hZ fj_1053 dJ0_checkIndex_df160_2 ?_
  refine g_callS (pc := 5) (ws' := []) (st1 := [.int j]) C ms_J0_1059 (k_J3_check E j m v hv h0 h1) [] rfl rfl rfl [] 0 rfl rfl rfl ⟨by decide, by decide⟩ ⟨rfl, rfl⟩ ⟨Nat.zero_le _, Nat.zero_le _⟩ rfl rfl rfl (Nat.le_of_ble_eq_true rfl) dJ0_checkIndex_df160_5 ?_
  refine g_pop (pc := 8) C dJ0_checkIndex_df160_8 rfl ?_
  exact g_vret (pc := 9) C K dJ0_checkIndex_df160_9
theorem k_J1_charAt (E : Ev) (i : Nat) (hi : i < 5) (j : Int32) (hj : inb j (zLen.getD i 0)) : Mt E yJ1_charAt_3b067 cJ1_charAt_3b067 2 (some .char) rm_j2 [.ref (E.2.2.2.2 i), .int j] [] [] (some (.int (zch i (ix j)))) := by
  obtain ⟨a1, a2, a3⟩ := nI_lt_len hi hj
  refine Mt.intro (lv := [(0, .ref (E.2.2.2.2 i)), (1, .int j)]) (by decide +kernel) (Nat.le_of_ble_eq_true rfl) rfl (fun X C K => ?_)
  have C : CX E X cJ1_charAt_3b067 RJ1 2 rm_j2 := C
  have hT := (C.2.2.2.2.2.2.2.2.2.1.1 i hi).2.2.2
  refine g_iload_n (pc := 0) C dJ1_charAt_3b067_0 1 rfl ?_
  refine g_aload_n (pc := 1) C dJ1_charAt_3b067_1 0 rfl ?_
  refine g_talen (pc := 2) C hT dJ1_charAt_3b067_2 ?_
  refine g_callS (pc := 3) (ws' := []) (st1 := []) C ms_J1_9 (k_J0_check E j _ a1 a2) [] rfl rfl rfl [] 0 rfl rfl rfl ⟨by decide, by decide⟩ ⟨rfl, rfl⟩ ⟨Nat.zero_le _, Nat.zero_le _⟩ rfl rfl rfl (Nat.le_of_ble_eq_true rfl) dJ1_charAt_3b067_3 ?_
  refine g_aload_n (pc := 6) C dJ1_charAt_3b067_6 0 rfl ?_
  refine g_iload_n (pc := 7) C dJ1_charAt_3b067_7 1 rfl ?_
  refine g_tald (pc := 8) C hT hj dJ1_charAt_3b067_8 ?_
  refine g_sipush (pc := 9) (v := 255) C dJ1_charAt_3b067_9 (by decide) ?_
  refine g_iand (pc := 12) C dJ1_charAt_3b067_12 ?_
  refine g_i2c (pc := 13) C dJ1_charAt_3b067_13 ?_
  obtain ⟨e1, e2⟩ := zch_ok i hi (ix j) a3
  show G E X 0 0 [] _ (13 + 1) [.int (((zch i (ix j)) &&& 255).toUInt32 % 65536).toInt32]
  rw [e1]
  exact g_zret (pc := 14) C K e2 dJ1_charAt_3b067_14
theorem k_J0_isLatin1 (E : Ev) (i : Nat) (hi : i < 5) : Mt E yJ0_isLatin1_aae02 cJ0_isLatin1_aae02 1 (some .boolean) rm_j0 [.ref (E.2.2.2.1 i)] [] [] (some (.int 1)) := by
  refine Mt.intro (lv := [(0, .ref (E.2.2.2.1 i))]) (by decide +kernel) (Nat.le_of_ble_eq_true rfl) rfl (fun X C K => ?_)
  have C : CX E X cJ0_isLatin1_aae02 RJ0 1 rm_j0 := C
  have hF := (C.2.2.2.2.2.2.2.2.2.1.1 i hi).2.1
  refine g_gets (pc := 0) C C.2.2.2.2.2.2.2.2.2.2.1 fj_38 dJ0_isLatin1_aae02_0 ?_
  refine b_if_eq (pc := 3) (F1 := (none : Option Unit)) (F2 := some ()) (r := ()) 17 C dJ0_isLatin1_aae02_3 (by decide) (if_neg (by decide)) (fun c _ => absurd c (by decide)) (fun _ _ => ?_)
  refine g_aload_n (pc := 6) C dJ0_isLatin1_aae02_6 0 rfl ?_
  refine g_osf (pc := 7) C hF fj_15 dJ0_isLatin1_aae02_7 ?_
  refine b_if_ne (pc := 10) (F1 := some ()) (F2 := (none : Option Unit)) (r := ()) 17 C dJ0_isLatin1_aae02_10 (by decide) (if_pos rfl) (fun c _ => absurd rfl c) (fun _ _ => ?_)
  refine g_iconst (pc := 13) (v := 1) C dJ0_isLatin1_aae02_13 (by decide) ?_
  refine g_goto (pc := 14) 18 C dJ0_isLatin1_aae02_14 (by decide) ?_
  exact g_zret (pc := 18) C K rfl dJ0_isLatin1_aae02_18
theorem k_J0_coder (E : Ev) (i : Nat) (hi : i < 5) : Mt E yJ0_coder_7d493 cJ0_coder_7d493 1 (some .byte) rm_j0 [.ref (E.2.2.2.1 i)] [] [] (some (.int 0)) := by
  refine Mt.intro (lv := [(0, .ref (E.2.2.2.1 i))]) (by decide +kernel) (Nat.le_of_ble_eq_true rfl) rfl (fun X C K => ?_)
  have C : CX E X cJ0_coder_7d493 RJ0 1 rm_j0 := C
  have hF := (C.2.2.2.2.2.2.2.2.2.1.1 i hi).2.1
  refine g_gets (pc := 0) C C.2.2.2.2.2.2.2.2.2.2.1 fj_38 dJ0_coder_7d493_0 ?_
  refine b_if_eq (pc := 3) (F1 := (none : Option Unit)) (F2 := some ()) (r := ()) 13 C dJ0_coder_7d493_3 (by decide) (if_neg (by decide)) (fun c _ => absurd c (by decide)) (fun _ _ => ?_)
  refine g_aload_n (pc := 6) C dJ0_coder_7d493_6 0 rfl ?_
  refine g_osf (pc := 7) C hF fj_15 dJ0_coder_7d493_7 ?_
  refine g_goto (pc := 10) 14 C dJ0_coder_7d493_10 (by decide) ?_
  exact g_zret (pc := 14) C K rfl dJ0_coder_7d493_14
theorem k_J0_length (E : Ev) (i : Nat) (hi : i < 5) : Mt E yJ0_length_8abf5 cJ0_length_8abf5 1 (some .int) rm_j1 [.ref (E.2.2.2.1 i)] [] [] (some (.int (nI (zLen.getD i 0)))) := by
  refine Mt.intro (lv := [(0, .ref (E.2.2.2.1 i))]) (by decide +kernel) (Nat.le_of_ble_eq_true rfl) rfl (fun X C K => ?_)
  have C : CX E X cJ0_length_8abf5 RJ0 1 rm_j1 := C
  have hF := (C.2.2.2.2.2.2.2.2.2.1.1 i hi).2.2
  refine g_aload_n (pc := 0) C dJ0_length_8abf5_0 0 rfl ?_
  refine g_osf (pc := 1) C hF.1 fj_9 dJ0_length_8abf5_1 ?_
  refine g_talen (pc := 4) C hF.2 dJ0_length_8abf5_4 ?_
  refine g_aload_n (pc := 5) C dJ0_length_8abf5_5 0 rfl ?_
  refine g_callVz (pc := 6) (i := i) (As := []) (st := [.int (Int32.ofNat (zLen.getD i 0))]) (st1 := [.int 0, .int (Int32.ofNat (zLen.getD i 0))]) C hi mv_J0_335 (k_J0_coder E i hi) ⟨by decide, by decide⟩ ⟨rfl, rfl⟩ ⟨Nat.zero_le _, Nat.zero_le _⟩ rfl rfl rfl (Nat.le_of_ble_eq_true rfl) dJ0_length_8abf5_6 ?_
  refine g_ishr (pc := 9) C dJ0_length_8abf5_9 ?_
  rw [(zlen_ok i hi).2]
  exact g_iret (pc := 10) C K dJ0_length_8abf5_10
theorem k_J0_charAt (E : Ev) (i : Nat) (hi : i < 5) (j : Int32) (hj : inb j (zLen.getD i 0)) : Mt E yJ0_charAt_5068e cJ0_charAt_5068e 2 (some .char) rm_j3 [.ref (E.2.2.2.1 i), .int j] [] [] (some (.int (zch i (ix j)))) := by
  refine Mt.intro (lv := [(0, .ref (E.2.2.2.1 i)), (1, .int j)]) (by decide +kernel) (Nat.le_of_ble_eq_true rfl) rfl (fun X C K => ?_)
  have C : CX E X cJ0_charAt_5068e RJ0 2 rm_j3 := C
  have hF := (C.2.2.2.2.2.2.2.2.2.1.1 i hi).2.2
  have e2 := (zch_ok i hi (ix j) (nI_lt_len hi hj).2.2).2
  refine g_aload_n (pc := 0) C dJ0_charAt_5068e_0 0 rfl ?_
  refine g_callVz (pc := 1) (i := i) (As := []) (st := []) (st1 := [.int 1]) C hi mv_J0_492 (k_J0_isLatin1 E i hi) ⟨by decide, by decide⟩ ⟨rfl, rfl⟩ ⟨Nat.zero_le _, Nat.zero_le _⟩ rfl rfl rfl (Nat.le_of_ble_eq_true rfl) dJ0_charAt_5068e_1 ?_
  refine b_if_eq (pc := 4) (F1 := (none : Option Unit)) (F2 := some ()) (r := ()) 16 C dJ0_charAt_5068e_4 (by decide) (if_neg (by decide)) (fun c _ => absurd c (by decide)) (fun _ _ => ?_)
  refine g_aload_n (pc := 7) C dJ0_charAt_5068e_7 0 rfl ?_
  refine g_osf (pc := 8) C hF.1 fj_9 dJ0_charAt_5068e_8 ?_
  refine g_iload_n (pc := 11) C dJ0_charAt_5068e_11 1 rfl ?_
  refine g_callS (pc := 12) (ws' := []) (st1 := [.int (zch i (ix j))]) C ms_J0_495 (k_J1_charAt E i hi j hj) [] rfl rfl rfl [] 0 rfl rfl rfl ⟨by decide, by decide⟩ ⟨rfl, rfl⟩ ⟨Nat.zero_le _, Nat.zero_le _⟩ rfl rfl rfl (Nat.le_of_ble_eq_true rfl) dJ0_charAt_5068e_12 ?_
  exact g_zret (pc := 15) C K e2 dJ0_charAt_5068e_15
section
variable {E : Ev} {X : Cx} {n z : Nat} {ws : va_W} {lv : List (Nat × Value)} {pc : Nat} {st : List Value} {cc : ByteArray} {own : String} {nL index : Nat} {rm : Room}
theorem g_slen {i : Nat} (C : CX E X cc own nL rm) (hm : MV own index RJ0 yJ0_length_8abf5 cJ0_length_8abf5 1 (some .int) 0) (hi : i < 5) (hR : 5 ≤ rm.frames ∧ 120 ≤ rm.locals) (hnz : n ≤ rm.cells ∧ z ≤ rm.slots) (hW : (st.map fun v => v.category).sum ≤ 8) (hd : decode cc pc = .ok (.invokevirtual index, 3)) (kk : G E X n z ws lv (pc + 3) (.int (nI (zLen.getD i 0)) :: st)) : G E X n z ws lv pc (.ref (E.2.2.2.1 i) :: st) :=
  g_callVz (As := []) C hi hm (k_J0_length E i hi) ⟨by show 1 + 1 ≤ rm.frames; omega, by show 8 + (1 + 11) + 30 ≤ rm.locals; omega⟩ ⟨rfl, rfl⟩ hnz rfl rfl rfl hW hd kk
theorem g_schar {i : Nat} {j : Int32} (C : CX E X cc own nL rm) (hm : MV own index RJ0 yJ0_charAt_5068e cJ0_charAt_5068e 2 (some .char) 1) (hi : i < 5) (hj : inb j (zLen.getD i 0)) (hR : 5 ≤ rm.frames ∧ 120 ≤ rm.locals) (hnz : n ≤ rm.cells ∧ z ≤ rm.slots) (hW : (st.map fun v => v.category).sum ≤ 8) (hd : decode cc pc = .ok (.invokevirtual index, 3)) (kk : G E X n z ws lv (pc + 3) (.int (zch i (ix j)) :: st)) : G E X n z ws lv pc (.int j :: .ref (E.2.2.2.1 i) :: st) :=
  g_callVz (As := [.int j]) C hi hm (k_J0_charAt E i hi j hj) ⟨by show 3 + 1 ≤ rm.frames; omega, by show 8 + (2 + 11) + 90 ≤ rm.locals; omega⟩ ⟨rfl, rfl⟩ hnz rfl rfl rfl hW hd kk
end
