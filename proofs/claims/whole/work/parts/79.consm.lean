theorem oi_X12_1 : Cond.methodLink RX12 1 objectInit ∈ gT ∧ Cond.instanceMethod objectInit ∈ gT ∧ Cond.code objectInit ⟨#[0xb1]⟩ 1 none ∈ gT := ⟨tb4 205 rfl rfl, tb1 27 rfl rfl, tb1 28 rfl rfl⟩
theorem fpF_X12_7 : FP RX12 7 12 0 true (.array .int) := ⟨_, _, _, tyX12, rfl, inX12, by decide, tb4 214 rfl rfl, tyX12_ok, nmX12, rfl, by decide +kernel, fun h => by first | rfl | cases h⟩
theorem fpF_X12_13 : FP RX12 13 12 1 true (.array .int) := ⟨_, _, _, tyX12, rfl, inX12, by decide, tb4 215 rfl rfl, tyX12_ok, nmX12, rfl, by decide +kernel, fun h => by first | rfl | cases h⟩
theorem fpF_X12_16 : FP RX12 16 12 2 true (.array .boolean) := ⟨_, _, _, tyX12, rfl, inX12, by decide, tb4 216 rfl rfl, tyX12_ok, nmX12, rfl, by decide +kernel, fun h => by first | rfl | cases h⟩
theorem fpF_X12_20 : FP RX12 20 12 5 true (.array .int) := ⟨_, _, _, tyX12, rfl, inX12, by decide, tb4 219 rfl rfl, tyX12_ok, nmX12, rfl, by decide +kernel, fun h => by first | rfl | cases h⟩
theorem fpF_X12_23 : FP RX12 23 12 10 true (.array .int) := ⟨_, _, _, tyX12, rfl, inX12, by decide, tb4 224 rfl rfl, tyX12_ok, nmX12, rfl, by decide +kernel, fun h => by first | rfl | cases h⟩
theorem fpF_X12_26 : FP RX12 26 12 19 true (.array .int) := ⟨_, _, _, tyX12, rfl, inX12, by decide, tb4 233 rfl rfl, tyX12_ok, nmX12, rfl, by decide +kernel, fun h => by first | rfl | cases h⟩
theorem fpF_X12_29 : FP RX12 29 12 20 true (.array .int) := ⟨_, _, _, tyX12, rfl, inX12, by decide, tb4 234 rfl rfl, tyX12_ok, nmX12, rfl, by decide +kernel, fun h => by first | rfl | cases h⟩
theorem fpF_X12_32 : FP RX12 32 12 26 true (.array .int) := ⟨_, _, _, tyX12, rfl, inX12, by decide, tb5 0 rfl rfl, tyX12_ok, nmX12, rfl, by decide +kernel, fun h => by first | rfl | cases h⟩
theorem fpF_X12_35 : FP RX12 35 12 27 true (.array .int) := ⟨_, _, _, tyX12, rfl, inX12, by decide, tb5 1 rfl rfl, tyX12_ok, nmX12, rfl, by decide +kernel, fun h => by first | rfl | cases h⟩
theorem fpF_X12_38 : FP RX12 38 12 28 true (.array .int) := ⟨_, _, _, tyX12, rfl, inX12, by decide, tb5 2 rfl rfl, tyX12_ok, nmX12, rfl, by decide +kernel, fun h => by first | rfl | cases h⟩
theorem fpF_X12_41 : FP RX12 41 12 29 true (.array .int) := ⟨_, _, _, tyX12, rfl, inX12, by decide, tb5 3 rfl rfl, tyX12_ok, nmX12, rfl, by decide +kernel, fun h => by first | rfl | cases h⟩
theorem fpF_X12_44 : FP RX12 44 12 30 true (.array .int) := ⟨_, _, _, tyX12, rfl, inX12, by decide, tb5 4 rfl rfl, tyX12_ok, nmX12, rfl, by decide +kernel, fun h => by first | rfl | cases h⟩
theorem fpF_X12_47 : FP RX12 47 12 32 true (.array .int) := ⟨_, _, _, tyX12, rfl, inX12, by decide, tb5 6 rfl rfl, tyX12_ok, nmX12, rfl, by decide +kernel, fun h => by first | rfl | cases h⟩
theorem dX12_init_0 : decode cX12_init 0 = .ok (.aload_n 0, 1) := by decide +kernel
theorem dX12_init_1 : decode cX12_init 1 = .ok (.invokespecial 1, 3) := by decide +kernel
theorem dX12_init_4 : decode cX12_init 4 = .ok (.aload_n 0, 1) := by decide +kernel
theorem dX12_init_5 : decode cX12_init 5 = .ok (.sipush 198, 3) := by decide +kernel
theorem dX12_init_8 : decode cX12_init 8 = .ok (.newarray .int, 2) := by decide +kernel
theorem dX12_init_10 : decode cX12_init 10 = .ok (.putfield 7, 3) := by decide +kernel
theorem dX12_init_13 : decode cX12_init 13 = .ok (.aload_n 0, 1) := by decide +kernel
theorem dX12_init_14 : decode cX12_init 14 = .ok (.bipush 66, 2) := by decide +kernel
theorem dX12_init_16 : decode cX12_init 16 = .ok (.newarray .int, 2) := by decide +kernel
theorem dX12_init_18 : decode cX12_init 18 = .ok (.putfield 13, 3) := by decide +kernel
theorem dX12_init_21 : decode cX12_init 21 = .ok (.aload_n 0, 1) := by decide +kernel
theorem dX12_init_22 : decode cX12_init 22 = .ok (.iconst 2, 1) := by decide +kernel
theorem dX12_init_23 : decode cX12_init 23 = .ok (.newarray .boolean, 2) := by decide +kernel
theorem dX12_init_25 : decode cX12_init 25 = .ok (.putfield 16, 3) := by decide +kernel
theorem dX12_init_28 : decode cX12_init 28 = .ok (.aload_n 0, 1) := by decide +kernel
theorem dX12_init_29 : decode cX12_init 29 = .ok (.bipush 66, 2) := by decide +kernel
theorem dX12_init_31 : decode cX12_init 31 = .ok (.newarray .int, 2) := by decide +kernel
theorem dX12_init_33 : decode cX12_init 33 = .ok (.putfield 20, 3) := by decide +kernel
theorem dX12_init_36 : decode cX12_init 36 = .ok (.aload_n 0, 1) := by decide +kernel
theorem dX12_init_37 : decode cX12_init 37 = .ok (.sipush 160, 3) := by decide +kernel
theorem dX12_init_40 : decode cX12_init 40 = .ok (.newarray .int, 2) := by decide +kernel
theorem dX12_init_42 : decode cX12_init 42 = .ok (.putfield 23, 3) := by decide +kernel
theorem dX12_init_45 : decode cX12_init 45 = .ok (.aload_n 0, 1) := by decide +kernel
theorem dX12_init_46 : decode cX12_init 46 = .ok (.iconst 4, 1) := by decide +kernel
theorem dX12_init_47 : decode cX12_init 47 = .ok (.newarray .int, 2) := by decide +kernel
theorem dX12_init_49 : decode cX12_init 49 = .ok (.putfield 26, 3) := by decide +kernel
theorem dX12_init_52 : decode cX12_init 52 = .ok (.aload_n 0, 1) := by decide +kernel
theorem dX12_init_53 : decode cX12_init 53 = .ok (.iconst 4, 1) := by decide +kernel
theorem dX12_init_54 : decode cX12_init 54 = .ok (.newarray .int, 2) := by decide +kernel
theorem dX12_init_56 : decode cX12_init 56 = .ok (.putfield 29, 3) := by decide +kernel
theorem dX12_init_59 : decode cX12_init 59 = .ok (.aload_n 0, 1) := by decide +kernel
theorem dX12_init_60 : decode cX12_init 60 = .ok (.bipush 40, 2) := by decide +kernel
theorem dX12_init_62 : decode cX12_init 62 = .ok (.newarray .int, 2) := by decide +kernel
theorem dX12_init_64 : decode cX12_init 64 = .ok (.putfield 32, 3) := by decide +kernel
theorem dX12_init_67 : decode cX12_init 67 = .ok (.aload_n 0, 1) := by decide +kernel
theorem dX12_init_68 : decode cX12_init 68 = .ok (.sipush 160, 3) := by decide +kernel
theorem dX12_init_71 : decode cX12_init 71 = .ok (.newarray .int, 2) := by decide +kernel
theorem dX12_init_73 : decode cX12_init 73 = .ok (.putfield 35, 3) := by decide +kernel
theorem dX12_init_76 : decode cX12_init 76 = .ok (.aload_n 0, 1) := by decide +kernel
theorem dX12_init_77 : decode cX12_init 77 = .ok (.iconst 4, 1) := by decide +kernel
theorem dX12_init_78 : decode cX12_init 78 = .ok (.newarray .int, 2) := by decide +kernel
theorem dX12_init_80 : decode cX12_init 80 = .ok (.putfield 38, 3) := by decide +kernel
theorem dX12_init_83 : decode cX12_init 83 = .ok (.aload_n 0, 1) := by decide +kernel
theorem dX12_init_84 : decode cX12_init 84 = .ok (.iconst 4, 1) := by decide +kernel
theorem dX12_init_85 : decode cX12_init 85 = .ok (.newarray .int, 2) := by decide +kernel
theorem dX12_init_87 : decode cX12_init 87 = .ok (.putfield 41, 3) := by decide +kernel
theorem dX12_init_90 : decode cX12_init 90 = .ok (.aload_n 0, 1) := by decide +kernel
theorem dX12_init_91 : decode cX12_init 91 = .ok (.sipush 160, 3) := by decide +kernel
theorem dX12_init_94 : decode cX12_init 94 = .ok (.newarray .int, 2) := by decide +kernel
theorem dX12_init_96 : decode cX12_init 96 = .ok (.putfield 44, 3) := by decide +kernel
theorem dX12_init_99 : decode cX12_init 99 = .ok (.aload_n 0, 1) := by decide +kernel
theorem dX12_init_100 : decode cX12_init 100 = .ok (.bipush 66, 2) := by decide +kernel
theorem dX12_init_102 : decode cX12_init 102 = .ok (.newarray .int, 2) := by decide +kernel
theorem dX12_init_104 : decode cX12_init 104 = .ok (.putfield 47, 3) := by decide +kernel
theorem dX12_init_107 : decode cX12_init 107 = .ok (.iconst 0, 1) := by decide +kernel
theorem dX12_init_108 : decode cX12_init 108 = .ok (.istore_n 1, 1) := by decide +kernel
theorem dX12_init_109 : decode cX12_init 109 = .ok (.iload_n 1, 1) := by decide +kernel
theorem dX12_init_110 : decode cX12_init 110 = .ok (.iconst 4, 1) := by decide +kernel
theorem dX12_init_111 : decode cX12_init 111 = .ok (.if_icmp .ge 17, 3) := by decide +kernel
theorem dX12_init_114 : decode cX12_init 114 = .ok (.aload_n 0, 1) := by decide +kernel
theorem dX12_init_115 : decode cX12_init 115 = .ok (.getfield 38, 3) := by decide +kernel
theorem dX12_init_118 : decode cX12_init 118 = .ok (.iload_n 1, 1) := by decide +kernel
theorem dX12_init_119 : decode cX12_init 119 = .ok (.bipush (-4), 2) := by decide +kernel
theorem dX12_init_121 : decode cX12_init 121 = .ok (.iastore, 1) := by decide +kernel
theorem dX12_init_122 : decode cX12_init 122 = .ok (.iinc 1 1, 3) := by decide +kernel
theorem dX12_init_125 : decode cX12_init 125 = .ok (.goto (-16), 3) := by decide +kernel
theorem dX12_init_128 : decode cX12_init 128 = .ok (.aload_n 0, 1) := by decide +kernel
theorem dX12_init_129 : decode cX12_init 129 = .ok (.invokevirtual 50, 3) := by decide +kernel
theorem dX12_init_132 : decode cX12_init 132 = .ok (.aload_n 0, 1) := by decide +kernel
theorem dX12_init_133 : decode cX12_init 133 = .ok (.invokevirtual 53, 3) := by decide +kernel
theorem dX12_init_136 : decode cX12_init 136 = .ok (.return_, 1) := by decide +kernel
abbrev rm_X12_init : Room := { frames := 1, cells := 13, slots := 934, locals := 21 }
set_option maxHeartbeats 4000000 in
set_option maxRecDepth 100000 in
theorem c_X12_init (E : Ev) (a : Nat) : Mc E yX12_init cX12_init 2 rm_X12_init [.ref a] [(a, .inr (12, [.null, .null, .null, .int 0, .int 0, .null, .int 0, .int 0, .int 0, .int 0, .null, .int 0, .int 0, .int 0, .int 0, .int 0, .int 0, .int 0, .int 0, .null, .null, .int 0, .int 0, .long 0, .long 0, .long 0, .null, .null, .null, .null, .null, .int 0, .null]))] (fun w => ∃ (q1 q2 q3 q4 q5 q6 q7 q8 q9 q10 q11 q12 q13 : Nat) (v1 : Int32 × Int32 × Int32 × Int32 × (Nat → Int32)) (v2 : Int32 × Int32 × (Nat → Int32) × (Nat → Int32)), f_X12_firstDraft 0 0 0 0 (fun _ => 0) = some v1 ∧ f_X12_keepDraft 0 0 v1.1 v1.2.1 v1.2.2.2.2 (fun _ => 0) (fun _ => 0) = some v2 ∧ w = [oX12 a q1 q2 q3 v2.1 v2.2.1 q4 v1.1 v1.2.1 v1.2.2.1 v1.2.2.2.1 q5 0 0 0 0 0 0 0 0 q6 q7 0 0 0 0 0 q8 q9 q10 q11 q12 0 q13, aI E q1 198 v2.2.2.2, aI E q2 66 (fun _ => 0), aZ E q3 2 v2.2.2.1, aI E q4 66 v1.2.2.2.2, aI E q5 160 (fun _ => 0), aI E q6 4 (fun _ => 0), aI E q7 4 (fun _ => 0), aI E q8 40 (fun _ => 0), aI E q9 160 (fun _ => 0), aI E q10 4 (upd (upd (upd (upd (fun _ => 0) (ix 0) ((-4))) (ix 1) ((-4))) (ix 2) ((-4))) (ix 3) ((-4))), aI E q11 4 (fun _ => 0), aI E q12 160 (fun _ => 0), aI E q13 66 (fun _ => 0)]) := by
  refine Mc.intro (lv := [(0, .ref a)]) (by decide +kernel) rfl (Nat.le_of_ble_eq_true rfl) rfl (fun X C hi hN K => ?_)
  have C : CX E X cX12_init RX12 2 rm_X12_init := C
  refine g_aload_n (pc := 0) C dX12_init_0 0 rfl ?_
  refine g_objInit (pc := 1) C oi_X12_1 (by decide) (Nat.le_of_ble_eq_true rfl) dX12_init_1 ?_
  refine g_aload_n (pc := 4) C dX12_init_4 0 rfl ?_
  refine g_sipush (pc := 5) (v := 198) C dX12_init_5 (by decide) ?_
  refine g_newI (pc := 8) 198 C ka_I (by decide) (by decide) (by decide) (by decide) (by decide) dX12_init_8 (fun q1 => ?_)
  refine g_eqw (ws' := [(a, .inr (12, [.null, .null, .null, .int 0, .int 0, .null, .int 0, .int 0, .int 0, .int 0, .null, .int 0, .int 0, .int 0, .int 0, .int 0, .int 0, .int 0, .int 0, .null, .null, .int 0, .int 0, .long 0, .long 0, .long 0, .null, .null, .null, .null, .null, .int 0, .null])), aI E q1 198 (fun _ => 0)]) rfl ?_
  refine g_putF (pc := 10) (ws' := [(a, .inr (12, [.ref q1, .null, .null, .int 0, .int 0, .null, .int 0, .int 0, .int 0, .int 0, .null, .int 0, .int 0, .int 0, .int 0, .int 0, .int 0, .int 0, .int 0, .null, .null, .int 0, .int 0, .long 0, .long 0, .long 0, .null, .null, .null, .null, .null, .int 0, .null])), aI E q1 198 (fun _ => 0)]) 0 C hi fpF_X12_7 rfl rfl rfl (Nat.le_of_ble_eq_true rfl) rfl dX12_init_10 ?_
  refine g_aload_n (pc := 13) C dX12_init_13 0 rfl ?_
  refine g_bipush (pc := 14) (v := 66) C dX12_init_14 (by decide) ?_
  refine g_newI (pc := 16) 66 C ka_I (by decide) (by decide) (by decide) (by decide) (by decide) dX12_init_16 (fun q2 => ?_)
  refine g_eqw (ws' := [(a, .inr (12, [.ref q1, .null, .null, .int 0, .int 0, .null, .int 0, .int 0, .int 0, .int 0, .null, .int 0, .int 0, .int 0, .int 0, .int 0, .int 0, .int 0, .int 0, .null, .null, .int 0, .int 0, .long 0, .long 0, .long 0, .null, .null, .null, .null, .null, .int 0, .null])), aI E q1 198 (fun _ => 0), aI E q2 66 (fun _ => 0)]) rfl ?_
  refine g_putF (pc := 18) (ws' := [(a, .inr (12, [.ref q1, .ref q2, .null, .int 0, .int 0, .null, .int 0, .int 0, .int 0, .int 0, .null, .int 0, .int 0, .int 0, .int 0, .int 0, .int 0, .int 0, .int 0, .null, .null, .int 0, .int 0, .long 0, .long 0, .long 0, .null, .null, .null, .null, .null, .int 0, .null])), aI E q1 198 (fun _ => 0), aI E q2 66 (fun _ => 0)]) 0 C hi fpF_X12_13 rfl rfl rfl (Nat.le_of_ble_eq_true rfl) rfl dX12_init_18 ?_
  refine g_aload_n (pc := 21) C dX12_init_21 0 rfl ?_
  refine g_iconst (pc := 22) (v := 2) C dX12_init_22 (by decide) ?_
  refine g_newZ (pc := 23) 2 C ka_Z (by decide) (by decide) (by decide) (by decide) (by decide) dX12_init_23 (fun q3 => ?_)
  refine g_eqw (ws' := [(a, .inr (12, [.ref q1, .ref q2, .null, .int 0, .int 0, .null, .int 0, .int 0, .int 0, .int 0, .null, .int 0, .int 0, .int 0, .int 0, .int 0, .int 0, .int 0, .int 0, .null, .null, .int 0, .int 0, .long 0, .long 0, .long 0, .null, .null, .null, .null, .null, .int 0, .null])), aI E q1 198 (fun _ => 0), aI E q2 66 (fun _ => 0), aZ E q3 2 (fun _ => 0)]) rfl ?_
  refine g_putF (pc := 25) (ws' := [(a, .inr (12, [.ref q1, .ref q2, .ref q3, .int 0, .int 0, .null, .int 0, .int 0, .int 0, .int 0, .null, .int 0, .int 0, .int 0, .int 0, .int 0, .int 0, .int 0, .int 0, .null, .null, .int 0, .int 0, .long 0, .long 0, .long 0, .null, .null, .null, .null, .null, .int 0, .null])), aI E q1 198 (fun _ => 0), aI E q2 66 (fun _ => 0), aZ E q3 2 (fun _ => 0)]) 0 C hi fpF_X12_16 rfl rfl rfl (Nat.le_of_ble_eq_true rfl) rfl dX12_init_25 ?_
  refine g_aload_n (pc := 28) C dX12_init_28 0 rfl ?_
  refine g_bipush (pc := 29) (v := 66) C dX12_init_29 (by decide) ?_
  refine g_newI (pc := 31) 66 C ka_I (by decide) (by decide) (by decide) (by decide) (by decide) dX12_init_31 (fun q4 => ?_)
  refine g_eqw (ws' := [(a, .inr (12, [.ref q1, .ref q2, .ref q3, .int 0, .int 0, .null, .int 0, .int 0, .int 0, .int 0, .null, .int 0, .int 0, .int 0, .int 0, .int 0, .int 0, .int 0, .int 0, .null, .null, .int 0, .int 0, .long 0, .long 0, .long 0, .null, .null, .null, .null, .null, .int 0, .null])), aI E q1 198 (fun _ => 0), aI E q2 66 (fun _ => 0), aZ E q3 2 (fun _ => 0), aI E q4 66 (fun _ => 0)]) rfl ?_
  refine g_putF (pc := 33) (ws' := [(a, .inr (12, [.ref q1, .ref q2, .ref q3, .int 0, .int 0, .ref q4, .int 0, .int 0, .int 0, .int 0, .null, .int 0, .int 0, .int 0, .int 0, .int 0, .int 0, .int 0, .int 0, .null, .null, .int 0, .int 0, .long 0, .long 0, .long 0, .null, .null, .null, .null, .null, .int 0, .null])), aI E q1 198 (fun _ => 0), aI E q2 66 (fun _ => 0), aZ E q3 2 (fun _ => 0), aI E q4 66 (fun _ => 0)]) 0 C hi fpF_X12_20 rfl rfl rfl (Nat.le_of_ble_eq_true rfl) rfl dX12_init_33 ?_
  refine g_aload_n (pc := 36) C dX12_init_36 0 rfl ?_
  refine g_sipush (pc := 37) (v := 160) C dX12_init_37 (by decide) ?_
  refine g_newI (pc := 40) 160 C ka_I (by decide) (by decide) (by decide) (by decide) (by decide) dX12_init_40 (fun q5 => ?_)
  refine g_eqw (ws' := [(a, .inr (12, [.ref q1, .ref q2, .ref q3, .int 0, .int 0, .ref q4, .int 0, .int 0, .int 0, .int 0, .null, .int 0, .int 0, .int 0, .int 0, .int 0, .int 0, .int 0, .int 0, .null, .null, .int 0, .int 0, .long 0, .long 0, .long 0, .null, .null, .null, .null, .null, .int 0, .null])), aI E q1 198 (fun _ => 0), aI E q2 66 (fun _ => 0), aZ E q3 2 (fun _ => 0), aI E q4 66 (fun _ => 0), aI E q5 160 (fun _ => 0)]) rfl ?_
  refine g_putF (pc := 42) (ws' := [(a, .inr (12, [.ref q1, .ref q2, .ref q3, .int 0, .int 0, .ref q4, .int 0, .int 0, .int 0, .int 0, .ref q5, .int 0, .int 0, .int 0, .int 0, .int 0, .int 0, .int 0, .int 0, .null, .null, .int 0, .int 0, .long 0, .long 0, .long 0, .null, .null, .null, .null, .null, .int 0, .null])), aI E q1 198 (fun _ => 0), aI E q2 66 (fun _ => 0), aZ E q3 2 (fun _ => 0), aI E q4 66 (fun _ => 0), aI E q5 160 (fun _ => 0)]) 0 C hi fpF_X12_23 rfl rfl rfl (Nat.le_of_ble_eq_true rfl) rfl dX12_init_42 ?_
  refine g_aload_n (pc := 45) C dX12_init_45 0 rfl ?_
  refine g_iconst (pc := 46) (v := 4) C dX12_init_46 (by decide) ?_
  refine g_newI (pc := 47) 4 C ka_I (by decide) (by decide) (by decide) (by decide) (by decide) dX12_init_47 (fun q6 => ?_)
  refine g_eqw (ws' := [(a, .inr (12, [.ref q1, .ref q2, .ref q3, .int 0, .int 0, .ref q4, .int 0, .int 0, .int 0, .int 0, .ref q5, .int 0, .int 0, .int 0, .int 0, .int 0, .int 0, .int 0, .int 0, .null, .null, .int 0, .int 0, .long 0, .long 0, .long 0, .null, .null, .null, .null, .null, .int 0, .null])), aI E q1 198 (fun _ => 0), aI E q2 66 (fun _ => 0), aZ E q3 2 (fun _ => 0), aI E q4 66 (fun _ => 0), aI E q5 160 (fun _ => 0), aI E q6 4 (fun _ => 0)]) rfl ?_
  refine g_putF (pc := 49) (ws' := [(a, .inr (12, [.ref q1, .ref q2, .ref q3, .int 0, .int 0, .ref q4, .int 0, .int 0, .int 0, .int 0, .ref q5, .int 0, .int 0, .int 0, .int 0, .int 0, .int 0, .int 0, .int 0, .ref q6, .null, .int 0, .int 0, .long 0, .long 0, .long 0, .null, .null, .null, .null, .null, .int 0, .null])), aI E q1 198 (fun _ => 0), aI E q2 66 (fun _ => 0), aZ E q3 2 (fun _ => 0), aI E q4 66 (fun _ => 0), aI E q5 160 (fun _ => 0), aI E q6 4 (fun _ => 0)]) 0 C hi fpF_X12_26 rfl rfl rfl (Nat.le_of_ble_eq_true rfl) rfl dX12_init_49 ?_
  refine g_aload_n (pc := 52) C dX12_init_52 0 rfl ?_
  refine g_iconst (pc := 53) (v := 4) C dX12_init_53 (by decide) ?_
  refine g_newI (pc := 54) 4 C ka_I (by decide) (by decide) (by decide) (by decide) (by decide) dX12_init_54 (fun q7 => ?_)
  refine g_eqw (ws' := [(a, .inr (12, [.ref q1, .ref q2, .ref q3, .int 0, .int 0, .ref q4, .int 0, .int 0, .int 0, .int 0, .ref q5, .int 0, .int 0, .int 0, .int 0, .int 0, .int 0, .int 0, .int 0, .ref q6, .null, .int 0, .int 0, .long 0, .long 0, .long 0, .null, .null, .null, .null, .null, .int 0, .null])), aI E q1 198 (fun _ => 0), aI E q2 66 (fun _ => 0), aZ E q3 2 (fun _ => 0), aI E q4 66 (fun _ => 0), aI E q5 160 (fun _ => 0), aI E q6 4 (fun _ => 0), aI E q7 4 (fun _ => 0)]) rfl ?_
  refine g_putF (pc := 56) (ws' := [(a, .inr (12, [.ref q1, .ref q2, .ref q3, .int 0, .int 0, .ref q4, .int 0, .int 0, .int 0, .int 0, .ref q5, .int 0, .int 0, .int 0, .int 0, .int 0, .int 0, .int 0, .int 0, .ref q6, .ref q7, .int 0, .int 0, .long 0, .long 0, .long 0, .null, .null, .null, .null, .null, .int 0, .null])), aI E q1 198 (fun _ => 0), aI E q2 66 (fun _ => 0), aZ E q3 2 (fun _ => 0), aI E q4 66 (fun _ => 0), aI E q5 160 (fun _ => 0), aI E q6 4 (fun _ => 0), aI E q7 4 (fun _ => 0)]) 0 C hi fpF_X12_29 rfl rfl rfl (Nat.le_of_ble_eq_true rfl) rfl dX12_init_56 ?_
  refine g_aload_n (pc := 59) C dX12_init_59 0 rfl ?_
  refine g_bipush (pc := 60) (v := 40) C dX12_init_60 (by decide) ?_
  refine g_newI (pc := 62) 40 C ka_I (by decide) (by decide) (by decide) (by decide) (by decide) dX12_init_62 (fun q8 => ?_)
  refine g_eqw (ws' := [(a, .inr (12, [.ref q1, .ref q2, .ref q3, .int 0, .int 0, .ref q4, .int 0, .int 0, .int 0, .int 0, .ref q5, .int 0, .int 0, .int 0, .int 0, .int 0, .int 0, .int 0, .int 0, .ref q6, .ref q7, .int 0, .int 0, .long 0, .long 0, .long 0, .null, .null, .null, .null, .null, .int 0, .null])), aI E q1 198 (fun _ => 0), aI E q2 66 (fun _ => 0), aZ E q3 2 (fun _ => 0), aI E q4 66 (fun _ => 0), aI E q5 160 (fun _ => 0), aI E q6 4 (fun _ => 0), aI E q7 4 (fun _ => 0), aI E q8 40 (fun _ => 0)]) rfl ?_
  refine g_putF (pc := 64) (ws' := [(a, .inr (12, [.ref q1, .ref q2, .ref q3, .int 0, .int 0, .ref q4, .int 0, .int 0, .int 0, .int 0, .ref q5, .int 0, .int 0, .int 0, .int 0, .int 0, .int 0, .int 0, .int 0, .ref q6, .ref q7, .int 0, .int 0, .long 0, .long 0, .long 0, .ref q8, .null, .null, .null, .null, .int 0, .null])), aI E q1 198 (fun _ => 0), aI E q2 66 (fun _ => 0), aZ E q3 2 (fun _ => 0), aI E q4 66 (fun _ => 0), aI E q5 160 (fun _ => 0), aI E q6 4 (fun _ => 0), aI E q7 4 (fun _ => 0), aI E q8 40 (fun _ => 0)]) 0 C hi fpF_X12_32 rfl rfl rfl (Nat.le_of_ble_eq_true rfl) rfl dX12_init_64 ?_
  refine g_aload_n (pc := 67) C dX12_init_67 0 rfl ?_
  refine g_sipush (pc := 68) (v := 160) C dX12_init_68 (by decide) ?_
  refine g_newI (pc := 71) 160 C ka_I (by decide) (by decide) (by decide) (by decide) (by decide) dX12_init_71 (fun q9 => ?_)
  refine g_eqw (ws' := [(a, .inr (12, [.ref q1, .ref q2, .ref q3, .int 0, .int 0, .ref q4, .int 0, .int 0, .int 0, .int 0, .ref q5, .int 0, .int 0, .int 0, .int 0, .int 0, .int 0, .int 0, .int 0, .ref q6, .ref q7, .int 0, .int 0, .long 0, .long 0, .long 0, .ref q8, .null, .null, .null, .null, .int 0, .null])), aI E q1 198 (fun _ => 0), aI E q2 66 (fun _ => 0), aZ E q3 2 (fun _ => 0), aI E q4 66 (fun _ => 0), aI E q5 160 (fun _ => 0), aI E q6 4 (fun _ => 0), aI E q7 4 (fun _ => 0), aI E q8 40 (fun _ => 0), aI E q9 160 (fun _ => 0)]) rfl ?_
  refine g_putF (pc := 73) (ws' := [(a, .inr (12, [.ref q1, .ref q2, .ref q3, .int 0, .int 0, .ref q4, .int 0, .int 0, .int 0, .int 0, .ref q5, .int 0, .int 0, .int 0, .int 0, .int 0, .int 0, .int 0, .int 0, .ref q6, .ref q7, .int 0, .int 0, .long 0, .long 0, .long 0, .ref q8, .ref q9, .null, .null, .null, .int 0, .null])), aI E q1 198 (fun _ => 0), aI E q2 66 (fun _ => 0), aZ E q3 2 (fun _ => 0), aI E q4 66 (fun _ => 0), aI E q5 160 (fun _ => 0), aI E q6 4 (fun _ => 0), aI E q7 4 (fun _ => 0), aI E q8 40 (fun _ => 0), aI E q9 160 (fun _ => 0)]) 0 C hi fpF_X12_35 rfl rfl rfl (Nat.le_of_ble_eq_true rfl) rfl dX12_init_73 ?_
  refine g_aload_n (pc := 76) C dX12_init_76 0 rfl ?_
  refine g_iconst (pc := 77) (v := 4) C dX12_init_77 (by decide) ?_
  refine g_newI (pc := 78) 4 C ka_I (by decide) (by decide) (by decide) (by decide) (by decide) dX12_init_78 (fun q10 => ?_)
  refine g_eqw (ws' := [(a, .inr (12, [.ref q1, .ref q2, .ref q3, .int 0, .int 0, .ref q4, .int 0, .int 0, .int 0, .int 0, .ref q5, .int 0, .int 0, .int 0, .int 0, .int 0, .int 0, .int 0, .int 0, .ref q6, .ref q7, .int 0, .int 0, .long 0, .long 0, .long 0, .ref q8, .ref q9, .null, .null, .null, .int 0, .null])), aI E q1 198 (fun _ => 0), aI E q2 66 (fun _ => 0), aZ E q3 2 (fun _ => 0), aI E q4 66 (fun _ => 0), aI E q5 160 (fun _ => 0), aI E q6 4 (fun _ => 0), aI E q7 4 (fun _ => 0), aI E q8 40 (fun _ => 0), aI E q9 160 (fun _ => 0), aI E q10 4 (fun _ => 0)]) rfl ?_
  refine g_putF (pc := 80) (ws' := [(a, .inr (12, [.ref q1, .ref q2, .ref q3, .int 0, .int 0, .ref q4, .int 0, .int 0, .int 0, .int 0, .ref q5, .int 0, .int 0, .int 0, .int 0, .int 0, .int 0, .int 0, .int 0, .ref q6, .ref q7, .int 0, .int 0, .long 0, .long 0, .long 0, .ref q8, .ref q9, .ref q10, .null, .null, .int 0, .null])), aI E q1 198 (fun _ => 0), aI E q2 66 (fun _ => 0), aZ E q3 2 (fun _ => 0), aI E q4 66 (fun _ => 0), aI E q5 160 (fun _ => 0), aI E q6 4 (fun _ => 0), aI E q7 4 (fun _ => 0), aI E q8 40 (fun _ => 0), aI E q9 160 (fun _ => 0), aI E q10 4 (fun _ => 0)]) 0 C hi fpF_X12_38 rfl rfl rfl (Nat.le_of_ble_eq_true rfl) rfl dX12_init_80 ?_
  refine g_aload_n (pc := 83) C dX12_init_83 0 rfl ?_
  refine g_iconst (pc := 84) (v := 4) C dX12_init_84 (by decide) ?_
  refine g_newI (pc := 85) 4 C ka_I (by decide) (by decide) (by decide) (by decide) (by decide) dX12_init_85 (fun q11 => ?_)
  refine g_eqw (ws' := [(a, .inr (12, [.ref q1, .ref q2, .ref q3, .int 0, .int 0, .ref q4, .int 0, .int 0, .int 0, .int 0, .ref q5, .int 0, .int 0, .int 0, .int 0, .int 0, .int 0, .int 0, .int 0, .ref q6, .ref q7, .int 0, .int 0, .long 0, .long 0, .long 0, .ref q8, .ref q9, .ref q10, .null, .null, .int 0, .null])), aI E q1 198 (fun _ => 0), aI E q2 66 (fun _ => 0), aZ E q3 2 (fun _ => 0), aI E q4 66 (fun _ => 0), aI E q5 160 (fun _ => 0), aI E q6 4 (fun _ => 0), aI E q7 4 (fun _ => 0), aI E q8 40 (fun _ => 0), aI E q9 160 (fun _ => 0), aI E q10 4 (fun _ => 0), aI E q11 4 (fun _ => 0)]) rfl ?_
  refine g_putF (pc := 87) (ws' := [(a, .inr (12, [.ref q1, .ref q2, .ref q3, .int 0, .int 0, .ref q4, .int 0, .int 0, .int 0, .int 0, .ref q5, .int 0, .int 0, .int 0, .int 0, .int 0, .int 0, .int 0, .int 0, .ref q6, .ref q7, .int 0, .int 0, .long 0, .long 0, .long 0, .ref q8, .ref q9, .ref q10, .ref q11, .null, .int 0, .null])), aI E q1 198 (fun _ => 0), aI E q2 66 (fun _ => 0), aZ E q3 2 (fun _ => 0), aI E q4 66 (fun _ => 0), aI E q5 160 (fun _ => 0), aI E q6 4 (fun _ => 0), aI E q7 4 (fun _ => 0), aI E q8 40 (fun _ => 0), aI E q9 160 (fun _ => 0), aI E q10 4 (fun _ => 0), aI E q11 4 (fun _ => 0)]) 0 C hi fpF_X12_41 rfl rfl rfl (Nat.le_of_ble_eq_true rfl) rfl dX12_init_87 ?_
  refine g_aload_n (pc := 90) C dX12_init_90 0 rfl ?_
  refine g_sipush (pc := 91) (v := 160) C dX12_init_91 (by decide) ?_
  refine g_newI (pc := 94) 160 C ka_I (by decide) (by decide) (by decide) (by decide) (by decide) dX12_init_94 (fun q12 => ?_)
  refine g_eqw (ws' := [(a, .inr (12, [.ref q1, .ref q2, .ref q3, .int 0, .int 0, .ref q4, .int 0, .int 0, .int 0, .int 0, .ref q5, .int 0, .int 0, .int 0, .int 0, .int 0, .int 0, .int 0, .int 0, .ref q6, .ref q7, .int 0, .int 0, .long 0, .long 0, .long 0, .ref q8, .ref q9, .ref q10, .ref q11, .null, .int 0, .null])), aI E q1 198 (fun _ => 0), aI E q2 66 (fun _ => 0), aZ E q3 2 (fun _ => 0), aI E q4 66 (fun _ => 0), aI E q5 160 (fun _ => 0), aI E q6 4 (fun _ => 0), aI E q7 4 (fun _ => 0), aI E q8 40 (fun _ => 0), aI E q9 160 (fun _ => 0), aI E q10 4 (fun _ => 0), aI E q11 4 (fun _ => 0), aI E q12 160 (fun _ => 0)]) rfl ?_
  refine g_putF (pc := 96) (ws' := [(a, .inr (12, [.ref q1, .ref q2, .ref q3, .int 0, .int 0, .ref q4, .int 0, .int 0, .int 0, .int 0, .ref q5, .int 0, .int 0, .int 0, .int 0, .int 0, .int 0, .int 0, .int 0, .ref q6, .ref q7, .int 0, .int 0, .long 0, .long 0, .long 0, .ref q8, .ref q9, .ref q10, .ref q11, .ref q12, .int 0, .null])), aI E q1 198 (fun _ => 0), aI E q2 66 (fun _ => 0), aZ E q3 2 (fun _ => 0), aI E q4 66 (fun _ => 0), aI E q5 160 (fun _ => 0), aI E q6 4 (fun _ => 0), aI E q7 4 (fun _ => 0), aI E q8 40 (fun _ => 0), aI E q9 160 (fun _ => 0), aI E q10 4 (fun _ => 0), aI E q11 4 (fun _ => 0), aI E q12 160 (fun _ => 0)]) 0 C hi fpF_X12_44 rfl rfl rfl (Nat.le_of_ble_eq_true rfl) rfl dX12_init_96 ?_
  refine g_aload_n (pc := 99) C dX12_init_99 0 rfl ?_
  refine g_bipush (pc := 100) (v := 66) C dX12_init_100 (by decide) ?_
  refine g_newI (pc := 102) 66 C ka_I (by decide) (by decide) (by decide) (by decide) (by decide) dX12_init_102 (fun q13 => ?_)
  refine g_eqw (ws' := [(a, .inr (12, [.ref q1, .ref q2, .ref q3, .int 0, .int 0, .ref q4, .int 0, .int 0, .int 0, .int 0, .ref q5, .int 0, .int 0, .int 0, .int 0, .int 0, .int 0, .int 0, .int 0, .ref q6, .ref q7, .int 0, .int 0, .long 0, .long 0, .long 0, .ref q8, .ref q9, .ref q10, .ref q11, .ref q12, .int 0, .null])), aI E q1 198 (fun _ => 0), aI E q2 66 (fun _ => 0), aZ E q3 2 (fun _ => 0), aI E q4 66 (fun _ => 0), aI E q5 160 (fun _ => 0), aI E q6 4 (fun _ => 0), aI E q7 4 (fun _ => 0), aI E q8 40 (fun _ => 0), aI E q9 160 (fun _ => 0), aI E q10 4 (fun _ => 0), aI E q11 4 (fun _ => 0), aI E q12 160 (fun _ => 0), aI E q13 66 (fun _ => 0)]) rfl ?_
  refine g_putF (pc := 104) (ws' := [oX12 a q1 q2 q3 0 0 q4 0 0 0 0 q5 0 0 0 0 0 0 0 0 q6 q7 0 0 0 0 0 q8 q9 q10 q11 q12 0 q13, aI E q1 198 (fun _ => 0), aI E q2 66 (fun _ => 0), aZ E q3 2 (fun _ => 0), aI E q4 66 (fun _ => 0), aI E q5 160 (fun _ => 0), aI E q6 4 (fun _ => 0), aI E q7 4 (fun _ => 0), aI E q8 40 (fun _ => 0), aI E q9 160 (fun _ => 0), aI E q10 4 (fun _ => 0), aI E q11 4 (fun _ => 0), aI E q12 160 (fun _ => 0), aI E q13 66 (fun _ => 0)]) 0 C hi fpF_X12_47 rfl rfl rfl (Nat.le_of_ble_eq_true rfl) rfl dX12_init_104 ?_
  refine g_iconst (pc := 107) (v := 0) C dX12_init_107 (by decide) ?_
  refine g_istore_n (pc := 108) (lv' := [(1, .int 0), (0, .ref a)]) C dX12_init_108 (by decide) rfl ?_
  refine g_iload_n (pc := 109) C dX12_init_109 0 rfl ?_
  refine g_iconst (pc := 110) (v := 4) C dX12_init_110 (by decide) ?_
  refine b_icmp_ge (pc := 111) (F1 := (none : Option Unit)) (F2 := some ()) (r := ()) 128 C dX12_init_111 (by decide) (if_neg (by decide)) (fun c _ => absurd c (by decide)) (fun _ _ => ?_)
  refine g_aload_n (pc := 114) C dX12_init_114 1 rfl ?_
  refine g_get (pc := 115) 0 C fl_X12_38 rfl rfl dX12_init_115 ?_
  refine g_iload_n (pc := 118) C dX12_init_118 0 rfl ?_
  refine g_bipush (pc := 119) (v := (-4)) C dX12_init_119 (by decide) ?_
  refine b_iast (pc := 121) (F := some ()) (r := ()) (ws' := [oX12 a q1 q2 q3 0 0 q4 0 0 0 0 q5 0 0 0 0 0 0 0 0 q6 q7 0 0 0 0 0 q8 q9 q10 q11 q12 0 q13, aI E q1 198 (fun _ => 0), aI E q2 66 (fun _ => 0), aZ E q3 2 (fun _ => 0), aI E q4 66 (fun _ => 0), aI E q5 160 (fun _ => 0), aI E q6 4 (fun _ => 0), aI E q7 4 (fun _ => 0), aI E q8 40 (fun _ => 0), aI E q9 160 (fun _ => 0), aI E q10 4 (upd (fun _ => 0) (ix 0) ((-4))), aI E q11 4 (fun _ => 0), aI E q12 160 (fun _ => 0), aI E q13 66 (fun _ => 0)]) 10 C rfl rfl dX12_init_121 (if_pos (by decide)) (fun _ _ => ?_)
  refine g_iinc (pc := 122) (v := 1) (lv' := [(1, .int 1), (0, .ref a)]) C dX12_init_122 0 rfl (by decide) (by decide) rfl ?_
  refine g_goto (pc := 125) 109 C dX12_init_125 (by decide) ?_
  refine g_iload_n (pc := 109) C dX12_init_109 0 rfl ?_
  refine g_iconst (pc := 110) (v := 4) C dX12_init_110 (by decide) ?_
  refine b_icmp_ge (pc := 111) (F1 := (none : Option Unit)) (F2 := some ()) (r := ()) 128 C dX12_init_111 (by decide) (if_neg (by decide)) (fun c _ => absurd c (by decide)) (fun _ _ => ?_)
  refine g_aload_n (pc := 114) C dX12_init_114 1 rfl ?_
  refine g_get (pc := 115) 0 C fl_X12_38 rfl rfl dX12_init_115 ?_
  refine g_iload_n (pc := 118) C dX12_init_118 0 rfl ?_
  refine g_bipush (pc := 119) (v := (-4)) C dX12_init_119 (by decide) ?_
  refine b_iast (pc := 121) (F := some ()) (r := ()) (ws' := [oX12 a q1 q2 q3 0 0 q4 0 0 0 0 q5 0 0 0 0 0 0 0 0 q6 q7 0 0 0 0 0 q8 q9 q10 q11 q12 0 q13, aI E q1 198 (fun _ => 0), aI E q2 66 (fun _ => 0), aZ E q3 2 (fun _ => 0), aI E q4 66 (fun _ => 0), aI E q5 160 (fun _ => 0), aI E q6 4 (fun _ => 0), aI E q7 4 (fun _ => 0), aI E q8 40 (fun _ => 0), aI E q9 160 (fun _ => 0), aI E q10 4 (upd (upd (fun _ => 0) (ix 0) ((-4))) (ix 1) ((-4))), aI E q11 4 (fun _ => 0), aI E q12 160 (fun _ => 0), aI E q13 66 (fun _ => 0)]) 10 C rfl rfl dX12_init_121 (if_pos (by decide)) (fun _ _ => ?_)
  refine g_iinc (pc := 122) (v := 2) (lv' := [(1, .int 2), (0, .ref a)]) C dX12_init_122 0 rfl (by decide) (by decide) rfl ?_
  refine g_goto (pc := 125) 109 C dX12_init_125 (by decide) ?_
  refine g_iload_n (pc := 109) C dX12_init_109 0 rfl ?_
  refine g_iconst (pc := 110) (v := 4) C dX12_init_110 (by decide) ?_
  refine b_icmp_ge (pc := 111) (F1 := (none : Option Unit)) (F2 := some ()) (r := ()) 128 C dX12_init_111 (by decide) (if_neg (by decide)) (fun c _ => absurd c (by decide)) (fun _ _ => ?_)
  refine g_aload_n (pc := 114) C dX12_init_114 1 rfl ?_
  refine g_get (pc := 115) 0 C fl_X12_38 rfl rfl dX12_init_115 ?_
  refine g_iload_n (pc := 118) C dX12_init_118 0 rfl ?_
  refine g_bipush (pc := 119) (v := (-4)) C dX12_init_119 (by decide) ?_
  refine b_iast (pc := 121) (F := some ()) (r := ()) (ws' := [oX12 a q1 q2 q3 0 0 q4 0 0 0 0 q5 0 0 0 0 0 0 0 0 q6 q7 0 0 0 0 0 q8 q9 q10 q11 q12 0 q13, aI E q1 198 (fun _ => 0), aI E q2 66 (fun _ => 0), aZ E q3 2 (fun _ => 0), aI E q4 66 (fun _ => 0), aI E q5 160 (fun _ => 0), aI E q6 4 (fun _ => 0), aI E q7 4 (fun _ => 0), aI E q8 40 (fun _ => 0), aI E q9 160 (fun _ => 0), aI E q10 4 (upd (upd (upd (fun _ => 0) (ix 0) ((-4))) (ix 1) ((-4))) (ix 2) ((-4))), aI E q11 4 (fun _ => 0), aI E q12 160 (fun _ => 0), aI E q13 66 (fun _ => 0)]) 10 C rfl rfl dX12_init_121 (if_pos (by decide)) (fun _ _ => ?_)
  refine g_iinc (pc := 122) (v := 3) (lv' := [(1, .int 3), (0, .ref a)]) C dX12_init_122 0 rfl (by decide) (by decide) rfl ?_
  refine g_goto (pc := 125) 109 C dX12_init_125 (by decide) ?_
  refine g_iload_n (pc := 109) C dX12_init_109 0 rfl ?_
  refine g_iconst (pc := 110) (v := 4) C dX12_init_110 (by decide) ?_
  refine b_icmp_ge (pc := 111) (F1 := (none : Option Unit)) (F2 := some ()) (r := ()) 128 C dX12_init_111 (by decide) (if_neg (by decide)) (fun c _ => absurd c (by decide)) (fun _ _ => ?_)
  refine g_aload_n (pc := 114) C dX12_init_114 1 rfl ?_
  refine g_get (pc := 115) 0 C fl_X12_38 rfl rfl dX12_init_115 ?_
  refine g_iload_n (pc := 118) C dX12_init_118 0 rfl ?_
  refine g_bipush (pc := 119) (v := (-4)) C dX12_init_119 (by decide) ?_
  refine b_iast (pc := 121) (F := some ()) (r := ()) (ws' := [oX12 a q1 q2 q3 0 0 q4 0 0 0 0 q5 0 0 0 0 0 0 0 0 q6 q7 0 0 0 0 0 q8 q9 q10 q11 q12 0 q13, aI E q1 198 (fun _ => 0), aI E q2 66 (fun _ => 0), aZ E q3 2 (fun _ => 0), aI E q4 66 (fun _ => 0), aI E q5 160 (fun _ => 0), aI E q6 4 (fun _ => 0), aI E q7 4 (fun _ => 0), aI E q8 40 (fun _ => 0), aI E q9 160 (fun _ => 0), aI E q10 4 (upd (upd (upd (upd (fun _ => 0) (ix 0) ((-4))) (ix 1) ((-4))) (ix 2) ((-4))) (ix 3) ((-4))), aI E q11 4 (fun _ => 0), aI E q12 160 (fun _ => 0), aI E q13 66 (fun _ => 0)]) 10 C rfl rfl dX12_init_121 (if_pos (by decide)) (fun _ _ => ?_)
  refine g_iinc (pc := 122) (v := 4) (lv' := [(1, .int 4), (0, .ref a)]) C dX12_init_122 0 rfl (by decide) (by decide) rfl ?_
  refine g_goto (pc := 125) 109 C dX12_init_125 (by decide) ?_
  refine g_iload_n (pc := 109) C dX12_init_109 0 rfl ?_
  refine g_iconst (pc := 110) (v := 4) C dX12_init_110 (by decide) ?_
  refine b_icmp_ge (pc := 111) (F1 := some ()) (F2 := (none : Option Unit)) (r := ()) 128 C dX12_init_111 (by decide) (if_pos (by decide)) (fun _ _ => ?_) (fun c _ => absurd (by decide) c)
  refine g_aload_n (pc := 128) C dX12_init_128 1 rfl ?_
  obtain ⟨v1, hv1⟩ := q_firstDraft 0 0 0 0 (fun _ => 0)
  refine g_callV (pc := 129) (ws' := [oX12 a q1 q2 q3 0 0 q4 v1.1 v1.2.1 v1.2.2.1 v1.2.2.2.1 q5 0 0 0 0 0 0 0 0 q6 q7 0 0 0 0 0 q8 q9 q10 q11 q12 0 q13, aI E q1 198 (fun _ => 0), aI E q2 66 (fun _ => 0), aZ E q3 2 (fun _ => 0), aI E q4 66 v1.2.2.2.2, aI E q5 160 (fun _ => 0), aI E q6 4 (fun _ => 0), aI E q7 4 (fun _ => 0), aI E q8 40 (fun _ => 0), aI E q9 160 (fun _ => 0), aI E q10 4 (upd (upd (upd (upd (fun _ => 0) (ix 0) ((-4))) (ix 1) ((-4))) (ix 2) ((-4))) (ix 3) ((-4))), aI E q11 4 (fun _ => 0), aI E q12 160 (fun _ => 0), aI E q13 66 (fun _ => 0)]) (st1 := []) C mv_X12_50 (k_X12_firstDraft E a q4 q1 q2 q3 q5 q6 q7 q8 q9 q10 q11 q12 q13 0 0 0 0 0 0 0 0 0 0 0 0 0 0 0 0 0 0 0 0 (fun _ => 0) v1 hv1) [0, 4] rfl (by decide +kernel) rfl [some 0, none, none, none, some 1, none, none, none, none, none, none, none, none, none] 14 (by decide +kernel) rfl rfl 0 rfl rfl ⟨by decide, by decide⟩ ⟨rfl, rfl⟩ ⟨by decide, by decide⟩ rfl rfl rfl (Nat.le_of_ble_eq_true rfl) dX12_init_129 ?_
  refine g_aload_n (pc := 132) C dX12_init_132 1 rfl ?_
  obtain ⟨v2, hv2⟩ := q_keepDraft 0 0 v1.1 v1.2.1 v1.2.2.2.2 (fun _ => 0) (fun _ => 0)
  refine g_callV (pc := 133) (ws' := [oX12 a q1 q2 q3 v2.1 v2.2.1 q4 v1.1 v1.2.1 v1.2.2.1 v1.2.2.2.1 q5 0 0 0 0 0 0 0 0 q6 q7 0 0 0 0 0 q8 q9 q10 q11 q12 0 q13, aI E q1 198 v2.2.2.2, aI E q2 66 (fun _ => 0), aZ E q3 2 v2.2.2.1, aI E q4 66 v1.2.2.2.2, aI E q5 160 (fun _ => 0), aI E q6 4 (fun _ => 0), aI E q7 4 (fun _ => 0), aI E q8 40 (fun _ => 0), aI E q9 160 (fun _ => 0), aI E q10 4 (upd (upd (upd (upd (fun _ => 0) (ix 0) ((-4))) (ix 1) ((-4))) (ix 2) ((-4))) (ix 3) ((-4))), aI E q11 4 (fun _ => 0), aI E q12 160 (fun _ => 0), aI E q13 66 (fun _ => 0)]) (st1 := []) C mv_X12_53 (k_X12_keepDraft E a q4 q3 q1 q2 q5 q6 q7 q8 q9 q10 q11 q12 q13 0 0 v1.1 v1.2.1 v1.2.2.1 v1.2.2.2.1 0 0 0 0 0 0 0 0 0 0 0 0 0 0 v1.2.2.2.2 (fun _ => 0) (fun _ => 0) v2 hv2) [0, 4, 3, 1] rfl (by decide +kernel) rfl [some 0, some 3, none, some 2, some 1, none, none, none, none, none, none, none, none, none] 14 (by decide +kernel) rfl rfl 0 rfl rfl ⟨by decide, by decide⟩ ⟨rfl, rfl⟩ ⟨by decide, by decide⟩ rfl rfl rfl (Nat.le_of_ble_eq_true rfl) dX12_init_133 ?_
  refine g_wid (k := 13) (m := 934) (by decide) (by decide) ?_
  exact g_vret (pc := 136) C (K _ ⟨q1, q2, q3, q4, q5, q6, q7, q8, q9, q10, q11, q12, q13, v1, v2, hv1, hv2, rfl⟩) dX12_init_136
