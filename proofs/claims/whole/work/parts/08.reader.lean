theorem dX9_readName_0 : decode cX9_readName 0 = .ok (.aload_n 0, 1) := by decide +kernel
theorem dX9_readName_1 : decode cX9_readName 1 = .ok (.getfield 28, 3) := by decide +kernel
theorem dX9_readName_4 : decode cX9_readName 4 = .ok (.aload_n 0, 1) := by decide +kernel
theorem dX9_readName_5 : decode cX9_readName 5 = .ok (.getfield 37, 3) := by decide +kernel
theorem dX9_readName_8 : decode cX9_readName 8 = .ok (.getfield 54, 3) := by decide +kernel
theorem dX9_readName_11 : decode cX9_readName 11 = .ok (.if_icmp .ge 30, 3) := by decide +kernel
theorem dX9_readName_14 : decode cX9_readName 14 = .ok (.aload_n 0, 1) := by decide +kernel
theorem dX9_readName_15 : decode cX9_readName 15 = .ok (.getfield 37, 3) := by decide +kernel
theorem dX9_readName_18 : decode cX9_readName 18 = .ok (.aload_n 0, 1) := by decide +kernel
theorem dX9_readName_19 : decode cX9_readName 19 = .ok (.getfield 28, 3) := by decide +kernel
theorem dX9_readName_22 : decode cX9_readName 22 = .ok (.invokevirtual 110, 3) := by decide +kernel
theorem dX9_readName_25 : decode cX9_readName 25 = .ok (.ifCond .eq 16, 3) := by decide +kernel
theorem dX9_readName_28 : decode cX9_readName 28 = .ok (.aload_n 0, 1) := by decide +kernel
theorem dX9_readName_29 : decode cX9_readName 29 = .ok (.dup, 1) := by decide +kernel
theorem dX9_readName_30 : decode cX9_readName 30 = .ok (.getfield 28, 3) := by decide +kernel
theorem dX9_readName_33 : decode cX9_readName 33 = .ok (.iconst 1, 1) := by decide +kernel
theorem dX9_readName_34 : decode cX9_readName 34 = .ok (.iadd, 1) := by decide +kernel
theorem dX9_readName_35 : decode cX9_readName 35 = .ok (.putfield 28, 3) := by decide +kernel
theorem dX9_readName_38 : decode cX9_readName 38 = .ok (.goto (-38), 3) := by decide +kernel
theorem dX9_readName_41 : decode cX9_readName 41 = .ok (.aload_n 0, 1) := by decide +kernel
theorem dX9_readName_42 : decode cX9_readName 42 = .ok (.iconst 0, 1) := by decide +kernel
theorem dX9_readName_43 : decode cX9_readName 43 = .ok (.putfield 31, 3) := by decide +kernel
theorem dX9_readName_46 : decode cX9_readName 46 = .ok (.return_, 1) := by decide +kernel
def L_X9_readName_0 (c_t_tape_length : Int32) (r_t_tape_bytes : (Nat → Int32)) : Nat → Int32 → Option (Int32)
  | 0, _ => none
  | n + 1, y1 =>
    if c_t_tape_length ≤ y1 then
      (some y1)
    else
      ((f_X8_isLetter c_t_tape_length r_t_tape_bytes y1).bind (fun (v2 : Int32) =>
        if v2 = 0 then
          (some y1)
        else
          (L_X9_readName_0 c_t_tape_length r_t_tape_bytes n (y1 + 1))))
def f_X9_readName (c_t_behind : Int32) (c_t_sort : Int32) (c_t_tape_length : Int32) (r_t_tape_bytes : (Nat → Int32)) : Option (Int32 × Int32) :=
  (L_X9_readName_0 c_t_tape_length r_t_tape_bytes 400 c_t_behind).bind (fun (v4 : Int32) =>
    some ((v4, 0)))
abbrev rm_X9_readName : Room := { frames := 1, cells := 0, slots := 0, locals := 21 }
set_option maxHeartbeats 4000000 in
set_option maxRecDepth 100000 in
theorem lp_X9_readName_0 {E : Ev} {X : Cx} {a_t a_t_tape a_t_tape_bytes a_t_draft : Nat} (c_t_fault : Int32) (c_t_faultPlace : Int32) (c_t_place : Int32) (c_t_sort : Int32) (c_t_value : Int32) (c_t_tape_length : Int32) (r_t_tape_bytes : (Nat → Int32)) (C : CX E X cX9_readName RX9 1 rm_X9_readName) : ∀ (n : Nat) (y1 : Int32) (v : Int32), L_X9_readName_0 c_t_tape_length r_t_tape_bytes n y1 = some v → G E X 0 0 [oX9 a_t a_t_tape a_t_draft c_t_fault c_t_faultPlace c_t_place v c_t_sort c_t_value, oX8 a_t_tape a_t_tape_bytes c_t_tape_length, aI E a_t_tape_bytes 160 r_t_tape_bytes] [(0, .ref a_t)] 41 [] → G E X 0 0 [oX9 a_t a_t_tape a_t_draft c_t_fault c_t_faultPlace c_t_place y1 c_t_sort c_t_value, oX8 a_t_tape a_t_tape_bytes c_t_tape_length, aI E a_t_tape_bytes 160 r_t_tape_bytes] [(0, .ref a_t)] 0 [] := by
  intro n
  induction n with
  | zero => intro _ _ h; cases h
  | succ n ih =>
    intro y1 v h kk
    rw [L_X9_readName_0] at h
    refine g_aload_n (pc := 0) C dX9_readName_0 0 rfl ?_
    refine g_get (pc := 1) 0 C fl_X9_28 rfl rfl dX9_readName_1 ?_
    refine g_aload_n (pc := 4) C dX9_readName_4 0 rfl ?_
    refine g_get (pc := 5) 0 C fl_X9_37 rfl rfl dX9_readName_5 ?_
    refine g_get (pc := 8) 1 C fl_X9_54 rfl rfl dX9_readName_8 ?_
    refine b_icmp_ge (pc := 11) 41 C dX9_readName_11 (by decide) h (fun _ h => ?_) (fun _ h => ?_)
    · obtain rfl := Option.some.inj h
      refine g_lv [0] (lv' := [(0, .ref a_t)]) rfl ?_
      exact kk
    · refine g_aload_n (pc := 14) C dX9_readName_14 0 rfl ?_
      refine g_get (pc := 15) 0 C fl_X9_37 rfl rfl dX9_readName_15 ?_
      refine g_aload_n (pc := 18) C dX9_readName_18 0 rfl ?_
      refine g_get (pc := 19) 0 C fl_X9_28 rfl rfl dX9_readName_19 ?_
      obtain ⟨v2, hv2, h⟩ := o_bnd h
      refine g_callV (pc := 22) (ws' := [oX9 a_t a_t_tape a_t_draft c_t_fault c_t_faultPlace c_t_place y1 c_t_sort c_t_value, oX8 a_t_tape a_t_tape_bytes c_t_tape_length, aI E a_t_tape_bytes 160 r_t_tape_bytes]) (st1 := [.int v2]) C mv_X9_110 (k_X8_isLetter E a_t_tape a_t_tape_bytes c_t_tape_length r_t_tape_bytes y1 v2 hv2) [1, 2] rfl (by decide +kernel) rfl [none, some 0, some 1] 3 (by decide +kernel) rfl rfl 0 rfl rfl ⟨by decide, by decide⟩ ⟨rfl, rfl⟩ ⟨Nat.zero_le _, Nat.zero_le _⟩ rfl rfl rfl (Nat.le_of_ble_eq_true rfl) dX9_readName_22 ?_
      refine b_if_eq (pc := 25) 41 C dX9_readName_25 (by decide) h (fun _ h => ?_) (fun _ h => ?_)
      · obtain rfl := Option.some.inj h
        refine g_lv [0] (lv' := [(0, .ref a_t)]) rfl ?_
        exact kk
      · refine g_aload_n (pc := 28) C dX9_readName_28 0 rfl ?_
        refine g_dup (pc := 29) C dX9_readName_29 rfl ?_
        refine g_get (pc := 30) 0 C fl_X9_28 rfl rfl dX9_readName_30 ?_
        refine g_iconst (pc := 33) (v := 1) C dX9_readName_33 (by decide) ?_
        refine g_iadd (pc := 34) C dX9_readName_34 ?_
        refine g_put (pc := 35) (ws' := [oX9 a_t a_t_tape a_t_draft c_t_fault c_t_faultPlace c_t_place (y1 + 1) c_t_sort c_t_value, oX8 a_t_tape a_t_tape_bytes c_t_tape_length, aI E a_t_tape_bytes 160 r_t_tape_bytes]) 0 C fp_X9_28 rfl rfl rfl (Nat.le_of_ble_eq_true rfl) rfl dX9_readName_35 ?_
        refine g_goto (pc := 38) 0 C dX9_readName_38 (by decide) ?_
        refine g_lv [0] (lv' := [(0, .ref a_t)]) rfl ?_
        exact ih _ _ h kk
set_option maxHeartbeats 4000000 in
set_option maxRecDepth 100000 in
theorem k_X9_readName (E : Ev) (a_t a_t_tape a_t_tape_bytes a_t_draft : Nat) (c_t_fault : Int32) (c_t_faultPlace : Int32) (c_t_place : Int32) (c_t_behind : Int32) (c_t_sort : Int32) (c_t_value : Int32) (c_t_tape_length : Int32) (r_t_tape_bytes : (Nat → Int32)) (v : Int32 × Int32) (h : f_X9_readName c_t_behind c_t_sort c_t_tape_length r_t_tape_bytes = some v) : Mt E yX9_readName cX9_readName 1 none rm_X9_readName [.ref a_t] [oX9 a_t a_t_tape a_t_draft c_t_fault c_t_faultPlace c_t_place c_t_behind c_t_sort c_t_value, oX8 a_t_tape a_t_tape_bytes c_t_tape_length, aI E a_t_tape_bytes 160 r_t_tape_bytes] [oX9 a_t a_t_tape a_t_draft c_t_fault c_t_faultPlace c_t_place v.1 v.2 c_t_value, oX8 a_t_tape a_t_tape_bytes c_t_tape_length, aI E a_t_tape_bytes 160 r_t_tape_bytes] none := by
  refine Mt.intro (lv := [(0, .ref a_t)]) (by decide +kernel) (Nat.le_of_ble_eq_true rfl) rfl (fun X C K => ?_)
  have C : CX E X cX9_readName RX9 1 rm_X9_readName := C
  rw [f_X9_readName] at h
  obtain ⟨v4, hv4, h⟩ := o_bnd h
  refine g_lv [0] (lv' := [(0, .ref a_t)]) rfl ?_
  refine lp_X9_readName_0 c_t_fault c_t_faultPlace c_t_place c_t_sort c_t_value c_t_tape_length r_t_tape_bytes C 400 _ _ hv4 ?_
  refine g_aload_n (pc := 41) C dX9_readName_41 0 rfl ?_
  refine g_iconst (pc := 42) (v := 0) C dX9_readName_42 (by decide) ?_
  refine g_put (pc := 43) (ws' := [oX9 a_t a_t_tape a_t_draft c_t_fault c_t_faultPlace c_t_place v4 0 c_t_value, oX8 a_t_tape a_t_tape_bytes c_t_tape_length, aI E a_t_tape_bytes 160 r_t_tape_bytes]) 0 C fp_X9_31 rfl rfl rfl (Nat.le_of_ble_eq_true rfl) rfl dX9_readName_43 ?_
  obtain rfl := Option.some.inj h
  exact g_vret (pc := 46) C K dX9_readName_46
theorem dX9_readFigures_0 : decode cX9_readFigures 0 = .ok (.aload_n 0, 1) := by decide +kernel
theorem dX9_readFigures_1 : decode cX9_readFigures 1 = .ok (.iconst 0, 1) := by decide +kernel
theorem dX9_readFigures_2 : decode cX9_readFigures 2 = .ok (.putfield 34, 3) := by decide +kernel
theorem dX9_readFigures_5 : decode cX9_readFigures 5 = .ok (.aload_n 0, 1) := by decide +kernel
theorem dX9_readFigures_6 : decode cX9_readFigures 6 = .ok (.getfield 28, 3) := by decide +kernel
theorem dX9_readFigures_9 : decode cX9_readFigures 9 = .ok (.aload_n 0, 1) := by decide +kernel
theorem dX9_readFigures_10 : decode cX9_readFigures 10 = .ok (.getfield 37, 3) := by decide +kernel
theorem dX9_readFigures_13 : decode cX9_readFigures 13 = .ok (.getfield 54, 3) := by decide +kernel
theorem dX9_readFigures_16 : decode cX9_readFigures 16 = .ok (.if_icmp .ge 70, 3) := by decide +kernel
theorem dX9_readFigures_19 : decode cX9_readFigures 19 = .ok (.aload_n 0, 1) := by decide +kernel
theorem dX9_readFigures_20 : decode cX9_readFigures 20 = .ok (.getfield 37, 3) := by decide +kernel
theorem dX9_readFigures_23 : decode cX9_readFigures 23 = .ok (.aload_n 0, 1) := by decide +kernel
theorem dX9_readFigures_24 : decode cX9_readFigures 24 = .ok (.getfield 28, 3) := by decide +kernel
theorem dX9_readFigures_27 : decode cX9_readFigures 27 = .ok (.invokevirtual 116, 3) := by decide +kernel
theorem dX9_readFigures_30 : decode cX9_readFigures 30 = .ok (.ifCond .eq 56, 3) := by decide +kernel
theorem dX9_readFigures_33 : decode cX9_readFigures 33 = .ok (.aload_n 0, 1) := by decide +kernel
theorem dX9_readFigures_34 : decode cX9_readFigures 34 = .ok (.getfield 28, 3) := by decide +kernel
theorem dX9_readFigures_37 : decode cX9_readFigures 37 = .ok (.aload_n 0, 1) := by decide +kernel
theorem dX9_readFigures_38 : decode cX9_readFigures 38 = .ok (.getfield 25, 3) := by decide +kernel
theorem dX9_readFigures_41 : decode cX9_readFigures 41 = .ok (.iconst 2, 1) := by decide +kernel
theorem dX9_readFigures_42 : decode cX9_readFigures 42 = .ok (.iadd, 1) := by decide +kernel
theorem dX9_readFigures_43 : decode cX9_readFigures 43 = .ok (.if_icmp .ge 30, 3) := by decide +kernel
theorem dX9_readFigures_46 : decode cX9_readFigures 46 = .ok (.aload_n 0, 1) := by decide +kernel
theorem dX9_readFigures_47 : decode cX9_readFigures 47 = .ok (.aload_n 0, 1) := by decide +kernel
theorem dX9_readFigures_48 : decode cX9_readFigures 48 = .ok (.getfield 34, 3) := by decide +kernel
theorem dX9_readFigures_51 : decode cX9_readFigures 51 = .ok (.bipush 10, 2) := by decide +kernel
theorem dX9_readFigures_53 : decode cX9_readFigures 53 = .ok (.imul, 1) := by decide +kernel
theorem dX9_readFigures_54 : decode cX9_readFigures 54 = .ok (.aload_n 0, 1) := by decide +kernel
theorem dX9_readFigures_55 : decode cX9_readFigures 55 = .ok (.getfield 37, 3) := by decide +kernel
theorem dX9_readFigures_58 : decode cX9_readFigures 58 = .ok (.getfield 106, 3) := by decide +kernel
theorem dX9_readFigures_61 : decode cX9_readFigures 61 = .ok (.aload_n 0, 1) := by decide +kernel
theorem dX9_readFigures_62 : decode cX9_readFigures 62 = .ok (.getfield 28, 3) := by decide +kernel
theorem dX9_readFigures_65 : decode cX9_readFigures 65 = .ok (.iaload, 1) := by decide +kernel
theorem dX9_readFigures_66 : decode cX9_readFigures 66 = .ok (.iadd, 1) := by decide +kernel
theorem dX9_readFigures_67 : decode cX9_readFigures 67 = .ok (.bipush 48, 2) := by decide +kernel
theorem dX9_readFigures_69 : decode cX9_readFigures 69 = .ok (.isub, 1) := by decide +kernel
theorem dX9_readFigures_70 : decode cX9_readFigures 70 = .ok (.putfield 34, 3) := by decide +kernel
theorem dX9_readFigures_73 : decode cX9_readFigures 73 = .ok (.aload_n 0, 1) := by decide +kernel
theorem dX9_readFigures_74 : decode cX9_readFigures 74 = .ok (.dup, 1) := by decide +kernel
theorem dX9_readFigures_75 : decode cX9_readFigures 75 = .ok (.getfield 28, 3) := by decide +kernel
theorem dX9_readFigures_78 : decode cX9_readFigures 78 = .ok (.iconst 1, 1) := by decide +kernel
theorem dX9_readFigures_79 : decode cX9_readFigures 79 = .ok (.iadd, 1) := by decide +kernel
theorem dX9_readFigures_80 : decode cX9_readFigures 80 = .ok (.putfield 28, 3) := by decide +kernel
theorem dX9_readFigures_83 : decode cX9_readFigures 83 = .ok (.goto (-78), 3) := by decide +kernel
theorem dX9_readFigures_86 : decode cX9_readFigures 86 = .ok (.aload_n 0, 1) := by decide +kernel
theorem dX9_readFigures_87 : decode cX9_readFigures 87 = .ok (.aload_n 0, 1) := by decide +kernel
theorem dX9_readFigures_88 : decode cX9_readFigures 88 = .ok (.getfield 28, 3) := by decide +kernel
theorem dX9_readFigures_91 : decode cX9_readFigures 91 = .ok (.aload_n 0, 1) := by decide +kernel
theorem dX9_readFigures_92 : decode cX9_readFigures 92 = .ok (.getfield 25, 3) := by decide +kernel
theorem dX9_readFigures_95 : decode cX9_readFigures 95 = .ok (.isub, 1) := by decide +kernel
theorem dX9_readFigures_96 : decode cX9_readFigures 96 = .ok (.iconst 2, 1) := by decide +kernel
theorem dX9_readFigures_97 : decode cX9_readFigures 97 = .ok (.if_icmp .le 7, 3) := by decide +kernel
theorem dX9_readFigures_100 : decode cX9_readFigures 100 = .ok (.iconst 4, 1) := by decide +kernel
theorem dX9_readFigures_101 : decode cX9_readFigures 101 = .ok (.goto 4, 3) := by decide +kernel
theorem dX9_readFigures_104 : decode cX9_readFigures 104 = .ok (.iconst 1, 1) := by decide +kernel
theorem dX9_readFigures_105 : decode cX9_readFigures 105 = .ok (.putfield 31, 3) := by decide +kernel
theorem dX9_readFigures_108 : decode cX9_readFigures 108 = .ok (.return_, 1) := by decide +kernel
def L_X9_readFigures_5 (c_t_place : Int32) (c_t_tape_length : Int32) (r_t_tape_bytes : (Nat → Int32)) : Nat → Int32 → Int32 → Option (Int32 × Int32)
  | 0, _, _ => none
  | n + 1, y1, y2 =>
    if c_t_tape_length ≤ y1 then
      (some ((y1, y2)))
    else
      ((f_X8_isFigure c_t_tape_length r_t_tape_bytes y1).bind (fun (v3 : Int32) =>
        if v3 = 0 then
          (some ((y1, y2)))
        else
          (if (c_t_place + 2) ≤ y1 then
            (L_X9_readFigures_5 c_t_place c_t_tape_length r_t_tape_bytes n (y1 + 1) y2)
          else
            (if inb y1 160 then
              (L_X9_readFigures_5 c_t_place c_t_tape_length r_t_tape_bytes n (y1 + 1) (((y2 * 10) + (r_t_tape_bytes (ix y1))) - 48))
            else none))))
def f_X9_readFigures (c_t_place : Int32) (c_t_behind : Int32) (c_t_sort : Int32) (c_t_value : Int32) (c_t_tape_length : Int32) (r_t_tape_bytes : (Nat → Int32)) : Option (Int32 × Int32 × Int32) :=
  (L_X9_readFigures_5 c_t_place c_t_tape_length r_t_tape_bytes 400 c_t_behind 0).bind (fun (v5 : Int32 × Int32) =>
    if (v5.1 - c_t_place) ≤ 2 then
      (some ((v5.1, 1, v5.2)))
    else
      (some ((v5.1, 4, v5.2))))
abbrev rm_X9_readFigures : Room := { frames := 1, cells := 0, slots := 0, locals := 21 }
set_option maxHeartbeats 4000000 in
set_option maxRecDepth 100000 in
theorem lp_X9_readFigures_5 {E : Ev} {X : Cx} {a_t a_t_tape a_t_tape_bytes a_t_draft : Nat} (c_t_fault : Int32) (c_t_faultPlace : Int32) (c_t_place : Int32) (c_t_sort : Int32) (c_t_tape_length : Int32) (r_t_tape_bytes : (Nat → Int32)) (C : CX E X cX9_readFigures RX9 1 rm_X9_readFigures) : ∀ (n : Nat) (y1 : Int32) (y2 : Int32) (v : Int32 × Int32), L_X9_readFigures_5 c_t_place c_t_tape_length r_t_tape_bytes n y1 y2 = some v → G E X 0 0 [oX9 a_t a_t_tape a_t_draft c_t_fault c_t_faultPlace c_t_place v.1 c_t_sort v.2, oX8 a_t_tape a_t_tape_bytes c_t_tape_length, aI E a_t_tape_bytes 160 r_t_tape_bytes] [(0, .ref a_t)] 86 [] → G E X 0 0 [oX9 a_t a_t_tape a_t_draft c_t_fault c_t_faultPlace c_t_place y1 c_t_sort y2, oX8 a_t_tape a_t_tape_bytes c_t_tape_length, aI E a_t_tape_bytes 160 r_t_tape_bytes] [(0, .ref a_t)] 5 [] := by
  intro n
  induction n with
  | zero => intro _ _ _ h; cases h
  | succ n ih =>
    intro y1 y2 v h kk
    rw [L_X9_readFigures_5] at h
    refine g_aload_n (pc := 5) C dX9_readFigures_5 0 rfl ?_
    refine g_get (pc := 6) 0 C fl_X9_28 rfl rfl dX9_readFigures_6 ?_
    refine g_aload_n (pc := 9) C dX9_readFigures_9 0 rfl ?_
    refine g_get (pc := 10) 0 C fl_X9_37 rfl rfl dX9_readFigures_10 ?_
    refine g_get (pc := 13) 1 C fl_X9_54 rfl rfl dX9_readFigures_13 ?_
    refine b_icmp_ge (pc := 16) 86 C dX9_readFigures_16 (by decide) h (fun _ h => ?_) (fun _ h => ?_)
    · obtain rfl := Option.some.inj h
      refine g_lv [0] (lv' := [(0, .ref a_t)]) rfl ?_
      exact kk
    · refine g_aload_n (pc := 19) C dX9_readFigures_19 0 rfl ?_
      refine g_get (pc := 20) 0 C fl_X9_37 rfl rfl dX9_readFigures_20 ?_
      refine g_aload_n (pc := 23) C dX9_readFigures_23 0 rfl ?_
      refine g_get (pc := 24) 0 C fl_X9_28 rfl rfl dX9_readFigures_24 ?_
      obtain ⟨v3, hv3, h⟩ := o_bnd h
      refine g_callV (pc := 27) (ws' := [oX9 a_t a_t_tape a_t_draft c_t_fault c_t_faultPlace c_t_place y1 c_t_sort y2, oX8 a_t_tape a_t_tape_bytes c_t_tape_length, aI E a_t_tape_bytes 160 r_t_tape_bytes]) (st1 := [.int v3]) C mv_X9_116 (k_X8_isFigure E a_t_tape a_t_tape_bytes c_t_tape_length r_t_tape_bytes y1 v3 hv3) [1, 2] rfl (by decide +kernel) rfl [none, some 0, some 1] 3 (by decide +kernel) rfl rfl 0 rfl rfl ⟨by decide, by decide⟩ ⟨rfl, rfl⟩ ⟨Nat.zero_le _, Nat.zero_le _⟩ rfl rfl rfl (Nat.le_of_ble_eq_true rfl) dX9_readFigures_27 ?_
      refine b_if_eq (pc := 30) 86 C dX9_readFigures_30 (by decide) h (fun _ h => ?_) (fun _ h => ?_)
      · obtain rfl := Option.some.inj h
        refine g_lv [0] (lv' := [(0, .ref a_t)]) rfl ?_
        exact kk
      · refine g_aload_n (pc := 33) C dX9_readFigures_33 0 rfl ?_
        refine g_get (pc := 34) 0 C fl_X9_28 rfl rfl dX9_readFigures_34 ?_
        refine g_aload_n (pc := 37) C dX9_readFigures_37 0 rfl ?_
        refine g_get (pc := 38) 0 C fl_X9_25 rfl rfl dX9_readFigures_38 ?_
        refine g_iconst (pc := 41) (v := 2) C dX9_readFigures_41 (by decide) ?_
        refine g_iadd (pc := 42) C dX9_readFigures_42 ?_
        refine b_icmp_ge (pc := 43) 73 C dX9_readFigures_43 (by decide) h (fun _ h => ?_) (fun _ h => ?_)
        · refine g_aload_n (pc := 73) C dX9_readFigures_73 0 rfl ?_
          refine g_dup (pc := 74) C dX9_readFigures_74 rfl ?_
          refine g_get (pc := 75) 0 C fl_X9_28 rfl rfl dX9_readFigures_75 ?_
          refine g_iconst (pc := 78) (v := 1) C dX9_readFigures_78 (by decide) ?_
          refine g_iadd (pc := 79) C dX9_readFigures_79 ?_
          refine g_put (pc := 80) (ws' := [oX9 a_t a_t_tape a_t_draft c_t_fault c_t_faultPlace c_t_place (y1 + 1) c_t_sort y2, oX8 a_t_tape a_t_tape_bytes c_t_tape_length, aI E a_t_tape_bytes 160 r_t_tape_bytes]) 0 C fp_X9_28 rfl rfl rfl (Nat.le_of_ble_eq_true rfl) rfl dX9_readFigures_80 ?_
          refine g_goto (pc := 83) 5 C dX9_readFigures_83 (by decide) ?_
          refine g_lv [0] (lv' := [(0, .ref a_t)]) rfl ?_
          exact ih _ _ _ h kk
        · refine g_aload_n (pc := 46) C dX9_readFigures_46 0 rfl ?_
          refine g_aload_n (pc := 47) C dX9_readFigures_47 0 rfl ?_
          refine g_get (pc := 48) 0 C fl_X9_34 rfl rfl dX9_readFigures_48 ?_
          refine g_bipush (pc := 51) (v := 10) C dX9_readFigures_51 (by decide) ?_
          refine g_imul (pc := 53) C dX9_readFigures_53 ?_
          refine g_aload_n (pc := 54) C dX9_readFigures_54 0 rfl ?_
          refine g_get (pc := 55) 0 C fl_X9_37 rfl rfl dX9_readFigures_55 ?_
          refine g_get (pc := 58) 1 C fl_X9_106 rfl rfl dX9_readFigures_58 ?_
          refine g_aload_n (pc := 61) C dX9_readFigures_61 0 rfl ?_
          refine g_get (pc := 62) 0 C fl_X9_28 rfl rfl dX9_readFigures_62 ?_
          refine b_iald (pc := 65) 2 C rfl dX9_readFigures_65 h (fun _ h => ?_)
          refine g_iadd (pc := 66) C dX9_readFigures_66 ?_
          refine g_bipush (pc := 67) (v := 48) C dX9_readFigures_67 (by decide) ?_
          refine g_isub (pc := 69) C dX9_readFigures_69 ?_
          refine g_put (pc := 70) (ws' := [oX9 a_t a_t_tape a_t_draft c_t_fault c_t_faultPlace c_t_place y1 c_t_sort (((y2 * 10) + (r_t_tape_bytes (ix y1))) - 48), oX8 a_t_tape a_t_tape_bytes c_t_tape_length, aI E a_t_tape_bytes 160 r_t_tape_bytes]) 0 C fp_X9_34 rfl rfl rfl (Nat.le_of_ble_eq_true rfl) rfl dX9_readFigures_70 ?_
          refine g_aload_n (pc := 73) C dX9_readFigures_73 0 rfl ?_
          refine g_dup (pc := 74) C dX9_readFigures_74 rfl ?_
          refine g_get (pc := 75) 0 C fl_X9_28 rfl rfl dX9_readFigures_75 ?_
          refine g_iconst (pc := 78) (v := 1) C dX9_readFigures_78 (by decide) ?_
          refine g_iadd (pc := 79) C dX9_readFigures_79 ?_
          refine g_put (pc := 80) (ws' := [oX9 a_t a_t_tape a_t_draft c_t_fault c_t_faultPlace c_t_place (y1 + 1) c_t_sort (((y2 * 10) + (r_t_tape_bytes (ix y1))) - 48), oX8 a_t_tape a_t_tape_bytes c_t_tape_length, aI E a_t_tape_bytes 160 r_t_tape_bytes]) 0 C fp_X9_28 rfl rfl rfl (Nat.le_of_ble_eq_true rfl) rfl dX9_readFigures_80 ?_
          refine g_goto (pc := 83) 5 C dX9_readFigures_83 (by decide) ?_
          refine g_lv [0] (lv' := [(0, .ref a_t)]) rfl ?_
          exact ih _ _ _ h kk
set_option maxHeartbeats 4000000 in
set_option maxRecDepth 100000 in
theorem k_X9_readFigures (E : Ev) (a_t a_t_tape a_t_tape_bytes a_t_draft : Nat) (c_t_fault : Int32) (c_t_faultPlace : Int32) (c_t_place : Int32) (c_t_behind : Int32) (c_t_sort : Int32) (c_t_value : Int32) (c_t_tape_length : Int32) (r_t_tape_bytes : (Nat → Int32)) (v : Int32 × Int32 × Int32) (h : f_X9_readFigures c_t_place c_t_behind c_t_sort c_t_value c_t_tape_length r_t_tape_bytes = some v) : Mt E yX9_readFigures cX9_readFigures 1 none rm_X9_readFigures [.ref a_t] [oX9 a_t a_t_tape a_t_draft c_t_fault c_t_faultPlace c_t_place c_t_behind c_t_sort c_t_value, oX8 a_t_tape a_t_tape_bytes c_t_tape_length, aI E a_t_tape_bytes 160 r_t_tape_bytes] [oX9 a_t a_t_tape a_t_draft c_t_fault c_t_faultPlace c_t_place v.1 v.2.1 v.2.2, oX8 a_t_tape a_t_tape_bytes c_t_tape_length, aI E a_t_tape_bytes 160 r_t_tape_bytes] none := by
  refine Mt.intro (lv := [(0, .ref a_t)]) (by decide +kernel) (Nat.le_of_ble_eq_true rfl) rfl (fun X C K => ?_)
  have C : CX E X cX9_readFigures RX9 1 rm_X9_readFigures := C
  rw [f_X9_readFigures] at h
  refine g_aload_n (pc := 0) C dX9_readFigures_0 0 rfl ?_
  refine g_iconst (pc := 1) (v := 0) C dX9_readFigures_1 (by decide) ?_
  refine g_put (pc := 2) (ws' := [oX9 a_t a_t_tape a_t_draft c_t_fault c_t_faultPlace c_t_place c_t_behind c_t_sort 0, oX8 a_t_tape a_t_tape_bytes c_t_tape_length, aI E a_t_tape_bytes 160 r_t_tape_bytes]) 0 C fp_X9_34 rfl rfl rfl (Nat.le_of_ble_eq_true rfl) rfl dX9_readFigures_2 ?_
  obtain ⟨v5, hv5, h⟩ := o_bnd h
  refine g_lv [0] (lv' := [(0, .ref a_t)]) rfl ?_
  refine lp_X9_readFigures_5 c_t_fault c_t_faultPlace c_t_place c_t_sort c_t_tape_length r_t_tape_bytes C 400 _ _ _ hv5 ?_
  refine g_aload_n (pc := 86) C dX9_readFigures_86 0 rfl ?_
  refine g_aload_n (pc := 87) C dX9_readFigures_87 0 rfl ?_
  refine g_get (pc := 88) 0 C fl_X9_28 rfl rfl dX9_readFigures_88 ?_
  refine g_aload_n (pc := 91) C dX9_readFigures_91 0 rfl ?_
  refine g_get (pc := 92) 0 C fl_X9_25 rfl rfl dX9_readFigures_92 ?_
  refine g_isub (pc := 95) C dX9_readFigures_95 ?_
  refine g_iconst (pc := 96) (v := 2) C dX9_readFigures_96 (by decide) ?_
  refine b_icmp_le (pc := 97) 104 C dX9_readFigures_97 (by decide) h (fun _ h => ?_) (fun _ h => ?_)
  · refine g_iconst (pc := 104) (v := 1) C dX9_readFigures_104 (by decide) ?_
    refine g_put (pc := 105) (ws' := [oX9 a_t a_t_tape a_t_draft c_t_fault c_t_faultPlace c_t_place v5.1 1 v5.2, oX8 a_t_tape a_t_tape_bytes c_t_tape_length, aI E a_t_tape_bytes 160 r_t_tape_bytes]) 0 C fp_X9_31 rfl rfl rfl (Nat.le_of_ble_eq_true rfl) rfl dX9_readFigures_105 ?_
    obtain rfl := Option.some.inj h
    exact g_vret (pc := 108) C K dX9_readFigures_108
  · refine g_iconst (pc := 100) (v := 4) C dX9_readFigures_100 (by decide) ?_
    refine g_goto (pc := 101) 105 C dX9_readFigures_101 (by decide) ?_
    refine g_put (pc := 105) (ws' := [oX9 a_t a_t_tape a_t_draft c_t_fault c_t_faultPlace c_t_place v5.1 4 v5.2, oX8 a_t_tape a_t_tape_bytes c_t_tape_length, aI E a_t_tape_bytes 160 r_t_tape_bytes]) 0 C fp_X9_31 rfl rfl rfl (Nat.le_of_ble_eq_true rfl) rfl dX9_readFigures_105 ?_
    obtain rfl := Option.some.inj h
    exact g_vret (pc := 108) C K dX9_readFigures_108
theorem dX9_readToken_0 : decode cX9_readToken 0 = .ok (.aload_n 0, 1) := by decide +kernel
theorem dX9_readToken_1 : decode cX9_readToken 1 = .ok (.aload_n 0, 1) := by decide +kernel
theorem dX9_readToken_2 : decode cX9_readToken 2 = .ok (.getfield 28, 3) := by decide +kernel
theorem dX9_readToken_5 : decode cX9_readToken 5 = .ok (.putfield 25, 3) := by decide +kernel
theorem dX9_readToken_8 : decode cX9_readToken 8 = .ok (.aload_n 0, 1) := by decide +kernel
theorem dX9_readToken_9 : decode cX9_readToken 9 = .ok (.getfield 25, 3) := by decide +kernel
theorem dX9_readToken_12 : decode cX9_readToken 12 = .ok (.aload_n 0, 1) := by decide +kernel
theorem dX9_readToken_13 : decode cX9_readToken 13 = .ok (.getfield 37, 3) := by decide +kernel
theorem dX9_readToken_16 : decode cX9_readToken 16 = .ok (.getfield 54, 3) := by decide +kernel
theorem dX9_readToken_19 : decode cX9_readToken 19 = .ok (.if_icmp .ge 33, 3) := by decide +kernel
theorem dX9_readToken_22 : decode cX9_readToken 22 = .ok (.aload_n 0, 1) := by decide +kernel
theorem dX9_readToken_23 : decode cX9_readToken 23 = .ok (.getfield 37, 3) := by decide +kernel
theorem dX9_readToken_26 : decode cX9_readToken 26 = .ok (.getfield 106, 3) := by decide +kernel
theorem dX9_readToken_29 : decode cX9_readToken 29 = .ok (.aload_n 0, 1) := by decide +kernel
theorem dX9_readToken_30 : decode cX9_readToken 30 = .ok (.getfield 25, 3) := by decide +kernel
theorem dX9_readToken_33 : decode cX9_readToken 33 = .ok (.iaload, 1) := by decide +kernel
theorem dX9_readToken_34 : decode cX9_readToken 34 = .ok (.bipush 32, 2) := by decide +kernel
theorem dX9_readToken_36 : decode cX9_readToken 36 = .ok (.if_icmp .ne 16, 3) := by decide +kernel
theorem dX9_readToken_39 : decode cX9_readToken 39 = .ok (.aload_n 0, 1) := by decide +kernel
theorem dX9_readToken_40 : decode cX9_readToken 40 = .ok (.dup, 1) := by decide +kernel
theorem dX9_readToken_41 : decode cX9_readToken 41 = .ok (.getfield 25, 3) := by decide +kernel
theorem dX9_readToken_44 : decode cX9_readToken 44 = .ok (.iconst 1, 1) := by decide +kernel
theorem dX9_readToken_45 : decode cX9_readToken 45 = .ok (.iadd, 1) := by decide +kernel
theorem dX9_readToken_46 : decode cX9_readToken 46 = .ok (.putfield 25, 3) := by decide +kernel
theorem dX9_readToken_49 : decode cX9_readToken 49 = .ok (.goto (-41), 3) := by decide +kernel
theorem dX9_readToken_52 : decode cX9_readToken 52 = .ok (.aload_n 0, 1) := by decide +kernel
theorem dX9_readToken_53 : decode cX9_readToken 53 = .ok (.aload_n 0, 1) := by decide +kernel
theorem dX9_readToken_54 : decode cX9_readToken 54 = .ok (.getfield 25, 3) := by decide +kernel
theorem dX9_readToken_57 : decode cX9_readToken 57 = .ok (.putfield 28, 3) := by decide +kernel
theorem dX9_readToken_60 : decode cX9_readToken 60 = .ok (.aload_n 0, 1) := by decide +kernel
theorem dX9_readToken_61 : decode cX9_readToken 61 = .ok (.getfield 25, 3) := by decide +kernel
theorem dX9_readToken_64 : decode cX9_readToken 64 = .ok (.aload_n 0, 1) := by decide +kernel
theorem dX9_readToken_65 : decode cX9_readToken 65 = .ok (.getfield 37, 3) := by decide +kernel
theorem dX9_readToken_68 : decode cX9_readToken 68 = .ok (.getfield 54, 3) := by decide +kernel
theorem dX9_readToken_71 : decode cX9_readToken 71 = .ok (.if_icmp .lt 11, 3) := by decide +kernel
theorem dX9_readToken_74 : decode cX9_readToken 74 = .ok (.aload_n 0, 1) := by decide +kernel
theorem dX9_readToken_75 : decode cX9_readToken 75 = .ok (.iconst 3, 1) := by decide +kernel
theorem dX9_readToken_76 : decode cX9_readToken 76 = .ok (.putfield 31, 3) := by decide +kernel
theorem dX9_readToken_79 : decode cX9_readToken 79 = .ok (.goto 81, 3) := by decide +kernel
theorem dX9_readToken_82 : decode cX9_readToken 82 = .ok (.aload_n 0, 1) := by decide +kernel
theorem dX9_readToken_83 : decode cX9_readToken 83 = .ok (.getfield 37, 3) := by decide +kernel
theorem dX9_readToken_86 : decode cX9_readToken 86 = .ok (.aload_n 0, 1) := by decide +kernel
theorem dX9_readToken_87 : decode cX9_readToken 87 = .ok (.getfield 25, 3) := by decide +kernel
theorem dX9_readToken_90 : decode cX9_readToken 90 = .ok (.invokevirtual 110, 3) := by decide +kernel
theorem dX9_readToken_93 : decode cX9_readToken 93 = .ok (.ifCond .eq 10, 3) := by decide +kernel
theorem dX9_readToken_96 : decode cX9_readToken 96 = .ok (.aload_n 0, 1) := by decide +kernel
theorem dX9_readToken_97 : decode cX9_readToken 97 = .ok (.invokevirtual 113, 3) := by decide +kernel
theorem dX9_readToken_100 : decode cX9_readToken 100 = .ok (.goto 60, 3) := by decide +kernel
theorem dX9_readToken_103 : decode cX9_readToken 103 = .ok (.aload_n 0, 1) := by decide +kernel
theorem dX9_readToken_104 : decode cX9_readToken 104 = .ok (.getfield 37, 3) := by decide +kernel
theorem dX9_readToken_107 : decode cX9_readToken 107 = .ok (.aload_n 0, 1) := by decide +kernel
theorem dX9_readToken_108 : decode cX9_readToken 108 = .ok (.getfield 25, 3) := by decide +kernel
theorem dX9_readToken_111 : decode cX9_readToken 111 = .ok (.invokevirtual 116, 3) := by decide +kernel
theorem dX9_readToken_114 : decode cX9_readToken 114 = .ok (.ifCond .eq 10, 3) := by decide +kernel
theorem dX9_readToken_117 : decode cX9_readToken 117 = .ok (.aload_n 0, 1) := by decide +kernel
theorem dX9_readToken_118 : decode cX9_readToken 118 = .ok (.invokevirtual 119, 3) := by decide +kernel
theorem dX9_readToken_121 : decode cX9_readToken 121 = .ok (.goto 39, 3) := by decide +kernel
theorem dX9_readToken_124 : decode cX9_readToken 124 = .ok (.aload_n 0, 1) := by decide +kernel
theorem dX9_readToken_125 : decode cX9_readToken 125 = .ok (.aload_n 0, 1) := by decide +kernel
theorem dX9_readToken_126 : decode cX9_readToken 126 = .ok (.getfield 25, 3) := by decide +kernel
theorem dX9_readToken_129 : decode cX9_readToken 129 = .ok (.iconst 1, 1) := by decide +kernel
theorem dX9_readToken_130 : decode cX9_readToken 130 = .ok (.iadd, 1) := by decide +kernel
theorem dX9_readToken_131 : decode cX9_readToken 131 = .ok (.putfield 28, 3) := by decide +kernel
theorem dX9_readToken_134 : decode cX9_readToken 134 = .ok (.aload_n 0, 1) := by decide +kernel
theorem dX9_readToken_135 : decode cX9_readToken 135 = .ok (.aload_n 0, 1) := by decide +kernel
theorem dX9_readToken_136 : decode cX9_readToken 136 = .ok (.getfield 37, 3) := by decide +kernel
theorem dX9_readToken_139 : decode cX9_readToken 139 = .ok (.getfield 106, 3) := by decide +kernel
theorem dX9_readToken_142 : decode cX9_readToken 142 = .ok (.aload_n 0, 1) := by decide +kernel
theorem dX9_readToken_143 : decode cX9_readToken 143 = .ok (.getfield 25, 3) := by decide +kernel
theorem dX9_readToken_146 : decode cX9_readToken 146 = .ok (.iaload, 1) := by decide +kernel
theorem dX9_readToken_147 : decode cX9_readToken 147 = .ok (.bipush 59, 2) := by decide +kernel
theorem dX9_readToken_149 : decode cX9_readToken 149 = .ok (.if_icmp .ne 7, 3) := by decide +kernel
theorem dX9_readToken_152 : decode cX9_readToken 152 = .ok (.iconst 2, 1) := by decide +kernel
theorem dX9_readToken_153 : decode cX9_readToken 153 = .ok (.goto 4, 3) := by decide +kernel
theorem dX9_readToken_156 : decode cX9_readToken 156 = .ok (.iconst 4, 1) := by decide +kernel
theorem dX9_readToken_157 : decode cX9_readToken 157 = .ok (.putfield 31, 3) := by decide +kernel
theorem dX9_readToken_160 : decode cX9_readToken 160 = .ok (.return_, 1) := by decide +kernel
def L_X9_readToken_8 (c_t_tape_length : Int32) (r_t_tape_bytes : (Nat → Int32)) : Nat → Int32 → Option (Int32)
  | 0, _ => none
  | n + 1, y1 =>
    if c_t_tape_length ≤ y1 then
      (some y1)
    else
      (if inb y1 160 then
        (if (r_t_tape_bytes (ix y1)) = 32 then
          (L_X9_readToken_8 c_t_tape_length r_t_tape_bytes n (y1 + 1))
        else
          (some y1))
      else none)
def f_X9_readToken (c_t_place : Int32) (c_t_behind : Int32) (c_t_sort : Int32) (c_t_value : Int32) (c_t_tape_length : Int32) (r_t_tape_bytes : (Nat → Int32)) : Option (Int32 × Int32 × Int32 × Int32) :=
  (L_X9_readToken_8 c_t_tape_length r_t_tape_bytes 400 c_t_behind).bind (fun (v3 : Int32) =>
    if v3 < c_t_tape_length then
      ((f_X8_isLetter c_t_tape_length r_t_tape_bytes v3).bind (fun (v4 : Int32) =>
        if v4 = 0 then
          ((f_X8_isFigure c_t_tape_length r_t_tape_bytes v3).bind (fun (v5 : Int32) =>
            if v5 = 0 then
              (if inb v3 160 then
                (if (r_t_tape_bytes (ix v3)) = 59 then
                  (some ((v3, v3 + 1, 2, c_t_value)))
                else
                  (some ((v3, v3 + 1, 4, c_t_value))))
              else none)
            else
              ((f_X9_readFigures v3 v3 c_t_sort c_t_value c_t_tape_length r_t_tape_bytes).bind (fun (v6 : Int32 × Int32 × Int32) =>
                some ((v3, v6.1, v6.2.1, v6.2.2))))))
        else
          ((f_X9_readName v3 c_t_sort c_t_tape_length r_t_tape_bytes).bind (fun (v7 : Int32 × Int32) =>
            some ((v3, v7.1, v7.2, c_t_value))))))
    else
      (some ((v3, v3, 3, c_t_value))))
abbrev rm_X9_readToken : Room := { frames := 2, cells := 0, slots := 0, locals := 41 }
set_option maxHeartbeats 4000000 in
set_option maxRecDepth 100000 in
theorem lp_X9_readToken_8 {E : Ev} {X : Cx} {a_t a_t_tape a_t_tape_bytes a_t_draft : Nat} (c_t_fault : Int32) (c_t_faultPlace : Int32) (c_t_behind : Int32) (c_t_sort : Int32) (c_t_value : Int32) (c_t_tape_length : Int32) (r_t_tape_bytes : (Nat → Int32)) (C : CX E X cX9_readToken RX9 1 rm_X9_readToken) : ∀ (n : Nat) (y1 : Int32) (v : Int32), L_X9_readToken_8 c_t_tape_length r_t_tape_bytes n y1 = some v → G E X 0 0 [oX9 a_t a_t_tape a_t_draft c_t_fault c_t_faultPlace v c_t_behind c_t_sort c_t_value, oX8 a_t_tape a_t_tape_bytes c_t_tape_length, aI E a_t_tape_bytes 160 r_t_tape_bytes] [(0, .ref a_t)] 52 [] → G E X 0 0 [oX9 a_t a_t_tape a_t_draft c_t_fault c_t_faultPlace y1 c_t_behind c_t_sort c_t_value, oX8 a_t_tape a_t_tape_bytes c_t_tape_length, aI E a_t_tape_bytes 160 r_t_tape_bytes] [(0, .ref a_t)] 8 [] := by
  intro n
  induction n with
  | zero => intro _ _ h; cases h
  | succ n ih =>
    intro y1 v h kk
    rw [L_X9_readToken_8] at h
    refine g_aload_n (pc := 8) C dX9_readToken_8 0 rfl ?_
    refine g_get (pc := 9) 0 C fl_X9_25 rfl rfl dX9_readToken_9 ?_
    refine g_aload_n (pc := 12) C dX9_readToken_12 0 rfl ?_
    refine g_get (pc := 13) 0 C fl_X9_37 rfl rfl dX9_readToken_13 ?_
    refine g_get (pc := 16) 1 C fl_X9_54 rfl rfl dX9_readToken_16 ?_
    refine b_icmp_ge (pc := 19) 52 C dX9_readToken_19 (by decide) h (fun _ h => ?_) (fun _ h => ?_)
    · obtain rfl := Option.some.inj h
      refine g_lv [0] (lv' := [(0, .ref a_t)]) rfl ?_
      exact kk
    · refine g_aload_n (pc := 22) C dX9_readToken_22 0 rfl ?_
      refine g_get (pc := 23) 0 C fl_X9_37 rfl rfl dX9_readToken_23 ?_
      refine g_get (pc := 26) 1 C fl_X9_106 rfl rfl dX9_readToken_26 ?_
      refine g_aload_n (pc := 29) C dX9_readToken_29 0 rfl ?_
      refine g_get (pc := 30) 0 C fl_X9_25 rfl rfl dX9_readToken_30 ?_
      refine b_iald (pc := 33) 2 C rfl dX9_readToken_33 h (fun _ h => ?_)
      refine g_bipush (pc := 34) (v := 32) C dX9_readToken_34 (by decide) ?_
      refine b_icmp_ne (pc := 36) 52 C dX9_readToken_36 (by decide) h (fun _ h => ?_) (fun _ h => ?_)
      · obtain rfl := Option.some.inj h
        refine g_lv [0] (lv' := [(0, .ref a_t)]) rfl ?_
        exact kk
      · refine g_aload_n (pc := 39) C dX9_readToken_39 0 rfl ?_
        refine g_dup (pc := 40) C dX9_readToken_40 rfl ?_
        refine g_get (pc := 41) 0 C fl_X9_25 rfl rfl dX9_readToken_41 ?_
        refine g_iconst (pc := 44) (v := 1) C dX9_readToken_44 (by decide) ?_
        refine g_iadd (pc := 45) C dX9_readToken_45 ?_
        refine g_put (pc := 46) (ws' := [oX9 a_t a_t_tape a_t_draft c_t_fault c_t_faultPlace (y1 + 1) c_t_behind c_t_sort c_t_value, oX8 a_t_tape a_t_tape_bytes c_t_tape_length, aI E a_t_tape_bytes 160 r_t_tape_bytes]) 0 C fp_X9_25 rfl rfl rfl (Nat.le_of_ble_eq_true rfl) rfl dX9_readToken_46 ?_
        refine g_goto (pc := 49) 8 C dX9_readToken_49 (by decide) ?_
        refine g_lv [0] (lv' := [(0, .ref a_t)]) rfl ?_
        exact ih _ _ h kk
set_option maxHeartbeats 4000000 in
set_option maxRecDepth 100000 in
theorem k_X9_readToken (E : Ev) (a_t a_t_tape a_t_tape_bytes a_t_draft : Nat) (c_t_fault : Int32) (c_t_faultPlace : Int32) (c_t_place : Int32) (c_t_behind : Int32) (c_t_sort : Int32) (c_t_value : Int32) (c_t_tape_length : Int32) (r_t_tape_bytes : (Nat → Int32)) (v : Int32 × Int32 × Int32 × Int32) (h : f_X9_readToken c_t_place c_t_behind c_t_sort c_t_value c_t_tape_length r_t_tape_bytes = some v) : Mt E yX9_readToken cX9_readToken 1 none rm_X9_readToken [.ref a_t] [oX9 a_t a_t_tape a_t_draft c_t_fault c_t_faultPlace c_t_place c_t_behind c_t_sort c_t_value, oX8 a_t_tape a_t_tape_bytes c_t_tape_length, aI E a_t_tape_bytes 160 r_t_tape_bytes] [oX9 a_t a_t_tape a_t_draft c_t_fault c_t_faultPlace v.1 v.2.1 v.2.2.1 v.2.2.2, oX8 a_t_tape a_t_tape_bytes c_t_tape_length, aI E a_t_tape_bytes 160 r_t_tape_bytes] none := by
  refine Mt.intro (lv := [(0, .ref a_t)]) (by decide +kernel) (Nat.le_of_ble_eq_true rfl) rfl (fun X C K => ?_)
  have C : CX E X cX9_readToken RX9 1 rm_X9_readToken := C
  rw [f_X9_readToken] at h
  refine g_aload_n (pc := 0) C dX9_readToken_0 0 rfl ?_
  refine g_aload_n (pc := 1) C dX9_readToken_1 0 rfl ?_
  refine g_get (pc := 2) 0 C fl_X9_28 rfl rfl dX9_readToken_2 ?_
  refine g_put (pc := 5) (ws' := [oX9 a_t a_t_tape a_t_draft c_t_fault c_t_faultPlace c_t_behind c_t_behind c_t_sort c_t_value, oX8 a_t_tape a_t_tape_bytes c_t_tape_length, aI E a_t_tape_bytes 160 r_t_tape_bytes]) 0 C fp_X9_25 rfl rfl rfl (Nat.le_of_ble_eq_true rfl) rfl dX9_readToken_5 ?_
  obtain ⟨v3, hv3, h⟩ := o_bnd h
  refine g_lv [0] (lv' := [(0, .ref a_t)]) rfl ?_
  refine lp_X9_readToken_8 c_t_fault c_t_faultPlace c_t_behind c_t_sort c_t_value c_t_tape_length r_t_tape_bytes C 400 _ _ hv3 ?_
  refine g_aload_n (pc := 52) C dX9_readToken_52 0 rfl ?_
  refine g_aload_n (pc := 53) C dX9_readToken_53 0 rfl ?_
  refine g_get (pc := 54) 0 C fl_X9_25 rfl rfl dX9_readToken_54 ?_
  refine g_put (pc := 57) (ws' := [oX9 a_t a_t_tape a_t_draft c_t_fault c_t_faultPlace v3 v3 c_t_sort c_t_value, oX8 a_t_tape a_t_tape_bytes c_t_tape_length, aI E a_t_tape_bytes 160 r_t_tape_bytes]) 0 C fp_X9_28 rfl rfl rfl (Nat.le_of_ble_eq_true rfl) rfl dX9_readToken_57 ?_
  refine g_aload_n (pc := 60) C dX9_readToken_60 0 rfl ?_
  refine g_get (pc := 61) 0 C fl_X9_25 rfl rfl dX9_readToken_61 ?_
  refine g_aload_n (pc := 64) C dX9_readToken_64 0 rfl ?_
  refine g_get (pc := 65) 0 C fl_X9_37 rfl rfl dX9_readToken_65 ?_
  refine g_get (pc := 68) 1 C fl_X9_54 rfl rfl dX9_readToken_68 ?_
  refine b_icmp_lt (pc := 71) 82 C dX9_readToken_71 (by decide) h (fun _ h => ?_) (fun _ h => ?_)
  · refine g_aload_n (pc := 82) C dX9_readToken_82 0 rfl ?_
    refine g_get (pc := 83) 0 C fl_X9_37 rfl rfl dX9_readToken_83 ?_
    refine g_aload_n (pc := 86) C dX9_readToken_86 0 rfl ?_
    refine g_get (pc := 87) 0 C fl_X9_25 rfl rfl dX9_readToken_87 ?_
    obtain ⟨v4, hv4, h⟩ := o_bnd h
    refine g_callV (pc := 90) (ws' := [oX9 a_t a_t_tape a_t_draft c_t_fault c_t_faultPlace v3 v3 c_t_sort c_t_value, oX8 a_t_tape a_t_tape_bytes c_t_tape_length, aI E a_t_tape_bytes 160 r_t_tape_bytes]) (st1 := [.int v4]) C mv_X9_110 (k_X8_isLetter E a_t_tape a_t_tape_bytes c_t_tape_length r_t_tape_bytes v3 v4 hv4) [1, 2] rfl (by decide +kernel) rfl [none, some 0, some 1] 3 (by decide +kernel) rfl rfl 0 rfl rfl ⟨by decide, by decide⟩ ⟨rfl, rfl⟩ ⟨Nat.zero_le _, Nat.zero_le _⟩ rfl rfl rfl (Nat.le_of_ble_eq_true rfl) dX9_readToken_90 ?_
    refine b_if_eq (pc := 93) 103 C dX9_readToken_93 (by decide) h (fun _ h => ?_) (fun _ h => ?_)
    · refine g_aload_n (pc := 103) C dX9_readToken_103 0 rfl ?_
      refine g_get (pc := 104) 0 C fl_X9_37 rfl rfl dX9_readToken_104 ?_
      refine g_aload_n (pc := 107) C dX9_readToken_107 0 rfl ?_
      refine g_get (pc := 108) 0 C fl_X9_25 rfl rfl dX9_readToken_108 ?_
      obtain ⟨v5, hv5, h⟩ := o_bnd h
      refine g_callV (pc := 111) (ws' := [oX9 a_t a_t_tape a_t_draft c_t_fault c_t_faultPlace v3 v3 c_t_sort c_t_value, oX8 a_t_tape a_t_tape_bytes c_t_tape_length, aI E a_t_tape_bytes 160 r_t_tape_bytes]) (st1 := [.int v5]) C mv_X9_116 (k_X8_isFigure E a_t_tape a_t_tape_bytes c_t_tape_length r_t_tape_bytes v3 v5 hv5) [1, 2] rfl (by decide +kernel) rfl [none, some 0, some 1] 3 (by decide +kernel) rfl rfl 0 rfl rfl ⟨by decide, by decide⟩ ⟨rfl, rfl⟩ ⟨Nat.zero_le _, Nat.zero_le _⟩ rfl rfl rfl (Nat.le_of_ble_eq_true rfl) dX9_readToken_111 ?_
      refine b_if_eq (pc := 114) 124 C dX9_readToken_114 (by decide) h (fun _ h => ?_) (fun _ h => ?_)
      · refine g_aload_n (pc := 124) C dX9_readToken_124 0 rfl ?_
        refine g_aload_n (pc := 125) C dX9_readToken_125 0 rfl ?_
        refine g_get (pc := 126) 0 C fl_X9_25 rfl rfl dX9_readToken_126 ?_
        refine g_iconst (pc := 129) (v := 1) C dX9_readToken_129 (by decide) ?_
        refine g_iadd (pc := 130) C dX9_readToken_130 ?_
        refine g_put (pc := 131) (ws' := [oX9 a_t a_t_tape a_t_draft c_t_fault c_t_faultPlace v3 (v3 + 1) c_t_sort c_t_value, oX8 a_t_tape a_t_tape_bytes c_t_tape_length, aI E a_t_tape_bytes 160 r_t_tape_bytes]) 0 C fp_X9_28 rfl rfl rfl (Nat.le_of_ble_eq_true rfl) rfl dX9_readToken_131 ?_
        refine g_aload_n (pc := 134) C dX9_readToken_134 0 rfl ?_
        refine g_aload_n (pc := 135) C dX9_readToken_135 0 rfl ?_
        refine g_get (pc := 136) 0 C fl_X9_37 rfl rfl dX9_readToken_136 ?_
        refine g_get (pc := 139) 1 C fl_X9_106 rfl rfl dX9_readToken_139 ?_
        refine g_aload_n (pc := 142) C dX9_readToken_142 0 rfl ?_
        refine g_get (pc := 143) 0 C fl_X9_25 rfl rfl dX9_readToken_143 ?_
        refine b_iald (pc := 146) 2 C rfl dX9_readToken_146 h (fun _ h => ?_)
        refine g_bipush (pc := 147) (v := 59) C dX9_readToken_147 (by decide) ?_
        refine b_icmp_ne (pc := 149) 156 C dX9_readToken_149 (by decide) h (fun _ h => ?_) (fun _ h => ?_)
        · refine g_iconst (pc := 156) (v := 4) C dX9_readToken_156 (by decide) ?_
          refine g_put (pc := 157) (ws' := [oX9 a_t a_t_tape a_t_draft c_t_fault c_t_faultPlace v3 (v3 + 1) 4 c_t_value, oX8 a_t_tape a_t_tape_bytes c_t_tape_length, aI E a_t_tape_bytes 160 r_t_tape_bytes]) 0 C fp_X9_31 rfl rfl rfl (Nat.le_of_ble_eq_true rfl) rfl dX9_readToken_157 ?_
          obtain rfl := Option.some.inj h
          exact g_vret (pc := 160) C K dX9_readToken_160
        · refine g_iconst (pc := 152) (v := 2) C dX9_readToken_152 (by decide) ?_
          refine g_goto (pc := 153) 157 C dX9_readToken_153 (by decide) ?_
          refine g_put (pc := 157) (ws' := [oX9 a_t a_t_tape a_t_draft c_t_fault c_t_faultPlace v3 (v3 + 1) 2 c_t_value, oX8 a_t_tape a_t_tape_bytes c_t_tape_length, aI E a_t_tape_bytes 160 r_t_tape_bytes]) 0 C fp_X9_31 rfl rfl rfl (Nat.le_of_ble_eq_true rfl) rfl dX9_readToken_157 ?_
          obtain rfl := Option.some.inj h
          exact g_vret (pc := 160) C K dX9_readToken_160
      · refine g_aload_n (pc := 117) C dX9_readToken_117 0 rfl ?_
        obtain ⟨v6, hv6, h⟩ := o_bnd h
        refine g_callV (pc := 118) (ws' := [oX9 a_t a_t_tape a_t_draft c_t_fault c_t_faultPlace v3 v6.1 v6.2.1 v6.2.2, oX8 a_t_tape a_t_tape_bytes c_t_tape_length, aI E a_t_tape_bytes 160 r_t_tape_bytes]) (st1 := []) C mv_X9_119 (k_X9_readFigures E a_t a_t_tape a_t_tape_bytes a_t_draft c_t_fault c_t_faultPlace v3 v3 c_t_sort c_t_value c_t_tape_length r_t_tape_bytes v6 hv6) [0, 1, 2] rfl (by decide +kernel) rfl [some 0, some 1, some 2] 3 (by decide +kernel) rfl rfl 0 rfl rfl ⟨by decide, by decide⟩ ⟨rfl, rfl⟩ ⟨Nat.zero_le _, Nat.zero_le _⟩ rfl rfl rfl (Nat.le_of_ble_eq_true rfl) dX9_readToken_118 ?_
        refine g_goto (pc := 121) 160 C dX9_readToken_121 (by decide) ?_
        obtain rfl := Option.some.inj h
        exact g_vret (pc := 160) C K dX9_readToken_160
    · refine g_aload_n (pc := 96) C dX9_readToken_96 0 rfl ?_
      obtain ⟨v7, hv7, h⟩ := o_bnd h
      refine g_callV (pc := 97) (ws' := [oX9 a_t a_t_tape a_t_draft c_t_fault c_t_faultPlace v3 v7.1 v7.2 c_t_value, oX8 a_t_tape a_t_tape_bytes c_t_tape_length, aI E a_t_tape_bytes 160 r_t_tape_bytes]) (st1 := []) C mv_X9_113 (k_X9_readName E a_t a_t_tape a_t_tape_bytes a_t_draft c_t_fault c_t_faultPlace v3 v3 c_t_sort c_t_value c_t_tape_length r_t_tape_bytes v7 hv7) [0, 1, 2] rfl (by decide +kernel) rfl [some 0, some 1, some 2] 3 (by decide +kernel) rfl rfl 0 rfl rfl ⟨by decide, by decide⟩ ⟨rfl, rfl⟩ ⟨Nat.zero_le _, Nat.zero_le _⟩ rfl rfl rfl (Nat.le_of_ble_eq_true rfl) dX9_readToken_97 ?_
      refine g_goto (pc := 100) 160 C dX9_readToken_100 (by decide) ?_
      obtain rfl := Option.some.inj h
      exact g_vret (pc := 160) C K dX9_readToken_160
  · refine g_aload_n (pc := 74) C dX9_readToken_74 0 rfl ?_
    refine g_iconst (pc := 75) (v := 3) C dX9_readToken_75 (by decide) ?_
    refine g_put (pc := 76) (ws' := [oX9 a_t a_t_tape a_t_draft c_t_fault c_t_faultPlace v3 v3 3 c_t_value, oX8 a_t_tape a_t_tape_bytes c_t_tape_length, aI E a_t_tape_bytes 160 r_t_tape_bytes]) 0 C fp_X9_31 rfl rfl rfl (Nat.le_of_ble_eq_true rfl) rfl dX9_readToken_76 ?_
    refine g_goto (pc := 79) 160 C dX9_readToken_79 (by decide) ?_
    obtain rfl := Option.some.inj h
    exact g_vret (pc := 160) C K dX9_readToken_160
theorem dX9_fail_0 : decode cX9_fail 0 = .ok (.aload_n 0, 1) := by decide +kernel
theorem dX9_fail_1 : decode cX9_fail 1 = .ok (.iload_n 1, 1) := by decide +kernel
theorem dX9_fail_2 : decode cX9_fail 2 = .ok (.putfield 18, 3) := by decide +kernel
theorem dX9_fail_5 : decode cX9_fail 5 = .ok (.aload_n 0, 1) := by decide +kernel
theorem dX9_fail_6 : decode cX9_fail 6 = .ok (.iload_n 2, 1) := by decide +kernel
theorem dX9_fail_7 : decode cX9_fail 7 = .ok (.putfield 22, 3) := by decide +kernel
theorem dX9_fail_10 : decode cX9_fail 10 = .ok (.iconst 0, 1) := by decide +kernel
theorem dX9_fail_11 : decode cX9_fail 11 = .ok (.ireturn, 1) := by decide +kernel
def f_X9_fail (c_t_fault : Int32) (c_t_faultPlace : Int32) (x1 : Int32) (x2 : Int32) : Option (Int32 × Int32 × Int32) :=
  some ((0, x1, x2))
abbrev rm_X9_fail : Room := { frames := 0, cells := 0, slots := 0, locals := 0 }
set_option maxHeartbeats 4000000 in
set_option maxRecDepth 100000 in
theorem k_X9_fail (E : Ev) (a_t a_t_tape a_t_draft : Nat) (c_t_fault : Int32) (c_t_faultPlace : Int32) (c_t_place : Int32) (c_t_behind : Int32) (c_t_sort : Int32) (c_t_value : Int32) (x1 : Int32) (x2 : Int32) (v : Int32 × Int32 × Int32) (h : f_X9_fail c_t_fault c_t_faultPlace x1 x2 = some v) : Mt E yX9_fail cX9_fail 3 (some .boolean) rm_X9_fail [.ref a_t, .int x1, .int x2] [oX9 a_t a_t_tape a_t_draft c_t_fault c_t_faultPlace c_t_place c_t_behind c_t_sort c_t_value] [oX9 a_t a_t_tape a_t_draft v.2.1 v.2.2 c_t_place c_t_behind c_t_sort c_t_value] (some (.int v.1)) := by
  refine Mt.intro (lv := [(0, .ref a_t), (1, .int x1), (2, .int x2)]) (by decide +kernel) (Nat.le_of_ble_eq_true rfl) rfl (fun X C K => ?_)
  have C : CX E X cX9_fail RX9 3 rm_X9_fail := C
  rw [f_X9_fail] at h
  refine g_aload_n (pc := 0) C dX9_fail_0 0 rfl ?_
  refine g_iload_n (pc := 1) C dX9_fail_1 1 rfl ?_
  refine g_put (pc := 2) (ws' := [oX9 a_t a_t_tape a_t_draft x1 c_t_faultPlace c_t_place c_t_behind c_t_sort c_t_value]) 0 C fp_X9_18 rfl rfl rfl (Nat.le_of_ble_eq_true rfl) rfl dX9_fail_2 ?_
  refine g_aload_n (pc := 5) C dX9_fail_5 0 rfl ?_
  refine g_iload_n (pc := 6) C dX9_fail_6 2 rfl ?_
  refine g_put (pc := 7) (ws' := [oX9 a_t a_t_tape a_t_draft x1 x2 c_t_place c_t_behind c_t_sort c_t_value]) 0 C fp_X9_22 rfl rfl rfl (Nat.le_of_ble_eq_true rfl) rfl dX9_fail_7 ?_
  refine g_iconst (pc := 10) (v := 0) C dX9_fail_10 (by decide) ?_
  obtain rfl := Option.some.inj h
  exact g_zret (pc := 11) C K rfl dX9_fail_11
theorem dX9_stands_0 : decode cX9_stands 0 = .ok (.aload_n 0, 1) := by decide +kernel
theorem dX9_stands_1 : decode cX9_stands 1 = .ok (.getfield 31, 3) := by decide +kernel
theorem dX9_stands_4 : decode cX9_stands 4 = .ok (.iload_n 1, 1) := by decide +kernel
theorem dX9_stands_5 : decode cX9_stands 5 = .ok (.if_icmp .ne 5, 3) := by decide +kernel
theorem dX9_stands_8 : decode cX9_stands 8 = .ok (.iconst 1, 1) := by decide +kernel
theorem dX9_stands_9 : decode cX9_stands 9 = .ok (.ireturn, 1) := by decide +kernel
theorem dX9_stands_10 : decode cX9_stands 10 = .ok (.aload_n 0, 1) := by decide +kernel
theorem dX9_stands_11 : decode cX9_stands 11 = .ok (.aload_n 0, 1) := by decide +kernel
theorem dX9_stands_12 : decode cX9_stands 12 = .ok (.getfield 31, 3) := by decide +kernel
theorem dX9_stands_15 : decode cX9_stands 15 = .ok (.iconst 4, 1) := by decide +kernel
theorem dX9_stands_16 : decode cX9_stands 16 = .ok (.if_icmp .ne 7, 3) := by decide +kernel
theorem dX9_stands_19 : decode cX9_stands 19 = .ok (.iconst 1, 1) := by decide +kernel
theorem dX9_stands_20 : decode cX9_stands 20 = .ok (.goto 4, 3) := by decide +kernel
theorem dX9_stands_23 : decode cX9_stands 23 = .ok (.iconst 2, 1) := by decide +kernel
theorem dX9_stands_24 : decode cX9_stands 24 = .ok (.aload_n 0, 1) := by decide +kernel
theorem dX9_stands_25 : decode cX9_stands 25 = .ok (.getfield 25, 3) := by decide +kernel
theorem dX9_stands_28 : decode cX9_stands 28 = .ok (.invokevirtual 59, 3) := by decide +kernel
theorem dX9_stands_31 : decode cX9_stands 31 = .ok (.ireturn, 1) := by decide +kernel
def f_X9_stands (c_t_fault : Int32) (c_t_faultPlace : Int32) (c_t_place : Int32) (c_t_sort : Int32) (x1 : Int32) : Option (Int32 × Int32 × Int32) :=
  if c_t_sort = x1 then
    (some ((1, c_t_fault, c_t_faultPlace)))
  else
    ((if c_t_sort = 4 then
      (some 1)
    else
      (some 2)).bind (fun (v1 : Int32) =>
      (f_X9_fail c_t_fault c_t_faultPlace v1 c_t_place).bind (fun (v2 : Int32 × Int32 × Int32) =>
        if v2.1 &&& 1 = v2.1 then
          (some ((v2.1, v2.2.1, v2.2.2)))
        else none)))
abbrev rm_X9_stands : Room := { frames := 1, cells := 0, slots := 0, locals := 22 }
set_option maxHeartbeats 4000000 in
set_option maxRecDepth 100000 in
theorem k_X9_stands (E : Ev) (a_t a_t_tape a_t_draft : Nat) (c_t_fault : Int32) (c_t_faultPlace : Int32) (c_t_place : Int32) (c_t_behind : Int32) (c_t_sort : Int32) (c_t_value : Int32) (x1 : Int32) (v : Int32 × Int32 × Int32) (h : f_X9_stands c_t_fault c_t_faultPlace c_t_place c_t_sort x1 = some v) : Mt E yX9_stands cX9_stands 2 (some .boolean) rm_X9_stands [.ref a_t, .int x1] [oX9 a_t a_t_tape a_t_draft c_t_fault c_t_faultPlace c_t_place c_t_behind c_t_sort c_t_value] [oX9 a_t a_t_tape a_t_draft v.2.1 v.2.2 c_t_place c_t_behind c_t_sort c_t_value] (some (.int v.1)) := by
  refine Mt.intro (lv := [(0, .ref a_t), (1, .int x1)]) (by decide +kernel) (Nat.le_of_ble_eq_true rfl) rfl (fun X C K => ?_)
  have C : CX E X cX9_stands RX9 2 rm_X9_stands := C
  rw [f_X9_stands] at h
  refine g_aload_n (pc := 0) C dX9_stands_0 0 rfl ?_
  refine g_get (pc := 1) 0 C fl_X9_31 rfl rfl dX9_stands_1 ?_
  refine g_iload_n (pc := 4) C dX9_stands_4 1 rfl ?_
  refine b_icmp_ne (pc := 5) 10 C dX9_stands_5 (by decide) h (fun _ h => ?_) (fun _ h => ?_)
  · refine g_aload_n (pc := 10) C dX9_stands_10 0 rfl ?_
    refine g_aload_n (pc := 11) C dX9_stands_11 0 rfl ?_
    refine g_get (pc := 12) 0 C fl_X9_31 rfl rfl dX9_stands_12 ?_
    refine g_iconst (pc := 15) (v := 4) C dX9_stands_15 (by decide) ?_
    obtain ⟨v1, hv1, h⟩ := o_bnd h
    have Kv1 : G E X 0 0 [oX9 a_t a_t_tape a_t_draft c_t_fault c_t_faultPlace c_t_place c_t_behind c_t_sort c_t_value] [(0, .ref a_t)] 24 [.int v1, .ref a_t] := by
      refine g_aload_n (pc := 24) C dX9_stands_24 0 rfl ?_
      refine g_get (pc := 25) 0 C fl_X9_25 rfl rfl dX9_stands_25 ?_
      obtain ⟨v2, hv2, h⟩ := o_bnd h
      refine g_callV (pc := 28) (ws' := [oX9 a_t a_t_tape a_t_draft v2.2.1 v2.2.2 c_t_place c_t_behind c_t_sort c_t_value]) (st1 := [.int v2.1]) C mv_X9_59 (k_X9_fail E a_t a_t_tape a_t_draft c_t_fault c_t_faultPlace c_t_place c_t_behind c_t_sort c_t_value v1 c_t_place v2 hv2) [0] rfl (by decide +kernel) rfl [some 0] 1 (by decide +kernel) rfl rfl 0 rfl rfl ⟨by decide, by decide⟩ ⟨rfl, rfl⟩ ⟨Nat.zero_le _, Nat.zero_le _⟩ rfl rfl rfl (Nat.le_of_ble_eq_true rfl) dX9_stands_28 ?_
      obtain ⟨hz, h⟩ := o_grd h
      obtain rfl := Option.some.inj h
      exact g_zret (pc := 31) C K (nb_one hz) dX9_stands_31
    clear h
    have h := hv1
    clear hv1
    refine b_icmp_ne (pc := 16) 23 C dX9_stands_16 (by decide) h (fun _ h => ?_) (fun _ h => ?_)
    · refine g_iconst (pc := 23) (v := 2) C dX9_stands_23 (by decide) ?_
      obtain rfl := Option.some.inj h
      refine g_lv [0] (lv' := [(0, .ref a_t)]) rfl ?_
      exact Kv1
    · refine g_iconst (pc := 19) (v := 1) C dX9_stands_19 (by decide) ?_
      refine g_goto (pc := 20) 24 C dX9_stands_20 (by decide) ?_
      obtain rfl := Option.some.inj h
      refine g_lv [0] (lv' := [(0, .ref a_t)]) rfl ?_
      exact Kv1
  · refine g_iconst (pc := 8) (v := 1) C dX9_stands_8 (by decide) ?_
    obtain rfl := Option.some.inj h
    exact g_zret (pc := 9) C K rfl dX9_stands_9
theorem dX9_named_0 : decode cX9_named 0 = .ok (.aload_n 0, 1) := by decide +kernel
theorem dX9_named_1 : decode cX9_named 1 = .ok (.getfield 28, 3) := by decide +kernel
theorem dX9_named_4 : decode cX9_named 4 = .ok (.aload_n 0, 1) := by decide +kernel
theorem dX9_named_5 : decode cX9_named 5 = .ok (.getfield 25, 3) := by decide +kernel
theorem dX9_named_8 : decode cX9_named 8 = .ok (.isub, 1) := by decide +kernel
theorem dX9_named_9 : decode cX9_named 9 = .ok (.aload_n 1, 1) := by decide +kernel
theorem dX9_named_10 : decode cX9_named 10 = .ok (.invokevirtual 130, 3) := by decide +kernel
theorem dX9_named_13 : decode cX9_named 13 = .ok (.if_icmp .eq 5, 3) := by decide +kernel
theorem dX9_named_16 : decode cX9_named 16 = .ok (.iconst 0, 1) := by decide +kernel
theorem dX9_named_17 : decode cX9_named 17 = .ok (.ireturn, 1) := by decide +kernel
theorem dX9_named_18 : decode cX9_named 18 = .ok (.iconst 0, 1) := by decide +kernel
theorem dX9_named_19 : decode cX9_named 19 = .ok (.istore_n 2, 1) := by decide +kernel
theorem dX9_named_20 : decode cX9_named 20 = .ok (.iload_n 2, 1) := by decide +kernel
theorem dX9_named_21 : decode cX9_named 21 = .ok (.aload_n 1, 1) := by decide +kernel
theorem dX9_named_22 : decode cX9_named 22 = .ok (.invokevirtual 130, 3) := by decide +kernel
theorem dX9_named_25 : decode cX9_named 25 = .ok (.if_icmp .ge 33, 3) := by decide +kernel
theorem dX9_named_28 : decode cX9_named 28 = .ok (.aload_n 0, 1) := by decide +kernel
theorem dX9_named_29 : decode cX9_named 29 = .ok (.getfield 37, 3) := by decide +kernel
theorem dX9_named_32 : decode cX9_named 32 = .ok (.getfield 106, 3) := by decide +kernel
theorem dX9_named_35 : decode cX9_named 35 = .ok (.aload_n 0, 1) := by decide +kernel
theorem dX9_named_36 : decode cX9_named 36 = .ok (.getfield 25, 3) := by decide +kernel
theorem dX9_named_39 : decode cX9_named 39 = .ok (.iload_n 2, 1) := by decide +kernel
theorem dX9_named_40 : decode cX9_named 40 = .ok (.iadd, 1) := by decide +kernel
theorem dX9_named_41 : decode cX9_named 41 = .ok (.iaload, 1) := by decide +kernel
theorem dX9_named_42 : decode cX9_named 42 = .ok (.aload_n 1, 1) := by decide +kernel
theorem dX9_named_43 : decode cX9_named 43 = .ok (.iload_n 2, 1) := by decide +kernel
theorem dX9_named_44 : decode cX9_named 44 = .ok (.invokevirtual 134, 3) := by decide +kernel
theorem dX9_named_47 : decode cX9_named 47 = .ok (.if_icmp .eq 5, 3) := by decide +kernel
theorem dX9_named_50 : decode cX9_named 50 = .ok (.iconst 0, 1) := by decide +kernel
theorem dX9_named_51 : decode cX9_named 51 = .ok (.ireturn, 1) := by decide +kernel
theorem dX9_named_52 : decode cX9_named 52 = .ok (.iinc 2 1, 3) := by decide +kernel
theorem dX9_named_55 : decode cX9_named 55 = .ok (.goto (-35), 3) := by decide +kernel
theorem dX9_named_58 : decode cX9_named 58 = .ok (.iconst 1, 1) := by decide +kernel
theorem dX9_named_59 : decode cX9_named 59 = .ok (.ireturn, 1) := by decide +kernel
def L_X9_named_20 (zi : Nat) (c_t_place : Int32) (r_t_tape_bytes : (Nat → Int32)) : Nat → Int32 → Option ((Int32) ⊕ (Unit))
  | 0, _ => none
  | n + 1, y1 =>
    if (nI (zLen.getD zi 0)) ≤ y1 then
      (some (.inr (())))
    else
      (if inb (c_t_place + y1) 160 then
        (if inb y1 (zLen.getD zi 0) then
          (if (r_t_tape_bytes (ix (c_t_place + y1))) = (zch zi (ix y1)) then
            (L_X9_named_20 zi c_t_place r_t_tape_bytes n (y1 + 1))
          else
            (some (.inl 0)))
        else none)
      else none)
def f_X9_named (zi : Nat) (c_t_place : Int32) (c_t_behind : Int32) (r_t_tape_bytes : (Nat → Int32)) : Option (Int32) :=
  if (c_t_behind - c_t_place) = (nI (zLen.getD zi 0)) then
    ((L_X9_named_20 zi c_t_place r_t_tape_bytes 400 0).bind (fun o => sel (fun (w4 : Int32) => some w4) (fun (v3 : Unit) =>
      some 1) o))
  else
    (some 0)
abbrev rm_X9_named : Room := { frames := 5, cells := 0, slots := 0, locals := 120 }
set_option maxHeartbeats 4000000 in
set_option maxRecDepth 100000 in
theorem lp_X9_named_20 {E : Ev} {X : Cx} {a_t a_t_tape a_t_tape_bytes a_t_draft : Nat} (zi : Nat) (c_t_fault : Int32) (c_t_faultPlace : Int32) (c_t_place : Int32) (c_t_behind : Int32) (c_t_sort : Int32) (c_t_value : Int32) (c_t_tape_length : Int32) (r_t_tape_bytes : (Nat → Int32)) (hzi : zi < 5) (C : CX E X cX9_named RX9 3 rm_X9_named) : ∀ (n : Nat) (y1 : Int32) (o : ((Int32) ⊕ (Unit))), L_X9_named_20 zi c_t_place r_t_tape_bytes n y1 = some o → (∀ w, o = .inl w → QK E X 0 0 (some .boolean) [oX9 a_t a_t_tape a_t_draft c_t_fault c_t_faultPlace c_t_place c_t_behind c_t_sort c_t_value, oX8 a_t_tape a_t_tape_bytes c_t_tape_length, aI E a_t_tape_bytes 160 r_t_tape_bytes] (some (.int w))) → (∀ v, o = .inr v → G E X 0 0 [oX9 a_t a_t_tape a_t_draft c_t_fault c_t_faultPlace c_t_place c_t_behind c_t_sort c_t_value, oX8 a_t_tape a_t_tape_bytes c_t_tape_length, aI E a_t_tape_bytes 160 r_t_tape_bytes] [] 58 []) → G E X 0 0 [oX9 a_t a_t_tape a_t_draft c_t_fault c_t_faultPlace c_t_place c_t_behind c_t_sort c_t_value, oX8 a_t_tape a_t_tape_bytes c_t_tape_length, aI E a_t_tape_bytes 160 r_t_tape_bytes] [(0, .ref a_t), (1, .ref (E.2.2.2.1 zi)), (2, .int y1)] 20 [] := by
  intro n
  induction n with
  | zero => intro _ _ h; cases h
  | succ n ih =>
    intro y1 o h kr kx
    rw [L_X9_named_20] at h
    refine g_iload_n (pc := 20) C dX9_named_20 2 rfl ?_
    refine g_aload_n (pc := 21) C dX9_named_21 1 rfl ?_
    refine g_slen (pc := 22) C mv_X9_130 hzi (by decide) ⟨Nat.zero_le _, Nat.zero_le _⟩ (Nat.le_of_ble_eq_true rfl) dX9_named_22 ?_
    refine b_icmp_ge (pc := 25) 58 C dX9_named_25 (by decide) h (fun _ h => ?_) (fun _ h => ?_)
    · obtain rfl := Option.some.inj h
      refine g_lv [] (lv' := []) rfl ?_
      exact kx _ rfl
    · refine g_aload_n (pc := 28) C dX9_named_28 0 rfl ?_
      refine g_get (pc := 29) 0 C fl_X9_37 rfl rfl dX9_named_29 ?_
      refine g_get (pc := 32) 1 C fl_X9_106 rfl rfl dX9_named_32 ?_
      refine g_aload_n (pc := 35) C dX9_named_35 0 rfl ?_
      refine g_get (pc := 36) 0 C fl_X9_25 rfl rfl dX9_named_36 ?_
      refine g_iload_n (pc := 39) C dX9_named_39 2 rfl ?_
      refine g_iadd (pc := 40) C dX9_named_40 ?_
      refine b_iald (pc := 41) 2 C rfl dX9_named_41 h (fun _ h => ?_)
      refine g_aload_n (pc := 42) C dX9_named_42 1 rfl ?_
      refine g_iload_n (pc := 43) C dX9_named_43 2 rfl ?_
      obtain ⟨hj, h⟩ := o_grd h
      refine g_schar (pc := 44) C mv_X9_134 hzi hj (by decide) ⟨Nat.zero_le _, Nat.zero_le _⟩ (Nat.le_of_ble_eq_true rfl) dX9_named_44 ?_
      refine b_icmp_eq (pc := 47) 52 C dX9_named_47 (by decide) h (fun _ h => ?_) (fun _ h => ?_)
      · refine g_iinc (pc := 52) (v := y1 + 1) (lv' := [(2, .int (y1 + 1)), (0, .ref a_t), (1, .ref (E.2.2.2.1 zi))]) C dX9_named_52 2 rfl rfl (by decide) rfl ?_
        refine g_goto (pc := 55) 20 C dX9_named_55 (by decide) ?_
        refine g_lv [1, 2, 0] (lv' := [(0, .ref a_t), (1, .ref (E.2.2.2.1 zi)), (2, .int (y1 + 1))]) rfl ?_
        exact ih _ _ h kr kx
      · refine g_iconst (pc := 50) (v := 0) C dX9_named_50 (by decide) ?_
        obtain rfl := Option.some.inj h
        exact g_zret (pc := 51) C (kr _ rfl) rfl dX9_named_51
set_option maxHeartbeats 4000000 in
set_option maxRecDepth 100000 in
theorem k_X9_named (E : Ev) (zi : Nat) (hzi : zi < 5) (a_t a_t_tape a_t_tape_bytes a_t_draft : Nat) (c_t_fault : Int32) (c_t_faultPlace : Int32) (c_t_place : Int32) (c_t_behind : Int32) (c_t_sort : Int32) (c_t_value : Int32) (c_t_tape_length : Int32) (r_t_tape_bytes : (Nat → Int32)) (v : Int32) (h : f_X9_named zi c_t_place c_t_behind r_t_tape_bytes = some v) : Mt E yX9_named cX9_named 3 (some .boolean) rm_X9_named [.ref a_t, .ref (E.2.2.2.1 zi)] [oX9 a_t a_t_tape a_t_draft c_t_fault c_t_faultPlace c_t_place c_t_behind c_t_sort c_t_value, oX8 a_t_tape a_t_tape_bytes c_t_tape_length, aI E a_t_tape_bytes 160 r_t_tape_bytes] [oX9 a_t a_t_tape a_t_draft c_t_fault c_t_faultPlace c_t_place c_t_behind c_t_sort c_t_value, oX8 a_t_tape a_t_tape_bytes c_t_tape_length, aI E a_t_tape_bytes 160 r_t_tape_bytes] (some (.int v)) := by
  refine Mt.intro (lv := [(0, .ref a_t), (1, .ref (E.2.2.2.1 zi))]) (by decide +kernel) (Nat.le_of_ble_eq_true rfl) rfl (fun X C K => ?_)
  have C : CX E X cX9_named RX9 3 rm_X9_named := C
  rw [f_X9_named] at h
  refine g_aload_n (pc := 0) C dX9_named_0 0 rfl ?_
  refine g_get (pc := 1) 0 C fl_X9_28 rfl rfl dX9_named_1 ?_
  refine g_aload_n (pc := 4) C dX9_named_4 0 rfl ?_
  refine g_get (pc := 5) 0 C fl_X9_25 rfl rfl dX9_named_5 ?_
  refine g_isub (pc := 8) C dX9_named_8 ?_
  refine g_aload_n (pc := 9) C dX9_named_9 1 rfl ?_
  refine g_slen (pc := 10) C mv_X9_130 hzi (by decide) ⟨Nat.zero_le _, Nat.zero_le _⟩ (Nat.le_of_ble_eq_true rfl) dX9_named_10 ?_
  refine b_icmp_eq (pc := 13) 18 C dX9_named_13 (by decide) h (fun _ h => ?_) (fun _ h => ?_)
  · refine g_iconst (pc := 18) (v := 0) C dX9_named_18 (by decide) ?_
    refine g_istore_n (pc := 19) (lv' := [(2, .int 0), (0, .ref a_t), (1, .ref (E.2.2.2.1 zi))]) C dX9_named_19 (by decide) rfl ?_
    rcases o_sel h with ⟨w4, hw4, h⟩ | ⟨v3, hv3, h⟩
    · obtain rfl := Option.some.inj h
      refine g_lv [1, 2, 0] (lv' := [(0, .ref a_t), (1, .ref (E.2.2.2.1 zi)), (2, .int 0)]) rfl ?_
      exact lp_X9_named_20 zi c_t_fault c_t_faultPlace c_t_place c_t_behind c_t_sort c_t_value c_t_tape_length r_t_tape_bytes hzi C 400 _ _ hw4 (fun _ e => by cases e; exact K) (fun _ e => by cases e)
    · refine g_lv [1, 2, 0] (lv' := [(0, .ref a_t), (1, .ref (E.2.2.2.1 zi)), (2, .int 0)]) rfl ?_
      refine lp_X9_named_20 zi c_t_fault c_t_faultPlace c_t_place c_t_behind c_t_sort c_t_value c_t_tape_length r_t_tape_bytes hzi C 400 _ _ hv3 (fun _ e => by cases e) (fun _ e => ?_)
      cases e
      refine g_iconst (pc := 58) (v := 1) C dX9_named_58 (by decide) ?_
      obtain rfl := Option.some.inj h
      exact g_zret (pc := 59) C K rfl dX9_named_59
  · refine g_iconst (pc := 16) (v := 0) C dX9_named_16 (by decide) ?_
    obtain rfl := Option.some.inj h
    exact g_zret (pc := 17) C K rfl dX9_named_17
theorem dX9_readHouse_0 : decode cX9_readHouse 0 = .ok (.aload_n 0, 1) := by decide +kernel
theorem dX9_readHouse_1 : decode cX9_readHouse 1 = .ok (.getfield 12, 3) := by decide +kernel
theorem dX9_readHouse_4 : decode cX9_readHouse 4 = .ok (.getfield 83, 3) := by decide +kernel
theorem dX9_readHouse_7 : decode cX9_readHouse 7 = .ok (.iconst 4, 1) := by decide +kernel
theorem dX9_readHouse_8 : decode cX9_readHouse 8 = .ok (.if_icmp .lt 13, 3) := by decide +kernel
theorem dX9_readHouse_11 : decode cX9_readHouse 11 = .ok (.aload_n 0, 1) := by decide +kernel
theorem dX9_readHouse_12 : decode cX9_readHouse 12 = .ok (.iconst 5, 1) := by decide +kernel
theorem dX9_readHouse_13 : decode cX9_readHouse 13 = .ok (.aload_n 0, 1) := by decide +kernel
theorem dX9_readHouse_14 : decode cX9_readHouse 14 = .ok (.getfield 25, 3) := by decide +kernel
theorem dX9_readHouse_17 : decode cX9_readHouse 17 = .ok (.invokevirtual 59, 3) := by decide +kernel
theorem dX9_readHouse_20 : decode cX9_readHouse 20 = .ok (.ireturn, 1) := by decide +kernel
theorem dX9_readHouse_21 : decode cX9_readHouse 21 = .ok (.aload_n 0, 1) := by decide +kernel
theorem dX9_readHouse_22 : decode cX9_readHouse 22 = .ok (.getfield 12, 3) := by decide +kernel
theorem dX9_readHouse_25 : decode cX9_readHouse 25 = .ok (.getfield 83, 3) := by decide +kernel
theorem dX9_readHouse_28 : decode cX9_readHouse 28 = .ok (.istore_n 1, 1) := by decide +kernel
theorem dX9_readHouse_29 : decode cX9_readHouse 29 = .ok (.aload_n 0, 1) := by decide +kernel
theorem dX9_readHouse_30 : decode cX9_readHouse 30 = .ok (.getfield 12, 3) := by decide +kernel
theorem dX9_readHouse_33 : decode cX9_readHouse 33 = .ok (.invokevirtual 86, 3) := by decide +kernel
theorem dX9_readHouse_36 : decode cX9_readHouse 36 = .ok (.iconst 0, 1) := by decide +kernel
theorem dX9_readHouse_37 : decode cX9_readHouse 37 = .ok (.istore_n 2, 1) := by decide +kernel
theorem dX9_readHouse_38 : decode cX9_readHouse 38 = .ok (.iload_n 2, 1) := by decide +kernel
theorem dX9_readHouse_39 : decode cX9_readHouse 39 = .ok (.bipush 6, 2) := by decide +kernel
theorem dX9_readHouse_41 : decode cX9_readHouse 41 = .ok (.if_icmp .gt 90, 3) := by decide +kernel
theorem dX9_readHouse_44 : decode cX9_readHouse 44 = .ok (.aload_n 0, 1) := by decide +kernel
theorem dX9_readHouse_45 : decode cX9_readHouse 45 = .ok (.invokevirtual 44, 3) := by decide +kernel
theorem dX9_readHouse_48 : decode cX9_readHouse 48 = .ok (.aload_n 0, 1) := by decide +kernel
theorem dX9_readHouse_49 : decode cX9_readHouse 49 = .ok (.getfield 31, 3) := by decide +kernel
theorem dX9_readHouse_52 : decode cX9_readHouse 52 = .ok (.iconst 2, 1) := by decide +kernel
theorem dX9_readHouse_53 : decode cX9_readHouse 53 = .ok (.if_icmp .ne 5, 3) := by decide +kernel
theorem dX9_readHouse_56 : decode cX9_readHouse 56 = .ok (.iconst 1, 1) := by decide +kernel
theorem dX9_readHouse_57 : decode cX9_readHouse 57 = .ok (.ireturn, 1) := by decide +kernel
theorem dX9_readHouse_58 : decode cX9_readHouse 58 = .ok (.aload_n 0, 1) := by decide +kernel
theorem dX9_readHouse_59 : decode cX9_readHouse 59 = .ok (.iconst 1, 1) := by decide +kernel
theorem dX9_readHouse_60 : decode cX9_readHouse 60 = .ok (.invokevirtual 63, 3) := by decide +kernel
theorem dX9_readHouse_63 : decode cX9_readHouse 63 = .ok (.ifCond .ne 5, 3) := by decide +kernel
theorem dX9_readHouse_66 : decode cX9_readHouse 66 = .ok (.iconst 0, 1) := by decide +kernel
theorem dX9_readHouse_67 : decode cX9_readHouse 67 = .ok (.ireturn, 1) := by decide +kernel
theorem dX9_readHouse_68 : decode cX9_readHouse 68 = .ok (.aload_n 0, 1) := by decide +kernel
theorem dX9_readHouse_69 : decode cX9_readHouse 69 = .ok (.getfield 34, 3) := by decide +kernel
theorem dX9_readHouse_72 : decode cX9_readHouse 72 = .ok (.bipush 6, 2) := by decide +kernel
theorem dX9_readHouse_74 : decode cX9_readHouse 74 = .ok (.if_icmp .lt 13, 3) := by decide +kernel
theorem dX9_readHouse_77 : decode cX9_readHouse 77 = .ok (.aload_n 0, 1) := by decide +kernel
theorem dX9_readHouse_78 : decode cX9_readHouse 78 = .ok (.iconst 3, 1) := by decide +kernel
theorem dX9_readHouse_79 : decode cX9_readHouse 79 = .ok (.aload_n 0, 1) := by decide +kernel
theorem dX9_readHouse_80 : decode cX9_readHouse 80 = .ok (.getfield 25, 3) := by decide +kernel
theorem dX9_readHouse_83 : decode cX9_readHouse 83 = .ok (.invokevirtual 59, 3) := by decide +kernel
theorem dX9_readHouse_86 : decode cX9_readHouse 86 = .ok (.ireturn, 1) := by decide +kernel
theorem dX9_readHouse_87 : decode cX9_readHouse 87 = .ok (.aload_n 0, 1) := by decide +kernel
theorem dX9_readHouse_88 : decode cX9_readHouse 88 = .ok (.getfield 12, 3) := by decide +kernel
theorem dX9_readHouse_91 : decode cX9_readHouse 91 = .ok (.iload_n 1, 1) := by decide +kernel
theorem dX9_readHouse_92 : decode cX9_readHouse 92 = .ok (.aload_n 0, 1) := by decide +kernel
theorem dX9_readHouse_93 : decode cX9_readHouse 93 = .ok (.getfield 34, 3) := by decide +kernel
theorem dX9_readHouse_96 : decode cX9_readHouse 96 = .ok (.invokevirtual 89, 3) := by decide +kernel
theorem dX9_readHouse_99 : decode cX9_readHouse 99 = .ok (.ifCond .eq 13, 3) := by decide +kernel
theorem dX9_readHouse_102 : decode cX9_readHouse 102 = .ok (.aload_n 0, 1) := by decide +kernel
theorem dX9_readHouse_103 : decode cX9_readHouse 103 = .ok (.iconst 4, 1) := by decide +kernel
theorem dX9_readHouse_104 : decode cX9_readHouse 104 = .ok (.aload_n 0, 1) := by decide +kernel
theorem dX9_readHouse_105 : decode cX9_readHouse 105 = .ok (.getfield 25, 3) := by decide +kernel
theorem dX9_readHouse_108 : decode cX9_readHouse 108 = .ok (.invokevirtual 59, 3) := by decide +kernel
theorem dX9_readHouse_111 : decode cX9_readHouse 111 = .ok (.ireturn, 1) := by decide +kernel
theorem dX9_readHouse_112 : decode cX9_readHouse 112 = .ok (.aload_n 0, 1) := by decide +kernel
theorem dX9_readHouse_113 : decode cX9_readHouse 113 = .ok (.getfield 12, 3) := by decide +kernel
theorem dX9_readHouse_116 : decode cX9_readHouse 116 = .ok (.iload_n 1, 1) := by decide +kernel
theorem dX9_readHouse_117 : decode cX9_readHouse 117 = .ok (.aload_n 0, 1) := by decide +kernel
theorem dX9_readHouse_118 : decode cX9_readHouse 118 = .ok (.getfield 34, 3) := by decide +kernel
theorem dX9_readHouse_121 : decode cX9_readHouse 121 = .ok (.iconst 1, 1) := by decide +kernel
theorem dX9_readHouse_122 : decode cX9_readHouse 122 = .ok (.invokevirtual 92, 3) := by decide +kernel
theorem dX9_readHouse_125 : decode cX9_readHouse 125 = .ok (.iinc 2 1, 3) := by decide +kernel
theorem dX9_readHouse_128 : decode cX9_readHouse 128 = .ok (.goto (-90), 3) := by decide +kernel
theorem dX9_readHouse_131 : decode cX9_readHouse 131 = .ok (.aload_n 0, 1) := by decide +kernel
theorem dX9_readHouse_132 : decode cX9_readHouse 132 = .ok (.iconst 4, 1) := by decide +kernel
theorem dX9_readHouse_133 : decode cX9_readHouse 133 = .ok (.aload_n 0, 1) := by decide +kernel
theorem dX9_readHouse_134 : decode cX9_readHouse 134 = .ok (.getfield 25, 3) := by decide +kernel
theorem dX9_readHouse_137 : decode cX9_readHouse 137 = .ok (.invokevirtual 59, 3) := by decide +kernel
theorem dX9_readHouse_140 : decode cX9_readHouse 140 = .ok (.ireturn, 1) := by decide +kernel
def L_X9_readHouse_38 (c_t_draft_houses : Int32) (c_t_tape_length : Int32) (r_t_tape_bytes : (Nat → Int32)) (v1 : (Int32 × (Nat → Int32))) : Nat → Int32 → Int32 → Int32 → Int32 → Int32 → Int32 → Int32 → (Nat → Int32) → Option ((Int32 × Int32 × Int32 × Int32 × Int32 × Int32 × Int32 × Int32 × (Nat → Int32)) ⊕ (Int32 × Int32 × Int32 × Int32 × Int32 × Int32 × (Nat → Int32)))
  | 0, _, _, _, _, _, _, _, _ => none
  | n + 1, y2, y3, y4, y5, y6, y7, y8, y9 =>
    if 6 < y2 then
      (some (.inr ((y3, y4, y5, y6, y7, y8, y9))))
    else
      ((f_X9_readToken y5 y6 y7 y8 c_t_tape_length r_t_tape_bytes).bind (fun (v10 : Int32 × Int32 × Int32 × Int32) =>
        if v10.2.2.1 = 2 then
          (some (.inl ((1, y3, y4, v10.1, v10.2.1, v10.2.2.1, v10.2.2.2, v1.1, y9))))
        else
          ((f_X9_stands y3 y4 v10.1 v10.2.2.1 1).bind (fun (v11 : Int32 × Int32 × Int32) =>
            if v11.1 = 0 then
              (some (.inl ((0, v11.2.1, v11.2.2, v10.1, v10.2.1, v10.2.2.1, v10.2.2.2, v1.1, y9))))
            else
              (if v10.2.2.2 < 6 then
                ((f_X1_onList y9 c_t_draft_houses v10.2.2.2).bind (fun (v12 : Int32) =>
                  if v12 = 0 then
                    ((f_X1_setOnList y9 c_t_draft_houses v10.2.2.2 1).bind (fun (v13 : (Nat → Int32)) =>
                      L_X9_readHouse_38 c_t_draft_houses c_t_tape_length r_t_tape_bytes v1 n (y2 + 1) v11.2.1 v11.2.2 v10.1 v10.2.1 v10.2.2.1 v10.2.2.2 v13))
                  else
                    ((f_X9_fail v11.2.1 v11.2.2 4 v10.1).bind (fun (v14 : Int32 × Int32 × Int32) =>
                      if v14.1 &&& 1 = v14.1 then
                        (some (.inl ((v14.1, v14.2.1, v14.2.2, v10.1, v10.2.1, v10.2.2.1, v10.2.2.2, v1.1, y9))))
                      else none))))
              else
                ((f_X9_fail v11.2.1 v11.2.2 3 v10.1).bind (fun (v15 : Int32 × Int32 × Int32) =>
                  if v15.1 &&& 1 = v15.1 then
                    (some (.inl ((v15.1, v15.2.1, v15.2.2, v10.1, v10.2.1, v10.2.2.1, v10.2.2.2, v1.1, y9))))
                  else none)))))))
def f_X9_readHouse (c_t_fault : Int32) (c_t_faultPlace : Int32) (c_t_place : Int32) (c_t_behind : Int32) (c_t_sort : Int32) (c_t_value : Int32) (c_t_draft_houses : Int32) (r_t_draft_lists : (Nat → Int32)) (c_t_tape_length : Int32) (r_t_tape_bytes : (Nat → Int32)) : Option (Int32 × Int32 × Int32 × Int32 × Int32 × Int32 × Int32 × Int32 × (Nat → Int32)) :=
  if c_t_draft_houses < 4 then
    ((f_X1_addHouse c_t_draft_houses r_t_draft_lists).bind (fun (v1 : Int32 × (Nat → Int32)) =>
      (L_X9_readHouse_38 c_t_draft_houses c_t_tape_length r_t_tape_bytes v1 400 0 c_t_fault c_t_faultPlace c_t_place c_t_behind c_t_sort c_t_value v1.2).bind (fun o => sel (fun (w19 : Int32 × Int32 × Int32 × Int32 × Int32 × Int32 × Int32 × Int32 × (Nat → Int32)) => some w19) (fun (v17 : Int32 × Int32 × Int32 × Int32 × Int32 × Int32 × (Nat → Int32)) =>
        (f_X9_fail v17.1 v17.2.1 4 v17.2.2.1).bind (fun (v18 : Int32 × Int32 × Int32) =>
          if v18.1 &&& 1 = v18.1 then
            (some ((v18.1, v18.2.1, v18.2.2, v17.2.2.1, v17.2.2.2.1, v17.2.2.2.2.1, v17.2.2.2.2.2.1, v1.1, v17.2.2.2.2.2.2)))
          else none)) o)))
  else
    ((f_X9_fail c_t_fault c_t_faultPlace 5 c_t_place).bind (fun (v20 : Int32 × Int32 × Int32) =>
      if v20.1 &&& 1 = v20.1 then
        (some ((v20.1, v20.2.1, v20.2.2, c_t_place, c_t_behind, c_t_sort, c_t_value, c_t_draft_houses, r_t_draft_lists)))
      else none))
abbrev rm_X9_readHouse : Room := { frames := 3, cells := 0, slots := 0, locals := 61 }
set_option maxHeartbeats 4000000 in
set_option maxRecDepth 100000 in
theorem lp_X9_readHouse_38 {E : Ev} {X : Cx} {a_t a_t_draft a_t_draft_lists a_t_tape a_t_tape_bytes a_t_draft_kindOf a_t_draft_goes a_t_draft_comes a_t_draft_likings : Nat} (c_t_draft_houses : Int32) (c_t_draft_comers : Int32) (c_t_draft_evening : Int32) (c_t_tape_length : Int32) (r_t_tape_bytes : (Nat → Int32)) (v1 : (Int32 × (Nat → Int32))) (C : CX E X cX9_readHouse RX9 3 rm_X9_readHouse) : ∀ (n : Nat) (y2 : Int32) (y3 : Int32) (y4 : Int32) (y5 : Int32) (y6 : Int32) (y7 : Int32) (y8 : Int32) (y9 : (Nat → Int32)) (o : ((Int32 × Int32 × Int32 × Int32 × Int32 × Int32 × Int32 × Int32 × (Nat → Int32)) ⊕ (Int32 × Int32 × Int32 × Int32 × Int32 × Int32 × (Nat → Int32)))), L_X9_readHouse_38 c_t_draft_houses c_t_tape_length r_t_tape_bytes v1 n y2 y3 y4 y5 y6 y7 y8 y9 = some o → (∀ w, o = .inl w → QK E X 0 0 (some .boolean) [oX9 a_t a_t_tape a_t_draft w.2.1 w.2.2.1 w.2.2.2.1 w.2.2.2.2.1 w.2.2.2.2.2.1 w.2.2.2.2.2.2.1, oX1 a_t_draft w.2.2.2.2.2.2.2.1 c_t_draft_comers c_t_draft_evening a_t_draft_lists a_t_draft_kindOf a_t_draft_goes a_t_draft_comes a_t_draft_likings, aI E a_t_draft_lists 4 w.2.2.2.2.2.2.2.2, oX8 a_t_tape a_t_tape_bytes c_t_tape_length, aI E a_t_tape_bytes 160 r_t_tape_bytes] (some (.int w.1))) → (∀ v, o = .inr v → G E X 0 0 [oX9 a_t a_t_tape a_t_draft v.1 v.2.1 v.2.2.1 v.2.2.2.1 v.2.2.2.2.1 v.2.2.2.2.2.1, oX1 a_t_draft v1.1 c_t_draft_comers c_t_draft_evening a_t_draft_lists a_t_draft_kindOf a_t_draft_goes a_t_draft_comes a_t_draft_likings, aI E a_t_draft_lists 4 v.2.2.2.2.2.2, oX8 a_t_tape a_t_tape_bytes c_t_tape_length, aI E a_t_tape_bytes 160 r_t_tape_bytes] [(0, .ref a_t)] 131 []) → G E X 0 0 [oX9 a_t a_t_tape a_t_draft y3 y4 y5 y6 y7 y8, oX1 a_t_draft v1.1 c_t_draft_comers c_t_draft_evening a_t_draft_lists a_t_draft_kindOf a_t_draft_goes a_t_draft_comes a_t_draft_likings, aI E a_t_draft_lists 4 y9, oX8 a_t_tape a_t_tape_bytes c_t_tape_length, aI E a_t_tape_bytes 160 r_t_tape_bytes] [(0, .ref a_t), (1, .int c_t_draft_houses), (2, .int y2)] 38 [] := by
  intro n
  induction n with
  | zero => intro _ _ _ _ _ _ _ _ _ h; cases h
  | succ n ih =>
    intro y2 y3 y4 y5 y6 y7 y8 y9 o h kr kx
    rw [L_X9_readHouse_38] at h
    refine g_iload_n (pc := 38) C dX9_readHouse_38 2 rfl ?_
    refine g_bipush (pc := 39) (v := 6) C dX9_readHouse_39 (by decide) ?_
    refine b_icmp_gt (pc := 41) 131 C dX9_readHouse_41 (by decide) h (fun _ h => ?_) (fun _ h => ?_)
    · obtain rfl := Option.some.inj h
      refine g_lv [0] (lv' := [(0, .ref a_t)]) rfl ?_
      exact kx _ rfl
    · refine g_aload_n (pc := 44) C dX9_readHouse_44 0 rfl ?_
      obtain ⟨v10, hv10, h⟩ := o_bnd h
      refine g_callV (pc := 45) (ws' := [oX9 a_t a_t_tape a_t_draft y3 y4 v10.1 v10.2.1 v10.2.2.1 v10.2.2.2, oX1 a_t_draft v1.1 c_t_draft_comers c_t_draft_evening a_t_draft_lists a_t_draft_kindOf a_t_draft_goes a_t_draft_comes a_t_draft_likings, aI E a_t_draft_lists 4 y9, oX8 a_t_tape a_t_tape_bytes c_t_tape_length, aI E a_t_tape_bytes 160 r_t_tape_bytes]) (st1 := []) C mv_X9_44 (k_X9_readToken E a_t a_t_tape a_t_tape_bytes a_t_draft y3 y4 y5 y6 y7 y8 c_t_tape_length r_t_tape_bytes v10 hv10) [0, 3, 4] rfl (by decide +kernel) rfl [some 0, none, none, some 1, some 2] 5 (by decide +kernel) rfl rfl 0 rfl rfl ⟨by decide, by decide⟩ ⟨rfl, rfl⟩ ⟨Nat.zero_le _, Nat.zero_le _⟩ rfl rfl rfl (Nat.le_of_ble_eq_true rfl) dX9_readHouse_45 ?_
      refine g_aload_n (pc := 48) C dX9_readHouse_48 0 rfl ?_
      refine g_get (pc := 49) 0 C fl_X9_31 rfl rfl dX9_readHouse_49 ?_
      refine g_iconst (pc := 52) (v := 2) C dX9_readHouse_52 (by decide) ?_
      refine b_icmp_ne (pc := 53) 58 C dX9_readHouse_53 (by decide) h (fun _ h => ?_) (fun _ h => ?_)
      · refine g_aload_n (pc := 58) C dX9_readHouse_58 0 rfl ?_
        refine g_iconst (pc := 59) (v := 1) C dX9_readHouse_59 (by decide) ?_
        obtain ⟨v11, hv11, h⟩ := o_bnd h
        refine g_callV (pc := 60) (ws' := [oX9 a_t a_t_tape a_t_draft v11.2.1 v11.2.2 v10.1 v10.2.1 v10.2.2.1 v10.2.2.2, oX1 a_t_draft v1.1 c_t_draft_comers c_t_draft_evening a_t_draft_lists a_t_draft_kindOf a_t_draft_goes a_t_draft_comes a_t_draft_likings, aI E a_t_draft_lists 4 y9, oX8 a_t_tape a_t_tape_bytes c_t_tape_length, aI E a_t_tape_bytes 160 r_t_tape_bytes]) (st1 := [.int v11.1]) C mv_X9_63 (k_X9_stands E a_t a_t_tape a_t_draft y3 y4 v10.1 v10.2.1 v10.2.2.1 v10.2.2.2 1 v11 hv11) [0] rfl (by decide +kernel) rfl [some 0, none, none, none, none] 5 (by decide +kernel) rfl rfl 0 rfl rfl ⟨by decide, by decide⟩ ⟨rfl, rfl⟩ ⟨Nat.zero_le _, Nat.zero_le _⟩ rfl rfl rfl (Nat.le_of_ble_eq_true rfl) dX9_readHouse_60 ?_
        refine b_if_ne (pc := 63) 68 C dX9_readHouse_63 (by decide) h (fun _ h => ?_) (fun _ h => ?_)
        · refine g_aload_n (pc := 68) C dX9_readHouse_68 0 rfl ?_
          refine g_get (pc := 69) 0 C fl_X9_34 rfl rfl dX9_readHouse_69 ?_
          refine g_bipush (pc := 72) (v := 6) C dX9_readHouse_72 (by decide) ?_
          refine b_icmp_lt (pc := 74) 87 C dX9_readHouse_74 (by decide) h (fun _ h => ?_) (fun _ h => ?_)
          · refine g_aload_n (pc := 87) C dX9_readHouse_87 0 rfl ?_
            refine g_get (pc := 88) 0 C fl_X9_12 rfl rfl dX9_readHouse_88 ?_
            refine g_iload_n (pc := 91) C dX9_readHouse_91 1 rfl ?_
            refine g_aload_n (pc := 92) C dX9_readHouse_92 0 rfl ?_
            refine g_get (pc := 93) 0 C fl_X9_34 rfl rfl dX9_readHouse_93 ?_
            obtain ⟨v12, hv12, h⟩ := o_bnd h
            refine g_callV (pc := 96) (ws' := [oX9 a_t a_t_tape a_t_draft v11.2.1 v11.2.2 v10.1 v10.2.1 v10.2.2.1 v10.2.2.2, oX1 a_t_draft v1.1 c_t_draft_comers c_t_draft_evening a_t_draft_lists a_t_draft_kindOf a_t_draft_goes a_t_draft_comes a_t_draft_likings, aI E a_t_draft_lists 4 y9, oX8 a_t_tape a_t_tape_bytes c_t_tape_length, aI E a_t_tape_bytes 160 r_t_tape_bytes]) (st1 := [.int v12]) C mv_X9_89 (k_X1_onList E a_t_draft a_t_draft_lists a_t_draft_kindOf a_t_draft_goes a_t_draft_comes a_t_draft_likings v1.1 c_t_draft_comers c_t_draft_evening y9 c_t_draft_houses v10.2.2.2 v12 hv12) [1, 2] rfl (by decide +kernel) rfl [none, some 0, some 1, none, none] 5 (by decide +kernel) rfl rfl 0 rfl rfl ⟨by decide, by decide⟩ ⟨rfl, rfl⟩ ⟨Nat.zero_le _, Nat.zero_le _⟩ rfl rfl rfl (Nat.le_of_ble_eq_true rfl) dX9_readHouse_96 ?_
            refine b_if_eq (pc := 99) 112 C dX9_readHouse_99 (by decide) h (fun _ h => ?_) (fun _ h => ?_)
            · refine g_aload_n (pc := 112) C dX9_readHouse_112 0 rfl ?_
              refine g_get (pc := 113) 0 C fl_X9_12 rfl rfl dX9_readHouse_113 ?_
              refine g_iload_n (pc := 116) C dX9_readHouse_116 1 rfl ?_
              refine g_aload_n (pc := 117) C dX9_readHouse_117 0 rfl ?_
              refine g_get (pc := 118) 0 C fl_X9_34 rfl rfl dX9_readHouse_118 ?_
              refine g_iconst (pc := 121) (v := 1) C dX9_readHouse_121 (by decide) ?_
              obtain ⟨v13, hv13, h⟩ := o_bnd h
              refine g_callV (pc := 122) (ws' := [oX9 a_t a_t_tape a_t_draft v11.2.1 v11.2.2 v10.1 v10.2.1 v10.2.2.1 v10.2.2.2, oX1 a_t_draft v1.1 c_t_draft_comers c_t_draft_evening a_t_draft_lists a_t_draft_kindOf a_t_draft_goes a_t_draft_comes a_t_draft_likings, aI E a_t_draft_lists 4 v13, oX8 a_t_tape a_t_tape_bytes c_t_tape_length, aI E a_t_tape_bytes 160 r_t_tape_bytes]) (st1 := []) C mv_X9_92 (k_X1_setOnList E a_t_draft a_t_draft_lists a_t_draft_kindOf a_t_draft_goes a_t_draft_comes a_t_draft_likings v1.1 c_t_draft_comers c_t_draft_evening y9 c_t_draft_houses v10.2.2.2 1 v13 hv13) [1, 2] rfl (by decide +kernel) rfl [none, some 0, some 1, none, none] 5 (by decide +kernel) rfl rfl 0 rfl rfl ⟨by decide, by decide⟩ ⟨rfl, rfl⟩ ⟨Nat.zero_le _, Nat.zero_le _⟩ rfl rfl rfl (Nat.le_of_ble_eq_true rfl) dX9_readHouse_122 ?_
              refine g_iinc (pc := 125) (v := y2 + 1) (lv' := [(2, .int (y2 + 1)), (0, .ref a_t), (1, .int c_t_draft_houses)]) C dX9_readHouse_125 2 rfl rfl (by decide) rfl ?_
              refine g_goto (pc := 128) 38 C dX9_readHouse_128 (by decide) ?_
              refine g_lv [1, 2, 0] (lv' := [(0, .ref a_t), (1, .int c_t_draft_houses), (2, .int (y2 + 1))]) rfl ?_
              exact ih _ _ _ _ _ _ _ _ _ h kr kx
            · refine g_aload_n (pc := 102) C dX9_readHouse_102 0 rfl ?_
              refine g_iconst (pc := 103) (v := 4) C dX9_readHouse_103 (by decide) ?_
              refine g_aload_n (pc := 104) C dX9_readHouse_104 0 rfl ?_
              refine g_get (pc := 105) 0 C fl_X9_25 rfl rfl dX9_readHouse_105 ?_
              obtain ⟨v14, hv14, h⟩ := o_bnd h
              refine g_callV (pc := 108) (ws' := [oX9 a_t a_t_tape a_t_draft v14.2.1 v14.2.2 v10.1 v10.2.1 v10.2.2.1 v10.2.2.2, oX1 a_t_draft v1.1 c_t_draft_comers c_t_draft_evening a_t_draft_lists a_t_draft_kindOf a_t_draft_goes a_t_draft_comes a_t_draft_likings, aI E a_t_draft_lists 4 y9, oX8 a_t_tape a_t_tape_bytes c_t_tape_length, aI E a_t_tape_bytes 160 r_t_tape_bytes]) (st1 := [.int v14.1]) C mv_X9_59 (k_X9_fail E a_t a_t_tape a_t_draft v11.2.1 v11.2.2 v10.1 v10.2.1 v10.2.2.1 v10.2.2.2 4 v10.1 v14 hv14) [0] rfl (by decide +kernel) rfl [some 0, none, none, none, none] 5 (by decide +kernel) rfl rfl 0 rfl rfl ⟨by decide, by decide⟩ ⟨rfl, rfl⟩ ⟨Nat.zero_le _, Nat.zero_le _⟩ rfl rfl rfl (Nat.le_of_ble_eq_true rfl) dX9_readHouse_108 ?_
              obtain ⟨hz, h⟩ := o_grd h
              obtain rfl := Option.some.inj h
              exact g_zret (pc := 111) C (kr _ rfl) (nb_one hz) dX9_readHouse_111
          · refine g_aload_n (pc := 77) C dX9_readHouse_77 0 rfl ?_
            refine g_iconst (pc := 78) (v := 3) C dX9_readHouse_78 (by decide) ?_
            refine g_aload_n (pc := 79) C dX9_readHouse_79 0 rfl ?_
            refine g_get (pc := 80) 0 C fl_X9_25 rfl rfl dX9_readHouse_80 ?_
            obtain ⟨v15, hv15, h⟩ := o_bnd h
            refine g_callV (pc := 83) (ws' := [oX9 a_t a_t_tape a_t_draft v15.2.1 v15.2.2 v10.1 v10.2.1 v10.2.2.1 v10.2.2.2, oX1 a_t_draft v1.1 c_t_draft_comers c_t_draft_evening a_t_draft_lists a_t_draft_kindOf a_t_draft_goes a_t_draft_comes a_t_draft_likings, aI E a_t_draft_lists 4 y9, oX8 a_t_tape a_t_tape_bytes c_t_tape_length, aI E a_t_tape_bytes 160 r_t_tape_bytes]) (st1 := [.int v15.1]) C mv_X9_59 (k_X9_fail E a_t a_t_tape a_t_draft v11.2.1 v11.2.2 v10.1 v10.2.1 v10.2.2.1 v10.2.2.2 3 v10.1 v15 hv15) [0] rfl (by decide +kernel) rfl [some 0, none, none, none, none] 5 (by decide +kernel) rfl rfl 0 rfl rfl ⟨by decide, by decide⟩ ⟨rfl, rfl⟩ ⟨Nat.zero_le _, Nat.zero_le _⟩ rfl rfl rfl (Nat.le_of_ble_eq_true rfl) dX9_readHouse_83 ?_
            obtain ⟨hz, h⟩ := o_grd h
            obtain rfl := Option.some.inj h
            exact g_zret (pc := 86) C (kr _ rfl) (nb_one hz) dX9_readHouse_86
        · refine g_iconst (pc := 66) (v := 0) C dX9_readHouse_66 (by decide) ?_
          obtain rfl := Option.some.inj h
          exact g_zret (pc := 67) C (kr _ rfl) rfl dX9_readHouse_67
      · refine g_iconst (pc := 56) (v := 1) C dX9_readHouse_56 (by decide) ?_
        obtain rfl := Option.some.inj h
        exact g_zret (pc := 57) C (kr _ rfl) rfl dX9_readHouse_57
set_option maxHeartbeats 4000000 in
set_option maxRecDepth 100000 in
theorem k_X9_readHouse (E : Ev) (a_t a_t_draft a_t_draft_lists a_t_tape a_t_tape_bytes a_t_draft_kindOf a_t_draft_goes a_t_draft_comes a_t_draft_likings : Nat) (c_t_fault : Int32) (c_t_faultPlace : Int32) (c_t_place : Int32) (c_t_behind : Int32) (c_t_sort : Int32) (c_t_value : Int32) (c_t_draft_houses : Int32) (c_t_draft_comers : Int32) (c_t_draft_evening : Int32) (r_t_draft_lists : (Nat → Int32)) (c_t_tape_length : Int32) (r_t_tape_bytes : (Nat → Int32)) (v : Int32 × Int32 × Int32 × Int32 × Int32 × Int32 × Int32 × Int32 × (Nat → Int32)) (h : f_X9_readHouse c_t_fault c_t_faultPlace c_t_place c_t_behind c_t_sort c_t_value c_t_draft_houses r_t_draft_lists c_t_tape_length r_t_tape_bytes = some v) : Mt E yX9_readHouse cX9_readHouse 3 (some .boolean) rm_X9_readHouse [.ref a_t] [oX9 a_t a_t_tape a_t_draft c_t_fault c_t_faultPlace c_t_place c_t_behind c_t_sort c_t_value, oX1 a_t_draft c_t_draft_houses c_t_draft_comers c_t_draft_evening a_t_draft_lists a_t_draft_kindOf a_t_draft_goes a_t_draft_comes a_t_draft_likings, aI E a_t_draft_lists 4 r_t_draft_lists, oX8 a_t_tape a_t_tape_bytes c_t_tape_length, aI E a_t_tape_bytes 160 r_t_tape_bytes] [oX9 a_t a_t_tape a_t_draft v.2.1 v.2.2.1 v.2.2.2.1 v.2.2.2.2.1 v.2.2.2.2.2.1 v.2.2.2.2.2.2.1, oX1 a_t_draft v.2.2.2.2.2.2.2.1 c_t_draft_comers c_t_draft_evening a_t_draft_lists a_t_draft_kindOf a_t_draft_goes a_t_draft_comes a_t_draft_likings, aI E a_t_draft_lists 4 v.2.2.2.2.2.2.2.2, oX8 a_t_tape a_t_tape_bytes c_t_tape_length, aI E a_t_tape_bytes 160 r_t_tape_bytes] (some (.int v.1)) := by
  refine Mt.intro (lv := [(0, .ref a_t)]) (by decide +kernel) (Nat.le_of_ble_eq_true rfl) rfl (fun X C K => ?_)
  have C : CX E X cX9_readHouse RX9 3 rm_X9_readHouse := C
  rw [f_X9_readHouse] at h
  refine g_aload_n (pc := 0) C dX9_readHouse_0 0 rfl ?_
  refine g_get (pc := 1) 0 C fl_X9_12 rfl rfl dX9_readHouse_1 ?_
  refine g_get (pc := 4) 1 C fl_X9_83 rfl rfl dX9_readHouse_4 ?_
  refine g_iconst (pc := 7) (v := 4) C dX9_readHouse_7 (by decide) ?_
  refine b_icmp_lt (pc := 8) 21 C dX9_readHouse_8 (by decide) h (fun _ h => ?_) (fun _ h => ?_)
  · refine g_aload_n (pc := 21) C dX9_readHouse_21 0 rfl ?_
    refine g_get (pc := 22) 0 C fl_X9_12 rfl rfl dX9_readHouse_22 ?_
    refine g_get (pc := 25) 1 C fl_X9_83 rfl rfl dX9_readHouse_25 ?_
    refine g_istore_n (pc := 28) (lv' := [(1, .int c_t_draft_houses), (0, .ref a_t)]) C dX9_readHouse_28 (by decide) rfl ?_
    refine g_aload_n (pc := 29) C dX9_readHouse_29 1 rfl ?_
    refine g_get (pc := 30) 0 C fl_X9_12 rfl rfl dX9_readHouse_30 ?_
    obtain ⟨v1, hv1, h⟩ := o_bnd h
    refine g_callV (pc := 33) (ws' := [oX9 a_t a_t_tape a_t_draft c_t_fault c_t_faultPlace c_t_place c_t_behind c_t_sort c_t_value, oX1 a_t_draft v1.1 c_t_draft_comers c_t_draft_evening a_t_draft_lists a_t_draft_kindOf a_t_draft_goes a_t_draft_comes a_t_draft_likings, aI E a_t_draft_lists 4 v1.2, oX8 a_t_tape a_t_tape_bytes c_t_tape_length, aI E a_t_tape_bytes 160 r_t_tape_bytes]) (st1 := []) C mv_X9_86 (k_X1_addHouse E a_t_draft a_t_draft_lists a_t_draft_kindOf a_t_draft_goes a_t_draft_comes a_t_draft_likings c_t_draft_houses c_t_draft_comers c_t_draft_evening r_t_draft_lists v1 hv1) [1, 2] rfl (by decide +kernel) rfl [none, some 0, some 1, none, none] 5 (by decide +kernel) rfl rfl 0 rfl rfl ⟨by decide, by decide⟩ ⟨rfl, rfl⟩ ⟨Nat.zero_le _, Nat.zero_le _⟩ rfl rfl rfl (Nat.le_of_ble_eq_true rfl) dX9_readHouse_33 ?_
    refine g_iconst (pc := 36) (v := 0) C dX9_readHouse_36 (by decide) ?_
    refine g_istore_n (pc := 37) (lv' := [(2, .int 0), (1, .int c_t_draft_houses), (0, .ref a_t)]) C dX9_readHouse_37 (by decide) rfl ?_
    rcases o_sel h with ⟨w19, hw19, h⟩ | ⟨v17, hv17, h⟩
    · obtain rfl := Option.some.inj h
      refine g_lv [2, 1, 0] (lv' := [(0, .ref a_t), (1, .int c_t_draft_houses), (2, .int 0)]) rfl ?_
      exact lp_X9_readHouse_38 c_t_draft_houses c_t_draft_comers c_t_draft_evening c_t_tape_length r_t_tape_bytes v1 C 400 _ _ _ _ _ _ _ _ _ hw19 (fun _ e => by cases e; exact K) (fun _ e => by cases e)
    · refine g_lv [2, 1, 0] (lv' := [(0, .ref a_t), (1, .int c_t_draft_houses), (2, .int 0)]) rfl ?_
      refine lp_X9_readHouse_38 c_t_draft_houses c_t_draft_comers c_t_draft_evening c_t_tape_length r_t_tape_bytes v1 C 400 _ _ _ _ _ _ _ _ _ hv17 (fun _ e => by cases e) (fun _ e => ?_)
      cases e
      refine g_aload_n (pc := 131) C dX9_readHouse_131 0 rfl ?_
      refine g_iconst (pc := 132) (v := 4) C dX9_readHouse_132 (by decide) ?_
      refine g_aload_n (pc := 133) C dX9_readHouse_133 0 rfl ?_
      refine g_get (pc := 134) 0 C fl_X9_25 rfl rfl dX9_readHouse_134 ?_
      obtain ⟨v18, hv18, h⟩ := o_bnd h
      refine g_callV (pc := 137) (ws' := [oX9 a_t a_t_tape a_t_draft v18.2.1 v18.2.2 v17.2.2.1 v17.2.2.2.1 v17.2.2.2.2.1 v17.2.2.2.2.2.1, oX1 a_t_draft v1.1 c_t_draft_comers c_t_draft_evening a_t_draft_lists a_t_draft_kindOf a_t_draft_goes a_t_draft_comes a_t_draft_likings, aI E a_t_draft_lists 4 v17.2.2.2.2.2.2, oX8 a_t_tape a_t_tape_bytes c_t_tape_length, aI E a_t_tape_bytes 160 r_t_tape_bytes]) (st1 := [.int v18.1]) C mv_X9_59 (k_X9_fail E a_t a_t_tape a_t_draft v17.1 v17.2.1 v17.2.2.1 v17.2.2.2.1 v17.2.2.2.2.1 v17.2.2.2.2.2.1 4 v17.2.2.1 v18 hv18) [0] rfl (by decide +kernel) rfl [some 0, none, none, none, none] 5 (by decide +kernel) rfl rfl 0 rfl rfl ⟨by decide, by decide⟩ ⟨rfl, rfl⟩ ⟨Nat.zero_le _, Nat.zero_le _⟩ rfl rfl rfl (Nat.le_of_ble_eq_true rfl) dX9_readHouse_137 ?_
      obtain ⟨hz, h⟩ := o_grd h
      obtain rfl := Option.some.inj h
      exact g_zret (pc := 140) C K (nb_one hz) dX9_readHouse_140
  · refine g_aload_n (pc := 11) C dX9_readHouse_11 0 rfl ?_
    refine g_iconst (pc := 12) (v := 5) C dX9_readHouse_12 (by decide) ?_
    refine g_aload_n (pc := 13) C dX9_readHouse_13 0 rfl ?_
    refine g_get (pc := 14) 0 C fl_X9_25 rfl rfl dX9_readHouse_14 ?_
    obtain ⟨v20, hv20, h⟩ := o_bnd h
    refine g_callV (pc := 17) (ws' := [oX9 a_t a_t_tape a_t_draft v20.2.1 v20.2.2 c_t_place c_t_behind c_t_sort c_t_value, oX1 a_t_draft c_t_draft_houses c_t_draft_comers c_t_draft_evening a_t_draft_lists a_t_draft_kindOf a_t_draft_goes a_t_draft_comes a_t_draft_likings, aI E a_t_draft_lists 4 r_t_draft_lists, oX8 a_t_tape a_t_tape_bytes c_t_tape_length, aI E a_t_tape_bytes 160 r_t_tape_bytes]) (st1 := [.int v20.1]) C mv_X9_59 (k_X9_fail E a_t a_t_tape a_t_draft c_t_fault c_t_faultPlace c_t_place c_t_behind c_t_sort c_t_value 5 c_t_place v20 hv20) [0] rfl (by decide +kernel) rfl [some 0, none, none, none, none] 5 (by decide +kernel) rfl rfl 0 rfl rfl ⟨by decide, by decide⟩ ⟨rfl, rfl⟩ ⟨Nat.zero_le _, Nat.zero_le _⟩ rfl rfl rfl (Nat.le_of_ble_eq_true rfl) dX9_readHouse_17 ?_
    obtain ⟨hz, h⟩ := o_grd h
    obtain rfl := Option.some.inj h
    exact g_zret (pc := 20) C K (nb_one hz) dX9_readHouse_20
theorem dX9_kindNamed_0 : decode cX9_kindNamed 0 = .ok (.aload_n 0, 1) := by decide +kernel
theorem dX9_kindNamed_1 : decode cX9_kindNamed 1 = .ok (.ldc 122, 2) := by decide +kernel
theorem dX9_kindNamed_3 : decode cX9_kindNamed 3 = .ok (.invokevirtual 69, 3) := by decide +kernel
theorem dX9_kindNamed_6 : decode cX9_kindNamed 6 = .ok (.ifCond .eq 5, 3) := by decide +kernel
theorem dX9_kindNamed_9 : decode cX9_kindNamed 9 = .ok (.iconst 0, 1) := by decide +kernel
theorem dX9_kindNamed_10 : decode cX9_kindNamed 10 = .ok (.ireturn, 1) := by decide +kernel
theorem dX9_kindNamed_11 : decode cX9_kindNamed 11 = .ok (.aload_n 0, 1) := by decide +kernel
theorem dX9_kindNamed_12 : decode cX9_kindNamed 12 = .ok (.ldc 124, 2) := by decide +kernel
theorem dX9_kindNamed_14 : decode cX9_kindNamed 14 = .ok (.invokevirtual 69, 3) := by decide +kernel
theorem dX9_kindNamed_17 : decode cX9_kindNamed 17 = .ok (.ifCond .eq 5, 3) := by decide +kernel
theorem dX9_kindNamed_20 : decode cX9_kindNamed 20 = .ok (.iconst 1, 1) := by decide +kernel
theorem dX9_kindNamed_21 : decode cX9_kindNamed 21 = .ok (.ireturn, 1) := by decide +kernel
theorem dX9_kindNamed_22 : decode cX9_kindNamed 22 = .ok (.aload_n 0, 1) := by decide +kernel
theorem dX9_kindNamed_23 : decode cX9_kindNamed 23 = .ok (.ldc 126, 2) := by decide +kernel
theorem dX9_kindNamed_25 : decode cX9_kindNamed 25 = .ok (.invokevirtual 69, 3) := by decide +kernel
theorem dX9_kindNamed_28 : decode cX9_kindNamed 28 = .ok (.ifCond .eq 5, 3) := by decide +kernel
theorem dX9_kindNamed_31 : decode cX9_kindNamed 31 = .ok (.iconst 2, 1) := by decide +kernel
theorem dX9_kindNamed_32 : decode cX9_kindNamed 32 = .ok (.ireturn, 1) := by decide +kernel
theorem dX9_kindNamed_33 : decode cX9_kindNamed 33 = .ok (.aload_n 0, 1) := by decide +kernel
theorem dX9_kindNamed_34 : decode cX9_kindNamed 34 = .ok (.ldc 128, 2) := by decide +kernel
theorem dX9_kindNamed_36 : decode cX9_kindNamed 36 = .ok (.invokevirtual 69, 3) := by decide +kernel
theorem dX9_kindNamed_39 : decode cX9_kindNamed 39 = .ok (.ifCond .eq 7, 3) := by decide +kernel
theorem dX9_kindNamed_42 : decode cX9_kindNamed 42 = .ok (.iconst 3, 1) := by decide +kernel
theorem dX9_kindNamed_43 : decode cX9_kindNamed 43 = .ok (.goto 5, 3) := by decide +kernel
theorem dX9_kindNamed_46 : decode cX9_kindNamed 46 = .ok (.bipush (-4), 2) := by decide +kernel
theorem dX9_kindNamed_48 : decode cX9_kindNamed 48 = .ok (.ireturn, 1) := by decide +kernel
def f_X9_kindNamed (c_t_place : Int32) (c_t_behind : Int32) (r_t_tape_bytes : (Nat → Int32)) : Option (Int32) :=
  (f_X9_named 1 c_t_place c_t_behind r_t_tape_bytes).bind (fun (v1 : Int32) =>
    if v1 = 0 then
      ((f_X9_named 2 c_t_place c_t_behind r_t_tape_bytes).bind (fun (v2 : Int32) =>
        if v2 = 0 then
          ((f_X9_named 3 c_t_place c_t_behind r_t_tape_bytes).bind (fun (v3 : Int32) =>
            if v3 = 0 then
              ((f_X9_named 4 c_t_place c_t_behind r_t_tape_bytes).bind (fun (v4 : Int32) =>
                if v4 = 0 then
                  (some ((-4)))
                else
                  (some 3)))
            else
              (some 2)))
        else
          (some 1)))
    else
      (some 0))
abbrev rm_X9_kindNamed : Room := { frames := 6, cells := 0, slots := 0, locals := 142 }
set_option maxHeartbeats 4000000 in
set_option maxRecDepth 100000 in
theorem k_X9_kindNamed (E : Ev) (a_t a_t_tape a_t_tape_bytes a_t_draft : Nat) (c_t_fault : Int32) (c_t_faultPlace : Int32) (c_t_place : Int32) (c_t_behind : Int32) (c_t_sort : Int32) (c_t_value : Int32) (c_t_tape_length : Int32) (r_t_tape_bytes : (Nat → Int32)) (v : Int32) (h : f_X9_kindNamed c_t_place c_t_behind r_t_tape_bytes = some v) : Mt E yX9_kindNamed cX9_kindNamed 1 (some .int) rm_X9_kindNamed [.ref a_t] [oX9 a_t a_t_tape a_t_draft c_t_fault c_t_faultPlace c_t_place c_t_behind c_t_sort c_t_value, oX8 a_t_tape a_t_tape_bytes c_t_tape_length, aI E a_t_tape_bytes 160 r_t_tape_bytes] [oX9 a_t a_t_tape a_t_draft c_t_fault c_t_faultPlace c_t_place c_t_behind c_t_sort c_t_value, oX8 a_t_tape a_t_tape_bytes c_t_tape_length, aI E a_t_tape_bytes 160 r_t_tape_bytes] (some (.int v)) := by
  refine Mt.intro (lv := [(0, .ref a_t)]) (by decide +kernel) (Nat.le_of_ble_eq_true rfl) rfl (fun X C K => ?_)
  have C : CX E X cX9_kindNamed RX9 1 rm_X9_kindNamed := C
  rw [f_X9_kindNamed] at h
  refine g_aload_n (pc := 0) C dX9_kindNamed_0 0 rfl ?_
  refine g_ldcs (pc := 1) C (C.2.2.2.2.2.2.2.2.2.2.2.2.1) dX9_kindNamed_1 ?_
  obtain ⟨v1, hv1, h⟩ := o_bnd h
  refine g_callV (pc := 3) (ws' := [oX9 a_t a_t_tape a_t_draft c_t_fault c_t_faultPlace c_t_place c_t_behind c_t_sort c_t_value, oX8 a_t_tape a_t_tape_bytes c_t_tape_length, aI E a_t_tape_bytes 160 r_t_tape_bytes]) (st1 := [.int v1]) C mv_X9_69 (k_X9_named E 1 (by decide) a_t a_t_tape a_t_tape_bytes a_t_draft c_t_fault c_t_faultPlace c_t_place c_t_behind c_t_sort c_t_value c_t_tape_length r_t_tape_bytes v1 hv1) [0, 1, 2] rfl (by decide +kernel) rfl [some 0, some 1, some 2] 3 (by decide +kernel) rfl rfl 0 rfl rfl ⟨by decide, by decide⟩ ⟨rfl, rfl⟩ ⟨Nat.zero_le _, Nat.zero_le _⟩ rfl rfl rfl (Nat.le_of_ble_eq_true rfl) dX9_kindNamed_3 ?_
  refine b_if_eq (pc := 6) 11 C dX9_kindNamed_6 (by decide) h (fun _ h => ?_) (fun _ h => ?_)
  · refine g_aload_n (pc := 11) C dX9_kindNamed_11 0 rfl ?_
    refine g_ldcs (pc := 12) C (C.2.2.2.2.2.2.2.2.2.2.2.2.2.1) dX9_kindNamed_12 ?_
    obtain ⟨v2, hv2, h⟩ := o_bnd h
    refine g_callV (pc := 14) (ws' := [oX9 a_t a_t_tape a_t_draft c_t_fault c_t_faultPlace c_t_place c_t_behind c_t_sort c_t_value, oX8 a_t_tape a_t_tape_bytes c_t_tape_length, aI E a_t_tape_bytes 160 r_t_tape_bytes]) (st1 := [.int v2]) C mv_X9_69 (k_X9_named E 2 (by decide) a_t a_t_tape a_t_tape_bytes a_t_draft c_t_fault c_t_faultPlace c_t_place c_t_behind c_t_sort c_t_value c_t_tape_length r_t_tape_bytes v2 hv2) [0, 1, 2] rfl (by decide +kernel) rfl [some 0, some 1, some 2] 3 (by decide +kernel) rfl rfl 0 rfl rfl ⟨by decide, by decide⟩ ⟨rfl, rfl⟩ ⟨Nat.zero_le _, Nat.zero_le _⟩ rfl rfl rfl (Nat.le_of_ble_eq_true rfl) dX9_kindNamed_14 ?_
    refine b_if_eq (pc := 17) 22 C dX9_kindNamed_17 (by decide) h (fun _ h => ?_) (fun _ h => ?_)
    · refine g_aload_n (pc := 22) C dX9_kindNamed_22 0 rfl ?_
      refine g_ldcs (pc := 23) C (C.2.2.2.2.2.2.2.2.2.2.2.2.2.2.1) dX9_kindNamed_23 ?_
      obtain ⟨v3, hv3, h⟩ := o_bnd h
      refine g_callV (pc := 25) (ws' := [oX9 a_t a_t_tape a_t_draft c_t_fault c_t_faultPlace c_t_place c_t_behind c_t_sort c_t_value, oX8 a_t_tape a_t_tape_bytes c_t_tape_length, aI E a_t_tape_bytes 160 r_t_tape_bytes]) (st1 := [.int v3]) C mv_X9_69 (k_X9_named E 3 (by decide) a_t a_t_tape a_t_tape_bytes a_t_draft c_t_fault c_t_faultPlace c_t_place c_t_behind c_t_sort c_t_value c_t_tape_length r_t_tape_bytes v3 hv3) [0, 1, 2] rfl (by decide +kernel) rfl [some 0, some 1, some 2] 3 (by decide +kernel) rfl rfl 0 rfl rfl ⟨by decide, by decide⟩ ⟨rfl, rfl⟩ ⟨Nat.zero_le _, Nat.zero_le _⟩ rfl rfl rfl (Nat.le_of_ble_eq_true rfl) dX9_kindNamed_25 ?_
      refine b_if_eq (pc := 28) 33 C dX9_kindNamed_28 (by decide) h (fun _ h => ?_) (fun _ h => ?_)
      · refine g_aload_n (pc := 33) C dX9_kindNamed_33 0 rfl ?_
        refine g_ldcs (pc := 34) C (C.2.2.2.2.2.2.2.2.2.2.2.2.2.2.2.1) dX9_kindNamed_34 ?_
        obtain ⟨v4, hv4, h⟩ := o_bnd h
        refine g_callV (pc := 36) (ws' := [oX9 a_t a_t_tape a_t_draft c_t_fault c_t_faultPlace c_t_place c_t_behind c_t_sort c_t_value, oX8 a_t_tape a_t_tape_bytes c_t_tape_length, aI E a_t_tape_bytes 160 r_t_tape_bytes]) (st1 := [.int v4]) C mv_X9_69 (k_X9_named E 4 (by decide) a_t a_t_tape a_t_tape_bytes a_t_draft c_t_fault c_t_faultPlace c_t_place c_t_behind c_t_sort c_t_value c_t_tape_length r_t_tape_bytes v4 hv4) [0, 1, 2] rfl (by decide +kernel) rfl [some 0, some 1, some 2] 3 (by decide +kernel) rfl rfl 0 rfl rfl ⟨by decide, by decide⟩ ⟨rfl, rfl⟩ ⟨Nat.zero_le _, Nat.zero_le _⟩ rfl rfl rfl (Nat.le_of_ble_eq_true rfl) dX9_kindNamed_36 ?_
        refine b_if_eq (pc := 39) 46 C dX9_kindNamed_39 (by decide) h (fun _ h => ?_) (fun _ h => ?_)
        · refine g_bipush (pc := 46) (v := (-4)) C dX9_kindNamed_46 (by decide) ?_
          obtain rfl := Option.some.inj h
          exact g_iret (pc := 48) C K dX9_kindNamed_48
        · refine g_iconst (pc := 42) (v := 3) C dX9_kindNamed_42 (by decide) ?_
          refine g_goto (pc := 43) 48 C dX9_kindNamed_43 (by decide) ?_
          obtain rfl := Option.some.inj h
          exact g_iret (pc := 48) C K dX9_kindNamed_48
      · refine g_iconst (pc := 31) (v := 2) C dX9_kindNamed_31 (by decide) ?_
        obtain rfl := Option.some.inj h
        exact g_iret (pc := 32) C K dX9_kindNamed_32
    · refine g_iconst (pc := 20) (v := 1) C dX9_kindNamed_20 (by decide) ?_
      obtain rfl := Option.some.inj h
      exact g_iret (pc := 21) C K dX9_kindNamed_21
  · refine g_iconst (pc := 9) (v := 0) C dX9_kindNamed_9 (by decide) ?_
    obtain rfl := Option.some.inj h
    exact g_iret (pc := 10) C K dX9_kindNamed_10
theorem dX9_readNumber_0 : decode cX9_readNumber 0 = .ok (.aload_n 0, 1) := by decide +kernel
theorem dX9_readNumber_1 : decode cX9_readNumber 1 = .ok (.invokevirtual 44, 3) := by decide +kernel
theorem dX9_readNumber_4 : decode cX9_readNumber 4 = .ok (.aload_n 0, 1) := by decide +kernel
theorem dX9_readNumber_5 : decode cX9_readNumber 5 = .ok (.iconst 1, 1) := by decide +kernel
theorem dX9_readNumber_6 : decode cX9_readNumber 6 = .ok (.invokevirtual 63, 3) := by decide +kernel
theorem dX9_readNumber_9 : decode cX9_readNumber 9 = .ok (.ireturn, 1) := by decide +kernel
def f_X9_readNumber (c_t_fault : Int32) (c_t_faultPlace : Int32) (c_t_place : Int32) (c_t_behind : Int32) (c_t_sort : Int32) (c_t_value : Int32) (c_t_tape_length : Int32) (r_t_tape_bytes : (Nat → Int32)) : Option (Int32 × Int32 × Int32 × Int32 × Int32 × Int32 × Int32) :=
  (f_X9_readToken c_t_place c_t_behind c_t_sort c_t_value c_t_tape_length r_t_tape_bytes).bind (fun (v1 : Int32 × Int32 × Int32 × Int32) =>
    (f_X9_stands c_t_fault c_t_faultPlace v1.1 v1.2.2.1 1).bind (fun (v2 : Int32 × Int32 × Int32) =>
      if v2.1 &&& 1 = v2.1 then
        (some ((v2.1, v2.2.1, v2.2.2, v1.1, v1.2.1, v1.2.2.1, v1.2.2.2)))
      else none))
abbrev rm_X9_readNumber : Room := { frames := 3, cells := 0, slots := 0, locals := 61 }
set_option maxHeartbeats 4000000 in
set_option maxRecDepth 100000 in
theorem k_X9_readNumber (E : Ev) (a_t a_t_tape a_t_tape_bytes a_t_draft : Nat) (c_t_fault : Int32) (c_t_faultPlace : Int32) (c_t_place : Int32) (c_t_behind : Int32) (c_t_sort : Int32) (c_t_value : Int32) (c_t_tape_length : Int32) (r_t_tape_bytes : (Nat → Int32)) (v : Int32 × Int32 × Int32 × Int32 × Int32 × Int32 × Int32) (h : f_X9_readNumber c_t_fault c_t_faultPlace c_t_place c_t_behind c_t_sort c_t_value c_t_tape_length r_t_tape_bytes = some v) : Mt E yX9_readNumber cX9_readNumber 1 (some .boolean) rm_X9_readNumber [.ref a_t] [oX9 a_t a_t_tape a_t_draft c_t_fault c_t_faultPlace c_t_place c_t_behind c_t_sort c_t_value, oX8 a_t_tape a_t_tape_bytes c_t_tape_length, aI E a_t_tape_bytes 160 r_t_tape_bytes] [oX9 a_t a_t_tape a_t_draft v.2.1 v.2.2.1 v.2.2.2.1 v.2.2.2.2.1 v.2.2.2.2.2.1 v.2.2.2.2.2.2, oX8 a_t_tape a_t_tape_bytes c_t_tape_length, aI E a_t_tape_bytes 160 r_t_tape_bytes] (some (.int v.1)) := by
  refine Mt.intro (lv := [(0, .ref a_t)]) (by decide +kernel) (Nat.le_of_ble_eq_true rfl) rfl (fun X C K => ?_)
  have C : CX E X cX9_readNumber RX9 1 rm_X9_readNumber := C
  rw [f_X9_readNumber] at h
  refine g_aload_n (pc := 0) C dX9_readNumber_0 0 rfl ?_
  obtain ⟨v1, hv1, h⟩ := o_bnd h
  refine g_callV (pc := 1) (ws' := [oX9 a_t a_t_tape a_t_draft c_t_fault c_t_faultPlace v1.1 v1.2.1 v1.2.2.1 v1.2.2.2, oX8 a_t_tape a_t_tape_bytes c_t_tape_length, aI E a_t_tape_bytes 160 r_t_tape_bytes]) (st1 := []) C mv_X9_44 (k_X9_readToken E a_t a_t_tape a_t_tape_bytes a_t_draft c_t_fault c_t_faultPlace c_t_place c_t_behind c_t_sort c_t_value c_t_tape_length r_t_tape_bytes v1 hv1) [0, 1, 2] rfl (by decide +kernel) rfl [some 0, some 1, some 2] 3 (by decide +kernel) rfl rfl 0 rfl rfl ⟨by decide, by decide⟩ ⟨rfl, rfl⟩ ⟨Nat.zero_le _, Nat.zero_le _⟩ rfl rfl rfl (Nat.le_of_ble_eq_true rfl) dX9_readNumber_1 ?_
  refine g_aload_n (pc := 4) C dX9_readNumber_4 0 rfl ?_
  refine g_iconst (pc := 5) (v := 1) C dX9_readNumber_5 (by decide) ?_
  obtain ⟨v2, hv2, h⟩ := o_bnd h
  refine g_callV (pc := 6) (ws' := [oX9 a_t a_t_tape a_t_draft v2.2.1 v2.2.2 v1.1 v1.2.1 v1.2.2.1 v1.2.2.2, oX8 a_t_tape a_t_tape_bytes c_t_tape_length, aI E a_t_tape_bytes 160 r_t_tape_bytes]) (st1 := [.int v2.1]) C mv_X9_63 (k_X9_stands E a_t a_t_tape a_t_draft c_t_fault c_t_faultPlace v1.1 v1.2.1 v1.2.2.1 v1.2.2.2 1 v2 hv2) [0] rfl (by decide +kernel) rfl [some 0, none, none] 3 (by decide +kernel) rfl rfl 0 rfl rfl ⟨by decide, by decide⟩ ⟨rfl, rfl⟩ ⟨Nat.zero_le _, Nat.zero_le _⟩ rfl rfl rfl (Nat.le_of_ble_eq_true rfl) dX9_readNumber_6 ?_
  obtain ⟨hz, h⟩ := o_grd h
  obtain rfl := Option.some.inj h
  exact g_zret (pc := 9) C K (nb_one hz) dX9_readNumber_9
theorem dX9_readComer_0 : decode cX9_readComer 0 = .ok (.aload_n 0, 1) := by decide +kernel
theorem dX9_readComer_1 : decode cX9_readComer 1 = .ok (.getfield 12, 3) := by decide +kernel
theorem dX9_readComer_4 : decode cX9_readComer 4 = .ok (.getfield 96, 3) := by decide +kernel
theorem dX9_readComer_7 : decode cX9_readComer 7 = .ok (.bipush 6, 2) := by decide +kernel
theorem dX9_readComer_9 : decode cX9_readComer 9 = .ok (.if_icmp .lt 13, 3) := by decide +kernel
theorem dX9_readComer_12 : decode cX9_readComer 12 = .ok (.aload_n 0, 1) := by decide +kernel
theorem dX9_readComer_13 : decode cX9_readComer 13 = .ok (.iconst 5, 1) := by decide +kernel
theorem dX9_readComer_14 : decode cX9_readComer 14 = .ok (.aload_n 0, 1) := by decide +kernel
theorem dX9_readComer_15 : decode cX9_readComer 15 = .ok (.getfield 25, 3) := by decide +kernel
theorem dX9_readComer_18 : decode cX9_readComer 18 = .ok (.invokevirtual 59, 3) := by decide +kernel
theorem dX9_readComer_21 : decode cX9_readComer 21 = .ok (.ireturn, 1) := by decide +kernel
theorem dX9_readComer_22 : decode cX9_readComer 22 = .ok (.aload_n 0, 1) := by decide +kernel
theorem dX9_readComer_23 : decode cX9_readComer 23 = .ok (.invokevirtual 99, 3) := by decide +kernel
theorem dX9_readComer_26 : decode cX9_readComer 26 = .ok (.ifCond .ne 5, 3) := by decide +kernel
theorem dX9_readComer_29 : decode cX9_readComer 29 = .ok (.iconst 0, 1) := by decide +kernel
theorem dX9_readComer_30 : decode cX9_readComer 30 = .ok (.ireturn, 1) := by decide +kernel
theorem dX9_readComer_31 : decode cX9_readComer 31 = .ok (.aload_n 0, 1) := by decide +kernel
theorem dX9_readComer_32 : decode cX9_readComer 32 = .ok (.getfield 34, 3) := by decide +kernel
theorem dX9_readComer_35 : decode cX9_readComer 35 = .ok (.istore_n 2, 1) := by decide +kernel
theorem dX9_readComer_36 : decode cX9_readComer 36 = .ok (.iload_n 2, 1) := by decide +kernel
theorem dX9_readComer_37 : decode cX9_readComer 37 = .ok (.iconst 4, 1) := by decide +kernel
theorem dX9_readComer_38 : decode cX9_readComer 38 = .ok (.if_icmp .lt 19, 3) := by decide +kernel
theorem dX9_readComer_41 : decode cX9_readComer 41 = .ok (.iload_n 2, 1) := by decide +kernel
theorem dX9_readComer_42 : decode cX9_readComer 42 = .ok (.bipush 9, 2) := by decide +kernel
theorem dX9_readComer_44 : decode cX9_readComer 44 = .ok (.if_icmp .eq 13, 3) := by decide +kernel
theorem dX9_readComer_47 : decode cX9_readComer 47 = .ok (.aload_n 0, 1) := by decide +kernel
theorem dX9_readComer_48 : decode cX9_readComer 48 = .ok (.iconst 3, 1) := by decide +kernel
theorem dX9_readComer_49 : decode cX9_readComer 49 = .ok (.aload_n 0, 1) := by decide +kernel
theorem dX9_readComer_50 : decode cX9_readComer 50 = .ok (.getfield 25, 3) := by decide +kernel
theorem dX9_readComer_53 : decode cX9_readComer 53 = .ok (.invokevirtual 59, 3) := by decide +kernel
theorem dX9_readComer_56 : decode cX9_readComer 56 = .ok (.ireturn, 1) := by decide +kernel
theorem dX9_readComer_57 : decode cX9_readComer 57 = .ok (.aload_n 0, 1) := by decide +kernel
theorem dX9_readComer_58 : decode cX9_readComer 58 = .ok (.invokevirtual 99, 3) := by decide +kernel
theorem dX9_readComer_61 : decode cX9_readComer 61 = .ok (.ifCond .ne 5, 3) := by decide +kernel
theorem dX9_readComer_64 : decode cX9_readComer 64 = .ok (.iconst 0, 1) := by decide +kernel
theorem dX9_readComer_65 : decode cX9_readComer 65 = .ok (.ireturn, 1) := by decide +kernel
theorem dX9_readComer_66 : decode cX9_readComer 66 = .ok (.aload_n 0, 1) := by decide +kernel
theorem dX9_readComer_67 : decode cX9_readComer 67 = .ok (.getfield 34, 3) := by decide +kernel
theorem dX9_readComer_70 : decode cX9_readComer 70 = .ok (.istore_n 3, 1) := by decide +kernel
theorem dX9_readComer_71 : decode cX9_readComer 71 = .ok (.iload_n 3, 1) := by decide +kernel
theorem dX9_readComer_72 : decode cX9_readComer 72 = .ok (.bipush 6, 2) := by decide +kernel
theorem dX9_readComer_74 : decode cX9_readComer 74 = .ok (.if_icmp .le 13, 3) := by decide +kernel
theorem dX9_readComer_77 : decode cX9_readComer 77 = .ok (.aload_n 0, 1) := by decide +kernel
theorem dX9_readComer_78 : decode cX9_readComer 78 = .ok (.iconst 3, 1) := by decide +kernel
theorem dX9_readComer_79 : decode cX9_readComer 79 = .ok (.aload_n 0, 1) := by decide +kernel
theorem dX9_readComer_80 : decode cX9_readComer 80 = .ok (.getfield 25, 3) := by decide +kernel
theorem dX9_readComer_83 : decode cX9_readComer 83 = .ok (.invokevirtual 59, 3) := by decide +kernel
theorem dX9_readComer_86 : decode cX9_readComer 86 = .ok (.ireturn, 1) := by decide +kernel
theorem dX9_readComer_87 : decode cX9_readComer 87 = .ok (.aload_n 0, 1) := by decide +kernel
theorem dX9_readComer_88 : decode cX9_readComer 88 = .ok (.invokevirtual 99, 3) := by decide +kernel
theorem dX9_readComer_91 : decode cX9_readComer 91 = .ok (.ifCond .ne 5, 3) := by decide +kernel
theorem dX9_readComer_94 : decode cX9_readComer 94 = .ok (.iconst 0, 1) := by decide +kernel
theorem dX9_readComer_95 : decode cX9_readComer 95 = .ok (.ireturn, 1) := by decide +kernel
theorem dX9_readComer_96 : decode cX9_readComer 96 = .ok (.aload_n 0, 1) := by decide +kernel
theorem dX9_readComer_97 : decode cX9_readComer 97 = .ok (.getfield 34, 3) := by decide +kernel
theorem dX9_readComer_100 : decode cX9_readComer 100 = .ok (.istore 4, 2) := by decide +kernel
theorem dX9_readComer_102 : decode cX9_readComer 102 = .ok (.iload 4, 2) := by decide +kernel
theorem dX9_readComer_104 : decode cX9_readComer 104 = .ok (.bipush 9, 2) := by decide +kernel
theorem dX9_readComer_106 : decode cX9_readComer 106 = .ok (.if_icmp .le 13, 3) := by decide +kernel
theorem dX9_readComer_109 : decode cX9_readComer 109 = .ok (.aload_n 0, 1) := by decide +kernel
theorem dX9_readComer_110 : decode cX9_readComer 110 = .ok (.iconst 3, 1) := by decide +kernel
theorem dX9_readComer_111 : decode cX9_readComer 111 = .ok (.aload_n 0, 1) := by decide +kernel
theorem dX9_readComer_112 : decode cX9_readComer 112 = .ok (.getfield 25, 3) := by decide +kernel
theorem dX9_readComer_115 : decode cX9_readComer 115 = .ok (.invokevirtual 59, 3) := by decide +kernel
theorem dX9_readComer_118 : decode cX9_readComer 118 = .ok (.ireturn, 1) := by decide +kernel
theorem dX9_readComer_119 : decode cX9_readComer 119 = .ok (.aload_n 0, 1) := by decide +kernel
theorem dX9_readComer_120 : decode cX9_readComer 120 = .ok (.getfield 12, 3) := by decide +kernel
theorem dX9_readComer_123 : decode cX9_readComer 123 = .ok (.iload_n 1, 1) := by decide +kernel
theorem dX9_readComer_124 : decode cX9_readComer 124 = .ok (.iload_n 2, 1) := by decide +kernel
theorem dX9_readComer_125 : decode cX9_readComer 125 = .ok (.iload_n 3, 1) := by decide +kernel
theorem dX9_readComer_126 : decode cX9_readComer 126 = .ok (.iload 4, 2) := by decide +kernel
theorem dX9_readComer_128 : decode cX9_readComer 128 = .ok (.invokevirtual 102, 3) := by decide +kernel
theorem dX9_readComer_131 : decode cX9_readComer 131 = .ok (.aload_n 0, 1) := by decide +kernel
theorem dX9_readComer_132 : decode cX9_readComer 132 = .ok (.invokevirtual 44, 3) := by decide +kernel
theorem dX9_readComer_135 : decode cX9_readComer 135 = .ok (.aload_n 0, 1) := by decide +kernel
theorem dX9_readComer_136 : decode cX9_readComer 136 = .ok (.iconst 2, 1) := by decide +kernel
theorem dX9_readComer_137 : decode cX9_readComer 137 = .ok (.invokevirtual 63, 3) := by decide +kernel
theorem dX9_readComer_140 : decode cX9_readComer 140 = .ok (.ireturn, 1) := by decide +kernel
def f_X9_readComer (c_t_fault : Int32) (c_t_faultPlace : Int32) (c_t_place : Int32) (c_t_behind : Int32) (c_t_sort : Int32) (c_t_value : Int32) (c_t_draft_comers : Int32) (r_t_draft_comes : (Nat → Int32)) (r_t_draft_goes : (Nat → Int32)) (r_t_draft_kindOf : (Nat → Int32)) (r_t_draft_likings : (Nat → Int32)) (c_t_tape_length : Int32) (r_t_tape_bytes : (Nat → Int32)) (x1 : Int32) : Option (Int32 × Int32 × Int32 × Int32 × Int32 × Int32 × Int32 × Int32 × (Nat → Int32) × (Nat → Int32) × (Nat → Int32) × (Nat → Int32)) :=
  if c_t_draft_comers < 6 then
    ((f_X9_readNumber c_t_fault c_t_faultPlace c_t_place c_t_behind c_t_sort c_t_value c_t_tape_length r_t_tape_bytes).bind (fun (v1 : Int32 × Int32 × Int32 × Int32 × Int32 × Int32 × Int32) =>
      if v1.1 = 0 then
        (some ((0, v1.2.1, v1.2.2.1, v1.2.2.2.1, v1.2.2.2.2.1, v1.2.2.2.2.2.1, v1.2.2.2.2.2.2, c_t_draft_comers, r_t_draft_comes, r_t_draft_goes, r_t_draft_kindOf, r_t_draft_likings)))
      else
        (if v1.2.2.2.2.2.2 < 4 then
          ((f_X9_readNumber v1.2.1 v1.2.2.1 v1.2.2.2.1 v1.2.2.2.2.1 v1.2.2.2.2.2.1 v1.2.2.2.2.2.2 c_t_tape_length r_t_tape_bytes).bind (fun (v2 : Int32 × Int32 × Int32 × Int32 × Int32 × Int32 × Int32) =>
            if v2.1 = 0 then
              (some ((0, v2.2.1, v2.2.2.1, v2.2.2.2.1, v2.2.2.2.2.1, v2.2.2.2.2.2.1, v2.2.2.2.2.2.2, c_t_draft_comers, r_t_draft_comes, r_t_draft_goes, r_t_draft_kindOf, r_t_draft_likings)))
            else
              (if v2.2.2.2.2.2.2 ≤ 6 then
                ((f_X9_readNumber v2.2.1 v2.2.2.1 v2.2.2.2.1 v2.2.2.2.2.1 v2.2.2.2.2.2.1 v2.2.2.2.2.2.2 c_t_tape_length r_t_tape_bytes).bind (fun (v3 : Int32 × Int32 × Int32 × Int32 × Int32 × Int32 × Int32) =>
                  if v3.1 = 0 then
                    (some ((0, v3.2.1, v3.2.2.1, v3.2.2.2.1, v3.2.2.2.2.1, v3.2.2.2.2.2.1, v3.2.2.2.2.2.2, c_t_draft_comers, r_t_draft_comes, r_t_draft_goes, r_t_draft_kindOf, r_t_draft_likings)))
                  else
                    (if v3.2.2.2.2.2.2 ≤ 9 then
                      ((f_X1_addComer c_t_draft_comers r_t_draft_comes r_t_draft_goes r_t_draft_kindOf r_t_draft_likings x1 v1.2.2.2.2.2.2 v2.2.2.2.2.2.2 v3.2.2.2.2.2.2).bind (fun (v4 : Int32 × (Nat → Int32) × (Nat → Int32) × (Nat → Int32) × (Nat → Int32)) =>
                        (f_X9_readToken v3.2.2.2.1 v3.2.2.2.2.1 v3.2.2.2.2.2.1 v3.2.2.2.2.2.2 c_t_tape_length r_t_tape_bytes).bind (fun (v5 : Int32 × Int32 × Int32 × Int32) =>
                          (f_X9_stands v3.2.1 v3.2.2.1 v5.1 v5.2.2.1 2).bind (fun (v6 : Int32 × Int32 × Int32) =>
                            if v6.1 &&& 1 = v6.1 then
                              (some ((v6.1, v6.2.1, v6.2.2, v5.1, v5.2.1, v5.2.2.1, v5.2.2.2, v4.1, v4.2.1, v4.2.2.1, v4.2.2.2.1, v4.2.2.2.2)))
                            else none))))
                    else
                      ((f_X9_fail v3.2.1 v3.2.2.1 3 v3.2.2.2.1).bind (fun (v7 : Int32 × Int32 × Int32) =>
                        if v7.1 &&& 1 = v7.1 then
                          (some ((v7.1, v7.2.1, v7.2.2, v3.2.2.2.1, v3.2.2.2.2.1, v3.2.2.2.2.2.1, v3.2.2.2.2.2.2, c_t_draft_comers, r_t_draft_comes, r_t_draft_goes, r_t_draft_kindOf, r_t_draft_likings)))
                        else none)))))
              else
                ((f_X9_fail v2.2.1 v2.2.2.1 3 v2.2.2.2.1).bind (fun (v8 : Int32 × Int32 × Int32) =>
                  if v8.1 &&& 1 = v8.1 then
                    (some ((v8.1, v8.2.1, v8.2.2, v2.2.2.2.1, v2.2.2.2.2.1, v2.2.2.2.2.2.1, v2.2.2.2.2.2.2, c_t_draft_comers, r_t_draft_comes, r_t_draft_goes, r_t_draft_kindOf, r_t_draft_likings)))
                  else none)))))
        else
          (if v1.2.2.2.2.2.2 = 9 then
            ((f_X9_readNumber v1.2.1 v1.2.2.1 v1.2.2.2.1 v1.2.2.2.2.1 v1.2.2.2.2.2.1 v1.2.2.2.2.2.2 c_t_tape_length r_t_tape_bytes).bind (fun (v9 : Int32 × Int32 × Int32 × Int32 × Int32 × Int32 × Int32) =>
              if v9.1 = 0 then
                (some ((0, v9.2.1, v9.2.2.1, v9.2.2.2.1, v9.2.2.2.2.1, v9.2.2.2.2.2.1, v9.2.2.2.2.2.2, c_t_draft_comers, r_t_draft_comes, r_t_draft_goes, r_t_draft_kindOf, r_t_draft_likings)))
              else
                (if v9.2.2.2.2.2.2 ≤ 6 then
                  ((f_X9_readNumber v9.2.1 v9.2.2.1 v9.2.2.2.1 v9.2.2.2.2.1 v9.2.2.2.2.2.1 v9.2.2.2.2.2.2 c_t_tape_length r_t_tape_bytes).bind (fun (v10 : Int32 × Int32 × Int32 × Int32 × Int32 × Int32 × Int32) =>
                    if v10.1 = 0 then
                      (some ((0, v10.2.1, v10.2.2.1, v10.2.2.2.1, v10.2.2.2.2.1, v10.2.2.2.2.2.1, v10.2.2.2.2.2.2, c_t_draft_comers, r_t_draft_comes, r_t_draft_goes, r_t_draft_kindOf, r_t_draft_likings)))
                    else
                      (if v10.2.2.2.2.2.2 ≤ 9 then
                        ((f_X1_addComer c_t_draft_comers r_t_draft_comes r_t_draft_goes r_t_draft_kindOf r_t_draft_likings x1 v1.2.2.2.2.2.2 v9.2.2.2.2.2.2 v10.2.2.2.2.2.2).bind (fun (v11 : Int32 × (Nat → Int32) × (Nat → Int32) × (Nat → Int32) × (Nat → Int32)) =>
                          (f_X9_readToken v10.2.2.2.1 v10.2.2.2.2.1 v10.2.2.2.2.2.1 v10.2.2.2.2.2.2 c_t_tape_length r_t_tape_bytes).bind (fun (v12 : Int32 × Int32 × Int32 × Int32) =>
                            (f_X9_stands v10.2.1 v10.2.2.1 v12.1 v12.2.2.1 2).bind (fun (v13 : Int32 × Int32 × Int32) =>
                              if v13.1 &&& 1 = v13.1 then
                                (some ((v13.1, v13.2.1, v13.2.2, v12.1, v12.2.1, v12.2.2.1, v12.2.2.2, v11.1, v11.2.1, v11.2.2.1, v11.2.2.2.1, v11.2.2.2.2)))
                              else none))))
                      else
                        ((f_X9_fail v10.2.1 v10.2.2.1 3 v10.2.2.2.1).bind (fun (v14 : Int32 × Int32 × Int32) =>
                          if v14.1 &&& 1 = v14.1 then
                            (some ((v14.1, v14.2.1, v14.2.2, v10.2.2.2.1, v10.2.2.2.2.1, v10.2.2.2.2.2.1, v10.2.2.2.2.2.2, c_t_draft_comers, r_t_draft_comes, r_t_draft_goes, r_t_draft_kindOf, r_t_draft_likings)))
                          else none)))))
                else
                  ((f_X9_fail v9.2.1 v9.2.2.1 3 v9.2.2.2.1).bind (fun (v15 : Int32 × Int32 × Int32) =>
                    if v15.1 &&& 1 = v15.1 then
                      (some ((v15.1, v15.2.1, v15.2.2, v9.2.2.2.1, v9.2.2.2.2.1, v9.2.2.2.2.2.1, v9.2.2.2.2.2.2, c_t_draft_comers, r_t_draft_comes, r_t_draft_goes, r_t_draft_kindOf, r_t_draft_likings)))
                    else none)))))
          else
            ((f_X9_fail v1.2.1 v1.2.2.1 3 v1.2.2.2.1).bind (fun (v16 : Int32 × Int32 × Int32) =>
              if v16.1 &&& 1 = v16.1 then
                (some ((v16.1, v16.2.1, v16.2.2, v1.2.2.2.1, v1.2.2.2.2.1, v1.2.2.2.2.2.1, v1.2.2.2.2.2.2, c_t_draft_comers, r_t_draft_comes, r_t_draft_goes, r_t_draft_kindOf, r_t_draft_likings)))
              else none))))))
  else
    ((f_X9_fail c_t_fault c_t_faultPlace 5 c_t_place).bind (fun (v17 : Int32 × Int32 × Int32) =>
      if v17.1 &&& 1 = v17.1 then
        (some ((v17.1, v17.2.1, v17.2.2, c_t_place, c_t_behind, c_t_sort, c_t_value, c_t_draft_comers, r_t_draft_comes, r_t_draft_goes, r_t_draft_kindOf, r_t_draft_likings)))
      else none))
abbrev rm_X9_readComer : Room := { frames := 4, cells := 0, slots := 0, locals := 81 }
set_option maxHeartbeats 4000000 in
set_option maxRecDepth 100000 in
theorem k_X9_readComer (E : Ev) (a_t a_t_draft a_t_draft_comes a_t_draft_goes a_t_draft_kindOf a_t_draft_likings a_t_tape a_t_tape_bytes a_t_draft_lists : Nat) (c_t_fault : Int32) (c_t_faultPlace : Int32) (c_t_place : Int32) (c_t_behind : Int32) (c_t_sort : Int32) (c_t_value : Int32) (c_t_draft_houses : Int32) (c_t_draft_comers : Int32) (c_t_draft_evening : Int32) (r_t_draft_comes : (Nat → Int32)) (r_t_draft_goes : (Nat → Int32)) (r_t_draft_kindOf : (Nat → Int32)) (r_t_draft_likings : (Nat → Int32)) (c_t_tape_length : Int32) (r_t_tape_bytes : (Nat → Int32)) (x1 : Int32) (v : Int32 × Int32 × Int32 × Int32 × Int32 × Int32 × Int32 × Int32 × (Nat → Int32) × (Nat → Int32) × (Nat → Int32) × (Nat → Int32)) (h : f_X9_readComer c_t_fault c_t_faultPlace c_t_place c_t_behind c_t_sort c_t_value c_t_draft_comers r_t_draft_comes r_t_draft_goes r_t_draft_kindOf r_t_draft_likings c_t_tape_length r_t_tape_bytes x1 = some v) : Mt E yX9_readComer cX9_readComer 5 (some .boolean) rm_X9_readComer [.ref a_t, .int x1] [oX9 a_t a_t_tape a_t_draft c_t_fault c_t_faultPlace c_t_place c_t_behind c_t_sort c_t_value, oX1 a_t_draft c_t_draft_houses c_t_draft_comers c_t_draft_evening a_t_draft_lists a_t_draft_kindOf a_t_draft_goes a_t_draft_comes a_t_draft_likings, aI E a_t_draft_comes 6 r_t_draft_comes, aI E a_t_draft_goes 6 r_t_draft_goes, aI E a_t_draft_kindOf 6 r_t_draft_kindOf, aI E a_t_draft_likings 24 r_t_draft_likings, oX8 a_t_tape a_t_tape_bytes c_t_tape_length, aI E a_t_tape_bytes 160 r_t_tape_bytes] [oX9 a_t a_t_tape a_t_draft v.2.1 v.2.2.1 v.2.2.2.1 v.2.2.2.2.1 v.2.2.2.2.2.1 v.2.2.2.2.2.2.1, oX1 a_t_draft c_t_draft_houses v.2.2.2.2.2.2.2.1 c_t_draft_evening a_t_draft_lists a_t_draft_kindOf a_t_draft_goes a_t_draft_comes a_t_draft_likings, aI E a_t_draft_comes 6 v.2.2.2.2.2.2.2.2.1, aI E a_t_draft_goes 6 v.2.2.2.2.2.2.2.2.2.1, aI E a_t_draft_kindOf 6 v.2.2.2.2.2.2.2.2.2.2.1, aI E a_t_draft_likings 24 v.2.2.2.2.2.2.2.2.2.2.2, oX8 a_t_tape a_t_tape_bytes c_t_tape_length, aI E a_t_tape_bytes 160 r_t_tape_bytes] (some (.int v.1)) := by
  refine Mt.intro (lv := [(0, .ref a_t), (1, .int x1)]) (by decide +kernel) (Nat.le_of_ble_eq_true rfl) rfl (fun X C K => ?_)
  have C : CX E X cX9_readComer RX9 5 rm_X9_readComer := C
  rw [f_X9_readComer] at h
  refine g_aload_n (pc := 0) C dX9_readComer_0 0 rfl ?_
  refine g_get (pc := 1) 0 C fl_X9_12 rfl rfl dX9_readComer_1 ?_
  refine g_get (pc := 4) 1 C fl_X9_96 rfl rfl dX9_readComer_4 ?_
  refine g_bipush (pc := 7) (v := 6) C dX9_readComer_7 (by decide) ?_
  refine b_icmp_lt (pc := 9) 22 C dX9_readComer_9 (by decide) h (fun _ h => ?_) (fun _ h => ?_)
  · refine g_aload_n (pc := 22) C dX9_readComer_22 0 rfl ?_
    obtain ⟨v1, hv1, h⟩ := o_bnd h
    refine g_callV (pc := 23) (ws' := [oX9 a_t a_t_tape a_t_draft v1.2.1 v1.2.2.1 v1.2.2.2.1 v1.2.2.2.2.1 v1.2.2.2.2.2.1 v1.2.2.2.2.2.2, oX1 a_t_draft c_t_draft_houses c_t_draft_comers c_t_draft_evening a_t_draft_lists a_t_draft_kindOf a_t_draft_goes a_t_draft_comes a_t_draft_likings, aI E a_t_draft_comes 6 r_t_draft_comes, aI E a_t_draft_goes 6 r_t_draft_goes, aI E a_t_draft_kindOf 6 r_t_draft_kindOf, aI E a_t_draft_likings 24 r_t_draft_likings, oX8 a_t_tape a_t_tape_bytes c_t_tape_length, aI E a_t_tape_bytes 160 r_t_tape_bytes]) (st1 := [.int v1.1]) C mv_X9_99 (k_X9_readNumber E a_t a_t_tape a_t_tape_bytes a_t_draft c_t_fault c_t_faultPlace c_t_place c_t_behind c_t_sort c_t_value c_t_tape_length r_t_tape_bytes v1 hv1) [0, 6, 7] rfl (by decide +kernel) rfl [some 0, none, none, none, none, none, some 1, some 2] 8 (by decide +kernel) rfl rfl 0 rfl rfl ⟨by decide, by decide⟩ ⟨rfl, rfl⟩ ⟨Nat.zero_le _, Nat.zero_le _⟩ rfl rfl rfl (Nat.le_of_ble_eq_true rfl) dX9_readComer_23 ?_
    refine b_if_ne (pc := 26) 31 C dX9_readComer_26 (by decide) h (fun _ h => ?_) (fun _ h => ?_)
    · refine g_aload_n (pc := 31) C dX9_readComer_31 0 rfl ?_
      refine g_get (pc := 32) 0 C fl_X9_34 rfl rfl dX9_readComer_32 ?_
      refine g_istore_n (pc := 35) (lv' := [(2, .int v1.2.2.2.2.2.2), (0, .ref a_t), (1, .int x1)]) C dX9_readComer_35 (by decide) rfl ?_
      refine g_iload_n (pc := 36) C dX9_readComer_36 0 rfl ?_
      refine g_iconst (pc := 37) (v := 4) C dX9_readComer_37 (by decide) ?_
      refine b_icmp_lt (pc := 38) 57 C dX9_readComer_38 (by decide) h (fun _ h => ?_) (fun _ h => ?_)
      · refine g_aload_n (pc := 57) C dX9_readComer_57 1 rfl ?_
        obtain ⟨v2, hv2, h⟩ := o_bnd h
        refine g_callV (pc := 58) (ws' := [oX9 a_t a_t_tape a_t_draft v2.2.1 v2.2.2.1 v2.2.2.2.1 v2.2.2.2.2.1 v2.2.2.2.2.2.1 v2.2.2.2.2.2.2, oX1 a_t_draft c_t_draft_houses c_t_draft_comers c_t_draft_evening a_t_draft_lists a_t_draft_kindOf a_t_draft_goes a_t_draft_comes a_t_draft_likings, aI E a_t_draft_comes 6 r_t_draft_comes, aI E a_t_draft_goes 6 r_t_draft_goes, aI E a_t_draft_kindOf 6 r_t_draft_kindOf, aI E a_t_draft_likings 24 r_t_draft_likings, oX8 a_t_tape a_t_tape_bytes c_t_tape_length, aI E a_t_tape_bytes 160 r_t_tape_bytes]) (st1 := [.int v2.1]) C mv_X9_99 (k_X9_readNumber E a_t a_t_tape a_t_tape_bytes a_t_draft v1.2.1 v1.2.2.1 v1.2.2.2.1 v1.2.2.2.2.1 v1.2.2.2.2.2.1 v1.2.2.2.2.2.2 c_t_tape_length r_t_tape_bytes v2 hv2) [0, 6, 7] rfl (by decide +kernel) rfl [some 0, none, none, none, none, none, some 1, some 2] 8 (by decide +kernel) rfl rfl 0 rfl rfl ⟨by decide, by decide⟩ ⟨rfl, rfl⟩ ⟨Nat.zero_le _, Nat.zero_le _⟩ rfl rfl rfl (Nat.le_of_ble_eq_true rfl) dX9_readComer_58 ?_
        refine b_if_ne (pc := 61) 66 C dX9_readComer_61 (by decide) h (fun _ h => ?_) (fun _ h => ?_)
        · refine g_aload_n (pc := 66) C dX9_readComer_66 1 rfl ?_
          refine g_get (pc := 67) 0 C fl_X9_34 rfl rfl dX9_readComer_67 ?_
          refine g_istore_n (pc := 70) (lv' := [(3, .int v2.2.2.2.2.2.2), (2, .int v1.2.2.2.2.2.2), (0, .ref a_t), (1, .int x1)]) C dX9_readComer_70 (by decide) rfl ?_
          refine g_iload_n (pc := 71) C dX9_readComer_71 0 rfl ?_
          refine g_bipush (pc := 72) (v := 6) C dX9_readComer_72 (by decide) ?_
          refine b_icmp_le (pc := 74) 87 C dX9_readComer_74 (by decide) h (fun _ h => ?_) (fun _ h => ?_)
          · refine g_aload_n (pc := 87) C dX9_readComer_87 2 rfl ?_
            obtain ⟨v3, hv3, h⟩ := o_bnd h
            refine g_callV (pc := 88) (ws' := [oX9 a_t a_t_tape a_t_draft v3.2.1 v3.2.2.1 v3.2.2.2.1 v3.2.2.2.2.1 v3.2.2.2.2.2.1 v3.2.2.2.2.2.2, oX1 a_t_draft c_t_draft_houses c_t_draft_comers c_t_draft_evening a_t_draft_lists a_t_draft_kindOf a_t_draft_goes a_t_draft_comes a_t_draft_likings, aI E a_t_draft_comes 6 r_t_draft_comes, aI E a_t_draft_goes 6 r_t_draft_goes, aI E a_t_draft_kindOf 6 r_t_draft_kindOf, aI E a_t_draft_likings 24 r_t_draft_likings, oX8 a_t_tape a_t_tape_bytes c_t_tape_length, aI E a_t_tape_bytes 160 r_t_tape_bytes]) (st1 := [.int v3.1]) C mv_X9_99 (k_X9_readNumber E a_t a_t_tape a_t_tape_bytes a_t_draft v2.2.1 v2.2.2.1 v2.2.2.2.1 v2.2.2.2.2.1 v2.2.2.2.2.2.1 v2.2.2.2.2.2.2 c_t_tape_length r_t_tape_bytes v3 hv3) [0, 6, 7] rfl (by decide +kernel) rfl [some 0, none, none, none, none, none, some 1, some 2] 8 (by decide +kernel) rfl rfl 0 rfl rfl ⟨by decide, by decide⟩ ⟨rfl, rfl⟩ ⟨Nat.zero_le _, Nat.zero_le _⟩ rfl rfl rfl (Nat.le_of_ble_eq_true rfl) dX9_readComer_88 ?_
            refine b_if_ne (pc := 91) 96 C dX9_readComer_91 (by decide) h (fun _ h => ?_) (fun _ h => ?_)
            · refine g_aload_n (pc := 96) C dX9_readComer_96 2 rfl ?_
              refine g_get (pc := 97) 0 C fl_X9_34 rfl rfl dX9_readComer_97 ?_
              refine g_istore (pc := 100) (lv' := [(4, .int v3.2.2.2.2.2.2), (3, .int v2.2.2.2.2.2.2), (2, .int v1.2.2.2.2.2.2), (0, .ref a_t), (1, .int x1)]) C dX9_readComer_100 (by decide) rfl ?_
              refine g_iload (pc := 102) C dX9_readComer_102 0 rfl ?_
              refine g_bipush (pc := 104) (v := 9) C dX9_readComer_104 (by decide) ?_
              refine b_icmp_le (pc := 106) 119 C dX9_readComer_106 (by decide) h (fun _ h => ?_) (fun _ h => ?_)
              · refine g_aload_n (pc := 119) C dX9_readComer_119 3 rfl ?_
                refine g_get (pc := 120) 0 C fl_X9_12 rfl rfl dX9_readComer_120 ?_
                refine g_iload_n (pc := 123) C dX9_readComer_123 4 rfl ?_
                refine g_iload_n (pc := 124) C dX9_readComer_124 2 rfl ?_
                refine g_iload_n (pc := 125) C dX9_readComer_125 1 rfl ?_
                refine g_iload (pc := 126) C dX9_readComer_126 0 rfl ?_
                obtain ⟨v4, hv4, h⟩ := o_bnd h
                refine g_callV (pc := 128) (ws' := [oX9 a_t a_t_tape a_t_draft v3.2.1 v3.2.2.1 v3.2.2.2.1 v3.2.2.2.2.1 v3.2.2.2.2.2.1 v3.2.2.2.2.2.2, oX1 a_t_draft c_t_draft_houses v4.1 c_t_draft_evening a_t_draft_lists a_t_draft_kindOf a_t_draft_goes a_t_draft_comes a_t_draft_likings, aI E a_t_draft_comes 6 v4.2.1, aI E a_t_draft_goes 6 v4.2.2.1, aI E a_t_draft_kindOf 6 v4.2.2.2.1, aI E a_t_draft_likings 24 v4.2.2.2.2, oX8 a_t_tape a_t_tape_bytes c_t_tape_length, aI E a_t_tape_bytes 160 r_t_tape_bytes]) (st1 := []) C mv_X9_102 (k_X1_addComer E a_t_draft a_t_draft_comes a_t_draft_goes a_t_draft_kindOf a_t_draft_likings a_t_draft_lists c_t_draft_houses c_t_draft_comers c_t_draft_evening r_t_draft_comes r_t_draft_goes r_t_draft_kindOf r_t_draft_likings x1 v1.2.2.2.2.2.2 v2.2.2.2.2.2.2 v3.2.2.2.2.2.2 v4 hv4) [1, 2, 3, 4, 5] rfl (by decide +kernel) rfl [none, some 0, some 1, some 2, some 3, some 4, none, none] 8 (by decide +kernel) rfl rfl 0 rfl rfl ⟨by decide, by decide⟩ ⟨rfl, rfl⟩ ⟨Nat.zero_le _, Nat.zero_le _⟩ rfl rfl rfl (Nat.le_of_ble_eq_true rfl) dX9_readComer_128 ?_
                refine g_aload_n (pc := 131) C dX9_readComer_131 3 rfl ?_
                obtain ⟨v5, hv5, h⟩ := o_bnd h
                refine g_callV (pc := 132) (ws' := [oX9 a_t a_t_tape a_t_draft v3.2.1 v3.2.2.1 v5.1 v5.2.1 v5.2.2.1 v5.2.2.2, oX1 a_t_draft c_t_draft_houses v4.1 c_t_draft_evening a_t_draft_lists a_t_draft_kindOf a_t_draft_goes a_t_draft_comes a_t_draft_likings, aI E a_t_draft_comes 6 v4.2.1, aI E a_t_draft_goes 6 v4.2.2.1, aI E a_t_draft_kindOf 6 v4.2.2.2.1, aI E a_t_draft_likings 24 v4.2.2.2.2, oX8 a_t_tape a_t_tape_bytes c_t_tape_length, aI E a_t_tape_bytes 160 r_t_tape_bytes]) (st1 := []) C mv_X9_44 (k_X9_readToken E a_t a_t_tape a_t_tape_bytes a_t_draft v3.2.1 v3.2.2.1 v3.2.2.2.1 v3.2.2.2.2.1 v3.2.2.2.2.2.1 v3.2.2.2.2.2.2 c_t_tape_length r_t_tape_bytes v5 hv5) [0, 6, 7] rfl (by decide +kernel) rfl [some 0, none, none, none, none, none, some 1, some 2] 8 (by decide +kernel) rfl rfl 0 rfl rfl ⟨by decide, by decide⟩ ⟨rfl, rfl⟩ ⟨Nat.zero_le _, Nat.zero_le _⟩ rfl rfl rfl (Nat.le_of_ble_eq_true rfl) dX9_readComer_132 ?_
                refine g_aload_n (pc := 135) C dX9_readComer_135 3 rfl ?_
                refine g_iconst (pc := 136) (v := 2) C dX9_readComer_136 (by decide) ?_
                obtain ⟨v6, hv6, h⟩ := o_bnd h
                refine g_callV (pc := 137) (ws' := [oX9 a_t a_t_tape a_t_draft v6.2.1 v6.2.2 v5.1 v5.2.1 v5.2.2.1 v5.2.2.2, oX1 a_t_draft c_t_draft_houses v4.1 c_t_draft_evening a_t_draft_lists a_t_draft_kindOf a_t_draft_goes a_t_draft_comes a_t_draft_likings, aI E a_t_draft_comes 6 v4.2.1, aI E a_t_draft_goes 6 v4.2.2.1, aI E a_t_draft_kindOf 6 v4.2.2.2.1, aI E a_t_draft_likings 24 v4.2.2.2.2, oX8 a_t_tape a_t_tape_bytes c_t_tape_length, aI E a_t_tape_bytes 160 r_t_tape_bytes]) (st1 := [.int v6.1]) C mv_X9_63 (k_X9_stands E a_t a_t_tape a_t_draft v3.2.1 v3.2.2.1 v5.1 v5.2.1 v5.2.2.1 v5.2.2.2 2 v6 hv6) [0] rfl (by decide +kernel) rfl [some 0, none, none, none, none, none, none, none] 8 (by decide +kernel) rfl rfl 0 rfl rfl ⟨by decide, by decide⟩ ⟨rfl, rfl⟩ ⟨Nat.zero_le _, Nat.zero_le _⟩ rfl rfl rfl (Nat.le_of_ble_eq_true rfl) dX9_readComer_137 ?_
                obtain ⟨hz, h⟩ := o_grd h
                obtain rfl := Option.some.inj h
                exact g_zret (pc := 140) C K (nb_one hz) dX9_readComer_140
              · refine g_aload_n (pc := 109) C dX9_readComer_109 3 rfl ?_
                refine g_iconst (pc := 110) (v := 3) C dX9_readComer_110 (by decide) ?_
                refine g_aload_n (pc := 111) C dX9_readComer_111 3 rfl ?_
                refine g_get (pc := 112) 0 C fl_X9_25 rfl rfl dX9_readComer_112 ?_
                obtain ⟨v7, hv7, h⟩ := o_bnd h
                refine g_callV (pc := 115) (ws' := [oX9 a_t a_t_tape a_t_draft v7.2.1 v7.2.2 v3.2.2.2.1 v3.2.2.2.2.1 v3.2.2.2.2.2.1 v3.2.2.2.2.2.2, oX1 a_t_draft c_t_draft_houses c_t_draft_comers c_t_draft_evening a_t_draft_lists a_t_draft_kindOf a_t_draft_goes a_t_draft_comes a_t_draft_likings, aI E a_t_draft_comes 6 r_t_draft_comes, aI E a_t_draft_goes 6 r_t_draft_goes, aI E a_t_draft_kindOf 6 r_t_draft_kindOf, aI E a_t_draft_likings 24 r_t_draft_likings, oX8 a_t_tape a_t_tape_bytes c_t_tape_length, aI E a_t_tape_bytes 160 r_t_tape_bytes]) (st1 := [.int v7.1]) C mv_X9_59 (k_X9_fail E a_t a_t_tape a_t_draft v3.2.1 v3.2.2.1 v3.2.2.2.1 v3.2.2.2.2.1 v3.2.2.2.2.2.1 v3.2.2.2.2.2.2 3 v3.2.2.2.1 v7 hv7) [0] rfl (by decide +kernel) rfl [some 0, none, none, none, none, none, none, none] 8 (by decide +kernel) rfl rfl 0 rfl rfl ⟨by decide, by decide⟩ ⟨rfl, rfl⟩ ⟨Nat.zero_le _, Nat.zero_le _⟩ rfl rfl rfl (Nat.le_of_ble_eq_true rfl) dX9_readComer_115 ?_
                obtain ⟨hz, h⟩ := o_grd h
                obtain rfl := Option.some.inj h
                exact g_zret (pc := 118) C K (nb_one hz) dX9_readComer_118
            · refine g_iconst (pc := 94) (v := 0) C dX9_readComer_94 (by decide) ?_
              obtain rfl := Option.some.inj h
              exact g_zret (pc := 95) C K rfl dX9_readComer_95
          · refine g_aload_n (pc := 77) C dX9_readComer_77 2 rfl ?_
            refine g_iconst (pc := 78) (v := 3) C dX9_readComer_78 (by decide) ?_
            refine g_aload_n (pc := 79) C dX9_readComer_79 2 rfl ?_
            refine g_get (pc := 80) 0 C fl_X9_25 rfl rfl dX9_readComer_80 ?_
            obtain ⟨v8, hv8, h⟩ := o_bnd h
            refine g_callV (pc := 83) (ws' := [oX9 a_t a_t_tape a_t_draft v8.2.1 v8.2.2 v2.2.2.2.1 v2.2.2.2.2.1 v2.2.2.2.2.2.1 v2.2.2.2.2.2.2, oX1 a_t_draft c_t_draft_houses c_t_draft_comers c_t_draft_evening a_t_draft_lists a_t_draft_kindOf a_t_draft_goes a_t_draft_comes a_t_draft_likings, aI E a_t_draft_comes 6 r_t_draft_comes, aI E a_t_draft_goes 6 r_t_draft_goes, aI E a_t_draft_kindOf 6 r_t_draft_kindOf, aI E a_t_draft_likings 24 r_t_draft_likings, oX8 a_t_tape a_t_tape_bytes c_t_tape_length, aI E a_t_tape_bytes 160 r_t_tape_bytes]) (st1 := [.int v8.1]) C mv_X9_59 (k_X9_fail E a_t a_t_tape a_t_draft v2.2.1 v2.2.2.1 v2.2.2.2.1 v2.2.2.2.2.1 v2.2.2.2.2.2.1 v2.2.2.2.2.2.2 3 v2.2.2.2.1 v8 hv8) [0] rfl (by decide +kernel) rfl [some 0, none, none, none, none, none, none, none] 8 (by decide +kernel) rfl rfl 0 rfl rfl ⟨by decide, by decide⟩ ⟨rfl, rfl⟩ ⟨Nat.zero_le _, Nat.zero_le _⟩ rfl rfl rfl (Nat.le_of_ble_eq_true rfl) dX9_readComer_83 ?_
            obtain ⟨hz, h⟩ := o_grd h
            obtain rfl := Option.some.inj h
            exact g_zret (pc := 86) C K (nb_one hz) dX9_readComer_86
        · refine g_iconst (pc := 64) (v := 0) C dX9_readComer_64 (by decide) ?_
          obtain rfl := Option.some.inj h
          exact g_zret (pc := 65) C K rfl dX9_readComer_65
      · refine g_iload_n (pc := 41) C dX9_readComer_41 0 rfl ?_
        refine g_bipush (pc := 42) (v := 9) C dX9_readComer_42 (by decide) ?_
        refine b_icmp_eq (pc := 44) 57 C dX9_readComer_44 (by decide) h (fun _ h => ?_) (fun _ h => ?_)
        · refine g_aload_n (pc := 57) C dX9_readComer_57 1 rfl ?_
          obtain ⟨v9, hv9, h⟩ := o_bnd h
          refine g_callV (pc := 58) (ws' := [oX9 a_t a_t_tape a_t_draft v9.2.1 v9.2.2.1 v9.2.2.2.1 v9.2.2.2.2.1 v9.2.2.2.2.2.1 v9.2.2.2.2.2.2, oX1 a_t_draft c_t_draft_houses c_t_draft_comers c_t_draft_evening a_t_draft_lists a_t_draft_kindOf a_t_draft_goes a_t_draft_comes a_t_draft_likings, aI E a_t_draft_comes 6 r_t_draft_comes, aI E a_t_draft_goes 6 r_t_draft_goes, aI E a_t_draft_kindOf 6 r_t_draft_kindOf, aI E a_t_draft_likings 24 r_t_draft_likings, oX8 a_t_tape a_t_tape_bytes c_t_tape_length, aI E a_t_tape_bytes 160 r_t_tape_bytes]) (st1 := [.int v9.1]) C mv_X9_99 (k_X9_readNumber E a_t a_t_tape a_t_tape_bytes a_t_draft v1.2.1 v1.2.2.1 v1.2.2.2.1 v1.2.2.2.2.1 v1.2.2.2.2.2.1 v1.2.2.2.2.2.2 c_t_tape_length r_t_tape_bytes v9 hv9) [0, 6, 7] rfl (by decide +kernel) rfl [some 0, none, none, none, none, none, some 1, some 2] 8 (by decide +kernel) rfl rfl 0 rfl rfl ⟨by decide, by decide⟩ ⟨rfl, rfl⟩ ⟨Nat.zero_le _, Nat.zero_le _⟩ rfl rfl rfl (Nat.le_of_ble_eq_true rfl) dX9_readComer_58 ?_
          refine b_if_ne (pc := 61) 66 C dX9_readComer_61 (by decide) h (fun _ h => ?_) (fun _ h => ?_)
          · refine g_aload_n (pc := 66) C dX9_readComer_66 1 rfl ?_
            refine g_get (pc := 67) 0 C fl_X9_34 rfl rfl dX9_readComer_67 ?_
            refine g_istore_n (pc := 70) (lv' := [(3, .int v9.2.2.2.2.2.2), (2, .int v1.2.2.2.2.2.2), (0, .ref a_t), (1, .int x1)]) C dX9_readComer_70 (by decide) rfl ?_
            refine g_iload_n (pc := 71) C dX9_readComer_71 0 rfl ?_
            refine g_bipush (pc := 72) (v := 6) C dX9_readComer_72 (by decide) ?_
            refine b_icmp_le (pc := 74) 87 C dX9_readComer_74 (by decide) h (fun _ h => ?_) (fun _ h => ?_)
            · refine g_aload_n (pc := 87) C dX9_readComer_87 2 rfl ?_
              obtain ⟨v10, hv10, h⟩ := o_bnd h
              refine g_callV (pc := 88) (ws' := [oX9 a_t a_t_tape a_t_draft v10.2.1 v10.2.2.1 v10.2.2.2.1 v10.2.2.2.2.1 v10.2.2.2.2.2.1 v10.2.2.2.2.2.2, oX1 a_t_draft c_t_draft_houses c_t_draft_comers c_t_draft_evening a_t_draft_lists a_t_draft_kindOf a_t_draft_goes a_t_draft_comes a_t_draft_likings, aI E a_t_draft_comes 6 r_t_draft_comes, aI E a_t_draft_goes 6 r_t_draft_goes, aI E a_t_draft_kindOf 6 r_t_draft_kindOf, aI E a_t_draft_likings 24 r_t_draft_likings, oX8 a_t_tape a_t_tape_bytes c_t_tape_length, aI E a_t_tape_bytes 160 r_t_tape_bytes]) (st1 := [.int v10.1]) C mv_X9_99 (k_X9_readNumber E a_t a_t_tape a_t_tape_bytes a_t_draft v9.2.1 v9.2.2.1 v9.2.2.2.1 v9.2.2.2.2.1 v9.2.2.2.2.2.1 v9.2.2.2.2.2.2 c_t_tape_length r_t_tape_bytes v10 hv10) [0, 6, 7] rfl (by decide +kernel) rfl [some 0, none, none, none, none, none, some 1, some 2] 8 (by decide +kernel) rfl rfl 0 rfl rfl ⟨by decide, by decide⟩ ⟨rfl, rfl⟩ ⟨Nat.zero_le _, Nat.zero_le _⟩ rfl rfl rfl (Nat.le_of_ble_eq_true rfl) dX9_readComer_88 ?_
              refine b_if_ne (pc := 91) 96 C dX9_readComer_91 (by decide) h (fun _ h => ?_) (fun _ h => ?_)
              · refine g_aload_n (pc := 96) C dX9_readComer_96 2 rfl ?_
                refine g_get (pc := 97) 0 C fl_X9_34 rfl rfl dX9_readComer_97 ?_
                refine g_istore (pc := 100) (lv' := [(4, .int v10.2.2.2.2.2.2), (3, .int v9.2.2.2.2.2.2), (2, .int v1.2.2.2.2.2.2), (0, .ref a_t), (1, .int x1)]) C dX9_readComer_100 (by decide) rfl ?_
                refine g_iload (pc := 102) C dX9_readComer_102 0 rfl ?_
                refine g_bipush (pc := 104) (v := 9) C dX9_readComer_104 (by decide) ?_
                refine b_icmp_le (pc := 106) 119 C dX9_readComer_106 (by decide) h (fun _ h => ?_) (fun _ h => ?_)
                · refine g_aload_n (pc := 119) C dX9_readComer_119 3 rfl ?_
                  refine g_get (pc := 120) 0 C fl_X9_12 rfl rfl dX9_readComer_120 ?_
                  refine g_iload_n (pc := 123) C dX9_readComer_123 4 rfl ?_
                  refine g_iload_n (pc := 124) C dX9_readComer_124 2 rfl ?_
                  refine g_iload_n (pc := 125) C dX9_readComer_125 1 rfl ?_
                  refine g_iload (pc := 126) C dX9_readComer_126 0 rfl ?_
                  obtain ⟨v11, hv11, h⟩ := o_bnd h
                  refine g_callV (pc := 128) (ws' := [oX9 a_t a_t_tape a_t_draft v10.2.1 v10.2.2.1 v10.2.2.2.1 v10.2.2.2.2.1 v10.2.2.2.2.2.1 v10.2.2.2.2.2.2, oX1 a_t_draft c_t_draft_houses v11.1 c_t_draft_evening a_t_draft_lists a_t_draft_kindOf a_t_draft_goes a_t_draft_comes a_t_draft_likings, aI E a_t_draft_comes 6 v11.2.1, aI E a_t_draft_goes 6 v11.2.2.1, aI E a_t_draft_kindOf 6 v11.2.2.2.1, aI E a_t_draft_likings 24 v11.2.2.2.2, oX8 a_t_tape a_t_tape_bytes c_t_tape_length, aI E a_t_tape_bytes 160 r_t_tape_bytes]) (st1 := []) C mv_X9_102 (k_X1_addComer E a_t_draft a_t_draft_comes a_t_draft_goes a_t_draft_kindOf a_t_draft_likings a_t_draft_lists c_t_draft_houses c_t_draft_comers c_t_draft_evening r_t_draft_comes r_t_draft_goes r_t_draft_kindOf r_t_draft_likings x1 v1.2.2.2.2.2.2 v9.2.2.2.2.2.2 v10.2.2.2.2.2.2 v11 hv11) [1, 2, 3, 4, 5] rfl (by decide +kernel) rfl [none, some 0, some 1, some 2, some 3, some 4, none, none] 8 (by decide +kernel) rfl rfl 0 rfl rfl ⟨by decide, by decide⟩ ⟨rfl, rfl⟩ ⟨Nat.zero_le _, Nat.zero_le _⟩ rfl rfl rfl (Nat.le_of_ble_eq_true rfl) dX9_readComer_128 ?_
                  refine g_aload_n (pc := 131) C dX9_readComer_131 3 rfl ?_
                  obtain ⟨v12, hv12, h⟩ := o_bnd h
                  refine g_callV (pc := 132) (ws' := [oX9 a_t a_t_tape a_t_draft v10.2.1 v10.2.2.1 v12.1 v12.2.1 v12.2.2.1 v12.2.2.2, oX1 a_t_draft c_t_draft_houses v11.1 c_t_draft_evening a_t_draft_lists a_t_draft_kindOf a_t_draft_goes a_t_draft_comes a_t_draft_likings, aI E a_t_draft_comes 6 v11.2.1, aI E a_t_draft_goes 6 v11.2.2.1, aI E a_t_draft_kindOf 6 v11.2.2.2.1, aI E a_t_draft_likings 24 v11.2.2.2.2, oX8 a_t_tape a_t_tape_bytes c_t_tape_length, aI E a_t_tape_bytes 160 r_t_tape_bytes]) (st1 := []) C mv_X9_44 (k_X9_readToken E a_t a_t_tape a_t_tape_bytes a_t_draft v10.2.1 v10.2.2.1 v10.2.2.2.1 v10.2.2.2.2.1 v10.2.2.2.2.2.1 v10.2.2.2.2.2.2 c_t_tape_length r_t_tape_bytes v12 hv12) [0, 6, 7] rfl (by decide +kernel) rfl [some 0, none, none, none, none, none, some 1, some 2] 8 (by decide +kernel) rfl rfl 0 rfl rfl ⟨by decide, by decide⟩ ⟨rfl, rfl⟩ ⟨Nat.zero_le _, Nat.zero_le _⟩ rfl rfl rfl (Nat.le_of_ble_eq_true rfl) dX9_readComer_132 ?_
                  refine g_aload_n (pc := 135) C dX9_readComer_135 3 rfl ?_
                  refine g_iconst (pc := 136) (v := 2) C dX9_readComer_136 (by decide) ?_
                  obtain ⟨v13, hv13, h⟩ := o_bnd h
                  refine g_callV (pc := 137) (ws' := [oX9 a_t a_t_tape a_t_draft v13.2.1 v13.2.2 v12.1 v12.2.1 v12.2.2.1 v12.2.2.2, oX1 a_t_draft c_t_draft_houses v11.1 c_t_draft_evening a_t_draft_lists a_t_draft_kindOf a_t_draft_goes a_t_draft_comes a_t_draft_likings, aI E a_t_draft_comes 6 v11.2.1, aI E a_t_draft_goes 6 v11.2.2.1, aI E a_t_draft_kindOf 6 v11.2.2.2.1, aI E a_t_draft_likings 24 v11.2.2.2.2, oX8 a_t_tape a_t_tape_bytes c_t_tape_length, aI E a_t_tape_bytes 160 r_t_tape_bytes]) (st1 := [.int v13.1]) C mv_X9_63 (k_X9_stands E a_t a_t_tape a_t_draft v10.2.1 v10.2.2.1 v12.1 v12.2.1 v12.2.2.1 v12.2.2.2 2 v13 hv13) [0] rfl (by decide +kernel) rfl [some 0, none, none, none, none, none, none, none] 8 (by decide +kernel) rfl rfl 0 rfl rfl ⟨by decide, by decide⟩ ⟨rfl, rfl⟩ ⟨Nat.zero_le _, Nat.zero_le _⟩ rfl rfl rfl (Nat.le_of_ble_eq_true rfl) dX9_readComer_137 ?_
                  obtain ⟨hz, h⟩ := o_grd h
                  obtain rfl := Option.some.inj h
                  exact g_zret (pc := 140) C K (nb_one hz) dX9_readComer_140
                · refine g_aload_n (pc := 109) C dX9_readComer_109 3 rfl ?_
                  refine g_iconst (pc := 110) (v := 3) C dX9_readComer_110 (by decide) ?_
                  refine g_aload_n (pc := 111) C dX9_readComer_111 3 rfl ?_
                  refine g_get (pc := 112) 0 C fl_X9_25 rfl rfl dX9_readComer_112 ?_
                  obtain ⟨v14, hv14, h⟩ := o_bnd h
                  refine g_callV (pc := 115) (ws' := [oX9 a_t a_t_tape a_t_draft v14.2.1 v14.2.2 v10.2.2.2.1 v10.2.2.2.2.1 v10.2.2.2.2.2.1 v10.2.2.2.2.2.2, oX1 a_t_draft c_t_draft_houses c_t_draft_comers c_t_draft_evening a_t_draft_lists a_t_draft_kindOf a_t_draft_goes a_t_draft_comes a_t_draft_likings, aI E a_t_draft_comes 6 r_t_draft_comes, aI E a_t_draft_goes 6 r_t_draft_goes, aI E a_t_draft_kindOf 6 r_t_draft_kindOf, aI E a_t_draft_likings 24 r_t_draft_likings, oX8 a_t_tape a_t_tape_bytes c_t_tape_length, aI E a_t_tape_bytes 160 r_t_tape_bytes]) (st1 := [.int v14.1]) C mv_X9_59 (k_X9_fail E a_t a_t_tape a_t_draft v10.2.1 v10.2.2.1 v10.2.2.2.1 v10.2.2.2.2.1 v10.2.2.2.2.2.1 v10.2.2.2.2.2.2 3 v10.2.2.2.1 v14 hv14) [0] rfl (by decide +kernel) rfl [some 0, none, none, none, none, none, none, none] 8 (by decide +kernel) rfl rfl 0 rfl rfl ⟨by decide, by decide⟩ ⟨rfl, rfl⟩ ⟨Nat.zero_le _, Nat.zero_le _⟩ rfl rfl rfl (Nat.le_of_ble_eq_true rfl) dX9_readComer_115 ?_
                  obtain ⟨hz, h⟩ := o_grd h
                  obtain rfl := Option.some.inj h
                  exact g_zret (pc := 118) C K (nb_one hz) dX9_readComer_118
              · refine g_iconst (pc := 94) (v := 0) C dX9_readComer_94 (by decide) ?_
                obtain rfl := Option.some.inj h
                exact g_zret (pc := 95) C K rfl dX9_readComer_95
            · refine g_aload_n (pc := 77) C dX9_readComer_77 2 rfl ?_
              refine g_iconst (pc := 78) (v := 3) C dX9_readComer_78 (by decide) ?_
              refine g_aload_n (pc := 79) C dX9_readComer_79 2 rfl ?_
              refine g_get (pc := 80) 0 C fl_X9_25 rfl rfl dX9_readComer_80 ?_
              obtain ⟨v15, hv15, h⟩ := o_bnd h
              refine g_callV (pc := 83) (ws' := [oX9 a_t a_t_tape a_t_draft v15.2.1 v15.2.2 v9.2.2.2.1 v9.2.2.2.2.1 v9.2.2.2.2.2.1 v9.2.2.2.2.2.2, oX1 a_t_draft c_t_draft_houses c_t_draft_comers c_t_draft_evening a_t_draft_lists a_t_draft_kindOf a_t_draft_goes a_t_draft_comes a_t_draft_likings, aI E a_t_draft_comes 6 r_t_draft_comes, aI E a_t_draft_goes 6 r_t_draft_goes, aI E a_t_draft_kindOf 6 r_t_draft_kindOf, aI E a_t_draft_likings 24 r_t_draft_likings, oX8 a_t_tape a_t_tape_bytes c_t_tape_length, aI E a_t_tape_bytes 160 r_t_tape_bytes]) (st1 := [.int v15.1]) C mv_X9_59 (k_X9_fail E a_t a_t_tape a_t_draft v9.2.1 v9.2.2.1 v9.2.2.2.1 v9.2.2.2.2.1 v9.2.2.2.2.2.1 v9.2.2.2.2.2.2 3 v9.2.2.2.1 v15 hv15) [0] rfl (by decide +kernel) rfl [some 0, none, none, none, none, none, none, none] 8 (by decide +kernel) rfl rfl 0 rfl rfl ⟨by decide, by decide⟩ ⟨rfl, rfl⟩ ⟨Nat.zero_le _, Nat.zero_le _⟩ rfl rfl rfl (Nat.le_of_ble_eq_true rfl) dX9_readComer_83 ?_
              obtain ⟨hz, h⟩ := o_grd h
              obtain rfl := Option.some.inj h
              exact g_zret (pc := 86) C K (nb_one hz) dX9_readComer_86
          · refine g_iconst (pc := 64) (v := 0) C dX9_readComer_64 (by decide) ?_
            obtain rfl := Option.some.inj h
            exact g_zret (pc := 65) C K rfl dX9_readComer_65
        · refine g_aload_n (pc := 47) C dX9_readComer_47 1 rfl ?_
          refine g_iconst (pc := 48) (v := 3) C dX9_readComer_48 (by decide) ?_
          refine g_aload_n (pc := 49) C dX9_readComer_49 1 rfl ?_
          refine g_get (pc := 50) 0 C fl_X9_25 rfl rfl dX9_readComer_50 ?_
          obtain ⟨v16, hv16, h⟩ := o_bnd h
          refine g_callV (pc := 53) (ws' := [oX9 a_t a_t_tape a_t_draft v16.2.1 v16.2.2 v1.2.2.2.1 v1.2.2.2.2.1 v1.2.2.2.2.2.1 v1.2.2.2.2.2.2, oX1 a_t_draft c_t_draft_houses c_t_draft_comers c_t_draft_evening a_t_draft_lists a_t_draft_kindOf a_t_draft_goes a_t_draft_comes a_t_draft_likings, aI E a_t_draft_comes 6 r_t_draft_comes, aI E a_t_draft_goes 6 r_t_draft_goes, aI E a_t_draft_kindOf 6 r_t_draft_kindOf, aI E a_t_draft_likings 24 r_t_draft_likings, oX8 a_t_tape a_t_tape_bytes c_t_tape_length, aI E a_t_tape_bytes 160 r_t_tape_bytes]) (st1 := [.int v16.1]) C mv_X9_59 (k_X9_fail E a_t a_t_tape a_t_draft v1.2.1 v1.2.2.1 v1.2.2.2.1 v1.2.2.2.2.1 v1.2.2.2.2.2.1 v1.2.2.2.2.2.2 3 v1.2.2.2.1 v16 hv16) [0] rfl (by decide +kernel) rfl [some 0, none, none, none, none, none, none, none] 8 (by decide +kernel) rfl rfl 0 rfl rfl ⟨by decide, by decide⟩ ⟨rfl, rfl⟩ ⟨Nat.zero_le _, Nat.zero_le _⟩ rfl rfl rfl (Nat.le_of_ble_eq_true rfl) dX9_readComer_53 ?_
          obtain ⟨hz, h⟩ := o_grd h
          obtain rfl := Option.some.inj h
          exact g_zret (pc := 56) C K (nb_one hz) dX9_readComer_56
    · refine g_iconst (pc := 29) (v := 0) C dX9_readComer_29 (by decide) ?_
      obtain rfl := Option.some.inj h
      exact g_zret (pc := 30) C K rfl dX9_readComer_30
  · refine g_aload_n (pc := 12) C dX9_readComer_12 0 rfl ?_
    refine g_iconst (pc := 13) (v := 5) C dX9_readComer_13 (by decide) ?_
    refine g_aload_n (pc := 14) C dX9_readComer_14 0 rfl ?_
    refine g_get (pc := 15) 0 C fl_X9_25 rfl rfl dX9_readComer_15 ?_
    obtain ⟨v17, hv17, h⟩ := o_bnd h
    refine g_callV (pc := 18) (ws' := [oX9 a_t a_t_tape a_t_draft v17.2.1 v17.2.2 c_t_place c_t_behind c_t_sort c_t_value, oX1 a_t_draft c_t_draft_houses c_t_draft_comers c_t_draft_evening a_t_draft_lists a_t_draft_kindOf a_t_draft_goes a_t_draft_comes a_t_draft_likings, aI E a_t_draft_comes 6 r_t_draft_comes, aI E a_t_draft_goes 6 r_t_draft_goes, aI E a_t_draft_kindOf 6 r_t_draft_kindOf, aI E a_t_draft_likings 24 r_t_draft_likings, oX8 a_t_tape a_t_tape_bytes c_t_tape_length, aI E a_t_tape_bytes 160 r_t_tape_bytes]) (st1 := [.int v17.1]) C mv_X9_59 (k_X9_fail E a_t a_t_tape a_t_draft c_t_fault c_t_faultPlace c_t_place c_t_behind c_t_sort c_t_value 5 c_t_place v17 hv17) [0] rfl (by decide +kernel) rfl [some 0, none, none, none, none, none, none, none] 8 (by decide +kernel) rfl rfl 0 rfl rfl ⟨by decide, by decide⟩ ⟨rfl, rfl⟩ ⟨Nat.zero_le _, Nat.zero_le _⟩ rfl rfl rfl (Nat.le_of_ble_eq_true rfl) dX9_readComer_18 ?_
    obtain ⟨hz, h⟩ := o_grd h
    obtain rfl := Option.some.inj h
    exact g_zret (pc := 21) C K (nb_one hz) dX9_readComer_21
theorem dX9_readLine_0 : decode cX9_readLine 0 = .ok (.aload_n 0, 1) := by decide +kernel
theorem dX9_readLine_1 : decode cX9_readLine 1 = .ok (.iconst 0, 1) := by decide +kernel
theorem dX9_readLine_2 : decode cX9_readLine 2 = .ok (.invokevirtual 63, 3) := by decide +kernel
theorem dX9_readLine_5 : decode cX9_readLine 5 = .ok (.ifCond .ne 5, 3) := by decide +kernel
theorem dX9_readLine_8 : decode cX9_readLine 8 = .ok (.iconst 0, 1) := by decide +kernel
theorem dX9_readLine_9 : decode cX9_readLine 9 = .ok (.ireturn, 1) := by decide +kernel
theorem dX9_readLine_10 : decode cX9_readLine 10 = .ok (.aload_n 0, 1) := by decide +kernel
theorem dX9_readLine_11 : decode cX9_readLine 11 = .ok (.ldc 67, 2) := by decide +kernel
theorem dX9_readLine_13 : decode cX9_readLine 13 = .ok (.invokevirtual 69, 3) := by decide +kernel
theorem dX9_readLine_16 : decode cX9_readLine 16 = .ok (.ifCond .eq 8, 3) := by decide +kernel
theorem dX9_readLine_19 : decode cX9_readLine 19 = .ok (.aload_n 0, 1) := by decide +kernel
theorem dX9_readLine_20 : decode cX9_readLine 20 = .ok (.invokevirtual 73, 3) := by decide +kernel
theorem dX9_readLine_23 : decode cX9_readLine 23 = .ok (.ireturn, 1) := by decide +kernel
theorem dX9_readLine_24 : decode cX9_readLine 24 = .ok (.aload_n 0, 1) := by decide +kernel
theorem dX9_readLine_25 : decode cX9_readLine 25 = .ok (.invokevirtual 76, 3) := by decide +kernel
theorem dX9_readLine_28 : decode cX9_readLine 28 = .ok (.istore_n 1, 1) := by decide +kernel
theorem dX9_readLine_29 : decode cX9_readLine 29 = .ok (.iload_n 1, 1) := by decide +kernel
theorem dX9_readLine_30 : decode cX9_readLine 30 = .ok (.bipush (-4), 2) := by decide +kernel
theorem dX9_readLine_32 : decode cX9_readLine 32 = .ok (.if_icmp .ne 15, 3) := by decide +kernel
theorem dX9_readLine_35 : decode cX9_readLine 35 = .ok (.aload_n 0, 1) := by decide +kernel
theorem dX9_readLine_36 : decode cX9_readLine 36 = .ok (.iconst 2, 1) := by decide +kernel
theorem dX9_readLine_37 : decode cX9_readLine 37 = .ok (.aload_n 0, 1) := by decide +kernel
theorem dX9_readLine_38 : decode cX9_readLine 38 = .ok (.getfield 25, 3) := by decide +kernel
theorem dX9_readLine_41 : decode cX9_readLine 41 = .ok (.invokevirtual 59, 3) := by decide +kernel
theorem dX9_readLine_44 : decode cX9_readLine 44 = .ok (.goto 8, 3) := by decide +kernel
theorem dX9_readLine_47 : decode cX9_readLine 47 = .ok (.aload_n 0, 1) := by decide +kernel
theorem dX9_readLine_48 : decode cX9_readLine 48 = .ok (.iload_n 1, 1) := by decide +kernel
theorem dX9_readLine_49 : decode cX9_readLine 49 = .ok (.invokevirtual 80, 3) := by decide +kernel
theorem dX9_readLine_52 : decode cX9_readLine 52 = .ok (.ireturn, 1) := by decide +kernel
def f_X9_readLine (c_t_fault : Int32) (c_t_faultPlace : Int32) (c_t_place : Int32) (c_t_behind : Int32) (c_t_sort : Int32) (c_t_value : Int32) (c_t_draft_houses : Int32) (c_t_draft_comers : Int32) (r_t_draft_comes : (Nat → Int32)) (r_t_draft_goes : (Nat → Int32)) (r_t_draft_kindOf : (Nat → Int32)) (r_t_draft_likings : (Nat → Int32)) (r_t_draft_lists : (Nat → Int32)) (c_t_tape_length : Int32) (r_t_tape_bytes : (Nat → Int32)) : Option (Int32 × Int32 × Int32 × Int32 × Int32 × Int32 × Int32 × Int32 × Int32 × (Nat → Int32) × (Nat → Int32) × (Nat → Int32) × (Nat → Int32) × (Nat → Int32)) :=
  (f_X9_stands c_t_fault c_t_faultPlace c_t_place c_t_sort 0).bind (fun (v1 : Int32 × Int32 × Int32) =>
    if v1.1 = 0 then
      (some ((0, v1.2.1, v1.2.2, c_t_place, c_t_behind, c_t_sort, c_t_value, c_t_draft_houses, c_t_draft_comers, r_t_draft_comes, r_t_draft_goes, r_t_draft_kindOf, r_t_draft_likings, r_t_draft_lists)))
    else
      ((f_X9_named 0 c_t_place c_t_behind r_t_tape_bytes).bind (fun (v2 : Int32) =>
        if v2 = 0 then
          ((f_X9_kindNamed c_t_place c_t_behind r_t_tape_bytes).bind (fun (v3 : Int32) =>
            if v3 = ((-4)) then
              ((f_X9_fail v1.2.1 v1.2.2 2 c_t_place).bind (fun (v5 : Int32 × Int32 × Int32) =>
                if v5.1 &&& 1 = v5.1 then
                  (some ((v5.1, v5.2.1, v5.2.2, c_t_place, c_t_behind, c_t_sort, c_t_value, c_t_draft_houses, c_t_draft_comers, r_t_draft_comes, r_t_draft_goes, r_t_draft_kindOf, r_t_draft_likings, r_t_draft_lists)))
                else none))
            else
              ((f_X9_readComer v1.2.1 v1.2.2 c_t_place c_t_behind c_t_sort c_t_value c_t_draft_comers r_t_draft_comes r_t_draft_goes r_t_draft_kindOf r_t_draft_likings c_t_tape_length r_t_tape_bytes v3).bind (fun (v4 : Int32 × Int32 × Int32 × Int32 × Int32 × Int32 × Int32 × Int32 × (Nat → Int32) × (Nat → Int32) × (Nat → Int32) × (Nat → Int32)) =>
                if v4.1 &&& 1 = v4.1 then
                  (some ((v4.1, v4.2.1, v4.2.2.1, v4.2.2.2.1, v4.2.2.2.2.1, v4.2.2.2.2.2.1, v4.2.2.2.2.2.2.1, c_t_draft_houses, v4.2.2.2.2.2.2.2.1, v4.2.2.2.2.2.2.2.2.1, v4.2.2.2.2.2.2.2.2.2.1, v4.2.2.2.2.2.2.2.2.2.2.1, v4.2.2.2.2.2.2.2.2.2.2.2, r_t_draft_lists)))
                else none))))
        else
          ((f_X9_readHouse v1.2.1 v1.2.2 c_t_place c_t_behind c_t_sort c_t_value c_t_draft_houses r_t_draft_lists c_t_tape_length r_t_tape_bytes).bind (fun (v6 : Int32 × Int32 × Int32 × Int32 × Int32 × Int32 × Int32 × Int32 × (Nat → Int32)) =>
            if v6.1 &&& 1 = v6.1 then
              (some ((v6.1, v6.2.1, v6.2.2.1, v6.2.2.2.1, v6.2.2.2.2.1, v6.2.2.2.2.2.1, v6.2.2.2.2.2.2.1, v6.2.2.2.2.2.2.2.1, c_t_draft_comers, r_t_draft_comes, r_t_draft_goes, r_t_draft_kindOf, r_t_draft_likings, v6.2.2.2.2.2.2.2.2)))
            else none)))))
abbrev rm_X9_readLine : Room := { frames := 7, cells := 0, slots := 0, locals := 162 }
set_option maxHeartbeats 4000000 in
set_option maxRecDepth 100000 in
theorem k_X9_readLine (E : Ev) (a_t a_t_draft a_t_draft_comes a_t_draft_goes a_t_draft_kindOf a_t_draft_likings a_t_draft_lists a_t_tape a_t_tape_bytes : Nat) (c_t_fault : Int32) (c_t_faultPlace : Int32) (c_t_place : Int32) (c_t_behind : Int32) (c_t_sort : Int32) (c_t_value : Int32) (c_t_draft_houses : Int32) (c_t_draft_comers : Int32) (c_t_draft_evening : Int32) (r_t_draft_comes : (Nat → Int32)) (r_t_draft_goes : (Nat → Int32)) (r_t_draft_kindOf : (Nat → Int32)) (r_t_draft_likings : (Nat → Int32)) (r_t_draft_lists : (Nat → Int32)) (c_t_tape_length : Int32) (r_t_tape_bytes : (Nat → Int32)) (v : Int32 × Int32 × Int32 × Int32 × Int32 × Int32 × Int32 × Int32 × Int32 × (Nat → Int32) × (Nat → Int32) × (Nat → Int32) × (Nat → Int32) × (Nat → Int32)) (h : f_X9_readLine c_t_fault c_t_faultPlace c_t_place c_t_behind c_t_sort c_t_value c_t_draft_houses c_t_draft_comers r_t_draft_comes r_t_draft_goes r_t_draft_kindOf r_t_draft_likings r_t_draft_lists c_t_tape_length r_t_tape_bytes = some v) : Mt E yX9_readLine cX9_readLine 2 (some .boolean) rm_X9_readLine [.ref a_t] [oX9 a_t a_t_tape a_t_draft c_t_fault c_t_faultPlace c_t_place c_t_behind c_t_sort c_t_value, oX1 a_t_draft c_t_draft_houses c_t_draft_comers c_t_draft_evening a_t_draft_lists a_t_draft_kindOf a_t_draft_goes a_t_draft_comes a_t_draft_likings, aI E a_t_draft_comes 6 r_t_draft_comes, aI E a_t_draft_goes 6 r_t_draft_goes, aI E a_t_draft_kindOf 6 r_t_draft_kindOf, aI E a_t_draft_likings 24 r_t_draft_likings, aI E a_t_draft_lists 4 r_t_draft_lists, oX8 a_t_tape a_t_tape_bytes c_t_tape_length, aI E a_t_tape_bytes 160 r_t_tape_bytes] [oX9 a_t a_t_tape a_t_draft v.2.1 v.2.2.1 v.2.2.2.1 v.2.2.2.2.1 v.2.2.2.2.2.1 v.2.2.2.2.2.2.1, oX1 a_t_draft v.2.2.2.2.2.2.2.1 v.2.2.2.2.2.2.2.2.1 c_t_draft_evening a_t_draft_lists a_t_draft_kindOf a_t_draft_goes a_t_draft_comes a_t_draft_likings, aI E a_t_draft_comes 6 v.2.2.2.2.2.2.2.2.2.1, aI E a_t_draft_goes 6 v.2.2.2.2.2.2.2.2.2.2.1, aI E a_t_draft_kindOf 6 v.2.2.2.2.2.2.2.2.2.2.2.1, aI E a_t_draft_likings 24 v.2.2.2.2.2.2.2.2.2.2.2.2.1, aI E a_t_draft_lists 4 v.2.2.2.2.2.2.2.2.2.2.2.2.2, oX8 a_t_tape a_t_tape_bytes c_t_tape_length, aI E a_t_tape_bytes 160 r_t_tape_bytes] (some (.int v.1)) := by
  refine Mt.intro (lv := [(0, .ref a_t)]) (by decide +kernel) (Nat.le_of_ble_eq_true rfl) rfl (fun X C K => ?_)
  have C : CX E X cX9_readLine RX9 2 rm_X9_readLine := C
  rw [f_X9_readLine] at h
  refine g_aload_n (pc := 0) C dX9_readLine_0 0 rfl ?_
  refine g_iconst (pc := 1) (v := 0) C dX9_readLine_1 (by decide) ?_
  obtain ⟨v1, hv1, h⟩ := o_bnd h
  refine g_callV (pc := 2) (ws' := [oX9 a_t a_t_tape a_t_draft v1.2.1 v1.2.2 c_t_place c_t_behind c_t_sort c_t_value, oX1 a_t_draft c_t_draft_houses c_t_draft_comers c_t_draft_evening a_t_draft_lists a_t_draft_kindOf a_t_draft_goes a_t_draft_comes a_t_draft_likings, aI E a_t_draft_comes 6 r_t_draft_comes, aI E a_t_draft_goes 6 r_t_draft_goes, aI E a_t_draft_kindOf 6 r_t_draft_kindOf, aI E a_t_draft_likings 24 r_t_draft_likings, aI E a_t_draft_lists 4 r_t_draft_lists, oX8 a_t_tape a_t_tape_bytes c_t_tape_length, aI E a_t_tape_bytes 160 r_t_tape_bytes]) (st1 := [.int v1.1]) C mv_X9_63 (k_X9_stands E a_t a_t_tape a_t_draft c_t_fault c_t_faultPlace c_t_place c_t_behind c_t_sort c_t_value 0 v1 hv1) [0] rfl (by decide +kernel) rfl [some 0, none, none, none, none, none, none, none, none] 9 (by decide +kernel) rfl rfl 0 rfl rfl ⟨by decide, by decide⟩ ⟨rfl, rfl⟩ ⟨Nat.zero_le _, Nat.zero_le _⟩ rfl rfl rfl (Nat.le_of_ble_eq_true rfl) dX9_readLine_2 ?_
  refine b_if_ne (pc := 5) 10 C dX9_readLine_5 (by decide) h (fun _ h => ?_) (fun _ h => ?_)
  · refine g_aload_n (pc := 10) C dX9_readLine_10 0 rfl ?_
    refine g_ldcs (pc := 11) C (C.2.2.2.2.2.2.2.2.2.2.2.1) dX9_readLine_11 ?_
    obtain ⟨v2, hv2, h⟩ := o_bnd h
    refine g_callV (pc := 13) (ws' := [oX9 a_t a_t_tape a_t_draft v1.2.1 v1.2.2 c_t_place c_t_behind c_t_sort c_t_value, oX1 a_t_draft c_t_draft_houses c_t_draft_comers c_t_draft_evening a_t_draft_lists a_t_draft_kindOf a_t_draft_goes a_t_draft_comes a_t_draft_likings, aI E a_t_draft_comes 6 r_t_draft_comes, aI E a_t_draft_goes 6 r_t_draft_goes, aI E a_t_draft_kindOf 6 r_t_draft_kindOf, aI E a_t_draft_likings 24 r_t_draft_likings, aI E a_t_draft_lists 4 r_t_draft_lists, oX8 a_t_tape a_t_tape_bytes c_t_tape_length, aI E a_t_tape_bytes 160 r_t_tape_bytes]) (st1 := [.int v2]) C mv_X9_69 (k_X9_named E 0 (by decide) a_t a_t_tape a_t_tape_bytes a_t_draft v1.2.1 v1.2.2 c_t_place c_t_behind c_t_sort c_t_value c_t_tape_length r_t_tape_bytes v2 hv2) [0, 7, 8] rfl (by decide +kernel) rfl [some 0, none, none, none, none, none, none, some 1, some 2] 9 (by decide +kernel) rfl rfl 0 rfl rfl ⟨by decide, by decide⟩ ⟨rfl, rfl⟩ ⟨Nat.zero_le _, Nat.zero_le _⟩ rfl rfl rfl (Nat.le_of_ble_eq_true rfl) dX9_readLine_13 ?_
    refine b_if_eq (pc := 16) 24 C dX9_readLine_16 (by decide) h (fun _ h => ?_) (fun _ h => ?_)
    · refine g_aload_n (pc := 24) C dX9_readLine_24 0 rfl ?_
      obtain ⟨v3, hv3, h⟩ := o_bnd h
      refine g_callV (pc := 25) (ws' := [oX9 a_t a_t_tape a_t_draft v1.2.1 v1.2.2 c_t_place c_t_behind c_t_sort c_t_value, oX1 a_t_draft c_t_draft_houses c_t_draft_comers c_t_draft_evening a_t_draft_lists a_t_draft_kindOf a_t_draft_goes a_t_draft_comes a_t_draft_likings, aI E a_t_draft_comes 6 r_t_draft_comes, aI E a_t_draft_goes 6 r_t_draft_goes, aI E a_t_draft_kindOf 6 r_t_draft_kindOf, aI E a_t_draft_likings 24 r_t_draft_likings, aI E a_t_draft_lists 4 r_t_draft_lists, oX8 a_t_tape a_t_tape_bytes c_t_tape_length, aI E a_t_tape_bytes 160 r_t_tape_bytes]) (st1 := [.int v3]) C mv_X9_76 (k_X9_kindNamed E a_t a_t_tape a_t_tape_bytes a_t_draft v1.2.1 v1.2.2 c_t_place c_t_behind c_t_sort c_t_value c_t_tape_length r_t_tape_bytes v3 hv3) [0, 7, 8] rfl (by decide +kernel) rfl [some 0, none, none, none, none, none, none, some 1, some 2] 9 (by decide +kernel) rfl rfl 0 rfl rfl ⟨by decide, by decide⟩ ⟨rfl, rfl⟩ ⟨Nat.zero_le _, Nat.zero_le _⟩ rfl rfl rfl (Nat.le_of_ble_eq_true rfl) dX9_readLine_25 ?_
      refine g_istore_n (pc := 28) (lv' := [(1, .int v3), (0, .ref a_t)]) C dX9_readLine_28 (by decide) rfl ?_
      refine g_iload_n (pc := 29) C dX9_readLine_29 0 rfl ?_
      refine g_bipush (pc := 30) (v := (-4)) C dX9_readLine_30 (by decide) ?_
      refine b_icmp_ne (pc := 32) 47 C dX9_readLine_32 (by decide) h (fun _ h => ?_) (fun _ h => ?_)
      · refine g_aload_n (pc := 47) C dX9_readLine_47 1 rfl ?_
        refine g_iload_n (pc := 48) C dX9_readLine_48 0 rfl ?_
        obtain ⟨v4, hv4, h⟩ := o_bnd h
        refine g_callV (pc := 49) (ws' := [oX9 a_t a_t_tape a_t_draft v4.2.1 v4.2.2.1 v4.2.2.2.1 v4.2.2.2.2.1 v4.2.2.2.2.2.1 v4.2.2.2.2.2.2.1, oX1 a_t_draft c_t_draft_houses v4.2.2.2.2.2.2.2.1 c_t_draft_evening a_t_draft_lists a_t_draft_kindOf a_t_draft_goes a_t_draft_comes a_t_draft_likings, aI E a_t_draft_comes 6 v4.2.2.2.2.2.2.2.2.1, aI E a_t_draft_goes 6 v4.2.2.2.2.2.2.2.2.2.1, aI E a_t_draft_kindOf 6 v4.2.2.2.2.2.2.2.2.2.2.1, aI E a_t_draft_likings 24 v4.2.2.2.2.2.2.2.2.2.2.2, aI E a_t_draft_lists 4 r_t_draft_lists, oX8 a_t_tape a_t_tape_bytes c_t_tape_length, aI E a_t_tape_bytes 160 r_t_tape_bytes]) (st1 := [.int v4.1]) C mv_X9_80 (k_X9_readComer E a_t a_t_draft a_t_draft_comes a_t_draft_goes a_t_draft_kindOf a_t_draft_likings a_t_tape a_t_tape_bytes a_t_draft_lists v1.2.1 v1.2.2 c_t_place c_t_behind c_t_sort c_t_value c_t_draft_houses c_t_draft_comers c_t_draft_evening r_t_draft_comes r_t_draft_goes r_t_draft_kindOf r_t_draft_likings c_t_tape_length r_t_tape_bytes v3 v4 hv4) [0, 1, 2, 3, 4, 5, 7, 8] rfl (by decide +kernel) rfl [some 0, some 1, some 2, some 3, some 4, some 5, none, some 6, some 7] 9 (by decide +kernel) rfl rfl 0 rfl rfl ⟨by decide, by decide⟩ ⟨rfl, rfl⟩ ⟨Nat.zero_le _, Nat.zero_le _⟩ rfl rfl rfl (Nat.le_of_ble_eq_true rfl) dX9_readLine_49 ?_
        obtain ⟨hz, h⟩ := o_grd h
        obtain rfl := Option.some.inj h
        exact g_zret (pc := 52) C K (nb_one hz) dX9_readLine_52
      · refine g_aload_n (pc := 35) C dX9_readLine_35 1 rfl ?_
        refine g_iconst (pc := 36) (v := 2) C dX9_readLine_36 (by decide) ?_
        refine g_aload_n (pc := 37) C dX9_readLine_37 1 rfl ?_
        refine g_get (pc := 38) 0 C fl_X9_25 rfl rfl dX9_readLine_38 ?_
        obtain ⟨v5, hv5, h⟩ := o_bnd h
        refine g_callV (pc := 41) (ws' := [oX9 a_t a_t_tape a_t_draft v5.2.1 v5.2.2 c_t_place c_t_behind c_t_sort c_t_value, oX1 a_t_draft c_t_draft_houses c_t_draft_comers c_t_draft_evening a_t_draft_lists a_t_draft_kindOf a_t_draft_goes a_t_draft_comes a_t_draft_likings, aI E a_t_draft_comes 6 r_t_draft_comes, aI E a_t_draft_goes 6 r_t_draft_goes, aI E a_t_draft_kindOf 6 r_t_draft_kindOf, aI E a_t_draft_likings 24 r_t_draft_likings, aI E a_t_draft_lists 4 r_t_draft_lists, oX8 a_t_tape a_t_tape_bytes c_t_tape_length, aI E a_t_tape_bytes 160 r_t_tape_bytes]) (st1 := [.int v5.1]) C mv_X9_59 (k_X9_fail E a_t a_t_tape a_t_draft v1.2.1 v1.2.2 c_t_place c_t_behind c_t_sort c_t_value 2 c_t_place v5 hv5) [0] rfl (by decide +kernel) rfl [some 0, none, none, none, none, none, none, none, none] 9 (by decide +kernel) rfl rfl 0 rfl rfl ⟨by decide, by decide⟩ ⟨rfl, rfl⟩ ⟨Nat.zero_le _, Nat.zero_le _⟩ rfl rfl rfl (Nat.le_of_ble_eq_true rfl) dX9_readLine_41 ?_
        refine g_goto (pc := 44) 52 C dX9_readLine_44 (by decide) ?_
        obtain ⟨hz, h⟩ := o_grd h
        obtain rfl := Option.some.inj h
        exact g_zret (pc := 52) C K (nb_one hz) dX9_readLine_52
    · refine g_aload_n (pc := 19) C dX9_readLine_19 0 rfl ?_
      obtain ⟨v6, hv6, h⟩ := o_bnd h
      refine g_callV (pc := 20) (ws' := [oX9 a_t a_t_tape a_t_draft v6.2.1 v6.2.2.1 v6.2.2.2.1 v6.2.2.2.2.1 v6.2.2.2.2.2.1 v6.2.2.2.2.2.2.1, oX1 a_t_draft v6.2.2.2.2.2.2.2.1 c_t_draft_comers c_t_draft_evening a_t_draft_lists a_t_draft_kindOf a_t_draft_goes a_t_draft_comes a_t_draft_likings, aI E a_t_draft_comes 6 r_t_draft_comes, aI E a_t_draft_goes 6 r_t_draft_goes, aI E a_t_draft_kindOf 6 r_t_draft_kindOf, aI E a_t_draft_likings 24 r_t_draft_likings, aI E a_t_draft_lists 4 v6.2.2.2.2.2.2.2.2, oX8 a_t_tape a_t_tape_bytes c_t_tape_length, aI E a_t_tape_bytes 160 r_t_tape_bytes]) (st1 := [.int v6.1]) C mv_X9_73 (k_X9_readHouse E a_t a_t_draft a_t_draft_lists a_t_tape a_t_tape_bytes a_t_draft_kindOf a_t_draft_goes a_t_draft_comes a_t_draft_likings v1.2.1 v1.2.2 c_t_place c_t_behind c_t_sort c_t_value c_t_draft_houses c_t_draft_comers c_t_draft_evening r_t_draft_lists c_t_tape_length r_t_tape_bytes v6 hv6) [0, 1, 6, 7, 8] rfl (by decide +kernel) rfl [some 0, some 1, none, none, none, none, some 2, some 3, some 4] 9 (by decide +kernel) rfl rfl 0 rfl rfl ⟨by decide, by decide⟩ ⟨rfl, rfl⟩ ⟨Nat.zero_le _, Nat.zero_le _⟩ rfl rfl rfl (Nat.le_of_ble_eq_true rfl) dX9_readLine_20 ?_
      obtain ⟨hz, h⟩ := o_grd h
      obtain rfl := Option.some.inj h
      exact g_zret (pc := 23) C K (nb_one hz) dX9_readLine_23
  · refine g_iconst (pc := 8) (v := 0) C dX9_readLine_8 (by decide) ?_
    obtain rfl := Option.some.inj h
    exact g_zret (pc := 9) C K rfl dX9_readLine_9
theorem dX9_readAll_0 : decode cX9_readAll 0 = .ok (.aload_n 0, 1) := by decide +kernel
theorem dX9_readAll_1 : decode cX9_readAll 1 = .ok (.getfield 12, 3) := by decide +kernel
theorem dX9_readAll_4 : decode cX9_readAll 4 = .ok (.invokevirtual 41, 3) := by decide +kernel
theorem dX9_readAll_7 : decode cX9_readAll 7 = .ok (.aload_n 0, 1) := by decide +kernel
theorem dX9_readAll_8 : decode cX9_readAll 8 = .ok (.iconst 0, 1) := by decide +kernel
theorem dX9_readAll_9 : decode cX9_readAll 9 = .ok (.putfield 18, 3) := by decide +kernel
theorem dX9_readAll_12 : decode cX9_readAll 12 = .ok (.aload_n 0, 1) := by decide +kernel
theorem dX9_readAll_13 : decode cX9_readAll 13 = .ok (.iconst 0, 1) := by decide +kernel
theorem dX9_readAll_14 : decode cX9_readAll 14 = .ok (.putfield 28, 3) := by decide +kernel
theorem dX9_readAll_17 : decode cX9_readAll 17 = .ok (.iconst 0, 1) := by decide +kernel
theorem dX9_readAll_18 : decode cX9_readAll 18 = .ok (.istore_n 1, 1) := by decide +kernel
theorem dX9_readAll_19 : decode cX9_readAll 19 = .ok (.aload_n 0, 1) := by decide +kernel
theorem dX9_readAll_20 : decode cX9_readAll 20 = .ok (.invokevirtual 44, 3) := by decide +kernel
theorem dX9_readAll_23 : decode cX9_readAll 23 = .ok (.aload_n 0, 1) := by decide +kernel
theorem dX9_readAll_24 : decode cX9_readAll 24 = .ok (.getfield 31, 3) := by decide +kernel
theorem dX9_readAll_27 : decode cX9_readAll 27 = .ok (.iconst 3, 1) := by decide +kernel
theorem dX9_readAll_28 : decode cX9_readAll 28 = .ok (.if_icmp .eq 35, 3) := by decide +kernel
theorem dX9_readAll_31 : decode cX9_readAll 31 = .ok (.iload_n 1, 1) := by decide +kernel
theorem dX9_readAll_32 : decode cX9_readAll 32 = .ok (.sipush 160, 3) := by decide +kernel
theorem dX9_readAll_35 : decode cX9_readAll 35 = .ok (.if_icmp .ge 28, 3) := by decide +kernel
theorem dX9_readAll_38 : decode cX9_readAll 38 = .ok (.aload_n 0, 1) := by decide +kernel
theorem dX9_readAll_39 : decode cX9_readAll 39 = .ok (.invokevirtual 47, 3) := by decide +kernel
theorem dX9_readAll_42 : decode cX9_readAll 42 = .ok (.ifCond .ne 11, 3) := by decide +kernel
theorem dX9_readAll_45 : decode cX9_readAll 45 = .ok (.bipush (-10), 2) := by decide +kernel
theorem dX9_readAll_47 : decode cX9_readAll 47 = .ok (.aload_n 0, 1) := by decide +kernel
theorem dX9_readAll_48 : decode cX9_readAll 48 = .ok (.getfield 22, 3) := by decide +kernel
theorem dX9_readAll_51 : decode cX9_readAll 51 = .ok (.isub, 1) := by decide +kernel
theorem dX9_readAll_52 : decode cX9_readAll 52 = .ok (.ireturn, 1) := by decide +kernel
theorem dX9_readAll_53 : decode cX9_readAll 53 = .ok (.iinc 1 1, 3) := by decide +kernel
theorem dX9_readAll_56 : decode cX9_readAll 56 = .ok (.aload_n 0, 1) := by decide +kernel
theorem dX9_readAll_57 : decode cX9_readAll 57 = .ok (.invokevirtual 44, 3) := by decide +kernel
theorem dX9_readAll_60 : decode cX9_readAll 60 = .ok (.goto (-37), 3) := by decide +kernel
theorem dX9_readAll_63 : decode cX9_readAll 63 = .ok (.aload_n 0, 1) := by decide +kernel
theorem dX9_readAll_64 : decode cX9_readAll 64 = .ok (.getfield 12, 3) := by decide +kernel
theorem dX9_readAll_67 : decode cX9_readAll 67 = .ok (.invokevirtual 51, 3) := by decide +kernel
theorem dX9_readAll_70 : decode cX9_readAll 70 = .ok (.ifCond .ne 25, 3) := by decide +kernel
theorem dX9_readAll_73 : decode cX9_readAll 73 = .ok (.aload_n 0, 1) := by decide +kernel
theorem dX9_readAll_74 : decode cX9_readAll 74 = .ok (.bipush 6, 2) := by decide +kernel
theorem dX9_readAll_76 : decode cX9_readAll 76 = .ok (.aload_n 0, 1) := by decide +kernel
theorem dX9_readAll_77 : decode cX9_readAll 77 = .ok (.getfield 37, 3) := by decide +kernel
theorem dX9_readAll_80 : decode cX9_readAll 80 = .ok (.getfield 54, 3) := by decide +kernel
theorem dX9_readAll_83 : decode cX9_readAll 83 = .ok (.invokevirtual 59, 3) := by decide +kernel
theorem dX9_readAll_86 : decode cX9_readAll 86 = .ok (.pop, 1) := by decide +kernel
theorem dX9_readAll_87 : decode cX9_readAll 87 = .ok (.bipush (-10), 2) := by decide +kernel
theorem dX9_readAll_89 : decode cX9_readAll 89 = .ok (.aload_n 0, 1) := by decide +kernel
theorem dX9_readAll_90 : decode cX9_readAll 90 = .ok (.getfield 22, 3) := by decide +kernel
theorem dX9_readAll_93 : decode cX9_readAll 93 = .ok (.isub, 1) := by decide +kernel
theorem dX9_readAll_94 : decode cX9_readAll 94 = .ok (.ireturn, 1) := by decide +kernel
theorem dX9_readAll_95 : decode cX9_readAll 95 = .ok (.iload_n 1, 1) := by decide +kernel
theorem dX9_readAll_96 : decode cX9_readAll 96 = .ok (.ireturn, 1) := by decide +kernel
def L_X9_readAll_23 (c_t_tape_length : Int32) (r_t_tape_bytes : (Nat → Int32)) (v1 : (Int32 × Int32 × Int32)) : Nat → Int32 → Int32 → Int32 → Int32 → Int32 → Int32 → Int32 → Int32 → Int32 → (Nat → Int32) → (Nat → Int32) → (Nat → Int32) → (Nat → Int32) → (Nat → Int32) → Option ((Int32 × Int32 × Int32 × Int32 × Int32 × Int32 × Int32 × Int32 × Int32 × Int32 × (Nat → Int32) × (Nat → Int32) × (Nat → Int32) × (Nat → Int32) × (Nat → Int32)) ⊕ (Int32 × Int32 × Int32 × Int32 × Int32 × Int32 × Int32 × Int32 × Int32 × (Nat → Int32) × (Nat → Int32) × (Nat → Int32) × (Nat → Int32) × (Nat → Int32)))
  | 0, _, _, _, _, _, _, _, _, _, _, _, _, _, _ => none
  | n + 1, y3, y4, y5, y6, y7, y8, y9, y10, y11, y12, y13, y14, y15, y16 =>
    if y8 = 3 then
      (some (.inr ((y3, y4, y5, y6, y7, y8, y9, y10, y11, y12, y13, y14, y15, y16))))
    else
      (if 160 ≤ y3 then
        (some (.inr ((y3, y4, y5, y6, y7, y8, y9, y10, y11, y12, y13, y14, y15, y16))))
      else
        ((f_X9_readLine y4 y5 y6 y7 y8 y9 y10 y11 y12 y13 y14 y15 y16 c_t_tape_length r_t_tape_bytes).bind (fun (v17 : Int32 × Int32 × Int32 × Int32 × Int32 × Int32 × Int32 × Int32 × Int32 × (Nat → Int32) × (Nat → Int32) × (Nat → Int32) × (Nat → Int32) × (Nat → Int32)) =>
          if v17.1 = 0 then
            (some (.inl ((((-10)) - v17.2.2.1, v17.2.1, v17.2.2.1, v17.2.2.2.1, v17.2.2.2.2.1, v17.2.2.2.2.2.1, v17.2.2.2.2.2.2.1, v17.2.2.2.2.2.2.2.1, v17.2.2.2.2.2.2.2.2.1, v1.2.2, v17.2.2.2.2.2.2.2.2.2.1, v17.2.2.2.2.2.2.2.2.2.2.1, v17.2.2.2.2.2.2.2.2.2.2.2.1, v17.2.2.2.2.2.2.2.2.2.2.2.2.1, v17.2.2.2.2.2.2.2.2.2.2.2.2.2))))
          else
            ((f_X9_readToken v17.2.2.2.1 v17.2.2.2.2.1 v17.2.2.2.2.2.1 v17.2.2.2.2.2.2.1 c_t_tape_length r_t_tape_bytes).bind (fun (v18 : Int32 × Int32 × Int32 × Int32) =>
              L_X9_readAll_23 c_t_tape_length r_t_tape_bytes v1 n (y3 + 1) v17.2.1 v17.2.2.1 v18.1 v18.2.1 v18.2.2.1 v18.2.2.2 v17.2.2.2.2.2.2.2.1 v17.2.2.2.2.2.2.2.2.1 v17.2.2.2.2.2.2.2.2.2.1 v17.2.2.2.2.2.2.2.2.2.2.1 v17.2.2.2.2.2.2.2.2.2.2.2.1 v17.2.2.2.2.2.2.2.2.2.2.2.2.1 v17.2.2.2.2.2.2.2.2.2.2.2.2.2)))))
def f_X9_readAll (c_t_fault : Int32) (c_t_faultPlace : Int32) (c_t_place : Int32) (c_t_behind : Int32) (c_t_sort : Int32) (c_t_value : Int32) (c_t_draft_houses : Int32) (c_t_draft_comers : Int32) (c_t_draft_evening : Int32) (r_t_draft_comes : (Nat → Int32)) (r_t_draft_goes : (Nat → Int32)) (r_t_draft_kindOf : (Nat → Int32)) (r_t_draft_likings : (Nat → Int32)) (r_t_draft_lists : (Nat → Int32)) (c_t_tape_length : Int32) (r_t_tape_bytes : (Nat → Int32)) : Option (Int32 × Int32 × Int32 × Int32 × Int32 × Int32 × Int32 × Int32 × Int32 × Int32 × (Nat → Int32) × (Nat → Int32) × (Nat → Int32) × (Nat → Int32) × (Nat → Int32)) :=
  (f_X1_clear c_t_draft_houses c_t_draft_comers c_t_draft_evening).bind (fun (v1 : Int32 × Int32 × Int32) =>
    (f_X9_readToken c_t_place 0 c_t_sort c_t_value c_t_tape_length r_t_tape_bytes).bind (fun (v2 : Int32 × Int32 × Int32 × Int32) =>
      (L_X9_readAll_23 c_t_tape_length r_t_tape_bytes v1 400 0 0 c_t_faultPlace v2.1 v2.2.1 v2.2.2.1 v2.2.2.2 v1.1 v1.2.1 r_t_draft_comes r_t_draft_goes r_t_draft_kindOf r_t_draft_likings r_t_draft_lists).bind (fun o => sel (fun (w23 : Int32 × Int32 × Int32 × Int32 × Int32 × Int32 × Int32 × Int32 × Int32 × Int32 × (Nat → Int32) × (Nat → Int32) × (Nat → Int32) × (Nat → Int32) × (Nat → Int32)) => some w23) (fun (v20 : Int32 × Int32 × Int32 × Int32 × Int32 × Int32 × Int32 × Int32 × Int32 × (Nat → Int32) × (Nat → Int32) × (Nat → Int32) × (Nat → Int32) × (Nat → Int32)) =>
        (f_X1_namesOnlyWhatThereIs v20.2.2.2.2.2.2.2.1 v20.2.2.2.2.2.2.2.2.1 v20.2.2.2.2.2.2.2.2.2.2.1 v20.2.2.2.2.2.2.2.2.2.2.2.2.2).bind (fun (v21 : Int32) =>
          if v21 = 0 then
            ((f_X9_fail v20.2.1 v20.2.2.1 6 c_t_tape_length).bind (fun (v22 : Int32 × Int32 × Int32) =>
              some ((((-10)) - v22.2.2, v22.2.1, v22.2.2, v20.2.2.2.1, v20.2.2.2.2.1, v20.2.2.2.2.2.1, v20.2.2.2.2.2.2.1, v20.2.2.2.2.2.2.2.1, v20.2.2.2.2.2.2.2.2.1, v1.2.2, v20.2.2.2.2.2.2.2.2.2.1, v20.2.2.2.2.2.2.2.2.2.2.1, v20.2.2.2.2.2.2.2.2.2.2.2.1, v20.2.2.2.2.2.2.2.2.2.2.2.2.1, v20.2.2.2.2.2.2.2.2.2.2.2.2.2))))
          else
            (some ((v20.1, v20.2.1, v20.2.2.1, v20.2.2.2.1, v20.2.2.2.2.1, v20.2.2.2.2.2.1, v20.2.2.2.2.2.2.1, v20.2.2.2.2.2.2.2.1, v20.2.2.2.2.2.2.2.2.1, v1.2.2, v20.2.2.2.2.2.2.2.2.2.1, v20.2.2.2.2.2.2.2.2.2.2.1, v20.2.2.2.2.2.2.2.2.2.2.2.1, v20.2.2.2.2.2.2.2.2.2.2.2.2.1, v20.2.2.2.2.2.2.2.2.2.2.2.2.2))))) o)))
abbrev rm_X9_readAll : Room := { frames := 8, cells := 0, slots := 0, locals := 183 }
set_option maxHeartbeats 4000000 in
set_option maxRecDepth 100000 in
theorem lp_X9_readAll_23 {E : Ev} {X : Cx} {a_t a_t_draft a_t_draft_comes a_t_draft_goes a_t_draft_kindOf a_t_draft_likings a_t_draft_lists a_t_tape a_t_tape_bytes : Nat} (c_t_tape_length : Int32) (r_t_tape_bytes : (Nat → Int32)) (v1 : (Int32 × Int32 × Int32)) (C : CX E X cX9_readAll RX9 2 rm_X9_readAll) : ∀ (n : Nat) (y3 : Int32) (y4 : Int32) (y5 : Int32) (y6 : Int32) (y7 : Int32) (y8 : Int32) (y9 : Int32) (y10 : Int32) (y11 : Int32) (y12 : (Nat → Int32)) (y13 : (Nat → Int32)) (y14 : (Nat → Int32)) (y15 : (Nat → Int32)) (y16 : (Nat → Int32)) (o : ((Int32 × Int32 × Int32 × Int32 × Int32 × Int32 × Int32 × Int32 × Int32 × Int32 × (Nat → Int32) × (Nat → Int32) × (Nat → Int32) × (Nat → Int32) × (Nat → Int32)) ⊕ (Int32 × Int32 × Int32 × Int32 × Int32 × Int32 × Int32 × Int32 × Int32 × (Nat → Int32) × (Nat → Int32) × (Nat → Int32) × (Nat → Int32) × (Nat → Int32)))), L_X9_readAll_23 c_t_tape_length r_t_tape_bytes v1 n y3 y4 y5 y6 y7 y8 y9 y10 y11 y12 y13 y14 y15 y16 = some o → (∀ w, o = .inl w → QK E X 0 0 (some .int) [oX9 a_t a_t_tape a_t_draft w.2.1 w.2.2.1 w.2.2.2.1 w.2.2.2.2.1 w.2.2.2.2.2.1 w.2.2.2.2.2.2.1, oX1 a_t_draft w.2.2.2.2.2.2.2.1 w.2.2.2.2.2.2.2.2.1 w.2.2.2.2.2.2.2.2.2.1 a_t_draft_lists a_t_draft_kindOf a_t_draft_goes a_t_draft_comes a_t_draft_likings, aI E a_t_draft_comes 6 w.2.2.2.2.2.2.2.2.2.2.1, aI E a_t_draft_goes 6 w.2.2.2.2.2.2.2.2.2.2.2.1, aI E a_t_draft_kindOf 6 w.2.2.2.2.2.2.2.2.2.2.2.2.1, aI E a_t_draft_likings 24 w.2.2.2.2.2.2.2.2.2.2.2.2.2.1, aI E a_t_draft_lists 4 w.2.2.2.2.2.2.2.2.2.2.2.2.2.2, oX8 a_t_tape a_t_tape_bytes c_t_tape_length, aI E a_t_tape_bytes 160 r_t_tape_bytes] (some (.int w.1))) → (∀ v, o = .inr v → G E X 0 0 [oX9 a_t a_t_tape a_t_draft v.2.1 v.2.2.1 v.2.2.2.1 v.2.2.2.2.1 v.2.2.2.2.2.1 v.2.2.2.2.2.2.1, oX1 a_t_draft v.2.2.2.2.2.2.2.1 v.2.2.2.2.2.2.2.2.1 v1.2.2 a_t_draft_lists a_t_draft_kindOf a_t_draft_goes a_t_draft_comes a_t_draft_likings, aI E a_t_draft_comes 6 v.2.2.2.2.2.2.2.2.2.1, aI E a_t_draft_goes 6 v.2.2.2.2.2.2.2.2.2.2.1, aI E a_t_draft_kindOf 6 v.2.2.2.2.2.2.2.2.2.2.2.1, aI E a_t_draft_likings 24 v.2.2.2.2.2.2.2.2.2.2.2.2.1, aI E a_t_draft_lists 4 v.2.2.2.2.2.2.2.2.2.2.2.2.2, oX8 a_t_tape a_t_tape_bytes c_t_tape_length, aI E a_t_tape_bytes 160 r_t_tape_bytes] [(0, .ref a_t), (1, .int v.1)] 63 []) → G E X 0 0 [oX9 a_t a_t_tape a_t_draft y4 y5 y6 y7 y8 y9, oX1 a_t_draft y10 y11 v1.2.2 a_t_draft_lists a_t_draft_kindOf a_t_draft_goes a_t_draft_comes a_t_draft_likings, aI E a_t_draft_comes 6 y12, aI E a_t_draft_goes 6 y13, aI E a_t_draft_kindOf 6 y14, aI E a_t_draft_likings 24 y15, aI E a_t_draft_lists 4 y16, oX8 a_t_tape a_t_tape_bytes c_t_tape_length, aI E a_t_tape_bytes 160 r_t_tape_bytes] [(0, .ref a_t), (1, .int y3)] 23 [] := by
  intro n
  induction n with
  | zero => intro _ _ _ _ _ _ _ _ _ _ _ _ _ _ _ h; cases h
  | succ n ih =>
    intro y3 y4 y5 y6 y7 y8 y9 y10 y11 y12 y13 y14 y15 y16 o h kr kx
    rw [L_X9_readAll_23] at h
    refine g_aload_n (pc := 23) C dX9_readAll_23 0 rfl ?_
    refine g_get (pc := 24) 0 C fl_X9_31 rfl rfl dX9_readAll_24 ?_
    refine g_iconst (pc := 27) (v := 3) C dX9_readAll_27 (by decide) ?_
    refine b_icmp_eq (pc := 28) 63 C dX9_readAll_28 (by decide) h (fun _ h => ?_) (fun _ h => ?_)
    · obtain rfl := Option.some.inj h
      refine g_lv [0, 1] (lv' := [(0, .ref a_t), (1, .int y3)]) rfl ?_
      exact kx _ rfl
    · refine g_iload_n (pc := 31) C dX9_readAll_31 1 rfl ?_
      refine g_sipush (pc := 32) (v := 160) C dX9_readAll_32 (by decide) ?_
      refine b_icmp_ge (pc := 35) 63 C dX9_readAll_35 (by decide) h (fun _ h => ?_) (fun _ h => ?_)
      · obtain rfl := Option.some.inj h
        refine g_lv [0, 1] (lv' := [(0, .ref a_t), (1, .int y3)]) rfl ?_
        exact kx _ rfl
      · refine g_aload_n (pc := 38) C dX9_readAll_38 0 rfl ?_
        obtain ⟨v17, hv17, h⟩ := o_bnd h
        refine g_callV (pc := 39) (ws' := [oX9 a_t a_t_tape a_t_draft v17.2.1 v17.2.2.1 v17.2.2.2.1 v17.2.2.2.2.1 v17.2.2.2.2.2.1 v17.2.2.2.2.2.2.1, oX1 a_t_draft v17.2.2.2.2.2.2.2.1 v17.2.2.2.2.2.2.2.2.1 v1.2.2 a_t_draft_lists a_t_draft_kindOf a_t_draft_goes a_t_draft_comes a_t_draft_likings, aI E a_t_draft_comes 6 v17.2.2.2.2.2.2.2.2.2.1, aI E a_t_draft_goes 6 v17.2.2.2.2.2.2.2.2.2.2.1, aI E a_t_draft_kindOf 6 v17.2.2.2.2.2.2.2.2.2.2.2.1, aI E a_t_draft_likings 24 v17.2.2.2.2.2.2.2.2.2.2.2.2.1, aI E a_t_draft_lists 4 v17.2.2.2.2.2.2.2.2.2.2.2.2.2, oX8 a_t_tape a_t_tape_bytes c_t_tape_length, aI E a_t_tape_bytes 160 r_t_tape_bytes]) (st1 := [.int v17.1]) C mv_X9_47 (k_X9_readLine E a_t a_t_draft a_t_draft_comes a_t_draft_goes a_t_draft_kindOf a_t_draft_likings a_t_draft_lists a_t_tape a_t_tape_bytes y4 y5 y6 y7 y8 y9 y10 y11 v1.2.2 y12 y13 y14 y15 y16 c_t_tape_length r_t_tape_bytes v17 hv17) [0, 1, 2, 3, 4, 5, 6, 7, 8] rfl (by decide +kernel) rfl [some 0, some 1, some 2, some 3, some 4, some 5, some 6, some 7, some 8] 9 (by decide +kernel) rfl rfl 0 rfl rfl ⟨by decide, by decide⟩ ⟨rfl, rfl⟩ ⟨Nat.zero_le _, Nat.zero_le _⟩ rfl rfl rfl (Nat.le_of_ble_eq_true rfl) dX9_readAll_39 ?_
        refine b_if_ne (pc := 42) 53 C dX9_readAll_42 (by decide) h (fun _ h => ?_) (fun _ h => ?_)
        · refine g_iinc (pc := 53) (v := y3 + 1) (lv' := [(1, .int (y3 + 1)), (0, .ref a_t)]) C dX9_readAll_53 1 rfl rfl (by decide) rfl ?_
          refine g_aload_n (pc := 56) C dX9_readAll_56 1 rfl ?_
          obtain ⟨v18, hv18, h⟩ := o_bnd h
          refine g_callV (pc := 57) (ws' := [oX9 a_t a_t_tape a_t_draft v17.2.1 v17.2.2.1 v18.1 v18.2.1 v18.2.2.1 v18.2.2.2, oX1 a_t_draft v17.2.2.2.2.2.2.2.1 v17.2.2.2.2.2.2.2.2.1 v1.2.2 a_t_draft_lists a_t_draft_kindOf a_t_draft_goes a_t_draft_comes a_t_draft_likings, aI E a_t_draft_comes 6 v17.2.2.2.2.2.2.2.2.2.1, aI E a_t_draft_goes 6 v17.2.2.2.2.2.2.2.2.2.2.1, aI E a_t_draft_kindOf 6 v17.2.2.2.2.2.2.2.2.2.2.2.1, aI E a_t_draft_likings 24 v17.2.2.2.2.2.2.2.2.2.2.2.2.1, aI E a_t_draft_lists 4 v17.2.2.2.2.2.2.2.2.2.2.2.2.2, oX8 a_t_tape a_t_tape_bytes c_t_tape_length, aI E a_t_tape_bytes 160 r_t_tape_bytes]) (st1 := []) C mv_X9_44 (k_X9_readToken E a_t a_t_tape a_t_tape_bytes a_t_draft v17.2.1 v17.2.2.1 v17.2.2.2.1 v17.2.2.2.2.1 v17.2.2.2.2.2.1 v17.2.2.2.2.2.2.1 c_t_tape_length r_t_tape_bytes v18 hv18) [0, 7, 8] rfl (by decide +kernel) rfl [some 0, none, none, none, none, none, none, some 1, some 2] 9 (by decide +kernel) rfl rfl 0 rfl rfl ⟨by decide, by decide⟩ ⟨rfl, rfl⟩ ⟨Nat.zero_le _, Nat.zero_le _⟩ rfl rfl rfl (Nat.le_of_ble_eq_true rfl) dX9_readAll_57 ?_
          refine g_goto (pc := 60) 23 C dX9_readAll_60 (by decide) ?_
          refine g_lv [1, 0] (lv' := [(0, .ref a_t), (1, .int (y3 + 1))]) rfl ?_
          exact ih _ _ _ _ _ _ _ _ _ _ _ _ _ _ _ h kr kx
        · refine g_bipush (pc := 45) (v := (-10)) C dX9_readAll_45 (by decide) ?_
          refine g_aload_n (pc := 47) C dX9_readAll_47 0 rfl ?_
          refine g_get (pc := 48) 0 C fl_X9_22 rfl rfl dX9_readAll_48 ?_
          refine g_isub (pc := 51) C dX9_readAll_51 ?_
          obtain rfl := Option.some.inj h
          exact g_iret (pc := 52) C (kr _ rfl) dX9_readAll_52
set_option maxHeartbeats 4000000 in
set_option maxRecDepth 100000 in
theorem k_X9_readAll (E : Ev) (a_t a_t_draft a_t_draft_comes a_t_draft_goes a_t_draft_kindOf a_t_draft_likings a_t_draft_lists a_t_tape a_t_tape_bytes : Nat) (c_t_fault : Int32) (c_t_faultPlace : Int32) (c_t_place : Int32) (c_t_behind : Int32) (c_t_sort : Int32) (c_t_value : Int32) (c_t_draft_houses : Int32) (c_t_draft_comers : Int32) (c_t_draft_evening : Int32) (r_t_draft_comes : (Nat → Int32)) (r_t_draft_goes : (Nat → Int32)) (r_t_draft_kindOf : (Nat → Int32)) (r_t_draft_likings : (Nat → Int32)) (r_t_draft_lists : (Nat → Int32)) (c_t_tape_length : Int32) (r_t_tape_bytes : (Nat → Int32)) (v : Int32 × Int32 × Int32 × Int32 × Int32 × Int32 × Int32 × Int32 × Int32 × Int32 × (Nat → Int32) × (Nat → Int32) × (Nat → Int32) × (Nat → Int32) × (Nat → Int32)) (h : f_X9_readAll c_t_fault c_t_faultPlace c_t_place c_t_behind c_t_sort c_t_value c_t_draft_houses c_t_draft_comers c_t_draft_evening r_t_draft_comes r_t_draft_goes r_t_draft_kindOf r_t_draft_likings r_t_draft_lists c_t_tape_length r_t_tape_bytes = some v) : Mt E yX9_readAll cX9_readAll 2 (some .int) rm_X9_readAll [.ref a_t] [oX9 a_t a_t_tape a_t_draft c_t_fault c_t_faultPlace c_t_place c_t_behind c_t_sort c_t_value, oX1 a_t_draft c_t_draft_houses c_t_draft_comers c_t_draft_evening a_t_draft_lists a_t_draft_kindOf a_t_draft_goes a_t_draft_comes a_t_draft_likings, aI E a_t_draft_comes 6 r_t_draft_comes, aI E a_t_draft_goes 6 r_t_draft_goes, aI E a_t_draft_kindOf 6 r_t_draft_kindOf, aI E a_t_draft_likings 24 r_t_draft_likings, aI E a_t_draft_lists 4 r_t_draft_lists, oX8 a_t_tape a_t_tape_bytes c_t_tape_length, aI E a_t_tape_bytes 160 r_t_tape_bytes] [oX9 a_t a_t_tape a_t_draft v.2.1 v.2.2.1 v.2.2.2.1 v.2.2.2.2.1 v.2.2.2.2.2.1 v.2.2.2.2.2.2.1, oX1 a_t_draft v.2.2.2.2.2.2.2.1 v.2.2.2.2.2.2.2.2.1 v.2.2.2.2.2.2.2.2.2.1 a_t_draft_lists a_t_draft_kindOf a_t_draft_goes a_t_draft_comes a_t_draft_likings, aI E a_t_draft_comes 6 v.2.2.2.2.2.2.2.2.2.2.1, aI E a_t_draft_goes 6 v.2.2.2.2.2.2.2.2.2.2.2.1, aI E a_t_draft_kindOf 6 v.2.2.2.2.2.2.2.2.2.2.2.2.1, aI E a_t_draft_likings 24 v.2.2.2.2.2.2.2.2.2.2.2.2.2.1, aI E a_t_draft_lists 4 v.2.2.2.2.2.2.2.2.2.2.2.2.2.2, oX8 a_t_tape a_t_tape_bytes c_t_tape_length, aI E a_t_tape_bytes 160 r_t_tape_bytes] (some (.int v.1)) := by
  refine Mt.intro (lv := [(0, .ref a_t)]) (by decide +kernel) (Nat.le_of_ble_eq_true rfl) rfl (fun X C K => ?_)
  have C : CX E X cX9_readAll RX9 2 rm_X9_readAll := C
  rw [f_X9_readAll] at h
  refine g_aload_n (pc := 0) C dX9_readAll_0 0 rfl ?_
  refine g_get (pc := 1) 0 C fl_X9_12 rfl rfl dX9_readAll_1 ?_
  obtain ⟨v1, hv1, h⟩ := o_bnd h
  refine g_callV (pc := 4) (ws' := [oX9 a_t a_t_tape a_t_draft c_t_fault c_t_faultPlace c_t_place c_t_behind c_t_sort c_t_value, oX1 a_t_draft v1.1 v1.2.1 v1.2.2 a_t_draft_lists a_t_draft_kindOf a_t_draft_goes a_t_draft_comes a_t_draft_likings, aI E a_t_draft_comes 6 r_t_draft_comes, aI E a_t_draft_goes 6 r_t_draft_goes, aI E a_t_draft_kindOf 6 r_t_draft_kindOf, aI E a_t_draft_likings 24 r_t_draft_likings, aI E a_t_draft_lists 4 r_t_draft_lists, oX8 a_t_tape a_t_tape_bytes c_t_tape_length, aI E a_t_tape_bytes 160 r_t_tape_bytes]) (st1 := []) C mv_X9_41 (k_X1_clear E a_t_draft a_t_draft_lists a_t_draft_kindOf a_t_draft_goes a_t_draft_comes a_t_draft_likings c_t_draft_houses c_t_draft_comers c_t_draft_evening v1 hv1) [1] rfl (by decide +kernel) rfl [none, some 0, none, none, none, none, none, none, none] 9 (by decide +kernel) rfl rfl 0 rfl rfl ⟨by decide, by decide⟩ ⟨rfl, rfl⟩ ⟨Nat.zero_le _, Nat.zero_le _⟩ rfl rfl rfl (Nat.le_of_ble_eq_true rfl) dX9_readAll_4 ?_
  refine g_aload_n (pc := 7) C dX9_readAll_7 0 rfl ?_
  refine g_iconst (pc := 8) (v := 0) C dX9_readAll_8 (by decide) ?_
  refine g_put (pc := 9) (ws' := [oX9 a_t a_t_tape a_t_draft 0 c_t_faultPlace c_t_place c_t_behind c_t_sort c_t_value, oX1 a_t_draft v1.1 v1.2.1 v1.2.2 a_t_draft_lists a_t_draft_kindOf a_t_draft_goes a_t_draft_comes a_t_draft_likings, aI E a_t_draft_comes 6 r_t_draft_comes, aI E a_t_draft_goes 6 r_t_draft_goes, aI E a_t_draft_kindOf 6 r_t_draft_kindOf, aI E a_t_draft_likings 24 r_t_draft_likings, aI E a_t_draft_lists 4 r_t_draft_lists, oX8 a_t_tape a_t_tape_bytes c_t_tape_length, aI E a_t_tape_bytes 160 r_t_tape_bytes]) 0 C fp_X9_18 rfl rfl rfl (Nat.le_of_ble_eq_true rfl) rfl dX9_readAll_9 ?_
  refine g_aload_n (pc := 12) C dX9_readAll_12 0 rfl ?_
  refine g_iconst (pc := 13) (v := 0) C dX9_readAll_13 (by decide) ?_
  refine g_put (pc := 14) (ws' := [oX9 a_t a_t_tape a_t_draft 0 c_t_faultPlace c_t_place 0 c_t_sort c_t_value, oX1 a_t_draft v1.1 v1.2.1 v1.2.2 a_t_draft_lists a_t_draft_kindOf a_t_draft_goes a_t_draft_comes a_t_draft_likings, aI E a_t_draft_comes 6 r_t_draft_comes, aI E a_t_draft_goes 6 r_t_draft_goes, aI E a_t_draft_kindOf 6 r_t_draft_kindOf, aI E a_t_draft_likings 24 r_t_draft_likings, aI E a_t_draft_lists 4 r_t_draft_lists, oX8 a_t_tape a_t_tape_bytes c_t_tape_length, aI E a_t_tape_bytes 160 r_t_tape_bytes]) 0 C fp_X9_28 rfl rfl rfl (Nat.le_of_ble_eq_true rfl) rfl dX9_readAll_14 ?_
  refine g_iconst (pc := 17) (v := 0) C dX9_readAll_17 (by decide) ?_
  refine g_istore_n (pc := 18) (lv' := [(1, .int 0), (0, .ref a_t)]) C dX9_readAll_18 (by decide) rfl ?_
  refine g_aload_n (pc := 19) C dX9_readAll_19 1 rfl ?_
  obtain ⟨v2, hv2, h⟩ := o_bnd h
  refine g_callV (pc := 20) (ws' := [oX9 a_t a_t_tape a_t_draft 0 c_t_faultPlace v2.1 v2.2.1 v2.2.2.1 v2.2.2.2, oX1 a_t_draft v1.1 v1.2.1 v1.2.2 a_t_draft_lists a_t_draft_kindOf a_t_draft_goes a_t_draft_comes a_t_draft_likings, aI E a_t_draft_comes 6 r_t_draft_comes, aI E a_t_draft_goes 6 r_t_draft_goes, aI E a_t_draft_kindOf 6 r_t_draft_kindOf, aI E a_t_draft_likings 24 r_t_draft_likings, aI E a_t_draft_lists 4 r_t_draft_lists, oX8 a_t_tape a_t_tape_bytes c_t_tape_length, aI E a_t_tape_bytes 160 r_t_tape_bytes]) (st1 := []) C mv_X9_44 (k_X9_readToken E a_t a_t_tape a_t_tape_bytes a_t_draft 0 c_t_faultPlace c_t_place 0 c_t_sort c_t_value c_t_tape_length r_t_tape_bytes v2 hv2) [0, 7, 8] rfl (by decide +kernel) rfl [some 0, none, none, none, none, none, none, some 1, some 2] 9 (by decide +kernel) rfl rfl 0 rfl rfl ⟨by decide, by decide⟩ ⟨rfl, rfl⟩ ⟨Nat.zero_le _, Nat.zero_le _⟩ rfl rfl rfl (Nat.le_of_ble_eq_true rfl) dX9_readAll_20 ?_
  rcases o_sel h with ⟨w23, hw23, h⟩ | ⟨v20, hv20, h⟩
  · obtain rfl := Option.some.inj h
    refine g_lv [1, 0] (lv' := [(0, .ref a_t), (1, .int 0)]) rfl ?_
    exact lp_X9_readAll_23 c_t_tape_length r_t_tape_bytes v1 C 400 _ _ _ _ _ _ _ _ _ _ _ _ _ _ _ hw23 (fun _ e => by cases e; exact K) (fun _ e => by cases e)
  · refine g_lv [1, 0] (lv' := [(0, .ref a_t), (1, .int 0)]) rfl ?_
    refine lp_X9_readAll_23 c_t_tape_length r_t_tape_bytes v1 C 400 _ _ _ _ _ _ _ _ _ _ _ _ _ _ _ hv20 (fun _ e => by cases e) (fun _ e => ?_)
    cases e
    refine g_aload_n (pc := 63) C dX9_readAll_63 0 rfl ?_
    refine g_get (pc := 64) 0 C fl_X9_12 rfl rfl dX9_readAll_64 ?_
    obtain ⟨v21, hv21, h⟩ := o_bnd h
    refine g_callV (pc := 67) (ws' := [oX9 a_t a_t_tape a_t_draft v20.2.1 v20.2.2.1 v20.2.2.2.1 v20.2.2.2.2.1 v20.2.2.2.2.2.1 v20.2.2.2.2.2.2.1, oX1 a_t_draft v20.2.2.2.2.2.2.2.1 v20.2.2.2.2.2.2.2.2.1 v1.2.2 a_t_draft_lists a_t_draft_kindOf a_t_draft_goes a_t_draft_comes a_t_draft_likings, aI E a_t_draft_comes 6 v20.2.2.2.2.2.2.2.2.2.1, aI E a_t_draft_goes 6 v20.2.2.2.2.2.2.2.2.2.2.1, aI E a_t_draft_kindOf 6 v20.2.2.2.2.2.2.2.2.2.2.2.1, aI E a_t_draft_likings 24 v20.2.2.2.2.2.2.2.2.2.2.2.2.1, aI E a_t_draft_lists 4 v20.2.2.2.2.2.2.2.2.2.2.2.2.2, oX8 a_t_tape a_t_tape_bytes c_t_tape_length, aI E a_t_tape_bytes 160 r_t_tape_bytes]) (st1 := [.int v21]) C mv_X9_51 (k_X1_namesOnlyWhatThereIs E a_t_draft a_t_draft_goes a_t_draft_lists a_t_draft_kindOf a_t_draft_comes a_t_draft_likings v20.2.2.2.2.2.2.2.1 v20.2.2.2.2.2.2.2.2.1 v1.2.2 v20.2.2.2.2.2.2.2.2.2.2.1 v20.2.2.2.2.2.2.2.2.2.2.2.2.2 v21 hv21) [1, 3, 6] rfl (by decide +kernel) rfl [none, some 0, none, some 1, none, none, some 2, none, none] 9 (by decide +kernel) rfl rfl 0 rfl rfl ⟨by decide, by decide⟩ ⟨rfl, rfl⟩ ⟨Nat.zero_le _, Nat.zero_le _⟩ rfl rfl rfl (Nat.le_of_ble_eq_true rfl) dX9_readAll_67 ?_
    refine b_if_ne (pc := 70) 95 C dX9_readAll_70 (by decide) h (fun _ h => ?_) (fun _ h => ?_)
    · refine g_iload_n (pc := 95) C dX9_readAll_95 1 rfl ?_
      obtain rfl := Option.some.inj h
      exact g_iret (pc := 96) C K dX9_readAll_96
    · refine g_aload_n (pc := 73) C dX9_readAll_73 0 rfl ?_
      refine g_bipush (pc := 74) (v := 6) C dX9_readAll_74 (by decide) ?_
      refine g_aload_n (pc := 76) C dX9_readAll_76 0 rfl ?_
      refine g_get (pc := 77) 0 C fl_X9_37 rfl rfl dX9_readAll_77 ?_
      refine g_get (pc := 80) 7 C fl_X9_54 rfl rfl dX9_readAll_80 ?_
      obtain ⟨v22, hv22, h⟩ := o_bnd h
      refine g_callV (pc := 83) (ws' := [oX9 a_t a_t_tape a_t_draft v22.2.1 v22.2.2 v20.2.2.2.1 v20.2.2.2.2.1 v20.2.2.2.2.2.1 v20.2.2.2.2.2.2.1, oX1 a_t_draft v20.2.2.2.2.2.2.2.1 v20.2.2.2.2.2.2.2.2.1 v1.2.2 a_t_draft_lists a_t_draft_kindOf a_t_draft_goes a_t_draft_comes a_t_draft_likings, aI E a_t_draft_comes 6 v20.2.2.2.2.2.2.2.2.2.1, aI E a_t_draft_goes 6 v20.2.2.2.2.2.2.2.2.2.2.1, aI E a_t_draft_kindOf 6 v20.2.2.2.2.2.2.2.2.2.2.2.1, aI E a_t_draft_likings 24 v20.2.2.2.2.2.2.2.2.2.2.2.2.1, aI E a_t_draft_lists 4 v20.2.2.2.2.2.2.2.2.2.2.2.2.2, oX8 a_t_tape a_t_tape_bytes c_t_tape_length, aI E a_t_tape_bytes 160 r_t_tape_bytes]) (st1 := [.int v22.1]) C mv_X9_59 (k_X9_fail E a_t a_t_tape a_t_draft v20.2.1 v20.2.2.1 v20.2.2.2.1 v20.2.2.2.2.1 v20.2.2.2.2.2.1 v20.2.2.2.2.2.2.1 6 c_t_tape_length v22 hv22) [0] rfl (by decide +kernel) rfl [some 0, none, none, none, none, none, none, none, none] 9 (by decide +kernel) rfl rfl 0 rfl rfl ⟨by decide, by decide⟩ ⟨rfl, rfl⟩ ⟨Nat.zero_le _, Nat.zero_le _⟩ rfl rfl rfl (Nat.le_of_ble_eq_true rfl) dX9_readAll_83 ?_
      refine g_pop (pc := 86) C dX9_readAll_86 rfl ?_
      refine g_bipush (pc := 87) (v := (-10)) C dX9_readAll_87 (by decide) ?_
      refine g_aload_n (pc := 89) C dX9_readAll_89 0 rfl ?_
      refine g_get (pc := 90) 0 C fl_X9_22 rfl rfl dX9_readAll_90 ?_
      refine g_isub (pc := 93) C dX9_readAll_93 ?_
      obtain rfl := Option.some.inj h
      exact g_iret (pc := 94) C K dX9_readAll_94
