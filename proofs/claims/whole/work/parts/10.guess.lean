theorem dX3_foretell_0 : decode cX3_foretell 0 = .ok (.iconst 0, 1) := by decide +kernel
theorem dX3_foretell_1 : decode cX3_foretell 1 = .ok (.istore_n 3, 1) := by decide +kernel
theorem dX3_foretell_2 : decode cX3_foretell 2 = .ok (.iload_n 3, 1) := by decide +kernel
theorem dX3_foretell_3 : decode cX3_foretell 3 = .ok (.iload_n 2, 1) := by decide +kernel
theorem dX3_foretell_4 : decode cX3_foretell 4 = .ok (.if_icmp .ge 68, 3) := by decide +kernel
theorem dX3_foretell_7 : decode cX3_foretell 7 = .ok (.aload_n 0, 1) := by decide +kernel
theorem dX3_foretell_8 : decode cX3_foretell 8 = .ok (.getfield 31, 3) := by decide +kernel
theorem dX3_foretell_11 : decode cX3_foretell 11 = .ok (.getfield 83, 3) := by decide +kernel
theorem dX3_foretell_14 : decode cX3_foretell 14 = .ok (.aload_n 0, 1) := by decide +kernel
theorem dX3_foretell_15 : decode cX3_foretell 15 = .ok (.getfield 31, 3) := by decide +kernel
theorem dX3_foretell_18 : decode cX3_foretell 18 = .ok (.getfield 87, 3) := by decide +kernel
theorem dX3_foretell_21 : decode cX3_foretell 21 = .ok (.invokevirtual 90, 3) := by decide +kernel
theorem dX3_foretell_24 : decode cX3_foretell 24 = .ok (.iconst 0, 1) := by decide +kernel
theorem dX3_foretell_25 : decode cX3_foretell 25 = .ok (.istore 4, 2) := by decide +kernel
theorem dX3_foretell_27 : decode cX3_foretell 27 = .ok (.iload 4, 2) := by decide +kernel
theorem dX3_foretell_29 : decode cX3_foretell 29 = .ok (.aload_n 0, 1) := by decide +kernel
theorem dX3_foretell_30 : decode cX3_foretell 30 = .ok (.getfield 23, 3) := by decide +kernel
theorem dX3_foretell_33 : decode cX3_foretell 33 = .ok (.getfield 71, 3) := by decide +kernel
theorem dX3_foretell_36 : decode cX3_foretell 36 = .ok (.if_icmp .ge 30, 3) := by decide +kernel
theorem dX3_foretell_39 : decode cX3_foretell 39 = .ok (.aload_n 1, 1) := by decide +kernel
theorem dX3_foretell_40 : decode cX3_foretell 40 = .ok (.iload_n 3, 1) := by decide +kernel
theorem dX3_foretell_41 : decode cX3_foretell 41 = .ok (.iconst 4, 1) := by decide +kernel
theorem dX3_foretell_42 : decode cX3_foretell 42 = .ok (.imul, 1) := by decide +kernel
theorem dX3_foretell_43 : decode cX3_foretell 43 = .ok (.iload 4, 2) := by decide +kernel
theorem dX3_foretell_45 : decode cX3_foretell 45 = .ok (.iadd, 1) := by decide +kernel
theorem dX3_foretell_46 : decode cX3_foretell 46 = .ok (.aload_n 0, 1) := by decide +kernel
theorem dX3_foretell_47 : decode cX3_foretell 47 = .ok (.getfield 31, 3) := by decide +kernel
theorem dX3_foretell_50 : decode cX3_foretell 50 = .ok (.getfield 83, 3) := by decide +kernel
theorem dX3_foretell_53 : decode cX3_foretell 53 = .ok (.getfield 96, 3) := by decide +kernel
theorem dX3_foretell_56 : decode cX3_foretell 56 = .ok (.iload 4, 2) := by decide +kernel
theorem dX3_foretell_58 : decode cX3_foretell 58 = .ok (.iaload, 1) := by decide +kernel
theorem dX3_foretell_59 : decode cX3_foretell 59 = .ok (.iastore, 1) := by decide +kernel
theorem dX3_foretell_60 : decode cX3_foretell 60 = .ok (.iinc 4 1, 3) := by decide +kernel
theorem dX3_foretell_63 : decode cX3_foretell 63 = .ok (.goto (-36), 3) := by decide +kernel
theorem dX3_foretell_66 : decode cX3_foretell 66 = .ok (.iinc 3 1, 3) := by decide +kernel
theorem dX3_foretell_69 : decode cX3_foretell 69 = .ok (.goto (-67), 3) := by decide +kernel
theorem dX3_foretell_72 : decode cX3_foretell 72 = .ok (.return_, 1) := by decide +kernel
def L_X3_foretell_27 (c_t_now_houses : Int32) (y1 : Int32) (v9 : (Int32 × Int32 × (Nat → Int32) × (Nat → Int32) × Int32 × (Nat → Int32))) : Nat → Int32 → (Nat → Int32) → Option ((Nat → Int32))
  | 0, _, _ => none
  | n + 1, y10, y11 =>
    if c_t_now_houses ≤ y10 then
      (some y11)
    else
      (if inb y10 4 then
        (if inb ((y1 * 4) + y10) 40 then
          (L_X3_foretell_27 c_t_now_houses y1 v9 n (y10 + 1) (upd y11 (ix ((y1 * 4) + y10)) (v9.2.2.1 (ix y10))))
        else none)
      else none)
def L_X3_foretell_2 (c_t_now_houses : Int32) (c_t_trial_county_houses : Int32) (c_t_trial_county_comers : Int32) (r_t_trial_county_comes : (Nat → Int32)) (r_t_trial_county_goes : (Nat → Int32)) (r_t_trial_county_kindOf : (Nat → Int32)) (r_t_trial_county_lists : (Nat → Int32)) (x2 : Int32) : Nat → Int32 → Int32 → (Nat → Int32) → Int32 → Int32 → (Nat → Int32) → (Nat → Int32) → (Nat → Int32) → Option (Int32 × (Nat → Int32) × Int32 × Int32 × (Nat → Int32) × (Nat → Int32) × (Nat → Int32))
  | 0, _, _, _, _, _, _, _, _ => none
  | n + 1, y1, y2, y3, y4, y5, y6, y7, y8 =>
    if x2 ≤ y1 then
      (some ((y2, y3, y4, y5, y6, y7, y8)))
    else
      ((f_X2_hold y4 y5 y6 y7 c_t_trial_county_houses c_t_trial_county_comers y2 r_t_trial_county_comes r_t_trial_county_goes r_t_trial_county_kindOf y3 r_t_trial_county_lists).bind (fun (v9 : Int32 × Int32 × (Nat → Int32) × (Nat → Int32) × Int32 × (Nat → Int32)) =>
        (L_X3_foretell_27 c_t_now_houses y1 v9 400 0 y8).bind (fun (v13 : (Nat → Int32)) =>
          L_X3_foretell_2 c_t_now_houses c_t_trial_county_houses c_t_trial_county_comers r_t_trial_county_comes r_t_trial_county_goes r_t_trial_county_kindOf r_t_trial_county_lists x2 n (y1 + 1) v9.2.2.2.2.1 v9.2.2.2.2.2 v9.1 v9.2.1 v9.2.2.1 v9.2.2.2.1 v13)))
def f_X3_foretell (c_t_now_houses : Int32) (c_t_trial_county_houses : Int32) (c_t_trial_county_comers : Int32) (c_t_trial_county_evening : Int32) (r_t_trial_county_comes : (Nat → Int32)) (r_t_trial_county_goes : (Nat → Int32)) (r_t_trial_county_kindOf : (Nat → Int32)) (r_t_trial_county_likings : (Nat → Int32)) (r_t_trial_county_lists : (Nat → Int32)) (c_t_trial_evening_begun : Int32) (c_t_trial_evening_waited : Int32) (r_t_trial_evening_hours : (Nat → Int32)) (r_t_trial_evening_openers : (Nat → Int32)) (r_p0 : (Nat → Int32)) (x2 : Int32) : Option (Int32 × (Nat → Int32) × Int32 × Int32 × (Nat → Int32) × (Nat → Int32) × (Nat → Int32)) :=
  (L_X3_foretell_2 c_t_now_houses c_t_trial_county_houses c_t_trial_county_comers r_t_trial_county_comes r_t_trial_county_goes r_t_trial_county_kindOf r_t_trial_county_lists x2 400 0 c_t_trial_county_evening r_t_trial_county_likings c_t_trial_evening_begun c_t_trial_evening_waited r_t_trial_evening_hours r_t_trial_evening_openers r_p0).bind (fun (v15 : Int32 × (Nat → Int32) × Int32 × Int32 × (Nat → Int32) × (Nat → Int32) × (Nat → Int32)) =>
    some ((v15.1, v15.2.1, v15.2.2.1, v15.2.2.2.1, v15.2.2.2.2.1, v15.2.2.2.2.2.1, v15.2.2.2.2.2.2)))
abbrev rm_X3_foretell : Room := { frames := 4, cells := 0, slots := 0, locals := 98 }
set_option maxHeartbeats 4000000 in
set_option maxRecDepth 100000 in
theorem lp_X3_foretell_27 {E : Ev} {X : Cx} {a_t a_t_now a_t_trial a_t_trial_county a_t_trial_county_comes a_t_trial_county_goes a_t_trial_county_kindOf a_t_trial_county_likings a_t_trial_county_lists a_t_trial_evening a_t_trial_evening_hours a_t_trial_evening_openers a_p0 a_t_seen a_t_foretold a_t_now_lists a_t_now_kindOf a_t_now_goes a_t_now_comes a_t_now_likings : Nat} (c_t_question : Int32) (c_t_leftAtWorst : Int32) (c_t_now_houses : Int32) (c_t_now_comers : Int32) (c_t_now_evening : Int32) (c_t_trial_evenings : Int32) (c_t_trial_waited : Int32) (c_t_trial_firstFast : Int32) (c_t_trial_county_houses : Int32) (c_t_trial_county_comers : Int32) (r_t_trial_county_comes : (Nat → Int32)) (r_t_trial_county_goes : (Nat → Int32)) (r_t_trial_county_kindOf : (Nat → Int32)) (r_t_trial_county_lists : (Nat → Int32)) (x2 : Int32) (y1 : Int32) (v9 : (Int32 × Int32 × (Nat → Int32) × (Nat → Int32) × Int32 × (Nat → Int32))) (C : CX E X cX3_foretell RX3 5 rm_X3_foretell) : ∀ (n : Nat) (y10 : Int32) (y11 : (Nat → Int32)) (v : (Nat → Int32)), L_X3_foretell_27 c_t_now_houses y1 v9 n y10 y11 = some v → G E X 0 0 [oX3 a_t a_t_now a_t_seen a_t_trial a_t_foretold c_t_question c_t_leftAtWorst, oX1 a_t_now c_t_now_houses c_t_now_comers c_t_now_evening a_t_now_lists a_t_now_kindOf a_t_now_goes a_t_now_comes a_t_now_likings, oX10 a_t_trial a_t_now a_t_trial_county a_t_trial_evening c_t_trial_evenings c_t_trial_waited c_t_trial_firstFast, oX1 a_t_trial_county c_t_trial_county_houses c_t_trial_county_comers v9.2.2.2.2.1 a_t_trial_county_lists a_t_trial_county_kindOf a_t_trial_county_goes a_t_trial_county_comes a_t_trial_county_likings, aI E a_t_trial_county_comes 6 r_t_trial_county_comes, aI E a_t_trial_county_goes 6 r_t_trial_county_goes, aI E a_t_trial_county_kindOf 6 r_t_trial_county_kindOf, aI E a_t_trial_county_likings 24 v9.2.2.2.2.2, aI E a_t_trial_county_lists 4 r_t_trial_county_lists, oX2 a_t_trial_evening a_t_trial_evening_hours a_t_trial_evening_openers v9.1 v9.2.1, aI E a_t_trial_evening_hours 4 v9.2.2.1, aI E a_t_trial_evening_openers 4 v9.2.2.2.1, aI E a_p0 40 v] [(0, .ref a_t), (1, .ref a_p0), (2, .int x2), (3, .int y1)] 66 [] → G E X 0 0 [oX3 a_t a_t_now a_t_seen a_t_trial a_t_foretold c_t_question c_t_leftAtWorst, oX1 a_t_now c_t_now_houses c_t_now_comers c_t_now_evening a_t_now_lists a_t_now_kindOf a_t_now_goes a_t_now_comes a_t_now_likings, oX10 a_t_trial a_t_now a_t_trial_county a_t_trial_evening c_t_trial_evenings c_t_trial_waited c_t_trial_firstFast, oX1 a_t_trial_county c_t_trial_county_houses c_t_trial_county_comers v9.2.2.2.2.1 a_t_trial_county_lists a_t_trial_county_kindOf a_t_trial_county_goes a_t_trial_county_comes a_t_trial_county_likings, aI E a_t_trial_county_comes 6 r_t_trial_county_comes, aI E a_t_trial_county_goes 6 r_t_trial_county_goes, aI E a_t_trial_county_kindOf 6 r_t_trial_county_kindOf, aI E a_t_trial_county_likings 24 v9.2.2.2.2.2, aI E a_t_trial_county_lists 4 r_t_trial_county_lists, oX2 a_t_trial_evening a_t_trial_evening_hours a_t_trial_evening_openers v9.1 v9.2.1, aI E a_t_trial_evening_hours 4 v9.2.2.1, aI E a_t_trial_evening_openers 4 v9.2.2.2.1, aI E a_p0 40 y11] [(0, .ref a_t), (1, .ref a_p0), (2, .int x2), (3, .int y1), (4, .int y10)] 27 [] := by
  intro n
  induction n with
  | zero => intro _ _ _ h; cases h
  | succ n ih =>
    intro y10 y11 v h kk
    rw [L_X3_foretell_27] at h
    refine g_iload (pc := 27) C dX3_foretell_27 4 rfl ?_
    refine g_aload_n (pc := 29) C dX3_foretell_29 0 rfl ?_
    refine g_get (pc := 30) 0 C fl_X3_23 rfl rfl dX3_foretell_30 ?_
    refine g_get (pc := 33) 1 C fl_X3_71 rfl rfl dX3_foretell_33 ?_
    refine b_icmp_ge (pc := 36) 66 C dX3_foretell_36 (by decide) h (fun _ h => ?_) (fun _ h => ?_)
    · obtain rfl := Option.some.inj h
      refine g_lv [0, 1, 2, 3] (lv' := [(0, .ref a_t), (1, .ref a_p0), (2, .int x2), (3, .int y1)]) rfl ?_
      exact kk
    · refine g_aload_n (pc := 39) C dX3_foretell_39 1 rfl ?_
      refine g_iload_n (pc := 40) C dX3_foretell_40 3 rfl ?_
      refine g_iconst (pc := 41) (v := 4) C dX3_foretell_41 (by decide) ?_
      refine g_imul (pc := 42) C dX3_foretell_42 ?_
      refine g_iload (pc := 43) C dX3_foretell_43 4 rfl ?_
      refine g_iadd (pc := 45) C dX3_foretell_45 ?_
      refine g_aload_n (pc := 46) C dX3_foretell_46 0 rfl ?_
      refine g_get (pc := 47) 0 C fl_X3_31 rfl rfl dX3_foretell_47 ?_
      refine g_get (pc := 50) 2 C fl_X3_83 rfl rfl dX3_foretell_50 ?_
      refine g_get (pc := 53) 9 C fl_X3_96 rfl rfl dX3_foretell_53 ?_
      refine g_iload (pc := 56) C dX3_foretell_56 4 rfl ?_
      refine b_iald (pc := 58) 10 C rfl dX3_foretell_58 h (fun _ h => ?_)
      refine b_iast (pc := 59) (ws' := [oX3 a_t a_t_now a_t_seen a_t_trial a_t_foretold c_t_question c_t_leftAtWorst, oX1 a_t_now c_t_now_houses c_t_now_comers c_t_now_evening a_t_now_lists a_t_now_kindOf a_t_now_goes a_t_now_comes a_t_now_likings, oX10 a_t_trial a_t_now a_t_trial_county a_t_trial_evening c_t_trial_evenings c_t_trial_waited c_t_trial_firstFast, oX1 a_t_trial_county c_t_trial_county_houses c_t_trial_county_comers v9.2.2.2.2.1 a_t_trial_county_lists a_t_trial_county_kindOf a_t_trial_county_goes a_t_trial_county_comes a_t_trial_county_likings, aI E a_t_trial_county_comes 6 r_t_trial_county_comes, aI E a_t_trial_county_goes 6 r_t_trial_county_goes, aI E a_t_trial_county_kindOf 6 r_t_trial_county_kindOf, aI E a_t_trial_county_likings 24 v9.2.2.2.2.2, aI E a_t_trial_county_lists 4 r_t_trial_county_lists, oX2 a_t_trial_evening a_t_trial_evening_hours a_t_trial_evening_openers v9.1 v9.2.1, aI E a_t_trial_evening_hours 4 v9.2.2.1, aI E a_t_trial_evening_openers 4 v9.2.2.2.1, aI E a_p0 40 (upd y11 (ix ((y1 * 4) + y10)) (v9.2.2.1 (ix y10)))]) 12 C rfl rfl dX3_foretell_59 h (fun _ h => ?_)
      refine g_iinc (pc := 60) (v := y10 + 1) (lv' := [(4, .int (y10 + 1)), (0, .ref a_t), (1, .ref a_p0), (2, .int x2), (3, .int y1)]) C dX3_foretell_60 4 rfl rfl (by decide) rfl ?_
      refine g_goto (pc := 63) 27 C dX3_foretell_63 (by decide) ?_
      refine g_lv [1, 2, 3, 4, 0] (lv' := [(0, .ref a_t), (1, .ref a_p0), (2, .int x2), (3, .int y1), (4, .int (y10 + 1))]) rfl ?_
      exact ih _ _ _ h kk
set_option maxHeartbeats 4000000 in
set_option maxRecDepth 100000 in
theorem lp_X3_foretell_2 {E : Ev} {X : Cx} {a_t a_t_now a_t_trial a_t_trial_county a_t_trial_county_comes a_t_trial_county_goes a_t_trial_county_kindOf a_t_trial_county_likings a_t_trial_county_lists a_t_trial_evening a_t_trial_evening_hours a_t_trial_evening_openers a_p0 a_t_seen a_t_foretold a_t_now_lists a_t_now_kindOf a_t_now_goes a_t_now_comes a_t_now_likings : Nat} (c_t_question : Int32) (c_t_leftAtWorst : Int32) (c_t_now_houses : Int32) (c_t_now_comers : Int32) (c_t_now_evening : Int32) (c_t_trial_evenings : Int32) (c_t_trial_waited : Int32) (c_t_trial_firstFast : Int32) (c_t_trial_county_houses : Int32) (c_t_trial_county_comers : Int32) (r_t_trial_county_comes : (Nat → Int32)) (r_t_trial_county_goes : (Nat → Int32)) (r_t_trial_county_kindOf : (Nat → Int32)) (r_t_trial_county_lists : (Nat → Int32)) (x2 : Int32) (C : CX E X cX3_foretell RX3 5 rm_X3_foretell) : ∀ (n : Nat) (y1 : Int32) (y2 : Int32) (y3 : (Nat → Int32)) (y4 : Int32) (y5 : Int32) (y6 : (Nat → Int32)) (y7 : (Nat → Int32)) (y8 : (Nat → Int32)) (v : Int32 × (Nat → Int32) × Int32 × Int32 × (Nat → Int32) × (Nat → Int32) × (Nat → Int32)), L_X3_foretell_2 c_t_now_houses c_t_trial_county_houses c_t_trial_county_comers r_t_trial_county_comes r_t_trial_county_goes r_t_trial_county_kindOf r_t_trial_county_lists x2 n y1 y2 y3 y4 y5 y6 y7 y8 = some v → G E X 0 0 [oX3 a_t a_t_now a_t_seen a_t_trial a_t_foretold c_t_question c_t_leftAtWorst, oX1 a_t_now c_t_now_houses c_t_now_comers c_t_now_evening a_t_now_lists a_t_now_kindOf a_t_now_goes a_t_now_comes a_t_now_likings, oX10 a_t_trial a_t_now a_t_trial_county a_t_trial_evening c_t_trial_evenings c_t_trial_waited c_t_trial_firstFast, oX1 a_t_trial_county c_t_trial_county_houses c_t_trial_county_comers v.1 a_t_trial_county_lists a_t_trial_county_kindOf a_t_trial_county_goes a_t_trial_county_comes a_t_trial_county_likings, aI E a_t_trial_county_comes 6 r_t_trial_county_comes, aI E a_t_trial_county_goes 6 r_t_trial_county_goes, aI E a_t_trial_county_kindOf 6 r_t_trial_county_kindOf, aI E a_t_trial_county_likings 24 v.2.1, aI E a_t_trial_county_lists 4 r_t_trial_county_lists, oX2 a_t_trial_evening a_t_trial_evening_hours a_t_trial_evening_openers v.2.2.1 v.2.2.2.1, aI E a_t_trial_evening_hours 4 v.2.2.2.2.1, aI E a_t_trial_evening_openers 4 v.2.2.2.2.2.1, aI E a_p0 40 v.2.2.2.2.2.2] [] 72 [] → G E X 0 0 [oX3 a_t a_t_now a_t_seen a_t_trial a_t_foretold c_t_question c_t_leftAtWorst, oX1 a_t_now c_t_now_houses c_t_now_comers c_t_now_evening a_t_now_lists a_t_now_kindOf a_t_now_goes a_t_now_comes a_t_now_likings, oX10 a_t_trial a_t_now a_t_trial_county a_t_trial_evening c_t_trial_evenings c_t_trial_waited c_t_trial_firstFast, oX1 a_t_trial_county c_t_trial_county_houses c_t_trial_county_comers y2 a_t_trial_county_lists a_t_trial_county_kindOf a_t_trial_county_goes a_t_trial_county_comes a_t_trial_county_likings, aI E a_t_trial_county_comes 6 r_t_trial_county_comes, aI E a_t_trial_county_goes 6 r_t_trial_county_goes, aI E a_t_trial_county_kindOf 6 r_t_trial_county_kindOf, aI E a_t_trial_county_likings 24 y3, aI E a_t_trial_county_lists 4 r_t_trial_county_lists, oX2 a_t_trial_evening a_t_trial_evening_hours a_t_trial_evening_openers y4 y5, aI E a_t_trial_evening_hours 4 y6, aI E a_t_trial_evening_openers 4 y7, aI E a_p0 40 y8] [(0, .ref a_t), (1, .ref a_p0), (2, .int x2), (3, .int y1)] 2 [] := by
  intro n
  induction n with
  | zero => intro _ _ _ _ _ _ _ _ _ h; cases h
  | succ n ih =>
    intro y1 y2 y3 y4 y5 y6 y7 y8 v h kk
    rw [L_X3_foretell_2] at h
    refine g_iload_n (pc := 2) C dX3_foretell_2 3 rfl ?_
    refine g_iload_n (pc := 3) C dX3_foretell_3 2 rfl ?_
    refine b_icmp_ge (pc := 4) 72 C dX3_foretell_4 (by decide) h (fun _ h => ?_) (fun _ h => ?_)
    · obtain rfl := Option.some.inj h
      refine g_lv [] (lv' := []) rfl ?_
      exact kk
    · refine g_aload_n (pc := 7) C dX3_foretell_7 0 rfl ?_
      refine g_get (pc := 8) 0 C fl_X3_31 rfl rfl dX3_foretell_8 ?_
      refine g_get (pc := 11) 2 C fl_X3_83 rfl rfl dX3_foretell_11 ?_
      refine g_aload_n (pc := 14) C dX3_foretell_14 0 rfl ?_
      refine g_get (pc := 15) 0 C fl_X3_31 rfl rfl dX3_foretell_15 ?_
      refine g_get (pc := 18) 2 C fl_X3_87 rfl rfl dX3_foretell_18 ?_
      obtain ⟨v9, hv9, h⟩ := o_bnd h
      refine g_callV (pc := 21) (ws' := [oX3 a_t a_t_now a_t_seen a_t_trial a_t_foretold c_t_question c_t_leftAtWorst, oX1 a_t_now c_t_now_houses c_t_now_comers c_t_now_evening a_t_now_lists a_t_now_kindOf a_t_now_goes a_t_now_comes a_t_now_likings, oX10 a_t_trial a_t_now a_t_trial_county a_t_trial_evening c_t_trial_evenings c_t_trial_waited c_t_trial_firstFast, oX1 a_t_trial_county c_t_trial_county_houses c_t_trial_county_comers v9.2.2.2.2.1 a_t_trial_county_lists a_t_trial_county_kindOf a_t_trial_county_goes a_t_trial_county_comes a_t_trial_county_likings, aI E a_t_trial_county_comes 6 r_t_trial_county_comes, aI E a_t_trial_county_goes 6 r_t_trial_county_goes, aI E a_t_trial_county_kindOf 6 r_t_trial_county_kindOf, aI E a_t_trial_county_likings 24 v9.2.2.2.2.2, aI E a_t_trial_county_lists 4 r_t_trial_county_lists, oX2 a_t_trial_evening a_t_trial_evening_hours a_t_trial_evening_openers v9.1 v9.2.1, aI E a_t_trial_evening_hours 4 v9.2.2.1, aI E a_t_trial_evening_openers 4 v9.2.2.2.1, aI E a_p0 40 y8]) (st1 := []) C mv_X3_90 (k_X2_hold E a_t_trial_evening a_t_trial_evening_hours a_t_trial_evening_openers a_t_trial_county a_t_trial_county_comes a_t_trial_county_goes a_t_trial_county_kindOf a_t_trial_county_likings a_t_trial_county_lists y4 y5 y6 y7 c_t_trial_county_houses c_t_trial_county_comers y2 r_t_trial_county_comes r_t_trial_county_goes r_t_trial_county_kindOf y3 r_t_trial_county_lists v9 hv9) [9, 10, 11, 3, 4, 5, 6, 7, 8] rfl (by decide +kernel) rfl [none, none, none, some 3, some 4, some 5, some 6, some 7, some 8, some 0, some 1, some 2, none] 13 (by decide +kernel) rfl rfl 0 rfl rfl ⟨by decide, by decide⟩ ⟨rfl, rfl⟩ ⟨Nat.zero_le _, Nat.zero_le _⟩ rfl rfl rfl (Nat.le_of_ble_eq_true rfl) dX3_foretell_21 ?_
      refine g_iconst (pc := 24) (v := 0) C dX3_foretell_24 (by decide) ?_
      refine g_istore (pc := 25) (lv' := [(4, .int 0), (0, .ref a_t), (1, .ref a_p0), (2, .int x2), (3, .int y1)]) C dX3_foretell_25 (by decide) rfl ?_
      obtain ⟨v13, hv13, h⟩ := o_bnd h
      refine g_lv [1, 2, 3, 4, 0] (lv' := [(0, .ref a_t), (1, .ref a_p0), (2, .int x2), (3, .int y1), (4, .int 0)]) rfl ?_
      refine lp_X3_foretell_27 c_t_question c_t_leftAtWorst c_t_now_houses c_t_now_comers c_t_now_evening c_t_trial_evenings c_t_trial_waited c_t_trial_firstFast c_t_trial_county_houses c_t_trial_county_comers r_t_trial_county_comes r_t_trial_county_goes r_t_trial_county_kindOf r_t_trial_county_lists x2 y1 v9 C 400 _ _ _ hv13 ?_
      refine g_iinc (pc := 66) (v := y1 + 1) (lv' := [(3, .int (y1 + 1)), (0, .ref a_t), (1, .ref a_p0), (2, .int x2)]) C dX3_foretell_66 3 rfl rfl (by decide) rfl ?_
      refine g_goto (pc := 69) 2 C dX3_foretell_69 (by decide) ?_
      refine g_lv [1, 2, 3, 0] (lv' := [(0, .ref a_t), (1, .ref a_p0), (2, .int x2), (3, .int (y1 + 1))]) rfl ?_
      exact ih _ _ _ _ _ _ _ _ _ h kk
set_option maxHeartbeats 4000000 in
set_option maxRecDepth 100000 in
theorem k_X3_foretell (E : Ev) (a_t a_t_now a_t_trial a_t_trial_county a_t_trial_county_comes a_t_trial_county_goes a_t_trial_county_kindOf a_t_trial_county_likings a_t_trial_county_lists a_t_trial_evening a_t_trial_evening_hours a_t_trial_evening_openers a_p0 a_t_seen a_t_foretold a_t_now_lists a_t_now_kindOf a_t_now_goes a_t_now_comes a_t_now_likings : Nat) (c_t_question : Int32) (c_t_leftAtWorst : Int32) (c_t_now_houses : Int32) (c_t_now_comers : Int32) (c_t_now_evening : Int32) (c_t_trial_evenings : Int32) (c_t_trial_waited : Int32) (c_t_trial_firstFast : Int32) (c_t_trial_county_houses : Int32) (c_t_trial_county_comers : Int32) (c_t_trial_county_evening : Int32) (r_t_trial_county_comes : (Nat → Int32)) (r_t_trial_county_goes : (Nat → Int32)) (r_t_trial_county_kindOf : (Nat → Int32)) (r_t_trial_county_likings : (Nat → Int32)) (r_t_trial_county_lists : (Nat → Int32)) (c_t_trial_evening_begun : Int32) (c_t_trial_evening_waited : Int32) (r_t_trial_evening_hours : (Nat → Int32)) (r_t_trial_evening_openers : (Nat → Int32)) (r_p0 : (Nat → Int32)) (x2 : Int32) (v : Int32 × (Nat → Int32) × Int32 × Int32 × (Nat → Int32) × (Nat → Int32) × (Nat → Int32)) (h : f_X3_foretell c_t_now_houses c_t_trial_county_houses c_t_trial_county_comers c_t_trial_county_evening r_t_trial_county_comes r_t_trial_county_goes r_t_trial_county_kindOf r_t_trial_county_likings r_t_trial_county_lists c_t_trial_evening_begun c_t_trial_evening_waited r_t_trial_evening_hours r_t_trial_evening_openers r_p0 x2 = some v) : Mt E yX3_foretell cX3_foretell 5 none rm_X3_foretell [.ref a_t, .ref a_p0, .int x2] [oX3 a_t a_t_now a_t_seen a_t_trial a_t_foretold c_t_question c_t_leftAtWorst, oX1 a_t_now c_t_now_houses c_t_now_comers c_t_now_evening a_t_now_lists a_t_now_kindOf a_t_now_goes a_t_now_comes a_t_now_likings, oX10 a_t_trial a_t_now a_t_trial_county a_t_trial_evening c_t_trial_evenings c_t_trial_waited c_t_trial_firstFast, oX1 a_t_trial_county c_t_trial_county_houses c_t_trial_county_comers c_t_trial_county_evening a_t_trial_county_lists a_t_trial_county_kindOf a_t_trial_county_goes a_t_trial_county_comes a_t_trial_county_likings, aI E a_t_trial_county_comes 6 r_t_trial_county_comes, aI E a_t_trial_county_goes 6 r_t_trial_county_goes, aI E a_t_trial_county_kindOf 6 r_t_trial_county_kindOf, aI E a_t_trial_county_likings 24 r_t_trial_county_likings, aI E a_t_trial_county_lists 4 r_t_trial_county_lists, oX2 a_t_trial_evening a_t_trial_evening_hours a_t_trial_evening_openers c_t_trial_evening_begun c_t_trial_evening_waited, aI E a_t_trial_evening_hours 4 r_t_trial_evening_hours, aI E a_t_trial_evening_openers 4 r_t_trial_evening_openers, aI E a_p0 40 r_p0] [oX3 a_t a_t_now a_t_seen a_t_trial a_t_foretold c_t_question c_t_leftAtWorst, oX1 a_t_now c_t_now_houses c_t_now_comers c_t_now_evening a_t_now_lists a_t_now_kindOf a_t_now_goes a_t_now_comes a_t_now_likings, oX10 a_t_trial a_t_now a_t_trial_county a_t_trial_evening c_t_trial_evenings c_t_trial_waited c_t_trial_firstFast, oX1 a_t_trial_county c_t_trial_county_houses c_t_trial_county_comers v.1 a_t_trial_county_lists a_t_trial_county_kindOf a_t_trial_county_goes a_t_trial_county_comes a_t_trial_county_likings, aI E a_t_trial_county_comes 6 r_t_trial_county_comes, aI E a_t_trial_county_goes 6 r_t_trial_county_goes, aI E a_t_trial_county_kindOf 6 r_t_trial_county_kindOf, aI E a_t_trial_county_likings 24 v.2.1, aI E a_t_trial_county_lists 4 r_t_trial_county_lists, oX2 a_t_trial_evening a_t_trial_evening_hours a_t_trial_evening_openers v.2.2.1 v.2.2.2.1, aI E a_t_trial_evening_hours 4 v.2.2.2.2.1, aI E a_t_trial_evening_openers 4 v.2.2.2.2.2.1, aI E a_p0 40 v.2.2.2.2.2.2] none := by
  refine Mt.intro (lv := [(0, .ref a_t), (1, .ref a_p0), (2, .int x2)]) (by decide +kernel) (Nat.le_of_ble_eq_true rfl) rfl (fun X C K => ?_)
  have C : CX E X cX3_foretell RX3 5 rm_X3_foretell := C
  rw [f_X3_foretell] at h
  refine g_iconst (pc := 0) (v := 0) C dX3_foretell_0 (by decide) ?_
  refine g_istore_n (pc := 1) (lv' := [(3, .int 0), (0, .ref a_t), (1, .ref a_p0), (2, .int x2)]) C dX3_foretell_1 (by decide) rfl ?_
  obtain ⟨v15, hv15, h⟩ := o_bnd h
  refine g_lv [1, 2, 3, 0] (lv' := [(0, .ref a_t), (1, .ref a_p0), (2, .int x2), (3, .int 0)]) rfl ?_
  refine lp_X3_foretell_2 c_t_question c_t_leftAtWorst c_t_now_houses c_t_now_comers c_t_now_evening c_t_trial_evenings c_t_trial_waited c_t_trial_firstFast c_t_trial_county_houses c_t_trial_county_comers r_t_trial_county_comes r_t_trial_county_goes r_t_trial_county_kindOf r_t_trial_county_lists x2 C 400 _ _ _ _ _ _ _ _ _ hv15 ?_
  obtain rfl := Option.some.inj h
  exact g_vret (pc := 72) C K dX3_foretell_72
theorem dX3_kindsLeft_0 : decode cX3_kindsLeft 0 = .ok (.iconst 0, 1) := by decide +kernel
theorem dX3_kindsLeft_1 : decode cX3_kindsLeft 1 = .ok (.istore_n 3, 1) := by decide +kernel
theorem dX3_kindsLeft_2 : decode cX3_kindsLeft 2 = .ok (.iconst 0, 1) := by decide +kernel
theorem dX3_kindsLeft_3 : decode cX3_kindsLeft 3 = .ok (.istore 4, 2) := by decide +kernel
theorem dX3_kindsLeft_5 : decode cX3_kindsLeft 5 = .ok (.iload 4, 2) := by decide +kernel
theorem dX3_kindsLeft_7 : decode cX3_kindsLeft 7 = .ok (.iconst 4, 1) := by decide +kernel
theorem dX3_kindsLeft_8 : decode cX3_kindsLeft 8 = .ok (.if_icmp .ge 59, 3) := by decide +kernel
theorem dX3_kindsLeft_11 : decode cX3_kindsLeft 11 = .ok (.aload_n 0, 1) := by decide +kernel
theorem dX3_kindsLeft_12 : decode cX3_kindsLeft 12 = .ok (.getfield 31, 3) := by decide +kernel
theorem dX3_kindsLeft_15 : decode cX3_kindsLeft 15 = .ok (.invokevirtual 35, 3) := by decide +kernel
theorem dX3_kindsLeft_18 : decode cX3_kindsLeft 18 = .ok (.getfield 41, 3) := by decide +kernel
theorem dX3_kindsLeft_21 : decode cX3_kindsLeft 21 = .ok (.iload_n 1, 1) := by decide +kernel
theorem dX3_kindsLeft_22 : decode cX3_kindsLeft 22 = .ok (.iload 4, 2) := by decide +kernel
theorem dX3_kindsLeft_24 : decode cX3_kindsLeft 24 = .ok (.iastore, 1) := by decide +kernel
theorem dX3_kindsLeft_25 : decode cX3_kindsLeft 25 = .ok (.aload_n 0, 1) := by decide +kernel
theorem dX3_kindsLeft_26 : decode cX3_kindsLeft 26 = .ok (.aload_n 0, 1) := by decide +kernel
theorem dX3_kindsLeft_27 : decode cX3_kindsLeft 27 = .ok (.getfield 11, 3) := by decide +kernel
theorem dX3_kindsLeft_30 : decode cX3_kindsLeft 30 = .ok (.iload 4, 2) := by decide +kernel
theorem dX3_kindsLeft_32 : decode cX3_kindsLeft 32 = .ok (.aaload, 1) := by decide +kernel
theorem dX3_kindsLeft_33 : decode cX3_kindsLeft 33 = .ok (.iload_n 2, 1) := by decide +kernel
theorem dX3_kindsLeft_34 : decode cX3_kindsLeft 34 = .ok (.invokevirtual 47, 3) := by decide +kernel
theorem dX3_kindsLeft_37 : decode cX3_kindsLeft 37 = .ok (.aload_n 0, 1) := by decide +kernel
theorem dX3_kindsLeft_38 : decode cX3_kindsLeft 38 = .ok (.getfield 27, 3) := by decide +kernel
theorem dX3_kindsLeft_41 : decode cX3_kindsLeft 41 = .ok (.aload_n 0, 1) := by decide +kernel
theorem dX3_kindsLeft_42 : decode cX3_kindsLeft 42 = .ok (.getfield 11, 3) := by decide +kernel
theorem dX3_kindsLeft_45 : decode cX3_kindsLeft 45 = .ok (.iload 4, 2) := by decide +kernel
theorem dX3_kindsLeft_47 : decode cX3_kindsLeft 47 = .ok (.aaload, 1) := by decide +kernel
theorem dX3_kindsLeft_48 : decode cX3_kindsLeft 48 = .ok (.invokevirtual 51, 3) := by decide +kernel
theorem dX3_kindsLeft_51 : decode cX3_kindsLeft 51 = .ok (.ifCond .eq 10, 3) := by decide +kernel
theorem dX3_kindsLeft_54 : decode cX3_kindsLeft 54 = .ok (.iload_n 3, 1) := by decide +kernel
theorem dX3_kindsLeft_55 : decode cX3_kindsLeft 55 = .ok (.iconst 1, 1) := by decide +kernel
theorem dX3_kindsLeft_56 : decode cX3_kindsLeft 56 = .ok (.iload 4, 2) := by decide +kernel
theorem dX3_kindsLeft_58 : decode cX3_kindsLeft 58 = .ok (.ishl, 1) := by decide +kernel
theorem dX3_kindsLeft_59 : decode cX3_kindsLeft 59 = .ok (.ior, 1) := by decide +kernel
theorem dX3_kindsLeft_60 : decode cX3_kindsLeft 60 = .ok (.istore_n 3, 1) := by decide +kernel
theorem dX3_kindsLeft_61 : decode cX3_kindsLeft 61 = .ok (.iinc 4 1, 3) := by decide +kernel
theorem dX3_kindsLeft_64 : decode cX3_kindsLeft 64 = .ok (.goto (-59), 3) := by decide +kernel
theorem dX3_kindsLeft_67 : decode cX3_kindsLeft 67 = .ok (.iload_n 3, 1) := by decide +kernel
theorem dX3_kindsLeft_68 : decode cX3_kindsLeft 68 = .ok (.ireturn, 1) := by decide +kernel
def L_X3_kindsLeft_5 (c_t_now_houses : Int32) (c_t_now_comers : Int32) (c_t_now_evening : Int32) (r_t_now_comes : (Nat → Int32)) (r_t_now_goes : (Nat → Int32)) (r_t_now_kindOf : (Nat → Int32)) (r_t_now_likings : (Nat → Int32)) (r_t_now_lists : (Nat → Int32)) (c_t_seen_size : Int32) (r_t_seen_behind : (Nat → Int32)) (r_t_seen_hours : (Nat → Int32)) (r_t_seen_where : (Nat → Int32)) (x1 : Int32) (x2 : Int32) : Nat → Int32 → Int32 → (Nat → Int32) → (Nat → Int32) → (Nat → Int32) → (Nat → Int32) → Int32 → Int32 → Int32 → Int32 → Int32 → Int32 → (Nat → Int32) → (Nat → Int32) → (Nat → Int32) → (Nat → Int32) → (Nat → Int32) → Int32 → Int32 → (Nat → Int32) → (Nat → Int32) → Option (Int32 × (Nat → Int32) × (Nat → Int32) × (Nat → Int32) × (Nat → Int32) × Int32 × Int32 × Int32 × Int32 × Int32 × Int32 × (Nat → Int32) × (Nat → Int32) × (Nat → Int32) × (Nat → Int32) × (Nat → Int32) × Int32 × Int32 × (Nat → Int32) × (Nat → Int32))
  | 0, _, _, _, _, _, _, _, _, _, _, _, _, _, _, _, _, _, _, _, _, _ => none
  | n + 1, y1, y2, y3, y4, y5, y6, y7, y8, y9, y10, y11, y12, y13, y14, y15, y16, y17, y18, y19, y20, y21 =>
    if 4 ≤ y2 then
      (some ((y1, y3, y4, y5, y6, y7, y8, y9, y10, y11, y12, y13, y14, y15, y16, y17, y18, y19, y20, y21)))
    else
      ((f_X10_restart y7 y8 y9 y10 y11 y12 y13 y14 y15 y16 y17 c_t_now_houses c_t_now_comers c_t_now_evening r_t_now_comes r_t_now_goes r_t_now_kindOf r_t_now_likings r_t_now_lists).bind (fun (v22 : Int32 × Int32 × Int32 × Int32 × Int32 × Int32 × (Nat → Int32) × (Nat → Int32) × (Nat → Int32) × (Nat → Int32) × (Nat → Int32)) =>
        if inb x1 6 then
          ((if y2 = 0 then
            ((f_X3_foretell c_t_now_houses v22.2.2.2.1 v22.2.2.2.2.1 v22.2.2.2.2.2.1 v22.2.2.2.2.2.2.1 v22.2.2.2.2.2.2.2.1 (upd v22.2.2.2.2.2.2.2.2.1 (ix x1) y2) v22.2.2.2.2.2.2.2.2.2.1 v22.2.2.2.2.2.2.2.2.2.2 y18 y19 y20 y21 y3 x2).bind (fun (v24 : Int32 × (Nat → Int32) × Int32 × Int32 × (Nat → Int32) × (Nat → Int32) × (Nat → Int32)) =>
              (f_X7_agreeWith c_t_seen_size r_t_seen_behind r_t_seen_hours r_t_seen_where v24.2.2.2.2.2.2).bind (fun (v25 : Int32) =>
                if v25 = 0 then
                  (L_X3_kindsLeft_5 c_t_now_houses c_t_now_comers c_t_now_evening r_t_now_comes r_t_now_goes r_t_now_kindOf r_t_now_likings r_t_now_lists c_t_seen_size r_t_seen_behind r_t_seen_hours r_t_seen_where x1 x2 n y1 (y2 + 1) v24.2.2.2.2.2.2 y4 y5 y6 v22.1 v22.2.1 v22.2.2.1 v22.2.2.2.1 v22.2.2.2.2.1 v24.1 v22.2.2.2.2.2.2.1 v22.2.2.2.2.2.2.2.1 (upd v22.2.2.2.2.2.2.2.2.1 (ix x1) y2) v24.2.1 v22.2.2.2.2.2.2.2.2.2.2 v24.2.2.1 v24.2.2.2.1 v24.2.2.2.2.1 v24.2.2.2.2.2.1)
                else
                  (L_X3_kindsLeft_5 c_t_now_houses c_t_now_comers c_t_now_evening r_t_now_comes r_t_now_goes r_t_now_kindOf r_t_now_likings r_t_now_lists c_t_seen_size r_t_seen_behind r_t_seen_hours r_t_seen_where x1 x2 n (y1 ||| ((1 : Int32) <<< (y2 &&& 31))) (y2 + 1) v24.2.2.2.2.2.2 y4 y5 y6 v22.1 v22.2.1 v22.2.2.1 v22.2.2.2.1 v22.2.2.2.2.1 v24.1 v22.2.2.2.2.2.2.1 v22.2.2.2.2.2.2.2.1 (upd v22.2.2.2.2.2.2.2.2.1 (ix x1) y2) v24.2.1 v22.2.2.2.2.2.2.2.2.2.2 v24.2.2.1 v24.2.2.2.1 v24.2.2.2.2.1 v24.2.2.2.2.2.1))))
          else
            (if y2 = 1 then
              ((f_X3_foretell c_t_now_houses v22.2.2.2.1 v22.2.2.2.2.1 v22.2.2.2.2.2.1 v22.2.2.2.2.2.2.1 v22.2.2.2.2.2.2.2.1 (upd v22.2.2.2.2.2.2.2.2.1 (ix x1) y2) v22.2.2.2.2.2.2.2.2.2.1 v22.2.2.2.2.2.2.2.2.2.2 y18 y19 y20 y21 y4 x2).bind (fun (v26 : Int32 × (Nat → Int32) × Int32 × Int32 × (Nat → Int32) × (Nat → Int32) × (Nat → Int32)) =>
                (f_X7_agreeWith c_t_seen_size r_t_seen_behind r_t_seen_hours r_t_seen_where v26.2.2.2.2.2.2).bind (fun (v27 : Int32) =>
                  if v27 = 0 then
                    (L_X3_kindsLeft_5 c_t_now_houses c_t_now_comers c_t_now_evening r_t_now_comes r_t_now_goes r_t_now_kindOf r_t_now_likings r_t_now_lists c_t_seen_size r_t_seen_behind r_t_seen_hours r_t_seen_where x1 x2 n y1 (y2 + 1) y3 v26.2.2.2.2.2.2 y5 y6 v22.1 v22.2.1 v22.2.2.1 v22.2.2.2.1 v22.2.2.2.2.1 v26.1 v22.2.2.2.2.2.2.1 v22.2.2.2.2.2.2.2.1 (upd v22.2.2.2.2.2.2.2.2.1 (ix x1) y2) v26.2.1 v22.2.2.2.2.2.2.2.2.2.2 v26.2.2.1 v26.2.2.2.1 v26.2.2.2.2.1 v26.2.2.2.2.2.1)
                  else
                    (L_X3_kindsLeft_5 c_t_now_houses c_t_now_comers c_t_now_evening r_t_now_comes r_t_now_goes r_t_now_kindOf r_t_now_likings r_t_now_lists c_t_seen_size r_t_seen_behind r_t_seen_hours r_t_seen_where x1 x2 n (y1 ||| ((1 : Int32) <<< (y2 &&& 31))) (y2 + 1) y3 v26.2.2.2.2.2.2 y5 y6 v22.1 v22.2.1 v22.2.2.1 v22.2.2.2.1 v22.2.2.2.2.1 v26.1 v22.2.2.2.2.2.2.1 v22.2.2.2.2.2.2.2.1 (upd v22.2.2.2.2.2.2.2.2.1 (ix x1) y2) v26.2.1 v22.2.2.2.2.2.2.2.2.2.2 v26.2.2.1 v26.2.2.2.1 v26.2.2.2.2.1 v26.2.2.2.2.2.1))))
            else
              (if y2 = 2 then
                ((f_X3_foretell c_t_now_houses v22.2.2.2.1 v22.2.2.2.2.1 v22.2.2.2.2.2.1 v22.2.2.2.2.2.2.1 v22.2.2.2.2.2.2.2.1 (upd v22.2.2.2.2.2.2.2.2.1 (ix x1) y2) v22.2.2.2.2.2.2.2.2.2.1 v22.2.2.2.2.2.2.2.2.2.2 y18 y19 y20 y21 y5 x2).bind (fun (v28 : Int32 × (Nat → Int32) × Int32 × Int32 × (Nat → Int32) × (Nat → Int32) × (Nat → Int32)) =>
                  (f_X7_agreeWith c_t_seen_size r_t_seen_behind r_t_seen_hours r_t_seen_where v28.2.2.2.2.2.2).bind (fun (v29 : Int32) =>
                    if v29 = 0 then
                      (L_X3_kindsLeft_5 c_t_now_houses c_t_now_comers c_t_now_evening r_t_now_comes r_t_now_goes r_t_now_kindOf r_t_now_likings r_t_now_lists c_t_seen_size r_t_seen_behind r_t_seen_hours r_t_seen_where x1 x2 n y1 (y2 + 1) y3 y4 v28.2.2.2.2.2.2 y6 v22.1 v22.2.1 v22.2.2.1 v22.2.2.2.1 v22.2.2.2.2.1 v28.1 v22.2.2.2.2.2.2.1 v22.2.2.2.2.2.2.2.1 (upd v22.2.2.2.2.2.2.2.2.1 (ix x1) y2) v28.2.1 v22.2.2.2.2.2.2.2.2.2.2 v28.2.2.1 v28.2.2.2.1 v28.2.2.2.2.1 v28.2.2.2.2.2.1)
                    else
                      (L_X3_kindsLeft_5 c_t_now_houses c_t_now_comers c_t_now_evening r_t_now_comes r_t_now_goes r_t_now_kindOf r_t_now_likings r_t_now_lists c_t_seen_size r_t_seen_behind r_t_seen_hours r_t_seen_where x1 x2 n (y1 ||| ((1 : Int32) <<< (y2 &&& 31))) (y2 + 1) y3 y4 v28.2.2.2.2.2.2 y6 v22.1 v22.2.1 v22.2.2.1 v22.2.2.2.1 v22.2.2.2.2.1 v28.1 v22.2.2.2.2.2.2.1 v22.2.2.2.2.2.2.2.1 (upd v22.2.2.2.2.2.2.2.2.1 (ix x1) y2) v28.2.1 v22.2.2.2.2.2.2.2.2.2.2 v28.2.2.1 v28.2.2.2.1 v28.2.2.2.2.1 v28.2.2.2.2.2.1))))
              else
                (if y2 = 3 then
                  ((f_X3_foretell c_t_now_houses v22.2.2.2.1 v22.2.2.2.2.1 v22.2.2.2.2.2.1 v22.2.2.2.2.2.2.1 v22.2.2.2.2.2.2.2.1 (upd v22.2.2.2.2.2.2.2.2.1 (ix x1) y2) v22.2.2.2.2.2.2.2.2.2.1 v22.2.2.2.2.2.2.2.2.2.2 y18 y19 y20 y21 y6 x2).bind (fun (v30 : Int32 × (Nat → Int32) × Int32 × Int32 × (Nat → Int32) × (Nat → Int32) × (Nat → Int32)) =>
                    (f_X7_agreeWith c_t_seen_size r_t_seen_behind r_t_seen_hours r_t_seen_where v30.2.2.2.2.2.2).bind (fun (v31 : Int32) =>
                      if v31 = 0 then
                        (L_X3_kindsLeft_5 c_t_now_houses c_t_now_comers c_t_now_evening r_t_now_comes r_t_now_goes r_t_now_kindOf r_t_now_likings r_t_now_lists c_t_seen_size r_t_seen_behind r_t_seen_hours r_t_seen_where x1 x2 n y1 (y2 + 1) y3 y4 y5 v30.2.2.2.2.2.2 v22.1 v22.2.1 v22.2.2.1 v22.2.2.2.1 v22.2.2.2.2.1 v30.1 v22.2.2.2.2.2.2.1 v22.2.2.2.2.2.2.2.1 (upd v22.2.2.2.2.2.2.2.2.1 (ix x1) y2) v30.2.1 v22.2.2.2.2.2.2.2.2.2.2 v30.2.2.1 v30.2.2.2.1 v30.2.2.2.2.1 v30.2.2.2.2.2.1)
                      else
                        (L_X3_kindsLeft_5 c_t_now_houses c_t_now_comers c_t_now_evening r_t_now_comes r_t_now_goes r_t_now_kindOf r_t_now_likings r_t_now_lists c_t_seen_size r_t_seen_behind r_t_seen_hours r_t_seen_where x1 x2 n (y1 ||| ((1 : Int32) <<< (y2 &&& 31))) (y2 + 1) y3 y4 y5 v30.2.2.2.2.2.2 v22.1 v22.2.1 v22.2.2.1 v22.2.2.2.1 v22.2.2.2.2.1 v30.1 v22.2.2.2.2.2.2.1 v22.2.2.2.2.2.2.2.1 (upd v22.2.2.2.2.2.2.2.2.1 (ix x1) y2) v30.2.1 v22.2.2.2.2.2.2.2.2.2.2 v30.2.2.1 v30.2.2.2.1 v30.2.2.2.2.1 v30.2.2.2.2.2.1))))
                else
                  none)))))
        else none))
def f_X3_kindsLeft (r_t_foretold_0 : (Nat → Int32)) (r_t_foretold_1 : (Nat → Int32)) (r_t_foretold_2 : (Nat → Int32)) (r_t_foretold_3 : (Nat → Int32)) (c_t_now_houses : Int32) (c_t_now_comers : Int32) (c_t_now_evening : Int32) (r_t_now_comes : (Nat → Int32)) (r_t_now_goes : (Nat → Int32)) (r_t_now_kindOf : (Nat → Int32)) (r_t_now_likings : (Nat → Int32)) (r_t_now_lists : (Nat → Int32)) (c_t_seen_size : Int32) (r_t_seen_behind : (Nat → Int32)) (r_t_seen_hours : (Nat → Int32)) (r_t_seen_where : (Nat → Int32)) (c_t_trial_evenings : Int32) (c_t_trial_waited : Int32) (c_t_trial_firstFast : Int32) (c_t_trial_county_houses : Int32) (c_t_trial_county_comers : Int32) (c_t_trial_county_evening : Int32) (r_t_trial_county_comes : (Nat → Int32)) (r_t_trial_county_goes : (Nat → Int32)) (r_t_trial_county_kindOf : (Nat → Int32)) (r_t_trial_county_likings : (Nat → Int32)) (r_t_trial_county_lists : (Nat → Int32)) (c_t_trial_evening_begun : Int32) (c_t_trial_evening_waited : Int32) (r_t_trial_evening_hours : (Nat → Int32)) (r_t_trial_evening_openers : (Nat → Int32)) (x1 : Int32) (x2 : Int32) : Option (Int32 × (Nat → Int32) × (Nat → Int32) × (Nat → Int32) × (Nat → Int32) × Int32 × Int32 × Int32 × Int32 × Int32 × Int32 × (Nat → Int32) × (Nat → Int32) × (Nat → Int32) × (Nat → Int32) × (Nat → Int32) × Int32 × Int32 × (Nat → Int32) × (Nat → Int32)) :=
  (L_X3_kindsLeft_5 c_t_now_houses c_t_now_comers c_t_now_evening r_t_now_comes r_t_now_goes r_t_now_kindOf r_t_now_likings r_t_now_lists c_t_seen_size r_t_seen_behind r_t_seen_hours r_t_seen_where x1 x2 400 0 0 r_t_foretold_0 r_t_foretold_1 r_t_foretold_2 r_t_foretold_3 c_t_trial_evenings c_t_trial_waited c_t_trial_firstFast c_t_trial_county_houses c_t_trial_county_comers c_t_trial_county_evening r_t_trial_county_comes r_t_trial_county_goes r_t_trial_county_kindOf r_t_trial_county_likings r_t_trial_county_lists c_t_trial_evening_begun c_t_trial_evening_waited r_t_trial_evening_hours r_t_trial_evening_openers).bind (fun (v33 : Int32 × (Nat → Int32) × (Nat → Int32) × (Nat → Int32) × (Nat → Int32) × Int32 × Int32 × Int32 × Int32 × Int32 × Int32 × (Nat → Int32) × (Nat → Int32) × (Nat → Int32) × (Nat → Int32) × (Nat → Int32) × Int32 × Int32 × (Nat → Int32) × (Nat → Int32)) =>
    some ((v33.1, v33.2.1, v33.2.2.1, v33.2.2.2.1, v33.2.2.2.2.1, v33.2.2.2.2.2.1, v33.2.2.2.2.2.2.1, v33.2.2.2.2.2.2.2.1, v33.2.2.2.2.2.2.2.2.1, v33.2.2.2.2.2.2.2.2.2.1, v33.2.2.2.2.2.2.2.2.2.2.1, v33.2.2.2.2.2.2.2.2.2.2.2.1, v33.2.2.2.2.2.2.2.2.2.2.2.2.1, v33.2.2.2.2.2.2.2.2.2.2.2.2.2.1, v33.2.2.2.2.2.2.2.2.2.2.2.2.2.2.1, v33.2.2.2.2.2.2.2.2.2.2.2.2.2.2.2.1, v33.2.2.2.2.2.2.2.2.2.2.2.2.2.2.2.2.1, v33.2.2.2.2.2.2.2.2.2.2.2.2.2.2.2.2.2.1, v33.2.2.2.2.2.2.2.2.2.2.2.2.2.2.2.2.2.2.1, v33.2.2.2.2.2.2.2.2.2.2.2.2.2.2.2.2.2.2.2)))
abbrev rm_X3_kindsLeft : Room := { frames := 5, cells := 0, slots := 0, locals := 122 }
set_option maxHeartbeats 4000000 in
set_option maxRecDepth 100000 in
theorem lp_X3_kindsLeft_5 {E : Ev} {X : Cx} {a_t a_t_foretold a_t_foretold_0 a_t_foretold_1 a_t_foretold_2 a_t_foretold_3 a_t_now a_t_now_comes a_t_now_goes a_t_now_kindOf a_t_now_likings a_t_now_lists a_t_seen a_t_seen_behind a_t_seen_hours a_t_seen_where a_t_trial a_t_trial_county a_t_trial_county_comes a_t_trial_county_goes a_t_trial_county_kindOf a_t_trial_county_likings a_t_trial_county_lists a_t_trial_evening a_t_trial_evening_hours a_t_trial_evening_openers : Nat} (c_t_question : Int32) (c_t_leftAtWorst : Int32) (c_t_now_houses : Int32) (c_t_now_comers : Int32) (c_t_now_evening : Int32) (r_t_now_comes : (Nat → Int32)) (r_t_now_goes : (Nat → Int32)) (r_t_now_kindOf : (Nat → Int32)) (r_t_now_likings : (Nat → Int32)) (r_t_now_lists : (Nat → Int32)) (c_t_seen_size : Int32) (r_t_seen_behind : (Nat → Int32)) (r_t_seen_hours : (Nat → Int32)) (r_t_seen_where : (Nat → Int32)) (x1 : Int32) (x2 : Int32) (C : CX E X cX3_kindsLeft RX3 5 rm_X3_kindsLeft) : ∀ (n : Nat) (y1 : Int32) (y2 : Int32) (y3 : (Nat → Int32)) (y4 : (Nat → Int32)) (y5 : (Nat → Int32)) (y6 : (Nat → Int32)) (y7 : Int32) (y8 : Int32) (y9 : Int32) (y10 : Int32) (y11 : Int32) (y12 : Int32) (y13 : (Nat → Int32)) (y14 : (Nat → Int32)) (y15 : (Nat → Int32)) (y16 : (Nat → Int32)) (y17 : (Nat → Int32)) (y18 : Int32) (y19 : Int32) (y20 : (Nat → Int32)) (y21 : (Nat → Int32)) (v : Int32 × (Nat → Int32) × (Nat → Int32) × (Nat → Int32) × (Nat → Int32) × Int32 × Int32 × Int32 × Int32 × Int32 × Int32 × (Nat → Int32) × (Nat → Int32) × (Nat → Int32) × (Nat → Int32) × (Nat → Int32) × Int32 × Int32 × (Nat → Int32) × (Nat → Int32)), L_X3_kindsLeft_5 c_t_now_houses c_t_now_comers c_t_now_evening r_t_now_comes r_t_now_goes r_t_now_kindOf r_t_now_likings r_t_now_lists c_t_seen_size r_t_seen_behind r_t_seen_hours r_t_seen_where x1 x2 n y1 y2 y3 y4 y5 y6 y7 y8 y9 y10 y11 y12 y13 y14 y15 y16 y17 y18 y19 y20 y21 = some v → G E X 0 0 [oX3 a_t a_t_now a_t_seen a_t_trial a_t_foretold c_t_question c_t_leftAtWorst, aQ E 4 a_t_foretold [a_t_foretold_0, a_t_foretold_1, a_t_foretold_2, a_t_foretold_3], aI E a_t_foretold_0 40 v.2.1, aI E a_t_foretold_1 40 v.2.2.1, aI E a_t_foretold_2 40 v.2.2.2.1, aI E a_t_foretold_3 40 v.2.2.2.2.1, oX1 a_t_now c_t_now_houses c_t_now_comers c_t_now_evening a_t_now_lists a_t_now_kindOf a_t_now_goes a_t_now_comes a_t_now_likings, aI E a_t_now_comes 6 r_t_now_comes, aI E a_t_now_goes 6 r_t_now_goes, aI E a_t_now_kindOf 6 r_t_now_kindOf, aI E a_t_now_likings 24 r_t_now_likings, aI E a_t_now_lists 4 r_t_now_lists, oX7 a_t_seen c_t_seen_size a_t_seen_behind a_t_seen_where a_t_seen_hours, aI E a_t_seen_behind 6 r_t_seen_behind, aI E a_t_seen_hours 6 r_t_seen_hours, aI E a_t_seen_where 6 r_t_seen_where, oX10 a_t_trial a_t_now a_t_trial_county a_t_trial_evening v.2.2.2.2.2.1 v.2.2.2.2.2.2.1 v.2.2.2.2.2.2.2.1, oX1 a_t_trial_county v.2.2.2.2.2.2.2.2.1 v.2.2.2.2.2.2.2.2.2.1 v.2.2.2.2.2.2.2.2.2.2.1 a_t_trial_county_lists a_t_trial_county_kindOf a_t_trial_county_goes a_t_trial_county_comes a_t_trial_county_likings, aI E a_t_trial_county_comes 6 v.2.2.2.2.2.2.2.2.2.2.2.1, aI E a_t_trial_county_goes 6 v.2.2.2.2.2.2.2.2.2.2.2.2.1, aI E a_t_trial_county_kindOf 6 v.2.2.2.2.2.2.2.2.2.2.2.2.2.1, aI E a_t_trial_county_likings 24 v.2.2.2.2.2.2.2.2.2.2.2.2.2.2.1, aI E a_t_trial_county_lists 4 v.2.2.2.2.2.2.2.2.2.2.2.2.2.2.2.1, oX2 a_t_trial_evening a_t_trial_evening_hours a_t_trial_evening_openers v.2.2.2.2.2.2.2.2.2.2.2.2.2.2.2.2.1 v.2.2.2.2.2.2.2.2.2.2.2.2.2.2.2.2.2.1, aI E a_t_trial_evening_hours 4 v.2.2.2.2.2.2.2.2.2.2.2.2.2.2.2.2.2.2.1, aI E a_t_trial_evening_openers 4 v.2.2.2.2.2.2.2.2.2.2.2.2.2.2.2.2.2.2.2] [(3, .int v.1)] 67 [] → G E X 0 0 [oX3 a_t a_t_now a_t_seen a_t_trial a_t_foretold c_t_question c_t_leftAtWorst, aQ E 4 a_t_foretold [a_t_foretold_0, a_t_foretold_1, a_t_foretold_2, a_t_foretold_3], aI E a_t_foretold_0 40 y3, aI E a_t_foretold_1 40 y4, aI E a_t_foretold_2 40 y5, aI E a_t_foretold_3 40 y6, oX1 a_t_now c_t_now_houses c_t_now_comers c_t_now_evening a_t_now_lists a_t_now_kindOf a_t_now_goes a_t_now_comes a_t_now_likings, aI E a_t_now_comes 6 r_t_now_comes, aI E a_t_now_goes 6 r_t_now_goes, aI E a_t_now_kindOf 6 r_t_now_kindOf, aI E a_t_now_likings 24 r_t_now_likings, aI E a_t_now_lists 4 r_t_now_lists, oX7 a_t_seen c_t_seen_size a_t_seen_behind a_t_seen_where a_t_seen_hours, aI E a_t_seen_behind 6 r_t_seen_behind, aI E a_t_seen_hours 6 r_t_seen_hours, aI E a_t_seen_where 6 r_t_seen_where, oX10 a_t_trial a_t_now a_t_trial_county a_t_trial_evening y7 y8 y9, oX1 a_t_trial_county y10 y11 y12 a_t_trial_county_lists a_t_trial_county_kindOf a_t_trial_county_goes a_t_trial_county_comes a_t_trial_county_likings, aI E a_t_trial_county_comes 6 y13, aI E a_t_trial_county_goes 6 y14, aI E a_t_trial_county_kindOf 6 y15, aI E a_t_trial_county_likings 24 y16, aI E a_t_trial_county_lists 4 y17, oX2 a_t_trial_evening a_t_trial_evening_hours a_t_trial_evening_openers y18 y19, aI E a_t_trial_evening_hours 4 y20, aI E a_t_trial_evening_openers 4 y21] [(0, .ref a_t), (1, .int x1), (2, .int x2), (3, .int y1), (4, .int y2)] 5 [] := by
  intro n
  induction n with
  | zero => intro _ _ _ _ _ _ _ _ _ _ _ _ _ _ _ _ _ _ _ _ _ _ h; cases h
  | succ n ih =>
    intro y1 y2 y3 y4 y5 y6 y7 y8 y9 y10 y11 y12 y13 y14 y15 y16 y17 y18 y19 y20 y21 v h kk
    rw [L_X3_kindsLeft_5] at h
    refine g_iload (pc := 5) C dX3_kindsLeft_5 4 rfl ?_
    refine g_iconst (pc := 7) (v := 4) C dX3_kindsLeft_7 (by decide) ?_
    refine b_icmp_ge (pc := 8) 67 C dX3_kindsLeft_8 (by decide) h (fun _ h => ?_) (fun _ h => ?_)
    · obtain rfl := Option.some.inj h
      refine g_lv [3] (lv' := [(3, .int y1)]) rfl ?_
      exact kk
    · refine g_aload_n (pc := 11) C dX3_kindsLeft_11 0 rfl ?_
      refine g_get (pc := 12) 0 C fl_X3_31 rfl rfl dX3_kindsLeft_12 ?_
      obtain ⟨v22, hv22, h⟩ := o_bnd h
      refine g_callV (pc := 15) (ws' := [oX3 a_t a_t_now a_t_seen a_t_trial a_t_foretold c_t_question c_t_leftAtWorst, aQ E 4 a_t_foretold [a_t_foretold_0, a_t_foretold_1, a_t_foretold_2, a_t_foretold_3], aI E a_t_foretold_0 40 y3, aI E a_t_foretold_1 40 y4, aI E a_t_foretold_2 40 y5, aI E a_t_foretold_3 40 y6, oX1 a_t_now c_t_now_houses c_t_now_comers c_t_now_evening a_t_now_lists a_t_now_kindOf a_t_now_goes a_t_now_comes a_t_now_likings, aI E a_t_now_comes 6 r_t_now_comes, aI E a_t_now_goes 6 r_t_now_goes, aI E a_t_now_kindOf 6 r_t_now_kindOf, aI E a_t_now_likings 24 r_t_now_likings, aI E a_t_now_lists 4 r_t_now_lists, oX7 a_t_seen c_t_seen_size a_t_seen_behind a_t_seen_where a_t_seen_hours, aI E a_t_seen_behind 6 r_t_seen_behind, aI E a_t_seen_hours 6 r_t_seen_hours, aI E a_t_seen_where 6 r_t_seen_where, oX10 a_t_trial a_t_now a_t_trial_county a_t_trial_evening v22.1 v22.2.1 v22.2.2.1, oX1 a_t_trial_county v22.2.2.2.1 v22.2.2.2.2.1 v22.2.2.2.2.2.1 a_t_trial_county_lists a_t_trial_county_kindOf a_t_trial_county_goes a_t_trial_county_comes a_t_trial_county_likings, aI E a_t_trial_county_comes 6 v22.2.2.2.2.2.2.1, aI E a_t_trial_county_goes 6 v22.2.2.2.2.2.2.2.1, aI E a_t_trial_county_kindOf 6 v22.2.2.2.2.2.2.2.2.1, aI E a_t_trial_county_likings 24 v22.2.2.2.2.2.2.2.2.2.1, aI E a_t_trial_county_lists 4 v22.2.2.2.2.2.2.2.2.2.2, oX2 a_t_trial_evening a_t_trial_evening_hours a_t_trial_evening_openers y18 y19, aI E a_t_trial_evening_hours 4 y20, aI E a_t_trial_evening_openers 4 y21]) (st1 := [.ref a_t_trial_county]) C mv_X3_35 (k_X10_restart E a_t_trial a_t_trial_county a_t_trial_county_comes a_t_trial_county_goes a_t_trial_county_kindOf a_t_trial_county_likings a_t_trial_county_lists a_t_now a_t_now_comes a_t_now_goes a_t_now_kindOf a_t_now_likings a_t_now_lists a_t_trial_evening y7 y8 y9 y10 y11 y12 y13 y14 y15 y16 y17 c_t_now_houses c_t_now_comers c_t_now_evening r_t_now_comes r_t_now_goes r_t_now_kindOf r_t_now_likings r_t_now_lists v22 hv22) [16, 17, 18, 19, 20, 21, 22, 6, 7, 8, 9, 10, 11] rfl (by decide +kernel) rfl [none, none, none, none, none, none, some 7, some 8, some 9, some 10, some 11, some 12, none, none, none, none, some 0, some 1, some 2, some 3, some 4, some 5, some 6, none, none, none] 26 (by decide +kernel) rfl rfl 0 rfl rfl ⟨by decide, by decide⟩ ⟨rfl, rfl⟩ ⟨Nat.zero_le _, Nat.zero_le _⟩ rfl rfl rfl (Nat.le_of_ble_eq_true rfl) dX3_kindsLeft_15 ?_
      refine g_get (pc := 18) 17 C fl_X3_41 rfl rfl dX3_kindsLeft_18 ?_
      refine g_iload_n (pc := 21) C dX3_kindsLeft_21 1 rfl ?_
      refine g_iload (pc := 22) C dX3_kindsLeft_22 4 rfl ?_
      refine b_iast (pc := 24) (ws' := [oX3 a_t a_t_now a_t_seen a_t_trial a_t_foretold c_t_question c_t_leftAtWorst, aQ E 4 a_t_foretold [a_t_foretold_0, a_t_foretold_1, a_t_foretold_2, a_t_foretold_3], aI E a_t_foretold_0 40 y3, aI E a_t_foretold_1 40 y4, aI E a_t_foretold_2 40 y5, aI E a_t_foretold_3 40 y6, oX1 a_t_now c_t_now_houses c_t_now_comers c_t_now_evening a_t_now_lists a_t_now_kindOf a_t_now_goes a_t_now_comes a_t_now_likings, aI E a_t_now_comes 6 r_t_now_comes, aI E a_t_now_goes 6 r_t_now_goes, aI E a_t_now_kindOf 6 r_t_now_kindOf, aI E a_t_now_likings 24 r_t_now_likings, aI E a_t_now_lists 4 r_t_now_lists, oX7 a_t_seen c_t_seen_size a_t_seen_behind a_t_seen_where a_t_seen_hours, aI E a_t_seen_behind 6 r_t_seen_behind, aI E a_t_seen_hours 6 r_t_seen_hours, aI E a_t_seen_where 6 r_t_seen_where, oX10 a_t_trial a_t_now a_t_trial_county a_t_trial_evening v22.1 v22.2.1 v22.2.2.1, oX1 a_t_trial_county v22.2.2.2.1 v22.2.2.2.2.1 v22.2.2.2.2.2.1 a_t_trial_county_lists a_t_trial_county_kindOf a_t_trial_county_goes a_t_trial_county_comes a_t_trial_county_likings, aI E a_t_trial_county_comes 6 v22.2.2.2.2.2.2.1, aI E a_t_trial_county_goes 6 v22.2.2.2.2.2.2.2.1, aI E a_t_trial_county_kindOf 6 (upd v22.2.2.2.2.2.2.2.2.1 (ix x1) y2), aI E a_t_trial_county_likings 24 v22.2.2.2.2.2.2.2.2.2.1, aI E a_t_trial_county_lists 4 v22.2.2.2.2.2.2.2.2.2.2, oX2 a_t_trial_evening a_t_trial_evening_hours a_t_trial_evening_openers y18 y19, aI E a_t_trial_evening_hours 4 y20, aI E a_t_trial_evening_openers 4 y21]) 20 C rfl rfl dX3_kindsLeft_24 h (fun _ h => ?_)
      refine g_aload_n (pc := 25) C dX3_kindsLeft_25 0 rfl ?_
      refine g_aload_n (pc := 26) C dX3_kindsLeft_26 0 rfl ?_
      refine g_get (pc := 27) 0 C fl_X3_11 rfl rfl dX3_kindsLeft_27 ?_
      refine g_iload (pc := 30) C dX3_kindsLeft_30 4 rfl ?_
      rcases o_ite h with ⟨c23, h⟩ | ⟨_, h⟩
      · refine g_aald (pc := 32) (v := a_t_foretold_0) 1 C rfl rfl rfl (by rw [c23]; show inb 0 4; decide) (by rw [c23]; rfl) dX3_kindsLeft_32 ?_
        refine g_iload_n (pc := 33) C dX3_kindsLeft_33 2 rfl ?_
        obtain ⟨v24, hv24, h⟩ := o_bnd h
        refine g_callV (pc := 34) (ws' := [oX3 a_t a_t_now a_t_seen a_t_trial a_t_foretold c_t_question c_t_leftAtWorst, aQ E 4 a_t_foretold [a_t_foretold_0, a_t_foretold_1, a_t_foretold_2, a_t_foretold_3], aI E a_t_foretold_0 40 v24.2.2.2.2.2.2, aI E a_t_foretold_1 40 y4, aI E a_t_foretold_2 40 y5, aI E a_t_foretold_3 40 y6, oX1 a_t_now c_t_now_houses c_t_now_comers c_t_now_evening a_t_now_lists a_t_now_kindOf a_t_now_goes a_t_now_comes a_t_now_likings, aI E a_t_now_comes 6 r_t_now_comes, aI E a_t_now_goes 6 r_t_now_goes, aI E a_t_now_kindOf 6 r_t_now_kindOf, aI E a_t_now_likings 24 r_t_now_likings, aI E a_t_now_lists 4 r_t_now_lists, oX7 a_t_seen c_t_seen_size a_t_seen_behind a_t_seen_where a_t_seen_hours, aI E a_t_seen_behind 6 r_t_seen_behind, aI E a_t_seen_hours 6 r_t_seen_hours, aI E a_t_seen_where 6 r_t_seen_where, oX10 a_t_trial a_t_now a_t_trial_county a_t_trial_evening v22.1 v22.2.1 v22.2.2.1, oX1 a_t_trial_county v22.2.2.2.1 v22.2.2.2.2.1 v24.1 a_t_trial_county_lists a_t_trial_county_kindOf a_t_trial_county_goes a_t_trial_county_comes a_t_trial_county_likings, aI E a_t_trial_county_comes 6 v22.2.2.2.2.2.2.1, aI E a_t_trial_county_goes 6 v22.2.2.2.2.2.2.2.1, aI E a_t_trial_county_kindOf 6 (upd v22.2.2.2.2.2.2.2.2.1 (ix x1) y2), aI E a_t_trial_county_likings 24 v24.2.1, aI E a_t_trial_county_lists 4 v22.2.2.2.2.2.2.2.2.2.2, oX2 a_t_trial_evening a_t_trial_evening_hours a_t_trial_evening_openers v24.2.2.1 v24.2.2.2.1, aI E a_t_trial_evening_hours 4 v24.2.2.2.2.1, aI E a_t_trial_evening_openers 4 v24.2.2.2.2.2.1]) (st1 := []) C mv_X3_47 (k_X3_foretell E a_t a_t_now a_t_trial a_t_trial_county a_t_trial_county_comes a_t_trial_county_goes a_t_trial_county_kindOf a_t_trial_county_likings a_t_trial_county_lists a_t_trial_evening a_t_trial_evening_hours a_t_trial_evening_openers a_t_foretold_0 a_t_seen a_t_foretold a_t_now_lists a_t_now_kindOf a_t_now_goes a_t_now_comes a_t_now_likings c_t_question c_t_leftAtWorst c_t_now_houses c_t_now_comers c_t_now_evening v22.1 v22.2.1 v22.2.2.1 v22.2.2.2.1 v22.2.2.2.2.1 v22.2.2.2.2.2.1 v22.2.2.2.2.2.2.1 v22.2.2.2.2.2.2.2.1 (upd v22.2.2.2.2.2.2.2.2.1 (ix x1) y2) v22.2.2.2.2.2.2.2.2.2.1 v22.2.2.2.2.2.2.2.2.2.2 y18 y19 y20 y21 y3 x2 v24 hv24) [0, 6, 16, 17, 18, 19, 20, 21, 22, 23, 24, 25, 2] rfl (by decide +kernel) rfl [some 0, none, some 12, none, none, none, some 1, none, none, none, none, none, none, none, none, none, some 2, some 3, some 4, some 5, some 6, some 7, some 8, some 9, some 10, some 11] 26 (by decide +kernel) rfl rfl 0 rfl rfl ⟨by decide, by decide⟩ ⟨rfl, rfl⟩ ⟨Nat.zero_le _, Nat.zero_le _⟩ rfl rfl rfl (Nat.le_of_ble_eq_true rfl) dX3_kindsLeft_34 ?_
        refine g_aload_n (pc := 37) C dX3_kindsLeft_37 0 rfl ?_
        refine g_get (pc := 38) 0 C fl_X3_27 rfl rfl dX3_kindsLeft_38 ?_
        refine g_aload_n (pc := 41) C dX3_kindsLeft_41 0 rfl ?_
        refine g_get (pc := 42) 0 C fl_X3_11 rfl rfl dX3_kindsLeft_42 ?_
        refine g_iload (pc := 45) C dX3_kindsLeft_45 4 rfl ?_
        refine g_aald (pc := 47) (v := a_t_foretold_0) 1 C rfl rfl rfl (by rw [c23]; show inb 0 4; decide) (by rw [c23]; rfl) dX3_kindsLeft_47 ?_
        obtain ⟨v25, hv25, h⟩ := o_bnd h
        refine g_callV (pc := 48) (ws' := [oX3 a_t a_t_now a_t_seen a_t_trial a_t_foretold c_t_question c_t_leftAtWorst, aQ E 4 a_t_foretold [a_t_foretold_0, a_t_foretold_1, a_t_foretold_2, a_t_foretold_3], aI E a_t_foretold_0 40 v24.2.2.2.2.2.2, aI E a_t_foretold_1 40 y4, aI E a_t_foretold_2 40 y5, aI E a_t_foretold_3 40 y6, oX1 a_t_now c_t_now_houses c_t_now_comers c_t_now_evening a_t_now_lists a_t_now_kindOf a_t_now_goes a_t_now_comes a_t_now_likings, aI E a_t_now_comes 6 r_t_now_comes, aI E a_t_now_goes 6 r_t_now_goes, aI E a_t_now_kindOf 6 r_t_now_kindOf, aI E a_t_now_likings 24 r_t_now_likings, aI E a_t_now_lists 4 r_t_now_lists, oX7 a_t_seen c_t_seen_size a_t_seen_behind a_t_seen_where a_t_seen_hours, aI E a_t_seen_behind 6 r_t_seen_behind, aI E a_t_seen_hours 6 r_t_seen_hours, aI E a_t_seen_where 6 r_t_seen_where, oX10 a_t_trial a_t_now a_t_trial_county a_t_trial_evening v22.1 v22.2.1 v22.2.2.1, oX1 a_t_trial_county v22.2.2.2.1 v22.2.2.2.2.1 v24.1 a_t_trial_county_lists a_t_trial_county_kindOf a_t_trial_county_goes a_t_trial_county_comes a_t_trial_county_likings, aI E a_t_trial_county_comes 6 v22.2.2.2.2.2.2.1, aI E a_t_trial_county_goes 6 v22.2.2.2.2.2.2.2.1, aI E a_t_trial_county_kindOf 6 (upd v22.2.2.2.2.2.2.2.2.1 (ix x1) y2), aI E a_t_trial_county_likings 24 v24.2.1, aI E a_t_trial_county_lists 4 v22.2.2.2.2.2.2.2.2.2.2, oX2 a_t_trial_evening a_t_trial_evening_hours a_t_trial_evening_openers v24.2.2.1 v24.2.2.2.1, aI E a_t_trial_evening_hours 4 v24.2.2.2.2.1, aI E a_t_trial_evening_openers 4 v24.2.2.2.2.2.1]) (st1 := [.int v25]) C mv_X3_51 (k_X7_agreeWith E a_t_seen a_t_seen_behind a_t_seen_hours a_t_seen_where a_t_foretold_0 c_t_seen_size r_t_seen_behind r_t_seen_hours r_t_seen_where v24.2.2.2.2.2.2 v25 hv25) [12, 13, 14, 15, 2] rfl (by decide +kernel) rfl [none, none, some 4, none, none, none, none, none, none, none, none, none, some 0, some 1, some 2, some 3, none, none, none, none, none, none, none, none, none, none] 26 (by decide +kernel) rfl rfl 0 rfl rfl ⟨by decide, by decide⟩ ⟨rfl, rfl⟩ ⟨Nat.zero_le _, Nat.zero_le _⟩ rfl rfl rfl (Nat.le_of_ble_eq_true rfl) dX3_kindsLeft_48 ?_
        refine b_if_eq (pc := 51) 61 C dX3_kindsLeft_51 (by decide) h (fun _ h => ?_) (fun _ h => ?_)
        · refine g_iinc (pc := 61) (v := y2 + 1) (lv' := [(4, .int (y2 + 1)), (0, .ref a_t), (1, .int x1), (2, .int x2), (3, .int y1)]) C dX3_kindsLeft_61 4 rfl rfl (by decide) rfl ?_
          refine g_goto (pc := 64) 5 C dX3_kindsLeft_64 (by decide) ?_
          refine g_lv [1, 2, 3, 4, 0] (lv' := [(0, .ref a_t), (1, .int x1), (2, .int x2), (3, .int y1), (4, .int (y2 + 1))]) rfl ?_
          exact ih _ _ _ _ _ _ _ _ _ _ _ _ _ _ _ _ _ _ _ _ _ _ h kk
        · refine g_iload_n (pc := 54) C dX3_kindsLeft_54 3 rfl ?_
          refine g_iconst (pc := 55) (v := 1) C dX3_kindsLeft_55 (by decide) ?_
          refine g_iload (pc := 56) C dX3_kindsLeft_56 4 rfl ?_
          refine g_ishl (pc := 58) C dX3_kindsLeft_58 ?_
          refine g_ior (pc := 59) C dX3_kindsLeft_59 ?_
          refine g_istore_n (pc := 60) (lv' := [(3, .int (y1 ||| ((1 : Int32) <<< (y2 &&& 31)))), (0, .ref a_t), (1, .int x1), (2, .int x2), (4, .int y2)]) C dX3_kindsLeft_60 (by decide) rfl ?_
          refine g_iinc (pc := 61) (v := y2 + 1) (lv' := [(4, .int (y2 + 1)), (3, .int (y1 ||| ((1 : Int32) <<< (y2 &&& 31)))), (0, .ref a_t), (1, .int x1), (2, .int x2)]) C dX3_kindsLeft_61 4 rfl rfl (by decide) rfl ?_
          refine g_goto (pc := 64) 5 C dX3_kindsLeft_64 (by decide) ?_
          refine g_lv [2, 3, 4, 1, 0] (lv' := [(0, .ref a_t), (1, .int x1), (2, .int x2), (3, .int (y1 ||| ((1 : Int32) <<< (y2 &&& 31)))), (4, .int (y2 + 1))]) rfl ?_
          exact ih _ _ _ _ _ _ _ _ _ _ _ _ _ _ _ _ _ _ _ _ _ _ h kk
      · rcases o_ite h with ⟨c23, h⟩ | ⟨_, h⟩
        · refine g_aald (pc := 32) (v := a_t_foretold_1) 1 C rfl rfl rfl (by rw [c23]; show inb 1 4; decide) (by rw [c23]; rfl) dX3_kindsLeft_32 ?_
          refine g_iload_n (pc := 33) C dX3_kindsLeft_33 2 rfl ?_
          obtain ⟨v26, hv26, h⟩ := o_bnd h
          refine g_callV (pc := 34) (ws' := [oX3 a_t a_t_now a_t_seen a_t_trial a_t_foretold c_t_question c_t_leftAtWorst, aQ E 4 a_t_foretold [a_t_foretold_0, a_t_foretold_1, a_t_foretold_2, a_t_foretold_3], aI E a_t_foretold_0 40 y3, aI E a_t_foretold_1 40 v26.2.2.2.2.2.2, aI E a_t_foretold_2 40 y5, aI E a_t_foretold_3 40 y6, oX1 a_t_now c_t_now_houses c_t_now_comers c_t_now_evening a_t_now_lists a_t_now_kindOf a_t_now_goes a_t_now_comes a_t_now_likings, aI E a_t_now_comes 6 r_t_now_comes, aI E a_t_now_goes 6 r_t_now_goes, aI E a_t_now_kindOf 6 r_t_now_kindOf, aI E a_t_now_likings 24 r_t_now_likings, aI E a_t_now_lists 4 r_t_now_lists, oX7 a_t_seen c_t_seen_size a_t_seen_behind a_t_seen_where a_t_seen_hours, aI E a_t_seen_behind 6 r_t_seen_behind, aI E a_t_seen_hours 6 r_t_seen_hours, aI E a_t_seen_where 6 r_t_seen_where, oX10 a_t_trial a_t_now a_t_trial_county a_t_trial_evening v22.1 v22.2.1 v22.2.2.1, oX1 a_t_trial_county v22.2.2.2.1 v22.2.2.2.2.1 v26.1 a_t_trial_county_lists a_t_trial_county_kindOf a_t_trial_county_goes a_t_trial_county_comes a_t_trial_county_likings, aI E a_t_trial_county_comes 6 v22.2.2.2.2.2.2.1, aI E a_t_trial_county_goes 6 v22.2.2.2.2.2.2.2.1, aI E a_t_trial_county_kindOf 6 (upd v22.2.2.2.2.2.2.2.2.1 (ix x1) y2), aI E a_t_trial_county_likings 24 v26.2.1, aI E a_t_trial_county_lists 4 v22.2.2.2.2.2.2.2.2.2.2, oX2 a_t_trial_evening a_t_trial_evening_hours a_t_trial_evening_openers v26.2.2.1 v26.2.2.2.1, aI E a_t_trial_evening_hours 4 v26.2.2.2.2.1, aI E a_t_trial_evening_openers 4 v26.2.2.2.2.2.1]) (st1 := []) C mv_X3_47 (k_X3_foretell E a_t a_t_now a_t_trial a_t_trial_county a_t_trial_county_comes a_t_trial_county_goes a_t_trial_county_kindOf a_t_trial_county_likings a_t_trial_county_lists a_t_trial_evening a_t_trial_evening_hours a_t_trial_evening_openers a_t_foretold_1 a_t_seen a_t_foretold a_t_now_lists a_t_now_kindOf a_t_now_goes a_t_now_comes a_t_now_likings c_t_question c_t_leftAtWorst c_t_now_houses c_t_now_comers c_t_now_evening v22.1 v22.2.1 v22.2.2.1 v22.2.2.2.1 v22.2.2.2.2.1 v22.2.2.2.2.2.1 v22.2.2.2.2.2.2.1 v22.2.2.2.2.2.2.2.1 (upd v22.2.2.2.2.2.2.2.2.1 (ix x1) y2) v22.2.2.2.2.2.2.2.2.2.1 v22.2.2.2.2.2.2.2.2.2.2 y18 y19 y20 y21 y4 x2 v26 hv26) [0, 6, 16, 17, 18, 19, 20, 21, 22, 23, 24, 25, 3] rfl (by decide +kernel) rfl [some 0, none, none, some 12, none, none, some 1, none, none, none, none, none, none, none, none, none, some 2, some 3, some 4, some 5, some 6, some 7, some 8, some 9, some 10, some 11] 26 (by decide +kernel) rfl rfl 0 rfl rfl ⟨by decide, by decide⟩ ⟨rfl, rfl⟩ ⟨Nat.zero_le _, Nat.zero_le _⟩ rfl rfl rfl (Nat.le_of_ble_eq_true rfl) dX3_kindsLeft_34 ?_
          refine g_aload_n (pc := 37) C dX3_kindsLeft_37 0 rfl ?_
          refine g_get (pc := 38) 0 C fl_X3_27 rfl rfl dX3_kindsLeft_38 ?_
          refine g_aload_n (pc := 41) C dX3_kindsLeft_41 0 rfl ?_
          refine g_get (pc := 42) 0 C fl_X3_11 rfl rfl dX3_kindsLeft_42 ?_
          refine g_iload (pc := 45) C dX3_kindsLeft_45 4 rfl ?_
          refine g_aald (pc := 47) (v := a_t_foretold_1) 1 C rfl rfl rfl (by rw [c23]; show inb 1 4; decide) (by rw [c23]; rfl) dX3_kindsLeft_47 ?_
          obtain ⟨v27, hv27, h⟩ := o_bnd h
          refine g_callV (pc := 48) (ws' := [oX3 a_t a_t_now a_t_seen a_t_trial a_t_foretold c_t_question c_t_leftAtWorst, aQ E 4 a_t_foretold [a_t_foretold_0, a_t_foretold_1, a_t_foretold_2, a_t_foretold_3], aI E a_t_foretold_0 40 y3, aI E a_t_foretold_1 40 v26.2.2.2.2.2.2, aI E a_t_foretold_2 40 y5, aI E a_t_foretold_3 40 y6, oX1 a_t_now c_t_now_houses c_t_now_comers c_t_now_evening a_t_now_lists a_t_now_kindOf a_t_now_goes a_t_now_comes a_t_now_likings, aI E a_t_now_comes 6 r_t_now_comes, aI E a_t_now_goes 6 r_t_now_goes, aI E a_t_now_kindOf 6 r_t_now_kindOf, aI E a_t_now_likings 24 r_t_now_likings, aI E a_t_now_lists 4 r_t_now_lists, oX7 a_t_seen c_t_seen_size a_t_seen_behind a_t_seen_where a_t_seen_hours, aI E a_t_seen_behind 6 r_t_seen_behind, aI E a_t_seen_hours 6 r_t_seen_hours, aI E a_t_seen_where 6 r_t_seen_where, oX10 a_t_trial a_t_now a_t_trial_county a_t_trial_evening v22.1 v22.2.1 v22.2.2.1, oX1 a_t_trial_county v22.2.2.2.1 v22.2.2.2.2.1 v26.1 a_t_trial_county_lists a_t_trial_county_kindOf a_t_trial_county_goes a_t_trial_county_comes a_t_trial_county_likings, aI E a_t_trial_county_comes 6 v22.2.2.2.2.2.2.1, aI E a_t_trial_county_goes 6 v22.2.2.2.2.2.2.2.1, aI E a_t_trial_county_kindOf 6 (upd v22.2.2.2.2.2.2.2.2.1 (ix x1) y2), aI E a_t_trial_county_likings 24 v26.2.1, aI E a_t_trial_county_lists 4 v22.2.2.2.2.2.2.2.2.2.2, oX2 a_t_trial_evening a_t_trial_evening_hours a_t_trial_evening_openers v26.2.2.1 v26.2.2.2.1, aI E a_t_trial_evening_hours 4 v26.2.2.2.2.1, aI E a_t_trial_evening_openers 4 v26.2.2.2.2.2.1]) (st1 := [.int v27]) C mv_X3_51 (k_X7_agreeWith E a_t_seen a_t_seen_behind a_t_seen_hours a_t_seen_where a_t_foretold_1 c_t_seen_size r_t_seen_behind r_t_seen_hours r_t_seen_where v26.2.2.2.2.2.2 v27 hv27) [12, 13, 14, 15, 3] rfl (by decide +kernel) rfl [none, none, none, some 4, none, none, none, none, none, none, none, none, some 0, some 1, some 2, some 3, none, none, none, none, none, none, none, none, none, none] 26 (by decide +kernel) rfl rfl 0 rfl rfl ⟨by decide, by decide⟩ ⟨rfl, rfl⟩ ⟨Nat.zero_le _, Nat.zero_le _⟩ rfl rfl rfl (Nat.le_of_ble_eq_true rfl) dX3_kindsLeft_48 ?_
          refine b_if_eq (pc := 51) 61 C dX3_kindsLeft_51 (by decide) h (fun _ h => ?_) (fun _ h => ?_)
          · refine g_iinc (pc := 61) (v := y2 + 1) (lv' := [(4, .int (y2 + 1)), (0, .ref a_t), (1, .int x1), (2, .int x2), (3, .int y1)]) C dX3_kindsLeft_61 4 rfl rfl (by decide) rfl ?_
            refine g_goto (pc := 64) 5 C dX3_kindsLeft_64 (by decide) ?_
            refine g_lv [1, 2, 3, 4, 0] (lv' := [(0, .ref a_t), (1, .int x1), (2, .int x2), (3, .int y1), (4, .int (y2 + 1))]) rfl ?_
            exact ih _ _ _ _ _ _ _ _ _ _ _ _ _ _ _ _ _ _ _ _ _ _ h kk
          · refine g_iload_n (pc := 54) C dX3_kindsLeft_54 3 rfl ?_
            refine g_iconst (pc := 55) (v := 1) C dX3_kindsLeft_55 (by decide) ?_
            refine g_iload (pc := 56) C dX3_kindsLeft_56 4 rfl ?_
            refine g_ishl (pc := 58) C dX3_kindsLeft_58 ?_
            refine g_ior (pc := 59) C dX3_kindsLeft_59 ?_
            refine g_istore_n (pc := 60) (lv' := [(3, .int (y1 ||| ((1 : Int32) <<< (y2 &&& 31)))), (0, .ref a_t), (1, .int x1), (2, .int x2), (4, .int y2)]) C dX3_kindsLeft_60 (by decide) rfl ?_
            refine g_iinc (pc := 61) (v := y2 + 1) (lv' := [(4, .int (y2 + 1)), (3, .int (y1 ||| ((1 : Int32) <<< (y2 &&& 31)))), (0, .ref a_t), (1, .int x1), (2, .int x2)]) C dX3_kindsLeft_61 4 rfl rfl (by decide) rfl ?_
            refine g_goto (pc := 64) 5 C dX3_kindsLeft_64 (by decide) ?_
            refine g_lv [2, 3, 4, 1, 0] (lv' := [(0, .ref a_t), (1, .int x1), (2, .int x2), (3, .int (y1 ||| ((1 : Int32) <<< (y2 &&& 31)))), (4, .int (y2 + 1))]) rfl ?_
            exact ih _ _ _ _ _ _ _ _ _ _ _ _ _ _ _ _ _ _ _ _ _ _ h kk
        · rcases o_ite h with ⟨c23, h⟩ | ⟨_, h⟩
          · refine g_aald (pc := 32) (v := a_t_foretold_2) 1 C rfl rfl rfl (by rw [c23]; show inb 2 4; decide) (by rw [c23]; rfl) dX3_kindsLeft_32 ?_
            refine g_iload_n (pc := 33) C dX3_kindsLeft_33 2 rfl ?_
            obtain ⟨v28, hv28, h⟩ := o_bnd h
            refine g_callV (pc := 34) (ws' := [oX3 a_t a_t_now a_t_seen a_t_trial a_t_foretold c_t_question c_t_leftAtWorst, aQ E 4 a_t_foretold [a_t_foretold_0, a_t_foretold_1, a_t_foretold_2, a_t_foretold_3], aI E a_t_foretold_0 40 y3, aI E a_t_foretold_1 40 y4, aI E a_t_foretold_2 40 v28.2.2.2.2.2.2, aI E a_t_foretold_3 40 y6, oX1 a_t_now c_t_now_houses c_t_now_comers c_t_now_evening a_t_now_lists a_t_now_kindOf a_t_now_goes a_t_now_comes a_t_now_likings, aI E a_t_now_comes 6 r_t_now_comes, aI E a_t_now_goes 6 r_t_now_goes, aI E a_t_now_kindOf 6 r_t_now_kindOf, aI E a_t_now_likings 24 r_t_now_likings, aI E a_t_now_lists 4 r_t_now_lists, oX7 a_t_seen c_t_seen_size a_t_seen_behind a_t_seen_where a_t_seen_hours, aI E a_t_seen_behind 6 r_t_seen_behind, aI E a_t_seen_hours 6 r_t_seen_hours, aI E a_t_seen_where 6 r_t_seen_where, oX10 a_t_trial a_t_now a_t_trial_county a_t_trial_evening v22.1 v22.2.1 v22.2.2.1, oX1 a_t_trial_county v22.2.2.2.1 v22.2.2.2.2.1 v28.1 a_t_trial_county_lists a_t_trial_county_kindOf a_t_trial_county_goes a_t_trial_county_comes a_t_trial_county_likings, aI E a_t_trial_county_comes 6 v22.2.2.2.2.2.2.1, aI E a_t_trial_county_goes 6 v22.2.2.2.2.2.2.2.1, aI E a_t_trial_county_kindOf 6 (upd v22.2.2.2.2.2.2.2.2.1 (ix x1) y2), aI E a_t_trial_county_likings 24 v28.2.1, aI E a_t_trial_county_lists 4 v22.2.2.2.2.2.2.2.2.2.2, oX2 a_t_trial_evening a_t_trial_evening_hours a_t_trial_evening_openers v28.2.2.1 v28.2.2.2.1, aI E a_t_trial_evening_hours 4 v28.2.2.2.2.1, aI E a_t_trial_evening_openers 4 v28.2.2.2.2.2.1]) (st1 := []) C mv_X3_47 (k_X3_foretell E a_t a_t_now a_t_trial a_t_trial_county a_t_trial_county_comes a_t_trial_county_goes a_t_trial_county_kindOf a_t_trial_county_likings a_t_trial_county_lists a_t_trial_evening a_t_trial_evening_hours a_t_trial_evening_openers a_t_foretold_2 a_t_seen a_t_foretold a_t_now_lists a_t_now_kindOf a_t_now_goes a_t_now_comes a_t_now_likings c_t_question c_t_leftAtWorst c_t_now_houses c_t_now_comers c_t_now_evening v22.1 v22.2.1 v22.2.2.1 v22.2.2.2.1 v22.2.2.2.2.1 v22.2.2.2.2.2.1 v22.2.2.2.2.2.2.1 v22.2.2.2.2.2.2.2.1 (upd v22.2.2.2.2.2.2.2.2.1 (ix x1) y2) v22.2.2.2.2.2.2.2.2.2.1 v22.2.2.2.2.2.2.2.2.2.2 y18 y19 y20 y21 y5 x2 v28 hv28) [0, 6, 16, 17, 18, 19, 20, 21, 22, 23, 24, 25, 4] rfl (by decide +kernel) rfl [some 0, none, none, none, some 12, none, some 1, none, none, none, none, none, none, none, none, none, some 2, some 3, some 4, some 5, some 6, some 7, some 8, some 9, some 10, some 11] 26 (by decide +kernel) rfl rfl 0 rfl rfl ⟨by decide, by decide⟩ ⟨rfl, rfl⟩ ⟨Nat.zero_le _, Nat.zero_le _⟩ rfl rfl rfl (Nat.le_of_ble_eq_true rfl) dX3_kindsLeft_34 ?_
            refine g_aload_n (pc := 37) C dX3_kindsLeft_37 0 rfl ?_
            refine g_get (pc := 38) 0 C fl_X3_27 rfl rfl dX3_kindsLeft_38 ?_
            refine g_aload_n (pc := 41) C dX3_kindsLeft_41 0 rfl ?_
            refine g_get (pc := 42) 0 C fl_X3_11 rfl rfl dX3_kindsLeft_42 ?_
            refine g_iload (pc := 45) C dX3_kindsLeft_45 4 rfl ?_
            refine g_aald (pc := 47) (v := a_t_foretold_2) 1 C rfl rfl rfl (by rw [c23]; show inb 2 4; decide) (by rw [c23]; rfl) dX3_kindsLeft_47 ?_
            obtain ⟨v29, hv29, h⟩ := o_bnd h
            refine g_callV (pc := 48) (ws' := [oX3 a_t a_t_now a_t_seen a_t_trial a_t_foretold c_t_question c_t_leftAtWorst, aQ E 4 a_t_foretold [a_t_foretold_0, a_t_foretold_1, a_t_foretold_2, a_t_foretold_3], aI E a_t_foretold_0 40 y3, aI E a_t_foretold_1 40 y4, aI E a_t_foretold_2 40 v28.2.2.2.2.2.2, aI E a_t_foretold_3 40 y6, oX1 a_t_now c_t_now_houses c_t_now_comers c_t_now_evening a_t_now_lists a_t_now_kindOf a_t_now_goes a_t_now_comes a_t_now_likings, aI E a_t_now_comes 6 r_t_now_comes, aI E a_t_now_goes 6 r_t_now_goes, aI E a_t_now_kindOf 6 r_t_now_kindOf, aI E a_t_now_likings 24 r_t_now_likings, aI E a_t_now_lists 4 r_t_now_lists, oX7 a_t_seen c_t_seen_size a_t_seen_behind a_t_seen_where a_t_seen_hours, aI E a_t_seen_behind 6 r_t_seen_behind, aI E a_t_seen_hours 6 r_t_seen_hours, aI E a_t_seen_where 6 r_t_seen_where, oX10 a_t_trial a_t_now a_t_trial_county a_t_trial_evening v22.1 v22.2.1 v22.2.2.1, oX1 a_t_trial_county v22.2.2.2.1 v22.2.2.2.2.1 v28.1 a_t_trial_county_lists a_t_trial_county_kindOf a_t_trial_county_goes a_t_trial_county_comes a_t_trial_county_likings, aI E a_t_trial_county_comes 6 v22.2.2.2.2.2.2.1, aI E a_t_trial_county_goes 6 v22.2.2.2.2.2.2.2.1, aI E a_t_trial_county_kindOf 6 (upd v22.2.2.2.2.2.2.2.2.1 (ix x1) y2), aI E a_t_trial_county_likings 24 v28.2.1, aI E a_t_trial_county_lists 4 v22.2.2.2.2.2.2.2.2.2.2, oX2 a_t_trial_evening a_t_trial_evening_hours a_t_trial_evening_openers v28.2.2.1 v28.2.2.2.1, aI E a_t_trial_evening_hours 4 v28.2.2.2.2.1, aI E a_t_trial_evening_openers 4 v28.2.2.2.2.2.1]) (st1 := [.int v29]) C mv_X3_51 (k_X7_agreeWith E a_t_seen a_t_seen_behind a_t_seen_hours a_t_seen_where a_t_foretold_2 c_t_seen_size r_t_seen_behind r_t_seen_hours r_t_seen_where v28.2.2.2.2.2.2 v29 hv29) [12, 13, 14, 15, 4] rfl (by decide +kernel) rfl [none, none, none, none, some 4, none, none, none, none, none, none, none, some 0, some 1, some 2, some 3, none, none, none, none, none, none, none, none, none, none] 26 (by decide +kernel) rfl rfl 0 rfl rfl ⟨by decide, by decide⟩ ⟨rfl, rfl⟩ ⟨Nat.zero_le _, Nat.zero_le _⟩ rfl rfl rfl (Nat.le_of_ble_eq_true rfl) dX3_kindsLeft_48 ?_
            refine b_if_eq (pc := 51) 61 C dX3_kindsLeft_51 (by decide) h (fun _ h => ?_) (fun _ h => ?_)
            · refine g_iinc (pc := 61) (v := y2 + 1) (lv' := [(4, .int (y2 + 1)), (0, .ref a_t), (1, .int x1), (2, .int x2), (3, .int y1)]) C dX3_kindsLeft_61 4 rfl rfl (by decide) rfl ?_
              refine g_goto (pc := 64) 5 C dX3_kindsLeft_64 (by decide) ?_
              refine g_lv [1, 2, 3, 4, 0] (lv' := [(0, .ref a_t), (1, .int x1), (2, .int x2), (3, .int y1), (4, .int (y2 + 1))]) rfl ?_
              exact ih _ _ _ _ _ _ _ _ _ _ _ _ _ _ _ _ _ _ _ _ _ _ h kk
            · refine g_iload_n (pc := 54) C dX3_kindsLeft_54 3 rfl ?_
              refine g_iconst (pc := 55) (v := 1) C dX3_kindsLeft_55 (by decide) ?_
              refine g_iload (pc := 56) C dX3_kindsLeft_56 4 rfl ?_
              refine g_ishl (pc := 58) C dX3_kindsLeft_58 ?_
              refine g_ior (pc := 59) C dX3_kindsLeft_59 ?_
              refine g_istore_n (pc := 60) (lv' := [(3, .int (y1 ||| ((1 : Int32) <<< (y2 &&& 31)))), (0, .ref a_t), (1, .int x1), (2, .int x2), (4, .int y2)]) C dX3_kindsLeft_60 (by decide) rfl ?_
              refine g_iinc (pc := 61) (v := y2 + 1) (lv' := [(4, .int (y2 + 1)), (3, .int (y1 ||| ((1 : Int32) <<< (y2 &&& 31)))), (0, .ref a_t), (1, .int x1), (2, .int x2)]) C dX3_kindsLeft_61 4 rfl rfl (by decide) rfl ?_
              refine g_goto (pc := 64) 5 C dX3_kindsLeft_64 (by decide) ?_
              refine g_lv [2, 3, 4, 1, 0] (lv' := [(0, .ref a_t), (1, .int x1), (2, .int x2), (3, .int (y1 ||| ((1 : Int32) <<< (y2 &&& 31)))), (4, .int (y2 + 1))]) rfl ?_
              exact ih _ _ _ _ _ _ _ _ _ _ _ _ _ _ _ _ _ _ _ _ _ _ h kk
          · rcases o_ite h with ⟨c23, h⟩ | ⟨_, h⟩
            · refine g_aald (pc := 32) (v := a_t_foretold_3) 1 C rfl rfl rfl (by rw [c23]; show inb 3 4; decide) (by rw [c23]; rfl) dX3_kindsLeft_32 ?_
              refine g_iload_n (pc := 33) C dX3_kindsLeft_33 2 rfl ?_
              obtain ⟨v30, hv30, h⟩ := o_bnd h
              refine g_callV (pc := 34) (ws' := [oX3 a_t a_t_now a_t_seen a_t_trial a_t_foretold c_t_question c_t_leftAtWorst, aQ E 4 a_t_foretold [a_t_foretold_0, a_t_foretold_1, a_t_foretold_2, a_t_foretold_3], aI E a_t_foretold_0 40 y3, aI E a_t_foretold_1 40 y4, aI E a_t_foretold_2 40 y5, aI E a_t_foretold_3 40 v30.2.2.2.2.2.2, oX1 a_t_now c_t_now_houses c_t_now_comers c_t_now_evening a_t_now_lists a_t_now_kindOf a_t_now_goes a_t_now_comes a_t_now_likings, aI E a_t_now_comes 6 r_t_now_comes, aI E a_t_now_goes 6 r_t_now_goes, aI E a_t_now_kindOf 6 r_t_now_kindOf, aI E a_t_now_likings 24 r_t_now_likings, aI E a_t_now_lists 4 r_t_now_lists, oX7 a_t_seen c_t_seen_size a_t_seen_behind a_t_seen_where a_t_seen_hours, aI E a_t_seen_behind 6 r_t_seen_behind, aI E a_t_seen_hours 6 r_t_seen_hours, aI E a_t_seen_where 6 r_t_seen_where, oX10 a_t_trial a_t_now a_t_trial_county a_t_trial_evening v22.1 v22.2.1 v22.2.2.1, oX1 a_t_trial_county v22.2.2.2.1 v22.2.2.2.2.1 v30.1 a_t_trial_county_lists a_t_trial_county_kindOf a_t_trial_county_goes a_t_trial_county_comes a_t_trial_county_likings, aI E a_t_trial_county_comes 6 v22.2.2.2.2.2.2.1, aI E a_t_trial_county_goes 6 v22.2.2.2.2.2.2.2.1, aI E a_t_trial_county_kindOf 6 (upd v22.2.2.2.2.2.2.2.2.1 (ix x1) y2), aI E a_t_trial_county_likings 24 v30.2.1, aI E a_t_trial_county_lists 4 v22.2.2.2.2.2.2.2.2.2.2, oX2 a_t_trial_evening a_t_trial_evening_hours a_t_trial_evening_openers v30.2.2.1 v30.2.2.2.1, aI E a_t_trial_evening_hours 4 v30.2.2.2.2.1, aI E a_t_trial_evening_openers 4 v30.2.2.2.2.2.1]) (st1 := []) C mv_X3_47 (k_X3_foretell E a_t a_t_now a_t_trial a_t_trial_county a_t_trial_county_comes a_t_trial_county_goes a_t_trial_county_kindOf a_t_trial_county_likings a_t_trial_county_lists a_t_trial_evening a_t_trial_evening_hours a_t_trial_evening_openers a_t_foretold_3 a_t_seen a_t_foretold a_t_now_lists a_t_now_kindOf a_t_now_goes a_t_now_comes a_t_now_likings c_t_question c_t_leftAtWorst c_t_now_houses c_t_now_comers c_t_now_evening v22.1 v22.2.1 v22.2.2.1 v22.2.2.2.1 v22.2.2.2.2.1 v22.2.2.2.2.2.1 v22.2.2.2.2.2.2.1 v22.2.2.2.2.2.2.2.1 (upd v22.2.2.2.2.2.2.2.2.1 (ix x1) y2) v22.2.2.2.2.2.2.2.2.2.1 v22.2.2.2.2.2.2.2.2.2.2 y18 y19 y20 y21 y6 x2 v30 hv30) [0, 6, 16, 17, 18, 19, 20, 21, 22, 23, 24, 25, 5] rfl (by decide +kernel) rfl [some 0, none, none, none, none, some 12, some 1, none, none, none, none, none, none, none, none, none, some 2, some 3, some 4, some 5, some 6, some 7, some 8, some 9, some 10, some 11] 26 (by decide +kernel) rfl rfl 0 rfl rfl ⟨by decide, by decide⟩ ⟨rfl, rfl⟩ ⟨Nat.zero_le _, Nat.zero_le _⟩ rfl rfl rfl (Nat.le_of_ble_eq_true rfl) dX3_kindsLeft_34 ?_
              refine g_aload_n (pc := 37) C dX3_kindsLeft_37 0 rfl ?_
              refine g_get (pc := 38) 0 C fl_X3_27 rfl rfl dX3_kindsLeft_38 ?_
              refine g_aload_n (pc := 41) C dX3_kindsLeft_41 0 rfl ?_
              refine g_get (pc := 42) 0 C fl_X3_11 rfl rfl dX3_kindsLeft_42 ?_
              refine g_iload (pc := 45) C dX3_kindsLeft_45 4 rfl ?_
              refine g_aald (pc := 47) (v := a_t_foretold_3) 1 C rfl rfl rfl (by rw [c23]; show inb 3 4; decide) (by rw [c23]; rfl) dX3_kindsLeft_47 ?_
              obtain ⟨v31, hv31, h⟩ := o_bnd h
              refine g_callV (pc := 48) (ws' := [oX3 a_t a_t_now a_t_seen a_t_trial a_t_foretold c_t_question c_t_leftAtWorst, aQ E 4 a_t_foretold [a_t_foretold_0, a_t_foretold_1, a_t_foretold_2, a_t_foretold_3], aI E a_t_foretold_0 40 y3, aI E a_t_foretold_1 40 y4, aI E a_t_foretold_2 40 y5, aI E a_t_foretold_3 40 v30.2.2.2.2.2.2, oX1 a_t_now c_t_now_houses c_t_now_comers c_t_now_evening a_t_now_lists a_t_now_kindOf a_t_now_goes a_t_now_comes a_t_now_likings, aI E a_t_now_comes 6 r_t_now_comes, aI E a_t_now_goes 6 r_t_now_goes, aI E a_t_now_kindOf 6 r_t_now_kindOf, aI E a_t_now_likings 24 r_t_now_likings, aI E a_t_now_lists 4 r_t_now_lists, oX7 a_t_seen c_t_seen_size a_t_seen_behind a_t_seen_where a_t_seen_hours, aI E a_t_seen_behind 6 r_t_seen_behind, aI E a_t_seen_hours 6 r_t_seen_hours, aI E a_t_seen_where 6 r_t_seen_where, oX10 a_t_trial a_t_now a_t_trial_county a_t_trial_evening v22.1 v22.2.1 v22.2.2.1, oX1 a_t_trial_county v22.2.2.2.1 v22.2.2.2.2.1 v30.1 a_t_trial_county_lists a_t_trial_county_kindOf a_t_trial_county_goes a_t_trial_county_comes a_t_trial_county_likings, aI E a_t_trial_county_comes 6 v22.2.2.2.2.2.2.1, aI E a_t_trial_county_goes 6 v22.2.2.2.2.2.2.2.1, aI E a_t_trial_county_kindOf 6 (upd v22.2.2.2.2.2.2.2.2.1 (ix x1) y2), aI E a_t_trial_county_likings 24 v30.2.1, aI E a_t_trial_county_lists 4 v22.2.2.2.2.2.2.2.2.2.2, oX2 a_t_trial_evening a_t_trial_evening_hours a_t_trial_evening_openers v30.2.2.1 v30.2.2.2.1, aI E a_t_trial_evening_hours 4 v30.2.2.2.2.1, aI E a_t_trial_evening_openers 4 v30.2.2.2.2.2.1]) (st1 := [.int v31]) C mv_X3_51 (k_X7_agreeWith E a_t_seen a_t_seen_behind a_t_seen_hours a_t_seen_where a_t_foretold_3 c_t_seen_size r_t_seen_behind r_t_seen_hours r_t_seen_where v30.2.2.2.2.2.2 v31 hv31) [12, 13, 14, 15, 5] rfl (by decide +kernel) rfl [none, none, none, none, none, some 4, none, none, none, none, none, none, some 0, some 1, some 2, some 3, none, none, none, none, none, none, none, none, none, none] 26 (by decide +kernel) rfl rfl 0 rfl rfl ⟨by decide, by decide⟩ ⟨rfl, rfl⟩ ⟨Nat.zero_le _, Nat.zero_le _⟩ rfl rfl rfl (Nat.le_of_ble_eq_true rfl) dX3_kindsLeft_48 ?_
              refine b_if_eq (pc := 51) 61 C dX3_kindsLeft_51 (by decide) h (fun _ h => ?_) (fun _ h => ?_)
              · refine g_iinc (pc := 61) (v := y2 + 1) (lv' := [(4, .int (y2 + 1)), (0, .ref a_t), (1, .int x1), (2, .int x2), (3, .int y1)]) C dX3_kindsLeft_61 4 rfl rfl (by decide) rfl ?_
                refine g_goto (pc := 64) 5 C dX3_kindsLeft_64 (by decide) ?_
                refine g_lv [1, 2, 3, 4, 0] (lv' := [(0, .ref a_t), (1, .int x1), (2, .int x2), (3, .int y1), (4, .int (y2 + 1))]) rfl ?_
                exact ih _ _ _ _ _ _ _ _ _ _ _ _ _ _ _ _ _ _ _ _ _ _ h kk
              · refine g_iload_n (pc := 54) C dX3_kindsLeft_54 3 rfl ?_
                refine g_iconst (pc := 55) (v := 1) C dX3_kindsLeft_55 (by decide) ?_
                refine g_iload (pc := 56) C dX3_kindsLeft_56 4 rfl ?_
                refine g_ishl (pc := 58) C dX3_kindsLeft_58 ?_
                refine g_ior (pc := 59) C dX3_kindsLeft_59 ?_
                refine g_istore_n (pc := 60) (lv' := [(3, .int (y1 ||| ((1 : Int32) <<< (y2 &&& 31)))), (0, .ref a_t), (1, .int x1), (2, .int x2), (4, .int y2)]) C dX3_kindsLeft_60 (by decide) rfl ?_
                refine g_iinc (pc := 61) (v := y2 + 1) (lv' := [(4, .int (y2 + 1)), (3, .int (y1 ||| ((1 : Int32) <<< (y2 &&& 31)))), (0, .ref a_t), (1, .int x1), (2, .int x2)]) C dX3_kindsLeft_61 4 rfl rfl (by decide) rfl ?_
                refine g_goto (pc := 64) 5 C dX3_kindsLeft_64 (by decide) ?_
                refine g_lv [2, 3, 4, 1, 0] (lv' := [(0, .ref a_t), (1, .int x1), (2, .int x2), (3, .int (y1 ||| ((1 : Int32) <<< (y2 &&& 31)))), (4, .int (y2 + 1))]) rfl ?_
                exact ih _ _ _ _ _ _ _ _ _ _ _ _ _ _ _ _ _ _ _ _ _ _ h kk
            · cases h
set_option maxHeartbeats 4000000 in
set_option maxRecDepth 100000 in
theorem k_X3_kindsLeft (E : Ev) (a_t a_t_foretold a_t_foretold_0 a_t_foretold_1 a_t_foretold_2 a_t_foretold_3 a_t_now a_t_now_comes a_t_now_goes a_t_now_kindOf a_t_now_likings a_t_now_lists a_t_seen a_t_seen_behind a_t_seen_hours a_t_seen_where a_t_trial a_t_trial_county a_t_trial_county_comes a_t_trial_county_goes a_t_trial_county_kindOf a_t_trial_county_likings a_t_trial_county_lists a_t_trial_evening a_t_trial_evening_hours a_t_trial_evening_openers : Nat) (c_t_question : Int32) (c_t_leftAtWorst : Int32) (r_t_foretold_0 : (Nat → Int32)) (r_t_foretold_1 : (Nat → Int32)) (r_t_foretold_2 : (Nat → Int32)) (r_t_foretold_3 : (Nat → Int32)) (c_t_now_houses : Int32) (c_t_now_comers : Int32) (c_t_now_evening : Int32) (r_t_now_comes : (Nat → Int32)) (r_t_now_goes : (Nat → Int32)) (r_t_now_kindOf : (Nat → Int32)) (r_t_now_likings : (Nat → Int32)) (r_t_now_lists : (Nat → Int32)) (c_t_seen_size : Int32) (r_t_seen_behind : (Nat → Int32)) (r_t_seen_hours : (Nat → Int32)) (r_t_seen_where : (Nat → Int32)) (c_t_trial_evenings : Int32) (c_t_trial_waited : Int32) (c_t_trial_firstFast : Int32) (c_t_trial_county_houses : Int32) (c_t_trial_county_comers : Int32) (c_t_trial_county_evening : Int32) (r_t_trial_county_comes : (Nat → Int32)) (r_t_trial_county_goes : (Nat → Int32)) (r_t_trial_county_kindOf : (Nat → Int32)) (r_t_trial_county_likings : (Nat → Int32)) (r_t_trial_county_lists : (Nat → Int32)) (c_t_trial_evening_begun : Int32) (c_t_trial_evening_waited : Int32) (r_t_trial_evening_hours : (Nat → Int32)) (r_t_trial_evening_openers : (Nat → Int32)) (x1 : Int32) (x2 : Int32) (v : Int32 × (Nat → Int32) × (Nat → Int32) × (Nat → Int32) × (Nat → Int32) × Int32 × Int32 × Int32 × Int32 × Int32 × Int32 × (Nat → Int32) × (Nat → Int32) × (Nat → Int32) × (Nat → Int32) × (Nat → Int32) × Int32 × Int32 × (Nat → Int32) × (Nat → Int32)) (h : f_X3_kindsLeft r_t_foretold_0 r_t_foretold_1 r_t_foretold_2 r_t_foretold_3 c_t_now_houses c_t_now_comers c_t_now_evening r_t_now_comes r_t_now_goes r_t_now_kindOf r_t_now_likings r_t_now_lists c_t_seen_size r_t_seen_behind r_t_seen_hours r_t_seen_where c_t_trial_evenings c_t_trial_waited c_t_trial_firstFast c_t_trial_county_houses c_t_trial_county_comers c_t_trial_county_evening r_t_trial_county_comes r_t_trial_county_goes r_t_trial_county_kindOf r_t_trial_county_likings r_t_trial_county_lists c_t_trial_evening_begun c_t_trial_evening_waited r_t_trial_evening_hours r_t_trial_evening_openers x1 x2 = some v) : Mt E yX3_kindsLeft cX3_kindsLeft 5 (some .int) rm_X3_kindsLeft [.ref a_t, .int x1, .int x2] [oX3 a_t a_t_now a_t_seen a_t_trial a_t_foretold c_t_question c_t_leftAtWorst, aQ E 4 a_t_foretold [a_t_foretold_0, a_t_foretold_1, a_t_foretold_2, a_t_foretold_3], aI E a_t_foretold_0 40 r_t_foretold_0, aI E a_t_foretold_1 40 r_t_foretold_1, aI E a_t_foretold_2 40 r_t_foretold_2, aI E a_t_foretold_3 40 r_t_foretold_3, oX1 a_t_now c_t_now_houses c_t_now_comers c_t_now_evening a_t_now_lists a_t_now_kindOf a_t_now_goes a_t_now_comes a_t_now_likings, aI E a_t_now_comes 6 r_t_now_comes, aI E a_t_now_goes 6 r_t_now_goes, aI E a_t_now_kindOf 6 r_t_now_kindOf, aI E a_t_now_likings 24 r_t_now_likings, aI E a_t_now_lists 4 r_t_now_lists, oX7 a_t_seen c_t_seen_size a_t_seen_behind a_t_seen_where a_t_seen_hours, aI E a_t_seen_behind 6 r_t_seen_behind, aI E a_t_seen_hours 6 r_t_seen_hours, aI E a_t_seen_where 6 r_t_seen_where, oX10 a_t_trial a_t_now a_t_trial_county a_t_trial_evening c_t_trial_evenings c_t_trial_waited c_t_trial_firstFast, oX1 a_t_trial_county c_t_trial_county_houses c_t_trial_county_comers c_t_trial_county_evening a_t_trial_county_lists a_t_trial_county_kindOf a_t_trial_county_goes a_t_trial_county_comes a_t_trial_county_likings, aI E a_t_trial_county_comes 6 r_t_trial_county_comes, aI E a_t_trial_county_goes 6 r_t_trial_county_goes, aI E a_t_trial_county_kindOf 6 r_t_trial_county_kindOf, aI E a_t_trial_county_likings 24 r_t_trial_county_likings, aI E a_t_trial_county_lists 4 r_t_trial_county_lists, oX2 a_t_trial_evening a_t_trial_evening_hours a_t_trial_evening_openers c_t_trial_evening_begun c_t_trial_evening_waited, aI E a_t_trial_evening_hours 4 r_t_trial_evening_hours, aI E a_t_trial_evening_openers 4 r_t_trial_evening_openers] [oX3 a_t a_t_now a_t_seen a_t_trial a_t_foretold c_t_question c_t_leftAtWorst, aQ E 4 a_t_foretold [a_t_foretold_0, a_t_foretold_1, a_t_foretold_2, a_t_foretold_3], aI E a_t_foretold_0 40 v.2.1, aI E a_t_foretold_1 40 v.2.2.1, aI E a_t_foretold_2 40 v.2.2.2.1, aI E a_t_foretold_3 40 v.2.2.2.2.1, oX1 a_t_now c_t_now_houses c_t_now_comers c_t_now_evening a_t_now_lists a_t_now_kindOf a_t_now_goes a_t_now_comes a_t_now_likings, aI E a_t_now_comes 6 r_t_now_comes, aI E a_t_now_goes 6 r_t_now_goes, aI E a_t_now_kindOf 6 r_t_now_kindOf, aI E a_t_now_likings 24 r_t_now_likings, aI E a_t_now_lists 4 r_t_now_lists, oX7 a_t_seen c_t_seen_size a_t_seen_behind a_t_seen_where a_t_seen_hours, aI E a_t_seen_behind 6 r_t_seen_behind, aI E a_t_seen_hours 6 r_t_seen_hours, aI E a_t_seen_where 6 r_t_seen_where, oX10 a_t_trial a_t_now a_t_trial_county a_t_trial_evening v.2.2.2.2.2.1 v.2.2.2.2.2.2.1 v.2.2.2.2.2.2.2.1, oX1 a_t_trial_county v.2.2.2.2.2.2.2.2.1 v.2.2.2.2.2.2.2.2.2.1 v.2.2.2.2.2.2.2.2.2.2.1 a_t_trial_county_lists a_t_trial_county_kindOf a_t_trial_county_goes a_t_trial_county_comes a_t_trial_county_likings, aI E a_t_trial_county_comes 6 v.2.2.2.2.2.2.2.2.2.2.2.1, aI E a_t_trial_county_goes 6 v.2.2.2.2.2.2.2.2.2.2.2.2.1, aI E a_t_trial_county_kindOf 6 v.2.2.2.2.2.2.2.2.2.2.2.2.2.1, aI E a_t_trial_county_likings 24 v.2.2.2.2.2.2.2.2.2.2.2.2.2.2.1, aI E a_t_trial_county_lists 4 v.2.2.2.2.2.2.2.2.2.2.2.2.2.2.2.1, oX2 a_t_trial_evening a_t_trial_evening_hours a_t_trial_evening_openers v.2.2.2.2.2.2.2.2.2.2.2.2.2.2.2.2.1 v.2.2.2.2.2.2.2.2.2.2.2.2.2.2.2.2.2.1, aI E a_t_trial_evening_hours 4 v.2.2.2.2.2.2.2.2.2.2.2.2.2.2.2.2.2.2.1, aI E a_t_trial_evening_openers 4 v.2.2.2.2.2.2.2.2.2.2.2.2.2.2.2.2.2.2.2] (some (.int v.1)) := by
  refine Mt.intro (lv := [(0, .ref a_t), (1, .int x1), (2, .int x2)]) (by decide +kernel) (Nat.le_of_ble_eq_true rfl) rfl (fun X C K => ?_)
  have C : CX E X cX3_kindsLeft RX3 5 rm_X3_kindsLeft := C
  rw [f_X3_kindsLeft] at h
  refine g_iconst (pc := 0) (v := 0) C dX3_kindsLeft_0 (by decide) ?_
  refine g_istore_n (pc := 1) (lv' := [(3, .int 0), (0, .ref a_t), (1, .int x1), (2, .int x2)]) C dX3_kindsLeft_1 (by decide) rfl ?_
  refine g_iconst (pc := 2) (v := 0) C dX3_kindsLeft_2 (by decide) ?_
  refine g_istore (pc := 3) (lv' := [(4, .int 0), (3, .int 0), (0, .ref a_t), (1, .int x1), (2, .int x2)]) C dX3_kindsLeft_3 (by decide) rfl ?_
  obtain ⟨v33, hv33, h⟩ := o_bnd h
  refine g_lv [2, 3, 4, 1, 0] (lv' := [(0, .ref a_t), (1, .int x1), (2, .int x2), (3, .int 0), (4, .int 0)]) rfl ?_
  refine lp_X3_kindsLeft_5 c_t_question c_t_leftAtWorst c_t_now_houses c_t_now_comers c_t_now_evening r_t_now_comes r_t_now_goes r_t_now_kindOf r_t_now_likings r_t_now_lists c_t_seen_size r_t_seen_behind r_t_seen_hours r_t_seen_where x1 x2 C 400 _ _ _ _ _ _ _ _ _ _ _ _ _ _ _ _ _ _ _ _ _ _ hv33 ?_
  refine g_iload_n (pc := 67) C dX3_kindsLeft_67 0 rfl ?_
  obtain rfl := Option.some.inj h
  exact g_iret (pc := 68) C K dX3_kindsLeft_68
theorem dX3_levelsLeft_0 : decode cX3_levelsLeft 0 = .ok (.iconst 0, 1) := by decide +kernel
theorem dX3_levelsLeft_1 : decode cX3_levelsLeft 1 = .ok (.istore_n 3, 1) := by decide +kernel
theorem dX3_levelsLeft_2 : decode cX3_levelsLeft 2 = .ok (.aload_n 0, 1) := by decide +kernel
theorem dX3_levelsLeft_3 : decode cX3_levelsLeft 3 = .ok (.getfield 27, 3) := by decide +kernel
theorem dX3_levelsLeft_6 : decode cX3_levelsLeft 6 = .ok (.invokevirtual 57, 3) := by decide +kernel
theorem dX3_levelsLeft_9 : decode cX3_levelsLeft 9 = .ok (.istore 4, 2) := by decide +kernel
theorem dX3_levelsLeft_11 : decode cX3_levelsLeft 11 = .ok (.iconst 0, 1) := by decide +kernel
theorem dX3_levelsLeft_12 : decode cX3_levelsLeft 12 = .ok (.istore 5, 2) := by decide +kernel
theorem dX3_levelsLeft_14 : decode cX3_levelsLeft 14 = .ok (.iload 5, 2) := by decide +kernel
theorem dX3_levelsLeft_16 : decode cX3_levelsLeft 16 = .ok (.bipush 9, 2) := by decide +kernel
theorem dX3_levelsLeft_18 : decode cX3_levelsLeft 18 = .ok (.if_icmp .gt 58, 3) := by decide +kernel
theorem dX3_levelsLeft_21 : decode cX3_levelsLeft 21 = .ok (.aload_n 0, 1) := by decide +kernel
theorem dX3_levelsLeft_22 : decode cX3_levelsLeft 22 = .ok (.getfield 31, 3) := by decide +kernel
theorem dX3_levelsLeft_25 : decode cX3_levelsLeft 25 = .ok (.invokevirtual 35, 3) := by decide +kernel
theorem dX3_levelsLeft_28 : decode cX3_levelsLeft 28 = .ok (.iload_n 1, 1) := by decide +kernel
theorem dX3_levelsLeft_29 : decode cX3_levelsLeft 29 = .ok (.iload_n 2, 1) := by decide +kernel
theorem dX3_levelsLeft_30 : decode cX3_levelsLeft 30 = .ok (.iload 5, 2) := by decide +kernel
theorem dX3_levelsLeft_32 : decode cX3_levelsLeft 32 = .ok (.invokevirtual 61, 3) := by decide +kernel
theorem dX3_levelsLeft_35 : decode cX3_levelsLeft 35 = .ok (.aload_n 0, 1) := by decide +kernel
theorem dX3_levelsLeft_36 : decode cX3_levelsLeft 36 = .ok (.aload_n 0, 1) := by decide +kernel
theorem dX3_levelsLeft_37 : decode cX3_levelsLeft 37 = .ok (.getfield 11, 3) := by decide +kernel
theorem dX3_levelsLeft_40 : decode cX3_levelsLeft 40 = .ok (.iconst 0, 1) := by decide +kernel
theorem dX3_levelsLeft_41 : decode cX3_levelsLeft 41 = .ok (.aaload, 1) := by decide +kernel
theorem dX3_levelsLeft_42 : decode cX3_levelsLeft 42 = .ok (.iload 4, 2) := by decide +kernel
theorem dX3_levelsLeft_44 : decode cX3_levelsLeft 44 = .ok (.invokevirtual 47, 3) := by decide +kernel
theorem dX3_levelsLeft_47 : decode cX3_levelsLeft 47 = .ok (.aload_n 0, 1) := by decide +kernel
theorem dX3_levelsLeft_48 : decode cX3_levelsLeft 48 = .ok (.getfield 27, 3) := by decide +kernel
theorem dX3_levelsLeft_51 : decode cX3_levelsLeft 51 = .ok (.aload_n 0, 1) := by decide +kernel
theorem dX3_levelsLeft_52 : decode cX3_levelsLeft 52 = .ok (.getfield 11, 3) := by decide +kernel
theorem dX3_levelsLeft_55 : decode cX3_levelsLeft 55 = .ok (.iconst 0, 1) := by decide +kernel
theorem dX3_levelsLeft_56 : decode cX3_levelsLeft 56 = .ok (.aaload, 1) := by decide +kernel
theorem dX3_levelsLeft_57 : decode cX3_levelsLeft 57 = .ok (.invokevirtual 51, 3) := by decide +kernel
theorem dX3_levelsLeft_60 : decode cX3_levelsLeft 60 = .ok (.ifCond .eq 10, 3) := by decide +kernel
theorem dX3_levelsLeft_63 : decode cX3_levelsLeft 63 = .ok (.iload_n 3, 1) := by decide +kernel
theorem dX3_levelsLeft_64 : decode cX3_levelsLeft 64 = .ok (.iconst 1, 1) := by decide +kernel
theorem dX3_levelsLeft_65 : decode cX3_levelsLeft 65 = .ok (.iload 5, 2) := by decide +kernel
theorem dX3_levelsLeft_67 : decode cX3_levelsLeft 67 = .ok (.ishl, 1) := by decide +kernel
theorem dX3_levelsLeft_68 : decode cX3_levelsLeft 68 = .ok (.ior, 1) := by decide +kernel
theorem dX3_levelsLeft_69 : decode cX3_levelsLeft 69 = .ok (.istore_n 3, 1) := by decide +kernel
theorem dX3_levelsLeft_70 : decode cX3_levelsLeft 70 = .ok (.iinc 5 1, 3) := by decide +kernel
theorem dX3_levelsLeft_73 : decode cX3_levelsLeft 73 = .ok (.goto (-59), 3) := by decide +kernel
theorem dX3_levelsLeft_76 : decode cX3_levelsLeft 76 = .ok (.iload_n 3, 1) := by decide +kernel
theorem dX3_levelsLeft_77 : decode cX3_levelsLeft 77 = .ok (.ireturn, 1) := by decide +kernel
def L_X3_levelsLeft_14 (c_t_now_houses : Int32) (c_t_now_comers : Int32) (c_t_now_evening : Int32) (r_t_now_comes : (Nat → Int32)) (r_t_now_goes : (Nat → Int32)) (r_t_now_kindOf : (Nat → Int32)) (r_t_now_likings : (Nat → Int32)) (r_t_now_lists : (Nat → Int32)) (c_t_seen_size : Int32) (r_t_seen_behind : (Nat → Int32)) (r_t_seen_hours : (Nat → Int32)) (r_t_seen_where : (Nat → Int32)) (x1 : Int32) (x2 : Int32) (v1 : (Int32)) : Nat → Int32 → Int32 → (Nat → Int32) → Int32 → Int32 → Int32 → Int32 → Int32 → Int32 → (Nat → Int32) → (Nat → Int32) → (Nat → Int32) → (Nat → Int32) → (Nat → Int32) → Int32 → Int32 → (Nat → Int32) → (Nat → Int32) → Option (Int32 × (Nat → Int32) × Int32 × Int32 × Int32 × Int32 × Int32 × Int32 × (Nat → Int32) × (Nat → Int32) × (Nat → Int32) × (Nat → Int32) × (Nat → Int32) × Int32 × Int32 × (Nat → Int32) × (Nat → Int32))
  | 0, _, _, _, _, _, _, _, _, _, _, _, _, _, _, _, _, _, _ => none
  | n + 1, y2, y3, y4, y5, y6, y7, y8, y9, y10, y11, y12, y13, y14, y15, y16, y17, y18, y19 =>
    if 9 < y3 then
      (some ((y2, y4, y5, y6, y7, y8, y9, y10, y11, y12, y13, y14, y15, y16, y17, y18, y19)))
    else
      ((f_X10_restart y5 y6 y7 y8 y9 y10 y11 y12 y13 y14 y15 c_t_now_houses c_t_now_comers c_t_now_evening r_t_now_comes r_t_now_goes r_t_now_kindOf r_t_now_likings r_t_now_lists).bind (fun (v20 : Int32 × Int32 × Int32 × Int32 × Int32 × Int32 × (Nat → Int32) × (Nat → Int32) × (Nat → Int32) × (Nat → Int32) × (Nat → Int32)) =>
        (f_X1_setLiked v20.2.2.2.2.2.2.2.2.2.1 x1 x2 y3).bind (fun (v21 : (Nat → Int32)) =>
          (f_X3_foretell c_t_now_houses v20.2.2.2.1 v20.2.2.2.2.1 v20.2.2.2.2.2.1 v20.2.2.2.2.2.2.1 v20.2.2.2.2.2.2.2.1 v20.2.2.2.2.2.2.2.2.1 v21 v20.2.2.2.2.2.2.2.2.2.2 y16 y17 y18 y19 y4 v1).bind (fun (v22 : Int32 × (Nat → Int32) × Int32 × Int32 × (Nat → Int32) × (Nat → Int32) × (Nat → Int32)) =>
            (f_X7_agreeWith c_t_seen_size r_t_seen_behind r_t_seen_hours r_t_seen_where v22.2.2.2.2.2.2).bind (fun (v23 : Int32) =>
              if v23 = 0 then
                (L_X3_levelsLeft_14 c_t_now_houses c_t_now_comers c_t_now_evening r_t_now_comes r_t_now_goes r_t_now_kindOf r_t_now_likings r_t_now_lists c_t_seen_size r_t_seen_behind r_t_seen_hours r_t_seen_where x1 x2 v1 n y2 (y3 + 1) v22.2.2.2.2.2.2 v20.1 v20.2.1 v20.2.2.1 v20.2.2.2.1 v20.2.2.2.2.1 v22.1 v20.2.2.2.2.2.2.1 v20.2.2.2.2.2.2.2.1 v20.2.2.2.2.2.2.2.2.1 v22.2.1 v20.2.2.2.2.2.2.2.2.2.2 v22.2.2.1 v22.2.2.2.1 v22.2.2.2.2.1 v22.2.2.2.2.2.1)
              else
                (L_X3_levelsLeft_14 c_t_now_houses c_t_now_comers c_t_now_evening r_t_now_comes r_t_now_goes r_t_now_kindOf r_t_now_likings r_t_now_lists c_t_seen_size r_t_seen_behind r_t_seen_hours r_t_seen_where x1 x2 v1 n (y2 ||| ((1 : Int32) <<< (y3 &&& 31))) (y3 + 1) v22.2.2.2.2.2.2 v20.1 v20.2.1 v20.2.2.1 v20.2.2.2.1 v20.2.2.2.2.1 v22.1 v20.2.2.2.2.2.2.1 v20.2.2.2.2.2.2.2.1 v20.2.2.2.2.2.2.2.2.1 v22.2.1 v20.2.2.2.2.2.2.2.2.2.2 v22.2.2.1 v22.2.2.2.1 v22.2.2.2.2.1 v22.2.2.2.2.2.1))))))
def f_X3_levelsLeft (r_t_foretold_0 : (Nat → Int32)) (r_t_foretold_1 : (Nat → Int32)) (r_t_foretold_2 : (Nat → Int32)) (r_t_foretold_3 : (Nat → Int32)) (c_t_now_houses : Int32) (c_t_now_comers : Int32) (c_t_now_evening : Int32) (r_t_now_comes : (Nat → Int32)) (r_t_now_goes : (Nat → Int32)) (r_t_now_kindOf : (Nat → Int32)) (r_t_now_likings : (Nat → Int32)) (r_t_now_lists : (Nat → Int32)) (c_t_seen_size : Int32) (r_t_seen_behind : (Nat → Int32)) (r_t_seen_hours : (Nat → Int32)) (r_t_seen_where : (Nat → Int32)) (c_t_trial_evenings : Int32) (c_t_trial_waited : Int32) (c_t_trial_firstFast : Int32) (c_t_trial_county_houses : Int32) (c_t_trial_county_comers : Int32) (c_t_trial_county_evening : Int32) (r_t_trial_county_comes : (Nat → Int32)) (r_t_trial_county_goes : (Nat → Int32)) (r_t_trial_county_kindOf : (Nat → Int32)) (r_t_trial_county_likings : (Nat → Int32)) (r_t_trial_county_lists : (Nat → Int32)) (c_t_trial_evening_begun : Int32) (c_t_trial_evening_waited : Int32) (r_t_trial_evening_hours : (Nat → Int32)) (r_t_trial_evening_openers : (Nat → Int32)) (x1 : Int32) (x2 : Int32) : Option (Int32 × (Nat → Int32) × (Nat → Int32) × (Nat → Int32) × (Nat → Int32) × Int32 × Int32 × Int32 × Int32 × Int32 × Int32 × (Nat → Int32) × (Nat → Int32) × (Nat → Int32) × (Nat → Int32) × (Nat → Int32) × Int32 × Int32 × (Nat → Int32) × (Nat → Int32)) :=
  (f_X7_reach c_t_seen_size r_t_seen_behind).bind (fun (v1 : Int32) =>
    (L_X3_levelsLeft_14 c_t_now_houses c_t_now_comers c_t_now_evening r_t_now_comes r_t_now_goes r_t_now_kindOf r_t_now_likings r_t_now_lists c_t_seen_size r_t_seen_behind r_t_seen_hours r_t_seen_where x1 x2 v1 400 0 0 r_t_foretold_0 c_t_trial_evenings c_t_trial_waited c_t_trial_firstFast c_t_trial_county_houses c_t_trial_county_comers c_t_trial_county_evening r_t_trial_county_comes r_t_trial_county_goes r_t_trial_county_kindOf r_t_trial_county_likings r_t_trial_county_lists c_t_trial_evening_begun c_t_trial_evening_waited r_t_trial_evening_hours r_t_trial_evening_openers).bind (fun (v25 : Int32 × (Nat → Int32) × Int32 × Int32 × Int32 × Int32 × Int32 × Int32 × (Nat → Int32) × (Nat → Int32) × (Nat → Int32) × (Nat → Int32) × (Nat → Int32) × Int32 × Int32 × (Nat → Int32) × (Nat → Int32)) =>
      some ((v25.1, v25.2.1, r_t_foretold_1, r_t_foretold_2, r_t_foretold_3, v25.2.2.1, v25.2.2.2.1, v25.2.2.2.2.1, v25.2.2.2.2.2.1, v25.2.2.2.2.2.2.1, v25.2.2.2.2.2.2.2.1, v25.2.2.2.2.2.2.2.2.1, v25.2.2.2.2.2.2.2.2.2.1, v25.2.2.2.2.2.2.2.2.2.2.1, v25.2.2.2.2.2.2.2.2.2.2.2.1, v25.2.2.2.2.2.2.2.2.2.2.2.2.1, v25.2.2.2.2.2.2.2.2.2.2.2.2.2.1, v25.2.2.2.2.2.2.2.2.2.2.2.2.2.2.1, v25.2.2.2.2.2.2.2.2.2.2.2.2.2.2.2.1, v25.2.2.2.2.2.2.2.2.2.2.2.2.2.2.2.2))))
abbrev rm_X3_levelsLeft : Room := { frames := 5, cells := 0, slots := 0, locals := 122 }
set_option maxHeartbeats 4000000 in
set_option maxRecDepth 100000 in
theorem lp_X3_levelsLeft_14 {E : Ev} {X : Cx} {a_t a_t_foretold a_t_foretold_0 a_t_foretold_1 a_t_foretold_2 a_t_foretold_3 a_t_now a_t_now_comes a_t_now_goes a_t_now_kindOf a_t_now_likings a_t_now_lists a_t_seen a_t_seen_behind a_t_seen_hours a_t_seen_where a_t_trial a_t_trial_county a_t_trial_county_comes a_t_trial_county_goes a_t_trial_county_kindOf a_t_trial_county_likings a_t_trial_county_lists a_t_trial_evening a_t_trial_evening_hours a_t_trial_evening_openers : Nat} (c_t_question : Int32) (c_t_leftAtWorst : Int32) (r_t_foretold_1 : (Nat → Int32)) (r_t_foretold_2 : (Nat → Int32)) (r_t_foretold_3 : (Nat → Int32)) (c_t_now_houses : Int32) (c_t_now_comers : Int32) (c_t_now_evening : Int32) (r_t_now_comes : (Nat → Int32)) (r_t_now_goes : (Nat → Int32)) (r_t_now_kindOf : (Nat → Int32)) (r_t_now_likings : (Nat → Int32)) (r_t_now_lists : (Nat → Int32)) (c_t_seen_size : Int32) (r_t_seen_behind : (Nat → Int32)) (r_t_seen_hours : (Nat → Int32)) (r_t_seen_where : (Nat → Int32)) (x1 : Int32) (x2 : Int32) (v1 : (Int32)) (C : CX E X cX3_levelsLeft RX3 6 rm_X3_levelsLeft) : ∀ (n : Nat) (y2 : Int32) (y3 : Int32) (y4 : (Nat → Int32)) (y5 : Int32) (y6 : Int32) (y7 : Int32) (y8 : Int32) (y9 : Int32) (y10 : Int32) (y11 : (Nat → Int32)) (y12 : (Nat → Int32)) (y13 : (Nat → Int32)) (y14 : (Nat → Int32)) (y15 : (Nat → Int32)) (y16 : Int32) (y17 : Int32) (y18 : (Nat → Int32)) (y19 : (Nat → Int32)) (v : Int32 × (Nat → Int32) × Int32 × Int32 × Int32 × Int32 × Int32 × Int32 × (Nat → Int32) × (Nat → Int32) × (Nat → Int32) × (Nat → Int32) × (Nat → Int32) × Int32 × Int32 × (Nat → Int32) × (Nat → Int32)), L_X3_levelsLeft_14 c_t_now_houses c_t_now_comers c_t_now_evening r_t_now_comes r_t_now_goes r_t_now_kindOf r_t_now_likings r_t_now_lists c_t_seen_size r_t_seen_behind r_t_seen_hours r_t_seen_where x1 x2 v1 n y2 y3 y4 y5 y6 y7 y8 y9 y10 y11 y12 y13 y14 y15 y16 y17 y18 y19 = some v → G E X 0 0 [oX3 a_t a_t_now a_t_seen a_t_trial a_t_foretold c_t_question c_t_leftAtWorst, aQ E 4 a_t_foretold [a_t_foretold_0, a_t_foretold_1, a_t_foretold_2, a_t_foretold_3], aI E a_t_foretold_0 40 v.2.1, aI E a_t_foretold_1 40 r_t_foretold_1, aI E a_t_foretold_2 40 r_t_foretold_2, aI E a_t_foretold_3 40 r_t_foretold_3, oX1 a_t_now c_t_now_houses c_t_now_comers c_t_now_evening a_t_now_lists a_t_now_kindOf a_t_now_goes a_t_now_comes a_t_now_likings, aI E a_t_now_comes 6 r_t_now_comes, aI E a_t_now_goes 6 r_t_now_goes, aI E a_t_now_kindOf 6 r_t_now_kindOf, aI E a_t_now_likings 24 r_t_now_likings, aI E a_t_now_lists 4 r_t_now_lists, oX7 a_t_seen c_t_seen_size a_t_seen_behind a_t_seen_where a_t_seen_hours, aI E a_t_seen_behind 6 r_t_seen_behind, aI E a_t_seen_hours 6 r_t_seen_hours, aI E a_t_seen_where 6 r_t_seen_where, oX10 a_t_trial a_t_now a_t_trial_county a_t_trial_evening v.2.2.1 v.2.2.2.1 v.2.2.2.2.1, oX1 a_t_trial_county v.2.2.2.2.2.1 v.2.2.2.2.2.2.1 v.2.2.2.2.2.2.2.1 a_t_trial_county_lists a_t_trial_county_kindOf a_t_trial_county_goes a_t_trial_county_comes a_t_trial_county_likings, aI E a_t_trial_county_comes 6 v.2.2.2.2.2.2.2.2.1, aI E a_t_trial_county_goes 6 v.2.2.2.2.2.2.2.2.2.1, aI E a_t_trial_county_kindOf 6 v.2.2.2.2.2.2.2.2.2.2.1, aI E a_t_trial_county_likings 24 v.2.2.2.2.2.2.2.2.2.2.2.1, aI E a_t_trial_county_lists 4 v.2.2.2.2.2.2.2.2.2.2.2.2.1, oX2 a_t_trial_evening a_t_trial_evening_hours a_t_trial_evening_openers v.2.2.2.2.2.2.2.2.2.2.2.2.2.1 v.2.2.2.2.2.2.2.2.2.2.2.2.2.2.1, aI E a_t_trial_evening_hours 4 v.2.2.2.2.2.2.2.2.2.2.2.2.2.2.2.1, aI E a_t_trial_evening_openers 4 v.2.2.2.2.2.2.2.2.2.2.2.2.2.2.2.2] [(3, .int v.1)] 76 [] → G E X 0 0 [oX3 a_t a_t_now a_t_seen a_t_trial a_t_foretold c_t_question c_t_leftAtWorst, aQ E 4 a_t_foretold [a_t_foretold_0, a_t_foretold_1, a_t_foretold_2, a_t_foretold_3], aI E a_t_foretold_0 40 y4, aI E a_t_foretold_1 40 r_t_foretold_1, aI E a_t_foretold_2 40 r_t_foretold_2, aI E a_t_foretold_3 40 r_t_foretold_3, oX1 a_t_now c_t_now_houses c_t_now_comers c_t_now_evening a_t_now_lists a_t_now_kindOf a_t_now_goes a_t_now_comes a_t_now_likings, aI E a_t_now_comes 6 r_t_now_comes, aI E a_t_now_goes 6 r_t_now_goes, aI E a_t_now_kindOf 6 r_t_now_kindOf, aI E a_t_now_likings 24 r_t_now_likings, aI E a_t_now_lists 4 r_t_now_lists, oX7 a_t_seen c_t_seen_size a_t_seen_behind a_t_seen_where a_t_seen_hours, aI E a_t_seen_behind 6 r_t_seen_behind, aI E a_t_seen_hours 6 r_t_seen_hours, aI E a_t_seen_where 6 r_t_seen_where, oX10 a_t_trial a_t_now a_t_trial_county a_t_trial_evening y5 y6 y7, oX1 a_t_trial_county y8 y9 y10 a_t_trial_county_lists a_t_trial_county_kindOf a_t_trial_county_goes a_t_trial_county_comes a_t_trial_county_likings, aI E a_t_trial_county_comes 6 y11, aI E a_t_trial_county_goes 6 y12, aI E a_t_trial_county_kindOf 6 y13, aI E a_t_trial_county_likings 24 y14, aI E a_t_trial_county_lists 4 y15, oX2 a_t_trial_evening a_t_trial_evening_hours a_t_trial_evening_openers y16 y17, aI E a_t_trial_evening_hours 4 y18, aI E a_t_trial_evening_openers 4 y19] [(0, .ref a_t), (1, .int x1), (2, .int x2), (3, .int y2), (4, .int v1), (5, .int y3)] 14 [] := by
  intro n
  induction n with
  | zero => intro _ _ _ _ _ _ _ _ _ _ _ _ _ _ _ _ _ _ _ h; cases h
  | succ n ih =>
    intro y2 y3 y4 y5 y6 y7 y8 y9 y10 y11 y12 y13 y14 y15 y16 y17 y18 y19 v h kk
    rw [L_X3_levelsLeft_14] at h
    refine g_iload (pc := 14) C dX3_levelsLeft_14 5 rfl ?_
    refine g_bipush (pc := 16) (v := 9) C dX3_levelsLeft_16 (by decide) ?_
    refine b_icmp_gt (pc := 18) 76 C dX3_levelsLeft_18 (by decide) h (fun _ h => ?_) (fun _ h => ?_)
    · obtain rfl := Option.some.inj h
      refine g_lv [3] (lv' := [(3, .int y2)]) rfl ?_
      exact kk
    · refine g_aload_n (pc := 21) C dX3_levelsLeft_21 0 rfl ?_
      refine g_get (pc := 22) 0 C fl_X3_31 rfl rfl dX3_levelsLeft_22 ?_
      obtain ⟨v20, hv20, h⟩ := o_bnd h
      refine g_callV (pc := 25) (ws' := [oX3 a_t a_t_now a_t_seen a_t_trial a_t_foretold c_t_question c_t_leftAtWorst, aQ E 4 a_t_foretold [a_t_foretold_0, a_t_foretold_1, a_t_foretold_2, a_t_foretold_3], aI E a_t_foretold_0 40 y4, aI E a_t_foretold_1 40 r_t_foretold_1, aI E a_t_foretold_2 40 r_t_foretold_2, aI E a_t_foretold_3 40 r_t_foretold_3, oX1 a_t_now c_t_now_houses c_t_now_comers c_t_now_evening a_t_now_lists a_t_now_kindOf a_t_now_goes a_t_now_comes a_t_now_likings, aI E a_t_now_comes 6 r_t_now_comes, aI E a_t_now_goes 6 r_t_now_goes, aI E a_t_now_kindOf 6 r_t_now_kindOf, aI E a_t_now_likings 24 r_t_now_likings, aI E a_t_now_lists 4 r_t_now_lists, oX7 a_t_seen c_t_seen_size a_t_seen_behind a_t_seen_where a_t_seen_hours, aI E a_t_seen_behind 6 r_t_seen_behind, aI E a_t_seen_hours 6 r_t_seen_hours, aI E a_t_seen_where 6 r_t_seen_where, oX10 a_t_trial a_t_now a_t_trial_county a_t_trial_evening v20.1 v20.2.1 v20.2.2.1, oX1 a_t_trial_county v20.2.2.2.1 v20.2.2.2.2.1 v20.2.2.2.2.2.1 a_t_trial_county_lists a_t_trial_county_kindOf a_t_trial_county_goes a_t_trial_county_comes a_t_trial_county_likings, aI E a_t_trial_county_comes 6 v20.2.2.2.2.2.2.1, aI E a_t_trial_county_goes 6 v20.2.2.2.2.2.2.2.1, aI E a_t_trial_county_kindOf 6 v20.2.2.2.2.2.2.2.2.1, aI E a_t_trial_county_likings 24 v20.2.2.2.2.2.2.2.2.2.1, aI E a_t_trial_county_lists 4 v20.2.2.2.2.2.2.2.2.2.2, oX2 a_t_trial_evening a_t_trial_evening_hours a_t_trial_evening_openers y16 y17, aI E a_t_trial_evening_hours 4 y18, aI E a_t_trial_evening_openers 4 y19]) (st1 := [.ref a_t_trial_county]) C mv_X3_35 (k_X10_restart E a_t_trial a_t_trial_county a_t_trial_county_comes a_t_trial_county_goes a_t_trial_county_kindOf a_t_trial_county_likings a_t_trial_county_lists a_t_now a_t_now_comes a_t_now_goes a_t_now_kindOf a_t_now_likings a_t_now_lists a_t_trial_evening y5 y6 y7 y8 y9 y10 y11 y12 y13 y14 y15 c_t_now_houses c_t_now_comers c_t_now_evening r_t_now_comes r_t_now_goes r_t_now_kindOf r_t_now_likings r_t_now_lists v20 hv20) [16, 17, 18, 19, 20, 21, 22, 6, 7, 8, 9, 10, 11] rfl (by decide +kernel) rfl [none, none, none, none, none, none, some 7, some 8, some 9, some 10, some 11, some 12, none, none, none, none, some 0, some 1, some 2, some 3, some 4, some 5, some 6, none, none, none] 26 (by decide +kernel) rfl rfl 0 rfl rfl ⟨by decide, by decide⟩ ⟨rfl, rfl⟩ ⟨Nat.zero_le _, Nat.zero_le _⟩ rfl rfl rfl (Nat.le_of_ble_eq_true rfl) dX3_levelsLeft_25 ?_
      refine g_iload_n (pc := 28) C dX3_levelsLeft_28 1 rfl ?_
      refine g_iload_n (pc := 29) C dX3_levelsLeft_29 2 rfl ?_
      refine g_iload (pc := 30) C dX3_levelsLeft_30 5 rfl ?_
      obtain ⟨v21, hv21, h⟩ := o_bnd h
      refine g_callV (pc := 32) (ws' := [oX3 a_t a_t_now a_t_seen a_t_trial a_t_foretold c_t_question c_t_leftAtWorst, aQ E 4 a_t_foretold [a_t_foretold_0, a_t_foretold_1, a_t_foretold_2, a_t_foretold_3], aI E a_t_foretold_0 40 y4, aI E a_t_foretold_1 40 r_t_foretold_1, aI E a_t_foretold_2 40 r_t_foretold_2, aI E a_t_foretold_3 40 r_t_foretold_3, oX1 a_t_now c_t_now_houses c_t_now_comers c_t_now_evening a_t_now_lists a_t_now_kindOf a_t_now_goes a_t_now_comes a_t_now_likings, aI E a_t_now_comes 6 r_t_now_comes, aI E a_t_now_goes 6 r_t_now_goes, aI E a_t_now_kindOf 6 r_t_now_kindOf, aI E a_t_now_likings 24 r_t_now_likings, aI E a_t_now_lists 4 r_t_now_lists, oX7 a_t_seen c_t_seen_size a_t_seen_behind a_t_seen_where a_t_seen_hours, aI E a_t_seen_behind 6 r_t_seen_behind, aI E a_t_seen_hours 6 r_t_seen_hours, aI E a_t_seen_where 6 r_t_seen_where, oX10 a_t_trial a_t_now a_t_trial_county a_t_trial_evening v20.1 v20.2.1 v20.2.2.1, oX1 a_t_trial_county v20.2.2.2.1 v20.2.2.2.2.1 v20.2.2.2.2.2.1 a_t_trial_county_lists a_t_trial_county_kindOf a_t_trial_county_goes a_t_trial_county_comes a_t_trial_county_likings, aI E a_t_trial_county_comes 6 v20.2.2.2.2.2.2.1, aI E a_t_trial_county_goes 6 v20.2.2.2.2.2.2.2.1, aI E a_t_trial_county_kindOf 6 v20.2.2.2.2.2.2.2.2.1, aI E a_t_trial_county_likings 24 v21, aI E a_t_trial_county_lists 4 v20.2.2.2.2.2.2.2.2.2.2, oX2 a_t_trial_evening a_t_trial_evening_hours a_t_trial_evening_openers y16 y17, aI E a_t_trial_evening_hours 4 y18, aI E a_t_trial_evening_openers 4 y19]) (st1 := []) C mv_X3_61 (k_X1_setLiked E a_t_trial_county a_t_trial_county_likings a_t_trial_county_lists a_t_trial_county_kindOf a_t_trial_county_goes a_t_trial_county_comes v20.2.2.2.1 v20.2.2.2.2.1 v20.2.2.2.2.2.1 v20.2.2.2.2.2.2.2.2.2.1 x1 x2 y3 v21 hv21) [17, 21] rfl (by decide +kernel) rfl [none, none, none, none, none, none, none, none, none, none, none, none, none, none, none, none, none, some 0, none, none, none, some 1, none, none, none, none] 26 (by decide +kernel) rfl rfl 0 rfl rfl ⟨by decide, by decide⟩ ⟨rfl, rfl⟩ ⟨Nat.zero_le _, Nat.zero_le _⟩ rfl rfl rfl (Nat.le_of_ble_eq_true rfl) dX3_levelsLeft_32 ?_
      refine g_aload_n (pc := 35) C dX3_levelsLeft_35 0 rfl ?_
      refine g_aload_n (pc := 36) C dX3_levelsLeft_36 0 rfl ?_
      refine g_get (pc := 37) 0 C fl_X3_11 rfl rfl dX3_levelsLeft_37 ?_
      refine g_iconst (pc := 40) (v := 0) C dX3_levelsLeft_40 (by decide) ?_
      refine g_aald (pc := 41) (v := a_t_foretold_0) 1 C rfl rfl rfl (by show inb 0 4; decide) rfl dX3_levelsLeft_41 ?_
      refine g_iload (pc := 42) C dX3_levelsLeft_42 4 rfl ?_
      obtain ⟨v22, hv22, h⟩ := o_bnd h
      refine g_callV (pc := 44) (ws' := [oX3 a_t a_t_now a_t_seen a_t_trial a_t_foretold c_t_question c_t_leftAtWorst, aQ E 4 a_t_foretold [a_t_foretold_0, a_t_foretold_1, a_t_foretold_2, a_t_foretold_3], aI E a_t_foretold_0 40 v22.2.2.2.2.2.2, aI E a_t_foretold_1 40 r_t_foretold_1, aI E a_t_foretold_2 40 r_t_foretold_2, aI E a_t_foretold_3 40 r_t_foretold_3, oX1 a_t_now c_t_now_houses c_t_now_comers c_t_now_evening a_t_now_lists a_t_now_kindOf a_t_now_goes a_t_now_comes a_t_now_likings, aI E a_t_now_comes 6 r_t_now_comes, aI E a_t_now_goes 6 r_t_now_goes, aI E a_t_now_kindOf 6 r_t_now_kindOf, aI E a_t_now_likings 24 r_t_now_likings, aI E a_t_now_lists 4 r_t_now_lists, oX7 a_t_seen c_t_seen_size a_t_seen_behind a_t_seen_where a_t_seen_hours, aI E a_t_seen_behind 6 r_t_seen_behind, aI E a_t_seen_hours 6 r_t_seen_hours, aI E a_t_seen_where 6 r_t_seen_where, oX10 a_t_trial a_t_now a_t_trial_county a_t_trial_evening v20.1 v20.2.1 v20.2.2.1, oX1 a_t_trial_county v20.2.2.2.1 v20.2.2.2.2.1 v22.1 a_t_trial_county_lists a_t_trial_county_kindOf a_t_trial_county_goes a_t_trial_county_comes a_t_trial_county_likings, aI E a_t_trial_county_comes 6 v20.2.2.2.2.2.2.1, aI E a_t_trial_county_goes 6 v20.2.2.2.2.2.2.2.1, aI E a_t_trial_county_kindOf 6 v20.2.2.2.2.2.2.2.2.1, aI E a_t_trial_county_likings 24 v22.2.1, aI E a_t_trial_county_lists 4 v20.2.2.2.2.2.2.2.2.2.2, oX2 a_t_trial_evening a_t_trial_evening_hours a_t_trial_evening_openers v22.2.2.1 v22.2.2.2.1, aI E a_t_trial_evening_hours 4 v22.2.2.2.2.1, aI E a_t_trial_evening_openers 4 v22.2.2.2.2.2.1]) (st1 := []) C mv_X3_47 (k_X3_foretell E a_t a_t_now a_t_trial a_t_trial_county a_t_trial_county_comes a_t_trial_county_goes a_t_trial_county_kindOf a_t_trial_county_likings a_t_trial_county_lists a_t_trial_evening a_t_trial_evening_hours a_t_trial_evening_openers a_t_foretold_0 a_t_seen a_t_foretold a_t_now_lists a_t_now_kindOf a_t_now_goes a_t_now_comes a_t_now_likings c_t_question c_t_leftAtWorst c_t_now_houses c_t_now_comers c_t_now_evening v20.1 v20.2.1 v20.2.2.1 v20.2.2.2.1 v20.2.2.2.2.1 v20.2.2.2.2.2.1 v20.2.2.2.2.2.2.1 v20.2.2.2.2.2.2.2.1 v20.2.2.2.2.2.2.2.2.1 v21 v20.2.2.2.2.2.2.2.2.2.2 y16 y17 y18 y19 y4 v1 v22 hv22) [0, 6, 16, 17, 18, 19, 20, 21, 22, 23, 24, 25, 2] rfl (by decide +kernel) rfl [some 0, none, some 12, none, none, none, some 1, none, none, none, none, none, none, none, none, none, some 2, some 3, some 4, some 5, some 6, some 7, some 8, some 9, some 10, some 11] 26 (by decide +kernel) rfl rfl 0 rfl rfl ⟨by decide, by decide⟩ ⟨rfl, rfl⟩ ⟨Nat.zero_le _, Nat.zero_le _⟩ rfl rfl rfl (Nat.le_of_ble_eq_true rfl) dX3_levelsLeft_44 ?_
      refine g_aload_n (pc := 47) C dX3_levelsLeft_47 0 rfl ?_
      refine g_get (pc := 48) 0 C fl_X3_27 rfl rfl dX3_levelsLeft_48 ?_
      refine g_aload_n (pc := 51) C dX3_levelsLeft_51 0 rfl ?_
      refine g_get (pc := 52) 0 C fl_X3_11 rfl rfl dX3_levelsLeft_52 ?_
      refine g_iconst (pc := 55) (v := 0) C dX3_levelsLeft_55 (by decide) ?_
      refine g_aald (pc := 56) (v := a_t_foretold_0) 1 C rfl rfl rfl (by show inb 0 4; decide) rfl dX3_levelsLeft_56 ?_
      obtain ⟨v23, hv23, h⟩ := o_bnd h
      refine g_callV (pc := 57) (ws' := [oX3 a_t a_t_now a_t_seen a_t_trial a_t_foretold c_t_question c_t_leftAtWorst, aQ E 4 a_t_foretold [a_t_foretold_0, a_t_foretold_1, a_t_foretold_2, a_t_foretold_3], aI E a_t_foretold_0 40 v22.2.2.2.2.2.2, aI E a_t_foretold_1 40 r_t_foretold_1, aI E a_t_foretold_2 40 r_t_foretold_2, aI E a_t_foretold_3 40 r_t_foretold_3, oX1 a_t_now c_t_now_houses c_t_now_comers c_t_now_evening a_t_now_lists a_t_now_kindOf a_t_now_goes a_t_now_comes a_t_now_likings, aI E a_t_now_comes 6 r_t_now_comes, aI E a_t_now_goes 6 r_t_now_goes, aI E a_t_now_kindOf 6 r_t_now_kindOf, aI E a_t_now_likings 24 r_t_now_likings, aI E a_t_now_lists 4 r_t_now_lists, oX7 a_t_seen c_t_seen_size a_t_seen_behind a_t_seen_where a_t_seen_hours, aI E a_t_seen_behind 6 r_t_seen_behind, aI E a_t_seen_hours 6 r_t_seen_hours, aI E a_t_seen_where 6 r_t_seen_where, oX10 a_t_trial a_t_now a_t_trial_county a_t_trial_evening v20.1 v20.2.1 v20.2.2.1, oX1 a_t_trial_county v20.2.2.2.1 v20.2.2.2.2.1 v22.1 a_t_trial_county_lists a_t_trial_county_kindOf a_t_trial_county_goes a_t_trial_county_comes a_t_trial_county_likings, aI E a_t_trial_county_comes 6 v20.2.2.2.2.2.2.1, aI E a_t_trial_county_goes 6 v20.2.2.2.2.2.2.2.1, aI E a_t_trial_county_kindOf 6 v20.2.2.2.2.2.2.2.2.1, aI E a_t_trial_county_likings 24 v22.2.1, aI E a_t_trial_county_lists 4 v20.2.2.2.2.2.2.2.2.2.2, oX2 a_t_trial_evening a_t_trial_evening_hours a_t_trial_evening_openers v22.2.2.1 v22.2.2.2.1, aI E a_t_trial_evening_hours 4 v22.2.2.2.2.1, aI E a_t_trial_evening_openers 4 v22.2.2.2.2.2.1]) (st1 := [.int v23]) C mv_X3_51 (k_X7_agreeWith E a_t_seen a_t_seen_behind a_t_seen_hours a_t_seen_where a_t_foretold_0 c_t_seen_size r_t_seen_behind r_t_seen_hours r_t_seen_where v22.2.2.2.2.2.2 v23 hv23) [12, 13, 14, 15, 2] rfl (by decide +kernel) rfl [none, none, some 4, none, none, none, none, none, none, none, none, none, some 0, some 1, some 2, some 3, none, none, none, none, none, none, none, none, none, none] 26 (by decide +kernel) rfl rfl 0 rfl rfl ⟨by decide, by decide⟩ ⟨rfl, rfl⟩ ⟨Nat.zero_le _, Nat.zero_le _⟩ rfl rfl rfl (Nat.le_of_ble_eq_true rfl) dX3_levelsLeft_57 ?_
      refine b_if_eq (pc := 60) 70 C dX3_levelsLeft_60 (by decide) h (fun _ h => ?_) (fun _ h => ?_)
      · refine g_iinc (pc := 70) (v := y3 + 1) (lv' := [(5, .int (y3 + 1)), (0, .ref a_t), (1, .int x1), (2, .int x2), (3, .int y2), (4, .int v1)]) C dX3_levelsLeft_70 5 rfl rfl (by decide) rfl ?_
        refine g_goto (pc := 73) 14 C dX3_levelsLeft_73 (by decide) ?_
        refine g_lv [1, 2, 3, 4, 5, 0] (lv' := [(0, .ref a_t), (1, .int x1), (2, .int x2), (3, .int y2), (4, .int v1), (5, .int (y3 + 1))]) rfl ?_
        exact ih _ _ _ _ _ _ _ _ _ _ _ _ _ _ _ _ _ _ _ h kk
      · refine g_iload_n (pc := 63) C dX3_levelsLeft_63 3 rfl ?_
        refine g_iconst (pc := 64) (v := 1) C dX3_levelsLeft_64 (by decide) ?_
        refine g_iload (pc := 65) C dX3_levelsLeft_65 5 rfl ?_
        refine g_ishl (pc := 67) C dX3_levelsLeft_67 ?_
        refine g_ior (pc := 68) C dX3_levelsLeft_68 ?_
        refine g_istore_n (pc := 69) (lv' := [(3, .int (y2 ||| ((1 : Int32) <<< (y3 &&& 31)))), (0, .ref a_t), (1, .int x1), (2, .int x2), (4, .int v1), (5, .int y3)]) C dX3_levelsLeft_69 (by decide) rfl ?_
        refine g_iinc (pc := 70) (v := y3 + 1) (lv' := [(5, .int (y3 + 1)), (3, .int (y2 ||| ((1 : Int32) <<< (y3 &&& 31)))), (0, .ref a_t), (1, .int x1), (2, .int x2), (4, .int v1)]) C dX3_levelsLeft_70 5 rfl rfl (by decide) rfl ?_
        refine g_goto (pc := 73) 14 C dX3_levelsLeft_73 (by decide) ?_
        refine g_lv [2, 3, 4, 1, 5, 0] (lv' := [(0, .ref a_t), (1, .int x1), (2, .int x2), (3, .int (y2 ||| ((1 : Int32) <<< (y3 &&& 31)))), (4, .int v1), (5, .int (y3 + 1))]) rfl ?_
        exact ih _ _ _ _ _ _ _ _ _ _ _ _ _ _ _ _ _ _ _ h kk
set_option maxHeartbeats 4000000 in
set_option maxRecDepth 100000 in
theorem k_X3_levelsLeft (E : Ev) (a_t a_t_foretold a_t_foretold_0 a_t_foretold_1 a_t_foretold_2 a_t_foretold_3 a_t_now a_t_now_comes a_t_now_goes a_t_now_kindOf a_t_now_likings a_t_now_lists a_t_seen a_t_seen_behind a_t_seen_hours a_t_seen_where a_t_trial a_t_trial_county a_t_trial_county_comes a_t_trial_county_goes a_t_trial_county_kindOf a_t_trial_county_likings a_t_trial_county_lists a_t_trial_evening a_t_trial_evening_hours a_t_trial_evening_openers : Nat) (c_t_question : Int32) (c_t_leftAtWorst : Int32) (r_t_foretold_0 : (Nat → Int32)) (r_t_foretold_1 : (Nat → Int32)) (r_t_foretold_2 : (Nat → Int32)) (r_t_foretold_3 : (Nat → Int32)) (c_t_now_houses : Int32) (c_t_now_comers : Int32) (c_t_now_evening : Int32) (r_t_now_comes : (Nat → Int32)) (r_t_now_goes : (Nat → Int32)) (r_t_now_kindOf : (Nat → Int32)) (r_t_now_likings : (Nat → Int32)) (r_t_now_lists : (Nat → Int32)) (c_t_seen_size : Int32) (r_t_seen_behind : (Nat → Int32)) (r_t_seen_hours : (Nat → Int32)) (r_t_seen_where : (Nat → Int32)) (c_t_trial_evenings : Int32) (c_t_trial_waited : Int32) (c_t_trial_firstFast : Int32) (c_t_trial_county_houses : Int32) (c_t_trial_county_comers : Int32) (c_t_trial_county_evening : Int32) (r_t_trial_county_comes : (Nat → Int32)) (r_t_trial_county_goes : (Nat → Int32)) (r_t_trial_county_kindOf : (Nat → Int32)) (r_t_trial_county_likings : (Nat → Int32)) (r_t_trial_county_lists : (Nat → Int32)) (c_t_trial_evening_begun : Int32) (c_t_trial_evening_waited : Int32) (r_t_trial_evening_hours : (Nat → Int32)) (r_t_trial_evening_openers : (Nat → Int32)) (x1 : Int32) (x2 : Int32) (v : Int32 × (Nat → Int32) × (Nat → Int32) × (Nat → Int32) × (Nat → Int32) × Int32 × Int32 × Int32 × Int32 × Int32 × Int32 × (Nat → Int32) × (Nat → Int32) × (Nat → Int32) × (Nat → Int32) × (Nat → Int32) × Int32 × Int32 × (Nat → Int32) × (Nat → Int32)) (h : f_X3_levelsLeft r_t_foretold_0 r_t_foretold_1 r_t_foretold_2 r_t_foretold_3 c_t_now_houses c_t_now_comers c_t_now_evening r_t_now_comes r_t_now_goes r_t_now_kindOf r_t_now_likings r_t_now_lists c_t_seen_size r_t_seen_behind r_t_seen_hours r_t_seen_where c_t_trial_evenings c_t_trial_waited c_t_trial_firstFast c_t_trial_county_houses c_t_trial_county_comers c_t_trial_county_evening r_t_trial_county_comes r_t_trial_county_goes r_t_trial_county_kindOf r_t_trial_county_likings r_t_trial_county_lists c_t_trial_evening_begun c_t_trial_evening_waited r_t_trial_evening_hours r_t_trial_evening_openers x1 x2 = some v) : Mt E yX3_levelsLeft cX3_levelsLeft 6 (some .int) rm_X3_levelsLeft [.ref a_t, .int x1, .int x2] [oX3 a_t a_t_now a_t_seen a_t_trial a_t_foretold c_t_question c_t_leftAtWorst, aQ E 4 a_t_foretold [a_t_foretold_0, a_t_foretold_1, a_t_foretold_2, a_t_foretold_3], aI E a_t_foretold_0 40 r_t_foretold_0, aI E a_t_foretold_1 40 r_t_foretold_1, aI E a_t_foretold_2 40 r_t_foretold_2, aI E a_t_foretold_3 40 r_t_foretold_3, oX1 a_t_now c_t_now_houses c_t_now_comers c_t_now_evening a_t_now_lists a_t_now_kindOf a_t_now_goes a_t_now_comes a_t_now_likings, aI E a_t_now_comes 6 r_t_now_comes, aI E a_t_now_goes 6 r_t_now_goes, aI E a_t_now_kindOf 6 r_t_now_kindOf, aI E a_t_now_likings 24 r_t_now_likings, aI E a_t_now_lists 4 r_t_now_lists, oX7 a_t_seen c_t_seen_size a_t_seen_behind a_t_seen_where a_t_seen_hours, aI E a_t_seen_behind 6 r_t_seen_behind, aI E a_t_seen_hours 6 r_t_seen_hours, aI E a_t_seen_where 6 r_t_seen_where, oX10 a_t_trial a_t_now a_t_trial_county a_t_trial_evening c_t_trial_evenings c_t_trial_waited c_t_trial_firstFast, oX1 a_t_trial_county c_t_trial_county_houses c_t_trial_county_comers c_t_trial_county_evening a_t_trial_county_lists a_t_trial_county_kindOf a_t_trial_county_goes a_t_trial_county_comes a_t_trial_county_likings, aI E a_t_trial_county_comes 6 r_t_trial_county_comes, aI E a_t_trial_county_goes 6 r_t_trial_county_goes, aI E a_t_trial_county_kindOf 6 r_t_trial_county_kindOf, aI E a_t_trial_county_likings 24 r_t_trial_county_likings, aI E a_t_trial_county_lists 4 r_t_trial_county_lists, oX2 a_t_trial_evening a_t_trial_evening_hours a_t_trial_evening_openers c_t_trial_evening_begun c_t_trial_evening_waited, aI E a_t_trial_evening_hours 4 r_t_trial_evening_hours, aI E a_t_trial_evening_openers 4 r_t_trial_evening_openers] [oX3 a_t a_t_now a_t_seen a_t_trial a_t_foretold c_t_question c_t_leftAtWorst, aQ E 4 a_t_foretold [a_t_foretold_0, a_t_foretold_1, a_t_foretold_2, a_t_foretold_3], aI E a_t_foretold_0 40 v.2.1, aI E a_t_foretold_1 40 v.2.2.1, aI E a_t_foretold_2 40 v.2.2.2.1, aI E a_t_foretold_3 40 v.2.2.2.2.1, oX1 a_t_now c_t_now_houses c_t_now_comers c_t_now_evening a_t_now_lists a_t_now_kindOf a_t_now_goes a_t_now_comes a_t_now_likings, aI E a_t_now_comes 6 r_t_now_comes, aI E a_t_now_goes 6 r_t_now_goes, aI E a_t_now_kindOf 6 r_t_now_kindOf, aI E a_t_now_likings 24 r_t_now_likings, aI E a_t_now_lists 4 r_t_now_lists, oX7 a_t_seen c_t_seen_size a_t_seen_behind a_t_seen_where a_t_seen_hours, aI E a_t_seen_behind 6 r_t_seen_behind, aI E a_t_seen_hours 6 r_t_seen_hours, aI E a_t_seen_where 6 r_t_seen_where, oX10 a_t_trial a_t_now a_t_trial_county a_t_trial_evening v.2.2.2.2.2.1 v.2.2.2.2.2.2.1 v.2.2.2.2.2.2.2.1, oX1 a_t_trial_county v.2.2.2.2.2.2.2.2.1 v.2.2.2.2.2.2.2.2.2.1 v.2.2.2.2.2.2.2.2.2.2.1 a_t_trial_county_lists a_t_trial_county_kindOf a_t_trial_county_goes a_t_trial_county_comes a_t_trial_county_likings, aI E a_t_trial_county_comes 6 v.2.2.2.2.2.2.2.2.2.2.2.1, aI E a_t_trial_county_goes 6 v.2.2.2.2.2.2.2.2.2.2.2.2.1, aI E a_t_trial_county_kindOf 6 v.2.2.2.2.2.2.2.2.2.2.2.2.2.1, aI E a_t_trial_county_likings 24 v.2.2.2.2.2.2.2.2.2.2.2.2.2.2.1, aI E a_t_trial_county_lists 4 v.2.2.2.2.2.2.2.2.2.2.2.2.2.2.2.1, oX2 a_t_trial_evening a_t_trial_evening_hours a_t_trial_evening_openers v.2.2.2.2.2.2.2.2.2.2.2.2.2.2.2.2.1 v.2.2.2.2.2.2.2.2.2.2.2.2.2.2.2.2.2.1, aI E a_t_trial_evening_hours 4 v.2.2.2.2.2.2.2.2.2.2.2.2.2.2.2.2.2.2.1, aI E a_t_trial_evening_openers 4 v.2.2.2.2.2.2.2.2.2.2.2.2.2.2.2.2.2.2.2] (some (.int v.1)) := by
  refine Mt.intro (lv := [(0, .ref a_t), (1, .int x1), (2, .int x2)]) (by decide +kernel) (Nat.le_of_ble_eq_true rfl) rfl (fun X C K => ?_)
  have C : CX E X cX3_levelsLeft RX3 6 rm_X3_levelsLeft := C
  rw [f_X3_levelsLeft] at h
  refine g_iconst (pc := 0) (v := 0) C dX3_levelsLeft_0 (by decide) ?_
  refine g_istore_n (pc := 1) (lv' := [(3, .int 0), (0, .ref a_t), (1, .int x1), (2, .int x2)]) C dX3_levelsLeft_1 (by decide) rfl ?_
  refine g_aload_n (pc := 2) C dX3_levelsLeft_2 1 rfl ?_
  refine g_get (pc := 3) 0 C fl_X3_27 rfl rfl dX3_levelsLeft_3 ?_
  obtain ⟨v1, hv1, h⟩ := o_bnd h
  refine g_callV (pc := 6) (ws' := [oX3 a_t a_t_now a_t_seen a_t_trial a_t_foretold c_t_question c_t_leftAtWorst, aQ E 4 a_t_foretold [a_t_foretold_0, a_t_foretold_1, a_t_foretold_2, a_t_foretold_3], aI E a_t_foretold_0 40 r_t_foretold_0, aI E a_t_foretold_1 40 r_t_foretold_1, aI E a_t_foretold_2 40 r_t_foretold_2, aI E a_t_foretold_3 40 r_t_foretold_3, oX1 a_t_now c_t_now_houses c_t_now_comers c_t_now_evening a_t_now_lists a_t_now_kindOf a_t_now_goes a_t_now_comes a_t_now_likings, aI E a_t_now_comes 6 r_t_now_comes, aI E a_t_now_goes 6 r_t_now_goes, aI E a_t_now_kindOf 6 r_t_now_kindOf, aI E a_t_now_likings 24 r_t_now_likings, aI E a_t_now_lists 4 r_t_now_lists, oX7 a_t_seen c_t_seen_size a_t_seen_behind a_t_seen_where a_t_seen_hours, aI E a_t_seen_behind 6 r_t_seen_behind, aI E a_t_seen_hours 6 r_t_seen_hours, aI E a_t_seen_where 6 r_t_seen_where, oX10 a_t_trial a_t_now a_t_trial_county a_t_trial_evening c_t_trial_evenings c_t_trial_waited c_t_trial_firstFast, oX1 a_t_trial_county c_t_trial_county_houses c_t_trial_county_comers c_t_trial_county_evening a_t_trial_county_lists a_t_trial_county_kindOf a_t_trial_county_goes a_t_trial_county_comes a_t_trial_county_likings, aI E a_t_trial_county_comes 6 r_t_trial_county_comes, aI E a_t_trial_county_goes 6 r_t_trial_county_goes, aI E a_t_trial_county_kindOf 6 r_t_trial_county_kindOf, aI E a_t_trial_county_likings 24 r_t_trial_county_likings, aI E a_t_trial_county_lists 4 r_t_trial_county_lists, oX2 a_t_trial_evening a_t_trial_evening_hours a_t_trial_evening_openers c_t_trial_evening_begun c_t_trial_evening_waited, aI E a_t_trial_evening_hours 4 r_t_trial_evening_hours, aI E a_t_trial_evening_openers 4 r_t_trial_evening_openers]) (st1 := [.int v1]) C mv_X3_57 (k_X7_reach E a_t_seen a_t_seen_behind a_t_seen_where a_t_seen_hours c_t_seen_size r_t_seen_behind v1 hv1) [12, 13] rfl (by decide +kernel) rfl [none, none, none, none, none, none, none, none, none, none, none, none, some 0, some 1, none, none, none, none, none, none, none, none, none, none, none, none] 26 (by decide +kernel) rfl rfl 0 rfl rfl ⟨by decide, by decide⟩ ⟨rfl, rfl⟩ ⟨Nat.zero_le _, Nat.zero_le _⟩ rfl rfl rfl (Nat.le_of_ble_eq_true rfl) dX3_levelsLeft_6 ?_
  refine g_istore (pc := 9) (lv' := [(4, .int v1), (3, .int 0), (0, .ref a_t), (1, .int x1), (2, .int x2)]) C dX3_levelsLeft_9 (by decide) rfl ?_
  refine g_iconst (pc := 11) (v := 0) C dX3_levelsLeft_11 (by decide) ?_
  refine g_istore (pc := 12) (lv' := [(5, .int 0), (4, .int v1), (3, .int 0), (0, .ref a_t), (1, .int x1), (2, .int x2)]) C dX3_levelsLeft_12 (by decide) rfl ?_
  obtain ⟨v25, hv25, h⟩ := o_bnd h
  refine g_lv [3, 4, 5, 2, 1, 0] (lv' := [(0, .ref a_t), (1, .int x1), (2, .int x2), (3, .int 0), (4, .int v1), (5, .int 0)]) rfl ?_
  refine lp_X3_levelsLeft_14 c_t_question c_t_leftAtWorst r_t_foretold_1 r_t_foretold_2 r_t_foretold_3 c_t_now_houses c_t_now_comers c_t_now_evening r_t_now_comes r_t_now_goes r_t_now_kindOf r_t_now_likings r_t_now_lists c_t_seen_size r_t_seen_behind r_t_seen_hours r_t_seen_where x1 x2 v1 C 400 _ _ _ _ _ _ _ _ _ _ _ _ _ _ _ _ _ _ _ hv25 ?_
  refine g_iload_n (pc := 76) C dX3_levelsLeft_76 0 rfl ?_
  obtain rfl := Option.some.inj h
  exact g_iret (pc := 77) C K dX3_levelsLeft_77
theorem dX3_worstLeft_0 : decode cX3_worstLeft 0 = .ok (.iconst 0, 1) := by decide +kernel
theorem dX3_worstLeft_1 : decode cX3_worstLeft 1 = .ok (.istore_n 3, 1) := by decide +kernel
theorem dX3_worstLeft_2 : decode cX3_worstLeft 2 = .ok (.iconst 0, 1) := by decide +kernel
theorem dX3_worstLeft_3 : decode cX3_worstLeft 3 = .ok (.istore 4, 2) := by decide +kernel
theorem dX3_worstLeft_5 : decode cX3_worstLeft 5 = .ok (.iload 4, 2) := by decide +kernel
theorem dX3_worstLeft_7 : decode cX3_worstLeft 7 = .ok (.bipush 7, 2) := by decide +kernel
theorem dX3_worstLeft_9 : decode cX3_worstLeft 9 = .ok (.if_icmp .gt 61, 3) := by decide +kernel
theorem dX3_worstLeft_12 : decode cX3_worstLeft 12 = .ok (.iconst 0, 1) := by decide +kernel
theorem dX3_worstLeft_13 : decode cX3_worstLeft 13 = .ok (.istore 5, 2) := by decide +kernel
theorem dX3_worstLeft_15 : decode cX3_worstLeft 15 = .ok (.iconst 0, 1) := by decide +kernel
theorem dX3_worstLeft_16 : decode cX3_worstLeft 16 = .ok (.istore 6, 2) := by decide +kernel
theorem dX3_worstLeft_18 : decode cX3_worstLeft 18 = .ok (.iload 6, 2) := by decide +kernel
theorem dX3_worstLeft_20 : decode cX3_worstLeft 20 = .ok (.iconst 4, 1) := by decide +kernel
theorem dX3_worstLeft_21 : decode cX3_worstLeft 21 = .ok (.if_icmp .ge 36, 3) := by decide +kernel
theorem dX3_worstLeft_24 : decode cX3_worstLeft 24 = .ok (.iload_n 1, 1) := by decide +kernel
theorem dX3_worstLeft_25 : decode cX3_worstLeft 25 = .ok (.iload 6, 2) := by decide +kernel
theorem dX3_worstLeft_27 : decode cX3_worstLeft 27 = .ok (.ishr, 1) := by decide +kernel
theorem dX3_worstLeft_28 : decode cX3_worstLeft 28 = .ok (.iconst 1, 1) := by decide +kernel
theorem dX3_worstLeft_29 : decode cX3_worstLeft 29 = .ok (.iand, 1) := by decide +kernel
theorem dX3_worstLeft_30 : decode cX3_worstLeft 30 = .ok (.iconst 1, 1) := by decide +kernel
theorem dX3_worstLeft_31 : decode cX3_worstLeft 31 = .ok (.if_icmp .ne 20, 3) := by decide +kernel
theorem dX3_worstLeft_34 : decode cX3_worstLeft 34 = .ok (.aload_n 0, 1) := by decide +kernel
theorem dX3_worstLeft_35 : decode cX3_worstLeft 35 = .ok (.getfield 11, 3) := by decide +kernel
theorem dX3_worstLeft_38 : decode cX3_worstLeft 38 = .ok (.iload 6, 2) := by decide +kernel
theorem dX3_worstLeft_40 : decode cX3_worstLeft 40 = .ok (.aaload, 1) := by decide +kernel
theorem dX3_worstLeft_41 : decode cX3_worstLeft 41 = .ok (.iload_n 2, 1) := by decide +kernel
theorem dX3_worstLeft_42 : decode cX3_worstLeft 42 = .ok (.iaload, 1) := by decide +kernel
theorem dX3_worstLeft_43 : decode cX3_worstLeft 43 = .ok (.iload 4, 2) := by decide +kernel
theorem dX3_worstLeft_45 : decode cX3_worstLeft 45 = .ok (.if_icmp .ne 6, 3) := by decide +kernel
theorem dX3_worstLeft_48 : decode cX3_worstLeft 48 = .ok (.iinc 5 1, 3) := by decide +kernel
theorem dX3_worstLeft_51 : decode cX3_worstLeft 51 = .ok (.iinc 6 1, 3) := by decide +kernel
theorem dX3_worstLeft_54 : decode cX3_worstLeft 54 = .ok (.goto (-36), 3) := by decide +kernel
theorem dX3_worstLeft_57 : decode cX3_worstLeft 57 = .ok (.iload_n 3, 1) := by decide +kernel
theorem dX3_worstLeft_58 : decode cX3_worstLeft 58 = .ok (.iload 5, 2) := by decide +kernel
theorem dX3_worstLeft_60 : decode cX3_worstLeft 60 = .ok (.invokestatic 78, 3) := by decide +kernel
theorem dX3_worstLeft_63 : decode cX3_worstLeft 63 = .ok (.istore_n 3, 1) := by decide +kernel
theorem dX3_worstLeft_64 : decode cX3_worstLeft 64 = .ok (.iinc 4 1, 3) := by decide +kernel
theorem dX3_worstLeft_67 : decode cX3_worstLeft 67 = .ok (.goto (-62), 3) := by decide +kernel
theorem dX3_worstLeft_70 : decode cX3_worstLeft 70 = .ok (.iload_n 3, 1) := by decide +kernel
theorem dX3_worstLeft_71 : decode cX3_worstLeft 71 = .ok (.ireturn, 1) := by decide +kernel
def L_X3_worstLeft_18 (r_t_foretold_0 : (Nat → Int32)) (r_t_foretold_1 : (Nat → Int32)) (r_t_foretold_2 : (Nat → Int32)) (r_t_foretold_3 : (Nat → Int32)) (x1 : Int32) (x2 : Int32) (y2 : Int32) : Nat → Int32 → Int32 → Option (Int32)
  | 0, _, _ => none
  | n + 1, y3, y4 =>
    if 4 ≤ y4 then
      (some y3)
    else
      (if ((x1 >>> (y4 &&& 31)) &&& 1) = 1 then
        ((if y4 = 0 then
          (if inb x2 40 then
            (if (r_t_foretold_0 (ix x2)) = y2 then
              (L_X3_worstLeft_18 r_t_foretold_0 r_t_foretold_1 r_t_foretold_2 r_t_foretold_3 x1 x2 y2 n (y3 + 1) (y4 + 1))
            else
              (L_X3_worstLeft_18 r_t_foretold_0 r_t_foretold_1 r_t_foretold_2 r_t_foretold_3 x1 x2 y2 n y3 (y4 + 1)))
          else none)
        else
          (if y4 = 1 then
            (if inb x2 40 then
              (if (r_t_foretold_1 (ix x2)) = y2 then
                (L_X3_worstLeft_18 r_t_foretold_0 r_t_foretold_1 r_t_foretold_2 r_t_foretold_3 x1 x2 y2 n (y3 + 1) (y4 + 1))
              else
                (L_X3_worstLeft_18 r_t_foretold_0 r_t_foretold_1 r_t_foretold_2 r_t_foretold_3 x1 x2 y2 n y3 (y4 + 1)))
            else none)
          else
            (if y4 = 2 then
              (if inb x2 40 then
                (if (r_t_foretold_2 (ix x2)) = y2 then
                  (L_X3_worstLeft_18 r_t_foretold_0 r_t_foretold_1 r_t_foretold_2 r_t_foretold_3 x1 x2 y2 n (y3 + 1) (y4 + 1))
                else
                  (L_X3_worstLeft_18 r_t_foretold_0 r_t_foretold_1 r_t_foretold_2 r_t_foretold_3 x1 x2 y2 n y3 (y4 + 1)))
              else none)
            else
              (if y4 = 3 then
                (if inb x2 40 then
                  (if (r_t_foretold_3 (ix x2)) = y2 then
                    (L_X3_worstLeft_18 r_t_foretold_0 r_t_foretold_1 r_t_foretold_2 r_t_foretold_3 x1 x2 y2 n (y3 + 1) (y4 + 1))
                  else
                    (L_X3_worstLeft_18 r_t_foretold_0 r_t_foretold_1 r_t_foretold_2 r_t_foretold_3 x1 x2 y2 n y3 (y4 + 1)))
                else none)
              else
                none)))))
      else
        (L_X3_worstLeft_18 r_t_foretold_0 r_t_foretold_1 r_t_foretold_2 r_t_foretold_3 x1 x2 y2 n y3 (y4 + 1)))
def L_X3_worstLeft_5 (r_t_foretold_0 : (Nat → Int32)) (r_t_foretold_1 : (Nat → Int32)) (r_t_foretold_2 : (Nat → Int32)) (r_t_foretold_3 : (Nat → Int32)) (x1 : Int32) (x2 : Int32) : Nat → Int32 → Int32 → Option (Int32)
  | 0, _, _ => none
  | n + 1, y1, y2 =>
    if 7 < y2 then
      (some y1)
    else
      ((L_X3_worstLeft_18 r_t_foretold_0 r_t_foretold_1 r_t_foretold_2 r_t_foretold_3 x1 x2 y2 400 0 0).bind (fun (v7 : Int32) =>
        L_X3_worstLeft_5 r_t_foretold_0 r_t_foretold_1 r_t_foretold_2 r_t_foretold_3 x1 x2 n (if y1 < v7 then v7 else y1) (y2 + 1)))
def f_X3_worstLeft (r_t_foretold_0 : (Nat → Int32)) (r_t_foretold_1 : (Nat → Int32)) (r_t_foretold_2 : (Nat → Int32)) (r_t_foretold_3 : (Nat → Int32)) (x1 : Int32) (x2 : Int32) : Option (Int32) :=
  (L_X3_worstLeft_5 r_t_foretold_0 r_t_foretold_1 r_t_foretold_2 r_t_foretold_3 x1 x2 400 0 0).bind (fun (v9 : Int32) =>
    some v9)
abbrev rm_X3_worstLeft : Room := { frames := 1, cells := 0, slots := 0, locals := 60 }
set_option maxHeartbeats 4000000 in
set_option maxRecDepth 100000 in
theorem lp_X3_worstLeft_18 {E : Ev} {X : Cx} {a_t a_t_foretold a_t_foretold_0 a_t_foretold_1 a_t_foretold_2 a_t_foretold_3 a_t_now a_t_seen a_t_trial : Nat} (c_t_question : Int32) (c_t_leftAtWorst : Int32) (r_t_foretold_0 : (Nat → Int32)) (r_t_foretold_1 : (Nat → Int32)) (r_t_foretold_2 : (Nat → Int32)) (r_t_foretold_3 : (Nat → Int32)) (x1 : Int32) (x2 : Int32) (y1 : Int32) (y2 : Int32) (C : CX E X cX3_worstLeft RX3 7 rm_X3_worstLeft) : ∀ (n : Nat) (y3 : Int32) (y4 : Int32) (v : Int32), L_X3_worstLeft_18 r_t_foretold_0 r_t_foretold_1 r_t_foretold_2 r_t_foretold_3 x1 x2 y2 n y3 y4 = some v → G E X 0 0 [oX3 a_t a_t_now a_t_seen a_t_trial a_t_foretold c_t_question c_t_leftAtWorst, aQ E 4 a_t_foretold [a_t_foretold_0, a_t_foretold_1, a_t_foretold_2, a_t_foretold_3], aI E a_t_foretold_0 40 r_t_foretold_0, aI E a_t_foretold_1 40 r_t_foretold_1, aI E a_t_foretold_2 40 r_t_foretold_2, aI E a_t_foretold_3 40 r_t_foretold_3] [(0, .ref a_t), (1, .int x1), (2, .int x2), (3, .int y1), (4, .int y2), (5, .int v)] 57 [] → G E X 0 0 [oX3 a_t a_t_now a_t_seen a_t_trial a_t_foretold c_t_question c_t_leftAtWorst, aQ E 4 a_t_foretold [a_t_foretold_0, a_t_foretold_1, a_t_foretold_2, a_t_foretold_3], aI E a_t_foretold_0 40 r_t_foretold_0, aI E a_t_foretold_1 40 r_t_foretold_1, aI E a_t_foretold_2 40 r_t_foretold_2, aI E a_t_foretold_3 40 r_t_foretold_3] [(0, .ref a_t), (1, .int x1), (2, .int x2), (3, .int y1), (4, .int y2), (5, .int y3), (6, .int y4)] 18 [] := by
  intro n
  induction n with
  | zero => intro _ _ _ h; cases h
  | succ n ih =>
    intro y3 y4 v h kk
    rw [L_X3_worstLeft_18] at h
    refine g_iload (pc := 18) C dX3_worstLeft_18 6 rfl ?_
    refine g_iconst (pc := 20) (v := 4) C dX3_worstLeft_20 (by decide) ?_
    refine b_icmp_ge (pc := 21) 57 C dX3_worstLeft_21 (by decide) h (fun _ h => ?_) (fun _ h => ?_)
    · obtain rfl := Option.some.inj h
      refine g_lv [0, 1, 2, 3, 4, 5] (lv' := [(0, .ref a_t), (1, .int x1), (2, .int x2), (3, .int y1), (4, .int y2), (5, .int y3)]) rfl ?_
      exact kk
    · refine g_iload_n (pc := 24) C dX3_worstLeft_24 1 rfl ?_
      refine g_iload (pc := 25) C dX3_worstLeft_25 6 rfl ?_
      refine g_ishr (pc := 27) C dX3_worstLeft_27 ?_
      refine g_iconst (pc := 28) (v := 1) C dX3_worstLeft_28 (by decide) ?_
      refine g_iand (pc := 29) C dX3_worstLeft_29 ?_
      refine g_iconst (pc := 30) (v := 1) C dX3_worstLeft_30 (by decide) ?_
      refine b_icmp_ne (pc := 31) 51 C dX3_worstLeft_31 (by decide) h (fun _ h => ?_) (fun _ h => ?_)
      · refine g_iinc (pc := 51) (v := y4 + 1) (lv' := [(6, .int (y4 + 1)), (0, .ref a_t), (1, .int x1), (2, .int x2), (3, .int y1), (4, .int y2), (5, .int y3)]) C dX3_worstLeft_51 6 rfl rfl (by decide) rfl ?_
        refine g_goto (pc := 54) 18 C dX3_worstLeft_54 (by decide) ?_
        refine g_lv [1, 2, 3, 4, 5, 6, 0] (lv' := [(0, .ref a_t), (1, .int x1), (2, .int x2), (3, .int y1), (4, .int y2), (5, .int y3), (6, .int (y4 + 1))]) rfl ?_
        exact ih _ _ _ h kk
      · refine g_aload_n (pc := 34) C dX3_worstLeft_34 0 rfl ?_
        refine g_get (pc := 35) 0 C fl_X3_11 rfl rfl dX3_worstLeft_35 ?_
        refine g_iload (pc := 38) C dX3_worstLeft_38 6 rfl ?_
        rcases o_ite h with ⟨c5, h⟩ | ⟨_, h⟩
        · refine g_aald (pc := 40) (v := a_t_foretold_0) 1 C rfl rfl rfl (by rw [c5]; show inb 0 4; decide) (by rw [c5]; rfl) dX3_worstLeft_40 ?_
          refine g_iload_n (pc := 41) C dX3_worstLeft_41 2 rfl ?_
          refine b_iald (pc := 42) 2 C rfl dX3_worstLeft_42 h (fun _ h => ?_)
          refine g_iload (pc := 43) C dX3_worstLeft_43 4 rfl ?_
          refine b_icmp_ne (pc := 45) 51 C dX3_worstLeft_45 (by decide) h (fun _ h => ?_) (fun _ h => ?_)
          · refine g_iinc (pc := 51) (v := y4 + 1) (lv' := [(6, .int (y4 + 1)), (0, .ref a_t), (1, .int x1), (2, .int x2), (3, .int y1), (4, .int y2), (5, .int y3)]) C dX3_worstLeft_51 6 rfl rfl (by decide) rfl ?_
            refine g_goto (pc := 54) 18 C dX3_worstLeft_54 (by decide) ?_
            refine g_lv [1, 2, 3, 4, 5, 6, 0] (lv' := [(0, .ref a_t), (1, .int x1), (2, .int x2), (3, .int y1), (4, .int y2), (5, .int y3), (6, .int (y4 + 1))]) rfl ?_
            exact ih _ _ _ h kk
          · refine g_iinc (pc := 48) (v := y3 + 1) (lv' := [(5, .int (y3 + 1)), (0, .ref a_t), (1, .int x1), (2, .int x2), (3, .int y1), (4, .int y2), (6, .int y4)]) C dX3_worstLeft_48 5 rfl rfl (by decide) rfl ?_
            refine g_iinc (pc := 51) (v := y4 + 1) (lv' := [(6, .int (y4 + 1)), (5, .int (y3 + 1)), (0, .ref a_t), (1, .int x1), (2, .int x2), (3, .int y1), (4, .int y2)]) C dX3_worstLeft_51 6 rfl rfl (by decide) rfl ?_
            refine g_goto (pc := 54) 18 C dX3_worstLeft_54 (by decide) ?_
            refine g_lv [2, 3, 4, 5, 6, 1, 0] (lv' := [(0, .ref a_t), (1, .int x1), (2, .int x2), (3, .int y1), (4, .int y2), (5, .int (y3 + 1)), (6, .int (y4 + 1))]) rfl ?_
            exact ih _ _ _ h kk
        · rcases o_ite h with ⟨c5, h⟩ | ⟨_, h⟩
          · refine g_aald (pc := 40) (v := a_t_foretold_1) 1 C rfl rfl rfl (by rw [c5]; show inb 1 4; decide) (by rw [c5]; rfl) dX3_worstLeft_40 ?_
            refine g_iload_n (pc := 41) C dX3_worstLeft_41 2 rfl ?_
            refine b_iald (pc := 42) 3 C rfl dX3_worstLeft_42 h (fun _ h => ?_)
            refine g_iload (pc := 43) C dX3_worstLeft_43 4 rfl ?_
            refine b_icmp_ne (pc := 45) 51 C dX3_worstLeft_45 (by decide) h (fun _ h => ?_) (fun _ h => ?_)
            · refine g_iinc (pc := 51) (v := y4 + 1) (lv' := [(6, .int (y4 + 1)), (0, .ref a_t), (1, .int x1), (2, .int x2), (3, .int y1), (4, .int y2), (5, .int y3)]) C dX3_worstLeft_51 6 rfl rfl (by decide) rfl ?_
              refine g_goto (pc := 54) 18 C dX3_worstLeft_54 (by decide) ?_
              refine g_lv [1, 2, 3, 4, 5, 6, 0] (lv' := [(0, .ref a_t), (1, .int x1), (2, .int x2), (3, .int y1), (4, .int y2), (5, .int y3), (6, .int (y4 + 1))]) rfl ?_
              exact ih _ _ _ h kk
            · refine g_iinc (pc := 48) (v := y3 + 1) (lv' := [(5, .int (y3 + 1)), (0, .ref a_t), (1, .int x1), (2, .int x2), (3, .int y1), (4, .int y2), (6, .int y4)]) C dX3_worstLeft_48 5 rfl rfl (by decide) rfl ?_
              refine g_iinc (pc := 51) (v := y4 + 1) (lv' := [(6, .int (y4 + 1)), (5, .int (y3 + 1)), (0, .ref a_t), (1, .int x1), (2, .int x2), (3, .int y1), (4, .int y2)]) C dX3_worstLeft_51 6 rfl rfl (by decide) rfl ?_
              refine g_goto (pc := 54) 18 C dX3_worstLeft_54 (by decide) ?_
              refine g_lv [2, 3, 4, 5, 6, 1, 0] (lv' := [(0, .ref a_t), (1, .int x1), (2, .int x2), (3, .int y1), (4, .int y2), (5, .int (y3 + 1)), (6, .int (y4 + 1))]) rfl ?_
              exact ih _ _ _ h kk
          · rcases o_ite h with ⟨c5, h⟩ | ⟨_, h⟩
            · refine g_aald (pc := 40) (v := a_t_foretold_2) 1 C rfl rfl rfl (by rw [c5]; show inb 2 4; decide) (by rw [c5]; rfl) dX3_worstLeft_40 ?_
              refine g_iload_n (pc := 41) C dX3_worstLeft_41 2 rfl ?_
              refine b_iald (pc := 42) 4 C rfl dX3_worstLeft_42 h (fun _ h => ?_)
              refine g_iload (pc := 43) C dX3_worstLeft_43 4 rfl ?_
              refine b_icmp_ne (pc := 45) 51 C dX3_worstLeft_45 (by decide) h (fun _ h => ?_) (fun _ h => ?_)
              · refine g_iinc (pc := 51) (v := y4 + 1) (lv' := [(6, .int (y4 + 1)), (0, .ref a_t), (1, .int x1), (2, .int x2), (3, .int y1), (4, .int y2), (5, .int y3)]) C dX3_worstLeft_51 6 rfl rfl (by decide) rfl ?_
                refine g_goto (pc := 54) 18 C dX3_worstLeft_54 (by decide) ?_
                refine g_lv [1, 2, 3, 4, 5, 6, 0] (lv' := [(0, .ref a_t), (1, .int x1), (2, .int x2), (3, .int y1), (4, .int y2), (5, .int y3), (6, .int (y4 + 1))]) rfl ?_
                exact ih _ _ _ h kk
              · refine g_iinc (pc := 48) (v := y3 + 1) (lv' := [(5, .int (y3 + 1)), (0, .ref a_t), (1, .int x1), (2, .int x2), (3, .int y1), (4, .int y2), (6, .int y4)]) C dX3_worstLeft_48 5 rfl rfl (by decide) rfl ?_
                refine g_iinc (pc := 51) (v := y4 + 1) (lv' := [(6, .int (y4 + 1)), (5, .int (y3 + 1)), (0, .ref a_t), (1, .int x1), (2, .int x2), (3, .int y1), (4, .int y2)]) C dX3_worstLeft_51 6 rfl rfl (by decide) rfl ?_
                refine g_goto (pc := 54) 18 C dX3_worstLeft_54 (by decide) ?_
                refine g_lv [2, 3, 4, 5, 6, 1, 0] (lv' := [(0, .ref a_t), (1, .int x1), (2, .int x2), (3, .int y1), (4, .int y2), (5, .int (y3 + 1)), (6, .int (y4 + 1))]) rfl ?_
                exact ih _ _ _ h kk
            · rcases o_ite h with ⟨c5, h⟩ | ⟨_, h⟩
              · refine g_aald (pc := 40) (v := a_t_foretold_3) 1 C rfl rfl rfl (by rw [c5]; show inb 3 4; decide) (by rw [c5]; rfl) dX3_worstLeft_40 ?_
                refine g_iload_n (pc := 41) C dX3_worstLeft_41 2 rfl ?_
                refine b_iald (pc := 42) 5 C rfl dX3_worstLeft_42 h (fun _ h => ?_)
                refine g_iload (pc := 43) C dX3_worstLeft_43 4 rfl ?_
                refine b_icmp_ne (pc := 45) 51 C dX3_worstLeft_45 (by decide) h (fun _ h => ?_) (fun _ h => ?_)
                · refine g_iinc (pc := 51) (v := y4 + 1) (lv' := [(6, .int (y4 + 1)), (0, .ref a_t), (1, .int x1), (2, .int x2), (3, .int y1), (4, .int y2), (5, .int y3)]) C dX3_worstLeft_51 6 rfl rfl (by decide) rfl ?_
                  refine g_goto (pc := 54) 18 C dX3_worstLeft_54 (by decide) ?_
                  refine g_lv [1, 2, 3, 4, 5, 6, 0] (lv' := [(0, .ref a_t), (1, .int x1), (2, .int x2), (3, .int y1), (4, .int y2), (5, .int y3), (6, .int (y4 + 1))]) rfl ?_
                  exact ih _ _ _ h kk
                · refine g_iinc (pc := 48) (v := y3 + 1) (lv' := [(5, .int (y3 + 1)), (0, .ref a_t), (1, .int x1), (2, .int x2), (3, .int y1), (4, .int y2), (6, .int y4)]) C dX3_worstLeft_48 5 rfl rfl (by decide) rfl ?_
                  refine g_iinc (pc := 51) (v := y4 + 1) (lv' := [(6, .int (y4 + 1)), (5, .int (y3 + 1)), (0, .ref a_t), (1, .int x1), (2, .int x2), (3, .int y1), (4, .int y2)]) C dX3_worstLeft_51 6 rfl rfl (by decide) rfl ?_
                  refine g_goto (pc := 54) 18 C dX3_worstLeft_54 (by decide) ?_
                  refine g_lv [2, 3, 4, 5, 6, 1, 0] (lv' := [(0, .ref a_t), (1, .int x1), (2, .int x2), (3, .int y1), (4, .int y2), (5, .int (y3 + 1)), (6, .int (y4 + 1))]) rfl ?_
                  exact ih _ _ _ h kk
              · cases h
set_option maxHeartbeats 4000000 in
set_option maxRecDepth 100000 in
theorem lp_X3_worstLeft_5 {E : Ev} {X : Cx} {a_t a_t_foretold a_t_foretold_0 a_t_foretold_1 a_t_foretold_2 a_t_foretold_3 a_t_now a_t_seen a_t_trial : Nat} (c_t_question : Int32) (c_t_leftAtWorst : Int32) (r_t_foretold_0 : (Nat → Int32)) (r_t_foretold_1 : (Nat → Int32)) (r_t_foretold_2 : (Nat → Int32)) (r_t_foretold_3 : (Nat → Int32)) (x1 : Int32) (x2 : Int32) (C : CX E X cX3_worstLeft RX3 7 rm_X3_worstLeft) : ∀ (n : Nat) (y1 : Int32) (y2 : Int32) (v : Int32), L_X3_worstLeft_5 r_t_foretold_0 r_t_foretold_1 r_t_foretold_2 r_t_foretold_3 x1 x2 n y1 y2 = some v → G E X 0 0 [oX3 a_t a_t_now a_t_seen a_t_trial a_t_foretold c_t_question c_t_leftAtWorst, aQ E 4 a_t_foretold [a_t_foretold_0, a_t_foretold_1, a_t_foretold_2, a_t_foretold_3], aI E a_t_foretold_0 40 r_t_foretold_0, aI E a_t_foretold_1 40 r_t_foretold_1, aI E a_t_foretold_2 40 r_t_foretold_2, aI E a_t_foretold_3 40 r_t_foretold_3] [(3, .int v)] 70 [] → G E X 0 0 [oX3 a_t a_t_now a_t_seen a_t_trial a_t_foretold c_t_question c_t_leftAtWorst, aQ E 4 a_t_foretold [a_t_foretold_0, a_t_foretold_1, a_t_foretold_2, a_t_foretold_3], aI E a_t_foretold_0 40 r_t_foretold_0, aI E a_t_foretold_1 40 r_t_foretold_1, aI E a_t_foretold_2 40 r_t_foretold_2, aI E a_t_foretold_3 40 r_t_foretold_3] [(0, .ref a_t), (1, .int x1), (2, .int x2), (3, .int y1), (4, .int y2)] 5 [] := by
  intro n
  induction n with
  | zero => intro _ _ _ h; cases h
  | succ n ih =>
    intro y1 y2 v h kk
    rw [L_X3_worstLeft_5] at h
    refine g_iload (pc := 5) C dX3_worstLeft_5 4 rfl ?_
    refine g_bipush (pc := 7) (v := 7) C dX3_worstLeft_7 (by decide) ?_
    refine b_icmp_gt (pc := 9) 70 C dX3_worstLeft_9 (by decide) h (fun _ h => ?_) (fun _ h => ?_)
    · obtain rfl := Option.some.inj h
      refine g_lv [3] (lv' := [(3, .int y1)]) rfl ?_
      exact kk
    · refine g_iconst (pc := 12) (v := 0) C dX3_worstLeft_12 (by decide) ?_
      refine g_istore (pc := 13) (lv' := [(5, .int 0), (0, .ref a_t), (1, .int x1), (2, .int x2), (3, .int y1), (4, .int y2)]) C dX3_worstLeft_13 (by decide) rfl ?_
      refine g_iconst (pc := 15) (v := 0) C dX3_worstLeft_15 (by decide) ?_
      refine g_istore (pc := 16) (lv' := [(6, .int 0), (5, .int 0), (0, .ref a_t), (1, .int x1), (2, .int x2), (3, .int y1), (4, .int y2)]) C dX3_worstLeft_16 (by decide) rfl ?_
      obtain ⟨v7, hv7, h⟩ := o_bnd h
      refine g_lv [2, 3, 4, 5, 6, 1, 0] (lv' := [(0, .ref a_t), (1, .int x1), (2, .int x2), (3, .int y1), (4, .int y2), (5, .int 0), (6, .int 0)]) rfl ?_
      refine lp_X3_worstLeft_18 c_t_question c_t_leftAtWorst r_t_foretold_0 r_t_foretold_1 r_t_foretold_2 r_t_foretold_3 x1 x2 y1 y2 C 400 _ _ _ hv7 ?_
      refine g_iload_n (pc := 57) C dX3_worstLeft_57 3 rfl ?_
      refine g_iload (pc := 58) C dX3_worstLeft_58 5 rfl ?_
      refine g_max (pc := 60) C mx_X3_78 ⟨Nat.zero_le _, Nat.zero_le _⟩ (by decide) (Nat.le_of_ble_eq_true rfl) dX3_worstLeft_60 ?_
      refine g_istore_n (pc := 63) (lv' := [(3, .int (if y1 < v7 then v7 else y1)), (0, .ref a_t), (1, .int x1), (2, .int x2), (4, .int y2), (5, .int v7)]) C dX3_worstLeft_63 (by decide) rfl ?_
      refine g_iinc (pc := 64) (v := y2 + 1) (lv' := [(4, .int (y2 + 1)), (3, .int (if y1 < v7 then v7 else y1)), (0, .ref a_t), (1, .int x1), (2, .int x2), (5, .int v7)]) C dX3_worstLeft_64 4 rfl rfl (by decide) rfl ?_
      refine g_goto (pc := 67) 5 C dX3_worstLeft_67 (by decide) ?_
      refine g_lv [2, 3, 4, 1, 0] (lv' := [(0, .ref a_t), (1, .int x1), (2, .int x2), (3, .int (if y1 < v7 then v7 else y1)), (4, .int (y2 + 1))]) rfl ?_
      exact ih _ _ _ h kk
set_option maxHeartbeats 4000000 in
set_option maxRecDepth 100000 in
theorem k_X3_worstLeft (E : Ev) (a_t a_t_foretold a_t_foretold_0 a_t_foretold_1 a_t_foretold_2 a_t_foretold_3 a_t_now a_t_seen a_t_trial : Nat) (c_t_question : Int32) (c_t_leftAtWorst : Int32) (r_t_foretold_0 : (Nat → Int32)) (r_t_foretold_1 : (Nat → Int32)) (r_t_foretold_2 : (Nat → Int32)) (r_t_foretold_3 : (Nat → Int32)) (x1 : Int32) (x2 : Int32) (v : Int32) (h : f_X3_worstLeft r_t_foretold_0 r_t_foretold_1 r_t_foretold_2 r_t_foretold_3 x1 x2 = some v) : Mt E yX3_worstLeft cX3_worstLeft 7 (some .int) rm_X3_worstLeft [.ref a_t, .int x1, .int x2] [oX3 a_t a_t_now a_t_seen a_t_trial a_t_foretold c_t_question c_t_leftAtWorst, aQ E 4 a_t_foretold [a_t_foretold_0, a_t_foretold_1, a_t_foretold_2, a_t_foretold_3], aI E a_t_foretold_0 40 r_t_foretold_0, aI E a_t_foretold_1 40 r_t_foretold_1, aI E a_t_foretold_2 40 r_t_foretold_2, aI E a_t_foretold_3 40 r_t_foretold_3] [oX3 a_t a_t_now a_t_seen a_t_trial a_t_foretold c_t_question c_t_leftAtWorst, aQ E 4 a_t_foretold [a_t_foretold_0, a_t_foretold_1, a_t_foretold_2, a_t_foretold_3], aI E a_t_foretold_0 40 r_t_foretold_0, aI E a_t_foretold_1 40 r_t_foretold_1, aI E a_t_foretold_2 40 r_t_foretold_2, aI E a_t_foretold_3 40 r_t_foretold_3] (some (.int v)) := by
  refine Mt.intro (lv := [(0, .ref a_t), (1, .int x1), (2, .int x2)]) (by decide +kernel) (Nat.le_of_ble_eq_true rfl) rfl (fun X C K => ?_)
  have C : CX E X cX3_worstLeft RX3 7 rm_X3_worstLeft := C
  rw [f_X3_worstLeft] at h
  refine g_iconst (pc := 0) (v := 0) C dX3_worstLeft_0 (by decide) ?_
  refine g_istore_n (pc := 1) (lv' := [(3, .int 0), (0, .ref a_t), (1, .int x1), (2, .int x2)]) C dX3_worstLeft_1 (by decide) rfl ?_
  refine g_iconst (pc := 2) (v := 0) C dX3_worstLeft_2 (by decide) ?_
  refine g_istore (pc := 3) (lv' := [(4, .int 0), (3, .int 0), (0, .ref a_t), (1, .int x1), (2, .int x2)]) C dX3_worstLeft_3 (by decide) rfl ?_
  obtain ⟨v9, hv9, h⟩ := o_bnd h
  refine g_lv [2, 3, 4, 1, 0] (lv' := [(0, .ref a_t), (1, .int x1), (2, .int x2), (3, .int 0), (4, .int 0)]) rfl ?_
  refine lp_X3_worstLeft_5 c_t_question c_t_leftAtWorst r_t_foretold_0 r_t_foretold_1 r_t_foretold_2 r_t_foretold_3 x1 x2 C 400 _ _ _ hv9 ?_
  refine g_iload_n (pc := 70) C dX3_worstLeft_70 0 rfl ?_
  obtain rfl := Option.some.inj h
  exact g_iret (pc := 71) C K dX3_worstLeft_71
theorem dX3_bestQuestion_0 : decode cX3_bestQuestion 0 = .ok (.aload_n 0, 1) := by decide +kernel
theorem dX3_bestQuestion_1 : decode cX3_bestQuestion 1 = .ok (.bipush (-4), 2) := by decide +kernel
theorem dX3_bestQuestion_3 : decode cX3_bestQuestion 3 = .ok (.putfield 16, 3) := by decide +kernel
theorem dX3_bestQuestion_6 : decode cX3_bestQuestion 6 = .ok (.aload_n 0, 1) := by decide +kernel
theorem dX3_bestQuestion_7 : decode cX3_bestQuestion 7 = .ok (.iload_n 1, 1) := by decide +kernel
theorem dX3_bestQuestion_8 : decode cX3_bestQuestion 8 = .ok (.invokestatic 65, 3) := by decide +kernel
theorem dX3_bestQuestion_11 : decode cX3_bestQuestion 11 = .ok (.putfield 20, 3) := by decide +kernel
theorem dX3_bestQuestion_14 : decode cX3_bestQuestion 14 = .ok (.iconst 0, 1) := by decide +kernel
theorem dX3_bestQuestion_15 : decode cX3_bestQuestion 15 = .ok (.istore_n 2, 1) := by decide +kernel
theorem dX3_bestQuestion_16 : decode cX3_bestQuestion 16 = .ok (.iload_n 2, 1) := by decide +kernel
theorem dX3_bestQuestion_17 : decode cX3_bestQuestion 17 = .ok (.bipush 10, 2) := by decide +kernel
theorem dX3_bestQuestion_19 : decode cX3_bestQuestion 19 = .ok (.if_icmp .ge 65, 3) := by decide +kernel
theorem dX3_bestQuestion_22 : decode cX3_bestQuestion 22 = .ok (.iconst 0, 1) := by decide +kernel
theorem dX3_bestQuestion_23 : decode cX3_bestQuestion 23 = .ok (.istore_n 3, 1) := by decide +kernel
theorem dX3_bestQuestion_24 : decode cX3_bestQuestion 24 = .ok (.iload_n 3, 1) := by decide +kernel
theorem dX3_bestQuestion_25 : decode cX3_bestQuestion 25 = .ok (.aload_n 0, 1) := by decide +kernel
theorem dX3_bestQuestion_26 : decode cX3_bestQuestion 26 = .ok (.getfield 23, 3) := by decide +kernel
theorem dX3_bestQuestion_29 : decode cX3_bestQuestion 29 = .ok (.getfield 71, 3) := by decide +kernel
theorem dX3_bestQuestion_32 : decode cX3_bestQuestion 32 = .ok (.if_icmp .ge 46, 3) := by decide +kernel
theorem dX3_bestQuestion_35 : decode cX3_bestQuestion 35 = .ok (.aload_n 0, 1) := by decide +kernel
theorem dX3_bestQuestion_36 : decode cX3_bestQuestion 36 = .ok (.iload_n 1, 1) := by decide +kernel
theorem dX3_bestQuestion_37 : decode cX3_bestQuestion 37 = .ok (.iload_n 2, 1) := by decide +kernel
theorem dX3_bestQuestion_38 : decode cX3_bestQuestion 38 = .ok (.iconst 4, 1) := by decide +kernel
theorem dX3_bestQuestion_39 : decode cX3_bestQuestion 39 = .ok (.imul, 1) := by decide +kernel
theorem dX3_bestQuestion_40 : decode cX3_bestQuestion 40 = .ok (.iload_n 3, 1) := by decide +kernel
theorem dX3_bestQuestion_41 : decode cX3_bestQuestion 41 = .ok (.iadd, 1) := by decide +kernel
theorem dX3_bestQuestion_42 : decode cX3_bestQuestion 42 = .ok (.invokevirtual 74, 3) := by decide +kernel
theorem dX3_bestQuestion_45 : decode cX3_bestQuestion 45 = .ok (.istore 4, 2) := by decide +kernel
theorem dX3_bestQuestion_47 : decode cX3_bestQuestion 47 = .ok (.iload 4, 2) := by decide +kernel
theorem dX3_bestQuestion_49 : decode cX3_bestQuestion 49 = .ok (.aload_n 0, 1) := by decide +kernel
theorem dX3_bestQuestion_50 : decode cX3_bestQuestion 50 = .ok (.getfield 20, 3) := by decide +kernel
theorem dX3_bestQuestion_53 : decode cX3_bestQuestion 53 = .ok (.if_icmp .ge 19, 3) := by decide +kernel
theorem dX3_bestQuestion_56 : decode cX3_bestQuestion 56 = .ok (.aload_n 0, 1) := by decide +kernel
theorem dX3_bestQuestion_57 : decode cX3_bestQuestion 57 = .ok (.bipush 10, 2) := by decide +kernel
theorem dX3_bestQuestion_59 : decode cX3_bestQuestion 59 = .ok (.iload_n 2, 1) := by decide +kernel
theorem dX3_bestQuestion_60 : decode cX3_bestQuestion 60 = .ok (.imul, 1) := by decide +kernel
theorem dX3_bestQuestion_61 : decode cX3_bestQuestion 61 = .ok (.iload_n 3, 1) := by decide +kernel
theorem dX3_bestQuestion_62 : decode cX3_bestQuestion 62 = .ok (.iadd, 1) := by decide +kernel
theorem dX3_bestQuestion_63 : decode cX3_bestQuestion 63 = .ok (.putfield 16, 3) := by decide +kernel
theorem dX3_bestQuestion_66 : decode cX3_bestQuestion 66 = .ok (.aload_n 0, 1) := by decide +kernel
theorem dX3_bestQuestion_67 : decode cX3_bestQuestion 67 = .ok (.iload 4, 2) := by decide +kernel
theorem dX3_bestQuestion_69 : decode cX3_bestQuestion 69 = .ok (.putfield 20, 3) := by decide +kernel
theorem dX3_bestQuestion_72 : decode cX3_bestQuestion 72 = .ok (.iinc 3 1, 3) := by decide +kernel
theorem dX3_bestQuestion_75 : decode cX3_bestQuestion 75 = .ok (.goto (-51), 3) := by decide +kernel
theorem dX3_bestQuestion_78 : decode cX3_bestQuestion 78 = .ok (.iinc 2 1, 3) := by decide +kernel
theorem dX3_bestQuestion_81 : decode cX3_bestQuestion 81 = .ok (.goto (-65), 3) := by decide +kernel
theorem dX3_bestQuestion_84 : decode cX3_bestQuestion 84 = .ok (.return_, 1) := by decide +kernel
def L_X3_bestQuestion_24 (r_t_foretold_0 : (Nat → Int32)) (r_t_foretold_1 : (Nat → Int32)) (r_t_foretold_2 : (Nat → Int32)) (r_t_foretold_3 : (Nat → Int32)) (c_t_now_houses : Int32) (x1 : Int32) (y2 : Int32) : Nat → Int32 → Int32 → Int32 → Option (Int32 × Int32)
  | 0, _, _, _ => none
  | n + 1, y5, y6, y7 =>
    if c_t_now_houses ≤ y5 then
      (some ((y6, y7)))
    else
      ((f_X3_worstLeft r_t_foretold_0 r_t_foretold_1 r_t_foretold_2 r_t_foretold_3 x1 ((y2 * 4) + y5)).bind (fun (v8 : Int32) =>
        if y7 ≤ v8 then
          (L_X3_bestQuestion_24 r_t_foretold_0 r_t_foretold_1 r_t_foretold_2 r_t_foretold_3 c_t_now_houses x1 y2 n (y5 + 1) y6 y7)
        else
          (L_X3_bestQuestion_24 r_t_foretold_0 r_t_foretold_1 r_t_foretold_2 r_t_foretold_3 c_t_now_houses x1 y2 n (y5 + 1) ((10 * y2) + y5) v8)))
def L_X3_bestQuestion_16 (r_t_foretold_0 : (Nat → Int32)) (r_t_foretold_1 : (Nat → Int32)) (r_t_foretold_2 : (Nat → Int32)) (r_t_foretold_3 : (Nat → Int32)) (c_t_now_houses : Int32) (x1 : Int32) : Nat → Int32 → Int32 → Int32 → Option (Int32 × Int32)
  | 0, _, _, _ => none
  | n + 1, y2, y3, y4 =>
    if 10 ≤ y2 then
      (some ((y3, y4)))
    else
      ((L_X3_bestQuestion_24 r_t_foretold_0 r_t_foretold_1 r_t_foretold_2 r_t_foretold_3 c_t_now_houses x1 y2 400 0 y3 y4).bind (fun (v10 : Int32 × Int32) =>
        L_X3_bestQuestion_16 r_t_foretold_0 r_t_foretold_1 r_t_foretold_2 r_t_foretold_3 c_t_now_houses x1 n (y2 + 1) v10.1 v10.2))
def f_X3_bestQuestion (c_t_question : Int32) (c_t_leftAtWorst : Int32) (r_t_foretold_0 : (Nat → Int32)) (r_t_foretold_1 : (Nat → Int32)) (r_t_foretold_2 : (Nat → Int32)) (r_t_foretold_3 : (Nat → Int32)) (c_t_now_houses : Int32) (x1 : Int32) : Option (Int32 × Int32) :=
  (f_J6_bitCount_0f7a4 x1).bind (fun (v1 : Int32) =>
    (L_X3_bestQuestion_16 r_t_foretold_0 r_t_foretold_1 r_t_foretold_2 r_t_foretold_3 c_t_now_houses x1 400 0 ((-4)) v1).bind (fun (v12 : Int32 × Int32) =>
      some ((v12.1, v12.2))))
abbrev rm_X3_bestQuestion : Room := { frames := 2, cells := 0, slots := 0, locals := 86 }
set_option maxHeartbeats 4000000 in
set_option maxRecDepth 100000 in
theorem lp_X3_bestQuestion_24 {E : Ev} {X : Cx} {a_t a_t_foretold a_t_foretold_0 a_t_foretold_1 a_t_foretold_2 a_t_foretold_3 a_t_now a_t_seen a_t_trial a_t_now_lists a_t_now_kindOf a_t_now_goes a_t_now_comes a_t_now_likings : Nat} (r_t_foretold_0 : (Nat → Int32)) (r_t_foretold_1 : (Nat → Int32)) (r_t_foretold_2 : (Nat → Int32)) (r_t_foretold_3 : (Nat → Int32)) (c_t_now_houses : Int32) (c_t_now_comers : Int32) (c_t_now_evening : Int32) (x1 : Int32) (y2 : Int32) (C : CX E X cX3_bestQuestion RX3 5 rm_X3_bestQuestion) : ∀ (n : Nat) (y5 : Int32) (y6 : Int32) (y7 : Int32) (v : Int32 × Int32), L_X3_bestQuestion_24 r_t_foretold_0 r_t_foretold_1 r_t_foretold_2 r_t_foretold_3 c_t_now_houses x1 y2 n y5 y6 y7 = some v → G E X 0 0 [oX3 a_t a_t_now a_t_seen a_t_trial a_t_foretold v.1 v.2, aQ E 4 a_t_foretold [a_t_foretold_0, a_t_foretold_1, a_t_foretold_2, a_t_foretold_3], aI E a_t_foretold_0 40 r_t_foretold_0, aI E a_t_foretold_1 40 r_t_foretold_1, aI E a_t_foretold_2 40 r_t_foretold_2, aI E a_t_foretold_3 40 r_t_foretold_3, oX1 a_t_now c_t_now_houses c_t_now_comers c_t_now_evening a_t_now_lists a_t_now_kindOf a_t_now_goes a_t_now_comes a_t_now_likings] [(0, .ref a_t), (1, .int x1), (2, .int y2)] 78 [] → G E X 0 0 [oX3 a_t a_t_now a_t_seen a_t_trial a_t_foretold y6 y7, aQ E 4 a_t_foretold [a_t_foretold_0, a_t_foretold_1, a_t_foretold_2, a_t_foretold_3], aI E a_t_foretold_0 40 r_t_foretold_0, aI E a_t_foretold_1 40 r_t_foretold_1, aI E a_t_foretold_2 40 r_t_foretold_2, aI E a_t_foretold_3 40 r_t_foretold_3, oX1 a_t_now c_t_now_houses c_t_now_comers c_t_now_evening a_t_now_lists a_t_now_kindOf a_t_now_goes a_t_now_comes a_t_now_likings] [(0, .ref a_t), (1, .int x1), (2, .int y2), (3, .int y5)] 24 [] := by
  intro n
  induction n with
  | zero => intro _ _ _ _ h; cases h
  | succ n ih =>
    intro y5 y6 y7 v h kk
    rw [L_X3_bestQuestion_24] at h
    refine g_iload_n (pc := 24) C dX3_bestQuestion_24 3 rfl ?_
    refine g_aload_n (pc := 25) C dX3_bestQuestion_25 0 rfl ?_
    refine g_get (pc := 26) 0 C fl_X3_23 rfl rfl dX3_bestQuestion_26 ?_
    refine g_get (pc := 29) 6 C fl_X3_71 rfl rfl dX3_bestQuestion_29 ?_
    refine b_icmp_ge (pc := 32) 78 C dX3_bestQuestion_32 (by decide) h (fun _ h => ?_) (fun _ h => ?_)
    · obtain rfl := Option.some.inj h
      refine g_lv [0, 1, 2] (lv' := [(0, .ref a_t), (1, .int x1), (2, .int y2)]) rfl ?_
      exact kk
    · refine g_aload_n (pc := 35) C dX3_bestQuestion_35 0 rfl ?_
      refine g_iload_n (pc := 36) C dX3_bestQuestion_36 1 rfl ?_
      refine g_iload_n (pc := 37) C dX3_bestQuestion_37 2 rfl ?_
      refine g_iconst (pc := 38) (v := 4) C dX3_bestQuestion_38 (by decide) ?_
      refine g_imul (pc := 39) C dX3_bestQuestion_39 ?_
      refine g_iload_n (pc := 40) C dX3_bestQuestion_40 3 rfl ?_
      refine g_iadd (pc := 41) C dX3_bestQuestion_41 ?_
      obtain ⟨v8, hv8, h⟩ := o_bnd h
      refine g_callV (pc := 42) (ws' := [oX3 a_t a_t_now a_t_seen a_t_trial a_t_foretold y6 y7, aQ E 4 a_t_foretold [a_t_foretold_0, a_t_foretold_1, a_t_foretold_2, a_t_foretold_3], aI E a_t_foretold_0 40 r_t_foretold_0, aI E a_t_foretold_1 40 r_t_foretold_1, aI E a_t_foretold_2 40 r_t_foretold_2, aI E a_t_foretold_3 40 r_t_foretold_3, oX1 a_t_now c_t_now_houses c_t_now_comers c_t_now_evening a_t_now_lists a_t_now_kindOf a_t_now_goes a_t_now_comes a_t_now_likings]) (st1 := [.int v8]) C mv_X3_74 (k_X3_worstLeft E a_t a_t_foretold a_t_foretold_0 a_t_foretold_1 a_t_foretold_2 a_t_foretold_3 a_t_now a_t_seen a_t_trial y6 y7 r_t_foretold_0 r_t_foretold_1 r_t_foretold_2 r_t_foretold_3 x1 ((y2 * 4) + y5) v8 hv8) [0, 1, 2, 3, 4, 5] rfl (by decide +kernel) rfl [some 0, some 1, some 2, some 3, some 4, some 5, none] 7 (by decide +kernel) rfl rfl 0 rfl rfl ⟨by decide, by decide⟩ ⟨rfl, rfl⟩ ⟨Nat.zero_le _, Nat.zero_le _⟩ rfl rfl rfl (Nat.le_of_ble_eq_true rfl) dX3_bestQuestion_42 ?_
      refine g_istore (pc := 45) (lv' := [(4, .int v8), (0, .ref a_t), (1, .int x1), (2, .int y2), (3, .int y5)]) C dX3_bestQuestion_45 (by decide) rfl ?_
      refine g_iload (pc := 47) C dX3_bestQuestion_47 0 rfl ?_
      refine g_aload_n (pc := 49) C dX3_bestQuestion_49 1 rfl ?_
      refine g_get (pc := 50) 0 C fl_X3_20 rfl rfl dX3_bestQuestion_50 ?_
      refine b_icmp_ge (pc := 53) 72 C dX3_bestQuestion_53 (by decide) h (fun _ h => ?_) (fun _ h => ?_)
      · refine g_iinc (pc := 72) (v := y5 + 1) (lv' := [(3, .int (y5 + 1)), (4, .int v8), (0, .ref a_t), (1, .int x1), (2, .int y2)]) C dX3_bestQuestion_72 4 rfl rfl (by decide) rfl ?_
        refine g_goto (pc := 75) 24 C dX3_bestQuestion_75 (by decide) ?_
        refine g_lv [2, 3, 4, 0] (lv' := [(0, .ref a_t), (1, .int x1), (2, .int y2), (3, .int (y5 + 1))]) rfl ?_
        exact ih _ _ _ _ h kk
      · refine g_aload_n (pc := 56) C dX3_bestQuestion_56 1 rfl ?_
        refine g_bipush (pc := 57) (v := 10) C dX3_bestQuestion_57 (by decide) ?_
        refine g_iload_n (pc := 59) C dX3_bestQuestion_59 3 rfl ?_
        refine g_imul (pc := 60) C dX3_bestQuestion_60 ?_
        refine g_iload_n (pc := 61) C dX3_bestQuestion_61 4 rfl ?_
        refine g_iadd (pc := 62) C dX3_bestQuestion_62 ?_
        refine g_put (pc := 63) (ws' := [oX3 a_t a_t_now a_t_seen a_t_trial a_t_foretold ((10 * y2) + y5) y7, aQ E 4 a_t_foretold [a_t_foretold_0, a_t_foretold_1, a_t_foretold_2, a_t_foretold_3], aI E a_t_foretold_0 40 r_t_foretold_0, aI E a_t_foretold_1 40 r_t_foretold_1, aI E a_t_foretold_2 40 r_t_foretold_2, aI E a_t_foretold_3 40 r_t_foretold_3, oX1 a_t_now c_t_now_houses c_t_now_comers c_t_now_evening a_t_now_lists a_t_now_kindOf a_t_now_goes a_t_now_comes a_t_now_likings]) 0 C fp_X3_16 rfl rfl rfl (Nat.le_of_ble_eq_true rfl) rfl dX3_bestQuestion_63 ?_
        refine g_aload_n (pc := 66) C dX3_bestQuestion_66 1 rfl ?_
        refine g_iload (pc := 67) C dX3_bestQuestion_67 0 rfl ?_
        refine g_put (pc := 69) (ws' := [oX3 a_t a_t_now a_t_seen a_t_trial a_t_foretold ((10 * y2) + y5) v8, aQ E 4 a_t_foretold [a_t_foretold_0, a_t_foretold_1, a_t_foretold_2, a_t_foretold_3], aI E a_t_foretold_0 40 r_t_foretold_0, aI E a_t_foretold_1 40 r_t_foretold_1, aI E a_t_foretold_2 40 r_t_foretold_2, aI E a_t_foretold_3 40 r_t_foretold_3, oX1 a_t_now c_t_now_houses c_t_now_comers c_t_now_evening a_t_now_lists a_t_now_kindOf a_t_now_goes a_t_now_comes a_t_now_likings]) 0 C fp_X3_20 rfl rfl rfl (Nat.le_of_ble_eq_true rfl) rfl dX3_bestQuestion_69 ?_
        refine g_iinc (pc := 72) (v := y5 + 1) (lv' := [(3, .int (y5 + 1)), (4, .int v8), (0, .ref a_t), (1, .int x1), (2, .int y2)]) C dX3_bestQuestion_72 4 rfl rfl (by decide) rfl ?_
        refine g_goto (pc := 75) 24 C dX3_bestQuestion_75 (by decide) ?_
        refine g_lv [2, 3, 4, 0] (lv' := [(0, .ref a_t), (1, .int x1), (2, .int y2), (3, .int (y5 + 1))]) rfl ?_
        exact ih _ _ _ _ h kk
set_option maxHeartbeats 4000000 in
set_option maxRecDepth 100000 in
theorem lp_X3_bestQuestion_16 {E : Ev} {X : Cx} {a_t a_t_foretold a_t_foretold_0 a_t_foretold_1 a_t_foretold_2 a_t_foretold_3 a_t_now a_t_seen a_t_trial a_t_now_lists a_t_now_kindOf a_t_now_goes a_t_now_comes a_t_now_likings : Nat} (r_t_foretold_0 : (Nat → Int32)) (r_t_foretold_1 : (Nat → Int32)) (r_t_foretold_2 : (Nat → Int32)) (r_t_foretold_3 : (Nat → Int32)) (c_t_now_houses : Int32) (c_t_now_comers : Int32) (c_t_now_evening : Int32) (x1 : Int32) (C : CX E X cX3_bestQuestion RX3 5 rm_X3_bestQuestion) : ∀ (n : Nat) (y2 : Int32) (y3 : Int32) (y4 : Int32) (v : Int32 × Int32), L_X3_bestQuestion_16 r_t_foretold_0 r_t_foretold_1 r_t_foretold_2 r_t_foretold_3 c_t_now_houses x1 n y2 y3 y4 = some v → G E X 0 0 [oX3 a_t a_t_now a_t_seen a_t_trial a_t_foretold v.1 v.2, aQ E 4 a_t_foretold [a_t_foretold_0, a_t_foretold_1, a_t_foretold_2, a_t_foretold_3], aI E a_t_foretold_0 40 r_t_foretold_0, aI E a_t_foretold_1 40 r_t_foretold_1, aI E a_t_foretold_2 40 r_t_foretold_2, aI E a_t_foretold_3 40 r_t_foretold_3, oX1 a_t_now c_t_now_houses c_t_now_comers c_t_now_evening a_t_now_lists a_t_now_kindOf a_t_now_goes a_t_now_comes a_t_now_likings] [] 84 [] → G E X 0 0 [oX3 a_t a_t_now a_t_seen a_t_trial a_t_foretold y3 y4, aQ E 4 a_t_foretold [a_t_foretold_0, a_t_foretold_1, a_t_foretold_2, a_t_foretold_3], aI E a_t_foretold_0 40 r_t_foretold_0, aI E a_t_foretold_1 40 r_t_foretold_1, aI E a_t_foretold_2 40 r_t_foretold_2, aI E a_t_foretold_3 40 r_t_foretold_3, oX1 a_t_now c_t_now_houses c_t_now_comers c_t_now_evening a_t_now_lists a_t_now_kindOf a_t_now_goes a_t_now_comes a_t_now_likings] [(0, .ref a_t), (1, .int x1), (2, .int y2)] 16 [] := by
  intro n
  induction n with
  | zero => intro _ _ _ _ h; cases h
  | succ n ih =>
    intro y2 y3 y4 v h kk
    rw [L_X3_bestQuestion_16] at h
    refine g_iload_n (pc := 16) C dX3_bestQuestion_16 2 rfl ?_
    refine g_bipush (pc := 17) (v := 10) C dX3_bestQuestion_17 (by decide) ?_
    refine b_icmp_ge (pc := 19) 84 C dX3_bestQuestion_19 (by decide) h (fun _ h => ?_) (fun _ h => ?_)
    · obtain rfl := Option.some.inj h
      refine g_lv [] (lv' := []) rfl ?_
      exact kk
    · refine g_iconst (pc := 22) (v := 0) C dX3_bestQuestion_22 (by decide) ?_
      refine g_istore_n (pc := 23) (lv' := [(3, .int 0), (0, .ref a_t), (1, .int x1), (2, .int y2)]) C dX3_bestQuestion_23 (by decide) rfl ?_
      obtain ⟨v10, hv10, h⟩ := o_bnd h
      refine g_lv [1, 2, 3, 0] (lv' := [(0, .ref a_t), (1, .int x1), (2, .int y2), (3, .int 0)]) rfl ?_
      refine lp_X3_bestQuestion_24 r_t_foretold_0 r_t_foretold_1 r_t_foretold_2 r_t_foretold_3 c_t_now_houses c_t_now_comers c_t_now_evening x1 y2 C 400 _ _ _ _ hv10 ?_
      refine g_iinc (pc := 78) (v := y2 + 1) (lv' := [(2, .int (y2 + 1)), (0, .ref a_t), (1, .int x1)]) C dX3_bestQuestion_78 2 rfl rfl (by decide) rfl ?_
      refine g_goto (pc := 81) 16 C dX3_bestQuestion_81 (by decide) ?_
      refine g_lv [1, 2, 0] (lv' := [(0, .ref a_t), (1, .int x1), (2, .int (y2 + 1))]) rfl ?_
      exact ih _ _ _ _ h kk
set_option maxHeartbeats 4000000 in
set_option maxRecDepth 100000 in
theorem k_X3_bestQuestion (E : Ev) (a_t a_t_foretold a_t_foretold_0 a_t_foretold_1 a_t_foretold_2 a_t_foretold_3 a_t_now a_t_seen a_t_trial a_t_now_lists a_t_now_kindOf a_t_now_goes a_t_now_comes a_t_now_likings : Nat) (c_t_question : Int32) (c_t_leftAtWorst : Int32) (r_t_foretold_0 : (Nat → Int32)) (r_t_foretold_1 : (Nat → Int32)) (r_t_foretold_2 : (Nat → Int32)) (r_t_foretold_3 : (Nat → Int32)) (c_t_now_houses : Int32) (c_t_now_comers : Int32) (c_t_now_evening : Int32) (x1 : Int32) (v : Int32 × Int32) (h : f_X3_bestQuestion c_t_question c_t_leftAtWorst r_t_foretold_0 r_t_foretold_1 r_t_foretold_2 r_t_foretold_3 c_t_now_houses x1 = some v) : Mt E yX3_bestQuestion cX3_bestQuestion 5 none rm_X3_bestQuestion [.ref a_t, .int x1] [oX3 a_t a_t_now a_t_seen a_t_trial a_t_foretold c_t_question c_t_leftAtWorst, aQ E 4 a_t_foretold [a_t_foretold_0, a_t_foretold_1, a_t_foretold_2, a_t_foretold_3], aI E a_t_foretold_0 40 r_t_foretold_0, aI E a_t_foretold_1 40 r_t_foretold_1, aI E a_t_foretold_2 40 r_t_foretold_2, aI E a_t_foretold_3 40 r_t_foretold_3, oX1 a_t_now c_t_now_houses c_t_now_comers c_t_now_evening a_t_now_lists a_t_now_kindOf a_t_now_goes a_t_now_comes a_t_now_likings] [oX3 a_t a_t_now a_t_seen a_t_trial a_t_foretold v.1 v.2, aQ E 4 a_t_foretold [a_t_foretold_0, a_t_foretold_1, a_t_foretold_2, a_t_foretold_3], aI E a_t_foretold_0 40 r_t_foretold_0, aI E a_t_foretold_1 40 r_t_foretold_1, aI E a_t_foretold_2 40 r_t_foretold_2, aI E a_t_foretold_3 40 r_t_foretold_3, oX1 a_t_now c_t_now_houses c_t_now_comers c_t_now_evening a_t_now_lists a_t_now_kindOf a_t_now_goes a_t_now_comes a_t_now_likings] none := by
  refine Mt.intro (lv := [(0, .ref a_t), (1, .int x1)]) (by decide +kernel) (Nat.le_of_ble_eq_true rfl) rfl (fun X C K => ?_)
  have C : CX E X cX3_bestQuestion RX3 5 rm_X3_bestQuestion := C
  rw [f_X3_bestQuestion] at h
  refine g_aload_n (pc := 0) C dX3_bestQuestion_0 0 rfl ?_
  refine g_bipush (pc := 1) (v := (-4)) C dX3_bestQuestion_1 (by decide) ?_
  refine g_put (pc := 3) (ws' := [oX3 a_t a_t_now a_t_seen a_t_trial a_t_foretold ((-4)) c_t_leftAtWorst, aQ E 4 a_t_foretold [a_t_foretold_0, a_t_foretold_1, a_t_foretold_2, a_t_foretold_3], aI E a_t_foretold_0 40 r_t_foretold_0, aI E a_t_foretold_1 40 r_t_foretold_1, aI E a_t_foretold_2 40 r_t_foretold_2, aI E a_t_foretold_3 40 r_t_foretold_3, oX1 a_t_now c_t_now_houses c_t_now_comers c_t_now_evening a_t_now_lists a_t_now_kindOf a_t_now_goes a_t_now_comes a_t_now_likings]) 0 C fp_X3_16 rfl rfl rfl (Nat.le_of_ble_eq_true rfl) rfl dX3_bestQuestion_3 ?_
  refine g_aload_n (pc := 6) C dX3_bestQuestion_6 0 rfl ?_
  refine g_iload_n (pc := 7) C dX3_bestQuestion_7 1 rfl ?_
  obtain ⟨v1, hv1, h⟩ := o_bnd h
  refine g_callS (pc := 8) (ws' := [oX3 a_t a_t_now a_t_seen a_t_trial a_t_foretold ((-4)) c_t_leftAtWorst, aQ E 4 a_t_foretold [a_t_foretold_0, a_t_foretold_1, a_t_foretold_2, a_t_foretold_3], aI E a_t_foretold_0 40 r_t_foretold_0, aI E a_t_foretold_1 40 r_t_foretold_1, aI E a_t_foretold_2 40 r_t_foretold_2, aI E a_t_foretold_3 40 r_t_foretold_3, oX1 a_t_now c_t_now_houses c_t_now_comers c_t_now_evening a_t_now_lists a_t_now_kindOf a_t_now_goes a_t_now_comes a_t_now_likings]) (st1 := [.int v1, .ref a_t]) C ms_X3_65 (k_J6_bitCount_0f7a4 E x1 v1 hv1) [] rfl (by decide +kernel) rfl [none, none, none, none, none, none, none] 7 (by decide +kernel) rfl rfl ⟨by decide, by decide⟩ ⟨rfl, rfl⟩ ⟨Nat.zero_le _, Nat.zero_le _⟩ rfl rfl rfl (Nat.le_of_ble_eq_true rfl) dX3_bestQuestion_8 ?_
  refine g_put (pc := 11) (ws' := [oX3 a_t a_t_now a_t_seen a_t_trial a_t_foretold ((-4)) v1, aQ E 4 a_t_foretold [a_t_foretold_0, a_t_foretold_1, a_t_foretold_2, a_t_foretold_3], aI E a_t_foretold_0 40 r_t_foretold_0, aI E a_t_foretold_1 40 r_t_foretold_1, aI E a_t_foretold_2 40 r_t_foretold_2, aI E a_t_foretold_3 40 r_t_foretold_3, oX1 a_t_now c_t_now_houses c_t_now_comers c_t_now_evening a_t_now_lists a_t_now_kindOf a_t_now_goes a_t_now_comes a_t_now_likings]) 0 C fp_X3_20 rfl rfl rfl (Nat.le_of_ble_eq_true rfl) rfl dX3_bestQuestion_11 ?_
  refine g_iconst (pc := 14) (v := 0) C dX3_bestQuestion_14 (by decide) ?_
  refine g_istore_n (pc := 15) (lv' := [(2, .int 0), (0, .ref a_t), (1, .int x1)]) C dX3_bestQuestion_15 (by decide) rfl ?_
  obtain ⟨v12, hv12, h⟩ := o_bnd h
  refine g_lv [1, 2, 0] (lv' := [(0, .ref a_t), (1, .int x1), (2, .int 0)]) rfl ?_
  refine lp_X3_bestQuestion_16 r_t_foretold_0 r_t_foretold_1 r_t_foretold_2 r_t_foretold_3 c_t_now_houses c_t_now_comers c_t_now_evening x1 C 400 _ _ _ _ hv12 ?_
  obtain rfl := Option.some.inj h
  exact g_vret (pc := 84) C K dX3_bestQuestion_84
theorem dX5_ofAll_0 : decode cX5_ofAll 0 = .ok (.lconst 1, 1) := by decide +kernel
theorem dX5_ofAll_1 : decode cX5_ofAll 1 = .ok (.lstore_n 1, 1) := by decide +kernel
theorem dX5_ofAll_2 : decode cX5_ofAll 2 = .ok (.iconst 0, 1) := by decide +kernel
theorem dX5_ofAll_3 : decode cX5_ofAll 3 = .ok (.istore_n 3, 1) := by decide +kernel
theorem dX5_ofAll_4 : decode cX5_ofAll 4 = .ok (.iload_n 3, 1) := by decide +kernel
theorem dX5_ofAll_5 : decode cX5_ofAll 5 = .ok (.aload_n 0, 1) := by decide +kernel
theorem dX5_ofAll_6 : decode cX5_ofAll 6 = .ok (.getfield 9, 3) := by decide +kernel
theorem dX5_ofAll_9 : decode cX5_ofAll 9 = .ok (.getfield 19, 3) := by decide +kernel
theorem dX5_ofAll_12 : decode cX5_ofAll 12 = .ok (.if_icmp .ge 15, 3) := by decide +kernel
theorem dX5_ofAll_15 : decode cX5_ofAll 15 = .ok (.lload_n 1, 1) := by decide +kernel
theorem dX5_ofAll_16 : decode cX5_ofAll 16 = .ok (.ldc2_w 25, 3) := by decide +kernel
theorem dX5_ofAll_19 : decode cX5_ofAll 19 = .ok (.lmul, 1) := by decide +kernel
theorem dX5_ofAll_20 : decode cX5_ofAll 20 = .ok (.lstore_n 1, 1) := by decide +kernel
theorem dX5_ofAll_21 : decode cX5_ofAll 21 = .ok (.iinc 3 1, 3) := by decide +kernel
theorem dX5_ofAll_24 : decode cX5_ofAll 24 = .ok (.goto (-20), 3) := by decide +kernel
theorem dX5_ofAll_27 : decode cX5_ofAll 27 = .ok (.lload_n 1, 1) := by decide +kernel
theorem dX5_ofAll_28 : decode cX5_ofAll 28 = .ok (.lreturn, 1) := by decide +kernel
def L_X5_ofAll_4 (c_t_now_comers : Int32) : Nat → Int64 → Int32 → Option (Int64)
  | 0, _, _ => none
  | n + 1, y1, y2 =>
    if c_t_now_comers ≤ y2 then
      (some y1)
    else
      (L_X5_ofAll_4 c_t_now_comers n (y1 * 10) (y2 + 1))
def f_X5_ofAll (c_t_now_comers : Int32) : Option (Int64) :=
  (L_X5_ofAll_4 c_t_now_comers 400 1 0).bind (fun (v4 : Int64) =>
    some v4)
abbrev rm_X5_ofAll : Room := { frames := 0, cells := 0, slots := 0, locals := 0 }
set_option maxHeartbeats 4000000 in
set_option maxRecDepth 100000 in
theorem lp_X5_ofAll_4 {E : Ev} {X : Cx} {a_t a_t_now a_t_trial a_t_now_lists a_t_now_kindOf a_t_now_goes a_t_now_comes a_t_now_likings : Nat} (c_t_now_houses : Int32) (c_t_now_comers : Int32) (c_t_now_evening : Int32) (C : CX E X cX5_ofAll RX5 4 rm_X5_ofAll) : ∀ (n : Nat) (y1 : Int64) (y2 : Int32) (v : Int64), L_X5_ofAll_4 c_t_now_comers n y1 y2 = some v → G E X 0 0 [oX5 a_t a_t_now a_t_trial, oX1 a_t_now c_t_now_houses c_t_now_comers c_t_now_evening a_t_now_lists a_t_now_kindOf a_t_now_goes a_t_now_comes a_t_now_likings] [(1, .long v)] 27 [] → G E X 0 0 [oX5 a_t a_t_now a_t_trial, oX1 a_t_now c_t_now_houses c_t_now_comers c_t_now_evening a_t_now_lists a_t_now_kindOf a_t_now_goes a_t_now_comes a_t_now_likings] [(0, .ref a_t), (1, .long y1), (3, .int y2)] 4 [] := by
  intro n
  induction n with
  | zero => intro _ _ _ h; cases h
  | succ n ih =>
    intro y1 y2 v h kk
    rw [L_X5_ofAll_4] at h
    refine g_iload_n (pc := 4) C dX5_ofAll_4 2 rfl ?_
    refine g_aload_n (pc := 5) C dX5_ofAll_5 0 rfl ?_
    refine g_get (pc := 6) 0 C fl_X5_9 rfl rfl dX5_ofAll_6 ?_
    refine g_get (pc := 9) 1 C fl_X5_19 rfl rfl dX5_ofAll_9 ?_
    refine b_icmp_ge (pc := 12) 27 C dX5_ofAll_12 (by decide) h (fun _ h => ?_) (fun _ h => ?_)
    · obtain rfl := Option.some.inj h
      refine g_lv [1] (lv' := [(1, .long y1)]) rfl ?_
      exact kk
    · refine g_lload_n (pc := 15) C dX5_ofAll_15 1 rfl ?_
      refine g_ldc2 (pc := 16) C kc_X5_25 dX5_ofAll_16 ?_
      refine g_lmul (pc := 19) C dX5_ofAll_19 ?_
      refine g_lstore_n (pc := 20) (lv' := [(1, .long (y1 * 10)), (0, .ref a_t), (3, .int y2)]) C dX5_ofAll_20 (by decide) rfl ?_
      refine g_iinc (pc := 21) (v := y2 + 1) (lv' := [(3, .int (y2 + 1)), (1, .long (y1 * 10)), (0, .ref a_t)]) C dX5_ofAll_21 2 rfl rfl (by decide) rfl ?_
      refine g_goto (pc := 24) 4 C dX5_ofAll_24 (by decide) ?_
      refine g_lv [2, 1, 0] (lv' := [(0, .ref a_t), (1, .long (y1 * 10)), (3, .int (y2 + 1))]) rfl ?_
      exact ih _ _ _ h kk
set_option maxHeartbeats 4000000 in
set_option maxRecDepth 100000 in
theorem k_X5_ofAll (E : Ev) (a_t a_t_now a_t_trial a_t_now_lists a_t_now_kindOf a_t_now_goes a_t_now_comes a_t_now_likings : Nat) (c_t_now_houses : Int32) (c_t_now_comers : Int32) (c_t_now_evening : Int32) (v : Int64) (h : f_X5_ofAll c_t_now_comers = some v) : Mt E yX5_ofAll cX5_ofAll 4 (some .long) rm_X5_ofAll [.ref a_t] [oX5 a_t a_t_now a_t_trial, oX1 a_t_now c_t_now_houses c_t_now_comers c_t_now_evening a_t_now_lists a_t_now_kindOf a_t_now_goes a_t_now_comes a_t_now_likings] [oX5 a_t a_t_now a_t_trial, oX1 a_t_now c_t_now_houses c_t_now_comers c_t_now_evening a_t_now_lists a_t_now_kindOf a_t_now_goes a_t_now_comes a_t_now_likings] (some (.long v)) := by
  refine Mt.intro (lv := [(0, .ref a_t)]) (by decide +kernel) (Nat.le_of_ble_eq_true rfl) rfl (fun X C K => ?_)
  have C : CX E X cX5_ofAll RX5 4 rm_X5_ofAll := C
  rw [f_X5_ofAll] at h
  refine g_lconst (pc := 0) (v := 1) C dX5_ofAll_0 (by decide) ?_
  refine g_lstore_n (pc := 1) (lv' := [(1, .long 1), (0, .ref a_t)]) C dX5_ofAll_1 (by decide) rfl ?_
  refine g_iconst (pc := 2) (v := 0) C dX5_ofAll_2 (by decide) ?_
  refine g_istore_n (pc := 3) (lv' := [(3, .int 0), (1, .long 1), (0, .ref a_t)]) C dX5_ofAll_3 (by decide) rfl ?_
  obtain ⟨v4, hv4, h⟩ := o_bnd h
  refine g_lv [2, 1, 0] (lv' := [(0, .ref a_t), (1, .long 1), (3, .int 0)]) rfl ?_
  refine lp_X5_ofAll_4 c_t_now_houses c_t_now_comers c_t_now_evening C 400 _ _ _ hv4 ?_
  refine g_lload_n (pc := 27) C dX5_ofAll_27 0 rfl ?_
  obtain rfl := Option.some.inj h
  exact g_lret (pc := 28) C K dX5_ofAll_28
theorem dX5_ofComing_0 : decode cX5_ofComing 0 = .ok (.lconst 1, 1) := by decide +kernel
theorem dX5_ofComing_1 : decode cX5_ofComing 1 = .ok (.lstore_n 3, 1) := by decide +kernel
theorem dX5_ofComing_2 : decode cX5_ofComing 2 = .ok (.iconst 0, 1) := by decide +kernel
theorem dX5_ofComing_3 : decode cX5_ofComing 3 = .ok (.istore 5, 2) := by decide +kernel
theorem dX5_ofComing_5 : decode cX5_ofComing 5 = .ok (.iload 5, 2) := by decide +kernel
theorem dX5_ofComing_7 : decode cX5_ofComing 7 = .ok (.aload_n 0, 1) := by decide +kernel
theorem dX5_ofComing_8 : decode cX5_ofComing 8 = .ok (.getfield 9, 3) := by decide +kernel
theorem dX5_ofComing_11 : decode cX5_ofComing 11 = .ok (.getfield 19, 3) := by decide +kernel
theorem dX5_ofComing_14 : decode cX5_ofComing 14 = .ok (.if_icmp .ge 32, 3) := by decide +kernel
theorem dX5_ofComing_17 : decode cX5_ofComing 17 = .ok (.lload_n 3, 1) := by decide +kernel
theorem dX5_ofComing_18 : decode cX5_ofComing 18 = .ok (.iload_n 2, 1) := by decide +kernel
theorem dX5_ofComing_19 : decode cX5_ofComing 19 = .ok (.iload 5, 2) := by decide +kernel
theorem dX5_ofComing_21 : decode cX5_ofComing 21 = .ok (.ishr, 1) := by decide +kernel
theorem dX5_ofComing_22 : decode cX5_ofComing 22 = .ok (.iconst 1, 1) := by decide +kernel
theorem dX5_ofComing_23 : decode cX5_ofComing 23 = .ok (.iand, 1) := by decide +kernel
theorem dX5_ofComing_24 : decode cX5_ofComing 24 = .ok (.iconst 1, 1) := by decide +kernel
theorem dX5_ofComing_25 : decode cX5_ofComing 25 = .ok (.if_icmp .ne 11, 3) := by decide +kernel
theorem dX5_ofComing_28 : decode cX5_ofComing 28 = .ok (.bipush 10, 2) := by decide +kernel
theorem dX5_ofComing_30 : decode cX5_ofComing 30 = .ok (.iload_n 1, 1) := by decide +kernel
theorem dX5_ofComing_31 : decode cX5_ofComing 31 = .ok (.isub, 1) := by decide +kernel
theorem dX5_ofComing_32 : decode cX5_ofComing 32 = .ok (.i2l, 1) := by decide +kernel
theorem dX5_ofComing_33 : decode cX5_ofComing 33 = .ok (.goto 5, 3) := by decide +kernel
theorem dX5_ofComing_36 : decode cX5_ofComing 36 = .ok (.iload_n 1, 1) := by decide +kernel
theorem dX5_ofComing_37 : decode cX5_ofComing 37 = .ok (.i2l, 1) := by decide +kernel
theorem dX5_ofComing_38 : decode cX5_ofComing 38 = .ok (.lmul, 1) := by decide +kernel
theorem dX5_ofComing_39 : decode cX5_ofComing 39 = .ok (.lstore_n 3, 1) := by decide +kernel
theorem dX5_ofComing_40 : decode cX5_ofComing 40 = .ok (.iinc 5 1, 3) := by decide +kernel
theorem dX5_ofComing_43 : decode cX5_ofComing 43 = .ok (.goto (-38), 3) := by decide +kernel
theorem dX5_ofComing_46 : decode cX5_ofComing 46 = .ok (.lload_n 3, 1) := by decide +kernel
theorem dX5_ofComing_47 : decode cX5_ofComing 47 = .ok (.lreturn, 1) := by decide +kernel
def L_X5_ofComing_5 (c_t_now_comers : Int32) (x1 : Int32) (x2 : Int32) : Nat → Int64 → Int32 → Option (Int64)
  | 0, _, _ => none
  | n + 1, y1, y2 =>
    if c_t_now_comers ≤ y2 then
      (some y1)
    else
      (if ((x2 >>> (y2 &&& 31)) &&& 1) = 1 then
        (L_X5_ofComing_5 c_t_now_comers x1 x2 n (y1 * ((10 - x1).toInt64)) (y2 + 1))
      else
        (L_X5_ofComing_5 c_t_now_comers x1 x2 n (y1 * x1.toInt64) (y2 + 1)))
def f_X5_ofComing (c_t_now_comers : Int32) (x1 : Int32) (x2 : Int32) : Option (Int64) :=
  (L_X5_ofComing_5 c_t_now_comers x1 x2 400 1 0).bind (fun (v4 : Int64) =>
    some v4)
abbrev rm_X5_ofComing : Room := { frames := 0, cells := 0, slots := 0, locals := 0 }
set_option maxHeartbeats 4000000 in
set_option maxRecDepth 100000 in
theorem lp_X5_ofComing_5 {E : Ev} {X : Cx} {a_t a_t_now a_t_trial a_t_now_lists a_t_now_kindOf a_t_now_goes a_t_now_comes a_t_now_likings : Nat} (c_t_now_houses : Int32) (c_t_now_comers : Int32) (c_t_now_evening : Int32) (x1 : Int32) (x2 : Int32) (C : CX E X cX5_ofComing RX5 6 rm_X5_ofComing) : ∀ (n : Nat) (y1 : Int64) (y2 : Int32) (v : Int64), L_X5_ofComing_5 c_t_now_comers x1 x2 n y1 y2 = some v → G E X 0 0 [oX5 a_t a_t_now a_t_trial, oX1 a_t_now c_t_now_houses c_t_now_comers c_t_now_evening a_t_now_lists a_t_now_kindOf a_t_now_goes a_t_now_comes a_t_now_likings] [(3, .long v)] 46 [] → G E X 0 0 [oX5 a_t a_t_now a_t_trial, oX1 a_t_now c_t_now_houses c_t_now_comers c_t_now_evening a_t_now_lists a_t_now_kindOf a_t_now_goes a_t_now_comes a_t_now_likings] [(0, .ref a_t), (1, .int x1), (2, .int x2), (3, .long y1), (5, .int y2)] 5 [] := by
  intro n
  induction n with
  | zero => intro _ _ _ h; cases h
  | succ n ih =>
    intro y1 y2 v h kk
    rw [L_X5_ofComing_5] at h
    refine g_iload (pc := 5) C dX5_ofComing_5 4 rfl ?_
    refine g_aload_n (pc := 7) C dX5_ofComing_7 0 rfl ?_
    refine g_get (pc := 8) 0 C fl_X5_9 rfl rfl dX5_ofComing_8 ?_
    refine g_get (pc := 11) 1 C fl_X5_19 rfl rfl dX5_ofComing_11 ?_
    refine b_icmp_ge (pc := 14) 46 C dX5_ofComing_14 (by decide) h (fun _ h => ?_) (fun _ h => ?_)
    · obtain rfl := Option.some.inj h
      refine g_lv [3] (lv' := [(3, .long y1)]) rfl ?_
      exact kk
    · refine g_lload_n (pc := 17) C dX5_ofComing_17 3 rfl ?_
      refine g_iload_n (pc := 18) C dX5_ofComing_18 2 rfl ?_
      refine g_iload (pc := 19) C dX5_ofComing_19 4 rfl ?_
      refine g_ishr (pc := 21) C dX5_ofComing_21 ?_
      refine g_iconst (pc := 22) (v := 1) C dX5_ofComing_22 (by decide) ?_
      refine g_iand (pc := 23) C dX5_ofComing_23 ?_
      refine g_iconst (pc := 24) (v := 1) C dX5_ofComing_24 (by decide) ?_
      refine b_icmp_ne (pc := 25) 36 C dX5_ofComing_25 (by decide) h (fun _ h => ?_) (fun _ h => ?_)
      · refine g_iload_n (pc := 36) C dX5_ofComing_36 1 rfl ?_
        refine g_i2l (pc := 37) C dX5_ofComing_37 ?_
        refine g_lmul (pc := 38) C dX5_ofComing_38 ?_
        refine g_lstore_n (pc := 39) (lv' := [(3, .long (y1 * x1.toInt64)), (0, .ref a_t), (1, .int x1), (2, .int x2), (5, .int y2)]) C dX5_ofComing_39 (by decide) rfl ?_
        refine g_iinc (pc := 40) (v := y2 + 1) (lv' := [(5, .int (y2 + 1)), (3, .long (y1 * x1.toInt64)), (0, .ref a_t), (1, .int x1), (2, .int x2)]) C dX5_ofComing_40 4 rfl rfl (by decide) rfl ?_
        refine g_goto (pc := 43) 5 C dX5_ofComing_43 (by decide) ?_
        refine g_lv [2, 3, 4, 1, 0] (lv' := [(0, .ref a_t), (1, .int x1), (2, .int x2), (3, .long (y1 * x1.toInt64)), (5, .int (y2 + 1))]) rfl ?_
        exact ih _ _ _ h kk
      · refine g_bipush (pc := 28) (v := 10) C dX5_ofComing_28 (by decide) ?_
        refine g_iload_n (pc := 30) C dX5_ofComing_30 1 rfl ?_
        refine g_isub (pc := 31) C dX5_ofComing_31 ?_
        refine g_i2l (pc := 32) C dX5_ofComing_32 ?_
        refine g_goto (pc := 33) 38 C dX5_ofComing_33 (by decide) ?_
        refine g_lmul (pc := 38) C dX5_ofComing_38 ?_
        refine g_lstore_n (pc := 39) (lv' := [(3, .long (y1 * ((10 - x1).toInt64))), (0, .ref a_t), (1, .int x1), (2, .int x2), (5, .int y2)]) C dX5_ofComing_39 (by decide) rfl ?_
        refine g_iinc (pc := 40) (v := y2 + 1) (lv' := [(5, .int (y2 + 1)), (3, .long (y1 * ((10 - x1).toInt64))), (0, .ref a_t), (1, .int x1), (2, .int x2)]) C dX5_ofComing_40 4 rfl rfl (by decide) rfl ?_
        refine g_goto (pc := 43) 5 C dX5_ofComing_43 (by decide) ?_
        refine g_lv [2, 3, 4, 1, 0] (lv' := [(0, .ref a_t), (1, .int x1), (2, .int x2), (3, .long (y1 * ((10 - x1).toInt64))), (5, .int (y2 + 1))]) rfl ?_
        exact ih _ _ _ h kk
set_option maxHeartbeats 4000000 in
set_option maxRecDepth 100000 in
theorem k_X5_ofComing (E : Ev) (a_t a_t_now a_t_trial a_t_now_lists a_t_now_kindOf a_t_now_goes a_t_now_comes a_t_now_likings : Nat) (c_t_now_houses : Int32) (c_t_now_comers : Int32) (c_t_now_evening : Int32) (x1 : Int32) (x2 : Int32) (v : Int64) (h : f_X5_ofComing c_t_now_comers x1 x2 = some v) : Mt E yX5_ofComing cX5_ofComing 6 (some .long) rm_X5_ofComing [.ref a_t, .int x1, .int x2] [oX5 a_t a_t_now a_t_trial, oX1 a_t_now c_t_now_houses c_t_now_comers c_t_now_evening a_t_now_lists a_t_now_kindOf a_t_now_goes a_t_now_comes a_t_now_likings] [oX5 a_t a_t_now a_t_trial, oX1 a_t_now c_t_now_houses c_t_now_comers c_t_now_evening a_t_now_lists a_t_now_kindOf a_t_now_goes a_t_now_comes a_t_now_likings] (some (.long v)) := by
  refine Mt.intro (lv := [(0, .ref a_t), (1, .int x1), (2, .int x2)]) (by decide +kernel) (Nat.le_of_ble_eq_true rfl) rfl (fun X C K => ?_)
  have C : CX E X cX5_ofComing RX5 6 rm_X5_ofComing := C
  rw [f_X5_ofComing] at h
  refine g_lconst (pc := 0) (v := 1) C dX5_ofComing_0 (by decide) ?_
  refine g_lstore_n (pc := 1) (lv' := [(3, .long 1), (0, .ref a_t), (1, .int x1), (2, .int x2)]) C dX5_ofComing_1 (by decide) rfl ?_
  refine g_iconst (pc := 2) (v := 0) C dX5_ofComing_2 (by decide) ?_
  refine g_istore (pc := 3) (lv' := [(5, .int 0), (3, .long 1), (0, .ref a_t), (1, .int x1), (2, .int x2)]) C dX5_ofComing_3 (by decide) rfl ?_
  obtain ⟨v4, hv4, h⟩ := o_bnd h
  refine g_lv [2, 3, 4, 1, 0] (lv' := [(0, .ref a_t), (1, .int x1), (2, .int x2), (3, .long 1), (5, .int 0)]) rfl ?_
  refine lp_X5_ofComing_5 c_t_now_houses c_t_now_comers c_t_now_evening x1 x2 C 400 _ _ _ hv4 ?_
  refine g_lload_n (pc := 46) C dX5_ofComing_46 0 rfl ?_
  obtain rfl := Option.some.inj h
  exact g_lret (pc := 47) C K dX5_ofComing_47
theorem dX5_ofDinner_0 : decode cX5_ofDinner 0 = .ok (.lconst 0, 1) := by decide +kernel
theorem dX5_ofDinner_1 : decode cX5_ofDinner 1 = .ok (.lstore_n 3, 1) := by decide +kernel
theorem dX5_ofDinner_2 : decode cX5_ofDinner 2 = .ok (.aload_n 0, 1) := by decide +kernel
theorem dX5_ofDinner_3 : decode cX5_ofDinner 3 = .ok (.getfield 15, 3) := by decide +kernel
theorem dX5_ofDinner_6 : decode cX5_ofDinner 6 = .ok (.invokevirtual 27, 3) := by decide +kernel
theorem dX5_ofDinner_9 : decode cX5_ofDinner 9 = .ok (.pop, 1) := by decide +kernel
theorem dX5_ofDinner_10 : decode cX5_ofDinner 10 = .ok (.iconst 0, 1) := by decide +kernel
theorem dX5_ofDinner_11 : decode cX5_ofDinner 11 = .ok (.istore 5, 2) := by decide +kernel
theorem dX5_ofDinner_13 : decode cX5_ofDinner 13 = .ok (.iload 5, 2) := by decide +kernel
theorem dX5_ofDinner_15 : decode cX5_ofDinner 15 = .ok (.iconst 1, 1) := by decide +kernel
theorem dX5_ofDinner_16 : decode cX5_ofDinner 16 = .ok (.aload_n 0, 1) := by decide +kernel
theorem dX5_ofDinner_17 : decode cX5_ofDinner 17 = .ok (.getfield 9, 3) := by decide +kernel
theorem dX5_ofDinner_20 : decode cX5_ofDinner 20 = .ok (.getfield 19, 3) := by decide +kernel
theorem dX5_ofDinner_23 : decode cX5_ofDinner 23 = .ok (.ishl, 1) := by decide +kernel
theorem dX5_ofDinner_24 : decode cX5_ofDinner 24 = .ok (.if_icmp .ge 58, 3) := by decide +kernel
theorem dX5_ofDinner_27 : decode cX5_ofDinner 27 = .ok (.aload_n 0, 1) := by decide +kernel
theorem dX5_ofDinner_28 : decode cX5_ofDinner 28 = .ok (.getfield 15, 3) := by decide +kernel
theorem dX5_ofDinner_31 : decode cX5_ofDinner 31 = .ok (.getfield 33, 3) := by decide +kernel
theorem dX5_ofDinner_34 : decode cX5_ofDinner 34 = .ok (.aload_n 0, 1) := by decide +kernel
theorem dX5_ofDinner_35 : decode cX5_ofDinner 35 = .ok (.getfield 9, 3) := by decide +kernel
theorem dX5_ofDinner_38 : decode cX5_ofDinner 38 = .ok (.invokevirtual 36, 3) := by decide +kernel
theorem dX5_ofDinner_41 : decode cX5_ofDinner 41 = .ok (.aload_n 0, 1) := by decide +kernel
theorem dX5_ofDinner_42 : decode cX5_ofDinner 42 = .ok (.getfield 15, 3) := by decide +kernel
theorem dX5_ofDinner_45 : decode cX5_ofDinner 45 = .ok (.getfield 40, 3) := by decide +kernel
theorem dX5_ofDinner_48 : decode cX5_ofDinner 48 = .ok (.aload_n 0, 1) := by decide +kernel
theorem dX5_ofDinner_49 : decode cX5_ofDinner 49 = .ok (.getfield 15, 3) := by decide +kernel
theorem dX5_ofDinner_52 : decode cX5_ofDinner 52 = .ok (.getfield 33, 3) := by decide +kernel
theorem dX5_ofDinner_55 : decode cX5_ofDinner 55 = .ok (.iload_n 2, 1) := by decide +kernel
theorem dX5_ofDinner_56 : decode cX5_ofDinner 56 = .ok (.iload 5, 2) := by decide +kernel
theorem dX5_ofDinner_58 : decode cX5_ofDinner 58 = .ok (.invokevirtual 44, 3) := by decide +kernel
theorem dX5_ofDinner_61 : decode cX5_ofDinner 61 = .ok (.bipush 7, 2) := by decide +kernel
theorem dX5_ofDinner_63 : decode cX5_ofDinner 63 = .ok (.if_icmp .eq 13, 3) := by decide +kernel
theorem dX5_ofDinner_66 : decode cX5_ofDinner 66 = .ok (.lload_n 3, 1) := by decide +kernel
theorem dX5_ofDinner_67 : decode cX5_ofDinner 67 = .ok (.aload_n 0, 1) := by decide +kernel
theorem dX5_ofDinner_68 : decode cX5_ofDinner 68 = .ok (.iload_n 1, 1) := by decide +kernel
theorem dX5_ofDinner_69 : decode cX5_ofDinner 69 = .ok (.iload 5, 2) := by decide +kernel
theorem dX5_ofDinner_71 : decode cX5_ofDinner 71 = .ok (.invokevirtual 50, 3) := by decide +kernel
theorem dX5_ofDinner_74 : decode cX5_ofDinner 74 = .ok (.ladd, 1) := by decide +kernel
theorem dX5_ofDinner_75 : decode cX5_ofDinner 75 = .ok (.lstore_n 3, 1) := by decide +kernel
theorem dX5_ofDinner_76 : decode cX5_ofDinner 76 = .ok (.iinc 5 1, 3) := by decide +kernel
theorem dX5_ofDinner_79 : decode cX5_ofDinner 79 = .ok (.goto (-66), 3) := by decide +kernel
theorem dX5_ofDinner_82 : decode cX5_ofDinner 82 = .ok (.lload_n 3, 1) := by decide +kernel
theorem dX5_ofDinner_83 : decode cX5_ofDinner 83 = .ok (.lreturn, 1) := by decide +kernel
def L_X5_ofDinner_13 (c_t_now_comers : Int32) (r_t_now_likings : (Nat → Int32)) (x1 : Int32) (x2 : Int32) (v1 : (Int32 × Int32 × Int32 × Int32 × Int32 × Int32 × (Nat → Int32) × (Nat → Int32) × (Nat → Int32) × (Nat → Int32) × (Nat → Int32))) : Nat → Int64 → Int32 → (Nat → Int32) → (Nat → Int32) → (Nat → Int32) → Option (Int64 × (Nat → Int32) × (Nat → Int32) × (Nat → Int32))
  | 0, _, _, _, _, _ => none
  | n + 1, y2, y3, y4, y5, y6 =>
    if ((1 : Int32) <<< (c_t_now_comers &&& 31)) ≤ y3 then
      (some ((y2, y4, y5, y6)))
    else
      ((f_X1_copyLikingsFrom y4 r_t_now_likings).bind (fun (v7 : (Nat → Int32)) =>
        (f_X2_holdAt y5 y6 v1.2.2.2.2.1 v1.2.2.2.2.2.2.1 v1.2.2.2.2.2.2.2.1 v1.2.2.2.2.2.2.2.2.1 v7 v1.2.2.2.2.2.2.2.2.2.2 x2 y3).bind (fun (v8 : Int32 × (Nat → Int32) × (Nat → Int32) × (Nat → Int32)) =>
          if v8.1 = 7 then
            (L_X5_ofDinner_13 c_t_now_comers r_t_now_likings x1 x2 v1 n y2 (y3 + 1) v8.2.2.2 v8.2.1 v8.2.2.1)
          else
            ((f_X5_ofComing c_t_now_comers x1 y3).bind (fun (v9 : Int64) =>
              L_X5_ofDinner_13 c_t_now_comers r_t_now_likings x1 x2 v1 n (y2 + v9) (y3 + 1) v8.2.2.2 v8.2.1 v8.2.2.1)))))
def f_X5_ofDinner (c_t_now_houses : Int32) (c_t_now_comers : Int32) (c_t_now_evening : Int32) (r_t_now_comes : (Nat → Int32)) (r_t_now_goes : (Nat → Int32)) (r_t_now_kindOf : (Nat → Int32)) (r_t_now_likings : (Nat → Int32)) (r_t_now_lists : (Nat → Int32)) (c_t_trial_evenings : Int32) (c_t_trial_waited : Int32) (c_t_trial_firstFast : Int32) (c_t_trial_county_houses : Int32) (c_t_trial_county_comers : Int32) (c_t_trial_county_evening : Int32) (r_t_trial_county_comes : (Nat → Int32)) (r_t_trial_county_goes : (Nat → Int32)) (r_t_trial_county_kindOf : (Nat → Int32)) (r_t_trial_county_likings : (Nat → Int32)) (r_t_trial_county_lists : (Nat → Int32)) (r_t_trial_evening_hours : (Nat → Int32)) (r_t_trial_evening_openers : (Nat → Int32)) (x1 : Int32) (x2 : Int32) : Option (Int64 × Int32 × Int32 × Int32 × Int32 × Int32 × Int32 × (Nat → Int32) × (Nat → Int32) × (Nat → Int32) × (Nat → Int32) × (Nat → Int32) × (Nat → Int32) × (Nat → Int32)) :=
  (f_X10_restart c_t_trial_evenings c_t_trial_waited c_t_trial_firstFast c_t_trial_county_houses c_t_trial_county_comers c_t_trial_county_evening r_t_trial_county_comes r_t_trial_county_goes r_t_trial_county_kindOf r_t_trial_county_likings r_t_trial_county_lists c_t_now_houses c_t_now_comers c_t_now_evening r_t_now_comes r_t_now_goes r_t_now_kindOf r_t_now_likings r_t_now_lists).bind (fun (v1 : Int32 × Int32 × Int32 × Int32 × Int32 × Int32 × (Nat → Int32) × (Nat → Int32) × (Nat → Int32) × (Nat → Int32) × (Nat → Int32)) =>
    (L_X5_ofDinner_13 c_t_now_comers r_t_now_likings x1 x2 v1 400 0 0 v1.2.2.2.2.2.2.2.2.2.1 r_t_trial_evening_hours r_t_trial_evening_openers).bind (fun (v11 : Int64 × (Nat → Int32) × (Nat → Int32) × (Nat → Int32)) =>
      some ((v11.1, v1.1, v1.2.1, v1.2.2.1, v1.2.2.2.1, v1.2.2.2.2.1, v1.2.2.2.2.2.1, v1.2.2.2.2.2.2.1, v1.2.2.2.2.2.2.2.1, v1.2.2.2.2.2.2.2.2.1, v11.2.1, v1.2.2.2.2.2.2.2.2.2.2, v11.2.2.1, v11.2.2.2))))
abbrev rm_X5_ofDinner : Room := { frames := 4, cells := 0, slots := 0, locals := 122 }
set_option maxHeartbeats 4000000 in
set_option maxRecDepth 100000 in
theorem lp_X5_ofDinner_13 {E : Ev} {X : Cx} {a_t a_t_now a_t_now_comes a_t_now_goes a_t_now_kindOf a_t_now_likings a_t_now_lists a_t_trial a_t_trial_county a_t_trial_county_comes a_t_trial_county_goes a_t_trial_county_kindOf a_t_trial_county_likings a_t_trial_county_lists a_t_trial_evening a_t_trial_evening_hours a_t_trial_evening_openers : Nat} (c_t_now_houses : Int32) (c_t_now_comers : Int32) (c_t_now_evening : Int32) (r_t_now_comes : (Nat → Int32)) (r_t_now_goes : (Nat → Int32)) (r_t_now_kindOf : (Nat → Int32)) (r_t_now_likings : (Nat → Int32)) (r_t_now_lists : (Nat → Int32)) (c_t_trial_evening_begun : Int32) (c_t_trial_evening_waited : Int32) (x1 : Int32) (x2 : Int32) (v1 : (Int32 × Int32 × Int32 × Int32 × Int32 × Int32 × (Nat → Int32) × (Nat → Int32) × (Nat → Int32) × (Nat → Int32) × (Nat → Int32))) (C : CX E X cX5_ofDinner RX5 6 rm_X5_ofDinner) : ∀ (n : Nat) (y2 : Int64) (y3 : Int32) (y4 : (Nat → Int32)) (y5 : (Nat → Int32)) (y6 : (Nat → Int32)) (v : Int64 × (Nat → Int32) × (Nat → Int32) × (Nat → Int32)), L_X5_ofDinner_13 c_t_now_comers r_t_now_likings x1 x2 v1 n y2 y3 y4 y5 y6 = some v → G E X 0 0 [oX5 a_t a_t_now a_t_trial, oX1 a_t_now c_t_now_houses c_t_now_comers c_t_now_evening a_t_now_lists a_t_now_kindOf a_t_now_goes a_t_now_comes a_t_now_likings, aI E a_t_now_comes 6 r_t_now_comes, aI E a_t_now_goes 6 r_t_now_goes, aI E a_t_now_kindOf 6 r_t_now_kindOf, aI E a_t_now_likings 24 r_t_now_likings, aI E a_t_now_lists 4 r_t_now_lists, oX10 a_t_trial a_t_now a_t_trial_county a_t_trial_evening v1.1 v1.2.1 v1.2.2.1, oX1 a_t_trial_county v1.2.2.2.1 v1.2.2.2.2.1 v1.2.2.2.2.2.1 a_t_trial_county_lists a_t_trial_county_kindOf a_t_trial_county_goes a_t_trial_county_comes a_t_trial_county_likings, aI E a_t_trial_county_comes 6 v1.2.2.2.2.2.2.1, aI E a_t_trial_county_goes 6 v1.2.2.2.2.2.2.2.1, aI E a_t_trial_county_kindOf 6 v1.2.2.2.2.2.2.2.2.1, aI E a_t_trial_county_likings 24 v.2.1, aI E a_t_trial_county_lists 4 v1.2.2.2.2.2.2.2.2.2.2, oX2 a_t_trial_evening a_t_trial_evening_hours a_t_trial_evening_openers c_t_trial_evening_begun c_t_trial_evening_waited, aI E a_t_trial_evening_hours 4 v.2.2.1, aI E a_t_trial_evening_openers 4 v.2.2.2] [(3, .long v.1)] 82 [] → G E X 0 0 [oX5 a_t a_t_now a_t_trial, oX1 a_t_now c_t_now_houses c_t_now_comers c_t_now_evening a_t_now_lists a_t_now_kindOf a_t_now_goes a_t_now_comes a_t_now_likings, aI E a_t_now_comes 6 r_t_now_comes, aI E a_t_now_goes 6 r_t_now_goes, aI E a_t_now_kindOf 6 r_t_now_kindOf, aI E a_t_now_likings 24 r_t_now_likings, aI E a_t_now_lists 4 r_t_now_lists, oX10 a_t_trial a_t_now a_t_trial_county a_t_trial_evening v1.1 v1.2.1 v1.2.2.1, oX1 a_t_trial_county v1.2.2.2.1 v1.2.2.2.2.1 v1.2.2.2.2.2.1 a_t_trial_county_lists a_t_trial_county_kindOf a_t_trial_county_goes a_t_trial_county_comes a_t_trial_county_likings, aI E a_t_trial_county_comes 6 v1.2.2.2.2.2.2.1, aI E a_t_trial_county_goes 6 v1.2.2.2.2.2.2.2.1, aI E a_t_trial_county_kindOf 6 v1.2.2.2.2.2.2.2.2.1, aI E a_t_trial_county_likings 24 y4, aI E a_t_trial_county_lists 4 v1.2.2.2.2.2.2.2.2.2.2, oX2 a_t_trial_evening a_t_trial_evening_hours a_t_trial_evening_openers c_t_trial_evening_begun c_t_trial_evening_waited, aI E a_t_trial_evening_hours 4 y5, aI E a_t_trial_evening_openers 4 y6] [(0, .ref a_t), (1, .int x1), (2, .int x2), (3, .long y2), (5, .int y3)] 13 [] := by
  intro n
  induction n with
  | zero => intro _ _ _ _ _ _ h; cases h
  | succ n ih =>
    intro y2 y3 y4 y5 y6 v h kk
    rw [L_X5_ofDinner_13] at h
    refine g_iload (pc := 13) C dX5_ofDinner_13 4 rfl ?_
    refine g_iconst (pc := 15) (v := 1) C dX5_ofDinner_15 (by decide) ?_
    refine g_aload_n (pc := 16) C dX5_ofDinner_16 0 rfl ?_
    refine g_get (pc := 17) 0 C fl_X5_9 rfl rfl dX5_ofDinner_17 ?_
    refine g_get (pc := 20) 1 C fl_X5_19 rfl rfl dX5_ofDinner_20 ?_
    refine g_ishl (pc := 23) C dX5_ofDinner_23 ?_
    refine b_icmp_ge (pc := 24) 82 C dX5_ofDinner_24 (by decide) h (fun _ h => ?_) (fun _ h => ?_)
    · obtain rfl := Option.some.inj h
      refine g_lv [3] (lv' := [(3, .long y2)]) rfl ?_
      exact kk
    · refine g_aload_n (pc := 27) C dX5_ofDinner_27 0 rfl ?_
      refine g_get (pc := 28) 0 C fl_X5_15 rfl rfl dX5_ofDinner_28 ?_
      refine g_get (pc := 31) 7 C fl_X5_33 rfl rfl dX5_ofDinner_31 ?_
      refine g_aload_n (pc := 34) C dX5_ofDinner_34 0 rfl ?_
      refine g_get (pc := 35) 0 C fl_X5_9 rfl rfl dX5_ofDinner_35 ?_
      obtain ⟨v7, hv7, h⟩ := o_bnd h
      refine g_callV (pc := 38) (ws' := [oX5 a_t a_t_now a_t_trial, oX1 a_t_now c_t_now_houses c_t_now_comers c_t_now_evening a_t_now_lists a_t_now_kindOf a_t_now_goes a_t_now_comes a_t_now_likings, aI E a_t_now_comes 6 r_t_now_comes, aI E a_t_now_goes 6 r_t_now_goes, aI E a_t_now_kindOf 6 r_t_now_kindOf, aI E a_t_now_likings 24 r_t_now_likings, aI E a_t_now_lists 4 r_t_now_lists, oX10 a_t_trial a_t_now a_t_trial_county a_t_trial_evening v1.1 v1.2.1 v1.2.2.1, oX1 a_t_trial_county v1.2.2.2.1 v1.2.2.2.2.1 v1.2.2.2.2.2.1 a_t_trial_county_lists a_t_trial_county_kindOf a_t_trial_county_goes a_t_trial_county_comes a_t_trial_county_likings, aI E a_t_trial_county_comes 6 v1.2.2.2.2.2.2.1, aI E a_t_trial_county_goes 6 v1.2.2.2.2.2.2.2.1, aI E a_t_trial_county_kindOf 6 v1.2.2.2.2.2.2.2.2.1, aI E a_t_trial_county_likings 24 v7, aI E a_t_trial_county_lists 4 v1.2.2.2.2.2.2.2.2.2.2, oX2 a_t_trial_evening a_t_trial_evening_hours a_t_trial_evening_openers c_t_trial_evening_begun c_t_trial_evening_waited, aI E a_t_trial_evening_hours 4 y5, aI E a_t_trial_evening_openers 4 y6]) (st1 := []) C mv_X5_36 (k_X1_copyLikingsFrom E a_t_trial_county a_t_trial_county_likings a_t_now a_t_now_likings a_t_trial_county_lists a_t_trial_county_kindOf a_t_trial_county_goes a_t_trial_county_comes a_t_now_lists a_t_now_kindOf a_t_now_goes a_t_now_comes v1.2.2.2.1 v1.2.2.2.2.1 v1.2.2.2.2.2.1 y4 c_t_now_houses c_t_now_comers c_t_now_evening r_t_now_likings v7 hv7) [8, 12, 1, 5] rfl (by decide +kernel) rfl [none, some 2, none, none, none, some 3, none, none, some 0, none, none, none, some 1, none, none, none, none] 17 (by decide +kernel) rfl rfl 0 rfl rfl ⟨by decide, by decide⟩ ⟨rfl, rfl⟩ ⟨Nat.zero_le _, Nat.zero_le _⟩ rfl rfl rfl (Nat.le_of_ble_eq_true rfl) dX5_ofDinner_38 ?_
      refine g_aload_n (pc := 41) C dX5_ofDinner_41 0 rfl ?_
      refine g_get (pc := 42) 0 C fl_X5_15 rfl rfl dX5_ofDinner_42 ?_
      refine g_get (pc := 45) 7 C fl_X5_40 rfl rfl dX5_ofDinner_45 ?_
      refine g_aload_n (pc := 48) C dX5_ofDinner_48 0 rfl ?_
      refine g_get (pc := 49) 0 C fl_X5_15 rfl rfl dX5_ofDinner_49 ?_
      refine g_get (pc := 52) 7 C fl_X5_33 rfl rfl dX5_ofDinner_52 ?_
      refine g_iload_n (pc := 55) C dX5_ofDinner_55 2 rfl ?_
      refine g_iload (pc := 56) C dX5_ofDinner_56 4 rfl ?_
      obtain ⟨v8, hv8, h⟩ := o_bnd h
      refine g_callV (pc := 58) (ws' := [oX5 a_t a_t_now a_t_trial, oX1 a_t_now c_t_now_houses c_t_now_comers c_t_now_evening a_t_now_lists a_t_now_kindOf a_t_now_goes a_t_now_comes a_t_now_likings, aI E a_t_now_comes 6 r_t_now_comes, aI E a_t_now_goes 6 r_t_now_goes, aI E a_t_now_kindOf 6 r_t_now_kindOf, aI E a_t_now_likings 24 r_t_now_likings, aI E a_t_now_lists 4 r_t_now_lists, oX10 a_t_trial a_t_now a_t_trial_county a_t_trial_evening v1.1 v1.2.1 v1.2.2.1, oX1 a_t_trial_county v1.2.2.2.1 v1.2.2.2.2.1 v1.2.2.2.2.2.1 a_t_trial_county_lists a_t_trial_county_kindOf a_t_trial_county_goes a_t_trial_county_comes a_t_trial_county_likings, aI E a_t_trial_county_comes 6 v1.2.2.2.2.2.2.1, aI E a_t_trial_county_goes 6 v1.2.2.2.2.2.2.2.1, aI E a_t_trial_county_kindOf 6 v1.2.2.2.2.2.2.2.2.1, aI E a_t_trial_county_likings 24 v8.2.2.2, aI E a_t_trial_county_lists 4 v1.2.2.2.2.2.2.2.2.2.2, oX2 a_t_trial_evening a_t_trial_evening_hours a_t_trial_evening_openers c_t_trial_evening_begun c_t_trial_evening_waited, aI E a_t_trial_evening_hours 4 v8.2.1, aI E a_t_trial_evening_openers 4 v8.2.2.1]) (st1 := [.int v8.1]) C mv_X5_44 (k_X2_holdAt E a_t_trial_evening a_t_trial_evening_hours a_t_trial_evening_openers a_t_trial_county a_t_trial_county_comes a_t_trial_county_goes a_t_trial_county_kindOf a_t_trial_county_likings a_t_trial_county_lists c_t_trial_evening_begun c_t_trial_evening_waited y5 y6 v1.2.2.2.1 v1.2.2.2.2.1 v1.2.2.2.2.2.1 v1.2.2.2.2.2.2.1 v1.2.2.2.2.2.2.2.1 v1.2.2.2.2.2.2.2.2.1 v7 v1.2.2.2.2.2.2.2.2.2.2 x2 y3 v8 hv8) [14, 15, 16, 8, 9, 10, 11, 12, 13] rfl (by decide +kernel) rfl [none, none, none, none, none, none, none, none, some 3, some 4, some 5, some 6, some 7, some 8, some 0, some 1, some 2] 17 (by decide +kernel) rfl rfl 0 rfl rfl ⟨by decide, by decide⟩ ⟨rfl, rfl⟩ ⟨Nat.zero_le _, Nat.zero_le _⟩ rfl rfl rfl (Nat.le_of_ble_eq_true rfl) dX5_ofDinner_58 ?_
      refine g_bipush (pc := 61) (v := 7) C dX5_ofDinner_61 (by decide) ?_
      refine b_icmp_eq (pc := 63) 76 C dX5_ofDinner_63 (by decide) h (fun _ h => ?_) (fun _ h => ?_)
      · refine g_iinc (pc := 76) (v := y3 + 1) (lv' := [(5, .int (y3 + 1)), (0, .ref a_t), (1, .int x1), (2, .int x2), (3, .long y2)]) C dX5_ofDinner_76 4 rfl rfl (by decide) rfl ?_
        refine g_goto (pc := 79) 13 C dX5_ofDinner_79 (by decide) ?_
        refine g_lv [1, 2, 3, 4, 0] (lv' := [(0, .ref a_t), (1, .int x1), (2, .int x2), (3, .long y2), (5, .int (y3 + 1))]) rfl ?_
        exact ih _ _ _ _ _ _ h kk
      · refine g_lload_n (pc := 66) C dX5_ofDinner_66 3 rfl ?_
        refine g_aload_n (pc := 67) C dX5_ofDinner_67 0 rfl ?_
        refine g_iload_n (pc := 68) C dX5_ofDinner_68 1 rfl ?_
        refine g_iload (pc := 69) C dX5_ofDinner_69 4 rfl ?_
        obtain ⟨v9, hv9, h⟩ := o_bnd h
        refine g_callV (pc := 71) (ws' := [oX5 a_t a_t_now a_t_trial, oX1 a_t_now c_t_now_houses c_t_now_comers c_t_now_evening a_t_now_lists a_t_now_kindOf a_t_now_goes a_t_now_comes a_t_now_likings, aI E a_t_now_comes 6 r_t_now_comes, aI E a_t_now_goes 6 r_t_now_goes, aI E a_t_now_kindOf 6 r_t_now_kindOf, aI E a_t_now_likings 24 r_t_now_likings, aI E a_t_now_lists 4 r_t_now_lists, oX10 a_t_trial a_t_now a_t_trial_county a_t_trial_evening v1.1 v1.2.1 v1.2.2.1, oX1 a_t_trial_county v1.2.2.2.1 v1.2.2.2.2.1 v1.2.2.2.2.2.1 a_t_trial_county_lists a_t_trial_county_kindOf a_t_trial_county_goes a_t_trial_county_comes a_t_trial_county_likings, aI E a_t_trial_county_comes 6 v1.2.2.2.2.2.2.1, aI E a_t_trial_county_goes 6 v1.2.2.2.2.2.2.2.1, aI E a_t_trial_county_kindOf 6 v1.2.2.2.2.2.2.2.2.1, aI E a_t_trial_county_likings 24 v8.2.2.2, aI E a_t_trial_county_lists 4 v1.2.2.2.2.2.2.2.2.2.2, oX2 a_t_trial_evening a_t_trial_evening_hours a_t_trial_evening_openers c_t_trial_evening_begun c_t_trial_evening_waited, aI E a_t_trial_evening_hours 4 v8.2.1, aI E a_t_trial_evening_openers 4 v8.2.2.1]) (st1 := [.long v9, .long y2]) C mv_X5_50 (k_X5_ofComing E a_t a_t_now a_t_trial a_t_now_lists a_t_now_kindOf a_t_now_goes a_t_now_comes a_t_now_likings c_t_now_houses c_t_now_comers c_t_now_evening x1 y3 v9 hv9) [0, 1] rfl (by decide +kernel) rfl [some 0, some 1, none, none, none, none, none, none, none, none, none, none, none, none, none, none, none] 17 (by decide +kernel) rfl rfl 0 rfl rfl ⟨by decide, by decide⟩ ⟨rfl, rfl⟩ ⟨Nat.zero_le _, Nat.zero_le _⟩ rfl rfl rfl (Nat.le_of_ble_eq_true rfl) dX5_ofDinner_71 ?_
        refine g_ladd (pc := 74) C dX5_ofDinner_74 ?_
        refine g_lstore_n (pc := 75) (lv' := [(3, .long (y2 + v9)), (0, .ref a_t), (1, .int x1), (2, .int x2), (5, .int y3)]) C dX5_ofDinner_75 (by decide) rfl ?_
        refine g_iinc (pc := 76) (v := y3 + 1) (lv' := [(5, .int (y3 + 1)), (3, .long (y2 + v9)), (0, .ref a_t), (1, .int x1), (2, .int x2)]) C dX5_ofDinner_76 4 rfl rfl (by decide) rfl ?_
        refine g_goto (pc := 79) 13 C dX5_ofDinner_79 (by decide) ?_
        refine g_lv [2, 3, 4, 1, 0] (lv' := [(0, .ref a_t), (1, .int x1), (2, .int x2), (3, .long (y2 + v9)), (5, .int (y3 + 1))]) rfl ?_
        exact ih _ _ _ _ _ _ h kk
set_option maxHeartbeats 4000000 in
set_option maxRecDepth 100000 in
theorem k_X5_ofDinner (E : Ev) (a_t a_t_now a_t_now_comes a_t_now_goes a_t_now_kindOf a_t_now_likings a_t_now_lists a_t_trial a_t_trial_county a_t_trial_county_comes a_t_trial_county_goes a_t_trial_county_kindOf a_t_trial_county_likings a_t_trial_county_lists a_t_trial_evening a_t_trial_evening_hours a_t_trial_evening_openers : Nat) (c_t_now_houses : Int32) (c_t_now_comers : Int32) (c_t_now_evening : Int32) (r_t_now_comes : (Nat → Int32)) (r_t_now_goes : (Nat → Int32)) (r_t_now_kindOf : (Nat → Int32)) (r_t_now_likings : (Nat → Int32)) (r_t_now_lists : (Nat → Int32)) (c_t_trial_evenings : Int32) (c_t_trial_waited : Int32) (c_t_trial_firstFast : Int32) (c_t_trial_county_houses : Int32) (c_t_trial_county_comers : Int32) (c_t_trial_county_evening : Int32) (r_t_trial_county_comes : (Nat → Int32)) (r_t_trial_county_goes : (Nat → Int32)) (r_t_trial_county_kindOf : (Nat → Int32)) (r_t_trial_county_likings : (Nat → Int32)) (r_t_trial_county_lists : (Nat → Int32)) (c_t_trial_evening_begun : Int32) (c_t_trial_evening_waited : Int32) (r_t_trial_evening_hours : (Nat → Int32)) (r_t_trial_evening_openers : (Nat → Int32)) (x1 : Int32) (x2 : Int32) (v : Int64 × Int32 × Int32 × Int32 × Int32 × Int32 × Int32 × (Nat → Int32) × (Nat → Int32) × (Nat → Int32) × (Nat → Int32) × (Nat → Int32) × (Nat → Int32) × (Nat → Int32)) (h : f_X5_ofDinner c_t_now_houses c_t_now_comers c_t_now_evening r_t_now_comes r_t_now_goes r_t_now_kindOf r_t_now_likings r_t_now_lists c_t_trial_evenings c_t_trial_waited c_t_trial_firstFast c_t_trial_county_houses c_t_trial_county_comers c_t_trial_county_evening r_t_trial_county_comes r_t_trial_county_goes r_t_trial_county_kindOf r_t_trial_county_likings r_t_trial_county_lists r_t_trial_evening_hours r_t_trial_evening_openers x1 x2 = some v) : Mt E yX5_ofDinner cX5_ofDinner 6 (some .long) rm_X5_ofDinner [.ref a_t, .int x1, .int x2] [oX5 a_t a_t_now a_t_trial, oX1 a_t_now c_t_now_houses c_t_now_comers c_t_now_evening a_t_now_lists a_t_now_kindOf a_t_now_goes a_t_now_comes a_t_now_likings, aI E a_t_now_comes 6 r_t_now_comes, aI E a_t_now_goes 6 r_t_now_goes, aI E a_t_now_kindOf 6 r_t_now_kindOf, aI E a_t_now_likings 24 r_t_now_likings, aI E a_t_now_lists 4 r_t_now_lists, oX10 a_t_trial a_t_now a_t_trial_county a_t_trial_evening c_t_trial_evenings c_t_trial_waited c_t_trial_firstFast, oX1 a_t_trial_county c_t_trial_county_houses c_t_trial_county_comers c_t_trial_county_evening a_t_trial_county_lists a_t_trial_county_kindOf a_t_trial_county_goes a_t_trial_county_comes a_t_trial_county_likings, aI E a_t_trial_county_comes 6 r_t_trial_county_comes, aI E a_t_trial_county_goes 6 r_t_trial_county_goes, aI E a_t_trial_county_kindOf 6 r_t_trial_county_kindOf, aI E a_t_trial_county_likings 24 r_t_trial_county_likings, aI E a_t_trial_county_lists 4 r_t_trial_county_lists, oX2 a_t_trial_evening a_t_trial_evening_hours a_t_trial_evening_openers c_t_trial_evening_begun c_t_trial_evening_waited, aI E a_t_trial_evening_hours 4 r_t_trial_evening_hours, aI E a_t_trial_evening_openers 4 r_t_trial_evening_openers] [oX5 a_t a_t_now a_t_trial, oX1 a_t_now c_t_now_houses c_t_now_comers c_t_now_evening a_t_now_lists a_t_now_kindOf a_t_now_goes a_t_now_comes a_t_now_likings, aI E a_t_now_comes 6 r_t_now_comes, aI E a_t_now_goes 6 r_t_now_goes, aI E a_t_now_kindOf 6 r_t_now_kindOf, aI E a_t_now_likings 24 r_t_now_likings, aI E a_t_now_lists 4 r_t_now_lists, oX10 a_t_trial a_t_now a_t_trial_county a_t_trial_evening v.2.1 v.2.2.1 v.2.2.2.1, oX1 a_t_trial_county v.2.2.2.2.1 v.2.2.2.2.2.1 v.2.2.2.2.2.2.1 a_t_trial_county_lists a_t_trial_county_kindOf a_t_trial_county_goes a_t_trial_county_comes a_t_trial_county_likings, aI E a_t_trial_county_comes 6 v.2.2.2.2.2.2.2.1, aI E a_t_trial_county_goes 6 v.2.2.2.2.2.2.2.2.1, aI E a_t_trial_county_kindOf 6 v.2.2.2.2.2.2.2.2.2.1, aI E a_t_trial_county_likings 24 v.2.2.2.2.2.2.2.2.2.2.1, aI E a_t_trial_county_lists 4 v.2.2.2.2.2.2.2.2.2.2.2.1, oX2 a_t_trial_evening a_t_trial_evening_hours a_t_trial_evening_openers c_t_trial_evening_begun c_t_trial_evening_waited, aI E a_t_trial_evening_hours 4 v.2.2.2.2.2.2.2.2.2.2.2.2.1, aI E a_t_trial_evening_openers 4 v.2.2.2.2.2.2.2.2.2.2.2.2.2] (some (.long v.1)) := by
  refine Mt.intro (lv := [(0, .ref a_t), (1, .int x1), (2, .int x2)]) (by decide +kernel) (Nat.le_of_ble_eq_true rfl) rfl (fun X C K => ?_)
  have C : CX E X cX5_ofDinner RX5 6 rm_X5_ofDinner := C
  rw [f_X5_ofDinner] at h
  refine g_lconst (pc := 0) (v := 0) C dX5_ofDinner_0 (by decide) ?_
  refine g_lstore_n (pc := 1) (lv' := [(3, .long 0), (0, .ref a_t), (1, .int x1), (2, .int x2)]) C dX5_ofDinner_1 (by decide) rfl ?_
  refine g_aload_n (pc := 2) C dX5_ofDinner_2 1 rfl ?_
  refine g_get (pc := 3) 0 C fl_X5_15 rfl rfl dX5_ofDinner_3 ?_
  obtain ⟨v1, hv1, h⟩ := o_bnd h
  refine g_callV (pc := 6) (ws' := [oX5 a_t a_t_now a_t_trial, oX1 a_t_now c_t_now_houses c_t_now_comers c_t_now_evening a_t_now_lists a_t_now_kindOf a_t_now_goes a_t_now_comes a_t_now_likings, aI E a_t_now_comes 6 r_t_now_comes, aI E a_t_now_goes 6 r_t_now_goes, aI E a_t_now_kindOf 6 r_t_now_kindOf, aI E a_t_now_likings 24 r_t_now_likings, aI E a_t_now_lists 4 r_t_now_lists, oX10 a_t_trial a_t_now a_t_trial_county a_t_trial_evening v1.1 v1.2.1 v1.2.2.1, oX1 a_t_trial_county v1.2.2.2.1 v1.2.2.2.2.1 v1.2.2.2.2.2.1 a_t_trial_county_lists a_t_trial_county_kindOf a_t_trial_county_goes a_t_trial_county_comes a_t_trial_county_likings, aI E a_t_trial_county_comes 6 v1.2.2.2.2.2.2.1, aI E a_t_trial_county_goes 6 v1.2.2.2.2.2.2.2.1, aI E a_t_trial_county_kindOf 6 v1.2.2.2.2.2.2.2.2.1, aI E a_t_trial_county_likings 24 v1.2.2.2.2.2.2.2.2.2.1, aI E a_t_trial_county_lists 4 v1.2.2.2.2.2.2.2.2.2.2, oX2 a_t_trial_evening a_t_trial_evening_hours a_t_trial_evening_openers c_t_trial_evening_begun c_t_trial_evening_waited, aI E a_t_trial_evening_hours 4 r_t_trial_evening_hours, aI E a_t_trial_evening_openers 4 r_t_trial_evening_openers]) (st1 := [.ref a_t_trial_county]) C mv_X5_27 (k_X10_restart E a_t_trial a_t_trial_county a_t_trial_county_comes a_t_trial_county_goes a_t_trial_county_kindOf a_t_trial_county_likings a_t_trial_county_lists a_t_now a_t_now_comes a_t_now_goes a_t_now_kindOf a_t_now_likings a_t_now_lists a_t_trial_evening c_t_trial_evenings c_t_trial_waited c_t_trial_firstFast c_t_trial_county_houses c_t_trial_county_comers c_t_trial_county_evening r_t_trial_county_comes r_t_trial_county_goes r_t_trial_county_kindOf r_t_trial_county_likings r_t_trial_county_lists c_t_now_houses c_t_now_comers c_t_now_evening r_t_now_comes r_t_now_goes r_t_now_kindOf r_t_now_likings r_t_now_lists v1 hv1) [7, 8, 9, 10, 11, 12, 13, 1, 2, 3, 4, 5, 6] rfl (by decide +kernel) rfl [none, some 7, some 8, some 9, some 10, some 11, some 12, some 0, some 1, some 2, some 3, some 4, some 5, some 6, none, none, none] 17 (by decide +kernel) rfl rfl 0 rfl rfl ⟨by decide, by decide⟩ ⟨rfl, rfl⟩ ⟨Nat.zero_le _, Nat.zero_le _⟩ rfl rfl rfl (Nat.le_of_ble_eq_true rfl) dX5_ofDinner_6 ?_
  refine g_pop (pc := 9) C dX5_ofDinner_9 rfl ?_
  refine g_iconst (pc := 10) (v := 0) C dX5_ofDinner_10 (by decide) ?_
  refine g_istore (pc := 11) (lv' := [(5, .int 0), (3, .long 0), (0, .ref a_t), (1, .int x1), (2, .int x2)]) C dX5_ofDinner_11 (by decide) rfl ?_
  obtain ⟨v11, hv11, h⟩ := o_bnd h
  refine g_lv [2, 3, 4, 1, 0] (lv' := [(0, .ref a_t), (1, .int x1), (2, .int x2), (3, .long 0), (5, .int 0)]) rfl ?_
  refine lp_X5_ofDinner_13 c_t_now_houses c_t_now_comers c_t_now_evening r_t_now_comes r_t_now_goes r_t_now_kindOf r_t_now_likings r_t_now_lists c_t_trial_evening_begun c_t_trial_evening_waited x1 x2 v1 C 400 _ _ _ _ _ _ hv11 ?_
  refine g_lload_n (pc := 82) C dX5_ofDinner_82 0 rfl ?_
  obtain rfl := Option.some.inj h
  exact g_lret (pc := 83) C K dX5_ofDinner_83
