theorem dX0_planOrDinners_0 : decode cX0_planOrDinners 0 = .ok (.iload_n 1, 1) := by decide +kernel
theorem dX0_planOrDinners_1 : decode cX0_planOrDinners 1 = .ok (.ifCond .eq 12, 3) := by decide +kernel
theorem dX0_planOrDinners_4 : decode cX0_planOrDinners 4 = .ok (.aload_n 0, 1) := by decide +kernel
theorem dX0_planOrDinners_5 : decode cX0_planOrDinners 5 = .ok (.getfield 9, 3) := by decide +kernel
theorem dX0_planOrDinners_8 : decode cX0_planOrDinners 8 = .ok (.bipush (-4), 2) := by decide +kernel
theorem dX0_planOrDinners_10 : decode cX0_planOrDinners 10 = .ok (.if_icmp .ne 10, 3) := by decide +kernel
theorem dX0_planOrDinners_13 : decode cX0_planOrDinners 13 = .ok (.aload_n 0, 1) := by decide +kernel
theorem dX0_planOrDinners_14 : decode cX0_planOrDinners 14 = .ok (.getfield 9, 3) := by decide +kernel
theorem dX0_planOrDinners_17 : decode cX0_planOrDinners 17 = .ok (.goto 7, 3) := by decide +kernel
theorem dX0_planOrDinners_20 : decode cX0_planOrDinners 20 = .ok (.aload_n 0, 1) := by decide +kernel
theorem dX0_planOrDinners_21 : decode cX0_planOrDinners 21 = .ok (.getfield 15, 3) := by decide +kernel
theorem dX0_planOrDinners_24 : decode cX0_planOrDinners 24 = .ok (.ireturn, 1) := by decide +kernel
def f_X0_planOrDinners (c_t_plan : Int32) (c_t_dinners : Int32) (x1 : Int32) : Option (Int32) :=
  if x1 = 0 then
    (some c_t_plan)
  else
    (if c_t_plan = ((-4)) then
      (some c_t_plan)
    else
      (some c_t_dinners))
abbrev rm_X0_planOrDinners : Room := { frames := 0, cells := 0, slots := 0, locals := 0 }
set_option maxHeartbeats 4000000 in
set_option maxRecDepth 100000 in
theorem k_X0_planOrDinners (E : Ev) (a_t a_t_now a_t_trial : Nat) (c_t_plan : Int32) (c_t_dinners : Int32) (x1 : Int32) (v : Int32) (h : f_X0_planOrDinners c_t_plan c_t_dinners x1 = some v) : Mt E yX0_planOrDinners cX0_planOrDinners 2 (some .int) rm_X0_planOrDinners [.ref a_t, .int x1] [oX0 a_t a_t_now a_t_trial c_t_plan c_t_dinners] [oX0 a_t a_t_now a_t_trial c_t_plan c_t_dinners] (some (.int v)) := by
  refine Mt.intro (lv := [(0, .ref a_t), (1, .int x1)]) (by decide +kernel) (Nat.le_of_ble_eq_true rfl) rfl (fun X C K => ?_)
  have C : CX E X cX0_planOrDinners RX0 2 rm_X0_planOrDinners := C
  rw [f_X0_planOrDinners] at h
  refine g_iload_n (pc := 0) C dX0_planOrDinners_0 1 rfl ?_
  refine b_if_eq (pc := 1) 13 C dX0_planOrDinners_1 (by decide) h (fun _ h => ?_) (fun _ h => ?_)
  · refine g_aload_n (pc := 13) C dX0_planOrDinners_13 0 rfl ?_
    refine g_get (pc := 14) 0 C fl_X0_9 rfl rfl dX0_planOrDinners_14 ?_
    refine g_goto (pc := 17) 24 C dX0_planOrDinners_17 (by decide) ?_
    obtain rfl := Option.some.inj h
    exact g_iret (pc := 24) C K dX0_planOrDinners_24
  · refine g_aload_n (pc := 4) C dX0_planOrDinners_4 0 rfl ?_
    refine g_get (pc := 5) 0 C fl_X0_9 rfl rfl dX0_planOrDinners_5 ?_
    refine g_bipush (pc := 8) (v := (-4)) C dX0_planOrDinners_8 (by decide) ?_
    refine b_icmp_ne (pc := 10) 20 C dX0_planOrDinners_10 (by decide) h (fun _ h => ?_) (fun _ h => ?_)
    · refine g_aload_n (pc := 20) C dX0_planOrDinners_20 0 rfl ?_
      refine g_get (pc := 21) 0 C fl_X0_15 rfl rfl dX0_planOrDinners_21 ?_
      obtain rfl := Option.some.inj h
      exact g_iret (pc := 24) C K dX0_planOrDinners_24
    · refine g_aload_n (pc := 13) C dX0_planOrDinners_13 0 rfl ?_
      refine g_get (pc := 14) 0 C fl_X0_9 rfl rfl dX0_planOrDinners_14 ?_
      refine g_goto (pc := 17) 24 C dX0_planOrDinners_17 (by decide) ?_
      obtain rfl := Option.some.inj h
      exact g_iret (pc := 24) C K dX0_planOrDinners_24
theorem dX0_beginAt_0 : decode cX0_beginAt 0 = .ok (.aload_n 0, 1) := by decide +kernel
theorem dX0_beginAt_1 : decode cX0_beginAt 1 = .ok (.bipush (-4), 2) := by decide +kernel
theorem dX0_beginAt_3 : decode cX0_beginAt 3 = .ok (.putfield 9, 3) := by decide +kernel
theorem dX0_beginAt_6 : decode cX0_beginAt 6 = .ok (.aload_n 0, 1) := by decide +kernel
theorem dX0_beginAt_7 : decode cX0_beginAt 7 = .ok (.iload_n 1, 1) := by decide +kernel
theorem dX0_beginAt_8 : decode cX0_beginAt 8 = .ok (.putfield 15, 3) := by decide +kernel
theorem dX0_beginAt_11 : decode cX0_beginAt 11 = .ok (.return_, 1) := by decide +kernel
def f_X0_beginAt (c_t_plan : Int32) (c_t_dinners : Int32) (x1 : Int32) : Option (Int32 × Int32) :=
  some (((-4), x1))
abbrev rm_X0_beginAt : Room := { frames := 0, cells := 0, slots := 0, locals := 0 }
set_option maxHeartbeats 4000000 in
set_option maxRecDepth 100000 in
theorem k_X0_beginAt (E : Ev) (a_t a_t_now a_t_trial : Nat) (c_t_plan : Int32) (c_t_dinners : Int32) (x1 : Int32) (v : Int32 × Int32) (h : f_X0_beginAt c_t_plan c_t_dinners x1 = some v) : Mt E yX0_beginAt cX0_beginAt 2 none rm_X0_beginAt [.ref a_t, .int x1] [oX0 a_t a_t_now a_t_trial c_t_plan c_t_dinners] [oX0 a_t a_t_now a_t_trial v.1 v.2] none := by
  refine Mt.intro (lv := [(0, .ref a_t), (1, .int x1)]) (by decide +kernel) (Nat.le_of_ble_eq_true rfl) rfl (fun X C K => ?_)
  have C : CX E X cX0_beginAt RX0 2 rm_X0_beginAt := C
  rw [f_X0_beginAt] at h
  refine g_aload_n (pc := 0) C dX0_beginAt_0 0 rfl ?_
  refine g_bipush (pc := 1) (v := (-4)) C dX0_beginAt_1 (by decide) ?_
  refine g_put (pc := 3) (ws' := [oX0 a_t a_t_now a_t_trial ((-4)) c_t_dinners]) 0 C fp_X0_9 rfl rfl rfl (Nat.le_of_ble_eq_true rfl) rfl dX0_beginAt_3 ?_
  refine g_aload_n (pc := 6) C dX0_beginAt_6 0 rfl ?_
  refine g_iload_n (pc := 7) C dX0_beginAt_7 1 rfl ?_
  refine g_put (pc := 8) (ws' := [oX0 a_t a_t_now a_t_trial ((-4)) x1]) 0 C fp_X0_15 rfl rfl rfl (Nat.le_of_ble_eq_true rfl) rfl dX0_beginAt_8 ?_
  obtain rfl := Option.some.inj h
  exact g_vret (pc := 11) C K dX0_beginAt_11
theorem dX10_restart_0 : decode cX10_restart 0 = .ok (.aload_n 0, 1) := by decide +kernel
theorem dX10_restart_1 : decode cX10_restart 1 = .ok (.getfield 12, 3) := by decide +kernel
theorem dX10_restart_4 : decode cX10_restart 4 = .ok (.aload_n 0, 1) := by decide +kernel
theorem dX10_restart_5 : decode cX10_restart 5 = .ok (.getfield 35, 3) := by decide +kernel
theorem dX10_restart_8 : decode cX10_restart 8 = .ok (.invokevirtual 38, 3) := by decide +kernel
theorem dX10_restart_11 : decode cX10_restart 11 = .ok (.aload_n 0, 1) := by decide +kernel
theorem dX10_restart_12 : decode cX10_restart 12 = .ok (.iconst 0, 1) := by decide +kernel
theorem dX10_restart_13 : decode cX10_restart 13 = .ok (.putfield 25, 3) := by decide +kernel
theorem dX10_restart_16 : decode cX10_restart 16 = .ok (.aload_n 0, 1) := by decide +kernel
theorem dX10_restart_17 : decode cX10_restart 17 = .ok (.iconst 0, 1) := by decide +kernel
theorem dX10_restart_18 : decode cX10_restart 18 = .ok (.putfield 29, 3) := by decide +kernel
theorem dX10_restart_21 : decode cX10_restart 21 = .ok (.aload_n 0, 1) := by decide +kernel
theorem dX10_restart_22 : decode cX10_restart 22 = .ok (.bipush (-4), 2) := by decide +kernel
theorem dX10_restart_24 : decode cX10_restart 24 = .ok (.putfield 32, 3) := by decide +kernel
theorem dX10_restart_27 : decode cX10_restart 27 = .ok (.aload_n 0, 1) := by decide +kernel
theorem dX10_restart_28 : decode cX10_restart 28 = .ok (.getfield 12, 3) := by decide +kernel
theorem dX10_restart_31 : decode cX10_restart 31 = .ok (.areturn, 1) := by decide +kernel
def f_X10_restart (c_t_evenings : Int32) (c_t_waited : Int32) (c_t_firstFast : Int32) (c_t_county_houses : Int32) (c_t_county_comers : Int32) (c_t_county_evening : Int32) (r_t_county_comes : (Nat → Int32)) (r_t_county_goes : (Nat → Int32)) (r_t_county_kindOf : (Nat → Int32)) (r_t_county_likings : (Nat → Int32)) (r_t_county_lists : (Nat → Int32)) (c_t_now_houses : Int32) (c_t_now_comers : Int32) (c_t_now_evening : Int32) (r_t_now_comes : (Nat → Int32)) (r_t_now_goes : (Nat → Int32)) (r_t_now_kindOf : (Nat → Int32)) (r_t_now_likings : (Nat → Int32)) (r_t_now_lists : (Nat → Int32)) : Option (Int32 × Int32 × Int32 × Int32 × Int32 × Int32 × (Nat → Int32) × (Nat → Int32) × (Nat → Int32) × (Nat → Int32) × (Nat → Int32)) :=
  (f_X1_copyFrom c_t_county_houses c_t_county_comers c_t_county_evening r_t_county_comes r_t_county_goes r_t_county_kindOf r_t_county_likings r_t_county_lists c_t_now_houses c_t_now_comers c_t_now_evening r_t_now_comes r_t_now_goes r_t_now_kindOf r_t_now_likings r_t_now_lists).bind (fun (v1 : Int32 × Int32 × Int32 × (Nat → Int32) × (Nat → Int32) × (Nat → Int32) × (Nat → Int32) × (Nat → Int32)) =>
    some ((0, 0, (-4), v1.1, v1.2.1, v1.2.2.1, v1.2.2.2.1, v1.2.2.2.2.1, v1.2.2.2.2.2.1, v1.2.2.2.2.2.2.1, v1.2.2.2.2.2.2.2)))
abbrev rm_X10_restart : Room := { frames := 3, cells := 0, slots := 0, locals := 102 }
set_option maxHeartbeats 4000000 in
set_option maxRecDepth 100000 in
theorem k_X10_restart (E : Ev) (a_t a_t_county a_t_county_comes a_t_county_goes a_t_county_kindOf a_t_county_likings a_t_county_lists a_t_now a_t_now_comes a_t_now_goes a_t_now_kindOf a_t_now_likings a_t_now_lists a_t_evening : Nat) (c_t_evenings : Int32) (c_t_waited : Int32) (c_t_firstFast : Int32) (c_t_county_houses : Int32) (c_t_county_comers : Int32) (c_t_county_evening : Int32) (r_t_county_comes : (Nat → Int32)) (r_t_county_goes : (Nat → Int32)) (r_t_county_kindOf : (Nat → Int32)) (r_t_county_likings : (Nat → Int32)) (r_t_county_lists : (Nat → Int32)) (c_t_now_houses : Int32) (c_t_now_comers : Int32) (c_t_now_evening : Int32) (r_t_now_comes : (Nat → Int32)) (r_t_now_goes : (Nat → Int32)) (r_t_now_kindOf : (Nat → Int32)) (r_t_now_likings : (Nat → Int32)) (r_t_now_lists : (Nat → Int32)) (v : Int32 × Int32 × Int32 × Int32 × Int32 × Int32 × (Nat → Int32) × (Nat → Int32) × (Nat → Int32) × (Nat → Int32) × (Nat → Int32)) (h : f_X10_restart c_t_evenings c_t_waited c_t_firstFast c_t_county_houses c_t_county_comers c_t_county_evening r_t_county_comes r_t_county_goes r_t_county_kindOf r_t_county_likings r_t_county_lists c_t_now_houses c_t_now_comers c_t_now_evening r_t_now_comes r_t_now_goes r_t_now_kindOf r_t_now_likings r_t_now_lists = some v) : Mt E yX10_restart cX10_restart 1 (some (.object "UnaskedGuests$County")) rm_X10_restart [.ref a_t] [oX10 a_t a_t_now a_t_county a_t_evening c_t_evenings c_t_waited c_t_firstFast, oX1 a_t_county c_t_county_houses c_t_county_comers c_t_county_evening a_t_county_lists a_t_county_kindOf a_t_county_goes a_t_county_comes a_t_county_likings, aI E a_t_county_comes 6 r_t_county_comes, aI E a_t_county_goes 6 r_t_county_goes, aI E a_t_county_kindOf 6 r_t_county_kindOf, aI E a_t_county_likings 24 r_t_county_likings, aI E a_t_county_lists 4 r_t_county_lists, oX1 a_t_now c_t_now_houses c_t_now_comers c_t_now_evening a_t_now_lists a_t_now_kindOf a_t_now_goes a_t_now_comes a_t_now_likings, aI E a_t_now_comes 6 r_t_now_comes, aI E a_t_now_goes 6 r_t_now_goes, aI E a_t_now_kindOf 6 r_t_now_kindOf, aI E a_t_now_likings 24 r_t_now_likings, aI E a_t_now_lists 4 r_t_now_lists] [oX10 a_t a_t_now a_t_county a_t_evening v.1 v.2.1 v.2.2.1, oX1 a_t_county v.2.2.2.1 v.2.2.2.2.1 v.2.2.2.2.2.1 a_t_county_lists a_t_county_kindOf a_t_county_goes a_t_county_comes a_t_county_likings, aI E a_t_county_comes 6 v.2.2.2.2.2.2.1, aI E a_t_county_goes 6 v.2.2.2.2.2.2.2.1, aI E a_t_county_kindOf 6 v.2.2.2.2.2.2.2.2.1, aI E a_t_county_likings 24 v.2.2.2.2.2.2.2.2.2.1, aI E a_t_county_lists 4 v.2.2.2.2.2.2.2.2.2.2, oX1 a_t_now c_t_now_houses c_t_now_comers c_t_now_evening a_t_now_lists a_t_now_kindOf a_t_now_goes a_t_now_comes a_t_now_likings, aI E a_t_now_comes 6 r_t_now_comes, aI E a_t_now_goes 6 r_t_now_goes, aI E a_t_now_kindOf 6 r_t_now_kindOf, aI E a_t_now_likings 24 r_t_now_likings, aI E a_t_now_lists 4 r_t_now_lists] (some (.ref a_t_county)) := by
  refine Mt.intro (lv := [(0, .ref a_t)]) (by decide +kernel) (Nat.le_of_ble_eq_true rfl) rfl (fun X C K => ?_)
  have C : CX E X cX10_restart RX10 1 rm_X10_restart := C
  rw [f_X10_restart] at h
  refine g_aload_n (pc := 0) C dX10_restart_0 0 rfl ?_
  refine g_get (pc := 1) 0 C fl_X10_12 rfl rfl dX10_restart_1 ?_
  refine g_aload_n (pc := 4) C dX10_restart_4 0 rfl ?_
  refine g_get (pc := 5) 0 C fl_X10_35 rfl rfl dX10_restart_5 ?_
  obtain ⟨v1, hv1, h⟩ := o_bnd h
  refine g_callV (pc := 8) (ws' := [oX10 a_t a_t_now a_t_county a_t_evening c_t_evenings c_t_waited c_t_firstFast, oX1 a_t_county v1.1 v1.2.1 v1.2.2.1 a_t_county_lists a_t_county_kindOf a_t_county_goes a_t_county_comes a_t_county_likings, aI E a_t_county_comes 6 v1.2.2.2.1, aI E a_t_county_goes 6 v1.2.2.2.2.1, aI E a_t_county_kindOf 6 v1.2.2.2.2.2.1, aI E a_t_county_likings 24 v1.2.2.2.2.2.2.1, aI E a_t_county_lists 4 v1.2.2.2.2.2.2.2, oX1 a_t_now c_t_now_houses c_t_now_comers c_t_now_evening a_t_now_lists a_t_now_kindOf a_t_now_goes a_t_now_comes a_t_now_likings, aI E a_t_now_comes 6 r_t_now_comes, aI E a_t_now_goes 6 r_t_now_goes, aI E a_t_now_kindOf 6 r_t_now_kindOf, aI E a_t_now_likings 24 r_t_now_likings, aI E a_t_now_lists 4 r_t_now_lists]) (st1 := []) C mv_X10_38 (k_X1_copyFrom E a_t_county a_t_county_comes a_t_county_goes a_t_county_kindOf a_t_county_likings a_t_county_lists a_t_now a_t_now_comes a_t_now_goes a_t_now_kindOf a_t_now_likings a_t_now_lists c_t_county_houses c_t_county_comers c_t_county_evening r_t_county_comes r_t_county_goes r_t_county_kindOf r_t_county_likings r_t_county_lists c_t_now_houses c_t_now_comers c_t_now_evening r_t_now_comes r_t_now_goes r_t_now_kindOf r_t_now_likings r_t_now_lists v1 hv1) [1, 2, 3, 4, 5, 6, 7, 8, 9, 10, 11, 12] rfl rfl rfl rfl 0 rfl rfl ⟨by decide, by decide⟩ ⟨rfl, rfl⟩ ⟨Nat.zero_le _, Nat.zero_le _⟩ rfl rfl rfl (Nat.le_of_ble_eq_true rfl) dX10_restart_8 ?_
  refine g_aload_n (pc := 11) C dX10_restart_11 0 rfl ?_
  refine g_iconst (pc := 12) (v := 0) C dX10_restart_12 (by decide) ?_
  refine g_put (pc := 13) (ws' := [oX10 a_t a_t_now a_t_county a_t_evening 0 c_t_waited c_t_firstFast, oX1 a_t_county v1.1 v1.2.1 v1.2.2.1 a_t_county_lists a_t_county_kindOf a_t_county_goes a_t_county_comes a_t_county_likings, aI E a_t_county_comes 6 v1.2.2.2.1, aI E a_t_county_goes 6 v1.2.2.2.2.1, aI E a_t_county_kindOf 6 v1.2.2.2.2.2.1, aI E a_t_county_likings 24 v1.2.2.2.2.2.2.1, aI E a_t_county_lists 4 v1.2.2.2.2.2.2.2, oX1 a_t_now c_t_now_houses c_t_now_comers c_t_now_evening a_t_now_lists a_t_now_kindOf a_t_now_goes a_t_now_comes a_t_now_likings, aI E a_t_now_comes 6 r_t_now_comes, aI E a_t_now_goes 6 r_t_now_goes, aI E a_t_now_kindOf 6 r_t_now_kindOf, aI E a_t_now_likings 24 r_t_now_likings, aI E a_t_now_lists 4 r_t_now_lists]) 0 C fp_X10_25 rfl rfl rfl (Nat.le_of_ble_eq_true rfl) rfl dX10_restart_13 ?_
  refine g_aload_n (pc := 16) C dX10_restart_16 0 rfl ?_
  refine g_iconst (pc := 17) (v := 0) C dX10_restart_17 (by decide) ?_
  refine g_put (pc := 18) (ws' := [oX10 a_t a_t_now a_t_county a_t_evening 0 0 c_t_firstFast, oX1 a_t_county v1.1 v1.2.1 v1.2.2.1 a_t_county_lists a_t_county_kindOf a_t_county_goes a_t_county_comes a_t_county_likings, aI E a_t_county_comes 6 v1.2.2.2.1, aI E a_t_county_goes 6 v1.2.2.2.2.1, aI E a_t_county_kindOf 6 v1.2.2.2.2.2.1, aI E a_t_county_likings 24 v1.2.2.2.2.2.2.1, aI E a_t_county_lists 4 v1.2.2.2.2.2.2.2, oX1 a_t_now c_t_now_houses c_t_now_comers c_t_now_evening a_t_now_lists a_t_now_kindOf a_t_now_goes a_t_now_comes a_t_now_likings, aI E a_t_now_comes 6 r_t_now_comes, aI E a_t_now_goes 6 r_t_now_goes, aI E a_t_now_kindOf 6 r_t_now_kindOf, aI E a_t_now_likings 24 r_t_now_likings, aI E a_t_now_lists 4 r_t_now_lists]) 0 C fp_X10_29 rfl rfl rfl (Nat.le_of_ble_eq_true rfl) rfl dX10_restart_18 ?_
  refine g_aload_n (pc := 21) C dX10_restart_21 0 rfl ?_
  refine g_bipush (pc := 22) (v := (-4)) C dX10_restart_22 (by decide) ?_
  refine g_put (pc := 24) (ws' := [oX10 a_t a_t_now a_t_county a_t_evening 0 0 ((-4)), oX1 a_t_county v1.1 v1.2.1 v1.2.2.1 a_t_county_lists a_t_county_kindOf a_t_county_goes a_t_county_comes a_t_county_likings, aI E a_t_county_comes 6 v1.2.2.2.1, aI E a_t_county_goes 6 v1.2.2.2.2.1, aI E a_t_county_kindOf 6 v1.2.2.2.2.2.1, aI E a_t_county_likings 24 v1.2.2.2.2.2.2.1, aI E a_t_county_lists 4 v1.2.2.2.2.2.2.2, oX1 a_t_now c_t_now_houses c_t_now_comers c_t_now_evening a_t_now_lists a_t_now_kindOf a_t_now_goes a_t_now_comes a_t_now_likings, aI E a_t_now_comes 6 r_t_now_comes, aI E a_t_now_goes 6 r_t_now_goes, aI E a_t_now_kindOf 6 r_t_now_kindOf, aI E a_t_now_likings 24 r_t_now_likings, aI E a_t_now_lists 4 r_t_now_lists]) 0 C fp_X10_32 rfl rfl rfl (Nat.le_of_ble_eq_true rfl) rfl dX10_restart_24 ?_
  refine g_aload_n (pc := 27) C dX10_restart_27 0 rfl ?_
  refine g_get (pc := 28) 0 C fl_X10_12 rfl rfl dX10_restart_28 ?_
  obtain rfl := Option.some.inj h
  exact g_aret (pc := 31) C (by first | exact Or.inl ⟨_, rfl⟩ | exact Or.inr ⟨_, rfl⟩) K dX10_restart_31
theorem dX10_dinnersIn_0 : decode cX10_dinnersIn 0 = .ok (.iconst 0, 1) := by decide +kernel
theorem dX10_dinnersIn_1 : decode cX10_dinnersIn 1 = .ok (.istore_n 2, 1) := by decide +kernel
theorem dX10_dinnersIn_2 : decode cX10_dinnersIn 2 = .ok (.iconst 0, 1) := by decide +kernel
theorem dX10_dinnersIn_3 : decode cX10_dinnersIn 3 = .ok (.istore_n 3, 1) := by decide +kernel
theorem dX10_dinnersIn_4 : decode cX10_dinnersIn 4 = .ok (.iload_n 3, 1) := by decide +kernel
theorem dX10_dinnersIn_5 : decode cX10_dinnersIn 5 = .ok (.iload_n 1, 1) := by decide +kernel
theorem dX10_dinnersIn_6 : decode cX10_dinnersIn 6 = .ok (.if_icmp .ge 92, 3) := by decide +kernel
theorem dX10_dinnersIn_9 : decode cX10_dinnersIn 9 = .ok (.aload_n 0, 1) := by decide +kernel
theorem dX10_dinnersIn_10 : decode cX10_dinnersIn 10 = .ok (.getfield 21, 3) := by decide +kernel
theorem dX10_dinnersIn_13 : decode cX10_dinnersIn 13 = .ok (.aload_n 0, 1) := by decide +kernel
theorem dX10_dinnersIn_14 : decode cX10_dinnersIn 14 = .ok (.getfield 12, 3) := by decide +kernel
theorem dX10_dinnersIn_17 : decode cX10_dinnersIn 17 = .ok (.invokevirtual 46, 3) := by decide +kernel
theorem dX10_dinnersIn_20 : decode cX10_dinnersIn 20 = .ok (.aload_n 0, 1) := by decide +kernel
theorem dX10_dinnersIn_21 : decode cX10_dinnersIn 21 = .ok (.dup, 1) := by decide +kernel
theorem dX10_dinnersIn_22 : decode cX10_dinnersIn 22 = .ok (.getfield 25, 3) := by decide +kernel
theorem dX10_dinnersIn_25 : decode cX10_dinnersIn 25 = .ok (.iconst 1, 1) := by decide +kernel
theorem dX10_dinnersIn_26 : decode cX10_dinnersIn 26 = .ok (.iadd, 1) := by decide +kernel
theorem dX10_dinnersIn_27 : decode cX10_dinnersIn 27 = .ok (.putfield 25, 3) := by decide +kernel
theorem dX10_dinnersIn_30 : decode cX10_dinnersIn 30 = .ok (.aload_n 0, 1) := by decide +kernel
theorem dX10_dinnersIn_31 : decode cX10_dinnersIn 31 = .ok (.dup, 1) := by decide +kernel
theorem dX10_dinnersIn_32 : decode cX10_dinnersIn 32 = .ok (.getfield 29, 3) := by decide +kernel
theorem dX10_dinnersIn_35 : decode cX10_dinnersIn 35 = .ok (.aload_n 0, 1) := by decide +kernel
theorem dX10_dinnersIn_36 : decode cX10_dinnersIn 36 = .ok (.getfield 21, 3) := by decide +kernel
theorem dX10_dinnersIn_39 : decode cX10_dinnersIn 39 = .ok (.getfield 49, 3) := by decide +kernel
theorem dX10_dinnersIn_42 : decode cX10_dinnersIn 42 = .ok (.iadd, 1) := by decide +kernel
theorem dX10_dinnersIn_43 : decode cX10_dinnersIn 43 = .ok (.putfield 29, 3) := by decide +kernel
theorem dX10_dinnersIn_46 : decode cX10_dinnersIn 46 = .ok (.aload_n 0, 1) := by decide +kernel
theorem dX10_dinnersIn_47 : decode cX10_dinnersIn 47 = .ok (.getfield 21, 3) := by decide +kernel
theorem dX10_dinnersIn_50 : decode cX10_dinnersIn 50 = .ok (.getfield 50, 3) := by decide +kernel
theorem dX10_dinnersIn_53 : decode cX10_dinnersIn 53 = .ok (.invokestatic 53, 3) := by decide +kernel
theorem dX10_dinnersIn_56 : decode cX10_dinnersIn 56 = .ok (.istore 4, 2) := by decide +kernel
theorem dX10_dinnersIn_58 : decode cX10_dinnersIn 58 = .ok (.iload 4, 2) := by decide +kernel
theorem dX10_dinnersIn_60 : decode cX10_dinnersIn 60 = .ok (.aload_n 0, 1) := by decide +kernel
theorem dX10_dinnersIn_61 : decode cX10_dinnersIn 61 = .ok (.getfield 12, 3) := by decide +kernel
theorem dX10_dinnersIn_64 : decode cX10_dinnersIn 64 = .ok (.getfield 59, 3) := by decide +kernel
theorem dX10_dinnersIn_67 : decode cX10_dinnersIn 67 = .ok (.if_icmp .ge 20, 3) := by decide +kernel
theorem dX10_dinnersIn_70 : decode cX10_dinnersIn 70 = .ok (.aload_n 0, 1) := by decide +kernel
theorem dX10_dinnersIn_71 : decode cX10_dinnersIn 71 = .ok (.getfield 32, 3) := by decide +kernel
theorem dX10_dinnersIn_74 : decode cX10_dinnersIn 74 = .ok (.bipush (-4), 2) := by decide +kernel
theorem dX10_dinnersIn_76 : decode cX10_dinnersIn 76 = .ok (.if_icmp .ne 11, 3) := by decide +kernel
theorem dX10_dinnersIn_79 : decode cX10_dinnersIn 79 = .ok (.aload_n 0, 1) := by decide +kernel
theorem dX10_dinnersIn_80 : decode cX10_dinnersIn 80 = .ok (.aload_n 0, 1) := by decide +kernel
theorem dX10_dinnersIn_81 : decode cX10_dinnersIn 81 = .ok (.getfield 25, 3) := by decide +kernel
theorem dX10_dinnersIn_84 : decode cX10_dinnersIn 84 = .ok (.putfield 32, 3) := by decide +kernel
theorem dX10_dinnersIn_87 : decode cX10_dinnersIn 87 = .ok (.iload_n 2, 1) := by decide +kernel
theorem dX10_dinnersIn_88 : decode cX10_dinnersIn 88 = .ok (.iload 4, 2) := by decide +kernel
theorem dX10_dinnersIn_90 : decode cX10_dinnersIn 90 = .ok (.iadd, 1) := by decide +kernel
theorem dX10_dinnersIn_91 : decode cX10_dinnersIn 91 = .ok (.istore_n 2, 1) := by decide +kernel
theorem dX10_dinnersIn_92 : decode cX10_dinnersIn 92 = .ok (.iinc 3 1, 3) := by decide +kernel
theorem dX10_dinnersIn_95 : decode cX10_dinnersIn 95 = .ok (.goto (-91), 3) := by decide +kernel
theorem dX10_dinnersIn_98 : decode cX10_dinnersIn 98 = .ok (.iload_n 2, 1) := by decide +kernel
theorem dX10_dinnersIn_99 : decode cX10_dinnersIn 99 = .ok (.ireturn, 1) := by decide +kernel
def L_X10_dinnersIn_4 (c_t_county_houses : Int32) (c_t_county_comers : Int32) (r_t_county_comes : (Nat → Int32)) (r_t_county_goes : (Nat → Int32)) (r_t_county_kindOf : (Nat → Int32)) (r_t_county_lists : (Nat → Int32)) (x1 : Int32) : Nat → Int32 → Int32 → Int32 → Int32 → Int32 → Int32 → (Nat → Int32) → Int32 → Int32 → (Nat → Int32) → (Nat → Int32) → Option (Int32 × Int32 × Int32 × Int32 × Int32 × (Nat → Int32) × Int32 × Int32 × (Nat → Int32) × (Nat → Int32))
  | 0, _, _, _, _, _, _, _, _, _, _, _ => none
  | n + 1, y1, y2, y3, y4, y5, y6, y7, y8, y9, y10, y11 =>
    if x1 ≤ y2 then
      (some ((y1, y3, y4, y5, y6, y7, y8, y9, y10, y11)))
    else
      ((f_X2_hold y8 y9 y10 y11 c_t_county_houses c_t_county_comers y6 r_t_county_comes r_t_county_goes r_t_county_kindOf y7 r_t_county_lists).bind (fun (v12 : Int32 × Int32 × (Nat → Int32) × (Nat → Int32) × Int32 × (Nat → Int32)) =>
        (f_J6_bitCount_0f7a4 v12.1).bind (fun (v13 : Int32) =>
          if c_t_county_houses ≤ v13 then
            (L_X10_dinnersIn_4 c_t_county_houses c_t_county_comers r_t_county_comes r_t_county_goes r_t_county_kindOf r_t_county_lists x1 n (y1 + v13) (y2 + 1) (y3 + 1) (y4 + v12.2.1) y5 v12.2.2.2.2.1 v12.2.2.2.2.2 v12.1 v12.2.1 v12.2.2.1 v12.2.2.2.1)
          else
            (if y5 = ((-4)) then
              (L_X10_dinnersIn_4 c_t_county_houses c_t_county_comers r_t_county_comes r_t_county_goes r_t_county_kindOf r_t_county_lists x1 n (y1 + v13) (y2 + 1) (y3 + 1) (y4 + v12.2.1) (y3 + 1) v12.2.2.2.2.1 v12.2.2.2.2.2 v12.1 v12.2.1 v12.2.2.1 v12.2.2.2.1)
            else
              (L_X10_dinnersIn_4 c_t_county_houses c_t_county_comers r_t_county_comes r_t_county_goes r_t_county_kindOf r_t_county_lists x1 n (y1 + v13) (y2 + 1) (y3 + 1) (y4 + v12.2.1) y5 v12.2.2.2.2.1 v12.2.2.2.2.2 v12.1 v12.2.1 v12.2.2.1 v12.2.2.2.1)))))
def f_X10_dinnersIn (c_t_evenings : Int32) (c_t_waited : Int32) (c_t_firstFast : Int32) (c_t_county_houses : Int32) (c_t_county_comers : Int32) (c_t_county_evening : Int32) (r_t_county_comes : (Nat → Int32)) (r_t_county_goes : (Nat → Int32)) (r_t_county_kindOf : (Nat → Int32)) (r_t_county_likings : (Nat → Int32)) (r_t_county_lists : (Nat → Int32)) (c_t_evening_begun : Int32) (c_t_evening_waited : Int32) (r_t_evening_hours : (Nat → Int32)) (r_t_evening_openers : (Nat → Int32)) (x1 : Int32) : Option (Int32 × Int32 × Int32 × Int32 × Int32 × (Nat → Int32) × Int32 × Int32 × (Nat → Int32) × (Nat → Int32)) :=
  (L_X10_dinnersIn_4 c_t_county_houses c_t_county_comers r_t_county_comes r_t_county_goes r_t_county_kindOf r_t_county_lists x1 400 0 0 c_t_evenings c_t_waited c_t_firstFast c_t_county_evening r_t_county_likings c_t_evening_begun c_t_evening_waited r_t_evening_hours r_t_evening_openers).bind (fun (v15 : Int32 × Int32 × Int32 × Int32 × Int32 × (Nat → Int32) × Int32 × Int32 × (Nat → Int32) × (Nat → Int32)) =>
    some ((v15.1, v15.2.1, v15.2.2.1, v15.2.2.2.1, v15.2.2.2.2.1, v15.2.2.2.2.2.1, v15.2.2.2.2.2.2.1, v15.2.2.2.2.2.2.2.1, v15.2.2.2.2.2.2.2.2.1, v15.2.2.2.2.2.2.2.2.2)))
abbrev rm_X10_dinnersIn : Room := { frames := 4, cells := 0, slots := 0, locals := 98 }
set_option maxHeartbeats 4000000 in
set_option maxRecDepth 100000 in
theorem lp_X10_dinnersIn_4 {E : Ev} {X : Cx} {a_t a_t_county a_t_county_comes a_t_county_goes a_t_county_kindOf a_t_county_likings a_t_county_lists a_t_evening a_t_evening_hours a_t_evening_openers a_t_now : Nat} (c_t_county_houses : Int32) (c_t_county_comers : Int32) (r_t_county_comes : (Nat → Int32)) (r_t_county_goes : (Nat → Int32)) (r_t_county_kindOf : (Nat → Int32)) (r_t_county_lists : (Nat → Int32)) (x1 : Int32) (C : CX E X cX10_dinnersIn RX10 5 rm_X10_dinnersIn) : ∀ (n : Nat) (y1 : Int32) (y2 : Int32) (y3 : Int32) (y4 : Int32) (y5 : Int32) (y6 : Int32) (y7 : (Nat → Int32)) (y8 : Int32) (y9 : Int32) (y10 : (Nat → Int32)) (y11 : (Nat → Int32)) (v : Int32 × Int32 × Int32 × Int32 × Int32 × (Nat → Int32) × Int32 × Int32 × (Nat → Int32) × (Nat → Int32)), L_X10_dinnersIn_4 c_t_county_houses c_t_county_comers r_t_county_comes r_t_county_goes r_t_county_kindOf r_t_county_lists x1 n y1 y2 y3 y4 y5 y6 y7 y8 y9 y10 y11 = some v → G E X 0 0 [oX10 a_t a_t_now a_t_county a_t_evening v.2.1 v.2.2.1 v.2.2.2.1, oX1 a_t_county c_t_county_houses c_t_county_comers v.2.2.2.2.1 a_t_county_lists a_t_county_kindOf a_t_county_goes a_t_county_comes a_t_county_likings, aI E a_t_county_comes 6 r_t_county_comes, aI E a_t_county_goes 6 r_t_county_goes, aI E a_t_county_kindOf 6 r_t_county_kindOf, aI E a_t_county_likings 24 v.2.2.2.2.2.1, aI E a_t_county_lists 4 r_t_county_lists, oX2 a_t_evening a_t_evening_hours a_t_evening_openers v.2.2.2.2.2.2.1 v.2.2.2.2.2.2.2.1, aI E a_t_evening_hours 4 v.2.2.2.2.2.2.2.2.1, aI E a_t_evening_openers 4 v.2.2.2.2.2.2.2.2.2] [(2, .int v.1)] 98 [] → G E X 0 0 [oX10 a_t a_t_now a_t_county a_t_evening y3 y4 y5, oX1 a_t_county c_t_county_houses c_t_county_comers y6 a_t_county_lists a_t_county_kindOf a_t_county_goes a_t_county_comes a_t_county_likings, aI E a_t_county_comes 6 r_t_county_comes, aI E a_t_county_goes 6 r_t_county_goes, aI E a_t_county_kindOf 6 r_t_county_kindOf, aI E a_t_county_likings 24 y7, aI E a_t_county_lists 4 r_t_county_lists, oX2 a_t_evening a_t_evening_hours a_t_evening_openers y8 y9, aI E a_t_evening_hours 4 y10, aI E a_t_evening_openers 4 y11] [(0, .ref a_t), (1, .int x1), (2, .int y1), (3, .int y2)] 4 [] := by
  intro n
  induction n with
  | zero => intro _ _ _ _ _ _ _ _ _ _ _ _ h; cases h
  | succ n ih =>
    intro y1 y2 y3 y4 y5 y6 y7 y8 y9 y10 y11 v h kk
    rw [L_X10_dinnersIn_4] at h
    refine g_iload_n (pc := 4) C dX10_dinnersIn_4 3 rfl ?_
    refine g_iload_n (pc := 5) C dX10_dinnersIn_5 1 rfl ?_
    refine b_icmp_ge (pc := 6) 98 C dX10_dinnersIn_6 (by decide) h (fun _ h => ?_) (fun _ h => ?_)
    · obtain rfl := Option.some.inj h
      refine g_lv [2] (lv' := [(2, .int y1)]) rfl ?_
      exact kk
    · refine g_aload_n (pc := 9) C dX10_dinnersIn_9 0 rfl ?_
      refine g_get (pc := 10) 0 C fl_X10_21 rfl rfl dX10_dinnersIn_10 ?_
      refine g_aload_n (pc := 13) C dX10_dinnersIn_13 0 rfl ?_
      refine g_get (pc := 14) 0 C fl_X10_12 rfl rfl dX10_dinnersIn_14 ?_
      obtain ⟨v12, hv12, h⟩ := o_bnd h
      refine g_callV (pc := 17) (ws' := [oX10 a_t a_t_now a_t_county a_t_evening y3 y4 y5, oX1 a_t_county c_t_county_houses c_t_county_comers v12.2.2.2.2.1 a_t_county_lists a_t_county_kindOf a_t_county_goes a_t_county_comes a_t_county_likings, aI E a_t_county_comes 6 r_t_county_comes, aI E a_t_county_goes 6 r_t_county_goes, aI E a_t_county_kindOf 6 r_t_county_kindOf, aI E a_t_county_likings 24 v12.2.2.2.2.2, aI E a_t_county_lists 4 r_t_county_lists, oX2 a_t_evening a_t_evening_hours a_t_evening_openers v12.1 v12.2.1, aI E a_t_evening_hours 4 v12.2.2.1, aI E a_t_evening_openers 4 v12.2.2.2.1]) (st1 := []) C mv_X10_46 (k_X2_hold E a_t_evening a_t_evening_hours a_t_evening_openers a_t_county a_t_county_comes a_t_county_goes a_t_county_kindOf a_t_county_likings a_t_county_lists y8 y9 y10 y11 c_t_county_houses c_t_county_comers y6 r_t_county_comes r_t_county_goes r_t_county_kindOf y7 r_t_county_lists v12 hv12) [7, 8, 9, 1, 2, 3, 4, 5, 6] rfl rfl rfl rfl 0 rfl rfl ⟨by decide, by decide⟩ ⟨rfl, rfl⟩ ⟨Nat.zero_le _, Nat.zero_le _⟩ rfl rfl rfl (Nat.le_of_ble_eq_true rfl) dX10_dinnersIn_17 ?_
      refine g_aload_n (pc := 20) C dX10_dinnersIn_20 0 rfl ?_
      refine g_dup (pc := 21) C dX10_dinnersIn_21 rfl ?_
      refine g_get (pc := 22) 0 C fl_X10_25 rfl rfl dX10_dinnersIn_22 ?_
      refine g_iconst (pc := 25) (v := 1) C dX10_dinnersIn_25 (by decide) ?_
      refine g_iadd (pc := 26) C dX10_dinnersIn_26 ?_
      refine g_put (pc := 27) (ws' := [oX10 a_t a_t_now a_t_county a_t_evening (y3 + 1) y4 y5, oX1 a_t_county c_t_county_houses c_t_county_comers v12.2.2.2.2.1 a_t_county_lists a_t_county_kindOf a_t_county_goes a_t_county_comes a_t_county_likings, aI E a_t_county_comes 6 r_t_county_comes, aI E a_t_county_goes 6 r_t_county_goes, aI E a_t_county_kindOf 6 r_t_county_kindOf, aI E a_t_county_likings 24 v12.2.2.2.2.2, aI E a_t_county_lists 4 r_t_county_lists, oX2 a_t_evening a_t_evening_hours a_t_evening_openers v12.1 v12.2.1, aI E a_t_evening_hours 4 v12.2.2.1, aI E a_t_evening_openers 4 v12.2.2.2.1]) 0 C fp_X10_25 rfl rfl rfl (Nat.le_of_ble_eq_true rfl) rfl dX10_dinnersIn_27 ?_
      refine g_aload_n (pc := 30) C dX10_dinnersIn_30 0 rfl ?_
      refine g_dup (pc := 31) C dX10_dinnersIn_31 rfl ?_
      refine g_get (pc := 32) 0 C fl_X10_29 rfl rfl dX10_dinnersIn_32 ?_
      refine g_aload_n (pc := 35) C dX10_dinnersIn_35 0 rfl ?_
      refine g_get (pc := 36) 0 C fl_X10_21 rfl rfl dX10_dinnersIn_36 ?_
      refine g_get (pc := 39) 7 C fl_X10_49 rfl rfl dX10_dinnersIn_39 ?_
      refine g_iadd (pc := 42) C dX10_dinnersIn_42 ?_
      refine g_put (pc := 43) (ws' := [oX10 a_t a_t_now a_t_county a_t_evening (y3 + 1) (y4 + v12.2.1) y5, oX1 a_t_county c_t_county_houses c_t_county_comers v12.2.2.2.2.1 a_t_county_lists a_t_county_kindOf a_t_county_goes a_t_county_comes a_t_county_likings, aI E a_t_county_comes 6 r_t_county_comes, aI E a_t_county_goes 6 r_t_county_goes, aI E a_t_county_kindOf 6 r_t_county_kindOf, aI E a_t_county_likings 24 v12.2.2.2.2.2, aI E a_t_county_lists 4 r_t_county_lists, oX2 a_t_evening a_t_evening_hours a_t_evening_openers v12.1 v12.2.1, aI E a_t_evening_hours 4 v12.2.2.1, aI E a_t_evening_openers 4 v12.2.2.2.1]) 0 C fp_X10_29 rfl rfl rfl (Nat.le_of_ble_eq_true rfl) rfl dX10_dinnersIn_43 ?_
      refine g_aload_n (pc := 46) C dX10_dinnersIn_46 0 rfl ?_
      refine g_get (pc := 47) 0 C fl_X10_21 rfl rfl dX10_dinnersIn_47 ?_
      refine g_get (pc := 50) 7 C fl_X10_50 rfl rfl dX10_dinnersIn_50 ?_
      obtain ⟨v13, hv13, h⟩ := o_bnd h
      refine g_callS (pc := 53) (ws' := [oX10 a_t a_t_now a_t_county a_t_evening (y3 + 1) (y4 + v12.2.1) y5, oX1 a_t_county c_t_county_houses c_t_county_comers v12.2.2.2.2.1 a_t_county_lists a_t_county_kindOf a_t_county_goes a_t_county_comes a_t_county_likings, aI E a_t_county_comes 6 r_t_county_comes, aI E a_t_county_goes 6 r_t_county_goes, aI E a_t_county_kindOf 6 r_t_county_kindOf, aI E a_t_county_likings 24 v12.2.2.2.2.2, aI E a_t_county_lists 4 r_t_county_lists, oX2 a_t_evening a_t_evening_hours a_t_evening_openers v12.1 v12.2.1, aI E a_t_evening_hours 4 v12.2.2.1, aI E a_t_evening_openers 4 v12.2.2.2.1]) (st1 := [.int v13]) C ms_X10_53 (k_J6_bitCount_0f7a4 E v12.1 v13 hv13) [] rfl rfl rfl rfl ⟨by decide, by decide⟩ ⟨rfl, rfl⟩ ⟨Nat.zero_le _, Nat.zero_le _⟩ rfl rfl rfl (Nat.le_of_ble_eq_true rfl) dX10_dinnersIn_53 ?_
      refine g_istore (pc := 56) (lv' := [(4, .int v13), (0, .ref a_t), (1, .int x1), (2, .int y1), (3, .int y2)]) C dX10_dinnersIn_56 (by decide) rfl ?_
      refine g_iload (pc := 58) C dX10_dinnersIn_58 0 rfl ?_
      refine g_aload_n (pc := 60) C dX10_dinnersIn_60 1 rfl ?_
      refine g_get (pc := 61) 0 C fl_X10_12 rfl rfl dX10_dinnersIn_61 ?_
      refine g_get (pc := 64) 1 C fl_X10_59 rfl rfl dX10_dinnersIn_64 ?_
      refine b_icmp_ge (pc := 67) 87 C dX10_dinnersIn_67 (by decide) h (fun _ h => ?_) (fun _ h => ?_)
      · refine g_iload_n (pc := 87) C dX10_dinnersIn_87 3 rfl ?_
        refine g_iload (pc := 88) C dX10_dinnersIn_88 0 rfl ?_
        refine g_iadd (pc := 90) C dX10_dinnersIn_90 ?_
        refine g_istore_n (pc := 91) (lv' := [(2, .int (y1 + v13)), (4, .int v13), (0, .ref a_t), (1, .int x1), (3, .int y2)]) C dX10_dinnersIn_91 (by decide) rfl ?_
        refine g_iinc (pc := 92) (v := y2 + 1) (lv' := [(3, .int (y2 + 1)), (2, .int (y1 + v13)), (4, .int v13), (0, .ref a_t), (1, .int x1)]) C dX10_dinnersIn_92 4 rfl rfl (by decide) rfl ?_
        refine g_goto (pc := 95) 4 C dX10_dinnersIn_95 (by decide) ?_
        refine g_lv [3, 4, 1, 0] (lv' := [(0, .ref a_t), (1, .int x1), (2, .int (y1 + v13)), (3, .int (y2 + 1))]) rfl ?_
        exact ih _ _ _ _ _ _ _ _ _ _ _ _ h kk
      · refine g_aload_n (pc := 70) C dX10_dinnersIn_70 1 rfl ?_
        refine g_get (pc := 71) 0 C fl_X10_32 rfl rfl dX10_dinnersIn_71 ?_
        refine g_bipush (pc := 74) (v := (-4)) C dX10_dinnersIn_74 (by decide) ?_
        refine b_icmp_ne (pc := 76) 87 C dX10_dinnersIn_76 (by decide) h (fun _ h => ?_) (fun _ h => ?_)
        · refine g_iload_n (pc := 87) C dX10_dinnersIn_87 3 rfl ?_
          refine g_iload (pc := 88) C dX10_dinnersIn_88 0 rfl ?_
          refine g_iadd (pc := 90) C dX10_dinnersIn_90 ?_
          refine g_istore_n (pc := 91) (lv' := [(2, .int (y1 + v13)), (4, .int v13), (0, .ref a_t), (1, .int x1), (3, .int y2)]) C dX10_dinnersIn_91 (by decide) rfl ?_
          refine g_iinc (pc := 92) (v := y2 + 1) (lv' := [(3, .int (y2 + 1)), (2, .int (y1 + v13)), (4, .int v13), (0, .ref a_t), (1, .int x1)]) C dX10_dinnersIn_92 4 rfl rfl (by decide) rfl ?_
          refine g_goto (pc := 95) 4 C dX10_dinnersIn_95 (by decide) ?_
          refine g_lv [3, 4, 1, 0] (lv' := [(0, .ref a_t), (1, .int x1), (2, .int (y1 + v13)), (3, .int (y2 + 1))]) rfl ?_
          exact ih _ _ _ _ _ _ _ _ _ _ _ _ h kk
        · refine g_aload_n (pc := 79) C dX10_dinnersIn_79 1 rfl ?_
          refine g_aload_n (pc := 80) C dX10_dinnersIn_80 1 rfl ?_
          refine g_get (pc := 81) 0 C fl_X10_25 rfl rfl dX10_dinnersIn_81 ?_
          refine g_put (pc := 84) (ws' := [oX10 a_t a_t_now a_t_county a_t_evening (y3 + 1) (y4 + v12.2.1) (y3 + 1), oX1 a_t_county c_t_county_houses c_t_county_comers v12.2.2.2.2.1 a_t_county_lists a_t_county_kindOf a_t_county_goes a_t_county_comes a_t_county_likings, aI E a_t_county_comes 6 r_t_county_comes, aI E a_t_county_goes 6 r_t_county_goes, aI E a_t_county_kindOf 6 r_t_county_kindOf, aI E a_t_county_likings 24 v12.2.2.2.2.2, aI E a_t_county_lists 4 r_t_county_lists, oX2 a_t_evening a_t_evening_hours a_t_evening_openers v12.1 v12.2.1, aI E a_t_evening_hours 4 v12.2.2.1, aI E a_t_evening_openers 4 v12.2.2.2.1]) 0 C fp_X10_32 rfl rfl rfl (Nat.le_of_ble_eq_true rfl) rfl dX10_dinnersIn_84 ?_
          refine g_iload_n (pc := 87) C dX10_dinnersIn_87 3 rfl ?_
          refine g_iload (pc := 88) C dX10_dinnersIn_88 0 rfl ?_
          refine g_iadd (pc := 90) C dX10_dinnersIn_90 ?_
          refine g_istore_n (pc := 91) (lv' := [(2, .int (y1 + v13)), (4, .int v13), (0, .ref a_t), (1, .int x1), (3, .int y2)]) C dX10_dinnersIn_91 (by decide) rfl ?_
          refine g_iinc (pc := 92) (v := y2 + 1) (lv' := [(3, .int (y2 + 1)), (2, .int (y1 + v13)), (4, .int v13), (0, .ref a_t), (1, .int x1)]) C dX10_dinnersIn_92 4 rfl rfl (by decide) rfl ?_
          refine g_goto (pc := 95) 4 C dX10_dinnersIn_95 (by decide) ?_
          refine g_lv [3, 4, 1, 0] (lv' := [(0, .ref a_t), (1, .int x1), (2, .int (y1 + v13)), (3, .int (y2 + 1))]) rfl ?_
          exact ih _ _ _ _ _ _ _ _ _ _ _ _ h kk
set_option maxHeartbeats 4000000 in
set_option maxRecDepth 100000 in
theorem k_X10_dinnersIn (E : Ev) (a_t a_t_county a_t_county_comes a_t_county_goes a_t_county_kindOf a_t_county_likings a_t_county_lists a_t_evening a_t_evening_hours a_t_evening_openers a_t_now : Nat) (c_t_evenings : Int32) (c_t_waited : Int32) (c_t_firstFast : Int32) (c_t_county_houses : Int32) (c_t_county_comers : Int32) (c_t_county_evening : Int32) (r_t_county_comes : (Nat → Int32)) (r_t_county_goes : (Nat → Int32)) (r_t_county_kindOf : (Nat → Int32)) (r_t_county_likings : (Nat → Int32)) (r_t_county_lists : (Nat → Int32)) (c_t_evening_begun : Int32) (c_t_evening_waited : Int32) (r_t_evening_hours : (Nat → Int32)) (r_t_evening_openers : (Nat → Int32)) (x1 : Int32) (v : Int32 × Int32 × Int32 × Int32 × Int32 × (Nat → Int32) × Int32 × Int32 × (Nat → Int32) × (Nat → Int32)) (h : f_X10_dinnersIn c_t_evenings c_t_waited c_t_firstFast c_t_county_houses c_t_county_comers c_t_county_evening r_t_county_comes r_t_county_goes r_t_county_kindOf r_t_county_likings r_t_county_lists c_t_evening_begun c_t_evening_waited r_t_evening_hours r_t_evening_openers x1 = some v) : Mt E yX10_dinnersIn cX10_dinnersIn 5 (some .int) rm_X10_dinnersIn [.ref a_t, .int x1] [oX10 a_t a_t_now a_t_county a_t_evening c_t_evenings c_t_waited c_t_firstFast, oX1 a_t_county c_t_county_houses c_t_county_comers c_t_county_evening a_t_county_lists a_t_county_kindOf a_t_county_goes a_t_county_comes a_t_county_likings, aI E a_t_county_comes 6 r_t_county_comes, aI E a_t_county_goes 6 r_t_county_goes, aI E a_t_county_kindOf 6 r_t_county_kindOf, aI E a_t_county_likings 24 r_t_county_likings, aI E a_t_county_lists 4 r_t_county_lists, oX2 a_t_evening a_t_evening_hours a_t_evening_openers c_t_evening_begun c_t_evening_waited, aI E a_t_evening_hours 4 r_t_evening_hours, aI E a_t_evening_openers 4 r_t_evening_openers] [oX10 a_t a_t_now a_t_county a_t_evening v.2.1 v.2.2.1 v.2.2.2.1, oX1 a_t_county c_t_county_houses c_t_county_comers v.2.2.2.2.1 a_t_county_lists a_t_county_kindOf a_t_county_goes a_t_county_comes a_t_county_likings, aI E a_t_county_comes 6 r_t_county_comes, aI E a_t_county_goes 6 r_t_county_goes, aI E a_t_county_kindOf 6 r_t_county_kindOf, aI E a_t_county_likings 24 v.2.2.2.2.2.1, aI E a_t_county_lists 4 r_t_county_lists, oX2 a_t_evening a_t_evening_hours a_t_evening_openers v.2.2.2.2.2.2.1 v.2.2.2.2.2.2.2.1, aI E a_t_evening_hours 4 v.2.2.2.2.2.2.2.2.1, aI E a_t_evening_openers 4 v.2.2.2.2.2.2.2.2.2] (some (.int v.1)) := by
  refine Mt.intro (lv := [(0, .ref a_t), (1, .int x1)]) (by decide +kernel) (Nat.le_of_ble_eq_true rfl) rfl (fun X C K => ?_)
  have C : CX E X cX10_dinnersIn RX10 5 rm_X10_dinnersIn := C
  rw [f_X10_dinnersIn] at h
  refine g_iconst (pc := 0) (v := 0) C dX10_dinnersIn_0 (by decide) ?_
  refine g_istore_n (pc := 1) (lv' := [(2, .int 0), (0, .ref a_t), (1, .int x1)]) C dX10_dinnersIn_1 (by decide) rfl ?_
  refine g_iconst (pc := 2) (v := 0) C dX10_dinnersIn_2 (by decide) ?_
  refine g_istore_n (pc := 3) (lv' := [(3, .int 0), (2, .int 0), (0, .ref a_t), (1, .int x1)]) C dX10_dinnersIn_3 (by decide) rfl ?_
  obtain ⟨v15, hv15, h⟩ := o_bnd h
  refine g_lv [2, 3, 1, 0] (lv' := [(0, .ref a_t), (1, .int x1), (2, .int 0), (3, .int 0)]) rfl ?_
  refine lp_X10_dinnersIn_4 c_t_county_houses c_t_county_comers r_t_county_comes r_t_county_goes r_t_county_kindOf r_t_county_lists x1 C 400 _ _ _ _ _ _ _ _ _ _ _ _ hv15 ?_
  refine g_iload_n (pc := 98) C dX10_dinnersIn_98 0 rfl ?_
  obtain rfl := Option.some.inj h
  exact g_iret (pc := 99) C K dX10_dinnersIn_99
theorem dX0_weigh_0 : decode cX0_weigh 0 = .ok (.iload_n 2, 1) := by decide +kernel
theorem dX0_weigh_1 : decode cX0_weigh 1 = .ok (.aload_n 0, 1) := by decide +kernel
theorem dX0_weigh_2 : decode cX0_weigh 2 = .ok (.getfield 15, 3) := by decide +kernel
theorem dX0_weigh_5 : decode cX0_weigh 5 = .ok (.if_icmp .le 13, 3) := by decide +kernel
theorem dX0_weigh_8 : decode cX0_weigh 8 = .ok (.aload_n 0, 1) := by decide +kernel
theorem dX0_weigh_9 : decode cX0_weigh 9 = .ok (.iload_n 1, 1) := by decide +kernel
theorem dX0_weigh_10 : decode cX0_weigh 10 = .ok (.putfield 9, 3) := by decide +kernel
theorem dX0_weigh_13 : decode cX0_weigh 13 = .ok (.aload_n 0, 1) := by decide +kernel
theorem dX0_weigh_14 : decode cX0_weigh 14 = .ok (.iload_n 2, 1) := by decide +kernel
theorem dX0_weigh_15 : decode cX0_weigh 15 = .ok (.putfield 15, 3) := by decide +kernel
theorem dX0_weigh_18 : decode cX0_weigh 18 = .ok (.return_, 1) := by decide +kernel
def f_X0_weigh (c_t_plan : Int32) (c_t_dinners : Int32) (x1 : Int32) (x2 : Int32) : Option (Int32 × Int32) :=
  if x2 ≤ c_t_dinners then
    (some ((c_t_plan, c_t_dinners)))
  else
    (some ((x1, x2)))
abbrev rm_X0_weigh : Room := { frames := 0, cells := 0, slots := 0, locals := 0 }
set_option maxHeartbeats 4000000 in
set_option maxRecDepth 100000 in
theorem k_X0_weigh (E : Ev) (a_t a_t_now a_t_trial : Nat) (c_t_plan : Int32) (c_t_dinners : Int32) (x1 : Int32) (x2 : Int32) (v : Int32 × Int32) (h : f_X0_weigh c_t_plan c_t_dinners x1 x2 = some v) : Mt E yX0_weigh cX0_weigh 3 none rm_X0_weigh [.ref a_t, .int x1, .int x2] [oX0 a_t a_t_now a_t_trial c_t_plan c_t_dinners] [oX0 a_t a_t_now a_t_trial v.1 v.2] none := by
  refine Mt.intro (lv := [(0, .ref a_t), (1, .int x1), (2, .int x2)]) (by decide +kernel) (Nat.le_of_ble_eq_true rfl) rfl (fun X C K => ?_)
  have C : CX E X cX0_weigh RX0 3 rm_X0_weigh := C
  rw [f_X0_weigh] at h
  refine g_iload_n (pc := 0) C dX0_weigh_0 2 rfl ?_
  refine g_aload_n (pc := 1) C dX0_weigh_1 0 rfl ?_
  refine g_get (pc := 2) 0 C fl_X0_15 rfl rfl dX0_weigh_2 ?_
  refine b_icmp_le (pc := 5) 18 C dX0_weigh_5 (by decide) h (fun _ h => ?_) (fun _ h => ?_)
  · obtain rfl := Option.some.inj h
    exact g_vret (pc := 18) C K dX0_weigh_18
  · refine g_aload_n (pc := 8) C dX0_weigh_8 0 rfl ?_
    refine g_iload_n (pc := 9) C dX0_weigh_9 1 rfl ?_
    refine g_put (pc := 10) (ws' := [oX0 a_t a_t_now a_t_trial x1 c_t_dinners]) 0 C fp_X0_9 rfl rfl rfl (Nat.le_of_ble_eq_true rfl) rfl dX0_weigh_10 ?_
    refine g_aload_n (pc := 13) C dX0_weigh_13 0 rfl ?_
    refine g_iload_n (pc := 14) C dX0_weigh_14 2 rfl ?_
    refine g_put (pc := 15) (ws' := [oX0 a_t a_t_now a_t_trial x1 x2]) 0 C fp_X0_15 rfl rfl rfl (Nat.le_of_ble_eq_true rfl) rfl dX0_weigh_15 ?_
    obtain rfl := Option.some.inj h
    exact g_vret (pc := 18) C K dX0_weigh_18
theorem dX0_sendOne_0 : decode cX0_sendOne 0 = .ok (.aload_n 0, 1) := by decide +kernel
theorem dX0_sendOne_1 : decode cX0_sendOne 1 = .ok (.iconst (-1), 1) := by decide +kernel
theorem dX0_sendOne_2 : decode cX0_sendOne 2 = .ok (.invokevirtual 26, 3) := by decide +kernel
theorem dX0_sendOne_5 : decode cX0_sendOne 5 = .ok (.iconst 0, 1) := by decide +kernel
theorem dX0_sendOne_6 : decode cX0_sendOne 6 = .ok (.istore_n 2, 1) := by decide +kernel
theorem dX0_sendOne_7 : decode cX0_sendOne 7 = .ok (.iload_n 2, 1) := by decide +kernel
theorem dX0_sendOne_8 : decode cX0_sendOne 8 = .ok (.aload_n 0, 1) := by decide +kernel
theorem dX0_sendOne_9 : decode cX0_sendOne 9 = .ok (.getfield 18, 3) := by decide +kernel
theorem dX0_sendOne_12 : decode cX0_sendOne 12 = .ok (.getfield 30, 3) := by decide +kernel
theorem dX0_sendOne_15 : decode cX0_sendOne 15 = .ok (.if_icmp .gt 44, 3) := by decide +kernel
theorem dX0_sendOne_18 : decode cX0_sendOne 18 = .ok (.aload_n 0, 1) := by decide +kernel
theorem dX0_sendOne_19 : decode cX0_sendOne 19 = .ok (.getfield 18, 3) := by decide +kernel
theorem dX0_sendOne_22 : decode cX0_sendOne 22 = .ok (.iload_n 2, 1) := by decide +kernel
theorem dX0_sendOne_23 : decode cX0_sendOne 23 = .ok (.invokevirtual 35, 3) := by decide +kernel
theorem dX0_sendOne_26 : decode cX0_sendOne 26 = .ok (.istore_n 3, 1) := by decide +kernel
theorem dX0_sendOne_27 : decode cX0_sendOne 27 = .ok (.aload_n 0, 1) := by decide +kernel
theorem dX0_sendOne_28 : decode cX0_sendOne 28 = .ok (.getfield 22, 3) := by decide +kernel
theorem dX0_sendOne_31 : decode cX0_sendOne 31 = .ok (.invokevirtual 39, 3) := by decide +kernel
theorem dX0_sendOne_34 : decode cX0_sendOne 34 = .ok (.getfield 45, 3) := by decide +kernel
theorem dX0_sendOne_37 : decode cX0_sendOne 37 = .ok (.iload_n 1, 1) := by decide +kernel
theorem dX0_sendOne_38 : decode cX0_sendOne 38 = .ok (.iload_n 3, 1) := by decide +kernel
theorem dX0_sendOne_39 : decode cX0_sendOne 39 = .ok (.iastore, 1) := by decide +kernel
theorem dX0_sendOne_40 : decode cX0_sendOne 40 = .ok (.aload_n 0, 1) := by decide +kernel
theorem dX0_sendOne_41 : decode cX0_sendOne 41 = .ok (.iload_n 3, 1) := by decide +kernel
theorem dX0_sendOne_42 : decode cX0_sendOne 42 = .ok (.aload_n 0, 1) := by decide +kernel
theorem dX0_sendOne_43 : decode cX0_sendOne 43 = .ok (.getfield 22, 3) := by decide +kernel
theorem dX0_sendOne_46 : decode cX0_sendOne 46 = .ok (.iconst 1, 1) := by decide +kernel
theorem dX0_sendOne_47 : decode cX0_sendOne 47 = .ok (.invokevirtual 49, 3) := by decide +kernel
theorem dX0_sendOne_50 : decode cX0_sendOne 50 = .ok (.invokevirtual 52, 3) := by decide +kernel
theorem dX0_sendOne_53 : decode cX0_sendOne 53 = .ok (.iinc 2 1, 3) := by decide +kernel
theorem dX0_sendOne_56 : decode cX0_sendOne 56 = .ok (.goto (-49), 3) := by decide +kernel
theorem dX0_sendOne_59 : decode cX0_sendOne 59 = .ok (.return_, 1) := by decide +kernel
def L_X0_sendOne_7 (c_t_now_houses : Int32) (c_t_now_comers : Int32) (c_t_now_evening : Int32) (r_t_now_comes : (Nat → Int32)) (r_t_now_goes : (Nat → Int32)) (r_t_now_kindOf : (Nat → Int32)) (r_t_now_likings : (Nat → Int32)) (r_t_now_lists : (Nat → Int32)) (x1 : Int32) : Nat → Int32 → Int32 → Int32 → Int32 → Int32 → Int32 → Int32 → Int32 → Int32 → (Nat → Int32) → (Nat → Int32) → (Nat → Int32) → (Nat → Int32) → (Nat → Int32) → Int32 → Int32 → (Nat → Int32) → (Nat → Int32) → Option (Int32 × Int32 × Int32 × Int32 × Int32 × Int32 × Int32 × Int32 × (Nat → Int32) × (Nat → Int32) × (Nat → Int32) × (Nat → Int32) × (Nat → Int32) × Int32 × Int32 × (Nat → Int32) × (Nat → Int32))
  | 0, _, _, _, _, _, _, _, _, _, _, _, _, _, _, _, _, _, _ => none
  | n + 1, y2, y3, y4, y5, y6, y7, y8, y9, y10, y11, y12, y13, y14, y15, y16, y17, y18, y19 =>
    if c_t_now_houses < y2 then
      (some ((y3, y4, y5, y6, y7, y8, y9, y10, y11, y12, y13, y14, y15, y16, y17, y18, y19)))
    else
      ((f_X1_destination c_t_now_houses y2).bind (fun (v20 : Int32) =>
        (f_X10_restart y5 y6 y7 y8 y9 y10 y11 y12 y13 y14 y15 c_t_now_houses c_t_now_comers c_t_now_evening r_t_now_comes r_t_now_goes r_t_now_kindOf r_t_now_likings r_t_now_lists).bind (fun (v21 : Int32 × Int32 × Int32 × Int32 × Int32 × Int32 × (Nat → Int32) × (Nat → Int32) × (Nat → Int32) × (Nat → Int32) × (Nat → Int32)) =>
          if inb x1 6 then
            ((f_X10_dinnersIn v21.1 v21.2.1 v21.2.2.1 v21.2.2.2.1 v21.2.2.2.2.1 v21.2.2.2.2.2.1 v21.2.2.2.2.2.2.1 (upd v21.2.2.2.2.2.2.2.1 (ix x1) v20) v21.2.2.2.2.2.2.2.2.1 v21.2.2.2.2.2.2.2.2.2.1 v21.2.2.2.2.2.2.2.2.2.2 y16 y17 y18 y19 1).bind (fun (v22 : Int32 × Int32 × Int32 × Int32 × Int32 × (Nat → Int32) × Int32 × Int32 × (Nat → Int32) × (Nat → Int32)) =>
              (f_X0_weigh y3 y4 v20 v22.1).bind (fun (v23 : Int32 × Int32) =>
                L_X0_sendOne_7 c_t_now_houses c_t_now_comers c_t_now_evening r_t_now_comes r_t_now_goes r_t_now_kindOf r_t_now_likings r_t_now_lists x1 n (y2 + 1) v23.1 v23.2 v22.2.1 v22.2.2.1 v22.2.2.2.1 v21.2.2.2.1 v21.2.2.2.2.1 v22.2.2.2.2.1 v21.2.2.2.2.2.2.1 (upd v21.2.2.2.2.2.2.2.1 (ix x1) v20) v21.2.2.2.2.2.2.2.2.1 v22.2.2.2.2.2.1 v21.2.2.2.2.2.2.2.2.2.2 v22.2.2.2.2.2.2.1 v22.2.2.2.2.2.2.2.1 v22.2.2.2.2.2.2.2.2.1 v22.2.2.2.2.2.2.2.2.2)))
          else none)))
def f_X0_sendOne (c_t_plan : Int32) (c_t_dinners : Int32) (c_t_now_houses : Int32) (c_t_now_comers : Int32) (c_t_now_evening : Int32) (r_t_now_comes : (Nat → Int32)) (r_t_now_goes : (Nat → Int32)) (r_t_now_kindOf : (Nat → Int32)) (r_t_now_likings : (Nat → Int32)) (r_t_now_lists : (Nat → Int32)) (c_t_trial_evenings : Int32) (c_t_trial_waited : Int32) (c_t_trial_firstFast : Int32) (c_t_trial_county_houses : Int32) (c_t_trial_county_comers : Int32) (c_t_trial_county_evening : Int32) (r_t_trial_county_comes : (Nat → Int32)) (r_t_trial_county_goes : (Nat → Int32)) (r_t_trial_county_kindOf : (Nat → Int32)) (r_t_trial_county_likings : (Nat → Int32)) (r_t_trial_county_lists : (Nat → Int32)) (c_t_trial_evening_begun : Int32) (c_t_trial_evening_waited : Int32) (r_t_trial_evening_hours : (Nat → Int32)) (r_t_trial_evening_openers : (Nat → Int32)) (x1 : Int32) : Option (Int32 × Int32 × Int32 × Int32 × Int32 × Int32 × Int32 × Int32 × (Nat → Int32) × (Nat → Int32) × (Nat → Int32) × (Nat → Int32) × (Nat → Int32) × Int32 × Int32 × (Nat → Int32) × (Nat → Int32)) :=
  (f_X0_beginAt c_t_plan c_t_dinners ((-1))).bind (fun (v1 : Int32 × Int32) =>
    (L_X0_sendOne_7 c_t_now_houses c_t_now_comers c_t_now_evening r_t_now_comes r_t_now_goes r_t_now_kindOf r_t_now_likings r_t_now_lists x1 400 0 v1.1 v1.2 c_t_trial_evenings c_t_trial_waited c_t_trial_firstFast c_t_trial_county_houses c_t_trial_county_comers c_t_trial_county_evening r_t_trial_county_comes r_t_trial_county_goes r_t_trial_county_kindOf r_t_trial_county_likings r_t_trial_county_lists c_t_trial_evening_begun c_t_trial_evening_waited r_t_trial_evening_hours r_t_trial_evening_openers).bind (fun (v25 : Int32 × Int32 × Int32 × Int32 × Int32 × Int32 × Int32 × Int32 × (Nat → Int32) × (Nat → Int32) × (Nat → Int32) × (Nat → Int32) × (Nat → Int32) × Int32 × Int32 × (Nat → Int32) × (Nat → Int32)) =>
      some ((v25.1, v25.2.1, v25.2.2.1, v25.2.2.2.1, v25.2.2.2.2.1, v25.2.2.2.2.2.1, v25.2.2.2.2.2.2.1, v25.2.2.2.2.2.2.2.1, v25.2.2.2.2.2.2.2.2.1, v25.2.2.2.2.2.2.2.2.2.1, v25.2.2.2.2.2.2.2.2.2.2.1, v25.2.2.2.2.2.2.2.2.2.2.2.1, v25.2.2.2.2.2.2.2.2.2.2.2.2.1, v25.2.2.2.2.2.2.2.2.2.2.2.2.2.1, v25.2.2.2.2.2.2.2.2.2.2.2.2.2.2.1, v25.2.2.2.2.2.2.2.2.2.2.2.2.2.2.2.1, v25.2.2.2.2.2.2.2.2.2.2.2.2.2.2.2.2))))
abbrev rm_X0_sendOne : Room := { frames := 5, cells := 0, slots := 0, locals := 122 }
set_option maxHeartbeats 4000000 in
set_option maxRecDepth 100000 in
theorem lp_X0_sendOne_7 {E : Ev} {X : Cx} {a_t a_t_now a_t_now_comes a_t_now_goes a_t_now_kindOf a_t_now_likings a_t_now_lists a_t_trial a_t_trial_county a_t_trial_county_comes a_t_trial_county_goes a_t_trial_county_kindOf a_t_trial_county_likings a_t_trial_county_lists a_t_trial_evening a_t_trial_evening_hours a_t_trial_evening_openers : Nat} (c_t_now_houses : Int32) (c_t_now_comers : Int32) (c_t_now_evening : Int32) (r_t_now_comes : (Nat → Int32)) (r_t_now_goes : (Nat → Int32)) (r_t_now_kindOf : (Nat → Int32)) (r_t_now_likings : (Nat → Int32)) (r_t_now_lists : (Nat → Int32)) (x1 : Int32) (C : CX E X cX0_sendOne RX0 4 rm_X0_sendOne) : ∀ (n : Nat) (y2 : Int32) (y3 : Int32) (y4 : Int32) (y5 : Int32) (y6 : Int32) (y7 : Int32) (y8 : Int32) (y9 : Int32) (y10 : Int32) (y11 : (Nat → Int32)) (y12 : (Nat → Int32)) (y13 : (Nat → Int32)) (y14 : (Nat → Int32)) (y15 : (Nat → Int32)) (y16 : Int32) (y17 : Int32) (y18 : (Nat → Int32)) (y19 : (Nat → Int32)) (v : Int32 × Int32 × Int32 × Int32 × Int32 × Int32 × Int32 × Int32 × (Nat → Int32) × (Nat → Int32) × (Nat → Int32) × (Nat → Int32) × (Nat → Int32) × Int32 × Int32 × (Nat → Int32) × (Nat → Int32)), L_X0_sendOne_7 c_t_now_houses c_t_now_comers c_t_now_evening r_t_now_comes r_t_now_goes r_t_now_kindOf r_t_now_likings r_t_now_lists x1 n y2 y3 y4 y5 y6 y7 y8 y9 y10 y11 y12 y13 y14 y15 y16 y17 y18 y19 = some v → G E X 0 0 [oX0 a_t a_t_now a_t_trial v.1 v.2.1, oX1 a_t_now c_t_now_houses c_t_now_comers c_t_now_evening a_t_now_lists a_t_now_kindOf a_t_now_goes a_t_now_comes a_t_now_likings, aI E a_t_now_comes 6 r_t_now_comes, aI E a_t_now_goes 6 r_t_now_goes, aI E a_t_now_kindOf 6 r_t_now_kindOf, aI E a_t_now_likings 24 r_t_now_likings, aI E a_t_now_lists 4 r_t_now_lists, oX10 a_t_trial a_t_now a_t_trial_county a_t_trial_evening v.2.2.1 v.2.2.2.1 v.2.2.2.2.1, oX1 a_t_trial_county v.2.2.2.2.2.1 v.2.2.2.2.2.2.1 v.2.2.2.2.2.2.2.1 a_t_trial_county_lists a_t_trial_county_kindOf a_t_trial_county_goes a_t_trial_county_comes a_t_trial_county_likings, aI E a_t_trial_county_comes 6 v.2.2.2.2.2.2.2.2.1, aI E a_t_trial_county_goes 6 v.2.2.2.2.2.2.2.2.2.1, aI E a_t_trial_county_kindOf 6 v.2.2.2.2.2.2.2.2.2.2.1, aI E a_t_trial_county_likings 24 v.2.2.2.2.2.2.2.2.2.2.2.1, aI E a_t_trial_county_lists 4 v.2.2.2.2.2.2.2.2.2.2.2.2.1, oX2 a_t_trial_evening a_t_trial_evening_hours a_t_trial_evening_openers v.2.2.2.2.2.2.2.2.2.2.2.2.2.1 v.2.2.2.2.2.2.2.2.2.2.2.2.2.2.1, aI E a_t_trial_evening_hours 4 v.2.2.2.2.2.2.2.2.2.2.2.2.2.2.2.1, aI E a_t_trial_evening_openers 4 v.2.2.2.2.2.2.2.2.2.2.2.2.2.2.2.2] [] 59 [] → G E X 0 0 [oX0 a_t a_t_now a_t_trial y3 y4, oX1 a_t_now c_t_now_houses c_t_now_comers c_t_now_evening a_t_now_lists a_t_now_kindOf a_t_now_goes a_t_now_comes a_t_now_likings, aI E a_t_now_comes 6 r_t_now_comes, aI E a_t_now_goes 6 r_t_now_goes, aI E a_t_now_kindOf 6 r_t_now_kindOf, aI E a_t_now_likings 24 r_t_now_likings, aI E a_t_now_lists 4 r_t_now_lists, oX10 a_t_trial a_t_now a_t_trial_county a_t_trial_evening y5 y6 y7, oX1 a_t_trial_county y8 y9 y10 a_t_trial_county_lists a_t_trial_county_kindOf a_t_trial_county_goes a_t_trial_county_comes a_t_trial_county_likings, aI E a_t_trial_county_comes 6 y11, aI E a_t_trial_county_goes 6 y12, aI E a_t_trial_county_kindOf 6 y13, aI E a_t_trial_county_likings 24 y14, aI E a_t_trial_county_lists 4 y15, oX2 a_t_trial_evening a_t_trial_evening_hours a_t_trial_evening_openers y16 y17, aI E a_t_trial_evening_hours 4 y18, aI E a_t_trial_evening_openers 4 y19] [(0, .ref a_t), (1, .int x1), (2, .int y2)] 7 [] := by
  intro n
  induction n with
  | zero => intro _ _ _ _ _ _ _ _ _ _ _ _ _ _ _ _ _ _ _ h; cases h
  | succ n ih =>
    intro y2 y3 y4 y5 y6 y7 y8 y9 y10 y11 y12 y13 y14 y15 y16 y17 y18 y19 v h kk
    rw [L_X0_sendOne_7] at h
    refine g_iload_n (pc := 7) C dX0_sendOne_7 2 rfl ?_
    refine g_aload_n (pc := 8) C dX0_sendOne_8 0 rfl ?_
    refine g_get (pc := 9) 0 C fl_X0_18 rfl rfl dX0_sendOne_9 ?_
    refine g_get (pc := 12) 1 C fl_X0_30 rfl rfl dX0_sendOne_12 ?_
    refine b_icmp_gt (pc := 15) 59 C dX0_sendOne_15 (by decide) h (fun _ h => ?_) (fun _ h => ?_)
    · obtain rfl := Option.some.inj h
      refine g_lv [] (lv' := []) rfl ?_
      exact kk
    · refine g_aload_n (pc := 18) C dX0_sendOne_18 0 rfl ?_
      refine g_get (pc := 19) 0 C fl_X0_18 rfl rfl dX0_sendOne_19 ?_
      refine g_iload_n (pc := 22) C dX0_sendOne_22 2 rfl ?_
      obtain ⟨v20, hv20, h⟩ := o_bnd h
      refine g_callV (pc := 23) (ws' := [oX0 a_t a_t_now a_t_trial y3 y4, oX1 a_t_now c_t_now_houses c_t_now_comers c_t_now_evening a_t_now_lists a_t_now_kindOf a_t_now_goes a_t_now_comes a_t_now_likings, aI E a_t_now_comes 6 r_t_now_comes, aI E a_t_now_goes 6 r_t_now_goes, aI E a_t_now_kindOf 6 r_t_now_kindOf, aI E a_t_now_likings 24 r_t_now_likings, aI E a_t_now_lists 4 r_t_now_lists, oX10 a_t_trial a_t_now a_t_trial_county a_t_trial_evening y5 y6 y7, oX1 a_t_trial_county y8 y9 y10 a_t_trial_county_lists a_t_trial_county_kindOf a_t_trial_county_goes a_t_trial_county_comes a_t_trial_county_likings, aI E a_t_trial_county_comes 6 y11, aI E a_t_trial_county_goes 6 y12, aI E a_t_trial_county_kindOf 6 y13, aI E a_t_trial_county_likings 24 y14, aI E a_t_trial_county_lists 4 y15, oX2 a_t_trial_evening a_t_trial_evening_hours a_t_trial_evening_openers y16 y17, aI E a_t_trial_evening_hours 4 y18, aI E a_t_trial_evening_openers 4 y19]) (st1 := [.int v20]) C mv_X0_35 (k_X1_destination E a_t_now a_t_now_lists a_t_now_kindOf a_t_now_goes a_t_now_comes a_t_now_likings c_t_now_houses c_t_now_comers c_t_now_evening y2 v20 hv20) [1] rfl rfl rfl rfl 0 rfl rfl ⟨by decide, by decide⟩ ⟨rfl, rfl⟩ ⟨Nat.zero_le _, Nat.zero_le _⟩ rfl rfl rfl (Nat.le_of_ble_eq_true rfl) dX0_sendOne_23 ?_
      refine g_istore_n (pc := 26) (lv' := [(3, .int v20), (0, .ref a_t), (1, .int x1), (2, .int y2)]) C dX0_sendOne_26 (by decide) rfl ?_
      refine g_aload_n (pc := 27) C dX0_sendOne_27 1 rfl ?_
      refine g_get (pc := 28) 0 C fl_X0_22 rfl rfl dX0_sendOne_28 ?_
      obtain ⟨v21, hv21, h⟩ := o_bnd h
      refine g_callV (pc := 31) (ws' := [oX0 a_t a_t_now a_t_trial y3 y4, oX1 a_t_now c_t_now_houses c_t_now_comers c_t_now_evening a_t_now_lists a_t_now_kindOf a_t_now_goes a_t_now_comes a_t_now_likings, aI E a_t_now_comes 6 r_t_now_comes, aI E a_t_now_goes 6 r_t_now_goes, aI E a_t_now_kindOf 6 r_t_now_kindOf, aI E a_t_now_likings 24 r_t_now_likings, aI E a_t_now_lists 4 r_t_now_lists, oX10 a_t_trial a_t_now a_t_trial_county a_t_trial_evening v21.1 v21.2.1 v21.2.2.1, oX1 a_t_trial_county v21.2.2.2.1 v21.2.2.2.2.1 v21.2.2.2.2.2.1 a_t_trial_county_lists a_t_trial_county_kindOf a_t_trial_county_goes a_t_trial_county_comes a_t_trial_county_likings, aI E a_t_trial_county_comes 6 v21.2.2.2.2.2.2.1, aI E a_t_trial_county_goes 6 v21.2.2.2.2.2.2.2.1, aI E a_t_trial_county_kindOf 6 v21.2.2.2.2.2.2.2.2.1, aI E a_t_trial_county_likings 24 v21.2.2.2.2.2.2.2.2.2.1, aI E a_t_trial_county_lists 4 v21.2.2.2.2.2.2.2.2.2.2, oX2 a_t_trial_evening a_t_trial_evening_hours a_t_trial_evening_openers y16 y17, aI E a_t_trial_evening_hours 4 y18, aI E a_t_trial_evening_openers 4 y19]) (st1 := [.ref a_t_trial_county]) C mv_X0_39 (k_X10_restart E a_t_trial a_t_trial_county a_t_trial_county_comes a_t_trial_county_goes a_t_trial_county_kindOf a_t_trial_county_likings a_t_trial_county_lists a_t_now a_t_now_comes a_t_now_goes a_t_now_kindOf a_t_now_likings a_t_now_lists a_t_trial_evening y5 y6 y7 y8 y9 y10 y11 y12 y13 y14 y15 c_t_now_houses c_t_now_comers c_t_now_evening r_t_now_comes r_t_now_goes r_t_now_kindOf r_t_now_likings r_t_now_lists v21 hv21) [7, 8, 9, 10, 11, 12, 13, 1, 2, 3, 4, 5, 6] rfl rfl rfl rfl 0 rfl rfl ⟨by decide, by decide⟩ ⟨rfl, rfl⟩ ⟨Nat.zero_le _, Nat.zero_le _⟩ rfl rfl rfl (Nat.le_of_ble_eq_true rfl) dX0_sendOne_31 ?_
      refine g_get (pc := 34) 8 C fl_X0_45 rfl rfl dX0_sendOne_34 ?_
      refine g_iload_n (pc := 37) C dX0_sendOne_37 2 rfl ?_
      refine g_iload_n (pc := 38) C dX0_sendOne_38 0 rfl ?_
      refine b_iast (pc := 39) (ws' := [oX0 a_t a_t_now a_t_trial y3 y4, oX1 a_t_now c_t_now_houses c_t_now_comers c_t_now_evening a_t_now_lists a_t_now_kindOf a_t_now_goes a_t_now_comes a_t_now_likings, aI E a_t_now_comes 6 r_t_now_comes, aI E a_t_now_goes 6 r_t_now_goes, aI E a_t_now_kindOf 6 r_t_now_kindOf, aI E a_t_now_likings 24 r_t_now_likings, aI E a_t_now_lists 4 r_t_now_lists, oX10 a_t_trial a_t_now a_t_trial_county a_t_trial_evening v21.1 v21.2.1 v21.2.2.1, oX1 a_t_trial_county v21.2.2.2.1 v21.2.2.2.2.1 v21.2.2.2.2.2.1 a_t_trial_county_lists a_t_trial_county_kindOf a_t_trial_county_goes a_t_trial_county_comes a_t_trial_county_likings, aI E a_t_trial_county_comes 6 v21.2.2.2.2.2.2.1, aI E a_t_trial_county_goes 6 (upd v21.2.2.2.2.2.2.2.1 (ix x1) v20), aI E a_t_trial_county_kindOf 6 v21.2.2.2.2.2.2.2.2.1, aI E a_t_trial_county_likings 24 v21.2.2.2.2.2.2.2.2.2.1, aI E a_t_trial_county_lists 4 v21.2.2.2.2.2.2.2.2.2.2, oX2 a_t_trial_evening a_t_trial_evening_hours a_t_trial_evening_openers y16 y17, aI E a_t_trial_evening_hours 4 y18, aI E a_t_trial_evening_openers 4 y19]) 10 C rfl rfl dX0_sendOne_39 h (fun _ h => ?_)
      refine g_aload_n (pc := 40) C dX0_sendOne_40 1 rfl ?_
      refine g_iload_n (pc := 41) C dX0_sendOne_41 0 rfl ?_
      refine g_aload_n (pc := 42) C dX0_sendOne_42 1 rfl ?_
      refine g_get (pc := 43) 0 C fl_X0_22 rfl rfl dX0_sendOne_43 ?_
      refine g_iconst (pc := 46) (v := 1) C dX0_sendOne_46 (by decide) ?_
      obtain ⟨v22, hv22, h⟩ := o_bnd h
      refine g_callV (pc := 47) (ws' := [oX0 a_t a_t_now a_t_trial y3 y4, oX1 a_t_now c_t_now_houses c_t_now_comers c_t_now_evening a_t_now_lists a_t_now_kindOf a_t_now_goes a_t_now_comes a_t_now_likings, aI E a_t_now_comes 6 r_t_now_comes, aI E a_t_now_goes 6 r_t_now_goes, aI E a_t_now_kindOf 6 r_t_now_kindOf, aI E a_t_now_likings 24 r_t_now_likings, aI E a_t_now_lists 4 r_t_now_lists, oX10 a_t_trial a_t_now a_t_trial_county a_t_trial_evening v22.2.1 v22.2.2.1 v22.2.2.2.1, oX1 a_t_trial_county v21.2.2.2.1 v21.2.2.2.2.1 v22.2.2.2.2.1 a_t_trial_county_lists a_t_trial_county_kindOf a_t_trial_county_goes a_t_trial_county_comes a_t_trial_county_likings, aI E a_t_trial_county_comes 6 v21.2.2.2.2.2.2.1, aI E a_t_trial_county_goes 6 (upd v21.2.2.2.2.2.2.2.1 (ix x1) v20), aI E a_t_trial_county_kindOf 6 v21.2.2.2.2.2.2.2.2.1, aI E a_t_trial_county_likings 24 v22.2.2.2.2.2.1, aI E a_t_trial_county_lists 4 v21.2.2.2.2.2.2.2.2.2.2, oX2 a_t_trial_evening a_t_trial_evening_hours a_t_trial_evening_openers v22.2.2.2.2.2.2.1 v22.2.2.2.2.2.2.2.1, aI E a_t_trial_evening_hours 4 v22.2.2.2.2.2.2.2.2.1, aI E a_t_trial_evening_openers 4 v22.2.2.2.2.2.2.2.2.2]) (st1 := [.int v22.1, .int v20, .ref a_t]) C mv_X0_49 (k_X10_dinnersIn E a_t_trial a_t_trial_county a_t_trial_county_comes a_t_trial_county_goes a_t_trial_county_kindOf a_t_trial_county_likings a_t_trial_county_lists a_t_trial_evening a_t_trial_evening_hours a_t_trial_evening_openers a_t_now v21.1 v21.2.1 v21.2.2.1 v21.2.2.2.1 v21.2.2.2.2.1 v21.2.2.2.2.2.1 v21.2.2.2.2.2.2.1 (upd v21.2.2.2.2.2.2.2.1 (ix x1) v20) v21.2.2.2.2.2.2.2.2.1 v21.2.2.2.2.2.2.2.2.2.1 v21.2.2.2.2.2.2.2.2.2.2 y16 y17 y18 y19 1 v22 hv22) [7, 8, 9, 10, 11, 12, 13, 14, 15, 16] rfl rfl rfl rfl 0 rfl rfl ⟨by decide, by decide⟩ ⟨rfl, rfl⟩ ⟨Nat.zero_le _, Nat.zero_le _⟩ rfl rfl rfl (Nat.le_of_ble_eq_true rfl) dX0_sendOne_47 ?_
      obtain ⟨v23, hv23, h⟩ := o_bnd h
      refine g_callV (pc := 50) (ws' := [oX0 a_t a_t_now a_t_trial v23.1 v23.2, oX1 a_t_now c_t_now_houses c_t_now_comers c_t_now_evening a_t_now_lists a_t_now_kindOf a_t_now_goes a_t_now_comes a_t_now_likings, aI E a_t_now_comes 6 r_t_now_comes, aI E a_t_now_goes 6 r_t_now_goes, aI E a_t_now_kindOf 6 r_t_now_kindOf, aI E a_t_now_likings 24 r_t_now_likings, aI E a_t_now_lists 4 r_t_now_lists, oX10 a_t_trial a_t_now a_t_trial_county a_t_trial_evening v22.2.1 v22.2.2.1 v22.2.2.2.1, oX1 a_t_trial_county v21.2.2.2.1 v21.2.2.2.2.1 v22.2.2.2.2.1 a_t_trial_county_lists a_t_trial_county_kindOf a_t_trial_county_goes a_t_trial_county_comes a_t_trial_county_likings, aI E a_t_trial_county_comes 6 v21.2.2.2.2.2.2.1, aI E a_t_trial_county_goes 6 (upd v21.2.2.2.2.2.2.2.1 (ix x1) v20), aI E a_t_trial_county_kindOf 6 v21.2.2.2.2.2.2.2.2.1, aI E a_t_trial_county_likings 24 v22.2.2.2.2.2.1, aI E a_t_trial_county_lists 4 v21.2.2.2.2.2.2.2.2.2.2, oX2 a_t_trial_evening a_t_trial_evening_hours a_t_trial_evening_openers v22.2.2.2.2.2.2.1 v22.2.2.2.2.2.2.2.1, aI E a_t_trial_evening_hours 4 v22.2.2.2.2.2.2.2.2.1, aI E a_t_trial_evening_openers 4 v22.2.2.2.2.2.2.2.2.2]) (st1 := []) C mv_X0_52 (k_X0_weigh E a_t a_t_now a_t_trial y3 y4 v20 v22.1 v23 hv23) [0] rfl rfl rfl rfl 0 rfl rfl ⟨by decide, by decide⟩ ⟨rfl, rfl⟩ ⟨Nat.zero_le _, Nat.zero_le _⟩ rfl rfl rfl (Nat.le_of_ble_eq_true rfl) dX0_sendOne_50 ?_
      refine g_iinc (pc := 53) (v := y2 + 1) (lv' := [(2, .int (y2 + 1)), (3, .int v20), (0, .ref a_t), (1, .int x1)]) C dX0_sendOne_53 3 rfl rfl (by decide) rfl ?_
      refine g_goto (pc := 56) 7 C dX0_sendOne_56 (by decide) ?_
      refine g_lv [2, 3, 0] (lv' := [(0, .ref a_t), (1, .int x1), (2, .int (y2 + 1))]) rfl ?_
      exact ih _ _ _ _ _ _ _ _ _ _ _ _ _ _ _ _ _ _ _ h kk
set_option maxHeartbeats 4000000 in
set_option maxRecDepth 100000 in
theorem k_X0_sendOne (E : Ev) (a_t a_t_now a_t_now_comes a_t_now_goes a_t_now_kindOf a_t_now_likings a_t_now_lists a_t_trial a_t_trial_county a_t_trial_county_comes a_t_trial_county_goes a_t_trial_county_kindOf a_t_trial_county_likings a_t_trial_county_lists a_t_trial_evening a_t_trial_evening_hours a_t_trial_evening_openers : Nat) (c_t_plan : Int32) (c_t_dinners : Int32) (c_t_now_houses : Int32) (c_t_now_comers : Int32) (c_t_now_evening : Int32) (r_t_now_comes : (Nat → Int32)) (r_t_now_goes : (Nat → Int32)) (r_t_now_kindOf : (Nat → Int32)) (r_t_now_likings : (Nat → Int32)) (r_t_now_lists : (Nat → Int32)) (c_t_trial_evenings : Int32) (c_t_trial_waited : Int32) (c_t_trial_firstFast : Int32) (c_t_trial_county_houses : Int32) (c_t_trial_county_comers : Int32) (c_t_trial_county_evening : Int32) (r_t_trial_county_comes : (Nat → Int32)) (r_t_trial_county_goes : (Nat → Int32)) (r_t_trial_county_kindOf : (Nat → Int32)) (r_t_trial_county_likings : (Nat → Int32)) (r_t_trial_county_lists : (Nat → Int32)) (c_t_trial_evening_begun : Int32) (c_t_trial_evening_waited : Int32) (r_t_trial_evening_hours : (Nat → Int32)) (r_t_trial_evening_openers : (Nat → Int32)) (x1 : Int32) (v : Int32 × Int32 × Int32 × Int32 × Int32 × Int32 × Int32 × Int32 × (Nat → Int32) × (Nat → Int32) × (Nat → Int32) × (Nat → Int32) × (Nat → Int32) × Int32 × Int32 × (Nat → Int32) × (Nat → Int32)) (h : f_X0_sendOne c_t_plan c_t_dinners c_t_now_houses c_t_now_comers c_t_now_evening r_t_now_comes r_t_now_goes r_t_now_kindOf r_t_now_likings r_t_now_lists c_t_trial_evenings c_t_trial_waited c_t_trial_firstFast c_t_trial_county_houses c_t_trial_county_comers c_t_trial_county_evening r_t_trial_county_comes r_t_trial_county_goes r_t_trial_county_kindOf r_t_trial_county_likings r_t_trial_county_lists c_t_trial_evening_begun c_t_trial_evening_waited r_t_trial_evening_hours r_t_trial_evening_openers x1 = some v) : Mt E yX0_sendOne cX0_sendOne 4 none rm_X0_sendOne [.ref a_t, .int x1] [oX0 a_t a_t_now a_t_trial c_t_plan c_t_dinners, oX1 a_t_now c_t_now_houses c_t_now_comers c_t_now_evening a_t_now_lists a_t_now_kindOf a_t_now_goes a_t_now_comes a_t_now_likings, aI E a_t_now_comes 6 r_t_now_comes, aI E a_t_now_goes 6 r_t_now_goes, aI E a_t_now_kindOf 6 r_t_now_kindOf, aI E a_t_now_likings 24 r_t_now_likings, aI E a_t_now_lists 4 r_t_now_lists, oX10 a_t_trial a_t_now a_t_trial_county a_t_trial_evening c_t_trial_evenings c_t_trial_waited c_t_trial_firstFast, oX1 a_t_trial_county c_t_trial_county_houses c_t_trial_county_comers c_t_trial_county_evening a_t_trial_county_lists a_t_trial_county_kindOf a_t_trial_county_goes a_t_trial_county_comes a_t_trial_county_likings, aI E a_t_trial_county_comes 6 r_t_trial_county_comes, aI E a_t_trial_county_goes 6 r_t_trial_county_goes, aI E a_t_trial_county_kindOf 6 r_t_trial_county_kindOf, aI E a_t_trial_county_likings 24 r_t_trial_county_likings, aI E a_t_trial_county_lists 4 r_t_trial_county_lists, oX2 a_t_trial_evening a_t_trial_evening_hours a_t_trial_evening_openers c_t_trial_evening_begun c_t_trial_evening_waited, aI E a_t_trial_evening_hours 4 r_t_trial_evening_hours, aI E a_t_trial_evening_openers 4 r_t_trial_evening_openers] [oX0 a_t a_t_now a_t_trial v.1 v.2.1, oX1 a_t_now c_t_now_houses c_t_now_comers c_t_now_evening a_t_now_lists a_t_now_kindOf a_t_now_goes a_t_now_comes a_t_now_likings, aI E a_t_now_comes 6 r_t_now_comes, aI E a_t_now_goes 6 r_t_now_goes, aI E a_t_now_kindOf 6 r_t_now_kindOf, aI E a_t_now_likings 24 r_t_now_likings, aI E a_t_now_lists 4 r_t_now_lists, oX10 a_t_trial a_t_now a_t_trial_county a_t_trial_evening v.2.2.1 v.2.2.2.1 v.2.2.2.2.1, oX1 a_t_trial_county v.2.2.2.2.2.1 v.2.2.2.2.2.2.1 v.2.2.2.2.2.2.2.1 a_t_trial_county_lists a_t_trial_county_kindOf a_t_trial_county_goes a_t_trial_county_comes a_t_trial_county_likings, aI E a_t_trial_county_comes 6 v.2.2.2.2.2.2.2.2.1, aI E a_t_trial_county_goes 6 v.2.2.2.2.2.2.2.2.2.1, aI E a_t_trial_county_kindOf 6 v.2.2.2.2.2.2.2.2.2.2.1, aI E a_t_trial_county_likings 24 v.2.2.2.2.2.2.2.2.2.2.2.1, aI E a_t_trial_county_lists 4 v.2.2.2.2.2.2.2.2.2.2.2.2.1, oX2 a_t_trial_evening a_t_trial_evening_hours a_t_trial_evening_openers v.2.2.2.2.2.2.2.2.2.2.2.2.2.1 v.2.2.2.2.2.2.2.2.2.2.2.2.2.2.1, aI E a_t_trial_evening_hours 4 v.2.2.2.2.2.2.2.2.2.2.2.2.2.2.2.1, aI E a_t_trial_evening_openers 4 v.2.2.2.2.2.2.2.2.2.2.2.2.2.2.2.2] none := by
  refine Mt.intro (lv := [(0, .ref a_t), (1, .int x1)]) (by decide +kernel) (Nat.le_of_ble_eq_true rfl) rfl (fun X C K => ?_)
  have C : CX E X cX0_sendOne RX0 4 rm_X0_sendOne := C
  rw [f_X0_sendOne] at h
  refine g_aload_n (pc := 0) C dX0_sendOne_0 0 rfl ?_
  refine g_iconst (pc := 1) (v := (-1)) C dX0_sendOne_1 (by decide) ?_
  obtain ⟨v1, hv1, h⟩ := o_bnd h
  refine g_callV (pc := 2) (ws' := [oX0 a_t a_t_now a_t_trial v1.1 v1.2, oX1 a_t_now c_t_now_houses c_t_now_comers c_t_now_evening a_t_now_lists a_t_now_kindOf a_t_now_goes a_t_now_comes a_t_now_likings, aI E a_t_now_comes 6 r_t_now_comes, aI E a_t_now_goes 6 r_t_now_goes, aI E a_t_now_kindOf 6 r_t_now_kindOf, aI E a_t_now_likings 24 r_t_now_likings, aI E a_t_now_lists 4 r_t_now_lists, oX10 a_t_trial a_t_now a_t_trial_county a_t_trial_evening c_t_trial_evenings c_t_trial_waited c_t_trial_firstFast, oX1 a_t_trial_county c_t_trial_county_houses c_t_trial_county_comers c_t_trial_county_evening a_t_trial_county_lists a_t_trial_county_kindOf a_t_trial_county_goes a_t_trial_county_comes a_t_trial_county_likings, aI E a_t_trial_county_comes 6 r_t_trial_county_comes, aI E a_t_trial_county_goes 6 r_t_trial_county_goes, aI E a_t_trial_county_kindOf 6 r_t_trial_county_kindOf, aI E a_t_trial_county_likings 24 r_t_trial_county_likings, aI E a_t_trial_county_lists 4 r_t_trial_county_lists, oX2 a_t_trial_evening a_t_trial_evening_hours a_t_trial_evening_openers c_t_trial_evening_begun c_t_trial_evening_waited, aI E a_t_trial_evening_hours 4 r_t_trial_evening_hours, aI E a_t_trial_evening_openers 4 r_t_trial_evening_openers]) (st1 := []) C mv_X0_26 (k_X0_beginAt E a_t a_t_now a_t_trial c_t_plan c_t_dinners ((-1)) v1 hv1) [0] rfl rfl rfl rfl 0 rfl rfl ⟨by decide, by decide⟩ ⟨rfl, rfl⟩ ⟨Nat.zero_le _, Nat.zero_le _⟩ rfl rfl rfl (Nat.le_of_ble_eq_true rfl) dX0_sendOne_2 ?_
  refine g_iconst (pc := 5) (v := 0) C dX0_sendOne_5 (by decide) ?_
  refine g_istore_n (pc := 6) (lv' := [(2, .int 0), (0, .ref a_t), (1, .int x1)]) C dX0_sendOne_6 (by decide) rfl ?_
  obtain ⟨v25, hv25, h⟩ := o_bnd h
  refine g_lv [1, 2, 0] (lv' := [(0, .ref a_t), (1, .int x1), (2, .int 0)]) rfl ?_
  refine lp_X0_sendOne_7 c_t_now_houses c_t_now_comers c_t_now_evening r_t_now_comes r_t_now_goes r_t_now_kindOf r_t_now_likings r_t_now_lists x1 C 400 _ _ _ _ _ _ _ _ _ _ _ _ _ _ _ _ _ _ _ hv25 ?_
  obtain rfl := Option.some.inj h
  exact g_vret (pc := 59) C K dX0_sendOne_59
theorem dX0_sendTwo_0 : decode cX0_sendTwo 0 = .ok (.aload_n 0, 1) := by decide +kernel
theorem dX0_sendTwo_1 : decode cX0_sendTwo 1 = .ok (.iconst (-1), 1) := by decide +kernel
theorem dX0_sendTwo_2 : decode cX0_sendTwo 2 = .ok (.invokevirtual 26, 3) := by decide +kernel
theorem dX0_sendTwo_5 : decode cX0_sendTwo 5 = .ok (.iconst 0, 1) := by decide +kernel
theorem dX0_sendTwo_6 : decode cX0_sendTwo 6 = .ok (.istore_n 3, 1) := by decide +kernel
theorem dX0_sendTwo_7 : decode cX0_sendTwo 7 = .ok (.iload_n 3, 1) := by decide +kernel
theorem dX0_sendTwo_8 : decode cX0_sendTwo 8 = .ok (.aload_n 0, 1) := by decide +kernel
theorem dX0_sendTwo_9 : decode cX0_sendTwo 9 = .ok (.getfield 18, 3) := by decide +kernel
theorem dX0_sendTwo_12 : decode cX0_sendTwo 12 = .ok (.getfield 30, 3) := by decide +kernel
theorem dX0_sendTwo_15 : decode cX0_sendTwo 15 = .ok (.if_icmp .gt 100, 3) := by decide +kernel
theorem dX0_sendTwo_18 : decode cX0_sendTwo 18 = .ok (.iconst 0, 1) := by decide +kernel
theorem dX0_sendTwo_19 : decode cX0_sendTwo 19 = .ok (.istore 4, 2) := by decide +kernel
theorem dX0_sendTwo_21 : decode cX0_sendTwo 21 = .ok (.iload 4, 2) := by decide +kernel
theorem dX0_sendTwo_23 : decode cX0_sendTwo 23 = .ok (.aload_n 0, 1) := by decide +kernel
theorem dX0_sendTwo_24 : decode cX0_sendTwo 24 = .ok (.getfield 18, 3) := by decide +kernel
theorem dX0_sendTwo_27 : decode cX0_sendTwo 27 = .ok (.getfield 30, 3) := by decide +kernel
theorem dX0_sendTwo_30 : decode cX0_sendTwo 30 = .ok (.if_icmp .gt 79, 3) := by decide +kernel
theorem dX0_sendTwo_33 : decode cX0_sendTwo 33 = .ok (.aload_n 0, 1) := by decide +kernel
theorem dX0_sendTwo_34 : decode cX0_sendTwo 34 = .ok (.getfield 22, 3) := by decide +kernel
theorem dX0_sendTwo_37 : decode cX0_sendTwo 37 = .ok (.invokevirtual 39, 3) := by decide +kernel
theorem dX0_sendTwo_40 : decode cX0_sendTwo 40 = .ok (.astore 5, 2) := by decide +kernel
theorem dX0_sendTwo_42 : decode cX0_sendTwo 42 = .ok (.aload 5, 2) := by decide +kernel
theorem dX0_sendTwo_44 : decode cX0_sendTwo 44 = .ok (.getfield 45, 3) := by decide +kernel
theorem dX0_sendTwo_47 : decode cX0_sendTwo 47 = .ok (.iload_n 1, 1) := by decide +kernel
theorem dX0_sendTwo_48 : decode cX0_sendTwo 48 = .ok (.aload_n 0, 1) := by decide +kernel
theorem dX0_sendTwo_49 : decode cX0_sendTwo 49 = .ok (.getfield 18, 3) := by decide +kernel
theorem dX0_sendTwo_52 : decode cX0_sendTwo 52 = .ok (.iload_n 3, 1) := by decide +kernel
theorem dX0_sendTwo_53 : decode cX0_sendTwo 53 = .ok (.invokevirtual 35, 3) := by decide +kernel
theorem dX0_sendTwo_56 : decode cX0_sendTwo 56 = .ok (.iastore, 1) := by decide +kernel
theorem dX0_sendTwo_57 : decode cX0_sendTwo 57 = .ok (.aload 5, 2) := by decide +kernel
theorem dX0_sendTwo_59 : decode cX0_sendTwo 59 = .ok (.getfield 45, 3) := by decide +kernel
theorem dX0_sendTwo_62 : decode cX0_sendTwo 62 = .ok (.iload_n 2, 1) := by decide +kernel
theorem dX0_sendTwo_63 : decode cX0_sendTwo 63 = .ok (.aload_n 0, 1) := by decide +kernel
theorem dX0_sendTwo_64 : decode cX0_sendTwo 64 = .ok (.getfield 18, 3) := by decide +kernel
theorem dX0_sendTwo_67 : decode cX0_sendTwo 67 = .ok (.iload 4, 2) := by decide +kernel
theorem dX0_sendTwo_69 : decode cX0_sendTwo 69 = .ok (.invokevirtual 35, 3) := by decide +kernel
theorem dX0_sendTwo_72 : decode cX0_sendTwo 72 = .ok (.iastore, 1) := by decide +kernel
theorem dX0_sendTwo_73 : decode cX0_sendTwo 73 = .ok (.aload_n 0, 1) := by decide +kernel
theorem dX0_sendTwo_74 : decode cX0_sendTwo 74 = .ok (.bipush 10, 2) := by decide +kernel
theorem dX0_sendTwo_76 : decode cX0_sendTwo 76 = .ok (.aload 5, 2) := by decide +kernel
theorem dX0_sendTwo_78 : decode cX0_sendTwo 78 = .ok (.getfield 45, 3) := by decide +kernel
theorem dX0_sendTwo_81 : decode cX0_sendTwo 81 = .ok (.iload_n 1, 1) := by decide +kernel
theorem dX0_sendTwo_82 : decode cX0_sendTwo 82 = .ok (.iaload, 1) := by decide +kernel
theorem dX0_sendTwo_83 : decode cX0_sendTwo 83 = .ok (.imul, 1) := by decide +kernel
theorem dX0_sendTwo_84 : decode cX0_sendTwo 84 = .ok (.aload 5, 2) := by decide +kernel
theorem dX0_sendTwo_86 : decode cX0_sendTwo 86 = .ok (.getfield 45, 3) := by decide +kernel
theorem dX0_sendTwo_89 : decode cX0_sendTwo 89 = .ok (.iload_n 2, 1) := by decide +kernel
theorem dX0_sendTwo_90 : decode cX0_sendTwo 90 = .ok (.iaload, 1) := by decide +kernel
theorem dX0_sendTwo_91 : decode cX0_sendTwo 91 = .ok (.iadd, 1) := by decide +kernel
theorem dX0_sendTwo_92 : decode cX0_sendTwo 92 = .ok (.aload_n 0, 1) := by decide +kernel
theorem dX0_sendTwo_93 : decode cX0_sendTwo 93 = .ok (.getfield 22, 3) := by decide +kernel
theorem dX0_sendTwo_96 : decode cX0_sendTwo 96 = .ok (.iconst 1, 1) := by decide +kernel
theorem dX0_sendTwo_97 : decode cX0_sendTwo 97 = .ok (.invokevirtual 49, 3) := by decide +kernel
theorem dX0_sendTwo_100 : decode cX0_sendTwo 100 = .ok (.invokevirtual 52, 3) := by decide +kernel
theorem dX0_sendTwo_103 : decode cX0_sendTwo 103 = .ok (.iinc 4 1, 3) := by decide +kernel
theorem dX0_sendTwo_106 : decode cX0_sendTwo 106 = .ok (.goto (-85), 3) := by decide +kernel
theorem dX0_sendTwo_109 : decode cX0_sendTwo 109 = .ok (.iinc 3 1, 3) := by decide +kernel
theorem dX0_sendTwo_112 : decode cX0_sendTwo 112 = .ok (.goto (-105), 3) := by decide +kernel
theorem dX0_sendTwo_115 : decode cX0_sendTwo 115 = .ok (.return_, 1) := by decide +kernel
def L_X0_sendTwo_21 (c_t_now_houses : Int32) (c_t_now_comers : Int32) (c_t_now_evening : Int32) (r_t_now_comes : (Nat → Int32)) (r_t_now_goes : (Nat → Int32)) (r_t_now_kindOf : (Nat → Int32)) (r_t_now_likings : (Nat → Int32)) (r_t_now_lists : (Nat → Int32)) (x1 : Int32) (x2 : Int32) (y2 : Int32) : Nat → Int32 → Int32 → Int32 → Int32 → Int32 → Int32 → Int32 → Int32 → Int32 → (Nat → Int32) → (Nat → Int32) → (Nat → Int32) → (Nat → Int32) → (Nat → Int32) → Int32 → Int32 → (Nat → Int32) → (Nat → Int32) → Option (Int32 × Int32 × Int32 × Int32 × Int32 × Int32 × Int32 × Int32 × (Nat → Int32) × (Nat → Int32) × (Nat → Int32) × (Nat → Int32) × (Nat → Int32) × Int32 × Int32 × (Nat → Int32) × (Nat → Int32))
  | 0, _, _, _, _, _, _, _, _, _, _, _, _, _, _, _, _, _, _ => none
  | n + 1, y20, y21, y22, y23, y24, y25, y26, y27, y28, y29, y30, y31, y32, y33, y34, y35, y36, y37 =>
    if c_t_now_houses < y20 then
      (some ((y21, y22, y23, y24, y25, y26, y27, y28, y29, y30, y31, y32, y33, y34, y35, y36, y37)))
    else
      ((f_X10_restart y23 y24 y25 y26 y27 y28 y29 y30 y31 y32 y33 c_t_now_houses c_t_now_comers c_t_now_evening r_t_now_comes r_t_now_goes r_t_now_kindOf r_t_now_likings r_t_now_lists).bind (fun (v38 : Int32 × Int32 × Int32 × Int32 × Int32 × Int32 × (Nat → Int32) × (Nat → Int32) × (Nat → Int32) × (Nat → Int32) × (Nat → Int32)) =>
        (f_X1_destination c_t_now_houses y2).bind (fun (v39 : Int32) =>
          if inb x1 6 then
            ((f_X1_destination c_t_now_houses y20).bind (fun (v40 : Int32) =>
              if inb x2 6 then
                (if inb x1 6 then
                  (if inb x2 6 then
                    ((f_X10_dinnersIn v38.1 v38.2.1 v38.2.2.1 v38.2.2.2.1 v38.2.2.2.2.1 v38.2.2.2.2.2.1 v38.2.2.2.2.2.2.1 (upd (upd v38.2.2.2.2.2.2.2.1 (ix x1) v39) (ix x2) v40) v38.2.2.2.2.2.2.2.2.1 v38.2.2.2.2.2.2.2.2.2.1 v38.2.2.2.2.2.2.2.2.2.2 y34 y35 y36 y37 1).bind (fun (v41 : Int32 × Int32 × Int32 × Int32 × Int32 × (Nat → Int32) × Int32 × Int32 × (Nat → Int32) × (Nat → Int32)) =>
                      (f_X0_weigh y21 y22 ((10 * ((upd (upd v38.2.2.2.2.2.2.2.1 (ix x1) v39) (ix x2) v40) (ix x1))) + ((upd (upd v38.2.2.2.2.2.2.2.1 (ix x1) v39) (ix x2) v40) (ix x2))) v41.1).bind (fun (v42 : Int32 × Int32) =>
                        L_X0_sendTwo_21 c_t_now_houses c_t_now_comers c_t_now_evening r_t_now_comes r_t_now_goes r_t_now_kindOf r_t_now_likings r_t_now_lists x1 x2 y2 n (y20 + 1) v42.1 v42.2 v41.2.1 v41.2.2.1 v41.2.2.2.1 v38.2.2.2.1 v38.2.2.2.2.1 v41.2.2.2.2.1 v38.2.2.2.2.2.2.1 (upd (upd v38.2.2.2.2.2.2.2.1 (ix x1) v39) (ix x2) v40) v38.2.2.2.2.2.2.2.2.1 v41.2.2.2.2.2.1 v38.2.2.2.2.2.2.2.2.2.2 v41.2.2.2.2.2.2.1 v41.2.2.2.2.2.2.2.1 v41.2.2.2.2.2.2.2.2.1 v41.2.2.2.2.2.2.2.2.2)))
                  else none)
                else none)
              else none))
          else none)))
def L_X0_sendTwo_7 (c_t_now_houses : Int32) (c_t_now_comers : Int32) (c_t_now_evening : Int32) (r_t_now_comes : (Nat → Int32)) (r_t_now_goes : (Nat → Int32)) (r_t_now_kindOf : (Nat → Int32)) (r_t_now_likings : (Nat → Int32)) (r_t_now_lists : (Nat → Int32)) (x1 : Int32) (x2 : Int32) : Nat → Int32 → Int32 → Int32 → Int32 → Int32 → Int32 → Int32 → Int32 → Int32 → (Nat → Int32) → (Nat → Int32) → (Nat → Int32) → (Nat → Int32) → (Nat → Int32) → Int32 → Int32 → (Nat → Int32) → (Nat → Int32) → Option (Int32 × Int32 × Int32 × Int32 × Int32 × Int32 × Int32 × Int32 × (Nat → Int32) × (Nat → Int32) × (Nat → Int32) × (Nat → Int32) × (Nat → Int32) × Int32 × Int32 × (Nat → Int32) × (Nat → Int32))
  | 0, _, _, _, _, _, _, _, _, _, _, _, _, _, _, _, _, _, _ => none
  | n + 1, y2, y3, y4, y5, y6, y7, y8, y9, y10, y11, y12, y13, y14, y15, y16, y17, y18, y19 =>
    if c_t_now_houses < y2 then
      (some ((y3, y4, y5, y6, y7, y8, y9, y10, y11, y12, y13, y14, y15, y16, y17, y18, y19)))
    else
      ((L_X0_sendTwo_21 c_t_now_houses c_t_now_comers c_t_now_evening r_t_now_comes r_t_now_goes r_t_now_kindOf r_t_now_likings r_t_now_lists x1 x2 y2 400 0 y3 y4 y5 y6 y7 y8 y9 y10 y11 y12 y13 y14 y15 y16 y17 y18 y19).bind (fun (v44 : Int32 × Int32 × Int32 × Int32 × Int32 × Int32 × Int32 × Int32 × (Nat → Int32) × (Nat → Int32) × (Nat → Int32) × (Nat → Int32) × (Nat → Int32) × Int32 × Int32 × (Nat → Int32) × (Nat → Int32)) =>
        L_X0_sendTwo_7 c_t_now_houses c_t_now_comers c_t_now_evening r_t_now_comes r_t_now_goes r_t_now_kindOf r_t_now_likings r_t_now_lists x1 x2 n (y2 + 1) v44.1 v44.2.1 v44.2.2.1 v44.2.2.2.1 v44.2.2.2.2.1 v44.2.2.2.2.2.1 v44.2.2.2.2.2.2.1 v44.2.2.2.2.2.2.2.1 v44.2.2.2.2.2.2.2.2.1 v44.2.2.2.2.2.2.2.2.2.1 v44.2.2.2.2.2.2.2.2.2.2.1 v44.2.2.2.2.2.2.2.2.2.2.2.1 v44.2.2.2.2.2.2.2.2.2.2.2.2.1 v44.2.2.2.2.2.2.2.2.2.2.2.2.2.1 v44.2.2.2.2.2.2.2.2.2.2.2.2.2.2.1 v44.2.2.2.2.2.2.2.2.2.2.2.2.2.2.2.1 v44.2.2.2.2.2.2.2.2.2.2.2.2.2.2.2.2))
def f_X0_sendTwo (c_t_plan : Int32) (c_t_dinners : Int32) (c_t_now_houses : Int32) (c_t_now_comers : Int32) (c_t_now_evening : Int32) (r_t_now_comes : (Nat → Int32)) (r_t_now_goes : (Nat → Int32)) (r_t_now_kindOf : (Nat → Int32)) (r_t_now_likings : (Nat → Int32)) (r_t_now_lists : (Nat → Int32)) (c_t_trial_evenings : Int32) (c_t_trial_waited : Int32) (c_t_trial_firstFast : Int32) (c_t_trial_county_houses : Int32) (c_t_trial_county_comers : Int32) (c_t_trial_county_evening : Int32) (r_t_trial_county_comes : (Nat → Int32)) (r_t_trial_county_goes : (Nat → Int32)) (r_t_trial_county_kindOf : (Nat → Int32)) (r_t_trial_county_likings : (Nat → Int32)) (r_t_trial_county_lists : (Nat → Int32)) (c_t_trial_evening_begun : Int32) (c_t_trial_evening_waited : Int32) (r_t_trial_evening_hours : (Nat → Int32)) (r_t_trial_evening_openers : (Nat → Int32)) (x1 : Int32) (x2 : Int32) : Option (Int32 × Int32 × Int32 × Int32 × Int32 × Int32 × Int32 × Int32 × (Nat → Int32) × (Nat → Int32) × (Nat → Int32) × (Nat → Int32) × (Nat → Int32) × Int32 × Int32 × (Nat → Int32) × (Nat → Int32)) :=
  (f_X0_beginAt c_t_plan c_t_dinners ((-1))).bind (fun (v1 : Int32 × Int32) =>
    (L_X0_sendTwo_7 c_t_now_houses c_t_now_comers c_t_now_evening r_t_now_comes r_t_now_goes r_t_now_kindOf r_t_now_likings r_t_now_lists x1 x2 400 0 v1.1 v1.2 c_t_trial_evenings c_t_trial_waited c_t_trial_firstFast c_t_trial_county_houses c_t_trial_county_comers c_t_trial_county_evening r_t_trial_county_comes r_t_trial_county_goes r_t_trial_county_kindOf r_t_trial_county_likings r_t_trial_county_lists c_t_trial_evening_begun c_t_trial_evening_waited r_t_trial_evening_hours r_t_trial_evening_openers).bind (fun (v46 : Int32 × Int32 × Int32 × Int32 × Int32 × Int32 × Int32 × Int32 × (Nat → Int32) × (Nat → Int32) × (Nat → Int32) × (Nat → Int32) × (Nat → Int32) × Int32 × Int32 × (Nat → Int32) × (Nat → Int32)) =>
      some ((v46.1, v46.2.1, v46.2.2.1, v46.2.2.2.1, v46.2.2.2.2.1, v46.2.2.2.2.2.1, v46.2.2.2.2.2.2.1, v46.2.2.2.2.2.2.2.1, v46.2.2.2.2.2.2.2.2.1, v46.2.2.2.2.2.2.2.2.2.1, v46.2.2.2.2.2.2.2.2.2.2.1, v46.2.2.2.2.2.2.2.2.2.2.2.1, v46.2.2.2.2.2.2.2.2.2.2.2.2.1, v46.2.2.2.2.2.2.2.2.2.2.2.2.2.1, v46.2.2.2.2.2.2.2.2.2.2.2.2.2.2.1, v46.2.2.2.2.2.2.2.2.2.2.2.2.2.2.2.1, v46.2.2.2.2.2.2.2.2.2.2.2.2.2.2.2.2))))
abbrev rm_X0_sendTwo : Room := { frames := 5, cells := 0, slots := 0, locals := 122 }
set_option maxHeartbeats 4000000 in
set_option maxRecDepth 100000 in
theorem lp_X0_sendTwo_21 {E : Ev} {X : Cx} {a_t a_t_now a_t_now_comes a_t_now_goes a_t_now_kindOf a_t_now_likings a_t_now_lists a_t_trial a_t_trial_county a_t_trial_county_comes a_t_trial_county_goes a_t_trial_county_kindOf a_t_trial_county_likings a_t_trial_county_lists a_t_trial_evening a_t_trial_evening_hours a_t_trial_evening_openers : Nat} (c_t_now_houses : Int32) (c_t_now_comers : Int32) (c_t_now_evening : Int32) (r_t_now_comes : (Nat → Int32)) (r_t_now_goes : (Nat → Int32)) (r_t_now_kindOf : (Nat → Int32)) (r_t_now_likings : (Nat → Int32)) (r_t_now_lists : (Nat → Int32)) (x1 : Int32) (x2 : Int32) (y2 : Int32) (C : CX E X cX0_sendTwo RX0 6 rm_X0_sendTwo) : ∀ (n : Nat) (y20 : Int32) (y21 : Int32) (y22 : Int32) (y23 : Int32) (y24 : Int32) (y25 : Int32) (y26 : Int32) (y27 : Int32) (y28 : Int32) (y29 : (Nat → Int32)) (y30 : (Nat → Int32)) (y31 : (Nat → Int32)) (y32 : (Nat → Int32)) (y33 : (Nat → Int32)) (y34 : Int32) (y35 : Int32) (y36 : (Nat → Int32)) (y37 : (Nat → Int32)) (v : Int32 × Int32 × Int32 × Int32 × Int32 × Int32 × Int32 × Int32 × (Nat → Int32) × (Nat → Int32) × (Nat → Int32) × (Nat → Int32) × (Nat → Int32) × Int32 × Int32 × (Nat → Int32) × (Nat → Int32)), L_X0_sendTwo_21 c_t_now_houses c_t_now_comers c_t_now_evening r_t_now_comes r_t_now_goes r_t_now_kindOf r_t_now_likings r_t_now_lists x1 x2 y2 n y20 y21 y22 y23 y24 y25 y26 y27 y28 y29 y30 y31 y32 y33 y34 y35 y36 y37 = some v → G E X 0 0 [oX0 a_t a_t_now a_t_trial v.1 v.2.1, oX1 a_t_now c_t_now_houses c_t_now_comers c_t_now_evening a_t_now_lists a_t_now_kindOf a_t_now_goes a_t_now_comes a_t_now_likings, aI E a_t_now_comes 6 r_t_now_comes, aI E a_t_now_goes 6 r_t_now_goes, aI E a_t_now_kindOf 6 r_t_now_kindOf, aI E a_t_now_likings 24 r_t_now_likings, aI E a_t_now_lists 4 r_t_now_lists, oX10 a_t_trial a_t_now a_t_trial_county a_t_trial_evening v.2.2.1 v.2.2.2.1 v.2.2.2.2.1, oX1 a_t_trial_county v.2.2.2.2.2.1 v.2.2.2.2.2.2.1 v.2.2.2.2.2.2.2.1 a_t_trial_county_lists a_t_trial_county_kindOf a_t_trial_county_goes a_t_trial_county_comes a_t_trial_county_likings, aI E a_t_trial_county_comes 6 v.2.2.2.2.2.2.2.2.1, aI E a_t_trial_county_goes 6 v.2.2.2.2.2.2.2.2.2.1, aI E a_t_trial_county_kindOf 6 v.2.2.2.2.2.2.2.2.2.2.1, aI E a_t_trial_county_likings 24 v.2.2.2.2.2.2.2.2.2.2.2.1, aI E a_t_trial_county_lists 4 v.2.2.2.2.2.2.2.2.2.2.2.2.1, oX2 a_t_trial_evening a_t_trial_evening_hours a_t_trial_evening_openers v.2.2.2.2.2.2.2.2.2.2.2.2.2.1 v.2.2.2.2.2.2.2.2.2.2.2.2.2.2.1, aI E a_t_trial_evening_hours 4 v.2.2.2.2.2.2.2.2.2.2.2.2.2.2.2.1, aI E a_t_trial_evening_openers 4 v.2.2.2.2.2.2.2.2.2.2.2.2.2.2.2.2] [(0, .ref a_t), (1, .int x1), (2, .int x2), (3, .int y2)] 109 [] → G E X 0 0 [oX0 a_t a_t_now a_t_trial y21 y22, oX1 a_t_now c_t_now_houses c_t_now_comers c_t_now_evening a_t_now_lists a_t_now_kindOf a_t_now_goes a_t_now_comes a_t_now_likings, aI E a_t_now_comes 6 r_t_now_comes, aI E a_t_now_goes 6 r_t_now_goes, aI E a_t_now_kindOf 6 r_t_now_kindOf, aI E a_t_now_likings 24 r_t_now_likings, aI E a_t_now_lists 4 r_t_now_lists, oX10 a_t_trial a_t_now a_t_trial_county a_t_trial_evening y23 y24 y25, oX1 a_t_trial_county y26 y27 y28 a_t_trial_county_lists a_t_trial_county_kindOf a_t_trial_county_goes a_t_trial_county_comes a_t_trial_county_likings, aI E a_t_trial_county_comes 6 y29, aI E a_t_trial_county_goes 6 y30, aI E a_t_trial_county_kindOf 6 y31, aI E a_t_trial_county_likings 24 y32, aI E a_t_trial_county_lists 4 y33, oX2 a_t_trial_evening a_t_trial_evening_hours a_t_trial_evening_openers y34 y35, aI E a_t_trial_evening_hours 4 y36, aI E a_t_trial_evening_openers 4 y37] [(0, .ref a_t), (1, .int x1), (2, .int x2), (3, .int y2), (4, .int y20)] 21 [] := by
  intro n
  induction n with
  | zero => intro _ _ _ _ _ _ _ _ _ _ _ _ _ _ _ _ _ _ _ h; cases h
  | succ n ih =>
    intro y20 y21 y22 y23 y24 y25 y26 y27 y28 y29 y30 y31 y32 y33 y34 y35 y36 y37 v h kk
    rw [L_X0_sendTwo_21] at h
    refine g_iload (pc := 21) C dX0_sendTwo_21 4 rfl ?_
    refine g_aload_n (pc := 23) C dX0_sendTwo_23 0 rfl ?_
    refine g_get (pc := 24) 0 C fl_X0_18 rfl rfl dX0_sendTwo_24 ?_
    refine g_get (pc := 27) 1 C fl_X0_30 rfl rfl dX0_sendTwo_27 ?_
    refine b_icmp_gt (pc := 30) 109 C dX0_sendTwo_30 (by decide) h (fun _ h => ?_) (fun _ h => ?_)
    · obtain rfl := Option.some.inj h
      refine g_lv [0, 1, 2, 3] (lv' := [(0, .ref a_t), (1, .int x1), (2, .int x2), (3, .int y2)]) rfl ?_
      exact kk
    · refine g_aload_n (pc := 33) C dX0_sendTwo_33 0 rfl ?_
      refine g_get (pc := 34) 0 C fl_X0_22 rfl rfl dX0_sendTwo_34 ?_
      obtain ⟨v38, hv38, h⟩ := o_bnd h
      refine g_callV (pc := 37) (ws' := [oX0 a_t a_t_now a_t_trial y21 y22, oX1 a_t_now c_t_now_houses c_t_now_comers c_t_now_evening a_t_now_lists a_t_now_kindOf a_t_now_goes a_t_now_comes a_t_now_likings, aI E a_t_now_comes 6 r_t_now_comes, aI E a_t_now_goes 6 r_t_now_goes, aI E a_t_now_kindOf 6 r_t_now_kindOf, aI E a_t_now_likings 24 r_t_now_likings, aI E a_t_now_lists 4 r_t_now_lists, oX10 a_t_trial a_t_now a_t_trial_county a_t_trial_evening v38.1 v38.2.1 v38.2.2.1, oX1 a_t_trial_county v38.2.2.2.1 v38.2.2.2.2.1 v38.2.2.2.2.2.1 a_t_trial_county_lists a_t_trial_county_kindOf a_t_trial_county_goes a_t_trial_county_comes a_t_trial_county_likings, aI E a_t_trial_county_comes 6 v38.2.2.2.2.2.2.1, aI E a_t_trial_county_goes 6 v38.2.2.2.2.2.2.2.1, aI E a_t_trial_county_kindOf 6 v38.2.2.2.2.2.2.2.2.1, aI E a_t_trial_county_likings 24 v38.2.2.2.2.2.2.2.2.2.1, aI E a_t_trial_county_lists 4 v38.2.2.2.2.2.2.2.2.2.2, oX2 a_t_trial_evening a_t_trial_evening_hours a_t_trial_evening_openers y34 y35, aI E a_t_trial_evening_hours 4 y36, aI E a_t_trial_evening_openers 4 y37]) (st1 := [.ref a_t_trial_county]) C mv_X0_39 (k_X10_restart E a_t_trial a_t_trial_county a_t_trial_county_comes a_t_trial_county_goes a_t_trial_county_kindOf a_t_trial_county_likings a_t_trial_county_lists a_t_now a_t_now_comes a_t_now_goes a_t_now_kindOf a_t_now_likings a_t_now_lists a_t_trial_evening y23 y24 y25 y26 y27 y28 y29 y30 y31 y32 y33 c_t_now_houses c_t_now_comers c_t_now_evening r_t_now_comes r_t_now_goes r_t_now_kindOf r_t_now_likings r_t_now_lists v38 hv38) [7, 8, 9, 10, 11, 12, 13, 1, 2, 3, 4, 5, 6] rfl rfl rfl rfl 0 rfl rfl ⟨by decide, by decide⟩ ⟨rfl, rfl⟩ ⟨Nat.zero_le _, Nat.zero_le _⟩ rfl rfl rfl (Nat.le_of_ble_eq_true rfl) dX0_sendTwo_37 ?_
      refine g_astore (pc := 40) (lv' := [(5, .ref a_t_trial_county), (0, .ref a_t), (1, .int x1), (2, .int x2), (3, .int y2), (4, .int y20)]) C dX0_sendTwo_40 (by decide) rfl ?_
      refine g_aload (pc := 42) C dX0_sendTwo_42 0 rfl ?_
      refine g_get (pc := 44) 8 C fl_X0_45 rfl rfl dX0_sendTwo_44 ?_
      refine g_iload_n (pc := 47) C dX0_sendTwo_47 2 rfl ?_
      refine g_aload_n (pc := 48) C dX0_sendTwo_48 1 rfl ?_
      refine g_get (pc := 49) 0 C fl_X0_18 rfl rfl dX0_sendTwo_49 ?_
      refine g_iload_n (pc := 52) C dX0_sendTwo_52 4 rfl ?_
      obtain ⟨v39, hv39, h⟩ := o_bnd h
      refine g_callV (pc := 53) (ws' := [oX0 a_t a_t_now a_t_trial y21 y22, oX1 a_t_now c_t_now_houses c_t_now_comers c_t_now_evening a_t_now_lists a_t_now_kindOf a_t_now_goes a_t_now_comes a_t_now_likings, aI E a_t_now_comes 6 r_t_now_comes, aI E a_t_now_goes 6 r_t_now_goes, aI E a_t_now_kindOf 6 r_t_now_kindOf, aI E a_t_now_likings 24 r_t_now_likings, aI E a_t_now_lists 4 r_t_now_lists, oX10 a_t_trial a_t_now a_t_trial_county a_t_trial_evening v38.1 v38.2.1 v38.2.2.1, oX1 a_t_trial_county v38.2.2.2.1 v38.2.2.2.2.1 v38.2.2.2.2.2.1 a_t_trial_county_lists a_t_trial_county_kindOf a_t_trial_county_goes a_t_trial_county_comes a_t_trial_county_likings, aI E a_t_trial_county_comes 6 v38.2.2.2.2.2.2.1, aI E a_t_trial_county_goes 6 v38.2.2.2.2.2.2.2.1, aI E a_t_trial_county_kindOf 6 v38.2.2.2.2.2.2.2.2.1, aI E a_t_trial_county_likings 24 v38.2.2.2.2.2.2.2.2.2.1, aI E a_t_trial_county_lists 4 v38.2.2.2.2.2.2.2.2.2.2, oX2 a_t_trial_evening a_t_trial_evening_hours a_t_trial_evening_openers y34 y35, aI E a_t_trial_evening_hours 4 y36, aI E a_t_trial_evening_openers 4 y37]) (st1 := [.int v39, .int x1, .ref a_t_trial_county_goes]) C mv_X0_35 (k_X1_destination E a_t_now a_t_now_lists a_t_now_kindOf a_t_now_goes a_t_now_comes a_t_now_likings c_t_now_houses c_t_now_comers c_t_now_evening y2 v39 hv39) [1] rfl rfl rfl rfl 0 rfl rfl ⟨by decide, by decide⟩ ⟨rfl, rfl⟩ ⟨Nat.zero_le _, Nat.zero_le _⟩ rfl rfl rfl (Nat.le_of_ble_eq_true rfl) dX0_sendTwo_53 ?_
      refine b_iast (pc := 56) (ws' := [oX0 a_t a_t_now a_t_trial y21 y22, oX1 a_t_now c_t_now_houses c_t_now_comers c_t_now_evening a_t_now_lists a_t_now_kindOf a_t_now_goes a_t_now_comes a_t_now_likings, aI E a_t_now_comes 6 r_t_now_comes, aI E a_t_now_goes 6 r_t_now_goes, aI E a_t_now_kindOf 6 r_t_now_kindOf, aI E a_t_now_likings 24 r_t_now_likings, aI E a_t_now_lists 4 r_t_now_lists, oX10 a_t_trial a_t_now a_t_trial_county a_t_trial_evening v38.1 v38.2.1 v38.2.2.1, oX1 a_t_trial_county v38.2.2.2.1 v38.2.2.2.2.1 v38.2.2.2.2.2.1 a_t_trial_county_lists a_t_trial_county_kindOf a_t_trial_county_goes a_t_trial_county_comes a_t_trial_county_likings, aI E a_t_trial_county_comes 6 v38.2.2.2.2.2.2.1, aI E a_t_trial_county_goes 6 (upd v38.2.2.2.2.2.2.2.1 (ix x1) v39), aI E a_t_trial_county_kindOf 6 v38.2.2.2.2.2.2.2.2.1, aI E a_t_trial_county_likings 24 v38.2.2.2.2.2.2.2.2.2.1, aI E a_t_trial_county_lists 4 v38.2.2.2.2.2.2.2.2.2.2, oX2 a_t_trial_evening a_t_trial_evening_hours a_t_trial_evening_openers y34 y35, aI E a_t_trial_evening_hours 4 y36, aI E a_t_trial_evening_openers 4 y37]) 10 C rfl rfl dX0_sendTwo_56 h (fun _ h => ?_)
      refine g_aload (pc := 57) C dX0_sendTwo_57 0 rfl ?_
      refine g_get (pc := 59) 8 C fl_X0_45 rfl rfl dX0_sendTwo_59 ?_
      refine g_iload_n (pc := 62) C dX0_sendTwo_62 3 rfl ?_
      refine g_aload_n (pc := 63) C dX0_sendTwo_63 1 rfl ?_
      refine g_get (pc := 64) 0 C fl_X0_18 rfl rfl dX0_sendTwo_64 ?_
      refine g_iload (pc := 67) C dX0_sendTwo_67 5 rfl ?_
      obtain ⟨v40, hv40, h⟩ := o_bnd h
      refine g_callV (pc := 69) (ws' := [oX0 a_t a_t_now a_t_trial y21 y22, oX1 a_t_now c_t_now_houses c_t_now_comers c_t_now_evening a_t_now_lists a_t_now_kindOf a_t_now_goes a_t_now_comes a_t_now_likings, aI E a_t_now_comes 6 r_t_now_comes, aI E a_t_now_goes 6 r_t_now_goes, aI E a_t_now_kindOf 6 r_t_now_kindOf, aI E a_t_now_likings 24 r_t_now_likings, aI E a_t_now_lists 4 r_t_now_lists, oX10 a_t_trial a_t_now a_t_trial_county a_t_trial_evening v38.1 v38.2.1 v38.2.2.1, oX1 a_t_trial_county v38.2.2.2.1 v38.2.2.2.2.1 v38.2.2.2.2.2.1 a_t_trial_county_lists a_t_trial_county_kindOf a_t_trial_county_goes a_t_trial_county_comes a_t_trial_county_likings, aI E a_t_trial_county_comes 6 v38.2.2.2.2.2.2.1, aI E a_t_trial_county_goes 6 (upd v38.2.2.2.2.2.2.2.1 (ix x1) v39), aI E a_t_trial_county_kindOf 6 v38.2.2.2.2.2.2.2.2.1, aI E a_t_trial_county_likings 24 v38.2.2.2.2.2.2.2.2.2.1, aI E a_t_trial_county_lists 4 v38.2.2.2.2.2.2.2.2.2.2, oX2 a_t_trial_evening a_t_trial_evening_hours a_t_trial_evening_openers y34 y35, aI E a_t_trial_evening_hours 4 y36, aI E a_t_trial_evening_openers 4 y37]) (st1 := [.int v40, .int x2, .ref a_t_trial_county_goes]) C mv_X0_35 (k_X1_destination E a_t_now a_t_now_lists a_t_now_kindOf a_t_now_goes a_t_now_comes a_t_now_likings c_t_now_houses c_t_now_comers c_t_now_evening y20 v40 hv40) [1] rfl rfl rfl rfl 0 rfl rfl ⟨by decide, by decide⟩ ⟨rfl, rfl⟩ ⟨Nat.zero_le _, Nat.zero_le _⟩ rfl rfl rfl (Nat.le_of_ble_eq_true rfl) dX0_sendTwo_69 ?_
      refine b_iast (pc := 72) (ws' := [oX0 a_t a_t_now a_t_trial y21 y22, oX1 a_t_now c_t_now_houses c_t_now_comers c_t_now_evening a_t_now_lists a_t_now_kindOf a_t_now_goes a_t_now_comes a_t_now_likings, aI E a_t_now_comes 6 r_t_now_comes, aI E a_t_now_goes 6 r_t_now_goes, aI E a_t_now_kindOf 6 r_t_now_kindOf, aI E a_t_now_likings 24 r_t_now_likings, aI E a_t_now_lists 4 r_t_now_lists, oX10 a_t_trial a_t_now a_t_trial_county a_t_trial_evening v38.1 v38.2.1 v38.2.2.1, oX1 a_t_trial_county v38.2.2.2.1 v38.2.2.2.2.1 v38.2.2.2.2.2.1 a_t_trial_county_lists a_t_trial_county_kindOf a_t_trial_county_goes a_t_trial_county_comes a_t_trial_county_likings, aI E a_t_trial_county_comes 6 v38.2.2.2.2.2.2.1, aI E a_t_trial_county_goes 6 (upd (upd v38.2.2.2.2.2.2.2.1 (ix x1) v39) (ix x2) v40), aI E a_t_trial_county_kindOf 6 v38.2.2.2.2.2.2.2.2.1, aI E a_t_trial_county_likings 24 v38.2.2.2.2.2.2.2.2.2.1, aI E a_t_trial_county_lists 4 v38.2.2.2.2.2.2.2.2.2.2, oX2 a_t_trial_evening a_t_trial_evening_hours a_t_trial_evening_openers y34 y35, aI E a_t_trial_evening_hours 4 y36, aI E a_t_trial_evening_openers 4 y37]) 10 C rfl rfl dX0_sendTwo_72 h (fun _ h => ?_)
      refine g_aload_n (pc := 73) C dX0_sendTwo_73 1 rfl ?_
      refine g_bipush (pc := 74) (v := 10) C dX0_sendTwo_74 (by decide) ?_
      refine g_aload (pc := 76) C dX0_sendTwo_76 0 rfl ?_
      refine g_get (pc := 78) 8 C fl_X0_45 rfl rfl dX0_sendTwo_78 ?_
      refine g_iload_n (pc := 81) C dX0_sendTwo_81 2 rfl ?_
      refine b_iald (pc := 82) 10 C rfl dX0_sendTwo_82 h (fun _ h => ?_)
      refine g_imul (pc := 83) C dX0_sendTwo_83 ?_
      refine g_aload (pc := 84) C dX0_sendTwo_84 0 rfl ?_
      refine g_get (pc := 86) 8 C fl_X0_45 rfl rfl dX0_sendTwo_86 ?_
      refine g_iload_n (pc := 89) C dX0_sendTwo_89 3 rfl ?_
      refine b_iald (pc := 90) 10 C rfl dX0_sendTwo_90 h (fun _ h => ?_)
      refine g_iadd (pc := 91) C dX0_sendTwo_91 ?_
      refine g_aload_n (pc := 92) C dX0_sendTwo_92 1 rfl ?_
      refine g_get (pc := 93) 0 C fl_X0_22 rfl rfl dX0_sendTwo_93 ?_
      refine g_iconst (pc := 96) (v := 1) C dX0_sendTwo_96 (by decide) ?_
      obtain ⟨v41, hv41, h⟩ := o_bnd h
      refine g_callV (pc := 97) (ws' := [oX0 a_t a_t_now a_t_trial y21 y22, oX1 a_t_now c_t_now_houses c_t_now_comers c_t_now_evening a_t_now_lists a_t_now_kindOf a_t_now_goes a_t_now_comes a_t_now_likings, aI E a_t_now_comes 6 r_t_now_comes, aI E a_t_now_goes 6 r_t_now_goes, aI E a_t_now_kindOf 6 r_t_now_kindOf, aI E a_t_now_likings 24 r_t_now_likings, aI E a_t_now_lists 4 r_t_now_lists, oX10 a_t_trial a_t_now a_t_trial_county a_t_trial_evening v41.2.1 v41.2.2.1 v41.2.2.2.1, oX1 a_t_trial_county v38.2.2.2.1 v38.2.2.2.2.1 v41.2.2.2.2.1 a_t_trial_county_lists a_t_trial_county_kindOf a_t_trial_county_goes a_t_trial_county_comes a_t_trial_county_likings, aI E a_t_trial_county_comes 6 v38.2.2.2.2.2.2.1, aI E a_t_trial_county_goes 6 (upd (upd v38.2.2.2.2.2.2.2.1 (ix x1) v39) (ix x2) v40), aI E a_t_trial_county_kindOf 6 v38.2.2.2.2.2.2.2.2.1, aI E a_t_trial_county_likings 24 v41.2.2.2.2.2.1, aI E a_t_trial_county_lists 4 v38.2.2.2.2.2.2.2.2.2.2, oX2 a_t_trial_evening a_t_trial_evening_hours a_t_trial_evening_openers v41.2.2.2.2.2.2.1 v41.2.2.2.2.2.2.2.1, aI E a_t_trial_evening_hours 4 v41.2.2.2.2.2.2.2.2.1, aI E a_t_trial_evening_openers 4 v41.2.2.2.2.2.2.2.2.2]) (st1 := [.int v41.1, .int ((10 * ((upd (upd v38.2.2.2.2.2.2.2.1 (ix x1) v39) (ix x2) v40) (ix x1))) + ((upd (upd v38.2.2.2.2.2.2.2.1 (ix x1) v39) (ix x2) v40) (ix x2))), .ref a_t]) C mv_X0_49 (k_X10_dinnersIn E a_t_trial a_t_trial_county a_t_trial_county_comes a_t_trial_county_goes a_t_trial_county_kindOf a_t_trial_county_likings a_t_trial_county_lists a_t_trial_evening a_t_trial_evening_hours a_t_trial_evening_openers a_t_now v38.1 v38.2.1 v38.2.2.1 v38.2.2.2.1 v38.2.2.2.2.1 v38.2.2.2.2.2.1 v38.2.2.2.2.2.2.1 (upd (upd v38.2.2.2.2.2.2.2.1 (ix x1) v39) (ix x2) v40) v38.2.2.2.2.2.2.2.2.1 v38.2.2.2.2.2.2.2.2.2.1 v38.2.2.2.2.2.2.2.2.2.2 y34 y35 y36 y37 1 v41 hv41) [7, 8, 9, 10, 11, 12, 13, 14, 15, 16] rfl rfl rfl rfl 0 rfl rfl ⟨by decide, by decide⟩ ⟨rfl, rfl⟩ ⟨Nat.zero_le _, Nat.zero_le _⟩ rfl rfl rfl (Nat.le_of_ble_eq_true rfl) dX0_sendTwo_97 ?_
      obtain ⟨v42, hv42, h⟩ := o_bnd h
      refine g_callV (pc := 100) (ws' := [oX0 a_t a_t_now a_t_trial v42.1 v42.2, oX1 a_t_now c_t_now_houses c_t_now_comers c_t_now_evening a_t_now_lists a_t_now_kindOf a_t_now_goes a_t_now_comes a_t_now_likings, aI E a_t_now_comes 6 r_t_now_comes, aI E a_t_now_goes 6 r_t_now_goes, aI E a_t_now_kindOf 6 r_t_now_kindOf, aI E a_t_now_likings 24 r_t_now_likings, aI E a_t_now_lists 4 r_t_now_lists, oX10 a_t_trial a_t_now a_t_trial_county a_t_trial_evening v41.2.1 v41.2.2.1 v41.2.2.2.1, oX1 a_t_trial_county v38.2.2.2.1 v38.2.2.2.2.1 v41.2.2.2.2.1 a_t_trial_county_lists a_t_trial_county_kindOf a_t_trial_county_goes a_t_trial_county_comes a_t_trial_county_likings, aI E a_t_trial_county_comes 6 v38.2.2.2.2.2.2.1, aI E a_t_trial_county_goes 6 (upd (upd v38.2.2.2.2.2.2.2.1 (ix x1) v39) (ix x2) v40), aI E a_t_trial_county_kindOf 6 v38.2.2.2.2.2.2.2.2.1, aI E a_t_trial_county_likings 24 v41.2.2.2.2.2.1, aI E a_t_trial_county_lists 4 v38.2.2.2.2.2.2.2.2.2.2, oX2 a_t_trial_evening a_t_trial_evening_hours a_t_trial_evening_openers v41.2.2.2.2.2.2.1 v41.2.2.2.2.2.2.2.1, aI E a_t_trial_evening_hours 4 v41.2.2.2.2.2.2.2.2.1, aI E a_t_trial_evening_openers 4 v41.2.2.2.2.2.2.2.2.2]) (st1 := []) C mv_X0_52 (k_X0_weigh E a_t a_t_now a_t_trial y21 y22 ((10 * ((upd (upd v38.2.2.2.2.2.2.2.1 (ix x1) v39) (ix x2) v40) (ix x1))) + ((upd (upd v38.2.2.2.2.2.2.2.1 (ix x1) v39) (ix x2) v40) (ix x2))) v41.1 v42 hv42) [0] rfl rfl rfl rfl 0 rfl rfl ⟨by decide, by decide⟩ ⟨rfl, rfl⟩ ⟨Nat.zero_le _, Nat.zero_le _⟩ rfl rfl rfl (Nat.le_of_ble_eq_true rfl) dX0_sendTwo_100 ?_
      refine g_iinc (pc := 103) (v := y20 + 1) (lv' := [(4, .int (y20 + 1)), (5, .ref a_t_trial_county), (0, .ref a_t), (1, .int x1), (2, .int x2), (3, .int y2)]) C dX0_sendTwo_103 5 rfl rfl (by decide) rfl ?_
      refine g_goto (pc := 106) 21 C dX0_sendTwo_106 (by decide) ?_
      refine g_lv [2, 3, 4, 5, 0] (lv' := [(0, .ref a_t), (1, .int x1), (2, .int x2), (3, .int y2), (4, .int (y20 + 1))]) rfl ?_
      exact ih _ _ _ _ _ _ _ _ _ _ _ _ _ _ _ _ _ _ _ h kk
set_option maxHeartbeats 4000000 in
set_option maxRecDepth 100000 in
theorem lp_X0_sendTwo_7 {E : Ev} {X : Cx} {a_t a_t_now a_t_now_comes a_t_now_goes a_t_now_kindOf a_t_now_likings a_t_now_lists a_t_trial a_t_trial_county a_t_trial_county_comes a_t_trial_county_goes a_t_trial_county_kindOf a_t_trial_county_likings a_t_trial_county_lists a_t_trial_evening a_t_trial_evening_hours a_t_trial_evening_openers : Nat} (c_t_now_houses : Int32) (c_t_now_comers : Int32) (c_t_now_evening : Int32) (r_t_now_comes : (Nat → Int32)) (r_t_now_goes : (Nat → Int32)) (r_t_now_kindOf : (Nat → Int32)) (r_t_now_likings : (Nat → Int32)) (r_t_now_lists : (Nat → Int32)) (x1 : Int32) (x2 : Int32) (C : CX E X cX0_sendTwo RX0 6 rm_X0_sendTwo) : ∀ (n : Nat) (y2 : Int32) (y3 : Int32) (y4 : Int32) (y5 : Int32) (y6 : Int32) (y7 : Int32) (y8 : Int32) (y9 : Int32) (y10 : Int32) (y11 : (Nat → Int32)) (y12 : (Nat → Int32)) (y13 : (Nat → Int32)) (y14 : (Nat → Int32)) (y15 : (Nat → Int32)) (y16 : Int32) (y17 : Int32) (y18 : (Nat → Int32)) (y19 : (Nat → Int32)) (v : Int32 × Int32 × Int32 × Int32 × Int32 × Int32 × Int32 × Int32 × (Nat → Int32) × (Nat → Int32) × (Nat → Int32) × (Nat → Int32) × (Nat → Int32) × Int32 × Int32 × (Nat → Int32) × (Nat → Int32)), L_X0_sendTwo_7 c_t_now_houses c_t_now_comers c_t_now_evening r_t_now_comes r_t_now_goes r_t_now_kindOf r_t_now_likings r_t_now_lists x1 x2 n y2 y3 y4 y5 y6 y7 y8 y9 y10 y11 y12 y13 y14 y15 y16 y17 y18 y19 = some v → G E X 0 0 [oX0 a_t a_t_now a_t_trial v.1 v.2.1, oX1 a_t_now c_t_now_houses c_t_now_comers c_t_now_evening a_t_now_lists a_t_now_kindOf a_t_now_goes a_t_now_comes a_t_now_likings, aI E a_t_now_comes 6 r_t_now_comes, aI E a_t_now_goes 6 r_t_now_goes, aI E a_t_now_kindOf 6 r_t_now_kindOf, aI E a_t_now_likings 24 r_t_now_likings, aI E a_t_now_lists 4 r_t_now_lists, oX10 a_t_trial a_t_now a_t_trial_county a_t_trial_evening v.2.2.1 v.2.2.2.1 v.2.2.2.2.1, oX1 a_t_trial_county v.2.2.2.2.2.1 v.2.2.2.2.2.2.1 v.2.2.2.2.2.2.2.1 a_t_trial_county_lists a_t_trial_county_kindOf a_t_trial_county_goes a_t_trial_county_comes a_t_trial_county_likings, aI E a_t_trial_county_comes 6 v.2.2.2.2.2.2.2.2.1, aI E a_t_trial_county_goes 6 v.2.2.2.2.2.2.2.2.2.1, aI E a_t_trial_county_kindOf 6 v.2.2.2.2.2.2.2.2.2.2.1, aI E a_t_trial_county_likings 24 v.2.2.2.2.2.2.2.2.2.2.2.1, aI E a_t_trial_county_lists 4 v.2.2.2.2.2.2.2.2.2.2.2.2.1, oX2 a_t_trial_evening a_t_trial_evening_hours a_t_trial_evening_openers v.2.2.2.2.2.2.2.2.2.2.2.2.2.1 v.2.2.2.2.2.2.2.2.2.2.2.2.2.2.1, aI E a_t_trial_evening_hours 4 v.2.2.2.2.2.2.2.2.2.2.2.2.2.2.2.1, aI E a_t_trial_evening_openers 4 v.2.2.2.2.2.2.2.2.2.2.2.2.2.2.2.2] [] 115 [] → G E X 0 0 [oX0 a_t a_t_now a_t_trial y3 y4, oX1 a_t_now c_t_now_houses c_t_now_comers c_t_now_evening a_t_now_lists a_t_now_kindOf a_t_now_goes a_t_now_comes a_t_now_likings, aI E a_t_now_comes 6 r_t_now_comes, aI E a_t_now_goes 6 r_t_now_goes, aI E a_t_now_kindOf 6 r_t_now_kindOf, aI E a_t_now_likings 24 r_t_now_likings, aI E a_t_now_lists 4 r_t_now_lists, oX10 a_t_trial a_t_now a_t_trial_county a_t_trial_evening y5 y6 y7, oX1 a_t_trial_county y8 y9 y10 a_t_trial_county_lists a_t_trial_county_kindOf a_t_trial_county_goes a_t_trial_county_comes a_t_trial_county_likings, aI E a_t_trial_county_comes 6 y11, aI E a_t_trial_county_goes 6 y12, aI E a_t_trial_county_kindOf 6 y13, aI E a_t_trial_county_likings 24 y14, aI E a_t_trial_county_lists 4 y15, oX2 a_t_trial_evening a_t_trial_evening_hours a_t_trial_evening_openers y16 y17, aI E a_t_trial_evening_hours 4 y18, aI E a_t_trial_evening_openers 4 y19] [(0, .ref a_t), (1, .int x1), (2, .int x2), (3, .int y2)] 7 [] := by
  intro n
  induction n with
  | zero => intro _ _ _ _ _ _ _ _ _ _ _ _ _ _ _ _ _ _ _ h; cases h
  | succ n ih =>
    intro y2 y3 y4 y5 y6 y7 y8 y9 y10 y11 y12 y13 y14 y15 y16 y17 y18 y19 v h kk
    rw [L_X0_sendTwo_7] at h
    refine g_iload_n (pc := 7) C dX0_sendTwo_7 3 rfl ?_
    refine g_aload_n (pc := 8) C dX0_sendTwo_8 0 rfl ?_
    refine g_get (pc := 9) 0 C fl_X0_18 rfl rfl dX0_sendTwo_9 ?_
    refine g_get (pc := 12) 1 C fl_X0_30 rfl rfl dX0_sendTwo_12 ?_
    refine b_icmp_gt (pc := 15) 115 C dX0_sendTwo_15 (by decide) h (fun _ h => ?_) (fun _ h => ?_)
    · obtain rfl := Option.some.inj h
      refine g_lv [] (lv' := []) rfl ?_
      exact kk
    · refine g_iconst (pc := 18) (v := 0) C dX0_sendTwo_18 (by decide) ?_
      refine g_istore (pc := 19) (lv' := [(4, .int 0), (0, .ref a_t), (1, .int x1), (2, .int x2), (3, .int y2)]) C dX0_sendTwo_19 (by decide) rfl ?_
      obtain ⟨v44, hv44, h⟩ := o_bnd h
      refine g_lv [1, 2, 3, 4, 0] (lv' := [(0, .ref a_t), (1, .int x1), (2, .int x2), (3, .int y2), (4, .int 0)]) rfl ?_
      refine lp_X0_sendTwo_21 c_t_now_houses c_t_now_comers c_t_now_evening r_t_now_comes r_t_now_goes r_t_now_kindOf r_t_now_likings r_t_now_lists x1 x2 y2 C 400 _ _ _ _ _ _ _ _ _ _ _ _ _ _ _ _ _ _ _ hv44 ?_
      refine g_iinc (pc := 109) (v := y2 + 1) (lv' := [(3, .int (y2 + 1)), (0, .ref a_t), (1, .int x1), (2, .int x2)]) C dX0_sendTwo_109 3 rfl rfl (by decide) rfl ?_
      refine g_goto (pc := 112) 7 C dX0_sendTwo_112 (by decide) ?_
      refine g_lv [1, 2, 3, 0] (lv' := [(0, .ref a_t), (1, .int x1), (2, .int x2), (3, .int (y2 + 1))]) rfl ?_
      exact ih _ _ _ _ _ _ _ _ _ _ _ _ _ _ _ _ _ _ _ h kk
set_option maxHeartbeats 4000000 in
set_option maxRecDepth 100000 in
theorem k_X0_sendTwo (E : Ev) (a_t a_t_now a_t_now_comes a_t_now_goes a_t_now_kindOf a_t_now_likings a_t_now_lists a_t_trial a_t_trial_county a_t_trial_county_comes a_t_trial_county_goes a_t_trial_county_kindOf a_t_trial_county_likings a_t_trial_county_lists a_t_trial_evening a_t_trial_evening_hours a_t_trial_evening_openers : Nat) (c_t_plan : Int32) (c_t_dinners : Int32) (c_t_now_houses : Int32) (c_t_now_comers : Int32) (c_t_now_evening : Int32) (r_t_now_comes : (Nat → Int32)) (r_t_now_goes : (Nat → Int32)) (r_t_now_kindOf : (Nat → Int32)) (r_t_now_likings : (Nat → Int32)) (r_t_now_lists : (Nat → Int32)) (c_t_trial_evenings : Int32) (c_t_trial_waited : Int32) (c_t_trial_firstFast : Int32) (c_t_trial_county_houses : Int32) (c_t_trial_county_comers : Int32) (c_t_trial_county_evening : Int32) (r_t_trial_county_comes : (Nat → Int32)) (r_t_trial_county_goes : (Nat → Int32)) (r_t_trial_county_kindOf : (Nat → Int32)) (r_t_trial_county_likings : (Nat → Int32)) (r_t_trial_county_lists : (Nat → Int32)) (c_t_trial_evening_begun : Int32) (c_t_trial_evening_waited : Int32) (r_t_trial_evening_hours : (Nat → Int32)) (r_t_trial_evening_openers : (Nat → Int32)) (x1 : Int32) (x2 : Int32) (v : Int32 × Int32 × Int32 × Int32 × Int32 × Int32 × Int32 × Int32 × (Nat → Int32) × (Nat → Int32) × (Nat → Int32) × (Nat → Int32) × (Nat → Int32) × Int32 × Int32 × (Nat → Int32) × (Nat → Int32)) (h : f_X0_sendTwo c_t_plan c_t_dinners c_t_now_houses c_t_now_comers c_t_now_evening r_t_now_comes r_t_now_goes r_t_now_kindOf r_t_now_likings r_t_now_lists c_t_trial_evenings c_t_trial_waited c_t_trial_firstFast c_t_trial_county_houses c_t_trial_county_comers c_t_trial_county_evening r_t_trial_county_comes r_t_trial_county_goes r_t_trial_county_kindOf r_t_trial_county_likings r_t_trial_county_lists c_t_trial_evening_begun c_t_trial_evening_waited r_t_trial_evening_hours r_t_trial_evening_openers x1 x2 = some v) : Mt E yX0_sendTwo cX0_sendTwo 6 none rm_X0_sendTwo [.ref a_t, .int x1, .int x2] [oX0 a_t a_t_now a_t_trial c_t_plan c_t_dinners, oX1 a_t_now c_t_now_houses c_t_now_comers c_t_now_evening a_t_now_lists a_t_now_kindOf a_t_now_goes a_t_now_comes a_t_now_likings, aI E a_t_now_comes 6 r_t_now_comes, aI E a_t_now_goes 6 r_t_now_goes, aI E a_t_now_kindOf 6 r_t_now_kindOf, aI E a_t_now_likings 24 r_t_now_likings, aI E a_t_now_lists 4 r_t_now_lists, oX10 a_t_trial a_t_now a_t_trial_county a_t_trial_evening c_t_trial_evenings c_t_trial_waited c_t_trial_firstFast, oX1 a_t_trial_county c_t_trial_county_houses c_t_trial_county_comers c_t_trial_county_evening a_t_trial_county_lists a_t_trial_county_kindOf a_t_trial_county_goes a_t_trial_county_comes a_t_trial_county_likings, aI E a_t_trial_county_comes 6 r_t_trial_county_comes, aI E a_t_trial_county_goes 6 r_t_trial_county_goes, aI E a_t_trial_county_kindOf 6 r_t_trial_county_kindOf, aI E a_t_trial_county_likings 24 r_t_trial_county_likings, aI E a_t_trial_county_lists 4 r_t_trial_county_lists, oX2 a_t_trial_evening a_t_trial_evening_hours a_t_trial_evening_openers c_t_trial_evening_begun c_t_trial_evening_waited, aI E a_t_trial_evening_hours 4 r_t_trial_evening_hours, aI E a_t_trial_evening_openers 4 r_t_trial_evening_openers] [oX0 a_t a_t_now a_t_trial v.1 v.2.1, oX1 a_t_now c_t_now_houses c_t_now_comers c_t_now_evening a_t_now_lists a_t_now_kindOf a_t_now_goes a_t_now_comes a_t_now_likings, aI E a_t_now_comes 6 r_t_now_comes, aI E a_t_now_goes 6 r_t_now_goes, aI E a_t_now_kindOf 6 r_t_now_kindOf, aI E a_t_now_likings 24 r_t_now_likings, aI E a_t_now_lists 4 r_t_now_lists, oX10 a_t_trial a_t_now a_t_trial_county a_t_trial_evening v.2.2.1 v.2.2.2.1 v.2.2.2.2.1, oX1 a_t_trial_county v.2.2.2.2.2.1 v.2.2.2.2.2.2.1 v.2.2.2.2.2.2.2.1 a_t_trial_county_lists a_t_trial_county_kindOf a_t_trial_county_goes a_t_trial_county_comes a_t_trial_county_likings, aI E a_t_trial_county_comes 6 v.2.2.2.2.2.2.2.2.1, aI E a_t_trial_county_goes 6 v.2.2.2.2.2.2.2.2.2.1, aI E a_t_trial_county_kindOf 6 v.2.2.2.2.2.2.2.2.2.2.1, aI E a_t_trial_county_likings 24 v.2.2.2.2.2.2.2.2.2.2.2.1, aI E a_t_trial_county_lists 4 v.2.2.2.2.2.2.2.2.2.2.2.2.1, oX2 a_t_trial_evening a_t_trial_evening_hours a_t_trial_evening_openers v.2.2.2.2.2.2.2.2.2.2.2.2.2.1 v.2.2.2.2.2.2.2.2.2.2.2.2.2.2.1, aI E a_t_trial_evening_hours 4 v.2.2.2.2.2.2.2.2.2.2.2.2.2.2.2.1, aI E a_t_trial_evening_openers 4 v.2.2.2.2.2.2.2.2.2.2.2.2.2.2.2.2] none := by
  refine Mt.intro (lv := [(0, .ref a_t), (1, .int x1), (2, .int x2)]) (by decide +kernel) (Nat.le_of_ble_eq_true rfl) rfl (fun X C K => ?_)
  have C : CX E X cX0_sendTwo RX0 6 rm_X0_sendTwo := C
  rw [f_X0_sendTwo] at h
  refine g_aload_n (pc := 0) C dX0_sendTwo_0 0 rfl ?_
  refine g_iconst (pc := 1) (v := (-1)) C dX0_sendTwo_1 (by decide) ?_
  obtain ⟨v1, hv1, h⟩ := o_bnd h
  refine g_callV (pc := 2) (ws' := [oX0 a_t a_t_now a_t_trial v1.1 v1.2, oX1 a_t_now c_t_now_houses c_t_now_comers c_t_now_evening a_t_now_lists a_t_now_kindOf a_t_now_goes a_t_now_comes a_t_now_likings, aI E a_t_now_comes 6 r_t_now_comes, aI E a_t_now_goes 6 r_t_now_goes, aI E a_t_now_kindOf 6 r_t_now_kindOf, aI E a_t_now_likings 24 r_t_now_likings, aI E a_t_now_lists 4 r_t_now_lists, oX10 a_t_trial a_t_now a_t_trial_county a_t_trial_evening c_t_trial_evenings c_t_trial_waited c_t_trial_firstFast, oX1 a_t_trial_county c_t_trial_county_houses c_t_trial_county_comers c_t_trial_county_evening a_t_trial_county_lists a_t_trial_county_kindOf a_t_trial_county_goes a_t_trial_county_comes a_t_trial_county_likings, aI E a_t_trial_county_comes 6 r_t_trial_county_comes, aI E a_t_trial_county_goes 6 r_t_trial_county_goes, aI E a_t_trial_county_kindOf 6 r_t_trial_county_kindOf, aI E a_t_trial_county_likings 24 r_t_trial_county_likings, aI E a_t_trial_county_lists 4 r_t_trial_county_lists, oX2 a_t_trial_evening a_t_trial_evening_hours a_t_trial_evening_openers c_t_trial_evening_begun c_t_trial_evening_waited, aI E a_t_trial_evening_hours 4 r_t_trial_evening_hours, aI E a_t_trial_evening_openers 4 r_t_trial_evening_openers]) (st1 := []) C mv_X0_26 (k_X0_beginAt E a_t a_t_now a_t_trial c_t_plan c_t_dinners ((-1)) v1 hv1) [0] rfl rfl rfl rfl 0 rfl rfl ⟨by decide, by decide⟩ ⟨rfl, rfl⟩ ⟨Nat.zero_le _, Nat.zero_le _⟩ rfl rfl rfl (Nat.le_of_ble_eq_true rfl) dX0_sendTwo_2 ?_
  refine g_iconst (pc := 5) (v := 0) C dX0_sendTwo_5 (by decide) ?_
  refine g_istore_n (pc := 6) (lv' := [(3, .int 0), (0, .ref a_t), (1, .int x1), (2, .int x2)]) C dX0_sendTwo_6 (by decide) rfl ?_
  obtain ⟨v46, hv46, h⟩ := o_bnd h
  refine g_lv [1, 2, 3, 0] (lv' := [(0, .ref a_t), (1, .int x1), (2, .int x2), (3, .int 0)]) rfl ?_
  refine lp_X0_sendTwo_7 c_t_now_houses c_t_now_comers c_t_now_evening r_t_now_comes r_t_now_goes r_t_now_kindOf r_t_now_likings r_t_now_lists x1 x2 C 400 _ _ _ _ _ _ _ _ _ _ _ _ _ _ _ _ _ _ _ hv46 ?_
  obtain rfl := Option.some.inj h
  exact g_vret (pc := 115) C K dX0_sendTwo_115
theorem dX0_swapTwo_0 : decode cX0_swapTwo 0 = .ok (.aload_n 0, 1) := by decide +kernel
theorem dX0_swapTwo_1 : decode cX0_swapTwo 1 = .ok (.getfield 22, 3) := by decide +kernel
theorem dX0_swapTwo_4 : decode cX0_swapTwo 4 = .ok (.invokevirtual 39, 3) := by decide +kernel
theorem dX0_swapTwo_7 : decode cX0_swapTwo 7 = .ok (.pop, 1) := by decide +kernel
theorem dX0_swapTwo_8 : decode cX0_swapTwo 8 = .ok (.aload_n 0, 1) := by decide +kernel
theorem dX0_swapTwo_9 : decode cX0_swapTwo 9 = .ok (.aload_n 0, 1) := by decide +kernel
theorem dX0_swapTwo_10 : decode cX0_swapTwo 10 = .ok (.getfield 22, 3) := by decide +kernel
theorem dX0_swapTwo_13 : decode cX0_swapTwo 13 = .ok (.iconst 1, 1) := by decide +kernel
theorem dX0_swapTwo_14 : decode cX0_swapTwo 14 = .ok (.invokevirtual 49, 3) := by decide +kernel
theorem dX0_swapTwo_17 : decode cX0_swapTwo 17 = .ok (.invokevirtual 26, 3) := by decide +kernel
theorem dX0_swapTwo_20 : decode cX0_swapTwo 20 = .ok (.iconst 0, 1) := by decide +kernel
theorem dX0_swapTwo_21 : decode cX0_swapTwo 21 = .ok (.istore_n 1, 1) := by decide +kernel
theorem dX0_swapTwo_22 : decode cX0_swapTwo 22 = .ok (.iload_n 1, 1) := by decide +kernel
theorem dX0_swapTwo_23 : decode cX0_swapTwo 23 = .ok (.aload_n 0, 1) := by decide +kernel
theorem dX0_swapTwo_24 : decode cX0_swapTwo 24 = .ok (.getfield 18, 3) := by decide +kernel
theorem dX0_swapTwo_27 : decode cX0_swapTwo 27 = .ok (.getfield 56, 3) := by decide +kernel
theorem dX0_swapTwo_30 : decode cX0_swapTwo 30 = .ok (.if_icmp .ge 107, 3) := by decide +kernel
theorem dX0_swapTwo_33 : decode cX0_swapTwo 33 = .ok (.iload_n 1, 1) := by decide +kernel
theorem dX0_swapTwo_34 : decode cX0_swapTwo 34 = .ok (.iconst 1, 1) := by decide +kernel
theorem dX0_swapTwo_35 : decode cX0_swapTwo 35 = .ok (.iadd, 1) := by decide +kernel
theorem dX0_swapTwo_36 : decode cX0_swapTwo 36 = .ok (.istore_n 2, 1) := by decide +kernel
theorem dX0_swapTwo_37 : decode cX0_swapTwo 37 = .ok (.iload_n 2, 1) := by decide +kernel
theorem dX0_swapTwo_38 : decode cX0_swapTwo 38 = .ok (.aload_n 0, 1) := by decide +kernel
theorem dX0_swapTwo_39 : decode cX0_swapTwo 39 = .ok (.getfield 18, 3) := by decide +kernel
theorem dX0_swapTwo_42 : decode cX0_swapTwo 42 = .ok (.getfield 56, 3) := by decide +kernel
theorem dX0_swapTwo_45 : decode cX0_swapTwo 45 = .ok (.if_icmp .ge 86, 3) := by decide +kernel
theorem dX0_swapTwo_48 : decode cX0_swapTwo 48 = .ok (.aload_n 0, 1) := by decide +kernel
theorem dX0_swapTwo_49 : decode cX0_swapTwo 49 = .ok (.getfield 18, 3) := by decide +kernel
theorem dX0_swapTwo_52 : decode cX0_swapTwo 52 = .ok (.getfield 45, 3) := by decide +kernel
theorem dX0_swapTwo_55 : decode cX0_swapTwo 55 = .ok (.iload_n 1, 1) := by decide +kernel
theorem dX0_swapTwo_56 : decode cX0_swapTwo 56 = .ok (.iaload, 1) := by decide +kernel
theorem dX0_swapTwo_57 : decode cX0_swapTwo 57 = .ok (.aload_n 0, 1) := by decide +kernel
theorem dX0_swapTwo_58 : decode cX0_swapTwo 58 = .ok (.getfield 18, 3) := by decide +kernel
theorem dX0_swapTwo_61 : decode cX0_swapTwo 61 = .ok (.getfield 45, 3) := by decide +kernel
theorem dX0_swapTwo_64 : decode cX0_swapTwo 64 = .ok (.iload_n 2, 1) := by decide +kernel
theorem dX0_swapTwo_65 : decode cX0_swapTwo 65 = .ok (.iaload, 1) := by decide +kernel
theorem dX0_swapTwo_66 : decode cX0_swapTwo 66 = .ok (.if_icmp .eq 59, 3) := by decide +kernel
theorem dX0_swapTwo_69 : decode cX0_swapTwo 69 = .ok (.aload_n 0, 1) := by decide +kernel
theorem dX0_swapTwo_70 : decode cX0_swapTwo 70 = .ok (.getfield 22, 3) := by decide +kernel
theorem dX0_swapTwo_73 : decode cX0_swapTwo 73 = .ok (.invokevirtual 39, 3) := by decide +kernel
theorem dX0_swapTwo_76 : decode cX0_swapTwo 76 = .ok (.astore_n 3, 1) := by decide +kernel
theorem dX0_swapTwo_77 : decode cX0_swapTwo 77 = .ok (.aload_n 3, 1) := by decide +kernel
theorem dX0_swapTwo_78 : decode cX0_swapTwo 78 = .ok (.getfield 45, 3) := by decide +kernel
theorem dX0_swapTwo_81 : decode cX0_swapTwo 81 = .ok (.iload_n 1, 1) := by decide +kernel
theorem dX0_swapTwo_82 : decode cX0_swapTwo 82 = .ok (.aload_n 0, 1) := by decide +kernel
theorem dX0_swapTwo_83 : decode cX0_swapTwo 83 = .ok (.getfield 18, 3) := by decide +kernel
theorem dX0_swapTwo_86 : decode cX0_swapTwo 86 = .ok (.getfield 45, 3) := by decide +kernel
theorem dX0_swapTwo_89 : decode cX0_swapTwo 89 = .ok (.iload_n 2, 1) := by decide +kernel
theorem dX0_swapTwo_90 : decode cX0_swapTwo 90 = .ok (.iaload, 1) := by decide +kernel
theorem dX0_swapTwo_91 : decode cX0_swapTwo 91 = .ok (.iastore, 1) := by decide +kernel
theorem dX0_swapTwo_92 : decode cX0_swapTwo 92 = .ok (.aload_n 3, 1) := by decide +kernel
theorem dX0_swapTwo_93 : decode cX0_swapTwo 93 = .ok (.getfield 45, 3) := by decide +kernel
theorem dX0_swapTwo_96 : decode cX0_swapTwo 96 = .ok (.iload_n 2, 1) := by decide +kernel
theorem dX0_swapTwo_97 : decode cX0_swapTwo 97 = .ok (.aload_n 0, 1) := by decide +kernel
theorem dX0_swapTwo_98 : decode cX0_swapTwo 98 = .ok (.getfield 18, 3) := by decide +kernel
theorem dX0_swapTwo_101 : decode cX0_swapTwo 101 = .ok (.getfield 45, 3) := by decide +kernel
theorem dX0_swapTwo_104 : decode cX0_swapTwo 104 = .ok (.iload_n 1, 1) := by decide +kernel
theorem dX0_swapTwo_105 : decode cX0_swapTwo 105 = .ok (.iaload, 1) := by decide +kernel
theorem dX0_swapTwo_106 : decode cX0_swapTwo 106 = .ok (.iastore, 1) := by decide +kernel
theorem dX0_swapTwo_107 : decode cX0_swapTwo 107 = .ok (.aload_n 0, 1) := by decide +kernel
theorem dX0_swapTwo_108 : decode cX0_swapTwo 108 = .ok (.bipush 10, 2) := by decide +kernel
theorem dX0_swapTwo_110 : decode cX0_swapTwo 110 = .ok (.iload_n 1, 1) := by decide +kernel
theorem dX0_swapTwo_111 : decode cX0_swapTwo 111 = .ok (.imul, 1) := by decide +kernel
theorem dX0_swapTwo_112 : decode cX0_swapTwo 112 = .ok (.iload_n 2, 1) := by decide +kernel
theorem dX0_swapTwo_113 : decode cX0_swapTwo 113 = .ok (.iadd, 1) := by decide +kernel
theorem dX0_swapTwo_114 : decode cX0_swapTwo 114 = .ok (.aload_n 0, 1) := by decide +kernel
theorem dX0_swapTwo_115 : decode cX0_swapTwo 115 = .ok (.getfield 22, 3) := by decide +kernel
theorem dX0_swapTwo_118 : decode cX0_swapTwo 118 = .ok (.iconst 1, 1) := by decide +kernel
theorem dX0_swapTwo_119 : decode cX0_swapTwo 119 = .ok (.invokevirtual 49, 3) := by decide +kernel
theorem dX0_swapTwo_122 : decode cX0_swapTwo 122 = .ok (.invokevirtual 52, 3) := by decide +kernel
theorem dX0_swapTwo_125 : decode cX0_swapTwo 125 = .ok (.iinc 2 1, 3) := by decide +kernel
theorem dX0_swapTwo_128 : decode cX0_swapTwo 128 = .ok (.goto (-91), 3) := by decide +kernel
theorem dX0_swapTwo_131 : decode cX0_swapTwo 131 = .ok (.iinc 1 1, 3) := by decide +kernel
theorem dX0_swapTwo_134 : decode cX0_swapTwo 134 = .ok (.goto (-112), 3) := by decide +kernel
theorem dX0_swapTwo_137 : decode cX0_swapTwo 137 = .ok (.return_, 1) := by decide +kernel
def L_X0_swapTwo_37 (c_t_now_houses : Int32) (c_t_now_comers : Int32) (c_t_now_evening : Int32) (r_t_now_comes : (Nat → Int32)) (r_t_now_goes : (Nat → Int32)) (r_t_now_kindOf : (Nat → Int32)) (r_t_now_likings : (Nat → Int32)) (r_t_now_lists : (Nat → Int32)) (y4 : Int32) : Nat → Int32 → Int32 → Int32 → Int32 → Int32 → Int32 → Int32 → Int32 → Int32 → (Nat → Int32) → (Nat → Int32) → (Nat → Int32) → (Nat → Int32) → (Nat → Int32) → Int32 → Int32 → (Nat → Int32) → (Nat → Int32) → Option (Int32 × Int32 × Int32 × Int32 × Int32 × Int32 × Int32 × Int32 × (Nat → Int32) × (Nat → Int32) × (Nat → Int32) × (Nat → Int32) × (Nat → Int32) × Int32 × Int32 × (Nat → Int32) × (Nat → Int32))
  | 0, _, _, _, _, _, _, _, _, _, _, _, _, _, _, _, _, _, _ => none
  | n + 1, y22, y23, y24, y25, y26, y27, y28, y29, y30, y31, y32, y33, y34, y35, y36, y37, y38, y39 =>
    if c_t_now_comers ≤ y22 then
      (some ((y23, y24, y25, y26, y27, y28, y29, y30, y31, y32, y33, y34, y35, y36, y37, y38, y39)))
    else
      (if inb y4 6 then
        (if inb y22 6 then
          (if (r_t_now_goes (ix y4)) = (r_t_now_goes (ix y22)) then
            (L_X0_swapTwo_37 c_t_now_houses c_t_now_comers c_t_now_evening r_t_now_comes r_t_now_goes r_t_now_kindOf r_t_now_likings r_t_now_lists y4 n (y22 + 1) y23 y24 y25 y26 y27 y28 y29 y30 y31 y32 y33 y34 y35 y36 y37 y38 y39)
          else
            ((f_X10_restart y25 y26 y27 y28 y29 y30 y31 y32 y33 y34 y35 c_t_now_houses c_t_now_comers c_t_now_evening r_t_now_comes r_t_now_goes r_t_now_kindOf r_t_now_likings r_t_now_lists).bind (fun (v40 : Int32 × Int32 × Int32 × Int32 × Int32 × Int32 × (Nat → Int32) × (Nat → Int32) × (Nat → Int32) × (Nat → Int32) × (Nat → Int32)) =>
              if inb y22 6 then
                (if inb y4 6 then
                  (if inb y4 6 then
                    (if inb y22 6 then
                      ((f_X10_dinnersIn v40.1 v40.2.1 v40.2.2.1 v40.2.2.2.1 v40.2.2.2.2.1 v40.2.2.2.2.2.1 v40.2.2.2.2.2.2.1 (upd (upd v40.2.2.2.2.2.2.2.1 (ix y4) (r_t_now_goes (ix y22))) (ix y22) (r_t_now_goes (ix y4))) v40.2.2.2.2.2.2.2.2.1 v40.2.2.2.2.2.2.2.2.2.1 v40.2.2.2.2.2.2.2.2.2.2 y36 y37 y38 y39 1).bind (fun (v41 : Int32 × Int32 × Int32 × Int32 × Int32 × (Nat → Int32) × Int32 × Int32 × (Nat → Int32) × (Nat → Int32)) =>
                        (f_X0_weigh y23 y24 ((10 * y4) + y22) v41.1).bind (fun (v42 : Int32 × Int32) =>
                          L_X0_swapTwo_37 c_t_now_houses c_t_now_comers c_t_now_evening r_t_now_comes r_t_now_goes r_t_now_kindOf r_t_now_likings r_t_now_lists y4 n (y22 + 1) v42.1 v42.2 v41.2.1 v41.2.2.1 v41.2.2.2.1 v40.2.2.2.1 v40.2.2.2.2.1 v41.2.2.2.2.1 v40.2.2.2.2.2.2.1 (upd (upd v40.2.2.2.2.2.2.2.1 (ix y4) (r_t_now_goes (ix y22))) (ix y22) (r_t_now_goes (ix y4))) v40.2.2.2.2.2.2.2.2.1 v41.2.2.2.2.2.1 v40.2.2.2.2.2.2.2.2.2.2 v41.2.2.2.2.2.2.1 v41.2.2.2.2.2.2.2.1 v41.2.2.2.2.2.2.2.2.1 v41.2.2.2.2.2.2.2.2.2)))
                    else none)
                  else none)
                else none)
              else none)))
        else none)
      else none)
def L_X0_swapTwo_22 (c_t_now_houses : Int32) (c_t_now_comers : Int32) (c_t_now_evening : Int32) (r_t_now_comes : (Nat → Int32)) (r_t_now_goes : (Nat → Int32)) (r_t_now_kindOf : (Nat → Int32)) (r_t_now_likings : (Nat → Int32)) (r_t_now_lists : (Nat → Int32)) : Nat → Int32 → Int32 → Int32 → Int32 → Int32 → Int32 → Int32 → Int32 → Int32 → (Nat → Int32) → (Nat → Int32) → (Nat → Int32) → (Nat → Int32) → (Nat → Int32) → Int32 → Int32 → (Nat → Int32) → (Nat → Int32) → Option (Int32 × Int32 × Int32 × Int32 × Int32 × Int32 × Int32 × Int32 × (Nat → Int32) × (Nat → Int32) × (Nat → Int32) × (Nat → Int32) × (Nat → Int32) × Int32 × Int32 × (Nat → Int32) × (Nat → Int32))
  | 0, _, _, _, _, _, _, _, _, _, _, _, _, _, _, _, _, _, _ => none
  | n + 1, y4, y5, y6, y7, y8, y9, y10, y11, y12, y13, y14, y15, y16, y17, y18, y19, y20, y21 =>
    if c_t_now_comers ≤ y4 then
      (some ((y5, y6, y7, y8, y9, y10, y11, y12, y13, y14, y15, y16, y17, y18, y19, y20, y21)))
    else
      ((L_X0_swapTwo_37 c_t_now_houses c_t_now_comers c_t_now_evening r_t_now_comes r_t_now_goes r_t_now_kindOf r_t_now_likings r_t_now_lists y4 400 (y4 + 1) y5 y6 y7 y8 y9 y10 y11 y12 y13 y14 y15 y16 y17 y18 y19 y20 y21).bind (fun (v44 : Int32 × Int32 × Int32 × Int32 × Int32 × Int32 × Int32 × Int32 × (Nat → Int32) × (Nat → Int32) × (Nat → Int32) × (Nat → Int32) × (Nat → Int32) × Int32 × Int32 × (Nat → Int32) × (Nat → Int32)) =>
        L_X0_swapTwo_22 c_t_now_houses c_t_now_comers c_t_now_evening r_t_now_comes r_t_now_goes r_t_now_kindOf r_t_now_likings r_t_now_lists n (y4 + 1) v44.1 v44.2.1 v44.2.2.1 v44.2.2.2.1 v44.2.2.2.2.1 v44.2.2.2.2.2.1 v44.2.2.2.2.2.2.1 v44.2.2.2.2.2.2.2.1 v44.2.2.2.2.2.2.2.2.1 v44.2.2.2.2.2.2.2.2.2.1 v44.2.2.2.2.2.2.2.2.2.2.1 v44.2.2.2.2.2.2.2.2.2.2.2.1 v44.2.2.2.2.2.2.2.2.2.2.2.2.1 v44.2.2.2.2.2.2.2.2.2.2.2.2.2.1 v44.2.2.2.2.2.2.2.2.2.2.2.2.2.2.1 v44.2.2.2.2.2.2.2.2.2.2.2.2.2.2.2.1 v44.2.2.2.2.2.2.2.2.2.2.2.2.2.2.2.2))
def f_X0_swapTwo (c_t_plan : Int32) (c_t_dinners : Int32) (c_t_now_houses : Int32) (c_t_now_comers : Int32) (c_t_now_evening : Int32) (r_t_now_comes : (Nat → Int32)) (r_t_now_goes : (Nat → Int32)) (r_t_now_kindOf : (Nat → Int32)) (r_t_now_likings : (Nat → Int32)) (r_t_now_lists : (Nat → Int32)) (c_t_trial_evenings : Int32) (c_t_trial_waited : Int32) (c_t_trial_firstFast : Int32) (c_t_trial_county_houses : Int32) (c_t_trial_county_comers : Int32) (c_t_trial_county_evening : Int32) (r_t_trial_county_comes : (Nat → Int32)) (r_t_trial_county_goes : (Nat → Int32)) (r_t_trial_county_kindOf : (Nat → Int32)) (r_t_trial_county_likings : (Nat → Int32)) (r_t_trial_county_lists : (Nat → Int32)) (c_t_trial_evening_begun : Int32) (c_t_trial_evening_waited : Int32) (r_t_trial_evening_hours : (Nat → Int32)) (r_t_trial_evening_openers : (Nat → Int32)) : Option (Int32 × Int32 × Int32 × Int32 × Int32 × Int32 × Int32 × Int32 × (Nat → Int32) × (Nat → Int32) × (Nat → Int32) × (Nat → Int32) × (Nat → Int32) × Int32 × Int32 × (Nat → Int32) × (Nat → Int32)) :=
  (f_X10_restart c_t_trial_evenings c_t_trial_waited c_t_trial_firstFast c_t_trial_county_houses c_t_trial_county_comers c_t_trial_county_evening r_t_trial_county_comes r_t_trial_county_goes r_t_trial_county_kindOf r_t_trial_county_likings r_t_trial_county_lists c_t_now_houses c_t_now_comers c_t_now_evening r_t_now_comes r_t_now_goes r_t_now_kindOf r_t_now_likings r_t_now_lists).bind (fun (v1 : Int32 × Int32 × Int32 × Int32 × Int32 × Int32 × (Nat → Int32) × (Nat → Int32) × (Nat → Int32) × (Nat → Int32) × (Nat → Int32)) =>
    (f_X10_dinnersIn v1.1 v1.2.1 v1.2.2.1 v1.2.2.2.1 v1.2.2.2.2.1 v1.2.2.2.2.2.1 v1.2.2.2.2.2.2.1 v1.2.2.2.2.2.2.2.1 v1.2.2.2.2.2.2.2.2.1 v1.2.2.2.2.2.2.2.2.2.1 v1.2.2.2.2.2.2.2.2.2.2 c_t_trial_evening_begun c_t_trial_evening_waited r_t_trial_evening_hours r_t_trial_evening_openers 1).bind (fun (v2 : Int32 × Int32 × Int32 × Int32 × Int32 × (Nat → Int32) × Int32 × Int32 × (Nat → Int32) × (Nat → Int32)) =>
      (f_X0_beginAt c_t_plan c_t_dinners v2.1).bind (fun (v3 : Int32 × Int32) =>
        (L_X0_swapTwo_22 c_t_now_houses c_t_now_comers c_t_now_evening r_t_now_comes r_t_now_goes r_t_now_kindOf r_t_now_likings r_t_now_lists 400 0 v3.1 v3.2 v2.2.1 v2.2.2.1 v2.2.2.2.1 v1.2.2.2.1 v1.2.2.2.2.1 v2.2.2.2.2.1 v1.2.2.2.2.2.2.1 v1.2.2.2.2.2.2.2.1 v1.2.2.2.2.2.2.2.2.1 v2.2.2.2.2.2.1 v1.2.2.2.2.2.2.2.2.2.2 v2.2.2.2.2.2.2.1 v2.2.2.2.2.2.2.2.1 v2.2.2.2.2.2.2.2.2.1 v2.2.2.2.2.2.2.2.2.2).bind (fun (v46 : Int32 × Int32 × Int32 × Int32 × Int32 × Int32 × Int32 × Int32 × (Nat → Int32) × (Nat → Int32) × (Nat → Int32) × (Nat → Int32) × (Nat → Int32) × Int32 × Int32 × (Nat → Int32) × (Nat → Int32)) =>
          some ((v46.1, v46.2.1, v46.2.2.1, v46.2.2.2.1, v46.2.2.2.2.1, v46.2.2.2.2.2.1, v46.2.2.2.2.2.2.1, v46.2.2.2.2.2.2.2.1, v46.2.2.2.2.2.2.2.2.1, v46.2.2.2.2.2.2.2.2.2.1, v46.2.2.2.2.2.2.2.2.2.2.1, v46.2.2.2.2.2.2.2.2.2.2.2.1, v46.2.2.2.2.2.2.2.2.2.2.2.2.1, v46.2.2.2.2.2.2.2.2.2.2.2.2.2.1, v46.2.2.2.2.2.2.2.2.2.2.2.2.2.2.1, v46.2.2.2.2.2.2.2.2.2.2.2.2.2.2.2.1, v46.2.2.2.2.2.2.2.2.2.2.2.2.2.2.2.2))))))
abbrev rm_X0_swapTwo : Room := { frames := 5, cells := 0, slots := 0, locals := 122 }
set_option maxHeartbeats 4000000 in
set_option maxRecDepth 100000 in
theorem lp_X0_swapTwo_37 {E : Ev} {X : Cx} {a_t a_t_now a_t_now_comes a_t_now_goes a_t_now_kindOf a_t_now_likings a_t_now_lists a_t_trial a_t_trial_county a_t_trial_county_comes a_t_trial_county_goes a_t_trial_county_kindOf a_t_trial_county_likings a_t_trial_county_lists a_t_trial_evening a_t_trial_evening_hours a_t_trial_evening_openers : Nat} (c_t_now_houses : Int32) (c_t_now_comers : Int32) (c_t_now_evening : Int32) (r_t_now_comes : (Nat → Int32)) (r_t_now_goes : (Nat → Int32)) (r_t_now_kindOf : (Nat → Int32)) (r_t_now_likings : (Nat → Int32)) (r_t_now_lists : (Nat → Int32)) (y4 : Int32) (C : CX E X cX0_swapTwo RX0 4 rm_X0_swapTwo) : ∀ (n : Nat) (y22 : Int32) (y23 : Int32) (y24 : Int32) (y25 : Int32) (y26 : Int32) (y27 : Int32) (y28 : Int32) (y29 : Int32) (y30 : Int32) (y31 : (Nat → Int32)) (y32 : (Nat → Int32)) (y33 : (Nat → Int32)) (y34 : (Nat → Int32)) (y35 : (Nat → Int32)) (y36 : Int32) (y37 : Int32) (y38 : (Nat → Int32)) (y39 : (Nat → Int32)) (v : Int32 × Int32 × Int32 × Int32 × Int32 × Int32 × Int32 × Int32 × (Nat → Int32) × (Nat → Int32) × (Nat → Int32) × (Nat → Int32) × (Nat → Int32) × Int32 × Int32 × (Nat → Int32) × (Nat → Int32)), L_X0_swapTwo_37 c_t_now_houses c_t_now_comers c_t_now_evening r_t_now_comes r_t_now_goes r_t_now_kindOf r_t_now_likings r_t_now_lists y4 n y22 y23 y24 y25 y26 y27 y28 y29 y30 y31 y32 y33 y34 y35 y36 y37 y38 y39 = some v → G E X 0 0 [oX0 a_t a_t_now a_t_trial v.1 v.2.1, oX1 a_t_now c_t_now_houses c_t_now_comers c_t_now_evening a_t_now_lists a_t_now_kindOf a_t_now_goes a_t_now_comes a_t_now_likings, aI E a_t_now_comes 6 r_t_now_comes, aI E a_t_now_goes 6 r_t_now_goes, aI E a_t_now_kindOf 6 r_t_now_kindOf, aI E a_t_now_likings 24 r_t_now_likings, aI E a_t_now_lists 4 r_t_now_lists, oX10 a_t_trial a_t_now a_t_trial_county a_t_trial_evening v.2.2.1 v.2.2.2.1 v.2.2.2.2.1, oX1 a_t_trial_county v.2.2.2.2.2.1 v.2.2.2.2.2.2.1 v.2.2.2.2.2.2.2.1 a_t_trial_county_lists a_t_trial_county_kindOf a_t_trial_county_goes a_t_trial_county_comes a_t_trial_county_likings, aI E a_t_trial_county_comes 6 v.2.2.2.2.2.2.2.2.1, aI E a_t_trial_county_goes 6 v.2.2.2.2.2.2.2.2.2.1, aI E a_t_trial_county_kindOf 6 v.2.2.2.2.2.2.2.2.2.2.1, aI E a_t_trial_county_likings 24 v.2.2.2.2.2.2.2.2.2.2.2.1, aI E a_t_trial_county_lists 4 v.2.2.2.2.2.2.2.2.2.2.2.2.1, oX2 a_t_trial_evening a_t_trial_evening_hours a_t_trial_evening_openers v.2.2.2.2.2.2.2.2.2.2.2.2.2.1 v.2.2.2.2.2.2.2.2.2.2.2.2.2.2.1, aI E a_t_trial_evening_hours 4 v.2.2.2.2.2.2.2.2.2.2.2.2.2.2.2.1, aI E a_t_trial_evening_openers 4 v.2.2.2.2.2.2.2.2.2.2.2.2.2.2.2.2] [(0, .ref a_t), (1, .int y4)] 131 [] → G E X 0 0 [oX0 a_t a_t_now a_t_trial y23 y24, oX1 a_t_now c_t_now_houses c_t_now_comers c_t_now_evening a_t_now_lists a_t_now_kindOf a_t_now_goes a_t_now_comes a_t_now_likings, aI E a_t_now_comes 6 r_t_now_comes, aI E a_t_now_goes 6 r_t_now_goes, aI E a_t_now_kindOf 6 r_t_now_kindOf, aI E a_t_now_likings 24 r_t_now_likings, aI E a_t_now_lists 4 r_t_now_lists, oX10 a_t_trial a_t_now a_t_trial_county a_t_trial_evening y25 y26 y27, oX1 a_t_trial_county y28 y29 y30 a_t_trial_county_lists a_t_trial_county_kindOf a_t_trial_county_goes a_t_trial_county_comes a_t_trial_county_likings, aI E a_t_trial_county_comes 6 y31, aI E a_t_trial_county_goes 6 y32, aI E a_t_trial_county_kindOf 6 y33, aI E a_t_trial_county_likings 24 y34, aI E a_t_trial_county_lists 4 y35, oX2 a_t_trial_evening a_t_trial_evening_hours a_t_trial_evening_openers y36 y37, aI E a_t_trial_evening_hours 4 y38, aI E a_t_trial_evening_openers 4 y39] [(0, .ref a_t), (1, .int y4), (2, .int y22)] 37 [] := by
  intro n
  induction n with
  | zero => intro _ _ _ _ _ _ _ _ _ _ _ _ _ _ _ _ _ _ _ h; cases h
  | succ n ih =>
    intro y22 y23 y24 y25 y26 y27 y28 y29 y30 y31 y32 y33 y34 y35 y36 y37 y38 y39 v h kk
    rw [L_X0_swapTwo_37] at h
    refine g_iload_n (pc := 37) C dX0_swapTwo_37 2 rfl ?_
    refine g_aload_n (pc := 38) C dX0_swapTwo_38 0 rfl ?_
    refine g_get (pc := 39) 0 C fl_X0_18 rfl rfl dX0_swapTwo_39 ?_
    refine g_get (pc := 42) 1 C fl_X0_56 rfl rfl dX0_swapTwo_42 ?_
    refine b_icmp_ge (pc := 45) 131 C dX0_swapTwo_45 (by decide) h (fun _ h => ?_) (fun _ h => ?_)
    · obtain rfl := Option.some.inj h
      refine g_lv [0, 1] (lv' := [(0, .ref a_t), (1, .int y4)]) rfl ?_
      exact kk
    · refine g_aload_n (pc := 48) C dX0_swapTwo_48 0 rfl ?_
      refine g_get (pc := 49) 0 C fl_X0_18 rfl rfl dX0_swapTwo_49 ?_
      refine g_get (pc := 52) 1 C fl_X0_45 rfl rfl dX0_swapTwo_52 ?_
      refine g_iload_n (pc := 55) C dX0_swapTwo_55 1 rfl ?_
      refine b_iald (pc := 56) 3 C rfl dX0_swapTwo_56 h (fun _ h => ?_)
      refine g_aload_n (pc := 57) C dX0_swapTwo_57 0 rfl ?_
      refine g_get (pc := 58) 0 C fl_X0_18 rfl rfl dX0_swapTwo_58 ?_
      refine g_get (pc := 61) 1 C fl_X0_45 rfl rfl dX0_swapTwo_61 ?_
      refine g_iload_n (pc := 64) C dX0_swapTwo_64 2 rfl ?_
      refine b_iald (pc := 65) 3 C rfl dX0_swapTwo_65 h (fun _ h => ?_)
      refine b_icmp_eq (pc := 66) 125 C dX0_swapTwo_66 (by decide) h (fun _ h => ?_) (fun _ h => ?_)
      · refine g_iinc (pc := 125) (v := y22 + 1) (lv' := [(2, .int (y22 + 1)), (0, .ref a_t), (1, .int y4)]) C dX0_swapTwo_125 2 rfl rfl (by decide) rfl ?_
        refine g_goto (pc := 128) 37 C dX0_swapTwo_128 (by decide) ?_
        refine g_lv [1, 2, 0] (lv' := [(0, .ref a_t), (1, .int y4), (2, .int (y22 + 1))]) rfl ?_
        exact ih _ _ _ _ _ _ _ _ _ _ _ _ _ _ _ _ _ _ _ h kk
      · refine g_aload_n (pc := 69) C dX0_swapTwo_69 0 rfl ?_
        refine g_get (pc := 70) 0 C fl_X0_22 rfl rfl dX0_swapTwo_70 ?_
        obtain ⟨v40, hv40, h⟩ := o_bnd h
        refine g_callV (pc := 73) (ws' := [oX0 a_t a_t_now a_t_trial y23 y24, oX1 a_t_now c_t_now_houses c_t_now_comers c_t_now_evening a_t_now_lists a_t_now_kindOf a_t_now_goes a_t_now_comes a_t_now_likings, aI E a_t_now_comes 6 r_t_now_comes, aI E a_t_now_goes 6 r_t_now_goes, aI E a_t_now_kindOf 6 r_t_now_kindOf, aI E a_t_now_likings 24 r_t_now_likings, aI E a_t_now_lists 4 r_t_now_lists, oX10 a_t_trial a_t_now a_t_trial_county a_t_trial_evening v40.1 v40.2.1 v40.2.2.1, oX1 a_t_trial_county v40.2.2.2.1 v40.2.2.2.2.1 v40.2.2.2.2.2.1 a_t_trial_county_lists a_t_trial_county_kindOf a_t_trial_county_goes a_t_trial_county_comes a_t_trial_county_likings, aI E a_t_trial_county_comes 6 v40.2.2.2.2.2.2.1, aI E a_t_trial_county_goes 6 v40.2.2.2.2.2.2.2.1, aI E a_t_trial_county_kindOf 6 v40.2.2.2.2.2.2.2.2.1, aI E a_t_trial_county_likings 24 v40.2.2.2.2.2.2.2.2.2.1, aI E a_t_trial_county_lists 4 v40.2.2.2.2.2.2.2.2.2.2, oX2 a_t_trial_evening a_t_trial_evening_hours a_t_trial_evening_openers y36 y37, aI E a_t_trial_evening_hours 4 y38, aI E a_t_trial_evening_openers 4 y39]) (st1 := [.ref a_t_trial_county]) C mv_X0_39 (k_X10_restart E a_t_trial a_t_trial_county a_t_trial_county_comes a_t_trial_county_goes a_t_trial_county_kindOf a_t_trial_county_likings a_t_trial_county_lists a_t_now a_t_now_comes a_t_now_goes a_t_now_kindOf a_t_now_likings a_t_now_lists a_t_trial_evening y25 y26 y27 y28 y29 y30 y31 y32 y33 y34 y35 c_t_now_houses c_t_now_comers c_t_now_evening r_t_now_comes r_t_now_goes r_t_now_kindOf r_t_now_likings r_t_now_lists v40 hv40) [7, 8, 9, 10, 11, 12, 13, 1, 2, 3, 4, 5, 6] rfl rfl rfl rfl 0 rfl rfl ⟨by decide, by decide⟩ ⟨rfl, rfl⟩ ⟨Nat.zero_le _, Nat.zero_le _⟩ rfl rfl rfl (Nat.le_of_ble_eq_true rfl) dX0_swapTwo_73 ?_
        refine g_astore_n (pc := 76) (lv' := [(3, .ref a_t_trial_county), (0, .ref a_t), (1, .int y4), (2, .int y22)]) C dX0_swapTwo_76 (by decide) rfl ?_
        refine g_aload_n (pc := 77) C dX0_swapTwo_77 0 rfl ?_
        refine g_get (pc := 78) 8 C fl_X0_45 rfl rfl dX0_swapTwo_78 ?_
        refine g_iload_n (pc := 81) C dX0_swapTwo_81 2 rfl ?_
        refine g_aload_n (pc := 82) C dX0_swapTwo_82 1 rfl ?_
        refine g_get (pc := 83) 0 C fl_X0_18 rfl rfl dX0_swapTwo_83 ?_
        refine g_get (pc := 86) 1 C fl_X0_45 rfl rfl dX0_swapTwo_86 ?_
        refine g_iload_n (pc := 89) C dX0_swapTwo_89 3 rfl ?_
        refine b_iald (pc := 90) 3 C rfl dX0_swapTwo_90 h (fun _ h => ?_)
        refine b_iast (pc := 91) (ws' := [oX0 a_t a_t_now a_t_trial y23 y24, oX1 a_t_now c_t_now_houses c_t_now_comers c_t_now_evening a_t_now_lists a_t_now_kindOf a_t_now_goes a_t_now_comes a_t_now_likings, aI E a_t_now_comes 6 r_t_now_comes, aI E a_t_now_goes 6 r_t_now_goes, aI E a_t_now_kindOf 6 r_t_now_kindOf, aI E a_t_now_likings 24 r_t_now_likings, aI E a_t_now_lists 4 r_t_now_lists, oX10 a_t_trial a_t_now a_t_trial_county a_t_trial_evening v40.1 v40.2.1 v40.2.2.1, oX1 a_t_trial_county v40.2.2.2.1 v40.2.2.2.2.1 v40.2.2.2.2.2.1 a_t_trial_county_lists a_t_trial_county_kindOf a_t_trial_county_goes a_t_trial_county_comes a_t_trial_county_likings, aI E a_t_trial_county_comes 6 v40.2.2.2.2.2.2.1, aI E a_t_trial_county_goes 6 (upd v40.2.2.2.2.2.2.2.1 (ix y4) (r_t_now_goes (ix y22))), aI E a_t_trial_county_kindOf 6 v40.2.2.2.2.2.2.2.2.1, aI E a_t_trial_county_likings 24 v40.2.2.2.2.2.2.2.2.2.1, aI E a_t_trial_county_lists 4 v40.2.2.2.2.2.2.2.2.2.2, oX2 a_t_trial_evening a_t_trial_evening_hours a_t_trial_evening_openers y36 y37, aI E a_t_trial_evening_hours 4 y38, aI E a_t_trial_evening_openers 4 y39]) 10 C rfl rfl dX0_swapTwo_91 h (fun _ h => ?_)
        refine g_aload_n (pc := 92) C dX0_swapTwo_92 0 rfl ?_
        refine g_get (pc := 93) 8 C fl_X0_45 rfl rfl dX0_swapTwo_93 ?_
        refine g_iload_n (pc := 96) C dX0_swapTwo_96 3 rfl ?_
        refine g_aload_n (pc := 97) C dX0_swapTwo_97 1 rfl ?_
        refine g_get (pc := 98) 0 C fl_X0_18 rfl rfl dX0_swapTwo_98 ?_
        refine g_get (pc := 101) 1 C fl_X0_45 rfl rfl dX0_swapTwo_101 ?_
        refine g_iload_n (pc := 104) C dX0_swapTwo_104 2 rfl ?_
        refine b_iald (pc := 105) 3 C rfl dX0_swapTwo_105 h (fun _ h => ?_)
        refine b_iast (pc := 106) (ws' := [oX0 a_t a_t_now a_t_trial y23 y24, oX1 a_t_now c_t_now_houses c_t_now_comers c_t_now_evening a_t_now_lists a_t_now_kindOf a_t_now_goes a_t_now_comes a_t_now_likings, aI E a_t_now_comes 6 r_t_now_comes, aI E a_t_now_goes 6 r_t_now_goes, aI E a_t_now_kindOf 6 r_t_now_kindOf, aI E a_t_now_likings 24 r_t_now_likings, aI E a_t_now_lists 4 r_t_now_lists, oX10 a_t_trial a_t_now a_t_trial_county a_t_trial_evening v40.1 v40.2.1 v40.2.2.1, oX1 a_t_trial_county v40.2.2.2.1 v40.2.2.2.2.1 v40.2.2.2.2.2.1 a_t_trial_county_lists a_t_trial_county_kindOf a_t_trial_county_goes a_t_trial_county_comes a_t_trial_county_likings, aI E a_t_trial_county_comes 6 v40.2.2.2.2.2.2.1, aI E a_t_trial_county_goes 6 (upd (upd v40.2.2.2.2.2.2.2.1 (ix y4) (r_t_now_goes (ix y22))) (ix y22) (r_t_now_goes (ix y4))), aI E a_t_trial_county_kindOf 6 v40.2.2.2.2.2.2.2.2.1, aI E a_t_trial_county_likings 24 v40.2.2.2.2.2.2.2.2.2.1, aI E a_t_trial_county_lists 4 v40.2.2.2.2.2.2.2.2.2.2, oX2 a_t_trial_evening a_t_trial_evening_hours a_t_trial_evening_openers y36 y37, aI E a_t_trial_evening_hours 4 y38, aI E a_t_trial_evening_openers 4 y39]) 10 C rfl rfl dX0_swapTwo_106 h (fun _ h => ?_)
        refine g_aload_n (pc := 107) C dX0_swapTwo_107 1 rfl ?_
        refine g_bipush (pc := 108) (v := 10) C dX0_swapTwo_108 (by decide) ?_
        refine g_iload_n (pc := 110) C dX0_swapTwo_110 2 rfl ?_
        refine g_imul (pc := 111) C dX0_swapTwo_111 ?_
        refine g_iload_n (pc := 112) C dX0_swapTwo_112 3 rfl ?_
        refine g_iadd (pc := 113) C dX0_swapTwo_113 ?_
        refine g_aload_n (pc := 114) C dX0_swapTwo_114 1 rfl ?_
        refine g_get (pc := 115) 0 C fl_X0_22 rfl rfl dX0_swapTwo_115 ?_
        refine g_iconst (pc := 118) (v := 1) C dX0_swapTwo_118 (by decide) ?_
        obtain ⟨v41, hv41, h⟩ := o_bnd h
        refine g_callV (pc := 119) (ws' := [oX0 a_t a_t_now a_t_trial y23 y24, oX1 a_t_now c_t_now_houses c_t_now_comers c_t_now_evening a_t_now_lists a_t_now_kindOf a_t_now_goes a_t_now_comes a_t_now_likings, aI E a_t_now_comes 6 r_t_now_comes, aI E a_t_now_goes 6 r_t_now_goes, aI E a_t_now_kindOf 6 r_t_now_kindOf, aI E a_t_now_likings 24 r_t_now_likings, aI E a_t_now_lists 4 r_t_now_lists, oX10 a_t_trial a_t_now a_t_trial_county a_t_trial_evening v41.2.1 v41.2.2.1 v41.2.2.2.1, oX1 a_t_trial_county v40.2.2.2.1 v40.2.2.2.2.1 v41.2.2.2.2.1 a_t_trial_county_lists a_t_trial_county_kindOf a_t_trial_county_goes a_t_trial_county_comes a_t_trial_county_likings, aI E a_t_trial_county_comes 6 v40.2.2.2.2.2.2.1, aI E a_t_trial_county_goes 6 (upd (upd v40.2.2.2.2.2.2.2.1 (ix y4) (r_t_now_goes (ix y22))) (ix y22) (r_t_now_goes (ix y4))), aI E a_t_trial_county_kindOf 6 v40.2.2.2.2.2.2.2.2.1, aI E a_t_trial_county_likings 24 v41.2.2.2.2.2.1, aI E a_t_trial_county_lists 4 v40.2.2.2.2.2.2.2.2.2.2, oX2 a_t_trial_evening a_t_trial_evening_hours a_t_trial_evening_openers v41.2.2.2.2.2.2.1 v41.2.2.2.2.2.2.2.1, aI E a_t_trial_evening_hours 4 v41.2.2.2.2.2.2.2.2.1, aI E a_t_trial_evening_openers 4 v41.2.2.2.2.2.2.2.2.2]) (st1 := [.int v41.1, .int ((10 * y4) + y22), .ref a_t]) C mv_X0_49 (k_X10_dinnersIn E a_t_trial a_t_trial_county a_t_trial_county_comes a_t_trial_county_goes a_t_trial_county_kindOf a_t_trial_county_likings a_t_trial_county_lists a_t_trial_evening a_t_trial_evening_hours a_t_trial_evening_openers a_t_now v40.1 v40.2.1 v40.2.2.1 v40.2.2.2.1 v40.2.2.2.2.1 v40.2.2.2.2.2.1 v40.2.2.2.2.2.2.1 (upd (upd v40.2.2.2.2.2.2.2.1 (ix y4) (r_t_now_goes (ix y22))) (ix y22) (r_t_now_goes (ix y4))) v40.2.2.2.2.2.2.2.2.1 v40.2.2.2.2.2.2.2.2.2.1 v40.2.2.2.2.2.2.2.2.2.2 y36 y37 y38 y39 1 v41 hv41) [7, 8, 9, 10, 11, 12, 13, 14, 15, 16] rfl rfl rfl rfl 0 rfl rfl ⟨by decide, by decide⟩ ⟨rfl, rfl⟩ ⟨Nat.zero_le _, Nat.zero_le _⟩ rfl rfl rfl (Nat.le_of_ble_eq_true rfl) dX0_swapTwo_119 ?_
        obtain ⟨v42, hv42, h⟩ := o_bnd h
        refine g_callV (pc := 122) (ws' := [oX0 a_t a_t_now a_t_trial v42.1 v42.2, oX1 a_t_now c_t_now_houses c_t_now_comers c_t_now_evening a_t_now_lists a_t_now_kindOf a_t_now_goes a_t_now_comes a_t_now_likings, aI E a_t_now_comes 6 r_t_now_comes, aI E a_t_now_goes 6 r_t_now_goes, aI E a_t_now_kindOf 6 r_t_now_kindOf, aI E a_t_now_likings 24 r_t_now_likings, aI E a_t_now_lists 4 r_t_now_lists, oX10 a_t_trial a_t_now a_t_trial_county a_t_trial_evening v41.2.1 v41.2.2.1 v41.2.2.2.1, oX1 a_t_trial_county v40.2.2.2.1 v40.2.2.2.2.1 v41.2.2.2.2.1 a_t_trial_county_lists a_t_trial_county_kindOf a_t_trial_county_goes a_t_trial_county_comes a_t_trial_county_likings, aI E a_t_trial_county_comes 6 v40.2.2.2.2.2.2.1, aI E a_t_trial_county_goes 6 (upd (upd v40.2.2.2.2.2.2.2.1 (ix y4) (r_t_now_goes (ix y22))) (ix y22) (r_t_now_goes (ix y4))), aI E a_t_trial_county_kindOf 6 v40.2.2.2.2.2.2.2.2.1, aI E a_t_trial_county_likings 24 v41.2.2.2.2.2.1, aI E a_t_trial_county_lists 4 v40.2.2.2.2.2.2.2.2.2.2, oX2 a_t_trial_evening a_t_trial_evening_hours a_t_trial_evening_openers v41.2.2.2.2.2.2.1 v41.2.2.2.2.2.2.2.1, aI E a_t_trial_evening_hours 4 v41.2.2.2.2.2.2.2.2.1, aI E a_t_trial_evening_openers 4 v41.2.2.2.2.2.2.2.2.2]) (st1 := []) C mv_X0_52 (k_X0_weigh E a_t a_t_now a_t_trial y23 y24 ((10 * y4) + y22) v41.1 v42 hv42) [0] rfl rfl rfl rfl 0 rfl rfl ⟨by decide, by decide⟩ ⟨rfl, rfl⟩ ⟨Nat.zero_le _, Nat.zero_le _⟩ rfl rfl rfl (Nat.le_of_ble_eq_true rfl) dX0_swapTwo_122 ?_
        refine g_iinc (pc := 125) (v := y22 + 1) (lv' := [(2, .int (y22 + 1)), (3, .ref a_t_trial_county), (0, .ref a_t), (1, .int y4)]) C dX0_swapTwo_125 3 rfl rfl (by decide) rfl ?_
        refine g_goto (pc := 128) 37 C dX0_swapTwo_128 (by decide) ?_
        refine g_lv [2, 3, 0] (lv' := [(0, .ref a_t), (1, .int y4), (2, .int (y22 + 1))]) rfl ?_
        exact ih _ _ _ _ _ _ _ _ _ _ _ _ _ _ _ _ _ _ _ h kk
set_option maxHeartbeats 4000000 in
set_option maxRecDepth 100000 in
theorem lp_X0_swapTwo_22 {E : Ev} {X : Cx} {a_t a_t_now a_t_now_comes a_t_now_goes a_t_now_kindOf a_t_now_likings a_t_now_lists a_t_trial a_t_trial_county a_t_trial_county_comes a_t_trial_county_goes a_t_trial_county_kindOf a_t_trial_county_likings a_t_trial_county_lists a_t_trial_evening a_t_trial_evening_hours a_t_trial_evening_openers : Nat} (c_t_now_houses : Int32) (c_t_now_comers : Int32) (c_t_now_evening : Int32) (r_t_now_comes : (Nat → Int32)) (r_t_now_goes : (Nat → Int32)) (r_t_now_kindOf : (Nat → Int32)) (r_t_now_likings : (Nat → Int32)) (r_t_now_lists : (Nat → Int32)) (C : CX E X cX0_swapTwo RX0 4 rm_X0_swapTwo) : ∀ (n : Nat) (y4 : Int32) (y5 : Int32) (y6 : Int32) (y7 : Int32) (y8 : Int32) (y9 : Int32) (y10 : Int32) (y11 : Int32) (y12 : Int32) (y13 : (Nat → Int32)) (y14 : (Nat → Int32)) (y15 : (Nat → Int32)) (y16 : (Nat → Int32)) (y17 : (Nat → Int32)) (y18 : Int32) (y19 : Int32) (y20 : (Nat → Int32)) (y21 : (Nat → Int32)) (v : Int32 × Int32 × Int32 × Int32 × Int32 × Int32 × Int32 × Int32 × (Nat → Int32) × (Nat → Int32) × (Nat → Int32) × (Nat → Int32) × (Nat → Int32) × Int32 × Int32 × (Nat → Int32) × (Nat → Int32)), L_X0_swapTwo_22 c_t_now_houses c_t_now_comers c_t_now_evening r_t_now_comes r_t_now_goes r_t_now_kindOf r_t_now_likings r_t_now_lists n y4 y5 y6 y7 y8 y9 y10 y11 y12 y13 y14 y15 y16 y17 y18 y19 y20 y21 = some v → G E X 0 0 [oX0 a_t a_t_now a_t_trial v.1 v.2.1, oX1 a_t_now c_t_now_houses c_t_now_comers c_t_now_evening a_t_now_lists a_t_now_kindOf a_t_now_goes a_t_now_comes a_t_now_likings, aI E a_t_now_comes 6 r_t_now_comes, aI E a_t_now_goes 6 r_t_now_goes, aI E a_t_now_kindOf 6 r_t_now_kindOf, aI E a_t_now_likings 24 r_t_now_likings, aI E a_t_now_lists 4 r_t_now_lists, oX10 a_t_trial a_t_now a_t_trial_county a_t_trial_evening v.2.2.1 v.2.2.2.1 v.2.2.2.2.1, oX1 a_t_trial_county v.2.2.2.2.2.1 v.2.2.2.2.2.2.1 v.2.2.2.2.2.2.2.1 a_t_trial_county_lists a_t_trial_county_kindOf a_t_trial_county_goes a_t_trial_county_comes a_t_trial_county_likings, aI E a_t_trial_county_comes 6 v.2.2.2.2.2.2.2.2.1, aI E a_t_trial_county_goes 6 v.2.2.2.2.2.2.2.2.2.1, aI E a_t_trial_county_kindOf 6 v.2.2.2.2.2.2.2.2.2.2.1, aI E a_t_trial_county_likings 24 v.2.2.2.2.2.2.2.2.2.2.2.1, aI E a_t_trial_county_lists 4 v.2.2.2.2.2.2.2.2.2.2.2.2.1, oX2 a_t_trial_evening a_t_trial_evening_hours a_t_trial_evening_openers v.2.2.2.2.2.2.2.2.2.2.2.2.2.1 v.2.2.2.2.2.2.2.2.2.2.2.2.2.2.1, aI E a_t_trial_evening_hours 4 v.2.2.2.2.2.2.2.2.2.2.2.2.2.2.2.1, aI E a_t_trial_evening_openers 4 v.2.2.2.2.2.2.2.2.2.2.2.2.2.2.2.2] [] 137 [] → G E X 0 0 [oX0 a_t a_t_now a_t_trial y5 y6, oX1 a_t_now c_t_now_houses c_t_now_comers c_t_now_evening a_t_now_lists a_t_now_kindOf a_t_now_goes a_t_now_comes a_t_now_likings, aI E a_t_now_comes 6 r_t_now_comes, aI E a_t_now_goes 6 r_t_now_goes, aI E a_t_now_kindOf 6 r_t_now_kindOf, aI E a_t_now_likings 24 r_t_now_likings, aI E a_t_now_lists 4 r_t_now_lists, oX10 a_t_trial a_t_now a_t_trial_county a_t_trial_evening y7 y8 y9, oX1 a_t_trial_county y10 y11 y12 a_t_trial_county_lists a_t_trial_county_kindOf a_t_trial_county_goes a_t_trial_county_comes a_t_trial_county_likings, aI E a_t_trial_county_comes 6 y13, aI E a_t_trial_county_goes 6 y14, aI E a_t_trial_county_kindOf 6 y15, aI E a_t_trial_county_likings 24 y16, aI E a_t_trial_county_lists 4 y17, oX2 a_t_trial_evening a_t_trial_evening_hours a_t_trial_evening_openers y18 y19, aI E a_t_trial_evening_hours 4 y20, aI E a_t_trial_evening_openers 4 y21] [(0, .ref a_t), (1, .int y4)] 22 [] := by
  intro n
  induction n with
  | zero => intro _ _ _ _ _ _ _ _ _ _ _ _ _ _ _ _ _ _ _ h; cases h
  | succ n ih =>
    intro y4 y5 y6 y7 y8 y9 y10 y11 y12 y13 y14 y15 y16 y17 y18 y19 y20 y21 v h kk
    rw [L_X0_swapTwo_22] at h
    refine g_iload_n (pc := 22) C dX0_swapTwo_22 1 rfl ?_
    refine g_aload_n (pc := 23) C dX0_swapTwo_23 0 rfl ?_
    refine g_get (pc := 24) 0 C fl_X0_18 rfl rfl dX0_swapTwo_24 ?_
    refine g_get (pc := 27) 1 C fl_X0_56 rfl rfl dX0_swapTwo_27 ?_
    refine b_icmp_ge (pc := 30) 137 C dX0_swapTwo_30 (by decide) h (fun _ h => ?_) (fun _ h => ?_)
    · obtain rfl := Option.some.inj h
      refine g_lv [] (lv' := []) rfl ?_
      exact kk
    · refine g_iload_n (pc := 33) C dX0_swapTwo_33 1 rfl ?_
      refine g_iconst (pc := 34) (v := 1) C dX0_swapTwo_34 (by decide) ?_
      refine g_iadd (pc := 35) C dX0_swapTwo_35 ?_
      refine g_istore_n (pc := 36) (lv' := [(2, .int (y4 + 1)), (0, .ref a_t), (1, .int y4)]) C dX0_swapTwo_36 (by decide) rfl ?_
      obtain ⟨v44, hv44, h⟩ := o_bnd h
      refine g_lv [1, 2, 0] (lv' := [(0, .ref a_t), (1, .int y4), (2, .int (y4 + 1))]) rfl ?_
      refine lp_X0_swapTwo_37 c_t_now_houses c_t_now_comers c_t_now_evening r_t_now_comes r_t_now_goes r_t_now_kindOf r_t_now_likings r_t_now_lists y4 C 400 _ _ _ _ _ _ _ _ _ _ _ _ _ _ _ _ _ _ _ hv44 ?_
      refine g_iinc (pc := 131) (v := y4 + 1) (lv' := [(1, .int (y4 + 1)), (0, .ref a_t)]) C dX0_swapTwo_131 1 rfl rfl (by decide) rfl ?_
      refine g_goto (pc := 134) 22 C dX0_swapTwo_134 (by decide) ?_
      refine g_lv [1, 0] (lv' := [(0, .ref a_t), (1, .int (y4 + 1))]) rfl ?_
      exact ih _ _ _ _ _ _ _ _ _ _ _ _ _ _ _ _ _ _ _ h kk
set_option maxHeartbeats 4000000 in
set_option maxRecDepth 100000 in
theorem k_X0_swapTwo (E : Ev) (a_t a_t_now a_t_now_comes a_t_now_goes a_t_now_kindOf a_t_now_likings a_t_now_lists a_t_trial a_t_trial_county a_t_trial_county_comes a_t_trial_county_goes a_t_trial_county_kindOf a_t_trial_county_likings a_t_trial_county_lists a_t_trial_evening a_t_trial_evening_hours a_t_trial_evening_openers : Nat) (c_t_plan : Int32) (c_t_dinners : Int32) (c_t_now_houses : Int32) (c_t_now_comers : Int32) (c_t_now_evening : Int32) (r_t_now_comes : (Nat → Int32)) (r_t_now_goes : (Nat → Int32)) (r_t_now_kindOf : (Nat → Int32)) (r_t_now_likings : (Nat → Int32)) (r_t_now_lists : (Nat → Int32)) (c_t_trial_evenings : Int32) (c_t_trial_waited : Int32) (c_t_trial_firstFast : Int32) (c_t_trial_county_houses : Int32) (c_t_trial_county_comers : Int32) (c_t_trial_county_evening : Int32) (r_t_trial_county_comes : (Nat → Int32)) (r_t_trial_county_goes : (Nat → Int32)) (r_t_trial_county_kindOf : (Nat → Int32)) (r_t_trial_county_likings : (Nat → Int32)) (r_t_trial_county_lists : (Nat → Int32)) (c_t_trial_evening_begun : Int32) (c_t_trial_evening_waited : Int32) (r_t_trial_evening_hours : (Nat → Int32)) (r_t_trial_evening_openers : (Nat → Int32)) (v : Int32 × Int32 × Int32 × Int32 × Int32 × Int32 × Int32 × Int32 × (Nat → Int32) × (Nat → Int32) × (Nat → Int32) × (Nat → Int32) × (Nat → Int32) × Int32 × Int32 × (Nat → Int32) × (Nat → Int32)) (h : f_X0_swapTwo c_t_plan c_t_dinners c_t_now_houses c_t_now_comers c_t_now_evening r_t_now_comes r_t_now_goes r_t_now_kindOf r_t_now_likings r_t_now_lists c_t_trial_evenings c_t_trial_waited c_t_trial_firstFast c_t_trial_county_houses c_t_trial_county_comers c_t_trial_county_evening r_t_trial_county_comes r_t_trial_county_goes r_t_trial_county_kindOf r_t_trial_county_likings r_t_trial_county_lists c_t_trial_evening_begun c_t_trial_evening_waited r_t_trial_evening_hours r_t_trial_evening_openers = some v) : Mt E yX0_swapTwo cX0_swapTwo 4 none rm_X0_swapTwo [.ref a_t] [oX0 a_t a_t_now a_t_trial c_t_plan c_t_dinners, oX1 a_t_now c_t_now_houses c_t_now_comers c_t_now_evening a_t_now_lists a_t_now_kindOf a_t_now_goes a_t_now_comes a_t_now_likings, aI E a_t_now_comes 6 r_t_now_comes, aI E a_t_now_goes 6 r_t_now_goes, aI E a_t_now_kindOf 6 r_t_now_kindOf, aI E a_t_now_likings 24 r_t_now_likings, aI E a_t_now_lists 4 r_t_now_lists, oX10 a_t_trial a_t_now a_t_trial_county a_t_trial_evening c_t_trial_evenings c_t_trial_waited c_t_trial_firstFast, oX1 a_t_trial_county c_t_trial_county_houses c_t_trial_county_comers c_t_trial_county_evening a_t_trial_county_lists a_t_trial_county_kindOf a_t_trial_county_goes a_t_trial_county_comes a_t_trial_county_likings, aI E a_t_trial_county_comes 6 r_t_trial_county_comes, aI E a_t_trial_county_goes 6 r_t_trial_county_goes, aI E a_t_trial_county_kindOf 6 r_t_trial_county_kindOf, aI E a_t_trial_county_likings 24 r_t_trial_county_likings, aI E a_t_trial_county_lists 4 r_t_trial_county_lists, oX2 a_t_trial_evening a_t_trial_evening_hours a_t_trial_evening_openers c_t_trial_evening_begun c_t_trial_evening_waited, aI E a_t_trial_evening_hours 4 r_t_trial_evening_hours, aI E a_t_trial_evening_openers 4 r_t_trial_evening_openers] [oX0 a_t a_t_now a_t_trial v.1 v.2.1, oX1 a_t_now c_t_now_houses c_t_now_comers c_t_now_evening a_t_now_lists a_t_now_kindOf a_t_now_goes a_t_now_comes a_t_now_likings, aI E a_t_now_comes 6 r_t_now_comes, aI E a_t_now_goes 6 r_t_now_goes, aI E a_t_now_kindOf 6 r_t_now_kindOf, aI E a_t_now_likings 24 r_t_now_likings, aI E a_t_now_lists 4 r_t_now_lists, oX10 a_t_trial a_t_now a_t_trial_county a_t_trial_evening v.2.2.1 v.2.2.2.1 v.2.2.2.2.1, oX1 a_t_trial_county v.2.2.2.2.2.1 v.2.2.2.2.2.2.1 v.2.2.2.2.2.2.2.1 a_t_trial_county_lists a_t_trial_county_kindOf a_t_trial_county_goes a_t_trial_county_comes a_t_trial_county_likings, aI E a_t_trial_county_comes 6 v.2.2.2.2.2.2.2.2.1, aI E a_t_trial_county_goes 6 v.2.2.2.2.2.2.2.2.2.1, aI E a_t_trial_county_kindOf 6 v.2.2.2.2.2.2.2.2.2.2.1, aI E a_t_trial_county_likings 24 v.2.2.2.2.2.2.2.2.2.2.2.1, aI E a_t_trial_county_lists 4 v.2.2.2.2.2.2.2.2.2.2.2.2.1, oX2 a_t_trial_evening a_t_trial_evening_hours a_t_trial_evening_openers v.2.2.2.2.2.2.2.2.2.2.2.2.2.1 v.2.2.2.2.2.2.2.2.2.2.2.2.2.2.1, aI E a_t_trial_evening_hours 4 v.2.2.2.2.2.2.2.2.2.2.2.2.2.2.2.1, aI E a_t_trial_evening_openers 4 v.2.2.2.2.2.2.2.2.2.2.2.2.2.2.2.2] none := by
  refine Mt.intro (lv := [(0, .ref a_t)]) (by decide +kernel) (Nat.le_of_ble_eq_true rfl) rfl (fun X C K => ?_)
  have C : CX E X cX0_swapTwo RX0 4 rm_X0_swapTwo := C
  rw [f_X0_swapTwo] at h
  refine g_aload_n (pc := 0) C dX0_swapTwo_0 0 rfl ?_
  refine g_get (pc := 1) 0 C fl_X0_22 rfl rfl dX0_swapTwo_1 ?_
  obtain ⟨v1, hv1, h⟩ := o_bnd h
  refine g_callV (pc := 4) (ws' := [oX0 a_t a_t_now a_t_trial c_t_plan c_t_dinners, oX1 a_t_now c_t_now_houses c_t_now_comers c_t_now_evening a_t_now_lists a_t_now_kindOf a_t_now_goes a_t_now_comes a_t_now_likings, aI E a_t_now_comes 6 r_t_now_comes, aI E a_t_now_goes 6 r_t_now_goes, aI E a_t_now_kindOf 6 r_t_now_kindOf, aI E a_t_now_likings 24 r_t_now_likings, aI E a_t_now_lists 4 r_t_now_lists, oX10 a_t_trial a_t_now a_t_trial_county a_t_trial_evening v1.1 v1.2.1 v1.2.2.1, oX1 a_t_trial_county v1.2.2.2.1 v1.2.2.2.2.1 v1.2.2.2.2.2.1 a_t_trial_county_lists a_t_trial_county_kindOf a_t_trial_county_goes a_t_trial_county_comes a_t_trial_county_likings, aI E a_t_trial_county_comes 6 v1.2.2.2.2.2.2.1, aI E a_t_trial_county_goes 6 v1.2.2.2.2.2.2.2.1, aI E a_t_trial_county_kindOf 6 v1.2.2.2.2.2.2.2.2.1, aI E a_t_trial_county_likings 24 v1.2.2.2.2.2.2.2.2.2.1, aI E a_t_trial_county_lists 4 v1.2.2.2.2.2.2.2.2.2.2, oX2 a_t_trial_evening a_t_trial_evening_hours a_t_trial_evening_openers c_t_trial_evening_begun c_t_trial_evening_waited, aI E a_t_trial_evening_hours 4 r_t_trial_evening_hours, aI E a_t_trial_evening_openers 4 r_t_trial_evening_openers]) (st1 := [.ref a_t_trial_county]) C mv_X0_39 (k_X10_restart E a_t_trial a_t_trial_county a_t_trial_county_comes a_t_trial_county_goes a_t_trial_county_kindOf a_t_trial_county_likings a_t_trial_county_lists a_t_now a_t_now_comes a_t_now_goes a_t_now_kindOf a_t_now_likings a_t_now_lists a_t_trial_evening c_t_trial_evenings c_t_trial_waited c_t_trial_firstFast c_t_trial_county_houses c_t_trial_county_comers c_t_trial_county_evening r_t_trial_county_comes r_t_trial_county_goes r_t_trial_county_kindOf r_t_trial_county_likings r_t_trial_county_lists c_t_now_houses c_t_now_comers c_t_now_evening r_t_now_comes r_t_now_goes r_t_now_kindOf r_t_now_likings r_t_now_lists v1 hv1) [7, 8, 9, 10, 11, 12, 13, 1, 2, 3, 4, 5, 6] rfl rfl rfl rfl 0 rfl rfl ⟨by decide, by decide⟩ ⟨rfl, rfl⟩ ⟨Nat.zero_le _, Nat.zero_le _⟩ rfl rfl rfl (Nat.le_of_ble_eq_true rfl) dX0_swapTwo_4 ?_
  refine g_pop (pc := 7) C dX0_swapTwo_7 rfl ?_
  refine g_aload_n (pc := 8) C dX0_swapTwo_8 0 rfl ?_
  refine g_aload_n (pc := 9) C dX0_swapTwo_9 0 rfl ?_
  refine g_get (pc := 10) 0 C fl_X0_22 rfl rfl dX0_swapTwo_10 ?_
  refine g_iconst (pc := 13) (v := 1) C dX0_swapTwo_13 (by decide) ?_
  obtain ⟨v2, hv2, h⟩ := o_bnd h
  refine g_callV (pc := 14) (ws' := [oX0 a_t a_t_now a_t_trial c_t_plan c_t_dinners, oX1 a_t_now c_t_now_houses c_t_now_comers c_t_now_evening a_t_now_lists a_t_now_kindOf a_t_now_goes a_t_now_comes a_t_now_likings, aI E a_t_now_comes 6 r_t_now_comes, aI E a_t_now_goes 6 r_t_now_goes, aI E a_t_now_kindOf 6 r_t_now_kindOf, aI E a_t_now_likings 24 r_t_now_likings, aI E a_t_now_lists 4 r_t_now_lists, oX10 a_t_trial a_t_now a_t_trial_county a_t_trial_evening v2.2.1 v2.2.2.1 v2.2.2.2.1, oX1 a_t_trial_county v1.2.2.2.1 v1.2.2.2.2.1 v2.2.2.2.2.1 a_t_trial_county_lists a_t_trial_county_kindOf a_t_trial_county_goes a_t_trial_county_comes a_t_trial_county_likings, aI E a_t_trial_county_comes 6 v1.2.2.2.2.2.2.1, aI E a_t_trial_county_goes 6 v1.2.2.2.2.2.2.2.1, aI E a_t_trial_county_kindOf 6 v1.2.2.2.2.2.2.2.2.1, aI E a_t_trial_county_likings 24 v2.2.2.2.2.2.1, aI E a_t_trial_county_lists 4 v1.2.2.2.2.2.2.2.2.2.2, oX2 a_t_trial_evening a_t_trial_evening_hours a_t_trial_evening_openers v2.2.2.2.2.2.2.1 v2.2.2.2.2.2.2.2.1, aI E a_t_trial_evening_hours 4 v2.2.2.2.2.2.2.2.2.1, aI E a_t_trial_evening_openers 4 v2.2.2.2.2.2.2.2.2.2]) (st1 := [.int v2.1, .ref a_t]) C mv_X0_49 (k_X10_dinnersIn E a_t_trial a_t_trial_county a_t_trial_county_comes a_t_trial_county_goes a_t_trial_county_kindOf a_t_trial_county_likings a_t_trial_county_lists a_t_trial_evening a_t_trial_evening_hours a_t_trial_evening_openers a_t_now v1.1 v1.2.1 v1.2.2.1 v1.2.2.2.1 v1.2.2.2.2.1 v1.2.2.2.2.2.1 v1.2.2.2.2.2.2.1 v1.2.2.2.2.2.2.2.1 v1.2.2.2.2.2.2.2.2.1 v1.2.2.2.2.2.2.2.2.2.1 v1.2.2.2.2.2.2.2.2.2.2 c_t_trial_evening_begun c_t_trial_evening_waited r_t_trial_evening_hours r_t_trial_evening_openers 1 v2 hv2) [7, 8, 9, 10, 11, 12, 13, 14, 15, 16] rfl rfl rfl rfl 0 rfl rfl ⟨by decide, by decide⟩ ⟨rfl, rfl⟩ ⟨Nat.zero_le _, Nat.zero_le _⟩ rfl rfl rfl (Nat.le_of_ble_eq_true rfl) dX0_swapTwo_14 ?_
  obtain ⟨v3, hv3, h⟩ := o_bnd h
  refine g_callV (pc := 17) (ws' := [oX0 a_t a_t_now a_t_trial v3.1 v3.2, oX1 a_t_now c_t_now_houses c_t_now_comers c_t_now_evening a_t_now_lists a_t_now_kindOf a_t_now_goes a_t_now_comes a_t_now_likings, aI E a_t_now_comes 6 r_t_now_comes, aI E a_t_now_goes 6 r_t_now_goes, aI E a_t_now_kindOf 6 r_t_now_kindOf, aI E a_t_now_likings 24 r_t_now_likings, aI E a_t_now_lists 4 r_t_now_lists, oX10 a_t_trial a_t_now a_t_trial_county a_t_trial_evening v2.2.1 v2.2.2.1 v2.2.2.2.1, oX1 a_t_trial_county v1.2.2.2.1 v1.2.2.2.2.1 v2.2.2.2.2.1 a_t_trial_county_lists a_t_trial_county_kindOf a_t_trial_county_goes a_t_trial_county_comes a_t_trial_county_likings, aI E a_t_trial_county_comes 6 v1.2.2.2.2.2.2.1, aI E a_t_trial_county_goes 6 v1.2.2.2.2.2.2.2.1, aI E a_t_trial_county_kindOf 6 v1.2.2.2.2.2.2.2.2.1, aI E a_t_trial_county_likings 24 v2.2.2.2.2.2.1, aI E a_t_trial_county_lists 4 v1.2.2.2.2.2.2.2.2.2.2, oX2 a_t_trial_evening a_t_trial_evening_hours a_t_trial_evening_openers v2.2.2.2.2.2.2.1 v2.2.2.2.2.2.2.2.1, aI E a_t_trial_evening_hours 4 v2.2.2.2.2.2.2.2.2.1, aI E a_t_trial_evening_openers 4 v2.2.2.2.2.2.2.2.2.2]) (st1 := []) C mv_X0_26 (k_X0_beginAt E a_t a_t_now a_t_trial c_t_plan c_t_dinners v2.1 v3 hv3) [0] rfl rfl rfl rfl 0 rfl rfl ⟨by decide, by decide⟩ ⟨rfl, rfl⟩ ⟨Nat.zero_le _, Nat.zero_le _⟩ rfl rfl rfl (Nat.le_of_ble_eq_true rfl) dX0_swapTwo_17 ?_
  refine g_iconst (pc := 20) (v := 0) C dX0_swapTwo_20 (by decide) ?_
  refine g_istore_n (pc := 21) (lv' := [(1, .int 0), (0, .ref a_t)]) C dX0_swapTwo_21 (by decide) rfl ?_
  obtain ⟨v46, hv46, h⟩ := o_bnd h
  refine g_lv [1, 0] (lv' := [(0, .ref a_t), (1, .int 0)]) rfl ?_
  refine lp_X0_swapTwo_22 c_t_now_houses c_t_now_comers c_t_now_evening r_t_now_comes r_t_now_goes r_t_now_kindOf r_t_now_likings r_t_now_lists C 400 _ _ _ _ _ _ _ _ _ _ _ _ _ _ _ _ _ _ _ hv46 ?_
  obtain rfl := Option.some.inj h
  exact g_vret (pc := 137) C K dX0_swapTwo_137
theorem dX0_strikeOne_0 : decode cX0_strikeOne 0 = .ok (.aload_n 0, 1) := by decide +kernel
theorem dX0_strikeOne_1 : decode cX0_strikeOne 1 = .ok (.getfield 22, 3) := by decide +kernel
theorem dX0_strikeOne_4 : decode cX0_strikeOne 4 = .ok (.invokevirtual 39, 3) := by decide +kernel
theorem dX0_strikeOne_7 : decode cX0_strikeOne 7 = .ok (.pop, 1) := by decide +kernel
theorem dX0_strikeOne_8 : decode cX0_strikeOne 8 = .ok (.aload_n 0, 1) := by decide +kernel
theorem dX0_strikeOne_9 : decode cX0_strikeOne 9 = .ok (.aload_n 0, 1) := by decide +kernel
theorem dX0_strikeOne_10 : decode cX0_strikeOne 10 = .ok (.getfield 22, 3) := by decide +kernel
theorem dX0_strikeOne_13 : decode cX0_strikeOne 13 = .ok (.iconst 1, 1) := by decide +kernel
theorem dX0_strikeOne_14 : decode cX0_strikeOne 14 = .ok (.invokevirtual 49, 3) := by decide +kernel
theorem dX0_strikeOne_17 : decode cX0_strikeOne 17 = .ok (.invokevirtual 26, 3) := by decide +kernel
theorem dX0_strikeOne_20 : decode cX0_strikeOne 20 = .ok (.iconst 0, 1) := by decide +kernel
theorem dX0_strikeOne_21 : decode cX0_strikeOne 21 = .ok (.istore_n 1, 1) := by decide +kernel
theorem dX0_strikeOne_22 : decode cX0_strikeOne 22 = .ok (.iload_n 1, 1) := by decide +kernel
theorem dX0_strikeOne_23 : decode cX0_strikeOne 23 = .ok (.aload_n 0, 1) := by decide +kernel
theorem dX0_strikeOne_24 : decode cX0_strikeOne 24 = .ok (.getfield 18, 3) := by decide +kernel
theorem dX0_strikeOne_27 : decode cX0_strikeOne 27 = .ok (.getfield 30, 3) := by decide +kernel
theorem dX0_strikeOne_30 : decode cX0_strikeOne 30 = .ok (.if_icmp .ge 71, 3) := by decide +kernel
theorem dX0_strikeOne_33 : decode cX0_strikeOne 33 = .ok (.iconst 0, 1) := by decide +kernel
theorem dX0_strikeOne_34 : decode cX0_strikeOne 34 = .ok (.istore_n 2, 1) := by decide +kernel
theorem dX0_strikeOne_35 : decode cX0_strikeOne 35 = .ok (.iload_n 2, 1) := by decide +kernel
theorem dX0_strikeOne_36 : decode cX0_strikeOne 36 = .ok (.aload_n 0, 1) := by decide +kernel
theorem dX0_strikeOne_37 : decode cX0_strikeOne 37 = .ok (.getfield 18, 3) := by decide +kernel
theorem dX0_strikeOne_40 : decode cX0_strikeOne 40 = .ok (.getfield 56, 3) := by decide +kernel
theorem dX0_strikeOne_43 : decode cX0_strikeOne 43 = .ok (.if_icmp .ge 52, 3) := by decide +kernel
theorem dX0_strikeOne_46 : decode cX0_strikeOne 46 = .ok (.aload_n 0, 1) := by decide +kernel
theorem dX0_strikeOne_47 : decode cX0_strikeOne 47 = .ok (.getfield 18, 3) := by decide +kernel
theorem dX0_strikeOne_50 : decode cX0_strikeOne 50 = .ok (.iload_n 1, 1) := by decide +kernel
theorem dX0_strikeOne_51 : decode cX0_strikeOne 51 = .ok (.iload_n 2, 1) := by decide +kernel
theorem dX0_strikeOne_52 : decode cX0_strikeOne 52 = .ok (.invokevirtual 59, 3) := by decide +kernel
theorem dX0_strikeOne_55 : decode cX0_strikeOne 55 = .ok (.ifCond .eq 34, 3) := by decide +kernel
theorem dX0_strikeOne_58 : decode cX0_strikeOne 58 = .ok (.aload_n 0, 1) := by decide +kernel
theorem dX0_strikeOne_59 : decode cX0_strikeOne 59 = .ok (.getfield 22, 3) := by decide +kernel
theorem dX0_strikeOne_62 : decode cX0_strikeOne 62 = .ok (.invokevirtual 39, 3) := by decide +kernel
theorem dX0_strikeOne_65 : decode cX0_strikeOne 65 = .ok (.iload_n 1, 1) := by decide +kernel
theorem dX0_strikeOne_66 : decode cX0_strikeOne 66 = .ok (.iload_n 2, 1) := by decide +kernel
theorem dX0_strikeOne_67 : decode cX0_strikeOne 67 = .ok (.iconst 0, 1) := by decide +kernel
theorem dX0_strikeOne_68 : decode cX0_strikeOne 68 = .ok (.invokevirtual 63, 3) := by decide +kernel
theorem dX0_strikeOne_71 : decode cX0_strikeOne 71 = .ok (.aload_n 0, 1) := by decide +kernel
theorem dX0_strikeOne_72 : decode cX0_strikeOne 72 = .ok (.bipush 10, 2) := by decide +kernel
theorem dX0_strikeOne_74 : decode cX0_strikeOne 74 = .ok (.iload_n 1, 1) := by decide +kernel
theorem dX0_strikeOne_75 : decode cX0_strikeOne 75 = .ok (.imul, 1) := by decide +kernel
theorem dX0_strikeOne_76 : decode cX0_strikeOne 76 = .ok (.iload_n 2, 1) := by decide +kernel
theorem dX0_strikeOne_77 : decode cX0_strikeOne 77 = .ok (.iadd, 1) := by decide +kernel
theorem dX0_strikeOne_78 : decode cX0_strikeOne 78 = .ok (.aload_n 0, 1) := by decide +kernel
theorem dX0_strikeOne_79 : decode cX0_strikeOne 79 = .ok (.getfield 22, 3) := by decide +kernel
theorem dX0_strikeOne_82 : decode cX0_strikeOne 82 = .ok (.iconst 1, 1) := by decide +kernel
theorem dX0_strikeOne_83 : decode cX0_strikeOne 83 = .ok (.invokevirtual 49, 3) := by decide +kernel
theorem dX0_strikeOne_86 : decode cX0_strikeOne 86 = .ok (.invokevirtual 52, 3) := by decide +kernel
theorem dX0_strikeOne_89 : decode cX0_strikeOne 89 = .ok (.iinc 2 1, 3) := by decide +kernel
theorem dX0_strikeOne_92 : decode cX0_strikeOne 92 = .ok (.goto (-57), 3) := by decide +kernel
theorem dX0_strikeOne_95 : decode cX0_strikeOne 95 = .ok (.iinc 1 1, 3) := by decide +kernel
theorem dX0_strikeOne_98 : decode cX0_strikeOne 98 = .ok (.goto (-76), 3) := by decide +kernel
theorem dX0_strikeOne_101 : decode cX0_strikeOne 101 = .ok (.return_, 1) := by decide +kernel
def L_X0_strikeOne_35 (c_t_now_houses : Int32) (c_t_now_comers : Int32) (c_t_now_evening : Int32) (r_t_now_comes : (Nat → Int32)) (r_t_now_goes : (Nat → Int32)) (r_t_now_kindOf : (Nat → Int32)) (r_t_now_likings : (Nat → Int32)) (r_t_now_lists : (Nat → Int32)) (y4 : Int32) : Nat → Int32 → Int32 → Int32 → Int32 → Int32 → Int32 → Int32 → Int32 → Int32 → (Nat → Int32) → (Nat → Int32) → (Nat → Int32) → (Nat → Int32) → (Nat → Int32) → Int32 → Int32 → (Nat → Int32) → (Nat → Int32) → Option (Int32 × Int32 × Int32 × Int32 × Int32 × Int32 × Int32 × Int32 × (Nat → Int32) × (Nat → Int32) × (Nat → Int32) × (Nat → Int32) × (Nat → Int32) × Int32 × Int32 × (Nat → Int32) × (Nat → Int32))
  | 0, _, _, _, _, _, _, _, _, _, _, _, _, _, _, _, _, _, _ => none
  | n + 1, y22, y23, y24, y25, y26, y27, y28, y29, y30, y31, y32, y33, y34, y35, y36, y37, y38, y39 =>
    if c_t_now_comers ≤ y22 then
      (some ((y23, y24, y25, y26, y27, y28, y29, y30, y31, y32, y33, y34, y35, y36, y37, y38, y39)))
    else
      ((f_X1_onList r_t_now_lists y4 y22).bind (fun (v40 : Int32) =>
        if v40 = 0 then
          (L_X0_strikeOne_35 c_t_now_houses c_t_now_comers c_t_now_evening r_t_now_comes r_t_now_goes r_t_now_kindOf r_t_now_likings r_t_now_lists y4 n (y22 + 1) y23 y24 y25 y26 y27 y28 y29 y30 y31 y32 y33 y34 y35 y36 y37 y38 y39)
        else
          ((f_X10_restart y25 y26 y27 y28 y29 y30 y31 y32 y33 y34 y35 c_t_now_houses c_t_now_comers c_t_now_evening r_t_now_comes r_t_now_goes r_t_now_kindOf r_t_now_likings r_t_now_lists).bind (fun (v41 : Int32 × Int32 × Int32 × Int32 × Int32 × Int32 × (Nat → Int32) × (Nat → Int32) × (Nat → Int32) × (Nat → Int32) × (Nat → Int32)) =>
            (f_X1_setOnList v41.2.2.2.2.2.2.2.2.2.2 y4 y22 0).bind (fun (v42 : (Nat → Int32)) =>
              (f_X10_dinnersIn v41.1 v41.2.1 v41.2.2.1 v41.2.2.2.1 v41.2.2.2.2.1 v41.2.2.2.2.2.1 v41.2.2.2.2.2.2.1 v41.2.2.2.2.2.2.2.1 v41.2.2.2.2.2.2.2.2.1 v41.2.2.2.2.2.2.2.2.2.1 v42 y36 y37 y38 y39 1).bind (fun (v43 : Int32 × Int32 × Int32 × Int32 × Int32 × (Nat → Int32) × Int32 × Int32 × (Nat → Int32) × (Nat → Int32)) =>
                (f_X0_weigh y23 y24 ((10 * y4) + y22) v43.1).bind (fun (v44 : Int32 × Int32) =>
                  L_X0_strikeOne_35 c_t_now_houses c_t_now_comers c_t_now_evening r_t_now_comes r_t_now_goes r_t_now_kindOf r_t_now_likings r_t_now_lists y4 n (y22 + 1) v44.1 v44.2 v43.2.1 v43.2.2.1 v43.2.2.2.1 v41.2.2.2.1 v41.2.2.2.2.1 v43.2.2.2.2.1 v41.2.2.2.2.2.2.1 v41.2.2.2.2.2.2.2.1 v41.2.2.2.2.2.2.2.2.1 v43.2.2.2.2.2.1 v42 v43.2.2.2.2.2.2.1 v43.2.2.2.2.2.2.2.1 v43.2.2.2.2.2.2.2.2.1 v43.2.2.2.2.2.2.2.2.2)))))))
def L_X0_strikeOne_22 (c_t_now_houses : Int32) (c_t_now_comers : Int32) (c_t_now_evening : Int32) (r_t_now_comes : (Nat → Int32)) (r_t_now_goes : (Nat → Int32)) (r_t_now_kindOf : (Nat → Int32)) (r_t_now_likings : (Nat → Int32)) (r_t_now_lists : (Nat → Int32)) : Nat → Int32 → Int32 → Int32 → Int32 → Int32 → Int32 → Int32 → Int32 → Int32 → (Nat → Int32) → (Nat → Int32) → (Nat → Int32) → (Nat → Int32) → (Nat → Int32) → Int32 → Int32 → (Nat → Int32) → (Nat → Int32) → Option (Int32 × Int32 × Int32 × Int32 × Int32 × Int32 × Int32 × Int32 × (Nat → Int32) × (Nat → Int32) × (Nat → Int32) × (Nat → Int32) × (Nat → Int32) × Int32 × Int32 × (Nat → Int32) × (Nat → Int32))
  | 0, _, _, _, _, _, _, _, _, _, _, _, _, _, _, _, _, _, _ => none
  | n + 1, y4, y5, y6, y7, y8, y9, y10, y11, y12, y13, y14, y15, y16, y17, y18, y19, y20, y21 =>
    if c_t_now_houses ≤ y4 then
      (some ((y5, y6, y7, y8, y9, y10, y11, y12, y13, y14, y15, y16, y17, y18, y19, y20, y21)))
    else
      ((L_X0_strikeOne_35 c_t_now_houses c_t_now_comers c_t_now_evening r_t_now_comes r_t_now_goes r_t_now_kindOf r_t_now_likings r_t_now_lists y4 400 0 y5 y6 y7 y8 y9 y10 y11 y12 y13 y14 y15 y16 y17 y18 y19 y20 y21).bind (fun (v46 : Int32 × Int32 × Int32 × Int32 × Int32 × Int32 × Int32 × Int32 × (Nat → Int32) × (Nat → Int32) × (Nat → Int32) × (Nat → Int32) × (Nat → Int32) × Int32 × Int32 × (Nat → Int32) × (Nat → Int32)) =>
        L_X0_strikeOne_22 c_t_now_houses c_t_now_comers c_t_now_evening r_t_now_comes r_t_now_goes r_t_now_kindOf r_t_now_likings r_t_now_lists n (y4 + 1) v46.1 v46.2.1 v46.2.2.1 v46.2.2.2.1 v46.2.2.2.2.1 v46.2.2.2.2.2.1 v46.2.2.2.2.2.2.1 v46.2.2.2.2.2.2.2.1 v46.2.2.2.2.2.2.2.2.1 v46.2.2.2.2.2.2.2.2.2.1 v46.2.2.2.2.2.2.2.2.2.2.1 v46.2.2.2.2.2.2.2.2.2.2.2.1 v46.2.2.2.2.2.2.2.2.2.2.2.2.1 v46.2.2.2.2.2.2.2.2.2.2.2.2.2.1 v46.2.2.2.2.2.2.2.2.2.2.2.2.2.2.1 v46.2.2.2.2.2.2.2.2.2.2.2.2.2.2.2.1 v46.2.2.2.2.2.2.2.2.2.2.2.2.2.2.2.2))
def f_X0_strikeOne (c_t_plan : Int32) (c_t_dinners : Int32) (c_t_now_houses : Int32) (c_t_now_comers : Int32) (c_t_now_evening : Int32) (r_t_now_comes : (Nat → Int32)) (r_t_now_goes : (Nat → Int32)) (r_t_now_kindOf : (Nat → Int32)) (r_t_now_likings : (Nat → Int32)) (r_t_now_lists : (Nat → Int32)) (c_t_trial_evenings : Int32) (c_t_trial_waited : Int32) (c_t_trial_firstFast : Int32) (c_t_trial_county_houses : Int32) (c_t_trial_county_comers : Int32) (c_t_trial_county_evening : Int32) (r_t_trial_county_comes : (Nat → Int32)) (r_t_trial_county_goes : (Nat → Int32)) (r_t_trial_county_kindOf : (Nat → Int32)) (r_t_trial_county_likings : (Nat → Int32)) (r_t_trial_county_lists : (Nat → Int32)) (c_t_trial_evening_begun : Int32) (c_t_trial_evening_waited : Int32) (r_t_trial_evening_hours : (Nat → Int32)) (r_t_trial_evening_openers : (Nat → Int32)) : Option (Int32 × Int32 × Int32 × Int32 × Int32 × Int32 × Int32 × Int32 × (Nat → Int32) × (Nat → Int32) × (Nat → Int32) × (Nat → Int32) × (Nat → Int32) × Int32 × Int32 × (Nat → Int32) × (Nat → Int32)) :=
  (f_X10_restart c_t_trial_evenings c_t_trial_waited c_t_trial_firstFast c_t_trial_county_houses c_t_trial_county_comers c_t_trial_county_evening r_t_trial_county_comes r_t_trial_county_goes r_t_trial_county_kindOf r_t_trial_county_likings r_t_trial_county_lists c_t_now_houses c_t_now_comers c_t_now_evening r_t_now_comes r_t_now_goes r_t_now_kindOf r_t_now_likings r_t_now_lists).bind (fun (v1 : Int32 × Int32 × Int32 × Int32 × Int32 × Int32 × (Nat → Int32) × (Nat → Int32) × (Nat → Int32) × (Nat → Int32) × (Nat → Int32)) =>
    (f_X10_dinnersIn v1.1 v1.2.1 v1.2.2.1 v1.2.2.2.1 v1.2.2.2.2.1 v1.2.2.2.2.2.1 v1.2.2.2.2.2.2.1 v1.2.2.2.2.2.2.2.1 v1.2.2.2.2.2.2.2.2.1 v1.2.2.2.2.2.2.2.2.2.1 v1.2.2.2.2.2.2.2.2.2.2 c_t_trial_evening_begun c_t_trial_evening_waited r_t_trial_evening_hours r_t_trial_evening_openers 1).bind (fun (v2 : Int32 × Int32 × Int32 × Int32 × Int32 × (Nat → Int32) × Int32 × Int32 × (Nat → Int32) × (Nat → Int32)) =>
      (f_X0_beginAt c_t_plan c_t_dinners v2.1).bind (fun (v3 : Int32 × Int32) =>
        (L_X0_strikeOne_22 c_t_now_houses c_t_now_comers c_t_now_evening r_t_now_comes r_t_now_goes r_t_now_kindOf r_t_now_likings r_t_now_lists 400 0 v3.1 v3.2 v2.2.1 v2.2.2.1 v2.2.2.2.1 v1.2.2.2.1 v1.2.2.2.2.1 v2.2.2.2.2.1 v1.2.2.2.2.2.2.1 v1.2.2.2.2.2.2.2.1 v1.2.2.2.2.2.2.2.2.1 v2.2.2.2.2.2.1 v1.2.2.2.2.2.2.2.2.2.2 v2.2.2.2.2.2.2.1 v2.2.2.2.2.2.2.2.1 v2.2.2.2.2.2.2.2.2.1 v2.2.2.2.2.2.2.2.2.2).bind (fun (v48 : Int32 × Int32 × Int32 × Int32 × Int32 × Int32 × Int32 × Int32 × (Nat → Int32) × (Nat → Int32) × (Nat → Int32) × (Nat → Int32) × (Nat → Int32) × Int32 × Int32 × (Nat → Int32) × (Nat → Int32)) =>
          some ((v48.1, v48.2.1, v48.2.2.1, v48.2.2.2.1, v48.2.2.2.2.1, v48.2.2.2.2.2.1, v48.2.2.2.2.2.2.1, v48.2.2.2.2.2.2.2.1, v48.2.2.2.2.2.2.2.2.1, v48.2.2.2.2.2.2.2.2.2.1, v48.2.2.2.2.2.2.2.2.2.2.1, v48.2.2.2.2.2.2.2.2.2.2.2.1, v48.2.2.2.2.2.2.2.2.2.2.2.2.1, v48.2.2.2.2.2.2.2.2.2.2.2.2.2.1, v48.2.2.2.2.2.2.2.2.2.2.2.2.2.2.1, v48.2.2.2.2.2.2.2.2.2.2.2.2.2.2.2.1, v48.2.2.2.2.2.2.2.2.2.2.2.2.2.2.2.2))))))
abbrev rm_X0_strikeOne : Room := { frames := 5, cells := 0, slots := 0, locals := 122 }
set_option maxHeartbeats 4000000 in
set_option maxRecDepth 100000 in
theorem lp_X0_strikeOne_35 {E : Ev} {X : Cx} {a_t a_t_now a_t_now_comes a_t_now_goes a_t_now_kindOf a_t_now_likings a_t_now_lists a_t_trial a_t_trial_county a_t_trial_county_comes a_t_trial_county_goes a_t_trial_county_kindOf a_t_trial_county_likings a_t_trial_county_lists a_t_trial_evening a_t_trial_evening_hours a_t_trial_evening_openers : Nat} (c_t_now_houses : Int32) (c_t_now_comers : Int32) (c_t_now_evening : Int32) (r_t_now_comes : (Nat → Int32)) (r_t_now_goes : (Nat → Int32)) (r_t_now_kindOf : (Nat → Int32)) (r_t_now_likings : (Nat → Int32)) (r_t_now_lists : (Nat → Int32)) (y4 : Int32) (C : CX E X cX0_strikeOne RX0 3 rm_X0_strikeOne) : ∀ (n : Nat) (y22 : Int32) (y23 : Int32) (y24 : Int32) (y25 : Int32) (y26 : Int32) (y27 : Int32) (y28 : Int32) (y29 : Int32) (y30 : Int32) (y31 : (Nat → Int32)) (y32 : (Nat → Int32)) (y33 : (Nat → Int32)) (y34 : (Nat → Int32)) (y35 : (Nat → Int32)) (y36 : Int32) (y37 : Int32) (y38 : (Nat → Int32)) (y39 : (Nat → Int32)) (v : Int32 × Int32 × Int32 × Int32 × Int32 × Int32 × Int32 × Int32 × (Nat → Int32) × (Nat → Int32) × (Nat → Int32) × (Nat → Int32) × (Nat → Int32) × Int32 × Int32 × (Nat → Int32) × (Nat → Int32)), L_X0_strikeOne_35 c_t_now_houses c_t_now_comers c_t_now_evening r_t_now_comes r_t_now_goes r_t_now_kindOf r_t_now_likings r_t_now_lists y4 n y22 y23 y24 y25 y26 y27 y28 y29 y30 y31 y32 y33 y34 y35 y36 y37 y38 y39 = some v → G E X 0 0 [oX0 a_t a_t_now a_t_trial v.1 v.2.1, oX1 a_t_now c_t_now_houses c_t_now_comers c_t_now_evening a_t_now_lists a_t_now_kindOf a_t_now_goes a_t_now_comes a_t_now_likings, aI E a_t_now_comes 6 r_t_now_comes, aI E a_t_now_goes 6 r_t_now_goes, aI E a_t_now_kindOf 6 r_t_now_kindOf, aI E a_t_now_likings 24 r_t_now_likings, aI E a_t_now_lists 4 r_t_now_lists, oX10 a_t_trial a_t_now a_t_trial_county a_t_trial_evening v.2.2.1 v.2.2.2.1 v.2.2.2.2.1, oX1 a_t_trial_county v.2.2.2.2.2.1 v.2.2.2.2.2.2.1 v.2.2.2.2.2.2.2.1 a_t_trial_county_lists a_t_trial_county_kindOf a_t_trial_county_goes a_t_trial_county_comes a_t_trial_county_likings, aI E a_t_trial_county_comes 6 v.2.2.2.2.2.2.2.2.1, aI E a_t_trial_county_goes 6 v.2.2.2.2.2.2.2.2.2.1, aI E a_t_trial_county_kindOf 6 v.2.2.2.2.2.2.2.2.2.2.1, aI E a_t_trial_county_likings 24 v.2.2.2.2.2.2.2.2.2.2.2.1, aI E a_t_trial_county_lists 4 v.2.2.2.2.2.2.2.2.2.2.2.2.1, oX2 a_t_trial_evening a_t_trial_evening_hours a_t_trial_evening_openers v.2.2.2.2.2.2.2.2.2.2.2.2.2.1 v.2.2.2.2.2.2.2.2.2.2.2.2.2.2.1, aI E a_t_trial_evening_hours 4 v.2.2.2.2.2.2.2.2.2.2.2.2.2.2.2.1, aI E a_t_trial_evening_openers 4 v.2.2.2.2.2.2.2.2.2.2.2.2.2.2.2.2] [(0, .ref a_t), (1, .int y4)] 95 [] → G E X 0 0 [oX0 a_t a_t_now a_t_trial y23 y24, oX1 a_t_now c_t_now_houses c_t_now_comers c_t_now_evening a_t_now_lists a_t_now_kindOf a_t_now_goes a_t_now_comes a_t_now_likings, aI E a_t_now_comes 6 r_t_now_comes, aI E a_t_now_goes 6 r_t_now_goes, aI E a_t_now_kindOf 6 r_t_now_kindOf, aI E a_t_now_likings 24 r_t_now_likings, aI E a_t_now_lists 4 r_t_now_lists, oX10 a_t_trial a_t_now a_t_trial_county a_t_trial_evening y25 y26 y27, oX1 a_t_trial_county y28 y29 y30 a_t_trial_county_lists a_t_trial_county_kindOf a_t_trial_county_goes a_t_trial_county_comes a_t_trial_county_likings, aI E a_t_trial_county_comes 6 y31, aI E a_t_trial_county_goes 6 y32, aI E a_t_trial_county_kindOf 6 y33, aI E a_t_trial_county_likings 24 y34, aI E a_t_trial_county_lists 4 y35, oX2 a_t_trial_evening a_t_trial_evening_hours a_t_trial_evening_openers y36 y37, aI E a_t_trial_evening_hours 4 y38, aI E a_t_trial_evening_openers 4 y39] [(0, .ref a_t), (1, .int y4), (2, .int y22)] 35 [] := by
  intro n
  induction n with
  | zero => intro _ _ _ _ _ _ _ _ _ _ _ _ _ _ _ _ _ _ _ h; cases h
  | succ n ih =>
    intro y22 y23 y24 y25 y26 y27 y28 y29 y30 y31 y32 y33 y34 y35 y36 y37 y38 y39 v h kk
    rw [L_X0_strikeOne_35] at h
    refine g_iload_n (pc := 35) C dX0_strikeOne_35 2 rfl ?_
    refine g_aload_n (pc := 36) C dX0_strikeOne_36 0 rfl ?_
    refine g_get (pc := 37) 0 C fl_X0_18 rfl rfl dX0_strikeOne_37 ?_
    refine g_get (pc := 40) 1 C fl_X0_56 rfl rfl dX0_strikeOne_40 ?_
    refine b_icmp_ge (pc := 43) 95 C dX0_strikeOne_43 (by decide) h (fun _ h => ?_) (fun _ h => ?_)
    · obtain rfl := Option.some.inj h
      refine g_lv [0, 1] (lv' := [(0, .ref a_t), (1, .int y4)]) rfl ?_
      exact kk
    · refine g_aload_n (pc := 46) C dX0_strikeOne_46 0 rfl ?_
      refine g_get (pc := 47) 0 C fl_X0_18 rfl rfl dX0_strikeOne_47 ?_
      refine g_iload_n (pc := 50) C dX0_strikeOne_50 1 rfl ?_
      refine g_iload_n (pc := 51) C dX0_strikeOne_51 2 rfl ?_
      obtain ⟨v40, hv40, h⟩ := o_bnd h
      refine g_callV (pc := 52) (ws' := [oX0 a_t a_t_now a_t_trial y23 y24, oX1 a_t_now c_t_now_houses c_t_now_comers c_t_now_evening a_t_now_lists a_t_now_kindOf a_t_now_goes a_t_now_comes a_t_now_likings, aI E a_t_now_comes 6 r_t_now_comes, aI E a_t_now_goes 6 r_t_now_goes, aI E a_t_now_kindOf 6 r_t_now_kindOf, aI E a_t_now_likings 24 r_t_now_likings, aI E a_t_now_lists 4 r_t_now_lists, oX10 a_t_trial a_t_now a_t_trial_county a_t_trial_evening y25 y26 y27, oX1 a_t_trial_county y28 y29 y30 a_t_trial_county_lists a_t_trial_county_kindOf a_t_trial_county_goes a_t_trial_county_comes a_t_trial_county_likings, aI E a_t_trial_county_comes 6 y31, aI E a_t_trial_county_goes 6 y32, aI E a_t_trial_county_kindOf 6 y33, aI E a_t_trial_county_likings 24 y34, aI E a_t_trial_county_lists 4 y35, oX2 a_t_trial_evening a_t_trial_evening_hours a_t_trial_evening_openers y36 y37, aI E a_t_trial_evening_hours 4 y38, aI E a_t_trial_evening_openers 4 y39]) (st1 := [.int v40]) C mv_X0_59 (k_X1_onList E a_t_now a_t_now_lists a_t_now_kindOf a_t_now_goes a_t_now_comes a_t_now_likings c_t_now_houses c_t_now_comers c_t_now_evening r_t_now_lists y4 y22 v40 hv40) [1, 6] rfl rfl rfl rfl 0 rfl rfl ⟨by decide, by decide⟩ ⟨rfl, rfl⟩ ⟨Nat.zero_le _, Nat.zero_le _⟩ rfl rfl rfl (Nat.le_of_ble_eq_true rfl) dX0_strikeOne_52 ?_
      refine b_if_eq (pc := 55) 89 C dX0_strikeOne_55 (by decide) h (fun _ h => ?_) (fun _ h => ?_)
      · refine g_iinc (pc := 89) (v := y22 + 1) (lv' := [(2, .int (y22 + 1)), (0, .ref a_t), (1, .int y4)]) C dX0_strikeOne_89 2 rfl rfl (by decide) rfl ?_
        refine g_goto (pc := 92) 35 C dX0_strikeOne_92 (by decide) ?_
        refine g_lv [1, 2, 0] (lv' := [(0, .ref a_t), (1, .int y4), (2, .int (y22 + 1))]) rfl ?_
        exact ih _ _ _ _ _ _ _ _ _ _ _ _ _ _ _ _ _ _ _ h kk
      · refine g_aload_n (pc := 58) C dX0_strikeOne_58 0 rfl ?_
        refine g_get (pc := 59) 0 C fl_X0_22 rfl rfl dX0_strikeOne_59 ?_
        obtain ⟨v41, hv41, h⟩ := o_bnd h
        refine g_callV (pc := 62) (ws' := [oX0 a_t a_t_now a_t_trial y23 y24, oX1 a_t_now c_t_now_houses c_t_now_comers c_t_now_evening a_t_now_lists a_t_now_kindOf a_t_now_goes a_t_now_comes a_t_now_likings, aI E a_t_now_comes 6 r_t_now_comes, aI E a_t_now_goes 6 r_t_now_goes, aI E a_t_now_kindOf 6 r_t_now_kindOf, aI E a_t_now_likings 24 r_t_now_likings, aI E a_t_now_lists 4 r_t_now_lists, oX10 a_t_trial a_t_now a_t_trial_county a_t_trial_evening v41.1 v41.2.1 v41.2.2.1, oX1 a_t_trial_county v41.2.2.2.1 v41.2.2.2.2.1 v41.2.2.2.2.2.1 a_t_trial_county_lists a_t_trial_county_kindOf a_t_trial_county_goes a_t_trial_county_comes a_t_trial_county_likings, aI E a_t_trial_county_comes 6 v41.2.2.2.2.2.2.1, aI E a_t_trial_county_goes 6 v41.2.2.2.2.2.2.2.1, aI E a_t_trial_county_kindOf 6 v41.2.2.2.2.2.2.2.2.1, aI E a_t_trial_county_likings 24 v41.2.2.2.2.2.2.2.2.2.1, aI E a_t_trial_county_lists 4 v41.2.2.2.2.2.2.2.2.2.2, oX2 a_t_trial_evening a_t_trial_evening_hours a_t_trial_evening_openers y36 y37, aI E a_t_trial_evening_hours 4 y38, aI E a_t_trial_evening_openers 4 y39]) (st1 := [.ref a_t_trial_county]) C mv_X0_39 (k_X10_restart E a_t_trial a_t_trial_county a_t_trial_county_comes a_t_trial_county_goes a_t_trial_county_kindOf a_t_trial_county_likings a_t_trial_county_lists a_t_now a_t_now_comes a_t_now_goes a_t_now_kindOf a_t_now_likings a_t_now_lists a_t_trial_evening y25 y26 y27 y28 y29 y30 y31 y32 y33 y34 y35 c_t_now_houses c_t_now_comers c_t_now_evening r_t_now_comes r_t_now_goes r_t_now_kindOf r_t_now_likings r_t_now_lists v41 hv41) [7, 8, 9, 10, 11, 12, 13, 1, 2, 3, 4, 5, 6] rfl rfl rfl rfl 0 rfl rfl ⟨by decide, by decide⟩ ⟨rfl, rfl⟩ ⟨Nat.zero_le _, Nat.zero_le _⟩ rfl rfl rfl (Nat.le_of_ble_eq_true rfl) dX0_strikeOne_62 ?_
        refine g_iload_n (pc := 65) C dX0_strikeOne_65 1 rfl ?_
        refine g_iload_n (pc := 66) C dX0_strikeOne_66 2 rfl ?_
        refine g_iconst (pc := 67) (v := 0) C dX0_strikeOne_67 (by decide) ?_
        obtain ⟨v42, hv42, h⟩ := o_bnd h
        refine g_callV (pc := 68) (ws' := [oX0 a_t a_t_now a_t_trial y23 y24, oX1 a_t_now c_t_now_houses c_t_now_comers c_t_now_evening a_t_now_lists a_t_now_kindOf a_t_now_goes a_t_now_comes a_t_now_likings, aI E a_t_now_comes 6 r_t_now_comes, aI E a_t_now_goes 6 r_t_now_goes, aI E a_t_now_kindOf 6 r_t_now_kindOf, aI E a_t_now_likings 24 r_t_now_likings, aI E a_t_now_lists 4 r_t_now_lists, oX10 a_t_trial a_t_now a_t_trial_county a_t_trial_evening v41.1 v41.2.1 v41.2.2.1, oX1 a_t_trial_county v41.2.2.2.1 v41.2.2.2.2.1 v41.2.2.2.2.2.1 a_t_trial_county_lists a_t_trial_county_kindOf a_t_trial_county_goes a_t_trial_county_comes a_t_trial_county_likings, aI E a_t_trial_county_comes 6 v41.2.2.2.2.2.2.1, aI E a_t_trial_county_goes 6 v41.2.2.2.2.2.2.2.1, aI E a_t_trial_county_kindOf 6 v41.2.2.2.2.2.2.2.2.1, aI E a_t_trial_county_likings 24 v41.2.2.2.2.2.2.2.2.2.1, aI E a_t_trial_county_lists 4 v42, oX2 a_t_trial_evening a_t_trial_evening_hours a_t_trial_evening_openers y36 y37, aI E a_t_trial_evening_hours 4 y38, aI E a_t_trial_evening_openers 4 y39]) (st1 := []) C mv_X0_63 (k_X1_setOnList E a_t_trial_county a_t_trial_county_lists a_t_trial_county_kindOf a_t_trial_county_goes a_t_trial_county_comes a_t_trial_county_likings v41.2.2.2.1 v41.2.2.2.2.1 v41.2.2.2.2.2.1 v41.2.2.2.2.2.2.2.2.2.2 y4 y22 0 v42 hv42) [8, 13] rfl rfl rfl rfl 0 rfl rfl ⟨by decide, by decide⟩ ⟨rfl, rfl⟩ ⟨Nat.zero_le _, Nat.zero_le _⟩ rfl rfl rfl (Nat.le_of_ble_eq_true rfl) dX0_strikeOne_68 ?_
        refine g_aload_n (pc := 71) C dX0_strikeOne_71 0 rfl ?_
        refine g_bipush (pc := 72) (v := 10) C dX0_strikeOne_72 (by decide) ?_
        refine g_iload_n (pc := 74) C dX0_strikeOne_74 1 rfl ?_
        refine g_imul (pc := 75) C dX0_strikeOne_75 ?_
        refine g_iload_n (pc := 76) C dX0_strikeOne_76 2 rfl ?_
        refine g_iadd (pc := 77) C dX0_strikeOne_77 ?_
        refine g_aload_n (pc := 78) C dX0_strikeOne_78 0 rfl ?_
        refine g_get (pc := 79) 0 C fl_X0_22 rfl rfl dX0_strikeOne_79 ?_
        refine g_iconst (pc := 82) (v := 1) C dX0_strikeOne_82 (by decide) ?_
        obtain ⟨v43, hv43, h⟩ := o_bnd h
        refine g_callV (pc := 83) (ws' := [oX0 a_t a_t_now a_t_trial y23 y24, oX1 a_t_now c_t_now_houses c_t_now_comers c_t_now_evening a_t_now_lists a_t_now_kindOf a_t_now_goes a_t_now_comes a_t_now_likings, aI E a_t_now_comes 6 r_t_now_comes, aI E a_t_now_goes 6 r_t_now_goes, aI E a_t_now_kindOf 6 r_t_now_kindOf, aI E a_t_now_likings 24 r_t_now_likings, aI E a_t_now_lists 4 r_t_now_lists, oX10 a_t_trial a_t_now a_t_trial_county a_t_trial_evening v43.2.1 v43.2.2.1 v43.2.2.2.1, oX1 a_t_trial_county v41.2.2.2.1 v41.2.2.2.2.1 v43.2.2.2.2.1 a_t_trial_county_lists a_t_trial_county_kindOf a_t_trial_county_goes a_t_trial_county_comes a_t_trial_county_likings, aI E a_t_trial_county_comes 6 v41.2.2.2.2.2.2.1, aI E a_t_trial_county_goes 6 v41.2.2.2.2.2.2.2.1, aI E a_t_trial_county_kindOf 6 v41.2.2.2.2.2.2.2.2.1, aI E a_t_trial_county_likings 24 v43.2.2.2.2.2.1, aI E a_t_trial_county_lists 4 v42, oX2 a_t_trial_evening a_t_trial_evening_hours a_t_trial_evening_openers v43.2.2.2.2.2.2.1 v43.2.2.2.2.2.2.2.1, aI E a_t_trial_evening_hours 4 v43.2.2.2.2.2.2.2.2.1, aI E a_t_trial_evening_openers 4 v43.2.2.2.2.2.2.2.2.2]) (st1 := [.int v43.1, .int ((10 * y4) + y22), .ref a_t]) C mv_X0_49 (k_X10_dinnersIn E a_t_trial a_t_trial_county a_t_trial_county_comes a_t_trial_county_goes a_t_trial_county_kindOf a_t_trial_county_likings a_t_trial_county_lists a_t_trial_evening a_t_trial_evening_hours a_t_trial_evening_openers a_t_now v41.1 v41.2.1 v41.2.2.1 v41.2.2.2.1 v41.2.2.2.2.1 v41.2.2.2.2.2.1 v41.2.2.2.2.2.2.1 v41.2.2.2.2.2.2.2.1 v41.2.2.2.2.2.2.2.2.1 v41.2.2.2.2.2.2.2.2.2.1 v42 y36 y37 y38 y39 1 v43 hv43) [7, 8, 9, 10, 11, 12, 13, 14, 15, 16] rfl rfl rfl rfl 0 rfl rfl ⟨by decide, by decide⟩ ⟨rfl, rfl⟩ ⟨Nat.zero_le _, Nat.zero_le _⟩ rfl rfl rfl (Nat.le_of_ble_eq_true rfl) dX0_strikeOne_83 ?_
        obtain ⟨v44, hv44, h⟩ := o_bnd h
        refine g_callV (pc := 86) (ws' := [oX0 a_t a_t_now a_t_trial v44.1 v44.2, oX1 a_t_now c_t_now_houses c_t_now_comers c_t_now_evening a_t_now_lists a_t_now_kindOf a_t_now_goes a_t_now_comes a_t_now_likings, aI E a_t_now_comes 6 r_t_now_comes, aI E a_t_now_goes 6 r_t_now_goes, aI E a_t_now_kindOf 6 r_t_now_kindOf, aI E a_t_now_likings 24 r_t_now_likings, aI E a_t_now_lists 4 r_t_now_lists, oX10 a_t_trial a_t_now a_t_trial_county a_t_trial_evening v43.2.1 v43.2.2.1 v43.2.2.2.1, oX1 a_t_trial_county v41.2.2.2.1 v41.2.2.2.2.1 v43.2.2.2.2.1 a_t_trial_county_lists a_t_trial_county_kindOf a_t_trial_county_goes a_t_trial_county_comes a_t_trial_county_likings, aI E a_t_trial_county_comes 6 v41.2.2.2.2.2.2.1, aI E a_t_trial_county_goes 6 v41.2.2.2.2.2.2.2.1, aI E a_t_trial_county_kindOf 6 v41.2.2.2.2.2.2.2.2.1, aI E a_t_trial_county_likings 24 v43.2.2.2.2.2.1, aI E a_t_trial_county_lists 4 v42, oX2 a_t_trial_evening a_t_trial_evening_hours a_t_trial_evening_openers v43.2.2.2.2.2.2.1 v43.2.2.2.2.2.2.2.1, aI E a_t_trial_evening_hours 4 v43.2.2.2.2.2.2.2.2.1, aI E a_t_trial_evening_openers 4 v43.2.2.2.2.2.2.2.2.2]) (st1 := []) C mv_X0_52 (k_X0_weigh E a_t a_t_now a_t_trial y23 y24 ((10 * y4) + y22) v43.1 v44 hv44) [0] rfl rfl rfl rfl 0 rfl rfl ⟨by decide, by decide⟩ ⟨rfl, rfl⟩ ⟨Nat.zero_le _, Nat.zero_le _⟩ rfl rfl rfl (Nat.le_of_ble_eq_true rfl) dX0_strikeOne_86 ?_
        refine g_iinc (pc := 89) (v := y22 + 1) (lv' := [(2, .int (y22 + 1)), (0, .ref a_t), (1, .int y4)]) C dX0_strikeOne_89 2 rfl rfl (by decide) rfl ?_
        refine g_goto (pc := 92) 35 C dX0_strikeOne_92 (by decide) ?_
        refine g_lv [1, 2, 0] (lv' := [(0, .ref a_t), (1, .int y4), (2, .int (y22 + 1))]) rfl ?_
        exact ih _ _ _ _ _ _ _ _ _ _ _ _ _ _ _ _ _ _ _ h kk
set_option maxHeartbeats 4000000 in
set_option maxRecDepth 100000 in
theorem lp_X0_strikeOne_22 {E : Ev} {X : Cx} {a_t a_t_now a_t_now_comes a_t_now_goes a_t_now_kindOf a_t_now_likings a_t_now_lists a_t_trial a_t_trial_county a_t_trial_county_comes a_t_trial_county_goes a_t_trial_county_kindOf a_t_trial_county_likings a_t_trial_county_lists a_t_trial_evening a_t_trial_evening_hours a_t_trial_evening_openers : Nat} (c_t_now_houses : Int32) (c_t_now_comers : Int32) (c_t_now_evening : Int32) (r_t_now_comes : (Nat → Int32)) (r_t_now_goes : (Nat → Int32)) (r_t_now_kindOf : (Nat → Int32)) (r_t_now_likings : (Nat → Int32)) (r_t_now_lists : (Nat → Int32)) (C : CX E X cX0_strikeOne RX0 3 rm_X0_strikeOne) : ∀ (n : Nat) (y4 : Int32) (y5 : Int32) (y6 : Int32) (y7 : Int32) (y8 : Int32) (y9 : Int32) (y10 : Int32) (y11 : Int32) (y12 : Int32) (y13 : (Nat → Int32)) (y14 : (Nat → Int32)) (y15 : (Nat → Int32)) (y16 : (Nat → Int32)) (y17 : (Nat → Int32)) (y18 : Int32) (y19 : Int32) (y20 : (Nat → Int32)) (y21 : (Nat → Int32)) (v : Int32 × Int32 × Int32 × Int32 × Int32 × Int32 × Int32 × Int32 × (Nat → Int32) × (Nat → Int32) × (Nat → Int32) × (Nat → Int32) × (Nat → Int32) × Int32 × Int32 × (Nat → Int32) × (Nat → Int32)), L_X0_strikeOne_22 c_t_now_houses c_t_now_comers c_t_now_evening r_t_now_comes r_t_now_goes r_t_now_kindOf r_t_now_likings r_t_now_lists n y4 y5 y6 y7 y8 y9 y10 y11 y12 y13 y14 y15 y16 y17 y18 y19 y20 y21 = some v → G E X 0 0 [oX0 a_t a_t_now a_t_trial v.1 v.2.1, oX1 a_t_now c_t_now_houses c_t_now_comers c_t_now_evening a_t_now_lists a_t_now_kindOf a_t_now_goes a_t_now_comes a_t_now_likings, aI E a_t_now_comes 6 r_t_now_comes, aI E a_t_now_goes 6 r_t_now_goes, aI E a_t_now_kindOf 6 r_t_now_kindOf, aI E a_t_now_likings 24 r_t_now_likings, aI E a_t_now_lists 4 r_t_now_lists, oX10 a_t_trial a_t_now a_t_trial_county a_t_trial_evening v.2.2.1 v.2.2.2.1 v.2.2.2.2.1, oX1 a_t_trial_county v.2.2.2.2.2.1 v.2.2.2.2.2.2.1 v.2.2.2.2.2.2.2.1 a_t_trial_county_lists a_t_trial_county_kindOf a_t_trial_county_goes a_t_trial_county_comes a_t_trial_county_likings, aI E a_t_trial_county_comes 6 v.2.2.2.2.2.2.2.2.1, aI E a_t_trial_county_goes 6 v.2.2.2.2.2.2.2.2.2.1, aI E a_t_trial_county_kindOf 6 v.2.2.2.2.2.2.2.2.2.2.1, aI E a_t_trial_county_likings 24 v.2.2.2.2.2.2.2.2.2.2.2.1, aI E a_t_trial_county_lists 4 v.2.2.2.2.2.2.2.2.2.2.2.2.1, oX2 a_t_trial_evening a_t_trial_evening_hours a_t_trial_evening_openers v.2.2.2.2.2.2.2.2.2.2.2.2.2.1 v.2.2.2.2.2.2.2.2.2.2.2.2.2.2.1, aI E a_t_trial_evening_hours 4 v.2.2.2.2.2.2.2.2.2.2.2.2.2.2.2.1, aI E a_t_trial_evening_openers 4 v.2.2.2.2.2.2.2.2.2.2.2.2.2.2.2.2] [] 101 [] → G E X 0 0 [oX0 a_t a_t_now a_t_trial y5 y6, oX1 a_t_now c_t_now_houses c_t_now_comers c_t_now_evening a_t_now_lists a_t_now_kindOf a_t_now_goes a_t_now_comes a_t_now_likings, aI E a_t_now_comes 6 r_t_now_comes, aI E a_t_now_goes 6 r_t_now_goes, aI E a_t_now_kindOf 6 r_t_now_kindOf, aI E a_t_now_likings 24 r_t_now_likings, aI E a_t_now_lists 4 r_t_now_lists, oX10 a_t_trial a_t_now a_t_trial_county a_t_trial_evening y7 y8 y9, oX1 a_t_trial_county y10 y11 y12 a_t_trial_county_lists a_t_trial_county_kindOf a_t_trial_county_goes a_t_trial_county_comes a_t_trial_county_likings, aI E a_t_trial_county_comes 6 y13, aI E a_t_trial_county_goes 6 y14, aI E a_t_trial_county_kindOf 6 y15, aI E a_t_trial_county_likings 24 y16, aI E a_t_trial_county_lists 4 y17, oX2 a_t_trial_evening a_t_trial_evening_hours a_t_trial_evening_openers y18 y19, aI E a_t_trial_evening_hours 4 y20, aI E a_t_trial_evening_openers 4 y21] [(0, .ref a_t), (1, .int y4)] 22 [] := by
  intro n
  induction n with
  | zero => intro _ _ _ _ _ _ _ _ _ _ _ _ _ _ _ _ _ _ _ h; cases h
  | succ n ih =>
    intro y4 y5 y6 y7 y8 y9 y10 y11 y12 y13 y14 y15 y16 y17 y18 y19 y20 y21 v h kk
    rw [L_X0_strikeOne_22] at h
    refine g_iload_n (pc := 22) C dX0_strikeOne_22 1 rfl ?_
    refine g_aload_n (pc := 23) C dX0_strikeOne_23 0 rfl ?_
    refine g_get (pc := 24) 0 C fl_X0_18 rfl rfl dX0_strikeOne_24 ?_
    refine g_get (pc := 27) 1 C fl_X0_30 rfl rfl dX0_strikeOne_27 ?_
    refine b_icmp_ge (pc := 30) 101 C dX0_strikeOne_30 (by decide) h (fun _ h => ?_) (fun _ h => ?_)
    · obtain rfl := Option.some.inj h
      refine g_lv [] (lv' := []) rfl ?_
      exact kk
    · refine g_iconst (pc := 33) (v := 0) C dX0_strikeOne_33 (by decide) ?_
      refine g_istore_n (pc := 34) (lv' := [(2, .int 0), (0, .ref a_t), (1, .int y4)]) C dX0_strikeOne_34 (by decide) rfl ?_
      obtain ⟨v46, hv46, h⟩ := o_bnd h
      refine g_lv [1, 2, 0] (lv' := [(0, .ref a_t), (1, .int y4), (2, .int 0)]) rfl ?_
      refine lp_X0_strikeOne_35 c_t_now_houses c_t_now_comers c_t_now_evening r_t_now_comes r_t_now_goes r_t_now_kindOf r_t_now_likings r_t_now_lists y4 C 400 _ _ _ _ _ _ _ _ _ _ _ _ _ _ _ _ _ _ _ hv46 ?_
      refine g_iinc (pc := 95) (v := y4 + 1) (lv' := [(1, .int (y4 + 1)), (0, .ref a_t)]) C dX0_strikeOne_95 1 rfl rfl (by decide) rfl ?_
      refine g_goto (pc := 98) 22 C dX0_strikeOne_98 (by decide) ?_
      refine g_lv [1, 0] (lv' := [(0, .ref a_t), (1, .int (y4 + 1))]) rfl ?_
      exact ih _ _ _ _ _ _ _ _ _ _ _ _ _ _ _ _ _ _ _ h kk
set_option maxHeartbeats 4000000 in
set_option maxRecDepth 100000 in
theorem k_X0_strikeOne (E : Ev) (a_t a_t_now a_t_now_comes a_t_now_goes a_t_now_kindOf a_t_now_likings a_t_now_lists a_t_trial a_t_trial_county a_t_trial_county_comes a_t_trial_county_goes a_t_trial_county_kindOf a_t_trial_county_likings a_t_trial_county_lists a_t_trial_evening a_t_trial_evening_hours a_t_trial_evening_openers : Nat) (c_t_plan : Int32) (c_t_dinners : Int32) (c_t_now_houses : Int32) (c_t_now_comers : Int32) (c_t_now_evening : Int32) (r_t_now_comes : (Nat → Int32)) (r_t_now_goes : (Nat → Int32)) (r_t_now_kindOf : (Nat → Int32)) (r_t_now_likings : (Nat → Int32)) (r_t_now_lists : (Nat → Int32)) (c_t_trial_evenings : Int32) (c_t_trial_waited : Int32) (c_t_trial_firstFast : Int32) (c_t_trial_county_houses : Int32) (c_t_trial_county_comers : Int32) (c_t_trial_county_evening : Int32) (r_t_trial_county_comes : (Nat → Int32)) (r_t_trial_county_goes : (Nat → Int32)) (r_t_trial_county_kindOf : (Nat → Int32)) (r_t_trial_county_likings : (Nat → Int32)) (r_t_trial_county_lists : (Nat → Int32)) (c_t_trial_evening_begun : Int32) (c_t_trial_evening_waited : Int32) (r_t_trial_evening_hours : (Nat → Int32)) (r_t_trial_evening_openers : (Nat → Int32)) (v : Int32 × Int32 × Int32 × Int32 × Int32 × Int32 × Int32 × Int32 × (Nat → Int32) × (Nat → Int32) × (Nat → Int32) × (Nat → Int32) × (Nat → Int32) × Int32 × Int32 × (Nat → Int32) × (Nat → Int32)) (h : f_X0_strikeOne c_t_plan c_t_dinners c_t_now_houses c_t_now_comers c_t_now_evening r_t_now_comes r_t_now_goes r_t_now_kindOf r_t_now_likings r_t_now_lists c_t_trial_evenings c_t_trial_waited c_t_trial_firstFast c_t_trial_county_houses c_t_trial_county_comers c_t_trial_county_evening r_t_trial_county_comes r_t_trial_county_goes r_t_trial_county_kindOf r_t_trial_county_likings r_t_trial_county_lists c_t_trial_evening_begun c_t_trial_evening_waited r_t_trial_evening_hours r_t_trial_evening_openers = some v) : Mt E yX0_strikeOne cX0_strikeOne 3 none rm_X0_strikeOne [.ref a_t] [oX0 a_t a_t_now a_t_trial c_t_plan c_t_dinners, oX1 a_t_now c_t_now_houses c_t_now_comers c_t_now_evening a_t_now_lists a_t_now_kindOf a_t_now_goes a_t_now_comes a_t_now_likings, aI E a_t_now_comes 6 r_t_now_comes, aI E a_t_now_goes 6 r_t_now_goes, aI E a_t_now_kindOf 6 r_t_now_kindOf, aI E a_t_now_likings 24 r_t_now_likings, aI E a_t_now_lists 4 r_t_now_lists, oX10 a_t_trial a_t_now a_t_trial_county a_t_trial_evening c_t_trial_evenings c_t_trial_waited c_t_trial_firstFast, oX1 a_t_trial_county c_t_trial_county_houses c_t_trial_county_comers c_t_trial_county_evening a_t_trial_county_lists a_t_trial_county_kindOf a_t_trial_county_goes a_t_trial_county_comes a_t_trial_county_likings, aI E a_t_trial_county_comes 6 r_t_trial_county_comes, aI E a_t_trial_county_goes 6 r_t_trial_county_goes, aI E a_t_trial_county_kindOf 6 r_t_trial_county_kindOf, aI E a_t_trial_county_likings 24 r_t_trial_county_likings, aI E a_t_trial_county_lists 4 r_t_trial_county_lists, oX2 a_t_trial_evening a_t_trial_evening_hours a_t_trial_evening_openers c_t_trial_evening_begun c_t_trial_evening_waited, aI E a_t_trial_evening_hours 4 r_t_trial_evening_hours, aI E a_t_trial_evening_openers 4 r_t_trial_evening_openers] [oX0 a_t a_t_now a_t_trial v.1 v.2.1, oX1 a_t_now c_t_now_houses c_t_now_comers c_t_now_evening a_t_now_lists a_t_now_kindOf a_t_now_goes a_t_now_comes a_t_now_likings, aI E a_t_now_comes 6 r_t_now_comes, aI E a_t_now_goes 6 r_t_now_goes, aI E a_t_now_kindOf 6 r_t_now_kindOf, aI E a_t_now_likings 24 r_t_now_likings, aI E a_t_now_lists 4 r_t_now_lists, oX10 a_t_trial a_t_now a_t_trial_county a_t_trial_evening v.2.2.1 v.2.2.2.1 v.2.2.2.2.1, oX1 a_t_trial_county v.2.2.2.2.2.1 v.2.2.2.2.2.2.1 v.2.2.2.2.2.2.2.1 a_t_trial_county_lists a_t_trial_county_kindOf a_t_trial_county_goes a_t_trial_county_comes a_t_trial_county_likings, aI E a_t_trial_county_comes 6 v.2.2.2.2.2.2.2.2.1, aI E a_t_trial_county_goes 6 v.2.2.2.2.2.2.2.2.2.1, aI E a_t_trial_county_kindOf 6 v.2.2.2.2.2.2.2.2.2.2.1, aI E a_t_trial_county_likings 24 v.2.2.2.2.2.2.2.2.2.2.2.1, aI E a_t_trial_county_lists 4 v.2.2.2.2.2.2.2.2.2.2.2.2.1, oX2 a_t_trial_evening a_t_trial_evening_hours a_t_trial_evening_openers v.2.2.2.2.2.2.2.2.2.2.2.2.2.1 v.2.2.2.2.2.2.2.2.2.2.2.2.2.2.1, aI E a_t_trial_evening_hours 4 v.2.2.2.2.2.2.2.2.2.2.2.2.2.2.2.1, aI E a_t_trial_evening_openers 4 v.2.2.2.2.2.2.2.2.2.2.2.2.2.2.2.2] none := by
  refine Mt.intro (lv := [(0, .ref a_t)]) (by decide +kernel) (Nat.le_of_ble_eq_true rfl) rfl (fun X C K => ?_)
  have C : CX E X cX0_strikeOne RX0 3 rm_X0_strikeOne := C
  rw [f_X0_strikeOne] at h
  refine g_aload_n (pc := 0) C dX0_strikeOne_0 0 rfl ?_
  refine g_get (pc := 1) 0 C fl_X0_22 rfl rfl dX0_strikeOne_1 ?_
  obtain ⟨v1, hv1, h⟩ := o_bnd h
  refine g_callV (pc := 4) (ws' := [oX0 a_t a_t_now a_t_trial c_t_plan c_t_dinners, oX1 a_t_now c_t_now_houses c_t_now_comers c_t_now_evening a_t_now_lists a_t_now_kindOf a_t_now_goes a_t_now_comes a_t_now_likings, aI E a_t_now_comes 6 r_t_now_comes, aI E a_t_now_goes 6 r_t_now_goes, aI E a_t_now_kindOf 6 r_t_now_kindOf, aI E a_t_now_likings 24 r_t_now_likings, aI E a_t_now_lists 4 r_t_now_lists, oX10 a_t_trial a_t_now a_t_trial_county a_t_trial_evening v1.1 v1.2.1 v1.2.2.1, oX1 a_t_trial_county v1.2.2.2.1 v1.2.2.2.2.1 v1.2.2.2.2.2.1 a_t_trial_county_lists a_t_trial_county_kindOf a_t_trial_county_goes a_t_trial_county_comes a_t_trial_county_likings, aI E a_t_trial_county_comes 6 v1.2.2.2.2.2.2.1, aI E a_t_trial_county_goes 6 v1.2.2.2.2.2.2.2.1, aI E a_t_trial_county_kindOf 6 v1.2.2.2.2.2.2.2.2.1, aI E a_t_trial_county_likings 24 v1.2.2.2.2.2.2.2.2.2.1, aI E a_t_trial_county_lists 4 v1.2.2.2.2.2.2.2.2.2.2, oX2 a_t_trial_evening a_t_trial_evening_hours a_t_trial_evening_openers c_t_trial_evening_begun c_t_trial_evening_waited, aI E a_t_trial_evening_hours 4 r_t_trial_evening_hours, aI E a_t_trial_evening_openers 4 r_t_trial_evening_openers]) (st1 := [.ref a_t_trial_county]) C mv_X0_39 (k_X10_restart E a_t_trial a_t_trial_county a_t_trial_county_comes a_t_trial_county_goes a_t_trial_county_kindOf a_t_trial_county_likings a_t_trial_county_lists a_t_now a_t_now_comes a_t_now_goes a_t_now_kindOf a_t_now_likings a_t_now_lists a_t_trial_evening c_t_trial_evenings c_t_trial_waited c_t_trial_firstFast c_t_trial_county_houses c_t_trial_county_comers c_t_trial_county_evening r_t_trial_county_comes r_t_trial_county_goes r_t_trial_county_kindOf r_t_trial_county_likings r_t_trial_county_lists c_t_now_houses c_t_now_comers c_t_now_evening r_t_now_comes r_t_now_goes r_t_now_kindOf r_t_now_likings r_t_now_lists v1 hv1) [7, 8, 9, 10, 11, 12, 13, 1, 2, 3, 4, 5, 6] rfl rfl rfl rfl 0 rfl rfl ⟨by decide, by decide⟩ ⟨rfl, rfl⟩ ⟨Nat.zero_le _, Nat.zero_le _⟩ rfl rfl rfl (Nat.le_of_ble_eq_true rfl) dX0_strikeOne_4 ?_
  refine g_pop (pc := 7) C dX0_strikeOne_7 rfl ?_
  refine g_aload_n (pc := 8) C dX0_strikeOne_8 0 rfl ?_
  refine g_aload_n (pc := 9) C dX0_strikeOne_9 0 rfl ?_
  refine g_get (pc := 10) 0 C fl_X0_22 rfl rfl dX0_strikeOne_10 ?_
  refine g_iconst (pc := 13) (v := 1) C dX0_strikeOne_13 (by decide) ?_
  obtain ⟨v2, hv2, h⟩ := o_bnd h
  refine g_callV (pc := 14) (ws' := [oX0 a_t a_t_now a_t_trial c_t_plan c_t_dinners, oX1 a_t_now c_t_now_houses c_t_now_comers c_t_now_evening a_t_now_lists a_t_now_kindOf a_t_now_goes a_t_now_comes a_t_now_likings, aI E a_t_now_comes 6 r_t_now_comes, aI E a_t_now_goes 6 r_t_now_goes, aI E a_t_now_kindOf 6 r_t_now_kindOf, aI E a_t_now_likings 24 r_t_now_likings, aI E a_t_now_lists 4 r_t_now_lists, oX10 a_t_trial a_t_now a_t_trial_county a_t_trial_evening v2.2.1 v2.2.2.1 v2.2.2.2.1, oX1 a_t_trial_county v1.2.2.2.1 v1.2.2.2.2.1 v2.2.2.2.2.1 a_t_trial_county_lists a_t_trial_county_kindOf a_t_trial_county_goes a_t_trial_county_comes a_t_trial_county_likings, aI E a_t_trial_county_comes 6 v1.2.2.2.2.2.2.1, aI E a_t_trial_county_goes 6 v1.2.2.2.2.2.2.2.1, aI E a_t_trial_county_kindOf 6 v1.2.2.2.2.2.2.2.2.1, aI E a_t_trial_county_likings 24 v2.2.2.2.2.2.1, aI E a_t_trial_county_lists 4 v1.2.2.2.2.2.2.2.2.2.2, oX2 a_t_trial_evening a_t_trial_evening_hours a_t_trial_evening_openers v2.2.2.2.2.2.2.1 v2.2.2.2.2.2.2.2.1, aI E a_t_trial_evening_hours 4 v2.2.2.2.2.2.2.2.2.1, aI E a_t_trial_evening_openers 4 v2.2.2.2.2.2.2.2.2.2]) (st1 := [.int v2.1, .ref a_t]) C mv_X0_49 (k_X10_dinnersIn E a_t_trial a_t_trial_county a_t_trial_county_comes a_t_trial_county_goes a_t_trial_county_kindOf a_t_trial_county_likings a_t_trial_county_lists a_t_trial_evening a_t_trial_evening_hours a_t_trial_evening_openers a_t_now v1.1 v1.2.1 v1.2.2.1 v1.2.2.2.1 v1.2.2.2.2.1 v1.2.2.2.2.2.1 v1.2.2.2.2.2.2.1 v1.2.2.2.2.2.2.2.1 v1.2.2.2.2.2.2.2.2.1 v1.2.2.2.2.2.2.2.2.2.1 v1.2.2.2.2.2.2.2.2.2.2 c_t_trial_evening_begun c_t_trial_evening_waited r_t_trial_evening_hours r_t_trial_evening_openers 1 v2 hv2) [7, 8, 9, 10, 11, 12, 13, 14, 15, 16] rfl rfl rfl rfl 0 rfl rfl ⟨by decide, by decide⟩ ⟨rfl, rfl⟩ ⟨Nat.zero_le _, Nat.zero_le _⟩ rfl rfl rfl (Nat.le_of_ble_eq_true rfl) dX0_strikeOne_14 ?_
  obtain ⟨v3, hv3, h⟩ := o_bnd h
  refine g_callV (pc := 17) (ws' := [oX0 a_t a_t_now a_t_trial v3.1 v3.2, oX1 a_t_now c_t_now_houses c_t_now_comers c_t_now_evening a_t_now_lists a_t_now_kindOf a_t_now_goes a_t_now_comes a_t_now_likings, aI E a_t_now_comes 6 r_t_now_comes, aI E a_t_now_goes 6 r_t_now_goes, aI E a_t_now_kindOf 6 r_t_now_kindOf, aI E a_t_now_likings 24 r_t_now_likings, aI E a_t_now_lists 4 r_t_now_lists, oX10 a_t_trial a_t_now a_t_trial_county a_t_trial_evening v2.2.1 v2.2.2.1 v2.2.2.2.1, oX1 a_t_trial_county v1.2.2.2.1 v1.2.2.2.2.1 v2.2.2.2.2.1 a_t_trial_county_lists a_t_trial_county_kindOf a_t_trial_county_goes a_t_trial_county_comes a_t_trial_county_likings, aI E a_t_trial_county_comes 6 v1.2.2.2.2.2.2.1, aI E a_t_trial_county_goes 6 v1.2.2.2.2.2.2.2.1, aI E a_t_trial_county_kindOf 6 v1.2.2.2.2.2.2.2.2.1, aI E a_t_trial_county_likings 24 v2.2.2.2.2.2.1, aI E a_t_trial_county_lists 4 v1.2.2.2.2.2.2.2.2.2.2, oX2 a_t_trial_evening a_t_trial_evening_hours a_t_trial_evening_openers v2.2.2.2.2.2.2.1 v2.2.2.2.2.2.2.2.1, aI E a_t_trial_evening_hours 4 v2.2.2.2.2.2.2.2.2.1, aI E a_t_trial_evening_openers 4 v2.2.2.2.2.2.2.2.2.2]) (st1 := []) C mv_X0_26 (k_X0_beginAt E a_t a_t_now a_t_trial c_t_plan c_t_dinners v2.1 v3 hv3) [0] rfl rfl rfl rfl 0 rfl rfl ⟨by decide, by decide⟩ ⟨rfl, rfl⟩ ⟨Nat.zero_le _, Nat.zero_le _⟩ rfl rfl rfl (Nat.le_of_ble_eq_true rfl) dX0_strikeOne_17 ?_
  refine g_iconst (pc := 20) (v := 0) C dX0_strikeOne_20 (by decide) ?_
  refine g_istore_n (pc := 21) (lv' := [(1, .int 0), (0, .ref a_t)]) C dX0_strikeOne_21 (by decide) rfl ?_
  obtain ⟨v48, hv48, h⟩ := o_bnd h
  refine g_lv [1, 0] (lv' := [(0, .ref a_t), (1, .int 0)]) rfl ?_
  refine lp_X0_strikeOne_22 c_t_now_houses c_t_now_comers c_t_now_evening r_t_now_comes r_t_now_goes r_t_now_kindOf r_t_now_likings r_t_now_lists C 400 _ _ _ _ _ _ _ _ _ _ _ _ _ _ _ _ _ _ _ hv48 ?_
  obtain rfl := Option.some.inj h
  exact g_vret (pc := 101) C K dX0_strikeOne_101
theorem dX0_bestKind_0 : decode cX0_bestKind 0 = .ok (.aload_n 0, 1) := by decide +kernel
theorem dX0_bestKind_1 : decode cX0_bestKind 1 = .ok (.iconst (-1), 1) := by decide +kernel
theorem dX0_bestKind_2 : decode cX0_bestKind 2 = .ok (.invokevirtual 26, 3) := by decide +kernel
theorem dX0_bestKind_5 : decode cX0_bestKind 5 = .ok (.iconst 0, 1) := by decide +kernel
theorem dX0_bestKind_6 : decode cX0_bestKind 6 = .ok (.istore_n 3, 1) := by decide +kernel
theorem dX0_bestKind_7 : decode cX0_bestKind 7 = .ok (.iload_n 3, 1) := by decide +kernel
theorem dX0_bestKind_8 : decode cX0_bestKind 8 = .ok (.iconst 4, 1) := by decide +kernel
theorem dX0_bestKind_9 : decode cX0_bestKind 9 = .ok (.if_icmp .ge 35, 3) := by decide +kernel
theorem dX0_bestKind_12 : decode cX0_bestKind 12 = .ok (.aload_n 0, 1) := by decide +kernel
theorem dX0_bestKind_13 : decode cX0_bestKind 13 = .ok (.getfield 22, 3) := by decide +kernel
theorem dX0_bestKind_16 : decode cX0_bestKind 16 = .ok (.invokevirtual 39, 3) := by decide +kernel
theorem dX0_bestKind_19 : decode cX0_bestKind 19 = .ok (.getfield 67, 3) := by decide +kernel
theorem dX0_bestKind_22 : decode cX0_bestKind 22 = .ok (.iload_n 1, 1) := by decide +kernel
theorem dX0_bestKind_23 : decode cX0_bestKind 23 = .ok (.iload_n 3, 1) := by decide +kernel
theorem dX0_bestKind_24 : decode cX0_bestKind 24 = .ok (.iastore, 1) := by decide +kernel
theorem dX0_bestKind_25 : decode cX0_bestKind 25 = .ok (.aload_n 0, 1) := by decide +kernel
theorem dX0_bestKind_26 : decode cX0_bestKind 26 = .ok (.iload_n 3, 1) := by decide +kernel
theorem dX0_bestKind_27 : decode cX0_bestKind 27 = .ok (.aload_n 0, 1) := by decide +kernel
theorem dX0_bestKind_28 : decode cX0_bestKind 28 = .ok (.getfield 22, 3) := by decide +kernel
theorem dX0_bestKind_31 : decode cX0_bestKind 31 = .ok (.iload_n 2, 1) := by decide +kernel
theorem dX0_bestKind_32 : decode cX0_bestKind 32 = .ok (.invokevirtual 49, 3) := by decide +kernel
theorem dX0_bestKind_35 : decode cX0_bestKind 35 = .ok (.invokevirtual 52, 3) := by decide +kernel
theorem dX0_bestKind_38 : decode cX0_bestKind 38 = .ok (.iinc 3 1, 3) := by decide +kernel
theorem dX0_bestKind_41 : decode cX0_bestKind 41 = .ok (.goto (-34), 3) := by decide +kernel
theorem dX0_bestKind_44 : decode cX0_bestKind 44 = .ok (.return_, 1) := by decide +kernel
def L_X0_bestKind_7 (c_t_now_houses : Int32) (c_t_now_comers : Int32) (c_t_now_evening : Int32) (r_t_now_comes : (Nat → Int32)) (r_t_now_goes : (Nat → Int32)) (r_t_now_kindOf : (Nat → Int32)) (r_t_now_likings : (Nat → Int32)) (r_t_now_lists : (Nat → Int32)) (x1 : Int32) (x2 : Int32) : Nat → Int32 → Int32 → Int32 → Int32 → Int32 → Int32 → Int32 → Int32 → Int32 → (Nat → Int32) → (Nat → Int32) → (Nat → Int32) → (Nat → Int32) → (Nat → Int32) → Int32 → Int32 → (Nat → Int32) → (Nat → Int32) → Option (Int32 × Int32 × Int32 × Int32 × Int32 × Int32 × Int32 × Int32 × (Nat → Int32) × (Nat → Int32) × (Nat → Int32) × (Nat → Int32) × (Nat → Int32) × Int32 × Int32 × (Nat → Int32) × (Nat → Int32))
  | 0, _, _, _, _, _, _, _, _, _, _, _, _, _, _, _, _, _, _ => none
  | n + 1, y2, y3, y4, y5, y6, y7, y8, y9, y10, y11, y12, y13, y14, y15, y16, y17, y18, y19 =>
    if 4 ≤ y2 then
      (some ((y3, y4, y5, y6, y7, y8, y9, y10, y11, y12, y13, y14, y15, y16, y17, y18, y19)))
    else
      ((f_X10_restart y5 y6 y7 y8 y9 y10 y11 y12 y13 y14 y15 c_t_now_houses c_t_now_comers c_t_now_evening r_t_now_comes r_t_now_goes r_t_now_kindOf r_t_now_likings r_t_now_lists).bind (fun (v20 : Int32 × Int32 × Int32 × Int32 × Int32 × Int32 × (Nat → Int32) × (Nat → Int32) × (Nat → Int32) × (Nat → Int32) × (Nat → Int32)) =>
        if inb x1 6 then
          ((f_X10_dinnersIn v20.1 v20.2.1 v20.2.2.1 v20.2.2.2.1 v20.2.2.2.2.1 v20.2.2.2.2.2.1 v20.2.2.2.2.2.2.1 v20.2.2.2.2.2.2.2.1 (upd v20.2.2.2.2.2.2.2.2.1 (ix x1) y2) v20.2.2.2.2.2.2.2.2.2.1 v20.2.2.2.2.2.2.2.2.2.2 y16 y17 y18 y19 x2).bind (fun (v21 : Int32 × Int32 × Int32 × Int32 × Int32 × (Nat → Int32) × Int32 × Int32 × (Nat → Int32) × (Nat → Int32)) =>
            (f_X0_weigh y3 y4 y2 v21.1).bind (fun (v22 : Int32 × Int32) =>
              L_X0_bestKind_7 c_t_now_houses c_t_now_comers c_t_now_evening r_t_now_comes r_t_now_goes r_t_now_kindOf r_t_now_likings r_t_now_lists x1 x2 n (y2 + 1) v22.1 v22.2 v21.2.1 v21.2.2.1 v21.2.2.2.1 v20.2.2.2.1 v20.2.2.2.2.1 v21.2.2.2.2.1 v20.2.2.2.2.2.2.1 v20.2.2.2.2.2.2.2.1 (upd v20.2.2.2.2.2.2.2.2.1 (ix x1) y2) v21.2.2.2.2.2.1 v20.2.2.2.2.2.2.2.2.2.2 v21.2.2.2.2.2.2.1 v21.2.2.2.2.2.2.2.1 v21.2.2.2.2.2.2.2.2.1 v21.2.2.2.2.2.2.2.2.2)))
        else none))
def f_X0_bestKind (c_t_plan : Int32) (c_t_dinners : Int32) (c_t_now_houses : Int32) (c_t_now_comers : Int32) (c_t_now_evening : Int32) (r_t_now_comes : (Nat → Int32)) (r_t_now_goes : (Nat → Int32)) (r_t_now_kindOf : (Nat → Int32)) (r_t_now_likings : (Nat → Int32)) (r_t_now_lists : (Nat → Int32)) (c_t_trial_evenings : Int32) (c_t_trial_waited : Int32) (c_t_trial_firstFast : Int32) (c_t_trial_county_houses : Int32) (c_t_trial_county_comers : Int32) (c_t_trial_county_evening : Int32) (r_t_trial_county_comes : (Nat → Int32)) (r_t_trial_county_goes : (Nat → Int32)) (r_t_trial_county_kindOf : (Nat → Int32)) (r_t_trial_county_likings : (Nat → Int32)) (r_t_trial_county_lists : (Nat → Int32)) (c_t_trial_evening_begun : Int32) (c_t_trial_evening_waited : Int32) (r_t_trial_evening_hours : (Nat → Int32)) (r_t_trial_evening_openers : (Nat → Int32)) (x1 : Int32) (x2 : Int32) : Option (Int32 × Int32 × Int32 × Int32 × Int32 × Int32 × Int32 × Int32 × (Nat → Int32) × (Nat → Int32) × (Nat → Int32) × (Nat → Int32) × (Nat → Int32) × Int32 × Int32 × (Nat → Int32) × (Nat → Int32)) :=
  (f_X0_beginAt c_t_plan c_t_dinners ((-1))).bind (fun (v1 : Int32 × Int32) =>
    (L_X0_bestKind_7 c_t_now_houses c_t_now_comers c_t_now_evening r_t_now_comes r_t_now_goes r_t_now_kindOf r_t_now_likings r_t_now_lists x1 x2 400 0 v1.1 v1.2 c_t_trial_evenings c_t_trial_waited c_t_trial_firstFast c_t_trial_county_houses c_t_trial_county_comers c_t_trial_county_evening r_t_trial_county_comes r_t_trial_county_goes r_t_trial_county_kindOf r_t_trial_county_likings r_t_trial_county_lists c_t_trial_evening_begun c_t_trial_evening_waited r_t_trial_evening_hours r_t_trial_evening_openers).bind (fun (v24 : Int32 × Int32 × Int32 × Int32 × Int32 × Int32 × Int32 × Int32 × (Nat → Int32) × (Nat → Int32) × (Nat → Int32) × (Nat → Int32) × (Nat → Int32) × Int32 × Int32 × (Nat → Int32) × (Nat → Int32)) =>
      some ((v24.1, v24.2.1, v24.2.2.1, v24.2.2.2.1, v24.2.2.2.2.1, v24.2.2.2.2.2.1, v24.2.2.2.2.2.2.1, v24.2.2.2.2.2.2.2.1, v24.2.2.2.2.2.2.2.2.1, v24.2.2.2.2.2.2.2.2.2.1, v24.2.2.2.2.2.2.2.2.2.2.1, v24.2.2.2.2.2.2.2.2.2.2.2.1, v24.2.2.2.2.2.2.2.2.2.2.2.2.1, v24.2.2.2.2.2.2.2.2.2.2.2.2.2.1, v24.2.2.2.2.2.2.2.2.2.2.2.2.2.2.1, v24.2.2.2.2.2.2.2.2.2.2.2.2.2.2.2.1, v24.2.2.2.2.2.2.2.2.2.2.2.2.2.2.2.2))))
abbrev rm_X0_bestKind : Room := { frames := 5, cells := 0, slots := 0, locals := 122 }
set_option maxHeartbeats 4000000 in
set_option maxRecDepth 100000 in
theorem lp_X0_bestKind_7 {E : Ev} {X : Cx} {a_t a_t_now a_t_now_comes a_t_now_goes a_t_now_kindOf a_t_now_likings a_t_now_lists a_t_trial a_t_trial_county a_t_trial_county_comes a_t_trial_county_goes a_t_trial_county_kindOf a_t_trial_county_likings a_t_trial_county_lists a_t_trial_evening a_t_trial_evening_hours a_t_trial_evening_openers : Nat} (c_t_now_houses : Int32) (c_t_now_comers : Int32) (c_t_now_evening : Int32) (r_t_now_comes : (Nat → Int32)) (r_t_now_goes : (Nat → Int32)) (r_t_now_kindOf : (Nat → Int32)) (r_t_now_likings : (Nat → Int32)) (r_t_now_lists : (Nat → Int32)) (x1 : Int32) (x2 : Int32) (C : CX E X cX0_bestKind RX0 4 rm_X0_bestKind) : ∀ (n : Nat) (y2 : Int32) (y3 : Int32) (y4 : Int32) (y5 : Int32) (y6 : Int32) (y7 : Int32) (y8 : Int32) (y9 : Int32) (y10 : Int32) (y11 : (Nat → Int32)) (y12 : (Nat → Int32)) (y13 : (Nat → Int32)) (y14 : (Nat → Int32)) (y15 : (Nat → Int32)) (y16 : Int32) (y17 : Int32) (y18 : (Nat → Int32)) (y19 : (Nat → Int32)) (v : Int32 × Int32 × Int32 × Int32 × Int32 × Int32 × Int32 × Int32 × (Nat → Int32) × (Nat → Int32) × (Nat → Int32) × (Nat → Int32) × (Nat → Int32) × Int32 × Int32 × (Nat → Int32) × (Nat → Int32)), L_X0_bestKind_7 c_t_now_houses c_t_now_comers c_t_now_evening r_t_now_comes r_t_now_goes r_t_now_kindOf r_t_now_likings r_t_now_lists x1 x2 n y2 y3 y4 y5 y6 y7 y8 y9 y10 y11 y12 y13 y14 y15 y16 y17 y18 y19 = some v → G E X 0 0 [oX0 a_t a_t_now a_t_trial v.1 v.2.1, oX1 a_t_now c_t_now_houses c_t_now_comers c_t_now_evening a_t_now_lists a_t_now_kindOf a_t_now_goes a_t_now_comes a_t_now_likings, aI E a_t_now_comes 6 r_t_now_comes, aI E a_t_now_goes 6 r_t_now_goes, aI E a_t_now_kindOf 6 r_t_now_kindOf, aI E a_t_now_likings 24 r_t_now_likings, aI E a_t_now_lists 4 r_t_now_lists, oX10 a_t_trial a_t_now a_t_trial_county a_t_trial_evening v.2.2.1 v.2.2.2.1 v.2.2.2.2.1, oX1 a_t_trial_county v.2.2.2.2.2.1 v.2.2.2.2.2.2.1 v.2.2.2.2.2.2.2.1 a_t_trial_county_lists a_t_trial_county_kindOf a_t_trial_county_goes a_t_trial_county_comes a_t_trial_county_likings, aI E a_t_trial_county_comes 6 v.2.2.2.2.2.2.2.2.1, aI E a_t_trial_county_goes 6 v.2.2.2.2.2.2.2.2.2.1, aI E a_t_trial_county_kindOf 6 v.2.2.2.2.2.2.2.2.2.2.1, aI E a_t_trial_county_likings 24 v.2.2.2.2.2.2.2.2.2.2.2.1, aI E a_t_trial_county_lists 4 v.2.2.2.2.2.2.2.2.2.2.2.2.1, oX2 a_t_trial_evening a_t_trial_evening_hours a_t_trial_evening_openers v.2.2.2.2.2.2.2.2.2.2.2.2.2.1 v.2.2.2.2.2.2.2.2.2.2.2.2.2.2.1, aI E a_t_trial_evening_hours 4 v.2.2.2.2.2.2.2.2.2.2.2.2.2.2.2.1, aI E a_t_trial_evening_openers 4 v.2.2.2.2.2.2.2.2.2.2.2.2.2.2.2.2] [] 44 [] → G E X 0 0 [oX0 a_t a_t_now a_t_trial y3 y4, oX1 a_t_now c_t_now_houses c_t_now_comers c_t_now_evening a_t_now_lists a_t_now_kindOf a_t_now_goes a_t_now_comes a_t_now_likings, aI E a_t_now_comes 6 r_t_now_comes, aI E a_t_now_goes 6 r_t_now_goes, aI E a_t_now_kindOf 6 r_t_now_kindOf, aI E a_t_now_likings 24 r_t_now_likings, aI E a_t_now_lists 4 r_t_now_lists, oX10 a_t_trial a_t_now a_t_trial_county a_t_trial_evening y5 y6 y7, oX1 a_t_trial_county y8 y9 y10 a_t_trial_county_lists a_t_trial_county_kindOf a_t_trial_county_goes a_t_trial_county_comes a_t_trial_county_likings, aI E a_t_trial_county_comes 6 y11, aI E a_t_trial_county_goes 6 y12, aI E a_t_trial_county_kindOf 6 y13, aI E a_t_trial_county_likings 24 y14, aI E a_t_trial_county_lists 4 y15, oX2 a_t_trial_evening a_t_trial_evening_hours a_t_trial_evening_openers y16 y17, aI E a_t_trial_evening_hours 4 y18, aI E a_t_trial_evening_openers 4 y19] [(0, .ref a_t), (1, .int x1), (2, .int x2), (3, .int y2)] 7 [] := by
  intro n
  induction n with
  | zero => intro _ _ _ _ _ _ _ _ _ _ _ _ _ _ _ _ _ _ _ h; cases h
  | succ n ih =>
    intro y2 y3 y4 y5 y6 y7 y8 y9 y10 y11 y12 y13 y14 y15 y16 y17 y18 y19 v h kk
    rw [L_X0_bestKind_7] at h
    refine g_iload_n (pc := 7) C dX0_bestKind_7 3 rfl ?_
    refine g_iconst (pc := 8) (v := 4) C dX0_bestKind_8 (by decide) ?_
    refine b_icmp_ge (pc := 9) 44 C dX0_bestKind_9 (by decide) h (fun _ h => ?_) (fun _ h => ?_)
    · obtain rfl := Option.some.inj h
      refine g_lv [] (lv' := []) rfl ?_
      exact kk
    · refine g_aload_n (pc := 12) C dX0_bestKind_12 0 rfl ?_
      refine g_get (pc := 13) 0 C fl_X0_22 rfl rfl dX0_bestKind_13 ?_
      obtain ⟨v20, hv20, h⟩ := o_bnd h
      refine g_callV (pc := 16) (ws' := [oX0 a_t a_t_now a_t_trial y3 y4, oX1 a_t_now c_t_now_houses c_t_now_comers c_t_now_evening a_t_now_lists a_t_now_kindOf a_t_now_goes a_t_now_comes a_t_now_likings, aI E a_t_now_comes 6 r_t_now_comes, aI E a_t_now_goes 6 r_t_now_goes, aI E a_t_now_kindOf 6 r_t_now_kindOf, aI E a_t_now_likings 24 r_t_now_likings, aI E a_t_now_lists 4 r_t_now_lists, oX10 a_t_trial a_t_now a_t_trial_county a_t_trial_evening v20.1 v20.2.1 v20.2.2.1, oX1 a_t_trial_county v20.2.2.2.1 v20.2.2.2.2.1 v20.2.2.2.2.2.1 a_t_trial_county_lists a_t_trial_county_kindOf a_t_trial_county_goes a_t_trial_county_comes a_t_trial_county_likings, aI E a_t_trial_county_comes 6 v20.2.2.2.2.2.2.1, aI E a_t_trial_county_goes 6 v20.2.2.2.2.2.2.2.1, aI E a_t_trial_county_kindOf 6 v20.2.2.2.2.2.2.2.2.1, aI E a_t_trial_county_likings 24 v20.2.2.2.2.2.2.2.2.2.1, aI E a_t_trial_county_lists 4 v20.2.2.2.2.2.2.2.2.2.2, oX2 a_t_trial_evening a_t_trial_evening_hours a_t_trial_evening_openers y16 y17, aI E a_t_trial_evening_hours 4 y18, aI E a_t_trial_evening_openers 4 y19]) (st1 := [.ref a_t_trial_county]) C mv_X0_39 (k_X10_restart E a_t_trial a_t_trial_county a_t_trial_county_comes a_t_trial_county_goes a_t_trial_county_kindOf a_t_trial_county_likings a_t_trial_county_lists a_t_now a_t_now_comes a_t_now_goes a_t_now_kindOf a_t_now_likings a_t_now_lists a_t_trial_evening y5 y6 y7 y8 y9 y10 y11 y12 y13 y14 y15 c_t_now_houses c_t_now_comers c_t_now_evening r_t_now_comes r_t_now_goes r_t_now_kindOf r_t_now_likings r_t_now_lists v20 hv20) [7, 8, 9, 10, 11, 12, 13, 1, 2, 3, 4, 5, 6] rfl rfl rfl rfl 0 rfl rfl ⟨by decide, by decide⟩ ⟨rfl, rfl⟩ ⟨Nat.zero_le _, Nat.zero_le _⟩ rfl rfl rfl (Nat.le_of_ble_eq_true rfl) dX0_bestKind_16 ?_
      refine g_get (pc := 19) 8 C fl_X0_67 rfl rfl dX0_bestKind_19 ?_
      refine g_iload_n (pc := 22) C dX0_bestKind_22 1 rfl ?_
      refine g_iload_n (pc := 23) C dX0_bestKind_23 3 rfl ?_
      refine b_iast (pc := 24) (ws' := [oX0 a_t a_t_now a_t_trial y3 y4, oX1 a_t_now c_t_now_houses c_t_now_comers c_t_now_evening a_t_now_lists a_t_now_kindOf a_t_now_goes a_t_now_comes a_t_now_likings, aI E a_t_now_comes 6 r_t_now_comes, aI E a_t_now_goes 6 r_t_now_goes, aI E a_t_now_kindOf 6 r_t_now_kindOf, aI E a_t_now_likings 24 r_t_now_likings, aI E a_t_now_lists 4 r_t_now_lists, oX10 a_t_trial a_t_now a_t_trial_county a_t_trial_evening v20.1 v20.2.1 v20.2.2.1, oX1 a_t_trial_county v20.2.2.2.1 v20.2.2.2.2.1 v20.2.2.2.2.2.1 a_t_trial_county_lists a_t_trial_county_kindOf a_t_trial_county_goes a_t_trial_county_comes a_t_trial_county_likings, aI E a_t_trial_county_comes 6 v20.2.2.2.2.2.2.1, aI E a_t_trial_county_goes 6 v20.2.2.2.2.2.2.2.1, aI E a_t_trial_county_kindOf 6 (upd v20.2.2.2.2.2.2.2.2.1 (ix x1) y2), aI E a_t_trial_county_likings 24 v20.2.2.2.2.2.2.2.2.2.1, aI E a_t_trial_county_lists 4 v20.2.2.2.2.2.2.2.2.2.2, oX2 a_t_trial_evening a_t_trial_evening_hours a_t_trial_evening_openers y16 y17, aI E a_t_trial_evening_hours 4 y18, aI E a_t_trial_evening_openers 4 y19]) 11 C rfl rfl dX0_bestKind_24 h (fun _ h => ?_)
      refine g_aload_n (pc := 25) C dX0_bestKind_25 0 rfl ?_
      refine g_iload_n (pc := 26) C dX0_bestKind_26 3 rfl ?_
      refine g_aload_n (pc := 27) C dX0_bestKind_27 0 rfl ?_
      refine g_get (pc := 28) 0 C fl_X0_22 rfl rfl dX0_bestKind_28 ?_
      refine g_iload_n (pc := 31) C dX0_bestKind_31 2 rfl ?_
      obtain ⟨v21, hv21, h⟩ := o_bnd h
      refine g_callV (pc := 32) (ws' := [oX0 a_t a_t_now a_t_trial y3 y4, oX1 a_t_now c_t_now_houses c_t_now_comers c_t_now_evening a_t_now_lists a_t_now_kindOf a_t_now_goes a_t_now_comes a_t_now_likings, aI E a_t_now_comes 6 r_t_now_comes, aI E a_t_now_goes 6 r_t_now_goes, aI E a_t_now_kindOf 6 r_t_now_kindOf, aI E a_t_now_likings 24 r_t_now_likings, aI E a_t_now_lists 4 r_t_now_lists, oX10 a_t_trial a_t_now a_t_trial_county a_t_trial_evening v21.2.1 v21.2.2.1 v21.2.2.2.1, oX1 a_t_trial_county v20.2.2.2.1 v20.2.2.2.2.1 v21.2.2.2.2.1 a_t_trial_county_lists a_t_trial_county_kindOf a_t_trial_county_goes a_t_trial_county_comes a_t_trial_county_likings, aI E a_t_trial_county_comes 6 v20.2.2.2.2.2.2.1, aI E a_t_trial_county_goes 6 v20.2.2.2.2.2.2.2.1, aI E a_t_trial_county_kindOf 6 (upd v20.2.2.2.2.2.2.2.2.1 (ix x1) y2), aI E a_t_trial_county_likings 24 v21.2.2.2.2.2.1, aI E a_t_trial_county_lists 4 v20.2.2.2.2.2.2.2.2.2.2, oX2 a_t_trial_evening a_t_trial_evening_hours a_t_trial_evening_openers v21.2.2.2.2.2.2.1 v21.2.2.2.2.2.2.2.1, aI E a_t_trial_evening_hours 4 v21.2.2.2.2.2.2.2.2.1, aI E a_t_trial_evening_openers 4 v21.2.2.2.2.2.2.2.2.2]) (st1 := [.int v21.1, .int y2, .ref a_t]) C mv_X0_49 (k_X10_dinnersIn E a_t_trial a_t_trial_county a_t_trial_county_comes a_t_trial_county_goes a_t_trial_county_kindOf a_t_trial_county_likings a_t_trial_county_lists a_t_trial_evening a_t_trial_evening_hours a_t_trial_evening_openers a_t_now v20.1 v20.2.1 v20.2.2.1 v20.2.2.2.1 v20.2.2.2.2.1 v20.2.2.2.2.2.1 v20.2.2.2.2.2.2.1 v20.2.2.2.2.2.2.2.1 (upd v20.2.2.2.2.2.2.2.2.1 (ix x1) y2) v20.2.2.2.2.2.2.2.2.2.1 v20.2.2.2.2.2.2.2.2.2.2 y16 y17 y18 y19 x2 v21 hv21) [7, 8, 9, 10, 11, 12, 13, 14, 15, 16] rfl rfl rfl rfl 0 rfl rfl ⟨by decide, by decide⟩ ⟨rfl, rfl⟩ ⟨Nat.zero_le _, Nat.zero_le _⟩ rfl rfl rfl (Nat.le_of_ble_eq_true rfl) dX0_bestKind_32 ?_
      obtain ⟨v22, hv22, h⟩ := o_bnd h
      refine g_callV (pc := 35) (ws' := [oX0 a_t a_t_now a_t_trial v22.1 v22.2, oX1 a_t_now c_t_now_houses c_t_now_comers c_t_now_evening a_t_now_lists a_t_now_kindOf a_t_now_goes a_t_now_comes a_t_now_likings, aI E a_t_now_comes 6 r_t_now_comes, aI E a_t_now_goes 6 r_t_now_goes, aI E a_t_now_kindOf 6 r_t_now_kindOf, aI E a_t_now_likings 24 r_t_now_likings, aI E a_t_now_lists 4 r_t_now_lists, oX10 a_t_trial a_t_now a_t_trial_county a_t_trial_evening v21.2.1 v21.2.2.1 v21.2.2.2.1, oX1 a_t_trial_county v20.2.2.2.1 v20.2.2.2.2.1 v21.2.2.2.2.1 a_t_trial_county_lists a_t_trial_county_kindOf a_t_trial_county_goes a_t_trial_county_comes a_t_trial_county_likings, aI E a_t_trial_county_comes 6 v20.2.2.2.2.2.2.1, aI E a_t_trial_county_goes 6 v20.2.2.2.2.2.2.2.1, aI E a_t_trial_county_kindOf 6 (upd v20.2.2.2.2.2.2.2.2.1 (ix x1) y2), aI E a_t_trial_county_likings 24 v21.2.2.2.2.2.1, aI E a_t_trial_county_lists 4 v20.2.2.2.2.2.2.2.2.2.2, oX2 a_t_trial_evening a_t_trial_evening_hours a_t_trial_evening_openers v21.2.2.2.2.2.2.1 v21.2.2.2.2.2.2.2.1, aI E a_t_trial_evening_hours 4 v21.2.2.2.2.2.2.2.2.1, aI E a_t_trial_evening_openers 4 v21.2.2.2.2.2.2.2.2.2]) (st1 := []) C mv_X0_52 (k_X0_weigh E a_t a_t_now a_t_trial y3 y4 y2 v21.1 v22 hv22) [0] rfl rfl rfl rfl 0 rfl rfl ⟨by decide, by decide⟩ ⟨rfl, rfl⟩ ⟨Nat.zero_le _, Nat.zero_le _⟩ rfl rfl rfl (Nat.le_of_ble_eq_true rfl) dX0_bestKind_35 ?_
      refine g_iinc (pc := 38) (v := y2 + 1) (lv' := [(3, .int (y2 + 1)), (0, .ref a_t), (1, .int x1), (2, .int x2)]) C dX0_bestKind_38 3 rfl rfl (by decide) rfl ?_
      refine g_goto (pc := 41) 7 C dX0_bestKind_41 (by decide) ?_
      refine g_lv [1, 2, 3, 0] (lv' := [(0, .ref a_t), (1, .int x1), (2, .int x2), (3, .int (y2 + 1))]) rfl ?_
      exact ih _ _ _ _ _ _ _ _ _ _ _ _ _ _ _ _ _ _ _ h kk
set_option maxHeartbeats 4000000 in
set_option maxRecDepth 100000 in
theorem k_X0_bestKind (E : Ev) (a_t a_t_now a_t_now_comes a_t_now_goes a_t_now_kindOf a_t_now_likings a_t_now_lists a_t_trial a_t_trial_county a_t_trial_county_comes a_t_trial_county_goes a_t_trial_county_kindOf a_t_trial_county_likings a_t_trial_county_lists a_t_trial_evening a_t_trial_evening_hours a_t_trial_evening_openers : Nat) (c_t_plan : Int32) (c_t_dinners : Int32) (c_t_now_houses : Int32) (c_t_now_comers : Int32) (c_t_now_evening : Int32) (r_t_now_comes : (Nat → Int32)) (r_t_now_goes : (Nat → Int32)) (r_t_now_kindOf : (Nat → Int32)) (r_t_now_likings : (Nat → Int32)) (r_t_now_lists : (Nat → Int32)) (c_t_trial_evenings : Int32) (c_t_trial_waited : Int32) (c_t_trial_firstFast : Int32) (c_t_trial_county_houses : Int32) (c_t_trial_county_comers : Int32) (c_t_trial_county_evening : Int32) (r_t_trial_county_comes : (Nat → Int32)) (r_t_trial_county_goes : (Nat → Int32)) (r_t_trial_county_kindOf : (Nat → Int32)) (r_t_trial_county_likings : (Nat → Int32)) (r_t_trial_county_lists : (Nat → Int32)) (c_t_trial_evening_begun : Int32) (c_t_trial_evening_waited : Int32) (r_t_trial_evening_hours : (Nat → Int32)) (r_t_trial_evening_openers : (Nat → Int32)) (x1 : Int32) (x2 : Int32) (v : Int32 × Int32 × Int32 × Int32 × Int32 × Int32 × Int32 × Int32 × (Nat → Int32) × (Nat → Int32) × (Nat → Int32) × (Nat → Int32) × (Nat → Int32) × Int32 × Int32 × (Nat → Int32) × (Nat → Int32)) (h : f_X0_bestKind c_t_plan c_t_dinners c_t_now_houses c_t_now_comers c_t_now_evening r_t_now_comes r_t_now_goes r_t_now_kindOf r_t_now_likings r_t_now_lists c_t_trial_evenings c_t_trial_waited c_t_trial_firstFast c_t_trial_county_houses c_t_trial_county_comers c_t_trial_county_evening r_t_trial_county_comes r_t_trial_county_goes r_t_trial_county_kindOf r_t_trial_county_likings r_t_trial_county_lists c_t_trial_evening_begun c_t_trial_evening_waited r_t_trial_evening_hours r_t_trial_evening_openers x1 x2 = some v) : Mt E yX0_bestKind cX0_bestKind 4 none rm_X0_bestKind [.ref a_t, .int x1, .int x2] [oX0 a_t a_t_now a_t_trial c_t_plan c_t_dinners, oX1 a_t_now c_t_now_houses c_t_now_comers c_t_now_evening a_t_now_lists a_t_now_kindOf a_t_now_goes a_t_now_comes a_t_now_likings, aI E a_t_now_comes 6 r_t_now_comes, aI E a_t_now_goes 6 r_t_now_goes, aI E a_t_now_kindOf 6 r_t_now_kindOf, aI E a_t_now_likings 24 r_t_now_likings, aI E a_t_now_lists 4 r_t_now_lists, oX10 a_t_trial a_t_now a_t_trial_county a_t_trial_evening c_t_trial_evenings c_t_trial_waited c_t_trial_firstFast, oX1 a_t_trial_county c_t_trial_county_houses c_t_trial_county_comers c_t_trial_county_evening a_t_trial_county_lists a_t_trial_county_kindOf a_t_trial_county_goes a_t_trial_county_comes a_t_trial_county_likings, aI E a_t_trial_county_comes 6 r_t_trial_county_comes, aI E a_t_trial_county_goes 6 r_t_trial_county_goes, aI E a_t_trial_county_kindOf 6 r_t_trial_county_kindOf, aI E a_t_trial_county_likings 24 r_t_trial_county_likings, aI E a_t_trial_county_lists 4 r_t_trial_county_lists, oX2 a_t_trial_evening a_t_trial_evening_hours a_t_trial_evening_openers c_t_trial_evening_begun c_t_trial_evening_waited, aI E a_t_trial_evening_hours 4 r_t_trial_evening_hours, aI E a_t_trial_evening_openers 4 r_t_trial_evening_openers] [oX0 a_t a_t_now a_t_trial v.1 v.2.1, oX1 a_t_now c_t_now_houses c_t_now_comers c_t_now_evening a_t_now_lists a_t_now_kindOf a_t_now_goes a_t_now_comes a_t_now_likings, aI E a_t_now_comes 6 r_t_now_comes, aI E a_t_now_goes 6 r_t_now_goes, aI E a_t_now_kindOf 6 r_t_now_kindOf, aI E a_t_now_likings 24 r_t_now_likings, aI E a_t_now_lists 4 r_t_now_lists, oX10 a_t_trial a_t_now a_t_trial_county a_t_trial_evening v.2.2.1 v.2.2.2.1 v.2.2.2.2.1, oX1 a_t_trial_county v.2.2.2.2.2.1 v.2.2.2.2.2.2.1 v.2.2.2.2.2.2.2.1 a_t_trial_county_lists a_t_trial_county_kindOf a_t_trial_county_goes a_t_trial_county_comes a_t_trial_county_likings, aI E a_t_trial_county_comes 6 v.2.2.2.2.2.2.2.2.1, aI E a_t_trial_county_goes 6 v.2.2.2.2.2.2.2.2.2.1, aI E a_t_trial_county_kindOf 6 v.2.2.2.2.2.2.2.2.2.2.1, aI E a_t_trial_county_likings 24 v.2.2.2.2.2.2.2.2.2.2.2.1, aI E a_t_trial_county_lists 4 v.2.2.2.2.2.2.2.2.2.2.2.2.1, oX2 a_t_trial_evening a_t_trial_evening_hours a_t_trial_evening_openers v.2.2.2.2.2.2.2.2.2.2.2.2.2.1 v.2.2.2.2.2.2.2.2.2.2.2.2.2.2.1, aI E a_t_trial_evening_hours 4 v.2.2.2.2.2.2.2.2.2.2.2.2.2.2.2.1, aI E a_t_trial_evening_openers 4 v.2.2.2.2.2.2.2.2.2.2.2.2.2.2.2.2] none := by
  refine Mt.intro (lv := [(0, .ref a_t), (1, .int x1), (2, .int x2)]) (by decide +kernel) (Nat.le_of_ble_eq_true rfl) rfl (fun X C K => ?_)
  have C : CX E X cX0_bestKind RX0 4 rm_X0_bestKind := C
  rw [f_X0_bestKind] at h
  refine g_aload_n (pc := 0) C dX0_bestKind_0 0 rfl ?_
  refine g_iconst (pc := 1) (v := (-1)) C dX0_bestKind_1 (by decide) ?_
  obtain ⟨v1, hv1, h⟩ := o_bnd h
  refine g_callV (pc := 2) (ws' := [oX0 a_t a_t_now a_t_trial v1.1 v1.2, oX1 a_t_now c_t_now_houses c_t_now_comers c_t_now_evening a_t_now_lists a_t_now_kindOf a_t_now_goes a_t_now_comes a_t_now_likings, aI E a_t_now_comes 6 r_t_now_comes, aI E a_t_now_goes 6 r_t_now_goes, aI E a_t_now_kindOf 6 r_t_now_kindOf, aI E a_t_now_likings 24 r_t_now_likings, aI E a_t_now_lists 4 r_t_now_lists, oX10 a_t_trial a_t_now a_t_trial_county a_t_trial_evening c_t_trial_evenings c_t_trial_waited c_t_trial_firstFast, oX1 a_t_trial_county c_t_trial_county_houses c_t_trial_county_comers c_t_trial_county_evening a_t_trial_county_lists a_t_trial_county_kindOf a_t_trial_county_goes a_t_trial_county_comes a_t_trial_county_likings, aI E a_t_trial_county_comes 6 r_t_trial_county_comes, aI E a_t_trial_county_goes 6 r_t_trial_county_goes, aI E a_t_trial_county_kindOf 6 r_t_trial_county_kindOf, aI E a_t_trial_county_likings 24 r_t_trial_county_likings, aI E a_t_trial_county_lists 4 r_t_trial_county_lists, oX2 a_t_trial_evening a_t_trial_evening_hours a_t_trial_evening_openers c_t_trial_evening_begun c_t_trial_evening_waited, aI E a_t_trial_evening_hours 4 r_t_trial_evening_hours, aI E a_t_trial_evening_openers 4 r_t_trial_evening_openers]) (st1 := []) C mv_X0_26 (k_X0_beginAt E a_t a_t_now a_t_trial c_t_plan c_t_dinners ((-1)) v1 hv1) [0] rfl rfl rfl rfl 0 rfl rfl ⟨by decide, by decide⟩ ⟨rfl, rfl⟩ ⟨Nat.zero_le _, Nat.zero_le _⟩ rfl rfl rfl (Nat.le_of_ble_eq_true rfl) dX0_bestKind_2 ?_
  refine g_iconst (pc := 5) (v := 0) C dX0_bestKind_5 (by decide) ?_
  refine g_istore_n (pc := 6) (lv' := [(3, .int 0), (0, .ref a_t), (1, .int x1), (2, .int x2)]) C dX0_bestKind_6 (by decide) rfl ?_
  obtain ⟨v24, hv24, h⟩ := o_bnd h
  refine g_lv [1, 2, 3, 0] (lv' := [(0, .ref a_t), (1, .int x1), (2, .int x2), (3, .int 0)]) rfl ?_
  refine lp_X0_bestKind_7 c_t_now_houses c_t_now_comers c_t_now_evening r_t_now_comes r_t_now_goes r_t_now_kindOf r_t_now_likings r_t_now_lists x1 x2 C 400 _ _ _ _ _ _ _ _ _ _ _ _ _ _ _ _ _ _ _ hv24 ?_
  obtain rfl := Option.some.inj h
  exact g_vret (pc := 44) C K dX0_bestKind_44
theorem dX0_latestHour_0 : decode cX0_latestHour 0 = .ok (.aload_n 0, 1) := by decide +kernel
theorem dX0_latestHour_1 : decode cX0_latestHour 1 = .ok (.getfield 18, 3) := by decide +kernel
theorem dX0_latestHour_4 : decode cX0_latestHour 4 = .ok (.getfield 45, 3) := by decide +kernel
theorem dX0_latestHour_7 : decode cX0_latestHour 7 = .ok (.iload_n 1, 1) := by decide +kernel
theorem dX0_latestHour_8 : decode cX0_latestHour 8 = .ok (.iaload, 1) := by decide +kernel
theorem dX0_latestHour_9 : decode cX0_latestHour 9 = .ok (.istore_n 2, 1) := by decide +kernel
theorem dX0_latestHour_10 : decode cX0_latestHour 10 = .ok (.iload_n 2, 1) := by decide +kernel
theorem dX0_latestHour_11 : decode cX0_latestHour 11 = .ok (.bipush 9, 2) := by decide +kernel
theorem dX0_latestHour_13 : decode cX0_latestHour 13 = .ok (.if_icmp .ne 6, 3) := by decide +kernel
theorem dX0_latestHour_16 : decode cX0_latestHour 16 = .ok (.bipush (-4), 2) := by decide +kernel
theorem dX0_latestHour_18 : decode cX0_latestHour 18 = .ok (.ireturn, 1) := by decide +kernel
theorem dX0_latestHour_19 : decode cX0_latestHour 19 = .ok (.bipush 6, 2) := by decide +kernel
theorem dX0_latestHour_21 : decode cX0_latestHour 21 = .ok (.istore_n 3, 1) := by decide +kernel
theorem dX0_latestHour_22 : decode cX0_latestHour 22 = .ok (.iload_n 3, 1) := by decide +kernel
theorem dX0_latestHour_23 : decode cX0_latestHour 23 = .ok (.ifCond .lt 49, 3) := by decide +kernel
theorem dX0_latestHour_26 : decode cX0_latestHour 26 = .ok (.aload_n 0, 1) := by decide +kernel
theorem dX0_latestHour_27 : decode cX0_latestHour 27 = .ok (.getfield 22, 3) := by decide +kernel
theorem dX0_latestHour_30 : decode cX0_latestHour 30 = .ok (.invokevirtual 39, 3) := by decide +kernel
theorem dX0_latestHour_33 : decode cX0_latestHour 33 = .ok (.getfield 70, 3) := by decide +kernel
theorem dX0_latestHour_36 : decode cX0_latestHour 36 = .ok (.iload_n 1, 1) := by decide +kernel
theorem dX0_latestHour_37 : decode cX0_latestHour 37 = .ok (.iload_n 3, 1) := by decide +kernel
theorem dX0_latestHour_38 : decode cX0_latestHour 38 = .ok (.iastore, 1) := by decide +kernel
theorem dX0_latestHour_39 : decode cX0_latestHour 39 = .ok (.aload_n 0, 1) := by decide +kernel
theorem dX0_latestHour_40 : decode cX0_latestHour 40 = .ok (.getfield 22, 3) := by decide +kernel
theorem dX0_latestHour_43 : decode cX0_latestHour 43 = .ok (.getfield 73, 3) := by decide +kernel
theorem dX0_latestHour_46 : decode cX0_latestHour 46 = .ok (.aload_n 0, 1) := by decide +kernel
theorem dX0_latestHour_47 : decode cX0_latestHour 47 = .ok (.getfield 22, 3) := by decide +kernel
theorem dX0_latestHour_50 : decode cX0_latestHour 50 = .ok (.getfield 77, 3) := by decide +kernel
theorem dX0_latestHour_53 : decode cX0_latestHour 53 = .ok (.iload_n 2, 1) := by decide +kernel
theorem dX0_latestHour_54 : decode cX0_latestHour 54 = .ok (.bipush 63, 2) := by decide +kernel
theorem dX0_latestHour_56 : decode cX0_latestHour 56 = .ok (.invokevirtual 80, 3) := by decide +kernel
theorem dX0_latestHour_59 : decode cX0_latestHour 59 = .ok (.bipush 7, 2) := by decide +kernel
theorem dX0_latestHour_61 : decode cX0_latestHour 61 = .ok (.if_icmp .eq 5, 3) := by decide +kernel
theorem dX0_latestHour_64 : decode cX0_latestHour 64 = .ok (.iload_n 3, 1) := by decide +kernel
theorem dX0_latestHour_65 : decode cX0_latestHour 65 = .ok (.ireturn, 1) := by decide +kernel
theorem dX0_latestHour_66 : decode cX0_latestHour 66 = .ok (.iinc 3 (-1), 3) := by decide +kernel
theorem dX0_latestHour_69 : decode cX0_latestHour 69 = .ok (.goto (-47), 3) := by decide +kernel
theorem dX0_latestHour_72 : decode cX0_latestHour 72 = .ok (.bipush (-4), 2) := by decide +kernel
theorem dX0_latestHour_74 : decode cX0_latestHour 74 = .ok (.ireturn, 1) := by decide +kernel
def L_X0_latestHour_22 (c_t_now_houses : Int32) (c_t_now_comers : Int32) (c_t_now_evening : Int32) (r_t_now_comes : (Nat → Int32)) (r_t_now_goes : (Nat → Int32)) (r_t_now_kindOf : (Nat → Int32)) (r_t_now_likings : (Nat → Int32)) (r_t_now_lists : (Nat → Int32)) (x1 : Int32) : Nat → Int32 → Int32 → Int32 → Int32 → Int32 → Int32 → Int32 → (Nat → Int32) → (Nat → Int32) → (Nat → Int32) → (Nat → Int32) → (Nat → Int32) → (Nat → Int32) → (Nat → Int32) → Option ((Int32 × Int32 × Int32 × Int32 × Int32 × Int32 × Int32 × (Nat → Int32) × (Nat → Int32) × (Nat → Int32) × (Nat → Int32) × (Nat → Int32) × (Nat → Int32) × (Nat → Int32)) ⊕ (Int32 × Int32 × Int32 × Int32 × Int32 × Int32 × (Nat → Int32) × (Nat → Int32) × (Nat → Int32) × (Nat → Int32) × (Nat → Int32) × (Nat → Int32) × (Nat → Int32)))
  | 0, _, _, _, _, _, _, _, _, _, _, _, _, _, _ => none
  | n + 1, y1, y2, y3, y4, y5, y6, y7, y8, y9, y10, y11, y12, y13, y14 =>
    if y1 < 0 then
      (some (.inr ((y2, y3, y4, y5, y6, y7, y8, y9, y10, y11, y12, y13, y14))))
    else
      ((f_X10_restart y2 y3 y4 y5 y6 y7 y8 y9 y10 y11 y12 c_t_now_houses c_t_now_comers c_t_now_evening r_t_now_comes r_t_now_goes r_t_now_kindOf r_t_now_likings r_t_now_lists).bind (fun (v15 : Int32 × Int32 × Int32 × Int32 × Int32 × Int32 × (Nat → Int32) × (Nat → Int32) × (Nat → Int32) × (Nat → Int32) × (Nat → Int32)) =>
        if inb x1 6 then
          ((f_X2_holdAt y13 y14 v15.2.2.2.2.1 (upd v15.2.2.2.2.2.2.1 (ix x1) y1) v15.2.2.2.2.2.2.2.1 v15.2.2.2.2.2.2.2.2.1 v15.2.2.2.2.2.2.2.2.2.1 v15.2.2.2.2.2.2.2.2.2.2 (r_t_now_goes (ix x1)) 63).bind (fun (v16 : Int32 × (Nat → Int32) × (Nat → Int32) × (Nat → Int32)) =>
            if v16.1 = 7 then
              (L_X0_latestHour_22 c_t_now_houses c_t_now_comers c_t_now_evening r_t_now_comes r_t_now_goes r_t_now_kindOf r_t_now_likings r_t_now_lists x1 n (y1 + (-1)) v15.1 v15.2.1 v15.2.2.1 v15.2.2.2.1 v15.2.2.2.2.1 v15.2.2.2.2.2.1 (upd v15.2.2.2.2.2.2.1 (ix x1) y1) v15.2.2.2.2.2.2.2.1 v15.2.2.2.2.2.2.2.2.1 v16.2.2.2 v15.2.2.2.2.2.2.2.2.2.2 v16.2.1 v16.2.2.1)
            else
              (some (.inl ((y1, v15.1, v15.2.1, v15.2.2.1, v15.2.2.2.1, v15.2.2.2.2.1, v15.2.2.2.2.2.1, upd v15.2.2.2.2.2.2.1 (ix x1) y1, v15.2.2.2.2.2.2.2.1, v15.2.2.2.2.2.2.2.2.1, v16.2.2.2, v15.2.2.2.2.2.2.2.2.2.2, v16.2.1, v16.2.2.1))))))
        else none))
def f_X0_latestHour (c_t_now_houses : Int32) (c_t_now_comers : Int32) (c_t_now_evening : Int32) (r_t_now_comes : (Nat → Int32)) (r_t_now_goes : (Nat → Int32)) (r_t_now_kindOf : (Nat → Int32)) (r_t_now_likings : (Nat → Int32)) (r_t_now_lists : (Nat → Int32)) (c_t_trial_evenings : Int32) (c_t_trial_waited : Int32) (c_t_trial_firstFast : Int32) (c_t_trial_county_houses : Int32) (c_t_trial_county_comers : Int32) (c_t_trial_county_evening : Int32) (r_t_trial_county_comes : (Nat → Int32)) (r_t_trial_county_goes : (Nat → Int32)) (r_t_trial_county_kindOf : (Nat → Int32)) (r_t_trial_county_likings : (Nat → Int32)) (r_t_trial_county_lists : (Nat → Int32)) (r_t_trial_evening_hours : (Nat → Int32)) (r_t_trial_evening_openers : (Nat → Int32)) (x1 : Int32) : Option (Int32 × Int32 × Int32 × Int32 × Int32 × Int32 × Int32 × (Nat → Int32) × (Nat → Int32) × (Nat → Int32) × (Nat → Int32) × (Nat → Int32) × (Nat → Int32) × (Nat → Int32)) :=
  if inb x1 6 then
    (if (r_t_now_goes (ix x1)) = 9 then
      (some (((-4), c_t_trial_evenings, c_t_trial_waited, c_t_trial_firstFast, c_t_trial_county_houses, c_t_trial_county_comers, c_t_trial_county_evening, r_t_trial_county_comes, r_t_trial_county_goes, r_t_trial_county_kindOf, r_t_trial_county_likings, r_t_trial_county_lists, r_t_trial_evening_hours, r_t_trial_evening_openers)))
    else
      ((L_X0_latestHour_22 c_t_now_houses c_t_now_comers c_t_now_evening r_t_now_comes r_t_now_goes r_t_now_kindOf r_t_now_likings r_t_now_lists x1 400 6 c_t_trial_evenings c_t_trial_waited c_t_trial_firstFast c_t_trial_county_houses c_t_trial_county_comers c_t_trial_county_evening r_t_trial_county_comes r_t_trial_county_goes r_t_trial_county_kindOf r_t_trial_county_likings r_t_trial_county_lists r_t_trial_evening_hours r_t_trial_evening_openers).bind (fun o => sel (fun (w19 : Int32 × Int32 × Int32 × Int32 × Int32 × Int32 × Int32 × (Nat → Int32) × (Nat → Int32) × (Nat → Int32) × (Nat → Int32) × (Nat → Int32) × (Nat → Int32) × (Nat → Int32)) => some w19) (fun (v18 : Int32 × Int32 × Int32 × Int32 × Int32 × Int32 × (Nat → Int32) × (Nat → Int32) × (Nat → Int32) × (Nat → Int32) × (Nat → Int32) × (Nat → Int32) × (Nat → Int32)) =>
        some (((-4), v18.1, v18.2.1, v18.2.2.1, v18.2.2.2.1, v18.2.2.2.2.1, v18.2.2.2.2.2.1, v18.2.2.2.2.2.2.1, v18.2.2.2.2.2.2.2.1, v18.2.2.2.2.2.2.2.2.1, v18.2.2.2.2.2.2.2.2.2.1, v18.2.2.2.2.2.2.2.2.2.2.1, v18.2.2.2.2.2.2.2.2.2.2.2.1, v18.2.2.2.2.2.2.2.2.2.2.2.2))) o)))
  else none
abbrev rm_X0_latestHour : Room := { frames := 4, cells := 0, slots := 0, locals := 122 }
set_option maxHeartbeats 4000000 in
set_option maxRecDepth 100000 in
theorem lp_X0_latestHour_22 {E : Ev} {X : Cx} {a_t a_t_now a_t_now_comes a_t_now_goes a_t_now_kindOf a_t_now_likings a_t_now_lists a_t_trial a_t_trial_county a_t_trial_county_comes a_t_trial_county_goes a_t_trial_county_kindOf a_t_trial_county_likings a_t_trial_county_lists a_t_trial_evening a_t_trial_evening_hours a_t_trial_evening_openers : Nat} (c_t_plan : Int32) (c_t_dinners : Int32) (c_t_now_houses : Int32) (c_t_now_comers : Int32) (c_t_now_evening : Int32) (r_t_now_comes : (Nat → Int32)) (r_t_now_goes : (Nat → Int32)) (r_t_now_kindOf : (Nat → Int32)) (r_t_now_likings : (Nat → Int32)) (r_t_now_lists : (Nat → Int32)) (c_t_trial_evening_begun : Int32) (c_t_trial_evening_waited : Int32) (x1 : Int32) (C : CX E X cX0_latestHour RX0 4 rm_X0_latestHour) : ∀ (n : Nat) (y1 : Int32) (y2 : Int32) (y3 : Int32) (y4 : Int32) (y5 : Int32) (y6 : Int32) (y7 : Int32) (y8 : (Nat → Int32)) (y9 : (Nat → Int32)) (y10 : (Nat → Int32)) (y11 : (Nat → Int32)) (y12 : (Nat → Int32)) (y13 : (Nat → Int32)) (y14 : (Nat → Int32)) (o : ((Int32 × Int32 × Int32 × Int32 × Int32 × Int32 × Int32 × (Nat → Int32) × (Nat → Int32) × (Nat → Int32) × (Nat → Int32) × (Nat → Int32) × (Nat → Int32) × (Nat → Int32)) ⊕ (Int32 × Int32 × Int32 × Int32 × Int32 × Int32 × (Nat → Int32) × (Nat → Int32) × (Nat → Int32) × (Nat → Int32) × (Nat → Int32) × (Nat → Int32) × (Nat → Int32)))), L_X0_latestHour_22 c_t_now_houses c_t_now_comers c_t_now_evening r_t_now_comes r_t_now_goes r_t_now_kindOf r_t_now_likings r_t_now_lists x1 n y1 y2 y3 y4 y5 y6 y7 y8 y9 y10 y11 y12 y13 y14 = some o → (∀ w, o = .inl w → QK E X 0 0 (some .int) [oX0 a_t a_t_now a_t_trial c_t_plan c_t_dinners, oX1 a_t_now c_t_now_houses c_t_now_comers c_t_now_evening a_t_now_lists a_t_now_kindOf a_t_now_goes a_t_now_comes a_t_now_likings, aI E a_t_now_comes 6 r_t_now_comes, aI E a_t_now_goes 6 r_t_now_goes, aI E a_t_now_kindOf 6 r_t_now_kindOf, aI E a_t_now_likings 24 r_t_now_likings, aI E a_t_now_lists 4 r_t_now_lists, oX10 a_t_trial a_t_now a_t_trial_county a_t_trial_evening w.2.1 w.2.2.1 w.2.2.2.1, oX1 a_t_trial_county w.2.2.2.2.1 w.2.2.2.2.2.1 w.2.2.2.2.2.2.1 a_t_trial_county_lists a_t_trial_county_kindOf a_t_trial_county_goes a_t_trial_county_comes a_t_trial_county_likings, aI E a_t_trial_county_comes 6 w.2.2.2.2.2.2.2.1, aI E a_t_trial_county_goes 6 w.2.2.2.2.2.2.2.2.1, aI E a_t_trial_county_kindOf 6 w.2.2.2.2.2.2.2.2.2.1, aI E a_t_trial_county_likings 24 w.2.2.2.2.2.2.2.2.2.2.1, aI E a_t_trial_county_lists 4 w.2.2.2.2.2.2.2.2.2.2.2.1, oX2 a_t_trial_evening a_t_trial_evening_hours a_t_trial_evening_openers c_t_trial_evening_begun c_t_trial_evening_waited, aI E a_t_trial_evening_hours 4 w.2.2.2.2.2.2.2.2.2.2.2.2.1, aI E a_t_trial_evening_openers 4 w.2.2.2.2.2.2.2.2.2.2.2.2.2] (some (.int w.1))) → (∀ v, o = .inr v → G E X 0 0 [oX0 a_t a_t_now a_t_trial c_t_plan c_t_dinners, oX1 a_t_now c_t_now_houses c_t_now_comers c_t_now_evening a_t_now_lists a_t_now_kindOf a_t_now_goes a_t_now_comes a_t_now_likings, aI E a_t_now_comes 6 r_t_now_comes, aI E a_t_now_goes 6 r_t_now_goes, aI E a_t_now_kindOf 6 r_t_now_kindOf, aI E a_t_now_likings 24 r_t_now_likings, aI E a_t_now_lists 4 r_t_now_lists, oX10 a_t_trial a_t_now a_t_trial_county a_t_trial_evening v.1 v.2.1 v.2.2.1, oX1 a_t_trial_county v.2.2.2.1 v.2.2.2.2.1 v.2.2.2.2.2.1 a_t_trial_county_lists a_t_trial_county_kindOf a_t_trial_county_goes a_t_trial_county_comes a_t_trial_county_likings, aI E a_t_trial_county_comes 6 v.2.2.2.2.2.2.1, aI E a_t_trial_county_goes 6 v.2.2.2.2.2.2.2.1, aI E a_t_trial_county_kindOf 6 v.2.2.2.2.2.2.2.2.1, aI E a_t_trial_county_likings 24 v.2.2.2.2.2.2.2.2.2.1, aI E a_t_trial_county_lists 4 v.2.2.2.2.2.2.2.2.2.2.1, oX2 a_t_trial_evening a_t_trial_evening_hours a_t_trial_evening_openers c_t_trial_evening_begun c_t_trial_evening_waited, aI E a_t_trial_evening_hours 4 v.2.2.2.2.2.2.2.2.2.2.2.1, aI E a_t_trial_evening_openers 4 v.2.2.2.2.2.2.2.2.2.2.2.2] [] 72 []) → G E X 0 0 [oX0 a_t a_t_now a_t_trial c_t_plan c_t_dinners, oX1 a_t_now c_t_now_houses c_t_now_comers c_t_now_evening a_t_now_lists a_t_now_kindOf a_t_now_goes a_t_now_comes a_t_now_likings, aI E a_t_now_comes 6 r_t_now_comes, aI E a_t_now_goes 6 r_t_now_goes, aI E a_t_now_kindOf 6 r_t_now_kindOf, aI E a_t_now_likings 24 r_t_now_likings, aI E a_t_now_lists 4 r_t_now_lists, oX10 a_t_trial a_t_now a_t_trial_county a_t_trial_evening y2 y3 y4, oX1 a_t_trial_county y5 y6 y7 a_t_trial_county_lists a_t_trial_county_kindOf a_t_trial_county_goes a_t_trial_county_comes a_t_trial_county_likings, aI E a_t_trial_county_comes 6 y8, aI E a_t_trial_county_goes 6 y9, aI E a_t_trial_county_kindOf 6 y10, aI E a_t_trial_county_likings 24 y11, aI E a_t_trial_county_lists 4 y12, oX2 a_t_trial_evening a_t_trial_evening_hours a_t_trial_evening_openers c_t_trial_evening_begun c_t_trial_evening_waited, aI E a_t_trial_evening_hours 4 y13, aI E a_t_trial_evening_openers 4 y14] [(0, .ref a_t), (1, .int x1), (2, .int (r_t_now_goes (ix x1))), (3, .int y1)] 22 [] := by
  intro n
  induction n with
  | zero => intro _ _ _ _ _ _ _ _ _ _ _ _ _ _ _ h; cases h
  | succ n ih =>
    intro y1 y2 y3 y4 y5 y6 y7 y8 y9 y10 y11 y12 y13 y14 o h kr kx
    rw [L_X0_latestHour_22] at h
    refine g_iload_n (pc := 22) C dX0_latestHour_22 3 rfl ?_
    refine b_if_lt (pc := 23) 72 C dX0_latestHour_23 (by decide) h (fun _ h => ?_) (fun _ h => ?_)
    · obtain rfl := Option.some.inj h
      refine g_lv [] (lv' := []) rfl ?_
      exact kx _ rfl
    · refine g_aload_n (pc := 26) C dX0_latestHour_26 0 rfl ?_
      refine g_get (pc := 27) 0 C fl_X0_22 rfl rfl dX0_latestHour_27 ?_
      obtain ⟨v15, hv15, h⟩ := o_bnd h
      refine g_callV (pc := 30) (ws' := [oX0 a_t a_t_now a_t_trial c_t_plan c_t_dinners, oX1 a_t_now c_t_now_houses c_t_now_comers c_t_now_evening a_t_now_lists a_t_now_kindOf a_t_now_goes a_t_now_comes a_t_now_likings, aI E a_t_now_comes 6 r_t_now_comes, aI E a_t_now_goes 6 r_t_now_goes, aI E a_t_now_kindOf 6 r_t_now_kindOf, aI E a_t_now_likings 24 r_t_now_likings, aI E a_t_now_lists 4 r_t_now_lists, oX10 a_t_trial a_t_now a_t_trial_county a_t_trial_evening v15.1 v15.2.1 v15.2.2.1, oX1 a_t_trial_county v15.2.2.2.1 v15.2.2.2.2.1 v15.2.2.2.2.2.1 a_t_trial_county_lists a_t_trial_county_kindOf a_t_trial_county_goes a_t_trial_county_comes a_t_trial_county_likings, aI E a_t_trial_county_comes 6 v15.2.2.2.2.2.2.1, aI E a_t_trial_county_goes 6 v15.2.2.2.2.2.2.2.1, aI E a_t_trial_county_kindOf 6 v15.2.2.2.2.2.2.2.2.1, aI E a_t_trial_county_likings 24 v15.2.2.2.2.2.2.2.2.2.1, aI E a_t_trial_county_lists 4 v15.2.2.2.2.2.2.2.2.2.2, oX2 a_t_trial_evening a_t_trial_evening_hours a_t_trial_evening_openers c_t_trial_evening_begun c_t_trial_evening_waited, aI E a_t_trial_evening_hours 4 y13, aI E a_t_trial_evening_openers 4 y14]) (st1 := [.ref a_t_trial_county]) C mv_X0_39 (k_X10_restart E a_t_trial a_t_trial_county a_t_trial_county_comes a_t_trial_county_goes a_t_trial_county_kindOf a_t_trial_county_likings a_t_trial_county_lists a_t_now a_t_now_comes a_t_now_goes a_t_now_kindOf a_t_now_likings a_t_now_lists a_t_trial_evening y2 y3 y4 y5 y6 y7 y8 y9 y10 y11 y12 c_t_now_houses c_t_now_comers c_t_now_evening r_t_now_comes r_t_now_goes r_t_now_kindOf r_t_now_likings r_t_now_lists v15 hv15) [7, 8, 9, 10, 11, 12, 13, 1, 2, 3, 4, 5, 6] rfl rfl rfl rfl 0 rfl rfl ⟨by decide, by decide⟩ ⟨rfl, rfl⟩ ⟨Nat.zero_le _, Nat.zero_le _⟩ rfl rfl rfl (Nat.le_of_ble_eq_true rfl) dX0_latestHour_30 ?_
      refine g_get (pc := 33) 8 C fl_X0_70 rfl rfl dX0_latestHour_33 ?_
      refine g_iload_n (pc := 36) C dX0_latestHour_36 1 rfl ?_
      refine g_iload_n (pc := 37) C dX0_latestHour_37 3 rfl ?_
      refine b_iast (pc := 38) (ws' := [oX0 a_t a_t_now a_t_trial c_t_plan c_t_dinners, oX1 a_t_now c_t_now_houses c_t_now_comers c_t_now_evening a_t_now_lists a_t_now_kindOf a_t_now_goes a_t_now_comes a_t_now_likings, aI E a_t_now_comes 6 r_t_now_comes, aI E a_t_now_goes 6 r_t_now_goes, aI E a_t_now_kindOf 6 r_t_now_kindOf, aI E a_t_now_likings 24 r_t_now_likings, aI E a_t_now_lists 4 r_t_now_lists, oX10 a_t_trial a_t_now a_t_trial_county a_t_trial_evening v15.1 v15.2.1 v15.2.2.1, oX1 a_t_trial_county v15.2.2.2.1 v15.2.2.2.2.1 v15.2.2.2.2.2.1 a_t_trial_county_lists a_t_trial_county_kindOf a_t_trial_county_goes a_t_trial_county_comes a_t_trial_county_likings, aI E a_t_trial_county_comes 6 (upd v15.2.2.2.2.2.2.1 (ix x1) y1), aI E a_t_trial_county_goes 6 v15.2.2.2.2.2.2.2.1, aI E a_t_trial_county_kindOf 6 v15.2.2.2.2.2.2.2.2.1, aI E a_t_trial_county_likings 24 v15.2.2.2.2.2.2.2.2.2.1, aI E a_t_trial_county_lists 4 v15.2.2.2.2.2.2.2.2.2.2, oX2 a_t_trial_evening a_t_trial_evening_hours a_t_trial_evening_openers c_t_trial_evening_begun c_t_trial_evening_waited, aI E a_t_trial_evening_hours 4 y13, aI E a_t_trial_evening_openers 4 y14]) 9 C rfl rfl dX0_latestHour_38 h (fun _ h => ?_)
      refine g_aload_n (pc := 39) C dX0_latestHour_39 0 rfl ?_
      refine g_get (pc := 40) 0 C fl_X0_22 rfl rfl dX0_latestHour_40 ?_
      refine g_get (pc := 43) 7 C fl_X0_73 rfl rfl dX0_latestHour_43 ?_
      refine g_aload_n (pc := 46) C dX0_latestHour_46 0 rfl ?_
      refine g_get (pc := 47) 0 C fl_X0_22 rfl rfl dX0_latestHour_47 ?_
      refine g_get (pc := 50) 7 C fl_X0_77 rfl rfl dX0_latestHour_50 ?_
      refine g_iload_n (pc := 53) C dX0_latestHour_53 2 rfl ?_
      refine g_bipush (pc := 54) (v := 63) C dX0_latestHour_54 (by decide) ?_
      obtain ⟨v16, hv16, h⟩ := o_bnd h
      refine g_callV (pc := 56) (ws' := [oX0 a_t a_t_now a_t_trial c_t_plan c_t_dinners, oX1 a_t_now c_t_now_houses c_t_now_comers c_t_now_evening a_t_now_lists a_t_now_kindOf a_t_now_goes a_t_now_comes a_t_now_likings, aI E a_t_now_comes 6 r_t_now_comes, aI E a_t_now_goes 6 r_t_now_goes, aI E a_t_now_kindOf 6 r_t_now_kindOf, aI E a_t_now_likings 24 r_t_now_likings, aI E a_t_now_lists 4 r_t_now_lists, oX10 a_t_trial a_t_now a_t_trial_county a_t_trial_evening v15.1 v15.2.1 v15.2.2.1, oX1 a_t_trial_county v15.2.2.2.1 v15.2.2.2.2.1 v15.2.2.2.2.2.1 a_t_trial_county_lists a_t_trial_county_kindOf a_t_trial_county_goes a_t_trial_county_comes a_t_trial_county_likings, aI E a_t_trial_county_comes 6 (upd v15.2.2.2.2.2.2.1 (ix x1) y1), aI E a_t_trial_county_goes 6 v15.2.2.2.2.2.2.2.1, aI E a_t_trial_county_kindOf 6 v15.2.2.2.2.2.2.2.2.1, aI E a_t_trial_county_likings 24 v16.2.2.2, aI E a_t_trial_county_lists 4 v15.2.2.2.2.2.2.2.2.2.2, oX2 a_t_trial_evening a_t_trial_evening_hours a_t_trial_evening_openers c_t_trial_evening_begun c_t_trial_evening_waited, aI E a_t_trial_evening_hours 4 v16.2.1, aI E a_t_trial_evening_openers 4 v16.2.2.1]) (st1 := [.int v16.1]) C mv_X0_80 (k_X2_holdAt E a_t_trial_evening a_t_trial_evening_hours a_t_trial_evening_openers a_t_trial_county a_t_trial_county_comes a_t_trial_county_goes a_t_trial_county_kindOf a_t_trial_county_likings a_t_trial_county_lists c_t_trial_evening_begun c_t_trial_evening_waited y13 y14 v15.2.2.2.1 v15.2.2.2.2.1 v15.2.2.2.2.2.1 (upd v15.2.2.2.2.2.2.1 (ix x1) y1) v15.2.2.2.2.2.2.2.1 v15.2.2.2.2.2.2.2.2.1 v15.2.2.2.2.2.2.2.2.2.1 v15.2.2.2.2.2.2.2.2.2.2 (r_t_now_goes (ix x1)) 63 v16 hv16) [14, 15, 16, 8, 9, 10, 11, 12, 13] rfl rfl rfl rfl 0 rfl rfl ⟨by decide, by decide⟩ ⟨rfl, rfl⟩ ⟨Nat.zero_le _, Nat.zero_le _⟩ rfl rfl rfl (Nat.le_of_ble_eq_true rfl) dX0_latestHour_56 ?_
      refine g_bipush (pc := 59) (v := 7) C dX0_latestHour_59 (by decide) ?_
      refine b_icmp_eq (pc := 61) 66 C dX0_latestHour_61 (by decide) h (fun _ h => ?_) (fun _ h => ?_)
      · refine g_iinc (pc := 66) (v := y1 + (-1)) (lv' := [(3, .int (y1 + (-1))), (0, .ref a_t), (1, .int x1), (2, .int (r_t_now_goes (ix x1)))]) C dX0_latestHour_66 3 rfl rfl (by decide) rfl ?_
        refine g_goto (pc := 69) 22 C dX0_latestHour_69 (by decide) ?_
        refine g_lv [1, 2, 3, 0] (lv' := [(0, .ref a_t), (1, .int x1), (2, .int (r_t_now_goes (ix x1))), (3, .int (y1 + (-1)))]) rfl ?_
        exact ih _ _ _ _ _ _ _ _ _ _ _ _ _ _ _ h kr kx
      · refine g_iload_n (pc := 64) C dX0_latestHour_64 3 rfl ?_
        obtain rfl := Option.some.inj h
        exact g_iret (pc := 65) C (kr _ rfl) dX0_latestHour_65
set_option maxHeartbeats 4000000 in
set_option maxRecDepth 100000 in
theorem k_X0_latestHour (E : Ev) (a_t a_t_now a_t_now_comes a_t_now_goes a_t_now_kindOf a_t_now_likings a_t_now_lists a_t_trial a_t_trial_county a_t_trial_county_comes a_t_trial_county_goes a_t_trial_county_kindOf a_t_trial_county_likings a_t_trial_county_lists a_t_trial_evening a_t_trial_evening_hours a_t_trial_evening_openers : Nat) (c_t_plan : Int32) (c_t_dinners : Int32) (c_t_now_houses : Int32) (c_t_now_comers : Int32) (c_t_now_evening : Int32) (r_t_now_comes : (Nat → Int32)) (r_t_now_goes : (Nat → Int32)) (r_t_now_kindOf : (Nat → Int32)) (r_t_now_likings : (Nat → Int32)) (r_t_now_lists : (Nat → Int32)) (c_t_trial_evenings : Int32) (c_t_trial_waited : Int32) (c_t_trial_firstFast : Int32) (c_t_trial_county_houses : Int32) (c_t_trial_county_comers : Int32) (c_t_trial_county_evening : Int32) (r_t_trial_county_comes : (Nat → Int32)) (r_t_trial_county_goes : (Nat → Int32)) (r_t_trial_county_kindOf : (Nat → Int32)) (r_t_trial_county_likings : (Nat → Int32)) (r_t_trial_county_lists : (Nat → Int32)) (c_t_trial_evening_begun : Int32) (c_t_trial_evening_waited : Int32) (r_t_trial_evening_hours : (Nat → Int32)) (r_t_trial_evening_openers : (Nat → Int32)) (x1 : Int32) (v : Int32 × Int32 × Int32 × Int32 × Int32 × Int32 × Int32 × (Nat → Int32) × (Nat → Int32) × (Nat → Int32) × (Nat → Int32) × (Nat → Int32) × (Nat → Int32) × (Nat → Int32)) (h : f_X0_latestHour c_t_now_houses c_t_now_comers c_t_now_evening r_t_now_comes r_t_now_goes r_t_now_kindOf r_t_now_likings r_t_now_lists c_t_trial_evenings c_t_trial_waited c_t_trial_firstFast c_t_trial_county_houses c_t_trial_county_comers c_t_trial_county_evening r_t_trial_county_comes r_t_trial_county_goes r_t_trial_county_kindOf r_t_trial_county_likings r_t_trial_county_lists r_t_trial_evening_hours r_t_trial_evening_openers x1 = some v) : Mt E yX0_latestHour cX0_latestHour 4 (some .int) rm_X0_latestHour [.ref a_t, .int x1] [oX0 a_t a_t_now a_t_trial c_t_plan c_t_dinners, oX1 a_t_now c_t_now_houses c_t_now_comers c_t_now_evening a_t_now_lists a_t_now_kindOf a_t_now_goes a_t_now_comes a_t_now_likings, aI E a_t_now_comes 6 r_t_now_comes, aI E a_t_now_goes 6 r_t_now_goes, aI E a_t_now_kindOf 6 r_t_now_kindOf, aI E a_t_now_likings 24 r_t_now_likings, aI E a_t_now_lists 4 r_t_now_lists, oX10 a_t_trial a_t_now a_t_trial_county a_t_trial_evening c_t_trial_evenings c_t_trial_waited c_t_trial_firstFast, oX1 a_t_trial_county c_t_trial_county_houses c_t_trial_county_comers c_t_trial_county_evening a_t_trial_county_lists a_t_trial_county_kindOf a_t_trial_county_goes a_t_trial_county_comes a_t_trial_county_likings, aI E a_t_trial_county_comes 6 r_t_trial_county_comes, aI E a_t_trial_county_goes 6 r_t_trial_county_goes, aI E a_t_trial_county_kindOf 6 r_t_trial_county_kindOf, aI E a_t_trial_county_likings 24 r_t_trial_county_likings, aI E a_t_trial_county_lists 4 r_t_trial_county_lists, oX2 a_t_trial_evening a_t_trial_evening_hours a_t_trial_evening_openers c_t_trial_evening_begun c_t_trial_evening_waited, aI E a_t_trial_evening_hours 4 r_t_trial_evening_hours, aI E a_t_trial_evening_openers 4 r_t_trial_evening_openers] [oX0 a_t a_t_now a_t_trial c_t_plan c_t_dinners, oX1 a_t_now c_t_now_houses c_t_now_comers c_t_now_evening a_t_now_lists a_t_now_kindOf a_t_now_goes a_t_now_comes a_t_now_likings, aI E a_t_now_comes 6 r_t_now_comes, aI E a_t_now_goes 6 r_t_now_goes, aI E a_t_now_kindOf 6 r_t_now_kindOf, aI E a_t_now_likings 24 r_t_now_likings, aI E a_t_now_lists 4 r_t_now_lists, oX10 a_t_trial a_t_now a_t_trial_county a_t_trial_evening v.2.1 v.2.2.1 v.2.2.2.1, oX1 a_t_trial_county v.2.2.2.2.1 v.2.2.2.2.2.1 v.2.2.2.2.2.2.1 a_t_trial_county_lists a_t_trial_county_kindOf a_t_trial_county_goes a_t_trial_county_comes a_t_trial_county_likings, aI E a_t_trial_county_comes 6 v.2.2.2.2.2.2.2.1, aI E a_t_trial_county_goes 6 v.2.2.2.2.2.2.2.2.1, aI E a_t_trial_county_kindOf 6 v.2.2.2.2.2.2.2.2.2.1, aI E a_t_trial_county_likings 24 v.2.2.2.2.2.2.2.2.2.2.1, aI E a_t_trial_county_lists 4 v.2.2.2.2.2.2.2.2.2.2.2.1, oX2 a_t_trial_evening a_t_trial_evening_hours a_t_trial_evening_openers c_t_trial_evening_begun c_t_trial_evening_waited, aI E a_t_trial_evening_hours 4 v.2.2.2.2.2.2.2.2.2.2.2.2.1, aI E a_t_trial_evening_openers 4 v.2.2.2.2.2.2.2.2.2.2.2.2.2] (some (.int v.1)) := by
  refine Mt.intro (lv := [(0, .ref a_t), (1, .int x1)]) (by decide +kernel) (Nat.le_of_ble_eq_true rfl) rfl (fun X C K => ?_)
  have C : CX E X cX0_latestHour RX0 4 rm_X0_latestHour := C
  rw [f_X0_latestHour] at h
  refine g_aload_n (pc := 0) C dX0_latestHour_0 0 rfl ?_
  refine g_get (pc := 1) 0 C fl_X0_18 rfl rfl dX0_latestHour_1 ?_
  refine g_get (pc := 4) 1 C fl_X0_45 rfl rfl dX0_latestHour_4 ?_
  refine g_iload_n (pc := 7) C dX0_latestHour_7 1 rfl ?_
  refine b_iald (pc := 8) 3 C rfl dX0_latestHour_8 h (fun _ h => ?_)
  refine g_istore_n (pc := 9) (lv' := [(2, .int (r_t_now_goes (ix x1))), (0, .ref a_t), (1, .int x1)]) C dX0_latestHour_9 (by decide) rfl ?_
  refine g_iload_n (pc := 10) C dX0_latestHour_10 0 rfl ?_
  refine g_bipush (pc := 11) (v := 9) C dX0_latestHour_11 (by decide) ?_
  refine b_icmp_ne (pc := 13) 19 C dX0_latestHour_13 (by decide) h (fun _ h => ?_) (fun _ h => ?_)
  · refine g_bipush (pc := 19) (v := 6) C dX0_latestHour_19 (by decide) ?_
    refine g_istore_n (pc := 21) (lv' := [(3, .int 6), (2, .int (r_t_now_goes (ix x1))), (0, .ref a_t), (1, .int x1)]) C dX0_latestHour_21 (by decide) rfl ?_
    rcases o_sel h with ⟨w19, hw19, h⟩ | ⟨v18, hv18, h⟩
    · obtain rfl := Option.some.inj h
      refine g_lv [2, 3, 1, 0] (lv' := [(0, .ref a_t), (1, .int x1), (2, .int (r_t_now_goes (ix x1))), (3, .int 6)]) rfl ?_
      exact lp_X0_latestHour_22 c_t_plan c_t_dinners c_t_now_houses c_t_now_comers c_t_now_evening r_t_now_comes r_t_now_goes r_t_now_kindOf r_t_now_likings r_t_now_lists c_t_trial_evening_begun c_t_trial_evening_waited x1 C 400 _ _ _ _ _ _ _ _ _ _ _ _ _ _ _ hw19 (fun _ e => by cases e; exact K) (fun _ e => by cases e)
    · refine g_lv [2, 3, 1, 0] (lv' := [(0, .ref a_t), (1, .int x1), (2, .int (r_t_now_goes (ix x1))), (3, .int 6)]) rfl ?_
      refine lp_X0_latestHour_22 c_t_plan c_t_dinners c_t_now_houses c_t_now_comers c_t_now_evening r_t_now_comes r_t_now_goes r_t_now_kindOf r_t_now_likings r_t_now_lists c_t_trial_evening_begun c_t_trial_evening_waited x1 C 400 _ _ _ _ _ _ _ _ _ _ _ _ _ _ _ hv18 (fun _ e => by cases e) (fun _ e => ?_)
      cases e
      refine g_bipush (pc := 72) (v := (-4)) C dX0_latestHour_72 (by decide) ?_
      obtain rfl := Option.some.inj h
      exact g_iret (pc := 74) C K dX0_latestHour_74
  · refine g_bipush (pc := 16) (v := (-4)) C dX0_latestHour_16 (by decide) ?_
    obtain rfl := Option.some.inj h
    exact g_iret (pc := 18) C K dX0_latestHour_18
theorem dX0_mostLiked_0 : decode cX0_mostLiked 0 = .ok (.bipush 9, 2) := by decide +kernel
theorem dX0_mostLiked_2 : decode cX0_mostLiked 2 = .ok (.istore_n 3, 1) := by decide +kernel
theorem dX0_mostLiked_3 : decode cX0_mostLiked 3 = .ok (.iload_n 3, 1) := by decide +kernel
theorem dX0_mostLiked_4 : decode cX0_mostLiked 4 = .ok (.ifCond .lt 49, 3) := by decide +kernel
theorem dX0_mostLiked_7 : decode cX0_mostLiked 7 = .ok (.aload_n 0, 1) := by decide +kernel
theorem dX0_mostLiked_8 : decode cX0_mostLiked 8 = .ok (.getfield 22, 3) := by decide +kernel
theorem dX0_mostLiked_11 : decode cX0_mostLiked 11 = .ok (.invokevirtual 39, 3) := by decide +kernel
theorem dX0_mostLiked_14 : decode cX0_mostLiked 14 = .ok (.iload_n 1, 1) := by decide +kernel
theorem dX0_mostLiked_15 : decode cX0_mostLiked 15 = .ok (.iload_n 2, 1) := by decide +kernel
theorem dX0_mostLiked_16 : decode cX0_mostLiked 16 = .ok (.iload_n 3, 1) := by decide +kernel
theorem dX0_mostLiked_17 : decode cX0_mostLiked 17 = .ok (.invokevirtual 86, 3) := by decide +kernel
theorem dX0_mostLiked_20 : decode cX0_mostLiked 20 = .ok (.aload_n 0, 1) := by decide +kernel
theorem dX0_mostLiked_21 : decode cX0_mostLiked 21 = .ok (.getfield 22, 3) := by decide +kernel
theorem dX0_mostLiked_24 : decode cX0_mostLiked 24 = .ok (.getfield 73, 3) := by decide +kernel
theorem dX0_mostLiked_27 : decode cX0_mostLiked 27 = .ok (.aload_n 0, 1) := by decide +kernel
theorem dX0_mostLiked_28 : decode cX0_mostLiked 28 = .ok (.getfield 22, 3) := by decide +kernel
theorem dX0_mostLiked_31 : decode cX0_mostLiked 31 = .ok (.getfield 77, 3) := by decide +kernel
theorem dX0_mostLiked_34 : decode cX0_mostLiked 34 = .ok (.iload_n 1, 1) := by decide +kernel
theorem dX0_mostLiked_35 : decode cX0_mostLiked 35 = .ok (.bipush 63, 2) := by decide +kernel
theorem dX0_mostLiked_37 : decode cX0_mostLiked 37 = .ok (.invokevirtual 80, 3) := by decide +kernel
theorem dX0_mostLiked_40 : decode cX0_mostLiked 40 = .ok (.bipush 7, 2) := by decide +kernel
theorem dX0_mostLiked_42 : decode cX0_mostLiked 42 = .ok (.if_icmp .eq 5, 3) := by decide +kernel
theorem dX0_mostLiked_45 : decode cX0_mostLiked 45 = .ok (.iload_n 3, 1) := by decide +kernel
theorem dX0_mostLiked_46 : decode cX0_mostLiked 46 = .ok (.ireturn, 1) := by decide +kernel
theorem dX0_mostLiked_47 : decode cX0_mostLiked 47 = .ok (.iinc 3 (-1), 3) := by decide +kernel
theorem dX0_mostLiked_50 : decode cX0_mostLiked 50 = .ok (.goto (-47), 3) := by decide +kernel
theorem dX0_mostLiked_53 : decode cX0_mostLiked 53 = .ok (.bipush (-4), 2) := by decide +kernel
theorem dX0_mostLiked_55 : decode cX0_mostLiked 55 = .ok (.ireturn, 1) := by decide +kernel
def L_X0_mostLiked_3 (c_t_now_houses : Int32) (c_t_now_comers : Int32) (c_t_now_evening : Int32) (r_t_now_comes : (Nat → Int32)) (r_t_now_goes : (Nat → Int32)) (r_t_now_kindOf : (Nat → Int32)) (r_t_now_likings : (Nat → Int32)) (r_t_now_lists : (Nat → Int32)) (x1 : Int32) (x2 : Int32) : Nat → Int32 → Int32 → Int32 → Int32 → Int32 → Int32 → Int32 → (Nat → Int32) → (Nat → Int32) → (Nat → Int32) → (Nat → Int32) → (Nat → Int32) → (Nat → Int32) → (Nat → Int32) → Option ((Int32 × Int32 × Int32 × Int32 × Int32 × Int32 × Int32 × (Nat → Int32) × (Nat → Int32) × (Nat → Int32) × (Nat → Int32) × (Nat → Int32) × (Nat → Int32) × (Nat → Int32)) ⊕ (Int32 × Int32 × Int32 × Int32 × Int32 × Int32 × (Nat → Int32) × (Nat → Int32) × (Nat → Int32) × (Nat → Int32) × (Nat → Int32) × (Nat → Int32) × (Nat → Int32)))
  | 0, _, _, _, _, _, _, _, _, _, _, _, _, _, _ => none
  | n + 1, y1, y2, y3, y4, y5, y6, y7, y8, y9, y10, y11, y12, y13, y14 =>
    if y1 < 0 then
      (some (.inr ((y2, y3, y4, y5, y6, y7, y8, y9, y10, y11, y12, y13, y14))))
    else
      ((f_X10_restart y2 y3 y4 y5 y6 y7 y8 y9 y10 y11 y12 c_t_now_houses c_t_now_comers c_t_now_evening r_t_now_comes r_t_now_goes r_t_now_kindOf r_t_now_likings r_t_now_lists).bind (fun (v15 : Int32 × Int32 × Int32 × Int32 × Int32 × Int32 × (Nat → Int32) × (Nat → Int32) × (Nat → Int32) × (Nat → Int32) × (Nat → Int32)) =>
        (f_X1_setLiked v15.2.2.2.2.2.2.2.2.2.1 x1 x2 y1).bind (fun (v16 : (Nat → Int32)) =>
          (f_X2_holdAt y13 y14 v15.2.2.2.2.1 v15.2.2.2.2.2.2.1 v15.2.2.2.2.2.2.2.1 v15.2.2.2.2.2.2.2.2.1 v16 v15.2.2.2.2.2.2.2.2.2.2 x1 63).bind (fun (v17 : Int32 × (Nat → Int32) × (Nat → Int32) × (Nat → Int32)) =>
            if v17.1 = 7 then
              (L_X0_mostLiked_3 c_t_now_houses c_t_now_comers c_t_now_evening r_t_now_comes r_t_now_goes r_t_now_kindOf r_t_now_likings r_t_now_lists x1 x2 n (y1 + (-1)) v15.1 v15.2.1 v15.2.2.1 v15.2.2.2.1 v15.2.2.2.2.1 v15.2.2.2.2.2.1 v15.2.2.2.2.2.2.1 v15.2.2.2.2.2.2.2.1 v15.2.2.2.2.2.2.2.2.1 v17.2.2.2 v15.2.2.2.2.2.2.2.2.2.2 v17.2.1 v17.2.2.1)
            else
              (some (.inl ((y1, v15.1, v15.2.1, v15.2.2.1, v15.2.2.2.1, v15.2.2.2.2.1, v15.2.2.2.2.2.1, v15.2.2.2.2.2.2.1, v15.2.2.2.2.2.2.2.1, v15.2.2.2.2.2.2.2.2.1, v17.2.2.2, v15.2.2.2.2.2.2.2.2.2.2, v17.2.1, v17.2.2.1))))))))
def f_X0_mostLiked (c_t_now_houses : Int32) (c_t_now_comers : Int32) (c_t_now_evening : Int32) (r_t_now_comes : (Nat → Int32)) (r_t_now_goes : (Nat → Int32)) (r_t_now_kindOf : (Nat → Int32)) (r_t_now_likings : (Nat → Int32)) (r_t_now_lists : (Nat → Int32)) (c_t_trial_evenings : Int32) (c_t_trial_waited : Int32) (c_t_trial_firstFast : Int32) (c_t_trial_county_houses : Int32) (c_t_trial_county_comers : Int32) (c_t_trial_county_evening : Int32) (r_t_trial_county_comes : (Nat → Int32)) (r_t_trial_county_goes : (Nat → Int32)) (r_t_trial_county_kindOf : (Nat → Int32)) (r_t_trial_county_likings : (Nat → Int32)) (r_t_trial_county_lists : (Nat → Int32)) (r_t_trial_evening_hours : (Nat → Int32)) (r_t_trial_evening_openers : (Nat → Int32)) (x1 : Int32) (x2 : Int32) : Option (Int32 × Int32 × Int32 × Int32 × Int32 × Int32 × Int32 × (Nat → Int32) × (Nat → Int32) × (Nat → Int32) × (Nat → Int32) × (Nat → Int32) × (Nat → Int32) × (Nat → Int32)) :=
  (L_X0_mostLiked_3 c_t_now_houses c_t_now_comers c_t_now_evening r_t_now_comes r_t_now_goes r_t_now_kindOf r_t_now_likings r_t_now_lists x1 x2 400 9 c_t_trial_evenings c_t_trial_waited c_t_trial_firstFast c_t_trial_county_houses c_t_trial_county_comers c_t_trial_county_evening r_t_trial_county_comes r_t_trial_county_goes r_t_trial_county_kindOf r_t_trial_county_likings r_t_trial_county_lists r_t_trial_evening_hours r_t_trial_evening_openers).bind (fun o => sel (fun (w20 : Int32 × Int32 × Int32 × Int32 × Int32 × Int32 × Int32 × (Nat → Int32) × (Nat → Int32) × (Nat → Int32) × (Nat → Int32) × (Nat → Int32) × (Nat → Int32) × (Nat → Int32)) => some w20) (fun (v19 : Int32 × Int32 × Int32 × Int32 × Int32 × Int32 × (Nat → Int32) × (Nat → Int32) × (Nat → Int32) × (Nat → Int32) × (Nat → Int32) × (Nat → Int32) × (Nat → Int32)) =>
    some (((-4), v19.1, v19.2.1, v19.2.2.1, v19.2.2.2.1, v19.2.2.2.2.1, v19.2.2.2.2.2.1, v19.2.2.2.2.2.2.1, v19.2.2.2.2.2.2.2.1, v19.2.2.2.2.2.2.2.2.1, v19.2.2.2.2.2.2.2.2.2.1, v19.2.2.2.2.2.2.2.2.2.2.1, v19.2.2.2.2.2.2.2.2.2.2.2.1, v19.2.2.2.2.2.2.2.2.2.2.2.2))) o)
abbrev rm_X0_mostLiked : Room := { frames := 4, cells := 0, slots := 0, locals := 122 }
set_option maxHeartbeats 4000000 in
set_option maxRecDepth 100000 in
theorem lp_X0_mostLiked_3 {E : Ev} {X : Cx} {a_t a_t_now a_t_now_comes a_t_now_goes a_t_now_kindOf a_t_now_likings a_t_now_lists a_t_trial a_t_trial_county a_t_trial_county_comes a_t_trial_county_goes a_t_trial_county_kindOf a_t_trial_county_likings a_t_trial_county_lists a_t_trial_evening a_t_trial_evening_hours a_t_trial_evening_openers : Nat} (c_t_plan : Int32) (c_t_dinners : Int32) (c_t_now_houses : Int32) (c_t_now_comers : Int32) (c_t_now_evening : Int32) (r_t_now_comes : (Nat → Int32)) (r_t_now_goes : (Nat → Int32)) (r_t_now_kindOf : (Nat → Int32)) (r_t_now_likings : (Nat → Int32)) (r_t_now_lists : (Nat → Int32)) (c_t_trial_evening_begun : Int32) (c_t_trial_evening_waited : Int32) (x1 : Int32) (x2 : Int32) (C : CX E X cX0_mostLiked RX0 4 rm_X0_mostLiked) : ∀ (n : Nat) (y1 : Int32) (y2 : Int32) (y3 : Int32) (y4 : Int32) (y5 : Int32) (y6 : Int32) (y7 : Int32) (y8 : (Nat → Int32)) (y9 : (Nat → Int32)) (y10 : (Nat → Int32)) (y11 : (Nat → Int32)) (y12 : (Nat → Int32)) (y13 : (Nat → Int32)) (y14 : (Nat → Int32)) (o : ((Int32 × Int32 × Int32 × Int32 × Int32 × Int32 × Int32 × (Nat → Int32) × (Nat → Int32) × (Nat → Int32) × (Nat → Int32) × (Nat → Int32) × (Nat → Int32) × (Nat → Int32)) ⊕ (Int32 × Int32 × Int32 × Int32 × Int32 × Int32 × (Nat → Int32) × (Nat → Int32) × (Nat → Int32) × (Nat → Int32) × (Nat → Int32) × (Nat → Int32) × (Nat → Int32)))), L_X0_mostLiked_3 c_t_now_houses c_t_now_comers c_t_now_evening r_t_now_comes r_t_now_goes r_t_now_kindOf r_t_now_likings r_t_now_lists x1 x2 n y1 y2 y3 y4 y5 y6 y7 y8 y9 y10 y11 y12 y13 y14 = some o → (∀ w, o = .inl w → QK E X 0 0 (some .int) [oX0 a_t a_t_now a_t_trial c_t_plan c_t_dinners, oX1 a_t_now c_t_now_houses c_t_now_comers c_t_now_evening a_t_now_lists a_t_now_kindOf a_t_now_goes a_t_now_comes a_t_now_likings, aI E a_t_now_comes 6 r_t_now_comes, aI E a_t_now_goes 6 r_t_now_goes, aI E a_t_now_kindOf 6 r_t_now_kindOf, aI E a_t_now_likings 24 r_t_now_likings, aI E a_t_now_lists 4 r_t_now_lists, oX10 a_t_trial a_t_now a_t_trial_county a_t_trial_evening w.2.1 w.2.2.1 w.2.2.2.1, oX1 a_t_trial_county w.2.2.2.2.1 w.2.2.2.2.2.1 w.2.2.2.2.2.2.1 a_t_trial_county_lists a_t_trial_county_kindOf a_t_trial_county_goes a_t_trial_county_comes a_t_trial_county_likings, aI E a_t_trial_county_comes 6 w.2.2.2.2.2.2.2.1, aI E a_t_trial_county_goes 6 w.2.2.2.2.2.2.2.2.1, aI E a_t_trial_county_kindOf 6 w.2.2.2.2.2.2.2.2.2.1, aI E a_t_trial_county_likings 24 w.2.2.2.2.2.2.2.2.2.2.1, aI E a_t_trial_county_lists 4 w.2.2.2.2.2.2.2.2.2.2.2.1, oX2 a_t_trial_evening a_t_trial_evening_hours a_t_trial_evening_openers c_t_trial_evening_begun c_t_trial_evening_waited, aI E a_t_trial_evening_hours 4 w.2.2.2.2.2.2.2.2.2.2.2.2.1, aI E a_t_trial_evening_openers 4 w.2.2.2.2.2.2.2.2.2.2.2.2.2] (some (.int w.1))) → (∀ v, o = .inr v → G E X 0 0 [oX0 a_t a_t_now a_t_trial c_t_plan c_t_dinners, oX1 a_t_now c_t_now_houses c_t_now_comers c_t_now_evening a_t_now_lists a_t_now_kindOf a_t_now_goes a_t_now_comes a_t_now_likings, aI E a_t_now_comes 6 r_t_now_comes, aI E a_t_now_goes 6 r_t_now_goes, aI E a_t_now_kindOf 6 r_t_now_kindOf, aI E a_t_now_likings 24 r_t_now_likings, aI E a_t_now_lists 4 r_t_now_lists, oX10 a_t_trial a_t_now a_t_trial_county a_t_trial_evening v.1 v.2.1 v.2.2.1, oX1 a_t_trial_county v.2.2.2.1 v.2.2.2.2.1 v.2.2.2.2.2.1 a_t_trial_county_lists a_t_trial_county_kindOf a_t_trial_county_goes a_t_trial_county_comes a_t_trial_county_likings, aI E a_t_trial_county_comes 6 v.2.2.2.2.2.2.1, aI E a_t_trial_county_goes 6 v.2.2.2.2.2.2.2.1, aI E a_t_trial_county_kindOf 6 v.2.2.2.2.2.2.2.2.1, aI E a_t_trial_county_likings 24 v.2.2.2.2.2.2.2.2.2.1, aI E a_t_trial_county_lists 4 v.2.2.2.2.2.2.2.2.2.2.1, oX2 a_t_trial_evening a_t_trial_evening_hours a_t_trial_evening_openers c_t_trial_evening_begun c_t_trial_evening_waited, aI E a_t_trial_evening_hours 4 v.2.2.2.2.2.2.2.2.2.2.2.1, aI E a_t_trial_evening_openers 4 v.2.2.2.2.2.2.2.2.2.2.2.2] [] 53 []) → G E X 0 0 [oX0 a_t a_t_now a_t_trial c_t_plan c_t_dinners, oX1 a_t_now c_t_now_houses c_t_now_comers c_t_now_evening a_t_now_lists a_t_now_kindOf a_t_now_goes a_t_now_comes a_t_now_likings, aI E a_t_now_comes 6 r_t_now_comes, aI E a_t_now_goes 6 r_t_now_goes, aI E a_t_now_kindOf 6 r_t_now_kindOf, aI E a_t_now_likings 24 r_t_now_likings, aI E a_t_now_lists 4 r_t_now_lists, oX10 a_t_trial a_t_now a_t_trial_county a_t_trial_evening y2 y3 y4, oX1 a_t_trial_county y5 y6 y7 a_t_trial_county_lists a_t_trial_county_kindOf a_t_trial_county_goes a_t_trial_county_comes a_t_trial_county_likings, aI E a_t_trial_county_comes 6 y8, aI E a_t_trial_county_goes 6 y9, aI E a_t_trial_county_kindOf 6 y10, aI E a_t_trial_county_likings 24 y11, aI E a_t_trial_county_lists 4 y12, oX2 a_t_trial_evening a_t_trial_evening_hours a_t_trial_evening_openers c_t_trial_evening_begun c_t_trial_evening_waited, aI E a_t_trial_evening_hours 4 y13, aI E a_t_trial_evening_openers 4 y14] [(0, .ref a_t), (1, .int x1), (2, .int x2), (3, .int y1)] 3 [] := by
  intro n
  induction n with
  | zero => intro _ _ _ _ _ _ _ _ _ _ _ _ _ _ _ h; cases h
  | succ n ih =>
    intro y1 y2 y3 y4 y5 y6 y7 y8 y9 y10 y11 y12 y13 y14 o h kr kx
    rw [L_X0_mostLiked_3] at h
    refine g_iload_n (pc := 3) C dX0_mostLiked_3 3 rfl ?_
    refine b_if_lt (pc := 4) 53 C dX0_mostLiked_4 (by decide) h (fun _ h => ?_) (fun _ h => ?_)
    · obtain rfl := Option.some.inj h
      refine g_lv [] (lv' := []) rfl ?_
      exact kx _ rfl
    · refine g_aload_n (pc := 7) C dX0_mostLiked_7 0 rfl ?_
      refine g_get (pc := 8) 0 C fl_X0_22 rfl rfl dX0_mostLiked_8 ?_
      obtain ⟨v15, hv15, h⟩ := o_bnd h
      refine g_callV (pc := 11) (ws' := [oX0 a_t a_t_now a_t_trial c_t_plan c_t_dinners, oX1 a_t_now c_t_now_houses c_t_now_comers c_t_now_evening a_t_now_lists a_t_now_kindOf a_t_now_goes a_t_now_comes a_t_now_likings, aI E a_t_now_comes 6 r_t_now_comes, aI E a_t_now_goes 6 r_t_now_goes, aI E a_t_now_kindOf 6 r_t_now_kindOf, aI E a_t_now_likings 24 r_t_now_likings, aI E a_t_now_lists 4 r_t_now_lists, oX10 a_t_trial a_t_now a_t_trial_county a_t_trial_evening v15.1 v15.2.1 v15.2.2.1, oX1 a_t_trial_county v15.2.2.2.1 v15.2.2.2.2.1 v15.2.2.2.2.2.1 a_t_trial_county_lists a_t_trial_county_kindOf a_t_trial_county_goes a_t_trial_county_comes a_t_trial_county_likings, aI E a_t_trial_county_comes 6 v15.2.2.2.2.2.2.1, aI E a_t_trial_county_goes 6 v15.2.2.2.2.2.2.2.1, aI E a_t_trial_county_kindOf 6 v15.2.2.2.2.2.2.2.2.1, aI E a_t_trial_county_likings 24 v15.2.2.2.2.2.2.2.2.2.1, aI E a_t_trial_county_lists 4 v15.2.2.2.2.2.2.2.2.2.2, oX2 a_t_trial_evening a_t_trial_evening_hours a_t_trial_evening_openers c_t_trial_evening_begun c_t_trial_evening_waited, aI E a_t_trial_evening_hours 4 y13, aI E a_t_trial_evening_openers 4 y14]) (st1 := [.ref a_t_trial_county]) C mv_X0_39 (k_X10_restart E a_t_trial a_t_trial_county a_t_trial_county_comes a_t_trial_county_goes a_t_trial_county_kindOf a_t_trial_county_likings a_t_trial_county_lists a_t_now a_t_now_comes a_t_now_goes a_t_now_kindOf a_t_now_likings a_t_now_lists a_t_trial_evening y2 y3 y4 y5 y6 y7 y8 y9 y10 y11 y12 c_t_now_houses c_t_now_comers c_t_now_evening r_t_now_comes r_t_now_goes r_t_now_kindOf r_t_now_likings r_t_now_lists v15 hv15) [7, 8, 9, 10, 11, 12, 13, 1, 2, 3, 4, 5, 6] rfl rfl rfl rfl 0 rfl rfl ⟨by decide, by decide⟩ ⟨rfl, rfl⟩ ⟨Nat.zero_le _, Nat.zero_le _⟩ rfl rfl rfl (Nat.le_of_ble_eq_true rfl) dX0_mostLiked_11 ?_
      refine g_iload_n (pc := 14) C dX0_mostLiked_14 1 rfl ?_
      refine g_iload_n (pc := 15) C dX0_mostLiked_15 2 rfl ?_
      refine g_iload_n (pc := 16) C dX0_mostLiked_16 3 rfl ?_
      obtain ⟨v16, hv16, h⟩ := o_bnd h
      refine g_callV (pc := 17) (ws' := [oX0 a_t a_t_now a_t_trial c_t_plan c_t_dinners, oX1 a_t_now c_t_now_houses c_t_now_comers c_t_now_evening a_t_now_lists a_t_now_kindOf a_t_now_goes a_t_now_comes a_t_now_likings, aI E a_t_now_comes 6 r_t_now_comes, aI E a_t_now_goes 6 r_t_now_goes, aI E a_t_now_kindOf 6 r_t_now_kindOf, aI E a_t_now_likings 24 r_t_now_likings, aI E a_t_now_lists 4 r_t_now_lists, oX10 a_t_trial a_t_now a_t_trial_county a_t_trial_evening v15.1 v15.2.1 v15.2.2.1, oX1 a_t_trial_county v15.2.2.2.1 v15.2.2.2.2.1 v15.2.2.2.2.2.1 a_t_trial_county_lists a_t_trial_county_kindOf a_t_trial_county_goes a_t_trial_county_comes a_t_trial_county_likings, aI E a_t_trial_county_comes 6 v15.2.2.2.2.2.2.1, aI E a_t_trial_county_goes 6 v15.2.2.2.2.2.2.2.1, aI E a_t_trial_county_kindOf 6 v15.2.2.2.2.2.2.2.2.1, aI E a_t_trial_county_likings 24 v16, aI E a_t_trial_county_lists 4 v15.2.2.2.2.2.2.2.2.2.2, oX2 a_t_trial_evening a_t_trial_evening_hours a_t_trial_evening_openers c_t_trial_evening_begun c_t_trial_evening_waited, aI E a_t_trial_evening_hours 4 y13, aI E a_t_trial_evening_openers 4 y14]) (st1 := []) C mv_X0_86 (k_X1_setLiked E a_t_trial_county a_t_trial_county_likings a_t_trial_county_lists a_t_trial_county_kindOf a_t_trial_county_goes a_t_trial_county_comes v15.2.2.2.1 v15.2.2.2.2.1 v15.2.2.2.2.2.1 v15.2.2.2.2.2.2.2.2.2.1 x1 x2 y1 v16 hv16) [8, 12] rfl rfl rfl rfl 0 rfl rfl ⟨by decide, by decide⟩ ⟨rfl, rfl⟩ ⟨Nat.zero_le _, Nat.zero_le _⟩ rfl rfl rfl (Nat.le_of_ble_eq_true rfl) dX0_mostLiked_17 ?_
      refine g_aload_n (pc := 20) C dX0_mostLiked_20 0 rfl ?_
      refine g_get (pc := 21) 0 C fl_X0_22 rfl rfl dX0_mostLiked_21 ?_
      refine g_get (pc := 24) 7 C fl_X0_73 rfl rfl dX0_mostLiked_24 ?_
      refine g_aload_n (pc := 27) C dX0_mostLiked_27 0 rfl ?_
      refine g_get (pc := 28) 0 C fl_X0_22 rfl rfl dX0_mostLiked_28 ?_
      refine g_get (pc := 31) 7 C fl_X0_77 rfl rfl dX0_mostLiked_31 ?_
      refine g_iload_n (pc := 34) C dX0_mostLiked_34 1 rfl ?_
      refine g_bipush (pc := 35) (v := 63) C dX0_mostLiked_35 (by decide) ?_
      obtain ⟨v17, hv17, h⟩ := o_bnd h
      refine g_callV (pc := 37) (ws' := [oX0 a_t a_t_now a_t_trial c_t_plan c_t_dinners, oX1 a_t_now c_t_now_houses c_t_now_comers c_t_now_evening a_t_now_lists a_t_now_kindOf a_t_now_goes a_t_now_comes a_t_now_likings, aI E a_t_now_comes 6 r_t_now_comes, aI E a_t_now_goes 6 r_t_now_goes, aI E a_t_now_kindOf 6 r_t_now_kindOf, aI E a_t_now_likings 24 r_t_now_likings, aI E a_t_now_lists 4 r_t_now_lists, oX10 a_t_trial a_t_now a_t_trial_county a_t_trial_evening v15.1 v15.2.1 v15.2.2.1, oX1 a_t_trial_county v15.2.2.2.1 v15.2.2.2.2.1 v15.2.2.2.2.2.1 a_t_trial_county_lists a_t_trial_county_kindOf a_t_trial_county_goes a_t_trial_county_comes a_t_trial_county_likings, aI E a_t_trial_county_comes 6 v15.2.2.2.2.2.2.1, aI E a_t_trial_county_goes 6 v15.2.2.2.2.2.2.2.1, aI E a_t_trial_county_kindOf 6 v15.2.2.2.2.2.2.2.2.1, aI E a_t_trial_county_likings 24 v17.2.2.2, aI E a_t_trial_county_lists 4 v15.2.2.2.2.2.2.2.2.2.2, oX2 a_t_trial_evening a_t_trial_evening_hours a_t_trial_evening_openers c_t_trial_evening_begun c_t_trial_evening_waited, aI E a_t_trial_evening_hours 4 v17.2.1, aI E a_t_trial_evening_openers 4 v17.2.2.1]) (st1 := [.int v17.1]) C mv_X0_80 (k_X2_holdAt E a_t_trial_evening a_t_trial_evening_hours a_t_trial_evening_openers a_t_trial_county a_t_trial_county_comes a_t_trial_county_goes a_t_trial_county_kindOf a_t_trial_county_likings a_t_trial_county_lists c_t_trial_evening_begun c_t_trial_evening_waited y13 y14 v15.2.2.2.1 v15.2.2.2.2.1 v15.2.2.2.2.2.1 v15.2.2.2.2.2.2.1 v15.2.2.2.2.2.2.2.1 v15.2.2.2.2.2.2.2.2.1 v16 v15.2.2.2.2.2.2.2.2.2.2 x1 63 v17 hv17) [14, 15, 16, 8, 9, 10, 11, 12, 13] rfl rfl rfl rfl 0 rfl rfl ⟨by decide, by decide⟩ ⟨rfl, rfl⟩ ⟨Nat.zero_le _, Nat.zero_le _⟩ rfl rfl rfl (Nat.le_of_ble_eq_true rfl) dX0_mostLiked_37 ?_
      refine g_bipush (pc := 40) (v := 7) C dX0_mostLiked_40 (by decide) ?_
      refine b_icmp_eq (pc := 42) 47 C dX0_mostLiked_42 (by decide) h (fun _ h => ?_) (fun _ h => ?_)
      · refine g_iinc (pc := 47) (v := y1 + (-1)) (lv' := [(3, .int (y1 + (-1))), (0, .ref a_t), (1, .int x1), (2, .int x2)]) C dX0_mostLiked_47 3 rfl rfl (by decide) rfl ?_
        refine g_goto (pc := 50) 3 C dX0_mostLiked_50 (by decide) ?_
        refine g_lv [1, 2, 3, 0] (lv' := [(0, .ref a_t), (1, .int x1), (2, .int x2), (3, .int (y1 + (-1)))]) rfl ?_
        exact ih _ _ _ _ _ _ _ _ _ _ _ _ _ _ _ h kr kx
      · refine g_iload_n (pc := 45) C dX0_mostLiked_45 3 rfl ?_
        obtain rfl := Option.some.inj h
        exact g_iret (pc := 46) C (kr _ rfl) dX0_mostLiked_46
set_option maxHeartbeats 4000000 in
set_option maxRecDepth 100000 in
theorem k_X0_mostLiked (E : Ev) (a_t a_t_now a_t_now_comes a_t_now_goes a_t_now_kindOf a_t_now_likings a_t_now_lists a_t_trial a_t_trial_county a_t_trial_county_comes a_t_trial_county_goes a_t_trial_county_kindOf a_t_trial_county_likings a_t_trial_county_lists a_t_trial_evening a_t_trial_evening_hours a_t_trial_evening_openers : Nat) (c_t_plan : Int32) (c_t_dinners : Int32) (c_t_now_houses : Int32) (c_t_now_comers : Int32) (c_t_now_evening : Int32) (r_t_now_comes : (Nat → Int32)) (r_t_now_goes : (Nat → Int32)) (r_t_now_kindOf : (Nat → Int32)) (r_t_now_likings : (Nat → Int32)) (r_t_now_lists : (Nat → Int32)) (c_t_trial_evenings : Int32) (c_t_trial_waited : Int32) (c_t_trial_firstFast : Int32) (c_t_trial_county_houses : Int32) (c_t_trial_county_comers : Int32) (c_t_trial_county_evening : Int32) (r_t_trial_county_comes : (Nat → Int32)) (r_t_trial_county_goes : (Nat → Int32)) (r_t_trial_county_kindOf : (Nat → Int32)) (r_t_trial_county_likings : (Nat → Int32)) (r_t_trial_county_lists : (Nat → Int32)) (c_t_trial_evening_begun : Int32) (c_t_trial_evening_waited : Int32) (r_t_trial_evening_hours : (Nat → Int32)) (r_t_trial_evening_openers : (Nat → Int32)) (x1 : Int32) (x2 : Int32) (v : Int32 × Int32 × Int32 × Int32 × Int32 × Int32 × Int32 × (Nat → Int32) × (Nat → Int32) × (Nat → Int32) × (Nat → Int32) × (Nat → Int32) × (Nat → Int32) × (Nat → Int32)) (h : f_X0_mostLiked c_t_now_houses c_t_now_comers c_t_now_evening r_t_now_comes r_t_now_goes r_t_now_kindOf r_t_now_likings r_t_now_lists c_t_trial_evenings c_t_trial_waited c_t_trial_firstFast c_t_trial_county_houses c_t_trial_county_comers c_t_trial_county_evening r_t_trial_county_comes r_t_trial_county_goes r_t_trial_county_kindOf r_t_trial_county_likings r_t_trial_county_lists r_t_trial_evening_hours r_t_trial_evening_openers x1 x2 = some v) : Mt E yX0_mostLiked cX0_mostLiked 4 (some .int) rm_X0_mostLiked [.ref a_t, .int x1, .int x2] [oX0 a_t a_t_now a_t_trial c_t_plan c_t_dinners, oX1 a_t_now c_t_now_houses c_t_now_comers c_t_now_evening a_t_now_lists a_t_now_kindOf a_t_now_goes a_t_now_comes a_t_now_likings, aI E a_t_now_comes 6 r_t_now_comes, aI E a_t_now_goes 6 r_t_now_goes, aI E a_t_now_kindOf 6 r_t_now_kindOf, aI E a_t_now_likings 24 r_t_now_likings, aI E a_t_now_lists 4 r_t_now_lists, oX10 a_t_trial a_t_now a_t_trial_county a_t_trial_evening c_t_trial_evenings c_t_trial_waited c_t_trial_firstFast, oX1 a_t_trial_county c_t_trial_county_houses c_t_trial_county_comers c_t_trial_county_evening a_t_trial_county_lists a_t_trial_county_kindOf a_t_trial_county_goes a_t_trial_county_comes a_t_trial_county_likings, aI E a_t_trial_county_comes 6 r_t_trial_county_comes, aI E a_t_trial_county_goes 6 r_t_trial_county_goes, aI E a_t_trial_county_kindOf 6 r_t_trial_county_kindOf, aI E a_t_trial_county_likings 24 r_t_trial_county_likings, aI E a_t_trial_county_lists 4 r_t_trial_county_lists, oX2 a_t_trial_evening a_t_trial_evening_hours a_t_trial_evening_openers c_t_trial_evening_begun c_t_trial_evening_waited, aI E a_t_trial_evening_hours 4 r_t_trial_evening_hours, aI E a_t_trial_evening_openers 4 r_t_trial_evening_openers] [oX0 a_t a_t_now a_t_trial c_t_plan c_t_dinners, oX1 a_t_now c_t_now_houses c_t_now_comers c_t_now_evening a_t_now_lists a_t_now_kindOf a_t_now_goes a_t_now_comes a_t_now_likings, aI E a_t_now_comes 6 r_t_now_comes, aI E a_t_now_goes 6 r_t_now_goes, aI E a_t_now_kindOf 6 r_t_now_kindOf, aI E a_t_now_likings 24 r_t_now_likings, aI E a_t_now_lists 4 r_t_now_lists, oX10 a_t_trial a_t_now a_t_trial_county a_t_trial_evening v.2.1 v.2.2.1 v.2.2.2.1, oX1 a_t_trial_county v.2.2.2.2.1 v.2.2.2.2.2.1 v.2.2.2.2.2.2.1 a_t_trial_county_lists a_t_trial_county_kindOf a_t_trial_county_goes a_t_trial_county_comes a_t_trial_county_likings, aI E a_t_trial_county_comes 6 v.2.2.2.2.2.2.2.1, aI E a_t_trial_county_goes 6 v.2.2.2.2.2.2.2.2.1, aI E a_t_trial_county_kindOf 6 v.2.2.2.2.2.2.2.2.2.1, aI E a_t_trial_county_likings 24 v.2.2.2.2.2.2.2.2.2.2.1, aI E a_t_trial_county_lists 4 v.2.2.2.2.2.2.2.2.2.2.2.1, oX2 a_t_trial_evening a_t_trial_evening_hours a_t_trial_evening_openers c_t_trial_evening_begun c_t_trial_evening_waited, aI E a_t_trial_evening_hours 4 v.2.2.2.2.2.2.2.2.2.2.2.2.1, aI E a_t_trial_evening_openers 4 v.2.2.2.2.2.2.2.2.2.2.2.2.2] (some (.int v.1)) := by
  refine Mt.intro (lv := [(0, .ref a_t), (1, .int x1), (2, .int x2)]) (by decide +kernel) (Nat.le_of_ble_eq_true rfl) rfl (fun X C K => ?_)
  have C : CX E X cX0_mostLiked RX0 4 rm_X0_mostLiked := C
  rw [f_X0_mostLiked] at h
  refine g_bipush (pc := 0) (v := 9) C dX0_mostLiked_0 (by decide) ?_
  refine g_istore_n (pc := 2) (lv' := [(3, .int 9), (0, .ref a_t), (1, .int x1), (2, .int x2)]) C dX0_mostLiked_2 (by decide) rfl ?_
  rcases o_sel h with ⟨w20, hw20, h⟩ | ⟨v19, hv19, h⟩
  · obtain rfl := Option.some.inj h
    refine g_lv [1, 2, 3, 0] (lv' := [(0, .ref a_t), (1, .int x1), (2, .int x2), (3, .int 9)]) rfl ?_
    exact lp_X0_mostLiked_3 c_t_plan c_t_dinners c_t_now_houses c_t_now_comers c_t_now_evening r_t_now_comes r_t_now_goes r_t_now_kindOf r_t_now_likings r_t_now_lists c_t_trial_evening_begun c_t_trial_evening_waited x1 x2 C 400 _ _ _ _ _ _ _ _ _ _ _ _ _ _ _ hw20 (fun _ e => by cases e; exact K) (fun _ e => by cases e)
  · refine g_lv [1, 2, 3, 0] (lv' := [(0, .ref a_t), (1, .int x1), (2, .int x2), (3, .int 9)]) rfl ?_
    refine lp_X0_mostLiked_3 c_t_plan c_t_dinners c_t_now_houses c_t_now_comers c_t_now_evening r_t_now_comes r_t_now_goes r_t_now_kindOf r_t_now_likings r_t_now_lists c_t_trial_evening_begun c_t_trial_evening_waited x1 x2 C 400 _ _ _ _ _ _ _ _ _ _ _ _ _ _ _ hv19 (fun _ e => by cases e) (fun _ e => ?_)
    cases e
    refine g_bipush (pc := 53) (v := (-4)) C dX0_mostLiked_53 (by decide) ?_
    obtain rfl := Option.some.inj h
    exact g_iret (pc := 55) C K dX0_mostLiked_55
theorem dX10_tonight_0 : decode cX10_tonight 0 = .ok (.aload_n 0, 1) := by decide +kernel
theorem dX10_tonight_1 : decode cX10_tonight 1 = .ok (.invokevirtual 42, 3) := by decide +kernel
theorem dX10_tonight_4 : decode cX10_tonight 4 = .ok (.pop, 1) := by decide +kernel
theorem dX10_tonight_5 : decode cX10_tonight 5 = .ok (.aload_n 0, 1) := by decide +kernel
theorem dX10_tonight_6 : decode cX10_tonight 6 = .ok (.getfield 21, 3) := by decide +kernel
theorem dX10_tonight_9 : decode cX10_tonight 9 = .ok (.aload_n 0, 1) := by decide +kernel
theorem dX10_tonight_10 : decode cX10_tonight 10 = .ok (.getfield 12, 3) := by decide +kernel
theorem dX10_tonight_13 : decode cX10_tonight 13 = .ok (.invokevirtual 46, 3) := by decide +kernel
theorem dX10_tonight_16 : decode cX10_tonight 16 = .ok (.aload_n 0, 1) := by decide +kernel
theorem dX10_tonight_17 : decode cX10_tonight 17 = .ok (.getfield 21, 3) := by decide +kernel
theorem dX10_tonight_20 : decode cX10_tonight 20 = .ok (.areturn, 1) := by decide +kernel
def f_X10_tonight (c_t_evenings : Int32) (c_t_waited : Int32) (c_t_firstFast : Int32) (c_t_county_houses : Int32) (c_t_county_comers : Int32) (c_t_county_evening : Int32) (r_t_county_comes : (Nat → Int32)) (r_t_county_goes : (Nat → Int32)) (r_t_county_kindOf : (Nat → Int32)) (r_t_county_likings : (Nat → Int32)) (r_t_county_lists : (Nat → Int32)) (c_t_evening_begun : Int32) (c_t_evening_waited : Int32) (r_t_evening_hours : (Nat → Int32)) (r_t_evening_openers : (Nat → Int32)) (c_t_now_houses : Int32) (c_t_now_comers : Int32) (c_t_now_evening : Int32) (r_t_now_comes : (Nat → Int32)) (r_t_now_goes : (Nat → Int32)) (r_t_now_kindOf : (Nat → Int32)) (r_t_now_likings : (Nat → Int32)) (r_t_now_lists : (Nat → Int32)) : Option (Int32 × Int32 × Int32 × Int32 × Int32 × Int32 × (Nat → Int32) × (Nat → Int32) × (Nat → Int32) × (Nat → Int32) × (Nat → Int32) × Int32 × Int32 × (Nat → Int32) × (Nat → Int32)) :=
  (f_X10_restart c_t_evenings c_t_waited c_t_firstFast c_t_county_houses c_t_county_comers c_t_county_evening r_t_county_comes r_t_county_goes r_t_county_kindOf r_t_county_likings r_t_county_lists c_t_now_houses c_t_now_comers c_t_now_evening r_t_now_comes r_t_now_goes r_t_now_kindOf r_t_now_likings r_t_now_lists).bind (fun (v1 : Int32 × Int32 × Int32 × Int32 × Int32 × Int32 × (Nat → Int32) × (Nat → Int32) × (Nat → Int32) × (Nat → Int32) × (Nat → Int32)) =>
    (f_X2_hold c_t_evening_begun c_t_evening_waited r_t_evening_hours r_t_evening_openers v1.2.2.2.1 v1.2.2.2.2.1 v1.2.2.2.2.2.1 v1.2.2.2.2.2.2.1 v1.2.2.2.2.2.2.2.1 v1.2.2.2.2.2.2.2.2.1 v1.2.2.2.2.2.2.2.2.2.1 v1.2.2.2.2.2.2.2.2.2.2).bind (fun (v2 : Int32 × Int32 × (Nat → Int32) × (Nat → Int32) × Int32 × (Nat → Int32)) =>
      some ((v1.1, v1.2.1, v1.2.2.1, v1.2.2.2.1, v1.2.2.2.2.1, v2.2.2.2.2.1, v1.2.2.2.2.2.2.1, v1.2.2.2.2.2.2.2.1, v1.2.2.2.2.2.2.2.2.1, v2.2.2.2.2.2, v1.2.2.2.2.2.2.2.2.2.2, v2.1, v2.2.1, v2.2.2.1, v2.2.2.2.1))))
abbrev rm_X10_tonight : Room := { frames := 4, cells := 0, slots := 0, locals := 122 }
set_option maxHeartbeats 4000000 in
set_option maxRecDepth 100000 in
theorem k_X10_tonight (E : Ev) (a_t a_t_county a_t_county_comes a_t_county_goes a_t_county_kindOf a_t_county_likings a_t_county_lists a_t_evening a_t_evening_hours a_t_evening_openers a_t_now a_t_now_comes a_t_now_goes a_t_now_kindOf a_t_now_likings a_t_now_lists : Nat) (c_t_evenings : Int32) (c_t_waited : Int32) (c_t_firstFast : Int32) (c_t_county_houses : Int32) (c_t_county_comers : Int32) (c_t_county_evening : Int32) (r_t_county_comes : (Nat → Int32)) (r_t_county_goes : (Nat → Int32)) (r_t_county_kindOf : (Nat → Int32)) (r_t_county_likings : (Nat → Int32)) (r_t_county_lists : (Nat → Int32)) (c_t_evening_begun : Int32) (c_t_evening_waited : Int32) (r_t_evening_hours : (Nat → Int32)) (r_t_evening_openers : (Nat → Int32)) (c_t_now_houses : Int32) (c_t_now_comers : Int32) (c_t_now_evening : Int32) (r_t_now_comes : (Nat → Int32)) (r_t_now_goes : (Nat → Int32)) (r_t_now_kindOf : (Nat → Int32)) (r_t_now_likings : (Nat → Int32)) (r_t_now_lists : (Nat → Int32)) (v : Int32 × Int32 × Int32 × Int32 × Int32 × Int32 × (Nat → Int32) × (Nat → Int32) × (Nat → Int32) × (Nat → Int32) × (Nat → Int32) × Int32 × Int32 × (Nat → Int32) × (Nat → Int32)) (h : f_X10_tonight c_t_evenings c_t_waited c_t_firstFast c_t_county_houses c_t_county_comers c_t_county_evening r_t_county_comes r_t_county_goes r_t_county_kindOf r_t_county_likings r_t_county_lists c_t_evening_begun c_t_evening_waited r_t_evening_hours r_t_evening_openers c_t_now_houses c_t_now_comers c_t_now_evening r_t_now_comes r_t_now_goes r_t_now_kindOf r_t_now_likings r_t_now_lists = some v) : Mt E yX10_tonight cX10_tonight 1 (some (.object "UnaskedGuests$Evening")) rm_X10_tonight [.ref a_t] [oX10 a_t a_t_now a_t_county a_t_evening c_t_evenings c_t_waited c_t_firstFast, oX1 a_t_county c_t_county_houses c_t_county_comers c_t_county_evening a_t_county_lists a_t_county_kindOf a_t_county_goes a_t_county_comes a_t_county_likings, aI E a_t_county_comes 6 r_t_county_comes, aI E a_t_county_goes 6 r_t_county_goes, aI E a_t_county_kindOf 6 r_t_county_kindOf, aI E a_t_county_likings 24 r_t_county_likings, aI E a_t_county_lists 4 r_t_county_lists, oX2 a_t_evening a_t_evening_hours a_t_evening_openers c_t_evening_begun c_t_evening_waited, aI E a_t_evening_hours 4 r_t_evening_hours, aI E a_t_evening_openers 4 r_t_evening_openers, oX1 a_t_now c_t_now_houses c_t_now_comers c_t_now_evening a_t_now_lists a_t_now_kindOf a_t_now_goes a_t_now_comes a_t_now_likings, aI E a_t_now_comes 6 r_t_now_comes, aI E a_t_now_goes 6 r_t_now_goes, aI E a_t_now_kindOf 6 r_t_now_kindOf, aI E a_t_now_likings 24 r_t_now_likings, aI E a_t_now_lists 4 r_t_now_lists] [oX10 a_t a_t_now a_t_county a_t_evening v.1 v.2.1 v.2.2.1, oX1 a_t_county v.2.2.2.1 v.2.2.2.2.1 v.2.2.2.2.2.1 a_t_county_lists a_t_county_kindOf a_t_county_goes a_t_county_comes a_t_county_likings, aI E a_t_county_comes 6 v.2.2.2.2.2.2.1, aI E a_t_county_goes 6 v.2.2.2.2.2.2.2.1, aI E a_t_county_kindOf 6 v.2.2.2.2.2.2.2.2.1, aI E a_t_county_likings 24 v.2.2.2.2.2.2.2.2.2.1, aI E a_t_county_lists 4 v.2.2.2.2.2.2.2.2.2.2.1, oX2 a_t_evening a_t_evening_hours a_t_evening_openers v.2.2.2.2.2.2.2.2.2.2.2.1 v.2.2.2.2.2.2.2.2.2.2.2.2.1, aI E a_t_evening_hours 4 v.2.2.2.2.2.2.2.2.2.2.2.2.2.1, aI E a_t_evening_openers 4 v.2.2.2.2.2.2.2.2.2.2.2.2.2.2, oX1 a_t_now c_t_now_houses c_t_now_comers c_t_now_evening a_t_now_lists a_t_now_kindOf a_t_now_goes a_t_now_comes a_t_now_likings, aI E a_t_now_comes 6 r_t_now_comes, aI E a_t_now_goes 6 r_t_now_goes, aI E a_t_now_kindOf 6 r_t_now_kindOf, aI E a_t_now_likings 24 r_t_now_likings, aI E a_t_now_lists 4 r_t_now_lists] (some (.ref a_t_evening)) := by
  refine Mt.intro (lv := [(0, .ref a_t)]) (by decide +kernel) (Nat.le_of_ble_eq_true rfl) rfl (fun X C K => ?_)
  have C : CX E X cX10_tonight RX10 1 rm_X10_tonight := C
  rw [f_X10_tonight] at h
  refine g_aload_n (pc := 0) C dX10_tonight_0 0 rfl ?_
  obtain ⟨v1, hv1, h⟩ := o_bnd h
  refine g_callV (pc := 1) (ws' := [oX10 a_t a_t_now a_t_county a_t_evening v1.1 v1.2.1 v1.2.2.1, oX1 a_t_county v1.2.2.2.1 v1.2.2.2.2.1 v1.2.2.2.2.2.1 a_t_county_lists a_t_county_kindOf a_t_county_goes a_t_county_comes a_t_county_likings, aI E a_t_county_comes 6 v1.2.2.2.2.2.2.1, aI E a_t_county_goes 6 v1.2.2.2.2.2.2.2.1, aI E a_t_county_kindOf 6 v1.2.2.2.2.2.2.2.2.1, aI E a_t_county_likings 24 v1.2.2.2.2.2.2.2.2.2.1, aI E a_t_county_lists 4 v1.2.2.2.2.2.2.2.2.2.2, oX2 a_t_evening a_t_evening_hours a_t_evening_openers c_t_evening_begun c_t_evening_waited, aI E a_t_evening_hours 4 r_t_evening_hours, aI E a_t_evening_openers 4 r_t_evening_openers, oX1 a_t_now c_t_now_houses c_t_now_comers c_t_now_evening a_t_now_lists a_t_now_kindOf a_t_now_goes a_t_now_comes a_t_now_likings, aI E a_t_now_comes 6 r_t_now_comes, aI E a_t_now_goes 6 r_t_now_goes, aI E a_t_now_kindOf 6 r_t_now_kindOf, aI E a_t_now_likings 24 r_t_now_likings, aI E a_t_now_lists 4 r_t_now_lists]) (st1 := [.ref a_t_county]) C mv_X10_42 (k_X10_restart E a_t a_t_county a_t_county_comes a_t_county_goes a_t_county_kindOf a_t_county_likings a_t_county_lists a_t_now a_t_now_comes a_t_now_goes a_t_now_kindOf a_t_now_likings a_t_now_lists a_t_evening c_t_evenings c_t_waited c_t_firstFast c_t_county_houses c_t_county_comers c_t_county_evening r_t_county_comes r_t_county_goes r_t_county_kindOf r_t_county_likings r_t_county_lists c_t_now_houses c_t_now_comers c_t_now_evening r_t_now_comes r_t_now_goes r_t_now_kindOf r_t_now_likings r_t_now_lists v1 hv1) [0, 1, 2, 3, 4, 5, 6, 10, 11, 12, 13, 14, 15] rfl rfl rfl rfl 0 rfl rfl ⟨by decide, by decide⟩ ⟨rfl, rfl⟩ ⟨Nat.zero_le _, Nat.zero_le _⟩ rfl rfl rfl (Nat.le_of_ble_eq_true rfl) dX10_tonight_1 ?_
  refine g_pop (pc := 4) C dX10_tonight_4 rfl ?_
  refine g_aload_n (pc := 5) C dX10_tonight_5 0 rfl ?_
  refine g_get (pc := 6) 0 C fl_X10_21 rfl rfl dX10_tonight_6 ?_
  refine g_aload_n (pc := 9) C dX10_tonight_9 0 rfl ?_
  refine g_get (pc := 10) 0 C fl_X10_12 rfl rfl dX10_tonight_10 ?_
  obtain ⟨v2, hv2, h⟩ := o_bnd h
  refine g_callV (pc := 13) (ws' := [oX10 a_t a_t_now a_t_county a_t_evening v1.1 v1.2.1 v1.2.2.1, oX1 a_t_county v1.2.2.2.1 v1.2.2.2.2.1 v2.2.2.2.2.1 a_t_county_lists a_t_county_kindOf a_t_county_goes a_t_county_comes a_t_county_likings, aI E a_t_county_comes 6 v1.2.2.2.2.2.2.1, aI E a_t_county_goes 6 v1.2.2.2.2.2.2.2.1, aI E a_t_county_kindOf 6 v1.2.2.2.2.2.2.2.2.1, aI E a_t_county_likings 24 v2.2.2.2.2.2, aI E a_t_county_lists 4 v1.2.2.2.2.2.2.2.2.2.2, oX2 a_t_evening a_t_evening_hours a_t_evening_openers v2.1 v2.2.1, aI E a_t_evening_hours 4 v2.2.2.1, aI E a_t_evening_openers 4 v2.2.2.2.1, oX1 a_t_now c_t_now_houses c_t_now_comers c_t_now_evening a_t_now_lists a_t_now_kindOf a_t_now_goes a_t_now_comes a_t_now_likings, aI E a_t_now_comes 6 r_t_now_comes, aI E a_t_now_goes 6 r_t_now_goes, aI E a_t_now_kindOf 6 r_t_now_kindOf, aI E a_t_now_likings 24 r_t_now_likings, aI E a_t_now_lists 4 r_t_now_lists]) (st1 := []) C mv_X10_46 (k_X2_hold E a_t_evening a_t_evening_hours a_t_evening_openers a_t_county a_t_county_comes a_t_county_goes a_t_county_kindOf a_t_county_likings a_t_county_lists c_t_evening_begun c_t_evening_waited r_t_evening_hours r_t_evening_openers v1.2.2.2.1 v1.2.2.2.2.1 v1.2.2.2.2.2.1 v1.2.2.2.2.2.2.1 v1.2.2.2.2.2.2.2.1 v1.2.2.2.2.2.2.2.2.1 v1.2.2.2.2.2.2.2.2.2.1 v1.2.2.2.2.2.2.2.2.2.2 v2 hv2) [7, 8, 9, 1, 2, 3, 4, 5, 6] rfl rfl rfl rfl 0 rfl rfl ⟨by decide, by decide⟩ ⟨rfl, rfl⟩ ⟨Nat.zero_le _, Nat.zero_le _⟩ rfl rfl rfl (Nat.le_of_ble_eq_true rfl) dX10_tonight_13 ?_
  refine g_aload_n (pc := 16) C dX10_tonight_16 0 rfl ?_
  refine g_get (pc := 17) 0 C fl_X10_21 rfl rfl dX10_tonight_17 ?_
  obtain rfl := Option.some.inj h
  exact g_aret (pc := 20) C (by first | exact Or.inl ⟨_, rfl⟩ | exact Or.inr ⟨_, rfl⟩) K dX10_tonight_20
theorem dX10_driftBy_0 : decode cX10_driftBy 0 = .ok (.aload_n 0, 1) := by decide +kernel
theorem dX10_driftBy_1 : decode cX10_driftBy 1 = .ok (.getfield 12, 3) := by decide +kernel
theorem dX10_driftBy_4 : decode cX10_driftBy 4 = .ok (.getfield 59, 3) := by decide +kernel
theorem dX10_driftBy_7 : decode cX10_driftBy 7 = .ok (.ifCond .eq 13, 3) := by decide +kernel
theorem dX10_driftBy_10 : decode cX10_driftBy 10 = .ok (.aload_n 0, 1) := by decide +kernel
theorem dX10_driftBy_11 : decode cX10_driftBy 11 = .ok (.getfield 12, 3) := by decide +kernel
theorem dX10_driftBy_14 : decode cX10_driftBy 14 = .ok (.getfield 62, 3) := by decide +kernel
theorem dX10_driftBy_17 : decode cX10_driftBy 17 = .ok (.ifCond .ne 5, 3) := by decide +kernel
theorem dX10_driftBy_20 : decode cX10_driftBy 20 = .ok (.iconst 0, 1) := by decide +kernel
theorem dX10_driftBy_21 : decode cX10_driftBy 21 = .ok (.ireturn, 1) := by decide +kernel
theorem dX10_driftBy_22 : decode cX10_driftBy 22 = .ok (.iconst 0, 1) := by decide +kernel
theorem dX10_driftBy_23 : decode cX10_driftBy 23 = .ok (.istore_n 3, 1) := by decide +kernel
theorem dX10_driftBy_24 : decode cX10_driftBy 24 = .ok (.iload_n 1, 1) := by decide +kernel
theorem dX10_driftBy_25 : decode cX10_driftBy 25 = .ok (.istore 4, 2) := by decide +kernel
theorem dX10_driftBy_27 : decode cX10_driftBy 27 = .ok (.iconst 0, 1) := by decide +kernel
theorem dX10_driftBy_28 : decode cX10_driftBy 28 = .ok (.istore 5, 2) := by decide +kernel
theorem dX10_driftBy_30 : decode cX10_driftBy 30 = .ok (.iload 5, 2) := by decide +kernel
theorem dX10_driftBy_32 : decode cX10_driftBy 32 = .ok (.iload_n 2, 1) := by decide +kernel
theorem dX10_driftBy_33 : decode cX10_driftBy 33 = .ok (.if_icmp .ge 92, 3) := by decide +kernel
theorem dX10_driftBy_36 : decode cX10_driftBy 36 = .ok (.iload 4, 2) := by decide +kernel
theorem dX10_driftBy_38 : decode cX10_driftBy 38 = .ok (.ldc 65, 2) := by decide +kernel
theorem dX10_driftBy_40 : decode cX10_driftBy 40 = .ok (.imul, 1) := by decide +kernel
theorem dX10_driftBy_41 : decode cX10_driftBy 41 = .ok (.sipush 12345, 3) := by decide +kernel
theorem dX10_driftBy_44 : decode cX10_driftBy 44 = .ok (.iadd, 1) := by decide +kernel
theorem dX10_driftBy_45 : decode cX10_driftBy 45 = .ok (.istore 4, 2) := by decide +kernel
theorem dX10_driftBy_47 : decode cX10_driftBy 47 = .ok (.iload 4, 2) := by decide +kernel
theorem dX10_driftBy_49 : decode cX10_driftBy 49 = .ok (.bipush 16, 2) := by decide +kernel
theorem dX10_driftBy_51 : decode cX10_driftBy 51 = .ok (.iushr, 1) := by decide +kernel
theorem dX10_driftBy_52 : decode cX10_driftBy 52 = .ok (.sipush 32767, 3) := by decide +kernel
theorem dX10_driftBy_55 : decode cX10_driftBy 55 = .ok (.iand, 1) := by decide +kernel
theorem dX10_driftBy_56 : decode cX10_driftBy 56 = .ok (.istore 6, 2) := by decide +kernel
theorem dX10_driftBy_58 : decode cX10_driftBy 58 = .ok (.iload 6, 2) := by decide +kernel
theorem dX10_driftBy_60 : decode cX10_driftBy 60 = .ok (.aload_n 0, 1) := by decide +kernel
theorem dX10_driftBy_61 : decode cX10_driftBy 61 = .ok (.getfield 12, 3) := by decide +kernel
theorem dX10_driftBy_64 : decode cX10_driftBy 64 = .ok (.getfield 62, 3) := by decide +kernel
theorem dX10_driftBy_67 : decode cX10_driftBy 67 = .ok (.irem, 1) := by decide +kernel
theorem dX10_driftBy_68 : decode cX10_driftBy 68 = .ok (.istore 7, 2) := by decide +kernel
theorem dX10_driftBy_70 : decode cX10_driftBy 70 = .ok (.aload_n 0, 1) := by decide +kernel
theorem dX10_driftBy_71 : decode cX10_driftBy 71 = .ok (.getfield 12, 3) := by decide +kernel
theorem dX10_driftBy_74 : decode cX10_driftBy 74 = .ok (.getfield 66, 3) := by decide +kernel
theorem dX10_driftBy_77 : decode cX10_driftBy 77 = .ok (.iload 7, 2) := by decide +kernel
theorem dX10_driftBy_79 : decode cX10_driftBy 79 = .ok (.iload 6, 2) := by decide +kernel
theorem dX10_driftBy_81 : decode cX10_driftBy 81 = .ok (.bipush 8, 2) := by decide +kernel
theorem dX10_driftBy_83 : decode cX10_driftBy 83 = .ok (.idiv, 1) := by decide +kernel
theorem dX10_driftBy_84 : decode cX10_driftBy 84 = .ok (.aload_n 0, 1) := by decide +kernel
theorem dX10_driftBy_85 : decode cX10_driftBy 85 = .ok (.getfield 12, 3) := by decide +kernel
theorem dX10_driftBy_88 : decode cX10_driftBy 88 = .ok (.getfield 59, 3) := by decide +kernel
theorem dX10_driftBy_91 : decode cX10_driftBy 91 = .ok (.irem, 1) := by decide +kernel
theorem dX10_driftBy_92 : decode cX10_driftBy 92 = .ok (.iastore, 1) := by decide +kernel
theorem dX10_driftBy_93 : decode cX10_driftBy 93 = .ok (.aload_n 0, 1) := by decide +kernel
theorem dX10_driftBy_94 : decode cX10_driftBy 94 = .ok (.getfield 12, 3) := by decide +kernel
theorem dX10_driftBy_97 : decode cX10_driftBy 97 = .ok (.getfield 70, 3) := by decide +kernel
theorem dX10_driftBy_100 : decode cX10_driftBy 100 = .ok (.iload 7, 2) := by decide +kernel
theorem dX10_driftBy_102 : decode cX10_driftBy 102 = .ok (.iload 6, 2) := by decide +kernel
theorem dX10_driftBy_104 : decode cX10_driftBy 104 = .ok (.bipush 32, 2) := by decide +kernel
theorem dX10_driftBy_106 : decode cX10_driftBy 106 = .ok (.idiv, 1) := by decide +kernel
theorem dX10_driftBy_107 : decode cX10_driftBy 107 = .ok (.bipush 7, 2) := by decide +kernel
theorem dX10_driftBy_109 : decode cX10_driftBy 109 = .ok (.irem, 1) := by decide +kernel
theorem dX10_driftBy_110 : decode cX10_driftBy 110 = .ok (.iastore, 1) := by decide +kernel
theorem dX10_driftBy_111 : decode cX10_driftBy 111 = .ok (.iload_n 3, 1) := by decide +kernel
theorem dX10_driftBy_112 : decode cX10_driftBy 112 = .ok (.aload_n 0, 1) := by decide +kernel
theorem dX10_driftBy_113 : decode cX10_driftBy 113 = .ok (.iconst 1, 1) := by decide +kernel
theorem dX10_driftBy_114 : decode cX10_driftBy 114 = .ok (.invokevirtual 73, 3) := by decide +kernel
theorem dX10_driftBy_117 : decode cX10_driftBy 117 = .ok (.iadd, 1) := by decide +kernel
theorem dX10_driftBy_118 : decode cX10_driftBy 118 = .ok (.istore_n 3, 1) := by decide +kernel
theorem dX10_driftBy_119 : decode cX10_driftBy 119 = .ok (.iinc 5 1, 3) := by decide +kernel
theorem dX10_driftBy_122 : decode cX10_driftBy 122 = .ok (.goto (-92), 3) := by decide +kernel
theorem dX10_driftBy_125 : decode cX10_driftBy 125 = .ok (.iload_n 3, 1) := by decide +kernel
theorem dX10_driftBy_126 : decode cX10_driftBy 126 = .ok (.ireturn, 1) := by decide +kernel
def L_X10_driftBy_30 (c_t_county_houses : Int32) (c_t_county_comers : Int32) (r_t_county_kindOf : (Nat → Int32)) (r_t_county_lists : (Nat → Int32)) (x2 : Int32) : Nat → Int32 → Int32 → Int32 → Int32 → Int32 → Int32 → Int32 → (Nat → Int32) → (Nat → Int32) → (Nat → Int32) → Int32 → Int32 → (Nat → Int32) → (Nat → Int32) → Option (Int32 × Int32 × Int32 × Int32 × Int32 × (Nat → Int32) × (Nat → Int32) × (Nat → Int32) × Int32 × Int32 × (Nat → Int32) × (Nat → Int32))
  | 0, _, _, _, _, _, _, _, _, _, _, _, _, _, _ => none
  | n + 1, y1, y2, y3, y4, y5, y6, y7, y8, y9, y10, y11, y12, y13, y14 =>
    if x2 ≤ y3 then
      (some ((y1, y4, y5, y6, y7, y8, y9, y10, y11, y12, y13, y14)))
    else
      (if ¬ c_t_county_comers = 0 then
        (if ¬ 8 = 0 then
          (if ¬ c_t_county_houses = 0 then
            (if inb (((iushr ((y2 * 1103515245) + 12345) 16) &&& 32767) - ((iushr ((y2 * 1103515245) + 12345) 16) &&& 32767) / c_t_county_comers * c_t_county_comers) 6 then
              (if ¬ 32 = 0 then
                (if ¬ 7 = 0 then
                  (if inb (((iushr ((y2 * 1103515245) + 12345) 16) &&& 32767) - ((iushr ((y2 * 1103515245) + 12345) 16) &&& 32767) / c_t_county_comers * c_t_county_comers) 6 then
                    ((f_X10_dinnersIn y4 y5 y6 c_t_county_houses c_t_county_comers y7 (upd y8 (ix (((iushr ((y2 * 1103515245) + 12345) 16) &&& 32767) - ((iushr ((y2 * 1103515245) + 12345) 16) &&& 32767) / c_t_county_comers * c_t_county_comers)) ((((iushr ((y2 * 1103515245) + 12345) 16) &&& 32767) / 32) - (((iushr ((y2 * 1103515245) + 12345) 16) &&& 32767) / 32) / 7 * 7)) (upd y9 (ix (((iushr ((y2 * 1103515245) + 12345) 16) &&& 32767) - ((iushr ((y2 * 1103515245) + 12345) 16) &&& 32767) / c_t_county_comers * c_t_county_comers)) ((((iushr ((y2 * 1103515245) + 12345) 16) &&& 32767) / 8) - (((iushr ((y2 * 1103515245) + 12345) 16) &&& 32767) / 8) / c_t_county_houses * c_t_county_houses)) r_t_county_kindOf y10 r_t_county_lists y11 y12 y13 y14 1).bind (fun (v15 : Int32 × Int32 × Int32 × Int32 × Int32 × (Nat → Int32) × Int32 × Int32 × (Nat → Int32) × (Nat → Int32)) =>
                      L_X10_driftBy_30 c_t_county_houses c_t_county_comers r_t_county_kindOf r_t_county_lists x2 n (y1 + v15.1) ((y2 * 1103515245) + 12345) (y3 + 1) v15.2.1 v15.2.2.1 v15.2.2.2.1 v15.2.2.2.2.1 (upd y8 (ix (((iushr ((y2 * 1103515245) + 12345) 16) &&& 32767) - ((iushr ((y2 * 1103515245) + 12345) 16) &&& 32767) / c_t_county_comers * c_t_county_comers)) ((((iushr ((y2 * 1103515245) + 12345) 16) &&& 32767) / 32) - (((iushr ((y2 * 1103515245) + 12345) 16) &&& 32767) / 32) / 7 * 7)) (upd y9 (ix (((iushr ((y2 * 1103515245) + 12345) 16) &&& 32767) - ((iushr ((y2 * 1103515245) + 12345) 16) &&& 32767) / c_t_county_comers * c_t_county_comers)) ((((iushr ((y2 * 1103515245) + 12345) 16) &&& 32767) / 8) - (((iushr ((y2 * 1103515245) + 12345) 16) &&& 32767) / 8) / c_t_county_houses * c_t_county_houses)) v15.2.2.2.2.2.1 v15.2.2.2.2.2.2.1 v15.2.2.2.2.2.2.2.1 v15.2.2.2.2.2.2.2.2.1 v15.2.2.2.2.2.2.2.2.2))
                  else none)
                else none)
              else none)
            else none)
          else none)
        else none)
      else none)
def f_X10_driftBy (c_t_evenings : Int32) (c_t_waited : Int32) (c_t_firstFast : Int32) (c_t_county_houses : Int32) (c_t_county_comers : Int32) (c_t_county_evening : Int32) (r_t_county_comes : (Nat → Int32)) (r_t_county_goes : (Nat → Int32)) (r_t_county_kindOf : (Nat → Int32)) (r_t_county_likings : (Nat → Int32)) (r_t_county_lists : (Nat → Int32)) (c_t_evening_begun : Int32) (c_t_evening_waited : Int32) (r_t_evening_hours : (Nat → Int32)) (r_t_evening_openers : (Nat → Int32)) (x1 : Int32) (x2 : Int32) : Option (Int32 × Int32 × Int32 × Int32 × Int32 × (Nat → Int32) × (Nat → Int32) × (Nat → Int32) × Int32 × Int32 × (Nat → Int32) × (Nat → Int32)) :=
  if c_t_county_houses = 0 then
    (some ((0, c_t_evenings, c_t_waited, c_t_firstFast, c_t_county_evening, r_t_county_comes, r_t_county_goes, r_t_county_likings, c_t_evening_begun, c_t_evening_waited, r_t_evening_hours, r_t_evening_openers)))
  else
    (if c_t_county_comers = 0 then
      (some ((0, c_t_evenings, c_t_waited, c_t_firstFast, c_t_county_evening, r_t_county_comes, r_t_county_goes, r_t_county_likings, c_t_evening_begun, c_t_evening_waited, r_t_evening_hours, r_t_evening_openers)))
    else
      ((L_X10_driftBy_30 c_t_county_houses c_t_county_comers r_t_county_kindOf r_t_county_lists x2 400 0 x1 0 c_t_evenings c_t_waited c_t_firstFast c_t_county_evening r_t_county_comes r_t_county_goes r_t_county_likings c_t_evening_begun c_t_evening_waited r_t_evening_hours r_t_evening_openers).bind (fun (v17 : Int32 × Int32 × Int32 × Int32 × Int32 × (Nat → Int32) × (Nat → Int32) × (Nat → Int32) × Int32 × Int32 × (Nat → Int32) × (Nat → Int32)) =>
        some ((v17.1, v17.2.1, v17.2.2.1, v17.2.2.2.1, v17.2.2.2.2.1, v17.2.2.2.2.2.1, v17.2.2.2.2.2.2.1, v17.2.2.2.2.2.2.2.1, v17.2.2.2.2.2.2.2.2.1, v17.2.2.2.2.2.2.2.2.2.1, v17.2.2.2.2.2.2.2.2.2.2.1, v17.2.2.2.2.2.2.2.2.2.2.2)))))
abbrev rm_X10_driftBy : Room := { frames := 5, cells := 0, slots := 0, locals := 122 }
set_option maxHeartbeats 4000000 in
set_option maxRecDepth 100000 in
theorem lp_X10_driftBy_30 {E : Ev} {X : Cx} {a_t a_t_county a_t_county_comes a_t_county_goes a_t_county_kindOf a_t_county_likings a_t_county_lists a_t_evening a_t_evening_hours a_t_evening_openers a_t_now : Nat} (c_t_county_houses : Int32) (c_t_county_comers : Int32) (r_t_county_kindOf : (Nat → Int32)) (r_t_county_lists : (Nat → Int32)) (x2 : Int32) (C : CX E X cX10_driftBy RX10 8 rm_X10_driftBy) : ∀ (n : Nat) (y1 : Int32) (y2 : Int32) (y3 : Int32) (y4 : Int32) (y5 : Int32) (y6 : Int32) (y7 : Int32) (y8 : (Nat → Int32)) (y9 : (Nat → Int32)) (y10 : (Nat → Int32)) (y11 : Int32) (y12 : Int32) (y13 : (Nat → Int32)) (y14 : (Nat → Int32)) (v : Int32 × Int32 × Int32 × Int32 × Int32 × (Nat → Int32) × (Nat → Int32) × (Nat → Int32) × Int32 × Int32 × (Nat → Int32) × (Nat → Int32)), L_X10_driftBy_30 c_t_county_houses c_t_county_comers r_t_county_kindOf r_t_county_lists x2 n y1 y2 y3 y4 y5 y6 y7 y8 y9 y10 y11 y12 y13 y14 = some v → G E X 0 0 [oX10 a_t a_t_now a_t_county a_t_evening v.2.1 v.2.2.1 v.2.2.2.1, oX1 a_t_county c_t_county_houses c_t_county_comers v.2.2.2.2.1 a_t_county_lists a_t_county_kindOf a_t_county_goes a_t_county_comes a_t_county_likings, aI E a_t_county_comes 6 v.2.2.2.2.2.1, aI E a_t_county_goes 6 v.2.2.2.2.2.2.1, aI E a_t_county_kindOf 6 r_t_county_kindOf, aI E a_t_county_likings 24 v.2.2.2.2.2.2.2.1, aI E a_t_county_lists 4 r_t_county_lists, oX2 a_t_evening a_t_evening_hours a_t_evening_openers v.2.2.2.2.2.2.2.2.1 v.2.2.2.2.2.2.2.2.2.1, aI E a_t_evening_hours 4 v.2.2.2.2.2.2.2.2.2.2.1, aI E a_t_evening_openers 4 v.2.2.2.2.2.2.2.2.2.2.2] [(3, .int v.1)] 125 [] → G E X 0 0 [oX10 a_t a_t_now a_t_county a_t_evening y4 y5 y6, oX1 a_t_county c_t_county_houses c_t_county_comers y7 a_t_county_lists a_t_county_kindOf a_t_county_goes a_t_county_comes a_t_county_likings, aI E a_t_county_comes 6 y8, aI E a_t_county_goes 6 y9, aI E a_t_county_kindOf 6 r_t_county_kindOf, aI E a_t_county_likings 24 y10, aI E a_t_county_lists 4 r_t_county_lists, oX2 a_t_evening a_t_evening_hours a_t_evening_openers y11 y12, aI E a_t_evening_hours 4 y13, aI E a_t_evening_openers 4 y14] [(0, .ref a_t), (2, .int x2), (3, .int y1), (4, .int y2), (5, .int y3)] 30 [] := by
  intro n
  induction n with
  | zero => intro _ _ _ _ _ _ _ _ _ _ _ _ _ _ _ h; cases h
  | succ n ih =>
    intro y1 y2 y3 y4 y5 y6 y7 y8 y9 y10 y11 y12 y13 y14 v h kk
    rw [L_X10_driftBy_30] at h
    refine g_iload (pc := 30) C dX10_driftBy_30 4 rfl ?_
    refine g_iload_n (pc := 32) C dX10_driftBy_32 1 rfl ?_
    refine b_icmp_ge (pc := 33) 125 C dX10_driftBy_33 (by decide) h (fun _ h => ?_) (fun _ h => ?_)
    · obtain rfl := Option.some.inj h
      refine g_lv [2] (lv' := [(3, .int y1)]) rfl ?_
      exact kk
    · refine g_iload (pc := 36) C dX10_driftBy_36 3 rfl ?_
      refine g_ldc (pc := 38) C kc_X10_65 dX10_driftBy_38 ?_
      refine g_imul (pc := 40) C dX10_driftBy_40 ?_
      refine g_sipush (pc := 41) (v := 12345) C dX10_driftBy_41 (by decide) ?_
      refine g_iadd (pc := 44) C dX10_driftBy_44 ?_
      refine g_istore (pc := 45) (lv' := [(4, .int ((y2 * 1103515245) + 12345)), (0, .ref a_t), (2, .int x2), (3, .int y1), (5, .int y3)]) C dX10_driftBy_45 (by decide) rfl ?_
      refine g_iload (pc := 47) C dX10_driftBy_47 0 rfl ?_
      refine g_bipush (pc := 49) (v := 16) C dX10_driftBy_49 (by decide) ?_
      refine g_iushr (pc := 51) C dX10_driftBy_51 ?_
      refine g_sipush (pc := 52) (v := 32767) C dX10_driftBy_52 (by decide) ?_
      refine g_iand (pc := 55) C dX10_driftBy_55 ?_
      refine g_istore (pc := 56) (lv' := [(6, .int ((iushr ((y2 * 1103515245) + 12345) 16) &&& 32767)), (4, .int ((y2 * 1103515245) + 12345)), (0, .ref a_t), (2, .int x2), (3, .int y1), (5, .int y3)]) C dX10_driftBy_56 (by decide) rfl ?_
      refine g_iload (pc := 58) C dX10_driftBy_58 0 rfl ?_
      refine g_aload_n (pc := 60) C dX10_driftBy_60 2 rfl ?_
      refine g_get (pc := 61) 0 C fl_X10_12 rfl rfl dX10_driftBy_61 ?_
      refine g_get (pc := 64) 1 C fl_X10_62 rfl rfl dX10_driftBy_64 ?_
      refine b_irem (pc := 67) C dX10_driftBy_67 h (fun h => ?_)
      refine g_istore (pc := 68) (lv' := [(7, .int (((iushr ((y2 * 1103515245) + 12345) 16) &&& 32767) - ((iushr ((y2 * 1103515245) + 12345) 16) &&& 32767) / c_t_county_comers * c_t_county_comers)), (6, .int ((iushr ((y2 * 1103515245) + 12345) 16) &&& 32767)), (4, .int ((y2 * 1103515245) + 12345)), (0, .ref a_t), (2, .int x2), (3, .int y1), (5, .int y3)]) C dX10_driftBy_68 (by decide) rfl ?_
      refine g_aload_n (pc := 70) C dX10_driftBy_70 3 rfl ?_
      refine g_get (pc := 71) 0 C fl_X10_12 rfl rfl dX10_driftBy_71 ?_
      refine g_get (pc := 74) 1 C fl_X10_66 rfl rfl dX10_driftBy_74 ?_
      refine g_iload (pc := 77) C dX10_driftBy_77 0 rfl ?_
      refine g_iload (pc := 79) C dX10_driftBy_79 1 rfl ?_
      refine g_bipush (pc := 81) (v := 8) C dX10_driftBy_81 (by decide) ?_
      refine b_idiv (pc := 83) C dX10_driftBy_83 h (fun h => ?_)
      refine g_aload_n (pc := 84) C dX10_driftBy_84 3 rfl ?_
      refine g_get (pc := 85) 0 C fl_X10_12 rfl rfl dX10_driftBy_85 ?_
      refine g_get (pc := 88) 1 C fl_X10_59 rfl rfl dX10_driftBy_88 ?_
      refine b_irem (pc := 91) C dX10_driftBy_91 h (fun h => ?_)
      refine b_iast (pc := 92) (ws' := [oX10 a_t a_t_now a_t_county a_t_evening y4 y5 y6, oX1 a_t_county c_t_county_houses c_t_county_comers y7 a_t_county_lists a_t_county_kindOf a_t_county_goes a_t_county_comes a_t_county_likings, aI E a_t_county_comes 6 y8, aI E a_t_county_goes 6 (upd y9 (ix (((iushr ((y2 * 1103515245) + 12345) 16) &&& 32767) - ((iushr ((y2 * 1103515245) + 12345) 16) &&& 32767) / c_t_county_comers * c_t_county_comers)) ((((iushr ((y2 * 1103515245) + 12345) 16) &&& 32767) / 8) - (((iushr ((y2 * 1103515245) + 12345) 16) &&& 32767) / 8) / c_t_county_houses * c_t_county_houses)), aI E a_t_county_kindOf 6 r_t_county_kindOf, aI E a_t_county_likings 24 y10, aI E a_t_county_lists 4 r_t_county_lists, oX2 a_t_evening a_t_evening_hours a_t_evening_openers y11 y12, aI E a_t_evening_hours 4 y13, aI E a_t_evening_openers 4 y14]) 3 C rfl rfl dX10_driftBy_92 h (fun _ h => ?_)
      refine g_aload_n (pc := 93) C dX10_driftBy_93 3 rfl ?_
      refine g_get (pc := 94) 0 C fl_X10_12 rfl rfl dX10_driftBy_94 ?_
      refine g_get (pc := 97) 1 C fl_X10_70 rfl rfl dX10_driftBy_97 ?_
      refine g_iload (pc := 100) C dX10_driftBy_100 0 rfl ?_
      refine g_iload (pc := 102) C dX10_driftBy_102 1 rfl ?_
      refine g_bipush (pc := 104) (v := 32) C dX10_driftBy_104 (by decide) ?_
      refine b_idiv (pc := 106) C dX10_driftBy_106 h (fun h => ?_)
      refine g_bipush (pc := 107) (v := 7) C dX10_driftBy_107 (by decide) ?_
      refine b_irem (pc := 109) C dX10_driftBy_109 h (fun h => ?_)
      refine b_iast (pc := 110) (ws' := [oX10 a_t a_t_now a_t_county a_t_evening y4 y5 y6, oX1 a_t_county c_t_county_houses c_t_county_comers y7 a_t_county_lists a_t_county_kindOf a_t_county_goes a_t_county_comes a_t_county_likings, aI E a_t_county_comes 6 (upd y8 (ix (((iushr ((y2 * 1103515245) + 12345) 16) &&& 32767) - ((iushr ((y2 * 1103515245) + 12345) 16) &&& 32767) / c_t_county_comers * c_t_county_comers)) ((((iushr ((y2 * 1103515245) + 12345) 16) &&& 32767) / 32) - (((iushr ((y2 * 1103515245) + 12345) 16) &&& 32767) / 32) / 7 * 7)), aI E a_t_county_goes 6 (upd y9 (ix (((iushr ((y2 * 1103515245) + 12345) 16) &&& 32767) - ((iushr ((y2 * 1103515245) + 12345) 16) &&& 32767) / c_t_county_comers * c_t_county_comers)) ((((iushr ((y2 * 1103515245) + 12345) 16) &&& 32767) / 8) - (((iushr ((y2 * 1103515245) + 12345) 16) &&& 32767) / 8) / c_t_county_houses * c_t_county_houses)), aI E a_t_county_kindOf 6 r_t_county_kindOf, aI E a_t_county_likings 24 y10, aI E a_t_county_lists 4 r_t_county_lists, oX2 a_t_evening a_t_evening_hours a_t_evening_openers y11 y12, aI E a_t_evening_hours 4 y13, aI E a_t_evening_openers 4 y14]) 2 C rfl rfl dX10_driftBy_110 h (fun _ h => ?_)
      refine g_iload_n (pc := 111) C dX10_driftBy_111 5 rfl ?_
      refine g_aload_n (pc := 112) C dX10_driftBy_112 3 rfl ?_
      refine g_iconst (pc := 113) (v := 1) C dX10_driftBy_113 (by decide) ?_
      obtain ⟨v15, hv15, h⟩ := o_bnd h
      refine g_callV (pc := 114) (ws' := [oX10 a_t a_t_now a_t_county a_t_evening v15.2.1 v15.2.2.1 v15.2.2.2.1, oX1 a_t_county c_t_county_houses c_t_county_comers v15.2.2.2.2.1 a_t_county_lists a_t_county_kindOf a_t_county_goes a_t_county_comes a_t_county_likings, aI E a_t_county_comes 6 (upd y8 (ix (((iushr ((y2 * 1103515245) + 12345) 16) &&& 32767) - ((iushr ((y2 * 1103515245) + 12345) 16) &&& 32767) / c_t_county_comers * c_t_county_comers)) ((((iushr ((y2 * 1103515245) + 12345) 16) &&& 32767) / 32) - (((iushr ((y2 * 1103515245) + 12345) 16) &&& 32767) / 32) / 7 * 7)), aI E a_t_county_goes 6 (upd y9 (ix (((iushr ((y2 * 1103515245) + 12345) 16) &&& 32767) - ((iushr ((y2 * 1103515245) + 12345) 16) &&& 32767) / c_t_county_comers * c_t_county_comers)) ((((iushr ((y2 * 1103515245) + 12345) 16) &&& 32767) / 8) - (((iushr ((y2 * 1103515245) + 12345) 16) &&& 32767) / 8) / c_t_county_houses * c_t_county_houses)), aI E a_t_county_kindOf 6 r_t_county_kindOf, aI E a_t_county_likings 24 v15.2.2.2.2.2.1, aI E a_t_county_lists 4 r_t_county_lists, oX2 a_t_evening a_t_evening_hours a_t_evening_openers v15.2.2.2.2.2.2.1 v15.2.2.2.2.2.2.2.1, aI E a_t_evening_hours 4 v15.2.2.2.2.2.2.2.2.1, aI E a_t_evening_openers 4 v15.2.2.2.2.2.2.2.2.2]) (st1 := [.int v15.1, .int y1]) C mv_X10_73 (k_X10_dinnersIn E a_t a_t_county a_t_county_comes a_t_county_goes a_t_county_kindOf a_t_county_likings a_t_county_lists a_t_evening a_t_evening_hours a_t_evening_openers a_t_now y4 y5 y6 c_t_county_houses c_t_county_comers y7 (upd y8 (ix (((iushr ((y2 * 1103515245) + 12345) 16) &&& 32767) - ((iushr ((y2 * 1103515245) + 12345) 16) &&& 32767) / c_t_county_comers * c_t_county_comers)) ((((iushr ((y2 * 1103515245) + 12345) 16) &&& 32767) / 32) - (((iushr ((y2 * 1103515245) + 12345) 16) &&& 32767) / 32) / 7 * 7)) (upd y9 (ix (((iushr ((y2 * 1103515245) + 12345) 16) &&& 32767) - ((iushr ((y2 * 1103515245) + 12345) 16) &&& 32767) / c_t_county_comers * c_t_county_comers)) ((((iushr ((y2 * 1103515245) + 12345) 16) &&& 32767) / 8) - (((iushr ((y2 * 1103515245) + 12345) 16) &&& 32767) / 8) / c_t_county_houses * c_t_county_houses)) r_t_county_kindOf y10 r_t_county_lists y11 y12 y13 y14 1 v15 hv15) [0, 1, 2, 3, 4, 5, 6, 7, 8, 9] rfl rfl rfl rfl 0 rfl rfl ⟨by decide, by decide⟩ ⟨rfl, rfl⟩ ⟨Nat.zero_le _, Nat.zero_le _⟩ rfl rfl rfl (Nat.le_of_ble_eq_true rfl) dX10_driftBy_114 ?_
      refine g_iadd (pc := 117) C dX10_driftBy_117 ?_
      refine g_istore_n (pc := 118) (lv' := [(3, .int (y1 + v15.1)), (7, .int (((iushr ((y2 * 1103515245) + 12345) 16) &&& 32767) - ((iushr ((y2 * 1103515245) + 12345) 16) &&& 32767) / c_t_county_comers * c_t_county_comers)), (6, .int ((iushr ((y2 * 1103515245) + 12345) 16) &&& 32767)), (4, .int ((y2 * 1103515245) + 12345)), (0, .ref a_t), (2, .int x2), (5, .int y3)]) C dX10_driftBy_118 (by decide) rfl ?_
      refine g_iinc (pc := 119) (v := y3 + 1) (lv' := [(5, .int (y3 + 1)), (3, .int (y1 + v15.1)), (7, .int (((iushr ((y2 * 1103515245) + 12345) 16) &&& 32767) - ((iushr ((y2 * 1103515245) + 12345) 16) &&& 32767) / c_t_county_comers * c_t_county_comers)), (6, .int ((iushr ((y2 * 1103515245) + 12345) 16) &&& 32767)), (4, .int ((y2 * 1103515245) + 12345)), (0, .ref a_t), (2, .int x2)]) C dX10_driftBy_119 6 rfl rfl (by decide) rfl ?_
      refine g_goto (pc := 122) 30 C dX10_driftBy_122 (by decide) ?_
      refine g_lv [5, 6, 1, 4, 0] (lv' := [(0, .ref a_t), (2, .int x2), (3, .int (y1 + v15.1)), (4, .int ((y2 * 1103515245) + 12345)), (5, .int (y3 + 1))]) rfl ?_
      exact ih _ _ _ _ _ _ _ _ _ _ _ _ _ _ _ h kk
set_option maxHeartbeats 4000000 in
set_option maxRecDepth 100000 in
theorem k_X10_driftBy (E : Ev) (a_t a_t_county a_t_county_comes a_t_county_goes a_t_county_kindOf a_t_county_likings a_t_county_lists a_t_evening a_t_evening_hours a_t_evening_openers a_t_now : Nat) (c_t_evenings : Int32) (c_t_waited : Int32) (c_t_firstFast : Int32) (c_t_county_houses : Int32) (c_t_county_comers : Int32) (c_t_county_evening : Int32) (r_t_county_comes : (Nat → Int32)) (r_t_county_goes : (Nat → Int32)) (r_t_county_kindOf : (Nat → Int32)) (r_t_county_likings : (Nat → Int32)) (r_t_county_lists : (Nat → Int32)) (c_t_evening_begun : Int32) (c_t_evening_waited : Int32) (r_t_evening_hours : (Nat → Int32)) (r_t_evening_openers : (Nat → Int32)) (x1 : Int32) (x2 : Int32) (v : Int32 × Int32 × Int32 × Int32 × Int32 × (Nat → Int32) × (Nat → Int32) × (Nat → Int32) × Int32 × Int32 × (Nat → Int32) × (Nat → Int32)) (h : f_X10_driftBy c_t_evenings c_t_waited c_t_firstFast c_t_county_houses c_t_county_comers c_t_county_evening r_t_county_comes r_t_county_goes r_t_county_kindOf r_t_county_likings r_t_county_lists c_t_evening_begun c_t_evening_waited r_t_evening_hours r_t_evening_openers x1 x2 = some v) : Mt E yX10_driftBy cX10_driftBy 8 (some .int) rm_X10_driftBy [.ref a_t, .int x1, .int x2] [oX10 a_t a_t_now a_t_county a_t_evening c_t_evenings c_t_waited c_t_firstFast, oX1 a_t_county c_t_county_houses c_t_county_comers c_t_county_evening a_t_county_lists a_t_county_kindOf a_t_county_goes a_t_county_comes a_t_county_likings, aI E a_t_county_comes 6 r_t_county_comes, aI E a_t_county_goes 6 r_t_county_goes, aI E a_t_county_kindOf 6 r_t_county_kindOf, aI E a_t_county_likings 24 r_t_county_likings, aI E a_t_county_lists 4 r_t_county_lists, oX2 a_t_evening a_t_evening_hours a_t_evening_openers c_t_evening_begun c_t_evening_waited, aI E a_t_evening_hours 4 r_t_evening_hours, aI E a_t_evening_openers 4 r_t_evening_openers] [oX10 a_t a_t_now a_t_county a_t_evening v.2.1 v.2.2.1 v.2.2.2.1, oX1 a_t_county c_t_county_houses c_t_county_comers v.2.2.2.2.1 a_t_county_lists a_t_county_kindOf a_t_county_goes a_t_county_comes a_t_county_likings, aI E a_t_county_comes 6 v.2.2.2.2.2.1, aI E a_t_county_goes 6 v.2.2.2.2.2.2.1, aI E a_t_county_kindOf 6 r_t_county_kindOf, aI E a_t_county_likings 24 v.2.2.2.2.2.2.2.1, aI E a_t_county_lists 4 r_t_county_lists, oX2 a_t_evening a_t_evening_hours a_t_evening_openers v.2.2.2.2.2.2.2.2.1 v.2.2.2.2.2.2.2.2.2.1, aI E a_t_evening_hours 4 v.2.2.2.2.2.2.2.2.2.2.1, aI E a_t_evening_openers 4 v.2.2.2.2.2.2.2.2.2.2.2] (some (.int v.1)) := by
  refine Mt.intro (lv := [(0, .ref a_t), (1, .int x1), (2, .int x2)]) (by decide +kernel) (Nat.le_of_ble_eq_true rfl) rfl (fun X C K => ?_)
  have C : CX E X cX10_driftBy RX10 8 rm_X10_driftBy := C
  rw [f_X10_driftBy] at h
  refine g_aload_n (pc := 0) C dX10_driftBy_0 0 rfl ?_
  refine g_get (pc := 1) 0 C fl_X10_12 rfl rfl dX10_driftBy_1 ?_
  refine g_get (pc := 4) 1 C fl_X10_59 rfl rfl dX10_driftBy_4 ?_
  refine b_if_eq (pc := 7) 20 C dX10_driftBy_7 (by decide) h (fun _ h => ?_) (fun _ h => ?_)
  · refine g_iconst (pc := 20) (v := 0) C dX10_driftBy_20 (by decide) ?_
    obtain rfl := Option.some.inj h
    exact g_iret (pc := 21) C K dX10_driftBy_21
  · refine g_aload_n (pc := 10) C dX10_driftBy_10 0 rfl ?_
    refine g_get (pc := 11) 0 C fl_X10_12 rfl rfl dX10_driftBy_11 ?_
    refine g_get (pc := 14) 1 C fl_X10_62 rfl rfl dX10_driftBy_14 ?_
    refine b_if_ne (pc := 17) 22 C dX10_driftBy_17 (by decide) h (fun _ h => ?_) (fun _ h => ?_)
    · refine g_iconst (pc := 22) (v := 0) C dX10_driftBy_22 (by decide) ?_
      refine g_istore_n (pc := 23) (lv' := [(3, .int 0), (0, .ref a_t), (1, .int x1), (2, .int x2)]) C dX10_driftBy_23 (by decide) rfl ?_
      refine g_iload_n (pc := 24) C dX10_driftBy_24 2 rfl ?_
      refine g_istore (pc := 25) (lv' := [(4, .int x1), (3, .int 0), (0, .ref a_t), (1, .int x1), (2, .int x2)]) C dX10_driftBy_25 (by decide) rfl ?_
      refine g_iconst (pc := 27) (v := 0) C dX10_driftBy_27 (by decide) ?_
      refine g_istore (pc := 28) (lv' := [(5, .int 0), (4, .int x1), (3, .int 0), (0, .ref a_t), (1, .int x1), (2, .int x2)]) C dX10_driftBy_28 (by decide) rfl ?_
      obtain ⟨v17, hv17, h⟩ := o_bnd h
      refine g_lv [3, 5, 2, 1, 0] (lv' := [(0, .ref a_t), (2, .int x2), (3, .int 0), (4, .int x1), (5, .int 0)]) rfl ?_
      refine lp_X10_driftBy_30 c_t_county_houses c_t_county_comers r_t_county_kindOf r_t_county_lists x2 C 400 _ _ _ _ _ _ _ _ _ _ _ _ _ _ _ hv17 ?_
      refine g_iload_n (pc := 125) C dX10_driftBy_125 0 rfl ?_
      obtain rfl := Option.some.inj h
      exact g_iret (pc := 126) C K dX10_driftBy_126
    · refine g_iconst (pc := 20) (v := 0) C dX10_driftBy_20 (by decide) ?_
      obtain rfl := Option.some.inj h
      exact g_iret (pc := 21) C K dX10_driftBy_21
