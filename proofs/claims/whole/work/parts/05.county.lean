theorem dX1_destination_0 : decode cX1_destination 0 = .ok (.iload_n 1, 1) := by decide +kernel
theorem dX1_destination_1 : decode cX1_destination 1 = .ok (.aload_n 0, 1) := by decide +kernel
theorem dX1_destination_2 : decode cX1_destination 2 = .ok (.getfield 9, 3) := by decide +kernel
theorem dX1_destination_5 : decode cX1_destination 5 = .ok (.if_icmp .ge 7, 3) := by decide +kernel
theorem dX1_destination_8 : decode cX1_destination 8 = .ok (.iload_n 1, 1) := by decide +kernel
theorem dX1_destination_9 : decode cX1_destination 9 = .ok (.goto 5, 3) := by decide +kernel
theorem dX1_destination_12 : decode cX1_destination 12 = .ok (.bipush 9, 2) := by decide +kernel
theorem dX1_destination_14 : decode cX1_destination 14 = .ok (.ireturn, 1) := by decide +kernel
def f_X1_destination (c_t_houses : Int32) (x1 : Int32) : Option (Int32) :=
  if c_t_houses ≤ x1 then
    (some 9)
  else
    (some x1)
abbrev rm_X1_destination : Room := { frames := 0, cells := 0, slots := 0, locals := 0 }
set_option maxHeartbeats 4000000 in
set_option maxRecDepth 100000 in
theorem k_X1_destination (E : Ev) (a_t a_t_lists a_t_kindOf a_t_goes a_t_comes a_t_likings : Nat) (c_t_houses : Int32) (c_t_comers : Int32) (c_t_evening : Int32) (x1 : Int32) (v : Int32) (h : f_X1_destination c_t_houses x1 = some v) : Mt E yX1_destination cX1_destination 2 (some .int) rm_X1_destination [.ref a_t, .int x1] [oX1 a_t c_t_houses c_t_comers c_t_evening a_t_lists a_t_kindOf a_t_goes a_t_comes a_t_likings] [oX1 a_t c_t_houses c_t_comers c_t_evening a_t_lists a_t_kindOf a_t_goes a_t_comes a_t_likings] (some (.int v)) := by
  refine Mt.intro (lv := [(0, .ref a_t), (1, .int x1)]) (by decide +kernel) (Nat.le_of_ble_eq_true rfl) rfl (fun X C K => ?_)
  have C : CX E X cX1_destination RX1 2 rm_X1_destination := C
  rw [f_X1_destination] at h
  refine g_iload_n (pc := 0) C dX1_destination_0 1 rfl ?_
  refine g_aload_n (pc := 1) C dX1_destination_1 0 rfl ?_
  refine g_get (pc := 2) 0 C fl_X1_9 rfl rfl dX1_destination_2 ?_
  refine b_icmp_ge (pc := 5) 12 C dX1_destination_5 (by decide) h (fun _ h => ?_) (fun _ h => ?_)
  · refine g_bipush (pc := 12) (v := 9) C dX1_destination_12 (by decide) ?_
    obtain rfl := Option.some.inj h
    exact g_iret (pc := 14) C K dX1_destination_14
  · refine g_iload_n (pc := 8) C dX1_destination_8 1 rfl ?_
    refine g_goto (pc := 9) 14 C dX1_destination_9 (by decide) ?_
    obtain rfl := Option.some.inj h
    exact g_iret (pc := 14) C K dX1_destination_14
theorem dX1_copyLikingsFrom_0 : decode cX1_copyLikingsFrom 0 = .ok (.aload_n 1, 1) := by decide +kernel
theorem dX1_copyLikingsFrom_1 : decode cX1_copyLikingsFrom 1 = .ok (.getfield 34, 3) := by decide +kernel
theorem dX1_copyLikingsFrom_4 : decode cX1_copyLikingsFrom 4 = .ok (.iconst 0, 1) := by decide +kernel
theorem dX1_copyLikingsFrom_5 : decode cX1_copyLikingsFrom 5 = .ok (.aload_n 0, 1) := by decide +kernel
theorem dX1_copyLikingsFrom_6 : decode cX1_copyLikingsFrom 6 = .ok (.getfield 34, 3) := by decide +kernel
theorem dX1_copyLikingsFrom_9 : decode cX1_copyLikingsFrom 9 = .ok (.iconst 0, 1) := by decide +kernel
theorem dX1_copyLikingsFrom_10 : decode cX1_copyLikingsFrom 10 = .ok (.bipush 24, 2) := by decide +kernel
theorem dX1_copyLikingsFrom_12 : decode cX1_copyLikingsFrom 12 = .ok (.invokestatic 37, 3) := by decide +kernel
theorem dX1_copyLikingsFrom_15 : decode cX1_copyLikingsFrom 15 = .ok (.return_, 1) := by decide +kernel
def f_X1_copyLikingsFrom (r_t_likings : (Nat → Int32)) (r_p0_likings : (Nat → Int32)) : Option ((Nat → Int32)) :=
  some r_p0_likings
abbrev rm_X1_copyLikingsFrom : Room := { frames := 1, cells := 0, slots := 0, locals := 60 }
set_option maxHeartbeats 4000000 in
set_option maxRecDepth 100000 in
theorem k_X1_copyLikingsFrom (E : Ev) (a_t a_t_likings a_p0 a_p0_likings a_t_lists a_t_kindOf a_t_goes a_t_comes a_p0_lists a_p0_kindOf a_p0_goes a_p0_comes : Nat) (c_t_houses : Int32) (c_t_comers : Int32) (c_t_evening : Int32) (r_t_likings : (Nat → Int32)) (c_p0_houses : Int32) (c_p0_comers : Int32) (c_p0_evening : Int32) (r_p0_likings : (Nat → Int32)) (v : (Nat → Int32)) (h : f_X1_copyLikingsFrom r_t_likings r_p0_likings = some v) : Mt E yX1_copyLikingsFrom cX1_copyLikingsFrom 2 none rm_X1_copyLikingsFrom [.ref a_t, .ref a_p0] [oX1 a_t c_t_houses c_t_comers c_t_evening a_t_lists a_t_kindOf a_t_goes a_t_comes a_t_likings, aI E a_t_likings 24 r_t_likings, oX1 a_p0 c_p0_houses c_p0_comers c_p0_evening a_p0_lists a_p0_kindOf a_p0_goes a_p0_comes a_p0_likings, aI E a_p0_likings 24 r_p0_likings] [oX1 a_t c_t_houses c_t_comers c_t_evening a_t_lists a_t_kindOf a_t_goes a_t_comes a_t_likings, aI E a_t_likings 24 v, oX1 a_p0 c_p0_houses c_p0_comers c_p0_evening a_p0_lists a_p0_kindOf a_p0_goes a_p0_comes a_p0_likings, aI E a_p0_likings 24 r_p0_likings] none := by
  refine Mt.intro (lv := [(0, .ref a_t), (1, .ref a_p0)]) (by decide +kernel) (Nat.le_of_ble_eq_true rfl) rfl (fun X C K => ?_)
  have C : CX E X cX1_copyLikingsFrom RX1 2 rm_X1_copyLikingsFrom := C
  rw [f_X1_copyLikingsFrom] at h
  refine g_aload_n (pc := 0) C dX1_copyLikingsFrom_0 1 rfl ?_
  refine g_get (pc := 1) 2 C fl_X1_34 rfl rfl dX1_copyLikingsFrom_1 ?_
  refine g_iconst (pc := 4) (v := 0) C dX1_copyLikingsFrom_4 (by decide) ?_
  refine g_aload_n (pc := 5) C dX1_copyLikingsFrom_5 0 rfl ?_
  refine g_get (pc := 6) 0 C fl_X1_34 rfl rfl dX1_copyLikingsFrom_6 ?_
  refine g_iconst (pc := 9) (v := 0) C dX1_copyLikingsFrom_9 (by decide) ?_
  refine g_bipush (pc := 10) (v := 24) C dX1_copyLikingsFrom_10 (by decide) ?_
  refine g_copy (pc := 12) (ws' := [oX1 a_t c_t_houses c_t_comers c_t_evening a_t_lists a_t_kindOf a_t_goes a_t_comes a_t_likings, aI E a_t_likings 24 r_p0_likings, oX1 a_p0 c_p0_houses c_p0_comers c_p0_evening a_p0_lists a_p0_kindOf a_p0_goes a_p0_comes a_p0_likings, aI E a_p0_likings 24 r_p0_likings]) 3 1 C ac_X1_37 rfl rfl (by decide) (by decide) rfl (by decide) (Nat.le_of_ble_eq_true (by decide +kernel)) dX1_copyLikingsFrom_12 ?_
  obtain rfl := Option.some.inj h
  exact g_vret (pc := 15) C K dX1_copyLikingsFrom_15
theorem dX1_copyFrom_0 : decode cX1_copyFrom 0 = .ok (.aload_n 0, 1) := by decide +kernel
theorem dX1_copyFrom_1 : decode cX1_copyFrom 1 = .ok (.aload_n 1, 1) := by decide +kernel
theorem dX1_copyFrom_2 : decode cX1_copyFrom 2 = .ok (.getfield 9, 3) := by decide +kernel
theorem dX1_copyFrom_5 : decode cX1_copyFrom 5 = .ok (.putfield 9, 3) := by decide +kernel
theorem dX1_copyFrom_8 : decode cX1_copyFrom 8 = .ok (.aload_n 0, 1) := by decide +kernel
theorem dX1_copyFrom_9 : decode cX1_copyFrom 9 = .ok (.aload_n 1, 1) := by decide +kernel
theorem dX1_copyFrom_10 : decode cX1_copyFrom 10 = .ok (.getfield 15, 3) := by decide +kernel
theorem dX1_copyFrom_13 : decode cX1_copyFrom 13 = .ok (.putfield 15, 3) := by decide +kernel
theorem dX1_copyFrom_16 : decode cX1_copyFrom 16 = .ok (.aload_n 0, 1) := by decide +kernel
theorem dX1_copyFrom_17 : decode cX1_copyFrom 17 = .ok (.aload_n 1, 1) := by decide +kernel
theorem dX1_copyFrom_18 : decode cX1_copyFrom 18 = .ok (.getfield 18, 3) := by decide +kernel
theorem dX1_copyFrom_21 : decode cX1_copyFrom 21 = .ok (.putfield 18, 3) := by decide +kernel
theorem dX1_copyFrom_24 : decode cX1_copyFrom 24 = .ok (.aload_n 1, 1) := by decide +kernel
theorem dX1_copyFrom_25 : decode cX1_copyFrom 25 = .ok (.getfield 21, 3) := by decide +kernel
theorem dX1_copyFrom_28 : decode cX1_copyFrom 28 = .ok (.iconst 0, 1) := by decide +kernel
theorem dX1_copyFrom_29 : decode cX1_copyFrom 29 = .ok (.aload_n 0, 1) := by decide +kernel
theorem dX1_copyFrom_30 : decode cX1_copyFrom 30 = .ok (.getfield 21, 3) := by decide +kernel
theorem dX1_copyFrom_33 : decode cX1_copyFrom 33 = .ok (.iconst 0, 1) := by decide +kernel
theorem dX1_copyFrom_34 : decode cX1_copyFrom 34 = .ok (.iconst 4, 1) := by decide +kernel
theorem dX1_copyFrom_35 : decode cX1_copyFrom 35 = .ok (.invokestatic 37, 3) := by decide +kernel
theorem dX1_copyFrom_38 : decode cX1_copyFrom 38 = .ok (.aload_n 1, 1) := by decide +kernel
theorem dX1_copyFrom_39 : decode cX1_copyFrom 39 = .ok (.getfield 25, 3) := by decide +kernel
theorem dX1_copyFrom_42 : decode cX1_copyFrom 42 = .ok (.iconst 0, 1) := by decide +kernel
theorem dX1_copyFrom_43 : decode cX1_copyFrom 43 = .ok (.aload_n 0, 1) := by decide +kernel
theorem dX1_copyFrom_44 : decode cX1_copyFrom 44 = .ok (.getfield 25, 3) := by decide +kernel
theorem dX1_copyFrom_47 : decode cX1_copyFrom 47 = .ok (.iconst 0, 1) := by decide +kernel
theorem dX1_copyFrom_48 : decode cX1_copyFrom 48 = .ok (.bipush 6, 2) := by decide +kernel
theorem dX1_copyFrom_50 : decode cX1_copyFrom 50 = .ok (.invokestatic 37, 3) := by decide +kernel
theorem dX1_copyFrom_53 : decode cX1_copyFrom 53 = .ok (.aload_n 1, 1) := by decide +kernel
theorem dX1_copyFrom_54 : decode cX1_copyFrom 54 = .ok (.getfield 28, 3) := by decide +kernel
theorem dX1_copyFrom_57 : decode cX1_copyFrom 57 = .ok (.iconst 0, 1) := by decide +kernel
theorem dX1_copyFrom_58 : decode cX1_copyFrom 58 = .ok (.aload_n 0, 1) := by decide +kernel
theorem dX1_copyFrom_59 : decode cX1_copyFrom 59 = .ok (.getfield 28, 3) := by decide +kernel
theorem dX1_copyFrom_62 : decode cX1_copyFrom 62 = .ok (.iconst 0, 1) := by decide +kernel
theorem dX1_copyFrom_63 : decode cX1_copyFrom 63 = .ok (.bipush 6, 2) := by decide +kernel
theorem dX1_copyFrom_65 : decode cX1_copyFrom 65 = .ok (.invokestatic 37, 3) := by decide +kernel
theorem dX1_copyFrom_68 : decode cX1_copyFrom 68 = .ok (.aload_n 1, 1) := by decide +kernel
theorem dX1_copyFrom_69 : decode cX1_copyFrom 69 = .ok (.getfield 31, 3) := by decide +kernel
theorem dX1_copyFrom_72 : decode cX1_copyFrom 72 = .ok (.iconst 0, 1) := by decide +kernel
theorem dX1_copyFrom_73 : decode cX1_copyFrom 73 = .ok (.aload_n 0, 1) := by decide +kernel
theorem dX1_copyFrom_74 : decode cX1_copyFrom 74 = .ok (.getfield 31, 3) := by decide +kernel
theorem dX1_copyFrom_77 : decode cX1_copyFrom 77 = .ok (.iconst 0, 1) := by decide +kernel
theorem dX1_copyFrom_78 : decode cX1_copyFrom 78 = .ok (.bipush 6, 2) := by decide +kernel
theorem dX1_copyFrom_80 : decode cX1_copyFrom 80 = .ok (.invokestatic 37, 3) := by decide +kernel
theorem dX1_copyFrom_83 : decode cX1_copyFrom 83 = .ok (.aload_n 0, 1) := by decide +kernel
theorem dX1_copyFrom_84 : decode cX1_copyFrom 84 = .ok (.aload_n 1, 1) := by decide +kernel
theorem dX1_copyFrom_85 : decode cX1_copyFrom 85 = .ok (.invokevirtual 43, 3) := by decide +kernel
theorem dX1_copyFrom_88 : decode cX1_copyFrom 88 = .ok (.return_, 1) := by decide +kernel
def f_X1_copyFrom (c_t_houses : Int32) (c_t_comers : Int32) (c_t_evening : Int32) (r_t_comes : (Nat → Int32)) (r_t_goes : (Nat → Int32)) (r_t_kindOf : (Nat → Int32)) (r_t_likings : (Nat → Int32)) (r_t_lists : (Nat → Int32)) (c_p0_houses : Int32) (c_p0_comers : Int32) (c_p0_evening : Int32) (r_p0_comes : (Nat → Int32)) (r_p0_goes : (Nat → Int32)) (r_p0_kindOf : (Nat → Int32)) (r_p0_likings : (Nat → Int32)) (r_p0_lists : (Nat → Int32)) : Option (Int32 × Int32 × Int32 × (Nat → Int32) × (Nat → Int32) × (Nat → Int32) × (Nat → Int32) × (Nat → Int32)) :=
  (f_X1_copyLikingsFrom r_t_likings r_p0_likings).bind (fun (v1 : (Nat → Int32)) =>
    some ((c_p0_houses, c_p0_comers, c_p0_evening, r_p0_comes, r_p0_goes, r_p0_kindOf, v1, r_p0_lists)))
abbrev rm_X1_copyFrom : Room := { frames := 2, cells := 0, slots := 0, locals := 81 }
set_option maxHeartbeats 4000000 in
set_option maxRecDepth 100000 in
theorem k_X1_copyFrom (E : Ev) (a_t a_t_comes a_t_goes a_t_kindOf a_t_likings a_t_lists a_p0 a_p0_comes a_p0_goes a_p0_kindOf a_p0_likings a_p0_lists : Nat) (c_t_houses : Int32) (c_t_comers : Int32) (c_t_evening : Int32) (r_t_comes : (Nat → Int32)) (r_t_goes : (Nat → Int32)) (r_t_kindOf : (Nat → Int32)) (r_t_likings : (Nat → Int32)) (r_t_lists : (Nat → Int32)) (c_p0_houses : Int32) (c_p0_comers : Int32) (c_p0_evening : Int32) (r_p0_comes : (Nat → Int32)) (r_p0_goes : (Nat → Int32)) (r_p0_kindOf : (Nat → Int32)) (r_p0_likings : (Nat → Int32)) (r_p0_lists : (Nat → Int32)) (v : Int32 × Int32 × Int32 × (Nat → Int32) × (Nat → Int32) × (Nat → Int32) × (Nat → Int32) × (Nat → Int32)) (h : f_X1_copyFrom c_t_houses c_t_comers c_t_evening r_t_comes r_t_goes r_t_kindOf r_t_likings r_t_lists c_p0_houses c_p0_comers c_p0_evening r_p0_comes r_p0_goes r_p0_kindOf r_p0_likings r_p0_lists = some v) : Mt E yX1_copyFrom cX1_copyFrom 2 none rm_X1_copyFrom [.ref a_t, .ref a_p0] [oX1 a_t c_t_houses c_t_comers c_t_evening a_t_lists a_t_kindOf a_t_goes a_t_comes a_t_likings, aI E a_t_comes 6 r_t_comes, aI E a_t_goes 6 r_t_goes, aI E a_t_kindOf 6 r_t_kindOf, aI E a_t_likings 24 r_t_likings, aI E a_t_lists 4 r_t_lists, oX1 a_p0 c_p0_houses c_p0_comers c_p0_evening a_p0_lists a_p0_kindOf a_p0_goes a_p0_comes a_p0_likings, aI E a_p0_comes 6 r_p0_comes, aI E a_p0_goes 6 r_p0_goes, aI E a_p0_kindOf 6 r_p0_kindOf, aI E a_p0_likings 24 r_p0_likings, aI E a_p0_lists 4 r_p0_lists] [oX1 a_t v.1 v.2.1 v.2.2.1 a_t_lists a_t_kindOf a_t_goes a_t_comes a_t_likings, aI E a_t_comes 6 v.2.2.2.1, aI E a_t_goes 6 v.2.2.2.2.1, aI E a_t_kindOf 6 v.2.2.2.2.2.1, aI E a_t_likings 24 v.2.2.2.2.2.2.1, aI E a_t_lists 4 v.2.2.2.2.2.2.2, oX1 a_p0 c_p0_houses c_p0_comers c_p0_evening a_p0_lists a_p0_kindOf a_p0_goes a_p0_comes a_p0_likings, aI E a_p0_comes 6 r_p0_comes, aI E a_p0_goes 6 r_p0_goes, aI E a_p0_kindOf 6 r_p0_kindOf, aI E a_p0_likings 24 r_p0_likings, aI E a_p0_lists 4 r_p0_lists] none := by
  refine Mt.intro (lv := [(0, .ref a_t), (1, .ref a_p0)]) (by decide +kernel) (Nat.le_of_ble_eq_true rfl) rfl (fun X C K => ?_)
  have C : CX E X cX1_copyFrom RX1 2 rm_X1_copyFrom := C
  rw [f_X1_copyFrom] at h
  refine g_aload_n (pc := 0) C dX1_copyFrom_0 0 rfl ?_
  refine g_aload_n (pc := 1) C dX1_copyFrom_1 1 rfl ?_
  refine g_get (pc := 2) 6 C fl_X1_9 rfl rfl dX1_copyFrom_2 ?_
  refine g_put (pc := 5) (ws' := [oX1 a_t c_p0_houses c_t_comers c_t_evening a_t_lists a_t_kindOf a_t_goes a_t_comes a_t_likings, aI E a_t_comes 6 r_t_comes, aI E a_t_goes 6 r_t_goes, aI E a_t_kindOf 6 r_t_kindOf, aI E a_t_likings 24 r_t_likings, aI E a_t_lists 4 r_t_lists, oX1 a_p0 c_p0_houses c_p0_comers c_p0_evening a_p0_lists a_p0_kindOf a_p0_goes a_p0_comes a_p0_likings, aI E a_p0_comes 6 r_p0_comes, aI E a_p0_goes 6 r_p0_goes, aI E a_p0_kindOf 6 r_p0_kindOf, aI E a_p0_likings 24 r_p0_likings, aI E a_p0_lists 4 r_p0_lists]) 0 C fp_X1_9 rfl rfl rfl (Nat.le_of_ble_eq_true rfl) rfl dX1_copyFrom_5 ?_
  refine g_aload_n (pc := 8) C dX1_copyFrom_8 0 rfl ?_
  refine g_aload_n (pc := 9) C dX1_copyFrom_9 1 rfl ?_
  refine g_get (pc := 10) 6 C fl_X1_15 rfl rfl dX1_copyFrom_10 ?_
  refine g_put (pc := 13) (ws' := [oX1 a_t c_p0_houses c_p0_comers c_t_evening a_t_lists a_t_kindOf a_t_goes a_t_comes a_t_likings, aI E a_t_comes 6 r_t_comes, aI E a_t_goes 6 r_t_goes, aI E a_t_kindOf 6 r_t_kindOf, aI E a_t_likings 24 r_t_likings, aI E a_t_lists 4 r_t_lists, oX1 a_p0 c_p0_houses c_p0_comers c_p0_evening a_p0_lists a_p0_kindOf a_p0_goes a_p0_comes a_p0_likings, aI E a_p0_comes 6 r_p0_comes, aI E a_p0_goes 6 r_p0_goes, aI E a_p0_kindOf 6 r_p0_kindOf, aI E a_p0_likings 24 r_p0_likings, aI E a_p0_lists 4 r_p0_lists]) 0 C fp_X1_15 rfl rfl rfl (Nat.le_of_ble_eq_true rfl) rfl dX1_copyFrom_13 ?_
  refine g_aload_n (pc := 16) C dX1_copyFrom_16 0 rfl ?_
  refine g_aload_n (pc := 17) C dX1_copyFrom_17 1 rfl ?_
  refine g_get (pc := 18) 6 C fl_X1_18 rfl rfl dX1_copyFrom_18 ?_
  refine g_put (pc := 21) (ws' := [oX1 a_t c_p0_houses c_p0_comers c_p0_evening a_t_lists a_t_kindOf a_t_goes a_t_comes a_t_likings, aI E a_t_comes 6 r_t_comes, aI E a_t_goes 6 r_t_goes, aI E a_t_kindOf 6 r_t_kindOf, aI E a_t_likings 24 r_t_likings, aI E a_t_lists 4 r_t_lists, oX1 a_p0 c_p0_houses c_p0_comers c_p0_evening a_p0_lists a_p0_kindOf a_p0_goes a_p0_comes a_p0_likings, aI E a_p0_comes 6 r_p0_comes, aI E a_p0_goes 6 r_p0_goes, aI E a_p0_kindOf 6 r_p0_kindOf, aI E a_p0_likings 24 r_p0_likings, aI E a_p0_lists 4 r_p0_lists]) 0 C fp_X1_18 rfl rfl rfl (Nat.le_of_ble_eq_true rfl) rfl dX1_copyFrom_21 ?_
  refine g_aload_n (pc := 24) C dX1_copyFrom_24 1 rfl ?_
  refine g_get (pc := 25) 6 C fl_X1_21 rfl rfl dX1_copyFrom_25 ?_
  refine g_iconst (pc := 28) (v := 0) C dX1_copyFrom_28 (by decide) ?_
  refine g_aload_n (pc := 29) C dX1_copyFrom_29 0 rfl ?_
  refine g_get (pc := 30) 0 C fl_X1_21 rfl rfl dX1_copyFrom_30 ?_
  refine g_iconst (pc := 33) (v := 0) C dX1_copyFrom_33 (by decide) ?_
  refine g_iconst (pc := 34) (v := 4) C dX1_copyFrom_34 (by decide) ?_
  refine g_copy (pc := 35) (ws' := [oX1 a_t c_p0_houses c_p0_comers c_p0_evening a_t_lists a_t_kindOf a_t_goes a_t_comes a_t_likings, aI E a_t_comes 6 r_t_comes, aI E a_t_goes 6 r_t_goes, aI E a_t_kindOf 6 r_t_kindOf, aI E a_t_likings 24 r_t_likings, aI E a_t_lists 4 r_p0_lists, oX1 a_p0 c_p0_houses c_p0_comers c_p0_evening a_p0_lists a_p0_kindOf a_p0_goes a_p0_comes a_p0_likings, aI E a_p0_comes 6 r_p0_comes, aI E a_p0_goes 6 r_p0_goes, aI E a_p0_kindOf 6 r_p0_kindOf, aI E a_p0_likings 24 r_p0_likings, aI E a_p0_lists 4 r_p0_lists]) 11 5 C ac_X1_37 rfl rfl (by decide) (by decide) rfl (by decide) (Nat.le_of_ble_eq_true (by decide +kernel)) dX1_copyFrom_35 ?_
  refine g_aload_n (pc := 38) C dX1_copyFrom_38 1 rfl ?_
  refine g_get (pc := 39) 6 C fl_X1_25 rfl rfl dX1_copyFrom_39 ?_
  refine g_iconst (pc := 42) (v := 0) C dX1_copyFrom_42 (by decide) ?_
  refine g_aload_n (pc := 43) C dX1_copyFrom_43 0 rfl ?_
  refine g_get (pc := 44) 0 C fl_X1_25 rfl rfl dX1_copyFrom_44 ?_
  refine g_iconst (pc := 47) (v := 0) C dX1_copyFrom_47 (by decide) ?_
  refine g_bipush (pc := 48) (v := 6) C dX1_copyFrom_48 (by decide) ?_
  refine g_copy (pc := 50) (ws' := [oX1 a_t c_p0_houses c_p0_comers c_p0_evening a_t_lists a_t_kindOf a_t_goes a_t_comes a_t_likings, aI E a_t_comes 6 r_t_comes, aI E a_t_goes 6 r_t_goes, aI E a_t_kindOf 6 r_p0_kindOf, aI E a_t_likings 24 r_t_likings, aI E a_t_lists 4 r_p0_lists, oX1 a_p0 c_p0_houses c_p0_comers c_p0_evening a_p0_lists a_p0_kindOf a_p0_goes a_p0_comes a_p0_likings, aI E a_p0_comes 6 r_p0_comes, aI E a_p0_goes 6 r_p0_goes, aI E a_p0_kindOf 6 r_p0_kindOf, aI E a_p0_likings 24 r_p0_likings, aI E a_p0_lists 4 r_p0_lists]) 9 3 C ac_X1_37 rfl rfl (by decide) (by decide) rfl (by decide) (Nat.le_of_ble_eq_true (by decide +kernel)) dX1_copyFrom_50 ?_
  refine g_aload_n (pc := 53) C dX1_copyFrom_53 1 rfl ?_
  refine g_get (pc := 54) 6 C fl_X1_28 rfl rfl dX1_copyFrom_54 ?_
  refine g_iconst (pc := 57) (v := 0) C dX1_copyFrom_57 (by decide) ?_
  refine g_aload_n (pc := 58) C dX1_copyFrom_58 0 rfl ?_
  refine g_get (pc := 59) 0 C fl_X1_28 rfl rfl dX1_copyFrom_59 ?_
  refine g_iconst (pc := 62) (v := 0) C dX1_copyFrom_62 (by decide) ?_
  refine g_bipush (pc := 63) (v := 6) C dX1_copyFrom_63 (by decide) ?_
  refine g_copy (pc := 65) (ws' := [oX1 a_t c_p0_houses c_p0_comers c_p0_evening a_t_lists a_t_kindOf a_t_goes a_t_comes a_t_likings, aI E a_t_comes 6 r_t_comes, aI E a_t_goes 6 r_p0_goes, aI E a_t_kindOf 6 r_p0_kindOf, aI E a_t_likings 24 r_t_likings, aI E a_t_lists 4 r_p0_lists, oX1 a_p0 c_p0_houses c_p0_comers c_p0_evening a_p0_lists a_p0_kindOf a_p0_goes a_p0_comes a_p0_likings, aI E a_p0_comes 6 r_p0_comes, aI E a_p0_goes 6 r_p0_goes, aI E a_p0_kindOf 6 r_p0_kindOf, aI E a_p0_likings 24 r_p0_likings, aI E a_p0_lists 4 r_p0_lists]) 8 2 C ac_X1_37 rfl rfl (by decide) (by decide) rfl (by decide) (Nat.le_of_ble_eq_true (by decide +kernel)) dX1_copyFrom_65 ?_
  refine g_aload_n (pc := 68) C dX1_copyFrom_68 1 rfl ?_
  refine g_get (pc := 69) 6 C fl_X1_31 rfl rfl dX1_copyFrom_69 ?_
  refine g_iconst (pc := 72) (v := 0) C dX1_copyFrom_72 (by decide) ?_
  refine g_aload_n (pc := 73) C dX1_copyFrom_73 0 rfl ?_
  refine g_get (pc := 74) 0 C fl_X1_31 rfl rfl dX1_copyFrom_74 ?_
  refine g_iconst (pc := 77) (v := 0) C dX1_copyFrom_77 (by decide) ?_
  refine g_bipush (pc := 78) (v := 6) C dX1_copyFrom_78 (by decide) ?_
  refine g_copy (pc := 80) (ws' := [oX1 a_t c_p0_houses c_p0_comers c_p0_evening a_t_lists a_t_kindOf a_t_goes a_t_comes a_t_likings, aI E a_t_comes 6 r_p0_comes, aI E a_t_goes 6 r_p0_goes, aI E a_t_kindOf 6 r_p0_kindOf, aI E a_t_likings 24 r_t_likings, aI E a_t_lists 4 r_p0_lists, oX1 a_p0 c_p0_houses c_p0_comers c_p0_evening a_p0_lists a_p0_kindOf a_p0_goes a_p0_comes a_p0_likings, aI E a_p0_comes 6 r_p0_comes, aI E a_p0_goes 6 r_p0_goes, aI E a_p0_kindOf 6 r_p0_kindOf, aI E a_p0_likings 24 r_p0_likings, aI E a_p0_lists 4 r_p0_lists]) 7 1 C ac_X1_37 rfl rfl (by decide) (by decide) rfl (by decide) (Nat.le_of_ble_eq_true (by decide +kernel)) dX1_copyFrom_80 ?_
  refine g_aload_n (pc := 83) C dX1_copyFrom_83 0 rfl ?_
  refine g_aload_n (pc := 84) C dX1_copyFrom_84 1 rfl ?_
  obtain ⟨v1, hv1, h⟩ := o_bnd h
  refine g_callV (pc := 85) (ws' := [oX1 a_t c_p0_houses c_p0_comers c_p0_evening a_t_lists a_t_kindOf a_t_goes a_t_comes a_t_likings, aI E a_t_comes 6 r_p0_comes, aI E a_t_goes 6 r_p0_goes, aI E a_t_kindOf 6 r_p0_kindOf, aI E a_t_likings 24 v1, aI E a_t_lists 4 r_p0_lists, oX1 a_p0 c_p0_houses c_p0_comers c_p0_evening a_p0_lists a_p0_kindOf a_p0_goes a_p0_comes a_p0_likings, aI E a_p0_comes 6 r_p0_comes, aI E a_p0_goes 6 r_p0_goes, aI E a_p0_kindOf 6 r_p0_kindOf, aI E a_p0_likings 24 r_p0_likings, aI E a_p0_lists 4 r_p0_lists]) (st1 := []) C mv_X1_43 (k_X1_copyLikingsFrom E a_t a_t_likings a_p0 a_p0_likings a_t_lists a_t_kindOf a_t_goes a_t_comes a_p0_lists a_p0_kindOf a_p0_goes a_p0_comes c_p0_houses c_p0_comers c_p0_evening r_t_likings c_p0_houses c_p0_comers c_p0_evening r_p0_likings v1 hv1) [0, 4, 6, 10] rfl (by decide +kernel) rfl [some 0, none, none, none, some 1, none, some 2, none, none, none, some 3, none] 12 (by decide +kernel) rfl rfl 0 rfl rfl ⟨by decide, by decide⟩ ⟨rfl, rfl⟩ ⟨Nat.zero_le _, Nat.zero_le _⟩ rfl rfl rfl (Nat.le_of_ble_eq_true rfl) dX1_copyFrom_85 ?_
  obtain rfl := Option.some.inj h
  exact g_vret (pc := 88) C K dX1_copyFrom_88
theorem dX1_goers_0 : decode cX1_goers 0 = .ok (.iconst 0, 1) := by decide +kernel
theorem dX1_goers_1 : decode cX1_goers 1 = .ok (.istore_n 2, 1) := by decide +kernel
theorem dX1_goers_2 : decode cX1_goers 2 = .ok (.iconst 0, 1) := by decide +kernel
theorem dX1_goers_3 : decode cX1_goers 3 = .ok (.istore_n 3, 1) := by decide +kernel
theorem dX1_goers_4 : decode cX1_goers 4 = .ok (.iload_n 3, 1) := by decide +kernel
theorem dX1_goers_5 : decode cX1_goers 5 = .ok (.aload_n 0, 1) := by decide +kernel
theorem dX1_goers_6 : decode cX1_goers 6 = .ok (.getfield 15, 3) := by decide +kernel
theorem dX1_goers_9 : decode cX1_goers 9 = .ok (.if_icmp .ge 25, 3) := by decide +kernel
theorem dX1_goers_12 : decode cX1_goers 12 = .ok (.aload_n 0, 1) := by decide +kernel
theorem dX1_goers_13 : decode cX1_goers 13 = .ok (.getfield 28, 3) := by decide +kernel
theorem dX1_goers_16 : decode cX1_goers 16 = .ok (.iload_n 3, 1) := by decide +kernel
theorem dX1_goers_17 : decode cX1_goers 17 = .ok (.iaload, 1) := by decide +kernel
theorem dX1_goers_18 : decode cX1_goers 18 = .ok (.iload_n 1, 1) := by decide +kernel
theorem dX1_goers_19 : decode cX1_goers 19 = .ok (.if_icmp .ne 9, 3) := by decide +kernel
theorem dX1_goers_22 : decode cX1_goers 22 = .ok (.iload_n 2, 1) := by decide +kernel
theorem dX1_goers_23 : decode cX1_goers 23 = .ok (.iconst 1, 1) := by decide +kernel
theorem dX1_goers_24 : decode cX1_goers 24 = .ok (.iload_n 3, 1) := by decide +kernel
theorem dX1_goers_25 : decode cX1_goers 25 = .ok (.ishl, 1) := by decide +kernel
theorem dX1_goers_26 : decode cX1_goers 26 = .ok (.ior, 1) := by decide +kernel
theorem dX1_goers_27 : decode cX1_goers 27 = .ok (.istore_n 2, 1) := by decide +kernel
theorem dX1_goers_28 : decode cX1_goers 28 = .ok (.iinc 3 1, 3) := by decide +kernel
theorem dX1_goers_31 : decode cX1_goers 31 = .ok (.goto (-27), 3) := by decide +kernel
theorem dX1_goers_34 : decode cX1_goers 34 = .ok (.iload_n 2, 1) := by decide +kernel
theorem dX1_goers_35 : decode cX1_goers 35 = .ok (.ireturn, 1) := by decide +kernel
def L_X1_goers_4 (c_t_comers : Int32) (r_t_goes : (Nat → Int32)) (x1 : Int32) : Nat → Int32 → Int32 → Option (Int32)
  | 0, _, _ => none
  | n + 1, y1, y2 =>
    if c_t_comers ≤ y2 then
      (some y1)
    else
      (if inb y2 6 then
        (if (r_t_goes (ix y2)) = x1 then
          (L_X1_goers_4 c_t_comers r_t_goes x1 n (y1 ||| ((1 : Int32) <<< (y2 &&& 31))) (y2 + 1))
        else
          (L_X1_goers_4 c_t_comers r_t_goes x1 n y1 (y2 + 1)))
      else none)
def f_X1_goers (c_t_comers : Int32) (r_t_goes : (Nat → Int32)) (x1 : Int32) : Option (Int32) :=
  (L_X1_goers_4 c_t_comers r_t_goes x1 400 0 0).bind (fun (v4 : Int32) =>
    some v4)
abbrev rm_X1_goers : Room := { frames := 0, cells := 0, slots := 0, locals := 0 }
set_option maxHeartbeats 4000000 in
set_option maxRecDepth 100000 in
theorem lp_X1_goers_4 {E : Ev} {X : Cx} {a_t a_t_goes a_t_lists a_t_kindOf a_t_comes a_t_likings : Nat} (c_t_houses : Int32) (c_t_comers : Int32) (c_t_evening : Int32) (r_t_goes : (Nat → Int32)) (x1 : Int32) (C : CX E X cX1_goers RX1 4 rm_X1_goers) : ∀ (n : Nat) (y1 : Int32) (y2 : Int32) (v : Int32), L_X1_goers_4 c_t_comers r_t_goes x1 n y1 y2 = some v → G E X 0 0 [oX1 a_t c_t_houses c_t_comers c_t_evening a_t_lists a_t_kindOf a_t_goes a_t_comes a_t_likings, aI E a_t_goes 6 r_t_goes] [(2, .int v)] 34 [] → G E X 0 0 [oX1 a_t c_t_houses c_t_comers c_t_evening a_t_lists a_t_kindOf a_t_goes a_t_comes a_t_likings, aI E a_t_goes 6 r_t_goes] [(0, .ref a_t), (1, .int x1), (2, .int y1), (3, .int y2)] 4 [] := by
  intro n
  induction n with
  | zero => intro _ _ _ h; cases h
  | succ n ih =>
    intro y1 y2 v h kk
    rw [L_X1_goers_4] at h
    refine g_iload_n (pc := 4) C dX1_goers_4 3 rfl ?_
    refine g_aload_n (pc := 5) C dX1_goers_5 0 rfl ?_
    refine g_get (pc := 6) 0 C fl_X1_15 rfl rfl dX1_goers_6 ?_
    refine b_icmp_ge (pc := 9) 34 C dX1_goers_9 (by decide) h (fun _ h => ?_) (fun _ h => ?_)
    · obtain rfl := Option.some.inj h
      refine g_lv [2] (lv' := [(2, .int y1)]) rfl ?_
      exact kk
    · refine g_aload_n (pc := 12) C dX1_goers_12 0 rfl ?_
      refine g_get (pc := 13) 0 C fl_X1_28 rfl rfl dX1_goers_13 ?_
      refine g_iload_n (pc := 16) C dX1_goers_16 3 rfl ?_
      refine b_iald (pc := 17) 1 C rfl dX1_goers_17 h (fun _ h => ?_)
      refine g_iload_n (pc := 18) C dX1_goers_18 1 rfl ?_
      refine b_icmp_ne (pc := 19) 28 C dX1_goers_19 (by decide) h (fun _ h => ?_) (fun _ h => ?_)
      · refine g_iinc (pc := 28) (v := y2 + 1) (lv' := [(3, .int (y2 + 1)), (0, .ref a_t), (1, .int x1), (2, .int y1)]) C dX1_goers_28 3 rfl rfl (by decide) rfl ?_
        refine g_goto (pc := 31) 4 C dX1_goers_31 (by decide) ?_
        refine g_lv [1, 2, 3, 0] (lv' := [(0, .ref a_t), (1, .int x1), (2, .int y1), (3, .int (y2 + 1))]) rfl ?_
        exact ih _ _ _ h kk
      · refine g_iload_n (pc := 22) C dX1_goers_22 2 rfl ?_
        refine g_iconst (pc := 23) (v := 1) C dX1_goers_23 (by decide) ?_
        refine g_iload_n (pc := 24) C dX1_goers_24 3 rfl ?_
        refine g_ishl (pc := 25) C dX1_goers_25 ?_
        refine g_ior (pc := 26) C dX1_goers_26 ?_
        refine g_istore_n (pc := 27) (lv' := [(2, .int (y1 ||| ((1 : Int32) <<< (y2 &&& 31)))), (0, .ref a_t), (1, .int x1), (3, .int y2)]) C dX1_goers_27 (by decide) rfl ?_
        refine g_iinc (pc := 28) (v := y2 + 1) (lv' := [(3, .int (y2 + 1)), (2, .int (y1 ||| ((1 : Int32) <<< (y2 &&& 31)))), (0, .ref a_t), (1, .int x1)]) C dX1_goers_28 3 rfl rfl (by decide) rfl ?_
        refine g_goto (pc := 31) 4 C dX1_goers_31 (by decide) ?_
        refine g_lv [2, 3, 1, 0] (lv' := [(0, .ref a_t), (1, .int x1), (2, .int (y1 ||| ((1 : Int32) <<< (y2 &&& 31)))), (3, .int (y2 + 1))]) rfl ?_
        exact ih _ _ _ h kk
set_option maxHeartbeats 4000000 in
set_option maxRecDepth 100000 in
theorem k_X1_goers (E : Ev) (a_t a_t_goes a_t_lists a_t_kindOf a_t_comes a_t_likings : Nat) (c_t_houses : Int32) (c_t_comers : Int32) (c_t_evening : Int32) (r_t_goes : (Nat → Int32)) (x1 : Int32) (v : Int32) (h : f_X1_goers c_t_comers r_t_goes x1 = some v) : Mt E yX1_goers cX1_goers 4 (some .int) rm_X1_goers [.ref a_t, .int x1] [oX1 a_t c_t_houses c_t_comers c_t_evening a_t_lists a_t_kindOf a_t_goes a_t_comes a_t_likings, aI E a_t_goes 6 r_t_goes] [oX1 a_t c_t_houses c_t_comers c_t_evening a_t_lists a_t_kindOf a_t_goes a_t_comes a_t_likings, aI E a_t_goes 6 r_t_goes] (some (.int v)) := by
  refine Mt.intro (lv := [(0, .ref a_t), (1, .int x1)]) (by decide +kernel) (Nat.le_of_ble_eq_true rfl) rfl (fun X C K => ?_)
  have C : CX E X cX1_goers RX1 4 rm_X1_goers := C
  rw [f_X1_goers] at h
  refine g_iconst (pc := 0) (v := 0) C dX1_goers_0 (by decide) ?_
  refine g_istore_n (pc := 1) (lv' := [(2, .int 0), (0, .ref a_t), (1, .int x1)]) C dX1_goers_1 (by decide) rfl ?_
  refine g_iconst (pc := 2) (v := 0) C dX1_goers_2 (by decide) ?_
  refine g_istore_n (pc := 3) (lv' := [(3, .int 0), (2, .int 0), (0, .ref a_t), (1, .int x1)]) C dX1_goers_3 (by decide) rfl ?_
  obtain ⟨v4, hv4, h⟩ := o_bnd h
  refine g_lv [2, 3, 1, 0] (lv' := [(0, .ref a_t), (1, .int x1), (2, .int 0), (3, .int 0)]) rfl ?_
  refine lp_X1_goers_4 c_t_houses c_t_comers c_t_evening r_t_goes x1 C 400 _ _ _ hv4 ?_
  refine g_iload_n (pc := 34) C dX1_goers_34 0 rfl ?_
  obtain rfl := Option.some.inj h
  exact g_iret (pc := 35) C K dX1_goers_35
theorem dX1_arrived_0 : decode cX1_arrived 0 = .ok (.iconst 0, 1) := by decide +kernel
theorem dX1_arrived_1 : decode cX1_arrived 1 = .ok (.istore_n 3, 1) := by decide +kernel
theorem dX1_arrived_2 : decode cX1_arrived 2 = .ok (.iconst 0, 1) := by decide +kernel
theorem dX1_arrived_3 : decode cX1_arrived 3 = .ok (.istore 4, 2) := by decide +kernel
theorem dX1_arrived_5 : decode cX1_arrived 5 = .ok (.iload 4, 2) := by decide +kernel
theorem dX1_arrived_7 : decode cX1_arrived 7 = .ok (.aload_n 0, 1) := by decide +kernel
theorem dX1_arrived_8 : decode cX1_arrived 8 = .ok (.getfield 15, 3) := by decide +kernel
theorem dX1_arrived_11 : decode cX1_arrived 11 = .ok (.if_icmp .ge 37, 3) := by decide +kernel
theorem dX1_arrived_14 : decode cX1_arrived 14 = .ok (.iload_n 1, 1) := by decide +kernel
theorem dX1_arrived_15 : decode cX1_arrived 15 = .ok (.iload 4, 2) := by decide +kernel
theorem dX1_arrived_17 : decode cX1_arrived 17 = .ok (.ishr, 1) := by decide +kernel
theorem dX1_arrived_18 : decode cX1_arrived 18 = .ok (.iconst 1, 1) := by decide +kernel
theorem dX1_arrived_19 : decode cX1_arrived 19 = .ok (.iand, 1) := by decide +kernel
theorem dX1_arrived_20 : decode cX1_arrived 20 = .ok (.iconst 1, 1) := by decide +kernel
theorem dX1_arrived_21 : decode cX1_arrived 21 = .ok (.if_icmp .ne 21, 3) := by decide +kernel
theorem dX1_arrived_24 : decode cX1_arrived 24 = .ok (.aload_n 0, 1) := by decide +kernel
theorem dX1_arrived_25 : decode cX1_arrived 25 = .ok (.getfield 31, 3) := by decide +kernel
theorem dX1_arrived_28 : decode cX1_arrived 28 = .ok (.iload 4, 2) := by decide +kernel
theorem dX1_arrived_30 : decode cX1_arrived 30 = .ok (.iaload, 1) := by decide +kernel
theorem dX1_arrived_31 : decode cX1_arrived 31 = .ok (.iload_n 2, 1) := by decide +kernel
theorem dX1_arrived_32 : decode cX1_arrived 32 = .ok (.if_icmp .gt 10, 3) := by decide +kernel
theorem dX1_arrived_35 : decode cX1_arrived 35 = .ok (.iload_n 3, 1) := by decide +kernel
theorem dX1_arrived_36 : decode cX1_arrived 36 = .ok (.iconst 1, 1) := by decide +kernel
theorem dX1_arrived_37 : decode cX1_arrived 37 = .ok (.iload 4, 2) := by decide +kernel
theorem dX1_arrived_39 : decode cX1_arrived 39 = .ok (.ishl, 1) := by decide +kernel
theorem dX1_arrived_40 : decode cX1_arrived 40 = .ok (.ior, 1) := by decide +kernel
theorem dX1_arrived_41 : decode cX1_arrived 41 = .ok (.istore_n 3, 1) := by decide +kernel
theorem dX1_arrived_42 : decode cX1_arrived 42 = .ok (.iinc 4 1, 3) := by decide +kernel
theorem dX1_arrived_45 : decode cX1_arrived 45 = .ok (.goto (-40), 3) := by decide +kernel
theorem dX1_arrived_48 : decode cX1_arrived 48 = .ok (.iload_n 3, 1) := by decide +kernel
theorem dX1_arrived_49 : decode cX1_arrived 49 = .ok (.ireturn, 1) := by decide +kernel
def L_X1_arrived_5 (c_t_comers : Int32) (r_t_comes : (Nat → Int32)) (x1 : Int32) (x2 : Int32) : Nat → Int32 → Int32 → Option (Int32)
  | 0, _, _ => none
  | n + 1, y1, y2 =>
    if c_t_comers ≤ y2 then
      (some y1)
    else
      (if ((x1 >>> (y2 &&& 31)) &&& 1) = 1 then
        (if inb y2 6 then
          (if x2 < (r_t_comes (ix y2)) then
            (L_X1_arrived_5 c_t_comers r_t_comes x1 x2 n y1 (y2 + 1))
          else
            (L_X1_arrived_5 c_t_comers r_t_comes x1 x2 n (y1 ||| ((1 : Int32) <<< (y2 &&& 31))) (y2 + 1)))
        else none)
      else
        (L_X1_arrived_5 c_t_comers r_t_comes x1 x2 n y1 (y2 + 1)))
def f_X1_arrived (c_t_comers : Int32) (r_t_comes : (Nat → Int32)) (x1 : Int32) (x2 : Int32) : Option (Int32) :=
  (L_X1_arrived_5 c_t_comers r_t_comes x1 x2 400 0 0).bind (fun (v4 : Int32) =>
    some v4)
abbrev rm_X1_arrived : Room := { frames := 0, cells := 0, slots := 0, locals := 0 }
set_option maxHeartbeats 4000000 in
set_option maxRecDepth 100000 in
theorem lp_X1_arrived_5 {E : Ev} {X : Cx} {a_t a_t_comes a_t_lists a_t_kindOf a_t_goes a_t_likings : Nat} (c_t_houses : Int32) (c_t_comers : Int32) (c_t_evening : Int32) (r_t_comes : (Nat → Int32)) (x1 : Int32) (x2 : Int32) (C : CX E X cX1_arrived RX1 5 rm_X1_arrived) : ∀ (n : Nat) (y1 : Int32) (y2 : Int32) (v : Int32), L_X1_arrived_5 c_t_comers r_t_comes x1 x2 n y1 y2 = some v → G E X 0 0 [oX1 a_t c_t_houses c_t_comers c_t_evening a_t_lists a_t_kindOf a_t_goes a_t_comes a_t_likings, aI E a_t_comes 6 r_t_comes] [(3, .int v)] 48 [] → G E X 0 0 [oX1 a_t c_t_houses c_t_comers c_t_evening a_t_lists a_t_kindOf a_t_goes a_t_comes a_t_likings, aI E a_t_comes 6 r_t_comes] [(0, .ref a_t), (1, .int x1), (2, .int x2), (3, .int y1), (4, .int y2)] 5 [] := by
  intro n
  induction n with
  | zero => intro _ _ _ h; cases h
  | succ n ih =>
    intro y1 y2 v h kk
    rw [L_X1_arrived_5] at h
    refine g_iload (pc := 5) C dX1_arrived_5 4 rfl ?_
    refine g_aload_n (pc := 7) C dX1_arrived_7 0 rfl ?_
    refine g_get (pc := 8) 0 C fl_X1_15 rfl rfl dX1_arrived_8 ?_
    refine b_icmp_ge (pc := 11) 48 C dX1_arrived_11 (by decide) h (fun _ h => ?_) (fun _ h => ?_)
    · obtain rfl := Option.some.inj h
      refine g_lv [3] (lv' := [(3, .int y1)]) rfl ?_
      exact kk
    · refine g_iload_n (pc := 14) C dX1_arrived_14 1 rfl ?_
      refine g_iload (pc := 15) C dX1_arrived_15 4 rfl ?_
      refine g_ishr (pc := 17) C dX1_arrived_17 ?_
      refine g_iconst (pc := 18) (v := 1) C dX1_arrived_18 (by decide) ?_
      refine g_iand (pc := 19) C dX1_arrived_19 ?_
      refine g_iconst (pc := 20) (v := 1) C dX1_arrived_20 (by decide) ?_
      refine b_icmp_ne (pc := 21) 42 C dX1_arrived_21 (by decide) h (fun _ h => ?_) (fun _ h => ?_)
      · refine g_iinc (pc := 42) (v := y2 + 1) (lv' := [(4, .int (y2 + 1)), (0, .ref a_t), (1, .int x1), (2, .int x2), (3, .int y1)]) C dX1_arrived_42 4 rfl rfl (by decide) rfl ?_
        refine g_goto (pc := 45) 5 C dX1_arrived_45 (by decide) ?_
        refine g_lv [1, 2, 3, 4, 0] (lv' := [(0, .ref a_t), (1, .int x1), (2, .int x2), (3, .int y1), (4, .int (y2 + 1))]) rfl ?_
        exact ih _ _ _ h kk
      · refine g_aload_n (pc := 24) C dX1_arrived_24 0 rfl ?_
        refine g_get (pc := 25) 0 C fl_X1_31 rfl rfl dX1_arrived_25 ?_
        refine g_iload (pc := 28) C dX1_arrived_28 4 rfl ?_
        refine b_iald (pc := 30) 1 C rfl dX1_arrived_30 h (fun _ h => ?_)
        refine g_iload_n (pc := 31) C dX1_arrived_31 2 rfl ?_
        refine b_icmp_gt (pc := 32) 42 C dX1_arrived_32 (by decide) h (fun _ h => ?_) (fun _ h => ?_)
        · refine g_iinc (pc := 42) (v := y2 + 1) (lv' := [(4, .int (y2 + 1)), (0, .ref a_t), (1, .int x1), (2, .int x2), (3, .int y1)]) C dX1_arrived_42 4 rfl rfl (by decide) rfl ?_
          refine g_goto (pc := 45) 5 C dX1_arrived_45 (by decide) ?_
          refine g_lv [1, 2, 3, 4, 0] (lv' := [(0, .ref a_t), (1, .int x1), (2, .int x2), (3, .int y1), (4, .int (y2 + 1))]) rfl ?_
          exact ih _ _ _ h kk
        · refine g_iload_n (pc := 35) C dX1_arrived_35 3 rfl ?_
          refine g_iconst (pc := 36) (v := 1) C dX1_arrived_36 (by decide) ?_
          refine g_iload (pc := 37) C dX1_arrived_37 4 rfl ?_
          refine g_ishl (pc := 39) C dX1_arrived_39 ?_
          refine g_ior (pc := 40) C dX1_arrived_40 ?_
          refine g_istore_n (pc := 41) (lv' := [(3, .int (y1 ||| ((1 : Int32) <<< (y2 &&& 31)))), (0, .ref a_t), (1, .int x1), (2, .int x2), (4, .int y2)]) C dX1_arrived_41 (by decide) rfl ?_
          refine g_iinc (pc := 42) (v := y2 + 1) (lv' := [(4, .int (y2 + 1)), (3, .int (y1 ||| ((1 : Int32) <<< (y2 &&& 31)))), (0, .ref a_t), (1, .int x1), (2, .int x2)]) C dX1_arrived_42 4 rfl rfl (by decide) rfl ?_
          refine g_goto (pc := 45) 5 C dX1_arrived_45 (by decide) ?_
          refine g_lv [2, 3, 4, 1, 0] (lv' := [(0, .ref a_t), (1, .int x1), (2, .int x2), (3, .int (y1 ||| ((1 : Int32) <<< (y2 &&& 31)))), (4, .int (y2 + 1))]) rfl ?_
          exact ih _ _ _ h kk
set_option maxHeartbeats 4000000 in
set_option maxRecDepth 100000 in
theorem k_X1_arrived (E : Ev) (a_t a_t_comes a_t_lists a_t_kindOf a_t_goes a_t_likings : Nat) (c_t_houses : Int32) (c_t_comers : Int32) (c_t_evening : Int32) (r_t_comes : (Nat → Int32)) (x1 : Int32) (x2 : Int32) (v : Int32) (h : f_X1_arrived c_t_comers r_t_comes x1 x2 = some v) : Mt E yX1_arrived cX1_arrived 5 (some .int) rm_X1_arrived [.ref a_t, .int x1, .int x2] [oX1 a_t c_t_houses c_t_comers c_t_evening a_t_lists a_t_kindOf a_t_goes a_t_comes a_t_likings, aI E a_t_comes 6 r_t_comes] [oX1 a_t c_t_houses c_t_comers c_t_evening a_t_lists a_t_kindOf a_t_goes a_t_comes a_t_likings, aI E a_t_comes 6 r_t_comes] (some (.int v)) := by
  refine Mt.intro (lv := [(0, .ref a_t), (1, .int x1), (2, .int x2)]) (by decide +kernel) (Nat.le_of_ble_eq_true rfl) rfl (fun X C K => ?_)
  have C : CX E X cX1_arrived RX1 5 rm_X1_arrived := C
  rw [f_X1_arrived] at h
  refine g_iconst (pc := 0) (v := 0) C dX1_arrived_0 (by decide) ?_
  refine g_istore_n (pc := 1) (lv' := [(3, .int 0), (0, .ref a_t), (1, .int x1), (2, .int x2)]) C dX1_arrived_1 (by decide) rfl ?_
  refine g_iconst (pc := 2) (v := 0) C dX1_arrived_2 (by decide) ?_
  refine g_istore (pc := 3) (lv' := [(4, .int 0), (3, .int 0), (0, .ref a_t), (1, .int x1), (2, .int x2)]) C dX1_arrived_3 (by decide) rfl ?_
  obtain ⟨v4, hv4, h⟩ := o_bnd h
  refine g_lv [2, 3, 4, 1, 0] (lv' := [(0, .ref a_t), (1, .int x1), (2, .int x2), (3, .int 0), (4, .int 0)]) rfl ?_
  refine lp_X1_arrived_5 c_t_houses c_t_comers c_t_evening r_t_comes x1 x2 C 400 _ _ _ hv4 ?_
  refine g_iload_n (pc := 48) C dX1_arrived_48 0 rfl ?_
  obtain rfl := Option.some.inj h
  exact g_iret (pc := 49) C K dX1_arrived_49
theorem dX1_onList_0 : decode cX1_onList 0 = .ok (.aload_n 0, 1) := by decide +kernel
theorem dX1_onList_1 : decode cX1_onList 1 = .ok (.getfield 21, 3) := by decide +kernel
theorem dX1_onList_4 : decode cX1_onList 4 = .ok (.iload_n 1, 1) := by decide +kernel
theorem dX1_onList_5 : decode cX1_onList 5 = .ok (.iaload, 1) := by decide +kernel
theorem dX1_onList_6 : decode cX1_onList 6 = .ok (.iload_n 2, 1) := by decide +kernel
theorem dX1_onList_7 : decode cX1_onList 7 = .ok (.ishr, 1) := by decide +kernel
theorem dX1_onList_8 : decode cX1_onList 8 = .ok (.iconst 1, 1) := by decide +kernel
theorem dX1_onList_9 : decode cX1_onList 9 = .ok (.iand, 1) := by decide +kernel
theorem dX1_onList_10 : decode cX1_onList 10 = .ok (.iconst 1, 1) := by decide +kernel
theorem dX1_onList_11 : decode cX1_onList 11 = .ok (.if_icmp .ne 7, 3) := by decide +kernel
theorem dX1_onList_14 : decode cX1_onList 14 = .ok (.iconst 1, 1) := by decide +kernel
theorem dX1_onList_15 : decode cX1_onList 15 = .ok (.goto 4, 3) := by decide +kernel
theorem dX1_onList_18 : decode cX1_onList 18 = .ok (.iconst 0, 1) := by decide +kernel
theorem dX1_onList_19 : decode cX1_onList 19 = .ok (.ireturn, 1) := by decide +kernel
def f_X1_onList (r_t_lists : (Nat → Int32)) (x1 : Int32) (x2 : Int32) : Option (Int32) :=
  if inb x1 4 then
    (if (((r_t_lists (ix x1)) >>> (x2 &&& 31)) &&& 1) = 1 then
      (some 1)
    else
      (some 0))
  else none
abbrev rm_X1_onList : Room := { frames := 0, cells := 0, slots := 0, locals := 0 }
set_option maxHeartbeats 4000000 in
set_option maxRecDepth 100000 in
theorem k_X1_onList (E : Ev) (a_t a_t_lists a_t_kindOf a_t_goes a_t_comes a_t_likings : Nat) (c_t_houses : Int32) (c_t_comers : Int32) (c_t_evening : Int32) (r_t_lists : (Nat → Int32)) (x1 : Int32) (x2 : Int32) (v : Int32) (h : f_X1_onList r_t_lists x1 x2 = some v) : Mt E yX1_onList cX1_onList 3 (some .boolean) rm_X1_onList [.ref a_t, .int x1, .int x2] [oX1 a_t c_t_houses c_t_comers c_t_evening a_t_lists a_t_kindOf a_t_goes a_t_comes a_t_likings, aI E a_t_lists 4 r_t_lists] [oX1 a_t c_t_houses c_t_comers c_t_evening a_t_lists a_t_kindOf a_t_goes a_t_comes a_t_likings, aI E a_t_lists 4 r_t_lists] (some (.int v)) := by
  refine Mt.intro (lv := [(0, .ref a_t), (1, .int x1), (2, .int x2)]) (by decide +kernel) (Nat.le_of_ble_eq_true rfl) rfl (fun X C K => ?_)
  have C : CX E X cX1_onList RX1 3 rm_X1_onList := C
  rw [f_X1_onList] at h
  refine g_aload_n (pc := 0) C dX1_onList_0 0 rfl ?_
  refine g_get (pc := 1) 0 C fl_X1_21 rfl rfl dX1_onList_1 ?_
  refine g_iload_n (pc := 4) C dX1_onList_4 1 rfl ?_
  refine b_iald (pc := 5) 1 C rfl dX1_onList_5 h (fun _ h => ?_)
  refine g_iload_n (pc := 6) C dX1_onList_6 2 rfl ?_
  refine g_ishr (pc := 7) C dX1_onList_7 ?_
  refine g_iconst (pc := 8) (v := 1) C dX1_onList_8 (by decide) ?_
  refine g_iand (pc := 9) C dX1_onList_9 ?_
  refine g_iconst (pc := 10) (v := 1) C dX1_onList_10 (by decide) ?_
  refine b_icmp_ne (pc := 11) 18 C dX1_onList_11 (by decide) h (fun _ h => ?_) (fun _ h => ?_)
  · refine g_iconst (pc := 18) (v := 0) C dX1_onList_18 (by decide) ?_
    obtain rfl := Option.some.inj h
    exact g_zret (pc := 19) C K rfl dX1_onList_19
  · refine g_iconst (pc := 14) (v := 1) C dX1_onList_14 (by decide) ?_
    refine g_goto (pc := 15) 19 C dX1_onList_15 (by decide) ?_
    obtain rfl := Option.some.inj h
    exact g_zret (pc := 19) C K rfl dX1_onList_19
theorem dX1_liked_0 : decode cX1_liked 0 = .ok (.aload_n 0, 1) := by decide +kernel
theorem dX1_liked_1 : decode cX1_liked 1 = .ok (.getfield 34, 3) := by decide +kernel
theorem dX1_liked_4 : decode cX1_liked 4 = .ok (.iload_n 1, 1) := by decide +kernel
theorem dX1_liked_5 : decode cX1_liked 5 = .ok (.bipush 6, 2) := by decide +kernel
theorem dX1_liked_7 : decode cX1_liked 7 = .ok (.imul, 1) := by decide +kernel
theorem dX1_liked_8 : decode cX1_liked 8 = .ok (.iload_n 2, 1) := by decide +kernel
theorem dX1_liked_9 : decode cX1_liked 9 = .ok (.iadd, 1) := by decide +kernel
theorem dX1_liked_10 : decode cX1_liked 10 = .ok (.iaload, 1) := by decide +kernel
theorem dX1_liked_11 : decode cX1_liked 11 = .ok (.ireturn, 1) := by decide +kernel
def f_X1_liked (r_t_likings : (Nat → Int32)) (x1 : Int32) (x2 : Int32) : Option (Int32) :=
  if inb ((x1 * 6) + x2) 24 then
    (some (r_t_likings (ix ((x1 * 6) + x2))))
  else none
abbrev rm_X1_liked : Room := { frames := 0, cells := 0, slots := 0, locals := 0 }
set_option maxHeartbeats 4000000 in
set_option maxRecDepth 100000 in
theorem k_X1_liked (E : Ev) (a_t a_t_likings a_t_lists a_t_kindOf a_t_goes a_t_comes : Nat) (c_t_houses : Int32) (c_t_comers : Int32) (c_t_evening : Int32) (r_t_likings : (Nat → Int32)) (x1 : Int32) (x2 : Int32) (v : Int32) (h : f_X1_liked r_t_likings x1 x2 = some v) : Mt E yX1_liked cX1_liked 3 (some .int) rm_X1_liked [.ref a_t, .int x1, .int x2] [oX1 a_t c_t_houses c_t_comers c_t_evening a_t_lists a_t_kindOf a_t_goes a_t_comes a_t_likings, aI E a_t_likings 24 r_t_likings] [oX1 a_t c_t_houses c_t_comers c_t_evening a_t_lists a_t_kindOf a_t_goes a_t_comes a_t_likings, aI E a_t_likings 24 r_t_likings] (some (.int v)) := by
  refine Mt.intro (lv := [(0, .ref a_t), (1, .int x1), (2, .int x2)]) (by decide +kernel) (Nat.le_of_ble_eq_true rfl) rfl (fun X C K => ?_)
  have C : CX E X cX1_liked RX1 3 rm_X1_liked := C
  rw [f_X1_liked] at h
  refine g_aload_n (pc := 0) C dX1_liked_0 0 rfl ?_
  refine g_get (pc := 1) 0 C fl_X1_34 rfl rfl dX1_liked_1 ?_
  refine g_iload_n (pc := 4) C dX1_liked_4 1 rfl ?_
  refine g_bipush (pc := 5) (v := 6) C dX1_liked_5 (by decide) ?_
  refine g_imul (pc := 7) C dX1_liked_7 ?_
  refine g_iload_n (pc := 8) C dX1_liked_8 2 rfl ?_
  refine g_iadd (pc := 9) C dX1_liked_9 ?_
  refine b_iald (pc := 10) 1 C rfl dX1_liked_10 h (fun _ h => ?_)
  obtain rfl := Option.some.inj h
  exact g_iret (pc := 11) C K dX1_liked_11
theorem dX1_unwelcome_0 : decode cX1_unwelcome 0 = .ok (.iconst 0, 1) := by decide +kernel
theorem dX1_unwelcome_1 : decode cX1_unwelcome 1 = .ok (.istore_n 2, 1) := by decide +kernel
theorem dX1_unwelcome_2 : decode cX1_unwelcome 2 = .ok (.iconst 0, 1) := by decide +kernel
theorem dX1_unwelcome_3 : decode cX1_unwelcome 3 = .ok (.istore_n 3, 1) := by decide +kernel
theorem dX1_unwelcome_4 : decode cX1_unwelcome 4 = .ok (.iload_n 3, 1) := by decide +kernel
theorem dX1_unwelcome_5 : decode cX1_unwelcome 5 = .ok (.aload_n 0, 1) := by decide +kernel
theorem dX1_unwelcome_6 : decode cX1_unwelcome 6 = .ok (.getfield 15, 3) := by decide +kernel
theorem dX1_unwelcome_9 : decode cX1_unwelcome 9 = .ok (.if_icmp .ge 34, 3) := by decide +kernel
theorem dX1_unwelcome_12 : decode cX1_unwelcome 12 = .ok (.aload_n 0, 1) := by decide +kernel
theorem dX1_unwelcome_13 : decode cX1_unwelcome 13 = .ok (.iload_n 1, 1) := by decide +kernel
theorem dX1_unwelcome_14 : decode cX1_unwelcome 14 = .ok (.iload_n 3, 1) := by decide +kernel
theorem dX1_unwelcome_15 : decode cX1_unwelcome 15 = .ok (.invokevirtual 56, 3) := by decide +kernel
theorem dX1_unwelcome_18 : decode cX1_unwelcome 18 = .ok (.ifCond .ne 19, 3) := by decide +kernel
theorem dX1_unwelcome_21 : decode cX1_unwelcome 21 = .ok (.aload_n 0, 1) := by decide +kernel
theorem dX1_unwelcome_22 : decode cX1_unwelcome 22 = .ok (.iload_n 1, 1) := by decide +kernel
theorem dX1_unwelcome_23 : decode cX1_unwelcome 23 = .ok (.iload_n 3, 1) := by decide +kernel
theorem dX1_unwelcome_24 : decode cX1_unwelcome 24 = .ok (.invokevirtual 60, 3) := by decide +kernel
theorem dX1_unwelcome_27 : decode cX1_unwelcome 27 = .ok (.iconst 4, 1) := by decide +kernel
theorem dX1_unwelcome_28 : decode cX1_unwelcome 28 = .ok (.if_icmp .gt 9, 3) := by decide +kernel
theorem dX1_unwelcome_31 : decode cX1_unwelcome 31 = .ok (.iload_n 2, 1) := by decide +kernel
theorem dX1_unwelcome_32 : decode cX1_unwelcome 32 = .ok (.iconst 1, 1) := by decide +kernel
theorem dX1_unwelcome_33 : decode cX1_unwelcome 33 = .ok (.iload_n 3, 1) := by decide +kernel
theorem dX1_unwelcome_34 : decode cX1_unwelcome 34 = .ok (.ishl, 1) := by decide +kernel
theorem dX1_unwelcome_35 : decode cX1_unwelcome 35 = .ok (.ior, 1) := by decide +kernel
theorem dX1_unwelcome_36 : decode cX1_unwelcome 36 = .ok (.istore_n 2, 1) := by decide +kernel
theorem dX1_unwelcome_37 : decode cX1_unwelcome 37 = .ok (.iinc 3 1, 3) := by decide +kernel
theorem dX1_unwelcome_40 : decode cX1_unwelcome 40 = .ok (.goto (-36), 3) := by decide +kernel
theorem dX1_unwelcome_43 : decode cX1_unwelcome 43 = .ok (.iload_n 2, 1) := by decide +kernel
theorem dX1_unwelcome_44 : decode cX1_unwelcome 44 = .ok (.ireturn, 1) := by decide +kernel
def L_X1_unwelcome_4 (c_t_comers : Int32) (r_t_likings : (Nat → Int32)) (r_t_lists : (Nat → Int32)) (x1 : Int32) : Nat → Int32 → Int32 → Option (Int32)
  | 0, _, _ => none
  | n + 1, y1, y2 =>
    if c_t_comers ≤ y2 then
      (some y1)
    else
      ((f_X1_onList r_t_lists x1 y2).bind (fun (v3 : Int32) =>
        if v3 = 0 then
          ((f_X1_liked r_t_likings x1 y2).bind (fun (v4 : Int32) =>
            if 4 < v4 then
              (L_X1_unwelcome_4 c_t_comers r_t_likings r_t_lists x1 n y1 (y2 + 1))
            else
              (L_X1_unwelcome_4 c_t_comers r_t_likings r_t_lists x1 n (y1 ||| ((1 : Int32) <<< (y2 &&& 31))) (y2 + 1))))
        else
          (L_X1_unwelcome_4 c_t_comers r_t_likings r_t_lists x1 n y1 (y2 + 1))))
def f_X1_unwelcome (c_t_comers : Int32) (r_t_likings : (Nat → Int32)) (r_t_lists : (Nat → Int32)) (x1 : Int32) : Option (Int32) :=
  (L_X1_unwelcome_4 c_t_comers r_t_likings r_t_lists x1 400 0 0).bind (fun (v6 : Int32) =>
    some v6)
abbrev rm_X1_unwelcome : Room := { frames := 1, cells := 0, slots := 0, locals := 22 }
set_option maxHeartbeats 4000000 in
set_option maxRecDepth 100000 in
theorem lp_X1_unwelcome_4 {E : Ev} {X : Cx} {a_t a_t_likings a_t_lists a_t_kindOf a_t_goes a_t_comes : Nat} (c_t_houses : Int32) (c_t_comers : Int32) (c_t_evening : Int32) (r_t_likings : (Nat → Int32)) (r_t_lists : (Nat → Int32)) (x1 : Int32) (C : CX E X cX1_unwelcome RX1 4 rm_X1_unwelcome) : ∀ (n : Nat) (y1 : Int32) (y2 : Int32) (v : Int32), L_X1_unwelcome_4 c_t_comers r_t_likings r_t_lists x1 n y1 y2 = some v → G E X 0 0 [oX1 a_t c_t_houses c_t_comers c_t_evening a_t_lists a_t_kindOf a_t_goes a_t_comes a_t_likings, aI E a_t_likings 24 r_t_likings, aI E a_t_lists 4 r_t_lists] [(2, .int v)] 43 [] → G E X 0 0 [oX1 a_t c_t_houses c_t_comers c_t_evening a_t_lists a_t_kindOf a_t_goes a_t_comes a_t_likings, aI E a_t_likings 24 r_t_likings, aI E a_t_lists 4 r_t_lists] [(0, .ref a_t), (1, .int x1), (2, .int y1), (3, .int y2)] 4 [] := by
  intro n
  induction n with
  | zero => intro _ _ _ h; cases h
  | succ n ih =>
    intro y1 y2 v h kk
    rw [L_X1_unwelcome_4] at h
    refine g_iload_n (pc := 4) C dX1_unwelcome_4 3 rfl ?_
    refine g_aload_n (pc := 5) C dX1_unwelcome_5 0 rfl ?_
    refine g_get (pc := 6) 0 C fl_X1_15 rfl rfl dX1_unwelcome_6 ?_
    refine b_icmp_ge (pc := 9) 43 C dX1_unwelcome_9 (by decide) h (fun _ h => ?_) (fun _ h => ?_)
    · obtain rfl := Option.some.inj h
      refine g_lv [2] (lv' := [(2, .int y1)]) rfl ?_
      exact kk
    · refine g_aload_n (pc := 12) C dX1_unwelcome_12 0 rfl ?_
      refine g_iload_n (pc := 13) C dX1_unwelcome_13 1 rfl ?_
      refine g_iload_n (pc := 14) C dX1_unwelcome_14 3 rfl ?_
      obtain ⟨v3, hv3, h⟩ := o_bnd h
      refine g_callV (pc := 15) (ws' := [oX1 a_t c_t_houses c_t_comers c_t_evening a_t_lists a_t_kindOf a_t_goes a_t_comes a_t_likings, aI E a_t_likings 24 r_t_likings, aI E a_t_lists 4 r_t_lists]) (st1 := [.int v3]) C mv_X1_56 (k_X1_onList E a_t a_t_lists a_t_kindOf a_t_goes a_t_comes a_t_likings c_t_houses c_t_comers c_t_evening r_t_lists x1 y2 v3 hv3) [0, 2] rfl (by decide +kernel) rfl [some 0, none, some 1] 3 (by decide +kernel) rfl rfl 0 rfl rfl ⟨by decide, by decide⟩ ⟨rfl, rfl⟩ ⟨Nat.zero_le _, Nat.zero_le _⟩ rfl rfl rfl (Nat.le_of_ble_eq_true rfl) dX1_unwelcome_15 ?_
      refine b_if_ne (pc := 18) 37 C dX1_unwelcome_18 (by decide) h (fun _ h => ?_) (fun _ h => ?_)
      · refine g_iinc (pc := 37) (v := y2 + 1) (lv' := [(3, .int (y2 + 1)), (0, .ref a_t), (1, .int x1), (2, .int y1)]) C dX1_unwelcome_37 3 rfl rfl (by decide) rfl ?_
        refine g_goto (pc := 40) 4 C dX1_unwelcome_40 (by decide) ?_
        refine g_lv [1, 2, 3, 0] (lv' := [(0, .ref a_t), (1, .int x1), (2, .int y1), (3, .int (y2 + 1))]) rfl ?_
        exact ih _ _ _ h kk
      · refine g_aload_n (pc := 21) C dX1_unwelcome_21 0 rfl ?_
        refine g_iload_n (pc := 22) C dX1_unwelcome_22 1 rfl ?_
        refine g_iload_n (pc := 23) C dX1_unwelcome_23 3 rfl ?_
        obtain ⟨v4, hv4, h⟩ := o_bnd h
        refine g_callV (pc := 24) (ws' := [oX1 a_t c_t_houses c_t_comers c_t_evening a_t_lists a_t_kindOf a_t_goes a_t_comes a_t_likings, aI E a_t_likings 24 r_t_likings, aI E a_t_lists 4 r_t_lists]) (st1 := [.int v4]) C mv_X1_60 (k_X1_liked E a_t a_t_likings a_t_lists a_t_kindOf a_t_goes a_t_comes c_t_houses c_t_comers c_t_evening r_t_likings x1 y2 v4 hv4) [0, 1] rfl (by decide +kernel) rfl [some 0, some 1, none] 3 (by decide +kernel) rfl rfl 0 rfl rfl ⟨by decide, by decide⟩ ⟨rfl, rfl⟩ ⟨Nat.zero_le _, Nat.zero_le _⟩ rfl rfl rfl (Nat.le_of_ble_eq_true rfl) dX1_unwelcome_24 ?_
        refine g_iconst (pc := 27) (v := 4) C dX1_unwelcome_27 (by decide) ?_
        refine b_icmp_gt (pc := 28) 37 C dX1_unwelcome_28 (by decide) h (fun _ h => ?_) (fun _ h => ?_)
        · refine g_iinc (pc := 37) (v := y2 + 1) (lv' := [(3, .int (y2 + 1)), (0, .ref a_t), (1, .int x1), (2, .int y1)]) C dX1_unwelcome_37 3 rfl rfl (by decide) rfl ?_
          refine g_goto (pc := 40) 4 C dX1_unwelcome_40 (by decide) ?_
          refine g_lv [1, 2, 3, 0] (lv' := [(0, .ref a_t), (1, .int x1), (2, .int y1), (3, .int (y2 + 1))]) rfl ?_
          exact ih _ _ _ h kk
        · refine g_iload_n (pc := 31) C dX1_unwelcome_31 2 rfl ?_
          refine g_iconst (pc := 32) (v := 1) C dX1_unwelcome_32 (by decide) ?_
          refine g_iload_n (pc := 33) C dX1_unwelcome_33 3 rfl ?_
          refine g_ishl (pc := 34) C dX1_unwelcome_34 ?_
          refine g_ior (pc := 35) C dX1_unwelcome_35 ?_
          refine g_istore_n (pc := 36) (lv' := [(2, .int (y1 ||| ((1 : Int32) <<< (y2 &&& 31)))), (0, .ref a_t), (1, .int x1), (3, .int y2)]) C dX1_unwelcome_36 (by decide) rfl ?_
          refine g_iinc (pc := 37) (v := y2 + 1) (lv' := [(3, .int (y2 + 1)), (2, .int (y1 ||| ((1 : Int32) <<< (y2 &&& 31)))), (0, .ref a_t), (1, .int x1)]) C dX1_unwelcome_37 3 rfl rfl (by decide) rfl ?_
          refine g_goto (pc := 40) 4 C dX1_unwelcome_40 (by decide) ?_
          refine g_lv [2, 3, 1, 0] (lv' := [(0, .ref a_t), (1, .int x1), (2, .int (y1 ||| ((1 : Int32) <<< (y2 &&& 31)))), (3, .int (y2 + 1))]) rfl ?_
          exact ih _ _ _ h kk
set_option maxHeartbeats 4000000 in
set_option maxRecDepth 100000 in
theorem k_X1_unwelcome (E : Ev) (a_t a_t_likings a_t_lists a_t_kindOf a_t_goes a_t_comes : Nat) (c_t_houses : Int32) (c_t_comers : Int32) (c_t_evening : Int32) (r_t_likings : (Nat → Int32)) (r_t_lists : (Nat → Int32)) (x1 : Int32) (v : Int32) (h : f_X1_unwelcome c_t_comers r_t_likings r_t_lists x1 = some v) : Mt E yX1_unwelcome cX1_unwelcome 4 (some .int) rm_X1_unwelcome [.ref a_t, .int x1] [oX1 a_t c_t_houses c_t_comers c_t_evening a_t_lists a_t_kindOf a_t_goes a_t_comes a_t_likings, aI E a_t_likings 24 r_t_likings, aI E a_t_lists 4 r_t_lists] [oX1 a_t c_t_houses c_t_comers c_t_evening a_t_lists a_t_kindOf a_t_goes a_t_comes a_t_likings, aI E a_t_likings 24 r_t_likings, aI E a_t_lists 4 r_t_lists] (some (.int v)) := by
  refine Mt.intro (lv := [(0, .ref a_t), (1, .int x1)]) (by decide +kernel) (Nat.le_of_ble_eq_true rfl) rfl (fun X C K => ?_)
  have C : CX E X cX1_unwelcome RX1 4 rm_X1_unwelcome := C
  rw [f_X1_unwelcome] at h
  refine g_iconst (pc := 0) (v := 0) C dX1_unwelcome_0 (by decide) ?_
  refine g_istore_n (pc := 1) (lv' := [(2, .int 0), (0, .ref a_t), (1, .int x1)]) C dX1_unwelcome_1 (by decide) rfl ?_
  refine g_iconst (pc := 2) (v := 0) C dX1_unwelcome_2 (by decide) ?_
  refine g_istore_n (pc := 3) (lv' := [(3, .int 0), (2, .int 0), (0, .ref a_t), (1, .int x1)]) C dX1_unwelcome_3 (by decide) rfl ?_
  obtain ⟨v6, hv6, h⟩ := o_bnd h
  refine g_lv [2, 3, 1, 0] (lv' := [(0, .ref a_t), (1, .int x1), (2, .int 0), (3, .int 0)]) rfl ?_
  refine lp_X1_unwelcome_4 c_t_houses c_t_comers c_t_evening r_t_likings r_t_lists x1 C 400 _ _ _ hv6 ?_
  refine g_iload_n (pc := 43) C dX1_unwelcome_43 0 rfl ?_
  obtain rfl := Option.some.inj h
  exact g_iret (pc := 44) C K dX1_unwelcome_44
theorem dJ6_bitCount_0f7a4_0 : decode cJ6_bitCount_0f7a4 0 = .ok (.iload_n 0, 1) := by decide +kernel
theorem dJ6_bitCount_0f7a4_1 : decode cJ6_bitCount_0f7a4 1 = .ok (.iload_n 0, 1) := by decide +kernel
theorem dJ6_bitCount_0f7a4_2 : decode cJ6_bitCount_0f7a4 2 = .ok (.iconst 1, 1) := by decide +kernel
theorem dJ6_bitCount_0f7a4_3 : decode cJ6_bitCount_0f7a4 3 = .ok (.iushr, 1) := by decide +kernel
theorem dJ6_bitCount_0f7a4_4 : decode cJ6_bitCount_0f7a4 4 = .ok (.ldc_w 265, 3) := by decide +kernel
theorem dJ6_bitCount_0f7a4_7 : decode cJ6_bitCount_0f7a4 7 = .ok (.iand, 1) := by decide +kernel
theorem dJ6_bitCount_0f7a4_8 : decode cJ6_bitCount_0f7a4 8 = .ok (.isub, 1) := by decide +kernel
theorem dJ6_bitCount_0f7a4_9 : decode cJ6_bitCount_0f7a4 9 = .ok (.istore_n 0, 1) := by decide +kernel
theorem dJ6_bitCount_0f7a4_10 : decode cJ6_bitCount_0f7a4 10 = .ok (.iload_n 0, 1) := by decide +kernel
theorem dJ6_bitCount_0f7a4_11 : decode cJ6_bitCount_0f7a4 11 = .ok (.ldc_w 266, 3) := by decide +kernel
theorem dJ6_bitCount_0f7a4_14 : decode cJ6_bitCount_0f7a4 14 = .ok (.iand, 1) := by decide +kernel
theorem dJ6_bitCount_0f7a4_15 : decode cJ6_bitCount_0f7a4 15 = .ok (.iload_n 0, 1) := by decide +kernel
theorem dJ6_bitCount_0f7a4_16 : decode cJ6_bitCount_0f7a4 16 = .ok (.iconst 2, 1) := by decide +kernel
theorem dJ6_bitCount_0f7a4_17 : decode cJ6_bitCount_0f7a4 17 = .ok (.iushr, 1) := by decide +kernel
theorem dJ6_bitCount_0f7a4_18 : decode cJ6_bitCount_0f7a4 18 = .ok (.ldc_w 266, 3) := by decide +kernel
theorem dJ6_bitCount_0f7a4_21 : decode cJ6_bitCount_0f7a4 21 = .ok (.iand, 1) := by decide +kernel
theorem dJ6_bitCount_0f7a4_22 : decode cJ6_bitCount_0f7a4 22 = .ok (.iadd, 1) := by decide +kernel
theorem dJ6_bitCount_0f7a4_23 : decode cJ6_bitCount_0f7a4 23 = .ok (.istore_n 0, 1) := by decide +kernel
theorem dJ6_bitCount_0f7a4_24 : decode cJ6_bitCount_0f7a4 24 = .ok (.iload_n 0, 1) := by decide +kernel
theorem dJ6_bitCount_0f7a4_25 : decode cJ6_bitCount_0f7a4 25 = .ok (.iload_n 0, 1) := by decide +kernel
theorem dJ6_bitCount_0f7a4_26 : decode cJ6_bitCount_0f7a4 26 = .ok (.iconst 4, 1) := by decide +kernel
theorem dJ6_bitCount_0f7a4_27 : decode cJ6_bitCount_0f7a4 27 = .ok (.iushr, 1) := by decide +kernel
theorem dJ6_bitCount_0f7a4_28 : decode cJ6_bitCount_0f7a4 28 = .ok (.iadd, 1) := by decide +kernel
theorem dJ6_bitCount_0f7a4_29 : decode cJ6_bitCount_0f7a4 29 = .ok (.ldc_w 267, 3) := by decide +kernel
theorem dJ6_bitCount_0f7a4_32 : decode cJ6_bitCount_0f7a4 32 = .ok (.iand, 1) := by decide +kernel
theorem dJ6_bitCount_0f7a4_33 : decode cJ6_bitCount_0f7a4 33 = .ok (.istore_n 0, 1) := by decide +kernel
theorem dJ6_bitCount_0f7a4_34 : decode cJ6_bitCount_0f7a4 34 = .ok (.iload_n 0, 1) := by decide +kernel
theorem dJ6_bitCount_0f7a4_35 : decode cJ6_bitCount_0f7a4 35 = .ok (.iload_n 0, 1) := by decide +kernel
theorem dJ6_bitCount_0f7a4_36 : decode cJ6_bitCount_0f7a4 36 = .ok (.bipush 8, 2) := by decide +kernel
theorem dJ6_bitCount_0f7a4_38 : decode cJ6_bitCount_0f7a4 38 = .ok (.iushr, 1) := by decide +kernel
theorem dJ6_bitCount_0f7a4_39 : decode cJ6_bitCount_0f7a4 39 = .ok (.iadd, 1) := by decide +kernel
theorem dJ6_bitCount_0f7a4_40 : decode cJ6_bitCount_0f7a4 40 = .ok (.istore_n 0, 1) := by decide +kernel
theorem dJ6_bitCount_0f7a4_41 : decode cJ6_bitCount_0f7a4 41 = .ok (.iload_n 0, 1) := by decide +kernel
theorem dJ6_bitCount_0f7a4_42 : decode cJ6_bitCount_0f7a4 42 = .ok (.iload_n 0, 1) := by decide +kernel
theorem dJ6_bitCount_0f7a4_43 : decode cJ6_bitCount_0f7a4 43 = .ok (.bipush 16, 2) := by decide +kernel
theorem dJ6_bitCount_0f7a4_45 : decode cJ6_bitCount_0f7a4 45 = .ok (.iushr, 1) := by decide +kernel
theorem dJ6_bitCount_0f7a4_46 : decode cJ6_bitCount_0f7a4 46 = .ok (.iadd, 1) := by decide +kernel
theorem dJ6_bitCount_0f7a4_47 : decode cJ6_bitCount_0f7a4 47 = .ok (.istore_n 0, 1) := by decide +kernel
theorem dJ6_bitCount_0f7a4_48 : decode cJ6_bitCount_0f7a4 48 = .ok (.iload_n 0, 1) := by decide +kernel
theorem dJ6_bitCount_0f7a4_49 : decode cJ6_bitCount_0f7a4 49 = .ok (.bipush 63, 2) := by decide +kernel
theorem dJ6_bitCount_0f7a4_51 : decode cJ6_bitCount_0f7a4 51 = .ok (.iand, 1) := by decide +kernel
theorem dJ6_bitCount_0f7a4_52 : decode cJ6_bitCount_0f7a4 52 = .ok (.ireturn, 1) := by decide +kernel
def f_J6_bitCount_0f7a4 (x0 : Int32) : Option (Int32) :=
  some ((((((((x0 - ((iushr x0 1) &&& 1431655765)) &&& 858993459) + ((iushr (x0 - ((iushr x0 1) &&& 1431655765)) 2) &&& 858993459)) + (iushr (((x0 - ((iushr x0 1) &&& 1431655765)) &&& 858993459) + ((iushr (x0 - ((iushr x0 1) &&& 1431655765)) 2) &&& 858993459)) 4)) &&& 252645135) + (iushr (((((x0 - ((iushr x0 1) &&& 1431655765)) &&& 858993459) + ((iushr (x0 - ((iushr x0 1) &&& 1431655765)) 2) &&& 858993459)) + (iushr (((x0 - ((iushr x0 1) &&& 1431655765)) &&& 858993459) + ((iushr (x0 - ((iushr x0 1) &&& 1431655765)) 2) &&& 858993459)) 4)) &&& 252645135) 8)) + (iushr ((((((x0 - ((iushr x0 1) &&& 1431655765)) &&& 858993459) + ((iushr (x0 - ((iushr x0 1) &&& 1431655765)) 2) &&& 858993459)) + (iushr (((x0 - ((iushr x0 1) &&& 1431655765)) &&& 858993459) + ((iushr (x0 - ((iushr x0 1) &&& 1431655765)) 2) &&& 858993459)) 4)) &&& 252645135) + (iushr (((((x0 - ((iushr x0 1) &&& 1431655765)) &&& 858993459) + ((iushr (x0 - ((iushr x0 1) &&& 1431655765)) 2) &&& 858993459)) + (iushr (((x0 - ((iushr x0 1) &&& 1431655765)) &&& 858993459) + ((iushr (x0 - ((iushr x0 1) &&& 1431655765)) 2) &&& 858993459)) 4)) &&& 252645135) 8)) 16)) &&& 63)
abbrev rm_J6_bitCount_0f7a4 : Room := { frames := 0, cells := 0, slots := 0, locals := 0 }
set_option maxHeartbeats 4000000 in
set_option maxRecDepth 100000 in
theorem k_J6_bitCount_0f7a4 (E : Ev) (x0 : Int32) (v : Int32) (h : f_J6_bitCount_0f7a4 x0 = some v) : Mt E yJ6_bitCount_0f7a4 cJ6_bitCount_0f7a4 1 (some .int) rm_J6_bitCount_0f7a4 [.int x0] [] [] (some (.int v)) := by
  refine Mt.intro (lv := [(0, .int x0)]) (by decide +kernel) (Nat.le_of_ble_eq_true rfl) rfl (fun X C K => ?_)
  have C : CX E X cJ6_bitCount_0f7a4 RJ6 1 rm_J6_bitCount_0f7a4 := C
  rw [f_J6_bitCount_0f7a4] at h
  refine g_iload_n (pc := 0) C dJ6_bitCount_0f7a4_0 0 rfl ?_
  refine g_iload_n (pc := 1) C dJ6_bitCount_0f7a4_1 0 rfl ?_
  refine g_iconst (pc := 2) (v := 1) C dJ6_bitCount_0f7a4_2 (by decide) ?_
  refine g_iushr (pc := 3) C dJ6_bitCount_0f7a4_3 ?_
  refine g_ldcw (pc := 4) C kc_J6_265 dJ6_bitCount_0f7a4_4 ?_
  refine g_iand (pc := 7) C dJ6_bitCount_0f7a4_7 ?_
  refine g_isub (pc := 8) C dJ6_bitCount_0f7a4_8 ?_
  refine g_istore_n (pc := 9) (lv' := [(0, .int (x0 - ((iushr x0 1) &&& 1431655765)))]) C dJ6_bitCount_0f7a4_9 (by decide) rfl ?_
  refine g_iload_n (pc := 10) C dJ6_bitCount_0f7a4_10 0 rfl ?_
  refine g_ldcw (pc := 11) C kc_J6_266 dJ6_bitCount_0f7a4_11 ?_
  refine g_iand (pc := 14) C dJ6_bitCount_0f7a4_14 ?_
  refine g_iload_n (pc := 15) C dJ6_bitCount_0f7a4_15 0 rfl ?_
  refine g_iconst (pc := 16) (v := 2) C dJ6_bitCount_0f7a4_16 (by decide) ?_
  refine g_iushr (pc := 17) C dJ6_bitCount_0f7a4_17 ?_
  refine g_ldcw (pc := 18) C kc_J6_266 dJ6_bitCount_0f7a4_18 ?_
  refine g_iand (pc := 21) C dJ6_bitCount_0f7a4_21 ?_
  refine g_iadd (pc := 22) C dJ6_bitCount_0f7a4_22 ?_
  refine g_istore_n (pc := 23) (lv' := [(0, .int (((x0 - ((iushr x0 1) &&& 1431655765)) &&& 858993459) + ((iushr (x0 - ((iushr x0 1) &&& 1431655765)) 2) &&& 858993459)))]) C dJ6_bitCount_0f7a4_23 (by decide) rfl ?_
  refine g_iload_n (pc := 24) C dJ6_bitCount_0f7a4_24 0 rfl ?_
  refine g_iload_n (pc := 25) C dJ6_bitCount_0f7a4_25 0 rfl ?_
  refine g_iconst (pc := 26) (v := 4) C dJ6_bitCount_0f7a4_26 (by decide) ?_
  refine g_iushr (pc := 27) C dJ6_bitCount_0f7a4_27 ?_
  refine g_iadd (pc := 28) C dJ6_bitCount_0f7a4_28 ?_
  refine g_ldcw (pc := 29) C kc_J6_267 dJ6_bitCount_0f7a4_29 ?_
  refine g_iand (pc := 32) C dJ6_bitCount_0f7a4_32 ?_
  refine g_istore_n (pc := 33) (lv' := [(0, .int (((((x0 - ((iushr x0 1) &&& 1431655765)) &&& 858993459) + ((iushr (x0 - ((iushr x0 1) &&& 1431655765)) 2) &&& 858993459)) + (iushr (((x0 - ((iushr x0 1) &&& 1431655765)) &&& 858993459) + ((iushr (x0 - ((iushr x0 1) &&& 1431655765)) 2) &&& 858993459)) 4)) &&& 252645135))]) C dJ6_bitCount_0f7a4_33 (by decide) rfl ?_
  refine g_iload_n (pc := 34) C dJ6_bitCount_0f7a4_34 0 rfl ?_
  refine g_iload_n (pc := 35) C dJ6_bitCount_0f7a4_35 0 rfl ?_
  refine g_bipush (pc := 36) (v := 8) C dJ6_bitCount_0f7a4_36 (by decide) ?_
  refine g_iushr (pc := 38) C dJ6_bitCount_0f7a4_38 ?_
  refine g_iadd (pc := 39) C dJ6_bitCount_0f7a4_39 ?_
  refine g_istore_n (pc := 40) (lv' := [(0, .int ((((((x0 - ((iushr x0 1) &&& 1431655765)) &&& 858993459) + ((iushr (x0 - ((iushr x0 1) &&& 1431655765)) 2) &&& 858993459)) + (iushr (((x0 - ((iushr x0 1) &&& 1431655765)) &&& 858993459) + ((iushr (x0 - ((iushr x0 1) &&& 1431655765)) 2) &&& 858993459)) 4)) &&& 252645135) + (iushr (((((x0 - ((iushr x0 1) &&& 1431655765)) &&& 858993459) + ((iushr (x0 - ((iushr x0 1) &&& 1431655765)) 2) &&& 858993459)) + (iushr (((x0 - ((iushr x0 1) &&& 1431655765)) &&& 858993459) + ((iushr (x0 - ((iushr x0 1) &&& 1431655765)) 2) &&& 858993459)) 4)) &&& 252645135) 8)))]) C dJ6_bitCount_0f7a4_40 (by decide) rfl ?_
  refine g_iload_n (pc := 41) C dJ6_bitCount_0f7a4_41 0 rfl ?_
  refine g_iload_n (pc := 42) C dJ6_bitCount_0f7a4_42 0 rfl ?_
  refine g_bipush (pc := 43) (v := 16) C dJ6_bitCount_0f7a4_43 (by decide) ?_
  refine g_iushr (pc := 45) C dJ6_bitCount_0f7a4_45 ?_
  refine g_iadd (pc := 46) C dJ6_bitCount_0f7a4_46 ?_
  refine g_istore_n (pc := 47) (lv' := [(0, .int (((((((x0 - ((iushr x0 1) &&& 1431655765)) &&& 858993459) + ((iushr (x0 - ((iushr x0 1) &&& 1431655765)) 2) &&& 858993459)) + (iushr (((x0 - ((iushr x0 1) &&& 1431655765)) &&& 858993459) + ((iushr (x0 - ((iushr x0 1) &&& 1431655765)) 2) &&& 858993459)) 4)) &&& 252645135) + (iushr (((((x0 - ((iushr x0 1) &&& 1431655765)) &&& 858993459) + ((iushr (x0 - ((iushr x0 1) &&& 1431655765)) 2) &&& 858993459)) + (iushr (((x0 - ((iushr x0 1) &&& 1431655765)) &&& 858993459) + ((iushr (x0 - ((iushr x0 1) &&& 1431655765)) 2) &&& 858993459)) 4)) &&& 252645135) 8)) + (iushr ((((((x0 - ((iushr x0 1) &&& 1431655765)) &&& 858993459) + ((iushr (x0 - ((iushr x0 1) &&& 1431655765)) 2) &&& 858993459)) + (iushr (((x0 - ((iushr x0 1) &&& 1431655765)) &&& 858993459) + ((iushr (x0 - ((iushr x0 1) &&& 1431655765)) 2) &&& 858993459)) 4)) &&& 252645135) + (iushr (((((x0 - ((iushr x0 1) &&& 1431655765)) &&& 858993459) + ((iushr (x0 - ((iushr x0 1) &&& 1431655765)) 2) &&& 858993459)) + (iushr (((x0 - ((iushr x0 1) &&& 1431655765)) &&& 858993459) + ((iushr (x0 - ((iushr x0 1) &&& 1431655765)) 2) &&& 858993459)) 4)) &&& 252645135) 8)) 16)))]) C dJ6_bitCount_0f7a4_47 (by decide) rfl ?_
  refine g_iload_n (pc := 48) C dJ6_bitCount_0f7a4_48 0 rfl ?_
  refine g_bipush (pc := 49) (v := 63) C dJ6_bitCount_0f7a4_49 (by decide) ?_
  refine g_iand (pc := 51) C dJ6_bitCount_0f7a4_51 ?_
  obtain rfl := Option.some.inj h
  exact g_iret (pc := 52) C K dJ6_bitCount_0f7a4_52
theorem dX1_warmed_0 : decode cX1_warmed 0 = .ok (.iload_n 1, 1) := by decide +kernel
theorem dX1_warmed_1 : decode cX1_warmed 1 = .ok (.bipush 9, 2) := by decide +kernel
theorem dX1_warmed_3 : decode cX1_warmed 3 = .ok (.if_icmp .ge 9, 3) := by decide +kernel
theorem dX1_warmed_6 : decode cX1_warmed 6 = .ok (.iload_n 1, 1) := by decide +kernel
theorem dX1_warmed_7 : decode cX1_warmed 7 = .ok (.iconst 1, 1) := by decide +kernel
theorem dX1_warmed_8 : decode cX1_warmed 8 = .ok (.iadd, 1) := by decide +kernel
theorem dX1_warmed_9 : decode cX1_warmed 9 = .ok (.goto 5, 3) := by decide +kernel
theorem dX1_warmed_12 : decode cX1_warmed 12 = .ok (.bipush 9, 2) := by decide +kernel
theorem dX1_warmed_14 : decode cX1_warmed 14 = .ok (.istore_n 3, 1) := by decide +kernel
theorem dX1_warmed_15 : decode cX1_warmed 15 = .ok (.iload_n 2, 1) := by decide +kernel
theorem dX1_warmed_16 : decode cX1_warmed 16 = .ok (.iconst 3, 1) := by decide +kernel
theorem dX1_warmed_17 : decode cX1_warmed 17 = .ok (.if_icmp .lt 7, 3) := by decide +kernel
theorem dX1_warmed_20 : decode cX1_warmed 20 = .ok (.iload_n 3, 1) := by decide +kernel
theorem dX1_warmed_21 : decode cX1_warmed 21 = .ok (.goto 4, 3) := by decide +kernel
theorem dX1_warmed_24 : decode cX1_warmed 24 = .ok (.iload_n 1, 1) := by decide +kernel
theorem dX1_warmed_25 : decode cX1_warmed 25 = .ok (.istore 4, 2) := by decide +kernel
theorem dX1_warmed_27 : decode cX1_warmed 27 = .ok (.iload_n 0, 1) := by decide +kernel
theorem dX1_warmed_28 : decode cX1_warmed 28 = .ok (.tableswitch 48 0 2 #[28, 30, 33], 28) := by decide +kernel
theorem dX1_warmed_56 : decode cX1_warmed 56 = .ok (.iload_n 3, 1) := by decide +kernel
theorem dX1_warmed_57 : decode cX1_warmed 57 = .ok (.ireturn, 1) := by decide +kernel
theorem dX1_warmed_58 : decode cX1_warmed 58 = .ok (.iload 4, 2) := by decide +kernel
theorem dX1_warmed_60 : decode cX1_warmed 60 = .ok (.ireturn, 1) := by decide +kernel
theorem dX1_warmed_61 : decode cX1_warmed 61 = .ok (.iload_n 3, 1) := by decide +kernel
theorem dX1_warmed_62 : decode cX1_warmed 62 = .ok (.bipush 9, 2) := by decide +kernel
theorem dX1_warmed_64 : decode cX1_warmed 64 = .ok (.if_icmp .ge 9, 3) := by decide +kernel
theorem dX1_warmed_67 : decode cX1_warmed 67 = .ok (.iload_n 3, 1) := by decide +kernel
theorem dX1_warmed_68 : decode cX1_warmed 68 = .ok (.iconst 1, 1) := by decide +kernel
theorem dX1_warmed_69 : decode cX1_warmed 69 = .ok (.iadd, 1) := by decide +kernel
theorem dX1_warmed_70 : decode cX1_warmed 70 = .ok (.goto 5, 3) := by decide +kernel
theorem dX1_warmed_73 : decode cX1_warmed 73 = .ok (.bipush 9, 2) := by decide +kernel
theorem dX1_warmed_75 : decode cX1_warmed 75 = .ok (.ireturn, 1) := by decide +kernel
theorem dX1_warmed_76 : decode cX1_warmed 76 = .ok (.iload 4, 2) := by decide +kernel
theorem dX1_warmed_78 : decode cX1_warmed 78 = .ok (.ifCond .le 10, 3) := by decide +kernel
theorem dX1_warmed_81 : decode cX1_warmed 81 = .ok (.iload 4, 2) := by decide +kernel
theorem dX1_warmed_83 : decode cX1_warmed 83 = .ok (.iconst 1, 1) := by decide +kernel
theorem dX1_warmed_84 : decode cX1_warmed 84 = .ok (.isub, 1) := by decide +kernel
theorem dX1_warmed_85 : decode cX1_warmed 85 = .ok (.goto 4, 3) := by decide +kernel
theorem dX1_warmed_88 : decode cX1_warmed 88 = .ok (.iconst 0, 1) := by decide +kernel
theorem dX1_warmed_89 : decode cX1_warmed 89 = .ok (.ireturn, 1) := by decide +kernel
def f_X1_warmed (x0 : Int32) (x1 : Int32) (x2 : Int32) : Option (Int32) :=
  (if 9 ≤ x1 then
    (some 9)
  else
    (some (x1 + 1))).bind (fun (v1 : Int32) =>
    (if x2 < 3 then
      (some x1)
    else
      (some v1)).bind (fun (v2 : Int32) =>
      if x0 = 0 then
        (some v1)
      else
        (if x0 = 1 then
          (some v2)
        else
          (if x0 = 2 then
            (if 9 ≤ v1 then
              (some 9)
            else
              (some (v1 + 1)))
          else
            (if v2 ≤ 0 then
              (some 0)
            else
              (some (v2 - 1)))))))
abbrev rm_X1_warmed : Room := { frames := 0, cells := 0, slots := 0, locals := 0 }
set_option maxHeartbeats 4000000 in
set_option maxRecDepth 100000 in
theorem k_X1_warmed (E : Ev) (x0 : Int32) (x1 : Int32) (x2 : Int32) (v : Int32) (h : f_X1_warmed x0 x1 x2 = some v) : Mt E yX1_warmed cX1_warmed 5 (some .int) rm_X1_warmed [.int x0, .int x1, .int x2] [] [] (some (.int v)) := by
  refine Mt.intro (lv := [(0, .int x0), (1, .int x1), (2, .int x2)]) (by decide +kernel) (Nat.le_of_ble_eq_true rfl) rfl (fun X C K => ?_)
  have C : CX E X cX1_warmed RX1 5 rm_X1_warmed := C
  rw [f_X1_warmed] at h
  refine g_iload_n (pc := 0) C dX1_warmed_0 1 rfl ?_
  refine g_bipush (pc := 1) (v := 9) C dX1_warmed_1 (by decide) ?_
  obtain ⟨v1, hv1, h⟩ := o_bnd h
  have Kv1 : G E X 0 0 [] [(0, .int x0), (1, .int x1), (2, .int x2)] 14 [.int v1] := by
    refine g_istore_n (pc := 14) (lv' := [(3, .int v1), (0, .int x0), (1, .int x1), (2, .int x2)]) C dX1_warmed_14 (by decide) rfl ?_
    refine g_iload_n (pc := 15) C dX1_warmed_15 3 rfl ?_
    refine g_iconst (pc := 16) (v := 3) C dX1_warmed_16 (by decide) ?_
    obtain ⟨v2, hv2, h⟩ := o_bnd h
    have Kv2 : G E X 0 0 [] [(0, .int x0), (3, .int v1)] 25 [.int v2] := by
      refine g_istore (pc := 25) (lv' := [(4, .int v2), (0, .int x0), (3, .int v1)]) C dX1_warmed_25 (by decide) rfl ?_
      refine g_iload_n (pc := 27) C dX1_warmed_27 1 rfl ?_
      rcases o_ite h with ⟨c0, h⟩ | ⟨c0, h⟩
      · refine g_tabIn (pc := 28) 56 0 C dX1_warmed_28 (by rw [c0]; rfl) (by decide) rfl (by decide) ?_
        refine g_iload_n (pc := 56) C dX1_warmed_56 2 rfl ?_
        obtain rfl := Option.some.inj h
        exact g_iret (pc := 57) C K dX1_warmed_57
      · rcases o_ite h with ⟨c1, h⟩ | ⟨c1, h⟩
        · refine g_tabIn (pc := 28) 58 1 C dX1_warmed_28 (by rw [c1]; rfl) (by decide) rfl (by decide) ?_
          refine g_iload (pc := 58) C dX1_warmed_58 0 rfl ?_
          obtain rfl := Option.some.inj h
          exact g_iret (pc := 60) C K dX1_warmed_60
        · rcases o_ite h with ⟨c2, h⟩ | ⟨c2, h⟩
          · refine g_tabIn (pc := 28) 61 2 C dX1_warmed_28 (by rw [c2]; rfl) (by decide) rfl (by decide) ?_
            refine g_iload_n (pc := 61) C dX1_warmed_61 2 rfl ?_
            refine g_bipush (pc := 62) (v := 9) C dX1_warmed_62 (by decide) ?_
            refine b_icmp_ge (pc := 64) 73 C dX1_warmed_64 (by decide) h (fun _ h => ?_) (fun _ h => ?_)
            · refine g_bipush (pc := 73) (v := 9) C dX1_warmed_73 (by decide) ?_
              obtain rfl := Option.some.inj h
              exact g_iret (pc := 75) C K dX1_warmed_75
            · refine g_iload_n (pc := 67) C dX1_warmed_67 2 rfl ?_
              refine g_iconst (pc := 68) (v := 1) C dX1_warmed_68 (by decide) ?_
              refine g_iadd (pc := 69) C dX1_warmed_69 ?_
              refine g_goto (pc := 70) 75 C dX1_warmed_70 (by decide) ?_
              obtain rfl := Option.some.inj h
              exact g_iret (pc := 75) C K dX1_warmed_75
          · refine g_tabOut (pc := 28) 76 C dX1_warmed_28 (by have := sw_n 0 (by decide) c0; have := sw_n 1 (by decide) c1; have := sw_n 2 (by decide) c2; omega) (by decide) ?_
            refine g_iload (pc := 76) C dX1_warmed_76 0 rfl ?_
            refine b_if_le (pc := 78) 88 C dX1_warmed_78 (by decide) h (fun _ h => ?_) (fun _ h => ?_)
            · refine g_iconst (pc := 88) (v := 0) C dX1_warmed_88 (by decide) ?_
              obtain rfl := Option.some.inj h
              exact g_iret (pc := 89) C K dX1_warmed_89
            · refine g_iload (pc := 81) C dX1_warmed_81 0 rfl ?_
              refine g_iconst (pc := 83) (v := 1) C dX1_warmed_83 (by decide) ?_
              refine g_isub (pc := 84) C dX1_warmed_84 ?_
              refine g_goto (pc := 85) 89 C dX1_warmed_85 (by decide) ?_
              obtain rfl := Option.some.inj h
              exact g_iret (pc := 89) C K dX1_warmed_89
    clear h
    have h := hv2
    clear hv2
    refine b_icmp_lt (pc := 17) 24 C dX1_warmed_17 (by decide) h (fun _ h => ?_) (fun _ h => ?_)
    · refine g_iload_n (pc := 24) C dX1_warmed_24 2 rfl ?_
      obtain rfl := Option.some.inj h
      refine g_lv [1, 0] (lv' := [(0, .int x0), (3, .int v1)]) rfl ?_
      exact Kv2
    · refine g_iload_n (pc := 20) C dX1_warmed_20 0 rfl ?_
      refine g_goto (pc := 21) 25 C dX1_warmed_21 (by decide) ?_
      obtain rfl := Option.some.inj h
      refine g_lv [1, 0] (lv' := [(0, .int x0), (3, .int v1)]) rfl ?_
      exact Kv2
  clear h
  have h := hv1
  clear hv1
  refine b_icmp_ge (pc := 3) 12 C dX1_warmed_3 (by decide) h (fun _ h => ?_) (fun _ h => ?_)
  · refine g_bipush (pc := 12) (v := 9) C dX1_warmed_12 (by decide) ?_
    obtain rfl := Option.some.inj h
    refine g_lv [0, 1, 2] (lv' := [(0, .int x0), (1, .int x1), (2, .int x2)]) rfl ?_
    exact Kv1
  · refine g_iload_n (pc := 6) C dX1_warmed_6 1 rfl ?_
    refine g_iconst (pc := 7) (v := 1) C dX1_warmed_7 (by decide) ?_
    refine g_iadd (pc := 8) C dX1_warmed_8 ?_
    refine g_goto (pc := 9) 14 C dX1_warmed_9 (by decide) ?_
    obtain rfl := Option.some.inj h
    refine g_lv [0, 1, 2] (lv' := [(0, .int x0), (1, .int x1), (2, .int x2)]) rfl ?_
    exact Kv1
theorem dX1_setLiked_0 : decode cX1_setLiked 0 = .ok (.aload_n 0, 1) := by decide +kernel
theorem dX1_setLiked_1 : decode cX1_setLiked 1 = .ok (.getfield 34, 3) := by decide +kernel
theorem dX1_setLiked_4 : decode cX1_setLiked 4 = .ok (.iload_n 1, 1) := by decide +kernel
theorem dX1_setLiked_5 : decode cX1_setLiked 5 = .ok (.bipush 6, 2) := by decide +kernel
theorem dX1_setLiked_7 : decode cX1_setLiked 7 = .ok (.imul, 1) := by decide +kernel
theorem dX1_setLiked_8 : decode cX1_setLiked 8 = .ok (.iload_n 2, 1) := by decide +kernel
theorem dX1_setLiked_9 : decode cX1_setLiked 9 = .ok (.iadd, 1) := by decide +kernel
theorem dX1_setLiked_10 : decode cX1_setLiked 10 = .ok (.iload_n 3, 1) := by decide +kernel
theorem dX1_setLiked_11 : decode cX1_setLiked 11 = .ok (.iastore, 1) := by decide +kernel
theorem dX1_setLiked_12 : decode cX1_setLiked 12 = .ok (.return_, 1) := by decide +kernel
def f_X1_setLiked (r_t_likings : (Nat → Int32)) (x1 : Int32) (x2 : Int32) (x3 : Int32) : Option ((Nat → Int32)) :=
  if inb ((x1 * 6) + x2) 24 then
    (some (upd r_t_likings (ix ((x1 * 6) + x2)) x3))
  else none
abbrev rm_X1_setLiked : Room := { frames := 0, cells := 0, slots := 0, locals := 0 }
set_option maxHeartbeats 4000000 in
set_option maxRecDepth 100000 in
theorem k_X1_setLiked (E : Ev) (a_t a_t_likings a_t_lists a_t_kindOf a_t_goes a_t_comes : Nat) (c_t_houses : Int32) (c_t_comers : Int32) (c_t_evening : Int32) (r_t_likings : (Nat → Int32)) (x1 : Int32) (x2 : Int32) (x3 : Int32) (v : (Nat → Int32)) (h : f_X1_setLiked r_t_likings x1 x2 x3 = some v) : Mt E yX1_setLiked cX1_setLiked 4 none rm_X1_setLiked [.ref a_t, .int x1, .int x2, .int x3] [oX1 a_t c_t_houses c_t_comers c_t_evening a_t_lists a_t_kindOf a_t_goes a_t_comes a_t_likings, aI E a_t_likings 24 r_t_likings] [oX1 a_t c_t_houses c_t_comers c_t_evening a_t_lists a_t_kindOf a_t_goes a_t_comes a_t_likings, aI E a_t_likings 24 v] none := by
  refine Mt.intro (lv := [(0, .ref a_t), (1, .int x1), (2, .int x2), (3, .int x3)]) (by decide +kernel) (Nat.le_of_ble_eq_true rfl) rfl (fun X C K => ?_)
  have C : CX E X cX1_setLiked RX1 4 rm_X1_setLiked := C
  rw [f_X1_setLiked] at h
  refine g_aload_n (pc := 0) C dX1_setLiked_0 0 rfl ?_
  refine g_get (pc := 1) 0 C fl_X1_34 rfl rfl dX1_setLiked_1 ?_
  refine g_iload_n (pc := 4) C dX1_setLiked_4 1 rfl ?_
  refine g_bipush (pc := 5) (v := 6) C dX1_setLiked_5 (by decide) ?_
  refine g_imul (pc := 7) C dX1_setLiked_7 ?_
  refine g_iload_n (pc := 8) C dX1_setLiked_8 2 rfl ?_
  refine g_iadd (pc := 9) C dX1_setLiked_9 ?_
  refine g_iload_n (pc := 10) C dX1_setLiked_10 3 rfl ?_
  refine b_iast (pc := 11) (ws' := [oX1 a_t c_t_houses c_t_comers c_t_evening a_t_lists a_t_kindOf a_t_goes a_t_comes a_t_likings, aI E a_t_likings 24 (upd r_t_likings (ix ((x1 * 6) + x2)) x3)]) 1 C rfl rfl dX1_setLiked_11 h (fun _ h => ?_)
  obtain rfl := Option.some.inj h
  exact g_vret (pc := 12) C K dX1_setLiked_12
theorem dX1_warm_0 : decode cX1_warm 0 = .ok (.iload_n 2, 1) := by decide +kernel
theorem dX1_warm_1 : decode cX1_warm 1 = .ok (.invokestatic 51, 3) := by decide +kernel
theorem dX1_warm_4 : decode cX1_warm 4 = .ok (.istore_n 3, 1) := by decide +kernel
theorem dX1_warm_5 : decode cX1_warm 5 = .ok (.iconst 0, 1) := by decide +kernel
theorem dX1_warm_6 : decode cX1_warm 6 = .ok (.istore 4, 2) := by decide +kernel
theorem dX1_warm_8 : decode cX1_warm 8 = .ok (.iload 4, 2) := by decide +kernel
theorem dX1_warm_10 : decode cX1_warm 10 = .ok (.aload_n 0, 1) := by decide +kernel
theorem dX1_warm_11 : decode cX1_warm 11 = .ok (.getfield 15, 3) := by decide +kernel
theorem dX1_warm_14 : decode cX1_warm 14 = .ok (.if_icmp .ge 44, 3) := by decide +kernel
theorem dX1_warm_17 : decode cX1_warm 17 = .ok (.iload_n 2, 1) := by decide +kernel
theorem dX1_warm_18 : decode cX1_warm 18 = .ok (.iload 4, 2) := by decide +kernel
theorem dX1_warm_20 : decode cX1_warm 20 = .ok (.ishr, 1) := by decide +kernel
theorem dX1_warm_21 : decode cX1_warm 21 = .ok (.iconst 1, 1) := by decide +kernel
theorem dX1_warm_22 : decode cX1_warm 22 = .ok (.iand, 1) := by decide +kernel
theorem dX1_warm_23 : decode cX1_warm 23 = .ok (.iconst 1, 1) := by decide +kernel
theorem dX1_warm_24 : decode cX1_warm 24 = .ok (.if_icmp .ne 28, 3) := by decide +kernel
theorem dX1_warm_27 : decode cX1_warm 27 = .ok (.aload_n 0, 1) := by decide +kernel
theorem dX1_warm_28 : decode cX1_warm 28 = .ok (.iload_n 1, 1) := by decide +kernel
theorem dX1_warm_29 : decode cX1_warm 29 = .ok (.iload 4, 2) := by decide +kernel
theorem dX1_warm_31 : decode cX1_warm 31 = .ok (.aload_n 0, 1) := by decide +kernel
theorem dX1_warm_32 : decode cX1_warm 32 = .ok (.getfield 25, 3) := by decide +kernel
theorem dX1_warm_35 : decode cX1_warm 35 = .ok (.iload 4, 2) := by decide +kernel
theorem dX1_warm_37 : decode cX1_warm 37 = .ok (.iaload, 1) := by decide +kernel
theorem dX1_warm_38 : decode cX1_warm 38 = .ok (.aload_n 0, 1) := by decide +kernel
theorem dX1_warm_39 : decode cX1_warm 39 = .ok (.iload_n 1, 1) := by decide +kernel
theorem dX1_warm_40 : decode cX1_warm 40 = .ok (.iload 4, 2) := by decide +kernel
theorem dX1_warm_42 : decode cX1_warm 42 = .ok (.invokevirtual 60, 3) := by decide +kernel
theorem dX1_warm_45 : decode cX1_warm 45 = .ok (.iload_n 3, 1) := by decide +kernel
theorem dX1_warm_46 : decode cX1_warm 46 = .ok (.invokestatic 64, 3) := by decide +kernel
theorem dX1_warm_49 : decode cX1_warm 49 = .ok (.invokevirtual 68, 3) := by decide +kernel
theorem dX1_warm_52 : decode cX1_warm 52 = .ok (.iinc 4 1, 3) := by decide +kernel
theorem dX1_warm_55 : decode cX1_warm 55 = .ok (.goto (-47), 3) := by decide +kernel
theorem dX1_warm_58 : decode cX1_warm 58 = .ok (.return_, 1) := by decide +kernel
def L_X1_warm_8 (c_t_comers : Int32) (r_t_kindOf : (Nat → Int32)) (x1 : Int32) (x2 : Int32) (v1 : (Int32)) : Nat → Int32 → (Nat → Int32) → Option ((Nat → Int32))
  | 0, _, _ => none
  | n + 1, y2, y3 =>
    if c_t_comers ≤ y2 then
      (some y3)
    else
      (if ((x2 >>> (y2 &&& 31)) &&& 1) = 1 then
        (if inb y2 6 then
          ((f_X1_liked y3 x1 y2).bind (fun (v4 : Int32) =>
            (f_X1_warmed (r_t_kindOf (ix y2)) v4 v1).bind (fun (v5 : Int32) =>
              (f_X1_setLiked y3 x1 y2 v5).bind (fun (v6 : (Nat → Int32)) =>
                L_X1_warm_8 c_t_comers r_t_kindOf x1 x2 v1 n (y2 + 1) v6))))
        else none)
      else
        (L_X1_warm_8 c_t_comers r_t_kindOf x1 x2 v1 n (y2 + 1) y3))
def f_X1_warm (c_t_comers : Int32) (r_t_kindOf : (Nat → Int32)) (r_t_likings : (Nat → Int32)) (x1 : Int32) (x2 : Int32) : Option ((Nat → Int32)) :=
  (f_J6_bitCount_0f7a4 x2).bind (fun (v1 : Int32) =>
    (L_X1_warm_8 c_t_comers r_t_kindOf x1 x2 v1 400 0 r_t_likings).bind (fun (v8 : (Nat → Int32)) =>
      some v8))
abbrev rm_X1_warm : Room := { frames := 1, cells := 0, slots := 0, locals := 24 }
set_option maxHeartbeats 4000000 in
set_option maxRecDepth 100000 in
theorem lp_X1_warm_8 {E : Ev} {X : Cx} {a_t a_t_kindOf a_t_likings a_t_lists a_t_goes a_t_comes : Nat} (c_t_houses : Int32) (c_t_comers : Int32) (c_t_evening : Int32) (r_t_kindOf : (Nat → Int32)) (x1 : Int32) (x2 : Int32) (v1 : (Int32)) (C : CX E X cX1_warm RX1 5 rm_X1_warm) : ∀ (n : Nat) (y2 : Int32) (y3 : (Nat → Int32)) (v : (Nat → Int32)), L_X1_warm_8 c_t_comers r_t_kindOf x1 x2 v1 n y2 y3 = some v → G E X 0 0 [oX1 a_t c_t_houses c_t_comers c_t_evening a_t_lists a_t_kindOf a_t_goes a_t_comes a_t_likings, aI E a_t_kindOf 6 r_t_kindOf, aI E a_t_likings 24 v] [] 58 [] → G E X 0 0 [oX1 a_t c_t_houses c_t_comers c_t_evening a_t_lists a_t_kindOf a_t_goes a_t_comes a_t_likings, aI E a_t_kindOf 6 r_t_kindOf, aI E a_t_likings 24 y3] [(0, .ref a_t), (1, .int x1), (2, .int x2), (3, .int v1), (4, .int y2)] 8 [] := by
  intro n
  induction n with
  | zero => intro _ _ _ h; cases h
  | succ n ih =>
    intro y2 y3 v h kk
    rw [L_X1_warm_8] at h
    refine g_iload (pc := 8) C dX1_warm_8 4 rfl ?_
    refine g_aload_n (pc := 10) C dX1_warm_10 0 rfl ?_
    refine g_get (pc := 11) 0 C fl_X1_15 rfl rfl dX1_warm_11 ?_
    refine b_icmp_ge (pc := 14) 58 C dX1_warm_14 (by decide) h (fun _ h => ?_) (fun _ h => ?_)
    · obtain rfl := Option.some.inj h
      refine g_lv [] (lv' := []) rfl ?_
      exact kk
    · refine g_iload_n (pc := 17) C dX1_warm_17 2 rfl ?_
      refine g_iload (pc := 18) C dX1_warm_18 4 rfl ?_
      refine g_ishr (pc := 20) C dX1_warm_20 ?_
      refine g_iconst (pc := 21) (v := 1) C dX1_warm_21 (by decide) ?_
      refine g_iand (pc := 22) C dX1_warm_22 ?_
      refine g_iconst (pc := 23) (v := 1) C dX1_warm_23 (by decide) ?_
      refine b_icmp_ne (pc := 24) 52 C dX1_warm_24 (by decide) h (fun _ h => ?_) (fun _ h => ?_)
      · refine g_iinc (pc := 52) (v := y2 + 1) (lv' := [(4, .int (y2 + 1)), (0, .ref a_t), (1, .int x1), (2, .int x2), (3, .int v1)]) C dX1_warm_52 4 rfl rfl (by decide) rfl ?_
        refine g_goto (pc := 55) 8 C dX1_warm_55 (by decide) ?_
        refine g_lv [1, 2, 3, 4, 0] (lv' := [(0, .ref a_t), (1, .int x1), (2, .int x2), (3, .int v1), (4, .int (y2 + 1))]) rfl ?_
        exact ih _ _ _ h kk
      · refine g_aload_n (pc := 27) C dX1_warm_27 0 rfl ?_
        refine g_iload_n (pc := 28) C dX1_warm_28 1 rfl ?_
        refine g_iload (pc := 29) C dX1_warm_29 4 rfl ?_
        refine g_aload_n (pc := 31) C dX1_warm_31 0 rfl ?_
        refine g_get (pc := 32) 0 C fl_X1_25 rfl rfl dX1_warm_32 ?_
        refine g_iload (pc := 35) C dX1_warm_35 4 rfl ?_
        refine b_iald (pc := 37) 1 C rfl dX1_warm_37 h (fun _ h => ?_)
        refine g_aload_n (pc := 38) C dX1_warm_38 0 rfl ?_
        refine g_iload_n (pc := 39) C dX1_warm_39 1 rfl ?_
        refine g_iload (pc := 40) C dX1_warm_40 4 rfl ?_
        obtain ⟨v4, hv4, h⟩ := o_bnd h
        refine g_callV (pc := 42) (ws' := [oX1 a_t c_t_houses c_t_comers c_t_evening a_t_lists a_t_kindOf a_t_goes a_t_comes a_t_likings, aI E a_t_kindOf 6 r_t_kindOf, aI E a_t_likings 24 y3]) (st1 := [.int v4, .int (r_t_kindOf (ix y2)), .int y2, .int x1, .ref a_t]) C mv_X1_60 (k_X1_liked E a_t a_t_likings a_t_lists a_t_kindOf a_t_goes a_t_comes c_t_houses c_t_comers c_t_evening y3 x1 y2 v4 hv4) [0, 2] rfl (by decide +kernel) rfl [some 0, none, some 1] 3 (by decide +kernel) rfl rfl 0 rfl rfl ⟨by decide, by decide⟩ ⟨rfl, rfl⟩ ⟨Nat.zero_le _, Nat.zero_le _⟩ rfl rfl rfl (Nat.le_of_ble_eq_true rfl) dX1_warm_42 ?_
        refine g_iload_n (pc := 45) C dX1_warm_45 3 rfl ?_
        obtain ⟨v5, hv5, h⟩ := o_bnd h
        refine g_callS (pc := 46) (ws' := [oX1 a_t c_t_houses c_t_comers c_t_evening a_t_lists a_t_kindOf a_t_goes a_t_comes a_t_likings, aI E a_t_kindOf 6 r_t_kindOf, aI E a_t_likings 24 y3]) (st1 := [.int v5, .int y2, .int x1, .ref a_t]) C ms_X1_64 (k_X1_warmed E (r_t_kindOf (ix y2)) v4 v1 v5 hv5) [] rfl (by decide +kernel) rfl [none, none, none] 3 (by decide +kernel) rfl rfl ⟨by decide, by decide⟩ ⟨rfl, rfl⟩ ⟨Nat.zero_le _, Nat.zero_le _⟩ rfl rfl rfl (Nat.le_of_ble_eq_true rfl) dX1_warm_46 ?_
        obtain ⟨v6, hv6, h⟩ := o_bnd h
        refine g_callV (pc := 49) (ws' := [oX1 a_t c_t_houses c_t_comers c_t_evening a_t_lists a_t_kindOf a_t_goes a_t_comes a_t_likings, aI E a_t_kindOf 6 r_t_kindOf, aI E a_t_likings 24 v6]) (st1 := []) C mv_X1_68 (k_X1_setLiked E a_t a_t_likings a_t_lists a_t_kindOf a_t_goes a_t_comes c_t_houses c_t_comers c_t_evening y3 x1 y2 v5 v6 hv6) [0, 2] rfl (by decide +kernel) rfl [some 0, none, some 1] 3 (by decide +kernel) rfl rfl 0 rfl rfl ⟨by decide, by decide⟩ ⟨rfl, rfl⟩ ⟨Nat.zero_le _, Nat.zero_le _⟩ rfl rfl rfl (Nat.le_of_ble_eq_true rfl) dX1_warm_49 ?_
        refine g_iinc (pc := 52) (v := y2 + 1) (lv' := [(4, .int (y2 + 1)), (0, .ref a_t), (1, .int x1), (2, .int x2), (3, .int v1)]) C dX1_warm_52 4 rfl rfl (by decide) rfl ?_
        refine g_goto (pc := 55) 8 C dX1_warm_55 (by decide) ?_
        refine g_lv [1, 2, 3, 4, 0] (lv' := [(0, .ref a_t), (1, .int x1), (2, .int x2), (3, .int v1), (4, .int (y2 + 1))]) rfl ?_
        exact ih _ _ _ h kk
set_option maxHeartbeats 4000000 in
set_option maxRecDepth 100000 in
theorem k_X1_warm (E : Ev) (a_t a_t_kindOf a_t_likings a_t_lists a_t_goes a_t_comes : Nat) (c_t_houses : Int32) (c_t_comers : Int32) (c_t_evening : Int32) (r_t_kindOf : (Nat → Int32)) (r_t_likings : (Nat → Int32)) (x1 : Int32) (x2 : Int32) (v : (Nat → Int32)) (h : f_X1_warm c_t_comers r_t_kindOf r_t_likings x1 x2 = some v) : Mt E yX1_warm cX1_warm 5 none rm_X1_warm [.ref a_t, .int x1, .int x2] [oX1 a_t c_t_houses c_t_comers c_t_evening a_t_lists a_t_kindOf a_t_goes a_t_comes a_t_likings, aI E a_t_kindOf 6 r_t_kindOf, aI E a_t_likings 24 r_t_likings] [oX1 a_t c_t_houses c_t_comers c_t_evening a_t_lists a_t_kindOf a_t_goes a_t_comes a_t_likings, aI E a_t_kindOf 6 r_t_kindOf, aI E a_t_likings 24 v] none := by
  refine Mt.intro (lv := [(0, .ref a_t), (1, .int x1), (2, .int x2)]) (by decide +kernel) (Nat.le_of_ble_eq_true rfl) rfl (fun X C K => ?_)
  have C : CX E X cX1_warm RX1 5 rm_X1_warm := C
  rw [f_X1_warm] at h
  refine g_iload_n (pc := 0) C dX1_warm_0 2 rfl ?_
  obtain ⟨v1, hv1, h⟩ := o_bnd h
  refine g_callS (pc := 1) (ws' := [oX1 a_t c_t_houses c_t_comers c_t_evening a_t_lists a_t_kindOf a_t_goes a_t_comes a_t_likings, aI E a_t_kindOf 6 r_t_kindOf, aI E a_t_likings 24 r_t_likings]) (st1 := [.int v1]) C ms_X1_51 (k_J6_bitCount_0f7a4 E x2 v1 hv1) [] rfl (by decide +kernel) rfl [none, none, none] 3 (by decide +kernel) rfl rfl ⟨by decide, by decide⟩ ⟨rfl, rfl⟩ ⟨Nat.zero_le _, Nat.zero_le _⟩ rfl rfl rfl (Nat.le_of_ble_eq_true rfl) dX1_warm_1 ?_
  refine g_istore_n (pc := 4) (lv' := [(3, .int v1), (0, .ref a_t), (1, .int x1), (2, .int x2)]) C dX1_warm_4 (by decide) rfl ?_
  refine g_iconst (pc := 5) (v := 0) C dX1_warm_5 (by decide) ?_
  refine g_istore (pc := 6) (lv' := [(4, .int 0), (3, .int v1), (0, .ref a_t), (1, .int x1), (2, .int x2)]) C dX1_warm_6 (by decide) rfl ?_
  obtain ⟨v8, hv8, h⟩ := o_bnd h
  refine g_lv [2, 3, 4, 1, 0] (lv' := [(0, .ref a_t), (1, .int x1), (2, .int x2), (3, .int v1), (4, .int 0)]) rfl ?_
  refine lp_X1_warm_8 c_t_houses c_t_comers c_t_evening r_t_kindOf x1 x2 v1 C 400 _ _ _ hv8 ?_
  obtain rfl := Option.some.inj h
  exact g_vret (pc := 58) C K dX1_warm_58
theorem dX1_setOnList_0 : decode cX1_setOnList 0 = .ok (.aload_n 0, 1) := by decide +kernel
theorem dX1_setOnList_1 : decode cX1_setOnList 1 = .ok (.getfield 21, 3) := by decide +kernel
theorem dX1_setOnList_4 : decode cX1_setOnList 4 = .ok (.iload_n 1, 1) := by decide +kernel
theorem dX1_setOnList_5 : decode cX1_setOnList 5 = .ok (.iload_n 3, 1) := by decide +kernel
theorem dX1_setOnList_6 : decode cX1_setOnList 6 = .ok (.ifCond .eq 16, 3) := by decide +kernel
theorem dX1_setOnList_9 : decode cX1_setOnList 9 = .ok (.aload_n 0, 1) := by decide +kernel
theorem dX1_setOnList_10 : decode cX1_setOnList 10 = .ok (.getfield 21, 3) := by decide +kernel
theorem dX1_setOnList_13 : decode cX1_setOnList 13 = .ok (.iload_n 1, 1) := by decide +kernel
theorem dX1_setOnList_14 : decode cX1_setOnList 14 = .ok (.iaload, 1) := by decide +kernel
theorem dX1_setOnList_15 : decode cX1_setOnList 15 = .ok (.iconst 1, 1) := by decide +kernel
theorem dX1_setOnList_16 : decode cX1_setOnList 16 = .ok (.iload_n 2, 1) := by decide +kernel
theorem dX1_setOnList_17 : decode cX1_setOnList 17 = .ok (.ishl, 1) := by decide +kernel
theorem dX1_setOnList_18 : decode cX1_setOnList 18 = .ok (.ior, 1) := by decide +kernel
theorem dX1_setOnList_19 : decode cX1_setOnList 19 = .ok (.goto 15, 3) := by decide +kernel
theorem dX1_setOnList_22 : decode cX1_setOnList 22 = .ok (.aload_n 0, 1) := by decide +kernel
theorem dX1_setOnList_23 : decode cX1_setOnList 23 = .ok (.getfield 21, 3) := by decide +kernel
theorem dX1_setOnList_26 : decode cX1_setOnList 26 = .ok (.iload_n 1, 1) := by decide +kernel
theorem dX1_setOnList_27 : decode cX1_setOnList 27 = .ok (.iaload, 1) := by decide +kernel
theorem dX1_setOnList_28 : decode cX1_setOnList 28 = .ok (.iconst 1, 1) := by decide +kernel
theorem dX1_setOnList_29 : decode cX1_setOnList 29 = .ok (.iload_n 2, 1) := by decide +kernel
theorem dX1_setOnList_30 : decode cX1_setOnList 30 = .ok (.ishl, 1) := by decide +kernel
theorem dX1_setOnList_31 : decode cX1_setOnList 31 = .ok (.iconst (-1), 1) := by decide +kernel
theorem dX1_setOnList_32 : decode cX1_setOnList 32 = .ok (.ixor, 1) := by decide +kernel
theorem dX1_setOnList_33 : decode cX1_setOnList 33 = .ok (.iand, 1) := by decide +kernel
theorem dX1_setOnList_34 : decode cX1_setOnList 34 = .ok (.iastore, 1) := by decide +kernel
theorem dX1_setOnList_35 : decode cX1_setOnList 35 = .ok (.return_, 1) := by decide +kernel
def f_X1_setOnList (r_t_lists : (Nat → Int32)) (x1 : Int32) (x2 : Int32) (x3 : Int32) : Option ((Nat → Int32)) :=
  (if x3 = 0 then
    (if inb x1 4 then
      (some ((r_t_lists (ix x1)) &&& (((1 : Int32) <<< (x2 &&& 31)) ^^^ ((-1)))))
    else none)
  else
    (if inb x1 4 then
      (some ((r_t_lists (ix x1)) ||| ((1 : Int32) <<< (x2 &&& 31))))
    else none)).bind (fun (v1 : Int32) =>
    if inb x1 4 then
      (some (upd r_t_lists (ix x1) v1))
    else none)
abbrev rm_X1_setOnList : Room := { frames := 0, cells := 0, slots := 0, locals := 0 }
set_option maxHeartbeats 4000000 in
set_option maxRecDepth 100000 in
theorem k_X1_setOnList (E : Ev) (a_t a_t_lists a_t_kindOf a_t_goes a_t_comes a_t_likings : Nat) (c_t_houses : Int32) (c_t_comers : Int32) (c_t_evening : Int32) (r_t_lists : (Nat → Int32)) (x1 : Int32) (x2 : Int32) (x3 : Int32) (v : (Nat → Int32)) (h : f_X1_setOnList r_t_lists x1 x2 x3 = some v) : Mt E yX1_setOnList cX1_setOnList 4 none rm_X1_setOnList [.ref a_t, .int x1, .int x2, .int x3] [oX1 a_t c_t_houses c_t_comers c_t_evening a_t_lists a_t_kindOf a_t_goes a_t_comes a_t_likings, aI E a_t_lists 4 r_t_lists] [oX1 a_t c_t_houses c_t_comers c_t_evening a_t_lists a_t_kindOf a_t_goes a_t_comes a_t_likings, aI E a_t_lists 4 v] none := by
  refine Mt.intro (lv := [(0, .ref a_t), (1, .int x1), (2, .int x2), (3, .int x3)]) (by decide +kernel) (Nat.le_of_ble_eq_true rfl) rfl (fun X C K => ?_)
  have C : CX E X cX1_setOnList RX1 4 rm_X1_setOnList := C
  rw [f_X1_setOnList] at h
  refine g_aload_n (pc := 0) C dX1_setOnList_0 0 rfl ?_
  refine g_get (pc := 1) 0 C fl_X1_21 rfl rfl dX1_setOnList_1 ?_
  refine g_iload_n (pc := 4) C dX1_setOnList_4 1 rfl ?_
  refine g_iload_n (pc := 5) C dX1_setOnList_5 3 rfl ?_
  obtain ⟨v1, hv1, h⟩ := o_bnd h
  have Kv1 : G E X 0 0 [oX1 a_t c_t_houses c_t_comers c_t_evening a_t_lists a_t_kindOf a_t_goes a_t_comes a_t_likings, aI E a_t_lists 4 r_t_lists] [] 34 [.int v1, .int x1, .ref a_t_lists] := by
    refine b_iast (pc := 34) (ws' := [oX1 a_t c_t_houses c_t_comers c_t_evening a_t_lists a_t_kindOf a_t_goes a_t_comes a_t_likings, aI E a_t_lists 4 (upd r_t_lists (ix x1) v1)]) 1 C rfl rfl dX1_setOnList_34 h (fun _ h => ?_)
    obtain rfl := Option.some.inj h
    exact g_vret (pc := 35) C K dX1_setOnList_35
  clear h
  have h := hv1
  clear hv1
  refine b_if_eq (pc := 6) 22 C dX1_setOnList_6 (by decide) h (fun _ h => ?_) (fun _ h => ?_)
  · refine g_aload_n (pc := 22) C dX1_setOnList_22 0 rfl ?_
    refine g_get (pc := 23) 0 C fl_X1_21 rfl rfl dX1_setOnList_23 ?_
    refine g_iload_n (pc := 26) C dX1_setOnList_26 1 rfl ?_
    refine b_iald (pc := 27) 1 C rfl dX1_setOnList_27 h (fun _ h => ?_)
    refine g_iconst (pc := 28) (v := 1) C dX1_setOnList_28 (by decide) ?_
    refine g_iload_n (pc := 29) C dX1_setOnList_29 2 rfl ?_
    refine g_ishl (pc := 30) C dX1_setOnList_30 ?_
    refine g_iconst (pc := 31) (v := (-1)) C dX1_setOnList_31 (by decide) ?_
    refine g_ixor (pc := 32) C dX1_setOnList_32 ?_
    refine g_iand (pc := 33) C dX1_setOnList_33 ?_
    obtain rfl := Option.some.inj h
    refine g_lv [] (lv' := []) rfl ?_
    exact Kv1
  · refine g_aload_n (pc := 9) C dX1_setOnList_9 0 rfl ?_
    refine g_get (pc := 10) 0 C fl_X1_21 rfl rfl dX1_setOnList_10 ?_
    refine g_iload_n (pc := 13) C dX1_setOnList_13 1 rfl ?_
    refine b_iald (pc := 14) 1 C rfl dX1_setOnList_14 h (fun _ h => ?_)
    refine g_iconst (pc := 15) (v := 1) C dX1_setOnList_15 (by decide) ?_
    refine g_iload_n (pc := 16) C dX1_setOnList_16 2 rfl ?_
    refine g_ishl (pc := 17) C dX1_setOnList_17 ?_
    refine g_ior (pc := 18) C dX1_setOnList_18 ?_
    refine g_goto (pc := 19) 34 C dX1_setOnList_19 (by decide) ?_
    obtain rfl := Option.some.inj h
    refine g_lv [] (lv' := []) rfl ?_
    exact Kv1
theorem dX1_clear_0 : decode cX1_clear 0 = .ok (.aload_n 0, 1) := by decide +kernel
theorem dX1_clear_1 : decode cX1_clear 1 = .ok (.iconst 0, 1) := by decide +kernel
theorem dX1_clear_2 : decode cX1_clear 2 = .ok (.putfield 9, 3) := by decide +kernel
theorem dX1_clear_5 : decode cX1_clear 5 = .ok (.aload_n 0, 1) := by decide +kernel
theorem dX1_clear_6 : decode cX1_clear 6 = .ok (.iconst 0, 1) := by decide +kernel
theorem dX1_clear_7 : decode cX1_clear 7 = .ok (.putfield 15, 3) := by decide +kernel
theorem dX1_clear_10 : decode cX1_clear 10 = .ok (.aload_n 0, 1) := by decide +kernel
theorem dX1_clear_11 : decode cX1_clear 11 = .ok (.iconst 0, 1) := by decide +kernel
theorem dX1_clear_12 : decode cX1_clear 12 = .ok (.putfield 18, 3) := by decide +kernel
theorem dX1_clear_15 : decode cX1_clear 15 = .ok (.return_, 1) := by decide +kernel
def f_X1_clear (c_t_houses : Int32) (c_t_comers : Int32) (c_t_evening : Int32) : Option (Int32 × Int32 × Int32) :=
  some ((0, 0, 0))
abbrev rm_X1_clear : Room := { frames := 0, cells := 0, slots := 0, locals := 0 }
set_option maxHeartbeats 4000000 in
set_option maxRecDepth 100000 in
theorem k_X1_clear (E : Ev) (a_t a_t_lists a_t_kindOf a_t_goes a_t_comes a_t_likings : Nat) (c_t_houses : Int32) (c_t_comers : Int32) (c_t_evening : Int32) (v : Int32 × Int32 × Int32) (h : f_X1_clear c_t_houses c_t_comers c_t_evening = some v) : Mt E yX1_clear cX1_clear 1 none rm_X1_clear [.ref a_t] [oX1 a_t c_t_houses c_t_comers c_t_evening a_t_lists a_t_kindOf a_t_goes a_t_comes a_t_likings] [oX1 a_t v.1 v.2.1 v.2.2 a_t_lists a_t_kindOf a_t_goes a_t_comes a_t_likings] none := by
  refine Mt.intro (lv := [(0, .ref a_t)]) (by decide +kernel) (Nat.le_of_ble_eq_true rfl) rfl (fun X C K => ?_)
  have C : CX E X cX1_clear RX1 1 rm_X1_clear := C
  rw [f_X1_clear] at h
  refine g_aload_n (pc := 0) C dX1_clear_0 0 rfl ?_
  refine g_iconst (pc := 1) (v := 0) C dX1_clear_1 (by decide) ?_
  refine g_put (pc := 2) (ws' := [oX1 a_t 0 c_t_comers c_t_evening a_t_lists a_t_kindOf a_t_goes a_t_comes a_t_likings]) 0 C fp_X1_9 rfl rfl rfl (Nat.le_of_ble_eq_true rfl) rfl dX1_clear_2 ?_
  refine g_aload_n (pc := 5) C dX1_clear_5 0 rfl ?_
  refine g_iconst (pc := 6) (v := 0) C dX1_clear_6 (by decide) ?_
  refine g_put (pc := 7) (ws' := [oX1 a_t 0 0 c_t_evening a_t_lists a_t_kindOf a_t_goes a_t_comes a_t_likings]) 0 C fp_X1_15 rfl rfl rfl (Nat.le_of_ble_eq_true rfl) rfl dX1_clear_7 ?_
  refine g_aload_n (pc := 10) C dX1_clear_10 0 rfl ?_
  refine g_iconst (pc := 11) (v := 0) C dX1_clear_11 (by decide) ?_
  refine g_put (pc := 12) (ws' := [oX1 a_t 0 0 0 a_t_lists a_t_kindOf a_t_goes a_t_comes a_t_likings]) 0 C fp_X1_18 rfl rfl rfl (Nat.le_of_ble_eq_true rfl) rfl dX1_clear_12 ?_
  obtain rfl := Option.some.inj h
  exact g_vret (pc := 15) C K dX1_clear_15
theorem dX1_noDestination_0 : decode cX1_noDestination 0 = .ok (.iload_n 1, 1) := by decide +kernel
theorem dX1_noDestination_1 : decode cX1_noDestination 1 = .ok (.bipush 9, 2) := by decide +kernel
theorem dX1_noDestination_3 : decode cX1_noDestination 3 = .ok (.if_icmp .eq 19, 3) := by decide +kernel
theorem dX1_noDestination_6 : decode cX1_noDestination 6 = .ok (.iload_n 1, 1) := by decide +kernel
theorem dX1_noDestination_7 : decode cX1_noDestination 7 = .ok (.ifCond .lt 11, 3) := by decide +kernel
theorem dX1_noDestination_10 : decode cX1_noDestination 10 = .ok (.iload_n 1, 1) := by decide +kernel
theorem dX1_noDestination_11 : decode cX1_noDestination 11 = .ok (.aload_n 0, 1) := by decide +kernel
theorem dX1_noDestination_12 : decode cX1_noDestination 12 = .ok (.getfield 9, 3) := by decide +kernel
theorem dX1_noDestination_15 : decode cX1_noDestination 15 = .ok (.if_icmp .lt 7, 3) := by decide +kernel
theorem dX1_noDestination_18 : decode cX1_noDestination 18 = .ok (.iconst 1, 1) := by decide +kernel
theorem dX1_noDestination_19 : decode cX1_noDestination 19 = .ok (.goto 4, 3) := by decide +kernel
theorem dX1_noDestination_22 : decode cX1_noDestination 22 = .ok (.iconst 0, 1) := by decide +kernel
theorem dX1_noDestination_23 : decode cX1_noDestination 23 = .ok (.ireturn, 1) := by decide +kernel
def f_X1_noDestination (c_t_houses : Int32) (x1 : Int32) : Option (Int32) :=
  if x1 = 9 then
    (some 0)
  else
    (if x1 < 0 then
      (some 1)
    else
      (if x1 < c_t_houses then
        (some 0)
      else
        (some 1)))
abbrev rm_X1_noDestination : Room := { frames := 0, cells := 0, slots := 0, locals := 0 }
set_option maxHeartbeats 4000000 in
set_option maxRecDepth 100000 in
theorem k_X1_noDestination (E : Ev) (a_t a_t_lists a_t_kindOf a_t_goes a_t_comes a_t_likings : Nat) (c_t_houses : Int32) (c_t_comers : Int32) (c_t_evening : Int32) (x1 : Int32) (v : Int32) (h : f_X1_noDestination c_t_houses x1 = some v) : Mt E yX1_noDestination cX1_noDestination 2 (some .boolean) rm_X1_noDestination [.ref a_t, .int x1] [oX1 a_t c_t_houses c_t_comers c_t_evening a_t_lists a_t_kindOf a_t_goes a_t_comes a_t_likings] [oX1 a_t c_t_houses c_t_comers c_t_evening a_t_lists a_t_kindOf a_t_goes a_t_comes a_t_likings] (some (.int v)) := by
  refine Mt.intro (lv := [(0, .ref a_t), (1, .int x1)]) (by decide +kernel) (Nat.le_of_ble_eq_true rfl) rfl (fun X C K => ?_)
  have C : CX E X cX1_noDestination RX1 2 rm_X1_noDestination := C
  rw [f_X1_noDestination] at h
  refine g_iload_n (pc := 0) C dX1_noDestination_0 1 rfl ?_
  refine g_bipush (pc := 1) (v := 9) C dX1_noDestination_1 (by decide) ?_
  refine b_icmp_eq (pc := 3) 22 C dX1_noDestination_3 (by decide) h (fun _ h => ?_) (fun _ h => ?_)
  · refine g_iconst (pc := 22) (v := 0) C dX1_noDestination_22 (by decide) ?_
    obtain rfl := Option.some.inj h
    exact g_zret (pc := 23) C K rfl dX1_noDestination_23
  · refine g_iload_n (pc := 6) C dX1_noDestination_6 1 rfl ?_
    refine b_if_lt (pc := 7) 18 C dX1_noDestination_7 (by decide) h (fun _ h => ?_) (fun _ h => ?_)
    · refine g_iconst (pc := 18) (v := 1) C dX1_noDestination_18 (by decide) ?_
      refine g_goto (pc := 19) 23 C dX1_noDestination_19 (by decide) ?_
      obtain rfl := Option.some.inj h
      exact g_zret (pc := 23) C K rfl dX1_noDestination_23
    · refine g_iload_n (pc := 10) C dX1_noDestination_10 1 rfl ?_
      refine g_aload_n (pc := 11) C dX1_noDestination_11 0 rfl ?_
      refine g_get (pc := 12) 0 C fl_X1_9 rfl rfl dX1_noDestination_12 ?_
      refine b_icmp_lt (pc := 15) 22 C dX1_noDestination_15 (by decide) h (fun _ h => ?_) (fun _ h => ?_)
      · refine g_iconst (pc := 22) (v := 0) C dX1_noDestination_22 (by decide) ?_
        obtain rfl := Option.some.inj h
        exact g_zret (pc := 23) C K rfl dX1_noDestination_23
      · refine g_iconst (pc := 18) (v := 1) C dX1_noDestination_18 (by decide) ?_
        refine g_goto (pc := 19) 23 C dX1_noDestination_19 (by decide) ?_
        obtain rfl := Option.some.inj h
        exact g_zret (pc := 23) C K rfl dX1_noDestination_23
theorem dX1_goersAnywhere_0 : decode cX1_goersAnywhere 0 = .ok (.aload_n 0, 1) := by decide +kernel
theorem dX1_goersAnywhere_1 : decode cX1_goersAnywhere 1 = .ok (.getfield 15, 3) := by decide +kernel
theorem dX1_goersAnywhere_4 : decode cX1_goersAnywhere 4 = .ok (.aload_n 0, 1) := by decide +kernel
theorem dX1_goersAnywhere_5 : decode cX1_goersAnywhere 5 = .ok (.bipush 9, 2) := by decide +kernel
theorem dX1_goersAnywhere_7 : decode cX1_goersAnywhere 7 = .ok (.invokevirtual 47, 3) := by decide +kernel
theorem dX1_goersAnywhere_10 : decode cX1_goersAnywhere 10 = .ok (.invokestatic 51, 3) := by decide +kernel
theorem dX1_goersAnywhere_13 : decode cX1_goersAnywhere 13 = .ok (.isub, 1) := by decide +kernel
theorem dX1_goersAnywhere_14 : decode cX1_goersAnywhere 14 = .ok (.ireturn, 1) := by decide +kernel
def f_X1_goersAnywhere (c_t_comers : Int32) (r_t_goes : (Nat → Int32)) : Option (Int32) :=
  (f_X1_goers c_t_comers r_t_goes 9).bind (fun (v1 : Int32) =>
    (f_J6_bitCount_0f7a4 v1).bind (fun (v2 : Int32) =>
      some (c_t_comers - v2)))
abbrev rm_X1_goersAnywhere : Room := { frames := 1, cells := 0, slots := 0, locals := 23 }
set_option maxHeartbeats 4000000 in
set_option maxRecDepth 100000 in
theorem k_X1_goersAnywhere (E : Ev) (a_t a_t_goes a_t_lists a_t_kindOf a_t_comes a_t_likings : Nat) (c_t_houses : Int32) (c_t_comers : Int32) (c_t_evening : Int32) (r_t_goes : (Nat → Int32)) (v : Int32) (h : f_X1_goersAnywhere c_t_comers r_t_goes = some v) : Mt E yX1_goersAnywhere cX1_goersAnywhere 1 (some .int) rm_X1_goersAnywhere [.ref a_t] [oX1 a_t c_t_houses c_t_comers c_t_evening a_t_lists a_t_kindOf a_t_goes a_t_comes a_t_likings, aI E a_t_goes 6 r_t_goes] [oX1 a_t c_t_houses c_t_comers c_t_evening a_t_lists a_t_kindOf a_t_goes a_t_comes a_t_likings, aI E a_t_goes 6 r_t_goes] (some (.int v)) := by
  refine Mt.intro (lv := [(0, .ref a_t)]) (by decide +kernel) (Nat.le_of_ble_eq_true rfl) rfl (fun X C K => ?_)
  have C : CX E X cX1_goersAnywhere RX1 1 rm_X1_goersAnywhere := C
  rw [f_X1_goersAnywhere] at h
  refine g_aload_n (pc := 0) C dX1_goersAnywhere_0 0 rfl ?_
  refine g_get (pc := 1) 0 C fl_X1_15 rfl rfl dX1_goersAnywhere_1 ?_
  refine g_aload_n (pc := 4) C dX1_goersAnywhere_4 0 rfl ?_
  refine g_bipush (pc := 5) (v := 9) C dX1_goersAnywhere_5 (by decide) ?_
  obtain ⟨v1, hv1, h⟩ := o_bnd h
  refine g_callV (pc := 7) (ws' := [oX1 a_t c_t_houses c_t_comers c_t_evening a_t_lists a_t_kindOf a_t_goes a_t_comes a_t_likings, aI E a_t_goes 6 r_t_goes]) (st1 := [.int v1, .int c_t_comers]) C mv_X1_47 (k_X1_goers E a_t a_t_goes a_t_lists a_t_kindOf a_t_comes a_t_likings c_t_houses c_t_comers c_t_evening r_t_goes 9 v1 hv1) [0, 1] rfl (by decide +kernel) rfl [some 0, some 1] 2 (by decide +kernel) rfl rfl 0 rfl rfl ⟨by decide, by decide⟩ ⟨rfl, rfl⟩ ⟨Nat.zero_le _, Nat.zero_le _⟩ rfl rfl rfl (Nat.le_of_ble_eq_true rfl) dX1_goersAnywhere_7 ?_
  obtain ⟨v2, hv2, h⟩ := o_bnd h
  refine g_callS (pc := 10) (ws' := [oX1 a_t c_t_houses c_t_comers c_t_evening a_t_lists a_t_kindOf a_t_goes a_t_comes a_t_likings, aI E a_t_goes 6 r_t_goes]) (st1 := [.int v2, .int c_t_comers]) C ms_X1_51 (k_J6_bitCount_0f7a4 E v1 v2 hv2) [] rfl (by decide +kernel) rfl [none, none] 2 (by decide +kernel) rfl rfl ⟨by decide, by decide⟩ ⟨rfl, rfl⟩ ⟨Nat.zero_le _, Nat.zero_le _⟩ rfl rfl rfl (Nat.le_of_ble_eq_true rfl) dX1_goersAnywhere_10 ?_
  refine g_isub (pc := 13) C dX1_goersAnywhere_13 ?_
  obtain rfl := Option.some.inj h
  exact g_iret (pc := 14) C K dX1_goersAnywhere_14
theorem dX1_invitations_0 : decode cX1_invitations 0 = .ok (.iconst 0, 1) := by decide +kernel
theorem dX1_invitations_1 : decode cX1_invitations 1 = .ok (.istore_n 1, 1) := by decide +kernel
theorem dX1_invitations_2 : decode cX1_invitations 2 = .ok (.iconst 0, 1) := by decide +kernel
theorem dX1_invitations_3 : decode cX1_invitations 3 = .ok (.istore_n 2, 1) := by decide +kernel
theorem dX1_invitations_4 : decode cX1_invitations 4 = .ok (.iload_n 2, 1) := by decide +kernel
theorem dX1_invitations_5 : decode cX1_invitations 5 = .ok (.aload_n 0, 1) := by decide +kernel
theorem dX1_invitations_6 : decode cX1_invitations 6 = .ok (.getfield 9, 3) := by decide +kernel
theorem dX1_invitations_9 : decode cX1_invitations 9 = .ok (.if_icmp .ge 21, 3) := by decide +kernel
theorem dX1_invitations_12 : decode cX1_invitations 12 = .ok (.iload_n 1, 1) := by decide +kernel
theorem dX1_invitations_13 : decode cX1_invitations 13 = .ok (.aload_n 0, 1) := by decide +kernel
theorem dX1_invitations_14 : decode cX1_invitations 14 = .ok (.getfield 21, 3) := by decide +kernel
theorem dX1_invitations_17 : decode cX1_invitations 17 = .ok (.iload_n 2, 1) := by decide +kernel
theorem dX1_invitations_18 : decode cX1_invitations 18 = .ok (.iaload, 1) := by decide +kernel
theorem dX1_invitations_19 : decode cX1_invitations 19 = .ok (.invokestatic 51, 3) := by decide +kernel
theorem dX1_invitations_22 : decode cX1_invitations 22 = .ok (.iadd, 1) := by decide +kernel
theorem dX1_invitations_23 : decode cX1_invitations 23 = .ok (.istore_n 1, 1) := by decide +kernel
theorem dX1_invitations_24 : decode cX1_invitations 24 = .ok (.iinc 2 1, 3) := by decide +kernel
theorem dX1_invitations_27 : decode cX1_invitations 27 = .ok (.goto (-23), 3) := by decide +kernel
theorem dX1_invitations_30 : decode cX1_invitations 30 = .ok (.iload_n 1, 1) := by decide +kernel
theorem dX1_invitations_31 : decode cX1_invitations 31 = .ok (.ireturn, 1) := by decide +kernel
def L_X1_invitations_4 (c_t_houses : Int32) (r_t_lists : (Nat → Int32)) : Nat → Int32 → Int32 → Option (Int32)
  | 0, _, _ => none
  | n + 1, y1, y2 =>
    if c_t_houses ≤ y2 then
      (some y1)
    else
      (if inb y2 4 then
        ((f_J6_bitCount_0f7a4 (r_t_lists (ix y2))).bind (fun (v3 : Int32) =>
          L_X1_invitations_4 c_t_houses r_t_lists n (y1 + v3) (y2 + 1)))
      else none)
def f_X1_invitations (c_t_houses : Int32) (r_t_lists : (Nat → Int32)) : Option (Int32) :=
  (L_X1_invitations_4 c_t_houses r_t_lists 400 0 0).bind (fun (v5 : Int32) =>
    some v5)
abbrev rm_X1_invitations : Room := { frames := 1, cells := 0, slots := 0, locals := 20 }
set_option maxHeartbeats 4000000 in
set_option maxRecDepth 100000 in
theorem lp_X1_invitations_4 {E : Ev} {X : Cx} {a_t a_t_lists a_t_kindOf a_t_goes a_t_comes a_t_likings : Nat} (c_t_houses : Int32) (c_t_comers : Int32) (c_t_evening : Int32) (r_t_lists : (Nat → Int32)) (C : CX E X cX1_invitations RX1 3 rm_X1_invitations) : ∀ (n : Nat) (y1 : Int32) (y2 : Int32) (v : Int32), L_X1_invitations_4 c_t_houses r_t_lists n y1 y2 = some v → G E X 0 0 [oX1 a_t c_t_houses c_t_comers c_t_evening a_t_lists a_t_kindOf a_t_goes a_t_comes a_t_likings, aI E a_t_lists 4 r_t_lists] [(1, .int v)] 30 [] → G E X 0 0 [oX1 a_t c_t_houses c_t_comers c_t_evening a_t_lists a_t_kindOf a_t_goes a_t_comes a_t_likings, aI E a_t_lists 4 r_t_lists] [(0, .ref a_t), (1, .int y1), (2, .int y2)] 4 [] := by
  intro n
  induction n with
  | zero => intro _ _ _ h; cases h
  | succ n ih =>
    intro y1 y2 v h kk
    rw [L_X1_invitations_4] at h
    refine g_iload_n (pc := 4) C dX1_invitations_4 2 rfl ?_
    refine g_aload_n (pc := 5) C dX1_invitations_5 0 rfl ?_
    refine g_get (pc := 6) 0 C fl_X1_9 rfl rfl dX1_invitations_6 ?_
    refine b_icmp_ge (pc := 9) 30 C dX1_invitations_9 (by decide) h (fun _ h => ?_) (fun _ h => ?_)
    · obtain rfl := Option.some.inj h
      refine g_lv [1] (lv' := [(1, .int y1)]) rfl ?_
      exact kk
    · refine g_iload_n (pc := 12) C dX1_invitations_12 1 rfl ?_
      refine g_aload_n (pc := 13) C dX1_invitations_13 0 rfl ?_
      refine g_get (pc := 14) 0 C fl_X1_21 rfl rfl dX1_invitations_14 ?_
      refine g_iload_n (pc := 17) C dX1_invitations_17 2 rfl ?_
      refine b_iald (pc := 18) 1 C rfl dX1_invitations_18 h (fun _ h => ?_)
      obtain ⟨v3, hv3, h⟩ := o_bnd h
      refine g_callS (pc := 19) (ws' := [oX1 a_t c_t_houses c_t_comers c_t_evening a_t_lists a_t_kindOf a_t_goes a_t_comes a_t_likings, aI E a_t_lists 4 r_t_lists]) (st1 := [.int v3, .int y1]) C ms_X1_51 (k_J6_bitCount_0f7a4 E (r_t_lists (ix y2)) v3 hv3) [] rfl (by decide +kernel) rfl [none, none] 2 (by decide +kernel) rfl rfl ⟨by decide, by decide⟩ ⟨rfl, rfl⟩ ⟨Nat.zero_le _, Nat.zero_le _⟩ rfl rfl rfl (Nat.le_of_ble_eq_true rfl) dX1_invitations_19 ?_
      refine g_iadd (pc := 22) C dX1_invitations_22 ?_
      refine g_istore_n (pc := 23) (lv' := [(1, .int (y1 + v3)), (0, .ref a_t), (2, .int y2)]) C dX1_invitations_23 (by decide) rfl ?_
      refine g_iinc (pc := 24) (v := y2 + 1) (lv' := [(2, .int (y2 + 1)), (1, .int (y1 + v3)), (0, .ref a_t)]) C dX1_invitations_24 2 rfl rfl (by decide) rfl ?_
      refine g_goto (pc := 27) 4 C dX1_invitations_27 (by decide) ?_
      refine g_lv [2, 1, 0] (lv' := [(0, .ref a_t), (1, .int (y1 + v3)), (2, .int (y2 + 1))]) rfl ?_
      exact ih _ _ _ h kk
set_option maxHeartbeats 4000000 in
set_option maxRecDepth 100000 in
theorem k_X1_invitations (E : Ev) (a_t a_t_lists a_t_kindOf a_t_goes a_t_comes a_t_likings : Nat) (c_t_houses : Int32) (c_t_comers : Int32) (c_t_evening : Int32) (r_t_lists : (Nat → Int32)) (v : Int32) (h : f_X1_invitations c_t_houses r_t_lists = some v) : Mt E yX1_invitations cX1_invitations 3 (some .int) rm_X1_invitations [.ref a_t] [oX1 a_t c_t_houses c_t_comers c_t_evening a_t_lists a_t_kindOf a_t_goes a_t_comes a_t_likings, aI E a_t_lists 4 r_t_lists] [oX1 a_t c_t_houses c_t_comers c_t_evening a_t_lists a_t_kindOf a_t_goes a_t_comes a_t_likings, aI E a_t_lists 4 r_t_lists] (some (.int v)) := by
  refine Mt.intro (lv := [(0, .ref a_t)]) (by decide +kernel) (Nat.le_of_ble_eq_true rfl) rfl (fun X C K => ?_)
  have C : CX E X cX1_invitations RX1 3 rm_X1_invitations := C
  rw [f_X1_invitations] at h
  refine g_iconst (pc := 0) (v := 0) C dX1_invitations_0 (by decide) ?_
  refine g_istore_n (pc := 1) (lv' := [(1, .int 0), (0, .ref a_t)]) C dX1_invitations_1 (by decide) rfl ?_
  refine g_iconst (pc := 2) (v := 0) C dX1_invitations_2 (by decide) ?_
  refine g_istore_n (pc := 3) (lv' := [(2, .int 0), (1, .int 0), (0, .ref a_t)]) C dX1_invitations_3 (by decide) rfl ?_
  obtain ⟨v5, hv5, h⟩ := o_bnd h
  refine g_lv [2, 1, 0] (lv' := [(0, .ref a_t), (1, .int 0), (2, .int 0)]) rfl ?_
  refine lp_X1_invitations_4 c_t_houses c_t_comers c_t_evening r_t_lists C 400 _ _ _ hv5 ?_
  refine g_iload_n (pc := 30) C dX1_invitations_30 0 rfl ?_
  obtain rfl := Option.some.inj h
  exact g_iret (pc := 31) C K dX1_invitations_31
theorem dX1_listsWith_0 : decode cX1_listsWith 0 = .ok (.iconst 0, 1) := by decide +kernel
theorem dX1_listsWith_1 : decode cX1_listsWith 1 = .ok (.istore_n 2, 1) := by decide +kernel
theorem dX1_listsWith_2 : decode cX1_listsWith 2 = .ok (.iconst 0, 1) := by decide +kernel
theorem dX1_listsWith_3 : decode cX1_listsWith 3 = .ok (.istore_n 3, 1) := by decide +kernel
theorem dX1_listsWith_4 : decode cX1_listsWith 4 = .ok (.iload_n 3, 1) := by decide +kernel
theorem dX1_listsWith_5 : decode cX1_listsWith 5 = .ok (.aload_n 0, 1) := by decide +kernel
theorem dX1_listsWith_6 : decode cX1_listsWith 6 = .ok (.getfield 9, 3) := by decide +kernel
theorem dX1_listsWith_9 : decode cX1_listsWith 9 = .ok (.if_icmp .ge 21, 3) := by decide +kernel
theorem dX1_listsWith_12 : decode cX1_listsWith 12 = .ok (.aload_n 0, 1) := by decide +kernel
theorem dX1_listsWith_13 : decode cX1_listsWith 13 = .ok (.iload_n 3, 1) := by decide +kernel
theorem dX1_listsWith_14 : decode cX1_listsWith 14 = .ok (.iload_n 1, 1) := by decide +kernel
theorem dX1_listsWith_15 : decode cX1_listsWith 15 = .ok (.invokevirtual 56, 3) := by decide +kernel
theorem dX1_listsWith_18 : decode cX1_listsWith 18 = .ok (.ifCond .eq 6, 3) := by decide +kernel
theorem dX1_listsWith_21 : decode cX1_listsWith 21 = .ok (.iinc 2 1, 3) := by decide +kernel
theorem dX1_listsWith_24 : decode cX1_listsWith 24 = .ok (.iinc 3 1, 3) := by decide +kernel
theorem dX1_listsWith_27 : decode cX1_listsWith 27 = .ok (.goto (-23), 3) := by decide +kernel
theorem dX1_listsWith_30 : decode cX1_listsWith 30 = .ok (.iload_n 2, 1) := by decide +kernel
theorem dX1_listsWith_31 : decode cX1_listsWith 31 = .ok (.ireturn, 1) := by decide +kernel
def L_X1_listsWith_4 (c_t_houses : Int32) (r_t_lists : (Nat → Int32)) (x1 : Int32) : Nat → Int32 → Int32 → Option (Int32)
  | 0, _, _ => none
  | n + 1, y1, y2 =>
    if c_t_houses ≤ y2 then
      (some y1)
    else
      ((f_X1_onList r_t_lists y2 x1).bind (fun (v3 : Int32) =>
        if v3 = 0 then
          (L_X1_listsWith_4 c_t_houses r_t_lists x1 n y1 (y2 + 1))
        else
          (L_X1_listsWith_4 c_t_houses r_t_lists x1 n (y1 + 1) (y2 + 1))))
def f_X1_listsWith (c_t_houses : Int32) (r_t_lists : (Nat → Int32)) (x1 : Int32) : Option (Int32) :=
  (L_X1_listsWith_4 c_t_houses r_t_lists x1 400 0 0).bind (fun (v5 : Int32) =>
    some v5)
abbrev rm_X1_listsWith : Room := { frames := 1, cells := 0, slots := 0, locals := 22 }
set_option maxHeartbeats 4000000 in
set_option maxRecDepth 100000 in
theorem lp_X1_listsWith_4 {E : Ev} {X : Cx} {a_t a_t_lists a_t_kindOf a_t_goes a_t_comes a_t_likings : Nat} (c_t_houses : Int32) (c_t_comers : Int32) (c_t_evening : Int32) (r_t_lists : (Nat → Int32)) (x1 : Int32) (C : CX E X cX1_listsWith RX1 4 rm_X1_listsWith) : ∀ (n : Nat) (y1 : Int32) (y2 : Int32) (v : Int32), L_X1_listsWith_4 c_t_houses r_t_lists x1 n y1 y2 = some v → G E X 0 0 [oX1 a_t c_t_houses c_t_comers c_t_evening a_t_lists a_t_kindOf a_t_goes a_t_comes a_t_likings, aI E a_t_lists 4 r_t_lists] [(2, .int v)] 30 [] → G E X 0 0 [oX1 a_t c_t_houses c_t_comers c_t_evening a_t_lists a_t_kindOf a_t_goes a_t_comes a_t_likings, aI E a_t_lists 4 r_t_lists] [(0, .ref a_t), (1, .int x1), (2, .int y1), (3, .int y2)] 4 [] := by
  intro n
  induction n with
  | zero => intro _ _ _ h; cases h
  | succ n ih =>
    intro y1 y2 v h kk
    rw [L_X1_listsWith_4] at h
    refine g_iload_n (pc := 4) C dX1_listsWith_4 3 rfl ?_
    refine g_aload_n (pc := 5) C dX1_listsWith_5 0 rfl ?_
    refine g_get (pc := 6) 0 C fl_X1_9 rfl rfl dX1_listsWith_6 ?_
    refine b_icmp_ge (pc := 9) 30 C dX1_listsWith_9 (by decide) h (fun _ h => ?_) (fun _ h => ?_)
    · obtain rfl := Option.some.inj h
      refine g_lv [2] (lv' := [(2, .int y1)]) rfl ?_
      exact kk
    · refine g_aload_n (pc := 12) C dX1_listsWith_12 0 rfl ?_
      refine g_iload_n (pc := 13) C dX1_listsWith_13 3 rfl ?_
      refine g_iload_n (pc := 14) C dX1_listsWith_14 1 rfl ?_
      obtain ⟨v3, hv3, h⟩ := o_bnd h
      refine g_callV (pc := 15) (ws' := [oX1 a_t c_t_houses c_t_comers c_t_evening a_t_lists a_t_kindOf a_t_goes a_t_comes a_t_likings, aI E a_t_lists 4 r_t_lists]) (st1 := [.int v3]) C mv_X1_56 (k_X1_onList E a_t a_t_lists a_t_kindOf a_t_goes a_t_comes a_t_likings c_t_houses c_t_comers c_t_evening r_t_lists y2 x1 v3 hv3) [0, 1] rfl (by decide +kernel) rfl [some 0, some 1] 2 (by decide +kernel) rfl rfl 0 rfl rfl ⟨by decide, by decide⟩ ⟨rfl, rfl⟩ ⟨Nat.zero_le _, Nat.zero_le _⟩ rfl rfl rfl (Nat.le_of_ble_eq_true rfl) dX1_listsWith_15 ?_
      refine b_if_eq (pc := 18) 24 C dX1_listsWith_18 (by decide) h (fun _ h => ?_) (fun _ h => ?_)
      · refine g_iinc (pc := 24) (v := y2 + 1) (lv' := [(3, .int (y2 + 1)), (0, .ref a_t), (1, .int x1), (2, .int y1)]) C dX1_listsWith_24 3 rfl rfl (by decide) rfl ?_
        refine g_goto (pc := 27) 4 C dX1_listsWith_27 (by decide) ?_
        refine g_lv [1, 2, 3, 0] (lv' := [(0, .ref a_t), (1, .int x1), (2, .int y1), (3, .int (y2 + 1))]) rfl ?_
        exact ih _ _ _ h kk
      · refine g_iinc (pc := 21) (v := y1 + 1) (lv' := [(2, .int (y1 + 1)), (0, .ref a_t), (1, .int x1), (3, .int y2)]) C dX1_listsWith_21 2 rfl rfl (by decide) rfl ?_
        refine g_iinc (pc := 24) (v := y2 + 1) (lv' := [(3, .int (y2 + 1)), (2, .int (y1 + 1)), (0, .ref a_t), (1, .int x1)]) C dX1_listsWith_24 3 rfl rfl (by decide) rfl ?_
        refine g_goto (pc := 27) 4 C dX1_listsWith_27 (by decide) ?_
        refine g_lv [2, 3, 1, 0] (lv' := [(0, .ref a_t), (1, .int x1), (2, .int (y1 + 1)), (3, .int (y2 + 1))]) rfl ?_
        exact ih _ _ _ h kk
set_option maxHeartbeats 4000000 in
set_option maxRecDepth 100000 in
theorem k_X1_listsWith (E : Ev) (a_t a_t_lists a_t_kindOf a_t_goes a_t_comes a_t_likings : Nat) (c_t_houses : Int32) (c_t_comers : Int32) (c_t_evening : Int32) (r_t_lists : (Nat → Int32)) (x1 : Int32) (v : Int32) (h : f_X1_listsWith c_t_houses r_t_lists x1 = some v) : Mt E yX1_listsWith cX1_listsWith 4 (some .int) rm_X1_listsWith [.ref a_t, .int x1] [oX1 a_t c_t_houses c_t_comers c_t_evening a_t_lists a_t_kindOf a_t_goes a_t_comes a_t_likings, aI E a_t_lists 4 r_t_lists] [oX1 a_t c_t_houses c_t_comers c_t_evening a_t_lists a_t_kindOf a_t_goes a_t_comes a_t_likings, aI E a_t_lists 4 r_t_lists] (some (.int v)) := by
  refine Mt.intro (lv := [(0, .ref a_t), (1, .int x1)]) (by decide +kernel) (Nat.le_of_ble_eq_true rfl) rfl (fun X C K => ?_)
  have C : CX E X cX1_listsWith RX1 4 rm_X1_listsWith := C
  rw [f_X1_listsWith] at h
  refine g_iconst (pc := 0) (v := 0) C dX1_listsWith_0 (by decide) ?_
  refine g_istore_n (pc := 1) (lv' := [(2, .int 0), (0, .ref a_t), (1, .int x1)]) C dX1_listsWith_1 (by decide) rfl ?_
  refine g_iconst (pc := 2) (v := 0) C dX1_listsWith_2 (by decide) ?_
  refine g_istore_n (pc := 3) (lv' := [(3, .int 0), (2, .int 0), (0, .ref a_t), (1, .int x1)]) C dX1_listsWith_3 (by decide) rfl ?_
  obtain ⟨v5, hv5, h⟩ := o_bnd h
  refine g_lv [2, 3, 1, 0] (lv' := [(0, .ref a_t), (1, .int x1), (2, .int 0), (3, .int 0)]) rfl ?_
  refine lp_X1_listsWith_4 c_t_houses c_t_comers c_t_evening r_t_lists x1 C 400 _ _ _ hv5 ?_
  refine g_iload_n (pc := 30) C dX1_listsWith_30 0 rfl ?_
  obtain rfl := Option.some.inj h
  exact g_iret (pc := 31) C K dX1_listsWith_31
theorem dX1_likingsOf_0 : decode cX1_likingsOf 0 = .ok (.iconst 0, 1) := by decide +kernel
theorem dX1_likingsOf_1 : decode cX1_likingsOf 1 = .ok (.istore_n 2, 1) := by decide +kernel
theorem dX1_likingsOf_2 : decode cX1_likingsOf 2 = .ok (.iconst 0, 1) := by decide +kernel
theorem dX1_likingsOf_3 : decode cX1_likingsOf 3 = .ok (.istore_n 3, 1) := by decide +kernel
theorem dX1_likingsOf_4 : decode cX1_likingsOf 4 = .ok (.iload_n 3, 1) := by decide +kernel
theorem dX1_likingsOf_5 : decode cX1_likingsOf 5 = .ok (.aload_n 0, 1) := by decide +kernel
theorem dX1_likingsOf_6 : decode cX1_likingsOf 6 = .ok (.getfield 9, 3) := by decide +kernel
theorem dX1_likingsOf_9 : decode cX1_likingsOf 9 = .ok (.if_icmp .ge 18, 3) := by decide +kernel
theorem dX1_likingsOf_12 : decode cX1_likingsOf 12 = .ok (.iload_n 2, 1) := by decide +kernel
theorem dX1_likingsOf_13 : decode cX1_likingsOf 13 = .ok (.aload_n 0, 1) := by decide +kernel
theorem dX1_likingsOf_14 : decode cX1_likingsOf 14 = .ok (.iload_n 3, 1) := by decide +kernel
theorem dX1_likingsOf_15 : decode cX1_likingsOf 15 = .ok (.iload_n 1, 1) := by decide +kernel
theorem dX1_likingsOf_16 : decode cX1_likingsOf 16 = .ok (.invokevirtual 60, 3) := by decide +kernel
theorem dX1_likingsOf_19 : decode cX1_likingsOf 19 = .ok (.iadd, 1) := by decide +kernel
theorem dX1_likingsOf_20 : decode cX1_likingsOf 20 = .ok (.istore_n 2, 1) := by decide +kernel
theorem dX1_likingsOf_21 : decode cX1_likingsOf 21 = .ok (.iinc 3 1, 3) := by decide +kernel
theorem dX1_likingsOf_24 : decode cX1_likingsOf 24 = .ok (.goto (-20), 3) := by decide +kernel
theorem dX1_likingsOf_27 : decode cX1_likingsOf 27 = .ok (.iload_n 2, 1) := by decide +kernel
theorem dX1_likingsOf_28 : decode cX1_likingsOf 28 = .ok (.ireturn, 1) := by decide +kernel
def L_X1_likingsOf_4 (c_t_houses : Int32) (r_t_likings : (Nat → Int32)) (x1 : Int32) : Nat → Int32 → Int32 → Option (Int32)
  | 0, _, _ => none
  | n + 1, y1, y2 =>
    if c_t_houses ≤ y2 then
      (some y1)
    else
      ((f_X1_liked r_t_likings y2 x1).bind (fun (v3 : Int32) =>
        L_X1_likingsOf_4 c_t_houses r_t_likings x1 n (y1 + v3) (y2 + 1)))
def f_X1_likingsOf (c_t_houses : Int32) (r_t_likings : (Nat → Int32)) (x1 : Int32) : Option (Int32) :=
  (L_X1_likingsOf_4 c_t_houses r_t_likings x1 400 0 0).bind (fun (v5 : Int32) =>
    some v5)
abbrev rm_X1_likingsOf : Room := { frames := 1, cells := 0, slots := 0, locals := 22 }
set_option maxHeartbeats 4000000 in
set_option maxRecDepth 100000 in
theorem lp_X1_likingsOf_4 {E : Ev} {X : Cx} {a_t a_t_likings a_t_lists a_t_kindOf a_t_goes a_t_comes : Nat} (c_t_houses : Int32) (c_t_comers : Int32) (c_t_evening : Int32) (r_t_likings : (Nat → Int32)) (x1 : Int32) (C : CX E X cX1_likingsOf RX1 4 rm_X1_likingsOf) : ∀ (n : Nat) (y1 : Int32) (y2 : Int32) (v : Int32), L_X1_likingsOf_4 c_t_houses r_t_likings x1 n y1 y2 = some v → G E X 0 0 [oX1 a_t c_t_houses c_t_comers c_t_evening a_t_lists a_t_kindOf a_t_goes a_t_comes a_t_likings, aI E a_t_likings 24 r_t_likings] [(2, .int v)] 27 [] → G E X 0 0 [oX1 a_t c_t_houses c_t_comers c_t_evening a_t_lists a_t_kindOf a_t_goes a_t_comes a_t_likings, aI E a_t_likings 24 r_t_likings] [(0, .ref a_t), (1, .int x1), (2, .int y1), (3, .int y2)] 4 [] := by
  intro n
  induction n with
  | zero => intro _ _ _ h; cases h
  | succ n ih =>
    intro y1 y2 v h kk
    rw [L_X1_likingsOf_4] at h
    refine g_iload_n (pc := 4) C dX1_likingsOf_4 3 rfl ?_
    refine g_aload_n (pc := 5) C dX1_likingsOf_5 0 rfl ?_
    refine g_get (pc := 6) 0 C fl_X1_9 rfl rfl dX1_likingsOf_6 ?_
    refine b_icmp_ge (pc := 9) 27 C dX1_likingsOf_9 (by decide) h (fun _ h => ?_) (fun _ h => ?_)
    · obtain rfl := Option.some.inj h
      refine g_lv [2] (lv' := [(2, .int y1)]) rfl ?_
      exact kk
    · refine g_iload_n (pc := 12) C dX1_likingsOf_12 2 rfl ?_
      refine g_aload_n (pc := 13) C dX1_likingsOf_13 0 rfl ?_
      refine g_iload_n (pc := 14) C dX1_likingsOf_14 3 rfl ?_
      refine g_iload_n (pc := 15) C dX1_likingsOf_15 1 rfl ?_
      obtain ⟨v3, hv3, h⟩ := o_bnd h
      refine g_callV (pc := 16) (ws' := [oX1 a_t c_t_houses c_t_comers c_t_evening a_t_lists a_t_kindOf a_t_goes a_t_comes a_t_likings, aI E a_t_likings 24 r_t_likings]) (st1 := [.int v3, .int y1]) C mv_X1_60 (k_X1_liked E a_t a_t_likings a_t_lists a_t_kindOf a_t_goes a_t_comes c_t_houses c_t_comers c_t_evening r_t_likings y2 x1 v3 hv3) [0, 1] rfl (by decide +kernel) rfl [some 0, some 1] 2 (by decide +kernel) rfl rfl 0 rfl rfl ⟨by decide, by decide⟩ ⟨rfl, rfl⟩ ⟨Nat.zero_le _, Nat.zero_le _⟩ rfl rfl rfl (Nat.le_of_ble_eq_true rfl) dX1_likingsOf_16 ?_
      refine g_iadd (pc := 19) C dX1_likingsOf_19 ?_
      refine g_istore_n (pc := 20) (lv' := [(2, .int (y1 + v3)), (0, .ref a_t), (1, .int x1), (3, .int y2)]) C dX1_likingsOf_20 (by decide) rfl ?_
      refine g_iinc (pc := 21) (v := y2 + 1) (lv' := [(3, .int (y2 + 1)), (2, .int (y1 + v3)), (0, .ref a_t), (1, .int x1)]) C dX1_likingsOf_21 3 rfl rfl (by decide) rfl ?_
      refine g_goto (pc := 24) 4 C dX1_likingsOf_24 (by decide) ?_
      refine g_lv [2, 3, 1, 0] (lv' := [(0, .ref a_t), (1, .int x1), (2, .int (y1 + v3)), (3, .int (y2 + 1))]) rfl ?_
      exact ih _ _ _ h kk
set_option maxHeartbeats 4000000 in
set_option maxRecDepth 100000 in
theorem k_X1_likingsOf (E : Ev) (a_t a_t_likings a_t_lists a_t_kindOf a_t_goes a_t_comes : Nat) (c_t_houses : Int32) (c_t_comers : Int32) (c_t_evening : Int32) (r_t_likings : (Nat → Int32)) (x1 : Int32) (v : Int32) (h : f_X1_likingsOf c_t_houses r_t_likings x1 = some v) : Mt E yX1_likingsOf cX1_likingsOf 4 (some .int) rm_X1_likingsOf [.ref a_t, .int x1] [oX1 a_t c_t_houses c_t_comers c_t_evening a_t_lists a_t_kindOf a_t_goes a_t_comes a_t_likings, aI E a_t_likings 24 r_t_likings] [oX1 a_t c_t_houses c_t_comers c_t_evening a_t_lists a_t_kindOf a_t_goes a_t_comes a_t_likings, aI E a_t_likings 24 r_t_likings] (some (.int v)) := by
  refine Mt.intro (lv := [(0, .ref a_t), (1, .int x1)]) (by decide +kernel) (Nat.le_of_ble_eq_true rfl) rfl (fun X C K => ?_)
  have C : CX E X cX1_likingsOf RX1 4 rm_X1_likingsOf := C
  rw [f_X1_likingsOf] at h
  refine g_iconst (pc := 0) (v := 0) C dX1_likingsOf_0 (by decide) ?_
  refine g_istore_n (pc := 1) (lv' := [(2, .int 0), (0, .ref a_t), (1, .int x1)]) C dX1_likingsOf_1 (by decide) rfl ?_
  refine g_iconst (pc := 2) (v := 0) C dX1_likingsOf_2 (by decide) ?_
  refine g_istore_n (pc := 3) (lv' := [(3, .int 0), (2, .int 0), (0, .ref a_t), (1, .int x1)]) C dX1_likingsOf_3 (by decide) rfl ?_
  obtain ⟨v5, hv5, h⟩ := o_bnd h
  refine g_lv [2, 3, 1, 0] (lv' := [(0, .ref a_t), (1, .int x1), (2, .int 0), (3, .int 0)]) rfl ?_
  refine lp_X1_likingsOf_4 c_t_houses c_t_comers c_t_evening r_t_likings x1 C 400 _ _ _ hv5 ?_
  refine g_iload_n (pc := 27) C dX1_likingsOf_27 0 rfl ?_
  obtain rfl := Option.some.inj h
  exact g_iret (pc := 28) C K dX1_likingsOf_28
theorem dX1_likings_0 : decode cX1_likings 0 = .ok (.iconst 0, 1) := by decide +kernel
theorem dX1_likings_1 : decode cX1_likings 1 = .ok (.istore_n 1, 1) := by decide +kernel
theorem dX1_likings_2 : decode cX1_likings 2 = .ok (.iconst 0, 1) := by decide +kernel
theorem dX1_likings_3 : decode cX1_likings 3 = .ok (.istore_n 2, 1) := by decide +kernel
theorem dX1_likings_4 : decode cX1_likings 4 = .ok (.iload_n 2, 1) := by decide +kernel
theorem dX1_likings_5 : decode cX1_likings 5 = .ok (.aload_n 0, 1) := by decide +kernel
theorem dX1_likings_6 : decode cX1_likings 6 = .ok (.getfield 15, 3) := by decide +kernel
theorem dX1_likings_9 : decode cX1_likings 9 = .ok (.if_icmp .ge 17, 3) := by decide +kernel
theorem dX1_likings_12 : decode cX1_likings 12 = .ok (.iload_n 1, 1) := by decide +kernel
theorem dX1_likings_13 : decode cX1_likings 13 = .ok (.aload_n 0, 1) := by decide +kernel
theorem dX1_likings_14 : decode cX1_likings 14 = .ok (.iload_n 2, 1) := by decide +kernel
theorem dX1_likings_15 : decode cX1_likings 15 = .ok (.invokevirtual 72, 3) := by decide +kernel
theorem dX1_likings_18 : decode cX1_likings 18 = .ok (.iadd, 1) := by decide +kernel
theorem dX1_likings_19 : decode cX1_likings 19 = .ok (.istore_n 1, 1) := by decide +kernel
theorem dX1_likings_20 : decode cX1_likings 20 = .ok (.iinc 2 1, 3) := by decide +kernel
theorem dX1_likings_23 : decode cX1_likings 23 = .ok (.goto (-19), 3) := by decide +kernel
theorem dX1_likings_26 : decode cX1_likings 26 = .ok (.iload_n 1, 1) := by decide +kernel
theorem dX1_likings_27 : decode cX1_likings 27 = .ok (.ireturn, 1) := by decide +kernel
def L_X1_likings_4 (c_t_houses : Int32) (c_t_comers : Int32) (r_t_likings : (Nat → Int32)) : Nat → Int32 → Int32 → Option (Int32)
  | 0, _, _ => none
  | n + 1, y1, y2 =>
    if c_t_comers ≤ y2 then
      (some y1)
    else
      ((f_X1_likingsOf c_t_houses r_t_likings y2).bind (fun (v3 : Int32) =>
        L_X1_likings_4 c_t_houses c_t_comers r_t_likings n (y1 + v3) (y2 + 1)))
def f_X1_likings (c_t_houses : Int32) (c_t_comers : Int32) (r_t_likings : (Nat → Int32)) : Option (Int32) :=
  (L_X1_likings_4 c_t_houses c_t_comers r_t_likings 400 0 0).bind (fun (v5 : Int32) =>
    some v5)
abbrev rm_X1_likings : Room := { frames := 2, cells := 0, slots := 0, locals := 45 }
set_option maxHeartbeats 4000000 in
set_option maxRecDepth 100000 in
theorem lp_X1_likings_4 {E : Ev} {X : Cx} {a_t a_t_likings a_t_lists a_t_kindOf a_t_goes a_t_comes : Nat} (c_t_houses : Int32) (c_t_comers : Int32) (c_t_evening : Int32) (r_t_likings : (Nat → Int32)) (C : CX E X cX1_likings RX1 3 rm_X1_likings) : ∀ (n : Nat) (y1 : Int32) (y2 : Int32) (v : Int32), L_X1_likings_4 c_t_houses c_t_comers r_t_likings n y1 y2 = some v → G E X 0 0 [oX1 a_t c_t_houses c_t_comers c_t_evening a_t_lists a_t_kindOf a_t_goes a_t_comes a_t_likings, aI E a_t_likings 24 r_t_likings] [(1, .int v)] 26 [] → G E X 0 0 [oX1 a_t c_t_houses c_t_comers c_t_evening a_t_lists a_t_kindOf a_t_goes a_t_comes a_t_likings, aI E a_t_likings 24 r_t_likings] [(0, .ref a_t), (1, .int y1), (2, .int y2)] 4 [] := by
  intro n
  induction n with
  | zero => intro _ _ _ h; cases h
  | succ n ih =>
    intro y1 y2 v h kk
    rw [L_X1_likings_4] at h
    refine g_iload_n (pc := 4) C dX1_likings_4 2 rfl ?_
    refine g_aload_n (pc := 5) C dX1_likings_5 0 rfl ?_
    refine g_get (pc := 6) 0 C fl_X1_15 rfl rfl dX1_likings_6 ?_
    refine b_icmp_ge (pc := 9) 26 C dX1_likings_9 (by decide) h (fun _ h => ?_) (fun _ h => ?_)
    · obtain rfl := Option.some.inj h
      refine g_lv [1] (lv' := [(1, .int y1)]) rfl ?_
      exact kk
    · refine g_iload_n (pc := 12) C dX1_likings_12 1 rfl ?_
      refine g_aload_n (pc := 13) C dX1_likings_13 0 rfl ?_
      refine g_iload_n (pc := 14) C dX1_likings_14 2 rfl ?_
      obtain ⟨v3, hv3, h⟩ := o_bnd h
      refine g_callV (pc := 15) (ws' := [oX1 a_t c_t_houses c_t_comers c_t_evening a_t_lists a_t_kindOf a_t_goes a_t_comes a_t_likings, aI E a_t_likings 24 r_t_likings]) (st1 := [.int v3, .int y1]) C mv_X1_72 (k_X1_likingsOf E a_t a_t_likings a_t_lists a_t_kindOf a_t_goes a_t_comes c_t_houses c_t_comers c_t_evening r_t_likings y2 v3 hv3) [0, 1] rfl (by decide +kernel) rfl [some 0, some 1] 2 (by decide +kernel) rfl rfl 0 rfl rfl ⟨by decide, by decide⟩ ⟨rfl, rfl⟩ ⟨Nat.zero_le _, Nat.zero_le _⟩ rfl rfl rfl (Nat.le_of_ble_eq_true rfl) dX1_likings_15 ?_
      refine g_iadd (pc := 18) C dX1_likings_18 ?_
      refine g_istore_n (pc := 19) (lv' := [(1, .int (y1 + v3)), (0, .ref a_t), (2, .int y2)]) C dX1_likings_19 (by decide) rfl ?_
      refine g_iinc (pc := 20) (v := y2 + 1) (lv' := [(2, .int (y2 + 1)), (1, .int (y1 + v3)), (0, .ref a_t)]) C dX1_likings_20 2 rfl rfl (by decide) rfl ?_
      refine g_goto (pc := 23) 4 C dX1_likings_23 (by decide) ?_
      refine g_lv [2, 1, 0] (lv' := [(0, .ref a_t), (1, .int (y1 + v3)), (2, .int (y2 + 1))]) rfl ?_
      exact ih _ _ _ h kk
set_option maxHeartbeats 4000000 in
set_option maxRecDepth 100000 in
theorem k_X1_likings (E : Ev) (a_t a_t_likings a_t_lists a_t_kindOf a_t_goes a_t_comes : Nat) (c_t_houses : Int32) (c_t_comers : Int32) (c_t_evening : Int32) (r_t_likings : (Nat → Int32)) (v : Int32) (h : f_X1_likings c_t_houses c_t_comers r_t_likings = some v) : Mt E yX1_likings cX1_likings 3 (some .int) rm_X1_likings [.ref a_t] [oX1 a_t c_t_houses c_t_comers c_t_evening a_t_lists a_t_kindOf a_t_goes a_t_comes a_t_likings, aI E a_t_likings 24 r_t_likings] [oX1 a_t c_t_houses c_t_comers c_t_evening a_t_lists a_t_kindOf a_t_goes a_t_comes a_t_likings, aI E a_t_likings 24 r_t_likings] (some (.int v)) := by
  refine Mt.intro (lv := [(0, .ref a_t)]) (by decide +kernel) (Nat.le_of_ble_eq_true rfl) rfl (fun X C K => ?_)
  have C : CX E X cX1_likings RX1 3 rm_X1_likings := C
  rw [f_X1_likings] at h
  refine g_iconst (pc := 0) (v := 0) C dX1_likings_0 (by decide) ?_
  refine g_istore_n (pc := 1) (lv' := [(1, .int 0), (0, .ref a_t)]) C dX1_likings_1 (by decide) rfl ?_
  refine g_iconst (pc := 2) (v := 0) C dX1_likings_2 (by decide) ?_
  refine g_istore_n (pc := 3) (lv' := [(2, .int 0), (1, .int 0), (0, .ref a_t)]) C dX1_likings_3 (by decide) rfl ?_
  obtain ⟨v5, hv5, h⟩ := o_bnd h
  refine g_lv [2, 1, 0] (lv' := [(0, .ref a_t), (1, .int 0), (2, .int 0)]) rfl ?_
  refine lp_X1_likings_4 c_t_houses c_t_comers c_t_evening r_t_likings C 400 _ _ _ hv5 ?_
  refine g_iload_n (pc := 26) C dX1_likings_26 0 rfl ?_
  obtain rfl := Option.some.inj h
  exact g_iret (pc := 27) C K dX1_likings_27
theorem dX1_addHouse_0 : decode cX1_addHouse 0 = .ok (.aload_n 0, 1) := by decide +kernel
theorem dX1_addHouse_1 : decode cX1_addHouse 1 = .ok (.getfield 21, 3) := by decide +kernel
theorem dX1_addHouse_4 : decode cX1_addHouse 4 = .ok (.aload_n 0, 1) := by decide +kernel
theorem dX1_addHouse_5 : decode cX1_addHouse 5 = .ok (.getfield 9, 3) := by decide +kernel
theorem dX1_addHouse_8 : decode cX1_addHouse 8 = .ok (.iconst 0, 1) := by decide +kernel
theorem dX1_addHouse_9 : decode cX1_addHouse 9 = .ok (.iastore, 1) := by decide +kernel
theorem dX1_addHouse_10 : decode cX1_addHouse 10 = .ok (.aload_n 0, 1) := by decide +kernel
theorem dX1_addHouse_11 : decode cX1_addHouse 11 = .ok (.dup, 1) := by decide +kernel
theorem dX1_addHouse_12 : decode cX1_addHouse 12 = .ok (.getfield 9, 3) := by decide +kernel
theorem dX1_addHouse_15 : decode cX1_addHouse 15 = .ok (.iconst 1, 1) := by decide +kernel
theorem dX1_addHouse_16 : decode cX1_addHouse 16 = .ok (.iadd, 1) := by decide +kernel
theorem dX1_addHouse_17 : decode cX1_addHouse 17 = .ok (.putfield 9, 3) := by decide +kernel
theorem dX1_addHouse_20 : decode cX1_addHouse 20 = .ok (.return_, 1) := by decide +kernel
def f_X1_addHouse (c_t_houses : Int32) (r_t_lists : (Nat → Int32)) : Option (Int32 × (Nat → Int32)) :=
  if inb c_t_houses 4 then
    (some ((c_t_houses + 1, upd r_t_lists (ix c_t_houses) 0)))
  else none
abbrev rm_X1_addHouse : Room := { frames := 0, cells := 0, slots := 0, locals := 0 }
set_option maxHeartbeats 4000000 in
set_option maxRecDepth 100000 in
theorem k_X1_addHouse (E : Ev) (a_t a_t_lists a_t_kindOf a_t_goes a_t_comes a_t_likings : Nat) (c_t_houses : Int32) (c_t_comers : Int32) (c_t_evening : Int32) (r_t_lists : (Nat → Int32)) (v : Int32 × (Nat → Int32)) (h : f_X1_addHouse c_t_houses r_t_lists = some v) : Mt E yX1_addHouse cX1_addHouse 1 none rm_X1_addHouse [.ref a_t] [oX1 a_t c_t_houses c_t_comers c_t_evening a_t_lists a_t_kindOf a_t_goes a_t_comes a_t_likings, aI E a_t_lists 4 r_t_lists] [oX1 a_t v.1 c_t_comers c_t_evening a_t_lists a_t_kindOf a_t_goes a_t_comes a_t_likings, aI E a_t_lists 4 v.2] none := by
  refine Mt.intro (lv := [(0, .ref a_t)]) (by decide +kernel) (Nat.le_of_ble_eq_true rfl) rfl (fun X C K => ?_)
  have C : CX E X cX1_addHouse RX1 1 rm_X1_addHouse := C
  rw [f_X1_addHouse] at h
  refine g_aload_n (pc := 0) C dX1_addHouse_0 0 rfl ?_
  refine g_get (pc := 1) 0 C fl_X1_21 rfl rfl dX1_addHouse_1 ?_
  refine g_aload_n (pc := 4) C dX1_addHouse_4 0 rfl ?_
  refine g_get (pc := 5) 0 C fl_X1_9 rfl rfl dX1_addHouse_5 ?_
  refine g_iconst (pc := 8) (v := 0) C dX1_addHouse_8 (by decide) ?_
  refine b_iast (pc := 9) (ws' := [oX1 a_t c_t_houses c_t_comers c_t_evening a_t_lists a_t_kindOf a_t_goes a_t_comes a_t_likings, aI E a_t_lists 4 (upd r_t_lists (ix c_t_houses) 0)]) 1 C rfl rfl dX1_addHouse_9 h (fun _ h => ?_)
  refine g_aload_n (pc := 10) C dX1_addHouse_10 0 rfl ?_
  refine g_dup (pc := 11) C dX1_addHouse_11 rfl ?_
  refine g_get (pc := 12) 0 C fl_X1_9 rfl rfl dX1_addHouse_12 ?_
  refine g_iconst (pc := 15) (v := 1) C dX1_addHouse_15 (by decide) ?_
  refine g_iadd (pc := 16) C dX1_addHouse_16 ?_
  refine g_put (pc := 17) (ws' := [oX1 a_t (c_t_houses + 1) c_t_comers c_t_evening a_t_lists a_t_kindOf a_t_goes a_t_comes a_t_likings, aI E a_t_lists 4 (upd r_t_lists (ix c_t_houses) 0)]) 0 C fp_X1_9 rfl rfl rfl (Nat.le_of_ble_eq_true rfl) rfl dX1_addHouse_17 ?_
  obtain rfl := Option.some.inj h
  exact g_vret (pc := 20) C K dX1_addHouse_20
theorem dX1_addComer_0 : decode cX1_addComer 0 = .ok (.aload_n 0, 1) := by decide +kernel
theorem dX1_addComer_1 : decode cX1_addComer 1 = .ok (.getfield 25, 3) := by decide +kernel
theorem dX1_addComer_4 : decode cX1_addComer 4 = .ok (.aload_n 0, 1) := by decide +kernel
theorem dX1_addComer_5 : decode cX1_addComer 5 = .ok (.getfield 15, 3) := by decide +kernel
theorem dX1_addComer_8 : decode cX1_addComer 8 = .ok (.iload_n 1, 1) := by decide +kernel
theorem dX1_addComer_9 : decode cX1_addComer 9 = .ok (.iastore, 1) := by decide +kernel
theorem dX1_addComer_10 : decode cX1_addComer 10 = .ok (.aload_n 0, 1) := by decide +kernel
theorem dX1_addComer_11 : decode cX1_addComer 11 = .ok (.getfield 28, 3) := by decide +kernel
theorem dX1_addComer_14 : decode cX1_addComer 14 = .ok (.aload_n 0, 1) := by decide +kernel
theorem dX1_addComer_15 : decode cX1_addComer 15 = .ok (.getfield 15, 3) := by decide +kernel
theorem dX1_addComer_18 : decode cX1_addComer 18 = .ok (.iload_n 2, 1) := by decide +kernel
theorem dX1_addComer_19 : decode cX1_addComer 19 = .ok (.iastore, 1) := by decide +kernel
theorem dX1_addComer_20 : decode cX1_addComer 20 = .ok (.aload_n 0, 1) := by decide +kernel
theorem dX1_addComer_21 : decode cX1_addComer 21 = .ok (.getfield 31, 3) := by decide +kernel
theorem dX1_addComer_24 : decode cX1_addComer 24 = .ok (.aload_n 0, 1) := by decide +kernel
theorem dX1_addComer_25 : decode cX1_addComer 25 = .ok (.getfield 15, 3) := by decide +kernel
theorem dX1_addComer_28 : decode cX1_addComer 28 = .ok (.iload_n 3, 1) := by decide +kernel
theorem dX1_addComer_29 : decode cX1_addComer 29 = .ok (.iastore, 1) := by decide +kernel
theorem dX1_addComer_30 : decode cX1_addComer 30 = .ok (.iconst 0, 1) := by decide +kernel
theorem dX1_addComer_31 : decode cX1_addComer 31 = .ok (.istore 5, 2) := by decide +kernel
theorem dX1_addComer_33 : decode cX1_addComer 33 = .ok (.iload 5, 2) := by decide +kernel
theorem dX1_addComer_35 : decode cX1_addComer 35 = .ok (.iconst 4, 1) := by decide +kernel
theorem dX1_addComer_36 : decode cX1_addComer 36 = .ok (.if_icmp .ge 21, 3) := by decide +kernel
theorem dX1_addComer_39 : decode cX1_addComer 39 = .ok (.aload_n 0, 1) := by decide +kernel
theorem dX1_addComer_40 : decode cX1_addComer 40 = .ok (.iload 5, 2) := by decide +kernel
theorem dX1_addComer_42 : decode cX1_addComer 42 = .ok (.aload_n 0, 1) := by decide +kernel
theorem dX1_addComer_43 : decode cX1_addComer 43 = .ok (.getfield 15, 3) := by decide +kernel
theorem dX1_addComer_46 : decode cX1_addComer 46 = .ok (.iload 4, 2) := by decide +kernel
theorem dX1_addComer_48 : decode cX1_addComer 48 = .ok (.invokevirtual 68, 3) := by decide +kernel
theorem dX1_addComer_51 : decode cX1_addComer 51 = .ok (.iinc 5 1, 3) := by decide +kernel
theorem dX1_addComer_54 : decode cX1_addComer 54 = .ok (.goto (-21), 3) := by decide +kernel
theorem dX1_addComer_57 : decode cX1_addComer 57 = .ok (.aload_n 0, 1) := by decide +kernel
theorem dX1_addComer_58 : decode cX1_addComer 58 = .ok (.dup, 1) := by decide +kernel
theorem dX1_addComer_59 : decode cX1_addComer 59 = .ok (.getfield 15, 3) := by decide +kernel
theorem dX1_addComer_62 : decode cX1_addComer 62 = .ok (.iconst 1, 1) := by decide +kernel
theorem dX1_addComer_63 : decode cX1_addComer 63 = .ok (.iadd, 1) := by decide +kernel
theorem dX1_addComer_64 : decode cX1_addComer 64 = .ok (.putfield 15, 3) := by decide +kernel
theorem dX1_addComer_67 : decode cX1_addComer 67 = .ok (.return_, 1) := by decide +kernel
def L_X1_addComer_33 (c_t_comers : Int32) (x4 : Int32) : Nat → Int32 → (Nat → Int32) → Option ((Nat → Int32))
  | 0, _, _ => none
  | n + 1, y1, y2 =>
    if 4 ≤ y1 then
      (some y2)
    else
      ((f_X1_setLiked y2 y1 c_t_comers x4).bind (fun (v3 : (Nat → Int32)) =>
        L_X1_addComer_33 c_t_comers x4 n (y1 + 1) v3))
def f_X1_addComer (c_t_comers : Int32) (r_t_comes : (Nat → Int32)) (r_t_goes : (Nat → Int32)) (r_t_kindOf : (Nat → Int32)) (r_t_likings : (Nat → Int32)) (x1 : Int32) (x2 : Int32) (x3 : Int32) (x4 : Int32) : Option (Int32 × (Nat → Int32) × (Nat → Int32) × (Nat → Int32) × (Nat → Int32)) :=
  if inb c_t_comers 6 then
    (if inb c_t_comers 6 then
      (if inb c_t_comers 6 then
        ((L_X1_addComer_33 c_t_comers x4 400 0 r_t_likings).bind (fun (v5 : (Nat → Int32)) =>
          some ((c_t_comers + 1, upd r_t_comes (ix c_t_comers) x3, upd r_t_goes (ix c_t_comers) x2, upd r_t_kindOf (ix c_t_comers) x1, v5))))
      else none)
    else none)
  else none
abbrev rm_X1_addComer : Room := { frames := 1, cells := 0, slots := 0, locals := 23 }
set_option maxHeartbeats 4000000 in
set_option maxRecDepth 100000 in
theorem lp_X1_addComer_33 {E : Ev} {X : Cx} {a_t a_t_comes a_t_goes a_t_kindOf a_t_likings a_t_lists : Nat} (c_t_houses : Int32) (c_t_comers : Int32) (c_t_evening : Int32) (r_t_comes : (Nat → Int32)) (r_t_goes : (Nat → Int32)) (r_t_kindOf : (Nat → Int32)) (x1 : Int32) (x2 : Int32) (x3 : Int32) (x4 : Int32) (C : CX E X cX1_addComer RX1 6 rm_X1_addComer) : ∀ (n : Nat) (y1 : Int32) (y2 : (Nat → Int32)) (v : (Nat → Int32)), L_X1_addComer_33 c_t_comers x4 n y1 y2 = some v → G E X 0 0 [oX1 a_t c_t_houses c_t_comers c_t_evening a_t_lists a_t_kindOf a_t_goes a_t_comes a_t_likings, aI E a_t_comes 6 (upd r_t_comes (ix c_t_comers) x3), aI E a_t_goes 6 (upd r_t_goes (ix c_t_comers) x2), aI E a_t_kindOf 6 (upd r_t_kindOf (ix c_t_comers) x1), aI E a_t_likings 24 v] [(0, .ref a_t)] 57 [] → G E X 0 0 [oX1 a_t c_t_houses c_t_comers c_t_evening a_t_lists a_t_kindOf a_t_goes a_t_comes a_t_likings, aI E a_t_comes 6 (upd r_t_comes (ix c_t_comers) x3), aI E a_t_goes 6 (upd r_t_goes (ix c_t_comers) x2), aI E a_t_kindOf 6 (upd r_t_kindOf (ix c_t_comers) x1), aI E a_t_likings 24 y2] [(0, .ref a_t), (4, .int x4), (5, .int y1)] 33 [] := by
  intro n
  induction n with
  | zero => intro _ _ _ h; cases h
  | succ n ih =>
    intro y1 y2 v h kk
    rw [L_X1_addComer_33] at h
    refine g_iload (pc := 33) C dX1_addComer_33 2 rfl ?_
    refine g_iconst (pc := 35) (v := 4) C dX1_addComer_35 (by decide) ?_
    refine b_icmp_ge (pc := 36) 57 C dX1_addComer_36 (by decide) h (fun _ h => ?_) (fun _ h => ?_)
    · obtain rfl := Option.some.inj h
      refine g_lv [0] (lv' := [(0, .ref a_t)]) rfl ?_
      exact kk
    · refine g_aload_n (pc := 39) C dX1_addComer_39 0 rfl ?_
      refine g_iload (pc := 40) C dX1_addComer_40 2 rfl ?_
      refine g_aload_n (pc := 42) C dX1_addComer_42 0 rfl ?_
      refine g_get (pc := 43) 0 C fl_X1_15 rfl rfl dX1_addComer_43 ?_
      refine g_iload (pc := 46) C dX1_addComer_46 1 rfl ?_
      obtain ⟨v3, hv3, h⟩ := o_bnd h
      refine g_callV (pc := 48) (ws' := [oX1 a_t c_t_houses c_t_comers c_t_evening a_t_lists a_t_kindOf a_t_goes a_t_comes a_t_likings, aI E a_t_comes 6 (upd r_t_comes (ix c_t_comers) x3), aI E a_t_goes 6 (upd r_t_goes (ix c_t_comers) x2), aI E a_t_kindOf 6 (upd r_t_kindOf (ix c_t_comers) x1), aI E a_t_likings 24 v3]) (st1 := []) C mv_X1_68 (k_X1_setLiked E a_t a_t_likings a_t_lists a_t_kindOf a_t_goes a_t_comes c_t_houses c_t_comers c_t_evening y2 y1 c_t_comers x4 v3 hv3) [0, 4] rfl (by decide +kernel) rfl [some 0, none, none, none, some 1] 5 (by decide +kernel) rfl rfl 0 rfl rfl ⟨by decide, by decide⟩ ⟨rfl, rfl⟩ ⟨Nat.zero_le _, Nat.zero_le _⟩ rfl rfl rfl (Nat.le_of_ble_eq_true rfl) dX1_addComer_48 ?_
      refine g_iinc (pc := 51) (v := y1 + 1) (lv' := [(5, .int (y1 + 1)), (0, .ref a_t), (4, .int x4)]) C dX1_addComer_51 2 rfl rfl (by decide) rfl ?_
      refine g_goto (pc := 54) 33 C dX1_addComer_54 (by decide) ?_
      refine g_lv [1, 2, 0] (lv' := [(0, .ref a_t), (4, .int x4), (5, .int (y1 + 1))]) rfl ?_
      exact ih _ _ _ h kk
set_option maxHeartbeats 4000000 in
set_option maxRecDepth 100000 in
theorem k_X1_addComer (E : Ev) (a_t a_t_comes a_t_goes a_t_kindOf a_t_likings a_t_lists : Nat) (c_t_houses : Int32) (c_t_comers : Int32) (c_t_evening : Int32) (r_t_comes : (Nat → Int32)) (r_t_goes : (Nat → Int32)) (r_t_kindOf : (Nat → Int32)) (r_t_likings : (Nat → Int32)) (x1 : Int32) (x2 : Int32) (x3 : Int32) (x4 : Int32) (v : Int32 × (Nat → Int32) × (Nat → Int32) × (Nat → Int32) × (Nat → Int32)) (h : f_X1_addComer c_t_comers r_t_comes r_t_goes r_t_kindOf r_t_likings x1 x2 x3 x4 = some v) : Mt E yX1_addComer cX1_addComer 6 none rm_X1_addComer [.ref a_t, .int x1, .int x2, .int x3, .int x4] [oX1 a_t c_t_houses c_t_comers c_t_evening a_t_lists a_t_kindOf a_t_goes a_t_comes a_t_likings, aI E a_t_comes 6 r_t_comes, aI E a_t_goes 6 r_t_goes, aI E a_t_kindOf 6 r_t_kindOf, aI E a_t_likings 24 r_t_likings] [oX1 a_t c_t_houses v.1 c_t_evening a_t_lists a_t_kindOf a_t_goes a_t_comes a_t_likings, aI E a_t_comes 6 v.2.1, aI E a_t_goes 6 v.2.2.1, aI E a_t_kindOf 6 v.2.2.2.1, aI E a_t_likings 24 v.2.2.2.2] none := by
  refine Mt.intro (lv := [(0, .ref a_t), (1, .int x1), (2, .int x2), (3, .int x3), (4, .int x4)]) (by decide +kernel) (Nat.le_of_ble_eq_true rfl) rfl (fun X C K => ?_)
  have C : CX E X cX1_addComer RX1 6 rm_X1_addComer := C
  rw [f_X1_addComer] at h
  refine g_aload_n (pc := 0) C dX1_addComer_0 0 rfl ?_
  refine g_get (pc := 1) 0 C fl_X1_25 rfl rfl dX1_addComer_1 ?_
  refine g_aload_n (pc := 4) C dX1_addComer_4 0 rfl ?_
  refine g_get (pc := 5) 0 C fl_X1_15 rfl rfl dX1_addComer_5 ?_
  refine g_iload_n (pc := 8) C dX1_addComer_8 1 rfl ?_
  refine b_iast (pc := 9) (ws' := [oX1 a_t c_t_houses c_t_comers c_t_evening a_t_lists a_t_kindOf a_t_goes a_t_comes a_t_likings, aI E a_t_comes 6 r_t_comes, aI E a_t_goes 6 r_t_goes, aI E a_t_kindOf 6 (upd r_t_kindOf (ix c_t_comers) x1), aI E a_t_likings 24 r_t_likings]) 3 C rfl rfl dX1_addComer_9 h (fun _ h => ?_)
  refine g_aload_n (pc := 10) C dX1_addComer_10 0 rfl ?_
  refine g_get (pc := 11) 0 C fl_X1_28 rfl rfl dX1_addComer_11 ?_
  refine g_aload_n (pc := 14) C dX1_addComer_14 0 rfl ?_
  refine g_get (pc := 15) 0 C fl_X1_15 rfl rfl dX1_addComer_15 ?_
  refine g_iload_n (pc := 18) C dX1_addComer_18 2 rfl ?_
  refine b_iast (pc := 19) (ws' := [oX1 a_t c_t_houses c_t_comers c_t_evening a_t_lists a_t_kindOf a_t_goes a_t_comes a_t_likings, aI E a_t_comes 6 r_t_comes, aI E a_t_goes 6 (upd r_t_goes (ix c_t_comers) x2), aI E a_t_kindOf 6 (upd r_t_kindOf (ix c_t_comers) x1), aI E a_t_likings 24 r_t_likings]) 2 C rfl rfl dX1_addComer_19 h (fun _ h => ?_)
  refine g_aload_n (pc := 20) C dX1_addComer_20 0 rfl ?_
  refine g_get (pc := 21) 0 C fl_X1_31 rfl rfl dX1_addComer_21 ?_
  refine g_aload_n (pc := 24) C dX1_addComer_24 0 rfl ?_
  refine g_get (pc := 25) 0 C fl_X1_15 rfl rfl dX1_addComer_25 ?_
  refine g_iload_n (pc := 28) C dX1_addComer_28 3 rfl ?_
  refine b_iast (pc := 29) (ws' := [oX1 a_t c_t_houses c_t_comers c_t_evening a_t_lists a_t_kindOf a_t_goes a_t_comes a_t_likings, aI E a_t_comes 6 (upd r_t_comes (ix c_t_comers) x3), aI E a_t_goes 6 (upd r_t_goes (ix c_t_comers) x2), aI E a_t_kindOf 6 (upd r_t_kindOf (ix c_t_comers) x1), aI E a_t_likings 24 r_t_likings]) 1 C rfl rfl dX1_addComer_29 h (fun _ h => ?_)
  refine g_iconst (pc := 30) (v := 0) C dX1_addComer_30 (by decide) ?_
  refine g_istore (pc := 31) (lv' := [(5, .int 0), (0, .ref a_t), (1, .int x1), (2, .int x2), (3, .int x3), (4, .int x4)]) C dX1_addComer_31 (by decide) rfl ?_
  obtain ⟨v5, hv5, h⟩ := o_bnd h
  refine g_lv [1, 5, 0] (lv' := [(0, .ref a_t), (4, .int x4), (5, .int 0)]) rfl ?_
  refine lp_X1_addComer_33 c_t_houses c_t_comers c_t_evening r_t_comes r_t_goes r_t_kindOf x1 x2 x3 x4 C 400 _ _ _ hv5 ?_
  refine g_aload_n (pc := 57) C dX1_addComer_57 0 rfl ?_
  refine g_dup (pc := 58) C dX1_addComer_58 rfl ?_
  refine g_get (pc := 59) 0 C fl_X1_15 rfl rfl dX1_addComer_59 ?_
  refine g_iconst (pc := 62) (v := 1) C dX1_addComer_62 (by decide) ?_
  refine g_iadd (pc := 63) C dX1_addComer_63 ?_
  refine g_put (pc := 64) (ws' := [oX1 a_t c_t_houses (c_t_comers + 1) c_t_evening a_t_lists a_t_kindOf a_t_goes a_t_comes a_t_likings, aI E a_t_comes 6 (upd r_t_comes (ix c_t_comers) x3), aI E a_t_goes 6 (upd r_t_goes (ix c_t_comers) x2), aI E a_t_kindOf 6 (upd r_t_kindOf (ix c_t_comers) x1), aI E a_t_likings 24 v5]) 0 C fp_X1_15 rfl rfl rfl (Nat.le_of_ble_eq_true rfl) rfl dX1_addComer_64 ?_
  obtain rfl := Option.some.inj h
  exact g_vret (pc := 67) C K dX1_addComer_67
theorem dX1_namesOnlyWhatThereIs_0 : decode cX1_namesOnlyWhatThereIs 0 = .ok (.iconst 0, 1) := by decide +kernel
theorem dX1_namesOnlyWhatThereIs_1 : decode cX1_namesOnlyWhatThereIs 1 = .ok (.istore_n 1, 1) := by decide +kernel
theorem dX1_namesOnlyWhatThereIs_2 : decode cX1_namesOnlyWhatThereIs 2 = .ok (.iload_n 1, 1) := by decide +kernel
theorem dX1_namesOnlyWhatThereIs_3 : decode cX1_namesOnlyWhatThereIs 3 = .ok (.aload_n 0, 1) := by decide +kernel
theorem dX1_namesOnlyWhatThereIs_4 : decode cX1_namesOnlyWhatThereIs 4 = .ok (.getfield 9, 3) := by decide +kernel
theorem dX1_namesOnlyWhatThereIs_7 : decode cX1_namesOnlyWhatThereIs 7 = .ok (.if_icmp .ge 25, 3) := by decide +kernel
theorem dX1_namesOnlyWhatThereIs_10 : decode cX1_namesOnlyWhatThereIs 10 = .ok (.aload_n 0, 1) := by decide +kernel
theorem dX1_namesOnlyWhatThereIs_11 : decode cX1_namesOnlyWhatThereIs 11 = .ok (.getfield 21, 3) := by decide +kernel
theorem dX1_namesOnlyWhatThereIs_14 : decode cX1_namesOnlyWhatThereIs 14 = .ok (.iload_n 1, 1) := by decide +kernel
theorem dX1_namesOnlyWhatThereIs_15 : decode cX1_namesOnlyWhatThereIs 15 = .ok (.iaload, 1) := by decide +kernel
theorem dX1_namesOnlyWhatThereIs_16 : decode cX1_namesOnlyWhatThereIs 16 = .ok (.aload_n 0, 1) := by decide +kernel
theorem dX1_namesOnlyWhatThereIs_17 : decode cX1_namesOnlyWhatThereIs 17 = .ok (.getfield 15, 3) := by decide +kernel
theorem dX1_namesOnlyWhatThereIs_20 : decode cX1_namesOnlyWhatThereIs 20 = .ok (.ishr, 1) := by decide +kernel
theorem dX1_namesOnlyWhatThereIs_21 : decode cX1_namesOnlyWhatThereIs 21 = .ok (.ifCond .eq 5, 3) := by decide +kernel
theorem dX1_namesOnlyWhatThereIs_24 : decode cX1_namesOnlyWhatThereIs 24 = .ok (.iconst 0, 1) := by decide +kernel
theorem dX1_namesOnlyWhatThereIs_25 : decode cX1_namesOnlyWhatThereIs 25 = .ok (.ireturn, 1) := by decide +kernel
theorem dX1_namesOnlyWhatThereIs_26 : decode cX1_namesOnlyWhatThereIs 26 = .ok (.iinc 1 1, 3) := by decide +kernel
theorem dX1_namesOnlyWhatThereIs_29 : decode cX1_namesOnlyWhatThereIs 29 = .ok (.goto (-27), 3) := by decide +kernel
theorem dX1_namesOnlyWhatThereIs_32 : decode cX1_namesOnlyWhatThereIs 32 = .ok (.iconst 0, 1) := by decide +kernel
theorem dX1_namesOnlyWhatThereIs_33 : decode cX1_namesOnlyWhatThereIs 33 = .ok (.istore_n 1, 1) := by decide +kernel
theorem dX1_namesOnlyWhatThereIs_34 : decode cX1_namesOnlyWhatThereIs 34 = .ok (.iload_n 1, 1) := by decide +kernel
theorem dX1_namesOnlyWhatThereIs_35 : decode cX1_namesOnlyWhatThereIs 35 = .ok (.aload_n 0, 1) := by decide +kernel
theorem dX1_namesOnlyWhatThereIs_36 : decode cX1_namesOnlyWhatThereIs 36 = .ok (.getfield 15, 3) := by decide +kernel
theorem dX1_namesOnlyWhatThereIs_39 : decode cX1_namesOnlyWhatThereIs 39 = .ok (.if_icmp .ge 24, 3) := by decide +kernel
theorem dX1_namesOnlyWhatThereIs_42 : decode cX1_namesOnlyWhatThereIs 42 = .ok (.aload_n 0, 1) := by decide +kernel
theorem dX1_namesOnlyWhatThereIs_43 : decode cX1_namesOnlyWhatThereIs 43 = .ok (.aload_n 0, 1) := by decide +kernel
theorem dX1_namesOnlyWhatThereIs_44 : decode cX1_namesOnlyWhatThereIs 44 = .ok (.getfield 28, 3) := by decide +kernel
theorem dX1_namesOnlyWhatThereIs_47 : decode cX1_namesOnlyWhatThereIs 47 = .ok (.iload_n 1, 1) := by decide +kernel
theorem dX1_namesOnlyWhatThereIs_48 : decode cX1_namesOnlyWhatThereIs 48 = .ok (.iaload, 1) := by decide +kernel
theorem dX1_namesOnlyWhatThereIs_49 : decode cX1_namesOnlyWhatThereIs 49 = .ok (.invokevirtual 75, 3) := by decide +kernel
theorem dX1_namesOnlyWhatThereIs_52 : decode cX1_namesOnlyWhatThereIs 52 = .ok (.ifCond .eq 5, 3) := by decide +kernel
theorem dX1_namesOnlyWhatThereIs_55 : decode cX1_namesOnlyWhatThereIs 55 = .ok (.iconst 0, 1) := by decide +kernel
theorem dX1_namesOnlyWhatThereIs_56 : decode cX1_namesOnlyWhatThereIs 56 = .ok (.ireturn, 1) := by decide +kernel
theorem dX1_namesOnlyWhatThereIs_57 : decode cX1_namesOnlyWhatThereIs 57 = .ok (.iinc 1 1, 3) := by decide +kernel
theorem dX1_namesOnlyWhatThereIs_60 : decode cX1_namesOnlyWhatThereIs 60 = .ok (.goto (-26), 3) := by decide +kernel
theorem dX1_namesOnlyWhatThereIs_63 : decode cX1_namesOnlyWhatThereIs 63 = .ok (.iconst 1, 1) := by decide +kernel
theorem dX1_namesOnlyWhatThereIs_64 : decode cX1_namesOnlyWhatThereIs 64 = .ok (.ireturn, 1) := by decide +kernel
def L_X1_namesOnlyWhatThereIs_2 (c_t_houses : Int32) (c_t_comers : Int32) (r_t_lists : (Nat → Int32)) : Nat → Int32 → Option ((Int32) ⊕ (Unit))
  | 0, _ => none
  | n + 1, y1 =>
    if c_t_houses ≤ y1 then
      (some (.inr (())))
    else
      (if inb y1 4 then
        (if ((r_t_lists (ix y1)) >>> (c_t_comers &&& 31)) = 0 then
          (L_X1_namesOnlyWhatThereIs_2 c_t_houses c_t_comers r_t_lists n (y1 + 1))
        else
          (some (.inl 0)))
      else none)
def L_X1_namesOnlyWhatThereIs_34 (c_t_houses : Int32) (c_t_comers : Int32) (r_t_goes : (Nat → Int32)) : Nat → Int32 → Option ((Int32) ⊕ (Unit))
  | 0, _ => none
  | n + 1, y4 =>
    if c_t_comers ≤ y4 then
      (some (.inr (())))
    else
      (if inb y4 6 then
        ((f_X1_noDestination c_t_houses (r_t_goes (ix y4))).bind (fun (v5 : Int32) =>
          if v5 = 0 then
            (L_X1_namesOnlyWhatThereIs_34 c_t_houses c_t_comers r_t_goes n (y4 + 1))
          else
            (some (.inl 0))))
      else none)
def f_X1_namesOnlyWhatThereIs (c_t_houses : Int32) (c_t_comers : Int32) (r_t_goes : (Nat → Int32)) (r_t_lists : (Nat → Int32)) : Option (Int32) :=
  (L_X1_namesOnlyWhatThereIs_2 c_t_houses c_t_comers r_t_lists 400 0).bind (fun o => sel (fun (w9 : Int32) => some w9) (fun (v3 : Unit) =>
    (L_X1_namesOnlyWhatThereIs_34 c_t_houses c_t_comers r_t_goes 400 0).bind (fun o => sel (fun (w8 : Int32) => some w8) (fun (v7 : Unit) =>
      some 1) o)) o)
abbrev rm_X1_namesOnlyWhatThereIs : Room := { frames := 1, cells := 0, slots := 0, locals := 21 }
set_option maxHeartbeats 4000000 in
set_option maxRecDepth 100000 in
theorem lp_X1_namesOnlyWhatThereIs_2 {E : Ev} {X : Cx} {a_t a_t_goes a_t_lists a_t_kindOf a_t_comes a_t_likings : Nat} (c_t_houses : Int32) (c_t_comers : Int32) (c_t_evening : Int32) (r_t_goes : (Nat → Int32)) (r_t_lists : (Nat → Int32)) (C : CX E X cX1_namesOnlyWhatThereIs RX1 2 rm_X1_namesOnlyWhatThereIs) : ∀ (n : Nat) (y1 : Int32) (o : ((Int32) ⊕ (Unit))), L_X1_namesOnlyWhatThereIs_2 c_t_houses c_t_comers r_t_lists n y1 = some o → (∀ w, o = .inl w → QK E X 0 0 (some .boolean) [oX1 a_t c_t_houses c_t_comers c_t_evening a_t_lists a_t_kindOf a_t_goes a_t_comes a_t_likings, aI E a_t_goes 6 r_t_goes, aI E a_t_lists 4 r_t_lists] (some (.int w))) → (∀ v, o = .inr v → G E X 0 0 [oX1 a_t c_t_houses c_t_comers c_t_evening a_t_lists a_t_kindOf a_t_goes a_t_comes a_t_likings, aI E a_t_goes 6 r_t_goes, aI E a_t_lists 4 r_t_lists] [(0, .ref a_t)] 32 []) → G E X 0 0 [oX1 a_t c_t_houses c_t_comers c_t_evening a_t_lists a_t_kindOf a_t_goes a_t_comes a_t_likings, aI E a_t_goes 6 r_t_goes, aI E a_t_lists 4 r_t_lists] [(0, .ref a_t), (1, .int y1)] 2 [] := by
  intro n
  induction n with
  | zero => intro _ _ h; cases h
  | succ n ih =>
    intro y1 o h kr kx
    rw [L_X1_namesOnlyWhatThereIs_2] at h
    refine g_iload_n (pc := 2) C dX1_namesOnlyWhatThereIs_2 1 rfl ?_
    refine g_aload_n (pc := 3) C dX1_namesOnlyWhatThereIs_3 0 rfl ?_
    refine g_get (pc := 4) 0 C fl_X1_9 rfl rfl dX1_namesOnlyWhatThereIs_4 ?_
    refine b_icmp_ge (pc := 7) 32 C dX1_namesOnlyWhatThereIs_7 (by decide) h (fun _ h => ?_) (fun _ h => ?_)
    · obtain rfl := Option.some.inj h
      refine g_lv [0] (lv' := [(0, .ref a_t)]) rfl ?_
      exact kx _ rfl
    · refine g_aload_n (pc := 10) C dX1_namesOnlyWhatThereIs_10 0 rfl ?_
      refine g_get (pc := 11) 0 C fl_X1_21 rfl rfl dX1_namesOnlyWhatThereIs_11 ?_
      refine g_iload_n (pc := 14) C dX1_namesOnlyWhatThereIs_14 1 rfl ?_
      refine b_iald (pc := 15) 2 C rfl dX1_namesOnlyWhatThereIs_15 h (fun _ h => ?_)
      refine g_aload_n (pc := 16) C dX1_namesOnlyWhatThereIs_16 0 rfl ?_
      refine g_get (pc := 17) 0 C fl_X1_15 rfl rfl dX1_namesOnlyWhatThereIs_17 ?_
      refine g_ishr (pc := 20) C dX1_namesOnlyWhatThereIs_20 ?_
      refine b_if_eq (pc := 21) 26 C dX1_namesOnlyWhatThereIs_21 (by decide) h (fun _ h => ?_) (fun _ h => ?_)
      · refine g_iinc (pc := 26) (v := y1 + 1) (lv' := [(1, .int (y1 + 1)), (0, .ref a_t)]) C dX1_namesOnlyWhatThereIs_26 1 rfl rfl (by decide) rfl ?_
        refine g_goto (pc := 29) 2 C dX1_namesOnlyWhatThereIs_29 (by decide) ?_
        refine g_lv [1, 0] (lv' := [(0, .ref a_t), (1, .int (y1 + 1))]) rfl ?_
        exact ih _ _ h kr kx
      · refine g_iconst (pc := 24) (v := 0) C dX1_namesOnlyWhatThereIs_24 (by decide) ?_
        obtain rfl := Option.some.inj h
        exact g_zret (pc := 25) C (kr _ rfl) rfl dX1_namesOnlyWhatThereIs_25
set_option maxHeartbeats 4000000 in
set_option maxRecDepth 100000 in
theorem lp_X1_namesOnlyWhatThereIs_34 {E : Ev} {X : Cx} {a_t a_t_goes a_t_lists a_t_kindOf a_t_comes a_t_likings : Nat} (c_t_houses : Int32) (c_t_comers : Int32) (c_t_evening : Int32) (r_t_goes : (Nat → Int32)) (r_t_lists : (Nat → Int32)) (C : CX E X cX1_namesOnlyWhatThereIs RX1 2 rm_X1_namesOnlyWhatThereIs) : ∀ (n : Nat) (y4 : Int32) (o : ((Int32) ⊕ (Unit))), L_X1_namesOnlyWhatThereIs_34 c_t_houses c_t_comers r_t_goes n y4 = some o → (∀ w, o = .inl w → QK E X 0 0 (some .boolean) [oX1 a_t c_t_houses c_t_comers c_t_evening a_t_lists a_t_kindOf a_t_goes a_t_comes a_t_likings, aI E a_t_goes 6 r_t_goes, aI E a_t_lists 4 r_t_lists] (some (.int w))) → (∀ v, o = .inr v → G E X 0 0 [oX1 a_t c_t_houses c_t_comers c_t_evening a_t_lists a_t_kindOf a_t_goes a_t_comes a_t_likings, aI E a_t_goes 6 r_t_goes, aI E a_t_lists 4 r_t_lists] [] 63 []) → G E X 0 0 [oX1 a_t c_t_houses c_t_comers c_t_evening a_t_lists a_t_kindOf a_t_goes a_t_comes a_t_likings, aI E a_t_goes 6 r_t_goes, aI E a_t_lists 4 r_t_lists] [(0, .ref a_t), (1, .int y4)] 34 [] := by
  intro n
  induction n with
  | zero => intro _ _ h; cases h
  | succ n ih =>
    intro y4 o h kr kx
    rw [L_X1_namesOnlyWhatThereIs_34] at h
    refine g_iload_n (pc := 34) C dX1_namesOnlyWhatThereIs_34 1 rfl ?_
    refine g_aload_n (pc := 35) C dX1_namesOnlyWhatThereIs_35 0 rfl ?_
    refine g_get (pc := 36) 0 C fl_X1_15 rfl rfl dX1_namesOnlyWhatThereIs_36 ?_
    refine b_icmp_ge (pc := 39) 63 C dX1_namesOnlyWhatThereIs_39 (by decide) h (fun _ h => ?_) (fun _ h => ?_)
    · obtain rfl := Option.some.inj h
      refine g_lv [] (lv' := []) rfl ?_
      exact kx _ rfl
    · refine g_aload_n (pc := 42) C dX1_namesOnlyWhatThereIs_42 0 rfl ?_
      refine g_aload_n (pc := 43) C dX1_namesOnlyWhatThereIs_43 0 rfl ?_
      refine g_get (pc := 44) 0 C fl_X1_28 rfl rfl dX1_namesOnlyWhatThereIs_44 ?_
      refine g_iload_n (pc := 47) C dX1_namesOnlyWhatThereIs_47 1 rfl ?_
      refine b_iald (pc := 48) 1 C rfl dX1_namesOnlyWhatThereIs_48 h (fun _ h => ?_)
      obtain ⟨v5, hv5, h⟩ := o_bnd h
      refine g_callV (pc := 49) (ws' := [oX1 a_t c_t_houses c_t_comers c_t_evening a_t_lists a_t_kindOf a_t_goes a_t_comes a_t_likings, aI E a_t_goes 6 r_t_goes, aI E a_t_lists 4 r_t_lists]) (st1 := [.int v5]) C mv_X1_75 (k_X1_noDestination E a_t a_t_lists a_t_kindOf a_t_goes a_t_comes a_t_likings c_t_houses c_t_comers c_t_evening (r_t_goes (ix y4)) v5 hv5) [0] rfl (by decide +kernel) rfl [some 0, none, none] 3 (by decide +kernel) rfl rfl 0 rfl rfl ⟨by decide, by decide⟩ ⟨rfl, rfl⟩ ⟨Nat.zero_le _, Nat.zero_le _⟩ rfl rfl rfl (Nat.le_of_ble_eq_true rfl) dX1_namesOnlyWhatThereIs_49 ?_
      refine b_if_eq (pc := 52) 57 C dX1_namesOnlyWhatThereIs_52 (by decide) h (fun _ h => ?_) (fun _ h => ?_)
      · refine g_iinc (pc := 57) (v := y4 + 1) (lv' := [(1, .int (y4 + 1)), (0, .ref a_t)]) C dX1_namesOnlyWhatThereIs_57 1 rfl rfl (by decide) rfl ?_
        refine g_goto (pc := 60) 34 C dX1_namesOnlyWhatThereIs_60 (by decide) ?_
        refine g_lv [1, 0] (lv' := [(0, .ref a_t), (1, .int (y4 + 1))]) rfl ?_
        exact ih _ _ h kr kx
      · refine g_iconst (pc := 55) (v := 0) C dX1_namesOnlyWhatThereIs_55 (by decide) ?_
        obtain rfl := Option.some.inj h
        exact g_zret (pc := 56) C (kr _ rfl) rfl dX1_namesOnlyWhatThereIs_56
set_option maxHeartbeats 4000000 in
set_option maxRecDepth 100000 in
theorem k_X1_namesOnlyWhatThereIs (E : Ev) (a_t a_t_goes a_t_lists a_t_kindOf a_t_comes a_t_likings : Nat) (c_t_houses : Int32) (c_t_comers : Int32) (c_t_evening : Int32) (r_t_goes : (Nat → Int32)) (r_t_lists : (Nat → Int32)) (v : Int32) (h : f_X1_namesOnlyWhatThereIs c_t_houses c_t_comers r_t_goes r_t_lists = some v) : Mt E yX1_namesOnlyWhatThereIs cX1_namesOnlyWhatThereIs 2 (some .boolean) rm_X1_namesOnlyWhatThereIs [.ref a_t] [oX1 a_t c_t_houses c_t_comers c_t_evening a_t_lists a_t_kindOf a_t_goes a_t_comes a_t_likings, aI E a_t_goes 6 r_t_goes, aI E a_t_lists 4 r_t_lists] [oX1 a_t c_t_houses c_t_comers c_t_evening a_t_lists a_t_kindOf a_t_goes a_t_comes a_t_likings, aI E a_t_goes 6 r_t_goes, aI E a_t_lists 4 r_t_lists] (some (.int v)) := by
  refine Mt.intro (lv := [(0, .ref a_t)]) (by decide +kernel) (Nat.le_of_ble_eq_true rfl) rfl (fun X C K => ?_)
  have C : CX E X cX1_namesOnlyWhatThereIs RX1 2 rm_X1_namesOnlyWhatThereIs := C
  rw [f_X1_namesOnlyWhatThereIs] at h
  refine g_iconst (pc := 0) (v := 0) C dX1_namesOnlyWhatThereIs_0 (by decide) ?_
  refine g_istore_n (pc := 1) (lv' := [(1, .int 0), (0, .ref a_t)]) C dX1_namesOnlyWhatThereIs_1 (by decide) rfl ?_
  rcases o_sel h with ⟨w9, hw9, h⟩ | ⟨v3, hv3, h⟩
  · obtain rfl := Option.some.inj h
    refine g_lv [1, 0] (lv' := [(0, .ref a_t), (1, .int 0)]) rfl ?_
    exact lp_X1_namesOnlyWhatThereIs_2 c_t_houses c_t_comers c_t_evening r_t_goes r_t_lists C 400 _ _ hw9 (fun _ e => by cases e; exact K) (fun _ e => by cases e)
  · refine g_lv [1, 0] (lv' := [(0, .ref a_t), (1, .int 0)]) rfl ?_
    refine lp_X1_namesOnlyWhatThereIs_2 c_t_houses c_t_comers c_t_evening r_t_goes r_t_lists C 400 _ _ hv3 (fun _ e => by cases e) (fun _ e => ?_)
    cases e
    refine g_iconst (pc := 32) (v := 0) C dX1_namesOnlyWhatThereIs_32 (by decide) ?_
    refine g_istore_n (pc := 33) (lv' := [(1, .int 0), (0, .ref a_t)]) C dX1_namesOnlyWhatThereIs_33 (by decide) rfl ?_
    rcases o_sel h with ⟨w8, hw8, h⟩ | ⟨v7, hv7, h⟩
    · obtain rfl := Option.some.inj h
      refine g_lv [1, 0] (lv' := [(0, .ref a_t), (1, .int 0)]) rfl ?_
      exact lp_X1_namesOnlyWhatThereIs_34 c_t_houses c_t_comers c_t_evening r_t_goes r_t_lists C 400 _ _ hw8 (fun _ e => by cases e; exact K) (fun _ e => by cases e)
    · refine g_lv [1, 0] (lv' := [(0, .ref a_t), (1, .int 0)]) rfl ?_
      refine lp_X1_namesOnlyWhatThereIs_34 c_t_houses c_t_comers c_t_evening r_t_goes r_t_lists C 400 _ _ hv7 (fun _ e => by cases e) (fun _ e => ?_)
      cases e
      refine g_iconst (pc := 63) (v := 1) C dX1_namesOnlyWhatThereIs_63 (by decide) ?_
      obtain rfl := Option.some.inj h
      exact g_zret (pc := 64) C K rfl dX1_namesOnlyWhatThereIs_64
