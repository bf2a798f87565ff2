theorem dX11_outside_0 : decode cX11_outside 0 = .ok (.iload_n 0, 1) := by decide +kernel
theorem dX11_outside_1 : decode cX11_outside 1 = .ok (.ifCond .lt 8, 3) := by decide +kernel
theorem dX11_outside_4 : decode cX11_outside 4 = .ok (.iload_n 0, 1) := by decide +kernel
theorem dX11_outside_5 : decode cX11_outside 5 = .ok (.iload_n 1, 1) := by decide +kernel
theorem dX11_outside_6 : decode cX11_outside 6 = .ok (.if_icmp .le 7, 3) := by decide +kernel
theorem dX11_outside_9 : decode cX11_outside 9 = .ok (.iconst 1, 1) := by decide +kernel
theorem dX11_outside_10 : decode cX11_outside 10 = .ok (.goto 4, 3) := by decide +kernel
theorem dX11_outside_13 : decode cX11_outside 13 = .ok (.iconst 0, 1) := by decide +kernel
theorem dX11_outside_14 : decode cX11_outside 14 = .ok (.ireturn, 1) := by decide +kernel
def f_X11_outside (x0 : Int32) (x1 : Int32) : Option (Int32) :=
  if x0 < 0 then
    (some 1)
  else
    (if x0 ≤ x1 then
      (some 0)
    else
      (some 1))
abbrev rm_X11_outside : Room := { frames := 0, cells := 0, slots := 0, locals := 0 }
set_option maxHeartbeats 4000000 in
set_option maxRecDepth 100000 in
theorem k_X11_outside (E : Ev) (x0 : Int32) (x1 : Int32) (v : Int32) (h : f_X11_outside x0 x1 = some v) : Mt E yX11_outside cX11_outside 2 (some .boolean) rm_X11_outside [.int x0, .int x1] [] [] (some (.int v)) := by
  refine Mt.intro (lv := [(0, .int x0), (1, .int x1)]) (by decide +kernel) (Nat.le_of_ble_eq_true rfl) rfl (fun X C K => ?_)
  have C : CX E X cX11_outside RX11 2 rm_X11_outside := C
  rw [f_X11_outside] at h
  refine g_iload_n (pc := 0) C dX11_outside_0 0 rfl ?_
  refine b_if_lt (pc := 1) 9 C dX11_outside_1 (by decide) h (fun _ h => ?_) (fun _ h => ?_)
  · refine g_iconst (pc := 9) (v := 1) C dX11_outside_9 (by decide) ?_
    refine g_goto (pc := 10) 14 C dX11_outside_10 (by decide) ?_
    obtain rfl := Option.some.inj h
    exact g_zret (pc := 14) C K rfl dX11_outside_14
  · refine g_iload_n (pc := 4) C dX11_outside_4 0 rfl ?_
    refine g_iload_n (pc := 5) C dX11_outside_5 1 rfl ?_
    refine b_icmp_le (pc := 6) 13 C dX11_outside_6 (by decide) h (fun _ h => ?_) (fun _ h => ?_)
    · refine g_iconst (pc := 13) (v := 0) C dX11_outside_13 (by decide) ?_
      obtain rfl := Option.some.inj h
      exact g_zret (pc := 14) C K rfl dX11_outside_14
    · refine g_iconst (pc := 9) (v := 1) C dX11_outside_9 (by decide) ?_
      refine g_goto (pc := 10) 14 C dX11_outside_10 (by decide) ?_
      obtain rfl := Option.some.inj h
      exact g_zret (pc := 14) C K rfl dX11_outside_14
theorem dX11_feed_0 : decode cX11_feed 0 = .ok (.iload_n 1, 1) := by decide +kernel
theorem dX11_feed_1 : decode cX11_feed 1 = .ok (.bipush 127, 2) := by decide +kernel
theorem dX11_feed_3 : decode cX11_feed 3 = .ok (.invokestatic 91, 3) := by decide +kernel
theorem dX11_feed_6 : decode cX11_feed 6 = .ok (.ifCond .eq 5, 3) := by decide +kernel
theorem dX11_feed_9 : decode cX11_feed 9 = .ok (.iconst (-1), 1) := by decide +kernel
theorem dX11_feed_10 : decode cX11_feed 10 = .ok (.ireturn, 1) := by decide +kernel
theorem dX11_feed_11 : decode cX11_feed 11 = .ok (.aload_n 0, 1) := by decide +kernel
theorem dX11_feed_12 : decode cX11_feed 12 = .ok (.getfield 12, 3) := by decide +kernel
theorem dX11_feed_15 : decode cX11_feed 15 = .ok (.iload_n 1, 1) := by decide +kernel
theorem dX11_feed_16 : decode cX11_feed 16 = .ok (.invokevirtual 95, 3) := by decide +kernel
theorem dX11_feed_19 : decode cX11_feed 19 = .ok (.ifCond .eq 13, 3) := by decide +kernel
theorem dX11_feed_22 : decode cX11_feed 22 = .ok (.aload_n 0, 1) := by decide +kernel
theorem dX11_feed_23 : decode cX11_feed 23 = .ok (.getfield 12, 3) := by decide +kernel
theorem dX11_feed_26 : decode cX11_feed 26 = .ok (.getfield 99, 3) := by decide +kernel
theorem dX11_feed_29 : decode cX11_feed 29 = .ok (.goto 5, 3) := by decide +kernel
theorem dX11_feed_32 : decode cX11_feed 32 = .ok (.bipush (-3), 2) := by decide +kernel
theorem dX11_feed_34 : decode cX11_feed 34 = .ok (.ireturn, 1) := by decide +kernel
def f_X11_feed (c_t_tape_length : Int32) (r_t_tape_bytes : (Nat → Int32)) (x1 : Int32) : Option (Int32 × Int32 × (Nat → Int32)) :=
  (f_X11_outside x1 127).bind (fun (v1 : Int32) =>
    if v1 = 0 then
      ((f_X8_put c_t_tape_length r_t_tape_bytes x1).bind (fun (v2 : Int32 × Int32 × (Nat → Int32)) =>
        if v2.1 = 0 then
          (some (((-3), v2.2.1, v2.2.2)))
        else
          (some ((v2.2.1, v2.2.1, v2.2.2)))))
    else
      (some (((-1), c_t_tape_length, r_t_tape_bytes))))
abbrev rm_X11_feed : Room := { frames := 1, cells := 0, slots := 0, locals := 21 }
set_option maxHeartbeats 4000000 in
set_option maxRecDepth 100000 in
theorem k_X11_feed (E : Ev) (a_t a_t_tape a_t_tape_bytes a_t_reader a_t_now a_t_seen a_t_trial a_t_advice a_t_odds a_t_guess a_t_images a_t_sheets : Nat) (c_t_tornFault : Int32) (c_t_tape_length : Int32) (r_t_tape_bytes : (Nat → Int32)) (x1 : Int32) (v : Int32 × Int32 × (Nat → Int32)) (h : f_X11_feed c_t_tape_length r_t_tape_bytes x1 = some v) : Mt E yX11_feed cX11_feed 2 (some .int) rm_X11_feed [.ref a_t, .int x1] [oX11 a_t a_t_tape a_t_reader a_t_now a_t_seen a_t_trial a_t_advice a_t_odds a_t_guess a_t_images a_t_sheets c_t_tornFault, oX8 a_t_tape a_t_tape_bytes c_t_tape_length, aI E a_t_tape_bytes 160 r_t_tape_bytes] [oX11 a_t a_t_tape a_t_reader a_t_now a_t_seen a_t_trial a_t_advice a_t_odds a_t_guess a_t_images a_t_sheets c_t_tornFault, oX8 a_t_tape a_t_tape_bytes v.2.1, aI E a_t_tape_bytes 160 v.2.2] (some (.int v.1)) := by
  refine Mt.intro (lv := [(0, .ref a_t), (1, .int x1)]) (by decide +kernel) (Nat.le_of_ble_eq_true rfl) rfl (fun X C K => ?_)
  have C : CX E X cX11_feed RX11 2 rm_X11_feed := C
  rw [f_X11_feed] at h
  refine g_iload_n (pc := 0) C dX11_feed_0 1 rfl ?_
  refine g_bipush (pc := 1) (v := 127) C dX11_feed_1 (by decide) ?_
  obtain ⟨v1, hv1, h⟩ := o_bnd h
  refine g_callS (pc := 3) (ws' := [oX11 a_t a_t_tape a_t_reader a_t_now a_t_seen a_t_trial a_t_advice a_t_odds a_t_guess a_t_images a_t_sheets c_t_tornFault, oX8 a_t_tape a_t_tape_bytes c_t_tape_length, aI E a_t_tape_bytes 160 r_t_tape_bytes]) (st1 := [.int v1]) C ms_X11_91 (k_X11_outside E x1 127 v1 hv1) [] rfl (by decide +kernel) rfl [none, none, none] 3 (by decide +kernel) rfl rfl ⟨by decide, by decide⟩ ⟨rfl, rfl⟩ ⟨Nat.zero_le _, Nat.zero_le _⟩ rfl rfl rfl (Nat.le_of_ble_eq_true rfl) dX11_feed_3 ?_
  refine b_if_eq (pc := 6) 11 C dX11_feed_6 (by decide) h (fun _ h => ?_) (fun _ h => ?_)
  · refine g_aload_n (pc := 11) C dX11_feed_11 0 rfl ?_
    refine g_get (pc := 12) 0 C fl_X11_12 rfl rfl dX11_feed_12 ?_
    refine g_iload_n (pc := 15) C dX11_feed_15 1 rfl ?_
    obtain ⟨v2, hv2, h⟩ := o_bnd h
    refine g_callV (pc := 16) (ws' := [oX11 a_t a_t_tape a_t_reader a_t_now a_t_seen a_t_trial a_t_advice a_t_odds a_t_guess a_t_images a_t_sheets c_t_tornFault, oX8 a_t_tape a_t_tape_bytes v2.2.1, aI E a_t_tape_bytes 160 v2.2.2]) (st1 := [.int v2.1]) C mv_X11_95 (k_X8_put E a_t_tape a_t_tape_bytes c_t_tape_length r_t_tape_bytes x1 v2 hv2) [1, 2] rfl (by decide +kernel) rfl [none, some 0, some 1] 3 (by decide +kernel) rfl rfl 0 rfl rfl ⟨by decide, by decide⟩ ⟨rfl, rfl⟩ ⟨Nat.zero_le _, Nat.zero_le _⟩ rfl rfl rfl (Nat.le_of_ble_eq_true rfl) dX11_feed_16 ?_
    refine b_if_eq (pc := 19) 32 C dX11_feed_19 (by decide) h (fun _ h => ?_) (fun _ h => ?_)
    · refine g_bipush (pc := 32) (v := (-3)) C dX11_feed_32 (by decide) ?_
      obtain rfl := Option.some.inj h
      exact g_iret (pc := 34) C K dX11_feed_34
    · refine g_aload_n (pc := 22) C dX11_feed_22 0 rfl ?_
      refine g_get (pc := 23) 0 C fl_X11_12 rfl rfl dX11_feed_23 ?_
      refine g_get (pc := 26) 1 C fl_X11_99 rfl rfl dX11_feed_26 ?_
      refine g_goto (pc := 29) 34 C dX11_feed_29 (by decide) ?_
      obtain rfl := Option.some.inj h
      exact g_iret (pc := 34) C K dX11_feed_34
  · refine g_iconst (pc := 9) (v := (-1)) C dX11_feed_9 (by decide) ?_
    obtain rfl := Option.some.inj h
    exact g_iret (pc := 10) C K dX11_feed_10
theorem dX11_end_0 : decode cX11_end 0 = .ok (.iload_n 1, 1) := by decide +kernel
theorem dX11_end_1 : decode cX11_end 1 = .ok (.aload_n 0, 1) := by decide +kernel
theorem dX11_end_2 : decode cX11_end 2 = .ok (.getfield 12, 3) := by decide +kernel
theorem dX11_end_5 : decode cX11_end 5 = .ok (.getfield 99, 3) := by decide +kernel
theorem dX11_end_8 : decode cX11_end 8 = .ok (.invokestatic 91, 3) := by decide +kernel
theorem dX11_end_11 : decode cX11_end 11 = .ok (.ifCond .eq 5, 3) := by decide +kernel
theorem dX11_end_14 : decode cX11_end 14 = .ok (.iconst (-1), 1) := by decide +kernel
theorem dX11_end_15 : decode cX11_end 15 = .ok (.ireturn, 1) := by decide +kernel
theorem dX11_end_16 : decode cX11_end 16 = .ok (.aload_n 0, 1) := by decide +kernel
theorem dX11_end_17 : decode cX11_end 17 = .ok (.getfield 12, 3) := by decide +kernel
theorem dX11_end_20 : decode cX11_end 20 = .ok (.getfield 99, 3) := by decide +kernel
theorem dX11_end_23 : decode cX11_end 23 = .ok (.istore_n 2, 1) := by decide +kernel
theorem dX11_end_24 : decode cX11_end 24 = .ok (.aload_n 0, 1) := by decide +kernel
theorem dX11_end_25 : decode cX11_end 25 = .ok (.getfield 12, 3) := by decide +kernel
theorem dX11_end_28 : decode cX11_end 28 = .ok (.iload_n 1, 1) := by decide +kernel
theorem dX11_end_29 : decode cX11_end 29 = .ok (.putfield 99, 3) := by decide +kernel
theorem dX11_end_32 : decode cX11_end 32 = .ok (.iload_n 2, 1) := by decide +kernel
theorem dX11_end_33 : decode cX11_end 33 = .ok (.ireturn, 1) := by decide +kernel
def f_X11_end (c_t_tape_length : Int32) (x1 : Int32) : Option (Int32 × Int32) :=
  (f_X11_outside x1 c_t_tape_length).bind (fun (v1 : Int32) =>
    if v1 = 0 then
      (some ((c_t_tape_length, x1)))
    else
      (some (((-1), c_t_tape_length))))
abbrev rm_X11_end : Room := { frames := 1, cells := 0, slots := 0, locals := 21 }
set_option maxHeartbeats 4000000 in
set_option maxRecDepth 100000 in
theorem k_X11_end (E : Ev) (a_t a_t_tape a_t_reader a_t_now a_t_seen a_t_trial a_t_advice a_t_odds a_t_guess a_t_images a_t_sheets a_t_tape_bytes : Nat) (c_t_tornFault : Int32) (c_t_tape_length : Int32) (x1 : Int32) (v : Int32 × Int32) (h : f_X11_end c_t_tape_length x1 = some v) : Mt E yX11_end cX11_end 3 (some .int) rm_X11_end [.ref a_t, .int x1] [oX11 a_t a_t_tape a_t_reader a_t_now a_t_seen a_t_trial a_t_advice a_t_odds a_t_guess a_t_images a_t_sheets c_t_tornFault, oX8 a_t_tape a_t_tape_bytes c_t_tape_length] [oX11 a_t a_t_tape a_t_reader a_t_now a_t_seen a_t_trial a_t_advice a_t_odds a_t_guess a_t_images a_t_sheets c_t_tornFault, oX8 a_t_tape a_t_tape_bytes v.2] (some (.int v.1)) := by
  refine Mt.intro (lv := [(0, .ref a_t), (1, .int x1)]) (by decide +kernel) (Nat.le_of_ble_eq_true rfl) rfl (fun X C K => ?_)
  have C : CX E X cX11_end RX11 3 rm_X11_end := C
  rw [f_X11_end] at h
  refine g_iload_n (pc := 0) C dX11_end_0 1 rfl ?_
  refine g_aload_n (pc := 1) C dX11_end_1 0 rfl ?_
  refine g_get (pc := 2) 0 C fl_X11_12 rfl rfl dX11_end_2 ?_
  refine g_get (pc := 5) 1 C fl_X11_99 rfl rfl dX11_end_5 ?_
  obtain ⟨v1, hv1, h⟩ := o_bnd h
  refine g_callS (pc := 8) (ws' := [oX11 a_t a_t_tape a_t_reader a_t_now a_t_seen a_t_trial a_t_advice a_t_odds a_t_guess a_t_images a_t_sheets c_t_tornFault, oX8 a_t_tape a_t_tape_bytes c_t_tape_length]) (st1 := [.int v1]) C ms_X11_91 (k_X11_outside E x1 c_t_tape_length v1 hv1) [] rfl (by decide +kernel) rfl [none, none] 2 (by decide +kernel) rfl rfl ⟨by decide, by decide⟩ ⟨rfl, rfl⟩ ⟨Nat.zero_le _, Nat.zero_le _⟩ rfl rfl rfl (Nat.le_of_ble_eq_true rfl) dX11_end_8 ?_
  refine b_if_eq (pc := 11) 16 C dX11_end_11 (by decide) h (fun _ h => ?_) (fun _ h => ?_)
  · refine g_aload_n (pc := 16) C dX11_end_16 0 rfl ?_
    refine g_get (pc := 17) 0 C fl_X11_12 rfl rfl dX11_end_17 ?_
    refine g_get (pc := 20) 1 C fl_X11_99 rfl rfl dX11_end_20 ?_
    refine g_istore_n (pc := 23) (lv' := [(2, .int c_t_tape_length), (0, .ref a_t), (1, .int x1)]) C dX11_end_23 (by decide) rfl ?_
    refine g_aload_n (pc := 24) C dX11_end_24 1 rfl ?_
    refine g_get (pc := 25) 0 C fl_X11_12 rfl rfl dX11_end_25 ?_
    refine g_iload_n (pc := 28) C dX11_end_28 2 rfl ?_
    refine g_put (pc := 29) (ws' := [oX11 a_t a_t_tape a_t_reader a_t_now a_t_seen a_t_trial a_t_advice a_t_odds a_t_guess a_t_images a_t_sheets c_t_tornFault, oX8 a_t_tape a_t_tape_bytes x1]) 1 C fp_X11_99 rfl rfl rfl (Nat.le_of_ble_eq_true rfl) rfl dX11_end_29 ?_
    refine g_iload_n (pc := 32) C dX11_end_32 0 rfl ?_
    obtain rfl := Option.some.inj h
    exact g_iret (pc := 33) C K dX11_end_33
  · refine g_iconst (pc := 14) (v := (-1)) C dX11_end_14 (by decide) ?_
    obtain rfl := Option.some.inj h
    exact g_iret (pc := 15) C K dX11_end_15
theorem dX11_text_0 : decode cX11_text 0 = .ok (.aload_n 0, 1) := by decide +kernel
theorem dX11_text_1 : decode cX11_text 1 = .ok (.getfield 21, 3) := by decide +kernel
theorem dX11_text_4 : decode cX11_text 4 = .ok (.invokevirtual 102, 3) := by decide +kernel
theorem dX11_text_7 : decode cX11_text 7 = .ok (.istore_n 1, 1) := by decide +kernel
theorem dX11_text_8 : decode cX11_text 8 = .ok (.aload_n 0, 1) := by decide +kernel
theorem dX11_text_9 : decode cX11_text 9 = .ok (.getfield 12, 3) := by decide +kernel
theorem dX11_text_12 : decode cX11_text 12 = .ok (.iconst 0, 1) := by decide +kernel
theorem dX11_text_13 : decode cX11_text 13 = .ok (.putfield 99, 3) := by decide +kernel
theorem dX11_text_16 : decode cX11_text 16 = .ok (.iload_n 1, 1) := by decide +kernel
theorem dX11_text_17 : decode cX11_text 17 = .ok (.ifCond .lt 48, 3) := by decide +kernel
theorem dX11_text_20 : decode cX11_text 20 = .ok (.aload_n 0, 1) := by decide +kernel
theorem dX11_text_21 : decode cX11_text 21 = .ok (.getfield 28, 3) := by decide +kernel
theorem dX11_text_24 : decode cX11_text 24 = .ok (.aload_n 0, 1) := by decide +kernel
theorem dX11_text_25 : decode cX11_text 25 = .ok (.getfield 21, 3) := by decide +kernel
theorem dX11_text_28 : decode cX11_text 28 = .ok (.getfield 106, 3) := by decide +kernel
theorem dX11_text_31 : decode cX11_text 31 = .ok (.invokevirtual 109, 3) := by decide +kernel
theorem dX11_text_34 : decode cX11_text 34 = .ok (.aload_n 0, 1) := by decide +kernel
theorem dX11_text_35 : decode cX11_text 35 = .ok (.getfield 35, 3) := by decide +kernel
theorem dX11_text_38 : decode cX11_text 38 = .ok (.iconst 0, 1) := by decide +kernel
theorem dX11_text_39 : decode cX11_text 39 = .ok (.putfield 112, 3) := by decide +kernel
theorem dX11_text_42 : decode cX11_text 42 = .ok (.iconst 0, 1) := by decide +kernel
theorem dX11_text_43 : decode cX11_text 43 = .ok (.istore_n 2, 1) := by decide +kernel
theorem dX11_text_44 : decode cX11_text 44 = .ok (.iload_n 2, 1) := by decide +kernel
theorem dX11_text_45 : decode cX11_text 45 = .ok (.iconst 2, 1) := by decide +kernel
theorem dX11_text_46 : decode cX11_text 46 = .ok (.if_icmp .ge 19, 3) := by decide +kernel
theorem dX11_text_49 : decode cX11_text 49 = .ok (.aload_n 0, 1) := by decide +kernel
theorem dX11_text_50 : decode cX11_text 50 = .ok (.getfield 75, 3) := by decide +kernel
theorem dX11_text_53 : decode cX11_text 53 = .ok (.iload_n 2, 1) := by decide +kernel
theorem dX11_text_54 : decode cX11_text 54 = .ok (.aaload, 1) := by decide +kernel
theorem dX11_text_55 : decode cX11_text 55 = .ok (.iconst 0, 1) := by decide +kernel
theorem dX11_text_56 : decode cX11_text 56 = .ok (.putfield 115, 3) := by decide +kernel
theorem dX11_text_59 : decode cX11_text 59 = .ok (.iinc 2 1, 3) := by decide +kernel
theorem dX11_text_62 : decode cX11_text 62 = .ok (.goto (-18), 3) := by decide +kernel
theorem dX11_text_65 : decode cX11_text 65 = .ok (.iload_n 1, 1) := by decide +kernel
theorem dX11_text_66 : decode cX11_text 66 = .ok (.ireturn, 1) := by decide +kernel
def L_X11_text_44  : Nat → Int32 → Int32 → Int32 → Option (Int32 × Int32)
  | 0, _, _, _ => none
  | n + 1, y3, y4, y5 =>
    if 2 ≤ y3 then
      (some ((y4, y5)))
    else
      ((if y3 = 0 then
        (L_X11_text_44 n (y3 + 1) 0 y5)
      else
        (if y3 = 1 then
          (L_X11_text_44 n (y3 + 1) y4 0)
        else
          none)))
def f_X11_text (c_t_images_0_kept : Int32) (c_t_images_1_kept : Int32) (c_t_now_houses : Int32) (c_t_now_comers : Int32) (c_t_now_evening : Int32) (r_t_now_comes : (Nat → Int32)) (r_t_now_goes : (Nat → Int32)) (r_t_now_kindOf : (Nat → Int32)) (r_t_now_likings : (Nat → Int32)) (r_t_now_lists : (Nat → Int32)) (c_t_reader_fault : Int32) (c_t_reader_faultPlace : Int32) (c_t_reader_place : Int32) (c_t_reader_behind : Int32) (c_t_reader_sort : Int32) (c_t_reader_value : Int32) (c_t_reader_draft_houses : Int32) (c_t_reader_draft_comers : Int32) (c_t_reader_draft_evening : Int32) (r_t_reader_draft_comes : (Nat → Int32)) (r_t_reader_draft_goes : (Nat → Int32)) (r_t_reader_draft_kindOf : (Nat → Int32)) (r_t_reader_draft_likings : (Nat → Int32)) (r_t_reader_draft_lists : (Nat → Int32)) (c_t_seen_size : Int32) (c_t_tape_length : Int32) (r_t_tape_bytes : (Nat → Int32)) : Option (Int32 × Int32 × Int32 × Int32 × Int32 × Int32 × (Nat → Int32) × (Nat → Int32) × (Nat → Int32) × (Nat → Int32) × (Nat → Int32) × Int32 × Int32 × Int32 × Int32 × Int32 × Int32 × Int32 × Int32 × Int32 × (Nat → Int32) × (Nat → Int32) × (Nat → Int32) × (Nat → Int32) × (Nat → Int32) × Int32 × Int32) :=
  (f_X9_readAll c_t_reader_fault c_t_reader_faultPlace c_t_reader_place c_t_reader_behind c_t_reader_sort c_t_reader_value c_t_reader_draft_houses c_t_reader_draft_comers c_t_reader_draft_evening r_t_reader_draft_comes r_t_reader_draft_goes r_t_reader_draft_kindOf r_t_reader_draft_likings r_t_reader_draft_lists c_t_tape_length r_t_tape_bytes).bind (fun (v1 : Int32 × Int32 × Int32 × Int32 × Int32 × Int32 × Int32 × Int32 × Int32 × Int32 × (Nat → Int32) × (Nat → Int32) × (Nat → Int32) × (Nat → Int32) × (Nat → Int32)) =>
    if v1.1 < 0 then
      (some ((v1.1, c_t_images_0_kept, c_t_images_1_kept, c_t_now_houses, c_t_now_comers, c_t_now_evening, r_t_now_comes, r_t_now_goes, r_t_now_kindOf, r_t_now_likings, r_t_now_lists, v1.2.1, v1.2.2.1, v1.2.2.2.1, v1.2.2.2.2.1, v1.2.2.2.2.2.1, v1.2.2.2.2.2.2.1, v1.2.2.2.2.2.2.2.1, v1.2.2.2.2.2.2.2.2.1, v1.2.2.2.2.2.2.2.2.2.1, v1.2.2.2.2.2.2.2.2.2.2.1, v1.2.2.2.2.2.2.2.2.2.2.2.1, v1.2.2.2.2.2.2.2.2.2.2.2.2.1, v1.2.2.2.2.2.2.2.2.2.2.2.2.2.1, v1.2.2.2.2.2.2.2.2.2.2.2.2.2.2, c_t_seen_size, 0)))
    else
      ((f_X1_copyFrom c_t_now_houses c_t_now_comers c_t_now_evening r_t_now_comes r_t_now_goes r_t_now_kindOf r_t_now_likings r_t_now_lists v1.2.2.2.2.2.2.2.1 v1.2.2.2.2.2.2.2.2.1 v1.2.2.2.2.2.2.2.2.2.1 v1.2.2.2.2.2.2.2.2.2.2.1 v1.2.2.2.2.2.2.2.2.2.2.2.1 v1.2.2.2.2.2.2.2.2.2.2.2.2.1 v1.2.2.2.2.2.2.2.2.2.2.2.2.2.1 v1.2.2.2.2.2.2.2.2.2.2.2.2.2.2).bind (fun (v2 : Int32 × Int32 × Int32 × (Nat → Int32) × (Nat → Int32) × (Nat → Int32) × (Nat → Int32) × (Nat → Int32)) =>
        (L_X11_text_44 400 0 c_t_images_0_kept c_t_images_1_kept).bind (fun (v8 : Int32 × Int32) =>
          some ((v1.1, v8.1, v8.2, v2.1, v2.2.1, v2.2.2.1, v2.2.2.2.1, v2.2.2.2.2.1, v2.2.2.2.2.2.1, v2.2.2.2.2.2.2.1, v2.2.2.2.2.2.2.2, v1.2.1, v1.2.2.1, v1.2.2.2.1, v1.2.2.2.2.1, v1.2.2.2.2.2.1, v1.2.2.2.2.2.2.1, v1.2.2.2.2.2.2.2.1, v1.2.2.2.2.2.2.2.2.1, v1.2.2.2.2.2.2.2.2.2.1, v1.2.2.2.2.2.2.2.2.2.2.1, v1.2.2.2.2.2.2.2.2.2.2.2.1, v1.2.2.2.2.2.2.2.2.2.2.2.2.1, v1.2.2.2.2.2.2.2.2.2.2.2.2.2.1, v1.2.2.2.2.2.2.2.2.2.2.2.2.2.2, 0, 0))))))
abbrev rm_X11_text : Room := { frames := 9, cells := 0, slots := 0, locals := 204 }
set_option maxHeartbeats 4000000 in
set_option maxRecDepth 100000 in
theorem lp_X11_text_44 {E : Ev} {X : Cx} {a_t a_t_images a_t_images_0 a_t_images_1 a_t_now a_t_now_comes a_t_now_goes a_t_now_kindOf a_t_now_likings a_t_now_lists a_t_reader a_t_reader_draft a_t_reader_draft_comes a_t_reader_draft_goes a_t_reader_draft_kindOf a_t_reader_draft_likings a_t_reader_draft_lists a_t_seen a_t_tape a_t_tape_bytes a_t_trial a_t_advice a_t_odds a_t_guess a_t_sheets a_t_images_0_county a_t_images_0_seen a_t_images_1_county a_t_images_1_seen a_t_seen_behind a_t_seen_where a_t_seen_hours : Nat} (c_t_tornFault : Int32) (r_t_tape_bytes : (Nat → Int32)) (v1 : (Int32 × Int32 × Int32 × Int32 × Int32 × Int32 × Int32 × Int32 × Int32 × Int32 × (Nat → Int32) × (Nat → Int32) × (Nat → Int32) × (Nat → Int32) × (Nat → Int32))) (v2 : (Int32 × Int32 × Int32 × (Nat → Int32) × (Nat → Int32) × (Nat → Int32) × (Nat → Int32) × (Nat → Int32))) (C : CX E X cX11_text RX11 3 rm_X11_text) : ∀ (n : Nat) (y3 : Int32) (y4 : Int32) (y5 : Int32) (v : Int32 × Int32), L_X11_text_44  n y3 y4 y5 = some v → G E X 0 0 [oX11 a_t a_t_tape a_t_reader a_t_now a_t_seen a_t_trial a_t_advice a_t_odds a_t_guess a_t_images a_t_sheets c_t_tornFault, aQ E 2 a_t_images [a_t_images_0, a_t_images_1], oX4 a_t_images_0 a_t_images_0_county a_t_images_0_seen v.1, oX4 a_t_images_1 a_t_images_1_county a_t_images_1_seen v.2, oX1 a_t_now v2.1 v2.2.1 v2.2.2.1 a_t_now_lists a_t_now_kindOf a_t_now_goes a_t_now_comes a_t_now_likings, aI E a_t_now_comes 6 v2.2.2.2.1, aI E a_t_now_goes 6 v2.2.2.2.2.1, aI E a_t_now_kindOf 6 v2.2.2.2.2.2.1, aI E a_t_now_likings 24 v2.2.2.2.2.2.2.1, aI E a_t_now_lists 4 v2.2.2.2.2.2.2.2, oX9 a_t_reader a_t_tape a_t_reader_draft v1.2.1 v1.2.2.1 v1.2.2.2.1 v1.2.2.2.2.1 v1.2.2.2.2.2.1 v1.2.2.2.2.2.2.1, oX1 a_t_reader_draft v1.2.2.2.2.2.2.2.1 v1.2.2.2.2.2.2.2.2.1 v1.2.2.2.2.2.2.2.2.2.1 a_t_reader_draft_lists a_t_reader_draft_kindOf a_t_reader_draft_goes a_t_reader_draft_comes a_t_reader_draft_likings, aI E a_t_reader_draft_comes 6 v1.2.2.2.2.2.2.2.2.2.2.1, aI E a_t_reader_draft_goes 6 v1.2.2.2.2.2.2.2.2.2.2.2.1, aI E a_t_reader_draft_kindOf 6 v1.2.2.2.2.2.2.2.2.2.2.2.2.1, aI E a_t_reader_draft_likings 24 v1.2.2.2.2.2.2.2.2.2.2.2.2.2.1, aI E a_t_reader_draft_lists 4 v1.2.2.2.2.2.2.2.2.2.2.2.2.2.2, oX7 a_t_seen 0 a_t_seen_behind a_t_seen_where a_t_seen_hours, oX8 a_t_tape a_t_tape_bytes 0, aI E a_t_tape_bytes 160 r_t_tape_bytes] [(1, .int v1.1)] 65 [] → G E X 0 0 [oX11 a_t a_t_tape a_t_reader a_t_now a_t_seen a_t_trial a_t_advice a_t_odds a_t_guess a_t_images a_t_sheets c_t_tornFault, aQ E 2 a_t_images [a_t_images_0, a_t_images_1], oX4 a_t_images_0 a_t_images_0_county a_t_images_0_seen y4, oX4 a_t_images_1 a_t_images_1_county a_t_images_1_seen y5, oX1 a_t_now v2.1 v2.2.1 v2.2.2.1 a_t_now_lists a_t_now_kindOf a_t_now_goes a_t_now_comes a_t_now_likings, aI E a_t_now_comes 6 v2.2.2.2.1, aI E a_t_now_goes 6 v2.2.2.2.2.1, aI E a_t_now_kindOf 6 v2.2.2.2.2.2.1, aI E a_t_now_likings 24 v2.2.2.2.2.2.2.1, aI E a_t_now_lists 4 v2.2.2.2.2.2.2.2, oX9 a_t_reader a_t_tape a_t_reader_draft v1.2.1 v1.2.2.1 v1.2.2.2.1 v1.2.2.2.2.1 v1.2.2.2.2.2.1 v1.2.2.2.2.2.2.1, oX1 a_t_reader_draft v1.2.2.2.2.2.2.2.1 v1.2.2.2.2.2.2.2.2.1 v1.2.2.2.2.2.2.2.2.2.1 a_t_reader_draft_lists a_t_reader_draft_kindOf a_t_reader_draft_goes a_t_reader_draft_comes a_t_reader_draft_likings, aI E a_t_reader_draft_comes 6 v1.2.2.2.2.2.2.2.2.2.2.1, aI E a_t_reader_draft_goes 6 v1.2.2.2.2.2.2.2.2.2.2.2.1, aI E a_t_reader_draft_kindOf 6 v1.2.2.2.2.2.2.2.2.2.2.2.2.1, aI E a_t_reader_draft_likings 24 v1.2.2.2.2.2.2.2.2.2.2.2.2.2.1, aI E a_t_reader_draft_lists 4 v1.2.2.2.2.2.2.2.2.2.2.2.2.2.2, oX7 a_t_seen 0 a_t_seen_behind a_t_seen_where a_t_seen_hours, oX8 a_t_tape a_t_tape_bytes 0, aI E a_t_tape_bytes 160 r_t_tape_bytes] [(0, .ref a_t), (1, .int v1.1), (2, .int y3)] 44 [] := by
  intro n
  induction n with
  | zero => intro _ _ _ _ h; cases h
  | succ n ih =>
    intro y3 y4 y5 v h kk
    rw [L_X11_text_44] at h
    refine g_iload_n (pc := 44) C dX11_text_44 2 rfl ?_
    refine g_iconst (pc := 45) (v := 2) C dX11_text_45 (by decide) ?_
    refine b_icmp_ge (pc := 46) 65 C dX11_text_46 (by decide) h (fun _ h => ?_) (fun _ h => ?_)
    · obtain rfl := Option.some.inj h
      refine g_lv [1] (lv' := [(1, .int v1.1)]) rfl ?_
      exact kk
    · refine g_aload_n (pc := 49) C dX11_text_49 0 rfl ?_
      refine g_get (pc := 50) 0 C fl_X11_75 rfl rfl dX11_text_50 ?_
      refine g_iload_n (pc := 53) C dX11_text_53 2 rfl ?_
      rcases o_ite h with ⟨c6, h⟩ | ⟨_, h⟩
      · refine g_aald (pc := 54) (v := a_t_images_0) 1 C rfl rfl rfl (by rw [c6]; show inb 0 2; decide) (by rw [c6]; rfl) dX11_text_54 ?_
        refine g_iconst (pc := 55) (v := 0) C dX11_text_55 (by decide) ?_
        refine g_put (pc := 56) (ws' := [oX11 a_t a_t_tape a_t_reader a_t_now a_t_seen a_t_trial a_t_advice a_t_odds a_t_guess a_t_images a_t_sheets c_t_tornFault, aQ E 2 a_t_images [a_t_images_0, a_t_images_1], oX4 a_t_images_0 a_t_images_0_county a_t_images_0_seen 0, oX4 a_t_images_1 a_t_images_1_county a_t_images_1_seen y5, oX1 a_t_now v2.1 v2.2.1 v2.2.2.1 a_t_now_lists a_t_now_kindOf a_t_now_goes a_t_now_comes a_t_now_likings, aI E a_t_now_comes 6 v2.2.2.2.1, aI E a_t_now_goes 6 v2.2.2.2.2.1, aI E a_t_now_kindOf 6 v2.2.2.2.2.2.1, aI E a_t_now_likings 24 v2.2.2.2.2.2.2.1, aI E a_t_now_lists 4 v2.2.2.2.2.2.2.2, oX9 a_t_reader a_t_tape a_t_reader_draft v1.2.1 v1.2.2.1 v1.2.2.2.1 v1.2.2.2.2.1 v1.2.2.2.2.2.1 v1.2.2.2.2.2.2.1, oX1 a_t_reader_draft v1.2.2.2.2.2.2.2.1 v1.2.2.2.2.2.2.2.2.1 v1.2.2.2.2.2.2.2.2.2.1 a_t_reader_draft_lists a_t_reader_draft_kindOf a_t_reader_draft_goes a_t_reader_draft_comes a_t_reader_draft_likings, aI E a_t_reader_draft_comes 6 v1.2.2.2.2.2.2.2.2.2.2.1, aI E a_t_reader_draft_goes 6 v1.2.2.2.2.2.2.2.2.2.2.2.1, aI E a_t_reader_draft_kindOf 6 v1.2.2.2.2.2.2.2.2.2.2.2.2.1, aI E a_t_reader_draft_likings 24 v1.2.2.2.2.2.2.2.2.2.2.2.2.2.1, aI E a_t_reader_draft_lists 4 v1.2.2.2.2.2.2.2.2.2.2.2.2.2.2, oX7 a_t_seen 0 a_t_seen_behind a_t_seen_where a_t_seen_hours, oX8 a_t_tape a_t_tape_bytes 0, aI E a_t_tape_bytes 160 r_t_tape_bytes]) 2 C fp_X11_115 rfl rfl rfl (Nat.le_of_ble_eq_true rfl) rfl dX11_text_56 ?_
        refine g_iinc (pc := 59) (v := y3 + 1) (lv' := [(2, .int (y3 + 1)), (0, .ref a_t), (1, .int v1.1)]) C dX11_text_59 2 rfl rfl (by decide) rfl ?_
        refine g_goto (pc := 62) 44 C dX11_text_62 (by decide) ?_
        refine g_lv [1, 2, 0] (lv' := [(0, .ref a_t), (1, .int v1.1), (2, .int (y3 + 1))]) rfl ?_
        exact ih _ _ _ _ h kk
      · rcases o_ite h with ⟨c6, h⟩ | ⟨_, h⟩
        · refine g_aald (pc := 54) (v := a_t_images_1) 1 C rfl rfl rfl (by rw [c6]; show inb 1 2; decide) (by rw [c6]; rfl) dX11_text_54 ?_
          refine g_iconst (pc := 55) (v := 0) C dX11_text_55 (by decide) ?_
          refine g_put (pc := 56) (ws' := [oX11 a_t a_t_tape a_t_reader a_t_now a_t_seen a_t_trial a_t_advice a_t_odds a_t_guess a_t_images a_t_sheets c_t_tornFault, aQ E 2 a_t_images [a_t_images_0, a_t_images_1], oX4 a_t_images_0 a_t_images_0_county a_t_images_0_seen y4, oX4 a_t_images_1 a_t_images_1_county a_t_images_1_seen 0, oX1 a_t_now v2.1 v2.2.1 v2.2.2.1 a_t_now_lists a_t_now_kindOf a_t_now_goes a_t_now_comes a_t_now_likings, aI E a_t_now_comes 6 v2.2.2.2.1, aI E a_t_now_goes 6 v2.2.2.2.2.1, aI E a_t_now_kindOf 6 v2.2.2.2.2.2.1, aI E a_t_now_likings 24 v2.2.2.2.2.2.2.1, aI E a_t_now_lists 4 v2.2.2.2.2.2.2.2, oX9 a_t_reader a_t_tape a_t_reader_draft v1.2.1 v1.2.2.1 v1.2.2.2.1 v1.2.2.2.2.1 v1.2.2.2.2.2.1 v1.2.2.2.2.2.2.1, oX1 a_t_reader_draft v1.2.2.2.2.2.2.2.1 v1.2.2.2.2.2.2.2.2.1 v1.2.2.2.2.2.2.2.2.2.1 a_t_reader_draft_lists a_t_reader_draft_kindOf a_t_reader_draft_goes a_t_reader_draft_comes a_t_reader_draft_likings, aI E a_t_reader_draft_comes 6 v1.2.2.2.2.2.2.2.2.2.2.1, aI E a_t_reader_draft_goes 6 v1.2.2.2.2.2.2.2.2.2.2.2.1, aI E a_t_reader_draft_kindOf 6 v1.2.2.2.2.2.2.2.2.2.2.2.2.1, aI E a_t_reader_draft_likings 24 v1.2.2.2.2.2.2.2.2.2.2.2.2.2.1, aI E a_t_reader_draft_lists 4 v1.2.2.2.2.2.2.2.2.2.2.2.2.2.2, oX7 a_t_seen 0 a_t_seen_behind a_t_seen_where a_t_seen_hours, oX8 a_t_tape a_t_tape_bytes 0, aI E a_t_tape_bytes 160 r_t_tape_bytes]) 3 C fp_X11_115 rfl rfl rfl (Nat.le_of_ble_eq_true rfl) rfl dX11_text_56 ?_
          refine g_iinc (pc := 59) (v := y3 + 1) (lv' := [(2, .int (y3 + 1)), (0, .ref a_t), (1, .int v1.1)]) C dX11_text_59 2 rfl rfl (by decide) rfl ?_
          refine g_goto (pc := 62) 44 C dX11_text_62 (by decide) ?_
          refine g_lv [1, 2, 0] (lv' := [(0, .ref a_t), (1, .int v1.1), (2, .int (y3 + 1))]) rfl ?_
          exact ih _ _ _ _ h kk
        · cases h
set_option maxHeartbeats 4000000 in
set_option maxRecDepth 100000 in
theorem k_X11_text (E : Ev) (a_t a_t_images a_t_images_0 a_t_images_1 a_t_now a_t_now_comes a_t_now_goes a_t_now_kindOf a_t_now_likings a_t_now_lists a_t_reader a_t_reader_draft a_t_reader_draft_comes a_t_reader_draft_goes a_t_reader_draft_kindOf a_t_reader_draft_likings a_t_reader_draft_lists a_t_seen a_t_tape a_t_tape_bytes a_t_trial a_t_advice a_t_odds a_t_guess a_t_sheets a_t_images_0_county a_t_images_0_seen a_t_images_1_county a_t_images_1_seen a_t_seen_behind a_t_seen_where a_t_seen_hours : Nat) (c_t_tornFault : Int32) (c_t_images_0_kept : Int32) (c_t_images_1_kept : Int32) (c_t_now_houses : Int32) (c_t_now_comers : Int32) (c_t_now_evening : Int32) (r_t_now_comes : (Nat → Int32)) (r_t_now_goes : (Nat → Int32)) (r_t_now_kindOf : (Nat → Int32)) (r_t_now_likings : (Nat → Int32)) (r_t_now_lists : (Nat → Int32)) (c_t_reader_fault : Int32) (c_t_reader_faultPlace : Int32) (c_t_reader_place : Int32) (c_t_reader_behind : Int32) (c_t_reader_sort : Int32) (c_t_reader_value : Int32) (c_t_reader_draft_houses : Int32) (c_t_reader_draft_comers : Int32) (c_t_reader_draft_evening : Int32) (r_t_reader_draft_comes : (Nat → Int32)) (r_t_reader_draft_goes : (Nat → Int32)) (r_t_reader_draft_kindOf : (Nat → Int32)) (r_t_reader_draft_likings : (Nat → Int32)) (r_t_reader_draft_lists : (Nat → Int32)) (c_t_seen_size : Int32) (c_t_tape_length : Int32) (r_t_tape_bytes : (Nat → Int32)) (v : Int32 × Int32 × Int32 × Int32 × Int32 × Int32 × (Nat → Int32) × (Nat → Int32) × (Nat → Int32) × (Nat → Int32) × (Nat → Int32) × Int32 × Int32 × Int32 × Int32 × Int32 × Int32 × Int32 × Int32 × Int32 × (Nat → Int32) × (Nat → Int32) × (Nat → Int32) × (Nat → Int32) × (Nat → Int32) × Int32 × Int32) (h : f_X11_text c_t_images_0_kept c_t_images_1_kept c_t_now_houses c_t_now_comers c_t_now_evening r_t_now_comes r_t_now_goes r_t_now_kindOf r_t_now_likings r_t_now_lists c_t_reader_fault c_t_reader_faultPlace c_t_reader_place c_t_reader_behind c_t_reader_sort c_t_reader_value c_t_reader_draft_houses c_t_reader_draft_comers c_t_reader_draft_evening r_t_reader_draft_comes r_t_reader_draft_goes r_t_reader_draft_kindOf r_t_reader_draft_likings r_t_reader_draft_lists c_t_seen_size c_t_tape_length r_t_tape_bytes = some v) : Mt E yX11_text cX11_text 3 (some .int) rm_X11_text [.ref a_t] [oX11 a_t a_t_tape a_t_reader a_t_now a_t_seen a_t_trial a_t_advice a_t_odds a_t_guess a_t_images a_t_sheets c_t_tornFault, aQ E 2 a_t_images [a_t_images_0, a_t_images_1], oX4 a_t_images_0 a_t_images_0_county a_t_images_0_seen c_t_images_0_kept, oX4 a_t_images_1 a_t_images_1_county a_t_images_1_seen c_t_images_1_kept, oX1 a_t_now c_t_now_houses c_t_now_comers c_t_now_evening a_t_now_lists a_t_now_kindOf a_t_now_goes a_t_now_comes a_t_now_likings, aI E a_t_now_comes 6 r_t_now_comes, aI E a_t_now_goes 6 r_t_now_goes, aI E a_t_now_kindOf 6 r_t_now_kindOf, aI E a_t_now_likings 24 r_t_now_likings, aI E a_t_now_lists 4 r_t_now_lists, oX9 a_t_reader a_t_tape a_t_reader_draft c_t_reader_fault c_t_reader_faultPlace c_t_reader_place c_t_reader_behind c_t_reader_sort c_t_reader_value, oX1 a_t_reader_draft c_t_reader_draft_houses c_t_reader_draft_comers c_t_reader_draft_evening a_t_reader_draft_lists a_t_reader_draft_kindOf a_t_reader_draft_goes a_t_reader_draft_comes a_t_reader_draft_likings, aI E a_t_reader_draft_comes 6 r_t_reader_draft_comes, aI E a_t_reader_draft_goes 6 r_t_reader_draft_goes, aI E a_t_reader_draft_kindOf 6 r_t_reader_draft_kindOf, aI E a_t_reader_draft_likings 24 r_t_reader_draft_likings, aI E a_t_reader_draft_lists 4 r_t_reader_draft_lists, oX7 a_t_seen c_t_seen_size a_t_seen_behind a_t_seen_where a_t_seen_hours, oX8 a_t_tape a_t_tape_bytes c_t_tape_length, aI E a_t_tape_bytes 160 r_t_tape_bytes] [oX11 a_t a_t_tape a_t_reader a_t_now a_t_seen a_t_trial a_t_advice a_t_odds a_t_guess a_t_images a_t_sheets c_t_tornFault, aQ E 2 a_t_images [a_t_images_0, a_t_images_1], oX4 a_t_images_0 a_t_images_0_county a_t_images_0_seen v.2.1, oX4 a_t_images_1 a_t_images_1_county a_t_images_1_seen v.2.2.1, oX1 a_t_now v.2.2.2.1 v.2.2.2.2.1 v.2.2.2.2.2.1 a_t_now_lists a_t_now_kindOf a_t_now_goes a_t_now_comes a_t_now_likings, aI E a_t_now_comes 6 v.2.2.2.2.2.2.1, aI E a_t_now_goes 6 v.2.2.2.2.2.2.2.1, aI E a_t_now_kindOf 6 v.2.2.2.2.2.2.2.2.1, aI E a_t_now_likings 24 v.2.2.2.2.2.2.2.2.2.1, aI E a_t_now_lists 4 v.2.2.2.2.2.2.2.2.2.2.1, oX9 a_t_reader a_t_tape a_t_reader_draft v.2.2.2.2.2.2.2.2.2.2.2.1 v.2.2.2.2.2.2.2.2.2.2.2.2.1 v.2.2.2.2.2.2.2.2.2.2.2.2.2.1 v.2.2.2.2.2.2.2.2.2.2.2.2.2.2.1 v.2.2.2.2.2.2.2.2.2.2.2.2.2.2.2.1 v.2.2.2.2.2.2.2.2.2.2.2.2.2.2.2.2.1, oX1 a_t_reader_draft v.2.2.2.2.2.2.2.2.2.2.2.2.2.2.2.2.2.1 v.2.2.2.2.2.2.2.2.2.2.2.2.2.2.2.2.2.2.1 v.2.2.2.2.2.2.2.2.2.2.2.2.2.2.2.2.2.2.2.1 a_t_reader_draft_lists a_t_reader_draft_kindOf a_t_reader_draft_goes a_t_reader_draft_comes a_t_reader_draft_likings, aI E a_t_reader_draft_comes 6 v.2.2.2.2.2.2.2.2.2.2.2.2.2.2.2.2.2.2.2.2.1, aI E a_t_reader_draft_goes 6 v.2.2.2.2.2.2.2.2.2.2.2.2.2.2.2.2.2.2.2.2.2.1, aI E a_t_reader_draft_kindOf 6 v.2.2.2.2.2.2.2.2.2.2.2.2.2.2.2.2.2.2.2.2.2.2.1, aI E a_t_reader_draft_likings 24 v.2.2.2.2.2.2.2.2.2.2.2.2.2.2.2.2.2.2.2.2.2.2.2.1, aI E a_t_reader_draft_lists 4 v.2.2.2.2.2.2.2.2.2.2.2.2.2.2.2.2.2.2.2.2.2.2.2.2.1, oX7 a_t_seen v.2.2.2.2.2.2.2.2.2.2.2.2.2.2.2.2.2.2.2.2.2.2.2.2.2.1 a_t_seen_behind a_t_seen_where a_t_seen_hours, oX8 a_t_tape a_t_tape_bytes v.2.2.2.2.2.2.2.2.2.2.2.2.2.2.2.2.2.2.2.2.2.2.2.2.2.2, aI E a_t_tape_bytes 160 r_t_tape_bytes] (some (.int v.1)) := by
  refine Mt.intro (lv := [(0, .ref a_t)]) (by decide +kernel) (Nat.le_of_ble_eq_true rfl) rfl (fun X C K => ?_)
  have C : CX E X cX11_text RX11 3 rm_X11_text := C
  rw [f_X11_text] at h
  refine g_aload_n (pc := 0) C dX11_text_0 0 rfl ?_
  refine g_get (pc := 1) 0 C fl_X11_21 rfl rfl dX11_text_1 ?_
  obtain ⟨v1, hv1, h⟩ := o_bnd h
  refine g_callV (pc := 4) (ws' := [oX11 a_t a_t_tape a_t_reader a_t_now a_t_seen a_t_trial a_t_advice a_t_odds a_t_guess a_t_images a_t_sheets c_t_tornFault, aQ E 2 a_t_images [a_t_images_0, a_t_images_1], oX4 a_t_images_0 a_t_images_0_county a_t_images_0_seen c_t_images_0_kept, oX4 a_t_images_1 a_t_images_1_county a_t_images_1_seen c_t_images_1_kept, oX1 a_t_now c_t_now_houses c_t_now_comers c_t_now_evening a_t_now_lists a_t_now_kindOf a_t_now_goes a_t_now_comes a_t_now_likings, aI E a_t_now_comes 6 r_t_now_comes, aI E a_t_now_goes 6 r_t_now_goes, aI E a_t_now_kindOf 6 r_t_now_kindOf, aI E a_t_now_likings 24 r_t_now_likings, aI E a_t_now_lists 4 r_t_now_lists, oX9 a_t_reader a_t_tape a_t_reader_draft v1.2.1 v1.2.2.1 v1.2.2.2.1 v1.2.2.2.2.1 v1.2.2.2.2.2.1 v1.2.2.2.2.2.2.1, oX1 a_t_reader_draft v1.2.2.2.2.2.2.2.1 v1.2.2.2.2.2.2.2.2.1 v1.2.2.2.2.2.2.2.2.2.1 a_t_reader_draft_lists a_t_reader_draft_kindOf a_t_reader_draft_goes a_t_reader_draft_comes a_t_reader_draft_likings, aI E a_t_reader_draft_comes 6 v1.2.2.2.2.2.2.2.2.2.2.1, aI E a_t_reader_draft_goes 6 v1.2.2.2.2.2.2.2.2.2.2.2.1, aI E a_t_reader_draft_kindOf 6 v1.2.2.2.2.2.2.2.2.2.2.2.2.1, aI E a_t_reader_draft_likings 24 v1.2.2.2.2.2.2.2.2.2.2.2.2.2.1, aI E a_t_reader_draft_lists 4 v1.2.2.2.2.2.2.2.2.2.2.2.2.2.2, oX7 a_t_seen c_t_seen_size a_t_seen_behind a_t_seen_where a_t_seen_hours, oX8 a_t_tape a_t_tape_bytes c_t_tape_length, aI E a_t_tape_bytes 160 r_t_tape_bytes]) (st1 := [.int v1.1]) C mv_X11_102 (k_X9_readAll E a_t_reader a_t_reader_draft a_t_reader_draft_comes a_t_reader_draft_goes a_t_reader_draft_kindOf a_t_reader_draft_likings a_t_reader_draft_lists a_t_tape a_t_tape_bytes c_t_reader_fault c_t_reader_faultPlace c_t_reader_place c_t_reader_behind c_t_reader_sort c_t_reader_value c_t_reader_draft_houses c_t_reader_draft_comers c_t_reader_draft_evening r_t_reader_draft_comes r_t_reader_draft_goes r_t_reader_draft_kindOf r_t_reader_draft_likings r_t_reader_draft_lists c_t_tape_length r_t_tape_bytes v1 hv1) [10, 11, 12, 13, 14, 15, 16, 18, 19] rfl (by decide +kernel) rfl [none, none, none, none, none, none, none, none, none, none, some 0, some 1, some 2, some 3, some 4, some 5, some 6, none, some 7, some 8] 20 (by decide +kernel) rfl rfl 0 rfl rfl ⟨by decide, by decide⟩ ⟨rfl, rfl⟩ ⟨Nat.zero_le _, Nat.zero_le _⟩ rfl rfl rfl (Nat.le_of_ble_eq_true rfl) dX11_text_4 ?_
  refine g_istore_n (pc := 7) (lv' := [(1, .int v1.1), (0, .ref a_t)]) C dX11_text_7 (by decide) rfl ?_
  refine g_aload_n (pc := 8) C dX11_text_8 1 rfl ?_
  refine g_get (pc := 9) 0 C fl_X11_12 rfl rfl dX11_text_9 ?_
  refine g_iconst (pc := 12) (v := 0) C dX11_text_12 (by decide) ?_
  refine g_put (pc := 13) (ws' := [oX11 a_t a_t_tape a_t_reader a_t_now a_t_seen a_t_trial a_t_advice a_t_odds a_t_guess a_t_images a_t_sheets c_t_tornFault, aQ E 2 a_t_images [a_t_images_0, a_t_images_1], oX4 a_t_images_0 a_t_images_0_county a_t_images_0_seen c_t_images_0_kept, oX4 a_t_images_1 a_t_images_1_county a_t_images_1_seen c_t_images_1_kept, oX1 a_t_now c_t_now_houses c_t_now_comers c_t_now_evening a_t_now_lists a_t_now_kindOf a_t_now_goes a_t_now_comes a_t_now_likings, aI E a_t_now_comes 6 r_t_now_comes, aI E a_t_now_goes 6 r_t_now_goes, aI E a_t_now_kindOf 6 r_t_now_kindOf, aI E a_t_now_likings 24 r_t_now_likings, aI E a_t_now_lists 4 r_t_now_lists, oX9 a_t_reader a_t_tape a_t_reader_draft v1.2.1 v1.2.2.1 v1.2.2.2.1 v1.2.2.2.2.1 v1.2.2.2.2.2.1 v1.2.2.2.2.2.2.1, oX1 a_t_reader_draft v1.2.2.2.2.2.2.2.1 v1.2.2.2.2.2.2.2.2.1 v1.2.2.2.2.2.2.2.2.2.1 a_t_reader_draft_lists a_t_reader_draft_kindOf a_t_reader_draft_goes a_t_reader_draft_comes a_t_reader_draft_likings, aI E a_t_reader_draft_comes 6 v1.2.2.2.2.2.2.2.2.2.2.1, aI E a_t_reader_draft_goes 6 v1.2.2.2.2.2.2.2.2.2.2.2.1, aI E a_t_reader_draft_kindOf 6 v1.2.2.2.2.2.2.2.2.2.2.2.2.1, aI E a_t_reader_draft_likings 24 v1.2.2.2.2.2.2.2.2.2.2.2.2.2.1, aI E a_t_reader_draft_lists 4 v1.2.2.2.2.2.2.2.2.2.2.2.2.2.2, oX7 a_t_seen c_t_seen_size a_t_seen_behind a_t_seen_where a_t_seen_hours, oX8 a_t_tape a_t_tape_bytes 0, aI E a_t_tape_bytes 160 r_t_tape_bytes]) 18 C fp_X11_99 rfl rfl rfl (Nat.le_of_ble_eq_true rfl) rfl dX11_text_13 ?_
  refine g_iload_n (pc := 16) C dX11_text_16 0 rfl ?_
  refine b_if_lt (pc := 17) 65 C dX11_text_17 (by decide) h (fun _ h => ?_) (fun _ h => ?_)
  · refine g_iload_n (pc := 65) C dX11_text_65 0 rfl ?_
    obtain rfl := Option.some.inj h
    exact g_iret (pc := 66) C K dX11_text_66
  · refine g_aload_n (pc := 20) C dX11_text_20 1 rfl ?_
    refine g_get (pc := 21) 0 C fl_X11_28 rfl rfl dX11_text_21 ?_
    refine g_aload_n (pc := 24) C dX11_text_24 1 rfl ?_
    refine g_get (pc := 25) 0 C fl_X11_21 rfl rfl dX11_text_25 ?_
    refine g_get (pc := 28) 10 C fl_X11_106 rfl rfl dX11_text_28 ?_
    obtain ⟨v2, hv2, h⟩ := o_bnd h
    refine g_callV (pc := 31) (ws' := [oX11 a_t a_t_tape a_t_reader a_t_now a_t_seen a_t_trial a_t_advice a_t_odds a_t_guess a_t_images a_t_sheets c_t_tornFault, aQ E 2 a_t_images [a_t_images_0, a_t_images_1], oX4 a_t_images_0 a_t_images_0_county a_t_images_0_seen c_t_images_0_kept, oX4 a_t_images_1 a_t_images_1_county a_t_images_1_seen c_t_images_1_kept, oX1 a_t_now v2.1 v2.2.1 v2.2.2.1 a_t_now_lists a_t_now_kindOf a_t_now_goes a_t_now_comes a_t_now_likings, aI E a_t_now_comes 6 v2.2.2.2.1, aI E a_t_now_goes 6 v2.2.2.2.2.1, aI E a_t_now_kindOf 6 v2.2.2.2.2.2.1, aI E a_t_now_likings 24 v2.2.2.2.2.2.2.1, aI E a_t_now_lists 4 v2.2.2.2.2.2.2.2, oX9 a_t_reader a_t_tape a_t_reader_draft v1.2.1 v1.2.2.1 v1.2.2.2.1 v1.2.2.2.2.1 v1.2.2.2.2.2.1 v1.2.2.2.2.2.2.1, oX1 a_t_reader_draft v1.2.2.2.2.2.2.2.1 v1.2.2.2.2.2.2.2.2.1 v1.2.2.2.2.2.2.2.2.2.1 a_t_reader_draft_lists a_t_reader_draft_kindOf a_t_reader_draft_goes a_t_reader_draft_comes a_t_reader_draft_likings, aI E a_t_reader_draft_comes 6 v1.2.2.2.2.2.2.2.2.2.2.1, aI E a_t_reader_draft_goes 6 v1.2.2.2.2.2.2.2.2.2.2.2.1, aI E a_t_reader_draft_kindOf 6 v1.2.2.2.2.2.2.2.2.2.2.2.2.1, aI E a_t_reader_draft_likings 24 v1.2.2.2.2.2.2.2.2.2.2.2.2.2.1, aI E a_t_reader_draft_lists 4 v1.2.2.2.2.2.2.2.2.2.2.2.2.2.2, oX7 a_t_seen c_t_seen_size a_t_seen_behind a_t_seen_where a_t_seen_hours, oX8 a_t_tape a_t_tape_bytes 0, aI E a_t_tape_bytes 160 r_t_tape_bytes]) (st1 := []) C mv_X11_109 (k_X1_copyFrom E a_t_now a_t_now_comes a_t_now_goes a_t_now_kindOf a_t_now_likings a_t_now_lists a_t_reader_draft a_t_reader_draft_comes a_t_reader_draft_goes a_t_reader_draft_kindOf a_t_reader_draft_likings a_t_reader_draft_lists c_t_now_houses c_t_now_comers c_t_now_evening r_t_now_comes r_t_now_goes r_t_now_kindOf r_t_now_likings r_t_now_lists v1.2.2.2.2.2.2.2.1 v1.2.2.2.2.2.2.2.2.1 v1.2.2.2.2.2.2.2.2.2.1 v1.2.2.2.2.2.2.2.2.2.2.1 v1.2.2.2.2.2.2.2.2.2.2.2.1 v1.2.2.2.2.2.2.2.2.2.2.2.2.1 v1.2.2.2.2.2.2.2.2.2.2.2.2.2.1 v1.2.2.2.2.2.2.2.2.2.2.2.2.2.2 v2 hv2) [4, 5, 6, 7, 8, 9, 11, 12, 13, 14, 15, 16] rfl (by decide +kernel) rfl [none, none, none, none, some 0, some 1, some 2, some 3, some 4, some 5, none, some 6, some 7, some 8, some 9, some 10, some 11, none, none, none] 20 (by decide +kernel) rfl rfl 0 rfl rfl ⟨by decide, by decide⟩ ⟨rfl, rfl⟩ ⟨Nat.zero_le _, Nat.zero_le _⟩ rfl rfl rfl (Nat.le_of_ble_eq_true rfl) dX11_text_31 ?_
    refine g_aload_n (pc := 34) C dX11_text_34 1 rfl ?_
    refine g_get (pc := 35) 0 C fl_X11_35 rfl rfl dX11_text_35 ?_
    refine g_iconst (pc := 38) (v := 0) C dX11_text_38 (by decide) ?_
    refine g_put (pc := 39) (ws' := [oX11 a_t a_t_tape a_t_reader a_t_now a_t_seen a_t_trial a_t_advice a_t_odds a_t_guess a_t_images a_t_sheets c_t_tornFault, aQ E 2 a_t_images [a_t_images_0, a_t_images_1], oX4 a_t_images_0 a_t_images_0_county a_t_images_0_seen c_t_images_0_kept, oX4 a_t_images_1 a_t_images_1_county a_t_images_1_seen c_t_images_1_kept, oX1 a_t_now v2.1 v2.2.1 v2.2.2.1 a_t_now_lists a_t_now_kindOf a_t_now_goes a_t_now_comes a_t_now_likings, aI E a_t_now_comes 6 v2.2.2.2.1, aI E a_t_now_goes 6 v2.2.2.2.2.1, aI E a_t_now_kindOf 6 v2.2.2.2.2.2.1, aI E a_t_now_likings 24 v2.2.2.2.2.2.2.1, aI E a_t_now_lists 4 v2.2.2.2.2.2.2.2, oX9 a_t_reader a_t_tape a_t_reader_draft v1.2.1 v1.2.2.1 v1.2.2.2.1 v1.2.2.2.2.1 v1.2.2.2.2.2.1 v1.2.2.2.2.2.2.1, oX1 a_t_reader_draft v1.2.2.2.2.2.2.2.1 v1.2.2.2.2.2.2.2.2.1 v1.2.2.2.2.2.2.2.2.2.1 a_t_reader_draft_lists a_t_reader_draft_kindOf a_t_reader_draft_goes a_t_reader_draft_comes a_t_reader_draft_likings, aI E a_t_reader_draft_comes 6 v1.2.2.2.2.2.2.2.2.2.2.1, aI E a_t_reader_draft_goes 6 v1.2.2.2.2.2.2.2.2.2.2.2.1, aI E a_t_reader_draft_kindOf 6 v1.2.2.2.2.2.2.2.2.2.2.2.2.1, aI E a_t_reader_draft_likings 24 v1.2.2.2.2.2.2.2.2.2.2.2.2.2.1, aI E a_t_reader_draft_lists 4 v1.2.2.2.2.2.2.2.2.2.2.2.2.2.2, oX7 a_t_seen 0 a_t_seen_behind a_t_seen_where a_t_seen_hours, oX8 a_t_tape a_t_tape_bytes 0, aI E a_t_tape_bytes 160 r_t_tape_bytes]) 17 C fp_X11_112 rfl rfl rfl (Nat.le_of_ble_eq_true rfl) rfl dX11_text_39 ?_
    refine g_iconst (pc := 42) (v := 0) C dX11_text_42 (by decide) ?_
    refine g_istore_n (pc := 43) (lv' := [(2, .int 0), (1, .int v1.1), (0, .ref a_t)]) C dX11_text_43 (by decide) rfl ?_
    obtain ⟨v8, hv8, h⟩ := o_bnd h
    refine g_lv [2, 1, 0] (lv' := [(0, .ref a_t), (1, .int v1.1), (2, .int 0)]) rfl ?_
    refine lp_X11_text_44 c_t_tornFault r_t_tape_bytes v1 v2 C 400 _ _ _ _ hv8 ?_
    refine g_iload_n (pc := 65) C dX11_text_65 0 rfl ?_
    obtain rfl := Option.some.inj h
    exact g_iret (pc := 66) C K dX11_text_66
theorem dX11_fault_0 : decode cX11_fault 0 = .ok (.aload_n 0, 1) := by decide +kernel
theorem dX11_fault_1 : decode cX11_fault 1 = .ok (.getfield 21, 3) := by decide +kernel
theorem dX11_fault_4 : decode cX11_fault 4 = .ok (.getfield 119, 3) := by decide +kernel
theorem dX11_fault_7 : decode cX11_fault 7 = .ok (.ireturn, 1) := by decide +kernel
def f_X11_fault (c_t_reader_fault : Int32) : Option (Int32) :=
  some c_t_reader_fault
abbrev rm_X11_fault : Room := { frames := 0, cells := 0, slots := 0, locals := 0 }
set_option maxHeartbeats 4000000 in
set_option maxRecDepth 100000 in
theorem k_X11_fault (E : Ev) (a_t a_t_reader a_t_tape a_t_now a_t_seen a_t_trial a_t_advice a_t_odds a_t_guess a_t_images a_t_sheets a_t_reader_draft : Nat) (c_t_tornFault : Int32) (c_t_reader_fault : Int32) (c_t_reader_faultPlace : Int32) (c_t_reader_place : Int32) (c_t_reader_behind : Int32) (c_t_reader_sort : Int32) (c_t_reader_value : Int32) (v : Int32) (h : f_X11_fault c_t_reader_fault = some v) : Mt E yX11_fault cX11_fault 1 (some .int) rm_X11_fault [.ref a_t] [oX11 a_t a_t_tape a_t_reader a_t_now a_t_seen a_t_trial a_t_advice a_t_odds a_t_guess a_t_images a_t_sheets c_t_tornFault, oX9 a_t_reader a_t_tape a_t_reader_draft c_t_reader_fault c_t_reader_faultPlace c_t_reader_place c_t_reader_behind c_t_reader_sort c_t_reader_value] [oX11 a_t a_t_tape a_t_reader a_t_now a_t_seen a_t_trial a_t_advice a_t_odds a_t_guess a_t_images a_t_sheets c_t_tornFault, oX9 a_t_reader a_t_tape a_t_reader_draft c_t_reader_fault c_t_reader_faultPlace c_t_reader_place c_t_reader_behind c_t_reader_sort c_t_reader_value] (some (.int v)) := by
  refine Mt.intro (lv := [(0, .ref a_t)]) (by decide +kernel) (Nat.le_of_ble_eq_true rfl) rfl (fun X C K => ?_)
  have C : CX E X cX11_fault RX11 1 rm_X11_fault := C
  rw [f_X11_fault] at h
  refine g_aload_n (pc := 0) C dX11_fault_0 0 rfl ?_
  refine g_get (pc := 1) 0 C fl_X11_21 rfl rfl dX11_fault_1 ?_
  refine g_get (pc := 4) 1 C fl_X11_119 rfl rfl dX11_fault_4 ?_
  obtain rfl := Option.some.inj h
  exact g_iret (pc := 7) C K dX11_fault_7
theorem dX11_rule_0 : decode cX11_rule 0 = .ok (.iload_n 1, 1) := by decide +kernel
theorem dX11_rule_1 : decode cX11_rule 1 = .ok (.tableswitch 93 0 5 #[39, 47, 55, 63, 74, 85], 39) := by decide +kernel
theorem dX11_rule_40 : decode cX11_rule 40 = .ok (.aload_n 0, 1) := by decide +kernel
theorem dX11_rule_41 : decode cX11_rule 41 = .ok (.getfield 28, 3) := by decide +kernel
theorem dX11_rule_44 : decode cX11_rule 44 = .ok (.getfield 122, 3) := by decide +kernel
theorem dX11_rule_47 : decode cX11_rule 47 = .ok (.ireturn, 1) := by decide +kernel
theorem dX11_rule_48 : decode cX11_rule 48 = .ok (.aload_n 0, 1) := by decide +kernel
theorem dX11_rule_49 : decode cX11_rule 49 = .ok (.getfield 28, 3) := by decide +kernel
theorem dX11_rule_52 : decode cX11_rule 52 = .ok (.getfield 125, 3) := by decide +kernel
theorem dX11_rule_55 : decode cX11_rule 55 = .ok (.ireturn, 1) := by decide +kernel
theorem dX11_rule_56 : decode cX11_rule 56 = .ok (.aload_n 0, 1) := by decide +kernel
theorem dX11_rule_57 : decode cX11_rule 57 = .ok (.getfield 28, 3) := by decide +kernel
theorem dX11_rule_60 : decode cX11_rule 60 = .ok (.getfield 128, 3) := by decide +kernel
theorem dX11_rule_63 : decode cX11_rule 63 = .ok (.ireturn, 1) := by decide +kernel
theorem dX11_rule_64 : decode cX11_rule 64 = .ok (.aload_n 0, 1) := by decide +kernel
theorem dX11_rule_65 : decode cX11_rule 65 = .ok (.getfield 44, 3) := by decide +kernel
theorem dX11_rule_68 : decode cX11_rule 68 = .ok (.invokevirtual 131, 3) := by decide +kernel
theorem dX11_rule_71 : decode cX11_rule 71 = .ok (.getfield 135, 3) := by decide +kernel
theorem dX11_rule_74 : decode cX11_rule 74 = .ok (.ireturn, 1) := by decide +kernel
theorem dX11_rule_75 : decode cX11_rule 75 = .ok (.aload_n 0, 1) := by decide +kernel
theorem dX11_rule_76 : decode cX11_rule 76 = .ok (.getfield 44, 3) := by decide +kernel
theorem dX11_rule_79 : decode cX11_rule 79 = .ok (.invokevirtual 131, 3) := by decide +kernel
theorem dX11_rule_82 : decode cX11_rule 82 = .ok (.getfield 140, 3) := by decide +kernel
theorem dX11_rule_85 : decode cX11_rule 85 = .ok (.ireturn, 1) := by decide +kernel
theorem dX11_rule_86 : decode cX11_rule 86 = .ok (.aload_n 0, 1) := by decide +kernel
theorem dX11_rule_87 : decode cX11_rule 87 = .ok (.getfield 28, 3) := by decide +kernel
theorem dX11_rule_90 : decode cX11_rule 90 = .ok (.invokevirtual 143, 3) := by decide +kernel
theorem dX11_rule_93 : decode cX11_rule 93 = .ok (.ireturn, 1) := by decide +kernel
theorem dX11_rule_94 : decode cX11_rule 94 = .ok (.iconst (-1), 1) := by decide +kernel
theorem dX11_rule_95 : decode cX11_rule 95 = .ok (.ireturn, 1) := by decide +kernel
def f_X11_rule (c_t_now_houses : Int32) (c_t_now_comers : Int32) (c_t_now_evening : Int32) (r_t_now_comes : (Nat → Int32)) (r_t_now_goes : (Nat → Int32)) (r_t_now_kindOf : (Nat → Int32)) (r_t_now_likings : (Nat → Int32)) (r_t_now_lists : (Nat → Int32)) (c_t_trial_evenings : Int32) (c_t_trial_waited : Int32) (c_t_trial_firstFast : Int32) (c_t_trial_county_houses : Int32) (c_t_trial_county_comers : Int32) (c_t_trial_county_evening : Int32) (r_t_trial_county_comes : (Nat → Int32)) (r_t_trial_county_goes : (Nat → Int32)) (r_t_trial_county_kindOf : (Nat → Int32)) (r_t_trial_county_likings : (Nat → Int32)) (r_t_trial_county_lists : (Nat → Int32)) (c_t_trial_evening_begun : Int32) (c_t_trial_evening_waited : Int32) (r_t_trial_evening_hours : (Nat → Int32)) (r_t_trial_evening_openers : (Nat → Int32)) (x1 : Int32) : Option (Int32 × Int32 × Int32 × Int32 × Int32 × Int32 × Int32 × (Nat → Int32) × (Nat → Int32) × (Nat → Int32) × (Nat → Int32) × (Nat → Int32) × Int32 × Int32 × (Nat → Int32) × (Nat → Int32)) :=
  if x1 = 0 then
    (some ((c_t_now_houses, c_t_trial_evenings, c_t_trial_waited, c_t_trial_firstFast, c_t_trial_county_houses, c_t_trial_county_comers, c_t_trial_county_evening, r_t_trial_county_comes, r_t_trial_county_goes, r_t_trial_county_kindOf, r_t_trial_county_likings, r_t_trial_county_lists, c_t_trial_evening_begun, c_t_trial_evening_waited, r_t_trial_evening_hours, r_t_trial_evening_openers)))
  else
    (if x1 = 1 then
      (some ((c_t_now_comers, c_t_trial_evenings, c_t_trial_waited, c_t_trial_firstFast, c_t_trial_county_houses, c_t_trial_county_comers, c_t_trial_county_evening, r_t_trial_county_comes, r_t_trial_county_goes, r_t_trial_county_kindOf, r_t_trial_county_likings, r_t_trial_county_lists, c_t_trial_evening_begun, c_t_trial_evening_waited, r_t_trial_evening_hours, r_t_trial_evening_openers)))
    else
      (if x1 = 2 then
        (some ((c_t_now_evening, c_t_trial_evenings, c_t_trial_waited, c_t_trial_firstFast, c_t_trial_county_houses, c_t_trial_county_comers, c_t_trial_county_evening, r_t_trial_county_comes, r_t_trial_county_goes, r_t_trial_county_kindOf, r_t_trial_county_likings, r_t_trial_county_lists, c_t_trial_evening_begun, c_t_trial_evening_waited, r_t_trial_evening_hours, r_t_trial_evening_openers)))
      else
        (if x1 = 3 then
          ((f_X10_tonight c_t_trial_evenings c_t_trial_waited c_t_trial_firstFast c_t_trial_county_houses c_t_trial_county_comers c_t_trial_county_evening r_t_trial_county_comes r_t_trial_county_goes r_t_trial_county_kindOf r_t_trial_county_likings r_t_trial_county_lists c_t_trial_evening_begun c_t_trial_evening_waited r_t_trial_evening_hours r_t_trial_evening_openers c_t_now_houses c_t_now_comers c_t_now_evening r_t_now_comes r_t_now_goes r_t_now_kindOf r_t_now_likings r_t_now_lists).bind (fun (v1 : Int32 × Int32 × Int32 × Int32 × Int32 × Int32 × (Nat → Int32) × (Nat → Int32) × (Nat → Int32) × (Nat → Int32) × (Nat → Int32) × Int32 × Int32 × (Nat → Int32) × (Nat → Int32)) =>
            some ((v1.2.2.2.2.2.2.2.2.2.2.2.1, v1.1, v1.2.1, v1.2.2.1, v1.2.2.2.1, v1.2.2.2.2.1, v1.2.2.2.2.2.1, v1.2.2.2.2.2.2.1, v1.2.2.2.2.2.2.2.1, v1.2.2.2.2.2.2.2.2.1, v1.2.2.2.2.2.2.2.2.2.1, v1.2.2.2.2.2.2.2.2.2.2.1, v1.2.2.2.2.2.2.2.2.2.2.2.1, v1.2.2.2.2.2.2.2.2.2.2.2.2.1, v1.2.2.2.2.2.2.2.2.2.2.2.2.2.1, v1.2.2.2.2.2.2.2.2.2.2.2.2.2.2))))
        else
          (if x1 = 4 then
            ((f_X10_tonight c_t_trial_evenings c_t_trial_waited c_t_trial_firstFast c_t_trial_county_houses c_t_trial_county_comers c_t_trial_county_evening r_t_trial_county_comes r_t_trial_county_goes r_t_trial_county_kindOf r_t_trial_county_likings r_t_trial_county_lists c_t_trial_evening_begun c_t_trial_evening_waited r_t_trial_evening_hours r_t_trial_evening_openers c_t_now_houses c_t_now_comers c_t_now_evening r_t_now_comes r_t_now_goes r_t_now_kindOf r_t_now_likings r_t_now_lists).bind (fun (v2 : Int32 × Int32 × Int32 × Int32 × Int32 × Int32 × (Nat → Int32) × (Nat → Int32) × (Nat → Int32) × (Nat → Int32) × (Nat → Int32) × Int32 × Int32 × (Nat → Int32) × (Nat → Int32)) =>
              some ((v2.2.2.2.2.2.2.2.2.2.2.2.2.1, v2.1, v2.2.1, v2.2.2.1, v2.2.2.2.1, v2.2.2.2.2.1, v2.2.2.2.2.2.1, v2.2.2.2.2.2.2.1, v2.2.2.2.2.2.2.2.1, v2.2.2.2.2.2.2.2.2.1, v2.2.2.2.2.2.2.2.2.2.1, v2.2.2.2.2.2.2.2.2.2.2.1, v2.2.2.2.2.2.2.2.2.2.2.2.1, v2.2.2.2.2.2.2.2.2.2.2.2.2.1, v2.2.2.2.2.2.2.2.2.2.2.2.2.2.1, v2.2.2.2.2.2.2.2.2.2.2.2.2.2.2))))
          else
            (if x1 = 5 then
              ((f_X1_invitations c_t_now_houses r_t_now_lists).bind (fun (v3 : Int32) =>
                some ((v3, c_t_trial_evenings, c_t_trial_waited, c_t_trial_firstFast, c_t_trial_county_houses, c_t_trial_county_comers, c_t_trial_county_evening, r_t_trial_county_comes, r_t_trial_county_goes, r_t_trial_county_kindOf, r_t_trial_county_likings, r_t_trial_county_lists, c_t_trial_evening_begun, c_t_trial_evening_waited, r_t_trial_evening_hours, r_t_trial_evening_openers))))
            else
              (some (((-1), c_t_trial_evenings, c_t_trial_waited, c_t_trial_firstFast, c_t_trial_county_houses, c_t_trial_county_comers, c_t_trial_county_evening, r_t_trial_county_comes, r_t_trial_county_goes, r_t_trial_county_kindOf, r_t_trial_county_likings, r_t_trial_county_lists, c_t_trial_evening_begun, c_t_trial_evening_waited, r_t_trial_evening_hours, r_t_trial_evening_openers))))))))
abbrev rm_X11_rule : Room := { frames := 5, cells := 0, slots := 0, locals := 142 }
set_option maxHeartbeats 4000000 in
set_option maxRecDepth 100000 in
theorem k_X11_rule (E : Ev) (a_t a_t_now a_t_now_comes a_t_now_goes a_t_now_kindOf a_t_now_likings a_t_now_lists a_t_trial a_t_trial_county a_t_trial_county_comes a_t_trial_county_goes a_t_trial_county_kindOf a_t_trial_county_likings a_t_trial_county_lists a_t_trial_evening a_t_trial_evening_hours a_t_trial_evening_openers a_t_tape a_t_reader a_t_seen a_t_advice a_t_odds a_t_guess a_t_images a_t_sheets : Nat) (c_t_tornFault : Int32) (c_t_now_houses : Int32) (c_t_now_comers : Int32) (c_t_now_evening : Int32) (r_t_now_comes : (Nat → Int32)) (r_t_now_goes : (Nat → Int32)) (r_t_now_kindOf : (Nat → Int32)) (r_t_now_likings : (Nat → Int32)) (r_t_now_lists : (Nat → Int32)) (c_t_trial_evenings : Int32) (c_t_trial_waited : Int32) (c_t_trial_firstFast : Int32) (c_t_trial_county_houses : Int32) (c_t_trial_county_comers : Int32) (c_t_trial_county_evening : Int32) (r_t_trial_county_comes : (Nat → Int32)) (r_t_trial_county_goes : (Nat → Int32)) (r_t_trial_county_kindOf : (Nat → Int32)) (r_t_trial_county_likings : (Nat → Int32)) (r_t_trial_county_lists : (Nat → Int32)) (c_t_trial_evening_begun : Int32) (c_t_trial_evening_waited : Int32) (r_t_trial_evening_hours : (Nat → Int32)) (r_t_trial_evening_openers : (Nat → Int32)) (x1 : Int32) (v : Int32 × Int32 × Int32 × Int32 × Int32 × Int32 × Int32 × (Nat → Int32) × (Nat → Int32) × (Nat → Int32) × (Nat → Int32) × (Nat → Int32) × Int32 × Int32 × (Nat → Int32) × (Nat → Int32)) (h : f_X11_rule c_t_now_houses c_t_now_comers c_t_now_evening r_t_now_comes r_t_now_goes r_t_now_kindOf r_t_now_likings r_t_now_lists c_t_trial_evenings c_t_trial_waited c_t_trial_firstFast c_t_trial_county_houses c_t_trial_county_comers c_t_trial_county_evening r_t_trial_county_comes r_t_trial_county_goes r_t_trial_county_kindOf r_t_trial_county_likings r_t_trial_county_lists c_t_trial_evening_begun c_t_trial_evening_waited r_t_trial_evening_hours r_t_trial_evening_openers x1 = some v) : Mt E yX11_rule cX11_rule 2 (some .int) rm_X11_rule [.ref a_t, .int x1] [oX11 a_t a_t_tape a_t_reader a_t_now a_t_seen a_t_trial a_t_advice a_t_odds a_t_guess a_t_images a_t_sheets c_t_tornFault, oX1 a_t_now c_t_now_houses c_t_now_comers c_t_now_evening a_t_now_lists a_t_now_kindOf a_t_now_goes a_t_now_comes a_t_now_likings, aI E a_t_now_comes 6 r_t_now_comes, aI E a_t_now_goes 6 r_t_now_goes, aI E a_t_now_kindOf 6 r_t_now_kindOf, aI E a_t_now_likings 24 r_t_now_likings, aI E a_t_now_lists 4 r_t_now_lists, oX10 a_t_trial a_t_now a_t_trial_county a_t_trial_evening c_t_trial_evenings c_t_trial_waited c_t_trial_firstFast, oX1 a_t_trial_county c_t_trial_county_houses c_t_trial_county_comers c_t_trial_county_evening a_t_trial_county_lists a_t_trial_county_kindOf a_t_trial_county_goes a_t_trial_county_comes a_t_trial_county_likings, aI E a_t_trial_county_comes 6 r_t_trial_county_comes, aI E a_t_trial_county_goes 6 r_t_trial_county_goes, aI E a_t_trial_county_kindOf 6 r_t_trial_county_kindOf, aI E a_t_trial_county_likings 24 r_t_trial_county_likings, aI E a_t_trial_county_lists 4 r_t_trial_county_lists, oX2 a_t_trial_evening a_t_trial_evening_hours a_t_trial_evening_openers c_t_trial_evening_begun c_t_trial_evening_waited, aI E a_t_trial_evening_hours 4 r_t_trial_evening_hours, aI E a_t_trial_evening_openers 4 r_t_trial_evening_openers] [oX11 a_t a_t_tape a_t_reader a_t_now a_t_seen a_t_trial a_t_advice a_t_odds a_t_guess a_t_images a_t_sheets c_t_tornFault, oX1 a_t_now c_t_now_houses c_t_now_comers c_t_now_evening a_t_now_lists a_t_now_kindOf a_t_now_goes a_t_now_comes a_t_now_likings, aI E a_t_now_comes 6 r_t_now_comes, aI E a_t_now_goes 6 r_t_now_goes, aI E a_t_now_kindOf 6 r_t_now_kindOf, aI E a_t_now_likings 24 r_t_now_likings, aI E a_t_now_lists 4 r_t_now_lists, oX10 a_t_trial a_t_now a_t_trial_county a_t_trial_evening v.2.1 v.2.2.1 v.2.2.2.1, oX1 a_t_trial_county v.2.2.2.2.1 v.2.2.2.2.2.1 v.2.2.2.2.2.2.1 a_t_trial_county_lists a_t_trial_county_kindOf a_t_trial_county_goes a_t_trial_county_comes a_t_trial_county_likings, aI E a_t_trial_county_comes 6 v.2.2.2.2.2.2.2.1, aI E a_t_trial_county_goes 6 v.2.2.2.2.2.2.2.2.1, aI E a_t_trial_county_kindOf 6 v.2.2.2.2.2.2.2.2.2.1, aI E a_t_trial_county_likings 24 v.2.2.2.2.2.2.2.2.2.2.1, aI E a_t_trial_county_lists 4 v.2.2.2.2.2.2.2.2.2.2.2.1, oX2 a_t_trial_evening a_t_trial_evening_hours a_t_trial_evening_openers v.2.2.2.2.2.2.2.2.2.2.2.2.1 v.2.2.2.2.2.2.2.2.2.2.2.2.2.1, aI E a_t_trial_evening_hours 4 v.2.2.2.2.2.2.2.2.2.2.2.2.2.2.1, aI E a_t_trial_evening_openers 4 v.2.2.2.2.2.2.2.2.2.2.2.2.2.2.2] (some (.int v.1)) := by
  refine Mt.intro (lv := [(0, .ref a_t), (1, .int x1)]) (by decide +kernel) (Nat.le_of_ble_eq_true rfl) rfl (fun X C K => ?_)
  have C : CX E X cX11_rule RX11 2 rm_X11_rule := C
  rw [f_X11_rule] at h
  refine g_iload_n (pc := 0) C dX11_rule_0 1 rfl ?_
  rcases o_ite h with ⟨c0, h⟩ | ⟨c0, h⟩
  · refine g_tabIn (pc := 1) 40 0 C dX11_rule_1 (by rw [c0]; rfl) (by decide) rfl (by decide) ?_
    refine g_aload_n (pc := 40) C dX11_rule_40 0 rfl ?_
    refine g_get (pc := 41) 0 C fl_X11_28 rfl rfl dX11_rule_41 ?_
    refine g_get (pc := 44) 1 C fl_X11_122 rfl rfl dX11_rule_44 ?_
    obtain rfl := Option.some.inj h
    exact g_iret (pc := 47) C K dX11_rule_47
  · rcases o_ite h with ⟨c1, h⟩ | ⟨c1, h⟩
    · refine g_tabIn (pc := 1) 48 1 C dX11_rule_1 (by rw [c1]; rfl) (by decide) rfl (by decide) ?_
      refine g_aload_n (pc := 48) C dX11_rule_48 0 rfl ?_
      refine g_get (pc := 49) 0 C fl_X11_28 rfl rfl dX11_rule_49 ?_
      refine g_get (pc := 52) 1 C fl_X11_125 rfl rfl dX11_rule_52 ?_
      obtain rfl := Option.some.inj h
      exact g_iret (pc := 55) C K dX11_rule_55
    · rcases o_ite h with ⟨c2, h⟩ | ⟨c2, h⟩
      · refine g_tabIn (pc := 1) 56 2 C dX11_rule_1 (by rw [c2]; rfl) (by decide) rfl (by decide) ?_
        refine g_aload_n (pc := 56) C dX11_rule_56 0 rfl ?_
        refine g_get (pc := 57) 0 C fl_X11_28 rfl rfl dX11_rule_57 ?_
        refine g_get (pc := 60) 1 C fl_X11_128 rfl rfl dX11_rule_60 ?_
        obtain rfl := Option.some.inj h
        exact g_iret (pc := 63) C K dX11_rule_63
      · rcases o_ite h with ⟨c3, h⟩ | ⟨c3, h⟩
        · refine g_tabIn (pc := 1) 64 3 C dX11_rule_1 (by rw [c3]; rfl) (by decide) rfl (by decide) ?_
          refine g_aload_n (pc := 64) C dX11_rule_64 0 rfl ?_
          refine g_get (pc := 65) 0 C fl_X11_44 rfl rfl dX11_rule_65 ?_
          obtain ⟨v1, hv1, h⟩ := o_bnd h
          refine g_callV (pc := 68) (ws' := [oX11 a_t a_t_tape a_t_reader a_t_now a_t_seen a_t_trial a_t_advice a_t_odds a_t_guess a_t_images a_t_sheets c_t_tornFault, oX1 a_t_now c_t_now_houses c_t_now_comers c_t_now_evening a_t_now_lists a_t_now_kindOf a_t_now_goes a_t_now_comes a_t_now_likings, aI E a_t_now_comes 6 r_t_now_comes, aI E a_t_now_goes 6 r_t_now_goes, aI E a_t_now_kindOf 6 r_t_now_kindOf, aI E a_t_now_likings 24 r_t_now_likings, aI E a_t_now_lists 4 r_t_now_lists, oX10 a_t_trial a_t_now a_t_trial_county a_t_trial_evening v1.1 v1.2.1 v1.2.2.1, oX1 a_t_trial_county v1.2.2.2.1 v1.2.2.2.2.1 v1.2.2.2.2.2.1 a_t_trial_county_lists a_t_trial_county_kindOf a_t_trial_county_goes a_t_trial_county_comes a_t_trial_county_likings, aI E a_t_trial_county_comes 6 v1.2.2.2.2.2.2.1, aI E a_t_trial_county_goes 6 v1.2.2.2.2.2.2.2.1, aI E a_t_trial_county_kindOf 6 v1.2.2.2.2.2.2.2.2.1, aI E a_t_trial_county_likings 24 v1.2.2.2.2.2.2.2.2.2.1, aI E a_t_trial_county_lists 4 v1.2.2.2.2.2.2.2.2.2.2.1, oX2 a_t_trial_evening a_t_trial_evening_hours a_t_trial_evening_openers v1.2.2.2.2.2.2.2.2.2.2.2.1 v1.2.2.2.2.2.2.2.2.2.2.2.2.1, aI E a_t_trial_evening_hours 4 v1.2.2.2.2.2.2.2.2.2.2.2.2.2.1, aI E a_t_trial_evening_openers 4 v1.2.2.2.2.2.2.2.2.2.2.2.2.2.2]) (st1 := [.ref a_t_trial_evening]) C mv_X11_131 (k_X10_tonight E a_t_trial a_t_trial_county a_t_trial_county_comes a_t_trial_county_goes a_t_trial_county_kindOf a_t_trial_county_likings a_t_trial_county_lists a_t_trial_evening a_t_trial_evening_hours a_t_trial_evening_openers a_t_now a_t_now_comes a_t_now_goes a_t_now_kindOf a_t_now_likings a_t_now_lists c_t_trial_evenings c_t_trial_waited c_t_trial_firstFast c_t_trial_county_houses c_t_trial_county_comers c_t_trial_county_evening r_t_trial_county_comes r_t_trial_county_goes r_t_trial_county_kindOf r_t_trial_county_likings r_t_trial_county_lists c_t_trial_evening_begun c_t_trial_evening_waited r_t_trial_evening_hours r_t_trial_evening_openers c_t_now_houses c_t_now_comers c_t_now_evening r_t_now_comes r_t_now_goes r_t_now_kindOf r_t_now_likings r_t_now_lists v1 hv1) [7, 8, 9, 10, 11, 12, 13, 14, 15, 16, 1, 2, 3, 4, 5, 6] rfl (by decide +kernel) rfl [none, some 10, some 11, some 12, some 13, some 14, some 15, some 0, some 1, some 2, some 3, some 4, some 5, some 6, some 7, some 8, some 9] 17 (by decide +kernel) rfl rfl 0 rfl rfl ⟨by decide, by decide⟩ ⟨rfl, rfl⟩ ⟨Nat.zero_le _, Nat.zero_le _⟩ rfl rfl rfl (Nat.le_of_ble_eq_true rfl) dX11_rule_68 ?_
          refine g_get (pc := 71) 14 C fl_X11_135 rfl rfl dX11_rule_71 ?_
          obtain rfl := Option.some.inj h
          exact g_iret (pc := 74) C K dX11_rule_74
        · rcases o_ite h with ⟨c4, h⟩ | ⟨c4, h⟩
          · refine g_tabIn (pc := 1) 75 4 C dX11_rule_1 (by rw [c4]; rfl) (by decide) rfl (by decide) ?_
            refine g_aload_n (pc := 75) C dX11_rule_75 0 rfl ?_
            refine g_get (pc := 76) 0 C fl_X11_44 rfl rfl dX11_rule_76 ?_
            obtain ⟨v2, hv2, h⟩ := o_bnd h
            refine g_callV (pc := 79) (ws' := [oX11 a_t a_t_tape a_t_reader a_t_now a_t_seen a_t_trial a_t_advice a_t_odds a_t_guess a_t_images a_t_sheets c_t_tornFault, oX1 a_t_now c_t_now_houses c_t_now_comers c_t_now_evening a_t_now_lists a_t_now_kindOf a_t_now_goes a_t_now_comes a_t_now_likings, aI E a_t_now_comes 6 r_t_now_comes, aI E a_t_now_goes 6 r_t_now_goes, aI E a_t_now_kindOf 6 r_t_now_kindOf, aI E a_t_now_likings 24 r_t_now_likings, aI E a_t_now_lists 4 r_t_now_lists, oX10 a_t_trial a_t_now a_t_trial_county a_t_trial_evening v2.1 v2.2.1 v2.2.2.1, oX1 a_t_trial_county v2.2.2.2.1 v2.2.2.2.2.1 v2.2.2.2.2.2.1 a_t_trial_county_lists a_t_trial_county_kindOf a_t_trial_county_goes a_t_trial_county_comes a_t_trial_county_likings, aI E a_t_trial_county_comes 6 v2.2.2.2.2.2.2.1, aI E a_t_trial_county_goes 6 v2.2.2.2.2.2.2.2.1, aI E a_t_trial_county_kindOf 6 v2.2.2.2.2.2.2.2.2.1, aI E a_t_trial_county_likings 24 v2.2.2.2.2.2.2.2.2.2.1, aI E a_t_trial_county_lists 4 v2.2.2.2.2.2.2.2.2.2.2.1, oX2 a_t_trial_evening a_t_trial_evening_hours a_t_trial_evening_openers v2.2.2.2.2.2.2.2.2.2.2.2.1 v2.2.2.2.2.2.2.2.2.2.2.2.2.1, aI E a_t_trial_evening_hours 4 v2.2.2.2.2.2.2.2.2.2.2.2.2.2.1, aI E a_t_trial_evening_openers 4 v2.2.2.2.2.2.2.2.2.2.2.2.2.2.2]) (st1 := [.ref a_t_trial_evening]) C mv_X11_131 (k_X10_tonight E a_t_trial a_t_trial_county a_t_trial_county_comes a_t_trial_county_goes a_t_trial_county_kindOf a_t_trial_county_likings a_t_trial_county_lists a_t_trial_evening a_t_trial_evening_hours a_t_trial_evening_openers a_t_now a_t_now_comes a_t_now_goes a_t_now_kindOf a_t_now_likings a_t_now_lists c_t_trial_evenings c_t_trial_waited c_t_trial_firstFast c_t_trial_county_houses c_t_trial_county_comers c_t_trial_county_evening r_t_trial_county_comes r_t_trial_county_goes r_t_trial_county_kindOf r_t_trial_county_likings r_t_trial_county_lists c_t_trial_evening_begun c_t_trial_evening_waited r_t_trial_evening_hours r_t_trial_evening_openers c_t_now_houses c_t_now_comers c_t_now_evening r_t_now_comes r_t_now_goes r_t_now_kindOf r_t_now_likings r_t_now_lists v2 hv2) [7, 8, 9, 10, 11, 12, 13, 14, 15, 16, 1, 2, 3, 4, 5, 6] rfl (by decide +kernel) rfl [none, some 10, some 11, some 12, some 13, some 14, some 15, some 0, some 1, some 2, some 3, some 4, some 5, some 6, some 7, some 8, some 9] 17 (by decide +kernel) rfl rfl 0 rfl rfl ⟨by decide, by decide⟩ ⟨rfl, rfl⟩ ⟨Nat.zero_le _, Nat.zero_le _⟩ rfl rfl rfl (Nat.le_of_ble_eq_true rfl) dX11_rule_79 ?_
            refine g_get (pc := 82) 14 C fl_X11_140 rfl rfl dX11_rule_82 ?_
            obtain rfl := Option.some.inj h
            exact g_iret (pc := 85) C K dX11_rule_85
          · rcases o_ite h with ⟨c5, h⟩ | ⟨c5, h⟩
            · refine g_tabIn (pc := 1) 86 5 C dX11_rule_1 (by rw [c5]; rfl) (by decide) rfl (by decide) ?_
              refine g_aload_n (pc := 86) C dX11_rule_86 0 rfl ?_
              refine g_get (pc := 87) 0 C fl_X11_28 rfl rfl dX11_rule_87 ?_
              obtain ⟨v3, hv3, h⟩ := o_bnd h
              refine g_callV (pc := 90) (ws' := [oX11 a_t a_t_tape a_t_reader a_t_now a_t_seen a_t_trial a_t_advice a_t_odds a_t_guess a_t_images a_t_sheets c_t_tornFault, oX1 a_t_now c_t_now_houses c_t_now_comers c_t_now_evening a_t_now_lists a_t_now_kindOf a_t_now_goes a_t_now_comes a_t_now_likings, aI E a_t_now_comes 6 r_t_now_comes, aI E a_t_now_goes 6 r_t_now_goes, aI E a_t_now_kindOf 6 r_t_now_kindOf, aI E a_t_now_likings 24 r_t_now_likings, aI E a_t_now_lists 4 r_t_now_lists, oX10 a_t_trial a_t_now a_t_trial_county a_t_trial_evening c_t_trial_evenings c_t_trial_waited c_t_trial_firstFast, oX1 a_t_trial_county c_t_trial_county_houses c_t_trial_county_comers c_t_trial_county_evening a_t_trial_county_lists a_t_trial_county_kindOf a_t_trial_county_goes a_t_trial_county_comes a_t_trial_county_likings, aI E a_t_trial_county_comes 6 r_t_trial_county_comes, aI E a_t_trial_county_goes 6 r_t_trial_county_goes, aI E a_t_trial_county_kindOf 6 r_t_trial_county_kindOf, aI E a_t_trial_county_likings 24 r_t_trial_county_likings, aI E a_t_trial_county_lists 4 r_t_trial_county_lists, oX2 a_t_trial_evening a_t_trial_evening_hours a_t_trial_evening_openers c_t_trial_evening_begun c_t_trial_evening_waited, aI E a_t_trial_evening_hours 4 r_t_trial_evening_hours, aI E a_t_trial_evening_openers 4 r_t_trial_evening_openers]) (st1 := [.int v3]) C mv_X11_143 (k_X1_invitations E a_t_now a_t_now_lists a_t_now_kindOf a_t_now_goes a_t_now_comes a_t_now_likings c_t_now_houses c_t_now_comers c_t_now_evening r_t_now_lists v3 hv3) [1, 6] rfl (by decide +kernel) rfl [none, some 0, none, none, none, none, some 1, none, none, none, none, none, none, none, none, none, none] 17 (by decide +kernel) rfl rfl 0 rfl rfl ⟨by decide, by decide⟩ ⟨rfl, rfl⟩ ⟨Nat.zero_le _, Nat.zero_le _⟩ rfl rfl rfl (Nat.le_of_ble_eq_true rfl) dX11_rule_90 ?_
              obtain rfl := Option.some.inj h
              exact g_iret (pc := 93) C K dX11_rule_93
            · refine g_tabOut (pc := 1) 94 C dX11_rule_1 (by have := sw_n 0 (by decide) c0; have := sw_n 1 (by decide) c1; have := sw_n 2 (by decide) c2; have := sw_n 3 (by decide) c3; have := sw_n 4 (by decide) c4; have := sw_n 5 (by decide) c5; omega) (by decide) ?_
              refine g_iconst (pc := 94) (v := (-1)) C dX11_rule_94 (by decide) ?_
              obtain rfl := Option.some.inj h
              exact g_iret (pc := 95) C K dX11_rule_95
theorem dX11_noHouse_0 : decode cX11_noHouse 0 = .ok (.iload_n 1, 1) := by decide +kernel
theorem dX11_noHouse_1 : decode cX11_noHouse 1 = .ok (.ifCond .lt 14, 3) := by decide +kernel
theorem dX11_noHouse_4 : decode cX11_noHouse 4 = .ok (.iload_n 1, 1) := by decide +kernel
theorem dX11_noHouse_5 : decode cX11_noHouse 5 = .ok (.aload_n 0, 1) := by decide +kernel
theorem dX11_noHouse_6 : decode cX11_noHouse 6 = .ok (.getfield 28, 3) := by decide +kernel
theorem dX11_noHouse_9 : decode cX11_noHouse 9 = .ok (.getfield 122, 3) := by decide +kernel
theorem dX11_noHouse_12 : decode cX11_noHouse 12 = .ok (.if_icmp .lt 7, 3) := by decide +kernel
theorem dX11_noHouse_15 : decode cX11_noHouse 15 = .ok (.iconst 1, 1) := by decide +kernel
theorem dX11_noHouse_16 : decode cX11_noHouse 16 = .ok (.goto 4, 3) := by decide +kernel
theorem dX11_noHouse_19 : decode cX11_noHouse 19 = .ok (.iconst 0, 1) := by decide +kernel
theorem dX11_noHouse_20 : decode cX11_noHouse 20 = .ok (.ireturn, 1) := by decide +kernel
def f_X11_noHouse (c_t_now_houses : Int32) (x1 : Int32) : Option (Int32) :=
  if x1 < 0 then
    (some 1)
  else
    (if x1 < c_t_now_houses then
      (some 0)
    else
      (some 1))
abbrev rm_X11_noHouse : Room := { frames := 0, cells := 0, slots := 0, locals := 0 }
set_option maxHeartbeats 4000000 in
set_option maxRecDepth 100000 in
theorem k_X11_noHouse (E : Ev) (a_t a_t_now a_t_tape a_t_reader a_t_seen a_t_trial a_t_advice a_t_odds a_t_guess a_t_images a_t_sheets a_t_now_lists a_t_now_kindOf a_t_now_goes a_t_now_comes a_t_now_likings : Nat) (c_t_tornFault : Int32) (c_t_now_houses : Int32) (c_t_now_comers : Int32) (c_t_now_evening : Int32) (x1 : Int32) (v : Int32) (h : f_X11_noHouse c_t_now_houses x1 = some v) : Mt E yX11_noHouse cX11_noHouse 2 (some .boolean) rm_X11_noHouse [.ref a_t, .int x1] [oX11 a_t a_t_tape a_t_reader a_t_now a_t_seen a_t_trial a_t_advice a_t_odds a_t_guess a_t_images a_t_sheets c_t_tornFault, oX1 a_t_now c_t_now_houses c_t_now_comers c_t_now_evening a_t_now_lists a_t_now_kindOf a_t_now_goes a_t_now_comes a_t_now_likings] [oX11 a_t a_t_tape a_t_reader a_t_now a_t_seen a_t_trial a_t_advice a_t_odds a_t_guess a_t_images a_t_sheets c_t_tornFault, oX1 a_t_now c_t_now_houses c_t_now_comers c_t_now_evening a_t_now_lists a_t_now_kindOf a_t_now_goes a_t_now_comes a_t_now_likings] (some (.int v)) := by
  refine Mt.intro (lv := [(0, .ref a_t), (1, .int x1)]) (by decide +kernel) (Nat.le_of_ble_eq_true rfl) rfl (fun X C K => ?_)
  have C : CX E X cX11_noHouse RX11 2 rm_X11_noHouse := C
  rw [f_X11_noHouse] at h
  refine g_iload_n (pc := 0) C dX11_noHouse_0 1 rfl ?_
  refine b_if_lt (pc := 1) 15 C dX11_noHouse_1 (by decide) h (fun _ h => ?_) (fun _ h => ?_)
  · refine g_iconst (pc := 15) (v := 1) C dX11_noHouse_15 (by decide) ?_
    refine g_goto (pc := 16) 20 C dX11_noHouse_16 (by decide) ?_
    obtain rfl := Option.some.inj h
    exact g_zret (pc := 20) C K rfl dX11_noHouse_20
  · refine g_iload_n (pc := 4) C dX11_noHouse_4 1 rfl ?_
    refine g_aload_n (pc := 5) C dX11_noHouse_5 0 rfl ?_
    refine g_get (pc := 6) 0 C fl_X11_28 rfl rfl dX11_noHouse_6 ?_
    refine g_get (pc := 9) 1 C fl_X11_122 rfl rfl dX11_noHouse_9 ?_
    refine b_icmp_lt (pc := 12) 19 C dX11_noHouse_12 (by decide) h (fun _ h => ?_) (fun _ h => ?_)
    · refine g_iconst (pc := 19) (v := 0) C dX11_noHouse_19 (by decide) ?_
      obtain rfl := Option.some.inj h
      exact g_zret (pc := 20) C K rfl dX11_noHouse_20
    · refine g_iconst (pc := 15) (v := 1) C dX11_noHouse_15 (by decide) ?_
      refine g_goto (pc := 16) 20 C dX11_noHouse_16 (by decide) ?_
      obtain rfl := Option.some.inj h
      exact g_zret (pc := 20) C K rfl dX11_noHouse_20
theorem dX11_hourOrNone_0 : decode cX11_hourOrNone 0 = .ok (.iload_n 0, 1) := by decide +kernel
theorem dX11_hourOrNone_1 : decode cX11_hourOrNone 1 = .ok (.bipush 7, 2) := by decide +kernel
theorem dX11_hourOrNone_3 : decode cX11_hourOrNone 3 = .ok (.if_icmp .ne 8, 3) := by decide +kernel
theorem dX11_hourOrNone_6 : decode cX11_hourOrNone 6 = .ok (.bipush (-4), 2) := by decide +kernel
theorem dX11_hourOrNone_8 : decode cX11_hourOrNone 8 = .ok (.goto 4, 3) := by decide +kernel
theorem dX11_hourOrNone_11 : decode cX11_hourOrNone 11 = .ok (.iload_n 0, 1) := by decide +kernel
theorem dX11_hourOrNone_12 : decode cX11_hourOrNone 12 = .ok (.ireturn, 1) := by decide +kernel
def f_X11_hourOrNone (x0 : Int32) : Option (Int32) :=
  if x0 = 7 then
    (some ((-4)))
  else
    (some x0)
abbrev rm_X11_hourOrNone : Room := { frames := 0, cells := 0, slots := 0, locals := 0 }
set_option maxHeartbeats 4000000 in
set_option maxRecDepth 100000 in
theorem k_X11_hourOrNone (E : Ev) (x0 : Int32) (v : Int32) (h : f_X11_hourOrNone x0 = some v) : Mt E yX11_hourOrNone cX11_hourOrNone 1 (some .int) rm_X11_hourOrNone [.int x0] [] [] (some (.int v)) := by
  refine Mt.intro (lv := [(0, .int x0)]) (by decide +kernel) (Nat.le_of_ble_eq_true rfl) rfl (fun X C K => ?_)
  have C : CX E X cX11_hourOrNone RX11 1 rm_X11_hourOrNone := C
  rw [f_X11_hourOrNone] at h
  refine g_iload_n (pc := 0) C dX11_hourOrNone_0 0 rfl ?_
  refine g_bipush (pc := 1) (v := 7) C dX11_hourOrNone_1 (by decide) ?_
  refine b_icmp_ne (pc := 3) 11 C dX11_hourOrNone_3 (by decide) h (fun _ h => ?_) (fun _ h => ?_)
  · refine g_iload_n (pc := 11) C dX11_hourOrNone_11 0 rfl ?_
    obtain rfl := Option.some.inj h
    exact g_iret (pc := 12) C K dX11_hourOrNone_12
  · refine g_bipush (pc := 6) (v := (-4)) C dX11_hourOrNone_6 (by decide) ?_
    refine g_goto (pc := 8) 12 C dX11_hourOrNone_8 (by decide) ?_
    obtain rfl := Option.some.inj h
    exact g_iret (pc := 12) C K dX11_hourOrNone_12
theorem dX11_house_0 : decode cX11_house 0 = .ok (.aload_n 0, 1) := by decide +kernel
theorem dX11_house_1 : decode cX11_house 1 = .ok (.iload_n 1, 1) := by decide +kernel
theorem dX11_house_2 : decode cX11_house 2 = .ok (.invokevirtual 146, 3) := by decide +kernel
theorem dX11_house_5 : decode cX11_house 5 = .ok (.ifCond .eq 5, 3) := by decide +kernel
theorem dX11_house_8 : decode cX11_house 8 = .ok (.iconst (-1), 1) := by decide +kernel
theorem dX11_house_9 : decode cX11_house 9 = .ok (.ireturn, 1) := by decide +kernel
theorem dX11_house_10 : decode cX11_house 10 = .ok (.iload_n 2, 1) := by decide +kernel
theorem dX11_house_11 : decode cX11_house 11 = .ok (.tableswitch 90 0 4 #[33, 43, 52, 68, 81], 33) := by decide +kernel
theorem dX11_house_44 : decode cX11_house 44 = .ok (.aload_n 0, 1) := by decide +kernel
theorem dX11_house_45 : decode cX11_house 45 = .ok (.getfield 28, 3) := by decide +kernel
theorem dX11_house_48 : decode cX11_house 48 = .ok (.getfield 149, 3) := by decide +kernel
theorem dX11_house_51 : decode cX11_house 51 = .ok (.iload_n 1, 1) := by decide +kernel
theorem dX11_house_52 : decode cX11_house 52 = .ok (.iaload, 1) := by decide +kernel
theorem dX11_house_53 : decode cX11_house 53 = .ok (.ireturn, 1) := by decide +kernel
theorem dX11_house_54 : decode cX11_house 54 = .ok (.aload_n 0, 1) := by decide +kernel
theorem dX11_house_55 : decode cX11_house 55 = .ok (.getfield 28, 3) := by decide +kernel
theorem dX11_house_58 : decode cX11_house 58 = .ok (.iload_n 1, 1) := by decide +kernel
theorem dX11_house_59 : decode cX11_house 59 = .ok (.invokevirtual 153, 3) := by decide +kernel
theorem dX11_house_62 : decode cX11_house 62 = .ok (.ireturn, 1) := by decide +kernel
theorem dX11_house_63 : decode cX11_house 63 = .ok (.aload_n 0, 1) := by decide +kernel
theorem dX11_house_64 : decode cX11_house 64 = .ok (.getfield 44, 3) := by decide +kernel
theorem dX11_house_67 : decode cX11_house 67 = .ok (.invokevirtual 131, 3) := by decide +kernel
theorem dX11_house_70 : decode cX11_house 70 = .ok (.getfield 157, 3) := by decide +kernel
theorem dX11_house_73 : decode cX11_house 73 = .ok (.iload_n 1, 1) := by decide +kernel
theorem dX11_house_74 : decode cX11_house 74 = .ok (.iaload, 1) := by decide +kernel
theorem dX11_house_75 : decode cX11_house 75 = .ok (.invokestatic 160, 3) := by decide +kernel
theorem dX11_house_78 : decode cX11_house 78 = .ok (.ireturn, 1) := by decide +kernel
theorem dX11_house_79 : decode cX11_house 79 = .ok (.aload_n 0, 1) := by decide +kernel
theorem dX11_house_80 : decode cX11_house 80 = .ok (.getfield 44, 3) := by decide +kernel
theorem dX11_house_83 : decode cX11_house 83 = .ok (.invokevirtual 131, 3) := by decide +kernel
theorem dX11_house_86 : decode cX11_house 86 = .ok (.getfield 163, 3) := by decide +kernel
theorem dX11_house_89 : decode cX11_house 89 = .ok (.iload_n 1, 1) := by decide +kernel
theorem dX11_house_90 : decode cX11_house 90 = .ok (.iaload, 1) := by decide +kernel
theorem dX11_house_91 : decode cX11_house 91 = .ok (.ireturn, 1) := by decide +kernel
theorem dX11_house_92 : decode cX11_house 92 = .ok (.aload_n 0, 1) := by decide +kernel
theorem dX11_house_93 : decode cX11_house 93 = .ok (.getfield 28, 3) := by decide +kernel
theorem dX11_house_96 : decode cX11_house 96 = .ok (.iload_n 1, 1) := by decide +kernel
theorem dX11_house_97 : decode cX11_house 97 = .ok (.invokevirtual 166, 3) := by decide +kernel
theorem dX11_house_100 : decode cX11_house 100 = .ok (.ireturn, 1) := by decide +kernel
theorem dX11_house_101 : decode cX11_house 101 = .ok (.iconst (-1), 1) := by decide +kernel
theorem dX11_house_102 : decode cX11_house 102 = .ok (.ireturn, 1) := by decide +kernel
def f_X11_house (c_t_now_houses : Int32) (c_t_now_comers : Int32) (c_t_now_evening : Int32) (r_t_now_comes : (Nat → Int32)) (r_t_now_goes : (Nat → Int32)) (r_t_now_kindOf : (Nat → Int32)) (r_t_now_likings : (Nat → Int32)) (r_t_now_lists : (Nat → Int32)) (c_t_trial_evenings : Int32) (c_t_trial_waited : Int32) (c_t_trial_firstFast : Int32) (c_t_trial_county_houses : Int32) (c_t_trial_county_comers : Int32) (c_t_trial_county_evening : Int32) (r_t_trial_county_comes : (Nat → Int32)) (r_t_trial_county_goes : (Nat → Int32)) (r_t_trial_county_kindOf : (Nat → Int32)) (r_t_trial_county_likings : (Nat → Int32)) (r_t_trial_county_lists : (Nat → Int32)) (c_t_trial_evening_begun : Int32) (c_t_trial_evening_waited : Int32) (r_t_trial_evening_hours : (Nat → Int32)) (r_t_trial_evening_openers : (Nat → Int32)) (x1 : Int32) (x2 : Int32) : Option (Int32 × Int32 × Int32 × Int32 × Int32 × Int32 × Int32 × (Nat → Int32) × (Nat → Int32) × (Nat → Int32) × (Nat → Int32) × (Nat → Int32) × Int32 × Int32 × (Nat → Int32) × (Nat → Int32)) :=
  (f_X11_noHouse c_t_now_houses x1).bind (fun (v1 : Int32) =>
    if v1 = 0 then
      (if x2 = 0 then
        (if inb x1 4 then
          (some ((r_t_now_lists (ix x1), c_t_trial_evenings, c_t_trial_waited, c_t_trial_firstFast, c_t_trial_county_houses, c_t_trial_county_comers, c_t_trial_county_evening, r_t_trial_county_comes, r_t_trial_county_goes, r_t_trial_county_kindOf, r_t_trial_county_likings, r_t_trial_county_lists, c_t_trial_evening_begun, c_t_trial_evening_waited, r_t_trial_evening_hours, r_t_trial_evening_openers)))
        else none)
      else
        (if x2 = 1 then
          ((f_X1_goers c_t_now_comers r_t_now_goes x1).bind (fun (v2 : Int32) =>
            some ((v2, c_t_trial_evenings, c_t_trial_waited, c_t_trial_firstFast, c_t_trial_county_houses, c_t_trial_county_comers, c_t_trial_county_evening, r_t_trial_county_comes, r_t_trial_county_goes, r_t_trial_county_kindOf, r_t_trial_county_likings, r_t_trial_county_lists, c_t_trial_evening_begun, c_t_trial_evening_waited, r_t_trial_evening_hours, r_t_trial_evening_openers))))
        else
          (if x2 = 2 then
            ((f_X10_tonight c_t_trial_evenings c_t_trial_waited c_t_trial_firstFast c_t_trial_county_houses c_t_trial_county_comers c_t_trial_county_evening r_t_trial_county_comes r_t_trial_county_goes r_t_trial_county_kindOf r_t_trial_county_likings r_t_trial_county_lists c_t_trial_evening_begun c_t_trial_evening_waited r_t_trial_evening_hours r_t_trial_evening_openers c_t_now_houses c_t_now_comers c_t_now_evening r_t_now_comes r_t_now_goes r_t_now_kindOf r_t_now_likings r_t_now_lists).bind (fun (v3 : Int32 × Int32 × Int32 × Int32 × Int32 × Int32 × (Nat → Int32) × (Nat → Int32) × (Nat → Int32) × (Nat → Int32) × (Nat → Int32) × Int32 × Int32 × (Nat → Int32) × (Nat → Int32)) =>
              if inb x1 4 then
                ((f_X11_hourOrNone (v3.2.2.2.2.2.2.2.2.2.2.2.2.2.1 (ix x1))).bind (fun (v4 : Int32) =>
                  some ((v4, v3.1, v3.2.1, v3.2.2.1, v3.2.2.2.1, v3.2.2.2.2.1, v3.2.2.2.2.2.1, v3.2.2.2.2.2.2.1, v3.2.2.2.2.2.2.2.1, v3.2.2.2.2.2.2.2.2.1, v3.2.2.2.2.2.2.2.2.2.1, v3.2.2.2.2.2.2.2.2.2.2.1, v3.2.2.2.2.2.2.2.2.2.2.2.1, v3.2.2.2.2.2.2.2.2.2.2.2.2.1, v3.2.2.2.2.2.2.2.2.2.2.2.2.2.1, v3.2.2.2.2.2.2.2.2.2.2.2.2.2.2))))
              else none))
          else
            (if x2 = 3 then
              ((f_X10_tonight c_t_trial_evenings c_t_trial_waited c_t_trial_firstFast c_t_trial_county_houses c_t_trial_county_comers c_t_trial_county_evening r_t_trial_county_comes r_t_trial_county_goes r_t_trial_county_kindOf r_t_trial_county_likings r_t_trial_county_lists c_t_trial_evening_begun c_t_trial_evening_waited r_t_trial_evening_hours r_t_trial_evening_openers c_t_now_houses c_t_now_comers c_t_now_evening r_t_now_comes r_t_now_goes r_t_now_kindOf r_t_now_likings r_t_now_lists).bind (fun (v5 : Int32 × Int32 × Int32 × Int32 × Int32 × Int32 × (Nat → Int32) × (Nat → Int32) × (Nat → Int32) × (Nat → Int32) × (Nat → Int32) × Int32 × Int32 × (Nat → Int32) × (Nat → Int32)) =>
                if inb x1 4 then
                  (some ((v5.2.2.2.2.2.2.2.2.2.2.2.2.2.2 (ix x1), v5.1, v5.2.1, v5.2.2.1, v5.2.2.2.1, v5.2.2.2.2.1, v5.2.2.2.2.2.1, v5.2.2.2.2.2.2.1, v5.2.2.2.2.2.2.2.1, v5.2.2.2.2.2.2.2.2.1, v5.2.2.2.2.2.2.2.2.2.1, v5.2.2.2.2.2.2.2.2.2.2.1, v5.2.2.2.2.2.2.2.2.2.2.2.1, v5.2.2.2.2.2.2.2.2.2.2.2.2.1, v5.2.2.2.2.2.2.2.2.2.2.2.2.2.1, v5.2.2.2.2.2.2.2.2.2.2.2.2.2.2)))
                else none))
            else
              (if x2 = 4 then
                ((f_X1_unwelcome c_t_now_comers r_t_now_likings r_t_now_lists x1).bind (fun (v6 : Int32) =>
                  some ((v6, c_t_trial_evenings, c_t_trial_waited, c_t_trial_firstFast, c_t_trial_county_houses, c_t_trial_county_comers, c_t_trial_county_evening, r_t_trial_county_comes, r_t_trial_county_goes, r_t_trial_county_kindOf, r_t_trial_county_likings, r_t_trial_county_lists, c_t_trial_evening_begun, c_t_trial_evening_waited, r_t_trial_evening_hours, r_t_trial_evening_openers))))
              else
                (some (((-1), c_t_trial_evenings, c_t_trial_waited, c_t_trial_firstFast, c_t_trial_county_houses, c_t_trial_county_comers, c_t_trial_county_evening, r_t_trial_county_comes, r_t_trial_county_goes, r_t_trial_county_kindOf, r_t_trial_county_likings, r_t_trial_county_lists, c_t_trial_evening_begun, c_t_trial_evening_waited, r_t_trial_evening_hours, r_t_trial_evening_openers))))))))
    else
      (some (((-1), c_t_trial_evenings, c_t_trial_waited, c_t_trial_firstFast, c_t_trial_county_houses, c_t_trial_county_comers, c_t_trial_county_evening, r_t_trial_county_comes, r_t_trial_county_goes, r_t_trial_county_kindOf, r_t_trial_county_likings, r_t_trial_county_lists, c_t_trial_evening_begun, c_t_trial_evening_waited, r_t_trial_evening_hours, r_t_trial_evening_openers))))
abbrev rm_X11_house : Room := { frames := 5, cells := 0, slots := 0, locals := 142 }
set_option maxHeartbeats 4000000 in
set_option maxRecDepth 100000 in
theorem k_X11_house (E : Ev) (a_t a_t_now a_t_now_comes a_t_now_goes a_t_now_kindOf a_t_now_likings a_t_now_lists a_t_trial a_t_trial_county a_t_trial_county_comes a_t_trial_county_goes a_t_trial_county_kindOf a_t_trial_county_likings a_t_trial_county_lists a_t_trial_evening a_t_trial_evening_hours a_t_trial_evening_openers a_t_tape a_t_reader a_t_seen a_t_advice a_t_odds a_t_guess a_t_images a_t_sheets : Nat) (c_t_tornFault : Int32) (c_t_now_houses : Int32) (c_t_now_comers : Int32) (c_t_now_evening : Int32) (r_t_now_comes : (Nat → Int32)) (r_t_now_goes : (Nat → Int32)) (r_t_now_kindOf : (Nat → Int32)) (r_t_now_likings : (Nat → Int32)) (r_t_now_lists : (Nat → Int32)) (c_t_trial_evenings : Int32) (c_t_trial_waited : Int32) (c_t_trial_firstFast : Int32) (c_t_trial_county_houses : Int32) (c_t_trial_county_comers : Int32) (c_t_trial_county_evening : Int32) (r_t_trial_county_comes : (Nat → Int32)) (r_t_trial_county_goes : (Nat → Int32)) (r_t_trial_county_kindOf : (Nat → Int32)) (r_t_trial_county_likings : (Nat → Int32)) (r_t_trial_county_lists : (Nat → Int32)) (c_t_trial_evening_begun : Int32) (c_t_trial_evening_waited : Int32) (r_t_trial_evening_hours : (Nat → Int32)) (r_t_trial_evening_openers : (Nat → Int32)) (x1 : Int32) (x2 : Int32) (v : Int32 × Int32 × Int32 × Int32 × Int32 × Int32 × Int32 × (Nat → Int32) × (Nat → Int32) × (Nat → Int32) × (Nat → Int32) × (Nat → Int32) × Int32 × Int32 × (Nat → Int32) × (Nat → Int32)) (h : f_X11_house c_t_now_houses c_t_now_comers c_t_now_evening r_t_now_comes r_t_now_goes r_t_now_kindOf r_t_now_likings r_t_now_lists c_t_trial_evenings c_t_trial_waited c_t_trial_firstFast c_t_trial_county_houses c_t_trial_county_comers c_t_trial_county_evening r_t_trial_county_comes r_t_trial_county_goes r_t_trial_county_kindOf r_t_trial_county_likings r_t_trial_county_lists c_t_trial_evening_begun c_t_trial_evening_waited r_t_trial_evening_hours r_t_trial_evening_openers x1 x2 = some v) : Mt E yX11_house cX11_house 3 (some .int) rm_X11_house [.ref a_t, .int x1, .int x2] [oX11 a_t a_t_tape a_t_reader a_t_now a_t_seen a_t_trial a_t_advice a_t_odds a_t_guess a_t_images a_t_sheets c_t_tornFault, oX1 a_t_now c_t_now_houses c_t_now_comers c_t_now_evening a_t_now_lists a_t_now_kindOf a_t_now_goes a_t_now_comes a_t_now_likings, aI E a_t_now_comes 6 r_t_now_comes, aI E a_t_now_goes 6 r_t_now_goes, aI E a_t_now_kindOf 6 r_t_now_kindOf, aI E a_t_now_likings 24 r_t_now_likings, aI E a_t_now_lists 4 r_t_now_lists, oX10 a_t_trial a_t_now a_t_trial_county a_t_trial_evening c_t_trial_evenings c_t_trial_waited c_t_trial_firstFast, oX1 a_t_trial_county c_t_trial_county_houses c_t_trial_county_comers c_t_trial_county_evening a_t_trial_county_lists a_t_trial_county_kindOf a_t_trial_county_goes a_t_trial_county_comes a_t_trial_county_likings, aI E a_t_trial_county_comes 6 r_t_trial_county_comes, aI E a_t_trial_county_goes 6 r_t_trial_county_goes, aI E a_t_trial_county_kindOf 6 r_t_trial_county_kindOf, aI E a_t_trial_county_likings 24 r_t_trial_county_likings, aI E a_t_trial_county_lists 4 r_t_trial_county_lists, oX2 a_t_trial_evening a_t_trial_evening_hours a_t_trial_evening_openers c_t_trial_evening_begun c_t_trial_evening_waited, aI E a_t_trial_evening_hours 4 r_t_trial_evening_hours, aI E a_t_trial_evening_openers 4 r_t_trial_evening_openers] [oX11 a_t a_t_tape a_t_reader a_t_now a_t_seen a_t_trial a_t_advice a_t_odds a_t_guess a_t_images a_t_sheets c_t_tornFault, oX1 a_t_now c_t_now_houses c_t_now_comers c_t_now_evening a_t_now_lists a_t_now_kindOf a_t_now_goes a_t_now_comes a_t_now_likings, aI E a_t_now_comes 6 r_t_now_comes, aI E a_t_now_goes 6 r_t_now_goes, aI E a_t_now_kindOf 6 r_t_now_kindOf, aI E a_t_now_likings 24 r_t_now_likings, aI E a_t_now_lists 4 r_t_now_lists, oX10 a_t_trial a_t_now a_t_trial_county a_t_trial_evening v.2.1 v.2.2.1 v.2.2.2.1, oX1 a_t_trial_county v.2.2.2.2.1 v.2.2.2.2.2.1 v.2.2.2.2.2.2.1 a_t_trial_county_lists a_t_trial_county_kindOf a_t_trial_county_goes a_t_trial_county_comes a_t_trial_county_likings, aI E a_t_trial_county_comes 6 v.2.2.2.2.2.2.2.1, aI E a_t_trial_county_goes 6 v.2.2.2.2.2.2.2.2.1, aI E a_t_trial_county_kindOf 6 v.2.2.2.2.2.2.2.2.2.1, aI E a_t_trial_county_likings 24 v.2.2.2.2.2.2.2.2.2.2.1, aI E a_t_trial_county_lists 4 v.2.2.2.2.2.2.2.2.2.2.2.1, oX2 a_t_trial_evening a_t_trial_evening_hours a_t_trial_evening_openers v.2.2.2.2.2.2.2.2.2.2.2.2.1 v.2.2.2.2.2.2.2.2.2.2.2.2.2.1, aI E a_t_trial_evening_hours 4 v.2.2.2.2.2.2.2.2.2.2.2.2.2.2.1, aI E a_t_trial_evening_openers 4 v.2.2.2.2.2.2.2.2.2.2.2.2.2.2.2] (some (.int v.1)) := by
  refine Mt.intro (lv := [(0, .ref a_t), (1, .int x1), (2, .int x2)]) (by decide +kernel) (Nat.le_of_ble_eq_true rfl) rfl (fun X C K => ?_)
  have C : CX E X cX11_house RX11 3 rm_X11_house := C
  rw [f_X11_house] at h
  refine g_aload_n (pc := 0) C dX11_house_0 0 rfl ?_
  refine g_iload_n (pc := 1) C dX11_house_1 1 rfl ?_
  obtain ⟨v1, hv1, h⟩ := o_bnd h
  refine g_callV (pc := 2) (ws' := [oX11 a_t a_t_tape a_t_reader a_t_now a_t_seen a_t_trial a_t_advice a_t_odds a_t_guess a_t_images a_t_sheets c_t_tornFault, oX1 a_t_now c_t_now_houses c_t_now_comers c_t_now_evening a_t_now_lists a_t_now_kindOf a_t_now_goes a_t_now_comes a_t_now_likings, aI E a_t_now_comes 6 r_t_now_comes, aI E a_t_now_goes 6 r_t_now_goes, aI E a_t_now_kindOf 6 r_t_now_kindOf, aI E a_t_now_likings 24 r_t_now_likings, aI E a_t_now_lists 4 r_t_now_lists, oX10 a_t_trial a_t_now a_t_trial_county a_t_trial_evening c_t_trial_evenings c_t_trial_waited c_t_trial_firstFast, oX1 a_t_trial_county c_t_trial_county_houses c_t_trial_county_comers c_t_trial_county_evening a_t_trial_county_lists a_t_trial_county_kindOf a_t_trial_county_goes a_t_trial_county_comes a_t_trial_county_likings, aI E a_t_trial_county_comes 6 r_t_trial_county_comes, aI E a_t_trial_county_goes 6 r_t_trial_county_goes, aI E a_t_trial_county_kindOf 6 r_t_trial_county_kindOf, aI E a_t_trial_county_likings 24 r_t_trial_county_likings, aI E a_t_trial_county_lists 4 r_t_trial_county_lists, oX2 a_t_trial_evening a_t_trial_evening_hours a_t_trial_evening_openers c_t_trial_evening_begun c_t_trial_evening_waited, aI E a_t_trial_evening_hours 4 r_t_trial_evening_hours, aI E a_t_trial_evening_openers 4 r_t_trial_evening_openers]) (st1 := [.int v1]) C mv_X11_146 (k_X11_noHouse E a_t a_t_now a_t_tape a_t_reader a_t_seen a_t_trial a_t_advice a_t_odds a_t_guess a_t_images a_t_sheets a_t_now_lists a_t_now_kindOf a_t_now_goes a_t_now_comes a_t_now_likings c_t_tornFault c_t_now_houses c_t_now_comers c_t_now_evening x1 v1 hv1) [0, 1] rfl (by decide +kernel) rfl [some 0, some 1, none, none, none, none, none, none, none, none, none, none, none, none, none, none, none] 17 (by decide +kernel) rfl rfl 0 rfl rfl ⟨by decide, by decide⟩ ⟨rfl, rfl⟩ ⟨Nat.zero_le _, Nat.zero_le _⟩ rfl rfl rfl (Nat.le_of_ble_eq_true rfl) dX11_house_2 ?_
  refine b_if_eq (pc := 5) 10 C dX11_house_5 (by decide) h (fun _ h => ?_) (fun _ h => ?_)
  · refine g_iload_n (pc := 10) C dX11_house_10 2 rfl ?_
    rcases o_ite h with ⟨c0, h⟩ | ⟨c0, h⟩
    · refine g_tabIn (pc := 11) 44 0 C dX11_house_11 (by rw [c0]; rfl) (by decide) rfl (by decide) ?_
      refine g_aload_n (pc := 44) C dX11_house_44 0 rfl ?_
      refine g_get (pc := 45) 0 C fl_X11_28 rfl rfl dX11_house_45 ?_
      refine g_get (pc := 48) 1 C fl_X11_149 rfl rfl dX11_house_48 ?_
      refine g_iload_n (pc := 51) C dX11_house_51 1 rfl ?_
      refine b_iald (pc := 52) 6 C rfl dX11_house_52 h (fun _ h => ?_)
      obtain rfl := Option.some.inj h
      exact g_iret (pc := 53) C K dX11_house_53
    · rcases o_ite h with ⟨c1, h⟩ | ⟨c1, h⟩
      · refine g_tabIn (pc := 11) 54 1 C dX11_house_11 (by rw [c1]; rfl) (by decide) rfl (by decide) ?_
        refine g_aload_n (pc := 54) C dX11_house_54 0 rfl ?_
        refine g_get (pc := 55) 0 C fl_X11_28 rfl rfl dX11_house_55 ?_
        refine g_iload_n (pc := 58) C dX11_house_58 1 rfl ?_
        obtain ⟨v2, hv2, h⟩ := o_bnd h
        refine g_callV (pc := 59) (ws' := [oX11 a_t a_t_tape a_t_reader a_t_now a_t_seen a_t_trial a_t_advice a_t_odds a_t_guess a_t_images a_t_sheets c_t_tornFault, oX1 a_t_now c_t_now_houses c_t_now_comers c_t_now_evening a_t_now_lists a_t_now_kindOf a_t_now_goes a_t_now_comes a_t_now_likings, aI E a_t_now_comes 6 r_t_now_comes, aI E a_t_now_goes 6 r_t_now_goes, aI E a_t_now_kindOf 6 r_t_now_kindOf, aI E a_t_now_likings 24 r_t_now_likings, aI E a_t_now_lists 4 r_t_now_lists, oX10 a_t_trial a_t_now a_t_trial_county a_t_trial_evening c_t_trial_evenings c_t_trial_waited c_t_trial_firstFast, oX1 a_t_trial_county c_t_trial_county_houses c_t_trial_county_comers c_t_trial_county_evening a_t_trial_county_lists a_t_trial_county_kindOf a_t_trial_county_goes a_t_trial_county_comes a_t_trial_county_likings, aI E a_t_trial_county_comes 6 r_t_trial_county_comes, aI E a_t_trial_county_goes 6 r_t_trial_county_goes, aI E a_t_trial_county_kindOf 6 r_t_trial_county_kindOf, aI E a_t_trial_county_likings 24 r_t_trial_county_likings, aI E a_t_trial_county_lists 4 r_t_trial_county_lists, oX2 a_t_trial_evening a_t_trial_evening_hours a_t_trial_evening_openers c_t_trial_evening_begun c_t_trial_evening_waited, aI E a_t_trial_evening_hours 4 r_t_trial_evening_hours, aI E a_t_trial_evening_openers 4 r_t_trial_evening_openers]) (st1 := [.int v2]) C mv_X11_153 (k_X1_goers E a_t_now a_t_now_goes a_t_now_lists a_t_now_kindOf a_t_now_comes a_t_now_likings c_t_now_houses c_t_now_comers c_t_now_evening r_t_now_goes x1 v2 hv2) [1, 3] rfl (by decide +kernel) rfl [none, some 0, none, some 1, none, none, none, none, none, none, none, none, none, none, none, none, none] 17 (by decide +kernel) rfl rfl 0 rfl rfl ⟨by decide, by decide⟩ ⟨rfl, rfl⟩ ⟨Nat.zero_le _, Nat.zero_le _⟩ rfl rfl rfl (Nat.le_of_ble_eq_true rfl) dX11_house_59 ?_
        obtain rfl := Option.some.inj h
        exact g_iret (pc := 62) C K dX11_house_62
      · rcases o_ite h with ⟨c2, h⟩ | ⟨c2, h⟩
        · refine g_tabIn (pc := 11) 63 2 C dX11_house_11 (by rw [c2]; rfl) (by decide) rfl (by decide) ?_
          refine g_aload_n (pc := 63) C dX11_house_63 0 rfl ?_
          refine g_get (pc := 64) 0 C fl_X11_44 rfl rfl dX11_house_64 ?_
          obtain ⟨v3, hv3, h⟩ := o_bnd h
          refine g_callV (pc := 67) (ws' := [oX11 a_t a_t_tape a_t_reader a_t_now a_t_seen a_t_trial a_t_advice a_t_odds a_t_guess a_t_images a_t_sheets c_t_tornFault, oX1 a_t_now c_t_now_houses c_t_now_comers c_t_now_evening a_t_now_lists a_t_now_kindOf a_t_now_goes a_t_now_comes a_t_now_likings, aI E a_t_now_comes 6 r_t_now_comes, aI E a_t_now_goes 6 r_t_now_goes, aI E a_t_now_kindOf 6 r_t_now_kindOf, aI E a_t_now_likings 24 r_t_now_likings, aI E a_t_now_lists 4 r_t_now_lists, oX10 a_t_trial a_t_now a_t_trial_county a_t_trial_evening v3.1 v3.2.1 v3.2.2.1, oX1 a_t_trial_county v3.2.2.2.1 v3.2.2.2.2.1 v3.2.2.2.2.2.1 a_t_trial_county_lists a_t_trial_county_kindOf a_t_trial_county_goes a_t_trial_county_comes a_t_trial_county_likings, aI E a_t_trial_county_comes 6 v3.2.2.2.2.2.2.1, aI E a_t_trial_county_goes 6 v3.2.2.2.2.2.2.2.1, aI E a_t_trial_county_kindOf 6 v3.2.2.2.2.2.2.2.2.1, aI E a_t_trial_county_likings 24 v3.2.2.2.2.2.2.2.2.2.1, aI E a_t_trial_county_lists 4 v3.2.2.2.2.2.2.2.2.2.2.1, oX2 a_t_trial_evening a_t_trial_evening_hours a_t_trial_evening_openers v3.2.2.2.2.2.2.2.2.2.2.2.1 v3.2.2.2.2.2.2.2.2.2.2.2.2.1, aI E a_t_trial_evening_hours 4 v3.2.2.2.2.2.2.2.2.2.2.2.2.2.1, aI E a_t_trial_evening_openers 4 v3.2.2.2.2.2.2.2.2.2.2.2.2.2.2]) (st1 := [.ref a_t_trial_evening]) C mv_X11_131 (k_X10_tonight E a_t_trial a_t_trial_county a_t_trial_county_comes a_t_trial_county_goes a_t_trial_county_kindOf a_t_trial_county_likings a_t_trial_county_lists a_t_trial_evening a_t_trial_evening_hours a_t_trial_evening_openers a_t_now a_t_now_comes a_t_now_goes a_t_now_kindOf a_t_now_likings a_t_now_lists c_t_trial_evenings c_t_trial_waited c_t_trial_firstFast c_t_trial_county_houses c_t_trial_county_comers c_t_trial_county_evening r_t_trial_county_comes r_t_trial_county_goes r_t_trial_county_kindOf r_t_trial_county_likings r_t_trial_county_lists c_t_trial_evening_begun c_t_trial_evening_waited r_t_trial_evening_hours r_t_trial_evening_openers c_t_now_houses c_t_now_comers c_t_now_evening r_t_now_comes r_t_now_goes r_t_now_kindOf r_t_now_likings r_t_now_lists v3 hv3) [7, 8, 9, 10, 11, 12, 13, 14, 15, 16, 1, 2, 3, 4, 5, 6] rfl (by decide +kernel) rfl [none, some 10, some 11, some 12, some 13, some 14, some 15, some 0, some 1, some 2, some 3, some 4, some 5, some 6, some 7, some 8, some 9] 17 (by decide +kernel) rfl rfl 0 rfl rfl ⟨by decide, by decide⟩ ⟨rfl, rfl⟩ ⟨Nat.zero_le _, Nat.zero_le _⟩ rfl rfl rfl (Nat.le_of_ble_eq_true rfl) dX11_house_67 ?_
          refine g_get (pc := 70) 14 C fl_X11_157 rfl rfl dX11_house_70 ?_
          refine g_iload_n (pc := 73) C dX11_house_73 1 rfl ?_
          refine b_iald (pc := 74) 15 C rfl dX11_house_74 h (fun _ h => ?_)
          obtain ⟨v4, hv4, h⟩ := o_bnd h
          refine g_callS (pc := 75) (ws' := [oX11 a_t a_t_tape a_t_reader a_t_now a_t_seen a_t_trial a_t_advice a_t_odds a_t_guess a_t_images a_t_sheets c_t_tornFault, oX1 a_t_now c_t_now_houses c_t_now_comers c_t_now_evening a_t_now_lists a_t_now_kindOf a_t_now_goes a_t_now_comes a_t_now_likings, aI E a_t_now_comes 6 r_t_now_comes, aI E a_t_now_goes 6 r_t_now_goes, aI E a_t_now_kindOf 6 r_t_now_kindOf, aI E a_t_now_likings 24 r_t_now_likings, aI E a_t_now_lists 4 r_t_now_lists, oX10 a_t_trial a_t_now a_t_trial_county a_t_trial_evening v3.1 v3.2.1 v3.2.2.1, oX1 a_t_trial_county v3.2.2.2.1 v3.2.2.2.2.1 v3.2.2.2.2.2.1 a_t_trial_county_lists a_t_trial_county_kindOf a_t_trial_county_goes a_t_trial_county_comes a_t_trial_county_likings, aI E a_t_trial_county_comes 6 v3.2.2.2.2.2.2.1, aI E a_t_trial_county_goes 6 v3.2.2.2.2.2.2.2.1, aI E a_t_trial_county_kindOf 6 v3.2.2.2.2.2.2.2.2.1, aI E a_t_trial_county_likings 24 v3.2.2.2.2.2.2.2.2.2.1, aI E a_t_trial_county_lists 4 v3.2.2.2.2.2.2.2.2.2.2.1, oX2 a_t_trial_evening a_t_trial_evening_hours a_t_trial_evening_openers v3.2.2.2.2.2.2.2.2.2.2.2.1 v3.2.2.2.2.2.2.2.2.2.2.2.2.1, aI E a_t_trial_evening_hours 4 v3.2.2.2.2.2.2.2.2.2.2.2.2.2.1, aI E a_t_trial_evening_openers 4 v3.2.2.2.2.2.2.2.2.2.2.2.2.2.2]) (st1 := [.int v4]) C ms_X11_160 (k_X11_hourOrNone E (v3.2.2.2.2.2.2.2.2.2.2.2.2.2.1 (ix x1)) v4 hv4) [] rfl (by decide +kernel) rfl [none, none, none, none, none, none, none, none, none, none, none, none, none, none, none, none, none] 17 (by decide +kernel) rfl rfl ⟨by decide, by decide⟩ ⟨rfl, rfl⟩ ⟨Nat.zero_le _, Nat.zero_le _⟩ rfl rfl rfl (Nat.le_of_ble_eq_true rfl) dX11_house_75 ?_
          obtain rfl := Option.some.inj h
          exact g_iret (pc := 78) C K dX11_house_78
        · rcases o_ite h with ⟨c3, h⟩ | ⟨c3, h⟩
          · refine g_tabIn (pc := 11) 79 3 C dX11_house_11 (by rw [c3]; rfl) (by decide) rfl (by decide) ?_
            refine g_aload_n (pc := 79) C dX11_house_79 0 rfl ?_
            refine g_get (pc := 80) 0 C fl_X11_44 rfl rfl dX11_house_80 ?_
            obtain ⟨v5, hv5, h⟩ := o_bnd h
            refine g_callV (pc := 83) (ws' := [oX11 a_t a_t_tape a_t_reader a_t_now a_t_seen a_t_trial a_t_advice a_t_odds a_t_guess a_t_images a_t_sheets c_t_tornFault, oX1 a_t_now c_t_now_houses c_t_now_comers c_t_now_evening a_t_now_lists a_t_now_kindOf a_t_now_goes a_t_now_comes a_t_now_likings, aI E a_t_now_comes 6 r_t_now_comes, aI E a_t_now_goes 6 r_t_now_goes, aI E a_t_now_kindOf 6 r_t_now_kindOf, aI E a_t_now_likings 24 r_t_now_likings, aI E a_t_now_lists 4 r_t_now_lists, oX10 a_t_trial a_t_now a_t_trial_county a_t_trial_evening v5.1 v5.2.1 v5.2.2.1, oX1 a_t_trial_county v5.2.2.2.1 v5.2.2.2.2.1 v5.2.2.2.2.2.1 a_t_trial_county_lists a_t_trial_county_kindOf a_t_trial_county_goes a_t_trial_county_comes a_t_trial_county_likings, aI E a_t_trial_county_comes 6 v5.2.2.2.2.2.2.1, aI E a_t_trial_county_goes 6 v5.2.2.2.2.2.2.2.1, aI E a_t_trial_county_kindOf 6 v5.2.2.2.2.2.2.2.2.1, aI E a_t_trial_county_likings 24 v5.2.2.2.2.2.2.2.2.2.1, aI E a_t_trial_county_lists 4 v5.2.2.2.2.2.2.2.2.2.2.1, oX2 a_t_trial_evening a_t_trial_evening_hours a_t_trial_evening_openers v5.2.2.2.2.2.2.2.2.2.2.2.1 v5.2.2.2.2.2.2.2.2.2.2.2.2.1, aI E a_t_trial_evening_hours 4 v5.2.2.2.2.2.2.2.2.2.2.2.2.2.1, aI E a_t_trial_evening_openers 4 v5.2.2.2.2.2.2.2.2.2.2.2.2.2.2]) (st1 := [.ref a_t_trial_evening]) C mv_X11_131 (k_X10_tonight E a_t_trial a_t_trial_county a_t_trial_county_comes a_t_trial_county_goes a_t_trial_county_kindOf a_t_trial_county_likings a_t_trial_county_lists a_t_trial_evening a_t_trial_evening_hours a_t_trial_evening_openers a_t_now a_t_now_comes a_t_now_goes a_t_now_kindOf a_t_now_likings a_t_now_lists c_t_trial_evenings c_t_trial_waited c_t_trial_firstFast c_t_trial_county_houses c_t_trial_county_comers c_t_trial_county_evening r_t_trial_county_comes r_t_trial_county_goes r_t_trial_county_kindOf r_t_trial_county_likings r_t_trial_county_lists c_t_trial_evening_begun c_t_trial_evening_waited r_t_trial_evening_hours r_t_trial_evening_openers c_t_now_houses c_t_now_comers c_t_now_evening r_t_now_comes r_t_now_goes r_t_now_kindOf r_t_now_likings r_t_now_lists v5 hv5) [7, 8, 9, 10, 11, 12, 13, 14, 15, 16, 1, 2, 3, 4, 5, 6] rfl (by decide +kernel) rfl [none, some 10, some 11, some 12, some 13, some 14, some 15, some 0, some 1, some 2, some 3, some 4, some 5, some 6, some 7, some 8, some 9] 17 (by decide +kernel) rfl rfl 0 rfl rfl ⟨by decide, by decide⟩ ⟨rfl, rfl⟩ ⟨Nat.zero_le _, Nat.zero_le _⟩ rfl rfl rfl (Nat.le_of_ble_eq_true rfl) dX11_house_83 ?_
            refine g_get (pc := 86) 14 C fl_X11_163 rfl rfl dX11_house_86 ?_
            refine g_iload_n (pc := 89) C dX11_house_89 1 rfl ?_
            refine b_iald (pc := 90) 16 C rfl dX11_house_90 h (fun _ h => ?_)
            obtain rfl := Option.some.inj h
            exact g_iret (pc := 91) C K dX11_house_91
          · rcases o_ite h with ⟨c4, h⟩ | ⟨c4, h⟩
            · refine g_tabIn (pc := 11) 92 4 C dX11_house_11 (by rw [c4]; rfl) (by decide) rfl (by decide) ?_
              refine g_aload_n (pc := 92) C dX11_house_92 0 rfl ?_
              refine g_get (pc := 93) 0 C fl_X11_28 rfl rfl dX11_house_93 ?_
              refine g_iload_n (pc := 96) C dX11_house_96 1 rfl ?_
              obtain ⟨v6, hv6, h⟩ := o_bnd h
              refine g_callV (pc := 97) (ws' := [oX11 a_t a_t_tape a_t_reader a_t_now a_t_seen a_t_trial a_t_advice a_t_odds a_t_guess a_t_images a_t_sheets c_t_tornFault, oX1 a_t_now c_t_now_houses c_t_now_comers c_t_now_evening a_t_now_lists a_t_now_kindOf a_t_now_goes a_t_now_comes a_t_now_likings, aI E a_t_now_comes 6 r_t_now_comes, aI E a_t_now_goes 6 r_t_now_goes, aI E a_t_now_kindOf 6 r_t_now_kindOf, aI E a_t_now_likings 24 r_t_now_likings, aI E a_t_now_lists 4 r_t_now_lists, oX10 a_t_trial a_t_now a_t_trial_county a_t_trial_evening c_t_trial_evenings c_t_trial_waited c_t_trial_firstFast, oX1 a_t_trial_county c_t_trial_county_houses c_t_trial_county_comers c_t_trial_county_evening a_t_trial_county_lists a_t_trial_county_kindOf a_t_trial_county_goes a_t_trial_county_comes a_t_trial_county_likings, aI E a_t_trial_county_comes 6 r_t_trial_county_comes, aI E a_t_trial_county_goes 6 r_t_trial_county_goes, aI E a_t_trial_county_kindOf 6 r_t_trial_county_kindOf, aI E a_t_trial_county_likings 24 r_t_trial_county_likings, aI E a_t_trial_county_lists 4 r_t_trial_county_lists, oX2 a_t_trial_evening a_t_trial_evening_hours a_t_trial_evening_openers c_t_trial_evening_begun c_t_trial_evening_waited, aI E a_t_trial_evening_hours 4 r_t_trial_evening_hours, aI E a_t_trial_evening_openers 4 r_t_trial_evening_openers]) (st1 := [.int v6]) C mv_X11_166 (k_X1_unwelcome E a_t_now a_t_now_likings a_t_now_lists a_t_now_kindOf a_t_now_goes a_t_now_comes c_t_now_houses c_t_now_comers c_t_now_evening r_t_now_likings r_t_now_lists x1 v6 hv6) [1, 5, 6] rfl (by decide +kernel) rfl [none, some 0, none, none, none, some 1, some 2, none, none, none, none, none, none, none, none, none, none] 17 (by decide +kernel) rfl rfl 0 rfl rfl ⟨by decide, by decide⟩ ⟨rfl, rfl⟩ ⟨Nat.zero_le _, Nat.zero_le _⟩ rfl rfl rfl (Nat.le_of_ble_eq_true rfl) dX11_house_97 ?_
              obtain rfl := Option.some.inj h
              exact g_iret (pc := 100) C K dX11_house_100
            · refine g_tabOut (pc := 11) 101 C dX11_house_11 (by have := sw_n 0 (by decide) c0; have := sw_n 1 (by decide) c1; have := sw_n 2 (by decide) c2; have := sw_n 3 (by decide) c3; have := sw_n 4 (by decide) c4; omega) (by decide) ?_
              refine g_iconst (pc := 101) (v := (-1)) C dX11_house_101 (by decide) ?_
              obtain rfl := Option.some.inj h
              exact g_iret (pc := 102) C K dX11_house_102
  · refine g_iconst (pc := 8) (v := (-1)) C dX11_house_8 (by decide) ?_
    obtain rfl := Option.some.inj h
    exact g_iret (pc := 9) C K dX11_house_9
theorem dX11_noComer_0 : decode cX11_noComer 0 = .ok (.iload_n 1, 1) := by decide +kernel
theorem dX11_noComer_1 : decode cX11_noComer 1 = .ok (.ifCond .lt 14, 3) := by decide +kernel
theorem dX11_noComer_4 : decode cX11_noComer 4 = .ok (.iload_n 1, 1) := by decide +kernel
theorem dX11_noComer_5 : decode cX11_noComer 5 = .ok (.aload_n 0, 1) := by decide +kernel
theorem dX11_noComer_6 : decode cX11_noComer 6 = .ok (.getfield 28, 3) := by decide +kernel
theorem dX11_noComer_9 : decode cX11_noComer 9 = .ok (.getfield 125, 3) := by decide +kernel
theorem dX11_noComer_12 : decode cX11_noComer 12 = .ok (.if_icmp .lt 7, 3) := by decide +kernel
theorem dX11_noComer_15 : decode cX11_noComer 15 = .ok (.iconst 1, 1) := by decide +kernel
theorem dX11_noComer_16 : decode cX11_noComer 16 = .ok (.goto 4, 3) := by decide +kernel
theorem dX11_noComer_19 : decode cX11_noComer 19 = .ok (.iconst 0, 1) := by decide +kernel
theorem dX11_noComer_20 : decode cX11_noComer 20 = .ok (.ireturn, 1) := by decide +kernel
def f_X11_noComer (c_t_now_comers : Int32) (x1 : Int32) : Option (Int32) :=
  if x1 < 0 then
    (some 1)
  else
    (if x1 < c_t_now_comers then
      (some 0)
    else
      (some 1))
abbrev rm_X11_noComer : Room := { frames := 0, cells := 0, slots := 0, locals := 0 }
set_option maxHeartbeats 4000000 in
set_option maxRecDepth 100000 in
theorem k_X11_noComer (E : Ev) (a_t a_t_now a_t_tape a_t_reader a_t_seen a_t_trial a_t_advice a_t_odds a_t_guess a_t_images a_t_sheets a_t_now_lists a_t_now_kindOf a_t_now_goes a_t_now_comes a_t_now_likings : Nat) (c_t_tornFault : Int32) (c_t_now_houses : Int32) (c_t_now_comers : Int32) (c_t_now_evening : Int32) (x1 : Int32) (v : Int32) (h : f_X11_noComer c_t_now_comers x1 = some v) : Mt E yX11_noComer cX11_noComer 2 (some .boolean) rm_X11_noComer [.ref a_t, .int x1] [oX11 a_t a_t_tape a_t_reader a_t_now a_t_seen a_t_trial a_t_advice a_t_odds a_t_guess a_t_images a_t_sheets c_t_tornFault, oX1 a_t_now c_t_now_houses c_t_now_comers c_t_now_evening a_t_now_lists a_t_now_kindOf a_t_now_goes a_t_now_comes a_t_now_likings] [oX11 a_t a_t_tape a_t_reader a_t_now a_t_seen a_t_trial a_t_advice a_t_odds a_t_guess a_t_images a_t_sheets c_t_tornFault, oX1 a_t_now c_t_now_houses c_t_now_comers c_t_now_evening a_t_now_lists a_t_now_kindOf a_t_now_goes a_t_now_comes a_t_now_likings] (some (.int v)) := by
  refine Mt.intro (lv := [(0, .ref a_t), (1, .int x1)]) (by decide +kernel) (Nat.le_of_ble_eq_true rfl) rfl (fun X C K => ?_)
  have C : CX E X cX11_noComer RX11 2 rm_X11_noComer := C
  rw [f_X11_noComer] at h
  refine g_iload_n (pc := 0) C dX11_noComer_0 1 rfl ?_
  refine b_if_lt (pc := 1) 15 C dX11_noComer_1 (by decide) h (fun _ h => ?_) (fun _ h => ?_)
  · refine g_iconst (pc := 15) (v := 1) C dX11_noComer_15 (by decide) ?_
    refine g_goto (pc := 16) 20 C dX11_noComer_16 (by decide) ?_
    obtain rfl := Option.some.inj h
    exact g_zret (pc := 20) C K rfl dX11_noComer_20
  · refine g_iload_n (pc := 4) C dX11_noComer_4 1 rfl ?_
    refine g_aload_n (pc := 5) C dX11_noComer_5 0 rfl ?_
    refine g_get (pc := 6) 0 C fl_X11_28 rfl rfl dX11_noComer_6 ?_
    refine g_get (pc := 9) 1 C fl_X11_125 rfl rfl dX11_noComer_9 ?_
    refine b_icmp_lt (pc := 12) 19 C dX11_noComer_12 (by decide) h (fun _ h => ?_) (fun _ h => ?_)
    · refine g_iconst (pc := 19) (v := 0) C dX11_noComer_19 (by decide) ?_
      obtain rfl := Option.some.inj h
      exact g_zret (pc := 20) C K rfl dX11_noComer_20
    · refine g_iconst (pc := 15) (v := 1) C dX11_noComer_15 (by decide) ?_
      refine g_goto (pc := 16) 20 C dX11_noComer_16 (by decide) ?_
      obtain rfl := Option.some.inj h
      exact g_zret (pc := 20) C K rfl dX11_noComer_20
theorem dX11_houseOrNone_0 : decode cX11_houseOrNone 0 = .ok (.iload_n 0, 1) := by decide +kernel
theorem dX11_houseOrNone_1 : decode cX11_houseOrNone 1 = .ok (.bipush 9, 2) := by decide +kernel
theorem dX11_houseOrNone_3 : decode cX11_houseOrNone 3 = .ok (.if_icmp .ne 8, 3) := by decide +kernel
theorem dX11_houseOrNone_6 : decode cX11_houseOrNone 6 = .ok (.bipush (-4), 2) := by decide +kernel
theorem dX11_houseOrNone_8 : decode cX11_houseOrNone 8 = .ok (.goto 4, 3) := by decide +kernel
theorem dX11_houseOrNone_11 : decode cX11_houseOrNone 11 = .ok (.iload_n 0, 1) := by decide +kernel
theorem dX11_houseOrNone_12 : decode cX11_houseOrNone 12 = .ok (.ireturn, 1) := by decide +kernel
def f_X11_houseOrNone (x0 : Int32) : Option (Int32) :=
  if x0 = 9 then
    (some ((-4)))
  else
    (some x0)
abbrev rm_X11_houseOrNone : Room := { frames := 0, cells := 0, slots := 0, locals := 0 }
set_option maxHeartbeats 4000000 in
set_option maxRecDepth 100000 in
theorem k_X11_houseOrNone (E : Ev) (x0 : Int32) (v : Int32) (h : f_X11_houseOrNone x0 = some v) : Mt E yX11_houseOrNone cX11_houseOrNone 1 (some .int) rm_X11_houseOrNone [.int x0] [] [] (some (.int v)) := by
  refine Mt.intro (lv := [(0, .int x0)]) (by decide +kernel) (Nat.le_of_ble_eq_true rfl) rfl (fun X C K => ?_)
  have C : CX E X cX11_houseOrNone RX11 1 rm_X11_houseOrNone := C
  rw [f_X11_houseOrNone] at h
  refine g_iload_n (pc := 0) C dX11_houseOrNone_0 0 rfl ?_
  refine g_bipush (pc := 1) (v := 9) C dX11_houseOrNone_1 (by decide) ?_
  refine b_icmp_ne (pc := 3) 11 C dX11_houseOrNone_3 (by decide) h (fun _ h => ?_) (fun _ h => ?_)
  · refine g_iload_n (pc := 11) C dX11_houseOrNone_11 0 rfl ?_
    obtain rfl := Option.some.inj h
    exact g_iret (pc := 12) C K dX11_houseOrNone_12
  · refine g_bipush (pc := 6) (v := (-4)) C dX11_houseOrNone_6 (by decide) ?_
    refine g_goto (pc := 8) 12 C dX11_houseOrNone_8 (by decide) ?_
    obtain rfl := Option.some.inj h
    exact g_iret (pc := 12) C K dX11_houseOrNone_12
theorem dX11_comer_0 : decode cX11_comer 0 = .ok (.aload_n 0, 1) := by decide +kernel
theorem dX11_comer_1 : decode cX11_comer 1 = .ok (.iload_n 1, 1) := by decide +kernel
theorem dX11_comer_2 : decode cX11_comer 2 = .ok (.invokevirtual 169, 3) := by decide +kernel
theorem dX11_comer_5 : decode cX11_comer 5 = .ok (.ifCond .eq 5, 3) := by decide +kernel
theorem dX11_comer_8 : decode cX11_comer 8 = .ok (.iconst (-1), 1) := by decide +kernel
theorem dX11_comer_9 : decode cX11_comer 9 = .ok (.ireturn, 1) := by decide +kernel
theorem dX11_comer_10 : decode cX11_comer 10 = .ok (.iload_n 2, 1) := by decide +kernel
theorem dX11_comer_11 : decode cX11_comer 11 = .ok (.tableswitch 84 0 4 #[33, 43, 56, 66, 75], 33) := by decide +kernel
theorem dX11_comer_44 : decode cX11_comer 44 = .ok (.aload_n 0, 1) := by decide +kernel
theorem dX11_comer_45 : decode cX11_comer 45 = .ok (.getfield 28, 3) := by decide +kernel
theorem dX11_comer_48 : decode cX11_comer 48 = .ok (.getfield 172, 3) := by decide +kernel
theorem dX11_comer_51 : decode cX11_comer 51 = .ok (.iload_n 1, 1) := by decide +kernel
theorem dX11_comer_52 : decode cX11_comer 52 = .ok (.iaload, 1) := by decide +kernel
theorem dX11_comer_53 : decode cX11_comer 53 = .ok (.ireturn, 1) := by decide +kernel
theorem dX11_comer_54 : decode cX11_comer 54 = .ok (.aload_n 0, 1) := by decide +kernel
theorem dX11_comer_55 : decode cX11_comer 55 = .ok (.getfield 28, 3) := by decide +kernel
theorem dX11_comer_58 : decode cX11_comer 58 = .ok (.getfield 175, 3) := by decide +kernel
theorem dX11_comer_61 : decode cX11_comer 61 = .ok (.iload_n 1, 1) := by decide +kernel
theorem dX11_comer_62 : decode cX11_comer 62 = .ok (.iaload, 1) := by decide +kernel
theorem dX11_comer_63 : decode cX11_comer 63 = .ok (.invokestatic 178, 3) := by decide +kernel
theorem dX11_comer_66 : decode cX11_comer 66 = .ok (.ireturn, 1) := by decide +kernel
theorem dX11_comer_67 : decode cX11_comer 67 = .ok (.aload_n 0, 1) := by decide +kernel
theorem dX11_comer_68 : decode cX11_comer 68 = .ok (.getfield 28, 3) := by decide +kernel
theorem dX11_comer_71 : decode cX11_comer 71 = .ok (.getfield 181, 3) := by decide +kernel
theorem dX11_comer_74 : decode cX11_comer 74 = .ok (.iload_n 1, 1) := by decide +kernel
theorem dX11_comer_75 : decode cX11_comer 75 = .ok (.iaload, 1) := by decide +kernel
theorem dX11_comer_76 : decode cX11_comer 76 = .ok (.ireturn, 1) := by decide +kernel
theorem dX11_comer_77 : decode cX11_comer 77 = .ok (.aload_n 0, 1) := by decide +kernel
theorem dX11_comer_78 : decode cX11_comer 78 = .ok (.getfield 28, 3) := by decide +kernel
theorem dX11_comer_81 : decode cX11_comer 81 = .ok (.iload_n 1, 1) := by decide +kernel
theorem dX11_comer_82 : decode cX11_comer 82 = .ok (.invokevirtual 184, 3) := by decide +kernel
theorem dX11_comer_85 : decode cX11_comer 85 = .ok (.ireturn, 1) := by decide +kernel
theorem dX11_comer_86 : decode cX11_comer 86 = .ok (.aload_n 0, 1) := by decide +kernel
theorem dX11_comer_87 : decode cX11_comer 87 = .ok (.getfield 28, 3) := by decide +kernel
theorem dX11_comer_90 : decode cX11_comer 90 = .ok (.iload_n 1, 1) := by decide +kernel
theorem dX11_comer_91 : decode cX11_comer 91 = .ok (.invokevirtual 187, 3) := by decide +kernel
theorem dX11_comer_94 : decode cX11_comer 94 = .ok (.ireturn, 1) := by decide +kernel
theorem dX11_comer_95 : decode cX11_comer 95 = .ok (.iconst (-1), 1) := by decide +kernel
theorem dX11_comer_96 : decode cX11_comer 96 = .ok (.ireturn, 1) := by decide +kernel
def f_X11_comer (c_t_now_houses : Int32) (c_t_now_comers : Int32) (r_t_now_comes : (Nat → Int32)) (r_t_now_goes : (Nat → Int32)) (r_t_now_kindOf : (Nat → Int32)) (r_t_now_likings : (Nat → Int32)) (r_t_now_lists : (Nat → Int32)) (x1 : Int32) (x2 : Int32) : Option (Int32) :=
  (f_X11_noComer c_t_now_comers x1).bind (fun (v1 : Int32) =>
    if v1 = 0 then
      (if x2 = 0 then
        (if inb x1 6 then
          (some (r_t_now_kindOf (ix x1)))
        else none)
      else
        (if x2 = 1 then
          (if inb x1 6 then
            ((f_X11_houseOrNone (r_t_now_goes (ix x1))).bind (fun (v2 : Int32) =>
              some v2))
          else none)
        else
          (if x2 = 2 then
            (if inb x1 6 then
              (some (r_t_now_comes (ix x1)))
            else none)
          else
            (if x2 = 3 then
              ((f_X1_listsWith c_t_now_houses r_t_now_lists x1).bind (fun (v3 : Int32) =>
                some v3))
            else
              (if x2 = 4 then
                ((f_X1_likingsOf c_t_now_houses r_t_now_likings x1).bind (fun (v4 : Int32) =>
                  some v4))
              else
                (some ((-1))))))))
    else
      (some ((-1))))
abbrev rm_X11_comer : Room := { frames := 2, cells := 0, slots := 0, locals := 45 }
set_option maxHeartbeats 4000000 in
set_option maxRecDepth 100000 in
theorem k_X11_comer (E : Ev) (a_t a_t_now a_t_now_comes a_t_now_goes a_t_now_kindOf a_t_now_likings a_t_now_lists a_t_tape a_t_reader a_t_seen a_t_trial a_t_advice a_t_odds a_t_guess a_t_images a_t_sheets : Nat) (c_t_tornFault : Int32) (c_t_now_houses : Int32) (c_t_now_comers : Int32) (c_t_now_evening : Int32) (r_t_now_comes : (Nat → Int32)) (r_t_now_goes : (Nat → Int32)) (r_t_now_kindOf : (Nat → Int32)) (r_t_now_likings : (Nat → Int32)) (r_t_now_lists : (Nat → Int32)) (x1 : Int32) (x2 : Int32) (v : Int32) (h : f_X11_comer c_t_now_houses c_t_now_comers r_t_now_comes r_t_now_goes r_t_now_kindOf r_t_now_likings r_t_now_lists x1 x2 = some v) : Mt E yX11_comer cX11_comer 3 (some .int) rm_X11_comer [.ref a_t, .int x1, .int x2] [oX11 a_t a_t_tape a_t_reader a_t_now a_t_seen a_t_trial a_t_advice a_t_odds a_t_guess a_t_images a_t_sheets c_t_tornFault, oX1 a_t_now c_t_now_houses c_t_now_comers c_t_now_evening a_t_now_lists a_t_now_kindOf a_t_now_goes a_t_now_comes a_t_now_likings, aI E a_t_now_comes 6 r_t_now_comes, aI E a_t_now_goes 6 r_t_now_goes, aI E a_t_now_kindOf 6 r_t_now_kindOf, aI E a_t_now_likings 24 r_t_now_likings, aI E a_t_now_lists 4 r_t_now_lists] [oX11 a_t a_t_tape a_t_reader a_t_now a_t_seen a_t_trial a_t_advice a_t_odds a_t_guess a_t_images a_t_sheets c_t_tornFault, oX1 a_t_now c_t_now_houses c_t_now_comers c_t_now_evening a_t_now_lists a_t_now_kindOf a_t_now_goes a_t_now_comes a_t_now_likings, aI E a_t_now_comes 6 r_t_now_comes, aI E a_t_now_goes 6 r_t_now_goes, aI E a_t_now_kindOf 6 r_t_now_kindOf, aI E a_t_now_likings 24 r_t_now_likings, aI E a_t_now_lists 4 r_t_now_lists] (some (.int v)) := by
  refine Mt.intro (lv := [(0, .ref a_t), (1, .int x1), (2, .int x2)]) (by decide +kernel) (Nat.le_of_ble_eq_true rfl) rfl (fun X C K => ?_)
  have C : CX E X cX11_comer RX11 3 rm_X11_comer := C
  rw [f_X11_comer] at h
  refine g_aload_n (pc := 0) C dX11_comer_0 0 rfl ?_
  refine g_iload_n (pc := 1) C dX11_comer_1 1 rfl ?_
  obtain ⟨v1, hv1, h⟩ := o_bnd h
  refine g_callV (pc := 2) (ws' := [oX11 a_t a_t_tape a_t_reader a_t_now a_t_seen a_t_trial a_t_advice a_t_odds a_t_guess a_t_images a_t_sheets c_t_tornFault, oX1 a_t_now c_t_now_houses c_t_now_comers c_t_now_evening a_t_now_lists a_t_now_kindOf a_t_now_goes a_t_now_comes a_t_now_likings, aI E a_t_now_comes 6 r_t_now_comes, aI E a_t_now_goes 6 r_t_now_goes, aI E a_t_now_kindOf 6 r_t_now_kindOf, aI E a_t_now_likings 24 r_t_now_likings, aI E a_t_now_lists 4 r_t_now_lists]) (st1 := [.int v1]) C mv_X11_169 (k_X11_noComer E a_t a_t_now a_t_tape a_t_reader a_t_seen a_t_trial a_t_advice a_t_odds a_t_guess a_t_images a_t_sheets a_t_now_lists a_t_now_kindOf a_t_now_goes a_t_now_comes a_t_now_likings c_t_tornFault c_t_now_houses c_t_now_comers c_t_now_evening x1 v1 hv1) [0, 1] rfl (by decide +kernel) rfl [some 0, some 1, none, none, none, none, none] 7 (by decide +kernel) rfl rfl 0 rfl rfl ⟨by decide, by decide⟩ ⟨rfl, rfl⟩ ⟨Nat.zero_le _, Nat.zero_le _⟩ rfl rfl rfl (Nat.le_of_ble_eq_true rfl) dX11_comer_2 ?_
  refine b_if_eq (pc := 5) 10 C dX11_comer_5 (by decide) h (fun _ h => ?_) (fun _ h => ?_)
  · refine g_iload_n (pc := 10) C dX11_comer_10 2 rfl ?_
    rcases o_ite h with ⟨c0, h⟩ | ⟨c0, h⟩
    · refine g_tabIn (pc := 11) 44 0 C dX11_comer_11 (by rw [c0]; rfl) (by decide) rfl (by decide) ?_
      refine g_aload_n (pc := 44) C dX11_comer_44 0 rfl ?_
      refine g_get (pc := 45) 0 C fl_X11_28 rfl rfl dX11_comer_45 ?_
      refine g_get (pc := 48) 1 C fl_X11_172 rfl rfl dX11_comer_48 ?_
      refine g_iload_n (pc := 51) C dX11_comer_51 1 rfl ?_
      refine b_iald (pc := 52) 4 C rfl dX11_comer_52 h (fun _ h => ?_)
      obtain rfl := Option.some.inj h
      exact g_iret (pc := 53) C K dX11_comer_53
    · rcases o_ite h with ⟨c1, h⟩ | ⟨c1, h⟩
      · refine g_tabIn (pc := 11) 54 1 C dX11_comer_11 (by rw [c1]; rfl) (by decide) rfl (by decide) ?_
        refine g_aload_n (pc := 54) C dX11_comer_54 0 rfl ?_
        refine g_get (pc := 55) 0 C fl_X11_28 rfl rfl dX11_comer_55 ?_
        refine g_get (pc := 58) 1 C fl_X11_175 rfl rfl dX11_comer_58 ?_
        refine g_iload_n (pc := 61) C dX11_comer_61 1 rfl ?_
        refine b_iald (pc := 62) 3 C rfl dX11_comer_62 h (fun _ h => ?_)
        obtain ⟨v2, hv2, h⟩ := o_bnd h
        refine g_callS (pc := 63) (ws' := [oX11 a_t a_t_tape a_t_reader a_t_now a_t_seen a_t_trial a_t_advice a_t_odds a_t_guess a_t_images a_t_sheets c_t_tornFault, oX1 a_t_now c_t_now_houses c_t_now_comers c_t_now_evening a_t_now_lists a_t_now_kindOf a_t_now_goes a_t_now_comes a_t_now_likings, aI E a_t_now_comes 6 r_t_now_comes, aI E a_t_now_goes 6 r_t_now_goes, aI E a_t_now_kindOf 6 r_t_now_kindOf, aI E a_t_now_likings 24 r_t_now_likings, aI E a_t_now_lists 4 r_t_now_lists]) (st1 := [.int v2]) C ms_X11_178 (k_X11_houseOrNone E (r_t_now_goes (ix x1)) v2 hv2) [] rfl (by decide +kernel) rfl [none, none, none, none, none, none, none] 7 (by decide +kernel) rfl rfl ⟨by decide, by decide⟩ ⟨rfl, rfl⟩ ⟨Nat.zero_le _, Nat.zero_le _⟩ rfl rfl rfl (Nat.le_of_ble_eq_true rfl) dX11_comer_63 ?_
        obtain rfl := Option.some.inj h
        exact g_iret (pc := 66) C K dX11_comer_66
      · rcases o_ite h with ⟨c2, h⟩ | ⟨c2, h⟩
        · refine g_tabIn (pc := 11) 67 2 C dX11_comer_11 (by rw [c2]; rfl) (by decide) rfl (by decide) ?_
          refine g_aload_n (pc := 67) C dX11_comer_67 0 rfl ?_
          refine g_get (pc := 68) 0 C fl_X11_28 rfl rfl dX11_comer_68 ?_
          refine g_get (pc := 71) 1 C fl_X11_181 rfl rfl dX11_comer_71 ?_
          refine g_iload_n (pc := 74) C dX11_comer_74 1 rfl ?_
          refine b_iald (pc := 75) 2 C rfl dX11_comer_75 h (fun _ h => ?_)
          obtain rfl := Option.some.inj h
          exact g_iret (pc := 76) C K dX11_comer_76
        · rcases o_ite h with ⟨c3, h⟩ | ⟨c3, h⟩
          · refine g_tabIn (pc := 11) 77 3 C dX11_comer_11 (by rw [c3]; rfl) (by decide) rfl (by decide) ?_
            refine g_aload_n (pc := 77) C dX11_comer_77 0 rfl ?_
            refine g_get (pc := 78) 0 C fl_X11_28 rfl rfl dX11_comer_78 ?_
            refine g_iload_n (pc := 81) C dX11_comer_81 1 rfl ?_
            obtain ⟨v3, hv3, h⟩ := o_bnd h
            refine g_callV (pc := 82) (ws' := [oX11 a_t a_t_tape a_t_reader a_t_now a_t_seen a_t_trial a_t_advice a_t_odds a_t_guess a_t_images a_t_sheets c_t_tornFault, oX1 a_t_now c_t_now_houses c_t_now_comers c_t_now_evening a_t_now_lists a_t_now_kindOf a_t_now_goes a_t_now_comes a_t_now_likings, aI E a_t_now_comes 6 r_t_now_comes, aI E a_t_now_goes 6 r_t_now_goes, aI E a_t_now_kindOf 6 r_t_now_kindOf, aI E a_t_now_likings 24 r_t_now_likings, aI E a_t_now_lists 4 r_t_now_lists]) (st1 := [.int v3]) C mv_X11_184 (k_X1_listsWith E a_t_now a_t_now_lists a_t_now_kindOf a_t_now_goes a_t_now_comes a_t_now_likings c_t_now_houses c_t_now_comers c_t_now_evening r_t_now_lists x1 v3 hv3) [1, 6] rfl (by decide +kernel) rfl [none, some 0, none, none, none, none, some 1] 7 (by decide +kernel) rfl rfl 0 rfl rfl ⟨by decide, by decide⟩ ⟨rfl, rfl⟩ ⟨Nat.zero_le _, Nat.zero_le _⟩ rfl rfl rfl (Nat.le_of_ble_eq_true rfl) dX11_comer_82 ?_
            obtain rfl := Option.some.inj h
            exact g_iret (pc := 85) C K dX11_comer_85
          · rcases o_ite h with ⟨c4, h⟩ | ⟨c4, h⟩
            · refine g_tabIn (pc := 11) 86 4 C dX11_comer_11 (by rw [c4]; rfl) (by decide) rfl (by decide) ?_
              refine g_aload_n (pc := 86) C dX11_comer_86 0 rfl ?_
              refine g_get (pc := 87) 0 C fl_X11_28 rfl rfl dX11_comer_87 ?_
              refine g_iload_n (pc := 90) C dX11_comer_90 1 rfl ?_
              obtain ⟨v4, hv4, h⟩ := o_bnd h
              refine g_callV (pc := 91) (ws' := [oX11 a_t a_t_tape a_t_reader a_t_now a_t_seen a_t_trial a_t_advice a_t_odds a_t_guess a_t_images a_t_sheets c_t_tornFault, oX1 a_t_now c_t_now_houses c_t_now_comers c_t_now_evening a_t_now_lists a_t_now_kindOf a_t_now_goes a_t_now_comes a_t_now_likings, aI E a_t_now_comes 6 r_t_now_comes, aI E a_t_now_goes 6 r_t_now_goes, aI E a_t_now_kindOf 6 r_t_now_kindOf, aI E a_t_now_likings 24 r_t_now_likings, aI E a_t_now_lists 4 r_t_now_lists]) (st1 := [.int v4]) C mv_X11_187 (k_X1_likingsOf E a_t_now a_t_now_likings a_t_now_lists a_t_now_kindOf a_t_now_goes a_t_now_comes c_t_now_houses c_t_now_comers c_t_now_evening r_t_now_likings x1 v4 hv4) [1, 5] rfl (by decide +kernel) rfl [none, some 0, none, none, none, some 1, none] 7 (by decide +kernel) rfl rfl 0 rfl rfl ⟨by decide, by decide⟩ ⟨rfl, rfl⟩ ⟨Nat.zero_le _, Nat.zero_le _⟩ rfl rfl rfl (Nat.le_of_ble_eq_true rfl) dX11_comer_91 ?_
              obtain rfl := Option.some.inj h
              exact g_iret (pc := 94) C K dX11_comer_94
            · refine g_tabOut (pc := 11) 95 C dX11_comer_11 (by have := sw_n 0 (by decide) c0; have := sw_n 1 (by decide) c1; have := sw_n 2 (by decide) c2; have := sw_n 3 (by decide) c3; have := sw_n 4 (by decide) c4; omega) (by decide) ?_
              refine g_iconst (pc := 95) (v := (-1)) C dX11_comer_95 (by decide) ?_
              obtain rfl := Option.some.inj h
              exact g_iret (pc := 96) C K dX11_comer_96
  · refine g_iconst (pc := 8) (v := (-1)) C dX11_comer_8 (by decide) ?_
    obtain rfl := Option.some.inj h
    exact g_iret (pc := 9) C K dX11_comer_9
theorem dX11_likes_0 : decode cX11_likes 0 = .ok (.aload_n 0, 1) := by decide +kernel
theorem dX11_likes_1 : decode cX11_likes 1 = .ok (.iload_n 1, 1) := by decide +kernel
theorem dX11_likes_2 : decode cX11_likes 2 = .ok (.invokevirtual 146, 3) := by decide +kernel
theorem dX11_likes_5 : decode cX11_likes 5 = .ok (.ifCond .ne 11, 3) := by decide +kernel
theorem dX11_likes_8 : decode cX11_likes 8 = .ok (.aload_n 0, 1) := by decide +kernel
theorem dX11_likes_9 : decode cX11_likes 9 = .ok (.iload_n 2, 1) := by decide +kernel
theorem dX11_likes_10 : decode cX11_likes 10 = .ok (.invokevirtual 169, 3) := by decide +kernel
theorem dX11_likes_13 : decode cX11_likes 13 = .ok (.ifCond .eq 7, 3) := by decide +kernel
theorem dX11_likes_16 : decode cX11_likes 16 = .ok (.iconst (-1), 1) := by decide +kernel
theorem dX11_likes_17 : decode cX11_likes 17 = .ok (.goto 12, 3) := by decide +kernel
theorem dX11_likes_20 : decode cX11_likes 20 = .ok (.aload_n 0, 1) := by decide +kernel
theorem dX11_likes_21 : decode cX11_likes 21 = .ok (.getfield 28, 3) := by decide +kernel
theorem dX11_likes_24 : decode cX11_likes 24 = .ok (.iload_n 1, 1) := by decide +kernel
theorem dX11_likes_25 : decode cX11_likes 25 = .ok (.iload_n 2, 1) := by decide +kernel
theorem dX11_likes_26 : decode cX11_likes 26 = .ok (.invokevirtual 190, 3) := by decide +kernel
theorem dX11_likes_29 : decode cX11_likes 29 = .ok (.ireturn, 1) := by decide +kernel
def f_X11_likes (c_t_now_houses : Int32) (c_t_now_comers : Int32) (r_t_now_likings : (Nat → Int32)) (x1 : Int32) (x2 : Int32) : Option (Int32) :=
  (f_X11_noHouse c_t_now_houses x1).bind (fun (v1 : Int32) =>
    if v1 = 0 then
      ((f_X11_noComer c_t_now_comers x2).bind (fun (v2 : Int32) =>
        if v2 = 0 then
          ((f_X1_liked r_t_now_likings x1 x2).bind (fun (v3 : Int32) =>
            some v3))
        else
          (some ((-1)))))
    else
      (some ((-1))))
abbrev rm_X11_likes : Room := { frames := 1, cells := 0, slots := 0, locals := 22 }
set_option maxHeartbeats 4000000 in
set_option maxRecDepth 100000 in
theorem k_X11_likes (E : Ev) (a_t a_t_now a_t_now_likings a_t_tape a_t_reader a_t_seen a_t_trial a_t_advice a_t_odds a_t_guess a_t_images a_t_sheets a_t_now_lists a_t_now_kindOf a_t_now_goes a_t_now_comes : Nat) (c_t_tornFault : Int32) (c_t_now_houses : Int32) (c_t_now_comers : Int32) (c_t_now_evening : Int32) (r_t_now_likings : (Nat → Int32)) (x1 : Int32) (x2 : Int32) (v : Int32) (h : f_X11_likes c_t_now_houses c_t_now_comers r_t_now_likings x1 x2 = some v) : Mt E yX11_likes cX11_likes 3 (some .int) rm_X11_likes [.ref a_t, .int x1, .int x2] [oX11 a_t a_t_tape a_t_reader a_t_now a_t_seen a_t_trial a_t_advice a_t_odds a_t_guess a_t_images a_t_sheets c_t_tornFault, oX1 a_t_now c_t_now_houses c_t_now_comers c_t_now_evening a_t_now_lists a_t_now_kindOf a_t_now_goes a_t_now_comes a_t_now_likings, aI E a_t_now_likings 24 r_t_now_likings] [oX11 a_t a_t_tape a_t_reader a_t_now a_t_seen a_t_trial a_t_advice a_t_odds a_t_guess a_t_images a_t_sheets c_t_tornFault, oX1 a_t_now c_t_now_houses c_t_now_comers c_t_now_evening a_t_now_lists a_t_now_kindOf a_t_now_goes a_t_now_comes a_t_now_likings, aI E a_t_now_likings 24 r_t_now_likings] (some (.int v)) := by
  refine Mt.intro (lv := [(0, .ref a_t), (1, .int x1), (2, .int x2)]) (by decide +kernel) (Nat.le_of_ble_eq_true rfl) rfl (fun X C K => ?_)
  have C : CX E X cX11_likes RX11 3 rm_X11_likes := C
  rw [f_X11_likes] at h
  refine g_aload_n (pc := 0) C dX11_likes_0 0 rfl ?_
  refine g_iload_n (pc := 1) C dX11_likes_1 1 rfl ?_
  obtain ⟨v1, hv1, h⟩ := o_bnd h
  refine g_callV (pc := 2) (ws' := [oX11 a_t a_t_tape a_t_reader a_t_now a_t_seen a_t_trial a_t_advice a_t_odds a_t_guess a_t_images a_t_sheets c_t_tornFault, oX1 a_t_now c_t_now_houses c_t_now_comers c_t_now_evening a_t_now_lists a_t_now_kindOf a_t_now_goes a_t_now_comes a_t_now_likings, aI E a_t_now_likings 24 r_t_now_likings]) (st1 := [.int v1]) C mv_X11_146 (k_X11_noHouse E a_t a_t_now a_t_tape a_t_reader a_t_seen a_t_trial a_t_advice a_t_odds a_t_guess a_t_images a_t_sheets a_t_now_lists a_t_now_kindOf a_t_now_goes a_t_now_comes a_t_now_likings c_t_tornFault c_t_now_houses c_t_now_comers c_t_now_evening x1 v1 hv1) [0, 1] rfl (by decide +kernel) rfl [some 0, some 1, none] 3 (by decide +kernel) rfl rfl 0 rfl rfl ⟨by decide, by decide⟩ ⟨rfl, rfl⟩ ⟨Nat.zero_le _, Nat.zero_le _⟩ rfl rfl rfl (Nat.le_of_ble_eq_true rfl) dX11_likes_2 ?_
  refine b_if_ne (pc := 5) 16 C dX11_likes_5 (by decide) h (fun _ h => ?_) (fun _ h => ?_)
  · refine g_iconst (pc := 16) (v := (-1)) C dX11_likes_16 (by decide) ?_
    refine g_goto (pc := 17) 29 C dX11_likes_17 (by decide) ?_
    obtain rfl := Option.some.inj h
    exact g_iret (pc := 29) C K dX11_likes_29
  · refine g_aload_n (pc := 8) C dX11_likes_8 0 rfl ?_
    refine g_iload_n (pc := 9) C dX11_likes_9 2 rfl ?_
    obtain ⟨v2, hv2, h⟩ := o_bnd h
    refine g_callV (pc := 10) (ws' := [oX11 a_t a_t_tape a_t_reader a_t_now a_t_seen a_t_trial a_t_advice a_t_odds a_t_guess a_t_images a_t_sheets c_t_tornFault, oX1 a_t_now c_t_now_houses c_t_now_comers c_t_now_evening a_t_now_lists a_t_now_kindOf a_t_now_goes a_t_now_comes a_t_now_likings, aI E a_t_now_likings 24 r_t_now_likings]) (st1 := [.int v2]) C mv_X11_169 (k_X11_noComer E a_t a_t_now a_t_tape a_t_reader a_t_seen a_t_trial a_t_advice a_t_odds a_t_guess a_t_images a_t_sheets a_t_now_lists a_t_now_kindOf a_t_now_goes a_t_now_comes a_t_now_likings c_t_tornFault c_t_now_houses c_t_now_comers c_t_now_evening x2 v2 hv2) [0, 1] rfl (by decide +kernel) rfl [some 0, some 1, none] 3 (by decide +kernel) rfl rfl 0 rfl rfl ⟨by decide, by decide⟩ ⟨rfl, rfl⟩ ⟨Nat.zero_le _, Nat.zero_le _⟩ rfl rfl rfl (Nat.le_of_ble_eq_true rfl) dX11_likes_10 ?_
    refine b_if_eq (pc := 13) 20 C dX11_likes_13 (by decide) h (fun _ h => ?_) (fun _ h => ?_)
    · refine g_aload_n (pc := 20) C dX11_likes_20 0 rfl ?_
      refine g_get (pc := 21) 0 C fl_X11_28 rfl rfl dX11_likes_21 ?_
      refine g_iload_n (pc := 24) C dX11_likes_24 1 rfl ?_
      refine g_iload_n (pc := 25) C dX11_likes_25 2 rfl ?_
      obtain ⟨v3, hv3, h⟩ := o_bnd h
      refine g_callV (pc := 26) (ws' := [oX11 a_t a_t_tape a_t_reader a_t_now a_t_seen a_t_trial a_t_advice a_t_odds a_t_guess a_t_images a_t_sheets c_t_tornFault, oX1 a_t_now c_t_now_houses c_t_now_comers c_t_now_evening a_t_now_lists a_t_now_kindOf a_t_now_goes a_t_now_comes a_t_now_likings, aI E a_t_now_likings 24 r_t_now_likings]) (st1 := [.int v3]) C mv_X11_190 (k_X1_liked E a_t_now a_t_now_likings a_t_now_lists a_t_now_kindOf a_t_now_goes a_t_now_comes c_t_now_houses c_t_now_comers c_t_now_evening r_t_now_likings x1 x2 v3 hv3) [1, 2] rfl (by decide +kernel) rfl [none, some 0, some 1] 3 (by decide +kernel) rfl rfl 0 rfl rfl ⟨by decide, by decide⟩ ⟨rfl, rfl⟩ ⟨Nat.zero_le _, Nat.zero_le _⟩ rfl rfl rfl (Nat.le_of_ble_eq_true rfl) dX11_likes_26 ?_
      obtain rfl := Option.some.inj h
      exact g_iret (pc := 29) C K dX11_likes_29
    · refine g_iconst (pc := 16) (v := (-1)) C dX11_likes_16 (by decide) ?_
      refine g_goto (pc := 17) 29 C dX11_likes_17 (by decide) ?_
      obtain rfl := Option.some.inj h
      exact g_iret (pc := 29) C K dX11_likes_29
theorem dX11_exchange_0 : decode cX11_exchange 0 = .ok (.aload_n 0, 1) := by decide +kernel
theorem dX11_exchange_1 : decode cX11_exchange 1 = .ok (.iload_n 1, 1) := by decide +kernel
theorem dX11_exchange_2 : decode cX11_exchange 2 = .ok (.iaload, 1) := by decide +kernel
theorem dX11_exchange_3 : decode cX11_exchange 3 = .ok (.istore_n 3, 1) := by decide +kernel
theorem dX11_exchange_4 : decode cX11_exchange 4 = .ok (.aload_n 0, 1) := by decide +kernel
theorem dX11_exchange_5 : decode cX11_exchange 5 = .ok (.iload_n 1, 1) := by decide +kernel
theorem dX11_exchange_6 : decode cX11_exchange 6 = .ok (.iload_n 2, 1) := by decide +kernel
theorem dX11_exchange_7 : decode cX11_exchange 7 = .ok (.iastore, 1) := by decide +kernel
theorem dX11_exchange_8 : decode cX11_exchange 8 = .ok (.iload_n 3, 1) := by decide +kernel
theorem dX11_exchange_9 : decode cX11_exchange 9 = .ok (.ireturn, 1) := by decide +kernel
def f_X11_exchange (r_p0 : (Nat → Int32)) (x1 : Int32) (x2 : Int32) : Option (Int32 × (Nat → Int32)) :=
  if inb x1 6 then
    (if inb x1 6 then
      (some ((r_p0 (ix x1), upd r_p0 (ix x1) x2)))
    else none)
  else none
abbrev rm_X11_exchange : Room := { frames := 0, cells := 0, slots := 0, locals := 0 }
set_option maxHeartbeats 4000000 in
set_option maxRecDepth 100000 in
theorem k_X11_exchange (E : Ev) (a_p0 : Nat) (r_p0 : (Nat → Int32)) (x1 : Int32) (x2 : Int32) (v : Int32 × (Nat → Int32)) (h : f_X11_exchange r_p0 x1 x2 = some v) : Mt E yX11_exchange cX11_exchange 4 (some .int) rm_X11_exchange [.ref a_p0, .int x1, .int x2] [aI E a_p0 6 r_p0] [aI E a_p0 6 v.2] (some (.int v.1)) := by
  refine Mt.intro (lv := [(0, .ref a_p0), (1, .int x1), (2, .int x2)]) (by decide +kernel) (Nat.le_of_ble_eq_true rfl) rfl (fun X C K => ?_)
  have C : CX E X cX11_exchange RX11 4 rm_X11_exchange := C
  rw [f_X11_exchange] at h
  refine g_aload_n (pc := 0) C dX11_exchange_0 0 rfl ?_
  refine g_iload_n (pc := 1) C dX11_exchange_1 1 rfl ?_
  refine b_iald (pc := 2) 0 C rfl dX11_exchange_2 h (fun _ h => ?_)
  refine g_istore_n (pc := 3) (lv' := [(3, .int (r_p0 (ix x1))), (0, .ref a_p0), (1, .int x1), (2, .int x2)]) C dX11_exchange_3 (by decide) rfl ?_
  refine g_aload_n (pc := 4) C dX11_exchange_4 1 rfl ?_
  refine g_iload_n (pc := 5) C dX11_exchange_5 2 rfl ?_
  refine g_iload_n (pc := 6) C dX11_exchange_6 3 rfl ?_
  refine b_iast (pc := 7) (ws' := [aI E a_p0 6 (upd r_p0 (ix x1) x2)]) 0 C rfl rfl dX11_exchange_7 h (fun _ h => ?_)
  refine g_iload_n (pc := 8) C dX11_exchange_8 0 rfl ?_
  obtain rfl := Option.some.inj h
  exact g_iret (pc := 9) C K dX11_exchange_9
theorem dX11_alter_0 : decode cX11_alter 0 = .ok (.aload_n 0, 1) := by decide +kernel
theorem dX11_alter_1 : decode cX11_alter 1 = .ok (.iload_n 1, 1) := by decide +kernel
theorem dX11_alter_2 : decode cX11_alter 2 = .ok (.invokevirtual 169, 3) := by decide +kernel
theorem dX11_alter_5 : decode cX11_alter 5 = .ok (.ifCond .eq 5, 3) := by decide +kernel
theorem dX11_alter_8 : decode cX11_alter 8 = .ok (.iconst (-1), 1) := by decide +kernel
theorem dX11_alter_9 : decode cX11_alter 9 = .ok (.ireturn, 1) := by decide +kernel
theorem dX11_alter_10 : decode cX11_alter 10 = .ok (.iload_n 2, 1) := by decide +kernel
theorem dX11_alter_11 : decode cX11_alter 11 = .ok (.tableswitch 107 0 2 #[25, 50, 81], 25) := by decide +kernel
theorem dX11_alter_36 : decode cX11_alter 36 = .ok (.iload_n 3, 1) := by decide +kernel
theorem dX11_alter_37 : decode cX11_alter 37 = .ok (.iconst 3, 1) := by decide +kernel
theorem dX11_alter_38 : decode cX11_alter 38 = .ok (.invokestatic 91, 3) := by decide +kernel
theorem dX11_alter_41 : decode cX11_alter 41 = .ok (.ifCond .eq 7, 3) := by decide +kernel
theorem dX11_alter_44 : decode cX11_alter 44 = .ok (.iconst (-1), 1) := by decide +kernel
theorem dX11_alter_45 : decode cX11_alter 45 = .ok (.goto 15, 3) := by decide +kernel
theorem dX11_alter_48 : decode cX11_alter 48 = .ok (.aload_n 0, 1) := by decide +kernel
theorem dX11_alter_49 : decode cX11_alter 49 = .ok (.getfield 28, 3) := by decide +kernel
theorem dX11_alter_52 : decode cX11_alter 52 = .ok (.getfield 172, 3) := by decide +kernel
theorem dX11_alter_55 : decode cX11_alter 55 = .ok (.iload_n 1, 1) := by decide +kernel
theorem dX11_alter_56 : decode cX11_alter 56 = .ok (.iload_n 3, 1) := by decide +kernel
theorem dX11_alter_57 : decode cX11_alter 57 = .ok (.invokestatic 194, 3) := by decide +kernel
theorem dX11_alter_60 : decode cX11_alter 60 = .ok (.ireturn, 1) := by decide +kernel
theorem dX11_alter_61 : decode cX11_alter 61 = .ok (.aload_n 0, 1) := by decide +kernel
theorem dX11_alter_62 : decode cX11_alter 62 = .ok (.getfield 28, 3) := by decide +kernel
theorem dX11_alter_65 : decode cX11_alter 65 = .ok (.iload_n 3, 1) := by decide +kernel
theorem dX11_alter_66 : decode cX11_alter 66 = .ok (.invokevirtual 198, 3) := by decide +kernel
theorem dX11_alter_69 : decode cX11_alter 69 = .ok (.ifCond .eq 7, 3) := by decide +kernel
theorem dX11_alter_72 : decode cX11_alter 72 = .ok (.iconst (-1), 1) := by decide +kernel
theorem dX11_alter_73 : decode cX11_alter 73 = .ok (.goto 18, 3) := by decide +kernel
theorem dX11_alter_76 : decode cX11_alter 76 = .ok (.aload_n 0, 1) := by decide +kernel
theorem dX11_alter_77 : decode cX11_alter 77 = .ok (.getfield 28, 3) := by decide +kernel
theorem dX11_alter_80 : decode cX11_alter 80 = .ok (.getfield 175, 3) := by decide +kernel
theorem dX11_alter_83 : decode cX11_alter 83 = .ok (.iload_n 1, 1) := by decide +kernel
theorem dX11_alter_84 : decode cX11_alter 84 = .ok (.iload_n 3, 1) := by decide +kernel
theorem dX11_alter_85 : decode cX11_alter 85 = .ok (.invokestatic 194, 3) := by decide +kernel
theorem dX11_alter_88 : decode cX11_alter 88 = .ok (.invokestatic 178, 3) := by decide +kernel
theorem dX11_alter_91 : decode cX11_alter 91 = .ok (.ireturn, 1) := by decide +kernel
theorem dX11_alter_92 : decode cX11_alter 92 = .ok (.iload_n 3, 1) := by decide +kernel
theorem dX11_alter_93 : decode cX11_alter 93 = .ok (.bipush 6, 2) := by decide +kernel
theorem dX11_alter_95 : decode cX11_alter 95 = .ok (.invokestatic 91, 3) := by decide +kernel
theorem dX11_alter_98 : decode cX11_alter 98 = .ok (.ifCond .eq 7, 3) := by decide +kernel
theorem dX11_alter_101 : decode cX11_alter 101 = .ok (.iconst (-1), 1) := by decide +kernel
theorem dX11_alter_102 : decode cX11_alter 102 = .ok (.goto 15, 3) := by decide +kernel
theorem dX11_alter_105 : decode cX11_alter 105 = .ok (.aload_n 0, 1) := by decide +kernel
theorem dX11_alter_106 : decode cX11_alter 106 = .ok (.getfield 28, 3) := by decide +kernel
theorem dX11_alter_109 : decode cX11_alter 109 = .ok (.getfield 181, 3) := by decide +kernel
theorem dX11_alter_112 : decode cX11_alter 112 = .ok (.iload_n 1, 1) := by decide +kernel
theorem dX11_alter_113 : decode cX11_alter 113 = .ok (.iload_n 3, 1) := by decide +kernel
theorem dX11_alter_114 : decode cX11_alter 114 = .ok (.invokestatic 194, 3) := by decide +kernel
theorem dX11_alter_117 : decode cX11_alter 117 = .ok (.ireturn, 1) := by decide +kernel
theorem dX11_alter_118 : decode cX11_alter 118 = .ok (.iconst (-1), 1) := by decide +kernel
theorem dX11_alter_119 : decode cX11_alter 119 = .ok (.ireturn, 1) := by decide +kernel
def f_X11_alter (c_t_now_houses : Int32) (c_t_now_comers : Int32) (r_t_now_comes : (Nat → Int32)) (r_t_now_goes : (Nat → Int32)) (r_t_now_kindOf : (Nat → Int32)) (x1 : Int32) (x2 : Int32) (x3 : Int32) : Option (Int32 × (Nat → Int32) × (Nat → Int32) × (Nat → Int32)) :=
  (f_X11_noComer c_t_now_comers x1).bind (fun (v1 : Int32) =>
    if v1 = 0 then
      (if x2 = 0 then
        ((f_X11_outside x3 3).bind (fun (v2 : Int32) =>
          if v2 = 0 then
            ((f_X11_exchange r_t_now_kindOf x1 x3).bind (fun (v3 : Int32 × (Nat → Int32)) =>
              some ((v3.1, r_t_now_comes, r_t_now_goes, v3.2))))
          else
            (some (((-1), r_t_now_comes, r_t_now_goes, r_t_now_kindOf)))))
      else
        (if x2 = 1 then
          ((f_X1_noDestination c_t_now_houses x3).bind (fun (v4 : Int32) =>
            if v4 = 0 then
              ((f_X11_exchange r_t_now_goes x1 x3).bind (fun (v5 : Int32 × (Nat → Int32)) =>
                (f_X11_houseOrNone v5.1).bind (fun (v6 : Int32) =>
                  some ((v6, r_t_now_comes, v5.2, r_t_now_kindOf)))))
            else
              (some (((-1), r_t_now_comes, r_t_now_goes, r_t_now_kindOf)))))
        else
          (if x2 = 2 then
            ((f_X11_outside x3 6).bind (fun (v7 : Int32) =>
              if v7 = 0 then
                ((f_X11_exchange r_t_now_comes x1 x3).bind (fun (v8 : Int32 × (Nat → Int32)) =>
                  some ((v8.1, v8.2, r_t_now_goes, r_t_now_kindOf))))
              else
                (some (((-1), r_t_now_comes, r_t_now_goes, r_t_now_kindOf)))))
          else
            (some (((-1), r_t_now_comes, r_t_now_goes, r_t_now_kindOf))))))
    else
      (some (((-1), r_t_now_comes, r_t_now_goes, r_t_now_kindOf))))
abbrev rm_X11_alter : Room := { frames := 1, cells := 0, slots := 0, locals := 23 }
set_option maxHeartbeats 4000000 in
set_option maxRecDepth 100000 in
theorem k_X11_alter (E : Ev) (a_t a_t_now a_t_now_comes a_t_now_goes a_t_now_kindOf a_t_tape a_t_reader a_t_seen a_t_trial a_t_advice a_t_odds a_t_guess a_t_images a_t_sheets a_t_now_lists a_t_now_likings : Nat) (c_t_tornFault : Int32) (c_t_now_houses : Int32) (c_t_now_comers : Int32) (c_t_now_evening : Int32) (r_t_now_comes : (Nat → Int32)) (r_t_now_goes : (Nat → Int32)) (r_t_now_kindOf : (Nat → Int32)) (x1 : Int32) (x2 : Int32) (x3 : Int32) (v : Int32 × (Nat → Int32) × (Nat → Int32) × (Nat → Int32)) (h : f_X11_alter c_t_now_houses c_t_now_comers r_t_now_comes r_t_now_goes r_t_now_kindOf x1 x2 x3 = some v) : Mt E yX11_alter cX11_alter 4 (some .int) rm_X11_alter [.ref a_t, .int x1, .int x2, .int x3] [oX11 a_t a_t_tape a_t_reader a_t_now a_t_seen a_t_trial a_t_advice a_t_odds a_t_guess a_t_images a_t_sheets c_t_tornFault, oX1 a_t_now c_t_now_houses c_t_now_comers c_t_now_evening a_t_now_lists a_t_now_kindOf a_t_now_goes a_t_now_comes a_t_now_likings, aI E a_t_now_comes 6 r_t_now_comes, aI E a_t_now_goes 6 r_t_now_goes, aI E a_t_now_kindOf 6 r_t_now_kindOf] [oX11 a_t a_t_tape a_t_reader a_t_now a_t_seen a_t_trial a_t_advice a_t_odds a_t_guess a_t_images a_t_sheets c_t_tornFault, oX1 a_t_now c_t_now_houses c_t_now_comers c_t_now_evening a_t_now_lists a_t_now_kindOf a_t_now_goes a_t_now_comes a_t_now_likings, aI E a_t_now_comes 6 v.2.1, aI E a_t_now_goes 6 v.2.2.1, aI E a_t_now_kindOf 6 v.2.2.2] (some (.int v.1)) := by
  refine Mt.intro (lv := [(0, .ref a_t), (1, .int x1), (2, .int x2), (3, .int x3)]) (by decide +kernel) (Nat.le_of_ble_eq_true rfl) rfl (fun X C K => ?_)
  have C : CX E X cX11_alter RX11 4 rm_X11_alter := C
  rw [f_X11_alter] at h
  refine g_aload_n (pc := 0) C dX11_alter_0 0 rfl ?_
  refine g_iload_n (pc := 1) C dX11_alter_1 1 rfl ?_
  obtain ⟨v1, hv1, h⟩ := o_bnd h
  refine g_callV (pc := 2) (ws' := [oX11 a_t a_t_tape a_t_reader a_t_now a_t_seen a_t_trial a_t_advice a_t_odds a_t_guess a_t_images a_t_sheets c_t_tornFault, oX1 a_t_now c_t_now_houses c_t_now_comers c_t_now_evening a_t_now_lists a_t_now_kindOf a_t_now_goes a_t_now_comes a_t_now_likings, aI E a_t_now_comes 6 r_t_now_comes, aI E a_t_now_goes 6 r_t_now_goes, aI E a_t_now_kindOf 6 r_t_now_kindOf]) (st1 := [.int v1]) C mv_X11_169 (k_X11_noComer E a_t a_t_now a_t_tape a_t_reader a_t_seen a_t_trial a_t_advice a_t_odds a_t_guess a_t_images a_t_sheets a_t_now_lists a_t_now_kindOf a_t_now_goes a_t_now_comes a_t_now_likings c_t_tornFault c_t_now_houses c_t_now_comers c_t_now_evening x1 v1 hv1) [0, 1] rfl (by decide +kernel) rfl [some 0, some 1, none, none, none] 5 (by decide +kernel) rfl rfl 0 rfl rfl ⟨by decide, by decide⟩ ⟨rfl, rfl⟩ ⟨Nat.zero_le _, Nat.zero_le _⟩ rfl rfl rfl (Nat.le_of_ble_eq_true rfl) dX11_alter_2 ?_
  refine b_if_eq (pc := 5) 10 C dX11_alter_5 (by decide) h (fun _ h => ?_) (fun _ h => ?_)
  · refine g_iload_n (pc := 10) C dX11_alter_10 2 rfl ?_
    rcases o_ite h with ⟨c0, h⟩ | ⟨c0, h⟩
    · refine g_tabIn (pc := 11) 36 0 C dX11_alter_11 (by rw [c0]; rfl) (by decide) rfl (by decide) ?_
      refine g_iload_n (pc := 36) C dX11_alter_36 3 rfl ?_
      refine g_iconst (pc := 37) (v := 3) C dX11_alter_37 (by decide) ?_
      obtain ⟨v2, hv2, h⟩ := o_bnd h
      refine g_callS (pc := 38) (ws' := [oX11 a_t a_t_tape a_t_reader a_t_now a_t_seen a_t_trial a_t_advice a_t_odds a_t_guess a_t_images a_t_sheets c_t_tornFault, oX1 a_t_now c_t_now_houses c_t_now_comers c_t_now_evening a_t_now_lists a_t_now_kindOf a_t_now_goes a_t_now_comes a_t_now_likings, aI E a_t_now_comes 6 r_t_now_comes, aI E a_t_now_goes 6 r_t_now_goes, aI E a_t_now_kindOf 6 r_t_now_kindOf]) (st1 := [.int v2]) C ms_X11_91 (k_X11_outside E x3 3 v2 hv2) [] rfl (by decide +kernel) rfl [none, none, none, none, none] 5 (by decide +kernel) rfl rfl ⟨by decide, by decide⟩ ⟨rfl, rfl⟩ ⟨Nat.zero_le _, Nat.zero_le _⟩ rfl rfl rfl (Nat.le_of_ble_eq_true rfl) dX11_alter_38 ?_
      refine b_if_eq (pc := 41) 48 C dX11_alter_41 (by decide) h (fun _ h => ?_) (fun _ h => ?_)
      · refine g_aload_n (pc := 48) C dX11_alter_48 0 rfl ?_
        refine g_get (pc := 49) 0 C fl_X11_28 rfl rfl dX11_alter_49 ?_
        refine g_get (pc := 52) 1 C fl_X11_172 rfl rfl dX11_alter_52 ?_
        refine g_iload_n (pc := 55) C dX11_alter_55 1 rfl ?_
        refine g_iload_n (pc := 56) C dX11_alter_56 3 rfl ?_
        obtain ⟨v3, hv3, h⟩ := o_bnd h
        refine g_callS (pc := 57) (ws' := [oX11 a_t a_t_tape a_t_reader a_t_now a_t_seen a_t_trial a_t_advice a_t_odds a_t_guess a_t_images a_t_sheets c_t_tornFault, oX1 a_t_now c_t_now_houses c_t_now_comers c_t_now_evening a_t_now_lists a_t_now_kindOf a_t_now_goes a_t_now_comes a_t_now_likings, aI E a_t_now_comes 6 r_t_now_comes, aI E a_t_now_goes 6 r_t_now_goes, aI E a_t_now_kindOf 6 v3.2]) (st1 := [.int v3.1]) C ms_X11_194 (k_X11_exchange E a_t_now_kindOf r_t_now_kindOf x1 x3 v3 hv3) [4] rfl (by decide +kernel) rfl [none, none, none, none, some 0] 5 (by decide +kernel) rfl rfl ⟨by decide, by decide⟩ ⟨rfl, rfl⟩ ⟨Nat.zero_le _, Nat.zero_le _⟩ rfl rfl rfl (Nat.le_of_ble_eq_true rfl) dX11_alter_57 ?_
        obtain rfl := Option.some.inj h
        exact g_iret (pc := 60) C K dX11_alter_60
      · refine g_iconst (pc := 44) (v := (-1)) C dX11_alter_44 (by decide) ?_
        refine g_goto (pc := 45) 60 C dX11_alter_45 (by decide) ?_
        obtain rfl := Option.some.inj h
        exact g_iret (pc := 60) C K dX11_alter_60
    · rcases o_ite h with ⟨c1, h⟩ | ⟨c1, h⟩
      · refine g_tabIn (pc := 11) 61 1 C dX11_alter_11 (by rw [c1]; rfl) (by decide) rfl (by decide) ?_
        refine g_aload_n (pc := 61) C dX11_alter_61 0 rfl ?_
        refine g_get (pc := 62) 0 C fl_X11_28 rfl rfl dX11_alter_62 ?_
        refine g_iload_n (pc := 65) C dX11_alter_65 3 rfl ?_
        obtain ⟨v4, hv4, h⟩ := o_bnd h
        refine g_callV (pc := 66) (ws' := [oX11 a_t a_t_tape a_t_reader a_t_now a_t_seen a_t_trial a_t_advice a_t_odds a_t_guess a_t_images a_t_sheets c_t_tornFault, oX1 a_t_now c_t_now_houses c_t_now_comers c_t_now_evening a_t_now_lists a_t_now_kindOf a_t_now_goes a_t_now_comes a_t_now_likings, aI E a_t_now_comes 6 r_t_now_comes, aI E a_t_now_goes 6 r_t_now_goes, aI E a_t_now_kindOf 6 r_t_now_kindOf]) (st1 := [.int v4]) C mv_X11_198 (k_X1_noDestination E a_t_now a_t_now_lists a_t_now_kindOf a_t_now_goes a_t_now_comes a_t_now_likings c_t_now_houses c_t_now_comers c_t_now_evening x3 v4 hv4) [1] rfl (by decide +kernel) rfl [none, some 0, none, none, none] 5 (by decide +kernel) rfl rfl 0 rfl rfl ⟨by decide, by decide⟩ ⟨rfl, rfl⟩ ⟨Nat.zero_le _, Nat.zero_le _⟩ rfl rfl rfl (Nat.le_of_ble_eq_true rfl) dX11_alter_66 ?_
        refine b_if_eq (pc := 69) 76 C dX11_alter_69 (by decide) h (fun _ h => ?_) (fun _ h => ?_)
        · refine g_aload_n (pc := 76) C dX11_alter_76 0 rfl ?_
          refine g_get (pc := 77) 0 C fl_X11_28 rfl rfl dX11_alter_77 ?_
          refine g_get (pc := 80) 1 C fl_X11_175 rfl rfl dX11_alter_80 ?_
          refine g_iload_n (pc := 83) C dX11_alter_83 1 rfl ?_
          refine g_iload_n (pc := 84) C dX11_alter_84 3 rfl ?_
          obtain ⟨v5, hv5, h⟩ := o_bnd h
          refine g_callS (pc := 85) (ws' := [oX11 a_t a_t_tape a_t_reader a_t_now a_t_seen a_t_trial a_t_advice a_t_odds a_t_guess a_t_images a_t_sheets c_t_tornFault, oX1 a_t_now c_t_now_houses c_t_now_comers c_t_now_evening a_t_now_lists a_t_now_kindOf a_t_now_goes a_t_now_comes a_t_now_likings, aI E a_t_now_comes 6 r_t_now_comes, aI E a_t_now_goes 6 v5.2, aI E a_t_now_kindOf 6 r_t_now_kindOf]) (st1 := [.int v5.1]) C ms_X11_194 (k_X11_exchange E a_t_now_goes r_t_now_goes x1 x3 v5 hv5) [3] rfl (by decide +kernel) rfl [none, none, none, some 0, none] 5 (by decide +kernel) rfl rfl ⟨by decide, by decide⟩ ⟨rfl, rfl⟩ ⟨Nat.zero_le _, Nat.zero_le _⟩ rfl rfl rfl (Nat.le_of_ble_eq_true rfl) dX11_alter_85 ?_
          obtain ⟨v6, hv6, h⟩ := o_bnd h
          refine g_callS (pc := 88) (ws' := [oX11 a_t a_t_tape a_t_reader a_t_now a_t_seen a_t_trial a_t_advice a_t_odds a_t_guess a_t_images a_t_sheets c_t_tornFault, oX1 a_t_now c_t_now_houses c_t_now_comers c_t_now_evening a_t_now_lists a_t_now_kindOf a_t_now_goes a_t_now_comes a_t_now_likings, aI E a_t_now_comes 6 r_t_now_comes, aI E a_t_now_goes 6 v5.2, aI E a_t_now_kindOf 6 r_t_now_kindOf]) (st1 := [.int v6]) C ms_X11_178 (k_X11_houseOrNone E v5.1 v6 hv6) [] rfl (by decide +kernel) rfl [none, none, none, none, none] 5 (by decide +kernel) rfl rfl ⟨by decide, by decide⟩ ⟨rfl, rfl⟩ ⟨Nat.zero_le _, Nat.zero_le _⟩ rfl rfl rfl (Nat.le_of_ble_eq_true rfl) dX11_alter_88 ?_
          obtain rfl := Option.some.inj h
          exact g_iret (pc := 91) C K dX11_alter_91
        · refine g_iconst (pc := 72) (v := (-1)) C dX11_alter_72 (by decide) ?_
          refine g_goto (pc := 73) 91 C dX11_alter_73 (by decide) ?_
          obtain rfl := Option.some.inj h
          exact g_iret (pc := 91) C K dX11_alter_91
      · rcases o_ite h with ⟨c2, h⟩ | ⟨c2, h⟩
        · refine g_tabIn (pc := 11) 92 2 C dX11_alter_11 (by rw [c2]; rfl) (by decide) rfl (by decide) ?_
          refine g_iload_n (pc := 92) C dX11_alter_92 3 rfl ?_
          refine g_bipush (pc := 93) (v := 6) C dX11_alter_93 (by decide) ?_
          obtain ⟨v7, hv7, h⟩ := o_bnd h
          refine g_callS (pc := 95) (ws' := [oX11 a_t a_t_tape a_t_reader a_t_now a_t_seen a_t_trial a_t_advice a_t_odds a_t_guess a_t_images a_t_sheets c_t_tornFault, oX1 a_t_now c_t_now_houses c_t_now_comers c_t_now_evening a_t_now_lists a_t_now_kindOf a_t_now_goes a_t_now_comes a_t_now_likings, aI E a_t_now_comes 6 r_t_now_comes, aI E a_t_now_goes 6 r_t_now_goes, aI E a_t_now_kindOf 6 r_t_now_kindOf]) (st1 := [.int v7]) C ms_X11_91 (k_X11_outside E x3 6 v7 hv7) [] rfl (by decide +kernel) rfl [none, none, none, none, none] 5 (by decide +kernel) rfl rfl ⟨by decide, by decide⟩ ⟨rfl, rfl⟩ ⟨Nat.zero_le _, Nat.zero_le _⟩ rfl rfl rfl (Nat.le_of_ble_eq_true rfl) dX11_alter_95 ?_
          refine b_if_eq (pc := 98) 105 C dX11_alter_98 (by decide) h (fun _ h => ?_) (fun _ h => ?_)
          · refine g_aload_n (pc := 105) C dX11_alter_105 0 rfl ?_
            refine g_get (pc := 106) 0 C fl_X11_28 rfl rfl dX11_alter_106 ?_
            refine g_get (pc := 109) 1 C fl_X11_181 rfl rfl dX11_alter_109 ?_
            refine g_iload_n (pc := 112) C dX11_alter_112 1 rfl ?_
            refine g_iload_n (pc := 113) C dX11_alter_113 3 rfl ?_
            obtain ⟨v8, hv8, h⟩ := o_bnd h
            refine g_callS (pc := 114) (ws' := [oX11 a_t a_t_tape a_t_reader a_t_now a_t_seen a_t_trial a_t_advice a_t_odds a_t_guess a_t_images a_t_sheets c_t_tornFault, oX1 a_t_now c_t_now_houses c_t_now_comers c_t_now_evening a_t_now_lists a_t_now_kindOf a_t_now_goes a_t_now_comes a_t_now_likings, aI E a_t_now_comes 6 v8.2, aI E a_t_now_goes 6 r_t_now_goes, aI E a_t_now_kindOf 6 r_t_now_kindOf]) (st1 := [.int v8.1]) C ms_X11_194 (k_X11_exchange E a_t_now_comes r_t_now_comes x1 x3 v8 hv8) [2] rfl (by decide +kernel) rfl [none, none, some 0, none, none] 5 (by decide +kernel) rfl rfl ⟨by decide, by decide⟩ ⟨rfl, rfl⟩ ⟨Nat.zero_le _, Nat.zero_le _⟩ rfl rfl rfl (Nat.le_of_ble_eq_true rfl) dX11_alter_114 ?_
            obtain rfl := Option.some.inj h
            exact g_iret (pc := 117) C K dX11_alter_117
          · refine g_iconst (pc := 101) (v := (-1)) C dX11_alter_101 (by decide) ?_
            refine g_goto (pc := 102) 117 C dX11_alter_102 (by decide) ?_
            obtain rfl := Option.some.inj h
            exact g_iret (pc := 117) C K dX11_alter_117
        · refine g_tabOut (pc := 11) 118 C dX11_alter_11 (by have := sw_n 0 (by decide) c0; have := sw_n 1 (by decide) c1; have := sw_n 2 (by decide) c2; omega) (by decide) ?_
          refine g_iconst (pc := 118) (v := (-1)) C dX11_alter_118 (by decide) ?_
          obtain rfl := Option.some.inj h
          exact g_iret (pc := 119) C K dX11_alter_119
  · refine g_iconst (pc := 8) (v := (-1)) C dX11_alter_8 (by decide) ?_
    obtain rfl := Option.some.inj h
    exact g_iret (pc := 9) C K dX11_alter_9
theorem dX11_fancy_0 : decode cX11_fancy 0 = .ok (.aload_n 0, 1) := by decide +kernel
theorem dX11_fancy_1 : decode cX11_fancy 1 = .ok (.iload_n 1, 1) := by decide +kernel
theorem dX11_fancy_2 : decode cX11_fancy 2 = .ok (.invokevirtual 146, 3) := by decide +kernel
theorem dX11_fancy_5 : decode cX11_fancy 5 = .ok (.ifCond .ne 20, 3) := by decide +kernel
theorem dX11_fancy_8 : decode cX11_fancy 8 = .ok (.aload_n 0, 1) := by decide +kernel
theorem dX11_fancy_9 : decode cX11_fancy 9 = .ok (.iload_n 2, 1) := by decide +kernel
theorem dX11_fancy_10 : decode cX11_fancy 10 = .ok (.invokevirtual 169, 3) := by decide +kernel
theorem dX11_fancy_13 : decode cX11_fancy 13 = .ok (.ifCond .ne 12, 3) := by decide +kernel
theorem dX11_fancy_16 : decode cX11_fancy 16 = .ok (.iload_n 3, 1) := by decide +kernel
theorem dX11_fancy_17 : decode cX11_fancy 17 = .ok (.bipush 9, 2) := by decide +kernel
theorem dX11_fancy_19 : decode cX11_fancy 19 = .ok (.invokestatic 91, 3) := by decide +kernel
theorem dX11_fancy_22 : decode cX11_fancy 22 = .ok (.ifCond .eq 5, 3) := by decide +kernel
theorem dX11_fancy_25 : decode cX11_fancy 25 = .ok (.iconst (-1), 1) := by decide +kernel
theorem dX11_fancy_26 : decode cX11_fancy 26 = .ok (.ireturn, 1) := by decide +kernel
theorem dX11_fancy_27 : decode cX11_fancy 27 = .ok (.aload_n 0, 1) := by decide +kernel
theorem dX11_fancy_28 : decode cX11_fancy 28 = .ok (.getfield 28, 3) := by decide +kernel
theorem dX11_fancy_31 : decode cX11_fancy 31 = .ok (.iload_n 1, 1) := by decide +kernel
theorem dX11_fancy_32 : decode cX11_fancy 32 = .ok (.iload_n 2, 1) := by decide +kernel
theorem dX11_fancy_33 : decode cX11_fancy 33 = .ok (.invokevirtual 190, 3) := by decide +kernel
theorem dX11_fancy_36 : decode cX11_fancy 36 = .ok (.istore 4, 2) := by decide +kernel
theorem dX11_fancy_38 : decode cX11_fancy 38 = .ok (.aload_n 0, 1) := by decide +kernel
theorem dX11_fancy_39 : decode cX11_fancy 39 = .ok (.getfield 28, 3) := by decide +kernel
theorem dX11_fancy_42 : decode cX11_fancy 42 = .ok (.iload_n 1, 1) := by decide +kernel
theorem dX11_fancy_43 : decode cX11_fancy 43 = .ok (.iload_n 2, 1) := by decide +kernel
theorem dX11_fancy_44 : decode cX11_fancy 44 = .ok (.iload_n 3, 1) := by decide +kernel
theorem dX11_fancy_45 : decode cX11_fancy 45 = .ok (.invokevirtual 201, 3) := by decide +kernel
theorem dX11_fancy_48 : decode cX11_fancy 48 = .ok (.iload 4, 2) := by decide +kernel
theorem dX11_fancy_50 : decode cX11_fancy 50 = .ok (.ireturn, 1) := by decide +kernel
def f_X11_fancy (c_t_now_houses : Int32) (c_t_now_comers : Int32) (r_t_now_likings : (Nat → Int32)) (x1 : Int32) (x2 : Int32) (x3 : Int32) : Option (Int32 × (Nat → Int32)) :=
  (f_X11_noHouse c_t_now_houses x1).bind (fun (v1 : Int32) =>
    if v1 = 0 then
      ((f_X11_noComer c_t_now_comers x2).bind (fun (v2 : Int32) =>
        if v2 = 0 then
          ((f_X11_outside x3 9).bind (fun (v3 : Int32) =>
            if v3 = 0 then
              ((f_X1_liked r_t_now_likings x1 x2).bind (fun (v4 : Int32) =>
                (f_X1_setLiked r_t_now_likings x1 x2 x3).bind (fun (v5 : (Nat → Int32)) =>
                  some ((v4, v5)))))
            else
              (some (((-1), r_t_now_likings)))))
        else
          (some (((-1), r_t_now_likings)))))
    else
      (some (((-1), r_t_now_likings))))
abbrev rm_X11_fancy : Room := { frames := 1, cells := 0, slots := 0, locals := 23 }
set_option maxHeartbeats 4000000 in
set_option maxRecDepth 100000 in
theorem k_X11_fancy (E : Ev) (a_t a_t_now a_t_now_likings a_t_tape a_t_reader a_t_seen a_t_trial a_t_advice a_t_odds a_t_guess a_t_images a_t_sheets a_t_now_lists a_t_now_kindOf a_t_now_goes a_t_now_comes : Nat) (c_t_tornFault : Int32) (c_t_now_houses : Int32) (c_t_now_comers : Int32) (c_t_now_evening : Int32) (r_t_now_likings : (Nat → Int32)) (x1 : Int32) (x2 : Int32) (x3 : Int32) (v : Int32 × (Nat → Int32)) (h : f_X11_fancy c_t_now_houses c_t_now_comers r_t_now_likings x1 x2 x3 = some v) : Mt E yX11_fancy cX11_fancy 5 (some .int) rm_X11_fancy [.ref a_t, .int x1, .int x2, .int x3] [oX11 a_t a_t_tape a_t_reader a_t_now a_t_seen a_t_trial a_t_advice a_t_odds a_t_guess a_t_images a_t_sheets c_t_tornFault, oX1 a_t_now c_t_now_houses c_t_now_comers c_t_now_evening a_t_now_lists a_t_now_kindOf a_t_now_goes a_t_now_comes a_t_now_likings, aI E a_t_now_likings 24 r_t_now_likings] [oX11 a_t a_t_tape a_t_reader a_t_now a_t_seen a_t_trial a_t_advice a_t_odds a_t_guess a_t_images a_t_sheets c_t_tornFault, oX1 a_t_now c_t_now_houses c_t_now_comers c_t_now_evening a_t_now_lists a_t_now_kindOf a_t_now_goes a_t_now_comes a_t_now_likings, aI E a_t_now_likings 24 v.2] (some (.int v.1)) := by
  refine Mt.intro (lv := [(0, .ref a_t), (1, .int x1), (2, .int x2), (3, .int x3)]) (by decide +kernel) (Nat.le_of_ble_eq_true rfl) rfl (fun X C K => ?_)
  have C : CX E X cX11_fancy RX11 5 rm_X11_fancy := C
  rw [f_X11_fancy] at h
  refine g_aload_n (pc := 0) C dX11_fancy_0 0 rfl ?_
  refine g_iload_n (pc := 1) C dX11_fancy_1 1 rfl ?_
  obtain ⟨v1, hv1, h⟩ := o_bnd h
  refine g_callV (pc := 2) (ws' := [oX11 a_t a_t_tape a_t_reader a_t_now a_t_seen a_t_trial a_t_advice a_t_odds a_t_guess a_t_images a_t_sheets c_t_tornFault, oX1 a_t_now c_t_now_houses c_t_now_comers c_t_now_evening a_t_now_lists a_t_now_kindOf a_t_now_goes a_t_now_comes a_t_now_likings, aI E a_t_now_likings 24 r_t_now_likings]) (st1 := [.int v1]) C mv_X11_146 (k_X11_noHouse E a_t a_t_now a_t_tape a_t_reader a_t_seen a_t_trial a_t_advice a_t_odds a_t_guess a_t_images a_t_sheets a_t_now_lists a_t_now_kindOf a_t_now_goes a_t_now_comes a_t_now_likings c_t_tornFault c_t_now_houses c_t_now_comers c_t_now_evening x1 v1 hv1) [0, 1] rfl (by decide +kernel) rfl [some 0, some 1, none] 3 (by decide +kernel) rfl rfl 0 rfl rfl ⟨by decide, by decide⟩ ⟨rfl, rfl⟩ ⟨Nat.zero_le _, Nat.zero_le _⟩ rfl rfl rfl (Nat.le_of_ble_eq_true rfl) dX11_fancy_2 ?_
  refine b_if_ne (pc := 5) 25 C dX11_fancy_5 (by decide) h (fun _ h => ?_) (fun _ h => ?_)
  · refine g_iconst (pc := 25) (v := (-1)) C dX11_fancy_25 (by decide) ?_
    obtain rfl := Option.some.inj h
    exact g_iret (pc := 26) C K dX11_fancy_26
  · refine g_aload_n (pc := 8) C dX11_fancy_8 0 rfl ?_
    refine g_iload_n (pc := 9) C dX11_fancy_9 2 rfl ?_
    obtain ⟨v2, hv2, h⟩ := o_bnd h
    refine g_callV (pc := 10) (ws' := [oX11 a_t a_t_tape a_t_reader a_t_now a_t_seen a_t_trial a_t_advice a_t_odds a_t_guess a_t_images a_t_sheets c_t_tornFault, oX1 a_t_now c_t_now_houses c_t_now_comers c_t_now_evening a_t_now_lists a_t_now_kindOf a_t_now_goes a_t_now_comes a_t_now_likings, aI E a_t_now_likings 24 r_t_now_likings]) (st1 := [.int v2]) C mv_X11_169 (k_X11_noComer E a_t a_t_now a_t_tape a_t_reader a_t_seen a_t_trial a_t_advice a_t_odds a_t_guess a_t_images a_t_sheets a_t_now_lists a_t_now_kindOf a_t_now_goes a_t_now_comes a_t_now_likings c_t_tornFault c_t_now_houses c_t_now_comers c_t_now_evening x2 v2 hv2) [0, 1] rfl (by decide +kernel) rfl [some 0, some 1, none] 3 (by decide +kernel) rfl rfl 0 rfl rfl ⟨by decide, by decide⟩ ⟨rfl, rfl⟩ ⟨Nat.zero_le _, Nat.zero_le _⟩ rfl rfl rfl (Nat.le_of_ble_eq_true rfl) dX11_fancy_10 ?_
    refine b_if_ne (pc := 13) 25 C dX11_fancy_13 (by decide) h (fun _ h => ?_) (fun _ h => ?_)
    · refine g_iconst (pc := 25) (v := (-1)) C dX11_fancy_25 (by decide) ?_
      obtain rfl := Option.some.inj h
      exact g_iret (pc := 26) C K dX11_fancy_26
    · refine g_iload_n (pc := 16) C dX11_fancy_16 3 rfl ?_
      refine g_bipush (pc := 17) (v := 9) C dX11_fancy_17 (by decide) ?_
      obtain ⟨v3, hv3, h⟩ := o_bnd h
      refine g_callS (pc := 19) (ws' := [oX11 a_t a_t_tape a_t_reader a_t_now a_t_seen a_t_trial a_t_advice a_t_odds a_t_guess a_t_images a_t_sheets c_t_tornFault, oX1 a_t_now c_t_now_houses c_t_now_comers c_t_now_evening a_t_now_lists a_t_now_kindOf a_t_now_goes a_t_now_comes a_t_now_likings, aI E a_t_now_likings 24 r_t_now_likings]) (st1 := [.int v3]) C ms_X11_91 (k_X11_outside E x3 9 v3 hv3) [] rfl (by decide +kernel) rfl [none, none, none] 3 (by decide +kernel) rfl rfl ⟨by decide, by decide⟩ ⟨rfl, rfl⟩ ⟨Nat.zero_le _, Nat.zero_le _⟩ rfl rfl rfl (Nat.le_of_ble_eq_true rfl) dX11_fancy_19 ?_
      refine b_if_eq (pc := 22) 27 C dX11_fancy_22 (by decide) h (fun _ h => ?_) (fun _ h => ?_)
      · refine g_aload_n (pc := 27) C dX11_fancy_27 0 rfl ?_
        refine g_get (pc := 28) 0 C fl_X11_28 rfl rfl dX11_fancy_28 ?_
        refine g_iload_n (pc := 31) C dX11_fancy_31 1 rfl ?_
        refine g_iload_n (pc := 32) C dX11_fancy_32 2 rfl ?_
        obtain ⟨v4, hv4, h⟩ := o_bnd h
        refine g_callV (pc := 33) (ws' := [oX11 a_t a_t_tape a_t_reader a_t_now a_t_seen a_t_trial a_t_advice a_t_odds a_t_guess a_t_images a_t_sheets c_t_tornFault, oX1 a_t_now c_t_now_houses c_t_now_comers c_t_now_evening a_t_now_lists a_t_now_kindOf a_t_now_goes a_t_now_comes a_t_now_likings, aI E a_t_now_likings 24 r_t_now_likings]) (st1 := [.int v4]) C mv_X11_190 (k_X1_liked E a_t_now a_t_now_likings a_t_now_lists a_t_now_kindOf a_t_now_goes a_t_now_comes c_t_now_houses c_t_now_comers c_t_now_evening r_t_now_likings x1 x2 v4 hv4) [1, 2] rfl (by decide +kernel) rfl [none, some 0, some 1] 3 (by decide +kernel) rfl rfl 0 rfl rfl ⟨by decide, by decide⟩ ⟨rfl, rfl⟩ ⟨Nat.zero_le _, Nat.zero_le _⟩ rfl rfl rfl (Nat.le_of_ble_eq_true rfl) dX11_fancy_33 ?_
        refine g_istore (pc := 36) (lv' := [(4, .int v4), (0, .ref a_t), (1, .int x1), (2, .int x2), (3, .int x3)]) C dX11_fancy_36 (by decide) rfl ?_
        refine g_aload_n (pc := 38) C dX11_fancy_38 1 rfl ?_
        refine g_get (pc := 39) 0 C fl_X11_28 rfl rfl dX11_fancy_39 ?_
        refine g_iload_n (pc := 42) C dX11_fancy_42 2 rfl ?_
        refine g_iload_n (pc := 43) C dX11_fancy_43 3 rfl ?_
        refine g_iload_n (pc := 44) C dX11_fancy_44 4 rfl ?_
        obtain ⟨v5, hv5, h⟩ := o_bnd h
        refine g_callV (pc := 45) (ws' := [oX11 a_t a_t_tape a_t_reader a_t_now a_t_seen a_t_trial a_t_advice a_t_odds a_t_guess a_t_images a_t_sheets c_t_tornFault, oX1 a_t_now c_t_now_houses c_t_now_comers c_t_now_evening a_t_now_lists a_t_now_kindOf a_t_now_goes a_t_now_comes a_t_now_likings, aI E a_t_now_likings 24 v5]) (st1 := []) C mv_X11_201 (k_X1_setLiked E a_t_now a_t_now_likings a_t_now_lists a_t_now_kindOf a_t_now_goes a_t_now_comes c_t_now_houses c_t_now_comers c_t_now_evening r_t_now_likings x1 x2 x3 v5 hv5) [1, 2] rfl (by decide +kernel) rfl [none, some 0, some 1] 3 (by decide +kernel) rfl rfl 0 rfl rfl ⟨by decide, by decide⟩ ⟨rfl, rfl⟩ ⟨Nat.zero_le _, Nat.zero_le _⟩ rfl rfl rfl (Nat.le_of_ble_eq_true rfl) dX11_fancy_45 ?_
        refine g_iload (pc := 48) C dX11_fancy_48 0 rfl ?_
        obtain rfl := Option.some.inj h
        exact g_iret (pc := 50) C K dX11_fancy_50
      · refine g_iconst (pc := 25) (v := (-1)) C dX11_fancy_25 (by decide) ?_
        obtain rfl := Option.some.inj h
        exact g_iret (pc := 26) C K dX11_fancy_26
theorem dX11_invite_0 : decode cX11_invite 0 = .ok (.aload_n 0, 1) := by decide +kernel
theorem dX11_invite_1 : decode cX11_invite 1 = .ok (.iload_n 1, 1) := by decide +kernel
theorem dX11_invite_2 : decode cX11_invite 2 = .ok (.invokevirtual 146, 3) := by decide +kernel
theorem dX11_invite_5 : decode cX11_invite 5 = .ok (.ifCond .ne 11, 3) := by decide +kernel
theorem dX11_invite_8 : decode cX11_invite 8 = .ok (.aload_n 0, 1) := by decide +kernel
theorem dX11_invite_9 : decode cX11_invite 9 = .ok (.iload_n 2, 1) := by decide +kernel
theorem dX11_invite_10 : decode cX11_invite 10 = .ok (.invokevirtual 169, 3) := by decide +kernel
theorem dX11_invite_13 : decode cX11_invite 13 = .ok (.ifCond .eq 5, 3) := by decide +kernel
theorem dX11_invite_16 : decode cX11_invite 16 = .ok (.iconst (-1), 1) := by decide +kernel
theorem dX11_invite_17 : decode cX11_invite 17 = .ok (.ireturn, 1) := by decide +kernel
theorem dX11_invite_18 : decode cX11_invite 18 = .ok (.aload_n 0, 1) := by decide +kernel
theorem dX11_invite_19 : decode cX11_invite 19 = .ok (.getfield 28, 3) := by decide +kernel
theorem dX11_invite_22 : decode cX11_invite 22 = .ok (.iload_n 1, 1) := by decide +kernel
theorem dX11_invite_23 : decode cX11_invite 23 = .ok (.iload_n 2, 1) := by decide +kernel
theorem dX11_invite_24 : decode cX11_invite 24 = .ok (.invokevirtual 205, 3) := by decide +kernel
theorem dX11_invite_27 : decode cX11_invite 27 = .ok (.ifCond .eq 7, 3) := by decide +kernel
theorem dX11_invite_30 : decode cX11_invite 30 = .ok (.iconst 1, 1) := by decide +kernel
theorem dX11_invite_31 : decode cX11_invite 31 = .ok (.goto 4, 3) := by decide +kernel
theorem dX11_invite_34 : decode cX11_invite 34 = .ok (.iconst 0, 1) := by decide +kernel
theorem dX11_invite_35 : decode cX11_invite 35 = .ok (.istore 4, 2) := by decide +kernel
theorem dX11_invite_37 : decode cX11_invite 37 = .ok (.aload_n 0, 1) := by decide +kernel
theorem dX11_invite_38 : decode cX11_invite 38 = .ok (.getfield 28, 3) := by decide +kernel
theorem dX11_invite_41 : decode cX11_invite 41 = .ok (.iload_n 1, 1) := by decide +kernel
theorem dX11_invite_42 : decode cX11_invite 42 = .ok (.iload_n 2, 1) := by decide +kernel
theorem dX11_invite_43 : decode cX11_invite 43 = .ok (.iload_n 3, 1) := by decide +kernel
theorem dX11_invite_44 : decode cX11_invite 44 = .ok (.invokevirtual 208, 3) := by decide +kernel
theorem dX11_invite_47 : decode cX11_invite 47 = .ok (.iload 4, 2) := by decide +kernel
theorem dX11_invite_49 : decode cX11_invite 49 = .ok (.ireturn, 1) := by decide +kernel
def f_X11_invite (c_t_now_houses : Int32) (c_t_now_comers : Int32) (r_t_now_lists : (Nat → Int32)) (x1 : Int32) (x2 : Int32) (x3 : Int32) : Option (Int32 × (Nat → Int32)) :=
  (f_X11_noHouse c_t_now_houses x1).bind (fun (v1 : Int32) =>
    if v1 = 0 then
      ((f_X11_noComer c_t_now_comers x2).bind (fun (v2 : Int32) =>
        if v2 = 0 then
          ((f_X1_onList r_t_now_lists x1 x2).bind (fun (v3 : Int32) =>
            (if v3 = 0 then
              (some 0)
            else
              (some 1)).bind (fun (v4 : Int32) =>
              (f_X1_setOnList r_t_now_lists x1 x2 x3).bind (fun (v5 : (Nat → Int32)) =>
                some ((v4, v5))))))
        else
          (some (((-1), r_t_now_lists)))))
    else
      (some (((-1), r_t_now_lists))))
abbrev rm_X11_invite : Room := { frames := 1, cells := 0, slots := 0, locals := 23 }
set_option maxHeartbeats 4000000 in
set_option maxRecDepth 100000 in
theorem k_X11_invite (E : Ev) (a_t a_t_now a_t_now_lists a_t_tape a_t_reader a_t_seen a_t_trial a_t_advice a_t_odds a_t_guess a_t_images a_t_sheets a_t_now_kindOf a_t_now_goes a_t_now_comes a_t_now_likings : Nat) (c_t_tornFault : Int32) (c_t_now_houses : Int32) (c_t_now_comers : Int32) (c_t_now_evening : Int32) (r_t_now_lists : (Nat → Int32)) (x1 : Int32) (x2 : Int32) (x3 : Int32) (v : Int32 × (Nat → Int32)) (h : f_X11_invite c_t_now_houses c_t_now_comers r_t_now_lists x1 x2 x3 = some v) : Mt E yX11_invite cX11_invite 5 (some .int) rm_X11_invite [.ref a_t, .int x1, .int x2, .int x3] [oX11 a_t a_t_tape a_t_reader a_t_now a_t_seen a_t_trial a_t_advice a_t_odds a_t_guess a_t_images a_t_sheets c_t_tornFault, oX1 a_t_now c_t_now_houses c_t_now_comers c_t_now_evening a_t_now_lists a_t_now_kindOf a_t_now_goes a_t_now_comes a_t_now_likings, aI E a_t_now_lists 4 r_t_now_lists] [oX11 a_t a_t_tape a_t_reader a_t_now a_t_seen a_t_trial a_t_advice a_t_odds a_t_guess a_t_images a_t_sheets c_t_tornFault, oX1 a_t_now c_t_now_houses c_t_now_comers c_t_now_evening a_t_now_lists a_t_now_kindOf a_t_now_goes a_t_now_comes a_t_now_likings, aI E a_t_now_lists 4 v.2] (some (.int v.1)) := by
  refine Mt.intro (lv := [(0, .ref a_t), (1, .int x1), (2, .int x2), (3, .int x3)]) (by decide +kernel) (Nat.le_of_ble_eq_true rfl) rfl (fun X C K => ?_)
  have C : CX E X cX11_invite RX11 5 rm_X11_invite := C
  rw [f_X11_invite] at h
  refine g_aload_n (pc := 0) C dX11_invite_0 0 rfl ?_
  refine g_iload_n (pc := 1) C dX11_invite_1 1 rfl ?_
  obtain ⟨v1, hv1, h⟩ := o_bnd h
  refine g_callV (pc := 2) (ws' := [oX11 a_t a_t_tape a_t_reader a_t_now a_t_seen a_t_trial a_t_advice a_t_odds a_t_guess a_t_images a_t_sheets c_t_tornFault, oX1 a_t_now c_t_now_houses c_t_now_comers c_t_now_evening a_t_now_lists a_t_now_kindOf a_t_now_goes a_t_now_comes a_t_now_likings, aI E a_t_now_lists 4 r_t_now_lists]) (st1 := [.int v1]) C mv_X11_146 (k_X11_noHouse E a_t a_t_now a_t_tape a_t_reader a_t_seen a_t_trial a_t_advice a_t_odds a_t_guess a_t_images a_t_sheets a_t_now_lists a_t_now_kindOf a_t_now_goes a_t_now_comes a_t_now_likings c_t_tornFault c_t_now_houses c_t_now_comers c_t_now_evening x1 v1 hv1) [0, 1] rfl (by decide +kernel) rfl [some 0, some 1, none] 3 (by decide +kernel) rfl rfl 0 rfl rfl ⟨by decide, by decide⟩ ⟨rfl, rfl⟩ ⟨Nat.zero_le _, Nat.zero_le _⟩ rfl rfl rfl (Nat.le_of_ble_eq_true rfl) dX11_invite_2 ?_
  refine b_if_ne (pc := 5) 16 C dX11_invite_5 (by decide) h (fun _ h => ?_) (fun _ h => ?_)
  · refine g_iconst (pc := 16) (v := (-1)) C dX11_invite_16 (by decide) ?_
    obtain rfl := Option.some.inj h
    exact g_iret (pc := 17) C K dX11_invite_17
  · refine g_aload_n (pc := 8) C dX11_invite_8 0 rfl ?_
    refine g_iload_n (pc := 9) C dX11_invite_9 2 rfl ?_
    obtain ⟨v2, hv2, h⟩ := o_bnd h
    refine g_callV (pc := 10) (ws' := [oX11 a_t a_t_tape a_t_reader a_t_now a_t_seen a_t_trial a_t_advice a_t_odds a_t_guess a_t_images a_t_sheets c_t_tornFault, oX1 a_t_now c_t_now_houses c_t_now_comers c_t_now_evening a_t_now_lists a_t_now_kindOf a_t_now_goes a_t_now_comes a_t_now_likings, aI E a_t_now_lists 4 r_t_now_lists]) (st1 := [.int v2]) C mv_X11_169 (k_X11_noComer E a_t a_t_now a_t_tape a_t_reader a_t_seen a_t_trial a_t_advice a_t_odds a_t_guess a_t_images a_t_sheets a_t_now_lists a_t_now_kindOf a_t_now_goes a_t_now_comes a_t_now_likings c_t_tornFault c_t_now_houses c_t_now_comers c_t_now_evening x2 v2 hv2) [0, 1] rfl (by decide +kernel) rfl [some 0, some 1, none] 3 (by decide +kernel) rfl rfl 0 rfl rfl ⟨by decide, by decide⟩ ⟨rfl, rfl⟩ ⟨Nat.zero_le _, Nat.zero_le _⟩ rfl rfl rfl (Nat.le_of_ble_eq_true rfl) dX11_invite_10 ?_
    refine b_if_eq (pc := 13) 18 C dX11_invite_13 (by decide) h (fun _ h => ?_) (fun _ h => ?_)
    · refine g_aload_n (pc := 18) C dX11_invite_18 0 rfl ?_
      refine g_get (pc := 19) 0 C fl_X11_28 rfl rfl dX11_invite_19 ?_
      refine g_iload_n (pc := 22) C dX11_invite_22 1 rfl ?_
      refine g_iload_n (pc := 23) C dX11_invite_23 2 rfl ?_
      obtain ⟨v3, hv3, h⟩ := o_bnd h
      refine g_callV (pc := 24) (ws' := [oX11 a_t a_t_tape a_t_reader a_t_now a_t_seen a_t_trial a_t_advice a_t_odds a_t_guess a_t_images a_t_sheets c_t_tornFault, oX1 a_t_now c_t_now_houses c_t_now_comers c_t_now_evening a_t_now_lists a_t_now_kindOf a_t_now_goes a_t_now_comes a_t_now_likings, aI E a_t_now_lists 4 r_t_now_lists]) (st1 := [.int v3]) C mv_X11_205 (k_X1_onList E a_t_now a_t_now_lists a_t_now_kindOf a_t_now_goes a_t_now_comes a_t_now_likings c_t_now_houses c_t_now_comers c_t_now_evening r_t_now_lists x1 x2 v3 hv3) [1, 2] rfl (by decide +kernel) rfl [none, some 0, some 1] 3 (by decide +kernel) rfl rfl 0 rfl rfl ⟨by decide, by decide⟩ ⟨rfl, rfl⟩ ⟨Nat.zero_le _, Nat.zero_le _⟩ rfl rfl rfl (Nat.le_of_ble_eq_true rfl) dX11_invite_24 ?_
      obtain ⟨v4, hv4, h⟩ := o_bnd h
      have Kv4 : G E X 0 0 [oX11 a_t a_t_tape a_t_reader a_t_now a_t_seen a_t_trial a_t_advice a_t_odds a_t_guess a_t_images a_t_sheets c_t_tornFault, oX1 a_t_now c_t_now_houses c_t_now_comers c_t_now_evening a_t_now_lists a_t_now_kindOf a_t_now_goes a_t_now_comes a_t_now_likings, aI E a_t_now_lists 4 r_t_now_lists] [(0, .ref a_t), (1, .int x1), (2, .int x2), (3, .int x3)] 35 [.int v4] := by
        refine g_istore (pc := 35) (lv' := [(4, .int v4), (0, .ref a_t), (1, .int x1), (2, .int x2), (3, .int x3)]) C dX11_invite_35 (by decide) rfl ?_
        refine g_aload_n (pc := 37) C dX11_invite_37 1 rfl ?_
        refine g_get (pc := 38) 0 C fl_X11_28 rfl rfl dX11_invite_38 ?_
        refine g_iload_n (pc := 41) C dX11_invite_41 2 rfl ?_
        refine g_iload_n (pc := 42) C dX11_invite_42 3 rfl ?_
        refine g_iload_n (pc := 43) C dX11_invite_43 4 rfl ?_
        obtain ⟨v5, hv5, h⟩ := o_bnd h
        refine g_callV (pc := 44) (ws' := [oX11 a_t a_t_tape a_t_reader a_t_now a_t_seen a_t_trial a_t_advice a_t_odds a_t_guess a_t_images a_t_sheets c_t_tornFault, oX1 a_t_now c_t_now_houses c_t_now_comers c_t_now_evening a_t_now_lists a_t_now_kindOf a_t_now_goes a_t_now_comes a_t_now_likings, aI E a_t_now_lists 4 v5]) (st1 := []) C mv_X11_208 (k_X1_setOnList E a_t_now a_t_now_lists a_t_now_kindOf a_t_now_goes a_t_now_comes a_t_now_likings c_t_now_houses c_t_now_comers c_t_now_evening r_t_now_lists x1 x2 x3 v5 hv5) [1, 2] rfl (by decide +kernel) rfl [none, some 0, some 1] 3 (by decide +kernel) rfl rfl 0 rfl rfl ⟨by decide, by decide⟩ ⟨rfl, rfl⟩ ⟨Nat.zero_le _, Nat.zero_le _⟩ rfl rfl rfl (Nat.le_of_ble_eq_true rfl) dX11_invite_44 ?_
        refine g_iload (pc := 47) C dX11_invite_47 0 rfl ?_
        obtain rfl := Option.some.inj h
        exact g_iret (pc := 49) C K dX11_invite_49
      clear h
      have h := hv4
      clear hv4
      refine b_if_eq (pc := 27) 34 C dX11_invite_27 (by decide) h (fun _ h => ?_) (fun _ h => ?_)
      · refine g_iconst (pc := 34) (v := 0) C dX11_invite_34 (by decide) ?_
        obtain rfl := Option.some.inj h
        refine g_lv [0, 1, 2, 3] (lv' := [(0, .ref a_t), (1, .int x1), (2, .int x2), (3, .int x3)]) rfl ?_
        exact Kv4
      · refine g_iconst (pc := 30) (v := 1) C dX11_invite_30 (by decide) ?_
        refine g_goto (pc := 31) 35 C dX11_invite_31 (by decide) ?_
        obtain rfl := Option.some.inj h
        refine g_lv [0, 1, 2, 3] (lv' := [(0, .ref a_t), (1, .int x1), (2, .int x2), (3, .int x3)]) rfl ?_
        exact Kv4
    · refine g_iconst (pc := 16) (v := (-1)) C dX11_invite_16 (by decide) ?_
      obtain rfl := Option.some.inj h
      exact g_iret (pc := 17) C K dX11_invite_17
theorem dX11_evenings_0 : decode cX11_evenings 0 = .ok (.iload_n 1, 1) := by decide +kernel
theorem dX11_evenings_1 : decode cX11_evenings 1 = .ok (.bipush 30, 2) := by decide +kernel
theorem dX11_evenings_3 : decode cX11_evenings 3 = .ok (.invokestatic 91, 3) := by decide +kernel
theorem dX11_evenings_6 : decode cX11_evenings 6 = .ok (.ifCond .eq 5, 3) := by decide +kernel
theorem dX11_evenings_9 : decode cX11_evenings 9 = .ok (.iconst (-1), 1) := by decide +kernel
theorem dX11_evenings_10 : decode cX11_evenings 10 = .ok (.ireturn, 1) := by decide +kernel
theorem dX11_evenings_11 : decode cX11_evenings 11 = .ok (.aload_n 0, 1) := by decide +kernel
theorem dX11_evenings_12 : decode cX11_evenings 12 = .ok (.getfield 28, 3) := by decide +kernel
theorem dX11_evenings_15 : decode cX11_evenings 15 = .ok (.getfield 128, 3) := by decide +kernel
theorem dX11_evenings_18 : decode cX11_evenings 18 = .ok (.iload_n 1, 1) := by decide +kernel
theorem dX11_evenings_19 : decode cX11_evenings 19 = .ok (.iadd, 1) := by decide +kernel
theorem dX11_evenings_20 : decode cX11_evenings 20 = .ok (.sipush 1000, 3) := by decide +kernel
theorem dX11_evenings_23 : decode cX11_evenings 23 = .ok (.if_icmp .lt 6, 3) := by decide +kernel
theorem dX11_evenings_26 : decode cX11_evenings 26 = .ok (.bipush (-3), 2) := by decide +kernel
theorem dX11_evenings_28 : decode cX11_evenings 28 = .ok (.ireturn, 1) := by decide +kernel
theorem dX11_evenings_29 : decode cX11_evenings 29 = .ok (.aload_n 0, 1) := by decide +kernel
theorem dX11_evenings_30 : decode cX11_evenings 30 = .ok (.getfield 44, 3) := by decide +kernel
theorem dX11_evenings_33 : decode cX11_evenings 33 = .ok (.invokevirtual 212, 3) := by decide +kernel
theorem dX11_evenings_36 : decode cX11_evenings 36 = .ok (.pop, 1) := by decide +kernel
theorem dX11_evenings_37 : decode cX11_evenings 37 = .ok (.aload_n 0, 1) := by decide +kernel
theorem dX11_evenings_38 : decode cX11_evenings 38 = .ok (.getfield 44, 3) := by decide +kernel
theorem dX11_evenings_41 : decode cX11_evenings 41 = .ok (.iload_n 1, 1) := by decide +kernel
theorem dX11_evenings_42 : decode cX11_evenings 42 = .ok (.invokevirtual 216, 3) := by decide +kernel
theorem dX11_evenings_45 : decode cX11_evenings 45 = .ok (.istore_n 2, 1) := by decide +kernel
theorem dX11_evenings_46 : decode cX11_evenings 46 = .ok (.aload_n 0, 1) := by decide +kernel
theorem dX11_evenings_47 : decode cX11_evenings 47 = .ok (.getfield 28, 3) := by decide +kernel
theorem dX11_evenings_50 : decode cX11_evenings 50 = .ok (.aload_n 0, 1) := by decide +kernel
theorem dX11_evenings_51 : decode cX11_evenings 51 = .ok (.getfield 44, 3) := by decide +kernel
theorem dX11_evenings_54 : decode cX11_evenings 54 = .ok (.getfield 219, 3) := by decide +kernel
theorem dX11_evenings_57 : decode cX11_evenings 57 = .ok (.invokevirtual 109, 3) := by decide +kernel
theorem dX11_evenings_60 : decode cX11_evenings 60 = .ok (.iload_n 2, 1) := by decide +kernel
theorem dX11_evenings_61 : decode cX11_evenings 61 = .ok (.ireturn, 1) := by decide +kernel
def f_X11_evenings (c_t_now_houses : Int32) (c_t_now_comers : Int32) (c_t_now_evening : Int32) (r_t_now_comes : (Nat → Int32)) (r_t_now_goes : (Nat → Int32)) (r_t_now_kindOf : (Nat → Int32)) (r_t_now_likings : (Nat → Int32)) (r_t_now_lists : (Nat → Int32)) (c_t_trial_evenings : Int32) (c_t_trial_waited : Int32) (c_t_trial_firstFast : Int32) (c_t_trial_county_houses : Int32) (c_t_trial_county_comers : Int32) (c_t_trial_county_evening : Int32) (r_t_trial_county_comes : (Nat → Int32)) (r_t_trial_county_goes : (Nat → Int32)) (r_t_trial_county_kindOf : (Nat → Int32)) (r_t_trial_county_likings : (Nat → Int32)) (r_t_trial_county_lists : (Nat → Int32)) (c_t_trial_evening_begun : Int32) (c_t_trial_evening_waited : Int32) (r_t_trial_evening_hours : (Nat → Int32)) (r_t_trial_evening_openers : (Nat → Int32)) (x1 : Int32) : Option (Int32 × Int32 × Int32 × Int32 × (Nat → Int32) × (Nat → Int32) × (Nat → Int32) × (Nat → Int32) × (Nat → Int32) × Int32 × Int32 × Int32 × Int32 × Int32 × Int32 × (Nat → Int32) × (Nat → Int32) × (Nat → Int32) × (Nat → Int32) × (Nat → Int32) × Int32 × Int32 × (Nat → Int32) × (Nat → Int32)) :=
  (f_X11_outside x1 30).bind (fun (v1 : Int32) =>
    if v1 = 0 then
      (if (c_t_now_evening + x1) < 1000 then
        ((f_X10_restart c_t_trial_evenings c_t_trial_waited c_t_trial_firstFast c_t_trial_county_houses c_t_trial_county_comers c_t_trial_county_evening r_t_trial_county_comes r_t_trial_county_goes r_t_trial_county_kindOf r_t_trial_county_likings r_t_trial_county_lists c_t_now_houses c_t_now_comers c_t_now_evening r_t_now_comes r_t_now_goes r_t_now_kindOf r_t_now_likings r_t_now_lists).bind (fun (v2 : Int32 × Int32 × Int32 × Int32 × Int32 × Int32 × (Nat → Int32) × (Nat → Int32) × (Nat → Int32) × (Nat → Int32) × (Nat → Int32)) =>
          (f_X10_dinnersIn v2.1 v2.2.1 v2.2.2.1 v2.2.2.2.1 v2.2.2.2.2.1 v2.2.2.2.2.2.1 v2.2.2.2.2.2.2.1 v2.2.2.2.2.2.2.2.1 v2.2.2.2.2.2.2.2.2.1 v2.2.2.2.2.2.2.2.2.2.1 v2.2.2.2.2.2.2.2.2.2.2 c_t_trial_evening_begun c_t_trial_evening_waited r_t_trial_evening_hours r_t_trial_evening_openers x1).bind (fun (v3 : Int32 × Int32 × Int32 × Int32 × Int32 × (Nat → Int32) × Int32 × Int32 × (Nat → Int32) × (Nat → Int32)) =>
            (f_X1_copyFrom c_t_now_houses c_t_now_comers c_t_now_evening r_t_now_comes r_t_now_goes r_t_now_kindOf r_t_now_likings r_t_now_lists v2.2.2.2.1 v2.2.2.2.2.1 v3.2.2.2.2.1 v2.2.2.2.2.2.2.1 v2.2.2.2.2.2.2.2.1 v2.2.2.2.2.2.2.2.2.1 v3.2.2.2.2.2.1 v2.2.2.2.2.2.2.2.2.2.2).bind (fun (v4 : Int32 × Int32 × Int32 × (Nat → Int32) × (Nat → Int32) × (Nat → Int32) × (Nat → Int32) × (Nat → Int32)) =>
              some ((v3.1, v4.1, v4.2.1, v4.2.2.1, v4.2.2.2.1, v4.2.2.2.2.1, v4.2.2.2.2.2.1, v4.2.2.2.2.2.2.1, v4.2.2.2.2.2.2.2, v3.2.1, v3.2.2.1, v3.2.2.2.1, v2.2.2.2.1, v2.2.2.2.2.1, v3.2.2.2.2.1, v2.2.2.2.2.2.2.1, v2.2.2.2.2.2.2.2.1, v2.2.2.2.2.2.2.2.2.1, v3.2.2.2.2.2.1, v2.2.2.2.2.2.2.2.2.2.2, v3.2.2.2.2.2.2.1, v3.2.2.2.2.2.2.2.1, v3.2.2.2.2.2.2.2.2.1, v3.2.2.2.2.2.2.2.2.2))))))
      else
        (some (((-3), c_t_now_houses, c_t_now_comers, c_t_now_evening, r_t_now_comes, r_t_now_goes, r_t_now_kindOf, r_t_now_likings, r_t_now_lists, c_t_trial_evenings, c_t_trial_waited, c_t_trial_firstFast, c_t_trial_county_houses, c_t_trial_county_comers, c_t_trial_county_evening, r_t_trial_county_comes, r_t_trial_county_goes, r_t_trial_county_kindOf, r_t_trial_county_likings, r_t_trial_county_lists, c_t_trial_evening_begun, c_t_trial_evening_waited, r_t_trial_evening_hours, r_t_trial_evening_openers))))
    else
      (some (((-1), c_t_now_houses, c_t_now_comers, c_t_now_evening, r_t_now_comes, r_t_now_goes, r_t_now_kindOf, r_t_now_likings, r_t_now_lists, c_t_trial_evenings, c_t_trial_waited, c_t_trial_firstFast, c_t_trial_county_houses, c_t_trial_county_comers, c_t_trial_county_evening, r_t_trial_county_comes, r_t_trial_county_goes, r_t_trial_county_kindOf, r_t_trial_county_likings, r_t_trial_county_lists, c_t_trial_evening_begun, c_t_trial_evening_waited, r_t_trial_evening_hours, r_t_trial_evening_openers))))
abbrev rm_X11_evenings : Room := { frames := 5, cells := 0, slots := 0, locals := 122 }
set_option maxHeartbeats 4000000 in
set_option maxRecDepth 100000 in
theorem k_X11_evenings (E : Ev) (a_t a_t_now a_t_now_comes a_t_now_goes a_t_now_kindOf a_t_now_likings a_t_now_lists a_t_trial a_t_trial_county a_t_trial_county_comes a_t_trial_county_goes a_t_trial_county_kindOf a_t_trial_county_likings a_t_trial_county_lists a_t_trial_evening a_t_trial_evening_hours a_t_trial_evening_openers a_t_tape a_t_reader a_t_seen a_t_advice a_t_odds a_t_guess a_t_images a_t_sheets : Nat) (c_t_tornFault : Int32) (c_t_now_houses : Int32) (c_t_now_comers : Int32) (c_t_now_evening : Int32) (r_t_now_comes : (Nat → Int32)) (r_t_now_goes : (Nat → Int32)) (r_t_now_kindOf : (Nat → Int32)) (r_t_now_likings : (Nat → Int32)) (r_t_now_lists : (Nat → Int32)) (c_t_trial_evenings : Int32) (c_t_trial_waited : Int32) (c_t_trial_firstFast : Int32) (c_t_trial_county_houses : Int32) (c_t_trial_county_comers : Int32) (c_t_trial_county_evening : Int32) (r_t_trial_county_comes : (Nat → Int32)) (r_t_trial_county_goes : (Nat → Int32)) (r_t_trial_county_kindOf : (Nat → Int32)) (r_t_trial_county_likings : (Nat → Int32)) (r_t_trial_county_lists : (Nat → Int32)) (c_t_trial_evening_begun : Int32) (c_t_trial_evening_waited : Int32) (r_t_trial_evening_hours : (Nat → Int32)) (r_t_trial_evening_openers : (Nat → Int32)) (x1 : Int32) (v : Int32 × Int32 × Int32 × Int32 × (Nat → Int32) × (Nat → Int32) × (Nat → Int32) × (Nat → Int32) × (Nat → Int32) × Int32 × Int32 × Int32 × Int32 × Int32 × Int32 × (Nat → Int32) × (Nat → Int32) × (Nat → Int32) × (Nat → Int32) × (Nat → Int32) × Int32 × Int32 × (Nat → Int32) × (Nat → Int32)) (h : f_X11_evenings c_t_now_houses c_t_now_comers c_t_now_evening r_t_now_comes r_t_now_goes r_t_now_kindOf r_t_now_likings r_t_now_lists c_t_trial_evenings c_t_trial_waited c_t_trial_firstFast c_t_trial_county_houses c_t_trial_county_comers c_t_trial_county_evening r_t_trial_county_comes r_t_trial_county_goes r_t_trial_county_kindOf r_t_trial_county_likings r_t_trial_county_lists c_t_trial_evening_begun c_t_trial_evening_waited r_t_trial_evening_hours r_t_trial_evening_openers x1 = some v) : Mt E yX11_evenings cX11_evenings 3 (some .int) rm_X11_evenings [.ref a_t, .int x1] [oX11 a_t a_t_tape a_t_reader a_t_now a_t_seen a_t_trial a_t_advice a_t_odds a_t_guess a_t_images a_t_sheets c_t_tornFault, oX1 a_t_now c_t_now_houses c_t_now_comers c_t_now_evening a_t_now_lists a_t_now_kindOf a_t_now_goes a_t_now_comes a_t_now_likings, aI E a_t_now_comes 6 r_t_now_comes, aI E a_t_now_goes 6 r_t_now_goes, aI E a_t_now_kindOf 6 r_t_now_kindOf, aI E a_t_now_likings 24 r_t_now_likings, aI E a_t_now_lists 4 r_t_now_lists, oX10 a_t_trial a_t_now a_t_trial_county a_t_trial_evening c_t_trial_evenings c_t_trial_waited c_t_trial_firstFast, oX1 a_t_trial_county c_t_trial_county_houses c_t_trial_county_comers c_t_trial_county_evening a_t_trial_county_lists a_t_trial_county_kindOf a_t_trial_county_goes a_t_trial_county_comes a_t_trial_county_likings, aI E a_t_trial_county_comes 6 r_t_trial_county_comes, aI E a_t_trial_county_goes 6 r_t_trial_county_goes, aI E a_t_trial_county_kindOf 6 r_t_trial_county_kindOf, aI E a_t_trial_county_likings 24 r_t_trial_county_likings, aI E a_t_trial_county_lists 4 r_t_trial_county_lists, oX2 a_t_trial_evening a_t_trial_evening_hours a_t_trial_evening_openers c_t_trial_evening_begun c_t_trial_evening_waited, aI E a_t_trial_evening_hours 4 r_t_trial_evening_hours, aI E a_t_trial_evening_openers 4 r_t_trial_evening_openers] [oX11 a_t a_t_tape a_t_reader a_t_now a_t_seen a_t_trial a_t_advice a_t_odds a_t_guess a_t_images a_t_sheets c_t_tornFault, oX1 a_t_now v.2.1 v.2.2.1 v.2.2.2.1 a_t_now_lists a_t_now_kindOf a_t_now_goes a_t_now_comes a_t_now_likings, aI E a_t_now_comes 6 v.2.2.2.2.1, aI E a_t_now_goes 6 v.2.2.2.2.2.1, aI E a_t_now_kindOf 6 v.2.2.2.2.2.2.1, aI E a_t_now_likings 24 v.2.2.2.2.2.2.2.1, aI E a_t_now_lists 4 v.2.2.2.2.2.2.2.2.1, oX10 a_t_trial a_t_now a_t_trial_county a_t_trial_evening v.2.2.2.2.2.2.2.2.2.1 v.2.2.2.2.2.2.2.2.2.2.1 v.2.2.2.2.2.2.2.2.2.2.2.1, oX1 a_t_trial_county v.2.2.2.2.2.2.2.2.2.2.2.2.1 v.2.2.2.2.2.2.2.2.2.2.2.2.2.1 v.2.2.2.2.2.2.2.2.2.2.2.2.2.2.1 a_t_trial_county_lists a_t_trial_county_kindOf a_t_trial_county_goes a_t_trial_county_comes a_t_trial_county_likings, aI E a_t_trial_county_comes 6 v.2.2.2.2.2.2.2.2.2.2.2.2.2.2.2.1, aI E a_t_trial_county_goes 6 v.2.2.2.2.2.2.2.2.2.2.2.2.2.2.2.2.1, aI E a_t_trial_county_kindOf 6 v.2.2.2.2.2.2.2.2.2.2.2.2.2.2.2.2.2.1, aI E a_t_trial_county_likings 24 v.2.2.2.2.2.2.2.2.2.2.2.2.2.2.2.2.2.2.1, aI E a_t_trial_county_lists 4 v.2.2.2.2.2.2.2.2.2.2.2.2.2.2.2.2.2.2.2.1, oX2 a_t_trial_evening a_t_trial_evening_hours a_t_trial_evening_openers v.2.2.2.2.2.2.2.2.2.2.2.2.2.2.2.2.2.2.2.2.1 v.2.2.2.2.2.2.2.2.2.2.2.2.2.2.2.2.2.2.2.2.2.1, aI E a_t_trial_evening_hours 4 v.2.2.2.2.2.2.2.2.2.2.2.2.2.2.2.2.2.2.2.2.2.2.1, aI E a_t_trial_evening_openers 4 v.2.2.2.2.2.2.2.2.2.2.2.2.2.2.2.2.2.2.2.2.2.2.2] (some (.int v.1)) := by
  refine Mt.intro (lv := [(0, .ref a_t), (1, .int x1)]) (by decide +kernel) (Nat.le_of_ble_eq_true rfl) rfl (fun X C K => ?_)
  have C : CX E X cX11_evenings RX11 3 rm_X11_evenings := C
  rw [f_X11_evenings] at h
  refine g_iload_n (pc := 0) C dX11_evenings_0 1 rfl ?_
  refine g_bipush (pc := 1) (v := 30) C dX11_evenings_1 (by decide) ?_
  obtain ⟨v1, hv1, h⟩ := o_bnd h
  refine g_callS (pc := 3) (ws' := [oX11 a_t a_t_tape a_t_reader a_t_now a_t_seen a_t_trial a_t_advice a_t_odds a_t_guess a_t_images a_t_sheets c_t_tornFault, oX1 a_t_now c_t_now_houses c_t_now_comers c_t_now_evening a_t_now_lists a_t_now_kindOf a_t_now_goes a_t_now_comes a_t_now_likings, aI E a_t_now_comes 6 r_t_now_comes, aI E a_t_now_goes 6 r_t_now_goes, aI E a_t_now_kindOf 6 r_t_now_kindOf, aI E a_t_now_likings 24 r_t_now_likings, aI E a_t_now_lists 4 r_t_now_lists, oX10 a_t_trial a_t_now a_t_trial_county a_t_trial_evening c_t_trial_evenings c_t_trial_waited c_t_trial_firstFast, oX1 a_t_trial_county c_t_trial_county_houses c_t_trial_county_comers c_t_trial_county_evening a_t_trial_county_lists a_t_trial_county_kindOf a_t_trial_county_goes a_t_trial_county_comes a_t_trial_county_likings, aI E a_t_trial_county_comes 6 r_t_trial_county_comes, aI E a_t_trial_county_goes 6 r_t_trial_county_goes, aI E a_t_trial_county_kindOf 6 r_t_trial_county_kindOf, aI E a_t_trial_county_likings 24 r_t_trial_county_likings, aI E a_t_trial_county_lists 4 r_t_trial_county_lists, oX2 a_t_trial_evening a_t_trial_evening_hours a_t_trial_evening_openers c_t_trial_evening_begun c_t_trial_evening_waited, aI E a_t_trial_evening_hours 4 r_t_trial_evening_hours, aI E a_t_trial_evening_openers 4 r_t_trial_evening_openers]) (st1 := [.int v1]) C ms_X11_91 (k_X11_outside E x1 30 v1 hv1) [] rfl (by decide +kernel) rfl [none, none, none, none, none, none, none, none, none, none, none, none, none, none, none, none, none] 17 (by decide +kernel) rfl rfl ⟨by decide, by decide⟩ ⟨rfl, rfl⟩ ⟨Nat.zero_le _, Nat.zero_le _⟩ rfl rfl rfl (Nat.le_of_ble_eq_true rfl) dX11_evenings_3 ?_
  refine b_if_eq (pc := 6) 11 C dX11_evenings_6 (by decide) h (fun _ h => ?_) (fun _ h => ?_)
  · refine g_aload_n (pc := 11) C dX11_evenings_11 0 rfl ?_
    refine g_get (pc := 12) 0 C fl_X11_28 rfl rfl dX11_evenings_12 ?_
    refine g_get (pc := 15) 1 C fl_X11_128 rfl rfl dX11_evenings_15 ?_
    refine g_iload_n (pc := 18) C dX11_evenings_18 1 rfl ?_
    refine g_iadd (pc := 19) C dX11_evenings_19 ?_
    refine g_sipush (pc := 20) (v := 1000) C dX11_evenings_20 (by decide) ?_
    refine b_icmp_lt (pc := 23) 29 C dX11_evenings_23 (by decide) h (fun _ h => ?_) (fun _ h => ?_)
    · refine g_aload_n (pc := 29) C dX11_evenings_29 0 rfl ?_
      refine g_get (pc := 30) 0 C fl_X11_44 rfl rfl dX11_evenings_30 ?_
      obtain ⟨v2, hv2, h⟩ := o_bnd h
      refine g_callV (pc := 33) (ws' := [oX11 a_t a_t_tape a_t_reader a_t_now a_t_seen a_t_trial a_t_advice a_t_odds a_t_guess a_t_images a_t_sheets c_t_tornFault, oX1 a_t_now c_t_now_houses c_t_now_comers c_t_now_evening a_t_now_lists a_t_now_kindOf a_t_now_goes a_t_now_comes a_t_now_likings, aI E a_t_now_comes 6 r_t_now_comes, aI E a_t_now_goes 6 r_t_now_goes, aI E a_t_now_kindOf 6 r_t_now_kindOf, aI E a_t_now_likings 24 r_t_now_likings, aI E a_t_now_lists 4 r_t_now_lists, oX10 a_t_trial a_t_now a_t_trial_county a_t_trial_evening v2.1 v2.2.1 v2.2.2.1, oX1 a_t_trial_county v2.2.2.2.1 v2.2.2.2.2.1 v2.2.2.2.2.2.1 a_t_trial_county_lists a_t_trial_county_kindOf a_t_trial_county_goes a_t_trial_county_comes a_t_trial_county_likings, aI E a_t_trial_county_comes 6 v2.2.2.2.2.2.2.1, aI E a_t_trial_county_goes 6 v2.2.2.2.2.2.2.2.1, aI E a_t_trial_county_kindOf 6 v2.2.2.2.2.2.2.2.2.1, aI E a_t_trial_county_likings 24 v2.2.2.2.2.2.2.2.2.2.1, aI E a_t_trial_county_lists 4 v2.2.2.2.2.2.2.2.2.2.2, oX2 a_t_trial_evening a_t_trial_evening_hours a_t_trial_evening_openers c_t_trial_evening_begun c_t_trial_evening_waited, aI E a_t_trial_evening_hours 4 r_t_trial_evening_hours, aI E a_t_trial_evening_openers 4 r_t_trial_evening_openers]) (st1 := [.ref a_t_trial_county]) C mv_X11_212 (k_X10_restart E a_t_trial a_t_trial_county a_t_trial_county_comes a_t_trial_county_goes a_t_trial_county_kindOf a_t_trial_county_likings a_t_trial_county_lists a_t_now a_t_now_comes a_t_now_goes a_t_now_kindOf a_t_now_likings a_t_now_lists a_t_trial_evening c_t_trial_evenings c_t_trial_waited c_t_trial_firstFast c_t_trial_county_houses c_t_trial_county_comers c_t_trial_county_evening r_t_trial_county_comes r_t_trial_county_goes r_t_trial_county_kindOf r_t_trial_county_likings r_t_trial_county_lists c_t_now_houses c_t_now_comers c_t_now_evening r_t_now_comes r_t_now_goes r_t_now_kindOf r_t_now_likings r_t_now_lists v2 hv2) [7, 8, 9, 10, 11, 12, 13, 1, 2, 3, 4, 5, 6] rfl (by decide +kernel) rfl [none, some 7, some 8, some 9, some 10, some 11, some 12, some 0, some 1, some 2, some 3, some 4, some 5, some 6, none, none, none] 17 (by decide +kernel) rfl rfl 0 rfl rfl ⟨by decide, by decide⟩ ⟨rfl, rfl⟩ ⟨Nat.zero_le _, Nat.zero_le _⟩ rfl rfl rfl (Nat.le_of_ble_eq_true rfl) dX11_evenings_33 ?_
      refine g_pop (pc := 36) C dX11_evenings_36 rfl ?_
      refine g_aload_n (pc := 37) C dX11_evenings_37 0 rfl ?_
      refine g_get (pc := 38) 0 C fl_X11_44 rfl rfl dX11_evenings_38 ?_
      refine g_iload_n (pc := 41) C dX11_evenings_41 1 rfl ?_
      obtain ⟨v3, hv3, h⟩ := o_bnd h
      refine g_callV (pc := 42) (ws' := [oX11 a_t a_t_tape a_t_reader a_t_now a_t_seen a_t_trial a_t_advice a_t_odds a_t_guess a_t_images a_t_sheets c_t_tornFault, oX1 a_t_now c_t_now_houses c_t_now_comers c_t_now_evening a_t_now_lists a_t_now_kindOf a_t_now_goes a_t_now_comes a_t_now_likings, aI E a_t_now_comes 6 r_t_now_comes, aI E a_t_now_goes 6 r_t_now_goes, aI E a_t_now_kindOf 6 r_t_now_kindOf, aI E a_t_now_likings 24 r_t_now_likings, aI E a_t_now_lists 4 r_t_now_lists, oX10 a_t_trial a_t_now a_t_trial_county a_t_trial_evening v3.2.1 v3.2.2.1 v3.2.2.2.1, oX1 a_t_trial_county v2.2.2.2.1 v2.2.2.2.2.1 v3.2.2.2.2.1 a_t_trial_county_lists a_t_trial_county_kindOf a_t_trial_county_goes a_t_trial_county_comes a_t_trial_county_likings, aI E a_t_trial_county_comes 6 v2.2.2.2.2.2.2.1, aI E a_t_trial_county_goes 6 v2.2.2.2.2.2.2.2.1, aI E a_t_trial_county_kindOf 6 v2.2.2.2.2.2.2.2.2.1, aI E a_t_trial_county_likings 24 v3.2.2.2.2.2.1, aI E a_t_trial_county_lists 4 v2.2.2.2.2.2.2.2.2.2.2, oX2 a_t_trial_evening a_t_trial_evening_hours a_t_trial_evening_openers v3.2.2.2.2.2.2.1 v3.2.2.2.2.2.2.2.1, aI E a_t_trial_evening_hours 4 v3.2.2.2.2.2.2.2.2.1, aI E a_t_trial_evening_openers 4 v3.2.2.2.2.2.2.2.2.2]) (st1 := [.int v3.1]) C mv_X11_216 (k_X10_dinnersIn E a_t_trial a_t_trial_county a_t_trial_county_comes a_t_trial_county_goes a_t_trial_county_kindOf a_t_trial_county_likings a_t_trial_county_lists a_t_trial_evening a_t_trial_evening_hours a_t_trial_evening_openers a_t_now v2.1 v2.2.1 v2.2.2.1 v2.2.2.2.1 v2.2.2.2.2.1 v2.2.2.2.2.2.1 v2.2.2.2.2.2.2.1 v2.2.2.2.2.2.2.2.1 v2.2.2.2.2.2.2.2.2.1 v2.2.2.2.2.2.2.2.2.2.1 v2.2.2.2.2.2.2.2.2.2.2 c_t_trial_evening_begun c_t_trial_evening_waited r_t_trial_evening_hours r_t_trial_evening_openers x1 v3 hv3) [7, 8, 9, 10, 11, 12, 13, 14, 15, 16] rfl (by decide +kernel) rfl [none, none, none, none, none, none, none, some 0, some 1, some 2, some 3, some 4, some 5, some 6, some 7, some 8, some 9] 17 (by decide +kernel) rfl rfl 0 rfl rfl ⟨by decide, by decide⟩ ⟨rfl, rfl⟩ ⟨Nat.zero_le _, Nat.zero_le _⟩ rfl rfl rfl (Nat.le_of_ble_eq_true rfl) dX11_evenings_42 ?_
      refine g_istore_n (pc := 45) (lv' := [(2, .int v3.1), (0, .ref a_t), (1, .int x1)]) C dX11_evenings_45 (by decide) rfl ?_
      refine g_aload_n (pc := 46) C dX11_evenings_46 1 rfl ?_
      refine g_get (pc := 47) 0 C fl_X11_28 rfl rfl dX11_evenings_47 ?_
      refine g_aload_n (pc := 50) C dX11_evenings_50 1 rfl ?_
      refine g_get (pc := 51) 0 C fl_X11_44 rfl rfl dX11_evenings_51 ?_
      refine g_get (pc := 54) 7 C fl_X11_219 rfl rfl dX11_evenings_54 ?_
      obtain ⟨v4, hv4, h⟩ := o_bnd h
      refine g_callV (pc := 57) (ws' := [oX11 a_t a_t_tape a_t_reader a_t_now a_t_seen a_t_trial a_t_advice a_t_odds a_t_guess a_t_images a_t_sheets c_t_tornFault, oX1 a_t_now v4.1 v4.2.1 v4.2.2.1 a_t_now_lists a_t_now_kindOf a_t_now_goes a_t_now_comes a_t_now_likings, aI E a_t_now_comes 6 v4.2.2.2.1, aI E a_t_now_goes 6 v4.2.2.2.2.1, aI E a_t_now_kindOf 6 v4.2.2.2.2.2.1, aI E a_t_now_likings 24 v4.2.2.2.2.2.2.1, aI E a_t_now_lists 4 v4.2.2.2.2.2.2.2, oX10 a_t_trial a_t_now a_t_trial_county a_t_trial_evening v3.2.1 v3.2.2.1 v3.2.2.2.1, oX1 a_t_trial_county v2.2.2.2.1 v2.2.2.2.2.1 v3.2.2.2.2.1 a_t_trial_county_lists a_t_trial_county_kindOf a_t_trial_county_goes a_t_trial_county_comes a_t_trial_county_likings, aI E a_t_trial_county_comes 6 v2.2.2.2.2.2.2.1, aI E a_t_trial_county_goes 6 v2.2.2.2.2.2.2.2.1, aI E a_t_trial_county_kindOf 6 v2.2.2.2.2.2.2.2.2.1, aI E a_t_trial_county_likings 24 v3.2.2.2.2.2.1, aI E a_t_trial_county_lists 4 v2.2.2.2.2.2.2.2.2.2.2, oX2 a_t_trial_evening a_t_trial_evening_hours a_t_trial_evening_openers v3.2.2.2.2.2.2.1 v3.2.2.2.2.2.2.2.1, aI E a_t_trial_evening_hours 4 v3.2.2.2.2.2.2.2.2.1, aI E a_t_trial_evening_openers 4 v3.2.2.2.2.2.2.2.2.2]) (st1 := []) C mv_X11_109 (k_X1_copyFrom E a_t_now a_t_now_comes a_t_now_goes a_t_now_kindOf a_t_now_likings a_t_now_lists a_t_trial_county a_t_trial_county_comes a_t_trial_county_goes a_t_trial_county_kindOf a_t_trial_county_likings a_t_trial_county_lists c_t_now_houses c_t_now_comers c_t_now_evening r_t_now_comes r_t_now_goes r_t_now_kindOf r_t_now_likings r_t_now_lists v2.2.2.2.1 v2.2.2.2.2.1 v3.2.2.2.2.1 v2.2.2.2.2.2.2.1 v2.2.2.2.2.2.2.2.1 v2.2.2.2.2.2.2.2.2.1 v3.2.2.2.2.2.1 v2.2.2.2.2.2.2.2.2.2.2 v4 hv4) [1, 2, 3, 4, 5, 6, 8, 9, 10, 11, 12, 13] rfl (by decide +kernel) rfl [none, some 0, some 1, some 2, some 3, some 4, some 5, none, some 6, some 7, some 8, some 9, some 10, some 11, none, none, none] 17 (by decide +kernel) rfl rfl 0 rfl rfl ⟨by decide, by decide⟩ ⟨rfl, rfl⟩ ⟨Nat.zero_le _, Nat.zero_le _⟩ rfl rfl rfl (Nat.le_of_ble_eq_true rfl) dX11_evenings_57 ?_
      refine g_iload_n (pc := 60) C dX11_evenings_60 0 rfl ?_
      obtain rfl := Option.some.inj h
      exact g_iret (pc := 61) C K dX11_evenings_61
    · refine g_bipush (pc := 26) (v := (-3)) C dX11_evenings_26 (by decide) ?_
      obtain rfl := Option.some.inj h
      exact g_iret (pc := 28) C K dX11_evenings_28
  · refine g_iconst (pc := 9) (v := (-1)) C dX11_evenings_9 (by decide) ?_
    obtain rfl := Option.some.inj h
    exact g_iret (pc := 10) C K dX11_evenings_10
theorem dX11_runs_0 : decode cX11_runs 0 = .ok (.iload_n 1, 1) := by decide +kernel
theorem dX11_runs_1 : decode cX11_runs 1 = .ok (.bipush 60, 2) := by decide +kernel
theorem dX11_runs_3 : decode cX11_runs 3 = .ok (.invokestatic 91, 3) := by decide +kernel
theorem dX11_runs_6 : decode cX11_runs 6 = .ok (.ifCond .ne 11, 3) := by decide +kernel
theorem dX11_runs_9 : decode cX11_runs 9 = .ok (.iload_n 2, 1) := by decide +kernel
theorem dX11_runs_10 : decode cX11_runs 10 = .ok (.iconst 3, 1) := by decide +kernel
theorem dX11_runs_11 : decode cX11_runs 11 = .ok (.invokestatic 91, 3) := by decide +kernel
theorem dX11_runs_14 : decode cX11_runs 14 = .ok (.ifCond .eq 5, 3) := by decide +kernel
theorem dX11_runs_17 : decode cX11_runs 17 = .ok (.iconst (-1), 1) := by decide +kernel
theorem dX11_runs_18 : decode cX11_runs 18 = .ok (.ireturn, 1) := by decide +kernel
theorem dX11_runs_19 : decode cX11_runs 19 = .ok (.aload_n 0, 1) := by decide +kernel
theorem dX11_runs_20 : decode cX11_runs 20 = .ok (.getfield 44, 3) := by decide +kernel
theorem dX11_runs_23 : decode cX11_runs 23 = .ok (.invokevirtual 212, 3) := by decide +kernel
theorem dX11_runs_26 : decode cX11_runs 26 = .ok (.pop, 1) := by decide +kernel
theorem dX11_runs_27 : decode cX11_runs 27 = .ok (.aload_n 0, 1) := by decide +kernel
theorem dX11_runs_28 : decode cX11_runs 28 = .ok (.getfield 44, 3) := by decide +kernel
theorem dX11_runs_31 : decode cX11_runs 31 = .ok (.iload_n 1, 1) := by decide +kernel
theorem dX11_runs_32 : decode cX11_runs 32 = .ok (.invokevirtual 216, 3) := by decide +kernel
theorem dX11_runs_35 : decode cX11_runs 35 = .ok (.istore_n 3, 1) := by decide +kernel
theorem dX11_runs_36 : decode cX11_runs 36 = .ok (.iload_n 2, 1) := by decide +kernel
theorem dX11_runs_37 : decode cX11_runs 37 = .ok (.tableswitch 45 0 2 #[27, 29, 37], 27) := by decide +kernel
theorem dX11_runs_64 : decode cX11_runs 64 = .ok (.iload_n 3, 1) := by decide +kernel
theorem dX11_runs_65 : decode cX11_runs 65 = .ok (.ireturn, 1) := by decide +kernel
theorem dX11_runs_66 : decode cX11_runs 66 = .ok (.aload_n 0, 1) := by decide +kernel
theorem dX11_runs_67 : decode cX11_runs 67 = .ok (.getfield 44, 3) := by decide +kernel
theorem dX11_runs_70 : decode cX11_runs 70 = .ok (.getfield 222, 3) := by decide +kernel
theorem dX11_runs_73 : decode cX11_runs 73 = .ok (.ireturn, 1) := by decide +kernel
theorem dX11_runs_74 : decode cX11_runs 74 = .ok (.aload_n 0, 1) := by decide +kernel
theorem dX11_runs_75 : decode cX11_runs 75 = .ok (.getfield 44, 3) := by decide +kernel
theorem dX11_runs_78 : decode cX11_runs 78 = .ok (.getfield 223, 3) := by decide +kernel
theorem dX11_runs_81 : decode cX11_runs 81 = .ok (.ireturn, 1) := by decide +kernel
theorem dX11_runs_82 : decode cX11_runs 82 = .ok (.aload_n 0, 1) := by decide +kernel
theorem dX11_runs_83 : decode cX11_runs 83 = .ok (.getfield 44, 3) := by decide +kernel
theorem dX11_runs_86 : decode cX11_runs 86 = .ok (.getfield 219, 3) := by decide +kernel
theorem dX11_runs_89 : decode cX11_runs 89 = .ok (.invokevirtual 226, 3) := by decide +kernel
theorem dX11_runs_92 : decode cX11_runs 92 = .ok (.ireturn, 1) := by decide +kernel
def f_X11_runs (c_t_now_houses : Int32) (c_t_now_comers : Int32) (c_t_now_evening : Int32) (r_t_now_comes : (Nat → Int32)) (r_t_now_goes : (Nat → Int32)) (r_t_now_kindOf : (Nat → Int32)) (r_t_now_likings : (Nat → Int32)) (r_t_now_lists : (Nat → Int32)) (c_t_trial_evenings : Int32) (c_t_trial_waited : Int32) (c_t_trial_firstFast : Int32) (c_t_trial_county_houses : Int32) (c_t_trial_county_comers : Int32) (c_t_trial_county_evening : Int32) (r_t_trial_county_comes : (Nat → Int32)) (r_t_trial_county_goes : (Nat → Int32)) (r_t_trial_county_kindOf : (Nat → Int32)) (r_t_trial_county_likings : (Nat → Int32)) (r_t_trial_county_lists : (Nat → Int32)) (c_t_trial_evening_begun : Int32) (c_t_trial_evening_waited : Int32) (r_t_trial_evening_hours : (Nat → Int32)) (r_t_trial_evening_openers : (Nat → Int32)) (x1 : Int32) (x2 : Int32) : Option (Int32 × Int32 × Int32 × Int32 × Int32 × Int32 × Int32 × (Nat → Int32) × (Nat → Int32) × (Nat → Int32) × (Nat → Int32) × (Nat → Int32) × Int32 × Int32 × (Nat → Int32) × (Nat → Int32)) :=
  (f_X11_outside x1 60).bind (fun (v1 : Int32) =>
    if v1 = 0 then
      ((f_X11_outside x2 3).bind (fun (v2 : Int32) =>
        if v2 = 0 then
          ((f_X10_restart c_t_trial_evenings c_t_trial_waited c_t_trial_firstFast c_t_trial_county_houses c_t_trial_county_comers c_t_trial_county_evening r_t_trial_county_comes r_t_trial_county_goes r_t_trial_county_kindOf r_t_trial_county_likings r_t_trial_county_lists c_t_now_houses c_t_now_comers c_t_now_evening r_t_now_comes r_t_now_goes r_t_now_kindOf r_t_now_likings r_t_now_lists).bind (fun (v3 : Int32 × Int32 × Int32 × Int32 × Int32 × Int32 × (Nat → Int32) × (Nat → Int32) × (Nat → Int32) × (Nat → Int32) × (Nat → Int32)) =>
            (f_X10_dinnersIn v3.1 v3.2.1 v3.2.2.1 v3.2.2.2.1 v3.2.2.2.2.1 v3.2.2.2.2.2.1 v3.2.2.2.2.2.2.1 v3.2.2.2.2.2.2.2.1 v3.2.2.2.2.2.2.2.2.1 v3.2.2.2.2.2.2.2.2.2.1 v3.2.2.2.2.2.2.2.2.2.2 c_t_trial_evening_begun c_t_trial_evening_waited r_t_trial_evening_hours r_t_trial_evening_openers x1).bind (fun (v4 : Int32 × Int32 × Int32 × Int32 × Int32 × (Nat → Int32) × Int32 × Int32 × (Nat → Int32) × (Nat → Int32)) =>
              if x2 = 0 then
                (some ((v4.1, v4.2.1, v4.2.2.1, v4.2.2.2.1, v3.2.2.2.1, v3.2.2.2.2.1, v4.2.2.2.2.1, v3.2.2.2.2.2.2.1, v3.2.2.2.2.2.2.2.1, v3.2.2.2.2.2.2.2.2.1, v4.2.2.2.2.2.1, v3.2.2.2.2.2.2.2.2.2.2, v4.2.2.2.2.2.2.1, v4.2.2.2.2.2.2.2.1, v4.2.2.2.2.2.2.2.2.1, v4.2.2.2.2.2.2.2.2.2)))
              else
                (if x2 = 1 then
                  (some ((v4.2.2.1, v4.2.1, v4.2.2.1, v4.2.2.2.1, v3.2.2.2.1, v3.2.2.2.2.1, v4.2.2.2.2.1, v3.2.2.2.2.2.2.1, v3.2.2.2.2.2.2.2.1, v3.2.2.2.2.2.2.2.2.1, v4.2.2.2.2.2.1, v3.2.2.2.2.2.2.2.2.2.2, v4.2.2.2.2.2.2.1, v4.2.2.2.2.2.2.2.1, v4.2.2.2.2.2.2.2.2.1, v4.2.2.2.2.2.2.2.2.2)))
                else
                  (if x2 = 2 then
                    (some ((v4.2.2.2.1, v4.2.1, v4.2.2.1, v4.2.2.2.1, v3.2.2.2.1, v3.2.2.2.2.1, v4.2.2.2.2.1, v3.2.2.2.2.2.2.1, v3.2.2.2.2.2.2.2.1, v3.2.2.2.2.2.2.2.2.1, v4.2.2.2.2.2.1, v3.2.2.2.2.2.2.2.2.2.2, v4.2.2.2.2.2.2.1, v4.2.2.2.2.2.2.2.1, v4.2.2.2.2.2.2.2.2.1, v4.2.2.2.2.2.2.2.2.2)))
                  else
                    ((f_X1_likings v3.2.2.2.1 v3.2.2.2.2.1 v4.2.2.2.2.2.1).bind (fun (v5 : Int32) =>
                      some ((v5, v4.2.1, v4.2.2.1, v4.2.2.2.1, v3.2.2.2.1, v3.2.2.2.2.1, v4.2.2.2.2.1, v3.2.2.2.2.2.2.1, v3.2.2.2.2.2.2.2.1, v3.2.2.2.2.2.2.2.2.1, v4.2.2.2.2.2.1, v3.2.2.2.2.2.2.2.2.2.2, v4.2.2.2.2.2.2.1, v4.2.2.2.2.2.2.2.1, v4.2.2.2.2.2.2.2.2.1, v4.2.2.2.2.2.2.2.2.2)))))))))
        else
          (some (((-1), c_t_trial_evenings, c_t_trial_waited, c_t_trial_firstFast, c_t_trial_county_houses, c_t_trial_county_comers, c_t_trial_county_evening, r_t_trial_county_comes, r_t_trial_county_goes, r_t_trial_county_kindOf, r_t_trial_county_likings, r_t_trial_county_lists, c_t_trial_evening_begun, c_t_trial_evening_waited, r_t_trial_evening_hours, r_t_trial_evening_openers)))))
    else
      (some (((-1), c_t_trial_evenings, c_t_trial_waited, c_t_trial_firstFast, c_t_trial_county_houses, c_t_trial_county_comers, c_t_trial_county_evening, r_t_trial_county_comes, r_t_trial_county_goes, r_t_trial_county_kindOf, r_t_trial_county_likings, r_t_trial_county_lists, c_t_trial_evening_begun, c_t_trial_evening_waited, r_t_trial_evening_hours, r_t_trial_evening_openers))))
abbrev rm_X11_runs : Room := { frames := 5, cells := 0, slots := 0, locals := 122 }
set_option maxHeartbeats 4000000 in
set_option maxRecDepth 100000 in
theorem k_X11_runs (E : Ev) (a_t a_t_now a_t_now_comes a_t_now_goes a_t_now_kindOf a_t_now_likings a_t_now_lists a_t_trial a_t_trial_county a_t_trial_county_comes a_t_trial_county_goes a_t_trial_county_kindOf a_t_trial_county_likings a_t_trial_county_lists a_t_trial_evening a_t_trial_evening_hours a_t_trial_evening_openers a_t_tape a_t_reader a_t_seen a_t_advice a_t_odds a_t_guess a_t_images a_t_sheets : Nat) (c_t_tornFault : Int32) (c_t_now_houses : Int32) (c_t_now_comers : Int32) (c_t_now_evening : Int32) (r_t_now_comes : (Nat → Int32)) (r_t_now_goes : (Nat → Int32)) (r_t_now_kindOf : (Nat → Int32)) (r_t_now_likings : (Nat → Int32)) (r_t_now_lists : (Nat → Int32)) (c_t_trial_evenings : Int32) (c_t_trial_waited : Int32) (c_t_trial_firstFast : Int32) (c_t_trial_county_houses : Int32) (c_t_trial_county_comers : Int32) (c_t_trial_county_evening : Int32) (r_t_trial_county_comes : (Nat → Int32)) (r_t_trial_county_goes : (Nat → Int32)) (r_t_trial_county_kindOf : (Nat → Int32)) (r_t_trial_county_likings : (Nat → Int32)) (r_t_trial_county_lists : (Nat → Int32)) (c_t_trial_evening_begun : Int32) (c_t_trial_evening_waited : Int32) (r_t_trial_evening_hours : (Nat → Int32)) (r_t_trial_evening_openers : (Nat → Int32)) (x1 : Int32) (x2 : Int32) (v : Int32 × Int32 × Int32 × Int32 × Int32 × Int32 × Int32 × (Nat → Int32) × (Nat → Int32) × (Nat → Int32) × (Nat → Int32) × (Nat → Int32) × Int32 × Int32 × (Nat → Int32) × (Nat → Int32)) (h : f_X11_runs c_t_now_houses c_t_now_comers c_t_now_evening r_t_now_comes r_t_now_goes r_t_now_kindOf r_t_now_likings r_t_now_lists c_t_trial_evenings c_t_trial_waited c_t_trial_firstFast c_t_trial_county_houses c_t_trial_county_comers c_t_trial_county_evening r_t_trial_county_comes r_t_trial_county_goes r_t_trial_county_kindOf r_t_trial_county_likings r_t_trial_county_lists c_t_trial_evening_begun c_t_trial_evening_waited r_t_trial_evening_hours r_t_trial_evening_openers x1 x2 = some v) : Mt E yX11_runs cX11_runs 4 (some .int) rm_X11_runs [.ref a_t, .int x1, .int x2] [oX11 a_t a_t_tape a_t_reader a_t_now a_t_seen a_t_trial a_t_advice a_t_odds a_t_guess a_t_images a_t_sheets c_t_tornFault, oX1 a_t_now c_t_now_houses c_t_now_comers c_t_now_evening a_t_now_lists a_t_now_kindOf a_t_now_goes a_t_now_comes a_t_now_likings, aI E a_t_now_comes 6 r_t_now_comes, aI E a_t_now_goes 6 r_t_now_goes, aI E a_t_now_kindOf 6 r_t_now_kindOf, aI E a_t_now_likings 24 r_t_now_likings, aI E a_t_now_lists 4 r_t_now_lists, oX10 a_t_trial a_t_now a_t_trial_county a_t_trial_evening c_t_trial_evenings c_t_trial_waited c_t_trial_firstFast, oX1 a_t_trial_county c_t_trial_county_houses c_t_trial_county_comers c_t_trial_county_evening a_t_trial_county_lists a_t_trial_county_kindOf a_t_trial_county_goes a_t_trial_county_comes a_t_trial_county_likings, aI E a_t_trial_county_comes 6 r_t_trial_county_comes, aI E a_t_trial_county_goes 6 r_t_trial_county_goes, aI E a_t_trial_county_kindOf 6 r_t_trial_county_kindOf, aI E a_t_trial_county_likings 24 r_t_trial_county_likings, aI E a_t_trial_county_lists 4 r_t_trial_county_lists, oX2 a_t_trial_evening a_t_trial_evening_hours a_t_trial_evening_openers c_t_trial_evening_begun c_t_trial_evening_waited, aI E a_t_trial_evening_hours 4 r_t_trial_evening_hours, aI E a_t_trial_evening_openers 4 r_t_trial_evening_openers] [oX11 a_t a_t_tape a_t_reader a_t_now a_t_seen a_t_trial a_t_advice a_t_odds a_t_guess a_t_images a_t_sheets c_t_tornFault, oX1 a_t_now c_t_now_houses c_t_now_comers c_t_now_evening a_t_now_lists a_t_now_kindOf a_t_now_goes a_t_now_comes a_t_now_likings, aI E a_t_now_comes 6 r_t_now_comes, aI E a_t_now_goes 6 r_t_now_goes, aI E a_t_now_kindOf 6 r_t_now_kindOf, aI E a_t_now_likings 24 r_t_now_likings, aI E a_t_now_lists 4 r_t_now_lists, oX10 a_t_trial a_t_now a_t_trial_county a_t_trial_evening v.2.1 v.2.2.1 v.2.2.2.1, oX1 a_t_trial_county v.2.2.2.2.1 v.2.2.2.2.2.1 v.2.2.2.2.2.2.1 a_t_trial_county_lists a_t_trial_county_kindOf a_t_trial_county_goes a_t_trial_county_comes a_t_trial_county_likings, aI E a_t_trial_county_comes 6 v.2.2.2.2.2.2.2.1, aI E a_t_trial_county_goes 6 v.2.2.2.2.2.2.2.2.1, aI E a_t_trial_county_kindOf 6 v.2.2.2.2.2.2.2.2.2.1, aI E a_t_trial_county_likings 24 v.2.2.2.2.2.2.2.2.2.2.1, aI E a_t_trial_county_lists 4 v.2.2.2.2.2.2.2.2.2.2.2.1, oX2 a_t_trial_evening a_t_trial_evening_hours a_t_trial_evening_openers v.2.2.2.2.2.2.2.2.2.2.2.2.1 v.2.2.2.2.2.2.2.2.2.2.2.2.2.1, aI E a_t_trial_evening_hours 4 v.2.2.2.2.2.2.2.2.2.2.2.2.2.2.1, aI E a_t_trial_evening_openers 4 v.2.2.2.2.2.2.2.2.2.2.2.2.2.2.2] (some (.int v.1)) := by
  refine Mt.intro (lv := [(0, .ref a_t), (1, .int x1), (2, .int x2)]) (by decide +kernel) (Nat.le_of_ble_eq_true rfl) rfl (fun X C K => ?_)
  have C : CX E X cX11_runs RX11 4 rm_X11_runs := C
  rw [f_X11_runs] at h
  refine g_iload_n (pc := 0) C dX11_runs_0 1 rfl ?_
  refine g_bipush (pc := 1) (v := 60) C dX11_runs_1 (by decide) ?_
  obtain ⟨v1, hv1, h⟩ := o_bnd h
  refine g_callS (pc := 3) (ws' := [oX11 a_t a_t_tape a_t_reader a_t_now a_t_seen a_t_trial a_t_advice a_t_odds a_t_guess a_t_images a_t_sheets c_t_tornFault, oX1 a_t_now c_t_now_houses c_t_now_comers c_t_now_evening a_t_now_lists a_t_now_kindOf a_t_now_goes a_t_now_comes a_t_now_likings, aI E a_t_now_comes 6 r_t_now_comes, aI E a_t_now_goes 6 r_t_now_goes, aI E a_t_now_kindOf 6 r_t_now_kindOf, aI E a_t_now_likings 24 r_t_now_likings, aI E a_t_now_lists 4 r_t_now_lists, oX10 a_t_trial a_t_now a_t_trial_county a_t_trial_evening c_t_trial_evenings c_t_trial_waited c_t_trial_firstFast, oX1 a_t_trial_county c_t_trial_county_houses c_t_trial_county_comers c_t_trial_county_evening a_t_trial_county_lists a_t_trial_county_kindOf a_t_trial_county_goes a_t_trial_county_comes a_t_trial_county_likings, aI E a_t_trial_county_comes 6 r_t_trial_county_comes, aI E a_t_trial_county_goes 6 r_t_trial_county_goes, aI E a_t_trial_county_kindOf 6 r_t_trial_county_kindOf, aI E a_t_trial_county_likings 24 r_t_trial_county_likings, aI E a_t_trial_county_lists 4 r_t_trial_county_lists, oX2 a_t_trial_evening a_t_trial_evening_hours a_t_trial_evening_openers c_t_trial_evening_begun c_t_trial_evening_waited, aI E a_t_trial_evening_hours 4 r_t_trial_evening_hours, aI E a_t_trial_evening_openers 4 r_t_trial_evening_openers]) (st1 := [.int v1]) C ms_X11_91 (k_X11_outside E x1 60 v1 hv1) [] rfl (by decide +kernel) rfl [none, none, none, none, none, none, none, none, none, none, none, none, none, none, none, none, none] 17 (by decide +kernel) rfl rfl ⟨by decide, by decide⟩ ⟨rfl, rfl⟩ ⟨Nat.zero_le _, Nat.zero_le _⟩ rfl rfl rfl (Nat.le_of_ble_eq_true rfl) dX11_runs_3 ?_
  refine b_if_ne (pc := 6) 17 C dX11_runs_6 (by decide) h (fun _ h => ?_) (fun _ h => ?_)
  · refine g_iconst (pc := 17) (v := (-1)) C dX11_runs_17 (by decide) ?_
    obtain rfl := Option.some.inj h
    exact g_iret (pc := 18) C K dX11_runs_18
  · refine g_iload_n (pc := 9) C dX11_runs_9 2 rfl ?_
    refine g_iconst (pc := 10) (v := 3) C dX11_runs_10 (by decide) ?_
    obtain ⟨v2, hv2, h⟩ := o_bnd h
    refine g_callS (pc := 11) (ws' := [oX11 a_t a_t_tape a_t_reader a_t_now a_t_seen a_t_trial a_t_advice a_t_odds a_t_guess a_t_images a_t_sheets c_t_tornFault, oX1 a_t_now c_t_now_houses c_t_now_comers c_t_now_evening a_t_now_lists a_t_now_kindOf a_t_now_goes a_t_now_comes a_t_now_likings, aI E a_t_now_comes 6 r_t_now_comes, aI E a_t_now_goes 6 r_t_now_goes, aI E a_t_now_kindOf 6 r_t_now_kindOf, aI E a_t_now_likings 24 r_t_now_likings, aI E a_t_now_lists 4 r_t_now_lists, oX10 a_t_trial a_t_now a_t_trial_county a_t_trial_evening c_t_trial_evenings c_t_trial_waited c_t_trial_firstFast, oX1 a_t_trial_county c_t_trial_county_houses c_t_trial_county_comers c_t_trial_county_evening a_t_trial_county_lists a_t_trial_county_kindOf a_t_trial_county_goes a_t_trial_county_comes a_t_trial_county_likings, aI E a_t_trial_county_comes 6 r_t_trial_county_comes, aI E a_t_trial_county_goes 6 r_t_trial_county_goes, aI E a_t_trial_county_kindOf 6 r_t_trial_county_kindOf, aI E a_t_trial_county_likings 24 r_t_trial_county_likings, aI E a_t_trial_county_lists 4 r_t_trial_county_lists, oX2 a_t_trial_evening a_t_trial_evening_hours a_t_trial_evening_openers c_t_trial_evening_begun c_t_trial_evening_waited, aI E a_t_trial_evening_hours 4 r_t_trial_evening_hours, aI E a_t_trial_evening_openers 4 r_t_trial_evening_openers]) (st1 := [.int v2]) C ms_X11_91 (k_X11_outside E x2 3 v2 hv2) [] rfl (by decide +kernel) rfl [none, none, none, none, none, none, none, none, none, none, none, none, none, none, none, none, none] 17 (by decide +kernel) rfl rfl ⟨by decide, by decide⟩ ⟨rfl, rfl⟩ ⟨Nat.zero_le _, Nat.zero_le _⟩ rfl rfl rfl (Nat.le_of_ble_eq_true rfl) dX11_runs_11 ?_
    refine b_if_eq (pc := 14) 19 C dX11_runs_14 (by decide) h (fun _ h => ?_) (fun _ h => ?_)
    · refine g_aload_n (pc := 19) C dX11_runs_19 0 rfl ?_
      refine g_get (pc := 20) 0 C fl_X11_44 rfl rfl dX11_runs_20 ?_
      obtain ⟨v3, hv3, h⟩ := o_bnd h
      refine g_callV (pc := 23) (ws' := [oX11 a_t a_t_tape a_t_reader a_t_now a_t_seen a_t_trial a_t_advice a_t_odds a_t_guess a_t_images a_t_sheets c_t_tornFault, oX1 a_t_now c_t_now_houses c_t_now_comers c_t_now_evening a_t_now_lists a_t_now_kindOf a_t_now_goes a_t_now_comes a_t_now_likings, aI E a_t_now_comes 6 r_t_now_comes, aI E a_t_now_goes 6 r_t_now_goes, aI E a_t_now_kindOf 6 r_t_now_kindOf, aI E a_t_now_likings 24 r_t_now_likings, aI E a_t_now_lists 4 r_t_now_lists, oX10 a_t_trial a_t_now a_t_trial_county a_t_trial_evening v3.1 v3.2.1 v3.2.2.1, oX1 a_t_trial_county v3.2.2.2.1 v3.2.2.2.2.1 v3.2.2.2.2.2.1 a_t_trial_county_lists a_t_trial_county_kindOf a_t_trial_county_goes a_t_trial_county_comes a_t_trial_county_likings, aI E a_t_trial_county_comes 6 v3.2.2.2.2.2.2.1, aI E a_t_trial_county_goes 6 v3.2.2.2.2.2.2.2.1, aI E a_t_trial_county_kindOf 6 v3.2.2.2.2.2.2.2.2.1, aI E a_t_trial_county_likings 24 v3.2.2.2.2.2.2.2.2.2.1, aI E a_t_trial_county_lists 4 v3.2.2.2.2.2.2.2.2.2.2, oX2 a_t_trial_evening a_t_trial_evening_hours a_t_trial_evening_openers c_t_trial_evening_begun c_t_trial_evening_waited, aI E a_t_trial_evening_hours 4 r_t_trial_evening_hours, aI E a_t_trial_evening_openers 4 r_t_trial_evening_openers]) (st1 := [.ref a_t_trial_county]) C mv_X11_212 (k_X10_restart E a_t_trial a_t_trial_county a_t_trial_county_comes a_t_trial_county_goes a_t_trial_county_kindOf a_t_trial_county_likings a_t_trial_county_lists a_t_now a_t_now_comes a_t_now_goes a_t_now_kindOf a_t_now_likings a_t_now_lists a_t_trial_evening c_t_trial_evenings c_t_trial_waited c_t_trial_firstFast c_t_trial_county_houses c_t_trial_county_comers c_t_trial_county_evening r_t_trial_county_comes r_t_trial_county_goes r_t_trial_county_kindOf r_t_trial_county_likings r_t_trial_county_lists c_t_now_houses c_t_now_comers c_t_now_evening r_t_now_comes r_t_now_goes r_t_now_kindOf r_t_now_likings r_t_now_lists v3 hv3) [7, 8, 9, 10, 11, 12, 13, 1, 2, 3, 4, 5, 6] rfl (by decide +kernel) rfl [none, some 7, some 8, some 9, some 10, some 11, some 12, some 0, some 1, some 2, some 3, some 4, some 5, some 6, none, none, none] 17 (by decide +kernel) rfl rfl 0 rfl rfl ⟨by decide, by decide⟩ ⟨rfl, rfl⟩ ⟨Nat.zero_le _, Nat.zero_le _⟩ rfl rfl rfl (Nat.le_of_ble_eq_true rfl) dX11_runs_23 ?_
      refine g_pop (pc := 26) C dX11_runs_26 rfl ?_
      refine g_aload_n (pc := 27) C dX11_runs_27 0 rfl ?_
      refine g_get (pc := 28) 0 C fl_X11_44 rfl rfl dX11_runs_28 ?_
      refine g_iload_n (pc := 31) C dX11_runs_31 1 rfl ?_
      obtain ⟨v4, hv4, h⟩ := o_bnd h
      refine g_callV (pc := 32) (ws' := [oX11 a_t a_t_tape a_t_reader a_t_now a_t_seen a_t_trial a_t_advice a_t_odds a_t_guess a_t_images a_t_sheets c_t_tornFault, oX1 a_t_now c_t_now_houses c_t_now_comers c_t_now_evening a_t_now_lists a_t_now_kindOf a_t_now_goes a_t_now_comes a_t_now_likings, aI E a_t_now_comes 6 r_t_now_comes, aI E a_t_now_goes 6 r_t_now_goes, aI E a_t_now_kindOf 6 r_t_now_kindOf, aI E a_t_now_likings 24 r_t_now_likings, aI E a_t_now_lists 4 r_t_now_lists, oX10 a_t_trial a_t_now a_t_trial_county a_t_trial_evening v4.2.1 v4.2.2.1 v4.2.2.2.1, oX1 a_t_trial_county v3.2.2.2.1 v3.2.2.2.2.1 v4.2.2.2.2.1 a_t_trial_county_lists a_t_trial_county_kindOf a_t_trial_county_goes a_t_trial_county_comes a_t_trial_county_likings, aI E a_t_trial_county_comes 6 v3.2.2.2.2.2.2.1, aI E a_t_trial_county_goes 6 v3.2.2.2.2.2.2.2.1, aI E a_t_trial_county_kindOf 6 v3.2.2.2.2.2.2.2.2.1, aI E a_t_trial_county_likings 24 v4.2.2.2.2.2.1, aI E a_t_trial_county_lists 4 v3.2.2.2.2.2.2.2.2.2.2, oX2 a_t_trial_evening a_t_trial_evening_hours a_t_trial_evening_openers v4.2.2.2.2.2.2.1 v4.2.2.2.2.2.2.2.1, aI E a_t_trial_evening_hours 4 v4.2.2.2.2.2.2.2.2.1, aI E a_t_trial_evening_openers 4 v4.2.2.2.2.2.2.2.2.2]) (st1 := [.int v4.1]) C mv_X11_216 (k_X10_dinnersIn E a_t_trial a_t_trial_county a_t_trial_county_comes a_t_trial_county_goes a_t_trial_county_kindOf a_t_trial_county_likings a_t_trial_county_lists a_t_trial_evening a_t_trial_evening_hours a_t_trial_evening_openers a_t_now v3.1 v3.2.1 v3.2.2.1 v3.2.2.2.1 v3.2.2.2.2.1 v3.2.2.2.2.2.1 v3.2.2.2.2.2.2.1 v3.2.2.2.2.2.2.2.1 v3.2.2.2.2.2.2.2.2.1 v3.2.2.2.2.2.2.2.2.2.1 v3.2.2.2.2.2.2.2.2.2.2 c_t_trial_evening_begun c_t_trial_evening_waited r_t_trial_evening_hours r_t_trial_evening_openers x1 v4 hv4) [7, 8, 9, 10, 11, 12, 13, 14, 15, 16] rfl (by decide +kernel) rfl [none, none, none, none, none, none, none, some 0, some 1, some 2, some 3, some 4, some 5, some 6, some 7, some 8, some 9] 17 (by decide +kernel) rfl rfl 0 rfl rfl ⟨by decide, by decide⟩ ⟨rfl, rfl⟩ ⟨Nat.zero_le _, Nat.zero_le _⟩ rfl rfl rfl (Nat.le_of_ble_eq_true rfl) dX11_runs_32 ?_
      refine g_istore_n (pc := 35) (lv' := [(3, .int v4.1), (0, .ref a_t), (1, .int x1), (2, .int x2)]) C dX11_runs_35 (by decide) rfl ?_
      refine g_iload_n (pc := 36) C dX11_runs_36 3 rfl ?_
      rcases o_ite h with ⟨c0, h⟩ | ⟨c0, h⟩
      · refine g_tabIn (pc := 37) 64 0 C dX11_runs_37 (by rw [c0]; rfl) (by decide) rfl (by decide) ?_
        refine g_iload_n (pc := 64) C dX11_runs_64 0 rfl ?_
        obtain rfl := Option.some.inj h
        exact g_iret (pc := 65) C K dX11_runs_65
      · rcases o_ite h with ⟨c1, h⟩ | ⟨c1, h⟩
        · refine g_tabIn (pc := 37) 66 1 C dX11_runs_37 (by rw [c1]; rfl) (by decide) rfl (by decide) ?_
          refine g_aload_n (pc := 66) C dX11_runs_66 1 rfl ?_
          refine g_get (pc := 67) 0 C fl_X11_44 rfl rfl dX11_runs_67 ?_
          refine g_get (pc := 70) 7 C fl_X11_222 rfl rfl dX11_runs_70 ?_
          obtain rfl := Option.some.inj h
          exact g_iret (pc := 73) C K dX11_runs_73
        · rcases o_ite h with ⟨c2, h⟩ | ⟨c2, h⟩
          · refine g_tabIn (pc := 37) 74 2 C dX11_runs_37 (by rw [c2]; rfl) (by decide) rfl (by decide) ?_
            refine g_aload_n (pc := 74) C dX11_runs_74 1 rfl ?_
            refine g_get (pc := 75) 0 C fl_X11_44 rfl rfl dX11_runs_75 ?_
            refine g_get (pc := 78) 7 C fl_X11_223 rfl rfl dX11_runs_78 ?_
            obtain rfl := Option.some.inj h
            exact g_iret (pc := 81) C K dX11_runs_81
          · refine g_tabOut (pc := 37) 82 C dX11_runs_37 (by have := sw_n 0 (by decide) c0; have := sw_n 1 (by decide) c1; have := sw_n 2 (by decide) c2; omega) (by decide) ?_
            refine g_aload_n (pc := 82) C dX11_runs_82 1 rfl ?_
            refine g_get (pc := 83) 0 C fl_X11_44 rfl rfl dX11_runs_83 ?_
            refine g_get (pc := 86) 7 C fl_X11_219 rfl rfl dX11_runs_86 ?_
            obtain ⟨v5, hv5, h⟩ := o_bnd h
            refine g_callV (pc := 89) (ws' := [oX11 a_t a_t_tape a_t_reader a_t_now a_t_seen a_t_trial a_t_advice a_t_odds a_t_guess a_t_images a_t_sheets c_t_tornFault, oX1 a_t_now c_t_now_houses c_t_now_comers c_t_now_evening a_t_now_lists a_t_now_kindOf a_t_now_goes a_t_now_comes a_t_now_likings, aI E a_t_now_comes 6 r_t_now_comes, aI E a_t_now_goes 6 r_t_now_goes, aI E a_t_now_kindOf 6 r_t_now_kindOf, aI E a_t_now_likings 24 r_t_now_likings, aI E a_t_now_lists 4 r_t_now_lists, oX10 a_t_trial a_t_now a_t_trial_county a_t_trial_evening v4.2.1 v4.2.2.1 v4.2.2.2.1, oX1 a_t_trial_county v3.2.2.2.1 v3.2.2.2.2.1 v4.2.2.2.2.1 a_t_trial_county_lists a_t_trial_county_kindOf a_t_trial_county_goes a_t_trial_county_comes a_t_trial_county_likings, aI E a_t_trial_county_comes 6 v3.2.2.2.2.2.2.1, aI E a_t_trial_county_goes 6 v3.2.2.2.2.2.2.2.1, aI E a_t_trial_county_kindOf 6 v3.2.2.2.2.2.2.2.2.1, aI E a_t_trial_county_likings 24 v4.2.2.2.2.2.1, aI E a_t_trial_county_lists 4 v3.2.2.2.2.2.2.2.2.2.2, oX2 a_t_trial_evening a_t_trial_evening_hours a_t_trial_evening_openers v4.2.2.2.2.2.2.1 v4.2.2.2.2.2.2.2.1, aI E a_t_trial_evening_hours 4 v4.2.2.2.2.2.2.2.2.1, aI E a_t_trial_evening_openers 4 v4.2.2.2.2.2.2.2.2.2]) (st1 := [.int v5]) C mv_X11_226 (k_X1_likings E a_t_trial_county a_t_trial_county_likings a_t_trial_county_lists a_t_trial_county_kindOf a_t_trial_county_goes a_t_trial_county_comes v3.2.2.2.1 v3.2.2.2.2.1 v4.2.2.2.2.1 v4.2.2.2.2.2.1 v5 hv5) [8, 12] rfl (by decide +kernel) rfl [none, none, none, none, none, none, none, none, some 0, none, none, none, some 1, none, none, none, none] 17 (by decide +kernel) rfl rfl 0 rfl rfl ⟨by decide, by decide⟩ ⟨rfl, rfl⟩ ⟨Nat.zero_le _, Nat.zero_le _⟩ rfl rfl rfl (Nat.le_of_ble_eq_true rfl) dX11_runs_89 ?_
            obtain rfl := Option.some.inj h
            exact g_iret (pc := 92) C K dX11_runs_92
    · refine g_iconst (pc := 17) (v := (-1)) C dX11_runs_17 (by decide) ?_
      obtain rfl := Option.some.inj h
      exact g_iret (pc := 18) C K dX11_runs_18
theorem dX11_ahead_0 : decode cX11_ahead 0 = .ok (.aload_n 0, 1) := by decide +kernel
theorem dX11_ahead_1 : decode cX11_ahead 1 = .ok (.iload_n 1, 1) := by decide +kernel
theorem dX11_ahead_2 : decode cX11_ahead 2 = .ok (.invokevirtual 146, 3) := by decide +kernel
theorem dX11_ahead_5 : decode cX11_ahead 5 = .ok (.ifCond .ne 20, 3) := by decide +kernel
theorem dX11_ahead_8 : decode cX11_ahead 8 = .ok (.aload_n 0, 1) := by decide +kernel
theorem dX11_ahead_9 : decode cX11_ahead 9 = .ok (.iload_n 2, 1) := by decide +kernel
theorem dX11_ahead_10 : decode cX11_ahead 10 = .ok (.invokevirtual 169, 3) := by decide +kernel
theorem dX11_ahead_13 : decode cX11_ahead 13 = .ok (.ifCond .ne 12, 3) := by decide +kernel
theorem dX11_ahead_16 : decode cX11_ahead 16 = .ok (.iload_n 3, 1) := by decide +kernel
theorem dX11_ahead_17 : decode cX11_ahead 17 = .ok (.bipush 60, 2) := by decide +kernel
theorem dX11_ahead_19 : decode cX11_ahead 19 = .ok (.invokestatic 91, 3) := by decide +kernel
theorem dX11_ahead_22 : decode cX11_ahead 22 = .ok (.ifCond .eq 5, 3) := by decide +kernel
theorem dX11_ahead_25 : decode cX11_ahead 25 = .ok (.iconst (-1), 1) := by decide +kernel
theorem dX11_ahead_26 : decode cX11_ahead 26 = .ok (.ireturn, 1) := by decide +kernel
theorem dX11_ahead_27 : decode cX11_ahead 27 = .ok (.aload_n 0, 1) := by decide +kernel
theorem dX11_ahead_28 : decode cX11_ahead 28 = .ok (.getfield 44, 3) := by decide +kernel
theorem dX11_ahead_31 : decode cX11_ahead 31 = .ok (.invokevirtual 212, 3) := by decide +kernel
theorem dX11_ahead_34 : decode cX11_ahead 34 = .ok (.pop, 1) := by decide +kernel
theorem dX11_ahead_35 : decode cX11_ahead 35 = .ok (.aload_n 0, 1) := by decide +kernel
theorem dX11_ahead_36 : decode cX11_ahead 36 = .ok (.getfield 44, 3) := by decide +kernel
theorem dX11_ahead_39 : decode cX11_ahead 39 = .ok (.iload_n 3, 1) := by decide +kernel
theorem dX11_ahead_40 : decode cX11_ahead 40 = .ok (.invokevirtual 216, 3) := by decide +kernel
theorem dX11_ahead_43 : decode cX11_ahead 43 = .ok (.pop, 1) := by decide +kernel
theorem dX11_ahead_44 : decode cX11_ahead 44 = .ok (.aload_n 0, 1) := by decide +kernel
theorem dX11_ahead_45 : decode cX11_ahead 45 = .ok (.getfield 44, 3) := by decide +kernel
theorem dX11_ahead_48 : decode cX11_ahead 48 = .ok (.getfield 219, 3) := by decide +kernel
theorem dX11_ahead_51 : decode cX11_ahead 51 = .ok (.iload_n 1, 1) := by decide +kernel
theorem dX11_ahead_52 : decode cX11_ahead 52 = .ok (.iload_n 2, 1) := by decide +kernel
theorem dX11_ahead_53 : decode cX11_ahead 53 = .ok (.invokevirtual 190, 3) := by decide +kernel
theorem dX11_ahead_56 : decode cX11_ahead 56 = .ok (.ireturn, 1) := by decide +kernel
def f_X11_ahead (c_t_now_houses : Int32) (c_t_now_comers : Int32) (c_t_now_evening : Int32) (r_t_now_comes : (Nat → Int32)) (r_t_now_goes : (Nat → Int32)) (r_t_now_kindOf : (Nat → Int32)) (r_t_now_likings : (Nat → Int32)) (r_t_now_lists : (Nat → Int32)) (c_t_trial_evenings : Int32) (c_t_trial_waited : Int32) (c_t_trial_firstFast : Int32) (c_t_trial_county_houses : Int32) (c_t_trial_county_comers : Int32) (c_t_trial_county_evening : Int32) (r_t_trial_county_comes : (Nat → Int32)) (r_t_trial_county_goes : (Nat → Int32)) (r_t_trial_county_kindOf : (Nat → Int32)) (r_t_trial_county_likings : (Nat → Int32)) (r_t_trial_county_lists : (Nat → Int32)) (c_t_trial_evening_begun : Int32) (c_t_trial_evening_waited : Int32) (r_t_trial_evening_hours : (Nat → Int32)) (r_t_trial_evening_openers : (Nat → Int32)) (x1 : Int32) (x2 : Int32) (x3 : Int32) : Option (Int32 × Int32 × Int32 × Int32 × Int32 × Int32 × Int32 × (Nat → Int32) × (Nat → Int32) × (Nat → Int32) × (Nat → Int32) × (Nat → Int32) × Int32 × Int32 × (Nat → Int32) × (Nat → Int32)) :=
  (f_X11_noHouse c_t_now_houses x1).bind (fun (v1 : Int32) =>
    if v1 = 0 then
      ((f_X11_noComer c_t_now_comers x2).bind (fun (v2 : Int32) =>
        if v2 = 0 then
          ((f_X11_outside x3 60).bind (fun (v3 : Int32) =>
            if v3 = 0 then
              ((f_X10_restart c_t_trial_evenings c_t_trial_waited c_t_trial_firstFast c_t_trial_county_houses c_t_trial_county_comers c_t_trial_county_evening r_t_trial_county_comes r_t_trial_county_goes r_t_trial_county_kindOf r_t_trial_county_likings r_t_trial_county_lists c_t_now_houses c_t_now_comers c_t_now_evening r_t_now_comes r_t_now_goes r_t_now_kindOf r_t_now_likings r_t_now_lists).bind (fun (v4 : Int32 × Int32 × Int32 × Int32 × Int32 × Int32 × (Nat → Int32) × (Nat → Int32) × (Nat → Int32) × (Nat → Int32) × (Nat → Int32)) =>
                (f_X10_dinnersIn v4.1 v4.2.1 v4.2.2.1 v4.2.2.2.1 v4.2.2.2.2.1 v4.2.2.2.2.2.1 v4.2.2.2.2.2.2.1 v4.2.2.2.2.2.2.2.1 v4.2.2.2.2.2.2.2.2.1 v4.2.2.2.2.2.2.2.2.2.1 v4.2.2.2.2.2.2.2.2.2.2 c_t_trial_evening_begun c_t_trial_evening_waited r_t_trial_evening_hours r_t_trial_evening_openers x3).bind (fun (v5 : Int32 × Int32 × Int32 × Int32 × Int32 × (Nat → Int32) × Int32 × Int32 × (Nat → Int32) × (Nat → Int32)) =>
                  (f_X1_liked v5.2.2.2.2.2.1 x1 x2).bind (fun (v6 : Int32) =>
                    some ((v6, v5.2.1, v5.2.2.1, v5.2.2.2.1, v4.2.2.2.1, v4.2.2.2.2.1, v5.2.2.2.2.1, v4.2.2.2.2.2.2.1, v4.2.2.2.2.2.2.2.1, v4.2.2.2.2.2.2.2.2.1, v5.2.2.2.2.2.1, v4.2.2.2.2.2.2.2.2.2.2, v5.2.2.2.2.2.2.1, v5.2.2.2.2.2.2.2.1, v5.2.2.2.2.2.2.2.2.1, v5.2.2.2.2.2.2.2.2.2))))))
            else
              (some (((-1), c_t_trial_evenings, c_t_trial_waited, c_t_trial_firstFast, c_t_trial_county_houses, c_t_trial_county_comers, c_t_trial_county_evening, r_t_trial_county_comes, r_t_trial_county_goes, r_t_trial_county_kindOf, r_t_trial_county_likings, r_t_trial_county_lists, c_t_trial_evening_begun, c_t_trial_evening_waited, r_t_trial_evening_hours, r_t_trial_evening_openers)))))
        else
          (some (((-1), c_t_trial_evenings, c_t_trial_waited, c_t_trial_firstFast, c_t_trial_county_houses, c_t_trial_county_comers, c_t_trial_county_evening, r_t_trial_county_comes, r_t_trial_county_goes, r_t_trial_county_kindOf, r_t_trial_county_likings, r_t_trial_county_lists, c_t_trial_evening_begun, c_t_trial_evening_waited, r_t_trial_evening_hours, r_t_trial_evening_openers)))))
    else
      (some (((-1), c_t_trial_evenings, c_t_trial_waited, c_t_trial_firstFast, c_t_trial_county_houses, c_t_trial_county_comers, c_t_trial_county_evening, r_t_trial_county_comes, r_t_trial_county_goes, r_t_trial_county_kindOf, r_t_trial_county_likings, r_t_trial_county_lists, c_t_trial_evening_begun, c_t_trial_evening_waited, r_t_trial_evening_hours, r_t_trial_evening_openers))))
abbrev rm_X11_ahead : Room := { frames := 5, cells := 0, slots := 0, locals := 122 }
set_option maxHeartbeats 4000000 in
set_option maxRecDepth 100000 in
theorem k_X11_ahead (E : Ev) (a_t a_t_now a_t_now_comes a_t_now_goes a_t_now_kindOf a_t_now_likings a_t_now_lists a_t_trial a_t_trial_county a_t_trial_county_comes a_t_trial_county_goes a_t_trial_county_kindOf a_t_trial_county_likings a_t_trial_county_lists a_t_trial_evening a_t_trial_evening_hours a_t_trial_evening_openers a_t_tape a_t_reader a_t_seen a_t_advice a_t_odds a_t_guess a_t_images a_t_sheets : Nat) (c_t_tornFault : Int32) (c_t_now_houses : Int32) (c_t_now_comers : Int32) (c_t_now_evening : Int32) (r_t_now_comes : (Nat → Int32)) (r_t_now_goes : (Nat → Int32)) (r_t_now_kindOf : (Nat → Int32)) (r_t_now_likings : (Nat → Int32)) (r_t_now_lists : (Nat → Int32)) (c_t_trial_evenings : Int32) (c_t_trial_waited : Int32) (c_t_trial_firstFast : Int32) (c_t_trial_county_houses : Int32) (c_t_trial_county_comers : Int32) (c_t_trial_county_evening : Int32) (r_t_trial_county_comes : (Nat → Int32)) (r_t_trial_county_goes : (Nat → Int32)) (r_t_trial_county_kindOf : (Nat → Int32)) (r_t_trial_county_likings : (Nat → Int32)) (r_t_trial_county_lists : (Nat → Int32)) (c_t_trial_evening_begun : Int32) (c_t_trial_evening_waited : Int32) (r_t_trial_evening_hours : (Nat → Int32)) (r_t_trial_evening_openers : (Nat → Int32)) (x1 : Int32) (x2 : Int32) (x3 : Int32) (v : Int32 × Int32 × Int32 × Int32 × Int32 × Int32 × Int32 × (Nat → Int32) × (Nat → Int32) × (Nat → Int32) × (Nat → Int32) × (Nat → Int32) × Int32 × Int32 × (Nat → Int32) × (Nat → Int32)) (h : f_X11_ahead c_t_now_houses c_t_now_comers c_t_now_evening r_t_now_comes r_t_now_goes r_t_now_kindOf r_t_now_likings r_t_now_lists c_t_trial_evenings c_t_trial_waited c_t_trial_firstFast c_t_trial_county_houses c_t_trial_county_comers c_t_trial_county_evening r_t_trial_county_comes r_t_trial_county_goes r_t_trial_county_kindOf r_t_trial_county_likings r_t_trial_county_lists c_t_trial_evening_begun c_t_trial_evening_waited r_t_trial_evening_hours r_t_trial_evening_openers x1 x2 x3 = some v) : Mt E yX11_ahead cX11_ahead 4 (some .int) rm_X11_ahead [.ref a_t, .int x1, .int x2, .int x3] [oX11 a_t a_t_tape a_t_reader a_t_now a_t_seen a_t_trial a_t_advice a_t_odds a_t_guess a_t_images a_t_sheets c_t_tornFault, oX1 a_t_now c_t_now_houses c_t_now_comers c_t_now_evening a_t_now_lists a_t_now_kindOf a_t_now_goes a_t_now_comes a_t_now_likings, aI E a_t_now_comes 6 r_t_now_comes, aI E a_t_now_goes 6 r_t_now_goes, aI E a_t_now_kindOf 6 r_t_now_kindOf, aI E a_t_now_likings 24 r_t_now_likings, aI E a_t_now_lists 4 r_t_now_lists, oX10 a_t_trial a_t_now a_t_trial_county a_t_trial_evening c_t_trial_evenings c_t_trial_waited c_t_trial_firstFast, oX1 a_t_trial_county c_t_trial_county_houses c_t_trial_county_comers c_t_trial_county_evening a_t_trial_county_lists a_t_trial_county_kindOf a_t_trial_county_goes a_t_trial_county_comes a_t_trial_county_likings, aI E a_t_trial_county_comes 6 r_t_trial_county_comes, aI E a_t_trial_county_goes 6 r_t_trial_county_goes, aI E a_t_trial_county_kindOf 6 r_t_trial_county_kindOf, aI E a_t_trial_county_likings 24 r_t_trial_county_likings, aI E a_t_trial_county_lists 4 r_t_trial_county_lists, oX2 a_t_trial_evening a_t_trial_evening_hours a_t_trial_evening_openers c_t_trial_evening_begun c_t_trial_evening_waited, aI E a_t_trial_evening_hours 4 r_t_trial_evening_hours, aI E a_t_trial_evening_openers 4 r_t_trial_evening_openers] [oX11 a_t a_t_tape a_t_reader a_t_now a_t_seen a_t_trial a_t_advice a_t_odds a_t_guess a_t_images a_t_sheets c_t_tornFault, oX1 a_t_now c_t_now_houses c_t_now_comers c_t_now_evening a_t_now_lists a_t_now_kindOf a_t_now_goes a_t_now_comes a_t_now_likings, aI E a_t_now_comes 6 r_t_now_comes, aI E a_t_now_goes 6 r_t_now_goes, aI E a_t_now_kindOf 6 r_t_now_kindOf, aI E a_t_now_likings 24 r_t_now_likings, aI E a_t_now_lists 4 r_t_now_lists, oX10 a_t_trial a_t_now a_t_trial_county a_t_trial_evening v.2.1 v.2.2.1 v.2.2.2.1, oX1 a_t_trial_county v.2.2.2.2.1 v.2.2.2.2.2.1 v.2.2.2.2.2.2.1 a_t_trial_county_lists a_t_trial_county_kindOf a_t_trial_county_goes a_t_trial_county_comes a_t_trial_county_likings, aI E a_t_trial_county_comes 6 v.2.2.2.2.2.2.2.1, aI E a_t_trial_county_goes 6 v.2.2.2.2.2.2.2.2.1, aI E a_t_trial_county_kindOf 6 v.2.2.2.2.2.2.2.2.2.1, aI E a_t_trial_county_likings 24 v.2.2.2.2.2.2.2.2.2.2.1, aI E a_t_trial_county_lists 4 v.2.2.2.2.2.2.2.2.2.2.2.1, oX2 a_t_trial_evening a_t_trial_evening_hours a_t_trial_evening_openers v.2.2.2.2.2.2.2.2.2.2.2.2.1 v.2.2.2.2.2.2.2.2.2.2.2.2.2.1, aI E a_t_trial_evening_hours 4 v.2.2.2.2.2.2.2.2.2.2.2.2.2.2.1, aI E a_t_trial_evening_openers 4 v.2.2.2.2.2.2.2.2.2.2.2.2.2.2.2] (some (.int v.1)) := by
  refine Mt.intro (lv := [(0, .ref a_t), (1, .int x1), (2, .int x2), (3, .int x3)]) (by decide +kernel) (Nat.le_of_ble_eq_true rfl) rfl (fun X C K => ?_)
  have C : CX E X cX11_ahead RX11 4 rm_X11_ahead := C
  rw [f_X11_ahead] at h
  refine g_aload_n (pc := 0) C dX11_ahead_0 0 rfl ?_
  refine g_iload_n (pc := 1) C dX11_ahead_1 1 rfl ?_
  obtain ⟨v1, hv1, h⟩ := o_bnd h
  refine g_callV (pc := 2) (ws' := [oX11 a_t a_t_tape a_t_reader a_t_now a_t_seen a_t_trial a_t_advice a_t_odds a_t_guess a_t_images a_t_sheets c_t_tornFault, oX1 a_t_now c_t_now_houses c_t_now_comers c_t_now_evening a_t_now_lists a_t_now_kindOf a_t_now_goes a_t_now_comes a_t_now_likings, aI E a_t_now_comes 6 r_t_now_comes, aI E a_t_now_goes 6 r_t_now_goes, aI E a_t_now_kindOf 6 r_t_now_kindOf, aI E a_t_now_likings 24 r_t_now_likings, aI E a_t_now_lists 4 r_t_now_lists, oX10 a_t_trial a_t_now a_t_trial_county a_t_trial_evening c_t_trial_evenings c_t_trial_waited c_t_trial_firstFast, oX1 a_t_trial_county c_t_trial_county_houses c_t_trial_county_comers c_t_trial_county_evening a_t_trial_county_lists a_t_trial_county_kindOf a_t_trial_county_goes a_t_trial_county_comes a_t_trial_county_likings, aI E a_t_trial_county_comes 6 r_t_trial_county_comes, aI E a_t_trial_county_goes 6 r_t_trial_county_goes, aI E a_t_trial_county_kindOf 6 r_t_trial_county_kindOf, aI E a_t_trial_county_likings 24 r_t_trial_county_likings, aI E a_t_trial_county_lists 4 r_t_trial_county_lists, oX2 a_t_trial_evening a_t_trial_evening_hours a_t_trial_evening_openers c_t_trial_evening_begun c_t_trial_evening_waited, aI E a_t_trial_evening_hours 4 r_t_trial_evening_hours, aI E a_t_trial_evening_openers 4 r_t_trial_evening_openers]) (st1 := [.int v1]) C mv_X11_146 (k_X11_noHouse E a_t a_t_now a_t_tape a_t_reader a_t_seen a_t_trial a_t_advice a_t_odds a_t_guess a_t_images a_t_sheets a_t_now_lists a_t_now_kindOf a_t_now_goes a_t_now_comes a_t_now_likings c_t_tornFault c_t_now_houses c_t_now_comers c_t_now_evening x1 v1 hv1) [0, 1] rfl (by decide +kernel) rfl [some 0, some 1, none, none, none, none, none, none, none, none, none, none, none, none, none, none, none] 17 (by decide +kernel) rfl rfl 0 rfl rfl ⟨by decide, by decide⟩ ⟨rfl, rfl⟩ ⟨Nat.zero_le _, Nat.zero_le _⟩ rfl rfl rfl (Nat.le_of_ble_eq_true rfl) dX11_ahead_2 ?_
  refine b_if_ne (pc := 5) 25 C dX11_ahead_5 (by decide) h (fun _ h => ?_) (fun _ h => ?_)
  · refine g_iconst (pc := 25) (v := (-1)) C dX11_ahead_25 (by decide) ?_
    obtain rfl := Option.some.inj h
    exact g_iret (pc := 26) C K dX11_ahead_26
  · refine g_aload_n (pc := 8) C dX11_ahead_8 0 rfl ?_
    refine g_iload_n (pc := 9) C dX11_ahead_9 2 rfl ?_
    obtain ⟨v2, hv2, h⟩ := o_bnd h
    refine g_callV (pc := 10) (ws' := [oX11 a_t a_t_tape a_t_reader a_t_now a_t_seen a_t_trial a_t_advice a_t_odds a_t_guess a_t_images a_t_sheets c_t_tornFault, oX1 a_t_now c_t_now_houses c_t_now_comers c_t_now_evening a_t_now_lists a_t_now_kindOf a_t_now_goes a_t_now_comes a_t_now_likings, aI E a_t_now_comes 6 r_t_now_comes, aI E a_t_now_goes 6 r_t_now_goes, aI E a_t_now_kindOf 6 r_t_now_kindOf, aI E a_t_now_likings 24 r_t_now_likings, aI E a_t_now_lists 4 r_t_now_lists, oX10 a_t_trial a_t_now a_t_trial_county a_t_trial_evening c_t_trial_evenings c_t_trial_waited c_t_trial_firstFast, oX1 a_t_trial_county c_t_trial_county_houses c_t_trial_county_comers c_t_trial_county_evening a_t_trial_county_lists a_t_trial_county_kindOf a_t_trial_county_goes a_t_trial_county_comes a_t_trial_county_likings, aI E a_t_trial_county_comes 6 r_t_trial_county_comes, aI E a_t_trial_county_goes 6 r_t_trial_county_goes, aI E a_t_trial_county_kindOf 6 r_t_trial_county_kindOf, aI E a_t_trial_county_likings 24 r_t_trial_county_likings, aI E a_t_trial_county_lists 4 r_t_trial_county_lists, oX2 a_t_trial_evening a_t_trial_evening_hours a_t_trial_evening_openers c_t_trial_evening_begun c_t_trial_evening_waited, aI E a_t_trial_evening_hours 4 r_t_trial_evening_hours, aI E a_t_trial_evening_openers 4 r_t_trial_evening_openers]) (st1 := [.int v2]) C mv_X11_169 (k_X11_noComer E a_t a_t_now a_t_tape a_t_reader a_t_seen a_t_trial a_t_advice a_t_odds a_t_guess a_t_images a_t_sheets a_t_now_lists a_t_now_kindOf a_t_now_goes a_t_now_comes a_t_now_likings c_t_tornFault c_t_now_houses c_t_now_comers c_t_now_evening x2 v2 hv2) [0, 1] rfl (by decide +kernel) rfl [some 0, some 1, none, none, none, none, none, none, none, none, none, none, none, none, none, none, none] 17 (by decide +kernel) rfl rfl 0 rfl rfl ⟨by decide, by decide⟩ ⟨rfl, rfl⟩ ⟨Nat.zero_le _, Nat.zero_le _⟩ rfl rfl rfl (Nat.le_of_ble_eq_true rfl) dX11_ahead_10 ?_
    refine b_if_ne (pc := 13) 25 C dX11_ahead_13 (by decide) h (fun _ h => ?_) (fun _ h => ?_)
    · refine g_iconst (pc := 25) (v := (-1)) C dX11_ahead_25 (by decide) ?_
      obtain rfl := Option.some.inj h
      exact g_iret (pc := 26) C K dX11_ahead_26
    · refine g_iload_n (pc := 16) C dX11_ahead_16 3 rfl ?_
      refine g_bipush (pc := 17) (v := 60) C dX11_ahead_17 (by decide) ?_
      obtain ⟨v3, hv3, h⟩ := o_bnd h
      refine g_callS (pc := 19) (ws' := [oX11 a_t a_t_tape a_t_reader a_t_now a_t_seen a_t_trial a_t_advice a_t_odds a_t_guess a_t_images a_t_sheets c_t_tornFault, oX1 a_t_now c_t_now_houses c_t_now_comers c_t_now_evening a_t_now_lists a_t_now_kindOf a_t_now_goes a_t_now_comes a_t_now_likings, aI E a_t_now_comes 6 r_t_now_comes, aI E a_t_now_goes 6 r_t_now_goes, aI E a_t_now_kindOf 6 r_t_now_kindOf, aI E a_t_now_likings 24 r_t_now_likings, aI E a_t_now_lists 4 r_t_now_lists, oX10 a_t_trial a_t_now a_t_trial_county a_t_trial_evening c_t_trial_evenings c_t_trial_waited c_t_trial_firstFast, oX1 a_t_trial_county c_t_trial_county_houses c_t_trial_county_comers c_t_trial_county_evening a_t_trial_county_lists a_t_trial_county_kindOf a_t_trial_county_goes a_t_trial_county_comes a_t_trial_county_likings, aI E a_t_trial_county_comes 6 r_t_trial_county_comes, aI E a_t_trial_county_goes 6 r_t_trial_county_goes, aI E a_t_trial_county_kindOf 6 r_t_trial_county_kindOf, aI E a_t_trial_county_likings 24 r_t_trial_county_likings, aI E a_t_trial_county_lists 4 r_t_trial_county_lists, oX2 a_t_trial_evening a_t_trial_evening_hours a_t_trial_evening_openers c_t_trial_evening_begun c_t_trial_evening_waited, aI E a_t_trial_evening_hours 4 r_t_trial_evening_hours, aI E a_t_trial_evening_openers 4 r_t_trial_evening_openers]) (st1 := [.int v3]) C ms_X11_91 (k_X11_outside E x3 60 v3 hv3) [] rfl (by decide +kernel) rfl [none, none, none, none, none, none, none, none, none, none, none, none, none, none, none, none, none] 17 (by decide +kernel) rfl rfl ⟨by decide, by decide⟩ ⟨rfl, rfl⟩ ⟨Nat.zero_le _, Nat.zero_le _⟩ rfl rfl rfl (Nat.le_of_ble_eq_true rfl) dX11_ahead_19 ?_
      refine b_if_eq (pc := 22) 27 C dX11_ahead_22 (by decide) h (fun _ h => ?_) (fun _ h => ?_)
      · refine g_aload_n (pc := 27) C dX11_ahead_27 0 rfl ?_
        refine g_get (pc := 28) 0 C fl_X11_44 rfl rfl dX11_ahead_28 ?_
        obtain ⟨v4, hv4, h⟩ := o_bnd h
        refine g_callV (pc := 31) (ws' := [oX11 a_t a_t_tape a_t_reader a_t_now a_t_seen a_t_trial a_t_advice a_t_odds a_t_guess a_t_images a_t_sheets c_t_tornFault, oX1 a_t_now c_t_now_houses c_t_now_comers c_t_now_evening a_t_now_lists a_t_now_kindOf a_t_now_goes a_t_now_comes a_t_now_likings, aI E a_t_now_comes 6 r_t_now_comes, aI E a_t_now_goes 6 r_t_now_goes, aI E a_t_now_kindOf 6 r_t_now_kindOf, aI E a_t_now_likings 24 r_t_now_likings, aI E a_t_now_lists 4 r_t_now_lists, oX10 a_t_trial a_t_now a_t_trial_county a_t_trial_evening v4.1 v4.2.1 v4.2.2.1, oX1 a_t_trial_county v4.2.2.2.1 v4.2.2.2.2.1 v4.2.2.2.2.2.1 a_t_trial_county_lists a_t_trial_county_kindOf a_t_trial_county_goes a_t_trial_county_comes a_t_trial_county_likings, aI E a_t_trial_county_comes 6 v4.2.2.2.2.2.2.1, aI E a_t_trial_county_goes 6 v4.2.2.2.2.2.2.2.1, aI E a_t_trial_county_kindOf 6 v4.2.2.2.2.2.2.2.2.1, aI E a_t_trial_county_likings 24 v4.2.2.2.2.2.2.2.2.2.1, aI E a_t_trial_county_lists 4 v4.2.2.2.2.2.2.2.2.2.2, oX2 a_t_trial_evening a_t_trial_evening_hours a_t_trial_evening_openers c_t_trial_evening_begun c_t_trial_evening_waited, aI E a_t_trial_evening_hours 4 r_t_trial_evening_hours, aI E a_t_trial_evening_openers 4 r_t_trial_evening_openers]) (st1 := [.ref a_t_trial_county]) C mv_X11_212 (k_X10_restart E a_t_trial a_t_trial_county a_t_trial_county_comes a_t_trial_county_goes a_t_trial_county_kindOf a_t_trial_county_likings a_t_trial_county_lists a_t_now a_t_now_comes a_t_now_goes a_t_now_kindOf a_t_now_likings a_t_now_lists a_t_trial_evening c_t_trial_evenings c_t_trial_waited c_t_trial_firstFast c_t_trial_county_houses c_t_trial_county_comers c_t_trial_county_evening r_t_trial_county_comes r_t_trial_county_goes r_t_trial_county_kindOf r_t_trial_county_likings r_t_trial_county_lists c_t_now_houses c_t_now_comers c_t_now_evening r_t_now_comes r_t_now_goes r_t_now_kindOf r_t_now_likings r_t_now_lists v4 hv4) [7, 8, 9, 10, 11, 12, 13, 1, 2, 3, 4, 5, 6] rfl (by decide +kernel) rfl [none, some 7, some 8, some 9, some 10, some 11, some 12, some 0, some 1, some 2, some 3, some 4, some 5, some 6, none, none, none] 17 (by decide +kernel) rfl rfl 0 rfl rfl ⟨by decide, by decide⟩ ⟨rfl, rfl⟩ ⟨Nat.zero_le _, Nat.zero_le _⟩ rfl rfl rfl (Nat.le_of_ble_eq_true rfl) dX11_ahead_31 ?_
        refine g_pop (pc := 34) C dX11_ahead_34 rfl ?_
        refine g_aload_n (pc := 35) C dX11_ahead_35 0 rfl ?_
        refine g_get (pc := 36) 0 C fl_X11_44 rfl rfl dX11_ahead_36 ?_
        refine g_iload_n (pc := 39) C dX11_ahead_39 3 rfl ?_
        obtain ⟨v5, hv5, h⟩ := o_bnd h
        refine g_callV (pc := 40) (ws' := [oX11 a_t a_t_tape a_t_reader a_t_now a_t_seen a_t_trial a_t_advice a_t_odds a_t_guess a_t_images a_t_sheets c_t_tornFault, oX1 a_t_now c_t_now_houses c_t_now_comers c_t_now_evening a_t_now_lists a_t_now_kindOf a_t_now_goes a_t_now_comes a_t_now_likings, aI E a_t_now_comes 6 r_t_now_comes, aI E a_t_now_goes 6 r_t_now_goes, aI E a_t_now_kindOf 6 r_t_now_kindOf, aI E a_t_now_likings 24 r_t_now_likings, aI E a_t_now_lists 4 r_t_now_lists, oX10 a_t_trial a_t_now a_t_trial_county a_t_trial_evening v5.2.1 v5.2.2.1 v5.2.2.2.1, oX1 a_t_trial_county v4.2.2.2.1 v4.2.2.2.2.1 v5.2.2.2.2.1 a_t_trial_county_lists a_t_trial_county_kindOf a_t_trial_county_goes a_t_trial_county_comes a_t_trial_county_likings, aI E a_t_trial_county_comes 6 v4.2.2.2.2.2.2.1, aI E a_t_trial_county_goes 6 v4.2.2.2.2.2.2.2.1, aI E a_t_trial_county_kindOf 6 v4.2.2.2.2.2.2.2.2.1, aI E a_t_trial_county_likings 24 v5.2.2.2.2.2.1, aI E a_t_trial_county_lists 4 v4.2.2.2.2.2.2.2.2.2.2, oX2 a_t_trial_evening a_t_trial_evening_hours a_t_trial_evening_openers v5.2.2.2.2.2.2.1 v5.2.2.2.2.2.2.2.1, aI E a_t_trial_evening_hours 4 v5.2.2.2.2.2.2.2.2.1, aI E a_t_trial_evening_openers 4 v5.2.2.2.2.2.2.2.2.2]) (st1 := [.int v5.1]) C mv_X11_216 (k_X10_dinnersIn E a_t_trial a_t_trial_county a_t_trial_county_comes a_t_trial_county_goes a_t_trial_county_kindOf a_t_trial_county_likings a_t_trial_county_lists a_t_trial_evening a_t_trial_evening_hours a_t_trial_evening_openers a_t_now v4.1 v4.2.1 v4.2.2.1 v4.2.2.2.1 v4.2.2.2.2.1 v4.2.2.2.2.2.1 v4.2.2.2.2.2.2.1 v4.2.2.2.2.2.2.2.1 v4.2.2.2.2.2.2.2.2.1 v4.2.2.2.2.2.2.2.2.2.1 v4.2.2.2.2.2.2.2.2.2.2 c_t_trial_evening_begun c_t_trial_evening_waited r_t_trial_evening_hours r_t_trial_evening_openers x3 v5 hv5) [7, 8, 9, 10, 11, 12, 13, 14, 15, 16] rfl (by decide +kernel) rfl [none, none, none, none, none, none, none, some 0, some 1, some 2, some 3, some 4, some 5, some 6, some 7, some 8, some 9] 17 (by decide +kernel) rfl rfl 0 rfl rfl ⟨by decide, by decide⟩ ⟨rfl, rfl⟩ ⟨Nat.zero_le _, Nat.zero_le _⟩ rfl rfl rfl (Nat.le_of_ble_eq_true rfl) dX11_ahead_40 ?_
        refine g_pop (pc := 43) C dX11_ahead_43 rfl ?_
        refine g_aload_n (pc := 44) C dX11_ahead_44 0 rfl ?_
        refine g_get (pc := 45) 0 C fl_X11_44 rfl rfl dX11_ahead_45 ?_
        refine g_get (pc := 48) 7 C fl_X11_219 rfl rfl dX11_ahead_48 ?_
        refine g_iload_n (pc := 51) C dX11_ahead_51 1 rfl ?_
        refine g_iload_n (pc := 52) C dX11_ahead_52 2 rfl ?_
        obtain ⟨v6, hv6, h⟩ := o_bnd h
        refine g_callV (pc := 53) (ws' := [oX11 a_t a_t_tape a_t_reader a_t_now a_t_seen a_t_trial a_t_advice a_t_odds a_t_guess a_t_images a_t_sheets c_t_tornFault, oX1 a_t_now c_t_now_houses c_t_now_comers c_t_now_evening a_t_now_lists a_t_now_kindOf a_t_now_goes a_t_now_comes a_t_now_likings, aI E a_t_now_comes 6 r_t_now_comes, aI E a_t_now_goes 6 r_t_now_goes, aI E a_t_now_kindOf 6 r_t_now_kindOf, aI E a_t_now_likings 24 r_t_now_likings, aI E a_t_now_lists 4 r_t_now_lists, oX10 a_t_trial a_t_now a_t_trial_county a_t_trial_evening v5.2.1 v5.2.2.1 v5.2.2.2.1, oX1 a_t_trial_county v4.2.2.2.1 v4.2.2.2.2.1 v5.2.2.2.2.1 a_t_trial_county_lists a_t_trial_county_kindOf a_t_trial_county_goes a_t_trial_county_comes a_t_trial_county_likings, aI E a_t_trial_county_comes 6 v4.2.2.2.2.2.2.1, aI E a_t_trial_county_goes 6 v4.2.2.2.2.2.2.2.1, aI E a_t_trial_county_kindOf 6 v4.2.2.2.2.2.2.2.2.1, aI E a_t_trial_county_likings 24 v5.2.2.2.2.2.1, aI E a_t_trial_county_lists 4 v4.2.2.2.2.2.2.2.2.2.2, oX2 a_t_trial_evening a_t_trial_evening_hours a_t_trial_evening_openers v5.2.2.2.2.2.2.1 v5.2.2.2.2.2.2.2.1, aI E a_t_trial_evening_hours 4 v5.2.2.2.2.2.2.2.2.1, aI E a_t_trial_evening_openers 4 v5.2.2.2.2.2.2.2.2.2]) (st1 := [.int v6]) C mv_X11_190 (k_X1_liked E a_t_trial_county a_t_trial_county_likings a_t_trial_county_lists a_t_trial_county_kindOf a_t_trial_county_goes a_t_trial_county_comes v4.2.2.2.1 v4.2.2.2.2.1 v5.2.2.2.2.1 v5.2.2.2.2.2.1 x1 x2 v6 hv6) [8, 12] rfl (by decide +kernel) rfl [none, none, none, none, none, none, none, none, some 0, none, none, none, some 1, none, none, none, none] 17 (by decide +kernel) rfl rfl 0 rfl rfl ⟨by decide, by decide⟩ ⟨rfl, rfl⟩ ⟨Nat.zero_le _, Nat.zero_le _⟩ rfl rfl rfl (Nat.le_of_ble_eq_true rfl) dX11_ahead_53 ?_
        obtain rfl := Option.some.inj h
        exact g_iret (pc := 56) C K dX11_ahead_56
      · refine g_iconst (pc := 25) (v := (-1)) C dX11_ahead_25 (by decide) ?_
        obtain rfl := Option.some.inj h
        exact g_iret (pc := 26) C K dX11_ahead_26
theorem dX11_begins_0 : decode cX11_begins 0 = .ok (.aload_n 0, 1) := by decide +kernel
theorem dX11_begins_1 : decode cX11_begins 1 = .ok (.iload_n 1, 1) := by decide +kernel
theorem dX11_begins_2 : decode cX11_begins 2 = .ok (.invokevirtual 146, 3) := by decide +kernel
theorem dX11_begins_5 : decode cX11_begins 5 = .ok (.ifCond .ne 12, 3) := by decide +kernel
theorem dX11_begins_8 : decode cX11_begins 8 = .ok (.iload_n 2, 1) := by decide +kernel
theorem dX11_begins_9 : decode cX11_begins 9 = .ok (.bipush 60, 2) := by decide +kernel
theorem dX11_begins_11 : decode cX11_begins 11 = .ok (.invokestatic 91, 3) := by decide +kernel
theorem dX11_begins_14 : decode cX11_begins 14 = .ok (.ifCond .eq 5, 3) := by decide +kernel
theorem dX11_begins_17 : decode cX11_begins 17 = .ok (.iconst (-1), 1) := by decide +kernel
theorem dX11_begins_18 : decode cX11_begins 18 = .ok (.ireturn, 1) := by decide +kernel
theorem dX11_begins_19 : decode cX11_begins 19 = .ok (.aload_n 0, 1) := by decide +kernel
theorem dX11_begins_20 : decode cX11_begins 20 = .ok (.getfield 44, 3) := by decide +kernel
theorem dX11_begins_23 : decode cX11_begins 23 = .ok (.invokevirtual 212, 3) := by decide +kernel
theorem dX11_begins_26 : decode cX11_begins 26 = .ok (.pop, 1) := by decide +kernel
theorem dX11_begins_27 : decode cX11_begins 27 = .ok (.aload_n 0, 1) := by decide +kernel
theorem dX11_begins_28 : decode cX11_begins 28 = .ok (.getfield 44, 3) := by decide +kernel
theorem dX11_begins_31 : decode cX11_begins 31 = .ok (.iload_n 2, 1) := by decide +kernel
theorem dX11_begins_32 : decode cX11_begins 32 = .ok (.iconst 1, 1) := by decide +kernel
theorem dX11_begins_33 : decode cX11_begins 33 = .ok (.iadd, 1) := by decide +kernel
theorem dX11_begins_34 : decode cX11_begins 34 = .ok (.invokevirtual 216, 3) := by decide +kernel
theorem dX11_begins_37 : decode cX11_begins 37 = .ok (.pop, 1) := by decide +kernel
theorem dX11_begins_38 : decode cX11_begins 38 = .ok (.aload_n 0, 1) := by decide +kernel
theorem dX11_begins_39 : decode cX11_begins 39 = .ok (.getfield 44, 3) := by decide +kernel
theorem dX11_begins_42 : decode cX11_begins 42 = .ok (.getfield 229, 3) := by decide +kernel
theorem dX11_begins_45 : decode cX11_begins 45 = .ok (.getfield 157, 3) := by decide +kernel
theorem dX11_begins_48 : decode cX11_begins 48 = .ok (.iload_n 1, 1) := by decide +kernel
theorem dX11_begins_49 : decode cX11_begins 49 = .ok (.iaload, 1) := by decide +kernel
theorem dX11_begins_50 : decode cX11_begins 50 = .ok (.invokestatic 160, 3) := by decide +kernel
theorem dX11_begins_53 : decode cX11_begins 53 = .ok (.ireturn, 1) := by decide +kernel
def f_X11_begins (c_t_now_houses : Int32) (c_t_now_comers : Int32) (c_t_now_evening : Int32) (r_t_now_comes : (Nat → Int32)) (r_t_now_goes : (Nat → Int32)) (r_t_now_kindOf : (Nat → Int32)) (r_t_now_likings : (Nat → Int32)) (r_t_now_lists : (Nat → Int32)) (c_t_trial_evenings : Int32) (c_t_trial_waited : Int32) (c_t_trial_firstFast : Int32) (c_t_trial_county_houses : Int32) (c_t_trial_county_comers : Int32) (c_t_trial_county_evening : Int32) (r_t_trial_county_comes : (Nat → Int32)) (r_t_trial_county_goes : (Nat → Int32)) (r_t_trial_county_kindOf : (Nat → Int32)) (r_t_trial_county_likings : (Nat → Int32)) (r_t_trial_county_lists : (Nat → Int32)) (c_t_trial_evening_begun : Int32) (c_t_trial_evening_waited : Int32) (r_t_trial_evening_hours : (Nat → Int32)) (r_t_trial_evening_openers : (Nat → Int32)) (x1 : Int32) (x2 : Int32) : Option (Int32 × Int32 × Int32 × Int32 × Int32 × Int32 × Int32 × (Nat → Int32) × (Nat → Int32) × (Nat → Int32) × (Nat → Int32) × (Nat → Int32) × Int32 × Int32 × (Nat → Int32) × (Nat → Int32)) :=
  (f_X11_noHouse c_t_now_houses x1).bind (fun (v1 : Int32) =>
    if v1 = 0 then
      ((f_X11_outside x2 60).bind (fun (v2 : Int32) =>
        if v2 = 0 then
          ((f_X10_restart c_t_trial_evenings c_t_trial_waited c_t_trial_firstFast c_t_trial_county_houses c_t_trial_county_comers c_t_trial_county_evening r_t_trial_county_comes r_t_trial_county_goes r_t_trial_county_kindOf r_t_trial_county_likings r_t_trial_county_lists c_t_now_houses c_t_now_comers c_t_now_evening r_t_now_comes r_t_now_goes r_t_now_kindOf r_t_now_likings r_t_now_lists).bind (fun (v3 : Int32 × Int32 × Int32 × Int32 × Int32 × Int32 × (Nat → Int32) × (Nat → Int32) × (Nat → Int32) × (Nat → Int32) × (Nat → Int32)) =>
            (f_X10_dinnersIn v3.1 v3.2.1 v3.2.2.1 v3.2.2.2.1 v3.2.2.2.2.1 v3.2.2.2.2.2.1 v3.2.2.2.2.2.2.1 v3.2.2.2.2.2.2.2.1 v3.2.2.2.2.2.2.2.2.1 v3.2.2.2.2.2.2.2.2.2.1 v3.2.2.2.2.2.2.2.2.2.2 c_t_trial_evening_begun c_t_trial_evening_waited r_t_trial_evening_hours r_t_trial_evening_openers (x2 + 1)).bind (fun (v4 : Int32 × Int32 × Int32 × Int32 × Int32 × (Nat → Int32) × Int32 × Int32 × (Nat → Int32) × (Nat → Int32)) =>
              if inb x1 4 then
                ((f_X11_hourOrNone (v4.2.2.2.2.2.2.2.2.1 (ix x1))).bind (fun (v5 : Int32) =>
                  some ((v5, v4.2.1, v4.2.2.1, v4.2.2.2.1, v3.2.2.2.1, v3.2.2.2.2.1, v4.2.2.2.2.1, v3.2.2.2.2.2.2.1, v3.2.2.2.2.2.2.2.1, v3.2.2.2.2.2.2.2.2.1, v4.2.2.2.2.2.1, v3.2.2.2.2.2.2.2.2.2.2, v4.2.2.2.2.2.2.1, v4.2.2.2.2.2.2.2.1, v4.2.2.2.2.2.2.2.2.1, v4.2.2.2.2.2.2.2.2.2))))
              else none)))
        else
          (some (((-1), c_t_trial_evenings, c_t_trial_waited, c_t_trial_firstFast, c_t_trial_county_houses, c_t_trial_county_comers, c_t_trial_county_evening, r_t_trial_county_comes, r_t_trial_county_goes, r_t_trial_county_kindOf, r_t_trial_county_likings, r_t_trial_county_lists, c_t_trial_evening_begun, c_t_trial_evening_waited, r_t_trial_evening_hours, r_t_trial_evening_openers)))))
    else
      (some (((-1), c_t_trial_evenings, c_t_trial_waited, c_t_trial_firstFast, c_t_trial_county_houses, c_t_trial_county_comers, c_t_trial_county_evening, r_t_trial_county_comes, r_t_trial_county_goes, r_t_trial_county_kindOf, r_t_trial_county_likings, r_t_trial_county_lists, c_t_trial_evening_begun, c_t_trial_evening_waited, r_t_trial_evening_hours, r_t_trial_evening_openers))))
abbrev rm_X11_begins : Room := { frames := 5, cells := 0, slots := 0, locals := 122 }
set_option maxHeartbeats 4000000 in
set_option maxRecDepth 100000 in
theorem k_X11_begins (E : Ev) (a_t a_t_now a_t_now_comes a_t_now_goes a_t_now_kindOf a_t_now_likings a_t_now_lists a_t_trial a_t_trial_county a_t_trial_county_comes a_t_trial_county_goes a_t_trial_county_kindOf a_t_trial_county_likings a_t_trial_county_lists a_t_trial_evening a_t_trial_evening_hours a_t_trial_evening_openers a_t_tape a_t_reader a_t_seen a_t_advice a_t_odds a_t_guess a_t_images a_t_sheets : Nat) (c_t_tornFault : Int32) (c_t_now_houses : Int32) (c_t_now_comers : Int32) (c_t_now_evening : Int32) (r_t_now_comes : (Nat → Int32)) (r_t_now_goes : (Nat → Int32)) (r_t_now_kindOf : (Nat → Int32)) (r_t_now_likings : (Nat → Int32)) (r_t_now_lists : (Nat → Int32)) (c_t_trial_evenings : Int32) (c_t_trial_waited : Int32) (c_t_trial_firstFast : Int32) (c_t_trial_county_houses : Int32) (c_t_trial_county_comers : Int32) (c_t_trial_county_evening : Int32) (r_t_trial_county_comes : (Nat → Int32)) (r_t_trial_county_goes : (Nat → Int32)) (r_t_trial_county_kindOf : (Nat → Int32)) (r_t_trial_county_likings : (Nat → Int32)) (r_t_trial_county_lists : (Nat → Int32)) (c_t_trial_evening_begun : Int32) (c_t_trial_evening_waited : Int32) (r_t_trial_evening_hours : (Nat → Int32)) (r_t_trial_evening_openers : (Nat → Int32)) (x1 : Int32) (x2 : Int32) (v : Int32 × Int32 × Int32 × Int32 × Int32 × Int32 × Int32 × (Nat → Int32) × (Nat → Int32) × (Nat → Int32) × (Nat → Int32) × (Nat → Int32) × Int32 × Int32 × (Nat → Int32) × (Nat → Int32)) (h : f_X11_begins c_t_now_houses c_t_now_comers c_t_now_evening r_t_now_comes r_t_now_goes r_t_now_kindOf r_t_now_likings r_t_now_lists c_t_trial_evenings c_t_trial_waited c_t_trial_firstFast c_t_trial_county_houses c_t_trial_county_comers c_t_trial_county_evening r_t_trial_county_comes r_t_trial_county_goes r_t_trial_county_kindOf r_t_trial_county_likings r_t_trial_county_lists c_t_trial_evening_begun c_t_trial_evening_waited r_t_trial_evening_hours r_t_trial_evening_openers x1 x2 = some v) : Mt E yX11_begins cX11_begins 3 (some .int) rm_X11_begins [.ref a_t, .int x1, .int x2] [oX11 a_t a_t_tape a_t_reader a_t_now a_t_seen a_t_trial a_t_advice a_t_odds a_t_guess a_t_images a_t_sheets c_t_tornFault, oX1 a_t_now c_t_now_houses c_t_now_comers c_t_now_evening a_t_now_lists a_t_now_kindOf a_t_now_goes a_t_now_comes a_t_now_likings, aI E a_t_now_comes 6 r_t_now_comes, aI E a_t_now_goes 6 r_t_now_goes, aI E a_t_now_kindOf 6 r_t_now_kindOf, aI E a_t_now_likings 24 r_t_now_likings, aI E a_t_now_lists 4 r_t_now_lists, oX10 a_t_trial a_t_now a_t_trial_county a_t_trial_evening c_t_trial_evenings c_t_trial_waited c_t_trial_firstFast, oX1 a_t_trial_county c_t_trial_county_houses c_t_trial_county_comers c_t_trial_county_evening a_t_trial_county_lists a_t_trial_county_kindOf a_t_trial_county_goes a_t_trial_county_comes a_t_trial_county_likings, aI E a_t_trial_county_comes 6 r_t_trial_county_comes, aI E a_t_trial_county_goes 6 r_t_trial_county_goes, aI E a_t_trial_county_kindOf 6 r_t_trial_county_kindOf, aI E a_t_trial_county_likings 24 r_t_trial_county_likings, aI E a_t_trial_county_lists 4 r_t_trial_county_lists, oX2 a_t_trial_evening a_t_trial_evening_hours a_t_trial_evening_openers c_t_trial_evening_begun c_t_trial_evening_waited, aI E a_t_trial_evening_hours 4 r_t_trial_evening_hours, aI E a_t_trial_evening_openers 4 r_t_trial_evening_openers] [oX11 a_t a_t_tape a_t_reader a_t_now a_t_seen a_t_trial a_t_advice a_t_odds a_t_guess a_t_images a_t_sheets c_t_tornFault, oX1 a_t_now c_t_now_houses c_t_now_comers c_t_now_evening a_t_now_lists a_t_now_kindOf a_t_now_goes a_t_now_comes a_t_now_likings, aI E a_t_now_comes 6 r_t_now_comes, aI E a_t_now_goes 6 r_t_now_goes, aI E a_t_now_kindOf 6 r_t_now_kindOf, aI E a_t_now_likings 24 r_t_now_likings, aI E a_t_now_lists 4 r_t_now_lists, oX10 a_t_trial a_t_now a_t_trial_county a_t_trial_evening v.2.1 v.2.2.1 v.2.2.2.1, oX1 a_t_trial_county v.2.2.2.2.1 v.2.2.2.2.2.1 v.2.2.2.2.2.2.1 a_t_trial_county_lists a_t_trial_county_kindOf a_t_trial_county_goes a_t_trial_county_comes a_t_trial_county_likings, aI E a_t_trial_county_comes 6 v.2.2.2.2.2.2.2.1, aI E a_t_trial_county_goes 6 v.2.2.2.2.2.2.2.2.1, aI E a_t_trial_county_kindOf 6 v.2.2.2.2.2.2.2.2.2.1, aI E a_t_trial_county_likings 24 v.2.2.2.2.2.2.2.2.2.2.1, aI E a_t_trial_county_lists 4 v.2.2.2.2.2.2.2.2.2.2.2.1, oX2 a_t_trial_evening a_t_trial_evening_hours a_t_trial_evening_openers v.2.2.2.2.2.2.2.2.2.2.2.2.1 v.2.2.2.2.2.2.2.2.2.2.2.2.2.1, aI E a_t_trial_evening_hours 4 v.2.2.2.2.2.2.2.2.2.2.2.2.2.2.1, aI E a_t_trial_evening_openers 4 v.2.2.2.2.2.2.2.2.2.2.2.2.2.2.2] (some (.int v.1)) := by
  refine Mt.intro (lv := [(0, .ref a_t), (1, .int x1), (2, .int x2)]) (by decide +kernel) (Nat.le_of_ble_eq_true rfl) rfl (fun X C K => ?_)
  have C : CX E X cX11_begins RX11 3 rm_X11_begins := C
  rw [f_X11_begins] at h
  refine g_aload_n (pc := 0) C dX11_begins_0 0 rfl ?_
  refine g_iload_n (pc := 1) C dX11_begins_1 1 rfl ?_
  obtain ⟨v1, hv1, h⟩ := o_bnd h
  refine g_callV (pc := 2) (ws' := [oX11 a_t a_t_tape a_t_reader a_t_now a_t_seen a_t_trial a_t_advice a_t_odds a_t_guess a_t_images a_t_sheets c_t_tornFault, oX1 a_t_now c_t_now_houses c_t_now_comers c_t_now_evening a_t_now_lists a_t_now_kindOf a_t_now_goes a_t_now_comes a_t_now_likings, aI E a_t_now_comes 6 r_t_now_comes, aI E a_t_now_goes 6 r_t_now_goes, aI E a_t_now_kindOf 6 r_t_now_kindOf, aI E a_t_now_likings 24 r_t_now_likings, aI E a_t_now_lists 4 r_t_now_lists, oX10 a_t_trial a_t_now a_t_trial_county a_t_trial_evening c_t_trial_evenings c_t_trial_waited c_t_trial_firstFast, oX1 a_t_trial_county c_t_trial_county_houses c_t_trial_county_comers c_t_trial_county_evening a_t_trial_county_lists a_t_trial_county_kindOf a_t_trial_county_goes a_t_trial_county_comes a_t_trial_county_likings, aI E a_t_trial_county_comes 6 r_t_trial_county_comes, aI E a_t_trial_county_goes 6 r_t_trial_county_goes, aI E a_t_trial_county_kindOf 6 r_t_trial_county_kindOf, aI E a_t_trial_county_likings 24 r_t_trial_county_likings, aI E a_t_trial_county_lists 4 r_t_trial_county_lists, oX2 a_t_trial_evening a_t_trial_evening_hours a_t_trial_evening_openers c_t_trial_evening_begun c_t_trial_evening_waited, aI E a_t_trial_evening_hours 4 r_t_trial_evening_hours, aI E a_t_trial_evening_openers 4 r_t_trial_evening_openers]) (st1 := [.int v1]) C mv_X11_146 (k_X11_noHouse E a_t a_t_now a_t_tape a_t_reader a_t_seen a_t_trial a_t_advice a_t_odds a_t_guess a_t_images a_t_sheets a_t_now_lists a_t_now_kindOf a_t_now_goes a_t_now_comes a_t_now_likings c_t_tornFault c_t_now_houses c_t_now_comers c_t_now_evening x1 v1 hv1) [0, 1] rfl (by decide +kernel) rfl [some 0, some 1, none, none, none, none, none, none, none, none, none, none, none, none, none, none, none] 17 (by decide +kernel) rfl rfl 0 rfl rfl ⟨by decide, by decide⟩ ⟨rfl, rfl⟩ ⟨Nat.zero_le _, Nat.zero_le _⟩ rfl rfl rfl (Nat.le_of_ble_eq_true rfl) dX11_begins_2 ?_
  refine b_if_ne (pc := 5) 17 C dX11_begins_5 (by decide) h (fun _ h => ?_) (fun _ h => ?_)
  · refine g_iconst (pc := 17) (v := (-1)) C dX11_begins_17 (by decide) ?_
    obtain rfl := Option.some.inj h
    exact g_iret (pc := 18) C K dX11_begins_18
  · refine g_iload_n (pc := 8) C dX11_begins_8 2 rfl ?_
    refine g_bipush (pc := 9) (v := 60) C dX11_begins_9 (by decide) ?_
    obtain ⟨v2, hv2, h⟩ := o_bnd h
    refine g_callS (pc := 11) (ws' := [oX11 a_t a_t_tape a_t_reader a_t_now a_t_seen a_t_trial a_t_advice a_t_odds a_t_guess a_t_images a_t_sheets c_t_tornFault, oX1 a_t_now c_t_now_houses c_t_now_comers c_t_now_evening a_t_now_lists a_t_now_kindOf a_t_now_goes a_t_now_comes a_t_now_likings, aI E a_t_now_comes 6 r_t_now_comes, aI E a_t_now_goes 6 r_t_now_goes, aI E a_t_now_kindOf 6 r_t_now_kindOf, aI E a_t_now_likings 24 r_t_now_likings, aI E a_t_now_lists 4 r_t_now_lists, oX10 a_t_trial a_t_now a_t_trial_county a_t_trial_evening c_t_trial_evenings c_t_trial_waited c_t_trial_firstFast, oX1 a_t_trial_county c_t_trial_county_houses c_t_trial_county_comers c_t_trial_county_evening a_t_trial_county_lists a_t_trial_county_kindOf a_t_trial_county_goes a_t_trial_county_comes a_t_trial_county_likings, aI E a_t_trial_county_comes 6 r_t_trial_county_comes, aI E a_t_trial_county_goes 6 r_t_trial_county_goes, aI E a_t_trial_county_kindOf 6 r_t_trial_county_kindOf, aI E a_t_trial_county_likings 24 r_t_trial_county_likings, aI E a_t_trial_county_lists 4 r_t_trial_county_lists, oX2 a_t_trial_evening a_t_trial_evening_hours a_t_trial_evening_openers c_t_trial_evening_begun c_t_trial_evening_waited, aI E a_t_trial_evening_hours 4 r_t_trial_evening_hours, aI E a_t_trial_evening_openers 4 r_t_trial_evening_openers]) (st1 := [.int v2]) C ms_X11_91 (k_X11_outside E x2 60 v2 hv2) [] rfl (by decide +kernel) rfl [none, none, none, none, none, none, none, none, none, none, none, none, none, none, none, none, none] 17 (by decide +kernel) rfl rfl ⟨by decide, by decide⟩ ⟨rfl, rfl⟩ ⟨Nat.zero_le _, Nat.zero_le _⟩ rfl rfl rfl (Nat.le_of_ble_eq_true rfl) dX11_begins_11 ?_
    refine b_if_eq (pc := 14) 19 C dX11_begins_14 (by decide) h (fun _ h => ?_) (fun _ h => ?_)
    · refine g_aload_n (pc := 19) C dX11_begins_19 0 rfl ?_
      refine g_get (pc := 20) 0 C fl_X11_44 rfl rfl dX11_begins_20 ?_
      obtain ⟨v3, hv3, h⟩ := o_bnd h
      refine g_callV (pc := 23) (ws' := [oX11 a_t a_t_tape a_t_reader a_t_now a_t_seen a_t_trial a_t_advice a_t_odds a_t_guess a_t_images a_t_sheets c_t_tornFault, oX1 a_t_now c_t_now_houses c_t_now_comers c_t_now_evening a_t_now_lists a_t_now_kindOf a_t_now_goes a_t_now_comes a_t_now_likings, aI E a_t_now_comes 6 r_t_now_comes, aI E a_t_now_goes 6 r_t_now_goes, aI E a_t_now_kindOf 6 r_t_now_kindOf, aI E a_t_now_likings 24 r_t_now_likings, aI E a_t_now_lists 4 r_t_now_lists, oX10 a_t_trial a_t_now a_t_trial_county a_t_trial_evening v3.1 v3.2.1 v3.2.2.1, oX1 a_t_trial_county v3.2.2.2.1 v3.2.2.2.2.1 v3.2.2.2.2.2.1 a_t_trial_county_lists a_t_trial_county_kindOf a_t_trial_county_goes a_t_trial_county_comes a_t_trial_county_likings, aI E a_t_trial_county_comes 6 v3.2.2.2.2.2.2.1, aI E a_t_trial_county_goes 6 v3.2.2.2.2.2.2.2.1, aI E a_t_trial_county_kindOf 6 v3.2.2.2.2.2.2.2.2.1, aI E a_t_trial_county_likings 24 v3.2.2.2.2.2.2.2.2.2.1, aI E a_t_trial_county_lists 4 v3.2.2.2.2.2.2.2.2.2.2, oX2 a_t_trial_evening a_t_trial_evening_hours a_t_trial_evening_openers c_t_trial_evening_begun c_t_trial_evening_waited, aI E a_t_trial_evening_hours 4 r_t_trial_evening_hours, aI E a_t_trial_evening_openers 4 r_t_trial_evening_openers]) (st1 := [.ref a_t_trial_county]) C mv_X11_212 (k_X10_restart E a_t_trial a_t_trial_county a_t_trial_county_comes a_t_trial_county_goes a_t_trial_county_kindOf a_t_trial_county_likings a_t_trial_county_lists a_t_now a_t_now_comes a_t_now_goes a_t_now_kindOf a_t_now_likings a_t_now_lists a_t_trial_evening c_t_trial_evenings c_t_trial_waited c_t_trial_firstFast c_t_trial_county_houses c_t_trial_county_comers c_t_trial_county_evening r_t_trial_county_comes r_t_trial_county_goes r_t_trial_county_kindOf r_t_trial_county_likings r_t_trial_county_lists c_t_now_houses c_t_now_comers c_t_now_evening r_t_now_comes r_t_now_goes r_t_now_kindOf r_t_now_likings r_t_now_lists v3 hv3) [7, 8, 9, 10, 11, 12, 13, 1, 2, 3, 4, 5, 6] rfl (by decide +kernel) rfl [none, some 7, some 8, some 9, some 10, some 11, some 12, some 0, some 1, some 2, some 3, some 4, some 5, some 6, none, none, none] 17 (by decide +kernel) rfl rfl 0 rfl rfl ⟨by decide, by decide⟩ ⟨rfl, rfl⟩ ⟨Nat.zero_le _, Nat.zero_le _⟩ rfl rfl rfl (Nat.le_of_ble_eq_true rfl) dX11_begins_23 ?_
      refine g_pop (pc := 26) C dX11_begins_26 rfl ?_
      refine g_aload_n (pc := 27) C dX11_begins_27 0 rfl ?_
      refine g_get (pc := 28) 0 C fl_X11_44 rfl rfl dX11_begins_28 ?_
      refine g_iload_n (pc := 31) C dX11_begins_31 2 rfl ?_
      refine g_iconst (pc := 32) (v := 1) C dX11_begins_32 (by decide) ?_
      refine g_iadd (pc := 33) C dX11_begins_33 ?_
      obtain ⟨v4, hv4, h⟩ := o_bnd h
      refine g_callV (pc := 34) (ws' := [oX11 a_t a_t_tape a_t_reader a_t_now a_t_seen a_t_trial a_t_advice a_t_odds a_t_guess a_t_images a_t_sheets c_t_tornFault, oX1 a_t_now c_t_now_houses c_t_now_comers c_t_now_evening a_t_now_lists a_t_now_kindOf a_t_now_goes a_t_now_comes a_t_now_likings, aI E a_t_now_comes 6 r_t_now_comes, aI E a_t_now_goes 6 r_t_now_goes, aI E a_t_now_kindOf 6 r_t_now_kindOf, aI E a_t_now_likings 24 r_t_now_likings, aI E a_t_now_lists 4 r_t_now_lists, oX10 a_t_trial a_t_now a_t_trial_county a_t_trial_evening v4.2.1 v4.2.2.1 v4.2.2.2.1, oX1 a_t_trial_county v3.2.2.2.1 v3.2.2.2.2.1 v4.2.2.2.2.1 a_t_trial_county_lists a_t_trial_county_kindOf a_t_trial_county_goes a_t_trial_county_comes a_t_trial_county_likings, aI E a_t_trial_county_comes 6 v3.2.2.2.2.2.2.1, aI E a_t_trial_county_goes 6 v3.2.2.2.2.2.2.2.1, aI E a_t_trial_county_kindOf 6 v3.2.2.2.2.2.2.2.2.1, aI E a_t_trial_county_likings 24 v4.2.2.2.2.2.1, aI E a_t_trial_county_lists 4 v3.2.2.2.2.2.2.2.2.2.2, oX2 a_t_trial_evening a_t_trial_evening_hours a_t_trial_evening_openers v4.2.2.2.2.2.2.1 v4.2.2.2.2.2.2.2.1, aI E a_t_trial_evening_hours 4 v4.2.2.2.2.2.2.2.2.1, aI E a_t_trial_evening_openers 4 v4.2.2.2.2.2.2.2.2.2]) (st1 := [.int v4.1]) C mv_X11_216 (k_X10_dinnersIn E a_t_trial a_t_trial_county a_t_trial_county_comes a_t_trial_county_goes a_t_trial_county_kindOf a_t_trial_county_likings a_t_trial_county_lists a_t_trial_evening a_t_trial_evening_hours a_t_trial_evening_openers a_t_now v3.1 v3.2.1 v3.2.2.1 v3.2.2.2.1 v3.2.2.2.2.1 v3.2.2.2.2.2.1 v3.2.2.2.2.2.2.1 v3.2.2.2.2.2.2.2.1 v3.2.2.2.2.2.2.2.2.1 v3.2.2.2.2.2.2.2.2.2.1 v3.2.2.2.2.2.2.2.2.2.2 c_t_trial_evening_begun c_t_trial_evening_waited r_t_trial_evening_hours r_t_trial_evening_openers (x2 + 1) v4 hv4) [7, 8, 9, 10, 11, 12, 13, 14, 15, 16] rfl (by decide +kernel) rfl [none, none, none, none, none, none, none, some 0, some 1, some 2, some 3, some 4, some 5, some 6, some 7, some 8, some 9] 17 (by decide +kernel) rfl rfl 0 rfl rfl ⟨by decide, by decide⟩ ⟨rfl, rfl⟩ ⟨Nat.zero_le _, Nat.zero_le _⟩ rfl rfl rfl (Nat.le_of_ble_eq_true rfl) dX11_begins_34 ?_
      refine g_pop (pc := 37) C dX11_begins_37 rfl ?_
      refine g_aload_n (pc := 38) C dX11_begins_38 0 rfl ?_
      refine g_get (pc := 39) 0 C fl_X11_44 rfl rfl dX11_begins_39 ?_
      refine g_get (pc := 42) 7 C fl_X11_229 rfl rfl dX11_begins_42 ?_
      refine g_get (pc := 45) 14 C fl_X11_157 rfl rfl dX11_begins_45 ?_
      refine g_iload_n (pc := 48) C dX11_begins_48 1 rfl ?_
      refine b_iald (pc := 49) 15 C rfl dX11_begins_49 h (fun _ h => ?_)
      obtain ⟨v5, hv5, h⟩ := o_bnd h
      refine g_callS (pc := 50) (ws' := [oX11 a_t a_t_tape a_t_reader a_t_now a_t_seen a_t_trial a_t_advice a_t_odds a_t_guess a_t_images a_t_sheets c_t_tornFault, oX1 a_t_now c_t_now_houses c_t_now_comers c_t_now_evening a_t_now_lists a_t_now_kindOf a_t_now_goes a_t_now_comes a_t_now_likings, aI E a_t_now_comes 6 r_t_now_comes, aI E a_t_now_goes 6 r_t_now_goes, aI E a_t_now_kindOf 6 r_t_now_kindOf, aI E a_t_now_likings 24 r_t_now_likings, aI E a_t_now_lists 4 r_t_now_lists, oX10 a_t_trial a_t_now a_t_trial_county a_t_trial_evening v4.2.1 v4.2.2.1 v4.2.2.2.1, oX1 a_t_trial_county v3.2.2.2.1 v3.2.2.2.2.1 v4.2.2.2.2.1 a_t_trial_county_lists a_t_trial_county_kindOf a_t_trial_county_goes a_t_trial_county_comes a_t_trial_county_likings, aI E a_t_trial_county_comes 6 v3.2.2.2.2.2.2.1, aI E a_t_trial_county_goes 6 v3.2.2.2.2.2.2.2.1, aI E a_t_trial_county_kindOf 6 v3.2.2.2.2.2.2.2.2.1, aI E a_t_trial_county_likings 24 v4.2.2.2.2.2.1, aI E a_t_trial_county_lists 4 v3.2.2.2.2.2.2.2.2.2.2, oX2 a_t_trial_evening a_t_trial_evening_hours a_t_trial_evening_openers v4.2.2.2.2.2.2.1 v4.2.2.2.2.2.2.2.1, aI E a_t_trial_evening_hours 4 v4.2.2.2.2.2.2.2.2.1, aI E a_t_trial_evening_openers 4 v4.2.2.2.2.2.2.2.2.2]) (st1 := [.int v5]) C ms_X11_160 (k_X11_hourOrNone E (v4.2.2.2.2.2.2.2.2.1 (ix x1)) v5 hv5) [] rfl (by decide +kernel) rfl [none, none, none, none, none, none, none, none, none, none, none, none, none, none, none, none, none] 17 (by decide +kernel) rfl rfl ⟨by decide, by decide⟩ ⟨rfl, rfl⟩ ⟨Nat.zero_le _, Nat.zero_le _⟩ rfl rfl rfl (Nat.le_of_ble_eq_true rfl) dX11_begins_50 ?_
      obtain rfl := Option.some.inj h
      exact g_iret (pc := 53) C K dX11_begins_53
    · refine g_iconst (pc := 17) (v := (-1)) C dX11_begins_17 (by decide) ?_
      obtain rfl := Option.some.inj h
      exact g_iret (pc := 18) C K dX11_begins_18
