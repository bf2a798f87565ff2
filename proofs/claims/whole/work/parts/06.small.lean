theorem dX2_firstOf_0 : decode cX2_firstOf 0 = .ok (.iconst 0, 1) := by decide +kernel
theorem dX2_firstOf_1 : decode cX2_firstOf 1 = .ok (.istore_n 1, 1) := by decide +kernel
theorem dX2_firstOf_2 : decode cX2_firstOf 2 = .ok (.iload_n 1, 1) := by decide +kernel
theorem dX2_firstOf_3 : decode cX2_firstOf 3 = .ok (.bipush 6, 2) := by decide +kernel
theorem dX2_firstOf_5 : decode cX2_firstOf 5 = .ok (.if_icmp .ge 20, 3) := by decide +kernel
theorem dX2_firstOf_8 : decode cX2_firstOf 8 = .ok (.iload_n 0, 1) := by decide +kernel
theorem dX2_firstOf_9 : decode cX2_firstOf 9 = .ok (.iload_n 1, 1) := by decide +kernel
theorem dX2_firstOf_10 : decode cX2_firstOf 10 = .ok (.ishr, 1) := by decide +kernel
theorem dX2_firstOf_11 : decode cX2_firstOf 11 = .ok (.iconst 1, 1) := by decide +kernel
theorem dX2_firstOf_12 : decode cX2_firstOf 12 = .ok (.iand, 1) := by decide +kernel
theorem dX2_firstOf_13 : decode cX2_firstOf 13 = .ok (.iconst 1, 1) := by decide +kernel
theorem dX2_firstOf_14 : decode cX2_firstOf 14 = .ok (.if_icmp .ne 5, 3) := by decide +kernel
theorem dX2_firstOf_17 : decode cX2_firstOf 17 = .ok (.iload_n 1, 1) := by decide +kernel
theorem dX2_firstOf_18 : decode cX2_firstOf 18 = .ok (.ireturn, 1) := by decide +kernel
theorem dX2_firstOf_19 : decode cX2_firstOf 19 = .ok (.iinc 1 1, 3) := by decide +kernel
theorem dX2_firstOf_22 : decode cX2_firstOf 22 = .ok (.goto (-20), 3) := by decide +kernel
theorem dX2_firstOf_25 : decode cX2_firstOf 25 = .ok (.bipush (-4), 2) := by decide +kernel
theorem dX2_firstOf_27 : decode cX2_firstOf 27 = .ok (.ireturn, 1) := by decide +kernel
def L_X2_firstOf_2 (x0 : Int32) : Nat → Int32 → Option ((Int32) ⊕ (Unit))
  | 0, _ => none
  | n + 1, y1 =>
    if 6 ≤ y1 then
      (some (.inr (())))
    else
      (if ((x0 >>> (y1 &&& 31)) &&& 1) = 1 then
        (some (.inl y1))
      else
        (L_X2_firstOf_2 x0 n (y1 + 1)))
def f_X2_firstOf (x0 : Int32) : Option (Int32) :=
  (L_X2_firstOf_2 x0 400 0).bind (fun o => sel (fun (w4 : Int32) => some w4) (fun (v3 : Unit) =>
    some ((-4))) o)
abbrev rm_X2_firstOf : Room := { frames := 0, cells := 0, slots := 0, locals := 0 }
set_option maxHeartbeats 4000000 in
set_option maxRecDepth 100000 in
theorem lp_X2_firstOf_2 {E : Ev} {X : Cx} (x0 : Int32) (C : CX E X cX2_firstOf RX2 2 rm_X2_firstOf) : ∀ (n : Nat) (y1 : Int32) (o : ((Int32) ⊕ (Unit))), L_X2_firstOf_2 x0 n y1 = some o → (∀ w, o = .inl w → QK E X 0 0 (some .int) [] (some (.int w))) → (∀ v, o = .inr v → G E X 0 0 [] [] 25 []) → G E X 0 0 [] [(0, .int x0), (1, .int y1)] 2 [] := by
  intro n
  induction n with
  | zero => intro _ _ h; cases h
  | succ n ih =>
    intro y1 o h kr kx
    rw [L_X2_firstOf_2] at h
    refine g_iload_n (pc := 2) C dX2_firstOf_2 1 rfl ?_
    refine g_bipush (pc := 3) (v := 6) C dX2_firstOf_3 (by decide) ?_
    refine b_icmp_ge (pc := 5) 25 C dX2_firstOf_5 (by decide) h (fun _ h => ?_) (fun _ h => ?_)
    · obtain rfl := Option.some.inj h
      refine g_lv [] (lv' := []) rfl ?_
      exact kx _ rfl
    · refine g_iload_n (pc := 8) C dX2_firstOf_8 0 rfl ?_
      refine g_iload_n (pc := 9) C dX2_firstOf_9 1 rfl ?_
      refine g_ishr (pc := 10) C dX2_firstOf_10 ?_
      refine g_iconst (pc := 11) (v := 1) C dX2_firstOf_11 (by decide) ?_
      refine g_iand (pc := 12) C dX2_firstOf_12 ?_
      refine g_iconst (pc := 13) (v := 1) C dX2_firstOf_13 (by decide) ?_
      refine b_icmp_ne (pc := 14) 19 C dX2_firstOf_14 (by decide) h (fun _ h => ?_) (fun _ h => ?_)
      · refine g_iinc (pc := 19) (v := y1 + 1) (lv' := [(1, .int (y1 + 1)), (0, .int x0)]) C dX2_firstOf_19 1 rfl rfl (by decide) rfl ?_
        refine g_goto (pc := 22) 2 C dX2_firstOf_22 (by decide) ?_
        refine g_lv [1, 0] (lv' := [(0, .int x0), (1, .int (y1 + 1))]) rfl ?_
        exact ih _ _ h kr kx
      · refine g_iload_n (pc := 17) C dX2_firstOf_17 1 rfl ?_
        obtain rfl := Option.some.inj h
        exact g_iret (pc := 18) C (kr _ rfl) dX2_firstOf_18
set_option maxHeartbeats 4000000 in
set_option maxRecDepth 100000 in
theorem k_X2_firstOf (E : Ev) (x0 : Int32) (v : Int32) (h : f_X2_firstOf x0 = some v) : Mt E yX2_firstOf cX2_firstOf 2 (some .int) rm_X2_firstOf [.int x0] [] [] (some (.int v)) := by
  refine Mt.intro (lv := [(0, .int x0)]) (by decide +kernel) (Nat.le_of_ble_eq_true rfl) rfl (fun X C K => ?_)
  have C : CX E X cX2_firstOf RX2 2 rm_X2_firstOf := C
  rw [f_X2_firstOf] at h
  refine g_iconst (pc := 0) (v := 0) C dX2_firstOf_0 (by decide) ?_
  refine g_istore_n (pc := 1) (lv' := [(1, .int 0), (0, .int x0)]) C dX2_firstOf_1 (by decide) rfl ?_
  rcases o_sel h with ⟨w4, hw4, h⟩ | ⟨v3, hv3, h⟩
  · obtain rfl := Option.some.inj h
    refine g_lv [1, 0] (lv' := [(0, .int x0), (1, .int 0)]) rfl ?_
    exact lp_X2_firstOf_2 x0 C 400 _ _ hw4 (fun _ e => by cases e; exact K) (fun _ e => by cases e)
  · refine g_lv [1, 0] (lv' := [(0, .int x0), (1, .int 0)]) rfl ?_
    refine lp_X2_firstOf_2 x0 C 400 _ _ hv3 (fun _ e => by cases e) (fun _ e => ?_)
    cases e
    refine g_bipush (pc := 25) (v := (-4)) C dX2_firstOf_25 (by decide) ?_
    obtain rfl := Option.some.inj h
    exact g_iret (pc := 27) C K dX2_firstOf_27
theorem dX2_holdAt_0 : decode cX2_holdAt 0 = .ok (.aload_n 1, 1) := by decide +kernel
theorem dX2_holdAt_1 : decode cX2_holdAt 1 = .ok (.iload_n 2, 1) := by decide +kernel
theorem dX2_holdAt_2 : decode cX2_holdAt 2 = .ok (.invokevirtual 37, 3) := by decide +kernel
theorem dX2_holdAt_5 : decode cX2_holdAt 5 = .ok (.iload_n 3, 1) := by decide +kernel
theorem dX2_holdAt_6 : decode cX2_holdAt 6 = .ok (.iand, 1) := by decide +kernel
theorem dX2_holdAt_7 : decode cX2_holdAt 7 = .ok (.istore 4, 2) := by decide +kernel
theorem dX2_holdAt_9 : decode cX2_holdAt 9 = .ok (.aload_n 0, 1) := by decide +kernel
theorem dX2_holdAt_10 : decode cX2_holdAt 10 = .ok (.getfield 9, 3) := by decide +kernel
theorem dX2_holdAt_13 : decode cX2_holdAt 13 = .ok (.iload_n 2, 1) := by decide +kernel
theorem dX2_holdAt_14 : decode cX2_holdAt 14 = .ok (.bipush 7, 2) := by decide +kernel
theorem dX2_holdAt_16 : decode cX2_holdAt 16 = .ok (.iastore, 1) := by decide +kernel
theorem dX2_holdAt_17 : decode cX2_holdAt 17 = .ok (.aload_n 0, 1) := by decide +kernel
theorem dX2_holdAt_18 : decode cX2_holdAt 18 = .ok (.getfield 15, 3) := by decide +kernel
theorem dX2_holdAt_21 : decode cX2_holdAt 21 = .ok (.iload_n 2, 1) := by decide +kernel
theorem dX2_holdAt_22 : decode cX2_holdAt 22 = .ok (.bipush (-4), 2) := by decide +kernel
theorem dX2_holdAt_24 : decode cX2_holdAt 24 = .ok (.iastore, 1) := by decide +kernel
theorem dX2_holdAt_25 : decode cX2_holdAt 25 = .ok (.iconst 0, 1) := by decide +kernel
theorem dX2_holdAt_26 : decode cX2_holdAt 26 = .ok (.istore 5, 2) := by decide +kernel
theorem dX2_holdAt_28 : decode cX2_holdAt 28 = .ok (.iload 5, 2) := by decide +kernel
theorem dX2_holdAt_30 : decode cX2_holdAt 30 = .ok (.bipush 6, 2) := by decide +kernel
theorem dX2_holdAt_32 : decode cX2_holdAt 32 = .ok (.if_icmp .gt 76, 3) := by decide +kernel
theorem dX2_holdAt_35 : decode cX2_holdAt 35 = .ok (.aload_n 0, 1) := by decide +kernel
theorem dX2_holdAt_36 : decode cX2_holdAt 36 = .ok (.getfield 9, 3) := by decide +kernel
theorem dX2_holdAt_39 : decode cX2_holdAt 39 = .ok (.iload_n 2, 1) := by decide +kernel
theorem dX2_holdAt_40 : decode cX2_holdAt 40 = .ok (.iaload, 1) := by decide +kernel
theorem dX2_holdAt_41 : decode cX2_holdAt 41 = .ok (.bipush 7, 2) := by decide +kernel
theorem dX2_holdAt_43 : decode cX2_holdAt 43 = .ok (.if_icmp .ne 65, 3) := by decide +kernel
theorem dX2_holdAt_46 : decode cX2_holdAt 46 = .ok (.aload_n 1, 1) := by decide +kernel
theorem dX2_holdAt_47 : decode cX2_holdAt 47 = .ok (.iload 4, 2) := by decide +kernel
theorem dX2_holdAt_49 : decode cX2_holdAt 49 = .ok (.iload 5, 2) := by decide +kernel
theorem dX2_holdAt_51 : decode cX2_holdAt 51 = .ok (.invokevirtual 41, 3) := by decide +kernel
theorem dX2_holdAt_54 : decode cX2_holdAt 54 = .ok (.istore 6, 2) := by decide +kernel
theorem dX2_holdAt_56 : decode cX2_holdAt 56 = .ok (.iload 6, 2) := by decide +kernel
theorem dX2_holdAt_58 : decode cX2_holdAt 58 = .ok (.aload_n 1, 1) := by decide +kernel
theorem dX2_holdAt_59 : decode cX2_holdAt 59 = .ok (.iload_n 2, 1) := by decide +kernel
theorem dX2_holdAt_60 : decode cX2_holdAt 60 = .ok (.invokevirtual 45, 3) := by decide +kernel
theorem dX2_holdAt_63 : decode cX2_holdAt 63 = .ok (.iand, 1) := by decide +kernel
theorem dX2_holdAt_64 : decode cX2_holdAt 64 = .ok (.invokestatic 48, 3) := by decide +kernel
theorem dX2_holdAt_67 : decode cX2_holdAt 67 = .ok (.istore 7, 2) := by decide +kernel
theorem dX2_holdAt_69 : decode cX2_holdAt 69 = .ok (.iload 7, 2) := by decide +kernel
theorem dX2_holdAt_71 : decode cX2_holdAt 71 = .ok (.bipush (-4), 2) := by decide +kernel
theorem dX2_holdAt_73 : decode cX2_holdAt 73 = .ok (.if_icmp .ne 13, 3) := by decide +kernel
theorem dX2_holdAt_76 : decode cX2_holdAt 76 = .ok (.aload_n 1, 1) := by decide +kernel
theorem dX2_holdAt_77 : decode cX2_holdAt 77 = .ok (.iload_n 2, 1) := by decide +kernel
theorem dX2_holdAt_78 : decode cX2_holdAt 78 = .ok (.iload 6, 2) := by decide +kernel
theorem dX2_holdAt_80 : decode cX2_holdAt 80 = .ok (.invokevirtual 51, 3) := by decide +kernel
theorem dX2_holdAt_83 : decode cX2_holdAt 83 = .ok (.goto 19, 3) := by decide +kernel
theorem dX2_holdAt_86 : decode cX2_holdAt 86 = .ok (.aload_n 0, 1) := by decide +kernel
theorem dX2_holdAt_87 : decode cX2_holdAt 87 = .ok (.getfield 9, 3) := by decide +kernel
theorem dX2_holdAt_90 : decode cX2_holdAt 90 = .ok (.iload_n 2, 1) := by decide +kernel
theorem dX2_holdAt_91 : decode cX2_holdAt 91 = .ok (.iload 5, 2) := by decide +kernel
theorem dX2_holdAt_93 : decode cX2_holdAt 93 = .ok (.iastore, 1) := by decide +kernel
theorem dX2_holdAt_94 : decode cX2_holdAt 94 = .ok (.aload_n 0, 1) := by decide +kernel
theorem dX2_holdAt_95 : decode cX2_holdAt 95 = .ok (.getfield 15, 3) := by decide +kernel
theorem dX2_holdAt_98 : decode cX2_holdAt 98 = .ok (.iload_n 2, 1) := by decide +kernel
theorem dX2_holdAt_99 : decode cX2_holdAt 99 = .ok (.iload 7, 2) := by decide +kernel
theorem dX2_holdAt_101 : decode cX2_holdAt 101 = .ok (.iastore, 1) := by decide +kernel
theorem dX2_holdAt_102 : decode cX2_holdAt 102 = .ok (.iinc 5 1, 3) := by decide +kernel
theorem dX2_holdAt_105 : decode cX2_holdAt 105 = .ok (.goto (-77), 3) := by decide +kernel
theorem dX2_holdAt_108 : decode cX2_holdAt 108 = .ok (.aload_n 0, 1) := by decide +kernel
theorem dX2_holdAt_109 : decode cX2_holdAt 109 = .ok (.getfield 9, 3) := by decide +kernel
theorem dX2_holdAt_112 : decode cX2_holdAt 112 = .ok (.iload_n 2, 1) := by decide +kernel
theorem dX2_holdAt_113 : decode cX2_holdAt 113 = .ok (.iaload, 1) := by decide +kernel
theorem dX2_holdAt_114 : decode cX2_holdAt 114 = .ok (.ireturn, 1) := by decide +kernel
def L_X2_holdAt_28 (c_p0_comers : Int32) (r_p0_comes : (Nat → Int32)) (r_p0_kindOf : (Nat → Int32)) (r_p0_lists : (Nat → Int32)) (x2 : Int32) (x3 : Int32) (v1 : (Int32)) : Nat → Int32 → (Nat → Int32) → (Nat → Int32) → (Nat → Int32) → Option ((Nat → Int32) × (Nat → Int32) × (Nat → Int32))
  | 0, _, _, _, _ => none
  | n + 1, y2, y3, y4, y5 =>
    if 6 < y2 then
      (some ((y3, y4, y5)))
    else
      (if inb x2 4 then
        (if (y3 (ix x2)) = 7 then
          ((f_X1_arrived c_p0_comers r_p0_comes (v1 &&& x3) y2).bind (fun (v6 : Int32) =>
            (f_X1_unwelcome c_p0_comers y5 r_p0_lists x2).bind (fun (v7 : Int32) =>
              (f_X2_firstOf (v6 &&& v7)).bind (fun (v8 : Int32) =>
                if v8 = ((-4)) then
                  ((f_X1_warm c_p0_comers r_p0_kindOf y5 x2 v6).bind (fun (v9 : (Nat → Int32)) =>
                    L_X2_holdAt_28 c_p0_comers r_p0_comes r_p0_kindOf r_p0_lists x2 x3 v1 n (y2 + 1) y3 y4 v9))
                else
                  (if inb x2 4 then
                    (if inb x2 4 then
                      (L_X2_holdAt_28 c_p0_comers r_p0_comes r_p0_kindOf r_p0_lists x2 x3 v1 n (y2 + 1) (upd y3 (ix x2) y2) (upd y4 (ix x2) v8) y5)
                    else none)
                  else none)))))
        else
          (some ((y3, y4, y5))))
      else none)
def f_X2_holdAt (r_t_hours : (Nat → Int32)) (r_t_openers : (Nat → Int32)) (c_p0_comers : Int32) (r_p0_comes : (Nat → Int32)) (r_p0_goes : (Nat → Int32)) (r_p0_kindOf : (Nat → Int32)) (r_p0_likings : (Nat → Int32)) (r_p0_lists : (Nat → Int32)) (x2 : Int32) (x3 : Int32) : Option (Int32 × (Nat → Int32) × (Nat → Int32) × (Nat → Int32)) :=
  (f_X1_goers c_p0_comers r_p0_goes x2).bind (fun (v1 : Int32) =>
    if inb x2 4 then
      (if inb x2 4 then
        ((L_X2_holdAt_28 c_p0_comers r_p0_comes r_p0_kindOf r_p0_lists x2 x3 v1 400 0 (upd r_t_hours (ix x2) 7) (upd r_t_openers (ix x2) ((-4))) r_p0_likings).bind (fun (v11 : (Nat → Int32) × (Nat → Int32) × (Nat → Int32)) =>
          if inb x2 4 then
            (some ((v11.1 (ix x2), v11.1, v11.2.1, v11.2.2)))
          else none))
      else none)
    else none)
abbrev rm_X2_holdAt : Room := { frames := 2, cells := 0, slots := 0, locals := 48 }
set_option maxHeartbeats 4000000 in
set_option maxRecDepth 100000 in
theorem lp_X2_holdAt_28 {E : Ev} {X : Cx} {a_t a_t_hours a_t_openers a_p0 a_p0_comes a_p0_goes a_p0_kindOf a_p0_likings a_p0_lists : Nat} (c_t_begun : Int32) (c_t_waited : Int32) (c_p0_houses : Int32) (c_p0_comers : Int32) (c_p0_evening : Int32) (r_p0_comes : (Nat → Int32)) (r_p0_goes : (Nat → Int32)) (r_p0_kindOf : (Nat → Int32)) (r_p0_lists : (Nat → Int32)) (x2 : Int32) (x3 : Int32) (v1 : (Int32)) (C : CX E X cX2_holdAt RX2 8 rm_X2_holdAt) : ∀ (n : Nat) (y2 : Int32) (y3 : (Nat → Int32)) (y4 : (Nat → Int32)) (y5 : (Nat → Int32)) (v : (Nat → Int32) × (Nat → Int32) × (Nat → Int32)), L_X2_holdAt_28 c_p0_comers r_p0_comes r_p0_kindOf r_p0_lists x2 x3 v1 n y2 y3 y4 y5 = some v → G E X 0 0 [oX2 a_t a_t_hours a_t_openers c_t_begun c_t_waited, aI E a_t_hours 4 v.1, aI E a_t_openers 4 v.2.1, oX1 a_p0 c_p0_houses c_p0_comers c_p0_evening a_p0_lists a_p0_kindOf a_p0_goes a_p0_comes a_p0_likings, aI E a_p0_comes 6 r_p0_comes, aI E a_p0_goes 6 r_p0_goes, aI E a_p0_kindOf 6 r_p0_kindOf, aI E a_p0_likings 24 v.2.2, aI E a_p0_lists 4 r_p0_lists] [(0, .ref a_t), (2, .int x2)] 108 [] → G E X 0 0 [oX2 a_t a_t_hours a_t_openers c_t_begun c_t_waited, aI E a_t_hours 4 y3, aI E a_t_openers 4 y4, oX1 a_p0 c_p0_houses c_p0_comers c_p0_evening a_p0_lists a_p0_kindOf a_p0_goes a_p0_comes a_p0_likings, aI E a_p0_comes 6 r_p0_comes, aI E a_p0_goes 6 r_p0_goes, aI E a_p0_kindOf 6 r_p0_kindOf, aI E a_p0_likings 24 y5, aI E a_p0_lists 4 r_p0_lists] [(0, .ref a_t), (1, .ref a_p0), (2, .int x2), (4, .int (v1 &&& x3)), (5, .int y2)] 28 [] := by
  intro n
  induction n with
  | zero => intro _ _ _ _ _ h; cases h
  | succ n ih =>
    intro y2 y3 y4 y5 v h kk
    rw [L_X2_holdAt_28] at h
    refine g_iload (pc := 28) C dX2_holdAt_28 4 rfl ?_
    refine g_bipush (pc := 30) (v := 6) C dX2_holdAt_30 (by decide) ?_
    refine b_icmp_gt (pc := 32) 108 C dX2_holdAt_32 (by decide) h (fun _ h => ?_) (fun _ h => ?_)
    · obtain rfl := Option.some.inj h
      refine g_lv [0, 2] (lv' := [(0, .ref a_t), (2, .int x2)]) rfl ?_
      exact kk
    · refine g_aload_n (pc := 35) C dX2_holdAt_35 0 rfl ?_
      refine g_get (pc := 36) 0 C fl_X2_9 rfl rfl dX2_holdAt_36 ?_
      refine g_iload_n (pc := 39) C dX2_holdAt_39 2 rfl ?_
      refine b_iald (pc := 40) 1 C rfl dX2_holdAt_40 h (fun _ h => ?_)
      refine g_bipush (pc := 41) (v := 7) C dX2_holdAt_41 (by decide) ?_
      refine b_icmp_ne (pc := 43) 108 C dX2_holdAt_43 (by decide) h (fun _ h => ?_) (fun _ h => ?_)
      · obtain rfl := Option.some.inj h
        refine g_lv [0, 2] (lv' := [(0, .ref a_t), (2, .int x2)]) rfl ?_
        exact kk
      · refine g_aload_n (pc := 46) C dX2_holdAt_46 1 rfl ?_
        refine g_iload (pc := 47) C dX2_holdAt_47 3 rfl ?_
        refine g_iload (pc := 49) C dX2_holdAt_49 4 rfl ?_
        obtain ⟨v6, hv6, h⟩ := o_bnd h
        refine g_callV (pc := 51) (ws' := [oX2 a_t a_t_hours a_t_openers c_t_begun c_t_waited, aI E a_t_hours 4 y3, aI E a_t_openers 4 y4, oX1 a_p0 c_p0_houses c_p0_comers c_p0_evening a_p0_lists a_p0_kindOf a_p0_goes a_p0_comes a_p0_likings, aI E a_p0_comes 6 r_p0_comes, aI E a_p0_goes 6 r_p0_goes, aI E a_p0_kindOf 6 r_p0_kindOf, aI E a_p0_likings 24 y5, aI E a_p0_lists 4 r_p0_lists]) (st1 := [.int v6]) C mv_X2_41 (k_X1_arrived E a_p0 a_p0_comes a_p0_lists a_p0_kindOf a_p0_goes a_p0_likings c_p0_houses c_p0_comers c_p0_evening r_p0_comes (v1 &&& x3) y2 v6 hv6) [3, 4] rfl (by decide +kernel) rfl [none, none, none, some 0, some 1, none, none, none, none] 9 (by decide +kernel) rfl rfl 0 rfl rfl ⟨by decide, by decide⟩ ⟨rfl, rfl⟩ ⟨Nat.zero_le _, Nat.zero_le _⟩ rfl rfl rfl (Nat.le_of_ble_eq_true rfl) dX2_holdAt_51 ?_
        refine g_istore (pc := 54) (lv' := [(6, .int v6), (0, .ref a_t), (1, .ref a_p0), (2, .int x2), (4, .int (v1 &&& x3)), (5, .int y2)]) C dX2_holdAt_54 (by decide) rfl ?_
        refine g_iload (pc := 56) C dX2_holdAt_56 0 rfl ?_
        refine g_aload_n (pc := 58) C dX2_holdAt_58 2 rfl ?_
        refine g_iload_n (pc := 59) C dX2_holdAt_59 3 rfl ?_
        obtain ⟨v7, hv7, h⟩ := o_bnd h
        refine g_callV (pc := 60) (ws' := [oX2 a_t a_t_hours a_t_openers c_t_begun c_t_waited, aI E a_t_hours 4 y3, aI E a_t_openers 4 y4, oX1 a_p0 c_p0_houses c_p0_comers c_p0_evening a_p0_lists a_p0_kindOf a_p0_goes a_p0_comes a_p0_likings, aI E a_p0_comes 6 r_p0_comes, aI E a_p0_goes 6 r_p0_goes, aI E a_p0_kindOf 6 r_p0_kindOf, aI E a_p0_likings 24 y5, aI E a_p0_lists 4 r_p0_lists]) (st1 := [.int v7, .int v6]) C mv_X2_45 (k_X1_unwelcome E a_p0 a_p0_likings a_p0_lists a_p0_kindOf a_p0_goes a_p0_comes c_p0_houses c_p0_comers c_p0_evening y5 r_p0_lists x2 v7 hv7) [3, 7, 8] rfl (by decide +kernel) rfl [none, none, none, some 0, none, none, none, some 1, some 2] 9 (by decide +kernel) rfl rfl 0 rfl rfl ⟨by decide, by decide⟩ ⟨rfl, rfl⟩ ⟨Nat.zero_le _, Nat.zero_le _⟩ rfl rfl rfl (Nat.le_of_ble_eq_true rfl) dX2_holdAt_60 ?_
        refine g_iand (pc := 63) C dX2_holdAt_63 ?_
        obtain ⟨v8, hv8, h⟩ := o_bnd h
        refine g_callS (pc := 64) (ws' := [oX2 a_t a_t_hours a_t_openers c_t_begun c_t_waited, aI E a_t_hours 4 y3, aI E a_t_openers 4 y4, oX1 a_p0 c_p0_houses c_p0_comers c_p0_evening a_p0_lists a_p0_kindOf a_p0_goes a_p0_comes a_p0_likings, aI E a_p0_comes 6 r_p0_comes, aI E a_p0_goes 6 r_p0_goes, aI E a_p0_kindOf 6 r_p0_kindOf, aI E a_p0_likings 24 y5, aI E a_p0_lists 4 r_p0_lists]) (st1 := [.int v8]) C ms_X2_48 (k_X2_firstOf E (v6 &&& v7) v8 hv8) [] rfl (by decide +kernel) rfl [none, none, none, none, none, none, none, none, none] 9 (by decide +kernel) rfl rfl ⟨by decide, by decide⟩ ⟨rfl, rfl⟩ ⟨Nat.zero_le _, Nat.zero_le _⟩ rfl rfl rfl (Nat.le_of_ble_eq_true rfl) dX2_holdAt_64 ?_
        refine g_istore (pc := 67) (lv' := [(7, .int v8), (6, .int v6), (0, .ref a_t), (1, .ref a_p0), (2, .int x2), (4, .int (v1 &&& x3)), (5, .int y2)]) C dX2_holdAt_67 (by decide) rfl ?_
        refine g_iload (pc := 69) C dX2_holdAt_69 0 rfl ?_
        refine g_bipush (pc := 71) (v := (-4)) C dX2_holdAt_71 (by decide) ?_
        refine b_icmp_ne (pc := 73) 86 C dX2_holdAt_73 (by decide) h (fun _ h => ?_) (fun _ h => ?_)
        · refine g_aload_n (pc := 86) C dX2_holdAt_86 2 rfl ?_
          refine g_get (pc := 87) 0 C fl_X2_9 rfl rfl dX2_holdAt_87 ?_
          refine g_iload_n (pc := 90) C dX2_holdAt_90 4 rfl ?_
          refine g_iload (pc := 91) C dX2_holdAt_91 6 rfl ?_
          refine b_iast (pc := 93) (ws' := [oX2 a_t a_t_hours a_t_openers c_t_begun c_t_waited, aI E a_t_hours 4 (upd y3 (ix x2) y2), aI E a_t_openers 4 y4, oX1 a_p0 c_p0_houses c_p0_comers c_p0_evening a_p0_lists a_p0_kindOf a_p0_goes a_p0_comes a_p0_likings, aI E a_p0_comes 6 r_p0_comes, aI E a_p0_goes 6 r_p0_goes, aI E a_p0_kindOf 6 r_p0_kindOf, aI E a_p0_likings 24 y5, aI E a_p0_lists 4 r_p0_lists]) 1 C rfl rfl dX2_holdAt_93 h (fun _ h => ?_)
          refine g_aload_n (pc := 94) C dX2_holdAt_94 2 rfl ?_
          refine g_get (pc := 95) 0 C fl_X2_15 rfl rfl dX2_holdAt_95 ?_
          refine g_iload_n (pc := 98) C dX2_holdAt_98 4 rfl ?_
          refine g_iload (pc := 99) C dX2_holdAt_99 0 rfl ?_
          refine b_iast (pc := 101) (ws' := [oX2 a_t a_t_hours a_t_openers c_t_begun c_t_waited, aI E a_t_hours 4 (upd y3 (ix x2) y2), aI E a_t_openers 4 (upd y4 (ix x2) v8), oX1 a_p0 c_p0_houses c_p0_comers c_p0_evening a_p0_lists a_p0_kindOf a_p0_goes a_p0_comes a_p0_likings, aI E a_p0_comes 6 r_p0_comes, aI E a_p0_goes 6 r_p0_goes, aI E a_p0_kindOf 6 r_p0_kindOf, aI E a_p0_likings 24 y5, aI E a_p0_lists 4 r_p0_lists]) 2 C rfl rfl dX2_holdAt_101 h (fun _ h => ?_)
          refine g_iinc (pc := 102) (v := y2 + 1) (lv' := [(5, .int (y2 + 1)), (7, .int v8), (6, .int v6), (0, .ref a_t), (1, .ref a_p0), (2, .int x2), (4, .int (v1 &&& x3))]) C dX2_holdAt_102 6 rfl rfl (by decide) rfl ?_
          refine g_goto (pc := 105) 28 C dX2_holdAt_105 (by decide) ?_
          refine g_lv [3, 4, 5, 6, 0] (lv' := [(0, .ref a_t), (1, .ref a_p0), (2, .int x2), (4, .int (v1 &&& x3)), (5, .int (y2 + 1))]) rfl ?_
          exact ih _ _ _ _ _ h kk
        · refine g_aload_n (pc := 76) C dX2_holdAt_76 3 rfl ?_
          refine g_iload_n (pc := 77) C dX2_holdAt_77 4 rfl ?_
          refine g_iload (pc := 78) C dX2_holdAt_78 1 rfl ?_
          obtain ⟨v9, hv9, h⟩ := o_bnd h
          refine g_callV (pc := 80) (ws' := [oX2 a_t a_t_hours a_t_openers c_t_begun c_t_waited, aI E a_t_hours 4 y3, aI E a_t_openers 4 y4, oX1 a_p0 c_p0_houses c_p0_comers c_p0_evening a_p0_lists a_p0_kindOf a_p0_goes a_p0_comes a_p0_likings, aI E a_p0_comes 6 r_p0_comes, aI E a_p0_goes 6 r_p0_goes, aI E a_p0_kindOf 6 r_p0_kindOf, aI E a_p0_likings 24 v9, aI E a_p0_lists 4 r_p0_lists]) (st1 := []) C mv_X2_51 (k_X1_warm E a_p0 a_p0_kindOf a_p0_likings a_p0_lists a_p0_goes a_p0_comes c_p0_houses c_p0_comers c_p0_evening r_p0_kindOf y5 x2 v6 v9 hv9) [3, 6, 7] rfl (by decide +kernel) rfl [none, none, none, some 0, none, none, some 1, some 2, none] 9 (by decide +kernel) rfl rfl 0 rfl rfl ⟨by decide, by decide⟩ ⟨rfl, rfl⟩ ⟨Nat.zero_le _, Nat.zero_le _⟩ rfl rfl rfl (Nat.le_of_ble_eq_true rfl) dX2_holdAt_80 ?_
          refine g_goto (pc := 83) 102 C dX2_holdAt_83 (by decide) ?_
          refine g_iinc (pc := 102) (v := y2 + 1) (lv' := [(5, .int (y2 + 1)), (7, .int v8), (6, .int v6), (0, .ref a_t), (1, .ref a_p0), (2, .int x2), (4, .int (v1 &&& x3))]) C dX2_holdAt_102 6 rfl rfl (by decide) rfl ?_
          refine g_goto (pc := 105) 28 C dX2_holdAt_105 (by decide) ?_
          refine g_lv [3, 4, 5, 6, 0] (lv' := [(0, .ref a_t), (1, .ref a_p0), (2, .int x2), (4, .int (v1 &&& x3)), (5, .int (y2 + 1))]) rfl ?_
          exact ih _ _ _ _ _ h kk
set_option maxHeartbeats 4000000 in
set_option maxRecDepth 100000 in
theorem k_X2_holdAt (E : Ev) (a_t a_t_hours a_t_openers a_p0 a_p0_comes a_p0_goes a_p0_kindOf a_p0_likings a_p0_lists : Nat) (c_t_begun : Int32) (c_t_waited : Int32) (r_t_hours : (Nat → Int32)) (r_t_openers : (Nat → Int32)) (c_p0_houses : Int32) (c_p0_comers : Int32) (c_p0_evening : Int32) (r_p0_comes : (Nat → Int32)) (r_p0_goes : (Nat → Int32)) (r_p0_kindOf : (Nat → Int32)) (r_p0_likings : (Nat → Int32)) (r_p0_lists : (Nat → Int32)) (x2 : Int32) (x3 : Int32) (v : Int32 × (Nat → Int32) × (Nat → Int32) × (Nat → Int32)) (h : f_X2_holdAt r_t_hours r_t_openers c_p0_comers r_p0_comes r_p0_goes r_p0_kindOf r_p0_likings r_p0_lists x2 x3 = some v) : Mt E yX2_holdAt cX2_holdAt 8 (some .int) rm_X2_holdAt [.ref a_t, .ref a_p0, .int x2, .int x3] [oX2 a_t a_t_hours a_t_openers c_t_begun c_t_waited, aI E a_t_hours 4 r_t_hours, aI E a_t_openers 4 r_t_openers, oX1 a_p0 c_p0_houses c_p0_comers c_p0_evening a_p0_lists a_p0_kindOf a_p0_goes a_p0_comes a_p0_likings, aI E a_p0_comes 6 r_p0_comes, aI E a_p0_goes 6 r_p0_goes, aI E a_p0_kindOf 6 r_p0_kindOf, aI E a_p0_likings 24 r_p0_likings, aI E a_p0_lists 4 r_p0_lists] [oX2 a_t a_t_hours a_t_openers c_t_begun c_t_waited, aI E a_t_hours 4 v.2.1, aI E a_t_openers 4 v.2.2.1, oX1 a_p0 c_p0_houses c_p0_comers c_p0_evening a_p0_lists a_p0_kindOf a_p0_goes a_p0_comes a_p0_likings, aI E a_p0_comes 6 r_p0_comes, aI E a_p0_goes 6 r_p0_goes, aI E a_p0_kindOf 6 r_p0_kindOf, aI E a_p0_likings 24 v.2.2.2, aI E a_p0_lists 4 r_p0_lists] (some (.int v.1)) := by
  refine Mt.intro (lv := [(0, .ref a_t), (1, .ref a_p0), (2, .int x2), (3, .int x3)]) (by decide +kernel) (Nat.le_of_ble_eq_true rfl) rfl (fun X C K => ?_)
  have C : CX E X cX2_holdAt RX2 8 rm_X2_holdAt := C
  rw [f_X2_holdAt] at h
  refine g_aload_n (pc := 0) C dX2_holdAt_0 1 rfl ?_
  refine g_iload_n (pc := 1) C dX2_holdAt_1 2 rfl ?_
  obtain ⟨v1, hv1, h⟩ := o_bnd h
  refine g_callV (pc := 2) (ws' := [oX2 a_t a_t_hours a_t_openers c_t_begun c_t_waited, aI E a_t_hours 4 r_t_hours, aI E a_t_openers 4 r_t_openers, oX1 a_p0 c_p0_houses c_p0_comers c_p0_evening a_p0_lists a_p0_kindOf a_p0_goes a_p0_comes a_p0_likings, aI E a_p0_comes 6 r_p0_comes, aI E a_p0_goes 6 r_p0_goes, aI E a_p0_kindOf 6 r_p0_kindOf, aI E a_p0_likings 24 r_p0_likings, aI E a_p0_lists 4 r_p0_lists]) (st1 := [.int v1]) C mv_X2_37 (k_X1_goers E a_p0 a_p0_goes a_p0_lists a_p0_kindOf a_p0_comes a_p0_likings c_p0_houses c_p0_comers c_p0_evening r_p0_goes x2 v1 hv1) [3, 5] rfl (by decide +kernel) rfl [none, none, none, some 0, none, some 1, none, none, none] 9 (by decide +kernel) rfl rfl 0 rfl rfl ⟨by decide, by decide⟩ ⟨rfl, rfl⟩ ⟨Nat.zero_le _, Nat.zero_le _⟩ rfl rfl rfl (Nat.le_of_ble_eq_true rfl) dX2_holdAt_2 ?_
  refine g_iload_n (pc := 5) C dX2_holdAt_5 3 rfl ?_
  refine g_iand (pc := 6) C dX2_holdAt_6 ?_
  refine g_istore (pc := 7) (lv' := [(4, .int (v1 &&& x3)), (0, .ref a_t), (1, .ref a_p0), (2, .int x2), (3, .int x3)]) C dX2_holdAt_7 (by decide) rfl ?_
  refine g_aload_n (pc := 9) C dX2_holdAt_9 1 rfl ?_
  refine g_get (pc := 10) 0 C fl_X2_9 rfl rfl dX2_holdAt_10 ?_
  refine g_iload_n (pc := 13) C dX2_holdAt_13 3 rfl ?_
  refine g_bipush (pc := 14) (v := 7) C dX2_holdAt_14 (by decide) ?_
  refine b_iast (pc := 16) (ws' := [oX2 a_t a_t_hours a_t_openers c_t_begun c_t_waited, aI E a_t_hours 4 (upd r_t_hours (ix x2) 7), aI E a_t_openers 4 r_t_openers, oX1 a_p0 c_p0_houses c_p0_comers c_p0_evening a_p0_lists a_p0_kindOf a_p0_goes a_p0_comes a_p0_likings, aI E a_p0_comes 6 r_p0_comes, aI E a_p0_goes 6 r_p0_goes, aI E a_p0_kindOf 6 r_p0_kindOf, aI E a_p0_likings 24 r_p0_likings, aI E a_p0_lists 4 r_p0_lists]) 1 C rfl rfl dX2_holdAt_16 h (fun _ h => ?_)
  refine g_aload_n (pc := 17) C dX2_holdAt_17 1 rfl ?_
  refine g_get (pc := 18) 0 C fl_X2_15 rfl rfl dX2_holdAt_18 ?_
  refine g_iload_n (pc := 21) C dX2_holdAt_21 3 rfl ?_
  refine g_bipush (pc := 22) (v := (-4)) C dX2_holdAt_22 (by decide) ?_
  refine b_iast (pc := 24) (ws' := [oX2 a_t a_t_hours a_t_openers c_t_begun c_t_waited, aI E a_t_hours 4 (upd r_t_hours (ix x2) 7), aI E a_t_openers 4 (upd r_t_openers (ix x2) ((-4))), oX1 a_p0 c_p0_houses c_p0_comers c_p0_evening a_p0_lists a_p0_kindOf a_p0_goes a_p0_comes a_p0_likings, aI E a_p0_comes 6 r_p0_comes, aI E a_p0_goes 6 r_p0_goes, aI E a_p0_kindOf 6 r_p0_kindOf, aI E a_p0_likings 24 r_p0_likings, aI E a_p0_lists 4 r_p0_lists]) 2 C rfl rfl dX2_holdAt_24 h (fun _ h => ?_)
  refine g_iconst (pc := 25) (v := 0) C dX2_holdAt_25 (by decide) ?_
  refine g_istore (pc := 26) (lv' := [(5, .int 0), (4, .int (v1 &&& x3)), (0, .ref a_t), (1, .ref a_p0), (2, .int x2), (3, .int x3)]) C dX2_holdAt_26 (by decide) rfl ?_
  obtain ⟨v11, hv11, h⟩ := o_bnd h
  refine g_lv [2, 3, 4, 1, 0] (lv' := [(0, .ref a_t), (1, .ref a_p0), (2, .int x2), (4, .int (v1 &&& x3)), (5, .int 0)]) rfl ?_
  refine lp_X2_holdAt_28 c_t_begun c_t_waited c_p0_houses c_p0_comers c_p0_evening r_p0_comes r_p0_goes r_p0_kindOf r_p0_lists x2 x3 v1 C 400 _ _ _ _ _ hv11 ?_
  refine g_aload_n (pc := 108) C dX2_holdAt_108 0 rfl ?_
  refine g_get (pc := 109) 0 C fl_X2_9 rfl rfl dX2_holdAt_109 ?_
  refine g_iload_n (pc := 112) C dX2_holdAt_112 1 rfl ?_
  refine b_iald (pc := 113) 1 C rfl dX2_holdAt_113 h (fun _ h => ?_)
  obtain rfl := Option.some.inj h
  exact g_iret (pc := 114) C K dX2_holdAt_114
theorem dX2_hold_0 : decode cX2_hold 0 = .ok (.aload_n 0, 1) := by decide +kernel
theorem dX2_hold_1 : decode cX2_hold 1 = .ok (.iconst 0, 1) := by decide +kernel
theorem dX2_hold_2 : decode cX2_hold 2 = .ok (.putfield 18, 3) := by decide +kernel
theorem dX2_hold_5 : decode cX2_hold 5 = .ok (.aload_n 0, 1) := by decide +kernel
theorem dX2_hold_6 : decode cX2_hold 6 = .ok (.iconst 0, 1) := by decide +kernel
theorem dX2_hold_7 : decode cX2_hold 7 = .ok (.putfield 22, 3) := by decide +kernel
theorem dX2_hold_10 : decode cX2_hold 10 = .ok (.iconst 0, 1) := by decide +kernel
theorem dX2_hold_11 : decode cX2_hold 11 = .ok (.istore_n 2, 1) := by decide +kernel
theorem dX2_hold_12 : decode cX2_hold 12 = .ok (.iload_n 2, 1) := by decide +kernel
theorem dX2_hold_13 : decode cX2_hold 13 = .ok (.aload_n 1, 1) := by decide +kernel
theorem dX2_hold_14 : decode cX2_hold 14 = .ok (.getfield 25, 3) := by decide +kernel
theorem dX2_hold_17 : decode cX2_hold 17 = .ok (.if_icmp .ge 46, 3) := by decide +kernel
theorem dX2_hold_20 : decode cX2_hold 20 = .ok (.aload_n 0, 1) := by decide +kernel
theorem dX2_hold_21 : decode cX2_hold 21 = .ok (.aload_n 1, 1) := by decide +kernel
theorem dX2_hold_22 : decode cX2_hold 22 = .ok (.iload_n 2, 1) := by decide +kernel
theorem dX2_hold_23 : decode cX2_hold 23 = .ok (.bipush 63, 2) := by decide +kernel
theorem dX2_hold_25 : decode cX2_hold 25 = .ok (.invokevirtual 30, 3) := by decide +kernel
theorem dX2_hold_28 : decode cX2_hold 28 = .ok (.istore_n 3, 1) := by decide +kernel
theorem dX2_hold_29 : decode cX2_hold 29 = .ok (.aload_n 0, 1) := by decide +kernel
theorem dX2_hold_30 : decode cX2_hold 30 = .ok (.dup, 1) := by decide +kernel
theorem dX2_hold_31 : decode cX2_hold 31 = .ok (.getfield 22, 3) := by decide +kernel
theorem dX2_hold_34 : decode cX2_hold 34 = .ok (.iload_n 3, 1) := by decide +kernel
theorem dX2_hold_35 : decode cX2_hold 35 = .ok (.iadd, 1) := by decide +kernel
theorem dX2_hold_36 : decode cX2_hold 36 = .ok (.putfield 22, 3) := by decide +kernel
theorem dX2_hold_39 : decode cX2_hold 39 = .ok (.iload_n 3, 1) := by decide +kernel
theorem dX2_hold_40 : decode cX2_hold 40 = .ok (.bipush 7, 2) := by decide +kernel
theorem dX2_hold_42 : decode cX2_hold 42 = .ok (.if_icmp .eq 15, 3) := by decide +kernel
theorem dX2_hold_45 : decode cX2_hold 45 = .ok (.aload_n 0, 1) := by decide +kernel
theorem dX2_hold_46 : decode cX2_hold 46 = .ok (.dup, 1) := by decide +kernel
theorem dX2_hold_47 : decode cX2_hold 47 = .ok (.getfield 18, 3) := by decide +kernel
theorem dX2_hold_50 : decode cX2_hold 50 = .ok (.iconst 1, 1) := by decide +kernel
theorem dX2_hold_51 : decode cX2_hold 51 = .ok (.iload_n 2, 1) := by decide +kernel
theorem dX2_hold_52 : decode cX2_hold 52 = .ok (.ishl, 1) := by decide +kernel
theorem dX2_hold_53 : decode cX2_hold 53 = .ok (.ior, 1) := by decide +kernel
theorem dX2_hold_54 : decode cX2_hold 54 = .ok (.putfield 18, 3) := by decide +kernel
theorem dX2_hold_57 : decode cX2_hold 57 = .ok (.iinc 2 1, 3) := by decide +kernel
theorem dX2_hold_60 : decode cX2_hold 60 = .ok (.goto (-48), 3) := by decide +kernel
theorem dX2_hold_63 : decode cX2_hold 63 = .ok (.aload_n 1, 1) := by decide +kernel
theorem dX2_hold_64 : decode cX2_hold 64 = .ok (.dup, 1) := by decide +kernel
theorem dX2_hold_65 : decode cX2_hold 65 = .ok (.getfield 34, 3) := by decide +kernel
theorem dX2_hold_68 : decode cX2_hold 68 = .ok (.iconst 1, 1) := by decide +kernel
theorem dX2_hold_69 : decode cX2_hold 69 = .ok (.iadd, 1) := by decide +kernel
theorem dX2_hold_70 : decode cX2_hold 70 = .ok (.putfield 34, 3) := by decide +kernel
theorem dX2_hold_73 : decode cX2_hold 73 = .ok (.return_, 1) := by decide +kernel
def L_X2_hold_12 (c_p0_houses : Int32) (c_p0_comers : Int32) (r_p0_comes : (Nat → Int32)) (r_p0_goes : (Nat → Int32)) (r_p0_kindOf : (Nat → Int32)) (r_p0_lists : (Nat → Int32)) : Nat → Int32 → Int32 → Int32 → (Nat → Int32) → (Nat → Int32) → (Nat → Int32) → Option (Int32 × Int32 × (Nat → Int32) × (Nat → Int32) × (Nat → Int32))
  | 0, _, _, _, _, _, _ => none
  | n + 1, y1, y2, y3, y4, y5, y6 =>
    if c_p0_houses ≤ y1 then
      (some ((y2, y3, y4, y5, y6)))
    else
      ((f_X2_holdAt y4 y5 c_p0_comers r_p0_comes r_p0_goes r_p0_kindOf y6 r_p0_lists y1 63).bind (fun (v7 : Int32 × (Nat → Int32) × (Nat → Int32) × (Nat → Int32)) =>
        if v7.1 = 7 then
          (L_X2_hold_12 c_p0_houses c_p0_comers r_p0_comes r_p0_goes r_p0_kindOf r_p0_lists n (y1 + 1) y2 (y3 + v7.1) v7.2.1 v7.2.2.1 v7.2.2.2)
        else
          (L_X2_hold_12 c_p0_houses c_p0_comers r_p0_comes r_p0_goes r_p0_kindOf r_p0_lists n (y1 + 1) (y2 ||| ((1 : Int32) <<< (y1 &&& 31))) (y3 + v7.1) v7.2.1 v7.2.2.1 v7.2.2.2)))
def f_X2_hold (c_t_begun : Int32) (c_t_waited : Int32) (r_t_hours : (Nat → Int32)) (r_t_openers : (Nat → Int32)) (c_p0_houses : Int32) (c_p0_comers : Int32) (c_p0_evening : Int32) (r_p0_comes : (Nat → Int32)) (r_p0_goes : (Nat → Int32)) (r_p0_kindOf : (Nat → Int32)) (r_p0_likings : (Nat → Int32)) (r_p0_lists : (Nat → Int32)) : Option (Int32 × Int32 × (Nat → Int32) × (Nat → Int32) × Int32 × (Nat → Int32)) :=
  (L_X2_hold_12 c_p0_houses c_p0_comers r_p0_comes r_p0_goes r_p0_kindOf r_p0_lists 400 0 0 0 r_t_hours r_t_openers r_p0_likings).bind (fun (v9 : Int32 × Int32 × (Nat → Int32) × (Nat → Int32) × (Nat → Int32)) =>
    some ((v9.1, v9.2.1, v9.2.2.1, v9.2.2.2.1, c_p0_evening + 1, v9.2.2.2.2)))
abbrev rm_X2_hold : Room := { frames := 3, cells := 0, slots := 0, locals := 75 }
set_option maxHeartbeats 4000000 in
set_option maxRecDepth 100000 in
theorem lp_X2_hold_12 {E : Ev} {X : Cx} {a_t a_t_hours a_t_openers a_p0 a_p0_comes a_p0_goes a_p0_kindOf a_p0_likings a_p0_lists : Nat} (c_p0_houses : Int32) (c_p0_comers : Int32) (c_p0_evening : Int32) (r_p0_comes : (Nat → Int32)) (r_p0_goes : (Nat → Int32)) (r_p0_kindOf : (Nat → Int32)) (r_p0_lists : (Nat → Int32)) (C : CX E X cX2_hold RX2 4 rm_X2_hold) : ∀ (n : Nat) (y1 : Int32) (y2 : Int32) (y3 : Int32) (y4 : (Nat → Int32)) (y5 : (Nat → Int32)) (y6 : (Nat → Int32)) (v : Int32 × Int32 × (Nat → Int32) × (Nat → Int32) × (Nat → Int32)), L_X2_hold_12 c_p0_houses c_p0_comers r_p0_comes r_p0_goes r_p0_kindOf r_p0_lists n y1 y2 y3 y4 y5 y6 = some v → G E X 0 0 [oX2 a_t a_t_hours a_t_openers v.1 v.2.1, aI E a_t_hours 4 v.2.2.1, aI E a_t_openers 4 v.2.2.2.1, oX1 a_p0 c_p0_houses c_p0_comers c_p0_evening a_p0_lists a_p0_kindOf a_p0_goes a_p0_comes a_p0_likings, aI E a_p0_comes 6 r_p0_comes, aI E a_p0_goes 6 r_p0_goes, aI E a_p0_kindOf 6 r_p0_kindOf, aI E a_p0_likings 24 v.2.2.2.2, aI E a_p0_lists 4 r_p0_lists] [(1, .ref a_p0)] 63 [] → G E X 0 0 [oX2 a_t a_t_hours a_t_openers y2 y3, aI E a_t_hours 4 y4, aI E a_t_openers 4 y5, oX1 a_p0 c_p0_houses c_p0_comers c_p0_evening a_p0_lists a_p0_kindOf a_p0_goes a_p0_comes a_p0_likings, aI E a_p0_comes 6 r_p0_comes, aI E a_p0_goes 6 r_p0_goes, aI E a_p0_kindOf 6 r_p0_kindOf, aI E a_p0_likings 24 y6, aI E a_p0_lists 4 r_p0_lists] [(0, .ref a_t), (1, .ref a_p0), (2, .int y1)] 12 [] := by
  intro n
  induction n with
  | zero => intro _ _ _ _ _ _ _ h; cases h
  | succ n ih =>
    intro y1 y2 y3 y4 y5 y6 v h kk
    rw [L_X2_hold_12] at h
    refine g_iload_n (pc := 12) C dX2_hold_12 2 rfl ?_
    refine g_aload_n (pc := 13) C dX2_hold_13 1 rfl ?_
    refine g_get (pc := 14) 3 C fl_X2_25 rfl rfl dX2_hold_14 ?_
    refine b_icmp_ge (pc := 17) 63 C dX2_hold_17 (by decide) h (fun _ h => ?_) (fun _ h => ?_)
    · obtain rfl := Option.some.inj h
      refine g_lv [1] (lv' := [(1, .ref a_p0)]) rfl ?_
      exact kk
    · refine g_aload_n (pc := 20) C dX2_hold_20 0 rfl ?_
      refine g_aload_n (pc := 21) C dX2_hold_21 1 rfl ?_
      refine g_iload_n (pc := 22) C dX2_hold_22 2 rfl ?_
      refine g_bipush (pc := 23) (v := 63) C dX2_hold_23 (by decide) ?_
      obtain ⟨v7, hv7, h⟩ := o_bnd h
      refine g_callV (pc := 25) (ws' := [oX2 a_t a_t_hours a_t_openers y2 y3, aI E a_t_hours 4 v7.2.1, aI E a_t_openers 4 v7.2.2.1, oX1 a_p0 c_p0_houses c_p0_comers c_p0_evening a_p0_lists a_p0_kindOf a_p0_goes a_p0_comes a_p0_likings, aI E a_p0_comes 6 r_p0_comes, aI E a_p0_goes 6 r_p0_goes, aI E a_p0_kindOf 6 r_p0_kindOf, aI E a_p0_likings 24 v7.2.2.2, aI E a_p0_lists 4 r_p0_lists]) (st1 := [.int v7.1]) C mv_X2_30 (k_X2_holdAt E a_t a_t_hours a_t_openers a_p0 a_p0_comes a_p0_goes a_p0_kindOf a_p0_likings a_p0_lists y2 y3 y4 y5 c_p0_houses c_p0_comers c_p0_evening r_p0_comes r_p0_goes r_p0_kindOf y6 r_p0_lists y1 63 v7 hv7) [0, 1, 2, 3, 4, 5, 6, 7, 8] rfl (by decide +kernel) rfl [some 0, some 1, some 2, some 3, some 4, some 5, some 6, some 7, some 8] 9 (by decide +kernel) rfl rfl 0 rfl rfl ⟨by decide, by decide⟩ ⟨rfl, rfl⟩ ⟨Nat.zero_le _, Nat.zero_le _⟩ rfl rfl rfl (Nat.le_of_ble_eq_true rfl) dX2_hold_25 ?_
      refine g_istore_n (pc := 28) (lv' := [(3, .int v7.1), (0, .ref a_t), (1, .ref a_p0), (2, .int y1)]) C dX2_hold_28 (by decide) rfl ?_
      refine g_aload_n (pc := 29) C dX2_hold_29 1 rfl ?_
      refine g_dup (pc := 30) C dX2_hold_30 rfl ?_
      refine g_get (pc := 31) 0 C fl_X2_22 rfl rfl dX2_hold_31 ?_
      refine g_iload_n (pc := 34) C dX2_hold_34 0 rfl ?_
      refine g_iadd (pc := 35) C dX2_hold_35 ?_
      refine g_put (pc := 36) (ws' := [oX2 a_t a_t_hours a_t_openers y2 (y3 + v7.1), aI E a_t_hours 4 v7.2.1, aI E a_t_openers 4 v7.2.2.1, oX1 a_p0 c_p0_houses c_p0_comers c_p0_evening a_p0_lists a_p0_kindOf a_p0_goes a_p0_comes a_p0_likings, aI E a_p0_comes 6 r_p0_comes, aI E a_p0_goes 6 r_p0_goes, aI E a_p0_kindOf 6 r_p0_kindOf, aI E a_p0_likings 24 v7.2.2.2, aI E a_p0_lists 4 r_p0_lists]) 0 C fp_X2_22 rfl rfl rfl (Nat.le_of_ble_eq_true rfl) rfl dX2_hold_36 ?_
      refine g_iload_n (pc := 39) C dX2_hold_39 0 rfl ?_
      refine g_bipush (pc := 40) (v := 7) C dX2_hold_40 (by decide) ?_
      refine b_icmp_eq (pc := 42) 57 C dX2_hold_42 (by decide) h (fun _ h => ?_) (fun _ h => ?_)
      · refine g_iinc (pc := 57) (v := y1 + 1) (lv' := [(2, .int (y1 + 1)), (3, .int v7.1), (0, .ref a_t), (1, .ref a_p0)]) C dX2_hold_57 3 rfl rfl (by decide) rfl ?_
        refine g_goto (pc := 60) 12 C dX2_hold_60 (by decide) ?_
        refine g_lv [2, 3, 0] (lv' := [(0, .ref a_t), (1, .ref a_p0), (2, .int (y1 + 1))]) rfl ?_
        exact ih _ _ _ _ _ _ _ h kk
      · refine g_aload_n (pc := 45) C dX2_hold_45 1 rfl ?_
        refine g_dup (pc := 46) C dX2_hold_46 rfl ?_
        refine g_get (pc := 47) 0 C fl_X2_18 rfl rfl dX2_hold_47 ?_
        refine g_iconst (pc := 50) (v := 1) C dX2_hold_50 (by decide) ?_
        refine g_iload_n (pc := 51) C dX2_hold_51 3 rfl ?_
        refine g_ishl (pc := 52) C dX2_hold_52 ?_
        refine g_ior (pc := 53) C dX2_hold_53 ?_
        refine g_put (pc := 54) (ws' := [oX2 a_t a_t_hours a_t_openers (y2 ||| ((1 : Int32) <<< (y1 &&& 31))) (y3 + v7.1), aI E a_t_hours 4 v7.2.1, aI E a_t_openers 4 v7.2.2.1, oX1 a_p0 c_p0_houses c_p0_comers c_p0_evening a_p0_lists a_p0_kindOf a_p0_goes a_p0_comes a_p0_likings, aI E a_p0_comes 6 r_p0_comes, aI E a_p0_goes 6 r_p0_goes, aI E a_p0_kindOf 6 r_p0_kindOf, aI E a_p0_likings 24 v7.2.2.2, aI E a_p0_lists 4 r_p0_lists]) 0 C fp_X2_18 rfl rfl rfl (Nat.le_of_ble_eq_true rfl) rfl dX2_hold_54 ?_
        refine g_iinc (pc := 57) (v := y1 + 1) (lv' := [(2, .int (y1 + 1)), (3, .int v7.1), (0, .ref a_t), (1, .ref a_p0)]) C dX2_hold_57 3 rfl rfl (by decide) rfl ?_
        refine g_goto (pc := 60) 12 C dX2_hold_60 (by decide) ?_
        refine g_lv [2, 3, 0] (lv' := [(0, .ref a_t), (1, .ref a_p0), (2, .int (y1 + 1))]) rfl ?_
        exact ih _ _ _ _ _ _ _ h kk
set_option maxHeartbeats 4000000 in
set_option maxRecDepth 100000 in
theorem k_X2_hold (E : Ev) (a_t a_t_hours a_t_openers a_p0 a_p0_comes a_p0_goes a_p0_kindOf a_p0_likings a_p0_lists : Nat) (c_t_begun : Int32) (c_t_waited : Int32) (r_t_hours : (Nat → Int32)) (r_t_openers : (Nat → Int32)) (c_p0_houses : Int32) (c_p0_comers : Int32) (c_p0_evening : Int32) (r_p0_comes : (Nat → Int32)) (r_p0_goes : (Nat → Int32)) (r_p0_kindOf : (Nat → Int32)) (r_p0_likings : (Nat → Int32)) (r_p0_lists : (Nat → Int32)) (v : Int32 × Int32 × (Nat → Int32) × (Nat → Int32) × Int32 × (Nat → Int32)) (h : f_X2_hold c_t_begun c_t_waited r_t_hours r_t_openers c_p0_houses c_p0_comers c_p0_evening r_p0_comes r_p0_goes r_p0_kindOf r_p0_likings r_p0_lists = some v) : Mt E yX2_hold cX2_hold 4 none rm_X2_hold [.ref a_t, .ref a_p0] [oX2 a_t a_t_hours a_t_openers c_t_begun c_t_waited, aI E a_t_hours 4 r_t_hours, aI E a_t_openers 4 r_t_openers, oX1 a_p0 c_p0_houses c_p0_comers c_p0_evening a_p0_lists a_p0_kindOf a_p0_goes a_p0_comes a_p0_likings, aI E a_p0_comes 6 r_p0_comes, aI E a_p0_goes 6 r_p0_goes, aI E a_p0_kindOf 6 r_p0_kindOf, aI E a_p0_likings 24 r_p0_likings, aI E a_p0_lists 4 r_p0_lists] [oX2 a_t a_t_hours a_t_openers v.1 v.2.1, aI E a_t_hours 4 v.2.2.1, aI E a_t_openers 4 v.2.2.2.1, oX1 a_p0 c_p0_houses c_p0_comers v.2.2.2.2.1 a_p0_lists a_p0_kindOf a_p0_goes a_p0_comes a_p0_likings, aI E a_p0_comes 6 r_p0_comes, aI E a_p0_goes 6 r_p0_goes, aI E a_p0_kindOf 6 r_p0_kindOf, aI E a_p0_likings 24 v.2.2.2.2.2, aI E a_p0_lists 4 r_p0_lists] none := by
  refine Mt.intro (lv := [(0, .ref a_t), (1, .ref a_p0)]) (by decide +kernel) (Nat.le_of_ble_eq_true rfl) rfl (fun X C K => ?_)
  have C : CX E X cX2_hold RX2 4 rm_X2_hold := C
  rw [f_X2_hold] at h
  refine g_aload_n (pc := 0) C dX2_hold_0 0 rfl ?_
  refine g_iconst (pc := 1) (v := 0) C dX2_hold_1 (by decide) ?_
  refine g_put (pc := 2) (ws' := [oX2 a_t a_t_hours a_t_openers 0 c_t_waited, aI E a_t_hours 4 r_t_hours, aI E a_t_openers 4 r_t_openers, oX1 a_p0 c_p0_houses c_p0_comers c_p0_evening a_p0_lists a_p0_kindOf a_p0_goes a_p0_comes a_p0_likings, aI E a_p0_comes 6 r_p0_comes, aI E a_p0_goes 6 r_p0_goes, aI E a_p0_kindOf 6 r_p0_kindOf, aI E a_p0_likings 24 r_p0_likings, aI E a_p0_lists 4 r_p0_lists]) 0 C fp_X2_18 rfl rfl rfl (Nat.le_of_ble_eq_true rfl) rfl dX2_hold_2 ?_
  refine g_aload_n (pc := 5) C dX2_hold_5 0 rfl ?_
  refine g_iconst (pc := 6) (v := 0) C dX2_hold_6 (by decide) ?_
  refine g_put (pc := 7) (ws' := [oX2 a_t a_t_hours a_t_openers 0 0, aI E a_t_hours 4 r_t_hours, aI E a_t_openers 4 r_t_openers, oX1 a_p0 c_p0_houses c_p0_comers c_p0_evening a_p0_lists a_p0_kindOf a_p0_goes a_p0_comes a_p0_likings, aI E a_p0_comes 6 r_p0_comes, aI E a_p0_goes 6 r_p0_goes, aI E a_p0_kindOf 6 r_p0_kindOf, aI E a_p0_likings 24 r_p0_likings, aI E a_p0_lists 4 r_p0_lists]) 0 C fp_X2_22 rfl rfl rfl (Nat.le_of_ble_eq_true rfl) rfl dX2_hold_7 ?_
  refine g_iconst (pc := 10) (v := 0) C dX2_hold_10 (by decide) ?_
  refine g_istore_n (pc := 11) (lv' := [(2, .int 0), (0, .ref a_t), (1, .ref a_p0)]) C dX2_hold_11 (by decide) rfl ?_
  obtain ⟨v9, hv9, h⟩ := o_bnd h
  refine g_lv [1, 2, 0] (lv' := [(0, .ref a_t), (1, .ref a_p0), (2, .int 0)]) rfl ?_
  refine lp_X2_hold_12 c_p0_houses c_p0_comers c_p0_evening r_p0_comes r_p0_goes r_p0_kindOf r_p0_lists C 400 _ _ _ _ _ _ _ hv9 ?_
  refine g_aload_n (pc := 63) C dX2_hold_63 0 rfl ?_
  refine g_dup (pc := 64) C dX2_hold_64 rfl ?_
  refine g_get (pc := 65) 3 C fl_X2_34 rfl rfl dX2_hold_65 ?_
  refine g_iconst (pc := 68) (v := 1) C dX2_hold_68 (by decide) ?_
  refine g_iadd (pc := 69) C dX2_hold_69 ?_
  refine g_put (pc := 70) (ws' := [oX2 a_t a_t_hours a_t_openers v9.1 v9.2.1, aI E a_t_hours 4 v9.2.2.1, aI E a_t_openers 4 v9.2.2.2.1, oX1 a_p0 c_p0_houses c_p0_comers (c_p0_evening + 1) a_p0_lists a_p0_kindOf a_p0_goes a_p0_comes a_p0_likings, aI E a_p0_comes 6 r_p0_comes, aI E a_p0_goes 6 r_p0_goes, aI E a_p0_kindOf 6 r_p0_kindOf, aI E a_p0_likings 24 v9.2.2.2.2, aI E a_p0_lists 4 r_p0_lists]) 3 C fp_X2_34 rfl rfl rfl (Nat.le_of_ble_eq_true rfl) rfl dX2_hold_70 ?_
  obtain rfl := Option.some.inj h
  exact g_vret (pc := 73) C K dX2_hold_73
theorem dX7_agreeWith_0 : decode cX7_agreeWith 0 = .ok (.iconst 0, 1) := by decide +kernel
theorem dX7_agreeWith_1 : decode cX7_agreeWith 1 = .ok (.istore_n 2, 1) := by decide +kernel
theorem dX7_agreeWith_2 : decode cX7_agreeWith 2 = .ok (.iload_n 2, 1) := by decide +kernel
theorem dX7_agreeWith_3 : decode cX7_agreeWith 3 = .ok (.aload_n 0, 1) := by decide +kernel
theorem dX7_agreeWith_4 : decode cX7_agreeWith 4 = .ok (.getfield 9, 3) := by decide +kernel
theorem dX7_agreeWith_7 : decode cX7_agreeWith 7 = .ok (.if_icmp .ge 37, 3) := by decide +kernel
theorem dX7_agreeWith_10 : decode cX7_agreeWith 10 = .ok (.aload_n 1, 1) := by decide +kernel
theorem dX7_agreeWith_11 : decode cX7_agreeWith 11 = .ok (.aload_n 0, 1) := by decide +kernel
theorem dX7_agreeWith_12 : decode cX7_agreeWith 12 = .ok (.getfield 15, 3) := by decide +kernel
theorem dX7_agreeWith_15 : decode cX7_agreeWith 15 = .ok (.iload_n 2, 1) := by decide +kernel
theorem dX7_agreeWith_16 : decode cX7_agreeWith 16 = .ok (.iaload, 1) := by decide +kernel
theorem dX7_agreeWith_17 : decode cX7_agreeWith 17 = .ok (.iconst 4, 1) := by decide +kernel
theorem dX7_agreeWith_18 : decode cX7_agreeWith 18 = .ok (.imul, 1) := by decide +kernel
theorem dX7_agreeWith_19 : decode cX7_agreeWith 19 = .ok (.aload_n 0, 1) := by decide +kernel
theorem dX7_agreeWith_20 : decode cX7_agreeWith 20 = .ok (.getfield 19, 3) := by decide +kernel
theorem dX7_agreeWith_23 : decode cX7_agreeWith 23 = .ok (.iload_n 2, 1) := by decide +kernel
theorem dX7_agreeWith_24 : decode cX7_agreeWith 24 = .ok (.iaload, 1) := by decide +kernel
theorem dX7_agreeWith_25 : decode cX7_agreeWith 25 = .ok (.iadd, 1) := by decide +kernel
theorem dX7_agreeWith_26 : decode cX7_agreeWith 26 = .ok (.iaload, 1) := by decide +kernel
theorem dX7_agreeWith_27 : decode cX7_agreeWith 27 = .ok (.aload_n 0, 1) := by decide +kernel
theorem dX7_agreeWith_28 : decode cX7_agreeWith 28 = .ok (.getfield 22, 3) := by decide +kernel
theorem dX7_agreeWith_31 : decode cX7_agreeWith 31 = .ok (.iload_n 2, 1) := by decide +kernel
theorem dX7_agreeWith_32 : decode cX7_agreeWith 32 = .ok (.iaload, 1) := by decide +kernel
theorem dX7_agreeWith_33 : decode cX7_agreeWith 33 = .ok (.if_icmp .eq 5, 3) := by decide +kernel
theorem dX7_agreeWith_36 : decode cX7_agreeWith 36 = .ok (.iconst 0, 1) := by decide +kernel
theorem dX7_agreeWith_37 : decode cX7_agreeWith 37 = .ok (.ireturn, 1) := by decide +kernel
theorem dX7_agreeWith_38 : decode cX7_agreeWith 38 = .ok (.iinc 2 1, 3) := by decide +kernel
theorem dX7_agreeWith_41 : decode cX7_agreeWith 41 = .ok (.goto (-39), 3) := by decide +kernel
theorem dX7_agreeWith_44 : decode cX7_agreeWith 44 = .ok (.iconst 1, 1) := by decide +kernel
theorem dX7_agreeWith_45 : decode cX7_agreeWith 45 = .ok (.ireturn, 1) := by decide +kernel
def L_X7_agreeWith_2 (c_t_size : Int32) (r_t_behind : (Nat → Int32)) (r_t_hours : (Nat → Int32)) (r_t_where : (Nat → Int32)) (r_p0 : (Nat → Int32)) : Nat → Int32 → Option ((Int32) ⊕ (Unit))
  | 0, _ => none
  | n + 1, y1 =>
    if c_t_size ≤ y1 then
      (some (.inr (())))
    else
      (if inb y1 6 then
        (if inb y1 6 then
          (if inb (((r_t_behind (ix y1)) * 4) + (r_t_where (ix y1))) 40 then
            (if inb y1 6 then
              (if (r_p0 (ix (((r_t_behind (ix y1)) * 4) + (r_t_where (ix y1))))) = (r_t_hours (ix y1)) then
                (L_X7_agreeWith_2 c_t_size r_t_behind r_t_hours r_t_where r_p0 n (y1 + 1))
              else
                (some (.inl 0)))
            else none)
          else none)
        else none)
      else none)
def f_X7_agreeWith (c_t_size : Int32) (r_t_behind : (Nat → Int32)) (r_t_hours : (Nat → Int32)) (r_t_where : (Nat → Int32)) (r_p0 : (Nat → Int32)) : Option (Int32) :=
  (L_X7_agreeWith_2 c_t_size r_t_behind r_t_hours r_t_where r_p0 400 0).bind (fun o => sel (fun (w4 : Int32) => some w4) (fun (v3 : Unit) =>
    some 1) o)
abbrev rm_X7_agreeWith : Room := { frames := 0, cells := 0, slots := 0, locals := 0 }
set_option maxHeartbeats 4000000 in
set_option maxRecDepth 100000 in
theorem lp_X7_agreeWith_2 {E : Ev} {X : Cx} {a_t a_t_behind a_t_hours a_t_where a_p0 : Nat} (c_t_size : Int32) (r_t_behind : (Nat → Int32)) (r_t_hours : (Nat → Int32)) (r_t_where : (Nat → Int32)) (r_p0 : (Nat → Int32)) (C : CX E X cX7_agreeWith RX7 3 rm_X7_agreeWith) : ∀ (n : Nat) (y1 : Int32) (o : ((Int32) ⊕ (Unit))), L_X7_agreeWith_2 c_t_size r_t_behind r_t_hours r_t_where r_p0 n y1 = some o → (∀ w, o = .inl w → QK E X 0 0 (some .boolean) [oX7 a_t c_t_size a_t_behind a_t_where a_t_hours, aI E a_t_behind 6 r_t_behind, aI E a_t_hours 6 r_t_hours, aI E a_t_where 6 r_t_where, aI E a_p0 40 r_p0] (some (.int w))) → (∀ v, o = .inr v → G E X 0 0 [oX7 a_t c_t_size a_t_behind a_t_where a_t_hours, aI E a_t_behind 6 r_t_behind, aI E a_t_hours 6 r_t_hours, aI E a_t_where 6 r_t_where, aI E a_p0 40 r_p0] [] 44 []) → G E X 0 0 [oX7 a_t c_t_size a_t_behind a_t_where a_t_hours, aI E a_t_behind 6 r_t_behind, aI E a_t_hours 6 r_t_hours, aI E a_t_where 6 r_t_where, aI E a_p0 40 r_p0] [(0, .ref a_t), (1, .ref a_p0), (2, .int y1)] 2 [] := by
  intro n
  induction n with
  | zero => intro _ _ h; cases h
  | succ n ih =>
    intro y1 o h kr kx
    rw [L_X7_agreeWith_2] at h
    refine g_iload_n (pc := 2) C dX7_agreeWith_2 2 rfl ?_
    refine g_aload_n (pc := 3) C dX7_agreeWith_3 0 rfl ?_
    refine g_get (pc := 4) 0 C fl_X7_9 rfl rfl dX7_agreeWith_4 ?_
    refine b_icmp_ge (pc := 7) 44 C dX7_agreeWith_7 (by decide) h (fun _ h => ?_) (fun _ h => ?_)
    · obtain rfl := Option.some.inj h
      refine g_lv [] (lv' := []) rfl ?_
      exact kx _ rfl
    · refine g_aload_n (pc := 10) C dX7_agreeWith_10 1 rfl ?_
      refine g_aload_n (pc := 11) C dX7_agreeWith_11 0 rfl ?_
      refine g_get (pc := 12) 0 C fl_X7_15 rfl rfl dX7_agreeWith_12 ?_
      refine g_iload_n (pc := 15) C dX7_agreeWith_15 2 rfl ?_
      refine b_iald (pc := 16) 1 C rfl dX7_agreeWith_16 h (fun _ h => ?_)
      refine g_iconst (pc := 17) (v := 4) C dX7_agreeWith_17 (by decide) ?_
      refine g_imul (pc := 18) C dX7_agreeWith_18 ?_
      refine g_aload_n (pc := 19) C dX7_agreeWith_19 0 rfl ?_
      refine g_get (pc := 20) 0 C fl_X7_19 rfl rfl dX7_agreeWith_20 ?_
      refine g_iload_n (pc := 23) C dX7_agreeWith_23 2 rfl ?_
      refine b_iald (pc := 24) 3 C rfl dX7_agreeWith_24 h (fun _ h => ?_)
      refine g_iadd (pc := 25) C dX7_agreeWith_25 ?_
      refine b_iald (pc := 26) 4 C rfl dX7_agreeWith_26 h (fun _ h => ?_)
      refine g_aload_n (pc := 27) C dX7_agreeWith_27 0 rfl ?_
      refine g_get (pc := 28) 0 C fl_X7_22 rfl rfl dX7_agreeWith_28 ?_
      refine g_iload_n (pc := 31) C dX7_agreeWith_31 2 rfl ?_
      refine b_iald (pc := 32) 2 C rfl dX7_agreeWith_32 h (fun _ h => ?_)
      refine b_icmp_eq (pc := 33) 38 C dX7_agreeWith_33 (by decide) h (fun _ h => ?_) (fun _ h => ?_)
      · refine g_iinc (pc := 38) (v := y1 + 1) (lv' := [(2, .int (y1 + 1)), (0, .ref a_t), (1, .ref a_p0)]) C dX7_agreeWith_38 2 rfl rfl (by decide) rfl ?_
        refine g_goto (pc := 41) 2 C dX7_agreeWith_41 (by decide) ?_
        refine g_lv [1, 2, 0] (lv' := [(0, .ref a_t), (1, .ref a_p0), (2, .int (y1 + 1))]) rfl ?_
        exact ih _ _ h kr kx
      · refine g_iconst (pc := 36) (v := 0) C dX7_agreeWith_36 (by decide) ?_
        obtain rfl := Option.some.inj h
        exact g_zret (pc := 37) C (kr _ rfl) rfl dX7_agreeWith_37
set_option maxHeartbeats 4000000 in
set_option maxRecDepth 100000 in
theorem k_X7_agreeWith (E : Ev) (a_t a_t_behind a_t_hours a_t_where a_p0 : Nat) (c_t_size : Int32) (r_t_behind : (Nat → Int32)) (r_t_hours : (Nat → Int32)) (r_t_where : (Nat → Int32)) (r_p0 : (Nat → Int32)) (v : Int32) (h : f_X7_agreeWith c_t_size r_t_behind r_t_hours r_t_where r_p0 = some v) : Mt E yX7_agreeWith cX7_agreeWith 3 (some .boolean) rm_X7_agreeWith [.ref a_t, .ref a_p0] [oX7 a_t c_t_size a_t_behind a_t_where a_t_hours, aI E a_t_behind 6 r_t_behind, aI E a_t_hours 6 r_t_hours, aI E a_t_where 6 r_t_where, aI E a_p0 40 r_p0] [oX7 a_t c_t_size a_t_behind a_t_where a_t_hours, aI E a_t_behind 6 r_t_behind, aI E a_t_hours 6 r_t_hours, aI E a_t_where 6 r_t_where, aI E a_p0 40 r_p0] (some (.int v)) := by
  refine Mt.intro (lv := [(0, .ref a_t), (1, .ref a_p0)]) (by decide +kernel) (Nat.le_of_ble_eq_true rfl) rfl (fun X C K => ?_)
  have C : CX E X cX7_agreeWith RX7 3 rm_X7_agreeWith := C
  rw [f_X7_agreeWith] at h
  refine g_iconst (pc := 0) (v := 0) C dX7_agreeWith_0 (by decide) ?_
  refine g_istore_n (pc := 1) (lv' := [(2, .int 0), (0, .ref a_t), (1, .ref a_p0)]) C dX7_agreeWith_1 (by decide) rfl ?_
  rcases o_sel h with ⟨w4, hw4, h⟩ | ⟨v3, hv3, h⟩
  · obtain rfl := Option.some.inj h
    refine g_lv [1, 2, 0] (lv' := [(0, .ref a_t), (1, .ref a_p0), (2, .int 0)]) rfl ?_
    exact lp_X7_agreeWith_2 c_t_size r_t_behind r_t_hours r_t_where r_p0 C 400 _ _ hw4 (fun _ e => by cases e; exact K) (fun _ e => by cases e)
  · refine g_lv [1, 2, 0] (lv' := [(0, .ref a_t), (1, .ref a_p0), (2, .int 0)]) rfl ?_
    refine lp_X7_agreeWith_2 c_t_size r_t_behind r_t_hours r_t_where r_p0 C 400 _ _ hv3 (fun _ e => by cases e) (fun _ e => ?_)
    cases e
    refine g_iconst (pc := 44) (v := 1) C dX7_agreeWith_44 (by decide) ?_
    obtain rfl := Option.some.inj h
    exact g_zret (pc := 45) C K rfl dX7_agreeWith_45
theorem dX7_reach_0 : decode cX7_reach 0 = .ok (.iconst 0, 1) := by decide +kernel
theorem dX7_reach_1 : decode cX7_reach 1 = .ok (.istore_n 1, 1) := by decide +kernel
theorem dX7_reach_2 : decode cX7_reach 2 = .ok (.iconst 0, 1) := by decide +kernel
theorem dX7_reach_3 : decode cX7_reach 3 = .ok (.istore_n 2, 1) := by decide +kernel
theorem dX7_reach_4 : decode cX7_reach 4 = .ok (.iload_n 2, 1) := by decide +kernel
theorem dX7_reach_5 : decode cX7_reach 5 = .ok (.aload_n 0, 1) := by decide +kernel
theorem dX7_reach_6 : decode cX7_reach 6 = .ok (.getfield 9, 3) := by decide +kernel
theorem dX7_reach_9 : decode cX7_reach 9 = .ok (.if_icmp .ge 22, 3) := by decide +kernel
theorem dX7_reach_12 : decode cX7_reach 12 = .ok (.iload_n 1, 1) := by decide +kernel
theorem dX7_reach_13 : decode cX7_reach 13 = .ok (.aload_n 0, 1) := by decide +kernel
theorem dX7_reach_14 : decode cX7_reach 14 = .ok (.getfield 15, 3) := by decide +kernel
theorem dX7_reach_17 : decode cX7_reach 17 = .ok (.iload_n 2, 1) := by decide +kernel
theorem dX7_reach_18 : decode cX7_reach 18 = .ok (.iaload, 1) := by decide +kernel
theorem dX7_reach_19 : decode cX7_reach 19 = .ok (.iconst 1, 1) := by decide +kernel
theorem dX7_reach_20 : decode cX7_reach 20 = .ok (.iadd, 1) := by decide +kernel
theorem dX7_reach_21 : decode cX7_reach 21 = .ok (.invokestatic 31, 3) := by decide +kernel
theorem dX7_reach_24 : decode cX7_reach 24 = .ok (.istore_n 1, 1) := by decide +kernel
theorem dX7_reach_25 : decode cX7_reach 25 = .ok (.iinc 2 1, 3) := by decide +kernel
theorem dX7_reach_28 : decode cX7_reach 28 = .ok (.goto (-24), 3) := by decide +kernel
theorem dX7_reach_31 : decode cX7_reach 31 = .ok (.iload_n 1, 1) := by decide +kernel
theorem dX7_reach_32 : decode cX7_reach 32 = .ok (.ireturn, 1) := by decide +kernel
def L_X7_reach_4 (c_t_size : Int32) (r_t_behind : (Nat → Int32)) : Nat → Int32 → Int32 → Option (Int32)
  | 0, _, _ => none
  | n + 1, y1, y2 =>
    if c_t_size ≤ y2 then
      (some y1)
    else
      (if inb y2 6 then
        (L_X7_reach_4 c_t_size r_t_behind n (if y1 < ((r_t_behind (ix y2)) + 1) then ((r_t_behind (ix y2)) + 1) else y1) (y2 + 1))
      else none)
def f_X7_reach (c_t_size : Int32) (r_t_behind : (Nat → Int32)) : Option (Int32) :=
  (L_X7_reach_4 c_t_size r_t_behind 400 0 0).bind (fun (v4 : Int32) =>
    some v4)
abbrev rm_X7_reach : Room := { frames := 1, cells := 0, slots := 0, locals := 60 }
set_option maxHeartbeats 4000000 in
set_option maxRecDepth 100000 in
theorem lp_X7_reach_4 {E : Ev} {X : Cx} {a_t a_t_behind a_t_where a_t_hours : Nat} (c_t_size : Int32) (r_t_behind : (Nat → Int32)) (C : CX E X cX7_reach RX7 3 rm_X7_reach) : ∀ (n : Nat) (y1 : Int32) (y2 : Int32) (v : Int32), L_X7_reach_4 c_t_size r_t_behind n y1 y2 = some v → G E X 0 0 [oX7 a_t c_t_size a_t_behind a_t_where a_t_hours, aI E a_t_behind 6 r_t_behind] [(1, .int v)] 31 [] → G E X 0 0 [oX7 a_t c_t_size a_t_behind a_t_where a_t_hours, aI E a_t_behind 6 r_t_behind] [(0, .ref a_t), (1, .int y1), (2, .int y2)] 4 [] := by
  intro n
  induction n with
  | zero => intro _ _ _ h; cases h
  | succ n ih =>
    intro y1 y2 v h kk
    rw [L_X7_reach_4] at h
    refine g_iload_n (pc := 4) C dX7_reach_4 2 rfl ?_
    refine g_aload_n (pc := 5) C dX7_reach_5 0 rfl ?_
    refine g_get (pc := 6) 0 C fl_X7_9 rfl rfl dX7_reach_6 ?_
    refine b_icmp_ge (pc := 9) 31 C dX7_reach_9 (by decide) h (fun _ h => ?_) (fun _ h => ?_)
    · obtain rfl := Option.some.inj h
      refine g_lv [1] (lv' := [(1, .int y1)]) rfl ?_
      exact kk
    · refine g_iload_n (pc := 12) C dX7_reach_12 1 rfl ?_
      refine g_aload_n (pc := 13) C dX7_reach_13 0 rfl ?_
      refine g_get (pc := 14) 0 C fl_X7_15 rfl rfl dX7_reach_14 ?_
      refine g_iload_n (pc := 17) C dX7_reach_17 2 rfl ?_
      refine b_iald (pc := 18) 1 C rfl dX7_reach_18 h (fun _ h => ?_)
      refine g_iconst (pc := 19) (v := 1) C dX7_reach_19 (by decide) ?_
      refine g_iadd (pc := 20) C dX7_reach_20 ?_
      refine g_max (pc := 21) C mx_X7_31 ⟨Nat.zero_le _, Nat.zero_le _⟩ (by decide) (Nat.le_of_ble_eq_true rfl) dX7_reach_21 ?_
      refine g_istore_n (pc := 24) (lv' := [(1, .int (if y1 < ((r_t_behind (ix y2)) + 1) then ((r_t_behind (ix y2)) + 1) else y1)), (0, .ref a_t), (2, .int y2)]) C dX7_reach_24 (by decide) rfl ?_
      refine g_iinc (pc := 25) (v := y2 + 1) (lv' := [(2, .int (y2 + 1)), (1, .int (if y1 < ((r_t_behind (ix y2)) + 1) then ((r_t_behind (ix y2)) + 1) else y1)), (0, .ref a_t)]) C dX7_reach_25 2 rfl rfl (by decide) rfl ?_
      refine g_goto (pc := 28) 4 C dX7_reach_28 (by decide) ?_
      refine g_lv [2, 1, 0] (lv' := [(0, .ref a_t), (1, .int (if y1 < ((r_t_behind (ix y2)) + 1) then ((r_t_behind (ix y2)) + 1) else y1)), (2, .int (y2 + 1))]) rfl ?_
      exact ih _ _ _ h kk
set_option maxHeartbeats 4000000 in
set_option maxRecDepth 100000 in
theorem k_X7_reach (E : Ev) (a_t a_t_behind a_t_where a_t_hours : Nat) (c_t_size : Int32) (r_t_behind : (Nat → Int32)) (v : Int32) (h : f_X7_reach c_t_size r_t_behind = some v) : Mt E yX7_reach cX7_reach 3 (some .int) rm_X7_reach [.ref a_t] [oX7 a_t c_t_size a_t_behind a_t_where a_t_hours, aI E a_t_behind 6 r_t_behind] [oX7 a_t c_t_size a_t_behind a_t_where a_t_hours, aI E a_t_behind 6 r_t_behind] (some (.int v)) := by
  refine Mt.intro (lv := [(0, .ref a_t)]) (by decide +kernel) (Nat.le_of_ble_eq_true rfl) rfl (fun X C K => ?_)
  have C : CX E X cX7_reach RX7 3 rm_X7_reach := C
  rw [f_X7_reach] at h
  refine g_iconst (pc := 0) (v := 0) C dX7_reach_0 (by decide) ?_
  refine g_istore_n (pc := 1) (lv' := [(1, .int 0), (0, .ref a_t)]) C dX7_reach_1 (by decide) rfl ?_
  refine g_iconst (pc := 2) (v := 0) C dX7_reach_2 (by decide) ?_
  refine g_istore_n (pc := 3) (lv' := [(2, .int 0), (1, .int 0), (0, .ref a_t)]) C dX7_reach_3 (by decide) rfl ?_
  obtain ⟨v4, hv4, h⟩ := o_bnd h
  refine g_lv [2, 1, 0] (lv' := [(0, .ref a_t), (1, .int 0), (2, .int 0)]) rfl ?_
  refine lp_X7_reach_4 c_t_size r_t_behind C 400 _ _ _ hv4 ?_
  refine g_iload_n (pc := 31) C dX7_reach_31 0 rfl ?_
  obtain rfl := Option.some.inj h
  exact g_iret (pc := 32) C K dX7_reach_32
theorem dX6_isNothing_0 : decode cX6_isNothing 0 = .ok (.aload_n 0, 1) := by decide +kernel
theorem dX6_isNothing_1 : decode cX6_isNothing 1 = .ok (.getfield 19, 3) := by decide +kernel
theorem dX6_isNothing_4 : decode cX6_isNothing 4 = .ok (.iconst (-1), 1) := by decide +kernel
theorem dX6_isNothing_5 : decode cX6_isNothing 5 = .ok (.if_icmp .ne 7, 3) := by decide +kernel
theorem dX6_isNothing_8 : decode cX6_isNothing 8 = .ok (.iconst 1, 1) := by decide +kernel
theorem dX6_isNothing_9 : decode cX6_isNothing 9 = .ok (.goto 4, 3) := by decide +kernel
theorem dX6_isNothing_12 : decode cX6_isNothing 12 = .ok (.iconst 0, 1) := by decide +kernel
theorem dX6_isNothing_13 : decode cX6_isNothing 13 = .ok (.ireturn, 1) := by decide +kernel
def f_X6_isNothing (c_t_size : Int32) : Option (Int32) :=
  if c_t_size = ((-1)) then
    (some 1)
  else
    (some 0)
abbrev rm_X6_isNothing : Room := { frames := 0, cells := 0, slots := 0, locals := 0 }
set_option maxHeartbeats 4000000 in
set_option maxRecDepth 100000 in
theorem k_X6_isNothing (E : Ev) (a_t a_t_cells : Nat) (c_t_lane : Int32) (c_t_size : Int32) (v : Int32) (h : f_X6_isNothing c_t_size = some v) : Mt E yX6_isNothing cX6_isNothing 1 (some .boolean) rm_X6_isNothing [.ref a_t] [oX6 a_t a_t_cells c_t_lane c_t_size] [oX6 a_t a_t_cells c_t_lane c_t_size] (some (.int v)) := by
  refine Mt.intro (lv := [(0, .ref a_t)]) (by decide +kernel) (Nat.le_of_ble_eq_true rfl) rfl (fun X C K => ?_)
  have C : CX E X cX6_isNothing RX6 1 rm_X6_isNothing := C
  rw [f_X6_isNothing] at h
  refine g_aload_n (pc := 0) C dX6_isNothing_0 0 rfl ?_
  refine g_get (pc := 1) 0 C fl_X6_19 rfl rfl dX6_isNothing_1 ?_
  refine g_iconst (pc := 4) (v := (-1)) C dX6_isNothing_4 (by decide) ?_
  refine b_icmp_ne (pc := 5) 12 C dX6_isNothing_5 (by decide) h (fun _ h => ?_) (fun _ h => ?_)
  · refine g_iconst (pc := 12) (v := 0) C dX6_isNothing_12 (by decide) ?_
    obtain rfl := Option.some.inj h
    exact g_zret (pc := 13) C K rfl dX6_isNothing_13
  · refine g_iconst (pc := 8) (v := 1) C dX6_isNothing_8 (by decide) ?_
    refine g_goto (pc := 9) 13 C dX6_isNothing_9 (by decide) ?_
    obtain rfl := Option.some.inj h
    exact g_zret (pc := 13) C K rfl dX6_isNothing_13
theorem dX6_renew_0 : decode cX6_renew 0 = .ok (.aload_n 0, 1) := by decide +kernel
theorem dX6_renew_1 : decode cX6_renew 1 = .ok (.iload_n 1, 1) := by decide +kernel
theorem dX6_renew_2 : decode cX6_renew 2 = .ok (.putfield 15, 3) := by decide +kernel
theorem dX6_renew_5 : decode cX6_renew 5 = .ok (.aload_n 0, 1) := by decide +kernel
theorem dX6_renew_6 : decode cX6_renew 6 = .ok (.iload_n 2, 1) := by decide +kernel
theorem dX6_renew_7 : decode cX6_renew 7 = .ok (.putfield 19, 3) := by decide +kernel
theorem dX6_renew_10 : decode cX6_renew 10 = .ok (.iconst 0, 1) := by decide +kernel
theorem dX6_renew_11 : decode cX6_renew 11 = .ok (.istore_n 3, 1) := by decide +kernel
theorem dX6_renew_12 : decode cX6_renew 12 = .ok (.iload_n 3, 1) := by decide +kernel
theorem dX6_renew_13 : decode cX6_renew 13 = .ok (.iload_n 2, 1) := by decide +kernel
theorem dX6_renew_14 : decode cX6_renew 14 = .ok (.if_icmp .ge 16, 3) := by decide +kernel
theorem dX6_renew_17 : decode cX6_renew 17 = .ok (.aload_n 0, 1) := by decide +kernel
theorem dX6_renew_18 : decode cX6_renew 18 = .ok (.getfield 9, 3) := by decide +kernel
theorem dX6_renew_21 : decode cX6_renew 21 = .ok (.iload_n 3, 1) := by decide +kernel
theorem dX6_renew_22 : decode cX6_renew 22 = .ok (.iconst 0, 1) := by decide +kernel
theorem dX6_renew_23 : decode cX6_renew 23 = .ok (.iastore, 1) := by decide +kernel
theorem dX6_renew_24 : decode cX6_renew 24 = .ok (.iinc 3 1, 3) := by decide +kernel
theorem dX6_renew_27 : decode cX6_renew 27 = .ok (.goto (-15), 3) := by decide +kernel
theorem dX6_renew_30 : decode cX6_renew 30 = .ok (.return_, 1) := by decide +kernel
def L_X6_renew_12 (x2 : Int32) : Nat → Int32 → (Nat → Int32) → Option ((Nat → Int32))
  | 0, _, _ => none
  | n + 1, y1, y2 =>
    if x2 ≤ y1 then
      (some y2)
    else
      (if inb y1 40 then
        (L_X6_renew_12 x2 n (y1 + 1) (upd y2 (ix y1) 0))
      else none)
def f_X6_renew (c_t_lane : Int32) (c_t_size : Int32) (r_t_cells : (Nat → Int32)) (x1 : Int32) (x2 : Int32) : Option (Int32 × Int32 × (Nat → Int32)) :=
  (L_X6_renew_12 x2 400 0 r_t_cells).bind (fun (v4 : (Nat → Int32)) =>
    some ((x1, x2, v4)))
abbrev rm_X6_renew : Room := { frames := 0, cells := 0, slots := 0, locals := 0 }
set_option maxHeartbeats 4000000 in
set_option maxRecDepth 100000 in
theorem lp_X6_renew_12 {E : Ev} {X : Cx} {a_t a_t_cells : Nat} (x1 : Int32) (x2 : Int32) (C : CX E X cX6_renew RX6 4 rm_X6_renew) : ∀ (n : Nat) (y1 : Int32) (y2 : (Nat → Int32)) (v : (Nat → Int32)), L_X6_renew_12 x2 n y1 y2 = some v → G E X 0 0 [oX6 a_t a_t_cells x1 x2, aI E a_t_cells 40 v] [] 30 [] → G E X 0 0 [oX6 a_t a_t_cells x1 x2, aI E a_t_cells 40 y2] [(0, .ref a_t), (2, .int x2), (3, .int y1)] 12 [] := by
  intro n
  induction n with
  | zero => intro _ _ _ h; cases h
  | succ n ih =>
    intro y1 y2 v h kk
    rw [L_X6_renew_12] at h
    refine g_iload_n (pc := 12) C dX6_renew_12 2 rfl ?_
    refine g_iload_n (pc := 13) C dX6_renew_13 1 rfl ?_
    refine b_icmp_ge (pc := 14) 30 C dX6_renew_14 (by decide) h (fun _ h => ?_) (fun _ h => ?_)
    · obtain rfl := Option.some.inj h
      refine g_lv [] (lv' := []) rfl ?_
      exact kk
    · refine g_aload_n (pc := 17) C dX6_renew_17 0 rfl ?_
      refine g_get (pc := 18) 0 C fl_X6_9 rfl rfl dX6_renew_18 ?_
      refine g_iload_n (pc := 21) C dX6_renew_21 2 rfl ?_
      refine g_iconst (pc := 22) (v := 0) C dX6_renew_22 (by decide) ?_
      refine b_iast (pc := 23) (ws' := [oX6 a_t a_t_cells x1 x2, aI E a_t_cells 40 (upd y2 (ix y1) 0)]) 1 C rfl rfl dX6_renew_23 h (fun _ h => ?_)
      refine g_iinc (pc := 24) (v := y1 + 1) (lv' := [(3, .int (y1 + 1)), (0, .ref a_t), (2, .int x2)]) C dX6_renew_24 2 rfl rfl (by decide) rfl ?_
      refine g_goto (pc := 27) 12 C dX6_renew_27 (by decide) ?_
      refine g_lv [1, 2, 0] (lv' := [(0, .ref a_t), (2, .int x2), (3, .int (y1 + 1))]) rfl ?_
      exact ih _ _ _ h kk
set_option maxHeartbeats 4000000 in
set_option maxRecDepth 100000 in
theorem k_X6_renew (E : Ev) (a_t a_t_cells : Nat) (c_t_lane : Int32) (c_t_size : Int32) (r_t_cells : (Nat → Int32)) (x1 : Int32) (x2 : Int32) (v : Int32 × Int32 × (Nat → Int32)) (h : f_X6_renew c_t_lane c_t_size r_t_cells x1 x2 = some v) : Mt E yX6_renew cX6_renew 4 none rm_X6_renew [.ref a_t, .int x1, .int x2] [oX6 a_t a_t_cells c_t_lane c_t_size, aI E a_t_cells 40 r_t_cells] [oX6 a_t a_t_cells v.1 v.2.1, aI E a_t_cells 40 v.2.2] none := by
  refine Mt.intro (lv := [(0, .ref a_t), (1, .int x1), (2, .int x2)]) (by decide +kernel) (Nat.le_of_ble_eq_true rfl) rfl (fun X C K => ?_)
  have C : CX E X cX6_renew RX6 4 rm_X6_renew := C
  rw [f_X6_renew] at h
  refine g_aload_n (pc := 0) C dX6_renew_0 0 rfl ?_
  refine g_iload_n (pc := 1) C dX6_renew_1 1 rfl ?_
  refine g_put (pc := 2) (ws' := [oX6 a_t a_t_cells x1 c_t_size, aI E a_t_cells 40 r_t_cells]) 0 C fp_X6_15 rfl rfl rfl (Nat.le_of_ble_eq_true rfl) rfl dX6_renew_2 ?_
  refine g_aload_n (pc := 5) C dX6_renew_5 0 rfl ?_
  refine g_iload_n (pc := 6) C dX6_renew_6 2 rfl ?_
  refine g_put (pc := 7) (ws' := [oX6 a_t a_t_cells x1 x2, aI E a_t_cells 40 r_t_cells]) 0 C fp_X6_19 rfl rfl rfl (Nat.le_of_ble_eq_true rfl) rfl dX6_renew_7 ?_
  refine g_iconst (pc := 10) (v := 0) C dX6_renew_10 (by decide) ?_
  refine g_istore_n (pc := 11) (lv' := [(3, .int 0), (0, .ref a_t), (1, .int x1), (2, .int x2)]) C dX6_renew_11 (by decide) rfl ?_
  obtain ⟨v4, hv4, h⟩ := o_bnd h
  refine g_lv [1, 3, 0] (lv' := [(0, .ref a_t), (2, .int x2), (3, .int 0)]) rfl ?_
  refine lp_X6_renew_12 x1 x2 C 400 _ _ _ hv4 ?_
  obtain rfl := Option.some.inj h
  exact g_vret (pc := 30) C K dX6_renew_30
theorem dX6_put_0 : decode cX6_put 0 = .ok (.aload_n 0, 1) := by decide +kernel
theorem dX6_put_1 : decode cX6_put 1 = .ok (.getfield 15, 3) := by decide +kernel
theorem dX6_put_4 : decode cX6_put 4 = .ok (.ifCond .ne 14, 3) := by decide +kernel
theorem dX6_put_7 : decode cX6_put 7 = .ok (.aload_n 0, 1) := by decide +kernel
theorem dX6_put_8 : decode cX6_put 8 = .ok (.getfield 9, 3) := by decide +kernel
theorem dX6_put_11 : decode cX6_put 11 = .ok (.iload_n 1, 1) := by decide +kernel
theorem dX6_put_12 : decode cX6_put 12 = .ok (.iload_n 2, 1) := by decide +kernel
theorem dX6_put_13 : decode cX6_put 13 = .ok (.i2b, 1) := by decide +kernel
theorem dX6_put_14 : decode cX6_put 14 = .ok (.iastore, 1) := by decide +kernel
theorem dX6_put_15 : decode cX6_put 15 = .ok (.goto 29, 3) := by decide +kernel
theorem dX6_put_18 : decode cX6_put 18 = .ok (.aload_n 0, 1) := by decide +kernel
theorem dX6_put_19 : decode cX6_put 19 = .ok (.getfield 15, 3) := by decide +kernel
theorem dX6_put_22 : decode cX6_put 22 = .ok (.iconst 1, 1) := by decide +kernel
theorem dX6_put_23 : decode cX6_put 23 = .ok (.if_icmp .ne 14, 3) := by decide +kernel
theorem dX6_put_26 : decode cX6_put 26 = .ok (.aload_n 0, 1) := by decide +kernel
theorem dX6_put_27 : decode cX6_put 27 = .ok (.getfield 9, 3) := by decide +kernel
theorem dX6_put_30 : decode cX6_put 30 = .ok (.iload_n 1, 1) := by decide +kernel
theorem dX6_put_31 : decode cX6_put 31 = .ok (.iload_n 2, 1) := by decide +kernel
theorem dX6_put_32 : decode cX6_put 32 = .ok (.i2s, 1) := by decide +kernel
theorem dX6_put_33 : decode cX6_put 33 = .ok (.iastore, 1) := by decide +kernel
theorem dX6_put_34 : decode cX6_put 34 = .ok (.goto 10, 3) := by decide +kernel
theorem dX6_put_37 : decode cX6_put 37 = .ok (.aload_n 0, 1) := by decide +kernel
theorem dX6_put_38 : decode cX6_put 38 = .ok (.getfield 9, 3) := by decide +kernel
theorem dX6_put_41 : decode cX6_put 41 = .ok (.iload_n 1, 1) := by decide +kernel
theorem dX6_put_42 : decode cX6_put 42 = .ok (.iload_n 2, 1) := by decide +kernel
theorem dX6_put_43 : decode cX6_put 43 = .ok (.iastore, 1) := by decide +kernel
theorem dX6_put_44 : decode cX6_put 44 = .ok (.return_, 1) := by decide +kernel
def f_X6_put (c_t_lane : Int32) (r_t_cells : (Nat → Int32)) (x1 : Int32) (x2 : Int32) : Option ((Nat → Int32)) :=
  if c_t_lane = 0 then
    (if inb x1 40 then
      (some (upd r_t_cells (ix x1) x2.toInt8.toInt32))
    else none)
  else
    (if c_t_lane = 1 then
      (if inb x1 40 then
        (some (upd r_t_cells (ix x1) x2.toInt16.toInt32))
      else none)
    else
      (if inb x1 40 then
        (some (upd r_t_cells (ix x1) x2))
      else none))
abbrev rm_X6_put : Room := { frames := 0, cells := 0, slots := 0, locals := 0 }
set_option maxHeartbeats 4000000 in
set_option maxRecDepth 100000 in
theorem k_X6_put (E : Ev) (a_t a_t_cells : Nat) (c_t_lane : Int32) (c_t_size : Int32) (r_t_cells : (Nat → Int32)) (x1 : Int32) (x2 : Int32) (v : (Nat → Int32)) (h : f_X6_put c_t_lane r_t_cells x1 x2 = some v) : Mt E yX6_put cX6_put 3 none rm_X6_put [.ref a_t, .int x1, .int x2] [oX6 a_t a_t_cells c_t_lane c_t_size, aI E a_t_cells 40 r_t_cells] [oX6 a_t a_t_cells c_t_lane c_t_size, aI E a_t_cells 40 v] none := by
  refine Mt.intro (lv := [(0, .ref a_t), (1, .int x1), (2, .int x2)]) (by decide +kernel) (Nat.le_of_ble_eq_true rfl) rfl (fun X C K => ?_)
  have C : CX E X cX6_put RX6 3 rm_X6_put := C
  rw [f_X6_put] at h
  refine g_aload_n (pc := 0) C dX6_put_0 0 rfl ?_
  refine g_get (pc := 1) 0 C fl_X6_15 rfl rfl dX6_put_1 ?_
  refine b_if_ne (pc := 4) 18 C dX6_put_4 (by decide) h (fun _ h => ?_) (fun _ h => ?_)
  · refine g_aload_n (pc := 18) C dX6_put_18 0 rfl ?_
    refine g_get (pc := 19) 0 C fl_X6_15 rfl rfl dX6_put_19 ?_
    refine g_iconst (pc := 22) (v := 1) C dX6_put_22 (by decide) ?_
    refine b_icmp_ne (pc := 23) 37 C dX6_put_23 (by decide) h (fun _ h => ?_) (fun _ h => ?_)
    · refine g_aload_n (pc := 37) C dX6_put_37 0 rfl ?_
      refine g_get (pc := 38) 0 C fl_X6_9 rfl rfl dX6_put_38 ?_
      refine g_iload_n (pc := 41) C dX6_put_41 1 rfl ?_
      refine g_iload_n (pc := 42) C dX6_put_42 2 rfl ?_
      refine b_iast (pc := 43) (ws' := [oX6 a_t a_t_cells c_t_lane c_t_size, aI E a_t_cells 40 (upd r_t_cells (ix x1) x2)]) 1 C rfl rfl dX6_put_43 h (fun _ h => ?_)
      obtain rfl := Option.some.inj h
      exact g_vret (pc := 44) C K dX6_put_44
    · refine g_aload_n (pc := 26) C dX6_put_26 0 rfl ?_
      refine g_get (pc := 27) 0 C fl_X6_9 rfl rfl dX6_put_27 ?_
      refine g_iload_n (pc := 30) C dX6_put_30 1 rfl ?_
      refine g_iload_n (pc := 31) C dX6_put_31 2 rfl ?_
      refine g_i2s (pc := 32) C dX6_put_32 ?_
      refine b_iast (pc := 33) (ws' := [oX6 a_t a_t_cells c_t_lane c_t_size, aI E a_t_cells 40 (upd r_t_cells (ix x1) x2.toInt16.toInt32)]) 1 C rfl rfl dX6_put_33 h (fun _ h => ?_)
      refine g_goto (pc := 34) 44 C dX6_put_34 (by decide) ?_
      obtain rfl := Option.some.inj h
      exact g_vret (pc := 44) C K dX6_put_44
  · refine g_aload_n (pc := 7) C dX6_put_7 0 rfl ?_
    refine g_get (pc := 8) 0 C fl_X6_9 rfl rfl dX6_put_8 ?_
    refine g_iload_n (pc := 11) C dX6_put_11 1 rfl ?_
    refine g_iload_n (pc := 12) C dX6_put_12 2 rfl ?_
    refine g_i2b (pc := 13) C dX6_put_13 ?_
    refine b_iast (pc := 14) (ws' := [oX6 a_t a_t_cells c_t_lane c_t_size, aI E a_t_cells 40 (upd r_t_cells (ix x1) x2.toInt8.toInt32)]) 1 C rfl rfl dX6_put_14 h (fun _ h => ?_)
    refine g_goto (pc := 15) 44 C dX6_put_15 (by decide) ?_
    obtain rfl := Option.some.inj h
    exact g_vret (pc := 44) C K dX6_put_44
theorem dX6_faultAt_0 : decode cX6_faultAt 0 = .ok (.aload_n 0, 1) := by decide +kernel
theorem dX6_faultAt_1 : decode cX6_faultAt 1 = .ok (.invokevirtual 22, 3) := by decide +kernel
theorem dX6_faultAt_4 : decode cX6_faultAt 4 = .ok (.ifCond .eq 5, 3) := by decide +kernel
theorem dX6_faultAt_7 : decode cX6_faultAt 7 = .ok (.iconst 1, 1) := by decide +kernel
theorem dX6_faultAt_8 : decode cX6_faultAt 8 = .ok (.ireturn, 1) := by decide +kernel
theorem dX6_faultAt_9 : decode cX6_faultAt 9 = .ok (.aload_n 0, 1) := by decide +kernel
theorem dX6_faultAt_10 : decode cX6_faultAt 10 = .ok (.getfield 15, 3) := by decide +kernel
theorem dX6_faultAt_13 : decode cX6_faultAt 13 = .ok (.iload_n 1, 1) := by decide +kernel
theorem dX6_faultAt_14 : decode cX6_faultAt 14 = .ok (.if_icmp .eq 5, 3) := by decide +kernel
theorem dX6_faultAt_17 : decode cX6_faultAt 17 = .ok (.iconst 3, 1) := by decide +kernel
theorem dX6_faultAt_18 : decode cX6_faultAt 18 = .ok (.ireturn, 1) := by decide +kernel
theorem dX6_faultAt_19 : decode cX6_faultAt 19 = .ok (.iload_n 2, 1) := by decide +kernel
theorem dX6_faultAt_20 : decode cX6_faultAt 20 = .ok (.ifCond .lt 11, 3) := by decide +kernel
theorem dX6_faultAt_23 : decode cX6_faultAt 23 = .ok (.iload_n 2, 1) := by decide +kernel
theorem dX6_faultAt_24 : decode cX6_faultAt 24 = .ok (.aload_n 0, 1) := by decide +kernel
theorem dX6_faultAt_25 : decode cX6_faultAt 25 = .ok (.getfield 19, 3) := by decide +kernel
theorem dX6_faultAt_28 : decode cX6_faultAt 28 = .ok (.if_icmp .lt 7, 3) := by decide +kernel
theorem dX6_faultAt_31 : decode cX6_faultAt 31 = .ok (.iconst 2, 1) := by decide +kernel
theorem dX6_faultAt_32 : decode cX6_faultAt 32 = .ok (.goto 4, 3) := by decide +kernel
theorem dX6_faultAt_35 : decode cX6_faultAt 35 = .ok (.iconst 0, 1) := by decide +kernel
theorem dX6_faultAt_36 : decode cX6_faultAt 36 = .ok (.ireturn, 1) := by decide +kernel
def f_X6_faultAt (c_t_lane : Int32) (c_t_size : Int32) (x1 : Int32) (x2 : Int32) : Option (Int32) :=
  (f_X6_isNothing c_t_size).bind (fun (v1 : Int32) =>
    if v1 = 0 then
      (if c_t_lane = x1 then
        (if x2 < 0 then
          (some 2)
        else
          (if x2 < c_t_size then
            (some 0)
          else
            (some 2)))
      else
        (some 3))
    else
      (some 1))
abbrev rm_X6_faultAt : Room := { frames := 1, cells := 0, slots := 0, locals := 20 }
set_option maxHeartbeats 4000000 in
set_option maxRecDepth 100000 in
theorem k_X6_faultAt (E : Ev) (a_t a_t_cells : Nat) (c_t_lane : Int32) (c_t_size : Int32) (x1 : Int32) (x2 : Int32) (v : Int32) (h : f_X6_faultAt c_t_lane c_t_size x1 x2 = some v) : Mt E yX6_faultAt cX6_faultAt 3 (some .int) rm_X6_faultAt [.ref a_t, .int x1, .int x2] [oX6 a_t a_t_cells c_t_lane c_t_size] [oX6 a_t a_t_cells c_t_lane c_t_size] (some (.int v)) := by
  refine Mt.intro (lv := [(0, .ref a_t), (1, .int x1), (2, .int x2)]) (by decide +kernel) (Nat.le_of_ble_eq_true rfl) rfl (fun X C K => ?_)
  have C : CX E X cX6_faultAt RX6 3 rm_X6_faultAt := C
  rw [f_X6_faultAt] at h
  refine g_aload_n (pc := 0) C dX6_faultAt_0 0 rfl ?_
  obtain ⟨v1, hv1, h⟩ := o_bnd h
  refine g_callV (pc := 1) (ws' := [oX6 a_t a_t_cells c_t_lane c_t_size]) (st1 := [.int v1]) C mv_X6_22 (k_X6_isNothing E a_t a_t_cells c_t_lane c_t_size v1 hv1) [0] rfl (by decide +kernel) rfl [some 0] 1 (by decide +kernel) rfl rfl 0 rfl rfl ⟨by decide, by decide⟩ ⟨rfl, rfl⟩ ⟨Nat.zero_le _, Nat.zero_le _⟩ rfl rfl rfl (Nat.le_of_ble_eq_true rfl) dX6_faultAt_1 ?_
  refine b_if_eq (pc := 4) 9 C dX6_faultAt_4 (by decide) h (fun _ h => ?_) (fun _ h => ?_)
  · refine g_aload_n (pc := 9) C dX6_faultAt_9 0 rfl ?_
    refine g_get (pc := 10) 0 C fl_X6_15 rfl rfl dX6_faultAt_10 ?_
    refine g_iload_n (pc := 13) C dX6_faultAt_13 1 rfl ?_
    refine b_icmp_eq (pc := 14) 19 C dX6_faultAt_14 (by decide) h (fun _ h => ?_) (fun _ h => ?_)
    · refine g_iload_n (pc := 19) C dX6_faultAt_19 2 rfl ?_
      refine b_if_lt (pc := 20) 31 C dX6_faultAt_20 (by decide) h (fun _ h => ?_) (fun _ h => ?_)
      · refine g_iconst (pc := 31) (v := 2) C dX6_faultAt_31 (by decide) ?_
        refine g_goto (pc := 32) 36 C dX6_faultAt_32 (by decide) ?_
        obtain rfl := Option.some.inj h
        exact g_iret (pc := 36) C K dX6_faultAt_36
      · refine g_iload_n (pc := 23) C dX6_faultAt_23 2 rfl ?_
        refine g_aload_n (pc := 24) C dX6_faultAt_24 0 rfl ?_
        refine g_get (pc := 25) 0 C fl_X6_19 rfl rfl dX6_faultAt_25 ?_
        refine b_icmp_lt (pc := 28) 35 C dX6_faultAt_28 (by decide) h (fun _ h => ?_) (fun _ h => ?_)
        · refine g_iconst (pc := 35) (v := 0) C dX6_faultAt_35 (by decide) ?_
          obtain rfl := Option.some.inj h
          exact g_iret (pc := 36) C K dX6_faultAt_36
        · refine g_iconst (pc := 31) (v := 2) C dX6_faultAt_31 (by decide) ?_
          refine g_goto (pc := 32) 36 C dX6_faultAt_32 (by decide) ?_
          obtain rfl := Option.some.inj h
          exact g_iret (pc := 36) C K dX6_faultAt_36
    · refine g_iconst (pc := 17) (v := 3) C dX6_faultAt_17 (by decide) ?_
      obtain rfl := Option.some.inj h
      exact g_iret (pc := 18) C K dX6_faultAt_18
  · refine g_iconst (pc := 7) (v := 1) C dX6_faultAt_7 (by decide) ?_
    obtain rfl := Option.some.inj h
    exact g_iret (pc := 8) C K dX6_faultAt_8
theorem dX6_faultOfTwo_0 : decode cX6_faultOfTwo 0 = .ok (.aload_n 0, 1) := by decide +kernel
theorem dX6_faultOfTwo_1 : decode cX6_faultOfTwo 1 = .ok (.iload_n 1, 1) := by decide +kernel
theorem dX6_faultOfTwo_2 : decode cX6_faultOfTwo 2 = .ok (.iload_n 2, 1) := by decide +kernel
theorem dX6_faultOfTwo_3 : decode cX6_faultOfTwo 3 = .ok (.invokevirtual 26, 3) := by decide +kernel
theorem dX6_faultOfTwo_6 : decode cX6_faultOfTwo 6 = .ok (.istore_n 3, 1) := by decide +kernel
theorem dX6_faultOfTwo_7 : decode cX6_faultOfTwo 7 = .ok (.iload_n 3, 1) := by decide +kernel
theorem dX6_faultOfTwo_8 : decode cX6_faultOfTwo 8 = .ok (.ifCond .eq 7, 3) := by decide +kernel
theorem dX6_faultOfTwo_11 : decode cX6_faultOfTwo 11 = .ok (.iload_n 3, 1) := by decide +kernel
theorem dX6_faultOfTwo_12 : decode cX6_faultOfTwo 12 = .ok (.goto 11, 3) := by decide +kernel
theorem dX6_faultOfTwo_15 : decode cX6_faultOfTwo 15 = .ok (.aload_n 0, 1) := by decide +kernel
theorem dX6_faultOfTwo_16 : decode cX6_faultOfTwo 16 = .ok (.iload_n 1, 1) := by decide +kernel
theorem dX6_faultOfTwo_17 : decode cX6_faultOfTwo 17 = .ok (.iload_n 2, 1) := by decide +kernel
theorem dX6_faultOfTwo_18 : decode cX6_faultOfTwo 18 = .ok (.iconst 1, 1) := by decide +kernel
theorem dX6_faultOfTwo_19 : decode cX6_faultOfTwo 19 = .ok (.iadd, 1) := by decide +kernel
theorem dX6_faultOfTwo_20 : decode cX6_faultOfTwo 20 = .ok (.invokevirtual 26, 3) := by decide +kernel
theorem dX6_faultOfTwo_23 : decode cX6_faultOfTwo 23 = .ok (.ireturn, 1) := by decide +kernel
def f_X6_faultOfTwo (c_t_lane : Int32) (c_t_size : Int32) (x1 : Int32) (x2 : Int32) : Option (Int32) :=
  (f_X6_faultAt c_t_lane c_t_size x1 x2).bind (fun (v1 : Int32) =>
    if v1 = 0 then
      ((f_X6_faultAt c_t_lane c_t_size x1 (x2 + 1)).bind (fun (v2 : Int32) =>
        some v2))
    else
      (some v1))
abbrev rm_X6_faultOfTwo : Room := { frames := 2, cells := 0, slots := 0, locals := 42 }
set_option maxHeartbeats 4000000 in
set_option maxRecDepth 100000 in
theorem k_X6_faultOfTwo (E : Ev) (a_t a_t_cells : Nat) (c_t_lane : Int32) (c_t_size : Int32) (x1 : Int32) (x2 : Int32) (v : Int32) (h : f_X6_faultOfTwo c_t_lane c_t_size x1 x2 = some v) : Mt E yX6_faultOfTwo cX6_faultOfTwo 4 (some .int) rm_X6_faultOfTwo [.ref a_t, .int x1, .int x2] [oX6 a_t a_t_cells c_t_lane c_t_size] [oX6 a_t a_t_cells c_t_lane c_t_size] (some (.int v)) := by
  refine Mt.intro (lv := [(0, .ref a_t), (1, .int x1), (2, .int x2)]) (by decide +kernel) (Nat.le_of_ble_eq_true rfl) rfl (fun X C K => ?_)
  have C : CX E X cX6_faultOfTwo RX6 4 rm_X6_faultOfTwo := C
  rw [f_X6_faultOfTwo] at h
  refine g_aload_n (pc := 0) C dX6_faultOfTwo_0 0 rfl ?_
  refine g_iload_n (pc := 1) C dX6_faultOfTwo_1 1 rfl ?_
  refine g_iload_n (pc := 2) C dX6_faultOfTwo_2 2 rfl ?_
  obtain ⟨v1, hv1, h⟩ := o_bnd h
  refine g_callV (pc := 3) (ws' := [oX6 a_t a_t_cells c_t_lane c_t_size]) (st1 := [.int v1]) C mv_X6_26 (k_X6_faultAt E a_t a_t_cells c_t_lane c_t_size x1 x2 v1 hv1) [0] rfl (by decide +kernel) rfl [some 0] 1 (by decide +kernel) rfl rfl 0 rfl rfl ⟨by decide, by decide⟩ ⟨rfl, rfl⟩ ⟨Nat.zero_le _, Nat.zero_le _⟩ rfl rfl rfl (Nat.le_of_ble_eq_true rfl) dX6_faultOfTwo_3 ?_
  refine g_istore_n (pc := 6) (lv' := [(3, .int v1), (0, .ref a_t), (1, .int x1), (2, .int x2)]) C dX6_faultOfTwo_6 (by decide) rfl ?_
  refine g_iload_n (pc := 7) C dX6_faultOfTwo_7 0 rfl ?_
  refine b_if_eq (pc := 8) 15 C dX6_faultOfTwo_8 (by decide) h (fun _ h => ?_) (fun _ h => ?_)
  · refine g_aload_n (pc := 15) C dX6_faultOfTwo_15 1 rfl ?_
    refine g_iload_n (pc := 16) C dX6_faultOfTwo_16 2 rfl ?_
    refine g_iload_n (pc := 17) C dX6_faultOfTwo_17 3 rfl ?_
    refine g_iconst (pc := 18) (v := 1) C dX6_faultOfTwo_18 (by decide) ?_
    refine g_iadd (pc := 19) C dX6_faultOfTwo_19 ?_
    obtain ⟨v2, hv2, h⟩ := o_bnd h
    refine g_callV (pc := 20) (ws' := [oX6 a_t a_t_cells c_t_lane c_t_size]) (st1 := [.int v2]) C mv_X6_26 (k_X6_faultAt E a_t a_t_cells c_t_lane c_t_size x1 (x2 + 1) v2 hv2) [0] rfl (by decide +kernel) rfl [some 0] 1 (by decide +kernel) rfl rfl 0 rfl rfl ⟨by decide, by decide⟩ ⟨rfl, rfl⟩ ⟨Nat.zero_le _, Nat.zero_le _⟩ rfl rfl rfl (Nat.le_of_ble_eq_true rfl) dX6_faultOfTwo_20 ?_
    obtain rfl := Option.some.inj h
    exact g_iret (pc := 23) C K dX6_faultOfTwo_23
  · refine g_iload_n (pc := 11) C dX6_faultOfTwo_11 0 rfl ?_
    refine g_goto (pc := 12) 23 C dX6_faultOfTwo_12 (by decide) ?_
    obtain rfl := Option.some.inj h
    exact g_iret (pc := 23) C K dX6_faultOfTwo_23
theorem dX7_add_0 : decode cX7_add 0 = .ok (.aload_n 0, 1) := by decide +kernel
theorem dX7_add_1 : decode cX7_add 1 = .ok (.getfield 9, 3) := by decide +kernel
theorem dX7_add_4 : decode cX7_add 4 = .ok (.bipush 6, 2) := by decide +kernel
theorem dX7_add_6 : decode cX7_add 6 = .ok (.if_icmp .lt 5, 3) := by decide +kernel
theorem dX7_add_9 : decode cX7_add 9 = .ok (.iconst 0, 1) := by decide +kernel
theorem dX7_add_10 : decode cX7_add 10 = .ok (.ireturn, 1) := by decide +kernel
theorem dX7_add_11 : decode cX7_add 11 = .ok (.aload_n 0, 1) := by decide +kernel
theorem dX7_add_12 : decode cX7_add 12 = .ok (.getfield 15, 3) := by decide +kernel
theorem dX7_add_15 : decode cX7_add 15 = .ok (.aload_n 0, 1) := by decide +kernel
theorem dX7_add_16 : decode cX7_add 16 = .ok (.getfield 9, 3) := by decide +kernel
theorem dX7_add_19 : decode cX7_add 19 = .ok (.iload_n 1, 1) := by decide +kernel
theorem dX7_add_20 : decode cX7_add 20 = .ok (.iastore, 1) := by decide +kernel
theorem dX7_add_21 : decode cX7_add 21 = .ok (.aload_n 0, 1) := by decide +kernel
theorem dX7_add_22 : decode cX7_add 22 = .ok (.getfield 19, 3) := by decide +kernel
theorem dX7_add_25 : decode cX7_add 25 = .ok (.aload_n 0, 1) := by decide +kernel
theorem dX7_add_26 : decode cX7_add 26 = .ok (.getfield 9, 3) := by decide +kernel
theorem dX7_add_29 : decode cX7_add 29 = .ok (.iload_n 2, 1) := by decide +kernel
theorem dX7_add_30 : decode cX7_add 30 = .ok (.iastore, 1) := by decide +kernel
theorem dX7_add_31 : decode cX7_add 31 = .ok (.aload_n 0, 1) := by decide +kernel
theorem dX7_add_32 : decode cX7_add 32 = .ok (.getfield 22, 3) := by decide +kernel
theorem dX7_add_35 : decode cX7_add 35 = .ok (.aload_n 0, 1) := by decide +kernel
theorem dX7_add_36 : decode cX7_add 36 = .ok (.getfield 9, 3) := by decide +kernel
theorem dX7_add_39 : decode cX7_add 39 = .ok (.iload_n 3, 1) := by decide +kernel
theorem dX7_add_40 : decode cX7_add 40 = .ok (.iastore, 1) := by decide +kernel
theorem dX7_add_41 : decode cX7_add 41 = .ok (.aload_n 0, 1) := by decide +kernel
theorem dX7_add_42 : decode cX7_add 42 = .ok (.dup, 1) := by decide +kernel
theorem dX7_add_43 : decode cX7_add 43 = .ok (.getfield 9, 3) := by decide +kernel
theorem dX7_add_46 : decode cX7_add 46 = .ok (.iconst 1, 1) := by decide +kernel
theorem dX7_add_47 : decode cX7_add 47 = .ok (.iadd, 1) := by decide +kernel
theorem dX7_add_48 : decode cX7_add 48 = .ok (.putfield 9, 3) := by decide +kernel
theorem dX7_add_51 : decode cX7_add 51 = .ok (.iconst 1, 1) := by decide +kernel
theorem dX7_add_52 : decode cX7_add 52 = .ok (.ireturn, 1) := by decide +kernel
def f_X7_add (c_t_size : Int32) (r_t_behind : (Nat → Int32)) (r_t_hours : (Nat → Int32)) (r_t_where : (Nat → Int32)) (x1 : Int32) (x2 : Int32) (x3 : Int32) : Option (Int32 × Int32 × (Nat → Int32) × (Nat → Int32) × (Nat → Int32)) :=
  if c_t_size < 6 then
    (if inb c_t_size 6 then
      (if inb c_t_size 6 then
        (if inb c_t_size 6 then
          (some ((1, c_t_size + 1, upd r_t_behind (ix c_t_size) x1, upd r_t_hours (ix c_t_size) x3, upd r_t_where (ix c_t_size) x2)))
        else none)
      else none)
    else none)
  else
    (some ((0, c_t_size, r_t_behind, r_t_hours, r_t_where)))
abbrev rm_X7_add : Room := { frames := 0, cells := 0, slots := 0, locals := 0 }
set_option maxHeartbeats 4000000 in
set_option maxRecDepth 100000 in
theorem k_X7_add (E : Ev) (a_t a_t_behind a_t_hours a_t_where : Nat) (c_t_size : Int32) (r_t_behind : (Nat → Int32)) (r_t_hours : (Nat → Int32)) (r_t_where : (Nat → Int32)) (x1 : Int32) (x2 : Int32) (x3 : Int32) (v : Int32 × Int32 × (Nat → Int32) × (Nat → Int32) × (Nat → Int32)) (h : f_X7_add c_t_size r_t_behind r_t_hours r_t_where x1 x2 x3 = some v) : Mt E yX7_add cX7_add 4 (some .boolean) rm_X7_add [.ref a_t, .int x1, .int x2, .int x3] [oX7 a_t c_t_size a_t_behind a_t_where a_t_hours, aI E a_t_behind 6 r_t_behind, aI E a_t_hours 6 r_t_hours, aI E a_t_where 6 r_t_where] [oX7 a_t v.2.1 a_t_behind a_t_where a_t_hours, aI E a_t_behind 6 v.2.2.1, aI E a_t_hours 6 v.2.2.2.1, aI E a_t_where 6 v.2.2.2.2] (some (.int v.1)) := by
  refine Mt.intro (lv := [(0, .ref a_t), (1, .int x1), (2, .int x2), (3, .int x3)]) (by decide +kernel) (Nat.le_of_ble_eq_true rfl) rfl (fun X C K => ?_)
  have C : CX E X cX7_add RX7 4 rm_X7_add := C
  rw [f_X7_add] at h
  refine g_aload_n (pc := 0) C dX7_add_0 0 rfl ?_
  refine g_get (pc := 1) 0 C fl_X7_9 rfl rfl dX7_add_1 ?_
  refine g_bipush (pc := 4) (v := 6) C dX7_add_4 (by decide) ?_
  refine b_icmp_lt (pc := 6) 11 C dX7_add_6 (by decide) h (fun _ h => ?_) (fun _ h => ?_)
  · refine g_aload_n (pc := 11) C dX7_add_11 0 rfl ?_
    refine g_get (pc := 12) 0 C fl_X7_15 rfl rfl dX7_add_12 ?_
    refine g_aload_n (pc := 15) C dX7_add_15 0 rfl ?_
    refine g_get (pc := 16) 0 C fl_X7_9 rfl rfl dX7_add_16 ?_
    refine g_iload_n (pc := 19) C dX7_add_19 1 rfl ?_
    refine b_iast (pc := 20) (ws' := [oX7 a_t c_t_size a_t_behind a_t_where a_t_hours, aI E a_t_behind 6 (upd r_t_behind (ix c_t_size) x1), aI E a_t_hours 6 r_t_hours, aI E a_t_where 6 r_t_where]) 1 C rfl rfl dX7_add_20 h (fun _ h => ?_)
    refine g_aload_n (pc := 21) C dX7_add_21 0 rfl ?_
    refine g_get (pc := 22) 0 C fl_X7_19 rfl rfl dX7_add_22 ?_
    refine g_aload_n (pc := 25) C dX7_add_25 0 rfl ?_
    refine g_get (pc := 26) 0 C fl_X7_9 rfl rfl dX7_add_26 ?_
    refine g_iload_n (pc := 29) C dX7_add_29 2 rfl ?_
    refine b_iast (pc := 30) (ws' := [oX7 a_t c_t_size a_t_behind a_t_where a_t_hours, aI E a_t_behind 6 (upd r_t_behind (ix c_t_size) x1), aI E a_t_hours 6 r_t_hours, aI E a_t_where 6 (upd r_t_where (ix c_t_size) x2)]) 3 C rfl rfl dX7_add_30 h (fun _ h => ?_)
    refine g_aload_n (pc := 31) C dX7_add_31 0 rfl ?_
    refine g_get (pc := 32) 0 C fl_X7_22 rfl rfl dX7_add_32 ?_
    refine g_aload_n (pc := 35) C dX7_add_35 0 rfl ?_
    refine g_get (pc := 36) 0 C fl_X7_9 rfl rfl dX7_add_36 ?_
    refine g_iload_n (pc := 39) C dX7_add_39 3 rfl ?_
    refine b_iast (pc := 40) (ws' := [oX7 a_t c_t_size a_t_behind a_t_where a_t_hours, aI E a_t_behind 6 (upd r_t_behind (ix c_t_size) x1), aI E a_t_hours 6 (upd r_t_hours (ix c_t_size) x3), aI E a_t_where 6 (upd r_t_where (ix c_t_size) x2)]) 2 C rfl rfl dX7_add_40 h (fun _ h => ?_)
    refine g_aload_n (pc := 41) C dX7_add_41 0 rfl ?_
    refine g_dup (pc := 42) C dX7_add_42 rfl ?_
    refine g_get (pc := 43) 0 C fl_X7_9 rfl rfl dX7_add_43 ?_
    refine g_iconst (pc := 46) (v := 1) C dX7_add_46 (by decide) ?_
    refine g_iadd (pc := 47) C dX7_add_47 ?_
    refine g_put (pc := 48) (ws' := [oX7 a_t (c_t_size + 1) a_t_behind a_t_where a_t_hours, aI E a_t_behind 6 (upd r_t_behind (ix c_t_size) x1), aI E a_t_hours 6 (upd r_t_hours (ix c_t_size) x3), aI E a_t_where 6 (upd r_t_where (ix c_t_size) x2)]) 0 C fp_X7_9 rfl rfl rfl (Nat.le_of_ble_eq_true rfl) rfl dX7_add_48 ?_
    refine g_iconst (pc := 51) (v := 1) C dX7_add_51 (by decide) ?_
    obtain rfl := Option.some.inj h
    exact g_zret (pc := 52) C K rfl dX7_add_52
  · refine g_iconst (pc := 9) (v := 0) C dX7_add_9 (by decide) ?_
    obtain rfl := Option.some.inj h
    exact g_zret (pc := 10) C K rfl dX7_add_10
theorem dX7_copyFrom_0 : decode cX7_copyFrom 0 = .ok (.aload_n 0, 1) := by decide +kernel
theorem dX7_copyFrom_1 : decode cX7_copyFrom 1 = .ok (.aload_n 1, 1) := by decide +kernel
theorem dX7_copyFrom_2 : decode cX7_copyFrom 2 = .ok (.getfield 9, 3) := by decide +kernel
theorem dX7_copyFrom_5 : decode cX7_copyFrom 5 = .ok (.putfield 9, 3) := by decide +kernel
theorem dX7_copyFrom_8 : decode cX7_copyFrom 8 = .ok (.aload_n 1, 1) := by decide +kernel
theorem dX7_copyFrom_9 : decode cX7_copyFrom 9 = .ok (.getfield 15, 3) := by decide +kernel
theorem dX7_copyFrom_12 : decode cX7_copyFrom 12 = .ok (.iconst 0, 1) := by decide +kernel
theorem dX7_copyFrom_13 : decode cX7_copyFrom 13 = .ok (.aload_n 0, 1) := by decide +kernel
theorem dX7_copyFrom_14 : decode cX7_copyFrom 14 = .ok (.getfield 15, 3) := by decide +kernel
theorem dX7_copyFrom_17 : decode cX7_copyFrom 17 = .ok (.iconst 0, 1) := by decide +kernel
theorem dX7_copyFrom_18 : decode cX7_copyFrom 18 = .ok (.bipush 6, 2) := by decide +kernel
theorem dX7_copyFrom_20 : decode cX7_copyFrom 20 = .ok (.invokestatic 25, 3) := by decide +kernel
theorem dX7_copyFrom_23 : decode cX7_copyFrom 23 = .ok (.aload_n 1, 1) := by decide +kernel
theorem dX7_copyFrom_24 : decode cX7_copyFrom 24 = .ok (.getfield 19, 3) := by decide +kernel
theorem dX7_copyFrom_27 : decode cX7_copyFrom 27 = .ok (.iconst 0, 1) := by decide +kernel
theorem dX7_copyFrom_28 : decode cX7_copyFrom 28 = .ok (.aload_n 0, 1) := by decide +kernel
theorem dX7_copyFrom_29 : decode cX7_copyFrom 29 = .ok (.getfield 19, 3) := by decide +kernel
theorem dX7_copyFrom_32 : decode cX7_copyFrom 32 = .ok (.iconst 0, 1) := by decide +kernel
theorem dX7_copyFrom_33 : decode cX7_copyFrom 33 = .ok (.bipush 6, 2) := by decide +kernel
theorem dX7_copyFrom_35 : decode cX7_copyFrom 35 = .ok (.invokestatic 25, 3) := by decide +kernel
theorem dX7_copyFrom_38 : decode cX7_copyFrom 38 = .ok (.aload_n 1, 1) := by decide +kernel
theorem dX7_copyFrom_39 : decode cX7_copyFrom 39 = .ok (.getfield 22, 3) := by decide +kernel
theorem dX7_copyFrom_42 : decode cX7_copyFrom 42 = .ok (.iconst 0, 1) := by decide +kernel
theorem dX7_copyFrom_43 : decode cX7_copyFrom 43 = .ok (.aload_n 0, 1) := by decide +kernel
theorem dX7_copyFrom_44 : decode cX7_copyFrom 44 = .ok (.getfield 22, 3) := by decide +kernel
theorem dX7_copyFrom_47 : decode cX7_copyFrom 47 = .ok (.iconst 0, 1) := by decide +kernel
theorem dX7_copyFrom_48 : decode cX7_copyFrom 48 = .ok (.bipush 6, 2) := by decide +kernel
theorem dX7_copyFrom_50 : decode cX7_copyFrom 50 = .ok (.invokestatic 25, 3) := by decide +kernel
theorem dX7_copyFrom_53 : decode cX7_copyFrom 53 = .ok (.return_, 1) := by decide +kernel
def f_X7_copyFrom (c_t_size : Int32) (r_t_behind : (Nat → Int32)) (r_t_hours : (Nat → Int32)) (r_t_where : (Nat → Int32)) (c_p0_size : Int32) (r_p0_behind : (Nat → Int32)) (r_p0_hours : (Nat → Int32)) (r_p0_where : (Nat → Int32)) : Option (Int32 × (Nat → Int32) × (Nat → Int32) × (Nat → Int32)) :=
  some ((c_p0_size, r_p0_behind, r_p0_hours, r_p0_where))
abbrev rm_X7_copyFrom : Room := { frames := 1, cells := 0, slots := 0, locals := 60 }
set_option maxHeartbeats 4000000 in
set_option maxRecDepth 100000 in
theorem k_X7_copyFrom (E : Ev) (a_t a_t_behind a_t_hours a_t_where a_p0 a_p0_behind a_p0_hours a_p0_where : Nat) (c_t_size : Int32) (r_t_behind : (Nat → Int32)) (r_t_hours : (Nat → Int32)) (r_t_where : (Nat → Int32)) (c_p0_size : Int32) (r_p0_behind : (Nat → Int32)) (r_p0_hours : (Nat → Int32)) (r_p0_where : (Nat → Int32)) (v : Int32 × (Nat → Int32) × (Nat → Int32) × (Nat → Int32)) (h : f_X7_copyFrom c_t_size r_t_behind r_t_hours r_t_where c_p0_size r_p0_behind r_p0_hours r_p0_where = some v) : Mt E yX7_copyFrom cX7_copyFrom 2 none rm_X7_copyFrom [.ref a_t, .ref a_p0] [oX7 a_t c_t_size a_t_behind a_t_where a_t_hours, aI E a_t_behind 6 r_t_behind, aI E a_t_hours 6 r_t_hours, aI E a_t_where 6 r_t_where, oX7 a_p0 c_p0_size a_p0_behind a_p0_where a_p0_hours, aI E a_p0_behind 6 r_p0_behind, aI E a_p0_hours 6 r_p0_hours, aI E a_p0_where 6 r_p0_where] [oX7 a_t v.1 a_t_behind a_t_where a_t_hours, aI E a_t_behind 6 v.2.1, aI E a_t_hours 6 v.2.2.1, aI E a_t_where 6 v.2.2.2, oX7 a_p0 c_p0_size a_p0_behind a_p0_where a_p0_hours, aI E a_p0_behind 6 r_p0_behind, aI E a_p0_hours 6 r_p0_hours, aI E a_p0_where 6 r_p0_where] none := by
  refine Mt.intro (lv := [(0, .ref a_t), (1, .ref a_p0)]) (by decide +kernel) (Nat.le_of_ble_eq_true rfl) rfl (fun X C K => ?_)
  have C : CX E X cX7_copyFrom RX7 2 rm_X7_copyFrom := C
  rw [f_X7_copyFrom] at h
  refine g_aload_n (pc := 0) C dX7_copyFrom_0 0 rfl ?_
  refine g_aload_n (pc := 1) C dX7_copyFrom_1 1 rfl ?_
  refine g_get (pc := 2) 4 C fl_X7_9 rfl rfl dX7_copyFrom_2 ?_
  refine g_put (pc := 5) (ws' := [oX7 a_t c_p0_size a_t_behind a_t_where a_t_hours, aI E a_t_behind 6 r_t_behind, aI E a_t_hours 6 r_t_hours, aI E a_t_where 6 r_t_where, oX7 a_p0 c_p0_size a_p0_behind a_p0_where a_p0_hours, aI E a_p0_behind 6 r_p0_behind, aI E a_p0_hours 6 r_p0_hours, aI E a_p0_where 6 r_p0_where]) 0 C fp_X7_9 rfl rfl rfl (Nat.le_of_ble_eq_true rfl) rfl dX7_copyFrom_5 ?_
  refine g_aload_n (pc := 8) C dX7_copyFrom_8 1 rfl ?_
  refine g_get (pc := 9) 4 C fl_X7_15 rfl rfl dX7_copyFrom_9 ?_
  refine g_iconst (pc := 12) (v := 0) C dX7_copyFrom_12 (by decide) ?_
  refine g_aload_n (pc := 13) C dX7_copyFrom_13 0 rfl ?_
  refine g_get (pc := 14) 0 C fl_X7_15 rfl rfl dX7_copyFrom_14 ?_
  refine g_iconst (pc := 17) (v := 0) C dX7_copyFrom_17 (by decide) ?_
  refine g_bipush (pc := 18) (v := 6) C dX7_copyFrom_18 (by decide) ?_
  refine g_copy (pc := 20) (ws' := [oX7 a_t c_p0_size a_t_behind a_t_where a_t_hours, aI E a_t_behind 6 r_p0_behind, aI E a_t_hours 6 r_t_hours, aI E a_t_where 6 r_t_where, oX7 a_p0 c_p0_size a_p0_behind a_p0_where a_p0_hours, aI E a_p0_behind 6 r_p0_behind, aI E a_p0_hours 6 r_p0_hours, aI E a_p0_where 6 r_p0_where]) 5 1 C ac_X7_25 rfl rfl (by decide) (by decide) rfl (by decide) (Nat.le_of_ble_eq_true (by decide +kernel)) dX7_copyFrom_20 ?_
  refine g_aload_n (pc := 23) C dX7_copyFrom_23 1 rfl ?_
  refine g_get (pc := 24) 4 C fl_X7_19 rfl rfl dX7_copyFrom_24 ?_
  refine g_iconst (pc := 27) (v := 0) C dX7_copyFrom_27 (by decide) ?_
  refine g_aload_n (pc := 28) C dX7_copyFrom_28 0 rfl ?_
  refine g_get (pc := 29) 0 C fl_X7_19 rfl rfl dX7_copyFrom_29 ?_
  refine g_iconst (pc := 32) (v := 0) C dX7_copyFrom_32 (by decide) ?_
  refine g_bipush (pc := 33) (v := 6) C dX7_copyFrom_33 (by decide) ?_
  refine g_copy (pc := 35) (ws' := [oX7 a_t c_p0_size a_t_behind a_t_where a_t_hours, aI E a_t_behind 6 r_p0_behind, aI E a_t_hours 6 r_t_hours, aI E a_t_where 6 r_p0_where, oX7 a_p0 c_p0_size a_p0_behind a_p0_where a_p0_hours, aI E a_p0_behind 6 r_p0_behind, aI E a_p0_hours 6 r_p0_hours, aI E a_p0_where 6 r_p0_where]) 7 3 C ac_X7_25 rfl rfl (by decide) (by decide) rfl (by decide) (Nat.le_of_ble_eq_true (by decide +kernel)) dX7_copyFrom_35 ?_
  refine g_aload_n (pc := 38) C dX7_copyFrom_38 1 rfl ?_
  refine g_get (pc := 39) 4 C fl_X7_22 rfl rfl dX7_copyFrom_39 ?_
  refine g_iconst (pc := 42) (v := 0) C dX7_copyFrom_42 (by decide) ?_
  refine g_aload_n (pc := 43) C dX7_copyFrom_43 0 rfl ?_
  refine g_get (pc := 44) 0 C fl_X7_22 rfl rfl dX7_copyFrom_44 ?_
  refine g_iconst (pc := 47) (v := 0) C dX7_copyFrom_47 (by decide) ?_
  refine g_bipush (pc := 48) (v := 6) C dX7_copyFrom_48 (by decide) ?_
  refine g_copy (pc := 50) (ws' := [oX7 a_t c_p0_size a_t_behind a_t_where a_t_hours, aI E a_t_behind 6 r_p0_behind, aI E a_t_hours 6 r_p0_hours, aI E a_t_where 6 r_p0_where, oX7 a_p0 c_p0_size a_p0_behind a_p0_where a_p0_hours, aI E a_p0_behind 6 r_p0_behind, aI E a_p0_hours 6 r_p0_hours, aI E a_p0_where 6 r_p0_where]) 6 2 C ac_X7_25 rfl rfl (by decide) (by decide) rfl (by decide) (Nat.le_of_ble_eq_true (by decide +kernel)) dX7_copyFrom_50 ?_
  obtain rfl := Option.some.inj h
  exact g_vret (pc := 53) C K dX7_copyFrom_53
theorem dX8_put_0 : decode cX8_put 0 = .ok (.aload_n 0, 1) := by decide +kernel
theorem dX8_put_1 : decode cX8_put 1 = .ok (.getfield 15, 3) := by decide +kernel
theorem dX8_put_4 : decode cX8_put 4 = .ok (.sipush 160, 3) := by decide +kernel
theorem dX8_put_7 : decode cX8_put 7 = .ok (.if_icmp .lt 5, 3) := by decide +kernel
theorem dX8_put_10 : decode cX8_put 10 = .ok (.iconst 0, 1) := by decide +kernel
theorem dX8_put_11 : decode cX8_put 11 = .ok (.ireturn, 1) := by decide +kernel
theorem dX8_put_12 : decode cX8_put 12 = .ok (.aload_n 0, 1) := by decide +kernel
theorem dX8_put_13 : decode cX8_put 13 = .ok (.getfield 9, 3) := by decide +kernel
theorem dX8_put_16 : decode cX8_put 16 = .ok (.aload_n 0, 1) := by decide +kernel
theorem dX8_put_17 : decode cX8_put 17 = .ok (.getfield 15, 3) := by decide +kernel
theorem dX8_put_20 : decode cX8_put 20 = .ok (.iload_n 1, 1) := by decide +kernel
theorem dX8_put_21 : decode cX8_put 21 = .ok (.iastore, 1) := by decide +kernel
theorem dX8_put_22 : decode cX8_put 22 = .ok (.aload_n 0, 1) := by decide +kernel
theorem dX8_put_23 : decode cX8_put 23 = .ok (.dup, 1) := by decide +kernel
theorem dX8_put_24 : decode cX8_put 24 = .ok (.getfield 15, 3) := by decide +kernel
theorem dX8_put_27 : decode cX8_put 27 = .ok (.iconst 1, 1) := by decide +kernel
theorem dX8_put_28 : decode cX8_put 28 = .ok (.iadd, 1) := by decide +kernel
theorem dX8_put_29 : decode cX8_put 29 = .ok (.putfield 15, 3) := by decide +kernel
theorem dX8_put_32 : decode cX8_put 32 = .ok (.iconst 1, 1) := by decide +kernel
theorem dX8_put_33 : decode cX8_put 33 = .ok (.ireturn, 1) := by decide +kernel
def f_X8_put (c_t_length : Int32) (r_t_bytes : (Nat → Int32)) (x1 : Int32) : Option (Int32 × Int32 × (Nat → Int32)) :=
  if c_t_length < 160 then
    (if inb c_t_length 160 then
      (some ((1, c_t_length + 1, upd r_t_bytes (ix c_t_length) x1)))
    else none)
  else
    (some ((0, c_t_length, r_t_bytes)))
abbrev rm_X8_put : Room := { frames := 0, cells := 0, slots := 0, locals := 0 }
set_option maxHeartbeats 4000000 in
set_option maxRecDepth 100000 in
theorem k_X8_put (E : Ev) (a_t a_t_bytes : Nat) (c_t_length : Int32) (r_t_bytes : (Nat → Int32)) (x1 : Int32) (v : Int32 × Int32 × (Nat → Int32)) (h : f_X8_put c_t_length r_t_bytes x1 = some v) : Mt E yX8_put cX8_put 2 (some .boolean) rm_X8_put [.ref a_t, .int x1] [oX8 a_t a_t_bytes c_t_length, aI E a_t_bytes 160 r_t_bytes] [oX8 a_t a_t_bytes v.2.1, aI E a_t_bytes 160 v.2.2] (some (.int v.1)) := by
  refine Mt.intro (lv := [(0, .ref a_t), (1, .int x1)]) (by decide +kernel) (Nat.le_of_ble_eq_true rfl) rfl (fun X C K => ?_)
  have C : CX E X cX8_put RX8 2 rm_X8_put := C
  rw [f_X8_put] at h
  refine g_aload_n (pc := 0) C dX8_put_0 0 rfl ?_
  refine g_get (pc := 1) 0 C fl_X8_15 rfl rfl dX8_put_1 ?_
  refine g_sipush (pc := 4) (v := 160) C dX8_put_4 (by decide) ?_
  refine b_icmp_lt (pc := 7) 12 C dX8_put_7 (by decide) h (fun _ h => ?_) (fun _ h => ?_)
  · refine g_aload_n (pc := 12) C dX8_put_12 0 rfl ?_
    refine g_get (pc := 13) 0 C fl_X8_9 rfl rfl dX8_put_13 ?_
    refine g_aload_n (pc := 16) C dX8_put_16 0 rfl ?_
    refine g_get (pc := 17) 0 C fl_X8_15 rfl rfl dX8_put_17 ?_
    refine g_iload_n (pc := 20) C dX8_put_20 1 rfl ?_
    refine b_iast (pc := 21) (ws' := [oX8 a_t a_t_bytes c_t_length, aI E a_t_bytes 160 (upd r_t_bytes (ix c_t_length) x1)]) 1 C rfl rfl dX8_put_21 h (fun _ h => ?_)
    refine g_aload_n (pc := 22) C dX8_put_22 0 rfl ?_
    refine g_dup (pc := 23) C dX8_put_23 rfl ?_
    refine g_get (pc := 24) 0 C fl_X8_15 rfl rfl dX8_put_24 ?_
    refine g_iconst (pc := 27) (v := 1) C dX8_put_27 (by decide) ?_
    refine g_iadd (pc := 28) C dX8_put_28 ?_
    refine g_put (pc := 29) (ws' := [oX8 a_t a_t_bytes (c_t_length + 1), aI E a_t_bytes 160 (upd r_t_bytes (ix c_t_length) x1)]) 0 C fp_X8_15 rfl rfl rfl (Nat.le_of_ble_eq_true rfl) rfl dX8_put_29 ?_
    refine g_iconst (pc := 32) (v := 1) C dX8_put_32 (by decide) ?_
    obtain rfl := Option.some.inj h
    exact g_zret (pc := 33) C K rfl dX8_put_33
  · refine g_iconst (pc := 10) (v := 0) C dX8_put_10 (by decide) ?_
    obtain rfl := Option.some.inj h
    exact g_zret (pc := 11) C K rfl dX8_put_11
theorem dX8_isLetter_0 : decode cX8_isLetter 0 = .ok (.iload_n 1, 1) := by decide +kernel
theorem dX8_isLetter_1 : decode cX8_isLetter 1 = .ok (.aload_n 0, 1) := by decide +kernel
theorem dX8_isLetter_2 : decode cX8_isLetter 2 = .ok (.getfield 15, 3) := by decide +kernel
theorem dX8_isLetter_5 : decode cX8_isLetter 5 = .ok (.if_icmp .ge 29, 3) := by decide +kernel
theorem dX8_isLetter_8 : decode cX8_isLetter 8 = .ok (.aload_n 0, 1) := by decide +kernel
theorem dX8_isLetter_9 : decode cX8_isLetter 9 = .ok (.getfield 9, 3) := by decide +kernel
theorem dX8_isLetter_12 : decode cX8_isLetter 12 = .ok (.iload_n 1, 1) := by decide +kernel
theorem dX8_isLetter_13 : decode cX8_isLetter 13 = .ok (.iaload, 1) := by decide +kernel
theorem dX8_isLetter_14 : decode cX8_isLetter 14 = .ok (.bipush 97, 2) := by decide +kernel
theorem dX8_isLetter_16 : decode cX8_isLetter 16 = .ok (.if_icmp .lt 18, 3) := by decide +kernel
theorem dX8_isLetter_19 : decode cX8_isLetter 19 = .ok (.aload_n 0, 1) := by decide +kernel
theorem dX8_isLetter_20 : decode cX8_isLetter 20 = .ok (.getfield 9, 3) := by decide +kernel
theorem dX8_isLetter_23 : decode cX8_isLetter 23 = .ok (.iload_n 1, 1) := by decide +kernel
theorem dX8_isLetter_24 : decode cX8_isLetter 24 = .ok (.iaload, 1) := by decide +kernel
theorem dX8_isLetter_25 : decode cX8_isLetter 25 = .ok (.bipush 122, 2) := by decide +kernel
theorem dX8_isLetter_27 : decode cX8_isLetter 27 = .ok (.if_icmp .gt 7, 3) := by decide +kernel
theorem dX8_isLetter_30 : decode cX8_isLetter 30 = .ok (.iconst 1, 1) := by decide +kernel
theorem dX8_isLetter_31 : decode cX8_isLetter 31 = .ok (.goto 4, 3) := by decide +kernel
theorem dX8_isLetter_34 : decode cX8_isLetter 34 = .ok (.iconst 0, 1) := by decide +kernel
theorem dX8_isLetter_35 : decode cX8_isLetter 35 = .ok (.ireturn, 1) := by decide +kernel
def f_X8_isLetter (c_t_length : Int32) (r_t_bytes : (Nat → Int32)) (x1 : Int32) : Option (Int32) :=
  if c_t_length ≤ x1 then
    (some 0)
  else
    (if inb x1 160 then
      (if (r_t_bytes (ix x1)) < 97 then
        (some 0)
      else
        (if inb x1 160 then
          (if 122 < (r_t_bytes (ix x1)) then
            (some 0)
          else
            (some 1))
        else none))
    else none)
abbrev rm_X8_isLetter : Room := { frames := 0, cells := 0, slots := 0, locals := 0 }
set_option maxHeartbeats 4000000 in
set_option maxRecDepth 100000 in
theorem k_X8_isLetter (E : Ev) (a_t a_t_bytes : Nat) (c_t_length : Int32) (r_t_bytes : (Nat → Int32)) (x1 : Int32) (v : Int32) (h : f_X8_isLetter c_t_length r_t_bytes x1 = some v) : Mt E yX8_isLetter cX8_isLetter 2 (some .boolean) rm_X8_isLetter [.ref a_t, .int x1] [oX8 a_t a_t_bytes c_t_length, aI E a_t_bytes 160 r_t_bytes] [oX8 a_t a_t_bytes c_t_length, aI E a_t_bytes 160 r_t_bytes] (some (.int v)) := by
  refine Mt.intro (lv := [(0, .ref a_t), (1, .int x1)]) (by decide +kernel) (Nat.le_of_ble_eq_true rfl) rfl (fun X C K => ?_)
  have C : CX E X cX8_isLetter RX8 2 rm_X8_isLetter := C
  rw [f_X8_isLetter] at h
  refine g_iload_n (pc := 0) C dX8_isLetter_0 1 rfl ?_
  refine g_aload_n (pc := 1) C dX8_isLetter_1 0 rfl ?_
  refine g_get (pc := 2) 0 C fl_X8_15 rfl rfl dX8_isLetter_2 ?_
  refine b_icmp_ge (pc := 5) 34 C dX8_isLetter_5 (by decide) h (fun _ h => ?_) (fun _ h => ?_)
  · refine g_iconst (pc := 34) (v := 0) C dX8_isLetter_34 (by decide) ?_
    obtain rfl := Option.some.inj h
    exact g_zret (pc := 35) C K rfl dX8_isLetter_35
  · refine g_aload_n (pc := 8) C dX8_isLetter_8 0 rfl ?_
    refine g_get (pc := 9) 0 C fl_X8_9 rfl rfl dX8_isLetter_9 ?_
    refine g_iload_n (pc := 12) C dX8_isLetter_12 1 rfl ?_
    refine b_iald (pc := 13) 1 C rfl dX8_isLetter_13 h (fun _ h => ?_)
    refine g_bipush (pc := 14) (v := 97) C dX8_isLetter_14 (by decide) ?_
    refine b_icmp_lt (pc := 16) 34 C dX8_isLetter_16 (by decide) h (fun _ h => ?_) (fun _ h => ?_)
    · refine g_iconst (pc := 34) (v := 0) C dX8_isLetter_34 (by decide) ?_
      obtain rfl := Option.some.inj h
      exact g_zret (pc := 35) C K rfl dX8_isLetter_35
    · refine g_aload_n (pc := 19) C dX8_isLetter_19 0 rfl ?_
      refine g_get (pc := 20) 0 C fl_X8_9 rfl rfl dX8_isLetter_20 ?_
      refine g_iload_n (pc := 23) C dX8_isLetter_23 1 rfl ?_
      refine b_iald (pc := 24) 1 C rfl dX8_isLetter_24 h (fun _ h => ?_)
      refine g_bipush (pc := 25) (v := 122) C dX8_isLetter_25 (by decide) ?_
      refine b_icmp_gt (pc := 27) 34 C dX8_isLetter_27 (by decide) h (fun _ h => ?_) (fun _ h => ?_)
      · refine g_iconst (pc := 34) (v := 0) C dX8_isLetter_34 (by decide) ?_
        obtain rfl := Option.some.inj h
        exact g_zret (pc := 35) C K rfl dX8_isLetter_35
      · refine g_iconst (pc := 30) (v := 1) C dX8_isLetter_30 (by decide) ?_
        refine g_goto (pc := 31) 35 C dX8_isLetter_31 (by decide) ?_
        obtain rfl := Option.some.inj h
        exact g_zret (pc := 35) C K rfl dX8_isLetter_35
theorem dX8_isFigure_0 : decode cX8_isFigure 0 = .ok (.iload_n 1, 1) := by decide +kernel
theorem dX8_isFigure_1 : decode cX8_isFigure 1 = .ok (.aload_n 0, 1) := by decide +kernel
theorem dX8_isFigure_2 : decode cX8_isFigure 2 = .ok (.getfield 15, 3) := by decide +kernel
theorem dX8_isFigure_5 : decode cX8_isFigure 5 = .ok (.if_icmp .ge 29, 3) := by decide +kernel
theorem dX8_isFigure_8 : decode cX8_isFigure 8 = .ok (.aload_n 0, 1) := by decide +kernel
theorem dX8_isFigure_9 : decode cX8_isFigure 9 = .ok (.getfield 9, 3) := by decide +kernel
theorem dX8_isFigure_12 : decode cX8_isFigure 12 = .ok (.iload_n 1, 1) := by decide +kernel
theorem dX8_isFigure_13 : decode cX8_isFigure 13 = .ok (.iaload, 1) := by decide +kernel
theorem dX8_isFigure_14 : decode cX8_isFigure 14 = .ok (.bipush 48, 2) := by decide +kernel
theorem dX8_isFigure_16 : decode cX8_isFigure 16 = .ok (.if_icmp .lt 18, 3) := by decide +kernel
theorem dX8_isFigure_19 : decode cX8_isFigure 19 = .ok (.aload_n 0, 1) := by decide +kernel
theorem dX8_isFigure_20 : decode cX8_isFigure 20 = .ok (.getfield 9, 3) := by decide +kernel
theorem dX8_isFigure_23 : decode cX8_isFigure 23 = .ok (.iload_n 1, 1) := by decide +kernel
theorem dX8_isFigure_24 : decode cX8_isFigure 24 = .ok (.iaload, 1) := by decide +kernel
theorem dX8_isFigure_25 : decode cX8_isFigure 25 = .ok (.bipush 57, 2) := by decide +kernel
theorem dX8_isFigure_27 : decode cX8_isFigure 27 = .ok (.if_icmp .gt 7, 3) := by decide +kernel
theorem dX8_isFigure_30 : decode cX8_isFigure 30 = .ok (.iconst 1, 1) := by decide +kernel
theorem dX8_isFigure_31 : decode cX8_isFigure 31 = .ok (.goto 4, 3) := by decide +kernel
theorem dX8_isFigure_34 : decode cX8_isFigure 34 = .ok (.iconst 0, 1) := by decide +kernel
theorem dX8_isFigure_35 : decode cX8_isFigure 35 = .ok (.ireturn, 1) := by decide +kernel
def f_X8_isFigure (c_t_length : Int32) (r_t_bytes : (Nat → Int32)) (x1 : Int32) : Option (Int32) :=
  if c_t_length ≤ x1 then
    (some 0)
  else
    (if inb x1 160 then
      (if (r_t_bytes (ix x1)) < 48 then
        (some 0)
      else
        (if inb x1 160 then
          (if 57 < (r_t_bytes (ix x1)) then
            (some 0)
          else
            (some 1))
        else none))
    else none)
abbrev rm_X8_isFigure : Room := { frames := 0, cells := 0, slots := 0, locals := 0 }
set_option maxHeartbeats 4000000 in
set_option maxRecDepth 100000 in
theorem k_X8_isFigure (E : Ev) (a_t a_t_bytes : Nat) (c_t_length : Int32) (r_t_bytes : (Nat → Int32)) (x1 : Int32) (v : Int32) (h : f_X8_isFigure c_t_length r_t_bytes x1 = some v) : Mt E yX8_isFigure cX8_isFigure 2 (some .boolean) rm_X8_isFigure [.ref a_t, .int x1] [oX8 a_t a_t_bytes c_t_length, aI E a_t_bytes 160 r_t_bytes] [oX8 a_t a_t_bytes c_t_length, aI E a_t_bytes 160 r_t_bytes] (some (.int v)) := by
  refine Mt.intro (lv := [(0, .ref a_t), (1, .int x1)]) (by decide +kernel) (Nat.le_of_ble_eq_true rfl) rfl (fun X C K => ?_)
  have C : CX E X cX8_isFigure RX8 2 rm_X8_isFigure := C
  rw [f_X8_isFigure] at h
  refine g_iload_n (pc := 0) C dX8_isFigure_0 1 rfl ?_
  refine g_aload_n (pc := 1) C dX8_isFigure_1 0 rfl ?_
  refine g_get (pc := 2) 0 C fl_X8_15 rfl rfl dX8_isFigure_2 ?_
  refine b_icmp_ge (pc := 5) 34 C dX8_isFigure_5 (by decide) h (fun _ h => ?_) (fun _ h => ?_)
  · refine g_iconst (pc := 34) (v := 0) C dX8_isFigure_34 (by decide) ?_
    obtain rfl := Option.some.inj h
    exact g_zret (pc := 35) C K rfl dX8_isFigure_35
  · refine g_aload_n (pc := 8) C dX8_isFigure_8 0 rfl ?_
    refine g_get (pc := 9) 0 C fl_X8_9 rfl rfl dX8_isFigure_9 ?_
    refine g_iload_n (pc := 12) C dX8_isFigure_12 1 rfl ?_
    refine b_iald (pc := 13) 1 C rfl dX8_isFigure_13 h (fun _ h => ?_)
    refine g_bipush (pc := 14) (v := 48) C dX8_isFigure_14 (by decide) ?_
    refine b_icmp_lt (pc := 16) 34 C dX8_isFigure_16 (by decide) h (fun _ h => ?_) (fun _ h => ?_)
    · refine g_iconst (pc := 34) (v := 0) C dX8_isFigure_34 (by decide) ?_
      obtain rfl := Option.some.inj h
      exact g_zret (pc := 35) C K rfl dX8_isFigure_35
    · refine g_aload_n (pc := 19) C dX8_isFigure_19 0 rfl ?_
      refine g_get (pc := 20) 0 C fl_X8_9 rfl rfl dX8_isFigure_20 ?_
      refine g_iload_n (pc := 23) C dX8_isFigure_23 1 rfl ?_
      refine b_iald (pc := 24) 1 C rfl dX8_isFigure_24 h (fun _ h => ?_)
      refine g_bipush (pc := 25) (v := 57) C dX8_isFigure_25 (by decide) ?_
      refine b_icmp_gt (pc := 27) 34 C dX8_isFigure_27 (by decide) h (fun _ h => ?_) (fun _ h => ?_)
      · refine g_iconst (pc := 34) (v := 0) C dX8_isFigure_34 (by decide) ?_
        obtain rfl := Option.some.inj h
        exact g_zret (pc := 35) C K rfl dX8_isFigure_35
      · refine g_iconst (pc := 30) (v := 1) C dX8_isFigure_30 (by decide) ?_
        refine g_goto (pc := 31) 35 C dX8_isFigure_31 (by decide) ?_
        obtain rfl := Option.some.inj h
        exact g_zret (pc := 35) C K rfl dX8_isFigure_35
