set_option maxHeartbeats 4000000 in
set_option maxRecDepth 100000 in
theorem lc_most {E : Ev} {X : Cx} {ad : Nat → Nat} {b L n z : Nat} {xs : Nat → Int32} (C : CX E X code R_law 4 room_1) (S : scr X b L xs) (hnz : n ≤ room_1.cells ∧ z ≤ room_1.slots) (s : SX) (t : TM) (hI : Inv s t) (i : Nat) (hi : i + 5 ≤ L) (hL : L ≤ 2560) (kk : ∀ s' t', Inv s' t' → G E X n z (wL E ad s' t') [(0, .ref b), (1, .ref (ad 0)), (2, .ref (ad 70)), (3, .int (nI i))] 1385 []) : G E X n z (wL E ad s t) [(0, .ref b), (1, .ref (ad 0)), (2, .ref (ad 70)), (3, .int (nI i))] 769 [] := by
  obtain ⟨v, w, hv, hw, e, hI2⟩ := p_most s t (xs (ix (nI i + 1))) (xs (ix (nI i + 2))) hI
  refine g_aload_n (pc := 769) C dL_law_769 1 rfl ?_
  refine g_aload_n (pc := 770) C dL_law_770 0 rfl ?_
  refine g_iload_n (pc := 771) C dL_law_771 3 rfl ?_
  refine g_iconst (pc := 772) (v := 1) C dL_law_772 (by decide) ?_
  refine g_iadd (pc := 773) C dL_law_773 ?_
  refine g_xld (pc := 774) C S (law_in (k := 1) hi hL (by decide)) dL_law_774 ?_
  refine g_aload_n (pc := 775) C dL_law_775 0 rfl ?_
  refine g_iload_n (pc := 776) C dL_law_776 3 rfl ?_
  refine g_iconst (pc := 777) (v := 2) C dL_law_777 (by decide) ?_
  refine g_iadd (pc := 778) C dL_law_778 ?_
  refine g_xld (pc := 779) C S (law_in (k := 2) hi hL (by decide)) dL_law_779 ?_
  refine g_callV (pc := 780) (ws' := (wL E ad (s.torn, s.tape, s.rdr, s.drf, s.now, s.seen, (v.2.1, v.2.2.1, v.2.2.2.1), (v.2.2.2.2.1, v.2.2.2.2.2.1, v.2.2.2.2.2.2.1, v.2.2.2.2.2.2.2.2.2.2.2.1, v.2.2.2.2.2.2.2.2.2.1, v.2.2.2.2.2.2.2.2.1, v.2.2.2.2.2.2.2.1, v.2.2.2.2.2.2.2.2.2.2.1), (s.evg.1, s.evg.2.1, v.2.2.2.2.2.2.2.2.2.2.2.2.1, v.2.2.2.2.2.2.2.2.2.2.2.2.2), s.adv, s.gss, s.im0, s.im1, s.sh0, s.sh1, s.sh2, s.sh3) t)) (st1 := [.int v.1]) (st := []) C mv_L_94 (k_X11_most E (ad 0) (ad 30) (ad 10) (ad 14) (ad 13) (ad 12) (ad 15) (ad 11) (ad 20) (ad 21) (ad 25) (ad 24) (ad 23) (ad 26) (ad 22) (ad 27) (ad 28) (ad 29) (ad 1) (ad 3) (ad 16) (ad 31) (ad 32) (ad 38) (ad 39) s.torn s.adv.1 s.adv.2 s.now.1 s.now.2.1 s.now.2.2.1 s.now.2.2.2.2.2.2.1 s.now.2.2.2.2.2.1 s.now.2.2.2.2.1 s.now.2.2.2.2.2.2.2 s.now.2.2.2.1 s.tri.1 s.tri.2.1 s.tri.2.2 s.tcy.1 s.tcy.2.1 s.tcy.2.2.1 s.tcy.2.2.2.2.2.2.1 s.tcy.2.2.2.2.2.1 s.tcy.2.2.2.2.1 s.tcy.2.2.2.2.2.2.2 s.tcy.2.2.2.1 s.evg.1 s.evg.2.1 s.evg.2.2.1 s.evg.2.2.2 (xs (ix (nI i + 1))) (xs (ix (nI i + 2))) v hv) [0, 30, 10, 14, 13, 12, 15, 11, 20, 21, 25, 24, 23, 26, 22, 27, 28, 29] rfl (by decide +kernel) rfl [some 0, none, none, none, none, none, none, none, none, none, some 2, some 7, some 5, some 4, some 3, some 6, none, none, none, none, some 8, some 9, some 14, some 12, some 11, some 10, some 13, some 15, some 16, some 17, some 1, none, none, none, none, none, none, none, none, none, none, none, none, none, none, none, none, none, none, none, none, none, none, none, none, none, none, none, none, none, none, none, none, none, none, none, none, none, none, none, none, none, none, none, none, none, none, none, none, none, none, none, none, none] 84 (by decide +kernel) rfl rfl 0 rfl rfl ⟨by decide, by decide⟩ ⟨rfl, rfl⟩ hnz rfl rfl rfl (Nat.le_of_ble_eq_true rfl) dL_law_780 ?_
  refine g_aload_n (pc := 783) C dL_law_783 2 rfl ?_
  refine g_aload_n (pc := 784) C dL_law_784 0 rfl ?_
  refine g_iload_n (pc := 785) C dL_law_785 3 rfl ?_
  refine g_iconst (pc := 786) (v := 1) C dL_law_786 (by decide) ?_
  refine g_iadd (pc := 787) C dL_law_787 ?_
  refine g_xld (pc := 788) C S (law_in (k := 1) hi hL (by decide)) dL_law_788 ?_
  refine g_aload_n (pc := 789) C dL_law_789 0 rfl ?_
  refine g_iload_n (pc := 790) C dL_law_790 3 rfl ?_
  refine g_iconst (pc := 791) (v := 2) C dL_law_791 (by decide) ?_
  refine g_iadd (pc := 792) C dL_law_792 ?_
  refine g_xld (pc := 793) C S (law_in (k := 2) hi hL (by decide)) dL_law_793 ?_
  refine g_callV (pc := 794) (ws' := (wL E ad (s.torn, s.tape, s.rdr, s.drf, s.now, s.seen, (v.2.1, v.2.2.1, v.2.2.2.1), (v.2.2.2.2.1, v.2.2.2.2.2.1, v.2.2.2.2.2.2.1, v.2.2.2.2.2.2.2.2.2.2.2.1, v.2.2.2.2.2.2.2.2.2.1, v.2.2.2.2.2.2.2.2.1, v.2.2.2.2.2.2.2.1, v.2.2.2.2.2.2.2.2.2.2.1), (s.evg.1, s.evg.2.1, v.2.2.2.2.2.2.2.2.2.2.2.2.1, v.2.2.2.2.2.2.2.2.2.2.2.2.2), s.adv, s.gss, s.im0, s.im1, s.sh0, s.sh1, s.sh2, s.sh3) ((t.st, w.2.2.2.2.2.2, t.isKept, t.houses, t.comers, t.draft, t.dHouses, t.dComers, t.highestHouse), t.m1, (w.2.1, w.2.2.2.2.1, w.2.2.2.2.2.1, w.2.2.1, w.2.2.2.1, t.beginSum, t.dinnerSum, t.allWays, t.hours), t.m3))) (st1 := [.int w.1, .int v.1]) (st := [.int v.1]) C mv_L_97 (k_X12_most E (ad 70) (ad 76) (ad 77) (ad 72) (ad 71) (ad 73) (ad 74) (ad 75) (ad 78) (ad 79) (ad 80) (ad 81) (ad 82) (ad 83) t.houses t.comers t.dHouses t.dComers t.highestHouse t.highestComer t.taped t.pos t.begun t.sort t.value t.fault t.wrongAt t.home t.dinners t.waited t.beginSum t.dinnerSum t.allWays t.torn t.began t.begunBy t.now t.st (xs (ix (nI i + 1))) (xs (ix (nI i + 2))) w hw) [70, 76, 77, 72, 71] rfl (by decide +kernel) rfl [none, none, none, none, none, none, none, none, none, none, none, none, none, none, none, none, none, none, none, none, none, none, none, none, none, none, none, none, none, none, none, none, none, none, none, none, none, none, none, none, none, none, none, none, none, none, none, none, none, none, none, none, none, none, none, none, none, none, none, none, none, none, none, none, none, none, none, none, none, none, some 0, some 4, some 3, none, none, none, some 1, some 2, none, none, none, none, none, none] 84 (by decide +kernel) rfl rfl 0 rfl rfl ⟨by decide, by decide⟩ ⟨rfl, rfl⟩ hnz rfl rfl rfl (Nat.le_of_ble_eq_true rfl) dL_law_794 ?_
  exact b_icmp_eq (pc := 797) (F1 := some ()) (F2 := (none : Option Unit)) (r := ()) 1385 C dL_law_797 (by decide) (if_pos e) (fun _ _ => kk _ _ hI2) (fun c _ => absurd e c)
set_option maxHeartbeats 4000000 in
set_option maxRecDepth 100000 in
theorem lc_kind {E : Ev} {X : Cx} {ad : Nat → Nat} {b L n z : Nat} {xs : Nat → Int32} (C : CX E X code R_law 4 room_1) (S : scr X b L xs) (hnz : n ≤ room_1.cells ∧ z ≤ room_1.slots) (s : SX) (t : TM) (hI : Inv s t) (i : Nat) (hi : i + 5 ≤ L) (hL : L ≤ 2560) (kk : ∀ s' t', Inv s' t' → G E X n z (wL E ad s' t') [(0, .ref b), (1, .ref (ad 0)), (2, .ref (ad 70)), (3, .int (nI i))] 1385 []) : G E X n z (wL E ad s t) [(0, .ref b), (1, .ref (ad 0)), (2, .ref (ad 70)), (3, .int (nI i))] 802 [] := by
  obtain ⟨v, w, hv, hw, e, hI2⟩ := p_kind s t (xs (ix (nI i + 1))) (xs (ix (nI i + 2))) (xs (ix (nI i + 3))) hI
  refine g_aload_n (pc := 802) C dL_law_802 1 rfl ?_
  refine g_aload_n (pc := 803) C dL_law_803 0 rfl ?_
  refine g_iload_n (pc := 804) C dL_law_804 3 rfl ?_
  refine g_iconst (pc := 805) (v := 1) C dL_law_805 (by decide) ?_
  refine g_iadd (pc := 806) C dL_law_806 ?_
  refine g_xld (pc := 807) C S (law_in (k := 1) hi hL (by decide)) dL_law_807 ?_
  refine g_aload_n (pc := 808) C dL_law_808 0 rfl ?_
  refine g_iload_n (pc := 809) C dL_law_809 3 rfl ?_
  refine g_iconst (pc := 810) (v := 2) C dL_law_810 (by decide) ?_
  refine g_iadd (pc := 811) C dL_law_811 ?_
  refine g_xld (pc := 812) C S (law_in (k := 2) hi hL (by decide)) dL_law_812 ?_
  refine g_aload_n (pc := 813) C dL_law_813 0 rfl ?_
  refine g_iload_n (pc := 814) C dL_law_814 3 rfl ?_
  refine g_iconst (pc := 815) (v := 3) C dL_law_815 (by decide) ?_
  refine g_iadd (pc := 816) C dL_law_816 ?_
  refine g_xld (pc := 817) C S (law_in (k := 3) hi hL (by decide)) dL_law_817 ?_
  refine g_callV (pc := 818) (ws' := (wL E ad (s.torn, s.tape, s.rdr, s.drf, s.now, s.seen, (v.2.2.2.1, v.2.2.2.2.1, v.2.2.2.2.2.1), (v.2.2.2.2.2.2.1, v.2.2.2.2.2.2.2.1, v.2.2.2.2.2.2.2.2.1, v.2.2.2.2.2.2.2.2.2.2.2.2.2.1, v.2.2.2.2.2.2.2.2.2.2.2.1, v.2.2.2.2.2.2.2.2.2.2.1, v.2.2.2.2.2.2.2.2.2.1, v.2.2.2.2.2.2.2.2.2.2.2.2.1), (v.2.2.2.2.2.2.2.2.2.2.2.2.2.2.1, v.2.2.2.2.2.2.2.2.2.2.2.2.2.2.2.1, v.2.2.2.2.2.2.2.2.2.2.2.2.2.2.2.2.1, v.2.2.2.2.2.2.2.2.2.2.2.2.2.2.2.2.2), (v.2.1, v.2.2.1), s.gss, s.im0, s.im1, s.sh0, s.sh1, s.sh2, s.sh3) t)) (st1 := [.int v.1]) (st := []) C mv_L_98 (k_X11_kind E (ad 0) (ad 30) (ad 10) (ad 14) (ad 13) (ad 12) (ad 15) (ad 11) (ad 20) (ad 21) (ad 25) (ad 24) (ad 23) (ad 26) (ad 22) (ad 27) (ad 28) (ad 29) (ad 1) (ad 3) (ad 16) (ad 31) (ad 32) (ad 38) (ad 39) s.torn s.adv.1 s.adv.2 s.now.1 s.now.2.1 s.now.2.2.1 s.now.2.2.2.2.2.2.1 s.now.2.2.2.2.2.1 s.now.2.2.2.2.1 s.now.2.2.2.2.2.2.2 s.now.2.2.2.1 s.tri.1 s.tri.2.1 s.tri.2.2 s.tcy.1 s.tcy.2.1 s.tcy.2.2.1 s.tcy.2.2.2.2.2.2.1 s.tcy.2.2.2.2.2.1 s.tcy.2.2.2.2.1 s.tcy.2.2.2.2.2.2.2 s.tcy.2.2.2.1 s.evg.1 s.evg.2.1 s.evg.2.2.1 s.evg.2.2.2 (xs (ix (nI i + 1))) (xs (ix (nI i + 2))) (xs (ix (nI i + 3))) v hv) [0, 30, 10, 14, 13, 12, 15, 11, 20, 21, 25, 24, 23, 26, 22, 27, 28, 29] rfl (by decide +kernel) rfl [some 0, none, none, none, none, none, none, none, none, none, some 2, some 7, some 5, some 4, some 3, some 6, none, none, none, none, some 8, some 9, some 14, some 12, some 11, some 10, some 13, some 15, some 16, some 17, some 1, none, none, none, none, none, none, none, none, none, none, none, none, none, none, none, none, none, none, none, none, none, none, none, none, none, none, none, none, none, none, none, none, none, none, none, none, none, none, none, none, none, none, none, none, none, none, none, none, none, none, none, none, none] 84 (by decide +kernel) rfl rfl 0 rfl rfl ⟨by decide, by decide⟩ ⟨rfl, rfl⟩ hnz rfl rfl rfl (Nat.le_of_ble_eq_true rfl) dL_law_818 ?_
  refine g_aload_n (pc := 821) C dL_law_821 2 rfl ?_
  refine g_aload_n (pc := 822) C dL_law_822 0 rfl ?_
  refine g_iload_n (pc := 823) C dL_law_823 3 rfl ?_
  refine g_iconst (pc := 824) (v := 1) C dL_law_824 (by decide) ?_
  refine g_iadd (pc := 825) C dL_law_825 ?_
  refine g_xld (pc := 826) C S (law_in (k := 1) hi hL (by decide)) dL_law_826 ?_
  refine g_aload_n (pc := 827) C dL_law_827 0 rfl ?_
  refine g_iload_n (pc := 828) C dL_law_828 3 rfl ?_
  refine g_iconst (pc := 829) (v := 2) C dL_law_829 (by decide) ?_
  refine g_iadd (pc := 830) C dL_law_830 ?_
  refine g_xld (pc := 831) C S (law_in (k := 2) hi hL (by decide)) dL_law_831 ?_
  refine g_aload_n (pc := 832) C dL_law_832 0 rfl ?_
  refine g_iload_n (pc := 833) C dL_law_833 3 rfl ?_
  refine g_iconst (pc := 834) (v := 3) C dL_law_834 (by decide) ?_
  refine g_iadd (pc := 835) C dL_law_835 ?_
  refine g_xld (pc := 836) C S (law_in (k := 3) hi hL (by decide)) dL_law_836 ?_
  refine g_callV (pc := 837) (ws' := (wL E ad (s.torn, s.tape, s.rdr, s.drf, s.now, s.seen, (v.2.2.2.1, v.2.2.2.2.1, v.2.2.2.2.2.1), (v.2.2.2.2.2.2.1, v.2.2.2.2.2.2.2.1, v.2.2.2.2.2.2.2.2.1, v.2.2.2.2.2.2.2.2.2.2.2.2.2.1, v.2.2.2.2.2.2.2.2.2.2.2.1, v.2.2.2.2.2.2.2.2.2.2.1, v.2.2.2.2.2.2.2.2.2.1, v.2.2.2.2.2.2.2.2.2.2.2.2.1), (v.2.2.2.2.2.2.2.2.2.2.2.2.2.2.1, v.2.2.2.2.2.2.2.2.2.2.2.2.2.2.2.1, v.2.2.2.2.2.2.2.2.2.2.2.2.2.2.2.2.1, v.2.2.2.2.2.2.2.2.2.2.2.2.2.2.2.2.2), (v.2.1, v.2.2.1), s.gss, s.im0, s.im1, s.sh0, s.sh1, s.sh2, s.sh3) ((t.st, w.2.2.2.2.2.2, t.isKept, t.houses, t.comers, t.draft, t.dHouses, t.dComers, t.highestHouse), t.m1, (w.2.1, w.2.2.2.2.1, w.2.2.2.2.2.1, w.2.2.1, w.2.2.2.1, t.beginSum, t.dinnerSum, t.allWays, t.hours), t.m3))) (st1 := [.int w.1, .int v.1]) (st := [.int v.1]) C mv_L_101 (k_X12_kind E (ad 70) (ad 76) (ad 77) (ad 72) (ad 71) (ad 73) (ad 74) (ad 75) (ad 78) (ad 79) (ad 80) (ad 81) (ad 82) (ad 83) t.houses t.comers t.dHouses t.dComers t.highestHouse t.highestComer t.taped t.pos t.begun t.sort t.value t.fault t.wrongAt t.home t.dinners t.waited t.beginSum t.dinnerSum t.allWays t.torn t.began t.begunBy t.now t.st (xs (ix (nI i + 1))) (xs (ix (nI i + 2))) (xs (ix (nI i + 3))) w hw) [70, 76, 77, 72, 71] rfl (by decide +kernel) rfl [none, none, none, none, none, none, none, none, none, none, none, none, none, none, none, none, none, none, none, none, none, none, none, none, none, none, none, none, none, none, none, none, none, none, none, none, none, none, none, none, none, none, none, none, none, none, none, none, none, none, none, none, none, none, none, none, none, none, none, none, none, none, none, none, none, none, none, none, none, none, some 0, some 4, some 3, none, none, none, some 1, some 2, none, none, none, none, none, none] 84 (by decide +kernel) rfl rfl 0 rfl rfl ⟨by decide, by decide⟩ ⟨rfl, rfl⟩ hnz rfl rfl rfl (Nat.le_of_ble_eq_true rfl) dL_law_837 ?_
  exact b_icmp_eq (pc := 840) (F1 := some ()) (F2 := (none : Option Unit)) (r := ()) 1385 C dL_law_840 (by decide) (if_pos e) (fun _ _ => kk _ _ hI2) (fun c _ => absurd e c)
set_option maxHeartbeats 4000000 in
set_option maxRecDepth 100000 in
theorem lc_pair {E : Ev} {X : Cx} {ad : Nat → Nat} {b L n z : Nat} {xs : Nat → Int32} (C : CX E X code R_law 4 room_1) (S : scr X b L xs) (hnz : n ≤ room_1.cells ∧ z ≤ room_1.slots) (s : SX) (t : TM) (hI : Inv s t) (i : Nat) (hi : i + 5 ≤ L) (hL : L ≤ 2560) (kk : ∀ s' t', Inv s' t' → G E X n z (wL E ad s' t') [(0, .ref b), (1, .ref (ad 0)), (2, .ref (ad 70)), (3, .int (nI i))] 1385 []) : G E X n z (wL E ad s t) [(0, .ref b), (1, .ref (ad 0)), (2, .ref (ad 70)), (3, .int (nI i))] 845 [] := by
  obtain ⟨v, w, hv, hw, e, hI2⟩ := p_pair s t (xs (ix (nI i + 1))) (xs (ix (nI i + 2))) (xs (ix (nI i + 3))) hI
  refine g_aload_n (pc := 845) C dL_law_845 1 rfl ?_
  refine g_aload_n (pc := 846) C dL_law_846 0 rfl ?_
  refine g_iload_n (pc := 847) C dL_law_847 3 rfl ?_
  refine g_iconst (pc := 848) (v := 1) C dL_law_848 (by decide) ?_
  refine g_iadd (pc := 849) C dL_law_849 ?_
  refine g_xld (pc := 850) C S (law_in (k := 1) hi hL (by decide)) dL_law_850 ?_
  refine g_aload_n (pc := 851) C dL_law_851 0 rfl ?_
  refine g_iload_n (pc := 852) C dL_law_852 3 rfl ?_
  refine g_iconst (pc := 853) (v := 2) C dL_law_853 (by decide) ?_
  refine g_iadd (pc := 854) C dL_law_854 ?_
  refine g_xld (pc := 855) C S (law_in (k := 2) hi hL (by decide)) dL_law_855 ?_
  refine g_aload_n (pc := 856) C dL_law_856 0 rfl ?_
  refine g_iload_n (pc := 857) C dL_law_857 3 rfl ?_
  refine g_iconst (pc := 858) (v := 3) C dL_law_858 (by decide) ?_
  refine g_iadd (pc := 859) C dL_law_859 ?_
  refine g_xld (pc := 860) C S (law_in (k := 3) hi hL (by decide)) dL_law_860 ?_
  refine g_callV (pc := 861) (ws' := (wL E ad (s.torn, s.tape, s.rdr, s.drf, s.now, s.seen, (v.2.2.2.1, v.2.2.2.2.1, v.2.2.2.2.2.1), (v.2.2.2.2.2.2.1, v.2.2.2.2.2.2.2.1, v.2.2.2.2.2.2.2.2.1, v.2.2.2.2.2.2.2.2.2.2.2.2.2.1, v.2.2.2.2.2.2.2.2.2.2.2.1, v.2.2.2.2.2.2.2.2.2.2.1, v.2.2.2.2.2.2.2.2.2.1, v.2.2.2.2.2.2.2.2.2.2.2.2.1), (v.2.2.2.2.2.2.2.2.2.2.2.2.2.2.1, v.2.2.2.2.2.2.2.2.2.2.2.2.2.2.2.1, v.2.2.2.2.2.2.2.2.2.2.2.2.2.2.2.2.1, v.2.2.2.2.2.2.2.2.2.2.2.2.2.2.2.2.2), (v.2.1, v.2.2.1), s.gss, s.im0, s.im1, s.sh0, s.sh1, s.sh2, s.sh3) t)) (st1 := [.int v.1]) (st := []) C mv_L_102 (k_X11_pair E (ad 0) (ad 30) (ad 10) (ad 14) (ad 13) (ad 12) (ad 15) (ad 11) (ad 20) (ad 21) (ad 25) (ad 24) (ad 23) (ad 26) (ad 22) (ad 27) (ad 28) (ad 29) (ad 1) (ad 3) (ad 16) (ad 31) (ad 32) (ad 38) (ad 39) s.torn s.adv.1 s.adv.2 s.now.1 s.now.2.1 s.now.2.2.1 s.now.2.2.2.2.2.2.1 s.now.2.2.2.2.2.1 s.now.2.2.2.2.1 s.now.2.2.2.2.2.2.2 s.now.2.2.2.1 s.tri.1 s.tri.2.1 s.tri.2.2 s.tcy.1 s.tcy.2.1 s.tcy.2.2.1 s.tcy.2.2.2.2.2.2.1 s.tcy.2.2.2.2.2.1 s.tcy.2.2.2.2.1 s.tcy.2.2.2.2.2.2.2 s.tcy.2.2.2.1 s.evg.1 s.evg.2.1 s.evg.2.2.1 s.evg.2.2.2 (xs (ix (nI i + 1))) (xs (ix (nI i + 2))) (xs (ix (nI i + 3))) v hv) [0, 30, 10, 14, 13, 12, 15, 11, 20, 21, 25, 24, 23, 26, 22, 27, 28, 29] rfl (by decide +kernel) rfl [some 0, none, none, none, none, none, none, none, none, none, some 2, some 7, some 5, some 4, some 3, some 6, none, none, none, none, some 8, some 9, some 14, some 12, some 11, some 10, some 13, some 15, some 16, some 17, some 1, none, none, none, none, none, none, none, none, none, none, none, none, none, none, none, none, none, none, none, none, none, none, none, none, none, none, none, none, none, none, none, none, none, none, none, none, none, none, none, none, none, none, none, none, none, none, none, none, none, none, none, none, none] 84 (by decide +kernel) rfl rfl 0 rfl rfl ⟨by decide, by decide⟩ ⟨rfl, rfl⟩ hnz rfl rfl rfl (Nat.le_of_ble_eq_true rfl) dL_law_861 ?_
  refine g_aload_n (pc := 864) C dL_law_864 2 rfl ?_
  refine g_aload_n (pc := 865) C dL_law_865 0 rfl ?_
  refine g_iload_n (pc := 866) C dL_law_866 3 rfl ?_
  refine g_iconst (pc := 867) (v := 1) C dL_law_867 (by decide) ?_
  refine g_iadd (pc := 868) C dL_law_868 ?_
  refine g_xld (pc := 869) C S (law_in (k := 1) hi hL (by decide)) dL_law_869 ?_
  refine g_aload_n (pc := 870) C dL_law_870 0 rfl ?_
  refine g_iload_n (pc := 871) C dL_law_871 3 rfl ?_
  refine g_iconst (pc := 872) (v := 2) C dL_law_872 (by decide) ?_
  refine g_iadd (pc := 873) C dL_law_873 ?_
  refine g_xld (pc := 874) C S (law_in (k := 2) hi hL (by decide)) dL_law_874 ?_
  refine g_aload_n (pc := 875) C dL_law_875 0 rfl ?_
  refine g_iload_n (pc := 876) C dL_law_876 3 rfl ?_
  refine g_iconst (pc := 877) (v := 3) C dL_law_877 (by decide) ?_
  refine g_iadd (pc := 878) C dL_law_878 ?_
  refine g_xld (pc := 879) C S (law_in (k := 3) hi hL (by decide)) dL_law_879 ?_
  refine g_callV (pc := 880) (ws' := (wL E ad (s.torn, s.tape, s.rdr, s.drf, s.now, s.seen, (v.2.2.2.1, v.2.2.2.2.1, v.2.2.2.2.2.1), (v.2.2.2.2.2.2.1, v.2.2.2.2.2.2.2.1, v.2.2.2.2.2.2.2.2.1, v.2.2.2.2.2.2.2.2.2.2.2.2.2.1, v.2.2.2.2.2.2.2.2.2.2.2.1, v.2.2.2.2.2.2.2.2.2.2.1, v.2.2.2.2.2.2.2.2.2.1, v.2.2.2.2.2.2.2.2.2.2.2.2.1), (v.2.2.2.2.2.2.2.2.2.2.2.2.2.2.1, v.2.2.2.2.2.2.2.2.2.2.2.2.2.2.2.1, v.2.2.2.2.2.2.2.2.2.2.2.2.2.2.2.2.1, v.2.2.2.2.2.2.2.2.2.2.2.2.2.2.2.2.2), (v.2.1, v.2.2.1), s.gss, s.im0, s.im1, s.sh0, s.sh1, s.sh2, s.sh3) ((t.st, w.2.2.2.2.2.2, t.isKept, t.houses, t.comers, t.draft, t.dHouses, t.dComers, t.highestHouse), t.m1, (w.2.1, w.2.2.2.2.1, w.2.2.2.2.2.1, w.2.2.1, w.2.2.2.1, t.beginSum, t.dinnerSum, t.allWays, t.hours), t.m3))) (st1 := [.int w.1, .int v.1]) (st := [.int v.1]) C mv_L_105 (k_X12_pair E (ad 70) (ad 76) (ad 77) (ad 72) (ad 71) (ad 73) (ad 74) (ad 75) (ad 78) (ad 79) (ad 80) (ad 81) (ad 82) (ad 83) t.houses t.comers t.dHouses t.dComers t.highestHouse t.highestComer t.taped t.pos t.begun t.sort t.value t.fault t.wrongAt t.home t.dinners t.waited t.beginSum t.dinnerSum t.allWays t.torn t.began t.begunBy t.now t.st (xs (ix (nI i + 1))) (xs (ix (nI i + 2))) (xs (ix (nI i + 3))) w hw) [70, 76, 77, 72, 71] rfl (by decide +kernel) rfl [none, none, none, none, none, none, none, none, none, none, none, none, none, none, none, none, none, none, none, none, none, none, none, none, none, none, none, none, none, none, none, none, none, none, none, none, none, none, none, none, none, none, none, none, none, none, none, none, none, none, none, none, none, none, none, none, none, none, none, none, none, none, none, none, none, none, none, none, none, none, some 0, some 4, some 3, none, none, none, some 1, some 2, none, none, none, none, none, none] 84 (by decide +kernel) rfl rfl 0 rfl rfl ⟨by decide, by decide⟩ ⟨rfl, rfl⟩ hnz rfl rfl rfl (Nat.le_of_ble_eq_true rfl) dL_law_880 ?_
  exact b_icmp_eq (pc := 883) (F1 := some ()) (F2 := (none : Option Unit)) (r := ()) 1385 C dL_law_883 (by decide) (if_pos e) (fun _ _ => kk _ _ hI2) (fun c _ => absurd e c)
set_option maxHeartbeats 4000000 in
set_option maxRecDepth 100000 in
theorem lc_luck {E : Ev} {X : Cx} {ad : Nat → Nat} {b L n z : Nat} {xs : Nat → Int32} (C : CX E X code R_law 4 room_1) (S : scr X b L xs) (hnz : n ≤ room_1.cells ∧ z ≤ room_1.slots) (s : SX) (t : TM) (hI : Inv s t) (i : Nat) (hi : i + 5 ≤ L) (hL : L ≤ 2560) (kk : ∀ s' t', Inv s' t' → G E X n z (wL E ad s' t') [(0, .ref b), (1, .ref (ad 0)), (2, .ref (ad 70)), (3, .int (nI i))] 1385 []) : G E X n z (wL E ad s t) [(0, .ref b), (1, .ref (ad 0)), (2, .ref (ad 70)), (3, .int (nI i))] 888 [] := by
  obtain ⟨v, w, hv, hw, e, hI2⟩ := p_luck s t (xs (ix (nI i + 1))) (xs (ix (nI i + 2))) (xs (ix (nI i + 3))) hI
  refine g_aload_n (pc := 888) C dL_law_888 1 rfl ?_
  refine g_aload_n (pc := 889) C dL_law_889 0 rfl ?_
  refine g_iload_n (pc := 890) C dL_law_890 3 rfl ?_
  refine g_iconst (pc := 891) (v := 1) C dL_law_891 (by decide) ?_
  refine g_iadd (pc := 892) C dL_law_892 ?_
  refine g_xld (pc := 893) C S (law_in (k := 1) hi hL (by decide)) dL_law_893 ?_
  refine g_aload_n (pc := 894) C dL_law_894 0 rfl ?_
  refine g_iload_n (pc := 895) C dL_law_895 3 rfl ?_
  refine g_iconst (pc := 896) (v := 2) C dL_law_896 (by decide) ?_
  refine g_iadd (pc := 897) C dL_law_897 ?_
  refine g_xld (pc := 898) C S (law_in (k := 2) hi hL (by decide)) dL_law_898 ?_
  refine g_aload_n (pc := 899) C dL_law_899 0 rfl ?_
  refine g_iload_n (pc := 900) C dL_law_900 3 rfl ?_
  refine g_iconst (pc := 901) (v := 3) C dL_law_901 (by decide) ?_
  refine g_iadd (pc := 902) C dL_law_902 ?_
  refine g_xld (pc := 903) C S (law_in (k := 3) hi hL (by decide)) dL_law_903 ?_
  refine g_callV (pc := 904) (ws' := (wL E ad (s.torn, s.tape, s.rdr, s.drf, s.now, s.seen, (v.2.1, v.2.2.1, v.2.2.2.1), (v.2.2.2.2.1, v.2.2.2.2.2.1, v.2.2.2.2.2.2.1, v.2.2.2.2.2.2.2.2.2.2.2.1, v.2.2.2.2.2.2.2.2.2.1, v.2.2.2.2.2.2.2.2.1, v.2.2.2.2.2.2.2.1, v.2.2.2.2.2.2.2.2.2.2.1), (s.evg.1, s.evg.2.1, v.2.2.2.2.2.2.2.2.2.2.2.2.1, v.2.2.2.2.2.2.2.2.2.2.2.2.2), s.adv, s.gss, s.im0, s.im1, s.sh0, s.sh1, s.sh2, s.sh3) t)) (st1 := [.long v.1]) (st := []) C mv_L_106 (k_X11_luck E (ad 0) (ad 10) (ad 14) (ad 13) (ad 12) (ad 15) (ad 11) (ad 31) (ad 20) (ad 21) (ad 25) (ad 24) (ad 23) (ad 26) (ad 22) (ad 27) (ad 28) (ad 29) (ad 1) (ad 3) (ad 16) (ad 30) (ad 32) (ad 38) (ad 39) s.torn s.now.1 s.now.2.1 s.now.2.2.1 s.now.2.2.2.2.2.2.1 s.now.2.2.2.2.2.1 s.now.2.2.2.2.1 s.now.2.2.2.2.2.2.2 s.now.2.2.2.1 s.tri.1 s.tri.2.1 s.tri.2.2 s.tcy.1 s.tcy.2.1 s.tcy.2.2.1 s.tcy.2.2.2.2.2.2.1 s.tcy.2.2.2.2.2.1 s.tcy.2.2.2.2.1 s.tcy.2.2.2.2.2.2.2 s.tcy.2.2.2.1 s.evg.1 s.evg.2.1 s.evg.2.2.1 s.evg.2.2.2 (xs (ix (nI i + 1))) (xs (ix (nI i + 2))) (xs (ix (nI i + 3))) v hv) [0, 10, 14, 13, 12, 15, 11, 31, 20, 21, 25, 24, 23, 26, 22, 27, 28, 29] rfl (by decide +kernel) rfl [some 0, none, none, none, none, none, none, none, none, none, some 1, some 6, some 4, some 3, some 2, some 5, none, none, none, none, some 8, some 9, some 14, some 12, some 11, some 10, some 13, some 15, some 16, some 17, none, some 7, none, none, none, none, none, none, none, none, none, none, none, none, none, none, none, none, none, none, none, none, none, none, none, none, none, none, none, none, none, none, none, none, none, none, none, none, none, none, none, none, none, none, none, none, none, none, none, none, none, none, none, none] 84 (by decide +kernel) rfl rfl 0 rfl rfl ⟨by decide, by decide⟩ ⟨rfl, rfl⟩ hnz rfl rfl rfl (Nat.le_of_ble_eq_true rfl) dL_law_904 ?_
  refine g_aload_n (pc := 907) C dL_law_907 2 rfl ?_
  refine g_aload_n (pc := 908) C dL_law_908 0 rfl ?_
  refine g_iload_n (pc := 909) C dL_law_909 3 rfl ?_
  refine g_iconst (pc := 910) (v := 1) C dL_law_910 (by decide) ?_
  refine g_iadd (pc := 911) C dL_law_911 ?_
  refine g_xld (pc := 912) C S (law_in (k := 1) hi hL (by decide)) dL_law_912 ?_
  refine g_aload_n (pc := 913) C dL_law_913 0 rfl ?_
  refine g_iload_n (pc := 914) C dL_law_914 3 rfl ?_
  refine g_iconst (pc := 915) (v := 2) C dL_law_915 (by decide) ?_
  refine g_iadd (pc := 916) C dL_law_916 ?_
  refine g_xld (pc := 917) C S (law_in (k := 2) hi hL (by decide)) dL_law_917 ?_
  refine g_aload_n (pc := 918) C dL_law_918 0 rfl ?_
  refine g_iload_n (pc := 919) C dL_law_919 3 rfl ?_
  refine g_iconst (pc := 920) (v := 3) C dL_law_920 (by decide) ?_
  refine g_iadd (pc := 921) C dL_law_921 ?_
  refine g_xld (pc := 922) C S (law_in (k := 3) hi hL (by decide)) dL_law_922 ?_
  refine g_callV (pc := 923) (ws' := (wL E ad (s.torn, s.tape, s.rdr, s.drf, s.now, s.seen, (v.2.1, v.2.2.1, v.2.2.2.1), (v.2.2.2.2.1, v.2.2.2.2.2.1, v.2.2.2.2.2.2.1, v.2.2.2.2.2.2.2.2.2.2.2.1, v.2.2.2.2.2.2.2.2.2.1, v.2.2.2.2.2.2.2.2.1, v.2.2.2.2.2.2.2.1, v.2.2.2.2.2.2.2.2.2.2.1), (s.evg.1, s.evg.2.1, v.2.2.2.2.2.2.2.2.2.2.2.2.1, v.2.2.2.2.2.2.2.2.2.2.2.2.2), s.adv, s.gss, s.im0, s.im1, s.sh0, s.sh1, s.sh2, s.sh3) ((t.st, w.2.2.2.2.2.2.2.2.2, t.isKept, t.houses, t.comers, t.draft, t.dHouses, t.dComers, t.highestHouse), t.m1, (w.2.1, w.2.2.2.2.2.2.2.1, w.2.2.2.2.2.2.2.2.1, w.2.2.1, w.2.2.2.1, w.2.2.2.2.1, w.2.2.2.2.2.1, w.2.2.2.2.2.2.1, t.hours), t.m3))) (st1 := [.long w.1, .long v.1]) (st := [.long v.1]) C mv_L_110 (k_X12_luck E (ad 70) (ad 76) (ad 77) (ad 72) (ad 71) (ad 73) (ad 74) (ad 75) (ad 78) (ad 79) (ad 80) (ad 81) (ad 82) (ad 83) t.houses t.comers t.dHouses t.dComers t.highestHouse t.highestComer t.taped t.pos t.begun t.sort t.value t.fault t.wrongAt t.home t.dinners t.waited t.beginSum t.dinnerSum t.allWays t.torn t.began t.begunBy t.now t.st (xs (ix (nI i + 1))) (xs (ix (nI i + 2))) (xs (ix (nI i + 3))) w hw) [70, 76, 77, 72, 71] rfl (by decide +kernel) rfl [none, none, none, none, none, none, none, none, none, none, none, none, none, none, none, none, none, none, none, none, none, none, none, none, none, none, none, none, none, none, none, none, none, none, none, none, none, none, none, none, none, none, none, none, none, none, none, none, none, none, none, none, none, none, none, none, none, none, none, none, none, none, none, none, none, none, none, none, none, none, some 0, some 4, some 3, none, none, none, some 1, some 2, none, none, none, none, none, none] 84 (by decide +kernel) rfl rfl 0 rfl rfl ⟨by decide, by decide⟩ ⟨rfl, rfl⟩ hnz rfl rfl rfl (Nat.le_of_ble_eq_true rfl) dL_law_923 ?_
  refine g_lcmp (pc := 926) C dL_law_926 ?_
  have e0 : lg_cmp v.1 w.1 = 0 := by rw [e]; exact lg_cmp_self _
  exact b_if_eq (pc := 927) (F1 := some ()) (F2 := (none : Option Unit)) (r := ()) 1385 C dL_law_927 (by decide) (if_pos e0) (fun _ _ => kk _ _ hI2) (fun c _ => absurd e0 c)
set_option maxHeartbeats 4000000 in
set_option maxRecDepth 100000 in
theorem lc_mean {E : Ev} {X : Cx} {ad : Nat → Nat} {b L n z : Nat} {xs : Nat → Int32} (C : CX E X code R_law 4 room_1) (S : scr X b L xs) (hnz : n ≤ room_1.cells ∧ z ≤ room_1.slots) (s : SX) (t : TM) (hI : Inv s t) (i : Nat) (hi : i + 5 ≤ L) (hL : L ≤ 2560) (kk : ∀ s' t', Inv s' t' → G E X n z (wL E ad s' t') [(0, .ref b), (1, .ref (ad 0)), (2, .ref (ad 70)), (3, .int (nI i))] 1385 []) : G E X n z (wL E ad s t) [(0, .ref b), (1, .ref (ad 0)), (2, .ref (ad 70)), (3, .int (nI i))] 932 [] := by
  obtain ⟨v, w, hv, hw, e, hI2⟩ := p_mean s t (xs (ix (nI i + 1))) (xs (ix (nI i + 2))) hI
  refine g_aload_n (pc := 932) C dL_law_932 1 rfl ?_
  refine g_aload_n (pc := 933) C dL_law_933 0 rfl ?_
  refine g_iload_n (pc := 934) C dL_law_934 3 rfl ?_
  refine g_iconst (pc := 935) (v := 1) C dL_law_935 (by decide) ?_
  refine g_iadd (pc := 936) C dL_law_936 ?_
  refine g_xld (pc := 937) C S (law_in (k := 1) hi hL (by decide)) dL_law_937 ?_
  refine g_aload_n (pc := 938) C dL_law_938 0 rfl ?_
  refine g_iload_n (pc := 939) C dL_law_939 3 rfl ?_
  refine g_iconst (pc := 940) (v := 2) C dL_law_940 (by decide) ?_
  refine g_iadd (pc := 941) C dL_law_941 ?_
  refine g_xld (pc := 942) C S (law_in (k := 2) hi hL (by decide)) dL_law_942 ?_
  refine g_callV (pc := 943) (ws' := (wL E ad (s.torn, s.tape, s.rdr, s.drf, s.now, s.seen, (v.2.1, v.2.2.1, v.2.2.2.1), (v.2.2.2.2.1, v.2.2.2.2.2.1, v.2.2.2.2.2.2.1, v.2.2.2.2.2.2.2.2.2.2.2.1, v.2.2.2.2.2.2.2.2.2.1, v.2.2.2.2.2.2.2.2.1, v.2.2.2.2.2.2.2.1, v.2.2.2.2.2.2.2.2.2.2.1), (s.evg.1, s.evg.2.1, v.2.2.2.2.2.2.2.2.2.2.2.2.1, v.2.2.2.2.2.2.2.2.2.2.2.2.2), s.adv, s.gss, s.im0, s.im1, s.sh0, s.sh1, s.sh2, s.sh3) t)) (st1 := [.long v.1]) (st := []) C mv_L_111 (k_X11_mean E (ad 0) (ad 10) (ad 14) (ad 13) (ad 12) (ad 15) (ad 11) (ad 31) (ad 20) (ad 21) (ad 25) (ad 24) (ad 23) (ad 26) (ad 22) (ad 27) (ad 28) (ad 29) (ad 1) (ad 3) (ad 16) (ad 30) (ad 32) (ad 38) (ad 39) s.torn s.now.1 s.now.2.1 s.now.2.2.1 s.now.2.2.2.2.2.2.1 s.now.2.2.2.2.2.1 s.now.2.2.2.2.1 s.now.2.2.2.2.2.2.2 s.now.2.2.2.1 s.tri.1 s.tri.2.1 s.tri.2.2 s.tcy.1 s.tcy.2.1 s.tcy.2.2.1 s.tcy.2.2.2.2.2.2.1 s.tcy.2.2.2.2.2.1 s.tcy.2.2.2.2.1 s.tcy.2.2.2.2.2.2.2 s.tcy.2.2.2.1 s.evg.1 s.evg.2.1 s.evg.2.2.1 s.evg.2.2.2 (xs (ix (nI i + 1))) (xs (ix (nI i + 2))) v hv) [0, 10, 14, 13, 12, 15, 11, 31, 20, 21, 25, 24, 23, 26, 22, 27, 28, 29] rfl (by decide +kernel) rfl [some 0, none, none, none, none, none, none, none, none, none, some 1, some 6, some 4, some 3, some 2, some 5, none, none, none, none, some 8, some 9, some 14, some 12, some 11, some 10, some 13, some 15, some 16, some 17, none, some 7, none, none, none, none, none, none, none, none, none, none, none, none, none, none, none, none, none, none, none, none, none, none, none, none, none, none, none, none, none, none, none, none, none, none, none, none, none, none, none, none, none, none, none, none, none, none, none, none, none, none, none, none] 84 (by decide +kernel) rfl rfl 0 rfl rfl ⟨by decide, by decide⟩ ⟨rfl, rfl⟩ hnz rfl rfl rfl (Nat.le_of_ble_eq_true rfl) dL_law_943 ?_
  refine g_aload_n (pc := 946) C dL_law_946 2 rfl ?_
  refine g_aload_n (pc := 947) C dL_law_947 0 rfl ?_
  refine g_iload_n (pc := 948) C dL_law_948 3 rfl ?_
  refine g_iconst (pc := 949) (v := 1) C dL_law_949 (by decide) ?_
  refine g_iadd (pc := 950) C dL_law_950 ?_
  refine g_xld (pc := 951) C S (law_in (k := 1) hi hL (by decide)) dL_law_951 ?_
  refine g_aload_n (pc := 952) C dL_law_952 0 rfl ?_
  refine g_iload_n (pc := 953) C dL_law_953 3 rfl ?_
  refine g_iconst (pc := 954) (v := 2) C dL_law_954 (by decide) ?_
  refine g_iadd (pc := 955) C dL_law_955 ?_
  refine g_xld (pc := 956) C S (law_in (k := 2) hi hL (by decide)) dL_law_956 ?_
  refine g_callV (pc := 957) (ws' := (wL E ad (s.torn, s.tape, s.rdr, s.drf, s.now, s.seen, (v.2.1, v.2.2.1, v.2.2.2.1), (v.2.2.2.2.1, v.2.2.2.2.2.1, v.2.2.2.2.2.2.1, v.2.2.2.2.2.2.2.2.2.2.2.1, v.2.2.2.2.2.2.2.2.2.1, v.2.2.2.2.2.2.2.2.1, v.2.2.2.2.2.2.2.1, v.2.2.2.2.2.2.2.2.2.2.1), (s.evg.1, s.evg.2.1, v.2.2.2.2.2.2.2.2.2.2.2.2.1, v.2.2.2.2.2.2.2.2.2.2.2.2.2), s.adv, s.gss, s.im0, s.im1, s.sh0, s.sh1, s.sh2, s.sh3) ((t.st, w.2.2.2.2.2.2.2.2.2, t.isKept, t.houses, t.comers, t.draft, t.dHouses, t.dComers, t.highestHouse), t.m1, (w.2.1, w.2.2.2.2.2.2.2.1, w.2.2.2.2.2.2.2.2.1, w.2.2.1, w.2.2.2.1, w.2.2.2.2.1, w.2.2.2.2.2.1, w.2.2.2.2.2.2.1, t.hours), t.m3))) (st1 := [.long w.1, .long v.1]) (st := [.long v.1]) C mv_L_115 (k_X12_mean E (ad 70) (ad 76) (ad 77) (ad 72) (ad 71) (ad 73) (ad 74) (ad 75) (ad 78) (ad 79) (ad 80) (ad 81) (ad 82) (ad 83) t.houses t.comers t.dHouses t.dComers t.highestHouse t.highestComer t.taped t.pos t.begun t.sort t.value t.fault t.wrongAt t.home t.dinners t.waited t.beginSum t.dinnerSum t.allWays t.torn t.began t.begunBy t.now t.st (xs (ix (nI i + 1))) (xs (ix (nI i + 2))) w hw) [70, 76, 77, 72, 71] rfl (by decide +kernel) rfl [none, none, none, none, none, none, none, none, none, none, none, none, none, none, none, none, none, none, none, none, none, none, none, none, none, none, none, none, none, none, none, none, none, none, none, none, none, none, none, none, none, none, none, none, none, none, none, none, none, none, none, none, none, none, none, none, none, none, none, none, none, none, none, none, none, none, none, none, none, none, some 0, some 4, some 3, none, none, none, some 1, some 2, none, none, none, none, none, none] 84 (by decide +kernel) rfl rfl 0 rfl rfl ⟨by decide, by decide⟩ ⟨rfl, rfl⟩ hnz rfl rfl rfl (Nat.le_of_ble_eq_true rfl) dL_law_957 ?_
  refine g_lcmp (pc := 960) C dL_law_960 ?_
  have e0 : lg_cmp v.1 w.1 = 0 := by rw [e]; exact lg_cmp_self _
  exact b_if_eq (pc := 961) (F1 := some ()) (F2 := (none : Option Unit)) (r := ()) 1385 C dL_law_961 (by decide) (if_pos e0) (fun _ _ => kk _ _ hI2) (fun c _ => absurd e0 c)
set_option maxHeartbeats 4000000 in
set_option maxRecDepth 100000 in
theorem lc_see {E : Ev} {X : Cx} {ad : Nat → Nat} {b L n z : Nat} {xs : Nat → Int32} (C : CX E X code R_law 4 room_1) (S : scr X b L xs) (hnz : n ≤ room_1.cells ∧ z ≤ room_1.slots) (s : SX) (t : TM) (hI : Inv s t) (i : Nat) (hi : i + 5 ≤ L) (hL : L ≤ 2560) (kk : ∀ s' t', Inv s' t' → G E X n z (wL E ad s' t') [(0, .ref b), (1, .ref (ad 0)), (2, .ref (ad 70)), (3, .int (nI i))] 1385 []) : G E X n z (wL E ad s t) [(0, .ref b), (1, .ref (ad 0)), (2, .ref (ad 70)), (3, .int (nI i))] 966 [] := by
  obtain ⟨v, w, hv, hw, e, hI2⟩ := p_see s t (xs (ix (nI i + 1))) (xs (ix (nI i + 2))) (xs (ix (nI i + 3))) hI
  refine g_aload_n (pc := 966) C dL_law_966 1 rfl ?_
  refine g_aload_n (pc := 967) C dL_law_967 0 rfl ?_
  refine g_iload_n (pc := 968) C dL_law_968 3 rfl ?_
  refine g_iconst (pc := 969) (v := 1) C dL_law_969 (by decide) ?_
  refine g_iadd (pc := 970) C dL_law_970 ?_
  refine g_xld (pc := 971) C S (law_in (k := 1) hi hL (by decide)) dL_law_971 ?_
  refine g_aload_n (pc := 972) C dL_law_972 0 rfl ?_
  refine g_iload_n (pc := 973) C dL_law_973 3 rfl ?_
  refine g_iconst (pc := 974) (v := 2) C dL_law_974 (by decide) ?_
  refine g_iadd (pc := 975) C dL_law_975 ?_
  refine g_xld (pc := 976) C S (law_in (k := 2) hi hL (by decide)) dL_law_976 ?_
  refine g_aload_n (pc := 977) C dL_law_977 0 rfl ?_
  refine g_iload_n (pc := 978) C dL_law_978 3 rfl ?_
  refine g_iconst (pc := 979) (v := 3) C dL_law_979 (by decide) ?_
  refine g_iadd (pc := 980) C dL_law_980 ?_
  refine g_xld (pc := 981) C S (law_in (k := 3) hi hL (by decide)) dL_law_981 ?_
  refine g_callV (pc := 982) (ws' := (wL E ad (s.torn, s.tape, s.rdr, s.drf, s.now, (v.2.1, v.2.2.1, v.2.2.2.2, v.2.2.2.1), s.tri, s.tcy, s.evg, s.adv, s.gss, s.im0, s.im1, s.sh0, s.sh1, s.sh2, s.sh3) t)) (st1 := [.int v.1]) (st := []) C mv_L_116 (k_X11_see E (ad 0) (ad 10) (ad 16) (ad 17) (ad 19) (ad 18) (ad 1) (ad 3) (ad 20) (ad 30) (ad 31) (ad 32) (ad 38) (ad 39) (ad 11) (ad 12) (ad 13) (ad 14) (ad 15) s.torn s.now.1 s.now.2.1 s.now.2.2.1 s.seen.1 s.seen.2.1 s.seen.2.2.2 s.seen.2.2.1 (xs (ix (nI i + 1))) (xs (ix (nI i + 2))) (xs (ix (nI i + 3))) v hv) [0, 10, 16, 17, 19, 18] rfl (by decide +kernel) rfl [some 0, none, none, none, none, none, none, none, none, none, some 1, none, none, none, none, none, some 2, some 3, some 5, some 4, none, none, none, none, none, none, none, none, none, none, none, none, none, none, none, none, none, none, none, none, none, none, none, none, none, none, none, none, none, none, none, none, none, none, none, none, none, none, none, none, none, none, none, none, none, none, none, none, none, none, none, none, none, none, none, none, none, none, none, none, none, none, none, none] 84 (by decide +kernel) rfl rfl 0 rfl rfl ⟨by decide, by decide⟩ ⟨rfl, rfl⟩ hnz rfl rfl rfl (Nat.le_of_ble_eq_true rfl) dL_law_982 ?_
  refine g_aload_n (pc := 985) C dL_law_985 2 rfl ?_
  refine g_aload_n (pc := 986) C dL_law_986 0 rfl ?_
  refine g_iload_n (pc := 987) C dL_law_987 3 rfl ?_
  refine g_iconst (pc := 988) (v := 1) C dL_law_988 (by decide) ?_
  refine g_iadd (pc := 989) C dL_law_989 ?_
  refine g_xld (pc := 990) C S (law_in (k := 1) hi hL (by decide)) dL_law_990 ?_
  refine g_aload_n (pc := 991) C dL_law_991 0 rfl ?_
  refine g_iload_n (pc := 992) C dL_law_992 3 rfl ?_
  refine g_iconst (pc := 993) (v := 2) C dL_law_993 (by decide) ?_
  refine g_iadd (pc := 994) C dL_law_994 ?_
  refine g_xld (pc := 995) C S (law_in (k := 2) hi hL (by decide)) dL_law_995 ?_
  refine g_aload_n (pc := 996) C dL_law_996 0 rfl ?_
  refine g_iload_n (pc := 997) C dL_law_997 3 rfl ?_
  refine g_iconst (pc := 998) (v := 3) C dL_law_998 (by decide) ?_
  refine g_iadd (pc := 999) C dL_law_999 ?_
  refine g_xld (pc := 1000) C S (law_in (k := 3) hi hL (by decide)) dL_law_1000 ?_
  refine g_callV (pc := 1001) (ws' := (wL E ad (s.torn, s.tape, s.rdr, s.drf, s.now, (v.2.1, v.2.2.1, v.2.2.2.2, v.2.2.2.1), s.tri, s.tcy, s.evg, s.adv, s.gss, s.im0, s.im1, s.sh0, s.sh1, s.sh2, s.sh3) ((w.2, t.now, t.isKept, t.houses, t.comers, t.draft, t.dHouses, t.dComers, t.highestHouse), t.m1, t.m2, t.m3))) (st1 := [.int w.1, .int v.1]) (st := [.int v.1]) C mv_L_119 (k_X12_see E (ad 70) (ad 71) (ad 72) (ad 73) (ad 74) (ad 75) (ad 76) (ad 77) (ad 78) (ad 79) (ad 80) (ad 81) (ad 82) (ad 83) t.houses t.comers t.dHouses t.dComers t.highestHouse t.highestComer t.taped t.pos t.begun t.sort t.value t.fault t.wrongAt t.home t.dinners t.waited t.beginSum t.dinnerSum t.allWays t.torn t.st (xs (ix (nI i + 1))) (xs (ix (nI i + 2))) (xs (ix (nI i + 3))) w hw) [70, 71] rfl (by decide +kernel) rfl [none, none, none, none, none, none, none, none, none, none, none, none, none, none, none, none, none, none, none, none, none, none, none, none, none, none, none, none, none, none, none, none, none, none, none, none, none, none, none, none, none, none, none, none, none, none, none, none, none, none, none, none, none, none, none, none, none, none, none, none, none, none, none, none, none, none, none, none, none, none, some 0, some 1, none, none, none, none, none, none, none, none, none, none, none, none] 84 (by decide +kernel) rfl rfl 0 rfl rfl ⟨by decide, by decide⟩ ⟨rfl, rfl⟩ hnz rfl rfl rfl (Nat.le_of_ble_eq_true rfl) dL_law_1001 ?_
  exact b_icmp_eq (pc := 1004) (F1 := some ()) (F2 := (none : Option Unit)) (r := ()) 1385 C dL_law_1004 (by decide) (if_pos e) (fun _ _ => kk _ _ hI2) (fun c _ => absurd e c)
set_option maxHeartbeats 4000000 in
set_option maxRecDepth 100000 in
theorem lc_forget {E : Ev} {X : Cx} {ad : Nat → Nat} {b L n z : Nat} {xs : Nat → Int32} (C : CX E X code R_law 4 room_1) (S : scr X b L xs) (hnz : n ≤ room_1.cells ∧ z ≤ room_1.slots) (s : SX) (t : TM) (hI : Inv s t) (i : Nat) (hi : i + 5 ≤ L) (hL : L ≤ 2560) (kk : ∀ s' t', Inv s' t' → G E X n z (wL E ad s' t') [(0, .ref b), (1, .ref (ad 0)), (2, .ref (ad 70)), (3, .int (nI i))] 1385 []) : G E X n z (wL E ad s t) [(0, .ref b), (1, .ref (ad 0)), (2, .ref (ad 70)), (3, .int (nI i))] 1009 [] := by
  obtain ⟨v, w, hv, hw, e, hI2⟩ := p_forget s t (xs (ix (nI i + 1))) hI
  refine g_aload_n (pc := 1009) C dL_law_1009 1 rfl ?_
  refine g_aload_n (pc := 1010) C dL_law_1010 0 rfl ?_
  refine g_iload_n (pc := 1011) C dL_law_1011 3 rfl ?_
  refine g_iconst (pc := 1012) (v := 1) C dL_law_1012 (by decide) ?_
  refine g_iadd (pc := 1013) C dL_law_1013 ?_
  refine g_xld (pc := 1014) C S (law_in (k := 1) hi hL (by decide)) dL_law_1014 ?_
  refine g_callV (pc := 1015) (ws' := (wL E ad (s.torn, s.tape, s.rdr, s.drf, s.now, (v.2, s.seen.2.1, s.seen.2.2.1, s.seen.2.2.2), s.tri, s.tcy, s.evg, s.adv, s.gss, s.im0, s.im1, s.sh0, s.sh1, s.sh2, s.sh3) t)) (st1 := [.int v.1]) (st := []) C mv_L_120 (k_X11_forget E (ad 0) (ad 16) (ad 1) (ad 3) (ad 10) (ad 20) (ad 30) (ad 31) (ad 32) (ad 38) (ad 39) (ad 17) (ad 18) (ad 19) s.torn s.seen.1 (xs (ix (nI i + 1))) v hv) [0, 16] rfl (by decide +kernel) rfl [some 0, none, none, none, none, none, none, none, none, none, none, none, none, none, none, none, some 1, none, none, none, none, none, none, none, none, none, none, none, none, none, none, none, none, none, none, none, none, none, none, none, none, none, none, none, none, none, none, none, none, none, none, none, none, none, none, none, none, none, none, none, none, none, none, none, none, none, none, none, none, none, none, none, none, none, none, none, none, none, none, none, none, none, none, none] 84 (by decide +kernel) rfl rfl 0 rfl rfl ⟨by decide, by decide⟩ ⟨rfl, rfl⟩ hnz rfl rfl rfl (Nat.le_of_ble_eq_true rfl) dL_law_1015 ?_
  refine g_aload_n (pc := 1018) C dL_law_1018 2 rfl ?_
  refine g_aload_n (pc := 1019) C dL_law_1019 0 rfl ?_
  refine g_iload_n (pc := 1020) C dL_law_1020 3 rfl ?_
  refine g_iconst (pc := 1021) (v := 1) C dL_law_1021 (by decide) ?_
  refine g_iadd (pc := 1022) C dL_law_1022 ?_
  refine g_xld (pc := 1023) C S (law_in (k := 1) hi hL (by decide)) dL_law_1023 ?_
  refine g_callV (pc := 1024) (ws' := (wL E ad (s.torn, s.tape, s.rdr, s.drf, s.now, (v.2, s.seen.2.1, s.seen.2.2.1, s.seen.2.2.2), s.tri, s.tcy, s.evg, s.adv, s.gss, s.im0, s.im1, s.sh0, s.sh1, s.sh2, s.sh3) ((w.2, t.now, t.isKept, t.houses, t.comers, t.draft, t.dHouses, t.dComers, t.highestHouse), t.m1, t.m2, t.m3))) (st1 := [.int w.1, .int v.1]) (st := [.int v.1]) C mv_L_123 (k_X12_forget E (ad 70) (ad 71) (ad 72) (ad 73) (ad 74) (ad 75) (ad 76) (ad 77) (ad 78) (ad 79) (ad 80) (ad 81) (ad 82) (ad 83) t.houses t.comers t.dHouses t.dComers t.highestHouse t.highestComer t.taped t.pos t.begun t.sort t.value t.fault t.wrongAt t.home t.dinners t.waited t.beginSum t.dinnerSum t.allWays t.torn t.st (xs (ix (nI i + 1))) w hw) [70, 71] rfl (by decide +kernel) rfl [none, none, none, none, none, none, none, none, none, none, none, none, none, none, none, none, none, none, none, none, none, none, none, none, none, none, none, none, none, none, none, none, none, none, none, none, none, none, none, none, none, none, none, none, none, none, none, none, none, none, none, none, none, none, none, none, none, none, none, none, none, none, none, none, none, none, none, none, none, none, some 0, some 1, none, none, none, none, none, none, none, none, none, none, none, none] 84 (by decide +kernel) rfl rfl 0 rfl rfl ⟨by decide, by decide⟩ ⟨rfl, rfl⟩ hnz rfl rfl rfl (Nat.le_of_ble_eq_true rfl) dL_law_1024 ?_
  exact b_icmp_eq (pc := 1027) (F1 := some ()) (F2 := (none : Option Unit)) (r := ()) 1385 C dL_law_1027 (by decide) (if_pos e) (fun _ _ => kk _ _ hI2) (fun c _ => absurd e c)
set_option maxHeartbeats 4000000 in
set_option maxRecDepth 100000 in
theorem lc_kinds {E : Ev} {X : Cx} {ad : Nat → Nat} {b L n z : Nat} {xs : Nat → Int32} (C : CX E X code R_law 4 room_1) (S : scr X b L xs) (hnz : n ≤ room_1.cells ∧ z ≤ room_1.slots) (s : SX) (t : TM) (hI : Inv s t) (i : Nat) (hi : i + 5 ≤ L) (hL : L ≤ 2560) (kk : ∀ s' t', Inv s' t' → G E X n z (wL E ad s' t') [(0, .ref b), (1, .ref (ad 0)), (2, .ref (ad 70)), (3, .int (nI i))] 1385 []) : G E X n z (wL E ad s t) [(0, .ref b), (1, .ref (ad 0)), (2, .ref (ad 70)), (3, .int (nI i))] 1032 [] := by
  obtain ⟨v, w, hv, hw, e, hI2⟩ := p_kinds s t (xs (ix (nI i + 1))) hI
  refine g_aload_n (pc := 1032) C dL_law_1032 1 rfl ?_
  refine g_aload_n (pc := 1033) C dL_law_1033 0 rfl ?_
  refine g_iload_n (pc := 1034) C dL_law_1034 3 rfl ?_
  refine g_iconst (pc := 1035) (v := 1) C dL_law_1035 (by decide) ?_
  refine g_iadd (pc := 1036) C dL_law_1036 ?_
  refine g_xld (pc := 1037) C S (law_in (k := 1) hi hL (by decide)) dL_law_1037 ?_
  refine g_callV (pc := 1038) (ws' := (wL E ad (s.torn, s.tape, s.rdr, s.drf, s.now, s.seen, (v.2.2.2.2.2.1, v.2.2.2.2.2.2.1, v.2.2.2.2.2.2.2.1), (v.2.2.2.2.2.2.2.2.1, v.2.2.2.2.2.2.2.2.2.1, v.2.2.2.2.2.2.2.2.2.2.1, v.2.2.2.2.2.2.2.2.2.2.2.2.2.2.2.1, v.2.2.2.2.2.2.2.2.2.2.2.2.2.1, v.2.2.2.2.2.2.2.2.2.2.2.2.1, v.2.2.2.2.2.2.2.2.2.2.2.1, v.2.2.2.2.2.2.2.2.2.2.2.2.2.2.1), (v.2.2.2.2.2.2.2.2.2.2.2.2.2.2.2.2.1, v.2.2.2.2.2.2.2.2.2.2.2.2.2.2.2.2.2.1, v.2.2.2.2.2.2.2.2.2.2.2.2.2.2.2.2.2.2.1, v.2.2.2.2.2.2.2.2.2.2.2.2.2.2.2.2.2.2.2), s.adv, (s.gss.1, s.gss.2.1, v.2.1, v.2.2.1, v.2.2.2.1, v.2.2.2.2.1), s.im0, s.im1, s.sh0, s.sh1, s.sh2, s.sh3) t)) (st1 := [.int v.1]) (st := []) C mv_L_124 (k_X11_kinds E (ad 0) (ad 32) (ad 33) (ad 34) (ad 35) (ad 36) (ad 37) (ad 10) (ad 14) (ad 13) (ad 12) (ad 15) (ad 11) (ad 16) (ad 17) (ad 19) (ad 18) (ad 20) (ad 21) (ad 25) (ad 24) (ad 23) (ad 26) (ad 22) (ad 27) (ad 28) (ad 29) (ad 1) (ad 3) (ad 30) (ad 31) (ad 38) (ad 39) s.torn s.gss.1 s.gss.2.1 s.gss.2.2.1 s.gss.2.2.2.1 s.gss.2.2.2.2.1 s.gss.2.2.2.2.2 s.now.1 s.now.2.1 s.now.2.2.1 s.now.2.2.2.2.2.2.1 s.now.2.2.2.2.2.1 s.now.2.2.2.2.1 s.now.2.2.2.2.2.2.2 s.now.2.2.2.1 s.seen.1 s.seen.2.1 s.seen.2.2.2 s.seen.2.2.1 s.tri.1 s.tri.2.1 s.tri.2.2 s.tcy.1 s.tcy.2.1 s.tcy.2.2.1 s.tcy.2.2.2.2.2.2.1 s.tcy.2.2.2.2.2.1 s.tcy.2.2.2.2.1 s.tcy.2.2.2.2.2.2.2 s.tcy.2.2.2.1 s.evg.1 s.evg.2.1 s.evg.2.2.1 s.evg.2.2.2 (xs (ix (nI i + 1))) v hv) [0, 32, 33, 34, 35, 36, 37, 10, 14, 13, 12, 15, 11, 16, 17, 19, 18, 20, 21, 25, 24, 23, 26, 22, 27, 28, 29] rfl (by decide +kernel) rfl [some 0, none, none, none, none, none, none, none, none, none, some 7, some 12, some 10, some 9, some 8, some 11, some 13, some 14, some 16, some 15, some 17, some 18, some 23, some 21, some 20, some 19, some 22, some 24, some 25, some 26, none, none, some 1, some 2, some 3, some 4, some 5, some 6, none, none, none, none, none, none, none, none, none, none, none, none, none, none, none, none, none, none, none, none, none, none, none, none, none, none, none, none, none, none, none, none, none, none, none, none, none, none, none, none, none, none, none, none, none, none] 84 (by decide +kernel) rfl rfl 0 rfl rfl ⟨by decide, by decide⟩ ⟨rfl, rfl⟩ hnz rfl rfl rfl (Nat.le_of_ble_eq_true rfl) dL_law_1038 ?_
  refine g_aload_n (pc := 1041) C dL_law_1041 2 rfl ?_
  refine g_aload_n (pc := 1042) C dL_law_1042 0 rfl ?_
  refine g_iload_n (pc := 1043) C dL_law_1043 3 rfl ?_
  refine g_iconst (pc := 1044) (v := 1) C dL_law_1044 (by decide) ?_
  refine g_iadd (pc := 1045) C dL_law_1045 ?_
  refine g_xld (pc := 1046) C S (law_in (k := 1) hi hL (by decide)) dL_law_1046 ?_
  refine g_callV (pc := 1047) (ws' := (wL E ad (s.torn, s.tape, s.rdr, s.drf, s.now, s.seen, (v.2.2.2.2.2.1, v.2.2.2.2.2.2.1, v.2.2.2.2.2.2.2.1), (v.2.2.2.2.2.2.2.2.1, v.2.2.2.2.2.2.2.2.2.1, v.2.2.2.2.2.2.2.2.2.2.1, v.2.2.2.2.2.2.2.2.2.2.2.2.2.2.2.1, v.2.2.2.2.2.2.2.2.2.2.2.2.2.1, v.2.2.2.2.2.2.2.2.2.2.2.2.1, v.2.2.2.2.2.2.2.2.2.2.2.1, v.2.2.2.2.2.2.2.2.2.2.2.2.2.2.1), (v.2.2.2.2.2.2.2.2.2.2.2.2.2.2.2.2.1, v.2.2.2.2.2.2.2.2.2.2.2.2.2.2.2.2.2.1, v.2.2.2.2.2.2.2.2.2.2.2.2.2.2.2.2.2.2.1, v.2.2.2.2.2.2.2.2.2.2.2.2.2.2.2.2.2.2.2), s.adv, (s.gss.1, s.gss.2.1, v.2.1, v.2.2.1, v.2.2.2.1, v.2.2.2.2.1), s.im0, s.im1, s.sh0, s.sh1, s.sh2, s.sh3) ((t.st, w.2.2.2.2.2.2.2, t.isKept, t.houses, t.comers, t.draft, t.dHouses, t.dComers, t.highestHouse), t.m1, (w.2.1, w.2.2.2.2.1, w.2.2.2.2.2.1, w.2.2.1, w.2.2.2.1, t.beginSum, t.dinnerSum, t.allWays, w.2.2.2.2.2.2.1), t.m3))) (st1 := [.int w.1, .int v.1]) (st := [.int v.1]) C mv_L_127 (k_X12_kinds E (ad 70) (ad 76) (ad 77) (ad 78) (ad 72) (ad 71) (ad 73) (ad 74) (ad 75) (ad 79) (ad 80) (ad 81) (ad 82) (ad 83) t.houses t.comers t.dHouses t.dComers t.highestHouse t.highestComer t.taped t.pos t.begun t.sort t.value t.fault t.wrongAt t.home t.dinners t.waited t.beginSum t.dinnerSum t.allWays t.torn t.began t.begunBy t.hours t.now t.st (xs (ix (nI i + 1))) w hw) [70, 76, 77, 78, 72, 71] rfl (by decide +kernel) rfl [none, none, none, none, none, none, none, none, none, none, none, none, none, none, none, none, none, none, none, none, none, none, none, none, none, none, none, none, none, none, none, none, none, none, none, none, none, none, none, none, none, none, none, none, none, none, none, none, none, none, none, none, none, none, none, none, none, none, none, none, none, none, none, none, none, none, none, none, none, none, some 0, some 5, some 4, none, none, none, some 1, some 2, some 3, none, none, none, none, none] 84 (by decide +kernel) rfl rfl 0 rfl rfl ⟨by decide, by decide⟩ ⟨rfl, rfl⟩ hnz rfl rfl rfl (Nat.le_of_ble_eq_true rfl) dL_law_1047 ?_
  exact b_icmp_eq (pc := 1050) (F1 := some ()) (F2 := (none : Option Unit)) (r := ()) 1385 C dL_law_1050 (by decide) (if_pos e) (fun _ _ => kk _ _ hI2) (fun c _ => absurd e c)
set_option maxHeartbeats 4000000 in
set_option maxRecDepth 100000 in
theorem lc_levels {E : Ev} {X : Cx} {ad : Nat → Nat} {b L n z : Nat} {xs : Nat → Int32} (C : CX E X code R_law 4 room_1) (S : scr X b L xs) (hnz : n ≤ room_1.cells ∧ z ≤ room_1.slots) (s : SX) (t : TM) (hI : Inv s t) (i : Nat) (hi : i + 5 ≤ L) (hL : L ≤ 2560) (kk : ∀ s' t', Inv s' t' → G E X n z (wL E ad s' t') [(0, .ref b), (1, .ref (ad 0)), (2, .ref (ad 70)), (3, .int (nI i))] 1385 []) : G E X n z (wL E ad s t) [(0, .ref b), (1, .ref (ad 0)), (2, .ref (ad 70)), (3, .int (nI i))] 1055 [] := by
  obtain ⟨v, w, hv, hw, e, hI2⟩ := p_levels s t (xs (ix (nI i + 1))) (xs (ix (nI i + 2))) hI
  refine g_aload_n (pc := 1055) C dL_law_1055 1 rfl ?_
  refine g_aload_n (pc := 1056) C dL_law_1056 0 rfl ?_
  refine g_iload_n (pc := 1057) C dL_law_1057 3 rfl ?_
  refine g_iconst (pc := 1058) (v := 1) C dL_law_1058 (by decide) ?_
  refine g_iadd (pc := 1059) C dL_law_1059 ?_
  refine g_xld (pc := 1060) C S (law_in (k := 1) hi hL (by decide)) dL_law_1060 ?_
  refine g_aload_n (pc := 1061) C dL_law_1061 0 rfl ?_
  refine g_iload_n (pc := 1062) C dL_law_1062 3 rfl ?_
  refine g_iconst (pc := 1063) (v := 2) C dL_law_1063 (by decide) ?_
  refine g_iadd (pc := 1064) C dL_law_1064 ?_
  refine g_xld (pc := 1065) C S (law_in (k := 2) hi hL (by decide)) dL_law_1065 ?_
  refine g_callV (pc := 1066) (ws' := (wL E ad (s.torn, s.tape, s.rdr, s.drf, s.now, s.seen, (v.2.2.2.2.2.1, v.2.2.2.2.2.2.1, v.2.2.2.2.2.2.2.1), (v.2.2.2.2.2.2.2.2.1, v.2.2.2.2.2.2.2.2.2.1, v.2.2.2.2.2.2.2.2.2.2.1, v.2.2.2.2.2.2.2.2.2.2.2.2.2.2.2.1, v.2.2.2.2.2.2.2.2.2.2.2.2.2.1, v.2.2.2.2.2.2.2.2.2.2.2.2.1, v.2.2.2.2.2.2.2.2.2.2.2.1, v.2.2.2.2.2.2.2.2.2.2.2.2.2.2.1), (v.2.2.2.2.2.2.2.2.2.2.2.2.2.2.2.2.1, v.2.2.2.2.2.2.2.2.2.2.2.2.2.2.2.2.2.1, v.2.2.2.2.2.2.2.2.2.2.2.2.2.2.2.2.2.2.1, v.2.2.2.2.2.2.2.2.2.2.2.2.2.2.2.2.2.2.2), s.adv, (s.gss.1, s.gss.2.1, v.2.1, v.2.2.1, v.2.2.2.1, v.2.2.2.2.1), s.im0, s.im1, s.sh0, s.sh1, s.sh2, s.sh3) t)) (st1 := [.int v.1]) (st := []) C mv_L_128 (k_X11_levels E (ad 0) (ad 32) (ad 33) (ad 34) (ad 35) (ad 36) (ad 37) (ad 10) (ad 14) (ad 13) (ad 12) (ad 15) (ad 11) (ad 16) (ad 17) (ad 19) (ad 18) (ad 20) (ad 21) (ad 25) (ad 24) (ad 23) (ad 26) (ad 22) (ad 27) (ad 28) (ad 29) (ad 1) (ad 3) (ad 30) (ad 31) (ad 38) (ad 39) s.torn s.gss.1 s.gss.2.1 s.gss.2.2.1 s.gss.2.2.2.1 s.gss.2.2.2.2.1 s.gss.2.2.2.2.2 s.now.1 s.now.2.1 s.now.2.2.1 s.now.2.2.2.2.2.2.1 s.now.2.2.2.2.2.1 s.now.2.2.2.2.1 s.now.2.2.2.2.2.2.2 s.now.2.2.2.1 s.seen.1 s.seen.2.1 s.seen.2.2.2 s.seen.2.2.1 s.tri.1 s.tri.2.1 s.tri.2.2 s.tcy.1 s.tcy.2.1 s.tcy.2.2.1 s.tcy.2.2.2.2.2.2.1 s.tcy.2.2.2.2.2.1 s.tcy.2.2.2.2.1 s.tcy.2.2.2.2.2.2.2 s.tcy.2.2.2.1 s.evg.1 s.evg.2.1 s.evg.2.2.1 s.evg.2.2.2 (xs (ix (nI i + 1))) (xs (ix (nI i + 2))) v hv) [0, 32, 33, 34, 35, 36, 37, 10, 14, 13, 12, 15, 11, 16, 17, 19, 18, 20, 21, 25, 24, 23, 26, 22, 27, 28, 29] rfl (by decide +kernel) rfl [some 0, none, none, none, none, none, none, none, none, none, some 7, some 12, some 10, some 9, some 8, some 11, some 13, some 14, some 16, some 15, some 17, some 18, some 23, some 21, some 20, some 19, some 22, some 24, some 25, some 26, none, none, some 1, some 2, some 3, some 4, some 5, some 6, none, none, none, none, none, none, none, none, none, none, none, none, none, none, none, none, none, none, none, none, none, none, none, none, none, none, none, none, none, none, none, none, none, none, none, none, none, none, none, none, none, none, none, none, none, none] 84 (by decide +kernel) rfl rfl 0 rfl rfl ⟨by decide, by decide⟩ ⟨rfl, rfl⟩ hnz rfl rfl rfl (Nat.le_of_ble_eq_true rfl) dL_law_1066 ?_
  refine g_aload_n (pc := 1069) C dL_law_1069 2 rfl ?_
  refine g_aload_n (pc := 1070) C dL_law_1070 0 rfl ?_
  refine g_iload_n (pc := 1071) C dL_law_1071 3 rfl ?_
  refine g_iconst (pc := 1072) (v := 1) C dL_law_1072 (by decide) ?_
  refine g_iadd (pc := 1073) C dL_law_1073 ?_
  refine g_xld (pc := 1074) C S (law_in (k := 1) hi hL (by decide)) dL_law_1074 ?_
  refine g_aload_n (pc := 1075) C dL_law_1075 0 rfl ?_
  refine g_iload_n (pc := 1076) C dL_law_1076 3 rfl ?_
  refine g_iconst (pc := 1077) (v := 2) C dL_law_1077 (by decide) ?_
  refine g_iadd (pc := 1078) C dL_law_1078 ?_
  refine g_xld (pc := 1079) C S (law_in (k := 2) hi hL (by decide)) dL_law_1079 ?_
  refine g_callV (pc := 1080) (ws' := (wL E ad (s.torn, s.tape, s.rdr, s.drf, s.now, s.seen, (v.2.2.2.2.2.1, v.2.2.2.2.2.2.1, v.2.2.2.2.2.2.2.1), (v.2.2.2.2.2.2.2.2.1, v.2.2.2.2.2.2.2.2.2.1, v.2.2.2.2.2.2.2.2.2.2.1, v.2.2.2.2.2.2.2.2.2.2.2.2.2.2.2.1, v.2.2.2.2.2.2.2.2.2.2.2.2.2.1, v.2.2.2.2.2.2.2.2.2.2.2.2.1, v.2.2.2.2.2.2.2.2.2.2.2.1, v.2.2.2.2.2.2.2.2.2.2.2.2.2.2.1), (v.2.2.2.2.2.2.2.2.2.2.2.2.2.2.2.2.1, v.2.2.2.2.2.2.2.2.2.2.2.2.2.2.2.2.2.1, v.2.2.2.2.2.2.2.2.2.2.2.2.2.2.2.2.2.2.1, v.2.2.2.2.2.2.2.2.2.2.2.2.2.2.2.2.2.2.2), s.adv, (s.gss.1, s.gss.2.1, v.2.1, v.2.2.1, v.2.2.2.1, v.2.2.2.2.1), s.im0, s.im1, s.sh0, s.sh1, s.sh2, s.sh3) ((t.st, w.2.2.2.2.2.2.2, t.isKept, t.houses, t.comers, t.draft, t.dHouses, t.dComers, t.highestHouse), t.m1, (w.2.1, w.2.2.2.2.1, w.2.2.2.2.2.1, w.2.2.1, w.2.2.2.1, t.beginSum, t.dinnerSum, t.allWays, w.2.2.2.2.2.2.1), t.m3))) (st1 := [.int w.1, .int v.1]) (st := [.int v.1]) C mv_L_131 (k_X12_levels E (ad 70) (ad 76) (ad 77) (ad 78) (ad 72) (ad 71) (ad 73) (ad 74) (ad 75) (ad 79) (ad 80) (ad 81) (ad 82) (ad 83) t.houses t.comers t.dHouses t.dComers t.highestHouse t.highestComer t.taped t.pos t.begun t.sort t.value t.fault t.wrongAt t.home t.dinners t.waited t.beginSum t.dinnerSum t.allWays t.torn t.began t.begunBy t.hours t.now t.st (xs (ix (nI i + 1))) (xs (ix (nI i + 2))) w hw) [70, 76, 77, 78, 72, 71] rfl (by decide +kernel) rfl [none, none, none, none, none, none, none, none, none, none, none, none, none, none, none, none, none, none, none, none, none, none, none, none, none, none, none, none, none, none, none, none, none, none, none, none, none, none, none, none, none, none, none, none, none, none, none, none, none, none, none, none, none, none, none, none, none, none, none, none, none, none, none, none, none, none, none, none, none, none, some 0, some 5, some 4, none, none, none, some 1, some 2, some 3, none, none, none, none, none] 84 (by decide +kernel) rfl rfl 0 rfl rfl ⟨by decide, by decide⟩ ⟨rfl, rfl⟩ hnz rfl rfl rfl (Nat.le_of_ble_eq_true rfl) dL_law_1080 ?_
  exact b_icmp_eq (pc := 1083) (F1 := some ()) (F2 := (none : Option Unit)) (r := ()) 1385 C dL_law_1083 (by decide) (if_pos e) (fun _ _ => kk _ _ hI2) (fun c _ => absurd e c)
set_option maxHeartbeats 4000000 in
set_option maxRecDepth 100000 in
theorem lc_ask {E : Ev} {X : Cx} {ad : Nat → Nat} {b L n z : Nat} {xs : Nat → Int32} (C : CX E X code R_law 4 room_1) (S : scr X b L xs) (hnz : n ≤ room_1.cells ∧ z ≤ room_1.slots) (s : SX) (t : TM) (hI : Inv s t) (i : Nat) (hi : i + 5 ≤ L) (hL : L ≤ 2560) (kk : ∀ s' t', Inv s' t' → G E X n z (wL E ad s' t') [(0, .ref b), (1, .ref (ad 0)), (2, .ref (ad 70)), (3, .int (nI i))] 1385 []) : G E X n z (wL E ad s t) [(0, .ref b), (1, .ref (ad 0)), (2, .ref (ad 70)), (3, .int (nI i))] 1088 [] := by
  obtain ⟨v, w, hv, hw, e, hI2⟩ := p_ask s t (xs (ix (nI i + 1))) (xs (ix (nI i + 2))) hI
  refine g_aload_n (pc := 1088) C dL_law_1088 1 rfl ?_
  refine g_aload_n (pc := 1089) C dL_law_1089 0 rfl ?_
  refine g_iload_n (pc := 1090) C dL_law_1090 3 rfl ?_
  refine g_iconst (pc := 1091) (v := 1) C dL_law_1091 (by decide) ?_
  refine g_iadd (pc := 1092) C dL_law_1092 ?_
  refine g_xld (pc := 1093) C S (law_in (k := 1) hi hL (by decide)) dL_law_1093 ?_
  refine g_aload_n (pc := 1094) C dL_law_1094 0 rfl ?_
  refine g_iload_n (pc := 1095) C dL_law_1095 3 rfl ?_
  refine g_iconst (pc := 1096) (v := 2) C dL_law_1096 (by decide) ?_
  refine g_iadd (pc := 1097) C dL_law_1097 ?_
  refine g_xld (pc := 1098) C S (law_in (k := 2) hi hL (by decide)) dL_law_1098 ?_
  refine g_callV (pc := 1099) (ws' := (wL E ad (s.torn, s.tape, s.rdr, s.drf, s.now, s.seen, (v.2.2.2.2.2.2.2.1, v.2.2.2.2.2.2.2.2.1, v.2.2.2.2.2.2.2.2.2.1), (v.2.2.2.2.2.2.2.2.2.2.1, v.2.2.2.2.2.2.2.2.2.2.2.1, v.2.2.2.2.2.2.2.2.2.2.2.2.1, v.2.2.2.2.2.2.2.2.2.2.2.2.2.2.2.2.2.1, v.2.2.2.2.2.2.2.2.2.2.2.2.2.2.2.1, v.2.2.2.2.2.2.2.2.2.2.2.2.2.2.1, v.2.2.2.2.2.2.2.2.2.2.2.2.2.1, v.2.2.2.2.2.2.2.2.2.2.2.2.2.2.2.2.1), (v.2.2.2.2.2.2.2.2.2.2.2.2.2.2.2.2.2.2.1, v.2.2.2.2.2.2.2.2.2.2.2.2.2.2.2.2.2.2.2.1, v.2.2.2.2.2.2.2.2.2.2.2.2.2.2.2.2.2.2.2.2.1, v.2.2.2.2.2.2.2.2.2.2.2.2.2.2.2.2.2.2.2.2.2), s.adv, (v.2.1, v.2.2.1, v.2.2.2.1, v.2.2.2.2.1, v.2.2.2.2.2.1, v.2.2.2.2.2.2.1), s.im0, s.im1, s.sh0, s.sh1, s.sh2, s.sh3) t)) (st1 := [.int v.1]) (st := []) C mv_L_132 (k_X11_ask E (ad 0) (ad 32) (ad 33) (ad 34) (ad 35) (ad 36) (ad 37) (ad 10) (ad 14) (ad 13) (ad 12) (ad 15) (ad 11) (ad 16) (ad 17) (ad 19) (ad 18) (ad 20) (ad 21) (ad 25) (ad 24) (ad 23) (ad 26) (ad 22) (ad 27) (ad 28) (ad 29) (ad 1) (ad 3) (ad 30) (ad 31) (ad 38) (ad 39) s.torn s.gss.1 s.gss.2.1 s.gss.2.2.1 s.gss.2.2.2.1 s.gss.2.2.2.2.1 s.gss.2.2.2.2.2 s.now.1 s.now.2.1 s.now.2.2.1 s.now.2.2.2.2.2.2.1 s.now.2.2.2.2.2.1 s.now.2.2.2.2.1 s.now.2.2.2.2.2.2.2 s.now.2.2.2.1 s.seen.1 s.seen.2.1 s.seen.2.2.2 s.seen.2.2.1 s.tri.1 s.tri.2.1 s.tri.2.2 s.tcy.1 s.tcy.2.1 s.tcy.2.2.1 s.tcy.2.2.2.2.2.2.1 s.tcy.2.2.2.2.2.1 s.tcy.2.2.2.2.1 s.tcy.2.2.2.2.2.2.2 s.tcy.2.2.2.1 s.evg.1 s.evg.2.1 s.evg.2.2.1 s.evg.2.2.2 (xs (ix (nI i + 1))) (xs (ix (nI i + 2))) v hv) [0, 32, 33, 34, 35, 36, 37, 10, 14, 13, 12, 15, 11, 16, 17, 19, 18, 20, 21, 25, 24, 23, 26, 22, 27, 28, 29] rfl (by decide +kernel) rfl [some 0, none, none, none, none, none, none, none, none, none, some 7, some 12, some 10, some 9, some 8, some 11, some 13, some 14, some 16, some 15, some 17, some 18, some 23, some 21, some 20, some 19, some 22, some 24, some 25, some 26, none, none, some 1, some 2, some 3, some 4, some 5, some 6, none, none, none, none, none, none, none, none, none, none, none, none, none, none, none, none, none, none, none, none, none, none, none, none, none, none, none, none, none, none, none, none, none, none, none, none, none, none, none, none, none, none, none, none, none, none] 84 (by decide +kernel) rfl rfl 0 rfl rfl ⟨by decide, by decide⟩ ⟨rfl, rfl⟩ hnz rfl rfl rfl (Nat.le_of_ble_eq_true rfl) dL_law_1099 ?_
  refine g_aload_n (pc := 1102) C dL_law_1102 2 rfl ?_
  refine g_aload_n (pc := 1103) C dL_law_1103 0 rfl ?_
  refine g_iload_n (pc := 1104) C dL_law_1104 3 rfl ?_
  refine g_iconst (pc := 1105) (v := 1) C dL_law_1105 (by decide) ?_
  refine g_iadd (pc := 1106) C dL_law_1106 ?_
  refine g_xld (pc := 1107) C S (law_in (k := 1) hi hL (by decide)) dL_law_1107 ?_
  refine g_aload_n (pc := 1108) C dL_law_1108 0 rfl ?_
  refine g_iload_n (pc := 1109) C dL_law_1109 3 rfl ?_
  refine g_iconst (pc := 1110) (v := 2) C dL_law_1110 (by decide) ?_
  refine g_iadd (pc := 1111) C dL_law_1111 ?_
  refine g_xld (pc := 1112) C S (law_in (k := 2) hi hL (by decide)) dL_law_1112 ?_
  refine g_callV (pc := 1113) (ws' := (wL E ad (s.torn, s.tape, s.rdr, s.drf, s.now, s.seen, (v.2.2.2.2.2.2.2.1, v.2.2.2.2.2.2.2.2.1, v.2.2.2.2.2.2.2.2.2.1), (v.2.2.2.2.2.2.2.2.2.2.1, v.2.2.2.2.2.2.2.2.2.2.2.1, v.2.2.2.2.2.2.2.2.2.2.2.2.1, v.2.2.2.2.2.2.2.2.2.2.2.2.2.2.2.2.2.1, v.2.2.2.2.2.2.2.2.2.2.2.2.2.2.2.1, v.2.2.2.2.2.2.2.2.2.2.2.2.2.2.1, v.2.2.2.2.2.2.2.2.2.2.2.2.2.1, v.2.2.2.2.2.2.2.2.2.2.2.2.2.2.2.2.1), (v.2.2.2.2.2.2.2.2.2.2.2.2.2.2.2.2.2.2.1, v.2.2.2.2.2.2.2.2.2.2.2.2.2.2.2.2.2.2.2.1, v.2.2.2.2.2.2.2.2.2.2.2.2.2.2.2.2.2.2.2.2.1, v.2.2.2.2.2.2.2.2.2.2.2.2.2.2.2.2.2.2.2.2.2), s.adv, (v.2.1, v.2.2.1, v.2.2.2.1, v.2.2.2.2.1, v.2.2.2.2.2.1, v.2.2.2.2.2.2.1), s.im0, s.im1, s.sh0, s.sh1, s.sh2, s.sh3) ((t.st, w.2.2.2.2.2.2.2.2, t.isKept, t.houses, t.comers, t.draft, t.dHouses, t.dComers, t.highestHouse), t.m1, (w.2.1, w.2.2.2.2.1, w.2.2.2.2.2.1, w.2.2.1, w.2.2.2.1, t.beginSum, t.dinnerSum, t.allWays, w.2.2.2.2.2.2.2.1), (w.2.2.2.2.2.2.1, t.lanes, t.sizes, t.cells, t.torn, t.before)))) (st1 := [.int w.1, .int v.1]) (st := [.int v.1]) C mv_L_135 (k_X12_ask E (ad 70) (ad 76) (ad 77) (ad 79) (ad 78) (ad 72) (ad 71) (ad 73) (ad 74) (ad 75) (ad 80) (ad 81) (ad 82) (ad 83) t.houses t.comers t.dHouses t.dComers t.highestHouse t.highestComer t.taped t.pos t.begun t.sort t.value t.fault t.wrongAt t.home t.dinners t.waited t.beginSum t.dinnerSum t.allWays t.torn t.began t.begunBy t.byKind t.hours t.now t.st (xs (ix (nI i + 1))) (xs (ix (nI i + 2))) w hw) [70, 76, 77, 79, 78, 72, 71] rfl (by decide +kernel) rfl [none, none, none, none, none, none, none, none, none, none, none, none, none, none, none, none, none, none, none, none, none, none, none, none, none, none, none, none, none, none, none, none, none, none, none, none, none, none, none, none, none, none, none, none, none, none, none, none, none, none, none, none, none, none, none, none, none, none, none, none, none, none, none, none, none, none, none, none, none, none, some 0, some 6, some 5, none, none, none, some 1, some 2, some 4, some 3, none, none, none, none] 84 (by decide +kernel) rfl rfl 0 rfl rfl ⟨by decide, by decide⟩ ⟨rfl, rfl⟩ hnz rfl rfl rfl (Nat.le_of_ble_eq_true rfl) dL_law_1113 ?_
  exact b_icmp_eq (pc := 1116) (F1 := some ()) (F2 := (none : Option Unit)) (r := ()) 1385 C dL_law_1116 (by decide) (if_pos e) (fun _ _ => kk _ _ hI2) (fun c _ => absurd e c)
set_option maxHeartbeats 4000000 in
set_option maxRecDepth 100000 in
theorem lc_drift {E : Ev} {X : Cx} {ad : Nat → Nat} {b L n z : Nat} {xs : Nat → Int32} (C : CX E X code R_law 4 room_1) (S : scr X b L xs) (hnz : n ≤ room_1.cells ∧ z ≤ room_1.slots) (s : SX) (t : TM) (hI : Inv s t) (i : Nat) (hi : i + 5 ≤ L) (hL : L ≤ 2560) (kk : ∀ s' t', Inv s' t' → G E X n z (wL E ad s' t') [(0, .ref b), (1, .ref (ad 0)), (2, .ref (ad 70)), (3, .int (nI i))] 1385 []) : G E X n z (wL E ad s t) [(0, .ref b), (1, .ref (ad 0)), (2, .ref (ad 70)), (3, .int (nI i))] 1121 [] := by
  obtain ⟨v, w, hv, hw, e, hI2⟩ := p_drift s t (xs (ix (nI i + 1))) (xs (ix (nI i + 2))) (xs (ix (nI i + 3))) hI
  refine g_aload_n (pc := 1121) C dL_law_1121 1 rfl ?_
  refine g_aload_n (pc := 1122) C dL_law_1122 0 rfl ?_
  refine g_iload_n (pc := 1123) C dL_law_1123 3 rfl ?_
  refine g_iconst (pc := 1124) (v := 1) C dL_law_1124 (by decide) ?_
  refine g_iadd (pc := 1125) C dL_law_1125 ?_
  refine g_xld (pc := 1126) C S (law_in (k := 1) hi hL (by decide)) dL_law_1126 ?_
  refine g_aload_n (pc := 1127) C dL_law_1127 0 rfl ?_
  refine g_iload_n (pc := 1128) C dL_law_1128 3 rfl ?_
  refine g_iconst (pc := 1129) (v := 2) C dL_law_1129 (by decide) ?_
  refine g_iadd (pc := 1130) C dL_law_1130 ?_
  refine g_xld (pc := 1131) C S (law_in (k := 2) hi hL (by decide)) dL_law_1131 ?_
  refine g_aload_n (pc := 1132) C dL_law_1132 0 rfl ?_
  refine g_iload_n (pc := 1133) C dL_law_1133 3 rfl ?_
  refine g_iconst (pc := 1134) (v := 3) C dL_law_1134 (by decide) ?_
  refine g_iadd (pc := 1135) C dL_law_1135 ?_
  refine g_xld (pc := 1136) C S (law_in (k := 3) hi hL (by decide)) dL_law_1136 ?_
  refine g_callV (pc := 1137) (ws' := (wL E ad (s.torn, s.tape, s.rdr, s.drf, s.now, s.seen, (v.2.1, v.2.2.1, v.2.2.2.1), (v.2.2.2.2.1, v.2.2.2.2.2.1, v.2.2.2.2.2.2.1, v.2.2.2.2.2.2.2.2.2.2.2.1, v.2.2.2.2.2.2.2.2.2.1, v.2.2.2.2.2.2.2.2.1, v.2.2.2.2.2.2.2.1, v.2.2.2.2.2.2.2.2.2.2.1), (v.2.2.2.2.2.2.2.2.2.2.2.2.1, v.2.2.2.2.2.2.2.2.2.2.2.2.2.1, v.2.2.2.2.2.2.2.2.2.2.2.2.2.2.1, v.2.2.2.2.2.2.2.2.2.2.2.2.2.2.2), s.adv, s.gss, s.im0, s.im1, s.sh0, s.sh1, s.sh2, s.sh3) t)) (st1 := [.int v.1]) (st := []) C mv_L_136 (k_X11_drift E (ad 0) (ad 10) (ad 14) (ad 13) (ad 12) (ad 15) (ad 11) (ad 20) (ad 21) (ad 25) (ad 24) (ad 23) (ad 26) (ad 22) (ad 27) (ad 28) (ad 29) (ad 1) (ad 3) (ad 16) (ad 30) (ad 31) (ad 32) (ad 38) (ad 39) s.torn s.now.1 s.now.2.1 s.now.2.2.1 s.now.2.2.2.2.2.2.1 s.now.2.2.2.2.2.1 s.now.2.2.2.2.1 s.now.2.2.2.2.2.2.2 s.now.2.2.2.1 s.tri.1 s.tri.2.1 s.tri.2.2 s.tcy.1 s.tcy.2.1 s.tcy.2.2.1 s.tcy.2.2.2.2.2.2.1 s.tcy.2.2.2.2.2.1 s.tcy.2.2.2.2.1 s.tcy.2.2.2.2.2.2.2 s.tcy.2.2.2.1 s.evg.1 s.evg.2.1 s.evg.2.2.1 s.evg.2.2.2 (xs (ix (nI i + 1))) (xs (ix (nI i + 2))) (xs (ix (nI i + 3))) v hv) [0, 10, 14, 13, 12, 15, 11, 20, 21, 25, 24, 23, 26, 22, 27, 28, 29] rfl (by decide +kernel) rfl [some 0, none, none, none, none, none, none, none, none, none, some 1, some 6, some 4, some 3, some 2, some 5, none, none, none, none, some 7, some 8, some 13, some 11, some 10, some 9, some 12, some 14, some 15, some 16, none, none, none, none, none, none, none, none, none, none, none, none, none, none, none, none, none, none, none, none, none, none, none, none, none, none, none, none, none, none, none, none, none, none, none, none, none, none, none, none, none, none, none, none, none, none, none, none, none, none, none, none, none, none] 84 (by decide +kernel) rfl rfl 0 rfl rfl ⟨by decide, by decide⟩ ⟨rfl, rfl⟩ hnz rfl rfl rfl (Nat.le_of_ble_eq_true rfl) dL_law_1137 ?_
  refine g_aload_n (pc := 1140) C dL_law_1140 2 rfl ?_
  refine g_aload_n (pc := 1141) C dL_law_1141 0 rfl ?_
  refine g_iload_n (pc := 1142) C dL_law_1142 3 rfl ?_
  refine g_iconst (pc := 1143) (v := 1) C dL_law_1143 (by decide) ?_
  refine g_iadd (pc := 1144) C dL_law_1144 ?_
  refine g_xld (pc := 1145) C S (law_in (k := 1) hi hL (by decide)) dL_law_1145 ?_
  refine g_aload_n (pc := 1146) C dL_law_1146 0 rfl ?_
  refine g_iload_n (pc := 1147) C dL_law_1147 3 rfl ?_
  refine g_iconst (pc := 1148) (v := 2) C dL_law_1148 (by decide) ?_
  refine g_iadd (pc := 1149) C dL_law_1149 ?_
  refine g_xld (pc := 1150) C S (law_in (k := 2) hi hL (by decide)) dL_law_1150 ?_
  refine g_aload_n (pc := 1151) C dL_law_1151 0 rfl ?_
  refine g_iload_n (pc := 1152) C dL_law_1152 3 rfl ?_
  refine g_iconst (pc := 1153) (v := 3) C dL_law_1153 (by decide) ?_
  refine g_iadd (pc := 1154) C dL_law_1154 ?_
  refine g_xld (pc := 1155) C S (law_in (k := 3) hi hL (by decide)) dL_law_1155 ?_
  refine g_callV (pc := 1156) (ws' := (wL E ad (s.torn, s.tape, s.rdr, s.drf, s.now, s.seen, (v.2.1, v.2.2.1, v.2.2.2.1), (v.2.2.2.2.1, v.2.2.2.2.2.1, v.2.2.2.2.2.2.1, v.2.2.2.2.2.2.2.2.2.2.2.1, v.2.2.2.2.2.2.2.2.2.1, v.2.2.2.2.2.2.2.2.1, v.2.2.2.2.2.2.2.1, v.2.2.2.2.2.2.2.2.2.2.1), (v.2.2.2.2.2.2.2.2.2.2.2.2.1, v.2.2.2.2.2.2.2.2.2.2.2.2.2.1, v.2.2.2.2.2.2.2.2.2.2.2.2.2.2.1, v.2.2.2.2.2.2.2.2.2.2.2.2.2.2.2), s.adv, s.gss, s.im0, s.im1, s.sh0, s.sh1, s.sh2, s.sh3) ((t.st, w.2.2.2.2.2.2, t.isKept, t.houses, t.comers, t.draft, t.dHouses, t.dComers, t.highestHouse), t.m1, (w.2.1, w.2.2.2.2.1, w.2.2.2.2.2.1, w.2.2.1, w.2.2.2.1, t.beginSum, t.dinnerSum, t.allWays, t.hours), t.m3))) (st1 := [.int w.1, .int v.1]) (st := [.int v.1]) C mv_L_139 (k_X12_drift E (ad 70) (ad 76) (ad 77) (ad 72) (ad 71) (ad 73) (ad 74) (ad 75) (ad 78) (ad 79) (ad 80) (ad 81) (ad 82) (ad 83) t.houses t.comers t.dHouses t.dComers t.highestHouse t.highestComer t.taped t.pos t.begun t.sort t.value t.fault t.wrongAt t.home t.dinners t.waited t.beginSum t.dinnerSum t.allWays t.torn t.began t.begunBy t.now t.st (xs (ix (nI i + 1))) (xs (ix (nI i + 2))) (xs (ix (nI i + 3))) w hw) [70, 76, 77, 72, 71] rfl (by decide +kernel) rfl [none, none, none, none, none, none, none, none, none, none, none, none, none, none, none, none, none, none, none, none, none, none, none, none, none, none, none, none, none, none, none, none, none, none, none, none, none, none, none, none, none, none, none, none, none, none, none, none, none, none, none, none, none, none, none, none, none, none, none, none, none, none, none, none, none, none, none, none, none, none, some 0, some 4, some 3, none, none, none, some 1, some 2, none, none, none, none, none, none] 84 (by decide +kernel) rfl rfl 0 rfl rfl ⟨by decide, by decide⟩ ⟨rfl, rfl⟩ hnz rfl rfl rfl (Nat.le_of_ble_eq_true rfl) dL_law_1156 ?_
  exact b_icmp_eq (pc := 1159) (F1 := some ()) (F2 := (none : Option Unit)) (r := ()) 1385 C dL_law_1159 (by decide) (if_pos e) (fun _ _ => kk _ _ hI2) (fun c _ => absurd e c)
set_option maxHeartbeats 4000000 in
set_option maxRecDepth 100000 in
theorem lc_keep {E : Ev} {X : Cx} {ad : Nat → Nat} {b L n z : Nat} {xs : Nat → Int32} (C : CX E X code R_law 4 room_1) (S : scr X b L xs) (hnz : n ≤ room_1.cells ∧ z ≤ room_1.slots) (s : SX) (t : TM) (hI : Inv s t) (i : Nat) (hi : i + 5 ≤ L) (hL : L ≤ 2560) (kk : ∀ s' t', Inv s' t' → G E X n z (wL E ad s' t') [(0, .ref b), (1, .ref (ad 0)), (2, .ref (ad 70)), (3, .int (nI i))] 1385 []) : G E X n z (wL E ad s t) [(0, .ref b), (1, .ref (ad 0)), (2, .ref (ad 70)), (3, .int (nI i))] 1164 [] := by
  obtain ⟨v, w, hv, hw, e, hI2⟩ := p_keep s t (xs (ix (nI i + 1))) hI
  refine g_aload_n (pc := 1164) C dL_law_1164 1 rfl ?_
  refine g_aload_n (pc := 1165) C dL_law_1165 0 rfl ?_
  refine g_iload_n (pc := 1166) C dL_law_1166 3 rfl ?_
  refine g_iconst (pc := 1167) (v := 1) C dL_law_1167 (by decide) ?_
  refine g_iadd (pc := 1168) C dL_law_1168 ?_
  refine g_xld (pc := 1169) C S (law_in (k := 1) hi hL (by decide)) dL_law_1169 ?_
  refine g_callV (pc := 1170) (ws' := (wL E ad (s.torn, s.tape, s.rdr, s.drf, s.now, s.seen, s.tri, s.tcy, s.evg, s.adv, s.gss, (v.2.1, v.2.2.1, v.2.2.2.1, v.2.2.2.2.1, v.2.2.2.2.2.2.2.2.2.1, v.2.2.2.2.2.2.2.1, v.2.2.2.2.2.2.1, v.2.2.2.2.2.1, v.2.2.2.2.2.2.2.2.1, v.2.2.2.2.2.2.2.2.2.2.1, v.2.2.2.2.2.2.2.2.2.2.2.1, v.2.2.2.2.2.2.2.2.2.2.2.2.2.1, v.2.2.2.2.2.2.2.2.2.2.2.2.1), (v.2.2.2.2.2.2.2.2.2.2.2.2.2.2.1, v.2.2.2.2.2.2.2.2.2.2.2.2.2.2.2.1, v.2.2.2.2.2.2.2.2.2.2.2.2.2.2.2.2.1, v.2.2.2.2.2.2.2.2.2.2.2.2.2.2.2.2.2.1, v.2.2.2.2.2.2.2.2.2.2.2.2.2.2.2.2.2.2.2.2.2.2.1, v.2.2.2.2.2.2.2.2.2.2.2.2.2.2.2.2.2.2.2.2.1, v.2.2.2.2.2.2.2.2.2.2.2.2.2.2.2.2.2.2.2.1, v.2.2.2.2.2.2.2.2.2.2.2.2.2.2.2.2.2.2.1, v.2.2.2.2.2.2.2.2.2.2.2.2.2.2.2.2.2.2.2.2.2.1, v.2.2.2.2.2.2.2.2.2.2.2.2.2.2.2.2.2.2.2.2.2.2.2.1, v.2.2.2.2.2.2.2.2.2.2.2.2.2.2.2.2.2.2.2.2.2.2.2.2.1, v.2.2.2.2.2.2.2.2.2.2.2.2.2.2.2.2.2.2.2.2.2.2.2.2.2.2, v.2.2.2.2.2.2.2.2.2.2.2.2.2.2.2.2.2.2.2.2.2.2.2.2.2.1), s.sh0, s.sh1, s.sh2, s.sh3) t)) (st1 := [.int v.1]) (st := []) C mv_L_140 (k_X11_keep E (ad 0) (ad 38) (ad 40) (ad 41) (ad 45) (ad 44) (ad 43) (ad 46) (ad 42) (ad 47) (ad 48) (ad 50) (ad 49) (ad 51) (ad 52) (ad 56) (ad 55) (ad 54) (ad 57) (ad 53) (ad 58) (ad 59) (ad 61) (ad 60) (ad 10) (ad 14) (ad 13) (ad 12) (ad 15) (ad 11) (ad 16) (ad 17) (ad 19) (ad 18) (ad 1) (ad 3) (ad 20) (ad 30) (ad 31) (ad 32) (ad 39) s.torn s.im0.1 s.im0.2.1 s.im0.2.2.1 s.im0.2.2.2.1 s.im0.2.2.2.2.2.2.2.1 s.im0.2.2.2.2.2.2.1 s.im0.2.2.2.2.2.1 s.im0.2.2.2.2.2.2.2.2.1 s.im0.2.2.2.2.1 s.im0.2.2.2.2.2.2.2.2.2.1 s.im0.2.2.2.2.2.2.2.2.2.2.1 s.im0.2.2.2.2.2.2.2.2.2.2.2.2 s.im0.2.2.2.2.2.2.2.2.2.2.2.1 s.im1.1 s.im1.2.1 s.im1.2.2.1 s.im1.2.2.2.1 s.im1.2.2.2.2.2.2.2.1 s.im1.2.2.2.2.2.2.1 s.im1.2.2.2.2.2.1 s.im1.2.2.2.2.2.2.2.2.1 s.im1.2.2.2.2.1 s.im1.2.2.2.2.2.2.2.2.2.1 s.im1.2.2.2.2.2.2.2.2.2.2.1 s.im1.2.2.2.2.2.2.2.2.2.2.2.2 s.im1.2.2.2.2.2.2.2.2.2.2.2.1 s.now.1 s.now.2.1 s.now.2.2.1 s.now.2.2.2.2.2.2.1 s.now.2.2.2.2.2.1 s.now.2.2.2.2.1 s.now.2.2.2.2.2.2.2 s.now.2.2.2.1 s.seen.1 s.seen.2.1 s.seen.2.2.2 s.seen.2.2.1 (xs (ix (nI i + 1))) v hv) [0, 38, 40, 41, 45, 44, 43, 46, 42, 47, 48, 50, 49, 51, 52, 56, 55, 54, 57, 53, 58, 59, 61, 60, 10, 14, 13, 12, 15, 11, 16, 17, 19, 18] rfl (by decide +kernel) rfl [some 0, none, none, none, none, none, none, none, none, none, some 24, some 29, some 27, some 26, some 25, some 28, some 30, some 31, some 33, some 32, none, none, none, none, none, none, none, none, none, none, none, none, none, none, none, none, none, none, some 1, none, some 2, some 3, some 8, some 6, some 5, some 4, some 7, some 9, some 10, some 12, some 11, some 13, some 14, some 19, some 17, some 16, some 15, some 18, some 20, some 21, some 23, some 22, none, none, none, none, none, none, none, none, none, none, none, none, none, none, none, none, none, none, none, none, none, none] 84 (by decide +kernel) rfl rfl 0 rfl rfl ⟨by decide, by decide⟩ ⟨rfl, rfl⟩ hnz rfl rfl rfl (Nat.le_of_ble_eq_true rfl) dL_law_1170 ?_
  refine g_aload_n (pc := 1173) C dL_law_1173 2 rfl ?_
  refine g_aload_n (pc := 1174) C dL_law_1174 0 rfl ?_
  refine g_iload_n (pc := 1175) C dL_law_1175 3 rfl ?_
  refine g_iconst (pc := 1176) (v := 1) C dL_law_1176 (by decide) ?_
  refine g_iadd (pc := 1177) C dL_law_1177 ?_
  refine g_xld (pc := 1178) C S (law_in (k := 1) hi hL (by decide)) dL_law_1178 ?_
  refine g_callV (pc := 1179) (ws' := (wL E ad (s.torn, s.tape, s.rdr, s.drf, s.now, s.seen, s.tri, s.tcy, s.evg, s.adv, s.gss, (v.2.1, v.2.2.1, v.2.2.2.1, v.2.2.2.2.1, v.2.2.2.2.2.2.2.2.2.1, v.2.2.2.2.2.2.2.1, v.2.2.2.2.2.2.1, v.2.2.2.2.2.1, v.2.2.2.2.2.2.2.2.1, v.2.2.2.2.2.2.2.2.2.2.1, v.2.2.2.2.2.2.2.2.2.2.2.1, v.2.2.2.2.2.2.2.2.2.2.2.2.2.1, v.2.2.2.2.2.2.2.2.2.2.2.2.1), (v.2.2.2.2.2.2.2.2.2.2.2.2.2.2.1, v.2.2.2.2.2.2.2.2.2.2.2.2.2.2.2.1, v.2.2.2.2.2.2.2.2.2.2.2.2.2.2.2.2.1, v.2.2.2.2.2.2.2.2.2.2.2.2.2.2.2.2.2.1, v.2.2.2.2.2.2.2.2.2.2.2.2.2.2.2.2.2.2.2.2.2.2.1, v.2.2.2.2.2.2.2.2.2.2.2.2.2.2.2.2.2.2.2.2.1, v.2.2.2.2.2.2.2.2.2.2.2.2.2.2.2.2.2.2.2.1, v.2.2.2.2.2.2.2.2.2.2.2.2.2.2.2.2.2.2.1, v.2.2.2.2.2.2.2.2.2.2.2.2.2.2.2.2.2.2.2.2.2.1, v.2.2.2.2.2.2.2.2.2.2.2.2.2.2.2.2.2.2.2.2.2.2.2.1, v.2.2.2.2.2.2.2.2.2.2.2.2.2.2.2.2.2.2.2.2.2.2.2.2.1, v.2.2.2.2.2.2.2.2.2.2.2.2.2.2.2.2.2.2.2.2.2.2.2.2.2.2, v.2.2.2.2.2.2.2.2.2.2.2.2.2.2.2.2.2.2.2.2.2.2.2.2.2.1), s.sh0, s.sh1, s.sh2, s.sh3) ((w.2.2, t.now, w.2.1, t.houses, t.comers, t.draft, t.dHouses, t.dComers, t.highestHouse), t.m1, t.m2, t.m3))) (st1 := [.int w.1, .int v.1]) (st := [.int v.1]) C mv_L_143 (k_X12_keep E (ad 70) (ad 73) (ad 71) (ad 72) (ad 74) (ad 75) (ad 76) (ad 77) (ad 78) (ad 79) (ad 80) (ad 81) (ad 82) (ad 83) t.houses t.comers t.dHouses t.dComers t.highestHouse t.highestComer t.taped t.pos t.begun t.sort t.value t.fault t.wrongAt t.home t.dinners t.waited t.beginSum t.dinnerSum t.allWays t.torn t.isKept t.st (xs (ix (nI i + 1))) w hw) [70, 73, 71] rfl (by decide +kernel) rfl [none, none, none, none, none, none, none, none, none, none, none, none, none, none, none, none, none, none, none, none, none, none, none, none, none, none, none, none, none, none, none, none, none, none, none, none, none, none, none, none, none, none, none, none, none, none, none, none, none, none, none, none, none, none, none, none, none, none, none, none, none, none, none, none, none, none, none, none, none, none, some 0, some 2, none, some 1, none, none, none, none, none, none, none, none, none, none] 84 (by decide +kernel) rfl rfl 0 rfl rfl ⟨by decide, by decide⟩ ⟨rfl, rfl⟩ hnz rfl rfl rfl (Nat.le_of_ble_eq_true rfl) dL_law_1179 ?_
  exact b_icmp_eq (pc := 1182) (F1 := some ()) (F2 := (none : Option Unit)) (r := ()) 1385 C dL_law_1182 (by decide) (if_pos e) (fun _ _ => kk _ _ hI2) (fun c _ => absurd e c)
set_option maxHeartbeats 4000000 in
set_option maxRecDepth 100000 in
theorem lc_back {E : Ev} {X : Cx} {ad : Nat → Nat} {b L n z : Nat} {xs : Nat → Int32} (C : CX E X code R_law 4 room_1) (S : scr X b L xs) (hnz : n ≤ room_1.cells ∧ z ≤ room_1.slots) (s : SX) (t : TM) (hI : Inv s t) (i : Nat) (hi : i + 5 ≤ L) (hL : L ≤ 2560) (kk : ∀ s' t', Inv s' t' → G E X n z (wL E ad s' t') [(0, .ref b), (1, .ref (ad 0)), (2, .ref (ad 70)), (3, .int (nI i))] 1385 []) : G E X n z (wL E ad s t) [(0, .ref b), (1, .ref (ad 0)), (2, .ref (ad 70)), (3, .int (nI i))] 1187 [] := by
  obtain ⟨v, w, hv, hw, e, hI2⟩ := p_back s t (xs (ix (nI i + 1))) hI
  refine g_aload_n (pc := 1187) C dL_law_1187 1 rfl ?_
  refine g_aload_n (pc := 1188) C dL_law_1188 0 rfl ?_
  refine g_iload_n (pc := 1189) C dL_law_1189 3 rfl ?_
  refine g_iconst (pc := 1190) (v := 1) C dL_law_1190 (by decide) ?_
  refine g_iadd (pc := 1191) C dL_law_1191 ?_
  refine g_xld (pc := 1192) C S (law_in (k := 1) hi hL (by decide)) dL_law_1192 ?_
  refine g_callV (pc := 1193) (ws' := (wL E ad (s.torn, s.tape, s.rdr, s.drf, (v.2.1, v.2.2.1, v.2.2.2.1, v.2.2.2.2.2.2.2.2.1, v.2.2.2.2.2.2.1, v.2.2.2.2.2.1, v.2.2.2.2.1, v.2.2.2.2.2.2.2.1), (v.2.2.2.2.2.2.2.2.2.1, v.2.2.2.2.2.2.2.2.2.2.1, v.2.2.2.2.2.2.2.2.2.2.2.2, v.2.2.2.2.2.2.2.2.2.2.2.1), s.tri, s.tcy, s.evg, s.adv, s.gss, s.im0, s.im1, s.sh0, s.sh1, s.sh2, s.sh3) t)) (st1 := [.int v.1]) (st := []) C mv_L_144 (k_X11_back E (ad 0) (ad 38) (ad 40) (ad 41) (ad 45) (ad 44) (ad 43) (ad 46) (ad 42) (ad 47) (ad 48) (ad 50) (ad 49) (ad 51) (ad 52) (ad 56) (ad 55) (ad 54) (ad 57) (ad 53) (ad 58) (ad 59) (ad 61) (ad 60) (ad 10) (ad 14) (ad 13) (ad 12) (ad 15) (ad 11) (ad 16) (ad 17) (ad 19) (ad 18) (ad 1) (ad 3) (ad 20) (ad 30) (ad 31) (ad 32) (ad 39) s.torn s.im0.1 s.im0.2.1 s.im0.2.2.1 s.im0.2.2.2.1 s.im0.2.2.2.2.2.2.2.1 s.im0.2.2.2.2.2.2.1 s.im0.2.2.2.2.2.1 s.im0.2.2.2.2.2.2.2.2.1 s.im0.2.2.2.2.1 s.im0.2.2.2.2.2.2.2.2.2.1 s.im0.2.2.2.2.2.2.2.2.2.2.1 s.im0.2.2.2.2.2.2.2.2.2.2.2.2 s.im0.2.2.2.2.2.2.2.2.2.2.2.1 s.im1.1 s.im1.2.1 s.im1.2.2.1 s.im1.2.2.2.1 s.im1.2.2.2.2.2.2.2.1 s.im1.2.2.2.2.2.2.1 s.im1.2.2.2.2.2.1 s.im1.2.2.2.2.2.2.2.2.1 s.im1.2.2.2.2.1 s.im1.2.2.2.2.2.2.2.2.2.1 s.im1.2.2.2.2.2.2.2.2.2.2.1 s.im1.2.2.2.2.2.2.2.2.2.2.2.2 s.im1.2.2.2.2.2.2.2.2.2.2.2.1 s.now.1 s.now.2.1 s.now.2.2.1 s.now.2.2.2.2.2.2.1 s.now.2.2.2.2.2.1 s.now.2.2.2.2.1 s.now.2.2.2.2.2.2.2 s.now.2.2.2.1 s.seen.1 s.seen.2.1 s.seen.2.2.2 s.seen.2.2.1 (xs (ix (nI i + 1))) v hv) [0, 38, 40, 41, 45, 44, 43, 46, 42, 47, 48, 50, 49, 51, 52, 56, 55, 54, 57, 53, 58, 59, 61, 60, 10, 14, 13, 12, 15, 11, 16, 17, 19, 18] rfl (by decide +kernel) rfl [some 0, none, none, none, none, none, none, none, none, none, some 24, some 29, some 27, some 26, some 25, some 28, some 30, some 31, some 33, some 32, none, none, none, none, none, none, none, none, none, none, none, none, none, none, none, none, none, none, some 1, none, some 2, some 3, some 8, some 6, some 5, some 4, some 7, some 9, some 10, some 12, some 11, some 13, some 14, some 19, some 17, some 16, some 15, some 18, some 20, some 21, some 23, some 22, none, none, none, none, none, none, none, none, none, none, none, none, none, none, none, none, none, none, none, none, none, none] 84 (by decide +kernel) rfl rfl 0 rfl rfl ⟨by decide, by decide⟩ ⟨rfl, rfl⟩ hnz rfl rfl rfl (Nat.le_of_ble_eq_true rfl) dL_law_1193 ?_
  refine g_aload_n (pc := 1196) C dL_law_1196 2 rfl ?_
  refine g_aload_n (pc := 1197) C dL_law_1197 0 rfl ?_
  refine g_iload_n (pc := 1198) C dL_law_1198 3 rfl ?_
  refine g_iconst (pc := 1199) (v := 1) C dL_law_1199 (by decide) ?_
  refine g_iadd (pc := 1200) C dL_law_1200 ?_
  refine g_xld (pc := 1201) C S (law_in (k := 1) hi hL (by decide)) dL_law_1201 ?_
  refine g_callV (pc := 1202) (ws' := (wL E ad (s.torn, s.tape, s.rdr, s.drf, (v.2.1, v.2.2.1, v.2.2.2.1, v.2.2.2.2.2.2.2.2.1, v.2.2.2.2.2.2.1, v.2.2.2.2.2.1, v.2.2.2.2.1, v.2.2.2.2.2.2.2.1), (v.2.2.2.2.2.2.2.2.2.1, v.2.2.2.2.2.2.2.2.2.2.1, v.2.2.2.2.2.2.2.2.2.2.2.2, v.2.2.2.2.2.2.2.2.2.2.2.1), s.tri, s.tcy, s.evg, s.adv, s.gss, s.im0, s.im1, s.sh0, s.sh1, s.sh2, s.sh3) ((w.2, t.now, t.isKept, t.houses, t.comers, t.draft, t.dHouses, t.dComers, t.highestHouse), t.m1, t.m2, t.m3))) (st1 := [.int w.1, .int v.1]) (st := [.int v.1]) C mv_L_147 (k_X12_back E (ad 70) (ad 73) (ad 71) (ad 72) (ad 74) (ad 75) (ad 76) (ad 77) (ad 78) (ad 79) (ad 80) (ad 81) (ad 82) (ad 83) t.houses t.comers t.dHouses t.dComers t.highestHouse t.highestComer t.taped t.pos t.begun t.sort t.value t.fault t.wrongAt t.home t.dinners t.waited t.beginSum t.dinnerSum t.allWays t.torn t.isKept t.st (xs (ix (nI i + 1))) w hw) [70, 73, 71] rfl (by decide +kernel) rfl [none, none, none, none, none, none, none, none, none, none, none, none, none, none, none, none, none, none, none, none, none, none, none, none, none, none, none, none, none, none, none, none, none, none, none, none, none, none, none, none, none, none, none, none, none, none, none, none, none, none, none, none, none, none, none, none, none, none, none, none, none, none, none, none, none, none, none, none, none, none, some 0, some 2, none, some 1, none, none, none, none, none, none, none, none, none, none] 84 (by decide +kernel) rfl rfl 0 rfl rfl ⟨by decide, by decide⟩ ⟨rfl, rfl⟩ hnz rfl rfl rfl (Nat.le_of_ble_eq_true rfl) dL_law_1202 ?_
  exact b_icmp_eq (pc := 1205) (F1 := some ()) (F2 := (none : Option Unit)) (r := ()) 1385 C dL_law_1205 (by decide) (if_pos e) (fun _ _ => kk _ _ hI2) (fun c _ => absurd e c)
set_option maxHeartbeats 4000000 in
set_option maxRecDepth 100000 in
theorem lc_sheet {E : Ev} {X : Cx} {ad : Nat → Nat} {b L n z : Nat} {xs : Nat → Int32} (C : CX E X code R_law 4 room_1) (S : scr X b L xs) (hnz : n ≤ room_1.cells ∧ z ≤ room_1.slots) (s : SX) (t : TM) (hI : Inv s t) (i : Nat) (hi : i + 5 ≤ L) (hL : L ≤ 2560) (kk : ∀ s' t', Inv s' t' → G E X n z (wL E ad s' t') [(0, .ref b), (1, .ref (ad 0)), (2, .ref (ad 70)), (3, .int (nI i))] 1385 []) : G E X n z (wL E ad s t) [(0, .ref b), (1, .ref (ad 0)), (2, .ref (ad 70)), (3, .int (nI i))] 1210 [] := by
  obtain ⟨v, w, hv, hw, e, hI2⟩ := p_sheet s t (xs (ix (nI i + 1))) (xs (ix (nI i + 2))) (xs (ix (nI i + 3))) hI
  refine g_aload_n (pc := 1210) C dL_law_1210 1 rfl ?_
  refine g_aload_n (pc := 1211) C dL_law_1211 0 rfl ?_
  refine g_iload_n (pc := 1212) C dL_law_1212 3 rfl ?_
  refine g_iconst (pc := 1213) (v := 1) C dL_law_1213 (by decide) ?_
  refine g_iadd (pc := 1214) C dL_law_1214 ?_
  refine g_xld (pc := 1215) C S (law_in (k := 1) hi hL (by decide)) dL_law_1215 ?_
  refine g_aload_n (pc := 1216) C dL_law_1216 0 rfl ?_
  refine g_iload_n (pc := 1217) C dL_law_1217 3 rfl ?_
  refine g_iconst (pc := 1218) (v := 2) C dL_law_1218 (by decide) ?_
  refine g_iadd (pc := 1219) C dL_law_1219 ?_
  refine g_xld (pc := 1220) C S (law_in (k := 2) hi hL (by decide)) dL_law_1220 ?_
  refine g_aload_n (pc := 1221) C dL_law_1221 0 rfl ?_
  refine g_iload_n (pc := 1222) C dL_law_1222 3 rfl ?_
  refine g_iconst (pc := 1223) (v := 3) C dL_law_1223 (by decide) ?_
  refine g_iadd (pc := 1224) C dL_law_1224 ?_
  refine g_xld (pc := 1225) C S (law_in (k := 3) hi hL (by decide)) dL_law_1225 ?_
  refine g_callV (pc := 1226) (ws' := (wL E ad (s.torn, s.tape, s.rdr, s.drf, s.now, s.seen, s.tri, s.tcy, s.evg, s.adv, s.gss, s.im0, s.im1, (v.2.1, v.2.2.1, v.2.2.2.1), (v.2.2.2.2.1, v.2.2.2.2.2.1, v.2.2.2.2.2.2.1), (v.2.2.2.2.2.2.2.1, v.2.2.2.2.2.2.2.2.1, v.2.2.2.2.2.2.2.2.2.1), (v.2.2.2.2.2.2.2.2.2.2.1, v.2.2.2.2.2.2.2.2.2.2.2.1, v.2.2.2.2.2.2.2.2.2.2.2.2)) t)) (st1 := [.int v.1]) (st := []) C mv_L_148 (k_X11_sheet E (ad 0) (ad 39) (ad 62) (ad 63) (ad 64) (ad 65) (ad 66) (ad 67) (ad 68) (ad 69) (ad 1) (ad 3) (ad 10) (ad 16) (ad 20) (ad 30) (ad 31) (ad 32) (ad 38) s.torn s.sh0.1 s.sh0.2.1 s.sh0.2.2 s.sh1.1 s.sh1.2.1 s.sh1.2.2 s.sh2.1 s.sh2.2.1 s.sh2.2.2 s.sh3.1 s.sh3.2.1 s.sh3.2.2 (xs (ix (nI i + 1))) (xs (ix (nI i + 2))) (xs (ix (nI i + 3))) v hv) [0, 39, 62, 63, 64, 65, 66, 67, 68, 69] rfl (by decide +kernel) rfl [some 0, none, none, none, none, none, none, none, none, none, none, none, none, none, none, none, none, none, none, none, none, none, none, none, none, none, none, none, none, none, none, none, none, none, none, none, none, none, none, some 1, none, none, none, none, none, none, none, none, none, none, none, none, none, none, none, none, none, none, none, none, none, none, some 2, some 3, some 4, some 5, some 6, some 7, some 8, some 9, none, none, none, none, none, none, none, none, none, none, none, none, none, none] 84 (by decide +kernel) rfl rfl 0 rfl rfl ⟨by decide, by decide⟩ ⟨rfl, rfl⟩ hnz rfl rfl rfl (Nat.le_of_ble_eq_true rfl) dL_law_1226 ?_
  refine g_aload_n (pc := 1229) C dL_law_1229 2 rfl ?_
  refine g_aload_n (pc := 1230) C dL_law_1230 0 rfl ?_
  refine g_iload_n (pc := 1231) C dL_law_1231 3 rfl ?_
  refine g_iconst (pc := 1232) (v := 1) C dL_law_1232 (by decide) ?_
  refine g_iadd (pc := 1233) C dL_law_1233 ?_
  refine g_xld (pc := 1234) C S (law_in (k := 1) hi hL (by decide)) dL_law_1234 ?_
  refine g_aload_n (pc := 1235) C dL_law_1235 0 rfl ?_
  refine g_iload_n (pc := 1236) C dL_law_1236 3 rfl ?_
  refine g_iconst (pc := 1237) (v := 2) C dL_law_1237 (by decide) ?_
  refine g_iadd (pc := 1238) C dL_law_1238 ?_
  refine g_xld (pc := 1239) C S (law_in (k := 2) hi hL (by decide)) dL_law_1239 ?_
  refine g_aload_n (pc := 1240) C dL_law_1240 0 rfl ?_
  refine g_iload_n (pc := 1241) C dL_law_1241 3 rfl ?_
  refine g_iconst (pc := 1242) (v := 3) C dL_law_1242 (by decide) ?_
  refine g_iadd (pc := 1243) C dL_law_1243 ?_
  refine g_xld (pc := 1244) C S (law_in (k := 3) hi hL (by decide)) dL_law_1244 ?_
  refine g_callV (pc := 1245) (ws' := (wL E ad (s.torn, s.tape, s.rdr, s.drf, s.now, s.seen, s.tri, s.tcy, s.evg, s.adv, s.gss, s.im0, s.im1, (v.2.1, v.2.2.1, v.2.2.2.1), (v.2.2.2.2.1, v.2.2.2.2.2.1, v.2.2.2.2.2.2.1), (v.2.2.2.2.2.2.2.1, v.2.2.2.2.2.2.2.2.1, v.2.2.2.2.2.2.2.2.2.1), (v.2.2.2.2.2.2.2.2.2.2.1, v.2.2.2.2.2.2.2.2.2.2.2.1, v.2.2.2.2.2.2.2.2.2.2.2.2)) (t.m0, t.m1, t.m2, (t.byKind, w.2.2.1, w.2.2.2, w.2.1, t.torn, t.before)))) (st1 := [.int w.1, .int v.1]) (st := [.int v.1]) C mv_L_151 (k_X12_sheet E (ad 70) (ad 82) (ad 80) (ad 81) (ad 71) (ad 72) (ad 73) (ad 74) (ad 75) (ad 76) (ad 77) (ad 78) (ad 79) (ad 83) t.houses t.comers t.dHouses t.dComers t.highestHouse t.highestComer t.taped t.pos t.begun t.sort t.value t.fault t.wrongAt t.home t.dinners t.waited t.beginSum t.dinnerSum t.allWays t.torn t.cells t.lanes t.sizes (xs (ix (nI i + 1))) (xs (ix (nI i + 2))) (xs (ix (nI i + 3))) w hw) [70, 82, 80, 81] rfl (by decide +kernel) rfl [none, none, none, none, none, none, none, none, none, none, none, none, none, none, none, none, none, none, none, none, none, none, none, none, none, none, none, none, none, none, none, none, none, none, none, none, none, none, none, none, none, none, none, none, none, none, none, none, none, none, none, none, none, none, none, none, none, none, none, none, none, none, none, none, none, none, none, none, none, none, some 0, none, none, none, none, none, none, none, none, none, some 2, some 3, some 1, none] 84 (by decide +kernel) rfl rfl 0 rfl rfl ⟨by decide, by decide⟩ ⟨rfl, rfl⟩ hnz rfl rfl rfl (Nat.le_of_ble_eq_true rfl) dL_law_1245 ?_
  exact b_icmp_eq (pc := 1248) (F1 := some ()) (F2 := (none : Option Unit)) (r := ()) 1385 C dL_law_1248 (by decide) (if_pos e) (fun _ _ => kk _ _ hI2) (fun c _ => absurd e c)
set_option maxHeartbeats 4000000 in
set_option maxRecDepth 100000 in
theorem lc_lay {E : Ev} {X : Cx} {ad : Nat → Nat} {b L n z : Nat} {xs : Nat → Int32} (C : CX E X code R_law 4 room_1) (S : scr X b L xs) (hnz : n ≤ room_1.cells ∧ z ≤ room_1.slots) (s : SX) (t : TM) (hI : Inv s t) (i : Nat) (hi : i + 5 ≤ L) (hL : L ≤ 2560) (kk : ∀ s' t', Inv s' t' → G E X n z (wL E ad s' t') [(0, .ref b), (1, .ref (ad 0)), (2, .ref (ad 70)), (3, .int (nI i))] 1385 []) : G E X n z (wL E ad s t) [(0, .ref b), (1, .ref (ad 0)), (2, .ref (ad 70)), (3, .int (nI i))] 1253 [] := by
  obtain ⟨v, w, hv, hw, e, hI2⟩ := p_lay s t (xs (ix (nI i + 1))) (xs (ix (nI i + 2))) (xs (ix (nI i + 3))) hI
  refine g_aload_n (pc := 1253) C dL_law_1253 1 rfl ?_
  refine g_aload_n (pc := 1254) C dL_law_1254 0 rfl ?_
  refine g_iload_n (pc := 1255) C dL_law_1255 3 rfl ?_
  refine g_iconst (pc := 1256) (v := 1) C dL_law_1256 (by decide) ?_
  refine g_iadd (pc := 1257) C dL_law_1257 ?_
  refine g_xld (pc := 1258) C S (law_in (k := 1) hi hL (by decide)) dL_law_1258 ?_
  refine g_aload_n (pc := 1259) C dL_law_1259 0 rfl ?_
  refine g_iload_n (pc := 1260) C dL_law_1260 3 rfl ?_
  refine g_iconst (pc := 1261) (v := 2) C dL_law_1261 (by decide) ?_
  refine g_iadd (pc := 1262) C dL_law_1262 ?_
  refine g_xld (pc := 1263) C S (law_in (k := 2) hi hL (by decide)) dL_law_1263 ?_
  refine g_aload_n (pc := 1264) C dL_law_1264 0 rfl ?_
  refine g_iload_n (pc := 1265) C dL_law_1265 3 rfl ?_
  refine g_iconst (pc := 1266) (v := 3) C dL_law_1266 (by decide) ?_
  refine g_iadd (pc := 1267) C dL_law_1267 ?_
  refine g_xld (pc := 1268) C S (law_in (k := 3) hi hL (by decide)) dL_law_1268 ?_
  refine g_callV (pc := 1269) (ws' := (wL E ad (s.torn, s.tape, s.rdr, s.drf, s.now, s.seen, s.tri, s.tcy, s.evg, s.adv, s.gss, s.im0, s.im1, (s.sh0.1, s.sh0.2.1, v.2.1), (s.sh1.1, s.sh1.2.1, v.2.2.1), (s.sh2.1, s.sh2.2.1, v.2.2.2.1), (s.sh3.1, s.sh3.2.1, v.2.2.2.2)) t)) (st1 := [.int v.1]) (st := []) C mv_L_152 (k_X11_lay E (ad 0) (ad 39) (ad 62) (ad 63) (ad 64) (ad 65) (ad 66) (ad 67) (ad 68) (ad 69) (ad 1) (ad 3) (ad 10) (ad 16) (ad 20) (ad 30) (ad 31) (ad 32) (ad 38) s.torn s.sh0.1 s.sh0.2.1 s.sh0.2.2 s.sh1.1 s.sh1.2.1 s.sh1.2.2 s.sh2.1 s.sh2.2.1 s.sh2.2.2 s.sh3.1 s.sh3.2.1 s.sh3.2.2 (xs (ix (nI i + 1))) (xs (ix (nI i + 2))) (xs (ix (nI i + 3))) v hv) [0, 39, 62, 63, 64, 65, 66, 67, 68, 69] rfl (by decide +kernel) rfl [some 0, none, none, none, none, none, none, none, none, none, none, none, none, none, none, none, none, none, none, none, none, none, none, none, none, none, none, none, none, none, none, none, none, none, none, none, none, none, none, some 1, none, none, none, none, none, none, none, none, none, none, none, none, none, none, none, none, none, none, none, none, none, none, some 2, some 3, some 4, some 5, some 6, some 7, some 8, some 9, none, none, none, none, none, none, none, none, none, none, none, none, none, none] 84 (by decide +kernel) rfl rfl 0 rfl rfl ⟨by decide, by decide⟩ ⟨rfl, rfl⟩ hnz rfl rfl rfl (Nat.le_of_ble_eq_true rfl) dL_law_1269 ?_
  refine g_aload_n (pc := 1272) C dL_law_1272 2 rfl ?_
  refine g_aload_n (pc := 1273) C dL_law_1273 0 rfl ?_
  refine g_iload_n (pc := 1274) C dL_law_1274 3 rfl ?_
  refine g_iconst (pc := 1275) (v := 1) C dL_law_1275 (by decide) ?_
  refine g_iadd (pc := 1276) C dL_law_1276 ?_
  refine g_xld (pc := 1277) C S (law_in (k := 1) hi hL (by decide)) dL_law_1277 ?_
  refine g_aload_n (pc := 1278) C dL_law_1278 0 rfl ?_
  refine g_iload_n (pc := 1279) C dL_law_1279 3 rfl ?_
  refine g_iconst (pc := 1280) (v := 2) C dL_law_1280 (by decide) ?_
  refine g_iadd (pc := 1281) C dL_law_1281 ?_
  refine g_xld (pc := 1282) C S (law_in (k := 2) hi hL (by decide)) dL_law_1282 ?_
  refine g_aload_n (pc := 1283) C dL_law_1283 0 rfl ?_
  refine g_iload_n (pc := 1284) C dL_law_1284 3 rfl ?_
  refine g_iconst (pc := 1285) (v := 3) C dL_law_1285 (by decide) ?_
  refine g_iadd (pc := 1286) C dL_law_1286 ?_
  refine g_xld (pc := 1287) C S (law_in (k := 3) hi hL (by decide)) dL_law_1287 ?_
  refine g_callV (pc := 1288) (ws' := (wL E ad (s.torn, s.tape, s.rdr, s.drf, s.now, s.seen, s.tri, s.tcy, s.evg, s.adv, s.gss, s.im0, s.im1, (s.sh0.1, s.sh0.2.1, v.2.1), (s.sh1.1, s.sh1.2.1, v.2.2.1), (s.sh2.1, s.sh2.2.1, v.2.2.2.1), (s.sh3.1, s.sh3.2.1, v.2.2.2.2)) (t.m0, t.m1, t.m2, (t.byKind, t.lanes, t.sizes, w.2, t.torn, t.before)))) (st1 := [.int w.1, .int v.1]) (st := [.int v.1]) C mv_L_155 (k_X12_lay E (ad 70) (ad 82) (ad 80) (ad 81) (ad 71) (ad 72) (ad 73) (ad 74) (ad 75) (ad 76) (ad 77) (ad 78) (ad 79) (ad 83) t.houses t.comers t.dHouses t.dComers t.highestHouse t.highestComer t.taped t.pos t.begun t.sort t.value t.fault t.wrongAt t.home t.dinners t.waited t.beginSum t.dinnerSum t.allWays t.torn t.cells t.lanes t.sizes (xs (ix (nI i + 1))) (xs (ix (nI i + 2))) (xs (ix (nI i + 3))) w hw) [70, 82, 80, 81] rfl (by decide +kernel) rfl [none, none, none, none, none, none, none, none, none, none, none, none, none, none, none, none, none, none, none, none, none, none, none, none, none, none, none, none, none, none, none, none, none, none, none, none, none, none, none, none, none, none, none, none, none, none, none, none, none, none, none, none, none, none, none, none, none, none, none, none, none, none, none, none, none, none, none, none, none, none, some 0, none, none, none, none, none, none, none, none, none, some 2, some 3, some 1, none] 84 (by decide +kernel) rfl rfl 0 rfl rfl ⟨by decide, by decide⟩ ⟨rfl, rfl⟩ hnz rfl rfl rfl (Nat.le_of_ble_eq_true rfl) dL_law_1288 ?_
  exact b_icmp_eq (pc := 1291) (F1 := some ()) (F2 := (none : Option Unit)) (r := ()) 1385 C dL_law_1291 (by decide) (if_pos e) (fun _ _ => kk _ _ hI2) (fun c _ => absurd e c)
set_option maxHeartbeats 4000000 in
set_option maxRecDepth 100000 in
theorem lc_read {E : Ev} {X : Cx} {ad : Nat → Nat} {b L n z : Nat} {xs : Nat → Int32} (C : CX E X code R_law 4 room_1) (S : scr X b L xs) (hnz : n ≤ room_1.cells ∧ z ≤ room_1.slots) (s : SX) (t : TM) (hI : Inv s t) (i : Nat) (hi : i + 5 ≤ L) (hL : L ≤ 2560) (kk : ∀ s' t', Inv s' t' → G E X n z (wL E ad s' t') [(0, .ref b), (1, .ref (ad 0)), (2, .ref (ad 70)), (3, .int (nI i))] 1385 []) : G E X n z (wL E ad s t) [(0, .ref b), (1, .ref (ad 0)), (2, .ref (ad 70)), (3, .int (nI i))] 1296 [] := by
  obtain ⟨v, w, hv, hw, e, hI2⟩ := p_read s t (xs (ix (nI i + 1))) (xs (ix (nI i + 2))) (xs (ix (nI i + 3))) (xs (ix (nI i + 4))) hI
  refine g_aload_n (pc := 1296) C dL_law_1296 1 rfl ?_
  refine g_aload_n (pc := 1297) C dL_law_1297 0 rfl ?_
  refine g_iload_n (pc := 1298) C dL_law_1298 3 rfl ?_
  refine g_iconst (pc := 1299) (v := 1) C dL_law_1299 (by decide) ?_
  refine g_iadd (pc := 1300) C dL_law_1300 ?_
  refine g_xld (pc := 1301) C S (law_in (k := 1) hi hL (by decide)) dL_law_1301 ?_
  refine g_aload_n (pc := 1302) C dL_law_1302 0 rfl ?_
  refine g_iload_n (pc := 1303) C dL_law_1303 3 rfl ?_
  refine g_iconst (pc := 1304) (v := 2) C dL_law_1304 (by decide) ?_
  refine g_iadd (pc := 1305) C dL_law_1305 ?_
  refine g_xld (pc := 1306) C S (law_in (k := 2) hi hL (by decide)) dL_law_1306 ?_
  refine g_aload_n (pc := 1307) C dL_law_1307 0 rfl ?_
  refine g_iload_n (pc := 1308) C dL_law_1308 3 rfl ?_
  refine g_iconst (pc := 1309) (v := 3) C dL_law_1309 (by decide) ?_
  refine g_iadd (pc := 1310) C dL_law_1310 ?_
  refine g_xld (pc := 1311) C S (law_in (k := 3) hi hL (by decide)) dL_law_1311 ?_
  refine g_aload_n (pc := 1312) C dL_law_1312 0 rfl ?_
  refine g_iload_n (pc := 1313) C dL_law_1313 3 rfl ?_
  refine g_iconst (pc := 1314) (v := 4) C dL_law_1314 (by decide) ?_
  refine g_iadd (pc := 1315) C dL_law_1315 ?_
  refine g_xld (pc := 1316) C S (law_in (k := 4) hi hL (by decide)) dL_law_1316 ?_
  refine g_callV (pc := 1317) (ws' := (wL E ad (v.2.1, s.tape, s.rdr, s.drf, (v.2.2.1, v.2.2.2.1, v.2.2.2.2.1, v.2.2.2.2.2.2.2.2.2.1, v.2.2.2.2.2.2.2.1, v.2.2.2.2.2.2.1, v.2.2.2.2.2.1, v.2.2.2.2.2.2.2.2.1), s.seen, (v.2.2.2.2.2.2.2.2.2.2.1, v.2.2.2.2.2.2.2.2.2.2.2.1, v.2.2.2.2.2.2.2.2.2.2.2.2.1), (v.2.2.2.2.2.2.2.2.2.2.2.2.2.1, v.2.2.2.2.2.2.2.2.2.2.2.2.2.2.1, v.2.2.2.2.2.2.2.2.2.2.2.2.2.2.2.1, v.2.2.2.2.2.2.2.2.2.2.2.2.2.2.2.2.2.2.2.2, v.2.2.2.2.2.2.2.2.2.2.2.2.2.2.2.2.2.2.1, v.2.2.2.2.2.2.2.2.2.2.2.2.2.2.2.2.2.1, v.2.2.2.2.2.2.2.2.2.2.2.2.2.2.2.2.1, v.2.2.2.2.2.2.2.2.2.2.2.2.2.2.2.2.2.2.2.1), s.evg, s.adv, s.gss, s.im0, s.im1, s.sh0, s.sh1, s.sh2, s.sh3) t)) (st1 := [.int v.1]) (st := []) C mv_L_156 (k_X11_read E (ad 0) (ad 10) (ad 14) (ad 13) (ad 12) (ad 15) (ad 11) (ad 39) (ad 62) (ad 63) (ad 64) (ad 65) (ad 66) (ad 67) (ad 68) (ad 69) (ad 20) (ad 21) (ad 25) (ad 24) (ad 23) (ad 26) (ad 22) (ad 1) (ad 3) (ad 16) (ad 30) (ad 31) (ad 32) (ad 38) (ad 27) s.torn s.now.1 s.now.2.1 s.now.2.2.1 s.now.2.2.2.2.2.2.1 s.now.2.2.2.2.2.1 s.now.2.2.2.2.1 s.now.2.2.2.2.2.2.2 s.now.2.2.2.1 s.sh0.1 s.sh0.2.1 s.sh0.2.2 s.sh1.1 s.sh1.2.1 s.sh1.2.2 s.sh2.1 s.sh2.2.1 s.sh2.2.2 s.sh3.1 s.sh3.2.1 s.sh3.2.2 s.tri.1 s.tri.2.1 s.tri.2.2 s.tcy.1 s.tcy.2.1 s.tcy.2.2.1 s.tcy.2.2.2.2.2.2.1 s.tcy.2.2.2.2.2.1 s.tcy.2.2.2.2.1 s.tcy.2.2.2.2.2.2.2 s.tcy.2.2.2.1 (xs (ix (nI i + 1))) (xs (ix (nI i + 2))) (xs (ix (nI i + 3))) (xs (ix (nI i + 4))) v hv) [0, 10, 14, 13, 12, 15, 11, 39, 62, 63, 64, 65, 66, 67, 68, 69, 20, 21, 25, 24, 23, 26, 22] rfl (by decide +kernel) rfl [some 0, none, none, none, none, none, none, none, none, none, some 1, some 6, some 4, some 3, some 2, some 5, none, none, none, none, some 16, some 17, some 22, some 20, some 19, some 18, some 21, none, none, none, none, none, none, none, none, none, none, none, none, some 7, none, none, none, none, none, none, none, none, none, none, none, none, none, none, none, none, none, none, none, none, none, none, some 8, some 9, some 10, some 11, some 12, some 13, some 14, some 15, none, none, none, none, none, none, none, none, none, none, none, none, none, none] 84 (by decide +kernel) rfl rfl 0 rfl rfl ⟨by decide, by decide⟩ ⟨rfl, rfl⟩ hnz rfl rfl rfl (Nat.le_of_ble_eq_true rfl) dL_law_1317 ?_
  refine g_aload_n (pc := 1320) C dL_law_1320 2 rfl ?_
  refine g_aload_n (pc := 1321) C dL_law_1321 0 rfl ?_
  refine g_iload_n (pc := 1322) C dL_law_1322 3 rfl ?_
  refine g_iconst (pc := 1323) (v := 1) C dL_law_1323 (by decide) ?_
  refine g_iadd (pc := 1324) C dL_law_1324 ?_
  refine g_xld (pc := 1325) C S (law_in (k := 1) hi hL (by decide)) dL_law_1325 ?_
  refine g_aload_n (pc := 1326) C dL_law_1326 0 rfl ?_
  refine g_iload_n (pc := 1327) C dL_law_1327 3 rfl ?_
  refine g_iconst (pc := 1328) (v := 2) C dL_law_1328 (by decide) ?_
  refine g_iadd (pc := 1329) C dL_law_1329 ?_
  refine g_xld (pc := 1330) C S (law_in (k := 2) hi hL (by decide)) dL_law_1330 ?_
  refine g_aload_n (pc := 1331) C dL_law_1331 0 rfl ?_
  refine g_iload_n (pc := 1332) C dL_law_1332 3 rfl ?_
  refine g_iconst (pc := 1333) (v := 3) C dL_law_1333 (by decide) ?_
  refine g_iadd (pc := 1334) C dL_law_1334 ?_
  refine g_xld (pc := 1335) C S (law_in (k := 3) hi hL (by decide)) dL_law_1335 ?_
  refine g_aload_n (pc := 1336) C dL_law_1336 0 rfl ?_
  refine g_iload_n (pc := 1337) C dL_law_1337 3 rfl ?_
  refine g_iconst (pc := 1338) (v := 4) C dL_law_1338 (by decide) ?_
  refine g_iadd (pc := 1339) C dL_law_1339 ?_
  refine g_xld (pc := 1340) C S (law_in (k := 4) hi hL (by decide)) dL_law_1340 ?_
  refine g_callV (pc := 1341) (ws' := (wL E ad (v.2.1, s.tape, s.rdr, s.drf, (v.2.2.1, v.2.2.2.1, v.2.2.2.2.1, v.2.2.2.2.2.2.2.2.2.1, v.2.2.2.2.2.2.2.1, v.2.2.2.2.2.2.1, v.2.2.2.2.2.1, v.2.2.2.2.2.2.2.2.1), s.seen, (v.2.2.2.2.2.2.2.2.2.2.1, v.2.2.2.2.2.2.2.2.2.2.2.1, v.2.2.2.2.2.2.2.2.2.2.2.2.1), (v.2.2.2.2.2.2.2.2.2.2.2.2.2.1, v.2.2.2.2.2.2.2.2.2.2.2.2.2.2.1, v.2.2.2.2.2.2.2.2.2.2.2.2.2.2.2.1, v.2.2.2.2.2.2.2.2.2.2.2.2.2.2.2.2.2.2.2.2, v.2.2.2.2.2.2.2.2.2.2.2.2.2.2.2.2.2.2.1, v.2.2.2.2.2.2.2.2.2.2.2.2.2.2.2.2.2.1, v.2.2.2.2.2.2.2.2.2.2.2.2.2.2.2.2.1, v.2.2.2.2.2.2.2.2.2.2.2.2.2.2.2.2.2.2.2.1), s.evg, s.adv, s.gss, s.im0, s.im1, s.sh0, s.sh1, s.sh2, s.sh3) ((w.2.2.2, t.now, t.isKept, t.houses, t.comers, t.draft, t.dHouses, t.dComers, t.highestHouse), t.m1, t.m2, (t.byKind, t.lanes, t.sizes, t.cells, w.2.1, w.2.2.1)))) (st1 := [.int w.1, .int v.1]) (st := [.int v.1]) C mv_L_160 (k_X12_read E (ad 70) (ad 83) (ad 82) (ad 80) (ad 81) (ad 71) (ad 72) (ad 73) (ad 74) (ad 75) (ad 76) (ad 77) (ad 78) (ad 79) t.houses t.comers t.dHouses t.dComers t.highestHouse t.highestComer t.taped t.pos t.begun t.sort t.value t.fault t.wrongAt t.home t.dinners t.waited t.beginSum t.dinnerSum t.allWays t.torn t.before t.cells t.lanes t.sizes t.st (xs (ix (nI i + 1))) (xs (ix (nI i + 2))) (xs (ix (nI i + 3))) (xs (ix (nI i + 4))) w hw) [70, 83, 82, 80, 81, 71] rfl (by decide +kernel) rfl [none, none, none, none, none, none, none, none, none, none, none, none, none, none, none, none, none, none, none, none, none, none, none, none, none, none, none, none, none, none, none, none, none, none, none, none, none, none, none, none, none, none, none, none, none, none, none, none, none, none, none, none, none, none, none, none, none, none, none, none, none, none, none, none, none, none, none, none, none, none, some 0, some 5, none, none, none, none, none, none, none, none, some 3, some 4, some 2, some 1] 84 (by decide +kernel) rfl rfl 0 rfl rfl ⟨by decide, by decide⟩ ⟨rfl, rfl⟩ hnz rfl rfl rfl (Nat.le_of_ble_eq_true rfl) dL_law_1341 ?_
  exact b_icmp_eq (pc := 1344) (F1 := some ()) (F2 := (none : Option Unit)) (r := ()) 1385 C dL_law_1344 (by decide) (if_pos e) (fun _ _ => kk _ _ hI2) (fun c _ => absurd e c)
set_option maxHeartbeats 4000000 in
set_option maxRecDepth 100000 in
theorem lc_torn {E : Ev} {X : Cx} {ad : Nat → Nat} {b L n z : Nat} {xs : Nat → Int32} (C : CX E X code R_law 4 room_1) (S : scr X b L xs) (hnz : n ≤ room_1.cells ∧ z ≤ room_1.slots) (s : SX) (t : TM) (hI : Inv s t) (i : Nat) (hi : i + 5 ≤ L) (hL : L ≤ 2560) (kk : ∀ s' t', Inv s' t' → G E X n z (wL E ad s' t') [(0, .ref b), (1, .ref (ad 0)), (2, .ref (ad 70)), (3, .int (nI i))] 1385 []) : G E X n z (wL E ad s t) [(0, .ref b), (1, .ref (ad 0)), (2, .ref (ad 70)), (3, .int (nI i))] 1349 [] := by
  obtain ⟨v, w, hv, hw, e, hI2⟩ := p_torn s t  hI
  refine g_aload_n (pc := 1349) C dL_law_1349 1 rfl ?_
  refine g_callV (pc := 1350) (ws' := (wL E ad (s.torn, s.tape, s.rdr, s.drf, s.now, s.seen, s.tri, s.tcy, s.evg, s.adv, s.gss, s.im0, s.im1, s.sh0, s.sh1, s.sh2, s.sh3) t)) (st1 := [.int v]) (st := []) C mv_L_161 (k_X11_torn E (ad 0) (ad 1) (ad 3) (ad 10) (ad 16) (ad 20) (ad 30) (ad 31) (ad 32) (ad 38) (ad 39) s.torn v hv) [0] rfl (by decide +kernel) rfl [some 0, none, none, none, none, none, none, none, none, none, none, none, none, none, none, none, none, none, none, none, none, none, none, none, none, none, none, none, none, none, none, none, none, none, none, none, none, none, none, none, none, none, none, none, none, none, none, none, none, none, none, none, none, none, none, none, none, none, none, none, none, none, none, none, none, none, none, none, none, none, none, none, none, none, none, none, none, none, none, none, none, none, none, none] 84 (by decide +kernel) rfl rfl 0 rfl rfl ⟨by decide, by decide⟩ ⟨rfl, rfl⟩ hnz rfl rfl rfl (Nat.le_of_ble_eq_true rfl) dL_law_1350 ?_
  refine g_aload_n (pc := 1353) C dL_law_1353 2 rfl ?_
  refine g_callV (pc := 1354) (ws' := (wL E ad (s.torn, s.tape, s.rdr, s.drf, s.now, s.seen, s.tri, s.tcy, s.evg, s.adv, s.gss, s.im0, s.im1, s.sh0, s.sh1, s.sh2, s.sh3) (t.m0, t.m1, t.m2, t.m3))) (st1 := [.int w, .int v]) (st := [.int v]) C mv_L_164 (k_X12_torn E (ad 70) (ad 71) (ad 72) (ad 73) (ad 74) (ad 75) (ad 76) (ad 77) (ad 78) (ad 79) (ad 80) (ad 81) (ad 82) (ad 83) t.houses t.comers t.dHouses t.dComers t.highestHouse t.highestComer t.taped t.pos t.begun t.sort t.value t.fault t.wrongAt t.home t.dinners t.waited t.beginSum t.dinnerSum t.allWays t.torn w hw) [70] rfl (by decide +kernel) rfl [none, none, none, none, none, none, none, none, none, none, none, none, none, none, none, none, none, none, none, none, none, none, none, none, none, none, none, none, none, none, none, none, none, none, none, none, none, none, none, none, none, none, none, none, none, none, none, none, none, none, none, none, none, none, none, none, none, none, none, none, none, none, none, none, none, none, none, none, none, none, some 0, none, none, none, none, none, none, none, none, none, none, none, none, none] 84 (by decide +kernel) rfl rfl 0 rfl rfl ⟨by decide, by decide⟩ ⟨rfl, rfl⟩ hnz rfl rfl rfl (Nat.le_of_ble_eq_true rfl) dL_law_1354 ?_
  exact b_icmp_eq (pc := 1357) (F1 := some ()) (F2 := (none : Option Unit)) (r := ()) 1385 C dL_law_1357 (by decide) (if_pos e) (fun _ _ => kk _ _ hI2) (fun c _ => absurd e c)
set_option maxHeartbeats 4000000 in
set_option maxRecDepth 100000 in
theorem lc_count {E : Ev} {X : Cx} {ad : Nat → Nat} {b L n z : Nat} {xs : Nat → Int32} (C : CX E X code R_law 4 room_1) (S : scr X b L xs) (hnz : n ≤ room_1.cells ∧ z ≤ room_1.slots) (s : SX) (t : TM) (hI : Inv s t) (i : Nat) (hi : i + 5 ≤ L) (hL : L ≤ 2560) (kk : ∀ s' t', Inv s' t' → G E X n z (wL E ad s' t') [(0, .ref b), (1, .ref (ad 0)), (2, .ref (ad 70)), (3, .int (nI i))] 1385 []) : G E X n z (wL E ad s t) [(0, .ref b), (1, .ref (ad 0)), (2, .ref (ad 70)), (3, .int (nI i))] 1362 [] := by
  obtain ⟨v, w, hv, hw, e, hI2⟩ := p_count s t (xs (ix (nI i + 1))) hI
  refine g_aload_n (pc := 1362) C dL_law_1362 1 rfl ?_
  refine g_aload_n (pc := 1363) C dL_law_1363 0 rfl ?_
  refine g_iload_n (pc := 1364) C dL_law_1364 3 rfl ?_
  refine g_iconst (pc := 1365) (v := 1) C dL_law_1365 (by decide) ?_
  refine g_iadd (pc := 1366) C dL_law_1366 ?_
  refine g_xld (pc := 1367) C S (law_in (k := 1) hi hL (by decide)) dL_law_1367 ?_
  refine g_callV (pc := 1368) (ws' := (wL E ad (s.torn, s.tape, s.rdr, s.drf, s.now, s.seen, s.tri, s.tcy, s.evg, s.adv, s.gss, s.im0, s.im1, s.sh0, s.sh1, s.sh2, s.sh3) t)) (st1 := [.int v]) (st := []) C mv_L_165 (k_X11_count E (ad 0) (ad 38) (ad 40) (ad 51) (ad 10) (ad 13) (ad 15) (ad 16) (ad 39) (ad 62) (ad 64) (ad 66) (ad 68) (ad 1) (ad 3) (ad 20) (ad 30) (ad 31) (ad 32) (ad 41) (ad 47) (ad 52) (ad 58) (ad 11) (ad 12) (ad 14) (ad 17) (ad 18) (ad 19) (ad 63) (ad 65) (ad 67) (ad 69) (ad 2) s.torn s.im0.1 s.im1.1 s.now.1 s.now.2.1 s.now.2.2.1 s.now.2.2.2.2.2.1 s.now.2.2.2.2.2.2.2 s.seen.1 s.sh0.1 s.sh0.2.1 s.sh1.1 s.sh1.2.1 s.sh2.1 s.sh2.2.1 s.sh3.1 s.sh3.2.1 s.tape.1 (xs (ix (nI i + 1))) v hv) [0, 38, 40, 51, 10, 13, 15, 16, 39, 62, 64, 66, 68, 1] rfl (by decide +kernel) rfl [some 0, some 13, none, none, none, none, none, none, none, none, some 4, none, none, some 5, none, some 6, some 7, none, none, none, none, none, none, none, none, none, none, none, none, none, none, none, none, none, none, none, none, none, some 1, some 8, some 2, none, none, none, none, none, none, none, none, none, none, some 3, none, none, none, none, none, none, none, none, none, none, some 9, none, some 10, none, some 11, none, some 12, none, none, none, none, none, none, none, none, none, none, none, none, none, none, none] 84 (by decide +kernel) rfl rfl 0 rfl rfl ⟨by decide, by decide⟩ ⟨rfl, rfl⟩ hnz rfl rfl rfl (Nat.le_of_ble_eq_true rfl) dL_law_1368 ?_
  refine g_aload_n (pc := 1371) C dL_law_1371 2 rfl ?_
  refine g_aload_n (pc := 1372) C dL_law_1372 0 rfl ?_
  refine g_iload_n (pc := 1373) C dL_law_1373 3 rfl ?_
  refine g_iconst (pc := 1374) (v := 1) C dL_law_1374 (by decide) ?_
  refine g_iadd (pc := 1375) C dL_law_1375 ?_
  refine g_xld (pc := 1376) C S (law_in (k := 1) hi hL (by decide)) dL_law_1376 ?_
  refine g_callV (pc := 1377) (ws' := (wL E ad (s.torn, s.tape, s.rdr, s.drf, s.now, s.seen, s.tri, s.tcy, s.evg, s.adv, s.gss, s.im0, s.im1, s.sh0, s.sh1, s.sh2, s.sh3) ((t.st, w.2.2, t.isKept, t.houses, t.comers, t.draft, t.dHouses, t.dComers, t.highestHouse), t.m1, (w.2.1, t.began, t.begunBy, t.dinners, t.waited, t.beginSum, t.dinnerSum, t.allWays, t.hours), t.m3))) (st1 := [.int w.1, .int v]) (st := [.int v]) C mv_L_168 (k_X12_count E (ad 70) (ad 73) (ad 80) (ad 72) (ad 81) (ad 71) (ad 74) (ad 75) (ad 76) (ad 77) (ad 78) (ad 79) (ad 82) (ad 83) t.houses t.comers t.dHouses t.dComers t.highestHouse t.highestComer t.taped t.pos t.begun t.sort t.value t.fault t.wrongAt t.home t.dinners t.waited t.beginSum t.dinnerSum t.allWays t.torn t.isKept t.lanes t.now t.sizes t.st (xs (ix (nI i + 1))) w hw) [70, 73, 80, 72, 81, 71] rfl (by decide +kernel) rfl [none, none, none, none, none, none, none, none, none, none, none, none, none, none, none, none, none, none, none, none, none, none, none, none, none, none, none, none, none, none, none, none, none, none, none, none, none, none, none, none, none, none, none, none, none, none, none, none, none, none, none, none, none, none, none, none, none, none, none, none, none, none, none, none, none, none, none, none, none, none, some 0, some 5, some 3, some 1, none, none, none, none, none, none, some 2, some 4, none, none] 84 (by decide +kernel) rfl rfl 0 rfl rfl ⟨by decide, by decide⟩ ⟨rfl, rfl⟩ hnz rfl rfl rfl (Nat.le_of_ble_eq_true rfl) dL_law_1377 ?_
  exact b_icmp_eq (pc := 1380) (F1 := some ()) (F2 := (none : Option Unit)) (r := ()) 1385 C dL_law_1380 (by decide) (if_pos e) (fun _ _ => kk _ _ hI2) (fun c _ => absurd e c)
