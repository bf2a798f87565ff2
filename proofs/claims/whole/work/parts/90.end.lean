theorem tm1 {w : Cond} (i : Nat) (h : tables_1_1[i]? = some w) : w ∈ lw_tbl := List.mem_append_right _ (List.mem_append_left _ (List.mem_of_getElem? h))
theorem tm2 {w : Cond} (i : Nat) (h : tables_1_2[i]? = some w) : w ∈ lw_tbl := List.mem_append_right _ (List.mem_append_right _ (List.mem_append_left _ (List.mem_of_getElem? h)))
theorem tm3 {w : Cond} (i : Nat) (h : tables_1_3[i]? = some w) : w ∈ lw_tbl := List.mem_append_right _ (List.mem_append_right _ (List.mem_append_right _ (List.mem_append_left _ (List.mem_of_getElem? h))))
theorem tm4 {w : Cond} (i : Nat) (h : tables_1_4[i]? = some w) : w ∈ lw_tbl := List.mem_append_right _ (List.mem_append_right _ (List.mem_append_right _ (List.mem_append_right _ (List.mem_append_left _ (List.mem_of_getElem? h)))))
theorem tm5 {w : Cond} (i : Nat) (h : tables_1_5[i]? = some w) : w ∈ lw_tbl := List.mem_append_right _ (List.mem_append_right _ (List.mem_append_right _ (List.mem_append_right _ (List.mem_append_right _ (List.mem_append_left _ (List.mem_of_getElem? h))))))
theorem tm6 {w : Cond} (i : Nat) (h : tables_1_6[i]? = some w) : w ∈ lw_tbl := List.mem_append_right _ (List.mem_append_right _ (List.mem_append_right _ (List.mem_append_right _ (List.mem_append_right _ (List.mem_append_right _ (List.mem_of_getElem? h))))))
def zIdx : List Nat := [67, 122, 124, 126, 128]
def zTm (i : Nat) : Term := .string RTR (zIdx.getD i 0)
def gvL : List Cond := flatC (Jvm.Cond.and given_1 narrow_1)
theorem zz_ex : ∀ i, i < 5 → Cond.exactly (zTm i) "java/lang/String" ∈ gvL := by decide +kernel
theorem zz_co : ∀ i, i < 5 → Cond.eq (.field (zTm i) "java/lang/String" "coder" "B") (.int 0) ∈ gvL := by decide +kernel
theorem zz_ar : ∀ i, i < 5 → Cond.arrayOf (.field (zTm i) "java/lang/String" "value" "[B") .byte ∈ gvL := by decide +kernel
theorem zz_le : ∀ i, i < 5 → Cond.eq (.length (.field (zTm i) "java/lang/String" "value" "[B")) (.int (Int32.ofNat (zLen.getD i 0))) ∈ gvL := by decide +kernel
theorem zz_el : ∀ i, i < 5 → ∀ j, j < zLen.getD i 0 → Cond.eq (.elem (.field (zTm i) "java/lang/String" "value" "[B") (.int (Int32.ofNat j))) (.int ((zByt.getD i []).getD j 0)) ∈ gvL := by decide +kernel
theorem zz_ne : ∀ i, i < 5 → ∀ j, j < 5 → i ≠ j → (Cond.not (Cond.eq (zTm i) (zTm j)) ∈ gvL ∨ Cond.not (Cond.eq (zTm j) (zTm i)) ∈ gvL) := by decide +kernel
theorem zz_cs : Cond.eq (.static "java/lang/String" "COMPACT_STRINGS" "Z") (.int 1) ∈ gvL := by decide +kernel
theorem zz_fm : Cond.isRef (.static "jdk/internal/util/Preconditions" "SIOOBE_FORMATTER" "Ljava/util/function/BiFunction;") ∈ gvL := by decide +kernel
theorem nest_in : ∀ w ∈ nestL, Cond.methodLinkNest w.1 w.2.1 w.2.2.1 w.2.2.2 ∈ lw_tbl := by decide +kernel
theorem law_zz {args : Array Value} {s : State} (hts : ∀ w ∈ lw_tbl, w.before args s = true) (hgv : (Jvm.Cond.and given_1 narrow_1).before args s = true) : ∃ zk zv : Nat → Nat, ZZ zk zv (fun q => s.heap.size ≤ q) s s.heap := by
  have hs := flat_of_before _ hgv
  have hA : ∀ a : Nat, a < s.heap.size → ¬ (fun q : Nat => s.heap.size ≤ q) a := fun a h => Nat.not_le.mpr h
  obtain ⟨zk, zv, h1, h2⟩ := vk_Sof (args := args) (s := s) (N := 5) (tm := zTm) (len := zLen) (byt := zByt) (A := fun q => s.heap.size ≤ q) (by decide +kernel) (fun i hi => hs _ (zz_ex i hi)) (fun i hi => hs _ (zz_co i hi)) (fun i hi => hs _ (zz_ar i hi)) (fun i hi => hs _ (zz_le i hi)) (fun i hi j hj => hs _ (zz_el i hi j hj)) (fun i j hi hj hij => (zz_ne i hi j hj hij).imp (fun h => hs _ h) (fun h => hs _ h)) hA
  obtain ⟨v, hv, hr⟩ := Cond.isRef_spec (hs _ zz_fm)
  refine ⟨zk, zv, h1, va_Zof (hts _ (tm2 192 rfl)) (hts _ (tm1 14 rfl)) (va_eqt (hs _ zz_cs)) hA, ?_, ?_, ?_, ?_, ?_, v, hr, va_Zof (hts _ (tm2 208 rfl)) (hts _ (tm1 16 rfl)) hv hA⟩
  · exact vk_R.of (A := args) (hts _ (tm2 178 rfl)) (h2 0 (by decide))
  · exact vk_R.of (A := args) (hts _ (tm3 11 rfl)) (h2 1 (by decide))
  · exact vk_R.of (A := args) (hts _ (tm3 12 rfl)) (h2 2 (by decide))
  · exact vk_R.of (A := args) (hts _ (tm3 13 rfl)) (h2 3 (by decide))
  · exact vk_R.of (A := args) (hts _ (tm3 14 rfl)) (h2 4 (by decide))
theorem law_nn {args : Array Value} {s : State} (hts : ∀ w ∈ lw_tbl, w.before args s = true) : NN s := ⟨fun w hw => va_Nw.of rfl (hts _ (nest_in w hw)), va_AO.of (hts _ (tm2 42 rfl)), va_AO.of (hts _ (tm2 44 rfl)), (hts (.arrayOver (.array .int)) (tm2 19 rfl) : (Cond.arrayOver (.array .int)).before args s = true)⟩
theorem law_k {args : Array Value} {s : State} (hts : ∀ w ∈ gT, w.before args s = true) (hN : NN s) : ∃ (D : va_G) (cy : Nat → ClassId), va_K D vwCl (tyl cy) s := by
  have hcl : ∀ k : Nat, ∃ (q0 : ClassId × (Nat → Nat)), ∀ q : vw_C, vwCl[k]? = some q → u_Kn s q.1 q.2.1 q.2.2 q0.1 q0.2 := fun k => by
    match k with
    | 0 => obtain ⟨c, iS, h⟩ := u_known (C := RX0) (T := TX0) (N := 4) (n := 4) hts inX0 (hts _ (tb1 219 rfl rfl)); exact ⟨(c, iS), fun q hq => by cases hq; exact h⟩
    | 1 => obtain ⟨c, iS, h⟩ := u_known (C := RX1) (T := TX1) (N := 8) (n := 8) hts inX1 (hts _ (tb1 53 rfl rfl)); exact ⟨(c, iS), fun q hq => by cases hq; exact h⟩
    | 2 => obtain ⟨c, iS, h⟩ := u_known (C := RX2) (T := TX2) (N := 4) (n := 4) hts inX2 (hts _ (tb1 164 rfl rfl)); exact ⟨(c, iS), fun q hq => by cases hq; exact h⟩
    | 3 => obtain ⟨c, iS, h⟩ := u_known (C := RX3) (T := TX3) (N := 6) (n := 6) hts inX3 (hts _ (tb2 13 rfl rfl)); exact ⟨(c, iS), fun q hq => by cases hq; exact h⟩
    | 4 => obtain ⟨c, iS, h⟩ := u_known (C := RX4) (T := TX4) (N := 3) (n := 3) hts inX4 (hts _ (tb2 45 rfl rfl)); exact ⟨(c, iS), fun q hq => by cases hq; exact h⟩
    | 5 => obtain ⟨c, iS, h⟩ := u_known (C := RX5) (T := TX5) (N := 2) (n := 2) hts inX5 (hts _ (tb2 0 rfl rfl)); exact ⟨(c, iS), fun q hq => by cases hq; exact h⟩
    | 6 => obtain ⟨c, iS, h⟩ := u_known (C := RX6) (T := TX6) (N := 3) (n := 3) hts inX6 (hts _ (tb2 67 rfl rfl)); exact ⟨(c, iS), fun q hq => by cases hq; exact h⟩
    | 7 => obtain ⟨c, iS, h⟩ := u_known (C := RX7) (T := TX7) (N := 4) (n := 4) hts inX7 (hts _ (tb1 136 rfl rfl)); exact ⟨(c, iS), fun q hq => by cases hq; exact h⟩
    | 8 => obtain ⟨c, iS, h⟩ := u_known (C := RX8) (T := TX8) (N := 2) (n := 2) hts inX8 (hts _ (tb1 30 rfl rfl)); exact ⟨(c, iS), fun q hq => by cases hq; exact h⟩
    | 9 => obtain ⟨c, iS, h⟩ := u_known (C := RX9) (T := TX9) (N := 8) (n := 8) hts inX9 (hts _ (tb1 47 rfl rfl)); exact ⟨(c, iS), fun q hq => by cases hq; exact h⟩
    | 10 => obtain ⟨c, iS, h⟩ := u_known (C := RX10) (T := TX10) (N := 6) (n := 6) hts inX10 (hts _ (tb1 156 rfl rfl)); exact ⟨(c, iS), fun q hq => by cases hq; exact h⟩
    | 11 => obtain ⟨c, iS, h⟩ := u_known (C := RX11) (T := TX11) (N := 11) (n := 11) hts inX11 (hts _ (tb1 22 rfl rfl)); exact ⟨(c, iS), fun q hq => by cases hq; exact h⟩
    | 12 => obtain ⟨c, iS, h⟩ := u_known (C := RX12) (T := TX12) (N := 33) (n := 33) hts inX12 (hts _ (tb4 201 rfl rfl)); exact ⟨(c, iS), fun q hq => by cases hq; exact h⟩
    | k + 13 => exact ⟨(0, fun _ => 0), fun q hq => by simp [vwCl] at hq⟩
  obtain ⟨D0, hD0⟩ := Classical.skolem.mp hcl
  obtain ⟨c0, k0, m0, a1, a2, a3⟩ := Cond.arrayClass_spec (hts (.arrayClass .int) ka_I)
  obtain ⟨c1, k1, m1, b1, b2, b3⟩ := Cond.arrayClass_spec (hts (.arrayClass .boolean) ka_Z)
  obtain ⟨m2, c2, k2, d1, d2, d3, d4, d5⟩ := Cond.arrayOver_spec hN.2.1
  obtain ⟨m3, c3, k3, e1, e2, e3, e4, e5⟩ := Cond.arrayOver_spec hN.2.2.1
  obtain ⟨m4, c4, k4, f1, f2, f3, f4, f5⟩ := arrayOverA_spec hN.2.2.2
  refine ⟨(fun k => (D0 k).1, fun k => (D0 k).2), fun k => match k with | 0 => c0 | 1 => c1 | 2 => c2 | 3 => c3 | _ => c4, fun k q hq => hD0 k q hq, fun k q hq => ?_⟩
  match k, hq with
  | 0, hq => cases hq; exact ⟨fun N z => ⟨(fun q hq => by cases hq), k0, a2, m0, a3⟩, a1⟩
  | 1, hq => cases hq; exact ⟨fun N z => ⟨(fun q hq => by cases hq), k1, b2, m1, b3⟩, b1⟩
  | 2, hq => cases hq; exact ⟨fun N z => ⟨(fun q hq => by cases hq), k2, d3, m2, d4⟩, k2, m2, d3, d4, d1, d5⟩
  | 3, hq => cases hq; exact ⟨fun N z => ⟨(fun q hq => by cases hq), k3, e3, m3, e4⟩, k3, m3, e3, e4, e1, e5⟩
  | 4, hq => cases hq; exact ⟨fun N z => ⟨(fun q hq => by cases hq), k4, f3, m4, f4⟩, f5⟩
  | k + 5, hq => simp [tyl] at hq
set_option maxHeartbeats 4000000 in
set_option maxRecDepth 100000 in
theorem law_switch {E : Ev} {X : Cx} {ad : Nat → Nat} {b L n z : Nat} {xs : Nat → Int32} (C : CX E X code R_law 4 room_1) (S : scr X b L xs) (hnz : n ≤ room_1.cells ∧ z ≤ room_1.slots) (s : SX) (t : TM) (hI : Inv s t) (i : Nat) (hi : i + 5 ≤ L) (hL : L ≤ 2560) (kk : ∀ s' t', Inv s' t' → G E X n z (wL E ad s' t') [(0, .ref b), (1, .ref (ad 0)), (2, .ref (ad 70)), (3, .int (nI i))] 1385 []) (x : Int32) : G E X n z (wL E ad s t) [(0, .ref b), (1, .ref (ad 0)), (2, .ref (ad 70)), (3, .int (nI i))] 32 [.int x] := by
  by_cases c0 : x = 0
  · exact g_tabIn (pc := 32) 196 0 C dL_law_32 (by rw [c0]; rfl) (by decide) rfl (by decide) (lc_feed C S hnz s t hI i hi hL kk)
  by_cases c1 : x = 1
  · exact g_tabIn (pc := 32) 219 1 C dL_law_32 (by rw [c1]; rfl) (by decide) rfl (by decide) (lc_end C S hnz s t hI i hi hL kk)
  by_cases c2 : x = 2
  · exact g_tabIn (pc := 32) 242 2 C dL_law_32 (by rw [c2]; rfl) (by decide) rfl (by decide) (lc_text C S hnz s t hI i hi hL kk)
  by_cases c3 : x = 3
  · exact g_tabIn (pc := 32) 255 3 C dL_law_32 (by rw [c3]; rfl) (by decide) rfl (by decide) (lc_fault C S hnz s t hI i hi hL kk)
  by_cases c4 : x = 4
  · exact g_tabIn (pc := 32) 268 4 C dL_law_32 (by rw [c4]; rfl) (by decide) rfl (by decide) (lc_rule C S hnz s t hI i hi hL kk)
  by_cases c5 : x = 5
  · exact g_tabIn (pc := 32) 291 5 C dL_law_32 (by rw [c5]; rfl) (by decide) rfl (by decide) (lc_house C S hnz s t hI i hi hL kk)
  by_cases c6 : x = 6
  · exact g_tabIn (pc := 32) 324 6 C dL_law_32 (by rw [c6]; rfl) (by decide) rfl (by decide) (lc_comer C S hnz s t hI i hi hL kk)
  by_cases c7 : x = 7
  · exact g_tabIn (pc := 32) 357 7 C dL_law_32 (by rw [c7]; rfl) (by decide) rfl (by decide) (lc_likes C S hnz s t hI i hi hL kk)
  by_cases c8 : x = 8
  · exact g_tabIn (pc := 32) 390 8 C dL_law_32 (by rw [c8]; rfl) (by decide) rfl (by decide) (lc_alter C S hnz s t hI i hi hL kk)
  by_cases c9 : x = 9
  · exact g_tabIn (pc := 32) 433 9 C dL_law_32 (by rw [c9]; rfl) (by decide) rfl (by decide) (lc_fancy C S hnz s t hI i hi hL kk)
  by_cases c10 : x = 10
  · exact g_tabIn (pc := 32) 476 10 C dL_law_32 (by rw [c10]; rfl) (by decide) rfl (by decide) (lc_invite C S hnz s t hI i hi hL kk)
  by_cases c11 : x = 11
  · exact g_tabIn (pc := 32) 535 11 C dL_law_32 (by rw [c11]; rfl) (by decide) rfl (by decide) (lc_evenings C S hnz s t hI i hi hL kk)
  by_cases c12 : x = 12
  · exact g_tabIn (pc := 32) 558 12 C dL_law_32 (by rw [c12]; rfl) (by decide) rfl (by decide) (lc_runs C S hnz s t hI i hi hL kk)
  by_cases c13 : x = 13
  · exact g_tabIn (pc := 32) 591 13 C dL_law_32 (by rw [c13]; rfl) (by decide) rfl (by decide) (lc_ahead C S hnz s t hI i hi hL kk)
  by_cases c14 : x = 14
  · exact g_tabIn (pc := 32) 634 14 C dL_law_32 (by rw [c14]; rfl) (by decide) rfl (by decide) (lc_begins C S hnz s t hI i hi hL kk)
  by_cases c15 : x = 15
  · exact g_tabIn (pc := 32) 667 15 C dL_law_32 (by rw [c15]; rfl) (by decide) rfl (by decide) (lc_send C S hnz s t hI i hi hL kk)
  by_cases c16 : x = 16
  · exact g_tabIn (pc := 32) 700 16 C dL_law_32 (by rw [c16]; rfl) (by decide) rfl (by decide) (lc_swap C S hnz s t hI i hi hL kk)
  by_cases c17 : x = 17
  · exact g_tabIn (pc := 32) 723 17 C dL_law_32 (by rw [c17]; rfl) (by decide) rfl (by decide) (lc_strike C S hnz s t hI i hi hL kk)
  by_cases c18 : x = 18
  · exact g_tabIn (pc := 32) 746 18 C dL_law_32 (by rw [c18]; rfl) (by decide) rfl (by decide) (lc_late C S hnz s t hI i hi hL kk)
  by_cases c19 : x = 19
  · exact g_tabIn (pc := 32) 769 19 C dL_law_32 (by rw [c19]; rfl) (by decide) rfl (by decide) (lc_most C S hnz s t hI i hi hL kk)
  by_cases c20 : x = 20
  · exact g_tabIn (pc := 32) 802 20 C dL_law_32 (by rw [c20]; rfl) (by decide) rfl (by decide) (lc_kind C S hnz s t hI i hi hL kk)
  by_cases c21 : x = 21
  · exact g_tabIn (pc := 32) 845 21 C dL_law_32 (by rw [c21]; rfl) (by decide) rfl (by decide) (lc_pair C S hnz s t hI i hi hL kk)
  by_cases c22 : x = 22
  · exact g_tabIn (pc := 32) 888 22 C dL_law_32 (by rw [c22]; rfl) (by decide) rfl (by decide) (lc_luck C S hnz s t hI i hi hL kk)
  by_cases c23 : x = 23
  · exact g_tabIn (pc := 32) 932 23 C dL_law_32 (by rw [c23]; rfl) (by decide) rfl (by decide) (lc_mean C S hnz s t hI i hi hL kk)
  by_cases c24 : x = 24
  · exact g_tabIn (pc := 32) 966 24 C dL_law_32 (by rw [c24]; rfl) (by decide) rfl (by decide) (lc_see C S hnz s t hI i hi hL kk)
  by_cases c25 : x = 25
  · exact g_tabIn (pc := 32) 1009 25 C dL_law_32 (by rw [c25]; rfl) (by decide) rfl (by decide) (lc_forget C S hnz s t hI i hi hL kk)
  by_cases c26 : x = 26
  · exact g_tabIn (pc := 32) 1032 26 C dL_law_32 (by rw [c26]; rfl) (by decide) rfl (by decide) (lc_kinds C S hnz s t hI i hi hL kk)
  by_cases c27 : x = 27
  · exact g_tabIn (pc := 32) 1055 27 C dL_law_32 (by rw [c27]; rfl) (by decide) rfl (by decide) (lc_levels C S hnz s t hI i hi hL kk)
  by_cases c28 : x = 28
  · exact g_tabIn (pc := 32) 1088 28 C dL_law_32 (by rw [c28]; rfl) (by decide) rfl (by decide) (lc_ask C S hnz s t hI i hi hL kk)
  by_cases c29 : x = 29
  · exact g_tabIn (pc := 32) 1121 29 C dL_law_32 (by rw [c29]; rfl) (by decide) rfl (by decide) (lc_drift C S hnz s t hI i hi hL kk)
  by_cases c30 : x = 30
  · exact g_tabIn (pc := 32) 1164 30 C dL_law_32 (by rw [c30]; rfl) (by decide) rfl (by decide) (lc_keep C S hnz s t hI i hi hL kk)
  by_cases c31 : x = 31
  · exact g_tabIn (pc := 32) 1187 31 C dL_law_32 (by rw [c31]; rfl) (by decide) rfl (by decide) (lc_back C S hnz s t hI i hi hL kk)
  by_cases c32 : x = 32
  · exact g_tabIn (pc := 32) 1210 32 C dL_law_32 (by rw [c32]; rfl) (by decide) rfl (by decide) (lc_sheet C S hnz s t hI i hi hL kk)
  by_cases c33 : x = 33
  · exact g_tabIn (pc := 32) 1253 33 C dL_law_32 (by rw [c33]; rfl) (by decide) rfl (by decide) (lc_lay C S hnz s t hI i hi hL kk)
  by_cases c34 : x = 34
  · exact g_tabIn (pc := 32) 1296 34 C dL_law_32 (by rw [c34]; rfl) (by decide) rfl (by decide) (lc_read C S hnz s t hI i hi hL kk)
  by_cases c35 : x = 35
  · exact g_tabIn (pc := 32) 1349 35 C dL_law_32 (by rw [c35]; rfl) (by decide) rfl (by decide) (lc_torn C S hnz s t hI i hi hL kk)
  by_cases c36 : x = 36
  · exact g_tabIn (pc := 32) 1362 36 C dL_law_32 (by rw [c36]; rfl) (by decide) rfl (by decide) (lc_count C S hnz s t hI i hi hL kk)
  exact g_tabOut (pc := 32) 1385 C dL_law_32 (by have := sw_n 0 (by decide) c0; have := sw_n 1 (by decide) c1; have := sw_n 2 (by decide) c2; have := sw_n 3 (by decide) c3; have := sw_n 4 (by decide) c4; have := sw_n 5 (by decide) c5; have := sw_n 6 (by decide) c6; have := sw_n 7 (by decide) c7; have := sw_n 8 (by decide) c8; have := sw_n 9 (by decide) c9; have := sw_n 10 (by decide) c10; have := sw_n 11 (by decide) c11; have := sw_n 12 (by decide) c12; have := sw_n 13 (by decide) c13; have := sw_n 14 (by decide) c14; have := sw_n 15 (by decide) c15; have := sw_n 16 (by decide) c16; have := sw_n 17 (by decide) c17; have := sw_n 18 (by decide) c18; have := sw_n 19 (by decide) c19; have := sw_n 20 (by decide) c20; have := sw_n 21 (by decide) c21; have := sw_n 22 (by decide) c22; have := sw_n 23 (by decide) c23; have := sw_n 24 (by decide) c24; have := sw_n 25 (by decide) c25; have := sw_n 26 (by decide) c26; have := sw_n 27 (by decide) c27; have := sw_n 28 (by decide) c28; have := sw_n 29 (by decide) c29; have := sw_n 30 (by decide) c30; have := sw_n 31 (by decide) c31; have := sw_n 32 (by decide) c32; have := sw_n 33 (by decide) c33; have := sw_n 34 (by decide) c34; have := sw_n 35 (by decide) c35; have := sw_n 36 (by decide) c36; omega) (by decide) (kk s t hI)
theorem law_gt {i L : Nat} (hL : L ≤ 2560) (hi : i ≤ 2570) (h : ¬ (Int32.ofNat L - 5) < nI i) : i + 5 ≤ L := by
  rcases Nat.lt_or_ge L (i + 5) with q | q
  · exfalso
    apply h
    rcases Nat.lt_or_ge L 5 with q5 | q5
    · have e : Int32.ofNat L - 5 < 0 := pk_sneg (a := L) (b := 5) (by decide) q5
      have e2 : (0 : Int32) ≤ nI i := nI_pos' (by omega)
      exact Int32.lt_of_lt_of_le e e2
    · have e : Int32.ofNat L - 5 = nI (L - 5) := pk_sub (a := L) (b := 5) q5
      rw [e]
      exact nI_lt (by omega) (by omega)
  · exact q
set_option maxHeartbeats 4000000 in
set_option maxRecDepth 100000 in
theorem law_loop {E : Ev} {X : Cx} {ad : Nat → Nat} {b L n z : Nat} {xs : Nat → Int32} (C : CX E X code R_law 4 room_1) (S : scr X b L xs) (hnz : n ≤ room_1.cells ∧ z ≤ room_1.slots) (hL : L ≤ 2560) (kx : ∀ s t (i : Nat), G E X n z (wL E ad s t) [(0, .ref b), (1, .ref (ad 0)), (2, .ref (ad 70)), (3, .int (nI i))] 1391 []) : ∀ (k i : Nat) (s : SX) (t : TM), L ≤ i + 5 * k → i ≤ 2570 → Inv s t → G E X n z (wL E ad s t) [(0, .ref b), (1, .ref (ad 0)), (2, .ref (ad 70)), (3, .int (nI i))] 18 [] := by
  intro k
  induction k with
  | zero =>
    intro i s t h1 h2 hI
    refine g_iload_n (pc := 18) C dL_law_18 3 rfl ?_
    refine g_aload_n (pc := 19) C dL_law_19 0 rfl ?_
    refine g_xlen (pc := 20) C S dL_law_20 ?_
    refine g_iconst (pc := 21) (v := 5) C dL_law_21 (by decide) ?_
    refine g_isub (pc := 22) C dL_law_22 ?_
    by_cases c : Int32.ofNat L - 5 < nI i
    · exact b_icmp_gt (pc := 23) (F1 := some ()) (F2 := (none : Option Unit)) (r := ()) 1391 C dL_law_23 (by decide) (if_pos c) (fun _ _ => kx s t i) (fun h _ => absurd c h)
    · exact absurd (law_gt hL h2 c) (by omega)
  | succ k ih =>
    intro i s t h1 h2 hI
    refine g_iload_n (pc := 18) C dL_law_18 3 rfl ?_
    refine g_aload_n (pc := 19) C dL_law_19 0 rfl ?_
    refine g_xlen (pc := 20) C S dL_law_20 ?_
    refine g_iconst (pc := 21) (v := 5) C dL_law_21 (by decide) ?_
    refine g_isub (pc := 22) C dL_law_22 ?_
    by_cases c : Int32.ofNat L - 5 < nI i
    · exact b_icmp_gt (pc := 23) (F1 := some ()) (F2 := (none : Option Unit)) (r := ()) 1391 C dL_law_23 (by decide) (if_pos c) (fun _ _ => kx s t i) (fun h _ => absurd c h)
    · have hi := law_gt hL h2 c
      refine b_icmp_gt (pc := 23) (F1 := (none : Option Unit)) (F2 := some ()) (r := ()) 1391 C dL_law_23 (by decide) (if_neg c) (fun h _ => absurd h c) (fun _ _ => ?_)
      refine g_aload_n (pc := 26) C dL_law_26 0 rfl ?_
      refine g_iload_n (pc := 27) C dL_law_27 3 rfl ?_
      refine g_xld (pc := 28) C S (vp_in_nI (by omega) (by omega)) dL_law_28 ?_
      refine g_bipush (pc := 29) (v := 63) C dL_law_29 (by decide) ?_
      refine g_iand (pc := 31) C dL_law_31 ?_
      refine law_switch C S hnz s t hI i hi hL (fun s' t' hI' => ?_) _
      refine g_iinc (pc := 1385) (v := nI (i + 5)) (lv' := [(3, .int (nI (i + 5))), (0, .ref b), (1, .ref (ad 0)), (2, .ref (ad 70))]) C dL_law_1385 3 rfl (nI_add i 5) (by decide) rfl ?_
      refine g_goto (pc := 1388) 18 C dL_law_1388 (by decide) ?_
      refine g_lv [1, 2, 3, 0] (lv' := [(0, .ref b), (1, .ref (ad 0)), (2, .ref (ad 70)), (3, .int (nI (i + 5)))]) rfl ?_
      exact ih (i + 5) s' t' (by omega) (by omega) hI'
theorem mi_L_9 : MI R_law 9 yX11_init cX11_init 2 0 := ⟨tb1 23 rfl rfl, tb1 24 rfl rfl, tb1 1 rfl rfl, tb1 25 rfl rfl, rfl, by decide +kernel⟩
theorem mi_L_12 : MI R_law 12 yX12_init cX12_init 2 0 := ⟨tb4 202 rfl rfl, tb4 203 rfl rfl, tb1 13 rfl rfl, tb4 204 rfl rfl, rfl, by decide +kernel⟩
theorem nw_L_7 : NW R_law 7 11 11 [.null, .null, .null, .null, .null, .null, .null, .null, .null, .null, .int 0] := ⟨_, _, tyX11, rfl, inX11, tyX11_ok, tb1 21 rfl rfl, tb1 22 rfl rfl, tb1 1 rfl rfl, by decide +kernel⟩
theorem nw_L_10 : NW R_law 10 12 33 [.null, .null, .null, .int 0, .int 0, .null, .int 0, .int 0, .int 0, .int 0, .null, .int 0, .int 0, .int 0, .int 0, .int 0, .int 0, .int 0, .int 0, .null, .null, .int 0, .int 0, .long 0, .long 0, .long 0, .null, .null, .null, .null, .null, .int 0, .null] := ⟨_, _, tyX12, rfl, inX12, tyX12_ok, tb4 200 rfl rfl, tb4 201 rfl rfl, tb1 13 rfl rfl, by decide +kernel⟩
set_option maxHeartbeats 4000000 in
set_option maxRecDepth 100000 in
theorem law_start {E : Ev} {X : Cx} {b L : Nat} {xs : Nat → Int32} (C : CX E X code R_law 4 room_1) (hN : NN X.s) (S : scr X b L xs) (hL : L ≤ 2560) (kx : ∀ (n z : Nat) (ws : va_W) (lv : List (Nat × Value)), n ≤ room_1.cells → z ≤ room_1.slots → G E X n z ws lv 1391 []) : G E X 0 0 [] [(0, .ref b)] 0 [] := by
  refine g_new (pc := 0) C nw_L_7 (by decide) (by decide) dL_law_0 (fun a0 => ?_)
  refine g_eqw (ws' := [(a0, .inr (11, [.null, .null, .null, .null, .null, .null, .null, .null, .null, .null, .int 0]))]) rfl ?_
  refine g_dup (pc := 3) C dL_law_3 rfl ?_
  refine g_callI (pc := 4) (wr := []) (st := [.ref a0]) C hN mi_L_9 (c_X11_init E a0) [0] [] rfl rfl rfl (by decide +kernel) (by decide) ⟨by decide, by decide⟩ ⟨by decide, by decide⟩ rfl rfl (Nat.le_of_ble_eq_true rfl) dL_law_4 (fun w' hw' => ?_)
  obtain ⟨q1, q2, q3, q4, q5, q6, q7, q8, q9, q10, q11, q12, q13, q14, q15, q16, q17, q18, q19, q20, q21, q22, q23, q24, q25, q26, q27, q28, q29, q30, q31, q32, q33, q34, q35, q36, q37, q38, q39, q40, q41, q42, q43, q44, q45, q46, q47, q48, q49, q50, q51, q52, q53, q54, q55, q56, q57, q58, q59, q60, q61, q62, q63, q64, q65, q66, q67, q68, q69, rfl⟩ := hw'
  refine g_eqw (ws' := [oX11 a0 q1 q3 q10 q16 q20 q30 q31 q32 q38 q39 0, oX8 q1 q2 0, aI E q2 160 (fun _ => 0), oX9 q3 q1 q4 0 0 0 0 3 0, oX1 q4 0 0 0 q5 q6 q7 q8 q9, aI E q5 4 (fun _ => 0), aI E q6 6 (fun _ => 0), aI E q7 6 (fun _ => 0), aI E q8 6 (fun _ => 0), aI E q9 24 (fun _ => 0), oX1 q10 0 0 0 q11 q12 q13 q14 q15, aI E q11 4 (fun _ => 0), aI E q12 6 (fun _ => 0), aI E q13 6 (fun _ => 0), aI E q14 6 (fun _ => 0), aI E q15 24 (fun _ => 0), oX7 q16 0 q17 q18 q19, aI E q17 6 (fun _ => 0), aI E q18 6 (fun _ => 0), aI E q19 6 (fun _ => 0), oX10 q20 q10 q21 q27 0 0 ((-4)), oX1 q21 0 0 0 q22 q23 q24 q25 q26, aI E q22 4 (fun _ => 0), aI E q23 6 (fun _ => 0), aI E q24 6 (fun _ => 0), aI E q25 6 (fun _ => 0), aI E q26 24 (fun _ => 0), oX2 q27 q28 q29 0 0, aI E q28 4 (fun _ => 0), aI E q29 4 (fun _ => 0), oX0 q30 q10 q20 ((-4)) 0, oX5 q31 q10 q20, oX3 q32 q10 q16 q20 q33 ((-4)) 0, aQ E 4 q33 [q34, q35, q36, q37], aI E q34 40 (fun _ => 0), aI E q35 40 (fun _ => 0), aI E q36 40 (fun _ => 0), aI E q37 40 (fun _ => 0), aQ E 2 q38 [q40, q51], aQ E 3 q39 [q62, q64, q66, q68], oX4 q40 q41 q47 0, oX1 q41 0 0 0 q42 q43 q44 q45 q46, aI E q42 4 (fun _ => 0), aI E q43 6 (fun _ => 0), aI E q44 6 (fun _ => 0), aI E q45 6 (fun _ => 0), aI E q46 24 (fun _ => 0), oX7 q47 0 q48 q49 q50, aI E q48 6 (fun _ => 0), aI E q49 6 (fun _ => 0), aI E q50 6 (fun _ => 0), oX4 q51 q52 q58 0, oX1 q52 0 0 0 q53 q54 q55 q56 q57, aI E q53 4 (fun _ => 0), aI E q54 6 (fun _ => 0), aI E q55 6 (fun _ => 0), aI E q56 6 (fun _ => 0), aI E q57 24 (fun _ => 0), oX7 q58 0 q59 q60 q61, aI E q59 6 (fun _ => 0), aI E q60 6 (fun _ => 0), aI E q61 6 (fun _ => 0), oX6 q62 q63 0 ((-1)), aI E q63 40 (fun _ => 0), oX6 q64 q65 0 ((-1)), aI E q65 40 (fun _ => 0), oX6 q66 q67 0 ((-1)), aI E q67 40 (fun _ => 0), oX6 q68 q69 0 ((-1)), aI E q69 40 (fun _ => 0)]) rfl ?_
  refine g_astore_n (pc := 7) (lv' := [(1, .ref a0), (0, .ref b)]) C dL_law_7 (by decide) rfl ?_
  refine g_new (pc := 8) C nw_L_10 (by decide) (by decide) dL_law_8 (fun am => ?_)
  refine g_eqw (ws' := [oX11 a0 q1 q3 q10 q16 q20 q30 q31 q32 q38 q39 0, oX8 q1 q2 0, aI E q2 160 (fun _ => 0), oX9 q3 q1 q4 0 0 0 0 3 0, oX1 q4 0 0 0 q5 q6 q7 q8 q9, aI E q5 4 (fun _ => 0), aI E q6 6 (fun _ => 0), aI E q7 6 (fun _ => 0), aI E q8 6 (fun _ => 0), aI E q9 24 (fun _ => 0), oX1 q10 0 0 0 q11 q12 q13 q14 q15, aI E q11 4 (fun _ => 0), aI E q12 6 (fun _ => 0), aI E q13 6 (fun _ => 0), aI E q14 6 (fun _ => 0), aI E q15 24 (fun _ => 0), oX7 q16 0 q17 q18 q19, aI E q17 6 (fun _ => 0), aI E q18 6 (fun _ => 0), aI E q19 6 (fun _ => 0), oX10 q20 q10 q21 q27 0 0 ((-4)), oX1 q21 0 0 0 q22 q23 q24 q25 q26, aI E q22 4 (fun _ => 0), aI E q23 6 (fun _ => 0), aI E q24 6 (fun _ => 0), aI E q25 6 (fun _ => 0), aI E q26 24 (fun _ => 0), oX2 q27 q28 q29 0 0, aI E q28 4 (fun _ => 0), aI E q29 4 (fun _ => 0), oX0 q30 q10 q20 ((-4)) 0, oX5 q31 q10 q20, oX3 q32 q10 q16 q20 q33 ((-4)) 0, aQ E 4 q33 [q34, q35, q36, q37], aI E q34 40 (fun _ => 0), aI E q35 40 (fun _ => 0), aI E q36 40 (fun _ => 0), aI E q37 40 (fun _ => 0), aQ E 2 q38 [q40, q51], aQ E 3 q39 [q62, q64, q66, q68], oX4 q40 q41 q47 0, oX1 q41 0 0 0 q42 q43 q44 q45 q46, aI E q42 4 (fun _ => 0), aI E q43 6 (fun _ => 0), aI E q44 6 (fun _ => 0), aI E q45 6 (fun _ => 0), aI E q46 24 (fun _ => 0), oX7 q47 0 q48 q49 q50, aI E q48 6 (fun _ => 0), aI E q49 6 (fun _ => 0), aI E q50 6 (fun _ => 0), oX4 q51 q52 q58 0, oX1 q52 0 0 0 q53 q54 q55 q56 q57, aI E q53 4 (fun _ => 0), aI E q54 6 (fun _ => 0), aI E q55 6 (fun _ => 0), aI E q56 6 (fun _ => 0), aI E q57 24 (fun _ => 0), oX7 q58 0 q59 q60 q61, aI E q59 6 (fun _ => 0), aI E q60 6 (fun _ => 0), aI E q61 6 (fun _ => 0), oX6 q62 q63 0 ((-1)), aI E q63 40 (fun _ => 0), oX6 q64 q65 0 ((-1)), aI E q65 40 (fun _ => 0), oX6 q66 q67 0 ((-1)), aI E q67 40 (fun _ => 0), oX6 q68 q69 0 ((-1)), aI E q69 40 (fun _ => 0), (am, .inr (12, [.null, .null, .null, .int 0, .int 0, .null, .int 0, .int 0, .int 0, .int 0, .null, .int 0, .int 0, .int 0, .int 0, .int 0, .int 0, .int 0, .int 0, .null, .null, .int 0, .int 0, .long 0, .long 0, .long 0, .null, .null, .null, .null, .null, .int 0, .null]))]) rfl ?_
  refine g_dup (pc := 11) C dL_law_11 rfl ?_
  refine g_callI (pc := 12) (wr := [oX11 a0 q1 q3 q10 q16 q20 q30 q31 q32 q38 q39 0, oX8 q1 q2 0, aI E q2 160 (fun _ => 0), oX9 q3 q1 q4 0 0 0 0 3 0, oX1 q4 0 0 0 q5 q6 q7 q8 q9, aI E q5 4 (fun _ => 0), aI E q6 6 (fun _ => 0), aI E q7 6 (fun _ => 0), aI E q8 6 (fun _ => 0), aI E q9 24 (fun _ => 0), oX1 q10 0 0 0 q11 q12 q13 q14 q15, aI E q11 4 (fun _ => 0), aI E q12 6 (fun _ => 0), aI E q13 6 (fun _ => 0), aI E q14 6 (fun _ => 0), aI E q15 24 (fun _ => 0), oX7 q16 0 q17 q18 q19, aI E q17 6 (fun _ => 0), aI E q18 6 (fun _ => 0), aI E q19 6 (fun _ => 0), oX10 q20 q10 q21 q27 0 0 ((-4)), oX1 q21 0 0 0 q22 q23 q24 q25 q26, aI E q22 4 (fun _ => 0), aI E q23 6 (fun _ => 0), aI E q24 6 (fun _ => 0), aI E q25 6 (fun _ => 0), aI E q26 24 (fun _ => 0), oX2 q27 q28 q29 0 0, aI E q28 4 (fun _ => 0), aI E q29 4 (fun _ => 0), oX0 q30 q10 q20 ((-4)) 0, oX5 q31 q10 q20, oX3 q32 q10 q16 q20 q33 ((-4)) 0, aQ E 4 q33 [q34, q35, q36, q37], aI E q34 40 (fun _ => 0), aI E q35 40 (fun _ => 0), aI E q36 40 (fun _ => 0), aI E q37 40 (fun _ => 0), aQ E 2 q38 [q40, q51], aQ E 3 q39 [q62, q64, q66, q68], oX4 q40 q41 q47 0, oX1 q41 0 0 0 q42 q43 q44 q45 q46, aI E q42 4 (fun _ => 0), aI E q43 6 (fun _ => 0), aI E q44 6 (fun _ => 0), aI E q45 6 (fun _ => 0), aI E q46 24 (fun _ => 0), oX7 q47 0 q48 q49 q50, aI E q48 6 (fun _ => 0), aI E q49 6 (fun _ => 0), aI E q50 6 (fun _ => 0), oX4 q51 q52 q58 0, oX1 q52 0 0 0 q53 q54 q55 q56 q57, aI E q53 4 (fun _ => 0), aI E q54 6 (fun _ => 0), aI E q55 6 (fun _ => 0), aI E q56 6 (fun _ => 0), aI E q57 24 (fun _ => 0), oX7 q58 0 q59 q60 q61, aI E q59 6 (fun _ => 0), aI E q60 6 (fun _ => 0), aI E q61 6 (fun _ => 0), oX6 q62 q63 0 ((-1)), aI E q63 40 (fun _ => 0), oX6 q64 q65 0 ((-1)), aI E q65 40 (fun _ => 0), oX6 q66 q67 0 ((-1)), aI E q67 40 (fun _ => 0), oX6 q68 q69 0 ((-1)), aI E q69 40 (fun _ => 0)]) (st := [.ref am]) C hN mi_L_12 (c_X12_init E am) [70] [0, 1, 2, 3, 4, 5, 6, 7, 8, 9, 10, 11, 12, 13, 14, 15, 16, 17, 18, 19, 20, 21, 22, 23, 24, 25, 26, 27, 28, 29, 30, 31, 32, 33, 34, 35, 36, 37, 38, 39, 40, 41, 42, 43, 44, 45, 46, 47, 48, 49, 50, 51, 52, 53, 54, 55, 56, 57, 58, 59, 60, 61, 62, 63, 64, 65, 66, 67, 68, 69] rfl rfl rfl (by decide +kernel) (by decide) ⟨by decide, by decide⟩ ⟨by decide, by decide⟩ rfl rfl (Nat.le_of_ble_eq_true rfl) dL_law_12 (fun w' hw' => ?_)
  obtain ⟨mq1, mq2, mq3, mq4, mq5, mq6, mq7, mq8, mq9, mq10, mq11, mq12, mq13, v1, v2, hv1, hv2, rfl⟩ := hw'
  refine g_eqw (ws' := wL E (fun k => ([a0, q1, q2, q3, q4, q5, q6, q7, q8, q9, q10, q11, q12, q13, q14, q15, q16, q17, q18, q19, q20, q21, q22, q23, q24, q25, q26, q27, q28, q29, q30, q31, q32, q33, q34, q35, q36, q37, q38, q39, q40, q41, q42, q43, q44, q45, q46, q47, q48, q49, q50, q51, q52, q53, q54, q55, q56, q57, q58, q59, q60, q61, q62, q63, q64, q65, q66, q67, q68, q69, am, mq1, mq2, mq3, mq4, mq5, mq6, mq7, mq8, mq9, mq10, mq11, mq12, mq13] : List Nat).getD k 0) (0, (0, (fun _ => 0)), (0, 0, 0, 0, 3, 0), (0, 0, 0, (fun _ => 0), (fun _ => 0), (fun _ => 0), (fun _ => 0), (fun _ => 0)), (0, 0, 0, (fun _ => 0), (fun _ => 0), (fun _ => 0), (fun _ => 0), (fun _ => 0)), (0, (fun _ => 0), (fun _ => 0), (fun _ => 0)), (0, 0, (-4)), (0, 0, 0, (fun _ => 0), (fun _ => 0), (fun _ => 0), (fun _ => 0), (fun _ => 0)), (0, 0, (fun _ => 0), (fun _ => 0)), ((-4), 0), ((-4), 0, (fun _ => 0), (fun _ => 0), (fun _ => 0), (fun _ => 0)), (0, 0, 0, 0, (fun _ => 0), (fun _ => 0), (fun _ => 0), (fun _ => 0), (fun _ => 0), 0, (fun _ => 0), (fun _ => 0), (fun _ => 0)), (0, 0, 0, 0, (fun _ => 0), (fun _ => 0), (fun _ => 0), (fun _ => 0), (fun _ => 0), 0, (fun _ => 0), (fun _ => 0), (fun _ => 0)), (0, (-1), (fun _ => 0)), (0, (-1), (fun _ => 0)), (0, (-1), (fun _ => 0)), (0, (-1), (fun _ => 0))) (((v2.2.2.2), (fun _ => 0), (v2.2.2.1), v2.1, v2.2.1, (v1.2.2.2.2), v1.1, v1.2.1, v1.2.2.1), (v1.2.2.2.1, (fun _ => 0), 0, 0, 0, 0, 0, 0, 0), (0, (fun _ => 0), (fun _ => 0), 0, 0, 0, 0, 0, (fun _ => 0)), ((fun _ => 0), (upd (upd (upd (upd (fun _ => 0) (ix 0) ((-4))) (ix 1) ((-4))) (ix 2) ((-4))) (ix 3) ((-4))), (fun _ => 0), (fun _ => 0), 0, (fun _ => 0)))) rfl ?_
  refine g_astore_n (pc := 15) (lv' := [(2, .ref am), (1, .ref a0), (0, .ref b)]) C dL_law_15 (by decide) rfl ?_
  refine g_iconst (pc := 16) (v := 0) C dL_law_16 (by decide) ?_
  refine g_istore_n (pc := 17) (lv' := [(3, .int 0), (2, .ref am), (1, .ref a0), (0, .ref b)]) C dL_law_17 (by decide) rfl ?_
  refine g_wid (k := 100) (m := 2000) (by decide) (by decide) ?_
  refine g_lv [3, 2, 1, 0] (lv' := [(0, .ref b), (1, .ref a0), (2, .ref am), (3, .int (nI 0))]) rfl ?_
  exact law_loop (ad := fun k => ([a0, q1, q2, q3, q4, q5, q6, q7, q8, q9, q10, q11, q12, q13, q14, q15, q16, q17, q18, q19, q20, q21, q22, q23, q24, q25, q26, q27, q28, q29, q30, q31, q32, q33, q34, q35, q36, q37, q38, q39, q40, q41, q42, q43, q44, q45, q46, q47, q48, q49, q50, q51, q52, q53, q54, q55, q56, q57, q58, q59, q60, q61, q62, q63, q64, q65, q66, q67, q68, q69, am, mq1, mq2, mq3, mq4, mq5, mq6, mq7, mq8, mq9, mq10, mq11, mq12, mq13] : List Nat).getD k 0) C S ⟨by decide, by decide⟩ hL (fun s t i => kx 100 2000 _ _ (by decide) (by decide)) 513 0 _ _ (by omega) (by omega) (p_init v1 v2 hv1 hv2)
def lw_P (b : Addr) (xs : List Int32) (args : Array Value) (s : State) : Prop := args = #[.ref b] ∧ s.IntsAt b xs ∧ xs.length ≤ 2560 ∧ (Jvm.Cond.and given_1 narrow_1).before args s = true
def lw_Q (_ : Array Value) (s : State) (o : Outcome) (t : State) : Prop := o = .returned (some (.int 1)) ∧ Framed s o t [] 600000 7302250
def lw_Z (below : List Frame) (a : Array Value) (s : State) : State → Prop := fun t => ∃ o, t.status = .running ∧ Ended t below o ∧ lw_Q a s o t
/-- the law's own end, with 1 on the stack, nothing written that was there before, its room as the claim has it -/
theorem lw_ret {p : Program} {l : Launch} {e : Env} {s : State} {m : MethodId} {below : List Frame} {meth : Method} {c : Code} {b : Nat} (hx : p.tables.exec = Jvm.exec) (hb : c.code = code) (hr : meth.sig.returnType = ret) (hlocks : meth.locks = false) {pc : Nat} {H : Heap} {ls : Array Slot} (hdg : decode code pc = .ok (.ireturn, 1)) : W p l e room_1 s m #[Value.ref b] below meth c H [] 600000 7302250 (lw_Z below #[Value.ref b] s) (F0 m pc ls [.int 1]) := by
  intro T hT X
  obtain ⟨fs, hret, hrun, hended, hW, hframe⟩ := X.leave (v := some (.int 1)) (hlocks := hlocks) (fun h => by rw [hr] at h; cases h)
  have hmeth' : T.vm.method? m = some meth := X.method'
  refine ⟨T.setFrames fs, ?_, .returned (some (.int 1)), hrun, hended, rfl, ⟨_, rfl⟩, hW, hframe⟩
  jvm_step X.here [X.here.top, hx, hb, hdg, hmeth', hr, ret, narrow_b1]
  (try refine ⟨rfl, ?_⟩); (try refine ⟨rfl, ?_⟩)
  first | (intro acts; rw [hret _ acts rfl rfl rfl]) | rw [hret _ _ rfl rfl rfl]
  exact Steps.refl _
/-- what holds at the law's entry: the machine, the code, the tables' words (any of lw_tbl by 'hts w (by decide +kernel)'), the script of L ints xs at the cell b, what the Statement gives of the start (any of its parts by flat_of_before) -/
def lw_At (p : Program) (s : State) (m : MethodId) (meth : Method) (c : Code) (b L : Nat) (xs : Nat → Int32) : Prop :=
  p.tables.exec = Jvm.exec ∧ c.code = code ∧ meth.sig.returnType = ret ∧ c.maxLocals = 4 ∧ s.vm.findClass R_law = some m.cls ∧ (∀ w ∈ lw_tbl, w.before #[Value.ref b] s = true) ∧ va_X b L xs s s.heap ∧ b < s.heap.size ∧ meth.locks = false ∧ (Jvm.Cond.and given_1 narrow_1).before #[Value.ref b] s = true
set_option maxHeartbeats 4000000 in
theorem whole_start {p : Program} {e : Env} {s : State} {m : MethodId} {below : List Frame} {meth : Method} {c : Code} (l : Launch) {b L : Nat} {xs : Nat → Int32} (hL : L ≤ 2560) (C0 : lw_At p s m meth c b L xs) : W p l e room_1 s m #[Value.ref b] below meth c s.heap [] 0 0 (lw_Z below #[Value.ref b] s) (entryFrame m ([Value.ref b] : List Value).toArray 4) := by
  obtain ⟨hx, hb, hr, hml, hown, hts, hX, hbl, hlocks, hgv⟩ := C0
  have htsG : ∀ w ∈ gT, w.before #[Value.ref b] s = true := fun w hw => hts w (List.mem_filter.mp hw).1
  have hN := law_nn hts
  obtain ⟨zk, zv, hZ⟩ := law_zz hts hgv
  obtain ⟨D, cy, hK⟩ := law_k htsG hN
  have hP : va_P D vwCl [] s.heap := fun k q h => by simp at h
  have hD : va_D (fun q : Nat => s.heap.size ≤ q) [] := ⟨fun i j p q h => by simp at h, fun k q h => by simp at h⟩
  have hl := lv_entry ([.ref b]) (n := 4) (Nat.le_of_ble_eq_true rfl)
  rw [lg_entry_eq]
  have hC : CX (l, D, cy, zk, zv) ((p, e, room_1, s), (m, #[Value.ref b], below, meth, c), lw_Z below #[Value.ref b] s, (fun q : Nat => s.heap.size ≤ q), 4) code R_law 4 room_1 := ⟨hx, hb, hml, rfl, hown, htsG, hK, rfl, fun _ h => h, hZ⟩
  refine law_start (E := (l, D, cy, zk, zv)) (X := ((p, e, room_1, s), (m, #[Value.ref b], below, meth, c), lw_Z below #[Value.ref b] s, (fun q : Nat => s.heap.size ≤ q), 4)) hC hN ⟨hX, hbl, Nat.not_le.mpr hbl⟩ hL ?_ s.heap [] _ hP hD va_S.rf hl
  intro n z ws lv hn hz
  refine g_iconst (pc := 1391) (v := 1) hC dL_law_1391 (by decide) ?_
  intro H locs ls hP hD hS hl
  refine va_forget (fun q hq => hS.2.2 q hq) ?_
  refine W.widen (k := 600000) (n := 7302250) hn hz ?_
  exact lw_ret hx hb hr hlocks dL_law_1392
set_option maxHeartbeats 4000000 in
theorem lw_walk (l : Launch) (b : Addr) (xs : List Int32) : MetFree l x (headSpec (Jvm.Cond.code x code maxLocals ret :: tables_1) room_1) (lw_P b xs) (fun _ _ _ _ _ => True) lw_Q := by
  refine MetFree.of_bodyS (code := code) (maxLocals := maxLocals) (ret := ret) (by decide) ?_ ?_
  · intro args s m h hn
    obtain ⟨meth, c, h1, h2, h3, h4, h5, h6, -, -⟩ := Cond.code_spec hn (atoms_spec (ws := Jvm.Cond.code x code maxLocals ret :: tables_1) h _ List.mem_cons_self)
    exact ⟨meth, c, h1, h2, h3, h4, h5, h6⟩
  · intro p e s m args below meth c s₁ B hml0 hP _
    obtain ⟨rfl, hx, hbd, hgv⟩ := hP
    obtain ⟨scr, harrAt, hlist, hof, hsmall⟩ := hx
    obtain ⟨hcb, hkn, -, -⟩ := State.arrayAt?_spec harrAt
    have hown : s.vm.findClass R_law = some m.cls := findClass_of_methodNamed B.named
    have hts0 : ∀ c ∈ (Jvm.Cond.code x code maxLocals ret :: tables_1), c.before #[Value.ref b] s = true := atoms_spec (ws := Jvm.Cond.code x code maxLocals ret :: tables_1) B.pre
    have hts : ∀ w ∈ lw_tbl, w.before #[Value.ref b] s = true := k2_hts_sels lw_privs (fun w hw => hts0 w (List.mem_cons_of_mem _ hw)) lw_privs_ok
    have hml : c.maxLocals = 4 := B.maxLocals_eq (hts0 _ List.mem_cons_self)
    have X₀ : Stand p l e room_1 s m #[Value.ref b] below meth c s₁ [] 0 0 := Stand.of_body B
    have hh0 : s₁.heap = s.heap := by rw [B.state]; rfl
    have hsz : scr.slots.size = xs.length := by rw [← Array.length_toList, hlist, List.length_map]
    have hval : ∀ j : Nat, j < xs.length → scr.slots[j]? = some (.int (xs.getD j 0)) := fun j hj => by
      rw [← Array.getElem?_toList, hlist]
      simp [hj]
    have hbl : b < s.heap.size := (Array.getElem?_eq_some_iff.mp hcb).1
    have hX : va_X b xs.length (fun j => xs.getD j 0) s s.heap := ⟨scr, hcb, hof, hkn, hsz, hval⟩
    have K : W p l e room_1 s m #[Value.ref b] below meth c s₁.heap [] 0 0 (lw_Z below #[Value.ref b] s) (entryFrame m ([Value.ref b] : List Value).toArray 4) := by
      rw [hh0]
      exact whole_start l hbd ⟨B.exec, B.bytes, B.returns, hml, hown, hts, hX, hbl, B.notSynchronized, hgv⟩
    obtain ⟨t, a1, o, b1, b2, b3⟩ := K s₁ rfl X₀
    exact ⟨t, o, a1, b1, b2, b3⟩
theorem lw_pre_spec {args : Array Value} {s : State} (h : (Jvm.Cond.and given_1 narrow_1).before args s = true) (hr : rest_1_c.before args s = true) : ∃ (b : Addr) (xs : List Int32), lw_P b xs args s := by
  have hs := flat_of_before _ h
  have hq := flat_of_before _ hr
  have hc : (Cond.count 1).before args s = true := hs _ (by decide +kernel)
  have harr : (Cond.arrayOf (.arg 0) .int).before args s = true := hs _ (by decide +kernel)
  have hle : (Cond.le (.length (.arg 0)) (.int 2560)).before args s = true := hs _ (by decide +kernel)
  have hlen : (Cond.isInt (.length (.arg 0))).before args s = true := hq _ (by decide +kernel)
  have hall : (Cond.all (.arg 0) (.isInt (.elem (.arg 0) (.index 0)))).before args s = true := hq _ (by decide +kernel)
  obtain ⟨b, xs, hb, hx⟩ := State.ints_of_pre rfl harr hlen hall
  have hsm : xs.length < 2 ^ 31 := hx.choose_spec.2.2.2
  have hev : (Term.length (.arg 0)).eval args s none [] s = some (.int xs.length.toInt32) := hx.length_eval hb
  have hv := Cond.le_ints hev (show (Term.int 2560).eval args s none [] s = some (.int 2560) from rfl)
  have hd : xs.length.toInt32 ≤ 2560 := by
    simpa [Cond.before, Cond.holds, hv] using hle
  have hN : xs.length ≤ 2560 := (Int32.ofNat_le_ofNat hsm (by decide)).mp (show Int32.ofNat xs.length ≤ Int32.ofNat 2560 from hd)
  exact ⟨b, xs, Cond.one_arg hc (show args[0]? = some (.ref b) from hb), hx, hN, h⟩
theorem lw_comes (l : Launch) : Comes l x (Jvm.Cond.code x code maxLocals ret :: tables_1) room_1 (fun tb e args s => Calls_1 tb e args s ∧ rest_1 tb e args s ∧ Pre_1 tb e args s)
    (fun _ _ args s o t => lw_Q args s o t) := by
  intro p e ha hc hk s m args below hf hfit hheap happ hpre
  obtain ⟨b, xs, hP⟩ := lw_pre_spec hpre.2.2 hpre.2.1
  obtain ⟨k, o, h1, h2, h3, hQ⟩ := lw_walk l b xs p e ha hc hk s m args below hf ((Spec.applies_iff_loose hf).mp happ).1 hP trivial
  exact ⟨k, o, h1, h2, h3, hQ⟩
theorem lw_frame {s t : State} {o : Outcome} {args : Array Value} (h : Framed s o t [] 600000 7302250) :
    Framed s o t (fieldLocs frame_1_writes args s ++ arrayLocs frame_1_arrays args s ++ staticLocs frame_1_statics s) 600000 7302250 := h
theorem lw_limb (L : Cond) (hL : ∀ (args : Array Value) (s t : State), L.after args s (.returned (some (.int 1))) t = true) :
    ArmFor flags0 classFile x code maxLocals ret World_1 tables_1 room_1 Calls_1 rest_1 Pre_1
      (fun tb e a s o t => postC L tb e a s o t ∧ Framed s o t (fieldLocs frame_1_writes a s ++ arrayLocs frame_1_arrays a s ++ staticLocs frame_1_statics s) 600000 7302250) := by
  intro l _ _ _ p e ha hc hk s m args below hf hfit hheap happ hpre
  obtain ⟨k, o, h1, h2, h3, rfl, hF⟩ := lw_comes l p e ha hc hk s m args below hf hfit hheap happ hpre
  exact ⟨k, _, h1, h2, h3, hL args s _, lw_frame hF⟩
theorem i_vc : Claimed_1_1 ∧ Claimed_1_2 := ⟨lw_limb limb_1_1 (fun args s t => by simp [limb_1_1, Cond.after, Cond.holds, Cond.value]), lw_limb limb_1_2 (fun args s t => Cond.after_iff.mpr (by
  first | (rw [show limb_1_2 = Cond.eq .result (.int 1) from rfl, Cond.eq_ints (x := 1) (y := 1) rfl rfl]; simp; done) | (simp [limb_1_2, Cond.value, Term.eval]; done)))⟩
