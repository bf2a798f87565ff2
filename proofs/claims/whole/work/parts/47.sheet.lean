theorem iSht_eq {x : Sht} {i : Nat} {ln sz cl ln' sz' cl' : Nat → Int32} (h : iSht x i ln sz cl) (e1 : ln' i = ln i) (e2 : sz' i = sz i) (e3 : ∀ c, c < 40 → cl' (40 * i + c) = cl (40 * i + c)) : iSht x i ln' sz' cl' := by
  rcases h with ⟨h1, h2⟩ | ⟨n, m, h1, h2, h3, h4, h5, h6, h7⟩
  · exact Or.inl ⟨h1, e1.trans h2⟩
  · exact Or.inr ⟨n, m, h1, h2, h3, h4, e1.trans h5, e2.trans h6, fun c hc => (h7 c hc).trans (e3 c (by omega)).symm⟩
theorem e_renew {l z x : Int32} {cells : Nat → Int32} {m : Nat} (hm : m ≤ 40) : ∃ b : Nat → Int32, f_X6_renew l z cells x (nI m) = some (x, nI m, b) ∧ ∀ i, i < m → b i = 0 := by
  have st1 : ∀ f c (s : Nat → Int32), c < m → (∀ i, i < c → s i = 0) → ∃ s' : Nat → Int32, (∀ i, i < c + 1 → s' i = 0) ∧ L_X6_renew_12 (nI m) (f + 1) (nI c) s = L_X6_renew_12 (nI m) f (nI (c + 1)) s' := fun f c s hc h => by
    refine ⟨upd s c 0, fun i hi => ?_, ?_⟩
    · rw [upd_at]
      by_cases e : i = c
      · rw [if_pos e]
      · rw [if_neg e]; exact h i (by omega)
    · rw [L_X6_renew_12, if_neg (nI_ge hc (by omega)), if_pos (inb_nI (by omega) (by omega)), ix_nI (by omega), nI_1]
  obtain ⟨b, h1, h2⟩ := lpP (L := fun f s c => L_X6_renew_12 (nI m) f c s) (n := m) (P := fun c s => ∀ i, i < c → s i = 0) (Q := fun b => ∀ i, i < m → b i = 0) (by omega) (fun f s h => ⟨s, by show L_X6_renew_12 (nI m) (f + 1) (nI m) s = _; rw [L_X6_renew_12, if_pos (nlt_le (by omega))], h⟩) st1 (s0 := cells) (fun i hi => absurd hi (Nat.not_lt_zero i))
  refine ⟨b, ?_, h2⟩
  unfold f_X6_renew
  have h1 : L_X6_renew_12 (nI m) 400 0 cells = some b := h1
  rw [h1, sb]
theorem ix_40 {j c : Nat} : (40 * nI j + nI c : Int32) = nI (40 * j + c) := by
  rw [show (40 : Int32) = nI 40 from rfl, pk_mul, nI_add]
theorem l_sheet40 {cl : Nat → Int32} {j : Nat} (hj : j < 4) : ∃ b : Nat → Int32, L_X12_sheet_40 (nI j) 400 0 cl = some b ∧ (∀ i, i < 40 → b (40 * j + i) = 0) ∧ ∀ i, i < 40 * j ∨ 40 * j + 40 ≤ i → b i = cl i := by
  have st1 : ∀ f c (s : Nat → Int32), c < 40 → ((∀ i, i < c → s (40 * j + i) = 0) ∧ ∀ i, i < 40 * j ∨ 40 * j + 40 ≤ i → s i = cl i) → ∃ s' : Nat → Int32, ((∀ i, i < c + 1 → s' (40 * j + i) = 0) ∧ ∀ i, i < 40 * j ∨ 40 * j + 40 ≤ i → s' i = cl i) ∧ L_X12_sheet_40 (nI j) (f + 1) (nI c) s = L_X12_sheet_40 (nI j) f (nI (c + 1)) s' := fun f c s hc h => by
    refine ⟨upd s (40 * j + c) 0, ⟨fun i hi => ?_, fun i hi => (upd_ne (by omega)).trans (h.2 i hi)⟩, ?_⟩
    · rw [upd_at]
      by_cases e : i = c
      · rw [if_pos (by omega)]
      · rw [if_neg (by omega)]; exact h.1 i (by omega)
    · rw [L_X12_sheet_40, if_neg (show ¬ (40 : Int32) ≤ nI c from nI_ge (b := 40) hc (by omega)), ix_40, if_pos (inb_nI (by omega) (by omega)), ix_nI (by omega), nI_1]
  obtain ⟨b, h1, h2⟩ := lpP (L := fun f s c => L_X12_sheet_40 (nI j) f c s) (n := 40) (P := fun c s => (∀ i, i < c → s (40 * j + i) = 0) ∧ ∀ i, i < 40 * j ∨ 40 * j + 40 ≤ i → s i = cl i) (Q := fun b => (∀ i, i < 40 → b (40 * j + i) = 0) ∧ ∀ i, i < 40 * j ∨ 40 * j + 40 ≤ i → b i = cl i) (by omega) (fun f s h => ⟨s, by show L_X12_sheet_40 (nI j) (f + 1) (nI 40) s = _; rw [L_X12_sheet_40, if_pos (show (40 : Int32) ≤ nI 40 by decide)], h⟩) st1 (s0 := cl) ⟨fun i hi => absurd hi (Nat.not_lt_zero i), fun _ _ => rfl⟩
  exact ⟨b, h1, h2⟩
theorem is_bad1 {x y : Int32} (h : ¬ (0 ≤ x ∧ x ≤ nI 3)) : f_X12_isSheet x y = some 0 := by
  have e : f_X12_in x.toInt64 0 3 = some 0 := in_bad (n := 3) rfl h
  unfold f_X12_isSheet; rw [e, sb, if_pos rfl]
theorem is_bad2 {j : Nat} {y : Int32} (hj : j ≤ 3) (h : ¬ (0 ≤ y ∧ y ≤ nI 2)) : f_X12_isSheet (nI j) y = some 0 := by
  have e : f_X12_in (nI j).toInt64 0 3 = some 1 := in_ok (n := 3) rfl hj (by decide)
  have e2 : f_X12_in y.toInt64 0 2 = some 0 := in_bad (n := 2) rfl h
  unfold f_X12_isSheet; rw [e, sb, if_neg n10, e2, sb, if_pos rfl]
theorem is_ok {j n : Nat} (hj : j ≤ 3) (h : n ≤ 2) : f_X12_isSheet (nI j) (nI n) = some 1 := by
  have e : f_X12_in (nI j).toInt64 0 3 = some 1 := in_ok (n := 3) rfl hj (by decide)
  have e2 : f_X12_in (nI n).toInt64 0 2 = some 1 := in_ok (n := 2) rfl h (by decide)
  unfold f_X12_isSheet; rw [e, sb, if_neg n10, e2, sb, if_neg n10]
theorem p_sheet (s : SX) (t : TM) (x1 : Int32) (x2 : Int32) (x3 : Int32) (hI : Inv s t) : ∃ (v : Int32 × Int32 × Int32 × (Nat → Int32) × Int32 × Int32 × (Nat → Int32) × Int32 × Int32 × (Nat → Int32) × Int32 × Int32 × (Nat → Int32)) (w : Int32 × (Nat → Int32) × (Nat → Int32) × (Nat → Int32)), f_X11_sheet s.sh0.1 s.sh0.2.1 s.sh0.2.2 s.sh1.1 s.sh1.2.1 s.sh1.2.2 s.sh2.1 s.sh2.2.1 s.sh2.2.2 s.sh3.1 s.sh3.2.1 s.sh3.2.2 x1 x2 x3 = some v ∧ f_X12_sheet t.cells t.lanes t.sizes x1 x2 x3 = some w ∧ v.1 = w.1 ∧ Inv (s.torn, s.tape, s.rdr, s.drf, s.now, s.seen, s.tri, s.tcy, s.evg, s.adv, s.gss, s.im0, s.im1, (v.2.1, v.2.2.1, v.2.2.2.1), (v.2.2.2.2.1, v.2.2.2.2.2.1, v.2.2.2.2.2.2.1), (v.2.2.2.2.2.2.2.1, v.2.2.2.2.2.2.2.2.1, v.2.2.2.2.2.2.2.2.2.1), (v.2.2.2.2.2.2.2.2.2.2.1, v.2.2.2.2.2.2.2.2.2.2.2.1, v.2.2.2.2.2.2.2.2.2.2.2.2)) (t.m0, t.m1, t.m2, (t.byKind, w.2.2.1, w.2.2.2, w.2.1, t.torn, t.before)) := by
  obtain ⟨hm, ⟨hs0, hs1, hs2, hs3⟩, ht, hf, hto⟩ := id hI
  rcases cases_in x1 (n := 3) (by decide) with hb | ⟨j, hj, rfl⟩
  · have d1 : f_X11_outside x1 3 = some 1 := ou_bad hb.1
    apply ex3
    · unfold f_X11_sheet; rw [d1, sb, if_neg n10]
    · unfold f_X12_sheet; rw [is_bad1 hb.2, sb, if_pos rfl]
    · rfl
    · exact hI
  · have d1 : f_X11_outside (nI j) 3 = some 0 := ou_ok (n := 3) rfl hj (by omega)
    rcases cases_in x2 (n := 2) (by decide) with hb | ⟨n, hn, rfl⟩
    · have d2 : f_X11_outside x2 2 = some 1 := ou_bad hb.1
      apply ex3
      · unfold f_X11_sheet; rw [d1, sb, if_pos rfl, d2, sb, if_neg n10]
      · unfold f_X12_sheet; rw [is_bad2 hj hb.2, sb, if_pos rfl]
      · rfl
      · exact hI
    · have d2 : f_X11_outside (nI n) 2 = some 0 := ou_ok (n := 2) rfl hn (by omega)
      have d3 := is_ok hj hn
      by_cases h40 : x3 ≤ 40
      · by_cases h0 : 0 ≤ x3
        · rcases cases_in x3 (n := 40) (by decide) with hb | ⟨m, hm40, rfl⟩
          · exact absurd ⟨h0, h40⟩ hb.2
          · obtain ⟨cl, l1, l2, l3⟩ := l_sheet40 (cl := t.cells) (j := j) (by omega)
            have i4 : inb (nI j) 4 := inb_nI (by omega) (by omega)
            have x4 : ix (nI j) = j := ix_nI (by omega)
            obtain rfl | rfl | rfl | rfl : j = 0 ∨ j = 1 ∨ j = 2 ∨ j = 3 := by omega
            · obtain ⟨b, b1, b2⟩ := e_renew (l := s.sh0.1) (z := s.sh0.2.1) (x := nI n) (cells := s.sh0.2.2) hm40
              apply ex3
              · unfold f_X11_sheet; rw [d1, sb, if_pos rfl, d2, sb, if_pos rfl, if_pos h40, if_pos h0, if_pos (by decide), b1, sb]
              · unfold f_X12_sheet; rw [d3, sb, if_neg n10, if_pos h40, if_pos h0, if_pos i4, if_pos i4, l1, sb, x4]
              · rfl
              · exact ⟨hm, ⟨Or.inr ⟨n, m, hn, hm40, rfl, rfl, rfl, rfl, fun i hi => (b2 i hi).trans (l2 i (by omega)).symm⟩, iSht_eq hs1 rfl rfl (fun c hc => l3 _ (by omega)), iSht_eq hs2 rfl rfl (fun c hc => l3 _ (by omega)), iSht_eq hs3 rfl rfl (fun c hc => l3 _ (by omega))⟩, ht, hf, hto⟩
            · obtain ⟨b, b1, b2⟩ := e_renew (l := s.sh1.1) (z := s.sh1.2.1) (x := nI n) (cells := s.sh1.2.2) hm40
              apply ex3
              · unfold f_X11_sheet; rw [d1, sb, if_pos rfl, d2, sb, if_pos rfl, if_pos h40, if_pos h0, if_neg (by decide), if_pos (by decide), b1, sb]
              · unfold f_X12_sheet; rw [d3, sb, if_neg n10, if_pos h40, if_pos h0, if_pos i4, if_pos i4, l1, sb, x4]
              · rfl
              · exact ⟨hm, ⟨iSht_eq hs0 rfl rfl (fun c hc => l3 _ (by omega)), Or.inr ⟨n, m, hn, hm40, rfl, rfl, rfl, rfl, fun i hi => (b2 i hi).trans (l2 i (by omega)).symm⟩, iSht_eq hs2 rfl rfl (fun c hc => l3 _ (by omega)), iSht_eq hs3 rfl rfl (fun c hc => l3 _ (by omega))⟩, ht, hf, hto⟩
            · obtain ⟨b, b1, b2⟩ := e_renew (l := s.sh2.1) (z := s.sh2.2.1) (x := nI n) (cells := s.sh2.2.2) hm40
              apply ex3
              · unfold f_X11_sheet; rw [d1, sb, if_pos rfl, d2, sb, if_pos rfl, if_pos h40, if_pos h0, if_neg (by decide), if_neg (by decide), if_pos (by decide), b1, sb]
              · unfold f_X12_sheet; rw [d3, sb, if_neg n10, if_pos h40, if_pos h0, if_pos i4, if_pos i4, l1, sb, x4]
              · rfl
              · exact ⟨hm, ⟨iSht_eq hs0 rfl rfl (fun c hc => l3 _ (by omega)), iSht_eq hs1 rfl rfl (fun c hc => l3 _ (by omega)), Or.inr ⟨n, m, hn, hm40, rfl, rfl, rfl, rfl, fun i hi => (b2 i hi).trans (l2 i (by omega)).symm⟩, iSht_eq hs3 rfl rfl (fun c hc => l3 _ (by omega))⟩, ht, hf, hto⟩
            · obtain ⟨b, b1, b2⟩ := e_renew (l := s.sh3.1) (z := s.sh3.2.1) (x := nI n) (cells := s.sh3.2.2) hm40
              apply ex3
              · unfold f_X11_sheet; rw [d1, sb, if_pos rfl, d2, sb, if_pos rfl, if_pos h40, if_pos h0, if_neg (by decide), if_neg (by decide), if_neg (by decide), if_pos (by decide), b1, sb]
              · unfold f_X12_sheet; rw [d3, sb, if_neg n10, if_pos h40, if_pos h0, if_pos i4, if_pos i4, l1, sb, x4]
              · rfl
              · exact ⟨hm, ⟨iSht_eq hs0 rfl rfl (fun c hc => l3 _ (by omega)), iSht_eq hs1 rfl rfl (fun c hc => l3 _ (by omega)), iSht_eq hs2 rfl rfl (fun c hc => l3 _ (by omega)), Or.inr ⟨n, m, hn, hm40, rfl, rfl, rfl, rfl, fun i hi => (b2 i hi).trans (l2 i (by omega)).symm⟩⟩, ht, hf, hto⟩
        · apply ex3
          · unfold f_X11_sheet; rw [d1, sb, if_pos rfl, d2, sb, if_pos rfl, if_pos h40, if_neg h0]
          · unfold f_X12_sheet; rw [d3, sb, if_neg n10, if_pos h40, if_neg h0]
          · rfl
          · exact hI
      · apply ex3
        · unfold f_X11_sheet; rw [d1, sb, if_pos rfl, d2, sb, if_pos rfl, if_neg h40]
        · unfold f_X12_sheet; rw [d3, sb, if_neg n10, if_neg h40]
        · rfl
        · exact hI
/-- what a lane keeps of a number -/
def vl (n : Nat) (x : Int32) : Int32 := if n = 0 then x.toInt8.toInt32 else if n = 1 then x.toInt16.toInt32 else x
theorem e_put {cells : Nat → Int32} {n i : Nat} {x : Int32} (hn : n ≤ 2) (hi : i < 40) : f_X6_put (nI n) cells (nI i) x = some (upd cells i (vl n x)) := by
  have i4 : inb (nI i) 40 := inb_nI hi (by omega)
  unfold f_X6_put
  rw [if_pos i4, if_pos i4, if_pos i4, ix_nI (by omega)]
  obtain rfl | rfl | rfl : n = 0 ∨ n = 1 ∨ n = 2 := by omega
  · rw [if_pos (by decide)]; rfl
  · rw [if_neg (by decide), if_pos (by decide)]; rfl
  · rw [if_neg (by decide), if_neg (by decide)]; rfl
theorem nthing {m : Nat} (h : m ≤ 40) : f_X6_isNothing (nI m) = some 0 := by
  unfold f_X6_isNothing
  rw [if_neg]
  intro e
  have := congrArg Int32.toInt e
  rw [nI_toInt (by omega)] at this
  have e2 : (-1 : Int32).toInt = -1 := by decide
  omega
theorem e_fA {l x : Int32} {m : Nat} (hm : m ≤ 40) : f_X6_faultAt l (nI m) l x = some (if 0 ≤ x ∧ x < nI m then 0 else 2) := by
  unfold f_X6_faultAt
  rw [nthing hm, sb, if_pos rfl, if_pos rfl]
  by_cases h1 : x < 0
  · rw [if_pos h1, if_neg (fun z => by have a := Int32.lt_iff_toInt_lt.mp h1; have b := Int32.le_iff_toInt_le.mp z.1; omega)]
  · rw [if_neg h1]
    by_cases h2 : x < nI m
    · rw [if_pos h2, if_pos ⟨Int32.not_lt.mp h1, h2⟩]
    · rw [if_neg h2, if_neg (fun z => h2 z.2)]
theorem e_fN {l k x : Int32} : f_X6_faultAt l (-1) k x = some 1 := rfl
theorem inm {x : Int32} {m : Nat} (hm : m ≤ 40) : f_X12_in x.toInt64 0 (nI m - 1).toInt64 = some (if 0 ≤ x ∧ x < nI m then 1 else 0) := by
  have e3 : f_X12_in x.toInt64 0 (nI m - 1).toInt64 = some (if 0 ≤ x ∧ x ≤ nI m - 1 then 1 else 0) := e_in x 0 (nI m - 1)
  rw [e3]
  have e1 : (nI m - nI 1).toInt = (m : Int) - 1 := pk_sub_toInt (by omega) (by omega)
  have e2 : (nI m - 1).toInt = (m : Int) - 1 := e1
  by_cases h : 0 ≤ x ∧ x < nI m
  · rw [if_pos h, if_pos]
    refine ⟨h.1, ?_⟩
    have := Int32.lt_iff_toInt_lt.mp h.2
    rw [nI_toInt (by omega)] at this
    rw [Int32.le_iff_toInt_le, e2]; omega
  · rw [if_neg h, if_neg]
    rintro ⟨a, b⟩
    apply h
    refine ⟨a, ?_⟩
    have := Int32.le_iff_toInt_le.mp b
    rw [e2] at this
    rw [Int32.lt_iff_toInt_lt, nI_toInt (by omega)]; omega
theorem e_vl {ln : Nat → Int32} {j n : Nat} {x : Int32} (hn : n ≤ 2) (hj : inb (nI j) 4) (h : ln (ix (nI j)) = nI n) : (if ln (ix (nI j)) = 0 then some x.toInt8.toInt32 else if inb (nI j) 4 then (if ln (ix (nI j)) = 1 then some x.toInt16.toInt32 else some x) else none) = some (vl n x) := by
  rw [if_pos hj]
  obtain rfl | rfl | rfl : n = 0 ∨ n = 1 ∨ n = 2 := by omega
  · rw [if_pos (show ln (ix (nI j)) = 0 from h)]; rfl
  · rw [if_neg (show ¬ ln (ix (nI j)) = 0 from by rw [h]; decide), if_pos (show ln (ix (nI j)) = 1 from h)]; rfl
  · rw [if_neg (show ¬ ln (ix (nI j)) = 0 from by rw [h]; decide), if_neg (show ¬ ln (ix (nI j)) = 1 from by rw [h]; decide)]; rfl
theorem p_lay (s : SX) (t : TM) (x1 : Int32) (x2 : Int32) (x3 : Int32) (hI : Inv s t) : ∃ (v : Int32 × (Nat → Int32) × (Nat → Int32) × (Nat → Int32) × (Nat → Int32)) (w : Int32 × (Nat → Int32)), f_X11_lay s.sh0.1 s.sh0.2.1 s.sh0.2.2 s.sh1.1 s.sh1.2.1 s.sh1.2.2 s.sh2.1 s.sh2.2.1 s.sh2.2.2 s.sh3.1 s.sh3.2.1 s.sh3.2.2 x1 x2 x3 = some v ∧ f_X12_lay t.cells t.lanes t.sizes x1 x2 x3 = some w ∧ v.1 = w.1 ∧ Inv (s.torn, s.tape, s.rdr, s.drf, s.now, s.seen, s.tri, s.tcy, s.evg, s.adv, s.gss, s.im0, s.im1, (s.sh0.1, s.sh0.2.1, v.2.1), (s.sh1.1, s.sh1.2.1, v.2.2.1), (s.sh2.1, s.sh2.2.1, v.2.2.2.1), (s.sh3.1, s.sh3.2.1, v.2.2.2.2)) (t.m0, t.m1, t.m2, (t.byKind, t.lanes, t.sizes, w.2, t.torn, t.before)) := by
  obtain ⟨hm, ⟨hs0, hs1, hs2, hs3⟩, ht, hf, hto⟩ := id hI
  rcases cases_in x1 (n := 3) (by decide) with hb | ⟨j, hj, rfl⟩
  · have d1 : f_X11_outside x1 3 = some 1 := ou_bad hb.1
    apply ex3
    · unfold f_X11_lay; rw [d1, sb, if_neg n10]
    · unfold f_X12_lay; rw [is_bad1 hb.2, sb, if_pos rfl]
    · rfl
    · exact hI
  · have d1 : f_X11_outside (nI j) 3 = some 0 := ou_ok (n := 3) rfl hj (by omega)
    have d3 : f_X12_isSheet (nI j) 0 = some 1 := is_ok (n := 0) hj (by omega)
    have i4 : inb (nI j) 4 := inb_nI (by omega) (by omega)
    have x4 : ix (nI j) = j := ix_nI (by omega)
    obtain rfl | rfl | rfl | rfl : j = 0 ∨ j = 1 ∨ j = 2 ∨ j = 3 := by omega
    · rcases id hs0 with ⟨p1, p2⟩ | ⟨n, m, hn, hm40, p3, p4, p5, p6, p7⟩
      · have p1 : s.sh0.2.1 = -1 := p1
        have p2 : t.lanes (ix (nI 0)) = -4 := p2
        apply ex3
        · unfold f_X11_lay; rw [d1, sb, if_pos rfl, if_pos (by decide), p1, e_fN, sb, if_neg n10]
        · unfold f_X12_lay; rw [d3, sb, if_neg n10, if_pos i4, if_pos p2]
        · rfl
        · exact hI
      · have p4' : s.sh0.2.1 = nI m := p4
        have p3' : s.sh0.1 = nI n := p3
        have p5' : t.lanes (ix (nI 0)) = nI n := p5
        have p6' : t.sizes (ix (nI 0)) = nI m := p6
        have n4 : ¬ t.lanes (ix (nI 0)) = -4 := by rw [p5']; exact nI_n4 (by omega)
        rcases ixc x2 (n := m) (by omega) with hb | ⟨i, hi, rfl⟩
        · have d5 : ¬ (0 ≤ x2 ∧ x2 < nI m) := ix_bad (by omega) hb
          apply ex3
          · unfold f_X11_lay; rw [d1, sb, if_pos rfl, if_pos (by decide), p4', e_fA hm40, if_neg d5, sb, if_neg (by decide)]
          · unfold f_X12_lay; rw [d3, sb, if_neg n10, if_pos i4, if_neg n4, if_pos i4, p6', inm hm40, if_neg d5, sb, if_pos rfl]
          · rfl
          · exact hI
        · have d5 : 0 ≤ nI i ∧ nI i < nI m := ⟨nI_pos' (by omega), nI_lt hi (by omega)⟩
          have e7 : (40 * nI 0 + nI i : Int32) = nI (40 * 0 + i) := ix_40
          apply ex3
          · unfold f_X11_lay; rw [d1, sb, if_pos rfl, if_pos (by decide), p4', e_fA hm40, if_pos d5, sb, if_pos rfl, p3', e_put hn (by omega), sb]
          · unfold f_X12_lay; rw [d3, sb, if_neg n10, if_pos i4, if_neg n4, if_pos i4, p6', inm hm40, if_pos d5, sb, if_neg n10, if_pos i4, e_vl hn i4 p5', sb, e7, if_pos (inb_nI (by omega) (by omega)), ix_nI (by omega)]
          · rfl
          · exact ⟨hm, ⟨Or.inr ⟨n, m, hn, hm40, p3, p4, p5, p6, fun c hc => by show upd _ i _ c = upd _ _ _ _; rw [upd_at, upd_at]; by_cases e : c = i; rw [if_pos e, if_pos (by omega)]; rw [if_neg e, if_neg (by omega)]; exact p7 c hc⟩, iSht_eq hs1 rfl rfl (fun c hc => upd_ne (by omega)), iSht_eq hs2 rfl rfl (fun c hc => upd_ne (by omega)), iSht_eq hs3 rfl rfl (fun c hc => upd_ne (by omega))⟩, ht, hf, hto⟩
    · rcases id hs1 with ⟨p1, p2⟩ | ⟨n, m, hn, hm40, p3, p4, p5, p6, p7⟩
      · have p1 : s.sh1.2.1 = -1 := p1
        have p2 : t.lanes (ix (nI 1)) = -4 := p2
        apply ex3
        · unfold f_X11_lay; rw [d1, sb, if_pos rfl, if_neg (by decide), if_pos (by decide), p1, e_fN, sb, if_neg n10]
        · unfold f_X12_lay; rw [d3, sb, if_neg n10, if_pos i4, if_pos p2]
        · rfl
        · exact hI
      · have p4' : s.sh1.2.1 = nI m := p4
        have p3' : s.sh1.1 = nI n := p3
        have p5' : t.lanes (ix (nI 1)) = nI n := p5
        have p6' : t.sizes (ix (nI 1)) = nI m := p6
        have n4 : ¬ t.lanes (ix (nI 1)) = -4 := by rw [p5']; exact nI_n4 (by omega)
        rcases ixc x2 (n := m) (by omega) with hb | ⟨i, hi, rfl⟩
        · have d5 : ¬ (0 ≤ x2 ∧ x2 < nI m) := ix_bad (by omega) hb
          apply ex3
          · unfold f_X11_lay; rw [d1, sb, if_pos rfl, if_neg (by decide), if_pos (by decide), p4', e_fA hm40, if_neg d5, sb, if_neg (by decide)]
          · unfold f_X12_lay; rw [d3, sb, if_neg n10, if_pos i4, if_neg n4, if_pos i4, p6', inm hm40, if_neg d5, sb, if_pos rfl]
          · rfl
          · exact hI
        · have d5 : 0 ≤ nI i ∧ nI i < nI m := ⟨nI_pos' (by omega), nI_lt hi (by omega)⟩
          have e7 : (40 * nI 1 + nI i : Int32) = nI (40 * 1 + i) := ix_40
          apply ex3
          · unfold f_X11_lay; rw [d1, sb, if_pos rfl, if_neg (by decide), if_pos (by decide), p4', e_fA hm40, if_pos d5, sb, if_pos rfl, p3', e_put hn (by omega), sb]
          · unfold f_X12_lay; rw [d3, sb, if_neg n10, if_pos i4, if_neg n4, if_pos i4, p6', inm hm40, if_pos d5, sb, if_neg n10, if_pos i4, e_vl hn i4 p5', sb, e7, if_pos (inb_nI (by omega) (by omega)), ix_nI (by omega)]
          · rfl
          · exact ⟨hm, ⟨iSht_eq hs0 rfl rfl (fun c hc => upd_ne (by omega)), Or.inr ⟨n, m, hn, hm40, p3, p4, p5, p6, fun c hc => by show upd _ i _ c = upd _ _ _ _; rw [upd_at, upd_at]; by_cases e : c = i; rw [if_pos e, if_pos (by omega)]; rw [if_neg e, if_neg (by omega)]; exact p7 c hc⟩, iSht_eq hs2 rfl rfl (fun c hc => upd_ne (by omega)), iSht_eq hs3 rfl rfl (fun c hc => upd_ne (by omega))⟩, ht, hf, hto⟩
    · rcases id hs2 with ⟨p1, p2⟩ | ⟨n, m, hn, hm40, p3, p4, p5, p6, p7⟩
      · have p1 : s.sh2.2.1 = -1 := p1
        have p2 : t.lanes (ix (nI 2)) = -4 := p2
        apply ex3
        · unfold f_X11_lay; rw [d1, sb, if_pos rfl, if_neg (by decide), if_neg (by decide), if_pos (by decide), p1, e_fN, sb, if_neg n10]
        · unfold f_X12_lay; rw [d3, sb, if_neg n10, if_pos i4, if_pos p2]
        · rfl
        · exact hI
      · have p4' : s.sh2.2.1 = nI m := p4
        have p3' : s.sh2.1 = nI n := p3
        have p5' : t.lanes (ix (nI 2)) = nI n := p5
        have p6' : t.sizes (ix (nI 2)) = nI m := p6
        have n4 : ¬ t.lanes (ix (nI 2)) = -4 := by rw [p5']; exact nI_n4 (by omega)
        rcases ixc x2 (n := m) (by omega) with hb | ⟨i, hi, rfl⟩
        · have d5 : ¬ (0 ≤ x2 ∧ x2 < nI m) := ix_bad (by omega) hb
          apply ex3
          · unfold f_X11_lay; rw [d1, sb, if_pos rfl, if_neg (by decide), if_neg (by decide), if_pos (by decide), p4', e_fA hm40, if_neg d5, sb, if_neg (by decide)]
          · unfold f_X12_lay; rw [d3, sb, if_neg n10, if_pos i4, if_neg n4, if_pos i4, p6', inm hm40, if_neg d5, sb, if_pos rfl]
          · rfl
          · exact hI
        · have d5 : 0 ≤ nI i ∧ nI i < nI m := ⟨nI_pos' (by omega), nI_lt hi (by omega)⟩
          have e7 : (40 * nI 2 + nI i : Int32) = nI (40 * 2 + i) := ix_40
          apply ex3
          · unfold f_X11_lay; rw [d1, sb, if_pos rfl, if_neg (by decide), if_neg (by decide), if_pos (by decide), p4', e_fA hm40, if_pos d5, sb, if_pos rfl, p3', e_put hn (by omega), sb]
          · unfold f_X12_lay; rw [d3, sb, if_neg n10, if_pos i4, if_neg n4, if_pos i4, p6', inm hm40, if_pos d5, sb, if_neg n10, if_pos i4, e_vl hn i4 p5', sb, e7, if_pos (inb_nI (by omega) (by omega)), ix_nI (by omega)]
          · rfl
          · exact ⟨hm, ⟨iSht_eq hs0 rfl rfl (fun c hc => upd_ne (by omega)), iSht_eq hs1 rfl rfl (fun c hc => upd_ne (by omega)), Or.inr ⟨n, m, hn, hm40, p3, p4, p5, p6, fun c hc => by show upd _ i _ c = upd _ _ _ _; rw [upd_at, upd_at]; by_cases e : c = i; rw [if_pos e, if_pos (by omega)]; rw [if_neg e, if_neg (by omega)]; exact p7 c hc⟩, iSht_eq hs3 rfl rfl (fun c hc => upd_ne (by omega))⟩, ht, hf, hto⟩
    · rcases id hs3 with ⟨p1, p2⟩ | ⟨n, m, hn, hm40, p3, p4, p5, p6, p7⟩
      · have p1 : s.sh3.2.1 = -1 := p1
        have p2 : t.lanes (ix (nI 3)) = -4 := p2
        apply ex3
        · unfold f_X11_lay; rw [d1, sb, if_pos rfl, if_neg (by decide), if_neg (by decide), if_neg (by decide), if_pos (by decide), p1, e_fN, sb, if_neg n10]
        · unfold f_X12_lay; rw [d3, sb, if_neg n10, if_pos i4, if_pos p2]
        · rfl
        · exact hI
      · have p4' : s.sh3.2.1 = nI m := p4
        have p3' : s.sh3.1 = nI n := p3
        have p5' : t.lanes (ix (nI 3)) = nI n := p5
        have p6' : t.sizes (ix (nI 3)) = nI m := p6
        have n4 : ¬ t.lanes (ix (nI 3)) = -4 := by rw [p5']; exact nI_n4 (by omega)
        rcases ixc x2 (n := m) (by omega) with hb | ⟨i, hi, rfl⟩
        · have d5 : ¬ (0 ≤ x2 ∧ x2 < nI m) := ix_bad (by omega) hb
          apply ex3
          · unfold f_X11_lay; rw [d1, sb, if_pos rfl, if_neg (by decide), if_neg (by decide), if_neg (by decide), if_pos (by decide), p4', e_fA hm40, if_neg d5, sb, if_neg (by decide)]
          · unfold f_X12_lay; rw [d3, sb, if_neg n10, if_pos i4, if_neg n4, if_pos i4, p6', inm hm40, if_neg d5, sb, if_pos rfl]
          · rfl
          · exact hI
        · have d5 : 0 ≤ nI i ∧ nI i < nI m := ⟨nI_pos' (by omega), nI_lt hi (by omega)⟩
          have e7 : (40 * nI 3 + nI i : Int32) = nI (40 * 3 + i) := ix_40
          apply ex3
          · unfold f_X11_lay; rw [d1, sb, if_pos rfl, if_neg (by decide), if_neg (by decide), if_neg (by decide), if_pos (by decide), p4', e_fA hm40, if_pos d5, sb, if_pos rfl, p3', e_put hn (by omega), sb]
          · unfold f_X12_lay; rw [d3, sb, if_neg n10, if_pos i4, if_neg n4, if_pos i4, p6', inm hm40, if_pos d5, sb, if_neg n10, if_pos i4, e_vl hn i4 p5', sb, e7, if_pos (inb_nI (by omega) (by omega)), ix_nI (by omega)]
          · rfl
          · exact ⟨hm, ⟨iSht_eq hs0 rfl rfl (fun c hc => upd_ne (by omega)), iSht_eq hs1 rfl rfl (fun c hc => upd_ne (by omega)), iSht_eq hs2 rfl rfl (fun c hc => upd_ne (by omega)), Or.inr ⟨n, m, hn, hm40, p3, p4, p5, p6, fun c hc => by show upd _ i _ c = upd _ _ _ _; rw [upd_at, upd_at]; by_cases e : c = i; rw [if_pos e, if_pos (by omega)]; rw [if_neg e, if_neg (by omega)]; exact p7 c hc⟩⟩, ht, hf, hto⟩
