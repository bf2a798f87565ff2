theorem upd_ne {f : Nat → Int32} {i j : Nat} {x : Int32} (h : ¬ j = i) : upd f i x j = f j := if_neg h
theorem iM_set {x x' : Cty} {y : Sgt} {i0 i1 : Img} {st st' kp : Nat → Int32} {nh nc : Int32} {k k' : Ka} {q : Sa} (htw : two x y st 0 k q) (eh : nh = nI k.hs) (ec : nc = nI k.cm) (hi0 : iImg i0 st 66 (kp 0) k) (hi1 : iImg i1 st 132 (kp 1) k) (hk' : kok k') (hev : k'.ev ≤ 999) (hC' : relC x' k') (hM' : relM st' 0 k') (s1 : k'.hs = k.hs) (s2 : k'.cm = k.cm) (e : ∀ j, 47 ≤ j → st' j = st j) : iMain x' y i0 i1 st' kp nh nc := by
  obtain ⟨hk, hv, hC, hM, hso, hS, hSM⟩ := htw
  exact ⟨k', q, ⟨hk', hev, hC', hM', by rw [s1]; exact hso, hS, relSM_at hso.1 hSM (fun j j1 hj => e _ (by omega))⟩, eh.trans (congrArg nI s1.symm), ec.trans (congrArg nI s2.symm), iImg_at hi0 (fun j hj => e _ (by omega)) s1 s2, iImg_at hi1 (fun j hj => e _ (by omega)) s1 s2⟩
theorem e_becomes {st : Nat → Int32} {x : Int32} {j : Nat} (h : j < 198) : f_X12_becomes st (nI j) x = some (st j, upd st j x) := by
  unfold f_X12_becomes
  rw [if_pos (inb_nI h (by omega)), if_pos (inb_nI h (by omega)), ix_nI (by omega)]
theorem e_exchange {r : Nat → Int32} {x : Int32} {j : Nat} (h : j < 6) : f_X11_exchange r (nI j) x = some (r j, upd r j x) := by
  unfold f_X11_exchange
  rw [if_pos (inb_nI h (by omega)), if_pos (inb_nI h (by omega)), ix_nI (by omega)]
theorem e_hoN {g : Nat} (h : g ≤ 9) : f_X11_houseOrNone (nI g) = some (goI g) := by
  unfold f_X11_houseOrNone goI
  by_cases q : g = 9
  · rw [q]; rfl
  · rw [if_neg q, if_neg (show ¬ nI g = 9 from fun z => q ((nI_eq (b := 9) (by omega) (by omega)).mp z))]
theorem e_asKept {g : Nat} (h : g ≤ 9) : f_X12_asKept (nI g) = some (goI g) := e_hoN h
/-- a destination: a house, or 9 -/
theorem desc (x : Int32) {n : Nat} (hn : n ≤ 4) : (¬ x = 9 ∧ (x < 0 ∨ nI n ≤ x)) ∨ ∃ g : Nat, (g < n ∨ g = 9) ∧ x = nI g := by
  by_cases e : x = 9
  · exact Or.inr ⟨9, Or.inr rfl, e⟩
  · rcases ixc x (n := n) (by omega) with h | ⟨g, hg, rfl⟩
    · exact Or.inl ⟨e, h⟩
    · exact Or.inr ⟨g, Or.inl hg, rfl⟩
theorem nd_bad {x : Int32} {n : Nat} (hn : n ≤ 4) (h : ¬ x = 9 ∧ (x < 0 ∨ nI n ≤ x)) : f_X1_noDestination (nI n) x = some 1 := by
  unfold f_X1_noDestination
  rw [if_neg h.1]
  by_cases q : x < 0
  · rw [if_pos q]
  · rw [if_neg q, if_neg (fun z => ix_bad (by omega) h.2 ⟨Int32.not_lt.mp q, z⟩)]
theorem nd_ok {g n : Nat} (hn : n ≤ 4) (h : g < n ∨ g = 9) : f_X1_noDestination (nI n) (nI g) = some 0 := by
  unfold f_X1_noDestination
  rcases h with h | h
  · rw [if_neg (show ¬ nI g = 9 from fun z => by have := (nI_eq (b := 9) (by omega) (by omega)).mp z; omega), if_neg (nI_pos (by omega)), if_pos (nI_lt h (by omega))]
  · rw [h]; rfl
theorem p_alter (s : SX) (t : TM) (x1 : Int32) (x2 : Int32) (x3 : Int32) (hI : Inv s t) : ∃ (v : Int32 × (Nat → Int32) × (Nat → Int32) × (Nat → Int32)) (w : Int32 × (Nat → Int32)), f_X11_alter s.now.1 s.now.2.1 s.now.2.2.2.2.2.2.1 s.now.2.2.2.2.2.1 s.now.2.2.2.2.1 x1 x2 x3 = some v ∧ f_X12_alter t.houses t.comers t.st x1 x2 x3 = some w ∧ v.1 = w.1 ∧ Inv (s.torn, s.tape, s.rdr, s.drf, (s.now.1, s.now.2.1, s.now.2.2.1, s.now.2.2.2.1, v.2.2.2, v.2.2.1, v.2.1, s.now.2.2.2.2.2.2.2), s.seen, s.tri, s.tcy, s.evg, s.adv, s.gss, s.im0, s.im1, s.sh0, s.sh1, s.sh2, s.sh3) ((w.2, t.now, t.isKept, t.houses, t.comers, t.draft, t.dHouses, t.dComers, t.highestHouse), t.m1, t.m2, t.m3) := by
  obtain ⟨⟨k, q, htw, eh, ec, hi0, hi1⟩, hs, ht, hf, hto⟩ := id hI
  obtain ⟨hk, hev, hC, hM, hso, hS, hSM⟩ := id htw
  have k4 := hk.1
  have k6 := hk.2.1
  have c1 : s.now.1 = nI k.hs := hC.1
  have c2 : s.now.2.1 = nI k.cm := hC.2.1
  rcases ixc x1 (n := k.cm) (by omega) with hb | ⟨c, hc, rfl⟩
  · have a1 : f_X11_noComer s.now.2.1 x1 = some 1 := by rw [c2]; exact nc_bad (by omega) hb
    have a2 : f_X12_isComer t.comers x1 = some 0 := by rw [ec]; exact ic_bad (by omega) hb
    have a3 : f_X12_alter t.houses t.comers t.st x1 x2 x3 = some (-1, t.st) := by
      unfold f_X12_alter
      rw [a2]
      have g : ∀ (A : Option Int32), (∃ z, A = some z) → (A.bind fun v1 => (some (0 : Int32)).bind fun v2 => if v2 = 0 then some (-1, t.st) else if v1 = 0 then some (-1, t.st) else (if x2 = 1 then ((f_X12_asKept x3).bind (fun v5 => some v5)) else some x3).bind fun v3 => (f_X12_becomes t.st (4 + 3 * x1 + x2) v3).bind fun v4 => some (v4.1, v4.2)) = some (-1, t.st) := fun A hA => by
        obtain ⟨z, rfl⟩ := hA
        rw [sb, sb, if_pos rfl]
      apply g
      have i3 : ∃ z, f_X12_in x3.toInt64 0 3 = some z := ⟨_, e_in x3 0 3⟩
      have i6 : ∃ z, f_X12_in x3.toInt64 0 6 = some z := ⟨_, e_in x3 0 6⟩
      obtain ⟨z3, i3⟩ := i3
      obtain ⟨z6, i6⟩ := i6
      have ih : ∃ z, f_X12_isHouse t.houses x3 = some z := by
        rw [eh]
        rcases ixc x3 (n := k.hs) (by omega) with hb | ⟨h, hh, rfl⟩
        · exact ⟨0, ih_bad (by omega) hb⟩
        · exact ⟨1, ih_ok (by omega) hh⟩
      obtain ⟨zh, ih⟩ := ih
      rw [i3, i6, ih]
      simp only [sb]
      split
      · exact ⟨_, rfl⟩
      · split
        · split
          · exact ⟨_, rfl⟩
          · split <;> exact ⟨_, rfl⟩
        · split
          · split <;> exact ⟨_, rfl⟩
          · exact ⟨_, rfl⟩
    apply ex3
    · unfold f_X11_alter; rw [a1, sb, if_neg n10]
    · exact a3
    · rfl
    · exact hI
  · have a1 : f_X11_noComer s.now.2.1 (nI c) = some 0 := by rw [c2]; exact nc_ok (by omega) hc
    have a2 : f_X12_isComer t.comers (nI c) = some 1 := by rw [ec]; exact ic_ok (by omega) hc
    obtain ⟨r1, r2, r3⟩ := hC.2.2.2.2.1 c hc
    obtain ⟨m1, m2, m3⟩ := hM.2.1 c hc
    rcases cases_in x2 (n := 2) (by decide) with hb | ⟨n, hn, rfl⟩
    · have o : ∀ j, j ≤ 2 → ¬ x2 = nI j := fun j hj => ne_out hb.2 hj (by decide)
      apply ex3
      · unfold f_X11_alter; rw [a1, sb, if_pos rfl, if_neg (show ¬ x2 = 0 from o 0 (by decide)), if_neg (show ¬ x2 = 1 from o 1 (by decide)), if_neg (show ¬ x2 = 2 from o 2 (by decide))]
      · unfold f_X12_alter; rw [if_neg (show ¬ x2 = 0 from o 0 (by decide)), if_neg (show ¬ x2 = 1 from o 1 (by decide)), if_neg (show ¬ x2 = 2 from o 2 (by decide)), sb, a2, sb, if_neg n10, if_pos rfl]
      · rfl
      · exact hI
    · obtain rfl | rfl | rfl : n = 0 ∨ n = 1 ∨ n = 2 := by omega
      · rcases cases_in x3 (n := 3) (by decide) with hb | ⟨v, hv, rfl⟩
        · have d1 : f_X11_outside x3 3 = some 1 := ou_bad hb.1
          have d2 : f_X12_in x3.toInt64 0 3 = some 0 := in_bad (n := 3) rfl hb.2
          apply ex3
          · unfold f_X11_alter; rw [a1, sb, if_pos rfl, if_pos (by decide), d1, sb, if_neg n10]
          · unfold f_X12_alter; rw [if_pos (by decide), d2, sb, sb, a2, sb, if_neg n10, if_pos rfl]
          · rfl
          · exact hI
        · have d1 : f_X11_outside (nI v) 3 = some 0 := ou_ok (n := 3) rfl hv (by decide)
          have d2 : f_X12_in (nI v).toInt64 0 3 = some 1 := in_ok (n := 3) rfl hv (by decide)
          have e5 : (4 + 3 * nI c + nI 0 : Int32) = nI (0 + 4 + 3 * c) := by rw [ix_of]; exact congrArg nI (by omega)
          apply ex3
          · unfold f_X11_alter; rw [a1, sb, if_pos rfl, if_pos (by decide), d1, sb, if_pos rfl, e_exchange (by omega), sb]
          · unfold f_X12_alter; rw [if_pos (by decide), d2, sb, sb, a2, sb, if_neg n10, if_neg n10, if_neg (by decide), sb, e5, e_becomes (by omega), sb]
          · exact r1.trans m1.symm
          · exact ⟨iM_set htw eh ec hi0 hi1 (kok_kd hk (by omega)) hev (relC_kd hC) (relM_kd hk hc hM) rfl rfl (fun j hj => upd_ne (by omega)), hs, ht, hf, hto⟩
      · rcases desc x3 k4 with hb | ⟨g, hg, rfl⟩
        · have d1 : f_X1_noDestination s.now.1 x3 = some 1 := by rw [c1]; exact nd_bad k4 hb
          have d2 : f_X12_isHouse t.houses x3 = some 0 := by rw [eh]; exact ih_bad (by omega) hb.2
          apply ex3
          · unfold f_X11_alter; rw [a1, sb, if_pos rfl, if_neg (by decide), if_pos (by decide), d1, sb, if_neg n10]
          · unfold f_X12_alter; rw [if_neg (by decide), if_pos (by decide), if_neg hb.1, d2, sb, if_pos rfl, sb, a2, sb, if_neg n10, if_pos rfl]
          · rfl
          · exact hI
        · have g9 : g ≤ 9 := by omega
          have d1 : f_X1_noDestination s.now.1 (nI g) = some 0 := by rw [c1]; exact nd_ok k4 hg
          have e5 : (4 + 3 * nI c + nI 1 : Int32) = nI (0 + 5 + 3 * c) := by rw [ix_of]; exact congrArg nI (by omega)
          have e6 : f_X12_alter t.houses t.comers t.st (nI c) (nI 1) (nI g) = some (t.st (0 + 5 + 3 * c), upd t.st (0 + 5 + 3 * c) (goI g)) := by
            unfold f_X12_alter
            have e7 : (if nI g = 9 then some 1 else (f_X12_isHouse t.houses (nI g)).bind fun v7 => if v7 = 0 then some 0 else some 1 : Option Int32) = some 1 := by
              rcases hg with hg | hg
              · rw [if_neg (show ¬ nI g = 9 from fun z => by have := (nI_eq (b := 9) (by omega) (by omega)).mp z; omega), eh, ih_ok (by omega) hg]; rfl
              · rw [hg]; rfl
            rw [if_neg (by decide), if_pos (by decide), e7, sb, a2, sb, if_neg n10, if_neg n10, if_pos (by decide), e_asKept g9, sb, sb, e5, e_becomes (by omega), sb]
          apply ex3
          · unfold f_X11_alter; rw [a1, sb, if_pos rfl, if_neg (by decide), if_pos (by decide), d1, sb, if_pos rfl, e_exchange (by omega), sb]
            dsimp only
            rw [r2, e_hoN (go9 hk hc), sb]
          · exact e6
          · exact m2.symm
          · exact ⟨iM_set htw eh ec hi0 hi1 (kok_go hk hg) hev (relC_go hC) (relM_go hk hc hM) rfl rfl (fun j hj => upd_ne (by omega)), hs, ht, hf, hto⟩
      · rcases cases_in x3 (n := 6) (by decide) with hb | ⟨v, hv, rfl⟩
        · have d1 : f_X11_outside x3 6 = some 1 := ou_bad hb.1
          have d2 : f_X12_in x3.toInt64 0 6 = some 0 := in_bad (n := 6) rfl hb.2
          apply ex3
          · unfold f_X11_alter; rw [a1, sb, if_pos rfl, if_neg (by decide), if_neg (by decide), if_pos (by decide), d1, sb, if_neg n10]
          · unfold f_X12_alter; rw [if_neg (by decide), if_neg (by decide), if_pos (by decide), d2, sb, if_pos rfl, sb, a2, sb, if_neg n10, if_pos rfl]
          · rfl
          · exact hI
        · have d1 : f_X11_outside (nI v) 6 = some 0 := ou_ok (n := 6) rfl hv (by decide)
          have d2 : f_X12_in (nI v).toInt64 0 6 = some 1 := in_ok (n := 6) rfl hv (by decide)
          have e5 : (4 + 3 * nI c + nI 2 : Int32) = nI (0 + 6 + 3 * c) := by rw [ix_of]; exact congrArg nI (by omega)
          apply ex3
          · unfold f_X11_alter; rw [a1, sb, if_pos rfl, if_neg (by decide), if_neg (by decide), if_pos (by decide), d1, sb, if_pos rfl, e_exchange (by omega), sb]
          · unfold f_X12_alter; rw [if_neg (by decide), if_neg (by decide), if_pos (by decide), d2, sb, if_neg n10, sb, a2, sb, if_neg n10, if_neg n10, if_neg (by decide), sb, e5, e_becomes (by omega), sb]
          · exact r3.trans m3.symm
          · exact ⟨iM_set htw eh ec hi0 hi1 (kok_co hk hv) hev (relC_co hC) (relM_co hk hc hM) rfl rfl (fun j hj => upd_ne (by omega)), hs, ht, hf, hto⟩
theorem p_fancy (s : SX) (t : TM) (x1 : Int32) (x2 : Int32) (x3 : Int32) (hI : Inv s t) : ∃ (v : Int32 × (Nat → Int32)) (w : Int32 × (Nat → Int32)), f_X11_fancy s.now.1 s.now.2.1 s.now.2.2.2.2.2.2.2 x1 x2 x3 = some v ∧ f_X12_fancy t.houses t.comers t.st x1 x2 x3 = some w ∧ v.1 = w.1 ∧ Inv (s.torn, s.tape, s.rdr, s.drf, (s.now.1, s.now.2.1, s.now.2.2.1, s.now.2.2.2.1, s.now.2.2.2.2.1, s.now.2.2.2.2.2.1, s.now.2.2.2.2.2.2.1, v.2), s.seen, s.tri, s.tcy, s.evg, s.adv, s.gss, s.im0, s.im1, s.sh0, s.sh1, s.sh2, s.sh3) ((w.2, t.now, t.isKept, t.houses, t.comers, t.draft, t.dHouses, t.dComers, t.highestHouse), t.m1, t.m2, t.m3) := by
  obtain ⟨⟨k, q, htw, eh, ec, hi0, hi1⟩, hs, ht, hf, hto⟩ := id hI
  obtain ⟨hk, hev, hC, hM, hso, hS, hSM⟩ := id htw
  have k4 := hk.1
  have k6 := hk.2.1
  have c1 : s.now.1 = nI k.hs := hC.1
  have c2 : s.now.2.1 = nI k.cm := hC.2.1
  rcases ixc x1 (n := k.hs) (by omega) with hb | ⟨h, hh, rfl⟩
  · have a1 : f_X11_noHouse s.now.1 x1 = some 1 := by rw [c1]; exact nh_bad (by omega) hb
    have a2 : f_X12_isHouse t.houses x1 = some 0 := by rw [eh]; exact ih_bad (by omega) hb
    apply ex3
    · unfold f_X11_fancy; rw [a1, sb, if_neg n10]
    · unfold f_X12_fancy; rw [a2, sb, if_pos rfl]
    · rfl
    · exact hI
  · have a1 : f_X11_noHouse s.now.1 (nI h) = some 0 := by rw [c1]; exact nh_ok (by omega) hh
    have a2 : f_X12_isHouse t.houses (nI h) = some 1 := by rw [eh]; exact ih_ok (by omega) hh
    rcases ixc x2 (n := k.cm) (by omega) with hb | ⟨c, hc, rfl⟩
    · have b1 : f_X11_noComer s.now.2.1 x2 = some 1 := by rw [c2]; exact nc_bad (by omega) hb
      have b2 : f_X12_isComer t.comers x2 = some 0 := by rw [ec]; exact ic_bad (by omega) hb
      apply ex3
      · unfold f_X11_fancy; rw [a1, sb, if_pos rfl, b1, sb, if_neg n10]
      · unfold f_X12_fancy; rw [a2, sb, if_neg n10, b2, sb, if_pos rfl]
      · rfl
      · exact hI
    · have b1 : f_X11_noComer s.now.2.1 (nI c) = some 0 := by rw [c2]; exact nc_ok (by omega) hc
      have b2 : f_X12_isComer t.comers (nI c) = some 1 := by rw [ec]; exact ic_ok (by omega) hc
      rcases cases_in x3 (n := 9) (by decide) with hb | ⟨v, hv, rfl⟩
      · have d1 : f_X11_outside x3 9 = some 1 := ou_bad hb.1
        have d2 : f_X12_in x3.toInt64 0 9 = some 0 := in_bad (n := 9) rfl hb.2
        apply ex3
        · unfold f_X11_fancy; rw [a1, sb, if_pos rfl, b1, sb, if_pos rfl, d1, sb, if_neg n10]
        · unfold f_X12_fancy; rw [a2, sb, if_neg n10, b2, sb, if_neg n10, d2, sb, if_pos rfl]
        · rfl
        · exact hI
      · have d1 : f_X11_outside (nI v) 9 = some 0 := ou_ok (n := 9) rfl hv (by decide)
        have d2 : f_X12_in (nI v).toInt64 0 9 = some 1 := in_ok (n := 9) rfl hv (by decide)
        have e5 : (22 + 6 * nI h + nI c : Int32) = nI (0 + 22 + 6 * h + c) := by rw [Nat.zero_add]; exact ix_lk
        apply ex3
        · unfold f_X11_fancy; rw [a1, sb, if_pos rfl, b1, sb, if_pos rfl, d1, sb, if_pos rfl, e_liked (by omega) (by omega), sb, e_setLiked (by omega) (by omega), sb]
        · unfold f_X12_fancy; rw [a2, sb, if_neg n10, b2, sb, if_neg n10, d2, sb, if_neg n10, e5, e_becomes (by omega), sb]
        · exact (hC.2.2.2.2.2 h hh c hc).trans (hM.2.2.1 h hh c hc).symm
        · exact ⟨iM_set htw eh ec hi0 hi1 (kok_lk hk hv) hev (relC_lk k6 (by omega) hC) (relM_lk hk hh hc hM) rfl rfl (fun j hj => upd_ne (by omega)), hs, ht, hf, hto⟩
theorem or_lt {m c n : Nat} (hm : m < 2 ^ n) (hc : c < n) : m ||| 2 ^ c < 2 ^ n := Nat.or_lt_two_pow hm (Nat.pow_lt_pow_right (by decide) hc)
/-- a list with one on or off -/
def onN (m c : Nat) (b : Bool) : Nat := if b then m ||| 2 ^ c else if m.testBit c then m - 2 ^ c else m
theorem onN_lt {m c n : Nat} {b : Bool} (hm : m < 2 ^ n) (hc : c < n) : onN m c b < 2 ^ n := by
  unfold onN
  cases b with
  | true => exact or_lt hm hc
  | false => show (if m.testBit c then m - 2 ^ c else m) < _; split; exact Nat.lt_of_le_of_lt (Nat.sub_le _ _) hm; exact hm
theorem e_setOnList {li : Nat → Int32} {h c m : Nat} {b : Int32} (hh : h < 4) (hc : c < 6) (hm : li h = nI m) (m6 : m < 64) : f_X1_setOnList li (nI h) (nI c) b = some (upd li h (nI (onN m c (decide (¬ b = 0))))) := by
  unfold f_X1_setOnList onN
  rw [if_pos (inb_nI hh (by omega)), if_pos (inb_nI hh (by omega)), ix_nI (by omega), hm, bt_or _ m6 _ hc, bt_clr _ m6 _ hc]
  by_cases q : b = 0
  · rw [if_pos q, sb, if_pos (inb_nI hh (by omega)), if_neg (show ¬ (decide ¬ b = 0) = true by simpa using q)]
  · rw [if_neg q, sb, if_pos (inb_nI hh (by omega)), if_pos (show (decide ¬ b = 0) = true by simpa using q)]
theorem p_invite (s : SX) (t : TM) (x1 : Int32) (x2 : Int32) (x3 : Int32) (hI : Inv s t) : ∃ (v : Int32 × (Nat → Int32)) (w : Int32 × (Nat → Int32)), f_X11_invite s.now.1 s.now.2.1 s.now.2.2.2.1 x1 x2 x3 = some v ∧ f_X12_invite t.houses t.comers t.st x1 x2 x3 = some w ∧ v.1 = w.1 ∧ Inv (s.torn, s.tape, s.rdr, s.drf, (s.now.1, s.now.2.1, s.now.2.2.1, v.2, s.now.2.2.2.2.1, s.now.2.2.2.2.2.1, s.now.2.2.2.2.2.2.1, s.now.2.2.2.2.2.2.2), s.seen, s.tri, s.tcy, s.evg, s.adv, s.gss, s.im0, s.im1, s.sh0, s.sh1, s.sh2, s.sh3) ((w.2, t.now, t.isKept, t.houses, t.comers, t.draft, t.dHouses, t.dComers, t.highestHouse), t.m1, t.m2, t.m3) := by
  obtain ⟨⟨k, q, htw, eh, ec, hi0, hi1⟩, hs, ht, hf, hto⟩ := id hI
  obtain ⟨hk, hev, hC, hM, hso, hS, hSM⟩ := id htw
  have k4 := hk.1
  have k6 := hk.2.1
  have c1 : s.now.1 = nI k.hs := hC.1
  have c2 : s.now.2.1 = nI k.cm := hC.2.1
  rcases ixc x1 (n := k.hs) (by omega) with hb | ⟨h, hh, rfl⟩
  · have a1 : f_X11_noHouse s.now.1 x1 = some 1 := by rw [c1]; exact nh_bad (by omega) hb
    have a2 : f_X12_isHouse t.houses x1 = some 0 := by rw [eh]; exact ih_bad (by omega) hb
    apply ex3
    · unfold f_X11_invite; rw [a1, sb, if_neg n10]
    · unfold f_X12_invite; rw [a2, sb, if_pos rfl]
    · rfl
    · exact hI
  · have a1 : f_X11_noHouse s.now.1 (nI h) = some 0 := by rw [c1]; exact nh_ok (by omega) hh
    have a2 : f_X12_isHouse t.houses (nI h) = some 1 := by rw [eh]; exact ih_ok (by omega) hh
    rcases ixc x2 (n := k.cm) (by omega) with hb | ⟨c, hc, rfl⟩
    · have b1 : f_X11_noComer s.now.2.1 x2 = some 1 := by rw [c2]; exact nc_bad (by omega) hb
      have b2 : f_X12_isComer t.comers x2 = some 0 := by rw [ec]; exact ic_bad (by omega) hb
      apply ex3
      · unfold f_X11_invite; rw [a1, sb, if_pos rfl, b1, sb, if_neg n10]
      · unfold f_X12_invite; rw [a2, sb, if_neg n10, b2, sb, if_pos rfl]
      · rfl
      · exact hI
    · have b1 : f_X11_noComer s.now.2.1 (nI c) = some 0 := by rw [c2]; exact nc_ok (by omega) hc
      have b2 : f_X12_isComer t.comers (nI c) = some 1 := by rw [ec]; exact ic_ok (by omega) hc
      have l6 := ls64 hk hh
      have hl := hC.2.2.2.1 h hh
      have hl2 := hM.1 h hh
      rw [Nat.zero_add] at hl2
      have e4 : (if (if (k.ls h).testBit c then 1 else 0 : Int32) = 0 then some 0 else some 1 : Option Int32) = some (if (k.ls h).testBit c then 1 else 0) := by
        cases (k.ls h).testBit c <;> rfl
      have e5 : (if x3 = 0 then (if inb (nI h) 198 then some (t.st (ix (nI h)) &&& (((1 : Int32) <<< (nI c &&& 31)) ^^^ (-1))) else none) else (if inb (nI h) 198 then some (t.st (ix (nI h)) ||| ((1 : Int32) <<< (nI c &&& 31))) else none)) = some (nI (onN (k.ls h) c (decide (¬ x3 = 0)))) := by
        unfold onN
        rw [if_pos (inb_nI (by omega) (by omega)), if_pos (inb_nI (by omega) (by omega)), ix_nI (by omega), hl2, bt_or _ l6 _ (by omega), bt_clr _ l6 _ (by omega)]
        by_cases q : x3 = 0
        · rw [if_pos q, if_neg (show ¬ (decide ¬ x3 = 0) = true by simpa using q)]
        · rw [if_neg q, if_pos (show (decide ¬ x3 = 0) = true by simpa using q)]
      apply ex3
      · unfold f_X11_invite; rw [a1, sb, if_pos rfl, b1, sb, if_pos rfl, e_onList (by omega) (by omega) hl l6, sb, e4, sb, e_setOnList (by omega) (by omega) hl l6, sb]
      · unfold f_X12_invite; rw [a2, sb, if_neg n10, b2, sb, if_neg n10, e5, sb, e_becomes (by omega), sb]
      · show _ = ((t.st h >>> (nI c &&& 31)) &&& 1)
        rw [hl2, bt_val _ l6 _ (by omega)]
        cases (k.ls h).testBit c <;> rfl
      · have z := relM_ls (v := onN (k.ls h) c (decide (¬ x3 = 0))) hk hh hM
        rw [Nat.zero_add] at z
        exact ⟨iM_set htw eh ec hi0 hi1 (kok_ls hk (onN_lt (hk.2.2.2.1 h hh) hc)) hev (relC_ls hC) z rfl rfl (fun j hj => upd_ne (by omega)), hs, ht, hf, hto⟩
