theorem p_feed (s : SX) (t : TM) (x1 : Int32) (hI : Inv s t) : ∃ (v : Int32 × Int32 × (Nat → Int32)) (w : Int32 × Int32 × (Nat → Int32)), f_X11_feed s.tape.1 s.tape.2 x1 = some v ∧ f_X12_feed t.taped t.tape x1 = some w ∧ v.1 = w.1 ∧ Inv (s.torn, (v.2.1, v.2.2), s.rdr, s.drf, s.now, s.seen, s.tri, s.tcy, s.evg, s.adv, s.gss, s.im0, s.im1, s.sh0, s.sh1, s.sh2, s.sh3) (t.m0, (t.highestComer, w.2.2, w.2.1, t.pos, t.begun, t.sort, t.value, t.fault, t.wrongAt), t.m2, t.m3) := by
  obtain ⟨hm, hs, ⟨m, m160, e1, e2, ht⟩, hf, hto⟩ := hI
  rcases cases_in x1 (n := 127) (by decide) with h | ⟨j, hj, rfl⟩
  · have a1 : f_X11_outside x1 127 = some 1 := ou_bad h.1
    have a2 : f_X12_in x1.toInt64 0 127 = some 0 := in_bad (n := 127) rfl h.2
    refine ⟨(-1, s.tape.1, s.tape.2), (-1, t.taped, t.tape), ?_, ?_, rfl, hm, hs, ⟨m, m160, e1, e2, ht⟩, hf, hto⟩
    · simp only [f_X11_feed, a1, sb, i10, if_false]
    · simp only [f_X12_feed, a2, sb, if_true]
  · have a1 : f_X11_outside (nI j) 127 = some 0 := ou_ok (n := 127) rfl hj (by decide)
    have a2 : f_X12_in (nI j).toInt64 0 127 = some 1 := in_ok (n := 127) rfl hj (by decide)
    rcases Nat.lt_or_ge m 160 with q | q
    · have b1 : nI m < 160 := nI_lt (b := 160) q (by decide)
      have b2 : inb (nI m) 160 := inb_nI q (by decide)
      have b3 : ¬ nI m = 160 := fun e => by
        have := (nI_eq (a := m) (b := 160) (by omega) (by decide)).mp e
        omega
      have b4 : ix (nI m) = m := ix_nI (by omega)
      refine ⟨(nI m + 1, nI m + 1, upd s.tape.2 m (nI j)), (nI m + 1, nI m + 1, upd t.tape m (nI j)), ?_, ?_, rfl, hm, hs, ⟨m + 1, by omega, nI_1 m, nI_1 m, fun i hi => ?_⟩, hf, hto⟩
      · simp only [f_X11_feed, a1, sb, if_true, f_X8_put, e1, if_pos b1, if_pos b2, b4, i10, if_false]
      · simp only [f_X12_feed, a2, sb, i10, if_false, e2, if_neg b3, if_pos b2, b4]
      · show upd s.tape.2 m (nI j) i = upd t.tape m (nI j) i ∧ ∃ b : Nat, b < 128 ∧ upd t.tape m (nI j) i = nI b
        rw [upd_at, upd_at]
        by_cases e : i = m
        · rw [if_pos e, if_pos e]
          exact ⟨rfl, j, by omega, rfl⟩
        · rw [if_neg e, if_neg e]
          exact ht i (by omega)
    · have em : m = 160 := by omega
      subst em
      have b1 : ¬ nI 160 < 160 := by decide
      have b3 : nI 160 = 160 := rfl
      refine ⟨(-3, s.tape.1, s.tape.2), (-3, t.taped, t.tape), ?_, ?_, rfl, hm, hs, ⟨160, m160, e1, e2, ht⟩, hf, hto⟩
      · simp only [f_X11_feed, a1, sb, if_true, f_X8_put, e1, if_neg b1]
      · simp only [f_X12_feed, a2, sb, i10, if_false, e2, b3, if_true]
theorem p_end (s : SX) (t : TM) (x1 : Int32) (hI : Inv s t) : ∃ (v : Int32 × Int32) (w : Int32 × Int32), f_X11_end s.tape.1 x1 = some v ∧ f_X12_end t.taped x1 = some w ∧ v.1 = w.1 ∧ Inv (s.torn, (v.2, s.tape.2), s.rdr, s.drf, s.now, s.seen, s.tri, s.tcy, s.evg, s.adv, s.gss, s.im0, s.im1, s.sh0, s.sh1, s.sh2, s.sh3) (t.m0, (t.highestComer, t.tape, w.2, t.pos, t.begun, t.sort, t.value, t.fault, t.wrongAt), t.m2, t.m3) := by
  obtain ⟨hm, hs, ⟨m, m160, e1, e2, ht⟩, hf, hto⟩ := hI
  rcases cases_in x1 (n := m) (by omega) with h | ⟨j, hj, rfl⟩
  · have a1 : f_X11_outside x1 (nI m) = some 1 := ou_bad h.1
    have a2 : f_X12_in x1.toInt64 0 (nI m).toInt64 = some 0 := in_bad rfl h.2
    refine ⟨(-1, s.tape.1), (-1, t.taped), ?_, ?_, rfl, hm, hs, ⟨m, m160, e1, e2, ht⟩, hf, hto⟩
    · simp only [f_X11_end, e1, a1, sb, i10, if_false]
    · simp only [f_X12_end, e2, a2, sb, if_true]
  · have a1 : f_X11_outside (nI j) (nI m) = some 0 := ou_ok rfl hj (by omega)
    have a2 : f_X12_in (nI j).toInt64 0 (nI m).toInt64 = some 1 := in_ok rfl hj (by omega)
    refine ⟨(nI m, nI j), (nI m, nI j), ?_, ?_, rfl, hm, hs, ⟨j, by omega, rfl, rfl, fun i hi => ht i (by omega)⟩, hf, hto⟩
    · simp only [f_X11_end, e1, a1, sb, if_true]
    · simp only [f_X12_end, e2, a2, sb, i10, if_false]
theorem e_liked {r : Nat → Int32} {h c : Nat} (hh : h < 4) (hc : c < 6) : f_X1_liked r (nI h) (nI c) = some (r (6 * h + c)) := by
  unfold f_X1_liked
  rw [nI_6c, if_pos (inb_nI (by omega) (by decide)), ix_nI (by omega)]
theorem e_setLiked {r : Nat → Int32} {h c : Nat} {x : Int32} (hh : h < 4) (hc : c < 6) : f_X1_setLiked r (nI h) (nI c) x = some (upd r (6 * h + c) x) := by
  unfold f_X1_setLiked
  rw [nI_6c, if_pos (inb_nI (by omega) (by decide)), ix_nI (by omega)]
theorem ix_lk {h c : Nat} : (22 + 6 * nI h + nI c : Int32) = nI (22 + 6 * h + c) := by
  rw [show (6 : Int32) = nI 6 from rfl, show (22 : Int32) = nI 22 from rfl, pk_mul, nI_add, nI_add]
theorem p_likes (s : SX) (t : TM) (x1 : Int32) (x2 : Int32) (hI : Inv s t) : ∃ (v : Int32) (w : Int32), f_X11_likes s.now.1 s.now.2.1 s.now.2.2.2.2.2.2.2 x1 x2 = some v ∧ f_X12_likes t.houses t.comers t.st x1 x2 = some w ∧ v = w ∧ Inv (s.torn, s.tape, s.rdr, s.drf, s.now, s.seen, s.tri, s.tcy, s.evg, s.adv, s.gss, s.im0, s.im1, s.sh0, s.sh1, s.sh2, s.sh3) (t.m0, t.m1, t.m2, t.m3) := by
  obtain ⟨k, q, htw, eh, ec, hi⟩ := id hI.1
  obtain ⟨hk, hev, hC, hM, -⟩ := id htw
  have k4 := hk.1
  have k6 := hk.2.1
  have c1 : s.now.1 = nI k.hs := hC.1
  have c2 : s.now.2.1 = nI k.cm := hC.2.1
  rcases pk_ix x1 (n := k.hs) (by omega) with h | h | ⟨h, hh, rfl⟩
  · exact ⟨-1, -1, by simp only [f_X11_likes, c1, nh_bad (n := k.hs) (by omega) (Or.inl h), sb, i10, if_false], by simp only [f_X12_likes, eh, ih_bad (n := k.hs) (by omega) (Or.inl h), sb, if_true], rfl, hI⟩
  · exact ⟨-1, -1, by simp only [f_X11_likes, c1, nh_bad (n := k.hs) (by omega) (Or.inr h), sb, i10, if_false], by simp only [f_X12_likes, eh, ih_bad (n := k.hs) (by omega) (Or.inr h), sb, if_true], rfl, hI⟩
  · have a1 := nh_ok (n := k.hs) (by omega) hh
    have a2 := ih_ok (n := k.hs) (by omega) hh
    rcases pk_ix x2 (n := k.cm) (by omega) with g | g | ⟨c, hc, rfl⟩
    · exact ⟨-1, -1, by simp only [f_X11_likes, c1, c2, a1, nc_bad (n := k.cm) (by omega) (Or.inl g), sb, if_true, i10, if_false], by simp only [f_X12_likes, eh, ec, a2, ic_bad (n := k.cm) (by omega) (Or.inl g), sb, i10, if_false, if_true], rfl, hI⟩
    · exact ⟨-1, -1, by simp only [f_X11_likes, c1, c2, a1, nc_bad (n := k.cm) (by omega) (Or.inr g), sb, if_true, i10, if_false], by simp only [f_X12_likes, eh, ec, a2, ic_bad (n := k.cm) (by omega) (Or.inr g), sb, i10, if_false, if_true], rfl, hI⟩
    · have b1 := nc_ok (n := k.cm) (by omega) hc
      have b2 := ic_ok (n := k.cm) (by omega) hc
      refine ⟨nI (k.lk h c), nI (k.lk h c), ?_, ?_, rfl, hI⟩
      · simp only [f_X11_likes, c1, c2, a1, b1, sb, if_true, e_liked (show h < 4 by omega) (show c < 6 by omega)]
        exact congrArg some (hC.2.2.2.2.2 h hh c hc)
      · have e9 := hM.2.2.1 h hh c hc
        have e8 : ix (nI (22 + 6 * h + c)) = 22 + 6 * h + c := ix_nI (by omega)
        have e7 : inb (nI (22 + 6 * h + c)) 198 := inb_nI (by omega) (by decide)
        simp only [f_X12_likes, eh, ec, a2, b2, sb, i10, if_false, ix_lk, if_pos e7, e8]
        rw [show (22 + 6 * h + c) = 0 + 22 + 6 * h + c by omega, e9]
