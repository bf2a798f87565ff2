theorem l_rule13 {k : Ka} {v : Int32 × Int32 × (Nat → Int32) × (Nat → Int32) × (Nat → Int32)} (hk : kok k) (hv : ∀ h, h < k.hs → v.2.2.1 h = bgI (hrK k h)) : L_X12_rule_13 (nI k.hs) v 400 0 0 = some (nI (msk (bgK k) k.hs)) := by
  have k4 := hk.1
  refine lpG (L := L_X12_rule_13 (nI k.hs) v) (acc := fun h => nI (msk (bgK k) h)) (n := k.hs) (by omega) (fun f => ?_) (fun f h hh => ?_)
  · rw [L_X12_rule_13, if_pos (nlt_le (by omega))]
  · have e : (if v.2.2.1 h = -4 then some 0 else some 1 : Option Int32) = some (if bgK k h then 1 else 0) := by
      rw [hv h hh]; unfold bgI bgK
      by_cases q : hrK k h < 7
      · rw [if_pos q, if_neg (nI_n4 (by omega)), decide_eq_true q]; rfl
      · rw [if_neg q, if_pos rfl, decide_eq_false q]; rfl
    rw [L_X12_rule_13, if_neg (nI_ge (by omega) (by omega)), if_pos (inb_nI (by omega) (by omega)), ix_nI (by omega), e, sb, e_flag, sb, bt_orb _ (msk_lt6 _ (by omega)) _ (by omega), nI_1]
    rfl
theorem p_rule (s : SX) (t : TM) (x1 : Int32) (hI : Inv s t) : ∃ (v : Int32 × Int32 × Int32 × Int32 × Int32 × Int32 × Int32 × (Nat → Int32) × (Nat → Int32) × (Nat → Int32) × (Nat → Int32) × (Nat → Int32) × Int32 × Int32 × (Nat → Int32) × (Nat → Int32)) (w : Int32 × Int32 × Int32 × Int32 × (Nat → Int32) × (Nat → Int32) × (Nat → Int32)), f_X11_rule s.now.1 s.now.2.1 s.now.2.2.1 s.now.2.2.2.2.2.2.1 s.now.2.2.2.2.2.1 s.now.2.2.2.2.1 s.now.2.2.2.2.2.2.2 s.now.2.2.2.1 s.tri.1 s.tri.2.1 s.tri.2.2 s.tcy.1 s.tcy.2.1 s.tcy.2.2.1 s.tcy.2.2.2.2.2.2.1 s.tcy.2.2.2.2.2.1 s.tcy.2.2.2.2.1 s.tcy.2.2.2.2.2.2.2 s.tcy.2.2.2.1 s.evg.1 s.evg.2.1 s.evg.2.2.1 s.evg.2.2.2 x1 = some v ∧ f_X12_rule t.houses t.comers t.home t.dinners t.waited t.began t.begunBy t.now t.st x1 = some w ∧ v.1 = w.1 ∧ Inv (s.torn, s.tape, s.rdr, s.drf, s.now, s.seen, (v.2.1, v.2.2.1, v.2.2.2.1), (v.2.2.2.2.1, v.2.2.2.2.2.1, v.2.2.2.2.2.2.1, v.2.2.2.2.2.2.2.2.2.2.2.1, v.2.2.2.2.2.2.2.2.2.1, v.2.2.2.2.2.2.2.2.1, v.2.2.2.2.2.2.2.1, v.2.2.2.2.2.2.2.2.2.2.1), (v.2.2.2.2.2.2.2.2.2.2.2.2.1, v.2.2.2.2.2.2.2.2.2.2.2.2.2.1, v.2.2.2.2.2.2.2.2.2.2.2.2.2.2.1, v.2.2.2.2.2.2.2.2.2.2.2.2.2.2.2), s.adv, s.gss, s.im0, s.im1, s.sh0, s.sh1, s.sh2, s.sh3) ((t.st, w.2.2.2.2.2.2, t.isKept, t.houses, t.comers, t.draft, t.dHouses, t.dComers, t.highestHouse), t.m1, (w.2.1, w.2.2.2.2.1, w.2.2.2.2.2.1, w.2.2.1, w.2.2.2.1, t.beginSum, t.dinnerSum, t.allWays, t.hours), t.m3) := by
  obtain ⟨k, q, htw, eh, ec, hi⟩ := id hI.1
  obtain ⟨hk, hev, hC, hM, -⟩ := id htw
  have k4 := hk.1
  have k6 := hk.2.1
  have c1 : s.now.1 = nI k.hs := hC.1
  have c2 : s.now.2.1 = nI k.cm := hC.2.1
  have c3 : s.now.2.2.1 = nI k.ev := hC.2.2.1
  have e46 : t.st 46 = nI k.ev := by have := hM.2.2.2; rwa [Nat.zero_add] at this
  obtain ⟨hrs', ops', lk', e1, e2⟩ := e_tonight hk hC s.tri.1 s.tri.2.1 s.tri.2.2 s.tcy.1 s.tcy.2.1 s.tcy.2.2.1 s.evg.1 s.evg.2.1 s.tcy.2.2.2.2.2.2.1 s.tcy.2.2.2.2.2.1 s.tcy.2.2.2.2.1 s.tcy.2.2.2.2.2.2.2 s.tcy.2.2.2.1 s.evg.2.2.1 s.evg.2.2.2
  obtain ⟨a0, g1, g2, -⟩ := starts_rel (hm := t.home) (now := t.now) hk hM
  obtain ⟨bg', by', a', g3, g4, -⟩ := e_evGo (bg := t.began) (by_ := t.begunBy) (d := t.dinners) (w := t.waited) (n := 1) hk g2 (by omega) (by omega)
  have g4 : ∀ h, h < k.hs → bg' h = bgI (hrK k h) ∧ by' h = opI (opK k h) := g4.resolve_left (by decide)
  have g3 : f_X12_eveningsGo (nI k.hs) (nI k.cm) 0 t.dinners t.waited t.began t.begunBy a0 1 = _ := g3
  have g5 := l_rule13 (v := (nI (dn 1 k), nI (wn 1 k), bg', by', a')) hk (fun h hh => (g4 h hh).1)
  rcases cases_in x1 (n := 5) (by decide) with hb | ⟨n, hn, rfl⟩
  · have o : ∀ j, j ≤ 5 → ¬ x1 = nI j := fun j hj => ne_out hb.2 hj (by decide)
    refine ex2 (-1) ?_ ?_ (fun _ _ => hI)
    · unfold f_X11_rule; rw [if_neg (show ¬ x1 = 0 from o 0 (by decide)), if_neg (show ¬ x1 = 1 from o 1 (by decide)), if_neg (show ¬ x1 = 2 from o 2 (by decide)), if_neg (show ¬ x1 = 3 from o 3 (by decide)), if_neg (show ¬ x1 = 4 from o 4 (by decide)), if_neg (show ¬ x1 = 5 from o 5 (by decide))]; exact ⟨_, rfl, rfl⟩
    · unfold f_X12_rule; rw [g1, sb]
      dsimp only
      rw [eh, ec, g3, sb, g5, sb, if_neg (show ¬ x1 = 0 from o 0 (by decide)), if_neg (show ¬ x1 = 1 from o 1 (by decide)), if_neg (show ¬ x1 = 2 from o 2 (by decide)), if_neg (show ¬ x1 = 3 from o 3 (by decide)), if_neg (show ¬ x1 = 4 from o 4 (by decide)), if_neg (show ¬ x1 = 5 from o 5 (by decide))]; exact ⟨_, rfl, rfl⟩
  · obtain rfl | rfl | rfl | rfl | rfl | rfl : n = 0 ∨ n = 1 ∨ n = 2 ∨ n = 3 ∨ n = 4 ∨ n = 5 := by omega
    · refine ex2 (nI k.hs) ?_ ?_ (fun _ _ => hI)
      · unfold f_X11_rule; rw [if_pos (by decide)]; exact ⟨_, rfl, c1⟩
      · unfold f_X12_rule; rw [g1, sb]
        dsimp only
        rw [eh, ec, g3, sb, g5, sb, if_pos (by decide)]; exact ⟨_, rfl, rfl⟩
    · refine ex2 (nI k.cm) ?_ ?_ (fun _ _ => hI)
      · unfold f_X11_rule; rw [if_neg (by decide), if_pos (by decide)]; exact ⟨_, rfl, c2⟩
      · unfold f_X12_rule; rw [g1, sb]
        dsimp only
        rw [eh, ec, g3, sb, g5, sb, if_neg (by decide), if_pos (by decide)]; exact ⟨_, rfl, rfl⟩
    · refine ex2 (nI k.ev) ?_ ?_ (fun _ _ => hI)
      · unfold f_X11_rule; rw [if_neg (by decide), if_neg (by decide), if_pos (by decide)]; exact ⟨_, rfl, c3⟩
      · unfold f_X12_rule; rw [g1, sb]
        dsimp only
        rw [eh, ec, g3, sb, g5, sb, if_neg (by decide), if_neg (by decide), if_pos (by decide), if_pos (by decide)]; exact ⟨_, rfl, e46⟩
    · refine ex2 (nI (msk (bgK k) k.hs)) ?_ ?_ (fun _ _ => hI)
      · unfold f_X11_rule; rw [if_neg (by decide), if_neg (by decide), if_neg (by decide), if_pos (by decide), e1, sb]; exact ⟨_, rfl, rfl⟩
      · unfold f_X12_rule; rw [g1, sb]
        dsimp only
        rw [eh, ec, g3, sb, g5, sb, if_neg (by decide), if_neg (by decide), if_neg (by decide), if_pos (by decide)]; exact ⟨_, rfl, rfl⟩
    · refine ex2 (nI (wK k)) ?_ ?_ (fun _ _ => hI)
      · unfold f_X11_rule; rw [if_neg (by decide), if_neg (by decide), if_neg (by decide), if_neg (by decide), if_pos (by decide), e1, sb]; exact ⟨_, rfl, rfl⟩
      · unfold f_X12_rule; rw [g1, sb]
        dsimp only
        rw [eh, ec, g3, sb, g5, sb, if_neg (by decide), if_neg (by decide), if_neg (by decide), if_neg (by decide), if_pos (by decide)]; exact ⟨_, rfl, rfl⟩
    · refine ex2 (nI (aliN k)) ?_ ?_ (fun _ _ => hI)
      · have e9 : f_X1_invitations s.now.1 s.now.2.2.2.1 = some (nI (aliN k)) := by rw [c1]; exact e_invitations hk hC
        unfold f_X11_rule; rw [if_neg (by decide), if_neg (by decide), if_neg (by decide), if_neg (by decide), if_neg (by decide), if_pos (by decide), e9, sb]; exact ⟨_, rfl, rfl⟩
      · unfold f_X12_rule; rw [g1, sb]
        dsimp only
        rw [eh, ec, g3, sb, g5, sb, if_neg (by decide), if_neg (by decide), if_neg (by decide), if_neg (by decide), if_neg (by decide), if_pos (by decide), e_allListed hk hM, sb]; exact ⟨_, rfl, rfl⟩
theorem l_house34 {k : Ka} {a : Nat → Int32} {z : Int32} {h : Nat} (hk : kok k) (hM : relM a 0 k) (hh : h < k.hs) : L_X12_house_34 (nI k.cm) (nI h) (z, a) 400 0 0 0 = some (nI (msk (fun c => decide (k.go c = h)) k.cm), nI (msk (fun c => !((k.ls h).testBit c) && decide (k.lk h c ≤ 4)) k.cm)) := by
  have k4 := hk.1
  have k6 := hk.2.1
  refine lpG (L := fun f (y : Int32 × Int32) c => L_X12_house_34 (nI k.cm) (nI h) (z, a) f y.1 y.2 c) (acc := fun m => (nI (msk (fun c => decide (k.go c = h)) m), nI (msk (fun c => !((k.ls h).testBit c) && decide (k.lk h c ≤ 4)) m))) (n := k.cm) (by omega) (fun f => ?_) (fun f c hc => ?_)
  · show L_X12_house_34 (nI k.cm) (nI h) (z, a) (f + 1) _ _ _ = _
    rw [L_X12_house_34, if_pos (nlt_le (by omega))]
  · show L_X12_house_34 (nI k.cm) (nI h) (z, a) (f + 1) (nI (msk (fun c => decide (k.go c = h)) c)) (nI (msk (fun c => !((k.ls h).testBit c) && decide (k.lk h c ≤ 4)) c)) (nI c) = L_X12_house_34 (nI k.cm) (nI h) (z, a) f (nI (msk (fun c => decide (k.go c = h)) (c + 1))) (nI (msk (fun c => !((k.ls h).testBit c) && decide (k.lk h c ≤ 4)) (c + 1))) (nI (c + 1))
    have e0 : f_X12_of a (nI c) 1 = some (goI (k.go c)) := by
      have := e_of (a := a) (c := c) (j := 1) (by omega) (by omega)
      rw [show (nI 1 : Int32) = 1 from rfl] at this
      rw [this, show 4 + 3 * c + 1 = 0 + 5 + 3 * c by omega, (hM.2.1 c hc).2.1]
    have e : (if goI (k.go c) = nI h then some 1 else some 0 : Option Int32) = some (if decide (k.go c = h) then 1 else 0) := by
      have i := goI_eq (g := k.go c) (h := h) (go9 hk hc) (by omega)
      by_cases q : k.go c = h
      · rw [if_pos (i.mpr q), if_pos (decide_eq_true q)]
      · rw [if_neg (fun z => q (i.mp z)), decide_eq_false q]; rfl
    have e2 := e_isUnw (a := a) (h := h) (row := k.lk h) hk (relM_fix hM) hh hc ⟨by have := hM.2.2.1 h hh c hc; rwa [show 0 + 22 + 6 * h + c = 22 + 6 * h + c by omega] at this, hk.2.2.2.2.2 h hh c hc⟩
    rw [L_X12_house_34, if_neg (nI_ge (by omega) (by omega))]
    show (f_X12_of a (nI c) 1).bind _ = _
    rw [e0, sb, e, sb, e_flag, sb]
    show (f_X12_isUnwelcome a (nI h) (nI c)).bind _ = _
    rw [e2, sb, e_flag, sb, bt_orb _ (msk_lt6 _ (by omega)) _ (by omega), bt_orb _ (msk_lt6 _ (by omega)) _ (by omega), nI_1]
    rfl
theorem p_house (s : SX) (t : TM) (x1 : Int32) (x2 : Int32) (hI : Inv s t) : ∃ (v : Int32 × Int32 × Int32 × Int32 × Int32 × Int32 × Int32 × (Nat → Int32) × (Nat → Int32) × (Nat → Int32) × (Nat → Int32) × (Nat → Int32) × Int32 × Int32 × (Nat → Int32) × (Nat → Int32)) (w : Int32 × Int32 × Int32 × Int32 × (Nat → Int32) × (Nat → Int32) × (Nat → Int32)), f_X11_house s.now.1 s.now.2.1 s.now.2.2.1 s.now.2.2.2.2.2.2.1 s.now.2.2.2.2.2.1 s.now.2.2.2.2.1 s.now.2.2.2.2.2.2.2 s.now.2.2.2.1 s.tri.1 s.tri.2.1 s.tri.2.2 s.tcy.1 s.tcy.2.1 s.tcy.2.2.1 s.tcy.2.2.2.2.2.2.1 s.tcy.2.2.2.2.2.1 s.tcy.2.2.2.2.1 s.tcy.2.2.2.2.2.2.2 s.tcy.2.2.2.1 s.evg.1 s.evg.2.1 s.evg.2.2.1 s.evg.2.2.2 x1 x2 = some v ∧ f_X12_house t.houses t.comers t.home t.dinners t.waited t.began t.begunBy t.now t.st x1 x2 = some w ∧ v.1 = w.1 ∧ Inv (s.torn, s.tape, s.rdr, s.drf, s.now, s.seen, (v.2.1, v.2.2.1, v.2.2.2.1), (v.2.2.2.2.1, v.2.2.2.2.2.1, v.2.2.2.2.2.2.1, v.2.2.2.2.2.2.2.2.2.2.2.1, v.2.2.2.2.2.2.2.2.2.1, v.2.2.2.2.2.2.2.2.1, v.2.2.2.2.2.2.2.1, v.2.2.2.2.2.2.2.2.2.2.1), (v.2.2.2.2.2.2.2.2.2.2.2.2.1, v.2.2.2.2.2.2.2.2.2.2.2.2.2.1, v.2.2.2.2.2.2.2.2.2.2.2.2.2.2.1, v.2.2.2.2.2.2.2.2.2.2.2.2.2.2.2), s.adv, s.gss, s.im0, s.im1, s.sh0, s.sh1, s.sh2, s.sh3) ((t.st, w.2.2.2.2.2.2, t.isKept, t.houses, t.comers, t.draft, t.dHouses, t.dComers, t.highestHouse), t.m1, (w.2.1, w.2.2.2.2.1, w.2.2.2.2.2.1, w.2.2.1, w.2.2.2.1, t.beginSum, t.dinnerSum, t.allWays, t.hours), t.m3) := by
  obtain ⟨k, q, htw, eh, ec, hi⟩ := id hI.1
  obtain ⟨hk, hev, hC, hM, -⟩ := id htw
  have k4 := hk.1
  have k6 := hk.2.1
  have c1 : s.now.1 = nI k.hs := hC.1
  have c2 : s.now.2.1 = nI k.cm := hC.2.1
  rcases ixc x1 (n := k.hs) (by omega) with hb | ⟨h, hh, rfl⟩
  · have a1 : f_X11_noHouse s.now.1 x1 = some 1 := by rw [c1]; exact nh_bad (by omega) hb
    have a2 : f_X12_isHouse t.houses x1 = some 0 := by rw [eh]; exact ih_bad (by omega) hb
    refine ex2 (-1) ?_ ?_ (fun _ _ => hI)
    · unfold f_X11_house; rw [a1, sb, if_neg n10]; exact ⟨_, rfl, rfl⟩
    · unfold f_X12_house; rw [a2, sb, if_pos rfl]; exact ⟨_, rfl, rfl⟩
  · have a1 : f_X11_noHouse s.now.1 (nI h) = some 0 := by rw [c1]; exact nh_ok (by omega) hh
    have a2 : f_X12_isHouse t.houses (nI h) = some 1 := by rw [eh]; exact ih_ok (by omega) hh
    obtain ⟨hrs', ops', lk', e1, e2⟩ := e_tonight hk hC s.tri.1 s.tri.2.1 s.tri.2.2 s.tcy.1 s.tcy.2.1 s.tcy.2.2.1 s.evg.1 s.evg.2.1 s.tcy.2.2.2.2.2.2.1 s.tcy.2.2.2.2.2.1 s.tcy.2.2.2.2.1 s.tcy.2.2.2.2.2.2.2 s.tcy.2.2.2.1 s.evg.2.2.1 s.evg.2.2.2
    obtain ⟨a0, g1, g2, -⟩ := starts_rel (hm := t.home) (now := t.now) hk hM
    obtain ⟨bg', by', a', g3, g4, -⟩ := e_evGo (bg := t.began) (by_ := t.begunBy) (d := t.dinners) (w := t.waited) (n := 1) hk g2 (by omega) (by omega)
    have g4 : ∀ h, h < k.hs → bg' h = bgI (hrK k h) ∧ by' h = opI (opK k h) := g4.resolve_left (by decide)
    have g3 : f_X12_eveningsGo (nI k.hs) (nI k.cm) 0 t.dinners t.waited t.began t.begunBy a0 1 = _ := g3
    have g5 := l_house34 (z := 0) hk g2 hh
    have i4 : inb (nI h) 4 := inb_nI (by omega) (by omega)
    have x4 : ix (nI h) = h := ix_nI (by omega)
    rcases cases_in x2 (n := 4) (by decide) with hb | ⟨n, hn, rfl⟩
    · have o : ∀ j, j ≤ 4 → ¬ x2 = nI j := fun j hj => ne_out hb.2 hj (by decide)
      have d2 : f_X12_in x2.toInt64 0 4 = some 0 := in_bad (n := 4) rfl hb.2
      refine ex2 (-1) ?_ ?_ (fun _ _ => hI)
      · unfold f_X11_house; rw [a1, sb, if_pos rfl, if_neg (show ¬ x2 = 0 from o 0 (by decide)), if_neg (show ¬ x2 = 1 from o 1 (by decide)), if_neg (show ¬ x2 = 2 from o 2 (by decide)), if_neg (show ¬ x2 = 3 from o 3 (by decide)), if_neg (show ¬ x2 = 4 from o 4 (by decide))]; exact ⟨_, rfl, rfl⟩
      · unfold f_X12_house; rw [a2, sb, if_neg n10, d2, sb, if_pos rfl]; exact ⟨_, rfl, rfl⟩
    · have d2 : f_X12_in (nI n).toInt64 0 4 = some 1 := in_ok (n := 4) rfl hn (by decide)
      obtain rfl | rfl | rfl | rfl | rfl : n = 0 ∨ n = 1 ∨ n = 2 ∨ n = 3 ∨ n = 4 := by omega
      · refine ex2 (nI (k.ls h)) ?_ ?_ (fun _ _ => hI)
        · unfold f_X11_house; rw [a1, sb, if_pos rfl, if_pos (by decide), if_pos i4, x4]; exact ⟨_, rfl, hC.2.2.2.1 h hh⟩
        · unfold f_X12_house; rw [a2, sb, if_neg n10, d2, sb, if_neg n10, g1, sb]
          dsimp only
          rw [eh, ec, g5, sb, g3, sb, if_pos (by decide), if_pos (inb_nI (by omega) (by omega)), x4]
          exact ⟨_, rfl, by have := hM.1 h hh; rwa [Nat.zero_add] at this⟩
      · refine ex2 (nI (msk (fun c => decide (k.go c = h)) k.cm)) ?_ ?_ (fun _ _ => hI)
        · have e9 : f_X1_goers s.now.2.1 s.now.2.2.2.2.2.1 (nI h) = some (nI (msk (fun c => decide (k.go c = h)) k.cm)) := by
            rw [c2, e_goers k6, msk_congr (q := fun c => decide (k.go c = h))]
            intro c hc
            rw [(hC.2.2.2.2.1 c hc).2.1]
            exact decide_eq_decide.mpr (nI_eq (by have := go9 hk hc; omega) (by omega))
          unfold f_X11_house; rw [a1, sb, if_pos rfl, if_neg (by decide), if_pos (by decide), e9, sb]; exact ⟨_, rfl, rfl⟩
        · unfold f_X12_house; rw [a2, sb, if_neg n10, d2, sb, if_neg n10, g1, sb]
          dsimp only
          rw [eh, ec, g5, sb, g3, sb, if_neg (by decide), if_pos (by decide)]
          exact ⟨_, rfl, rfl⟩
      · refine ex2 (bgI (hrK k h)) ?_ ?_ (fun _ _ => hI)
        · unfold f_X11_house; rw [a1, sb, if_pos rfl, if_neg (by decide), if_neg (by decide), if_pos (by decide), e1, sb, if_pos i4, x4]
          dsimp only
          rw [(e2 h hh).1, hN_val (hrK_le k h), sb]
          exact ⟨_, rfl, rfl⟩
        · unfold f_X12_house; rw [a2, sb, if_neg n10, d2, sb, if_neg n10, g1, sb]
          dsimp only
          rw [eh, ec, g5, sb, g3, sb, if_neg (by decide), if_neg (by decide), if_pos (by decide), if_pos i4, x4]
          exact ⟨_, rfl, (g4 h hh).1⟩
      · refine ex2 (opI (opK k h)) ?_ ?_ (fun _ _ => hI)
        · unfold f_X11_house; rw [a1, sb, if_pos rfl, if_neg (by decide), if_neg (by decide), if_neg (by decide), if_pos (by decide), e1, sb, if_pos i4, x4]
          exact ⟨_, rfl, (e2 h hh).2⟩
        · unfold f_X12_house; rw [a2, sb, if_neg n10, d2, sb, if_neg n10, g1, sb]
          dsimp only
          rw [eh, ec, g5, sb, g3, sb, if_neg (by decide), if_neg (by decide), if_neg (by decide), if_pos (by decide), if_pos i4, x4]
          exact ⟨_, rfl, (g4 h hh).2⟩
      · refine ex2 (nI (msk (fun c => !((k.ls h).testBit c) && decide (k.lk h c ≤ 4)) k.cm)) ?_ ?_ (fun _ _ => hI)
        · have e9 : f_X1_unwelcome s.now.2.1 s.now.2.2.2.2.2.2.2 s.now.2.2.2.1 (nI h) = some (nI (msk (fun c => !((k.ls h).testBit c) && decide (k.lk h c ≤ 4)) k.cm)) := by
            rw [c2]; exact e_unwelcome k6 (by omega) (hC.2.2.2.1 h hh) (ls64 hk hh) (fun c hc => ⟨hC.2.2.2.2.2 h hh c hc, hk.2.2.2.2.2 h hh c hc⟩)
          unfold f_X11_house; rw [a1, sb, if_pos rfl, if_neg (by decide), if_neg (by decide), if_neg (by decide), if_neg (by decide), if_pos (by decide), e9, sb]; exact ⟨_, rfl, rfl⟩
        · unfold f_X12_house; rw [a2, sb, if_neg n10, d2, sb, if_neg n10, g1, sb]
          dsimp only
          rw [eh, ec, g5, sb, g3, sb, if_neg (by decide), if_neg (by decide), if_neg (by decide), if_neg (by decide)]
          exact ⟨_, rfl, rfl⟩
