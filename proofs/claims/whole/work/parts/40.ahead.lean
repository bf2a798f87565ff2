theorem ex2 {α β : Type} {F : Option (Int32 × α)} {G : Option (Int32 × β)} {P : Int32 × α → Int32 × β → Prop} (r : Int32) (h1 : ∃ v, F = some v ∧ v.1 = r) (h2 : ∃ w, G = some w ∧ w.1 = r) (h3 : ∀ v w, P v w) : ∃ v w, F = some v ∧ G = some w ∧ v.1 = w.1 ∧ P v w := by
  obtain ⟨v, a1, a2⟩ := h1
  obtain ⟨w, b1, b2⟩ := h2
  exact ⟨v, w, a1, b1, a2.trans b2.symm, h3 v w⟩
theorem p_ahead (s : SX) (t : TM) (x1 : Int32) (x2 : Int32) (x3 : Int32) (hI : Inv s t) : ∃ (v : Int32 × Int32 × Int32 × Int32 × Int32 × Int32 × Int32 × (Nat → Int32) × (Nat → Int32) × (Nat → Int32) × (Nat → Int32) × (Nat → Int32) × Int32 × Int32 × (Nat → Int32) × (Nat → Int32)) (w : Int32 × Int32 × Int32 × Int32 × (Nat → Int32) × (Nat → Int32) × (Nat → Int32)), f_X11_ahead s.now.1 s.now.2.1 s.now.2.2.1 s.now.2.2.2.2.2.2.1 s.now.2.2.2.2.2.1 s.now.2.2.2.2.1 s.now.2.2.2.2.2.2.2 s.now.2.2.2.1 s.tri.1 s.tri.2.1 s.tri.2.2 s.tcy.1 s.tcy.2.1 s.tcy.2.2.1 s.tcy.2.2.2.2.2.2.1 s.tcy.2.2.2.2.2.1 s.tcy.2.2.2.2.1 s.tcy.2.2.2.2.2.2.2 s.tcy.2.2.2.1 s.evg.1 s.evg.2.1 s.evg.2.2.1 s.evg.2.2.2 x1 x2 x3 = some v ∧ f_X12_ahead t.houses t.comers t.home t.dinners t.waited t.began t.begunBy t.now t.st x1 x2 x3 = some w ∧ v.1 = w.1 ∧ Inv (s.torn, s.tape, s.rdr, s.drf, s.now, s.seen, (v.2.1, v.2.2.1, v.2.2.2.1), (v.2.2.2.2.1, v.2.2.2.2.2.1, v.2.2.2.2.2.2.1, v.2.2.2.2.2.2.2.2.2.2.2.1, v.2.2.2.2.2.2.2.2.2.1, v.2.2.2.2.2.2.2.2.1, v.2.2.2.2.2.2.2.1, v.2.2.2.2.2.2.2.2.2.2.1), (v.2.2.2.2.2.2.2.2.2.2.2.2.1, v.2.2.2.2.2.2.2.2.2.2.2.2.2.1, v.2.2.2.2.2.2.2.2.2.2.2.2.2.2.1, v.2.2.2.2.2.2.2.2.2.2.2.2.2.2.2), s.adv, s.gss, s.im0, s.im1, s.sh0, s.sh1, s.sh2, s.sh3) ((t.st, w.2.2.2.2.2.2, t.isKept, t.houses, t.comers, t.draft, t.dHouses, t.dComers, t.highestHouse), t.m1, (w.2.1, w.2.2.2.2.1, w.2.2.2.2.2.1, w.2.2.1, w.2.2.2.1, t.beginSum, t.dinnerSum, t.allWays, t.hours), t.m3) := by
  obtain ⟨k, q, htw, eh, ec, hi⟩ := id hI.1
  obtain ⟨hk, hev, hC, hM, -⟩ := id htw
  have k4 := hk.1
  have k6 := hk.2.1
  have c1 : s.now.1 = nI k.hs := hC.1
  have c2 : s.now.2.1 = nI k.cm := hC.2.1
  rcases ixc x1 (n := k.hs) (by omega) with hb | ⟨h, hh, rfl⟩
  · have a1 : f_X11_noHouse s.now.1 x1 = some 1 := by rw [c1]; exact nh_bad (by omega) hb
    have a2 : f_X12_isHouse t.houses x1 = some 0 := by rw [eh]; exact ih_bad (by omega) hb
    refine ex2 (-1) ?_ ?_ (fun _ _ => hI)
    · unfold f_X11_ahead; rw [a1, sb, if_neg n10]; exact ⟨_, rfl, rfl⟩
    · unfold f_X12_ahead; rw [a2, sb, if_pos rfl]; exact ⟨_, rfl, rfl⟩
  · have a1 : f_X11_noHouse s.now.1 (nI h) = some 0 := by rw [c1]; exact nh_ok (by omega) hh
    have a2 : f_X12_isHouse t.houses (nI h) = some 1 := by rw [eh]; exact ih_ok (by omega) hh
    rcases ixc x2 (n := k.cm) (by omega) with hb | ⟨c, hc, rfl⟩
    · have b1 : f_X11_noComer s.now.2.1 x2 = some 1 := by rw [c2]; exact nc_bad (by omega) hb
      have b2 : f_X12_isComer t.comers x2 = some 0 := by rw [ec]; exact ic_bad (by omega) hb
      refine ex2 (-1) ?_ ?_ (fun _ _ => hI)
      · unfold f_X11_ahead; rw [a1, sb, if_pos rfl, b1, sb, if_neg n10]; exact ⟨_, rfl, rfl⟩
      · unfold f_X12_ahead; rw [a2, sb, if_neg n10, b2, sb, if_pos rfl]; exact ⟨_, rfl, rfl⟩
    · have b1 : f_X11_noComer s.now.2.1 (nI c) = some 0 := by rw [c2]; exact nc_ok (by omega) hc
      have b2 : f_X12_isComer t.comers (nI c) = some 1 := by rw [ec]; exact ic_ok (by omega) hc
      rcases cases_in x3 (n := 60) (by decide) with hb | ⟨n, hn, rfl⟩
      · have d1 : f_X11_outside x3 60 = some 1 := ou_bad hb.1
        refine ex2 (-1) ?_ ?_ (fun _ _ => hI)
        · unfold f_X11_ahead; rw [a1, sb, if_pos rfl, b1, sb, if_pos rfl, d1, sb, if_neg n10]; exact ⟨_, rfl, rfl⟩
        · unfold f_X12_ahead; rw [a2, sb, if_neg n10, b2, sb, if_neg n10, far_bad hb.2, sb, if_pos rfl]; exact ⟨_, rfl, rfl⟩
      · have d1 : f_X11_outside (nI n) 60 = some 0 := ou_ok (n := 60) rfl hn (by decide)
        obtain ⟨b', w', hrs', ops', lk', e1, -, e3⟩ := e_din0 (n := n) hk hC (by omega) (by omega) s.evg.1 s.evg.2.1 s.evg.2.2.1 s.evg.2.2.2
        obtain ⟨a0, g1, g2, -⟩ := starts_rel (hm := t.home) (now := t.now) hk hM
        obtain ⟨bg', by', a', g3, -, g5⟩ := e_evGo (bg := t.began) (by_ := t.begunBy) (d := t.dinners) (w := t.waited) (n := n) hk g2 (by omega) (by omega)
        obtain ⟨s1, s2, -⟩ := evn_same n k
        refine ex2 (nI ((evn n k).lk h c)) ?_ ?_ (fun _ _ => hI)
        · unfold f_X11_ahead
          rw [a1, sb, if_pos rfl, b1, sb, if_pos rfl, d1, sb, if_pos rfl, e_rst, sb]
          dsimp only
          rw [e1, sb]
          dsimp only
          rw [e_liked (by omega) (by omega), sb]
          exact ⟨_, rfl, e3.2.2.2.2.2 h (by rw [s1]; exact hh) c (by rw [s2]; exact hc)⟩
        · unfold f_X12_ahead
          rw [a2, sb, if_neg n10, b2, sb, if_neg n10, far_ok hn, sb, if_neg n10, g1, sb]
          dsimp only
          rw [eh, ec, g3, sb]
          dsimp only
          rw [e_liking (by omega) (by omega), sb]
          refine ⟨_, rfl, ?_⟩
          have := g5.1.2.2.1 h (by rw [s1]; exact hh) c (by rw [s2]; exact hc)
          rwa [show 0 + 22 + 6 * h + c = 22 + 6 * h + c by omega] at this
theorem hN_val {hr : Nat} (h : hr ≤ 7) : f_X11_hourOrNone (nI hr) = some (bgI hr) := by
  unfold f_X11_hourOrNone bgI
  by_cases q : hr < 7
  · rw [if_neg (nI_n7 q), if_pos q]
  · have e : hr = 7 := by omega
    subst e
    rfl
theorem p_begins (s : SX) (t : TM) (x1 : Int32) (x2 : Int32) (hI : Inv s t) : ∃ (v : Int32 × Int32 × Int32 × Int32 × Int32 × Int32 × Int32 × (Nat → Int32) × (Nat → Int32) × (Nat → Int32) × (Nat → Int32) × (Nat → Int32) × Int32 × Int32 × (Nat → Int32) × (Nat → Int32)) (w : Int32 × Int32 × Int32 × Int32 × (Nat → Int32) × (Nat → Int32) × (Nat → Int32)), f_X11_begins s.now.1 s.now.2.1 s.now.2.2.1 s.now.2.2.2.2.2.2.1 s.now.2.2.2.2.2.1 s.now.2.2.2.2.1 s.now.2.2.2.2.2.2.2 s.now.2.2.2.1 s.tri.1 s.tri.2.1 s.tri.2.2 s.tcy.1 s.tcy.2.1 s.tcy.2.2.1 s.tcy.2.2.2.2.2.2.1 s.tcy.2.2.2.2.2.1 s.tcy.2.2.2.2.1 s.tcy.2.2.2.2.2.2.2 s.tcy.2.2.2.1 s.evg.1 s.evg.2.1 s.evg.2.2.1 s.evg.2.2.2 x1 x2 = some v ∧ f_X12_begins t.houses t.comers t.home t.dinners t.waited t.began t.begunBy t.now t.st x1 x2 = some w ∧ v.1 = w.1 ∧ Inv (s.torn, s.tape, s.rdr, s.drf, s.now, s.seen, (v.2.1, v.2.2.1, v.2.2.2.1), (v.2.2.2.2.1, v.2.2.2.2.2.1, v.2.2.2.2.2.2.1, v.2.2.2.2.2.2.2.2.2.2.2.1, v.2.2.2.2.2.2.2.2.2.1, v.2.2.2.2.2.2.2.2.1, v.2.2.2.2.2.2.2.1, v.2.2.2.2.2.2.2.2.2.2.1), (v.2.2.2.2.2.2.2.2.2.2.2.2.1, v.2.2.2.2.2.2.2.2.2.2.2.2.2.1, v.2.2.2.2.2.2.2.2.2.2.2.2.2.2.1, v.2.2.2.2.2.2.2.2.2.2.2.2.2.2.2), s.adv, s.gss, s.im0, s.im1, s.sh0, s.sh1, s.sh2, s.sh3) ((t.st, w.2.2.2.2.2.2, t.isKept, t.houses, t.comers, t.draft, t.dHouses, t.dComers, t.highestHouse), t.m1, (w.2.1, w.2.2.2.2.1, w.2.2.2.2.2.1, w.2.2.1, w.2.2.2.1, t.beginSum, t.dinnerSum, t.allWays, t.hours), t.m3) := by
  obtain ⟨k, q, htw, eh, ec, hi⟩ := id hI.1
  obtain ⟨hk, hev, hC, hM, -⟩ := id htw
  have k4 := hk.1
  have k6 := hk.2.1
  have c1 : s.now.1 = nI k.hs := hC.1
  rcases ixc x1 (n := k.hs) (by omega) with hb | ⟨h, hh, rfl⟩
  · have a1 : f_X11_noHouse s.now.1 x1 = some 1 := by rw [c1]; exact nh_bad (by omega) hb
    have a2 : f_X12_isHouse t.houses x1 = some 0 := by rw [eh]; exact ih_bad (by omega) hb
    refine ex2 (-1) ?_ ?_ (fun _ _ => hI)
    · unfold f_X11_begins; rw [a1, sb, if_neg n10]; exact ⟨_, rfl, rfl⟩
    · unfold f_X12_begins; rw [a2, sb, if_pos rfl]; exact ⟨_, rfl, rfl⟩
  · have a1 : f_X11_noHouse s.now.1 (nI h) = some 0 := by rw [c1]; exact nh_ok (by omega) hh
    have a2 : f_X12_isHouse t.houses (nI h) = some 1 := by rw [eh]; exact ih_ok (by omega) hh
    rcases cases_in x2 (n := 60) (by decide) with hb | ⟨n, hn, rfl⟩
    · have d1 : f_X11_outside x2 60 = some 1 := ou_bad hb.1
      refine ex2 (-1) ?_ ?_ (fun _ _ => hI)
      · unfold f_X11_begins; rw [a1, sb, if_pos rfl, d1, sb, if_neg n10]; exact ⟨_, rfl, rfl⟩
      · unfold f_X12_begins; rw [a2, sb, if_neg n10, far_bad hb.2, sb, if_pos rfl]; exact ⟨_, rfl, rfl⟩
    · have d1 : f_X11_outside (nI n) 60 = some 0 := ou_ok (n := 60) rfl hn (by decide)
      obtain ⟨b', w', hrs', ops', lk', e1, e2, -⟩ := e_din0 (n := n + 1) hk hC (by omega) (by omega) s.evg.1 s.evg.2.1 s.evg.2.2.1 s.evg.2.2.2
      obtain ⟨a0, g1, g2, -⟩ := starts_rel (hm := t.home) (now := t.now) hk hM
      obtain ⟨bg', by', a', g3, g4, -⟩ := e_evGo (bg := t.began) (by_ := t.begunBy) (d := t.dinners) (w := t.waited) (n := n + 1) hk g2 (by omega) (by omega)
      have e2 := (e2.resolve_left (by omega)).2.2 h hh
      have g4 := g4.resolve_left (by omega) h hh
      rw [Nat.add_sub_cancel] at e2 g4
      refine ex2 (bgI (hrK (evn n k) h)) ?_ ?_ (fun _ _ => hI)
      · unfold f_X11_begins
        rw [a1, sb, if_pos rfl, d1, sb, if_pos rfl, e_rst, sb]
        dsimp only
        rw [nI_1, e1, sb]
        dsimp only
        rw [if_pos (inb_nI (by omega) (by decide)), ix_nI (by omega), e2.1, hN_val (hrK_le _ _), sb]
        exact ⟨_, rfl, rfl⟩
      · unfold f_X12_begins
        rw [a2, sb, if_neg n10, far_ok hn, sb, if_neg n10, g1, sb]
        dsimp only
        rw [nI_1, eh, ec, g3, sb]
        dsimp only
        rw [if_pos (inb_nI (by omega) (by decide)), ix_nI (by omega)]
        exact ⟨_, rfl, g4.1⟩
theorem e_settles {a st : Nat → Int32} : ∃ b : Nat → Int32, f_X12_settles a st = some b ∧ (∀ j, j < 66 → b j = a j) ∧ ∀ j, 66 ≤ j → b j = st j := by
  have key : ∀ (q i m : Nat) (y : Nat → Int32), i + q = 66 → q < m → (∀ j, j < i → y j = a j) → (∀ j, 66 ≤ j → y j = st j) → ∃ b, L_X12_settles_2 a m (nI i) y = some b ∧ (∀ j, j < 66 → b j = a j) ∧ ∀ j, 66 ≤ j → b j = st j := by
    intro q
    induction q with
    | zero =>
      intro i m y e hm hy hy2
      obtain ⟨m, rfl⟩ : ∃ m', m = m' + 1 := ⟨m - 1, by omega⟩
      have e2 : i = 66 := by omega
      subst e2
      rw [L_X12_settles_2, if_pos (by decide)]
      exact ⟨y, rfl, hy, hy2⟩
    | succ q ih =>
      intro i m y e hm hy hy2
      obtain ⟨m, rfl⟩ : ∃ m', m = m' + 1 := ⟨m - 1, by omega⟩
      have b : ¬ (66 : Int32) ≤ nI i := nI_ge (b := 66) (by omega) (by decide)
      rw [L_X12_settles_2, if_neg b, if_pos (inb_nI (by omega) (by decide)), if_pos (inb_nI (by omega) (by decide)), ix_nI (by omega), nI_1]
      refine ih (i + 1) m _ (by omega) (by omega) (fun j hj => ?_) (fun j hj => by rw [upd_at, if_neg (by omega)]; exact hy2 j hj)
      rw [upd_at]
      by_cases e3 : j = i
      · rw [if_pos e3, e3]
      · rw [if_neg e3]; exact hy j (by omega)
  obtain ⟨b, h1, h2⟩ := key 66 0 400 st (by omega) (by omega) (fun j hj => absurd hj (Nat.not_lt_zero j)) (fun _ _ => rfl)
  refine ⟨b, ?_, h2⟩
  unfold f_X12_settles
  have h0 : L_X12_settles_2 a 400 0 st = some b := h1
  rw [h0]; rfl
/-- an image stays where nothing of it is written -/
theorem iImg_at {x : Img} {a b : Nat → Int32} {o : Nat} {kp : Int32} {k k' : Ka} (h : iImg x a o kp k) (e : ∀ j, j < 66 → b (o + j) = a (o + j)) (e1 : k'.hs = k.hs) (e2 : k'.cm = k.cm) : iImg x b o kp k' := by
  rcases h with h | ⟨h1, h2, k2, q2, h3, h4, g1, g2, g3, g4, g5, g6, g7⟩
  · exact Or.inl h
  · exact Or.inr ⟨h1, h2, k2, q2, h3.trans e1.symm, h4.trans e2.symm, g1, g2, g3, relM_at g1 g4 e, g5, g6, relSM_at g5.1 g7 (fun j _ hj => e j hj)⟩
