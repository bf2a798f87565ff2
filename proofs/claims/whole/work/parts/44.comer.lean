theorem ex4 {β : Type} {F : Option Int32} {G : Option (Int32 × β)} {P : Int32 → Int32 × β → Prop} (r : Int32) (h1 : F = some r) (h2 : ∃ w, G = some w ∧ w.1 = r) (h3 : ∀ v w, P v w) : ∃ v w, F = some v ∧ G = some w ∧ v = w.1 ∧ P v w := by
  obtain ⟨w, b1, b2⟩ := h2
  exact ⟨r, w, h1, b1, b2.symm, h3 r w⟩
theorem p_comer (s : SX) (t : TM) (x1 : Int32) (x2 : Int32) (hI : Inv s t) : ∃ (v : Int32) (w : Int32 × Int32 × (Nat → Int32)), f_X11_comer s.now.1 s.now.2.1 s.now.2.2.2.2.2.2.1 s.now.2.2.2.2.2.1 s.now.2.2.2.2.1 s.now.2.2.2.2.2.2.2 s.now.2.2.2.1 x1 x2 = some v ∧ f_X12_comer t.houses t.comers t.home t.now t.st x1 x2 = some w ∧ v = w.1 ∧ Inv (s.torn, s.tape, s.rdr, s.drf, s.now, s.seen, s.tri, s.tcy, s.evg, s.adv, s.gss, s.im0, s.im1, s.sh0, s.sh1, s.sh2, s.sh3) ((t.st, w.2.2, t.isKept, t.houses, t.comers, t.draft, t.dHouses, t.dComers, t.highestHouse), t.m1, (w.2.1, t.began, t.begunBy, t.dinners, t.waited, t.beginSum, t.dinnerSum, t.allWays, t.hours), t.m3) := by
  obtain ⟨k, q, htw, eh, ec, hi⟩ := id hI.1
  obtain ⟨hk, hev, hC, hM, -⟩ := id htw
  have k4 := hk.1
  have k6 := hk.2.1
  have c1 : s.now.1 = nI k.hs := hC.1
  have c2 : s.now.2.1 = nI k.cm := hC.2.1
  rcases ixc x1 (n := k.cm) (by omega) with hb | ⟨c, hc, rfl⟩
  · have a1 : f_X11_noComer s.now.2.1 x1 = some 1 := by rw [c2]; exact nc_bad (by omega) hb
    have a2 : f_X12_isComer t.comers x1 = some 0 := by rw [ec]; exact ic_bad (by omega) hb
    refine ex4 (-1) ?_ ?_ (fun _ _ => hI)
    · unfold f_X11_comer; rw [a1, sb, if_neg n10]
    · unfold f_X12_comer; rw [a2, sb, if_pos rfl]; exact ⟨_, rfl, rfl⟩
  · have a1 : f_X11_noComer s.now.2.1 (nI c) = some 0 := by rw [c2]; exact nc_ok (by omega) hc
    have a2 : f_X12_isComer t.comers (nI c) = some 1 := by rw [ec]; exact ic_ok (by omega) hc
    obtain ⟨a0, g1, g2, -⟩ := starts_rel (hm := t.home) (now := t.now) hk hM
    have i6 : inb (nI c) 6 := inb_nI (by omega) (by omega)
    have x6 : ix (nI c) = c := ix_nI (by omega)
    obtain ⟨r1, r2, r3⟩ := hC.2.2.2.2.1 c hc
    obtain ⟨m1, m2, m3⟩ := g2.2.1 c hc
    rcases cases_in x2 (n := 4) (by decide) with hb | ⟨n, hn, rfl⟩
    · have o : ∀ j, j ≤ 4 → ¬ x2 = nI j := fun j hj => ne_out hb.2 hj (by decide)
      have d2 : f_X12_in x2.toInt64 0 4 = some 0 := in_bad (n := 4) rfl hb.2
      refine ex4 (-1) ?_ ?_ (fun _ _ => hI)
      · unfold f_X11_comer; rw [a1, sb, if_pos rfl, if_neg (show ¬ x2 = 0 from o 0 (by decide)), if_neg (show ¬ x2 = 1 from o 1 (by decide)), if_neg (show ¬ x2 = 2 from o 2 (by decide)), if_neg (show ¬ x2 = 3 from o 3 (by decide)), if_neg (show ¬ x2 = 4 from o 4 (by decide))]
      · unfold f_X12_comer; rw [a2, sb, if_neg n10, d2, sb, if_pos rfl]; exact ⟨_, rfl, rfl⟩
    · have d2 : f_X12_in (nI n).toInt64 0 4 = some 1 := in_ok (n := 4) rfl hn (by decide)
      obtain rfl | rfl | rfl | rfl | rfl : n = 0 ∨ n = 1 ∨ n = 2 ∨ n = 3 ∨ n = 4 := by omega
      · refine ex4 (nI (k.kd c)) ?_ ?_ (fun _ _ => hI)
        · unfold f_X11_comer; rw [a1, sb, if_pos rfl, if_pos (by decide), if_pos i6, x6]; exact congrArg some r1
        · unfold f_X12_comer; rw [a2, sb, if_neg n10, d2, sb, if_neg n10, g1, sb, if_neg (by decide)]
          dsimp only
          rw [e_of (by omega) (by omega), sb]
          exact ⟨_, rfl, by show a0 (4 + 3 * c + 0) = _; rw [show 4 + 3 * c + 0 = 0 + 4 + 3 * c by omega, m1]⟩
      · refine ex4 (goI (k.go c)) ?_ ?_ (fun _ _ => hI)
        · have e9 : f_X11_houseOrNone (nI (k.go c)) = some (goI (k.go c)) := by
            unfold f_X11_houseOrNone goI
            by_cases q : k.go c = 9
            · rw [q]; rfl
            · rw [if_neg q, if_neg (show ¬ nI (k.go c) = 9 from fun z => q ((nI_eq (b := 9) (by have := go9 hk hc; omega) (by omega)).mp z))]
          unfold f_X11_comer; rw [a1, sb, if_pos rfl, if_neg (by decide), if_pos (by decide), if_pos i6, x6]
          rw [r2, e9, sb]
        · unfold f_X12_comer; rw [a2, sb, if_neg n10, d2, sb, if_neg n10, g1, sb, if_neg (by decide)]
          dsimp only
          rw [e_of (by omega) (by omega), sb]
          exact ⟨_, rfl, by show a0 (4 + 3 * c + 1) = _; rw [show 4 + 3 * c + 1 = 0 + 5 + 3 * c by omega, m2]⟩
      · refine ex4 (nI (k.co c)) ?_ ?_ (fun _ _ => hI)
        · unfold f_X11_comer; rw [a1, sb, if_pos rfl, if_neg (by decide), if_neg (by decide), if_pos (by decide), if_pos i6, x6]; exact congrArg some r3
        · unfold f_X12_comer; rw [a2, sb, if_neg n10, d2, sb, if_neg n10, g1, sb, if_neg (by decide)]
          dsimp only
          rw [e_of (by omega) (by omega), sb]
          exact ⟨_, rfl, by show a0 (4 + 3 * c + 2) = _; rw [show 4 + 3 * c + 2 = 0 + 6 + 3 * c by omega, m3]⟩
      · refine ex4 (nI (liN k c)) ?_ ?_ (fun _ _ => hI)
        · have e9 : f_X1_listsWith s.now.1 s.now.2.2.2.1 (nI c) = some (nI (liN k c)) := by rw [c1]; exact e_listsWith hk hC hc
          unfold f_X11_comer; rw [a1, sb, if_pos rfl, if_neg (by decide), if_neg (by decide), if_neg (by decide), if_pos (by decide), e9, sb]
        · unfold f_X12_comer; rw [a2, sb, if_neg n10, d2, sb, if_neg n10, g1, sb, if_pos (by decide), if_pos (by decide), eh, e_listed hk hM hc, sb]
          exact ⟨_, rfl, rfl⟩
      · refine ex4 (nI (lkN k c)) ?_ ?_ (fun _ _ => hI)
        · have e9 : f_X1_likingsOf s.now.1 s.now.2.2.2.2.2.2.2 (nI c) = some (nI (lkN k c)) := by rw [c1]; exact e_likingsOf hk hC hc
          unfold f_X11_comer; rw [a1, sb, if_pos rfl, if_neg (by decide), if_neg (by decide), if_neg (by decide), if_neg (by decide), if_pos (by decide), e9, sb]
        · unfold f_X12_comer; rw [a2, sb, if_neg n10, d2, sb, if_neg n10, g1, sb, if_pos (by decide), if_neg (by decide), eh]
          dsimp only
          rw [e_likedInAll hk g2 hc, sb]
          exact ⟨_, rfl, rfl⟩
theorem nI_ab (a : Nat) (b : Bool) : nI a + (if b then 1 else 0 : Int32) = nI (a + if b then 1 else 0) := by
  cases b with
  | true => exact nI_add a 1
  | false => exact nI_add a 0
theorem l_count8 {k : Ka} {a : Nat → Int32} {z : Int32} (hk : kok k) (hM : relM a 0 k) : L_X12_count_8 (nI k.cm) (z, a) 400 0 0 = some (nI (cnt (fun c => !decide (k.go c = 9)) k.cm)) := by
  have k4 := hk.1
  have k6 := hk.2.1
  refine lpG (L := L_X12_count_8 (nI k.cm) (z, a)) (acc := fun m => nI (cnt (fun c => !decide (k.go c = 9)) m)) (n := k.cm) (by omega) (fun f => ?_) (fun f c hc => ?_)
  · rw [L_X12_count_8, if_pos (nlt_le (by omega))]
  · have e0 : f_X12_of a (nI c) 1 = some (goI (k.go c)) := by
      have := e_of (a := a) (c := c) (j := 1) (by omega) (by omega)
      rw [show (nI 1 : Int32) = 1 from rfl] at this
      rw [this, show 4 + 3 * c + 1 = 0 + 5 + 3 * c by omega, (hM.2.1 c hc).2.1]
    have e : (if goI (k.go c) = -4 then some 0 else some 1 : Option Int32) = some (if (!decide (k.go c = 9)) then 1 else 0) := by
      unfold goI
      by_cases q : k.go c = 9
      · rw [if_pos q, if_pos rfl, decide_eq_true q]; rfl
      · rw [if_neg q, if_neg (nI_n4 (by have := go9 hk hc; omega)), decide_eq_false q]; rfl
    rw [L_X12_count_8, if_neg (nI_ge (by omega) (by omega))]
    show (f_X12_of a (nI c) 1).bind _ = _
    rw [e0, sb, e, sb, e_flag, sb, nI_1, cnt, nI_ab]
theorem cnt_not (p : Nat → Bool) : ∀ n, cnt p n + cnt (fun c => !p c) n = n
  | 0 => rfl
  | n + 1 => by
    have := cnt_not p n
    rw [cnt, cnt]
    cases p n with
    | true => show cnt p n + 1 + (cnt (fun c => !p c) n + 0) = n + 1; omega
    | false => show cnt p n + 0 + (cnt (fun c => !p c) n + 1) = n + 1; omega
theorem p_count (s : SX) (t : TM) (x1 : Int32) (hI : Inv s t) : ∃ (v : Int32) (w : Int32 × Int32 × (Nat → Int32)), f_X11_count s.im0.1 s.im1.1 s.now.1 s.now.2.1 s.now.2.2.2.2.2.1 s.now.2.2.2.2.2.2.2 s.seen.1 s.sh0.2.1 s.sh1.2.1 s.sh2.2.1 s.sh3.2.1 s.tape.1 x1 = some v ∧ f_X12_count t.houses t.comers t.taped t.home t.isKept t.lanes t.now t.sizes t.st x1 = some w ∧ v = w.1 ∧ Inv (s.torn, s.tape, s.rdr, s.drf, s.now, s.seen, s.tri, s.tcy, s.evg, s.adv, s.gss, s.im0, s.im1, s.sh0, s.sh1, s.sh2, s.sh3) ((t.st, w.2.2, t.isKept, t.houses, t.comers, t.draft, t.dHouses, t.dComers, t.highestHouse), t.m1, (w.2.1, t.began, t.begunBy, t.dinners, t.waited, t.beginSum, t.dinnerSum, t.allWays, t.hours), t.m3) := by
  obtain ⟨⟨k, q, htw, eh, ec, hi0, hi1⟩, ⟨hs0, -⟩, ht, hf, hto⟩ := id hI
  obtain ⟨hk, hev, hC, hM, hso, hS, hSM⟩ := id htw
  have k4 := hk.1
  have k6 := hk.2.1
  have c1 : s.now.1 = nI k.hs := hC.1
  have c2 : s.now.2.1 = nI k.cm := hC.2.1
  obtain ⟨a0, g1, g2, -⟩ := starts_rel (hm := t.home) (now := t.now) hk hM
  have g5 := l_count8 (z := 0) hk g2
  rcases cases_in x1 (n := 5) (by decide) with hb | ⟨n, hn, rfl⟩
  · have o : ∀ j, j ≤ 5 → ¬ x1 = nI j := fun j hj => ne_out hb.2 hj (by decide)
    refine ex4 (-1) ?_ ?_ (fun _ _ => hI)
    · unfold f_X11_count; rw [if_neg (show ¬ x1 = 0 from o 0 (by decide)), if_neg (show ¬ x1 = 1 from o 1 (by decide)), if_neg (show ¬ x1 = 2 from o 2 (by decide)), if_neg (show ¬ x1 = 3 from o 3 (by decide)), if_neg (show ¬ x1 = 4 from o 4 (by decide)), if_neg (show ¬ x1 = 5 from o 5 (by decide))]
    · unfold f_X12_count; rw [g1, sb, ec, g5, sb, if_neg (show ¬ x1 = 0 from o 0 (by decide)), if_neg (show ¬ x1 = 1 from o 1 (by decide)), if_neg (show ¬ x1 = 2 from o 2 (by decide)), if_neg (show ¬ x1 = 3 from o 3 (by decide)), if_neg (show ¬ x1 = 4 from o 4 (by decide)), if_neg (show ¬ x1 = 5 from o 5 (by decide))]; exact ⟨_, rfl, rfl⟩
  · obtain rfl | rfl | rfl | rfl | rfl | rfl : n = 0 ∨ n = 1 ∨ n = 2 ∨ n = 3 ∨ n = 4 ∨ n = 5 := by omega
    · refine ex4 (nI q.1) ?_ ?_ (fun _ _ => hI)
      · unfold f_X11_count; rw [if_pos (by decide)]; exact congrArg some hS.1
      · unfold f_X12_count; rw [g1, sb, ec, g5, sb, if_pos (by decide), if_pos (by decide)]
        exact ⟨_, rfl, by have := hSM.1; rwa [Nat.zero_add] at this⟩
    · have f0 : (s.im0.1 = 0 ∧ t.isKept 0 = 0) ∨ (s.im0.1 = 1 ∧ t.isKept 0 = 1) := hi0.imp id (fun h => ⟨h.1, h.2.1⟩)
      have f1 : (s.im1.1 = 0 ∧ t.isKept 1 = 0) ∨ (s.im1.1 = 1 ∧ t.isKept 1 = 1) := hi1.imp id (fun h => ⟨h.1, h.2.1⟩)
      refine ex4 (t.isKept 0 + t.isKept 1) ?_ ?_ (fun _ _ => hI)
      · unfold f_X11_count; rw [if_neg (by decide), if_pos (by decide)]
        rcases f0 with ⟨p1, p2⟩ | ⟨p1, p2⟩ <;> rcases f1 with ⟨p3, p4⟩ | ⟨p3, p4⟩ <;> rw [p1, p2, p3, p4] <;> decide
      · have z0 : f_X12_flag (t.isKept (ix 0)) = some (t.isKept 0) := by
          show f_X12_flag (t.isKept 0) = _
          rcases f0 with ⟨p1, p2⟩ | ⟨p1, p2⟩ <;> rw [p2] <;> decide
        have z1 : f_X12_flag (t.isKept (ix 1)) = some (t.isKept 1) := by
          show f_X12_flag (t.isKept 1) = _
          rcases f1 with ⟨p1, p2⟩ | ⟨p1, p2⟩ <;> rw [p2] <;> decide
        unfold f_X12_count; rw [g1, sb, ec, g5, sb, if_neg (by decide), if_pos (by decide), if_pos (by decide), z0, sb, if_pos (by decide), z1, sb]
        exact ⟨_, rfl, rfl⟩
    · obtain ⟨m, -, p1, p2, -⟩ := ht
      refine ex4 (nI m) ?_ ?_ (fun _ _ => hI)
      · unfold f_X11_count; rw [if_neg (by decide), if_neg (by decide), if_pos (by decide)]; exact congrArg some p1
      · unfold f_X12_count; rw [g1, sb, ec, g5, sb, if_neg (by decide), if_neg (by decide), if_pos (by decide)]
        exact ⟨_, rfl, p2⟩
    · rcases hs0 with ⟨p1, p2⟩ | ⟨n, m, p1, p2, p3, p4, p5, p6, -⟩
      · refine ex4 (-4) ?_ ?_ (fun _ _ => hI)
        · have p1 : s.sh0.2.1 = -1 := p1
          unfold f_X11_count; rw [if_neg (by decide), if_neg (by decide), if_neg (by decide), if_pos (by decide), p1]; rfl
        · unfold f_X12_count; rw [g1, sb, ec, g5, sb, if_neg (by decide), if_neg (by decide), if_neg (by decide), if_pos (by decide), if_pos (by decide), if_pos (show t.lanes (ix 0) = -4 from p2)]
          exact ⟨_, rfl, rfl⟩
      · refine ex4 (nI m) ?_ ?_ (fun _ _ => hI)
        · have p4 : s.sh0.2.1 = nI m := p4
          have e9 : f_X6_isNothing (nI m) = some 0 := by
            unfold f_X6_isNothing
            rw [if_neg]
            intro e
            have := congrArg Int32.toInt e
            rw [nI_toInt (by omega)] at this
            have e2 : (-1 : Int32).toInt = -1 := by decide
            omega
          unfold f_X11_count; rw [if_neg (by decide), if_neg (by decide), if_neg (by decide), if_pos (by decide), p4, e9, sb, if_pos rfl]
        · unfold f_X12_count; rw [g1, sb, ec, g5, sb, if_neg (by decide), if_neg (by decide), if_neg (by decide), if_pos (by decide), if_pos (by decide), if_neg (show ¬ t.lanes (ix 0) = -4 from by show ¬ t.lanes 0 = -4; rw [p5]; exact nI_n4 (by omega)), if_pos (by decide)]
          exact ⟨_, rfl, p6⟩
    · refine ex4 (nI (cnt (fun c => !decide (k.go c = 9)) k.cm)) ?_ ?_ (fun _ _ => hI)
      · have e9 : f_X1_goersAnywhere s.now.2.1 s.now.2.2.2.2.2.1 = some (nI (cnt (fun c => !decide (k.go c = 9)) k.cm)) := by
          unfold f_X1_goersAnywhere
          rw [c2, e_goers k6, sb, bc_msk k6, sb, cnt_congr (q := fun c => decide (k.go c = 9)), pk_sub (cnt_le _ _)]
          · have := cnt_not (fun c => decide (k.go c = 9)) k.cm
            exact congrArg (fun z => some (nI z)) (by omega)
          · intro c hc
            rw [(hC.2.2.2.2.1 c hc).2.1]
            exact decide_eq_decide.mpr (nI_eq (b := 9) (by have := go9 hk hc; omega) (by omega))
        unfold f_X11_count; rw [if_neg (by decide), if_neg (by decide), if_neg (by decide), if_neg (by decide), if_pos (by decide), e9, sb]
      · unfold f_X12_count; rw [g1, sb, ec, g5, sb, if_neg (by decide), if_neg (by decide), if_neg (by decide), if_neg (by decide), if_pos (by decide)]
        exact ⟨_, rfl, rfl⟩
    · refine ex4 (nI (alkN k)) ?_ ?_ (fun _ _ => hI)
      · have e9 : f_X1_likings s.now.1 s.now.2.1 s.now.2.2.2.2.2.2.2 = some (nI (alkN k)) := by rw [c1, c2]; exact e_likings hk hC
        unfold f_X11_count; rw [if_neg (by decide), if_neg (by decide), if_neg (by decide), if_neg (by decide), if_neg (by decide), if_pos (by decide), e9, sb]
      · unfold f_X12_count; rw [g1, sb, ec, g5, sb, if_neg (by decide), if_neg (by decide), if_neg (by decide), if_neg (by decide), if_neg (by decide), if_pos (by decide), eh]
        dsimp only
        rw [e_allLiked hk g2, sb]
        exact ⟨_, rfl, rfl⟩
theorem l_runs35 {k : Ka} {n : Nat} {z : Nat → Int32} (hn : n ≤ 61) (hk : kok k) : ∀ (q i m : Nat) (k2 : Ka) (ff : Int32) (d0 w0 : Nat) (bg by_ a : Nat → Int32), k2.hs = k.hs → k2.cm = k.cm → kok k2 → relM a 0 k2 → i + q = n → q < m → k2.ev + q ≤ 2000 → d0 ≤ 4 * i → ∃ bg' by' a' : Nat → Int32, L_X12_runs_35 (nI k.hs) (nI k.cm) (nI n) (0, z) m ff (nI (i + 1)) (nI d0) (nI w0) bg by_ a = some (ffS i q k2 ff, nI (d0 + dn q k2), nI (w0 + wn q k2), bg', by', a') ∧ relM a' 0 (evn q k2) := by
  intro q
  have k4 := hk.1
  induction q with
  | zero =>
    intro i m k2 ff d0 w0 bg by_ a s1 s2 hk hM e hm he hd
    obtain ⟨m, rfl⟩ : ∃ m', m = m' + 1 := ⟨m - 1, by omega⟩
    have e2 : i = n := by omega
    subst e2
    rw [L_X12_runs_35, if_pos (nI_lt (by omega) (by omega))]
    exact ⟨bg, by_, a, rfl, hM⟩
  | succ q ih =>
    intro i m k2 ff d0 w0 bg by_ a s1 s2 hk2 hM e hm he hd
    obtain ⟨m, rfl⟩ : ∃ m', m = m' + 1 := ⟨m - 1, by omega⟩
    obtain ⟨bg1, by1, a1, h1, h2, h3, h4⟩ := e_goesEv (a := a) (bg := bg) (by_ := by_) (k := k2) (hm := 0) (cg := 63) (d := d0) (w := w0) hk2 hM (by decide) (cg63 hk2)
    have h1 : f_X12_eveningGoes (nI k.hs) (nI k.cm) 0 (nI d0) (nI w0) bg by_ a = some (nI (d0 + dK k2), nI (w0 + wK k2), bg1, by1, a1) := by rw [← s1, ← s2]; exact h1
    have dk := dK_le hk2
    have e8 : nI (d0 + dK k2) - nI d0 = nI (dK k2) := by rw [pk_sub (by omega)]; exact congrArg nI (by omega)
    obtain ⟨bg', by', a', b1, b2⟩ := ih (i + 1) m (eve k2) (if dK k2 < k2.hs ∧ ff = -4 then nI (i + 1) else ff) (d0 + dK k2) (w0 + wK k2) bg1 by1 a1 s1 s2 (kok_eve hk2 (by omega)) h3 (by omega) (by omega) (by show k2.ev + 1 + q ≤ 2000; omega) (by omega)
    refine ⟨bg', by', a', ?_, b2⟩
    rw [L_X12_runs_35, if_neg (nI_nlt (by omega) (by omega))]
    show (f_X12_eveningGoes (nI k.hs) (nI k.cm) 0 (nI d0) (nI w0) bg by_ a).bind _ = _
    rw [h1, sb, nI_1, dn, wn, show d0 + (dK k2 + dn q (eve k2)) = d0 + dK k2 + dn q (eve k2) by omega, show w0 + (wK k2 + wn q (eve k2)) = w0 + wK k2 + wn q (eve k2) by omega, ffS]
    dsimp only
    rw [e8, ← b1]
    by_cases q1 : ff = -4
    · rw [if_pos q1]
      by_cases q2 : dK k2 < k2.hs
      · rw [if_neg (nI_ge (by omega) (by omega)), if_pos ⟨q2, q1⟩]
      · rw [if_pos (nI_le (by omega) (by omega)), if_neg (fun z => q2 z.1)]
    · rw [if_neg q1, if_neg (fun z => q1 z.2)]
theorem p_runs (s : SX) (t : TM) (x1 : Int32) (x2 : Int32) (hI : Inv s t) : ∃ (v : Int32 × Int32 × Int32 × Int32 × Int32 × Int32 × Int32 × (Nat → Int32) × (Nat → Int32) × (Nat → Int32) × (Nat → Int32) × (Nat → Int32) × Int32 × Int32 × (Nat → Int32) × (Nat → Int32)) (w : Int32 × Int32 × Int32 × Int32 × (Nat → Int32) × (Nat → Int32) × (Nat → Int32)), f_X11_runs s.now.1 s.now.2.1 s.now.2.2.1 s.now.2.2.2.2.2.2.1 s.now.2.2.2.2.2.1 s.now.2.2.2.2.1 s.now.2.2.2.2.2.2.2 s.now.2.2.2.1 s.tri.1 s.tri.2.1 s.tri.2.2 s.tcy.1 s.tcy.2.1 s.tcy.2.2.1 s.tcy.2.2.2.2.2.2.1 s.tcy.2.2.2.2.2.1 s.tcy.2.2.2.2.1 s.tcy.2.2.2.2.2.2.2 s.tcy.2.2.2.1 s.evg.1 s.evg.2.1 s.evg.2.2.1 s.evg.2.2.2 x1 x2 = some v ∧ f_X12_runs t.houses t.comers t.home t.dinners t.waited t.began t.begunBy t.now t.st x1 x2 = some w ∧ v.1 = w.1 ∧ Inv (s.torn, s.tape, s.rdr, s.drf, s.now, s.seen, (v.2.1, v.2.2.1, v.2.2.2.1), (v.2.2.2.2.1, v.2.2.2.2.2.1, v.2.2.2.2.2.2.1, v.2.2.2.2.2.2.2.2.2.2.2.1, v.2.2.2.2.2.2.2.2.2.1, v.2.2.2.2.2.2.2.2.1, v.2.2.2.2.2.2.2.1, v.2.2.2.2.2.2.2.2.2.2.1), (v.2.2.2.2.2.2.2.2.2.2.2.2.1, v.2.2.2.2.2.2.2.2.2.2.2.2.2.1, v.2.2.2.2.2.2.2.2.2.2.2.2.2.2.1, v.2.2.2.2.2.2.2.2.2.2.2.2.2.2.2), s.adv, s.gss, s.im0, s.im1, s.sh0, s.sh1, s.sh2, s.sh3) ((t.st, w.2.2.2.2.2.2, t.isKept, t.houses, t.comers, t.draft, t.dHouses, t.dComers, t.highestHouse), t.m1, (w.2.1, w.2.2.2.2.1, w.2.2.2.2.2.1, w.2.2.1, w.2.2.2.1, t.beginSum, t.dinnerSum, t.allWays, t.hours), t.m3) := by
  obtain ⟨k, q, htw, eh, ec, hi⟩ := id hI.1
  obtain ⟨hk, hev, hC, hM, -⟩ := id htw
  have k4 := hk.1
  have k6 := hk.2.1
  have c1 : s.now.1 = nI k.hs := hC.1
  have c2 : s.now.2.1 = nI k.cm := hC.2.1
  rcases cases_in x1 (n := 60) (by decide) with hb | ⟨n, hn, rfl⟩
  · have d1 : f_X11_outside x1 60 = some 1 := ou_bad hb.1
    refine ex2 (-1) ?_ ?_ (fun _ _ => hI)
    · unfold f_X11_runs; rw [d1, sb, if_neg n10]; exact ⟨_, rfl, rfl⟩
    · unfold f_X12_runs; rw [far_bad hb.2, sb, if_pos rfl]; exact ⟨_, rfl, rfl⟩
  · have d1 : f_X11_outside (nI n) 60 = some 0 := ou_ok (n := 60) rfl hn (by decide)
    rcases cases_in x2 (n := 3) (by decide) with hb | ⟨p, hp, rfl⟩
    · have d3 : f_X11_outside x2 3 = some 1 := ou_bad hb.1
      have d4 : f_X12_in x2.toInt64 0 3 = some 0 := in_bad (n := 3) rfl hb.2
      refine ex2 (-1) ?_ ?_ (fun _ _ => hI)
      · unfold f_X11_runs; rw [d1, sb, if_pos rfl, d3, sb, if_neg n10]; exact ⟨_, rfl, rfl⟩
      · unfold f_X12_runs; rw [far_ok hn, sb, if_neg n10, d4, sb, if_pos rfl]; exact ⟨_, rfl, rfl⟩
    · have d3 : f_X11_outside (nI p) 3 = some 0 := ou_ok (n := 3) rfl hp (by decide)
      have d4 : f_X12_in (nI p).toInt64 0 3 = some 1 := in_ok (n := 3) rfl hp (by decide)
      obtain ⟨b', w', hrs', ops', lk', e1, -, e3⟩ := e_din0 (n := n) hk hC (by omega) (by omega) s.evg.1 s.evg.2.1 s.evg.2.2.1 s.evg.2.2.2
      obtain ⟨a0, g1, g2, -⟩ := starts_rel (hm := t.home) (now := t.now) hk hM
      obtain ⟨bg', by', a', g3, g5⟩ := l_runs35 (z := a0) (n := n) (by omega) hk n 0 400 k (-4) 0 0 t.began t.begunBy a0 rfl rfl hk g2 (by omega) (by omega) (by omega) (by omega)
      rw [Nat.zero_add, Nat.zero_add, Nat.zero_add] at g3
      have g3 : L_X12_runs_35 (nI k.hs) (nI k.cm) (nI n) (0, a0) 400 (-4) 1 0 0 t.began t.begunBy a0 = _ := g3
      obtain ⟨s1, s2, -⟩ := evn_same n k
      have f0 : f_X12_startsCounting t.dinners t.waited = some (0, 0) := rfl
      obtain rfl | rfl | rfl | rfl : p = 0 ∨ p = 1 ∨ p = 2 ∨ p = 3 := by omega
      · refine ex2 (nI (dn n k)) ?_ ?_ (fun _ _ => hI)
        · unfold f_X11_runs
          rw [d1, sb, if_pos rfl, d3, sb, if_pos rfl, e_rst, sb]
          dsimp only
          rw [e1, sb, if_pos (by decide)]
          exact ⟨_, rfl, rfl⟩
        · unfold f_X12_runs
          rw [far_ok hn, sb, if_neg n10, d4, sb, if_neg n10, g1, sb, f0, sb]
          dsimp only
          rw [eh, ec, g3, sb, if_pos (by decide)]
          exact ⟨_, rfl, rfl⟩
      · refine ex2 (nI (wn n k)) ?_ ?_ (fun _ _ => hI)
        · unfold f_X11_runs
          rw [d1, sb, if_pos rfl, d3, sb, if_pos rfl, e_rst, sb]
          dsimp only
          rw [e1, sb, if_neg (by decide), if_pos (by decide)]
          exact ⟨_, rfl, rfl⟩
        · unfold f_X12_runs
          rw [far_ok hn, sb, if_neg n10, d4, sb, if_neg n10, g1, sb, f0, sb]
          dsimp only
          rw [eh, ec, g3, sb, if_neg (by decide), if_pos (by decide)]
          exact ⟨_, rfl, rfl⟩
      · refine ex2 (ffS 0 n k (-4)) ?_ ?_ (fun _ _ => hI)
        · unfold f_X11_runs
          rw [d1, sb, if_pos rfl, d3, sb, if_pos rfl, e_rst, sb]
          dsimp only
          rw [e1, sb, if_neg (by decide), if_neg (by decide), if_pos (by decide)]
          exact ⟨_, rfl, rfl⟩
        · unfold f_X12_runs
          rw [far_ok hn, sb, if_neg n10, d4, sb, if_neg n10, g1, sb, f0, sb]
          dsimp only
          rw [eh, ec, g3, sb, if_neg (by decide), if_neg (by decide), if_pos (by decide)]
          exact ⟨_, rfl, rfl⟩
      · have kn := kok_evn n hk (by omega)
        refine ex2 (nI (alkN (evn n k))) ?_ ?_ (fun _ _ => hI)
        · have e9 := e_likings kn e3
          dsimp only at e9
          have e9 : f_X1_likings s.now.1 s.now.2.1 lk' = some (nI (alkN (evn n k))) := by rw [c1, c2, ← e9]; exact congr (congrArg f_X1_likings (congrArg nI s1.symm)) (congrArg nI s2.symm) ▸ rfl
          unfold f_X11_runs
          rw [d1, sb, if_pos rfl, d3, sb, if_pos rfl, e_rst, sb]
          dsimp only
          rw [e1, sb, if_neg (by decide), if_neg (by decide), if_neg (by decide)]
          dsimp only
          rw [e9, sb]
          exact ⟨_, rfl, rfl⟩
        · have e9 : f_X12_allLiked (nI k.hs) (nI k.cm) a' = some (nI (alkN (evn n k))) := by rw [← s1, ← s2]; exact e_allLiked kn g5
          unfold f_X12_runs
          rw [far_ok hn, sb, if_neg n10, d4, sb, if_neg n10, g1, sb, f0, sb]
          dsimp only
          rw [eh, ec, g3, sb, if_neg (by decide), if_neg (by decide), if_neg (by decide)]
          dsimp only
          rw [e9, sb]
          exact ⟨_, rfl, rfl⟩
