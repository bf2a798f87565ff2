def gKind (k : Ka) (c n : Nat) : Nat → Bst → Bst := fun i b => wg b i (dn n (setKd k c i))
theorem c_kind {k : Ka} {li ki go co lk : Nat → Int32} {c n : Nat} {b0 : Bst} (hk : kok k) (hev : k.ev ≤ 999) (hC : relC (nI k.hs, nI k.cm, nI k.ev, li, ki, go, co, lk) k) (hc : c < k.cm) (hn : n ≤ 60) : ∀ (q t f : Nat) (y5 y6 y7 y8 y9 y10 : Int32) (y11 y12 y13 y14 y15 : Nat → Int32) (y16 y17 : Int32) (y18 y19 : Nat → Int32), t + q = 4 → q < f → ∃ r, L_X0_bestKind_7 (nI k.hs) (nI k.cm) (nI k.ev) co go ki lk li (nI c) (nI n) f (nI t) (opI (itr (gKind k c n) t b0).1) (itr (gKind k c n) t b0).2 y5 y6 y7 y8 y9 y10 y11 y12 y13 y14 y15 y16 y17 y18 y19 = some r ∧ r.1 = opI (itr (gKind k c n) (4) b0).1 ∧ r.2.1 = (itr (gKind k c n) (4) b0).2 := by
  have k4 := hk.1
  have k6 := hk.2.1
  intro q
  induction q with
  | zero =>
    intro t f y5 y6 y7 y8 y9 y10 y11 y12 y13 y14 y15 y16 y17 y18 y19 e hf
    obtain ⟨f, rfl⟩ : ∃ f', f = f' + 1 := ⟨f - 1, by omega⟩
    have e2 : t = 4 := by omega
    rw [L_X0_bestKind_7, if_pos (show (4 : Int32) ≤ nI t from by rw [e2]; decide), e2]
    exact ⟨_, rfl, rfl, rfl⟩
  | succ q ih =>
    intro t f y5 y6 y7 y8 y9 y10 y11 y12 y13 y14 y15 y16 y17 y18 y19 e hf
    obtain ⟨f, rfl⟩ : ∃ f', f = f' + 1 := ⟨f - 1, by omega⟩
    obtain ⟨b', w', hrs', ops', lk', e1, -⟩ := e_din0 (n := n) (kok_kd (c := c) (v := t) hk (by omega)) (relC_kd (c := c) (v := t) hC) (by omega) (by show k.ev + n ≤ 2000; omega) y16 y17 y18 y19
    dsimp only at e1
    rw [L_X0_bestKind_7, if_neg (show ¬ (4 : Int32) ≤ nI t from nI_ge (b := 4) (by omega) (by omega))]
    rw [e_rst, sb, if_pos (inb_nI (by omega) (by omega)), ix_nI (by omega)]
    dsimp only
    rw [e1, sb]
    dsimp only
    rw [e_weigh, sb, nI_1]
    exact ih (t + 1) f _ _ _ _ _ _ _ _ _ _ _ _ _ _ _ (by omega) (by omega)
theorem m_kind {k : Ka} {st : Nat → Int32} {c n : Nat} {b0 : Bst} (hk : kok k) (hev : k.ev ≤ 999) (hM : relM st 0 k) (hc : c < k.cm) (hn : n ≤ 60) : ∀ (q t f : Nat) (y6 y7 y8 : Int32) (y9 y10 y11 : Nat → Int32), t + q = 4 → q < f → ∃ r, L_X12_kind_33 (nI k.hs) (nI k.cm) st (nI c) (nI n) f (itr (gKind k c n) t b0).2 (op0 (itr (gKind k c n) t b0).1) (nI t) y6 y7 y8 y9 y10 y11 = some r ∧ r.1 = (itr (gKind k c n) (4) b0).2 ∧ r.2.1 = op0 (itr (gKind k c n) (4) b0).1 := by
  have k4 := hk.1
  have k6 := hk.2.1
  intro q
  induction q with
  | zero =>
    intro t f y6 y7 y8 y9 y10 y11 e hf
    obtain ⟨f, rfl⟩ : ∃ f', f = f' + 1 := ⟨f - 1, by omega⟩
    have e2 : t = 4 := by omega
    rw [L_X12_kind_33, if_pos (show (4 : Int32) ≤ nI t from by rw [e2]; decide), e2]
    exact ⟨_, rfl, rfl, rfl⟩
  | succ q ih =>
    intro t f y6 y7 y8 y9 y10 y11 e hf
    obtain ⟨f, rfl⟩ : ∃ f', f = f' + 1 := ⟨f - 1, by omega⟩
    obtain ⟨a0, g1, g2, -⟩ := starts_rel (hm := y6) (now := y11) hk hM
    obtain ⟨bg', by', a', e1, -⟩ := e_evM (k := k) (bg := y9) (by_ := y10) (d := y7) (w := y8) (n := n) (kok_kd (c := c) (v := t) hk (by omega)) rfl rfl (relM_kd hk hc g2) (by omega) (by show k.ev + n ≤ 2000; omega)
    rw [L_X12_kind_33, if_neg (show ¬ (4 : Int32) ≤ nI t from nI_ge (b := 4) (by omega) (by omega))]
    rw [g1, sb, e_becKd (by omega), sb, e1, sb]
    have ih := fun y6 y7 y8 y9 y10 y11 => ih (t + 1) f y6 y7 y8 y9 y10 y11 (by omega) (by omega)
    by_cases q1 : nI (dn n (setKd k c t)) ≤ (itr (gKind k c n) t b0).2
    · have ew : itr (gKind k c n) (t + 1) b0 = itr (gKind k c n) t b0 := if_pos q1
      rw [if_pos q1, sb, if_pos q1, nI_1]
      rw [ew] at ih
      exact ih _ _ _ _ _ _
    · have ew : itr (gKind k c n) (t + 1) b0 = (some (t), nI (dn n (setKd k c t))) := if_neg q1
      rw [if_neg q1, sb, if_neg q1, nI_1]
      rw [ew] at ih
      exact ih _ _ _ _ _ _
theorem kind_gd {k : Ka} {c n : Nat} {b0 : Bst} (hk : kok k) (hev : k.ev ≤ 999) (hn : n ≤ 60) (h : b0.2 = -1) : gd (itr (gKind k c n) 4 b0) := by
  refine itr_gd (wg_gd0 h (by omega) ?_) 3 (fun i b hi hb => wg_gd hb (by omega))
  have := dn_le n (kok_kd (c := c) (v := 0) hk (by omega)) (by show k.ev + n ≤ 2000; omega)
  omega
theorem p_kind (s : SX) (t : TM) (x1 : Int32) (x2 : Int32) (x3 : Int32) (hI : Inv s t) : ∃ (v : Int32 × Int32 × Int32 × Int32 × Int32 × Int32 × Int32 × Int32 × Int32 × (Nat → Int32) × (Nat → Int32) × (Nat → Int32) × (Nat → Int32) × (Nat → Int32) × Int32 × Int32 × (Nat → Int32) × (Nat → Int32)) (w : Int32 × Int32 × Int32 × Int32 × (Nat → Int32) × (Nat → Int32) × (Nat → Int32)), f_X11_kind s.adv.1 s.adv.2 s.now.1 s.now.2.1 s.now.2.2.1 s.now.2.2.2.2.2.2.1 s.now.2.2.2.2.2.1 s.now.2.2.2.2.1 s.now.2.2.2.2.2.2.2 s.now.2.2.2.1 s.tri.1 s.tri.2.1 s.tri.2.2 s.tcy.1 s.tcy.2.1 s.tcy.2.2.1 s.tcy.2.2.2.2.2.2.1 s.tcy.2.2.2.2.2.1 s.tcy.2.2.2.2.1 s.tcy.2.2.2.2.2.2.2 s.tcy.2.2.2.1 s.evg.1 s.evg.2.1 s.evg.2.2.1 s.evg.2.2.2 x1 x2 x3 = some v ∧ f_X12_kind t.houses t.comers t.home t.dinners t.waited t.began t.begunBy t.now t.st x1 x2 x3 = some w ∧ v.1 = w.1 ∧ Inv (s.torn, s.tape, s.rdr, s.drf, s.now, s.seen, (v.2.2.2.1, v.2.2.2.2.1, v.2.2.2.2.2.1), (v.2.2.2.2.2.2.1, v.2.2.2.2.2.2.2.1, v.2.2.2.2.2.2.2.2.1, v.2.2.2.2.2.2.2.2.2.2.2.2.2.1, v.2.2.2.2.2.2.2.2.2.2.2.1, v.2.2.2.2.2.2.2.2.2.2.1, v.2.2.2.2.2.2.2.2.2.1, v.2.2.2.2.2.2.2.2.2.2.2.2.1), (v.2.2.2.2.2.2.2.2.2.2.2.2.2.2.1, v.2.2.2.2.2.2.2.2.2.2.2.2.2.2.2.1, v.2.2.2.2.2.2.2.2.2.2.2.2.2.2.2.2.1, v.2.2.2.2.2.2.2.2.2.2.2.2.2.2.2.2.2), (v.2.1, v.2.2.1), s.gss, s.im0, s.im1, s.sh0, s.sh1, s.sh2, s.sh3) ((t.st, w.2.2.2.2.2.2, t.isKept, t.houses, t.comers, t.draft, t.dHouses, t.dComers, t.highestHouse), t.m1, (w.2.1, w.2.2.2.2.1, w.2.2.2.2.2.1, w.2.2.1, w.2.2.2.1, t.beginSum, t.dinnerSum, t.allWays, t.hours), t.m3) := by
  obtain ⟨k, q, htw, eh, ec, hi⟩ := id hI.1
  obtain ⟨hk, hev, hC, hM, -⟩ := id htw
  have k4 := hk.1
  have k6 := hk.2.1
  have c1 : s.now.1 = nI k.hs := hC.1
  have c2 : s.now.2.1 = nI k.cm := hC.2.1
  have c3 : s.now.2.2.1 = nI k.ev := hC.2.2.1
  rcases ixc x1 (n := k.cm) (by omega) with hb | ⟨c, hc, rfl⟩
  · have a1 : f_X11_noComer s.now.2.1 x1 = some 1 := by rw [c2]; exact nc_bad (by omega) hb
    have a2 : f_X12_isComer t.comers x1 = some 0 := by rw [ec]; exact ic_bad (by omega) hb
    refine ex2 (-1) ?_ ?_ (fun _ _ => hI)
    · unfold f_X11_kind; rw [a1, sb, if_neg n10]; exact ⟨_, rfl, rfl⟩
    · unfold f_X12_kind; rw [a2, sb, if_pos rfl]; exact ⟨_, rfl, rfl⟩
  · have a1 : f_X11_noComer s.now.2.1 (nI c) = some 0 := by rw [c2]; exact nc_ok (by omega) hc
    have a2 : f_X12_isComer t.comers (nI c) = some 1 := by rw [ec]; exact ic_ok (by omega) hc
    rcases cases_in x2 (n := 60) (by decide) with hb | ⟨n, hn, rfl⟩
    · have d1 : f_X11_outside x2 60 = some 1 := ou_bad hb.1
      refine ex2 (-1) ?_ ?_ (fun _ _ => hI)
      · unfold f_X11_kind; rw [a1, sb, if_pos rfl, d1, sb, if_neg n10]; exact ⟨_, rfl, rfl⟩
      · unfold f_X12_kind; rw [a2, sb, if_neg n10, far_bad hb.2, sb, if_pos rfl]; exact ⟨_, rfl, rfl⟩
    · have d1 : f_X11_outside (nI n) 60 = some 0 := ou_ok (n := 60) rfl hn (by decide)
      rcases cases_in x3 (n := 1) (by decide) with hb | ⟨p, hp, rfl⟩
      · have d2 : f_X11_outside x3 1 = some 1 := ou_bad hb.1
        refine ex2 (-1) ?_ ?_ (fun _ _ => hI)
        · unfold f_X11_kind; rw [a1, sb, if_pos rfl, d1, sb, if_pos rfl, d2, sb, if_neg n10]; exact ⟨_, rfl, rfl⟩
        · unfold f_X12_kind; rw [a2, sb, if_neg n10, far_ok hn, sb, if_neg n10, part_bad hb.2, sb, if_pos rfl]; exact ⟨_, rfl, rfl⟩
      · have d2 : f_X11_outside (nI p) 1 = some 0 := ou_ok (n := 1) rfl hp (by decide)
        have hC2 : relC (nI k.hs, nI k.cm, nI k.ev, s.now.2.2.2.1, s.now.2.2.2.2.1, s.now.2.2.2.2.2.1, s.now.2.2.2.2.2.2.1, s.now.2.2.2.2.2.2.2) k := ⟨rfl, rfl, rfl, hC.2.2.2⟩
        obtain ⟨r, r1, r2, r3⟩ := c_kind (b0 := (none, -1)) hk hev hC2 hc hn 4 0 400 s.tri.1 s.tri.2.1 s.tri.2.2 s.tcy.1 s.tcy.2.1 s.tcy.2.2.1 s.tcy.2.2.2.2.2.2.1 s.tcy.2.2.2.2.2.1 s.tcy.2.2.2.2.1 s.tcy.2.2.2.2.2.2.2 s.tcy.2.2.2.1 s.evg.1 s.evg.2.1 s.evg.2.2.1 s.evg.2.2.2 (by omega) (by omega)
        obtain ⟨u, u1, u2, u3⟩ := m_kind (b0 := (none, -1)) hk hev hM hc hn 4 0 400 t.home t.dinners t.waited t.began t.begunBy t.now (by omega) (by omega)
        have g := kind_gd (c := c) (b0 := (none, -1)) hk hev hn rfl
        have r1 : L_X0_bestKind_7 (nI k.hs) (nI k.cm) (nI k.ev) s.now.2.2.2.2.2.2.1 s.now.2.2.2.2.2.1 s.now.2.2.2.2.1 s.now.2.2.2.2.2.2.2 s.now.2.2.2.1 (nI c) (nI n) 400 0 (-4) (-1) s.tri.1 s.tri.2.1 s.tri.2.2 s.tcy.1 s.tcy.2.1 s.tcy.2.2.1 s.tcy.2.2.2.2.2.2.1 s.tcy.2.2.2.2.2.1 s.tcy.2.2.2.2.1 s.tcy.2.2.2.2.2.2.2 s.tcy.2.2.2.1 s.evg.1 s.evg.2.1 s.evg.2.2.1 s.evg.2.2.2 = some r := r1
        have u1 : L_X12_kind_33 (nI k.hs) (nI k.cm) t.st (nI c) (nI n) 400 (-1) 0 0 t.home t.dinners t.waited t.began t.begunBy t.now = some u := u1
        have r0 : f_X0_beginAt s.adv.1 s.adv.2 (-1) = some (-4, -1) := rfl
        refine ex2 (if p = 0 then op0 (itr (gKind k c n) 4 (none, -1)).1 else (itr (gKind k c n) 4 (none, -1)).2) ?_ ?_ (fun _ _ => hI)
        · unfold f_X11_kind f_X0_bestKind
          rw [a1, sb, if_pos rfl, d1, sb, if_pos rfl, d2, sb, if_pos rfl, r0, sb]
          dsimp only
          rw [c1, c2, c3, r1, sb, sb]
          dsimp only
          rw [r2, r3, pod hp g, sb]
          exact ⟨_, rfl, rfl⟩
        · unfold f_X12_kind
          rw [a2, sb, if_neg n10, far_ok hn, sb, if_neg n10, part_ok hp, sb, if_neg n10, eh, ec, u1, sb]
          obtain rfl | rfl : p = 0 ∨ p = 1 := by omega
          · rw [if_pos (by decide)]; exact ⟨_, rfl, u3⟩
          · rw [if_neg (by decide)]; exact ⟨_, rfl, u2⟩
theorem upN_self (f : Nat → Nat) (c : Nat) : upN f c (f c) = f := by
  funext j
  show (if j = c then f c else f j) = f j
  by_cases e : j = c
  · rw [if_pos e, e]
  · rw [if_neg e]
def swp (k : Ka) (i j : Nat) : Ka := setGo (setGo k i (k.go j)) j (k.go i)
theorem swp_same {k : Ka} {i j : Nat} (h : k.go i = k.go j) : swp k i j = k := by
  have e1 : setGo k i (k.go j) = k := by
    show ((k.1, k.ls, k.kd, upN k.go i (k.go j), k.co, k.lk) : Ka) = k
    rw [← h, upN_self]
  unfold swp
  rw [e1, h]
  show ((k.1, k.ls, k.kd, upN k.go j (k.go j), k.co, k.lk) : Ka) = k
  rw [upN_self]
theorem kok_swp {k : Ka} {i j : Nat} (hk : kok k) (hi : i < k.cm) (hj : j < k.cm) : kok (swp k i j) := kok_go (kok_go hk (hk.2.2.2.2.1 j hj).2.1) (hk.2.2.2.2.1 i hi).2.1
def gSw (k : Ka) (i : Nat) : Nat → Bst → Bst := fun t b => wg b (10 * i + (i + 1 + t)) (dK (swp k i (i + 1 + t)))
def gSwO (k : Ka) : Nat → Bst → Bst := fun i b => itr (gSw k i) (k.cm - (i + 1)) b
theorem lab10 {i j : Nat} : (10 * nI i + nI j : Int32) = nI (10 * i + j) := by
  rw [show (10 : Int32) = nI 10 from rfl, pk_mul, nI_add]
theorem sw_ab {k : Ka} {i t : Nat} {b0 : Bst} (h : ab (dK k) b0) : ab (dK k) (itr (gSw k i) t b0) := itr_P h t (fun _ _ _ hb => wg_ab hb)
theorem c_sw {k : Ka} {li ki go co lk : Nat → Int32} {i : Nat} {b0 : Bst} (hk : kok k) (hev : k.ev ≤ 999) (hC : relC (nI k.hs, nI k.cm, nI k.ev, li, ki, go, co, lk) k) (hi : i < k.cm) (hab : ab (dK k) b0) : ∀ (q t f : Nat) (y5 y6 y7 y8 y9 y10 : Int32) (y11 y12 y13 y14 y15 : Nat → Int32) (y16 y17 : Int32) (y18 y19 : Nat → Int32), t + q = k.cm - (i + 1) → q < f → ∃ r, L_X0_swapTwo_37 (nI k.hs) (nI k.cm) (nI k.ev) co go ki lk li (nI i) f (nI (i + 1 + t)) (opI (itr (gSw k i) t b0).1) (itr (gSw k i) t b0).2 y5 y6 y7 y8 y9 y10 y11 y12 y13 y14 y15 y16 y17 y18 y19 = some r ∧ r.1 = opI (itr (gSw k i) (k.cm - (i + 1)) b0).1 ∧ r.2.1 = (itr (gSw k i) (k.cm - (i + 1)) b0).2 := by
  have k4 := hk.1
  have k6 := hk.2.1
  intro q
  induction q with
  | zero =>
    intro t f y5 y6 y7 y8 y9 y10 y11 y12 y13 y14 y15 y16 y17 y18 y19 e hf
    obtain ⟨f, rfl⟩ : ∃ f', f = f' + 1 := ⟨f - 1, by omega⟩
    have e2 : t = k.cm - (i + 1) := by omega
    rw [L_X0_swapTwo_37, if_pos (nI_le (by omega) (by omega)), e2]
    exact ⟨_, rfl, rfl, rfl⟩
  | succ q ih =>
    intro t f y5 y6 y7 y8 y9 y10 y11 y12 y13 y14 y15 y16 y17 y18 y19 e hf
    obtain ⟨f, rfl⟩ : ∃ f', f = f' + 1 := ⟨f - 1, by omega⟩
    have hj : i + 1 + t < k.cm := by omega
    have ei := (hC.2.2.2.2.1 i hi).2.1
    have ej := (hC.2.2.2.2.1 (i + 1 + t) hj).2.1
    dsimp only at ei ej
    obtain ⟨b', w', hrs', ops', lk', e1, -⟩ := e_din0 (n := 1) (kok_swp hk hi hj) (relC_go (c := i + 1 + t) (v := k.go i) (relC_go (c := i) (v := k.go (i + 1 + t)) hC)) (by omega) (by show k.ev + 1 ≤ 2000; omega) y16 y17 y18 y19
    dsimp only at e1
    rw [L_X0_swapTwo_37, if_neg (nI_ge (by omega) (by omega))]
    rw [if_pos (inb_nI (by omega) (by omega)), if_pos (inb_nI (by omega) (by omega)), ix_nI (by omega), ix_nI (by omega), ei, ej]
    by_cases hq : k.go i = k.go (i + 1 + t)
    · have ew : itr (gSw k i) (t + 1) b0 = itr (gSw k i) t b0 := by
        show wg (itr (gSw k i) t b0) _ (dK (swp k i (i + 1 + t))) = _
        rw [swp_same hq]
        exact wg_eq (sw_ab hab)
      have ih := ih (t + 1) f y5 y6 y7 y8 y9 y10 y11 y12 y13 y14 y15 y16 y17 y18 y19 (by omega) (by omega)
      rw [ew] at ih
      rw [if_pos (congrArg nI hq), nI_1]
      exact ih
    · have g9 := go9 hk hi
      have g8 := go9 hk hj
      rw [if_neg (fun z => hq ((nI_eq (by omega) (by omega)).mp z)), e_rst, sb, if_pos (inb_nI (by omega) (by omega)), if_pos (inb_nI (by omega) (by omega)), if_pos (inb_nI (by omega) (by omega)), if_pos (inb_nI (by omega) (by omega))]
      dsimp only
      rw [show (1 : Int32) = nI 1 from rfl, e1, sb]
      dsimp only
      rw [lab10, show dn 1 (swp k i (i + 1 + t)) = dK (swp k i (i + 1 + t)) from rfl, e_weigh, sb, nI_add]
      exact ih (t + 1) f _ _ _ _ _ _ _ _ _ _ _ _ _ _ _ (by omega) (by omega)
theorem c_swO {k : Ka} {li ki go co lk : Nat → Int32}  {b0 : Bst} (hk : kok k) (hev : k.ev ≤ 999) (hC : relC (nI k.hs, nI k.cm, nI k.ev, li, ki, go, co, lk) k) (hab : ab (dK k) b0) : ∀ (q t f : Nat) (y5 y6 y7 y8 y9 y10 : Int32) (y11 y12 y13 y14 y15 : Nat → Int32) (y16 y17 : Int32) (y18 y19 : Nat → Int32), t + q = k.cm → q < f → ∃ r, L_X0_swapTwo_22 (nI k.hs) (nI k.cm) (nI k.ev) co go ki lk li  f (nI t) (opI (itr (gSwO k) t b0).1) (itr (gSwO k) t b0).2 y5 y6 y7 y8 y9 y10 y11 y12 y13 y14 y15 y16 y17 y18 y19 = some r ∧ r.1 = opI (itr (gSwO k) (k.cm) b0).1 ∧ r.2.1 = (itr (gSwO k) (k.cm) b0).2 := by
  have k4 := hk.1
  have k6 := hk.2.1
  intro q
  induction q with
  | zero =>
    intro t f y5 y6 y7 y8 y9 y10 y11 y12 y13 y14 y15 y16 y17 y18 y19 e hf
    obtain ⟨f, rfl⟩ : ∃ f', f = f' + 1 := ⟨f - 1, by omega⟩
    have e2 : t = k.cm := by omega
    rw [L_X0_swapTwo_22, if_pos (nI_le (by omega) (by omega)), e2]
    exact ⟨_, rfl, rfl, rfl⟩
  | succ q ih =>
    intro t f y5 y6 y7 y8 y9 y10 y11 y12 y13 y14 y15 y16 y17 y18 y19 e hf
    obtain ⟨f, rfl⟩ : ∃ f', f = f' + 1 := ⟨f - 1, by omega⟩
    have hab2 : ab (dK k) (itr (gSwO k) t b0) := itr_P hab t (fun _ _ _ hb => sw_ab hb)
    obtain ⟨r, r1, r2, r3⟩ := c_sw (b0 := itr (gSwO k) t b0) (i := t) hk hev hC (by omega) hab2 (k.cm - (t + 1)) 0 400 y5 y6 y7 y8 y9 y10 y11 y12 y13 y14 y15 y16 y17 y18 y19 (by omega) (by omega)
    have r1 : L_X0_swapTwo_37 (nI k.hs) (nI k.cm) (nI k.ev) co go ki lk li (nI t) 400 (nI (t + 1)) (opI (itr (gSwO k) t b0).1) (itr (gSwO k) t b0).2 y5 y6 y7 y8 y9 y10 y11 y12 y13 y14 y15 y16 y17 y18 y19 = some r := r1
    rw [L_X0_swapTwo_22, if_neg (nI_ge (by omega) (by omega))]
    rw [nI_1, r1, sb, r2, r3]
    exact ih (t + 1) f _ _ _ _ _ _ _ _ _ _ _ _ _ _ _ (by omega) (by omega)
theorem m_sw {k : Ka} {st : Nat → Int32} {i : Nat} {b0 : Bst} (hk : kok k) (hev : k.ev ≤ 999) (hM : relM st 0 k) (hi : i < k.cm) : ∀ (q t f : Nat) (y6 y7 y8 : Int32) (y9 y10 y11 : Nat → Int32), t + q = k.cm - (i + 1) → q < f → ∃ r, L_X12_swap_39 (nI k.hs) (nI k.cm) st (nI i) f (itr (gSw k i) t b0).2 (opI (itr (gSw k i) t b0).1) (nI (i + 1 + t)) y6 y7 y8 y9 y10 y11 = some r ∧ r.1 = (itr (gSw k i) (k.cm - (i + 1)) b0).2 ∧ r.2.1 = opI (itr (gSw k i) (k.cm - (i + 1)) b0).1 := by
  have k4 := hk.1
  have k6 := hk.2.1
  intro q
  induction q with
  | zero =>
    intro t f y6 y7 y8 y9 y10 y11 e hf
    obtain ⟨f, rfl⟩ : ∃ f', f = f' + 1 := ⟨f - 1, by omega⟩
    have e2 : t = k.cm - (i + 1) := by omega
    rw [L_X12_swap_39, if_pos (nI_le (by omega) (by omega)), e2]
    exact ⟨_, rfl, rfl, rfl⟩
  | succ q ih =>
    intro t f y6 y7 y8 y9 y10 y11 e hf
    obtain ⟨f, rfl⟩ : ∃ f', f = f' + 1 := ⟨f - 1, by omega⟩
    have hj : i + 1 + t < k.cm := by omega
    obtain ⟨a0, g1, g2, -⟩ := starts_rel (hm := y6) (now := y11) hk hM
    have o1 : f_X12_of a0 (nI i) 1 = some (goI (k.go i)) := by
      have := e_of (a := a0) (c := i) (j := 1) (by omega) (by omega)
      rw [show (nI 1 : Int32) = 1 from rfl] at this
      rw [this, show 4 + 3 * i + 1 = 0 + 5 + 3 * i by omega, (g2.2.1 i hi).2.1]
    have o2 : f_X12_of a0 (nI (i + 1 + t)) 1 = some (goI (k.go (i + 1 + t))) := by
      have := e_of (a := a0) (c := i + 1 + t) (j := 1) (by omega) (by omega)
      rw [show (nI 1 : Int32) = 1 from rfl] at this
      rw [this, show 4 + 3 * (i + 1 + t) + 1 = 0 + 5 + 3 * (i + 1 + t) by omega, (g2.2.1 (i + 1 + t) hj).2.1]
    obtain ⟨u, e1⟩ := e_tonM (k := k) (bg := y9) (by_ := y10) (d := y7) (w := y8) (kok_swp hk hi hj) rfl rfl (relM_go (v := k.go i) (kok_go hk (hk.2.2.2.2.1 (i + 1 + t) hj).2.1) hj (relM_go (v := k.go (i + 1 + t)) hk hi g2)) (by show k.ev ≤ 1000; omega)
    rw [L_X12_swap_39, if_neg (nI_ge (by omega) (by omega))]
    rw [g1, sb, o1, sb, o2, sb, e_becGo (by omega), sb, e_becGo (by omega), sb, e1, sb]
    have ih := fun y6 y7 y8 y9 y10 y11 => ih (t + 1) f y6 y7 y8 y9 y10 y11 (by omega) (by omega)
    by_cases q1 : nI (dK (swp k i (i + 1 + t))) ≤ (itr (gSw k i) t b0).2
    · have ew : itr (gSw k i) (t + 1) b0 = itr (gSw k i) t b0 := if_pos q1
      rw [if_pos q1, sb, if_pos q1, nI_1]
      rw [ew] at ih
      exact ih _ _ _ _ _ _
    · have ew : itr (gSw k i) (t + 1) b0 = (some (10 * i + (i + 1 + t)), nI (dK (swp k i (i + 1 + t)))) := if_neg q1
      rw [if_neg q1, sb, if_neg q1, nI_1, lab10]
      rw [ew] at ih
      exact ih _ _ _ _ _ _
theorem m_swO {k : Ka} {st : Nat → Int32}  {b0 : Bst} (hk : kok k) (hev : k.ev ≤ 999) (hM : relM st 0 k)  : ∀ (q t f : Nat) (y6 y7 y8 : Int32) (y9 y10 y11 : Nat → Int32), t + q = k.cm → q < f → ∃ r, L_X12_swap_24 (nI k.hs) (nI k.cm) st  f (itr (gSwO k) t b0).2 (opI (itr (gSwO k) t b0).1) (nI t) y6 y7 y8 y9 y10 y11 = some r ∧ r.1 = (itr (gSwO k) (k.cm) b0).2 ∧ r.2.1 = opI (itr (gSwO k) (k.cm) b0).1 := by
  have k4 := hk.1
  have k6 := hk.2.1
  intro q
  induction q with
  | zero =>
    intro t f y6 y7 y8 y9 y10 y11 e hf
    obtain ⟨f, rfl⟩ : ∃ f', f = f' + 1 := ⟨f - 1, by omega⟩
    have e2 : t = k.cm := by omega
    rw [L_X12_swap_24, if_pos (nI_le (by omega) (by omega)), e2]
    exact ⟨_, rfl, rfl, rfl⟩
  | succ q ih =>
    intro t f y6 y7 y8 y9 y10 y11 e hf
    obtain ⟨f, rfl⟩ : ∃ f', f = f' + 1 := ⟨f - 1, by omega⟩
    obtain ⟨r, r1, r2, r3⟩ := m_sw (b0 := itr (gSwO k) t b0) (i := t) hk hev hM (by omega) (k.cm - (t + 1)) 0 400 y6 y7 y8 y9 y10 y11 (by omega) (by omega)
    have r1 : L_X12_swap_39 (nI k.hs) (nI k.cm) st (nI t) 400 (itr (gSwO k) t b0).2 (opI (itr (gSwO k) t b0).1) (nI (t + 1)) y6 y7 y8 y9 y10 y11 = some r := r1
    rw [L_X12_swap_24, if_neg (nI_ge (by omega) (by omega))]
    rw [nI_1, r1, sb, r2, r3]
    exact ih (t + 1) f _ _ _ _ _ _ (by omega) (by omega)
theorem p_swap (s : SX) (t : TM) (x1 : Int32) (hI : Inv s t) : ∃ (v : Int32 × Int32 × Int32 × Int32 × Int32 × Int32 × Int32 × Int32 × Int32 × (Nat → Int32) × (Nat → Int32) × (Nat → Int32) × (Nat → Int32) × (Nat → Int32) × Int32 × Int32 × (Nat → Int32) × (Nat → Int32)) (w : Int32 × Int32 × Int32 × Int32 × (Nat → Int32) × (Nat → Int32) × (Nat → Int32)), f_X11_swap s.adv.1 s.adv.2 s.now.1 s.now.2.1 s.now.2.2.1 s.now.2.2.2.2.2.2.1 s.now.2.2.2.2.2.1 s.now.2.2.2.2.1 s.now.2.2.2.2.2.2.2 s.now.2.2.2.1 s.tri.1 s.tri.2.1 s.tri.2.2 s.tcy.1 s.tcy.2.1 s.tcy.2.2.1 s.tcy.2.2.2.2.2.2.1 s.tcy.2.2.2.2.2.1 s.tcy.2.2.2.2.1 s.tcy.2.2.2.2.2.2.2 s.tcy.2.2.2.1 s.evg.1 s.evg.2.1 s.evg.2.2.1 s.evg.2.2.2 x1 = some v ∧ f_X12_swap t.houses t.comers t.home t.dinners t.waited t.began t.begunBy t.now t.st x1 = some w ∧ v.1 = w.1 ∧ Inv (s.torn, s.tape, s.rdr, s.drf, s.now, s.seen, (v.2.2.2.1, v.2.2.2.2.1, v.2.2.2.2.2.1), (v.2.2.2.2.2.2.1, v.2.2.2.2.2.2.2.1, v.2.2.2.2.2.2.2.2.1, v.2.2.2.2.2.2.2.2.2.2.2.2.2.1, v.2.2.2.2.2.2.2.2.2.2.2.1, v.2.2.2.2.2.2.2.2.2.2.1, v.2.2.2.2.2.2.2.2.2.1, v.2.2.2.2.2.2.2.2.2.2.2.2.1), (v.2.2.2.2.2.2.2.2.2.2.2.2.2.2.1, v.2.2.2.2.2.2.2.2.2.2.2.2.2.2.2.1, v.2.2.2.2.2.2.2.2.2.2.2.2.2.2.2.2.1, v.2.2.2.2.2.2.2.2.2.2.2.2.2.2.2.2.2), (v.2.1, v.2.2.1), s.gss, s.im0, s.im1, s.sh0, s.sh1, s.sh2, s.sh3) ((t.st, w.2.2.2.2.2.2, t.isKept, t.houses, t.comers, t.draft, t.dHouses, t.dComers, t.highestHouse), t.m1, (w.2.1, w.2.2.2.2.1, w.2.2.2.2.2.1, w.2.2.1, w.2.2.2.1, t.beginSum, t.dinnerSum, t.allWays, t.hours), t.m3) := by
  obtain ⟨k, q, htw, eh, ec, hi⟩ := id hI.1
  obtain ⟨hk, hev, hC, hM, -⟩ := id htw
  have k4 := hk.1
  have k6 := hk.2.1
  have c1 : s.now.1 = nI k.hs := hC.1
  have c2 : s.now.2.1 = nI k.cm := hC.2.1
  have c3 : s.now.2.2.1 = nI k.ev := hC.2.2.1
  rcases cases_in x1 (n := 1) (by decide) with hb | ⟨p, hp, rfl⟩
  · have d1 : f_X11_outside x1 1 = some 1 := ou_bad hb.1
    refine ex2 (-1) ?_ ?_ (fun _ _ => hI)
    · unfold f_X11_swap; rw [d1, sb, if_neg n10]; exact ⟨_, rfl, rfl⟩
    · unfold f_X12_swap; rw [part_bad hb.2, sb, if_pos rfl]; exact ⟨_, rfl, rfl⟩
  · have d1 : f_X11_outside (nI p) 1 = some 0 := ou_ok (n := 1) rfl hp (by decide)
    have hC2 : relC (nI k.hs, nI k.cm, nI k.ev, s.now.2.2.2.1, s.now.2.2.2.2.1, s.now.2.2.2.2.2.1, s.now.2.2.2.2.2.2.1, s.now.2.2.2.2.2.2.2) k := ⟨rfl, rfl, rfl, hC.2.2.2⟩
    obtain ⟨b', w', hrs', ops', lk', e1, -⟩ := e_din0 (n := 1) hk hC2 (by omega) (by omega) s.evg.1 s.evg.2.1 s.evg.2.2.1 s.evg.2.2.2
    dsimp only at e1
    obtain ⟨a0, g1, g2, -⟩ := starts_rel (hm := t.home) (now := t.now) hk hM
    obtain ⟨u0, e2⟩ := e_tonM (k := k) (bg := t.began) (by_ := t.begunBy) (d := t.dinners) (w := t.waited) hk rfl rfl g2 (by omega)
    have fin : ∀ (b : Bst), f_X0_planOrDinners (opI b.1) b.2 (nI p) = some (if opI b.1 = -4 then -4 else if nI p = 0 then opI b.1 else b.2) := fun b => by
      unfold f_X0_planOrDinners
      by_cases z1 : opI b.1 = -4
      · rw [if_pos z1, if_pos z1, z1]; split <;> rfl
      · rw [if_neg z1, if_neg z1]; split <;> rfl
    refine ex2 (if opI (itr (gSwO k) k.cm (none, nI (dK k))).1 = -4 then -4 else if nI p = 0 then opI (itr (gSwO k) k.cm (none, nI (dK k))).1 else (itr (gSwO k) k.cm (none, nI (dK k))).2) ?_ ?_ (fun _ _ => hI)
    · unfold f_X11_swap f_X0_swapTwo
      rw [d1, sb, if_pos rfl, c1, c2, c3, e_rst, sb]
      dsimp only
      rw [show (1 : Int32) = nI 1 from rfl, e1, sb]
      dsimp only
      rw [show f_X0_beginAt s.adv.1 s.adv.2 (nI (dn 1 k)) = some (-4, nI (dK k)) from rfl, sb]
      dsimp only
      obtain ⟨r, r1, r2, r3⟩ := c_swO (b0 := (none, nI (dK k))) hk hev hC2 (show nI (dK k) ≤ nI (dK k) from nlt_le (by have := dK_le hk; omega)) k.cm 0 400 (nI 1) (nI (wn 1 k)) (ffS 0 1 k (-4)) (nI k.hs) (nI k.cm) (nI (k.ev + 1)) s.now.2.2.2.2.2.2.1 s.now.2.2.2.2.2.1 s.now.2.2.2.2.1 lk' s.now.2.2.2.1 b' w' hrs' ops' (by omega) (by omega)
      have r1 : L_X0_swapTwo_22 (nI k.hs) (nI k.cm) (nI k.ev) s.now.2.2.2.2.2.2.1 s.now.2.2.2.2.2.1 s.now.2.2.2.2.1 s.now.2.2.2.2.2.2.2 s.now.2.2.2.1 400 0 (-4) (nI (dK k)) (nI 1) (nI (wn 1 k)) (ffS 0 1 k (-4)) (nI k.hs) (nI k.cm) (nI (k.ev + 1)) s.now.2.2.2.2.2.2.1 s.now.2.2.2.2.2.1 s.now.2.2.2.2.1 lk' s.now.2.2.2.1 b' w' hrs' ops' = some r := r1
      rw [r1, sb, sb]
      dsimp only
      rw [r2, r3, fin, sb]
      exact ⟨_, rfl, rfl⟩
    · unfold f_X12_swap
      rw [part_ok hp, sb, if_neg n10, g1, sb]
      dsimp only
      rw [eh, ec, e2, sb]
      dsimp only
      obtain ⟨r, r1, r2, r3⟩ := m_swO (b0 := (none, nI (dK k))) hk hev hM k.cm 0 400 0 u0.1 u0.2.1 u0.2.2.1 u0.2.2.2.1 u0.2.2.2.2 (by omega) (by omega)
      have r1 : L_X12_swap_24 (nI k.hs) (nI k.cm) t.st 400 (nI (dK k)) (-4) 0 0 u0.1 u0.2.1 u0.2.2.1 u0.2.2.2.1 u0.2.2.2.2 = some r := r1
      rw [r1, sb, r2, r3]
      by_cases z1 : opI (itr (gSwO k) k.cm (none, nI (dK k))).1 = -4
      · rw [if_pos z1, if_pos z1]; exact ⟨_, rfl, rfl⟩
      · rw [if_neg z1, if_neg z1]
        by_cases z2 : nI p = 0
        · rw [if_pos z2, if_pos z2]; exact ⟨_, rfl, rfl⟩
        · rw [if_neg z2, if_neg z2]; exact ⟨_, rfl, rfl⟩
def stk (k : Ka) (h c : Nat) : Ka := setLs k h (onN (k.ls h) c false)
theorem stk_same {k : Ka} {h c : Nat} (hb : (k.ls h).testBit c = false) : stk k h c = k := by
  show ((k.1, upN k.ls h (if (k.ls h).testBit c then k.ls h - 2 ^ c else k.ls h), k.kd, k.go, k.co, k.lk) : Ka) = k
  rw [hb]
  show ((k.1, upN k.ls h (k.ls h), k.kd, k.go, k.co, k.lk) : Ka) = k
  rw [upN_self]
theorem kok_stk {k : Ka} {h c : Nat} (hk : kok k) (hh : h < k.hs) (hc : c < k.cm) : kok (stk k h c) := kok_ls hk (onN_lt (hk.2.2.2.1 h hh) hc)
def gSt (k : Ka) (h : Nat) : Nat → Bst → Bst := fun t b => wg b (10 * h + t) (dK (stk k h t))
def gStO (k : Ka) : Nat → Bst → Bst := fun h b => itr (gSt k h) k.cm b
theorem st_ab {k : Ka} {i t : Nat} {b0 : Bst} (h : ab (dK k) b0) : ab (dK k) (itr (gSt k i) t b0) := itr_P h t (fun _ _ _ hb => wg_ab hb)
theorem c_st {k : Ka} {li ki go co lk : Nat → Int32} {i : Nat} {b0 : Bst} (hk : kok k) (hev : k.ev ≤ 999) (hC : relC (nI k.hs, nI k.cm, nI k.ev, li, ki, go, co, lk) k) (hi : i < k.hs) (hab : ab (dK k) b0) : ∀ (q t f : Nat) (y5 y6 y7 y8 y9 y10 : Int32) (y11 y12 y13 y14 y15 : Nat → Int32) (y16 y17 : Int32) (y18 y19 : Nat → Int32), t + q = k.cm → q < f → ∃ r, L_X0_strikeOne_35 (nI k.hs) (nI k.cm) (nI k.ev) co go ki lk li (nI i) f (nI t) (opI (itr (gSt k i) t b0).1) (itr (gSt k i) t b0).2 y5 y6 y7 y8 y9 y10 y11 y12 y13 y14 y15 y16 y17 y18 y19 = some r ∧ r.1 = opI (itr (gSt k i) (k.cm) b0).1 ∧ r.2.1 = (itr (gSt k i) (k.cm) b0).2 := by
  have k4 := hk.1
  have k6 := hk.2.1
  intro q
  induction q with
  | zero =>
    intro t f y5 y6 y7 y8 y9 y10 y11 y12 y13 y14 y15 y16 y17 y18 y19 e hf
    obtain ⟨f, rfl⟩ : ∃ f', f = f' + 1 := ⟨f - 1, by omega⟩
    have e2 : t = k.cm := by omega
    rw [L_X0_strikeOne_35, if_pos (nI_le (by omega) (by omega)), e2]
    exact ⟨_, rfl, rfl, rfl⟩
  | succ q ih =>
    intro t f y5 y6 y7 y8 y9 y10 y11 y12 y13 y14 y15 y16 y17 y18 y19 e hf
    obtain ⟨f, rfl⟩ : ∃ f', f = f' + 1 := ⟨f - 1, by omega⟩
    have hj : t < k.cm := by omega
    have hl := hC.2.2.2.1 i hi
    dsimp only at hl
    have l6 := ls64 hk hi
    obtain ⟨b', w', hrs', ops', lk', e1, -⟩ := e_din0 (n := 1) (kok_stk hk hi hj) (relC_ls (d := i) (v := onN (k.ls i) t false) hC) (by omega) (by show k.ev + 1 ≤ 2000; omega) y16 y17 y18 y19
    dsimp only at e1
    rw [L_X0_strikeOne_35, if_neg (nI_ge (by omega) (by omega))]
    rw [e_onList (by omega) (by omega) hl l6, sb]
    by_cases hq : (k.ls i).testBit t = true
    · have es : f_X1_setOnList li (nI i) (nI t) 0 = some (upd li i (nI (onN (k.ls i) t false))) := e_setOnList (by omega) (by omega) hl l6
      rw [if_pos hq, if_neg n10, e_rst, sb]
      dsimp only
      rw [es, sb, show (1 : Int32) = nI 1 from rfl, e1, sb]
      dsimp only
      rw [lab10, show dn 1 (stk k i t) = dK (stk k i t) from rfl, e_weigh, sb, nI_add]
      exact ih (t + 1) f _ _ _ _ _ _ _ _ _ _ _ _ _ _ _ (by omega) (by omega)
    · have hq2 : (k.ls i).testBit t = false := by simpa using hq
      have ew : itr (gSt k i) (t + 1) b0 = itr (gSt k i) t b0 := by
        show wg (itr (gSt k i) t b0) _ (dK (stk k i t)) = _
        rw [stk_same hq2]
        exact wg_eq (st_ab hab)
      have ih := ih (t + 1) f y5 y6 y7 y8 y9 y10 y11 y12 y13 y14 y15 y16 y17 y18 y19 (by omega) (by omega)
      rw [ew] at ih
      rw [if_neg hq, if_pos rfl, nI_1]
      exact ih
theorem c_stO {k : Ka} {li ki go co lk : Nat → Int32}  {b0 : Bst} (hk : kok k) (hev : k.ev ≤ 999) (hC : relC (nI k.hs, nI k.cm, nI k.ev, li, ki, go, co, lk) k) (hab : ab (dK k) b0) : ∀ (q t f : Nat) (y5 y6 y7 y8 y9 y10 : Int32) (y11 y12 y13 y14 y15 : Nat → Int32) (y16 y17 : Int32) (y18 y19 : Nat → Int32), t + q = k.hs → q < f → ∃ r, L_X0_strikeOne_22 (nI k.hs) (nI k.cm) (nI k.ev) co go ki lk li  f (nI t) (opI (itr (gStO k) t b0).1) (itr (gStO k) t b0).2 y5 y6 y7 y8 y9 y10 y11 y12 y13 y14 y15 y16 y17 y18 y19 = some r ∧ r.1 = opI (itr (gStO k) (k.hs) b0).1 ∧ r.2.1 = (itr (gStO k) (k.hs) b0).2 := by
  have k4 := hk.1
  have k6 := hk.2.1
  intro q
  induction q with
  | zero =>
    intro t f y5 y6 y7 y8 y9 y10 y11 y12 y13 y14 y15 y16 y17 y18 y19 e hf
    obtain ⟨f, rfl⟩ : ∃ f', f = f' + 1 := ⟨f - 1, by omega⟩
    have e2 : t = k.hs := by omega
    rw [L_X0_strikeOne_22, if_pos (nI_le (by omega) (by omega)), e2]
    exact ⟨_, rfl, rfl, rfl⟩
  | succ q ih =>
    intro t f y5 y6 y7 y8 y9 y10 y11 y12 y13 y14 y15 y16 y17 y18 y19 e hf
    obtain ⟨f, rfl⟩ : ∃ f', f = f' + 1 := ⟨f - 1, by omega⟩
    have hab2 : ab (dK k) (itr (gStO k) t b0) := itr_P hab t (fun _ _ _ hb => st_ab hb)
    obtain ⟨r, r1, r2, r3⟩ := c_st (b0 := itr (gStO k) t b0) (i := t) hk hev hC (by omega) hab2 k.cm 0 400 y5 y6 y7 y8 y9 y10 y11 y12 y13 y14 y15 y16 y17 y18 y19 (by omega) (by omega)
    have r1 : L_X0_strikeOne_35 (nI k.hs) (nI k.cm) (nI k.ev) co go ki lk li (nI t) 400 0 (opI (itr (gStO k) t b0).1) (itr (gStO k) t b0).2 y5 y6 y7 y8 y9 y10 y11 y12 y13 y14 y15 y16 y17 y18 y19 = some r := r1
    rw [L_X0_strikeOne_22, if_neg (nI_ge (by omega) (by omega))]
    rw [nI_1, r1, sb, r2, r3]
    exact ih (t + 1) f _ _ _ _ _ _ _ _ _ _ _ _ _ _ _ (by omega) (by omega)
theorem m_st {k : Ka} {st : Nat → Int32} {i : Nat} {b0 : Bst} (hk : kok k) (hev : k.ev ≤ 999) (hM : relM st 0 k) (hi : i < k.hs) : ∀ (q t f : Nat) (y6 y7 y8 : Int32) (y9 y10 y11 : Nat → Int32), t + q = k.cm → q < f → ∃ r, L_X12_strike_36 (nI k.hs) (nI k.cm) st (nI i) f (itr (gSt k i) t b0).2 (opI (itr (gSt k i) t b0).1) (nI t) y6 y7 y8 y9 y10 y11 = some r ∧ r.1 = (itr (gSt k i) (k.cm) b0).2 ∧ r.2.1 = opI (itr (gSt k i) (k.cm) b0).1 := by
  have k4 := hk.1
  have k6 := hk.2.1
  intro q
  induction q with
  | zero =>
    intro t f y6 y7 y8 y9 y10 y11 e hf
    obtain ⟨f, rfl⟩ : ∃ f', f = f' + 1 := ⟨f - 1, by omega⟩
    have e2 : t = k.cm := by omega
    rw [L_X12_strike_36, if_pos (nI_le (by omega) (by omega)), e2]
    exact ⟨_, rfl, rfl, rfl⟩
  | succ q ih =>
    intro t f y6 y7 y8 y9 y10 y11 e hf
    obtain ⟨f, rfl⟩ : ∃ f', f = f' + 1 := ⟨f - 1, by omega⟩
    have hj : t < k.cm := by omega
    have l6 := ls64 hk hi
    obtain ⟨a0, g1, g2, -⟩ := starts_rel (hm := y6) (now := y11) hk hM
    have hl := g2.1 i hi
    rw [Nat.zero_add] at hl
    have z := relM_ls (v := onN (k.ls i) t false) hk hi g2
    rw [Nat.zero_add] at z
    have z : relM (upd a0 i (nI (if (k.ls i).testBit t then k.ls i - 2 ^ t else k.ls i))) 0 (stk k i t) := z
    obtain ⟨u, e1⟩ := e_tonM (k := k) (bg := y9) (by_ := y10) (d := y7) (w := y8) (kok_stk hk hi hj) rfl rfl z (by show k.ev ≤ 1000; omega)
    rw [L_X12_strike_36, if_neg (nI_ge (by omega) (by omega))]
    rw [g1, sb, if_pos (inb_nI (by omega) (by omega)), if_pos (inb_nI (by omega) (by omega)), ix_nI (by omega)]
    dsimp only
    rw [hl, bt_clr _ l6 _ (by omega), e1, sb]
    have ih := fun y6 y7 y8 y9 y10 y11 => ih (t + 1) f y6 y7 y8 y9 y10 y11 (by omega) (by omega)
    by_cases q1 : nI (dK (stk k i t)) ≤ (itr (gSt k i) t b0).2
    · have ew : itr (gSt k i) (t + 1) b0 = itr (gSt k i) t b0 := if_pos q1
      rw [if_pos q1, sb, if_pos q1, nI_1]
      rw [ew] at ih
      exact ih _ _ _ _ _ _
    · have ew : itr (gSt k i) (t + 1) b0 = (some (10 * i + t), nI (dK (stk k i t))) := if_neg q1
      rw [if_neg q1, sb, if_neg q1, nI_1, lab10]
      rw [ew] at ih
      exact ih _ _ _ _ _ _
theorem m_stO {k : Ka} {st : Nat → Int32}  {b0 : Bst} (hk : kok k) (hev : k.ev ≤ 999) (hM : relM st 0 k)  : ∀ (q t f : Nat) (y6 y7 y8 : Int32) (y9 y10 y11 : Nat → Int32), t + q = k.hs → q < f → ∃ r, L_X12_strike_24 (nI k.hs) (nI k.cm) st  f (itr (gStO k) t b0).2 (opI (itr (gStO k) t b0).1) (nI t) y6 y7 y8 y9 y10 y11 = some r ∧ r.1 = (itr (gStO k) (k.hs) b0).2 ∧ r.2.1 = opI (itr (gStO k) (k.hs) b0).1 := by
  have k4 := hk.1
  have k6 := hk.2.1
  intro q
  induction q with
  | zero =>
    intro t f y6 y7 y8 y9 y10 y11 e hf
    obtain ⟨f, rfl⟩ : ∃ f', f = f' + 1 := ⟨f - 1, by omega⟩
    have e2 : t = k.hs := by omega
    rw [L_X12_strike_24, if_pos (nI_le (by omega) (by omega)), e2]
    exact ⟨_, rfl, rfl, rfl⟩
  | succ q ih =>
    intro t f y6 y7 y8 y9 y10 y11 e hf
    obtain ⟨f, rfl⟩ : ∃ f', f = f' + 1 := ⟨f - 1, by omega⟩
    obtain ⟨r, r1, r2, r3⟩ := m_st (b0 := itr (gStO k) t b0) (i := t) hk hev hM (by omega) k.cm 0 400 y6 y7 y8 y9 y10 y11 (by omega) (by omega)
    have r1 : L_X12_strike_36 (nI k.hs) (nI k.cm) st (nI t) 400 (itr (gStO k) t b0).2 (opI (itr (gStO k) t b0).1) 0 y6 y7 y8 y9 y10 y11 = some r := r1
    rw [L_X12_strike_24, if_neg (nI_ge (by omega) (by omega))]
    rw [nI_1, r1, sb, r2, r3]
    exact ih (t + 1) f _ _ _ _ _ _ (by omega) (by omega)
theorem p_strike (s : SX) (t : TM) (x1 : Int32) (hI : Inv s t) : ∃ (v : Int32 × Int32 × Int32 × Int32 × Int32 × Int32 × Int32 × Int32 × Int32 × (Nat → Int32) × (Nat → Int32) × (Nat → Int32) × (Nat → Int32) × (Nat → Int32) × Int32 × Int32 × (Nat → Int32) × (Nat → Int32)) (w : Int32 × Int32 × Int32 × Int32 × (Nat → Int32) × (Nat → Int32) × (Nat → Int32)), f_X11_strike s.adv.1 s.adv.2 s.now.1 s.now.2.1 s.now.2.2.1 s.now.2.2.2.2.2.2.1 s.now.2.2.2.2.2.1 s.now.2.2.2.2.1 s.now.2.2.2.2.2.2.2 s.now.2.2.2.1 s.tri.1 s.tri.2.1 s.tri.2.2 s.tcy.1 s.tcy.2.1 s.tcy.2.2.1 s.tcy.2.2.2.2.2.2.1 s.tcy.2.2.2.2.2.1 s.tcy.2.2.2.2.1 s.tcy.2.2.2.2.2.2.2 s.tcy.2.2.2.1 s.evg.1 s.evg.2.1 s.evg.2.2.1 s.evg.2.2.2 x1 = some v ∧ f_X12_strike t.houses t.comers t.home t.dinners t.waited t.began t.begunBy t.now t.st x1 = some w ∧ v.1 = w.1 ∧ Inv (s.torn, s.tape, s.rdr, s.drf, s.now, s.seen, (v.2.2.2.1, v.2.2.2.2.1, v.2.2.2.2.2.1), (v.2.2.2.2.2.2.1, v.2.2.2.2.2.2.2.1, v.2.2.2.2.2.2.2.2.1, v.2.2.2.2.2.2.2.2.2.2.2.2.2.1, v.2.2.2.2.2.2.2.2.2.2.2.1, v.2.2.2.2.2.2.2.2.2.2.1, v.2.2.2.2.2.2.2.2.2.1, v.2.2.2.2.2.2.2.2.2.2.2.2.1), (v.2.2.2.2.2.2.2.2.2.2.2.2.2.2.1, v.2.2.2.2.2.2.2.2.2.2.2.2.2.2.2.1, v.2.2.2.2.2.2.2.2.2.2.2.2.2.2.2.2.1, v.2.2.2.2.2.2.2.2.2.2.2.2.2.2.2.2.2), (v.2.1, v.2.2.1), s.gss, s.im0, s.im1, s.sh0, s.sh1, s.sh2, s.sh3) ((t.st, w.2.2.2.2.2.2, t.isKept, t.houses, t.comers, t.draft, t.dHouses, t.dComers, t.highestHouse), t.m1, (w.2.1, w.2.2.2.2.1, w.2.2.2.2.2.1, w.2.2.1, w.2.2.2.1, t.beginSum, t.dinnerSum, t.allWays, t.hours), t.m3) := by
  obtain ⟨k, q, htw, eh, ec, hi⟩ := id hI.1
  obtain ⟨hk, hev, hC, hM, -⟩ := id htw
  have k4 := hk.1
  have k6 := hk.2.1
  have c1 : s.now.1 = nI k.hs := hC.1
  have c2 : s.now.2.1 = nI k.cm := hC.2.1
  have c3 : s.now.2.2.1 = nI k.ev := hC.2.2.1
  rcases cases_in x1 (n := 1) (by decide) with hb | ⟨p, hp, rfl⟩
  · have d1 : f_X11_outside x1 1 = some 1 := ou_bad hb.1
    refine ex2 (-1) ?_ ?_ (fun _ _ => hI)
    · unfold f_X11_strike; rw [d1, sb, if_neg n10]; exact ⟨_, rfl, rfl⟩
    · unfold f_X12_strike; rw [part_bad hb.2, sb, if_pos rfl]; exact ⟨_, rfl, rfl⟩
  · have d1 : f_X11_outside (nI p) 1 = some 0 := ou_ok (n := 1) rfl hp (by decide)
    have hC2 : relC (nI k.hs, nI k.cm, nI k.ev, s.now.2.2.2.1, s.now.2.2.2.2.1, s.now.2.2.2.2.2.1, s.now.2.2.2.2.2.2.1, s.now.2.2.2.2.2.2.2) k := ⟨rfl, rfl, rfl, hC.2.2.2⟩
    obtain ⟨b', w', hrs', ops', lk', e1, -⟩ := e_din0 (n := 1) hk hC2 (by omega) (by omega) s.evg.1 s.evg.2.1 s.evg.2.2.1 s.evg.2.2.2
    dsimp only at e1
    obtain ⟨a0, g1, g2, -⟩ := starts_rel (hm := t.home) (now := t.now) hk hM
    obtain ⟨u0, e2⟩ := e_tonM (k := k) (bg := t.began) (by_ := t.begunBy) (d := t.dinners) (w := t.waited) hk rfl rfl g2 (by omega)
    have fin : ∀ (b : Bst), f_X0_planOrDinners (opI b.1) b.2 (nI p) = some (if opI b.1 = -4 then -4 else if nI p = 0 then opI b.1 else b.2) := fun b => by
      unfold f_X0_planOrDinners
      by_cases z1 : opI b.1 = -4
      · rw [if_pos z1, if_pos z1, z1]; split <;> rfl
      · rw [if_neg z1, if_neg z1]; split <;> rfl
    refine ex2 (if opI (itr (gStO k) k.hs (none, nI (dK k))).1 = -4 then -4 else if nI p = 0 then opI (itr (gStO k) k.hs (none, nI (dK k))).1 else (itr (gStO k) k.hs (none, nI (dK k))).2) ?_ ?_ (fun _ _ => hI)
    · unfold f_X11_strike f_X0_strikeOne
      rw [d1, sb, if_pos rfl, c1, c2, c3, e_rst, sb]
      dsimp only
      rw [show (1 : Int32) = nI 1 from rfl, e1, sb]
      dsimp only
      rw [show f_X0_beginAt s.adv.1 s.adv.2 (nI (dn 1 k)) = some (-4, nI (dK k)) from rfl, sb]
      dsimp only
      obtain ⟨r, r1, r2, r3⟩ := c_stO (b0 := (none, nI (dK k))) hk hev hC2 (show nI (dK k) ≤ nI (dK k) from nlt_le (by have := dK_le hk; omega)) k.hs 0 400 (nI 1) (nI (wn 1 k)) (ffS 0 1 k (-4)) (nI k.hs) (nI k.cm) (nI (k.ev + 1)) s.now.2.2.2.2.2.2.1 s.now.2.2.2.2.2.1 s.now.2.2.2.2.1 lk' s.now.2.2.2.1 b' w' hrs' ops' (by omega) (by omega)
      have r1 : L_X0_strikeOne_22 (nI k.hs) (nI k.cm) (nI k.ev) s.now.2.2.2.2.2.2.1 s.now.2.2.2.2.2.1 s.now.2.2.2.2.1 s.now.2.2.2.2.2.2.2 s.now.2.2.2.1 400 0 (-4) (nI (dK k)) (nI 1) (nI (wn 1 k)) (ffS 0 1 k (-4)) (nI k.hs) (nI k.cm) (nI (k.ev + 1)) s.now.2.2.2.2.2.2.1 s.now.2.2.2.2.2.1 s.now.2.2.2.2.1 lk' s.now.2.2.2.1 b' w' hrs' ops' = some r := r1
      rw [r1, sb, sb]
      dsimp only
      rw [r2, r3, fin, sb]
      exact ⟨_, rfl, rfl⟩
    · unfold f_X12_strike
      rw [part_ok hp, sb, if_neg n10, g1, sb]
      dsimp only
      rw [eh, ec, e2, sb]
      dsimp only
      obtain ⟨r, r1, r2, r3⟩ := m_stO (b0 := (none, nI (dK k))) hk hev hM k.hs 0 400 0 u0.1 u0.2.1 u0.2.2.1 u0.2.2.2.1 u0.2.2.2.2 (by omega) (by omega)
      have r1 : L_X12_strike_24 (nI k.hs) (nI k.cm) t.st 400 (nI (dK k)) (-4) 0 0 u0.1 u0.2.1 u0.2.2.1 u0.2.2.2.1 u0.2.2.2.2 = some r := r1
      rw [r1, sb, r2, r3]
      by_cases z1 : opI (itr (gStO k) k.hs (none, nI (dK k))).1 = -4
      · rw [if_pos z1, if_pos z1]; exact ⟨_, rfl, rfl⟩
      · rw [if_neg z1, if_neg z1]
        by_cases z2 : nI p = 0
        · rw [if_pos z2, if_pos z2]; exact ⟨_, rfl, rfl⟩
        · rw [if_neg z2, if_neg z2]; exact ⟨_, rfl, rfl⟩
