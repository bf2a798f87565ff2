def gPr (k : Ka) (a b i : Nat) : Nat → Bst → Bst := fun t w => wg w (10 * dst k.hs i + dst k.hs t) (dK (setGo (setGo k a (dst k.hs i)) b (dst k.hs t)))
def gPrO (k : Ka) (a b : Nat) : Nat → Bst → Bst := fun i w => itr (gPr k a b i) (k.hs + 1) w
def opA (o : Option Nat) : Int32 := match o with
  | some l => nI (l / 10)
  | none => 0
def opB (o : Option Nat) : Int32 := match o with
  | some l => nI (l % 10)
  | none => 0
theorem c_pr {k : Ka} {li ki go co lk : Nat → Int32} {a b i : Nat} {b0 : Bst} (hk : kok k) (hev : k.ev ≤ 999) (hC : relC (nI k.hs, nI k.cm, nI k.ev, li, ki, go, co, lk) k) (ha : a < k.cm) (hb : b < k.cm) (hab : ¬ a = b) (hi : i ≤ k.hs) : ∀ (q t f : Nat) (y5 y6 y7 y8 y9 y10 : Int32) (y11 y12 y13 y14 y15 : Nat → Int32) (y16 y17 : Int32) (y18 y19 : Nat → Int32), t + q = k.hs + 1 → q < f → ∃ r, L_X0_sendTwo_21 (nI k.hs) (nI k.cm) (nI k.ev) co go ki lk li (nI a) (nI b) (nI i) f (nI t) (opI (itr (gPr k a b i) t b0).1) (itr (gPr k a b i) t b0).2 y5 y6 y7 y8 y9 y10 y11 y12 y13 y14 y15 y16 y17 y18 y19 = some r ∧ r.1 = opI (itr (gPr k a b i) (k.hs + 1) b0).1 ∧ r.2.1 = (itr (gPr k a b i) (k.hs + 1) b0).2 := by
  have k4 := hk.1
  have k6 := hk.2.1
  intro q
  induction q with
  | zero =>
    intro t f y5 y6 y7 y8 y9 y10 y11 y12 y13 y14 y15 y16 y17 y18 y19 e hf
    obtain ⟨f, rfl⟩ : ∃ f', f = f' + 1 := ⟨f - 1, by omega⟩
    have e2 : t = k.hs + 1 := by omega
    rw [L_X0_sendTwo_21, if_pos (nI_lt (by omega) (by omega)), e2]
    exact ⟨_, rfl, rfl, rfl⟩
  | succ q ih =>
    intro t f y5 y6 y7 y8 y9 y10 y11 y12 y13 y14 y15 y16 y17 y18 y19 e hf
    obtain ⟨f, rfl⟩ : ∃ f', f = f' + 1 := ⟨f - 1, by omega⟩
    obtain ⟨b', w', hrs', ops', lk', e1, -⟩ := e_din0 (n := 1) (kok_go (c := b) (v := dst k.hs t) (kok_go (c := a) (v := dst k.hs i) hk dst_ok) dst_ok) (relC_go (c := b) (v := dst k.hs t) (relC_go (c := a) (v := dst k.hs i) hC)) (by omega) (by show k.ev + 1 ≤ 2000; omega) y16 y17 y18 y19
    dsimp only at e1
    have za : upd (upd go a (nI (dst k.hs i))) b (nI (dst k.hs t)) a = nI (dst k.hs i) := by rw [upd_ne hab, upd_at, if_pos rfl]
    have zb : upd (upd go a (nI (dst k.hs i))) b (nI (dst k.hs t)) b = nI (dst k.hs t) := by rw [upd_at, if_pos rfl]
    rw [L_X0_sendTwo_21, if_neg (nI_nlt (by omega) (by omega))]
    rw [e_rst, sb, e_dest k4 (by omega), sb, if_pos (inb_nI (by omega) (by omega)), e_dest k4 (by omega), sb, if_pos (inb_nI (by omega) (by omega)), if_pos (inb_nI (by omega) (by omega)), if_pos (inb_nI (by omega) (by omega)), ix_nI (by omega), ix_nI (by omega)]
    dsimp only
    rw [show (1 : Int32) = nI 1 from rfl, e1, sb]
    dsimp only
    rw [za, zb, lab10, show dn 1 (setGo (setGo k a (dst k.hs i)) b (dst k.hs t)) = dK (setGo (setGo k a (dst k.hs i)) b (dst k.hs t)) from rfl, e_weigh, sb, nI_add]
    exact ih (t + 1) f _ _ _ _ _ _ _ _ _ _ _ _ _ _ _ (by omega) (by omega)
theorem c_prO {k : Ka} {li ki go co lk : Nat → Int32} {a b : Nat} {b0 : Bst} (hk : kok k) (hev : k.ev ≤ 999) (hC : relC (nI k.hs, nI k.cm, nI k.ev, li, ki, go, co, lk) k) (ha : a < k.cm) (hb : b < k.cm) (hab : ¬ a = b) : ∀ (q t f : Nat) (y5 y6 y7 y8 y9 y10 : Int32) (y11 y12 y13 y14 y15 : Nat → Int32) (y16 y17 : Int32) (y18 y19 : Nat → Int32), t + q = k.hs + 1 → q < f → ∃ r, L_X0_sendTwo_7 (nI k.hs) (nI k.cm) (nI k.ev) co go ki lk li (nI a) (nI b) f (nI t) (opI (itr (gPrO k a b) t b0).1) (itr (gPrO k a b) t b0).2 y5 y6 y7 y8 y9 y10 y11 y12 y13 y14 y15 y16 y17 y18 y19 = some r ∧ r.1 = opI (itr (gPrO k a b) (k.hs + 1) b0).1 ∧ r.2.1 = (itr (gPrO k a b) (k.hs + 1) b0).2 := by
  have k4 := hk.1
  have k6 := hk.2.1
  intro q
  induction q with
  | zero =>
    intro t f y5 y6 y7 y8 y9 y10 y11 y12 y13 y14 y15 y16 y17 y18 y19 e hf
    obtain ⟨f, rfl⟩ : ∃ f', f = f' + 1 := ⟨f - 1, by omega⟩
    have e2 : t = k.hs + 1 := by omega
    rw [L_X0_sendTwo_7, if_pos (nI_lt (by omega) (by omega)), e2]
    exact ⟨_, rfl, rfl, rfl⟩
  | succ q ih =>
    intro t f y5 y6 y7 y8 y9 y10 y11 y12 y13 y14 y15 y16 y17 y18 y19 e hf
    obtain ⟨f, rfl⟩ : ∃ f', f = f' + 1 := ⟨f - 1, by omega⟩
    obtain ⟨r, r1, r2, r3⟩ := c_pr (b0 := itr (gPrO k a b) t b0) (i := t) hk hev hC ha hb hab (by omega) (k.hs + 1) 0 400 y5 y6 y7 y8 y9 y10 y11 y12 y13 y14 y15 y16 y17 y18 y19 (by omega) (by omega)
    have r1 : L_X0_sendTwo_21 (nI k.hs) (nI k.cm) (nI k.ev) co go ki lk li (nI a) (nI b) (nI t) 400 0 (opI (itr (gPrO k a b) t b0).1) (itr (gPrO k a b) t b0).2 y5 y6 y7 y8 y9 y10 y11 y12 y13 y14 y15 y16 y17 y18 y19 = some r := r1
    rw [L_X0_sendTwo_7, if_neg (nI_nlt (by omega) (by omega))]
    rw [nI_1, r1, sb, r2, r3]
    exact ih (t + 1) f _ _ _ _ _ _ _ _ _ _ _ _ _ _ _ (by omega) (by omega)
theorem m_pr {k : Ka} {st : Nat → Int32} {a b i : Nat} {b0 : Bst} (hk : kok k) (hev : k.ev ≤ 999) (hM : relM st 0 k) (ha : a < k.cm) (hb : b < k.cm) (hi : i ≤ k.hs) : ∀ (q t f : Nat) (y6 y7 y8 : Int32) (y9 y10 y11 : Nat → Int32), t + q = k.hs + 1 → q < f → ∃ r, L_X12_pair_59 (nI k.hs) (nI k.cm) st (nI a) (nI b) (nI i) f (itr (gPr k a b i) t b0).2 (opA (itr (gPr k a b i) t b0).1) (opB (itr (gPr k a b i) t b0).1) (nI t) y6 y7 y8 y9 y10 y11 = some r ∧ r.1 = (itr (gPr k a b i) (k.hs + 1) b0).2 ∧ r.2.1 = opA (itr (gPr k a b i) (k.hs + 1) b0).1 ∧ r.2.2.1 = opB (itr (gPr k a b i) (k.hs + 1) b0).1 := by
  have k4 := hk.1
  have k6 := hk.2.1
  intro q
  induction q with
  | zero =>
    intro t f y6 y7 y8 y9 y10 y11 e hf
    obtain ⟨f, rfl⟩ : ∃ f', f = f' + 1 := ⟨f - 1, by omega⟩
    have e2 : t = k.hs + 1 := by omega
    rw [L_X12_pair_59, if_pos (nI_lt (by omega) (by omega)), e2]
    exact ⟨_, rfl, rfl, rfl, rfl⟩
  | succ q ih =>
    intro t f y6 y7 y8 y9 y10 y11 e hf
    obtain ⟨f, rfl⟩ : ∃ f', f = f' + 1 := ⟨f - 1, by omega⟩
    obtain ⟨a0, g1, g2, -⟩ := starts_rel (hm := y6) (now := y11) hk hM
    have hk2 := kok_go (c := a) (v := dst k.hs i) hk dst_ok
    obtain ⟨u, e1⟩ := e_tonM (k := k) (bg := y9) (by_ := y10) (d := y7) (w := y8) (kok_go (c := b) (v := dst k.hs t) hk2 dst_ok) rfl rfl (relM_go (v := dst k.hs t) hk2 hb (relM_go (v := dst k.hs i) hk ha g2)) (by show k.ev ≤ 1000; omega)
    have h9 : dst k.hs i ≤ 9 := dst9 k4
    have h8 : dst k.hs t ≤ 9 := dst9 k4
    rw [L_X12_pair_59, if_neg (nI_nlt (by omega) (by omega))]
    rw [g1, sb, e_placeBy k4 hi, sb, e_becGo (by omega), sb, e_placeBy k4 (by omega), sb, e_becGo (by omega), sb, e1, sb]
    have ih := fun y6 y7 y8 y9 y10 y11 => ih (t + 1) f y6 y7 y8 y9 y10 y11 (by omega) (by omega)
    by_cases q1 : nI (dK (setGo (setGo k a (dst k.hs i)) b (dst k.hs t))) ≤ (itr (gPr k a b i) t b0).2
    · have ew : itr (gPr k a b i) (t + 1) b0 = itr (gPr k a b i) t b0 := if_pos q1
      rw [if_pos q1, nI_1]
      rw [ew] at ih
      exact ih _ _ _ _ _ _
    · have ew : itr (gPr k a b i) (t + 1) b0 = (some (10 * dst k.hs i + dst k.hs t), nI (dK (setGo (setGo k a (dst k.hs i)) b (dst k.hs t)))) := if_neg q1
      rw [if_neg q1, sb, e_asTold h9, sb, sb, e_asTold h8, sb, nI_1]
      rw [ew] at ih
      have x1 : opA (some (10 * dst k.hs i + dst k.hs t)) = nI (dst k.hs i) := congrArg nI (by omega)
      have x2 : opB (some (10 * dst k.hs i + dst k.hs t)) = nI (dst k.hs t) := congrArg nI (by omega)
      dsimp only at ih
      rw [x1, x2] at ih
      exact ih _ _ _ _ _ _
theorem m_prO {k : Ka} {st : Nat → Int32} {a b : Nat} {b0 : Bst} (hk : kok k) (hev : k.ev ≤ 999) (hM : relM st 0 k) (ha : a < k.cm) (hb : b < k.cm) : ∀ (q t f : Nat) (y6 y7 y8 : Int32) (y9 y10 y11 : Nat → Int32), t + q = k.hs + 1 → q < f → ∃ r, L_X12_pair_47 (nI k.hs) (nI k.cm) st (nI a) (nI b) f (itr (gPrO k a b) t b0).2 (opA (itr (gPrO k a b) t b0).1) (opB (itr (gPrO k a b) t b0).1) (nI t) y6 y7 y8 y9 y10 y11 = some r ∧ r.1 = (itr (gPrO k a b) (k.hs + 1) b0).2 ∧ r.2.1 = opA (itr (gPrO k a b) (k.hs + 1) b0).1 ∧ r.2.2.1 = opB (itr (gPrO k a b) (k.hs + 1) b0).1 := by
  have k4 := hk.1
  have k6 := hk.2.1
  intro q
  induction q with
  | zero =>
    intro t f y6 y7 y8 y9 y10 y11 e hf
    obtain ⟨f, rfl⟩ : ∃ f', f = f' + 1 := ⟨f - 1, by omega⟩
    have e2 : t = k.hs + 1 := by omega
    rw [L_X12_pair_47, if_pos (nI_lt (by omega) (by omega)), e2]
    exact ⟨_, rfl, rfl, rfl, rfl⟩
  | succ q ih =>
    intro t f y6 y7 y8 y9 y10 y11 e hf
    obtain ⟨f, rfl⟩ : ∃ f', f = f' + 1 := ⟨f - 1, by omega⟩
    obtain ⟨r, r1, r2, r3, r4⟩ := m_pr (b0 := itr (gPrO k a b) t b0) (i := t) hk hev hM ha hb (by omega) (k.hs + 1) 0 400 y6 y7 y8 y9 y10 y11 (by omega) (by omega)
    have r1 : L_X12_pair_59 (nI k.hs) (nI k.cm) st (nI a) (nI b) (nI t) 400 (itr (gPrO k a b) t b0).2 (opA (itr (gPrO k a b) t b0).1) (opB (itr (gPrO k a b) t b0).1) 0 y6 y7 y8 y9 y10 y11 = some r := r1
    rw [L_X12_pair_47, if_neg (nI_nlt (by omega) (by omega))]
    rw [nI_1, r1, sb, r2, r3, r4]
    exact ih (t + 1) f _ _ _ _ _ _ (by omega) (by omega)
theorem pr_gd {k : Ka} {a b : Nat} {b0 : Bst} (hk : kok k) (h : b0.2 = -1) : gd (itr (gPrO k a b) (k.hs + 1) b0) := by
  have k4 := hk.1
  have lt : ∀ i j, 10 * dst k.hs i + dst k.hs j < 100 := fun i j => by have := dst9 (i := i) k4; have := dst9 (i := j) k4; omega
  refine itr_gd ?_ _ (fun i w _ hw => ?_)
  · refine itr_gd (wg_gd0 h (lt _ _) ?_) _ (fun i b _ hb => wg_gd hb (lt _ _))
    have := dK_le (kok_go (c := b) (v := dst k.hs 0) (kok_go (c := a) (v := dst k.hs 0) hk dst_ok) dst_ok)
    omega
  · exact itr_P hw _ (fun _ _ _ hb => wg_gd hb (lt _ _))
theorem p_pair (s : SX) (t : TM) (x1 : Int32) (x2 : Int32) (x3 : Int32) (hI : Inv s t) : ∃ (v : Int32 × Int32 × Int32 × Int32 × Int32 × Int32 × Int32 × Int32 × Int32 × (Nat → Int32) × (Nat → Int32) × (Nat → Int32) × (Nat → Int32) × (Nat → Int32) × Int32 × Int32 × (Nat → Int32) × (Nat → Int32)) (w : Int32 × Int32 × Int32 × Int32 × (Nat → Int32) × (Nat → Int32) × (Nat → Int32)), f_X11_pair s.adv.1 s.adv.2 s.now.1 s.now.2.1 s.now.2.2.1 s.now.2.2.2.2.2.2.1 s.now.2.2.2.2.2.1 s.now.2.2.2.2.1 s.now.2.2.2.2.2.2.2 s.now.2.2.2.1 s.tri.1 s.tri.2.1 s.tri.2.2 s.tcy.1 s.tcy.2.1 s.tcy.2.2.1 s.tcy.2.2.2.2.2.2.1 s.tcy.2.2.2.2.2.1 s.tcy.2.2.2.2.1 s.tcy.2.2.2.2.2.2.2 s.tcy.2.2.2.1 s.evg.1 s.evg.2.1 s.evg.2.2.1 s.evg.2.2.2 x1 x2 x3 = some v ∧ f_X12_pair t.houses t.comers t.home t.dinners t.waited t.began t.begunBy t.now t.st x1 x2 x3 = some w ∧ v.1 = w.1 ∧ Inv (s.torn, s.tape, s.rdr, s.drf, s.now, s.seen, (v.2.2.2.1, v.2.2.2.2.1, v.2.2.2.2.2.1), (v.2.2.2.2.2.2.1, v.2.2.2.2.2.2.2.1, v.2.2.2.2.2.2.2.2.1, v.2.2.2.2.2.2.2.2.2.2.2.2.2.1, v.2.2.2.2.2.2.2.2.2.2.2.1, v.2.2.2.2.2.2.2.2.2.2.1, v.2.2.2.2.2.2.2.2.2.1, v.2.2.2.2.2.2.2.2.2.2.2.2.1), (v.2.2.2.2.2.2.2.2.2.2.2.2.2.2.1, v.2.2.2.2.2.2.2.2.2.2.2.2.2.2.2.1, v.2.2.2.2.2.2.2.2.2.2.2.2.2.2.2.2.1, v.2.2.2.2.2.2.2.2.2.2.2.2.2.2.2.2.2), (v.2.1, v.2.2.1), s.gss, s.im0, s.im1, s.sh0, s.sh1, s.sh2, s.sh3) ((t.st, w.2.2.2.2.2.2, t.isKept, t.houses, t.comers, t.draft, t.dHouses, t.dComers, t.highestHouse), t.m1, (w.2.1, w.2.2.2.2.1, w.2.2.2.2.2.1, w.2.2.1, w.2.2.2.1, t.beginSum, t.dinnerSum, t.allWays, t.hours), t.m3) := by
  obtain ⟨k, q, htw, eh, ec, hi⟩ := id hI.1
  obtain ⟨hk, hev, hC, hM, -⟩ := id htw
  have k4 := hk.1
  have k6 := hk.2.1
  have c1 : s.now.1 = nI k.hs := hC.1
  have c2 : s.now.2.1 = nI k.cm := hC.2.1
  have c3 : s.now.2.2.1 = nI k.ev := hC.2.2.1
  rcases ixc x1 (n := k.cm) (by omega) with hb | ⟨a, ha, rfl⟩
  · have a1 : f_X11_noComer s.now.2.1 x1 = some 1 := by rw [c2]; exact nc_bad (by omega) hb
    have a2 : f_X12_isComer t.comers x1 = some 0 := by rw [ec]; exact ic_bad (by omega) hb
    refine ex2 (-1) ?_ ?_ (fun _ _ => hI)
    · unfold f_X11_pair; rw [a1, sb, if_neg n10]; exact ⟨_, rfl, rfl⟩
    · unfold f_X12_pair; rw [a2, sb, if_pos rfl]; exact ⟨_, rfl, rfl⟩
  · have a1 : f_X11_noComer s.now.2.1 (nI a) = some 0 := by rw [c2]; exact nc_ok (by omega) ha
    have a2 : f_X12_isComer t.comers (nI a) = some 1 := by rw [ec]; exact ic_ok (by omega) ha
    rcases ixc x2 (n := k.cm) (by omega) with hb | ⟨b, hb, rfl⟩
    · have b1 : f_X11_noComer s.now.2.1 x2 = some 1 := by rw [c2]; exact nc_bad (by omega) hb
      have b2 : f_X12_isComer t.comers x2 = some 0 := by rw [ec]; exact ic_bad (by omega) hb
      refine ex2 (-1) ?_ ?_ (fun _ _ => hI)
      · unfold f_X11_pair; rw [a1, sb, if_pos rfl, b1, sb, if_neg n10]; exact ⟨_, rfl, rfl⟩
      · unfold f_X12_pair; rw [a2, sb, if_neg n10, b2, sb, if_pos rfl]; exact ⟨_, rfl, rfl⟩
    · have b1 : f_X11_noComer s.now.2.1 (nI b) = some 0 := by rw [c2]; exact nc_ok (by omega) hb
      have b2 : f_X12_isComer t.comers (nI b) = some 1 := by rw [ec]; exact ic_ok (by omega) hb
      by_cases hab : a = b
      · have hab2 : nI a = nI b := congrArg nI hab
        refine ex2 (-1) ?_ ?_ (fun _ _ => hI)
        · unfold f_X11_pair; rw [a1, sb, if_pos rfl, b1, sb, if_pos rfl, if_pos hab2]; exact ⟨_, rfl, rfl⟩
        · unfold f_X12_pair; rw [a2, sb, if_neg n10, b2, sb, if_neg n10, if_pos hab2]; exact ⟨_, rfl, rfl⟩
      · have hab2 : ¬ nI a = nI b := fun z => hab ((nI_eq (by omega) (by omega)).mp z)
        rcases cases_in x3 (n := 2) (by decide) with hb3 | ⟨p, hp, rfl⟩
        · have d1 : f_X11_outside x3 2 = some 1 := ou_bad hb3.1
          have d2 : f_X12_in x3.toInt64 0 2 = some 0 := in_bad (n := 2) rfl hb3.2
          refine ex2 (-1) ?_ ?_ (fun _ _ => hI)
          · unfold f_X11_pair; rw [a1, sb, if_pos rfl, b1, sb, if_pos rfl, if_neg hab2, d1, sb, if_neg n10]; exact ⟨_, rfl, rfl⟩
          · unfold f_X12_pair; rw [a2, sb, if_neg n10, b2, sb, if_neg n10, if_neg hab2, d2, sb, if_pos rfl]; exact ⟨_, rfl, rfl⟩
        · have d1 : f_X11_outside (nI p) 2 = some 0 := ou_ok (n := 2) rfl hp (by decide)
          have d2 : f_X12_in (nI p).toInt64 0 2 = some 1 := in_ok (n := 2) rfl hp (by decide)
          have hC2 : relC (nI k.hs, nI k.cm, nI k.ev, s.now.2.2.2.1, s.now.2.2.2.2.1, s.now.2.2.2.2.2.1, s.now.2.2.2.2.2.2.1, s.now.2.2.2.2.2.2.2) k := ⟨rfl, rfl, rfl, hC.2.2.2⟩
          obtain ⟨r, r1, r2, r3⟩ := c_prO (b0 := (none, -1)) hk hev hC2 ha hb hab (k.hs + 1) 0 400 s.tri.1 s.tri.2.1 s.tri.2.2 s.tcy.1 s.tcy.2.1 s.tcy.2.2.1 s.tcy.2.2.2.2.2.2.1 s.tcy.2.2.2.2.2.1 s.tcy.2.2.2.2.1 s.tcy.2.2.2.2.2.2.2 s.tcy.2.2.2.1 s.evg.1 s.evg.2.1 s.evg.2.2.1 s.evg.2.2.2 (by omega) (by omega)
          obtain ⟨u, u1, u2, u3, u4⟩ := m_prO (b0 := (none, -1)) hk hev hM ha hb (k.hs + 1) 0 400 t.home t.dinners t.waited t.began t.begunBy t.now (by omega) (by omega)
          obtain ⟨l, l1, l2⟩ := pr_gd (a := a) (b := b) (b0 := (none, -1)) hk rfl
          have r1 : L_X0_sendTwo_7 (nI k.hs) (nI k.cm) (nI k.ev) s.now.2.2.2.2.2.2.1 s.now.2.2.2.2.2.1 s.now.2.2.2.2.1 s.now.2.2.2.2.2.2.2 s.now.2.2.2.1 (nI a) (nI b) 400 0 (-4) (-1) s.tri.1 s.tri.2.1 s.tri.2.2 s.tcy.1 s.tcy.2.1 s.tcy.2.2.1 s.tcy.2.2.2.2.2.2.1 s.tcy.2.2.2.2.2.1 s.tcy.2.2.2.2.1 s.tcy.2.2.2.2.2.2.2 s.tcy.2.2.2.1 s.evg.1 s.evg.2.1 s.evg.2.2.1 s.evg.2.2.2 = some r := r1
          have u1 : L_X12_pair_47 (nI k.hs) (nI k.cm) t.st (nI a) (nI b) 400 (-1) 0 0 0 t.home t.dinners t.waited t.began t.begunBy t.now = some u := u1
          have r0 : f_X0_beginAt s.adv.1 s.adv.2 (-1) = some (-4, -1) := rfl
          rw [l1] at r2 u3 u4
          have r2 : r.1 = nI l := r2
          have v1 : nI l / 10 = nI (l / 10) := pk_div (d := 10) (by omega) (by omega) (by omega)
          have v2 : nI l - nI l / 10 * 10 = nI (l % 10) := pk_rem (d := 10) (by omega) (by omega) (by omega)
          obtain rfl | rfl | rfl : p = 0 ∨ p = 1 ∨ p = 2 := by omega
          · refine ex2 (itr (gPrO k a b) (k.hs + 1) (none, -1)).2 ?_ ?_ (fun _ _ => hI)
            · unfold f_X11_pair f_X0_sendTwo
              rw [a1, sb, if_pos rfl, b1, sb, if_pos rfl, if_neg hab2, d1, sb, if_pos rfl, r0, sb]
              dsimp only
              rw [c1, c2, c3, r1, sb, sb, if_pos (by decide)]
              exact ⟨_, rfl, r3⟩
            · unfold f_X12_pair
              rw [a2, sb, if_neg n10, b2, sb, if_neg n10, if_neg hab2, d2, sb, if_neg n10, eh, ec, u1, sb, if_pos (by decide)]
              exact ⟨_, rfl, u2⟩
          · refine ex2 (nI (l / 10)) ?_ ?_ (fun _ _ => hI)
            · unfold f_X11_pair f_X0_sendTwo
              rw [a1, sb, if_pos rfl, b1, sb, if_pos rfl, if_neg hab2, d1, sb, if_pos rfl, r0, sb]
              dsimp only
              rw [c1, c2, c3, r1, sb, sb, if_neg (by decide), if_pos (by decide), if_pos (by decide)]
              dsimp only
              rw [r2, v1]
              exact ⟨_, rfl, rfl⟩
            · unfold f_X12_pair
              rw [a2, sb, if_neg n10, b2, sb, if_neg n10, if_neg hab2, d2, sb, if_neg n10, eh, ec, u1, sb, if_neg (by decide), if_pos (by decide)]
              exact ⟨_, rfl, u3⟩
          · refine ex2 (nI (l % 10)) ?_ ?_ (fun _ _ => hI)
            · unfold f_X11_pair f_X0_sendTwo
              rw [a1, sb, if_pos rfl, b1, sb, if_pos rfl, if_neg hab2, d1, sb, if_pos rfl, r0, sb]
              dsimp only
              rw [c1, c2, c3, r1, sb, sb, if_neg (by decide), if_neg (by decide), if_pos (by decide)]
              dsimp only
              rw [r2, v2]
              exact ⟨_, rfl, rfl⟩
            · unfold f_X12_pair
              rw [a2, sb, if_neg n10, b2, sb, if_neg n10, if_neg hab2, d2, sb, if_neg n10, eh, ec, u1, sb, if_neg (by decide), if_neg (by decide)]
              exact ⟨_, rfl, u4⟩
