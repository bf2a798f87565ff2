/-! counting down to the first that holds -/
def dsc (P : Nat → Bool) : Nat → Int32
  | 0 => -4
  | m + 1 => if P m then nI m else dsc P m
def pm (m : Nat) : Int32 := nI m + (-1)
theorem pm_s (m : Nat) : pm (m + 1) = nI m := by
  unfold pm
  rw [← nI_pred m, Int32.sub_eq_add_neg]
theorem pm_0 : pm 0 = -1 := by decide
/-- a house's dinner, in a county -/
theorem e_hAt {x : Cty} {k : Ka} {h cg : Nat} {hrs ops : Nat → Int32} (hk : kok k) (hC : relC x k) (hh : h < k.hs) (cg6 : cg < 64) : ∃ u, f_X2_holdAt hrs ops (nI k.cm) x.2.2.2.2.2.2.1 x.2.2.2.2.2.1 x.2.2.2.2.1 x.2.2.2.2.2.2.2 x.2.2.2.1 (nI h) (nI cg) = some (nI (hrG k cg h), u) := by
  have k4 := hk.1
  obtain ⟨lk', e1, -⟩ := e_holdAt (hrs := hrs) (ops := ops) (cg := cg) (gn := k.go) hk.2.1 (by omega) (hC.2.2.2.1 h hh) (ls64 hk hh) cg6 (fun c hc => ⟨(hC.2.2.2.2.1 c hc).2.2, (hk.2.2.2.2.1 c hc).2.2⟩) (fun c hc => ⟨(hC.2.2.2.2.1 c hc).1, (hk.2.2.2.2.1 c hc).1⟩) (fun c hc => ⟨(hC.2.2.2.2.1 c hc).2.1, go9 hk hc⟩) (fun c hc => ⟨hC.2.2.2.2.2 h hh c hc, hk.2.2.2.2.2 h hh c hc⟩)
  exact ⟨_, e1⟩
def hd {α β : Type} : (Int32 × α) ⊕ β → Int32 := sel (fun w => w.1) (fun _ => -4)
def pLate (k : Ka) (c : Nat) : Nat → Bool := fun m => decide (hrK (setCo k c m) (k.go c) < 7)
def pMost (k : Ka) (h c : Nat) : Nat → Bool := fun m => decide (hrK (setLk k h c m) h < 7)
theorem n7 {n : Nat} (h : n ≤ 7) : nI n = 7 ↔ ¬ n < 7 := by
  have := nI_eq (a := n) (b := 7) (by omega) (by omega)
  exact ⟨fun e => by have := this.mp e; omega, fun e => this.mpr (by omega)⟩
theorem c_late {k : Ka} {li ki go co lk : Nat → Int32} {c : Nat} (hk : kok k) (hev : k.ev ≤ 999) (hC : relC (nI k.hs, nI k.cm, nI k.ev, li, ki, go, co, lk) k) (hc : c < k.cm) (hg : k.go c < k.hs) : ∀ (m f : Nat) (y2 y3 y4 y5 y6 y7 : Int32) (y8 y9 y10 y11 y12 : Nat → Int32) (y13 y14 : Nat → Int32), m ≤ 7 → m < f → ∃ o, L_X0_latestHour_22 (nI k.hs) (nI k.cm) (nI k.ev) co go ki lk li (nI c) f (pm m) y2 y3 y4 y5 y6 y7 y8 y9 y10 y11 y12 y13 y14 = some o ∧ hd o = dsc (pLate k c) m := by
  have k4 := hk.1
  have k6 := hk.2.1
  intro m
  induction m with
  | zero =>
    intro f y2 y3 y4 y5 y6 y7 y8 y9 y10 y11 y12 y13 y14 hm hf
    obtain ⟨f, rfl⟩ : ∃ f', f = f' + 1 := ⟨f - 1, by omega⟩
    rw [L_X0_latestHour_22, if_pos (show pm 0 < 0 by decide)]
    exact ⟨_, rfl, rfl⟩
  | succ m ih =>
    intro f y2 y3 y4 y5 y6 y7 y8 y9 y10 y11 y12 y13 y14 hm hf
    obtain ⟨f, rfl⟩ : ∃ f', f = f' + 1 := ⟨f - 1, by omega⟩
    have ec := (hC.2.2.2.2.1 c hc).2.1
    dsimp only at ec
    obtain ⟨u, e1⟩ := e_hAt (h := k.go c) (cg := 63) (hrs := y13) (ops := y14) (kok_co (c := c) (v := m) hk (by omega)) (relC_co (c := c) (v := m) hC) hg (by decide)
    have e1 : f_X2_holdAt y13 y14 (nI k.cm) (upd co c (nI m)) go ki lk li (nI (k.go c)) 63 = some (nI (hrK (setCo k c m) (k.go c)), u) := e1
    rw [L_X0_latestHour_22, pm_s, if_neg (nI_pos (by omega)), e_rst, sb]
    rw [if_pos (inb_nI (by omega) (by omega)), ix_nI (by omega)]
    dsimp only
    rw [ec, e1, sb]
    have h7 := hrK_le (setCo k c m) (k.go c)
    by_cases q : hrK (setCo k c m) (k.go c) < 7
    · rw [if_neg (show ¬ nI (hrK (setCo k c m) (k.go c)) = 7 from fun z => (n7 h7).mp z q)]
      refine ⟨_, rfl, ?_⟩
      show nI m = if (pLate k c) m then nI m else _
      rw [if_pos (show (pLate k c) m = true from decide_eq_true q)]
    · rw [if_pos (show nI (hrK (setCo k c m) (k.go c)) = 7 from (n7 h7).mpr q)]
      obtain ⟨o, o1, o2⟩ := ih f _ _ _ _ _ _ _ _ _ _ _ _ _ (by omega) (by omega)
      refine ⟨o, o1, o2.trans ?_⟩
      show _ = if (pLate k c) m then nI m else _
      rw [if_neg (show ¬ (pLate k c) m = true from by show ¬ decide _ = true; rw [decide_eq_false q]; decide)]
theorem c_most {k : Ka} {li ki go co lk : Nat → Int32} {h c : Nat} (hk : kok k) (hev : k.ev ≤ 999) (hC : relC (nI k.hs, nI k.cm, nI k.ev, li, ki, go, co, lk) k) (hh : h < k.hs) (hc : c < k.cm) : ∀ (m f : Nat) (y2 y3 y4 y5 y6 y7 : Int32) (y8 y9 y10 y11 y12 : Nat → Int32) (y13 y14 : Nat → Int32), m ≤ 10 → m < f → ∃ o, L_X0_mostLiked_3 (nI k.hs) (nI k.cm) (nI k.ev) co go ki lk li (nI h) (nI c) f (pm m) y2 y3 y4 y5 y6 y7 y8 y9 y10 y11 y12 y13 y14 = some o ∧ hd o = dsc (pMost k h c) m := by
  have k4 := hk.1
  have k6 := hk.2.1
  intro m
  induction m with
  | zero =>
    intro f y2 y3 y4 y5 y6 y7 y8 y9 y10 y11 y12 y13 y14 hm hf
    obtain ⟨f, rfl⟩ : ∃ f', f = f' + 1 := ⟨f - 1, by omega⟩
    rw [L_X0_mostLiked_3, if_pos (show pm 0 < 0 by decide)]
    exact ⟨_, rfl, rfl⟩
  | succ m ih =>
    intro f y2 y3 y4 y5 y6 y7 y8 y9 y10 y11 y12 y13 y14 hm hf
    obtain ⟨f, rfl⟩ : ∃ f', f = f' + 1 := ⟨f - 1, by omega⟩
    obtain ⟨u, e1⟩ := e_hAt (h := h) (cg := 63) (hrs := y13) (ops := y14) (kok_lk (h := h) (c := c) (v := m) hk (by omega)) (relC_lk (i := h) (j := c) (v := m) k6 (by omega) hC) hh (by decide)
    have e1 : f_X2_holdAt y13 y14 (nI k.cm) co go ki (upd lk (6 * h + c) (nI m)) li (nI h) 63 = some (nI (hrK (setLk k h c m) h), u) := e1
    rw [L_X0_mostLiked_3, pm_s, if_neg (nI_pos (by omega)), e_rst, sb]
    dsimp only
    rw [e_setLiked (by omega) (by omega), sb, e1, sb]
    have h7 := hrK_le (setLk k h c m) (h)
    by_cases q : hrK (setLk k h c m) (h) < 7
    · rw [if_neg (show ¬ nI (hrK (setLk k h c m) (h)) = 7 from fun z => (n7 h7).mp z q)]
      refine ⟨_, rfl, ?_⟩
      show nI m = if (pMost k h c) m then nI m else _
      rw [if_pos (show (pMost k h c) m = true from decide_eq_true q)]
    · rw [if_pos (show nI (hrK (setLk k h c m) (h)) = 7 from (n7 h7).mpr q)]
      obtain ⟨o, o1, o2⟩ := ih f _ _ _ _ _ _ _ _ _ _ _ _ _ (by omega) (by omega)
      refine ⟨o, o1, o2.trans ?_⟩
      show _ = if (pMost k h c) m then nI m else _
      rw [if_neg (show ¬ (pMost k h c) m = true from by show ¬ decide _ = true; rw [decide_eq_false q]; decide)]
theorem m_late {k : Ka} {st : Nat → Int32} {c : Nat} (hk : kok k) (hev : k.ev ≤ 999) (hM : relM st 0 k) (hc : c < k.cm) (hg : k.go c < k.hs) : ∀ (m f : Nat) (y6 y7 y8 : Int32) (y9 y10 y11 : Nat → Int32), m ≤ 7 → m < f → ∃ o, L_X12_late_35 (nI k.hs) (nI k.cm) st (nI c) f (pm m) y6 y7 y8 y9 y10 y11 = some o ∧ hd o = dsc (pLate k c) m := by
  have k4 := hk.1
  have k6 := hk.2.1
  intro m
  induction m with
  | zero =>
    intro f y6 y7 y8 y9 y10 y11 hm hf
    obtain ⟨f, rfl⟩ : ∃ f', f = f' + 1 := ⟨f - 1, by omega⟩
    rw [L_X12_late_35, if_pos (show pm 0 < 0 by decide)]
    exact ⟨_, rfl, rfl⟩
  | succ m ih =>
    intro f y6 y7 y8 y9 y10 y11 hm hf
    obtain ⟨f, rfl⟩ : ∃ f', f = f' + 1 := ⟨f - 1, by omega⟩
    obtain ⟨a0, g1, g2, -⟩ := starts_rel (hm := y6) (now := y11) hk hM
    obtain ⟨bg', by', a', e1, e2⟩ := e_evM (k := k) (bg := y9) (by_ := y10) (d := y7) (w := y8) (n := 1) (kok_co (c := c) (v := m) hk (by omega)) rfl rfl (relM_co hk hc g2) (by omega) (by show k.ev + 1 ≤ 2000; omega)
    have e2 : ∀ h, h < k.hs → bg' h = bgI (hrK (setCo k c m) h) := e2.resolve_left (by decide)
    have e1 : f_X12_eveningsGo (nI k.hs) (nI k.cm) 0 y7 y8 y9 y10 (upd a0 (0 + 6 + 3 * c) (nI m)) 1 = _ := e1
    have ei : (4 + 3 * nI c + 1 : Int32) = nI (0 + 5 + 3 * c) := by
      have : (4 + 3 * nI c + nI 1 : Int32) = nI (4 + 3 * c + 1) := ix_of
      exact this.trans (congrArg nI (by omega))
    have eg : st (ix (4 + 3 * nI c + 1)) = nI (k.go c) := by
      rw [ei, ix_nI (by omega), (hM.2.1 c hc).2.1]
      unfold goI
      rw [if_neg (by omega)]
    rw [L_X12_late_35, pm_s, if_neg (nI_pos (by omega)), g1, sb]
    rw [e_becCo (by omega), sb, e1, sb]
    dsimp only
    rw [eg, if_pos (inb_nI (by omega) (by omega)), ix_nI (by omega)]
    by_cases q : hrK (setCo k c m) (k.go c) < 7
    · rw [if_neg (show ¬ bg' (k.go c) = -4 from by rw [e2 _ ‹_›]; unfold bgI; rw [if_pos q]; exact nI_n4 (by omega))]
      refine ⟨_, rfl, ?_⟩
      show nI m = if (pLate k c) m then nI m else _
      rw [if_pos (show (pLate k c) m = true from decide_eq_true q)]
    · rw [if_pos (show bg' (k.go c) = -4 from by rw [e2 _ ‹_›]; unfold bgI; rw [if_neg q])]
      obtain ⟨o, o1, o2⟩ := ih f _ _ _ _ _ _ (by omega) (by omega)
      refine ⟨o, o1, o2.trans ?_⟩
      show _ = if (pLate k c) m then nI m else _
      rw [if_neg (show ¬ (pLate k c) m = true from by show ¬ decide _ = true; rw [decide_eq_false q]; decide)]
theorem m_most {k : Ka} {st : Nat → Int32} {h c : Nat} (hk : kok k) (hev : k.ev ≤ 999) (hM : relM st 0 k) (hh : h < k.hs) (hc : c < k.cm) : ∀ (m f : Nat) (y6 y7 y8 : Int32) (y9 y10 y11 : Nat → Int32), m ≤ 10 → m < f → ∃ o, L_X12_most_21 (nI k.hs) (nI k.cm) st (nI h) (nI c) f (pm m) y6 y7 y8 y9 y10 y11 = some o ∧ hd o = dsc (pMost k h c) m := by
  have k4 := hk.1
  have k6 := hk.2.1
  intro m
  induction m with
  | zero =>
    intro f y6 y7 y8 y9 y10 y11 hm hf
    obtain ⟨f, rfl⟩ : ∃ f', f = f' + 1 := ⟨f - 1, by omega⟩
    rw [L_X12_most_21, if_pos (show pm 0 < 0 by decide)]
    exact ⟨_, rfl, rfl⟩
  | succ m ih =>
    intro f y6 y7 y8 y9 y10 y11 hm hf
    obtain ⟨f, rfl⟩ : ∃ f', f = f' + 1 := ⟨f - 1, by omega⟩
    obtain ⟨a0, g1, g2, -⟩ := starts_rel (hm := y6) (now := y11) hk hM
    obtain ⟨bg', by', a', e1, e2⟩ := e_evM (k := k) (bg := y9) (by_ := y10) (d := y7) (w := y8) (n := 1) (kok_lk (h := h) (c := c) (v := m) hk (by omega)) rfl rfl (relM_lk hk hh hc g2) (by omega) (by show k.ev + 1 ≤ 2000; omega)
    have e2 : ∀ i, i < k.hs → bg' i = bgI (hrK (setLk k h c m) i) := e2.resolve_left (by decide)
    have e1 : f_X12_eveningsGo (nI k.hs) (nI k.cm) 0 y7 y8 y9 y10 (upd a0 (0 + 22 + 6 * h + c) (nI m)) 1 = _ := e1
    have ei : (22 + 6 * nI h + nI c : Int32) = nI (0 + 22 + 6 * h + c) := by rw [Nat.zero_add]; exact ix_lk
    rw [L_X12_most_21, pm_s, if_neg (nI_pos (by omega)), g1, sb]
    rw [ei, if_pos (inb_nI (by omega) (by omega)), ix_nI (by omega)]
    dsimp only
    rw [e1, sb, if_pos (inb_nI (by omega) (by omega)), ix_nI (by omega)]
    by_cases q : hrK (setLk k h c m) (h) < 7
    · rw [if_neg (show ¬ bg' (h) = -4 from by rw [e2 _ ‹_›]; unfold bgI; rw [if_pos q]; exact nI_n4 (by omega))]
      refine ⟨_, rfl, ?_⟩
      show nI m = if (pMost k h c) m then nI m else _
      rw [if_pos (show (pMost k h c) m = true from decide_eq_true q)]
    · rw [if_pos (show bg' (h) = -4 from by rw [e2 _ ‹_›]; unfold bgI; rw [if_neg q])]
      obtain ⟨o, o1, o2⟩ := ih f _ _ _ _ _ _ (by omega) (by omega)
      refine ⟨o, o1, o2.trans ?_⟩
      show _ = if (pMost k h c) m then nI m else _
      rw [if_neg (show ¬ (pMost k h c) m = true from by show ¬ decide _ = true; rw [decide_eq_false q]; decide)]
theorem p_late (s : SX) (t : TM) (x1 : Int32) (hI : Inv s t) : ∃ (v : Int32 × Int32 × Int32 × Int32 × Int32 × Int32 × Int32 × (Nat → Int32) × (Nat → Int32) × (Nat → Int32) × (Nat → Int32) × (Nat → Int32) × (Nat → Int32) × (Nat → Int32)) (w : Int32 × Int32 × Int32 × Int32 × (Nat → Int32) × (Nat → Int32) × (Nat → Int32)), f_X11_late s.now.1 s.now.2.1 s.now.2.2.1 s.now.2.2.2.2.2.2.1 s.now.2.2.2.2.2.1 s.now.2.2.2.2.1 s.now.2.2.2.2.2.2.2 s.now.2.2.2.1 s.tri.1 s.tri.2.1 s.tri.2.2 s.tcy.1 s.tcy.2.1 s.tcy.2.2.1 s.tcy.2.2.2.2.2.2.1 s.tcy.2.2.2.2.2.1 s.tcy.2.2.2.2.1 s.tcy.2.2.2.2.2.2.2 s.tcy.2.2.2.1 s.evg.2.2.1 s.evg.2.2.2 x1 = some v ∧ f_X12_late t.houses t.comers t.home t.dinners t.waited t.began t.begunBy t.now t.st x1 = some w ∧ v.1 = w.1 ∧ Inv (s.torn, s.tape, s.rdr, s.drf, s.now, s.seen, (v.2.1, v.2.2.1, v.2.2.2.1), (v.2.2.2.2.1, v.2.2.2.2.2.1, v.2.2.2.2.2.2.1, v.2.2.2.2.2.2.2.2.2.2.2.1, v.2.2.2.2.2.2.2.2.2.1, v.2.2.2.2.2.2.2.2.1, v.2.2.2.2.2.2.2.1, v.2.2.2.2.2.2.2.2.2.2.1), (s.evg.1, s.evg.2.1, v.2.2.2.2.2.2.2.2.2.2.2.2.1, v.2.2.2.2.2.2.2.2.2.2.2.2.2), s.adv, s.gss, s.im0, s.im1, s.sh0, s.sh1, s.sh2, s.sh3) ((t.st, w.2.2.2.2.2.2, t.isKept, t.houses, t.comers, t.draft, t.dHouses, t.dComers, t.highestHouse), t.m1, (w.2.1, w.2.2.2.2.1, w.2.2.2.2.2.1, w.2.2.1, w.2.2.2.1, t.beginSum, t.dinnerSum, t.allWays, t.hours), t.m3) := by
  obtain ⟨k, q, htw, eh, ec, hi⟩ := id hI.1
  obtain ⟨hk, hev, hC, hM, -⟩ := id htw
  have k4 := hk.1
  have k6 := hk.2.1
  have c1 : s.now.1 = nI k.hs := hC.1
  have c2 : s.now.2.1 = nI k.cm := hC.2.1
  have c3 : s.now.2.2.1 = nI k.ev := hC.2.2.1
  have hC2 : relC (nI k.hs, nI k.cm, nI k.ev, s.now.2.2.2.1, s.now.2.2.2.2.1, s.now.2.2.2.2.2.1, s.now.2.2.2.2.2.2.1, s.now.2.2.2.2.2.2.2) k := ⟨rfl, rfl, rfl, hC.2.2.2⟩
  rcases ixc x1 (n := k.cm) (by omega) with hb | ⟨c, hc, rfl⟩
  · have a1 : f_X11_noComer s.now.2.1 x1 = some 1 := by rw [c2]; exact nc_bad (by omega) hb
    have a2 : f_X12_isComer t.comers x1 = some 0 := by rw [ec]; exact ic_bad (by omega) hb
    refine ex2 (-1) ?_ ?_ (fun _ _ => hI)
    · unfold f_X11_late; rw [a1, sb, if_neg n10]; exact ⟨_, rfl, rfl⟩
    · unfold f_X12_late; rw [a2, sb, if_pos rfl]; exact ⟨_, rfl, rfl⟩
  · have a1 : f_X11_noComer s.now.2.1 (nI c) = some 0 := by rw [c2]; exact nc_ok (by omega) hc
    have a2 : f_X12_isComer t.comers (nI c) = some 1 := by rw [ec]; exact ic_ok (by omega) hc
    have r2 : s.now.2.2.2.2.2.1 (ix (nI c)) = nI (k.go c) := by rw [ix_nI (by omega)]; exact (hC.2.2.2.2.1 c hc).2.1
    have i6 : inb (nI c) 6 := inb_nI (by omega) (by omega)
    have ei : (4 + 3 * nI c + 1 : Int32) = nI (0 + 5 + 3 * c) := by
      have : (4 + 3 * nI c + nI 1 : Int32) = nI (4 + 3 * c + 1) := ix_of
      exact this.trans (congrArg nI (by omega))
    have i198 : inb (4 + 3 * nI c + 1) 198 := by rw [ei]; exact inb_nI (by omega) (by omega)
    have eg : t.st (ix (4 + 3 * nI c + 1)) = goI (k.go c) := by rw [ei, ix_nI (by omega), (hM.2.1 c hc).2.1]
    have g9 := go9 hk hc
    rcases (hk.2.2.2.2.1 c hc).2.1 with hg | hg
    · have n9 : ¬ s.now.2.2.2.2.2.1 (ix (nI c)) = 9 := by rw [r2]; exact fun z => by have := (nI_eq (b := 9) (by omega) (by omega)).mp z; omega
      have n4 : ¬ t.st (ix (4 + 3 * nI c + 1)) = -4 := by rw [eg]; unfold goI; rw [if_neg (by omega)]; exact nI_n4 (by omega)
      obtain ⟨o, o1, o2⟩ := c_late hk hev hC2 hc hg 7 400 s.tri.1 s.tri.2.1 s.tri.2.2 s.tcy.1 s.tcy.2.1 s.tcy.2.2.1 s.tcy.2.2.2.2.2.2.1 s.tcy.2.2.2.2.2.1 s.tcy.2.2.2.2.1 s.tcy.2.2.2.2.2.2.2 s.tcy.2.2.2.1 s.evg.2.2.1 s.evg.2.2.2 (by omega) (by omega)
      obtain ⟨p, p1, p2⟩ := m_late hk hev hM hc hg 7 400 t.home t.dinners t.waited t.began t.begunBy t.now (by omega) (by omega)
      have o1 : L_X0_latestHour_22 (nI k.hs) (nI k.cm) (nI k.ev) s.now.2.2.2.2.2.2.1 s.now.2.2.2.2.2.1 s.now.2.2.2.2.1 s.now.2.2.2.2.2.2.2 s.now.2.2.2.1 (nI c) 400 6 s.tri.1 s.tri.2.1 s.tri.2.2 s.tcy.1 s.tcy.2.1 s.tcy.2.2.1 s.tcy.2.2.2.2.2.2.1 s.tcy.2.2.2.2.2.1 s.tcy.2.2.2.2.1 s.tcy.2.2.2.2.2.2.2 s.tcy.2.2.2.1 s.evg.2.2.1 s.evg.2.2.2 = some o := o1
      have p1 : L_X12_late_35 (nI k.hs) (nI k.cm) t.st (nI c) 400 6 t.home t.dinners t.waited t.began t.begunBy t.now = some p := p1
      refine ex2 (dsc (pLate k c) 7) ?_ ?_ (fun _ _ => hI)
      · unfold f_X11_late f_X0_latestHour
        rw [a1, sb, if_pos rfl, if_pos i6, if_neg n9, if_pos i6, if_neg n9, c1, c2, c3, o1, sb]
        cases o with
        | inl w => exact ⟨_, rfl, o2⟩
        | inr w => exact ⟨_, rfl, o2⟩
      · unfold f_X12_late
        rw [a2, sb, if_neg n10, if_pos i198, if_neg n4, eh, ec, p1, sb]
        cases p with
        | inl w => exact ⟨_, rfl, p2⟩
        | inr w => exact ⟨_, rfl, p2⟩
    · have n9 : s.now.2.2.2.2.2.1 (ix (nI c)) = 9 := by rw [r2, hg]; rfl
      have n4 : t.st (ix (4 + 3 * nI c + 1)) = -4 := by rw [eg, hg]; rfl
      refine ex2 (-2) ?_ ?_ (fun _ _ => hI)
      · unfold f_X11_late; rw [a1, sb, if_pos rfl, if_pos i6, if_pos n9]; exact ⟨_, rfl, rfl⟩
      · unfold f_X12_late; rw [a2, sb, if_neg n10, if_pos i198, if_pos n4]; exact ⟨_, rfl, rfl⟩
theorem p_most (s : SX) (t : TM) (x1 : Int32) (x2 : Int32) (hI : Inv s t) : ∃ (v : Int32 × Int32 × Int32 × Int32 × Int32 × Int32 × Int32 × (Nat → Int32) × (Nat → Int32) × (Nat → Int32) × (Nat → Int32) × (Nat → Int32) × (Nat → Int32) × (Nat → Int32)) (w : Int32 × Int32 × Int32 × Int32 × (Nat → Int32) × (Nat → Int32) × (Nat → Int32)), f_X11_most s.now.1 s.now.2.1 s.now.2.2.1 s.now.2.2.2.2.2.2.1 s.now.2.2.2.2.2.1 s.now.2.2.2.2.1 s.now.2.2.2.2.2.2.2 s.now.2.2.2.1 s.tri.1 s.tri.2.1 s.tri.2.2 s.tcy.1 s.tcy.2.1 s.tcy.2.2.1 s.tcy.2.2.2.2.2.2.1 s.tcy.2.2.2.2.2.1 s.tcy.2.2.2.2.1 s.tcy.2.2.2.2.2.2.2 s.tcy.2.2.2.1 s.evg.2.2.1 s.evg.2.2.2 x1 x2 = some v ∧ f_X12_most t.houses t.comers t.home t.dinners t.waited t.began t.begunBy t.now t.st x1 x2 = some w ∧ v.1 = w.1 ∧ Inv (s.torn, s.tape, s.rdr, s.drf, s.now, s.seen, (v.2.1, v.2.2.1, v.2.2.2.1), (v.2.2.2.2.1, v.2.2.2.2.2.1, v.2.2.2.2.2.2.1, v.2.2.2.2.2.2.2.2.2.2.2.1, v.2.2.2.2.2.2.2.2.2.1, v.2.2.2.2.2.2.2.2.1, v.2.2.2.2.2.2.2.1, v.2.2.2.2.2.2.2.2.2.2.1), (s.evg.1, s.evg.2.1, v.2.2.2.2.2.2.2.2.2.2.2.2.1, v.2.2.2.2.2.2.2.2.2.2.2.2.2), s.adv, s.gss, s.im0, s.im1, s.sh0, s.sh1, s.sh2, s.sh3) ((t.st, w.2.2.2.2.2.2, t.isKept, t.houses, t.comers, t.draft, t.dHouses, t.dComers, t.highestHouse), t.m1, (w.2.1, w.2.2.2.2.1, w.2.2.2.2.2.1, w.2.2.1, w.2.2.2.1, t.beginSum, t.dinnerSum, t.allWays, t.hours), t.m3) := by
  obtain ⟨k, q, htw, eh, ec, hi⟩ := id hI.1
  obtain ⟨hk, hev, hC, hM, -⟩ := id htw
  have k4 := hk.1
  have k6 := hk.2.1
  have c1 : s.now.1 = nI k.hs := hC.1
  have c2 : s.now.2.1 = nI k.cm := hC.2.1
  have c3 : s.now.2.2.1 = nI k.ev := hC.2.2.1
  have hC2 : relC (nI k.hs, nI k.cm, nI k.ev, s.now.2.2.2.1, s.now.2.2.2.2.1, s.now.2.2.2.2.2.1, s.now.2.2.2.2.2.2.1, s.now.2.2.2.2.2.2.2) k := ⟨rfl, rfl, rfl, hC.2.2.2⟩
  rcases ixc x1 (n := k.hs) (by omega) with hb | ⟨h, hh, rfl⟩
  · have a1 : f_X11_noHouse s.now.1 x1 = some 1 := by rw [c1]; exact nh_bad (by omega) hb
    have a2 : f_X12_isHouse t.houses x1 = some 0 := by rw [eh]; exact ih_bad (by omega) hb
    refine ex2 (-1) ?_ ?_ (fun _ _ => hI)
    · unfold f_X11_most; rw [a1, sb, if_neg n10]; exact ⟨_, rfl, rfl⟩
    · unfold f_X12_most; rw [a2, sb, if_pos rfl]; exact ⟨_, rfl, rfl⟩
  · have a1 : f_X11_noHouse s.now.1 (nI h) = some 0 := by rw [c1]; exact nh_ok (by omega) hh
    have a2 : f_X12_isHouse t.houses (nI h) = some 1 := by rw [eh]; exact ih_ok (by omega) hh
    rcases ixc x2 (n := k.cm) (by omega) with hb | ⟨c, hc, rfl⟩
    · have b1 : f_X11_noComer s.now.2.1 x2 = some 1 := by rw [c2]; exact nc_bad (by omega) hb
      have b2 : f_X12_isComer t.comers x2 = some 0 := by rw [ec]; exact ic_bad (by omega) hb
      refine ex2 (-1) ?_ ?_ (fun _ _ => hI)
      · unfold f_X11_most; rw [a1, sb, if_pos rfl, b1, sb, if_neg n10]; exact ⟨_, rfl, rfl⟩
      · unfold f_X12_most; rw [a2, sb, if_neg n10, b2, sb, if_pos rfl]; exact ⟨_, rfl, rfl⟩
    · have b1 : f_X11_noComer s.now.2.1 (nI c) = some 0 := by rw [c2]; exact nc_ok (by omega) hc
      have b2 : f_X12_isComer t.comers (nI c) = some 1 := by rw [ec]; exact ic_ok (by omega) hc
      obtain ⟨o, o1, o2⟩ := c_most hk hev hC2 hh hc 10 400 s.tri.1 s.tri.2.1 s.tri.2.2 s.tcy.1 s.tcy.2.1 s.tcy.2.2.1 s.tcy.2.2.2.2.2.2.1 s.tcy.2.2.2.2.2.1 s.tcy.2.2.2.2.1 s.tcy.2.2.2.2.2.2.2 s.tcy.2.2.2.1 s.evg.2.2.1 s.evg.2.2.2 (by omega) (by omega)
      obtain ⟨p, p1, p2⟩ := m_most hk hev hM hh hc 10 400 t.home t.dinners t.waited t.began t.begunBy t.now (by omega) (by omega)
      have o1 : L_X0_mostLiked_3 (nI k.hs) (nI k.cm) (nI k.ev) s.now.2.2.2.2.2.2.1 s.now.2.2.2.2.2.1 s.now.2.2.2.2.1 s.now.2.2.2.2.2.2.2 s.now.2.2.2.1 (nI h) (nI c) 400 9 s.tri.1 s.tri.2.1 s.tri.2.2 s.tcy.1 s.tcy.2.1 s.tcy.2.2.1 s.tcy.2.2.2.2.2.2.1 s.tcy.2.2.2.2.2.1 s.tcy.2.2.2.2.1 s.tcy.2.2.2.2.2.2.2 s.tcy.2.2.2.1 s.evg.2.2.1 s.evg.2.2.2 = some o := o1
      have p1 : L_X12_most_21 (nI k.hs) (nI k.cm) t.st (nI h) (nI c) 400 9 t.home t.dinners t.waited t.began t.begunBy t.now = some p := p1
      refine ex2 (dsc (pMost k h c) 10) ?_ ?_ (fun _ _ => hI)
      · unfold f_X11_most f_X0_mostLiked
        rw [a1, sb, if_pos rfl, b1, sb, if_pos rfl, c1, c2, c3, o1, sb]
        cases o with
        | inl w => exact ⟨_, rfl, o2⟩
        | inr w => exact ⟨_, rfl, o2⟩
      · unfold f_X12_most
        rw [a2, sb, if_neg n10, b2, sb, if_neg n10, eh, ec, p1, sb]
        cases p with
        | inl w => exact ⟨_, rfl, p2⟩
        | inr w => exact ⟨_, rfl, p2⟩
