/-! searching for the best -/
/-- the best so far: its label, its number -/
abbrev Bst := Option Nat × Int32
def wg (b : Bst) (l d : Nat) : Bst := if nI d ≤ b.2 then b else (some l, nI d)
def itr (g : Nat → Bst → Bst) : Nat → Bst → Bst
  | 0, b => b
  | n + 1, b => g n (itr g n b)
def op0 (o : Option Nat) : Int32 := match o with
  | some c => nI c
  | none => 0
def gd (b : Bst) : Prop := ∃ l, b.1 = some l ∧ l < 100
theorem wg_gd {b : Bst} {l d : Nat} (h : gd b) (hl : l < 100) : gd (wg b l d) := by
  unfold wg
  split
  · exact h
  · exact ⟨l, rfl, hl⟩
theorem wg_gd0 {b : Bst} {l d : Nat} (h : b.2 = -1) (hl : l < 100) (hd : d < 2147483648) : gd (wg b l d) := by
  unfold wg
  have e : ¬ nI d ≤ b.2 := by
    rw [h]
    intro z
    have := Int32.le_iff_toInt_le.mp z
    rw [nI_toInt hd] at this
    have e2 : (-1 : Int32).toInt = -1 := by decide
    omega
  rw [if_neg e]
  exact ⟨l, rfl, hl⟩
theorem itr_gd {g : Nat → Bst → Bst} {b : Bst} (h0 : gd (g 0 b)) : ∀ n, (∀ i b, i < n + 1 → gd b → gd (g i b)) → gd (itr g (n + 1) b)
  | 0, _ => h0
  | n + 1, h => h (n + 1) _ (by omega) (itr_gd h0 n (fun i b hi hb => h i b (by omega) hb))
/-- none yet, or a good one -/
def gn (b : Bst) : Prop := b.1 = none ∨ gd b
theorem wg_gn {b : Bst} {l d : Nat} (h : gn b) (hl : l < 100) : gn (wg b l d) := by
  unfold wg
  split
  · exact h
  · exact Or.inr ⟨l, rfl, hl⟩
theorem itr_P {g : Nat → Bst → Bst} {P : Bst → Prop} {b : Bst} (h0 : P b) : ∀ n, (∀ i b, i < n → P b → P (g i b)) → P (itr g n b)
  | 0, _ => h0
  | n + 1, h => h n _ (by omega) (itr_P h0 n (fun i b hi hb => h i b (by omega) hb))
/-- the number does not fall below d0 -/
def ab (d0 : Nat) (b : Bst) : Prop := nI d0 ≤ b.2
theorem wg_ab {d0 : Nat} {b : Bst} {l d : Nat} (h : ab d0 b) : ab d0 (wg b l d) := by
  unfold wg
  split
  · exact h
  · rename_i q
    have a1 := Int32.le_iff_toInt_le.mp h
    have a2 : ¬ (nI d).toInt ≤ b.2.toInt := fun z => q (Int32.le_iff_toInt_le.mpr z)
    show nI d0 ≤ nI d
    rw [Int32.le_iff_toInt_le]
    omega
theorem wg_eq {d0 : Nat} {b : Bst} {l : Nat} (h : ab d0 b) : wg b l d0 = b := if_pos h
theorem e_weigh {b : Bst} {l d : Nat} : f_X0_weigh (opI b.1) b.2 (nI l) (nI d) = some (opI (wg b l d).1, (wg b l d).2) := by
  unfold f_X0_weigh wg
  by_cases q : nI d ≤ b.2
  · rw [if_pos q, if_pos q]
  · rw [if_neg q, if_neg q]; rfl
theorem pod {b : Bst} {x : Nat} (hx : x ≤ 1) (h : gd b) : f_X0_planOrDinners (opI b.1) b.2 (nI x) = some (if x = 0 then op0 b.1 else b.2) := by
  obtain ⟨l, h1, h2⟩ := h
  unfold f_X0_planOrDinners
  rw [h1]
  obtain rfl | rfl : x = 0 ∨ x = 1 := by omega
  · rfl
  · rw [if_neg (by decide), if_neg (show ¬ opI (some l) = -4 from nI_n4 h2)]; rfl
def dst (hs i : Nat) : Nat := if hs ≤ i then 9 else i
theorem dst_ok {hs i : Nat} : dst hs i < hs ∨ dst hs i = 9 := by
  unfold dst
  split
  · exact Or.inr rfl
  · exact Or.inl (by omega)
theorem dst9 {hs i : Nat} (h : hs ≤ 4) : dst hs i ≤ 9 := by
  unfold dst
  split <;> omega
theorem e_dest {hs i : Nat} (h : hs ≤ 4) (hi : i < 100) : f_X1_destination (nI hs) (nI i) = some (nI (dst hs i)) := by
  unfold f_X1_destination dst
  by_cases q : hs ≤ i
  · rw [if_pos (nI_le q (by omega)), if_pos q]; rfl
  · rw [if_neg (nI_ge (by omega) (by omega)), if_neg q]
theorem e_placeBy {hs i : Nat} (h : hs ≤ 4) (hi : i ≤ hs) : f_X12_placeBy (nI hs) (nI i) = some (goI (dst hs i)) := by
  unfold f_X12_placeBy dst goI
  by_cases q : hs ≤ i
  · have e : i = hs := by omega
    subst e
    rw [if_pos rfl, if_pos q, if_pos rfl]
  · rw [if_neg (fun z => by have := (nI_eq (by omega) (by omega)).mp z; omega), if_neg q, if_neg (by omega)]
theorem e_asTold {g : Nat} (h : g ≤ 9) : f_X12_asTold (goI g) = some (nI g) := by
  unfold f_X12_asTold goI
  by_cases q : g = 9
  · rw [if_pos q, if_pos rfl, q]; rfl
  · rw [if_neg q, if_neg (nI_n4 (by omega))]
theorem e_becOf {a : Nat → Int32} {c j : Nat} {v : Int32} (hc : c < 6) (hj : j < 3) : f_X12_becomesOf a (nI c) (nI j) v = some (upd a (4 + 3 * c + j) v) := by
  unfold f_X12_becomesOf
  rw [ix_of, if_pos (inb_nI (by omega) (by omega)), ix_nI (by omega)]
theorem e_becGo {a : Nat → Int32} {c : Nat} {v : Int32} (hc : c < 6) : f_X12_becomesOf a (nI c) 1 v = some (upd a (0 + 5 + 3 * c) v) := by
  have := e_becOf (a := a) (c := c) (j := 1) (v := v) hc (by omega)
  rw [show 4 + 3 * c + 1 = 0 + 5 + 3 * c by omega] at this
  exact this
theorem e_becKd {a : Nat → Int32} {c : Nat} {v : Int32} (hc : c < 6) : f_X12_becomesOf a (nI c) 0 v = some (upd a (0 + 4 + 3 * c) v) := by
  have := e_becOf (a := a) (c := c) (j := 0) (v := v) hc (by omega)
  rw [show 4 + 3 * c + 0 = 0 + 4 + 3 * c by omega] at this
  exact this
theorem e_becCo {a : Nat → Int32} {c : Nat} {v : Int32} (hc : c < 6) : f_X12_becomesOf a (nI c) 2 v = some (upd a (0 + 6 + 3 * c) v) := by
  have := e_becOf (a := a) (c := c) (j := 2) (v := v) hc (by omega)
  rw [show 4 + 3 * c + 2 = 0 + 6 + 3 * c by omega] at this
  exact this
/-- the reference's evenings, of a changed county -/
theorem e_evM {a bg by_ : Nat → Int32} {k k' : Ka} {n : Nat} {d w : Int32} (hk : kok k') (s1 : k'.hs = k.hs) (s2 : k'.cm = k.cm) (hM : relM a 0 k') (hn : n ≤ 61) (he : k'.ev + n ≤ 2000) : ∃ bg' by' a' : Nat → Int32, f_X12_eveningsGo (nI k.hs) (nI k.cm) 0 d w bg by_ a (nI n) = some (nI (dn n k'), nI (wn n k'), bg', by', a') ∧ (n = 0 ∨ ∀ h, h < k.hs → bg' h = bgI (hrK (evn (n - 1) k') h)) := by
  obtain ⟨bg', by', a', h1, h2, -⟩ := e_evGo (bg := bg) (by_ := by_) (d := d) (w := w) (n := n) hk hM hn he
  rw [s1, s2] at h1
  rw [s1] at h2
  exact ⟨bg', by', a', h1, h2.imp id (fun h i hi => (h i hi).1)⟩
theorem e_tonM {a bg by_ : Nat → Int32} {k k' : Ka} {d w : Int32} (hk : kok k') (s1 : k'.hs = k.hs) (s2 : k'.cm = k.cm) (hM : relM a 0 k') (he : k'.ev ≤ 1000) : ∃ u, f_X12_dinnersTonight (nI k.hs) (nI k.cm) 0 d w bg by_ a = some (nI (dK k'), u) := by
  obtain ⟨bg', by', a', h1, -⟩ := e_evM (bg := bg) (by_ := by_) (d := d) (w := w) (n := 1) hk s1 s2 hM (by omega) (by omega)
  have h1 : f_X12_eveningsGo (nI k.hs) (nI k.cm) 0 d w bg by_ a 1 = _ := h1
  unfold f_X12_dinnersTonight
  rw [h1, sb]
  exact ⟨_, rfl⟩
def gSend (k : Ka) (c : Nat) : Nat → Bst → Bst := fun i b => wg b (dst k.hs i) (dK (setGo k c (dst k.hs i)))
theorem c_send {k : Ka} {li ki go co lk : Nat → Int32} {c : Nat} {b0 : Bst} (hk : kok k) (hev : k.ev ≤ 999) (hC : relC (nI k.hs, nI k.cm, nI k.ev, li, ki, go, co, lk) k) (hc : c < k.cm) : ∀ (q i f : Nat) (y5 y6 y7 y8 y9 y10 : Int32) (y11 y12 y13 y14 y15 : Nat → Int32) (y16 y17 : Int32) (y18 y19 : Nat → Int32), i + q = k.hs + 1 → q < f → ∃ r, L_X0_sendOne_7 (nI k.hs) (nI k.cm) (nI k.ev) co go ki lk li (nI c) f (nI i) (opI (itr (gSend k c) i b0).1) (itr (gSend k c) i b0).2 y5 y6 y7 y8 y9 y10 y11 y12 y13 y14 y15 y16 y17 y18 y19 = some r ∧ r.1 = opI (itr (gSend k c) (k.hs + 1) b0).1 ∧ r.2.1 = (itr (gSend k c) (k.hs + 1) b0).2 := by
  have k4 := hk.1
  have k6 := hk.2.1
  intro q
  induction q with
  | zero =>
    intro i f y5 y6 y7 y8 y9 y10 y11 y12 y13 y14 y15 y16 y17 y18 y19 e hf
    obtain ⟨f, rfl⟩ : ∃ f', f = f' + 1 := ⟨f - 1, by omega⟩
    have e2 : i = k.hs + 1 := by omega
    subst e2
    rw [L_X0_sendOne_7, if_pos (nI_lt (by omega) (by omega))]
    exact ⟨_, rfl, rfl, rfl⟩
  | succ q ih =>
    intro i f y5 y6 y7 y8 y9 y10 y11 y12 y13 y14 y15 y16 y17 y18 y19 e hf
    obtain ⟨f, rfl⟩ : ∃ f', f = f' + 1 := ⟨f - 1, by omega⟩
    obtain ⟨b', w', hrs', ops', lk', e1, -⟩ := e_din0 (n := 1) (kok_go (c := c) (v := dst k.hs i) hk dst_ok) (relC_go (c := c) (v := dst k.hs i) hC) (by omega) (by show k.ev + 1 ≤ 2000; omega) y16 y17 y18 y19
    dsimp only at e1
    rw [L_X0_sendOne_7, if_neg (nI_nlt (by omega) (by omega)), e_dest k4 (by omega), sb, e_rst, sb, if_pos (inb_nI (by omega) (by omega)), ix_nI (by omega)]
    dsimp only
    rw [show (1 : Int32) = nI 1 from rfl, e1, sb]
    dsimp only
    rw [show dn 1 (setGo k c (dst k.hs i)) = dK (setGo k c (dst k.hs i)) from rfl, e_weigh, sb, nI_add]
    exact ih (i + 1) f _ _ _ _ _ _ _ _ _ _ _ _ _ _ _ (by omega) (by omega)
theorem m_send {k : Ka} {st : Nat → Int32} {c : Nat} {b0 : Bst} (hk : kok k) (hev : k.ev ≤ 999) (hM : relM st 0 k) (hc : c < k.cm) : ∀ (q i f : Nat) (y6 y7 y8 : Int32) (y9 y10 y11 : Nat → Int32), i + q = k.hs + 1 → q < f → ∃ r, L_X12_send_25 (nI k.hs) (nI k.cm) st (nI c) f (itr (gSend k c) i b0).2 (op0 (itr (gSend k c) i b0).1) (nI i) y6 y7 y8 y9 y10 y11 = some r ∧ r.1 = (itr (gSend k c) (k.hs + 1) b0).2 ∧ r.2.1 = op0 (itr (gSend k c) (k.hs + 1) b0).1 := by
  have k4 := hk.1
  have k6 := hk.2.1
  intro q
  induction q with
  | zero =>
    intro i f y6 y7 y8 y9 y10 y11 e hf
    obtain ⟨f, rfl⟩ : ∃ f', f = f' + 1 := ⟨f - 1, by omega⟩
    have e2 : i = k.hs + 1 := by omega
    subst e2
    rw [L_X12_send_25, if_pos (nI_lt (by omega) (by omega))]
    exact ⟨_, rfl, rfl, rfl⟩
  | succ q ih =>
    intro i f y6 y7 y8 y9 y10 y11 e hf
    obtain ⟨f, rfl⟩ : ∃ f', f = f' + 1 := ⟨f - 1, by omega⟩
    obtain ⟨a0, g1, g2, -⟩ := starts_rel (hm := y6) (now := y11) hk hM
    obtain ⟨u, e1⟩ := e_tonM (k := k) (bg := y9) (by_ := y10) (d := y7) (w := y8) (kok_go (c := c) (v := dst k.hs i) hk dst_ok) rfl rfl (relM_go hk hc g2) (by show k.ev ≤ 1000; omega)
    have h9 : dst k.hs i ≤ 9 := dst9 k4
    rw [L_X12_send_25, if_neg (nI_nlt (by omega) (by omega)), g1, sb, e_placeBy k4 (by omega), sb, e_becGo (by omega), sb, e1, sb]
    have ih := fun y6 y7 y8 y9 y10 y11 => ih (i + 1) f y6 y7 y8 y9 y10 y11 (by omega) (by omega)
    by_cases q1 : nI (dK (setGo k c (dst k.hs i))) ≤ (itr (gSend k c) i b0).2
    · have ew : itr (gSend k c) (i + 1) b0 = itr (gSend k c) i b0 := if_pos q1
      rw [if_pos q1, sb, if_pos q1, nI_1]
      rw [ew] at ih
      exact ih _ _ _ _ _ _
    · have ew : itr (gSend k c) (i + 1) b0 = (some (dst k.hs i), nI (dK (setGo k c (dst k.hs i)))) := if_neg q1
      rw [if_neg q1, sb, e_asTold h9, sb, sb, if_neg q1, nI_1]
      rw [ew] at ih
      exact ih _ _ _ _ _ _
theorem send_gd {k : Ka} {c : Nat} {b0 : Bst} (hk : kok k) (h : b0.2 = -1) : gd (itr (gSend k c) (k.hs + 1) b0) := by
  have k4 := hk.1
  have lt : ∀ i, dst k.hs i < 100 := fun i => by have := dst9 (i := i) k4; omega
  exact itr_gd (wg_gd0 h (lt 0) (by have := cnt_le (bgK (setGo k c (dst k.hs 0))) (setGo k c (dst k.hs 0)).hs; show cnt _ _ < _; have e : (setGo k c (dst k.hs 0)).hs = k.hs := rfl; omega)) _ (fun i b _ hb => wg_gd hb (lt i))
theorem p_send (s : SX) (t : TM) (x1 : Int32) (x2 : Int32) (hI : Inv s t) : ∃ (v : Int32 × Int32 × Int32 × Int32 × Int32 × Int32 × Int32 × Int32 × Int32 × (Nat → Int32) × (Nat → Int32) × (Nat → Int32) × (Nat → Int32) × (Nat → Int32) × Int32 × Int32 × (Nat → Int32) × (Nat → Int32)) (w : Int32 × Int32 × Int32 × Int32 × (Nat → Int32) × (Nat → Int32) × (Nat → Int32)), f_X11_send s.adv.1 s.adv.2 s.now.1 s.now.2.1 s.now.2.2.1 s.now.2.2.2.2.2.2.1 s.now.2.2.2.2.2.1 s.now.2.2.2.2.1 s.now.2.2.2.2.2.2.2 s.now.2.2.2.1 s.tri.1 s.tri.2.1 s.tri.2.2 s.tcy.1 s.tcy.2.1 s.tcy.2.2.1 s.tcy.2.2.2.2.2.2.1 s.tcy.2.2.2.2.2.1 s.tcy.2.2.2.2.1 s.tcy.2.2.2.2.2.2.2 s.tcy.2.2.2.1 s.evg.1 s.evg.2.1 s.evg.2.2.1 s.evg.2.2.2 x1 x2 = some v ∧ f_X12_send t.houses t.comers t.home t.dinners t.waited t.began t.begunBy t.now t.st x1 x2 = some w ∧ v.1 = w.1 ∧ Inv (s.torn, s.tape, s.rdr, s.drf, s.now, s.seen, (v.2.2.2.1, v.2.2.2.2.1, v.2.2.2.2.2.1), (v.2.2.2.2.2.2.1, v.2.2.2.2.2.2.2.1, v.2.2.2.2.2.2.2.2.1, v.2.2.2.2.2.2.2.2.2.2.2.2.2.1, v.2.2.2.2.2.2.2.2.2.2.2.1, v.2.2.2.2.2.2.2.2.2.2.1, v.2.2.2.2.2.2.2.2.2.1, v.2.2.2.2.2.2.2.2.2.2.2.2.1), (v.2.2.2.2.2.2.2.2.2.2.2.2.2.2.1, v.2.2.2.2.2.2.2.2.2.2.2.2.2.2.2.1, v.2.2.2.2.2.2.2.2.2.2.2.2.2.2.2.2.1, v.2.2.2.2.2.2.2.2.2.2.2.2.2.2.2.2.2), (v.2.1, v.2.2.1), s.gss, s.im0, s.im1, s.sh0, s.sh1, s.sh2, s.sh3) ((t.st, w.2.2.2.2.2.2, t.isKept, t.houses, t.comers, t.draft, t.dHouses, t.dComers, t.highestHouse), t.m1, (w.2.1, w.2.2.2.2.1, w.2.2.2.2.2.1, w.2.2.1, w.2.2.2.1, t.beginSum, t.dinnerSum, t.allWays, t.hours), t.m3) := by
  obtain ⟨k, q, htw, eh, ec, hi⟩ := id hI.1
  obtain ⟨hk, hev, hC, hM, -⟩ := id htw
  have k4 := hk.1
  have k6 := hk.2.1
  have c1 : s.now.1 = nI k.hs := hC.1
  have c2 : s.now.2.1 = nI k.cm := hC.2.1
  have c3 : s.now.2.2.1 = nI k.ev := hC.2.2.1
  rcases ixc x1 (n := k.cm) (by omega) with hb | ⟨c, hc, rfl⟩
  · have a1 : f_X11_noComer s.now.2.1 x1 = some 1 := by rw [c2]; exact nc_bad (by omega) hb
    have a2 : f_X12_isComer t.comers x1 = some 0 := by rw [ec]; exact ic_bad (by omega) hb
    refine ex2 (-1) ?_ ?_ (fun _ _ => hI)
    · unfold f_X11_send; rw [a1, sb, if_neg n10]; exact ⟨_, rfl, rfl⟩
    · unfold f_X12_send; rw [a2, sb, if_pos rfl]; exact ⟨_, rfl, rfl⟩
  · have a1 : f_X11_noComer s.now.2.1 (nI c) = some 0 := by rw [c2]; exact nc_ok (by omega) hc
    have a2 : f_X12_isComer t.comers (nI c) = some 1 := by rw [ec]; exact ic_ok (by omega) hc
    rcases cases_in x2 (n := 1) (by decide) with hb | ⟨p, hp, rfl⟩
    · have d1 : f_X11_outside x2 1 = some 1 := ou_bad hb.1
      refine ex2 (-1) ?_ ?_ (fun _ _ => hI)
      · unfold f_X11_send; rw [a1, sb, if_pos rfl, d1, sb, if_neg n10]; exact ⟨_, rfl, rfl⟩
      · unfold f_X12_send; rw [a2, sb, if_neg n10, part_bad hb.2, sb, if_pos rfl]; exact ⟨_, rfl, rfl⟩
    · have d1 : f_X11_outside (nI p) 1 = some 0 := ou_ok (n := 1) rfl hp (by decide)
      have hC2 : relC (nI k.hs, nI k.cm, nI k.ev, s.now.2.2.2.1, s.now.2.2.2.2.1, s.now.2.2.2.2.2.1, s.now.2.2.2.2.2.2.1, s.now.2.2.2.2.2.2.2) k := ⟨rfl, rfl, rfl, hC.2.2.2⟩
      obtain ⟨r, r1, r2, r3⟩ := c_send (b0 := (none, -1)) hk hev hC2 hc (k.hs + 1) 0 400 s.tri.1 s.tri.2.1 s.tri.2.2 s.tcy.1 s.tcy.2.1 s.tcy.2.2.1 s.tcy.2.2.2.2.2.2.1 s.tcy.2.2.2.2.2.1 s.tcy.2.2.2.2.1 s.tcy.2.2.2.2.2.2.2 s.tcy.2.2.2.1 s.evg.1 s.evg.2.1 s.evg.2.2.1 s.evg.2.2.2 (by omega) (by omega)
      obtain ⟨u, u1, u2, u3⟩ := m_send (b0 := (none, -1)) hk hev hM hc (k.hs + 1) 0 400 t.home t.dinners t.waited t.began t.begunBy t.now (by omega) (by omega)
      have g := send_gd (c := c) (b0 := (none, -1)) hk rfl
      have r1 : L_X0_sendOne_7 (nI k.hs) (nI k.cm) (nI k.ev) s.now.2.2.2.2.2.2.1 s.now.2.2.2.2.2.1 s.now.2.2.2.2.1 s.now.2.2.2.2.2.2.2 s.now.2.2.2.1 (nI c) 400 0 (-4) (-1) s.tri.1 s.tri.2.1 s.tri.2.2 s.tcy.1 s.tcy.2.1 s.tcy.2.2.1 s.tcy.2.2.2.2.2.2.1 s.tcy.2.2.2.2.2.1 s.tcy.2.2.2.2.1 s.tcy.2.2.2.2.2.2.2 s.tcy.2.2.2.1 s.evg.1 s.evg.2.1 s.evg.2.2.1 s.evg.2.2.2 = some r := r1
      have u1 : L_X12_send_25 (nI k.hs) (nI k.cm) t.st (nI c) 400 (-1) 0 0 t.home t.dinners t.waited t.began t.begunBy t.now = some u := u1
      have r0 : f_X0_beginAt s.adv.1 s.adv.2 (-1) = some (-4, -1) := rfl
      refine ex2 (if p = 0 then op0 (itr (gSend k c) (k.hs + 1) (none, -1)).1 else (itr (gSend k c) (k.hs + 1) (none, -1)).2) ?_ ?_ (fun _ _ => hI)
      · unfold f_X11_send f_X0_sendOne
        rw [a1, sb, if_pos rfl, d1, sb, if_pos rfl, r0, sb]
        dsimp only
        rw [c1, c2, c3, r1, sb, sb]
        dsimp only
        rw [r2, r3, pod hp g, sb]
        exact ⟨_, rfl, rfl⟩
      · unfold f_X12_send
        rw [a2, sb, if_neg n10, part_ok hp, sb, if_neg n10, eh, ec, u1, sb]
        obtain rfl | rfl : p = 0 ∨ p = 1 := by omega
        · rw [if_pos (by decide)]; exact ⟨_, rfl, u3⟩
        · rw [if_neg (by decide)]; exact ⟨_, rfl, u2⟩
