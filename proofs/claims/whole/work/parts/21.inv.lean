/-! the county in numbers, and how each side holds it -/
abbrev Cty := Int32 × Int32 × Int32 × (Nat → Int32) × (Nat → Int32) × (Nat → Int32) × (Nat → Int32) × (Nat → Int32)
abbrev Sgt := Int32 × (Nat → Int32) × (Nat → Int32) × (Nat → Int32)
/-- (houses, comers, evening), lists, kinds, goes, comes, likings -/
abbrev Ka := (Nat × Nat × Nat) × (Nat → Nat) × (Nat → Nat) × (Nat → Nat) × (Nat → Nat) × (Nat → Nat → Nat)
abbrev Ka.hs (k : Ka) : Nat := k.1.1
abbrev Ka.cm (k : Ka) : Nat := k.1.2.1
abbrev Ka.ev (k : Ka) : Nat := k.1.2.2
abbrev Ka.ls (k : Ka) : Nat → Nat := k.2.1
abbrev Ka.kd (k : Ka) : Nat → Nat := k.2.2.1
abbrev Ka.go (k : Ka) : Nat → Nat := k.2.2.2.1
abbrev Ka.co (k : Ka) : Nat → Nat := k.2.2.2.2.1
abbrev Ka.lk (k : Ka) : Nat → Nat → Nat := k.2.2.2.2.2
/-- seen: how many; behind, where, hours -/
abbrev Sa := Nat × (Nat → Nat) × (Nat → Nat) × (Nat → Nat)
def kok (k : Ka) : Prop := k.hs ≤ 4 ∧ k.cm ≤ 6 ∧ k.ev ≤ 2000 ∧ (∀ h, h < k.hs → k.ls h < 2 ^ k.cm) ∧ (∀ c, c < k.cm → k.kd c < 4 ∧ (k.go c < k.hs ∨ k.go c = 9) ∧ k.co c ≤ 6) ∧ ∀ h, h < k.hs → ∀ c, c < k.cm → k.lk h c ≤ 9
def relC (x : Cty) (k : Ka) : Prop := x.1 = nI k.hs ∧ x.2.1 = nI k.cm ∧ x.2.2.1 = nI k.ev ∧ (∀ h, h < k.hs → x.2.2.2.1 h = nI (k.ls h)) ∧ (∀ c, c < k.cm → x.2.2.2.2.1 c = nI (k.kd c) ∧ x.2.2.2.2.2.1 c = nI (k.go c) ∧ x.2.2.2.2.2.2.1 c = nI (k.co c)) ∧ ∀ h, h < k.hs → ∀ c, c < k.cm → x.2.2.2.2.2.2.2 (6 * h + c) = nI (k.lk h c)
def goI (g : Nat) : Int32 := if g = 9 then -4 else nI g
def relM (a : Nat → Int32) (o : Nat) (k : Ka) : Prop := (∀ h, h < k.hs → a (o + h) = nI (k.ls h)) ∧ (∀ c, c < k.cm → a (o + 4 + 3 * c) = nI (k.kd c) ∧ a (o + 5 + 3 * c) = goI (k.go c) ∧ a (o + 6 + 3 * c) = nI (k.co c)) ∧ (∀ h, h < k.hs → ∀ c, c < k.cm → a (o + 22 + 6 * h + c) = nI (k.lk h c)) ∧ a (o + 46) = nI k.ev
def sok (n : Nat) (q : Sa) : Prop := q.1 ≤ 6 ∧ ∀ i, i < q.1 → q.2.1 i ≤ 9 ∧ q.2.2.1 i < n ∧ q.2.2.2 i ≤ 7
def relS (x : Sgt) (q : Sa) : Prop := x.1 = nI q.1 ∧ ∀ i, i < q.1 → x.2.1 i = nI (q.2.1 i) ∧ x.2.2.1 i = nI (q.2.2.1 i) ∧ x.2.2.2 i = nI (q.2.2.2 i)
def relSM (a : Nat → Int32) (o : Nat) (q : Sa) : Prop := a (o + 47) = nI q.1 ∧ ∀ i, i < q.1 → a (o + 48 + 3 * i) = nI (q.2.1 i) ∧ a (o + 49 + 3 * i) = nI (q.2.2.1 i) ∧ a (o + 50 + 3 * i) = nI (q.2.2.2 i)
/-- a county with what was seen there, on both sides, the reference's from o on -/
def two (x : Cty) (y : Sgt) (a : Nat → Int32) (o : Nat) (k : Ka) (q : Sa) : Prop := kok k ∧ k.ev ≤ 999 ∧ relC x k ∧ relM a o k ∧ sok k.hs q ∧ relS y q ∧ relSM a o q
abbrev Img := Int32 × Int32 × Int32 × Int32 × (Nat → Int32) × (Nat → Int32) × (Nat → Int32) × (Nat → Int32) × (Nat → Int32) × Int32 × (Nat → Int32) × (Nat → Int32) × (Nat → Int32)
abbrev Img.cty (x : Img) : Cty := (x.2.1, x.2.2.1, x.2.2.2.1, x.2.2.2.2.1, x.2.2.2.2.2.1, x.2.2.2.2.2.2.1, x.2.2.2.2.2.2.2.1, x.2.2.2.2.2.2.2.2.1)
abbrev Img.sgt (x : Img) : Sgt := (x.2.2.2.2.2.2.2.2.2.1, x.2.2.2.2.2.2.2.2.2.2.1, x.2.2.2.2.2.2.2.2.2.2.2.1, x.2.2.2.2.2.2.2.2.2.2.2.2)
def iImg (x : Img) (a : Nat → Int32) (o : Nat) (kp : Int32) (k : Ka) : Prop := (x.1 = 0 ∧ kp = 0) ∨ (x.1 = 1 ∧ kp = 1 ∧ ∃ (k2 : Ka) (q2 : Sa), k2.hs = k.hs ∧ k2.cm = k.cm ∧ two x.cty x.sgt a o k2 q2)
def iMain (x : Cty) (y : Sgt) (i0 i1 : Img) (a kp : Nat → Int32) (nh nc : Int32) : Prop := ∃ (k : Ka) (q : Sa), two x y a 0 k q ∧ nh = nI k.hs ∧ nc = nI k.cm ∧ iImg i0 a 66 (kp 0) k ∧ iImg i1 a 132 (kp 1) k
abbrev Sht := Int32 × Int32 × (Nat → Int32)
def iSht (x : Sht) (j : Nat) (ln sz cl : Nat → Int32) : Prop := (x.2.1 = -1 ∧ ln j = -4) ∨ ∃ n m : Nat, n ≤ 2 ∧ m ≤ 40 ∧ x.1 = nI n ∧ x.2.1 = nI m ∧ ln j = nI n ∧ sz j = nI m ∧ ∀ i, i < m → x.2.2 i = cl (40 * j + i)
def iTape (x : Int32 × (Nat → Int32)) (n : Int32) (a : Nat → Int32) : Prop := ∃ m : Nat, m ≤ 160 ∧ x.1 = nI m ∧ n = nI m ∧ ∀ i, i < m → x.2 i = a i ∧ ∃ b : Nat, b < 128 ∧ a i = nI b
def Inv (s : SX) (t : TM) : Prop := iMain s.now s.seen s.im0 s.im1 t.st t.isKept t.houses t.comers ∧ (iSht s.sh0 0 t.lanes t.sizes t.cells ∧ iSht s.sh1 1 t.lanes t.sizes t.cells ∧ iSht s.sh2 2 t.lanes t.sizes t.cells ∧ iSht s.sh3 3 t.lanes t.sizes t.cells) ∧ iTape s.tape t.taped t.tape ∧ s.rdr.1 = t.fault ∧ s.torn = t.torn
/-! the checks of arguments -/
theorem ou_bad {x k : Int32} (h : x < 0 ∨ k < x) : f_X11_outside x k = some 1 := by rw [e_outside, if_pos h]
theorem ou_ok {j n : Nat} {k : Int32} (hk : k = nI n) (h : j ≤ n) (hn : n < 2147483647) : f_X11_outside (nI j) k = some 0 := by rw [hk, e_outside, if_neg (nI_inR h hn).1]
theorem in_bad {x : Int32} {n : Nat} {hi : Int64} (hhi : hi = (nI n).toInt64) (h : ¬ (0 ≤ x ∧ x ≤ nI n)) : f_X12_in x.toInt64 0 hi = some 0 := by
  have e : f_X12_in x.toInt64 0 (nI n).toInt64 = some (if 0 ≤ x ∧ x ≤ nI n then 1 else 0) := e_in x 0 (nI n)
  rw [hhi, e, if_neg h]
theorem in_ok {j n : Nat} {hi : Int64} (hhi : hi = (nI n).toInt64) (h : j ≤ n) (hn : n < 2147483647) : f_X12_in (nI j).toInt64 0 hi = some 1 := by
  have e : f_X12_in (nI j).toInt64 0 (nI n).toInt64 = some (if 0 ≤ nI j ∧ nI j ≤ nI n then 1 else 0) := e_in (nI j) 0 (nI n)
  rw [hhi, e, if_pos (nI_inR h hn).2]
theorem i10 : ((1 : Int32) = 0) = False := eq_false (by decide)
theorem i00 : ((0 : Int32) = 0) = True := eq_true rfl
theorem ix_bad {x : Int32} {n : Nat} (hn : n < 2147483647) (h : x < 0 ∨ nI n ≤ x) : ¬ (0 ≤ x ∧ x < nI n) := by
  rintro ⟨a, b⟩
  have a1 := Int32.le_iff_toInt_le.mp a
  have b1 := Int32.lt_iff_toInt_lt.mp b
  rcases h with h | h
  · have := Int32.lt_iff_toInt_lt.mp h
    omega
  · have := Int32.le_iff_toInt_le.mp h
    omega
theorem nh_bad {x : Int32} {n : Nat} (hn : n < 2147483647) (h : x < 0 ∨ nI n ≤ x) : f_X11_noHouse (nI n) x = some 1 := by
  unfold f_X11_noHouse
  by_cases h1 : x < 0
  · rw [if_pos h1]
  · rw [if_neg h1, if_neg]
    exact fun q => ix_bad hn h ⟨Int32.not_lt.mp h1, q⟩
theorem nh_ok {j n : Nat} (hn : n < 2147483647) (h : j < n) : f_X11_noHouse (nI n) (nI j) = some 0 := by
  unfold f_X11_noHouse
  rw [if_neg (nI_pos (by omega)), if_pos (nI_lt h (by omega))]
theorem nc_bad {x : Int32} {n : Nat} (hn : n < 2147483647) (h : x < 0 ∨ nI n ≤ x) : f_X11_noComer (nI n) x = some 1 := nh_bad hn h
theorem nc_ok {j n : Nat} (hn : n < 2147483647) (h : j < n) : f_X11_noComer (nI n) (nI j) = some 0 := nh_ok hn h
theorem ih_bad {x : Int32} {n : Nat} (hn : n < 1000) (h : x < 0 ∨ nI n ≤ x) : f_X12_isHouse (nI n) x = some 0 := by
  unfold f_X12_isHouse
  have e : ¬ (0 ≤ x ∧ x ≤ nI n - 1) := by
    rintro ⟨a, b⟩
    apply ix_bad (by omega) h
    refine ⟨a, ?_⟩
    rw [Int32.lt_iff_toInt_lt, nI_toInt (by omega)]
    have b1 := Int32.le_iff_toInt_le.mp b
    have e1 : (nI n - nI 1).toInt = (n : Int) - 1 := pk_sub_toInt (by omega) (by omega)
    have e2 : (nI n - 1).toInt = (n : Int) - 1 := e1
    omega
  have e3 : f_X12_in x.toInt64 0 (nI n - 1).toInt64 = some (if 0 ≤ x ∧ x ≤ nI n - 1 then 1 else 0) := e_in x 0 (nI n - 1)
  rw [e3, if_neg e]
  rfl
theorem ih_ok {j n : Nat} (hn : n < 1000) (h : j < n) : f_X12_isHouse (nI n) (nI j) = some 1 := by
  unfold f_X12_isHouse
  have e : nI n - 1 = nI (n - 1) := pk_sub (a := n) (b := 1) (by omega)
  rw [e, in_ok (n := n - 1) rfl (by omega) (by omega)]
  rfl
theorem ic_bad {x : Int32} {n : Nat} (hn : n < 1000) (h : x < 0 ∨ nI n ≤ x) : f_X12_isComer (nI n) x = some 0 := ih_bad hn h
theorem ic_ok {j n : Nat} (hn : n < 1000) (h : j < n) : f_X12_isComer (nI n) (nI j) = some 1 := ih_ok hn h
theorem sb {α β : Type} (a : α) (f : α → Option β) : (some a).bind f = f a := rfl
theorem p_torn (s : SX) (t : TM) (hI : Inv s t) : ∃ (v : Int32) (w : Int32), f_X11_torn s.torn = some v ∧ f_X12_torn t.torn = some w ∧ v = w ∧ Inv (s.torn, s.tape, s.rdr, s.drf, s.now, s.seen, s.tri, s.tcy, s.evg, s.adv, s.gss, s.im0, s.im1, s.sh0, s.sh1, s.sh2, s.sh3) (t.m0, t.m1, t.m2, t.m3) := ⟨_, _, rfl, rfl, hI.2.2.2.2, hI⟩
theorem p_fault (s : SX) (t : TM) (hI : Inv s t) : ∃ (v : Int32) (w : Int32), f_X11_fault s.rdr.1 = some v ∧ f_X12_fault t.fault = some w ∧ v = w ∧ Inv (s.torn, s.tape, s.rdr, s.drf, s.now, s.seen, s.tri, s.tcy, s.evg, s.adv, s.gss, s.im0, s.im1, s.sh0, s.sh1, s.sh2, s.sh3) (t.m0, t.m1, t.m2, t.m3) := ⟨_, _, rfl, rfl, hI.2.2.2.1, hI⟩
