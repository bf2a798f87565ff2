theorem alt_c {st : Nat → Int32} {k : Ka} {x y : Int32} (hk : kok k) (hb : x < 0 ∨ nI k.cm ≤ x) : f_X12_alter (nI k.hs) (nI k.cm) st x 1 y = some (-1, st) := by
  have k4 := hk.1
  have k6 := hk.2.1
  have a2 : f_X12_isComer (nI k.cm) x = some 0 := ic_bad (by omega) hb
  unfold f_X12_alter
  rw [if_neg (by decide), if_pos rfl, a2]
  by_cases q : y = 9
  · rw [if_pos q, sb, sb, if_pos rfl]
  · rw [if_neg q]
    rcases ixc y (n := k.hs) (by omega) with hb | ⟨h, hh, rfl⟩
    · rw [ih_bad (by omega) hb]; rfl
    · rw [ih_ok (by omega) hh]; rfl
theorem alt_d {st : Nat → Int32} {k : Ka} {c : Nat} {y : Int32} (hk : kok k) (hc : c < k.cm) (hb : ¬ y = 9 ∧ (y < 0 ∨ nI k.hs ≤ y)) : f_X12_alter (nI k.hs) (nI k.cm) st (nI c) 1 y = some (-1, st) := by
  have k4 := hk.1
  have k6 := hk.2.1
  unfold f_X12_alter
  rw [if_neg (by decide), if_pos rfl, if_neg hb.1, ih_bad (by omega) hb.2, sb, if_pos rfl, sb, ic_ok (by omega) hc, sb, if_neg n10, if_pos rfl]
theorem alt_o {st : Nat → Int32} {k : Ka} {c g : Nat} (hk : kok k) (hc : c < k.cm) (hg : g < k.hs ∨ g = 9) : f_X12_alter (nI k.hs) (nI k.cm) st (nI c) 1 (nI g) = some (st (0 + 5 + 3 * c), upd st (0 + 5 + 3 * c) (goI g)) := by
  have k4 := hk.1
  have k6 := hk.2.1
  have e5 : (4 + 3 * nI c + 1 : Int32) = nI (0 + 5 + 3 * c) := by
    have : (4 + 3 * nI c + nI 1 : Int32) = nI (4 + 3 * c + 1) := ix_of
    exact this.trans (congrArg nI (by omega))
  unfold f_X12_alter
  have e7 : (if nI g = 9 then some 1 else (f_X12_isHouse (nI k.hs) (nI g)).bind fun v7 => if v7 = 0 then some 0 else some 1 : Option Int32) = some 1 := by
    rcases hg with hg | hg
    · rw [if_neg (show ¬ nI g = 9 from fun z => by have := (nI_eq (b := 9) (by omega) (by omega)).mp z; omega), ih_ok (by omega) hg]; rfl
    · rw [hg]; rfl
  rw [if_neg (by decide), if_pos rfl, e7, sb, ic_ok (by omega) hc, sb, if_neg n10, if_neg n10, if_pos rfl, e_asKept (by omega), sb, sb, e5, e_becomes (by omega), sb]
theorem goI_m1 (g : Nat) (h : g ≤ 9) : ¬ goI g = -1 := by
  unfold goI
  split
  · decide
  · intro e
    have := congrArg Int32.toInt e
    rw [nI_toInt (by omega)] at this
    have e2 : (-1 : Int32).toInt = -1 := by decide
    omega
theorem l_read26 {st bf : Nat → Int32} : ∃ b : Nat → Int32, L_X12_read_26 st 400 0 bf = some b ∧ ∀ j, j < 66 → b j = st j := by
  have st1 : ∀ f c (s : Nat → Int32), c < 66 → (∀ i, i < c → s i = st i) → ∃ s' : Nat → Int32, (∀ i, i < c + 1 → s' i = st i) ∧ L_X12_read_26 st (f + 1) (nI c) s = L_X12_read_26 st f (nI (c + 1)) s' := fun f c s hc h => by
    refine ⟨upd s c (st c), fun i hi => ?_, ?_⟩
    · rw [upd_at]
      by_cases e : i = c
      · rw [if_pos e, e]
      · rw [if_neg e]; exact h i (by omega)
    · rw [L_X12_read_26, if_neg (show ¬ (66 : Int32) ≤ nI c from nI_ge (b := 66) hc (by omega)), if_pos (inb_nI (by omega) (by omega)), if_pos (inb_nI (by omega) (by omega)), ix_nI (by omega), nI_1]
  exact lpP (L := fun f s c => L_X12_read_26 st f c s) (n := 66) (P := fun c s => ∀ i, i < c → s i = st i) (Q := fun b => ∀ i, i < 66 → b i = st i) (by omega) (fun f s h => ⟨s, by show L_X12_read_26 st (f + 1) (nI 66) s = _; rw [L_X12_read_26, if_pos (show (66 : Int32) ≤ nI 66 by decide)], h⟩) st1 (s0 := bf) (fun i hi => absurd hi (Nat.not_lt_zero i))
theorem l_read210 {v y : Nat → Int32} : ∃ b : Nat → Int32, L_X12_read_210 v 400 0 y = some b ∧ (∀ j, j < 66 → b j = v j) ∧ ∀ j, 66 ≤ j → b j = y j := by
  have st1 : ∀ f c (s : Nat → Int32), c < 66 → ((∀ i, i < c → s i = v i) ∧ ∀ j, 66 ≤ j → s j = y j) → ∃ s' : Nat → Int32, ((∀ i, i < c + 1 → s' i = v i) ∧ ∀ j, 66 ≤ j → s' j = y j) ∧ L_X12_read_210 v (f + 1) (nI c) s = L_X12_read_210 v f (nI (c + 1)) s' := fun f c s hc h => by
    refine ⟨upd s c (v c), ⟨fun i hi => ?_, fun j hj => (upd_ne (by omega)).trans (h.2 j hj)⟩, ?_⟩
    · rw [upd_at]
      by_cases e : i = c
      · rw [if_pos e, e]
      · rw [if_neg e]; exact h.1 i (by omega)
    · rw [L_X12_read_210, if_neg (show ¬ (66 : Int32) ≤ nI c from nI_ge (b := 66) hc (by omega)), if_pos (inb_nI (by omega) (by omega)), if_pos (inb_nI (by omega) (by omega)), ix_nI (by omega), nI_1]
  exact lpP (L := fun f s c => L_X12_read_210 v f c s) (n := 66) (P := fun c s => (∀ i, i < c → s i = v i) ∧ ∀ j, 66 ≤ j → s j = y j) (Q := fun b => (∀ i, i < 66 → b i = v i) ∧ ∀ j, 66 ≤ j → b j = y j) (by omega) (fun f s h => ⟨s, by show L_X12_read_210 v (f + 1) (nI 66) s = _; rw [L_X12_read_210, if_pos (show (66 : Int32) ≤ nI 66 by decide)], h⟩) st1 (s0 := y) ⟨fun i hi => absurd hi (Nat.not_lt_zero i), fun _ _ => rfl⟩
-- the fault of a pair
theorem r77_n {ln sz : Nat → Int32} {j : Nat} {x2 x3 y : Int32} (hj : j < 4) (h : ln j = -4) : L_X12_read_77 ln sz (nI j) x2 x3 y 400 0 0 = some 1 := by
  have i4 : inb (nI j) 4 := inb_nI hj (by omega)
  have e : ln (ix (nI j)) = -4 := by rw [ix_nI (by omega)]; exact h
  rw [L_X12_read_77, if_neg (by decide), if_pos rfl, if_pos i4, if_pos e, L_X12_read_77, if_neg (by decide), if_neg n10]
theorem r77_l {ln sz : Nat → Int32} {j n : Nat} {x2 x3 y : Int32} (hj : j < 4) (h : ln j = nI n) (hn : n ≤ 2) (h2 : ¬ nI n = x2) : L_X12_read_77 ln sz (nI j) x2 x3 y 400 0 0 = some 3 := by
  have i4 : inb (nI j) 4 := inb_nI hj (by omega)
  have e : ln (ix (nI j)) = nI n := by rw [ix_nI (by omega)]; exact h
  rw [L_X12_read_77, if_neg (by decide), if_pos rfl, if_pos i4, if_neg (show ¬ ln (ix (nI j)) = -4 from by rw [e]; exact nI_n4 (by omega)), if_pos i4, if_neg (show ¬ ln (ix (nI j)) = x2 from by rw [e]; exact h2), L_X12_read_77, if_neg (by decide), if_neg (by decide)]
/-- one look at a cell -/
theorem r77_1 {ln sz : Nat → Int32} {j n m f : Nat} {x3 y z : Int32} {z2 : Int32} (hj : j < 4) (h : ln j = nI n) (hn : n ≤ 2) (hs : sz j = nI m) (hz : ¬ 2 ≤ z) : L_X12_read_77 ln sz (nI j) (nI n) x3 y (f + 1) 0 z = L_X12_read_77 ln sz (nI j) (nI n) x3 y f (if x3.toInt64 + (2 * y).toInt64 + z.toInt64 < 0 then 2 else if x3.toInt64 + (2 * y).toInt64 + z.toInt64 < (nI m).toInt64 then 0 else 2) (z + 1) := by
  have i4 : inb (nI j) 4 := inb_nI hj (by omega)
  have x4 : ix (nI j) = j := ix_nI (by omega)
  have e : ln (ix (nI j)) = nI n := by rw [x4]; exact h
  rw [L_X12_read_77, if_neg hz, if_pos rfl, if_pos i4, if_neg (show ¬ ln (ix (nI j)) = -4 from by rw [e]; exact nI_n4 (by omega)), if_pos i4, if_pos e, if_pos i4, x4, hs]
  by_cases q1 : x3.toInt64 + (2 * y).toInt64 + z.toInt64 < 0
  · rw [if_pos (lg_lt.mpr q1), if_pos q1]
  · rw [if_neg (fun z => q1 (lg_lt.mp z)), if_neg q1]
    by_cases q2 : x3.toInt64 + (2 * y).toInt64 + z.toInt64 < (nI m).toInt64
    · rw [if_pos (lg_lt.mpr q2), if_pos q2]
    · rw [if_neg (fun z => q2 (lg_lt.mp z)), if_neg q2]
theorem r77_b {ln sz : Nat → Int32} {j n m : Nat} {x3 : Int32} (hj : j < 4) (h : ln j = nI n) (hn : n ≤ 2) (hs : sz j = nI m) (hm : m ≤ 40) (hb : x3 < 0 ∨ nI m ≤ x3) : L_X12_read_77 ln sz (nI j) (nI n) x3 0 400 0 0 = some 2 := by
  have e0 : x3.toInt64 + (2 * (0 : Int32)).toInt64 + (0 : Int32).toInt64 = x3.toInt64 := by
    rw [show (2 * (0 : Int32)).toInt64 = 0 by decide, show (0 : Int32).toInt64 = 0 by decide, Int64.add_zero, Int64.add_zero]
  rw [r77_1 (z2 := 0) hj h hn hs (by decide), e0]
  have e1 : (if x3.toInt64 < 0 then 2 else if x3.toInt64 < (nI m).toInt64 then 0 else 2 : Int32) = 2 := by
    rcases hb with hb | hb
    · have q : x3.toInt64 < 0 := by rw [show (0 : Int64) = (0 : Int32).toInt64 by decide]; exact i64_lt.mpr hb
      rw [if_pos q]
    · have : ¬ x3.toInt64 < (nI m).toInt64 := fun z => Int32.not_lt.mpr hb (i64_lt.mp z)
      rw [if_neg this]
      split <;> rfl
  rw [e1, L_X12_read_77, if_neg (by decide), if_neg (by decide)]
theorem r77_e {ln sz : Nat → Int32} {j n m e i : Nat} (hj : j < 4) (h : ln j = nI n) (hn : n ≤ 2) (hs : sz j = nI m) (hm : m ≤ 40) (he : e < 100) (hi : i < 100) : L_X12_read_77 ln sz (nI j) (nI n) (nI e) (nI i) 400 0 0 = some (if e + 2 * i + 1 < m then 0 else 2) := by
  have s0 : ∀ z, z < 2 → (nI e).toInt64 + (2 * nI i).toInt64 + (nI z).toInt64 = lN (e + 2 * i + z) := fun z hz => by
    rw [show (2 : Int32) = nI 2 from rfl, pk_mul, nI_l (by omega), nI_l (by omega), nI_l (by omega), lN_add, lN_add]
  have s1 : ∀ z, z < 2 → (if (nI e).toInt64 + (2 * nI i).toInt64 + (nI z).toInt64 < 0 then 2 else if (nI e).toInt64 + (2 * nI i).toInt64 + (nI z).toInt64 < (nI m).toInt64 then 0 else 2 : Int32) = if e + 2 * i + z < m then 0 else 2 := fun z hz => by
    rw [s0 z hz, if_neg (show ¬ lN (e + 2 * i + z) < 0 from fun q => by have := (pk_lLT (b := 0) (by omega) (by omega)).mp q; omega), nI_l (by omega)]
    by_cases q : e + 2 * i + z < m
    · rw [if_pos ((pk_lLT (by omega) (by omega)).mpr q), if_pos q]
    · rw [if_neg (fun w => q ((pk_lLT (by omega) (by omega)).mp w)), if_neg q]
  rw [r77_1 (z2 := 0) hj h hn hs (by decide)]
  have a0 := s1 0 (by omega)
  have a1 := s1 1 (by omega)
  rw [show (0 : Int32) = nI 0 from rfl] at *
  rw [a0]
  by_cases q : e + 2 * i + 0 < m
  · rw [if_pos q]
    show L_X12_read_77 ln sz (nI j) (nI n) (nI e) (nI i) (398 + 1) 0 1 = _
    rw [r77_1 (z2 := 0) hj h hn hs (by decide)]
    have a1 : (if (nI e).toInt64 + (2 * nI i).toInt64 + (1 : Int32).toInt64 < 0 then 2 else if (nI e).toInt64 + (2 * nI i).toInt64 + (1 : Int32).toInt64 < (nI m).toInt64 then 0 else 2 : Int32) = if e + 2 * i + 1 < m then 0 else 2 := a1
    rw [a1, L_X12_read_77, if_pos (by decide)]
    rfl
  · rw [if_neg q, if_neg (by omega), L_X12_read_77, if_neg (by decide), if_neg (by decide)]
theorem f2_e {l : Int32} {m e i : Nat} (hm : m ≤ 40) (he : e < 100) (hi : i < 100) : f_X6_faultOfTwo l (nI m) l (nI e + 2 * nI i) = some (if e + 2 * i + 1 < m then 0 else 2) := by
  have s0 : (nI e + 2 * nI i : Int32) = nI (e + 2 * i) := by rw [show (2 : Int32) = nI 2 from rfl, pk_mul, nI_add]
  unfold f_X6_faultOfTwo
  rw [s0, e_fA hm, sb, nI_1, e_fA hm]
  by_cases q : e + 2 * i < m
  · have c1 : 0 ≤ nI (e + 2 * i) ∧ nI (e + 2 * i) < nI m := ⟨nI_pos' (by omega), nI_lt q (by omega)⟩
    rw [if_pos c1, if_pos rfl, sb]
    by_cases q2 : e + 2 * i + 1 < m
    · have c2 : 0 ≤ nI (e + 2 * i + 1) ∧ nI (e + 2 * i + 1) < nI m := ⟨nI_pos' (by omega), nI_lt q2 (by omega)⟩
      rw [if_pos c2, if_pos q2]
    · have c2 : ¬ (0 ≤ nI (e + 2 * i + 1) ∧ nI (e + 2 * i + 1) < nI m) := fun z => nI_nlt (by omega) (by omega) z.2
      rw [if_neg c2, if_neg q2]
  · have c1 : ¬ (0 ≤ nI (e + 2 * i) ∧ nI (e + 2 * i) < nI m) := fun z => nI_nlt (by omega) (by omega) z.2
    rw [if_neg c1, if_neg (by decide), if_neg (show ¬ e + 2 * i + 1 < m by omega)]
theorem f2_b {l x3 : Int32} {m : Nat} (hm : m ≤ 40) (hb : x3 < 0 ∨ nI m ≤ x3) : f_X6_faultOfTwo l (nI m) l (x3 + 2 * 0) = some 2 := by
  have s0 : (x3 + 2 * 0 : Int32) = x3 := by rw [show (2 * 0 : Int32) = 0 by decide, Int32.add_zero]
  unfold f_X6_faultOfTwo
  rw [s0, e_fA hm, if_neg (ix_bad (by omega) hb), sb, if_neg (by decide)]
theorem f2_l {l x2 x3 : Int32} {m : Nat} (hm : m ≤ 40) (hb : ¬ l = x2) : f_X6_faultOfTwo l (nI m) x2 x3 = some 3 := by
  unfold f_X6_faultOfTwo f_X6_faultAt
  rw [nthing hm, sb, if_pos rfl, if_neg hb, sb, if_neg (by decide)]
theorem f2_n {l x2 x3 : Int32} : f_X6_faultOfTwo l (-1) x2 x3 = some 1 := rfl
theorem rd1 : @L_X11_read_54_1 = @L_X11_read_54 := by
  funext a1 a2 a3 a4 a5 a6 a7 a8 a9 a10 a11 a12 a13 a14 a15 a16 f
  induction f with
  | zero => funext a b c d; rfl
  | succ f ih => funext a b c d; rw [L_X11_read_54_1, L_X11_read_54, ih]
theorem rd2 : @L_X11_read_54_2 = @L_X11_read_54 := by
  funext a1 a2 a3 a4 a5 a6 a7 a8 a9 a10 a11 a12 a13 a14 a15 a16 f
  induction f with
  | zero => funext a b c d; rfl
  | succ f ih => funext a b c d; rw [L_X11_read_54_2, L_X11_read_54, ih]
theorem rd3 : @L_X11_read_54_3 = @L_X11_read_54 := by
  funext a1 a2 a3 a4 a5 a6 a7 a8 a9 a10 a11 a12 a13 a14 a15 a16 f
  induction f with
  | zero => funext a b c d; rfl
  | succ f ih => funext a b c d; rw [L_X11_read_54_3, L_X11_read_54, ih]
abbrev RdC := (Int32 × Int32 × Int32 × Int32 × Int32 × (Nat → Int32) × (Nat → Int32) × (Nat → Int32) × (Nat → Int32) × (Nat → Int32) × Int32 × Int32 × Int32 × Int32 × Int32 × Int32 × (Nat → Int32) × (Nat → Int32) × (Nat → Int32) × (Nat → Int32) × (Nat → Int32)) ⊕ (Int32 × Int32 × (Nat → Int32))
abbrev RdM := (Int32 × Int32 × (Nat → Int32) × (Nat → Int32)) ⊕ (Int32 × Int32 × (Nat → Int32))
/-- what the two readings come to -/
def rdE (x : Cty) (k : Ka) (to tm : Int32) (st v6 : Nat → Int32) (A : Option RdC) (B : Option RdM) : Prop :=
  (∃ (c F : Int32) (go' st' : Nat → Int32) (k' : Ka), A = some (.inr (c, F, go')) ∧ B = some (.inr (F, c, st')) ∧ kok k' ∧ k'.hs = k.hs ∧ k'.cm = k.cm ∧ k'.ev = k.ev ∧ relC (x.1, x.2.1, x.2.2.1, x.2.2.2.1, x.2.2.2.2.1, go', x.2.2.2.2.2.2.1, x.2.2.2.2.2.2.2) k' ∧ relM st' 0 k' ∧ ∀ j, 47 ≤ j → st' j = st j) ∨
  ∃ (r : Int32) (u : Int32 × Int32 × Int32 × Int32 × Int32 × Int32 × (Nat → Int32) × (Nat → Int32) × (Nat → Int32) × (Nat → Int32) × (Nat → Int32)) (st' : Nat → Int32), A = some (.inl (r, to, x.1, x.2.1, x.2.2.1, x.2.2.2.2.2.2.1, x.2.2.2.2.2.1, x.2.2.2.2.1, x.2.2.2.2.2.2.2, x.2.2.2.1, u)) ∧ B = some (.inl (r, tm, v6, st')) ∧ (∀ j, j < 66 → st' j = v6 j) ∧ ∀ j, 66 ≤ j → st' j = st j
theorem l_read {x : Cty} {k : Ka} {n m nl e j : Nat} {to tm : Int32} {cc cl ln sz st v6 : Nat → Int32} {v5 : Int32 × Int32 × Int32 × Int32 × Int32 × Int32 × (Nat → Int32) × (Nat → Int32) × (Nat → Int32) × (Nat → Int32) × (Nat → Int32)} (hx1 : x.1 = nI k.hs) (hx2 : x.2.1 = nI k.cm) (hj : j < 4) (hnl : nl ≤ 2) (hm : m ≤ 40) (he : e < m) (hn : n ≤ 20) (hln : ln j = nI nl) (hsz : sz j = nI m) (hcl : ∀ i, i < m → cc i = cl (40 * j + i)) :
    ∀ (q i f g : Nat) (k2 : Ka) (go st2 : Nat → Int32), i + q = n → q < f → q < g → kok k2 → k2.hs = k.hs → k2.cm = k.cm → k2.ev = k.ev → relC (x.1, x.2.1, x.2.2.1, x.2.2.2.1, x.2.2.2.2.1, go, x.2.2.2.2.2.2.1, x.2.2.2.2.2.2.2) k2 → relM st2 0 k2 → (∀ j, 47 ≤ j → st2 j = st j) →
      rdE x k to tm st v6 (L_X11_read_54 to x.1 x.2.1 x.2.2.1 x.2.2.2.2.2.2.1 x.2.2.2.2.2.1 x.2.2.2.2.1 x.2.2.2.2.2.2.2 x.2.2.2.1 (nI nl) (nI m) cc (nI nl) (nI e) (nI n) v5 f (nI i) 0 (nI i) go) (L_X12_read_62 (nI k.hs) (nI k.cm) tm cl ln sz (nI j) (nI nl) (nI e) (nI n) v6 g 0 (nI i) (nI i) st2) := by
  intro q
  induction q with
  | zero =>
    intro i f g k2 go st2 e1 hf hg hk s1 s2 s3 hC hM hs
    obtain ⟨f, rfl⟩ : ∃ f', f = f' + 1 := ⟨f - 1, by omega⟩
    obtain ⟨g, rfl⟩ : ∃ g', g = g' + 1 := ⟨g - 1, by omega⟩
    have e2 : i = n := by omega
    subst e2
    rw [L_X11_read_54, if_pos (nlt_le (by omega)), L_X12_read_62, if_pos (nlt_le (by omega))]
    exact Or.inl ⟨_, _, go, st2, k2, rfl, rfl, hk, s1, s2, s3, hC, hM, hs⟩
  | succ q ih =>
    intro i f g k2 go st2 e1 hf hg hk s1 s2 s3 hC hM hs
    obtain ⟨f, rfl⟩ : ∃ f', f = f' + 1 := ⟨f - 1, by omega⟩
    obtain ⟨g, rfl⟩ : ∃ g', g = g' + 1 := ⟨g - 1, by omega⟩
    have k4 := hk.1
    have k6 := hk.2.1
    rw [L_X11_read_54, if_neg (nI_ge (by omega) (by omega)), if_pos rfl, f2_e hm (by omega) (by omega), sb, L_X12_read_62, if_neg (nI_ge (by omega) (by omega)), if_pos rfl, r77_e hj hln hnl hsz hm (by omega) (by omega), sb]
    by_cases hq : e + 2 * i + 1 < m
    · have p0 : (nI e + 2 * nI i : Int32) = nI (e + 2 * i) := by rw [show (2 : Int32) = nI 2 from rfl, pk_mul, nI_add]
      have p1 : (40 * nI j + nI e + 2 * nI i : Int32) = nI (40 * j + (e + 2 * i)) := by rw [ix_40, show (2 : Int32) = nI 2 from rfl, pk_mul, nI_add]; exact congrArg nI (by omega)
      have p2 : (nI e + 2 * nI i + 1 : Int32) = nI (e + 2 * i + 1) := by rw [p0, nI_1]
      have p3 : (40 * nI j + nI e + 2 * nI i + 1 : Int32) = nI (40 * j + (e + 2 * i) + 1) := by rw [p1, nI_1]
      rw [if_pos hq, if_pos rfl, if_pos rfl, p2, p0, p3, p1, if_pos (inb_nI (by omega) (by omega)), if_pos (inb_nI (by omega) (by omega)), if_pos (inb_nI (by omega) (by omega)), if_pos (inb_nI (by omega) (by omega)), ix_nI (by omega), ix_nI (by omega), ix_nI (by omega), ix_nI (by omega), ← hcl (e + 2 * i) (by omega), show 40 * j + (e + 2 * i) + 1 = 40 * j + (e + 2 * i + 1) by omega, ← hcl (e + 2 * i + 1) (by omega)]
      generalize cc (e + 2 * i) = X
      generalize cc (e + 2 * i + 1) = Y
      rcases ixc X (n := k.cm) (by omega) with hb | ⟨c, hc, rfl⟩
      · obtain ⟨b, b1, b2, b3⟩ := l_read210 (v := v6) (y := st2)
        have a1 : f_X11_noComer x.2.1 X = some 1 := by rw [hx2]; exact nc_bad (by omega) hb
        have a2 := alt_c (st := st2) (y := Y) hk (by rw [s2]; exact hb)
        rw [s1, s2] at a2
        rw [a1, sb, if_neg n10, a2, sb, if_pos rfl, b1, sb]
        exact Or.inr ⟨_, _, b, rfl, rfl, b2, fun j hj => (b3 j hj).trans (hs j (by omega))⟩
      · have a1 : f_X11_noComer x.2.1 (nI c) = some 0 := by rw [hx2]; exact nc_ok (by omega) hc
        rw [a1, sb, if_pos rfl]
        rcases desc Y k4 with hb | ⟨d, hd, rfl⟩
        · obtain ⟨b, b1, b2, b3⟩ := l_read210 (v := v6) (y := st2)
          have a3 : f_X1_noDestination x.1 Y = some 1 := by rw [hx1, ← s1]; exact nd_bad k4 hb
          have a2 := alt_d (st := st2) (y := Y) hk (by rw [s2]; exact hc) hb
          rw [s1, s2] at a2
          rw [a3, sb, if_neg n10, a2, sb, if_pos rfl, b1, sb]
          exact Or.inr ⟨_, _, b, rfl, rfl, b2, fun j hj => (b3 j hj).trans (hs j (by omega))⟩
        · have a3 : f_X1_noDestination x.1 (nI d) = some 0 := by rw [hx1, ← s1]; exact nd_ok k4 hd
          have hc2 : c < k2.cm := by rw [s2]; exact hc
          have a2 := alt_o (st := st2) hk hc2 hd
          rw [s1, s2] at a2
          have g9 := go9 hk hc2
          have z : ¬ st2 (0 + 5 + 3 * c) = -1 := by rw [(hM.2.1 c hc2).2.1]; exact goI_m1 _ g9
          rw [a3, sb, if_pos rfl, if_pos (inb_nI (by omega) (by omega)), ix_nI (by omega), a2, sb, if_neg z, nI_1]
          exact ih (i + 1) f g (setGo k2 c d) (upd go c (nI d)) (upd st2 (0 + 5 + 3 * c) (goI d)) (by omega) (by omega) (by omega) (kok_go hk hd) s1 s2 s3 (relC_go hC) (relM_go hk hc2 hM) (fun j hj => (upd_ne (by omega)).trans (hs j hj))
    · rw [if_neg hq, if_neg (by decide), if_neg (by decide)]
      have fin : ∀ a b, rdE x k to tm st v6 (L_X11_read_54 to x.1 x.2.1 x.2.2.1 x.2.2.2.2.2.2.1 x.2.2.2.2.2.1 x.2.2.2.2.1 x.2.2.2.2.2.2.2 x.2.2.2.1 (nI nl) (nI m) cc (nI nl) (nI e) (nI n) v5 (a + 1) (nI i) 2 (nI i + 1) go) (L_X12_read_62 (nI k.hs) (nI k.cm) tm cl ln sz (nI j) (nI nl) (nI e) (nI n) v6 (b + 1) 2 (nI i) (nI i + 1) st2) := fun a b => by
        rw [L_X11_read_54, L_X12_read_62]
        refine Or.inl ⟨nI i, 2, go, st2, k2, ?_, ?_, hk, s1, s2, s3, hC, hM, hs⟩
        · split
          · rfl
          · rw [if_neg (by decide)]
        · split
          · rfl
          · rw [if_neg (by decide)]
      obtain ⟨f, rfl⟩ : ∃ f', f = f' + 1 := ⟨f - 1, by omega⟩
      obtain ⟨g, rfl⟩ : ∃ g', g = g' + 1 := ⟨g - 1, by omega⟩
      exact fin f g
/-- none is read, or the first is faulty -/
theorem l_read0 {x : Cty} {k : Ka} {n : Nat} {to tm F l z x1 x2 x3 : Int32} {cc cl ln sz st v6 : Nat → Int32} {v5 : Int32 × Int32 × Int32 × Int32 × Int32 × Int32 × (Nat → Int32) × (Nat → Int32) × (Nat → Int32) × (Nat → Int32) × (Nat → Int32)} (hk : kok k) (hC : relC x k) (hM : relM st 0 k) (hn : n ≤ 20) (hF : ¬ F = 0) (h1 : f_X6_faultOfTwo l z x2 (x3 + 2 * 0) = some F) (h2 : L_X12_read_77 ln sz x1 x2 x3 0 400 0 0 = some F) :
    rdE x k to tm st v6 (L_X11_read_54 to x.1 x.2.1 x.2.2.1 x.2.2.2.2.2.2.1 x.2.2.2.2.2.1 x.2.2.2.2.1 x.2.2.2.2.2.2.2 x.2.2.2.1 l z cc x2 x3 (nI n) v5 400 0 0 0 x.2.2.2.2.2.1) (L_X12_read_62 (nI k.hs) (nI k.cm) tm cl ln sz x1 x2 x3 (nI n) v6 400 0 0 0 st) := by
  by_cases q : n = 0
  · subst q
    rw [L_X11_read_54, L_X12_read_62, if_pos (by decide), if_pos (by decide)]
    exact Or.inl ⟨0, 0, x.2.2.2.2.2.1, st, k, rfl, rfl, hk, rfl, rfl, rfl, hC, hM, fun _ _ => rfl⟩
  · have n0 : ¬ nI n ≤ 0 := nI_nle (by omega) (by omega)
    rw [L_X11_read_54, L_X12_read_62, if_neg n0, if_neg n0, if_pos rfl, if_pos rfl, h1, h2, sb, sb, if_neg hF, if_neg hF, L_X11_read_54, L_X12_read_62]
    refine Or.inl ⟨0, F, x.2.2.2.2.2.1, st, k, ?_, ?_, hk, rfl, rfl, rfl, hC, hM, fun _ _ => rfl⟩
    · split
      · rfl
      · rfl
    · split
      · rfl
      · rfl
/-- a sheet is read, on both sides -/
theorem l_readS {x : Cty} {k : Ka} {n nl j : Nat} {to tm x3 : Int32} {sh : Sht} {cl ln sz st v6 : Nat → Int32} {v5 : Int32 × Int32 × Int32 × Int32 × Int32 × Int32 × (Nat → Int32) × (Nat → Int32) × (Nat → Int32) × (Nat → Int32) × (Nat → Int32)} (hk : kok k) (hC : relC x k) (hM : relM st 0 k) (hn : n ≤ 20) (hnl : nl ≤ 2) (hj : j < 4) (hs : iSht sh j ln sz cl) :
    rdE x k to tm st v6 (L_X11_read_54 to x.1 x.2.1 x.2.2.1 x.2.2.2.2.2.2.1 x.2.2.2.2.2.1 x.2.2.2.2.1 x.2.2.2.2.2.2.2 x.2.2.2.1 sh.1 sh.2.1 sh.2.2 (nI nl) x3 (nI n) v5 400 0 0 0 x.2.2.2.2.2.1) (L_X12_read_62 (nI k.hs) (nI k.cm) tm cl ln sz (nI j) (nI nl) x3 (nI n) v6 400 0 0 0 st) := by
  rcases hs with ⟨h1, h2⟩ | ⟨n1, m, h1, h2, h3, h4, h5, h6, h7⟩
  · exact l_read0 (F := 1) hk hC hM hn n10 (by rw [h1]; exact f2_n) (r77_n hj h2)
  · by_cases q : n1 = nl
    · subst q
      rcases ixc x3 (n := m) (by omega) with hb | ⟨e, he, rfl⟩
      · exact l_read0 (F := 2) hk hC hM hn (by decide) (by rw [h3, h4]; exact f2_b h2 hb) (r77_b hj h5 h1 h6 h2 hb)
      · rw [h3, h4]
        exact l_read hC.1 hC.2.1 hj h1 h2 he hn h5 h6 h7 n 0 400 400 k x.2.2.2.2.2.1 st (by omega) (by omega) (by omega) hk rfl rfl rfl hC hM (fun _ _ => rfl)
    · have q2 : ¬ nI n1 = nI nl := fun z => q ((nI_eq (by omega) (by omega)).mp z)
      exact l_read0 (F := 3) hk hC hM hn (by decide) (by rw [h3, h4]; exact f2_l h2 q2) (r77_l hj h5 h1 q2)
theorem p_read (s : SX) (t : TM) (x1 : Int32) (x2 : Int32) (x3 : Int32) (x4 : Int32) (hI : Inv s t) : ∃ (v : Int32 × Int32 × Int32 × Int32 × Int32 × (Nat → Int32) × (Nat → Int32) × (Nat → Int32) × (Nat → Int32) × (Nat → Int32) × Int32 × Int32 × Int32 × Int32 × Int32 × Int32 × (Nat → Int32) × (Nat → Int32) × (Nat → Int32) × (Nat → Int32) × (Nat → Int32)) (w : Int32 × Int32 × (Nat → Int32) × (Nat → Int32)), f_X11_read s.torn s.now.1 s.now.2.1 s.now.2.2.1 s.now.2.2.2.2.2.2.1 s.now.2.2.2.2.2.1 s.now.2.2.2.2.1 s.now.2.2.2.2.2.2.2 s.now.2.2.2.1 s.sh0.1 s.sh0.2.1 s.sh0.2.2 s.sh1.1 s.sh1.2.1 s.sh1.2.2 s.sh2.1 s.sh2.2.1 s.sh2.2.2 s.sh3.1 s.sh3.2.1 s.sh3.2.2 s.tri.1 s.tri.2.1 s.tri.2.2 s.tcy.1 s.tcy.2.1 s.tcy.2.2.1 s.tcy.2.2.2.2.2.2.1 s.tcy.2.2.2.2.2.1 s.tcy.2.2.2.2.1 s.tcy.2.2.2.2.2.2.2 s.tcy.2.2.2.1 x1 x2 x3 x4 = some v ∧ f_X12_read t.houses t.comers t.torn t.before t.cells t.lanes t.sizes t.st x1 x2 x3 x4 = some w ∧ v.1 = w.1 ∧ Inv (v.2.1, s.tape, s.rdr, s.drf, (v.2.2.1, v.2.2.2.1, v.2.2.2.2.1, v.2.2.2.2.2.2.2.2.2.1, v.2.2.2.2.2.2.2.1, v.2.2.2.2.2.2.1, v.2.2.2.2.2.1, v.2.2.2.2.2.2.2.2.1), s.seen, (v.2.2.2.2.2.2.2.2.2.2.1, v.2.2.2.2.2.2.2.2.2.2.2.1, v.2.2.2.2.2.2.2.2.2.2.2.2.1), (v.2.2.2.2.2.2.2.2.2.2.2.2.2.1, v.2.2.2.2.2.2.2.2.2.2.2.2.2.2.1, v.2.2.2.2.2.2.2.2.2.2.2.2.2.2.2.1, v.2.2.2.2.2.2.2.2.2.2.2.2.2.2.2.2.2.2.2.2, v.2.2.2.2.2.2.2.2.2.2.2.2.2.2.2.2.2.2.1, v.2.2.2.2.2.2.2.2.2.2.2.2.2.2.2.2.2.1, v.2.2.2.2.2.2.2.2.2.2.2.2.2.2.2.2.1, v.2.2.2.2.2.2.2.2.2.2.2.2.2.2.2.2.2.2.2.1), s.evg, s.adv, s.gss, s.im0, s.im1, s.sh0, s.sh1, s.sh2, s.sh3) ((w.2.2.2, t.now, t.isKept, t.houses, t.comers, t.draft, t.dHouses, t.dComers, t.highestHouse), t.m1, t.m2, (t.byKind, t.lanes, t.sizes, t.cells, w.2.1, w.2.2.1)) := by
  obtain ⟨⟨k, q, htw, eh, ec, hi0, hi1⟩, ⟨hs0, hs1, hs2, hs3⟩, ht, hf, hto⟩ := id hI
  obtain ⟨hk, hev, hC, hM, hso, hS, hSM⟩ := id htw
  rcases cases_in x1 (n := 3) (by decide) with hb | ⟨j, hj, rfl⟩
  · have d1 : f_X11_outside x1 3 = some 1 := ou_bad hb.1
    apply ex3
    · unfold f_X11_read; rw [d1, sb, if_neg n10]
    · unfold f_X12_read; rw [is_bad1 hb.2, sb, if_pos rfl]
    · rfl
    · exact hI
  · have d1 : f_X11_outside (nI j) 3 = some 0 := ou_ok (n := 3) rfl hj (by omega)
    rcases cases_in x2 (n := 2) (by decide) with hb | ⟨nl, hnl, rfl⟩
    · have d2 : f_X11_outside x2 2 = some 1 := ou_bad hb.1
      apply ex3
      · unfold f_X11_read; rw [d1, sb, if_pos rfl, d2, sb, if_neg n10]
      · unfold f_X12_read; rw [is_bad2 hj hb.2, sb, if_pos rfl]
      · rfl
      · exact hI
    · have d2 : f_X11_outside (nI nl) 2 = some 0 := ou_ok (n := 2) rfl hnl (by omega)
      have d3 := is_ok hj hnl
      rcases cases_in x4 (n := 20) (by decide) with hb | ⟨n, hn, rfl⟩
      · have d4 : f_X11_outside x4 20 = some 1 := ou_bad hb.1
        have d5 : f_X12_in x4.toInt64 0 20 = some 0 := in_bad (n := 20) rfl hb.2
        apply ex3
        · unfold f_X11_read; rw [d1, sb, if_pos rfl, d2, sb, if_pos rfl, d4, sb, if_neg n10]
        · unfold f_X12_read; rw [d3, sb, if_neg n10, d5, sb, if_pos rfl]
        · rfl
        · exact hI
      · have d4 : f_X11_outside (nI n) 20 = some 0 := ou_ok (n := 20) rfl hn (by omega)
        have d5 : f_X12_in (nI n).toInt64 0 20 = some 1 := in_ok (n := 20) rfl hn (by decide)
        obtain ⟨v6, l1, l2⟩ := l_read26 (st := t.st) (bf := t.before)
        have rs : ∀ e w f a b c r1 r2 r3 r4 r5, f_X10_restart e w f a b c r1 r2 r3 r4 r5 s.now.1 s.now.2.1 s.now.2.2.1 s.now.2.2.2.2.2.2.1 s.now.2.2.2.2.2.1 s.now.2.2.2.2.1 s.now.2.2.2.2.2.2.2 s.now.2.2.2.1 = some (0, 0, -4, s.now.1, s.now.2.1, s.now.2.2.1, s.now.2.2.2.2.2.2.1, s.now.2.2.2.2.2.1, s.now.2.2.2.2.1, s.now.2.2.2.2.2.2.2, s.now.2.2.2.1) := fun _ _ _ _ _ _ _ _ _ _ _ => rfl
        obtain rfl | rfl | rfl | rfl : j = 0 ∨ j = 1 ∨ j = 2 ∨ j = 3 := by omega
        · have key := l_readS (to := s.torn) (tm := t.torn) (x3 := x3) (v6 := v6) (v5 := (0, 0, -4, s.now.1, s.now.2.1, s.now.2.2.1, s.now.2.2.2.2.2.2.1, s.now.2.2.2.2.2.1, s.now.2.2.2.2.1, s.now.2.2.2.2.2.2.2, s.now.2.2.2.1)) hk hC hM hn hnl (by omega) hs0
          rcases key with ⟨c, F, go', st', k', k1, k2, k3, k5, k6, k7, k8, k9, k10⟩ | ⟨r, u, st', k1, k2, k3, k4⟩
          · apply ex3
            · unfold f_X11_read; rw [d1, sb, if_pos rfl, d2, sb, if_pos rfl, d4, sb, if_pos rfl, if_pos (by decide), rs, sb, k1, sb]; rfl
            · unfold f_X12_read; rw [d3, sb, if_neg n10, d5, sb, if_neg n10, l1, sb, eh, ec, k2, sb]; rfl
            · rfl
            · exact ⟨iM_set htw eh ec hi0 hi1 k3 (by rw [k7]; exact hev) k8 k9 k5 k6 k10, ⟨hs0, hs1, hs2, hs3⟩, ht, hf, rfl⟩
          · apply ex3
            · unfold f_X11_read; rw [d1, sb, if_pos rfl, d2, sb, if_pos rfl, d4, sb, if_pos rfl, if_pos (by decide), rs, sb, k1, sb]; rfl
            · unfold f_X12_read; rw [d3, sb, if_neg n10, d5, sb, if_neg n10, l1, sb, eh, ec, k2, sb]; rfl
            · rfl
            · have e9 : ∀ j, st' j = t.st j := fun j => by
                rcases Nat.lt_or_ge j 66 with h | h
                · exact (k3 j h).trans (l2 j h)
                · exact k4 j h
              exact ⟨iM_set htw eh ec hi0 hi1 hk hev hC (relM_at hk hM (fun j _ => e9 _)) rfl rfl (fun j _ => e9 j), ⟨hs0, hs1, hs2, hs3⟩, ht, hf, hto⟩
        · have key := l_readS (to := s.torn) (tm := t.torn) (x3 := x3) (v6 := v6) (v5 := (0, 0, -4, s.now.1, s.now.2.1, s.now.2.2.1, s.now.2.2.2.2.2.2.1, s.now.2.2.2.2.2.1, s.now.2.2.2.2.1, s.now.2.2.2.2.2.2.2, s.now.2.2.2.1)) hk hC hM hn hnl (by omega) hs1
          rcases key with ⟨c, F, go', st', k', k1, k2, k3, k5, k6, k7, k8, k9, k10⟩ | ⟨r, u, st', k1, k2, k3, k4⟩
          · apply ex3
            · unfold f_X11_read; rw [d1, sb, if_pos rfl, d2, sb, if_pos rfl, d4, sb, if_pos rfl, if_neg (by decide), if_pos (by decide), rs, sb, rd1, k1, sb]; rfl
            · unfold f_X12_read; rw [d3, sb, if_neg n10, d5, sb, if_neg n10, l1, sb, eh, ec, k2, sb]; rfl
            · rfl
            · exact ⟨iM_set htw eh ec hi0 hi1 k3 (by rw [k7]; exact hev) k8 k9 k5 k6 k10, ⟨hs0, hs1, hs2, hs3⟩, ht, hf, rfl⟩
          · apply ex3
            · unfold f_X11_read; rw [d1, sb, if_pos rfl, d2, sb, if_pos rfl, d4, sb, if_pos rfl, if_neg (by decide), if_pos (by decide), rs, sb, rd1, k1, sb]; rfl
            · unfold f_X12_read; rw [d3, sb, if_neg n10, d5, sb, if_neg n10, l1, sb, eh, ec, k2, sb]; rfl
            · rfl
            · have e9 : ∀ j, st' j = t.st j := fun j => by
                rcases Nat.lt_or_ge j 66 with h | h
                · exact (k3 j h).trans (l2 j h)
                · exact k4 j h
              exact ⟨iM_set htw eh ec hi0 hi1 hk hev hC (relM_at hk hM (fun j _ => e9 _)) rfl rfl (fun j _ => e9 j), ⟨hs0, hs1, hs2, hs3⟩, ht, hf, hto⟩
        · have key := l_readS (to := s.torn) (tm := t.torn) (x3 := x3) (v6 := v6) (v5 := (0, 0, -4, s.now.1, s.now.2.1, s.now.2.2.1, s.now.2.2.2.2.2.2.1, s.now.2.2.2.2.2.1, s.now.2.2.2.2.1, s.now.2.2.2.2.2.2.2, s.now.2.2.2.1)) hk hC hM hn hnl (by omega) hs2
          rcases key with ⟨c, F, go', st', k', k1, k2, k3, k5, k6, k7, k8, k9, k10⟩ | ⟨r, u, st', k1, k2, k3, k4⟩
          · apply ex3
            · unfold f_X11_read; rw [d1, sb, if_pos rfl, d2, sb, if_pos rfl, d4, sb, if_pos rfl, if_neg (by decide), if_neg (by decide), if_pos (by decide), rs, sb, rd2, k1, sb]; rfl
            · unfold f_X12_read; rw [d3, sb, if_neg n10, d5, sb, if_neg n10, l1, sb, eh, ec, k2, sb]; rfl
            · rfl
            · exact ⟨iM_set htw eh ec hi0 hi1 k3 (by rw [k7]; exact hev) k8 k9 k5 k6 k10, ⟨hs0, hs1, hs2, hs3⟩, ht, hf, rfl⟩
          · apply ex3
            · unfold f_X11_read; rw [d1, sb, if_pos rfl, d2, sb, if_pos rfl, d4, sb, if_pos rfl, if_neg (by decide), if_neg (by decide), if_pos (by decide), rs, sb, rd2, k1, sb]; rfl
            · unfold f_X12_read; rw [d3, sb, if_neg n10, d5, sb, if_neg n10, l1, sb, eh, ec, k2, sb]; rfl
            · rfl
            · have e9 : ∀ j, st' j = t.st j := fun j => by
                rcases Nat.lt_or_ge j 66 with h | h
                · exact (k3 j h).trans (l2 j h)
                · exact k4 j h
              exact ⟨iM_set htw eh ec hi0 hi1 hk hev hC (relM_at hk hM (fun j _ => e9 _)) rfl rfl (fun j _ => e9 j), ⟨hs0, hs1, hs2, hs3⟩, ht, hf, hto⟩
        · have key := l_readS (to := s.torn) (tm := t.torn) (x3 := x3) (v6 := v6) (v5 := (0, 0, -4, s.now.1, s.now.2.1, s.now.2.2.1, s.now.2.2.2.2.2.2.1, s.now.2.2.2.2.2.1, s.now.2.2.2.2.1, s.now.2.2.2.2.2.2.2, s.now.2.2.2.1)) hk hC hM hn hnl (by omega) hs3
          rcases key with ⟨c, F, go', st', k', k1, k2, k3, k5, k6, k7, k8, k9, k10⟩ | ⟨r, u, st', k1, k2, k3, k4⟩
          · apply ex3
            · unfold f_X11_read; rw [d1, sb, if_pos rfl, d2, sb, if_pos rfl, d4, sb, if_pos rfl, if_neg (by decide), if_neg (by decide), if_neg (by decide), if_pos (by decide), rs, sb, rd3, k1, sb]; rfl
            · unfold f_X12_read; rw [d3, sb, if_neg n10, d5, sb, if_neg n10, l1, sb, eh, ec, k2, sb]; rfl
            · rfl
            · exact ⟨iM_set htw eh ec hi0 hi1 k3 (by rw [k7]; exact hev) k8 k9 k5 k6 k10, ⟨hs0, hs1, hs2, hs3⟩, ht, hf, rfl⟩
          · apply ex3
            · unfold f_X11_read; rw [d1, sb, if_pos rfl, d2, sb, if_pos rfl, d4, sb, if_pos rfl, if_neg (by decide), if_neg (by decide), if_neg (by decide), if_pos (by decide), rs, sb, rd3, k1, sb]; rfl
            · unfold f_X12_read; rw [d3, sb, if_neg n10, d5, sb, if_neg n10, l1, sb, eh, ec, k2, sb]; rfl
            · rfl
            · have e9 : ∀ j, st' j = t.st j := fun j => by
                rcases Nat.lt_or_ge j 66 with h | h
                · exact (k3 j h).trans (l2 j h)
                · exact k4 j h
              exact ⟨iM_set htw eh ec hi0 hi1 hk hev hC (relM_at hk hM (fun j _ => e9 _)) rfl rfl (fun j _ => e9 j), ⟨hs0, hs1, hs2, hs3⟩, ht, hf, hto⟩
