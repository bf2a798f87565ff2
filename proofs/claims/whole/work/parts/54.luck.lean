/-! odds -/
theorem ex5 {γ α β : Type} {F : Option (γ × α)} {G : Option (γ × β)} {P : γ × α → γ × β → Prop} (r : γ) (h1 : ∃ v, F = some v ∧ v.1 = r) (h2 : ∃ w, G = some w ∧ w.1 = r) (h3 : ∀ v w, P v w) : ∃ v w, F = some v ∧ G = some w ∧ v.1 = w.1 ∧ P v w := by
  obtain ⟨v, a1, a2⟩ := h1
  obtain ⟨w, b1, b2⟩ := h2
  exact ⟨v, w, a1, b1, a2.trans b2.symm, h3 v w⟩
/-- in how many ways those of m come, and the others stay at home -/
def wy (p m : Nat) : Nat → Nat
  | 0 => 1
  | c + 1 => wy p m c * (if m.testBit c then 10 - p else p)
theorem wy_le {p m : Nat} (hp : p ≤ 10) : ∀ c, wy p m c ≤ 10 ^ c
  | 0 => Nat.le_refl _
  | c + 1 => by
    rw [wy, Nat.pow_succ]
    apply Nat.mul_le_mul (wy_le hp c)
    split <;> omega
theorem wy_congr {p m : Nat} {n : Nat} : ∀ c, (∀ i, i < c → n.testBit i = m.testBit i) → wy p n c = wy p m c
  | 0, _ => rfl
  | c + 1, h => by rw [wy, wy, wy_congr c (fun i hi => h i (by omega)), h c (by omega)]
theorem smN_top (f : Nat → Nat) : ∀ n, smN f (n + 1) = f 0 + smN (fun i => f (i + 1)) n
  | 0 => by rw [smN, smN, smN]; omega
  | n + 1 => by rw [smN, smN_top f n, smN]; omega
theorem smN_rev (f : Nat → Nat) : ∀ n, smN f n = smN (fun i => f (n - 1 - i)) n
  | 0 => rfl
  | n + 1 => by
    rw [smN_top (fun i => f (n + 1 - 1 - i)) n, smN, smN_rev f n]
    have e : smN (fun i => f (n + 1 - 1 - (i + 1))) n = smN (fun i => f (n - 1 - i)) n := smN_congr (fun i hi => congrArg f (by omega))
    rw [e]
    show _ = f (n + 1 - 1 - 0) + _
    rw [show n + 1 - 1 - 0 = n by omega]
    omega
theorem bit_all : ∀ c, c ≤ 6 → ((1 : Int32) <<< (nI c &&& 31)) = nI (2 ^ c) := by decide +kernel
theorem cpl {n m : Nat} (h : m < 2 ^ n) : ∀ c, c < n → (2 ^ n - 1 - m).testBit c = !(m.testBit c) := fun c hc => by
  have e : 2 ^ n - 1 - m = 2 ^ n - (m + 1) := by omega
  rw [e, Nat.testBit_two_pow_sub_succ h]
  simp [hc]
theorem p64 {k : Ka} (hk : kok k) : 2 ^ k.cm ≤ 64 := Nat.pow_le_pow_right (by decide) hk.2.1
theorem p1e6 {k : Ka} (hk : kok k) : 10 ^ k.cm ≤ 1000000 := by
  have h : 10 ^ k.cm ≤ 10 ^ 6 := Nat.pow_le_pow_right (by decide) hk.2.1
  omega
theorem l1 : (1 : Int64) = lN 1 := rfl
theorem e_ofAll {cm : Nat} (h : cm ≤ 6) : f_X5_ofAll (nI cm) = some (lN (10 ^ cm)) := by
  unfold f_X5_ofAll
  have e : L_X5_ofAll_4 (nI cm) 400 1 0 = some (lN (10 ^ cm)) := by
    refine lpG (L := L_X5_ofAll_4 (nI cm)) (acc := fun c => lN (10 ^ c)) (n := cm) (by omega) (fun f => ?_) (fun f c hc => ?_)
    · rw [L_X5_ofAll_4, if_pos (nlt_le (by omega))]
    · rw [L_X5_ofAll_4, if_neg (nI_ge (by omega) (by omega)), show (10 : Int64) = lN 10 from rfl, lN_mul, nI_1]; rfl
  rw [e, sb]
theorem e_fo17 {cm : Nat} (h : cm ≤ 6) : L_X12_findOdds_17 (nI cm) 400 0 1 = some (lN (10 ^ cm)) := by
  refine lpG (L := fun f s c => L_X12_findOdds_17 (nI cm) f c s) (acc := fun c => lN (10 ^ c)) (n := cm) (by omega) (fun f => ?_) (fun f c hc => ?_)
  · show L_X12_findOdds_17 (nI cm) (f + 1) (nI cm) (lN (10 ^ cm)) = _
    rw [L_X12_findOdds_17, if_pos (nlt_le (by omega))]
  · show L_X12_findOdds_17 (nI cm) (f + 1) (nI c) (lN (10 ^ c)) = L_X12_findOdds_17 (nI cm) f (nI (c + 1)) (lN (10 ^ (c + 1)))
    rw [L_X12_findOdds_17, if_neg (nI_ge (by omega) (by omega)), show (10 : Int64) = lN 10 from rfl, lN_mul, nI_1]; rfl
theorem tp {p : Nat} (h : p ≤ 10) : (10 - nI p : Int32).toInt64 = lN (10 - p) := by
  rw [show (10 : Int32) = nI 10 from rfl, pk_sub h, nI_l (by omega)]
theorem e_ofComing {cm p m : Nat} (h : cm ≤ 6) (hp : p ≤ 10) (hm : m < 64) : f_X5_ofComing (nI cm) (nI p) (nI m) = some (lN (wy p m cm)) := by
  unfold f_X5_ofComing
  have e : L_X5_ofComing_5 (nI cm) (nI p) (nI m) 400 1 0 = some (lN (wy p m cm)) := by
    refine lpG (L := L_X5_ofComing_5 (nI cm) (nI p) (nI m)) (acc := fun c => lN (wy p m c)) (n := cm) (by omega) (fun f => ?_) (fun f c hc => ?_)
    · rw [L_X5_ofComing_5, if_pos (nlt_le (by omega))]
    · rw [L_X5_ofComing_5, if_neg (nI_ge (by omega) (by omega)), tp hp, nI_l (by omega), lN_mul, lN_mul, nI_1]
      rw [wy]
      by_cases q : m.testBit c = true
      · rw [if_pos ((bt_get m hm c (by omega)).mpr q), if_pos q]
      · rw [if_neg (fun z => q ((bt_get m hm c (by omega)).mp z)), if_neg q]
  rw [e, sb]
/-- the reference's product, by who stays at home -/
theorem e_fo61 {cm p m : Nat} (h : cm ≤ 6) (hp : p ≤ 10) (hm : m < 2 ^ cm) (h64 : m < 64) : L_X12_findOdds_61 (nI cm) (nI p) (nI m) 400 1 0 = some (lN (wy p (2 ^ cm - 1 - m) cm)) := by
  refine lpG (L := L_X12_findOdds_61 (nI cm) (nI p) (nI m)) (acc := fun c => lN (wy p (2 ^ cm - 1 - m) c)) (n := cm) (by omega) (fun f => ?_) (fun f c hc => ?_)
  · rw [L_X12_findOdds_61, if_pos (nlt_le (by omega))]
  · rw [L_X12_findOdds_61, if_neg (nI_ge (by omega) (by omega)), tp hp, nI_l (by omega), lN_mul, lN_mul, nI_1]
    rw [wy, cpl hm c hc]
    by_cases q : m.testBit c = true
    · rw [if_pos ((bt_get m h64 c (by omega)).mpr q), if_neg (by rw [q]; decide)]
    · have q2 : m.testBit c = false := by simpa using q
      rw [if_neg (fun z => q ((bt_get m h64 c (by omega)).mp z)), if_pos (by rw [q2]; decide)]
/-- a house's sum, by who comes -/
def fH (k : Ka) (p h m : Nat) : Nat := if bgG k m h then wy p m k.cm else 0
def sH (k : Ka) (p h : Nat) : Nat := smN (fH k p h) (2 ^ k.cm)
theorem c_od {k : Ka} {li ki go co lk : Nat → Int32} {p h : Nat} (hk : kok k) (hC : relC (nI k.hs, nI k.cm, nI k.ev, li, ki, go, co, lk) k) (hp : p ≤ 10) (hh : h < k.hs) : ∀ (q m f : Nat) (y4 y5 y6 : Nat → Int32), m + q = 2 ^ k.cm → q < f → ∃ r, L_X5_ofDinner_13 (nI k.cm) lk (nI p) (nI h) (0, 0, -4, nI k.hs, nI k.cm, nI k.ev, co, go, ki, lk, li) f (lN (smN (fH k p h) m)) (nI m) y4 y5 y6 = some r ∧ r.1 = lN (sH k p h) := by
  have k4 := hk.1
  have k6 := hk.2.1
  have c64 := p64 hk
  intro q
  induction q with
  | zero =>
    intro m f y4 y5 y6 e hf
    obtain ⟨f, rfl⟩ : ∃ f', f = f' + 1 := ⟨f - 1, by omega⟩
    have e2 : m = 2 ^ k.cm := by omega
    rw [L_X5_ofDinner_13, bit_all _ k6, if_pos (nI_le (by omega) (by omega)), e2]
    exact ⟨_, rfl, rfl⟩
  | succ q ih =>
    intro m f y4 y5 y6 e hf
    obtain ⟨f, rfl⟩ : ∃ f', f = f' + 1 := ⟨f - 1, by omega⟩
    obtain ⟨u, e1⟩ := e_hAt (h := h) (cg := m) (hrs := y5) (ops := y6) hk hC hh (by omega)
    dsimp only at e1
    have e0 : f_X1_copyLikingsFrom y4 lk = some lk := rfl
    rw [L_X5_ofDinner_13, bit_all _ k6, if_neg (nI_ge (by omega) (by omega)), e0, sb]
    dsimp only
    rw [e1, sb]
    have h7 := hrG_le k m h
    by_cases q1 : hrG k m h < 7
    · have ew : smN (fH k p h) (m + 1) = smN (fH k p h) m + wy p m k.cm := by
        rw [smN]; unfold fH; rw [if_pos (show bgG k m h = true from decide_eq_true q1)]
      rw [if_neg (show ¬ nI (hrG k m h) = 7 from fun z => (n7 h7).mp z q1), e_ofComing k6 hp (by omega), sb, lN_add, nI_1, ← ew]
      exact ih (m + 1) f _ _ _ (by omega) (by omega)
    · have ew : smN (fH k p h) (m + 1) = smN (fH k p h) m := by
        rw [smN]; unfold fH; rw [if_neg (show ¬ bgG k m h = true from by unfold bgG; rw [decide_eq_false q1]; decide)]; rfl
      rw [if_pos (show nI (hrG k m h) = 7 from (n7 h7).mpr q1), nI_1, ← ew]
      exact ih (m + 1) f _ _ _ (by omega) (by omega)
theorem e_ofDinner {k : Ka} {li ki go co lk : Nat → Int32} {p h : Nat} (hk : kok k) (hC : relC (nI k.hs, nI k.cm, nI k.ev, li, ki, go, co, lk) k) (hp : p ≤ 10) (hh : h < k.hs) (y2 y3 y4 y5 y6 y7 : Int32) (y8 y9 y10 y11 y12 y13 y14 : Nat → Int32) : ∃ r, f_X5_ofDinner (nI k.hs) (nI k.cm) (nI k.ev) co go ki lk li y2 y3 y4 y5 y6 y7 y8 y9 y10 y11 y12 y13 y14 (nI p) (nI h) = some r ∧ r.1 = lN (sH k p h) := by
  have c64 := p64 hk
  obtain ⟨r, r1, r2⟩ := c_od hk hC hp hh (2 ^ k.cm) 0 400 lk y13 y14 (by omega) (by omega)
  have r1 : L_X5_ofDinner_13 (nI k.cm) lk (nI p) (nI h) (0, 0, -4, nI k.hs, nI k.cm, nI k.ev, co, go, ki, lk, li) 400 0 0 lk y13 y14 = some r := r1
  unfold f_X5_ofDinner
  rw [e_rst, sb]
  dsimp only
  rw [r1, sb]
  exact ⟨_, rfl, r2⟩
theorem e_evH {a bg by_ : Nat → Int32} {k : Ka} {hm cg : Nat} {d w : Int32} (hk : kok k) (hM : relM a 0 k) (hm6 : hm < 64) (hcg : ∀ c, c < k.cm → cg.testBit c = !(hm.testBit c)) : ∃ u1 bg' u2, f_X12_eveningsGo (nI k.hs) (nI k.cm) (nI hm) d w bg by_ a 1 = some (nI (cnt (bgG k cg) k.hs), u1, bg', u2) ∧ ∀ h, h < k.hs → bg' h = bgI (hrG k cg h) := by
  obtain ⟨bg1, by1, a1, h1, h2, -⟩ := e_goesEv (a := a) (bg := bg) (by_ := by_) (d := 0) (w := 0) hk hM hm6 hcg
  have h1 : f_X12_eveningGoes (nI k.hs) (nI k.cm) (nI hm) 0 0 bg by_ a = _ := h1
  rw [Nat.zero_add] at h1
  have f0 : f_X12_startsCounting d w = some (0, 0) := rfl
  have l : L_X12_eveningsGo_6 (nI k.hs) (nI k.cm) (nI hm) 1 400 0 0 0 bg by_ a = some (nI (cnt (bgG k cg) k.hs), nI (0 + smN (hrG k cg) k.hs), bg1, by1, a1) := by
    rw [L_X12_eveningsGo_6, if_neg (by decide), h1, sb, L_X12_eveningsGo_6, if_pos (by decide)]
  unfold f_X12_eveningsGo
  rw [f0, sb]
  dsimp only
  rw [l, sb]
  exact ⟨_, bg1, _, rfl, fun h hh => (h2 h hh).1⟩
/-- the reference's sums, by who stays at home -/
def fB (k : Ka) (p : Nat) (o : Option Nat) (m : Nat) : Nat := match o with
  | none => 0
  | some h => fH k p h (2 ^ k.cm - 1 - m)
def fD (k : Ka) (p m : Nat) : Nat := wy p (2 ^ k.cm - 1 - m) k.cm * cnt (bgG k (2 ^ k.cm - 1 - m)) k.hs
theorem m_od {k : Ka} {st : Nat → Int32} {p : Nat} {o : Option Nat} (hk : kok k) (hM : relM st 0 k) (hp : p ≤ 10) (ho : ∀ h, o = some h → h < k.hs) : ∀ (q m f : Nat) (y6 y7 y8 : Int32) (y11 y12 y13 : Nat → Int32), m + q = 2 ^ k.cm → q < f → ∃ r, L_X12_findOdds_45 (nI k.hs) (nI k.cm) st (nI p) (opI o) f (nI m) y6 y7 y8 (lN (smN (fB k p o) m)) (lN (smN (fD k p) m)) y11 y12 y13 = some r ∧ r.2.2.2.1 = lN (smN (fB k p o) (2 ^ k.cm)) ∧ r.2.2.2.2.1 = lN (smN (fD k p) (2 ^ k.cm)) := by
  have k4 := hk.1
  have k6 := hk.2.1
  have c64 := p64 hk
  intro q
  induction q with
  | zero =>
    intro m f y6 y7 y8 y11 y12 y13 e hf
    obtain ⟨f, rfl⟩ : ∃ f', f = f' + 1 := ⟨f - 1, by omega⟩
    have e2 : m = 2 ^ k.cm := by omega
    rw [L_X12_findOdds_45, bit_all _ k6, if_pos (nI_le (by omega) (by omega)), e2]
    exact ⟨_, rfl, rfl, rfl⟩
  | succ q ih =>
    intro m f y6 y7 y8 y11 y12 y13 e hf
    obtain ⟨f, rfl⟩ : ∃ f', f = f' + 1 := ⟨f - 1, by omega⟩
    have hm : m < 2 ^ k.cm := by omega
    obtain ⟨a0, g1, g2, -⟩ := starts_rel (hm := y6) (now := y13) hk hM
    obtain ⟨u1, bg', u2, e1, e2⟩ := e_evH (hm := m) (cg := 2 ^ k.cm - 1 - m) (d := y7) (w := y8) (bg := y11) (by_ := y12) hk g2 (by omega) (cpl hm)
    have e3 : (if opI o = -4 then some 0 else if inb (opI o) 4 then (if bg' (ix (opI o)) = -4 then some 0 else some (lN (wy p (2 ^ k.cm - 1 - m) k.cm))) else none : Option Int64) = some (lN (fB k p o m)) := by
      cases o with
      | none => rfl
      | some h =>
        have hh := ho h rfl
        show (if nI h = -4 then some 0 else if inb (nI h) 4 then (if bg' (ix (nI h)) = -4 then some 0 else some (lN (wy p (2 ^ k.cm - 1 - m) k.cm))) else none : Option Int64) = some (lN (fH k p h (2 ^ k.cm - 1 - m)))
        rw [if_neg (nI_n4 (by omega)), if_pos (inb_nI (by omega) (by omega)), ix_nI (by omega), e2 h hh]
        unfold fH bgG bgI
        by_cases q1 : hrG k (2 ^ k.cm - 1 - m) h < 7
        · rw [if_pos q1, if_neg (nI_n4 (by omega)), if_pos (decide_eq_true q1)]
        · rw [if_neg q1, if_pos rfl, if_neg (by rw [decide_eq_false q1]; decide)]; rfl
    have cl : cnt (bgG k (2 ^ k.cm - 1 - m)) k.hs ≤ k.hs := cnt_le _ _
    rw [L_X12_findOdds_45, bit_all _ k6, if_neg (nI_ge (by omega) (by omega)), e_fo61 k6 hp hm (by omega), sb, g1, sb]
    dsimp only
    rw [e1, sb]
    dsimp only
    rw [e3, sb, nI_l (by omega), lN_mul, lN_add, lN_add, nI_1]
    exact ih (m + 1) f _ _ _ _ _ _ (by omega) (by omega)
theorem sB_eq (k : Ka) (p h : Nat) : smN (fB k p (some h)) (2 ^ k.cm) = sH k p h := by
  unfold sH
  rw [smN_rev (fH k p h)]
  rfl
theorem smN_mul (f : Nat → Nat) (a : Nat) : ∀ n, smN (fun i => a * f i) n = a * smN f n
  | 0 => by simp [smN]
  | n + 1 => by rw [smN, smN_mul f a n, smN, Nat.mul_add]
theorem sD_eq (k : Ka) (p : Nat) : smN (fD k p) (2 ^ k.cm) = smN (sH k p) k.hs := by
  have e0 : smN (fD k p) (2 ^ k.cm) = smN (fun m => wy p m k.cm * cnt (bgG k m) k.hs) (2 ^ k.cm) := (smN_rev (fun m => wy p m k.cm * cnt (bgG k m) k.hs) (2 ^ k.cm)).symm
  rw [e0]
  show _ = smN (fun h => smN (fun m => fH k p h m) (2 ^ k.cm)) k.hs
  rw [smN_swap]
  refine smN_congr (fun m _ => ?_)
  rw [cnt_sm, ← smN_mul]
  refine smN_congr (fun h _ => ?_)
  unfold fH
  split <;> simp
theorem sH_le {k : Ka} {p h : Nat} (hk : kok k) (hp : p ≤ 10) : sH k p h ≤ 64000000 := by
  have h1 : sH k p h ≤ 2 ^ k.cm * 1000000 := smN_le (fun m _ => by
    unfold fH
    split
    · exact Nat.le_trans (wy_le hp _) (p1e6 hk)
    · omega)
  have := p64 hk
  omega
/-! the greatest common divisor, by both -/
theorem hlf {b r j : Nat} (hr : 0 < r) (hrb : r < b) (hb : b < 2 ^ (j + 1)) : b % r < 2 ^ j := by
  rw [Nat.pow_succ] at hb
  rcases Nat.lt_or_ge (b / 2) r with q | q
  · have : b % r = b - r := by
      rw [Nat.mod_eq_sub_mod (by omega)]
      exact Nat.mod_eq_of_lt (by omega)
    omega
  · have := Nat.mod_lt b hr
    omega
theorem l0 {b : Nat} (h0 : 0 < b) (hb : b < 2 ^ 63) : ¬ lN b = 0 := fun z => by have := (pk_lEQ (b := 0) hb (by omega)).mp z; omega
theorem cz (x : Int64) : lg_cmp x 0 = 0 ↔ x = 0 := lg_cmp_eq x 0
theorem cz0 : lg_cmp (lN 0) 0 = 0 := (cz _).mpr rfl
theorem gcdC : ∀ (j a b i f : Nat), b < 2 ^ j → a < 2 ^ 63 → b < 2 ^ 63 → i + 2 * j < 200 → 2 * j < f → L_X11_greatestDivisor_9 f (lN a) (lN b) (nI i) = some (lN (Nat.gcd a b))
  | 0, a, b, i, f, hb, ha, hb2, hi, hf => by
    obtain ⟨f, rfl⟩ : ∃ f', f = f' + 1 := ⟨f - 1, by omega⟩
    have e : b = 0 := by simpa using hb
    subst e
    rw [L_X11_greatestDivisor_9, if_neg (show ¬ (200 : Int32) ≤ nI i from nI_ge (b := 200) (by omega) (by omega)), if_pos cz0, Nat.gcd_zero_right]
  | j + 1, a, b, i, f, hb, ha, hb2, hi, hf => by
    obtain ⟨f, rfl⟩ : ∃ f', f = f' + 2 := ⟨f - 2, by omega⟩
    rw [L_X11_greatestDivisor_9, if_neg (show ¬ (200 : Int32) ≤ nI i from nI_ge (b := 200) (by omega) (by omega))]
    by_cases q : b = 0
    · subst q
      rw [if_pos cz0, Nat.gcd_zero_right]
    · have n0 := l0 (b := b) (by omega) hb2
      rw [if_neg (fun z => n0 ((cz _).mp z)), if_pos n0, pk_lRem ha (by omega) hb2, nI_1]
      have hm := Nat.mod_lt a (show 0 < b by omega)
      rw [Nat.gcd_comm a b, Nat.gcd_rec b a]
      rw [L_X11_greatestDivisor_9, if_neg (show ¬ (200 : Int32) ≤ nI (i + 1) from nI_ge (b := 200) (by omega) (by omega))]
      by_cases q2 : a % b = 0
      · rw [q2, if_pos cz0, Nat.gcd_zero_left]
      · have n1 := l0 (b := a % b) (by omega) (by omega)
        have hm2 := Nat.mod_lt b (show 0 < a % b by omega)
        rw [if_neg (fun z => n1 ((cz _).mp z)), if_pos n1, pk_lRem hb2 (by omega) (by omega), nI_1, gcdC j (a % b) (b % (a % b)) (i + 1 + 1) f (hlf (by omega) hm hb) (by omega) (by omega) (by omega) (by omega)]
        rw [Nat.gcd_comm (a % b), ← Nat.gcd_rec]
theorem gcdM : ∀ (j a b f : Nat), b < 2 ^ j → a < 2 ^ 63 → b < 2 ^ 63 → 2 * j < f → L_X12_common_6 f (lN a) (lN b) = some (lN (Nat.gcd a b))
  | 0, a, b, f, hb, ha, hb2, hf => by
    obtain ⟨f, rfl⟩ : ∃ f', f = f' + 1 := ⟨f - 1, by omega⟩
    have e : b = 0 := by simpa using hb
    subst e
    rw [L_X12_common_6, if_pos cz0, Nat.gcd_zero_right]
  | j + 1, a, b, f, hb, ha, hb2, hf => by
    obtain ⟨f, rfl⟩ : ∃ f', f = f' + 2 := ⟨f - 2, by omega⟩
    rw [L_X12_common_6]
    by_cases q : b = 0
    · subst q
      rw [if_pos cz0, Nat.gcd_zero_right]
    · have n0 := l0 (b := b) (by omega) hb2
      rw [if_neg (fun z => n0 ((cz _).mp z)), if_pos n0, pk_lRem ha (by omega) hb2]
      have hm := Nat.mod_lt a (show 0 < b by omega)
      rw [Nat.gcd_comm a b, Nat.gcd_rec b a, L_X12_common_6]
      by_cases q2 : a % b = 0
      · rw [q2, if_pos cz0, Nat.gcd_zero_left]
      · have n1 := l0 (b := a % b) (by omega) (by omega)
        have hm2 := Nat.mod_lt b (show 0 < a % b by omega)
        rw [if_neg (fun z => n1 ((cz _).mp z)), if_pos n1, pk_lRem hb2 (by omega) (by omega), gcdM j (a % b) (b % (a % b)) f (hlf (by omega) hm hb) (by omega) (by omega) (by omega)]
        rw [Nat.gcd_comm (a % b), ← Nat.gcd_rec]
theorem frac {a n x : Nat} (ha : a ≤ 256000000) (hn : 0 < n) (hn2 : n ≤ 1000000) (hx : x ≤ 1) : f_X11_partOfFraction (lN a) (lN n) (nI x) = some (lN ((if x = 0 then a else n) / Nat.gcd a n)) ∧ f_X12_told (lN a) (lN n) (nI x) = some (lN ((if x = 0 then a else n) / Nat.gcd a n)) := by
  have g0 : 0 < Nat.gcd a n := Nat.gcd_pos_of_pos_right a hn
  have g1 : Nat.gcd a n ≤ n := Nat.gcd_le_right a hn
  have n0 := l0 (b := Nat.gcd a n) g0 (by omega)
  have e1 : f_X11_greatestDivisor (lN a) (lN n) = some (lN (Nat.gcd a n)) := by
    unfold f_X11_greatestDivisor
    have e : L_X11_greatestDivisor_9 400 (lN a) (lN n) 0 = some (lN (Nat.gcd a n)) := gcdC 20 a n 0 400 (by omega) (by omega) (by omega) (by omega) (by omega)
    rw [e, sb]
  have e2 : f_X12_common (lN n) (lN a) = some (lN (Nat.gcd a n)) := by
    unfold f_X12_common
    rw [gcdM 28 n a 400 (by omega) (by omega) (by omega) (by omega), sb, Nat.gcd_comm]
  unfold f_X11_partOfFraction f_X12_told
  rw [e1, e2, sb, sb, if_neg (fun z => n0 ((cz _).mp z)), if_pos n0, if_pos n0]
  obtain rfl | rfl : x = 0 ∨ x = 1 := by omega
  · rw [if_pos (by decide), sb, if_pos n0, pk_lDiv (by omega) g0 (by omega), if_pos (by decide), if_pos (by decide)]
    exact ⟨rfl, rfl⟩
  · rw [if_neg (by decide), sb, if_pos n0, pk_lDiv (by omega) g0 (by omega), if_neg (by decide), pk_lDiv (by omega) g0 (by omega), if_neg (by decide)]
    exact ⟨rfl, rfl⟩
theorem p_luck (s : SX) (t : TM) (x1 : Int32) (x2 : Int32) (x3 : Int32) (hI : Inv s t) : ∃ (v : Int64 × Int32 × Int32 × Int32 × Int32 × Int32 × Int32 × (Nat → Int32) × (Nat → Int32) × (Nat → Int32) × (Nat → Int32) × (Nat → Int32) × (Nat → Int32) × (Nat → Int32)) (w : Int64 × Int32 × Int32 × Int32 × Int64 × Int64 × Int64 × (Nat → Int32) × (Nat → Int32) × (Nat → Int32)), f_X11_luck s.now.1 s.now.2.1 s.now.2.2.1 s.now.2.2.2.2.2.2.1 s.now.2.2.2.2.2.1 s.now.2.2.2.2.1 s.now.2.2.2.2.2.2.2 s.now.2.2.2.1 s.tri.1 s.tri.2.1 s.tri.2.2 s.tcy.1 s.tcy.2.1 s.tcy.2.2.1 s.tcy.2.2.2.2.2.2.1 s.tcy.2.2.2.2.2.1 s.tcy.2.2.2.2.1 s.tcy.2.2.2.2.2.2.2 s.tcy.2.2.2.1 s.evg.2.2.1 s.evg.2.2.2 x1 x2 x3 = some v ∧ f_X12_luck t.houses t.comers t.home t.dinners t.waited t.beginSum t.dinnerSum t.allWays t.began t.begunBy t.now t.st x1 x2 x3 = some w ∧ v.1 = w.1 ∧ Inv (s.torn, s.tape, s.rdr, s.drf, s.now, s.seen, (v.2.1, v.2.2.1, v.2.2.2.1), (v.2.2.2.2.1, v.2.2.2.2.2.1, v.2.2.2.2.2.2.1, v.2.2.2.2.2.2.2.2.2.2.2.1, v.2.2.2.2.2.2.2.2.2.1, v.2.2.2.2.2.2.2.2.1, v.2.2.2.2.2.2.2.1, v.2.2.2.2.2.2.2.2.2.2.1), (s.evg.1, s.evg.2.1, v.2.2.2.2.2.2.2.2.2.2.2.2.1, v.2.2.2.2.2.2.2.2.2.2.2.2.2), s.adv, s.gss, s.im0, s.im1, s.sh0, s.sh1, s.sh2, s.sh3) ((t.st, w.2.2.2.2.2.2.2.2.2, t.isKept, t.houses, t.comers, t.draft, t.dHouses, t.dComers, t.highestHouse), t.m1, (w.2.1, w.2.2.2.2.2.2.2.1, w.2.2.2.2.2.2.2.2.1, w.2.2.1, w.2.2.2.1, w.2.2.2.2.1, w.2.2.2.2.2.1, w.2.2.2.2.2.2.1, t.hours), t.m3) := by
  obtain ⟨k, q, htw, eh, ec, hi⟩ := id hI.1
  obtain ⟨hk, hev, hC, hM, -⟩ := id htw
  have k4 := hk.1
  have k6 := hk.2.1
  have c64 := p64 hk
  have c1 : s.now.1 = nI k.hs := hC.1
  have c2 : s.now.2.1 = nI k.cm := hC.2.1
  have c3 : s.now.2.2.1 = nI k.ev := hC.2.2.1
  have hC2 : relC (nI k.hs, nI k.cm, nI k.ev, s.now.2.2.2.1, s.now.2.2.2.2.1, s.now.2.2.2.2.2.1, s.now.2.2.2.2.2.2.1, s.now.2.2.2.2.2.2.2) k := ⟨rfl, rfl, rfl, hC.2.2.2⟩
  have a10 : 0 < 10 ^ k.cm := Nat.pow_pos (by decide)
  rcases cases_in x1 (n := 10) (by decide) with hb | ⟨p, hp, rfl⟩
  · have d1 : f_X11_outside x1 10 = some 1 := ou_bad hb.1
    have d2 : f_X12_in x1.toInt64 0 10 = some 0 := in_bad (n := 10) rfl hb.2
    refine ex5 (-1) ?_ ?_ (fun _ _ => hI)
    · unfold f_X11_luck; rw [d1, sb, if_neg n10]; exact ⟨_, rfl, rfl⟩
    · unfold f_X12_luck; rw [d2, sb, if_pos rfl]; exact ⟨_, rfl, rfl⟩
  · have d1 : f_X11_outside (nI p) 10 = some 0 := ou_ok (n := 10) rfl hp (by decide)
    have d2 : f_X12_in (nI p).toInt64 0 10 = some 1 := in_ok (n := 10) rfl hp (by decide)
    rcases ixc x2 (n := k.hs) (by omega) with hb | ⟨h, hh, rfl⟩
    · have a1 : f_X11_noHouse s.now.1 x2 = some 1 := by rw [c1]; exact nh_bad (by omega) hb
      have a2 : f_X12_isHouse t.houses x2 = some 0 := by rw [eh]; exact ih_bad (by omega) hb
      refine ex5 (-1) ?_ ?_ (fun _ _ => hI)
      · unfold f_X11_luck; rw [d1, sb, if_pos rfl, a1, sb, if_neg n10]; exact ⟨_, rfl, rfl⟩
      · unfold f_X12_luck; rw [d2, sb, if_neg n10, a2, sb, if_pos rfl]; exact ⟨_, rfl, rfl⟩
    · have a1 : f_X11_noHouse s.now.1 (nI h) = some 0 := by rw [c1]; exact nh_ok (by omega) hh
      have a2 : f_X12_isHouse t.houses (nI h) = some 1 := by rw [eh]; exact ih_ok (by omega) hh
      rcases cases_in x3 (n := 1) (by decide) with hb | ⟨x, hx, rfl⟩
      · have b1 : f_X11_outside x3 1 = some 1 := ou_bad hb.1
        refine ex5 (-1) ?_ ?_ (fun _ _ => hI)
        · unfold f_X11_luck; rw [d1, sb, if_pos rfl, a1, sb, if_pos rfl, b1, sb, if_neg n10]; exact ⟨_, rfl, rfl⟩
        · unfold f_X12_luck; rw [d2, sb, if_neg n10, a2, sb, if_neg n10, part_bad hb.2, sb, if_pos rfl]; exact ⟨_, rfl, rfl⟩
      · have b1 : f_X11_outside (nI x) 1 = some 0 := ou_ok (n := 1) rfl hx (by decide)
        obtain ⟨r, r1, r2⟩ := e_ofDinner hk hC2 hp hh s.tri.1 s.tri.2.1 s.tri.2.2 s.tcy.1 s.tcy.2.1 s.tcy.2.2.1 s.tcy.2.2.2.2.2.2.1 s.tcy.2.2.2.2.2.1 s.tcy.2.2.2.2.1 s.tcy.2.2.2.2.2.2.2 s.tcy.2.2.2.1 s.evg.2.2.1 s.evg.2.2.2
        obtain ⟨u, u1, u2, -⟩ := m_od (o := some h) hk hM hp (fun i e => by cases e; exact hh) (2 ^ k.cm) 0 400 t.home t.dinners t.waited t.began t.begunBy t.now (by omega) (by omega)
        have u1 : L_X12_findOdds_45 (nI k.hs) (nI k.cm) t.st (nI p) (nI h) 400 0 t.home t.dinners t.waited 0 0 t.began t.begunBy t.now = some u := u1
        rw [sB_eq] at u2
        obtain ⟨f1, f2⟩ := frac (a := sH k p h) (n := 10 ^ k.cm) (by have := sH_le (h := h) hk hp; omega) a10 (p1e6 hk) hx
        refine ex5 (lN ((if x = 0 then sH k p h else 10 ^ k.cm) / Nat.gcd (sH k p h) (10 ^ k.cm))) ?_ ?_ (fun _ _ => hI)
        · unfold f_X11_luck
          rw [d1, sb, if_pos rfl, a1, sb, if_pos rfl, b1, sb, if_pos rfl, c1, c2, c3, r1, sb, e_ofAll k6, sb, r2, f1, sb]
          exact ⟨_, rfl, rfl⟩
        · unfold f_X12_luck f_X12_findOdds
          rw [d2, sb, if_neg n10, a2, sb, if_neg n10, part_ok hx, sb, if_neg n10, eh, ec, e_fo17 k6, sb, u1, sb, sb]
          dsimp only
          rw [u2, f2, sb]
          exact ⟨_, rfl, rfl⟩
theorem c_mean {k : Ka} {li ki go co lk : Nat → Int32} {p : Nat} (hk : kok k) (hC : relC (nI k.hs, nI k.cm, nI k.ev, li, ki, go, co, lk) k) (hp : p ≤ 10) : ∀ (q h f : Nat) (y5 y6 y7 y8 y9 y10 : Int32) (y11 y12 y13 y14 y15 y16 y17 : Nat → Int32), h + q = k.hs → q < f → ∃ r, L_X11_mean_26 (nI k.hs) (nI k.cm) (nI k.ev) co go ki lk li (nI p) f (lN (smN (sH k p) h)) (nI h) y5 y6 y7 y8 y9 y10 y11 y12 y13 y14 y15 y16 y17 = some r ∧ r.1 = lN (smN (sH k p) k.hs) := by
  have k4 := hk.1
  intro q
  induction q with
  | zero =>
    intro h f y5 y6 y7 y8 y9 y10 y11 y12 y13 y14 y15 y16 y17 e hf
    obtain ⟨f, rfl⟩ : ∃ f', f = f' + 1 := ⟨f - 1, by omega⟩
    have e2 : h = k.hs := by omega
    rw [L_X11_mean_26, if_pos (nI_le (by omega) (by omega)), e2]
    exact ⟨_, rfl, rfl⟩
  | succ q ih =>
    intro h f y5 y6 y7 y8 y9 y10 y11 y12 y13 y14 y15 y16 y17 e hf
    obtain ⟨f, rfl⟩ : ∃ f', f = f' + 1 := ⟨f - 1, by omega⟩
    obtain ⟨r, r1, r2⟩ := e_ofDinner (h := h) hk hC hp (by omega) y5 y6 y7 y8 y9 y10 y11 y12 y13 y14 y15 y16 y17
    rw [L_X11_mean_26, if_neg (nI_ge (by omega) (by omega)), r1, sb, r2, lN_add, nI_1]
    exact ih (h + 1) f _ _ _ _ _ _ _ _ _ _ _ _ _ (by omega) (by omega)
theorem p_mean (s : SX) (t : TM) (x1 : Int32) (x2 : Int32) (hI : Inv s t) : ∃ (v : Int64 × Int32 × Int32 × Int32 × Int32 × Int32 × Int32 × (Nat → Int32) × (Nat → Int32) × (Nat → Int32) × (Nat → Int32) × (Nat → Int32) × (Nat → Int32) × (Nat → Int32)) (w : Int64 × Int32 × Int32 × Int32 × Int64 × Int64 × Int64 × (Nat → Int32) × (Nat → Int32) × (Nat → Int32)), f_X11_mean s.now.1 s.now.2.1 s.now.2.2.1 s.now.2.2.2.2.2.2.1 s.now.2.2.2.2.2.1 s.now.2.2.2.2.1 s.now.2.2.2.2.2.2.2 s.now.2.2.2.1 s.tri.1 s.tri.2.1 s.tri.2.2 s.tcy.1 s.tcy.2.1 s.tcy.2.2.1 s.tcy.2.2.2.2.2.2.1 s.tcy.2.2.2.2.2.1 s.tcy.2.2.2.2.1 s.tcy.2.2.2.2.2.2.2 s.tcy.2.2.2.1 s.evg.2.2.1 s.evg.2.2.2 x1 x2 = some v ∧ f_X12_mean t.houses t.comers t.home t.dinners t.waited t.beginSum t.dinnerSum t.allWays t.began t.begunBy t.now t.st x1 x2 = some w ∧ v.1 = w.1 ∧ Inv (s.torn, s.tape, s.rdr, s.drf, s.now, s.seen, (v.2.1, v.2.2.1, v.2.2.2.1), (v.2.2.2.2.1, v.2.2.2.2.2.1, v.2.2.2.2.2.2.1, v.2.2.2.2.2.2.2.2.2.2.2.1, v.2.2.2.2.2.2.2.2.2.1, v.2.2.2.2.2.2.2.2.1, v.2.2.2.2.2.2.2.1, v.2.2.2.2.2.2.2.2.2.2.1), (s.evg.1, s.evg.2.1, v.2.2.2.2.2.2.2.2.2.2.2.2.1, v.2.2.2.2.2.2.2.2.2.2.2.2.2), s.adv, s.gss, s.im0, s.im1, s.sh0, s.sh1, s.sh2, s.sh3) ((t.st, w.2.2.2.2.2.2.2.2.2, t.isKept, t.houses, t.comers, t.draft, t.dHouses, t.dComers, t.highestHouse), t.m1, (w.2.1, w.2.2.2.2.2.2.2.1, w.2.2.2.2.2.2.2.2.1, w.2.2.1, w.2.2.2.1, w.2.2.2.2.1, w.2.2.2.2.2.1, w.2.2.2.2.2.2.1, t.hours), t.m3) := by
  obtain ⟨k, q, htw, eh, ec, hi⟩ := id hI.1
  obtain ⟨hk, hev, hC, hM, -⟩ := id htw
  have k4 := hk.1
  have k6 := hk.2.1
  have c64 := p64 hk
  have c1 : s.now.1 = nI k.hs := hC.1
  have c2 : s.now.2.1 = nI k.cm := hC.2.1
  have c3 : s.now.2.2.1 = nI k.ev := hC.2.2.1
  have hC2 : relC (nI k.hs, nI k.cm, nI k.ev, s.now.2.2.2.1, s.now.2.2.2.2.1, s.now.2.2.2.2.2.1, s.now.2.2.2.2.2.2.1, s.now.2.2.2.2.2.2.2) k := ⟨rfl, rfl, rfl, hC.2.2.2⟩
  have a10 : 0 < 10 ^ k.cm := Nat.pow_pos (by decide)
  rcases cases_in x1 (n := 10) (by decide) with hb | ⟨p, hp, rfl⟩
  · have d1 : f_X11_outside x1 10 = some 1 := ou_bad hb.1
    have d2 : f_X12_in x1.toInt64 0 10 = some 0 := in_bad (n := 10) rfl hb.2
    refine ex5 (-1) ?_ ?_ (fun _ _ => hI)
    · unfold f_X11_mean; rw [d1, sb, if_neg n10]; exact ⟨_, rfl, rfl⟩
    · unfold f_X12_mean; rw [d2, sb, if_pos rfl]; exact ⟨_, rfl, rfl⟩
  · have d1 : f_X11_outside (nI p) 10 = some 0 := ou_ok (n := 10) rfl hp (by decide)
    have d2 : f_X12_in (nI p).toInt64 0 10 = some 1 := in_ok (n := 10) rfl hp (by decide)
    rcases cases_in x2 (n := 1) (by decide) with hb | ⟨x, hx, rfl⟩
    · have b1 : f_X11_outside x2 1 = some 1 := ou_bad hb.1
      refine ex5 (-1) ?_ ?_ (fun _ _ => hI)
      · unfold f_X11_mean; rw [d1, sb, if_pos rfl, b1, sb, if_neg n10]; exact ⟨_, rfl, rfl⟩
      · unfold f_X12_mean; rw [d2, sb, if_neg n10, part_bad hb.2, sb, if_pos rfl]; exact ⟨_, rfl, rfl⟩
    · have b1 : f_X11_outside (nI x) 1 = some 0 := ou_ok (n := 1) rfl hx (by decide)
      obtain ⟨r, r1, r2⟩ := c_mean hk hC2 hp k.hs 0 400 s.tri.1 s.tri.2.1 s.tri.2.2 s.tcy.1 s.tcy.2.1 s.tcy.2.2.1 s.tcy.2.2.2.2.2.2.1 s.tcy.2.2.2.2.2.1 s.tcy.2.2.2.2.1 s.tcy.2.2.2.2.2.2.2 s.tcy.2.2.2.1 s.evg.2.2.1 s.evg.2.2.2 (by omega) (by omega)
      have r1 : L_X11_mean_26 (nI k.hs) (nI k.cm) (nI k.ev) s.now.2.2.2.2.2.2.1 s.now.2.2.2.2.2.1 s.now.2.2.2.2.1 s.now.2.2.2.2.2.2.2 s.now.2.2.2.1 (nI p) 400 0 0 s.tri.1 s.tri.2.1 s.tri.2.2 s.tcy.1 s.tcy.2.1 s.tcy.2.2.1 s.tcy.2.2.2.2.2.2.1 s.tcy.2.2.2.2.2.1 s.tcy.2.2.2.2.1 s.tcy.2.2.2.2.2.2.2 s.tcy.2.2.2.1 s.evg.2.2.1 s.evg.2.2.2 = some r := r1
      obtain ⟨u, u1, -, u3⟩ := m_od (o := none) hk hM hp (fun i e => by cases e) (2 ^ k.cm) 0 400 t.home t.dinners t.waited t.began t.begunBy t.now (by omega) (by omega)
      have u1 : L_X12_findOdds_45 (nI k.hs) (nI k.cm) t.st (nI p) (-4) 400 0 t.home t.dinners t.waited 0 0 t.began t.begunBy t.now = some u := u1
      rw [sD_eq] at u3
      have bd : smN (sH k p) k.hs ≤ k.hs * 64000000 := smN_le (fun h _ => sH_le hk hp)
      obtain ⟨f1, f2⟩ := frac (a := smN (sH k p) k.hs) (n := 10 ^ k.cm) (by omega) a10 (p1e6 hk) hx
      refine ex5 (lN ((if x = 0 then smN (sH k p) k.hs else 10 ^ k.cm) / Nat.gcd (smN (sH k p) k.hs) (10 ^ k.cm))) ?_ ?_ (fun _ _ => hI)
      · unfold f_X11_mean
        rw [d1, sb, if_pos rfl, b1, sb, if_pos rfl, c1, c2, c3, r1, sb, e_ofAll k6, sb, r2, f1, sb]
        exact ⟨_, rfl, rfl⟩
      · unfold f_X12_mean f_X12_findOdds
        rw [d2, sb, if_neg n10, part_ok hx, sb, if_neg n10, eh, ec, e_fo17 k6, sb, u1, sb, sb]
        dsimp only
        rw [u3, f2, sb]
        exact ⟨_, rfl, rfl⟩
