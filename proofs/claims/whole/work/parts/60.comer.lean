/-! a comer's line on both sides -/
def rcC (n : Int32) (bt : Nat → Int32) (cm : Int32) (co go ki lk : Nat → Int32) (x1 h1 f fp pl be so va : Int32) : Option (Int32 × Int32 × Int32 × Int32 × Int32 × Int32 × Int32 × Int32 × (Nat → Int32) × (Nat → Int32) × (Nat → Int32) × (Nat → Int32)) :=
  (f_X9_readNumber f fp pl be so va n bt).bind (fun v2 =>
    if v2.1 = 0 then
      some (0, v2.2.1, v2.2.2.1, v2.2.2.2.1, v2.2.2.2.2.1, v2.2.2.2.2.2.1, v2.2.2.2.2.2.2, cm, co, go, ki, lk)
    else
      if v2.2.2.2.2.2.2 ≤ 6 then
        (f_X9_readNumber v2.2.1 v2.2.2.1 v2.2.2.2.1 v2.2.2.2.2.1 v2.2.2.2.2.2.1 v2.2.2.2.2.2.2 n bt).bind (fun v3 =>
          if v3.1 = 0 then
            some (0, v3.2.1, v3.2.2.1, v3.2.2.2.1, v3.2.2.2.2.1, v3.2.2.2.2.2.1, v3.2.2.2.2.2.2, cm, co, go, ki, lk)
          else
            if v3.2.2.2.2.2.2 ≤ 9 then
              (f_X1_addComer cm co go ki lk x1 h1 v2.2.2.2.2.2.2 v3.2.2.2.2.2.2).bind (fun v4 =>
                (f_X9_readToken v3.2.2.2.1 v3.2.2.2.2.1 v3.2.2.2.2.2.1 v3.2.2.2.2.2.2 n bt).bind (fun v5 =>
                  (f_X9_stands v3.2.1 v3.2.2.1 v5.1 v5.2.2.1 2).bind (fun v6 =>
                    if v6.1 &&& 1 = v6.1 then
                      some (v6.1, v6.2.1, v6.2.2, v5.1, v5.2.1, v5.2.2.1, v5.2.2.2, v4.1, v4.2.1, v4.2.2.1, v4.2.2.2.1, v4.2.2.2.2)
                    else none)))
            else
              (f_X9_fail v3.2.1 v3.2.2.1 3 v3.2.2.2.1).bind (fun v7 =>
                if v7.1 &&& 1 = v7.1 then
                  some (v7.1, v7.2.1, v7.2.2, v3.2.2.2.1, v3.2.2.2.2.1, v3.2.2.2.2.2.1, v3.2.2.2.2.2.2, cm, co, go, ki, lk)
                else none))
      else
        (f_X9_fail v2.2.1 v2.2.2.1 3 v2.2.2.2.1).bind (fun v8 =>
          if v8.1 &&& 1 = v8.1 then
            some (v8.1, v8.2.1, v8.2.2, v2.2.2.2.1, v2.2.2.2.2.1, v2.2.2.2.2.2.1, v2.2.2.2.2.2.2, cm, co, go, ki, lk)
          else none))
def hhN (hh : Int32) (h1 : Nat) : Int32 := if 4 ≤ h1 then hh else if nI h1 ≤ hh then hh else nI h1
section
variable {n : Nat} {bt tp : Nat → Int32} {T : Nat → Nat}
theorem rn_ok {pos p b v : Nat} (hCT : CT n bt pos p b 1 v) (f fp pl so va : Int32) : f_X9_readNumber f fp pl (nI pos) so va (nI n) bt = some (1, f, fp, nI p, nI b, nI 1, nI v) := by
  obtain ⟨vc, t1, t2⟩ := hCT pl so va
  have e := t2 rfl
  subst e
  unfold f_X9_readNumber
  rw [t1, sb]
  dsimp only
  rw [show f_X9_stands f fp (nI p) (nI 1) 1 = some (1, f, fp) from st_ok, sb, if_pos (show (1 : Int32) &&& 1 = 1 by decide)]
theorem rn_bad {pos p b c v : Nat} (hCT : CT n bt pos p b c v) (c4 : c ≤ 4) (hc : c ≠ 1) (f fp pl so va : Int32) : ∃ r, f_X9_readNumber f fp pl (nI pos) so va (nI n) bt = some (0, nI (fk c), nI p, r) := by
  obtain ⟨vc, t1, t2⟩ := hCT pl so va
  unfold f_X9_readNumber
  rw [t1, sb]
  dsimp only
  rw [show f_X9_stands f fp (nI p) (nI c) 1 = some (0, nI (fk c), nI p) from st_bad (x := 1) c4 (by omega) hc, sb, if_pos (show (0 : Int32) &&& 1 = 0 by decide)]
  exact ⟨_, rfl⟩
theorem mr_f {g : Nat} (hg : 0 < g ∧ g ≤ 6) {m pos bg so va w lo hi : Int32} : f_X12_readNumber m pos bg so va (nI g) w tp lo hi = some (0, pos, bg, so, va, nI g, w) := by
  unfold f_X12_readNumber
  rw [lk_f (fz hg).1, sb]
  dsimp only
  rw [tk_f (fz hg).2, sb]
theorem mr_bad {b p c v : Nat} {m so va f w lo hi : Int32} (h : TR p c v so va f w) (hc : c ≠ 1) : f_X12_readNumber m (nI b) (nI p) so va f w tp lo hi = some (0, nI b, nI p, so, va, nI (fk c), nI p) := by
  unfold f_X12_readNumber
  rw [lk_bad h hc, sb]
  dsimp only
  rw [tk_f (fz (fk_pos c)).2, sb]
theorem mr_big {v hi : Nat} {m pos bg w : Int32} (h : hi < v) (hv : v < 100) : f_X12_readNumber m pos bg 2 (nI v) 0 w tp 0 (nI hi) = some (0, pos, bg, 2, nI v, 3, bg) := by
  unfold f_X12_readNumber
  rw [lk_big h hv, sb]
  dsimp only
  rw [tk_f (f := 3) (by decide), sb]
theorem mr_ok {b p2 b2 c2 v2 v hi : Nat} {bg w : Int32} (hM : MT n tp b p2 b2 c2 v2) (h : v ≤ hi) (hh : hi < 100) : ∃ so va f w', f_X12_readNumber (nI n) (nI b) bg 2 (nI v) 0 w tp 0 (nI hi) = some (nI v, nI b2, nI p2, so, va, f, w') ∧ TR p2 c2 v2 so va f w' := by
  obtain ⟨so2, va2, f2, w2, k1, k2⟩ := hM bg 2 (nI v) w
  refine ⟨so2, va2, f2, w2, ?_, k2⟩
  unfold f_X12_readNumber
  rw [lk_ok h hh, sb]
  dsimp only
  rw [k1, sb]
theorem TR_1 {p v : Nat} {so va f w : Int32} (h : TR p 1 v so va f w) : so = 2 ∧ va = nI v ∧ f = 0 := by
  rcases h with ⟨q, -⟩ | ⟨-, q⟩ | ⟨q, -⟩ | ⟨q, -⟩ | ⟨q, -⟩
  · exact absurd q (by omega)
  · exact q
  · exact absurd q (by omega)
  · exact absurd q (by omega)
  · exact absurd q (by omega)
theorem TR_2 {p v : Nat} {so va f w : Int32} (h : TR p 2 v so va f w) : so = 3 ∧ f = 0 := by
  rcases h with ⟨q, -⟩ | ⟨q, -⟩ | ⟨-, q⟩ | ⟨q, -⟩ | ⟨q, -⟩
  · exact absurd q (by omega)
  · exact absurd q (by omega)
  · exact q
  · exact absurd q (by omega)
  · exact absurd q (by omega)
theorem e_addComer {cm : Nat} {co go ki lk : Nat → Int32} {x1 x2 x3 x4 : Int32} (c6 : cm < 6) : ∃ lk' : Nat → Int32, f_X1_addComer (nI cm) co go ki lk x1 x2 x3 x4 = some (nI (cm + 1), upd co cm x3, upd go cm x2, upd ki cm x1, lk') ∧ (∀ h, h < 4 → lk' (6 * h + cm) = x4) ∧ ∀ h, h < 4 → ∀ c, c < 6 → c ≠ cm → lk' (6 * h + c) = lk (6 * h + c) := by
  have st1 : ∀ f t (s : Nat → Int32), t < 4 → ((∀ h, h < t → s (6 * h + cm) = x4) ∧ ∀ h, h < 4 → ∀ c, c < 6 → c ≠ cm → s (6 * h + c) = lk (6 * h + c)) → ∃ s' : Nat → Int32, ((∀ h, h < t + 1 → s' (6 * h + cm) = x4) ∧ ∀ h, h < 4 → ∀ c, c < 6 → c ≠ cm → s' (6 * h + c) = lk (6 * h + c)) ∧ L_X1_addComer_33 (nI cm) x4 (f + 1) (nI t) s = L_X1_addComer_33 (nI cm) x4 f (nI (t + 1)) s' := fun f t s ht hs => by
    refine ⟨upd s (6 * t + cm) x4, ⟨fun h hh => ?_, fun h hh c hc hne => (upd_ne (by omega)).trans (hs.2 h hh c hc hne)⟩, ?_⟩
    · rw [upd_at]
      by_cases e : h = t
      · rw [if_pos (by omega)]
      · rw [if_neg (by omega)]; exact hs.1 h (by omega)
    · rw [L_X1_addComer_33, if_neg (show ¬ (4 : Int32) ≤ nI t from nI_ge (b := 4) ht (by omega)), e_setLiked ht c6, sb, nI_1]
  obtain ⟨r, h1, h2⟩ := lpP (L := fun f s c => L_X1_addComer_33 (nI cm) x4 f c s) (n := 4) (P := fun t s => (∀ h, h < t → s (6 * h + cm) = x4) ∧ ∀ h, h < 4 → ∀ c, c < 6 → c ≠ cm → s (6 * h + c) = lk (6 * h + c)) (Q := fun s => (∀ h, h < 4 → s (6 * h + cm) = x4) ∧ ∀ h, h < 4 → ∀ c, c < 6 → c ≠ cm → s (6 * h + c) = lk (6 * h + c)) (by omega) (fun f s h => ⟨s, by show L_X1_addComer_33 (nI cm) x4 (f + 1) (nI 4) s = _; rw [L_X1_addComer_33, if_pos (by decide)], h⟩) st1 (s0 := lk) ⟨fun i hi => absurd hi (Nat.not_lt_zero i), fun _ _ _ _ _ => rfl⟩
  have h1 : L_X1_addComer_33 (nI cm) x4 400 0 lk = some r := h1
  refine ⟨r, ?_, h2⟩
  unfold f_X1_addComer
  rw [if_pos (inb_nI c6 (by omega)), if_pos (inb_nI c6 (by omega)), if_pos (inb_nI c6 (by omega)), h1, sb, ix_nI (by omega), nI_1]
theorem l_rc123 {cm : Nat} {v8 : Int32 × Int32 × Int32 × Int32 × Int32 × Int32 × Int32} {y : Nat → Int32} (c6 : cm < 6) : ∃ b : Nat → Int32, L_X12_readComer_123 (nI cm) v8 400 0 y = some b ∧ (∀ h, h < 4 → b (22 + 6 * h + cm) = v8.1) ∧ ∀ j, (∀ h, h < 4 → j ≠ 22 + 6 * h + cm) → b j = y j := by
  have st1 : ∀ f t (s : Nat → Int32), t < 4 → ((∀ h, h < t → s (22 + 6 * h + cm) = v8.1) ∧ ∀ j, (∀ h, h < 4 → j ≠ 22 + 6 * h + cm) → s j = y j) → ∃ s' : Nat → Int32, ((∀ h, h < t + 1 → s' (22 + 6 * h + cm) = v8.1) ∧ ∀ j, (∀ h, h < 4 → j ≠ 22 + 6 * h + cm) → s' j = y j) ∧ L_X12_readComer_123 (nI cm) v8 (f + 1) (nI t) s = L_X12_readComer_123 (nI cm) v8 f (nI (t + 1)) s' := fun f t s ht hs => by
    refine ⟨upd s (22 + 6 * t + cm) v8.1, ⟨fun h hh => ?_, fun j hj => (upd_ne (hj t ht)).trans (hs.2 j hj)⟩, ?_⟩
    · rw [upd_at]
      by_cases e : h = t
      · rw [if_pos (by omega)]
      · rw [if_neg (by omega)]; exact hs.1 h (by omega)
    · rw [L_X12_readComer_123, if_neg (show ¬ (4 : Int32) ≤ nI t from nI_ge (b := 4) ht (by omega)), lkix, if_pos (inb_nI (by omega) (by omega)), ix_nI (by omega), nI_1]
  exact lpP (L := fun f s c => L_X12_readComer_123 (nI cm) v8 f c s) (n := 4) (P := fun t s => (∀ h, h < t → s (22 + 6 * h + cm) = v8.1) ∧ ∀ j, (∀ h, h < 4 → j ≠ 22 + 6 * h + cm) → s j = y j) (Q := fun s => (∀ h, h < 4 → s (22 + 6 * h + cm) = v8.1) ∧ ∀ j, (∀ h, h < 4 → j ≠ 22 + 6 * h + cm) → s j = y j) (by omega) (fun f s h => ⟨s, by show L_X12_readComer_123 (nI cm) v8 (f + 1) (nI 4) s = _; rw [L_X12_readComer_123, if_pos (by decide)], h⟩) st1 (s0 := y) ⟨fun i hi => absurd hi (Nat.not_lt_zero i), fun _ _ => rfl⟩
/-- what the reference's draft has of a comer more -/
def cmA (cm : Nat) (a a' : Nat → Int32) (x1 x2 x3 x4 : Int32) : Prop := a' (4 + 3 * cm) = x1 ∧ a' (4 + 3 * cm + 1) = x2 ∧ a' (4 + 3 * cm + 2) = x3 ∧ (∀ h, h < 4 → a' (22 + 6 * h + cm) = x4) ∧ ∀ j, j ≠ 4 + 3 * cm → j ≠ 4 + 3 * cm + 1 → j ≠ 4 + 3 * cm + 2 → (∀ h, h < 4 → j ≠ 22 + 6 * h + cm) → a' j = a j
theorem rc_eval {cm h1 : Nat} {hh m pos bg so va f w x1 f1 w1 f3 w3 : Int32} {a : Nat → Int32} {v4 : Int32 × Int32 × Int32 × Int32 × Int32 × Int32} {v7 v8 : Int32 × Int32 × Int32 × Int32 × Int32 × Int32 × Int32} (c6 : cm < 6) (h100 : h1 < 100) (e1 : f_X12_looked bg so va f w 0 9 = some (nI h1, f1, w1)) (e2 : f_X12_needs bg f1 w1 (if h1 < 4 ∨ h1 = 9 then 1 else 0) 3 = some (f3, w3)) (e3 : f_X12_takes m pos bg so va f3 w3 tp = some v4) (e4 : f_X12_readNumber m v4.1 v4.2.1 v4.2.2.1 v4.2.2.2.1 v4.2.2.2.2.1 v4.2.2.2.2.2 tp 0 6 = some v7) (e5 : f_X12_readNumber m v7.2.1 v7.2.2.1 v7.2.2.2.1 v7.2.2.2.2.1 v7.2.2.2.2.2.1 v7.2.2.2.2.2.2 tp 0 9 = some v8) : ∃ a', f_X12_readComer (nI cm) hh m pos bg so va f w a tp x1 = some (nI (cm + 1), hhN hh h1, v8.2.1, v8.2.2.1, v8.2.2.2.1, v8.2.2.2.2.1, v8.2.2.2.2.2.1, v8.2.2.2.2.2.2, a') ∧ cmA cm a a' x1 (goI h1) v7.1 v8.1 := by
  have i0 : (4 + 3 * nI cm + 0 : Int32) = nI (4 + 3 * cm) := ix_of (j := 0)
  have i1 : (4 + 3 * nI cm + 1 : Int32) = nI (4 + 3 * cm + 1) := ix_of (j := 1)
  have i2 : (4 + 3 * nI cm + 2 : Int32) = nI (4 + 3 * cm + 2) := ix_of (j := 2)
  obtain ⟨b, b1, b2, b3⟩ := l_rc123 (v8 := v8) (y := upd (upd (upd a (4 + 3 * cm) x1) (4 + 3 * cm + 1) (goI h1)) (4 + 3 * cm + 2) v7.1) c6
  have hv : (if nI h1 < 4 then some 1 else (if nI h1 = 9 then some 1 else some 0)) = some (if h1 < 4 ∨ h1 = 9 then (1 : Int32) else 0) := by
    by_cases q : h1 < 4
    · rw [if_pos (show nI h1 < 4 from nI_lt (b := 4) q (by omega)), if_pos (Or.inl q)]
    · rw [if_neg (show ¬ nI h1 < 4 from nI_nlt (b := 4) (by omega) (by omega))]
      by_cases q9 : h1 = 9
      · rw [q9, if_pos (by decide), if_pos (Or.inr rfl)]
      · rw [if_neg (show ¬ nI h1 = 9 from fun y => q9 ((nI_eq (b := 9) (by omega) (by omega)).mp y)), if_neg (by omega)]
  have hw : (if 4 ≤ nI h1 then some hh else (if nI h1 ≤ hh then some hh else some (nI h1))) = some (hhN hh h1) := by
    unfold hhN
    by_cases q : 4 ≤ h1
    · rw [if_pos (show 4 ≤ nI h1 from nI_le (a := 4) q (by omega)), if_pos q]
    · rw [if_neg (show ¬ 4 ≤ nI h1 from nI_ge (b := 4) (by omega) (by omega)), if_neg q]
      split <;> rfl
  have hg : (if nI h1 = 9 then some (-4) else some (nI h1)) = some (goI h1) := by
    unfold goI
    by_cases q9 : h1 = 9
    · rw [q9, if_pos (by decide), if_pos rfl]
    · rw [if_neg (show ¬ nI h1 = 9 from fun y => q9 ((nI_eq (b := 9) (by omega) (by omega)).mp y)), if_neg q9]
  refine ⟨b, ?_, ?_, ?_, ?_, b2, fun j j1 j2 j3 j4 => ?_⟩
  · unfold f_X12_readComer
    rw [e1, sb]
    dsimp only
    rw [hv, sb, e2, sb]
    dsimp only
    rw [e3, sb, hw, sb, i0, i1, i2, if_pos (inb_nI (by omega) (by omega)), hg, sb, if_pos (inb_nI (by omega) (by omega)), e4, sb, if_pos (inb_nI (by omega) (by omega)), e5, sb, ix_nI (by omega), ix_nI (by omega), ix_nI (by omega), b1, sb, nI_1]
  · rw [b3 _ (fun h hh => by omega), upd_at, if_neg (by omega), upd_at, if_neg (by omega), upd_at, if_pos rfl]
  · rw [b3 _ (fun h hh => by omega), upd_at, if_neg (by omega), upd_at, if_pos rfl]
  · rw [b3 _ (fun h hh => by omega), upd_at, if_pos rfl]
  · rw [b3 _ j4, upd_at, if_neg j3, upd_at, if_neg j2, upd_at, if_neg j1]
/-- a fault met with the comer's house -/
theorem rc_f1 {cm h1 g p0 : Nat} {hh m pos bg so va f w x1 f1 w1 : Int32} {a : Nat → Int32} (c6 : cm < 6) (h100 : h1 < 100) (hg : 0 < g ∧ g ≤ 6) (e1 : f_X12_looked bg so va f w 0 9 = some (nI h1, f1, w1)) (e2 : f_X12_needs bg f1 w1 (if h1 < 4 ∨ h1 = 9 then 1 else 0) 3 = some (nI g, nI p0)) : ∃ rm, f_X12_readComer (nI cm) hh m pos bg so va f w a tp x1 = some rm ∧ bad g p0 rm.2.2.2.1 rm.2.2.2.2.1 rm.2.2.2.2.2.2.1 rm.2.2.2.2.2.2.2.1 := by
  obtain ⟨a', r, -⟩ := rc_eval (tp := tp) (cm := cm) (hh := hh) (m := m) (pos := pos) (x1 := x1) (a := a) (v4 := (pos, bg, so, va, nI g, nI p0)) (v7 := (0, pos, bg, so, va, nI g, nI p0)) (v8 := (0, pos, bg, so, va, nI g, nI p0)) c6 h100 e1 e2 (tk_f (fz hg).2) (mr_f hg) (mr_f hg)
  exact ⟨_, r, Or.inl ⟨rfl, rfl⟩⟩
theorem rc_hd {pos p b v cm : Nat} (hCT : CT n bt pos p b 1 v) (c6 : cm < 6) (v100 : v < 100) (hv : v < 4 ∨ v = 9) (f fp pl so va x1 : Int32) (co go ki lk : Nat → Int32) : f_X9_readComer f fp pl (nI pos) so va (nI cm) co go ki lk (nI n) bt x1 = rcC (nI n) bt (nI cm) co go ki lk x1 (nI v) f fp (nI p) (nI b) (nI 1) (nI v) := by
  unfold f_X9_readComer
  rw [if_pos (show nI cm < 6 from nI_lt (b := 6) c6 (by omega)), rn_ok hCT, sb, if_neg n10]
  rcases hv with hv | hv
  · rw [if_pos (show nI v < 4 from nI_lt (b := 4) hv (by omega))]
    rfl
  · rw [if_neg (show ¬ nI v < 4 from nI_nlt (b := 4) (by omega) (by omega)), if_pos (show nI v = 9 by rw [hv]; rfl)]
    rfl
theorem c_sim (h : TP n bt tp T) {cm pos p b c v : Nat} {so va fl w : Int32} (c6 : cm < 6) (pb : p ≤ b) (bn : b ≤ n) (c4 : c ≤ 4) (v100 : v < 100) (hCT : CT n bt pos p b c v) (hTR : TR p c v so va fl w) (f fp pl sc vc hh x1 : Int32) (co go ki lk a : Nat → Int32) :
    (∃ g0 p0 r rm, 0 < g0 ∧ g0 ≤ 6 ∧ p0 ≤ n ∧ f_X9_readComer f fp pl (nI pos) sc vc (nI cm) co go ki lk (nI n) bt x1 = some (0, nI g0, nI p0, r) ∧ f_X12_readComer (nI cm) hh (nI n) (nI b) (nI p) so va fl w a tp x1 = some rm ∧ bad g0 p0 rm.2.2.2.1 rm.2.2.2.2.1 rm.2.2.2.2.2.2.1 rm.2.2.2.2.2.2.2.1) ∨
    (∃ (h1 t1 mu b1 : Nat) (q1 q2 q3 q4 q5 q6 q7 : Int32) (lk' a' : Nat → Int32), (h1 < 4 ∨ h1 = 9) ∧ t1 ≤ 6 ∧ mu ≤ 9 ∧ b1 ≤ n ∧ f_X9_readComer f fp pl (nI pos) sc vc (nI cm) co go ki lk (nI n) bt x1 = some (1, f, q1, q2, nI b1, q3, q4, nI (cm + 1), upd co cm (nI t1), upd go cm (nI h1), upd ki cm x1, lk') ∧ f_X12_readComer (nI cm) hh (nI n) (nI b) (nI p) so va fl w a tp x1 = some (nI (cm + 1), hhN hh h1, nI b1, q5, 3, q6, 0, q7, a') ∧ cmA cm a a' x1 (goI h1) (nI t1) (nI mu) ∧ (∀ h, h < 4 → lk' (6 * h + cm) = nI mu) ∧ ∀ h, h < 4 → ∀ c, c < 6 → c ≠ cm → lk' (6 * h + c) = lk (6 * h + c)) := by
  have hn := h.1
  have lt6 : nI cm < 6 := nI_lt (b := 6) c6 (by omega)
  by_cases z1 : c = 1
  · subst z1
    obtain ⟨rfl, rfl, rfl⟩ := TR_1 hTR
    by_cases vv : v < 4 ∨ v = 9
    · have e1 : f_X12_looked (nI p) 2 (nI v) 0 w 0 9 = some (nI v, 0, w) := lk_ok (hi := 9) (by omega) (by omega)
      have e2 : f_X12_needs (nI p) 0 w (if v < 4 ∨ v = 9 then 1 else 0) 3 = some (0, w) := by rw [if_pos vv]; exact ml_1
      obtain ⟨p2, b2, c2, v2, m1, m2, m3, m4, -, m6, m7, m8⟩ := tok h (pos := b) bn
      obtain ⟨so2, va2, f2, w2, e3, k2⟩ := m8 (nI p) 2 (nI v) w
      rw [rc_hd hCT c6 v100 vv]
      by_cases z2 : c2 = 1
      · subst z2
        obtain ⟨rfl, rfl, rfl⟩ := TR_1 k2
        by_cases v26 : v2 ≤ 6
        · obtain ⟨p3, b3, c3, v3, l1, l2, l3, l4, -, l6, l7, l8⟩ := tok h (pos := b2) m3
          obtain ⟨so3, va3, f3, w3, e4, k3⟩ := mr_ok (bg := nI p2) (w := w2) l8 (hi := 6) v26 (by omega)
          by_cases z3 : c3 = 1
          · subst z3
            obtain ⟨rfl, rfl, rfl⟩ := TR_1 k3
            by_cases v39 : v3 ≤ 9
            · obtain ⟨p4, b4, c4', v4, j1, j2, j3, j4, -, j6, j7, j8⟩ := tok h (pos := b3) l3
              obtain ⟨so4, va4, f4, w4, e5, k4⟩ := mr_ok (bg := nI p3) (w := w3) j8 (hi := 9) v39 (by omega)
              obtain ⟨a', r1, r2⟩ := rc_eval (tp := tp) (hh := hh) (x1 := x1) (a := a) (v4 := (nI b2, nI p2, 2, nI v2, 0, w2)) (v7 := (nI v2, nI b3, nI p3, 2, nI v3, 0, w3)) (v8 := (nI v3, nI b4, nI p4, so4, va4, f4, w4)) c6 v100 e1 e2 e3 e4 e5
              obtain ⟨lk', s1, s2, s3⟩ := e_addComer (co := co) (go := go) (ki := ki) (lk := lk) (x1 := x1) (x2 := nI v) (x3 := nI v2) (x4 := nI v3) c6
              obtain ⟨vc4, t1, -⟩ := j7 (nI p3) (nI 1) (nI v3)
              have hd : ∀ F, ((f_X9_stands f fp (nI p4) (nI c4') 2).bind (fun v6 => if v6.1 &&& 1 = v6.1 then some (v6.1, v6.2.1, v6.2.2, nI p4, nI b4, nI c4', vc4, nI (cm + 1), upd co cm (nI v2), upd go cm (nI v), upd ki cm x1, lk') else none)) = F → rcC (nI n) bt (nI cm) co go ki lk x1 (nI v) f fp (nI p) (nI b) (nI 1) (nI v) = F := fun F hF => by
                unfold rcC
                rw [rn_ok m7, sb, if_neg n10]
                dsimp only
                rw [if_pos (show nI v2 ≤ 6 from nI_le (b := 6) v26 (by omega)), rn_ok l7, sb, if_neg n10]
                dsimp only
                rw [if_pos (show nI v3 ≤ 9 from nI_le (b := 9) v39 (by omega)), s1, sb, t1, sb]
                exact hF
              by_cases z4 : c4' = 2
              · subst z4
                obtain ⟨rfl, rfl⟩ := TR_2 k4
                refine Or.inr ⟨v, v2, v3, b4, fp, nI p4, nI 2, vc4, nI p4, va4, w4, lk', a', vv, v26, v39, j3, hd _ ?_, r1, r2, s2, s3⟩
                rw [show f_X9_stands f fp (nI p4) (nI 2) 2 = some (1, f, fp) from st_ok, sb, if_pos (show (1 : Int32) &&& 1 = 1 by decide)]
              · refine Or.inl ⟨fk c4', p4, (nI p4, nI b4, nI c4', vc4, nI (cm + 1), upd co cm (nI v2), upd go cm (nI v), upd ki cm x1, lk'), _, (fk_pos c4').1, (fk_pos c4').2, by omega, hd _ ?_, r1, bad_tok k4 z4⟩
                rw [show f_X9_stands f fp (nI p4) (nI c4') 2 = some (0, nI (fk c4'), nI p4) from st_bad (x := 2) j4 (by omega) z4, sb, if_pos (show (0 : Int32) &&& 1 = 0 by decide)]
            · obtain ⟨a', r1, -⟩ := rc_eval (tp := tp) (hh := hh) (x1 := x1) (a := a) (v4 := (nI b2, nI p2, 2, nI v2, 0, w2)) (v7 := (nI v2, nI b3, nI p3, 2, nI v3, 0, w3)) (v8 := (0, nI b3, nI p3, 2, nI v3, 3, nI p3)) c6 v100 e1 e2 e3 e4 (mr_big (hi := 9) (by omega) l6)
              refine Or.inl ⟨3, p3, (nI p3, nI b3, nI 1, nI v3, nI cm, co, go, ki, lk), _, by omega, by omega, by omega, ?_, r1, Or.inl ⟨rfl, rfl⟩⟩
              unfold rcC
              rw [rn_ok m7, sb, if_neg n10]
              dsimp only
              rw [if_pos (show nI v2 ≤ 6 from nI_le (b := 6) v26 (by omega)), rn_ok l7, sb, if_neg n10]
              dsimp only
              rw [if_neg (show ¬ nI v3 ≤ 9 from nI_ge (a := 9) (by omega) (by omega)), flb]
              rfl
          · obtain ⟨a', r1, -⟩ := rc_eval (tp := tp) (hh := hh) (x1 := x1) (a := a) (v4 := (nI b2, nI p2, 2, nI v2, 0, w2)) (v7 := (nI v2, nI b3, nI p3, so3, va3, f3, w3)) (v8 := (0, nI b3, nI p3, so3, va3, nI (fk c3), nI p3)) c6 v100 e1 e2 e3 e4 (mr_bad k3 z3)
            obtain ⟨r, rb⟩ := rn_bad l7 l4 z3 f fp (nI p2) (nI 1) (nI v2)
            refine Or.inl ⟨fk c3, p3, (r.1, r.2.1, r.2.2.1, r.2.2.2, nI cm, co, go, ki, lk), _, (fk_pos c3).1, (fk_pos c3).2, by omega, ?_, r1, Or.inl ⟨rfl, rfl⟩⟩
            unfold rcC
            rw [rn_ok m7, sb, if_neg n10]
            dsimp only
            rw [if_pos (show nI v2 ≤ 6 from nI_le (b := 6) v26 (by omega)), rb, sb, if_pos rfl]
        · obtain ⟨a', r1, -⟩ := rc_eval (tp := tp) (hh := hh) (x1 := x1) (a := a) (v4 := (nI b2, nI p2, 2, nI v2, 0, w2)) (v7 := (0, nI b2, nI p2, 2, nI v2, 3, nI p2)) (v8 := (0, nI b2, nI p2, 2, nI v2, 3, nI p2)) c6 v100 e1 e2 e3 (mr_big (hi := 6) (by omega) m6) (mr_f (g := 3) (by omega))
          refine Or.inl ⟨3, p2, (nI p2, nI b2, nI 1, nI v2, nI cm, co, go, ki, lk), _, by omega, by omega, by omega, ?_, r1, Or.inl ⟨rfl, rfl⟩⟩
          unfold rcC
          rw [rn_ok m7, sb, if_neg n10]
          dsimp only
          rw [if_neg (show ¬ nI v2 ≤ 6 from nI_ge (a := 6) (by omega) (by omega)), flb]
          rfl
      · obtain ⟨a', r1, -⟩ := rc_eval (tp := tp) (hh := hh) (x1 := x1) (a := a) (v4 := (nI b2, nI p2, so2, va2, f2, w2)) (v7 := (0, nI b2, nI p2, so2, va2, nI (fk c2), nI p2)) (v8 := (0, nI b2, nI p2, so2, va2, nI (fk c2), nI p2)) c6 v100 e1 e2 e3 (mr_bad k2 z2) (mr_f (fk_pos c2))
        obtain ⟨r, rb⟩ := rn_bad m7 m4 z2 f fp (nI p) (nI 1) (nI v)
        refine Or.inl ⟨fk c2, p2, (r.1, r.2.1, r.2.2.1, r.2.2.2, nI cm, co, go, ki, lk), _, (fk_pos c2).1, (fk_pos c2).2, by omega, ?_, r1, Or.inl ⟨rfl, rfl⟩⟩
        unfold rcC
        rw [rb, sb, if_pos rfl]
    · -- no such house can be
      have cl : f_X9_readComer f fp pl (nI pos) sc vc (nI cm) co go ki lk (nI n) bt x1 = some (0, 3, nI p, nI p, nI b, nI 1, nI v, nI cm, co, go, ki, lk) := by
        unfold f_X9_readComer
        rw [if_pos lt6, rn_ok hCT, sb, if_neg n10]
        dsimp only
        rw [if_neg (show ¬ nI v < 4 from nI_nlt (b := 4) (by omega) (by omega)), if_neg (show ¬ nI v = 9 from fun y => vv (Or.inr ((nI_eq (b := 9) (by omega) (by omega)).mp y))), flb]
      by_cases v9 : v ≤ 9
      · obtain ⟨rm, r1, r2⟩ := rc_f1 (tp := tp) (g := 3) (p0 := p) (hh := hh) (m := nI n) (pos := nI b) (x1 := x1) (a := a) c6 v100 (by omega) (lk_ok (bg := nI p) (w := w) (hi := 9) v9 (by omega)) (by rw [if_neg vv]; exact ml_0)
        exact Or.inl ⟨3, p, _, rm, by omega, by omega, by omega, cl, r1, r2⟩
      · obtain ⟨rm, r1, r2⟩ := rc_f1 (tp := tp) (h1 := 0) (g := 3) (p0 := p) (hh := hh) (m := nI n) (pos := nI b) (x1 := x1) (a := a) c6 (by omega) (by omega) (lk_big (bg := nI p) (w := w) (hi := 9) (by omega) v100) (ml_f n30)
        exact Or.inl ⟨3, p, _, rm, by omega, by omega, by omega, cl, r1, r2⟩
  · obtain ⟨r, rb⟩ := rn_bad hCT c4 z1 f fp pl sc vc
    obtain ⟨rm, r1, r2⟩ := rc_f1 (tp := tp) (h1 := 0) (g := fk c) (p0 := p) (hh := hh) (m := nI n) (pos := nI b) (x1 := x1) (a := a) c6 (by omega) (fk_pos c) (lk_bad hTR z1) (ml_f (fz (fk_pos c)).1)
    refine Or.inl ⟨fk c, p, (r.1, r.2.1, r.2.2.1, r.2.2.2, nI cm, co, go, ki, lk), rm, (fk_pos c).1, (fk_pos c).2, by omega, ?_, r1, r2⟩
    unfold f_X9_readComer
    rw [if_pos lt6, rb, sb, if_pos rfl]
end
