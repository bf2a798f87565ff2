/-! a house's list, a comer, on both sides -/
theorem n20 : ¬ (2 : Int32) = 0 := by decide
theorem n30 : ¬ (3 : Int32) = 0 := by decide
theorem st_ok {f fp pl so : Int32} : f_X9_stands f fp pl so so = some (1, f, fp) := by
  unfold f_X9_stands
  rw [if_pos rfl]
theorem st_no {f fp pl so x : Int32} (h : ¬ so = x) (h4 : ¬ so = 4) : f_X9_stands f fp pl so x = some (0, 2, pl) := by
  unfold f_X9_stands f_X9_fail
  rw [if_neg h, if_neg h4, sb, sb, if_pos (show (0 : Int32) &&& 1 = 0 by decide)]
theorem st_wr {f fp pl x : Int32} (h : ¬ (4 : Int32) = x) : f_X9_stands f fp pl 4 x = some (0, 1, pl) := by
  unfold f_X9_stands f_X9_fail
  rw [if_neg h, if_pos rfl, sb, sb, if_pos (show (0 : Int32) &&& 1 = 0 by decide)]
/-- the fault of a token that is not the one that may stand there -/
def fk (c : Nat) : Nat := if c = 4 then 1 else 2
theorem fk_pos (c : Nat) : 0 < fk c ∧ fk c ≤ 6 := by unfold fk; split <;> omega
theorem st_bad {f fp pl : Int32} {c x : Nat} (hc : c ≤ 4) (hx : x ≤ 3) (h : c ≠ x) : f_X9_stands f fp pl (nI c) (nI x) = some (0, nI (fk c), pl) := by
  unfold fk
  by_cases q : c = 4
  · subst q
    rw [if_pos rfl]
    exact st_wr (fun y => h ((nI_eq (a := 4) (by omega) (by omega)).mp y))
  · rw [if_neg q]
    exact st_no (fun y => h ((nI_eq (by omega) (by omega)).mp y)) (fun y => q ((nI_eq (b := 4) (by omega) (by omega)).mp y))
theorem ml_1 {bg f w c : Int32} : f_X12_needs bg f w 1 c = some (f, w) := by
  unfold f_X12_needs
  rw [if_neg n10]
theorem ml_0 {bg w c : Int32} : f_X12_needs bg 0 w 0 c = some (c, bg) := by
  unfold f_X12_needs
  rw [if_pos rfl, if_pos rfl]
theorem ml_f {bg f w x c : Int32} (h : ¬ f = 0) : f_X12_needs bg f w x c = some (f, w) := by
  unfold f_X12_needs
  rw [if_neg h]
  split <;> rfl
theorem fz {g : Nat} (h : 0 < g ∧ g ≤ 6) : ¬ nI g = 0 ∧ ¬ nI g ≤ 0 := ⟨nI_ne0 h.1 (by omega), nI_nle h.1 (by omega)⟩
theorem tk_f {n pos bg so va f w : Int32} {tp : Nat → Int32} (h : ¬ f ≤ 0) : f_X12_takes n pos bg so va f w tp = some (pos, bg, so, va, f, w) := by
  unfold f_X12_takes
  rw [if_neg h]
theorem lk_f {bg so va f w lo hi : Int32} (h : ¬ f = 0) : f_X12_looked bg so va f w lo hi = some (0, f, w) := by
  unfold f_X12_looked
  rw [if_neg h, sb, if_neg h, sb, if_neg h]
theorem lk_s {bg so va w lo hi : Int32} (h : ¬ so = 2) : f_X12_looked bg so va 0 w lo hi = some (0, 2, bg) := by
  unfold f_X12_looked
  rw [if_pos rfl, if_neg h, sb, ml_0, sb, sb, if_neg n20, sb, if_neg n20]
theorem lk_ok {bg w : Int32} {v hi : Nat} (h : v ≤ hi) (hh : hi < 100) : f_X12_looked bg 2 (nI v) 0 w 0 (nI hi) = some (nI v, 0, w) := by
  unfold f_X12_looked
  rw [if_pos rfl, if_pos rfl, sb, ml_1, sb, sb, if_pos rfl, e_in, if_pos ⟨nI_pos' (by omega), nI_le h (by omega)⟩, sb, ml_1, sb, sb, if_pos rfl]
theorem lk_big {bg w : Int32} {v hi : Nat} (h : hi < v) (hh : v < 100) : f_X12_looked bg 2 (nI v) 0 w 0 (nI hi) = some (0, 3, bg) := by
  unfold f_X12_looked
  rw [if_pos rfl, if_pos rfl, sb, ml_1, sb, sb, if_pos rfl, e_in, if_neg (fun y => nI_ge h (by omega) y.2), sb, ml_0, sb, sb, if_neg n30]
theorem lk_bad {p c v : Nat} {so va f w lo hi : Int32} (h : TR p c v so va f w) (hc : c ≠ 1) : f_X12_looked (nI p) so va f w lo hi = some (0, nI (fk c), nI p) := by
  rcases h with ⟨rfl, rfl, rfl⟩ | ⟨rfl, -⟩ | ⟨rfl, rfl, rfl⟩ | ⟨rfl, rfl, rfl⟩ | ⟨rfl, rfl, rfl⟩
  · exact lk_s (by decide)
  · exact absurd rfl hc
  · exact lk_s (by decide)
  · exact lk_s (by decide)
  · exact lk_f (by decide)
/-- the reference's end of a line, when it is a fault -/
def bad (g p : Nat) (bg so f w : Int32) : Prop := (f = nI g ∧ w = nI p) ∨ (g = 2 ∧ f = 0 ∧ ¬ so = 3 ∧ bg = nI p)
theorem bad_tok {p c v : Nat} {so va f w : Int32} (h : TR p c v so va f w) (hc : c ≠ 2) : bad (fk c) p (nI p) so f w := by
  rcases h with ⟨rfl, rfl, rfl⟩ | ⟨rfl, rfl, -, rfl⟩ | ⟨rfl, -⟩ | ⟨rfl, rfl, rfl⟩ | ⟨rfl, rfl, rfl⟩
  · exact Or.inr ⟨rfl, rfl, by decide, rfl⟩
  · exact Or.inr ⟨rfl, rfl, by decide, rfl⟩
  · exact absurd rfl hc
  · exact Or.inr ⟨rfl, rfl, by decide, rfl⟩
  · exact Or.inl ⟨rfl, rfl⟩
theorem or_cnt : ∀ l, l < 64 → ∀ v, v < 6 → l.testBit v = false → cnt (fun c => (l ||| 2 ^ v).testBit c) 6 = cnt (fun c => l.testBit c) 6 + 1 := by decide +kernel
theorem orl_lt : ∀ l, l < 64 → ∀ v, v < 6 → l ||| 2 ^ v < 64 := by decide +kernel
theorem or_2m : ∀ l, l < 64 → ∀ v, v < 6 → ∀ m, m < 7 → (l ||| 2 ^ v < 2 ^ m ↔ l < 2 ^ m ∧ v < m) := by decide +kernel
theorem mx_I {x : Int32} {v m : Nat} (hm : m < 100) (hv : v < 100) : (if nI v ≤ x then x else nI v) < nI m ↔ x < nI m ∧ v < m := by
  by_cases q : nI v ≤ x
  · rw [if_pos q]
    constructor
    · intro h
      refine ⟨h, ?_⟩
      have a := Int32.le_iff_toInt_le.mp q
      have b := Int32.lt_iff_toInt_lt.mp h
      rw [nI_toInt (by omega)] at a b
      omega
    · exact fun h => h.1
  · rw [if_neg q]
    constructor
    · intro h
      have h2 := (nI_ltI (by omega) (by omega)).mp h
      refine ⟨?_, h2⟩
      have a : ¬ (nI v).toInt ≤ x.toInt := fun z => q (Int32.le_iff_toInt_le.mpr z)
      rw [nI_toInt (by omega)] at a
      rw [Int32.lt_iff_toInt_lt, nI_toInt (by omega)]
      omega
    · exact fun h => nI_lt h.2 (by omega)
theorem flb {α : Type} {a b c pl : Int32} {K : Int32 × Int32 × Int32 → α} : (f_X9_fail a b c pl).bind (fun v => if v.1 &&& 1 = v.1 then some (K v) else none) = some (K (0, c, pl)) := by
  unfold f_X9_fail
  rw [sb, if_pos (show (0 : Int32) &&& 1 = 0 by decide)]
section
variable {n : Nat} {bt tp : Nat → Int32} {T : Nat → Nat}
theorem h_sim (h : TP n bt tp T) {hs : Nat} (hs4 : hs < 4) {v1 : Int32 × (Nat → Int32)} {y3 : Int32} {hc0 : Int32} : ∀ (d i l pos p b c v f g : Nat) (y4 y5 y7 y8 hc so va fl w : Int32) (y9 : Nat → Int32), i + d = 7 → l < 64 → cnt (fun c => l.testBit c) 6 = i → d < f → d < g → y9 hs = nI l → (∀ m, m < 7 → (hc < nI m ↔ hc0 < nI m ∧ l < 2 ^ m)) → p ≤ b → b ≤ n → c ≤ 4 → v < 100 → CT n bt pos p b c v → TR p c v so va fl w →
    (∃ g0 p0 r rm, 0 < g0 ∧ g0 ≤ 6 ∧ p0 ≤ n ∧ L_X9_readHouse_38 (nI hs) (nI n) bt v1 f (nI i) y3 y4 y5 (nI pos) y7 y8 y9 = some (.inl (0, nI g0, nI p0, r)) ∧ L_X12_readHouse_2 (nI n) tp g (nI l) hc (nI b) (nI p) so va fl w = some rm ∧ bad g0 p0 rm.2.2.2.1 rm.2.2.2.2.1 rm.2.2.2.2.2.2.1 rm.2.2.2.2.2.2.2) ∨
    (∃ (l1 b1 : Nat) (hc1 q1 q2 q3 q4 q5 q6 q7 : Int32) (y9' : Nat → Int32), l1 < 64 ∧ b1 ≤ n ∧ L_X9_readHouse_38 (nI hs) (nI n) bt v1 f (nI i) y3 y4 y5 (nI pos) y7 y8 y9 = some (.inl (1, y3, q1, q2, nI b1, q3, q4, v1.1, y9')) ∧ L_X12_readHouse_2 (nI n) tp g (nI l) hc (nI b) (nI p) so va fl w = some (nI l1, hc1, nI b1, q5, 3, q6, 0, q7) ∧ y9' hs = nI l1 ∧ (∀ j, j ≠ hs → y9' j = y9 j) ∧ ∀ m, m < 7 → (hc1 < nI m ↔ hc0 < nI m ∧ l1 < 2 ^ m)) := by
  have hn := h.1
  intro d
  induction d with
  | zero =>
    intro i l pos p b c v f g y4 y5 y7 y8 hc so va fl w y9 e l6 hl
    have := cnt_le (fun c => l.testBit c) 6
    omega
  | succ d ih =>
    intro i l pos p b c v f g y4 y5 y7 y8 hc so va fl w y9 e l6 hl hf hg hy hhc pb bn c4 v100 hCT hTR
    obtain ⟨f, rfl⟩ : ∃ f', f = f' + 1 := ⟨f - 1, by omega⟩
    obtain ⟨g, rfl⟩ : ∃ g', g = g' + 1 := ⟨g - 1, by omega⟩
    obtain ⟨vc, t1, t2⟩ := hCT y5 y7 y8
    have hle := cnt_le (fun c => l.testBit c) 6
    have n6 : ¬ (6 : Int32) < nI i := nI_nlt (a := 6) (by omega) (by omega)
    by_cases z2 : c = 2
    · -- the stop
      subst z2
      obtain ⟨-, rfl, rfl⟩ : (2 : Nat) = 2 ∧ so = 3 ∧ fl = 0 := by
        rcases hTR with ⟨q, -⟩ | ⟨q, -⟩ | q | ⟨q, -⟩ | ⟨q, -⟩
        · exact absurd q (by omega)
        · exact absurd q (by omega)
        · exact q
        · exact absurd q (by omega)
        · exact absurd q (by omega)
      refine Or.inr ⟨l, b, hc, y4, nI p, 2, vc, nI p, va, w, y9, l6, bn, ?_, ?_, hy, fun _ _ => rfl, hhc⟩
      · rw [L_X9_readHouse_38, if_neg n6, t1, sb, if_pos (show nI 2 = 2 from rfl)]
        rfl
      · rw [L_X12_readHouse_2, if_pos rfl, if_neg (by decide)]
    · have n2 : ¬ nI c = 2 := fun y => z2 ((nI_eq (b := 2) (by omega) (by omega)).mp y)
      by_cases z1 : c = 1
      · subst z1
        have ev := t2 rfl
        subst ev
        obtain ⟨-, rfl, rfl, rfl⟩ : (1 : Nat) = 1 ∧ so = 2 ∧ va = nI v ∧ fl = 0 := by
          rcases hTR with ⟨q, -⟩ | q | ⟨q, -⟩ | ⟨q, -⟩ | ⟨q, -⟩
          · exact absurd q (by omega)
          · exact q
          · exact absurd q (by omega)
          · exact absurd q (by omega)
          · exact absurd q (by omega)
        have ck : ∀ (F : Option ((Int32 × Int32 × Int32 × Int32 × Int32 × Int32 × Int32 × Int32 × (Nat → Int32)) ⊕ (Int32 × Int32 × Int32 × Int32 × Int32 × Int32 × (Nat → Int32)))), (if nI v < 6 then (f_X1_onList y9 (nI hs) (nI v)).bind (fun (v12 : Int32) => if v12 = 0 then (f_X1_setOnList y9 (nI hs) (nI v) 1).bind (fun (v13 : Nat → Int32) => L_X9_readHouse_38 (nI hs) (nI n) bt v1 f (nI i + 1) y3 y4 (nI p) (nI b) (nI 1) (nI v) v13) else some (.inl (0, 4, nI p, nI p, nI b, nI 1, nI v, v1.1, y9))) else some (.inl (0, 3, nI p, nI p, nI b, nI 1, nI v, v1.1, y9))) = F → L_X9_readHouse_38 (nI hs) (nI n) bt v1 (f + 1) (nI i) y3 y4 y5 (nI pos) y7 y8 y9 = F := fun F hF => by
          rw [L_X9_readHouse_38, if_neg n6, t1, sb, if_neg n2]
          dsimp only
          rw [show f_X9_stands y3 y4 (nI p) (nI 1) 1 = some (1, y3, y4) from st_ok, sb, if_neg n10, ← hF]
          dsimp only
          rw [flb, flb]
        have mxs : ∀ x : Int32, (if x ≤ hc then some hc else some x) = some (if x ≤ hc then hc else x) := fun x => by split <;> rfl
        by_cases v6 : v < 6
        · have rl : f_X12_looked (nI p) 2 (nI v) 0 w 0 5 = some (nI v, 0, w) := lk_ok (hi := 5) (by omega) (by omega)
          have vl6 : nI v < 6 := nI_lt (b := 6) v6 (by omega)
          by_cases tb : l.testBit v = true
          · -- twice
            refine Or.inl ⟨4, p, (nI p, nI b, nI 1, nI v, v1.1, y9), (nI l ||| ((1 : Int32) <<< (nI v &&& 31)), (if nI v ≤ hc then hc else nI v), nI b, nI p, 2, nI v, 4, nI p), by omega, by omega, by omega, ck _ ?_, ?_, Or.inl ⟨rfl, rfl⟩⟩
            · rw [if_pos vl6, e_onList hs4 v6 hy l6, if_pos tb, sb, if_neg n10]
              rfl
            · rw [L_X12_readHouse_2, if_pos rfl, if_pos rfl, rl, sb]
              dsimp only
              rw [if_neg (fun y => by have := (bt_get0 l l6 v v6).mp y; rw [tb] at this; cases this), sb, ml_0, sb, mxs, sb, tk_f (f := 4) (by decide), sb]
              obtain ⟨g, rfl⟩ : ∃ g', g = g' + 1 := ⟨g - 1, by omega⟩
              rw [L_X12_readHouse_2, if_neg (show ¬ (4 : Int32) = 0 by decide)]
          · have tb : l.testBit v = false := by simpa using tb
            obtain ⟨p2, b2, c2, v2, m1, m2, m3, m4, -, m6, m7, m8⟩ := tok h (pos := b) bn
            obtain ⟨so2, va2, f2, w2, k1, k2⟩ := m8 (nI p) 2 (nI v) w
            have eo : onN l v (decide (¬ (1 : Int32) = 0)) = l ||| 2 ^ v := rfl
            have ih := ih (i + 1) (l ||| 2 ^ v) b p2 b2 c2 v2 f g y4 (nI p) (nI 1) (nI v) (if nI v ≤ hc then hc else nI v) so2 va2 f2 w2 (upd y9 hs (nI (l ||| 2 ^ v))) (by omega) (orl_lt l l6 v v6) (by rw [or_cnt l l6 v v6 tb, hl]) (by omega) (by omega) (by rw [upd_at, if_pos rfl]) (fun m hm => by rw [mx_I (by omega) (by omega), hhc m hm, or_2m l l6 v v6 m hm, and_assoc]) m2 m3 m4 m6 m7 k2
            have e1 : L_X9_readHouse_38 (nI hs) (nI n) bt v1 (f + 1) (nI i) y3 y4 y5 (nI pos) y7 y8 y9 = L_X9_readHouse_38 (nI hs) (nI n) bt v1 f (nI (i + 1)) y3 y4 (nI p) (nI b) (nI 1) (nI v) (upd y9 hs (nI (l ||| 2 ^ v))) := ck _ (by
              rw [if_pos vl6, e_onList hs4 v6 hy l6, tb, if_neg (by decide), sb, if_pos rfl, e_setOnList hs4 v6 hy l6, sb, eo, nI_1])
            have e2 : L_X12_readHouse_2 (nI n) tp (g + 1) (nI l) hc (nI b) (nI p) 2 (nI v) 0 w = L_X12_readHouse_2 (nI n) tp g (nI (l ||| 2 ^ v)) (if nI v ≤ hc then hc else nI v) (nI b2) (nI p2) so2 va2 f2 w2 := by
              rw [L_X12_readHouse_2, if_pos rfl, if_pos rfl, rl, sb]
              dsimp only
              rw [if_pos ((bt_get0 l l6 v v6).mpr tb), sb, ml_1, sb, mxs, sb, k1, sb, or10 (by omega)]
            rw [e1, e2]
            rcases ih with ih | ⟨l1, b1, hc1, q1, q2, q3, q4, q5, q6, q7, y9', i1, i2, i3, i4, i5, i6, i7⟩
            · exact Or.inl ih
            · exact Or.inr ⟨l1, b1, hc1, q1, q2, q3, q4, q5, q6, q7, y9', i1, i2, i3, i4, i5, fun j hj => (i6 j hj).trans (by rw [upd_at, if_neg hj]), i7⟩
        · -- out of bounds
          have rl : f_X12_looked (nI p) 2 (nI v) 0 w 0 5 = some (0, 3, nI p) := lk_big (hi := 5) (by omega) (by omega)
          obtain ⟨x, hx⟩ : ∃ x : Int32, (if ((nI l >>> ((0 : Int32) &&& 31)) &&& 1) = 0 then some 1 else some 0) = some x := by split <;> exact ⟨_, rfl⟩
          refine Or.inl ⟨3, p, (nI p, nI b, nI 1, nI v, v1.1, y9), (nI l ||| ((1 : Int32) <<< ((0 : Int32) &&& 31)), (if (0 : Int32) ≤ hc then hc else 0), nI b, nI p, 2, nI v, 3, nI p), by omega, by omega, by omega, ck _ ?_, ?_, Or.inl ⟨rfl, rfl⟩⟩
          · rw [if_neg (show ¬ nI v < 6 from nI_nlt (b := 6) (by omega) (by omega))]
            rfl
          · rw [L_X12_readHouse_2, if_pos rfl, if_pos rfl, rl, sb]
            dsimp only
            rw [hx, sb, ml_f n30, sb, mxs, sb, tk_f (f := 3) (by decide), sb]
            obtain ⟨g, rfl⟩ : ∃ g', g = g' + 1 := ⟨g - 1, by omega⟩
            rw [L_X12_readHouse_2, if_neg (show ¬ (3 : Int32) = 0 by decide)]
      · have e1 : L_X12_readHouse_2 (nI n) tp (g + 1) (nI l) hc (nI b) (nI p) so va fl w = some (nI l, hc, nI b, nI p, so, va, fl, w) := by
          rw [L_X12_readHouse_2]
          rcases id hTR with ⟨-, rfl, rfl⟩ | ⟨q, -⟩ | ⟨q, -⟩ | ⟨-, rfl, rfl⟩ | ⟨-, rfl, -⟩
          · rw [if_pos rfl, if_neg (by decide)]
          · exact absurd q z1
          · exact absurd q z2
          · rw [if_pos rfl, if_neg (by decide)]
          · rw [if_neg n10]
        refine Or.inl ⟨fk c, p, (nI p, nI b, nI c, vc, v1.1, y9), _, (fk_pos c).1, (fk_pos c).2, by omega, ?_, e1, bad_tok hTR z2⟩
        rw [L_X9_readHouse_38, if_neg n6, t1, sb, if_neg n2]
        dsimp only
        rw [show f_X9_stands y3 y4 (nI p) (nI c) 1 = some (0, nI (fk c), nI p) from st_bad (x := 1) c4 (by omega) z1, sb, if_pos rfl]
end
