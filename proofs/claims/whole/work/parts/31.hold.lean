def opI (o : Option Nat) : Int32 := match o with
  | some c => nI c
  | none => -4
theorem e_firstOf2 (m : Nat) (h : m < 64) : f_X2_firstOf (nI m) = some (opI (fst (fun c => m.testBit c) 6)) := by
  rw [e_firstOf m h]
  unfold opI
  cases fst (fun c => m.testBit c) 6 <;> rfl
theorem nI_n4 {c : Nat} (h : c < 100) : ¬ nI c = -4 := fun e => by
  have h1 : (nI c).toInt = (-4 : Int32).toInt := congrArg Int32.toInt e
  rw [nI_toInt (by omega)] at h1
  have h2 : (-4 : Int32).toInt = -4 := by decide
  omega
theorem nI_n7 {c : Nat} (h : c < 7) : ¬ nI c = 7 := fun e => by
  have := (nI_eq (a := c) (b := 7) (by omega) (by decide)).mp e
  omega
theorem l_holdAt {cm h lb m : Nat} {co ki li : Nat → Int32} {cn kd : Nat → Nat} {g cg : Int32} (h6 : cm ≤ 6) (hh : h < 4) (hl : li h = nI lb) (l6 : lb < 64) (m6 : m < 64) (hg : g &&& cg = nI m) (hco : ∀ c, c < cm → co c = nI (cn c) ∧ cn c ≤ 6) (hk : ∀ c, c < cm → ki c = nI (kd c) ∧ kd c < 4) :
    ∀ (k hr n : Nat) (y3 y4 y5 : Nat → Int32) (row : Nat → Nat), hr + k = 7 → k + 1 < n → y3 h = 7 → (∀ c, c < cm → y5 (6 * h + c) = nI (row c) ∧ row c ≤ 9) →
    ∃ y5', L_X2_holdAt_28 (nI cm) co ki li (nI h) cg g n (nI hr) y3 y4 y5 = some (match (wt cm kd lb (fun hr c => m.testBit c && decide (cn c ≤ hr)) k hr row).2.2 with | none => (y3, y4, y5') | some c => (upd y3 h (nI (wt cm kd lb (fun hr c => m.testBit c && decide (cn c ≤ hr)) k hr row).2.1), upd y4 h (nI c), y5')) ∧ (∀ c, c < cm → y5' (6 * h + c) = nI ((wt cm kd lb (fun hr c => m.testBit c && decide (cn c ≤ hr)) k hr row).1 c)) ∧ ∀ j, (∀ c, c < cm → j ≠ 6 * h + c) → y5' j = y5 j := by
  intro k
  induction k with
  | zero =>
    intro hr n y3 y4 y5 row e hn h7 hrow
    obtain ⟨n, rfl⟩ : ∃ n', n = n' + 1 := ⟨n - 1, by omega⟩
    have e2 : hr = 7 := by omega
    subst e2
    rw [L_X2_holdAt_28, if_pos (by decide)]
    exact ⟨y5, rfl, fun c hc => (hrow c hc).1, fun j _ => rfl⟩
  | succ k ih =>
    intro hr n y3 y4 y5 row e hn h7 hrow
    obtain ⟨n, rfl⟩ : ∃ n', n = n' + 1 := ⟨n - 1, by omega⟩
    have b6 : ¬ (6 : Int32) < nI hr := nI_nlt (a := 6) (by omega) (by decide)
    rw [L_X2_holdAt_28, if_neg b6, if_pos (inb_nI hh (by decide)), ix_nI (by omega), if_pos h7, hg, e_arrived h6 m6 (by omega) hco, sb, e_unwelcome h6 hh hl l6 hrow, sb, bt_and _ (msk_lt6 _ h6) _ (msk_lt6 _ h6), e_firstOf2 _ (Nat.lt_of_le_of_lt Nat.and_le_left (msk_lt6 _ h6)), sb]
    have ef : fst (fun c => (msk (fun c => m.testBit c && decide (cn c ≤ hr)) cm &&& msk (fun c => !(lb.testBit c) && decide (row c ≤ 4)) cm).testBit c) 6 = fst (fun c => (m.testBit c && decide (cn c ≤ hr)) && (!(lb.testBit c) && decide (row c ≤ 4))) cm := by
      rw [← fst_msk h6]
      apply fst_congr
      intro c hc
      rw [Nat.testBit_and, msk_bit, msk_bit, msk_bit]
      cases decide (c < cm) <;> simp
    rw [ef, wt]
    cases hf : fst (fun c => (m.testBit c && decide (cn c ≤ hr)) && (!(lb.testBit c) && decide (row c ≤ 4))) cm with
    | none =>
      have e4 : opI none = (-4 : Int32) := rfl
      rw [e4, if_pos rfl]
      obtain ⟨lk', a1, a2, a3⟩ := e_warm (p := fun c => m.testBit c && decide (cn c ≤ hr)) h6 hh hk hrow
      rw [a1, sb, nI_1]
      have hle := cnt_le (fun c => m.testBit c && decide (cn c ≤ hr)) cm
      obtain ⟨y5', b1, b2, b3⟩ := ih (hr + 1) n y3 y4 lk' (fun c => if c < cm ∧ (m.testBit c && decide (cn c ≤ hr)) = true then wmN (kd c) (row c) (cnt (fun c => m.testBit c && decide (cn c ≤ hr)) cm) else row c) (by omega) (by omega) h7 (fun c hc => ⟨a2 c hc, by
        show (if c < cm ∧ (m.testBit c && decide (cn c ≤ hr)) = true then wmN (kd c) (row c) (cnt (fun c => m.testBit c && decide (cn c ≤ hr)) cm) else row c) ≤ 9
        split
        · exact wmN_le _ (hk c hc).2 _ (by have := (hrow c hc).2; omega) _ (by omega)
        · exact (hrow c hc).2⟩)
      exact ⟨y5', b1, b2, fun j hj => (b3 j hj).trans (a3 j hj)⟩
    | some d =>
      have hd := (fst_some.mp hf).1
      have e4 : opI (some d) = nI d := rfl
      rw [e4, if_neg (nI_n4 (by omega)), if_pos (inb_nI hh (by decide)), if_pos (inb_nI hh (by decide)), nI_1]
      obtain ⟨n, rfl⟩ : ∃ n', n = n' + 1 := ⟨n - 1, by omega⟩
      refine ⟨y5, ?_, fun c hc => (hrow c hc).1, fun j _ => rfl⟩
      rw [L_X2_holdAt_28]
      by_cases q : (6 : Int32) < nI (hr + 1)
      · rw [if_pos q]
      · rw [if_neg q, if_pos (inb_nI hh (by decide)), ix_nI (by omega), upd_at, if_pos rfl, if_neg (nI_n7 (by omega))]
/-- whom an hour has there, of those who go to h, of the coming -/
def thr (go cn : Nat → Nat) (cg h : Nat) : Nat → Nat → Bool := fun hr c => (decide (go c = h) && cg.testBit c) && decide (cn c ≤ hr)
theorem e_holdAt {cm h lb cg : Nat} {hrs ops co go ki lk li : Nat → Int32} {cn kd gn row : Nat → Nat} (h6 : cm ≤ 6) (hh : h < 4) (hl : li h = nI lb) (l6 : lb < 64) (cg6 : cg < 64) (hco : ∀ c, c < cm → co c = nI (cn c) ∧ cn c ≤ 6) (hk : ∀ c, c < cm → ki c = nI (kd c) ∧ kd c < 4) (hgo : ∀ c, c < cm → go c = nI (gn c) ∧ gn c ≤ 9) (hr : ∀ c, c < cm → lk (6 * h + c) = nI (row c) ∧ row c ≤ 9) :
    ∃ lk', f_X2_holdAt hrs ops (nI cm) co go ki lk li (nI h) (nI cg) = some (nI (wt cm kd lb (thr gn cn cg h) 7 0 row).2.1, upd hrs h (nI (wt cm kd lb (thr gn cn cg h) 7 0 row).2.1), upd ops h (opI (wt cm kd lb (thr gn cn cg h) 7 0 row).2.2), lk') ∧ (∀ c, c < cm → lk' (6 * h + c) = nI ((wt cm kd lb (thr gn cn cg h) 7 0 row).1 c)) ∧ ∀ j, (∀ c, c < cm → j ≠ 6 * h + c) → lk' j = lk j := by
  have m6 : msk (fun c => decide (go c = nI h)) cm &&& cg < 64 := Nat.lt_of_le_of_lt Nat.and_le_left (msk_lt6 _ h6)
  obtain ⟨y5', a1, a2, a3⟩ := l_holdAt (cm := cm) (h := h) (lb := lb) (g := nI (msk (fun c => decide (go c = nI h)) cm)) (cg := nI cg) (cn := cn) (kd := kd) h6 hh hl l6 m6 (bt_and _ (msk_lt6 _ h6) _ cg6) hco hk 7 0 400 (upd hrs h 7) (upd ops h (-4)) lk row (by omega) (by omega) (by rw [upd_at, if_pos rfl]) hr
  have ec := wt_congr (cm := cm) (kd := kd) (kd2 := kd) (lb := lb) (th := fun hr c => (msk (fun c => decide (go c = nI h)) cm &&& cg).testBit c && decide (cn c ≤ hr)) (th2 := thr gn cn cg h) (fun _ _ => rfl) (fun hr c hc => by
    rw [Nat.testBit_and, msk_bit]
    have e1 : decide (go c = nI h) = decide (gn c = h) := by
      rw [(hgo c hc).1]
      apply decide_eq_decide.mpr
      exact nI_eq (by have := (hgo c hc).2; omega) (by omega)
    simp [thr, hc, e1]) 7 0 row row (fun _ _ => rfl)
  rw [ec.2] at a1
  refine ⟨y5', ?_, fun c hc => (a2 c hc).trans (congrArg nI (ec.1 c hc)), a3⟩
  unfold f_X2_holdAt
  rw [e_goers h6, sb, if_pos (inb_nI hh (by decide)), if_pos (inb_nI hh (by decide)), ix_nI (by omega)]
  have a0 : L_X2_holdAt_28 (nI cm) co ki li (nI h) (nI cg) (nI (msk (fun c => decide (go c = nI h)) cm)) 400 0 (upd hrs h 7) (upd ops h (-4)) lk = _ := a1
  rw [a0, sb, if_pos (inb_nI hh (by decide))]
  rcases wt_hr (cm := cm) (kd := kd) (lb := lb) (th := thr gn cn cg h) 7 0 row rfl with ⟨r1, r2⟩ | ⟨⟨c, r1, -⟩, -⟩
  · rw [r1, r2]
    show some (upd hrs h 7 h, upd hrs h 7, upd ops h (-4), y5') = _
    rw [upd_at, if_pos rfl]
    rfl
  · rw [r1]
    show some (upd (upd hrs h 7) h _ h, upd (upd hrs h 7) h _, upd (upd ops h (-4)) h (nI c), y5') = _
    rw [upd_at, if_pos rfl, upd_upd, upd_upd]
    rfl
