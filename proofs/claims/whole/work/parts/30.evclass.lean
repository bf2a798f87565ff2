/-! one evening, in numbers; and that the class holds it so -/
theorem n10 : ¬ (1 : Int32) = 0 := by decide
def wmN (k l n : Nat) : Nat :=
  if k = 0 then (if l < 9 then l + 1 else 9)
  else if k = 1 then (if 3 ≤ n then (if l < 9 then l + 1 else 9) else l)
  else if k = 2 then (if (if l < 9 then l + 1 else 9) < 9 then (if l < 9 then l + 1 else 9) + 1 else 9)
  else (if 3 ≤ n then (if l < 9 then l + 1 else 9) else l) - 1
theorem e_warmed : ∀ k, k < 4 → ∀ l, l < 10 → ∀ n, n < 7 → f_X1_warmed (nI k) (nI l) (nI n) = some (nI (wmN k l n)) := by decide +kernel
theorem wmN_le : ∀ k, k < 4 → ∀ l, l < 10 → ∀ n, n < 7 → wmN k l n ≤ 9 := by decide +kernel
/-- a house waits: hours left, hour, the row of likings; whom each hour has there; lb: its list -/
def wt (cm : Nat) (kd : Nat → Nat) (lb : Nat) (th : Nat → Nat → Bool) : Nat → Nat → (Nat → Nat) → (Nat → Nat) × Nat × Option Nat
  | 0, _, row => (row, 7, none)
  | k + 1, hr, row => match fst (fun c => th hr c && (!(lb.testBit c) && decide (row c ≤ 4))) cm with
    | some c => (row, hr, some c)
    | none => wt cm kd lb th k (hr + 1) (fun c => if c < cm ∧ th hr c = true then wmN (kd c) (row c) (cnt (th hr) cm) else row c)
theorem wt_le {cm : Nat} {kd : Nat → Nat} {lb : Nat} {th : Nat → Nat → Bool} (h6 : cm ≤ 6) (hkd : ∀ c, c < cm → kd c < 4) : ∀ (k hr : Nat) (row : Nat → Nat), (∀ c, c < cm → row c ≤ 9) → ∀ c, c < cm → (wt cm kd lb th k hr row).1 c ≤ 9
  | 0, hr, row, h, c, hc => h c hc
  | k + 1, hr, row, h, c, hc => by
    rw [wt]
    cases fst (fun c => th hr c && (!(lb.testBit c) && decide (row c ≤ 4))) cm with
    | some d => exact h c hc
    | none =>
      refine wt_le h6 hkd k (hr + 1) _ (fun d hd => ?_) c hc
      show (if d < cm ∧ th hr d = true then wmN (kd d) (row d) (cnt (th hr) cm) else row d) ≤ 9
      split
      · have h7 := cnt_le (th hr) cm
        exact wmN_le _ (hkd d hd) _ (by have := h d hd; omega) _ (by omega)
      · exact h d hd
theorem wt_hr {cm : Nat} {kd : Nat → Nat} {lb : Nat} {th : Nat → Nat → Bool} : ∀ (k hr : Nat) (row : Nat → Nat), hr + k = 7 → ((wt cm kd lb th k hr row).2.2 = none ∧ (wt cm kd lb th k hr row).2.1 = 7) ∨ ((∃ c, (wt cm kd lb th k hr row).2.2 = some c ∧ c < cm) ∧ (wt cm kd lb th k hr row).2.1 < 7)
  | 0, hr, row, e => Or.inl ⟨rfl, rfl⟩
  | k + 1, hr, row, e => by
    rw [wt]
    cases h : fst (fun c => th hr c && (!(lb.testBit c) && decide (row c ≤ 4))) cm with
    | some d => exact Or.inr ⟨⟨d, rfl, (fst_some.mp h).1⟩, by show hr < 7; omega⟩
    | none => exact wt_hr k (hr + 1) _ (by omega)
theorem wt_congr {cm : Nat} {kd kd2 : Nat → Nat} {lb : Nat} {th th2 : Nat → Nat → Bool} (hk : ∀ c, c < cm → kd c = kd2 c) (ht : ∀ hr c, c < cm → th hr c = th2 hr c) : ∀ (k hr : Nat) (row row2 : Nat → Nat), (∀ c, c < cm → row c = row2 c) → (∀ c, c < cm → (wt cm kd lb th k hr row).1 c = (wt cm kd2 lb th2 k hr row2).1 c) ∧ (wt cm kd lb th k hr row).2 = (wt cm kd2 lb th2 k hr row2).2
  | 0, hr, row, row2, h => ⟨h, rfl⟩
  | k + 1, hr, row, row2, h => by
    have e : fst (fun c => th hr c && (!(lb.testBit c) && decide (row c ≤ 4))) cm = fst (fun c => th2 hr c && (!(lb.testBit c) && decide (row2 c ≤ 4))) cm := fst_congr (fun c hc => by rw [ht hr c hc, h c hc])
    rw [wt, wt, e]
    cases fst (fun c => th2 hr c && (!(lb.testBit c) && decide (row2 c ≤ 4))) cm with
    | some d => exact ⟨h, rfl⟩
    | none =>
      refine wt_congr hk ht k (hr + 1) _ _ (fun c hc => ?_)
      show (if c < cm ∧ th hr c = true then wmN (kd c) (row c) (cnt (th hr) cm) else row c) = (if c < cm ∧ th2 hr c = true then wmN (kd2 c) (row2 c) (cnt (th2 hr) cm) else row2 c)
      rw [ht hr c hc, hk c hc, h c hc, cnt_congr (fun d hd => ht hr d hd)]
-- masks of at most six
theorem fst_msk {p : Nat → Bool} {cm : Nat} (h6 : cm ≤ 6) : fst (fun c => (msk p cm).testBit c) 6 = fst p cm := by
  cases h : fst p cm with
  | none =>
    rw [fst_none] at h ⊢
    intro c hc
    rw [msk_bit]
    by_cases hl : c < cm
    · rw [h c hl]; simp
    · simp [hl]
  | some d =>
    rw [fst_some] at h ⊢
    obtain ⟨h1, h2, h3⟩ := h
    refine ⟨by omega, ?_, fun e he => ?_⟩
    · rw [msk_bit, h2]; simp [h1]
    · rw [msk_bit, h3 e he]; simp
theorem cnt_dec {p : Nat → Bool} {cm : Nat} : ∀ n, cm ≤ n → cnt (fun c => decide (c < cm) && p c) n = cnt p cm
  | 0, h => by
    have e : cm = 0 := by omega
    subst e; rfl
  | n + 1, h => by
    rcases Nat.lt_or_ge n cm with q | q
    · have e : cm = n + 1 := by omega
      subst e
      exact cnt_congr (fun c hc => by simp [hc])
    · rw [cnt, cnt_dec n q]
      have : ¬ n < cm := by omega
      simp [this]
theorem bc_msk {p : Nat → Bool} {cm : Nat} (h6 : cm ≤ 6) : f_J6_bitCount_0f7a4 (nI (msk p cm)) = some (nI (cnt p cm)) := by
  rw [bitCount_nI _ (msk_lt6 p h6)]
  have e : cnt (fun c => (msk p cm).testBit c) 6 = cnt p cm := by
    rw [cnt_congr (q := fun c => decide (c < cm) && p c) (fun c _ => msk_bit p cm c), cnt_dec 6 h6]
  rw [e]
theorem e_firstOf : ∀ m, m < 64 → f_X2_firstOf (nI m) = some (match fst (fun c => m.testBit c) 6 with | some c => nI c | none => -4) := by decide +kernel
theorem e_goers {cm : Nat} {go : Nat → Int32} {x : Int32} (h6 : cm ≤ 6) : f_X1_goers (nI cm) go x = some (nI (msk (fun c => decide (go c = x)) cm)) := by
  have key : ∀ (k i n : Nat), i + k = cm → k < n → L_X1_goers_4 (nI cm) go x n (nI (msk (fun c => decide (go c = x)) i)) (nI i) = some (nI (msk (fun c => decide (go c = x)) cm)) := by
    intro k
    induction k with
    | zero =>
      intro i n e hn
      obtain ⟨n, rfl⟩ : ∃ n', n = n' + 1 := ⟨n - 1, by omega⟩
      have e2 : i = cm := by omega
      subst e2
      rw [L_X1_goers_4, if_pos (nI_le (Nat.le_refl _) (by omega))]
    | succ k ih =>
      intro i n e hn
      obtain ⟨n, rfl⟩ : ∃ n', n = n' + 1 := ⟨n - 1, by omega⟩
      rw [L_X1_goers_4, if_neg (nI_ge (by omega) (by omega)), if_pos (inb_nI (by omega) (by decide)), ix_nI (by omega), nI_1]
      have ih2 := ih (i + 1) n (by omega) (by omega)
      rw [msk] at ih2
      by_cases hx : go i = x
      · rw [if_pos hx, bt_or _ (msk_lt6 _ (by omega)) _ (by omega)]
        rw [if_pos (decide_eq_true hx)] at ih2
        exact ih2
      · rw [if_neg hx]
        rw [if_neg (by simpa using hx)] at ih2
        exact ih2
  unfold f_X1_goers
  have h0 : L_X1_goers_4 (nI cm) go x 400 0 0 = some (nI (msk (fun c => decide (go c = x)) cm)) := key cm 0 400 (by omega) (by omega)
  rw [h0]; rfl
theorem e_onList {li : Nat → Int32} {h c m : Nat} (hh : h < 4) (hc : c < 6) (hm : li h = nI m) (m6 : m < 64) : f_X1_onList li (nI h) (nI c) = some (if m.testBit c then 1 else 0) := by
  unfold f_X1_onList
  rw [if_pos (inb_nI hh (by decide)), ix_nI (by omega), hm]
  by_cases hb : m.testBit c = true
  · rw [if_pos ((bt_get m m6 c hc).mpr hb), if_pos hb]
  · rw [if_neg (fun q => hb ((bt_get m m6 c hc).mp q)), if_neg hb]
theorem e_unwelcome {cm h lb : Nat} {lk li : Nat → Int32} {row : Nat → Nat} (h6 : cm ≤ 6) (hh : h < 4) (hl : li h = nI lb) (l6 : lb < 64) (hr : ∀ c, c < cm → lk (6 * h + c) = nI (row c) ∧ row c ≤ 9) : f_X1_unwelcome (nI cm) lk li (nI h) = some (nI (msk (fun c => !(lb.testBit c) && decide (row c ≤ 4)) cm)) := by
  have key : ∀ (k i n : Nat), i + k = cm → k < n → L_X1_unwelcome_4 (nI cm) lk li (nI h) n (nI (msk (fun c => !(lb.testBit c) && decide (row c ≤ 4)) i)) (nI i) = some (nI (msk (fun c => !(lb.testBit c) && decide (row c ≤ 4)) cm)) := by
    intro k
    induction k with
    | zero =>
      intro i n e hn
      obtain ⟨n, rfl⟩ : ∃ n', n = n' + 1 := ⟨n - 1, by omega⟩
      have e2 : i = cm := by omega
      subst e2
      rw [L_X1_unwelcome_4, if_pos (nI_le (Nat.le_refl _) (by omega))]
    | succ k ih =>
      intro i n e hn
      obtain ⟨n, rfl⟩ : ∃ n', n = n' + 1 := ⟨n - 1, by omega⟩
      rw [L_X1_unwelcome_4, if_neg (nI_ge (by omega) (by omega)), e_onList hh (by omega) hl l6, sb, e_liked hh (by omega), sb, (hr i (by omega)).1, nI_1]
      have ih2 := ih (i + 1) n (by omega) (by omega)
      rw [msk] at ih2
      by_cases hb : lb.testBit i = true
      · rw [if_pos hb, if_neg n10]
        rw [if_neg (by simp [hb])] at ih2
        exact ih2
      · rw [if_neg hb, if_pos rfl]
        by_cases h4 : row i ≤ 4
        · have hn4 : ¬ (4 : Int32) < nI (row i) := nI_nlt (a := 4) h4 (by decide)
          rw [if_neg hn4, bt_or _ (msk_lt6 _ (by omega)) _ (by omega)]
          rw [if_pos (by simp [hb, h4])] at ih2
          exact ih2
        · have hn4 : (4 : Int32) < nI (row i) := nI_lt (a := 4) (by omega) (by have := (hr i (by omega)).2; omega)
          rw [if_pos hn4]
          rw [if_neg (by simp [h4])] at ih2
          exact ih2
  unfold f_X1_unwelcome
  have h0 : L_X1_unwelcome_4 (nI cm) lk li (nI h) 400 0 0 = some (nI (msk (fun c => !(lb.testBit c) && decide (row c ≤ 4)) cm)) := key cm 0 400 (by omega) (by omega)
  rw [h0]; rfl
theorem e_arrived {cm m hr : Nat} {co : Nat → Int32} {cn : Nat → Nat} (h6 : cm ≤ 6) (m6 : m < 64) (hh : hr ≤ 7) (hc : ∀ c, c < cm → co c = nI (cn c) ∧ cn c ≤ 6) : f_X1_arrived (nI cm) co (nI m) (nI hr) = some (nI (msk (fun c => m.testBit c && decide (cn c ≤ hr)) cm)) := by
  have key : ∀ (k i n : Nat), i + k = cm → k < n → L_X1_arrived_5 (nI cm) co (nI m) (nI hr) n (nI (msk (fun c => m.testBit c && decide (cn c ≤ hr)) i)) (nI i) = some (nI (msk (fun c => m.testBit c && decide (cn c ≤ hr)) cm)) := by
    intro k
    induction k with
    | zero =>
      intro i n e hn
      obtain ⟨n, rfl⟩ : ∃ n', n = n' + 1 := ⟨n - 1, by omega⟩
      have e2 : i = cm := by omega
      subst e2
      rw [L_X1_arrived_5, if_pos (nI_le (Nat.le_refl _) (by omega))]
    | succ k ih =>
      intro i n e hn
      obtain ⟨n, rfl⟩ : ∃ n', n = n' + 1 := ⟨n - 1, by omega⟩
      rw [L_X1_arrived_5, if_neg (nI_ge (by omega) (by omega))]
      have ih2 := ih (i + 1) n (by omega) (by omega)
      rw [msk] at ih2
      by_cases hb : m.testBit i = true
      · rw [if_pos ((bt_get m m6 i (by omega)).mpr hb), if_pos (inb_nI (by omega) (by decide)), ix_nI (by omega), (hc i (by omega)).1, nI_1]
        by_cases h4 : cn i ≤ hr
        · rw [if_neg (nI_nlt h4 (by omega)), bt_or _ (msk_lt6 _ (by omega)) _ (by omega)]
          rw [if_pos (by simp [hb, h4])] at ih2
          exact ih2
        · rw [if_pos (nI_lt (by omega) (by have := (hc i (by omega)).2; omega))]
          rw [if_neg (by simp [h4])] at ih2
          exact ih2
      · rw [if_neg (fun q => hb ((bt_get m m6 i (by omega)).mp q)), nI_1]
        rw [if_neg (by simp [hb])] at ih2
        exact ih2
  unfold f_X1_arrived
  have h0 : L_X1_arrived_5 (nI cm) co (nI m) (nI hr) 400 0 0 = some (nI (msk (fun c => m.testBit c && decide (cn c ≤ hr)) cm)) := key cm 0 400 (by omega) (by omega)
  rw [h0]; rfl
theorem e_warm {cm h : Nat} {ki lk : Nat → Int32} {kd row : Nat → Nat} {p : Nat → Bool} (h6 : cm ≤ 6) (hh : h < 4) (hk : ∀ c, c < cm → ki c = nI (kd c) ∧ kd c < 4) (hr : ∀ c, c < cm → lk (6 * h + c) = nI (row c) ∧ row c ≤ 9) :
    ∃ lk', f_X1_warm (nI cm) ki lk (nI h) (nI (msk p cm)) = some lk' ∧ (∀ c, c < cm → lk' (6 * h + c) = nI (if c < cm ∧ p c = true then wmN (kd c) (row c) (cnt p cm) else row c)) ∧ ∀ j, (∀ c, c < cm → j ≠ 6 * h + c) → lk' j = lk j := by
  have hcnt := cnt_le p cm
  have key : ∀ (k i n : Nat) (y : Nat → Int32), i + k = cm → k < n → (∀ c, i ≤ c → c < cm → y (6 * h + c) = nI (row c)) → ∃ y', L_X1_warm_8 (nI cm) ki (nI h) (nI (msk p cm)) (nI (cnt p cm)) n (nI i) y = some y' ∧ (∀ c, i ≤ c → c < cm → y' (6 * h + c) = nI (if c < cm ∧ p c = true then wmN (kd c) (row c) (cnt p cm) else row c)) ∧ ∀ j, (∀ c, i ≤ c → c < cm → j ≠ 6 * h + c) → y' j = y j := by
    intro k
    induction k with
    | zero =>
      intro i n y e hn hy
      obtain ⟨n, rfl⟩ : ∃ n', n = n' + 1 := ⟨n - 1, by omega⟩
      have e2 : i = cm := by omega
      subst e2
      rw [L_X1_warm_8, if_pos (nI_le (Nat.le_refl _) (by omega))]
      exact ⟨y, rfl, fun c h1 h2 => absurd h2 (by omega), fun j _ => rfl⟩
    | succ k ih =>
      intro i n y e hn hy
      obtain ⟨n, rfl⟩ : ∃ n', n = n' + 1 := ⟨n - 1, by omega⟩
      rw [L_X1_warm_8, if_neg (nI_ge (by omega) (by omega))]
      have hbit : (msk p cm).testBit i = p i := by rw [msk_bit]; simp [show i < cm by omega]
      by_cases hb : p i = true
      · rw [if_pos ((bt_get _ (msk_lt6 _ h6) i (by omega)).mpr (by rw [hbit]; exact hb)), if_pos (inb_nI (by omega) (by decide)), e_liked hh (by omega), sb, hy i (Nat.le_refl _) (by omega), ix_nI (by omega), (hk i (by omega)).1, e_warmed _ (hk i (by omega)).2 _ (by have := (hr i (by omega)).2; omega) _ (by omega), sb, e_setLiked hh (by omega), sb, nI_1]
        obtain ⟨y', a1, a2, a3⟩ := ih (i + 1) n (upd y (6 * h + i) (nI (wmN (kd i) (row i) (cnt p cm)))) (by omega) (by omega) (fun c h1 h2 => by rw [upd_at, if_neg (by omega)]; exact hy c (by omega) h2)
        refine ⟨y', a1, fun c h1 h2 => ?_, fun j hj => ?_⟩
        · rcases Nat.lt_or_ge i c with q | q
          · exact a2 c q h2
          · have ec : c = i := by omega
            subst ec
            rw [a3 _ (fun d d1 d2 => by omega), upd_at, if_pos rfl, if_pos ⟨h2, hb⟩]
        · rw [a3 j (fun c h1 h2 => hj c (by omega) h2), upd_at, if_neg (hj i (Nat.le_refl _) (by omega))]
      · rw [if_neg (fun q => hb (by rw [← hbit]; exact (bt_get _ (msk_lt6 _ h6) i (by omega)).mp q)), nI_1]
        obtain ⟨y', a1, a2, a3⟩ := ih (i + 1) n y (by omega) (by omega) (fun c h1 h2 => hy c (by omega) h2)
        refine ⟨y', a1, fun c h1 h2 => ?_, fun j hj => a3 j (fun c h1 h2 => hj c (by omega) h2)⟩
        rcases Nat.lt_or_ge i c with q | q
        · exact a2 c q h2
        · have ec : c = i := by omega
          subst ec
          rw [a3 _ (fun d d1 d2 => by omega), if_neg (fun q => hb q.2)]
          exact hy c (Nat.le_refl _) h2
  obtain ⟨y', a1, a2, a3⟩ := key cm 0 400 lk (by omega) (by omega) (fun c _ hc => (hr c hc).1)
  refine ⟨y', ?_, fun c hc => a2 c (Nat.zero_le _) hc, fun j hj => a3 j (fun c _ hc => hj c hc)⟩
  unfold f_X1_warm
  rw [bc_msk h6, sb]
  have a0 : L_X1_warm_8 (nI cm) ki (nI h) (nI (msk p cm)) (nI (cnt p cm)) 400 0 lk = some y' := a1
  rw [a0]; rfl
