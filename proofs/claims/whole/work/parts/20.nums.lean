/-! numbers, bits, masks: what the pure part rests on -/
theorem ix_nI {n : Nat} (h : n < 2147483648) : ix (nI n) = n := nI_clamp h
theorem inb_nI {j k : Nat} (h : j < k) (hk : k < 2147483648) : inb (nI j) k := vp_in_nI h hk
theorem nI_6c {h c : Nat} : nI h * 6 + nI c = nI (6 * h + c) := by
  rw [show (6 : Int32) = nI 6 from rfl, pk_mul, nI_add]
  exact congrArg nI (by omega)
theorem bt_get : ∀ m, m < 64 → ∀ c, c < 6 → ((((nI m >>> (nI c &&& 31)) &&& 1) = 1) ↔ m.testBit c = true) := by decide +kernel
theorem bt_get0 : ∀ m, m < 64 → ∀ c, c < 6 → ((((nI m >>> (nI c &&& 31)) &&& 1) = 0) ↔ m.testBit c = false) := by decide +kernel
theorem bt_val : ∀ m, m < 64 → ∀ c, c < 6 → ((nI m >>> (nI c &&& 31)) &&& 1) = nI (if m.testBit c then 1 else 0) := by decide +kernel
theorem bt_or : ∀ m, m < 64 → ∀ c, c < 6 → (nI m ||| ((1 : Int32) <<< (nI c &&& 31))) = nI (m ||| 2 ^ c) := by decide +kernel
theorem bt_and : ∀ a, a < 64 → ∀ b, b < 64 → (nI a &&& nI b) = nI (a &&& b) := by decide +kernel
theorem bt_clr : ∀ m, m < 64 → ∀ c, c < 6 → (nI m &&& (((1 : Int32) <<< (nI c &&& 31)) ^^^ (-1))) = nI (if m.testBit c then m - 2 ^ c else m) := by decide +kernel
/-- the mask of what holds below n -/
def msk (p : Nat → Bool) : Nat → Nat
  | 0 => 0
  | n + 1 => if p n then msk p n ||| 2 ^ n else msk p n
theorem msk_lt (p : Nat → Bool) : ∀ n, msk p n < 2 ^ n
  | 0 => Nat.zero_lt_one
  | n + 1 => by
    have h := msk_lt p n
    rw [msk]
    have h2 : 2 ^ n < 2 ^ (n + 1) := by rw [Nat.pow_succ]; omega
    split
    · exact Nat.or_lt_two_pow (Nat.lt_trans h h2) h2
    · omega
theorem msk_lt6 (p : Nat → Bool) {n : Nat} (h : n ≤ 6) : msk p n < 64 := Nat.lt_of_lt_of_le (msk_lt p n) (Nat.pow_le_pow_right (by decide) h)
theorem msk_bit (p : Nat → Bool) : ∀ n i, (msk p n).testBit i = (decide (i < n) && p i)
  | 0, i => by simp [msk]
  | n + 1, i => by
    have ih := msk_bit p n i
    rw [msk]
    by_cases hp : p n = true
    · rw [if_pos hp, Nat.testBit_or, ih, Nat.testBit_two_pow]
      by_cases e : n = i
      · subst e
        simp [hp]
      · have h1 : decide (i < n + 1) = decide (i < n) := by
          apply decide_eq_decide.mpr; omega
        simp [e, h1]
    · rw [if_neg hp, ih]
      by_cases e : n = i
      · subst e
        simp at hp
        simp [hp]
      · have h1 : decide (i < n + 1) = decide (i < n) := by
          apply decide_eq_decide.mpr; omega
        rw [h1]
theorem msk_congr {p q : Nat → Bool} : ∀ {n : Nat}, (∀ c, c < n → p c = q c) → msk p n = msk q n
  | 0, _ => rfl
  | n + 1, h => by rw [msk, msk, msk_congr (fun c hc => h c (by omega)), h n (by omega)]
/-- a mask is its bits -/
theorem msk_self {m n : Nat} (h : m < 2 ^ n) : msk (fun c => m.testBit c) n = m := by
  apply Nat.eq_of_testBit_eq
  intro i
  rw [msk_bit]
  by_cases hi : i < n
  · simp [hi]
  · have : m.testBit i = false := Nat.testBit_lt_two_pow (Nat.lt_of_lt_of_le h (Nat.pow_le_pow_right (by decide) (by omega)))
    simp [this]
/-- how many hold below n -/
def cnt (p : Nat → Bool) : Nat → Nat
  | 0 => 0
  | n + 1 => cnt p n + if p n then 1 else 0
theorem cnt_le (p : Nat → Bool) : ∀ n, cnt p n ≤ n
  | 0 => Nat.le_refl 0
  | n + 1 => by have := cnt_le p n; rw [cnt]; split <;> omega
theorem cnt_congr {p q : Nat → Bool} : ∀ {n : Nat}, (∀ c, c < n → p c = q c) → cnt p n = cnt q n
  | 0, _ => rfl
  | n + 1, h => by rw [cnt, cnt, cnt_congr (fun c hc => h c (by omega)), h n (by omega)]
/-- the first that holds below n -/
def fst (p : Nat → Bool) : Nat → Option Nat
  | 0 => none
  | n + 1 => match fst p n with
    | some c => some c
    | none => if p n then some n else none
theorem fst_none {p : Nat → Bool} : ∀ {n : Nat}, fst p n = none ↔ ∀ c, c < n → p c = false
  | 0 => ⟨fun _ c hc => absurd hc (Nat.not_lt_zero c), fun _ => rfl⟩
  | n + 1 => by
    rw [fst]
    cases h : fst p n with
    | some d =>
      constructor
      · intro h2; cases h2
      · intro h2
        have : fst p n = none := fst_none.mpr (fun c hc => h2 c (by omega))
        rw [this] at h; cases h
    | none =>
      have ih := fst_none.mp h
      by_cases hp : p n = true
      · simp only [hp, if_true]
        constructor
        · intro h2; cases h2
        · intro h2; have := h2 n (by omega); rw [this] at hp; cases hp
      · simp only [hp]
        constructor
        · intro _ c hc
          rcases Nat.lt_or_ge c n with q | q
          · exact ih c q
          · have e : c = n := by omega
            subst e
            simpa using hp
        · intro _; rfl
theorem fst_some {p : Nat → Bool} : ∀ {n c : Nat}, fst p n = some c ↔ c < n ∧ p c = true ∧ ∀ d, d < c → p d = false
  | 0, c => Iff.intro (fun h => nomatch h) (fun h => absurd h.1 (Nat.not_lt_zero c))
  | n + 1, c => by
    rw [fst]
    cases h : fst p n with
    | some d =>
      obtain ⟨h1, h2, h3⟩ := fst_some.mp h
      constructor
      · intro e
        have e2 : d = c := Option.some.inj e
        subst e2
        exact ⟨by omega, h2, h3⟩
      · rintro ⟨k1, k2, k3⟩
        rcases Nat.lt_trichotomy c d with q | q | q
        · rw [h3 c q] at k2; cases k2
        · rw [q]
        · rw [k3 d q] at h2; cases h2
    | none =>
      have hn := fst_none.mp h
      by_cases hp : p n = true
      · simp only [hp, if_true]
        constructor
        · intro e
          have e2 : n = c := Option.some.inj e
          subst e2
          exact ⟨by omega, hp, hn⟩
        · rintro ⟨k1, k2, k3⟩
          rcases Nat.lt_or_ge c n with q | q
          · rw [hn c q] at k2; cases k2
          · rw [show c = n by omega]
      · simp only [hp]
        constructor
        · intro e; cases e
        · rintro ⟨k1, k2, k3⟩
          rcases Nat.lt_or_ge c n with q | q
          · rw [hn c q] at k2; cases k2
          · rw [show c = n by omega] at k2; exact absurd k2 hp
theorem fst_congr {p q : Nat → Bool} : ∀ {n : Nat}, (∀ c, c < n → p c = q c) → fst p n = fst q n
  | 0, _ => rfl
  | n + 1, h => by rw [fst, fst, fst_congr (fun c hc => h c (by omega)), h n (by omega)]
theorem upd_at {f : Nat → Int32} {k : Nat} {x : Int32} (j : Nat) : upd f k x j = if j = k then x else f j := rfl
theorem upd_upd (f : Nat → Int32) (k : Nat) (x y : Int32) : upd (upd f k x) k y = upd f k y := by
  funext j
  rw [upd_at, upd_at, upd_at]
  split <;> rfl
theorem bitCount_nI : ∀ m, m < 64 → f_J6_bitCount_0f7a4 (nI m) = some (nI (cnt (fun c => m.testBit c) 6)) := by decide +kernel
theorem i64_lt {x y : Int32} : x.toInt64 < y.toInt64 ↔ x < y := by
  rw [Int64.lt_iff_toInt_lt, Int32.lt_iff_toInt_lt, Int32.toInt_toInt64, Int32.toInt_toInt64]
theorem lg_lt {x y : Int64} : lg_cmp x y < 0 ↔ x < y := by
  unfold lg_cmp
  rw [Int64.lt_iff_toInt_lt]
  by_cases h : y < x
  · have a1 := Int64.lt_iff_toInt_lt.mp h
    rw [if_pos h]
    constructor
    · intro q; exact absurd q (by decide)
    · intro q; omega
  · have a1 : ¬ y.toInt < x.toInt := fun q => h (Int64.lt_iff_toInt_lt.mpr q)
    rw [if_neg h]
    by_cases h2 : x = y
    · rw [if_pos h2, h2]
      constructor
      · intro q; exact absurd q (by decide)
      · intro q; omega
    · have a2 : x.toInt ≠ y.toInt := fun q => h2 (Int64.toInt_inj.mp q)
      rw [if_neg h2]
      constructor
      · intro _; omega
      · intro _; decide
theorem lg_gt {x y : Int64} : 0 < lg_cmp x y ↔ y < x := by
  unfold lg_cmp
  by_cases h : y < x
  · rw [if_pos h]
    exact ⟨fun _ => h, fun _ => by decide⟩
  · rw [if_neg h]
    by_cases h2 : x = y
    · rw [if_pos h2]
      exact ⟨fun q => absurd q (by decide), fun q => absurd q h⟩
    · rw [if_neg h2]
      exact ⟨fun q => absurd q (by decide), fun q => absurd q h⟩
theorem e_in (x a b : Int32) : f_X12_in x.toInt64 a.toInt64 b.toInt64 = some (if a ≤ x ∧ x ≤ b then 1 else 0) := by
  unfold f_X12_in
  by_cases h1 : x < a
  · rw [if_pos (lg_lt.mpr (i64_lt.mpr h1)), if_neg]
    rintro ⟨h2, -⟩
    have a1 := Int32.lt_iff_toInt_lt.mp h1
    have a2 := Int32.le_iff_toInt_le.mp h2
    omega
  · rw [if_neg (fun q => h1 (i64_lt.mp (lg_lt.mp q)))]
    by_cases h2 : b < x
    · rw [if_pos (lg_gt.mpr (i64_lt.mpr h2)), if_neg]
      rintro ⟨-, h3⟩
      have a1 := Int32.lt_iff_toInt_lt.mp h2
      have a2 := Int32.le_iff_toInt_le.mp h3
      omega
    · rw [if_neg (fun q => h2 (i64_lt.mp (lg_gt.mp q))), if_pos]
      exact ⟨Int32.not_lt.mp h1, Int32.not_lt.mp h2⟩
theorem e_outside (x k : Int32) : f_X11_outside x k = some (if x < 0 ∨ k < x then 1 else 0) := by
  unfold f_X11_outside
  by_cases h1 : x < 0
  · simp [h1]
  · by_cases h2 : k < x
    · simp [h1, h2]
    · simp [h1, h2, Int32.not_lt.mp h2]
/-- an int is not within 0 .. n, or it is one of them -/
theorem cases_in (x : Int32) {n : Nat} (hn : n < 2147483647) : ((x < 0 ∨ nI n < x) ∧ ¬ (0 ≤ x ∧ x ≤ nI n)) ∨ ∃ j : Nat, j ≤ n ∧ x = nI j := by
  rcases pk_ix x (n := n + 1) (by omega) with h | h | ⟨j, hj, e⟩
  · refine Or.inl ⟨Or.inl h, fun q => ?_⟩
    have a1 := Int32.lt_iff_toInt_lt.mp h
    have a2 := Int32.le_iff_toInt_le.mp q.1
    omega
  · have a1 := Int32.le_iff_toInt_le.mp h
    rw [nI_toInt (by omega)] at a1
    have hlt : nI n < x := by rw [Int32.lt_iff_toInt_lt, nI_toInt (by omega)]; omega
    refine Or.inl ⟨Or.inr hlt, fun q => ?_⟩
    have a2 := Int32.le_iff_toInt_le.mp q.2
    rw [nI_toInt (by omega)] at a2
    omega
  · exact Or.inr ⟨j, by omega, e⟩
theorem nI_inR {j n : Nat} (h : j ≤ n) (hn : n < 2147483647) : ¬ (nI j < 0 ∨ nI n < nI j) ∧ (0 ≤ nI j ∧ nI j ≤ nI n) := by
  refine ⟨?_, nI_pos' (by omega), nI_le h (by omega)⟩
  rintro (q | q)
  · exact nI_pos (by omega) q
  · exact absurd q (Int32.not_lt.mpr (nI_le h (by omega)))
