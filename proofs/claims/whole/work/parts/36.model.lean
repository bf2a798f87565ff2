theorem cg63 {k : Ka} (hk : kok k) : ∀ c, c < k.cm → (63 : Nat).testBit c = !((0 : Nat).testBit c) := fun c hc => by
  have h : ∀ c, c < 6 → (63 : Nat).testBit c = !((0 : Nat).testBit c) := by decide
  exact h c (by have := hk.2.1; omega)
theorem e_evGo {a bg by_ : Nat → Int32} {k : Ka} {n : Nat} {d w : Int32} (hk : kok k) (hM : relM a 0 k) (hn : n ≤ 61) (he : k.ev + n ≤ 2000) : ∃ bg' by' a' : Nat → Int32, f_X12_eveningsGo (nI k.hs) (nI k.cm) 0 d w bg by_ a (nI n) = some (nI (dn n k), nI (wn n k), bg', by', a') ∧ (n = 0 ∨ ∀ h, h < k.hs → bg' h = bgI (hrK (evn (n - 1) k) h) ∧ by' h = opI (opK (evn (n - 1) k) h)) ∧ relM a' 0 (evn n k) ∧ ∀ j, 47 ≤ j → a' j = a j := by
  have key : ∀ (q i m : Nat) (k2 : Ka) (d0 w0 : Nat) (bg by_ a : Nat → Int32), k2.hs = k.hs → k2.cm = k.cm → kok k2 → relM a 0 k2 → i + q = n → q < m → k2.ev + q ≤ 2000 → ∃ bg' by' a' : Nat → Int32, L_X12_eveningsGo_6 (nI k.hs) (nI k.cm) 0 (nI n) m (nI i) (nI d0) (nI w0) bg by_ a = some (nI (d0 + dn q k2), nI (w0 + wn q k2), bg', by', a') ∧ (q = 0 ∨ ∀ h, h < k.hs → bg' h = bgI (hrK (evn (q - 1) k2) h) ∧ by' h = opI (opK (evn (q - 1) k2) h)) ∧ relM a' 0 (evn q k2) ∧ ∀ j, 47 ≤ j → a' j = a j := by
    intro q
    induction q with
    | zero =>
      intro i m k2 d0 w0 bg by_ a s1 s2 hk hM e hm he
      obtain ⟨m, rfl⟩ : ∃ m', m = m' + 1 := ⟨m - 1, by omega⟩
      have e2 : i = n := by omega
      subst e2
      rw [L_X12_eveningsGo_6, if_pos (nI_le (Nat.le_refl _) (by omega))]
      exact ⟨bg, by_, a, rfl, Or.inl rfl, hM, fun _ _ => rfl⟩
    | succ q ih =>
      intro i m k2 d0 w0 bg by_ a s1 s2 hk2 hM e hm he
      obtain ⟨m, rfl⟩ : ∃ m', m = m' + 1 := ⟨m - 1, by omega⟩
      obtain ⟨bg1, by1, a1, h1, h2, h3, h4⟩ := e_goesEv (a := a) (bg := bg) (by_ := by_) (k := k2) (hm := 0) (cg := 63) (d := d0) (w := w0) hk2 hM (by decide) (cg63 hk2)
      obtain ⟨bg', by', a', b1, b2, b3⟩ := ih (i + 1) m (eve k2) (d0 + dK k2) (w0 + wK k2) bg1 by1 a1 s1 s2 (kok_eve hk2 (by omega)) h3 (by omega) (by omega) (by show k2.ev + 1 + q ≤ 2000; omega)
      have h1 : f_X12_eveningGoes (nI k.hs) (nI k.cm) 0 (nI d0) (nI w0) bg by_ a = some (nI (d0 + dK k2), nI (w0 + wK k2), bg1, by1, a1) := by rw [← s1, ← s2]; exact h1
      refine ⟨bg', by', a', ?_, Or.inr ?_, b3.1, fun j hj => (b3.2 j hj).trans (h4 j hj)⟩
      · rw [L_X12_eveningsGo_6, if_neg (nI_ge (by omega) (by omega)), h1, sb, nI_1, dn, wn, show d0 + (dK k2 + dn q (eve k2)) = d0 + dK k2 + dn q (eve k2) by omega, show w0 + (wK k2 + wn q (eve k2)) = w0 + wK k2 + wn q (eve k2) by omega]
        exact b1
      · have last : q = 0 → ∀ h, h < k.hs → bg' h = bgI (hrK k2 h) ∧ by' h = opI (opK k2 h) := fun e0 => by
          subst e0
          obtain ⟨m, rfl⟩ : ∃ m', m = m' + 1 := ⟨m - 1, by omega⟩
          rw [L_X12_eveningsGo_6, if_pos (nI_le (by omega) (by omega))] at b1
          have e9 := Option.some.inj b1
          simp only [Prod.mk.injEq] at e9
          obtain ⟨-, -, r3, r4, -⟩ := e9
          intro h hh
          rw [← r3, ← r4]
          exact h2 h (by rw [s1]; exact hh)
        cases q with
        | zero => exact last rfl
        | succ q =>
          rcases b2 with b2 | b2
          · cases b2
          · exact b2
  obtain ⟨bg', by', a', b1, b2, b3⟩ := key n 0 400 k 0 0 bg by_ a rfl rfl hk hM (by omega) (by omega) he
  refine ⟨bg', by', a', ?_, b2, b3⟩
  unfold f_X12_eveningsGo
  have e0 : f_X12_startsCounting d w = some (0, 0) := rfl
  have b0 : L_X12_eveningsGo_6 (nI k.hs) (nI k.cm) 0 (nI n) 400 0 0 0 bg by_ a = _ := b1
  rw [e0, sb]
  dsimp only
  rw [b0, sb, Nat.zero_add, Nat.zero_add]
theorem e_starts (hm : Int32) (now st : Nat → Int32) : ∃ a : Nat → Int32, f_X12_starts hm now st = some (0, a) ∧ ∀ j, j < 66 → a j = st j := by
  have key : ∀ (q i m : Nat) (y : Nat → Int32), i + q = 66 → q < m → (∀ j, j < i → y j = st j) → ∃ a, L_X12_starts_2 st m (nI i) y = some a ∧ ∀ j, j < 66 → a j = st j := by
    intro q
    induction q with
    | zero =>
      intro i m y e hm hy
      obtain ⟨m, rfl⟩ : ∃ m', m = m' + 1 := ⟨m - 1, by omega⟩
      have e2 : i = 66 := by omega
      subst e2
      rw [L_X12_starts_2, if_pos (by decide)]
      exact ⟨y, rfl, hy⟩
    | succ q ih =>
      intro i m y e hm hy
      obtain ⟨m, rfl⟩ : ∃ m', m = m' + 1 := ⟨m - 1, by omega⟩
      have b : ¬ (66 : Int32) ≤ nI i := nI_ge (b := 66) (by omega) (by decide)
      rw [L_X12_starts_2, if_neg b, if_pos (inb_nI (by omega) (by decide)), if_pos (inb_nI (by omega) (by decide)), ix_nI (by omega), nI_1]
      refine ih (i + 1) m _ (by omega) (by omega) (fun j hj => ?_)
      rw [upd_at]
      by_cases e3 : j = i
      · rw [if_pos e3, e3]
      · rw [if_neg e3]; exact hy j (by omega)
  obtain ⟨a, h1, h2⟩ := key 66 0 400 now (by omega) (by omega) (fun j hj => absurd hj (Nat.not_lt_zero j))
  refine ⟨a, ?_, h2⟩
  unfold f_X12_starts
  have h0 : L_X12_starts_2 st 400 0 now = some a := h1
  rw [h0]; rfl
theorem relM_at {a b : Nat → Int32} {o p : Nat} {k : Ka} (hk : kok k) (h : relM a o k) (e : ∀ j, j < 66 → b (p + j) = a (o + j)) : relM b p k := by
  have k4 := hk.1
  have k6 := hk.2.1
  refine ⟨fun h9 hh => ?_, fun c hc => ?_, fun h9 hh c hc => ?_, ?_⟩
  · rw [e h9 (by omega)]; exact h.1 h9 hh
  · rw [show p + 4 + 3 * c = p + (4 + 3 * c) by omega, show p + 5 + 3 * c = p + (5 + 3 * c) by omega, show p + 6 + 3 * c = p + (6 + 3 * c) by omega, e _ (by omega), e _ (by omega), e _ (by omega)]
    have := h.2.1 c hc
    rw [show o + 4 + 3 * c = o + (4 + 3 * c) by omega, show o + 5 + 3 * c = o + (5 + 3 * c) by omega, show o + 6 + 3 * c = o + (6 + 3 * c) by omega] at this
    exact this
  · rw [show p + 22 + 6 * h9 + c = p + (22 + 6 * h9 + c) by omega, e _ (by omega)]
    have := h.2.2.1 h9 hh c hc
    rwa [show o + 22 + 6 * h9 + c = o + (22 + 6 * h9 + c) by omega] at this
  · rw [e 46 (by omega)]; exact h.2.2.2
theorem relSM_at {a b : Nat → Int32} {o p : Nat} {q : Sa} (h6 : q.1 ≤ 6) (h : relSM a o q) (e : ∀ j, 47 ≤ j → j < 66 → b (p + j) = a (o + j)) : relSM b p q := by
  refine ⟨by rw [e 47 (by omega) (by omega)]; exact h.1, fun i hi => ?_⟩
  rw [show p + 48 + 3 * i = p + (48 + 3 * i) by omega, show p + 49 + 3 * i = p + (49 + 3 * i) by omega, show p + 50 + 3 * i = p + (50 + 3 * i) by omega, e _ (by omega) (by omega), e _ (by omega) (by omega), e _ (by omega) (by omega)]
  have := h.2 i hi
  rw [show o + 48 + 3 * i = o + (48 + 3 * i) by omega, show o + 49 + 3 * i = o + (49 + 3 * i) by omega, show o + 50 + 3 * i = o + (50 + 3 * i) by omega] at this
  exact this
theorem starts_rel {hm : Int32} {now st : Nat → Int32} {k : Ka} (hk : kok k) (h : relM st 0 k) : ∃ a : Nat → Int32, f_X12_starts hm now st = some (0, a) ∧ relM a 0 k ∧ ∀ j, j < 66 → a j = st j := by
  obtain ⟨a, h1, h2⟩ := e_starts hm now st
  exact ⟨a, h1, relM_at hk h (fun j hj => by rw [Nat.zero_add]; exact h2 j hj), h2⟩
-- the class: the trial begins anew
theorem e_restart (e w f a b c : Int32) (r1 r2 r3 r4 r5 : Nat → Int32) (x : Cty) : f_X10_restart e w f a b c r1 r2 r3 r4 r5 x.1 x.2.1 x.2.2.1 x.2.2.2.2.2.2.1 x.2.2.2.2.2.1 x.2.2.2.2.1 x.2.2.2.2.2.2.2 x.2.2.2.1 = some (0, 0, -4, x.1, x.2.1, x.2.2.1, x.2.2.2.2.2.2.1, x.2.2.2.2.2.1, x.2.2.2.2.1, x.2.2.2.2.2.2.2, x.2.2.2.1) := rfl
theorem ixc (x : Int32) {n : Nat} (hn : n < 1000) : ((x < 0 ∨ nI n ≤ x)) ∨ ∃ j : Nat, j < n ∧ x = nI j := by
  rcases pk_ix x (n := n) (by omega) with h | h | h
  · exact Or.inl (Or.inl h)
  · exact Or.inl (Or.inr h)
  · exact Or.inr h
