/-! the reference's evening -/
def bgI (hr : Nat) : Int32 := if hr < 7 then nI hr else -4
theorem ix_of {c j : Nat} : (4 + 3 * nI c + nI j : Int32) = nI (4 + 3 * c + j) := by
  rw [show (3 : Int32) = nI 3 from rfl, show (4 : Int32) = nI 4 from rfl, pk_mul, nI_add, nI_add]
theorem e_of {a : Nat → Int32} {c j : Nat} (hc : c < 6) (hj : j < 3) : f_X12_of a (nI c) (nI j) = some (a (4 + 3 * c + j)) := by
  unfold f_X12_of
  rw [ix_of, if_pos (inb_nI (by omega) (by decide)), ix_nI (by omega)]
theorem e_liking {a : Nat → Int32} {h c : Nat} (hh : h < 4) (hc : c < 6) : f_X12_liking a (nI h) (nI c) = some (a (22 + 6 * h + c)) := by
  unfold f_X12_liking
  rw [ix_lk, if_pos (inb_nI (by omega) (by decide)), ix_nI (by omega)]
theorem e_flag : ∀ b : Bool, f_X12_flag (if b then 1 else 0) = some (if b then 1 else 0) := by decide +kernel
theorem e_warmedM : ∀ k, k < 4 → ∀ l, l < 10 → ∀ n, n < 7 → f_X12_warmed (nI k) (nI l) (nI n) = some (nI (wmN k l n)) := by decide +kernel
def fixM (a : Nat → Int32) (k : Ka) : Prop := (∀ h, h < k.hs → a h = nI (k.ls h)) ∧ ∀ c, c < k.cm → a (4 + 3 * c) = nI (k.kd c) ∧ a (5 + 3 * c) = goI (k.go c) ∧ a (6 + 3 * c) = nI (k.co c)
theorem goI_eq {g h : Nat} (hg : g ≤ 9) (hh : h < 9) : goI g = nI h ↔ g = h := by
  unfold goI
  by_cases e : g = 9
  · rw [if_pos e]
    constructor
    · intro q; exact absurd q.symm (nI_n4 (by omega))
    · intro q; omega
  · rw [if_neg e]
    exact nI_eq (by omega) (by omega)
theorem go9 {k : Ka} (hk : kok k) {c : Nat} (hc : c < k.cm) : k.go c ≤ 9 := by
  have := hk.1
  rcases (hk.2.2.2.2.1 c hc).2.1 with q | q <;> omega
section
variable {k : Ka} {a : Nat → Int32} {h hm cg : Nat}
theorem e_isThere {c hr : Nat} (hk : kok k) (hf : fixM a k) (hh : h < 4) (hm6 : hm < 64) (hcg : ∀ c, c < k.cm → cg.testBit c = !(hm.testBit c)) (hc : c < k.cm) (hr7 : hr ≤ 7) : f_X12_isThere (nI hm) a (nI h) (nI c) (nI hr) = some (if thr k.go k.co cg h hr c then 1 else 0) := by
  have k6 := hk.2.1
  have h9 := go9 hk hc
  have hco := (hk.2.2.2.2.1 c hc).2.2
  unfold f_X12_isThere
  have e1 : f_X12_of a (nI c) 1 = some (a (4 + 3 * c + 1)) := e_of (j := 1) (by omega) (by decide)
  have e2 : f_X12_of a (nI c) 2 = some (a (4 + 3 * c + 2)) := e_of (j := 2) (by omega) (by decide)
  rw [e1, sb, e2, show 4 + 3 * c + 1 = 5 + 3 * c by omega, show 4 + 3 * c + 2 = 6 + 3 * c by omega, (hf.2 c hc).2.1, (hf.2 c hc).2.2]
  by_cases g1 : k.go c = h
  · rw [if_pos ((goI_eq h9 (by omega)).mpr g1), sb]
    by_cases g2 : k.co c ≤ hr
    · rw [if_neg (nI_nlt g2 (by omega))]
      by_cases g3 : hm.testBit c = true
      · rw [if_neg (fun q => by rw [(bt_get0 hm hm6 c (by omega)).mp q] at g3; cases g3), if_neg (by simp [thr, hcg c hc, g3])]
      · have g4 : hm.testBit c = false := by simpa using g3
        rw [if_pos ((bt_get0 hm hm6 c (by omega)).mpr g4), if_pos (by simp [thr, hcg c hc, g4, g1, g2])]
    · rw [if_pos (nI_lt (by omega) (by omega)), if_neg (by simp [thr, g2])]
  · rw [if_neg (fun q => g1 ((goI_eq h9 (by omega)).mp q)), if_neg (by simp [thr, g1])]
theorem e_isUnw {c : Nat} {row : Nat → Nat} (hk : kok k) (hf : fixM a k) (hh : h < k.hs) (hc : c < k.cm) (hr : a (22 + 6 * h + c) = nI (row c) ∧ row c ≤ 9) : f_X12_isUnwelcome a (nI h) (nI c) = some (if !((k.ls h).testBit c) && decide (row c ≤ 4) then 1 else 0) := by
  have k4 := hk.1
  have k6 := hk.2.1
  have l6 := ls64 hk hh
  unfold f_X12_isUnwelcome
  rw [if_pos (inb_nI (by omega) (by decide)), ix_nI (by omega), hf.1 h hh, e_liking (by omega) (by omega), sb, hr.1]
  by_cases g3 : (k.ls h).testBit c = true
  · rw [if_neg (fun q => by rw [(bt_get0 _ l6 c (by omega)).mp q] at g3; cases g3), if_neg (by simp [g3])]
  · have g4 : (k.ls h).testBit c = false := by simpa using g3
    rw [if_pos ((bt_get0 _ l6 c (by omega)).mpr g4)]
    by_cases h4 : row c ≤ 4
    · have hn4 : ¬ (4 : Int32) < nI (row c) := nI_nlt (a := 4) h4 (by decide)
      rw [if_neg hn4, if_pos (by simp [g4, h4])]
    · have hn4 : (4 : Int32) < nI (row c) := nI_lt (a := 4) (by omega) (by have := hr.2; omega)
      rw [if_pos hn4, if_neg (by simp [h4])]
theorem e_many {hr : Nat} (hk : kok k) (hf : fixM a k) (hh : h < 4) (hm6 : hm < 64) (hcg : ∀ c, c < k.cm → cg.testBit c = !(hm.testBit c)) (hr7 : hr ≤ 7) : f_X12_manyThere (nI k.cm) (nI hm) a (nI h) (nI hr) = some (nI (cnt (thr k.go k.co cg h hr) k.cm)) := by
  have k6 := hk.2.1
  have key : ∀ (q i n : Nat), i + q = k.cm → q < n → L_X12_manyThere_5 (nI k.cm) (nI hm) a (nI h) (nI hr) n (nI (cnt (thr k.go k.co cg h hr) i)) (nI i) = some (nI (cnt (thr k.go k.co cg h hr) k.cm)) := by
    intro q
    induction q with
    | zero =>
      intro i n e hn
      obtain ⟨n, rfl⟩ : ∃ n', n = n' + 1 := ⟨n - 1, by omega⟩
      have e2 : i = k.cm := by omega
      subst e2
      rw [L_X12_manyThere_5, if_pos (nI_le (Nat.le_refl _) (by omega))]
    | succ q ih =>
      intro i n e hn
      obtain ⟨n, rfl⟩ : ∃ n', n = n' + 1 := ⟨n - 1, by omega⟩
      rw [L_X12_manyThere_5, if_neg (nI_ge (by omega) (by omega)), e_isThere hk hf hh hm6 hcg (by omega) hr7, sb, e_flag, sb, nI_1]
      have ih2 := ih (i + 1) n (by omega) (by omega)
      rw [cnt] at ih2
      by_cases hb : thr k.go k.co cg h hr i = true
      · rw [if_pos hb]
        rw [if_pos hb, ← nI_1] at ih2
        exact ih2
      · rw [if_neg hb, Int32.add_zero]
        rw [if_neg hb, Nat.add_zero] at ih2
        exact ih2
  unfold f_X12_manyThere
  have h0 : L_X12_manyThere_5 (nI k.cm) (nI hm) a (nI h) (nI hr) 400 0 0 = _ := key k.cm 0 400 (by omega) (by omega)
  rw [h0]; rfl
/-- the row of a house on the reference's side -/
def rowM (a : Nat → Int32) (h cm : Nat) (row : Nat → Nat) : Prop := ∀ c, c < cm → a (22 + 6 * h + c) = nI (row c) ∧ row c ≤ 9
theorem l_42 {hr : Nat} {row : Nat → Nat} {y6 y7 : Nat → Int32} (hk : kok k) (hf : fixM a k) (hh : h < k.hs) (hm6 : hm < 64) (hcg : ∀ c, c < k.cm → cg.testBit c = !(hm.testBit c)) (hr7 : hr ≤ 7) (hrow : rowM a h k.cm row) :
    L_X12_houseWaits_42 (nI hm) (nI h) (nI hr) a 400 (nI k.cm - 1) y6 y7 = some (match fst (fun c => thr k.go k.co cg h hr c && (!((k.ls h).testBit c) && decide (row c ≤ 4))) k.cm with | some c => (upd y6 h (nI hr), upd y7 h (nI c)) | none => (y6, y7)) := by
  have k4 := hk.1
  have k6 := hk.2.1
  have key : ∀ (i n : Nat) (z6 z7 : Nat → Int32), i ≤ k.cm → i < n → ((∃ c, i ≤ c ∧ c < k.cm ∧ (thr k.go k.co cg h hr c && (!((k.ls h).testBit c) && decide (row c ≤ 4))) = true ∧ (∀ d, i ≤ d → d < c → (thr k.go k.co cg h hr d && (!((k.ls h).testBit d) && decide (row d ≤ 4))) = false) ∧ z6 = upd y6 h (nI hr) ∧ z7 = upd y7 h (nI c)) ∨ ((∀ d, i ≤ d → d < k.cm → (thr k.go k.co cg h hr d && (!((k.ls h).testBit d) && decide (row d ≤ 4))) = false) ∧ z6 = y6 ∧ z7 = y7)) → L_X12_houseWaits_42 (nI hm) (nI h) (nI hr) a n (nI i - 1) z6 z7 = some (match fst (fun c => thr k.go k.co cg h hr c && (!((k.ls h).testBit c) && decide (row c ≤ 4))) k.cm with | some c => (upd y6 h (nI hr), upd y7 h (nI c)) | none => (y6, y7)) := by
    intro i
    induction i with
    | zero =>
      intro n z6 z7 hi hn hz
      obtain ⟨n, rfl⟩ : ∃ n', n = n' + 1 := ⟨n - 1, by omega⟩
      have e0 : (nI 0 - 1 : Int32) < 0 := by decide
      rw [L_X12_houseWaits_42, if_pos e0]
      rcases hz with ⟨c, c1, c2, c3, c4, rfl, rfl⟩ | ⟨c1, rfl, rfl⟩
      · rw [fst_some.mpr ⟨c2, c3, fun d hd => c4 d (Nat.zero_le _) hd⟩]
      · rw [fst_none.mpr (fun d hd => c1 d (Nat.zero_le _) hd)]
    | succ i ih =>
      intro n z6 z7 hi hn hz
      obtain ⟨n, rfl⟩ : ∃ n', n = n' + 1 := ⟨n - 1, by omega⟩
      have e1 : (nI (i + 1) - 1 : Int32) = nI i := nI_pred i
      have e2 : (nI i + (-1) : Int32) = nI i - 1 := (Int32.sub_eq_add_neg _ _).symm
      rw [L_X12_houseWaits_42, e1, if_neg (nI_pos (by omega)), e_isThere hk hf (by omega) hm6 hcg (by omega) hr7, sb, e_isUnw hk hf hh (by omega) (hrow i (by omega)), sb, e2]
      by_cases g1 : thr k.go k.co cg h hr i = true
      · rw [if_pos g1, if_neg n10]
        by_cases g2 : (!((k.ls h).testBit i) && decide (row i ≤ 4)) = true
        · rw [if_pos g2, if_neg n10, if_pos (inb_nI (by omega) (by decide)), if_pos (inb_nI (by omega) (by decide)), ix_nI (by omega)]
          refine ih n _ _ (by omega) (by omega) (Or.inl ⟨i, Nat.le_refl _, by omega, by rw [g1, g2]; rfl, fun d d1 d2 => absurd d2 (by omega), ?_, ?_⟩)
          · rcases hz with ⟨c, -, -, -, -, rfl, -⟩ | ⟨-, rfl, -⟩
            · rw [upd_upd]
            · rfl
          · rcases hz with ⟨c, -, -, -, -, -, rfl⟩ | ⟨-, -, rfl⟩
            · rw [upd_upd]
            · rfl
        · rw [if_neg g2, if_pos rfl]
          have g3 : (thr k.go k.co cg h hr i && (!((k.ls h).testBit i) && decide (row i ≤ 4))) = false := by
            rw [show (!((k.ls h).testBit i) && decide (row i ≤ 4)) = false by simpa using g2, Bool.and_false]
          refine ih n _ _ (by omega) (by omega) ?_
          rcases hz with ⟨c, c1, c2, c3, c4, c5, c6⟩ | ⟨c1, c5, c6⟩
          · refine Or.inl ⟨c, by omega, c2, c3, fun d d1 d2 => ?_, c5, c6⟩
            rcases Nat.lt_or_ge i d with q | q
            · exact c4 d q d2
            · rw [show d = i by omega]; exact g3
          · refine Or.inr ⟨fun d d1 d2 => ?_, c5, c6⟩
            rcases Nat.lt_or_ge i d with q | q
            · exact c1 d q d2
            · rw [show d = i by omega]; exact g3
      · rw [if_neg g1, if_pos rfl]
        have g3 : (thr k.go k.co cg h hr i && (!((k.ls h).testBit i) && decide (row i ≤ 4))) = false := by
          rw [show thr k.go k.co cg h hr i = false by simpa using g1, Bool.false_and]
        refine ih n _ _ (by omega) (by omega) ?_
        rcases hz with ⟨c, c1, c2, c3, c4, c5, c6⟩ | ⟨c1, c5, c6⟩
        · refine Or.inl ⟨c, by omega, c2, c3, fun d d1 d2 => ?_, c5, c6⟩
          rcases Nat.lt_or_ge i d with q | q
          · exact c4 d q d2
          · rw [show d = i by omega]; exact g3
        · refine Or.inr ⟨fun d d1 d2 => ?_, c5, c6⟩
          rcases Nat.lt_or_ge i d with q | q
          · exact c1 d q d2
          · rw [show d = i by omega]; exact g3
  exact key k.cm 400 y6 y7 (Nat.le_refl _) (by omega) (Or.inr ⟨fun d d1 d2 => absurd d2 (by omega), rfl, rfl⟩)
theorem fixM_up {a2 : Nat → Int32} (hk : kok k) (hf : fixM a k) (h2 : ∀ j, j < 22 → a2 j = a j) : fixM a2 k := by
  have k4 := hk.1
  have k6 := hk.2.1
  exact ⟨fun h hh => by rw [h2 h (by omega)]; exact hf.1 h hh, fun c hc => by rw [h2 (4 + 3 * c) (by omega), h2 (5 + 3 * c) (by omega), h2 (6 + 3 * c) (by omega)]; exact hf.2 c hc⟩
theorem l_95 {hr N : Nat} {row : Nat → Nat} {v : (Nat → Int32) × (Nat → Int32)} (hk : kok k) (hf : fixM a k) (hh : h < k.hs) (hm6 : hm < 64) (hcg : ∀ c, c < k.cm → cg.testBit c = !(hm.testBit c)) (hr7 : hr ≤ 7) (hN : N < 7) (hrow : rowM a h k.cm row) (hv : v.1 h = -4) :
    ∃ a', L_X12_houseWaits_95 (nI k.cm) (nI hm) (nI h) (nI hr) v (nI N) 400 0 a = some a' ∧ (∀ c, c < k.cm → a' (22 + 6 * h + c) = nI (if c < k.cm ∧ thr k.go k.co cg h hr c = true then wmN (k.kd c) (row c) N else row c)) ∧ ∀ j, (∀ c, c < k.cm → j ≠ 22 + 6 * h + c) → a' j = a j := by
  have k4 := hk.1
  have k6 := hk.2.1
  have key : ∀ (q i n : Nat) (y : Nat → Int32), i + q = k.cm → q < n → (∀ j, j < 22 → y j = a j) → (∀ c, i ≤ c → c < k.cm → y (22 + 6 * h + c) = nI (row c)) → ∃ y', L_X12_houseWaits_95 (nI k.cm) (nI hm) (nI h) (nI hr) v (nI N) n (nI i) y = some y' ∧ (∀ c, i ≤ c → c < k.cm → y' (22 + 6 * h + c) = nI (if c < k.cm ∧ thr k.go k.co cg h hr c = true then wmN (k.kd c) (row c) N else row c)) ∧ ∀ j, (∀ c, i ≤ c → c < k.cm → j ≠ 22 + 6 * h + c) → y' j = y j := by
    intro q
    induction q with
    | zero =>
      intro i n y e hn hy hy2
      obtain ⟨n, rfl⟩ : ∃ n', n = n' + 1 := ⟨n - 1, by omega⟩
      have e2 : i = k.cm := by omega
      subst e2
      rw [L_X12_houseWaits_95, if_pos (nI_le (Nat.le_refl _) (by omega))]
      exact ⟨y, rfl, fun c h1 h2 => absurd h2 (by omega), fun j _ => rfl⟩
    | succ q ih =>
      intro i n y e hn hy hy2
      obtain ⟨n, rfl⟩ : ∃ n', n = n' + 1 := ⟨n - 1, by omega⟩
      have hfy : fixM y k := fixM_up hk hf hy
      rw [L_X12_houseWaits_95, if_neg (nI_ge (by omega) (by omega)), if_pos (inb_nI (by omega) (by decide)), ix_nI (by omega), if_pos hv, e_isThere hk hfy (by omega) hm6 hcg (by omega) hr7, sb]
      by_cases hb : thr k.go k.co cg h hr i = true
      · have e0 : f_X12_of y (nI i) 0 = some (y (4 + 3 * i + 0)) := e_of (j := 0) (by omega) (by decide)
        rw [if_pos hb, if_neg n10, e0, sb, e_liking (by omega) (by omega), sb, hy2 i (Nat.le_refl _) (by omega), show 4 + 3 * i + 0 = 4 + 3 * i by omega, (hfy.2 i (by omega)).1, e_warmedM _ (hk.2.2.2.2.1 i (by omega)).1 _ (by have := (hrow i (by omega)).2; omega) _ hN, sb, ix_lk, if_pos (inb_nI (by omega) (by decide)), ix_nI (by omega), nI_1]
        obtain ⟨y', a1, a2, a3⟩ := ih (i + 1) n (upd y (22 + 6 * h + i) (nI (wmN (k.kd i) (row i) N))) (by omega) (by omega) (fun j hj => by rw [upd_at, if_neg (by omega)]; exact hy j hj) (fun c h1 h2 => by rw [upd_at, if_neg (by omega)]; exact hy2 c (by omega) h2)
        refine ⟨y', a1, fun c h1 h2 => ?_, fun j hj => ?_⟩
        · rcases Nat.lt_or_ge i c with q | q
          · exact a2 c q h2
          · have ec : c = i := by omega
            subst ec
            rw [a3 _ (fun d d1 d2 => by omega), upd_at, if_pos rfl, if_pos ⟨h2, hb⟩]
        · rw [a3 j (fun c h1 h2 => hj c (by omega) h2), upd_at, if_neg (hj i (Nat.le_refl _) (by omega))]
      · rw [if_neg hb, if_pos rfl, nI_1]
        obtain ⟨y', a1, a2, a3⟩ := ih (i + 1) n y (by omega) (by omega) hy (fun c h1 h2 => hy2 c (by omega) h2)
        refine ⟨y', a1, fun c h1 h2 => ?_, fun j hj => a3 j (fun c h1 h2 => hj c (by omega) h2)⟩
        rcases Nat.lt_or_ge i c with q | q
        · exact a2 c q h2
        · have ec : c = i := by omega
          subst ec
          rw [a3 _ (fun d d1 d2 => by omega), if_neg (fun q => hb q.2)]
          exact hy2 c (Nat.le_refl _) h2
  obtain ⟨y', a1, a2, a3⟩ := key k.cm 0 400 a (by omega) (by omega) (fun _ _ => rfl) (fun c _ hc => (hrow c hc).1)
  exact ⟨y', a1, fun c hc => a2 c (Nat.zero_le _) hc, fun j hj => a3 j (fun c _ hc => hj c hc)⟩
end
