section
variable {k : Ka} {h hm cg : Nat}
theorem l_95x {a : Nat → Int32} {hr N : Int32} {v : (Nat → Int32) × (Nat → Int32)} {cm : Int32} (hh : h < 4) (hv : ¬ v.1 h = -4) : L_X12_houseWaits_95 cm (nI hm) (nI h) hr v N 400 0 a = some a := by
  show L_X12_houseWaits_95 cm (nI hm) (nI h) hr v N (399 + 1) 0 a = some a
  rw [L_X12_houseWaits_95]
  by_cases q : cm ≤ 0
  · rw [if_pos q]
  · rw [if_neg q, if_pos (inb_nI hh (by decide)), ix_nI (by omega), if_neg hv]
theorem l_18 (hk : kok k) (hh : h < k.hs) (hm6 : hm < 64) (hcg : ∀ c, c < k.cm → cg.testBit c = !(hm.testBit c)) :
    ∀ (q hr n : Nat) (y2 y3 y4 : Nat → Int32) (row : Nat → Nat), hr + q = 7 → q + 1 < n → y2 h = -4 → fixM y4 k → rowM y4 h k.cm row →
    ∃ y4', L_X12_houseWaits_18 (nI k.cm) (nI hm) (nI h) n (nI hr) y2 y3 y4 = some (match (wt k.cm k.kd (k.ls h) (thr k.go k.co cg h) q hr row).2.2 with | none => (y2, y3, y4') | some c => (upd y2 h (nI (wt k.cm k.kd (k.ls h) (thr k.go k.co cg h) q hr row).2.1), upd y3 h (nI c), y4')) ∧ (∀ c, c < k.cm → y4' (22 + 6 * h + c) = nI ((wt k.cm k.kd (k.ls h) (thr k.go k.co cg h) q hr row).1 c)) ∧ ∀ j, (∀ c, c < k.cm → j ≠ 22 + 6 * h + c) → y4' j = y4 j := by
  have k4 := hk.1
  have k6 := hk.2.1
  intro q
  induction q with
  | zero =>
    intro hr n y2 y3 y4 row e hn h4 hf hrow
    obtain ⟨n, rfl⟩ : ∃ n', n = n' + 1 := ⟨n - 1, by omega⟩
    have e2 : hr = 7 := by omega
    subst e2
    rw [L_X12_houseWaits_18, if_pos (by decide)]
    exact ⟨y4, rfl, fun c hc => (hrow c hc).1, fun j _ => rfl⟩
  | succ q ih =>
    intro hr n y2 y3 y4 row e hn h4 hf hrow
    obtain ⟨n, rfl⟩ : ∃ n', n = n' + 1 := ⟨n - 1, by omega⟩
    have b7 : ¬ (7 : Int32) ≤ nI hr := nI_ge (b := 7) (by omega) (by decide)
    rw [L_X12_houseWaits_18, if_neg b7, if_pos (inb_nI (by omega) (by decide)), ix_nI (by omega), if_pos h4, l_42 hk hf hh hm6 hcg (by omega) hrow, sb, e_many hk hf (by omega) hm6 hcg (by omega), sb, wt]
    have hle := cnt_le (thr k.go k.co cg h hr) k.cm
    cases hfs : fst (fun c => thr k.go k.co cg h hr c && (!((k.ls h).testBit c) && decide (row c ≤ 4))) k.cm with
    | none =>
      obtain ⟨a', a1, a2, a3⟩ := l_95 (v := (y2, y3)) (hr := hr) (N := cnt (thr k.go k.co cg h hr) k.cm) hk hf hh hm6 hcg (by omega) (by omega) hrow h4
      have a1 : L_X12_houseWaits_95 (nI k.cm) (nI hm) (nI h) (nI hr) (y2, y3) (nI (cnt (thr k.go k.co cg h hr) k.cm)) 400 0 y4 = some a' := a1
      show ∃ y4', ((L_X12_houseWaits_95 (nI k.cm) (nI hm) (nI h) (nI hr) (y2, y3) (nI (cnt (thr k.go k.co cg h hr) k.cm)) 400 0 y4).bind _) = _ ∧ _
      rw [a1, sb, nI_1]
      obtain ⟨y4', b1, b2, b3⟩ := ih (hr + 1) n y2 y3 a' (fun c => if c < k.cm ∧ thr k.go k.co cg h hr c = true then wmN (k.kd c) (row c) (cnt (thr k.go k.co cg h hr) k.cm) else row c) (by omega) (by omega) h4 (fixM_up hk hf (fun j hj => a3 j (fun c hc => by omega))) (fun c hc => ⟨a2 c hc, by
        show (if c < k.cm ∧ thr k.go k.co cg h hr c = true then wmN (k.kd c) (row c) (cnt (thr k.go k.co cg h hr) k.cm) else row c) ≤ 9
        split
        · exact wmN_le _ (hk.2.2.2.2.1 c hc).1 _ (by have := (hrow c hc).2; omega) _ (by omega)
        · exact (hrow c hc).2⟩)
      exact ⟨y4', b1, b2, fun j hj => (b3 j hj).trans (a3 j hj)⟩
    | some d =>
      have hd := (fst_some.mp hfs).1
      have a1 : L_X12_houseWaits_95 (nI k.cm) (nI hm) (nI h) (nI hr) (upd y2 h (nI hr), upd y3 h (nI d)) (nI (cnt (thr k.go k.co cg h hr) k.cm)) 400 0 y4 = some y4 := l_95x (by omega) (by show ¬ upd y2 h (nI hr) h = -4; rw [upd_at, if_pos rfl]; exact nI_n4 (by omega))
      refine ⟨y4, ?_, fun c hc => (hrow c hc).1, fun j _ => rfl⟩
      show ((L_X12_houseWaits_95 (nI k.cm) (nI hm) (nI h) (nI hr) (upd y2 h (nI hr), upd y3 h (nI d)) (nI (cnt (thr k.go k.co cg h hr) k.cm)) 400 0 y4).bind _) = _
      rw [a1, sb, nI_1]
      obtain ⟨n, rfl⟩ : ∃ n', n = n' + 1 := ⟨n - 1, by omega⟩
      rw [L_X12_houseWaits_18]
      by_cases q7 : (7 : Int32) ≤ nI (hr + 1)
      · rw [if_pos q7]
      · rw [if_neg q7, if_pos (inb_nI (by omega) (by decide)), ix_nI (by omega)]
        have e9 : ¬ upd y2 h (nI hr) h = -4 := by rw [upd_at, if_pos rfl]; exact nI_n4 (by omega)
        rw [if_neg e9]
theorem e_waits {a bg by_ : Nat → Int32} (hk : kok k) (hh : h < k.hs) (hm6 : hm < 64) (hcg : ∀ c, c < k.cm → cg.testBit c = !(hm.testBit c)) (hf : fixM a k) (hrow : rowM a h k.cm (k.lk h)) :
    ∃ a', f_X12_houseWaits (nI k.cm) (nI hm) bg by_ a (nI h) = some (upd bg h (bgI (wtK k cg h).2.1), upd by_ h (opI (wtK k cg h).2.2), a') ∧ (∀ c, c < k.cm → a' (22 + 6 * h + c) = nI ((wtK k cg h).1 c)) ∧ ∀ j, (∀ c, c < k.cm → j ≠ 22 + 6 * h + c) → a' j = a j := by
  have k4 := hk.1
  obtain ⟨a', a1, a2, a3⟩ := l_18 (cg := cg) hk hh hm6 hcg 7 0 400 (upd bg h (-4)) (upd by_ h (-4)) a (k.lk h) (by omega) (by omega) (by rw [upd_at, if_pos rfl]) hf hrow
  refine ⟨a', ?_, a2, a3⟩
  unfold f_X12_houseWaits
  rw [if_pos (inb_nI (by omega) (by decide)), if_pos (inb_nI (by omega) (by decide)), ix_nI (by omega)]
  have a0 : L_X12_houseWaits_18 (nI k.cm) (nI hm) (nI h) 400 0 (upd bg h (-4)) (upd by_ h (-4)) a = _ := a1
  rw [a0, sb]
  rcases wt_hr (cm := k.cm) (kd := k.kd) (lb := k.ls h) (th := thr k.go k.co cg h) 7 0 (k.lk h) rfl with ⟨r1, r2⟩ | ⟨⟨c, r1, -⟩, r2⟩
  · unfold wtK
    rw [r1, r2]
    rfl
  · unfold wtK
    rw [r1]
    show some (upd (upd bg h (-4)) h _, upd (upd by_ h (-4)) h (nI c), a') = _
    rw [upd_upd, upd_upd]
    unfold bgI
    rw [if_pos r2]
    rfl
end
def hrG (k : Ka) (cg h : Nat) : Nat := (wtK k cg h).2.1
def bgG (k : Ka) (cg h : Nat) : Bool := decide (hrG k cg h < 7)
def eveG (k : Ka) (cg : Nat) : Ka := ((k.hs, k.cm, k.ev + 1), k.ls, k.kd, k.go, k.co, fun h c => (wtK k cg h).1 c)
theorem hrG_le (k : Ka) (cg h : Nat) : hrG k cg h ≤ 7 := by
  rcases wt_hr (cm := k.cm) (kd := k.kd) (lb := k.ls h) (th := thr k.go k.co cg h) 7 0 (k.lk h) rfl with ⟨-, r⟩ | ⟨-, r⟩
  · exact Nat.le_of_eq r
  · exact Nat.le_of_lt r
theorem kok_eveG {k : Ka} {cg : Nat} (hk : kok k) (he : k.ev < 2000) : kok (eveG k cg) := ⟨hk.1, hk.2.1, he, hk.2.2.2.1, hk.2.2.2.2.1, fun h hh c hc => wt_le hk.2.1 (fun c hc => (hk.2.2.2.2.1 c hc).1) 7 0 (k.lk h) (fun c hc => hk.2.2.2.2.2 h hh c hc) c hc⟩
theorem relM_fix {a : Nat → Int32} {k : Ka} (h : relM a 0 k) : fixM a k := ⟨fun h9 hh => by have := h.1 h9 hh; rwa [Nat.zero_add] at this, fun c hc => by
  have := h.2.1 c hc
  rw [show 0 + 4 + 3 * c = 4 + 3 * c by omega, show 0 + 5 + 3 * c = 5 + 3 * c by omega, show 0 + 6 + 3 * c = 6 + 3 * c by omega] at this
  exact this⟩
theorem e_goesEv {a bg by_ : Nat → Int32} {k : Ka} {hm cg d w : Nat} (hk : kok k) (hM : relM a 0 k) (hm6 : hm < 64) (hcg : ∀ c, c < k.cm → cg.testBit c = !(hm.testBit c)) :
    ∃ bg' by' a' : Nat → Int32, f_X12_eveningGoes (nI k.hs) (nI k.cm) (nI hm) (nI d) (nI w) bg by_ a = some (nI (d + cnt (bgG k cg) k.hs), nI (w + smN (hrG k cg) k.hs), bg', by', a') ∧ (∀ h, h < k.hs → bg' h = bgI (hrG k cg h) ∧ by' h = opI (wtK k cg h).2.2) ∧ relM a' 0 (eveG k cg) ∧ ∀ j, 47 ≤ j → a' j = a j := by
  have k4 := hk.1
  have k6 := hk.2.1
  have hf := relM_fix hM
  have key : ∀ (q i n : Nat) (y4 y5 y6 : Nat → Int32), i + q = k.hs → q < n → fixM y6 k → (∀ h, i ≤ h → h < k.hs → ∀ c, c < k.cm → y6 (22 + 6 * h + c) = nI (k.lk h c)) → ∃ y4' y5' y6' : Nat → Int32, L_X12_eveningGoes_2 (nI k.hs) (nI k.cm) (nI hm) n (nI i) (nI (d + cnt (bgG k cg) i)) (nI (w + smN (hrG k cg) i)) y4 y5 y6 = some (nI (d + cnt (bgG k cg) k.hs), nI (w + smN (hrG k cg) k.hs), y4', y5', y6') ∧ (∀ h, i ≤ h → h < k.hs → y4' h = bgI (hrG k cg h) ∧ y5' h = opI (wtK k cg h).2.2 ∧ ∀ c, c < k.cm → y6' (22 + 6 * h + c) = nI ((wtK k cg h).1 c)) ∧ (∀ h, h < i → y4' h = y4 h ∧ y5' h = y5 h ∧ ∀ c, c < k.cm → y6' (22 + 6 * h + c) = y6 (22 + 6 * h + c)) ∧ ∀ j, (j < 22 ∨ 46 ≤ j) → y6' j = y6 j := by
    intro q
    induction q with
    | zero =>
      intro i n y4 y5 y6 e hn hfy hy
      obtain ⟨n, rfl⟩ : ∃ n', n = n' + 1 := ⟨n - 1, by omega⟩
      have e2 : i = k.hs := by omega
      subst e2
      rw [L_X12_eveningGoes_2, if_pos (nI_le (Nat.le_refl _) (by omega))]
      exact ⟨y4, y5, y6, rfl, fun h h1 h2 => absurd h2 (by omega), fun h _ => ⟨rfl, rfl, fun _ _ => rfl⟩, fun _ _ => rfl⟩
    | succ q ih =>
      intro i n y4 y5 y6 e hn hfy hy
      obtain ⟨n, rfl⟩ : ∃ n', n = n' + 1 := ⟨n - 1, by omega⟩
      obtain ⟨a', a1, a2, a3⟩ := e_waits (h := i) (cg := cg) (bg := y4) (by_ := y5) (a := y6) hk (by omega) hm6 hcg hfy (fun c hc => ⟨hy i (Nat.le_refl _) (by omega) c hc, hk.2.2.2.2.2 i (by omega) c hc⟩)
      obtain ⟨y4', y5', y6', b1, b2, b3, b4⟩ := ih (i + 1) n (upd y4 i (bgI (wtK k cg i).2.1)) (upd y5 i (opI (wtK k cg i).2.2)) a' (by omega) (by omega) (fixM_up hk hfy (fun j hj => a3 j (fun c hc => by omega))) (fun h h1 h2 c hc => by rw [a3 _ (fun d hd => by omega)]; exact hy h (by omega) h2 c hc)
      rw [cnt, smN] at b1
      have hle := hrG_le k cg i
      refine ⟨y4', y5', y6', ?_, fun h h1 h2 => ?_, fun h h1 => ?_, fun j hj => ?_⟩
      · rw [L_X12_eveningGoes_2, if_neg (nI_ge (by omega) (by omega)), a1, sb, if_pos (inb_nI (by omega) (by decide)), ix_nI (by omega)]
        have e5 : upd y4 i (bgI (wtK k cg i).2.1) i = bgI (hrG k cg i) := by rw [upd_at, if_pos rfl]; rfl
        dsimp only
        by_cases q7 : hrG k cg i < 7
        · have e6 : upd y4 i (bgI (wtK k cg i).2.1) i = nI (hrG k cg i) := e5.trans (if_pos q7)
          have e6n : ¬ upd y4 i (bgI (wtK k cg i).2.1) i = -4 := by rw [e6]; exact nI_n4 (by omega)
          have e7 : f_X12_flag 1 = some 1 := rfl
          rw [if_neg e6n, sb, e7, sb, if_pos (inb_nI (by omega) (by decide)), if_neg e6n, if_pos (inb_nI (by omega) (by decide)), e6, nI_1, nI_1, nI_add]
          rw [if_pos (by simp [bgG, q7])] at b1
          rw [Nat.add_assoc, Nat.add_assoc]
          exact b1
        · have e6 : upd y4 i (bgI (wtK k cg i).2.1) i = -4 := e5.trans (if_neg q7)
          have e7 : f_X12_flag 0 = some 0 := rfl
          rw [if_pos e6, sb, e7, sb, if_pos (inb_nI (by omega) (by decide)), if_pos e6, nI_1]
          rw [if_neg (by simp [bgG, q7]), Nat.add_zero, show hrG k cg i = 7 by omega] at b1
          have e8 : nI (w + smN (hrG k cg) i) + 7 = nI (w + (smN (hrG k cg) i + 7)) := by rw [← Nat.add_assoc]; exact nI_add _ 7
          rw [e8, Int32.add_zero]
          exact b1
      · rcases Nat.lt_or_ge i h with q | q
        · exact b2 h q h2
        · have eh : h = i := by omega
          subst eh
          obtain ⟨d1, d2, d3⟩ := b3 h (by omega)
          refine ⟨by rw [d1, upd_at, if_pos rfl]; rfl, by rw [d2, upd_at, if_pos rfl], fun c hc => by rw [d3 c hc]; exact a2 c hc⟩
      · obtain ⟨d1, d2, d3⟩ := b3 h (by omega)
        refine ⟨by rw [d1, upd_at, if_neg (by omega)], by rw [d2, upd_at, if_neg (by omega)], fun c hc => by rw [d3 c hc, a3 _ (fun d hd => by omega)]⟩
      · rw [b4 j hj, a3 j (fun c hc => by omega)]
  obtain ⟨y4', y5', y6', b1, b2, -, b4⟩ := key k.hs 0 400 bg by_ a (by omega) (by omega) hf (fun h _ hh c hc => by have := hM.2.2.1 h hh c hc; rwa [show 0 + 22 + 6 * h + c = 22 + 6 * h + c by omega] at this)
  have e46 : y6' 46 = nI k.ev := by rw [b4 46 (by omega)]; have := hM.2.2.2; rwa [Nat.zero_add] at this
  refine ⟨y4', y5', upd y6' 46 (nI (k.ev + 1)), ?_, fun h hh => ⟨(b2 h (Nat.zero_le _) hh).1, (b2 h (Nat.zero_le _) hh).2.1⟩, ?_, fun j hj => by rw [upd_at, if_neg (by omega)]; exact b4 j (Or.inr (by omega))⟩
  · unfold f_X12_eveningGoes
    have b0 : L_X12_eveningGoes_2 (nI k.hs) (nI k.cm) (nI hm) 400 0 (nI d) (nI w) bg by_ a = _ := b1
    rw [b0, sb, if_pos (by decide), if_pos (by decide)]
    have e47 : ix 46 = 46 := by decide
    dsimp only
    rw [e47, e46, nI_1]
  · have hf2 : fixM y6' k := fixM_up hk hf (fun j hj => b4 j (Or.inl hj))
    refine ⟨fun h hh => ?_, fun c hc => ?_, fun h hh c hc => ?_, ?_⟩
    · have hh : h < k.hs := hh
      rw [upd_at, if_neg (by omega), Nat.zero_add]
      exact hf2.1 h hh
    · have hc : c < k.cm := hc
      rw [upd_at, if_neg (by omega), upd_at, if_neg (by omega), upd_at, if_neg (by omega), show 0 + 4 + 3 * c = 4 + 3 * c by omega, show 0 + 5 + 3 * c = 5 + 3 * c by omega, show 0 + 6 + 3 * c = 6 + 3 * c by omega]
      exact hf2.2 c hc
    · have hh : h < k.hs := hh
      have hc : c < k.cm := hc
      rw [upd_at, if_neg (by omega), show 0 + 22 + 6 * h + c = 22 + 6 * h + c by omega]
      exact (b2 h (Nat.zero_le _) hh).2.2 c hc
    · rw [upd_at, if_pos rfl]
      rfl
