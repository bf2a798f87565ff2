/-! loops that count up; sums -/
theorem lpG {σ τ : Type} {L : Nat → σ → Int32 → Option τ} {n : Nat} {acc : Nat → σ} {r : τ} (hn : n < 399) (h0 : ∀ f, L (f + 1) (acc n) (nI n) = some r) (h1 : ∀ f c, c < n → L (f + 1) (acc c) (nI c) = L f (acc (c + 1)) (nI (c + 1))) : L 400 (acc 0) 0 = some r := by
  have key : ∀ d c f, c + d = n → d < f → L f (acc c) (nI c) = some r := by
    intro d
    induction d with
    | zero =>
      intro c f e hf
      obtain ⟨f, rfl⟩ : ∃ f', f = f' + 1 := ⟨f - 1, by omega⟩
      have e2 : c = n := by omega
      rw [e2]; exact h0 f
    | succ d ih =>
      intro c f e hf
      obtain ⟨f, rfl⟩ : ∃ f', f = f' + 1 := ⟨f - 1, by omega⟩
      rw [h1 f c (by omega)]
      exact ih (c + 1) f (by omega) (by omega)
  exact key n 0 400 (by omega) (by omega)
theorem lpP {σ τ : Type} {L : Nat → σ → Int32 → Option τ} {n : Nat} {P : Nat → σ → Prop} {Q : τ → Prop} (hn : n < 399) (h0 : ∀ f s, P n s → ∃ r, L (f + 1) s (nI n) = some r ∧ Q r) (h1 : ∀ f c s, c < n → P c s → ∃ s', P (c + 1) s' ∧ L (f + 1) s (nI c) = L f s' (nI (c + 1))) {s0 : σ} (hP : P 0 s0) : ∃ r, L 400 s0 0 = some r ∧ Q r := by
  have key : ∀ d c f s, c + d = n → d < f → P c s → ∃ r, L f s (nI c) = some r ∧ Q r := by
    intro d
    induction d with
    | zero =>
      intro c f s e hf hp
      obtain ⟨f, rfl⟩ : ∃ f', f = f' + 1 := ⟨f - 1, by omega⟩
      have e2 : c = n := by omega
      rw [e2] at hp ⊢; exact h0 f s hp
    | succ d ih =>
      intro c f s e hf hp
      obtain ⟨f, rfl⟩ : ∃ f', f = f' + 1 := ⟨f - 1, by omega⟩
      obtain ⟨s', p', e'⟩ := h1 f c s (by omega) hp
      rw [e']
      exact ih (c + 1) f s' (by omega) (by omega) p'
  exact key n 0 400 s0 (by omega) (by omega) hP
theorem nlt_le {n : Nat} (h : n < 2147483648) : nI n ≤ nI n := nI_le (Nat.le_refl n) h
theorem ne_out {x : Int32} {n j : Nat} (h : ¬ (0 ≤ x ∧ x ≤ nI n)) (hj : j ≤ n) (hn : n < 2147483647) : ¬ x = nI j := fun e => h (e ▸ (nI_inR hj hn).2)
theorem smN_swap (f : Nat → Nat → Nat) (m : Nat) : ∀ n, smN (fun h => smN (fun c => f h c) m) n = smN (fun c => smN (fun h => f h c) n) m
  | 0 => by
    have : ∀ m, smN (fun c => smN (fun h => f h c) 0) m = 0 := fun m => by
      induction m with
      | zero => rfl
      | succ m ih => rw [smN, ih]; rfl
    rw [this]; rfl
  | n + 1 => by
    have e : ∀ m, smN (fun c => smN (fun h => f h c) (n + 1)) m = smN (fun c => smN (fun h => f h c) n) m + smN (fun c => f n c) m := fun m => by
      induction m with
      | zero => rfl
      | succ m ih => rw [smN, smN, smN, ih, smN]; omega
    rw [e, smN, smN_swap f m n]
theorem cnt_sm (p : Nat → Bool) : ∀ n, cnt p n = smN (fun c => if p c then 1 else 0) n
  | 0 => rfl
  | n + 1 => by rw [cnt, smN, cnt_sm p n]
theorem cnt_cut {m cm : Nat} (h : m < 2 ^ cm) : ∀ n, cm ≤ n → cnt (fun c => m.testBit c) n = cnt (fun c => m.testBit c) cm
  | 0, e => by rw [show cm = 0 by omega]
  | n + 1, e => by
    rcases Nat.lt_or_ge n cm with q | q
    · rw [show cm = n + 1 by omega]
    · have h2 : m.testBit n = false := Nat.testBit_lt_two_pow (Nat.lt_of_lt_of_le h (Nat.pow_le_pow_right (by decide) q))
      rw [cnt, cnt_cut h n q, h2]; rfl
theorem bt_orb : ∀ m, m < 64 → ∀ c, c < 6 → ∀ b : Bool, (nI m ||| ((if b then 1 else 0 : Int32) <<< (nI c &&& 31))) = nI (if b then m ||| 2 ^ c else m) := by decide +kernel
/-- on how many lists a comer is; how well liked in all -/
def liN (k : Ka) (c : Nat) : Nat := smN (fun h => if (k.ls h).testBit c then 1 else 0) k.hs
def lkN (k : Ka) (c : Nat) : Nat := smN (fun h => k.lk h c) k.hs
def aliN (k : Ka) : Nat := smN (liN k) k.cm
def alkN (k : Ka) : Nat := smN (lkN k) k.cm
section
variable {x : Cty} {k : Ka} {a : Nat → Int32}
theorem e_likingsOf {c : Nat} (hk : kok k) (hC : relC x k) (hc : c < k.cm) : f_X1_likingsOf (nI k.hs) x.2.2.2.2.2.2.2 (nI c) = some (nI (lkN k c)) := by
  have k4 := hk.1
  have k6 := hk.2.1
  unfold f_X1_likingsOf
  have e : L_X1_likingsOf_4 (nI k.hs) x.2.2.2.2.2.2.2 (nI c) 400 0 0 = some (nI (lkN k c)) := by
    refine lpG (L := L_X1_likingsOf_4 (nI k.hs) x.2.2.2.2.2.2.2 (nI c)) (acc := fun h => nI (smN (fun h => k.lk h c) h)) (n := k.hs) (by omega) (fun f => ?_) (fun f h hh => ?_)
    · rw [L_X1_likingsOf_4, if_pos (nlt_le (by omega))]; rfl
    · rw [L_X1_likingsOf_4, if_neg (nI_ge (by omega) (by omega)), e_liked (by omega) (by omega), sb, hC.2.2.2.2.2 h hh c hc, nI_add, nI_1]; rfl
  rw [e]; rfl
theorem e_likings (hk : kok k) (hC : relC x k) : f_X1_likings (nI k.hs) (nI k.cm) x.2.2.2.2.2.2.2 = some (nI (alkN k)) := by
  have k4 := hk.1
  have k6 := hk.2.1
  unfold f_X1_likings
  have e : L_X1_likings_4 (nI k.hs) (nI k.cm) x.2.2.2.2.2.2.2 400 0 0 = some (nI (alkN k)) := by
    refine lpG (L := L_X1_likings_4 (nI k.hs) (nI k.cm) x.2.2.2.2.2.2.2) (acc := fun h => nI (smN (lkN k) h)) (n := k.cm) (by omega) (fun f => ?_) (fun f h hh => ?_)
    · rw [L_X1_likings_4, if_pos (nlt_le (by omega))]; rfl
    · rw [L_X1_likings_4, if_neg (nI_ge (by omega) (by omega)), e_likingsOf hk hC hh, sb, nI_add, nI_1]; rfl
  rw [e]; rfl
theorem e_likedInAll {c : Nat} (hk : kok k) (hM : relM a 0 k) (hc : c < k.cm) : f_X12_likedInAll (nI k.hs) a (nI c) = some (nI (lkN k c)) := by
  have k4 := hk.1
  have k6 := hk.2.1
  unfold f_X12_likedInAll
  have e : L_X12_likedInAll_4 (nI k.hs) a (nI c) 400 0 0 = some (nI (lkN k c)) := by
    refine lpG (L := L_X12_likedInAll_4 (nI k.hs) a (nI c)) (acc := fun h => nI (smN (fun h => k.lk h c) h)) (n := k.hs) (by omega) (fun f => ?_) (fun f h hh => ?_)
    · rw [L_X12_likedInAll_4, if_pos (nlt_le (by omega))]; rfl
    · have e9 := hM.2.2.1 h hh c hc
      rw [show 0 + 22 + 6 * h + c = 22 + 6 * h + c by omega] at e9
      rw [L_X12_likedInAll_4, if_neg (nI_ge (by omega) (by omega)), e_liking (by omega) (by omega), sb, e9, nI_add, nI_1]; rfl
  rw [e]; rfl
theorem e_allLiked (hk : kok k) (hM : relM a 0 k) : f_X12_allLiked (nI k.hs) (nI k.cm) a = some (nI (alkN k)) := by
  have k4 := hk.1
  have k6 := hk.2.1
  unfold f_X12_allLiked
  have e : L_X12_allLiked_4 (nI k.hs) (nI k.cm) a 400 0 0 = some (nI (alkN k)) := by
    refine lpG (L := L_X12_allLiked_4 (nI k.hs) (nI k.cm) a) (acc := fun h => nI (smN (lkN k) h)) (n := k.cm) (by omega) (fun f => ?_) (fun f h hh => ?_)
    · rw [L_X12_allLiked_4, if_pos (nlt_le (by omega))]; rfl
    · rw [L_X12_allLiked_4, if_neg (nI_ge (by omega) (by omega)), e_likedInAll hk hM hh, sb, nI_add, nI_1]; rfl
  rw [e]; rfl
theorem e_listsWith {c : Nat} (hk : kok k) (hC : relC x k) (hc : c < k.cm) : f_X1_listsWith (nI k.hs) x.2.2.2.1 (nI c) = some (nI (liN k c)) := by
  have k4 := hk.1
  have k6 := hk.2.1
  unfold f_X1_listsWith
  have e : L_X1_listsWith_4 (nI k.hs) x.2.2.2.1 (nI c) 400 0 0 = some (nI (liN k c)) := by
    refine lpG (L := L_X1_listsWith_4 (nI k.hs) x.2.2.2.1 (nI c)) (acc := fun h => nI (smN (fun h => if (k.ls h).testBit c then 1 else 0) h)) (n := k.hs) (by omega) (fun f => ?_) (fun f h hh => ?_)
    · rw [L_X1_listsWith_4, if_pos (nlt_le (by omega))]; rfl
    · rw [L_X1_listsWith_4, if_neg (nI_ge (by omega) (by omega)), e_onList (by omega) (by omega) (hC.2.2.2.1 h hh) (ls64 hk hh), sb]
      rw [smN]
      by_cases q : (k.ls h).testBit c = true
      · rw [if_pos q, if_neg n10, if_pos q, nI_1, nI_1]
      · rw [if_neg q, if_pos rfl, if_neg q, nI_1]; rfl
  rw [e]; rfl
theorem e_listed {c : Nat} (hk : kok k) (hM : relM a 0 k) (hc : c < k.cm) : f_X12_listed (nI k.hs) a (nI c) = some (nI (liN k c)) := by
  have k4 := hk.1
  have k6 := hk.2.1
  unfold f_X12_listed
  have e : L_X12_listed_4 (nI k.hs) a (nI c) 400 0 0 = some (nI (liN k c)) := by
    refine lpG (L := L_X12_listed_4 (nI k.hs) a (nI c)) (acc := fun h => nI (smN (fun h => if (k.ls h).testBit c then 1 else 0) h)) (n := k.hs) (by omega) (fun f => ?_) (fun f h hh => ?_)
    · rw [L_X12_listed_4, if_pos (nlt_le (by omega))]; rfl
    · have e9 := hM.1 h hh
      rw [Nat.zero_add] at e9
      rw [L_X12_listed_4, if_neg (nI_ge (by omega) (by omega)), if_pos (inb_nI (by omega) (by omega)), ix_nI (by omega), e9, bt_val _ (ls64 hk hh) _ (by omega), nI_add, nI_1]; rfl
  rw [e]; rfl
theorem e_allListed (hk : kok k) (hM : relM a 0 k) : f_X12_allListed (nI k.hs) (nI k.cm) a = some (nI (aliN k)) := by
  have k4 := hk.1
  have k6 := hk.2.1
  unfold f_X12_allListed
  have e : L_X12_allListed_4 (nI k.hs) (nI k.cm) a 400 0 0 = some (nI (aliN k)) := by
    refine lpG (L := L_X12_allListed_4 (nI k.hs) (nI k.cm) a) (acc := fun h => nI (smN (liN k) h)) (n := k.cm) (by omega) (fun f => ?_) (fun f h hh => ?_)
    · rw [L_X12_allListed_4, if_pos (nlt_le (by omega))]; rfl
    · rw [L_X12_allListed_4, if_neg (nI_ge (by omega) (by omega)), e_listed hk hM hh, sb, nI_add, nI_1]; rfl
  rw [e]; rfl
theorem e_invitations (hk : kok k) (hC : relC x k) : f_X1_invitations (nI k.hs) x.2.2.2.1 = some (nI (aliN k)) := by
  have k4 := hk.1
  have k6 := hk.2.1
  unfold f_X1_invitations
  have e : L_X1_invitations_4 (nI k.hs) x.2.2.2.1 400 0 0 = some (nI (smN (fun h => cnt (fun c => (k.ls h).testBit c) 6) k.hs)) := by
    refine lpG (L := L_X1_invitations_4 (nI k.hs) x.2.2.2.1) (acc := fun h => nI (smN (fun h => cnt (fun c => (k.ls h).testBit c) 6) h)) (n := k.hs) (by omega) (fun f => ?_) (fun f h hh => ?_)
    · rw [L_X1_invitations_4, if_pos (nlt_le (by omega))]
    · rw [L_X1_invitations_4, if_neg (nI_ge (by omega) (by omega)), if_pos (inb_nI (by omega) (by omega)), ix_nI (by omega), hC.2.2.2.1 h hh, bitCount_nI _ (ls64 hk hh), sb, nI_add, nI_1]; rfl
  rw [e, sb]
  have e2 : smN (fun h => cnt (fun c => (k.ls h).testBit c) 6) k.hs = smN (fun h => smN (fun c => if (k.ls h).testBit c then 1 else 0) k.cm) k.hs := smN_congr (fun h hh => by rw [cnt_cut (hk.2.2.2.1 h hh) 6 k6, cnt_sm])
  rw [e2, smN_swap]; rfl
theorem e_tonight (hk : kok k) (hC : relC x k) (e w f a b c bb ww : Int32) (r1 r2 r3 r4 r5 hrs ops : Nat → Int32) : ∃ hrs' ops' lk' : Nat → Int32, f_X10_tonight e w f a b c r1 r2 r3 r4 r5 bb ww hrs ops x.1 x.2.1 x.2.2.1 x.2.2.2.2.2.2.1 x.2.2.2.2.2.1 x.2.2.2.2.1 x.2.2.2.2.2.2.2 x.2.2.2.1 = some (0, 0, -4, x.1, x.2.1, nI (k.ev + 1), x.2.2.2.2.2.2.1, x.2.2.2.2.2.1, x.2.2.2.2.1, lk', x.2.2.2.1, nI (msk (bgK k) k.hs), nI (wK k), hrs', ops') ∧ ∀ h, h < k.hs → hrs' h = nI (hrK k h) ∧ ops' h = opI (opK k h) := by
  obtain ⟨hrs', ops', lk', e1, e2, -⟩ := e_hold hk hC bb ww hrs ops
  refine ⟨hrs', ops', lk', ?_, e2⟩
  unfold f_X10_tonight
  rw [e_rst, sb]
  dsimp only
  rw [e1]
  rfl
end
