/-! at the worst -/
def mxN (f : Nat → Nat) : Nat → Nat
  | 0 => 0
  | n + 1 => if mxN f n < f n then f n else mxN f n
theorem mx_ge {f : Nat → Nat} {i : Nat} : ∀ {n : Nat}, i < n → f i ≤ mxN f n
  | 0, h => absurd h (Nat.not_lt_zero i)
  | n + 1, h => by
    rw [mxN]
    by_cases e : i = n
    · subst e; split <;> omega
    · have := mx_ge (f := f) (i := i) (n := n) (by omega)
      split <;> omega
theorem mx_le {f : Nat → Nat} {b : Nat} : ∀ {n : Nat}, (∀ i, i < n → f i ≤ b) → mxN f n ≤ b
  | 0, _ => Nat.zero_le b
  | n + 1, h => by
    rw [mxN]
    have h1 := mx_le (f := f) (b := b) (n := n) (fun i hi => h i (by omega))
    have h2 := h n (by omega)
    split <;> omega
theorem cnt_ex {p : Nat → Bool} : ∀ {n : Nat}, 0 < cnt p n → ∃ i, i < n ∧ p i = true
  | 0, h => absurd h (Nat.lt_irrefl 0)
  | n + 1, h => by
    by_cases e : p n = true
    · exact ⟨n, by omega, e⟩
    · rw [cnt, if_neg e, Nat.add_zero] at h
      obtain ⟨i, h1, h2⟩ := cnt_ex h
      exact ⟨i, by omega, h2⟩
theorem cnt_lt {p : Nat → Bool} {i : Nat} (hi : p i = true) : ∀ {n : Nat}, i < n → cnt p i < cnt p n
  | 0, h => absurd h (Nat.not_lt_zero i)
  | n + 1, h => by
    rw [cnt]
    by_cases e : i = n
    · subst e; rw [if_pos hi]; omega
    · have := cnt_lt hi (n := n) (by omega)
      split <;> omega
theorem cnt_at {p : Nat → Bool} {a : Nat} : ∀ {n : Nat}, a < cnt p n → ∃ i, i < n ∧ p i = true ∧ cnt p i = a
  | 0, h => absurd h (Nat.not_lt_zero a)
  | n + 1, h => by
    by_cases e : a < cnt p n
    · obtain ⟨i, h1, h2⟩ := cnt_at e
      exact ⟨i, by omega, h2⟩
    · rw [cnt] at h
      by_cases e2 : p n = true
      · rw [if_pos e2] at h
        exact ⟨n, by omega, e2, by omega⟩
      · rw [if_neg e2] at h
        omega
/-- how many are left, if it begins in that hour; at the worst -/
def Cq (g : Nat → Bool) (V : Nat → Nat) (hr : Nat) : Nat := cnt (fun x => g x && decide (V x = hr)) 4
def Wq (g : Nat → Bool) (V : Nat → Nat) : Nat := mxN (Cq g V) 8
theorem pick {g : Nat → Bool} {V : Nat → Nat} {U : Nat → Int32} {x : Int32} : ∀ t, t ≤ 4 → (∀ i, i < t → g i = true → U (cnt g i) = nI (V i)) → cnt (fun b => decide (x = U b)) (cnt g t) = cnt (fun i => g i && decide (x = nI (V i))) t
  | 0, _, _ => rfl
  | t + 1, h4, hU => by
    have ih := pick (x := x) t (by omega) (fun i hi hg => hU i (by omega) hg)
    rw [cnt.eq_2 (fun i => g i && decide (x = nI (V i))), ← ih]
    by_cases e : g t = true
    · rw [show cnt g (t + 1) = cnt g t + 1 by rw [cnt, if_pos e], cnt.eq_2, hU t (by omega) e, e, Bool.true_and]
    · rw [show cnt g (t + 1) = cnt g t by rw [cnt, if_neg e, Nat.add_zero]]
      have e : g t = false := by simpa using e
      rw [e, Bool.false_and, if_neg (by decide), Nat.add_zero]
theorem worst_eq {g : Nat → Bool} {V : Nat → Nat} {U : Nat → Int32} (h7 : ∀ i, V i ≤ 7) (hU : ∀ i, i < 4 → g i = true → U (cnt g i) = nI (V i)) : mxN (fun a => cnt (fun b => decide (U a = U b)) (cnt g 4)) (cnt g 4) = Wq g V := by
  have one : ∀ i, i < 4 → g i = true → cnt (fun b => decide (U (cnt g i) = U b)) (cnt g 4) = Cq g V (V i) := fun i hi hg => by
    rw [pick (V := V) 4 (by omega) hU, hU i hi hg]
    apply cnt_congr
    intro x hx
    congr 1
    apply decide_eq_decide.mpr
    have a := h7 i
    have b := h7 x
    rw [nI_eq (by omega) (by omega)]
    exact eq_comm
  apply Nat.le_antisymm
  · apply mx_le
    intro a ha
    obtain ⟨i, h1, h2, h3⟩ := cnt_at ha
    have e := one i h1 h2
    rw [h3] at e
    show cnt (fun b => decide (U a = U b)) (cnt g 4) ≤ _
    rw [e]
    exact mx_ge (f := Cq g V) (by have := h7 i; omega)
  · apply mx_le
    intro hr _
    by_cases z : 0 < Cq g V hr
    · obtain ⟨i, h1, h2⟩ := cnt_ex z
      have h2 := Bool.and_eq_true_iff.mp h2
      have e := one i h1 h2.1
      rw [of_decide_eq_true h2.2] at e
      rw [← e]
      exact mx_ge (f := fun a => cnt (fun b => decide (U a = U b)) (cnt g 4)) (cnt_lt h2.1 h1)
    · omega
theorem cnt_b4 (p : Nat → Bool) : cnt p 4 ≤ 4 := cnt_le p 4
/-! the class's questions -/
def PQ (m : Nat) (V : Nat → Nat) (hr : Nat) : Nat → Bool := fun x => m.testBit x && decide (V x = hr)
theorem w_q0 {r0 r1 r2 r3 : Nat → Int32} {m sp hr : Nat} {V : Nat → Nat} (hm : m < 64) (hsp : sp < 40) (hhr : hr < 8) (h7 : V 0 ≤ 7) (hv : r0 sp = nI (V 0)) (f a : Nat) : L_X3_worstLeft_18 r0 r1 r2 r3 (nI m) (nI sp) (nI hr) (f + 1) (nI a) (nI 0) = L_X3_worstLeft_18 r0 r1 r2 r3 (nI m) (nI sp) (nI hr) f (nI (a + if PQ m V hr 0 then 1 else 0)) (nI 1) := by
  rw [L_X3_worstLeft_18, if_neg (by decide)]
  by_cases hb : m.testBit 0 = true
  · rw [if_pos ((bt_get m hm 0 (by omega)).mpr hb), if_pos (by decide), if_pos (inb_nI (by omega) (by omega)), ix_nI (by omega), hv]
    by_cases z : V 0 = hr
    · have e : PQ m V hr 0 = true := by unfold PQ; rw [hb, decide_eq_true z]; rfl
      rw [if_pos (by rw [z]), nI_1, nI_1, if_pos e]
    · have e : PQ m V hr 0 = false := by unfold PQ; rw [decide_eq_false z, Bool.and_false]
      rw [if_neg (fun y => z ((nI_eq (by omega) (by omega)).mp y)), nI_1, e, if_neg (by decide)] <;> rfl
  · have e : PQ m V hr 0 = false := by unfold PQ; rw [show m.testBit 0 = false by simpa using hb]; rfl
    rw [if_neg (fun y => hb ((bt_get m hm 0 (by omega)).mp y)), nI_1, e, if_neg (by decide)] <;> rfl
theorem w_q1 {r0 r1 r2 r3 : Nat → Int32} {m sp hr : Nat} {V : Nat → Nat} (hm : m < 64) (hsp : sp < 40) (hhr : hr < 8) (h7 : V 1 ≤ 7) (hv : r1 sp = nI (V 1)) (f a : Nat) : L_X3_worstLeft_18 r0 r1 r2 r3 (nI m) (nI sp) (nI hr) (f + 1) (nI a) (nI 1) = L_X3_worstLeft_18 r0 r1 r2 r3 (nI m) (nI sp) (nI hr) f (nI (a + if PQ m V hr 1 then 1 else 0)) (nI 2) := by
  rw [L_X3_worstLeft_18, if_neg (by decide)]
  by_cases hb : m.testBit 1 = true
  · rw [if_pos ((bt_get m hm 1 (by omega)).mpr hb), if_neg (by decide), if_pos (by decide), if_pos (inb_nI (by omega) (by omega)), ix_nI (by omega), hv]
    by_cases z : V 1 = hr
    · have e : PQ m V hr 1 = true := by unfold PQ; rw [hb, decide_eq_true z]; rfl
      rw [if_pos (by rw [z]), nI_1, nI_1, if_pos e]
    · have e : PQ m V hr 1 = false := by unfold PQ; rw [decide_eq_false z, Bool.and_false]
      rw [if_neg (fun y => z ((nI_eq (by omega) (by omega)).mp y)), nI_1, e, if_neg (by decide)] <;> rfl
  · have e : PQ m V hr 1 = false := by unfold PQ; rw [show m.testBit 1 = false by simpa using hb]; rfl
    rw [if_neg (fun y => hb ((bt_get m hm 1 (by omega)).mp y)), nI_1, e, if_neg (by decide)] <;> rfl
theorem w_q2 {r0 r1 r2 r3 : Nat → Int32} {m sp hr : Nat} {V : Nat → Nat} (hm : m < 64) (hsp : sp < 40) (hhr : hr < 8) (h7 : V 2 ≤ 7) (hv : r2 sp = nI (V 2)) (f a : Nat) : L_X3_worstLeft_18 r0 r1 r2 r3 (nI m) (nI sp) (nI hr) (f + 1) (nI a) (nI 2) = L_X3_worstLeft_18 r0 r1 r2 r3 (nI m) (nI sp) (nI hr) f (nI (a + if PQ m V hr 2 then 1 else 0)) (nI 3) := by
  rw [L_X3_worstLeft_18, if_neg (by decide)]
  by_cases hb : m.testBit 2 = true
  · rw [if_pos ((bt_get m hm 2 (by omega)).mpr hb), if_neg (by decide), if_neg (by decide), if_pos (by decide), if_pos (inb_nI (by omega) (by omega)), ix_nI (by omega), hv]
    by_cases z : V 2 = hr
    · have e : PQ m V hr 2 = true := by unfold PQ; rw [hb, decide_eq_true z]; rfl
      rw [if_pos (by rw [z]), nI_1, nI_1, if_pos e]
    · have e : PQ m V hr 2 = false := by unfold PQ; rw [decide_eq_false z, Bool.and_false]
      rw [if_neg (fun y => z ((nI_eq (by omega) (by omega)).mp y)), nI_1, e, if_neg (by decide)] <;> rfl
  · have e : PQ m V hr 2 = false := by unfold PQ; rw [show m.testBit 2 = false by simpa using hb]; rfl
    rw [if_neg (fun y => hb ((bt_get m hm 2 (by omega)).mp y)), nI_1, e, if_neg (by decide)] <;> rfl
theorem w_q3 {r0 r1 r2 r3 : Nat → Int32} {m sp hr : Nat} {V : Nat → Nat} (hm : m < 64) (hsp : sp < 40) (hhr : hr < 8) (h7 : V 3 ≤ 7) (hv : r3 sp = nI (V 3)) (f a : Nat) : L_X3_worstLeft_18 r0 r1 r2 r3 (nI m) (nI sp) (nI hr) (f + 1) (nI a) (nI 3) = L_X3_worstLeft_18 r0 r1 r2 r3 (nI m) (nI sp) (nI hr) f (nI (a + if PQ m V hr 3 then 1 else 0)) (nI 4) := by
  rw [L_X3_worstLeft_18, if_neg (by decide)]
  by_cases hb : m.testBit 3 = true
  · rw [if_pos ((bt_get m hm 3 (by omega)).mpr hb), if_neg (by decide), if_neg (by decide), if_neg (by decide), if_pos (by decide), if_pos (inb_nI (by omega) (by omega)), ix_nI (by omega), hv]
    by_cases z : V 3 = hr
    · have e : PQ m V hr 3 = true := by unfold PQ; rw [hb, decide_eq_true z]; rfl
      rw [if_pos (by rw [z]), nI_1, nI_1, if_pos e]
    · have e : PQ m V hr 3 = false := by unfold PQ; rw [decide_eq_false z, Bool.and_false]
      rw [if_neg (fun y => z ((nI_eq (by omega) (by omega)).mp y)), nI_1, e, if_neg (by decide)] <;> rfl
  · have e : PQ m V hr 3 = false := by unfold PQ; rw [show m.testBit 3 = false by simpa using hb]; rfl
    rw [if_neg (fun y => hb ((bt_get m hm 3 (by omega)).mp y)), nI_1, e, if_neg (by decide)] <;> rfl
theorem e_worst {r0 r1 r2 r3 : Nat → Int32} {m sp : Nat} {V : Nat → Nat} (hm : m < 64) (hsp : sp < 40) (h7 : ∀ i, V i ≤ 7) (v0 : r0 sp = nI (V 0)) (v1 : r1 sp = nI (V 1)) (v2 : r2 sp = nI (V 2)) (v3 : r3 sp = nI (V 3)) : f_X3_worstLeft r0 r1 r2 r3 (nI m) (nI sp) = some (nI (Wq (fun x => m.testBit x) V)) := by
  have one : ∀ hr, hr < 8 → L_X3_worstLeft_18 r0 r1 r2 r3 (nI m) (nI sp) (nI hr) 400 0 0 = some (nI (Cq (fun x => m.testBit x) V hr)) := fun hr hh => by
    have e0 := w_q0 (r0 := r0) (r1 := r1) (r2 := r2) (r3 := r3) hm hsp hh (h7 0) v0 399 0
    have e1 := w_q1 (r0 := r0) (r1 := r1) (r2 := r2) (r3 := r3) hm hsp hh (h7 1) v1 398 (0 + if PQ m V hr 0 then 1 else 0)
    have e2 := w_q2 (r0 := r0) (r1 := r1) (r2 := r2) (r3 := r3) hm hsp hh (h7 2) v2 397 (0 + (if PQ m V hr 0 then 1 else 0) + if PQ m V hr 1 then 1 else 0)
    have e3 := w_q3 (r0 := r0) (r1 := r1) (r2 := r2) (r3 := r3) hm hsp hh (h7 3) v3 396 (0 + (if PQ m V hr 0 then 1 else 0) + (if PQ m V hr 1 then 1 else 0) + if PQ m V hr 2 then 1 else 0)
    have e := e0.trans (e1.trans (e2.trans e3))
    have e : L_X3_worstLeft_18 r0 r1 r2 r3 (nI m) (nI sp) (nI hr) 400 0 0 = L_X3_worstLeft_18 r0 r1 r2 r3 (nI m) (nI sp) (nI hr) 396 (nI (Cq (fun x => m.testBit x) V hr)) (nI 4) := e
    rw [e, L_X3_worstLeft_18, if_pos (by decide)]
  have h := lpG (L := fun f s c => L_X3_worstLeft_5 r0 r1 r2 r3 (nI m) (nI sp) f s c) (n := 8) (acc := fun t => nI (mxN (Cq (fun x => m.testBit x) V) t)) (r := nI (Wq (fun x => m.testBit x) V)) (by omega) (fun f => by
    show L_X3_worstLeft_5 r0 r1 r2 r3 (nI m) (nI sp) (f + 1) (nI (Wq (fun x => m.testBit x) V)) (nI 8) = _
    rw [L_X3_worstLeft_5, if_pos (by decide)]) (fun f c hc => by
    show L_X3_worstLeft_5 r0 r1 r2 r3 (nI m) (nI sp) (f + 1) (nI (mxN (Cq (fun x => m.testBit x) V) c)) (nI c) = L_X3_worstLeft_5 r0 r1 r2 r3 (nI m) (nI sp) f (nI (mxN (Cq (fun x => m.testBit x) V) (c + 1))) (nI (c + 1))
    have b1 : Cq (fun x => m.testBit x) V c ≤ 4 := cnt_le _ 4
    have b2 : mxN (Cq (fun x => m.testBit x) V) c ≤ 4 := mx_le (fun i _ => cnt_le _ 4)
    rw [L_X3_worstLeft_5, if_neg (show ¬ (7 : Int32) < nI c from nI_nlt (a := 7) (by omega) (by omega)), one c hc, sb, nI_1, mxN]
    by_cases z : mxN (Cq (fun x => m.testBit x) V) c < Cq (fun x => m.testBit x) V c
    · rw [if_pos (nI_lt z (by omega)), if_pos z]
    · rw [if_neg (nI_nlt (by omega) (by omega)), if_neg z])
  have h : L_X3_worstLeft_5 r0 r1 r2 r3 (nI m) (nI sp) 400 0 0 = some (nI (Wq (fun x => m.testBit x) V)) := h
  unfold f_X3_worstLeft
  rw [h, sb]
def wq (b : Bst) (l d : Nat) : Bst := if b.2 ≤ nI d then b else (some l, nI d)
def gQ (hs : Nat) (W : Nat → Nat) : Nat → Bst → Bst := fun i b => if i % 4 < hs then wq b i (W i) else b
def qI (o : Option Nat) : Int32 := match o with
  | some i => nI (10 * (i / 4) + i % 4)
  | none => -4
theorem gQ_tail {hs n : Nat} {W : Nat → Nat} {b : Bst} : ∀ d, hs + d ≤ 4 → itr (gQ hs W) (4 * n + hs + d) b = itr (gQ hs W) (4 * n + hs) b
  | 0, _ => rfl
  | d + 1, h => by
    have e : itr (gQ hs W) (4 * n + hs + (d + 1)) b = gQ hs W (4 * n + hs + d) (itr (gQ hs W) (4 * n + hs + d) b) := rfl
    rw [e, gQ_tail d (by omega)]
    exact if_neg (by omega)
theorem gQ_lt {hs : Nat} {W : Nat → Nat} {b : Bst} (hb : b.1 = none) : ∀ i, (itr (gQ hs W) 40 b).1 = some i → i < 40 := by
  refine itr_P (P := fun b => ∀ i, b.1 = some i → i < 40) (fun i h => ?_) 40 (fun j b hj h => ?_)
  · rw [hb] at h; cases h
  · intro i hi
    unfold gQ wq at hi
    split at hi
    · split at hi
      · exact h i hi
      · have := Option.some.inj hi; omega
    · exact h i hi
theorem c_bq24 {r0 r1 r2 r3 : Nat → Int32} {m hs n : Nat} {W : Nat → Nat} {b0 : Bst} (h4 : hs ≤ 4) (hn : n < 10) (hw : ∀ h, h < hs → f_X3_worstLeft r0 r1 r2 r3 (nI m) (nI (4 * n + h)) = some (nI (W (4 * n + h)))) : L_X3_bestQuestion_24 r0 r1 r2 r3 (nI hs) (nI m) (nI n) 400 0 (qI (itr (gQ hs W) (4 * n) b0).1) (itr (gQ hs W) (4 * n) b0).2 = some (qI (itr (gQ hs W) (4 * (n + 1)) b0).1, (itr (gQ hs W) (4 * (n + 1)) b0).2) := by
  have key : ∀ (q h f : Nat), h + q = hs → q < f → L_X3_bestQuestion_24 r0 r1 r2 r3 (nI hs) (nI m) (nI n) f (nI h) (qI (itr (gQ hs W) (4 * n + h) b0).1) (itr (gQ hs W) (4 * n + h) b0).2 = some (qI (itr (gQ hs W) (4 * n + hs) b0).1, (itr (gQ hs W) (4 * n + hs) b0).2) := by
    intro q
    induction q with
    | zero =>
      intro h f e hf
      obtain ⟨f, rfl⟩ : ∃ f', f = f' + 1 := ⟨f - 1, by omega⟩
      have e2 : h = hs := by omega
      rw [e2, L_X3_bestQuestion_24, if_pos (nI_le (Nat.le_refl _) (by omega))]
    | succ q ih =>
      intro h f e hf
      obtain ⟨f, rfl⟩ : ∃ f', f = f' + 1 := ⟨f - 1, by omega⟩
      have ih := ih (h + 1) f (by omega) (by omega)
      have e1 : itr (gQ hs W) (4 * n + (h + 1)) b0 = wq (itr (gQ hs W) (4 * n + h) b0) (4 * n + h) (W (4 * n + h)) := if_pos (show (4 * n + h) % 4 < hs by omega)
      rw [e1] at ih
      rw [L_X3_bestQuestion_24, if_neg (nI_ge (by omega) (by omega)), n4c, hw h (by omega), sb, nI_1]
      unfold wq at ih
      by_cases z : (itr (gQ hs W) (4 * n + h) b0).2 ≤ nI (W (4 * n + h))
      · rw [if_pos z] at ih
        rw [if_pos z]
        exact ih
      · rw [if_neg z] at ih
        have e3 : qI (some (4 * n + h)) = 10 * nI n + nI h := by
          rw [lab10]
          show nI (10 * ((4 * n + h) / 4) + (4 * n + h) % 4) = _
          rw [show (4 * n + h) / 4 = n by omega, show (4 * n + h) % 4 = h by omega]
        rw [if_neg z, ← e3]
        exact ih
  have h := key hs 0 400 (by omega) (by omega)
  have e := gQ_tail (hs := hs) (n := n) (W := W) (b := b0) (4 - hs) (by omega)
  rw [show 4 * n + hs + (4 - hs) = 4 * (n + 1) by omega] at e
  rw [e]
  exact h
theorem e_best {r0 r1 r2 r3 : Nat → Int32} {g : Nat → Bool} {hs : Nat} {W : Nat → Nat} {x y : Int32} (h4 : hs ≤ 4) (hw : ∀ n, n < 10 → ∀ h, h < hs → f_X3_worstLeft r0 r1 r2 r3 (nI (msk g 4)) (nI (4 * n + h)) = some (nI (W (4 * n + h)))) : f_X3_bestQuestion x y r0 r1 r2 r3 (nI hs) (nI (msk g 4)) = some (qI (itr (gQ hs W) 40 (none, nI (cnt g 4))).1, (itr (gQ hs W) 40 (none, nI (cnt g 4))).2) := by
  have key : ∀ (q n f : Nat), n + q = 10 → q < f → L_X3_bestQuestion_16 r0 r1 r2 r3 (nI hs) (nI (msk g 4)) f (nI n) (qI (itr (gQ hs W) (4 * n) (none, nI (cnt g 4))).1) (itr (gQ hs W) (4 * n) (none, nI (cnt g 4))).2 = some (qI (itr (gQ hs W) 40 (none, nI (cnt g 4))).1, (itr (gQ hs W) 40 (none, nI (cnt g 4))).2) := by
    intro q
    induction q with
    | zero =>
      intro n f e hf
      obtain ⟨f, rfl⟩ : ∃ f', f = f' + 1 := ⟨f - 1, by omega⟩
      have e2 : n = 10 := by omega
      subst e2
      rw [L_X3_bestQuestion_16, if_pos (by decide)]
    | succ q ih =>
      intro n f e hf
      obtain ⟨f, rfl⟩ : ∃ f', f = f' + 1 := ⟨f - 1, by omega⟩
      rw [L_X3_bestQuestion_16, if_neg (show ¬ (10 : Int32) ≤ nI n from nI_ge (b := 10) (by omega) (by omega)), c_bq24 h4 (by omega) (hw n (by omega)), sb, nI_1]
      exact ih (n + 1) f (by omega) (by omega)
  have h := key 10 0 400 (by omega) (by omega)
  have h : L_X3_bestQuestion_16 r0 r1 r2 r3 (nI hs) (nI (msk g 4)) 400 0 (-4) (nI (cnt g 4)) = _ := h
  unfold f_X3_bestQuestion
  rw [bc_msk (by omega), sb, h, sb]
/-! the reference's questions -/
theorem m40 {a i : Nat} : (40 * nI a + nI i : Int32) = nI (40 * a + i) := by
  rw [show (40 : Int32) = nI 40 from rfl, pk_mul, nI_add]
theorem l_ask47 {M : Nat} {v : Int32 × Int32 × Int32 × Int32 × (Nat → Int32) × (Nat → Int32) × (Nat → Int32) × (Nat → Int32)} {y : Nat → Int32} (hM : M < 4) : ∃ b : Nat → Int32, L_X12_ask_47 (nI M) v 400 0 y = some b ∧ (∀ i, i < 40 → b (40 * M + i) = v.2.2.2.2.2.2.1 i) ∧ ∀ j, j < 40 * M → b j = y j := by
  have st1 : ∀ f c (s : Nat → Int32), c < 40 → ((∀ i, i < c → s (40 * M + i) = v.2.2.2.2.2.2.1 i) ∧ ∀ j, j < 40 * M → s j = y j) → ∃ s' : Nat → Int32, ((∀ i, i < c + 1 → s' (40 * M + i) = v.2.2.2.2.2.2.1 i) ∧ ∀ j, j < 40 * M → s' j = y j) ∧ L_X12_ask_47 (nI M) v (f + 1) (nI c) s = L_X12_ask_47 (nI M) v f (nI (c + 1)) s' := fun f c s hc h => by
    refine ⟨upd s (40 * M + c) (v.2.2.2.2.2.2.1 c), ⟨fun i hi => ?_, fun j hj => (upd_ne (by omega)).trans (h.2 j hj)⟩, ?_⟩
    · rw [upd_at]
      by_cases e : i = c
      · rw [if_pos (by omega), e]
      · rw [if_neg (by omega)]; exact h.1 i (by omega)
    · rw [L_X12_ask_47, if_neg (show ¬ (40 : Int32) ≤ nI c from nI_ge (b := 40) hc (by omega)), if_pos (inb_nI (by omega) (by omega)), m40, if_pos (inb_nI (by omega) (by omega)), ix_nI (by omega), ix_nI (by omega), nI_1]
  exact lpP (L := fun f s c => L_X12_ask_47 (nI M) v f c s) (n := 40) (P := fun c s => (∀ i, i < c → s (40 * M + i) = v.2.2.2.2.2.2.1 i) ∧ ∀ j, j < 40 * M → s j = y j) (Q := fun b => (∀ i, i < 40 → b (40 * M + i) = v.2.2.2.2.2.2.1 i) ∧ ∀ j, j < 40 * M → b j = y j) (by omega) (fun f s h => ⟨s, by show L_X12_ask_47 (nI M) v (f + 1) (nI 40) s = _; rw [L_X12_ask_47, if_pos (by decide)], h⟩) st1 (s0 := y) ⟨fun i hi => absurd hi (Nat.not_lt_zero i), fun _ _ => rfl⟩
/-- the rows of those that are left, one behind another -/
def byK (B : Nat → Int32) (k : Ka) (c : Nat) (g : Nat → Bool) (t : Nat) : Prop := ∀ i, i < t → g i = true → ∀ n, n < 10 → ∀ h, h < k.hs → B (40 * cnt g i + (4 * n + h)) = nI (fR (setKd k c i) n h)
theorem m_ask22 {k : Ka} {q : Sa} {st : Nat → Int32} {c : Nat} (hk : kok k) (hev : k.ev ≤ 999) (hq : sok k.hs q) (hM : relM st 0 k) (hS : relSM st 0 q) (hc : c < k.cm) : ∀ (p t f : Nat) (y5 y6 y7 : Int32) (y8 y9 y10 y11 y12 : Nat → Int32), t + p = 4 → p < f → byK y10 k c (gK k q c) t → ∃ r, L_X12_ask_22 (nI k.hs) (nI k.cm) st (nI c) f (nI (cnt (gK k q c) t)) (nI t) y5 y6 y7 y8 y9 y10 y11 y12 = some r ∧ r.1 = nI (cnt (gK k q c) 4) ∧ byK r.2.2.2.2.2.2.1 k c (gK k q c) 4 := by
  have k4 := hk.1
  intro p
  induction p with
  | zero =>
    intro t f y5 y6 y7 y8 y9 y10 y11 y12 e hf hB
    obtain ⟨f, rfl⟩ : ∃ f', f = f' + 1 := ⟨f - 1, by omega⟩
    have e2 : t = 4 := by omega
    subst e2
    rw [L_X12_ask_22, if_pos (by decide)]
    exact ⟨_, rfl, rfl, hB⟩
  | succ p ih =>
    intro t f y5 y6 y7 y8 y9 y10 y11 y12 e hf hB
    obtain ⟨f, rfl⟩ : ∃ f', f = f' + 1 := ⟨f - 1, by omega⟩
    obtain ⟨r, h1, h2, h3⟩ := so_kd hk hev hq hM hS hc (show t < 4 by omega) y5 y6 y7 y8 y9 y11 y12
    have ih := fun y5 y6 y7 y8 y9 y10 y11 y12 => ih (t + 1) f y5 y6 y7 y8 y9 y10 y11 y12 (by omega) (by omega)
    have hle := cnt_le (gK k q c) t
    rw [L_X12_ask_22, if_neg (show ¬ (4 : Int32) ≤ nI t from nI_ge (b := 4) (by omega) (by omega)), h1, sb, h2]
    cases hg : gK k q c t with
    | false =>
      rw [if_pos (show (if false = true then (1 : Int32) else 0) = 0 from rfl), nI_1]
      rw [show cnt (gK k q c) (t + 1) = cnt (gK k q c) t by rw [cnt, hg, if_neg (by decide), Nat.add_zero]] at ih
      refine ih _ _ _ _ _ _ _ _ (fun i hi hgi n hn h hh => ?_)
      by_cases e3 : i = t
      · rw [e3, hg] at hgi; cases hgi
      · exact hB i (by omega) hgi n hn h hh
    | true =>
      obtain ⟨b, g1, g2, g3⟩ := l_ask47 (M := cnt (gK k q c) t) (v := r) (y := y10) (by omega)
      rw [if_pos rfl, if_neg n10, g1, sb, nI_1, nI_1]
      rw [show cnt (gK k q c) (t + 1) = cnt (gK k q c) t + 1 by rw [cnt, hg, if_pos rfl]] at ih
      refine ih _ _ _ _ _ _ _ _ (fun i hi hgi n hn h hh => ?_)
      by_cases e3 : i = t
      · subst e3
        rw [g2 _ (by omega)]
        exact h3 n hn h hh
      · have hl := cnt_lt hgi (n := t) (by omega)
        rw [g3 _ (by omega)]
        exact hB i (by omega) hgi n hn h hh
theorem l_ask111 {M i : Nat} {v : Int32 × Int32 × Int32 × Int32 × (Nat → Int32) × (Nat → Int32) × (Nat → Int32) × (Nat → Int32) × (Nat → Int32)} (hM : M ≤ 4) (hi : i < 40) (hv : v.1 = nI M) : L_X12_ask_111 v (nI i) 400 0 0 = some (nI (mxN (fun a => cnt (fun b => decide (v.2.2.2.2.2.2.1 (40 * a + i) = v.2.2.2.2.2.2.1 (40 * b + i))) M) M)) := by
  have one : ∀ a, a < M → L_X12_ask_123 v (nI i) (nI a) 400 0 0 = some (nI (cnt (fun b => decide (v.2.2.2.2.2.2.1 (40 * a + i) = v.2.2.2.2.2.2.1 (40 * b + i))) M)) := fun a ha =>
    lpG (L := fun f s c => L_X12_ask_123 v (nI i) (nI a) f s c) (n := M) (acc := fun t => nI (cnt (fun b => decide (v.2.2.2.2.2.2.1 (40 * a + i) = v.2.2.2.2.2.2.1 (40 * b + i))) t)) (by omega) (fun f => by
      show L_X12_ask_123 v (nI i) (nI a) (f + 1) (nI (cnt (fun b => decide (v.2.2.2.2.2.2.1 (40 * a + i) = v.2.2.2.2.2.2.1 (40 * b + i))) M)) (nI M) = _
      rw [L_X12_ask_123, hv, if_pos (nI_le (Nat.le_refl _) (by omega))]) (fun f c hc => by
      show L_X12_ask_123 v (nI i) (nI a) (f + 1) (nI (cnt (fun b => decide (v.2.2.2.2.2.2.1 (40 * a + i) = v.2.2.2.2.2.2.1 (40 * b + i))) c)) (nI c) = L_X12_ask_123 v (nI i) (nI a) f (nI (cnt (fun b => decide (v.2.2.2.2.2.2.1 (40 * a + i) = v.2.2.2.2.2.2.1 (40 * b + i))) (c + 1))) (nI (c + 1))
      rw [L_X12_ask_123, hv, if_neg (nI_ge hc (by omega)), m40, if_pos (inb_nI (by omega) (by omega)), m40, if_pos (inb_nI (by omega) (by omega)), ix_nI (by omega), ix_nI (by omega), nI_1, cnt]
      have f1 : f_X12_flag 1 = some 1 := rfl
      have f0 : f_X12_flag 0 = some 0 := rfl
      by_cases z : v.2.2.2.2.2.2.1 (40 * a + i) = v.2.2.2.2.2.2.1 (40 * c + i)
      · rw [if_pos z, sb, f1, sb, nI_1, if_pos (decide_eq_true z)]
      · rw [if_neg z, sb, f0, sb, Int32.add_zero, if_neg (by rw [decide_eq_false z]; decide)] <;> rfl)
  exact lpG (L := fun f s c => L_X12_ask_111 v (nI i) f s c) (n := M) (acc := fun t => nI (mxN (fun a => cnt (fun b => decide (v.2.2.2.2.2.2.1 (40 * a + i) = v.2.2.2.2.2.2.1 (40 * b + i))) M) t)) (by omega) (fun f => by
      show L_X12_ask_111 v (nI i) (f + 1) (nI (mxN (fun a => cnt (fun b => decide (v.2.2.2.2.2.2.1 (40 * a + i) = v.2.2.2.2.2.2.1 (40 * b + i))) M) M)) (nI M) = _
      rw [L_X12_ask_111, hv, if_pos (nI_le (Nat.le_refl _) (by omega))]) (fun f c hc => by
      show L_X12_ask_111 v (nI i) (f + 1) (nI (mxN (fun a => cnt (fun b => decide (v.2.2.2.2.2.2.1 (40 * a + i) = v.2.2.2.2.2.2.1 (40 * b + i))) M) c)) (nI c) = L_X12_ask_111 v (nI i) f (nI (mxN (fun a => cnt (fun b => decide (v.2.2.2.2.2.2.1 (40 * a + i) = v.2.2.2.2.2.2.1 (40 * b + i))) M) (c + 1))) (nI (c + 1))
      have b1 := cnt_le (fun b => decide (v.2.2.2.2.2.2.1 (40 * c + i) = v.2.2.2.2.2.2.1 (40 * b + i))) M
      have b2 : mxN (fun a => cnt (fun b => decide (v.2.2.2.2.2.2.1 (40 * a + i) = v.2.2.2.2.2.2.1 (40 * b + i))) M) c ≤ M := mx_le (fun i _ => cnt_le _ M)
      rw [L_X12_ask_111, hv, if_neg (nI_ge hc (by omega)), one c hc, sb, nI_1, mxN]
      by_cases z : mxN (fun a => cnt (fun b => decide (v.2.2.2.2.2.2.1 (40 * a + i) = v.2.2.2.2.2.2.1 (40 * b + i))) M) c < cnt (fun b => decide (v.2.2.2.2.2.2.1 (40 * c + i) = v.2.2.2.2.2.2.1 (40 * b + i))) M
      · rw [if_neg (nI_ge z (by omega)), if_pos z]
      · rw [if_pos (nI_le (by omega) (by omega)), if_neg z])
theorem l_ask98 {M hs : Nat} {v : Int32 × Int32 × Int32 × Int32 × (Nat → Int32) × (Nat → Int32) × (Nat → Int32) × (Nat → Int32) × (Nat → Int32)} {W : Nat → Nat} {b0 : Bst} (hM : M ≤ 4) (h4 : hs ≤ 4) (hv : v.1 = nI M) (hW : ∀ i, i < 40 → i % 4 < hs → mxN (fun a => cnt (fun b => decide (v.2.2.2.2.2.2.1 (40 * a + i) = v.2.2.2.2.2.2.1 (40 * b + i))) M) M = W i) : ∀ (q i f : Nat), i + q = 40 → q < f → L_X12_ask_98 (nI hs) v f (itr (gQ hs W) i b0).2 (opI (itr (gQ hs W) i b0).1) (nI i) = some ((itr (gQ hs W) 40 b0).2, opI (itr (gQ hs W) 40 b0).1) := by
  intro q
  induction q with
  | zero =>
    intro i f e hf
    obtain ⟨f, rfl⟩ : ∃ f', f = f' + 1 := ⟨f - 1, by omega⟩
    have e2 : i = 40 := by omega
    subst e2
    rw [L_X12_ask_98, if_pos (by decide)]
  | succ q ih =>
    intro i f e hf
    obtain ⟨f, rfl⟩ : ∃ f', f = f' + 1 := ⟨f - 1, by omega⟩
    have ih := ih (i + 1) f (by omega) (by omega)
    have e4 : (nI i - nI i / 4 * 4 : Int32) = nI (i % 4) := pk_rem (d := 4) (by omega) (by omega) (by omega)
    rw [L_X12_ask_98, if_neg (show ¬ (40 : Int32) ≤ nI i from nI_ge (b := 40) (by omega) (by omega)), l_ask111 hM (by omega) hv, sb, if_pos (by decide), e4, nI_1]
    by_cases z : i % 4 < hs
    · have e1 : itr (gQ hs W) (i + 1) b0 = wq (itr (gQ hs W) i b0) i (W i) := if_pos z
      rw [e1] at ih
      unfold wq at ih
      rw [if_neg (nI_ge z (by omega)), hW i (by omega) z]
      by_cases y : (itr (gQ hs W) i b0).2 ≤ nI (W i)
      · rw [if_pos y] at ih
        rw [if_pos y]
        exact ih
      · rw [if_neg y] at ih
        rw [if_neg y]
        exact ih
    · have e1 : itr (gQ hs W) (i + 1) b0 = itr (gQ hs W) i b0 := if_neg z
      rw [e1] at ih
      rw [if_pos (nI_le (by omega) (by omega))]
      exact ih
theorem p_ask (s : SX) (t : TM) (x1 : Int32) (x2 : Int32) (hI : Inv s t) : ∃ (v : Int32 × Int32 × Int32 × (Nat → Int32) × (Nat → Int32) × (Nat → Int32) × (Nat → Int32) × Int32 × Int32 × Int32 × Int32 × Int32 × Int32 × (Nat → Int32) × (Nat → Int32) × (Nat → Int32) × (Nat → Int32) × (Nat → Int32) × Int32 × Int32 × (Nat → Int32) × (Nat → Int32)) (w : Int32 × Int32 × Int32 × Int32 × (Nat → Int32) × (Nat → Int32) × (Nat → Int32) × (Nat → Int32) × (Nat → Int32)), f_X11_ask s.gss.1 s.gss.2.1 s.gss.2.2.1 s.gss.2.2.2.1 s.gss.2.2.2.2.1 s.gss.2.2.2.2.2 s.now.1 s.now.2.1 s.now.2.2.1 s.now.2.2.2.2.2.2.1 s.now.2.2.2.2.2.1 s.now.2.2.2.2.1 s.now.2.2.2.2.2.2.2 s.now.2.2.2.1 s.seen.1 s.seen.2.1 s.seen.2.2.2 s.seen.2.2.1 s.tri.1 s.tri.2.1 s.tri.2.2 s.tcy.1 s.tcy.2.1 s.tcy.2.2.1 s.tcy.2.2.2.2.2.2.1 s.tcy.2.2.2.2.2.1 s.tcy.2.2.2.2.1 s.tcy.2.2.2.2.2.2.2 s.tcy.2.2.2.1 s.evg.1 s.evg.2.1 s.evg.2.2.1 s.evg.2.2.2 x1 x2 = some v ∧ f_X12_ask t.houses t.comers t.home t.dinners t.waited t.began t.begunBy t.byKind t.hours t.now t.st x1 x2 = some w ∧ v.1 = w.1 ∧ Inv (s.torn, s.tape, s.rdr, s.drf, s.now, s.seen, (v.2.2.2.2.2.2.2.1, v.2.2.2.2.2.2.2.2.1, v.2.2.2.2.2.2.2.2.2.1), (v.2.2.2.2.2.2.2.2.2.2.1, v.2.2.2.2.2.2.2.2.2.2.2.1, v.2.2.2.2.2.2.2.2.2.2.2.2.1, v.2.2.2.2.2.2.2.2.2.2.2.2.2.2.2.2.2.1, v.2.2.2.2.2.2.2.2.2.2.2.2.2.2.2.1, v.2.2.2.2.2.2.2.2.2.2.2.2.2.2.1, v.2.2.2.2.2.2.2.2.2.2.2.2.2.1, v.2.2.2.2.2.2.2.2.2.2.2.2.2.2.2.2.1), (v.2.2.2.2.2.2.2.2.2.2.2.2.2.2.2.2.2.2.1, v.2.2.2.2.2.2.2.2.2.2.2.2.2.2.2.2.2.2.2.1, v.2.2.2.2.2.2.2.2.2.2.2.2.2.2.2.2.2.2.2.2.1, v.2.2.2.2.2.2.2.2.2.2.2.2.2.2.2.2.2.2.2.2.2), s.adv, (v.2.1, v.2.2.1, v.2.2.2.1, v.2.2.2.2.1, v.2.2.2.2.2.1, v.2.2.2.2.2.2.1), s.im0, s.im1, s.sh0, s.sh1, s.sh2, s.sh3) ((t.st, w.2.2.2.2.2.2.2.2, t.isKept, t.houses, t.comers, t.draft, t.dHouses, t.dComers, t.highestHouse), t.m1, (w.2.1, w.2.2.2.2.1, w.2.2.2.2.2.1, w.2.2.1, w.2.2.2.1, t.beginSum, t.dinnerSum, t.allWays, w.2.2.2.2.2.2.2.1), (w.2.2.2.2.2.2.1, t.lanes, t.sizes, t.cells, t.torn, t.before)) := by
  obtain ⟨k, q, htw, eh, ec, hi⟩ := id hI.1
  obtain ⟨hk, hev, hC, hM, hq, hS, hSM⟩ := id htw
  have k4 := hk.1
  have k6 := hk.2.1
  have c1 : s.now.1 = nI k.hs := hC.1
  have c2 : s.now.2.1 = nI k.cm := hC.2.1
  have c3 : s.now.2.2.1 = nI k.ev := hC.2.2.1
  have c4 : s.seen.1 = nI q.1 := hS.1
  rcases ixc x1 (n := k.cm) (by omega) with hb | ⟨c, hc, rfl⟩
  · have a1 : f_X11_noComer s.now.2.1 x1 = some 1 := by rw [c2]; exact nc_bad (by omega) hb
    have a2 : f_X12_isComer t.comers x1 = some 0 := by rw [ec]; exact ic_bad (by omega) hb
    refine ex2 (-1) ?_ ?_ (fun _ _ => hI)
    · unfold f_X11_ask; rw [a1, sb, if_neg n10]; exact ⟨_, rfl, rfl⟩
    · unfold f_X12_ask; rw [a2, sb, if_pos rfl]; exact ⟨_, rfl, rfl⟩
  · have a1 : f_X11_noComer (nI k.cm) (nI c) = some 0 := nc_ok (by omega) hc
    have a2 : f_X12_isComer (nI k.cm) (nI c) = some 1 := ic_ok (by omega) hc
    rcases cases_in x2 (n := 1) (by decide) with hb | ⟨p, hp, rfl⟩
    · have d1 : f_X11_outside x2 1 = some 1 := ou_bad hb.1
      refine ex2 (-1) ?_ ?_ (fun _ _ => hI)
      · unfold f_X11_ask; rw [c2, a1, sb, if_pos rfl, d1, sb, if_neg n10]; exact ⟨_, rfl, rfl⟩
      · unfold f_X12_ask; rw [ec, a2, sb, if_neg n10, part_bad hb.2, sb, if_pos rfl]; exact ⟨_, rfl, rfl⟩
    · have d1 : f_X11_outside (nI p) 1 = some 0 := ou_ok (n := 1) rfl hp (by decide)
      have hC2 : relC (nI k.hs, nI k.cm, nI k.ev, s.now.2.2.2.1, s.now.2.2.2.2.1, s.now.2.2.2.2.2.1, s.now.2.2.2.2.2.2.1, s.now.2.2.2.2.2.2.2) k := ⟨rfl, rfl, rfl, hC.2.2.2⟩
      obtain ⟨r, r1, r2, t0, t1, t2, t3⟩ := e_kindsLeft (sp := 10) hk hev hC2 hq hS.2 (by omega) (fun i hi => by have := (hq.2 i hi).1; omega) hc s.gss.2.2.1 s.gss.2.2.2.1 s.gss.2.2.2.2.1 s.gss.2.2.2.2.2 s.tri.1 s.tri.2.1 s.tri.2.2 s.tcy.1 s.tcy.2.1 s.tcy.2.2.1 s.tcy.2.2.2.2.2.2.1 s.tcy.2.2.2.2.2.1 s.tcy.2.2.2.2.1 s.tcy.2.2.2.2.2.2.2 s.tcy.2.2.2.1 s.evg.1 s.evg.2.1 s.evg.2.2.1 s.evg.2.2.2
      have r1 : f_X3_kindsLeft s.gss.2.2.1 s.gss.2.2.2.1 s.gss.2.2.2.2.1 s.gss.2.2.2.2.2 (nI k.hs) (nI k.cm) (nI k.ev) s.now.2.2.2.2.2.2.1 s.now.2.2.2.2.2.1 s.now.2.2.2.2.1 s.now.2.2.2.2.2.2.2 s.now.2.2.2.1 (nI q.1) s.seen.2.1 s.seen.2.2.2 s.seen.2.2.1 s.tri.1 s.tri.2.1 s.tri.2.2 s.tcy.1 s.tcy.2.1 s.tcy.2.2.1 s.tcy.2.2.2.2.2.2.1 s.tcy.2.2.2.2.2.1 s.tcy.2.2.2.2.1 s.tcy.2.2.2.2.2.2.2 s.tcy.2.2.2.1 s.evg.1 s.evg.2.1 s.evg.2.2.1 s.evg.2.2.2 (nI c) 10 = some r := r1
      obtain ⟨u, u1, u2, u3⟩ := m_ask22 hk hev hq hM hSM hc 4 0 400 t.home t.dinners t.waited t.began t.begunBy t.byKind t.hours t.now (by omega) (by omega) (fun i hi => absurd hi (Nat.not_lt_zero i))
      have u1 : L_X12_ask_22 (nI k.hs) (nI k.cm) t.st (nI c) 400 0 0 t.home t.dinners t.waited t.began t.begunBy t.byKind t.hours t.now = some u := u1
      have h7 : ∀ n h i, fR (setKd k c i) n h ≤ 7 := fun n h i => hrK_le _ _
      have wc : ∀ n, n < 10 → ∀ h, h < k.hs → f_X3_worstLeft r.2.1 r.2.2.1 r.2.2.2.1 r.2.2.2.2.1 (nI (msk (gK k q c) 4)) (nI (4 * n + h)) = some (nI ((fun i => Wq (gK k q c) (fun x => fR (setKd k c x) (i / 4) (i % 4))) (4 * n + h))) := fun n hn h hh => by
        rw [e_worst (V := fun x => fR (setKd k c x) n h) (msk_lt6 _ (by omega)) (by omega) (h7 n h) (t0 n hn h hh) (t1 n hn h hh) (t2 n hn h hh) (t3 n hn h hh)]
        dsimp only
        rw [show (4 * n + h) / 4 = n by omega, show (4 * n + h) % 4 = h by omega]
        have e : Wq (fun x => (msk (gK k q c) 4).testBit x) (fun x => fR (setKd k c x) n h) = Wq (gK k q c) (fun x => fR (setKd k c x) n h) := by
          have e2 : Cq (fun x => (msk (gK k q c) 4).testBit x) (fun x => fR (setKd k c x) n h) = Cq (gK k q c) (fun x => fR (setKd k c x) n h) := by
            funext hr
            unfold Cq
            apply cnt_congr
            intro x hx
            show ((msk (gK k q c) 4).testBit x && _) = _
            rw [msk_bit, decide_eq_true hx, Bool.true_and]
          unfold Wq
          rw [e2]
        rw [e]
      have b1 := e_best (x := s.gss.1) (y := s.gss.2.1) (g := gK k q c) (W := fun i => Wq (gK k q c) (fun x => fR (setKd k c x) (i / 4) (i % 4))) k4 wc
      have b2 := l_ask98 (b0 := (none, nI (cnt (gK k q c) 4))) (v := u) (W := fun i => Wq (gK k q c) (fun x => fR (setKd k c x) (i / 4) (i % 4))) (cnt_le (gK k q c) 4) k4 u2 (fun i hi hz => worst_eq (g := gK k q c) (V := fun x => fR (setKd k c x) (i / 4) (i % 4)) (U := fun b => u.2.2.2.2.2.2.1 (40 * b + i)) (h7 (i / 4) (i % 4)) (fun x hx hg => by
        have := u3 x hx hg (i / 4) (by omega) (i % 4) hz
        rw [show 4 * (i / 4) + i % 4 = i by omega] at this
        exact this)) 40 0 400 (by omega) (by omega)
      have b2 : L_X12_ask_98 (nI k.hs) u 400 (nI (cnt (gK k q c) 4)) (-4) 0 = _ := b2
      have lt := gQ_lt (hs := k.hs) (W := fun i => Wq (gK k q c) (fun x => fR (setKd k c x) (i / 4) (i % 4))) (b := (none, nI (cnt (gK k q c) 4))) rfl
      generalize itr (gQ k.hs (fun i => Wq (gK k q c) (fun x => fR (setKd k c x) (i / 4) (i % 4)))) 40 (none, nI (cnt (gK k q c) 4)) = B at b1 b2 lt
      obtain ⟨o, d⟩ := B
      dsimp only at b1 b2 lt
      cases o with
      | none =>
        refine ex2 (-4) ?_ ?_ (fun _ _ => hI)
        · unfold f_X11_ask
          rw [c1, c2, c3, c4, a1, sb, if_pos rfl, d1, sb, if_pos rfl, r1, sb, r2, b1, sb]
          obtain rfl | rfl : p = 0 ∨ p = 1 := by omega
          · rw [if_pos (by decide)]; exact ⟨_, rfl, rfl⟩
          · rw [if_neg (by decide), if_pos (show qI none = -4 from rfl)]; exact ⟨_, rfl, rfl⟩
        · unfold f_X12_ask
          rw [eh, ec, a2, sb, if_neg n10, part_ok hp, sb, if_neg n10, u1, sb, u2, b2, sb, if_pos (show opI none = -4 from rfl)]
          exact ⟨_, rfl, rfl⟩
      | some i =>
        have hi40 := lt i rfl
        have e1 : ¬ qI (some i) = -4 := nI_n4 (c := 10 * (i / 4) + i % 4) (by omega)
        have e2 : ¬ opI (some i) = -4 := nI_n4 (c := i) (by omega)
        have e3 : (opI (some i) - opI (some i) / 4 * 4 : Int32) = nI (i % 4) := pk_rem (a := i) (d := 4) (by omega) (by omega) (by omega)
        have e4 : (opI (some i) / 4 : Int32) = nI (i / 4) := pk_div (a := i) (d := 4) (by omega) (by omega) (by omega)
        refine ex2 (if p = 0 then nI (10 * (i / 4) + i % 4) else d) ?_ ?_ (fun _ _ => hI)
        · unfold f_X11_ask
          rw [c1, c2, c3, c4, a1, sb, if_pos rfl, d1, sb, if_pos rfl, r1, sb, r2, b1, sb]
          obtain rfl | rfl : p = 0 ∨ p = 1 := by omega
          · rw [if_pos (by decide)]; exact ⟨_, rfl, rfl⟩
          · rw [if_neg (by decide), if_neg e1]; exact ⟨_, rfl, rfl⟩
        · unfold f_X12_ask
          rw [eh, ec, a2, sb, if_neg n10, part_ok hp, sb, if_neg n10, u1, sb, u2, b2, sb, if_neg e2]
          obtain rfl | rfl : p = 0 ∨ p = 1 := by omega
          · rw [if_pos (by decide), if_pos (by decide), if_pos (by decide)]
            dsimp only
            rw [e3, e4, lab10]
            exact ⟨_, rfl, rfl⟩
          · rw [if_neg (by decide)]; exact ⟨_, rfl, rfl⟩
