/-! the tape, byte by byte, on both sides -/
def TP (n : Nat) (bt tp : Nat → Int32) (T : Nat → Nat) : Prop := n ≤ 160 ∧ ∀ i, i < n → bt i = nI (T i) ∧ tp i = nI (T i) ∧ T i < 128
def isL (x : Nat) : Prop := 97 ≤ x ∧ x ≤ 122
def isF (x : Nat) : Prop := 48 ≤ x ∧ x ≤ 57
theorem scan (P : Nat → Prop) (n : Nat) : ∀ d pos, pos + d = n → ∃ e, pos ≤ e ∧ e ≤ n ∧ (∀ i, pos ≤ i → i < e → P i) ∧ (e < n → ¬ P e)
  | 0, pos, h => ⟨pos, Nat.le_refl _, by omega, fun i h1 h2 => absurd h2 (by omega), fun h2 => absurd h2 (by omega)⟩
  | d + 1, pos, h => by
    by_cases q : P pos
    · obtain ⟨e, h1, h2, h3, h4⟩ := scan P n d (pos + 1) (by omega)
      refine ⟨e, by omega, h2, fun i i1 i2 => ?_, h4⟩
      by_cases z : i = pos
      · rw [z]; exact q
      · exact h3 i (by omega) i2
    · exact ⟨pos, Nat.le_refl _, by omega, fun i h1 h2 => absurd h2 (by omega), fun _ => q⟩
theorem upL {α : Type} {L : Nat → Int32 → Option α} {r : α} {a e : Nat} (h0 : ∀ f, L (f + 1) (nI e) = some r) (h1 : ∀ f i, a ≤ i → i < e → L (f + 1) (nI i) = L f (nI (i + 1))) : ∀ (d i f : Nat), a ≤ i → i + d = e → d < f → L f (nI i) = some r := by
  intro d
  induction d with
  | zero =>
    intro i f ha e1 hf
    obtain ⟨f, rfl⟩ : ∃ f', f = f' + 1 := ⟨f - 1, by omega⟩
    have e2 : i = e := by omega
    rw [e2]; exact h0 f
  | succ d ih =>
    intro i f ha e1 hf
    obtain ⟨f, rfl⟩ : ∃ f', f = f' + 1 := ⟨f - 1, by omega⟩
    rw [h1 f i ha (by omega)]
    exact ih (i + 1) f (by omega) (by omega) (by omega)
section
variable {n : Nat} {bt tp : Nat → Int32} {T : Nat → Nat}
theorem t_L1 (h : TP n bt tp T) {i : Nat} (hi : i < n) (q : isL (T i)) : f_X8_isLetter (nI n) bt (nI i) = some 1 := by
  have h1 := h.1
  obtain ⟨b1, -, b3⟩ := h.2 i hi
  unfold f_X8_isLetter
  rw [if_neg (nI_ge hi (by omega)), if_pos (inb_nI (by omega) (by omega)), ix_nI (by omega), b1, if_neg (show ¬ nI (T i) < 97 from nI_nlt (b := 97) q.1 (by omega)), if_pos (inb_nI (by omega) (by omega)), if_neg (show ¬ (122 : Int32) < nI (T i) from nI_nlt (a := 122) q.2 (by omega))]
theorem t_L0 (h : TP n bt tp T) {i : Nat} (hi : i < n) (q : ¬ isL (T i)) : f_X8_isLetter (nI n) bt (nI i) = some 0 := by
  have h1 := h.1
  obtain ⟨b1, -, b3⟩ := h.2 i hi
  unfold f_X8_isLetter
  rw [if_neg (nI_ge hi (by omega)), if_pos (inb_nI (by omega) (by omega)), ix_nI (by omega), b1]
  by_cases z : T i < 97
  · rw [if_pos (show nI (T i) < 97 from nI_lt (b := 97) z (by omega))]
  · rw [if_neg (show ¬ nI (T i) < 97 from nI_nlt (b := 97) (by omega) (by omega)), if_pos (inb_nI (by omega) (by omega)), if_pos (show (122 : Int32) < nI (T i) from nI_lt (a := 122) (by unfold isL at q; omega) (by omega))]
theorem t_F1 (h : TP n bt tp T) {i : Nat} (hi : i < n) (q : isF (T i)) : f_X8_isFigure (nI n) bt (nI i) = some 1 := by
  have h1 := h.1
  obtain ⟨b1, -, b3⟩ := h.2 i hi
  unfold f_X8_isFigure
  rw [if_neg (nI_ge hi (by omega)), if_pos (inb_nI (by omega) (by omega)), ix_nI (by omega), b1, if_neg (show ¬ nI (T i) < 48 from nI_nlt (b := 48) q.1 (by omega)), if_pos (inb_nI (by omega) (by omega)), if_neg (show ¬ (57 : Int32) < nI (T i) from nI_nlt (a := 57) q.2 (by omega))]
theorem t_F0 (h : TP n bt tp T) {i : Nat} (hi : i < n) (q : ¬ isF (T i)) : f_X8_isFigure (nI n) bt (nI i) = some 0 := by
  have h1 := h.1
  obtain ⟨b1, -, b3⟩ := h.2 i hi
  unfold f_X8_isFigure
  rw [if_neg (nI_ge hi (by omega)), if_pos (inb_nI (by omega) (by omega)), ix_nI (by omega), b1]
  by_cases z : T i < 48
  · rw [if_pos (show nI (T i) < 48 from nI_lt (b := 48) z (by omega))]
  · rw [if_neg (show ¬ nI (T i) < 48 from nI_nlt (b := 48) (by omega) (by omega)), if_pos (inb_nI (by omega) (by omega)), if_pos (show (57 : Int32) < nI (T i) from nI_lt (a := 57) (by unfold isF at q; omega) (by omega))]
theorem t_B (h : TP n bt tp T) {i : Nat} (hi : i < n) : f_X12_byteAt (nI n) tp (nI i) = some (nI (T i)) := by
  have h1 := h.1
  obtain ⟨-, b2, b3⟩ := h.2 i hi
  unfold f_X12_byteAt
  rw [if_neg (nI_ge hi (by omega)), if_pos (inb_nI (by omega) (by omega)), ix_nI (by omega), b2]
theorem t_BN (h : TP n bt tp T) : f_X12_byteAt (nI n) tp (nI n) = some (-1) := by
  have h1 := h.1
  unfold f_X12_byteAt
  rw [if_pos (nI_le (Nat.le_refl _) (by omega))]
theorem in_L1 {x : Nat} (q : isL x) : f_X12_in (nI x).toInt64 97 122 = some 1 := by
  have e : f_X12_in (nI x).toInt64 97 122 = some (if 97 ≤ nI x ∧ nI x ≤ 122 then 1 else 0) := e_in (nI x) 97 122
  have q1 := q.2
  rw [e, if_pos ⟨nI_le (a := 97) q.1 (by omega), nI_le (b := 122) q.2 (by omega)⟩]
theorem in_L0 {x : Nat} (hx : x < 128) (q : ¬ isL x) : f_X12_in (nI x).toInt64 97 122 = some 0 := by
  have e : f_X12_in (nI x).toInt64 97 122 = some (if 97 ≤ nI x ∧ nI x ≤ 122 then 1 else 0) := e_in (nI x) 97 122
  rw [e, if_neg]
  rintro ⟨a, b⟩
  exact q ⟨(nI_leI (a := 97) (by omega) (by omega)).mp a, (nI_leI (b := 122) (by omega) (by omega)).mp b⟩
theorem in_F1 {x : Nat} (q : isF x) : f_X12_in (nI x).toInt64 48 57 = some 1 := by
  have e : f_X12_in (nI x).toInt64 48 57 = some (if 48 ≤ nI x ∧ nI x ≤ 57 then 1 else 0) := e_in (nI x) 48 57
  have q1 := q.2
  rw [e, if_pos ⟨nI_le (a := 48) q.1 (by omega), nI_le (b := 57) q.2 (by omega)⟩]
theorem in_F0 {x : Nat} (hx : x < 128) (q : ¬ isF x) : f_X12_in (nI x).toInt64 48 57 = some 0 := by
  have e : f_X12_in (nI x).toInt64 48 57 = some (if 48 ≤ nI x ∧ nI x ≤ 57 then 1 else 0) := e_in (nI x) 48 57
  rw [e, if_neg]
  rintro ⟨a, b⟩
  exact q ⟨(nI_leI (a := 48) (by omega) (by omega)).mp a, (nI_leI (b := 57) (by omega) (by omega)).mp b⟩
theorem in_Lm : f_X12_in ((-1 : Int32)).toInt64 97 122 = some 0 := by
  have e : f_X12_in ((-1 : Int32)).toInt64 97 122 = some (if 97 ≤ (-1 : Int32) ∧ (-1 : Int32) ≤ 122 then 1 else 0) := e_in (-1) 97 122
  rw [e, if_neg (by decide)]
theorem in_Fm : f_X12_in ((-1 : Int32)).toInt64 48 57 = some 0 := by
  have e : f_X12_in ((-1 : Int32)).toInt64 48 57 = some (if 48 ≤ (-1 : Int32) ∧ (-1 : Int32) ≤ 57 then 1 else 0) := e_in (-1) 48 57
  rw [e, if_neg (by decide)]
/-- blanks -/
theorem t_bl (h : TP n bt tp T) {pos p : Nat} (h1 : pos ≤ p) (h2 : p ≤ n) (h3 : ∀ i, pos ≤ i → i < p → T i = 32) (h4 : p < n → ¬ T p = 32) : L_X9_readToken_8 (nI n) bt 400 (nI pos) = some (nI p) ∧ L_X12_takes_8 (nI n) tp 400 (nI pos) = some (nI p) := by
  have hn := h.1
  constructor
  · refine upL (a := pos) (e := p) (r := nI p) (L := L_X9_readToken_8 (nI n) bt) (fun f => ?_) (fun f i i1 i2 => ?_) (p - pos) pos 400 (Nat.le_refl _) (by omega) (by omega)
    · rw [L_X9_readToken_8]
      by_cases z : p < n
      · obtain ⟨b1, -, b3⟩ := h.2 p z
        rw [if_neg (nI_ge z (by omega)), if_pos (inb_nI (by omega) (by omega)), ix_nI (by omega), b1, if_neg (show ¬ nI (T p) = 32 from fun y => h4 z ((nI_eq (b := 32) (by omega) (by omega)).mp y))]
      · rw [if_pos (nI_le (by omega) (by omega))]
    · obtain ⟨b1, -, b3⟩ := h.2 i (by omega)
      rw [L_X9_readToken_8, if_neg (nI_ge (by omega) (by omega)), if_pos (inb_nI (by omega) (by omega)), ix_nI (by omega), b1, h3 i i1 i2, if_pos (by decide), nI_1]
  · refine upL (a := pos) (e := p) (r := nI p) (L := L_X12_takes_8 (nI n) tp) (fun f => ?_) (fun f i i1 i2 => ?_) (p - pos) pos 400 (Nat.le_refl _) (by omega) (by omega)
    · rw [L_X12_takes_8]
      by_cases z : p < n
      · have b3 := (h.2 p z).2.2
        rw [t_B h z, sb, if_neg (show ¬ nI (T p) = 32 from fun y => h4 z ((nI_eq (b := 32) (by omega) (by omega)).mp y))]
      · rw [show p = n by omega, t_BN h, sb, if_neg (by decide)]
    · rw [L_X12_takes_8, t_B h (by omega), sb, h3 i i1 i2, if_pos (by decide), nI_1]
/-- letters -/
theorem t_le (h : TP n bt tp T) {p b : Nat} (h1 : p ≤ b) (h2 : b ≤ n) (h3 : ∀ i, p ≤ i → i < b → isL (T i)) (h4 : b < n → ¬ isL (T b)) : L_X9_readName_0 (nI n) bt 400 (nI p) = some (nI b) ∧ L_X12_takes_82 (nI n) tp 400 (nI p) = some (nI b) := by
  have hn := h.1
  constructor
  · refine upL (a := p) (e := b) (r := nI b) (L := L_X9_readName_0 (nI n) bt) (fun f => ?_) (fun f i i1 i2 => ?_) (b - p) p 400 (Nat.le_refl _) (by omega) (by omega)
    · rw [L_X9_readName_0]
      by_cases z : b < n
      · rw [if_neg (nI_ge z (by omega)), t_L0 h z (h4 z), sb, if_pos rfl]
      · rw [if_pos (nI_le (by omega) (by omega))]
    · rw [L_X9_readName_0, if_neg (nI_ge (by omega) (by omega)), t_L1 h (by omega) (h3 i i1 i2), sb, if_neg n10, nI_1]
  · refine upL (a := p) (e := b) (r := nI b) (L := L_X12_takes_82 (nI n) tp) (fun f => ?_) (fun f i i1 i2 => ?_) (b - p) p 400 (Nat.le_refl _) (by omega) (by omega)
    · rw [L_X12_takes_82]
      by_cases z : b < n
      · rw [t_B h z, sb, in_L0 (h.2 b z).2.2 (h4 z), sb, if_pos rfl]
      · rw [show b = n by omega, t_BN h, sb, in_Lm, sb, if_pos rfl]
    · rw [L_X12_takes_82, t_B h (by omega), sb, in_L1 (h3 i i1 i2), sb, if_neg n10, nI_1]
/-- what j figures from p on are worth -/
def fgv (T : Nat → Nat) (p : Nat) : Nat → Nat
  | 0 => 0
  | j + 1 => if j < 2 then fgv T p j * 10 + (T (p + j) - 48) else fgv T p j
theorem fgv_lt {p b : Nat} (h3 : ∀ i, p ≤ i → i < b → isF (T i)) : ∀ j, p + j ≤ b → fgv T p j < 100 ∧ (j = 0 → fgv T p j = 0) ∧ (j = 1 → fgv T p j ≤ 9)
  | 0, _ => ⟨by show 0 < 100; omega, fun _ => rfl, fun h => absurd h (by omega)⟩
  | j + 1, hj => by
    obtain ⟨a1, a2, a3⟩ := fgv_lt h3 j (by omega)
    have f1 := (h3 (p + j) (by omega) (by omega)).1
    have f2 := (h3 (p + j) (by omega) (by omega)).2
    rw [fgv]
    by_cases z : j < 2
    · rw [if_pos z]
      obtain rfl | rfl : j = 0 ∨ j = 1 := by omega
      · have := a2 rfl
        exact ⟨by omega, fun h => absurd h (by omega), fun _ => by omega⟩
      · have := a3 rfl
        exact ⟨by omega, fun h => absurd h (by omega), fun h => absurd h (by omega)⟩
    · rw [if_neg z]
      exact ⟨a1, fun h => absurd h (by omega), fun h => absurd h (by omega)⟩
theorem t_fi (h : TP n bt tp T) {p b : Nat} (h1 : p ≤ b) (h2 : b ≤ n) (h3 : ∀ i, p ≤ i → i < b → isF (T i)) (h4 : b < n → ¬ isF (T b)) : L_X9_readFigures_5 (nI p) (nI n) bt 400 (nI p) 0 = some (nI b, nI (fgv T p (b - p))) ∧ L_X12_takes_140 (nI n) tp (nI p) 400 (nI p) 0 = some (nI b, nI (fgv T p (b - p))) := by
  have hn := h.1
  have dig : ∀ j, p + j < b → j < 2 → (nI (fgv T p j) * 10 + nI (T (p + j)) - 48 : Int32) = nI (fgv T p (j + 1)) ∧ (10 * nI (fgv T p j) + nI (T (p + j)) - 48 : Int32) = nI (fgv T p (j + 1)) := fun j hj j2 => by
    have f1 := (h3 (p + j) (by omega) (by omega)).1
    rw [show (10 : Int32) = nI 10 from rfl, show (48 : Int32) = nI 48 from rfl, pk_mul, pk_mul, nI_add, nI_add, pk_sub (by omega), pk_sub (by omega), fgv, if_pos j2]
    constructor <;> exact congrArg nI (by omega)
  constructor
  · have key : ∀ (d j f : Nat), p + j + d = b → d < f → L_X9_readFigures_5 (nI p) (nI n) bt f (nI (p + j)) (nI (fgv T p j)) = some (nI b, nI (fgv T p (b - p))) := by
      intro d
      induction d with
      | zero =>
        intro j f e hf
        obtain ⟨f, rfl⟩ : ∃ f', f = f' + 1 := ⟨f - 1, by omega⟩
        rw [L_X9_readFigures_5, show p + j = b by omega, show b - p = j by omega]
        by_cases z : b < n
        · rw [if_neg (nI_ge z (by omega)), t_F0 h z (h4 z), sb, if_pos rfl]
        · rw [if_pos (nI_le (by omega) (by omega))]
      | succ d ih =>
        intro j f e hf
        obtain ⟨f, rfl⟩ : ∃ f', f = f' + 1 := ⟨f - 1, by omega⟩
        have ih := ih (j + 1) f (by omega) (by omega)
        rw [L_X9_readFigures_5, if_neg (nI_ge (by omega) (by omega)), t_F1 h (by omega) (h3 (p + j) (by omega) (by omega)), sb, if_neg n10, nI_2, nI_1]
        by_cases z : j < 2
        · rw [if_neg (nI_ge (by omega) (by omega)), if_pos (inb_nI (by omega) (by omega)), ix_nI (by omega), (h.2 (p + j) (by omega)).1, (dig j (by omega) z).1]
          exact ih
        · rw [fgv, if_neg z] at ih
          rw [if_pos (nI_le (by omega) (by omega))]
          exact ih
    exact key (b - p) 0 400 (by omega) (by omega)
  · have key : ∀ (d j f : Nat), p + j + d = b → d < f → L_X12_takes_140 (nI n) tp (nI p) f (nI (p + j)) (nI (fgv T p j)) = some (nI b, nI (fgv T p (b - p))) := by
      intro d
      induction d with
      | zero =>
        intro j f e hf
        obtain ⟨f, rfl⟩ : ∃ f', f = f' + 1 := ⟨f - 1, by omega⟩
        rw [L_X12_takes_140, show p + j = b by omega, show b - p = j by omega]
        by_cases z : b < n
        · rw [t_B h z, sb, in_F0 (h.2 b z).2.2 (h4 z), sb, if_pos rfl]
        · rw [show b = n by omega, t_BN h, sb, in_Fm, sb, if_pos rfl]
      | succ d ih =>
        intro j f e hf
        obtain ⟨f, rfl⟩ : ∃ f', f = f' + 1 := ⟨f - 1, by omega⟩
        have ih := ih (j + 1) f (by omega) (by omega)
        rw [L_X12_takes_140, t_B h (by omega), sb, in_F1 (h3 (p + j) (by omega) (by omega)), sb, if_neg n10, pk_sub (by omega), show p + j - p = j by omega, nI_1]
        by_cases z : j < 2
        · rw [if_neg (show ¬ (2 : Int32) ≤ nI j from nI_ge (b := 2) z (by omega)), sb, sb, (dig j (by omega) z).2]
          exact ih
        · rw [fgv, if_neg z] at ih
          rw [if_pos (show (2 : Int32) ≤ nI j from nI_le (a := 2) (by omega) (by omega)), sb]
          exact ih
    exact key (b - p) 0 400 (by omega) (by omega)
/-- a token as the class has it; as the reference has it (kinds: 0 name, 1 number, 2 stop, 3 the end, 4 none) -/
def CT (n : Nat) (bt : Nat → Int32) (pos p b c v : Nat) : Prop := ∀ (pl so va : Int32), ∃ vc, f_X9_readToken pl (nI pos) so va (nI n) bt = some (nI p, nI b, nI c, vc) ∧ (c = 1 → vc = nI v)
def TR (p c v : Nat) (so va f w : Int32) : Prop := (c = 0 ∧ so = 1 ∧ f = 0) ∨ (c = 1 ∧ so = 2 ∧ va = nI v ∧ f = 0) ∨ (c = 2 ∧ so = 3 ∧ f = 0) ∨ (c = 3 ∧ so = 0 ∧ f = 0) ∨ (c = 4 ∧ f = 1 ∧ w = nI p)
def MT (n : Nat) (tp : Nat → Int32) (pos p b c v : Nat) : Prop := ∀ (bg so va w : Int32), ∃ so' va' f' w', f_X12_takes (nI n) (nI pos) bg so va 0 w tp = some (nI b, nI p, so', va', f', w') ∧ TR p c v so' va' f' w'
theorem tok (h : TP n bt tp T) {pos : Nat} (hp : pos ≤ n) : ∃ p b c v, pos ≤ p ∧ p ≤ b ∧ b ≤ n ∧ c ≤ 4 ∧ (c = 3 → p = n) ∧ v < 100 ∧ CT n bt pos p b c v ∧ MT n tp pos p b c v := by
  have hn := h.1
  obtain ⟨p, p1, p2, p3, p4⟩ := scan (fun i => T i = 32) n (n - pos) pos (by omega)
  obtain ⟨q1, q2⟩ := t_bl h p1 p2 p3 p4
  have z0 : (0 : Int32) ≤ 0 := by decide
  by_cases z : p < n
  · have b3 := (h.2 p z).2.2
    have g0 : (0 : Int32) ≤ nI (T p) := nI_pos' (by omega)
    by_cases L : isL (T p)
    · obtain ⟨b, b1, b2, b4, b5⟩ := scan (fun i => isL (T i)) n (n - p) p (by omega)
      obtain ⟨r1, r2⟩ := t_le h b1 b2 b4 b5
      refine ⟨p, b, 0, 0, p1, b1, b2, by omega, fun e => absurd e (by omega), by omega, fun pl so va => ⟨va, ?_, fun e => absurd e (by omega)⟩, fun bg so va w => ⟨1, va, 0, w, ?_, Or.inl ⟨rfl, rfl, rfl⟩⟩⟩
      · unfold f_X9_readToken f_X9_readName
        rw [q1, sb, if_pos (nI_lt z (by omega)), t_L1 h z L, sb, if_neg n10, r1, sb, sb]
        rfl
      · unfold f_X12_takes
        rw [if_pos z0, q2, sb, t_B h z, sb, if_pos g0, in_L1 L, sb, if_neg n10, r2, sb]
    · by_cases F : isF (T p)
      · obtain ⟨b, b1, b2, b4, b5⟩ := scan (fun i => isF (T i)) n (n - p) p (by omega)
        obtain ⟨r1, r2⟩ := t_fi h b1 b2 b4 b5
        have hv := (fgv_lt b4 (b - p) (by omega)).1
        by_cases s : b - p ≤ 2
        · refine ⟨p, b, 1, fgv T p (b - p), p1, b1, b2, by omega, fun e => absurd e (by omega), hv, fun pl so va => ⟨nI (fgv T p (b - p)), ?_, fun _ => rfl⟩, fun bg so va w => ⟨2, nI (fgv T p (b - p)), 0, w, ?_, Or.inr (Or.inl ⟨rfl, rfl, rfl, rfl⟩)⟩⟩
          · unfold f_X9_readToken f_X9_readFigures
            rw [q1, sb, if_pos (nI_lt z (by omega)), t_L0 h z L, sb, if_pos rfl, t_F1 h z F, sb, if_neg n10, r1, sb]
            dsimp only
            rw [pk_sub b1, if_pos (show nI (b - p) ≤ 2 from nI_le (b := 2) s (by omega)), sb]
            rfl
          · unfold f_X12_takes f_X12_needs
            rw [if_pos z0, q2, sb, t_B h z, sb, if_pos g0, in_L0 b3 L, sb, if_pos rfl, in_F1 F, sb, if_neg n10, r2, sb]
            dsimp only
            rw [pk_sub b1, if_neg (show ¬ (2 : Int32) < nI (b - p) from nI_nlt (a := 2) s (by omega)), sb, if_neg n10, sb]
        · refine ⟨p, b, 4, 0, p1, b1, b2, by omega, fun e => absurd e (by omega), by omega, fun pl so va => ⟨nI (fgv T p (b - p)), ?_, fun e => absurd e (by omega)⟩, fun bg so va w => ⟨2, nI (fgv T p (b - p)), 1, nI p, ?_, Or.inr (Or.inr (Or.inr (Or.inr ⟨rfl, rfl, rfl⟩)))⟩⟩
          · unfold f_X9_readToken f_X9_readFigures
            rw [q1, sb, if_pos (nI_lt z (by omega)), t_L0 h z L, sb, if_pos rfl, t_F1 h z F, sb, if_neg n10, r1, sb]
            dsimp only
            rw [pk_sub b1, if_neg (show ¬ nI (b - p) ≤ 2 from nI_ge (a := 2) (by omega) (by omega)), sb]
            rfl
          · unfold f_X12_takes f_X12_needs
            rw [if_pos z0, q2, sb, t_B h z, sb, if_pos g0, in_L0 b3 L, sb, if_pos rfl, in_F1 F, sb, if_neg n10, r2, sb]
            dsimp only
            rw [pk_sub b1, if_pos (show (2 : Int32) < nI (b - p) from nI_lt (a := 2) (by omega) (by omega)), sb, if_pos rfl, if_pos rfl, sb]
      · have nl : ∀ pl so va, ∃ vc, f_X9_readToken pl (nI pos) so va (nI n) bt = (if nI (T p) = 59 then some (nI p, nI (p + 1), 2, vc) else some (nI p, nI (p + 1), 4, vc)) := fun pl so va => ⟨va, by
          unfold f_X9_readToken
          rw [q1, sb, if_pos (nI_lt z (by omega)), t_L0 h z L, sb, if_pos rfl, t_F0 h z F, sb, if_pos rfl, if_pos (inb_nI (by omega) (by omega)), ix_nI (by omega), (h.2 p z).1, nI_1]⟩
        by_cases s : T p = 59
        · refine ⟨p, p + 1, 2, 0, p1, by omega, by omega, by omega, fun e => absurd e (by omega), by omega, fun pl so va => ?_, fun bg so va w => ⟨3, va, 0, w, ?_, Or.inr (Or.inr (Or.inl ⟨rfl, rfl, rfl⟩))⟩⟩
          · obtain ⟨vc, e⟩ := nl pl so va
            rw [s, if_pos (by decide)] at e
            exact ⟨vc, e, fun e => absurd e (by omega)⟩
          · unfold f_X12_takes f_X12_needs
            rw [if_pos z0, q2, sb, t_B h z, sb, if_pos g0, in_L0 b3 L, sb, if_pos rfl, in_F0 b3 F, sb, if_pos rfl, s, if_pos (by decide), sb, if_neg n10, sb, nI_1]
        · have s9 : ¬ nI (T p) = 59 := fun y => s ((nI_eq (b := 59) (by omega) (by omega)).mp y)
          refine ⟨p, p + 1, 4, 0, p1, by omega, by omega, by omega, fun e => absurd e (by omega), by omega, fun pl so va => ?_, fun bg so va w => ⟨3, va, 1, nI p, ?_, Or.inr (Or.inr (Or.inr (Or.inr ⟨rfl, rfl, rfl⟩)))⟩⟩
          · obtain ⟨vc, e⟩ := nl pl so va
            rw [if_neg s9] at e
            exact ⟨vc, e, fun e => absurd e (by omega)⟩
          · unfold f_X12_takes f_X12_needs
            rw [if_pos z0, q2, sb, t_B h z, sb, if_pos g0, in_L0 b3 L, sb, if_pos rfl, in_F0 b3 F, sb, if_pos rfl, if_neg s9, sb, if_pos rfl, if_pos rfl, sb, nI_1]
  · have e : p = n := by omega
    subst e
    refine ⟨p, p, 3, 0, p1, Nat.le_refl _, Nat.le_refl _, by omega, fun _ => rfl, by omega, fun pl so va => ⟨va, ?_, fun e => absurd e (by omega)⟩, fun bg so va w => ⟨0, va, 0, w, ?_, Or.inr (Or.inr (Or.inr (Or.inl ⟨rfl, rfl, rfl⟩)))⟩⟩
    · unfold f_X9_readToken
      rw [q1, sb, if_neg (nI_nlt (Nat.le_refl _) (by omega))]
      rfl
    · unfold f_X12_takes
      rw [if_pos z0, q2, sb, t_BN h, sb, if_neg (by decide)]
end
