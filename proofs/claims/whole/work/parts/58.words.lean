/-! words -/
def zw : List (List Nat) := [[104, 111, 117, 115, 101], [102, 114, 105, 101, 110, 100], [98, 111, 114, 101], [97, 117, 110, 116], [101, 110, 101, 109, 121]]
def zc (z i : Nat) : Nat := (zw.getD z []).getD i 0
theorem zc_ok : ∀ z, z < 5 → ∀ i, i < zLen.getD z 0 → zch z i = nI (zc z i) := by decide +kernel
theorem zc_lt : ∀ z, z < 5 → ∀ i, i < zLen.getD z 0 → zc z i < 128 := by decide +kernel
theorem zl_le : ∀ z, z < 5 → zLen.getD z 0 ≤ 6 := by decide +kernel
def wd (T : Nat → Nat) (z p b : Nat) : Prop := b - p = zLen.getD z 0 ∧ ∀ i, i < zLen.getD z 0 → T (p + i) = zc z i
section
variable {n : Nat} {bt tp : Nat → Int32} {T : Nat → Nat} {p b : Nat}
theorem t_nm1 (h : TP n bt tp T) {z : Nat} (hz : z < 5) (h1 : p ≤ b) (h2 : b ≤ n) (w : wd T z p b) : f_X9_named z (nI p) (nI b) bt = some 1 := by
  have hn := h.1
  have hl := zl_le z hz
  obtain ⟨w1, w2⟩ := w
  have e : L_X9_named_20 z (nI p) bt 400 0 = some (.inr ()) := by
    refine upL (a := 0) (e := zLen.getD z 0) (r := .inr ()) (L := L_X9_named_20 z (nI p) bt) (fun f => ?_) (fun f i i1 i2 => ?_) (zLen.getD z 0) 0 400 (Nat.le_refl _) (by omega) (by omega)
    · rw [L_X9_named_20, if_pos (nI_le (Nat.le_refl _) (by omega))]
    · rw [L_X9_named_20, if_neg (nI_ge i2 (by omega)), nI_add, if_pos (inb_nI (by omega) (by omega)), if_pos (inb_nI i2 (by omega)), ix_nI (by omega), ix_nI (by omega), (h.2 (p + i) (by omega)).1, w2 i i2, zc_ok z hz i i2, if_pos rfl, nI_1]
  unfold f_X9_named
  rw [pk_sub h1, if_pos (by rw [w1]), e]
  rfl
theorem t_nm0 (h : TP n bt tp T) {z : Nat} (hz : z < 5) (h1 : p ≤ b) (h2 : b ≤ n) (w : ¬ wd T z p b) : f_X9_named z (nI p) (nI b) bt = some 0 := by
  have hn := h.1
  have hl := zl_le z hz
  unfold f_X9_named
  rw [pk_sub h1]
  by_cases q : b - p = zLen.getD z 0
  · obtain ⟨e, e1, e2, e3, e4⟩ := scan (fun i => T (p + i) = zc z i) (zLen.getD z 0) (zLen.getD z 0) 0 (by omega)
    have e5 : e < zLen.getD z 0 := by
      rcases Nat.lt_or_ge e (zLen.getD z 0) with y | y
      · exact y
      · exact absurd ⟨q, fun i hi => e3 i (by omega) (by omega)⟩ w
    have e6 : L_X9_named_20 z (nI p) bt 400 0 = some (.inl 0) := by
      refine upL (a := 0) (e := e) (r := .inl 0) (L := L_X9_named_20 z (nI p) bt) (fun f => ?_) (fun f i i1 i2 => ?_) e 0 400 (Nat.le_refl _) (by omega) (by omega)
      · rw [L_X9_named_20, if_neg (nI_ge e5 (by omega)), nI_add, if_pos (inb_nI (by omega) (by omega)), if_pos (inb_nI e5 (by omega)), ix_nI (by omega), ix_nI (by omega), (h.2 (p + e) (by omega)).1, zc_ok z hz e e5, if_neg (fun y => e4 e5 ((nI_eq (by have := (h.2 (p + e) (by omega)).2.2; omega) (by have := zc_lt z hz e e5; omega)).mp y))]
      · rw [L_X9_named_20, if_neg (nI_ge (by omega) (by omega)), nI_add, if_pos (inb_nI (by omega) (by omega)), if_pos (inb_nI (by omega) (by omega)), ix_nI (by omega), ix_nI (by omega), (h.2 (p + i) (by omega)).1, e3 i (by omega) i2, zc_ok z hz i (by omega), if_pos rfl, nI_1]
    rw [if_pos (by rw [q]), e6]
    rfl
  · rw [if_neg (fun y => q ((nI_eq (by omega) (by omega)).mp y))]
theorem nI_3 {n : Nat} : (nI n + 3 : Int32) = nI (n + 3) := nI_add n 3
theorem nI_4 {n : Nat} : (nI n + 4 : Int32) = nI (n + 4) := nI_add n 4
theorem nI_5 {n : Nat} : (nI n + 5 : Int32) = nI (n + 5) := nI_add n 5
def is4 (T : Nat → Nat) (p b l c0 c1 c2 c3 : Nat) : Prop := b - p = l ∧ T p = c0 ∧ T (p + 1) = c1 ∧ T (p + 2) = c2 ∧ T (p + 3) = c3
theorem t_is1 (h : TP n bt tp T) {l c0 c1 c2 c3 : Nat} (h1 : p ≤ b) (h2 : b ≤ n) (l4 : 4 ≤ l) (w : is4 T p b l c0 c1 c2 c3) : f_X12_is (nI n) (nI b) (nI p) tp (nI l) (nI c0) (nI c1) (nI c2) (nI c3) = some 1 := by
  have hn := h.1
  obtain ⟨w1, w2, w3, w4, w5⟩ := w
  unfold f_X12_is
  rw [pk_sub h1, if_pos (by rw [w1]), t_B h (by omega), sb, w2, if_pos rfl, nI_1, t_B h (by omega), sb, w3, if_pos rfl, nI_2, t_B h (by omega), sb, w4, if_pos rfl, nI_3, t_B h (by omega), sb, w5, if_pos rfl]
theorem t_is0 (h : TP n bt tp T) {l c0 c1 c2 c3 : Nat} (h1 : p ≤ b) (h2 : b ≤ n) (l4 : 4 ≤ l) (l9 : l < 9) (hc : c0 < 128 ∧ c1 < 128 ∧ c2 < 128 ∧ c3 < 128) (w : ¬ is4 T p b l c0 c1 c2 c3) : f_X12_is (nI n) (nI b) (nI p) tp (nI l) (nI c0) (nI c1) (nI c2) (nI c3) = some 0 := by
  have hn := h.1
  obtain ⟨k0, k1, k2, k3⟩ := hc
  unfold f_X12_is
  rw [pk_sub h1]
  by_cases w1 : b - p = l
  · have a0 := (h.2 p (by omega)).2.2
    have a1 := (h.2 (p + 1) (by omega)).2.2
    have a2 := (h.2 (p + 2) (by omega)).2.2
    have a3 := (h.2 (p + 3) (by omega)).2.2
    rw [if_pos (by rw [w1]), t_B h (by omega), sb]
    by_cases w2 : T p = c0
    · rw [w2, if_pos rfl, nI_1, t_B h (by omega), sb]
      by_cases w3 : T (p + 1) = c1
      · rw [w3, if_pos rfl, nI_2, t_B h (by omega), sb]
        by_cases w4 : T (p + 2) = c2
        · rw [w4, if_pos rfl, nI_3, t_B h (by omega), sb]
          by_cases w5 : T (p + 3) = c3
          · exact absurd ⟨w1, w2, w3, w4, w5⟩ w
          · rw [if_neg (fun y => w5 ((nI_eq (by omega) (by omega)).mp y))]
        · rw [if_neg (fun y => w4 ((nI_eq (by omega) (by omega)).mp y))]
      · rw [if_neg (fun y => w3 ((nI_eq (by omega) (by omega)).mp y))]
    · rw [if_neg (fun y => w2 ((nI_eq (by omega) (by omega)).mp y))]
  · rw [if_neg (fun y => w1 ((nI_eq (by omega) (by omega)).mp y))]
theorem t_e1 (h : TP n bt tp T) {c : Nat} (hp : p + 4 < n) (w : T (p + 4) = c) : f_X12_ends (nI n) (nI p) tp (nI c) 0 = some 1 := by
  unfold f_X12_ends
  rw [nI_4, t_B h hp, sb, w, if_pos rfl, if_pos rfl]
theorem t_e0 (h : TP n bt tp T) {c : Nat} {x : Int32} (hp : p + 4 < n) (hc : c < 128) (w : ¬ T (p + 4) = c) : f_X12_ends (nI n) (nI p) tp (nI c) x = some 0 := by
  have a := (h.2 (p + 4) hp).2.2
  unfold f_X12_ends
  rw [nI_4, t_B h hp, sb, if_neg (fun y => w ((nI_eq (by omega) (by omega)).mp y))]
theorem t_ee1 (h : TP n bt tp T) {c d : Nat} (hp : p + 5 < n) (d0 : 0 < d) (d1 : d < 128) (w : T (p + 4) = c) (w2 : T (p + 5) = d) : f_X12_ends (nI n) (nI p) tp (nI c) (nI d) = some 1 := by
  unfold f_X12_ends
  rw [nI_4, t_B h (by omega), sb, w, if_pos rfl, if_neg (nI_ne0 d0 (by omega)), nI_5, t_B h hp, sb, w2, if_pos rfl]
theorem t_ee0 (h : TP n bt tp T) {c d : Nat} (hp : p + 5 < n) (d0 : 0 < d) (d1 : d < 128) (w : T (p + 4) = c) (w2 : ¬ T (p + 5) = d) : f_X12_ends (nI n) (nI p) tp (nI c) (nI d) = some 0 := by
  have a := (h.2 (p + 5) hp).2.2
  unfold f_X12_ends
  rw [nI_4, t_B h (by omega), sb, w, if_pos rfl, if_neg (nI_ne0 d0 (by omega)), nI_5, t_B h hp, sb, if_neg (fun y => w2 ((nI_eq (by omega) (by omega)).mp y))]
/-! the reference's tails -/
def lnH (n b p : Int32) (tp : Nat → Int32) : Option Int32 := (f_X12_is n b p tp 5 104 111 117 115).bind (fun (v5 : Int32) => if v5 = 0 then some (-4) else (f_X12_ends n p tp 101 0).bind (fun (v6 : Int32) => if v6 = 0 then some (-4) else some 4))
def lnE (n b p : Int32) (tp : Nat → Int32) : Option Int32 := (f_X12_is n b p tp 5 101 110 101 109).bind (fun (v4 : Int32) => if v4 = 0 then lnH n b p tp else (f_X12_ends n p tp 121 0).bind (fun (v7 : Int32) => if v7 = 0 then lnH n b p tp else some 3))
def lnB (n b p : Int32) (tp : Nat → Int32) : Option Int32 := (f_X12_is n b p tp 4 98 111 114 101).bind (fun (v2 : Int32) => if v2 = 0 then (f_X12_is n b p tp 4 97 117 110 116).bind (fun (v3 : Int32) => if v3 = 0 then lnE n b p tp else some 2) else some 1)
theorem ln_eq (n b p : Int32) (tp : Nat → Int32) : f_X12_lineNow n b p tp = (f_X12_is n b p tp 6 102 114 105 101).bind (fun (v1 : Int32) => if v1 = 0 then lnB n b p tp else (f_X12_ends n p tp 110 100).bind (fun (v10 : Int32) => if v10 = 0 then lnB n b p tp else some 0)) := rfl
theorem w_fr : wd T 1 p b ↔ is4 T p b 6 102 114 105 101 ∧ T (p + 4) = 110 ∧ T (p + 5) = 100 := by
  constructor
  · intro w
    exact ⟨⟨w.1, w.2 0 (by decide), w.2 1 (by decide), w.2 2 (by decide), w.2 3 (by decide)⟩, w.2 4 (by decide), w.2 5 (by decide)⟩
  · rintro ⟨⟨w1, w2, w3, w4, w5⟩, w6, w7⟩
    refine ⟨w1, fun i hi => ?_⟩
    have hi : i < 6 := hi
    obtain rfl | rfl | rfl | rfl | rfl | rfl : i = 0 ∨ i = 1 ∨ i = 2 ∨ i = 3 ∨ i = 4 ∨ i = 5 := by omega
    · exact w2
    · exact w3
    · exact w4
    · exact w5
    · exact w6
    · exact w7
theorem w_bo : wd T 2 p b ↔ is4 T p b 4 98 111 114 101 := by
  constructor
  · intro w
    exact ⟨w.1, w.2 0 (by decide), w.2 1 (by decide), w.2 2 (by decide), w.2 3 (by decide)⟩
  · rintro ⟨w1, w2, w3, w4, w5⟩
    refine ⟨w1, fun i hi => ?_⟩
    have hi : i < 4 := hi
    obtain rfl | rfl | rfl | rfl : i = 0 ∨ i = 1 ∨ i = 2 ∨ i = 3 := by omega
    · exact w2
    · exact w3
    · exact w4
    · exact w5
theorem w_au : wd T 3 p b ↔ is4 T p b 4 97 117 110 116 := by
  constructor
  · intro w
    exact ⟨w.1, w.2 0 (by decide), w.2 1 (by decide), w.2 2 (by decide), w.2 3 (by decide)⟩
  · rintro ⟨w1, w2, w3, w4, w5⟩
    refine ⟨w1, fun i hi => ?_⟩
    have hi : i < 4 := hi
    obtain rfl | rfl | rfl | rfl : i = 0 ∨ i = 1 ∨ i = 2 ∨ i = 3 := by omega
    · exact w2
    · exact w3
    · exact w4
    · exact w5
theorem w_en : wd T 4 p b ↔ is4 T p b 5 101 110 101 109 ∧ T (p + 4) = 121 := by
  constructor
  · intro w
    exact ⟨⟨w.1, w.2 0 (by decide), w.2 1 (by decide), w.2 2 (by decide), w.2 3 (by decide)⟩, w.2 4 (by decide)⟩
  · rintro ⟨⟨w1, w2, w3, w4, w5⟩, w6⟩
    refine ⟨w1, fun i hi => ?_⟩
    have hi : i < 5 := hi
    obtain rfl | rfl | rfl | rfl | rfl : i = 0 ∨ i = 1 ∨ i = 2 ∨ i = 3 ∨ i = 4 := by omega
    · exact w2
    · exact w3
    · exact w4
    · exact w5
    · exact w6
theorem w_ho : wd T 0 p b ↔ is4 T p b 5 104 111 117 115 ∧ T (p + 4) = 101 := by
  constructor
  · intro w
    exact ⟨⟨w.1, w.2 0 (by decide), w.2 1 (by decide), w.2 2 (by decide), w.2 3 (by decide)⟩, w.2 4 (by decide)⟩
  · rintro ⟨⟨w1, w2, w3, w4, w5⟩, w6⟩
    refine ⟨w1, fun i hi => ?_⟩
    have hi : i < 5 := hi
    obtain rfl | rfl | rfl | rfl | rfl : i = 0 ∨ i = 1 ∨ i = 2 ∨ i = 3 ∨ i = 4 := by omega
    · exact w2
    · exact w3
    · exact w4
    · exact w5
    · exact w6
theorem lnH_1 (h : TP n bt tp T) (h1 : p ≤ b) (h2 : b ≤ n) (w : wd T 0 p b) : lnH (nI n) (nI b) (nI p) tp = some 4 := by
  obtain ⟨w1, w2⟩ := w_ho.mp w
  have e1 : f_X12_is (nI n) (nI b) (nI p) tp 5 104 111 117 115 = some 1 := t_is1 (l := 5) h h1 h2 (by omega) w1
  have e2 : f_X12_ends (nI n) (nI p) tp 101 0 = some 1 := t_e1 (c := 101) h (by have := w1.1; omega) w2
  unfold lnH
  rw [e1, sb, if_neg n10, e2, sb, if_neg n10]
theorem lnH_0 (h : TP n bt tp T) (h1 : p ≤ b) (h2 : b ≤ n) (w : ¬ wd T 0 p b) : lnH (nI n) (nI b) (nI p) tp = some (-4) := by
  unfold lnH
  by_cases w1 : is4 T p b 5 104 111 117 115
  · have e1 : f_X12_is (nI n) (nI b) (nI p) tp 5 104 111 117 115 = some 1 := t_is1 (l := 5) h h1 h2 (by omega) w1
    have e2 : f_X12_ends (nI n) (nI p) tp 101 0 = some 0 := t_e0 (c := 101) h (by have := w1.1; omega) (by omega) (fun w2 => w (w_ho.mpr ⟨w1, w2⟩))
    rw [e1, sb, if_neg n10, e2, sb, if_pos rfl]
  · have e1 : f_X12_is (nI n) (nI b) (nI p) tp 5 104 111 117 115 = some 0 := t_is0 (l := 5) (c0 := 104) (c1 := 111) (c2 := 117) (c3 := 115) h h1 h2 (by omega) (by omega) (by decide) w1
    rw [e1, sb, if_pos rfl]
theorem lnE_1 (h : TP n bt tp T) (h1 : p ≤ b) (h2 : b ≤ n) (w : wd T 4 p b) : lnE (nI n) (nI b) (nI p) tp = some 3 := by
  obtain ⟨w1, w2⟩ := w_en.mp w
  have e1 : f_X12_is (nI n) (nI b) (nI p) tp 5 101 110 101 109 = some 1 := t_is1 (l := 5) h h1 h2 (by omega) w1
  have e2 : f_X12_ends (nI n) (nI p) tp 121 0 = some 1 := t_e1 (c := 121) h (by have := w1.1; omega) w2
  unfold lnE
  rw [e1, sb, if_neg n10, e2, sb, if_neg n10]
theorem lnE_0 (h : TP n bt tp T) (h1 : p ≤ b) (h2 : b ≤ n) (w : ¬ wd T 4 p b) : lnE (nI n) (nI b) (nI p) tp = lnH (nI n) (nI b) (nI p) tp := by
  unfold lnE
  by_cases w1 : is4 T p b 5 101 110 101 109
  · have e1 : f_X12_is (nI n) (nI b) (nI p) tp 5 101 110 101 109 = some 1 := t_is1 (l := 5) h h1 h2 (by omega) w1
    have e2 : f_X12_ends (nI n) (nI p) tp 121 0 = some 0 := t_e0 (c := 121) h (by have := w1.1; omega) (by omega) (fun w2 => w (w_en.mpr ⟨w1, w2⟩))
    rw [e1, sb, if_neg n10, e2, sb, if_pos rfl]
  · have e1 : f_X12_is (nI n) (nI b) (nI p) tp 5 101 110 101 109 = some 0 := t_is0 (l := 5) (c0 := 101) (c1 := 110) (c2 := 101) (c3 := 109) h h1 h2 (by omega) (by omega) (by decide) w1
    rw [e1, sb, if_pos rfl]
theorem lnB_2 (h : TP n bt tp T) (h1 : p ≤ b) (h2 : b ≤ n) (w : wd T 2 p b) : lnB (nI n) (nI b) (nI p) tp = some 1 := by
  have e1 : f_X12_is (nI n) (nI b) (nI p) tp 4 98 111 114 101 = some 1 := t_is1 (l := 4) h h1 h2 (by omega) (w_bo.mp w)
  unfold lnB
  rw [e1, sb, if_neg n10]
theorem lnB_3 (h : TP n bt tp T) (h1 : p ≤ b) (h2 : b ≤ n) (v : ¬ wd T 2 p b) (w : wd T 3 p b) : lnB (nI n) (nI b) (nI p) tp = some 2 := by
  have e1 : f_X12_is (nI n) (nI b) (nI p) tp 4 98 111 114 101 = some 0 := t_is0 (l := 4) (c0 := 98) (c1 := 111) (c2 := 114) (c3 := 101) h h1 h2 (by omega) (by omega) (by decide) (fun z => v (w_bo.mpr z))
  have e2 : f_X12_is (nI n) (nI b) (nI p) tp 4 97 117 110 116 = some 1 := t_is1 (l := 4) h h1 h2 (by omega) (w_au.mp w)
  unfold lnB
  rw [e1, sb, if_pos rfl, e2, sb, if_neg n10]
theorem lnB_0 (h : TP n bt tp T) (h1 : p ≤ b) (h2 : b ≤ n) (v : ¬ wd T 2 p b) (w : ¬ wd T 3 p b) : lnB (nI n) (nI b) (nI p) tp = lnE (nI n) (nI b) (nI p) tp := by
  have e1 : f_X12_is (nI n) (nI b) (nI p) tp 4 98 111 114 101 = some 0 := t_is0 (l := 4) (c0 := 98) (c1 := 111) (c2 := 114) (c3 := 101) h h1 h2 (by omega) (by omega) (by decide) (fun z => v (w_bo.mpr z))
  have e2 : f_X12_is (nI n) (nI b) (nI p) tp 4 97 117 110 116 = some 0 := t_is0 (l := 4) (c0 := 97) (c1 := 117) (c2 := 110) (c3 := 116) h h1 h2 (by omega) (by omega) (by decide) (fun z => w (w_au.mpr z))
  unfold lnB
  rw [e1, sb, if_pos rfl, e2, sb, if_pos rfl]
theorem ln_1 (h : TP n bt tp T) (h1 : p ≤ b) (h2 : b ≤ n) (w : wd T 1 p b) : f_X12_lineNow (nI n) (nI b) (nI p) tp = some 0 := by
  obtain ⟨w1, w2, w3⟩ := w_fr.mp w
  have e1 : f_X12_is (nI n) (nI b) (nI p) tp 6 102 114 105 101 = some 1 := t_is1 (l := 6) h h1 h2 (by omega) w1
  have e2 : f_X12_ends (nI n) (nI p) tp 110 100 = some 1 := t_ee1 (c := 110) (d := 100) h (by have := w1.1; omega) (by omega) (by omega) w2 w3
  rw [ln_eq, e1, sb, if_neg n10, e2, sb, if_neg n10]
theorem ln_0 (h : TP n bt tp T) (h1 : p ≤ b) (h2 : b ≤ n) (w : ¬ wd T 1 p b) : f_X12_lineNow (nI n) (nI b) (nI p) tp = lnB (nI n) (nI b) (nI p) tp := by
  rw [ln_eq]
  by_cases w1 : is4 T p b 6 102 114 105 101
  · have e1 : f_X12_is (nI n) (nI b) (nI p) tp 6 102 114 105 101 = some 1 := t_is1 (l := 6) h h1 h2 (by omega) w1
    have hp : p + 5 < n := by have := w1.1; omega
    have e2 : f_X12_ends (nI n) (nI p) tp 110 100 = some 0 := by
      by_cases w2 : T (p + 4) = 110
      · exact t_ee0 (c := 110) (d := 100) h hp (by omega) (by omega) w2 (fun w3 => w (w_fr.mpr ⟨w1, w2, w3⟩))
      · exact t_e0 (c := 110) h (by omega) (by omega) w2
    rw [e1, sb, if_neg n10, e2, sb, if_pos rfl]
  · have e1 : f_X12_is (nI n) (nI b) (nI p) tp 6 102 114 105 101 = some 0 := t_is0 (l := 6) (c0 := 102) (c1 := 114) (c2 := 105) (c3 := 101) h h1 h2 (by omega) (by omega) (by decide) w1
    rw [e1, sb, if_pos rfl]
/-- a line's word: a kind, 4 a house, 5 none -/
theorem t_line (h : TP n bt tp T) (h1 : p ≤ b) (h2 : b ≤ n) : (f_X9_named 0 (nI p) (nI b) bt = some 1 ∧ f_X12_lineNow (nI n) (nI b) (nI p) tp = some 4) ∨ (f_X9_named 0 (nI p) (nI b) bt = some 0 ∧ f_X9_kindNamed (nI p) (nI b) bt = some (-4) ∧ f_X12_lineNow (nI n) (nI b) (nI p) tp = some (-4)) ∨ ∃ l, l < 4 ∧ f_X9_named 0 (nI p) (nI b) bt = some 0 ∧ f_X9_kindNamed (nI p) (nI b) bt = some (nI l) ∧ f_X12_lineNow (nI n) (nI b) (nI p) tp = some (nI l) := by
  by_cases w0 : wd T 0 p b
  · have a0 : b - p = 5 := w0.1
    have a1 : T p = 104 := w0.2 0 (by decide)
    have n1 : ¬ wd T 1 p b := fun z => by have : b - p = 6 := z.1; omega
    have n2 : ¬ wd T 2 p b := fun z => by have : b - p = 4 := z.1; omega
    have n3 : ¬ wd T 3 p b := fun z => by have : b - p = 4 := z.1; omega
    have n4 : ¬ wd T 4 p b := fun z => by have : T p = 101 := z.2 0 (by decide); omega
    refine Or.inl ⟨t_nm1 h (by omega) h1 h2 w0, ?_⟩
    rw [ln_0 h h1 h2 n1, lnB_0 h h1 h2 n2 n3, lnE_0 h h1 h2 n4, lnH_1 h h1 h2 w0]
  · have e0 := t_nm0 h (z := 0) (by omega) h1 h2 w0
    refine Or.inr ?_
    by_cases w1 : wd T 1 p b
    · refine Or.inr ⟨0, by omega, e0, ?_, ln_1 h h1 h2 w1⟩
      unfold f_X9_kindNamed
      rw [t_nm1 h (by omega) h1 h2 w1, sb, if_neg n10]
      rfl
    · have e1 := t_nm0 h (z := 1) (by omega) h1 h2 w1
      by_cases w2 : wd T 2 p b
      · refine Or.inr ⟨1, by omega, e0, ?_, (ln_0 h h1 h2 w1).trans (lnB_2 h h1 h2 w2)⟩
        unfold f_X9_kindNamed
        rw [e1, sb, if_pos rfl, t_nm1 h (by omega) h1 h2 w2, sb, if_neg n10]
        rfl
      · have e2 := t_nm0 h (z := 2) (by omega) h1 h2 w2
        by_cases w3 : wd T 3 p b
        · refine Or.inr ⟨2, by omega, e0, ?_, (ln_0 h h1 h2 w1).trans (lnB_3 h h1 h2 w2 w3)⟩
          unfold f_X9_kindNamed
          rw [e1, sb, if_pos rfl, e2, sb, if_pos rfl, t_nm1 h (by omega) h1 h2 w3, sb, if_neg n10]
          rfl
        · have e3 := t_nm0 h (z := 3) (by omega) h1 h2 w3
          by_cases w4 : wd T 4 p b
          · refine Or.inr ⟨3, by omega, e0, ?_, (ln_0 h h1 h2 w1).trans ((lnB_0 h h1 h2 w2 w3).trans (lnE_1 h h1 h2 w4))⟩
            unfold f_X9_kindNamed
            rw [e1, sb, if_pos rfl, e2, sb, if_pos rfl, e3, sb, if_pos rfl, t_nm1 h (by omega) h1 h2 w4, sb, if_neg n10]
            rfl
          · refine Or.inl ⟨e0, ?_, (ln_0 h h1 h2 w1).trans ((lnB_0 h h1 h2 w2 w3).trans ((lnE_0 h h1 h2 w4).trans (lnH_0 h h1 h2 w0)))⟩
            unfold f_X9_kindNamed
            rw [e1, sb, if_pos rfl, e2, sb, if_pos rfl, e3, sb, if_pos rfl, t_nm0 h (z := 4) (by omega) h1 h2 w4, sb, if_pos rfl]
end
