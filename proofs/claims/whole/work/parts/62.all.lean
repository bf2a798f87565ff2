/-! a text, line by line -/
section
variable {n : Nat} {bt tp : Nat → Int32} {T : Nat → Nat}
theorem a_sim (h : TP n bt tp T) {v1 : Int32 × Int32 × Int32} : ∀ (d i f g p b c v : Nat) (k : Ka) (li ki go co lk a : Nat → Int32) (hh hc so va fl w fp vc : Int32), i + d = 11 → k.hs + k.cm = i → d < f → d < g → DR li ki go co lk a hh hc k → p ≤ b → b ≤ n → c ≤ 4 → (c = 3 → p = n) → TR p c v so va fl w →
    (∃ g0 p0 r rm, 0 < g0 ∧ g0 ≤ 6 ∧ p0 ≤ n ∧ L_X9_readAll_23 (nI n) bt v1 f (nI i) 0 fp (nI p) (nI b) (nI c) vc (nI k.hs) (nI k.cm) co go ki lk li = some (.inl (-10 - nI p0, nI g0, nI p0, r)) ∧ L_X12_text_20 (nI n) tp g (nI i) (nI k.hs) (nI k.cm) hh hc (nI b) (nI p) so va fl w a = some rm ∧ rm.2.2.2.2.2.2.2.2.2.1 = nI g0 ∧ rm.2.2.2.2.2.2.2.2.2.2.1 = nI p0) ∨
    (∃ (i' : Nat) (k' : Ka) (li' ki' go' co' lk' a' : Nat → Int32) (hh' hc' q1 q2 q3 q4 q5 r1 r2 r3 r4 : Int32), i' ≤ 10 ∧ DR li' ki' go' co' lk' a' hh' hc' k' ∧ L_X9_readAll_23 (nI n) bt v1 f (nI i) 0 fp (nI p) (nI b) (nI c) vc (nI k.hs) (nI k.cm) co go ki lk li = some (.inr (nI i', 0, q1, q2, q3, q4, q5, nI k'.hs, nI k'.cm, co', go', ki', lk', li')) ∧ L_X12_text_20 (nI n) tp g (nI i) (nI k.hs) (nI k.cm) hh hc (nI b) (nI p) so va fl w a = some (nI i', nI k'.hs, nI k'.cm, hh', hc', r1, nI n, r2, r3, 0, r4, a')) := by
  intro d
  induction d with
  | zero =>
    intro i f g p b c v k li ki go co lk a hh hc so va fl w fp vc hi hk _ _ D
    have d1 := D.1
    omega
  | succ d ih =>
    intro i f g p b c v k li ki go co lk a hh hc so va fl w fp vc hi hk hf hg D pb bn c4 c3 hTR
    have hn := h.1
    have d1 := D.1
    obtain ⟨f, rfl⟩ : ∃ f', f = f' + 1 := ⟨f - 1, by omega⟩
    obtain ⟨g, rfl⟩ : ∃ g', g = g' + 1 := ⟨g - 1, by omega⟩
    have i160 : ¬ (160 : Int32) ≤ nI i := nI_ge (b := 160) (by omega) (by omega)
    by_cases z3 : c = 3
    · subst z3
      obtain ⟨rfl, rfl⟩ : so = 0 ∧ fl = 0 := by
        rcases hTR with ⟨q, -⟩ | ⟨q, -⟩ | ⟨q, -⟩ | ⟨-, q⟩ | ⟨q, -⟩
        · exact absurd q (by omega)
        · exact absurd q (by omega)
        · exact absurd q (by omega)
        · exact q
        · exact absurd q (by omega)
      obtain rfl := c3 rfl
      refine Or.inr ⟨i, k, li, ki, go, co, lk, a, hh, hc, fp, nI p, nI b, nI 3, vc, nI b, 0, va, w, by omega, D, ?_, ?_⟩
      · rw [L_X9_readAll_23, if_pos (show nI 3 = 3 from rfl)]
      · rw [L_X12_text_20, if_pos rfl, if_pos rfl]
    · have nc3 : ¬ nI c = 3 := fun y => z3 ((nI_eq (b := 3) (by omega) (by omega)).mp y)
      by_cases z4 : c = 4
      · subst z4
        obtain ⟨rfl, rfl⟩ : fl = 1 ∧ w = nI p := by
          rcases hTR with ⟨q, -⟩ | ⟨q, -⟩ | ⟨q, -⟩ | ⟨q, -⟩ | ⟨-, q⟩
          · exact absurd q (by omega)
          · exact absurd q (by omega)
          · exact absurd q (by omega)
          · exact absurd q (by omega)
          · exact q
        refine Or.inl ⟨1, p, (nI p, nI b, nI 4, vc, nI k.hs, nI k.cm, v1.2.2, co, go, ki, lk, li), (nI i, nI k.hs, nI k.cm, hh, hc, nI b, nI p, so, va, 1, nI p, a), by omega, by omega, by omega, ?_, ?_, rfl, rfl⟩
        · have e : f_X9_readLine 0 fp (nI p) (nI b) (nI 4) vc (nI k.hs) (nI k.cm) co go ki lk li (nI n) bt = some (0, nI 1, nI p, nI p, nI b, nI 4, vc, nI k.hs, nI k.cm, co, go, ki, lk, li) := by
            unfold f_X9_readLine
            rw [show f_X9_stands 0 fp (nI p) (nI 4) 0 = some (0, nI (fk 4), nI p) from st_bad (x := 0) (by omega) (by omega) (by omega), sb, if_pos rfl]
            rfl
          rw [L_X9_readAll_23, if_neg nc3, if_neg i160, e, sb, if_pos rfl]
        · rw [L_X12_text_20, if_neg n10]
      · have c2 : c ≤ 2 := by omega
        obtain ⟨rfl, ns⟩ : fl = 0 ∧ ¬ so = 0 := by
          rcases hTR with ⟨-, q, r⟩ | ⟨-, q, -, r⟩ | ⟨-, q, r⟩ | ⟨q, -⟩ | ⟨q, -⟩
          · exact ⟨r, by rw [q]; decide⟩
          · exact ⟨r, by rw [q]; decide⟩
          · exact ⟨r, by rw [q]; decide⟩
          · exact absurd q (by omega)
          · exact absurd q (by omega)
        rcases l_sim h D pb bn c2 hTR fp vc with ⟨g0, p0, r, rm, g1, g2, g3, e1, e2, e3, e4⟩ | ⟨k', li', ki', go', co', lk', a', hh', hc', q1, q2, q3, q4, b1, p2, b2, c5, v2, so2, va2, f2, w2, D', ks, e1, e2, m1, m2, m3, m4, m5, m6⟩
        · obtain ⟨g, rfl⟩ : ∃ g', g = g' + 1 := ⟨g - 1, by omega⟩
          refine Or.inl ⟨g0, p0, (r.1, r.2.1, r.2.2.1, r.2.2.2.1, r.2.2.2.2.1, r.2.2.2.2.2.1, v1.2.2, r.2.2.2.2.2.2.1, r.2.2.2.2.2.2.2.1, r.2.2.2.2.2.2.2.2.1, r.2.2.2.2.2.2.2.2.2.1, r.2.2.2.2.2.2.2.2.2.2), (nI i + 1, rm), g1, g2, g3, ?_, ?_, e3, e4⟩
          · rw [L_X9_readAll_23, if_neg nc3, if_neg i160, e1, sb, if_pos rfl]
          · rw [L_X12_text_20, if_pos rfl, if_neg ns, e2, sb, L_X12_text_20, if_neg (by rw [e3]; exact (fz ⟨g1, g2⟩).1)]
        · obtain ⟨vc2, t1, -⟩ := m5 q2 q3 q4
          have D1 := D'.1
          have x1 : L_X9_readAll_23 (nI n) bt v1 (f + 1) (nI i) 0 fp (nI p) (nI b) (nI c) vc (nI k.hs) (nI k.cm) co go ki lk li = L_X9_readAll_23 (nI n) bt v1 f (nI (i + 1)) 0 q1 (nI p2) (nI b2) (nI c5) vc2 (nI k'.hs) (nI k'.cm) co' go' ki' lk' li' := by
            rw [L_X9_readAll_23, if_neg nc3, if_neg i160, e1, sb, if_neg n10]
            dsimp only
            rw [t1, sb, nI_1]
          have x2 : L_X12_text_20 (nI n) tp (g + 1) (nI i) (nI k.hs) (nI k.cm) hh hc (nI b) (nI p) so va 0 w a = L_X12_text_20 (nI n) tp g (nI (i + 1)) (nI k'.hs) (nI k'.cm) hh' hc' (nI b2) (nI p2) so2 va2 f2 w2 a' := by
            rw [L_X12_text_20, if_pos rfl, if_neg ns, e2, sb, nI_1]
          rw [x1, x2]
          exact ih (i + 1) f g p2 b2 c5 v2 k' li' ki' go' co' lk' a' hh' hc' so2 va2 f2 w2 q1 vc2 (by omega) (by omega) (by omega) (by omega) D' m1 m2 m3 m4 m6
end
/-! whether it names only what there is -/
theorem al_ok {α : Type} {L : Nat → Int32 → Option (α ⊕ Unit)} {r : α} {P : Nat → Prop} {e : Nat} (h0 : ∀ f, L (f + 1) (nI e) = some (.inr ())) (h1 : ∀ f i, i < e → P i → L (f + 1) (nI i) = L f (nI (i + 1))) (h2 : ∀ f i, i < e → ¬ P i → L (f + 1) (nI i) = some (.inl r)) : ∀ (d i f : Nat), i + d = e → d < f → (L f (nI i) = some (.inr ()) ∧ ∀ h, i ≤ h → h < e → P h) ∨ (L f (nI i) = some (.inl r) ∧ ∃ h, h < e ∧ ¬ P h) := by
  intro d
  induction d with
  | zero =>
    intro i f hi hf
    obtain ⟨f, rfl⟩ : ∃ f', f = f' + 1 := ⟨f - 1, by omega⟩
    obtain rfl : i = e := by omega
    exact Or.inl ⟨h0 f, fun h a b => by omega⟩
  | succ d ih =>
    intro i f hi hf
    obtain ⟨f, rfl⟩ : ∃ f', f = f' + 1 := ⟨f - 1, by omega⟩
    by_cases q : P i
    · rw [h1 f i (by omega) q]
      rcases ih (i + 1) f (by omega) (by omega) with ⟨x1, x2⟩ | x
      · refine Or.inl ⟨x1, fun h a b => ?_⟩
        by_cases y : h = i
        · rw [y]; exact q
        · exact x2 h (by omega) b
      · exact Or.inr x
    · exact Or.inr ⟨h2 f i (by omega) q, i, by omega, q⟩
theorem ls_sh : ∀ l, l < 64 → ∀ m, m < 7 → ((nI l >>> (nI m &&& 31)) = 0 ↔ l < 2 ^ m) := by decide +kernel
theorem e_names {li ki go co lk a : Nat → Int32} {hh hc : Int32} {k : Ka} (D : DR li ki go co lk a hh hc k) : (f_X1_namesOnlyWhatThereIs (nI k.hs) (nI k.cm) go li = some 1 ∧ ¬ nI k.hs ≤ hh ∧ ¬ nI k.cm ≤ hc ∧ (∀ h, h < k.hs → k.ls h < 2 ^ k.cm) ∧ ∀ c, c < k.cm → k.go c < k.hs ∨ k.go c = 9) ∨ (f_X1_namesOnlyWhatThereIs (nI k.hs) (nI k.cm) go li = some 0 ∧ (nI k.hs ≤ hh ∨ nI k.cm ≤ hc)) := by
  obtain ⟨⟨d1, d2, d3⟩, d4, d5, d6, d7, d8, d9⟩ := D
  have a1 := al_ok (L := L_X1_namesOnlyWhatThereIs_2 (nI k.hs) (nI k.cm) li) (r := 0) (P := fun h => k.ls h < 2 ^ k.cm) (e := k.hs)
    (fun f => by rw [L_X1_namesOnlyWhatThereIs_2, if_pos (Int32.le_refl _)])
    (fun f i hi q => by rw [L_X1_namesOnlyWhatThereIs_2, if_neg (nI_ge hi (by omega)), if_pos (inb_nI (by omega) (by omega)), ix_nI (by omega), (d4 i hi).2.1, if_pos ((ls_sh _ (d4 i hi).1 _ (by omega)).mpr q), nI_1])
    (fun f i hi q => by rw [L_X1_namesOnlyWhatThereIs_2, if_neg (nI_ge hi (by omega)), if_pos (inb_nI (by omega) (by omega)), ix_nI (by omega), (d4 i hi).2.1, if_neg (fun z => q ((ls_sh _ (d4 i hi).1 _ (by omega)).mp z))])
    k.hs 0 400 (by omega) (by omega)
  have a2 := al_ok (L := L_X1_namesOnlyWhatThereIs_34 (nI k.hs) (nI k.cm) go) (r := 0) (P := fun c => k.go c < k.hs ∨ k.go c = 9) (e := k.cm)
    (fun f => by rw [L_X1_namesOnlyWhatThereIs_34, if_pos (Int32.le_refl _)])
    (fun f i hi q => by rw [L_X1_namesOnlyWhatThereIs_34, if_neg (nI_ge hi (by omega)), if_pos (inb_nI (by omega) (by omega)), ix_nI (by omega), (d5 i hi).2.1.2.1, nd_ok d1 q, sb, if_pos rfl, nI_1])
    (fun f i hi q => by
      have g9 := (d5 i hi).1.2.1
      rw [L_X1_namesOnlyWhatThereIs_34, if_neg (nI_ge hi (by omega)), if_pos (inb_nI (by omega) (by omega)), ix_nI (by omega), (d5 i hi).2.1.2.1, nd_bad d1 ⟨fun z => q (Or.inr ((nI_eq (b := 9) (by omega) (by omega)).mp z)), Or.inr (nI_le (by omega) (by omega))⟩, sb, if_neg n10])
    k.cm 0 400 (by omega) (by omega)
  have nlt : ∀ {x y : Int32}, ¬ x < y → y ≤ x := fun z => Int32.not_lt.mp z
  rcases a1 with ⟨x1, x2⟩ | ⟨x1, h, hh', x2⟩
  · have x1 : L_X1_namesOnlyWhatThereIs_2 (nI k.hs) (nI k.cm) li 400 0 = some (.inr ()) := x1
    rcases a2 with ⟨y1, y2⟩ | ⟨y1, c, hc', y2⟩
    · have y1 : L_X1_namesOnlyWhatThereIs_34 (nI k.hs) (nI k.cm) go 400 0 = some (.inr ()) := y1
      refine Or.inl ⟨?_, ?_, ?_, fun h hh => x2 h (by omega) hh, fun c hc => y2 c (by omega) hc⟩
      · unfold f_X1_namesOnlyWhatThereIs
        rw [x1, sb]
        simp only [sel]
        rw [y1, sb]
      · refine Int32.not_le.mpr ((d8 _ (by omega)).mpr fun c hc q => ?_)
        have := y2 c (by omega) hc
        omega
      · exact Int32.not_le.mpr ((d9 _ (by omega)).mpr fun h hh => x2 h (by omega) hh)
    · have y1 : L_X1_namesOnlyWhatThereIs_34 (nI k.hs) (nI k.cm) go 400 0 = some (.inl 0) := y1
      refine Or.inr ⟨?_, Or.inl (nlt fun z => ?_)⟩
      · unfold f_X1_namesOnlyWhatThereIs
        rw [x1, sb]
        simp only [sel]
        rw [y1, sb]
      · have q1 := (d8 _ (by omega)).mp z c hc'
        have q2 := (d5 c hc').1.2.1
        apply y2
        omega
  · have x1 : L_X1_namesOnlyWhatThereIs_2 (nI k.hs) (nI k.cm) li 400 0 = some (.inl 0) := x1
    refine Or.inr ⟨?_, Or.inr (nlt fun z => x2 ((d9 _ (by omega)).mp z h hh'))⟩
    unfold f_X1_namesOnlyWhatThereIs
    rw [x1, sb]
    rfl
