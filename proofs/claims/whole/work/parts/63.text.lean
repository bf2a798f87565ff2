/-! the text, on both sides -/
theorem l_tx (a b : Int32) : L_X11_text_44 400 0 a b = some (0, 0) := by
  rw [L_X11_text_44, if_neg (by decide), if_pos rfl, L_X11_text_44, if_neg (by decide), if_neg (by decide), if_pos (by decide), L_X11_text_44, if_pos (by decide)]
theorem m4_lt : ∀ m, m < 7 → (-4 : Int32) < nI m := by decide +kernel
theorem m10_lt : ∀ p, p ≤ 160 → (-10 - nI p : Int32) < 0 := by decide +kernel
def k_no : Ka := ((0, 0, 0), fun _ => 0, fun _ => 0, fun _ => 0, fun _ => 0, fun _ _ => 0)
theorem DR_no {li ki go co lk a : Nat → Int32} (h : ∀ j, j < 66 → a j = 0) : DR li ki go co lk a (-4) (-4) k_no :=
  ⟨⟨Nat.zero_le _, Nat.zero_le _, rfl⟩, fun h hh => absurd hh (Nat.not_lt_zero h), fun c hc => absurd hc (Nat.not_lt_zero c), fun _ _ c hc => absurd hc (Nat.not_lt_zero c), ⟨h 46 (by omega), h 47 (by omega)⟩, fun m hm => ⟨fun _ c hc => absurd hc (Nat.not_lt_zero c), fun _ => m4_lt m (by omega)⟩, fun m hm => ⟨fun _ c hc => absurd hc (Nat.not_lt_zero c), fun _ => m4_lt m (by omega)⟩⟩
theorem x_sim {n : Nat} {bt tp : Nat → Int32} {T : Nat → Nat} (h : TP n bt tp T) (f0 fp pl bh so0 va0 dh0 dc0 de0 : Int32) (co go ki lk li : Nat → Int32) (H C d1 d2 d3 d4 ps bg so va f9 w : Int32) (dr kp st : Nat → Int32) :
    (∃ (g0 p0 : Nat) (r : Int32 × Int32 × Int32 × Int32 × Int32 × Int32 × Int32 × (Nat → Int32) × (Nat → Int32) × (Nat → Int32) × (Nat → Int32) × (Nat → Int32)) (q1 q2 q3 q4 q5 q6 q7 q8 : Int32) (q9 : Nat → Int32), p0 ≤ n ∧ f_X9_readAll f0 fp pl bh so0 va0 dh0 dc0 de0 co go ki lk li (nI n) bt = some (-10 - nI p0, nI g0, nI p0, r) ∧ f_X12_text H C d1 d2 d3 d4 (nI n) ps bg so va f9 w dr kp st tp = some (-10 - nI p0, H, C, q1, q2, q3, q4, 0, q5, q6, q7, q8, nI g0, nI p0, q9, kp, st)) ∨
    (∃ (i : Nat) (k : Ka) (li' ki' go' co' lk' a st' : Nat → Int32) (hh hc q1 q2 q3 q4 q5 r1 r2 r3 r4 r5 : Int32), i ≤ 10 ∧ DR li' ki' go' co' lk' a hh hc k ∧ (∀ h, h < k.hs → k.ls h < 2 ^ k.cm) ∧ (∀ c, c < k.cm → k.go c < k.hs ∨ k.go c = 9) ∧ f_X9_readAll f0 fp pl bh so0 va0 dh0 dc0 de0 co go ki lk li (nI n) bt = some (nI i, 0, q1, q2, q3, q4, q5, nI k.hs, nI k.cm, 0, co', go', ki', lk', li') ∧ f_X12_text H C d1 d2 d3 d4 (nI n) ps bg so va f9 w dr kp st tp = some (nI i, nI k.hs, nI k.cm, nI k.hs, nI k.cm, hh, hc, 0, r1, r2, r3, r4, 0, r5, a, upd (upd kp 0 0) 1 0, st') ∧ ∀ j, j < 66 → st' j = a j) := by
  obtain ⟨b0, z1, z2⟩ := e_fd (a := d1) (b := d2) (c := d3) (d := d4) (r := dr)
  obtain ⟨p, b, c, v, -, m2, m3, m4, m5, -, m7, m8⟩ := tok h (pos := 0) (Nat.zero_le n)
  obtain ⟨vc, t1, -⟩ := m7 pl so0 va0
  obtain ⟨so1, va1, f1, w1, t2, t3⟩ := m8 bg so va w
  have t1 : f_X9_readToken pl 0 so0 va0 (nI n) bt = some (nI p, nI b, nI c, vc) := t1
  have t2 : f_X12_takes (nI n) 0 bg so va 0 w tp = some (nI b, nI p, so1, va1, f1, w1) := t2
  have A := a_sim h (v1 := (0, 0, 0)) 11 0 400 400 p b c v k_no li ki go co lk b0 (-4) (-4) so1 va1 f1 w1 fp vc (by omega) rfl (by omega) (by omega) (DR_no z2) m2 m3 m4 m5 t3
  rcases A with ⟨g0, p0, r, rm, g1, g2, g3, x1, x2, x3, x4⟩ | ⟨i, k, li', ki', go', co', lk', a, hh, hc, q1, q2, q3, q4, q5, r1, r2, r3, r4, i10, D, x1, x2⟩
  · have x1 : L_X9_readAll_23 (nI n) bt (0, 0, 0) 400 0 0 fp (nI p) (nI b) (nI c) vc 0 0 co go ki lk li = some (.inl (-10 - nI p0, nI g0, nI p0, r)) := x1
    have x2 : L_X12_text_20 (nI n) tp 400 0 0 0 (-4) (-4) (nI b) (nI p) so1 va1 f1 w1 b0 = some rm := x2
    refine Or.inl ⟨g0, p0, r, rm.2.1, rm.2.2.1, rm.2.2.2.1, rm.2.2.2.2.1, rm.2.2.2.2.2.1, rm.2.2.2.2.2.2.1, rm.2.2.2.2.2.2.2.1, rm.2.2.2.2.2.2.2.2.1, rm.2.2.2.2.2.2.2.2.2.2.2, g3, ?_, ?_⟩
    · unfold f_X9_readAll
      rw [show f_X1_clear dh0 dc0 de0 = some (0, 0, 0) from rfl, sb, t1, sb]
      dsimp only
      rw [x1, sb]
      rfl
    · unfold f_X12_text
      rw [z1, sb, t2, sb]
      dsimp only
      rw [x2, sb, x3, x4, if_neg (fz ⟨g1, g2⟩).1, sb, if_neg (fz ⟨g1, g2⟩).2]
  · have x1 : L_X9_readAll_23 (nI n) bt (0, 0, 0) 400 0 0 fp (nI p) (nI b) (nI c) vc 0 0 co go ki lk li = some (.inr (nI i, 0, q1, q2, q3, q4, q5, nI k.hs, nI k.cm, co', go', ki', lk', li')) := x1
    have x2 : L_X12_text_20 (nI n) tp 400 0 0 0 (-4) (-4) (nI b) (nI p) so1 va1 f1 w1 b0 = some (nI i, nI k.hs, nI k.cm, hh, hc, r1, nI n, r2, r3, 0, r4, a) := x2
    rcases e_names D with ⟨y1, y2, y3, y4, y5⟩ | ⟨y1, y2⟩
    · obtain ⟨st', s1, s2, -⟩ := e_kd (a := H) (b := C) (c := nI k.hs) (d := nI k.cm) (r := a) (k := kp) (st := st)
      refine Or.inr ⟨i, k, li', ki', go', co', lk', a, st', hh, hc, q1, q2, q3, q4, q5, r1, nI n, r2, r3, r4, i10, D, y4, y5, ?_, ?_, s2⟩
      · unfold f_X9_readAll
        rw [show f_X1_clear dh0 dc0 de0 = some (0, 0, 0) from rfl, sb, t1, sb]
        dsimp only
        rw [x1, sb]
        simp only [sel]
        rw [y1, sb, if_neg n10]
      · unfold f_X12_text
        rw [z1, sb, t2, sb]
        dsimp only
        rw [x2, sb]
        dsimp only
        rw [if_pos rfl, if_neg y2, if_neg y3, sb, ml_1, sb, sb]
        dsimp only
        rw [if_pos (by decide), s1, sb]
    · refine Or.inl ⟨6, n, (q2, q3, q4, q5, nI k.hs, nI k.cm, 0, co', go', ki', lk', li'), nI k.hs, nI k.cm, hh, hc, r1, nI n, r2, r3, a, Nat.le_refl n, ?_, ?_⟩
      · unfold f_X9_readAll
        rw [show f_X1_clear dh0 dc0 de0 = some (0, 0, 0) from rfl, sb, t1, sb]
        dsimp only
        rw [x1, sb]
        simp only [sel]
        rw [y1, sb, if_pos rfl]
        rfl
      · have e : (if nI k.hs ≤ hh then some 0 else if nI k.cm ≤ hc then some 0 else some 1 : Option Int32) = some 0 := by
          rcases y2 with y2 | y2
          · rw [if_pos y2]
          · rw [if_pos y2, ite_self]
        unfold f_X12_text
        rw [z1, sb, t2, sb]
        dsimp only
        rw [x2, sb]
        dsimp only
        rw [if_pos rfl, e, sb, ml_0, sb, sb]
        dsimp only
        rw [if_neg (by decide)]
        rfl
set_option maxHeartbeats 4000000 in
set_option maxRecDepth 100000 in
theorem p_text (s : SX) (t : TM) (hI : Inv s t) : ∃ (v : Int32 × Int32 × Int32 × Int32 × Int32 × Int32 × (Nat → Int32) × (Nat → Int32) × (Nat → Int32) × (Nat → Int32) × (Nat → Int32) × Int32 × Int32 × Int32 × Int32 × Int32 × Int32 × Int32 × Int32 × Int32 × (Nat → Int32) × (Nat → Int32) × (Nat → Int32) × (Nat → Int32) × (Nat → Int32) × Int32 × Int32) (w : Int32 × Int32 × Int32 × Int32 × Int32 × Int32 × Int32 × Int32 × Int32 × Int32 × Int32 × Int32 × Int32 × Int32 × (Nat → Int32) × (Nat → Int32) × (Nat → Int32)), f_X11_text s.im0.1 s.im1.1 s.now.1 s.now.2.1 s.now.2.2.1 s.now.2.2.2.2.2.2.1 s.now.2.2.2.2.2.1 s.now.2.2.2.2.1 s.now.2.2.2.2.2.2.2 s.now.2.2.2.1 s.rdr.1 s.rdr.2.1 s.rdr.2.2.1 s.rdr.2.2.2.1 s.rdr.2.2.2.2.1 s.rdr.2.2.2.2.2 s.drf.1 s.drf.2.1 s.drf.2.2.1 s.drf.2.2.2.2.2.2.1 s.drf.2.2.2.2.2.1 s.drf.2.2.2.2.1 s.drf.2.2.2.2.2.2.2 s.drf.2.2.2.1 s.seen.1 s.tape.1 s.tape.2 = some v ∧ f_X12_text t.houses t.comers t.dHouses t.dComers t.highestHouse t.highestComer t.taped t.pos t.begun t.sort t.value t.fault t.wrongAt t.draft t.isKept t.st t.tape = some w ∧ v.1 = w.1 ∧ Inv (s.torn, (v.2.2.2.2.2.2.2.2.2.2.2.2.2.2.2.2.2.2.2.2.2.2.2.2.2.2, s.tape.2), (v.2.2.2.2.2.2.2.2.2.2.2.1, v.2.2.2.2.2.2.2.2.2.2.2.2.1, v.2.2.2.2.2.2.2.2.2.2.2.2.2.1, v.2.2.2.2.2.2.2.2.2.2.2.2.2.2.1, v.2.2.2.2.2.2.2.2.2.2.2.2.2.2.2.1, v.2.2.2.2.2.2.2.2.2.2.2.2.2.2.2.2.1), (v.2.2.2.2.2.2.2.2.2.2.2.2.2.2.2.2.2.1, v.2.2.2.2.2.2.2.2.2.2.2.2.2.2.2.2.2.2.1, v.2.2.2.2.2.2.2.2.2.2.2.2.2.2.2.2.2.2.2.1, v.2.2.2.2.2.2.2.2.2.2.2.2.2.2.2.2.2.2.2.2.2.2.2.2.1, v.2.2.2.2.2.2.2.2.2.2.2.2.2.2.2.2.2.2.2.2.2.2.1, v.2.2.2.2.2.2.2.2.2.2.2.2.2.2.2.2.2.2.2.2.2.1, v.2.2.2.2.2.2.2.2.2.2.2.2.2.2.2.2.2.2.2.2.1, v.2.2.2.2.2.2.2.2.2.2.2.2.2.2.2.2.2.2.2.2.2.2.2.1), (v.2.2.2.1, v.2.2.2.2.1, v.2.2.2.2.2.1, v.2.2.2.2.2.2.2.2.2.2.1, v.2.2.2.2.2.2.2.2.1, v.2.2.2.2.2.2.2.1, v.2.2.2.2.2.2.1, v.2.2.2.2.2.2.2.2.2.1), (v.2.2.2.2.2.2.2.2.2.2.2.2.2.2.2.2.2.2.2.2.2.2.2.2.2.1, s.seen.2.1, s.seen.2.2.1, s.seen.2.2.2), s.tri, s.tcy, s.evg, s.adv, s.gss, (v.2.1, s.im0.2.1, s.im0.2.2.1, s.im0.2.2.2.1, s.im0.2.2.2.2.1, s.im0.2.2.2.2.2.1, s.im0.2.2.2.2.2.2.1, s.im0.2.2.2.2.2.2.2.1, s.im0.2.2.2.2.2.2.2.2.1, s.im0.2.2.2.2.2.2.2.2.2.1, s.im0.2.2.2.2.2.2.2.2.2.2.1, s.im0.2.2.2.2.2.2.2.2.2.2.2.1, s.im0.2.2.2.2.2.2.2.2.2.2.2.2), (v.2.2.1, s.im1.2.1, s.im1.2.2.1, s.im1.2.2.2.1, s.im1.2.2.2.2.1, s.im1.2.2.2.2.2.1, s.im1.2.2.2.2.2.2.1, s.im1.2.2.2.2.2.2.2.1, s.im1.2.2.2.2.2.2.2.2.1, s.im1.2.2.2.2.2.2.2.2.2.1, s.im1.2.2.2.2.2.2.2.2.2.2.1, s.im1.2.2.2.2.2.2.2.2.2.2.2.1, s.im1.2.2.2.2.2.2.2.2.2.2.2.2), s.sh0, s.sh1, s.sh2, s.sh3) ((w.2.2.2.2.2.2.2.2.2.2.2.2.2.2.2.2, t.now, w.2.2.2.2.2.2.2.2.2.2.2.2.2.2.2.1, w.2.1, w.2.2.1, w.2.2.2.2.2.2.2.2.2.2.2.2.2.2.1, w.2.2.2.1, w.2.2.2.2.1, w.2.2.2.2.2.1), (w.2.2.2.2.2.2.1, t.tape, w.2.2.2.2.2.2.2.1, w.2.2.2.2.2.2.2.2.1, w.2.2.2.2.2.2.2.2.2.1, w.2.2.2.2.2.2.2.2.2.2.1, w.2.2.2.2.2.2.2.2.2.2.2.1, w.2.2.2.2.2.2.2.2.2.2.2.2.1, w.2.2.2.2.2.2.2.2.2.2.2.2.2.1), t.m2, t.m3) := by
  obtain ⟨hm, hs, ⟨m, m160, e1, e2, ht⟩, hf, hto⟩ := id hI
  have hT : TP m s.tape.2 t.tape (fun i => ix (t.tape i)) := ⟨m160, fun i hi => by
    obtain ⟨x1, b, b1, x2⟩ := ht i hi
    have x3 : ix (t.tape i) = b := by rw [x2]; exact ix_nI (by omega)
    dsimp only
    rw [x3]
    exact ⟨x1.trans x2, x2, b1⟩⟩
  rcases x_sim hT s.rdr.1 s.rdr.2.1 s.rdr.2.2.1 s.rdr.2.2.2.1 s.rdr.2.2.2.2.1 s.rdr.2.2.2.2.2 s.drf.1 s.drf.2.1 s.drf.2.2.1 s.drf.2.2.2.2.2.2.1 s.drf.2.2.2.2.2.1 s.drf.2.2.2.2.1 s.drf.2.2.2.2.2.2.2 s.drf.2.2.2.1 t.houses t.comers t.dHouses t.dComers t.highestHouse t.highestComer t.pos t.begun t.sort t.value t.fault t.wrongAt t.draft t.isKept t.st with ⟨g0, p0, r, q1, q2, q3, q4, q5, q6, q7, q8, q9, p1, y1, y2⟩ | ⟨i, k, li', ki', go', co', lk', a, st', hh, hc, q1, q2, q3, q4, q5, r1, r2, r3, r4, r5, i10, D, n1, n2, y1, y2, y3⟩
  · have c1 : f_X11_text s.im0.1 s.im1.1 s.now.1 s.now.2.1 s.now.2.2.1 s.now.2.2.2.2.2.2.1 s.now.2.2.2.2.2.1 s.now.2.2.2.2.1 s.now.2.2.2.2.2.2.2 s.now.2.2.2.1 s.rdr.1 s.rdr.2.1 s.rdr.2.2.1 s.rdr.2.2.2.1 s.rdr.2.2.2.2.1 s.rdr.2.2.2.2.2 s.drf.1 s.drf.2.1 s.drf.2.2.1 s.drf.2.2.2.2.2.2.1 s.drf.2.2.2.2.2.1 s.drf.2.2.2.2.1 s.drf.2.2.2.2.2.2.2 s.drf.2.2.2.1 s.seen.1 s.tape.1 s.tape.2 = some (-10 - nI p0, s.im0.1, s.im1.1, s.now.1, s.now.2.1, s.now.2.2.1, s.now.2.2.2.2.2.2.1, s.now.2.2.2.2.2.1, s.now.2.2.2.2.1, s.now.2.2.2.2.2.2.2, s.now.2.2.2.1, nI g0, nI p0, r.1, r.2.1, r.2.2.1, r.2.2.2.1, r.2.2.2.2.1, r.2.2.2.2.2.1, r.2.2.2.2.2.2.1, r.2.2.2.2.2.2.2.1, r.2.2.2.2.2.2.2.2.1, r.2.2.2.2.2.2.2.2.2.1, r.2.2.2.2.2.2.2.2.2.2.1, r.2.2.2.2.2.2.2.2.2.2.2, s.seen.1, 0) := by
      unfold f_X11_text
      rw [e1, y1, sb]
      dsimp only
      rw [if_pos (m10_lt p0 (by omega))]
    have c2 : f_X12_text t.houses t.comers t.dHouses t.dComers t.highestHouse t.highestComer t.taped t.pos t.begun t.sort t.value t.fault t.wrongAt t.draft t.isKept t.st t.tape = some (-10 - nI p0, t.houses, t.comers, q1, q2, q3, q4, 0, q5, q6, q7, q8, nI g0, nI p0, q9, t.isKept, t.st) := by
      rw [e2]
      exact y2
    exact ⟨_, _, c1, c2, rfl, hm, hs, ⟨0, by omega, rfl, rfl, fun i hi => absurd hi (Nat.not_lt_zero i)⟩, rfl, hto⟩
  · have c1 : f_X11_text s.im0.1 s.im1.1 s.now.1 s.now.2.1 s.now.2.2.1 s.now.2.2.2.2.2.2.1 s.now.2.2.2.2.2.1 s.now.2.2.2.2.1 s.now.2.2.2.2.2.2.2 s.now.2.2.2.1 s.rdr.1 s.rdr.2.1 s.rdr.2.2.1 s.rdr.2.2.2.1 s.rdr.2.2.2.2.1 s.rdr.2.2.2.2.2 s.drf.1 s.drf.2.1 s.drf.2.2.1 s.drf.2.2.2.2.2.2.1 s.drf.2.2.2.2.2.1 s.drf.2.2.2.2.1 s.drf.2.2.2.2.2.2.2 s.drf.2.2.2.1 s.seen.1 s.tape.1 s.tape.2 = some (nI i, 0, 0, nI k.hs, nI k.cm, 0, co', go', ki', lk', li', 0, q1, q2, q3, q4, q5, nI k.hs, nI k.cm, 0, co', go', ki', lk', li', 0, 0) := by
      unfold f_X11_text
      rw [e1, y1, sb]
      dsimp only
      rw [if_neg (nI_pos (by omega)), show ∀ a1 a2 a3 b1 b2 b3 b4 b5 c1 c2 c3 d1 d2 d3 d4 d5, f_X1_copyFrom a1 a2 a3 b1 b2 b3 b4 b5 c1 c2 c3 d1 d2 d3 d4 d5 = some (c1, c2, c3, d1, d2, d3, d4, d5) from fun _ _ _ _ _ _ _ _ _ _ _ _ _ _ _ _ => rfl, sb, l_tx, sb]
    have c2 : f_X12_text t.houses t.comers t.dHouses t.dComers t.highestHouse t.highestComer t.taped t.pos t.begun t.sort t.value t.fault t.wrongAt t.draft t.isKept t.st t.tape = some (nI i, nI k.hs, nI k.cm, nI k.hs, nI k.cm, hh, hc, 0, r1, r2, r3, r4, 0, r5, a, upd (upd t.isKept 0 0) 1 0, st') := by
      rw [e2]
      exact y2
    obtain ⟨⟨d1, d2, d3⟩, d4, d5, d6, d7, d8, d9⟩ := D
    have ev : nI k.ev = 0 := by rw [d3]; rfl
    refine ⟨_, _, c1, c2, rfl, ⟨k, (0, fun _ => 0, fun _ => 0, fun _ => 0), ⟨⟨d1, d2, by omega, n1, fun c hc => ⟨(d5 c hc).1.1, n2 c hc, (d5 c hc).1.2.2⟩, fun h hh c hc => (d6 h (by omega) c hc).1⟩, by omega, ⟨rfl, rfl, ev.symm, fun h hh => (d4 h hh).2.1, fun c hc => (d5 c hc).2.1, fun h hh c hc => (d6 h (by omega) c hc).2.1⟩, ⟨fun h hh => ?_, fun c hc => ?_, fun h hh c hc => ?_, ?_⟩, ⟨Nat.zero_le _, fun i hi => absurd hi (Nat.not_lt_zero i)⟩, ⟨rfl, fun i hi => absurd hi (Nat.not_lt_zero i)⟩, ⟨?_, fun i hi => absurd hi (Nat.not_lt_zero i)⟩⟩, rfl, rfl, Or.inl ⟨rfl, rfl⟩, Or.inl ⟨rfl, rfl⟩⟩, hs, ⟨0, by omega, rfl, rfl, fun i hi => absurd hi (Nat.not_lt_zero i)⟩, rfl, hto⟩
    · show st' (0 + h) = _
      rw [Nat.zero_add, y3 h (by omega)]
      exact (d4 h hh).2.2
    · show st' (0 + 4 + 3 * c) = _ ∧ st' (0 + 5 + 3 * c) = _ ∧ st' (0 + 6 + 3 * c) = _
      rw [show 0 + 4 + 3 * c = 4 + 3 * c by omega, show 0 + 5 + 3 * c = 4 + 3 * c + 1 by omega, show 0 + 6 + 3 * c = 4 + 3 * c + 2 by omega, y3 _ (by omega), y3 _ (by omega), y3 _ (by omega)]
      exact (d5 c hc).2.2
    · show st' (0 + 22 + 6 * h + c) = _
      rw [show 0 + 22 + 6 * h + c = 22 + 6 * h + c by omega, y3 _ (by omega)]
      exact (d6 h (by omega) c hc).2.2
    · show st' (0 + 46) = nI k.ev
      rw [y3 _ (by omega), ev]
      exact d7.1
    · show st' (0 + 47) = nI 0
      rw [y3 _ (by omega)]
      exact d7.2
