theorem l_fd {d : Nat → Int32} : ∃ b : Nat → Int32, L_X12_firstDraft_2 400 0 d = some b ∧ ∀ j, j < 66 → b j = 0 := by
  have st1 : ∀ f c (s : Nat → Int32), c < 66 → (∀ i, i < c → s i = 0) → ∃ s' : Nat → Int32, (∀ i, i < c + 1 → s' i = 0) ∧ L_X12_firstDraft_2 (f + 1) (nI c) s = L_X12_firstDraft_2 f (nI (c + 1)) s' := fun f c s hc h => by
    refine ⟨upd s c 0, fun i hi => ?_, ?_⟩
    · rw [upd_at]
      by_cases e : i = c
      · rw [if_pos e]
      · rw [if_neg e]; exact h i (by omega)
    · rw [L_X12_firstDraft_2, if_neg (show ¬ (66 : Int32) ≤ nI c from nI_ge (b := 66) hc (by omega)), if_pos (inb_nI (by omega) (by omega)), ix_nI (by omega), nI_1]
  exact lpP (L := fun f s c => L_X12_firstDraft_2 f c s) (n := 66) (P := fun c s => ∀ i, i < c → s i = 0) (Q := fun b => ∀ i, i < 66 → b i = 0) (by omega) (fun f s h => ⟨s, by show L_X12_firstDraft_2 (f + 1) (nI 66) s = _; rw [L_X12_firstDraft_2, if_pos (show (66 : Int32) ≤ nI 66 by decide)], h⟩) st1 (s0 := d) (fun i hi => absurd hi (Nat.not_lt_zero i))
theorem l_kd {v y : Nat → Int32} : ∃ b : Nat → Int32, L_X12_keepDraft_2 v 400 0 y = some b ∧ (∀ j, j < 66 → b j = v j) ∧ ∀ j, 66 ≤ j → b j = y j := by
  have st1 : ∀ f c (s : Nat → Int32), c < 66 → ((∀ i, i < c → s i = v i) ∧ ∀ j, 66 ≤ j → s j = y j) → ∃ s' : Nat → Int32, ((∀ i, i < c + 1 → s' i = v i) ∧ ∀ j, 66 ≤ j → s' j = y j) ∧ L_X12_keepDraft_2 v (f + 1) (nI c) s = L_X12_keepDraft_2 v f (nI (c + 1)) s' := fun f c s hc h => by
    refine ⟨upd s c (v c), ⟨fun i hi => ?_, fun j hj => (upd_ne (by omega)).trans (h.2 j hj)⟩, ?_⟩
    · rw [upd_at]
      by_cases e : i = c
      · rw [if_pos e, e]
      · rw [if_neg e]; exact h.1 i (by omega)
    · rw [L_X12_keepDraft_2, if_neg (show ¬ (66 : Int32) ≤ nI c from nI_ge (b := 66) hc (by omega)), if_pos (inb_nI (by omega) (by omega)), if_pos (inb_nI (by omega) (by omega)), ix_nI (by omega), nI_1]
  exact lpP (L := fun f s c => L_X12_keepDraft_2 v f c s) (n := 66) (P := fun c s => (∀ i, i < c → s i = v i) ∧ ∀ j, 66 ≤ j → s j = y j) (Q := fun b => (∀ i, i < 66 → b i = v i) ∧ ∀ j, 66 ≤ j → b j = y j) (by omega) (fun f s h => ⟨s, by show L_X12_keepDraft_2 v (f + 1) (nI 66) s = _; rw [L_X12_keepDraft_2, if_pos (show (66 : Int32) ≤ nI 66 by decide)], h⟩) st1 (s0 := y) ⟨fun i hi => absurd hi (Nat.not_lt_zero i), fun _ _ => rfl⟩
theorem e_fd {a b c d : Int32} {r : Nat → Int32} : ∃ g : Nat → Int32, f_X12_firstDraft a b c d r = some (0, 0, -4, -4, g) ∧ ∀ j, j < 66 → g j = 0 := by
  obtain ⟨g, h1, h2⟩ := l_fd (d := r)
  refine ⟨g, ?_, h2⟩
  unfold f_X12_firstDraft; rw [h1, sb]
theorem e_kd {a b c d : Int32} {r k st : Nat → Int32} : ∃ g : Nat → Int32, f_X12_keepDraft a b c d r k st = some (c, d, upd (upd k 0 0) 1 0, g) ∧ (∀ j, j < 66 → g j = r j) ∧ ∀ j, 66 ≤ j → g j = st j := by
  obtain ⟨g, h1, h2⟩ := l_kd (v := r) (y := st)
  refine ⟨g, ?_, h2⟩
  unfold f_X12_keepDraft; rw [h1, sb, if_pos (by decide), if_pos (by decide)]; rfl
theorem q_firstDraft (a b c d : Int32) (r : Nat → Int32) : ∃ v, f_X12_firstDraft a b c d r = some v := by
  obtain ⟨g, h1, -⟩ := e_fd (a := a) (b := b) (c := c) (d := d) (r := r)
  exact ⟨_, h1⟩
theorem q_keepDraft (a b c d : Int32) (r k st : Nat → Int32) : ∃ v, f_X12_keepDraft a b c d r k st = some v := by
  obtain ⟨g, h1, -⟩ := e_kd (a := a) (b := b) (c := c) (d := d) (r := r) (k := k) (st := st)
  exact ⟨_, h1⟩
theorem p_init (v1 : Int32 × Int32 × Int32 × Int32 × (Nat → Int32)) (v2 : Int32 × Int32 × (Nat → Int32) × (Nat → Int32)) (hv1 : f_X12_firstDraft 0 0 0 0 (fun _ => 0) = some v1) (hv2 : f_X12_keepDraft 0 0 v1.1 v1.2.1 v1.2.2.2.2 (fun _ => 0) (fun _ => 0) = some v2) : Inv (0, (0, (fun _ => 0)), (0, 0, 0, 0, 3, 0), (0, 0, 0, (fun _ => 0), (fun _ => 0), (fun _ => 0), (fun _ => 0), (fun _ => 0)), (0, 0, 0, (fun _ => 0), (fun _ => 0), (fun _ => 0), (fun _ => 0), (fun _ => 0)), (0, (fun _ => 0), (fun _ => 0), (fun _ => 0)), (0, 0, (-4)), (0, 0, 0, (fun _ => 0), (fun _ => 0), (fun _ => 0), (fun _ => 0), (fun _ => 0)), (0, 0, (fun _ => 0), (fun _ => 0)), ((-4), 0), ((-4), 0, (fun _ => 0), (fun _ => 0), (fun _ => 0), (fun _ => 0)), (0, 0, 0, 0, (fun _ => 0), (fun _ => 0), (fun _ => 0), (fun _ => 0), (fun _ => 0), 0, (fun _ => 0), (fun _ => 0), (fun _ => 0)), (0, 0, 0, 0, (fun _ => 0), (fun _ => 0), (fun _ => 0), (fun _ => 0), (fun _ => 0), 0, (fun _ => 0), (fun _ => 0), (fun _ => 0)), (0, (-1), (fun _ => 0)), (0, (-1), (fun _ => 0)), (0, (-1), (fun _ => 0)), (0, (-1), (fun _ => 0))) (((v2.2.2.2), (fun _ => 0), (v2.2.2.1), v2.1, v2.2.1, (v1.2.2.2.2), v1.1, v1.2.1, v1.2.2.1), (v1.2.2.2.1, (fun _ => 0), 0, 0, 0, 0, 0, 0, 0), (0, (fun _ => 0), (fun _ => 0), 0, 0, 0, 0, 0, (fun _ => 0)), ((fun _ => 0), (upd (upd (upd (upd (fun _ => 0) (ix 0) ((-4))) (ix 1) ((-4))) (ix 2) ((-4))) (ix 3) ((-4))), (fun _ => 0), (fun _ => 0), 0, (fun _ => 0))) := by
  obtain ⟨g, h1, h2⟩ := e_fd (a := 0) (b := 0) (c := 0) (d := 0) (r := fun _ => 0)
  rw [h1] at hv1
  have e1 := Option.some.inj hv1
  subst e1
  obtain ⟨g2, h3, h4, -⟩ := e_kd (a := 0) (b := 0) (c := 0) (d := 0) (r := g) (k := fun _ => 0) (st := fun _ => 0)
  have hv2 : f_X12_keepDraft 0 0 0 0 g (fun _ => 0) (fun _ => 0) = some v2 := hv2
  rw [h3] at hv2
  have e2 := Option.some.inj hv2
  subst e2
  have z : ∀ j, j < 66 → g2 j = 0 := fun j hj => (h4 j hj).trans (h2 j hj)
  refine ⟨⟨((0, 0, 0), fun _ => 0, fun _ => 0, fun _ => 0, fun _ => 0, fun _ _ => 0), (0, fun _ => 0, fun _ => 0, fun _ => 0), ⟨⟨Nat.zero_le _, Nat.zero_le _, Nat.zero_le _, fun h hh => absurd hh (Nat.not_lt_zero h), fun h hh => absurd hh (Nat.not_lt_zero h), fun h hh => absurd hh (Nat.not_lt_zero h)⟩, Nat.zero_le _, ⟨rfl, rfl, rfl, fun h hh => absurd hh (Nat.not_lt_zero h), fun h hh => absurd hh (Nat.not_lt_zero h), fun h hh => absurd hh (Nat.not_lt_zero h)⟩, ⟨fun h hh => absurd hh (Nat.not_lt_zero h), fun h hh => absurd hh (Nat.not_lt_zero h), fun h hh => absurd hh (Nat.not_lt_zero h), z 46 (by omega)⟩, ⟨Nat.zero_le _, fun h hh => absurd hh (Nat.not_lt_zero h)⟩, ⟨rfl, fun h hh => absurd hh (Nat.not_lt_zero h)⟩, ⟨z 47 (by omega), fun h hh => absurd hh (Nat.not_lt_zero h)⟩⟩, rfl, rfl, Or.inl ⟨rfl, rfl⟩, Or.inl ⟨rfl, rfl⟩⟩, ⟨Or.inl ⟨rfl, rfl⟩, Or.inl ⟨rfl, rfl⟩, Or.inl ⟨rfl, rfl⟩, Or.inl ⟨rfl, rfl⟩⟩, ⟨0, Nat.zero_le _, rfl, rfl, fun h hh => absurd hh (Nat.not_lt_zero h)⟩, rfl, rfl⟩
/-! the drift's random numbers -/
theorem sh_a (x : Int32) : (iushr x 16 &&& 32767).toBitVec = (x.toBitVec >>> 16) &&& 32767#32 := rfl
theorem sh_b (x : Int32) : ((x >>> ((16 : Int32) &&& 31)) &&& 32767).toBitVec = (x.toBitVec.sshiftRight 16) &&& 32767#32 := rfl
theorem sh_c (b : BitVec 32) : (b.sshiftRight 16) &&& 32767#32 = (b >>> 16) &&& 32767#32 := by
  apply BitVec.eq_of_getLsbD_eq
  intro i hi
  rw [BitVec.getLsbD_and, BitVec.getLsbD_and]
  by_cases h : i < 15
  · rw [BitVec.getLsbD_sshiftRight, BitVec.getLsbD_ushiftRight]
    simp [show ¬ 32 ≤ i by omega, show 16 + i < 32 by omega]
  · have z : ∀ i, i < 32 → ¬ i < 15 → (32767#32).getLsbD i = false := by decide
    rw [z i hi h, Bool.and_false, Bool.and_false]
theorem rnd (x : Int32) : ∃ R, R < 32768 ∧ iushr x 16 &&& 32767 = nI R ∧ (x >>> ((16 : Int32) &&& 31)) &&& 32767 = nI R := by
  refine ⟨((x.toBitVec >>> 16) &&& 32767#32).toNat, ?_, ?_, ?_⟩
  · rw [BitVec.toNat_and]
    exact Nat.lt_of_le_of_lt Nat.and_le_right (by decide)
  · apply Int32.toBitVec_inj.mp
    rw [sh_a]
    show _ = BitVec.ofNat 32 _
    rw [BitVec.ofNat_toNat, BitVec.setWidth_eq]
  · apply Int32.toBitVec_inj.mp
    rw [sh_b, sh_c]
    show _ = BitVec.ofNat 32 _
    rw [BitVec.ofNat_toNat, BitVec.setWidth_eq]
theorem l_drift {k : Ka} {n : Nat} {li ki z : Nat → Int32} (hh0 : 0 < k.hs) (hc0 : 0 < k.cm) (hn : n ≤ 60) (h4 : k.hs ≤ 4) (h6 : k.cm ≤ 6) : ∀ (q i f g : Nat) (k2 : Ka) (sd ff y11 y12 : Int32) (d0 w0 e0 : Nat) (co go lk a bg by_ y13 y14 : Nat → Int32), i + q = n → q < f → q < g → kok k2 → k2.hs = k.hs → k2.cm = k.cm → k2.ev + q ≤ 2000 → relC (nI k.hs, nI k.cm, nI k2.ev, li, ki, go, co, lk) k2 → relM a 0 k2 → ∃ r u, L_X10_driftBy_30 (nI k.hs) (nI k.cm) ki li (nI n) f (nI d0) sd (nI i) (nI e0) (nI w0) ff (nI k2.ev) co go lk y11 y12 y13 y14 = some r ∧ L_X12_drift_52 (nI k.hs) (nI k.cm) (nI n) (0, z) g sd (nI i) (nI d0) (nI w0) bg by_ a = some u ∧ r.1 = u.1 ∧ r.2.2.1 = u.2.1 := by
  intro q
  induction q with
  | zero =>
    intro i f g k2 sd ff y11 y12 d0 w0 e0 co go lk a bg by_ y13 y14 e hf hg hk s1 s2 he hC hM
    obtain ⟨f, rfl⟩ : ∃ f', f = f' + 1 := ⟨f - 1, by omega⟩
    obtain ⟨g, rfl⟩ : ∃ g', g = g' + 1 := ⟨g - 1, by omega⟩
    rw [L_X10_driftBy_30, if_pos (nI_le (by omega) (by omega)), L_X12_drift_52, if_pos (nI_le (by omega) (by omega))]
    exact ⟨_, _, rfl, rfl, rfl, rfl⟩
  | succ q ih =>
    intro i f g k2 sd ff y11 y12 d0 w0 e0 co go lk a bg by_ y13 y14 e hf hg hk s1 s2 he hC hM
    obtain ⟨f, rfl⟩ : ∃ f', f = f' + 1 := ⟨f - 1, by omega⟩
    obtain ⟨g, rfl⟩ : ∃ g', g = g' + 1 := ⟨g - 1, by omega⟩
    obtain ⟨R, R1, R2, R3⟩ := rnd (sd * 1103515245 + 12345)
    have v1 : nI R - nI R / nI k.cm * nI k.cm = nI (R % k.cm) := pk_rem (by omega) hc0 (by omega)
    have v2 : nI R / 8 = nI (R / 8) := pk_div (d := 8) (by omega) (by omega) (by omega)
    have v3 : nI (R / 8) - nI (R / 8) / nI k.hs * nI k.hs = nI (R / 8 % k.hs) := pk_rem (by omega) hh0 (by omega)
    have v4 : nI R / 32 = nI (R / 32) := pk_div (d := 32) (by omega) (by omega) (by omega)
    have v5 : nI (R / 32) - nI (R / 32) / 7 * 7 = nI (R / 32 % 7) := pk_rem (d := 7) (by omega) (by omega) (by omega)
    have hcl : R % k.cm < k.cm := Nat.mod_lt _ hc0
    have hgl : R / 8 % k.hs < k.hs := Nat.mod_lt _ hh0
    have hml : R / 32 % 7 < 7 := Nat.mod_lt _ (by omega)
    have n1 : ¬ nI k.cm = 0 := nI_ne0 hc0 (by omega)
    have n2 : ¬ nI k.hs = 0 := nI_ne0 hh0 (by omega)
    generalize R % k.cm = C at *
    generalize R / 8 % k.hs = W at *
    generalize R / 32 % 7 = H at *
    have hk3 : kok (setCo (setGo k2 C W) C H) := kok_co (kok_go hk (Or.inl (by omega))) (by omega)
    have hC3 := relC_co (c := C) (v := H) (relC_go (c := C) (v := W) hC)
    have hM3 := relM_co (v := H) (kok_go (c := C) (v := W) hk (Or.inl (by omega))) (show C < k2.cm by omega) (relM_go (v := W) hk (show C < k2.cm by omega) hM)
    have gW : goI W = nI W := if_neg (by omega)
    rw [gW] at hM3
    obtain ⟨b', w', hrs', ops', lk', e1, -, e3⟩ := e_dinnersIn (n := 1) hk3 hC3 (by omega) (by show k2.ev + 1 ≤ 2000; omega) e0 w0 ff y11 y12 y13 y14
    dsimp only at e1 e3
    have e1 : f_X10_dinnersIn (nI e0) (nI w0) ff (nI k.hs) (nI k.cm) (nI k2.ev) (upd co C (nI H)) (upd go C (nI W)) ki lk li y11 y12 y13 y14 1 = _ := e1
    obtain ⟨bg1, by1, a1, h1, h2, h3, h4⟩ := e_goesEv (a := upd (upd a (0 + 5 + 3 * C) (nI W)) (0 + 6 + 3 * C) (nI H)) (bg := bg) (by_ := by_) (k := setCo (setGo k2 C W) C H) (hm := 0) (cg := 63) (d := d0) (w := w0) hk3 hM3 (by decide) (cg63 hk3)
    have h1 : f_X12_eveningGoes (nI k.hs) (nI k.cm) 0 (nI d0) (nI w0) bg by_ (upd (upd a (0 + 5 + 3 * C) (nI W)) (0 + 6 + 3 * C) (nI H)) = some (nI (d0 + dK (setCo (setGo k2 C W) C H)), nI (w0 + wK (setCo (setGo k2 C W) C H)), bg1, by1, a1) := by rw [← s1, ← s2]; exact h1
    rw [L_X10_driftBy_30, if_neg (nI_ge (by omega) (by omega)), if_pos n1, if_pos (by decide), if_pos n2, R2, v1, v2, v3, v4, v5, if_pos (inb_nI (by omega) (by omega)), if_pos (by decide), if_pos (by decide), if_pos (inb_nI (by omega) (by omega)), ix_nI (by omega), e1, sb]
    rw [L_X12_drift_52, if_neg (nI_ge (by omega) (by omega)), if_pos n1, if_pos (by decide), if_pos n2, R3, v1, v2, v3, v4, v5, e_becGo (by omega), sb, if_pos (by decide), if_pos (by decide), e_becCo (by omega), sb]
    dsimp only
    rw [h1, sb, nI_1]
    dsimp only
    rw [nI_add]
    exact ih (i + 1) f g (eve (setCo (setGo k2 C W) C H)) _ _ _ _ (d0 + dK (setCo (setGo k2 C W) C H)) (w0 + wK (setCo (setGo k2 C W) C H)) (e0 + 1) _ _ _ _ _ _ _ _ (by omega) (by omega) (by omega) (kok_eve hk3 (by show k2.ev < 2000; omega)) s1 s2 (by show k2.ev + 1 + q ≤ 2000; omega) e3 h3
theorem p_drift (s : SX) (t : TM) (x1 : Int32) (x2 : Int32) (x3 : Int32) (hI : Inv s t) : ∃ (v : Int32 × Int32 × Int32 × Int32 × Int32 × Int32 × Int32 × (Nat → Int32) × (Nat → Int32) × (Nat → Int32) × (Nat → Int32) × (Nat → Int32) × Int32 × Int32 × (Nat → Int32) × (Nat → Int32)) (w : Int32 × Int32 × Int32 × Int32 × (Nat → Int32) × (Nat → Int32) × (Nat → Int32)), f_X11_drift s.now.1 s.now.2.1 s.now.2.2.1 s.now.2.2.2.2.2.2.1 s.now.2.2.2.2.2.1 s.now.2.2.2.2.1 s.now.2.2.2.2.2.2.2 s.now.2.2.2.1 s.tri.1 s.tri.2.1 s.tri.2.2 s.tcy.1 s.tcy.2.1 s.tcy.2.2.1 s.tcy.2.2.2.2.2.2.1 s.tcy.2.2.2.2.2.1 s.tcy.2.2.2.2.1 s.tcy.2.2.2.2.2.2.2 s.tcy.2.2.2.1 s.evg.1 s.evg.2.1 s.evg.2.2.1 s.evg.2.2.2 x1 x2 x3 = some v ∧ f_X12_drift t.houses t.comers t.home t.dinners t.waited t.began t.begunBy t.now t.st x1 x2 x3 = some w ∧ v.1 = w.1 ∧ Inv (s.torn, s.tape, s.rdr, s.drf, s.now, s.seen, (v.2.1, v.2.2.1, v.2.2.2.1), (v.2.2.2.2.1, v.2.2.2.2.2.1, v.2.2.2.2.2.2.1, v.2.2.2.2.2.2.2.2.2.2.2.1, v.2.2.2.2.2.2.2.2.2.1, v.2.2.2.2.2.2.2.2.1, v.2.2.2.2.2.2.2.1, v.2.2.2.2.2.2.2.2.2.2.1), (v.2.2.2.2.2.2.2.2.2.2.2.2.1, v.2.2.2.2.2.2.2.2.2.2.2.2.2.1, v.2.2.2.2.2.2.2.2.2.2.2.2.2.2.1, v.2.2.2.2.2.2.2.2.2.2.2.2.2.2.2), s.adv, s.gss, s.im0, s.im1, s.sh0, s.sh1, s.sh2, s.sh3) ((t.st, w.2.2.2.2.2.2, t.isKept, t.houses, t.comers, t.draft, t.dHouses, t.dComers, t.highestHouse), t.m1, (w.2.1, w.2.2.2.2.1, w.2.2.2.2.2.1, w.2.2.1, w.2.2.2.1, t.beginSum, t.dinnerSum, t.allWays, t.hours), t.m3) := by
  obtain ⟨k, q, htw, eh, ec, hi⟩ := id hI.1
  obtain ⟨hk, hev, hC, hM, -⟩ := id htw
  have k4 := hk.1
  have k6 := hk.2.1
  have c1 : s.now.1 = nI k.hs := hC.1
  have c2 : s.now.2.1 = nI k.cm := hC.2.1
  have c3 : s.now.2.2.1 = nI k.ev := hC.2.2.1
  have d0 : f_X12_in x2.toInt64 1 60 = some (if 1 ≤ x2 ∧ x2 ≤ 60 then 1 else 0) := e_in x2 1 60
  have bad : ¬ (1 ≤ x2 ∧ x2 ≤ 60) → ∃ v, f_X12_drift t.houses t.comers t.home t.dinners t.waited t.began t.begunBy t.now t.st x1 x2 x3 = some v ∧ v.1 = -1 := fun z => by
    unfold f_X12_drift; rw [d0, if_neg z, sb, if_pos rfl]; exact ⟨_, rfl, rfl⟩
  by_cases h1 : x2 < 1
  · refine ex2 (-1) ?_ (bad (fun z => by have a := Int32.lt_iff_toInt_lt.mp h1; have b := Int32.le_iff_toInt_le.mp z.1; omega)) (fun _ _ => hI)
    unfold f_X11_drift; rw [if_pos h1]; exact ⟨_, rfl, rfl⟩
  · by_cases h2 : 60 < x2
    · refine ex2 (-1) ?_ (bad (fun z => by have a := Int32.lt_iff_toInt_lt.mp h2; have b := Int32.le_iff_toInt_le.mp z.2; omega)) (fun _ _ => hI)
      unfold f_X11_drift; rw [if_neg h1, if_pos h2]; exact ⟨_, rfl, rfl⟩
    · have ok : 1 ≤ x2 ∧ x2 ≤ 60 := ⟨Int32.not_lt.mp h1, Int32.not_lt.mp h2⟩
      rw [if_pos ok] at d0
      obtain ⟨n, hn, rfl⟩ : ∃ n : Nat, n ≤ 60 ∧ x2 = nI n := by
        rcases cases_in x2 (n := 60) (by decide) with hb | h
        · exact absurd ⟨by have b := Int32.le_iff_toInt_le.mp ok.1; rw [Int32.le_iff_toInt_le]; have e : (0 : Int32).toInt = 0 := by decide
                           have e2 : (1 : Int32).toInt = 1 := by decide
                           omega, ok.2⟩ hb.2
        · exact h
      rcases cases_in x3 (n := 1) (by decide) with hb | ⟨p, hp, rfl⟩
      · have d1 : f_X11_outside x3 1 = some 1 := ou_bad hb.1
        refine ex2 (-1) ?_ ?_ (fun _ _ => hI)
        · unfold f_X11_drift; rw [if_neg h1, if_neg h2, d1, sb, if_neg n10]; exact ⟨_, rfl, rfl⟩
        · unfold f_X12_drift; rw [d0, sb, if_neg n10, part_bad hb.2, sb, if_pos rfl]; exact ⟨_, rfl, rfl⟩
      · have d1 : f_X11_outside (nI p) 1 = some 0 := ou_ok (n := 1) rfl hp (by decide)
        by_cases z1 : k.hs = 0
        · have y1 : s.now.1 = 0 := by rw [c1, z1]; rfl
          have y2 : t.houses = 0 := by rw [eh, z1]; rfl
          refine ex2 (-2) ?_ ?_ (fun _ _ => hI)
          · unfold f_X11_drift; rw [if_neg h1, if_neg h2, d1, sb, if_pos rfl, if_pos y1]; exact ⟨_, rfl, rfl⟩
          · unfold f_X12_drift; rw [d0, sb, if_neg n10, part_ok hp, sb, if_neg n10, if_pos y2]; exact ⟨_, rfl, rfl⟩
        · have y1 : ¬ nI k.hs = 0 := nI_ne0 (by omega) (by omega)
          by_cases z2 : k.cm = 0
          · have y3 : nI k.cm = 0 := by rw [z2]; rfl
            refine ex2 (-2) ?_ ?_ (fun _ _ => hI)
            · unfold f_X11_drift; rw [if_neg h1, if_neg h2, d1, sb, if_pos rfl, c1, c2, if_neg y1, if_pos y3]; exact ⟨_, rfl, rfl⟩
            · unfold f_X12_drift; rw [d0, sb, if_neg n10, part_ok hp, sb, if_neg n10, eh, ec, if_neg y1, if_pos y3]; exact ⟨_, rfl, rfl⟩
          · have y3 : ¬ nI k.cm = 0 := nI_ne0 (by omega) (by omega)
            have hC2 : relC (nI k.hs, nI k.cm, nI k.ev, s.now.2.2.2.1, s.now.2.2.2.2.1, s.now.2.2.2.2.2.1, s.now.2.2.2.2.2.2.1, s.now.2.2.2.2.2.2.2) k := ⟨rfl, rfl, rfl, hC.2.2.2⟩
            obtain ⟨a0, g1, g2, -⟩ := starts_rel (hm := t.home) (now := t.now) hk hM
            obtain ⟨r, u, r1, u1, ru1, ru2⟩ := l_drift (k := k) (n := n) (z := a0) (by omega) (by omega) hn k4 k6 n 0 400 400 k x1 (-4) s.evg.1 s.evg.2.1 0 0 0 s.now.2.2.2.2.2.2.1 s.now.2.2.2.2.2.1 s.now.2.2.2.2.2.2.2 a0 t.began t.begunBy s.evg.2.2.1 s.evg.2.2.2 (by omega) (by omega) (by omega) hk rfl rfl (by omega) hC2 g2
            have r1 : L_X10_driftBy_30 (nI k.hs) (nI k.cm) s.now.2.2.2.2.1 s.now.2.2.2.1 (nI n) 400 0 x1 0 0 0 (-4) (nI k.ev) s.now.2.2.2.2.2.2.1 s.now.2.2.2.2.2.1 s.now.2.2.2.2.2.2.2 s.evg.1 s.evg.2.1 s.evg.2.2.1 s.evg.2.2.2 = some r := r1
            have u1 : L_X12_drift_52 (nI k.hs) (nI k.cm) (nI n) (0, a0) 400 x1 0 0 0 t.began t.begunBy a0 = some u := u1
            have f0 : f_X12_startsCounting t.dinners t.waited = some (0, 0) := rfl
            obtain rfl | rfl : p = 0 ∨ p = 1 := by omega
            · refine ex2 u.1 ?_ ?_ (fun _ _ => hI)
              · unfold f_X11_drift f_X10_driftBy
                rw [if_neg h1, if_neg h2, d1, sb, if_pos rfl, c1, c2, c3, if_neg y1, if_neg y3, e_rst, sb]
                dsimp only
                rw [if_neg y1, if_neg y3, r1, sb, sb, if_pos (by decide)]
                exact ⟨_, rfl, ru1⟩
              · unfold f_X12_drift
                rw [d0, sb, if_neg n10, part_ok hp, sb, if_neg n10, eh, ec, if_neg y1, if_neg y3, g1, sb, f0, sb]
                dsimp only
                rw [u1, sb, if_pos (by decide)]
                exact ⟨_, rfl, rfl⟩
            · refine ex2 u.2.1 ?_ ?_ (fun _ _ => hI)
              · unfold f_X11_drift f_X10_driftBy
                rw [if_neg h1, if_neg h2, d1, sb, if_pos rfl, c1, c2, c3, if_neg y1, if_neg y3, e_rst, sb]
                dsimp only
                rw [if_neg y1, if_neg y3, r1, sb, sb, if_neg (by decide)]
                exact ⟨_, rfl, ru2⟩
              · unfold f_X12_drift
                rw [d0, sb, if_neg n10, part_ok hp, sb, if_neg n10, eh, ec, if_neg y1, if_neg y3, g1, sb, f0, sb]
                dsimp only
                rw [u1, sb, if_neg (by decide)]
                exact ⟨_, rfl, rfl⟩
