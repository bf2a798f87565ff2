theorem ex3 {α β : Type} {F : Option (Int32 × α)} {G : Option (Int32 × β)} {P : Int32 × α → Int32 × β → Prop} {v : Int32 × α} {w : Int32 × β} (h1 : F = some v) (h2 : G = some w) (h3 : v.1 = w.1) (h4 : P v w) : ∃ v w, F = some v ∧ G = some w ∧ v.1 = w.1 ∧ P v w := ⟨v, w, h1, h2, h3, h4⟩
theorem p_evenings (s : SX) (t : TM) (x1 : Int32) (hI : Inv s t) : ∃ (v : Int32 × Int32 × Int32 × Int32 × (Nat → Int32) × (Nat → Int32) × (Nat → Int32) × (Nat → Int32) × (Nat → Int32) × Int32 × Int32 × Int32 × Int32 × Int32 × Int32 × (Nat → Int32) × (Nat → Int32) × (Nat → Int32) × (Nat → Int32) × (Nat → Int32) × Int32 × Int32 × (Nat → Int32) × (Nat → Int32)) (w : Int32 × Int32 × Int32 × Int32 × (Nat → Int32) × (Nat → Int32) × (Nat → Int32) × (Nat → Int32)), f_X11_evenings s.now.1 s.now.2.1 s.now.2.2.1 s.now.2.2.2.2.2.2.1 s.now.2.2.2.2.2.1 s.now.2.2.2.2.1 s.now.2.2.2.2.2.2.2 s.now.2.2.2.1 s.tri.1 s.tri.2.1 s.tri.2.2 s.tcy.1 s.tcy.2.1 s.tcy.2.2.1 s.tcy.2.2.2.2.2.2.1 s.tcy.2.2.2.2.2.1 s.tcy.2.2.2.2.1 s.tcy.2.2.2.2.2.2.2 s.tcy.2.2.2.1 s.evg.1 s.evg.2.1 s.evg.2.2.1 s.evg.2.2.2 x1 = some v ∧ f_X12_evenings t.houses t.comers t.home t.dinners t.waited t.began t.begunBy t.now t.st x1 = some w ∧ v.1 = w.1 ∧ Inv (s.torn, s.tape, s.rdr, s.drf, (v.2.1, v.2.2.1, v.2.2.2.1, v.2.2.2.2.2.2.2.2.1, v.2.2.2.2.2.2.1, v.2.2.2.2.2.1, v.2.2.2.2.1, v.2.2.2.2.2.2.2.1), s.seen, (v.2.2.2.2.2.2.2.2.2.1, v.2.2.2.2.2.2.2.2.2.2.1, v.2.2.2.2.2.2.2.2.2.2.2.1), (v.2.2.2.2.2.2.2.2.2.2.2.2.1, v.2.2.2.2.2.2.2.2.2.2.2.2.2.1, v.2.2.2.2.2.2.2.2.2.2.2.2.2.2.1, v.2.2.2.2.2.2.2.2.2.2.2.2.2.2.2.2.2.2.2.1, v.2.2.2.2.2.2.2.2.2.2.2.2.2.2.2.2.2.1, v.2.2.2.2.2.2.2.2.2.2.2.2.2.2.2.2.1, v.2.2.2.2.2.2.2.2.2.2.2.2.2.2.2.1, v.2.2.2.2.2.2.2.2.2.2.2.2.2.2.2.2.2.2.1), (v.2.2.2.2.2.2.2.2.2.2.2.2.2.2.2.2.2.2.2.2.1, v.2.2.2.2.2.2.2.2.2.2.2.2.2.2.2.2.2.2.2.2.2.1, v.2.2.2.2.2.2.2.2.2.2.2.2.2.2.2.2.2.2.2.2.2.2.1, v.2.2.2.2.2.2.2.2.2.2.2.2.2.2.2.2.2.2.2.2.2.2.2), s.adv, s.gss, s.im0, s.im1, s.sh0, s.sh1, s.sh2, s.sh3) ((w.2.2.2.2.2.2.2, w.2.2.2.2.2.2.1, t.isKept, t.houses, t.comers, t.draft, t.dHouses, t.dComers, t.highestHouse), t.m1, (w.2.1, w.2.2.2.2.1, w.2.2.2.2.2.1, w.2.2.1, w.2.2.2.1, t.beginSum, t.dinnerSum, t.allWays, t.hours), t.m3) := by
  obtain ⟨⟨k, q, htw, eh, ec, hi0, hi1⟩, hs, ht, hf, hto⟩ := id hI
  obtain ⟨hk, hev, hC, hM, hso, hS, hSM⟩ := id htw
  have c1 : s.now.1 = nI k.hs := hC.1
  have c3 : s.now.2.2.1 = nI k.ev := hC.2.2.1
  have e46 : t.st 46 = nI k.ev := by have := hM.2.2.2; rwa [Nat.zero_add] at this
  have i46 : ix 46 = 46 := by decide
  rcases cases_in x1 (n := 30) (by decide) with hb | ⟨n, hn, rfl⟩
  · have d1 : f_X11_outside x1 30 = some 1 := ou_bad hb.1
    have d2 : f_X12_in x1.toInt64 0 30 = some 0 := in_bad (n := 30) rfl hb.2
    apply ex3
    · unfold f_X11_evenings; rw [d1, sb, if_neg n10]
    · unfold f_X12_evenings; rw [d2, sb, if_pos rfl]
    · rfl
    · exact hI
  · have d1 : f_X11_outside (nI n) 30 = some 0 := ou_ok (n := 30) rfl hn (by decide)
    have d2 : f_X12_in (nI n).toInt64 0 30 = some 1 := in_ok (n := 30) rfl hn (by decide)
    by_cases hfull : k.ev + n < 1000
    · have g1 : s.now.2.2.1 + nI n < 1000 := by rw [c3, nI_add]; exact nI_lt (b := 1000) hfull (by decide)
      have g2 : t.st (ix 46) + nI n ≤ 999 := by rw [i46, e46, nI_add]; exact nI_le (b := 999) (by omega) (by decide)
      obtain ⟨b', w', hrs', ops', lk', e1, -, e3⟩ := e_din0 (n := n) hk hC (by omega) (by omega) s.evg.1 s.evg.2.1 s.evg.2.2.1 s.evg.2.2.2
      obtain ⟨a0, m1, m2, m3⟩ := starts_rel (hm := t.home) (now := t.now) hk hM
      obtain ⟨bg', by', a', m4, -, m5, m6⟩ := e_evGo (bg := t.began) (by_ := t.begunBy) (d := t.dinners) (w := t.waited) (n := n) hk m2 (by omega) (by omega)
      obtain ⟨b, m7, m8, m9⟩ := e_settles (a := a') (st := t.st)
      obtain ⟨s1, s2, s3, -⟩ := evn_same n k
      apply ex3
      · unfold f_X11_evenings
        rw [d1, sb, if_pos rfl, if_pos g1, e_rst, sb]
        dsimp only
        rw [e1, sb]
        rfl
      · unfold f_X12_evenings
        rw [d2, sb, if_neg n10, if_pos (by decide), if_pos g2, m1, sb]
        dsimp only
        rw [eh, ec, m4, sb]
        dsimp only
        rw [m7, sb]
      · rfl
      · refine ⟨⟨evn n k, q, ⟨kok_evn n hk (by omega), by rw [s3]; omega, e3, relM_at (kok_evn n hk (by omega)) m5 (fun j hj => by rw [Nat.zero_add]; exact m8 j hj), by rw [s1]; exact hso, hS, relSM_at hso.1 hSM (fun j j1 hj => by show b (0 + j) = t.st (0 + j); rw [Nat.zero_add, m8 j hj, m6 j j1, m3 j hj])⟩, eh.trans (congrArg nI s1.symm), ec.trans (congrArg nI s2.symm), iImg_at hi0 (fun j hj => m9 _ (by omega)) s1 s2, iImg_at hi1 (fun j hj => m9 _ (by omega)) s1 s2⟩, hs, ht, hf, hto⟩
    · have g1 : ¬ s.now.2.2.1 + nI n < 1000 := by rw [c3, nI_add]; exact nI_nlt (b := 1000) (by omega) (by omega)
      have g2 : ¬ t.st (ix 46) + nI n ≤ 999 := by rw [i46, e46, nI_add]; exact nI_ge (a := 999) (by omega) (by omega)
      apply ex3
      · unfold f_X11_evenings; rw [d1, sb, if_pos rfl, if_neg g1]
      · unfold f_X12_evenings; rw [d2, sb, if_neg n10, if_pos (by decide), if_neg g2]
      · rfl
      · exact hI
