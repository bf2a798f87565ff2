theorem iM_seen {x : Cty} {y y' : Sgt} {i0 i1 : Img} {st st' kp : Nat → Int32} {nh nc : Int32} {k : Ka} {q q' : Sa} (htw : two x y st 0 k q) (eh : nh = nI k.hs) (ec : nc = nI k.cm) (hi0 : iImg i0 st 66 (kp 0) k) (hi1 : iImg i1 st 132 (kp 1) k) (hq : sok k.hs q') (hS : relS y' q') (hSM : relSM st' 0 q') (e : ∀ j, j < 47 ∨ 66 ≤ j → st' j = st j) : iMain x y' i0 i1 st' kp nh nc := by
  obtain ⟨hk, hv, hC, hM, -⟩ := htw
  have k4 := hk.1
  have k6 := hk.2.1
  have hM' : relM st' 0 k := ⟨fun h hh => (e _ (by omega)).trans (hM.1 h hh), fun c hc => ⟨(e _ (by omega)).trans (hM.2.1 c hc).1, (e _ (by omega)).trans (hM.2.1 c hc).2.1, (e _ (by omega)).trans (hM.2.1 c hc).2.2⟩, fun h hh c hc => (e _ (by omega)).trans (hM.2.2.1 h hh c hc), (e _ (by omega)).trans hM.2.2.2⟩
  exact ⟨k, q', ⟨hk, hv, hC, hM', hq, hS, hSM⟩, eh, ec, iImg_at hi0 (fun j hj => e _ (by omega)) rfl rfl, iImg_at hi1 (fun j hj => e _ (by omega)) rfl rfl⟩
theorem p_forget (s : SX) (t : TM) (x1 : Int32) (hI : Inv s t) : ∃ (v : Int32 × Int32) (w : Int32 × (Nat → Int32)), f_X11_forget s.seen.1 x1 = some v ∧ f_X12_forget t.st x1 = some w ∧ v.1 = w.1 ∧ Inv (s.torn, s.tape, s.rdr, s.drf, s.now, (v.2, s.seen.2.1, s.seen.2.2.1, s.seen.2.2.2), s.tri, s.tcy, s.evg, s.adv, s.gss, s.im0, s.im1, s.sh0, s.sh1, s.sh2, s.sh3) ((w.2, t.now, t.isKept, t.houses, t.comers, t.draft, t.dHouses, t.dComers, t.highestHouse), t.m1, t.m2, t.m3) := by
  obtain ⟨⟨k, q, htw, eh, ec, hi0, hi1⟩, hs, ht, hf, hto⟩ := id hI
  obtain ⟨hk, hev, hC, hM, hso, hS, hSM⟩ := id htw
  have q6 := hso.1
  have z1 : s.seen.1 = nI q.1 := hS.1
  have z2 : t.st 47 = nI q.1 := by have := hSM.1; rwa [Nat.zero_add] at this
  have e47 : t.st (ix 47) = nI q.1 := z2
  rcases cases_in x1 (n := q.1) (by omega) with hb | ⟨n, hn, rfl⟩
  · have d1 : f_X11_outside x1 s.seen.1 = some 1 := by rw [z1]; exact ou_bad hb.1
    have d2 : f_X12_in x1.toInt64 0 (t.st (ix 47)).toInt64 = some 0 := in_bad (n := q.1) (by rw [e47]) hb.2
    apply ex3
    · unfold f_X11_forget; rw [d1, sb, if_neg n10]
    · unfold f_X12_forget; rw [if_pos (by decide), d2, sb, if_pos rfl]
    · rfl
    · exact hI
  · have d1 : f_X11_outside (nI n) s.seen.1 = some 0 := ou_ok (n := q.1) z1 hn (by omega)
    have d2 : f_X12_in (nI n).toInt64 0 (t.st (ix 47)).toInt64 = some 1 := in_ok (n := q.1) (by rw [e47]) hn (by omega)
    have d3 : f_X12_becomes t.st 47 (nI n) = some (t.st 47, upd t.st 47 (nI n)) := e_becomes (j := 47) (by omega)
    apply ex3
    · unfold f_X11_forget; rw [d1, sb, if_pos rfl]
    · unfold f_X12_forget; rw [if_pos (by decide), d2, sb, if_neg n10, d3, sb]
    · exact z1.trans z2.symm
    · refine ⟨iM_seen (q' := (n, q.2)) htw eh ec hi0 hi1 ⟨by show n ≤ 6; omega, fun i hi => hso.2 i (Nat.lt_of_lt_of_le hi hn)⟩ ⟨rfl, fun i hi => hS.2 i (Nat.lt_of_lt_of_le hi hn)⟩ ⟨rfl, fun i hi => ?_⟩ (fun j hj => upd_ne (by omega)), hs, ht, hf, hto⟩
      have h := hSM.2 i (Nat.lt_of_lt_of_le hi hn)
      exact ⟨(upd_ne (by omega)).trans h.1, (upd_ne (by omega)).trans h.2.1, (upd_ne (by omega)).trans h.2.2⟩
theorem p_see (s : SX) (t : TM) (x1 : Int32) (x2 : Int32) (x3 : Int32) (hI : Inv s t) : ∃ (v : Int32 × Int32 × (Nat → Int32) × (Nat → Int32) × (Nat → Int32)) (w : Int32 × (Nat → Int32)), f_X11_see s.now.1 s.seen.1 s.seen.2.1 s.seen.2.2.2 s.seen.2.2.1 x1 x2 x3 = some v ∧ f_X12_see t.houses t.st x1 x2 x3 = some w ∧ v.1 = w.1 ∧ Inv (s.torn, s.tape, s.rdr, s.drf, s.now, (v.2.1, v.2.2.1, v.2.2.2.2, v.2.2.2.1), s.tri, s.tcy, s.evg, s.adv, s.gss, s.im0, s.im1, s.sh0, s.sh1, s.sh2, s.sh3) ((w.2, t.now, t.isKept, t.houses, t.comers, t.draft, t.dHouses, t.dComers, t.highestHouse), t.m1, t.m2, t.m3) := by
  obtain ⟨⟨k, q, htw, eh, ec, hi0, hi1⟩, hs, ht, hf, hto⟩ := id hI
  obtain ⟨hk, hev, hC, hM, hso, hS, hSM⟩ := id htw
  have k4 := hk.1
  have c1 : s.now.1 = nI k.hs := hC.1
  have q6 := hso.1
  have z1 : s.seen.1 = nI q.1 := hS.1
  have z2 : t.st 47 = nI q.1 := by have := hSM.1; rwa [Nat.zero_add] at this
  have e47 : t.st (ix 47) = nI q.1 := z2
  rcases cases_in x1 (n := 9) (by decide) with hb | ⟨n, hn, rfl⟩
  · have d1 : f_X11_outside x1 9 = some 1 := ou_bad hb.1
    have d2 : f_X12_in x1.toInt64 0 9 = some 0 := in_bad (n := 9) rfl hb.2
    apply ex3
    · unfold f_X11_see; rw [d1, sb, if_neg n10]
    · unfold f_X12_see; rw [d2, sb, if_pos rfl]
    · rfl
    · exact hI
  · have d1 : f_X11_outside (nI n) 9 = some 0 := ou_ok (n := 9) rfl hn (by omega)
    have d2 : f_X12_in (nI n).toInt64 0 9 = some 1 := in_ok (n := 9) rfl hn (by omega)
    rcases ixc x2 (n := k.hs) (by omega) with hb | ⟨h, hh, rfl⟩
    · have a1 : f_X11_noHouse s.now.1 x2 = some 1 := by rw [c1]; exact nh_bad (by omega) hb
      have a2 : f_X12_isHouse t.houses x2 = some 0 := by rw [eh]; exact ih_bad (by omega) hb
      apply ex3
      · unfold f_X11_see; rw [d1, sb, if_pos rfl, a1, sb, if_neg n10]
      · unfold f_X12_see; rw [d2, sb, if_neg n10, a2, sb, if_pos rfl]
      · rfl
      · exact hI
    · have a1 : f_X11_noHouse s.now.1 (nI h) = some 0 := by rw [c1]; exact nh_ok (by omega) hh
      have a2 : f_X12_isHouse t.houses (nI h) = some 1 := by rw [eh]; exact ih_ok (by omega) hh
      rcases cases_in x3 (n := 7) (by decide) with hb | ⟨r, hr, rfl⟩
      · have b1 : f_X11_outside x3 7 = some 1 := ou_bad hb.1
        have b2 : f_X12_in x3.toInt64 0 7 = some 0 := in_bad (n := 7) rfl hb.2
        apply ex3
        · unfold f_X11_see; rw [d1, sb, if_pos rfl, a1, sb, if_pos rfl, b1, sb, if_neg n10]
        · unfold f_X12_see; rw [d2, sb, if_neg n10, a2, sb, if_neg n10, b2, sb, if_pos rfl]
        · rfl
        · exact hI
      · have b1 : f_X11_outside (nI r) 7 = some 0 := ou_ok (n := 7) rfl hr (by omega)
        have b2 : f_X12_in (nI r).toInt64 0 7 = some 1 := in_ok (n := 7) rfl hr (by omega)
        by_cases hq : q.1 < 6
        · have l1 : s.seen.1 < 6 := by rw [z1]; exact nI_lt (b := 6) hq (by decide)
          have l2 : inb s.seen.1 6 := by rw [z1]; exact inb_nI hq (by decide)
          have l3 : ix s.seen.1 = q.1 := by rw [z1]; exact ix_nI (by omega)
          have l4 : f_X7_add s.seen.1 s.seen.2.1 s.seen.2.2.2 s.seen.2.2.1 (nI n) (nI h) (nI r) = some (1, nI (q.1 + 1), upd s.seen.2.1 q.1 (nI n), upd s.seen.2.2.2 q.1 (nI r), upd s.seen.2.2.1 q.1 (nI h)) := by
            unfold f_X7_add; rw [if_pos l1, if_pos l2, if_pos l2, if_pos l2, l3, z1, nI_1]
          have n6 : ¬ t.st (ix 47) = 6 := by rw [e47]; exact fun z => by have := (nI_eq (b := 6) (by omega) (by omega)).mp z; omega
          have f0 : (48 + 3 * t.st (ix 47) : Int32) = nI (0 + 48 + 3 * q.1) := by
            rw [e47, show (3 : Int32) = nI 3 from rfl, pk_mul, show (48 : Int32) = nI 48 from rfl, nI_add, Nat.zero_add]
          have f1 : (48 + 3 * t.st (ix 47) + 1 : Int32) = nI (0 + 49 + 3 * q.1) := by rw [f0, nI_1]; exact congrArg nI (by omega)
          have f2 : (48 + 3 * t.st (ix 47) + 2 : Int32) = nI (0 + 50 + 3 * q.1) := by rw [f0, show (2 : Int32) = nI 2 from rfl, nI_add]; exact congrArg nI (by omega)
          have e5 : f_X12_see t.houses t.st (nI n) (nI h) (nI r) = some (nI (q.1 + 1), upd (upd (upd (upd t.st (0 + 48 + 3 * q.1) (nI n)) (0 + 49 + 3 * q.1) (nI h)) (0 + 50 + 3 * q.1) (nI r)) 47 (nI (q.1 + 1))) := by
            unfold f_X12_see
            rw [d2, sb, if_neg n10, a2, sb, if_neg n10, b2, sb, if_neg n10, if_pos (by decide), if_neg n6, if_pos (by decide), f2, f1, f0, if_pos (inb_nI (by omega) (by omega)), if_pos (inb_nI (by omega) (by omega)), if_pos (inb_nI (by omega) (by omega)), if_pos (by decide), if_pos (by decide), if_pos (by decide), ix_nI (by omega), ix_nI (by omega), ix_nI (by omega)]
            have e6 : upd (upd (upd t.st (0 + 48 + 3 * q.1) (nI n)) (0 + 49 + 3 * q.1) (nI h)) (0 + 50 + 3 * q.1) (nI r) (ix 47) = nI q.1 := by
              show upd _ _ _ 47 = _
              rw [upd_ne (by omega), upd_ne (by omega), upd_ne (by omega)]; exact z2
            rw [e6, nI_1]
            rfl
          apply ex3
          · unfold f_X11_see; rw [d1, sb, if_pos rfl, a1, sb, if_pos rfl, b1, sb, if_pos rfl, l4, sb, if_neg n10]
          · exact e5
          · rfl
          · refine ⟨iM_seen (q' := (q.1 + 1, upN q.2.1 q.1 n, upN q.2.2.1 q.1 h, upN q.2.2.2 q.1 r)) htw eh ec hi0 hi1 ⟨by show q.1 + 1 ≤ 6; omega, fun i hi => ?_⟩ ⟨rfl, fun i hi => ?_⟩ ⟨rfl, fun i hi => ?_⟩ (fun j hj => (upd_ne (by omega)).trans ((upd_ne (by omega)).trans ((upd_ne (by omega)).trans (upd_ne (by omega))))), hs, ht, hf, hto⟩
            · have hi : i < q.1 + 1 := hi
              show (if i = q.1 then n else q.2.1 i) ≤ 9 ∧ (if i = q.1 then h else q.2.2.1 i) < k.hs ∧ (if i = q.1 then r else q.2.2.2 i) ≤ 7
              by_cases e : i = q.1
              · rw [if_pos e, if_pos e, if_pos e]; exact ⟨hn, hh, hr⟩
              · rw [if_neg e, if_neg e, if_neg e]; exact hso.2 i (by omega)
            · have hi : i < q.1 + 1 := hi
              show (if i = q.1 then nI n else s.seen.2.1 i) = nI (if i = q.1 then n else q.2.1 i) ∧ (if i = q.1 then nI h else s.seen.2.2.1 i) = nI (if i = q.1 then h else q.2.2.1 i) ∧ (if i = q.1 then nI r else s.seen.2.2.2 i) = nI (if i = q.1 then r else q.2.2.2 i)
              by_cases e : i = q.1
              · rw [if_pos e, if_pos e, if_pos e, if_pos e, if_pos e, if_pos e]; exact ⟨rfl, rfl, rfl⟩
              · rw [if_neg e, if_neg e, if_neg e, if_neg e, if_neg e, if_neg e]; exact hS.2 i (by omega)
            · have hi : i < q.1 + 1 := hi
              show upd (upd (upd (upd t.st (0 + 48 + 3 * q.1) (nI n)) (0 + 49 + 3 * q.1) (nI h)) (0 + 50 + 3 * q.1) (nI r)) 47 (nI (q.1 + 1)) (0 + 48 + 3 * i) = nI (if i = q.1 then n else q.2.1 i) ∧ upd (upd (upd (upd t.st (0 + 48 + 3 * q.1) (nI n)) (0 + 49 + 3 * q.1) (nI h)) (0 + 50 + 3 * q.1) (nI r)) 47 (nI (q.1 + 1)) (0 + 49 + 3 * i) = nI (if i = q.1 then h else q.2.2.1 i) ∧ upd (upd (upd (upd t.st (0 + 48 + 3 * q.1) (nI n)) (0 + 49 + 3 * q.1) (nI h)) (0 + 50 + 3 * q.1) (nI r)) 47 (nI (q.1 + 1)) (0 + 50 + 3 * i) = nI (if i = q.1 then r else q.2.2.2 i)
              simp only [upd_at]
              by_cases e : i = q.1
              · subst e
                refine ⟨?_, ?_, ?_⟩
                · rw [if_neg (by omega), if_neg (by omega), if_neg (by omega), if_pos rfl, if_pos rfl]
                · rw [if_neg (by omega), if_neg (by omega), if_pos rfl, if_pos rfl]
                · rw [if_neg (by omega), if_pos rfl, if_pos rfl]
              · have h := hSM.2 i (by omega)
                refine ⟨?_, ?_, ?_⟩
                · rw [if_neg (by omega), if_neg (by omega), if_neg (by omega), if_neg (by omega), if_neg e]; exact h.1
                · rw [if_neg (by omega), if_neg (by omega), if_neg (by omega), if_neg (by omega), if_neg e]; exact h.2.1
                · rw [if_neg (by omega), if_neg (by omega), if_neg (by omega), if_neg (by omega), if_neg e]; exact h.2.2
        · have q66 : q.1 = 6 := by omega
          have l1 : ¬ s.seen.1 < 6 := by rw [z1, q66]; decide
          have l4 : f_X7_add s.seen.1 s.seen.2.1 s.seen.2.2.2 s.seen.2.2.1 (nI n) (nI h) (nI r) = some (0, s.seen.1, s.seen.2.1, s.seen.2.2.2, s.seen.2.2.1) := by
            unfold f_X7_add; rw [if_neg l1]
          have n6 : t.st (ix 47) = 6 := by rw [e47, q66]; rfl
          apply ex3
          · unfold f_X11_see; rw [d1, sb, if_pos rfl, a1, sb, if_pos rfl, b1, sb, if_pos rfl, l4, sb, if_pos rfl]
          · unfold f_X12_see; rw [d2, sb, if_neg n10, a2, sb, if_neg n10, b2, sb, if_neg n10, if_pos (by decide), if_pos n6]
          · rfl
          · exact hI
-- images
theorem e_copies {st : Nat → Int32} {p o : Nat} (hp : p + 66 ≤ 198) (ho : o + 66 ≤ 198) (hd : p + 66 ≤ o ∨ o + 66 ≤ p) : ∃ b : Nat → Int32, f_X12_copies st (nI p) (nI o) = some b ∧ (∀ j, j < 66 → b (p + j) = st (o + j)) ∧ ∀ j, j < p ∨ p + 66 ≤ j → b j = st j := by
  have st1 : ∀ f c (s : Nat → Int32), c < 66 → ((∀ j, j < c → s (p + j) = st (o + j)) ∧ ∀ j, j < p ∨ p + c ≤ j → s j = st j) → ∃ s' : Nat → Int32, ((∀ j, j < c + 1 → s' (p + j) = st (o + j)) ∧ ∀ j, j < p ∨ p + (c + 1) ≤ j → s' j = st j) ∧ L_X12_copies_2 (nI p) (nI o) (f + 1) (nI c) s = L_X12_copies_2 (nI p) (nI o) f (nI (c + 1)) s' := fun f c s hc h => by
    refine ⟨upd s (p + c) (s (o + c)), ⟨fun j hj => ?_, fun j hj => ?_⟩, ?_⟩
    · rw [upd_at]
      by_cases e : j = c
      · rw [if_pos (by omega), h.2 _ (by omega), e]
      · rw [if_neg (by omega)]; exact h.1 j (by omega)
    · rw [upd_ne (by omega)]; exact h.2 j (by omega)
    · rw [L_X12_copies_2, if_neg (show ¬ (66 : Int32) ≤ nI c from nI_ge (b := 66) hc (by decide)), nI_add, nI_add, if_pos (inb_nI (by omega) (by omega)), if_pos (inb_nI (by omega) (by omega)), ix_nI (by omega), ix_nI (by omega), nI_1]
  obtain ⟨b, h1, h2⟩ := lpP (L := fun f s c => L_X12_copies_2 (nI p) (nI o) f c s) (n := 66) (P := fun c s => (∀ j, j < c → s (p + j) = st (o + j)) ∧ ∀ j, j < p ∨ p + c ≤ j → s j = st j) (Q := fun b => (∀ j, j < 66 → b (p + j) = st (o + j)) ∧ ∀ j, j < p ∨ p + 66 ≤ j → b j = st j) (by omega) (fun f s h => ⟨s, by show L_X12_copies_2 (nI p) (nI o) (f + 1) (nI 66) s = _; rw [L_X12_copies_2, if_pos (show (66 : Int32) ≤ nI 66 by decide)], h⟩) st1 (s0 := st) ⟨fun j hj => absurd hj (Nat.not_lt_zero j), fun j _ => rfl⟩
  refine ⟨b, ?_, h2⟩
  unfold f_X12_copies
  have h1 : L_X12_copies_2 (nI p) (nI o) 400 0 st = some b := h1
  rw [h1, sb]
theorem p_keep (s : SX) (t : TM) (x1 : Int32) (hI : Inv s t) : ∃ (v : Int32 × Int32 × Int32 × Int32 × Int32 × (Nat → Int32) × (Nat → Int32) × (Nat → Int32) × (Nat → Int32) × (Nat → Int32) × Int32 × (Nat → Int32) × (Nat → Int32) × (Nat → Int32) × Int32 × Int32 × Int32 × Int32 × (Nat → Int32) × (Nat → Int32) × (Nat → Int32) × (Nat → Int32) × (Nat → Int32) × Int32 × (Nat → Int32) × (Nat → Int32) × (Nat → Int32)) (w : Int32 × (Nat → Int32) × (Nat → Int32)), f_X11_keep s.im0.1 s.im0.2.1 s.im0.2.2.1 s.im0.2.2.2.1 s.im0.2.2.2.2.2.2.2.1 s.im0.2.2.2.2.2.2.1 s.im0.2.2.2.2.2.1 s.im0.2.2.2.2.2.2.2.2.1 s.im0.2.2.2.2.1 s.im0.2.2.2.2.2.2.2.2.2.1 s.im0.2.2.2.2.2.2.2.2.2.2.1 s.im0.2.2.2.2.2.2.2.2.2.2.2.2 s.im0.2.2.2.2.2.2.2.2.2.2.2.1 s.im1.1 s.im1.2.1 s.im1.2.2.1 s.im1.2.2.2.1 s.im1.2.2.2.2.2.2.2.1 s.im1.2.2.2.2.2.2.1 s.im1.2.2.2.2.2.1 s.im1.2.2.2.2.2.2.2.2.1 s.im1.2.2.2.2.1 s.im1.2.2.2.2.2.2.2.2.2.1 s.im1.2.2.2.2.2.2.2.2.2.2.1 s.im1.2.2.2.2.2.2.2.2.2.2.2.2 s.im1.2.2.2.2.2.2.2.2.2.2.2.1 s.now.1 s.now.2.1 s.now.2.2.1 s.now.2.2.2.2.2.2.1 s.now.2.2.2.2.2.1 s.now.2.2.2.2.1 s.now.2.2.2.2.2.2.2 s.now.2.2.2.1 s.seen.1 s.seen.2.1 s.seen.2.2.2 s.seen.2.2.1 x1 = some v ∧ f_X12_keep t.isKept t.st x1 = some w ∧ v.1 = w.1 ∧ Inv (s.torn, s.tape, s.rdr, s.drf, s.now, s.seen, s.tri, s.tcy, s.evg, s.adv, s.gss, (v.2.1, v.2.2.1, v.2.2.2.1, v.2.2.2.2.1, v.2.2.2.2.2.2.2.2.2.1, v.2.2.2.2.2.2.2.1, v.2.2.2.2.2.2.1, v.2.2.2.2.2.1, v.2.2.2.2.2.2.2.2.1, v.2.2.2.2.2.2.2.2.2.2.1, v.2.2.2.2.2.2.2.2.2.2.2.1, v.2.2.2.2.2.2.2.2.2.2.2.2.2.1, v.2.2.2.2.2.2.2.2.2.2.2.2.1), (v.2.2.2.2.2.2.2.2.2.2.2.2.2.2.1, v.2.2.2.2.2.2.2.2.2.2.2.2.2.2.2.1, v.2.2.2.2.2.2.2.2.2.2.2.2.2.2.2.2.1, v.2.2.2.2.2.2.2.2.2.2.2.2.2.2.2.2.2.1, v.2.2.2.2.2.2.2.2.2.2.2.2.2.2.2.2.2.2.2.2.2.2.1, v.2.2.2.2.2.2.2.2.2.2.2.2.2.2.2.2.2.2.2.2.1, v.2.2.2.2.2.2.2.2.2.2.2.2.2.2.2.2.2.2.2.1, v.2.2.2.2.2.2.2.2.2.2.2.2.2.2.2.2.2.2.1, v.2.2.2.2.2.2.2.2.2.2.2.2.2.2.2.2.2.2.2.2.2.1, v.2.2.2.2.2.2.2.2.2.2.2.2.2.2.2.2.2.2.2.2.2.2.2.1, v.2.2.2.2.2.2.2.2.2.2.2.2.2.2.2.2.2.2.2.2.2.2.2.2.1, v.2.2.2.2.2.2.2.2.2.2.2.2.2.2.2.2.2.2.2.2.2.2.2.2.2.2, v.2.2.2.2.2.2.2.2.2.2.2.2.2.2.2.2.2.2.2.2.2.2.2.2.2.1), s.sh0, s.sh1, s.sh2, s.sh3) ((w.2.2, t.now, w.2.1, t.houses, t.comers, t.draft, t.dHouses, t.dComers, t.highestHouse), t.m1, t.m2, t.m3) := by
  obtain ⟨⟨k, q, htw, eh, ec, hi0, hi1⟩, hs, ht, hf, hto⟩ := id hI
  obtain ⟨hk, hev, hC, hM, hso, hS, hSM⟩ := id htw
  rcases cases_in x1 (n := 1) (by decide) with hb | ⟨n, hn, rfl⟩
  · have d1 : f_X11_outside x1 1 = some 1 := ou_bad hb.1
    have d2 : f_X12_in x1.toInt64 0 1 = some 0 := in_bad (n := 1) rfl hb.2
    apply ex3
    · unfold f_X11_keep; rw [d1, sb, if_neg n10]
    · unfold f_X12_keep; rw [d2, sb, if_pos rfl]
    · rfl
    · exact hI
  · have d1 : f_X11_outside (nI n) 1 = some 0 := ou_ok (n := 1) rfl hn (by omega)
    have d2 : f_X12_in (nI n).toInt64 0 1 = some 1 := in_ok (n := 1) rfl hn (by omega)
    obtain rfl | rfl : n = 0 ∨ n = 1 := by omega
    · have e5 : (66 * (nI 0 + 1) : Int32) = nI 66 := by decide
      obtain ⟨b, g1, g2, g3⟩ := e_copies (st := t.st) (p := 66) (o := 0) (by omega) (by omega) (by omega)
      have g1 : f_X12_copies t.st (nI 66) 0 = some b := g1
      have f0 : (s.im0.1 = 0 ∧ t.isKept 0 = 0) ∨ (s.im0.1 = 1 ∧ t.isKept 0 = 1) := hi0.imp id (fun h => ⟨h.1, h.2.1⟩)
      have f1 : (if s.im0.1 = 0 then some 0 else some 1 : Option Int32) = some (t.isKept 0) := by
        rcases f0 with ⟨p1, p2⟩ | ⟨p1, p2⟩ <;> rw [p1, p2] <;> rfl
      have f2 : f_X12_flag (t.isKept (ix (nI 0))) = some (t.isKept 0) := by
        show f_X12_flag (t.isKept 0) = _
        rcases f0 with ⟨p1, p2⟩ | ⟨p1, p2⟩ <;> rw [p2] <;> decide
      apply ex3
      · unfold f_X11_keep; rw [d1, sb, if_pos rfl, if_pos (by decide), f1, sb]; rfl
      · unfold f_X12_keep; rw [d2, sb, if_neg n10, if_pos (by decide), f2, sb, if_pos (by decide), e5, g1, sb]
      · rfl
      · have im : iImg (1, s.now.1, s.now.2.1, s.now.2.2.1, s.now.2.2.2.1, s.now.2.2.2.2.1, s.now.2.2.2.2.2.1, s.now.2.2.2.2.2.2.1, s.now.2.2.2.2.2.2.2, s.seen.1, s.seen.2.1, s.seen.2.2.1, s.seen.2.2.2) b 66 1 k := Or.inr ⟨rfl, rfl, k, q, rfl, rfl, hk, hev, hC, relM_at hk hM (fun j hj => by rw [Nat.zero_add]; exact (g2 j hj).trans (by rw [Nat.zero_add])), hso, hS, relSM_at hso.1 hSM (fun j _ hj => by rw [Nat.zero_add]; exact (g2 j hj).trans (by rw [Nat.zero_add]))⟩
        have tw : two s.now s.seen b 0 k q := ⟨hk, hev, hC, relM_at hk hM (fun j hj => g3 _ (by omega)), hso, hS, relSM_at hso.1 hSM (fun j _ hj => g3 _ (by omega))⟩
        have ot := iImg_at hi1 (b := b) (fun j hj => g3 _ (by omega)) rfl rfl
        exact ⟨⟨k, q, tw, eh, ec, im, ot⟩, hs, ht, hf, hto⟩
    · have e5 : (66 * (nI 1 + 1) : Int32) = nI 132 := by decide
      obtain ⟨b, g1, g2, g3⟩ := e_copies (st := t.st) (p := 132) (o := 0) (by omega) (by omega) (by omega)
      have g1 : f_X12_copies t.st (nI 132) 0 = some b := g1
      have f0 : (s.im1.1 = 0 ∧ t.isKept 1 = 0) ∨ (s.im1.1 = 1 ∧ t.isKept 1 = 1) := hi1.imp id (fun h => ⟨h.1, h.2.1⟩)
      have f1 : (if s.im1.1 = 0 then some 0 else some 1 : Option Int32) = some (t.isKept 1) := by
        rcases f0 with ⟨p1, p2⟩ | ⟨p1, p2⟩ <;> rw [p1, p2] <;> rfl
      have f2 : f_X12_flag (t.isKept (ix (nI 1))) = some (t.isKept 1) := by
        show f_X12_flag (t.isKept 1) = _
        rcases f0 with ⟨p1, p2⟩ | ⟨p1, p2⟩ <;> rw [p2] <;> decide
      apply ex3
      · unfold f_X11_keep; rw [d1, sb, if_pos rfl, if_neg (by decide), if_pos (by decide), f1, sb]; rfl
      · unfold f_X12_keep; rw [d2, sb, if_neg n10, if_pos (by decide), f2, sb, if_pos (by decide), e5, g1, sb]
      · rfl
      · have im : iImg (1, s.now.1, s.now.2.1, s.now.2.2.1, s.now.2.2.2.1, s.now.2.2.2.2.1, s.now.2.2.2.2.2.1, s.now.2.2.2.2.2.2.1, s.now.2.2.2.2.2.2.2, s.seen.1, s.seen.2.1, s.seen.2.2.1, s.seen.2.2.2) b 132 1 k := Or.inr ⟨rfl, rfl, k, q, rfl, rfl, hk, hev, hC, relM_at hk hM (fun j hj => by rw [Nat.zero_add]; exact (g2 j hj).trans (by rw [Nat.zero_add])), hso, hS, relSM_at hso.1 hSM (fun j _ hj => by rw [Nat.zero_add]; exact (g2 j hj).trans (by rw [Nat.zero_add]))⟩
        have tw : two s.now s.seen b 0 k q := ⟨hk, hev, hC, relM_at hk hM (fun j hj => g3 _ (by omega)), hso, hS, relSM_at hso.1 hSM (fun j _ hj => g3 _ (by omega))⟩
        have ot := iImg_at hi0 (b := b) (fun j hj => g3 _ (by omega)) rfl rfl
        exact ⟨⟨k, q, tw, eh, ec, ot, im⟩, hs, ht, hf, hto⟩
theorem p_back (s : SX) (t : TM) (x1 : Int32) (hI : Inv s t) : ∃ (v : Int32 × Int32 × Int32 × Int32 × (Nat → Int32) × (Nat → Int32) × (Nat → Int32) × (Nat → Int32) × (Nat → Int32) × Int32 × (Nat → Int32) × (Nat → Int32) × (Nat → Int32)) (w : Int32 × (Nat → Int32)), f_X11_back s.im0.1 s.im0.2.1 s.im0.2.2.1 s.im0.2.2.2.1 s.im0.2.2.2.2.2.2.2.1 s.im0.2.2.2.2.2.2.1 s.im0.2.2.2.2.2.1 s.im0.2.2.2.2.2.2.2.2.1 s.im0.2.2.2.2.1 s.im0.2.2.2.2.2.2.2.2.2.1 s.im0.2.2.2.2.2.2.2.2.2.2.1 s.im0.2.2.2.2.2.2.2.2.2.2.2.2 s.im0.2.2.2.2.2.2.2.2.2.2.2.1 s.im1.1 s.im1.2.1 s.im1.2.2.1 s.im1.2.2.2.1 s.im1.2.2.2.2.2.2.2.1 s.im1.2.2.2.2.2.2.1 s.im1.2.2.2.2.2.1 s.im1.2.2.2.2.2.2.2.2.1 s.im1.2.2.2.2.1 s.im1.2.2.2.2.2.2.2.2.2.1 s.im1.2.2.2.2.2.2.2.2.2.2.1 s.im1.2.2.2.2.2.2.2.2.2.2.2.2 s.im1.2.2.2.2.2.2.2.2.2.2.2.1 s.now.1 s.now.2.1 s.now.2.2.1 s.now.2.2.2.2.2.2.1 s.now.2.2.2.2.2.1 s.now.2.2.2.2.1 s.now.2.2.2.2.2.2.2 s.now.2.2.2.1 s.seen.1 s.seen.2.1 s.seen.2.2.2 s.seen.2.2.1 x1 = some v ∧ f_X12_back t.isKept t.st x1 = some w ∧ v.1 = w.1 ∧ Inv (s.torn, s.tape, s.rdr, s.drf, (v.2.1, v.2.2.1, v.2.2.2.1, v.2.2.2.2.2.2.2.2.1, v.2.2.2.2.2.2.1, v.2.2.2.2.2.1, v.2.2.2.2.1, v.2.2.2.2.2.2.2.1), (v.2.2.2.2.2.2.2.2.2.1, v.2.2.2.2.2.2.2.2.2.2.1, v.2.2.2.2.2.2.2.2.2.2.2.2, v.2.2.2.2.2.2.2.2.2.2.2.1), s.tri, s.tcy, s.evg, s.adv, s.gss, s.im0, s.im1, s.sh0, s.sh1, s.sh2, s.sh3) ((w.2, t.now, t.isKept, t.houses, t.comers, t.draft, t.dHouses, t.dComers, t.highestHouse), t.m1, t.m2, t.m3) := by
  obtain ⟨⟨k, q, htw, eh, ec, hi0, hi1⟩, hs, ht, hf, hto⟩ := id hI
  rcases cases_in x1 (n := 1) (by decide) with hb | ⟨n, hn, rfl⟩
  · have d1 : f_X11_outside x1 1 = some 1 := ou_bad hb.1
    have d2 : f_X12_in x1.toInt64 0 1 = some 0 := in_bad (n := 1) rfl hb.2
    apply ex3
    · unfold f_X11_back; rw [d1, sb, if_neg n10]
    · unfold f_X12_back; rw [d2, sb, if_pos rfl]
    · rfl
    · exact hI
  · have d1 : f_X11_outside (nI n) 1 = some 0 := ou_ok (n := 1) rfl hn (by omega)
    have d2 : f_X12_in (nI n).toInt64 0 1 = some 1 := in_ok (n := 1) rfl hn (by omega)
    obtain rfl | rfl : n = 0 ∨ n = 1 := by omega
    · have e5 : (66 * (nI 0 + 1) : Int32) = nI 66 := by decide
      rcases id hi0 with ⟨p1, p2⟩ | ⟨p1, p2, k2, q2, y1, y2, hk2, hev2, hC2, hM2, hso2, hS2, hSM2⟩
      · have p2 : t.isKept (ix (nI 0)) = 0 := p2
        apply ex3
        · unfold f_X11_back; rw [d1, sb, if_pos rfl, if_pos (by decide), if_pos p1]
        · unfold f_X12_back; rw [d2, sb, if_neg n10, if_pos (by decide), if_pos p2]
        · rfl
        · exact hI
      · have p2 : ¬ t.isKept (ix (nI 0)) = 0 := by show ¬ t.isKept 0 = 0; rw [p2]; exact n10
        have p1 : ¬ s.im0.1 = 0 := by rw [p1]; exact n10
        obtain ⟨b, g1, g2, g3⟩ := e_copies (st := t.st) (p := 0) (o := 66) (by omega) (by omega) (by omega)
        have g1 : f_X12_copies t.st 0 (nI 66) = some b := g1
        have hM3 : relM b 0 k2 := relM_at hk2 hM2 (fun j hj => g2 j hj)
        apply ex3
        · unfold f_X11_back; rw [d1, sb, if_pos rfl, if_pos (by decide), if_neg p1]; rfl
        · unfold f_X12_back; rw [d2, sb, if_neg n10, if_pos (by decide), if_neg p2, e5, g1, sb, if_pos (by decide)]
        · exact hC2.2.2.1.trans hM3.2.2.2.symm
        · exact ⟨⟨k2, q2, ⟨hk2, hev2, hC2, hM3, hso2, hS2, relSM_at hso2.1 hSM2 (fun j _ hj => g2 j hj)⟩, eh.trans (congrArg nI y1.symm), ec.trans (congrArg nI y2.symm), iImg_at hi0 (fun j hj => g3 _ (by omega)) y1 y2, iImg_at hi1 (fun j hj => g3 _ (by omega)) y1 y2⟩, hs, ht, hf, hto⟩
    · have e5 : (66 * (nI 1 + 1) : Int32) = nI 132 := by decide
      rcases id hi1 with ⟨p1, p2⟩ | ⟨p1, p2, k2, q2, y1, y2, hk2, hev2, hC2, hM2, hso2, hS2, hSM2⟩
      · have p2 : t.isKept (ix (nI 1)) = 0 := p2
        apply ex3
        · unfold f_X11_back; rw [d1, sb, if_pos rfl, if_neg (by decide), if_pos (by decide), if_pos p1]
        · unfold f_X12_back; rw [d2, sb, if_neg n10, if_pos (by decide), if_pos p2]
        · rfl
        · exact hI
      · have p2 : ¬ t.isKept (ix (nI 1)) = 0 := by show ¬ t.isKept 1 = 0; rw [p2]; exact n10
        have p1 : ¬ s.im1.1 = 0 := by rw [p1]; exact n10
        obtain ⟨b, g1, g2, g3⟩ := e_copies (st := t.st) (p := 0) (o := 132) (by omega) (by omega) (by omega)
        have g1 : f_X12_copies t.st 0 (nI 132) = some b := g1
        have hM3 : relM b 0 k2 := relM_at hk2 hM2 (fun j hj => g2 j hj)
        apply ex3
        · unfold f_X11_back; rw [d1, sb, if_pos rfl, if_neg (by decide), if_pos (by decide), if_neg p1]; rfl
        · unfold f_X12_back; rw [d2, sb, if_neg n10, if_pos (by decide), if_neg p2, e5, g1, sb, if_pos (by decide)]
        · exact hC2.2.2.1.trans hM3.2.2.2.symm
        · exact ⟨⟨k2, q2, ⟨hk2, hev2, hC2, hM3, hso2, hS2, relSM_at hso2.1 hSM2 (fun j _ hj => g2 j hj)⟩, eh.trans (congrArg nI y1.symm), ec.trans (congrArg nI y2.symm), iImg_at hi0 (fun j hj => g3 _ (by omega)) y1 y2, iImg_at hi1 (fun j hj => g3 _ (by omega)) y1 y2⟩, hs, ht, hf, hto⟩
