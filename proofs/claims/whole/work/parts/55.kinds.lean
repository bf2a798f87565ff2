/-! what was seen, and what may be by it -/
theorem anyI (x : Int32) : ∃ n, x = nI n := ⟨x.toBitVec.toNat, by
  apply Int32.toBitVec_inj.mp
  show _ = BitVec.ofNat 32 _
  rw [BitVec.ofNat_toNat, BitVec.setWidth_eq]⟩
theorem n4c {n c : Nat} : nI n * 4 + nI c = nI (4 * n + c) := by
  rw [show (4 : Int32) = nI 4 from rfl, pk_mul, nI_add]
  exact congrArg nI (by omega)
theorem m4c {n c : Nat} : 4 * nI n + nI c = nI (4 * n + c) := by
  rw [show (4 : Int32) = nI 4 from rfl, pk_mul, nI_add]
theorem s48 {n : Nat} : (48 + 3 * nI n : Int32) = nI (48 + 3 * n) := by
  rw [show (48 : Int32) = nI 48 from rfl, show (3 : Int32) = nI 3 from rfl, pk_mul, nI_add]
theorem nI_2 {n : Nat} : (nI n + 2 : Int32) = nI (n + 2) := nI_add n 2
theorem lkix {h c : Nat} : (22 + 6 * nI h + nI c : Int32) = nI (22 + 6 * h + c) := by
  rw [show (22 : Int32) = nI 22 from rfl, show (6 : Int32) = nI 6 from rfl, pk_mul, nI_add, nI_add]
theorem or_nI (a b : Nat) : nI a ||| nI b = nI (a ||| b) := by
  apply Int32.toBitVec_inj.1
  show BitVec.ofNat 32 a ||| BitVec.ofNat 32 b = BitVec.ofNat 32 (a ||| b)
  apply BitVec.eq_of_getLsbD_eq
  intro i hi
  simp [hi]
theorem bit10 : ∀ c, c < 10 → ∀ b : Bool, ((if b then 1 else 0 : Int32) <<< (nI c &&& 31)) = nI (if b then 2 ^ c else 0) := by decide +kernel
theorem or10 {m c : Nat} (hc : c < 10) : (nI m ||| ((1 : Int32) <<< (nI c &&& 31))) = nI (m ||| 2 ^ c) := by
  have e : ((1 : Int32) <<< (nI c &&& 31)) = nI (2 ^ c) := bit10 c hc true
  rw [e, or_nI]
theorem orb10 {m c : Nat} (hc : c < 10) (b : Bool) : (nI m ||| ((if b then 1 else 0 : Int32) <<< (nI c &&& 31))) = nI (if b then m ||| 2 ^ c else m) := by
  rw [bit10 c hc b, or_nI]
  cases b
  · rw [if_neg (by decide), if_neg (by decide), Nat.or_zero]
  · rw [if_pos rfl, if_pos rfl]
/-- when dinner begins behind n evenings -/
abbrev fR (k : Ka) (n h : Nat) : Nat := hrK (evn n k) h
def told4 (row : Nat → Int32) (k : Ka) (sp : Nat) : Prop := ∀ n, n < sp → ∀ h, h < k.hs → row (4 * n + h) = nI (fR k n h)
theorem l_ft27 {hs n : Nat} {v : Int32 × Int32 × (Nat → Int32) × (Nat → Int32) × Int32 × (Nat → Int32)} {y : Nat → Int32} (h4 : hs ≤ 4) (hn : n < 10) : ∃ b : Nat → Int32, L_X3_foretell_27 (nI hs) (nI n) v 400 0 y = some b ∧ (∀ h, h < hs → b (4 * n + h) = v.2.2.1 h) ∧ ∀ j, j < 4 * n → b j = y j := by
  have st1 : ∀ f c (s : Nat → Int32), c < hs → ((∀ h, h < c → s (4 * n + h) = v.2.2.1 h) ∧ ∀ j, j < 4 * n → s j = y j) → ∃ s' : Nat → Int32, ((∀ h, h < c + 1 → s' (4 * n + h) = v.2.2.1 h) ∧ ∀ j, j < 4 * n → s' j = y j) ∧ L_X3_foretell_27 (nI hs) (nI n) v (f + 1) (nI c) s = L_X3_foretell_27 (nI hs) (nI n) v f (nI (c + 1)) s' := fun f c s hc h => by
    refine ⟨upd s (4 * n + c) (v.2.2.1 c), ⟨fun i hi => ?_, fun j hj => (upd_ne (by omega)).trans (h.2 j hj)⟩, ?_⟩
    · rw [upd_at]
      by_cases e : i = c
      · rw [if_pos (by omega), e]
      · rw [if_neg (by omega)]; exact h.1 i (by omega)
    · rw [L_X3_foretell_27, if_neg (nI_ge hc (by omega)), if_pos (inb_nI (by omega) (by omega)), n4c, if_pos (inb_nI (by omega) (by omega)), ix_nI (by omega), ix_nI (by omega), nI_1]
  exact lpP (L := fun f s c => L_X3_foretell_27 (nI hs) (nI n) v f c s) (n := hs) (P := fun c s => (∀ h, h < c → s (4 * n + h) = v.2.2.1 h) ∧ ∀ j, j < 4 * n → s j = y j) (Q := fun b => (∀ h, h < hs → b (4 * n + h) = v.2.2.1 h) ∧ ∀ j, j < 4 * n → b j = y j) (by omega) (fun f s h => ⟨s, by show L_X3_foretell_27 (nI hs) (nI n) v (f + 1) (nI hs) s = _; rw [L_X3_foretell_27, if_pos (nI_le (Nat.le_refl _) (by omega))], h⟩) st1 (s0 := y) ⟨fun i hi => absurd hi (Nat.not_lt_zero i), fun _ _ => rfl⟩
theorem e_foretell {k : Ka} {li ki go co lk : Nat → Int32} {sp : Nat} (hk : kok k) (hC : relC (nI k.hs, nI k.cm, nI k.ev, li, ki, go, co, lk) k) (hsp : sp ≤ 10) (he : k.ev + sp ≤ 2000) (b w : Int32) (hrs ops row : Nat → Int32) : ∃ r, f_X3_foretell (nI k.hs) (nI k.hs) (nI k.cm) (nI k.ev) co go ki lk li b w hrs ops row (nI sp) = some r ∧ told4 r.2.2.2.2.2.2 k sp := by
  have k4 := hk.1
  have key : ∀ (q i m : Nat) (k2 : Ka) (b w : Int32) (hrs ops row lk : Nat → Int32), i + q = sp → q < m → k2 = evn i k → relC (nI k.hs, nI k.cm, nI k2.ev, li, ki, go, co, lk) k2 → told4 row k i → ∃ r, L_X3_foretell_2 (nI k.hs) (nI k.hs) (nI k.cm) co go ki li (nI sp) m (nI i) (nI k2.ev) lk b w hrs ops row = some r ∧ told4 r.2.2.2.2.2.2 k sp := by
    intro q
    induction q with
    | zero =>
      intro i m k2 b w hrs ops row lk e hm e2 hC ht
      obtain ⟨m, rfl⟩ : ∃ m', m = m' + 1 := ⟨m - 1, by omega⟩
      have e3 : i = sp := by omega
      subst e3
      rw [L_X3_foretell_2, if_pos (nI_le (Nat.le_refl _) (by omega))]
      exact ⟨_, rfl, ht⟩
    | succ q ih =>
      intro i m k2 b w hrs ops row lk e hm e2 hC ht
      obtain ⟨m, rfl⟩ : ∃ m', m = m' + 1 := ⟨m - 1, by omega⟩
      have hk2 : kok k2 := by rw [e2]; exact kok_evn i hk (by omega)
      have hs2 : k2.hs = k.hs := by rw [e2]; exact (evn_same i k).1
      obtain ⟨hrs1, ops1, lk1, a1, a2, a3⟩ := e_hold hk2 hC b w hrs ops
      have a1 : f_X2_hold b w hrs ops (nI k.hs) (nI k.cm) (nI k2.ev) co go ki lk li = some (nI (msk (bgK k2) k2.hs), nI (smN (hrK k2) k2.hs), hrs1, ops1, nI (k2.ev + 1), lk1) := a1
      obtain ⟨row1, g1, g2, g3⟩ := l_ft27 (hs := k.hs) (n := i) (v := (nI (msk (bgK k2) k2.hs), nI (smN (hrK k2) k2.hs), hrs1, ops1, nI (k2.ev + 1), lk1)) (y := row) k4 (by omega)
      have ht1 : told4 row1 k (i + 1) := fun n hn h hh => by
        rcases Nat.lt_or_ge n i with z | z
        · rw [g3 _ (by omega)]; exact ht n z h hh
        · have e4 : n = i := by omega
          subst e4
          rw [g2 h hh]
          show hrs1 h = _
          rw [(a2 h (by omega)).1, e2]
      rw [L_X3_foretell_2, if_neg (nI_ge (by omega) (by omega)), a1, sb, g1, sb, nI_1]
      exact ih (i + 1) m (eve k2) _ _ _ _ _ _ (by omega) (by omega) (by rw [e2, evn_succ]) a3 ht1
  obtain ⟨r, h1, h2⟩ := key sp 0 400 k b w hrs ops row lk (by omega) (by omega) rfl hC (fun n hn => absurd hn (Nat.not_lt_zero n))
  have h1 : L_X3_foretell_2 (nI k.hs) (nI k.hs) (nI k.cm) co go ki li (nI sp) 400 0 (nI k.ev) lk b w hrs ops row = some r := h1
  refine ⟨_, ?_, h2⟩
  unfold f_X3_foretell
  rw [h1, sb]
/-- all of the first n is as seen -/
def agN (F : Nat → Nat → Nat) (q : Sa) : Nat → Bool
  | 0 => true
  | n + 1 => agN F q n && decide (F (q.2.1 n) (q.2.2.1 n) = q.2.2.2 n)
theorem agN_f {F : Nat → Nat → Nat} {q : Sa} : ∀ {n : Nat} (m : Nat), agN F q n = false → agN F q (n + m) = false
  | _, 0, h => h
  | n, m + 1, h => by rw [← Nat.add_assoc, agN, agN_f m h]; rfl
theorem e_agree {F : Nat → Nat → Nat} {q : Sa} {N : Nat} {beh hrs whr row : Nat → Int32} (hN : N ≤ 4) (hF : ∀ n h, F n h ≤ 7) (hq : sok N q) (hS : ∀ i, i < q.1 → beh i = nI (q.2.1 i) ∧ whr i = nI (q.2.2.1 i) ∧ hrs i = nI (q.2.2.2 i)) (hrow : ∀ i, i < q.1 → row (4 * q.2.1 i + q.2.2.1 i) = nI (F (q.2.1 i) (q.2.2.1 i))) : f_X7_agreeWith (nI q.1) beh hrs whr row = some (if agN F q q.1 then 1 else 0) := by
  have q6 := hq.1
  have key : ∀ (d i m : Nat), i + d = q.1 → d < m → agN F q i = true → L_X7_agreeWith_2 (nI q.1) beh hrs whr row m (nI i) = some (if agN F q q.1 then .inr () else .inl 0) := by
    intro d
    induction d with
    | zero =>
      intro i m e hm ha
      obtain ⟨m, rfl⟩ : ∃ m', m = m' + 1 := ⟨m - 1, by omega⟩
      have e3 : i = q.1 := by omega
      rw [e3] at ha
      rw [L_X7_agreeWith_2, if_pos (nI_le (by omega) (by omega)), if_pos ha]
    | succ d ih =>
      intro i m e hm ha
      obtain ⟨m, rfl⟩ : ∃ m', m = m' + 1 := ⟨m - 1, by omega⟩
      obtain ⟨s1, s2, s3⟩ := hS i (by omega)
      obtain ⟨t1, t2, t3⟩ := hq.2 i (by omega)
      have hf := hF (q.2.1 i) (q.2.2.1 i)
      rw [L_X7_agreeWith_2, if_neg (nI_ge (by omega) (by omega)), if_pos (inb_nI (by omega) (by omega)), if_pos (inb_nI (by omega) (by omega)), ix_nI (by omega), s1, s2, n4c, if_pos (inb_nI (by omega) (by omega)), if_pos (inb_nI (by omega) (by omega)), ix_nI (by omega), hrow i (by omega), s3]
      by_cases z : F (q.2.1 i) (q.2.2.1 i) = q.2.2.2 i
      · rw [if_pos (by rw [z]), nI_1]
        exact ih (i + 1) m (by omega) (by omega) (by rw [agN, ha, decide_eq_true z]; rfl)
      · have b : agN F q q.1 = false := by
          have := agN_f (F := F) (q := q) (n := i + 1) d (by rw [agN, decide_eq_false z, Bool.and_false])
          rwa [show i + 1 + d = q.1 by omega] at this
        rw [if_neg (fun y => z ((nI_eq (by omega) (by omega)).mp y)), b, if_neg (by decide)]
  have h := key q.1 0 400 (by omega) (by omega) rfl
  have h : L_X7_agreeWith_2 (nI q.1) beh hrs whr row 400 0 = _ := h
  unfold f_X7_agreeWith
  rw [h]
  cases agN F q q.1 <;> rfl
theorem e_reach {q : Sa} {N : Nat} {beh : Nat → Int32} (hq : sok N q) (hS : ∀ i, i < q.1 → beh i = nI (q.2.1 i)) : ∃ sp, sp ≤ 10 ∧ f_X7_reach (nI q.1) beh = some (nI sp) ∧ ∀ i, i < q.1 → q.2.1 i < sp := by
  have q6 := hq.1
  have st1 : ∀ f c (s : Int32), c < q.1 → (∃ m, m ≤ 10 ∧ s = nI m ∧ ∀ i, i < c → q.2.1 i < m) → ∃ s' : Int32, (∃ m, m ≤ 10 ∧ s' = nI m ∧ ∀ i, i < c + 1 → q.2.1 i < m) ∧ L_X7_reach_4 (nI q.1) beh (f + 1) s (nI c) = L_X7_reach_4 (nI q.1) beh f s' (nI (c + 1)) := fun f c s hc h => by
    obtain ⟨m, h1, h2, h3⟩ := h
    have h9 := (hq.2 c hc).1
    have e : L_X7_reach_4 (nI q.1) beh (f + 1) s (nI c) = L_X7_reach_4 (nI q.1) beh f (if nI m < nI (q.2.1 c + 1) then nI (q.2.1 c + 1) else nI m) (nI (c + 1)) := by
      rw [L_X7_reach_4, if_neg (nI_ge hc (by omega)), if_pos (inb_nI (by omega) (by omega)), ix_nI (by omega), hS c hc, h2, nI_1, nI_1]
    refine ⟨_, ?_, e⟩
    by_cases z : m < q.2.1 c + 1
    · rw [if_pos (nI_lt z (by omega))]
      refine ⟨_, by omega, rfl, fun i hi => ?_⟩
      by_cases y : i = c
      · rw [y]; omega
      · have := h3 i (by omega); omega
    · rw [if_neg (nI_nlt (by omega) (by omega))]
      refine ⟨m, h1, rfl, fun i hi => ?_⟩
      by_cases y : i = c
      · rw [y]; omega
      · exact h3 i (by omega)
  obtain ⟨r, h1, m, h2, h3, h4⟩ := lpP (L := fun f s c => L_X7_reach_4 (nI q.1) beh f s c) (n := q.1) (P := fun c s => ∃ m, m ≤ 10 ∧ s = nI m ∧ ∀ i, i < c → q.2.1 i < m) (Q := fun s => ∃ m, m ≤ 10 ∧ s = nI m ∧ ∀ i, i < q.1 → q.2.1 i < m) (by omega) (fun f s h => ⟨s, by show L_X7_reach_4 (nI q.1) beh (f + 1) s (nI q.1) = _; rw [L_X7_reach_4, if_pos (nI_le (Nat.le_refl _) (by omega))], h⟩) st1 (s0 := 0) ⟨0, by omega, rfl, fun i hi => absurd hi (Nat.not_lt_zero i)⟩
  have h1 : L_X7_reach_4 (nI q.1) beh 400 0 0 = some r := h1
  refine ⟨m, h2, ?_, h4⟩
  unfold f_X7_reach
  rw [h1, sb, h3]
/-! the reference -/
theorem l_sw26 {hs n : Nat} {hr : Nat → Nat} {v : Int32 × Int32 × (Nat → Int32) × (Nat → Int32) × (Nat → Int32)} {y : Nat → Int32} (h4 : hs ≤ 4) (hn : n < 10) (h7 : ∀ h, hr h ≤ 7) (hv : ∀ h, h < hs → v.2.2.1 h = bgI (hr h)) : ∃ b : Nat → Int32, L_X12_isSoWith_26 (nI hs) (nI n) v 400 0 y = some b ∧ (∀ h, h < hs → b (4 * n + h) = nI (hr h)) ∧ ∀ j, j < 4 * n → b j = y j := by
  have st1 : ∀ f c (s : Nat → Int32), c < hs → ((∀ h, h < c → s (4 * n + h) = nI (hr h)) ∧ ∀ j, j < 4 * n → s j = y j) → ∃ s' : Nat → Int32, ((∀ h, h < c + 1 → s' (4 * n + h) = nI (hr h)) ∧ ∀ j, j < 4 * n → s' j = y j) ∧ L_X12_isSoWith_26 (nI hs) (nI n) v (f + 1) (nI c) s = L_X12_isSoWith_26 (nI hs) (nI n) v f (nI (c + 1)) s' := fun f c s hc h => by
    refine ⟨upd s (4 * n + c) (nI (hr c)), ⟨fun i hi => ?_, fun j hj => (upd_ne (by omega)).trans (h.2 j hj)⟩, ?_⟩
    · rw [upd_at]
      by_cases e : i = c
      · rw [if_pos (by omega), e]
      · rw [if_neg (by omega)]; exact h.1 i (by omega)
    · have hc7 := h7 c
      have val : (if v.2.2.1 (ix (nI c)) = (-4) then some 7 else (if inb (nI c) 4 then some (v.2.2.1 (ix (nI c))) else none)) = some (nI (hr c)) := by
        rw [ix_nI (by omega), hv c hc]
        unfold bgI
        by_cases z : hr c < 7
        · rw [if_pos z, if_neg (nI_n4 (by omega)), if_pos (inb_nI (by omega) (by omega))]
        · rw [if_neg z, if_pos rfl, show hr c = 7 by omega]; rfl
      rw [L_X12_isSoWith_26, if_neg (nI_ge hc (by omega)), if_pos (inb_nI (by omega) (by omega)), val, sb, m4c, if_pos (inb_nI (by omega) (by omega)), ix_nI (by omega), nI_1]
  exact lpP (L := fun f s c => L_X12_isSoWith_26 (nI hs) (nI n) v f c s) (n := hs) (P := fun c s => (∀ h, h < c → s (4 * n + h) = nI (hr h)) ∧ ∀ j, j < 4 * n → s j = y j) (Q := fun b => (∀ h, h < hs → b (4 * n + h) = nI (hr h)) ∧ ∀ j, j < 4 * n → b j = y j) (by omega) (fun f s h => ⟨s, by show L_X12_isSoWith_26 (nI hs) (nI n) v (f + 1) (nI hs) s = _; rw [L_X12_isSoWith_26, if_pos (nI_le (Nat.le_refl _) (by omega))], h⟩) st1 (s0 := y) ⟨fun i hi => absurd hi (Nat.not_lt_zero i), fun _ _ => rfl⟩
theorem l_sw13 {k : Ka} {z : Nat → Int32} (hk : kok k) (he : k.ev + 10 ≤ 2000) : ∀ (q i m : Nat) (k2 : Ka) (d w : Int32) (bg by_ hrs a : Nat → Int32), i + q = 10 → q < m → k2 = evn i k → relM a 0 k2 → told4 hrs k i → ∃ r, L_X12_isSoWith_13 (nI k.hs) (nI k.cm) (0, z) m (nI i) d w bg by_ hrs a = some r ∧ told4 r.2.2.2.2.1 k 10 := by
  have k4 := hk.1
  intro q
  induction q with
  | zero =>
    intro i m k2 d w bg by_ hrs a e hm e2 hM ht
    obtain ⟨m, rfl⟩ : ∃ m', m = m' + 1 := ⟨m - 1, by omega⟩
    have e3 : i = 10 := by omega
    subst e3
    rw [L_X12_isSoWith_13, if_pos (by decide)]
    exact ⟨_, rfl, ht⟩
  | succ q ih =>
    intro i m k2 d w bg by_ hrs a e hm e2 hM ht
    obtain ⟨m, rfl⟩ : ∃ m', m = m' + 1 := ⟨m - 1, by omega⟩
    have hk2 : kok k2 := by rw [e2]; exact kok_evn i hk (by omega)
    have hs2 : k2.hs = k.hs := by rw [e2]; exact (evn_same i k).1
    have hc2 : k2.cm = k.cm := by rw [e2]; exact (evn_same i k).2.1
    obtain ⟨d, rfl⟩ := anyI d
    obtain ⟨w, rfl⟩ := anyI w
    obtain ⟨bg1, by1, a1, h1, h2, h3, -⟩ := e_goesEv (a := a) (bg := bg) (by_ := by_) (k := k2) (hm := 0) (cg := 63) (d := d) (w := w) hk2 hM (by decide) (cg63 hk2)
    rw [hs2, hc2] at h1
    have h1 : f_X12_eveningGoes (nI k.hs) (nI k.cm) 0 (nI d) (nI w) bg by_ a = _ := h1
    obtain ⟨row1, g1, g2, g3⟩ := l_sw26 (hs := k.hs) (n := i) (hr := hrK k2) (v := (nI (d + cnt (bgG k2 63) k.hs), nI (w + smN (hrG k2 63) k.hs), bg1, by1, a1)) (y := hrs) k4 (by omega) (hrK_le k2) (fun h hh => (h2 h (by omega)).1)
    have ht1 : told4 row1 k (i + 1) := fun n hn h hh => by
      rcases Nat.lt_or_ge n i with z | z
      · rw [g3 _ (by omega)]; exact ht n z h hh
      · have e4 : n = i := by omega
        subst e4
        rw [g2 h hh, e2]
    rw [L_X12_isSoWith_13, if_neg (show ¬ (9 : Int32) < nI i from nI_nlt (a := 9) (by omega) (by omega)), h1, sb, g1, sb, nI_1]
    exact ih (i + 1) m (eve k2) _ _ _ _ _ _ (by omega) (by omega) (by rw [e2, evn_succ]) h3 ht1
theorem l_sw87 {F : Nat → Nat → Nat} {q : Sa} {N : Nat} {st : Nat → Int32} {v : Int32 × Int32 × (Nat → Int32) × (Nat → Int32) × (Nat → Int32) × (Nat → Int32)} (hN : N ≤ 4) (hF : ∀ n h, F n h ≤ 7) (hq : sok N q) (hS : relSM st 0 q) (hrow : ∀ i, i < q.1 → v.2.2.2.2.1 (4 * q.2.1 i + q.2.2.1 i) = nI (F (q.2.1 i) (q.2.2.1 i))) : ∀ (d i m : Nat), i + d = q.1 → d < m → L_X12_isSoWith_87 st v m (if agN F q i then 1 else 0) (nI i) = some (if agN F q q.1 then 1 else 0) := by
  have q6 := hq.1
  have e47 : st (ix 47) = nI q.1 := hS.1
  intro d
  induction d with
  | zero =>
    intro i m e hm
    obtain ⟨m, rfl⟩ : ∃ m', m = m' + 1 := ⟨m - 1, by omega⟩
    have e3 : i = q.1 := by omega
    subst e3
    rw [L_X12_isSoWith_87, if_pos (by decide), e47, if_pos (nI_le (Nat.le_refl _) (by omega))]
  | succ d ih =>
    intro i m e hm
    obtain ⟨m, rfl⟩ : ∃ m', m = m' + 1 := ⟨m - 1, by omega⟩
    have ih := ih (i + 1) m (by omega) (by omega)
    cases ha : agN F q i with
    | false =>
      rw [agN_f 1 ha, if_neg (by decide)] at ih
      rw [if_neg (by decide), L_X12_isSoWith_87, if_pos (by decide), e47, if_neg (nI_ge (by omega) (by omega)), if_pos rfl, nI_1]
      exact ih
    | true =>
      obtain ⟨s1, s2, s3⟩ := hS.2 i (by omega)
      rw [show 0 + 48 + 3 * i = 48 + 3 * i by omega] at s1
      rw [show 0 + 49 + 3 * i = 48 + 3 * i + 1 by omega] at s2
      rw [show 0 + 50 + 3 * i = 48 + 3 * i + 2 by omega] at s3
      obtain ⟨t1, t2, t3⟩ := hq.2 i (by omega)
      have hf := hF (q.2.1 i) (q.2.2.1 i)
      rw [if_pos rfl, L_X12_isSoWith_87, if_pos (by decide), e47, if_neg (nI_ge (by omega) (by omega)), if_neg n10, s48, if_pos (inb_nI (by omega) (by omega)), nI_1, if_pos (inb_nI (by omega) (by omega)), ix_nI (by omega), ix_nI (by omega), s1, s2, m4c, if_pos (inb_nI (by omega) (by omega)), nI_2, if_pos (inb_nI (by omega) (by omega)), ix_nI (by omega), ix_nI (by omega), hrow i (by omega), s3, nI_1]
      by_cases z : F (q.2.1 i) (q.2.2.1 i) = q.2.2.2 i
      · have e5 : agN F q (i + 1) = true := by rw [agN, ha, decide_eq_true z]; rfl
        rw [e5, if_pos rfl] at ih
        rw [if_pos (by rw [z])]
        exact ih
      · have e5 : agN F q (i + 1) = false := by rw [agN, decide_eq_false z, Bool.and_false]
        rw [e5, if_neg (by decide)] at ih
        rw [if_neg (fun y => z ((nI_eq (by omega) (by omega)).mp y))]
        exact ih
theorem e_isSo {k k' : Ka} {q : Sa} {st : Nat → Int32} {j v : Nat} (hk : kok k) (hk' : kok k') (s1 : k'.hs = k.hs) (s2 : k'.cm = k.cm) (he : k'.ev + 10 ≤ 2000) (hq : sok k.hs q) (hM : relM st 0 k) (hS : relSM st 0 q) (hj : j < 66) (hup : ∀ a, relM a 0 k → relM (upd a j (nI v)) 0 k') (hm d w : Int32) (bg by_ hrs now : Nat → Int32) : ∃ r, f_X12_isSoWith (nI k.hs) (nI k.cm) hm d w bg by_ hrs now st (nI j) (nI v) = some r ∧ r.1 = (if agN (fR k') q q.1 then 1 else 0) ∧ told4 r.2.2.2.2.2.2.1 k' 10 := by
  have k4 := hk.1
  have q6 := hq.1
  obtain ⟨a, g1, g2, -⟩ := starts_rel (hm := hm) (now := now) hk hM
  obtain ⟨r, h1, h2⟩ := l_sw13 (z := a) hk' he 10 0 400 k' d w bg by_ hrs (upd a j (nI v)) (by omega) (by omega) rfl (hup a g2) (fun n hn => absurd hn (Nat.not_lt_zero n))
  rw [s1, s2] at h1
  have h1 : L_X12_isSoWith_13 (nI k.hs) (nI k.cm) (0, a) 400 0 d w bg by_ hrs (upd a j (nI v)) = some r := h1
  have h3 := l_sw87 (F := fR k') (v := r) k4 (fun n h => hrK_le _ _) hq hS (fun i hi => h2 _ (by have := (hq.2 i hi).1; omega) _ (by rw [s1]; exact (hq.2 i hi).2.1)) q.1 0 400 (by omega) (by omega)
  have h3 : L_X12_isSoWith_87 st r 400 1 0 = some (if agN (fR k') q q.1 then 1 else 0) := h3
  unfold f_X12_isSoWith
  rw [g1, sb, if_pos (inb_nI (by omega) (by omega))]
  dsimp only
  rw [ix_nI (by omega), h1, sb, h3, sb]
  have e4 : (if agN (fR k') q q.1 then 1 else 0 : Int32) &&& 1 = (if agN (fR k') q q.1 then 1 else 0 : Int32) := by
    cases agN (fR k') q q.1 <;> decide
  rw [if_pos e4]
  exact ⟨_, rfl, rfl, h2⟩
/-- by which kinds all is as seen -/
def gK (k : Ka) (q : Sa) (c : Nat) : Nat → Bool := fun i => agN (fR (setKd k c i)) q q.1
def gL (k : Ka) (q : Sa) (h c : Nat) : Nat → Bool := fun i => agN (fR (setLk k h c i)) q q.1
theorem so_kd {k : Ka} {q : Sa} {st : Nat → Int32} {c t : Nat} (hk : kok k) (hev : k.ev ≤ 999) (hq : sok k.hs q) (hM : relM st 0 k) (hS : relSM st 0 q) (hc : c < k.cm) (ht : t < 4) (hm d w : Int32) (bg by_ hrs now : Nat → Int32) : ∃ r, f_X12_isSoWith (nI k.hs) (nI k.cm) hm d w bg by_ hrs now st (4 + 3 * nI c + 0) (nI t) = some r ∧ r.1 = (if gK k q c t then 1 else 0) ∧ told4 r.2.2.2.2.2.2.1 (setKd k c t) 10 := by
  have k6 := hk.2.1
  have e : (4 + 3 * nI c + 0 : Int32) = nI (4 + 3 * c) := ix_of (j := 0)
  rw [e]
  exact e_isSo hk (kok_kd hk ht) rfl rfl (by show k.ev + 10 ≤ 2000; omega) hq hM hS (by omega) (fun a ha => by have := relM_kd (v := t) hk hc ha; rwa [show 0 + 4 + 3 * c = 4 + 3 * c by omega] at this) hm d w bg by_ hrs now
theorem m_kinds {k : Ka} {q : Sa} {st : Nat → Int32} {c : Nat} (hk : kok k) (hev : k.ev ≤ 999) (hq : sok k.hs q) (hM : relM st 0 k) (hS : relSM st 0 q) (hc : c < k.cm) : ∀ (p t f : Nat) (y4 y5 y6 : Int32) (y7 y8 y9 y10 : Nat → Int32), t + p = 4 → p < f → ∃ r, L_X12_kinds_14 (nI k.hs) (nI k.cm) st (nI c) f (nI (msk (gK k q c) t)) (nI t) y4 y5 y6 y7 y8 y9 y10 = some r ∧ r.1 = nI (msk (gK k q c) 4) := by
  intro p
  induction p with
  | zero =>
    intro t f y4 y5 y6 y7 y8 y9 y10 e hf
    obtain ⟨f, rfl⟩ : ∃ f', f = f' + 1 := ⟨f - 1, by omega⟩
    have e2 : t = 4 := by omega
    rw [L_X12_kinds_14, if_pos (show (4 : Int32) ≤ nI t from by rw [e2]; decide), e2]
    exact ⟨_, rfl, rfl⟩
  | succ p ih =>
    intro t f y4 y5 y6 y7 y8 y9 y10 e hf
    obtain ⟨f, rfl⟩ : ∃ f', f = f' + 1 := ⟨f - 1, by omega⟩
    obtain ⟨r, h1, h2, -⟩ := so_kd hk hev hq hM hS hc (show t < 4 by omega) y4 y5 y6 y7 y8 y9 y10
    rw [L_X12_kinds_14, if_neg (show ¬ (4 : Int32) ≤ nI t from nI_ge (b := 4) (by omega) (by omega)), h1, sb, h2, e_flag, sb, orb10 (by omega), nI_1]
    exact ih (t + 1) f _ _ _ _ _ _ _ (by omega) (by omega)
theorem m_levels {k : Ka} {q : Sa} {st : Nat → Int32} {h c : Nat} (hk : kok k) (hev : k.ev ≤ 999) (hq : sok k.hs q) (hM : relM st 0 k) (hS : relSM st 0 q) (hh : h < k.hs) (hc : c < k.cm) : ∀ (p t f : Nat) (y4 y5 y6 : Int32) (y7 y8 y9 y10 : Nat → Int32), t + p = 10 → p < f → ∃ r, L_X12_levels_23 (nI k.hs) (nI k.cm) st (nI h) (nI c) f (nI (msk (gL k q h c) t)) (nI t) y4 y5 y6 y7 y8 y9 y10 = some r ∧ r.1 = nI (msk (gL k q h c) 10) := by
  have k4 := hk.1
  have k6 := hk.2.1
  intro p
  induction p with
  | zero =>
    intro t f y4 y5 y6 y7 y8 y9 y10 e hf
    obtain ⟨f, rfl⟩ : ∃ f', f = f' + 1 := ⟨f - 1, by omega⟩
    have e2 : t = 10 := by omega
    rw [L_X12_levels_23, if_pos (show (9 : Int32) < nI t from by rw [e2]; decide), e2]
    exact ⟨_, rfl, rfl⟩
  | succ p ih =>
    intro t f y4 y5 y6 y7 y8 y9 y10 e hf
    obtain ⟨f, rfl⟩ : ∃ f', f = f' + 1 := ⟨f - 1, by omega⟩
    obtain ⟨r, h1, h2, -⟩ := e_isSo (j := 22 + 6 * h + c) (v := t) hk (kok_lk (h := h) (c := c) (v := t) hk (by omega)) rfl rfl (by show k.ev + 10 ≤ 2000; omega) hq hM hS (by omega) (fun a ha => by have := relM_lk (v := t) hk hh hc ha; rwa [show 0 + 22 + 6 * h + c = 22 + 6 * h + c by omega] at this) y4 y5 y6 y7 y8 y9 y10
    have h2 : r.1 = (if gL k q h c t then 1 else 0) := h2
    rw [L_X12_levels_23, if_neg (show ¬ (9 : Int32) < nI t from nI_nlt (a := 9) (by omega) (by omega)), lkix, h1, sb, h2, e_flag, sb, orb10 (by omega), nI_1]
    exact ih (t + 1) f _ _ _ _ _ _ _ (by omega) (by omega)

theorem c_kl0 {k : Ka} {q : Sa} {li ki go co lk beh whr hrs : Nat → Int32} {c sp : Nat} (hk : kok k) (hev : k.ev ≤ 999) (hC : relC (nI k.hs, nI k.cm, nI k.ev, li, ki, go, co, lk) k) (hq : sok k.hs q) (hS : ∀ i, i < q.1 → beh i = nI (q.2.1 i) ∧ whr i = nI (q.2.2.1 i) ∧ hrs i = nI (q.2.2.2 i)) (hsp : sp ≤ 10) (hre : ∀ i, i < q.1 → q.2.1 i < sp) (hc : c < k.cm) (f m : Nat) (y3 y4 y5 y6 : Nat → Int32) (y7 y8 y9 y10 y11 y12 : Int32) (y13 y14 y15 y16 y17 : Nat → Int32) (y18 y19 : Int32) (y20 y21 : Nat → Int32) : ∃ (row : Nat → Int32) (z7 z8 z9 z10 z11 z12 : Int32) (z13 z14 z15 z16 z17 : Nat → Int32) (z18 z19 : Int32) (z20 z21 : Nat → Int32), told4 row (setKd k c 0) sp ∧ L_X3_kindsLeft_5 (nI k.hs) (nI k.cm) (nI k.ev) co go ki lk li (nI q.1) beh hrs whr (nI c) (nI sp) (f + 1) (nI m) (nI 0) y3 y4 y5 y6 y7 y8 y9 y10 y11 y12 y13 y14 y15 y16 y17 y18 y19 y20 y21 = L_X3_kindsLeft_5 (nI k.hs) (nI k.cm) (nI k.ev) co go ki lk li (nI q.1) beh hrs whr (nI c) (nI sp) f (nI (if gK k q c 0 then m ||| 2 ^ 0 else m)) (nI 1) row y4 y5 y6 z7 z8 z9 z10 z11 z12 z13 z14 z15 z16 z17 z18 z19 z20 z21 := by
  have k4 := hk.1
  have k6 := hk.2.1
  obtain ⟨r, h1, h2⟩ := e_foretell (kok_kd (c := c) (v := 0) hk (by omega)) (relC_kd (c := c) (v := 0) hC) hsp (by show k.ev + sp ≤ 2000; omega) y18 y19 y20 y21 y3
  have h1 : f_X3_foretell (nI k.hs) (nI k.hs) (nI k.cm) (nI k.ev) co go (upd ki c (nI 0)) lk li y18 y19 y20 y21 y3 (nI sp) = some r := h1
  have h3 : f_X7_agreeWith (nI q.1) beh hrs whr r.2.2.2.2.2.2 = some (if gK k q c 0 then 1 else 0) := e_agree (F := fR (setKd k c 0)) k4 (fun n h => hrK_le _ _) hq hS (fun i hi => h2 _ (hre i hi) _ (hq.2 i hi).2.1)
  rw [L_X3_kindsLeft_5, if_neg (by decide), e_rst, sb, if_pos (inb_nI (by omega) (by omega)), if_pos (by decide), ix_nI (by omega)]
  dsimp only
  rw [h1, sb, h3, sb]
  cases hg : gK k q c 0 with
  | false =>
    rw [if_pos (show (if false = true then (1 : Int32) else 0) = 0 from rfl), if_neg (by decide), nI_1]
    exact ⟨r.2.2.2.2.2.2, _, _, _, _, _, _, _, _, _, _, _, _, _, _, _, h2, rfl⟩
  | true =>
    rw [if_pos rfl, if_neg n10, if_pos rfl, or10 (by omega), nI_1]
    exact ⟨r.2.2.2.2.2.2, _, _, _, _, _, _, _, _, _, _, _, _, _, _, _, h2, rfl⟩
theorem c_kl1 {k : Ka} {q : Sa} {li ki go co lk beh whr hrs : Nat → Int32} {c sp : Nat} (hk : kok k) (hev : k.ev ≤ 999) (hC : relC (nI k.hs, nI k.cm, nI k.ev, li, ki, go, co, lk) k) (hq : sok k.hs q) (hS : ∀ i, i < q.1 → beh i = nI (q.2.1 i) ∧ whr i = nI (q.2.2.1 i) ∧ hrs i = nI (q.2.2.2 i)) (hsp : sp ≤ 10) (hre : ∀ i, i < q.1 → q.2.1 i < sp) (hc : c < k.cm) (f m : Nat) (y3 y4 y5 y6 : Nat → Int32) (y7 y8 y9 y10 y11 y12 : Int32) (y13 y14 y15 y16 y17 : Nat → Int32) (y18 y19 : Int32) (y20 y21 : Nat → Int32) : ∃ (row : Nat → Int32) (z7 z8 z9 z10 z11 z12 : Int32) (z13 z14 z15 z16 z17 : Nat → Int32) (z18 z19 : Int32) (z20 z21 : Nat → Int32), told4 row (setKd k c 1) sp ∧ L_X3_kindsLeft_5 (nI k.hs) (nI k.cm) (nI k.ev) co go ki lk li (nI q.1) beh hrs whr (nI c) (nI sp) (f + 1) (nI m) (nI 1) y3 y4 y5 y6 y7 y8 y9 y10 y11 y12 y13 y14 y15 y16 y17 y18 y19 y20 y21 = L_X3_kindsLeft_5 (nI k.hs) (nI k.cm) (nI k.ev) co go ki lk li (nI q.1) beh hrs whr (nI c) (nI sp) f (nI (if gK k q c 1 then m ||| 2 ^ 1 else m)) (nI 2) y3 row y5 y6 z7 z8 z9 z10 z11 z12 z13 z14 z15 z16 z17 z18 z19 z20 z21 := by
  have k4 := hk.1
  have k6 := hk.2.1
  obtain ⟨r, h1, h2⟩ := e_foretell (kok_kd (c := c) (v := 1) hk (by omega)) (relC_kd (c := c) (v := 1) hC) hsp (by show k.ev + sp ≤ 2000; omega) y18 y19 y20 y21 y4
  have h1 : f_X3_foretell (nI k.hs) (nI k.hs) (nI k.cm) (nI k.ev) co go (upd ki c (nI 1)) lk li y18 y19 y20 y21 y4 (nI sp) = some r := h1
  have h3 : f_X7_agreeWith (nI q.1) beh hrs whr r.2.2.2.2.2.2 = some (if gK k q c 1 then 1 else 0) := e_agree (F := fR (setKd k c 1)) k4 (fun n h => hrK_le _ _) hq hS (fun i hi => h2 _ (hre i hi) _ (hq.2 i hi).2.1)
  rw [L_X3_kindsLeft_5, if_neg (by decide), e_rst, sb, if_pos (inb_nI (by omega) (by omega)), if_neg (by decide), if_pos (by decide), ix_nI (by omega)]
  dsimp only
  rw [h1, sb, h3, sb]
  cases hg : gK k q c 1 with
  | false =>
    rw [if_pos (show (if false = true then (1 : Int32) else 0) = 0 from rfl), if_neg (by decide), nI_1]
    exact ⟨r.2.2.2.2.2.2, _, _, _, _, _, _, _, _, _, _, _, _, _, _, _, h2, rfl⟩
  | true =>
    rw [if_pos rfl, if_neg n10, if_pos rfl, or10 (by omega), nI_1]
    exact ⟨r.2.2.2.2.2.2, _, _, _, _, _, _, _, _, _, _, _, _, _, _, _, h2, rfl⟩
theorem c_kl2 {k : Ka} {q : Sa} {li ki go co lk beh whr hrs : Nat → Int32} {c sp : Nat} (hk : kok k) (hev : k.ev ≤ 999) (hC : relC (nI k.hs, nI k.cm, nI k.ev, li, ki, go, co, lk) k) (hq : sok k.hs q) (hS : ∀ i, i < q.1 → beh i = nI (q.2.1 i) ∧ whr i = nI (q.2.2.1 i) ∧ hrs i = nI (q.2.2.2 i)) (hsp : sp ≤ 10) (hre : ∀ i, i < q.1 → q.2.1 i < sp) (hc : c < k.cm) (f m : Nat) (y3 y4 y5 y6 : Nat → Int32) (y7 y8 y9 y10 y11 y12 : Int32) (y13 y14 y15 y16 y17 : Nat → Int32) (y18 y19 : Int32) (y20 y21 : Nat → Int32) : ∃ (row : Nat → Int32) (z7 z8 z9 z10 z11 z12 : Int32) (z13 z14 z15 z16 z17 : Nat → Int32) (z18 z19 : Int32) (z20 z21 : Nat → Int32), told4 row (setKd k c 2) sp ∧ L_X3_kindsLeft_5 (nI k.hs) (nI k.cm) (nI k.ev) co go ki lk li (nI q.1) beh hrs whr (nI c) (nI sp) (f + 1) (nI m) (nI 2) y3 y4 y5 y6 y7 y8 y9 y10 y11 y12 y13 y14 y15 y16 y17 y18 y19 y20 y21 = L_X3_kindsLeft_5 (nI k.hs) (nI k.cm) (nI k.ev) co go ki lk li (nI q.1) beh hrs whr (nI c) (nI sp) f (nI (if gK k q c 2 then m ||| 2 ^ 2 else m)) (nI 3) y3 y4 row y6 z7 z8 z9 z10 z11 z12 z13 z14 z15 z16 z17 z18 z19 z20 z21 := by
  have k4 := hk.1
  have k6 := hk.2.1
  obtain ⟨r, h1, h2⟩ := e_foretell (kok_kd (c := c) (v := 2) hk (by omega)) (relC_kd (c := c) (v := 2) hC) hsp (by show k.ev + sp ≤ 2000; omega) y18 y19 y20 y21 y5
  have h1 : f_X3_foretell (nI k.hs) (nI k.hs) (nI k.cm) (nI k.ev) co go (upd ki c (nI 2)) lk li y18 y19 y20 y21 y5 (nI sp) = some r := h1
  have h3 : f_X7_agreeWith (nI q.1) beh hrs whr r.2.2.2.2.2.2 = some (if gK k q c 2 then 1 else 0) := e_agree (F := fR (setKd k c 2)) k4 (fun n h => hrK_le _ _) hq hS (fun i hi => h2 _ (hre i hi) _ (hq.2 i hi).2.1)
  rw [L_X3_kindsLeft_5, if_neg (by decide), e_rst, sb, if_pos (inb_nI (by omega) (by omega)), if_neg (by decide), if_neg (by decide), if_pos (by decide), ix_nI (by omega)]
  dsimp only
  rw [h1, sb, h3, sb]
  cases hg : gK k q c 2 with
  | false =>
    rw [if_pos (show (if false = true then (1 : Int32) else 0) = 0 from rfl), if_neg (by decide), nI_1]
    exact ⟨r.2.2.2.2.2.2, _, _, _, _, _, _, _, _, _, _, _, _, _, _, _, h2, rfl⟩
  | true =>
    rw [if_pos rfl, if_neg n10, if_pos rfl, or10 (by omega), nI_1]
    exact ⟨r.2.2.2.2.2.2, _, _, _, _, _, _, _, _, _, _, _, _, _, _, _, h2, rfl⟩
theorem c_kl3 {k : Ka} {q : Sa} {li ki go co lk beh whr hrs : Nat → Int32} {c sp : Nat} (hk : kok k) (hev : k.ev ≤ 999) (hC : relC (nI k.hs, nI k.cm, nI k.ev, li, ki, go, co, lk) k) (hq : sok k.hs q) (hS : ∀ i, i < q.1 → beh i = nI (q.2.1 i) ∧ whr i = nI (q.2.2.1 i) ∧ hrs i = nI (q.2.2.2 i)) (hsp : sp ≤ 10) (hre : ∀ i, i < q.1 → q.2.1 i < sp) (hc : c < k.cm) (f m : Nat) (y3 y4 y5 y6 : Nat → Int32) (y7 y8 y9 y10 y11 y12 : Int32) (y13 y14 y15 y16 y17 : Nat → Int32) (y18 y19 : Int32) (y20 y21 : Nat → Int32) : ∃ (row : Nat → Int32) (z7 z8 z9 z10 z11 z12 : Int32) (z13 z14 z15 z16 z17 : Nat → Int32) (z18 z19 : Int32) (z20 z21 : Nat → Int32), told4 row (setKd k c 3) sp ∧ L_X3_kindsLeft_5 (nI k.hs) (nI k.cm) (nI k.ev) co go ki lk li (nI q.1) beh hrs whr (nI c) (nI sp) (f + 1) (nI m) (nI 3) y3 y4 y5 y6 y7 y8 y9 y10 y11 y12 y13 y14 y15 y16 y17 y18 y19 y20 y21 = L_X3_kindsLeft_5 (nI k.hs) (nI k.cm) (nI k.ev) co go ki lk li (nI q.1) beh hrs whr (nI c) (nI sp) f (nI (if gK k q c 3 then m ||| 2 ^ 3 else m)) (nI 4) y3 y4 y5 row z7 z8 z9 z10 z11 z12 z13 z14 z15 z16 z17 z18 z19 z20 z21 := by
  have k4 := hk.1
  have k6 := hk.2.1
  obtain ⟨r, h1, h2⟩ := e_foretell (kok_kd (c := c) (v := 3) hk (by omega)) (relC_kd (c := c) (v := 3) hC) hsp (by show k.ev + sp ≤ 2000; omega) y18 y19 y20 y21 y6
  have h1 : f_X3_foretell (nI k.hs) (nI k.hs) (nI k.cm) (nI k.ev) co go (upd ki c (nI 3)) lk li y18 y19 y20 y21 y6 (nI sp) = some r := h1
  have h3 : f_X7_agreeWith (nI q.1) beh hrs whr r.2.2.2.2.2.2 = some (if gK k q c 3 then 1 else 0) := e_agree (F := fR (setKd k c 3)) k4 (fun n h => hrK_le _ _) hq hS (fun i hi => h2 _ (hre i hi) _ (hq.2 i hi).2.1)
  rw [L_X3_kindsLeft_5, if_neg (by decide), e_rst, sb, if_pos (inb_nI (by omega) (by omega)), if_neg (by decide), if_neg (by decide), if_neg (by decide), if_pos (by decide), ix_nI (by omega)]
  dsimp only
  rw [h1, sb, h3, sb]
  cases hg : gK k q c 3 with
  | false =>
    rw [if_pos (show (if false = true then (1 : Int32) else 0) = 0 from rfl), if_neg (by decide), nI_1]
    exact ⟨r.2.2.2.2.2.2, _, _, _, _, _, _, _, _, _, _, _, _, _, _, _, h2, rfl⟩
  | true =>
    rw [if_pos rfl, if_neg n10, if_pos rfl, or10 (by omega), nI_1]
    exact ⟨r.2.2.2.2.2.2, _, _, _, _, _, _, _, _, _, _, _, _, _, _, _, h2, rfl⟩
theorem e_kindsLeft {k : Ka} {q : Sa} {li ki go co lk beh whr hrs : Nat → Int32} {c sp : Nat} (hk : kok k) (hev : k.ev ≤ 999) (hC : relC (nI k.hs, nI k.cm, nI k.ev, li, ki, go, co, lk) k) (hq : sok k.hs q) (hS : ∀ i, i < q.1 → beh i = nI (q.2.1 i) ∧ whr i = nI (q.2.2.1 i) ∧ hrs i = nI (q.2.2.2 i)) (hsp : sp ≤ 10) (hre : ∀ i, i < q.1 → q.2.1 i < sp) (hc : c < k.cm) (y3 y4 y5 y6 : Nat → Int32) (y7 y8 y9 y10 y11 y12 : Int32) (y13 y14 y15 y16 y17 : Nat → Int32) (y18 y19 : Int32) (y20 y21 : Nat → Int32) : ∃ r, f_X3_kindsLeft y3 y4 y5 y6 (nI k.hs) (nI k.cm) (nI k.ev) co go ki lk li (nI q.1) beh hrs whr y7 y8 y9 y10 y11 y12 y13 y14 y15 y16 y17 y18 y19 y20 y21 (nI c) (nI sp) = some r ∧ r.1 = nI (msk (gK k q c) 4) ∧ told4 r.2.1 (setKd k c 0) sp ∧ told4 r.2.2.1 (setKd k c 1) sp ∧ told4 r.2.2.2.1 (setKd k c 2) sp ∧ told4 r.2.2.2.2.1 (setKd k c 3) sp := by
  obtain ⟨w0, a7, a8, a9, a10, a11, a12, a13, a14, a15, a16, a17, a18, a19, a20, a21, t0, e0⟩ := c_kl0 hk hev hC hq hS hsp hre hc 399 (msk (gK k q c) 0) y3 y4 y5 y6 y7 y8 y9 y10 y11 y12 y13 y14 y15 y16 y17 y18 y19 y20 y21
  obtain ⟨w1, b7, b8, b9, b10, b11, b12, b13, b14, b15, b16, b17, b18, b19, b20, b21, t1, e1⟩ := c_kl1 hk hev hC hq hS hsp hre hc 398 (msk (gK k q c) 1) w0 y4 y5 y6 a7 a8 a9 a10 a11 a12 a13 a14 a15 a16 a17 a18 a19 a20 a21
  obtain ⟨w2, c7, c8, c9, c10, c11, c12, c13, c14, c15, c16, c17, c18, c19, c20, c21, t2, e2⟩ := c_kl2 hk hev hC hq hS hsp hre hc 397 (msk (gK k q c) 2) w0 w1 y5 y6 b7 b8 b9 b10 b11 b12 b13 b14 b15 b16 b17 b18 b19 b20 b21
  obtain ⟨w3, d7, d8, d9, d10, d11, d12, d13, d14, d15, d16, d17, d18, d19, d20, d21, t3, e3⟩ := c_kl3 hk hev hC hq hS hsp hre hc 396 (msk (gK k q c) 3) w0 w1 w2 y6 c7 c8 c9 c10 c11 c12 c13 c14 c15 c16 c17 c18 c19 c20 c21
  have e : L_X3_kindsLeft_5 (nI k.hs) (nI k.cm) (nI k.ev) co go ki lk li (nI q.1) beh hrs whr (nI c) (nI sp) 400 0 0 y3 y4 y5 y6 y7 y8 y9 y10 y11 y12 y13 y14 y15 y16 y17 y18 y19 y20 y21 = L_X3_kindsLeft_5 (nI k.hs) (nI k.cm) (nI k.ev) co go ki lk li (nI q.1) beh hrs whr (nI c) (nI sp) 396 (nI (msk (gK k q c) 4)) (nI 4) w0 w1 w2 w3 d7 d8 d9 d10 d11 d12 d13 d14 d15 d16 d17 d18 d19 d20 d21 := e0.trans (e1.trans (e2.trans e3))
  unfold f_X3_kindsLeft
  rw [e, L_X3_kindsLeft_5, if_pos (by decide), sb]
  exact ⟨_, rfl, rfl, t0, t1, t2, t3⟩
theorem c_lv {k : Ka} {q : Sa} {li ki go co lk beh whr hrs : Nat → Int32} {h c sp : Nat} (hk : kok k) (hev : k.ev ≤ 999) (hC : relC (nI k.hs, nI k.cm, nI k.ev, li, ki, go, co, lk) k) (hq : sok k.hs q) (hS : ∀ i, i < q.1 → beh i = nI (q.2.1 i) ∧ whr i = nI (q.2.2.1 i) ∧ hrs i = nI (q.2.2.2 i)) (hsp : sp ≤ 10) (hre : ∀ i, i < q.1 → q.2.1 i < sp) (hh : h < k.hs) (hc : c < k.cm) : ∀ (p t f : Nat) (y4 : Nat → Int32) (y5 y6 y7 y8 y9 y10 : Int32) (y11 y12 y13 y14 y15 : Nat → Int32) (y16 y17 : Int32) (y18 y19 : Nat → Int32), t + p = 10 → p < f → ∃ r, L_X3_levelsLeft_14 (nI k.hs) (nI k.cm) (nI k.ev) co go ki lk li (nI q.1) beh hrs whr (nI h) (nI c) (nI sp) f (nI (msk (gL k q h c) t)) (nI t) y4 y5 y6 y7 y8 y9 y10 y11 y12 y13 y14 y15 y16 y17 y18 y19 = some r ∧ r.1 = nI (msk (gL k q h c) 10) := by
  have k4 := hk.1
  have k6 := hk.2.1
  intro p
  induction p with
  | zero =>
    intro t f y4 y5 y6 y7 y8 y9 y10 y11 y12 y13 y14 y15 y16 y17 y18 y19 e hf
    obtain ⟨f, rfl⟩ : ∃ f', f = f' + 1 := ⟨f - 1, by omega⟩
    have e2 : t = 10 := by omega
    rw [L_X3_levelsLeft_14, if_pos (show (9 : Int32) < nI t from by rw [e2]; decide), e2]
    exact ⟨_, rfl, rfl⟩
  | succ p ih =>
    intro t f y4 y5 y6 y7 y8 y9 y10 y11 y12 y13 y14 y15 y16 y17 y18 y19 e hf
    obtain ⟨f, rfl⟩ : ∃ f', f = f' + 1 := ⟨f - 1, by omega⟩
    obtain ⟨r, h1, h2⟩ := e_foretell (kok_lk (h := h) (c := c) (v := t) hk (by omega)) (relC_lk (i := h) (j := c) (v := t) k6 (by omega) hC) hsp (by show k.ev + sp ≤ 2000; omega) y16 y17 y18 y19 y4
    have h1 : f_X3_foretell (nI k.hs) (nI k.hs) (nI k.cm) (nI k.ev) co go ki (upd lk (6 * h + c) (nI t)) li y16 y17 y18 y19 y4 (nI sp) = some r := h1
    have h3 : f_X7_agreeWith (nI q.1) beh hrs whr r.2.2.2.2.2.2 = some (if gL k q h c t then 1 else 0) := e_agree (F := fR (setLk k h c t)) k4 (fun n h => hrK_le _ _) hq hS (fun i hi => h2 _ (hre i hi) _ (hq.2 i hi).2.1)
    have ih := fun y4 y5 y6 y7 y8 y9 y10 y11 y12 y13 y14 y15 y16 y17 y18 y19 => ih (t + 1) f y4 y5 y6 y7 y8 y9 y10 y11 y12 y13 y14 y15 y16 y17 y18 y19 (by omega) (by omega)
    rw [L_X3_levelsLeft_14, if_neg (show ¬ (9 : Int32) < nI t from nI_nlt (a := 9) (by omega) (by omega)), e_rst, sb]
    dsimp only
    rw [e_setLiked (by omega) (by omega), sb, h1, sb, h3, sb]
    cases hg : gL k q h c t with
    | false =>
      rw [if_pos (show (if false = true then (1 : Int32) else 0) = 0 from rfl), nI_1]
      have e5 : msk (gL k q h c) (t + 1) = msk (gL k q h c) t := by rw [msk, hg, if_neg (by decide)]
      rw [e5] at ih
      exact ih _ _ _ _ _ _ _ _ _ _ _ _ _ _ _ _
    | true =>
      rw [if_pos rfl, if_neg n10, or10 (by omega), nI_1]
      have e5 : msk (gL k q h c) (t + 1) = msk (gL k q h c) t ||| 2 ^ t := by rw [msk, hg, if_pos rfl]
      rw [e5] at ih
      exact ih _ _ _ _ _ _ _ _ _ _ _ _ _ _ _ _
theorem p_kinds (s : SX) (t : TM) (x1 : Int32) (hI : Inv s t) : ∃ (v : Int32 × (Nat → Int32) × (Nat → Int32) × (Nat → Int32) × (Nat → Int32) × Int32 × Int32 × Int32 × Int32 × Int32 × Int32 × (Nat → Int32) × (Nat → Int32) × (Nat → Int32) × (Nat → Int32) × (Nat → Int32) × Int32 × Int32 × (Nat → Int32) × (Nat → Int32)) (w : Int32 × Int32 × Int32 × Int32 × (Nat → Int32) × (Nat → Int32) × (Nat → Int32) × (Nat → Int32)), f_X11_kinds s.gss.2.2.1 s.gss.2.2.2.1 s.gss.2.2.2.2.1 s.gss.2.2.2.2.2 s.now.1 s.now.2.1 s.now.2.2.1 s.now.2.2.2.2.2.2.1 s.now.2.2.2.2.2.1 s.now.2.2.2.2.1 s.now.2.2.2.2.2.2.2 s.now.2.2.2.1 s.seen.1 s.seen.2.1 s.seen.2.2.2 s.seen.2.2.1 s.tri.1 s.tri.2.1 s.tri.2.2 s.tcy.1 s.tcy.2.1 s.tcy.2.2.1 s.tcy.2.2.2.2.2.2.1 s.tcy.2.2.2.2.2.1 s.tcy.2.2.2.2.1 s.tcy.2.2.2.2.2.2.2 s.tcy.2.2.2.1 s.evg.1 s.evg.2.1 s.evg.2.2.1 s.evg.2.2.2 x1 = some v ∧ f_X12_kinds t.houses t.comers t.home t.dinners t.waited t.began t.begunBy t.hours t.now t.st x1 = some w ∧ v.1 = w.1 ∧ Inv (s.torn, s.tape, s.rdr, s.drf, s.now, s.seen, (v.2.2.2.2.2.1, v.2.2.2.2.2.2.1, v.2.2.2.2.2.2.2.1), (v.2.2.2.2.2.2.2.2.1, v.2.2.2.2.2.2.2.2.2.1, v.2.2.2.2.2.2.2.2.2.2.1, v.2.2.2.2.2.2.2.2.2.2.2.2.2.2.2.1, v.2.2.2.2.2.2.2.2.2.2.2.2.2.1, v.2.2.2.2.2.2.2.2.2.2.2.2.1, v.2.2.2.2.2.2.2.2.2.2.2.1, v.2.2.2.2.2.2.2.2.2.2.2.2.2.2.1), (v.2.2.2.2.2.2.2.2.2.2.2.2.2.2.2.2.1, v.2.2.2.2.2.2.2.2.2.2.2.2.2.2.2.2.2.1, v.2.2.2.2.2.2.2.2.2.2.2.2.2.2.2.2.2.2.1, v.2.2.2.2.2.2.2.2.2.2.2.2.2.2.2.2.2.2.2), s.adv, (s.gss.1, s.gss.2.1, v.2.1, v.2.2.1, v.2.2.2.1, v.2.2.2.2.1), s.im0, s.im1, s.sh0, s.sh1, s.sh2, s.sh3) ((t.st, w.2.2.2.2.2.2.2, t.isKept, t.houses, t.comers, t.draft, t.dHouses, t.dComers, t.highestHouse), t.m1, (w.2.1, w.2.2.2.2.1, w.2.2.2.2.2.1, w.2.2.1, w.2.2.2.1, t.beginSum, t.dinnerSum, t.allWays, w.2.2.2.2.2.2.1), t.m3) := by
  obtain ⟨k, q, htw, eh, ec, hi⟩ := id hI.1
  obtain ⟨hk, hev, hC, hM, hq, hS, hSM⟩ := id htw
  have k4 := hk.1
  have k6 := hk.2.1
  have c1 : s.now.1 = nI k.hs := hC.1
  have c2 : s.now.2.1 = nI k.cm := hC.2.1
  have c3 : s.now.2.2.1 = nI k.ev := hC.2.2.1
  have c4 : s.seen.1 = nI q.1 := hS.1
  rcases ixc x1 (n := k.cm) (by omega) with hb | ⟨c, hc, rfl⟩
  · have a1 : f_X11_noComer s.now.2.1 x1 = some 1 := by rw [c2]; exact nc_bad (by omega) hb
    have a2 : f_X12_isComer t.comers x1 = some 0 := by rw [ec]; exact ic_bad (by omega) hb
    refine ex2 (-1) ?_ ?_ (fun _ _ => hI)
    · unfold f_X11_kinds; rw [a1, sb, if_neg n10]; exact ⟨_, rfl, rfl⟩
    · unfold f_X12_kinds; rw [a2, sb, if_pos rfl]; exact ⟨_, rfl, rfl⟩
  · have a1 : f_X11_noComer (nI k.cm) (nI c) = some 0 := nc_ok (by omega) hc
    have a2 : f_X12_isComer (nI k.cm) (nI c) = some 1 := ic_ok (by omega) hc
    have hC2 : relC (nI k.hs, nI k.cm, nI k.ev, s.now.2.2.2.1, s.now.2.2.2.2.1, s.now.2.2.2.2.2.1, s.now.2.2.2.2.2.2.1, s.now.2.2.2.2.2.2.2) k := ⟨rfl, rfl, rfl, hC.2.2.2⟩
    obtain ⟨sp, hsp, g1, g2⟩ := e_reach (beh := s.seen.2.1) hq (fun i hi => (hS.2 i hi).1)
    obtain ⟨r, r1, r2, -⟩ := e_kindsLeft hk hev hC2 hq hS.2 hsp g2 hc s.gss.2.2.1 s.gss.2.2.2.1 s.gss.2.2.2.2.1 s.gss.2.2.2.2.2 s.tri.1 s.tri.2.1 s.tri.2.2 s.tcy.1 s.tcy.2.1 s.tcy.2.2.1 s.tcy.2.2.2.2.2.2.1 s.tcy.2.2.2.2.2.1 s.tcy.2.2.2.2.1 s.tcy.2.2.2.2.2.2.2 s.tcy.2.2.2.1 s.evg.1 s.evg.2.1 s.evg.2.2.1 s.evg.2.2.2
    obtain ⟨u, u1, u2⟩ := m_kinds hk hev hq hM hSM hc 4 0 400 t.home t.dinners t.waited t.began t.begunBy t.hours t.now (by omega) (by omega)
    have u1 : L_X12_kinds_14 (nI k.hs) (nI k.cm) t.st (nI c) 400 0 0 t.home t.dinners t.waited t.began t.begunBy t.hours t.now = some u := u1
    refine ex2 (nI (msk (gK k q c) 4)) ?_ ?_ (fun _ _ => hI)
    · unfold f_X11_kinds
      rw [c1, c2, c3, c4, a1, sb, if_pos rfl, g1, sb, r1, sb]
      exact ⟨_, rfl, r2⟩
    · unfold f_X12_kinds
      rw [eh, ec, a2, sb, if_neg n10, u1, sb]
      exact ⟨_, rfl, u2⟩
theorem p_levels (s : SX) (t : TM) (x1 : Int32) (x2 : Int32) (hI : Inv s t) : ∃ (v : Int32 × (Nat → Int32) × (Nat → Int32) × (Nat → Int32) × (Nat → Int32) × Int32 × Int32 × Int32 × Int32 × Int32 × Int32 × (Nat → Int32) × (Nat → Int32) × (Nat → Int32) × (Nat → Int32) × (Nat → Int32) × Int32 × Int32 × (Nat → Int32) × (Nat → Int32)) (w : Int32 × Int32 × Int32 × Int32 × (Nat → Int32) × (Nat → Int32) × (Nat → Int32) × (Nat → Int32)), f_X11_levels s.gss.2.2.1 s.gss.2.2.2.1 s.gss.2.2.2.2.1 s.gss.2.2.2.2.2 s.now.1 s.now.2.1 s.now.2.2.1 s.now.2.2.2.2.2.2.1 s.now.2.2.2.2.2.1 s.now.2.2.2.2.1 s.now.2.2.2.2.2.2.2 s.now.2.2.2.1 s.seen.1 s.seen.2.1 s.seen.2.2.2 s.seen.2.2.1 s.tri.1 s.tri.2.1 s.tri.2.2 s.tcy.1 s.tcy.2.1 s.tcy.2.2.1 s.tcy.2.2.2.2.2.2.1 s.tcy.2.2.2.2.2.1 s.tcy.2.2.2.2.1 s.tcy.2.2.2.2.2.2.2 s.tcy.2.2.2.1 s.evg.1 s.evg.2.1 s.evg.2.2.1 s.evg.2.2.2 x1 x2 = some v ∧ f_X12_levels t.houses t.comers t.home t.dinners t.waited t.began t.begunBy t.hours t.now t.st x1 x2 = some w ∧ v.1 = w.1 ∧ Inv (s.torn, s.tape, s.rdr, s.drf, s.now, s.seen, (v.2.2.2.2.2.1, v.2.2.2.2.2.2.1, v.2.2.2.2.2.2.2.1), (v.2.2.2.2.2.2.2.2.1, v.2.2.2.2.2.2.2.2.2.1, v.2.2.2.2.2.2.2.2.2.2.1, v.2.2.2.2.2.2.2.2.2.2.2.2.2.2.2.1, v.2.2.2.2.2.2.2.2.2.2.2.2.2.1, v.2.2.2.2.2.2.2.2.2.2.2.2.1, v.2.2.2.2.2.2.2.2.2.2.2.1, v.2.2.2.2.2.2.2.2.2.2.2.2.2.2.1), (v.2.2.2.2.2.2.2.2.2.2.2.2.2.2.2.2.1, v.2.2.2.2.2.2.2.2.2.2.2.2.2.2.2.2.2.1, v.2.2.2.2.2.2.2.2.2.2.2.2.2.2.2.2.2.2.1, v.2.2.2.2.2.2.2.2.2.2.2.2.2.2.2.2.2.2.2), s.adv, (s.gss.1, s.gss.2.1, v.2.1, v.2.2.1, v.2.2.2.1, v.2.2.2.2.1), s.im0, s.im1, s.sh0, s.sh1, s.sh2, s.sh3) ((t.st, w.2.2.2.2.2.2.2, t.isKept, t.houses, t.comers, t.draft, t.dHouses, t.dComers, t.highestHouse), t.m1, (w.2.1, w.2.2.2.2.1, w.2.2.2.2.2.1, w.2.2.1, w.2.2.2.1, t.beginSum, t.dinnerSum, t.allWays, w.2.2.2.2.2.2.1), t.m3) := by
  obtain ⟨k, q, htw, eh, ec, hi⟩ := id hI.1
  obtain ⟨hk, hev, hC, hM, hq, hS, hSM⟩ := id htw
  have k4 := hk.1
  have k6 := hk.2.1
  have c1 : s.now.1 = nI k.hs := hC.1
  have c2 : s.now.2.1 = nI k.cm := hC.2.1
  have c3 : s.now.2.2.1 = nI k.ev := hC.2.2.1
  have c4 : s.seen.1 = nI q.1 := hS.1
  rcases ixc x1 (n := k.hs) (by omega) with hb | ⟨h, hh, rfl⟩
  · have a1 : f_X11_noHouse s.now.1 x1 = some 1 := by rw [c1]; exact nh_bad (by omega) hb
    have a2 : f_X12_isHouse t.houses x1 = some 0 := by rw [eh]; exact ih_bad (by omega) hb
    refine ex2 (-1) ?_ ?_ (fun _ _ => hI)
    · unfold f_X11_levels; rw [a1, sb, if_neg n10]; exact ⟨_, rfl, rfl⟩
    · unfold f_X12_levels; rw [a2, sb, if_pos rfl]; exact ⟨_, rfl, rfl⟩
  · have a1 : f_X11_noHouse (nI k.hs) (nI h) = some 0 := nh_ok (by omega) hh
    have a2 : f_X12_isHouse (nI k.hs) (nI h) = some 1 := ih_ok (by omega) hh
    rcases ixc x2 (n := k.cm) (by omega) with hb | ⟨c, hc, rfl⟩
    · have b1 : f_X11_noComer (nI k.cm) x2 = some 1 := nc_bad (by omega) hb
      have b2 : f_X12_isComer (nI k.cm) x2 = some 0 := ic_bad (by omega) hb
      refine ex2 (-1) ?_ ?_ (fun _ _ => hI)
      · unfold f_X11_levels; rw [c1, c2, a1, sb, if_pos rfl, b1, sb, if_neg n10]; exact ⟨_, rfl, rfl⟩
      · unfold f_X12_levels; rw [eh, ec, a2, sb, if_neg n10, b2, sb, if_pos rfl]; exact ⟨_, rfl, rfl⟩
    · have b1 : f_X11_noComer (nI k.cm) (nI c) = some 0 := nc_ok (by omega) hc
      have b2 : f_X12_isComer (nI k.cm) (nI c) = some 1 := ic_ok (by omega) hc
      have hC2 : relC (nI k.hs, nI k.cm, nI k.ev, s.now.2.2.2.1, s.now.2.2.2.2.1, s.now.2.2.2.2.2.1, s.now.2.2.2.2.2.2.1, s.now.2.2.2.2.2.2.2) k := ⟨rfl, rfl, rfl, hC.2.2.2⟩
      obtain ⟨sp, hsp, g1, g2⟩ := e_reach (beh := s.seen.2.1) hq (fun i hi => (hS.2 i hi).1)
      obtain ⟨r, r1, r2⟩ := c_lv hk hev hC2 hq hS.2 hsp g2 hh hc 10 0 400 s.gss.2.2.1 s.tri.1 s.tri.2.1 s.tri.2.2 s.tcy.1 s.tcy.2.1 s.tcy.2.2.1 s.tcy.2.2.2.2.2.2.1 s.tcy.2.2.2.2.2.1 s.tcy.2.2.2.2.1 s.tcy.2.2.2.2.2.2.2 s.tcy.2.2.2.1 s.evg.1 s.evg.2.1 s.evg.2.2.1 s.evg.2.2.2 (by omega) (by omega)
      have r1 : L_X3_levelsLeft_14 (nI k.hs) (nI k.cm) (nI k.ev) s.now.2.2.2.2.2.2.1 s.now.2.2.2.2.2.1 s.now.2.2.2.2.1 s.now.2.2.2.2.2.2.2 s.now.2.2.2.1 (nI q.1) s.seen.2.1 s.seen.2.2.2 s.seen.2.2.1 (nI h) (nI c) (nI sp) 400 0 0 s.gss.2.2.1 s.tri.1 s.tri.2.1 s.tri.2.2 s.tcy.1 s.tcy.2.1 s.tcy.2.2.1 s.tcy.2.2.2.2.2.2.1 s.tcy.2.2.2.2.2.1 s.tcy.2.2.2.2.1 s.tcy.2.2.2.2.2.2.2 s.tcy.2.2.2.1 s.evg.1 s.evg.2.1 s.evg.2.2.1 s.evg.2.2.2 = some r := r1
      obtain ⟨u, u1, u2⟩ := m_levels hk hev hq hM hSM hh hc 10 0 400 t.home t.dinners t.waited t.began t.begunBy t.hours t.now (by omega) (by omega)
      have u1 : L_X12_levels_23 (nI k.hs) (nI k.cm) t.st (nI h) (nI c) 400 0 0 t.home t.dinners t.waited t.began t.begunBy t.hours t.now = some u := u1
      refine ex2 (nI (msk (gL k q h c) 10)) ?_ ?_ (fun _ _ => hI)
      · unfold f_X11_levels f_X3_levelsLeft
        rw [c1, c2, c3, c4, a1, sb, if_pos rfl, b1, sb, if_pos rfl, g1, sb, r1, sb, sb]
        exact ⟨_, rfl, r2⟩
      · unfold f_X12_levels
        rw [eh, ec, a2, sb, if_neg n10, b2, sb, if_neg n10, u1, sb]
        exact ⟨_, rfl, u2⟩
