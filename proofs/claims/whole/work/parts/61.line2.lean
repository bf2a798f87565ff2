/-! the draft on both sides -/
def DR (li ki go co lk a : Nat → Int32) (hh hc : Int32) (k : Ka) : Prop :=
  (k.hs ≤ 4 ∧ k.cm ≤ 6 ∧ k.ev = 0) ∧
  (∀ h, h < k.hs → k.ls h < 64 ∧ li h = nI (k.ls h) ∧ a h = nI (k.ls h)) ∧
  (∀ c, c < k.cm → (k.kd c < 4 ∧ (k.go c < 4 ∨ k.go c = 9) ∧ k.co c ≤ 6) ∧ (ki c = nI (k.kd c) ∧ go c = nI (k.go c) ∧ co c = nI (k.co c)) ∧ a (4 + 3 * c) = nI (k.kd c) ∧ a (4 + 3 * c + 1) = goI (k.go c) ∧ a (4 + 3 * c + 2) = nI (k.co c)) ∧
  (∀ h, h < 4 → ∀ c, c < k.cm → k.lk h c ≤ 9 ∧ lk (6 * h + c) = nI (k.lk h c) ∧ a (22 + 6 * h + c) = nI (k.lk h c)) ∧
  (a 46 = 0 ∧ a 47 = 0) ∧
  (∀ m, m < 5 → (hh < nI m ↔ ∀ c, c < k.cm → k.go c < 4 → k.go c < m)) ∧
  (∀ m, m < 7 → (hc < nI m ↔ ∀ h, h < k.hs → k.ls h < 2 ^ m))
def addH (k : Ka) (l : Nat) : Ka := ((k.hs + 1, k.cm, k.ev), upN k.ls k.hs l, k.kd, k.go, k.co, k.lk)
def addC (k : Ka) (kd h1 t1 mu : Nat) : Ka := ((k.hs, k.cm + 1, k.ev), k.ls, upN k.kd k.cm kd, upN k.go k.cm h1, upN k.co k.cm t1, fun h c => if c = k.cm then mu else k.lk h c)
section
variable {li ki go co lk a : Nat → Int32} {hh hc : Int32} {k : Ka}
theorem DR_H {l : Nat} {li' : Nat → Int32} {hc1 : Int32} (D : DR li ki go co lk a hh hc k) (h4 : k.hs < 4) (l6 : l < 64) (e1 : li' k.hs = nI l) (e2 : ∀ j, j ≠ k.hs → li' j = li j) (e3 : ∀ m, m < 7 → (hc1 < nI m ↔ hc < nI m ∧ l < 2 ^ m)) : DR li' ki go co lk (upd a k.hs (nI l)) hh hc1 (addH k l) := by
  obtain ⟨⟨d1, d2, d3⟩, d4, d5, d6, d7, d8, d9⟩ := D
  refine ⟨⟨by show k.hs + 1 ≤ 4; omega, d2, d3⟩, fun h hh => ?_, fun c hc => ?_, fun h hh c hc => ?_, ?_, d8, fun m hm => ?_⟩
  · have hh : h < k.hs + 1 := hh
    show upN k.ls k.hs l h < 64 ∧ li' h = nI (upN k.ls k.hs l h) ∧ upd a k.hs (nI l) h = nI (upN k.ls k.hs l h)
    unfold upN
    rw [upd_at]
    by_cases e : h = k.hs
    · rw [if_pos e, if_pos e, e]
      exact ⟨l6, e1, rfl⟩
    · rw [if_neg e, if_neg e, e2 h e]
      exact d4 h (by omega)
  · have hc : c < k.cm := hc
    obtain ⟨x1, x2, x3, x4, x5⟩ := d5 c hc
    exact ⟨x1, x2, (upd_ne (by omega)).trans x3, (upd_ne (by omega)).trans x4, (upd_ne (by omega)).trans x5⟩
  · have hc : c < k.cm := hc
    obtain ⟨x1, x2, x3⟩ := d6 h hh c hc
    exact ⟨x1, x2, (upd_ne (by omega)).trans x3⟩
  · exact ⟨(upd_ne (by omega)).trans d7.1, (upd_ne (by omega)).trans d7.2⟩
  · rw [e3 m hm, d9 m hm]
    show _ ↔ ∀ h, h < k.hs + 1 → upN k.ls k.hs l h < 2 ^ m
    constructor
    · rintro ⟨x1, x2⟩ h hh
      unfold upN
      by_cases e : h = k.hs
      · rw [if_pos e]; exact x2
      · rw [if_neg e]; exact x1 h (by omega)
    · intro x
      refine ⟨fun h hh => ?_, ?_⟩
      · have := x h (by omega)
        unfold upN at this
        rwa [if_neg (by omega)] at this
      · have := x k.hs (by omega)
        unfold upN at this
        rwa [if_pos rfl] at this
theorem DR_C {kd h1 t1 mu : Nat} {lk' a' : Nat → Int32} (D : DR li ki go co lk a hh hc k) (c6 : k.cm < 6) (kd4 : kd < 4) (hh1 : h1 < 4 ∨ h1 = 9) (t6 : t1 ≤ 6) (m9 : mu ≤ 9) (A : cmA k.cm a a' (nI kd) (goI h1) (nI t1) (nI mu)) (s2 : ∀ h, h < 4 → lk' (6 * h + k.cm) = nI mu) (s3 : ∀ h, h < 4 → ∀ c, c < 6 → c ≠ k.cm → lk' (6 * h + c) = lk (6 * h + c)) : DR li (upd ki k.cm (nI kd)) (upd go k.cm (nI h1)) (upd co k.cm (nI t1)) lk' a' (hhN hh h1) hc (addC k kd h1 t1 mu) := by
  obtain ⟨⟨d1, d2, d3⟩, d4, d5, d6, d7, d8, d9⟩ := D
  obtain ⟨a1, a2, a3, a4, a5⟩ := A
  refine ⟨⟨d1, by show k.cm + 1 ≤ 6; omega, d3⟩, fun h hh => ?_, fun c hc => ?_, fun h hh c hc => ?_, ?_, fun m hm => ?_, d9⟩
  · have hh : h < k.hs := hh
    obtain ⟨x1, x2, x3⟩ := d4 h hh
    exact ⟨x1, x2, (a5 h (by omega) (by omega) (by omega) (fun i hi => by omega)).trans x3⟩
  · have hc : c < k.cm + 1 := hc
    show (upN k.kd k.cm kd c < 4 ∧ (upN k.go k.cm h1 c < 4 ∨ upN k.go k.cm h1 c = 9) ∧ upN k.co k.cm t1 c ≤ 6) ∧ (upd ki k.cm (nI kd) c = nI (upN k.kd k.cm kd c) ∧ upd go k.cm (nI h1) c = nI (upN k.go k.cm h1 c) ∧ upd co k.cm (nI t1) c = nI (upN k.co k.cm t1 c)) ∧ a' (4 + 3 * c) = nI (upN k.kd k.cm kd c) ∧ a' (4 + 3 * c + 1) = goI (upN k.go k.cm h1 c) ∧ a' (4 + 3 * c + 2) = nI (upN k.co k.cm t1 c)
    unfold upN
    rw [upd_at, upd_at, upd_at]
    by_cases e : c = k.cm
    · rw [if_pos e, if_pos e, if_pos e, if_pos e, if_pos e, if_pos e, e]
      exact ⟨⟨kd4, hh1, t6⟩, ⟨rfl, rfl, rfl⟩, a1, a2, a3⟩
    · rw [if_neg e, if_neg e, if_neg e, if_neg e, if_neg e, if_neg e]
      obtain ⟨x1, x2, x3, x4, x5⟩ := d5 c (by omega)
      exact ⟨x1, x2, (a5 _ (by omega) (by omega) (by omega) (fun i hi => by omega)).trans x3, (a5 _ (by omega) (by omega) (by omega) (fun i hi => by omega)).trans x4, (a5 _ (by omega) (by omega) (by omega) (fun i hi => by omega)).trans x5⟩
  · have hc : c < k.cm + 1 := hc
    show (if c = k.cm then mu else k.lk h c) ≤ 9 ∧ lk' (6 * h + c) = nI (if c = k.cm then mu else k.lk h c) ∧ a' (22 + 6 * h + c) = nI (if c = k.cm then mu else k.lk h c)
    by_cases e : c = k.cm
    · rw [if_pos e, e]
      exact ⟨m9, s2 h hh, a4 h hh⟩
    · rw [if_neg e]
      obtain ⟨x1, x2, x3⟩ := d6 h hh c (by omega)
      exact ⟨x1, (s3 h hh c (by omega) e).trans x2, (a5 _ (by omega) (by omega) (by omega) (fun i hi => by omega)).trans x3⟩
  · exact ⟨(a5 _ (by omega) (by omega) (by omega) (fun i hi => by omega)).trans d7.1, (a5 _ (by omega) (by omega) (by omega) (fun i hi => by omega)).trans d7.2⟩
  · have old := d8 m hm
    show _ ↔ ∀ c, c < k.cm + 1 → upN k.go k.cm h1 c < 4 → upN k.go k.cm h1 c < m
    have new : (∀ c, c < k.cm + 1 → upN k.go k.cm h1 c < 4 → upN k.go k.cm h1 c < m) ↔ (∀ c, c < k.cm → k.go c < 4 → k.go c < m) ∧ (h1 < 4 → h1 < m) := by
      constructor
      · intro x
        refine ⟨fun c hc => ?_, ?_⟩
        · have := x c (by omega)
          unfold upN at this
          rwa [if_neg (by omega)] at this
        · have := x k.cm (by omega)
          unfold upN at this
          rwa [if_pos rfl] at this
      · rintro ⟨x1, x2⟩ c hc
        unfold upN
        by_cases e : c = k.cm
        · rw [if_pos e]; exact x2
        · rw [if_neg e]; exact x1 c (by omega)
    rw [new, ← old]
    unfold hhN
    by_cases q : 4 ≤ h1
    · rw [if_pos q]
      exact ⟨fun x => ⟨x, fun y => by omega⟩, fun x => x.1⟩
    · rw [if_neg q, mx_I (by omega) (by omega)]
      exact ⟨fun x => ⟨x.1, fun _ => x.2⟩, fun x => ⟨x.1, x.2 (by omega)⟩⟩
end
/-! a line -/
theorem fin_bad {g p : Nat} {bg so f w : Int32} (hg : 0 < g ∧ g ≤ 6) (h : bad g p bg so f w) : ((if f = 0 then ((if so = 3 then some 1 else some 0).bind (fun (v10 : Int32) => (f_X12_needs bg f w v10 2).bind (fun (v11 : Int32 × Int32) => some ((v11.1, v11.2))))) else some ((f, w))) : Option (Int32 × Int32)) = some (nI g, nI p) := by
  rcases h with ⟨rfl, rfl⟩ | ⟨rfl, rfl, h1, rfl⟩
  · rw [if_neg (fz hg).1]
  · rw [if_pos rfl, if_neg h1, sb, ml_0, sb]
    rfl
def tlM (m : Int32) (tp : Nat → Int32) (v7 : Int32 × Int32 × Int32 × Int32 × Int32 × Int32 × Int32 × Int32 × Int32 × Int32 × (Nat → Int32)) : Option (Int32 × Int32 × Int32 × Int32 × Int32 × Int32 × Int32 × Int32 × Int32 × Int32 × (Nat → Int32)) :=
  ((if v7.2.2.2.2.2.2.2.2.1 = 0 then ((if v7.2.2.2.2.2.2.1 = 3 then some 1 else some 0).bind (fun (v10 : Int32) => (f_X12_needs v7.2.2.2.2.2.1 v7.2.2.2.2.2.2.2.2.1 v7.2.2.2.2.2.2.2.2.2.1 v10 2).bind (fun (v11 : Int32 × Int32) => some ((v11.1, v11.2))))) else some ((v7.2.2.2.2.2.2.2.2.1, v7.2.2.2.2.2.2.2.2.2.1))) : Option (Int32 × Int32)).bind (fun (v8 : Int32 × Int32) => (f_X12_takes m v7.2.2.2.2.1 v7.2.2.2.2.2.1 v7.2.2.2.2.2.2.1 v7.2.2.2.2.2.2.2.1 v8.1 v8.2 tp).bind (fun (v9 : Int32 × Int32 × Int32 × Int32 × Int32 × Int32) => some ((v7.1, v7.2.1, v7.2.2.1, v7.2.2.2.1, v9.1, v9.2.1, v9.2.2.1, v9.2.2.2.1, v9.2.2.2.2.1, v9.2.2.2.2.2, v7.2.2.2.2.2.2.2.2.2.2))))
theorem tl_bad {g p0 : Nat} {m : Int32} {tp : Nat → Int32} {v7 : Int32 × Int32 × Int32 × Int32 × Int32 × Int32 × Int32 × Int32 × Int32 × Int32 × (Nat → Int32)} (hg : 0 < g ∧ g ≤ 6) (h : bad g p0 v7.2.2.2.2.2.1 v7.2.2.2.2.2.2.1 v7.2.2.2.2.2.2.2.2.1 v7.2.2.2.2.2.2.2.2.2.1) : ∃ rm, tlM m tp v7 = some rm ∧ rm.2.2.2.2.2.2.2.2.1 = nI g ∧ rm.2.2.2.2.2.2.2.2.2.1 = nI p0 := by
  unfold tlM
  rw [fin_bad hg h, sb]
  dsimp only
  rw [tk_f (fz hg).2, sb]
  exact ⟨_, rfl, rfl, rfl⟩
theorem tl_ok {n b1 p2 b2 c2 v2 : Nat} {tp : Nat → Int32} (hM : MT n tp b1 p2 b2 c2 v2) (x1 x2 x3 x4 x6 x8 x10 : Int32) (a : Nat → Int32) : ∃ so va f w, tlM (nI n) tp (x1, x2, x3, x4, nI b1, x6, 3, x8, 0, x10, a) = some (x1, x2, x3, x4, nI b2, nI p2, so, va, f, w, a) ∧ TR p2 c2 v2 so va f w := by
  obtain ⟨so, va, f, w, e1, e2⟩ := hM x6 3 x8 x10
  refine ⟨so, va, f, w, ?_, e2⟩
  unfold tlM
  dsimp only
  rw [if_pos rfl, if_pos rfl, sb, ml_1, sb, sb]
  dsimp only
  rw [e1, sb]
theorem TR_f {p c v : Nat} {so va f w : Int32} (h : TR p c v so va f w) : (c = 4 ∧ f = 1 ∧ w = nI p) ∨ (c ≠ 4 ∧ f = 0) := by
  rcases h with ⟨q, -, r⟩ | ⟨q, -, -, r⟩ | ⟨q, -, r⟩ | ⟨q, -, r⟩ | q
  · exact Or.inr ⟨by omega, r⟩
  · exact Or.inr ⟨by omega, r⟩
  · exact Or.inr ⟨by omega, r⟩
  · exact Or.inr ⟨by omega, r⟩
  · exact Or.inl q
theorem e_addHouse {hs : Nat} {li : Nat → Int32} (h : hs < 4) : f_X1_addHouse (nI hs) li = some (nI (hs + 1), upd li hs 0) := by
  unfold f_X1_addHouse
  rw [if_pos (inb_nI h (by omega)), ix_nI (by omega), nI_1]
theorem an1 : (1 : Int32) &&& 1 = 1 := by decide
theorem an0 : (0 : Int32) &&& 1 = 0 := by decide
section
variable {n : Nat} {bt tp : Nat → Int32} {T : Nat → Nat}
theorem l_sim (h : TP n bt tp T) {k : Ka} {li ki go co lk a : Nat → Int32} {hh hc : Int32} (D : DR li ki go co lk a hh hc k) {p b c v : Nat} {so va w : Int32} (pb : p ≤ b) (bn : b ≤ n) (c4 : c ≤ 2) (hTR : TR p c v so va 0 w) (fp vc : Int32) :
    (∃ g0 p0 r rm, 0 < g0 ∧ g0 ≤ 6 ∧ p0 ≤ n ∧ f_X9_readLine 0 fp (nI p) (nI b) (nI c) vc (nI k.hs) (nI k.cm) co go ki lk li (nI n) bt = some (0, nI g0, nI p0, r) ∧ f_X12_readLine (nI k.hs) (nI k.cm) hh hc (nI n) (nI b) (nI p) so va 0 w a tp = some rm ∧ rm.2.2.2.2.2.2.2.2.1 = nI g0 ∧ rm.2.2.2.2.2.2.2.2.2.1 = nI p0) ∨
    (∃ (k' : Ka) (li' ki' go' co' lk' a' : Nat → Int32) (hh' hc' q1 q2 q3 q4 : Int32) (b1 p2 b2 c2 v2 : Nat) (so2 va2 f2 w2 : Int32), DR li' ki' go' co' lk' a' hh' hc' k' ∧ k'.hs + k'.cm = k.hs + k.cm + 1 ∧ f_X9_readLine 0 fp (nI p) (nI b) (nI c) vc (nI k.hs) (nI k.cm) co go ki lk li (nI n) bt = some (1, 0, q1, q2, nI b1, q3, q4, nI k'.hs, nI k'.cm, co', go', ki', lk', li') ∧ f_X12_readLine (nI k.hs) (nI k.cm) hh hc (nI n) (nI b) (nI p) so va 0 w a tp = some (nI k'.hs, nI k'.cm, hh', hc', nI b2, nI p2, so2, va2, f2, w2, a') ∧ p2 ≤ b2 ∧ b2 ≤ n ∧ c2 ≤ 4 ∧ (c2 = 3 → p2 = n) ∧ CT n bt b1 p2 b2 c2 v2 ∧ TR p2 c2 v2 so2 va2 f2 w2) := by
  have hn := h.1
  obtain ⟨⟨d1, d2, d3⟩, -⟩ := id D
  -- a line that begins with what begins none
  have none_ : ∀ (g0 : Nat) (x : Int32), 0 < g0 ∧ g0 ≤ 6 → (if so = 1 then (f_X12_lineNow (nI n) (nI b) (nI p) tp).bind (fun (v14 : Int32) => some v14) else some (-4)) = some x → (if x = (-4) then some 0 else some 1).bind (fun (v2 : Int32) => (f_X12_needs (nI p) 0 w v2 2).bind (fun (v3 : Int32 × Int32) => (if x = 4 then (if 4 ≤ nI k.hs then some 0 else some 1) else (if 6 ≤ nI k.cm then some 0 else some 1)).bind (fun (v4 : Int32) => f_X12_needs (nI p) v3.1 v3.2 v4 5))) = some (nI g0, nI p) → ∃ rm, f_X12_readLine (nI k.hs) (nI k.cm) hh hc (nI n) (nI b) (nI p) so va 0 w a tp = some rm ∧ rm.2.2.2.2.2.2.2.2.1 = nI g0 ∧ rm.2.2.2.2.2.2.2.2.2.1 = nI p := fun g0 x hg e1 e2 => by
    unfold f_X12_readLine
    rw [e1, sb]
    have hx : ∃ x2 : Int32, (if x = (-4) then some 0 else some 1) = some x2 := by split <;> exact ⟨_, rfl⟩
    obtain ⟨x2, hx⟩ := hx
    have hy : ∃ x4 : Int32, (if x = 4 then (if 4 ≤ nI k.hs then some 0 else some 1) else (if 6 ≤ nI k.cm then some 0 else some 1)) = some x4 := by
      split
      · split <;> exact ⟨_, rfl⟩
      · split <;> exact ⟨_, rfl⟩
    obtain ⟨x4, hy⟩ := hy
    have hz : ∃ x3, f_X12_needs (nI p) 0 w x2 2 = some x3 := by unfold f_X12_needs; split <;> (try split) <;> exact ⟨_, rfl⟩
    obtain ⟨x3, hz⟩ := hz
    rw [hx, sb, hz, sb, hy, sb] at e2
    rw [hx, sb, hz, sb, hy, sb, e2, sb]
    dsimp only
    rw [tk_f (fz hg).2, sb, if_neg (fz hg).2]
    exact ⟨_, rfl, rfl, rfl⟩
  have n4 : ¬ (-4 : Int32) = 4 := by decide
  have no2 : ∀ x4 : Int32, (if (-4 : Int32) = (-4) then some 0 else some 1).bind (fun (v2 : Int32) => (f_X12_needs (nI p) 0 w v2 2).bind (fun (v3 : Int32 × Int32) => (if (-4 : Int32) = 4 then (if 4 ≤ nI k.hs then some 0 else some 1) else (if 6 ≤ nI k.cm then some 0 else some 1)).bind (fun (v4 : Int32) => f_X12_needs (nI p) v3.1 v3.2 v4 5))) = some (nI 2, nI p) := fun x4 => by
    have hy : ∃ x4 : Int32, (if (-4 : Int32) = 4 then (if 4 ≤ nI k.hs then some 0 else some 1) else (if 6 ≤ nI k.cm then some 0 else some 1)) = some x4 := by
      rw [if_neg n4]
      split <;> exact ⟨_, rfl⟩
    obtain ⟨x4, hy⟩ := hy
    rw [if_pos rfl, sb, ml_0, sb, hy, sb]
    dsimp only
    rw [ml_f n20]
    rfl
  by_cases z0 : c = 0
  · subst z0
    obtain ⟨rfl, -⟩ : so = 1 ∧ True := by
      rcases hTR with ⟨-, q, -⟩ | ⟨q, -⟩ | ⟨q, -⟩ | ⟨q, -⟩ | ⟨q, -⟩
      · exact ⟨q, trivial⟩
      · exact absurd q (by omega)
      · exact absurd q (by omega)
      · exact absurd q (by omega)
      · exact absurd q (by omega)
    have hd : f_X9_stands 0 fp (nI p) (nI 0) 0 = some (1, 0, fp) := st_ok
    rcases t_line h pb bn with ⟨w1, w2⟩ | ⟨w1, w2, w3⟩ | ⟨l, l4, w1, w2, w3⟩
    · -- a house
      by_cases hs4 : k.hs < 4
      · obtain ⟨p2, b2, c2, v2, m1, m2, m3, m4, -, m6, m7, m8⟩ := tok h (pos := b) bn
        obtain ⟨so2, va2, f2, w2', e3, k2⟩ := m8 (nI p) 1 va w
        have z1 : ¬ (1 : Int32) ≤ 0 := by decide
        have hl4 : nI k.hs < 4 := nI_lt (b := 4) hs4 (by omega)
        have hnl4 : ¬ (4 : Int32) ≤ nI k.hs := nI_ge (b := 4) hs4 (by omega)
        have cl : ∀ r, L_X9_readHouse_38 (nI k.hs) (nI n) bt (nI (k.hs + 1), upd li k.hs 0) 400 (nI 0) 0 fp (nI p) (nI b) (nI 0) vc (upd li k.hs 0) = some (.inl r) → r.1 &&& 1 = r.1 → f_X9_readLine 0 fp (nI p) (nI b) (nI 0) vc (nI k.hs) (nI k.cm) co go ki lk li (nI n) bt = some (r.1, r.2.1, r.2.2.1, r.2.2.2.1, r.2.2.2.2.1, r.2.2.2.2.2.1, r.2.2.2.2.2.2.1, r.2.2.2.2.2.2.2.1, nI k.cm, co, go, ki, lk, r.2.2.2.2.2.2.2.2) := fun r e hr => by
          have e : L_X9_readHouse_38 (nI k.hs) (nI n) bt (nI (k.hs + 1), upd li k.hs 0) 400 0 0 fp (nI p) (nI b) (nI 0) vc (upd li k.hs 0) = some (.inl r) := e
          unfold f_X9_readLine f_X9_readHouse
          rw [hd, sb, if_neg n10, w1, sb, if_neg n10]
          dsimp only
          rw [if_pos hl4, e_addHouse hs4, sb]
          dsimp only
          rw [e, sb]
          simp only [sel]
          rw [sb, if_pos hr]
        have rf : ∀ F, (if f2 ≤ 0 then (f_X12_readHouse (nI k.hs) hc (nI n) (nI b2) (nI p2) so2 va2 f2 w2' a tp).bind (fun v13 => tlM (nI n) tp (v13.1, nI k.cm, hh, v13.2.1, v13.2.2.1, v13.2.2.2.1, v13.2.2.2.2.1, v13.2.2.2.2.2.1, v13.2.2.2.2.2.2.1, v13.2.2.2.2.2.2.2.1, v13.2.2.2.2.2.2.2.2)) else some (nI k.hs, nI k.cm, hh, hc, nI b2, nI p2, so2, va2, f2, w2', a)) = F → f_X12_readLine (nI k.hs) (nI k.cm) hh hc (nI n) (nI b) (nI p) 1 va 0 w a tp = F := fun F hF => by
          unfold f_X12_readLine
          rw [if_pos rfl, w2, sb, sb, if_neg (show ¬ (4 : Int32) = -4 by decide), sb, ml_1, sb, if_pos rfl, if_neg hnl4, sb]
          dsimp only
          rw [ml_1, sb]
          dsimp only
          rw [e3, sb]
          dsimp only
          rw [if_pos rfl, ← hF]
          by_cases z : f2 ≤ 0
          · rw [if_pos z, if_pos z]
            cases f_X12_readHouse (nI k.hs) hc (nI n) (nI b2) (nI p2) so2 va2 f2 w2' a tp <;> rfl
          · rw [if_neg z, if_neg z]
        have rh : ∀ rm, L_X12_readHouse_2 (nI n) tp 400 (nI 0) hc (nI b2) (nI p2) so2 va2 f2 w2' = some rm → f_X12_readHouse (nI k.hs) hc (nI n) (nI b2) (nI p2) so2 va2 f2 w2' a tp = some (nI (k.hs + 1), rm.2.1, rm.2.2.1, rm.2.2.2.1, rm.2.2.2.2.1, rm.2.2.2.2.2.1, rm.2.2.2.2.2.2.1, rm.2.2.2.2.2.2.2, upd a k.hs rm.1) := fun rm e => by
          have e : L_X12_readHouse_2 (nI n) tp 400 0 hc (nI b2) (nI p2) so2 va2 f2 w2' = some rm := e
          unfold f_X12_readHouse
          rw [e, sb, if_pos (inb_nI (by omega) (by omega)), ix_nI (by omega), nI_1]
        rcases h_sim h hs4 (v1 := (nI (k.hs + 1), upd li k.hs 0)) (y3 := 0) (hc0 := hc) 7 0 0 b p2 b2 c2 v2 400 400 fp (nI p) (nI 0) vc hc so2 va2 f2 w2' (upd li k.hs 0) (by omega) (by omega) (by decide) (by omega) (by omega) (by rw [upd_at, if_pos rfl]; rfl) (fun m hm => ⟨fun x => ⟨x, Nat.two_pow_pos m⟩, fun x => x.1⟩) m2 m3 m4 m6 m7 k2 with ⟨g0, p0, r, rm, g1, g2, g3, c1, c2', c3⟩ | ⟨l1, b1, hc1, q1, q2, q3, q4, q5, q6, q7, y9', i1, i2, i3, i4, i5, i6, i7⟩
        · refine Or.inl ?_
          have cl := cl _ c1 an0
          rcases TR_f k2 with ⟨-, f21, w21⟩ | ⟨-, f20⟩
          · obtain ⟨rm, r1⟩ : ∃ rm, rm = (nI k.hs, nI k.cm, hh, hc, nI b2, nI p2, so2, va2, f2, w2', a) := ⟨_, rfl⟩
            have e9 := c2'
            rw [L_X12_readHouse_2, if_neg (by rw [f21]; exact n10)] at e9
            have e9 := Option.some.inj e9
            rw [← e9] at c3
            rcases c3 with ⟨x1, x2⟩ | ⟨-, x1, -⟩
            · exact ⟨g0, p0, _, rm, g1, g2, g3, cl, rf _ (by rw [f21, if_neg z1, ← f21, r1]), by rw [r1]; exact x1, by rw [r1]; exact x2⟩
            · have x1 : f2 = 0 := x1
              rw [f21] at x1
              exact absurd x1 n10
          · obtain ⟨rm', r1, r2, r3⟩ := tl_bad (m := nI n) (tp := tp) (v7 := (nI (k.hs + 1), nI k.cm, hh, rm.2.1, rm.2.2.1, rm.2.2.2.1, rm.2.2.2.2.1, rm.2.2.2.2.2.1, rm.2.2.2.2.2.2.1, rm.2.2.2.2.2.2.2, upd a k.hs rm.1)) ⟨g1, g2⟩ c3
            exact ⟨g0, p0, _, rm', g1, g2, g3, cl, rf _ (by rw [if_pos (by rw [f20]; decide), rh rm c2', sb]; exact r1), r2, r3⟩
        · refine Or.inr ?_
          have cl := cl _ i3 an1
          have f20 : f2 = 0 := by
            rcases TR_f k2 with ⟨-, f21, -⟩ | ⟨-, f20⟩
            · rw [L_X12_readHouse_2, if_neg (by rw [f21]; exact n10)] at i4
              have e9 := Option.some.inj i4
              simp only [Prod.mk.injEq] at e9
              exact e9.2.2.2.2.2.2.1
            · exact f20
          obtain ⟨p5, b5, c5, v5, s1, s2, s3, s4, s5, s6, s7, s8⟩ := tok h (pos := b1) i2
          obtain ⟨so5, va5, f5, w5, r1, r2⟩ := tl_ok s8 (nI (k.hs + 1)) (nI k.cm) hh hc1 q5 q6 q7 (upd a k.hs (nI l1))
          exact ⟨addH k l1, y9', ki, go, co, lk, upd a k.hs (nI l1), hh, hc1, q1, q2, q3, q4, b1, p5, b5, c5, v5, so5, va5, f5, w5, DR_H D hs4 i1 i5 (fun j hj => (i6 j hj).trans (by rw [upd_at, if_neg hj])) i7, by show k.hs + 1 + k.cm = _; omega, cl, rf _ (by rw [if_pos (by rw [f20]; decide), rh _ i4, sb]; exact r1), s2, s3, s4, s5, s7, r2⟩
      · obtain ⟨rm, r1, r2, r3⟩ := none_ 5 4 (by omega) (by rw [if_pos rfl, w2, sb]) (by
          rw [if_neg (show ¬ (4 : Int32) = -4 by decide), sb, ml_1, sb, if_pos rfl, if_pos (show (4 : Int32) ≤ nI k.hs from nI_le (a := 4) (by omega) (by omega)), sb]
          dsimp only
          rw [ml_0]
          rfl)
        refine Or.inl ⟨5, p, (nI p, nI b, nI 0, vc, nI k.hs, nI k.cm, co, go, ki, lk, li), rm, by omega, by omega, by omega, ?_, r1, r2, r3⟩
        unfold f_X9_readLine f_X9_readHouse
        rw [hd, sb, if_neg n10, w1, sb, if_neg n10]
        dsimp only
        rw [if_neg (show ¬ nI k.hs < 4 from nI_nlt (b := 4) (by omega) (by omega)), flb, sb, if_pos an0]
        rfl
    · obtain ⟨rm, r1, r2, r3⟩ := none_ 2 (-4) (by omega) (by rw [if_pos rfl, w3, sb]) (no2 0)
      refine Or.inl ⟨2, p, (nI p, nI b, nI 0, vc, nI k.hs, nI k.cm, co, go, ki, lk, li), rm, by omega, by omega, by omega, ?_, r1, r2, r3⟩
      unfold f_X9_readLine
      rw [hd, sb, if_neg n10, w1, sb, if_pos rfl, w2, sb, if_pos rfl, flb]
      rfl
    · have ln : ¬ nI l = -4 := nI_n4 (by omega)
      have ln4 : ¬ nI l = 4 := fun y => by have := (nI_eq (b := 4) (by omega) (by omega)).mp y; omega
      by_cases c6 : k.cm < 6
      · obtain ⟨p2, b2, c2, v2, m1, m2, m3, m4, -, m6, m7, m8⟩ := tok h (pos := b) bn
        obtain ⟨so2, va2, f2, w2', e3, k2⟩ := m8 (nI p) 1 va w
        have z1 : ¬ (1 : Int32) ≤ 0 := by decide
        have hnl6 : ¬ (6 : Int32) ≤ nI k.cm := nI_ge (b := 6) c6 (by omega)
        have cl : ∀ r, f_X9_readComer 0 fp (nI p) (nI b) (nI 0) vc (nI k.cm) co go ki lk (nI n) bt (nI l) = some r → r.1 &&& 1 = r.1 → f_X9_readLine 0 fp (nI p) (nI b) (nI 0) vc (nI k.hs) (nI k.cm) co go ki lk li (nI n) bt = some (r.1, r.2.1, r.2.2.1, r.2.2.2.1, r.2.2.2.2.1, r.2.2.2.2.2.1, r.2.2.2.2.2.2.1, nI k.hs, r.2.2.2.2.2.2.2.1, r.2.2.2.2.2.2.2.2.1, r.2.2.2.2.2.2.2.2.2.1, r.2.2.2.2.2.2.2.2.2.2.1, r.2.2.2.2.2.2.2.2.2.2.2, li) := fun r e hr => by
          unfold f_X9_readLine
          rw [hd, sb, if_neg n10, w1, sb, if_pos rfl, w2, sb, if_neg ln]
          dsimp only
          rw [e, sb, if_pos hr]
        have rf : ∀ F, (if f2 ≤ 0 then (f_X12_readComer (nI k.cm) hh (nI n) (nI b2) (nI p2) so2 va2 f2 w2' a tp (nI l)).bind (fun v12 => tlM (nI n) tp (nI k.hs, v12.1, v12.2.1, hc, v12.2.2.1, v12.2.2.2.1, v12.2.2.2.2.1, v12.2.2.2.2.2.1, v12.2.2.2.2.2.2.1, v12.2.2.2.2.2.2.2.1, v12.2.2.2.2.2.2.2.2)) else some (nI k.hs, nI k.cm, hh, hc, nI b2, nI p2, so2, va2, f2, w2', a)) = F → f_X12_readLine (nI k.hs) (nI k.cm) hh hc (nI n) (nI b) (nI p) 1 va 0 w a tp = F := fun F hF => by
          unfold f_X12_readLine
          rw [if_pos rfl, w3, sb, sb, if_neg ln, sb, ml_1, sb, if_neg ln4, if_neg hnl6, sb]
          dsimp only
          rw [ml_1, sb]
          dsimp only
          rw [e3, sb]
          dsimp only
          rw [if_neg ln4, ← hF]
          by_cases z : f2 ≤ 0
          · rw [if_pos z, if_pos z]
            cases f_X12_readComer (nI k.cm) hh (nI n) (nI b2) (nI p2) so2 va2 f2 w2' a tp (nI l) <;> rfl
          · rw [if_neg z, if_neg z]
        rcases TR_f k2 with ⟨c24, f21, w21⟩ | ⟨-, f20⟩
        · obtain ⟨r, rb⟩ := rn_bad m7 m4 (by omega) 0 fp (nI p) (nI 0) vc
          have e9 : f_X9_readComer 0 fp (nI p) (nI b) (nI 0) vc (nI k.cm) co go ki lk (nI n) bt (nI l) = some (0, nI (fk c2), nI p2, r.1, r.2.1, r.2.2.1, r.2.2.2, nI k.cm, co, go, ki, lk) := by
            unfold f_X9_readComer
            rw [if_pos (show nI k.cm < 6 from nI_lt (b := 6) c6 (by omega)), rb, sb, if_pos rfl]
          have ek : fk c2 = 1 := if_pos c24
          have cl9 := cl _ e9 an0
          rw [ek] at cl9
          exact Or.inl ⟨1, p2, _, (nI k.hs, nI k.cm, hh, hc, nI b2, nI p2, so2, va2, f2, w2', a), by omega, by omega, by omega, cl9, rf _ (by rw [f21, if_neg z1]), f21, w21⟩
        · rcases c_sim h c6 m2 m3 m4 m6 m7 k2 0 fp (nI p) (nI 0) vc hh (nI l) co go ki lk a with ⟨g0, p0, r, rm, g1, g2, g3, c1, c2', c3⟩ | ⟨h1, t1, mu, b1, q1, q2, q3, q4, q5, q6, q7, lk', a', i1, i2, i3, i4, i5, i6, i7, i8, i9⟩
          · obtain ⟨rm', r1, r2, r3⟩ := tl_bad (m := nI n) (tp := tp) (v7 := (nI k.hs, rm.1, rm.2.1, hc, rm.2.2.1, rm.2.2.2.1, rm.2.2.2.2.1, rm.2.2.2.2.2.1, rm.2.2.2.2.2.2.1, rm.2.2.2.2.2.2.2.1, rm.2.2.2.2.2.2.2.2)) ⟨g1, g2⟩ c3
            exact Or.inl ⟨g0, p0, _, rm', g1, g2, g3, cl _ c1 an0, rf _ (by rw [if_pos (by rw [f20]; decide), c2', sb]; exact r1), r2, r3⟩
          · obtain ⟨p5, b5, c5, v5, s1, s2, s3, s4, s5, s6, s7, s8⟩ := tok h (pos := b1) i4
            obtain ⟨so5, va5, f5, w5, r1, r2⟩ := tl_ok s8 (nI k.hs) (nI (k.cm + 1)) (hhN hh h1) hc q5 q6 q7 a'
            exact Or.inr ⟨addC k l h1 t1 mu, li, upd ki k.cm (nI l), upd go k.cm (nI h1), upd co k.cm (nI t1), lk', a', hhN hh h1, hc, q1, q2, q3, q4, b1, p5, b5, c5, v5, so5, va5, f5, w5, DR_C D c6 l4 i1 i2 i3 i7 i8 i9, by show k.hs + (k.cm + 1) = _; omega, cl _ i5 an1, rf _ (by rw [if_pos (by rw [f20]; decide), i6, sb]; exact r1), s2, s3, s4, s5, s7, r2⟩
      · obtain ⟨rm, r1, r2, r3⟩ := none_ 5 (nI l) (by omega) (by rw [if_pos rfl, w3, sb]) (by
          rw [if_neg ln, sb, ml_1, sb, if_neg ln4, if_pos (show (6 : Int32) ≤ nI k.cm from nI_le (a := 6) (by omega) (by omega)), sb]
          dsimp only
          rw [ml_0]
          rfl)
        refine Or.inl ⟨5, p, (nI p, nI b, nI 0, vc, nI k.hs, nI k.cm, co, go, ki, lk, li), rm, by omega, by omega, by omega, ?_, r1, r2, r3⟩
        unfold f_X9_readLine f_X9_readComer
        rw [hd, sb, if_neg n10, w1, sb, if_pos rfl, w2, sb, if_neg ln]
        dsimp only
        rw [if_neg (show ¬ nI k.cm < 6 from nI_nlt (b := 6) (by omega) (by omega)), flb, sb, if_pos an0]
        rfl
  · have ns : ¬ so = 1 := by
      rcases hTR with ⟨q, -⟩ | ⟨-, q, -⟩ | ⟨-, q, -⟩ | ⟨-, q, -⟩ | ⟨-, q, -⟩
      · exact absurd q z0
      · rw [q]; decide
      · rw [q]; decide
      · rw [q]; decide
      · exact absurd q (by decide)
    obtain ⟨rm, r1, r2, r3⟩ := none_ 2 (-4) (by omega) (if_neg ns) (no2 0)
    refine Or.inl ⟨2, p, (nI p, nI b, nI c, vc, nI k.hs, nI k.cm, co, go, ki, lk, li), rm, by omega, by omega, by omega, ?_, r1, r2, r3⟩
    unfold f_X9_readLine
    rw [show f_X9_stands 0 fp (nI p) (nI c) 0 = some (0, nI (fk c), nI p) from st_bad (x := 0) (by omega) (by omega) z0, sb, if_pos rfl, show fk c = 2 from if_neg (by omega)]
end
