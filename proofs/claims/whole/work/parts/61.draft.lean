/-! the draft on both sides -/
def DR (li ki go co lk a : Nat → Int32) (hh hc : Int32) (k : Ka) : Prop :=
  (k.hs ≤ 4 ∧ k.cm ≤ 6 ∧ k.ev = 0) ∧
  (∀ h, h < k.hs → k.ls h < 64 ∧ li h = nI (k.ls h) ∧ a h = nI (k.ls h)) ∧
  (∀ c, c < k.cm → (k.kd c < 4 ∧ (k.go c < 4 ∨ k.go c = 9) ∧ k.co c ≤ 6) ∧ (ki c = nI (k.kd c) ∧ go c = nI (k.go c) ∧ co c = nI (k.co c)) ∧ a (4 + 3 * c) = nI (k.kd c) ∧ a (4 + 3 * c + 1) = goI (k.go c) ∧ a (4 + 3 * c + 2) = nI (k.co c)) ∧
  (∀ h, h < 4 → ∀ c, c < k.cm → k.lk h c ≤ 9 ∧ lk (6 * h + c) = nI (k.lk h c) ∧ a (22 + 6 * h + c) = nI (k.lk h c)) ∧
  (a 46 = 0 ∧ a 47 = 0) ∧
  (∀ m, m < 5 → (hh < nI m ↔ ∀ c, c < k.cm → k.go c < 4 → k.go c < m)) ∧
  (∀ m, m < 7 → (hc < nI m ↔ ∀ h, h < k.hs → k.ls h < 2 ^ m))
def addH (k : Ka) (l : Nat) : Ka := ((k.hs + 1, k.cm, k.ev), upN k.ls k.hs l, k.kd, k.go, k.co, k.lk)
def addC (k : Ka) (kd h1 t1 mu : Nat) : Ka := ((k.hs, k.cm + 1, k.ev), k.ls, upN k.kd k.cm kd, upN k.go k.cm h1, upN k.co k.cm t1, fun h c => if c = k.cm then mu else k.lk h c)
section
variable {li ki go co lk a : Nat → Int32} {hh hc : Int32} {k : Ka}
theorem DR_H {l : Nat} {li' : Nat → Int32} {hc1 : Int32} (D : DR li ki go co lk a hh hc k) (h4 : k.hs < 4) (l6 : l < 64) (e1 : li' k.hs = nI l) (e2 : ∀ j, j ≠ k.hs → li' j = li j) (e3 : ∀ m, m < 7 → (hc1 < nI m ↔ hc < nI m ∧ l < 2 ^ m)) : DR li' ki go co lk (upd a k.hs (nI l)) hh hc1 (addH k l) := by
  obtain ⟨⟨d1, d2, d3⟩, d4, d5, d6, d7, d8, d9⟩ := D
  refine ⟨⟨by show k.hs + 1 ≤ 4; omega, d2, d3⟩, fun h hh => ?_, fun c hc => ?_, fun h hh c hc => ?_, ?_, d8, fun m hm => ?_⟩
  · have hh : h < k.hs + 1 := hh
    show upN k.ls k.hs l h < 64 ∧ li' h = nI (upN k.ls k.hs l h) ∧ upd a k.hs (nI l) h = nI (upN k.ls k.hs l h)
    unfold upN
    rw [upd_at]
    by_cases e : h = k.hs
    · rw [if_pos e, if_pos e, e]
      exact ⟨l6, e1, rfl⟩
    · rw [if_neg e, if_neg e, e2 h e]
      exact d4 h (by omega)
  · have hc : c < k.cm := hc
    obtain ⟨x1, x2, x3, x4, x5⟩ := d5 c hc
    exact ⟨x1, x2, (upd_ne (by omega)).trans x3, (upd_ne (by omega)).trans x4, (upd_ne (by omega)).trans x5⟩
  · have hc : c < k.cm := hc
    obtain ⟨x1, x2, x3⟩ := d6 h hh c hc
    exact ⟨x1, x2, (upd_ne (by omega)).trans x3⟩
  · exact ⟨(upd_ne (by omega)).trans d7.1, (upd_ne (by omega)).trans d7.2⟩
  · rw [e3 m hm, d9 m hm]
    show _ ↔ ∀ h, h < k.hs + 1 → upN k.ls k.hs l h < 2 ^ m
    constructor
    · rintro ⟨x1, x2⟩ h hh
      unfold upN
      by_cases e : h = k.hs
      · rw [if_pos e]; exact x2
      · rw [if_neg e]; exact x1 h (by omega)
    · intro x
      refine ⟨fun h hh => ?_, ?_⟩
      · have := x h (by omega)
        unfold upN at this
        rwa [if_neg (by omega)] at this
      · have := x k.hs (by omega)
        unfold upN at this
        rwa [if_pos rfl] at this
theorem DR_C {kd h1 t1 mu : Nat} {lk' a' : Nat → Int32} (D : DR li ki go co lk a hh hc k) (c6 : k.cm < 6) (kd4 : kd < 4) (hh1 : h1 < 4 ∨ h1 = 9) (t6 : t1 ≤ 6) (m9 : mu ≤ 9) (A : cmA k.cm a a' (nI kd) (goI h1) (nI t1) (nI mu)) (s2 : ∀ h, h < 4 → lk' (6 * h + k.cm) = nI mu) (s3 : ∀ h, h < 4 → ∀ c, c < 6 → c ≠ k.cm → lk' (6 * h + c) = lk (6 * h + c)) : DR li (upd ki k.cm (nI kd)) (upd go k.cm (nI h1)) (upd co k.cm (nI t1)) lk' a' (hhN hh h1) hc (addC k kd h1 t1 mu) := by
  obtain ⟨⟨d1, d2, d3⟩, d4, d5, d6, d7, d8, d9⟩ := D
  obtain ⟨a1, a2, a3, a4, a5⟩ := A
  refine ⟨⟨d1, by show k.cm + 1 ≤ 6; omega, d3⟩, fun h hh => ?_, fun c hc => ?_, fun h hh c hc => ?_, ?_, fun m hm => ?_, d9⟩
  · have hh : h < k.hs := hh
    obtain ⟨x1, x2, x3⟩ := d4 h hh
    exact ⟨x1, x2, (a5 h (by omega) (by omega) (by omega) (fun i hi => by omega)).trans x3⟩
  · have hc : c < k.cm + 1 := hc
    show (upN k.kd k.cm kd c < 4 ∧ (upN k.go k.cm h1 c < 4 ∨ upN k.go k.cm h1 c = 9) ∧ upN k.co k.cm t1 c ≤ 6) ∧ (upd ki k.cm (nI kd) c = nI (upN k.kd k.cm kd c) ∧ upd go k.cm (nI h1) c = nI (upN k.go k.cm h1 c) ∧ upd co k.cm (nI t1) c = nI (upN k.co k.cm t1 c)) ∧ a' (4 + 3 * c) = nI (upN k.kd k.cm kd c) ∧ a' (4 + 3 * c + 1) = goI (upN k.go k.cm h1 c) ∧ a' (4 + 3 * c + 2) = nI (upN k.co k.cm t1 c)
    unfold upN
    rw [upd_at, upd_at, upd_at]
    by_cases e : c = k.cm
    · rw [if_pos e, if_pos e, if_pos e, if_pos e, if_pos e, if_pos e, e]
      exact ⟨⟨kd4, hh1, t6⟩, ⟨rfl, rfl, rfl⟩, a1, a2, a3⟩
    · rw [if_neg e, if_neg e, if_neg e, if_neg e, if_neg e, if_neg e]
      obtain ⟨x1, x2, x3, x4, x5⟩ := d5 c (by omega)
      exact ⟨x1, x2, (a5 _ (by omega) (by omega) (by omega) (fun i hi => by omega)).trans x3, (a5 _ (by omega) (by omega) (by omega) (fun i hi => by omega)).trans x4, (a5 _ (by omega) (by omega) (by omega) (fun i hi => by omega)).trans x5⟩
  · have hc : c < k.cm + 1 := hc
    show (if c = k.cm then mu else k.lk h c) ≤ 9 ∧ lk' (6 * h + c) = nI (if c = k.cm then mu else k.lk h c) ∧ a' (22 + 6 * h + c) = nI (if c = k.cm then mu else k.lk h c)
    by_cases e : c = k.cm
    · rw [if_pos e, e]
      exact ⟨m9, s2 h hh, a4 h hh⟩
    · rw [if_neg e]
      obtain ⟨x1, x2, x3⟩ := d6 h hh c (by omega)
      exact ⟨x1, (s3 h hh c (by omega) e).trans x2, (a5 _ (by omega) (by omega) (by omega) (fun i hi => by omega)).trans x3⟩
  · exact ⟨(a5 _ (by omega) (by omega) (by omega) (fun i hi => by omega)).trans d7.1, (a5 _ (by omega) (by omega) (by omega) (fun i hi => by omega)).trans d7.2⟩
  · have old := d8 m hm
    show _ ↔ ∀ c, c < k.cm + 1 → upN k.go k.cm h1 c < 4 → upN k.go k.cm h1 c < m
    have new : (∀ c, c < k.cm + 1 → upN k.go k.cm h1 c < 4 → upN k.go k.cm h1 c < m) ↔ (∀ c, c < k.cm → k.go c < 4 → k.go c < m) ∧ (h1 < 4 → h1 < m) := by
      constructor
      · intro x
        refine ⟨fun c hc => ?_, ?_⟩
        · have := x c (by omega)
          unfold upN at this
          rwa [if_neg (by omega)] at this
        · have := x k.cm (by omega)
          unfold upN at this
          rwa [if_pos rfl] at this
      · rintro ⟨x1, x2⟩ c hc
        unfold upN
        by_cases e : c = k.cm
        · rw [if_pos e]; exact x2
        · rw [if_neg e]; exact x1 c (by omega)
    rw [new, ← old]
    unfold hhN
    by_cases q : 4 ≤ h1
    · rw [if_pos q]
      exact ⟨fun x => ⟨x, fun y => by omega⟩, fun x => x.1⟩
    · rw [if_neg q, mx_I (by omega) (by omega)]
      exact ⟨fun x => ⟨x.1, fun _ => x.2⟩, fun x => ⟨x.1, x.2 (by omega)⟩⟩
end
/-! a line -/
theorem fin_bad {g p : Nat} {bg so f w : Int32} (hg : 0 < g ∧ g ≤ 6) (h : bad g p bg so f w) : ((if f = 0 then ((if so = 3 then some 1 else some 0).bind (fun (v10 : Int32) => (f_X12_needs bg f w v10 2).bind (fun (v11 : Int32 × Int32) => some ((v11.1, v11.2))))) else some ((f, w))) : Option (Int32 × Int32)) = some (nI g, nI p) := by
  rcases h with ⟨rfl, rfl⟩ | ⟨rfl, rfl, h1, rfl⟩
  · rw [if_neg (fz hg).1]
  · rw [if_pos rfl, if_neg h1, sb, ml_0, sb]
    rfl
section
variable {n : Nat} {bt tp : Nat → Int32} {T : Nat → Nat}
theorem l_sim (h : TP n bt tp T) {k : Ka} {li ki go co lk a : Nat → Int32} {hh hc : Int32} (D : DR li ki go co lk a hh hc k) {p b c v : Nat} {so va w : Int32} (pb : p ≤ b) (bn : b ≤ n) (c4 : c ≤ 2) (hTR : TR p c v so va 0 w) (fp vc : Int32) :
    (∃ g0 p0 r rm, 0 < g0 ∧ g0 ≤ 6 ∧ p0 ≤ n ∧ f_X9_readLine 0 fp (nI p) (nI b) (nI c) vc (nI k.hs) (nI k.cm) co go ki lk li (nI n) bt = some (0, nI g0, nI p0, r) ∧ f_X12_readLine (nI k.hs) (nI k.cm) hh hc (nI n) (nI b) (nI p) so va 0 w a tp = some rm ∧ rm.2.2.2.2.2.2.2.2.1 = nI g0 ∧ rm.2.2.2.2.2.2.2.2.2.1 = nI p0) ∨
    (∃ (k' : Ka) (li' ki' go' co' lk' a' : Nat → Int32) (hh' hc' q1 q2 q3 q4 : Int32) (b1 p2 b2 c2 v2 : Nat) (so2 va2 f2 w2 : Int32), DR li' ki' go' co' lk' a' hh' hc' k' ∧ k'.hs + k'.cm = k.hs + k.cm + 1 ∧ f_X9_readLine 0 fp (nI p) (nI b) (nI c) vc (nI k.hs) (nI k.cm) co go ki lk li (nI n) bt = some (1, 0, q1, q2, nI b1, q3, q4, nI k'.hs, nI k'.cm, co', go', ki', lk', li') ∧ f_X12_readLine (nI k.hs) (nI k.cm) hh hc (nI n) (nI b) (nI p) so va 0 w a tp = some (nI k'.hs, nI k'.cm, hh', hc', nI b2, nI p2, so2, va2, f2, w2, a') ∧ p2 ≤ b2 ∧ b2 ≤ n ∧ c2 ≤ 4 ∧ (c2 = 3 → p2 = n) ∧ CT n bt b1 p2 b2 c2 v2 ∧ TR p2 c2 v2 so2 va2 f2 w2) := by
  have hn := h.1
  obtain ⟨⟨d1, d2, d3⟩, -⟩ := id D
  -- a line that begins with what begins none
  have none_ : ∀ (g0 : Nat) (x : Int32), 0 < g0 ∧ g0 ≤ 6 → (if so = 1 then (f_X12_lineNow (nI n) (nI b) (nI p) tp).bind (fun (v14 : Int32) => some v14) else some (-4)) = some x → (if x = (-4) then some 0 else some 1).bind (fun (v2 : Int32) => (f_X12_needs (nI p) 0 w v2 2).bind (fun (v3 : Int32 × Int32) => (if x = 4 then (if 4 ≤ nI k.hs then some 0 else some 1) else (if 6 ≤ nI k.cm then some 0 else some 1)).bind (fun (v4 : Int32) => f_X12_needs (nI p) v3.1 v3.2 v4 5))) = some (nI g0, nI p) → ∃ rm, f_X12_readLine (nI k.hs) (nI k.cm) hh hc (nI n) (nI b) (nI p) so va 0 w a tp = some rm ∧ rm.2.2.2.2.2.2.2.2.1 = nI g0 ∧ rm.2.2.2.2.2.2.2.2.2.1 = nI p := fun g0 x hg e1 e2 => by
    unfold f_X12_readLine
    rw [e1, sb]
    have hx : ∃ x2 : Int32, (if x = (-4) then some 0 else some 1) = some x2 := by split <;> exact ⟨_, rfl⟩
    obtain ⟨x2, hx⟩ := hx
    have hy : ∃ x4 : Int32, (if x = 4 then (if 4 ≤ nI k.hs then some 0 else some 1) else (if 6 ≤ nI k.cm then some 0 else some 1)) = some x4 := by
      split
      · split <;> exact ⟨_, rfl⟩
      · split <;> exact ⟨_, rfl⟩
    obtain ⟨x4, hy⟩ := hy
    have hz : ∃ x3, f_X12_needs (nI p) 0 w x2 2 = some x3 := by unfold f_X12_needs; split <;> (try split) <;> exact ⟨_, rfl⟩
    obtain ⟨x3, hz⟩ := hz
    rw [hx, sb, hz, sb, hy, sb] at e2
    rw [hx, sb, hz, sb, hy, sb, e2, sb]
    dsimp only
    rw [tk_f (fz hg).2, sb, if_neg (fz hg).2]
    exact ⟨_, rfl, rfl, rfl⟩
  have n4 : ¬ (-4 : Int32) = 4 := by decide
  have no2 : ∀ x4 : Int32, (if (-4 : Int32) = (-4) then some 0 else some 1).bind (fun (v2 : Int32) => (f_X12_needs (nI p) 0 w v2 2).bind (fun (v3 : Int32 × Int32) => (if (-4 : Int32) = 4 then (if 4 ≤ nI k.hs then some 0 else some 1) else (if 6 ≤ nI k.cm then some 0 else some 1)).bind (fun (v4 : Int32) => f_X12_needs (nI p) v3.1 v3.2 v4 5))) = some (nI 2, nI p) := fun x4 => by
    have hy : ∃ x4 : Int32, (if (-4 : Int32) = 4 then (if 4 ≤ nI k.hs then some 0 else some 1) else (if 6 ≤ nI k.cm then some 0 else some 1)) = some x4 := by
      rw [if_neg n4]
      split <;> exact ⟨_, rfl⟩
    obtain ⟨x4, hy⟩ := hy
    rw [if_pos rfl, sb, ml_0, sb, hy, sb]
    dsimp only
    rw [ml_f n20]
    rfl
  by_cases z0 : c = 0
  · subst z0
    obtain ⟨rfl, -⟩ : so = 1 ∧ True := by
      rcases hTR with ⟨-, q, -⟩ | ⟨q, -⟩ | ⟨q, -⟩ | ⟨q, -⟩ | ⟨q, -⟩
      · exact ⟨q, trivial⟩
      · exact absurd q (by omega)
      · exact absurd q (by omega)
      · exact absurd q (by omega)
      · exact absurd q (by omega)
    have hd : f_X9_stands 0 fp (nI p) (nI 0) 0 = some (1, 0, fp) := st_ok
    rcases t_line h pb bn with ⟨w1, w2⟩ | ⟨w1, w2, w3⟩ | ⟨l, l4, w1, w2, w3⟩
    · -- a house
      by_cases hs4 : k.hs < 4
      · obtain ⟨p2, b2, c2, v2, m1, m2, m3, m4, -, m6, m7, m8⟩ := tok h (pos := b) bn
        obtain ⟨so2, va2, f2, w2', e3, k2⟩ := m8 (nI p) 1 va w
        sorry
      · sorry
    · obtain ⟨rm, r1, r2, r3⟩ := none_ 2 (-4) (by omega) (by rw [if_pos rfl, w3, sb]) (no2 0)
      refine Or.inl ⟨2, p, (nI p, nI b, nI 0, vc, nI k.hs, nI k.cm, co, go, ki, lk, li), rm, by omega, by omega, by omega, ?_, r1, r2, r3⟩
      unfold f_X9_readLine
      rw [hd, sb, if_neg n10, w1, sb, if_pos rfl, w2, sb, if_pos rfl, flb]
      rfl
    · sorry
  · have ns : ¬ so = 1 := by
      rcases hTR with ⟨q, -⟩ | ⟨-, q, -⟩ | ⟨-, q, -⟩ | ⟨-, q, -⟩ | ⟨-, q, -⟩
      · exact absurd q z0
      · rw [q]; decide
      · rw [q]; decide
      · rw [q]; decide
      · exact absurd q (by decide)
    obtain ⟨rm, r1, r2, r3⟩ := none_ 2 (-4) (by omega) (if_neg ns) (no2 0)
    refine Or.inl ⟨2, p, (nI p, nI b, nI c, vc, nI k.hs, nI k.cm, co, go, ki, lk, li), rm, by omega, by omega, by omega, ?_, r1, r2, r3⟩
    unfold f_X9_readLine
    rw [show f_X9_stands 0 fp (nI p) (nI c) 0 = some (0, nI (fk c), nI p) from st_bad (x := 0) (by omega) (by omega) z0, sb, if_pos rfl, show fk c = 2 from if_neg (by omega)]
end
