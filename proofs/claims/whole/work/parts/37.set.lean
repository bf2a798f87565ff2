/-! one number of the county becomes another -/
def upN (f : Nat → Nat) (c v : Nat) : Nat → Nat := fun j => if j = c then v else f j
def setKd (k : Ka) (c v : Nat) : Ka := (k.1, k.ls, upN k.kd c v, k.go, k.co, k.lk)
def setGo (k : Ka) (c v : Nat) : Ka := (k.1, k.ls, k.kd, upN k.go c v, k.co, k.lk)
def setCo (k : Ka) (c v : Nat) : Ka := (k.1, k.ls, k.kd, k.go, upN k.co c v, k.lk)
def setLs (k : Ka) (h v : Nat) : Ka := (k.1, upN k.ls h v, k.kd, k.go, k.co, k.lk)
def setLk (k : Ka) (h c v : Nat) : Ka := (k.1, k.ls, k.kd, k.go, k.co, fun i j => if i = h ∧ j = c then v else k.lk i j)
theorem kok_kd {k : Ka} {c v : Nat} (hk : kok k) (hv : v < 4) : kok (setKd k c v) := ⟨hk.1, hk.2.1, hk.2.2.1, hk.2.2.2.1, fun d hd => ⟨by
  show (if d = c then v else k.kd d) < 4
  split
  · exact hv
  · exact (hk.2.2.2.2.1 d hd).1, (hk.2.2.2.2.1 d hd).2⟩, hk.2.2.2.2.2⟩
theorem kok_go {k : Ka} {c v : Nat} (hk : kok k) (hv : v < k.hs ∨ v = 9) : kok (setGo k c v) := ⟨hk.1, hk.2.1, hk.2.2.1, hk.2.2.2.1, fun d hd => ⟨(hk.2.2.2.2.1 d hd).1, by
  show ((if d = c then v else k.go d) < k.hs ∨ (if d = c then v else k.go d) = 9)
  split
  · exact hv
  · exact (hk.2.2.2.2.1 d hd).2.1, (hk.2.2.2.2.1 d hd).2.2⟩, hk.2.2.2.2.2⟩
theorem kok_co {k : Ka} {c v : Nat} (hk : kok k) (hv : v ≤ 6) : kok (setCo k c v) := ⟨hk.1, hk.2.1, hk.2.2.1, hk.2.2.2.1, fun d hd => ⟨(hk.2.2.2.2.1 d hd).1, (hk.2.2.2.2.1 d hd).2.1, by
  show (if d = c then v else k.co d) ≤ 6
  split
  · exact hv
  · exact (hk.2.2.2.2.1 d hd).2.2⟩, hk.2.2.2.2.2⟩
theorem kok_ls {k : Ka} {h v : Nat} (hk : kok k) (hv : v < 2 ^ k.cm) : kok (setLs k h v) := ⟨hk.1, hk.2.1, hk.2.2.1, fun d hd => by
  show (if d = h then v else k.ls d) < 2 ^ k.cm
  split
  · exact hv
  · exact hk.2.2.2.1 d hd, hk.2.2.2.2.1, hk.2.2.2.2.2⟩
theorem kok_lk {k : Ka} {h c v : Nat} (hk : kok k) (hv : v ≤ 9) : kok (setLk k h c v) := ⟨hk.1, hk.2.1, hk.2.2.1, hk.2.2.2.1, hk.2.2.2.2.1, fun i hi j hj => by
  show (if i = h ∧ j = c then v else k.lk i j) ≤ 9
  split
  · exact hv
  · exact hk.2.2.2.2.2 i hi j hj⟩
theorem up_nI {f : Nat → Int32} {g : Nat → Nat} {c v d : Nat} (h : f d = nI (g d)) : upd f c (nI v) d = nI (upN g c v d) := by
  rw [upd_at]
  unfold upN
  split
  · rfl
  · exact h
section
variable {xh xc xe : Int32} {li ki go co lk : Nat → Int32} {k : Ka}
theorem relC_kd {c v : Nat} (h : relC (xh, xc, xe, li, ki, go, co, lk) k) : relC (xh, xc, xe, li, upd ki c (nI v), go, co, lk) (setKd k c v) := ⟨h.1, h.2.1, h.2.2.1, h.2.2.2.1, fun d hd => ⟨up_nI (h.2.2.2.2.1 d hd).1, (h.2.2.2.2.1 d hd).2⟩, h.2.2.2.2.2⟩
theorem relC_go {c v : Nat} (h : relC (xh, xc, xe, li, ki, go, co, lk) k) : relC (xh, xc, xe, li, ki, upd go c (nI v), co, lk) (setGo k c v) := ⟨h.1, h.2.1, h.2.2.1, h.2.2.2.1, fun d hd => ⟨(h.2.2.2.2.1 d hd).1, up_nI (h.2.2.2.2.1 d hd).2.1, (h.2.2.2.2.1 d hd).2.2⟩, h.2.2.2.2.2⟩
theorem relC_co {c v : Nat} (h : relC (xh, xc, xe, li, ki, go, co, lk) k) : relC (xh, xc, xe, li, ki, go, upd co c (nI v), lk) (setCo k c v) := ⟨h.1, h.2.1, h.2.2.1, h.2.2.2.1, fun d hd => ⟨(h.2.2.2.2.1 d hd).1, (h.2.2.2.2.1 d hd).2.1, up_nI (h.2.2.2.2.1 d hd).2.2⟩, h.2.2.2.2.2⟩
theorem relC_ls {d v : Nat} (h : relC (xh, xc, xe, li, ki, go, co, lk) k) : relC (xh, xc, xe, upd li d (nI v), ki, go, co, lk) (setLs k d v) := ⟨h.1, h.2.1, h.2.2.1, fun i hi => up_nI (h.2.2.2.1 i hi), h.2.2.2.2.1, h.2.2.2.2.2⟩
theorem relC_lk {i j v : Nat} (h6 : k.cm ≤ 6) (hj : j < 6) (h : relC (xh, xc, xe, li, ki, go, co, lk) k) : relC (xh, xc, xe, li, ki, go, co, upd lk (6 * i + j) (nI v)) (setLk k i j v) := ⟨h.1, h.2.1, h.2.2.1, h.2.2.2.1, h.2.2.2.2.1, fun a ha b hb => by
  have hb : b < k.cm := hb
  show upd lk (6 * i + j) (nI v) (6 * a + b) = nI (if a = i ∧ b = j then v else k.lk a b)
  rw [upd_at]
  by_cases e : a = i ∧ b = j
  · rw [if_pos e, if_pos (by omega)]
  · rw [if_neg e, if_neg (by omega)]
    exact h.2.2.2.2.2 a ha b hb⟩
end
section
variable {a : Nat → Int32} {k : Ka} {o : Nat}
theorem relM_kd {c v : Nat} (hk : kok k) (hc : c < k.cm) (h : relM a o k) : relM (upd a (o + 4 + 3 * c) (nI v)) o (setKd k c v) := by
  have k4 := hk.1
  have k6 := hk.2.1
  refine ⟨fun i hi => ?_, fun d hd => ?_, fun i hi d hd => ?_, ?_⟩
  · have hi : i < k.hs := hi
    rw [upd_at, if_neg (by omega)]; exact h.1 i hi
  · have hd : d < k.cm := hd
    refine ⟨?_, by rw [upd_at, if_neg (by omega)]; exact (h.2.1 d hd).2.1, by rw [upd_at, if_neg (by omega)]; exact (h.2.1 d hd).2.2⟩
    show _ = nI (if d = c then v else k.kd d)
    rw [upd_at]
    by_cases e : d = c
    · rw [if_pos (by omega), if_pos e]
    · rw [if_neg (by omega), if_neg e]; exact (h.2.1 d hd).1
  · have hi : i < k.hs := hi
    have hd : d < k.cm := hd
    rw [upd_at, if_neg (by omega)]; exact h.2.2.1 i hi d hd
  · rw [upd_at, if_neg (by omega)]; exact h.2.2.2
theorem relM_go {c v : Nat} (hk : kok k) (hc : c < k.cm) (h : relM a o k) : relM (upd a (o + 5 + 3 * c) (goI v)) o (setGo k c v) := by
  have k4 := hk.1
  have k6 := hk.2.1
  refine ⟨fun i hi => ?_, fun d hd => ?_, fun i hi d hd => ?_, ?_⟩
  · have hi : i < k.hs := hi
    rw [upd_at, if_neg (by omega)]; exact h.1 i hi
  · have hd : d < k.cm := hd
    refine ⟨by rw [upd_at, if_neg (by omega)]; exact (h.2.1 d hd).1, ?_, by rw [upd_at, if_neg (by omega)]; exact (h.2.1 d hd).2.2⟩
    show _ = goI (if d = c then v else k.go d)
    rw [upd_at]
    by_cases e : d = c
    · rw [if_pos (by omega), if_pos e]
    · rw [if_neg (by omega), if_neg e]; exact (h.2.1 d hd).2.1
  · have hi : i < k.hs := hi
    have hd : d < k.cm := hd
    rw [upd_at, if_neg (by omega)]; exact h.2.2.1 i hi d hd
  · rw [upd_at, if_neg (by omega)]; exact h.2.2.2
theorem relM_co {c v : Nat} (hk : kok k) (hc : c < k.cm) (h : relM a o k) : relM (upd a (o + 6 + 3 * c) (nI v)) o (setCo k c v) := by
  have k4 := hk.1
  have k6 := hk.2.1
  refine ⟨fun i hi => ?_, fun d hd => ?_, fun i hi d hd => ?_, ?_⟩
  · have hi : i < k.hs := hi
    rw [upd_at, if_neg (by omega)]; exact h.1 i hi
  · have hd : d < k.cm := hd
    refine ⟨by rw [upd_at, if_neg (by omega)]; exact (h.2.1 d hd).1, by rw [upd_at, if_neg (by omega)]; exact (h.2.1 d hd).2.1, ?_⟩
    show _ = nI (if d = c then v else k.co d)
    rw [upd_at]
    by_cases e : d = c
    · rw [if_pos (by omega), if_pos e]
    · rw [if_neg (by omega), if_neg e]; exact (h.2.1 d hd).2.2
  · have hi : i < k.hs := hi
    have hd : d < k.cm := hd
    rw [upd_at, if_neg (by omega)]; exact h.2.2.1 i hi d hd
  · rw [upd_at, if_neg (by omega)]; exact h.2.2.2
theorem relM_ls {i v : Nat} (hk : kok k) (hi : i < k.hs) (h : relM a o k) : relM (upd a (o + i) (nI v)) o (setLs k i v) := by
  have k4 := hk.1
  have k6 := hk.2.1
  refine ⟨fun j hj => ?_, fun d hd => ?_, fun j hj d hd => ?_, ?_⟩
  · have hj : j < k.hs := hj
    show _ = nI (if j = i then v else k.ls j)
    rw [upd_at]
    by_cases e : j = i
    · rw [if_pos (by omega), if_pos e]
    · rw [if_neg (by omega), if_neg e]; exact h.1 j hj
  · have hd : d < k.cm := hd
    exact ⟨by rw [upd_at, if_neg (by omega)]; exact (h.2.1 d hd).1, by rw [upd_at, if_neg (by omega)]; exact (h.2.1 d hd).2.1, by rw [upd_at, if_neg (by omega)]; exact (h.2.1 d hd).2.2⟩
  · have hj : j < k.hs := hj
    have hd : d < k.cm := hd
    rw [upd_at, if_neg (by omega)]; exact h.2.2.1 j hj d hd
  · rw [upd_at, if_neg (by omega)]; exact h.2.2.2
theorem relM_lk {i c v : Nat} (hk : kok k) (hi : i < k.hs) (hc : c < k.cm) (h : relM a o k) : relM (upd a (o + 22 + 6 * i + c) (nI v)) o (setLk k i c v) := by
  have k4 := hk.1
  have k6 := hk.2.1
  refine ⟨fun j hj => ?_, fun d hd => ?_, fun j hj d hd => ?_, ?_⟩
  · have hj : j < k.hs := hj
    rw [upd_at, if_neg (by omega)]; exact h.1 j hj
  · have hd : d < k.cm := hd
    exact ⟨by rw [upd_at, if_neg (by omega)]; exact (h.2.1 d hd).1, by rw [upd_at, if_neg (by omega)]; exact (h.2.1 d hd).2.1, by rw [upd_at, if_neg (by omega)]; exact (h.2.1 d hd).2.2⟩
  · have hj : j < k.hs := hj
    have hd : d < k.cm := hd
    show _ = nI (if j = i ∧ d = c then v else k.lk j d)
    rw [upd_at]
    by_cases e : j = i ∧ d = c
    · rw [if_pos (by omega), if_pos e]
    · rw [if_neg (by omega), if_neg e]; exact h.2.2.1 j hj d hd
  · rw [upd_at, if_neg (by omega)]; exact h.2.2.2
end
/-- the trial, begun anew, goes n evenings -/
theorem e_din0 {x : Cty} {k : Ka} {n : Nat} (hk : kok k) (hC : relC x k) (hn : n ≤ 61) (he : k.ev + n ≤ 2000) (b w : Int32) (hrs ops : Nat → Int32) :
    ∃ (b' w' : Int32) (hrs' ops' lk' : Nat → Int32), f_X10_dinnersIn 0 0 (-4) x.1 x.2.1 x.2.2.1 x.2.2.2.2.2.2.1 x.2.2.2.2.2.1 x.2.2.2.2.1 x.2.2.2.2.2.2.2 x.2.2.2.1 b w hrs ops (nI n) = some (nI (dn n k), nI n, nI (wn n k), ffS 0 n k (-4), nI (k.ev + n), lk', b', w', hrs', ops') ∧ (n = 0 ∨ (b' = nI (msk (bgK (evn (n - 1) k)) k.hs) ∧ w' = nI (wK (evn (n - 1) k)) ∧ ∀ h, h < k.hs → hrs' h = nI (hrK (evn (n - 1) k) h) ∧ ops' h = opI (opK (evn (n - 1) k) h))) ∧ relC (x.1, x.2.1, nI (k.ev + n), x.2.2.2.1, x.2.2.2.2.1, x.2.2.2.2.2.1, x.2.2.2.2.2.2.1, lk') (evn n k) := by
  obtain ⟨b', w', hrs', ops', lk', h1, h2, h3⟩ := e_dinnersIn hk hC hn he 0 0 (-4) b w hrs ops
  rw [Nat.zero_add, Nat.zero_add] at h1
  exact ⟨b', w', hrs', ops', lk', h1, h2, h3⟩
theorem e_rst (e w f a b c h0 c0 e0 : Int32) (r1 r2 r3 r4 r5 co go ki lk li : Nat → Int32) : f_X10_restart e w f a b c r1 r2 r3 r4 r5 h0 c0 e0 co go ki lk li = some (0, 0, -4, h0, c0, e0, co, go, ki, lk, li) := rfl
theorem far_bad {x : Int32} (h : ¬ (0 ≤ x ∧ x ≤ nI 60)) : f_X12_isFar x = some 0 := by
  unfold f_X12_isFar
  have e : f_X12_in x.toInt64 0 60 = some 0 := in_bad (n := 60) rfl h
  rw [e]; rfl
theorem far_ok {n : Nat} (h : n ≤ 60) : f_X12_isFar (nI n) = some 1 := by
  unfold f_X12_isFar
  have e : f_X12_in (nI n).toInt64 0 60 = some 1 := in_ok (n := 60) rfl h (by decide)
  rw [e]; rfl
theorem part_bad {x : Int32} (h : ¬ (0 ≤ x ∧ x ≤ nI 1)) : f_X12_isPart x = some 0 := by
  unfold f_X12_isPart
  have e : f_X12_in x.toInt64 0 1 = some 0 := in_bad (n := 1) rfl h
  rw [e]; rfl
theorem part_ok {n : Nat} (h : n ≤ 1) : f_X12_isPart (nI n) = some 1 := by
  unfold f_X12_isPart
  have e : f_X12_in (nI n).toInt64 0 1 = some 1 := in_ok (n := 1) rfl h (by decide)
  rw [e]; rfl
