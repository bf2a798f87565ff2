def dK (k : Ka) : Nat := cnt (bgK k) k.hs
def wK (k : Ka) : Nat := smN (hrK k) k.hs
def evn : Nat → Ka → Ka
  | 0, k => k
  | n + 1, k => evn n (eve k)
def dn : Nat → Ka → Nat
  | 0, _ => 0
  | n + 1, k => dK k + dn n (eve k)
def wn : Nat → Ka → Nat
  | 0, _ => 0
  | n + 1, k => wK k + wn n (eve k)
def ffS : Nat → Nat → Ka → Int32 → Int32
  | _, 0, _, ff => ff
  | e, n + 1, k, ff => ffS (e + 1) n (eve k) (if dK k < k.hs ∧ ff = -4 then nI (e + 1) else ff)
theorem evn_same : ∀ (n : Nat) (k : Ka), (evn n k).hs = k.hs ∧ (evn n k).cm = k.cm ∧ (evn n k).ev = k.ev + n ∧ (evn n k).ls = k.ls ∧ (evn n k).kd = k.kd ∧ (evn n k).go = k.go ∧ (evn n k).co = k.co
  | 0, k => ⟨rfl, rfl, rfl, rfl, rfl, rfl, rfl⟩
  | n + 1, k => by
    obtain ⟨a1, a2, a3, a4, a5, a6, a7⟩ := evn_same n (eve k)
    refine ⟨a1, a2, ?_, a4, a5, a6, a7⟩
    have a3 : (evn n (eve k)).ev = k.ev + 1 + n := a3
    show (evn n (eve k)).ev = _
    omega
theorem kok_evn : ∀ (n : Nat) {k : Ka}, kok k → k.ev + n ≤ 2000 → kok (evn n k)
  | 0, k, hk, _ => hk
  | n + 1, k, hk, he => kok_evn n (kok_eve hk (by omega)) (by show k.ev + 1 + n ≤ 2000; omega)
theorem dK_le {k : Ka} (hk : kok k) : dK k ≤ 4 := Nat.le_trans (cnt_le _ _) hk.1
theorem wK_le {k : Ka} (hk : kok k) : wK k ≤ 28 := by
  have h1 : wK k ≤ k.hs * 7 := smN_le (fun h _ => hrK_le k h)
  have := hk.1
  omega
theorem dn_le : ∀ (n : Nat) {k : Ka}, kok k → k.ev + n ≤ 2000 → dn n k ≤ 4 * n
  | 0, k, _, _ => Nat.le_refl _
  | n + 1, k, hk, he => by
    have h1 := dK_le hk
    have h2 := dn_le n (kok_eve hk (by omega)) (by show k.ev + 1 + n ≤ 2000; omega)
    rw [dn]; omega
theorem evn_succ : ∀ (n : Nat) (k : Ka), evn (n + 1) k = eve (evn n k)
  | 0, _ => rfl
  | n + 1, k => evn_succ n (eve k)
-- the class
theorem e_dinnersIn {x : Cty} {k : Ka} {n : Nat} (hk : kok k) (hC : relC x k) (hn : n ≤ 61) (he : k.ev + n ≤ 2000) (e0 w0 : Nat) (ff b w : Int32) (hrs ops : Nat → Int32) :
    ∃ (b' w' : Int32) (hrs' ops' lk' : Nat → Int32), f_X10_dinnersIn (nI e0) (nI w0) ff x.1 x.2.1 x.2.2.1 x.2.2.2.2.2.2.1 x.2.2.2.2.2.1 x.2.2.2.2.1 x.2.2.2.2.2.2.2 x.2.2.2.1 b w hrs ops (nI n) = some (nI (dn n k), nI (e0 + n), nI (w0 + wn n k), ffS e0 n k ff, nI (k.ev + n), lk', b', w', hrs', ops') ∧ (n = 0 ∨ (b' = nI (msk (bgK (evn (n - 1) k)) k.hs) ∧ w' = nI (wK (evn (n - 1) k)) ∧ ∀ h, h < k.hs → hrs' h = nI (hrK (evn (n - 1) k) h) ∧ ops' h = opI (opK (evn (n - 1) k) h))) ∧ relC (x.1, x.2.1, nI (k.ev + n), x.2.2.2.1, x.2.2.2.2.1, x.2.2.2.2.2.1, x.2.2.2.2.2.2.1, lk') (evn n k) := by
  obtain ⟨xh, xc, xe, li, ki, go, co, lk⟩ := x
  have key : ∀ (q i m : Nat) (k : Ka) (d0 e0 w0 : Nat) (ff b w : Int32) (hrs ops lk : Nat → Int32) (xe : Int32), kok k → relC (xh, xc, xe, li, ki, go, co, lk) k → i + q = n → q < m → k.ev + q ≤ 2000 →
      ∃ (b' w' : Int32) (hrs' ops' lk' : Nat → Int32), L_X10_dinnersIn_4 xh xc co go ki li (nI n) m (nI d0) (nI i) (nI e0) (nI w0) ff xe lk b w hrs ops = some (nI (d0 + dn q k), nI (e0 + q), nI (w0 + wn q k), ffS e0 q k ff, nI (k.ev + q), lk', b', w', hrs', ops') ∧ (q = 0 ∨ (b' = nI (msk (bgK (evn (q - 1) k)) k.hs) ∧ w' = nI (wK (evn (q - 1) k)) ∧ ∀ h, h < k.hs → hrs' h = nI (hrK (evn (q - 1) k) h) ∧ ops' h = opI (opK (evn (q - 1) k) h))) ∧ relC (xh, xc, nI (k.ev + q), li, ki, go, co, lk') (evn q k) := by
    intro q
    induction q with
    | zero =>
      intro i m k d0 e0 w0 ff b w hrs ops lk xe hk hC e hm he
      obtain ⟨m, rfl⟩ : ∃ m', m = m' + 1 := ⟨m - 1, by omega⟩
      have e2 : i = n := by omega
      subst e2
      have c3 : xe = nI k.ev := hC.2.2.1
      rw [L_X10_dinnersIn_4, if_pos (nI_le (Nat.le_refl _) (by omega))]
      refine ⟨b, w, hrs, ops, lk, ?_, Or.inl rfl, ?_⟩
      · rw [c3]; rfl
      · rw [c3] at hC; exact hC
    | succ q ih =>
      intro i m k d0 e0 w0 ff b w hrs ops lk xe hk hC e hm he
      obtain ⟨m, rfl⟩ : ∃ m', m = m' + 1 := ⟨m - 1, by omega⟩
      obtain ⟨hrs1, ops1, lk1, a1, a2, a3⟩ := e_hold hk hC b w hrs ops
      have a1 : f_X2_hold b w hrs ops xh xc xe co go ki lk li = some (nI (msk (bgK k) k.hs), nI (smN (hrK k) k.hs), hrs1, ops1, nI (k.ev + 1), lk1) := a1
      have c1 : xh = nI k.hs := hC.1
      have k4 := hk.1
      obtain ⟨b', w', hrs', ops', lk', b1, b2, b3⟩ := ih (i + 1) m (eve k) (d0 + dK k) (e0 + 1) (w0 + wK k) (if dK k < k.hs ∧ ff = -4 then nI (e0 + 1) else ff) (nI (msk (bgK k) k.hs)) (nI (smN (hrK k) k.hs)) hrs1 ops1 lk1 (nI (k.ev + 1)) (kok_eve hk (by omega)) a3 (by omega) (by omega) (by show k.ev + 1 + q ≤ 2000; omega)
      refine ⟨b', w', hrs', ops', lk', ?_, Or.inr ?_, ?_⟩
      · rw [L_X10_dinnersIn_4, if_neg (nI_ge (by omega) (by omega)), a1, sb]
        dsimp only
        rw [bc_msk (by omega), sb, nI_1, nI_1, nI_add, nI_add]
        have hle : dK k ≤ 4 := dK_le hk
        rw [dn, wn, ffS, show d0 + (dK k + dn q (eve k)) = d0 + dK k + dn q (eve k) by omega, show w0 + (wK k + wn q (eve k)) = w0 + wK k + wn q (eve k) by omega, show e0 + (q + 1) = e0 + 1 + q by omega, show k.ev + (q + 1) = (eve k).ev + q by show k.ev + (q + 1) = k.ev + 1 + q; omega]
        by_cases q1 : k.hs ≤ dK k
        · have q1' : xh ≤ nI (cnt (bgK k) k.hs) := by rw [c1]; exact nI_le q1 (by have := dK_le hk; have : cnt (bgK k) k.hs ≤ 4 := this; omega)
          rw [if_pos q1']
          rw [if_neg (fun q9 => by omega)] at b1
          rw [if_neg (fun q9 => by omega)]
          exact b1
        · have q1' : ¬ xh ≤ nI (cnt (bgK k) k.hs) := by rw [c1]; exact nI_ge (by show dK k < k.hs; omega) (by omega)
          rw [if_neg q1']
          by_cases q2 : ff = -4
          · rw [if_pos q2]
            rw [if_pos ⟨by omega, q2⟩] at b1
            rw [if_pos ⟨by omega, q2⟩]
            exact b1
          · rw [if_neg q2]
            rw [if_neg (fun q9 => q2 q9.2)] at b1
            rw [if_neg (fun q9 => q2 q9.2)]
            exact b1
      · rcases b2 with rfl | ⟨d1, d2, d3⟩
        · obtain ⟨m, rfl⟩ : ∃ m', m = m' + 1 := ⟨m - 1, by omega⟩
          rw [L_X10_dinnersIn_4, if_pos (nI_le (by omega) (by omega))] at b1
          have e9 := Option.some.inj b1
          simp only [Prod.mk.injEq] at e9
          obtain ⟨-, -, -, -, -, -, r1, r2, r3, r4⟩ := e9
          refine ⟨r1.symm, r2.symm, fun h hh => ?_⟩
          rw [← r3, ← r4]
          exact a2 h hh
        · cases q with
          | zero =>
            obtain ⟨m, rfl⟩ : ∃ m', m = m' + 1 := ⟨m - 1, by omega⟩
            rw [L_X10_dinnersIn_4, if_pos (nI_le (by omega) (by omega))] at b1
            have e9 := Option.some.inj b1
            simp only [Prod.mk.injEq] at e9
            obtain ⟨-, -, -, -, -, -, r1, r2, r3, r4⟩ := e9
            refine ⟨r1.symm, r2.symm, fun h hh => ?_⟩
            rw [← r3, ← r4]
            exact a2 h hh
          | succ q => exact ⟨d1, d2, d3⟩
      · rw [show k.ev + (q + 1) = (eve k).ev + q by show k.ev + (q + 1) = k.ev + 1 + q; omega]
        exact b3
  obtain ⟨b', w', hrs', ops', lk', b1, b2, b3⟩ := key n 0 400 k 0 e0 w0 ff b w hrs ops lk xe hk hC (by omega) (by omega) he
  refine ⟨b', w', hrs', ops', lk', ?_, b2, b3⟩
  show f_X10_dinnersIn (nI e0) (nI w0) ff xh xc xe co go ki lk li b w hrs ops (nI n) = _
  unfold f_X10_dinnersIn
  have b0 : L_X10_dinnersIn_4 xh xc co go ki li (nI n) 400 0 0 (nI e0) (nI w0) ff xe lk b w hrs ops = _ := b1
  rw [b0, sb, Nat.zero_add]
