def smN (f : Nat → Nat) : Nat → Nat
  | 0 => 0
  | n + 1 => smN f n + f n
theorem smN_congr {f g : Nat → Nat} : ∀ {n : Nat}, (∀ c, c < n → f c = g c) → smN f n = smN g n
  | 0, _ => rfl
  | n + 1, h => by rw [smN, smN, smN_congr (fun c hc => h c (by omega)), h n (by omega)]
theorem smN_le {f : Nat → Nat} {b : Nat} : ∀ {n : Nat}, (∀ c, c < n → f c ≤ b) → smN f n ≤ n * b
  | 0, _ => by simp [smN]
  | n + 1, h => by
    have h1 := smN_le (n := n) (fun c hc => h c (by omega))
    have h2 := h n (by omega)
    rw [smN, Nat.succ_mul]; omega
def wtK (k : Ka) (cg h : Nat) : (Nat → Nat) × Nat × Option Nat := wt k.cm k.kd (k.ls h) (thr k.go k.co cg h) 7 0 (k.lk h)
def hrK (k : Ka) (h : Nat) : Nat := (wtK k 63 h).2.1
def opK (k : Ka) (h : Nat) : Option Nat := (wtK k 63 h).2.2
def bgK (k : Ka) (h : Nat) : Bool := decide (hrK k h < 7)
/-- an evening -/
def eve (k : Ka) : Ka := ((k.hs, k.cm, k.ev + 1), k.ls, k.kd, k.go, k.co, fun h c => (wtK k 63 h).1 c)
theorem ls64 {k : Ka} (hk : kok k) {h : Nat} (hh : h < k.hs) : k.ls h < 64 := Nat.lt_of_lt_of_le (hk.2.2.2.1 h hh) (Nat.pow_le_pow_right (by decide) hk.2.1)
theorem hrK_le (k : Ka) (h : Nat) : hrK k h ≤ 7 := by
  rcases wt_hr (cm := k.cm) (kd := k.kd) (lb := k.ls h) (th := thr k.go k.co 63 h) 7 0 (k.lk h) rfl with ⟨-, r⟩ | ⟨-, r⟩
  · exact Nat.le_of_eq r
  · exact Nat.le_of_lt r
theorem kok_eve {k : Ka} (hk : kok k) (he : k.ev < 2000) : kok (eve k) := ⟨hk.1, hk.2.1, he, hk.2.2.2.1, hk.2.2.2.2.1, fun h hh c hc => wt_le hk.2.1 (fun c hc => (hk.2.2.2.2.1 c hc).1) 7 0 (k.lk h) (fun c hc => hk.2.2.2.2.2 h hh c hc) c hc⟩
theorem e_hold {x : Cty} {k : Ka} (hk : kok k) (hC : relC x k) (b w : Int32) (hrs ops : Nat → Int32) : ∃ hrs' ops' lk' : Nat → Int32, f_X2_hold b w hrs ops x.1 x.2.1 x.2.2.1 x.2.2.2.2.2.2.1 x.2.2.2.2.2.1 x.2.2.2.2.1 x.2.2.2.2.2.2.2 x.2.2.2.1 = some (nI (msk (bgK k) k.hs), nI (smN (hrK k) k.hs), hrs', ops', nI (k.ev + 1), lk') ∧ (∀ h, h < k.hs → hrs' h = nI (hrK k h) ∧ ops' h = opI (opK k h)) ∧ relC (x.1, x.2.1, nI (k.ev + 1), x.2.2.2.1, x.2.2.2.2.1, x.2.2.2.2.2.1, x.2.2.2.2.2.2.1, lk') (eve k) := by
  obtain ⟨xh, xc, xe, li, ki, go, co, lk⟩ := x
  obtain ⟨c1, c2, c3, c4, c5, c6⟩ := hC
  obtain ⟨k4, k6, -, kl, kc, kk⟩ := id hk
  have key : ∀ (n0 i n : Nat) (y4 y5 y6 : Nat → Int32), i + n0 = k.hs → n0 < n → (∀ h, i ≤ h → h < k.hs → ∀ c, c < k.cm → y6 (6 * h + c) = nI (k.lk h c)) → ∃ y4' y5' y6' : Nat → Int32, L_X2_hold_12 (nI k.hs) (nI k.cm) co go ki li n (nI i) (nI (msk (bgK k) i)) (nI (smN (hrK k) i)) y4 y5 y6 = some (nI (msk (bgK k) k.hs), nI (smN (hrK k) k.hs), y4', y5', y6') ∧ (∀ h, i ≤ h → h < k.hs → y4' h = nI (hrK k h) ∧ y5' h = opI (opK k h) ∧ ∀ c, c < k.cm → y6' (6 * h + c) = nI ((eve k).lk h c)) ∧ ∀ h, h < i → y4' h = y4 h ∧ y5' h = y5 h ∧ ∀ c, c < k.cm → y6' (6 * h + c) = y6 (6 * h + c) := by
    intro n0
    induction n0 with
    | zero =>
      intro i n y4 y5 y6 e hn hy
      obtain ⟨n, rfl⟩ : ∃ n', n = n' + 1 := ⟨n - 1, by omega⟩
      have e2 : i = k.hs := by omega
      subst e2
      rw [L_X2_hold_12, if_pos (nI_le (Nat.le_refl _) (by omega))]
      exact ⟨y4, y5, y6, rfl, fun h h1 h2 => absurd h2 (by omega), fun h _ => ⟨rfl, rfl, fun _ _ => rfl⟩⟩
    | succ n0 ih =>
      intro i n y4 y5 y6 e hn hy
      obtain ⟨n, rfl⟩ : ∃ n', n = n' + 1 := ⟨n - 1, by omega⟩
      obtain ⟨lk', a1, a2, a3⟩ := e_holdAt (cm := k.cm) (h := i) (lb := k.ls i) (cg := 63) (hrs := y4) (ops := y5) (co := co) (go := go) (ki := ki) (lk := y6) (li := li) (cn := k.co) (kd := k.kd) (gn := k.go) (row := k.lk i) k6 (by omega) (c4 i (by omega)) (ls64 hk (by omega)) (by decide) (fun c hc => ⟨(c5 c hc).2.2, (kc c hc).2.2⟩) (fun c hc => ⟨(c5 c hc).1, (kc c hc).1⟩) (fun c hc => ⟨(c5 c hc).2.1, by rcases (kc c hc).2.1 with q | q <;> omega⟩) (fun c hc => ⟨hy i (Nat.le_refl _) (by omega) c hc, kk i (by omega) c hc⟩)
      have a0 : f_X2_holdAt y4 y5 (nI k.cm) co go ki y6 li (nI i) 63 = some (nI (hrK k i), upd y4 i (nI (hrK k i)), upd y5 i (opI (opK k i)), lk') := a1
      obtain ⟨y4', y5', y6', b1, b2, b3⟩ := ih (i + 1) n (upd y4 i (nI (hrK k i))) (upd y5 i (opI (opK k i))) lk' (by omega) (by omega) (fun h h1 h2 c hc => by rw [a3 _ (fun d hd => by omega)]; exact hy h (by omega) h2 c hc)
      rw [L_X2_hold_12, if_neg (nI_ge (by omega) (by omega)), a0, sb]
      rw [msk, smN] at b1
      have hle := hrK_le k i
      refine ⟨y4', y5', y6', ?_, fun h h1 h2 => ?_, fun h h1 => ?_⟩
      · by_cases q : hrK k i < 7
        · rw [if_neg (nI_n7 q), nI_1, nI_add, bt_or _ (msk_lt6 _ (by omega)) _ (by omega)]
          rw [if_pos (by simp [bgK, q])] at b1
          exact b1
        · have e7 : hrK k i = 7 := by omega
          have e9 : nI (hrK k i) = 7 := by rw [e7]; rfl
          rw [if_pos e9, nI_1]
          rw [if_neg (by simp [bgK, q])] at b1
          have e8 : nI (smN (hrK k) i) + nI (hrK k i) = nI (smN (hrK k) i + hrK k i) := nI_add _ _
          rw [← e8] at b1
          exact b1
      · rcases Nat.lt_or_ge i h with q | q
        · exact b2 h q h2
        · have eh : h = i := by omega
          subst eh
          obtain ⟨d1, d2, d3⟩ := b3 h (by omega)
          refine ⟨by rw [d1, upd_at, if_pos rfl], by rw [d2, upd_at, if_pos rfl], fun c hc => by rw [d3 c hc]; exact a2 c hc⟩
      · obtain ⟨d1, d2, d3⟩ := b3 h (by omega)
        refine ⟨by rw [d1, upd_at, if_neg (by omega)], by rw [d2, upd_at, if_neg (by omega)], fun c hc => by rw [d3 c hc, a3 _ (fun d hd => by omega)]⟩
  obtain ⟨y4', y5', y6', b1, b2, -⟩ := key k.hs 0 400 hrs ops lk (by omega) (by omega) (fun h _ hh c hc => c6 h hh c hc)
  refine ⟨y4', y5', y6', ?_, fun h hh => ⟨(b2 h (Nat.zero_le _) hh).1, (b2 h (Nat.zero_le _) hh).2.1⟩, c1, c2, rfl, c4, c5, fun h hh c hc => (b2 h (Nat.zero_le _) hh).2.2 c hc⟩
  have c1 : xh = nI k.hs := c1
  have c2 : xc = nI k.cm := c2
  have c3 : xe = nI k.ev := c3
  show f_X2_hold b w hrs ops xh xc xe co go ki lk li = _
  unfold f_X2_hold
  have b0 : L_X2_hold_12 (nI k.hs) (nI k.cm) co go ki li 400 0 0 0 hrs ops lk = _ := b1
  rw [c1, c2, c3, b0, sb, nI_1]
