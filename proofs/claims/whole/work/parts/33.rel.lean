/-! ===== how class and reference hang together ===== -/
/-! bits -/
theorem bt_tab : ∀ T, T < 128 → ∀ f, f < 7 → (nI T >>> (nI f &&& 31)) &&& 1 = b2i (T.testBit f) ∧ nI T ||| bitI f = nI (T ||| 2 ^ f) := by decide +kernel
theorem bt_rest : ∀ n, n < 8 → ∀ T, T < 128 → (((1 : Int32) <<< (nI n &&& 31)) - 1) &&& (nI T ^^^ (-1)) = nI ((2 ^ n - 1) ^^^ ((2 ^ n - 1) &&& T)) := by decide +kernel
theorem bt_restb : ∀ n, n < 8 → ∀ T, T < 128 → ∀ f, f < 7 → ((2 ^ n - 1) ^^^ ((2 ^ n - 1) &&& T)).testBit f = (decide (f < n) && !T.testBit f) := by decide +kernel
theorem bt_small : ∀ n, n < 8 → ∀ T, T < 2 ^ n → ∀ f, f < 7 → n ≤ f → T.testBit f = false := by decide +kernel
theorem bt_or : ∀ n, n < 8 → ∀ T, T < 2 ^ n → ∀ f, f < n → T ||| 2 ^ f < 2 ^ n := by decide +kernel
theorem pw_le {n : Nat} (h : n < 8) : 2 ^ n ≤ 128 := by
  have : ∀ n, n < 8 → 2 ^ n ≤ 128 := by decide
  exact this n h
theorem bt_lt {n T : Nat} (h : n < 8) (hT : T < 2 ^ n) : T < 128 := Nat.lt_of_lt_of_le hT (pw_le h)
theorem bt_set (T f g : Nat) : (T ||| 2 ^ f).testBit g = (T.testBit g || decide (g = f)) := by
  rw [Nat.testBit_or, Nat.testBit_two_pow]
  congr 1
  by_cases h : f = g
  · subst h; simp
  · simp [h, Ne.symm h]
def restM (n T : Nat) : Nat := (2 ^ n - 1) ^^^ ((2 ^ n - 1) &&& T)
theorem restM_b {n T f : Nat} (hn : n < 8) (hT : T < 128) (hf : f < 7) : (restM n T).testBit f = (decide (f < n) && !T.testBit f) := bt_restb n hn T hT f hf
theorem restM_lt : ∀ n, n < 8 → ∀ T, T < 128 → restM n T < 128 := by decide +kernel
def cnt (p : Nat → Bool) : Nat → Nat
  | 0 => 0
  | n + 1 => cnt p n + (if p n = true then 1 else 0)
theorem cnt_le (p : Nat → Bool) : ∀ n, cnt p n ≤ n
  | 0 => Nat.le_refl 0
  | n + 1 => by
    have := cnt_le p n
    unfold cnt
    split <;> omega
theorem cnt_cong {p q : Nat → Bool} : ∀ {n : Nat}, (∀ k, k < n → p k = q k) → cnt p n = cnt q n
  | 0, _ => rfl
  | n + 1, h => by
    unfold cnt
    rw [cnt_cong (fun k hk => h k (by omega)), h n (by omega)]
theorem cnt_more {p : Nat → Bool} {n : Nat} : ∀ k, (∀ j, n ≤ j → p j = false) → cnt p (n + k) = cnt p n
  | 0, _ => rfl
  | k + 1, h => by
    rw [← Nat.add_assoc]
    show cnt p (n + k) + _ = _
    rw [cnt_more k h, h (n + k) (by omega)]
    simp
theorem m_has {T f : Nat} {m : Mem} (hT : T < 128) (hf : f < 7) : f_X9_has (nI T) (nI f) m = some (b2i (T.testBit f), m) := by
  refine ok_v ?_
  unfold f_X9_has
  rw [(bt_tab T hT f hf).1]
  cases T.testBit f with
  | true => exact ok_t rfl (ok_ret ⟨rfl, rfl⟩)
  | false => exact ok_f (by decide) (ok_ret ⟨rfl, rfl⟩)
theorem m_ones_l {N T : Nat} {m : Mem} (hT : T < 128) : ∀ (k n j s : Nat), j + k = 7 → k < n → s = cnt (fun f => T.testBit f) j → l_X9_ones N n (nI T) (nI s) (nI j) m = some (nI (cnt (fun f => T.testBit f) 7), m) := by
  intro k
  induction k with
  | zero =>
    intro n j s hj hn hs
    obtain ⟨n, rfl⟩ : ∃ n', n = n' + 1 := ⟨n - 1, by omega⟩
    refine ok_v ?_
    show Ok (B_X9_ones_4 N (l_X9_ones N n) (nI T) (nI s) (nI j) m) _
    unfold B_X9_ones_4
    rw [show j = 7 by omega] at *
    exact ok_t (Int32.le_refl _) (ok_ret ⟨by rw [hs], rfl⟩)
  | succ k ih =>
    intro n j s hj hn hs
    obtain ⟨n, rfl⟩ : ∃ n', n = n' + 1 := ⟨n - 1, by omega⟩
    refine ok_v ?_
    show Ok (B_X9_ones_4 N (l_X9_ones N n) (nI T) (nI s) (nI j) m) _
    unfold B_X9_ones_4
    rw [(bt_tab T hT j (by omega)).1, nI_1]
    refine ok_f (nI_ge (b := 7) (by omega) (by omega)) (ok_li (fun z hz => ?_))
    have hz' : z = nI (cnt (fun f => T.testBit f) (j + 1)) := by
      rw [hz, hs]
      show _ = nI (cnt _ j + if T.testBit j = true then 1 else 0)
      cases T.testBit j with
      | true => exact nI_1 _
      | false => exact Int32.add_zero _
    rw [hz']
    exact ok_of (ih n (j + 1) _ (by omega) (by omega) rfl)
theorem m_ones {N T : Nat} {m : Mem} (hN : 8 ≤ N) (hT : T < 128) : f_X9_ones N (nI T) m = some (nI (cnt (fun f => T.testBit f) 7), m) := m_ones_l hT 7 N 0 0 rfl (by omega) rfl
theorem m_rest {T : Nat} {m : Mem} (hC : mcOk m) (hT : T < 128) (h : m.1 1 10 = nI T) : f_X9_rest m = some (nI (restM (cM (mC_ m)) T), m) := by
  unfold f_X9_rest
  rw [h, mc_m hC]
  have := hC.1.2.2.1.2
  exact congrArg (fun z => some (z, m)) (bt_rest _ (by omega) T hT)
/-! ranges -/
def rng (x : Int32) (n : Nat) : Bool := decide (0 ≤ x.toInt ∧ x.toInt < n)
theorem rng_t {x : Int32} {n : Nat} (h : rng x n = true) : ∃ j, j < n ∧ x = nI j := by
  have h := of_decide_eq_true h
  exact i_of h.1 h.2
def rgi (x : Int32) (lo hi : Int) : Bool := decide (lo ≤ x.toInt ∧ x.toInt ≤ hi)
theorem x_within {a lo hi : Int32} {m : Mem} : f_X8_within a lo hi m = some (b2i (rgi a lo.toInt hi.toInt), m) := by
  refine ok_v ?_
  unfold f_X8_within rgi
  refine ok_if (fun h => ok_ret ⟨?_, rfl⟩) (fun h => ok_if (fun h2 => ok_ret ⟨?_, rfl⟩) (fun h2 => ok_ret ⟨?_, rfl⟩))
  · rw [i_lt] at h; rw [decide_eq_false (by omega)]; rfl
  · rw [i_lt] at h2; rw [decide_eq_false (by omega)]; rfl
  · rw [i_lt] at h h2; rw [decide_eq_true (by omega)]; rfl
theorem m_in {a lo hi : Int64} {m : Mem} : f_X9_in a lo hi m = some (b2i (decide (lo.toInt ≤ a.toInt ∧ a.toInt ≤ hi.toInt)), m) := by
  have c1 : ∀ x y : Int64, (lg_cmp x y < 0 ↔ x.toInt < y.toInt) ∧ (0 < lg_cmp x y ↔ y.toInt < x.toInt) := by
    intro x y
    unfold lg_cmp
    by_cases h : x > y
    · rw [if_pos h]
      have : y.toInt < x.toInt := Int64.lt_iff_toInt_lt.mp h
      exact ⟨⟨fun q => absurd q (by decide), fun q => by omega⟩, ⟨fun _ => this, fun _ => by decide⟩⟩
    · rw [if_neg h]
      have h' : ¬ y.toInt < x.toInt := fun q => h (Int64.lt_iff_toInt_lt.mpr q)
      by_cases e : x = y
      · rw [if_pos e]
        subst e
        exact ⟨⟨fun q => absurd q (by decide), fun q => by omega⟩, ⟨fun q => absurd q (by decide), fun q => by omega⟩⟩
      · rw [if_neg e]
        have e' : ¬ x.toInt = y.toInt := fun q => e (Int64.toInt_inj.mp q)
        exact ⟨⟨fun _ => by omega, fun _ => by decide⟩, ⟨fun q => absurd q (by decide), fun q => by omega⟩⟩
  refine ok_v ?_
  unfold f_X9_in
  refine ok_if (fun h => ok_ret ⟨?_, rfl⟩) (fun h => ok_if (fun h2 => ok_ret ⟨?_, rfl⟩) (fun h2 => ok_ret ⟨?_, rfl⟩))
  · rw [(c1 _ _).1] at h; rw [decide_eq_false (by omega)]; rfl
  · rw [(c1 _ _).2] at h2; rw [decide_eq_false (by omega)]; rfl
  · rw [(c1 _ _).1] at h; rw [(c1 _ _).2] at h2; rw [decide_eq_true (by omega)]; rfl
theorem m_inI {a : Int32} {lo hi : Int64} {m : Mem} : f_X9_in a.toInt64 lo hi m = some (b2i (rgi a lo.toInt hi.toInt), m) := by
  rw [m_in, Int32.toInt_toInt64]
  rfl
theorem nI_m1 {n : Nat} (h : n < 2147483648) : (nI n - 1).toInt = (n : Int) - 1 := by
  have := nI_toInt (n := n) h
  have e1 : (1 : Int32).toInt = 1 := rfl
  rw [i_sub (by omega) (by omega)]
  omega
theorem rgi_rng {x : Int32} {n : Nat} (h : n < 2147483648) : rgi x 0 (nI n - 1).toInt = rng x n := by
  unfold rgi rng
  rw [nI_m1 h]
  congr 1
  apply propext
  omega
theorem x_hasCab {x : Int32} {m : Mem} (hC : xcOk m) : f_X0_hasCab 4 x m = some (b2i (rng x (cN (xC m))), m) := by
  have := hC.1.2.1.2
  refine ok_v ?_
  unfold f_X0_hasCab
  rw [xc_n hC]
  refine ok_eq x_within (ok_ck (b2i_01 _) (ok_ret ⟨?_, rfl⟩))
  rw [show (0 : Int32).toInt = 0 from rfl, rgi_rng (by omega)]
theorem x_hasFare {x : Int32} {m : Mem} (hC : xcOk m) : f_X0_hasFare 4 x m = some (b2i (rng x (cM (xC m))), m) := by
  have := hC.1.2.2.1.2
  refine ok_v ?_
  unfold f_X0_hasFare
  rw [xc_m hC]
  refine ok_eq x_within (ok_ck (b2i_01 _) (ok_ret ⟨?_, rfl⟩))
  rw [show (0 : Int32).toInt = 0 from rfl, rgi_rng (by omega)]
theorem m_isCab {x : Int32} {m : Mem} (hC : mcOk m) : f_X9_isCab x m = some (b2i (rng x (cN (mC_ m))), m) := by
  have := hC.1.2.1.2
  refine ok_v ?_
  unfold f_X9_isCab
  rw [mc_n hC]
  refine ok_eq m_inI (ok_ck (b2i_01 _) (ok_ret ⟨?_, rfl⟩))
  rw [show (0 : Int64).toInt = 0 from rfl, Int32.toInt_toInt64, rgi_rng (by omega)]
theorem m_isFare {x : Int32} {m : Mem} (hC : mcOk m) : f_X9_isFare x m = some (b2i (rng x (cM (mC_ m))), m) := by
  have := hC.1.2.2.1.2
  refine ok_v ?_
  unfold f_X9_isFare
  rw [mc_m hC]
  refine ok_eq m_inI (ok_ck (b2i_01 _) (ok_ret ⟨?_, rfl⟩))
  rw [show (0 : Int64).toInt = 0 from rfl, Int32.toInt_toInt64, rgi_rng (by omega)]
/-- how many places -/
def nPl (r c : Int32) : Nat := r.toInt.toNat * c.toInt.toNat
theorem nPl_b {r c : Int32} (hr : wdt r) (hc : wdt c) : r * c = nI (nPl r c) ∧ 1 ≤ nPl r c ∧ nPl r c ≤ 36 := by
  have ht : ∀ a, a < 7 → ∀ b, b < 7 → nI a * nI b = nI (a * b) ∧ a * b ≤ 36 ∧ (1 ≤ a → 1 ≤ b → 1 ≤ a * b) := by decide +kernel
  obtain ⟨h1, h2⟩ := hr
  obtain ⟨h3, h4⟩ := hc
  have h := ht r.toInt.toNat (by omega) c.toInt.toNat (by omega)
  rw [← i_nat (by omega), ← i_nat (by omega)] at h
  exact ⟨h.1, h.2.2 (by omega) (by omega), h.2.1⟩
theorem x_hasPlace {K : Nat} {x : Int32} {m : Mem} (hr : wdt (m.1 K 0)) (hc : wdt (m.1 K 1)) : f_X0_hasPlace K x m = some (b2i (rng x (nPl (m.1 K 0) (m.1 K 1))), m) := by
  have h := nPl_b hr hc
  refine ok_v ?_
  unfold f_X0_hasPlace f_X0_places
  rw [fl_bd_s, h.1]
  refine ok_eq x_within (ok_ck (b2i_01 _) (ok_ret ⟨?_, rfl⟩))
  rw [show (0 : Int32).toInt = 0 from rfl, rgi_rng (by omega)]
theorem m_isPlace {x : Int32} {m : Mem} (hr : wdt (m.1 0 3)) (hc : wdt (m.1 0 4)) : f_X9_isPlace x m = some (b2i (rng x (nPl (m.1 0 3) (m.1 0 4))), m) := by
  have h := nPl_b hr hc
  refine ok_v ?_
  unfold f_X9_isPlace f_X9_places
  rw [fl_bd_s, h.1]
  refine ok_eq m_inI (ok_ck (b2i_01 _) (ok_ret ⟨?_, rfl⟩))
  rw [show (0 : Int64).toInt = 0 from rfl, Int32.toInt_toInt64, rgi_rng (by omega)]
/-! copies -/
def cpd (m m' : Mem) (K0 K1 : Nat) : Prop := eqOff m m' (fun k => K0 ≤ k ∧ k ≤ K0 + 5) ∧ m'.1 K0 0 = m.1 K1 0 ∧ (∀ c, c < 3 → m'.1 (K0 + 1) c = m.1 (K1 + 1) c ∧ m'.1 (K0 + 2) c = m.1 (K1 + 2) c ∧ m'.1 (K0 + 3) c = m.1 (K1 + 3) c) ∧ ∀ f, f < 7 → m'.1 (K0 + 4) f = m.1 (K1 + 4) f ∧ m'.1 (K0 + 5) f = m.1 (K1 + 5) f
theorem cpy_in {f g : Nat → Int32} {n j : Nat} (h : j < n) : va_cpy f g 0 0 n j = f j := by
  unfold va_cpy
  rw [if_pos ⟨by omega, by omega⟩]
  congr 1
  omega
theorem x_copy {m : Mem} {K0 K1 : Nat} (h : K0 + 6 ≤ K1 ∨ K1 + 6 ≤ K0) : Ok (f_X5_copy K0 K1 m) (fun _ m' => cpd m m' K0 K1) := by
  unfold f_X5_copy
  refine ok_lm (fun m1 e1 => ok_lm (fun m2 e2 => ok_lm (fun m3 e3 => ok_lm (fun m4 e4 => ok_lm (fun m5 e5 => ok_lm (fun m6 e6 => ok_ret ?_))))))
  have o1 : ∀ k, k ≠ K0 → m1.1 k = m.1 k := fun k hk => by rw [e1, mI_ne k hk]
  have o2 : ∀ k, k ≠ K0 + 1 → m2.1 k = m1.1 k := fun k hk => by rw [e2, mC_ne k hk]
  have o3 : ∀ k, k ≠ K0 + 2 → m3.1 k = m2.1 k := fun k hk => by rw [e3, mC_ne k hk]
  have o4 : ∀ k, k ≠ K0 + 3 → m4.1 k = m3.1 k := fun k hk => by rw [e4, mC_ne k hk]
  have o5 : ∀ k, k ≠ K0 + 4 → m5.1 k = m4.1 k := fun k hk => by rw [e5, mC_ne k hk]
  have o6 : ∀ k, k ≠ K0 + 5 → m6.1 k = m5.1 k := fun k hk => by rw [e6, mC_ne k hk]
  refine ⟨⟨by rw [e6, e5, e4, e3, e2, e1]; rfl, fun k hk => ?_⟩, ?_, fun c hc => ⟨?_, ?_, ?_⟩, fun f hf => ⟨?_, ?_⟩⟩
  · rw [o6 k (by omega), o5 k (by omega), o4 k (by omega), o3 k (by omega), o2 k (by omega), o1 k (by omega)]
  · rw [o6 _ (by omega), o5 _ (by omega), o4 _ (by omega), o3 _ (by omega), o2 _ (by omega), e1, mI_s]
  · rw [o6 _ (by omega), o5 _ (by omega), o4 _ (by omega), o3 _ (by omega), e2, mC_eq, cpy_in hc, o1 _ (by omega)]
  · rw [o6 _ (by omega), o5 _ (by omega), o4 _ (by omega), e3, mC_eq, cpy_in hc, o2 _ (by omega), o1 _ (by omega)]
  · rw [o6 _ (by omega), o5 _ (by omega), e4, mC_eq, cpy_in hc, o3 _ (by omega), o2 _ (by omega), o1 _ (by omega)]
  · rw [o6 _ (by omega), e5, mC_eq, cpy_in hf, o4 _ (by omega), o3 _ (by omega), o2 _ (by omega), o1 _ (by omega)]
  · rw [e6, mC_eq, cpy_in hf, o5 _ (by omega), o4 _ (by omega), o3 _ (by omega), o2 _ (by omega), o1 _ (by omega)]
theorem cpd.P {m m' : Mem} {K0 K1 n : Nat} (hn : n ≤ 3) (h : cpd m m' K0 K1) : xP n m' K0 = xP n m K1 := by
  unfold xP
  rw [h.2.1, rs_cong (fun c hc => (h.2.2.1 c (by omega)).1), rs_cong (fun c hc => (h.2.2.1 c (by omega)).2.1), rs_cong (fun c hc => (h.2.2.1 c (by omega)).2.2)]
theorem cpd.B {m m' : Mem} {K0 K1 : Nat} {B : Int} (h : cpd m m' K0 K1) (hb : xB m K1 B) : xB m' K0 B := by
  unfold xB
  rw [h.2.1]
  refine ⟨hb.1, fun c hc => ?_⟩
  rw [(h.2.2.1 c hc).1, (h.2.2.1 c hc).2.1, (h.2.2.1 c hc).2.2]
  exact hb.2 c hc
def cpm (m m' : Mem) (a b : Nat) : Prop := eqOff m m' (fun k => k = 1) ∧ ∀ j, m'.1 1 j = if b ≤ j ∧ j < b + 19 then m.1 1 (a + (j - b)) else m.1 1 j
theorem m_copy_l {N a b : Nat} {m : Mem} (ha : a + 19 ≤ 380) (hb : b + 19 ≤ 380) (hd : a + 19 ≤ b ∨ b + 19 ≤ a) :
    ∀ (k n j : Nat) (m1 : Mem), j + k = 19 → k < n → eqOff m m1 (fun k => k = 1) → (∀ i, m1.1 1 i = if b ≤ i ∧ i < b + j then m.1 1 (a + (i - b)) else m.1 1 i) → Ok (l_X9_copy N n (nI a) (nI b) (nI j) m1) (fun _ m' => cpm m m' a b) := by
  intro k
  induction k with
  | zero =>
    intro n j m1 hj hn he hc
    obtain ⟨n, rfl⟩ : ∃ n', n = n' + 1 := ⟨n - 1, by omega⟩
    show Ok (B_X9_copy_2 N (l_X9_copy N n) (nI a) (nI b) (nI j) m1) _
    unfold B_X9_copy_2
    rw [show j = 19 by omega] at *
    exact ok_t (Int32.le_refl _) (ok_ret ⟨he, hc⟩)
  | succ k ih =>
    intro n j m1 hj hn he hc
    obtain ⟨n, rfl⟩ : ∃ n', n = n' + 1 := ⟨n - 1, by omega⟩
    show Ok (B_X9_copy_2 N (l_X9_copy N n) (nI a) (nI b) (nI j) m1) _
    unfold B_X9_copy_2
    rw [nI_add, nI_add, nI_1]
    simp only [i_c (show a + j < 2147483648 by omega), i_c (show b + j < 2147483648 by omega)]
    refine ok_f (nI_ge (b := 19) (by omega) (by omega)) (ok_ck (i_ck (n := 380) (by omega) (by decide)) (ok_ck (i_ck (n := 380) (by omega) (by decide)) (ok_lm (fun m2 e2 => ih n (j + 1) m2 (by omega) (by omega) ?_ ?_))))
    · exact he.tr (by rw [e2]; exact eqOff.mI rfl)
    · intro i
      rw [e2, mI_g, if_pos rfl]
      by_cases q : i = b + j
      · rw [if_pos q, if_pos (by omega), hc (a + j), if_neg (by omega), show i - b = j by omega]
      · rw [if_neg q, hc i]
        by_cases q2 : b ≤ i ∧ i < b + j
        · rw [if_pos q2, if_pos (by omega)]
        · rw [if_neg q2, if_neg (by omega)]
theorem m_copy {N a b : Nat} {m : Mem} (hN : 20 ≤ N) (ha : a + 19 ≤ 380) (hb : b + 19 ≤ 380) (hd : a + 19 ≤ b ∨ b + 19 ≤ a) : Ok (f_X9_copy N (nI a) (nI b) m) (fun _ m' => cpm m m' a b) :=
  m_copy_l ha hb hd 19 N 0 m rfl (by omega) eqOff.rf (fun i => by rw [if_neg (by omega)])
theorem cpm.o {m m' : Mem} {a b j : Nat} (h : cpm m m' a b) (hj : j < b ∨ b + 19 ≤ j) : m'.1 1 j = m.1 1 j := by rw [h.2, if_neg (by omega)]
theorem cpm.i {m m' : Mem} {a b j : Nat} (h : cpm m m' a b) (hj : j < 19) : m'.1 1 (b + j) = m.1 1 (a + j) := by
  rw [h.2, if_pos (by omega), show b + j - b = j by omega]
/-! a stand of the class and a record of the reference -/
def FR (C : Cf) (mx mm : Mem) (S r : Nat) (B : Int) : Prop := xP (cN C) mx S = mP (cN C) mm r ∧ xB mx S B ∧ ∃ T U : Nat, T < 2 ^ cM C ∧ U < 2 ^ cM C ∧ mm.1 1 (r + 10) = nI T ∧ mm.1 1 (r + 18) = nI U ∧ (∀ f, T.testBit f = false → U.testBit f = false) ∧
  ∀ f, f < cM C → mx.1 (S + 4) f = mm.1 1 (r + 11 + f) ∧ (T.testBit f = true ↔ mx.1 (S + 4) f ≠ -4) ∧ mx.1 (S + 5) f = b2i (U.testBit f)
theorem FR.cong {C : Cf} {mx mx' mm mm' : Mem} {S r : Nat} {B : Int} (hC : okC C) (h : FR C mx mm S r B) (hx : ∀ k, S ≤ k → k < S + 6 → mx'.1 k = mx.1 k) (hm : ∀ j, r ≤ j → j < r + 19 → mm'.1 1 j = mm.1 1 j) : FR C mx' mm' S r B := by
  have h3 := hC.2.1.2
  have h7 := hC.2.2.1.2
  obtain ⟨h1, h2, T, U, t1, t2, t3, t4, t5, t6⟩ := h
  refine ⟨?_, xB_cong (fun k a b => hx k a (by omega)) h2, T, U, t1, t2, by rw [hm _ (by omega) (by omega)]; exact t3, by rw [hm _ (by omega) (by omega)]; exact t4, t5, fun f hf => ?_⟩
  · rw [xP_cong (fun k a b => hx k a (by omega)), h1, mP_cong h3 (fun j a b => hm j a (by omega))]
  · rw [hx _ (by omega) (by omega), hx _ (by omega) (by omega), hm _ (by omega) (by omega)]
    exact t6 f hf
theorem FR.copy {C : Cf} {mx mx' mm mm' : Mem} {S S' r r' : Nat} {B : Int} (hC : okC C) (h : FR C mx mm S r B) (hx : cpd mx mx' S' S) (hm : ∀ j, j < 19 → mm'.1 1 (r' + j) = mm.1 1 (r + j)) : FR C mx' mm' S' r' B := by
  have h3 := hC.2.1.2
  have h7 := hC.2.2.1.2
  obtain ⟨h1, h2, T, U, t1, t2, t3, t4, t5, t6⟩ := h
  refine ⟨?_, hx.B h2, T, U, t1, t2, by rw [hm _ (by omega)]; exact t3, by rw [hm _ (by omega)]; exact t4, t5, fun f hf => ?_⟩
  · rw [hx.P h3, h1]
    unfold mP
    have h0 := hm 0 (by omega)
    rw [Nat.add_zero, Nat.add_zero] at h0
    rw [h0]
    rw [rs_cong (n := cN C) (g := fun c => mm.1 1 (r + 1 + c)) (g' := fun c => mm'.1 1 (r' + 1 + c)) (fun c hc => by have := hm (1 + c) (by omega); rw [← Nat.add_assoc, ← Nat.add_assoc] at this; exact this.symm)]
    rw [rs_cong (n := cN C) (g := fun c => mm.1 1 (r + 4 + c)) (g' := fun c => mm'.1 1 (r' + 4 + c)) (fun c hc => by have := hm (4 + c) (by omega); rw [← Nat.add_assoc, ← Nat.add_assoc] at this; exact this.symm)]
    rw [rs_cong (n := cN C) (g := fun c => mm.1 1 (r + 7 + c)) (g' := fun c => mm'.1 1 (r' + 7 + c)) (fun c hc => by have := hm (7 + c) (by omega); rw [← Nat.add_assoc, ← Nat.add_assoc] at this; exact this.symm)]
  · have := hm (11 + f) (by omega)
    rw [← Nat.add_assoc, ← Nat.add_assoc] at this
    rw [(hx.2.2.2 f (by omega)).1, (hx.2.2.2 f (by omega)).2, this]
    exact t6 f hf
theorem FR.wk {C : Cf} {mx mm : Mem} {S r : Nat} {B B' : Int} (h : FR C mx mm S r B) (hB : B ≤ B') : FR C mx mm S r B' := ⟨h.1, h.2.1.wk hB, h.2.2⟩
/-- the whole: behind i calls -/
def tb (i : Nat) : Int := 100 + 200 * i
def RC (mx mm : Mem) : Prop := xC mx = mC_ mm ∧ xcOk mx ∧ mcOk mm ∧ wdt (mx.1 4 0) ∧ mx.1 4 0 = mm.1 0 3
def RT (mx mm : Mem) : Prop := ∃ n : Nat, n ≤ 200 ∧ mx.1 1 1 = nI n ∧ mm.1 0 18 = nI n ∧ ∀ j, j < n → mx.1 2 j = mm.1 11 j ∧ 32 ≤ (mx.1 2 j).toInt ∧ (mx.1 2 j).toInt ≤ 126
def RD (i : Nat) (mx mm : Mem) : Prop := ∃ top held : Nat, top < 8 ∧ held ≤ 8 ∧ mx.1 24 1 = nI top ∧ mx.1 24 2 = nI held ∧ mm.1 0 1 = nI held ∧ ∀ j, j < held → FR (mC_ mm) mx mm (51 + 6 * ((top + 7 - j) % 8)) (76 + 19 * (held - 1 - j)) (tb i)
def RK (i : Nat) (mx mm : Mem) : Prop := ∃ top held : Nat, top < 2 ∧ held ≤ 2 ∧ mx.1 26 1 = nI top ∧ mx.1 26 2 = nI held ∧ mm.1 0 2 = nI held ∧ ∀ j, j < held → FR (mC_ mm) mx mm (99 + 6 * ((top + 1 - j) % 2)) (38 + 19 * (held - 1 - j)) (tb i)
def RS (mx mm : Mem) : Prop := ∃ n : Nat, n ≤ 6 ∧ mx.1 28 3 = nI n ∧ mm.1 0 13 = nI n ∧ ∀ j, j < n → mx.1 29 j = mm.1 8 j ∧ mx.1 30 j = mm.1 9 j ∧ mx.1 31 j = mm.1 10 j ∧ (∃ c, c < cN (mC_ mm) ∧ mm.1 8 j = nI c) ∧ (∃ f, f < cM (mC_ mm) ∧ mm.1 9 j = nI f)
def Rl (i : Nat) (mx mm : Mem) : Prop := RC mx mm ∧ RT mx mm ∧ FR (mC_ mm) mx mm 39 0 (tb i) ∧ RD i mx mm ∧ RK i mx mm ∧ RS mx mm
/-- both answer alike, and what is behind it hangs together -/
def Sim (i : Nat) (ox om : Option (Int32 × Mem)) : Prop := Ok ox (fun r mx => Ok om (fun r' mm => r = r' ∧ Rl i mx mm))
theorem RC.n {mx mm : Mem} (h : RC mx mm) : cN (xC mx) = cN (mC_ mm) := by rw [h.1]
theorem RC.m {mx mm : Mem} (h : RC mx mm) : cM (xC mx) = cM (mC_ mm) := by rw [h.1]
theorem RC.ok {mx mm : Mem} (h : RC mx mm) : okC (mC_ mm) := h.2.2.1.1
theorem RC.cong {mx mm mx' mm' : Mem} (h : RC mx mm) (hx : ∀ k, 4 ≤ k → k ≤ 12 → mx'.1 k = mx.1 k) (hm : ∀ k, k ≠ 1 → 2 ≤ k → k < 8 → mm'.1 k = mm.1 k) (h3 : mm'.1 0 3 = mm.1 0 3) (h4 : mm'.1 0 4 = mm.1 0 4) (h5 : mm'.1 0 5 = mm.1 0 5) (h7 : mm'.1 0 7 = mm.1 0 7) : RC mx' mm' ∧ mC_ mm' = mC_ mm := by
  have e : mC_ mm' = mC_ mm := by
    unfold mC_
    rw [h4, h5, h7, hm 2 (by omega) (by omega) (by omega), hm 3 (by omega) (by omega) (by omega), hm 4 (by omega) (by omega) (by omega), hm 5 (by omega) (by omega) (by omega), hm 6 (by omega) (by omega) (by omega), hm 7 (by omega) (by omega) (by omega)]
  obtain ⟨a, b, c, d, g⟩ := h
  refine ⟨⟨by rw [xC_cong hx, a, e], xcOk_cong hx b, ?_, by rw [hx 4 (by omega) (by omega)]; exact d, by rw [hx 4 (by omega) (by omega), h3]; exact g⟩, e⟩
  unfold mcOk
  rw [e, h5, h7]
  exact c
theorem tb_le (i : Nat) : tb i ≤ tb (i + 1) := by unfold tb; omega
/-- nothing that counts has changed -/
theorem Rl.keep {i : Nat} {mx mm mx' mm' : Mem} (h : Rl i mx mm) (hx : ∀ k, k ≠ 0 → k ≠ 3 → k ≠ 13 → (k < 14 ∨ (24 ≤ k ∧ k < 32) ∨ (39 ≤ k ∧ k < 45) ∨ (51 ≤ k ∧ k < 111)) → mx'.1 k = mx.1 k) (hm0 : ∀ j, j ≠ 19 → j ≠ 20 → j < 19 → mm'.1 0 j = mm.1 0 j) (hm1 : ∀ j, (j < 19 ∨ (38 ≤ j ∧ j < 228)) → mm'.1 1 j = mm.1 1 j) (hm : ∀ k, 2 ≤ k → k < 12 → mm'.1 k = mm.1 k) : Rl (i + 1) mx' mm' := by
  obtain ⟨c, t, f, d, k, s⟩ := h
  obtain ⟨c', ec⟩ := c.cong (mx' := mx') (mm' := mm') (fun q a b => hx q (by omega) (by omega) (by omega) (by omega)) (fun q _ a b => hm q a (by omega)) (hm0 3 (by omega) (by omega) (by omega)) (hm0 4 (by omega) (by omega) (by omega)) (hm0 5 (by omega) (by omega) (by omega)) (hm0 7 (by omega) (by omega) (by omega))
  have hC := c.ok
  refine ⟨c', ?_, ?_, ?_, ?_, ?_⟩
  · obtain ⟨n, h1, h2, h3, h4⟩ := t
    refine ⟨n, h1, by rw [hx 1 (by omega) (by omega) (by omega) (by omega)]; exact h2, by rw [hm0 18 (by omega) (by omega) (by omega)]; exact h3, fun j hj => ?_⟩
    rw [hx 2 (by omega) (by omega) (by omega) (by omega), hm 11 (by omega) (by omega)]
    exact h4 j hj
  · rw [ec]
    exact (f.cong hC (fun q a b => hx q (by omega) (by omega) (by omega) (by omega)) (fun j a b => hm1 j (by omega))).wk (tb_le i)
  · obtain ⟨top, held, h1, h2, h3, h4, h5, h6⟩ := d
    refine ⟨top, held, h1, h2, by rw [hx 24 (by omega) (by omega) (by omega) (by omega)]; exact h3, by rw [hx 24 (by omega) (by omega) (by omega) (by omega)]; exact h4, by rw [hm0 1 (by omega) (by omega) (by omega)]; exact h5, fun j hj => ?_⟩
    rw [ec]
    exact ((h6 j hj).cong hC (fun q a b => hx q (by omega) (by omega) (by omega) (by omega)) (fun j a b => hm1 j (by omega))).wk (tb_le i)
  · obtain ⟨top, held, h1, h2, h3, h4, h5, h6⟩ := k
    refine ⟨top, held, h1, h2, by rw [hx 26 (by omega) (by omega) (by omega) (by omega)]; exact h3, by rw [hx 26 (by omega) (by omega) (by omega) (by omega)]; exact h4, by rw [hm0 2 (by omega) (by omega) (by omega)]; exact h5, fun j hj => ?_⟩
    rw [ec]
    exact ((h6 j hj).cong hC (fun q a b => hx q (by omega) (by omega) (by omega) (by omega)) (fun j a b => hm1 j (by omega))).wk (tb_le i)
  · obtain ⟨n, h1, h2, h3, h4⟩ := s
    refine ⟨n, h1, by rw [hx 28 (by omega) (by omega) (by omega) (by omega)]; exact h2, by rw [hm0 13 (by omega) (by omega) (by omega)]; exact h3, fun j hj => ?_⟩
    rw [hx 29 (by omega) (by omega) (by omega) (by omega), hx 30 (by omega) (by omega) (by omega) (by omega), hx 31 (by omega) (by omega) (by omega) (by omega), hm 8 (by omega) (by omega), hm 9 (by omega) (by omega), hm 10 (by omega) (by omega), ec]
    exact h4 j hj
theorem Rl.same {i : Nat} {mx mm : Mem} (h : Rl i mx mm) : Rl (i + 1) mx mm := h.keep (fun _ _ _ _ _ => rfl) (fun _ _ _ _ => rfl) (fun _ _ => rfl) (fun _ _ _ => rfl)
