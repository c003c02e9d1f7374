theorem euc0 {N n n' a c : Nat} {x3 x6 x7 : Int32} {mx mm : Mem} (hc : c < 64) (ha : 0 < a) (ha2 : a < 2147483648) : l_X8_commonDivisor N (n + 1) (nI a) (nI 0) (nI c) mx = some (nI a, mx) ∧ l_X9_tears N (n' + 1) 4 0 0 x3 0 0 x6 x7 (nI a) (nI 0) 0 0 0 mm = (if x3 = 0 then some (x6 / nI a, mm) else some (x7 / nI a, mm)) := by
  constructor
  · show B_X8_commonDivisor_7 N (l_X8_commonDivisor N n) (nI a) (nI 0) (nI c) mx = _
    unfold B_X8_commonDivisor_7
    rw [if_neg (show ¬ (64 : Int32) ≤ nI c from nI_ge (b := 64) hc (by omega)), if_pos (show nI 0 = (0 : Int32) from rfl)]
  · rw [l_t4]
    unfold B_X9_tears_241
    rw [if_pos (show nI 0 = (0 : Int32) from rfl), fl_ck_t (nI_ne0 ha ha2), fl_ck_t (nI_ne0 ha ha2)]
theorem euc1 {N n n' a b c : Nat} {x3 x6 x7 : Int32} {mx mm : Mem} (hc : c < 64) (hb : 0 < b) (hb2 : b < 2147483648) (ha2 : a < 2147483648) : l_X8_commonDivisor N (n + 1) (nI a) (nI b) (nI c) mx = l_X8_commonDivisor N n (nI b) (nI (a % b)) (nI (c + 1)) mx ∧ l_X9_tears N (n' + 1) 4 0 0 x3 0 0 x6 x7 (nI a) (nI b) 0 0 0 mm = l_X9_tears N n' 4 0 0 x3 0 0 x6 x7 (nI b) (nI (a % b)) 0 0 0 mm := by
  constructor
  · show B_X8_commonDivisor_7 N (l_X8_commonDivisor N n) (nI a) (nI b) (nI c) mx = _
    unfold B_X8_commonDivisor_7
    rw [if_neg (show ¬ (64 : Int32) ≤ nI c from nI_ge (b := 64) hc (by omega)), if_neg (nI_ne0 hb hb2), fl_ck_t (nI_ne0 hb hb2), i_rem ha2 hb2 hb, nI_1 c]
    simp only [fl_li]
  · rw [l_t4]
    unfold B_X9_tears_241
    rw [if_neg (nI_ne0 hb hb2), fl_ck_t (nI_ne0 hb hb2), i_rem ha2 hb2 hb]
    simp only [fl_li]
theorem euc {N : Nat} {x3 x6 x7 : Int32} {mx mm : Mem} : ∀ (k a b c n n' : Nat), b < 2 ^ k → c + 2 * k + 1 ≤ 64 → 2 * k + 1 < n → 2 * k + 1 < n' → a < 2147483648 → b < 2147483648 → (0 < a ∨ 0 < b) →
    ∃ g, 0 < g ∧ g < 2147483648 ∧ l_X8_commonDivisor N n (nI a) (nI b) (nI c) mx = some (nI g, mx) ∧ l_X9_tears N n' 4 0 0 x3 0 0 x6 x7 (nI a) (nI b) 0 0 0 mm = (if x3 = 0 then some (x6 / nI g, mm) else some (x7 / nI g, mm)) := by
  intro k
  induction k with
  | zero =>
    intro a b c n n' hb hc hn hn' ha2 hb2 hab
    obtain ⟨n, rfl⟩ : ∃ p, n = p + 1 := ⟨n - 1, by omega⟩
    obtain ⟨n', rfl⟩ : ∃ p, n' = p + 1 := ⟨n' - 1, by omega⟩
    have : b = 0 := by rw [Nat.pow_zero] at hb; omega
    subst this
    exact ⟨a, by omega, ha2, euc0 (by omega) (by omega) ha2⟩
  | succ k ih =>
    intro a b c n n' hb hc hn hn' ha2 hb2 hab
    obtain ⟨n, rfl⟩ : ∃ p, n = p + 2 := ⟨n - 2, by omega⟩
    obtain ⟨n', rfl⟩ : ∃ p, n' = p + 2 := ⟨n' - 2, by omega⟩
    rcases Nat.eq_zero_or_pos b with h0 | h0
    · subst h0
      exact ⟨a, by omega, ha2, euc0 (by omega) (by omega) ha2⟩
    obtain ⟨e1, e2⟩ := euc1 (N := N) (n := n + 1) (n' := n' + 1) (a := a) (b := b) (c := c) (x3 := x3) (x6 := x6) (x7 := x7) (mx := mx) (mm := mm) (by omega) h0 hb2 ha2
    have hr := Nat.mod_lt a h0
    rcases Nat.eq_zero_or_pos (a % b) with h1 | h1
    · rw [h1] at e1 e2
      obtain ⟨e3, e4⟩ := euc0 (N := N) (n := n) (n' := n') (a := b) (c := c + 1) (x3 := x3) (x6 := x6) (x7 := x7) (mx := mx) (mm := mm) (by omega) h0 hb2
      exact ⟨b, h0, hb2, e1.trans e3, e2.trans e4⟩
    · obtain ⟨e3, e4⟩ := euc1 (N := N) (n := n) (n' := n') (a := b) (b := a % b) (c := c + 1) (x3 := x3) (x6 := x6) (x7 := x7) (mx := mx) (mm := mm) (by omega) h1 (by omega) hb2
      have h2 := Nat.mod_lt b h1
      have h3 : b % (a % b) + a % b ≤ b := by
        have h4 := Nat.div_add_mod b (a % b)
        have h5 : 1 ≤ b / (a % b) := (Nat.le_div_iff_mul_le h1).mpr (by omega)
        have h6 := Nat.mul_le_mul_left (a % b) h5
        omega
      have h7 : b % (a % b) < 2 ^ k := by
        rw [Nat.pow_succ] at hb
        omega
      obtain ⟨g, g1, g2, g3, g4⟩ := ih (a % b) (b % (a % b)) (c + 1 + 1) n n' h7 (by omega) (by omega) (by omega) (by omega) (by omega) (Or.inl h1)
      exact ⟨g, g1, g2, (e1.trans e3).trans g3, (e2.trans e4).trans g4⟩
theorem nI_subn {a b : Nat} (h : b ≤ a) (ha : a < 2147483648) : nI a - nI b = nI (a - b) := by
  rw [i_eq, nI_toInt (by omega)]
  rw [i_sub (by rw [nI_toInt ha, nI_toInt (by omega)]; omega) (by rw [nI_toInt ha, nI_toInt (by omega)]; omega), nI_toInt ha, nI_toInt (by omega)]
  omega
theorem ten_le {r : Nat} (h : r ≤ 7) : 10 ^ r ≤ 10000000 := Nat.pow_le_pow_right (n := 10) (by omega) h
theorem tears_l {i N : Nat} {mx0 mm0 : Mem} {T q r : Nat} {x1 x3 : Int32} (hN : 200 ≤ N) (hi : i ≤ 64) (hrl : Rl i mx0 mm0) (hT : T < 2 ^ cM (mC_ mm0)) (h10 : mm0.1 1 10 = nI T) (hg : ∀ g, g < cM (mC_ mm0) → decide (mx0.1 43 g ≠ -4) = T.testBit g) (hq : q ≤ 10) (hr : r = cnt (fun f => !T.testBit f) (cM (mC_ mm0))) :
    ∀ (k n n' s S : Nat) (mx mm : Mem), s + k = 2 ^ r → k < n → 20 * k + 100 < n' → S ≤ s * 10000000 → Tx mx0 mm0 mx mm → Sim (i + 1) (l_X8_tears N n x1 (nI q) x3 (nI r) (nI (10 ^ r)) (nI S) (nI s) mx) (l_X9_tears N n' 2 x1 (nI q) x3 (nI (restM (cM (mC_ mm0)) T)) (nI r) (nI S) (nI (10 ^ r)) (nI s) 0 0 0 0 mm) := by
  obtain ⟨rc0, -⟩ := id hrl
  have hok := rc0.ok
  have n7 := hok.2.2.1
  have hr7 : r ≤ 7 := by have := cnt_le (fun f => !T.testBit f) (cM (mC_ mm0)); omega
  have h2r : 2 ^ r ≤ 128 := pw_le (by omega)
  have htl := ten_le hr7
  have ht0 : 0 < 10 ^ r := Nat.pos_of_ne_zero (by simp)
  intro k
  induction k with
  | zero =>
    intro n n' s S mx mm hs hn hn' hS h
    obtain ⟨n, rfl⟩ : ∃ p, n = p + 1 := ⟨n - 1, by omega⟩
    obtain ⟨n', rfl⟩ : ∃ p, n' = p + 1 := ⟨n' - 1, by omega⟩
    obtain ⟨g, g1, g2, g3, g4⟩ := euc (N := N) (x3 := x3) (x6 := nI S) (x7 := nI (10 ^ r)) (mx := mx) (mm := mm) 24 S (10 ^ r) 0 N n' (by omega) (by omega) (by omega) (by omega) (by omega) (by omega) (Or.inr ht0)
    rw [l_t2]
    show Sim (i + 1) (B_X8_tears_59 N (l_X8_tears N n) x1 (nI q) x3 (nI r) (nI (10 ^ r)) (nI S) (nI s) mx) _
    unfold B_X8_tears_59 B_X9_tears_81 J_X8_tears_144
    rw [one_tab r (by omega), if_pos (nI_le (by omega) (by omega)), if_pos (nI_le (by omega) (by omega)), show f_X8_commonDivisor N (nI S) (nI (10 ^ r)) mx = some (nI g, mx) from g3, fl_bd_s, fl_max1 g1 g2, fl_ck_t (nI_ne0 g1 g2), fl_ck_t (nI_ne0 g1 g2), show l_X9_tears N n' 4 0 0 x3 0 0 (nI S) (nI (10 ^ r)) (nI S) (nI (10 ^ r)) 0 0 0 mm = _ from g4]
    exact sim_if (fun _ => sim_endx hrl h rfl) (fun _ => sim_endx hrl h rfl)
  | succ k ih =>
    intro n n' s S mx mm hs hn hn' hS h
    have hs128 : s < 128 := by omega
    have hs2 : s < 2 ^ r := by omega
    obtain ⟨n, rfl⟩ : ∃ p, n = p + 1 := ⟨n - 1, by omega⟩
    obtain ⟨w, hw, rfl⟩ : ∃ w, 20 * k + 100 < w ∧ n' = (w + 1 + cM (mC_ mm0)) + 1 := ⟨n' - 2 - cM (mC_ mm0), by omega, by omega⟩
    have hl := h.rl hrl
    have eC : mC_ mm = mC_ mm0 := mC_cong (fun k a _ => h.2.1 k a)
    obtain ⟨mx1, mm1, ex, em, ht, hF, hcx, hcm⟩ := tr_start (N := N) (by omega) hl
    have hb : cnt (fun f => s.testBit f) 7 = cnt (fun f => s.testBit f) r := cnt_7 hr7 hs2
    have hbl := cnt_le (fun f => s.testBit f) r
    have hW := pw_eq (q := q) (s := s) r
    have hWl := pwt_le (s := s) hq r
    obtain ⟨v, mx2, mm2, ev, ht2, em2⟩ := pass_l (N := N) (mx0 := mx) (mm0 := mm) (B := tb (i + 1)) (T := T) (s := s) (q := q) (x1 := x1) (x3 := x3) (x5 := nI r) (x6 := nI S) (x7 := nI (10 ^ r)) (by omega) (by unfold tb; omega) (by rw [eC]; exact hT) hs128 hq (by rw [eC]; exact hok) (cM (mC_ mm0)) N w 0 0 0 mx1 mm1 (by rw [eC]; omega) (by omega) rfl (ht.wk (by omega)) (fun g _ b => by
      rw [eC] at b
      rw [(hcx.2.2.2 g (by omega)).1, h.1 43 (by omega) (by omega)]
      exact hg g b)
    rw [eC, ← hr] at em2
    rw [l_t2]
    show Sim (i + 1) (B_X8_tears_59 N (l_X8_tears N n) x1 (nI q) x3 (nI r) (nI (10 ^ r)) (nI S) (nI s) mx) _
    unfold B_X8_tears_59 B_X9_tears_81
    rw [one_tab r (by omega), if_neg (nI_ge hs2 (by omega)), if_neg (nI_ge hs2 (by omega)), x_bits hs128, fl_bd_s, hb, x_power (by omega) (by omega), fl_bd_s, ten_tab q (by omega), nI_subn hbl (by omega), x_power (by omega) (by omega), fl_bd_s, pk_mul, ← hW, em, fl_bd_s]
    simp only [fl_li]
    rw [show l_X9_tears N (w + 1 + cM (mC_ mm0)) 3 x1 (nI q) x3 (nI (restM (cM (mC_ mm0)) T)) (nI r) (nI S) (nI (10 ^ r)) (nI s) 1 0 0 0 mm1 = _ from em2, l_t3]
    unfold B_X9_tears_106
    rw [mc_m ht2.rc.2.2.1, ht2.C, eC, if_pos (Int32.le_refl _), nI_1 s]
    simp only [fl_li]
    rw [show nI S + (0 : Int32) = nI S from Int32.add_zero _, nI_add]
    have hz : nI (pw q s r) ≤ 0 ↔ pw q s r = 0 := by
      rw [i_le, nI_toInt (by omega)]
      have : (0 : Int32).toInt = 0 := rfl
      omega
    have tx2 := ht2.out
    have hS1 : S ≤ (s + 1) * 10000000 := Nat.le_trans hS (Nat.mul_le_mul_right _ (Nat.le_succ s))
    have hS2 : S + pw q s r ≤ (s + 1) * 10000000 := by rw [Nat.succ_mul]; exact Nat.add_le_add hS (Nat.le_trans hWl htl)
    by_cases hw0 : pw q s r = 0
    · rw [if_pos (hz.mpr hw0), hw0, Nat.add_zero]
      have hx : Tx mx0 mm0 mx mm2 := ⟨h.1, (h.tr tx2).2.1, (h.tr tx2).2.2⟩
      have := ih n w (s + 1) S mx mm2 (by omega) (by omega) hw hS1 hx
      by_cases hv : v < x1
      · rw [if_pos hv]; exact this
      · rw [if_neg hv]; exact this
    · rw [if_neg (fun z => hw0 (hz.mp z))]
      unfold f_X8_lateAmong
      rw [ex, fl_bd_s, show l_X8_lateAmong N N 0 (nI s) 0 mx1 = some (v, mx2) from ev, fl_bd_s]
      by_cases hv : v < x1
      · rw [if_pos hv, if_pos hv]
        exact ih n w (s + 1) S mx2 mm2 (by omega) (by omega) hw hS1 (h.tr tx2)
      · rw [if_neg hv, if_neg hv]
        exact ih n w (s + 1) _ mx2 mm2 (by omega) (by omega) hw hS2 (h.tr tx2)
theorem cnt_rest {n T : Nat} (hn : n ≤ 7) (hT : T < 128) : cnt (fun f => (restM n T).testBit f) 7 = cnt (fun f => !T.testBit f) n := by
  have e1 : cnt (fun f => (restM n T).testBit f) 7 = cnt (fun f => decide (f < n) && !T.testBit f) 7 := cnt_cong (fun k hk => restM_b (by omega) hT hk)
  have e2 : cnt (fun f => decide (f < n) && !T.testBit f) 7 = cnt (fun f => decide (f < n) && !T.testBit f) n := by
    obtain ⟨k, hk⟩ : ∃ k, 7 = n + k := ⟨7 - n, by omega⟩
    rw [hk]
    exact cnt_more k (fun j hj => by simp [Nat.not_lt.mpr hj])
  rw [e1, e2]
  exact cnt_cong (fun k hk => by simp [hk])
theorem sim_tears {i N : Nat} {mx mm : Mem} (hN : 4000 ≤ N) (hi : i ≤ 64) (h : Rl i mx mm) (a b w : Int32) : Sim (i + 1) (f_X8_tears N a b w mx) (f_X9_tears N a b w mm) := by
  obtain ⟨c, t, f, -⟩ := id h
  have n7 := c.ok.2.2.1
  obtain ⟨T, hT, h10, hg⟩ := f.mask
  rw [Nat.zero_add] at h10
  have hT8 := bt_lt (by omega) hT
  unfold f_X8_tears f_X9_tears
  refine sim_rngq h a rfl rfl (fun a1 a2 => sim_rngq h b rfl rfl (fun b1 b2 => sim_rngq h w rfl rfl (fun w1 w2 => ?_)))
  have b1 : 0 ≤ b.toInt := b1
  have b2 : b.toInt ≤ 10 := b2
  have hr7 := cnt_le (fun f => !T.testBit f) (cM (mC_ mm))
  have h2r : 2 ^ cnt (fun f => !T.testBit f) (cM (mC_ mm)) ≤ 128 := pw_le (by omega)
  rw [i_nat b1, x_restOf (N := N) (S := 39) (T := T) (by omega) c.2.1 (fun g hgg => hg g (by rw [← c.1]; exact hgg)), fl_bd_s, c.1, show (10 : Int32) = nI 10 from rfl, x_power (by omega) (by omega), fl_bd_s, m_rest c.2.2.1 hT8 h10, fl_bd_s, m_ones (by omega) (restM_lt _ (by omega) _ hT8), fl_bd_s, cnt_rest n7.2 hT8]
  obtain ⟨n', hn', e⟩ : ∃ n', 3000 < n' ∧ N = n' + (cnt (fun f => !T.testBit f) (cM (mC_ mm)) + 1) := ⟨N - (cnt (fun f => !T.testBit f) (cM (mC_ mm)) + 1), by omega, by omega⟩
  have hten := m_ten (N := N) (n := n') (m := mm) (x1 := a) (x2 := nI b.toInt.toNat) (x3 := w) (x4 := nI (restM (cM (mC_ mm)) T)) (x6 := 0) (r := cnt (fun f => !T.testBit f) (cM (mC_ mm))) (by omega) (cnt (fun f => !T.testBit f) (cM (mC_ mm))) 0 1 (by omega)
  rw [← e, Nat.one_mul] at hten
  rw [show l_X9_tears N N 1 a (nI b.toInt.toNat) w (nI (restM (cM (mC_ mm)) T)) (nI (cnt (fun f => !T.testBit f) (cM (mC_ mm)))) 0 1 0 0 0 0 0 mm = _ from hten]
  exact tears_l (by omega) hi h hT h10 hg (by omega) rfl (2 ^ cnt (fun f => !T.testBit f) (cM (mC_ mm))) N n' 0 0 mx mm (by omega) (by omega) (by omega) (by omega) Tx.rf
