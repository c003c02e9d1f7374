/-! ===== a text laid: the evening begins ===== -/
theorem x_dawn0 {N : Nat} {m : Mem} (hN : 14 ≤ N) : Ok (f_X5_dawn N 39 m) (fun _ m' => eqOff m m' (fun k => k = 39 ∨ k = 41 ∨ k = 43 ∨ k = 44) ∧ m'.1 39 0 = 0 ∧ (∀ c, c < 3 → m'.1 41 c = 0) ∧ ∀ f, f < 7 → m'.1 43 f = -4 ∧ m'.1 44 f = 0) := by
  have l2 : ∀ (k n j : Nat) (m1 : Mem), j + k = 7 → k < n → eqOff m m1 (fun k => k = 39 ∨ k = 41 ∨ k = 43 ∨ k = 44) → m1.1 39 0 = 0 → (∀ c, c < 3 → m1.1 41 c = 0) → (∀ f, f < j → m1.1 43 f = -4 ∧ m1.1 44 f = 0) → Ok (l_X5_dawn N 39 n 2 (nI j) m1) (fun _ m' => eqOff m m' (fun k => k = 39 ∨ k = 41 ∨ k = 43 ∨ k = 44) ∧ m'.1 39 0 = 0 ∧ (∀ c, c < 3 → m'.1 41 c = 0) ∧ ∀ f, f < 7 → m'.1 43 f = -4 ∧ m'.1 44 f = 0) := by
    intro k
    induction k with
    | zero =>
      intro n j m1 hj hn he h0 h1 h2
      obtain ⟨n, rfl⟩ : ∃ q, n = q + 1 := ⟨n - 1, by omega⟩
      show Ok (B_X5_dawn_27 N 39 (l_X5_dawn N 39 n) (nI j) m1) _
      unfold B_X5_dawn_27
      exact ok_t (show (7 : Int32) ≤ nI j from nI_le (a := 7) (by omega) (by omega)) (ok_ret ⟨he, h0, h1, fun f hf => h2 f (by omega)⟩)
    | succ k ih =>
      intro n j m1 hj hn he h0 h1 h2
      obtain ⟨n, rfl⟩ : ∃ q, n = q + 1 := ⟨n - 1, by omega⟩
      show Ok (B_X5_dawn_27 N 39 (l_X5_dawn N 39 n) (nI j) m1) _
      unfold B_X5_dawn_27
      rw [i_c (by omega), nI_1 j]
      refine ok_f (show ¬ (7 : Int32) ≤ nI j from nI_ge (b := 7) (by omega) (by omega)) (ok_ck (i_ckz (by omega) (by omega)) (ok_lm (fun m2 e2 => ok_ck (i_ckz (by omega) (by omega)) (ok_lm (fun m3 e3 => ih n (j + 1) m3 (by omega) (by omega) ?_ ?_ (fun c hc => ?_) (fun f hf => ?_))))))
      · exact ⟨by rw [e3, mI_2, e2, mI_2]; exact he.1, fun k hk => by rw [e3, mI_ne k (by omega), e2, mI_ne k (by omega)]; exact he.2 k hk⟩
      · rw [e3, mI_ne 39 (by omega), e2, mI_ne 39 (by omega)]; exact h0
      · rw [e3, mI_ne 41 (by omega), e2, mI_ne 41 (by omega)]; exact h1 c hc
      · rw [e3, mI_ne 43 (by omega), e2]
        by_cases e : f = j
        · subst e; rw [mI_s, mI_s]; exact ⟨rfl, rfl⟩
        · rw [mI_j e, mI_j e, mI_ne 44 (by omega)]; exact h2 f (by omega)
  have l1 : ∀ (k n j : Nat) (m1 : Mem), j + k = 3 → k + 9 < n → eqOff m m1 (fun k => k = 39 ∨ k = 41 ∨ k = 43 ∨ k = 44) → m1.1 39 0 = 0 → (∀ c, c < j → m1.1 41 c = 0) → Ok (l_X5_dawn N 39 n 1 (nI j) m1) (fun _ m' => eqOff m m' (fun k => k = 39 ∨ k = 41 ∨ k = 43 ∨ k = 44) ∧ m'.1 39 0 = 0 ∧ (∀ c, c < 3 → m'.1 41 c = 0) ∧ ∀ f, f < 7 → m'.1 43 f = -4 ∧ m'.1 44 f = 0) := by
    intro k
    induction k with
    | zero =>
      intro n j m1 hj hn he h0 h1
      obtain ⟨n, rfl⟩ : ∃ q, n = q + 1 := ⟨n - 1, by omega⟩
      show Ok (B_X5_dawn_7 N 39 (l_X5_dawn N 39 n) (nI j) m1) _
      unfold B_X5_dawn_7
      exact ok_t (show (3 : Int32) ≤ nI j from nI_le (a := 3) (by omega) (by omega)) (l2 7 n 0 m1 rfl (by omega) he h0 (fun c hc => h1 c (by omega)) (fun f hf => absurd hf (Nat.not_lt_zero f)))
    | succ k ih =>
      intro n j m1 hj hn he h0 h1
      obtain ⟨n, rfl⟩ : ∃ q, n = q + 1 := ⟨n - 1, by omega⟩
      show Ok (B_X5_dawn_7 N 39 (l_X5_dawn N 39 n) (nI j) m1) _
      unfold B_X5_dawn_7
      rw [i_c (by omega), nI_1 j]
      refine ok_f (show ¬ (3 : Int32) ≤ nI j from nI_ge (b := 3) (by omega) (by omega)) (ok_ck (i_ckz (by omega) (by omega)) (ok_lm (fun m2 e2 => ih n (j + 1) m2 (by omega) (by omega) ?_ ?_ (fun c hc => ?_))))
      · exact ⟨by rw [e2, mI_2]; exact he.1, fun k hk => by rw [e2, mI_ne k (by omega)]; exact he.2 k hk⟩
      · rw [e2, mI_ne 39 (by omega)]; exact h0
      · rw [e2, mI_g, if_pos rfl]
        by_cases e : c = j
        · rw [if_pos e]
        · rw [if_neg e]; exact h1 c (by omega)
  unfold f_X5_dawn
  refine ok_lm (fun m1 e1 => l1 3 N 0 m1 rfl (by omega) ?_ ?_ (fun c hc => by omega))
  · rw [e1]; exact eqOff.mI (Or.inl rfl)
  · rw [e1, mI_s]
theorem x_begin {N : Nat} {m : Mem} (hN : 14 ≤ N) : Ok (f_X8_begin N m) (fun _ m' => (∀ k, k ≠ 24 → k ≠ 26 → k ≠ 28 → (k < 39 ∨ 45 ≤ k) → m'.1 k = m.1 k) ∧ (m'.1 24 1 = m.1 24 1 ∧ m'.1 24 2 = 0) ∧ (m'.1 26 1 = m.1 26 1 ∧ m'.1 26 2 = 0) ∧ m'.1 28 3 = 0 ∧ m'.1 39 0 = 0 ∧ (∀ c, c < 3 → m'.1 40 c = m.1 6 c ∧ m'.1 41 c = 0 ∧ m'.1 42 c = m.1 7 c) ∧ ∀ f, f < 7 → m'.1 43 f = -4 ∧ m'.1 44 f = 0) := by
  unfold f_X8_begin f_X5_begin
  refine ok_bd (P := fun _ m1 => eqOff m m1 (fun k => 39 ≤ k ∧ k < 45) ∧ m1.1 39 0 = 0 ∧ (∀ c, c < 3 → m1.1 40 c = m.1 6 c ∧ m1.1 41 c = 0 ∧ m1.1 42 c = m.1 7 c) ∧ ∀ f, f < 7 → m1.1 43 f = -4 ∧ m1.1 44 f = 0) (ok_lm (fun m1 e1 => ok_lm (fun m3 e3 => ok_bd (x_dawn0 hN) (fun _ m6 h6 => ok_ret ?_)))) (fun _ m1 h1 => ok_lm (fun m4 e4 => ok_lm (fun m6 e6 => ok_lm (fun m8 e8 => ok_ret ?_))))
  · obtain ⟨a1, a2, a3, a4⟩ := h6
    refine ⟨⟨by rw [a1.1, e3, e1]; rfl, fun k hk => by rw [a1.2 k (by omega), e3, mC_ne k (by omega), e1, mC_ne k (by omega)]⟩, a2, fun c hc => ⟨?_, a3 c hc, ?_⟩, a4⟩
    · rw [a1.2 40 (by omega), e3, mC_ne 40 (by omega), e1]
      show (mC m 6 40 0 0 3).1 40 c = _
      rw [mC_eq, cpy_in hc]
    · rw [a1.2 42 (by omega), e3]
      show (mC m1 7 42 0 0 3).1 42 c = _
      rw [mC_eq, cpy_in hc, e1, mC_ne 7 (by omega)]
  · obtain ⟨b1, b2, b3, b4⟩ := h1
    have o : ∀ k, k ≠ 24 → k ≠ 26 → k ≠ 28 → m8.1 k = m1.1 k := fun k x y z => by rw [e8, mI_ne k z, e6, mI_ne k y, e4, mI_ne k x]
    refine ⟨fun k x y z w => by rw [o k x y z, b1.2 k (by omega)], ⟨?_, ?_⟩, ⟨?_, ?_⟩, by rw [e8, mI_s], by rw [o 39 (by omega) (by omega) (by omega)]; exact b2, fun c hc => by rw [o 40 (by omega) (by omega) (by omega), o 41 (by omega) (by omega) (by omega), o 42 (by omega) (by omega) (by omega)]; exact b3 c hc, fun f hf => by rw [o 43 (by omega) (by omega) (by omega), o 44 (by omega) (by omega) (by omega)]; exact b4 f hf⟩
    · rw [e8, mI_ne 24 (by omega), e6, mI_ne 24 (by omega), e4, mI_j (by omega), b1.2 24 (by omega)]
    · rw [e8, mI_ne 24 (by omega), e6, mI_ne 24 (by omega), e4, mI_s]
    · rw [e8, mI_ne 26 (by omega), e6, mI_j (by omega), e4, mI_ne 26 (by omega), b1.2 26 (by omega)]
    · rw [e8, mI_ne 26 (by omega), e6, mI_s]
theorem l_b1 {N n : Nat} {x : Int32} {m : Mem} : l_X9_begins N (n + 1) 1 x m = B_X9_begins_34 N (l_X9_begins N n) x m := rfl
theorem l_b2 {N n : Nat} {x : Int32} {m : Mem} : l_X9_begins N (n + 1) 2 x m = B_X9_begins_55 N (l_X9_begins N n) x m := rfl
theorem l_b3 {N n : Nat} {x : Int32} {m : Mem} : l_X9_begins N (n + 1) 3 x m = B_X9_begins_141 N (l_X9_begins N n) x m := rfl
theorem m_zero {N n : Nat} : ∀ (k j : Nat) (m1 : Mem), j + k = 19 → ∃ m', l_X9_begins N (n + (k + 1)) 1 (nI j) m1 = l_X9_begins N n 2 (nI 0) m' ∧ (∀ q, q ≠ 1 → m'.1 q = m1.1 q) ∧ ∀ i, m'.1 1 i = if j ≤ i ∧ i < 19 then 0 else m1.1 1 i := by
  intro k
  induction k with
  | zero =>
    intro j m1 hj
    refine ⟨m1, ?_, fun _ _ => rfl, fun i => by rw [if_neg (by omega)]⟩
    rw [show n + (0 + 1) = n + 1 from rfl, l_b1]
    unfold B_X9_begins_34
    rw [if_pos (show (19 : Int32) ≤ nI j from nI_le (a := 19) (by omega) (by omega)), show (0 : Int32) = nI 0 from rfl]
  | succ k ih =>
    intro j m1 hj
    obtain ⟨m', e1, e2, e3⟩ := ih (j + 1) (mI m1 1 j 0) (by omega)
    refine ⟨m', ?_, fun q hq => by rw [e2 q hq, mI_ne q hq], fun i => ?_⟩
    · rw [show n + (k + 1 + 1) = (n + (k + 1)) + 1 by omega, l_b1]
      unfold B_X9_begins_34
      rw [if_neg (show ¬ (19 : Int32) ≤ nI j from nI_ge (b := 19) (by omega) (by omega)), fl_ck_t (i_ckz (by omega) (by omega)), i_c (by omega), nI_1 j]
      simp only [fl_lm]
      exact e1
    · rw [e3]
      by_cases h : j + 1 ≤ i ∧ i < 19
      · rw [if_pos h, if_pos (by omega)]
      · rw [if_neg h, mI_g, if_pos rfl]
        by_cases e : i = j
        · rw [if_pos e, if_pos (by omega)]
        · rw [if_neg e, if_neg (by omega)]
theorem m_cabsB {N n nc : Nat} (hnc : nc ≤ 3) : ∀ (k j : Nat) (m1 : Mem), j + k = nc → m1.1 0 5 = nI nc → ∃ m', l_X9_begins N (n + (k + 1)) 2 (nI j) m1 = l_X9_begins N n 3 (nI 0) m' ∧ (∀ q, q ≠ 1 → q ≠ 2 → m'.1 q = m1.1 q) ∧ (∀ c, j ≤ c → c < nc → m'.1 2 c = m1.1 12 (3 * c) ∧ m'.1 1 (1 + c) = m1.1 12 (3 * c + 1) ∧ m'.1 1 (7 + c) = (if m1.1 12 (3 * c + 2) = m1.1 12 (3 * c + 1) then -4 else m1.1 12 (3 * c + 2))) ∧ (∀ i, ¬ (1 + j ≤ i ∧ i < 1 + nc) → ¬ (7 + j ≤ i ∧ i < 7 + nc) → m'.1 1 i = m1.1 1 i) ∧ ∀ c, c < j → m'.1 2 c = m1.1 2 c := by
  intro k
  induction k with
  | zero =>
    intro j m1 hj h5
    refine ⟨m1, ?_, fun _ _ _ => rfl, fun c x y => by omega, fun _ _ _ => rfl, fun _ _ => rfl⟩
    rw [show n + (0 + 1) = n + 1 from rfl, l_b2]
    unfold B_X9_begins_55
    rw [h5, if_pos (nI_le (by omega) (by omega)), show (0 : Int32) = nI 0 from rfl]
  | succ k ih =>
    intro j m1 hj h5
    have fin : ∀ v : Int32, v = (if m1.1 12 (3 * j + 2) = m1.1 12 (3 * j + 1) then -4 else m1.1 12 (3 * j + 2)) → ∃ m', l_X9_begins N (n + (k + 1)) 2 (nI (j + 1)) (mI (mI (mI m1 2 j (m1.1 12 (3 * j))) 1 (1 + j) (m1.1 12 (3 * j + 1))) 1 (7 + j) v) = l_X9_begins N n 3 (nI 0) m' ∧ (∀ q, q ≠ 1 → q ≠ 2 → m'.1 q = m1.1 q) ∧ (∀ c, j ≤ c → c < nc → m'.1 2 c = m1.1 12 (3 * c) ∧ m'.1 1 (1 + c) = m1.1 12 (3 * c + 1) ∧ m'.1 1 (7 + c) = (if m1.1 12 (3 * c + 2) = m1.1 12 (3 * c + 1) then -4 else m1.1 12 (3 * c + 2))) ∧ (∀ i, ¬ (1 + j ≤ i ∧ i < 1 + nc) → ¬ (7 + j ≤ i ∧ i < 7 + nc) → m'.1 1 i = m1.1 1 i) ∧ ∀ c, c < j → m'.1 2 c = m1.1 2 c := by
      intro v hv
      obtain ⟨m', e1, e2, e3, e4, e5⟩ := ih (j + 1) (mI (mI (mI m1 2 j (m1.1 12 (3 * j))) 1 (1 + j) (m1.1 12 (3 * j + 1))) 1 (7 + j) v) (by omega) (by rw [mI_ne 0 (by omega), mI_ne 0 (by omega), mI_ne 0 (by omega)]; exact h5)
      refine ⟨m', e1, fun q x y => by rw [e2 q x y, mI_ne q x, mI_ne q x, mI_ne q y], fun c x y => ?_, fun i x y => ?_, fun c hc => ?_⟩
      · by_cases e : c = j
        · subst e
          rw [e5 c (by omega), e4 (1 + c) (by omega) (by omega), e4 (7 + c) (by omega) (by omega), mI_s, mI_j (by omega), mI_s, mI_ne 2 (by omega), mI_ne 2 (by omega), mI_s]
          exact ⟨rfl, rfl, hv⟩
        · have := e3 c (by omega) y
          rw [mI_ne 12 (by omega), mI_ne 12 (by omega), mI_ne 12 (by omega)] at this
          exact this
      · rw [e4 i (by omega) (by omega), mI_j (by omega), mI_j (by omega), mI_ne 1 (by omega)]
      · rw [e5 c (by omega), mI_ne 2 (by omega), mI_ne 2 (by omega), mI_j (by omega)]
    rw [show n + (k + 1 + 1) = (n + (k + 1)) + 1 by omega, l_b2]
    unfold B_X9_begins_55
    rw [h5, if_neg (nI_ge (by omega) (by omega)), show (3 : Int32) * nI j = nI (3 * j) from pk_mul 3 j, show nI (3 * j) + (2 : Int32) = nI (3 * j + 2) from nI_add _ 2, show nI (3 * j) + (1 : Int32) = nI (3 * j + 1) from nI_add _ 1, show (1 : Int32) + nI j = nI (1 + j) from nI_add 1 j, show (7 : Int32) + nI j = nI (7 + j) from nI_add 7 j, nI_1 j]
    simp only [fl_li, fl_lm, fl_ck_t (i_ckz (j := 3 * j) (z := 9) (by omega) (by omega)), fl_ck_t (i_ckz (j := 3 * j + 1) (z := 9) (by omega) (by omega)), fl_ck_t (i_ckz (j := 3 * j + 2) (z := 9) (by omega) (by omega)), fl_ck_t (i_ckz (j := j) (z := 3) (by omega) (by omega)), fl_ck_t (i_ckz (j := 1 + j) (z := 380) (by omega) (by omega)), fl_ck_t (i_ckz (j := 7 + j) (z := 380) (by omega) (by omega)), i_c (show 3 * j < 2147483648 by omega), i_c (show 3 * j + 1 < 2147483648 by omega), i_c (show 3 * j + 2 < 2147483648 by omega), i_c (show j < 2147483648 by omega), i_c (show 1 + j < 2147483648 by omega), i_c (show 7 + j < 2147483648 by omega), mI_ne 12 (show (12 : Nat) ≠ 2 by omega), mI_s]
    by_cases hz : m1.1 12 (3 * j + 2) = m1.1 12 (3 * j + 1)
    · rw [if_pos hz]; exact fin _ (by rw [if_pos hz])
    · rw [if_neg hz]; exact fin _ (by rw [if_neg hz])
theorem m_faresB {N n nf : Nat} (hnf : nf ≤ 7) : ∀ (k j : Nat) (m1 : Mem), j + k = nf → m1.1 0 7 = nI nf → ∃ m', l_X9_begins N (n + (k + 1)) 3 (nI j) m1 = some (0, m') ∧ (∀ q, q ≠ 0 → q ≠ 1 → (q < 3 ∨ 7 < q) → m'.1 q = m1.1 q) ∧ (∀ i, i ≠ 1 → i ≠ 2 → i ≠ 13 → m'.1 0 i = m1.1 0 i) ∧ (m'.1 0 1 = 0 ∧ m'.1 0 2 = 0 ∧ m'.1 0 13 = 0) ∧ (∀ f, j ≤ f → f < nf → m'.1 3 f = m1.1 13 (5 * f) ∧ m'.1 4 f = m1.1 13 (5 * f + 1) ∧ m'.1 5 f = m1.1 13 (5 * f + 2) ∧ m'.1 6 f = m1.1 13 (5 * f + 3) ∧ m'.1 7 f = m1.1 13 (5 * f + 4) ∧ m'.1 1 (11 + f) = -4) ∧ (∀ i, ¬ (11 + j ≤ i ∧ i < 11 + nf) → m'.1 1 i = m1.1 1 i) ∧ ∀ f q, f < j → 3 ≤ q → q ≤ 7 → m'.1 q f = m1.1 q f := by
  intro k
  induction k with
  | zero =>
    intro j m1 hj h7
    rw [show n + (0 + 1) = n + 1 from rfl, l_b3]
    unfold B_X9_begins_141
    rw [h7, if_pos (nI_le (by omega) (by omega))]
    simp only [fl_lm]
    refine ⟨_, rfl, fun q x y z => by rw [mI_ne q x, mI_ne q x, mI_ne q x], fun i x y z => by rw [mI_j z, mI_j y, mI_j x], ⟨?_, ?_, mI_s⟩, fun f x y => by omega, fun i _ => by rw [mI_ne 1 (by omega), mI_ne 1 (by omega), mI_ne 1 (by omega)], fun f q _ h3 _ => by rw [mI_ne q (by omega), mI_ne q (by omega), mI_ne q (by omega)]⟩
    · rw [mI_j (by omega), mI_j (by omega), mI_s]
    · rw [mI_j (by omega), mI_s]
  | succ k ih =>
    intro j m1 hj h7
    obtain ⟨m', e1, e2, e3, e4, e5, e6, e7⟩ := ih (j + 1) (mI (mI (mI (mI (mI (mI m1 3 j (m1.1 13 (5 * j))) 4 j (m1.1 13 (5 * j + 1))) 5 j (m1.1 13 (5 * j + 2))) 6 j (m1.1 13 (5 * j + 3))) 7 j (m1.1 13 (5 * j + 4))) 1 (11 + j) (-4)) (by omega) (by rw [mI_ne 0 (by omega), mI_ne 0 (by omega), mI_ne 0 (by omega), mI_ne 0 (by omega), mI_ne 0 (by omega), mI_ne 0 (by omega)]; exact h7)
    refine ⟨m', ?_, fun q x y z => by rw [e2 q x y z, mI_ne q y, mI_ne q (by omega), mI_ne q (by omega), mI_ne q (by omega), mI_ne q (by omega), mI_ne q (by omega)], fun i x y z => by rw [e3 i x y z, mI_ne 0 (by omega), mI_ne 0 (by omega), mI_ne 0 (by omega), mI_ne 0 (by omega), mI_ne 0 (by omega), mI_ne 0 (by omega)], e4, fun f x y => ?_, fun i x => ?_, fun f q x y z => ?_⟩
    · rw [show n + (k + 1 + 1) = (n + (k + 1)) + 1 by omega, l_b3]
      unfold B_X9_begins_141
      rw [h7, if_neg (nI_ge (by omega) (by omega)), show (5 : Int32) * nI j = nI (5 * j) from pk_mul 5 j, show nI (5 * j) + (1 : Int32) = nI (5 * j + 1) from nI_add _ 1, show nI (5 * j) + (2 : Int32) = nI (5 * j + 2) from nI_add _ 2, show nI (5 * j) + (3 : Int32) = nI (5 * j + 3) from nI_add _ 3, show nI (5 * j) + (4 : Int32) = nI (5 * j + 4) from nI_add _ 4, show (11 : Int32) + nI j = nI (11 + j) from nI_add 11 j, nI_1 j]
      simp only [fl_lm, fl_ck_t (i_ckz (j := 5 * j) (z := 35) (by omega) (by omega)), fl_ck_t (i_ckz (j := 5 * j + 1) (z := 35) (by omega) (by omega)), fl_ck_t (i_ckz (j := 5 * j + 2) (z := 35) (by omega) (by omega)), fl_ck_t (i_ckz (j := 5 * j + 3) (z := 35) (by omega) (by omega)), fl_ck_t (i_ckz (j := 5 * j + 4) (z := 35) (by omega) (by omega)), fl_ck_t (i_ckz (j := j) (z := 7) (by omega) (by omega)), fl_ck_t (i_ckz (j := 11 + j) (z := 380) (by omega) (by omega)), i_c (show 5 * j < 2147483648 by omega), i_c (show 5 * j + 1 < 2147483648 by omega), i_c (show 5 * j + 2 < 2147483648 by omega), i_c (show 5 * j + 3 < 2147483648 by omega), i_c (show 5 * j + 4 < 2147483648 by omega), i_c (show j < 2147483648 by omega), i_c (show 11 + j < 2147483648 by omega), mI_ne 13 (show (13 : Nat) ≠ 3 by omega), mI_ne 13 (show (13 : Nat) ≠ 4 by omega), mI_ne 13 (show (13 : Nat) ≠ 5 by omega), mI_ne 13 (show (13 : Nat) ≠ 6 by omega)]
      exact e1
    · by_cases e : f = j
      · subst e
        rw [e7 f 3 (by omega) (by omega) (by omega), e7 f 4 (by omega) (by omega) (by omega), e7 f 5 (by omega) (by omega) (by omega), e7 f 6 (by omega) (by omega) (by omega), e7 f 7 (by omega) (by omega) (by omega), e6 (11 + f) (by omega), mI_s]
        refine ⟨?_, ?_, ?_, ?_, ?_, rfl⟩
        · rw [mI_ne 3 (by omega), mI_ne 3 (by omega), mI_ne 3 (by omega), mI_ne 3 (by omega), mI_ne 3 (by omega), mI_s]
        · rw [mI_ne 4 (by omega), mI_ne 4 (by omega), mI_ne 4 (by omega), mI_ne 4 (by omega), mI_s]
        · rw [mI_ne 5 (by omega), mI_ne 5 (by omega), mI_ne 5 (by omega), mI_s]
        · rw [mI_ne 6 (by omega), mI_ne 6 (by omega), mI_s]
        · rw [mI_ne 7 (by omega), mI_s]
      · have := e5 f (by omega) y
        rw [mI_ne 13 (by omega), mI_ne 13 (by omega), mI_ne 13 (by omega), mI_ne 13 (by omega), mI_ne 13 (by omega), mI_ne 13 (by omega)] at this
        exact this
    · rw [e6 i (by omega), mI_j (by omega), mI_ne 1 (by omega), mI_ne 1 (by omega), mI_ne 1 (by omega), mI_ne 1 (by omega), mI_ne 1 (by omega)]
    · rw [e7 f q (by omega) y z, mI_ne q (by omega)]
      have s1 : ∀ (w : Mem) (k : Nat) (v : Int32), (mI w k j v).1 q f = w.1 q f := fun w k v => by
        rw [mI_g]
        by_cases e : q = k
        · rw [if_pos e, if_neg (by omega), e]
        · rw [if_neg e]
      rw [s1, s1, s1, s1, s1]
