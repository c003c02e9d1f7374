/-! ===== the face: fares taken, cabs sent, time, undone; evenings kept ===== -/
def cpv (m m' : Mem) (K0 K1 : Nat) : Prop := m'.1 K0 0 = m.1 K1 0 ∧ (∀ c, c < 3 → m'.1 (K0 + 1) c = m.1 (K1 + 1) c ∧ m'.1 (K0 + 2) c = m.1 (K1 + 2) c ∧ m'.1 (K0 + 3) c = m.1 (K1 + 3) c) ∧ ∀ f, f < 7 → m'.1 (K0 + 4) f = m.1 (K1 + 4) f ∧ m'.1 (K0 + 5) f = m.1 (K1 + 5) f
theorem cpv.P {m m' : Mem} {K0 K1 n : Nat} (hn : n ≤ 3) (h : cpv m m' K0 K1) : xP n m' K0 = xP n m K1 := by
  unfold xP
  rw [h.1, rs_cong (fun c hc => (h.2.1 c (by omega)).1), rs_cong (fun c hc => (h.2.1 c (by omega)).2.1), rs_cong (fun c hc => (h.2.1 c (by omega)).2.2)]
theorem cpv.B {m m' : Mem} {K0 K1 : Nat} {B : Int} (h : cpv m m' K0 K1) (hb : xB m K1 B) : xB m' K0 B := by
  unfold xB
  rw [h.1]
  refine ⟨hb.1, fun c hc => ?_⟩
  rw [(h.2.1 c hc).1, (h.2.1 c hc).2.1, (h.2.1 c hc).2.2]
  exact hb.2 c hc
theorem mP_shift {n : Nat} {m m' : Mem} {r r' : Nat} (hn : n ≤ 3) (hm : ∀ j, j < 19 → m'.1 1 (r' + j) = m.1 1 (r + j)) : mP n m' r' = mP n m r := by
  unfold mP
  have h0 := hm 0 (by omega)
  rw [Nat.add_zero, Nat.add_zero] at h0
  rw [h0]
  rw [rs_cong (n := n) (g := fun c => m'.1 1 (r' + 1 + c)) (g' := fun c => m.1 1 (r + 1 + c)) (fun c hc => by have := hm (1 + c) (by omega); rw [← Nat.add_assoc, ← Nat.add_assoc] at this; exact this)]
  rw [rs_cong (n := n) (g := fun c => m'.1 1 (r' + 4 + c)) (g' := fun c => m.1 1 (r + 4 + c)) (fun c hc => by have := hm (4 + c) (by omega); rw [← Nat.add_assoc, ← Nat.add_assoc] at this; exact this)]
  rw [rs_cong (n := n) (g := fun c => m'.1 1 (r' + 7 + c)) (g' := fun c => m.1 1 (r + 7 + c)) (fun c hc => by have := hm (7 + c) (by omega); rw [← Nat.add_assoc, ← Nat.add_assoc] at this; exact this)]
theorem FR.copyv {C : Cf} {mx mx' mm mm' : Mem} {S S' r r' : Nat} {B : Int} (hC : okC C) (h : FR C mx mm S r B) (hx : cpv mx mx' S' S) (hm : ∀ j, j < 19 → mm'.1 1 (r' + j) = mm.1 1 (r + j)) : FR C mx' mm' S' r' B := by
  have h3 := hC.2.1.2
  have h7 := hC.2.2.1.2
  obtain ⟨h1, h2, T, U, t1, t2, t3, t4, t5, t6⟩ := h
  refine ⟨by rw [hx.P h3, h1, mP_shift h3 hm], hx.B h2, T, U, t1, t2, by rw [hm _ (by omega)]; exact t3, by rw [hm _ (by omega)]; exact t4, t5, fun f hf => ?_⟩
  have := hm (11 + f) (by omega)
  rw [← Nat.add_assoc, ← Nat.add_assoc] at this
  rw [(hx.2.2 f (by omega)).1, (hx.2.2 f (by omega)).2, this]
  exact t6 f hf
theorem x_put_d {m : Mem} {top held : Nat} (h1 : m.1 24 1 = nI top) (ht : top < 8) (h2 : m.1 24 2 = nI held) (hh : held ≤ 8) :
    Ok (f_X4_put_d 39 m) (fun _ m' => eqOff m m' (fun k => k = 24 ∨ (51 + 6 * top ≤ k ∧ k ≤ 51 + 6 * top + 5)) ∧ cpv m m' (51 + 6 * top) 39 ∧ m'.1 24 1 = nI ((top + 1) % 8) ∧ m'.1 24 2 = nI (min (held + 1) 8)) := by
  unfold f_X4_put_d
  rw [h1, i_c (by omega)]
  refine ok_ck (i_ckz (by omega) (by omega)) (ok_bd (x_copy (by omega)) (fun _ m1 hc => ?_))
  have k1 : m1.1 24 = m.1 24 := hc.1.2 24 (by omega)
  have last : ∀ t : Int32, t = nI ((top + 1) % 8) → Ok (J_X4_put_d_38 39 t m1) (fun _ m' => eqOff m m' (fun k => k = 24 ∨ (51 + 6 * top ≤ k ∧ k ≤ 51 + 6 * top + 5)) ∧ cpv m m' (51 + 6 * top) 39 ∧ m'.1 24 1 = nI ((top + 1) % 8) ∧ m'.1 24 2 = nI (min (held + 1) 8)) := by
    intro t ht'
    unfold J_X4_put_d_38
    refine ok_lm (fun m2 e2 => ok_lm (fun m3 e3 => ok_ret ?_))
    have o3 : ∀ k, k ≠ 24 → m3.1 k = m1.1 k := fun k hk => by rw [e3, mI_ne k hk, e2, mI_ne k hk]
    refine ⟨⟨by rw [e3, mI_2, e2, mI_2, hc.1.1], fun k hk => by rw [o3 k (by omega), hc.1.2 k (by omega)]⟩, ⟨?_, fun c h => ?_, fun f h => ?_⟩, ?_, ?_⟩
    · rw [o3 _ (by omega)]; exact hc.2.1
    · rw [o3 _ (by omega), o3 _ (by omega), o3 _ (by omega)]; exact hc.2.2.1 c h
    · rw [o3 _ (by omega), o3 _ (by omega)]; exact hc.2.2.2 f h
    · rw [e3, mI_j (by omega), e2, mI_s, ht']
    · rw [e3, mI_s, e2, mI_j (by omega), k1, h2, nI_1 held]
      unfold fl_min
      by_cases q : held + 1 ≤ 8
      · rw [if_neg (show ¬ (8 : Int32) < nI (held + 1) from nI_nlt (b := held + 1) (a := 8) q (by omega)), Nat.min_eq_left q]
      · rw [if_pos (show (8 : Int32) < nI (held + 1) from nI_lt (a := 8) (by omega) (by omega)), Nat.min_eq_right (by omega)]
        rfl
  rw [k1, h1, nI_1 top]
  refine ok_if (fun q => last _ ?_) (fun q => last _ ?_)
  · have : top + 1 = 8 := by
      rcases Nat.lt_or_ge (top + 1) 8 with z | z
      · exact absurd q (nI_ge (b := 8) z (by omega))
      · omega
    rw [this]
    rfl
  · have : top + 1 < 8 := by
      rcases Nat.lt_or_ge (top + 1) 8 with z | z
      · exact z
      · exact absurd (nI_le (a := 8) z (by omega)) q
    rw [Nat.mod_eq_of_lt this]
theorem x_give_d {m : Mem} {top held : Nat} (h1 : m.1 24 1 = nI top) (ht : top < 8) (h2 : m.1 24 2 = nI held) (hh : held ≤ 8) (h0 : 0 < held) :
    Ok (f_X4_giveBack_d 39 m) (fun r m' => r = 1 ∧ eqOff m m' (fun k => k = 24 ∨ (39 ≤ k ∧ k ≤ 44)) ∧ cpv m m' 39 (51 + 6 * ((top + 8 - 1) % 8)) ∧ m'.1 24 1 = nI ((top + 8 - 1) % 8) ∧ m'.1 24 2 = nI (held - 1)) := by
  unfold f_X4_giveBack_d
  rw [h1, h2]
  have last : ∀ t : Int32, t = nI ((top + 8 - 1) % 8) → Ok (J_X4_giveBack_d_33 39 t m) (fun r m' => r = 1 ∧ eqOff m m' (fun k => k = 24 ∨ (39 ≤ k ∧ k ≤ 44)) ∧ cpv m m' 39 (51 + 6 * ((top + 8 - 1) % 8)) ∧ m'.1 24 1 = nI ((top + 8 - 1) % 8) ∧ m'.1 24 2 = nI (held - 1)) := by
    intro t ht'
    have hlt : (top + 8 - 1) % 8 < 8 := Nat.mod_lt _ (by omega)
    unfold J_X4_giveBack_d_33
    refine ok_lm (fun m2 e2 => ok_lm (fun m3 e3 => ?_))
    have o3 : ∀ k, k ≠ 24 → m3.1 k = m.1 k := fun k hk => by rw [e3, mI_ne k hk, e2, mI_ne k hk]
    have a1 : m3.1 24 1 = nI ((top + 8 - 1) % 8) := by rw [e3, mI_j (by omega), e2, mI_s, ht']
    have a2 : m3.1 24 2 = nI (held - 1) := by
      rw [e3, mI_s, e2, mI_j (by omega), h2]
      obtain ⟨d, rfl⟩ : ∃ d, held = d + 1 := ⟨held - 1, by omega⟩
      exact nI_pred d
    rw [a1, i_c (by omega)]
    refine ok_ck (i_ckz (by omega) (by omega)) (ok_bd (x_copy (by omega)) (fun _ m4 hc => ok_ret ⟨rfl, ⟨by rw [hc.1.1, e3, mI_2, e2, mI_2], fun k hk => by rw [hc.1.2 k (by omega), o3 k (by omega)]⟩, ⟨?_, fun c h => ?_, fun f h => ?_⟩, ?_, ?_⟩))
    · rw [hc.2.1, o3 _ (by omega)]
    · have := hc.2.2.1 c h
      rw [o3 _ (by omega), o3 _ (by omega), o3 _ (by omega)] at this
      exact this
    · have := hc.2.2.2 f h
      rw [o3 _ (by omega), o3 _ (by omega)] at this
      exact this
    · rw [hc.1.2 24 (by omega), a1]
    · rw [hc.1.2 24 (by omega), a2]
  refine ok_f (nI_ne0 h0 (by omega)) (ok_if (fun q => last _ ?_) (fun q => last _ ?_))
  · have : top = 0 := by
      rcases Nat.eq_zero_or_pos top with z | z
      · exact z
      · exact absurd q (nI_nle z (by omega))
    rw [this]
    rfl
  · have : 0 < top := by
      rcases Nat.eq_zero_or_pos top with z | z
      · rw [z] at q; exact absurd (Int32.le_refl _) q
      · exact z
    obtain ⟨d, rfl⟩ : ∃ d, top = d + 1 := ⟨top - 1, by omega⟩
    rw [nI_pred, show d + 1 + 8 - 1 = d + 8 by omega, Nat.add_mod_right, Nat.mod_eq_of_lt (by omega)]
theorem x_put_k {m : Mem} {top held : Nat} (h1 : m.1 26 1 = nI top) (ht : top < 2) (h2 : m.1 26 2 = nI held) (hh : held ≤ 2) :
    Ok (f_X4_put_k 39 m) (fun _ m' => eqOff m m' (fun k => k = 26 ∨ (99 + 6 * top ≤ k ∧ k ≤ 99 + 6 * top + 5)) ∧ cpv m m' (99 + 6 * top) 39 ∧ m'.1 26 1 = nI ((top + 1) % 2) ∧ m'.1 26 2 = nI (min (held + 1) 2)) := by
  unfold f_X4_put_k
  rw [h1, i_c (by omega)]
  refine ok_ck (i_ckz (by omega) (by omega)) (ok_bd (x_copy (by omega)) (fun _ m1 hc => ?_))
  have k1 : m1.1 26 = m.1 26 := hc.1.2 26 (by omega)
  have last : ∀ t : Int32, t = nI ((top + 1) % 2) → Ok (J_X4_put_k_38 39 t m1) (fun _ m' => eqOff m m' (fun k => k = 26 ∨ (99 + 6 * top ≤ k ∧ k ≤ 99 + 6 * top + 5)) ∧ cpv m m' (99 + 6 * top) 39 ∧ m'.1 26 1 = nI ((top + 1) % 2) ∧ m'.1 26 2 = nI (min (held + 1) 2)) := by
    intro t ht'
    unfold J_X4_put_k_38
    refine ok_lm (fun m2 e2 => ok_lm (fun m3 e3 => ok_ret ?_))
    have o3 : ∀ k, k ≠ 26 → m3.1 k = m1.1 k := fun k hk => by rw [e3, mI_ne k hk, e2, mI_ne k hk]
    refine ⟨⟨by rw [e3, mI_2, e2, mI_2, hc.1.1], fun k hk => by rw [o3 k (by omega), hc.1.2 k (by omega)]⟩, ⟨?_, fun c h => ?_, fun f h => ?_⟩, ?_, ?_⟩
    · rw [o3 _ (by omega)]; exact hc.2.1
    · rw [o3 _ (by omega), o3 _ (by omega), o3 _ (by omega)]; exact hc.2.2.1 c h
    · rw [o3 _ (by omega), o3 _ (by omega)]; exact hc.2.2.2 f h
    · rw [e3, mI_j (by omega), e2, mI_s, ht']
    · rw [e3, mI_s, e2, mI_j (by omega), k1, h2, nI_1 held]
      unfold fl_min
      by_cases q : held + 1 ≤ 2
      · rw [if_neg (show ¬ (2 : Int32) < nI (held + 1) from nI_nlt (b := held + 1) (a := 2) q (by omega)), Nat.min_eq_left q]
      · rw [if_pos (show (2 : Int32) < nI (held + 1) from nI_lt (a := 2) (by omega) (by omega)), Nat.min_eq_right (by omega)]
        rfl
  rw [k1, h1, nI_1 top]
  refine ok_if (fun q => last _ ?_) (fun q => last _ ?_)
  · have : top + 1 = 2 := by
      rcases Nat.lt_or_ge (top + 1) 2 with z | z
      · exact absurd q (nI_ge (b := 2) z (by omega))
      · omega
    rw [this]
    rfl
  · have : top + 1 < 2 := by
      rcases Nat.lt_or_ge (top + 1) 2 with z | z
      · exact z
      · exact absurd (nI_le (a := 2) z (by omega)) q
    rw [Nat.mod_eq_of_lt this]
theorem x_give_k {m : Mem} {top held : Nat} (h1 : m.1 26 1 = nI top) (ht : top < 2) (h2 : m.1 26 2 = nI held) (hh : held ≤ 2) (h0 : 0 < held) :
    Ok (f_X4_giveBack_k 39 m) (fun r m' => r = 1 ∧ eqOff m m' (fun k => k = 26 ∨ (39 ≤ k ∧ k ≤ 44)) ∧ cpv m m' 39 (99 + 6 * ((top + 2 - 1) % 2)) ∧ m'.1 26 1 = nI ((top + 2 - 1) % 2) ∧ m'.1 26 2 = nI (held - 1)) := by
  unfold f_X4_giveBack_k
  rw [h1, h2]
  have last : ∀ t : Int32, t = nI ((top + 2 - 1) % 2) → Ok (J_X4_giveBack_k_33 39 t m) (fun r m' => r = 1 ∧ eqOff m m' (fun k => k = 26 ∨ (39 ≤ k ∧ k ≤ 44)) ∧ cpv m m' 39 (99 + 6 * ((top + 2 - 1) % 2)) ∧ m'.1 26 1 = nI ((top + 2 - 1) % 2) ∧ m'.1 26 2 = nI (held - 1)) := by
    intro t ht'
    have hlt : (top + 2 - 1) % 2 < 2 := Nat.mod_lt _ (by omega)
    unfold J_X4_giveBack_k_33
    refine ok_lm (fun m2 e2 => ok_lm (fun m3 e3 => ?_))
    have o3 : ∀ k, k ≠ 26 → m3.1 k = m.1 k := fun k hk => by rw [e3, mI_ne k hk, e2, mI_ne k hk]
    have a1 : m3.1 26 1 = nI ((top + 2 - 1) % 2) := by rw [e3, mI_j (by omega), e2, mI_s, ht']
    have a2 : m3.1 26 2 = nI (held - 1) := by
      rw [e3, mI_s, e2, mI_j (by omega), h2]
      obtain ⟨d, rfl⟩ : ∃ d, held = d + 1 := ⟨held - 1, by omega⟩
      exact nI_pred d
    rw [a1, i_c (by omega)]
    refine ok_ck (i_ckz (by omega) (by omega)) (ok_bd (x_copy (by omega)) (fun _ m4 hc => ok_ret ⟨rfl, ⟨by rw [hc.1.1, e3, mI_2, e2, mI_2], fun k hk => by rw [hc.1.2 k (by omega), o3 k (by omega)]⟩, ⟨?_, fun c h => ?_, fun f h => ?_⟩, ?_, ?_⟩))
    · rw [hc.2.1, o3 _ (by omega)]
    · have := hc.2.2.1 c h
      rw [o3 _ (by omega), o3 _ (by omega), o3 _ (by omega)] at this
      exact this
    · have := hc.2.2.2 f h
      rw [o3 _ (by omega), o3 _ (by omega)] at this
      exact this
    · rw [hc.1.2 26 (by omega), a1]
    · rw [hc.1.2 26 (by omega), a2]
  refine ok_f (nI_ne0 h0 (by omega)) (ok_if (fun q => last _ ?_) (fun q => last _ ?_))
  · have : top = 0 := by
      rcases Nat.eq_zero_or_pos top with z | z
      · exact z
      · exact absurd q (nI_nle z (by omega))
    rw [this]
    rfl
  · have : 0 < top := by
      rcases Nat.eq_zero_or_pos top with z | z
      · rw [z] at q; exact absurd (Int32.le_refl _) q
      · exact z
    obtain ⟨d, rfl⟩ : ∃ d, top = d + 1 := ⟨top - 1, by omega⟩
    rw [nI_pred, show d + 1 + 2 - 1 = d + 2 by omega, Nat.add_mod_right, Nat.mod_eq_of_lt (by omega)]
/-! the reference remembers -/
theorem w_eq {m : Mem} {a b : Nat} (h : a = b) : m.1 1 a = m.1 1 b := by rw [h]
theorem mul19 (h : Nat) (a : Nat) : nI a + (19 : Int32) * nI h = nI (a + 19 * h) := by rw [show (19 : Int32) * nI h = nI (19 * h) from pk_mul 19 h, nI_add]
def mMind (m m' : Mem) (held : Nat) : Prop := eqOff m m' (fun k => k = 0 ∨ k = 1) ∧ (∀ j, j ≠ 1 → m'.1 0 j = m.1 0 j) ∧ m'.1 0 1 = nI (min (held + 1) 8) ∧ (∀ j, (j < 76 ∨ 228 ≤ j) → m'.1 1 j = m.1 1 j) ∧
  (∀ t, t < 19 → m'.1 1 (76 + 19 * (min (held + 1) 8 - 1) + t) = m.1 1 t) ∧ ∀ q, q < min (held + 1) 8 - 1 → ∀ t, t < 19 → m'.1 1 (76 + 19 * q + t) = if held = 8 then m.1 1 (76 + 19 * (q + 1) + t) else m.1 1 (76 + 19 * q + t)
theorem m_minds_l {N : Nat} {m : Mem} : ∀ (k n j : Nat) (m1 : Mem) (Q : Int32 → Mem → Prop), j + k = 133 → k < n → eqOff m m1 (fun k => k = 1) → (∀ i, m1.1 1 i = if 76 ≤ i ∧ i < 76 + j then m.1 1 (i + 19) else m.1 1 i) →
    (∀ m2, eqOff m m2 (fun k => k = 1) → (∀ i, m2.1 1 i = if 76 ≤ i ∧ i < 209 then m.1 1 (i + 19) else m.1 1 i) → ∀ F, Ok (fl_lm (mI m2 0 1 ((m2.1 0 1) - 1)) (fun m8 => J_X9_minds_55 N F m8)) Q) → Ok (l_X9_minds N n (nI j) m1) Q := by
  intro k
  induction k with
  | zero =>
    intro n j m1 Q hj hn he hc hk
    obtain ⟨n, rfl⟩ : ∃ n', n = n' + 1 := ⟨n - 1, by omega⟩
    show Ok (B_X9_minds_11 N (l_X9_minds N n) (nI j) m1) _
    unfold B_X9_minds_11
    rw [show j = 133 by omega] at *
    exact ok_t (Int32.le_refl _) (hk m1 he hc _)
  | succ k ih =>
    intro n j m1 Q hj hn he hc hk
    obtain ⟨n, rfl⟩ : ∃ n', n = n' + 1 := ⟨n - 1, by omega⟩
    show Ok (B_X9_minds_11 N (l_X9_minds N n) (nI j) m1) _
    unfold B_X9_minds_11
    rw [show (76 : Int32) + nI j = nI (76 + j) from nI_add 76 j, show nI (76 + j) + (19 : Int32) = nI (76 + j + 19) from nI_add _ 19, nI_1, i_c (by omega), i_c (by omega)]
    refine ok_f (nI_ge (b := 133) (by omega) (by omega)) (ok_ck (i_ckz (by omega) (by omega)) (ok_ck (i_ckz (by omega) (by omega)) (ok_lm (fun m2 e2 => ih n (j + 1) m2 Q (by omega) (by omega) ?_ ?_ hk))))
    · exact he.tr (by rw [e2]; exact eqOff.mI rfl)
    · intro i
      rw [e2, mI_g, if_pos rfl]
      by_cases q : i = 76 + j
      · rw [if_pos q, if_pos (by omega), hc, if_neg (by omega), q]
      · rw [if_neg q, hc i]
        by_cases q2 : 76 ≤ i ∧ i < 76 + j
        · rw [if_pos q2, if_pos (by omega)]
        · rw [if_neg q2, if_neg (by omega)]
theorem m_minds {N held : Nat} {m : Mem} (hN : 140 ≤ N) (h1 : m.1 0 1 = nI held) (hh : held ≤ 8) : Ok (f_X9_minds N m) (fun _ m' => mMind m m' held) := by
  have j55 : ∀ (m2 : Mem) (w : Nat) (F), w < 8 → eqOff m m2 (fun k => k = 0 ∨ k = 1) → (∀ j, j ≠ 1 → m2.1 0 j = m.1 0 j) → m2.1 0 1 = nI w → w + 1 = min (held + 1) 8 → (∀ j, (j < 76 ∨ 209 ≤ j) → m2.1 1 j = m.1 1 j) →
      (∀ q, q < w → ∀ t, t < 19 → m2.1 1 (76 + 19 * q + t) = if held = 8 then m.1 1 (76 + 19 * (q + 1) + t) else m.1 1 (76 + 19 * q + t)) → Ok (J_X9_minds_55 N F m2) (fun _ m' => mMind m m' held) := by
    intro m2 w F hw he h0 hu hw1 ho hq
    unfold J_X9_minds_55
    rw [hu, show (76 : Int32) = nI 76 from rfl, mul19]
    refine ok_bd (m_copy (a := 0) (b := 76 + 19 * w) (by omega) (by omega) (by omega) (by omega)) (fun _ m3 h3 => ok_lm (fun m4 e4 => ok_ret ?_))
    have o4 : ∀ k, k ≠ 0 → m4.1 k = m3.1 k := fun k hk => by rw [e4, mI_ne k hk]
    have z3 : m3.1 0 = m2.1 0 := h3.1.2 0 (by omega)
    refine ⟨⟨by rw [e4, mI_2, h3.1.1, he.1], fun k hk => ?_⟩, fun j hj => ?_, ?_, fun j hj => ?_, fun t ht => ?_, fun q hqq t ht => ?_⟩
    · rw [o4 k (by omega), h3.1.2 k (by omega), he.2 k (by omega)]
    · rw [e4, mI_j hj, z3, h0 j hj]
    · rw [e4, mI_s, z3, hu, nI_1, hw1]
    · rw [o4 1 (by omega), h3.o (by omega), ho j (by omega)]
    · rw [o4 1 (by omega), show min (held + 1) 8 - 1 = w by omega, h3.i ht, Nat.zero_add, ho t (by omega)]
    · rw [o4 1 (by omega), h3.o (by omega), hq q (by omega) t ht]
  unfold f_X9_minds
  rw [h1]
  refine ok_if (fun q => ?_) (fun q => ?_)
  · have e8 : held = 8 := nI_inj (by omega) (by omega) q
    subst e8
    refine m_minds_l (m := m) 133 N 0 m _ rfl (by omega) eqOff.rf (fun i => by rw [if_neg (by omega)]) (fun m2 he hc F => ok_lm (fun m3 e3 => j55 m3 7 F (by omega) ?_ ?_ ?_ (by omega) ?_ ?_))
    · exact (he.wk (fun k hk => Or.inr hk)).tr (by rw [e3]; exact eqOff.mI (Or.inl rfl))
    · intro j hj
      rw [e3, mI_j hj, he.2 0 (by omega)]
    · rw [e3, mI_s, he.2 0 (by omega), h1]
      rfl
    · intro j hj
      rw [e3, mI_ne 1 (by omega), hc, if_neg (by omega)]
    · intro q' hq' t ht
      rw [e3, mI_ne 1 (by omega), hc, if_pos (by omega), if_pos rfl]
      exact w_eq (by omega)
  · have h8 : held ≠ 8 := fun e => q (by rw [e]; rfl)
    refine j55 m held _ (by omega) eqOff.rf (fun _ _ => rfl) h1 (by omega) (fun _ _ => rfl) (fun q' hq' t ht => by rw [if_neg h8])
/-- both remember how things stand -/
theorem sim_remember {i N : Nat} {mx mm : Mem} (hN : 140 ≤ N) (h : Rl i mx mm) : Ok (f_X4_put_d 39 mx) (fun _ m1 => Ok (f_X9_minds N mm) (fun _ m2 => Rl i m1 m2 ∧ mC_ m2 = mC_ mm ∧ (∀ k, 39 ≤ k → k < 45 → m1.1 k = mx.1 k) ∧ (∀ j, j < 19 → m2.1 1 j = mm.1 1 j))) := by
  obtain ⟨c, t, f, d, k, s⟩ := id h
  obtain ⟨top, held, g1, g2, g3, g4, g5, g6⟩ := d
  refine ok_mono (x_put_d g3 g1 g4 g2) (fun _ m1 hx => ok_mono (m_minds hN g5 g2) (fun _ m2 hm => ?_))
  obtain ⟨x1, x2, x3, x4⟩ := hx
  obtain ⟨y1, y2, y3, y4, y5, y6⟩ := hm
  have kx : ∀ q, q ≠ 24 → (q < 51 ∨ 99 ≤ q) → m1.1 q = mx.1 q := fun q a b => x1.2 q (by omega)
  obtain ⟨c', ec⟩ := c.cong (mx' := m1) (mm' := m2) (fun q a b => kx q (by omega) (by omega)) (fun q _ a b => y1.2 q (by omega)) (y2 3 (by omega)) (y2 4 (by omega)) (y2 5 (by omega)) (y2 7 (by omega))
  refine ⟨⟨c', ?_, ?_, ?_, ?_, ?_⟩, ec, fun q a b => kx q (by omega) (by omega), fun j hj => y4 j (by omega)⟩
  · obtain ⟨n, h1, h2, h3, h4⟩ := t
    refine ⟨n, h1, by rw [kx 1 (by omega) (by omega)]; exact h2, by rw [y2 18 (by omega)]; exact h3, fun j hj => ?_⟩
    rw [kx 2 (by omega) (by omega), y1.2 11 (by omega)]
    exact h4 j hj
  · rw [ec]
    exact f.cong c.ok (fun q a b => kx q (by omega) (by omega)) (fun j a b => y4 j (by omega))
  · refine ⟨(top + 1) % 8, min (held + 1) 8, by omega, by omega, x3, x4, y3, fun j hj => ?_⟩
    rw [ec]
    by_cases h0 : j = 0
    · subst h0
      rw [show ((top + 1) % 8 + 7 - 0) % 8 = top by omega, show min (held + 1) 8 - 1 - 0 = min (held + 1) 8 - 1 by omega]
      refine f.copyv c.ok x2 (fun j hj => ?_)
      rw [y5 j hj, Nat.zero_add]
    · have hj' := g6 (j - 1) (by omega)
      rw [show (top + 7 - (j - 1)) % 8 = ((top + 1) % 8 + 7 - j) % 8 by omega] at hj'
      have hne : ((top + 1) % 8 + 7 - j) % 8 ≠ top := by omega
      have hlt : ((top + 1) % 8 + 7 - j) % 8 < 8 := Nat.mod_lt _ (by omega)
      generalize hw : ((top + 1) % 8 + 7 - j) % 8 = w at *
      have hx' : ∀ q, 51 + 6 * w ≤ q → q < 51 + 6 * w + 6 → m1.1 q = mx.1 q := fun q a b => x1.2 q (by omega)
      obtain ⟨a1, a2, T, U, t1, t2, t3, t4, t5, t6⟩ := hj'
      have sh : ∀ t, t < 19 → m2.1 1 (76 + 19 * (min (held + 1) 8 - 1 - j) + t) = mm.1 1 (76 + 19 * (held - 1 - (j - 1)) + t) := by
        intro t ht
        rw [y6 _ (by omega) t ht]
        by_cases q : held = 8
        · rw [if_pos q]; exact w_eq (by omega)
        · rw [if_neg q]; exact w_eq (by omega)
      refine ⟨?_, xB_cong (fun q a b => hx' q a (by omega)) a2, T, U, t1, t2, by rw [sh _ (by omega)]; exact t3, by rw [sh _ (by omega)]; exact t4, t5, fun g hg => ?_⟩
      · rw [xP_cong (fun q a b => hx' q a (by omega)), a1, mP_shift c.ok.2.1.2 sh]
      · have h7 := c.ok.2.2.1.2
        have := sh (11 + g) (by omega)
        rw [← Nat.add_assoc, ← Nat.add_assoc] at this
        rw [hx' _ (by omega) (by omega), hx' _ (by omega) (by omega), this]
        exact t6 g hg
  · obtain ⟨top', held', e1, e2, e3, e4, e5, e6⟩ := k
    refine ⟨top', held', e1, e2, by rw [kx 26 (by omega) (by omega)]; exact e3, by rw [kx 26 (by omega) (by omega)]; exact e4, by rw [y2 2 (by omega)]; exact e5, fun j hj => ?_⟩
    rw [ec]
    exact (e6 j hj).cong c.ok (fun q a b => kx q (by omega) (by omega)) (fun j a b => y4 j (by omega))
  · obtain ⟨n, h1, h2, h3, h4⟩ := s
    refine ⟨n, h1, by rw [kx 28 (by omega) (by omega)]; exact h2, by rw [y2 13 (by omega)]; exact h3, fun j hj => ?_⟩
    rw [kx 29 (by omega) (by omega), kx 30 (by omega) (by omega), kx 31 (by omega) (by omega), y1.2 8 (by omega), y1.2 9 (by omega), y1.2 10 (by omega), ec]
    exact h4 j hj
/-- the stand of the day itself has changed, and hangs together -/
theorem Rl.main {i : Nat} {mx mm m1 m2 : Mem} (h : Rl i mx mm) (kx : ∀ k, k ≠ 13 → (k < 39 ∨ 45 ≤ k) → m1.1 k = mx.1 k) (km : ∀ k, k ≠ 1 → m2.1 k = mm.1 k) (km1 : ∀ j, 19 ≤ j → m2.1 1 j = mm.1 1 j) (hf : FR (mC_ mm) m1 m2 39 0 (tb (i + 1))) : Rl (i + 1) m1 m2 := by
  obtain ⟨c, t, f, d, k, s⟩ := id h
  obtain ⟨c', ec⟩ := c.cong (mx' := m1) (mm' := m2) (fun q a b => kx q (by omega) (by omega)) (fun q _ a b => km q (by omega)) (by rw [km 0 (by omega)]) (by rw [km 0 (by omega)]) (by rw [km 0 (by omega)]) (by rw [km 0 (by omega)])
  refine ⟨c', ?_, by rw [ec]; exact hf, ?_, ?_, ?_⟩
  · obtain ⟨n, h1, h2, h3, h4⟩ := t
    refine ⟨n, h1, by rw [kx 1 (by omega) (by omega)]; exact h2, by rw [km 0 (by omega)]; exact h3, fun j hj => ?_⟩
    rw [kx 2 (by omega) (by omega), km 11 (by omega)]
    exact h4 j hj
  · obtain ⟨top, held, g1, g2, g3, g4, g5, g6⟩ := d
    refine ⟨top, held, g1, g2, by rw [kx 24 (by omega) (by omega)]; exact g3, by rw [kx 24 (by omega) (by omega)]; exact g4, by rw [km 0 (by omega)]; exact g5, fun j hj => ?_⟩
    rw [ec]
    exact ((g6 j hj).cong c.ok (fun q a b => kx q (by omega) (by omega)) (fun j a b => km1 j (by omega))).wk (tb_le i)
  · obtain ⟨top, held, g1, g2, g3, g4, g5, g6⟩ := k
    refine ⟨top, held, g1, g2, by rw [kx 26 (by omega) (by omega)]; exact g3, by rw [kx 26 (by omega) (by omega)]; exact g4, by rw [km 0 (by omega)]; exact g5, fun j hj => ?_⟩
    rw [ec]
    exact ((g6 j hj).cong c.ok (fun q a b => kx q (by omega) (by omega)) (fun j a b => km1 j (by omega))).wk (tb_le i)
  · obtain ⟨n, h1, h2, h3, h4⟩ := s
    refine ⟨n, h1, by rw [kx 28 (by omega) (by omega)]; exact h2, by rw [km 0 (by omega)]; exact h3, fun j hj => ?_⟩
    rw [kx 29 (by omega) (by omega), kx 30 (by omega) (by omega), kx 31 (by omega) (by omega), km 8 (by omega), km 9 (by omega), km 10 (by omega), ec]
    exact h4 j hj
theorem tb_b {i : Nat} (hi : i ≤ 64) : 99 ≤ tb i ∧ tb i ≤ 1000000 := by unfold tb; omega
theorem FR.ride {mx mm mx' mm' : Mem} {S r c f : Nat} {t : Bool} {B : Int} (hc : RC mx mm) (h : FR (mC_ mm) mx mm S r B) (hB : 99 ≤ B ∧ B ≤ 1000000) (hS : 39 ≤ S) (hcc : c < cN (mC_ mm)) (hff : f < cM (mC_ mm)) (hx : xRide mx mx' S c f t) (hm : mRide mm mm' r c f t) (hfree : mx.1 (S + 4) f = -4) : FR (mC_ mm) mx' mm' S r (B + 123) := by
  have n7 := hc.ok.2.2.1.2
  have eP := FR.P hc h
  have hP := FR.okm hc h
  have hl := a_late_b hc.ok hP hB hcc hff
  have hBx := hx.B hc.2.1 hS h.2.1 hB (by rw [hc.n]; exact hcc) (by rw [hc.m]; exact hff)
  have hPx := hx.P hS (by rw [hc.n]; exact hcc)
  obtain ⟨h1, h2, T, U, t1, t2, t3, t4, t5, t6⟩ := h
  obtain ⟨m0, m1, m2, m3, m4, m5⟩ := id hm
  have hTf : T.testBit f = false := by
    cases hb : T.testBit f with
    | false => rfl
    | true => exact absurd hfree ((t6 f hff).2.1.mp hb)
  have hUf := t5 f hTf
  have bT := (bt_tab T (bt_lt (by omega) t1) f (by omega)).2
  have bU := (bt_tab U (bt_lt (by omega) t2) f (by omega)).2
  refine ⟨?_, hBx, T ||| 2 ^ f, (if t = true then U ||| 2 ^ f else U), bt_or _ (by omega) T t1 f hff, ?_, by rw [m3, t3, bT], ?_, fun g hg => ?_, fun g hg => ?_⟩
  · have e1 : xP (cN (mC_ mm)) mx' S = xPm mx' S := by unfold xPm; rw [hx.C hS, hc.1]
    have e2 : mP (cN (mC_ mm)) mm' r = mPm mm' r := by unfold mPm; rw [hm.C]
    rw [e1, e2, hPx, m2, eP, hc.1]
  · split
    · exact bt_or _ (by omega) U t2 f hff
    · exact t2
  · rw [m4, t4]
    by_cases ht : t = true
    · rw [if_pos ht, if_pos ht, bU]
    · rw [if_neg ht, if_neg ht, Int32.or_zero]
  · rw [bt_set] at hg
    have hg' : T.testBit g = false ∧ decide (g = f) = false := by
      cases h1 : T.testBit g <;> cases h2 : decide (g = f) <;> simp [h1, h2] at hg ⊢
    split
    · rw [bt_set, t5 g hg'.1, hg'.2]; rfl
    · exact t5 g hg'.1
  · obtain ⟨g1, g2, g3⟩ := t6 g hg
    rw [hx.2.2.2.2.1, hx.2.2.2.2.2, m5 g (by omega), hc.1, eP]
    by_cases e : g = f
    · subst e
      rw [upd_s, upd_s, if_pos rfl, bt_set]
      refine ⟨rfl, ?_, ?_⟩
      · have hne : a_late (mC_ mm) (mPm mm r) c g ≠ -4 := fun q => by
          rw [q] at hl
          exact absurd hl.1 (by decide)
        simp [hne]
      · cases t with
        | true => rw [if_pos rfl, bt_set]; simp
        | false => rw [if_neg (by decide), hUf]
    · rw [upd_n e, upd_n e, if_neg e, bt_set]
      refine ⟨g1, by simpa [e] using g2, ?_⟩
      rw [g3]
      cases t with
      | true => rw [if_pos rfl, bt_set]; simp [e]
      | false => rw [if_neg (by decide)]
theorem sim_take {i N : Nat} {mx mm : Mem} (hN : 140 ≤ N) (hi : i ≤ 64) (h : Rl i mx mm) (a b : Int32) : Sim (i + 1) (f_X8_take a b mx) (f_X9_take N a b mm) := by
  obtain ⟨c0, t0, f0, -⟩ := id h
  have n3 := c0.ok.2.1.2
  have n7 := c0.ok.2.2.1.2
  unfold f_X8_take f_X9_take
  refine sim_cab h a (fun ca hca ea => sim_fareq h b (fun fa hfa eb => ?_))
  subst ea eb
  obtain ⟨T, U, t1, t2, t3, t4, t5, t6, t7⟩ := f0.tk hfa
  rw [Nat.zero_add] at t3
  have hf7 : fa < 7 := by omega
  refine sim_eq (x_isTaken hf7) (by rw [t3]; exact m_has (bt_lt (by omega) t1) hf7) ?_
  rw [t5]
  refine sim_b (fun hTf => ?_) (fun _ => sim_same h rfl)
  obtain ⟨r1, m1, z3, r2, m2, w3, h', ec, kx, km⟩ := sim_remember hN h
  refine sim_eq z3 w3 ?_
  obtain ⟨c, t, f, d, k, s⟩ := id h'
  have hca' : ca < cN (mC_ m2) := by rw [ec]; exact hca
  have hfa' : fa < cM (mC_ m2) := by rw [ec]; exact hfa
  have hP := FR.okm c f
  have eP := FR.P c f
  have hfree : m1.1 (39 + 4) fa = -4 := by
    rw [kx _ (by omega) (by omega)]
    rw [hTf] at t5
    have := of_decide_eq_false t5
    exact Decidable.of_not_not this
  unfold Sim
  refine ok_bd (x_drive c.2.1 (by omega) f.2.1 (by rw [c.n]; exact hca') (by rw [c.m]; exact hfa')) (fun r x hx => ok_ck (i_ckz (by omega) (by omega)) (ok_ret ?_))
  obtain ⟨-, hx⟩ := hx
  rw [eP, c.1] at hx
  refine ok_bd (m_ride1 (r := 0) c.2.2.1 hP (by omega) hca' hfa') (fun r m hm => ?_)
  obtain ⟨-, hm⟩ := hm
  rw [show (11 : Int32) + nI fa = nI (11 + fa) from nI_add 11 fa, i_c (by omega), i_c (by omega)]
  have hF := FR.ride c f (tb_b hi) (by omega) hca' hfa' hx hm hfree
  refine ok_ck (i_ckz (by omega) (by omega)) (ok_ret ⟨?_, h'.main (fun q a b => hx.1.2 q (by omega)) (fun q hq => hm.1.2 q hq) (fun j hj => hm.2.1 j (by omega)) (hF.wk (by unfold tb; omega))⟩)
  obtain ⟨-, -, T', U', -, -, -, -, -, t6'⟩ := hF
  have := (t6' fa hfa').1
  rw [Nat.zero_add] at this
  exact this
/-! a cab is sent -/
def a_send (C : Cf) (P : Ps) (c : Nat) (p : Int32) : Ps := (P.1, upd P.2.1 c p, upd P.2.2.1 c (fl_max P.1 (P.2.2.1 c) + dist (cW C) (P.2.1 c) p), P.2.2.2)
def xSend (m m' : Mem) (S c : Nat) (p : Int32) : Prop := eqOff m m' (fun k => k = S + 1 ∨ k = S + 2) ∧ m'.1 (S + 1) = upd (m.1 (S + 1)) c p ∧ m'.1 (S + 2) = upd (m.1 (S + 2)) c (fl_max (m.1 S 0) (m.1 (S + 2) c) + dist (m.1 4 1) (m.1 (S + 1) c) p)
theorem x_move {m : Mem} {S c : Nat} {p : Int32} (hS : 39 ≤ S) (hw : wdt (m.1 4 1)) (hc : c < 3) : Ok (f_X0_move 4 S (nI c) p m) (fun _ m' => xSend m m' S c p) := by
  have hc3 := i_ckz (j := c) (z := 3) (by omega) (by omega)
  unfold f_X0_move
  simp only [Nat.reduceAdd, i_c (show c < 2147483648 by omega)]
  refine ok_ck hc3 (ok_ck hc3 (ok_eq (x_steps hw) (ok_ck hc3 (ok_lm (fun m1 e1 => ok_ck hc3 (ok_lm (fun m2 e2 => ok_ret ⟨⟨by rw [e2, mI_2, e1, mI_2], fun k hk => by rw [e2, mI_ne k (by omega), e1, mI_ne k (by omega)]⟩, ?_, ?_⟩)))))))
  · rw [e2, mI_eq, e1, mI_ne _ (by omega)]
  · rw [e2, mI_ne _ (by omega), e1, mI_eq]
theorem xSend.P {m m' : Mem} {S c : Nat} {p : Int32} (hC : xcOk m) (hS : 39 ≤ S) (hc : c < cN (xC m)) (h : xSend m m' S c p) : xC m' = xC m ∧ xPm m' S = a_send (xC m) (xPm m S) c p := by
  have eC : xC m' = xC m := xC_cong (fun k _ _ => h.1.2 k (by omega))
  refine ⟨eC, ?_⟩
  unfold xPm xP a_send
  rw [eC, h.2.1, h.2.2, h.1.2 S (by omega), h.1.2 (S + 3) (by omega), rs_upd hc, rs_upd hc]
  show _ = (m.1 S 0, upd (rs _ _) c _, upd (rs _ _) c (fl_max (m.1 S 0) (rs _ _ c) + dist _ (rs _ _ c) p), rs _ _)
  rw [rs_lt hc, rs_lt hc]
  rfl
theorem xSend.B {m m' : Mem} {S c : Nat} {p : Int32} {B : Int} (hC : xcOk m) (hb : xB m S B) (hB : 99 ≤ B ∧ B ≤ 1000000) (hp : pl p) (hc : c < 3) (h : xSend m m' S c p) : xB m' S (B + 40) := by
  obtain ⟨⟨b1, b2⟩, b3⟩ := hb
  obtain ⟨p1, p2, p3⟩ := b3 c hc
  have hd := (dist_all (w := m.1 4 1) hC.1.1 p1 hp).1
  have hm := i_max (m.1 S 0) (m.1 (S + 2) c)
  have ha := i_add (x := fl_max (m.1 S 0) (m.1 (S + 2) c)) (y := dist (m.1 4 1) (m.1 (S + 1) c) p) (by omega) (by omega)
  refine ⟨by rw [h.1.2 S (by omega)]; omega, fun d hd' => ?_⟩
  rw [h.2.1, h.2.2, h.1.2 (S + 3) (by omega)]
  obtain ⟨q1, q2, q3⟩ := b3 d hd'
  by_cases e : d = c
  · subst e
    rw [upd_s, upd_s]
    exact ⟨hp, by omega, q3⟩
  · rw [upd_n e, upd_n e]
    exact ⟨q1, by omega, q3⟩
def mSend (m m' : Mem) (r c : Nat) (p : Int32) : Prop := eqOff m m' (fun k => k = 1) ∧ ∀ j, m'.1 1 j = if j = r + 1 + c then p else if j = r + 4 + c then fl_max (m.1 1 r) (m.1 1 (r + 4 + c)) + dist (m.1 0 4) (m.1 1 (r + 1 + c)) p else m.1 1 j
theorem m_sends {m : Mem} {r c : Nat} {p : Int32} (hw : wdt (m.1 0 4)) (hr : r + 19 ≤ 380) (hc : c < 3) : Ok (f_X9_sends (nI r) (nI c) p m) (fun _ m' => mSend m m' r c p) := by
  unfold f_X9_sends
  rw [show (1 : Int32) = nI 1 from rfl, show (4 : Int32) = nI 4 from rfl, ix2, ix2, i_c (by omega), i_c (by omega)]
  refine ok_eq (m_setsOut hr hc) (ok_ck (i_ckz (by omega) (by omega)) (ok_eq (m_farOf hw) (ok_ck (i_ckz (by omega) (by omega)) (ok_lm (fun m1 e1 => ok_ck (i_ckz (by omega) (by omega)) (ok_lm (fun m2 e2 => ok_ret ⟨⟨by rw [e2, mI_2, e1, mI_2], fun k hk => by rw [e2, mI_ne k hk, e1, mI_ne k hk]⟩, fun j => ?_⟩)))))))
  rw [e2, mI_g, if_pos rfl]
  by_cases q : j = r + 1 + c
  · rw [if_pos q, if_pos q]
  · rw [if_neg q, if_neg q, e1, mI_g, if_pos rfl]
theorem mSend.P {m m' : Mem} {r c : Nat} {p : Int32} (hC : mcOk m) (hc : c < cN (mC_ m)) (h : mSend m m' r c p) : mC_ m' = mC_ m ∧ mPm m' r = a_send (mC_ m) (mPm m r) c p := by
  have n3 := hC.1.2.1.2
  have eC : mC_ m' = mC_ m := mC_cong (fun k hk _ => h.1.2 k hk)
  refine ⟨eC, ?_⟩
  have ea : a_send (mC_ m) (mPm m r) c p = (m.1 1 r, upd (rs (cN (mC_ m)) (fun d => m.1 1 (r + 1 + d))) c p, upd (rs (cN (mC_ m)) (fun d => m.1 1 (r + 4 + d))) c (fl_max (m.1 1 r) (m.1 1 (r + 4 + c)) + dist (m.1 0 4) (m.1 1 (r + 1 + c)) p), rs (cN (mC_ m)) (fun d => m.1 1 (r + 7 + d))) := by
    unfold a_send
    rw [mp_1 hc, mp_2 hc]
    rfl
  rw [ea]
  show mP (cN (mC_ m')) m' r = _
  unfold mP
  rw [eC, h.2 r, if_neg (by omega), if_neg (by omega)]
  rw [rs_w (g := fun d => m.1 1 (r + 1 + d)) (g' := fun d => m'.1 1 (r + 1 + d)) (v := p) hc (by rw [h.2, if_pos rfl]) (fun d hd hdc => by rw [h.2, if_neg (by omega), if_neg (by omega)])]
  rw [rs_w (g := fun d => m.1 1 (r + 4 + d)) (g' := fun d => m'.1 1 (r + 4 + d)) (v := fl_max (m.1 1 r) (m.1 1 (r + 4 + c)) + dist (m.1 0 4) (m.1 1 (r + 1 + c)) p) hc (by rw [h.2, if_neg (by omega), if_pos rfl]) (fun d hd hdc => by rw [h.2, if_neg (by omega), if_neg (by omega)])]
  rw [rs_cong (n := cN (mC_ m)) (g := fun d => m'.1 1 (r + 7 + d)) (g' := fun d => m.1 1 (r + 7 + d)) (fun d hd => by rw [h.2, if_neg (by omega), if_neg (by omega)])]
theorem sim_send {i N : Nat} {mx mm : Mem} (hN : 140 ≤ N) (hi : i ≤ 64) (h : Rl i mx mm) (a b : Int32) : Sim (i + 1) (f_X8_send a b mx) (f_X9_send N a b mm) := by
  obtain ⟨c0, t0, f0, -⟩ := id h
  have n3 := c0.ok.2.1.2
  have n7 := c0.ok.2.2.1.2
  unfold f_X8_send f_X9_send
  refine sim_cab h a (fun ca hca ea => sim_placeq h b (fun p hp eb => ?_))
  subst ea
  have hpl : pl b := by
    have hb := nPl_b (r := mm.1 0 3) (c := mm.1 0 4) (by rw [← c0.2.2.2.2]; exact c0.2.2.2.1) c0.ok.1
    rw [eb]
    unfold pl
    rw [nI_toInt (by omega)]
    omega
  obtain ⟨r1, m1, z3, r2, m2, w3, h', ec, kx, km⟩ := sim_remember hN h
  refine sim_eq z3 w3 ?_
  obtain ⟨c, t, f, d, k, s⟩ := id h'
  have hca' : ca < cN (mC_ m2) := by rw [ec]; exact hca
  have eP := FR.P c f
  unfold Sim
  refine ok_bd (x_move (by omega) c.ww (by omega)) (fun r x hx => ok_ck (i_ckz (by omega) (by omega)) (ok_ret ?_))
  refine ok_bd (m_sends (r := 0) c.ok.1 (by omega) (by omega)) (fun r m hm => ?_)
  rw [show (4 : Int32) + nI ca = nI (4 + ca) from nI_add 4 ca, i_c (by omega), i_c (by omega)]
  have hBx := hx.B c.2.1 f.2.1 (tb_b hi) hpl (by omega)
  obtain ⟨eCx, ePx⟩ := hx.P c.2.1 (by omega) (by rw [c.n]; exact hca')
  obtain ⟨eCm, ePm⟩ := hm.P c.2.2.1 hca'
  have hF : FR (mC_ m2) x m 39 0 (tb (i + 1)) := by
    obtain ⟨h1, h2, T, U, t1, t2, t3, t4, t5, t6⟩ := f
    refine ⟨?_, hBx.wk (by unfold tb; omega), T, U, t1, t2, ?_, ?_, t5, fun g hg => ?_⟩
    · have e1 : xP (cN (mC_ m2)) x 39 = xPm x 39 := by unfold xPm; rw [eCx, c.1]
      have e2 : mP (cN (mC_ m2)) m 0 = mPm m 0 := by unfold mPm; rw [eCm]
      rw [e1, e2, ePx, ePm, eP, c.1]
    · rw [hm.2, if_neg (by omega), if_neg (by omega)]; exact t3
    · rw [hm.2, if_neg (by omega), if_neg (by omega)]; exact t4
    · rw [hx.1.2 _ (by omega), hx.1.2 _ (by omega), hm.2, if_neg (by omega), if_neg (by omega)]
      exact t6 g hg
  refine ok_ck (i_ckz (by omega) (by omega)) (ok_ret ⟨?_, h'.main (fun q a b => hx.1.2 q (by omega)) (fun q hq => hm.1.2 q hq) (fun j hj => by rw [hm.2, if_neg (by omega), if_neg (by omega)]) hF⟩)
  have := hF.p2 hca'
  rw [Nat.zero_add] at this
  exact this
theorem sim_pass {i N : Nat} {mx mm : Mem} (hN : 140 ≤ N) (hi : i ≤ 64) (h : Rl i mx mm) (a : Int32) : Sim (i + 1) (f_X8_pass a mx) (f_X9_pass N a mm) := by
  unfold f_X8_pass f_X9_pass
  refine sim_rngq h a rfl rfl (fun ha1 ha2 => ?_)
  have ha1 : 1 ≤ a.toInt := ha1
  have ha2 : a.toInt ≤ 60 := ha2
  obtain ⟨r1, m1, z3, r2, m2, w3, h', ec, kx, km⟩ := sim_remember hN h
  refine sim_eq z3 w3 ?_
  obtain ⟨c, t, f, d, k, s⟩ := id h'
  have hb := tb_b hi
  unfold Sim
  refine ok_lm (fun x ex => ok_ret (ok_lm (fun m em => ok_ret ?_)))
  have e0 : x.1 39 0 = m.1 1 0 := by rw [ex, mI_s, em, mI_s, f.p0]
  refine ⟨e0, h'.main (fun q a b => by rw [ex, mI_ne q (by omega)]) (fun q hq => by rw [em, mI_ne q hq]) (fun j hj => by rw [em, mI_j (by omega)]) ?_⟩
  obtain ⟨h1, ⟨⟨h21, h22⟩, h2⟩, T, U, t1, t2, t3, t4, t5, t6⟩ := id f
  have hs := i_add (x := m1.1 39 0) (y := a) (by omega) (by omega)
  have kx : ∀ q, q ≠ 39 → x.1 q = m1.1 q := fun q hq => by rw [ex, mI_ne q hq]
  have km : ∀ j, j ≠ 0 → m.1 1 j = m2.1 1 j := fun j hj => by rw [em, mI_j hj]
  refine ⟨?_, ⟨?_, fun d hd => ?_⟩, T, U, t1, t2, by rw [km _ (by omega)]; exact t3, by rw [km _ (by omega)]; exact t4, t5, fun g hg => ?_⟩
  · unfold xP mP
    rw [e0, kx _ (by omega), kx _ (by omega), kx _ (by omega)]
    have g1 : rs (cN (mC_ m2)) (m1.1 (39 + 1)) = rs (cN (mC_ m2)) (fun d => m.1 1 (0 + 1 + d)) := rs_cong (fun d hd => by rw [km _ (by omega)]; exact f.p1 hd)
    have g2 : rs (cN (mC_ m2)) (m1.1 (39 + 2)) = rs (cN (mC_ m2)) (fun d => m.1 1 (0 + 4 + d)) := rs_cong (fun d hd => by rw [km _ (by omega)]; exact f.p2 hd)
    have g3 : rs (cN (mC_ m2)) (m1.1 (39 + 3)) = rs (cN (mC_ m2)) (fun d => m.1 1 (0 + 7 + d)) := rs_cong (fun d hd => by rw [km _ (by omega)]; exact f.p3 hd)
    rw [g1, g2, g3]
  · rw [ex, mI_s]; unfold tb at *; omega
  · rw [kx _ (by omega), kx _ (by omega), kx _ (by omega)]
    obtain ⟨q1, q2, q3⟩ := h2 d hd
    exact ⟨q1, by unfold tb at *; omega, q3⟩
  · rw [kx _ (by omega), kx _ (by omega), km _ (by omega)]
    exact t6 g hg
theorem sim_undo {i N : Nat} {mx mm : Mem} (hN : 140 ≤ N) (h : Rl i mx mm) : Sim (i + 1) (f_X8_undo mx) (f_X9_undo N mm) := by
  obtain ⟨c, t, f, d, k, s⟩ := id h
  obtain ⟨top, held, g1, g2, g3, g4, g5, g6⟩ := d
  unfold Sim f_X8_undo f_X9_undo
  by_cases h0 : held = 0
  · have e1 : f_X4_giveBack_d 39 mx = some (0, mx) := by
      unfold f_X4_giveBack_d
      rw [g4, h0]
      rfl
    refine ok_eq e1 (ok_t rfl (ok_ret ?_))
    rw [g5, h0]
    exact ok_t rfl (ok_ret ⟨rfl, h.same⟩)
  have hpos : 0 < held := by omega
  refine ok_bd (x_give_d g3 g1 g4 g2 hpos) (fun r m1 hx => ?_)
  obtain ⟨rfl, x1, x2, x3, x4⟩ := hx
  refine ok_f (by decide) (ok_ret ?_)
  rw [g5]
  refine ok_f (nI_ne0 hpos (by omega)) (ok_lm (fun m2 e2 => ?_))
  have u2 : m2.1 0 1 = nI (held - 1) := by
    rw [e2, mI_s]
    obtain ⟨d, rfl⟩ : ∃ d, held = d + 1 := ⟨held - 1, by omega⟩
    exact nI_pred d
  rw [u2, show (76 : Int32) = nI 76 from rfl, mul19]
  refine ok_bd (m_copy (a := 76 + 19 * (held - 1)) (b := 0) (by omega) (by omega) (by omega) (by omega)) (fun _ m3 h3 => ok_ret ?_)
  have z0 : m3.1 0 = m2.1 0 := h3.1.2 0 (by omega)
  have km0 : ∀ j, j ≠ 1 → m3.1 0 j = mm.1 0 j := fun j hj => by rw [z0, e2, mI_j hj]
  have km : ∀ q, q ≠ 0 → q ≠ 1 → m3.1 q = mm.1 q := fun q a b => by rw [h3.1.2 q b, e2, mI_ne q a]
  have km1 : ∀ j, 19 ≤ j → m3.1 1 j = mm.1 1 j := fun j hj => by rw [h3.o (by omega), e2, mI_ne 1 (by omega)]
  have kx : ∀ q, q ≠ 24 → (q < 39 ∨ 45 ≤ q) → m1.1 q = mx.1 q := fun q a b => x1.2 q (by omega)
  obtain ⟨c', ec⟩ := c.cong (mx' := m1) (mm' := m3) (fun q a b => kx q (by omega) (by omega)) (fun q a b d => km q (by omega) a) (km0 3 (by omega)) (km0 4 (by omega)) (km0 5 (by omega)) (km0 7 (by omega))
  have hlt : (top + 8 - 1) % 8 < 8 := Nat.mod_lt _ (by omega)
  refine ⟨by rw [x4, z0, u2], c', ?_, ?_, ?_, ?_, ?_⟩
  · obtain ⟨n, h1, h2, h3', h4⟩ := t
    refine ⟨n, h1, by rw [kx 1 (by omega) (by omega)]; exact h2, by rw [km0 18 (by omega)]; exact h3', fun j hj => ?_⟩
    rw [kx 2 (by omega) (by omega), km 11 (by omega) (by omega)]
    exact h4 j hj
  · rw [ec]
    have := g6 0 hpos
    rw [show (top + 7 - 0) % 8 = (top + 8 - 1) % 8 by omega, show held - 1 - 0 = held - 1 by omega] at this
    refine (this.copyv c.ok x2 (fun j hj => ?_)).wk (tb_le i)
    have hi := h3.i hj
    rw [hi, e2, mI_ne 1 (by omega)]
  · refine ⟨(top + 8 - 1) % 8, held - 1, hlt, by omega, x3, x4, by rw [z0, u2], fun j hj => ?_⟩
    rw [ec]
    have := g6 (j + 1) (by omega)
    rw [show (top + 7 - (j + 1)) % 8 = ((top + 8 - 1) % 8 + 7 - j) % 8 by omega, show held - 1 - (j + 1) = held - 1 - 1 - j by omega] at this
    have hlt2 : ((top + 8 - 1) % 8 + 7 - j) % 8 < 8 := Nat.mod_lt _ (by omega)
    exact (this.cong c.ok (fun q a b => kx q (by omega) (by omega)) (fun j a b => km1 j (by omega))).wk (tb_le i)
  · obtain ⟨top', held', e1, e2', e3, e4, e5, e6⟩ := k
    refine ⟨top', held', e1, e2', by rw [kx 26 (by omega) (by omega)]; exact e3, by rw [kx 26 (by omega) (by omega)]; exact e4, by rw [km0 2 (by omega)]; exact e5, fun j hj => ?_⟩
    rw [ec]
    have hlt2 : (top' + 1 - j) % 2 < 2 := Nat.mod_lt _ (by omega)
    exact ((e6 j hj).cong c.ok (fun q a b => kx q (by omega) (by omega)) (fun j a b => km1 j (by omega))).wk (tb_le i)
  · obtain ⟨n, h1, h2, h3', h4⟩ := s
    refine ⟨n, h1, by rw [kx 28 (by omega) (by omega)]; exact h2, by rw [km0 13 (by omega)]; exact h3', fun j hj => ?_⟩
    rw [kx 29 (by omega) (by omega), kx 30 (by omega) (by omega), kx 31 (by omega) (by omega), km 8 (by omega) (by omega), km 9 (by omega) (by omega), km 10 (by omega) (by omega), ec]
    exact h4 j hj
theorem sim_keep {i N : Nat} {mx mm : Mem} (hN : 140 ≤ N) (h : Rl i mx mm) : Sim (i + 1) (f_X8_keep mx) (f_X9_keep N mm) := by
  obtain ⟨c, t, f, d, k, s⟩ := id h
  obtain ⟨top, held, g1, g2, g3, g4, g5, g6⟩ := k
  unfold f_X8_keep f_X9_keep
  rw [g4, g5]
  refine sim_if (fun _ => sim_same h rfl) (fun hne => ?_)
  have hlt : held < 2 := by
    rcases Nat.lt_or_ge held 2 with z | z
    · exact z
    · exact absurd (by rw [show held = 2 by omega]; rfl) hne
  unfold Sim
  refine ok_bd (x_put_k g3 g1 g4 g2) (fun _ m1 hx => ok_ret ?_)
  obtain ⟨x1, x2, x3, x4⟩ := hx
  rw [show (38 : Int32) = nI 38 from rfl, mul19]
  refine ok_bd (m_copy (a := 0) (b := 38 + 19 * held) (by omega) (by omega) (by omega) (by omega)) (fun _ m3 h3 => ok_lm (fun m4 e4 => ok_ret ?_))
  have z0 : m3.1 0 = mm.1 0 := h3.1.2 0 (by omega)
  have u4 : m4.1 0 2 = nI (held + 1) := by rw [e4, mI_s, z0, g5, nI_1]
  have km0 : ∀ j, j ≠ 2 → m4.1 0 j = mm.1 0 j := fun j hj => by rw [e4, mI_j hj, z0]
  have km : ∀ q, q ≠ 0 → q ≠ 1 → m4.1 q = mm.1 q := fun q a b => by rw [e4, mI_ne q a, h3.1.2 q b]
  have km1 : ∀ j, (j < 38 + 19 * held ∨ 38 + 19 * held + 19 ≤ j) → m4.1 1 j = mm.1 1 j := fun j hj => by rw [e4, mI_ne 1 (by omega), h3.o hj]
  have kx : ∀ q, q ≠ 26 → (q < 99 + 6 * top ∨ 99 + 6 * top + 6 ≤ q) → m1.1 q = mx.1 q := fun q a b => x1.2 q (by omega)
  obtain ⟨c', ec⟩ := c.cong (mx' := m1) (mm' := m4) (fun q a b => kx q (by omega) (by omega)) (fun q a b d => km q (by omega) a) (km0 3 (by omega)) (km0 4 (by omega)) (km0 5 (by omega)) (km0 7 (by omega))
  refine ⟨by rw [x4, u4, Nat.min_eq_left (by omega)], c', ?_, ?_, ?_, ?_, ?_⟩
  · obtain ⟨n, h1, h2, h3', h4⟩ := t
    refine ⟨n, h1, by rw [kx 1 (by omega) (by omega)]; exact h2, by rw [km0 18 (by omega)]; exact h3', fun j hj => ?_⟩
    rw [kx 2 (by omega) (by omega), km 11 (by omega) (by omega)]
    exact h4 j hj
  · rw [ec]
    exact (f.cong c.ok (fun q a b => kx q (by omega) (by omega)) (fun j a b => km1 j (by omega))).wk (tb_le i)
  · obtain ⟨top', held', e1, e2', e3, e4', e5, e6⟩ := d
    refine ⟨top', held', e1, e2', by rw [kx 24 (by omega) (by omega)]; exact e3, by rw [kx 24 (by omega) (by omega)]; exact e4', by rw [km0 1 (by omega)]; exact e5, fun j hj => ?_⟩
    rw [ec]
    have hlt2 : (top' + 7 - j) % 8 < 8 := Nat.mod_lt _ (by omega)
    exact ((e6 j hj).cong c.ok (fun q a b => kx q (by omega) (by omega)) (fun j a b => km1 j (by omega))).wk (tb_le i)
  · refine ⟨(top + 1) % 2, held + 1, by omega, by omega, x3, by rw [x4, Nat.min_eq_left (by omega)], u4, fun j hj => ?_⟩
    rw [ec]
    by_cases h0 : j = 0
    · subst h0
      rw [show ((top + 1) % 2 + 1 - 0) % 2 = top by omega, show held + 1 - 1 - 0 = held by omega]
      refine (f.copyv c.ok x2 (fun j hj => ?_)).wk (tb_le i)
      rw [e4, mI_ne 1 (by omega), h3.i hj]
    · have hj' := g6 (j - 1) (by omega)
      have : j = 1 := by omega
      subst this
      rw [show (top + 1 - (1 - 1)) % 2 = ((top + 1) % 2 + 1 - 1) % 2 by omega, show held - 1 - (1 - 1) = held + 1 - 1 - 1 by omega] at hj'
      have hne : ((top + 1) % 2 + 1 - 1) % 2 ≠ top := by omega
      have hlt2 : ((top + 1) % 2 + 1 - 1) % 2 < 2 := Nat.mod_lt _ (by omega)
      exact (hj'.cong c.ok (fun q a b => kx q (by omega) (by omega)) (fun j a b => km1 j (by omega))).wk (tb_le i)
  · obtain ⟨n, h1, h2, h3', h4⟩ := s
    refine ⟨n, h1, by rw [kx 28 (by omega) (by omega)]; exact h2, by rw [km0 13 (by omega)]; exact h3', fun j hj => ?_⟩
    rw [kx 29 (by omega) (by omega), kx 30 (by omega) (by omega), kx 31 (by omega) (by omega), km 8 (by omega) (by omega), km 9 (by omega) (by omega), km 10 (by omega) (by omega), ec]
    exact h4 j hj
theorem sim_back {i N : Nat} {mx mm : Mem} (hN : 140 ≤ N) (h : Rl i mx mm) : Sim (i + 1) (f_X8_back mx) (f_X9_back N mm) := by
  obtain ⟨c, t, f, d, k, s⟩ := id h
  obtain ⟨top, held, g1, g2, g3, g4, g5, g6⟩ := k
  unfold Sim f_X8_back f_X9_back
  by_cases h0 : held = 0
  · have e1 : f_X4_giveBack_k 39 mx = some (0, mx) := by
      unfold f_X4_giveBack_k
      rw [g4, h0]
      rfl
    refine ok_eq e1 (ok_t rfl (ok_ret ?_))
    rw [g5, h0]
    exact ok_t rfl (ok_ret ⟨rfl, h.same⟩)
  have hpos : 0 < held := by omega
  refine ok_bd (x_give_k g3 g1 g4 g2 hpos) (fun r m1 hx => ?_)
  obtain ⟨rfl, x1, x2, x3, x4⟩ := hx
  refine ok_f (by decide) (ok_lm (fun m5 e5 => ok_ret ?_))
  rw [g5]
  refine ok_f (nI_ne0 hpos (by omega)) (ok_lm (fun m2 e2 => ?_))
  have u2 : m2.1 0 2 = nI (held - 1) := by
    rw [e2, mI_s]
    obtain ⟨d, rfl⟩ : ∃ d, held = d + 1 := ⟨held - 1, by omega⟩
    exact nI_pred d
  rw [u2, show (38 : Int32) = nI 38 from rfl, mul19]
  refine ok_bd (m_copy (a := 38 + 19 * (held - 1)) (b := 0) (by omega) (by omega) (by omega) (by omega)) (fun _ m3 h3 => ok_lm (fun m4 e4 => ok_ret ?_))
  have z0 : m3.1 0 = m2.1 0 := h3.1.2 0 (by omega)
  have km0 : ∀ j, j ≠ 1 → j ≠ 2 → m4.1 0 j = mm.1 0 j := fun j hj hj2 => by rw [e4, mI_j hj, z0, e2, mI_j hj2]
  have u4 : m4.1 0 2 = nI (held - 1) := by rw [e4, mI_j (by omega), z0, u2]
  have km : ∀ q, q ≠ 0 → q ≠ 1 → m4.1 q = mm.1 q := fun q a b => by rw [e4, mI_ne q a, h3.1.2 q b, e2, mI_ne q a]
  have km1 : ∀ j, 19 ≤ j → m4.1 1 j = mm.1 1 j := fun j hj => by rw [e4, mI_ne 1 (by omega), h3.o (by omega), e2, mI_ne 1 (by omega)]
  have kx : ∀ q, q ≠ 24 → q ≠ 26 → (q < 39 ∨ 45 ≤ q) → m5.1 q = mx.1 q := fun q a b d => by rw [e5, mI_ne q a, x1.2 q (by omega)]
  have kx5 : ∀ q, q ≠ 24 → m5.1 q = m1.1 q := fun q a => by rw [e5, mI_ne q a]
  have x24 : m5.1 24 1 = mx.1 24 1 := by rw [e5, mI_j (by omega), x1.2 24 (by omega)]
  obtain ⟨c', ec⟩ := c.cong (mx' := m5) (mm' := m4) (fun q a b => kx q (by omega) (by omega) (by omega)) (fun q a b d => km q (by omega) a) (km0 3 (by omega) (by omega)) (km0 4 (by omega) (by omega)) (km0 5 (by omega) (by omega)) (km0 7 (by omega) (by omega))
  have hlt : (top + 2 - 1) % 2 < 2 := Nat.mod_lt _ (by omega)
  have xv : cpv mx m5 39 (99 + 6 * ((top + 2 - 1) % 2)) := by
    obtain ⟨a, b, d⟩ := x2
    refine ⟨by rw [kx5 _ (by omega)]; exact a, fun q hq => ?_, fun q hq => ?_⟩
    · rw [kx5 _ (by omega), kx5 _ (by omega), kx5 _ (by omega)]; exact b q hq
    · rw [kx5 _ (by omega), kx5 _ (by omega)]; exact d q hq
  refine ⟨by rw [kx5 26 (by omega), x4, u4], c', ?_, ?_, ?_, ?_, ?_⟩
  · obtain ⟨n, h1, h2, h3', h4⟩ := t
    refine ⟨n, h1, by rw [kx 1 (by omega) (by omega) (by omega)]; exact h2, by rw [km0 18 (by omega) (by omega)]; exact h3', fun j hj => ?_⟩
    rw [kx 2 (by omega) (by omega) (by omega), km 11 (by omega) (by omega)]
    exact h4 j hj
  · rw [ec]
    have := g6 0 hpos
    rw [show (top + 1 - 0) % 2 = (top + 2 - 1) % 2 by omega, show held - 1 - 0 = held - 1 by omega] at this
    refine (this.copyv c.ok xv (fun j hj => ?_)).wk (tb_le i)
    rw [e4, mI_ne 1 (by omega), h3.i hj, e2, mI_ne 1 (by omega)]
  · obtain ⟨top', held', e1, e2', e3, e4', e5', e6⟩ := d
    exact ⟨top', 0, e1, by omega, by rw [x24]; exact e3, by rw [e5, mI_s]; rfl, by rw [e4, mI_s]; rfl, fun j hj => by omega⟩
  · refine ⟨(top + 2 - 1) % 2, held - 1, hlt, by omega, by rw [kx5 26 (by omega)]; exact x3, by rw [kx5 26 (by omega)]; exact x4, u4, fun j hj => ?_⟩
    rw [ec]
    have := g6 (j + 1) (by omega)
    rw [show (top + 1 - (j + 1)) % 2 = ((top + 2 - 1) % 2 + 1 - j) % 2 by omega, show held - 1 - (j + 1) = held - 1 - 1 - j by omega] at this
    have hlt2 : ((top + 2 - 1) % 2 + 1 - j) % 2 < 2 := Nat.mod_lt _ (by omega)
    exact (this.cong c.ok (fun q a b => kx q (by omega) (by omega) (by omega)) (fun j a b => km1 j (by omega))).wk (tb_le i)
  · obtain ⟨n, h1, h2, h3', h4⟩ := s
    refine ⟨n, h1, by rw [kx 28 (by omega) (by omega) (by omega)]; exact h2, by rw [km0 13 (by omega) (by omega)]; exact h3', fun j hj => ?_⟩
    rw [kx 29 (by omega) (by omega) (by omega), kx 30 (by omega) (by omega) (by omega), kx 31 (by omega) (by omega) (by omega), km 8 (by omega) (by omega), km 9 (by omega) (by omega), km 10 (by omega) (by omega), ec]
    exact h4 j hj
