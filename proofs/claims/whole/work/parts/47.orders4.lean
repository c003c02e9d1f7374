theorem girls_l {N T : Nat} {m : Mem} (hC : xcOk m) (hT : ∀ g, g < cM (xC m) → decide (m.1 43 g ≠ -4) = T.testBit g) : ∀ (k n j s : Nat), j + k = cM (xC m) → k < n → s = cnt (fun f => !T.testBit f && decide (qK (xC m) f = 1)) j → l_X2_search N 4 39 n (nI s) (nI j) m = fl_bd (f_X2_extend N 10 4 (0 : Int32) (nI (gl (xC m) T)) m) (fun _ m13 => some ((0 : Int32), m13)) := by
  have n7 := hC.1.2.2.1
  intro k
  induction k with
  | zero =>
    intro n j s hj hn hs
    obtain ⟨n, rfl⟩ : ∃ q, n = q + 1 := ⟨n - 1, by omega⟩
    show B_X2_search_34 N 4 39 (l_X2_search N 4 39 n) (nI s) (nI j) m = _
    unfold B_X2_search_34
    have : j = cM (xC m) := by omega
    subst this
    rw [xc_m hC, if_pos (Int32.le_refl _), hs]
    rfl
  | succ k ih =>
    intro n j s hj hn hs
    obtain ⟨n, rfl⟩ : ∃ q, n = q + 1 := ⟨n - 1, by omega⟩
    have hj7 : j < cM (xC m) := by omega
    show B_X2_search_34 N 4 39 (l_X2_search N 4 39 n) (nI s) (nI j) m = _
    unfold B_X2_search_34 J_X2_search_68
    rw [xc_m hC, if_neg (nI_ge hj7 (by omega)), fl_ck_t (i_ckz (by omega) (by omega)), i_c (by omega), ← xc_qK hj7, nI_1 j, x_isTaken (S := 39) (by omega), fl_bd_s, hT j hj7]
    simp only [fl_li]
    have hc := cnt_s (fun f => !T.testBit f && decide (qK (xC m) f = 1)) j
    rw [← hs] at hc
    have same : (!T.testBit j && decide (qK (xC m) j = 1)) = false → l_X2_search N 4 39 n (nI s + 0) (nI (j + 1)) m = fl_bd (f_X2_extend N 10 4 (0 : Int32) (nI (gl (xC m) T)) m) (fun _ m13 => some ((0 : Int32), m13)) := fun h => by
      rw [h, if_neg (by decide), Nat.add_zero] at hc
      rw [show nI s + (0 : Int32) = nI s from Int32.add_zero _]
      exact ih n (j + 1) s (by omega) (by omega) hc.symm
    by_cases hk : qK (xC m) j = 1
    · rw [if_pos hk]
      cases hb : T.testBit j with
      | true => rw [if_neg (show ¬ b2i true = 0 by decide)]; exact same (by simp [hb])
      | false =>
        rw [if_pos (show b2i false = 0 from rfl), nI_1 s]
        refine ih n (j + 1) (s + 1) (by omega) (by omega) ?_
        rw [hc, if_pos (by simp [hb, hk])]
    · rw [if_neg hk]; exact same (by simp [hk])
theorem cst_7 : ∀ r, r < 8 → cst r ≤ 200000000 := by decide
theorem sim_order {i N : Nat} {mx mm : Mem} (hN : 300000000 ≤ N) (hi : i ≤ 64) (h : Rl i mx mm) (a : Int32) : Sim (i + 1) (f_X8_order N a mx) (f_X9_order N a mm) := by
  obtain ⟨c, t, f, -⟩ := id h
  have hok := c.ok
  have n3 := hok.2.1
  have n7 := hok.2.2.1
  obtain ⟨T, hT, h10, hg⟩ := f.mask
  rw [Nat.zero_add] at h10
  have hT8 := bt_lt (by omega) hT
  obtain ⟨r, hr⟩ : ∃ r, r = unt (mC_ mm) T := ⟨_, rfl⟩
  have hr7 : r ≤ 7 := by have := cnt_le (fun f => !T.testBit f) (cM (mC_ mm)); unfold unt at hr; omega
  unfold f_X8_order f_X9_order
  refine sim_rngq h a rfl rfl (fun a1 a2 => ?_)
  -- the class
  have X : Ok (f_X2_search N 4 39 mx) (fun _ m' => (∀ k, k ≠ 13 → k ≠ 32 → k ≠ 34 → k ≠ 35 → k < 111 → m'.1 k = mx.1 k) ∧ m'.1 32 3 = nI r ∧ ∃ (b0 : Nat → Int32) (t0 : Nat → Int32), Bx r (Sx (mC_ mm) r (mPm mm 0) T 0 0 t0 (r + 1, b0)) m') := by
    unfold f_X2_search
    refine ok_bd (x_copy (by omega)) (fun _ m2 h2 => ?_)
    have c2 : ∀ k, k < 111 → m2.1 k = mx.1 k := fun k hk => h2.1.2 k (by omega)
    have eC2 : xC m2 = mC_ mm := (xC_cong (fun k _ _ => c2 k (by omega))).trans c.1
    have hC2 : xcOk m2 := xcOk_cong (fun k _ _ => c2 k (by omega)) c.2.1
    refine ok_eq (x_restOf (N := N) (S := 39) (T := T) (by omega) hC2 (fun g hgg => by rw [c2 43 (by omega)]; exact hg g (by rw [← eC2]; exact hgg))) (ok_lm (fun m7 e7 => ok_lm (fun m9 e9 => ?_)))
    have o9 : ∀ k, k ≠ 32 → m9.1 k = m2.1 k := fun k hk => by rw [e9, mI_ne k hk, e7, mI_ne k hk]
    have eC9 : xC m9 = mC_ mm := (xC_cong (fun k _ _ => o9 k (by omega))).trans eC2
    have hC9 : xcOk m9 := xcOk_cong (fun k _ _ => o9 k (by omega)) hC2
    have e33 : m9.1 32 3 = nI r := by
      rw [e9, mI_j (by omega), e7, mI_s, eC2, hr]; rfl
    have e34 : m9.1 32 4 = nI (r + 1) := by
      rw [e9, mI_s, e7, mI_s, eC2, ← show unt (mC_ mm) T = cnt (fun f => !T.testBit f) (cM (mC_ mm)) from rfl, ← hr]
      exact nI_1 r
    have hl := girls_l (N := N) (T := T) hC9 (fun g hgg => by rw [o9 43 (by omega), c2 43 (by omega)]; exact hg g (by rw [← eC9]; exact hgg)) (cM (xC m9)) N 0 0 (by omega) (by rw [eC9]; omega) rfl
    refine ok_x (show l_X2_search N 4 39 N 0 0 m9 = _ from hl) ?_
    have hE := x_ext (N := N) (r := r) (C := mC_ mm) (B := tb i) (by omega) (by unfold tb; omega) hr7 r 10 0 T 0 (mPm mm 0) (m9.1 34) (r + 1, m9.1 35) m9 (by omega) (by omega) hr.symm (by omega) (by show r + 1 < 2147483648; omega) ⟨eC9, hC9, ?_, ?_, fun g hgg => ?_, fun i hi => absurd hi (Nat.not_lt_zero i)⟩ e33 ⟨e34, fun _ _ => rfl⟩
    · rw [Nat.zero_add, ← eC9] at hE
      refine ok_bd hE (fun _ m' hq => ok_ret ⟨fun k x1 x2 x3 x4 x5 => ?_, ?_, m9.1 35, m9.1 34, ?_⟩)
      · rw [hq.1.1.2 k (by omega), o9 k x2, c2 k x5]
      · rw [hq.1.2.2 3 (by omega)]; exact e33
      · rw [← eC9]; exact hq.2
    · unfold xPm
      rw [eC9, xP_cong (m := m2) (fun k _ _ => o9 k (by omega)), show 111 + 6 * 0 = 111 from rfl, h2.P (by omega)]
      exact f.1
    · refine (xB_cong (m := m2) (fun k _ _ => o9 k (by omega)) (h2.B f.2.1)).wk ?_
      show tb i ≤ tb i + 123 * ((0 : Nat) : Int)
      omega
    · rw [o9 _ (by omega), (h2.2.2.2 g (by omega)).1]
      exact hg g hgg
  -- the reference
  have M : Ok (f_X9_ordersRest N mm) (fun v m' => ∃ (b0 : Nat → Int32) (t0 : Nat → Int32), v = nI (Sx (mC_ mm) r (mPm mm 0) T 0 0 t0 (1000000, b0)).1 ∧ (∀ i, i < r → m'.1 16 i = (Sx (mC_ mm) r (mPm mm 0) T 0 0 t0 (1000000, b0)).2 i) ∧ (∀ k, k ≠ 1 → k ≠ 14 → k ≠ 15 → k ≠ 16 → m'.1 k = mm.1 k) ∧ ∀ j, j < 228 → m'.1 1 j = mm.1 1 j) := by
    unfold f_X9_ordersRest
    refine ok_eq (m_rest c.2.2.1 hT8 h10) (ok_eq (m_ones (by omega) (restM_lt _ (by omega) _ hT8)) ?_)
    rw [cnt_rest n7.2 hT8, show cnt (fun f => !T.testBit f) (cM (mC_ mm)) = r from hr.symm]
    refine ok_bd (m_copy (N := N) (a := 0) (b := 228) (by omega) (by omega) (by omega) (by omega)) (fun _ m8 h8 => ok_lm (fun m10 e10 => ok_lm (fun m12 e12 => ?_)))
    have o12 : ∀ k, k ≠ 1 → k ≠ 14 → k ≠ 15 → m12.1 k = mm.1 k := fun k a b d => by rw [e12, mI_ne k d, e10, mI_ne k b, h8.1.2 k a]
    have o1 : ∀ j, m12.1 1 j = m8.1 1 j := fun j => by rw [e12, mI_ne 1 (by omega), e10, mI_ne 1 (by omega)]
    have eC : mC_ m12 = mC_ mm := mC_cong (fun k x y => o12 k x (by omega) (by omega))
    have hO := m_ord (N := N) (r := r) (T0 := T) (C := mC_ mm) (B := tb i) (by omega) (by unfold tb; omega) hr7 hT r 0 T 0 (mPm mm 0) (m12.1 14) (1000000, m12.1 16) m12 (by omega) hr.symm (by omega) (by show 1000000 < 2147483648; omega) ⟨eC, mcOk_cong (fun k x y => o12 k x (by omega) (by omega)) c.2.2.1, ?_, ?_, ?_, hT, ?_, fun i hi => absurd hi (Nat.not_lt_zero i)⟩ (fun _ _ h => h) (fun _ _ => rfl) (by rw [e12, mI_ne 14 (by omega), e10, mI_s])
    · obtain ⟨st, m', s1, s2, s3, s4⟩ := hO
      have hc7 := cst_7 r (by omega)
      obtain ⟨n, e⟩ : ∃ n, N = (n + 1) + st := ⟨N - st - 1, by omega⟩
      have s5 := s2 (n + 1)
      rw [← e, l_o1] at s5
      refine ok_x (show l_X9_ordersRest N N 1 (nI (restM (cM (mC_ mm)) T)) (nI r) 1000000 0 0 0 0 m12 = _ from s5) ?_
      unfold B_X9_ordersRest_38
      refine ok_t (by decide) (ok_ret ⟨m12.1 16, m12.1 14, rfl, s4, fun k x y z w => ?_, fun j hj => ?_⟩)
      · rw [s3.1 k x y z w, o12 k x y z]
      · rw [s3.2.1 j (by omega), o1, h8.o (by omega)]
    · unfold mPm
      rw [eC, mP_shift (m := mm) (r := 0) (by omega) (fun q hq => by rw [o1, show 228 + 19 * 0 + q = 228 + q by omega, h8.i hq])]
    · have := FR.okm c f
      refine okP.wk this ?_
      show tb i ≤ tb i + 123 * ((0 : Nat) : Int)
      omega
    · rw [o1, show 228 + 19 * 0 + 10 = 228 + 10 from rfl, h8.i (by omega)]
      exact h10
    · rw [e12, mI_s]; rfl
  obtain ⟨rx, m6, ex, kx, x3, bx0, tx0, hbx⟩ := X
  obtain ⟨rm, n6, em, bm0, tm0, hv, hm16, km, km1⟩ := M
  -- the two results are one
  have hS : ∃ b : Bs, b.1 < 2147483648 ∧ m6.1 32 4 = nI b.1 ∧ rm = nI b.1 ∧ ∀ i, i < r → m6.1 35 i = n6.1 16 i := by
    have tind : ∀ (k : Nat) (P : Ps) (T l w : Nat) (t t' : Nat → Int32) (b b' : Bs), (∀ i, i < l → t i = t' i) → b.1 = b'.1 → (∀ i, i < l + k → b.2 i = b'.2 i) → unt (mC_ mm) T = k → (Sx (mC_ mm) k P T l w t b).1 = (Sx (mC_ mm) k P T l w t' b').1 ∧ ∀ i, i < l + k → (Sx (mC_ mm) k P T l w t b).2 i = (Sx (mC_ mm) k P T l w t' b').2 i := by
      intro k
      induction k with
      | zero =>
        intro P T l w t t' b b' ht h1 h2 _
        show (if w < b.1 then (w, t) else b).1 = (if w < b'.1 then (w, t') else b').1 ∧ ∀ i, i < l + 0 → (if w < b.1 then (w, t) else b).2 i = (if w < b'.1 then (w, t') else b').2 i
        rw [h1]
        by_cases hw : w < b'.1
        · rw [if_pos hw, if_pos hw]; exact ⟨rfl, ht⟩
        · rw [if_neg hw, if_neg hw]; exact ⟨h1, h2⟩
      | succ k ih =>
        intro P T l w t t' b b' ht h1 h2 hk
        rw [sx_s, sx_s]
        have key : ∀ n, n ≤ cM (mC_ mm) → (sfold (Sg (mC_ mm) k P T l w t) n b).1 = (sfold (Sg (mC_ mm) k P T l w t') n b').1 ∧ ∀ i, i < l + (k + 1) → (sfold (Sg (mC_ mm) k P T l w t) n b).2 i = (sfold (Sg (mC_ mm) k P T l w t') n b').2 i := by
          intro n
          induction n with
          | zero => exact fun _ => ⟨h1, h2⟩
          | succ n ihn =>
            intro hn
            obtain ⟨j1, j2⟩ := ihn (by omega)
            rw [sfold_s, sfold_s]
            unfold Sg at *
            by_cases hb : T.testBit n = true
            · rw [if_pos hb, if_pos hb]; exact ⟨j1, j2⟩
            · rw [if_neg hb, if_neg hb]
              have := ih (kidP (mC_ mm) P n) (T ||| 2 ^ n) (l + 1) (w + wp (mC_ mm) P n) (upd t l (nI n)) (upd t' l (nI n)) _ _ (fun i hi => by
                by_cases e : i = l
                · subst e; rw [upd_s, upd_s]
                · rw [upd_n e, upd_n e]; exact ht i (by omega)) j1 (fun i hi => j2 i (by omega)) (unt_kid hk (by omega) (by simpa using hb))
              exact ⟨this.1, fun i hi => this.2 i (by omega)⟩
        exact key (cM (mC_ mm)) (Nat.le_refl _)
    have e1 := sx_ind r (mPm mm 0) T 0 0 tx0 (r + 1, bx0) (1000000, bx0) hr.symm (by show 0 + r < r + 1; omega) (by show 0 + r < 1000000; omega)
    have e1' := sx_ind r (mPm mm 0) T 0 0 tm0 (1000000, bm0) (1000000, bx0) hr.symm (by show 0 + r < 1000000; omega) (by show 0 + r < 1000000; omega)
    obtain ⟨e2, e3⟩ := tind r (mPm mm 0) T 0 0 tx0 tm0 (1000000, bx0) (1000000, bx0) (fun i hi => absurd hi (Nat.not_lt_zero i)) rfl (fun _ _ => rfl) hr.symm
    rw [e1] at hbx
    rw [e1'] at hv hm16
    have hle := sx_le (C := mC_ mm) r (mPm mm 0) T 0 0 tx0 (1000000, bx0)
    refine ⟨_, Nat.lt_of_le_of_lt hle (by show 1000000 < 2147483648; omega), hbx.1, by rw [hv, e2], fun i hi => ?_⟩
    rw [hbx.2 i hi, hm16 i hi]
    exact e3 i (by omega)
  obtain ⟨b, hb2, hb4, hbm, hb35⟩ := hS
  have hfin : ∀ {v v' : Int32}, v = v' → Sim (i + 1) (some (v, m6)) (some (v', n6)) := fun e => ok_ret (ok_ret ⟨e, h.keep (fun k _ _ h13 hk => kx k h13 (by omega) (by omega) (by omega) (by omega)) (fun j _ _ _ => by rw [km 0 (by omega) (by omega) (by omega) (by omega)]) (fun j hj => km1 j (by omega)) (fun k x y => km k (by omega) (by omega) (by omega) (by omega))⟩)
  refine sim_eq ex em (sim_if (fun _ => hfin (by rw [hb4, hbm])) (fun ha => ?_))
  have eCn : mC_ n6 = mC_ mm := mC_cong (fun k x y => km k x (by omega) (by omega) (by omega))
  rw [m_rest (T := T) (mcOk_cong (fun k x y => km k x (by omega) (by omega) (by omega)) c.2.2.1) hT8 (by rw [km1 10 (by omega)]; exact h10), fl_bd_s, eCn, m_ones (by omega) (restM_lt _ (by omega) _ hT8), fl_bd_s, cnt_rest n7.2 hT8, show cnt (fun f => !T.testBit f) (cM (mC_ mm)) = r from hr.symm, x3]
  refine sim_if (fun _ => hfin rfl) (fun hra => ?_)
  have a1 : 0 ≤ a.toInt := a1
  have ha1 : 1 ≤ a.toInt := by
    rcases Int.lt_or_eq_of_le a1 with q | q
    · omega
    · exact absurd ((i_eq a 0).mpr q.symm) ha
  have har : a.toInt ≤ r := by
    rw [i_lt, nI_toInt (by omega)] at hra; omega
  have e1 : (1 : Int32).toInt = 1 := rfl
  have es := i_sub (x := a) (y := 1) (by omega) (by omega)
  obtain ⟨p, hp, ep⟩ := i_of (x := a - 1) (n := r) (by omega) (by omega)
  rw [ep, fl_ck_t (i_ckz (by omega) (by omega)), fl_ck_t (i_ckz (by omega) (by omega)), i_c (by omega)]
  exact hfin (hb35 p hp)
