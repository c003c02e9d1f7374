theorem m_vpow {N nn c1 c2 : Nat} {mm : Mem} {x4 : Int32} (hm : mcOk mm) (hnn : nn ≤ 4) : ∀ (k n j acc : Nat), j + k = nn → l_X9_rivals N (n + (k + 1)) 1 (nI c1) (nI c2) x4 (nI nn) (nI acc) (nI j) 0 0 0 0 0 mm = l_X9_rivals N n 2 (nI c1) (nI c2) x4 (nI nn) (nI (acc * cM (mC_ mm) ^ k)) 0 0 0 0 0 0 mm := by
  intro k
  induction k with
  | zero =>
    intro n j acc hj
    rw [show n + (0 + 1) = n + 1 from rfl, l_v1]
    unfold B_X9_rivals_76
    rw [if_pos (nI_le (by omega) (by omega)), Nat.pow_zero, Nat.mul_one]
  | succ k ih =>
    intro n j acc hj
    rw [show n + (k + 1 + 1) = (n + (k + 1)) + 1 by omega, l_v1]
    unfold B_X9_rivals_76
    rw [if_neg (nI_ge (by omega) (by omega)), mc_m hm, pk_mul, nI_1 j]
    simp only [fl_li]
    rw [ih n (j + 1) _ (by omega), Nat.pow_succ, Nat.mul_assoc, Nat.mul_comm (cM (mC_ mm))]
theorem i_minn {a b : Nat} (ha : a < 2147483648) (hb : b < 2147483648) : fl_min (nI a) (nI b) = nI (min a b) := by
  rw [i_eq, i_min, nI_toInt ha, nI_toInt hb, nI_toInt (by omega)]
  omega
theorem sim_rivals {i N : Nat} {mx mm : Mem} (hN : 100000 ≤ N) (hi : i ≤ 64) (h : Rl i mx mm) (a b x3 x4 : Int32) : Sim (i + 1) (f_X8_rivals N a b x3 x4 mx) (f_X9_rivals N a b x3 x4 mm) := by
  obtain ⟨c, t, f, -⟩ := id h
  have hok := c.ok
  have n3 := hok.2.1
  have n7 := hok.2.2.1
  obtain ⟨T, hT, h10, hg⟩ := f.mask
  rw [Nat.zero_add] at h10
  have hT8 := bt_lt (by omega) hT
  have hP := FR.okm c f
  have hB : 99 ≤ tb i ∧ tb i ≤ 20000 := by unfold tb; omega
  unfold f_X8_rivals f_X9_rivals
  have j31 : ∀ m, J_X8_rivals_31 N a b x3 x4 m = some (-1, m) := fun m => by
    unfold J_X8_rivals_31 J_X8_rivals_32
    rw [if_pos rfl]
  simp only [j31]
  refine sim_cab h a (fun c1 hc1 e1 => sim_cab h b (fun c2 hc2 e2 => sim_if (fun _ => sim_same h rfl) (fun hne => ?_)))
  subst e1 e2
  have hne' : c1 ≠ c2 := fun q => hne (by rw [q])
  unfold J_X8_rivals_32
  rw [if_neg (show ¬ (1 : Int32) = 0 by decide)]
  refine sim_rngq h x3 rfl rfl (fun a1 a2 => sim_rngq h x4 rfl rfl (fun b1 b2 => ?_))
  have a1 : 1 ≤ x3.toInt := a1
  have a2 : x3.toInt ≤ 4 := a2
  obtain ⟨r, hr⟩ : ∃ r, r = unt (mC_ mm) T := ⟨_, rfl⟩
  have hr7 : r ≤ 7 := by have := cnt_le (fun f => !T.testBit f) (cM (mC_ mm)); unfold unt at hr; omega
  obtain ⟨nn, hnn⟩ : ∃ nn, nn = min x3.toInt.toNat r := ⟨_, rfl⟩
  have hn4 : nn ≤ 4 := by omega
  have hnr : nn ≤ r := by omega
  have hhead : (if nI r ≤ x3 then fl_bd (some (nI (restM (cM (mC_ mm)) T), mm)) (fun r25 m26 => fl_bd (f_X9_ones N r25 m26) (fun r28 m29 => J_X9_rivals_68 N (l_X9_rivals N N) (nI c1) (nI c2) x4 r28 m29)) else J_X9_rivals_68 N (l_X9_rivals N N) (nI c1) (nI c2) x4 x3 mm) = J_X9_rivals_68 N (l_X9_rivals N N) (nI c1) (nI c2) x4 (nI nn) mm := by
    by_cases hc : nI r ≤ x3
    · rw [if_pos hc, fl_bd_s, m_ones (by omega) (restM_lt _ (by omega) _ hT8), fl_bd_s, cnt_rest n7.2 hT8, show cnt (fun f => !T.testBit f) (cM (mC_ mm)) = r from hr.symm]
      rw [i_le, nI_toInt (by omega)] at hc
      rw [show nn = r by omega]
    · rw [if_neg hc]
      rw [i_le, nI_toInt (by omega)] at hc
      rw [show x3 = nI nn by rw [i_eq, nI_toInt (by omega)]; omega]
  -- the class
  have X : Ok (f_X1_fight N 4 39 (nI c1) (nI c2) x3 mx) (fun _ m' => (∀ k, k ≠ 13 → k ≠ 36 → k < 159 → m'.1 k = mx.1 k) ∧ (m'.1 36 4).toInt = Vv (mC_ mm) c1 c2 nn true (mPm mm 0) T ∧ (nn = 0 → m'.1 36 5 = -4) ∧ (1 ≤ nn → ∃ k', nn = k' + 1 ∧ m'.1 36 5 = oF (vf true (vk (mC_ mm) c1 c2 (Vv (mC_ mm) c1 c2 k') true (mPm mm 0) T) (cM (mC_ mm))))) := by
    unfold f_X1_fight
    refine ok_bd (x_copy (by omega)) (fun _ m2 h2 => ok_lm (fun m4 e4 => ok_lm (fun m6 e6 => ?_)))
    have c2' : ∀ k, k < 159 → m2.1 k = mx.1 k := fun k hk => h2.1.2 k (by omega)
    have o6 : ∀ k, k ≠ 36 → m6.1 k = m2.1 k := fun k hk => by rw [e6, mI_ne k hk, e4, mI_ne k hk]
    have eC6 : xC m6 = mC_ mm := (xC_cong (fun k _ _ => by rw [o6 k (by omega), c2' k (by omega)])).trans c.1
    have hC6 : xcOk m6 := xcOk_cong (fun k _ _ => by rw [o6 k (by omega), c2' k (by omega)]) c.2.1
    refine ok_eq (x_restOf (N := N) (S := 39) (T := T) (by omega) hC6 (fun g hgg => by rw [o6 43 (by omega), c2' 43 (by omega)]; exact hg g (by rw [← eC6]; exact hgg))) ?_
    rw [eC6, show cnt (fun f => !T.testBit f) (cM (mC_ mm)) = r from hr.symm, i_nat (x := x3) (by omega), show (4 : Int32) = nI 4 from rfl, i_minn (by omega) (by omega), i_minn (by omega) (by omega), show min (min x3.toInt.toNat 4) r = nn by omega]
    refine ok_lm (fun m11 e11 => ok_lm (fun m13 e13 => ?_))
    have o13 : ∀ k, k ≠ 36 → m13.1 k = m2.1 k := fun k hk => by rw [e13, mI_ne k hk, e11, mI_ne k hk, o6 k hk]
    have eC13 : xC m13 = mC_ mm := (xC_cong (fun k _ _ => by rw [o13 k (by omega), c2' k (by omega)])).trans c.1
    have hE := x_play (N := N) (n := nn) (c1 := c1) (c2 := c2) (C := mC_ mm) (B := tb i) (by omega) hB hn4 hc1 hc2 nn 10 0 T (mPm mm 0) m13 (by omega) (by omega) ⟨eC13, xcOk_cong (fun k _ _ => by rw [o13 k (by omega), c2' k (by omega)]) c.2.1, ?_, ?_, fun g hgg => ?_, ?_, ?_, ?_⟩
    · refine ok_bd hE (fun v m16 hq => ok_lm (fun m18 e18 => ok_ret ⟨fun k x1 x2 x5 => ?_, ?_, fun h0 => ?_, fun h1 => ?_⟩))
      · rw [e18, mI_ne k x2, hq.2.1.1.2 k (by omega), o13 k x2, c2' k x5]
      · rw [e18, mI_s]; exact hq.1
      · rw [e18, mI_j (by omega)]
        rw [hq.2.2.1 (Or.inr h0), e13, mI_s]
      · obtain ⟨k', e, g⟩ := hq.2.2.2 rfl h1
        exact ⟨k', e, by rw [e18, mI_j (by omega)]; exact g⟩
    · unfold xPm
      rw [eC13, xP_cong (m := m2) (fun k _ _ => o13 k (by omega)), show 159 + 6 * 0 = 159 from rfl, h2.P (by omega)]
      exact f.1
    · refine (xB_cong (m := m2) (fun k _ _ => o13 k (by omega)) (h2.B f.2.1)).wk ?_
      show tb i ≤ tb i + 123 * ((0 : Nat) : Int)
      omega
    · rw [o13 _ (by omega), (h2.2.2.2 g (by omega)).1]
      exact hg g hgg
    · rw [e13, mI_j (by omega), e11, mI_j (by omega), e6, mI_j (by omega), e4, mI_s]
    · rw [e13, mI_j (by omega), e11, mI_j (by omega), e6, mI_s]
    · rw [e13, mI_j (by omega), e11, mI_s]
  -- the reference
  have hv : vf true (vk (mC_ mm) c1 c2 (Vv (mC_ mm) c1 c2 (nn - 1)) true (mPm mm 0) T) (cM (mC_ mm)) = vf true (vk (mC_ mm) c1 c2 (Vv (mC_ mm) c1 c2 (nn - 1)) true (mPm mm 0) T) (cM (mC_ mm)) := rfl
  have M : ∃ st m' x7', st ≤ 100000 ∧ (∀ n, l_X9_rivals N (n + st) 1 (nI c1) (nI c2) x4 (nI nn) 1 0 0 0 0 0 0 mm = (if x4 = 0 then some (m'.1 18 0 + 10, m') else some (x7', m'))) ∧ Fr mm m' ∧ (m'.1 18 0).toInt = Vv (mC_ mm) c1 c2 nn true (mPm mm 0) T ∧ (nn = 0 → x7' = -4) ∧ (1 ≤ nn → x7' = oF (vf true (vk (mC_ mm) c1 c2 (Vv (mC_ mm) c1 c2 (nn - 1)) true (mPm mm 0) T) (cM (mC_ mm)))) := by
    have hq2 := pwM hok (k := nn) hn4
    obtain ⟨st1, m1, s1, s2, s3, s4⟩ := codes_l (N := N) (nn := nn) (c1 := c1) (c2 := c2) (T0 := T) (x4 := x4) (by omega) c.2.2.1 hB hc1 hc2 hP hT h10 hn4 (cM (mC_ mm) ^ nn) 0 mm (by omega) ⟨fun _ _ _ => rfl, fun _ _ => rfl⟩ (fun p hp => absurd hp (Nat.not_lt_zero p))
    have htl : ∀ p, p < cM (mC_ mm) ^ nn → (m1.1 18 p).toInt = tv (mC_ mm) c1 c2 (mPm mm 0) T nn nn p := fun p hp => by
      rw [s4 p hp]
      cases h : nd (mC_ mm) c1 c2 (mPm mm 0) T nn p with
      | none => rw [tv_none h]; rfl
      | some x =>
        obtain ⟨P, T', a'⟩ := x
        rw [tv_some h, Nat.sub_self]
        show a' = a' + 0
        omega
    obtain ⟨st2, m2, x72, t1, t2, t3, t4, t5, t6⟩ := bk4 (N := N) (nn := nn) (c1 := c1) (c2 := c2) (T0 := T) (x4 := x4) c.2.2.1 hB hc1 hc2 hP hT hn4 (by omega) nn (-4) m1 (Nat.le_refl _) s3 htl
    refine ⟨st2 + st1 + (nn + 1), m2, x72, by omega, fun n => ?_, t3, ?_, t5, fun h1 => ?_⟩
    · have e := m_vpow (N := N) (nn := nn) (c1 := c1) (c2 := c2) (x4 := x4) c.2.2.1 hn4 nn (n + st2 + st1) 0 1 (by omega)
      rw [Nat.one_mul] at e
      rw [show n + (st2 + st1 + (nn + 1)) = n + st2 + st1 + (nn + 1) by omega]
      exact e.trans ((s2 (n + st2)).trans (t2 n))
    · rw [t4, tv_some (show nd (mC_ mm) c1 c2 (mPm mm 0) T 0 0 = some (mPm mm 0, T, 0) from rfl), Nat.sub_zero]
      show 0 + Vv _ _ _ _ true _ _ = _
      omega
    · obtain ⟨v, f', g1, g2⟩ := (tv_step (C := mC_ mm) (c1 := c1) (c2 := c2) (P0 := mPm mm 0) (T0 := T) (nn := nn) (d := 0) (q := 0) (k := nn - 1) hok hB hc1 hc2 hP hT (by omega) hn4 (by omega)).2 (mPm mm 0) T 0 rfl
      have g1' : vf true (vk (mC_ mm) c1 c2 (Vv (mC_ mm) c1 c2 (nn - 1)) true (mPm mm 0) T) (cM (mC_ mm)) = some (v, f') := g1
      rw [t6 h1 (0 + v) f' g2, g1']
      rfl
  obtain ⟨rx, m6, ex, kx, xv, x5z, x5s⟩ := X
  obtain ⟨st, n6, x7, q1, q2, q3, q4, q5, q6⟩ := M
  have hfin : ∀ {v v' : Int32}, v = v' → Sim (i + 1) (some (v, m6)) (some (v', n6)) := fun e => ok_ret (ok_ret ⟨e, h.keep (fun k _ _ h13 hk => kx k h13 (by omega) (by omega)) (fun j _ _ _ => by rw [q3.1 0 (by omega) (by omega)]) (fun j hj => q3.2 j (by omega)) (fun k x y => q3.1 k (by omega) (by omega))⟩)
  rw [ex, fl_bd_s, m_rest c.2.2.1 hT8 h10, fl_bd_s, m_ones (by omega) (restM_lt _ (by omega) _ hT8), fl_bd_s, cnt_rest n7.2 hT8, show cnt (fun f => !T.testBit f) (cM (mC_ mm)) = r from hr.symm]
  have J : J_X9_rivals_68 N (l_X9_rivals N N) (nI c1) (nI c2) x4 (nI nn) mm = (if x4 = 0 then some (n6.1 18 0 + 10, n6) else some (x7, n6)) := by
    unfold J_X9_rivals_68
    obtain ⟨n, e⟩ : ∃ n, N = n + st := ⟨N - st, by omega⟩
    have := q2 n
    rw [← e] at this
    exact this
  rw [m_rest c.2.2.1 hT8 h10]
  refine (show ∀ {o o' : Option (Int32 × Mem)}, o = o' → Sim (i + 1) (if x4 = 0 then some (m6.1 36 4 + 10, m6) else some (m6.1 36 5, m6)) o' → Sim (i + 1) (if x4 = 0 then some (m6.1 36 4 + 10, m6) else some (m6.1 36 5, m6)) o from fun e k => e ▸ k) (hhead.trans J) ?_
  refine sim_if (fun _ => hfin ?_) (fun _ => hfin ?_)
  · rw [show m6.1 36 4 = n6.1 18 0 from (i_eq _ _).mpr (xv.trans q4.symm)]
  · rcases Nat.eq_zero_or_pos nn with e | e
    · rw [x5z e, q5 e]
    · obtain ⟨k', ek, g⟩ := x5s e
      rw [g, q6 e, show nn - 1 = k' by omega]
