/-! ===== behind the two constructors ===== -/
def LK (nc nf : Nat) (m0 mx mm : Mem) : Prop := TX 103 tx mx ∧ CRd 4 nc nf mx mm ∧ RWx 4 mx ∧ xfr 4 m0 mx ∧ mm.1 0 21 = 4 ∧ mm.1 0 22 = 4
def stR (ch : Int32) (nc nf : Nat) (l : List Int32) (nc2 nf2 : Nat) (mm mm' : Mem) : Prop := after ch nc nf l mm mm' ∧ RD_ nc2 nf2 4 4 mm' ∧ mm'.1 0 18 = 0
theorem r_cab {nc nf : Nat} {x y z : Int32} {mm : Mem} (h : RD_ nc nf 4 4 mm) (h18 : mm.1 0 18 = 0) (hnc : nc < 3) : ∃ mm', f_X9_addsCab x y z mm = some (0, mm') ∧ stR 99 nc nf [x, y, z] (nc + 1) nf mm mm' := by
  obtain ⟨mm', e1, o1, o2, o3, o4, o5, o6, o7⟩ := m_addsCab (x := x) (y := y) (z := z) h hnc
  obtain ⟨h1, h2, h3, h4⟩ := h
  refine ⟨mm', e1, ?_, ⟨by rw [o2 21 (by omega)]; exact h1, by rw [o2 22 (by omega)]; exact h2, o3, by rw [o2 25 (by omega)]; exact h4⟩, by rw [o2 18 (by omega)]; exact h18⟩
  unfold after
  rw [if_neg (by decide), if_pos rfl]
  exact ⟨⟨o2 21 (by omega), o2 22 (by omega), o3, by rw [o2 25 (by omega)]; exact h4⟩, o4, o5, o6, o7, o1 13 (by omega) (by omega)⟩
theorem r_fare {nc nf : Nat} {x y z u v : Int32} {mm : Mem} (h : RD_ nc nf 4 4 mm) (h18 : mm.1 0 18 = 0) (hnf : nf < 7) : ∃ mm', f_X9_addsFare x y z u v mm = some (0, mm') ∧ stR 102 nc nf [x, y, z, u, v] nc (nf + 1) mm mm' := by
  obtain ⟨mm', e1, o1, o2, o3, o4, o5, o6, o7, o8, o9⟩ := m_addsFare (x := x) (y := y) (z := z) (u := u) (v := v) h hnf
  obtain ⟨h1, h2, h3, h4⟩ := h
  refine ⟨mm', e1, ?_, ⟨by rw [o2 21 (by omega)]; exact h1, by rw [o2 22 (by omega)]; exact h2, by rw [o2 23 (by omega)]; exact h3, o3⟩, by rw [o2 18 (by omega)]; exact h18⟩
  unfold after
  rw [if_neg (by decide), if_neg (by decide)]
  exact ⟨⟨o2 21 (by omega), o2 22 (by omega), by rw [o2 23 (by omega)]; exact h3, o3⟩, o4, o5, o6, o7, o8, o9, o1 12 (by omega) (by omega)⟩
/-- one item of the first city, told to the class as the reference adds it -/
theorem lk_item {N p e nc nf nc2 nf2 fx : Nat} {ch : Int32} {R : List (Int32 × Int32)} {l : List Int32} {m0 mx mm mm' : Mem} (hN : 300 ≤ N) (h : LK nc nf m0 mx mm) (ha : tx p = ch) (hpe : p ≤ e) (he : e < 103) (h59 : tx e = 59) (hf : ∀ j, j < e → p ≤ j → tx j ≠ 59) (hwa : wants ch nc nf 4 4 = some R) (hok : okR (Lt 103 tx) R (p + 1) = true) (hv : vlR (Lt 103 tx) R (p + 1) = l) (hst : stR ch nc nf l nc2 nf2 mm mm') (h2 : nc2 ≤ 3 ∧ nf2 ≤ 7) (hfx : 103 - p < fx) :
    ∃ q mx', l_X6_readInto N 4 fx (nI p) (nI p) mx = l_X6_readInto N 4 q (nI (e + 1)) (nI (e + 1)) mx' ∧ 103 - (e + 1) < q ∧ LK nc2 nf2 m0 mx' mm' := by
  obtain ⟨ht, hcr, hw, hfr, h21, h22⟩ := h
  obtain ⟨haf, hrd2, -⟩ := hst
  obtain ⟨h1, h2', hcx, hrd, w1, w2, hrest⟩ := id hcr
  have hcx : CX 4 nc nf 4 4 mx := by rw [h21, h22] at hcx; exact hcx
  have hitm : itm (Lt 103 tx) ch nc nf 4 4 (p + 1) = true := by
    unfold itm
    rw [hwa]
    exact hok
  obtain ⟨s, m1, s1, s2, s3, s4⟩ := x_item (N := N) (K := 4) (n := 103) (a := tx) hN (by omega) (by omega) hpe he (by rw [lt_in he]; exact h59) (fun j x y => by rw [lt_in (by omega)]; exact hf j y x) ht hcx h1 h2'
  rw [ha] at s3 s4
  have hs : s = true := by
    cases hs : s with
    | true => rfl
    | false =>
      have := s3 hs
      rw [hitm] at this
      cases this
  obtain ⟨m2, t1, t2, t3⟩ := s4 hs
  rw [hitm] at t1
  obtain ⟨R', y1, y2, y3, y4⟩ := t3 hitm
  rw [hwa] at y1
  injection y1 with y1
  subst y1
  rw [hv] at y3 y4
  obtain ⟨nc', nf', c1, c2⟩ := crd_step hcr (by rw [h21, h22]; exact hwa) y3 y4 haf
  obtain ⟨g1, g2, g3, g4⟩ := hrd2
  have hc1 : nc' = nc2 := by
    have := c1.2.2.2.1.2.2.1
    rw [g3] at this
    exact (nI_inj (by omega) (by have := c1.1; omega) this).symm
  have hc2 : nf' = nf2 := by
    have := c1.2.2.2.1.2.2.2
    rw [g4] at this
    exact (nI_inj (by omega) (by have := c1.2.1; omega) this).symm
  subst hc1 hc2
  obtain ⟨q, rfl⟩ : ∃ q, fx = (q + 1) + (e - p) := ⟨fx - (e - p) - 1, by omega⟩
  refine ⟨q, m2, ?_, by omega, t2.tx (by omega) ht, c1, c2 hw, hfr.tr t2, g1, g2⟩
  rw [x_scan (by omega) ht (e - p) (q + 1) p (by omega) (fun i x y => hf i (by omega) x), show p + (e - p) = e by omega]
  show B_X6_readInto_8 N 4 (l_X6_readInto N 4 q) (nI p) (nI e) mx = _
  unfold B_X6_readInto_8
  rw [ht.1, if_neg (nI_ge he (by omega)), fl_ck_t (i_ckz (by omega) (by omega)), i_c (by omega), ht.2 e he, if_pos h59, s1, hs, fl_bd_s, if_neg (show ¬ b2i true = 0 by decide), fl_ck_t (i_ckz (by omega) (by omega)), i_c (by omega), t1, fl_bd_s, if_neg (show ¬ b2i true = 0 by decide), nI_1 e]
  rfl
theorem mI_mZ : RD_ 0 0 4 4 (mI (mI mZ 0 21 4) 0 22 4) ∧ (mI (mI mZ 0 21 4) 0 22 4).1 0 18 = 0 := by
  refine ⟨⟨?_, mI_s, ?_, ?_⟩, ?_⟩
  · rw [mI_j (by omega), mI_s]
  · rw [mI_j (by omega), mI_j (by omega)]; rfl
  · rw [mI_j (by omega), mI_j (by omega)]; rfl
  · rw [mI_j (by omega), mI_j (by omega)]; rfl
def stAll (m1 m2 m3 m4 m5 m6 m7 m8 m9 : Mem) : Prop := stR 99 0 0 [0, 0, 10] 1 0 (mI (mI mZ 0 21 4) 0 22 4) m1 ∧ stR 99 1 0 [1, 15, 15] 2 0 m1 m2 ∧ stR 99 2 0 [2, 5, 2] 3 0 m2 m3 ∧ stR 102 3 0 [0, 1, 14, 0, 9] 3 1 m3 m4 ∧ stR 102 3 1 [1, 4, 7, 2, 20] 3 2 m4 m5 ∧ stR 102 3 2 [2, 12, 3, 3, 12] 3 3 m5 m6 ∧ stR 102 3 3 [3, 9, 2, 5, 15] 3 4 m6 m7 ∧ stR 102 3 4 [0, 6, 11, 6, 6] 3 5 m7 m8 ∧ stR 102 3 5 [1, 13, 0, 9, 30] 3 6 m8 m9
theorem ref_all (N : Nat) : ∃ m1 m2 m3 m4 m5 m6 m7 m8 m9, stAll m1 m2 m3 m4 m5 m6 m7 m8 m9 ∧ mStart N = f_X9_begins N m9 := by
  obtain ⟨d0, z0⟩ := mI_mZ
  obtain ⟨m1, e1, s1⟩ := r_cab (x := 0) (y := 0) (z := 10) d0 z0 (by omega)
  have d1 := s1.2.1
  have z1 := s1.2.2
  obtain ⟨m2, e2, s2⟩ := r_cab (x := 1) (y := 15) (z := 15) d1 z1 (by omega)
  have d2 := s2.2.1
  have z2 := s2.2.2
  obtain ⟨m3, e3, s3⟩ := r_cab (x := 2) (y := 5) (z := 2) d2 z2 (by omega)
  have d3 := s3.2.1
  have z3 := s3.2.2
  obtain ⟨m4, e4, s4⟩ := r_fare (x := 0) (y := 1) (z := 14) (u := 0) (v := 9) d3 z3 (by omega)
  have d4 := s4.2.1
  have z4 := s4.2.2
  obtain ⟨m5, e5, s5⟩ := r_fare (x := 1) (y := 4) (z := 7) (u := 2) (v := 20) d4 z4 (by omega)
  have d5 := s5.2.1
  have z5 := s5.2.2
  obtain ⟨m6, e6, s6⟩ := r_fare (x := 2) (y := 12) (z := 3) (u := 3) (v := 12) d5 z5 (by omega)
  have d6 := s6.2.1
  have z6 := s6.2.2
  obtain ⟨m7, e7, s7⟩ := r_fare (x := 3) (y := 9) (z := 2) (u := 5) (v := 15) d6 z6 (by omega)
  have d7 := s7.2.1
  have z7 := s7.2.2
  obtain ⟨m8, e8, s8⟩ := r_fare (x := 0) (y := 6) (z := 11) (u := 6) (v := 6) d7 z7 (by omega)
  have d8 := s8.2.1
  have z8 := s8.2.2
  obtain ⟨m9, e9, s9⟩ := r_fare (x := 1) (y := 13) (z := 0) (u := 9) (v := 30) d8 z8 (by omega)
  have d9 := s9.2.1
  have z9 := s9.2.2
  refine ⟨m1, m2, m3, m4, m5, m6, m7, m8, m9, ⟨s1, s2, s3, s4, s5, s6, s7, s8, s9⟩, ?_⟩
  unfold mStart
  rw [e1, fl_bd_s, e2, fl_bd_s, e3, fl_bd_s, e4, fl_bd_s, e5, fl_bd_s, e6, fl_bd_s, e7, fl_bd_s, e8, fl_bd_s, e9, fl_bd_s]
set_option maxHeartbeats 4000000 in
theorem cls_all {N : Nat} (hN : 300 ≤ N) {m1 m2 m3 m4 m5 m6 m7 m8 m9 : Mem} (hs : stAll m1 m2 m3 m4 m5 m6 m7 m8 m9) {m0 : Mem} (ht : tfill 103 m0) : ∃ mx, f_X6_readInto N 4 m0 = some (-4, mx) ∧ LK 3 6 m0 mx m9 := by
  obtain ⟨s1, s2, s3, s4, s5, s6, s7, s8, s9⟩ := hs
  unfold f_X6_readInto f_X0_clear
  simp only [fl_lm]
  rw [fl_bd_s]
  generalize hx0 : mI (mI (mI (mI m0 4 0 4) 4 1 4) 4 2 0) 4 3 0 = x0
  have ox : ∀ k, k ≠ 4 → x0.1 k = m0.1 k := fun k hk => by rw [← hx0, mI_ne k hk, mI_ne k hk, mI_ne k hk, mI_ne k hk]
  have f0 : xfr 4 m0 x0 := ⟨fun k _ _ hk => ox k (by omega), fun j _ => by rw [ox 1 (by omega)]⟩
  have t0 : TX 103 tx x0 := f0.tx (by omega) ⟨ht.1, ht.2.1⟩
  obtain ⟨⟨d1, d2, d3, d4⟩, d5⟩ := mI_mZ
  have k0 : LK 0 0 m0 x0 (mI (mI mZ 0 21 4) 0 22 4) := by
    refine ⟨t0, ⟨by omega, by omega, ⟨?_, ?_, ?_, ?_⟩, ⟨rfl, rfl, d3, d4⟩, by rw [d1]; exact ⟨by decide, by decide⟩, by rw [d2]; exact ⟨by decide, by decide⟩, fun c hc => absurd hc (Nat.not_lt_zero c), fun f hf => absurd hf (Nat.not_lt_zero f)⟩, fun c hc => ?_, f0, d1, d2⟩
    · rw [d1, ← hx0, mI_j (by omega), mI_j (by omega), mI_j (by omega), mI_s]
    · rw [d2, ← hx0, mI_j (by omega), mI_j (by omega), mI_s]
    · rw [← hx0, mI_j (by omega), mI_s]; rfl
    · rw [← hx0, mI_s]; rfl
    · rw [ox (4 + 2) (by omega), ox (4 + 3) (by omega), ht.2.2 (4 + 2) (by omega) (by omega), ht.2.2 (4 + 3) (by omega) (by omega)]
      show pl 0 ∧ nowh 0
      exact ⟨⟨by decide, by decide⟩, Or.inr ⟨by decide, by decide⟩⟩
  have g0 : stR 103 0 0 [4, 4] 0 0 (mI (mI mZ 0 21 4) 0 22 4) (mI (mI mZ 0 21 4) 0 22 4) := ⟨⟨⟨d1, d2, d3, d4⟩, rfl, rfl⟩, ⟨d1, d2, d3, d4⟩, d5⟩
  show ∃ mx, l_X6_readInto N 4 N (nI 0) (nI 0) x0 = some (-4, mx) ∧ LK 3 6 m0 mx m9
  obtain ⟨q1, x1, y1, u1, k1⟩ := lk_item (p := 0) (e := 4) (fx := N) (R := [(1, 6), (1, 6)]) (l := [4, 4]) hN k0 (by decide +kernel) (by omega) (by omega) (by decide +kernel) (by decide +kernel) (by decide +kernel) (by decide +kernel) (by decide +kernel) g0 (by omega) (by omega)
  rw [y1]
  obtain ⟨q2, x2, y2, u2, k2⟩ := lk_item (p := 5) (e := 12) (fx := q1) (R := [(0, 2), (0, zone 4 4), (0, zone 4 4)]) (l := [0, 0, 10]) hN k1 (by decide +kernel) (by omega) (by omega) (by decide +kernel) (by decide +kernel) (by decide +kernel) (by decide +kernel) (by decide +kernel) s1 (by omega) (by omega)
  rw [y2]
  obtain ⟨q3, x3, y3, u3, k3⟩ := lk_item (p := 13) (e := 21) (fx := q2) (R := [(0, 2), (0, zone 4 4), (0, zone 4 4)]) (l := [1, 15, 15]) hN k2 (by decide +kernel) (by omega) (by omega) (by decide +kernel) (by decide +kernel) (by decide +kernel) (by decide +kernel) (by decide +kernel) s2 (by omega) (by omega)
  rw [y3]
  obtain ⟨q4, x4, y4, u4, k4⟩ := lk_item (p := 22) (e := 28) (fx := q3) (R := [(0, 2), (0, zone 4 4), (0, zone 4 4)]) (l := [2, 5, 2]) hN k3 (by decide +kernel) (by omega) (by omega) (by decide +kernel) (by decide +kernel) (by decide +kernel) (by decide +kernel) (by decide +kernel) s3 (by omega) (by omega)
  rw [y4]
  obtain ⟨q5, x5, y5, u5, k5⟩ := lk_item (p := 29) (e := 40) (fx := q4) (R := [(0, 3), (0, zone 4 4), (0, zone 4 4), (0, 99), (0, 60)]) (l := [0, 1, 14, 0, 9]) hN k4 (by decide +kernel) (by omega) (by omega) (by decide +kernel) (by decide +kernel) (by decide +kernel) (by decide +kernel) (by decide +kernel) s4 (by omega) (by omega)
  rw [y5]
  obtain ⟨q6, x6, y6, u6, k6⟩ := lk_item (p := 41) (e := 52) (fx := q5) (R := [(0, 3), (0, zone 4 4), (0, zone 4 4), (0, 99), (0, 60)]) (l := [1, 4, 7, 2, 20]) hN k5 (by decide +kernel) (by omega) (by omega) (by decide +kernel) (by decide +kernel) (by decide +kernel) (by decide +kernel) (by decide +kernel) s5 (by omega) (by omega)
  rw [y6]
  obtain ⟨q7, x7, y7, u7, k7⟩ := lk_item (p := 53) (e := 65) (fx := q6) (R := [(0, 3), (0, zone 4 4), (0, zone 4 4), (0, 99), (0, 60)]) (l := [2, 12, 3, 3, 12]) hN k6 (by decide +kernel) (by omega) (by omega) (by decide +kernel) (by decide +kernel) (by decide +kernel) (by decide +kernel) (by decide +kernel) s6 (by omega) (by omega)
  rw [y7]
  obtain ⟨q8, x8, y8, u8, k8⟩ := lk_item (p := 66) (e := 77) (fx := q7) (R := [(0, 3), (0, zone 4 4), (0, zone 4 4), (0, 99), (0, 60)]) (l := [3, 9, 2, 5, 15]) hN k7 (by decide +kernel) (by omega) (by omega) (by decide +kernel) (by decide +kernel) (by decide +kernel) (by decide +kernel) (by decide +kernel) s7 (by omega) (by omega)
  rw [y8]
  obtain ⟨q9, x9, y9, u9, k9⟩ := lk_item (p := 78) (e := 89) (fx := q8) (R := [(0, 3), (0, zone 4 4), (0, zone 4 4), (0, 99), (0, 60)]) (l := [0, 6, 11, 6, 6]) hN k8 (by decide +kernel) (by omega) (by omega) (by decide +kernel) (by decide +kernel) (by decide +kernel) (by decide +kernel) (by decide +kernel) s8 (by omega) (by omega)
  rw [y9]
  obtain ⟨q10, x10, y10, u10, k10⟩ := lk_item (p := 90) (e := 102) (fx := q9) (R := [(0, 3), (0, zone 4 4), (0, zone 4 4), (0, 99), (0, 60)]) (l := [1, 13, 0, 9, 30]) hN k9 (by decide +kernel) (by omega) (by omega) (by decide +kernel) (by decide +kernel) (by decide +kernel) (by decide +kernel) (by decide +kernel) s9 (by omega) (by omega)
  rw [y10]
  obtain ⟨q, rfl⟩ : ∃ q, q10 = q + 1 := ⟨q10 - 1, by omega⟩
  refine ⟨x10, ?_, k10⟩
  show B_X6_readInto_8 N 4 (l_X6_readInto N 4 q) (nI 103) (nI 103) x10 = _
  unfold B_X6_readInto_8
  rw [k10.1.1, if_pos (nI_le (by omega) (by omega)), if_pos (nI_le (by omega) (by omega))]
theorem rl_0 {N : Nat} (hN : 300 ≤ N) {m9 mm3 m0 mx : Mem} {w9 : Int32} (hk : LK 3 6 m0 mx m9) (ht : tfill 103 m0) (h18 : m9.1 0 18 = 0) (hb : f_X9_begins N m9 = some (w9, mm3)) : ∃ w mx3, f_X8_begin N (mI mx 1 1 0) = some (w, mx3) ∧ Rl 0 mx3 mm3 := by
  obtain ⟨tX, hc2, hW, hfr, -, -⟩ := hk
  obtain ⟨mx2, hmx2⟩ : ∃ m, m = mI mx 1 1 0 := ⟨_, rfl⟩
  have o2 : ∀ k, k ≠ 1 → mx2.1 k = mx.1 k := fun k hk => by rw [hmx2, mI_ne k hk]
  have hc2 : CRd 4 3 6 mx2 m9 := by
    unfold CRd CX at hc2 ⊢
    rw [o2 4 (by omega), o2 (4 + 1) (by omega), o2 (4 + 2) (by omega), o2 (4 + 3) (by omega), o2 (4 + 4) (by omega), o2 (4 + 5) (by omega), o2 (4 + 6) (by omega), o2 (4 + 7) (by omega), o2 (4 + 8) (by omega)]
    exact hc2
  have hW : RWx 4 mx2 := fun c hc => by rw [o2 (4 + 2) (by omega), o2 (4 + 3) (by omega)]; exact hW c hc
  rw [← hmx2]
  obtain ⟨nc', hnc'⟩ : ∃ n : Nat, n = 3 := ⟨3, rfl⟩
  obtain ⟨nf', hnf'⟩ : ∃ n : Nat, n = 6 := ⟨6, rfl⟩
  rw [← hnc', ← hnf'] at hc2
  obtain ⟨h3, h7, ⟨k1, k2, k3, k4⟩, hrd, w1, w2, hcab, hfare⟩ := hc2
  obtain ⟨r3, mx3, g1, gk, ⟨g24, g242⟩, ⟨g26, g262⟩, g28, g39, g4, g43⟩ := x_begin (N := N) (m := mx2) (by omega)
  obtain ⟨mm3', b1, bk, ⟨b3, b4, b5, b7⟩, b18, ⟨u1, u2, u13⟩, bc, bf, bz0, bz10, bz18⟩ := m_begins (N := N) (by omega) hrd h3 h7
  rw [hb] at b1
  injection b1 with b1
  injection b1 with b1 b1'
  subst b1'
  have x4 : mx3.1 4 = mx2.1 4 := gk 4 (by omega) (by omega) (by omega) (by omega)
  have i2 : (nI nc').toNatClampNeg = nc' := i_c (by omega)
  have i3 : (nI nf').toNatClampNeg = nf' := i_c (by omega)
  have eC : xC mx3 = mC_ mm3 := by
    unfold xC mC_
    rw [x4, k2, k3, k4, b4, b5, b7, i2, i3, gk 5 (by omega) (by omega) (by omega) (by omega), gk 8 (by omega) (by omega) (by omega) (by omega), gk 9 (by omega) (by omega) (by omega) (by omega), gk 10 (by omega) (by omega) (by omega) (by omega), gk 11 (by omega) (by omega) (by omega) (by omega), gk 12 (by omega) (by omega) (by omega) (by omega)]
    rw [rs_cong (n := nc') (g := mx2.1 5) (g' := mm3.1 2) (fun c hc => by rw [(bc c hc).1]; exact (hcab c hc).1)]
    rw [rs_cong (n := nf') (g := mx2.1 8) (g' := mm3.1 3) (fun f hf => by rw [(bf f hf).1]; exact (hfare f hf).1)]
    rw [rs_cong (n := nf') (g := mx2.1 9) (g' := mm3.1 4) (fun f hf => by rw [(bf f hf).2.1]; exact (hfare f hf).2.1)]
    rw [rs_cong (n := nf') (g := mx2.1 10) (g' := mm3.1 5) (fun f hf => by rw [(bf f hf).2.2.1]; exact (hfare f hf).2.2.1)]
    rw [rs_cong (n := nf') (g := mx2.1 11) (g' := mm3.1 6) (fun f hf => by rw [(bf f hf).2.2.2.1]; exact (hfare f hf).2.2.2.1)]
    rw [rs_cong (n := nf') (g := mx2.1 12) (g' := mm3.1 7) (fun f hf => by rw [(bf f hf).2.2.2.2.1]; exact (hfare f hf).2.2.2.2.1)]
  have eN : cN (xC mx3) = nc' := by show (mx3.1 4 2).toNatClampNeg = nc'; rw [x4, k3, i2]
  have eM : cM (xC mx3) = nf' := by show (mx3.1 4 3).toNatClampNeg = nf'; rw [x4, k4, i3]
  have okx : okC (xC mx3) := by
    refine ⟨by show wdt (mx3.1 4 1); rw [x4, k2]; exact w2, by rw [eN]; omega, by rw [eM]; omega, fun f hf => ?_⟩
    rw [xc_qF hf, xc_qT hf, xc_qS hf, xc_qB hf, gk 9 (by omega) (by omega) (by omega) (by omega), gk 10 (by omega) (by omega) (by omega) (by omega), gk 11 (by omega) (by omega) (by omega) (by omega), gk 12 (by omega) (by omega) (by omega) (by omega)]
    rw [eM] at hf
    obtain ⟨-, -, -, -, -, q1, q2, q3, q4⟩ := hfare f hf
    exact ⟨q1, q2, q3, q4⟩
  have hRC : RC mx3 mm3 := by
    refine ⟨eC, ⟨okx, by rw [x4, k3, nI_toInt (by omega)]; omega, by rw [x4, k4, nI_toInt (by omega)]; omega, fun c hc => by rw [gk 6 (by omega) (by omega) (by omega) (by omega), gk 7 (by omega) (by omega) (by omega) (by omega)]; exact hW c hc⟩, ⟨by rw [← eC]; exact okx, by rw [b5, nI_toInt (by omega)]; omega, by rw [b7, nI_toInt (by omega)]; omega⟩, by rw [x4, k1]; exact w1, by rw [x4, k1, b3]⟩
  have z24 : mx2.1 24 = fun _ => 0 := by rw [o2 24 (by omega), hfr.1 24 (by omega) (by omega) (by omega)]; exact ht.2.2 24 (by omega) (by omega)
  have z26 : mx2.1 26 = fun _ => 0 := by rw [o2 26 (by omega), hfr.1 26 (by omega) (by omega) (by omega)]; exact ht.2.2 26 (by omega) (by omega)
  refine ⟨r3, mx3, g1, hRC, ⟨0, by omega, ?_, ?_, fun j hj => absurd hj (Nat.not_lt_zero j)⟩, ?_, ⟨0, 0, by omega, by omega, by rw [g24, z24]; rfl, by rw [g242]; rfl, by rw [u1]; rfl, fun j hj => absurd hj (Nat.not_lt_zero j)⟩, ⟨0, 0, by omega, by omega, by rw [g26, z26]; rfl, by rw [g262]; rfl, by rw [u2]; rfl, fun j hj => absurd hj (Nat.not_lt_zero j)⟩, ⟨0, by omega, by rw [g28]; rfl, by rw [u13]; rfl, fun j hj => absurd hj (Nat.not_lt_zero j)⟩⟩
  · rw [gk 1 (by omega) (by omega) (by omega) (by omega), hmx2, mI_s]; rfl
  · rw [b18, h18]; rfl
  · rw [← eC]
    refine ⟨?_, ⟨by rw [g39]; unfold tb; exact ⟨by decide, by show (0 : Int) ≤ _; omega⟩, fun c hc => ?_⟩, 0, 0, by exact Nat.pos_of_ne_zero (by simp), by exact Nat.pos_of_ne_zero (by simp), by rw [Nat.zero_add, bz10]; rfl, by rw [Nat.zero_add, bz18]; rfl, fun _ _ => Nat.zero_testBit _, fun f hf => ?_⟩
    · unfold xP mP
      rw [eN, g39, bz0]
      have p1 : rs nc' (mx3.1 (39 + 1)) = rs nc' (fun c => mm3.1 1 (0 + 1 + c)) := rs_cong (fun c hc => by rw [(g4 c (by omega)).1, show 0 + 1 + c = 1 + c by omega, (bc c hc).2.1]; exact (hcab c hc).2.1)
      have p2 : rs nc' (mx3.1 (39 + 2)) = rs nc' (fun c => mm3.1 1 (0 + 4 + c)) := rs_cong (fun c hc => by rw [(g4 c (by omega)).2.1, show 0 + 4 + c = 4 + c by omega, (bc c hc).2.2.2])
      have p3 : rs nc' (mx3.1 (39 + 3)) = rs nc' (fun c => mm3.1 1 (0 + 7 + c)) := rs_cong (fun c hc => by rw [(g4 c (by omega)).2.2, show 0 + 7 + c = 7 + c by omega, (bc c hc).2.2.1]; exact (hcab c hc).2.2)
      rw [p1, p2, p3]
    · rw [(g4 c hc).1, (g4 c hc).2.1, (g4 c hc).2.2]
      exact ⟨(hW c hc).1, ⟨by decide, by unfold tb; show (0 : Int) ≤ _; omega⟩, (hW c hc).2⟩
    · rw [eM] at hf
      rw [(g43 f (by omega)).1, (g43 f (by omega)).2, show 0 + 11 + f = 11 + f by omega, (bf f hf).2.2.2.2.2, Nat.zero_testBit]
      exact ⟨rfl, ⟨fun q => (by cases q), fun q => absurd rfl q⟩, rfl⟩
theorem start_all {N : Nat} (hN : 300 ≤ N) : ∃ w MM, mStart N = some (w, MM) ∧ ∀ m1, tfill 103 m1 → ∃ v m2 w' M, f_X6_readInto N 4 m1 = some (v, m2) ∧ f_X8_begin N (mI m2 1 1 0) = some (w', M) ∧ Rl 0 M MM := by
  obtain ⟨m1, m2, m3, m4, m5, m6, m7, m8, m9, hs, hm⟩ := ref_all N
  have h9 := hs.2.2.2.2.2.2.2.2
  obtain ⟨MM, b1, -⟩ := m_begins (N := N) (by omega) h9.2.1 (by omega) (by omega)
  refine ⟨0, MM, by rw [hm]; exact b1, fun m1 ht => ?_⟩
  obtain ⟨mx, e1, hk⟩ := cls_all hN hs ht
  obtain ⟨w, M, e2, hR⟩ := rl_0 hN hk ht h9.2.2 b1
  exact ⟨-4, mx, w, M, e1, e2, hR⟩
