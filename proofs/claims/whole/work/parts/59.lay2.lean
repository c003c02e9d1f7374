theorem m_begins {N nc nf : Nat} {r c : Int32} {m : Mem} (hN : 100 ≤ N) (hr : RD_ nc nf r c m) (hnc : nc ≤ 3) (hnf : nf ≤ 7) : ∃ m', f_X9_begins N m = some (0, m') ∧ (∀ q, q ≠ 0 → q ≠ 1 → 7 < q → m'.1 q = m.1 q) ∧ (m'.1 0 3 = r ∧ m'.1 0 4 = c ∧ m'.1 0 5 = nI nc ∧ m'.1 0 7 = nI nf) ∧ m'.1 0 18 = m.1 0 18 ∧ (m'.1 0 1 = 0 ∧ m'.1 0 2 = 0 ∧ m'.1 0 13 = 0) ∧ (∀ d, d < nc → m'.1 2 d = m.1 12 (3 * d) ∧ m'.1 1 (1 + d) = m.1 12 (3 * d + 1) ∧ m'.1 1 (7 + d) = (if m.1 12 (3 * d + 2) = m.1 12 (3 * d + 1) then -4 else m.1 12 (3 * d + 2)) ∧ m'.1 1 (4 + d) = 0) ∧ (∀ f, f < nf → m'.1 3 f = m.1 13 (5 * f) ∧ m'.1 4 f = m.1 13 (5 * f + 1) ∧ m'.1 5 f = m.1 13 (5 * f + 2) ∧ m'.1 6 f = m.1 13 (5 * f + 3) ∧ m'.1 7 f = m.1 13 (5 * f + 4) ∧ m'.1 1 (11 + f) = -4) ∧ m'.1 1 0 = 0 ∧ m'.1 1 10 = 0 ∧ m'.1 1 18 = 0 := by
  obtain ⟨r1, r2, r3, r4⟩ := hr
  unfold f_X9_begins
  simp only [fl_lm]
  rw [mI_j (show (22 : Nat) ≠ 3 by omega), mI_j (show (23 : Nat) ≠ 4 by omega), mI_j (show (23 : Nat) ≠ 3 by omega), mI_j (show (25 : Nat) ≠ 5 by omega), mI_j (show (25 : Nat) ≠ 4 by omega), mI_j (show (25 : Nat) ≠ 3 by omega), r1, r2, r3, r4]
  generalize hm0 : mI (mI (mI (mI m 0 3 r) 0 4 c) 0 5 (nI nc)) 0 7 (nI nf) = m0
  have o0 : ∀ q, q ≠ 0 → m0.1 q = m.1 q := fun q hq => by rw [← hm0, mI_ne q hq, mI_ne q hq, mI_ne q hq, mI_ne q hq]
  have o00 : ∀ j, j ≠ 3 → j ≠ 4 → j ≠ 5 → j ≠ 7 → m0.1 0 j = m.1 0 j := fun j a b d e => by rw [← hm0, mI_j e, mI_j d, mI_j b, mI_j a]
  have z3 : m0.1 0 3 = r := by rw [← hm0, mI_j (by omega), mI_j (by omega), mI_j (by omega), mI_s]
  have z4 : m0.1 0 4 = c := by rw [← hm0, mI_j (by omega), mI_j (by omega), mI_s]
  have z5 : m0.1 0 5 = nI nc := by rw [← hm0, mI_j (by omega), mI_s]
  have z7 : m0.1 0 7 = nI nf := by rw [← hm0, mI_s]
  obtain ⟨n, rfl⟩ : ∃ n, N = n + (nf + 1) + (nc + 1) + (19 + 1) := ⟨N - (nf + 1) - (nc + 1) - 20, by omega⟩
  obtain ⟨m1, a1, a2, a3⟩ := m_zero (N := n + (nf + 1) + (nc + 1) + (19 + 1)) (n := n + (nf + 1) + (nc + 1)) 19 0 m0 rfl
  obtain ⟨m2, b1, b2, b3, b4, -⟩ := m_cabsB (N := n + (nf + 1) + (nc + 1) + (19 + 1)) (n := n + (nf + 1)) hnc nc 0 m1 (by omega) (by rw [a2 0 (by omega)]; exact z5)
  obtain ⟨m3, d1, d2, d3, d4, d5, d6, -⟩ := m_faresB (N := n + (nf + 1) + (nc + 1) + (19 + 1)) (n := n) hnf nf 0 m2 (by omega) (by rw [b2 0 (by omega) (by omega), a2 0 (by omega)]; exact z7)
  have e0 : ∀ j, m2.1 0 j = m0.1 0 j := fun j => by rw [b2 0 (by omega) (by omega), a2 0 (by omega)]
  have e12 : m1.1 12 = m.1 12 := by rw [a2 12 (by omega), o0 12 (by omega)]
  have e13 : m2.1 13 = m.1 13 := by rw [b2 13 (by omega) (by omega), a2 13 (by omega), o0 13 (by omega)]
  have w : ∀ i, i < 19 → ¬ (1 ≤ i ∧ i < 1 + nc) → ¬ (7 ≤ i ∧ i < 7 + nc) → ¬ (11 ≤ i ∧ i < 11 + nf) → m3.1 1 i = 0 := fun i h x y z => by
    rw [d6 i (by omega), b4 i (by omega) (by omega), a3, if_pos (by omega)]
  refine ⟨m3, a1.trans (b1.trans d1), fun q x y z => ?_, ⟨?_, ?_, ?_, ?_⟩, ?_, d4, fun d hd => ?_, fun f hf => ?_, w 0 (by omega) (by omega) (by omega) (by omega), w 10 (by omega) (by omega) (by omega) (by omega), w 18 (by omega) (by omega) (by omega) (by omega)⟩
  · rw [d2 q x y (by omega), b2 q y (by omega), a2 q y, o0 q x]
  · rw [d3 3 (by omega) (by omega) (by omega), e0]; exact z3
  · rw [d3 4 (by omega) (by omega) (by omega), e0]; exact z4
  · rw [d3 5 (by omega) (by omega) (by omega), e0]; exact z5
  · rw [d3 7 (by omega) (by omega) (by omega), e0]; exact z7
  · rw [d3 18 (by omega) (by omega) (by omega), e0, o00 18 (by omega) (by omega) (by omega) (by omega)]
  · obtain ⟨x1, x2, x3⟩ := b3 d (by omega) hd
    rw [e12] at x1 x2 x3
    refine ⟨by rw [d2 2 (by omega) (by omega) (by omega)]; exact x1, by rw [d6 (1 + d) (by omega)]; exact x2, by rw [d6 (7 + d) (by omega)]; exact x3, w (4 + d) (by omega) (by omega) (by omega) (by omega)⟩
  · have := d5 f (by omega) hf
    rw [e13] at this
    exact this
theorem sim_lay {i N : Nat} {mx mm : Mem} (hN : 300 ≤ N) (h : Rl i mx mm) : Sim (i + 1) (f_X8_lay N mx) (f_X9_lay N mm) := by
  obtain ⟨rc, t, -, rd, rk, -⟩ := id h
  obtain ⟨n, a, hn, ht, hm⟩ := t.tx
  obtain ⟨v, mx1, mm1, e1, e2, e3, e4, e5⟩ := read_all (K := 14) hN (by omega) hn ht hm
  have hlook := read_rl h e3 e4
  have bad : Sim (i + 1) (some ((-2 : Int32), mx1)) (some ((-2 : Int32), mm1)) := ok_ret (ok_ret ⟨rfl, hlook⟩)
  unfold f_X8_lay f_X9_lay
  rw [e1, e2, fl_bd_s, fl_bd_s]
  refine sim_if (fun hv => ?_) (fun _ => bad)
  obtain ⟨nc, nf, hcr, -⟩ := e5 hv
  rw [hcr.2.2.1.2.2.1, hcr.2.2.1.2.2.2, hcr.2.2.2.1.2.2.1, hcr.2.2.2.1.2.2.2]
  refine sim_if (fun _ => bad) (fun hnc0 => sim_if (fun _ => bad) (fun hnf0 => ?_))
  have hnc1 : 1 ≤ nc := by
    rcases Nat.eq_zero_or_pos nc with q | q
    · exact absurd (by rw [q]; rfl) hnc0
    · exact q
  have hnf1 : 1 ≤ nf := by
    rcases Nat.eq_zero_or_pos nf with q | q
    · exact absurd (by rw [q]; rfl) hnf0
    · exact q
  -- the second reading, into the city itself
  obtain ⟨v', mx2, mm2, f1, f2, f3, f4, f5⟩ := read_all (K := 4) hN (by omega) hn (e3.tx (by omega) ht) hm
  rw [e2] at f2
  injection f2 with f2
  injection f2 with fv fm
  subst fv fm
  obtain ⟨nc', nf', hc2, hw2⟩ := f5 hv
  have hnc' : nc' = nc := by
    have := hc2.2.2.2.1.2.2.1
    rw [hcr.2.2.2.1.2.2.1] at this
    exact (nI_inj (by have := hcr.1; omega) (by have := hc2.1; omega) this).symm
  have hnf' : nf' = nf := by
    have := hc2.2.2.2.1.2.2.2
    rw [hcr.2.2.2.1.2.2.2] at this
    exact (nI_inj (by have := hcr.2.1; omega) (by have := hc2.2.1; omega) this).symm
  subst hnc' hnf'
  have hW : RWx 4 mx2 := hw2 (fun c hc => by
    rw [e3.1 6 (by omega) (by omega) (by omega), e3.1 7 (by omega) (by omega) (by omega)]
    exact rc.2.1.2.2.2 c hc)
  obtain ⟨h3, h7, ⟨k1, k2, k3, k4⟩, hrd, w1, w2, hcab, hfare⟩ := hc2
  obtain ⟨r3, mx3, g1, gk, ⟨g24, g242⟩, ⟨g26, g262⟩, g28, g39, g4, g43⟩ := x_begin (N := N) (m := mx2) (by omega)
  obtain ⟨mm3, b1, bk, ⟨b3, b4, b5, b7⟩, b18, ⟨u1, u2, u13⟩, bc, bf, bz0, bz10, bz18⟩ := m_begins (N := N) (by omega) hrd h3 h7
  have x4 : mx3.1 4 = mx2.1 4 := gk 4 (by omega) (by omega) (by omega) (by omega)
  rw [f1, fl_bd_s, g1, fl_bd_s, b1, fl_bd_s]
  unfold f_X0_places f_X9_places
  rw [fl_bd_s, fl_bd_s]
  have i2 : (nI nc').toNatClampNeg = nc' := i_c (by omega)
  have i3 : (nI nf').toNatClampNeg = nf' := i_c (by omega)
  have eC : xC mx3 = mC_ mm3 := by
    unfold xC mC_
    rw [x4, k2, k3, k4, b4, b5, b7, i2, i3, gk 5 (by omega) (by omega) (by omega) (by omega), gk 8 (by omega) (by omega) (by omega) (by omega), gk 9 (by omega) (by omega) (by omega) (by omega), gk 10 (by omega) (by omega) (by omega) (by omega), gk 11 (by omega) (by omega) (by omega) (by omega), gk 12 (by omega) (by omega) (by omega) (by omega)]
    rw [rs_cong (n := nc') (g := mx2.1 5) (g' := mm3.1 2) (fun c hc => by rw [(bc c hc).1]; exact (hcab c hc).1)]
    rw [rs_cong (n := nf') (g := mx2.1 8) (g' := mm3.1 3) (fun f hf => by rw [(bf f hf).1]; exact (hfare f hf).1)]
    rw [rs_cong (n := nf') (g := mx2.1 9) (g' := mm3.1 4) (fun f hf => by rw [(bf f hf).2.1]; exact (hfare f hf).2.1)]
    rw [rs_cong (n := nf') (g := mx2.1 10) (g' := mm3.1 5) (fun f hf => by rw [(bf f hf).2.2.1]; exact (hfare f hf).2.2.1)]
    rw [rs_cong (n := nf') (g := mx2.1 11) (g' := mm3.1 6) (fun f hf => by rw [(bf f hf).2.2.2.1]; exact (hfare f hf).2.2.2.1)]
    rw [rs_cong (n := nf') (g := mx2.1 12) (g' := mm3.1 7) (fun f hf => by rw [(bf f hf).2.2.2.2.1]; exact (hfare f hf).2.2.2.2.1)]
  have eN : cN (xC mx3) = nc' := by show (mx3.1 4 2).toNatClampNeg = nc'; rw [x4, k3, i2]
  have eM : cM (xC mx3) = nf' := by show (mx3.1 4 3).toNatClampNeg = nf'; rw [x4, k4, i3]
  have okx : okC (xC mx3) := by
    refine ⟨by show wdt (mx3.1 4 1); rw [x4, k2]; exact w2, by rw [eN]; omega, by rw [eM]; omega, fun f hf => ?_⟩
    rw [xc_qF hf, xc_qT hf, xc_qS hf, xc_qB hf, gk 9 (by omega) (by omega) (by omega) (by omega), gk 10 (by omega) (by omega) (by omega) (by omega), gk 11 (by omega) (by omega) (by omega) (by omega), gk 12 (by omega) (by omega) (by omega) (by omega)]
    rw [eM] at hf
    obtain ⟨-, -, -, -, -, q1, q2, q3, q4⟩ := hfare f hf
    exact ⟨q1, q2, q3, q4⟩
  have hRC : RC mx3 mm3 := by
    refine ⟨eC, ⟨okx, by rw [x4, k3, nI_toInt (by omega)]; omega, by rw [x4, k4, nI_toInt (by omega)]; omega, fun c hc => by rw [gk 6 (by omega) (by omega) (by omega) (by omega), gk 7 (by omega) (by omega) (by omega) (by omega)]; exact hW c hc⟩, ⟨by rw [← eC]; exact okx, by rw [b5, nI_toInt (by omega)]; omega, by rw [b7, nI_toInt (by omega)]; omega⟩, by rw [x4, k1]; exact w1, by rw [x4, k1, b3]⟩
  refine ok_ret (ok_ret ⟨?_, hRC, ?_, ?_, ?_, ?_, ?_⟩)
  · rw [x4, k1, k2, b3, b4]
  · obtain ⟨n', h1, h2, h3', h4⟩ := t
    refine ⟨n', h1, ?_, ?_, fun j hj => ?_⟩
    · rw [gk 1 (by omega) (by omega) (by omega) (by omega), f3.2 1 (by omega), e3.2 1 (by omega)]; exact h2
    · rw [b18, e4.2 18 (by omega)]; exact h3'
    · rw [gk 2 (by omega) (by omega) (by omega) (by omega), f3.1 2 (by omega) (by omega) (by omega), e3.1 2 (by omega) (by omega) (by omega), bk 11 (by omega) (by omega) (by omega), e4.1 11 (by omega) (by omega) (by omega)]
      exact h4 j hj
  · rw [← eC]
    refine ⟨?_, ⟨by rw [g39]; unfold tb; exact ⟨by decide, by show (0 : Int) ≤ _; omega⟩, fun c hc => ?_⟩, 0, 0, by exact Nat.pos_of_ne_zero (by simp), by exact Nat.pos_of_ne_zero (by simp), by rw [Nat.zero_add, bz10]; rfl, by rw [Nat.zero_add, bz18]; rfl, fun _ _ => Nat.zero_testBit _, fun f hf => ?_⟩
    · unfold xP mP
      rw [eN, g39, bz0]
      have p1 : rs nc' (mx3.1 (39 + 1)) = rs nc' (fun c => mm3.1 1 (0 + 1 + c)) := rs_cong (fun c hc => by rw [(g4 c (by omega)).1, show 0 + 1 + c = 1 + c by omega, (bc c hc).2.1]; exact (hcab c hc).2.1)
      have p2 : rs nc' (mx3.1 (39 + 2)) = rs nc' (fun c => mm3.1 1 (0 + 4 + c)) := rs_cong (fun c hc => by rw [(g4 c (by omega)).2.1, show 0 + 4 + c = 4 + c by omega, (bc c hc).2.2.2])
      have p3 : rs nc' (mx3.1 (39 + 3)) = rs nc' (fun c => mm3.1 1 (0 + 7 + c)) := rs_cong (fun c hc => by rw [(g4 c (by omega)).2.2, show 0 + 7 + c = 7 + c by omega, (bc c hc).2.2.1]; exact (hcab c hc).2.2)
      rw [p1, p2, p3]
    · rw [(g4 c hc).1, (g4 c hc).2.1, (g4 c hc).2.2]
      exact ⟨(hW c hc).1, ⟨by decide, by unfold tb; show (0 : Int) ≤ _; omega⟩, (hW c hc).2⟩
    · rw [eM] at hf
      rw [(g43 f (by omega)).1, (g43 f (by omega)).2, show 0 + 11 + f = 11 + f by omega, (bf f hf).2.2.2.2.2, Nat.zero_testBit]
      exact ⟨rfl, ⟨fun q => (by cases q), fun q => absurd rfl q⟩, rfl⟩
  · obtain ⟨top, held, q1, q2, q3, q4, q5, q6⟩ := rd
    exact ⟨top, 0, q1, by omega, by rw [g24, f3.1 24 (by omega) (by omega) (by omega), e3.1 24 (by omega) (by omega) (by omega)]; exact q3, by rw [g242]; rfl, by rw [u1]; rfl, fun j hj => absurd hj (Nat.not_lt_zero j)⟩
  · obtain ⟨top, held, q1, q2, q3, q4, q5, q6⟩ := rk
    exact ⟨top, 0, q1, by omega, by rw [g26, f3.1 26 (by omega) (by omega) (by omega), e3.1 26 (by omega) (by omega) (by omega)]; exact q3, by rw [g262]; rfl, by rw [u2]; rfl, fun j hj => absurd hj (Nat.not_lt_zero j)⟩
  · exact ⟨0, by omega, by rw [g28]; rfl, by rw [u13]; rfl, fun j hj => absurd hj (Nat.not_lt_zero j)⟩
