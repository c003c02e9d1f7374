/-! ===== the face, one by one: what only reads, and what writes a little ===== -/
theorem i_ckz {j : Nat} {z : Int} (h : (j : Int) < z) (hz : z ≤ 2147483647) : 0 ≤ (nI j).toInt ∧ (nI j).toInt < z := by
  rw [nI_toInt (by omega)]; omega
theorem ok_b {α : Type} {Q : α → Mem → Prop} {b : Bool} {A B : Option (α × Mem)} (h1 : b = false → Ok A Q) (h2 : b = true → Ok B Q) : Ok (if b2i b = 0 then A else B) Q := by
  cases b with
  | false => exact ok_t rfl (h1 rfl)
  | true => exact ok_f (by decide) (h2 rfl)
theorem RC.w {mx mm : Mem} (h : RC mx mm) : mx.1 4 1 = mm.1 0 4 := congrArg (fun C : Cf => C.1) h.1
theorem RC.ww {mx mm : Mem} (h : RC mx mm) : wdt (mx.1 4 1) := h.2.1.1.1
theorem RC.k {mx mm : Mem} {c : Nat} (h : RC mx mm) (hc : c < cN (mC_ mm)) : mx.1 5 c = mm.1 2 c := by rw [← xc_K (by rw [h.1]; exact hc), ← mc_K hc, h.1]
theorem RC.f8 {mx mm : Mem} {f : Nat} (h : RC mx mm) (hf : f < cM (mC_ mm)) : mx.1 8 f = mm.1 3 f := by rw [← xc_qK (by rw [h.1]; exact hf), ← mc_qK hf, h.1]
theorem RC.f9 {mx mm : Mem} {f : Nat} (h : RC mx mm) (hf : f < cM (mC_ mm)) : mx.1 9 f = mm.1 4 f := by rw [← xc_qF (by rw [h.1]; exact hf), ← mc_qF hf, h.1]
theorem RC.f10 {mx mm : Mem} {f : Nat} (h : RC mx mm) (hf : f < cM (mC_ mm)) : mx.1 10 f = mm.1 5 f := by rw [← xc_qT (by rw [h.1]; exact hf), ← mc_qT hf, h.1]
theorem RC.f11 {mx mm : Mem} {f : Nat} (h : RC mx mm) (hf : f < cM (mC_ mm)) : mx.1 11 f = mm.1 6 f := by rw [← xc_qS (by rw [h.1]; exact hf), ← mc_qS hf, h.1]
theorem RC.f12 {mx mm : Mem} {f : Nat} (h : RC mx mm) (hf : f < cM (mC_ mm)) : mx.1 12 f = mm.1 7 f := by rw [← xc_qB (by rw [h.1]; exact hf), ← mc_qB hf, h.1]
theorem RC.c2 {mx mm : Mem} (h : RC mx mm) : mx.1 4 2 = mm.1 0 5 := by rw [xc_n h.2.1, mc_n h.2.2.1, h.1]
theorem RC.c3 {mx mm : Mem} (h : RC mx mm) : mx.1 4 3 = mm.1 0 7 := by rw [xc_m h.2.1, mc_m h.2.2.1, h.1]
theorem FR.p0 {C : Cf} {mx mm : Mem} {S r : Nat} {B : Int} (h : FR C mx mm S r B) : mx.1 S 0 = mm.1 1 r := congrArg (fun P : Ps => P.1) h.1
theorem FR.p1 {C : Cf} {mx mm : Mem} {S r c : Nat} {B : Int} (h : FR C mx mm S r B) (hc : c < cN C) : mx.1 (S + 1) c = mm.1 1 (r + 1 + c) := by
  have := congrFun (congrArg (fun P : Ps => P.2.1) h.1) c
  exact (rs_lt (g := mx.1 (S + 1)) hc).symm.trans (this.trans (rs_lt (g := fun c => mm.1 1 (r + 1 + c)) hc))
theorem FR.p2 {C : Cf} {mx mm : Mem} {S r c : Nat} {B : Int} (h : FR C mx mm S r B) (hc : c < cN C) : mx.1 (S + 2) c = mm.1 1 (r + 4 + c) := by
  have := congrFun (congrArg (fun P : Ps => P.2.2.1) h.1) c
  exact (rs_lt (g := mx.1 (S + 2)) hc).symm.trans (this.trans (rs_lt (g := fun c => mm.1 1 (r + 4 + c)) hc))
theorem FR.p3 {C : Cf} {mx mm : Mem} {S r c : Nat} {B : Int} (h : FR C mx mm S r B) (hc : c < cN C) : mx.1 (S + 3) c = mm.1 1 (r + 7 + c) := by
  have := congrFun (congrArg (fun P : Ps => P.2.2.2) h.1) c
  exact (rs_lt (g := mx.1 (S + 3)) hc).symm.trans (this.trans (rs_lt (g := fun c => mm.1 1 (r + 7 + c)) hc))
theorem FR.P {mx mm : Mem} {S r : Nat} {B : Int} (hc : RC mx mm) (h : FR (mC_ mm) mx mm S r B) : xPm mx S = mPm mm r := by
  unfold xPm mPm
  rw [hc.1]
  exact h.1
theorem FR.okm {mx mm : Mem} {S r : Nat} {B : Int} (hc : RC mx mm) (h : FR (mC_ mm) mx mm S r B) : okP (mC_ mm) (mPm mm r) B := by
  have := h.2.1.okP hc.2.1
  rw [← FR.P hc h, ← hc.1]
  exact this
theorem sim_b {i : Nat} {b : Bool} {A B A' B' : Option (Int32 × Mem)} (e1 : b = false → Sim i A A') (e2 : b = true → Sim i B B') : Sim i (if b2i b = 0 then A else B) (if b2i b = 0 then A' else B') := by
  cases b with
  | false => exact e1 rfl
  | true => exact e2 rfl
theorem sim_eq {i : Nat} {α β : Type} {ox : Option (α × Mem)} {om : Option (β × Mem)} {fx : α → Mem → Option (Int32 × Mem)} {fm : β → Mem → Option (Int32 × Mem)} {r : α} {r' : β} {mx' mm' : Mem} (hx : ox = some (r, mx')) (hm : om = some (r', mm')) (k : Sim i (fx r mx') (fm r' mm')) : Sim i (fl_bd ox fx) (fl_bd om fm) := by
  rw [hx, hm]; exact k
theorem sim_same {i : Nat} {mx mm : Mem} (h : Rl i mx mm) {v w : Int32} (e : v = w) : Sim (i + 1) (some (v, mx)) (some (w, mm)) := ok_ret (ok_ret ⟨e, h.same⟩)
theorem sim_if {i : Nat} {c : Prop} [Decidable c] {A B A' B' : Option (Int32 × Mem)} (e1 : c → Sim i A A') (e2 : ¬ c → Sim i B B') : Sim i (if c then A else B) (if c then A' else B') := by
  by_cases h : c
  · rw [if_pos h, if_pos h]; exact e1 h
  · rw [if_neg h, if_neg h]; exact e2 h
theorem sim_cab {i : Nat} {mx mm : Mem} (h : Rl i mx mm) (x : Int32) {fx fm : Mem → Option (Int32 × Mem)} (k : ∀ c, c < cN (mC_ mm) → x = nI c → Sim (i + 1) (fx mx) (fm mm)) : Sim (i + 1) (fl_bd (f_X0_hasCab 4 x mx) (fun r m2 => if r = 0 then some (-1, m2) else fx m2)) (fl_bd (f_X9_isCab x mm) (fun r m2 => if r = 0 then some (-1, m2) else fm m2)) := by
  obtain ⟨c, -⟩ := id h
  refine sim_eq (x_hasCab c.2.1) (m_isCab c.2.2.1) ?_
  rw [c.n]
  refine sim_b (fun _ => sim_same h rfl) (fun q => ?_)
  obtain ⟨j, hj, e⟩ := rng_t q
  exact k j hj e
theorem sim_fareq {i : Nat} {mx mm : Mem} (h : Rl i mx mm) (x : Int32) {fx fm : Mem → Option (Int32 × Mem)} (k : ∀ f, f < cM (mC_ mm) → x = nI f → Sim (i + 1) (fx mx) (fm mm)) : Sim (i + 1) (fl_bd (f_X0_hasFare 4 x mx) (fun r m2 => if r = 0 then some (-1, m2) else fx m2)) (fl_bd (f_X9_isFare x mm) (fun r m2 => if r = 0 then some (-1, m2) else fm m2)) := by
  obtain ⟨c, -⟩ := id h
  refine sim_eq (x_hasFare c.2.1) (m_isFare c.2.2.1) ?_
  rw [c.m]
  refine sim_b (fun _ => sim_same h rfl) (fun q => ?_)
  obtain ⟨j, hj, e⟩ := rng_t q
  exact k j hj e
theorem sim_placeq {i : Nat} {mx mm : Mem} (h : Rl i mx mm) (x : Int32) {fx fm : Mem → Option (Int32 × Mem)} (k : ∀ p, p < nPl (mm.1 0 3) (mm.1 0 4) → x = nI p → Sim (i + 1) (fx mx) (fm mm)) : Sim (i + 1) (fl_bd (f_X0_hasPlace 4 x mx) (fun r m2 => if r = 0 then some (-1, m2) else fx m2)) (fl_bd (f_X9_isPlace x mm) (fun r m2 => if r = 0 then some (-1, m2) else fm m2)) := by
  obtain ⟨c, -⟩ := id h
  have hr := c.2.2.2.2
  refine sim_eq (x_hasPlace c.2.2.2.1 c.ww) (m_isPlace (by rw [← hr]; exact c.2.2.2.1) c.ok.1) ?_
  rw [hr, c.w]
  refine sim_b (fun _ => sim_same h rfl) (fun q => ?_)
  obtain ⟨j, hj, e⟩ := rng_t q
  exact k j hj e
theorem sim_rngq {i : Nat} {mx mm : Mem} (h : Rl i mx mm) (x : Int32) {lo hi : Int32} {lo' hi' : Int64} (e1 : lo'.toInt = lo.toInt) (e2 : hi'.toInt = hi.toInt) {fx fm : Mem → Option (Int32 × Mem)} (k : lo.toInt ≤ x.toInt → x.toInt ≤ hi.toInt → Sim (i + 1) (fx mx) (fm mm)) : Sim (i + 1) (fl_bd (f_X8_within x lo hi mx) (fun r m2 => if r = 0 then some (-1, m2) else fx m2)) (fl_bd (f_X9_in x.toInt64 lo' hi' mm) (fun r m2 => if r = 0 then some (-1, m2) else fm m2)) := by
  refine sim_eq x_within m_inI ?_
  rw [e1, e2]
  refine sim_b (fun _ => sim_same h rfl) (fun q => ?_)
  have q := of_decide_eq_true q
  exact k q.1 q.2
theorem sim_far {i : Nat} {mx mm : Mem} (h : Rl i mx mm) (a b : Int32) : Sim (i + 1) (f_X8_far a b mx) (f_X9_far a b mm) := by
  obtain ⟨c, -⟩ := id h
  unfold f_X8_far f_X9_far
  exact sim_placeq h a (fun _ _ _ => sim_placeq h b (fun _ _ _ => sim_eq (x_steps c.ww) (m_farOf c.ok.1) (sim_same h (by rw [c.w]))))
theorem sim_wipe {i : Nat} {mx mm : Mem} (h : Rl i mx mm) : Sim (i + 1) (f_X8_wipe mx) (f_X9_wipe mm) := by
  obtain ⟨c, t, f, d, k, s⟩ := id h
  obtain ⟨n, h1, h2, h3, h4⟩ := t
  unfold Sim f_X8_wipe f_X9_wipe
  refine ok_li (fun z hz => ok_lm (fun m1 e1 => ok_ret (ok_li (fun z' hz' => ok_lm (fun m2 e2 => ok_ret ⟨by rw [hz, hz', h2, h3], ?_⟩)))))
  have hx : ∀ k j, (k ≠ 1 ∨ j ≠ 1) → m1.1 k j = mx.1 k j := fun k j q => by
    rw [e1, mI_g]
    by_cases a : k = 1
    · subst a; rw [if_pos rfl, if_neg (by omega)]
    · rw [if_neg a]
  have hm : ∀ k j, (k ≠ 0 ∨ j ≠ 18) → m2.1 k j = mm.1 k j := fun k j q => by
    rw [e2, mI_g]
    by_cases a : k = 0
    · subst a; rw [if_pos rfl, if_neg (by omega)]
    · rw [if_neg a]
  have kx : ∀ k, k ≠ 1 → m1.1 k = mx.1 k := fun k hk => funext fun j => hx k j (Or.inl hk)
  have km : ∀ k, k ≠ 0 → m2.1 k = mm.1 k := fun k hk => funext fun j => hm k j (Or.inl hk)
  obtain ⟨c', ec⟩ := c.cong (mx' := m1) (mm' := m2) (fun q a b => kx q (by omega)) (fun q _ a b => km q (by omega)) (hm 0 3 (by omega)) (hm 0 4 (by omega)) (hm 0 5 (by omega)) (hm 0 7 (by omega))
  refine ⟨c', ⟨0, by omega, by rw [e1, mI_s]; rfl, by rw [e2, mI_s]; rfl, fun j hj => by omega⟩, ?_, ?_, ?_, ?_⟩
  · rw [ec]
    exact (f.cong c.ok (fun q a b => kx q (by omega)) (fun j a b => by rw [km 1 (by omega)])).wk (tb_le i)
  · obtain ⟨top, held, g1, g2, g3, g4, g5, g6⟩ := d
    refine ⟨top, held, g1, g2, by rw [kx 24 (by omega)]; exact g3, by rw [kx 24 (by omega)]; exact g4, by rw [hm 0 1 (by omega)]; exact g5, fun j hj => ?_⟩
    rw [ec]
    exact ((g6 j hj).cong c.ok (fun q a b => kx q (by omega)) (fun j a b => by rw [km 1 (by omega)])).wk (tb_le i)
  · obtain ⟨top, held, g1, g2, g3, g4, g5, g6⟩ := k
    refine ⟨top, held, g1, g2, by rw [kx 26 (by omega)]; exact g3, by rw [kx 26 (by omega)]; exact g4, by rw [hm 0 2 (by omega)]; exact g5, fun j hj => ?_⟩
    rw [ec]
    exact ((g6 j hj).cong c.ok (fun q a b => kx q (by omega)) (fun j a b => by rw [km 1 (by omega)])).wk (tb_le i)
  · obtain ⟨n, g1, g2, g3, g4⟩ := s
    refine ⟨n, g1, by rw [kx 28 (by omega)]; exact g2, by rw [hm 0 13 (by omega)]; exact g3, fun j hj => ?_⟩
    rw [kx 29 (by omega), kx 30 (by omega), kx 31 (by omega), km 8 (by omega), km 9 (by omega), km 10 (by omega), ec]
    exact g4 j hj
/-- what stays when only the text, what is seen, or cells that don't count have changed -/
theorem Rl.part {i : Nat} {mx mm m1 m2 : Mem} (h : Rl i mx mm) (kx : ∀ k, k ≠ 0 → k ≠ 1 → k ≠ 2 → k ≠ 3 → k ≠ 13 → (k < 14 ∨ (24 ≤ k ∧ k < 28) ∨ (39 ≤ k ∧ k < 45) ∨ (51 ≤ k ∧ k < 111)) → m1.1 k = mx.1 k) (hm : ∀ j, (j = 3 ∨ j = 4 ∨ j = 5 ∨ j = 7 ∨ j = 1 ∨ j = 2) → m2.1 0 j = mm.1 0 j) (hm1 : ∀ j, (j < 19 ∨ (38 ≤ j ∧ j < 228)) → m2.1 1 j = mm.1 1 j) (km : ∀ k, 2 ≤ k → k < 8 → m2.1 k = mm.1 k) (ht : RT m1 m2) (hs : mC_ m2 = mC_ mm → RS m1 m2) : Rl (i + 1) m1 m2 := by
  obtain ⟨c, t, f, d, k, s⟩ := id h
  obtain ⟨c', ec⟩ := c.cong (mx' := m1) (mm' := m2) (fun q a b => kx q (by omega) (by omega) (by omega) (by omega) (by omega) (by omega)) (fun q _ a b => km q a b) (hm 3 (by omega)) (hm 4 (by omega)) (hm 5 (by omega)) (hm 7 (by omega))
  refine ⟨c', ht, ?_, ?_, ?_, hs ec⟩
  · rw [ec]
    exact (f.cong c.ok (fun q a b => kx q (by omega) (by omega) (by omega) (by omega) (by omega) (by omega)) (fun j a b => hm1 j (by omega))).wk (tb_le i)
  · obtain ⟨top, held, g1, g2, g3, g4, g5, g6⟩ := d
    refine ⟨top, held, g1, g2, by rw [kx 24 (by omega) (by omega) (by omega) (by omega) (by omega) (by omega)]; exact g3, by rw [kx 24 (by omega) (by omega) (by omega) (by omega) (by omega) (by omega)]; exact g4, by rw [hm 1 (by omega)]; exact g5, fun j hj => ?_⟩
    rw [ec]
    exact ((g6 j hj).cong c.ok (fun q a b => kx q (by omega) (by omega) (by omega) (by omega) (by omega) (by omega)) (fun j a b => hm1 j (by omega))).wk (tb_le i)
  · obtain ⟨top, held, g1, g2, g3, g4, g5, g6⟩ := k
    refine ⟨top, held, g1, g2, by rw [kx 26 (by omega) (by omega) (by omega) (by omega) (by omega) (by omega)]; exact g3, by rw [kx 26 (by omega) (by omega) (by omega) (by omega) (by omega) (by omega)]; exact g4, by rw [hm 2 (by omega)]; exact g5, fun j hj => ?_⟩
    rw [ec]
    exact ((g6 j hj).cong c.ok (fun q a b => kx q (by omega) (by omega) (by omega) (by omega) (by omega) (by omega)) (fun j a b => hm1 j (by omega))).wk (tb_le i)
theorem nI_inj {a b : Nat} (ha : a < 2147483648) (hb : b < 2147483648) (h : nI a = nI b) : a = b := (nI_eq ha hb).mp h
theorem letter_tab : ∀ n, n < 127 → ((nI n).toUInt32 % 65536).toInt32 = nI n ∧ vp_nar .char (nI n) = nI n := by decide +kernel
theorem sim_write {i : Nat} {mx mm : Mem} (h : Rl i mx mm) (a : Int32) : Sim (i + 1) (f_X8_write a mx) (f_X9_write a mm) := by
  obtain ⟨c, t, f, d, k, s⟩ := id h
  obtain ⟨n, h1, h2, h3, h4⟩ := t
  unfold Sim f_X8_write f_X9_write
  refine ok_eq x_within (ok_b (fun q => ok_ret (ok_eq m_inI ?_)) (fun q => ?_))
  · rw [show (32 : Int64).toInt = (32 : Int32).toInt from rfl, show (126 : Int64).toInt = (126 : Int32).toInt from rfl, q]
    exact ok_t rfl (ok_ret ⟨rfl, h.same⟩)
  have ha : 32 ≤ a.toInt ∧ a.toInt ≤ 126 := of_decide_eq_true q
  have hl := letter_tab a.toInt.toNat (by omega)
  rw [← i_nat (by omega)] at hl
  have bd : ∀ {Q : Int32 → Mem → Prop}, Ok (if mm.1 0 18 = 200 then some (-3, mm) else fl_ck (0 ≤ (mm.1 0 18).toInt ∧ (mm.1 0 18).toInt < 200) (fl_lm (mI mm 11 (mm.1 0 18).toNatClampNeg a) (fun m7 => fl_lm (mI m7 0 18 (m7.1 0 18 + 1)) (fun m9 => some (m9.1 0 18, m9))))) Q → Ok (fl_bd (f_X9_in a.toInt64 32 126 mm) (fun r1 m2 => if r1 = 0 then some (-1, m2) else if m2.1 0 18 = 200 then some (-3, m2) else fl_ck (0 ≤ (m2.1 0 18).toInt ∧ (m2.1 0 18).toInt < 200) (fl_lm (mI m2 11 (m2.1 0 18).toNatClampNeg a) (fun m7 => fl_lm (mI m7 0 18 (m7.1 0 18 + 1)) (fun m9 => some (m9.1 0 18, m9)))))) Q := by
    intro Q hq
    refine ok_eq m_inI ?_
    rw [show (32 : Int64).toInt = (32 : Int32).toInt from rfl, show (126 : Int64).toInt = (126 : Int32).toInt from rfl, q]
    exact ok_f (by decide) hq
  unfold f_X6_add
  rw [hl.1, hl.2, h2]
  by_cases hn : n < 200
  · refine ok_eq (r := 1) (m1 := mI (mI mx 2 n a) 1 1 (nI (n + 1))) ?_ (ok_f (by decide) (ok_ret (bd ?_)))
    · rw [if_pos (show nI n < (200 : Int32) from nI_lt (b := 200) hn (by omega)), fl_ck_t (i_ckz (z := 200) (by omega) (by decide)), i_c (by omega)]
      show some (_, mI _ _ _ ((mI mx 2 n a).1 1 1 + 1)) = _
      rw [mI_ne 1 (by omega), h2, nI_1]
    · rw [h3]
      refine ok_f (fun e => ?_) (ok_ck (i_ck (n := 200) hn (by decide)) ?_)
      · have := nI_inj (by omega) (by omega) (show nI n = nI 200 from e)
        omega
      rw [i_c (by omega)]
      refine ok_lm (fun m7 e7 => ok_lm (fun m9 e9 => ok_ret ?_))
      have e71 : m7.1 0 18 = nI n := by rw [e7, mI_ne 0 (by omega), h3]
      rw [e71, nI_1] at e9
      refine ⟨by rw [e9, mI_s, mI_s], ?_⟩
      have gx : ∀ k, k ≠ 1 → k ≠ 2 → (mI (mI mx 2 n a) 1 1 (nI (n + 1))).1 k = mx.1 k := fun k a b => by rw [mI_ne k a, mI_ne k b]
      have gm : ∀ k, k ≠ 0 → k ≠ 11 → m9.1 k = mm.1 k := fun k a b => by rw [e9, mI_ne k a, e7, mI_ne k b]
      have gm0 : ∀ j, j ≠ 18 → m9.1 0 j = mm.1 0 j := fun j hj => by rw [e9, mI_j hj, e7, mI_ne 0 (by omega)]
      refine h.part (fun k a b d _ _ _ => gx k b d) (fun j hj => gm0 j (by omega)) (fun j _ => by rw [gm 1 (by omega) (by omega)]) (fun k a b => gm k (by omega) (by omega)) ?_ (fun ec => ?_)
      · refine ⟨n + 1, by omega, by rw [mI_s], by rw [e9, mI_s], fun j hj => ?_⟩
        rw [mI_ne 2 (by omega), e9, mI_ne 11 (by omega), e7, mI_g, mI_g, if_pos rfl, if_pos rfl]
        by_cases q : j = n
        · rw [if_pos q, if_pos q]
          exact ⟨rfl, ha⟩
        · rw [if_neg q, if_neg q]
          exact h4 j (by omega)
      · obtain ⟨n', g1, g2, g3, g4⟩ := s
        refine ⟨n', g1, by rw [gx 28 (by omega) (by omega)]; exact g2, by rw [gm0 13 (by omega)]; exact g3, fun j hj => ?_⟩
        rw [gx 29 (by omega) (by omega), gx 30 (by omega) (by omega), gx 31 (by omega) (by omega), gm 8 (by omega) (by omega), gm 9 (by omega) (by omega), gm 10 (by omega) (by omega), ec]
        exact g4 j hj
  · have e : n = 200 := by omega
    subst e
    refine ok_eq (r := 0) (m1 := mx) ?_ (ok_t rfl (ok_ret (bd ?_)))
    · rw [if_neg (show ¬ nI 200 < (200 : Int32) by decide)]
    · rw [h3]
      exact ok_t rfl (ok_ret ⟨rfl, h.same⟩)
theorem sim_forget {i : Nat} {mx mm : Mem} (h : Rl i mx mm) : Sim (i + 1) (f_X8_forget mx) (f_X9_forget mm) := by
  obtain ⟨c, t, f, d, k, s⟩ := id h
  obtain ⟨n, h1, h2, h3, h4⟩ := s
  unfold Sim f_X8_forget f_X9_forget
  refine ok_li (fun z hz => ok_lm (fun m1 e1 => ok_ret (ok_li (fun z' hz' => ok_lm (fun m2 e2 => ok_ret ⟨by rw [hz, hz', h2, h3], ?_⟩)))))
  have kx : ∀ k, k ≠ 28 → m1.1 k = mx.1 k := fun k hk => by rw [e1, mI_ne k hk]
  have km : ∀ k, k ≠ 0 → m2.1 k = mm.1 k := fun k hk => by rw [e2, mI_ne k hk]
  have gm0 : ∀ j, j ≠ 13 → m2.1 0 j = mm.1 0 j := fun j hj => by rw [e2, mI_j hj]
  refine h.part (fun k _ _ _ _ _ _ => kx k (by omega)) (fun j hj => gm0 j (by omega)) (fun j _ => by rw [km 1 (by omega)]) (fun k a b => km k (by omega)) ?_ (fun ec => ⟨0, by omega, by rw [e1, mI_s]; rfl, by rw [e2, mI_s]; rfl, fun j hj => by omega⟩)
  obtain ⟨n, g1, g2, g3, g4⟩ := t
  refine ⟨n, g1, by rw [kx 1 (by omega)]; exact g2, by rw [gm0 18 (by omega)]; exact g3, fun j hj => ?_⟩
  rw [kx 2 (by omega), km 11 (by omega)]
  exact g4 j hj
theorem rng_nI {j n : Nat} (h : j < n) (hn : n < 2147483648) : rng (nI j) n = true := decide_eq_true (i_ck h hn)
theorem sim_see {i : Nat} {mx mm : Mem} (h : Rl i mx mm) (a b s3 : Int32) : Sim (i + 1) (f_X8_see a b s3 mx) (f_X9_see a b s3 mm) := by
  obtain ⟨c, t, f, d, k, s⟩ := id h
  obtain ⟨n, h1, h2, h3, h4⟩ := s
  have n3 := c.ok.2.1.2
  have n7 := c.ok.2.2.1.2
  unfold f_X8_see f_X9_see
  refine sim_cab h a (fun ca hca ea => sim_fareq h b (fun fa hfa eb => sim_rngq h s3 rfl rfl (fun _ _ => ?_)))
  unfold f_X3_add
  rw [h2, h3]
  by_cases hn : n < 6
  · rw [if_pos (show nI n < (6 : Int32) from nI_lt (b := 6) hn (by omega)), if_neg (show ¬ nI n = (6 : Int32) from fun e => by have := nI_inj (b := 6) (by omega) (by omega) e; omega)]
    have hck : 0 ≤ (nI n).toInt ∧ (nI n).toInt < 6 := i_ck (n := 6) hn (by decide)
    rw [fl_ck_t hck, fl_ck_t hck, i_c (by omega)]
    unfold Sim
    refine ok_x (o' := fl_bd (some ((1 : Int32), mI (mI (mI (mI mx 29 n a) 30 n b) 31 n s3) 28 3 (nI (n + 1)))) (fun r13 m14 => if r13 = 0 then some (-3, m14) else some (m14.1 28 3, m14))) ?_ ?_
    · congr 1
      show fl_ck _ _ = _
      simp only [fl_lm]
      rw [mI_ne 28 (by omega), h2, fl_ck_t hck, mI_ne 28 (by omega), mI_ne 28 (by omega), h2, fl_ck_t hck, i_c (by omega), mI_ne 28 (by omega), mI_ne 28 (by omega), mI_ne 28 (by omega), h2, nI_1]
    refine ok_eq rfl (ok_f (show ¬ (1 : Int32) = 0 by decide) (ok_ret ?_))
    refine ok_lm (fun m1 e1 => ok_ck (by rw [e1, mI_ne 0 (by omega), h3]; exact hck) (ok_lm (fun m2 e2 => ok_ck (by rw [e2, e1, mI_ne 0 (by omega), mI_ne 0 (by omega), h3]; exact hck) (ok_lm (fun m3 e3 => ok_lm (fun m4 e4 => ok_ret ?_))))))
    have g1 : m1.1 0 = mm.1 0 := by rw [e1, mI_ne 0 (by omega)]
    have g2 : m2.1 0 = mm.1 0 := by rw [e2, mI_ne 0 (by omega), g1]
    have g3 : m3.1 0 = mm.1 0 := by rw [e3, mI_ne 0 (by omega), g2]
    rw [g1, h3, i_c (by omega)] at e2
    rw [g2, h3, i_c (by omega)] at e3
    rw [g3, h3, nI_1] at e4
    refine ⟨by rw [e4, mI_s, mI_s], ?_⟩
    generalize hx : mI (mI (mI (mI mx 29 n a) 30 n b) 31 n s3) 28 3 (nI (n + 1)) = x1
    have kx : ∀ k, k ≠ 28 → k ≠ 29 → k ≠ 30 → k ≠ 31 → x1.1 k = mx.1 k := fun k a b c d => by rw [← hx, mI_ne k a, mI_ne k d, mI_ne k c, mI_ne k b]
    have km : ∀ k, k ≠ 0 → k ≠ 8 → k ≠ 9 → k ≠ 10 → m4.1 k = mm.1 k := fun k a b c d => by rw [e4, mI_ne k a, e3, mI_ne k d, e2, mI_ne k c, e1, mI_ne k b]
    have gm0 : ∀ j, j ≠ 13 → m4.1 0 j = mm.1 0 j := fun j hj => by rw [e4, mI_j hj, g3]
    refine h.part (fun k _ _ _ _ _ _ => kx k (by omega) (by omega) (by omega) (by omega)) (fun j hj => gm0 j (by omega)) (fun j _ => by rw [km 1 (by omega) (by omega) (by omega) (by omega)]) (fun k a b => km k (by omega) (by omega) (by omega) (by omega)) ?_ (fun ec => ⟨n + 1, by omega, by rw [← hx, mI_s], by rw [e4, mI_s], fun j hj => ?_⟩)
    · obtain ⟨n', g1, g2, g3, g4⟩ := t
      refine ⟨n', g1, by rw [kx 1 (by omega) (by omega) (by omega) (by omega)]; exact g2, by rw [gm0 18 (by omega)]; exact g3, fun j hj => ?_⟩
      rw [kx 2 (by omega) (by omega) (by omega) (by omega), km 11 (by omega) (by omega) (by omega) (by omega)]
      exact g4 j hj
    · rw [ec]
      have x29 : x1.1 29 = upd (mx.1 29) n a := by rw [← hx, mI_ne 29 (by omega), mI_ne 29 (by omega), mI_ne 29 (by omega), mI_eq]
      have x30 : x1.1 30 = upd (mx.1 30) n b := by rw [← hx, mI_ne 30 (by omega), mI_ne 30 (by omega), mI_eq, mI_ne 30 (by omega)]
      have x31 : x1.1 31 = upd (mx.1 31) n s3 := by rw [← hx, mI_ne 31 (by omega), mI_eq, mI_ne 31 (by omega), mI_ne 31 (by omega)]
      have y8 : m4.1 8 = upd (mm.1 8) n a := by rw [e4, mI_ne 8 (by omega), e3, mI_ne 8 (by omega), e2, mI_ne 8 (by omega), e1, mI_eq]
      have y9 : m4.1 9 = upd (mm.1 9) n b := by rw [e4, mI_ne 9 (by omega), e3, mI_ne 9 (by omega), e2, mI_eq, e1, mI_ne 9 (by omega)]
      have y10 : m4.1 10 = upd (mm.1 10) n s3 := by rw [e4, mI_ne 10 (by omega), e3, mI_eq, e2, mI_ne 10 (by omega), e1, mI_ne 10 (by omega)]
      rw [x29, x30, x31, y8, y9, y10]
      by_cases q : j = n
      · subst q
        rw [upd_s, upd_s, upd_s, upd_s, upd_s, upd_s]
        exact ⟨rfl, rfl, rfl, ⟨ca, hca, ea⟩, ⟨fa, hfa, eb⟩⟩
      · rw [upd_n q, upd_n q, upd_n q, upd_n q, upd_n q, upd_n q]
        exact h4 j (by omega)
  · have e : n = 6 := by omega
    subst e
    rw [if_neg (show ¬ nI 6 < (6 : Int32) by decide), if_pos (show nI 6 = (6 : Int32) from rfl)]
    exact sim_same h rfl
theorem sim_cabF {i : Nat} {mx mm : Mem} (h : Rl i mx mm) (a b : Int32) : Sim (i + 1) (f_X8_cab a b mx) (f_X9_cab a b mm) := by
  obtain ⟨c, t, f, -⟩ := id h
  have n3 := c.ok.2.1.2
  unfold f_X8_cab f_X9_cab
  refine sim_cab h a (fun ca hca ea => ?_)
  subst ea
  have hck := i_ckz (z := 3) (show (ca : Int) < 3 by omega) (by decide)
  rw [show (1 : Int32) + nI ca = nI (1 + ca) from nI_add 1 ca, show (4 : Int32) + nI ca = nI (4 + ca) from nI_add 4 ca, show (7 : Int32) + nI ca = nI (7 + ca) from nI_add 7 ca]
  have k1 := i_ckz (j := 1 + ca) (z := 380) (by omega) (by decide)
  have k4 := i_ckz (j := 4 + ca) (z := 380) (by omega) (by decide)
  have k7 := i_ckz (j := 7 + ca) (z := 380) (by omega) (by decide)
  simp only [i_c (show ca < 2147483648 by omega), i_c (show 1 + ca < 2147483648 by omega), i_c (show 4 + ca < 2147483648 by omega), i_c (show 7 + ca < 2147483648 by omega)]
  rw [fl_ck_t hck, fl_ck_t hck, fl_ck_t hck, fl_ck_t hck, fl_ck_t hck, fl_ck_t k1, fl_ck_t k4, fl_ck_t k7]
  refine sim_if (fun _ => sim_same h (c.k hca)) (fun _ => sim_if (fun _ => sim_same h ?_) (fun _ => sim_if (fun _ => sim_same h ?_) (fun _ => sim_if (fun _ => sim_same h ?_) (fun _ => sim_same h rfl))))
  · have := f.p1 hca; rw [Nat.zero_add] at this; exact this
  · have := f.p2 hca; rw [Nat.zero_add] at this; exact this
  · have := f.p3 hca; rw [Nat.zero_add] at this; exact this
theorem x_isTaken {S f : Nat} {m : Mem} (hf : f < 7) : f_X5_isTaken S (nI f) m = some (b2i (decide (m.1 (S + 4) f ≠ -4)), m) := by
  refine ok_v ?_
  unfold f_X5_isTaken
  rw [i_c (show f < 2147483648 by omega)]
  refine ok_ck (i_ck (n := 7) hf (by decide)) (ok_if (fun h => ok_ret ⟨by simp [h, b2i], rfl⟩) (fun h => ok_ret ⟨by simp [h, b2i], rfl⟩))
theorem FR.tk {C : Cf} {mx mm : Mem} {S r f : Nat} {B : Int} (h : FR C mx mm S r B) (hf : f < cM C) : ∃ T U : Nat, T < 2 ^ cM C ∧ U < 2 ^ cM C ∧ mm.1 1 (r + 10) = nI T ∧ mm.1 1 (r + 18) = nI U ∧ decide (mx.1 (S + 4) f ≠ -4) = T.testBit f ∧ mx.1 (S + 5) f = b2i (U.testBit f) ∧ mx.1 (S + 4) f = mm.1 1 (r + 11 + f) := by
  obtain ⟨h1, h2, T, U, t1, t2, t3, t4, t5, t6⟩ := h
  obtain ⟨a, b, c⟩ := t6 f hf
  refine ⟨T, U, t1, t2, t3, t4, ?_, c, a⟩
  cases hb : T.testBit f with
  | true => exact decide_eq_true (b.mp hb)
  | false => exact decide_eq_false (fun q => by rw [b.mpr q] at hb; cases hb)
theorem sim_fareF {i : Nat} {mx mm : Mem} (h : Rl i mx mm) (a b : Int32) : Sim (i + 1) (f_X8_fare a b mx) (f_X9_fare a b mm) := by
  obtain ⟨c, t, f, -⟩ := id h
  have n7 := c.ok.2.2.1.2
  unfold f_X8_fare f_X9_fare
  refine sim_fareq h a (fun fa hfa ea => ?_)
  subst ea
  obtain ⟨T, U, t1, t2, t3, t4, t5, t6, t7⟩ := f.tk hfa
  rw [Nat.zero_add] at t3 t4 t7
  have hf7 : fa < 7 := by omega
  have hck := i_ckz (j := fa) (z := 7) (by omega) (by decide)
  rw [show (11 : Int32) + nI fa = nI (11 + fa) from nI_add 11 fa]
  have k1 := i_ckz (j := 11 + fa) (z := 380) (by omega) (by decide)
  simp only [i_c (show fa < 2147483648 by omega), i_c (show 11 + fa < 2147483648 by omega), fl_ck_t hck, fl_ck_t k1]
  refine sim_if (fun _ => sim_same h (c.f8 hfa)) (fun _ => sim_if (fun _ => sim_same h (c.f9 hfa)) (fun _ => sim_if (fun _ => sim_same h (c.f10 hfa)) (fun _ => sim_if (fun _ => sim_same h (c.f11 hfa)) (fun _ => sim_if (fun _ => sim_same h (c.f12 hfa)) (fun _ => sim_if (fun _ => ?_) (fun _ => sim_if (fun _ => sim_same h t7) (fun _ => sim_if (fun _ => sim_same h ?_) (fun _ => sim_same h rfl))))))))
  · rw [x_isTaken hf7, fl_bd_s, t5, t3, (bt_tab T (bt_lt (by omega) t1) fa hf7).1]
    cases T.testBit fa with
    | false => exact sim_same h rfl
    | true => exact sim_same h rfl
  · rw [t4, (bt_tab U (bt_lt (by omega) t2) fa hf7).1]
    exact t6
theorem sim_soonest {i N : Nat} {mx mm : Mem} (hN : 4 ≤ N) (hi : i ≤ 64) (h : Rl i mx mm) (a : Int32) : Sim (i + 1) (f_X8_soonest N a mx) (f_X9_soonest N a mm) := by
  obtain ⟨c, t, f, -⟩ := id h
  unfold f_X8_soonest f_X9_soonest
  refine sim_fareq h a (fun fa hfa ea => ?_)
  subst ea
  unfold Sim
  refine ok_bd (x_nearest hN c.2.1 (by omega) f.2.1 (by rw [c.m]; exact hfa)) (fun r m1 h1 => ok_ret ?_)
  refine ok_eq (m_soonest (r := 0) hN c.2.2.1 (FR.okm c f) (by omega) hfa) (ok_ret ⟨?_, h.keep (fun k _ _ h13 _ => h1.2.2 k h13) (fun _ _ _ _ => rfl) (fun _ _ => rfl) (fun _ _ _ => rfl)⟩)
  rw [h1.1, FR.P c f, c.1]
theorem sim_ride {i : Nat} {mx mm : Mem} (h : Rl i mx mm) (a b w : Int32) : Sim (i + 1) (f_X8_ride a b w mx) (f_X9_ride a b w mm) := by
  obtain ⟨c, t, f, -⟩ := id h
  have n3 := c.ok.2.1.2
  unfold f_X8_ride f_X9_ride
  refine sim_cab h a (fun ca hca ea => sim_fareq h b (fun fa hfa eb => ?_))
  subst ea eb
  have hx := (f.2.1.2 ca (by omega)).2.2
  have hP := FR.okm c f
  have eP := FR.P c f
  unfold Sim
  refine ok_bd (x_reckon c.2.1 (by omega) hx (by rw [c.n]; exact hca) (by rw [c.m]; exact hfa)) (fun r m1 h1 => ?_)
  obtain ⟨he, t3, t0, t1, t2⟩ := h1
  rw [eP, c.1] at t3 t0 t1 t2
  have hk : Rl (i + 1) m1 mm := h.keep (fun k _ _ h13 _ => he.2 k h13) (fun _ _ _ _ => rfl) (fun _ _ => rfl) (fun _ _ _ => rfl)
  have fin : ∀ {v v' : Int32}, v = v' → Ok (some (v, m1)) (fun r mx => Ok (some (v', mm)) (fun r' mm => r = r' ∧ Rl (i + 1) mx mm)) := fun e => ok_ret (ok_ret ⟨e, hk⟩)
  have u1 : f_X9_lateBy 0 (nI ca) (nI fa) mm = _ := m_lateBy (r := 0) c.2.2.1 hP (by omega) hca hfa
  have u2 : f_X9_freeBy 0 (nI ca) (nI fa) mm = _ := m_freeBy (r := 0) c.2.2.1 hP (by omega) hca hfa
  have u3 : f_X9_goesBy 0 (nI ca) (nI fa) mm = _ := m_goesBy (r := 0) c.2.2.1 hP (by omega) hca hfa
  rw [u1, fl_bd_s, u2, fl_bd_s, m_weeps c.2.2.1 hfa, fl_bd_s, u3, fl_bd_s, t0, t1, t2, t3]
  have e := fun (x y : Option (Int32 × Mem)) (h : Sim (i + 1) x y) => h
  refine e _ _ (sim_if (fun _ => fin rfl) (fun _ => sim_if (fun _ => fin rfl) (fun _ => sim_if (fun _ => ?_) (fun _ => sim_if (fun _ => ?_) (fun _ => fin rfl)))))
  · exact sim_b (fun _ => fin rfl) (fun _ => fin rfl)
  · exact sim_b (fun _ => fin rfl) (fun _ => fin rfl)
/-! how many are taken, how many weep -/
theorem x_restOf_l {N S T : Nat} {m : Mem} (hC : xcOk m) (hT : ∀ f, f < cM (xC m) → decide (m.1 (S + 4) f ≠ -4) = T.testBit f) :
    ∀ (k n j s : Nat), j + k = cM (xC m) → k < n → s = cnt (fun f => !T.testBit f) j → l_X8_restOf N 4 S n (nI s) (nI j) m = some (nI (cnt (fun f => !T.testBit f) (cM (xC m))), m) := by
  have n7 := hC.1.2.2.1.2
  intro k
  induction k with
  | zero =>
    intro n j s hj hn hs
    obtain ⟨n, rfl⟩ : ∃ n', n = n' + 1 := ⟨n - 1, by omega⟩
    refine ok_v ?_
    show Ok (B_X8_restOf_4 N 4 S (l_X8_restOf N 4 S n) (nI s) (nI j) m) _
    unfold B_X8_restOf_4
    rw [xc_m hC, show j = cM (xC m) by omega] at *
    exact ok_t (Int32.le_refl _) (ok_ret ⟨by rw [hs], rfl⟩)
  | succ k ih =>
    intro n j s hj hn hs
    obtain ⟨n, rfl⟩ : ∃ n', n = n' + 1 := ⟨n - 1, by omega⟩
    refine ok_v ?_
    show Ok (B_X8_restOf_4 N 4 S (l_X8_restOf N 4 S n) (nI s) (nI j) m) _
    unfold B_X8_restOf_4
    rw [xc_m hC, nI_1 j]
    refine ok_f (nI_ge (by omega) (by omega)) (ok_eq (x_isTaken (by omega)) ?_)
    rw [hT j (by omega)]
    have hc : cnt (fun f => !T.testBit f) (j + 1) = s + if (!T.testBit j) = true then 1 else 0 := by rw [hs]; rfl
    refine ok_b (fun q => ok_li (fun z hz => ?_)) (fun q => ok_li (fun z hz => ?_))
    · rw [q] at hc
      refine ok_of (hz ▸ ?_)
      rw [nI_1 s]
      exact ih n (j + 1) (s + 1) (by omega) (by omega) (by rw [hc]; rfl)
    · rw [q] at hc
      refine ok_of (hz ▸ ?_)
      rw [show nI s + (0 : Int32) = nI s from Int32.add_zero _]
      exact ih n (j + 1) s (by omega) (by omega) (by rw [hc]; rfl)
theorem x_restOf {N S T : Nat} {m : Mem} (hN : 8 ≤ N) (hC : xcOk m) (hT : ∀ f, f < cM (xC m) → decide (m.1 (S + 4) f ≠ -4) = T.testBit f) : f_X8_restOf N 4 S m = some (nI (cnt (fun f => !T.testBit f) (cM (xC m))), m) := by
  have n7 := hC.1.2.2.1.2
  exact x_restOf_l hC hT (cM (xC m)) N 0 0 (by omega) (by omega) rfl
theorem cnt_not (p : Nat → Bool) : ∀ n, cnt p n + cnt (fun f => !p f) n = n
  | 0 => rfl
  | n + 1 => by
    have := cnt_not p n
    unfold cnt
    cases h : p n <;> simp [h] <;> omega
theorem cnt_7 {n T : Nat} (hn : n ≤ 7) (hT : T < 2 ^ n) : cnt (fun f => T.testBit f) 7 = cnt (fun f => T.testBit f) n := by
  obtain ⟨k, hk⟩ : ∃ k, 7 = n + k := ⟨7 - n, by omega⟩
  rw [hk]
  refine cnt_more k (fun j hj => ?_)
  exact Nat.testBit_lt_two_pow (Nat.lt_of_lt_of_le hT (Nat.pow_le_pow_right (by omega) hj))
theorem x_wept_l {N U : Nat} {m : Mem} (hC : xcOk m) (hU : ∀ f, f < cM (xC m) → m.1 44 f = b2i (U.testBit f)) :
    ∀ (k n j s : Nat), j + k = cM (xC m) → k < n → s = cnt (fun f => U.testBit f) j → l_X8_howManyWept N n (nI s) (nI j) m = some (nI (cnt (fun f => U.testBit f) (cM (xC m))), m) := by
  have n7 := hC.1.2.2.1.2
  intro k
  induction k with
  | zero =>
    intro n j s hj hn hs
    obtain ⟨n, rfl⟩ : ∃ n', n = n' + 1 := ⟨n - 1, by omega⟩
    refine ok_v ?_
    show Ok (B_X8_howManyWept_4 N (l_X8_howManyWept N n) (nI s) (nI j) m) _
    unfold B_X8_howManyWept_4
    rw [xc_m hC, show j = cM (xC m) by omega] at *
    exact ok_t (Int32.le_refl _) (ok_ret ⟨by rw [hs], rfl⟩)
  | succ k ih =>
    intro n j s hj hn hs
    obtain ⟨n, rfl⟩ : ∃ n', n = n' + 1 := ⟨n - 1, by omega⟩
    refine ok_v ?_
    show Ok (B_X8_howManyWept_4 N (l_X8_howManyWept N n) (nI s) (nI j) m) _
    unfold B_X8_howManyWept_4
    rw [xc_m hC, nI_1, i_c (by omega), hU j (by omega)]
    have hc : cnt (fun f => U.testBit f) (j + 1) = s + if U.testBit j = true then 1 else 0 := by rw [hs]; rfl
    refine ok_f (nI_ge (by omega) (by omega)) (ok_ck (i_ckz (by omega) (by omega)) (ok_li (fun z hz => ok_of ?_)))
    have hz' : z = nI (cnt (fun f => U.testBit f) (j + 1)) := by
      rw [hz, hc]
      cases U.testBit j with
      | true => exact nI_1 _
      | false => exact Int32.add_zero _
    rw [hz']
    exact ih n (j + 1) _ (by omega) (by omega) rfl
theorem sim_count {i N : Nat} {mx mm : Mem} (hN : 8 ≤ N) (h : Rl i mx mm) (w : Int32) : Sim (i + 1) (f_X8_count N w mx) (f_X9_count N w mm) := by
  obtain ⟨c, t, f, d, k, s⟩ := id h
  have n7 := c.ok.2.2.1.2
  have n1 := c.ok.2.2.1.1
  obtain ⟨T, U, t1, t2, t3, t4, t5, t6⟩ := f.2.2
  have hT : ∀ g, g < cM (xC mx) → decide (mx.1 (39 + 4) g ≠ -4) = T.testBit g := fun g hg => by
    have := (t6 g (by rw [← c.m]; exact hg)).2.1
    cases hb : T.testBit g with
    | true => exact decide_eq_true (this.mp hb)
    | false => exact decide_eq_false (fun q => by rw [this.mpr q] at hb; cases hb)
  have hU : ∀ g, g < cM (xC mx) → mx.1 44 g = b2i (U.testBit g) := fun g hg => (t6 g (by rw [← c.m]; exact hg)).2.2
  unfold f_X8_count f_X9_count
  refine sim_if (fun _ => ?_) (fun _ => sim_if (fun _ => sim_same h c.w) (fun _ => sim_if (fun _ => sim_same h c.c2) (fun _ => sim_if (fun _ => sim_same h c.c3) (fun _ => sim_if (fun _ => sim_same h f.p0) (fun _ => sim_if (fun _ => ?_) (fun _ => sim_if (fun _ => ?_) (fun _ => sim_if (fun _ => ?_) (fun _ => sim_if (fun _ => ?_) (fun _ => sim_if (fun _ => ?_) (fun _ => sim_if (fun _ => ?_) (fun _ => sim_same h rfl)))))))))))
  · unfold f_X0_places f_X9_places
    exact sim_same h (by rw [c.2.2.2.2, c.w])
  · rw [x_restOf hN c.2.1 hT, fl_bd_s, show mm.1 1 10 = nI T from t3, m_ones hN (bt_lt (by omega) t1), fl_bd_s, xc_m c.2.1, c.m]
    refine sim_same h ?_
    rw [cnt_7 n7 t1]
    have h1 := cnt_not (fun f => T.testBit f) (cM (mC_ mm))
    have h2 := cnt_le (fun f => T.testBit f) (cM (mC_ mm))
    have h3 := cnt_le (fun f => !T.testBit f) (cM (mC_ mm))
    rw [i_eq, i_sub (by rw [nI_toInt (by omega), nI_toInt (by omega)]; omega) (by rw [nI_toInt (by omega), nI_toInt (by omega)]; omega), nI_toInt (by omega), nI_toInt (by omega), nI_toInt (by omega)]
    omega
  · have e := x_wept_l (N := N) c.2.1 hU (cM (xC mx)) N 0 0 (by omega) (by rw [c.m]; omega) rfl
    rw [show f_X8_howManyWept N mx = l_X8_howManyWept N N 0 0 mx from rfl, show l_X8_howManyWept N N 0 0 mx = l_X8_howManyWept N N (nI 0) (nI 0) mx from rfl, e, fl_bd_s, show mm.1 1 18 = nI U from t4, m_ones hN (bt_lt (by omega) t2), fl_bd_s, c.m, cnt_7 n7 t2]
    exact sim_same h rfl
  · obtain ⟨n, h1, h2, h3, h4⟩ := s
    exact sim_same h (by rw [h2, h3])
  · obtain ⟨top, held, g1, g2, g3, g4, g5, g6⟩ := d
    exact sim_same h (by rw [g4, g5])
  · obtain ⟨top, held, g1, g2, g3, g4, g5, g6⟩ := k
    exact sim_same h (by rw [g4, g5])
  · obtain ⟨n, h1, h2, h3, h4⟩ := t
    exact sim_same h (by rw [h2, h3])
