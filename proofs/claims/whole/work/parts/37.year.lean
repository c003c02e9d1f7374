/-! ===== a year of fares; where to wait; what mends ===== -/
def Tx (mx0 mm0 mx mm : Mem) : Prop := (∀ k, k ≠ 13 → (k < 45 ∨ 51 ≤ k) → mx.1 k = mx0.1 k) ∧ (∀ k, k ≠ 1 → mm.1 k = mm0.1 k) ∧ ∀ j, (j < 19 ∨ 38 ≤ j) → mm.1 1 j = mm0.1 1 j
theorem Tx.rf {mx mm : Mem} : Tx mx mm mx mm := ⟨fun _ _ _ => rfl, fun _ _ => rfl, fun _ _ => rfl⟩
theorem Tx.tr {a b c d e f : Mem} (h : Tx a b c d) (h2 : Tx c d e f) : Tx a b e f := ⟨fun k x y => (h2.1 k x y).trans (h.1 k x y), fun k x => (h2.2.1 k x).trans (h.2.1 k x), fun j x => (h2.2.2 j x).trans (h.2.2 j x)⟩
theorem Tr.out {mx0 mm0 mx mm : Mem} {B : Int} (h : Tr mx0 mm0 mx mm B) : Tx mx0 mm0 mx mm := ⟨h.2.2.2.2.2.1, h.2.2.2.2.2.2.1, h.2.2.2.2.2.2.2⟩
theorem Tx.rl {i : Nat} {mx0 mm0 mx mm : Mem} (hr : Rl i mx0 mm0) (h : Tx mx0 mm0 mx mm) : Rl (i + 1) mx mm := by
  obtain ⟨kx, km, km1⟩ := h
  exact hr.keep (fun k _ _ h13 hk => kx k h13 (by omega)) (fun j _ _ _ => by rw [km 0 (by omega)]) (fun j hj => km1 j (by omega)) (fun k a b => km k (by omega))
theorem sim_endx {i : Nat} {mx0 mm0 mx mm : Mem} (hr : Rl i mx0 mm0) (h : Tx mx0 mm0 mx mm) {v w : Int32} (e : v = w) : Sim (i + 1) (some (v, mx)) (some (w, mm)) := ok_ret (ok_ret ⟨e, h.rl hr⟩)
theorem Tr.pass {mx0 mm0 mx mm : Mem} {B : Int} {s : Int32} (h : Tr mx0 mm0 mx mm B) (hB : B ≤ 1000000) (hs : 0 ≤ s.toInt ∧ s.toInt ≤ 7) : Tr mx0 mm0 (mI mx 45 0 (mx.1 45 0 + s)) (mI mm 1 19 (mm.1 1 19 + s)) (B + 7) := by
  obtain ⟨rc, hc, hP, hB', hl, kx, km, km1⟩ := h
  have e0 : mx.1 45 0 = mm.1 1 19 := congrArg (fun P : Ps => P.1) hP
  obtain ⟨⟨b1, b2⟩, b3⟩ := hB'
  have ha := i_add (x := mx.1 45 0) (y := s) (by omega) (by omega)
  have ox : ∀ k, k ≠ 45 → (mI mx 45 0 (mx.1 45 0 + s)).1 k = mx.1 k := fun k hk => mI_ne k hk
  have om : ∀ j, j ≠ 19 → (mI mm 1 19 (mm.1 1 19 + s)).1 1 j = mm.1 1 j := fun j hj => mI_j hj
  have n3 := rc.ok.2.1.2
  rw [hc] at n3
  refine ⟨(rc.cong (fun k _ _ => ox k (by omega)) (fun k a _ _ => mI_ne k a) rfl rfl rfl rfl).1, (mC_cong (fun k a _ => mI_ne k a)).trans hc, ?_, ⟨?_, fun d hd => ?_⟩, fun f hf => ?_, fun k a b => ?_, fun k a => ?_, fun j hj => ?_⟩
  · unfold xP mP
    rw [mI_s, mI_s, ox 46 (by omega), ox 47 (by omega), ox 48 (by omega), e0]
    have h2 := hP
    unfold xP mP at h2
    rw [e0] at h2
    have g : ∀ q, q < 19 → 1 ≤ q → (mI mm 1 19 (mm.1 1 19 + s)).1 1 (19 + q) = mm.1 1 (19 + q) := fun q _ _ => om _ (by omega)
    rw [rs_cong (n := cN (mC_ mm0)) (g := fun c => (mI mm 1 19 (mm.1 1 19 + s)).1 1 (19 + 1 + c)) (g' := fun c => mm.1 1 (19 + 1 + c)) (fun c hc => om _ (by omega))]
    rw [rs_cong (n := cN (mC_ mm0)) (g := fun c => (mI mm 1 19 (mm.1 1 19 + s)).1 1 (19 + 4 + c)) (g' := fun c => mm.1 1 (19 + 4 + c)) (fun c hc => om _ (by omega))]
    rw [rs_cong (n := cN (mC_ mm0)) (g := fun c => (mI mm 1 19 (mm.1 1 19 + s)).1 1 (19 + 7 + c)) (g' := fun c => mm.1 1 (19 + 7 + c)) (fun c hc => om _ (by omega))]
    have h3 : (rs (cN (mC_ mm0)) (mx.1 (45 + 1)), rs (cN (mC_ mm0)) (mx.1 (45 + 2)), rs (cN (mC_ mm0)) (mx.1 (45 + 3))) = (rs (cN (mC_ mm0)) (fun c => mm.1 1 (19 + 1 + c)), rs (cN (mC_ mm0)) (fun c => mm.1 1 (19 + 4 + c)), rs (cN (mC_ mm0)) (fun c => mm.1 1 (19 + 7 + c))) := congrArg (fun P : Ps => P.2) h2
    exact congrArg (fun P => (mm.1 1 19 + s, P)) h3
  · rw [mI_s]; omega
  · rw [ox 46 (by omega), ox 47 (by omega), ox 48 (by omega)]
    obtain ⟨q1, q2, q3⟩ := b3 d hd
    exact ⟨q1, ⟨q2.1, Int.le_trans q2.2 (by omega)⟩, q3⟩
  · rw [ox 49 (by omega), om _ (by omega)]; exact hl f hf
  · rw [ox k (by omega)]; exact kx k a b
  · rw [mI_ne k a]; exact km k a
  · rw [om j (by omega)]; exact km1 j hj
/-! what is drawn -/
def drw (a b : Int32) : Int32 := (fl_remL (((((7919 : Int64) * a.toInt64) + ((6151 : Int64) * b.toInt64)) + (1 : Int64)) * ((((7919 : Int64) * a.toInt64) + ((6151 : Int64) * b.toInt64)) + (1 : Int64))) (65521 : Int64)).toInt32
theorem drw_b {a b : Int32} (ha : 0 ≤ a.toInt ∧ a.toInt ≤ 9999) (hb : 0 ≤ b.toInt ∧ b.toInt ≤ 40) : ∃ d, d < 65521 ∧ drw a b = nI d := by
  have e1 : ((7919 : Int64) * a.toInt64).toInt = 7919 * a.toInt := by
    rw [Int64.toInt_mul, Int32.toInt_toInt64]
    exact l_bmod (by show -9223372036854775808 ≤ 7919 * a.toInt; omega) (by show 7919 * a.toInt < 9223372036854775808; omega)
  have e2 : ((6151 : Int64) * b.toInt64).toInt = 6151 * b.toInt := by
    rw [Int64.toInt_mul, Int32.toInt_toInt64]
    exact l_bmod (by show -9223372036854775808 ≤ 6151 * b.toInt; omega) (by show 6151 * b.toInt < 9223372036854775808; omega)
  have e3 : (((7919 : Int64) * a.toInt64) + ((6151 : Int64) * b.toInt64)).toInt = 7919 * a.toInt + 6151 * b.toInt := by
    rw [Int64.toInt_add, e1, e2]
    exact l_bmod (by omega) (by omega)
  have e4 : ((((7919 : Int64) * a.toInt64) + ((6151 : Int64) * b.toInt64)) + (1 : Int64)).toInt = 7919 * a.toInt + 6151 * b.toInt + 1 := by
    rw [Int64.toInt_add, e3]
    exact l_bmod (by show -9223372036854775808 ≤ 7919 * a.toInt + 6151 * b.toInt + 1; omega) (by show 7919 * a.toInt + 6151 * b.toInt + 1 < 9223372036854775808; omega)
  unfold drw
  generalize ((((7919 : Int64) * a.toInt64) + ((6151 : Int64) * b.toInt64)) + (1 : Int64)) = z at *
  have hz : 0 ≤ z.toInt ∧ z.toInt ≤ 80000000 := by omega
  have h1 := Int.mul_nonneg hz.1 hz.1
  have h2 := Int.mul_le_mul hz.2 hz.2 hz.1 (by decide : (0 : Int) ≤ 80000000)
  have e5 : (z * z).toInt = z.toInt * z.toInt := by
    rw [Int64.toInt_mul]
    exact l_bmod (by omega) (by omega)
  have e6 := l_rem (w := z * z) (b := 65521) (l := 65521) (by omega) (by omega) (by omega) rfl
  have h3 := Int.emod_nonneg (z * z).toInt (show ((65521 : Nat) : Int) ≠ 0 by omega)
  have h4 := Int.emod_lt_of_pos (z * z).toInt (show (0 : Int) < ((65521 : Nat) : Int) by omega)
  obtain ⟨j, hj, e⟩ := i_of (x := (fl_remL (z * z) 65521).toInt32) (n := 65521) (by omega) (by omega)
  exact ⟨j, hj, e⟩
theorem fl_max1 {n : Nat} (h : 1 ≤ n) (hn : n < 2147483648) : fl_max 1 (nI n) = nI n := by
  rw [i_eq, i_max, nI_toInt hn]
  have h1 : (1 : Int32).toInt = 1 := rfl
  omega
theorem year_l {i N : Nat} {mx0 mm0 : Mem} {x1 x3 : Int32} {X2 : Nat} (hi : i ≤ 64) (hr : Rl i mx0 mm0) (h1 : 0 ≤ x1.toInt ∧ x1.toInt ≤ 9999) (h2 : X2 ≤ 40) :
    ∀ (k n j : Nat) (x4 x5 : Int32) (mx mm : Mem), j + k = X2 → k < n → Tr mx0 mm0 mx mm (tb i + 130 * j) → Sim (i + 1) (l_X8_year N n x1 (nI X2) x3 x4 x5 (nI j) mx) (l_X9_year N n x1 (nI X2) x3 x4 x5 (nI j) mm) := by
  intro k
  induction k with
  | zero =>
    intro n j x4 x5 mx mm hj hn h
    obtain ⟨n, rfl⟩ : ∃ n', n = n' + 1 := ⟨n - 1, by omega⟩
    show Sim (i + 1) (B_X8_year_52 N (l_X8_year N n) x1 (nI X2) x3 x4 x5 (nI j) mx) (B_X9_year_49 N (l_X9_year N n) x1 (nI X2) x3 x4 x5 (nI j) mm)
    unfold B_X8_year_52 B_X9_year_49
    rw [if_pos (nI_le (by omega) (by omega)), if_pos (nI_le (by omega) (by omega))]
    exact sim_if (fun _ => sim_end hr h rfl) (fun _ => sim_end hr h rfl)
  | succ k ih =>
    intro n j x4 x5 mx mm hj hn h
    obtain ⟨n, rfl⟩ : ∃ n', n = n' + 1 := ⟨n - 1, by omega⟩
    have hok := h.rc.ok
    rw [h.C] at hok
    have n3 := hok.2.1
    have n7 := hok.2.2.1
    obtain ⟨d, hd, ed⟩ := drw_b (a := x1) (b := nI j) h1 (by rw [nI_toInt (by omega)]; omega)
    show Sim (i + 1) (B_X8_year_52 N (l_X8_year N n) x1 (nI X2) x3 x4 x5 (nI j) mx) (B_X9_year_49 N (l_X9_year N n) x1 (nI X2) x3 x4 x5 (nI j) mm)
    unfold B_X8_year_52 B_X9_year_49
    rw [if_neg (nI_ge (by omega) (by omega)), if_neg (nI_ge (by omega) (by omega)), show f_X8_drawn x1 (nI j) mx = some (drw x1 (nI j), mx) from rfl, fl_bd_s, ed]
    unfold drw at ed
    simp only [fl_ll, fl_li]
    rw [ed, xc_m h.rc.2.1, xc_n h.rc.2.1, mc_m h.rc.2.2.1, mc_n h.rc.2.2.1, h.cx, h.C, fl_max1 n7.1 (by omega), fl_max1 n3.1 (by omega), show (4 : Int32) = nI 4 from rfl, i_div (by omega) (by omega)]
    have hdl := Nat.div_le_self d 4
    have hf : d / 4 % cM (mC_ mm0) < cM (mC_ mm0) := Nat.mod_lt _ (by omega)
    have hc : d % cN (mC_ mm0) < cN (mC_ mm0) := Nat.mod_lt _ (by omega)
    rw [i_rem (by omega) (by omega) (by omega), i_rem (by omega) (by omega) (by omega)]
    rw [fl_ck_t (nI_ne0 (by omega) (by omega)), fl_ck_t (nI_ne0 (by omega) (by omega)), fl_ck_t (nI_ne0 (by omega) (by omega)), fl_ck_t (nI_ne0 (by omega) (by omega))]
    obtain ⟨mx', mm', ex, em, ht, -, -⟩ := tr_drive h (by have := tb_b hi; unfold tb at *; omega) hc hf
    refine sim_eq ex em ?_
    have last : ∀ t1 : Int32, Sim (i + 1) (J_X8_year_125 N (l_X8_year N n) x1 (nI X2) x3 x5 (nI j) (nI d) (nI (d / 4 % cM (mC_ mm0))) x4 t1 mx') (J_X9_year_121 N (l_X9_year N n) x1 (nI X2) x3 x5 (nI j) (nI d) (nI (d / 4 % cM (mC_ mm0))) x4 t1 mm') := by
      intro t1
      have hs : fl_rem (nI d / (64 : Int32)) 8 = nI (d / 64 % 8) := by
        rw [show (64 : Int32) = nI 64 from rfl, show (8 : Int32) = nI 8 from rfl, i_div (by omega) (by omega), i_rem (by have := Nat.div_le_self d 64; omega) (by omega) (by omega)]
      unfold J_X8_year_125 J_X9_year_121
      simp only [fl_li, fl_lm]
      rw [hs, show (30 : Int32) + nI (d / 4 % cM (mC_ mm0)) = nI (30 + d / 4 % cM (mC_ mm0)) from nI_add 30 _, fl_ck_t (i_ckz (by omega) (by omega)), fl_ck_t (i_ckz (by omega) (by omega)), i_c (by omega), i_c (by omega), nI_1 j, ht.2.2.2.2.1 _ hf]
      have h8 : d / 64 % 8 < 8 := Nat.mod_lt _ (by omega)
      exact ih n (j + 1) _ _ _ _ (by omega) (by omega) ((ht.pass (s := nI (d / 64 % 8)) (by have := tb_b hi; unfold tb at *; omega) (by rw [nI_toInt (by omega)]; omega)).wk (by omega))
    exact sim_b (fun _ => last 0) (fun _ => last 1)
theorem sim_year {i N : Nat} {mx mm : Mem} (hN : 50 ≤ N) (hi : i ≤ 64) (h : Rl i mx mm) (a b w : Int32) : Sim (i + 1) (f_X8_year N a b w mx) (f_X9_year N a b w mm) := by
  unfold f_X8_year f_X9_year
  refine sim_rngq h a rfl rfl (fun a1 a2 => sim_rngq h b rfl rfl (fun b1 b2 => sim_rngq h w rfl rfl (fun w1 w2 => ?_)))
  obtain ⟨mx', mm', ex, em, ht, -, -, -⟩ := tr_start (N := N) (by omega) h
  refine sim_eq ex em ?_
  have b1 : 1 ≤ b.toInt := b1
  have b2 : b.toInt ≤ 40 := b2
  rw [i_nat (x := b) (by omega)]
  exact year_l hi h ⟨a1, a2⟩ (by omega) b.toInt.toNat N 0 0 0 mx' mm' (by omega) (by omega) (ht.wk (by omega))
/-! where to wait -/
theorem RC.np {mx mm : Mem} (h : RC mx mm) : mm.1 0 3 * mm.1 0 4 = nI (nPl (mm.1 0 3) (mm.1 0 4)) ∧ 1 ≤ nPl (mm.1 0 3) (mm.1 0 4) ∧ nPl (mm.1 0 3) (mm.1 0 4) ≤ 36 := nPl_b (by rw [← h.2.2.2.2]; exact h.2.2.2.1) h.ok.1
theorem FR.mask {C : Cf} {mx mm : Mem} {S r : Nat} {B : Int} (h : FR C mx mm S r B) : ∃ T : Nat, T < 2 ^ cM C ∧ mm.1 1 (r + 10) = nI T ∧ ∀ g, g < cM C → decide (mx.1 (S + 4) g ≠ -4) = T.testBit g := by
  obtain ⟨T, U, t1, t2, t3, t4, t5, t6⟩ := h.2.2
  refine ⟨T, t1, t3, fun g hg => ?_⟩
  have := (t6 g hg).2.1
  cases hb : T.testBit g with
  | true => exact decide_eq_true (this.mp hb)
  | false => exact decide_eq_false (fun q => by rw [this.mpr q] at hb; cases hb)
theorem wait_l {N : Nat} {mx0 mm0 mm : Mem} {B : Int} {c T : Nat} {x2 x3 x4 x5 : Int32} (hB : 99 ≤ B ∧ B ≤ 20000) (hcc : c < cN (mC_ mm0)) (hT : T < 2 ^ cM (mC_ mm0)) (h10 : mm.1 1 10 = nI T) :
    ∀ (k n n' j : Nat) (s : Int32) (mx : Mem), j + k = cM (mC_ mm0) → k < n → (0 ≤ s.toInt ∧ s.toInt ≤ 21000 * j) → Tr mx0 mm0 mx mm B → (∀ g, g < cM (mC_ mm0) → decide (mx.1 49 g ≠ -4) = T.testBit g) →
      ∃ v mx', l_X8_lateFrom N n (nI c) s (nI j) mx = some (v, mx') ∧ Tr mx0 mm0 mx' mm B ∧ (0 ≤ v.toInt ∧ v.toInt ≤ 147000) ∧ l_X9_waiting N (n' + k) 2 (nI c) x2 x3 x4 x5 s (nI j) mm = l_X9_waiting N n' 2 (nI c) x2 x3 x4 x5 v (nI (cM (mC_ mm0))) mm := by
  intro k
  induction k with
  | zero =>
    intro n n' j s mx hj hn hs h hg
    obtain ⟨n, rfl⟩ : ∃ n', n = n' + 1 := ⟨n - 1, by omega⟩
    have hok := h.rc.ok
    rw [h.C] at hok
    have n7 := hok.2.2.1
    refine ⟨s, mx, ?_, h, by omega, by rw [show cM (mC_ mm0) = j by omega]; rfl⟩
    show B_X8_lateFrom_29 N (l_X8_lateFrom N n) (nI c) s (nI j) mx = _
    unfold B_X8_lateFrom_29
    rw [xc_m h.rc.2.1, h.cx, if_pos (nI_le (by omega) (by omega))]
  | succ k ih =>
    intro n n' j s mx hj hn hs h hg
    obtain ⟨n, rfl⟩ : ∃ n', n = n' + 1 := ⟨n - 1, by omega⟩
    have hok := h.rc.ok
    rw [h.C] at hok
    have n3 := hok.2.1
    have n7 := hok.2.2.1
    have hj7 : j < cM (mC_ mm0) := by omega
    have hT8 := bt_lt (by omega) hT
    have hl := a_late_b h.rc.ok h.ok (by omega) (show c < cN (mC_ mm) by rw [h.C]; exact hcc) (show j < cM (mC_ mm) by rw [h.C]; exact hj7)
    rw [h.C] at hl
    have em : ∀ s', l_X9_waiting N (n' + (k + 1)) 2 (nI c) x2 x3 x4 x5 s' (nI j) mm = if T.testBit j = true then l_X9_waiting N (n' + k) 2 (nI c) x2 x3 x4 x5 s' (nI (j + 1)) mm else l_X9_waiting N (n' + k) 2 (nI c) x2 x3 x4 x5 (s' + a_late (mC_ mm0) (mPm mm 19) c j) (nI (j + 1)) mm := by
      intro s'
      show B_X9_waiting_57 N (l_X9_waiting N (n' + k)) (nI c) x2 x3 x4 x5 s' (nI j) mm = _
      unfold B_X9_waiting_57
      rw [mc_m h.rc.2.2.1, h.C, if_neg (nI_ge hj7 (by omega)), m_rest h.rc.2.2.1 hT8 h10, fl_bd_s, m_has (restM_lt _ (by rw [h.C]; omega) _ hT8) (by omega), fl_bd_s, restM_b (by rw [h.C]; omega) hT8 (by omega), h.C, nI_1 j]
      cases T.testBit j with
      | true =>
        rw [show (decide (j < cM (mC_ mm0)) && !true) = false by simp, if_pos (show b2i false = 0 from rfl), if_pos rfl]
        simp only [fl_li]
        rw [show s' + (0 : Int32) = s' from Int32.add_zero _]
      | false =>
        rw [show (decide (j < cM (mC_ mm0)) && !false) = true by simp [hj7], if_neg (show ¬ b2i true = 0 by decide), if_neg (by decide), show (19 : Int32) = nI 19 from rfl, m_lateBy (r := 19) h.rc.2.2.1 h.ok (by omega) (by rw [h.C]; exact hcc) (by rw [h.C]; exact hj7), fl_bd_s, h.C]
        rfl
    rw [em]
    have ex : l_X8_lateFrom N (n + 1) (nI c) s (nI j) mx = B_X8_lateFrom_29 N (l_X8_lateFrom N n) (nI c) s (nI j) mx := rfl
    rw [ex]
    unfold B_X8_lateFrom_29
    rw [xc_m h.rc.2.1, h.cx, if_neg (nI_ge hj7 (by omega)), x_isTaken (S := 45) (by omega), fl_bd_s, hg j hj7, nI_1 j]
    cases hb : T.testBit j with
    | true =>
      rw [if_neg (show ¬ b2i true = 0 by decide), if_pos rfl]
      exact ih n n' (j + 1) s mx (by omega) (by omega) (by omega) h hg
    | false =>
      rw [if_pos (show b2i false = 0 from rfl), if_neg (by decide)]
      obtain ⟨r, mx1, er, he, ht⟩ := x_reckon (S := 45) (c := c) (f := j) h.rc.2.1 (by omega) ((h.B.2 c (by omega)).2.2) (by rw [h.cx]; exact hcc) (by rw [h.cx]; exact hj7)
      rw [er, fl_bd_s]
      have e1 := ht.2.2.1
      rw [h.cx, h.Px] at e1
      simp only [fl_li]
      rw [e1]
      have ha := i_add (x := s) (y := a_late (mC_ mm0) (mPm mm 19) c j) (by omega) (by omega)
      exact ih n n' (j + 1) _ mx1 (by omega) (by omega) (by omega) (h.rk he) (fun g hgg => by rw [he.2 49 (by unfold trp; omega)]; exact hg g hgg)
/-- both reckon one place -/
theorem wait_1 {i N n' p c : Nat} {mx0 mm0 mx mm : Mem} {x2 x3 x4 : Int32} (hN : 20 ≤ N) (hi : i ≤ 64) (hr : Rl i mx0 mm0) (hcc : c < cN (mC_ mm0)) (hp : p < nPl (mm0.1 0 3) (mm0.1 0 4)) (h : Tx mx0 mm0 mx mm) :
    ∃ v mx' mm', f_X8_lateFrom N (nI c) (nI p) mx = some (v, mx') ∧ Tx mx0 mm0 mx' mm' ∧ (0 ≤ v.toInt ∧ v.toInt ≤ 147000) ∧ B_X9_waiting_29 N (l_X9_waiting N (n' + cM (mC_ mm0))) (nI c) x2 x3 x4 (nI p) mm = l_X9_waiting N n' 2 (nI c) x2 x3 x4 (nI p) v (nI (cM (mC_ mm0))) mm' := by
  have hl := h.rl hr
  obtain ⟨mx1, mm1, ex, em, ht, hF, hcx, hcm⟩ := tr_start (N := N) hN hl
  have eC : mC_ mm = mC_ mm0 := mC_cong (fun k a _ => h.2.1 k a)
  obtain ⟨rc0, -⟩ := id hr
  have h36 := rc0.np
  have n3 := rc0.ok.2.1
  have n7 := rc0.ok.2.2.1
  have hpl : pl (nI p) := by
    unfold pl
    rw [nI_toInt (by omega)]
    have := h36.2.2
    show 0 ≤ (p : Int) ∧ (p : Int) < 36
    have : p < 36 := Nat.lt_of_lt_of_le hp this
    omega
  obtain ⟨rx, mx2, ex2, hx2⟩ := x_move (m := mx1) (S := 45) (c := c) (p := nI p) (by omega) ht.rc.ww (by omega)
  obtain ⟨rm, mm2, em2, hm2⟩ := m_sends (m := mm1) (r := 19) (c := c) (p := nI p) ht.rc.ok.1 (by omega) (by omega)
  have htC := ht.C
  have htcx := ht.cx
  rw [eC] at htC htcx
  obtain ⟨eCx, ePx⟩ := hx2.P ht.rc.2.1 (by omega) (by rw [htcx]; exact hcc)
  obtain ⟨eCm, ePm⟩ := hm2.P ht.rc.2.2.1 (by rw [htC]; exact hcc)
  have hBx := hx2.B ht.rc.2.1 ht.B (show 99 ≤ tb (i + 1) ∧ tb (i + 1) ≤ 1000000 by unfold tb; omega) hpl (by omega)
  obtain ⟨T, hT, hT10, hTg⟩ := hF.mask
  rw [eC] at hT hTg
  have ht2 : Tr mx mm mx2 mm2 (tb (i + 1) + 40) := by
    obtain ⟨rc, hc, hP, hB', hl', kx, km, km1⟩ := id ht
    refine ⟨(rc.cong (fun k _ _ => hx2.1.2 k (by omega)) (fun k a _ _ => hm2.1.2 k a) (by rw [hm2.1.2 0 (by omega)]) (by rw [hm2.1.2 0 (by omega)]) (by rw [hm2.1.2 0 (by omega)]) (by rw [hm2.1.2 0 (by omega)])).1, eCm.trans hc, ?_, hBx, fun f hf => ?_, fun k a b => ?_, fun k a => ?_, fun j hj => ?_⟩
    · have e1 : xP (cN (mC_ mm)) mx2 45 = xPm mx2 45 := by unfold xPm; rw [eCx, htcx, eC]
      have e2 : mP (cN (mC_ mm)) mm2 19 = mPm mm2 19 := by unfold mPm; rw [eCm, htC, eC]
      rw [e1, e2, ePx, ePm, ht.Px, htcx, htC]
    · rw [hx2.1.2 49 (by omega), hm2.2, if_neg (by omega), if_neg (by omega)]; exact hl' f hf
    · rw [hx2.1.2 k (by omega)]; exact kx k a b
    · rw [hm2.1.2 k a]; exact km k a
    · rw [hm2.2, if_neg (by omega), if_neg (by omega)]; exact km1 j hj
  have h10 : mm2.1 1 10 = nI T := by
    rw [hm2.2, if_neg (by omega), if_neg (by omega), ← hT10, hcm.o (by omega)]
    have := hcm.i (j := 10) (by omega)
    rw [Nat.zero_add] at this
    exact this.symm
  obtain ⟨v, mx3, e3, ht3, hv, em3⟩ := wait_l (N := N) (mx0 := mx) (mm0 := mm) (mm := mm2) (B := tb (i + 1) + 40) (c := c) (T := T) (x2 := x2) (x3 := x3) (x4 := x4) (x5 := nI p) (by unfold tb; omega) (by rw [eC]; exact hcc) (by rw [eC]; exact hT) h10 (cM (mC_ mm0)) N n' 0 0 mx2 (by rw [eC]; omega) (by omega) (by decide) ht2 (fun g hg => by rw [eC] at hg; rw [hx2.1.2 49 (by omega)]; exact hTg g hg)
  refine ⟨v, mx3, mm2, ?_, h.tr ht3.out, hv, ?_⟩
  · unfold f_X8_lateFrom
    rw [ex, fl_bd_s, ex2, fl_bd_s]
    exact e3
  · unfold B_X9_waiting_29 f_X9_places
    rw [fl_bd_s, h.2.1 0 (by omega), h36.1, if_neg (nI_ge hp (by have := h36.2.2; omega)), em, fl_bd_s, show (19 : Int32) = nI 19 from rfl, em2, fl_bd_s]
    rw [eC] at em3
    exact em3
theorem wait_2 {i N c : Nat} {mx0 mm0 : Mem} {x2 : Int32} (hN : 20 ≤ N) (hi : i ≤ 64) (hr : Rl i mx0 mm0) (hcc : c < cN (mC_ mm0)) :
    ∀ (k n n' p : Nat) (b l : Int32) (mx mm : Mem), p + k = nPl (mm0.1 0 3) (mm0.1 0 4) → k < n → 9 * k < n' → Tx mx0 mm0 mx mm → Sim (i + 1) (l_X8_waiting N n (nI c) x2 b l (nI p) mx) (l_X9_waiting N n' 1 (nI c) x2 b l (nI p) 0 0 mm) := by
  obtain ⟨rc0, -⟩ := id hr
  have h36 := rc0.np
  have n7 := rc0.ok.2.2.1
  have hpx : ∀ mx mm, Tx mx0 mm0 mx mm → f_X0_places 4 mx = some (nI (nPl (mm0.1 0 3) (mm0.1 0 4)), mx) := fun mx mm h => by
    unfold f_X0_places
    rw [h.1 4 (by omega) (by omega), rc0.2.2.2.2, rc0.w, h36.1]
  intro k
  induction k with
  | zero =>
    intro n n' p b l mx mm hj hn hn' h
    obtain ⟨n, rfl⟩ : ∃ n', n = n' + 1 := ⟨n - 1, by omega⟩
    obtain ⟨n', rfl⟩ : ∃ n'', n' = n'' + 1 := ⟨n' - 1, by omega⟩
    show Sim (i + 1) (B_X8_waiting_35 N (l_X8_waiting N n) (nI c) x2 b l (nI p) mx) (B_X9_waiting_29 N (l_X9_waiting N n') (nI c) x2 b l (nI p) mm)
    unfold B_X8_waiting_35 B_X9_waiting_29 f_X9_places
    have := h36.2.2
    rw [hpx mx mm h, fl_bd_s, fl_bd_s, h.2.1 0 (by omega), h36.1, if_pos (nI_le (by omega) (by omega)), if_pos (nI_le (by omega) (by omega))]
    exact sim_if (fun _ => sim_endx hr h rfl) (fun _ => sim_endx hr h rfl)
  | succ k ih =>
    intro n n' p b l mx mm hj hn hn' h
    obtain ⟨n, rfl⟩ : ∃ n', n = n' + 1 := ⟨n - 1, by omega⟩
    obtain ⟨q, rfl⟩ : ∃ q, n' = (q + 1 + cM (mC_ mm0)) + 1 := ⟨n' - 2 - cM (mC_ mm0), by omega⟩
    obtain ⟨v, mx1, mm1, ex, h1, hv, em⟩ := wait_1 (n' := q + 1) (p := p) (x2 := x2) (x3 := b) (x4 := l) hN hi hr hcc (by omega) h
    show Sim (i + 1) (B_X8_waiting_35 N (l_X8_waiting N n) (nI c) x2 b l (nI p) mx) (B_X9_waiting_29 N (l_X9_waiting N (q + 1 + cM (mC_ mm0))) (nI c) x2 b l (nI p) mm)
    rw [em]
    unfold B_X8_waiting_35
    rw [hpx mx mm h, fl_bd_s, if_neg (nI_ge (by omega) (by have := h36.2.2; omega)), ex, fl_bd_s, nI_1 p]
    show Sim (i + 1) _ (B_X9_waiting_57 N (l_X9_waiting N q) (nI c) x2 b l (nI p) v (nI (cM (mC_ mm0))) mm1)
    unfold B_X9_waiting_57 J_X9_waiting_115
    rw [h1.2.1 0 (by omega), mc_m rc0.2.2.1, if_pos (Int32.le_refl _), nI_1 p]
    by_cases hc : l ≤ v
    · rw [if_pos hc, if_pos hc, if_pos hc]
      exact ih n q (p + 1) b l mx1 mm1 (by omega) (by omega) (by omega) h1
    · rw [if_neg hc, if_neg hc, if_neg hc]
      exact ih n q (p + 1) (nI p) v mx1 mm1 (by omega) (by omega) (by omega) h1
theorem sim_waiting {i N : Nat} {mx mm : Mem} (hN : 400 ≤ N) (hi : i ≤ 64) (h : Rl i mx mm) (a w : Int32) : Sim (i + 1) (f_X8_waiting N a w mx) (f_X9_waiting N a w mm) := by
  obtain ⟨rc0, -⟩ := id h
  have h36 := rc0.np
  have n7 := rc0.ok.2.2.1
  unfold f_X8_waiting f_X9_waiting
  refine sim_cab h a (fun c hcc ea => sim_rngq h w rfl rfl (fun w1 w2 => ?_))
  subst ea
  obtain ⟨q, rfl⟩ : ∃ q, N = (q + 1 + cM (mC_ mm)) + 1 := ⟨N - 2 - cM (mC_ mm), by omega⟩
  obtain ⟨v, mx1, mm1, ex, h1, hv, em⟩ := wait_1 (N := q + 1 + cM (mC_ mm) + 1) (n' := q + 1) (p := 0) (x2 := w) (x3 := 0) (x4 := 1000000) (by omega) hi h hcc (by omega) Tx.rf
  refine ok_eq (show f_X8_lateFrom _ (nI c) 0 mx = _ from ex) ?_
  show Sim (i + 1) (l_X8_waiting (q + 1 + cM (mC_ mm) + 1) (q + 1 + cM (mC_ mm) + 1) (nI c) w 0 v (nI 1) mx1) (B_X9_waiting_29 (q + 1 + cM (mC_ mm) + 1) (l_X9_waiting (q + 1 + cM (mC_ mm) + 1) (q + 1 + cM (mC_ mm))) (nI c) w 0 1000000 (nI 0) mm)
  rw [em]
  show Sim (i + 1) _ (B_X9_waiting_57 (q + 1 + cM (mC_ mm) + 1) (l_X9_waiting (q + 1 + cM (mC_ mm) + 1) q) (nI c) w 0 1000000 (nI 0) v (nI (cM (mC_ mm))) mm1)
  unfold B_X9_waiting_57 J_X9_waiting_115
  have hc : ¬ (1000000 : Int32) ≤ v := by
    rw [i_le]
    have : (1000000 : Int32).toInt = 1000000 := rfl
    omega
  rw [h1.2.1 0 (by omega), mc_m rc0.2.2.1, if_pos (Int32.le_refl _), nI_1 0, if_neg hc, if_neg hc]
  exact wait_2 (N := q + 1 + cM (mC_ mm) + 1) (by omega) hi h hcc (nPl (mm.1 0 3) (mm.1 0 4) - 1) _ q 1 0 v mx1 mm1 (by omega) (by omega) (by omega) h1
