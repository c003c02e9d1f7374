/-! ===== how likely it is that so many come late ===== -/
def bcv (x0 : Int32) : Int32 :=
  let z1 := x0 - (((x0.toUInt32 >>> ((1 : Int32).toUInt32 &&& Int32.toUInt32 31)).toInt32) &&& (1431655765 : Int32))
  let z3 := (z1 &&& (858993459 : Int32)) + (((z1.toUInt32 >>> ((2 : Int32).toUInt32 &&& Int32.toUInt32 31)).toInt32) &&& (858993459 : Int32))
  let z5 := (z3 + ((z3.toUInt32 >>> ((4 : Int32).toUInt32 &&& Int32.toUInt32 31)).toInt32)) &&& (252645135 : Int32)
  let z7 := z5 + ((z5.toUInt32 >>> ((8 : Int32).toUInt32 &&& Int32.toUInt32 31)).toInt32)
  let z9 := z7 + ((z7.toUInt32 >>> ((16 : Int32).toUInt32 &&& Int32.toUInt32 31)).toInt32)
  z9 &&& (63 : Int32)
theorem bcv_tab : ∀ s, s < 128 → bcv (nI s) = nI (cnt (fun f => s.testBit f) 7) := by decide +kernel
theorem x_bits {s : Nat} {m : Mem} (hs : s < 128) : f_J6_bitCount_0f7a4 (nI s) m = some (nI (cnt (fun f => s.testBit f) 7), m) := by
  rw [← bcv_tab s hs]
  rfl
theorem sh_tab : ∀ s, s < 128 → ∀ b, b < 8 → ((nI (s >>> b) &&& 1 = 1) ↔ s.testBit b = true) ∧ nI (s >>> b) >>> ((1 : Int32) &&& 31) = nI (s >>> (b + 1)) := by decide +kernel
theorem one_tab : ∀ r, r < 8 → (1 : Int32) <<< (nI r &&& 31) = nI (2 ^ r) := by decide +kernel
theorem ten_tab : ∀ q, q < 11 → (10 : Int32) - nI q = nI (10 - q) := by decide +kernel
def pw (q s : Nat) : Nat → Nat
  | 0 => 1
  | n + 1 => pw q s n * (if s.testBit n = true then q else 10 - q)
theorem pwt_le {q s : Nat} (hq : q ≤ 10) : ∀ n, pw q s n ≤ 10 ^ n
  | 0 => Nat.le_refl 1
  | n + 1 => by
    have := pwt_le (s := s) hq n
    show pw q s n * (if s.testBit n = true then q else 10 - q) ≤ 10 ^ n * 10
    refine Nat.mul_le_mul this ?_
    split <;> omega
theorem pw_eq {q s : Nat} : ∀ n, pw q s n = q ^ cnt (fun f => s.testBit f) n * (10 - q) ^ (n - cnt (fun f => s.testBit f) n)
  | 0 => rfl
  | n + 1 => by
    have := cnt_le (fun f => s.testBit f) n
    show pw q s n * (if s.testBit n = true then q else 10 - q) = q ^ (cnt (fun f => s.testBit f) n + if s.testBit n = true then 1 else 0) * (10 - q) ^ (n + 1 - (cnt (fun f => s.testBit f) n + if s.testBit n = true then 1 else 0))
    rw [pw_eq n]
    cases s.testBit n with
    | true =>
      rw [if_pos rfl, if_pos rfl, Nat.pow_succ, show n + 1 - (cnt (fun f => s.testBit f) n + 1) = n - cnt (fun f => s.testBit f) n by omega]
      rw [Nat.mul_assoc, Nat.mul_assoc, Nat.mul_comm ((10 - q) ^ _) q]
    | false =>
      rw [if_neg (by decide), if_neg (by decide), Nat.add_zero, show n + 1 - cnt (fun f => s.testBit f) n = n - cnt (fun f => s.testBit f) n + 1 by omega, Nat.pow_succ, Nat.mul_assoc]
theorem x_pow {N q e : Nat} {m : Mem} (he : e < 100) : ∀ (k n j acc : Nat), j + k = e → k < n → l_X8_power N n (nI q) (nI e) (nI acc) (nI j) m = some (nI (acc * q ^ k), m) := by
  intro k
  induction k with
  | zero =>
    intro n j acc hj hn
    obtain ⟨n, rfl⟩ : ∃ p, n = p + 1 := ⟨n - 1, by omega⟩
    show B_X8_power_4 N (l_X8_power N n) (nI q) (nI e) (nI acc) (nI j) m = _
    unfold B_X8_power_4
    rw [if_pos (nI_le (by omega) (by omega)), Nat.pow_zero, Nat.mul_one]
  | succ k ih =>
    intro n j acc hj hn
    obtain ⟨n, rfl⟩ : ∃ p, n = p + 1 := ⟨n - 1, by omega⟩
    show B_X8_power_4 N (l_X8_power N n) (nI q) (nI e) (nI acc) (nI j) m = _
    unfold B_X8_power_4
    rw [if_neg (nI_ge (by omega) (by omega)), pk_mul, nI_1 j]
    show l_X8_power N n (nI q) (nI e) (nI (acc * q)) (nI (j + 1)) m = _
    rw [ih n (j + 1) (acc * q) (by omega) (by omega), Nat.pow_succ, Nat.mul_assoc, Nat.mul_comm q]
theorem x_power {N q e : Nat} {m : Mem} (hN : 100 ≤ N) (he : e < 100) : f_X8_power N (nI q) (nI e) m = some (nI (q ^ e), m) := by
  have := x_pow (N := N) (q := q) (m := m) he e N 0 1 (by omega) (by omega)
  rw [Nat.one_mul] at this
  exact this
/-! the reference's loop, step by step -/
theorem l_t1 {N n : Nat} {x1 x2 x3 x4 x5 x6 x7 x8 a b c d : Int32} {m : Mem} : l_X9_tears N (n + 1) 1 x1 x2 x3 x4 x5 x6 x7 x8 a b c d m = B_X9_tears_58 N (l_X9_tears N n) x1 x2 x3 x4 x5 x6 x7 x8 m := rfl
theorem l_t2 {N n : Nat} {x1 x2 x3 x4 x5 x6 x7 x8 a b c d : Int32} {m : Mem} : l_X9_tears N (n + 1) 2 x1 x2 x3 x4 x5 x6 x7 x8 a b c d m = B_X9_tears_81 N (l_X9_tears N n) x1 x2 x3 x4 x5 x6 x7 x8 m := rfl
theorem l_t3 {N n : Nat} {x1 x2 x3 x4 x5 x6 x7 x8 a b c d : Int32} {m : Mem} : l_X9_tears N (n + 1) 3 x1 x2 x3 x4 x5 x6 x7 x8 a b c d m = B_X9_tears_106 N (l_X9_tears N n) x1 x2 x3 x4 x5 x6 x7 x8 a b c d m := rfl
theorem l_t4 {N n : Nat} {x1 x2 x3 x4 x5 x6 x7 x8 a b c d : Int32} {m : Mem} : l_X9_tears N (n + 1) 4 x1 x2 x3 x4 x5 x6 x7 x8 a b c d m = B_X9_tears_241 N (l_X9_tears N n) x3 x6 x7 x8 a m := rfl
theorem m_ten {N : Nat} {m : Mem} {x1 x2 x3 x4 x6 : Int32} {r : Nat} (hr : r < 100) : ∀ (k n j acc : Nat), j + k = r → l_X9_tears N (n + (k + 1)) 1 x1 x2 x3 x4 (nI r) x6 (nI acc) (nI j) 0 0 0 0 m = l_X9_tears N n 2 x1 x2 x3 x4 (nI r) x6 (nI (acc * 10 ^ k)) 0 0 0 0 0 m := by
  intro k
  induction k with
  | zero =>
    intro n j acc hj
    rw [show n + (0 + 1) = n + 1 from rfl, l_t1]
    unfold B_X9_tears_58
    rw [if_pos (nI_le (by omega) (by omega)), Nat.pow_zero, Nat.mul_one]
  | succ k ih =>
    intro n j acc hj
    rw [show n + (k + 1 + 1) = (n + (k + 1)) + 1 by omega, l_t1]
    unfold B_X9_tears_58
    rw [if_neg (nI_ge (by omega) (by omega)), show nI acc * (10 : Int32) = nI (acc * 10) from pk_mul acc 10, nI_1 j]
    simp only [fl_li]
    rw [ih n (j + 1) (acc * 10) (by omega), Nat.pow_succ, Nat.mul_assoc, Nat.mul_comm 10]
theorem cnt_s (p : Nat → Bool) (n : Nat) : cnt p (n + 1) = cnt p n + (if p n = true then 1 else 0) := rfl
theorem pass_l {N : Nat} {mx0 mm0 : Mem} {B : Int} {T s q : Nat} {x1 x3 x5 x6 x7 : Int32} (hN : 4 ≤ N) (hB : 99 ≤ B ∧ B ≤ 20000) (hT : T < 2 ^ cM (mC_ mm0)) (hs : s < 128) (hq : q ≤ 10) (hok : okC (mC_ mm0)) :
    ∀ (k n n' j b : Nat) (cn : Int32) (mx mm : Mem), j + k = cM (mC_ mm0) → k < n → b = cnt (fun f => !T.testBit f) j → Tr mx0 mm0 mx mm (B + 123 * j) → (∀ g, j ≤ g → g < cM (mC_ mm0) → decide (mx.1 49 g ≠ -4) = T.testBit g) →
      ∃ v mx' mm', l_X8_lateAmong N n cn (nI (s >>> b)) (nI j) mx = some (v, mx') ∧ Tr mx0 mm0 mx' mm' (B + 123 * cM (mC_ mm0)) ∧ l_X9_tears N (n' + 1 + k) 3 x1 (nI q) x3 (nI (restM (cM (mC_ mm0)) T)) x5 x6 x7 (nI s) (nI (pw q s b)) cn (nI b) (nI j) mm = l_X9_tears N (n' + 1) 3 x1 (nI q) x3 (nI (restM (cM (mC_ mm0)) T)) x5 x6 x7 (nI s) (nI (pw q s (cnt (fun f => !T.testBit f) (cM (mC_ mm0))))) v (nI (cnt (fun f => !T.testBit f) (cM (mC_ mm0)))) (nI (cM (mC_ mm0))) mm' := by
  have n3 := hok.2.1
  have n7 := hok.2.2.1
  have hT8 := bt_lt (by omega) hT
  intro k
  induction k with
  | zero =>
    intro n n' j b cn mx mm hj hn hb h hg
    obtain ⟨n, rfl⟩ : ∃ p, n = p + 1 := ⟨n - 1, by omega⟩
    have : j = cM (mC_ mm0) := by omega
    subst this
    subst hb
    refine ⟨cn, mx, mm, ?_, h, rfl⟩
    show B_X8_lateAmong_18 N (l_X8_lateAmong N n) cn _ (nI (cM (mC_ mm0))) mx = _
    unfold B_X8_lateAmong_18
    rw [xc_m h.rc.2.1, h.cx, if_pos (Int32.le_refl _)]
  | succ k ih =>
    intro n n' j b cn mx mm hj hn hb h hg
    obtain ⟨n, rfl⟩ : ∃ p, n = p + 1 := ⟨n - 1, by omega⟩
    have hj7 : j < cM (mC_ mm0) := by omega
    have hb7 : b ≤ j := by rw [hb]; exact cnt_le _ j
    have ex : l_X8_lateAmong N (n + 1) cn (nI (s >>> b)) (nI j) mx = B_X8_lateAmong_18 N (l_X8_lateAmong N n) cn (nI (s >>> b)) (nI j) mx := rfl
    rw [ex, show n' + 1 + (k + 1) = (n' + 1 + k) + 1 by omega, l_t3]
    unfold B_X8_lateAmong_18 B_X9_tears_106
    rw [xc_m h.rc.2.1, h.cx, if_neg (nI_ge hj7 (by omega)), mc_m h.rc.2.2.1, h.C, if_neg (nI_ge hj7 (by omega)), x_isTaken (S := 45) (by omega), fl_bd_s, hg j (Nat.le_refl _) hj7, m_has (restM_lt _ (by omega) _ hT8) (by omega), fl_bd_s, restM_b (by omega) hT8 (by omega), decide_eq_true hj7, Bool.true_and, nI_1 j]
    cases hbt : T.testBit j with
    | true =>
      rw [if_neg (show ¬ b2i true = 0 by decide), if_pos (show b2i (!true) = 0 from rfl)]
      exact ih n n' (j + 1) b cn mx mm (by omega) (by omega) (by rw [cnt_s, hbt]; exact hb) (h.wk (by omega)) (fun g a c => hg g (by omega) c)
    | false =>
      rw [if_pos (show b2i false = 0 from rfl), if_neg (show ¬ b2i (!false) = 0 by decide)]
      have hcc := a_near_lt hok (mPm mm 19) j
      obtain ⟨r, mx1, e1, hr, he1⟩ := x_nearest (N := N) (S := 45) (f := j) hN h.rc.2.1 (by omega) h.B (by rw [h.cx]; exact hj7)
      rw [h.cx, h.Px] at hr
      subst hr
      have h1 := h.rk he1
      obtain ⟨r2, mx2, e2, he2, ht2⟩ := x_reckon (S := 45) (c := a_near (mC_ mm0) (mPm mm 19) j) (f := j) h1.rc.2.1 (by omega) ((h1.B.2 _ (by omega)).2.2) (by rw [h1.cx]; exact hcc) (by rw [h1.cx]; exact hj7)
      have h2 := h1.rk he2
      obtain ⟨rs', mx3, e3, hx3⟩ := x_settle (z := if s.testBit b = true then 1 else 0) (t := s.testBit b) h1.rc.2.1 (by omega) (by rw [h1.cx]; exact hcc) (by rw [h1.cx]; exact hj7) he2 ht2 (by cases s.testBit b <;> simp)
      have es := m_soonest (N := N) (r := 19) (f := j) hN h.rc.2.2.1 h.ok (by omega) (by rw [h.C]; exact hj7)
      obtain ⟨r4, mm3, e4, hm3⟩ := m_rides (r := 19) (c := a_near (mC_ mm0) (mPm mm 19) j) (f := j) (z := b2i (s.testBit b)) (t := s.testBit b) h.rc.2.2.1 h.ok (by omega) (by rw [h.C]; exact hcc) (by rw [h.C]; exact hj7) (b2i_z _)
      rw [h.C] at es
      have ht3 := h1.ride (by omega) hcc hj7 hx3 hm3
      have hlx : mx2.1 13 1 = a_late (mC_ mm0) (mPm mm 19) (a_near (mC_ mm0) (mPm mm 19) j) j := by rw [ht2.2.2.1, h1.cx, h1.Px]
      have hlm : mm3.1 1 (30 + j) = a_late (mC_ mm0) (mPm mm 19) (a_near (mC_ mm0) (mPm mm 19) j) j := by
        have := hm3.2.2.2.2.2 j (by omega)
        rw [if_pos rfl, h.C] at this
        rw [show 30 + j = 19 + 11 + j by omega]; exact this
      have hbx : mx2.1 12 j = mm3.1 7 j := by rw [h2.rc.f12 (by rw [h.C]; exact hj7), hm3.1.2 7 (by omega)]
      rw [e1, fl_bd_s, e2, fl_bd_s, fl_ck_t (i_ckz (by omega) (by omega)), i_c (by omega), hlx, hbx, m_has hs (by omega), fl_bd_s]
      have hst := sh_tab s hs b (by omega)
      have goX : ∀ t1 : Int32, J_X8_lateAmong_101 N (l_X8_lateAmong N n) (nI (s >>> b)) (nI j) (nI (a_near (mC_ mm0) (mPm mm 19) j)) cn t1 mx2 = l_X8_lateAmong N n (cn + t1) (nI (s >>> (b + 1))) (nI (j + 1)) mx3 := by
        intro t1
        unfold J_X8_lateAmong_101 J_X8_lateAmong_127
        simp only [fl_li]
        cases hsb : s.testBit b with
        | true =>
          rw [hsb, if_pos rfl] at e3
          rw [if_pos (hst.1.mpr hsb), e3, fl_bd_s, hst.2, nI_1 j]
        | false =>
          rw [hsb, if_neg (by decide)] at e3
          rw [if_neg (fun z => by rw [hst.1.mp z] at hsb; cases hsb), e3, fl_bd_s, hst.2, nI_1 j]
      have goM : ∀ t1 : Int32, t1 = nI (if s.testBit b = true then q else 10 - q) → J_X9_tears_145 N (l_X9_tears N (n' + 1 + k)) x1 (nI q) x3 (nI (restM (cM (mC_ mm0)) T)) x5 x6 x7 (nI s) cn (nI b) (nI j) (nI (pw q s b)) t1 mm = (if a_late (mC_ mm0) (mPm mm 19) (a_near (mC_ mm0) (mPm mm 19) j) j ≤ mm3.1 7 j then l_X9_tears N (n' + 1 + k) 3 x1 (nI q) x3 (nI (restM (cM (mC_ mm0)) T)) x5 x6 x7 (nI s) (nI (pw q s (b + 1))) (cn + 0) (nI (b + 1)) (nI (j + 1)) mm3 else l_X9_tears N (n' + 1 + k) 3 x1 (nI q) x3 (nI (restM (cM (mC_ mm0)) T)) x5 x6 x7 (nI s) (nI (pw q s (b + 1))) (cn + 1) (nI (b + 1)) (nI (j + 1)) mm3) := by
        intro t1 ht1
        unfold J_X9_tears_145 J_X9_tears_198
        simp only [fl_li]
        rw [show f_X9_soonestIn N 19 (nI j) mm = _ from es, fl_bd_s, m_has hs (by omega), fl_bd_s, show f_X9_rides 19 _ (nI j) _ mm = _ from e4, fl_bd_s, show (30 : Int32) + nI j = nI (30 + j) from nI_add 30 j, fl_ck_t (i_ckz (by omega) (by omega)), fl_ck_t (i_ckz (by omega) (by omega)), i_c (by omega), i_c (by omega), hlm, ht1, pk_mul, nI_1 b, nI_1 j]
        rfl
      have hfin : ∀ t1 : Int32, ∃ v mx' mm', l_X8_lateAmong N n (cn + t1) (nI (s >>> (b + 1))) (nI (j + 1)) mx3 = some (v, mx') ∧ Tr mx0 mm0 mx' mm' (B + 123 * cM (mC_ mm0)) ∧ l_X9_tears N (n' + 1 + k) 3 x1 (nI q) x3 (nI (restM (cM (mC_ mm0)) T)) x5 x6 x7 (nI s) (nI (pw q s (b + 1))) (cn + t1) (nI (b + 1)) (nI (j + 1)) mm3 = l_X9_tears N (n' + 1) 3 x1 (nI q) x3 (nI (restM (cM (mC_ mm0)) T)) x5 x6 x7 (nI s) (nI (pw q s (cnt (fun f => !T.testBit f) (cM (mC_ mm0))))) v (nI (cnt (fun f => !T.testBit f) (cM (mC_ mm0)))) (nI (cM (mC_ mm0))) mm' :=
        fun t1 => ih n n' (j + 1) (b + 1) (cn + t1) mx3 mm3 (by omega) (by omega) (by rw [cnt_s, hbt, ← hb]; rfl) (ht3.wk (by omega)) (fun g a c => by rw [hx3.2.2.2.2.1, upd_n (by omega), he1.2 49 (by unfold trp; omega)]; exact hg g (by omega) c)
      have eM : (if b2i (s.testBit b) = 0 then J_X9_tears_145 N (l_X9_tears N (n' + 1 + k)) x1 (nI q) x3 (nI (restM (cM (mC_ mm0)) T)) x5 x6 x7 (nI s) cn (nI b) (nI j) (nI (pw q s b)) (10 - nI q) mm else J_X9_tears_145 N (l_X9_tears N (n' + 1 + k)) x1 (nI q) x3 (nI (restM (cM (mC_ mm0)) T)) x5 x6 x7 (nI s) cn (nI b) (nI j) (nI (pw q s b)) (nI q) mm) = (if a_late (mC_ mm0) (mPm mm 19) (a_near (mC_ mm0) (mPm mm 19) j) j ≤ mm3.1 7 j then l_X9_tears N (n' + 1 + k) 3 x1 (nI q) x3 (nI (restM (cM (mC_ mm0)) T)) x5 x6 x7 (nI s) (nI (pw q s (b + 1))) (cn + 0) (nI (b + 1)) (nI (j + 1)) mm3 else l_X9_tears N (n' + 1 + k) 3 x1 (nI q) x3 (nI (restM (cM (mC_ mm0)) T)) x5 x6 x7 (nI s) (nI (pw q s (b + 1))) (cn + 1) (nI (b + 1)) (nI (j + 1)) mm3) := by
        cases hsb : s.testBit b with
        | true => rw [if_neg (show ¬ b2i true = 0 by decide)]; exact goM _ (by rw [hsb, if_pos rfl])
        | false => rw [if_pos (show b2i false = 0 from rfl)]; exact goM _ (by rw [hsb, if_neg (by decide), ten_tab q (by omega)])
      rw [eM, goX, goX]
      by_cases hle : a_late (mC_ mm0) (mPm mm 19) (a_near (mC_ mm0) (mPm mm 19) j) j ≤ mm3.1 7 j
      · rw [if_pos hle, if_pos hle]; exact hfin 0
      · rw [if_neg hle, if_neg hle]; exact hfin 1
