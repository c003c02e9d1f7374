/-! ===== the same day again and again ===== -/
def Td (mx0 mm0 mx mm : Mem) (B : Int) : Prop := RC mx mm ∧ mC_ mm = mC_ mm0 ∧ xP (cN (mC_ mm0)) mx 45 = mP (cN (mC_ mm0)) mm 19 ∧ xB mx 45 B ∧ (∀ k, k ≠ 13 → (k < 45 ∨ 51 ≤ k) → mx.1 k = mx0.1 k) ∧ (∀ k, k ≠ 1 → k ≠ 17 → mm.1 k = mm0.1 k) ∧ ∀ j, (j < 19 ∨ 38 ≤ j) → mm.1 1 j = mm0.1 1 j
theorem Td.rc {mx0 mm0 mx mm : Mem} {B : Int} (h : Td mx0 mm0 mx mm B) : RC mx mm := h.1
theorem Td.C {mx0 mm0 mx mm : Mem} {B : Int} (h : Td mx0 mm0 mx mm B) : mC_ mm = mC_ mm0 := h.2.1
theorem Td.cx {mx0 mm0 mx mm : Mem} {B : Int} (h : Td mx0 mm0 mx mm B) : xC mx = mC_ mm0 := h.1.1.trans h.2.1
theorem Td.B {mx0 mm0 mx mm : Mem} {B : Int} (h : Td mx0 mm0 mx mm B) : xB mx 45 B := h.2.2.2.1
theorem Td.Px {mx0 mm0 mx mm : Mem} {B : Int} (h : Td mx0 mm0 mx mm B) : xPm mx 45 = mPm mm 19 := by
  unfold xPm mPm
  rw [h.cx, h.C]
  exact h.2.2.1
theorem Td.ok {mx0 mm0 mx mm : Mem} {B : Int} (h : Td mx0 mm0 mx mm B) : okP (mC_ mm) (mPm mm 19) B := by
  have := h.B.okP h.rc.2.1
  rw [← h.Px, ← h.rc.1]
  exact this
theorem Td.wk {mx0 mm0 mx mm : Mem} {B B' : Int} (h : Td mx0 mm0 mx mm B) (hB : B ≤ B') : Td mx0 mm0 mx mm B' := ⟨h.1, h.2.1, h.2.2.1, h.B.wk hB, h.2.2.2.2⟩
theorem sim_endd {i : Nat} {mx0 mm0 mx mm : Mem} {B : Int} (hr : Rl i mx0 mm0) (h : Td mx0 mm0 mx mm B) {v w : Int32} (e : v = w) : Sim (i + 1) (some (v, mx)) (some (w, mm)) := by
  obtain ⟨-, -, -, -, kx, km, km1⟩ := h
  exact ok_ret (ok_ret ⟨e, hr.keep (fun k _ _ h13 hk => kx k h13 (by omega)) (fun j _ _ _ => by rw [km 0 (by omega) (by omega)]) (fun j hj => km1 j (by omega)) (fun k a b => km k (by omega) (by omega))⟩)
theorem td_soon {N : Nat} {mx0 mm0 mx mm : Mem} {B : Int} {f : Nat} (hN : 4 ≤ N) (h : Td mx0 mm0 mx mm B) (hB : 99 ≤ B ∧ B ≤ 1000000) (hff : f < cM (mC_ mm0)) :
    ∃ c b mx' mm', c < cN (mC_ mm0) ∧ f_X0_driveSoonest N 4 45 (nI f) mx = some (b2i b, mx') ∧ f_X9_soonestIn N 19 (nI f) mm = some (nI c, mm) ∧ f_X9_ridesAsOneDoes 19 (nI c) (nI f) mm = some (b2i b, mm') ∧ Td mx0 mm0 mx' mm' (B + 123) ∧ xRide mx mx' 45 c f b ∧ mRide mm mm' 19 c f b := by
  have hok := h.rc.ok
  rw [h.C] at hok
  have hcc := a_near_lt hok (mPm mm 19) f
  have n7 := hok.2.2.1
  obtain ⟨r, mx', ex, hr, hx⟩ := x_driveSoonest (N := N) (S := 45) (f := f) hN h.rc.2.1 (by omega) h.B (by rw [h.cx]; exact hff)
  have es := m_soonest (N := N) (r := 19) (f := f) hN h.rc.2.2.1 h.ok (by omega) (by rw [h.C]; exact hff)
  obtain ⟨r', mm', em, hr', hm⟩ := m_ride1 (r := 19) (c := a_near (mC_ mm0) (mPm mm 19) f) (f := f) h.rc.2.2.1 h.ok (by omega) (by rw [h.C]; exact hcc) (by rw [h.C]; exact hff)
  rw [h.Px, h.cx] at hr hx
  rw [h.C] at hr' hm es
  subst hr hr'
  refine ⟨_, _, mx', mm', hcc, ex, es, em, ?_, hx, hm⟩
  have hBx := hx.B h.rc.2.1 (by omega) h.B hB (by rw [h.cx]; exact hcc) (by rw [h.cx]; exact hff)
  have hPx := hx.P (by omega) (by rw [h.cx]; exact hcc)
  have eP := h.Px
  have eCx := h.cx
  have eC := h.C
  obtain ⟨rc, hc, hP, hB', kx, km, km1⟩ := h
  obtain ⟨m0, m1, m2, m3, m4, m5⟩ := id hm
  have e1 : xP (cN (mC_ mm0)) mx' 45 = xPm mx' 45 := by unfold xPm; rw [hx.C (by omega), eCx]
  have e2 : mP (cN (mC_ mm0)) mm' 19 = mPm mm' 19 := by unfold mPm; rw [hm.C, eC]
  refine ⟨(rc.cong (fun k _ _ => hx.1.2 k (by omega)) (fun k a _ _ => m0.2 k a) (by rw [m0.2 0 (by omega)]) (by rw [m0.2 0 (by omega)]) (by rw [m0.2 0 (by omega)]) (by rw [m0.2 0 (by omega)])).1, by rw [hm.C, hc], ?_, hBx, fun k a b => ?_, fun k a b => ?_, fun j hj => ?_⟩
  · rw [e1, e2, hPx, m2, eP, rc.1]
  · rw [hx.1.2 k (by omega)]; exact kx k a b
  · rw [m0.2 k a]; exact km k a b
  · rw [m1 j (by omega)]; exact km1 j hj
/-! a day as a number -/
def keyI (p w : Nat → Int32) : Int := (((((p 0).toInt * 64 + ((w 0).toInt + 4)) * 64 + (p 1).toInt) * 64 + ((w 1).toInt + 4)) * 64 + (p 2).toInt) * 64 + ((w 2).toInt + 4)
theorem nowh_b {x : Int32} (h : nowh x) : -4 ≤ x.toInt ∧ x.toInt < 36 := by
  rcases h with h | h
  · subst h; exact ⟨by decide, by decide⟩
  · exact ⟨by have := h.1; omega, h.2⟩
def vOk (p w : Nat → Int32) : Prop := ∀ x, x < 3 → pl (p x) ∧ nowh (w x)
theorem keyI_b {p w : Nat → Int32} (h : vOk p w) : 0 ≤ keyI p w ∧ keyI p w < 68719476736 := by
  obtain ⟨⟨a1, a2⟩, a3⟩ := h 0 (by omega)
  obtain ⟨⟨b1, b2⟩, b3⟩ := h 1 (by omega)
  obtain ⟨⟨c1, c2⟩, c3⟩ := h 2 (by omega)
  have a4 := nowh_b a3
  have b4 := nowh_b b3
  have c4 := nowh_b c3
  unfold keyI
  omega
theorem keyI_inj {p w p' w' : Nat → Int32} (h : vOk p w) (h' : vOk p' w') (e : keyI p w = keyI p' w') : ∀ x, x < 3 → p x = p' x ∧ w x = w' x := by
  obtain ⟨⟨a1, a2⟩, a3⟩ := h 0 (by omega)
  obtain ⟨⟨b1, b2⟩, b3⟩ := h 1 (by omega)
  obtain ⟨⟨c1, c2⟩, c3⟩ := h 2 (by omega)
  obtain ⟨⟨d1, d2⟩, d3⟩ := h' 0 (by omega)
  obtain ⟨⟨e1, e2⟩, e3⟩ := h' 1 (by omega)
  obtain ⟨⟨f1, f2⟩, f3⟩ := h' 2 (by omega)
  have a4 := nowh_b a3
  have b4 := nowh_b b3
  have c4 := nowh_b c3
  have d4 := nowh_b d3
  have e4 := nowh_b e3
  have f4 := nowh_b f3
  unfold keyI at e
  intro x hx
  rw [i_eq, i_eq]
  rcases (show x = 0 ∨ x = 1 ∨ x = 2 by omega) with q | q | q <;> subst q <;> omega
theorem key_step {y : Int64} {a b : Int32} (hy : 0 ≤ y.toInt ∧ y.toInt < 68719476736) (ha : pl a) (hb : nowh b) : (((((y * (64 : Int64)) + a.toInt64) * (64 : Int64)) + b.toInt64) - (-4 : Int64)).toInt = (y.toInt * 64 + a.toInt) * 64 + (b.toInt + 4) := by
  obtain ⟨a1, a2⟩ := ha
  have b4 := nowh_b hb
  have e64 : (64 : Int64).toInt = 64 := rfl
  have e4 : (-4 : Int64).toInt = -4 := by decide
  have h1 : (y * (64 : Int64)).toInt = y.toInt * 64 := by rw [Int64.toInt_mul, e64]; exact l_bmod (by omega) (by omega)
  have h2 : (y * (64 : Int64) + a.toInt64).toInt = y.toInt * 64 + a.toInt := by rw [Int64.toInt_add, h1, Int32.toInt_toInt64]; exact l_bmod (by omega) (by omega)
  have h3 : ((y * (64 : Int64) + a.toInt64) * (64 : Int64)).toInt = (y.toInt * 64 + a.toInt) * 64 := by rw [Int64.toInt_mul, h2, e64]; exact l_bmod (by omega) (by omega)
  have h4 : ((y * (64 : Int64) + a.toInt64) * (64 : Int64) + b.toInt64).toInt = (y.toInt * 64 + a.toInt) * 64 + b.toInt := by rw [Int64.toInt_add, h3, Int32.toInt_toInt64]; exact l_bmod (by omega) (by omega)
  rw [Int64.toInt_sub, h4, e4]
  rw [show (y.toInt * 64 + a.toInt) * 64 + b.toInt - -4 = (y.toInt * 64 + a.toInt) * 64 + (b.toInt + 4) by omega]
  exact l_bmod (by omega) (by omega)
theorem x_key {N : Nat} {m : Mem} (hN : 4 ≤ N) (h : vOk (m.1 46) (m.1 48)) : ∃ K : Int64, f_X5_cabsAsNumber N 45 m = some (K, m) ∧ K.toInt = keyI (m.1 46) (m.1 48) := by
  obtain ⟨n, rfl⟩ : ∃ n, N = n + 4 := ⟨N - 4, by omega⟩
  have st : ∀ (q : Nat) (y : Int64) (x : Nat), x < 3 → l_X5_cabsAsNumber (n + 4) 45 (q + 1) (nI x) y m = l_X5_cabsAsNumber (n + 4) 45 q (nI (x + 1)) (((((y * (64 : Int64)) + (m.1 46 x).toInt64) * (64 : Int64)) + (m.1 48 x).toInt64) - (-4 : Int64)) m := by
    intro q y x hx
    show B_X5_cabsAsNumber_4 (n + 4) 45 (l_X5_cabsAsNumber (n + 4) 45 q) y (nI x) m = _
    unfold B_X5_cabsAsNumber_4
    rw [if_neg (show ¬ (3 : Int32) ≤ nI x from nI_ge (b := 3) hx (by omega)), fl_ck_t (i_ckz (by omega) (by omega)), fl_ck_t (i_ckz (by omega) (by omega)), nI_1 x, i_c (by omega)]
    rfl
  have en : ∀ y : Int64, l_X5_cabsAsNumber (n + 4) 45 (n + 1) (nI 3) y m = some (y, m) := by
    intro y
    show B_X5_cabsAsNumber_4 (n + 4) 45 (l_X5_cabsAsNumber (n + 4) 45 n) y (nI 3) m = _
    unfold B_X5_cabsAsNumber_4
    rw [if_pos (by decide)]
  obtain ⟨a1, a2⟩ := h 0 (by omega)
  obtain ⟨b1, b2⟩ := h 1 (by omega)
  obtain ⟨c1, c2⟩ := h 2 (by omega)
  have a4 := nowh_b a2
  have b4 := nowh_b b2
  obtain ⟨a5, a6⟩ := id a1
  obtain ⟨b5, b6⟩ := id b1
  have z0 : (0 : Int64).toInt = 0 := rfl
  have k1 := key_step (y := 0) (by rw [z0]; omega) a1 a2
  rw [z0] at k1
  have k2 := key_step (by rw [k1]; omega) b1 b2
  rw [k1] at k2
  have k3 := key_step (by rw [k2]; omega) c1 c2
  rw [k2] at k3
  exact ⟨_, (st (n + 3) 0 0 (by omega)).trans ((st (n + 2) _ 1 (by omega)).trans ((st (n + 1) _ 2 (by omega)).trans (en _))), by rw [k3]; unfold keyI; omega⟩
/-! the days laid beside each other -/
def Dy (n : Nat) (p0 w0 : Nat → Int32) (mx mm : Mem) (t : Nat) : Prop := ∃ p w : Nat → Int32, vOk p w ∧ (mx.2 t).toInt = keyI p w ∧ (∀ x, x < 3 → mm.1 17 (6 * t + x) = (if x < n then p x else 0) ∧ mm.1 17 (6 * t + 3 + x) = (if x < n then w x else 0)) ∧ ∀ x, n ≤ x → x < 3 → p x = p0 x ∧ w x = w0 x
theorem dy_eq {n : Nat} {p0 w0 : Nat → Int32} {mx mm : Mem} {s t : Nat} (hs : Dy n p0 w0 mx mm s) (ht : Dy n p0 w0 mx mm t) : mx.2 s = mx.2 t ↔ ∀ x, x < 6 → mm.1 17 (6 * s + x) = mm.1 17 (6 * t + x) := by
  obtain ⟨p, w, a1, a2, a3, a4⟩ := hs
  obtain ⟨p', w', b1, b2, b3, b4⟩ := ht
  constructor
  · intro e x hx
    rw [e, b2] at a2
    have k := keyI_inj b1 a1 a2
    by_cases h3 : x < 3
    · rw [(a3 x h3).1, (b3 x h3).1, (k x h3).1]
    · obtain ⟨y, rfl⟩ : ∃ y, x = 3 + y := ⟨x - 3, by omega⟩
      rw [← Nat.add_assoc, ← Nat.add_assoc, (a3 y (by omega)).2, (b3 y (by omega)).2, (k y (by omega)).2]
  · intro h
    have k : ∀ x, x < 3 → p x = p' x ∧ w x = w' x := by
      intro x hx
      by_cases hn : x < n
      · have h1 := h x (by omega)
        have h2 := h (3 + x) (by omega)
        rw [← Nat.add_assoc, ← Nat.add_assoc] at h2
        rw [(a3 x hx).1, (b3 x hx).1, if_pos hn, if_pos hn] at h1
        rw [(a3 x hx).2, (b3 x hx).2, if_pos hn, if_pos hn] at h2
        exact ⟨h1, h2⟩
      · exact ⟨((a4 x (by omega) hx).1).trans ((b4 x (by omega) hx).1).symm, ((a4 x (by omega) hx).2).trans ((b4 x (by omega) hx).2).symm⟩
    have e : keyI p w = keyI p' w' := by
      unfold keyI
      rw [(k 0 (by omega)).1, (k 0 (by omega)).2, (k 1 (by omega)).1, (k 1 (by omega)).2, (k 2 (by omega)).1, (k 2 (by omega)).2]
    rw [e, ← b2] at a2
    exact Int64.toInt_inj.mp a2
def alk (m : Mem) (s t : Nat) : Nat → Nat → Bool
  | 0, _ => true
  | k + 1, j => decide (m.1 17 (6 * s + j) = m.1 17 (6 * t + j)) && alk m s t k (j + 1)
theorem alk_6 {m : Mem} {s t : Nat} : alk m s t 6 0 = true ↔ ∀ x, x < 6 → m.1 17 (6 * s + x) = m.1 17 (6 * t + x) := by
  simp only [alk, Bool.and_eq_true, decide_eq_true_eq, and_true]
  constructor
  · intro h x hx
    rcases (show x = 0 ∨ x = 1 ∨ x = 2 ∨ x = 3 ∨ x = 4 ∨ x = 5 by omega) with q | q | q | q | q | q <;> subst q
    · exact h.1
    · exact h.2.1
    · exact h.2.2.1
    · exact h.2.2.2.1
    · exact h.2.2.2.2.1
    · exact h.2.2.2.2.2
  · intro h
    exact ⟨h 0 (by omega), h 1 (by omega), h 2 (by omega), h 3 (by omega), h 4 (by omega), h 5 (by omega)⟩
theorem mul6 (h : Nat) (a : Nat) : (6 : Int32) * nI h + nI a = nI (6 * h + a) := by rw [show (6 : Int32) * nI h = nI (6 * h) from pk_mul 6 h, nI_add]
theorem m_alike {N s t : Nat} {m : Mem} (hs : s < 41) (ht : t < 41) : ∀ (k n j : Nat) (b : Bool), j + k = 6 → k < n → l_X9_areLike N n (nI s) (nI t) (b2i b) (nI j) m = some (b2i (b && alk m s t k j), m) := by
  intro k
  induction k with
  | zero =>
    intro n j b hj hn
    obtain ⟨n, rfl⟩ : ∃ q, n = q + 1 := ⟨n - 1, by omega⟩
    show B_X9_areLike_5 N (l_X9_areLike N n) (nI s) (nI t) (b2i b) (nI j) m = _
    unfold B_X9_areLike_5
    rw [if_pos (show (6 : Int32) ≤ nI j from nI_le (a := 6) (by omega) (by omega)), fl_ck_t (b2i_01 b)]
    simp [alk]
  | succ k ih =>
    intro n j b hj hn
    obtain ⟨n, rfl⟩ : ∃ q, n = q + 1 := ⟨n - 1, by omega⟩
    show B_X9_areLike_5 N (l_X9_areLike N n) (nI s) (nI t) (b2i b) (nI j) m = _
    unfold B_X9_areLike_5
    rw [if_neg (show ¬ (6 : Int32) ≤ nI j from nI_ge (b := 6) (by omega) (by omega)), nI_1 j, mul6, mul6]
    cases b with
    | false =>
      rw [if_pos (show b2i false = 0 from rfl)]
      have := ih n (j + 1) false (by omega) (by omega)
      rw [Bool.false_and] at this ⊢
      exact this
    | true =>
      rw [if_neg (show ¬ b2i true = 0 by decide), fl_ck_t (i_ckz (by omega) (by omega)), fl_ck_t (i_ckz (by omega) (by omega)), i_c (by omega), i_c (by omega)]
      by_cases e : m.1 17 (6 * s + j) = m.1 17 (6 * t + j)
      · rw [if_pos e]
        have := ih n (j + 1) true (by omega) (by omega)
        rw [show (true && alk m s t (k + 1) j) = (true && alk m s t k (j + 1)) by simp [alk, e]]
        exact this
      · rw [if_neg e]
        have := ih n (j + 1) false (by omega) (by omega)
        rw [show (true && alk m s t (k + 1) j) = (false && alk m s t k (j + 1)) by simp [alk, e]]
        exact this
theorem lg_cmp0 (x y : Int64) : lg_cmp x y = 0 ↔ x = y := by
  unfold lg_cmp
  by_cases h : x > y
  · rw [if_pos h]
    have : y.toInt < x.toInt := Int64.lt_iff_toInt_lt.mp h
    exact ⟨fun q => absurd q (by decide), fun q => by rw [q] at this; omega⟩
  · rw [if_neg h]
    by_cases e : x = y
    · rw [if_pos e]; exact ⟨fun _ => e, fun _ => rfl⟩
    · rw [if_neg e]; exact ⟨fun q => absurd q (by decide), fun q => absurd q e⟩
/-- which day it is like: both look -/
theorem day_like {N n0 d : Nat} {p0 w0 : Nat → Int32} {mx mm : Mem} {x1 : Int32} (hN : 8 ≤ N) (hd : d < 41) (hD : ∀ t, t ≤ d → Dy n0 p0 w0 mx mm t) :
    ∀ (k n n' j : Nat), j + k = d → k < n → ∃ v, v ≤ d ∧ l_X8_dayLike N n (nI d) (nI j) mx = some (nI v, mx) ∧ ((v = d ∧ l_X9_round N (n' + (k + 1)) 4 x1 (nI d) (nI j) mm = l_X9_round N n' 1 x1 (nI (d + 1)) 0 mm) ∨ (v < d ∧ l_X9_round N (n' + (k + 1)) 4 x1 (nI d) (nI j) mm = (if x1 = 0 then some (nI d, mm) else some (nI v, mm)))) := by
  intro k
  induction k with
  | zero =>
    intro n n' j hj hn
    obtain ⟨n, rfl⟩ : ∃ q, n = q + 1 := ⟨n - 1, by omega⟩
    refine ⟨d, Nat.le_refl _, ?_, Or.inl ⟨rfl, ?_⟩⟩
    · show B_X8_dayLike_2 N (l_X8_dayLike N n) (nI d) (nI j) mx = _
      unfold B_X8_dayLike_2
      rw [if_pos (nI_le (by omega) (by omega))]
    · show B_X9_round_101 N (l_X9_round N n') x1 (nI d) (nI j) mm = _
      unfold B_X9_round_101
      rw [if_pos (nI_le (by omega) (by omega)), nI_1 d]
  | succ k ih =>
    intro n n' j hj hn
    obtain ⟨n, rfl⟩ : ∃ q, n = q + 1 := ⟨n - 1, by omega⟩
    have hq := dy_eq (hD j (by omega)) (hD d (Nat.le_refl _))
    have ex : l_X8_dayLike N (n + 1) (nI d) (nI j) mx = B_X8_dayLike_2 N (l_X8_dayLike N n) (nI d) (nI j) mx := rfl
    have em : l_X9_round N (n' + (k + 1 + 1)) 4 x1 (nI d) (nI j) mm = B_X9_round_101 N (l_X9_round N (n' + (k + 1))) x1 (nI d) (nI j) mm := rfl
    have ea : f_X9_areLike N (nI j) (nI d) mm = some (b2i (true && alk mm j d 6 0), mm) := m_alike (N := N) (by omega) hd 6 N 0 true rfl (by omega)
    rw [ex, em]
    unfold B_X8_dayLike_2 B_X9_round_101
    rw [if_neg (nI_ge (by omega) (by omega)), fl_ck_t (i_ckz (by omega) (by omega)), fl_ck_t (i_ckz (by omega) (by omega)), i_c (by omega), i_c (by omega), if_neg (nI_ge (by omega) (by omega)), ea, fl_bd_s, Bool.true_and, nI_1 j]
    by_cases e : mx.2 j = mx.2 d
    · rw [if_pos ((lg_cmp0 _ _).mpr e), alk_6.mpr (hq.mp e), if_neg (show ¬ b2i true = 0 by decide)]
      exact ⟨j, by omega, rfl, Or.inr ⟨by omega, rfl⟩⟩
    · have hf : alk mm j d 6 0 = false := by
        cases hb : alk mm j d 6 0 with
        | false => rfl
        | true => exact absurd (hq.mpr (alk_6.mp hb)) e
      rw [if_neg (fun q => e ((lg_cmp0 _ _).mp q)), hf, if_pos (show b2i false = 0 from rfl)]
      exact ih n n' (j + 1) (by omega) (by omega)
/-- the reference lays a day down -/
theorem m_lays {N d : Nat} {m : Mem} (hN : 4 ≤ N) (hd : d < 41) (hC : mcOk m) : Ok (f_X9_laysDay N (nI d) m) (fun _ m' => eqOff m m' (fun k => k = 17) ∧ (∀ j, (j < 6 * d ∨ 6 * d + 6 ≤ j) → m'.1 17 j = m.1 17 j) ∧ ∀ x, x < 3 → m'.1 17 (6 * d + x) = (if x < cN (mC_ m) then m.1 1 (20 + x) else 0) ∧ m'.1 17 (6 * d + 3 + x) = (if x < cN (mC_ m) then m.1 1 (26 + x) else 0)) := by
  have n3 := hC.1.2.1
  have step : ∀ (k n j : Nat) (m1 : Mem), j + k = 3 → k < n → eqOff m m1 (fun k => k = 17) → (∀ j, (j < 6 * d ∨ 6 * d + 6 ≤ j) → m1.1 17 j = m.1 17 j) → (∀ x, x < j → m1.1 17 (6 * d + x) = (if x < cN (mC_ m) then m.1 1 (20 + x) else 0) ∧ m1.1 17 (6 * d + 3 + x) = (if x < cN (mC_ m) then m.1 1 (26 + x) else 0)) →
      Ok (l_X9_laysDay N n (nI d) (nI j) m1) (fun _ m' => eqOff m m' (fun k => k = 17) ∧ (∀ j, (j < 6 * d ∨ 6 * d + 6 ≤ j) → m'.1 17 j = m.1 17 j) ∧ ∀ x, x < 3 → m'.1 17 (6 * d + x) = (if x < cN (mC_ m) then m.1 1 (20 + x) else 0) ∧ m'.1 17 (6 * d + 3 + x) = (if x < cN (mC_ m) then m.1 1 (26 + x) else 0)) := by
    intro k
    induction k with
    | zero =>
      intro n j m1 hj hn he ho hl
      obtain ⟨n, rfl⟩ : ∃ q, n = q + 1 := ⟨n - 1, by omega⟩
      have : j = 3 := by omega
      subst this
      show Ok (B_X9_laysDay_2 N (l_X9_laysDay N n) (nI d) (nI 3) m1) _
      unfold B_X9_laysDay_2
      exact ok_t (by decide) (ok_ret ⟨he, ho, hl⟩)
    | succ k ih =>
      intro n j m1 hj hn he ho hl
      obtain ⟨n, rfl⟩ : ∃ q, n = q + 1 := ⟨n - 1, by omega⟩
      show Ok (B_X9_laysDay_2 N (l_X9_laysDay N n) (nI d) (nI j) m1) _
      unfold B_X9_laysDay_2
      refine ok_f (show ¬ (3 : Int32) ≤ nI j from nI_ge (b := 3) (by omega) (by omega)) ?_
      have fin : ∀ (a b : Int32), a = (if j < cN (mC_ m) then m.1 1 (20 + j) else 0) → b = (if j < cN (mC_ m) then m.1 1 (26 + j) else 0) → Ok (l_X9_laysDay N n (nI d) (nI (j + 1)) (mI (mI m1 17 (6 * d + j) a) 17 (6 * d + 3 + j) b)) (fun _ m' => eqOff m m' (fun k => k = 17) ∧ (∀ j, (j < 6 * d ∨ 6 * d + 6 ≤ j) → m'.1 17 j = m.1 17 j) ∧ ∀ x, x < 3 → m'.1 17 (6 * d + x) = (if x < cN (mC_ m) then m.1 1 (20 + x) else 0) ∧ m'.1 17 (6 * d + 3 + x) = (if x < cN (mC_ m) then m.1 1 (26 + x) else 0)) := by
        intro a b ha hb
        refine ih n (j + 1) _ (by omega) (by omega) ?_ (fun q hq => ?_) (fun x hx => ?_)
        · exact ⟨by rw [mI_2, mI_2]; exact he.1, fun k hk => by rw [mI_ne k hk, mI_ne k hk]; exact he.2 k hk⟩
        · rw [mI_j (by omega), mI_j (by omega)]; exact ho q hq
        · by_cases e : x = j
          · subst e
            rw [mI_j (by omega), mI_s, mI_s, ha, hb]
            exact ⟨rfl, rfl⟩
          · rw [mI_j (by omega), mI_j (by omega), mI_j (by omega), mI_j (by omega)]
            exact hl x (by omega)
      have e1 : ∀ k, k ≠ 17 → m1.1 k = m.1 k := fun k hk => he.2 k hk
      rw [e1 0 (by omega), mc_n hC, mul6]
      unfold J_X9_laysDay_38
      rw [show (6 : Int32) * nI d + 3 + nI j = nI (6 * d + 3 + j) by rw [show (3 : Int32) = nI 3 from rfl, mul6, nI_add], show (20 : Int32) + nI j = nI (20 + j) from nI_add 20 j, show (26 : Int32) + nI j = nI (26 + j) from nI_add 26 j, nI_1 j]
      simp only [i_c (show 6 * d + j < 2147483648 by omega), i_c (show 6 * d + 3 + j < 2147483648 by omega), i_c (show 20 + j < 2147483648 by omega), i_c (show 26 + j < 2147483648 by omega), fl_lm, mI_ne 0 (show (0 : Nat) ≠ 17 by omega), mI_ne 1 (show (1 : Nat) ≠ 17 by omega)]
      rw [e1 0 (by omega), mc_n hC, e1 1 (by omega)]
      by_cases hc : j < cN (mC_ m)
      · rw [if_pos hc, if_pos hc] at fin
        have hg := nI_ge (a := j) (b := cN (mC_ m)) hc (by omega)
        exact ok_f hg (ok_ck (i_ckz (by omega) (by omega)) (ok_ck (i_ckz (by omega) (by omega)) (ok_f hg (ok_ck (i_ckz (by omega) (by omega)) (ok_ck (i_ckz (by omega) (by omega)) (fin _ _ rfl rfl))))))
      · rw [if_neg hc, if_neg hc] at fin
        have hg := nI_le (a := cN (mC_ m)) (b := j) (by omega) (by omega)
        exact ok_t hg (ok_ck (i_ckz (by omega) (by omega)) (ok_t hg (ok_ck (i_ckz (by omega) (by omega)) (fin _ _ rfl rfl))))
  exact step 3 N 0 m rfl (by omega) ⟨rfl, fun _ _ => rfl⟩ (fun _ _ => rfl) (fun x hx => by omega)
