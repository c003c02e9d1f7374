/-! ===== a trial beside the evening: both sides ride it alike ===== -/
def Tr (mx0 mm0 mx mm : Mem) (B : Int) : Prop := RC mx mm ∧ mC_ mm = mC_ mm0 ∧ xP (cN (mC_ mm0)) mx 45 = mP (cN (mC_ mm0)) mm 19 ∧ xB mx 45 B ∧ (∀ f, f < cM (mC_ mm0) → mx.1 49 f = mm.1 1 (30 + f)) ∧ (∀ k, k ≠ 13 → (k < 45 ∨ 51 ≤ k) → mx.1 k = mx0.1 k) ∧ (∀ k, k ≠ 1 → mm.1 k = mm0.1 k) ∧ ∀ j, (j < 19 ∨ 38 ≤ j) → mm.1 1 j = mm0.1 1 j
theorem Tr.rc {mx0 mm0 mx mm : Mem} {B : Int} (h : Tr mx0 mm0 mx mm B) : RC mx mm := h.1
theorem Tr.C {mx0 mm0 mx mm : Mem} {B : Int} (h : Tr mx0 mm0 mx mm B) : mC_ mm = mC_ mm0 := h.2.1
theorem Tr.cx {mx0 mm0 mx mm : Mem} {B : Int} (h : Tr mx0 mm0 mx mm B) : xC mx = mC_ mm0 := h.1.1.trans h.2.1
theorem Tr.B {mx0 mm0 mx mm : Mem} {B : Int} (h : Tr mx0 mm0 mx mm B) : xB mx 45 B := h.2.2.2.1
theorem Tr.Px {mx0 mm0 mx mm : Mem} {B : Int} (h : Tr mx0 mm0 mx mm B) : xPm mx 45 = mPm mm 19 := by
  unfold xPm mPm
  rw [h.cx, h.C]
  exact h.2.2.1
theorem Tr.ok {mx0 mm0 mx mm : Mem} {B : Int} (h : Tr mx0 mm0 mx mm B) : okP (mC_ mm) (mPm mm 19) B := by
  have := h.B.okP h.rc.2.1
  rw [← h.Px, ← h.rc.1]
  exact this
theorem Tr.wk {mx0 mm0 mx mm : Mem} {B B' : Int} (h : Tr mx0 mm0 mx mm B) (hB : B ≤ B') : Tr mx0 mm0 mx mm B' := ⟨h.1, h.2.1, h.2.2.1, h.B.wk hB, h.2.2.2.2⟩
theorem Tr.rl {i : Nat} {mx0 mm0 mx mm : Mem} {B : Int} (hr : Rl i mx0 mm0) (h : Tr mx0 mm0 mx mm B) : Rl (i + 1) mx mm := by
  obtain ⟨-, -, -, -, -, kx, km, km1⟩ := h
  exact hr.keep (fun k _ _ h13 hk => kx k h13 (by omega)) (fun j _ _ _ => by rw [km 0 (by omega)]) (fun j hj => km1 j (by omega)) (fun k a b => km k (by omega))
theorem sim_end {i : Nat} {mx0 mm0 mx mm : Mem} {B : Int} (hr : Rl i mx0 mm0) (h : Tr mx0 mm0 mx mm B) {v w : Int32} (e : v = w) : Sim (i + 1) (some (v, mx)) (some (w, mm)) := ok_ret (ok_ret ⟨e, h.rl hr⟩)
/-- any trip reckoned changes nothing -/
theorem Tr.rk {mx0 mm0 mx mm mx' : Mem} {B : Int} (h : Tr mx0 mm0 mx mm B) (he : eqOff mx mx' trp) : Tr mx0 mm0 mx' mm B := by
  obtain ⟨rc, hc, hP, hB, hl, kx, km, km1⟩ := h
  refine ⟨(rc.cong (fun k _ _ => he.2 k (by unfold trp; omega)) (fun _ _ _ _ => rfl) rfl rfl rfl rfl).1, hc, ?_, trp_B (by omega) he hB, fun f hf => ?_, fun k a b => ?_, km, km1⟩
  · rw [xP_cong (fun k _ _ => he.2 k (by unfold trp; omega))]; exact hP
  · rw [he.2 49 (by unfold trp; omega)]; exact hl f hf
  · rw [he.2 k (by unfold trp; omega)]; exact kx k a b
theorem Tr.ride {mx0 mm0 mx mm mx' mm' : Mem} {B : Int} {c f : Nat} {t : Bool} (h : Tr mx0 mm0 mx mm B) (hB : 99 ≤ B ∧ B ≤ 1000000) (hcc : c < cN (mC_ mm0)) (hff : f < cM (mC_ mm0)) (hx : xRide mx mx' 45 c f t) (hm : mRide mm mm' 19 c f t) : Tr mx0 mm0 mx' mm' (B + 123) := by
  have hBx := hx.B h.rc.2.1 (by omega) h.B hB (by rw [h.cx]; exact hcc) (by rw [h.cx]; exact hff)
  have hPx := hx.P (by omega) (by rw [h.cx]; exact hcc)
  have eP := h.Px
  have eCx := h.cx
  have eC := h.C
  have n7 := h.rc.ok.2.2.1.2
  rw [eC] at n7
  obtain ⟨rc, hc, hP, hB', hl, kx, km, km1⟩ := h
  obtain ⟨m0, m1, m2, m3, m4, m5⟩ := id hm
  have e1 : xP (cN (mC_ mm0)) mx' 45 = xPm mx' 45 := by unfold xPm; rw [hx.C (by omega), eCx]
  have e2 : mP (cN (mC_ mm0)) mm' 19 = mPm mm' 19 := by unfold mPm; rw [hm.C, eC]
  refine ⟨(rc.cong (fun k _ _ => hx.1.2 k (by omega)) (fun k a _ _ => m0.2 k a) (by rw [m0.2 0 (by omega)]) (by rw [m0.2 0 (by omega)]) (by rw [m0.2 0 (by omega)]) (by rw [m0.2 0 (by omega)])).1, by rw [hm.C, hc], ?_, hBx, fun g hg => ?_, fun k a b => ?_, fun k a => ?_, fun j hj => ?_⟩
  · rw [e1, e2, hPx, m2, eP, rc.1]
  · have := m5 g (by omega)
    rw [show 30 + g = 19 + 11 + g by omega, hx.2.2.2.2.1, this, rc.1, eP]
    by_cases e : g = f
    · subst e; rw [upd_s, if_pos rfl]
    · rw [upd_n e, if_neg e, show 19 + 11 + g = 30 + g by omega]; exact hl g hg
  · rw [hx.1.2 k (by omega)]; exact kx k a b
  · rw [m0.2 k a]; exact km k a
  · rw [m1 j (by omega)]; exact km1 j hj
theorem tr_start {i N : Nat} {mx mm : Mem} (hN : 20 ≤ N) (h : Rl i mx mm) : ∃ mx' mm', f_X5_copy 45 39 mx = some (0, mx') ∧ f_X9_tries N mm = some (0, mm') ∧ Tr mx mm mx' mm' (tb i) ∧ FR (mC_ mm) mx' mm' 45 19 (tb i) ∧ cpd mx mx' 45 39 ∧ cpm mm mm' 0 19 := by
  obtain ⟨c, t, f, -⟩ := id h
  have n3 := c.ok.2.1.2
  have n7 := c.ok.2.2.1.2
  obtain ⟨r, mx', ex, hx⟩ := x_copy (m := mx) (K0 := 45) (K1 := 39) (by omega)
  obtain ⟨r', mm', em, hm⟩ := m_copy (m := mm) (a := 0) (b := 19) hN (by omega) (by omega) (by omega)
  have er : r = 0 := by
    unfold f_X5_copy at ex
    simp only [fl_lm] at ex
    injection ex with ex
    injection ex with e1 e2
    exact e1.symm
  subst er
  have hF : FR (mC_ mm) mx' mm' 45 19 (tb i) := f.copy c.ok hx (fun j hj => by rw [hm.i hj, Nat.zero_add])
  have eC : mC_ mm' = mC_ mm := mC_cong (fun k a _ => hm.1.2 k a)
  refine ⟨mx', mm', ex, ?_, ⟨(c.cong (fun k _ _ => hx.1.2 k (by omega)) (fun k a _ _ => hm.1.2 k a) (by rw [hm.1.2 0 (by omega)]) (by rw [hm.1.2 0 (by omega)]) (by rw [hm.1.2 0 (by omega)]) (by rw [hm.1.2 0 (by omega)])).1, eC, hF.1, hF.2.1, fun g hg => ?_, fun k a b => hx.1.2 k (by omega), fun k a => hm.1.2 k a, fun j hj => hm.o (by omega)⟩, hF, hx, hm⟩
  · unfold f_X9_tries
    rw [show f_X9_copy N 0 19 mm = f_X9_copy N (nI 0) (nI 19) mm from rfl, em]
    rfl
  · obtain ⟨T, U, -, -, -, -, -, t6⟩ := hF.2.2
    exact (t6 g hg).1
/-- both drive -/
theorem tr_drive {mx0 mm0 mx mm : Mem} {B : Int} {c f : Nat} (h : Tr mx0 mm0 mx mm B) (hB : 99 ≤ B ∧ B ≤ 1000000) (hcc : c < cN (mC_ mm0)) (hff : f < cM (mC_ mm0)) :
    ∃ mx' mm', f_X0_drive 4 45 (nI c) (nI f) mx = some (b2i (a_weeps (mC_ mm0) (mPm mm 19) c f), mx') ∧ f_X9_ridesAsOneDoes 19 (nI c) (nI f) mm = some (b2i (a_weeps (mC_ mm0) (mPm mm 19) c f), mm') ∧ Tr mx0 mm0 mx' mm' (B + 123) ∧ xRide mx mx' 45 c f (a_weeps (mC_ mm0) (mPm mm 19) c f) ∧ mRide mm mm' 19 c f (a_weeps (mC_ mm0) (mPm mm 19) c f) := by
  obtain ⟨r, mx', ex, hr, hx⟩ := x_drive (S := 45) h.rc.2.1 (by omega) h.B (by rw [h.cx]; exact hcc) (by rw [h.cx]; exact hff)
  obtain ⟨r', mm', em, hr', hm⟩ := m_ride1 (r := 19) (c := c) (f := f) h.rc.2.2.1 h.ok (by omega) (by rw [h.C]; exact hcc) (by rw [h.C]; exact hff)
  rw [h.Px, h.cx] at hr hx
  rw [h.C] at hr' hm
  subst hr hr'
  exact ⟨mx', mm', ex, em, h.ride hB hcc hff hx hm, hx, hm⟩
/-- both drive with the soonest -/
theorem tr_soon {N : Nat} {mx0 mm0 mx mm : Mem} {B : Int} {f : Nat} (hN : 4 ≤ N) (h : Tr mx0 mm0 mx mm B) (hB : 99 ≤ B ∧ B ≤ 1000000) (hff : f < cM (mC_ mm0)) :
    ∃ c mx' mm', c = a_near (mC_ mm0) (mPm mm 19) f ∧ c < cN (mC_ mm0) ∧ f_X0_driveSoonest N 4 45 (nI f) mx = some (b2i (a_weeps (mC_ mm0) (mPm mm 19) c f), mx') ∧ f_X9_soonestIn N 19 (nI f) mm = some (nI c, mm) ∧ f_X9_ridesAsOneDoes 19 (nI c) (nI f) mm = some (b2i (a_weeps (mC_ mm0) (mPm mm 19) c f), mm') ∧ Tr mx0 mm0 mx' mm' (B + 123) ∧ xRide mx mx' 45 c f (a_weeps (mC_ mm0) (mPm mm 19) c f) ∧ mRide mm mm' 19 c f (a_weeps (mC_ mm0) (mPm mm 19) c f) := by
  have hok := h.rc.ok
  rw [h.C] at hok
  have hcc := a_near_lt hok (mPm mm 19) f
  obtain ⟨r, mx', ex, hr, hx⟩ := x_driveSoonest (N := N) (S := 45) (f := f) hN h.rc.2.1 (by omega) h.B (by rw [h.cx]; exact hff)
  have es := m_soonest (N := N) (r := 19) (f := f) hN h.rc.2.2.1 h.ok (by omega) (by rw [h.C]; exact hff)
  obtain ⟨r', mm', em, hr', hm⟩ := m_ride1 (r := 19) (c := a_near (mC_ mm0) (mPm mm 19) f) (f := f) h.rc.2.2.1 h.ok (by omega) (by rw [h.C]; exact hcc) (by rw [h.C]; exact hff)
  rw [h.Px, h.cx] at hr hx
  rw [h.C] at hr' hm es
  subst hr hr'
  exact ⟨_, mx', mm', rfl, hcc, ex, es, em, h.ride hB hcc hff hx hm, hx, hm⟩
/-! division -/
theorem i_div {a b : Nat} (ha : a < 2147483648) (hb : b < 2147483648) : nI a / nI b = nI (a / b) := by
  rw [i_eq, Int32.toInt_div, nI_toInt ha, nI_toInt hb]
  have h := Nat.div_le_self a b
  rw [nI_toInt (by omega)]
  have e : (a : Int).tdiv (b : Int) = ((a / b : Nat) : Int) := by
    rw [Int.tdiv_eq_ediv_of_nonneg (by omega)]
    rfl
  rw [e]
  generalize a / b = q at h
  exact i_bmod (by omega) (by omega)
theorem i_rem {a b : Nat} (ha : a < 2147483648) (hb : b < 2147483648) (h0 : 0 < b) : fl_rem (nI a) (nI b) = nI (a % b) := by
  have h1 := Nat.div_mul_le_self a b
  have h2 := Nat.div_add_mod a b
  have h3 := Nat.div_le_self a b
  unfold fl_rem
  rw [i_div ha hb, i_eq, nI_toInt (Nat.lt_of_le_of_lt (Nat.mod_le a b) ha)]
  have em : (nI (a / b) * nI b).toInt = ((a / b * b : Nat) : Int) := by
    have := i_mul (x := nI (a / b)) (y := nI b)
    rw [nI_toInt (by omega), nI_toInt hb] at this
    rw [this]
    · rfl
    · exact Int.le_trans (by omega) (Int.natCast_nonneg (a / b * b))
    · exact Int.ofNat_lt.mpr (by omega : a / b * b < 2147483648)
  rw [i_sub (by rw [em, nI_toInt ha]; omega) (by rw [em, nI_toInt ha]; omega), em, nI_toInt ha]
  rw [Nat.mul_comm] at h2
  omega
theorem l_bmod {z : Int} (h1 : -9223372036854775808 ≤ z) (h2 : z < 9223372036854775808) : z.bmod (2 ^ 64) = z := by
  rw [Int.bmod_eq_of_le (by omega) (by omega)]
theorem l_rem {w : Int64} {b : Nat} {l : Int64} (h0 : 0 ≤ w.toInt) (hb : 0 < b) (hb2 : b < 1000000) (hl : l.toInt = b) : ((fl_remL w l).toInt32).toInt = w.toInt % b := by
  have hw := Int64.toInt_lt w
  have hd : (w / l).toInt = w.toInt / b := by
    rw [Int64.toInt_div, hl, Int.tdiv_eq_ediv_of_nonneg h0]
    have h1 := Int.ediv_le_self b h0
    have h2 := Int.ediv_nonneg h0 (show (0 : Int) ≤ b by omega)
    exact l_bmod (by omega) (by omega)
  have hm := Int.emod_add_mul_ediv w.toInt b
  have hm1 := Int.emod_nonneg w.toInt (show (b : Int) ≠ 0 by omega)
  have hm2 := Int.emod_lt_of_pos w.toInt (show (0 : Int) < b by omega)
  have hmul : (w / l * l).toInt = w.toInt / b * b := by
    rw [Int64.toInt_mul, hd, hl, Int.mul_comm]
    exact l_bmod (by omega) (by omega)
  have hs : (fl_remL w l).toInt = w.toInt % b := by
    unfold fl_remL
    rw [Int64.toInt_sub, hmul, Int.mul_comm, show w.toInt - ↑b * (w.toInt / ↑b) = w.toInt % b by omega]
    exact l_bmod (by omega) (by omega)
  rw [Int64.toInt_toInt32, hs]
  exact i_bmod (by omega) (by omega)
