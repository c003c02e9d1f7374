/-! ===== the reference: rides ===== -/
theorem ok_v {α : Type} {o : Option (α × Mem)} {v : α} {m : Mem} (h : Ok o (fun r m' => r = v ∧ m' = m)) : o = some (v, m) := by
  obtain ⟨r, m', e, rfl, rfl⟩ := h
  exact e
theorem ok_bv {α β : Type} {Q : β → Mem → Prop} {o : Option (α × Mem)} {f : α → Mem → Option (β × Mem)} {v : α} {m : Mem} (h : Ok o (fun r m' => r = v ∧ m' = m)) (k : Ok (f v m) Q) : Ok (fl_bd o f) Q := ok_eq (ok_v h) k
theorem ok_of {α : Type} {o : Option (α × Mem)} {v : α} {m : Mem} (h : o = some (v, m)) : Ok o (fun r m' => r = v ∧ m' = m) := ⟨v, m, h, rfl, rfl⟩
def mC_ (m : Mem) : Cf := (m.1 0 4, (m.1 0 5).toNatClampNeg, (m.1 0 7).toNatClampNeg, rs (m.1 0 5).toNatClampNeg (m.1 2), rs (m.1 0 7).toNatClampNeg (m.1 3), rs (m.1 0 7).toNatClampNeg (m.1 4), rs (m.1 0 7).toNatClampNeg (m.1 5), rs (m.1 0 7).toNatClampNeg (m.1 6), rs (m.1 0 7).toNatClampNeg (m.1 7))
def mP (n : Nat) (m : Mem) (r : Nat) : Ps := (m.1 1 r, rs n (fun c => m.1 1 (r + 1 + c)), rs n (fun c => m.1 1 (r + 4 + c)), rs n (fun c => m.1 1 (r + 7 + c)))
def mPm (m : Mem) (r : Nat) : Ps := mP (cN (mC_ m)) m r
def mcOk (m : Mem) : Prop := okC (mC_ m) ∧ 0 ≤ (m.1 0 5).toInt ∧ 0 ≤ (m.1 0 7).toInt
theorem mC_cong {m m' : Mem} (h : ∀ k, k ≠ 1 → k < 8 → m'.1 k = m.1 k) : mC_ m' = mC_ m := by
  unfold mC_
  rw [h 0 (by omega) (by omega), h 2 (by omega) (by omega), h 3 (by omega) (by omega), h 4 (by omega) (by omega), h 5 (by omega) (by omega), h 6 (by omega) (by omega), h 7 (by omega) (by omega)]
theorem mcOk_cong {m m' : Mem} (h : ∀ k, k ≠ 1 → k < 8 → m'.1 k = m.1 k) (hc : mcOk m) : mcOk m' := by
  unfold mcOk
  rw [mC_cong h, h 0 (by omega) (by omega)]
  exact hc
theorem mP_cong {n : Nat} {m m' : Mem} {r : Nat} (hn : n ≤ 3) (h : ∀ j, r ≤ j → j < r + 10 → m'.1 1 j = m.1 1 j) : mP n m' r = mP n m r := by
  unfold mP
  rw [h r (by omega) (by omega), rs_cong (n := n) (g := fun c => m'.1 1 (r + 1 + c)) (g' := fun c => m.1 1 (r + 1 + c)) (fun c hc => h _ (by omega) (by omega)), rs_cong (n := n) (g := fun c => m'.1 1 (r + 4 + c)) (g' := fun c => m.1 1 (r + 4 + c)) (fun c hc => h _ (by omega) (by omega)), rs_cong (n := n) (g := fun c => m'.1 1 (r + 7 + c)) (g' := fun c => m.1 1 (r + 7 + c)) (fun c hc => h _ (by omega) (by omega))]
theorem mc_n {m : Mem} (h : mcOk m) : m.1 0 5 = nI (cN (mC_ m)) := i_nat h.2.1
theorem mc_m {m : Mem} (h : mcOk m) : m.1 0 7 = nI (cM (mC_ m)) := i_nat h.2.2
theorem mc_K {m : Mem} {c : Nat} (h : c < cN (mC_ m)) : cK (mC_ m) c = m.1 2 c := rs_lt h
theorem mc_qK {m : Mem} {f : Nat} (h : f < cM (mC_ m)) : qK (mC_ m) f = m.1 3 f := rs_lt h
theorem mc_qF {m : Mem} {f : Nat} (h : f < cM (mC_ m)) : qF (mC_ m) f = m.1 4 f := rs_lt h
theorem mc_qT {m : Mem} {f : Nat} (h : f < cM (mC_ m)) : qT (mC_ m) f = m.1 5 f := rs_lt h
theorem mc_qS {m : Mem} {f : Nat} (h : f < cM (mC_ m)) : qS (mC_ m) f = m.1 6 f := rs_lt h
theorem mc_qB {m : Mem} {f : Nat} (h : f < cM (mC_ m)) : qB (mC_ m) f = m.1 7 f := rs_lt h
theorem mp_1 {m : Mem} {r c : Nat} (h : c < cN (mC_ m)) : (mPm m r).2.1 c = m.1 1 (r + 1 + c) := rs_lt (g := fun c => m.1 1 (r + 1 + c)) h
theorem mp_2 {m : Mem} {r c : Nat} (h : c < cN (mC_ m)) : (mPm m r).2.2.1 c = m.1 1 (r + 4 + c) := rs_lt (g := fun c => m.1 1 (r + 4 + c)) h
theorem mp_3 {m : Mem} {r c : Nat} (h : c < cN (mC_ m)) : (mPm m r).2.2.2 c = m.1 1 (r + 7 + c) := rs_lt (g := fun c => m.1 1 (r + 7 + c)) h
theorem ix2 (r k c : Nat) : nI r + nI k + nI c = nI (r + k + c) := by rw [nI_add, nI_add]
theorem abs_alt (z : Int32) (t : Int32) : (if 0 ≤ t then z + t else z + -t) = z + fl_abs t := by
  unfold fl_abs
  by_cases h : 0 ≤ t
  · rw [if_pos h, if_pos h]
  · rw [if_neg h, if_neg h, Int32.zero_sub]
theorem m_farOf {m : Mem} {a b : Int32} (hw : wdt (m.1 0 4)) : f_X9_farOf a b m = some (dist (m.1 0 4) a b, m) := by
  have h0 : ¬ m.1 0 4 = 0 := by
    intro q
    have := hw.1
    rw [q] at this
    exact absurd this (by decide)
  refine ok_v ?_
  unfold f_X9_farOf
  refine ok_ck h0 (ok_ck h0 (ok_li (fun z3 e3 => ok_ck h0 (ok_ck h0 (ok_li (fun z7 e7 => ?_))))))
  have last : ∀ t : Int32, t = fl_abs z3 → Ok (J_X9_farOf_39 z7 t m) (fun r m' => r = dist (m.1 0 4) a b ∧ m' = m) := by
    intro t ht
    unfold J_X9_farOf_39
    have e : dist (m.1 0 4) a b = t + fl_abs z7 := by rw [ht, e3, e7]; rfl
    rw [e, ← abs_alt]
    refine ok_if (fun h => ok_ret ⟨by rw [if_pos h], rfl⟩) (fun h => ok_ret ⟨by rw [if_neg h], rfl⟩)
  refine ok_if (fun h => last z3 ?_) (fun h => last (-z3) ?_)
  · unfold fl_abs; rw [if_pos h]
  · unfold fl_abs; rw [if_neg h, Int32.zero_sub]
theorem m_goesBy {m : Mem} {r c f : Nat} {B : Int} (hC : mcOk m) (hP : okP (mC_ m) (mPm m r) B) (hr : r + 19 ≤ 380) (hc : c < cN (mC_ m)) (hf : f < cM (mC_ m)) :
    f_X9_goesBy (nI r) (nI c) (nI f) m = some (b2i (a_by (mC_ m) (mPm m r) c f), m) := by
  have h3 := hC.1.2.1.2
  have h7 := hC.1.2.2.1.2
  have hc3 := i_ck (show c < 3 by omega) (by omega)
  have hf7 := i_ck (show f < 7 by omega) (by omega)
  have hix := i_ck (show r + 7 + c < 380 by omega) (by omega)
  have hq := (hC.1.2.2.2 f hf).1
  have hnw := (hP.2 c hc).2.2
  refine ok_v ?_
  unfold f_X9_goesBy
  rw [show (7 : Int32) = nI 7 from rfl, ix2]
  simp only [i_c (show c < 2147483648 by omega), i_c (show f < 2147483648 by omega), i_c (show r + 7 + c < 2147483648 by omega)]
  refine ok_ck hix (ok_li (fun z hz => ?_))
  have hz' : z = (mPm m r).2.2.2 c := by rw [hz, mp_3 hc]
  unfold a_by g_by
  rw [← hz', mc_K hc, mc_qF hf]
  refine ok_if (fun h => ok_ret ⟨by simp [h, b2i], rfl⟩) (fun h => ok_ck hc3 (ok_if (fun h2 => ok_ck hf7 (ok_eq (m_farOf hC.1.1) ?_)) (fun h2 => ok_ret ⟨by simp [h, h2, b2i], rfl⟩)))
  have hpz : pl z := by
    rcases hnw with q | q
    · exact absurd (hz'.trans q) h
    · rw [hz']; exact q
  have hsym : dist (m.1 0 4) z (m.1 4 f) = dist (cW (mC_ m)) (m.1 4 f) z := by
    have := (dist_all hC.1.1 hpz hq).2
    rw [mc_qF hf] at this
    exact this
  rw [hsym]
  exact ok_if (fun h3 => ok_ret ⟨by simp [h, h2, h3, b2i], rfl⟩) (fun h3 => ok_ret ⟨by simp [h, h2, h3, b2i], rfl⟩)
theorem m_setsOut {m : Mem} {r c : Nat} (hr : r + 19 ≤ 380) (hc : c < 3) : f_X9_setsOut (nI r) (nI c) m = some (fl_max (m.1 1 r) (m.1 1 (r + 4 + c)), m) := by
  have hi0 := i_ck (show r < 380 by omega) (by omega)
  have hix := i_ck (show r + 4 + c < 380 by omega) (by omega)
  refine ok_v ?_
  unfold f_X9_setsOut
  rw [show (4 : Int32) = nI 4 from rfl, ix2, show nI r + (0 : Int32) = nI r from Int32.add_zero _]
  simp only [i_c (show r < 2147483648 by omega), i_c (show r + 4 + c < 2147483648 by omega)]
  rw [← fl_max_alt]
  exact ok_ck hi0 (ok_ck hix (ok_if (fun h => ok_ck hix (ok_ret ⟨by rw [if_pos h], rfl⟩)) (fun h => ok_ck hi0 (ok_ret ⟨by rw [if_neg h], rfl⟩))))
theorem m_freeBy {m : Mem} {r c f : Nat} {B : Int} (hC : mcOk m) (hP : okP (mC_ m) (mPm m r) B) (hr : r + 19 ≤ 380) (hc : c < cN (mC_ m)) (hf : f < cM (mC_ m)) :
    f_X9_freeBy (nI r) (nI c) (nI f) m = some (a_free (mC_ m) (mPm m r) c f, m) := by
  have h3 := hC.1.2.1.2
  have h7 := hC.1.2.2.1.2
  have hc3 := i_ck (show c < 3 by omega) (by omega)
  have hf7 := i_ck (show f < 7 by omega) (by omega)
  have hi7 := i_ck (show r + 7 + c < 380 by omega) (by omega)
  have hi1 := i_ck (show r + 1 + c < 380 by omega) (by omega)
  have hw : wdt (m.1 0 4) := hC.1.1
  refine ok_v ?_
  have hfree : a_free (mC_ m) (mPm m r) c f = fl_max (fl_max (m.1 1 r) (m.1 1 (r + 4 + c))) (m.1 6 f) + dist (m.1 0 4) (m.1 1 (r + 1 + c)) (m.1 4 f) + g_way (m.1 0 4) (m.1 2 c) (m.1 1 (r + 7 + c)) (m.1 4 f) (m.1 5 f) := by
    unfold a_free g_free
    rw [mc_K hc, mc_qF hf, mc_qT hf, mc_qS hf, mp_1 hc, mp_2 hc, mp_3 hc]
    rfl
  have last : ∀ z4 t0 : Int32, z4 = fl_max (fl_max (m.1 1 r) (m.1 1 (r + 4 + c))) (m.1 6 f) → t0 = g_way (m.1 0 4) (m.1 2 c) (m.1 1 (r + 7 + c)) (m.1 4 f) (m.1 5 f) → Ok (J_X9_freeBy_115 (nI r) (nI c) (nI f) z4 t0 m) (fun v m' => v = a_free (mC_ m) (mPm m r) c f ∧ m' = m) := by
    intro z4 t0 h4 h0
    unfold J_X9_freeBy_115
    rw [show (1 : Int32) = nI 1 from rfl, ix2]
    simp only [i_c (show c < 2147483648 by omega), i_c (show f < 2147483648 by omega), i_c (show r + 1 + c < 2147483648 by omega)]
    refine ok_ck hi1 (ok_ck hf7 (ok_eq (m_farOf hw) (ok_ret ⟨?_, rfl⟩)))
    rw [hfree, h4, h0]
  have mid : ∀ z4 : Int32, z4 = fl_max (fl_max (m.1 1 r) (m.1 1 (r + 4 + c))) (m.1 6 f) → Ok (J_X9_freeBy_30 (nI r) (nI c) (nI f) z4 m) (fun v m' => v = a_free (mC_ m) (mPm m r) c f ∧ m' = m) := by
    intro z4 h4
    unfold J_X9_freeBy_30
    rw [show (7 : Int32) = nI 7 from rfl, ix2]
    simp only [i_c (show c < 2147483648 by omega), i_c (show f < 2147483648 by omega), i_c (show r + 7 + c < 2147483648 by omega)]
    refine ok_ck hi7 (ok_li (fun z11 hz11 => ok_eq (m_goesBy hC hP hr hc hf) ?_))
    have hby : a_by (mC_ m) (mPm m r) c f = g_by (m.1 0 4) (m.1 2 c) (m.1 1 (r + 7 + c)) (m.1 4 f) := by
      unfold a_by
      rw [mc_K hc, mc_qF hf, mp_3 hc]
      rfl
    rw [hby]
    refine ok_if (fun h => ok_ck hf7 (ok_ck hf7 (ok_eq (m_farOf hw) (last _ _ h4 ?_)))) (fun h => ok_ck hf7 (ok_eq (m_farOf hw) (ok_ck hc3 ?_)))
    · unfold g_way
      rw [(b2i_z _).mp h]
      simp
    · have hb : g_by (m.1 0 4) (m.1 2 c) (m.1 1 (r + 7 + c)) (m.1 4 f) = true := by
        cases hq : g_by (m.1 0 4) (m.1 2 c) (m.1 1 (r + 7 + c)) (m.1 4 f) with
        | true => rfl
        | false => rw [hq] at h; exact absurd rfl h
      have j82 : ∀ s : Int32, s = (if m.1 2 c = 1 then 3 else 1) → Ok (J_X9_freeBy_82 (nI r) (nI c) (nI f) z4 z11 (dist (m.1 0 4) (m.1 4 f) z11) s m) (fun v m' => v = a_free (mC_ m) (mPm m r) c f ∧ m' = m) := by
        intro s hs
        unfold J_X9_freeBy_82
        simp only [i_c (show f < 2147483648 by omega)]
        refine ok_ck hf7 (ok_eq (m_farOf hw) (last _ _ h4 ?_))
        unfold g_way
        rw [if_pos hb, hs, hz11]
      exact ok_if (fun h5 => j82 3 (by rw [if_pos h5])) (fun h5 => j82 1 (by rw [if_neg h5]))
  unfold f_X9_freeBy
  simp only [i_c (show f < 2147483648 by omega)]
  refine ok_eq (m_setsOut hr (by omega)) (ok_ck hf7 (ok_if (fun h => ok_ck hf7 (mid _ ?_)) (fun h => ok_eq (m_setsOut hr (by omega)) (mid _ ?_))))
  · rw [← fl_max_alt, if_pos h]
  · rw [← fl_max_alt (fl_max (m.1 1 r) (m.1 1 (r + 4 + c))), if_neg h]
theorem m_lateBy {m : Mem} {r c f : Nat} {B : Int} (hC : mcOk m) (hP : okP (mC_ m) (mPm m r) B) (hr : r + 19 ≤ 380) (hc : c < cN (mC_ m)) (hf : f < cM (mC_ m)) :
    f_X9_lateBy (nI r) (nI c) (nI f) m = some (a_late (mC_ m) (mPm m r) c f, m) := by
  have h7 := hC.1.2.2.1.2
  have hf7 := i_ck (show f < 7 by omega) (by omega)
  refine ok_v ?_
  unfold f_X9_lateBy
  simp only [i_c (show f < 2147483648 by omega)]
  refine ok_eq (m_freeBy hC hP hr hc hf) (ok_ck hf7 (ok_ret ⟨?_, rfl⟩))
  unfold a_late
  rw [mc_qS hf]
theorem m_weeps {m : Mem} {f : Nat} {z : Int32} (hC : mcOk m) (hf : f < cM (mC_ m)) : f_X9_weeps (nI f) z m = some (b2i (g_weeps (qK (mC_ m) f) z (qB (mC_ m) f)), m) := by
  have h7 := hC.1.2.2.1.2
  have hf7 := i_ck (show f < 7 by omega) (by omega)
  refine ok_v ?_
  unfold f_X9_weeps
  simp only [i_c (show f < 2147483648 by omega)]
  rw [mc_qK hf, mc_qB hf]
  unfold g_weeps
  refine ok_ck hf7 (ok_if (fun h => ok_ret ⟨by simp [h, b2i], rfl⟩) (fun h => ok_ck hf7 (ok_if (fun h2 => ok_ck hf7 (ok_if (fun h3 => ok_ret ⟨?_, rfl⟩) (fun h3 => ok_ret ⟨?_, rfl⟩))) (fun h2 => ok_ret ⟨by simp [h, h2, b2i], rfl⟩))))
  · have h4 : ¬ m.1 7 f < z := by rw [i_lt]; rw [i_le] at h3; omega
    simp [h, h2, h4, b2i]
  · have h4 : m.1 7 f < z := by rw [i_lt]; rw [i_le] at h3; omega
    simp [h, h2, h4, b2i]
def bitI (f : Nat) : Int32 := (1 : Int32) <<< (nI f &&& 31)
/-- what a ride leaves in the record at r -/
def mRide (m m' : Mem) (r c f : Nat) (t : Bool) : Prop :=
  eqOff m m' (fun k => k = 1) ∧ (∀ j, (j < r ∨ r + 19 ≤ j) → m'.1 1 j = m.1 1 j) ∧ mPm m' r = a_ride (mC_ m) (mPm m r) c f t ∧ m'.1 1 (r + 10) = m.1 1 (r + 10) ||| bitI f ∧
  m'.1 1 (r + 18) = m.1 1 (r + 18) ||| (if t = true then bitI f else 0) ∧ ∀ j, j < 7 → m'.1 1 (r + 11 + j) = if j = f then a_late (mC_ m) (mPm m r) c f else m.1 1 (r + 11 + j)
theorem mRide.C {m m' : Mem} {r c f : Nat} {t : Bool} (h : mRide m m' r c f t) : mC_ m' = mC_ m := mC_cong (fun k h1 _ => h.1.2 k h1)
theorem mRide.cOk {m m' : Mem} {r c f : Nat} {t : Bool} (h : mRide m m' r c f t) (hc : mcOk m) : mcOk m' := mcOk_cong (fun k h1 _ => h.1.2 k h1) hc
theorem rs_w {n c : Nat} {v : Int32} {g g' : Nat → Int32} (h : c < n) (h1 : g' c = v) (h2 : ∀ d, d < n → d ≠ c → g' d = g d) : rs n g' = upd (rs n g) c v := by
  funext d
  unfold rs upd
  by_cases e : d = c
  · subst e; simp [h, h1]
  · rw [if_neg e]
    show (if d < n then g' d else 0) = (if d < n then g d else 0)
    by_cases hd : d < n
    · rw [if_pos hd, if_pos hd, h2 d hd e]
    · rw [if_neg hd, if_neg hd]
theorem m_rides {m : Mem} {r c f : Nat} {B : Int} {z : Int32} {t : Bool} (hC : mcOk m) (hP : okP (mC_ m) (mPm m r) B) (hr : r + 19 ≤ 380) (hc : c < cN (mC_ m)) (hf : f < cM (mC_ m)) (hz : z = 0 ↔ t = false) :
    Ok (f_X9_rides (nI r) (nI c) (nI f) z m) (fun _ m' => mRide m m' r c f t) := by
  have h3 := hC.1.2.1.2
  have h7 := hC.1.2.2.1.2
  have hf7 := i_ck (show f < 7 by omega) (by omega)
  have hi1 := i_ck (show r + 1 + c < 380 by omega) (by omega)
  have hi4 := i_ck (show r + 4 + c < 380 by omega) (by omega)
  have hi7 := i_ck (show r + 7 + c < 380 by omega) (by omega)
  have hiA := i_ck (show r + 10 < 380 by omega) (by omega)
  have hiB := i_ck (show r + 11 + f < 380 by omega) (by omega)
  have hiC := i_ck (show r + 18 < 380 by omega) (by omega)
  unfold f_X9_rides
  rw [show (11 : Int32) = nI 11 from rfl, ix2, show nI r + (10 : Int32) = nI (r + 10) from nI_add r 10, show nI r + (18 : Int32) = nI (r + 18) from nI_add r 18]
  simp only [i_c (show c < 2147483648 by omega), i_c (show f < 2147483648 by omega), i_c (show r + 11 + f < 2147483648 by omega), i_c (show r + 10 < 2147483648 by omega), i_c (show r + 18 < 2147483648 by omega)]
  refine ok_eq (m_goesBy hC hP hr hc hf) (ok_eq (m_freeBy hC hP hr hc hf) (ok_ck hf7 (ok_ck hiB (ok_lm (fun m1 e1 => ok_ck hiA (ok_ck hiA (ok_lm (fun m2 e2 => ok_ck hiC ?_))))))))
  generalize hby : a_by (mC_ m) (mPm m r) c f = by_
  generalize hfr : a_free (mC_ m) (mPm m r) c f = fr at *
  have hla : fr - m.1 6 f = a_late (mC_ m) (mPm m r) c f := by unfold a_late; rw [mc_qS hf, hfr]
  -- the record behind the two first writes
  have o2 : ∀ k, k ≠ 1 → m2.1 k = m.1 k := fun k hk => by rw [e2, mI_ne k hk, e1, mI_ne k hk]
  have o22 : m2.2 = m.2 := by rw [e2, mI_2, e1, mI_2]
  have a10 : m2.1 1 (r + 10) = m.1 1 (r + 10) ||| bitI f := by rw [e2, mI_s, e1, mI_j (by omega)]; rfl
  have a11 : m2.1 1 (r + 11 + f) = a_late (mC_ m) (mPm m r) c f := by rw [e2, mI_j (by omega), e1, mI_s, hla]
  have aoth : ∀ j, j ≠ r + 10 → j ≠ r + 11 + f → m2.1 1 j = m.1 1 j := fun j a b => by rw [e2, mI_j a, e1, mI_j b]
  -- the last writes
  have fin : ∀ (m3 : Mem) (x : Int32), (∀ k, k ≠ 1 → m3.1 k = m2.1 k) → m3.2 = m2.2 → (∀ j, j ≠ r + 18 → m3.1 1 j = m2.1 1 j) → m3.1 1 (r + 18) = m.1 1 (r + 18) ||| (if t = true then bitI f else 0) → x = (if qK (mC_ m) f = 3 ∧ by_ = true then -4 else if t = true then qT (mC_ m) f else (mPm m r).2.2.2 c) →
      Ok (J_X9_rides_132 (nI r) (nI c) (nI f) fr (nI (r + 7 + c)) x m3) (fun _ m' => mRide m m' r c f t) := by
    intro m3 x h3 h32 h3j h318 hx
    unfold J_X9_rides_132
    rw [show (1 : Int32) = nI 1 from rfl, ix2, show (4 : Int32) = nI 4 from rfl, ix2]
    simp only [i_c (show f < 2147483648 by omega), i_c (show r + 1 + c < 2147483648 by omega), i_c (show r + 4 + c < 2147483648 by omega), i_c (show r + 7 + c < 2147483648 by omega)]
    refine ok_ck hi7 (ok_lm (fun m4 e4 => ok_ck hf7 (ok_ck hi1 (ok_lm (fun m5 e5 => ok_ck hi4 (ok_lm (fun m6 e6 => ok_ret ?_)))))))
    have k5 : m4.1 5 f = qT (mC_ m) f := by rw [e4, mI_ne 5 (by omega), h3 5 (by omega), o2 5 (by omega), mc_qT hf]
    have g : ∀ j, m6.1 1 j = if j = r + 4 + c then fr else if j = r + 1 + c then qT (mC_ m) f else if j = r + 7 + c then x else m3.1 1 j := by
      intro j
      rw [e6, mI_g, if_pos rfl]
      by_cases q : j = r + 4 + c
      · rw [if_pos q, if_pos q]
      · rw [if_neg q, if_neg q, e5, mI_g, if_pos rfl]
        by_cases q2 : j = r + 1 + c
        · rw [if_pos q2, if_pos q2, k5]
        · rw [if_neg q2, if_neg q2, e4, mI_g, if_pos rfl]
    have go : ∀ j, j ≠ r + 4 + c → j ≠ r + 1 + c → j ≠ r + 7 + c → m6.1 1 j = m3.1 1 j := fun j a b d => by rw [g, if_neg a, if_neg b, if_neg d]
    have gm : ∀ j, j ≠ r + 4 + c → j ≠ r + 1 + c → j ≠ r + 7 + c → j ≠ r + 10 → j ≠ r + 11 + f → j ≠ r + 18 → m6.1 1 j = m.1 1 j := fun j a b d x1 x2 x3 => by rw [go j a b d, h3j j x3, aoth j x1 x2]
    have hk : ∀ k, k ≠ 1 → m6.1 k = m.1 k := fun k hk => by rw [e6, mI_ne k hk, e5, mI_ne k hk, e4, mI_ne k hk, h3 k hk, o2 k hk]
    have hCC : mC_ m6 = mC_ m := mC_cong (fun k h1 _ => hk k h1)
    refine ⟨⟨by rw [e6, mI_2, e5, mI_2, e4, mI_2, h32, o22], hk⟩, fun j hj => gm j (by omega) (by omega) (by omega) (by omega) (by omega) (by omega), ?_, ?_, ?_, fun j hj => ?_⟩
    · have ea : a_ride (mC_ m) (mPm m r) c f t = (m.1 1 r, upd (rs (cN (mC_ m)) (fun d => m.1 1 (r + 1 + d))) c (qT (mC_ m) f), upd (rs (cN (mC_ m)) (fun d => m.1 1 (r + 4 + d))) c fr, upd (rs (cN (mC_ m)) (fun d => m.1 1 (r + 7 + d))) c x) := by
        unfold a_ride
        rw [hfr, hby, ← hx]
        rfl
      rw [ea]
      show mP (cN (mC_ m6)) m6 r = _
      unfold mP
      rw [hCC, gm r (by omega) (by omega) (by omega) (by omega) (by omega) (by omega)]
      rw [rs_w (g := fun d => m.1 1 (r + 1 + d)) (v := qT (mC_ m) f) hc (by rw [g, if_neg (by omega), if_pos rfl]) (fun d hd hdc => gm _ (by omega) (by omega) (by omega) (by omega) (by omega) (by omega))]
      rw [rs_w (g := fun d => m.1 1 (r + 4 + d)) (v := fr) hc (by rw [g, if_pos rfl]) (fun d hd hdc => gm _ (by omega) (by omega) (by omega) (by omega) (by omega) (by omega))]
      rw [rs_w (g := fun d => m.1 1 (r + 7 + d)) (v := x) hc (by rw [g, if_neg (by omega), if_neg (by omega), if_pos rfl]) (fun d hd hdc => gm _ (by omega) (by omega) (by omega) (by omega) (by omega) (by omega))]
    · rw [go _ (by omega) (by omega) (by omega), h3j _ (by omega), a10]
    · rw [go _ (by omega) (by omega) (by omega), h318]
    · rw [go _ (by omega) (by omega) (by omega), h3j _ (by omega)]
      by_cases q : j = f
      · subst q; rw [if_pos rfl, a11]
      · rw [if_neg q, aoth _ (by omega) (by omega)]
  have j107 : ∀ m3 : Mem, (∀ k, k ≠ 1 → m3.1 k = m2.1 k) → m3.2 = m2.2 → (∀ j, j ≠ r + 18 → m3.1 1 j = m2.1 1 j) → m3.1 1 (r + 18) = m.1 1 (r + 18) ||| (if t = true then bitI f else 0) → (¬ (qK (mC_ m) f = 3 ∧ by_ = true)) →
      Ok (J_X9_rides_107 (nI r) (nI c) (nI f) z fr (nI (r + 7 + c)) m3) (fun _ m' => mRide m m' r c f t) := by
    intro m3 h3 h32 h3j h318 hn
    unfold J_X9_rides_107
    rw [show (7 : Int32) = nI 7 from rfl, ix2]
    simp only [i_c (show f < 2147483648 by omega), i_c (show r + 7 + c < 2147483648 by omega)]
    refine ok_if (fun h => ok_ck hi7 (fin m3 _ h3 h32 h3j h318 ?_)) (fun h => ok_ck hf7 (fin m3 _ h3 h32 h3j h318 ?_))
    · have : ¬ t = true := by rw [hz.mp h]; simp
      rw [if_neg hn, if_neg this, mp_3 hc, h3j _ (by omega), aoth _ (by omega) (by omega)]
    · have : t = true := by
        cases t with
        | true => rfl
        | false => exact absurd (hz.mpr rfl) h
      rw [if_neg hn, if_pos this, h3 5 (by omega), o2 5 (by omega), mc_qT hf]
  have j75 : ∀ v : Int32, v = (if t = true then bitI f else 0) → Ok (J_X9_rides_75 (nI r) (nI c) (nI f) z (b2i by_) fr (nI (r + 18)) (m2.1 1 (r + 18)) v m2) (fun _ m' => mRide m m' r c f t) := by
    intro v hv
    unfold J_X9_rides_75
    rw [show (7 : Int32) = nI 7 from rfl, ix2]
    simp only [i_c (show f < 2147483648 by omega), i_c (show r + 18 < 2147483648 by omega)]
    refine ok_ck hiC (ok_lm (fun m3 e3 => ok_ck hf7 ?_))
    have x1 : ∀ k, k ≠ 1 → m3.1 k = m2.1 k := fun k hk => by rw [e3, mI_ne k hk]
    have x2 : m3.2 = m2.2 := by rw [e3, mI_2]
    have x3 : ∀ j, j ≠ r + 18 → m3.1 1 j = m2.1 1 j := fun j hj => by rw [e3, mI_j hj]
    have x4 : m3.1 1 (r + 18) = m.1 1 (r + 18) ||| (if t = true then bitI f else 0) := by rw [e3, mI_s, aoth _ (by omega) (by omega), hv]
    have k3 : m3.1 3 f = qK (mC_ m) f := by rw [x1 3 (by omega), o2 3 (by omega), mc_qK hf]
    rw [k3]
    refine ok_if (fun h => ok_if (fun h2 => j107 m3 x1 x2 x3 x4 ?_) (fun h2 => fin m3 _ x1 x2 x3 x4 ?_)) (fun h => j107 m3 x1 x2 x3 x4 (fun q => h q.1))
    · intro q
      rw [(b2i_z _).mp h2] at q
      exact absurd q.2 (by simp)
    · have : by_ = true := by
        cases by_ with
        | true => rfl
        | false => exact absurd rfl h2
      rw [if_pos ⟨h, this⟩]
  refine ok_if (fun h => j75 0 ?_) (fun h => j75 _ ?_)
  · rw [hz.mp h]; simp
  · have : t = true := by
      cases t with
      | true => rfl
      | false => exact absurd (hz.mpr rfl) h
    rw [if_pos this]
    rfl
theorem m_ride1 {m : Mem} {r c f : Nat} {B : Int} (hC : mcOk m) (hP : okP (mC_ m) (mPm m r) B) (hr : r + 19 ≤ 380) (hc : c < cN (mC_ m)) (hf : f < cM (mC_ m)) :
    Ok (f_X9_ridesAsOneDoes (nI r) (nI c) (nI f) m) (fun v m' => v = b2i (a_weeps (mC_ m) (mPm m r) c f) ∧ mRide m m' r c f (a_weeps (mC_ m) (mPm m r) c f)) := by
  unfold f_X9_ridesAsOneDoes
  refine ok_eq (m_lateBy hC hP hr hc hf) (ok_eq (m_weeps hC hf) (ok_bd (m_rides (t := a_weeps (mC_ m) (mPm m r) c f) hC hP hr hc hf (b2i_z _)) (fun _ m1 h1 => ok_ck (b2i_01 _) (ok_ret ⟨rfl, h1⟩))))
theorem m_soon_l {N : Nat} {m : Mem} {r f : Nat} {B : Int} (hC : mcOk m) (hP : okP (mC_ m) (mPm m r) B) (hr : r + 19 ≤ 380) (hf : f < cM (mC_ m)) :
    ∀ (k n c b : Nat), 1 ≤ c → c + k = cN (mC_ m) → k < n → b = a_nr (mC_ m) (mPm m r) f (c - 1) →
      l_X9_soonestIn N n (nI r) (nI f) (nI b) (nI c) m = some (nI (a_near (mC_ m) (mPm m r) f), m) := by
  have hn := hC.1.2.1
  intro k
  induction k with
  | zero =>
    intro n c b h1 hk hkn hb
    obtain ⟨n, rfl⟩ : ∃ n', n = n' + 1 := ⟨n - 1, by omega⟩
    refine ok_v ?_
    show Ok (B_X9_soonestIn_5 N (l_X9_soonestIn N n) (nI r) (nI f) (nI b) (nI c) m) _
    unfold B_X9_soonestIn_5
    rw [mc_n hC]
    refine ok_t (nI_le (by omega) (by omega)) (ok_ret ⟨?_, rfl⟩)
    rw [hb]; unfold a_near; rw [show c - 1 = cN (mC_ m) - 1 by omega]
  | succ k ih =>
    intro n c b h1 hk hkn hb
    obtain ⟨n, rfl⟩ : ∃ n', n = n' + 1 := ⟨n - 1, by omega⟩
    have hbl := a_nr_le (mC_ m) (mPm m r) f (c - 1)
    refine ok_v ?_
    show Ok (B_X9_soonestIn_5 N (l_X9_soonestIn N n) (nI r) (nI f) (nI b) (nI c) m) _
    unfold B_X9_soonestIn_5
    rw [mc_n hC, nI_1]
    have hstep : a_nr (mC_ m) (mPm m r) f c = if a_late (mC_ m) (mPm m r) c f < a_late (mC_ m) (mPm m r) (a_nr (mC_ m) (mPm m r) f (c - 1)) f then c else a_nr (mC_ m) (mPm m r) f (c - 1) := by
      obtain ⟨d, rfl⟩ : ∃ d, c = d + 1 := ⟨c - 1, by omega⟩
      rfl
    refine ok_f (nI_ge (by omega) (by omega)) (ok_eq (m_lateBy hC hP hr (by omega) hf) (ok_eq (m_lateBy hC hP hr (by omega) hf) (ok_if (fun h => ok_of (ih n (c + 1) b (by omega) (by omega) (by omega) ?_)) (fun h => ok_of (ih n (c + 1) c (by omega) (by omega) (by omega) ?_)))))
    · show b = a_nr _ _ _ c
      rw [hstep, if_neg, hb]
      rw [← hb, i_lt]; rw [i_le] at h; omega
    · show c = a_nr _ _ _ c
      rw [hstep, if_pos]
      rw [← hb, i_lt]; rw [i_le] at h; omega
theorem m_soonest {N : Nat} {m : Mem} {r f : Nat} {B : Int} (hN : 4 ≤ N) (hC : mcOk m) (hP : okP (mC_ m) (mPm m r) B) (hr : r + 19 ≤ 380) (hf : f < cM (mC_ m)) :
    f_X9_soonestIn N (nI r) (nI f) m = some (nI (a_near (mC_ m) (mPm m r) f), m) := by
  have hn := hC.1.2.1
  exact m_soon_l hC hP hr hf (cN (mC_ m) - 1) N 1 0 (by omega) (by omega) (by omega) rfl
