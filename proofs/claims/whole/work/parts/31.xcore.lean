/-! ===== the class: rides ===== -/
def xC (m : Mem) : Cf := (m.1 4 1, (m.1 4 2).toNatClampNeg, (m.1 4 3).toNatClampNeg, rs (m.1 4 2).toNatClampNeg (m.1 5), rs (m.1 4 3).toNatClampNeg (m.1 8), rs (m.1 4 3).toNatClampNeg (m.1 9), rs (m.1 4 3).toNatClampNeg (m.1 10), rs (m.1 4 3).toNatClampNeg (m.1 11), rs (m.1 4 3).toNatClampNeg (m.1 12))
def xP (n : Nat) (m : Mem) (S : Nat) : Ps := (m.1 S 0, rs n (m.1 (S + 1)), rs n (m.1 (S + 2)), rs n (m.1 (S + 3)))
/-- the raw stand is in bounds, cabs that aren't in this city included -/
def xB (m : Mem) (S : Nat) (B : Int) : Prop := (0 ≤ (m.1 S 0).toInt ∧ (m.1 S 0).toInt ≤ B) ∧ ∀ c, c < 3 → pl (m.1 (S + 1) c) ∧ (0 ≤ (m.1 (S + 2) c).toInt ∧ (m.1 (S + 2) c).toInt ≤ B) ∧ nowh (m.1 (S + 3) c)
/-- the raw city is one -/
def xcOk (m : Mem) : Prop := okC (xC m) ∧ 0 ≤ (m.1 4 2).toInt ∧ 0 ≤ (m.1 4 3).toInt ∧ ∀ c, c < 3 → pl (m.1 6 c) ∧ nowh (m.1 7 c)
theorem xC_cong {m m' : Mem} (h : ∀ k, 4 ≤ k → k ≤ 12 → m'.1 k = m.1 k) : xC m' = xC m := by
  unfold xC
  rw [h 4 (by omega) (by omega), h 5 (by omega) (by omega), h 8 (by omega) (by omega), h 9 (by omega) (by omega), h 10 (by omega) (by omega), h 11 (by omega) (by omega), h 12 (by omega) (by omega)]
theorem xcOk_cong {m m' : Mem} (h : ∀ k, 4 ≤ k → k ≤ 12 → m'.1 k = m.1 k) (hc : xcOk m) : xcOk m' := by
  unfold xcOk
  rw [xC_cong h, h 4 (by omega) (by omega), h 6 (by omega) (by omega), h 7 (by omega) (by omega)]
  exact hc
theorem xP_cong {n : Nat} {m m' : Mem} {S : Nat} (h : ∀ k, S ≤ k → k < S + 4 → m'.1 k = m.1 k) : xP n m' S = xP n m S := by
  unfold xP
  rw [h S (by omega) (by omega), h (S + 1) (by omega) (by omega), h (S + 2) (by omega) (by omega), h (S + 3) (by omega) (by omega)]
theorem xB_cong {m m' : Mem} {S : Nat} {B : Int} (h : ∀ k, S ≤ k → k < S + 4 → m'.1 k = m.1 k) (hb : xB m S B) : xB m' S B := by
  unfold xB
  rw [h S (by omega) (by omega), h (S + 1) (by omega) (by omega), h (S + 2) (by omega) (by omega), h (S + 3) (by omega) (by omega)]
  exact hb
theorem xB.okP {m : Mem} {S : Nat} {B : Int} (h : xB m S B) (hc : xcOk m) : okP (xC m) (xP (cN (xC m)) m S) B := by
  refine ⟨h.1, fun c hcc => ?_⟩
  have h3 := hc.1.2.1.2
  obtain ⟨a, b, d⟩ := h.2 c (by omega)
  show pl (rs _ _ c) ∧ (0 ≤ (rs _ _ c).toInt ∧ (rs _ _ c).toInt ≤ B) ∧ nowh (rs _ _ c)
  rw [rs_lt hcc, rs_lt hcc, rs_lt hcc]
  exact ⟨a, b, d⟩
theorem xB.wk {m : Mem} {S : Nat} {B B' : Int} (h : xB m S B) (hB : B ≤ B') : xB m S B' := by
  refine ⟨⟨h.1.1, by have := h.1.2; omega⟩, fun c hc => ?_⟩
  obtain ⟨p1, p2, p3⟩ := h.2 c hc
  exact ⟨p1, by omega, p3⟩
def trp (k : Nat) : Prop := k = 13
theorem x_steps {m : Mem} {a b : Int32} (hw : wdt (m.1 4 1)) : f_X0_steps 4 a b m = some (dist (m.1 4 1) a b, m) := by
  have e : fl_max (1 : Int32) (m.1 4 1) = m.1 4 1 := by
    rw [i_eq, i_max]
    have := hw.1
    have h1 : (1 : Int32).toInt = 1 := rfl
    omega
  have h0 : ¬ m.1 4 1 = 0 := by
    intro q
    have := hw.1
    rw [q] at this
    exact absurd this (by decide)
  unfold f_X0_steps
  rw [e]
  simp only [fl_li]
  rw [fl_ck_t h0, fl_ck_t h0, fl_ck_t h0, fl_ck_t h0]
  rfl
theorem ok_some {α : Type} {Q : α → Mem → Prop} {o : Option (α × Mem)} {r : α} {m : Mem} (e : o = some (r, m)) (h : Q r m) : Ok o Q := ⟨r, m, e, h⟩
/-- the last stretch of a ride -/
theorem x_reckon136 {m : Mem} {S c f : Nat} {z6 z7 : Int32} (hS : 39 ≤ S) (hw : wdt (m.1 4 1)) (hc : c < 3) (hf : f < 7) :
    Ok (J_X0_reckonAs_136 4 S (nI c) (nI f) z6 z7 m) (fun _ m' => eqOff m m' trp ∧ m'.1 13 3 = m.1 13 3 ∧ m'.1 13 0 = z6 + dist (m.1 4 1) (m.1 (S + 1) c) (m.1 9 f) + z7 ∧ m'.1 13 1 = (z6 + dist (m.1 4 1) (m.1 (S + 1) c) (m.1 9 f) + z7) - m.1 11 f ∧ m'.1 13 2 = b2i (g_weeps (m.1 8 f) ((z6 + dist (m.1 4 1) (m.1 (S + 1) c) (m.1 9 f) + z7) - m.1 11 f) (m.1 12 f))) := by
  have hc3 := i_ck hc (by omega)
  have hf7 := i_ck hf (by omega)
  unfold J_X0_reckonAs_136
  simp only [Nat.reduceAdd, i_c (show c < 2147483648 by omega), i_c (show f < 2147483648 by omega)]
  refine ok_ck hc3 (ok_ck hf7 (ok_eq (x_steps hw) ?_))
  refine ok_lm (fun m1 e1 => ok_ck hf7 (ok_lm (fun m2 e2 => ok_ck hf7 ?_)))
  generalize hz : z6 + dist (m.1 4 1) (m.1 (S + 1) c) (m.1 9 f) + z7 = z at *
  have a0 : m2.1 13 0 = z := by rw [e2, mI_j (by omega), e1, mI_s]
  have a1 : m2.1 13 1 = z - m.1 11 f := by rw [e2, mI_s, e1, mI_s, mI_ne 11 (by omega)]
  have a3 : m2.1 13 3 = m.1 13 3 := by rw [e2, mI_j (by omega), e1, mI_j (by omega)]
  have ao : ∀ k, k ≠ 13 → m2.1 k = m.1 k := fun k hk => by rw [e2, mI_ne k hk, e1, mI_ne k hk]
  have ao2 : m2.2 = m.2 := by rw [e2, mI_2, e1, mI_2]
  have fin : ∀ v : Int32, v = b2i (g_weeps (m.1 8 f) (z - m.1 11 f) (m.1 12 f)) → Ok (fl_lm (mI m2 13 2 v) (fun q => some ((0 : Int32), q))) (fun _ m' => eqOff m m' trp ∧ m'.1 13 3 = m.1 13 3 ∧ m'.1 13 0 = z ∧ m'.1 13 1 = z - m.1 11 f ∧ m'.1 13 2 = b2i (g_weeps (m.1 8 f) (z - m.1 11 f) (m.1 12 f))) := by
    intro v hv
    refine ok_lm (fun q eq => ok_ret ⟨⟨by rw [eq, mI_2, ao2], fun k hk => by rw [eq, mI_ne k hk, ao k hk]⟩, ?_, ?_, ?_, ?_⟩)
    · rw [eq, mI_j (by omega), a3]
    · rw [eq, mI_j (by omega), a0]
    · rw [eq, mI_j (by omega), a1]
    · rw [eq, mI_s, hv]
  rw [ao 8 (by omega), ao 12 (by omega), a1]
  refine ok_if (fun h => fin 1 ?_) (fun h => ok_ck hf7 (ok_if (fun h2 => ok_ck hf7 (ok_if (fun h3 => fin 0 ?_) (fun h3 => fin 1 ?_))) (fun h2 => fin 0 ?_)))
  · simp [g_weeps, h, b2i]
  · have h4 : ¬ m.1 12 f < z - m.1 11 f := by rw [i_lt]; rw [i_le] at h3; omega
    simp [g_weeps, h, h2, h4, b2i]
  · have h4 : m.1 12 f < z - m.1 11 f := by rw [i_lt]; rw [i_le] at h3; omega
    simp [g_weeps, h, h2, h4, b2i]
  · simp [g_weeps, h, h2, b2i]
theorem x_reckonAs {m : Mem} {S c f : Nat} {kind wept : Int32} (hS : 39 ≤ S) (hw : wdt (m.1 4 1)) (hc : c < 3) (hf : f < 7) (hp1 : pl (m.1 9 f)) (hx : nowh wept) :
    Ok (f_X0_reckonAs 4 S (nI c) (nI f) kind wept m) (fun _ m' => eqOff m m' trp ∧ m'.1 13 3 = b2i (g_by (m.1 4 1) kind wept (m.1 9 f)) ∧ m'.1 13 0 = g_free (m.1 4 1) (m.1 S 0) (m.1 (S + 2) c) (m.1 11 f) (m.1 (S + 1) c) (m.1 9 f) (m.1 10 f) kind wept ∧ m'.1 13 1 = g_free (m.1 4 1) (m.1 S 0) (m.1 (S + 2) c) (m.1 11 f) (m.1 (S + 1) c) (m.1 9 f) (m.1 10 f) kind wept - m.1 11 f ∧ m'.1 13 2 = b2i (g_weeps (m.1 8 f) (g_free (m.1 4 1) (m.1 S 0) (m.1 (S + 2) c) (m.1 11 f) (m.1 (S + 1) c) (m.1 9 f) (m.1 10 f) kind wept - m.1 11 f) (m.1 12 f))) := by
  have hc3 := i_ck hc (by omega)
  have hf7 := i_ck hf (by omega)
  -- what comes behind the question whether it goes by
  have go : ∀ (b : Bool), b = g_by (m.1 4 1) kind wept (m.1 9 f) → ∀ z3 : Int32, z3 = fl_max (fl_max (m.1 S 0) (m.1 (S + 2) c)) (m.1 11 f) →
      Ok (J_X0_reckonAs_62 4 S (nI c) (nI f) kind wept z3 (b2i b) m) (fun _ m' => eqOff m m' trp ∧ m'.1 13 3 = b2i (g_by (m.1 4 1) kind wept (m.1 9 f)) ∧ m'.1 13 0 = g_free (m.1 4 1) (m.1 S 0) (m.1 (S + 2) c) (m.1 11 f) (m.1 (S + 1) c) (m.1 9 f) (m.1 10 f) kind wept ∧ m'.1 13 1 = g_free (m.1 4 1) (m.1 S 0) (m.1 (S + 2) c) (m.1 11 f) (m.1 (S + 1) c) (m.1 9 f) (m.1 10 f) kind wept - m.1 11 f ∧ m'.1 13 2 = b2i (g_weeps (m.1 8 f) (g_free (m.1 4 1) (m.1 S 0) (m.1 (S + 2) c) (m.1 11 f) (m.1 (S + 1) c) (m.1 9 f) (m.1 10 f) kind wept - m.1 11 f) (m.1 12 f))) := by
    intro b hb z3 hz3
    unfold J_X0_reckonAs_62
    simp only [Nat.reduceAdd, i_c (show c < 2147483648 by omega), i_c (show f < 2147483648 by omega)]
    refine ok_ck (b2i_01 b) (ok_lm (fun m1 e1 => ok_ck hf7 (ok_ck hf7 ?_)))
    have ao : ∀ k, k ≠ 13 → m1.1 k = m.1 k := fun k hk => by rw [e1, mI_ne k hk]
    have hw1 : wdt (m1.1 4 1) := by rw [ao 4 (by omega)]; exact hw
    have e3 : m1.1 13 3 = b2i b := by rw [e1, mI_s]
    refine ok_eq (x_steps hw1) ?_
    have last : ∀ z7 : Int32, z7 = g_way (m.1 4 1) kind wept (m.1 9 f) (m.1 10 f) → Ok (J_X0_reckonAs_136 4 S (nI c) (nI f) z3 z7 m1) (fun _ m' => eqOff m m' trp ∧ m'.1 13 3 = b2i (g_by (m.1 4 1) kind wept (m.1 9 f)) ∧ m'.1 13 0 = g_free (m.1 4 1) (m.1 S 0) (m.1 (S + 2) c) (m.1 11 f) (m.1 (S + 1) c) (m.1 9 f) (m.1 10 f) kind wept ∧ m'.1 13 1 = g_free (m.1 4 1) (m.1 S 0) (m.1 (S + 2) c) (m.1 11 f) (m.1 (S + 1) c) (m.1 9 f) (m.1 10 f) kind wept - m.1 11 f ∧ m'.1 13 2 = b2i (g_weeps (m.1 8 f) (g_free (m.1 4 1) (m.1 S 0) (m.1 (S + 2) c) (m.1 11 f) (m.1 (S + 1) c) (m.1 9 f) (m.1 10 f) kind wept - m.1 11 f) (m.1 12 f))) := by
      intro z7 hz7
      refine ok_mono (x_reckon136 (z6 := z3) (z7 := z7) hS hw1 hc hf) (fun _ m' h => ?_)
      rw [ao 4 (by omega), ao (S + 1) (by omega), ao 9 (by omega), ao 11 (by omega), ao 8 (by omega), ao 12 (by omega), e3] at h
      obtain ⟨h1, h2, h3, h4, h5⟩ := h
      rw [hz3, hz7] at h3 h4 h5
      exact ⟨eqOff.tr ⟨by rw [e1, mI_2], fun k hk => ao k hk⟩ h1, by rw [h2, hb], h3, h4, h5⟩
    have by_ : Ok (J_X0_reckonAs_104 4 S (nI c) (nI f) wept z3 (if kind = 1 then 3 else 1) m1) (fun _ m' => eqOff m m' trp ∧ m'.1 13 3 = b2i (g_by (m.1 4 1) kind wept (m.1 9 f)) ∧ m'.1 13 0 = g_free (m.1 4 1) (m.1 S 0) (m.1 (S + 2) c) (m.1 11 f) (m.1 (S + 1) c) (m.1 9 f) (m.1 10 f) kind wept ∧ m'.1 13 1 = g_free (m.1 4 1) (m.1 S 0) (m.1 (S + 2) c) (m.1 11 f) (m.1 (S + 1) c) (m.1 9 f) (m.1 10 f) kind wept - m.1 11 f ∧ m'.1 13 2 = b2i (g_weeps (m.1 8 f) (g_free (m.1 4 1) (m.1 S 0) (m.1 (S + 2) c) (m.1 11 f) (m.1 (S + 1) c) (m.1 9 f) (m.1 10 f) kind wept - m.1 11 f) (m.1 12 f))) ∨ b = false := by
      cases hbb : b with
      | false => exact Or.inr rfl
      | true =>
        left
        unfold J_X0_reckonAs_104
        simp only [Nat.reduceAdd, i_c (show c < 2147483648 by omega), i_c (show f < 2147483648 by omega)]
        refine ok_ck hf7 (ok_eq (x_steps hw1) (ok_ck hf7 (ok_eq (x_steps hw1) (ok_li (fun z ez => last z ?_)))))
        rw [ez, ao 4 (by omega), ao 9 (by omega), ao 10 (by omega)]
        unfold g_way
        rw [if_pos (show g_by (m.1 4 1) kind wept (m.1 9 f) = true by rw [← hb, hbb])]
    rw [e3]
    refine ok_if (fun h => last _ ?_) (fun h => ?_)
    · have hb0 : b = false := (b2i_z b).mp h
      unfold g_way
      rw [if_neg (by rw [← hb, hb0]; simp), ao 4 (by omega), ao 9 (by omega), ao 10 (by omega)]
    · rcases by_ with h1 | h1
      · refine ok_if (fun hk => ?_) (fun hk => ?_)
        · rw [if_pos hk] at h1; exact h1
        · rw [if_neg hk] at h1; exact h1
      · exact absurd ((b2i_z b).mpr h1) h
  unfold f_X0_reckonAs
  simp only [Nat.reduceAdd, i_c (show c < 2147483648 by omega), i_c (show f < 2147483648 by omega)]
  refine ok_ck hc3 (ok_ck hf7 (ok_li (fun z3 hz3 => ?_)))
  refine ok_if (fun h => ?_) (fun h => ok_if (fun h2 => ok_ck hf7 (ok_eq (x_steps hw) (ok_if (fun h3 => ?_) (fun h3 => ?_)))) (fun h2 => ?_))
  · exact go false (by simp [g_by, h]) z3 hz3
  · exact go false (by simp [g_by, h, h2, h3]) z3 hz3
  · exact go true (by simp [g_by, h, h2, h3]) z3 hz3
  · exact go true (by simp [g_by, h, h2]) z3 hz3
/-! in the city's own words -/
theorem xc_n {m : Mem} (h : xcOk m) : m.1 4 2 = nI (cN (xC m)) := i_nat h.2.1
theorem xc_m {m : Mem} (h : xcOk m) : m.1 4 3 = nI (cM (xC m)) := i_nat h.2.2.1
theorem xc_K {m : Mem} {c : Nat} (h : c < cN (xC m)) : cK (xC m) c = m.1 5 c := rs_lt h
theorem xc_qK {m : Mem} {f : Nat} (h : f < cM (xC m)) : qK (xC m) f = m.1 8 f := rs_lt h
theorem xc_qF {m : Mem} {f : Nat} (h : f < cM (xC m)) : qF (xC m) f = m.1 9 f := rs_lt h
theorem xc_qT {m : Mem} {f : Nat} (h : f < cM (xC m)) : qT (xC m) f = m.1 10 f := rs_lt h
theorem xc_qS {m : Mem} {f : Nat} (h : f < cM (xC m)) : qS (xC m) f = m.1 11 f := rs_lt h
theorem xc_qB {m : Mem} {f : Nat} (h : f < cM (xC m)) : qB (xC m) f = m.1 12 f := rs_lt h
def xPm (m : Mem) (S : Nat) : Ps := xP (cN (xC m)) m S
theorem xp_1 {m : Mem} {S c : Nat} (h : c < cN (xC m)) : (xPm m S).2.1 c = m.1 (S + 1) c := rs_lt h
theorem xp_2 {m : Mem} {S c : Nat} (h : c < cN (xC m)) : (xPm m S).2.2.1 c = m.1 (S + 2) c := rs_lt h
theorem xp_3 {m : Mem} {S c : Nat} (h : c < cN (xC m)) : (xPm m S).2.2.2 c = m.1 (S + 3) c := rs_lt h
def xTrip (C : Cf) (P : Ps) (c f : Nat) (m' : Mem) : Prop := m'.1 13 3 = b2i (a_by C P c f) ∧ m'.1 13 0 = a_free C P c f ∧ m'.1 13 1 = a_late C P c f ∧ m'.1 13 2 = b2i (a_weeps C P c f)
theorem x_reckonK {m : Mem} {S c f : Nat} (hC : xcOk m) (hS : 39 ≤ S) (hx : nowh (m.1 (S + 3) c)) (hc : c < cN (xC m)) (hf : f < cM (xC m)) :
    Ok (f_X0_reckonAs 4 S (nI c) (nI f) (m.1 5 c) (m.1 (S + 3) c) m) (fun _ m' => eqOff m m' trp ∧ xTrip (xC m) (xPm m S) c f m') := by
  have h3 := hC.1.2.1.2
  have h7 := hC.1.2.2.1.2
  refine ok_mono (x_reckonAs (m := m) (kind := m.1 5 c) (wept := m.1 (S + 3) c) hS hC.1.1 (by omega) (by omega) ?_ hx) (fun _ m' h => ?_)
  · have := (hC.1.2.2.2 f hf).1
    rw [xc_qF hf] at this
    exact this
  · obtain ⟨h1, h2, h3, h4, h5⟩ := h
    unfold xTrip a_weeps a_late a_free a_by
    rw [xc_K hc, xc_qK hf, xc_qF hf, xc_qT hf, xc_qS hf, xc_qB hf, xp_1 hc, xp_2 hc, xp_3 hc]
    exact ⟨h1, h2, h3, h4, h5⟩
theorem x_reckon {m : Mem} {S c f : Nat} (hC : xcOk m) (hS : 39 ≤ S) (hx : nowh (m.1 (S + 3) c)) (hc : c < cN (xC m)) (hf : f < cM (xC m)) :
    Ok (f_X0_reckon 4 S (nI c) (nI f) m) (fun _ m' => eqOff m m' trp ∧ xTrip (xC m) (xPm m S) c f m') := by
  have h3 := hC.1.2.1.2
  have hc3 := i_ck (show c < 3 by omega) (by omega)
  unfold f_X0_reckon
  simp only [Nat.reduceAdd, i_c (show c < 2147483648 by omega)]
  refine ok_ck hc3 (ok_ck hc3 (ok_bd (x_reckonK hC hS hx hc hf) (fun _ m1 h => ok_ret h)))
theorem trp_C {m m' : Mem} (h : eqOff m m' trp) : xC m' = xC m := xC_cong (fun k h1 h2 => h.2 k (by unfold trp; omega))
theorem trp_P {m m' : Mem} {S : Nat} (hS : 39 ≤ S) (h : eqOff m m' trp) : xPm m' S = xPm m S := by
  unfold xPm
  rw [trp_C h]
  exact xP_cong (fun k h1 h2 => h.2 k (by unfold trp; omega))
theorem trp_cOk {m m' : Mem} (h : eqOff m m' trp) (hc : xcOk m) : xcOk m' := xcOk_cong (fun k h1 h2 => h.2 k (by unfold trp; omega)) hc
theorem trp_B {m m' : Mem} {S : Nat} {B : Int} (hS : 39 ≤ S) (h : eqOff m m' trp) (hb : xB m S B) : xB m' S B := xB_cong (fun k h1 h2 => h.2 k (by unfold trp; omega)) hb
theorem x_near_l {N : Nat} {m : Mem} {S f : Nat} {B : Int} (hC : xcOk m) (hS : 39 ≤ S) (hB : xB m S B) (hf : f < cM (xC m)) :
    ∀ (k n c b : Nat) (least : Int32) (m1 : Mem), c + k = cN (xC m) → k < n → eqOff m m1 trp → (c = 0 ∨ (1 ≤ c ∧ b = a_nr (xC m) (xPm m S) f (c - 1) ∧ least = a_late (xC m) (xPm m S) b f)) →
      Ok (l_X0_nearest N 4 S n (nI f) (nI b) least (nI c) m1) (fun r m' => r = nI (a_near (xC m) (xPm m S) f) ∧ eqOff m m' trp) := by
  have hn := hC.1.2.1
  intro k
  induction k with
  | zero =>
    intro n c b least m1 hk hkn he hb
    obtain ⟨n, rfl⟩ : ∃ n', n = n' + 1 := ⟨n - 1, by omega⟩
    show Ok (B_X0_nearest_8 N 4 S (l_X0_nearest N 4 S n) (nI f) (nI b) least (nI c) m1) _
    unfold B_X0_nearest_8
    refine ok_t ?_ (ok_ret ⟨?_, he⟩)
    · rw [he.2 4 (by unfold trp; omega), xc_n hC]
      exact nI_le (by omega) (by omega)
    · rcases hb with h | ⟨h1, h2, -⟩
      · omega
      · rw [h2]; unfold a_near; rw [show c - 1 = cN (xC m) - 1 by omega]
  | succ k ih =>
    intro n c b least m1 hk hkn he hb
    obtain ⟨n, rfl⟩ : ∃ n', n = n' + 1 := ⟨n - 1, by omega⟩
    have hcn : c < cN (xC m) := by omega
    have hc3 := i_ck (show c < 3 by omega) (by omega)
    show Ok (B_X0_nearest_8 N 4 S (l_X0_nearest N 4 S n) (nI f) (nI b) least (nI c) m1) _
    unfold B_X0_nearest_8
    simp only [Nat.reduceAdd, i_c (show c < 2147483648 by omega)]
    refine ok_f ?_ (ok_ck hc3 (ok_ck hc3 ?_))
    · rw [he.2 4 (by unfold trp; omega), xc_n hC]
      exact nI_ge hcn (by omega)
    have hC1 := trp_cOk he hC
    have e1 := trp_C he
    have e2 := trp_P hS he
    have hx : nowh (m1.1 (S + 3) c) := ((trp_B hS he hB).2 c (by omega)).2.2
    refine ok_bd (x_reckonK (f := f) hC1 hS hx (by rw [e1]; exact hcn) (by rw [e1]; exact hf)) (fun _ m5 h5 => ?_)
    obtain ⟨he5, -, -, hl5, -⟩ := h5
    rw [e1, e2] at hl5
    have he' := he.tr he5
    have take : c = a_nr (xC m) (xPm m S) f c → Ok (J_X0_nearest_56 N 4 S (l_X0_nearest N 4 S n) (nI f) (nI c) m5) (fun r m' => r = nI (a_near (xC m) (xPm m S) f) ∧ eqOff m m' trp) := by
      intro hcc
      unfold J_X0_nearest_56
      refine ok_li (fun z hz => ?_)
      rw [nI_1]
      exact ih n (c + 1) c z m5 (by omega) (by omega) he' (Or.inr ⟨by omega, hcc, by rw [hz]; exact hl5⟩)
    have skip : 1 ≤ c → b = a_nr (xC m) (xPm m S) f c → least = a_late (xC m) (xPm m S) b f → Ok (l_X0_nearest N 4 S n (nI f) (nI b) least (nI c + 1) m5) (fun r m' => r = nI (a_near (xC m) (xPm m S) f) ∧ eqOff m m' trp) := by
      intro h1 hbb hll
      rw [nI_1]
      exact ih n (c + 1) b least m5 (by omega) (by omega) he' (Or.inr ⟨by omega, hbb, hll⟩)
    refine ok_if (fun h0 => ?_) (fun h0 => ?_)
    · have : c = 0 := by
        rcases Nat.eq_zero_or_pos c with q | q
        · exact q
        · exact absurd h0 (nI_ne0 q (by omega))
      refine take ?_
      rw [this]
      rfl
    · have hc0 : 1 ≤ c := by
        rcases Nat.eq_zero_or_pos c with q | q
        · exact absurd (by rw [q]; rfl) h0
        · exact q
      rcases hb with h | ⟨h1, h2, h3⟩
      · omega
      have hstep : a_nr (xC m) (xPm m S) f c = if a_late (xC m) (xPm m S) c f < a_late (xC m) (xPm m S) (a_nr (xC m) (xPm m S) f (c - 1)) f then c else a_nr (xC m) (xPm m S) f (c - 1) := by
        obtain ⟨d, rfl⟩ : ∃ d, c = d + 1 := ⟨c - 1, by omega⟩
        rfl
      rw [hl5]
      refine ok_if (fun h4 => skip hc0 ?_ h3) (fun h4 => take ?_)
      · rw [hstep, if_neg, h2]
        rw [← h2, ← h3, i_lt]; rw [i_le] at h4; omega
      · rw [hstep, if_pos]
        rw [← h2, ← h3, i_lt]; rw [i_le] at h4; omega
theorem x_nearest {N : Nat} {m : Mem} {S f : Nat} {B : Int} (hN : 4 ≤ N) (hC : xcOk m) (hS : 39 ≤ S) (hB : xB m S B) (hf : f < cM (xC m)) :
    Ok (f_X0_nearest N 4 S (nI f) m) (fun r m' => r = nI (a_near (xC m) (xPm m S) f) ∧ eqOff m m' trp) := by
  have hn := hC.1.2.1
  exact x_near_l hC hS hB hf (cN (xC m)) N 0 0 0 m (by omega) (by omega) eqOff.rf (Or.inl rfl)
/-- what a ride leaves: the cells of the stand, and the trip -/
def xRide (m m' : Mem) (S c f : Nat) (t : Bool) : Prop :=
  eqOff m m' (fun k => k = 13 ∨ (S + 1 ≤ k ∧ k ≤ S + 5)) ∧ m'.1 (S + 1) = upd (m.1 (S + 1)) c (qT (xC m) f) ∧ m'.1 (S + 2) = upd (m.1 (S + 2)) c (a_free (xC m) (xPm m S) c f) ∧
  m'.1 (S + 3) = upd (m.1 (S + 3)) c (if qK (xC m) f = 3 ∧ a_by (xC m) (xPm m S) c f = true then -4 else if t = true then qT (xC m) f else m.1 (S + 3) c) ∧
  m'.1 (S + 4) = upd (m.1 (S + 4)) f (a_late (xC m) (xPm m S) c f) ∧ m'.1 (S + 5) = upd (m.1 (S + 5)) f (b2i t)
theorem xRide.C {m m' : Mem} {S c f : Nat} {t : Bool} (hS : 39 ≤ S) (h : xRide m m' S c f t) : xC m' = xC m := xC_cong (fun k h1 h2 => h.1.2 k (by omega))
theorem xRide.cOk {m m' : Mem} {S c f : Nat} {t : Bool} (hS : 39 ≤ S) (h : xRide m m' S c f t) (hc : xcOk m) : xcOk m' := xcOk_cong (fun k h1 h2 => h.1.2 k (by omega)) hc
theorem xRide.P {m m' : Mem} {S c f : Nat} {t : Bool} (hS : 39 ≤ S) (hc : c < cN (xC m)) (h : xRide m m' S c f t) : xPm m' S = a_ride (xC m) (xPm m S) c f t := by
  obtain ⟨h0, h1, h2, h3, -⟩ := id h
  unfold xPm xP a_ride
  rw [h.C hS, h1, h2, h3, h0.2 S (by omega), rs_upd hc, rs_upd hc, rs_upd hc]
  show _ = (m.1 S 0, upd (rs _ _) c _, upd (rs _ _) c _, upd (rs _ _) c (if _ then _ else if _ then _ else rs _ _ c))
  rw [rs_lt hc]
  rfl
theorem xRide.B {m m' : Mem} {S c f : Nat} {t : Bool} {B : Int} (hC : xcOk m) (hS : 39 ≤ S) (hB : xB m S B) (hBb : 99 ≤ B ∧ B ≤ 1000000) (hc : c < cN (xC m)) (hf : f < cM (xC m)) (h : xRide m m' S c f t) : xB m' S (B + 123) := by
  obtain ⟨h0, h1, h2, h3, -⟩ := id h
  have h4 := a_free_b hC.1 (hB.okP hC) hBb hc hf
  obtain ⟨g1, g2, g3, -⟩ := hC.1.2.2.2 f hf
  refine ⟨?_, fun d hd => ?_⟩
  · rw [h0.2 S (by omega)]
    exact ⟨hB.1.1, by have := hB.1.2; omega⟩
  · rw [h1, h2, h3]
    obtain ⟨p1, p2, p3⟩ := hB.2 d hd
    by_cases e : d = c
    · subst e
      rw [upd_s, upd_s, upd_s]
      refine ⟨g2, ⟨by have := h4.1.1; show 0 ≤ (a_free (xC m) (xPm m S) d f).toInt; unfold xPm; omega, by have := h4.1.2; show (a_free (xC m) (xPm m S) d f).toInt ≤ _; unfold xPm; omega⟩, ?_⟩
      split
      · exact Or.inl rfl
      · split
        · exact Or.inr g2
        · exact p3
    · rw [upd_n e, upd_n e, upd_n e]
      exact ⟨p1, by omega, p3⟩
theorem x_settle {m0 m : Mem} {S c f : Nat} {z : Int32} {t : Bool} (hC : xcOk m0) (hS : 39 ≤ S) (hc : c < cN (xC m0)) (hf : f < cM (xC m0)) (he : eqOff m0 m trp) (ht : xTrip (xC m0) (xPm m0 S) c f m) (hz : (z = 0 ↔ t = false)) :
    Ok (f_X0_settle 4 S (nI c) (nI f) z m) (fun _ m' => xRide m0 m' S c f t) := by
  have h3 := hC.1.2.1.2
  have h7 := hC.1.2.2.1.2
  have hc3 := i_ck (show c < 3 by omega) (by omega)
  have hf7 := i_ck (show f < 7 by omega) (by omega)
  obtain ⟨t3, t0, t1, -⟩ := ht
  unfold f_X0_settle
  simp only [Nat.reduceAdd, i_c (show c < 2147483648 by omega), i_c (show f < 2147483648 by omega)]
  refine ok_ck hf7 (ok_ck hc3 (ok_lm (fun m1 e1 => ok_ck hc3 (ok_lm (fun m2 e2 => ok_ck hf7 (ok_lm (fun m3 e3 => ?_)))))))
  have o1 : ∀ k, k ≠ S + 1 → m1.1 k = m.1 k := fun k hk => by rw [e1, mI_ne k hk]
  have o2 : ∀ k, k ≠ S + 2 → m2.1 k = m1.1 k := fun k hk => by rw [e2, mI_ne k hk]
  have o3 : ∀ k, k ≠ S + 4 → m3.1 k = m2.1 k := fun k hk => by rw [e3, mI_ne k hk]
  have om : ∀ k, ¬ trp k → m.1 k = m0.1 k := he.2
  have s1 : m3.1 (S + 1) = upd (m0.1 (S + 1)) c (qT (xC m0) f) := by rw [o3 _ (by omega), o2 _ (by omega), e1, mI_eq, om (S + 1) (by unfold trp; omega), om 10 (by unfold trp; omega), xc_qT hf]
  have s2 : m3.1 (S + 2) = upd (m0.1 (S + 2)) c (a_free (xC m0) (xPm m0 S) c f) := by rw [o3 _ (by omega), e2, mI_eq, o1 _ (by omega), o1 _ (by omega), om (S + 2) (by unfold trp; omega), t0]
  have s4 : m3.1 (S + 4) = upd (m0.1 (S + 4)) f (a_late (xC m0) (xPm m0 S) c f) := by rw [e3, mI_eq, o2 _ (by omega), o2 _ (by omega), o1 _ (by omega), o1 _ (by omega), om (S + 4) (by unfold trp; omega), t1]
  have so : ∀ k, k ≠ S + 1 → k ≠ S + 2 → k ≠ S + 4 → m3.1 k = m.1 k := fun k a b c => by rw [o3 k c, o2 k b, o1 k a]
  have s22 : m3.2 = m0.2 := by rw [e3, mI_2, e2, mI_2, e1, mI_2, he.1]
  have last : ∀ v : Int32, v = b2i t → Ok (J_X0_settle_53 4 S (nI c) (nI f) z (nI f) v m3) (fun _ m' => xRide m0 m' S c f t) := by
    intro v hv
    unfold J_X0_settle_53
    simp only [Nat.reduceAdd, i_c (show c < 2147483648 by omega), i_c (show f < 2147483648 by omega)]
    refine ok_ck hf7 (ok_lm (fun m4 e4 => ok_ck hf7 ?_))
    have o4 : ∀ k, k ≠ S + 5 → m4.1 k = m3.1 k := fun k hk => by rw [e4, mI_ne k hk]
    have s5 : m4.1 (S + 5) = upd (m0.1 (S + 5)) f (b2i t) := by rw [e4, mI_eq, so (S + 5) (by omega) (by omega) (by omega), om (S + 5) (by unfold trp; omega), hv]
    have s3 : m4.1 (S + 3) = m0.1 (S + 3) := by rw [o4 _ (by omega), so (S + 3) (by omega) (by omega) (by omega), om (S + 3) (by unfold trp; omega)]
    have k8 : m4.1 8 f = qK (xC m0) f := by rw [o4 _ (by omega), so 8 (by omega) (by omega) (by omega), om 8 (by unfold trp; omega), xc_qK hf]
    have k10 : m4.1 10 f = qT (xC m0) f := by rw [o4 _ (by omega), so 10 (by omega) (by omega) (by omega), om 10 (by unfold trp; omega), xc_qT hf]
    have k13 : m4.1 13 3 = b2i (a_by (xC m0) (xPm m0 S) c f) := by rw [o4 _ (by omega), so 13 (by omega) (by omega) (by omega), t3]
    have fin : ∀ m5 : Mem, (∀ k, k ≠ S + 3 → m5.1 k = m4.1 k) → m5.2 = m4.2 → m5.1 (S + 3) = upd (m0.1 (S + 3)) c (if qK (xC m0) f = 3 ∧ a_by (xC m0) (xPm m0 S) c f = true then -4 else if t = true then qT (xC m0) f else m0.1 (S + 3) c) → xRide m0 m5 S c f t := by
      intro m5 h5 h52 h53
      refine ⟨⟨by rw [h52, e4, mI_2, s22], fun k hk => ?_⟩, ?_, ?_, h53, ?_, ?_⟩
      · rw [h5 k (by omega), o4 k (by omega), so k (by omega) (by omega) (by omega), om k (by unfold trp; omega)]
      · rw [h5 _ (by omega), o4 _ (by omega), s1]
      · rw [h5 _ (by omega), o4 _ (by omega), s2]
      · rw [h5 _ (by omega), o4 _ (by omega), s4]
      · rw [h5 _ (by omega), s5]
    have j85 : (¬ (qK (xC m0) f = 3 ∧ a_by (xC m0) (xPm m0 S) c f = true)) → Ok (J_X0_settle_85 4 S (nI c) (nI f) z m4) (fun _ m' => xRide m0 m' S c f t) := by
      intro hn
      unfold J_X0_settle_85
      simp only [Nat.reduceAdd, i_c (show c < 2147483648 by omega), i_c (show f < 2147483648 by omega)]
      refine ok_if (fun h => ok_ret (fin m4 (fun _ _ => rfl) rfl ?_)) (fun h => ok_ck hf7 (ok_ck hc3 (ok_lm (fun m5 e5 => ok_ret (fin m5 (fun k hk => by rw [e5, mI_ne k hk]) (by rw [e5, mI_2]) ?_)))))
      · have : ¬ t = true := by rw [hz.mp h]; simp
        rw [if_neg hn, if_neg this, s3]
        funext d
        unfold upd
        split
        · rename_i e; rw [e]
        · rfl
      · have : t = true := by
          cases t with
          | true => rfl
          | false => exact absurd (hz.mpr rfl) h
        rw [e5, mI_eq, s3, k10, if_neg hn, if_pos this]
    rw [k8, k13]
    refine ok_if (fun h => ok_if (fun h2 => j85 ?_) (fun h2 => ok_ck hc3 (ok_lm (fun m5 e5 => ok_ret (fin m5 (fun k hk => by rw [e5, mI_ne k hk]) (by rw [e5, mI_2]) ?_))))) (fun h => j85 (fun q => h q.1))
    · intro q
      rw [(b2i_z _).mp h2] at q
      exact absurd q.2 (by simp)
    · have : a_by (xC m0) (xPm m0 S) c f = true := by
        cases hb : a_by (xC m0) (xPm m0 S) c f with
        | true => rfl
        | false => rw [hb] at h2; exact absurd rfl h2
      rw [e5, mI_eq, s3, if_pos ⟨h, this⟩]
  refine ok_if (fun h => last 0 ?_) (fun h => last 1 ?_)
  · rw [hz.mp h]; rfl
  · have : t = true := by
      cases t with
      | true => rfl
      | false => exact absurd (hz.mpr rfl) h
    rw [this]; rfl
theorem x_drive {m : Mem} {S c f : Nat} {B : Int} (hC : xcOk m) (hS : 39 ≤ S) (hB : xB m S B) (hc : c < cN (xC m)) (hf : f < cM (xC m)) :
    Ok (f_X0_drive 4 S (nI c) (nI f) m) (fun r m' => r = b2i (a_weeps (xC m) (xPm m S) c f) ∧ xRide m m' S c f (a_weeps (xC m) (xPm m S) c f)) := by
  have h3 := hC.1.2.1.2
  unfold f_X0_drive
  simp only [Nat.reduceAdd]
  refine ok_bd (x_reckon hC hS ((hB.2 c (by omega)).2.2) hc hf) (fun _ m1 h1 => ok_li (fun z hz => ?_))
  obtain ⟨he, ht⟩ := h1
  have hz' : z = b2i (a_weeps (xC m) (xPm m S) c f) := hz.trans ht.2.2.2
  refine ok_bd (x_settle (t := a_weeps (xC m) (xPm m S) c f) hC hS hc hf he ht (by rw [hz']; exact b2i_z _)) (fun _ m2 h2 => ok_ck (by rw [hz']; exact b2i_01 _) (ok_ret ⟨hz', h2⟩))
theorem x_driveSoonest {N : Nat} {m : Mem} {S f : Nat} {B : Int} (hN : 4 ≤ N) (hC : xcOk m) (hS : 39 ≤ S) (hB : xB m S B) (hf : f < cM (xC m)) :
    Ok (f_X0_driveSoonest N 4 S (nI f) m) (fun r m' => r = b2i (a_weeps (xC m) (xPm m S) (a_near (xC m) (xPm m S) f) f) ∧ xRide m m' S (a_near (xC m) (xPm m S) f) f (a_weeps (xC m) (xPm m S) (a_near (xC m) (xPm m S) f) f)) := by
  unfold f_X0_driveSoonest
  refine ok_bd (x_nearest hN hC hS hB hf) (fun r m1 h1 => ?_)
  obtain ⟨rfl, he⟩ := h1
  have e1 := trp_C he
  have e2 := trp_P hS he
  refine ok_bd (x_drive (trp_cOk he hC) hS (trp_B hS he hB) (by rw [e1]; exact a_near_lt hC.1 _ _) (by rw [e1]; exact hf)) (fun r m2 h2 => ?_)
  rw [e1, e2] at h2
  obtain ⟨hr, g0, g1, g2, g3, g4, g5⟩ := h2
  refine ok_ck (by rw [hr]; exact b2i_01 _) (ok_ret ⟨hr, ⟨g0.1.trans he.1, fun k hk => (g0.2 k hk).trans (he.2 k (fun q => hk (Or.inl q)))⟩, ?_, ?_, ?_, ?_, ?_⟩)
  · rw [g1, e1, he.2 _ (by unfold trp; omega)]
  · rw [g2, e1, e2, he.2 _ (by unfold trp; omega)]
  · rw [g3, e1, e2, he.2 _ (by unfold trp; omega)]
  · rw [g4, e1, e2, he.2 _ (by unfold trp; omega)]
  · rw [g5, he.2 _ (by unfold trp; omega)]
