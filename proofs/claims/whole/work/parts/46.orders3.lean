/-! the reference looks for it -/
theorem fl_lm_def {β : Type} {a : Mem} {f : Mem → Option β} : fl_lm a f = f a := rfl
theorem l_o1 {N n : Nat} {x1 x2 x3 x4 a b c : Int32} {m : Mem} : l_X9_ordersRest N (n + 1) 1 x1 x2 x3 x4 a b c m = B_X9_ordersRest_38 N (l_X9_ordersRest N n) x1 x2 x3 x4 m := rfl
theorem l_o2 {N n : Nat} {x1 x2 x3 x4 a b c : Int32} {m : Mem} : l_X9_ordersRest N (n + 1) 2 x1 x2 x3 x4 a b c m = B_X9_ordersRest_65 N (l_X9_ordersRest N n) x1 x2 x3 x4 a b m := rfl
theorem l_o3 {N n : Nat} {x1 x2 x3 x4 a b c : Int32} {m : Mem} : l_X9_ordersRest N (n + 1) 3 x1 x2 x3 x4 a b c m = B_X9_ordersRest_161 N (l_X9_ordersRest N n) x1 x2 x3 x4 c m := rfl
def RN (C : Cf) (B : Int) (P : Ps) (T l w : Nat) (t : Nat → Int32) (m : Mem) : Prop := mC_ m = C ∧ mcOk m ∧ mPm m (228 + 19 * l) = P ∧ okP C P (B + 123 * l) ∧ m.1 1 (228 + 19 * l + 10) = nI T ∧ T < 2 ^ cM C ∧ m.1 15 l = nI w ∧ ∀ i, i < l → m.1 14 i = t i
def roff (l : Nat) (m m' : Mem) : Prop := (∀ k, k ≠ 1 → k ≠ 14 → k ≠ 15 → k ≠ 16 → m'.1 k = m.1 k) ∧ (∀ j, j < 228 + 19 * (l + 1) → m'.1 1 j = m.1 1 j) ∧ (∀ i, i < l → m'.1 14 i = m.1 14 i) ∧ ∀ i, i ≤ l → m'.1 15 i = m.1 15 i
theorem roff.rf {l : Nat} {m : Mem} : roff l m m := ⟨fun _ _ _ _ _ => rfl, fun _ _ => rfl, fun _ _ => rfl, fun _ _ => rfl⟩
theorem roff.tr {l : Nat} {m m1 m2 : Mem} (h : roff l m m1) (h2 : roff l m1 m2) : roff l m m2 := ⟨fun k a b c d => (h2.1 k a b c d).trans (h.1 k a b c d), fun j hj => (h2.2.1 j hj).trans (h.2.1 j hj), fun i hi => (h2.2.2.1 i hi).trans (h.2.2.1 i hi), fun i hi => (h2.2.2.2 i hi).trans (h.2.2.2 i hi)⟩
theorem roff.rn {C : Cf} {B : Int} {P : Ps} {T l w : Nat} {t : Nat → Int32} {m m' : Mem} (hl : l ≤ 7) (h : roff l m m') (hn : RN C B P T l w t m) : RN C B P T l w t m' := by
  obtain ⟨a, b, c, d, e, f, g, i⟩ := hn
  have hc : mC_ m' = mC_ m := mC_cong (fun k x _ => h.1 k x (by omega) (by omega) (by omega))
  refine ⟨hc.trans a, mcOk_cong (fun k x _ => h.1 k x (by omega) (by omega) (by omega)) b, ?_, d, by rw [h.2.1 _ (by omega)]; exact e, f, by rw [h.2.2.2 l (Nat.le_refl _)]; exact g, fun q hq => by rw [h.2.2.1 q hq]; exact i q hq⟩
  unfold mPm at c ⊢
  have n3 := b.1.2.1.2
  rw [hc, mP_cong n3 (fun j _ _ => h.2.1 j (by omega))]
  exact c
def cst : Nat → Nat
  | 0 => 40
  | k + 1 => 8 * cst k + 200
theorem m_cp3 {N r l : Nat} {R x3 : Int32} {n : Nat} (hr : r ≤ 7) : ∀ (q j : Nat) (m1 : Mem), j + q = r → ∃ m', l_X9_ordersRest N (n + (q + 1)) 3 R (nI r) x3 (nI l) 0 0 (nI j) m1 = l_X9_ordersRest N n 1 R (nI r) x3 (nI l + (-1)) 0 0 0 m' ∧ (∀ k, k ≠ 16 → m'.1 k = m1.1 k) ∧ ∀ i, m'.1 16 i = if j ≤ i ∧ i < r then m1.1 14 i else m1.1 16 i := by
  intro q
  induction q with
  | zero =>
    intro j m1 hj
    refine ⟨m1, ?_, fun _ _ => rfl, fun i => by rw [if_neg (by omega)]⟩
    rw [show n + (0 + 1) = n + 1 from rfl, l_o3]
    unfold B_X9_ordersRest_161
    rw [if_pos (nI_le (by omega) (by omega))]
  | succ q ih =>
    intro j m1 hj
    obtain ⟨m', e1, e2, e3⟩ := ih (j + 1) (mI m1 16 j (m1.1 14 j)) (by omega)
    refine ⟨m', ?_, fun k hk => by rw [e2 k hk, mI_ne k hk], fun i => ?_⟩
    · rw [show n + (q + 1 + 1) = (n + (q + 1)) + 1 by omega, l_o3]
      unfold B_X9_ordersRest_161
      rw [if_neg (nI_ge (by omega) (by omega)), fl_ck_t (i_ckz (by omega) (by omega)), fl_ck_t (i_ckz (by omega) (by omega)), i_c (by omega), nI_1 j]
      simp only [fl_lm]
      exact e1
    · rw [e3, mI_ne 14 (by omega)]
      by_cases h : j + 1 ≤ i ∧ i < r
      · rw [if_pos h, if_pos (by omega)]
      · rw [if_neg h, mI_g, if_pos rfl]
        by_cases e : i = j
        · subst e; rw [if_pos rfl, if_pos (by omega)]
        · rw [if_neg e, if_neg (by omega)]
/-- one look at a fare that is taken -/
theorem m_skip {N r l T T0 w j n : Nat} {C : Cf} {B : Int} {P : Ps} {t : Nat → Int32} {x3 : Int32} {m : Mem} (hl : l ≤ 7) (hn : RN C B P T l w t m) (hT0 : T0 < 2 ^ cM C) (hj : j < cM C) (hT : T.testBit j = true) :
    l_X9_ordersRest N (n + 1) 2 (nI (restM (cM C) T0)) (nI r) x3 (nI l) (nI (228 + 19 * l)) (nI j) 0 m = l_X9_ordersRest N n 2 (nI (restM (cM C) T0)) (nI r) x3 (nI l) (nI (228 + 19 * l)) (nI (j + 1)) 0 m := by
  have hC : okC C := by rw [← hn.1]; exact hn.2.1.1
  have n7 := hC.2.2.1
  have h8 := bt_lt (by omega) hT0
  have h8' := bt_lt (by omega) hn.2.2.2.2.2.1
  rw [l_o2]
  unfold B_X9_ordersRest_65
  rw [mc_m hn.2.1, hn.1, if_neg (nI_ge hj (by omega)), m_has (restM_lt _ (by omega) _ h8) (by omega), fl_bd_s, nI_1 j]
  cases (restM (cM C) T0).testBit j with
  | false => rw [if_pos (show b2i false = 0 from rfl)]
  | true =>
    rw [if_neg (show ¬ b2i true = 0 by decide), show nI (228 + 19 * l) + (10 : Int32) = nI (228 + 19 * l + 10) from nI_add _ 10, fl_ck_t (i_ckz (by omega) (by omega)), i_c (by omega), hn.2.2.2.2.1, m_has h8' (by omega), fl_bd_s, hT, if_neg (show ¬ b2i true = 0 by decide)]
theorem m_all {N r l T T0 w n : Nat} {C : Cf} {B : Int} {P : Ps} {t : Nat → Int32} {x3 : Int32} {m : Mem} (hl : l ≤ 7) (hn : RN C B P T l w t m) (hT0 : T0 < 2 ^ cM C) (hT : ∀ f, f < cM C → T.testBit f = true) :
    ∀ (q j : Nat), j + q = cM C → l_X9_ordersRest N (n + q) 2 (nI (restM (cM C) T0)) (nI r) x3 (nI l) (nI (228 + 19 * l)) (nI j) 0 m = l_X9_ordersRest N n 2 (nI (restM (cM C) T0)) (nI r) x3 (nI l) (nI (228 + 19 * l)) (nI (cM C)) 0 m := by
  intro q
  induction q with
  | zero => intro j hj; rw [show j = cM C by omega]; rfl
  | succ q ih =>
    intro j hj
    rw [show n + (q + 1) = (n + q) + 1 by omega, m_skip hl hn hT0 (by omega) (hT j (by omega)), ih (j + 1) (by omega)]
theorem nI_neg1 (l : Nat) : nI (l + 1) + (-1 : Int32) = nI l := by
  rw [show nI (l + 1) + (-1 : Int32) = nI (l + 1) - 1 from (Int32.sub_eq_add_neg _ _).symm, nI_pred]
theorem m_ord {N r T0 : Nat} {C : Cf} {B : Int} (hN : 40 ≤ N) (hB : 99 ≤ B ∧ B ≤ 20000) (hr : r ≤ 7) (hT0 : T0 < 2 ^ cM C) : ∀ (k l T w : Nat) (P : Ps) (t : Nat → Int32) (b : Bs) (m : Mem), l + k = r → unt C T = k → w ≤ l → b.1 < 2147483648 → RN C B P T l w t m → (∀ f, f < cM C → T0.testBit f = true → T.testBit f = true) → (∀ i, i < r → m.1 16 i = b.2 i) → m.1 14 l = -1 →
    ∃ st m', st ≤ cst k ∧ (∀ n, l_X9_ordersRest N (n + st) 1 (nI (restM (cM C) T0)) (nI r) (nI b.1) (nI l) 0 0 0 m = l_X9_ordersRest N n 1 (nI (restM (cM C) T0)) (nI r) (nI (Sx C k P T l w t b).1) (nI l + (-1)) 0 0 0 m') ∧ roff l m m' ∧ ∀ i, i < r → m'.1 16 i = (Sx C k P T l w t b).2 i := by
  have open_ : ∀ (n l w T j : Nat) (P : Ps) (t : Nat → Int32) (x3 z : Int32) (m : Mem), l ≤ 7 → RN C B P T l w t m → m.1 14 l = z → z + 1 = nI j → l_X9_ordersRest N (n + 1) 1 (nI (restM (cM C) T0)) (nI r) x3 (nI l) 0 0 0 m = l_X9_ordersRest N n 2 (nI (restM (cM C) T0)) (nI r) x3 (nI l) (nI (228 + 19 * l)) (nI j) 0 m := by
    intro n l w T j P t x3 z m hl hn hz hzj
    rw [l_o1]
    unfold B_X9_ordersRest_38
    rw [if_neg (show ¬ nI l < (0 : Int32) from nI_nlt (b := 0) (by omega) (by omega)), show (228 : Int32) = nI 228 from rfl, mul19]
    simp only [fl_li]
    rw [fl_ck_t (i_ckz (by omega) (by omega)), i_c (by omega), hz, hzj]
  intro k
  induction k with
  | zero =>
    intro l T w P t b m hl hk hw hb2 hn hTT h16 h14
    have hC : okC C := by rw [← hn.1]; exact hn.2.1.1
    have n7 := hC.2.2.1
    have : l = r := by omega
    subst this
    have hall : ∀ f, f < cM C → T.testBit f = true := fun f hf => by
      have := cnt_zero (p := fun g => !T.testBit g) hk hf
      simpa using this
    have hhead : ∀ n, l_X9_ordersRest N (n + (1 + cM C + 1)) 1 (nI (restM (cM C) T0)) (nI l) (nI b.1) (nI l) 0 0 0 m = J_X9_ordersRest_133 N (l_X9_ordersRest N n) (nI (restM (cM C) T0)) (nI l) (nI b.1) (nI l) m := fun n => by
      rw [show n + (1 + cM C + 1) = (n + 1 + cM C) + 1 by omega, open_ _ l w T 0 P t _ (-1) m hr hn h14 (by decide), m_all hr hn hT0 hall (cM C) 0 (by omega), l_o2]
      unfold B_X9_ordersRest_65 J_X9_ordersRest_107
      rw [mc_m hn.2.1, hn.1, if_pos (Int32.le_refl _), if_pos rfl]
    show ∃ st m', st ≤ cst 0 ∧ (∀ n, _ = l_X9_ordersRest N n 1 _ (nI l) (nI (if w < b.1 then (w, t) else b).1) (nI l + (-1)) 0 0 0 m') ∧ roff l m m' ∧ ∀ i, i < l → m'.1 16 i = (if w < b.1 then (w, t) else b).2 i
    by_cases hlt : w < b.1
    · rw [if_pos hlt]
      obtain ⟨m', e1, e2, e3⟩ := m_cp3 (N := N) (r := l) (l := l) (R := nI (restM (cM C) T0)) (x3 := nI w) (n := 0) hr l 0 m (by omega)
      have e1' : ∀ n, ∃ m'', l_X9_ordersRest N (n + (l + 1)) 3 (nI (restM (cM C) T0)) (nI l) (nI w) (nI l) 0 0 (nI 0) m = l_X9_ordersRest N n 1 (nI (restM (cM C) T0)) (nI l) (nI w) (nI l + (-1)) 0 0 0 m'' ∧ m''.1 = m'.1 ∧ m''.2 = m.2 := by
        intro n
        have hm : ∀ (q j n : Nat) (m1 : Mem), j + q = l → ∃ m'', l_X9_ordersRest N (n + (q + 1)) 3 (nI (restM (cM C) T0)) (nI l) (nI w) (nI l) 0 0 (nI j) m1 = l_X9_ordersRest N n 1 (nI (restM (cM C) T0)) (nI l) (nI w) (nI l + (-1)) 0 0 0 m'' ∧ m''.2 = m1.2 ∧ (∀ k, k ≠ 16 → m''.1 k = m1.1 k) ∧ ∀ i, m''.1 16 i = if j ≤ i ∧ i < l then m1.1 14 i else m1.1 16 i := by
          intro q
          induction q with
          | zero =>
            intro j n m1 hj
            refine ⟨m1, ?_, rfl, fun _ _ => rfl, fun i => by rw [if_neg (by omega)]⟩
            rw [show n + (0 + 1) = n + 1 from rfl, l_o3]
            unfold B_X9_ordersRest_161
            rw [if_pos (nI_le (by omega) (by omega))]
          | succ q ih =>
            intro j n m1 hj
            obtain ⟨m'', e1, e0, e2, e3⟩ := ih (j + 1) n (mI m1 16 j (m1.1 14 j)) (by omega)
            refine ⟨m'', ?_, e0, fun k hk => by rw [e2 k hk, mI_ne k hk], fun i => ?_⟩
            · rw [show n + (q + 1 + 1) = (n + (q + 1)) + 1 by omega, l_o3]
              unfold B_X9_ordersRest_161
              rw [if_neg (nI_ge (by omega) (by omega)), fl_ck_t (i_ckz (by omega) (by omega)), fl_ck_t (i_ckz (by omega) (by omega)), i_c (by omega), nI_1 j]
              simp only [fl_lm]
              exact e1
            · rw [e3, mI_ne 14 (by omega)]
              by_cases h : j + 1 ≤ i ∧ i < l
              · rw [if_pos h, if_pos (by omega)]
              · rw [if_neg h, mI_g, if_pos rfl]
                by_cases e : i = j
                · subst e; rw [if_pos rfl, if_pos (by omega)]
                · rw [if_neg e, if_neg (by omega)]
        obtain ⟨m'', a1, a0, a2, a3⟩ := hm l 0 n m (by omega)
        refine ⟨m'', a1, ?_, a0⟩
        funext k i
        by_cases h : k = 16
        · subst h; rw [a3, e3]
        · rw [a2 k h, e2 k h]
      have e1'' : ∀ n, l_X9_ordersRest N (n + (l + 1)) 3 (nI (restM (cM C) T0)) (nI l) (nI w) (nI l) 0 0 (nI 0) m = l_X9_ordersRest N n 1 (nI (restM (cM C) T0)) (nI l) (nI w) (nI l + (-1)) 0 0 0 (m'.1, m.2) := fun n => by
        obtain ⟨m'', a, b', c'⟩ := e1' n
        rw [a, ← b', ← c']
      refine ⟨(l + 1) + (1 + cM C + 1), (m'.1, m.2), by unfold cst; omega, fun n => ?_, ⟨fun k _ _ _ h => e2 k h, fun j _ => by rw [show (m'.1, m.2).1 1 j = m'.1 1 j from rfl, e2 1 (by omega)], fun i _ => by rw [show (m'.1, m.2).1 14 i = m'.1 14 i from rfl, e2 14 (by omega)], fun i _ => by rw [show (m'.1, m.2).1 15 i = m'.1 15 i from rfl, e2 15 (by omega)]⟩, fun i hi => ?_⟩
      · rw [← Nat.add_assoc, hhead]
        unfold J_X9_ordersRest_133
        rw [if_pos rfl, fl_ck_t (i_ckz (by omega) (by omega)), i_c (by omega), hn.2.2.2.2.2.2.1, if_neg (nI_ge hlt hb2), fl_ck_t (i_ckz (by omega) (by omega))]
        exact e1'' n
      · show m'.1 16 i = t i
        rw [e3, if_pos (by omega)]
        exact hn.2.2.2.2.2.2.2 i hi
    · rw [if_neg hlt]
      refine ⟨1 + cM C + 1, m, by unfold cst; omega, fun n => ?_, roff.rf, h16⟩
      rw [hhead]
      unfold J_X9_ordersRest_133
      rw [if_pos rfl, fl_ck_t (i_ckz (by omega) (by omega)), i_c (by omega), hn.2.2.2.2.2.2.1, if_pos (nI_le (by omega) (by omega))]
  | succ k ih =>
    intro l T w P t b m hl hk hw hb2 hn hTT h16 h14
    have hC : okC C := by rw [← hn.1]; exact hn.2.1.1
    have n3 := hC.2.1
    have n7 := hC.2.2.1
    have h80 := bt_lt (by omega) hT0
    have h8T := bt_lt (by omega) hn.2.2.2.2.2.1
    have hlr : ¬ nI l = nI r := fun q => by have := nI_inj (by omega) (by omega) q; omega
    have loop : ∀ (q j : Nat) (m1 : Mem), j + q = cM C → roff l m m1 → (∀ i, i < r → m1.1 16 i = (sfold (Sg C k P T l w t) j b).2 i) → ∃ st m', st ≤ q * (cst k + 2) + 1 ∧ (∀ n, l_X9_ordersRest N (n + st) 2 (nI (restM (cM C) T0)) (nI r) (nI (sfold (Sg C k P T l w t) j b).1) (nI l) (nI (228 + 19 * l)) (nI j) 0 m1 = l_X9_ordersRest N n 1 (nI (restM (cM C) T0)) (nI r) (nI (Sx C (k + 1) P T l w t b).1) (nI l + (-1)) 0 0 0 m') ∧ roff l m m' ∧ ∀ i, i < r → m'.1 16 i = (Sx C (k + 1) P T l w t b).2 i := by
      intro q
      induction q with
      | zero =>
        intro j m1 hj ho hbj
        have hn1 := ho.rn (by omega) hn
        have : j = cM C := by omega
        subst this
        refine ⟨1, m1, by omega, fun n => ?_, ho, hbj⟩
        rw [l_o2]
        unfold B_X9_ordersRest_65 J_X9_ordersRest_107 J_X9_ordersRest_133
        rw [mc_m hn1.2.1, hn1.1, if_pos (Int32.le_refl _), if_neg hlr, if_pos rfl, if_neg hlr, sx_s]
      | succ q ihq =>
        intro j m1 hj ho hbj
        have hn1 := ho.rn (by omega) hn
        have hj7 : j < cM C := by omega
        have hbl : (sfold (Sg C k P T l w t) j b).1 ≤ b.1 := sfold_le (fun f b => by
          unfold Sg
          split
          · exact Nat.le_refl _
          · exact sx_le k _ _ _ _ _ _) j b
        cases hT : T.testBit j with
        | true =>
          have hs : sfold (Sg C k P T l w t) (j + 1) b = sfold (Sg C k P T l w t) j b := by
            rw [sfold_s]
            unfold Sg
            rw [if_pos hT]
          obtain ⟨st, m', a1, a2, a3⟩ := ihq (j + 1) m1 (by omega) ho (by rw [hs]; exact hbj)
          refine ⟨st + 1, m', ?_, fun n => ?_, a3⟩
          · rw [Nat.succ_mul]; omega
          · rw [← Nat.add_assoc, m_skip (by omega) hn1 hT0 hj7 hT, ← hs]
            exact a2 n
        | false =>
          have hT0j : T0.testBit j = false := by
            cases h : T0.testBit j with
            | false => rfl
            | true => rw [hTT j hj7 h] at hT; cases hT
          have hne : ¬ nI j = nI (cM C) := fun q => by have := nI_inj (by omega) (by omega) q; omega
          have hhead : ∀ n, l_X9_ordersRest N (n + 1) 2 (nI (restM (cM C) T0)) (nI r) (nI (sfold (Sg C k P T l w t) j b).1) (nI l) (nI (228 + 19 * l)) (nI j) 0 m1 = J_X9_ordersRest_107 N (l_X9_ordersRest N n) (nI (restM (cM C) T0)) (nI r) (nI (sfold (Sg C k P T l w t) j b).1) (nI l) (nI (228 + 19 * l)) (nI j) m1 := fun n => by
            rw [l_o2]
            unfold B_X9_ordersRest_65
            rw [mc_m hn1.2.1, hn1.1, if_neg (nI_ge hj7 (by omega)), m_has (restM_lt _ (by omega) _ h80) (by omega), fl_bd_s, restM_b (by omega) h80 (by omega), hT0j, decide_eq_true hj7, if_neg (show ¬ b2i (true && !false) = 0 by decide), show nI (228 + 19 * l) + (10 : Int32) = nI (228 + 19 * l + 10) from nI_add _ 10, fl_ck_t (i_ckz (by omega) (by omega)), i_c (by omega), hn1.2.2.2.2.1, m_has h8T (by omega), fl_bd_s, hT, if_pos (show b2i false = 0 from rfl)]
          by_cases hp : (sfold (Sg C k P T l w t) j b).1 ≤ w
          · have hs : sfold (Sg C k P T l w t) (cM C) b = sfold (Sg C k P T l w t) j b := sfold_stop (by omega) (fun f _ hf => sg_prune hf hk (by omega))
            refine ⟨1, m1, by omega, fun n => ?_, ho, ?_⟩
            · rw [hhead]
              unfold J_X9_ordersRest_107 J_X9_ordersRest_133
              rw [if_neg hlr, mc_m hn1.2.1, hn1.1, if_neg hne, fl_ck_t (i_ckz (by omega) (by omega)), i_c (by omega), hn1.2.2.2.2.2.2.1, if_neg (nI_nlt hp (by omega)), if_neg hlr, sx_s, hs]
            · rw [sx_s, hs]; exact hbj
          · -- the child
            obtain ⟨y1, y2, y3, y4, y5, y6, y7, y8⟩ := id hn1
            obtain ⟨r2, m2, e2, h2⟩ := m_copy (N := N) (a := 228 + 19 * l) (b := 228 + 19 * l + 19) (m := mI m1 14 l (nI j)) (by omega) (by omega) (by omega) (by omega)
            have o2 : ∀ k, k ≠ 1 → k ≠ 14 → m2.1 k = m1.1 k := fun k a b => by rw [h2.1.2 k a, mI_ne k b]
            have eC2 : mC_ m2 = C := (mC_cong (fun k a _ => o2 k a (by omega))).trans y1
            have hC2 : mcOk m2 := mcOk_cong (fun k a _ => o2 k a (by omega)) y2
            have eP2 : mPm m2 (228 + 19 * l + 19) = P := by
              unfold mPm
              rw [eC2, mP_shift (m := m1) (r := 228 + 19 * l) (by omega) (fun q hq => by rw [h2.i hq, mI_ne 1 (by omega)])]
              have := y3
              unfold mPm at this
              rw [y1] at this
              exact this
            have hs2 := m_soonest (N := N) (r := 228 + 19 * l + 19) (f := j) (by omega) hC2 (by rw [eC2, eP2]; exact y4) (by omega) (by rw [eC2]; exact hj7)
            rw [eC2, eP2] at hs2
            have hcc := a_near_lt hC P j
            obtain ⟨r3, m3, e3, hr3, h3⟩ := m_ride1 (r := 228 + 19 * l + 19) (c := a_near C P j) (f := j) hC2 (by rw [eC2, eP2]; exact y4) (by omega) (by rw [eC2]; exact hcc) (by rw [eC2]; exact hj7)
            rw [eC2, eP2] at hr3 h3
            subst hr3
            have o3 : ∀ k, k ≠ 1 → k ≠ 14 → m3.1 k = m1.1 k := fun k a b => by rw [h3.1.2 k a, o2 k a b]
            have m314 : ∀ i, m3.1 14 i = if i = l then nI j else m1.1 14 i := fun i => by rw [h3.1.2 14 (by omega), h2.1.2 14 (by omega), mI_g, if_pos rfl]
            have m31 : ∀ q, q < 228 + 19 * l + 19 → m3.1 1 q = m1.1 1 q := fun q hq => by rw [h3.2.1 q (by omega), h2.o (by omega), mI_ne 1 (by omega)]
            have hw3 : m3.1 15 l = nI w := by rw [o3 15 (by omega) (by omega)]; exact y7
            -- the child's record
            have kid : ∀ v : Int32, v = nI (w + wp C P j) → ∃ m5, (∀ n, fl_lm (mI m3 15 (l + 1) v) (fun m55 => fl_ck (0 ≤ (nI l + 1).toInt ∧ (nI l + 1).toInt < 8) (fl_lm (mI m55 14 ((nI l + 1).toNatClampNeg) (-1 : Int32)) (fun m58 => l_X9_ordersRest N n 1 (nI (restM (cM C) T0)) (nI r) (nI (sfold (Sg C k P T l w t) j b).1) (nI l + 1) 0 0 0 m58))) = l_X9_ordersRest N n 1 (nI (restM (cM C) T0)) (nI r) (nI (sfold (Sg C k P T l w t) j b).1) (nI (l + 1)) 0 0 0 m5) ∧ RN C B (kidP C P j) (T ||| 2 ^ j) (l + 1) (w + wp C P j) (upd t l (nI j)) m5 ∧ m5.1 14 (l + 1) = -1 ∧ roff l m1 m5 ∧ (∀ i, m5.1 16 i = m1.1 16 i) := by
              intro v hv
              refine ⟨mI (mI m3 15 (l + 1) v) 14 (l + 1) (-1), fun n => ?_, ⟨?_, ?_, ?_, ?_, ?_, ?_, ?_, fun i hi => ?_⟩, mI_s, ⟨fun k a b c _ => ?_, fun q hq => ?_, fun i hi => ?_, fun i hi => ?_⟩, fun i => ?_⟩
              · rw [nI_1 l, fl_lm_def, fl_ck_t (i_ckz (by omega) (by omega)), i_c (by omega)]
                simp only [fl_lm]
              · exact (mC_cong (fun k a b => by rw [mI_ne k (by omega), mI_ne k (by omega), h3.1.2 k a])).trans eC2
              · exact mcOk_cong (fun k a b => by rw [mI_ne k (by omega), mI_ne k (by omega), h3.1.2 k a]) hC2
              · have hcq : mC_ (mI (mI m3 15 (l + 1) v) 14 (l + 1) (-1)) = C := (mC_cong (fun k a b => by rw [mI_ne k (by omega), mI_ne k (by omega), h3.1.2 k a])).trans eC2
                have hcq3 : mC_ m3 = C := (mC_cong (fun k a b => by rw [h3.1.2 k a])).trans eC2
                have e0 := h3.2.2.1
                rw [eC2, eP2] at e0
                unfold mPm at e0 ⊢
                rw [hcq, show 228 + 19 * (l + 1) = 228 + 19 * l + 19 by omega, mP_cong (m := m3) (by omega) (fun q _ _ => by rw [mI_ne 1 (by omega), mI_ne 1 (by omega)])]
                rw [hcq3] at e0
                exact e0
              · have := a_ride_ok hC y4 (by omega) hcc hj7 (a_weeps C P (a_near C P j) j)
                refine okP.wk this ?_
                rw [show ((l + 1 : Nat) : Int) = (l : Int) + 1 from rfl]
                omega
              · rw [mI_ne 1 (by omega), mI_ne 1 (by omega), show 228 + 19 * (l + 1) + 10 = 228 + 19 * l + 19 + 10 by omega, h3.2.2.2.1, h2.i (by omega), mI_ne 1 (by omega), y5]
                exact (bt_tab T h8T j (by omega)).2
              · exact bt_or _ (by omega) T y6 j hj7
              · rw [mI_ne 15 (by omega), mI_s, hv]
              · rw [mI_j (by omega), mI_ne 14 (by omega), m314]
                by_cases e : i = l
                · subst e; rw [if_pos rfl, upd_s]
                · rw [if_neg e, upd_n e]; exact y8 i (by omega)
              · rw [mI_ne k b, mI_ne k c, o3 k a b]
              · rw [mI_ne 1 (by omega), mI_ne 1 (by omega)]; exact m31 q (by omega)
              · rw [mI_j (by omega), mI_ne 14 (by omega), m314, if_neg (by omega)]
              · rw [mI_ne 15 (by omega), mI_j (by omega), o3 15 (by omega) (by omega)]
              · rw [mI_ne 16 (by omega), mI_ne 16 (by omega), o3 16 (by omega) (by omega)]
            have hv : ∀ c : Bool, c = a_weeps C P (a_near C P j) j → nI w + (if c = true then (1 : Int32) else 0) = nI (w + wp C P j) := fun c hc => by
              unfold wp
              rw [← hc]
              cases c with
              | true => exact nI_1 w
              | false => exact Int32.add_zero _
            obtain ⟨m5, k1, k2, k3, k4, k5⟩ := kid _ (hv _ rfl)
            have hw1 : wp C P j ≤ 1 := by unfold wp; split <;> omega
            obtain ⟨st, m6, s1, s2, s3, s4⟩ := ih (l + 1) (T ||| 2 ^ j) (w + wp C P j) (kidP C P j) (upd t l (nI j)) (sfold (Sg C k P T l w t) j b) m5 (by omega) (unt_kid hk hj7 hT) (by omega) (by omega) k2 (fun f hf h0 => by rw [bt_set, hTT f hf h0]; rfl) (fun i hi => by rw [k5]; exact hbj i hi) k3
            have hSg : Sg C k P T l w t j (sfold (Sg C k P T l w t) j b) = Sx C k (kidP C P j) (T ||| 2 ^ j) (l + 1) (w + wp C P j) (upd t l (nI j)) (sfold (Sg C k P T l w t) j b) := by
              unfold Sg
              rw [if_neg (by rw [hT]; decide)]
            rw [← hSg, ← sfold_s (Sg C k P T l w t) j b] at s2 s4
            have ho6 : roff l m m6 := by
              refine (ho.tr k4).tr ⟨s3.1, fun q hq => s3.2.1 q (by omega), fun i hi => s3.2.2.1 i (by omega), fun i hi => s3.2.2.2 i (by omega)⟩
            have h146 : m6.1 14 l = nI j := by
              rw [s3.2.2.1 l (by omega)]
              have := k2.2.2.2.2.2.2.2 l (by omega)
              rw [upd_s] at this
              exact this
            obtain ⟨st2, m7, u1, u2, u3⟩ := ihq (j + 1) m6 (by omega) ho6 s4
            refine ⟨st2 + 1 + st + 1, m7, ?_, fun n => ?_, u3⟩
            · rw [Nat.succ_mul]; omega
            · rw [show n + (st2 + 1 + st + 1) = (n + st2 + 1 + st) + 1 by omega, hhead]
              unfold J_X9_ordersRest_107
              rw [if_neg hlr, mc_m hn1.2.1, hn1.1, if_neg hne, fl_ck_t (i_ckz (by omega) (by omega)), i_c (by omega), hn1.2.2.2.2.2.2.1, if_pos (nI_lt (by omega) (by omega)), fl_ck_t (i_ckz (by omega) (by omega)), fl_lm_def, show nI (228 + 19 * l) + (19 : Int32) = nI (228 + 19 * l + 19) from nI_add _ 19, e2, fl_bd_s, hs2, fl_bd_s, e3, fl_bd_s, fl_ck_t (i_ckz (by omega) (by omega)), hw3, nI_1 l]
              have fin : l_X9_ordersRest N (n + st2 + 1 + st) 1 (nI (restM (cM C) T0)) (nI r) (nI (sfold (Sg C k P T l w t) j b).1) (nI (l + 1)) 0 0 0 m5 = l_X9_ordersRest N n 1 (nI (restM (cM C) T0)) (nI r) (nI (Sx C (k + 1) P T l w t b).1) (nI l + (-1)) 0 0 0 m7 := by
                rw [s2, nI_neg1, open_ _ l w T (j + 1) P t _ (nI j) m6 (by omega) (ho6.rn (by omega) hn) h146 (nI_1 j)]
                exact u2 n
              have mid : ∀ c : Bool, c = a_weeps C P (a_near C P j) j → J_X9_ordersRest_262 N (l_X9_ordersRest N (n + st2 + 1 + st)) (nI (restM (cM C) T0)) (nI r) (nI (sfold (Sg C k P T l w t) j b).1) (nI l) (nI (l + 1)) (nI w) (if c = true then (1 : Int32) else 0) m3 = l_X9_ordersRest N n 1 (nI (restM (cM C) T0)) (nI r) (nI (Sx C (k + 1) P T l w t b).1) (nI l + (-1)) 0 0 0 m7 := by
                intro c hc
                unfold J_X9_ordersRest_262
                rw [fl_ck_t (i_ckz (by omega) (by omega)), i_c (by omega), hc]
                exact (k1 _).trans fin
              cases hc : a_weeps C P (a_near C P j) j with
              | false =>
                rw [if_pos (show b2i false = 0 from rfl)]
                exact mid false hc.symm
              | true =>
                rw [if_neg (show ¬ b2i true = 0 by decide)]
                exact mid true hc.symm
    obtain ⟨st, m', a1, a2, a3⟩ := loop (cM C) 0 m (by omega) roff.rf h16
    refine ⟨st + 1, m', ?_, fun n => ?_, a3⟩
    · have : cM C * (cst k + 2) ≤ 7 * (cst k + 2) := Nat.mul_le_mul_right _ n7.2
      unfold cst
      omega
    · rw [← Nat.add_assoc, open_ _ l w T 0 P t _ (-1) m (by omega) hn h14 (by decide)]
      exact a2 n
