/-! ===== reading the text ===== -/
/-- the text: n letters, and nothing behind them -/
def Lt (n : Nat) (a : Nat → Int32) (p : Nat) : Int32 := if p < n then a p else -1
def app (v z : Int32) : Int32 := ((10 * v) + z) - 48
def dg (x : Int32) : Bool := rgi x 48 57
def nl (L : Nat → Int32) (p : Nat) : Nat := if dg (L p) = true then (if dg (L (p + 1)) = true then 2 else 1) else 0
def nv (L : Nat → Int32) (p : Nat) : Int32 := if dg (L p) = true then (if dg (L (p + 1)) = true then app (app 0 (L p)) (L (p + 1)) else app 0 (L p)) else 0
def TX (n : Nat) (a : Nat → Int32) (m : Mem) : Prop := m.1 1 1 = nI n ∧ ∀ j, j < n → m.1 2 j = a j
def TM (n : Nat) (a : Nat → Int32) (m : Mem) : Prop := m.1 0 18 = nI n ∧ ∀ j, j < n → m.1 11 j = a j
theorem m_letter {n p : Nat} {a : Nat → Int32} {m : Mem} (hn : n ≤ 200) (hp : p ≤ 300) (h : TM n a m) : f_X9_letterAt (nI p) m = some (Lt n a p, m) := by
  unfold f_X9_letterAt Lt
  rw [h.1]
  by_cases hc : p < n
  · rw [if_neg (nI_ge hc (by omega)), if_pos hc, fl_ck_t (i_ckz (by omega) (by omega)), i_c (by omega), h.2 p hc]
  · rw [if_pos (nI_le (by omega) (by omega)), if_neg hc]
theorem dg_lt {L : Nat → Int32} {p : Nat} : nl L p ≤ 2 := by unfold nl; split <;> (try split) <;> omega
/-- one number of the reference -/
def okN (L : Nat → Int32) (lo hi t : Int32) (p : Nat) : Bool := decide (1 ≤ nl L p) && (rgi (nv L p) lo.toInt hi.toInt && decide (L (p + nl L p) = t))
def moff (m m' : Mem) : Prop := (∀ k, k ≠ 0 → m'.1 k = m.1 k) ∧ ∀ j, j ≠ 19 → j ≠ 20 → m'.1 0 j = m.1 0 j
theorem moff.tm {n : Nat} {a : Nat → Int32} {m m' : Mem} (h : moff m m') (ht : TM n a m) : TM n a m' := ⟨by rw [h.2 18 (by omega) (by omega)]; exact ht.1, fun j hj => by rw [h.1 11 (by omega)]; exact ht.2 j hj⟩
theorem moff.tr {m m1 m2 : Mem} (h : moff m m1) (h2 : moff m1 m2) : moff m m2 := ⟨fun k a => (h2.1 k a).trans (h.1 k a), fun j a b => (h2.2 j a b).trans (h.2 j a b)⟩
theorem m_num {N n p : Nat} {a : Nat → Int32} {m : Mem} {lo hi t : Int32} (hN : 10 ≤ N) (hn : n ≤ 200) (hp : p ≤ 250) (h : TM n a m) (hpos : m.1 0 19 = nI p) :
    ∃ m', f_X9_takesNumber N lo hi t m = some (b2i (okN (Lt n a) lo hi t p), m') ∧ moff m m' ∧ (okN (Lt n a) lo hi t p = true → m'.1 0 19 = nI (p + nl (Lt n a) p + 1) ∧ m'.1 0 20 = nv (Lt n a) p) := by
  obtain ⟨N', rfl⟩ : ∃ N', N = N' + 4 := ⟨N - 4, by omega⟩
  -- what comes behind the digits
  have last : ∀ (F : Int32 → Int32 → Int32 → Int32 → Mem → Option (Int32 × Mem)) (k : Nat) (m1 : Mem), k ≤ 2 → moff m m1 → m1.1 0 19 = nI (p + k) → k = nl (Lt n a) p → m1.1 0 20 = nv (Lt n a) p → ∃ m', J_X9_takesNumber_79 (N' + 4) F lo hi t (nI p) m1 = some (b2i (okN (Lt n a) lo hi t p), m') ∧ moff m m' ∧ (okN (Lt n a) lo hi t p = true → m'.1 0 19 = nI (p + nl (Lt n a) p + 1) ∧ m'.1 0 20 = nv (Lt n a) p) := by
    intro F k m1 hk ho h19 hkn h20
    unfold J_X9_takesNumber_79
    rw [h19, h20]
    by_cases h0 : k = 0
    · subst h0
      have hz : okN (Lt n a) lo hi t p = false := by unfold okN; rw [← hkn]; rfl
      rw [hz, if_pos (by rw [Nat.add_zero])]
      exact ⟨m1, rfl, ho, fun q => by cases q⟩
    · rw [if_neg (fun e => by have := nI_inj (by omega) (by omega) e; omega), m_inI, fl_bd_s, Int32.toInt_toInt64, Int32.toInt_toInt64]
      cases hr : rgi (nv (Lt n a) p) lo.toInt hi.toInt with
      | false =>
        have hz : okN (Lt n a) lo hi t p = false := by unfold okN; rw [hr, Bool.false_and, Bool.and_false]
        rw [hz, if_pos (show b2i false = 0 from rfl)]
        exact ⟨m1, rfl, ho, fun q => by cases q⟩
      | true =>
        rw [if_neg (show ¬ b2i true = 0 by decide), h19, m_letter hn (by omega) (ho.tm h), fl_bd_s]
        have hz : okN (Lt n a) lo hi t p = decide (Lt n a (p + k) = t) := by
          unfold okN
          rw [hr, Bool.true_and, ← hkn, decide_eq_true (show 1 ≤ k by omega), Bool.true_and]
        rw [hz, ← hkn]
        by_cases hc : Lt n a (p + k) = t
        · rw [if_pos hc, h19, nI_1]
          simp only [fl_lm]
          refine ⟨mI m1 0 19 (nI (p + k + 1)), by rw [decide_eq_true hc]; rfl, ho.tr ⟨fun q hq => mI_ne q hq, fun j h1 _ => mI_j h1⟩, fun _ => ⟨mI_s, by rw [mI_j (by omega)]; exact h20⟩⟩
        · rw [if_neg hc]
          refine ⟨m1, by rw [decide_eq_false hc]; rfl, ho, fun q => ?_⟩
          rw [decide_eq_false hc] at q
          cases q
  have dig : ∀ (q k : Nat) (m1 : Mem) (v : Int32), k < 2 → moff m m1 → m1.1 0 19 = nI (p + k) → m1.1 0 20 = v → l_X9_takesNumber (N' + 4) (q + 1) lo hi t (nI p) m1 = (if dg (Lt n a (p + k)) = true then l_X9_takesNumber (N' + 4) q lo hi t (nI p) (mI (mI m1 0 20 (app v (Lt n a (p + k)))) 0 19 (nI (p + k + 1))) else J_X9_takesNumber_79 (N' + 4) (l_X9_takesNumber (N' + 4) q) lo hi t (nI p) m1) := by
    intro q k m1 v hk ho h19 h20
    show B_X9_takesNumber_11 (N' + 4) (l_X9_takesNumber (N' + 4) q) lo hi t (nI p) m1 = _
    unfold B_X9_takesNumber_11
    have hs : nI (p + k) - nI p = nI k := by rw [nI_subn (by omega) (by omega), show p + k - p = k by omega]
    rw [h19, hs, if_neg (show ¬ (2 : Int32) ≤ nI k from nI_ge (b := 2) hk (by omega)), m_letter hn (by omega) (ho.tm h), fl_bd_s, m_inI, fl_bd_s, show (48 : Int64).toInt = 48 from rfl, show (57 : Int64).toInt = 57 from rfl]
    unfold dg
    cases hr : rgi (Lt n a (p + k)) 48 57 with
    | false => rw [if_pos (show b2i false = 0 from rfl), if_neg (by decide)]
    | true =>
      rw [if_neg (show ¬ b2i true = 0 by decide), if_pos rfl, h19, m_letter hn (by omega) (ho.tm h), fl_bd_s, h20]
      simp only [fl_lm]
      rw [mI_j (show (19 : Nat) ≠ 20 by omega), h19, nI_1]
      rfl
  unfold f_X9_takesNumber
  simp only [fl_li, fl_lm]
  rw [hpos]
  have o0 : moff m (mI m 0 20 0) := ⟨fun q hq => mI_ne q hq, fun j _ h2 => mI_j h2⟩
  have d0 := dig (N' + 3) 0 (mI m 0 20 0) 0 (by omega) o0 (by rw [mI_j (by omega)]; exact hpos) mI_s
  rw [d0]
  cases h1 : dg (Lt n a (p + 0)) with
  | false =>
    rw [if_neg (by decide)]
    refine last _ 0 _ (by omega) o0 (by rw [mI_j (by omega)]; exact hpos) ?_ ?_
    · unfold nl; rw [show p = p + 0 from rfl, h1]; rfl
    · rw [mI_s]; unfold nv; rw [show p = p + 0 from rfl, h1]; rfl
  | true =>
    rw [if_pos rfl]
    have o1 : moff m (mI (mI (mI m 0 20 0) 0 20 (app 0 (Lt n a (p + 0)))) 0 19 (nI (p + 0 + 1))) := o0.tr ⟨fun q hq => by rw [mI_ne q hq, mI_ne q hq], fun j h1 h2 => by rw [mI_j h1, mI_j h2]⟩
    have d1 := dig (N' + 2) 1 _ (app 0 (Lt n a (p + 0))) (by omega) o1 mI_s (by rw [mI_j (by omega), mI_s])
    rw [d1]
    cases h2 : dg (Lt n a (p + 1)) with
    | false =>
      rw [if_neg (by decide)]
      refine last _ 1 _ (by omega) o1 mI_s ?_ ?_
      · unfold nl; rw [show dg (Lt n a p) = true from h1, h2]; rfl
      · rw [mI_j (by omega), mI_s]; unfold nv; rw [show dg (Lt n a p) = true from h1, h2]; rfl
    | true =>
      rw [if_pos rfl]
      have o2 := o1.tr (m2 := mI (mI (mI (mI (mI m 0 20 0) 0 20 (app 0 (Lt n a (p + 0)))) 0 19 (nI (p + 0 + 1))) 0 20 (app (app 0 (Lt n a (p + 0))) (Lt n a (p + 1)))) 0 19 (nI (p + 1 + 1))) ⟨fun q hq => by rw [mI_ne q hq, mI_ne q hq], fun j h1 h2 => by rw [mI_j h1, mI_j h2]⟩
      show ∃ m', B_X9_takesNumber_11 (N' + 4) (l_X9_takesNumber (N' + 4) (N' + 1)) lo hi t (nI p) _ = _ ∧ _
      unfold B_X9_takesNumber_11
      rw [mI_s, nI_subn (by omega) (by omega), show p + 1 + 1 - p = 2 by omega, if_pos (show (2 : Int32) ≤ nI 2 by decide)]
      refine last _ 2 _ (by omega) o2 mI_s ?_ ?_
      · unfold nl; rw [show dg (Lt n a p) = true from h1, h2]; rfl
      · rw [mI_j (by omega), mI_s]; unfold nv; rw [show dg (Lt n a p) = true from h1, h2]; rfl
/-- the numbers up to the semicolon at e -/
def lst (L : Nat → Int32) (e : Nat) : Nat → Nat → Option (List Int32)
  | 0 => fun _ => none
  | f + 1 => fun p => if p = e + 1 then some [] else if nl L p = 0 then none else if L (p + nl L p) = 44 ∨ L (p + nl L p) = 59 then (lst L e f (p + nl L p + 1)).map (fun l => nv L p :: l) else none
theorem lst_s (L : Nat → Int32) (e f p : Nat) : lst L e (f + 1) p = if p = e + 1 then some [] else if nl L p = 0 then none else if L (p + nl L p) = 44 ∨ L (p + nl L p) = 59 then (lst L e f (p + nl L p + 1)).map (fun l => nv L p :: l) else none := rfl
theorem nl_e {L : Nat → Int32} {e p : Nat} (he : L e = 59) (hp : p ≤ e) : p + nl L p ≤ e := by
  have d59 : ∀ q, dg (L q) = true → q ≠ e := fun q h z => by
    rw [z, he] at h
    exact absurd h (by decide)
  unfold nl
  cases h1 : dg (L p) with
  | false => rw [if_neg (by decide)]; omega
  | true =>
    have := d59 p h1
    rw [if_pos rfl]
    cases h2 : dg (L (p + 1)) with
    | false => rw [if_neg (by decide)]; omega
    | true =>
      have := d59 (p + 1) h2
      rw [if_pos rfl]; omega
def xoffs (m m' : Mem) : Prop := eqOff m m' (fun k => k = 1 ∨ k = 3) ∧ ∀ j, j ≠ 3 → m'.1 1 j = m.1 1 j
theorem xoffs.tx {n : Nat} {a : Nat → Int32} {m m' : Mem} (h : xoffs m m') (ht : TX n a m) : TX n a m' := ⟨by rw [h.2 1 (by omega)]; exact ht.1, fun j hj => by rw [h.1.2 2 (by omega)]; exact ht.2 j hj⟩
theorem xoffs.tr {m m1 m2 : Mem} (h : xoffs m m1) (h2 : xoffs m1 m2) : xoffs m m2 := ⟨h.1.tr h2.1, fun j hj => (h2.2 j hj).trans (h.2 j hj)⟩
theorem lt_in {n j : Nat} {a : Nat → Int32} (h : j < n) : Lt n a j = a j := if_pos h
/-- one number of the class -/
theorem x_num1 {N n e p idx q : Nat} {a : Nat → Int32} {m : Mem} (hn : n ≤ 200) (he : e < n) (hLe : Lt n a e = 59) (hp : p ≤ e) (ht : TX n a m) (hi : m.1 1 3 = nI idx) (hidx : idx ≤ 5) :
    l_X6_readNumbers N (q + nl (Lt n a) p + 1) (nI e) 0 0 (nI p) m = if nl (Lt n a) p = 0 then some (0, m) else if Lt n a (p + nl (Lt n a) p) = 44 ∨ Lt n a (p + nl (Lt n a) p) = 59 then (if 5 ≤ idx then some (0, m) else l_X6_readNumbers N q (nI e) 0 0 (nI (p + nl (Lt n a) p + 1)) (mI (mI m 3 idx (nv (Lt n a) p)) 1 3 (nI (idx + 1)))) else some (0, m) := by
  have hpe := nl_e (L := Lt n a) hLe hp
  have rd : ∀ (q k : Nat) (c v : Int32), p + k ≤ e → l_X6_readNumbers N (q + 1) (nI e) c v (nI (p + k)) m = if dg (Lt n a (p + k)) = true ∧ ¬ (2 : Int32) ≤ c then l_X6_readNumbers N q (nI e) (c + 1) (app v (Lt n a (p + k))) (nI (p + k + 1)) m else J_X6_readNumbers_68 N (l_X6_readNumbers N q) (nI e) c v (nI (p + k)) (Lt n a (p + k)) m := by
    intro q k c v hk
    show B_X6_readNumbers_15 N (l_X6_readNumbers N q) (nI e) c v (nI (p + k)) m = _
    unfold B_X6_readNumbers_15
    rw [if_neg (nI_nlt hk (by omega)), fl_ck_t (i_ckz (by omega) (by omega)), i_c (by omega), ht.2 _ (by omega), lt_in (by omega)]
    simp only [fl_li]
    unfold dg rgi
    have e48 : (48 : Int32).toInt = 48 := rfl
    have e57 : (57 : Int32).toInt = 57 := rfl
    by_cases h1 : a (p + k) < (48 : Int32)
    · rw [if_pos h1, if_neg (fun z => by rw [i_lt] at h1; have := of_decide_eq_true z.1; omega)]
    · rw [if_neg h1]
      by_cases h2 : (57 : Int32) < a (p + k)
      · rw [if_pos h2, if_neg (fun z => by rw [i_lt] at h2; have := of_decide_eq_true z.1; omega)]
      · rw [if_neg h2]
        by_cases h3 : (2 : Int32) ≤ c
        · rw [if_pos h3, if_neg (fun z => z.2 h3)]
        · rw [if_neg h3, if_pos ⟨decide_eq_true (by rw [i_lt] at h1 h2; omega), h3⟩, nI_1]
          unfold app
          rw [Int32.mul_comm v 10]
  have fin : ∀ (q k : Nat), 1 ≤ k → k ≤ 2 → k = nl (Lt n a) p → J_X6_readNumbers_68 N (l_X6_readNumbers N q) (nI e) (nI k) (nv (Lt n a) p) (nI (p + k)) (Lt n a (p + k)) m = if Lt n a (p + k) = 44 ∨ Lt n a (p + k) = 59 then (if 5 ≤ idx then some (0, m) else l_X6_readNumbers N q (nI e) 0 0 (nI (p + k + 1)) (mI (mI m 3 idx (nv (Lt n a) p)) 1 3 (nI (idx + 1)))) else some (0, m) := by
    intro q k h1 h2 _
    have j82 : J_X6_readNumbers_82 N (l_X6_readNumbers N q) (nI e) (nI k) (nv (Lt n a) p) (nI (p + k)) m = (if 5 ≤ idx then some (0, m) else l_X6_readNumbers N q (nI e) 0 0 (nI (p + k + 1)) (mI (mI m 3 idx (nv (Lt n a) p)) 1 3 (nI (idx + 1)))) := by
      unfold J_X6_readNumbers_82
      rw [if_neg (show ¬ nI k ≤ (0 : Int32) from nI_nle h1 (by omega)), hi]
      by_cases h5 : 5 ≤ idx
      · rw [if_pos (show (5 : Int32) ≤ nI idx from nI_le (a := 5) h5 (by omega)), if_pos h5]
      · rw [if_neg (show ¬ (5 : Int32) ≤ nI idx from nI_ge (b := 5) (by omega) (by omega)), if_neg h5, fl_ck_t (i_ckz (by omega) (by omega)), i_c (by omega), nI_1 (p + k)]
        simp only [fl_lm]
        rw [mI_ne 1 (by omega), hi, nI_1]
    unfold J_X6_readNumbers_68
    by_cases h44 : Lt n a (p + k) = 44
    · rw [if_pos h44, if_pos (Or.inl h44)]; exact j82
    · rw [if_neg h44]
      by_cases h59 : Lt n a (p + k) = 59
      · rw [if_pos h59, if_pos (Or.inr h59)]; exact j82
      · rw [if_neg h59, if_neg (by rintro (z | z); exact h44 z; exact h59 z)]
  have z0 : ∀ (q : Nat) (v : Int32), J_X6_readNumbers_68 N (l_X6_readNumbers N q) (nI e) 0 v (nI (p + 0)) (Lt n a (p + 0)) m = some (0, m) := by
    intro q v
    unfold J_X6_readNumbers_68 J_X6_readNumbers_82
    rw [if_pos (Int32.le_refl _)]
    split <;> (try rfl)
    split <;> rfl
  have hpe' := hpe
  unfold nl at hpe' ⊢
  cases h1 : dg (Lt n a p) with
  | false =>
    rw [if_neg (by decide), if_pos rfl]
    have := rd q 0 0 0 hp
    rw [if_neg (fun z => by have z1 := z.1; rw [show dg (Lt n a (p + 0)) = false from h1] at z1; cases z1), z0] at this
    exact this
  | true =>
    rw [h1, if_pos rfl] at hpe'
    rw [if_pos rfl]
    cases h2 : dg (Lt n a (p + 1)) with
    | false =>
      rw [h2, if_neg (by decide)] at hpe'
      rw [if_neg (by decide), if_neg (by decide)]
      have r0 := rd (q + 1) 0 0 0 hp
      rw [if_pos ⟨h1, by decide⟩] at r0
      have r1 := rd q 1 (0 + 1) (app 0 (Lt n a (p + 0))) (by omega)
      rw [if_neg (fun z => by have z1 := z.1; rw [h2] at z1; cases z1)] at r1
      have hk : (1 : Nat) = nl (Lt n a) p := by unfold nl; rw [h1, h2]; rfl
      have hv : nv (Lt n a) p = app 0 (Lt n a (p + 0)) := by unfold nv; rw [h1, h2]; rfl
      have f1 := fin q 1 (by omega) (by omega) hk
      rw [hv] at f1 ⊢
      exact (r0.trans r1).trans f1
    | true =>
      rw [h2, if_pos rfl] at hpe'
      rw [if_pos rfl, if_neg (by decide)]
      have r0 := rd (q + 2) 0 0 0 hp
      rw [if_pos ⟨h1, by decide⟩] at r0
      have r1 := rd (q + 1) 1 (0 + 1) (app 0 (Lt n a (p + 0))) (by omega)
      rw [if_pos ⟨h2, by decide⟩] at r1
      have r2 := rd q 2 (0 + 1 + 1) (app (app 0 (Lt n a (p + 0))) (Lt n a (p + 1))) (by omega)
      rw [if_neg (fun z => z.2 (by decide))] at r2
      have hk : (2 : Nat) = nl (Lt n a) p := by unfold nl; rw [h1, h2]; rfl
      have hv : nv (Lt n a) p = app (app 0 (Lt n a (p + 0))) (Lt n a (p + 1)) := by unfold nv; rw [h1, h2]; rfl
      have f2 := fin q 2 (by omega) (by omega) hk
      rw [hv] at f2 ⊢
      exact ((r0.trans r1).trans r2).trans f2
