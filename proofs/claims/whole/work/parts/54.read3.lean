/-! one item, read by the reference -/
def zone (r c : Int32) : Int32 := r * c - 1
/-- what an item must say; none where it can't be one -/
def wants (ch : Int32) (nc nf : Nat) (r c : Int32) : Option (List (Int32 × Int32)) :=
  if ch = 103 then (if nc + nf = 0 then some [(1, 6), (1, 6)] else none)
  else if ch = 99 then (if nc = 3 then none else some [(0, 2), (0, zone r c), (0, zone r c)])
  else if ch = 102 then (if nf = 7 then none else some [(0, 3), (0, zone r c), (0, zone r c), (0, 99), (0, 60)])
  else none
def itm (L : Nat → Int32) (ch : Int32) (nc nf : Nat) (r c : Int32) (p : Nat) : Bool := match wants ch nc nf r c with
  | none => false
  | some R => okR L R p
/-- the reference's reading cells -/
def RD_ (nc nf : Nat) (r c : Int32) (m : Mem) : Prop := m.1 0 21 = r ∧ m.1 0 22 = c ∧ m.1 0 23 = nI nc ∧ m.1 0 25 = nI nf
theorem moff.rd {nc nf : Nat} {r c : Int32} {m m' : Mem} (h : moff m m') (hr : RD_ nc nf r c m) : RD_ nc nf r c m' := ⟨by rw [h.2 21 (by omega) (by omega)]; exact hr.1, by rw [h.2 22 (by omega) (by omega)]; exact hr.2.1, by rw [h.2 23 (by omega) (by omega)]; exact hr.2.2.1, by rw [h.2 25 (by omega) (by omega)]; exact hr.2.2.2⟩
/-- what reading may change in the reference -/
def roffs (m m' : Mem) : Prop := (∀ k, k ≠ 0 → k ≠ 12 → k ≠ 13 → m'.1 k = m.1 k) ∧ ∀ j, j < 19 → m'.1 0 j = m.1 0 j
theorem moff.ro {m m' : Mem} (h : moff m m') : roffs m m' := ⟨fun k a _ _ => h.1 k a, fun j hj => h.2 j (by omega) (by omega)⟩
theorem roffs.rf {m : Mem} : roffs m m := ⟨fun _ _ _ _ => rfl, fun _ _ => rfl⟩
theorem roffs.tr {m m1 m2 : Mem} (h : roffs m m1) (h2 : roffs m1 m2) : roffs m m2 := ⟨fun k a b c => (h2.1 k a b c).trans (h.1 k a b c), fun j a => (h2.2 j a).trans (h.2 j a)⟩
theorem roffs.tm {n : Nat} {a : Nat → Int32} {m m' : Mem} (h : roffs m m') (ht : TM n a m) : TM n a m' := ⟨by rw [h.2 18 (by omega)]; exact ht.1, fun j hj => by rw [h.1 11 (by omega) (by omega) (by omega)]; exact ht.2 j hj⟩
/-- the reading cells behind an item -/
def after (ch : Int32) (nc nf : Nat) (vs : List Int32) (m m' : Mem) : Prop :=
  if ch = 103 then RD_ nc nf (vs.getD 0 0) (vs.getD 1 0) m' ∧ m'.1 12 = m.1 12 ∧ m'.1 13 = m.1 13
  else if ch = 99 then RD_ (nc + 1) nf (m.1 0 21) (m.1 0 22) m' ∧ (∀ j, j < 3 * nc → m'.1 12 j = m.1 12 j) ∧ m'.1 12 (3 * nc) = vs.getD 0 0 ∧ m'.1 12 (3 * nc + 1) = vs.getD 1 0 ∧ m'.1 12 (3 * nc + 2) = vs.getD 2 0 ∧ m'.1 13 = m.1 13
  else RD_ nc (nf + 1) (m.1 0 21) (m.1 0 22) m' ∧ (∀ j, j < 5 * nf → m'.1 13 j = m.1 13 j) ∧ m'.1 13 (5 * nf) = vs.getD 0 0 ∧ m'.1 13 (5 * nf + 1) = vs.getD 1 0 ∧ m'.1 13 (5 * nf + 2) = vs.getD 2 0 ∧ m'.1 13 (5 * nf + 3) = vs.getD 3 0 ∧ m'.1 13 (5 * nf + 4) = vs.getD 4 0 ∧ m'.1 12 = m.1 12
theorem mul3 (h a : Nat) : (3 : Int32) * nI h + nI a = nI (3 * h + a) := by rw [show (3 : Int32) * nI h = nI (3 * h) from pk_mul 3 h, nI_add]
theorem mul5 (h a : Nat) : (5 : Int32) * nI h + nI a = nI (5 * h + a) := by rw [show (5 : Int32) * nI h = nI (5 * h) from pk_mul 5 h, nI_add]
theorem m_addsCab {nc nf : Nat} {r c x y z : Int32} {m : Mem} (h : RD_ nc nf r c m) (hnc : nc < 3) : ∃ m', f_X9_addsCab x y z m = some (0, m') ∧ (∀ k, k ≠ 0 → k ≠ 12 → m'.1 k = m.1 k) ∧ (∀ j, j ≠ 23 → m'.1 0 j = m.1 0 j) ∧ m'.1 0 23 = nI (nc + 1) ∧ (∀ j, j < 3 * nc → m'.1 12 j = m.1 12 j) ∧ m'.1 12 (3 * nc) = x ∧ m'.1 12 (3 * nc + 1) = y ∧ m'.1 12 (3 * nc + 2) = z := by
  have h23 := h.2.2.1
  unfold f_X9_addsCab
  simp only [fl_lm, mI_ne 0 (show (0 : Nat) ≠ 12 by omega)]
  rw [h23, show (3 : Int32) * nI nc = nI (3 * nc) from pk_mul 3 nc, show nI (3 * nc) + (1 : Int32) = nI (3 * nc + 1) from nI_add _ 1, show nI (3 * nc) + (2 : Int32) = nI (3 * nc + 2) from nI_add _ 2, fl_ck_t (i_ckz (by omega) (by omega)), fl_ck_t (i_ckz (by omega) (by omega)), fl_ck_t (i_ckz (by omega) (by omega)), i_c (by omega), i_c (by omega), i_c (by omega), nI_1 nc]
  refine ⟨_, rfl, fun k a b => by rw [mI_ne k a, mI_ne k b, mI_ne k b, mI_ne k b], fun j hj => by rw [mI_j hj, mI_ne 0 (by omega), mI_ne 0 (by omega), mI_ne 0 (by omega)], mI_s, fun j hj => ?_, ?_, ?_, ?_⟩
  · rw [mI_ne 12 (by omega), mI_j (by omega), mI_j (by omega), mI_j (by omega)]
  · rw [mI_ne 12 (by omega), mI_j (by omega), mI_j (by omega), mI_s]
  · rw [mI_ne 12 (by omega), mI_j (by omega), mI_s]
  · rw [mI_ne 12 (by omega), mI_s]
theorem m_addsFare {nc nf : Nat} {r c x y z u v : Int32} {m : Mem} (h : RD_ nc nf r c m) (hnf : nf < 7) : ∃ m', f_X9_addsFare x y z u v m = some (0, m') ∧ (∀ k, k ≠ 0 → k ≠ 13 → m'.1 k = m.1 k) ∧ (∀ j, j ≠ 25 → m'.1 0 j = m.1 0 j) ∧ m'.1 0 25 = nI (nf + 1) ∧ (∀ j, j < 5 * nf → m'.1 13 j = m.1 13 j) ∧ m'.1 13 (5 * nf) = x ∧ m'.1 13 (5 * nf + 1) = y ∧ m'.1 13 (5 * nf + 2) = z ∧ m'.1 13 (5 * nf + 3) = u ∧ m'.1 13 (5 * nf + 4) = v := by
  have h25 := h.2.2.2
  unfold f_X9_addsFare
  simp only [fl_lm, mI_ne 0 (show (0 : Nat) ≠ 13 by omega)]
  rw [h25, show (5 : Int32) * nI nf = nI (5 * nf) from pk_mul 5 nf, show nI (5 * nf) + (1 : Int32) = nI (5 * nf + 1) from nI_add _ 1, show nI (5 * nf) + (2 : Int32) = nI (5 * nf + 2) from nI_add _ 2, show nI (5 * nf) + (3 : Int32) = nI (5 * nf + 3) from nI_add _ 3, show nI (5 * nf) + (4 : Int32) = nI (5 * nf + 4) from nI_add _ 4, fl_ck_t (i_ckz (by omega) (by omega)), fl_ck_t (i_ckz (by omega) (by omega)), fl_ck_t (i_ckz (by omega) (by omega)), fl_ck_t (i_ckz (by omega) (by omega)), fl_ck_t (i_ckz (by omega) (by omega)), i_c (by omega), i_c (by omega), i_c (by omega), i_c (by omega), i_c (by omega), nI_1 nf]
  refine ⟨_, rfl, fun k a b => by rw [mI_ne k a, mI_ne k b, mI_ne k b, mI_ne k b, mI_ne k b, mI_ne k b], fun j hj => by rw [mI_j hj, mI_ne 0 (by omega), mI_ne 0 (by omega), mI_ne 0 (by omega), mI_ne 0 (by omega), mI_ne 0 (by omega)], mI_s, fun j hj => ?_, ?_, ?_, ?_, ?_, ?_⟩
  · rw [mI_ne 13 (by omega), mI_j (by omega), mI_j (by omega), mI_j (by omega), mI_j (by omega), mI_j (by omega)]
  · rw [mI_ne 13 (by omega), mI_j (by omega), mI_j (by omega), mI_j (by omega), mI_j (by omega), mI_s]
  · rw [mI_ne 13 (by omega), mI_j (by omega), mI_j (by omega), mI_j (by omega), mI_s]
  · rw [mI_ne 13 (by omega), mI_j (by omega), mI_j (by omega), mI_s]
  · rw [mI_ne 13 (by omega), mI_j (by omega), mI_s]
  · rw [mI_ne 13 (by omega), mI_s]
/-- a number, then the rest: how the reference goes on -/
theorem m_step {N n p : Nat} {a : Nat → Int32} {m : Mem} {lo hi t : Int32} {f : Mem → Option (Int32 × Mem)} (hN : 10 ≤ N) (hn : n ≤ 200) (hp : p ≤ 250) (h : TM n a m) (hpos : m.1 0 19 = nI p) :
    ∃ m', moff m m' ∧ (okN (Lt n a) lo hi t p = true → m'.1 0 19 = nI (p + nl (Lt n a) p + 1) ∧ m'.1 0 20 = nv (Lt n a) p) ∧ fl_bd (f_X9_takesNumber N lo hi t m) (fun r m2 => if r = 0 then some ((0 : Int32), m2) else f m2) = if okN (Lt n a) lo hi t p = true then f m' else some (0, m') := by
  obtain ⟨m', e1, e2, e3⟩ := m_num (lo := lo) (hi := hi) (t := t) hN hn hp h hpos
  refine ⟨m', e2, e3, ?_⟩
  rw [e1, fl_bd_s]
  cases hk : okN (Lt n a) lo hi t p with
  | true => rw [if_neg (show ¬ b2i true = 0 by decide), if_pos rfl]
  | false => rw [if_pos (show b2i false = 0 from rfl), if_neg (by decide)]
theorem okN_n {n p : Nat} {a : Nat → Int32} {lo hi t : Int32} (ht : t ≠ -1) (h : okN (Lt n a) lo hi t p = true) : p + nl (Lt n a) p + 1 ≤ n := by
  have h3 := (okN_t.mp h).2.2
  by_cases hc : p + nl (Lt n a) p < n
  · omega
  · have e : Lt n a (p + nl (Lt n a) p) = -1 := if_neg hc
    exact absurd (h3.symm.trans e) ht
theorem m_rows {N n p nc nf : Nat} {a : Nat → Int32} {r c : Int32} {m : Mem} (hN : 10 ≤ N) (hn : n ≤ 200) (hp : p ≤ n) (h : TM n a m) (hpos : m.1 0 19 = nI p) (hr : RD_ nc nf r c m) (hnc : nc ≤ 3) (hnf : nf ≤ 7) :
    ∃ m', f_X9_takesRows N m = some (b2i (decide (nc + nf = 0) && okR (Lt n a) [(1, 6), (1, 6)] p), m') ∧ roffs m m' ∧ ((decide (nc + nf = 0) && okR (Lt n a) [(1, 6), (1, 6)] p) = true → m'.1 0 19 = nI (enR (Lt n a) [(1, 6), (1, 6)] p) ∧ RD_ nc nf (nv (Lt n a) p) (nv (Lt n a) (p + nl (Lt n a) p + 1)) m' ∧ m'.1 12 = m.1 12 ∧ m'.1 13 = m.1 13) := by
  have hbad : ∀ m1, moff m m1 → (decide (nc + nf = 0) && okR (Lt n a) [(1, 6), (1, 6)] p) = false → ∃ m', some ((0 : Int32), m1) = some (b2i (decide (nc + nf = 0) && okR (Lt n a) [(1, 6), (1, 6)] p), m') ∧ roffs m m' ∧ ((decide (nc + nf = 0) && okR (Lt n a) [(1, 6), (1, 6)] p) = true → m'.1 0 19 = nI (enR (Lt n a) [(1, 6), (1, 6)] p) ∧ RD_ nc nf (nv (Lt n a) p) (nv (Lt n a) (p + nl (Lt n a) p + 1)) m' ∧ m'.1 12 = m.1 12 ∧ m'.1 13 = m.1 13) := fun m1 ho hf => ⟨m1, by rw [hf]; rfl, ho.ro, fun z => by rw [hf] at z; cases z⟩
  have hok : okR (Lt n a) [(1, 6), (1, 6)] p = (okN (Lt n a) 1 6 44 p && okN (Lt n a) 1 6 59 (p + nl (Lt n a) p + 1)) := rfl
  unfold f_X9_takesRows
  rw [hr.2.2.1, hr.2.2.2, nI_add]
  by_cases h0 : nc + nf = 0
  · rw [if_neg (by rw [h0]; decide)]
    obtain ⟨m1, e1, o1, v1⟩ := m_num (lo := 1) (hi := 6) (t := 44) hN hn (by omega) h hpos
    rw [e1, fl_bd_s]
    cases k1 : okN (Lt n a) 1 6 44 p with
    | false => rw [if_pos (show b2i false = 0 from rfl)]; exact hbad m1 o1 (by rw [hok, k1]; simp)
    | true =>
      rw [if_neg (show ¬ b2i true = 0 by decide)]
      obtain ⟨a1, b1⟩ := v1 k1
      have l1 := okN_n (by decide) k1
      obtain ⟨m2, e2, o2, v2⟩ := m_num (lo := 1) (hi := 6) (t := 59) hN hn (by omega) (o1.tm h) a1
      simp only [fl_li, fl_lm]
      rw [e2, fl_bd_s]
      cases k2 : okN (Lt n a) 1 6 59 (p + nl (Lt n a) p + 1) with
      | false => rw [if_pos (show b2i false = 0 from rfl)]; exact hbad m2 (o1.tr o2) (by rw [hok, k2]; simp)
      | true =>
        rw [if_neg (show ¬ b2i true = 0 by decide)]
        obtain ⟨a2, b2⟩ := v2 k2
        have hT : (decide (nc + nf = 0) && okR (Lt n a) [(1, 6), (1, 6)] p) = true := by rw [hok, k1, k2, decide_eq_true h0]; rfl
        rw [hT]
        have o12 := o1.tr o2
        refine ⟨_, rfl, ⟨fun k x y z => by rw [mI_ne k x, mI_ne k x]; exact o12.1 k x, fun j hj => by rw [mI_j (by omega), mI_j (by omega)]; exact o12.2 j (by omega) (by omega)⟩, fun _ => ⟨?_, ⟨?_, ?_, ?_, ?_⟩, ?_, ?_⟩⟩
        · rw [mI_j (by omega), mI_j (by omega), a2]; rfl
        · rw [mI_j (by omega), mI_s, b1]
        · rw [mI_s, mI_j (by omega), b2]
        · rw [mI_j (by omega), mI_j (by omega)]; exact (o12.rd hr).2.2.1
        · rw [mI_j (by omega), mI_j (by omega)]; exact (o12.rd hr).2.2.2
        · rw [mI_ne 12 (by omega), mI_ne 12 (by omega)]; exact o12.1 12 (by omega)
        · rw [mI_ne 13 (by omega), mI_ne 13 (by omega)]; exact o12.1 13 (by omega)
  · rw [if_pos (show (0 : Int32) < nI (nc + nf) from nI_lt (a := 0) (by omega) (by omega))]
    exact hbad m ⟨fun _ _ => rfl, fun _ _ _ => rfl⟩ (by rw [decide_eq_false h0]; rfl)
theorem m_cab {N n p nc nf : Nat} {a : Nat → Int32} {r c : Int32} {m : Mem} (hN : 10 ≤ N) (hn : n ≤ 200) (hp : p ≤ n) (h : TM n a m) (hpos : m.1 0 19 = nI p) (hr : RD_ nc nf r c m) (hnc : nc ≤ 3) (hnf : nf ≤ 7) :
    ∃ m', f_X9_takesCab N m = some (b2i (!decide (nc = 3) && okR (Lt n a) [(0, 2), (0, zone r c), (0, zone r c)] p), m') ∧ roffs m m' ∧ ((!decide (nc = 3) && okR (Lt n a) [(0, 2), (0, zone r c), (0, zone r c)] p) = true → m'.1 0 19 = nI (enR (Lt n a) [(0, 2), (0, zone r c), (0, zone r c)] p) ∧ RD_ (nc + 1) nf r c m' ∧ (∀ j, j < 3 * nc → m'.1 12 j = m.1 12 j) ∧ m'.1 12 (3 * nc) = nv (Lt n a) p ∧ m'.1 12 (3 * nc + 1) = nv (Lt n a) (p + nl (Lt n a) p + 1) ∧ m'.1 12 (3 * nc + 2) = nv (Lt n a) (p + nl (Lt n a) p + 1 + nl (Lt n a) (p + nl (Lt n a) p + 1) + 1) ∧ m'.1 13 = m.1 13) := by
  have hok : okR (Lt n a) [(0, 2), (0, zone r c), (0, zone r c)] p = (okN (Lt n a) 0 2 44 p && (okN (Lt n a) 0 (zone r c) 44 (p + nl (Lt n a) p + 1) && okN (Lt n a) 0 (zone r c) 59 (p + nl (Lt n a) p + 1 + nl (Lt n a) (p + nl (Lt n a) p + 1) + 1))) := rfl
  have hen : enR (Lt n a) [(0, 2), (0, zone r c), (0, zone r c)] p = p + nl (Lt n a) p + 1 + nl (Lt n a) (p + nl (Lt n a) p + 1) + 1 + nl (Lt n a) (p + nl (Lt n a) p + 1 + nl (Lt n a) (p + nl (Lt n a) p + 1) + 1) + 1 := rfl
  rw [hen]
  generalize hp2 : p + nl (Lt n a) p + 1 = p2 at *
  generalize hp3 : p2 + nl (Lt n a) p2 + 1 = p3 at *
  have hbad : ∀ m1, moff m m1 → (!decide (nc = 3) && okR (Lt n a) [(0, 2), (0, zone r c), (0, zone r c)] p) = false → ∃ m', some ((0 : Int32), m1) = some (b2i (!decide (nc = 3) && okR (Lt n a) [(0, 2), (0, zone r c), (0, zone r c)] p), m') ∧ roffs m m' ∧ ((!decide (nc = 3) && okR (Lt n a) [(0, 2), (0, zone r c), (0, zone r c)] p) = true → m'.1 0 19 = nI (p3 + nl (Lt n a) p3 + 1) ∧ RD_ (nc + 1) nf r c m' ∧ (∀ j, j < 3 * nc → m'.1 12 j = m.1 12 j) ∧ m'.1 12 (3 * nc) = nv (Lt n a) p ∧ m'.1 12 (3 * nc + 1) = nv (Lt n a) p2 ∧ m'.1 12 (3 * nc + 2) = nv (Lt n a) p3 ∧ m'.1 13 = m.1 13) := fun m1 ho hf => ⟨m1, by rw [hf]; rfl, ho.ro, fun z => by rw [hf] at z; cases z⟩
  unfold f_X9_takesCab
  simp only [fl_li]
  rw [hr.1, hr.2.1, hr.2.2.1, show r * c - 1 = zone r c from rfl]
  by_cases h0 : nc = 3
  · rw [if_pos (by rw [h0]; rfl)]
    exact hbad m ⟨fun _ _ => rfl, fun _ _ _ => rfl⟩ (by rw [decide_eq_true h0]; rfl)
  · rw [if_neg (show ¬ nI nc = (3 : Int32) from fun e => h0 (nI_inj (b := 3) (by omega) (by omega) e))]
    obtain ⟨m1, e1, o1, v1⟩ := m_num (lo := 0) (hi := 2) (t := 44) hN hn (by omega) h hpos
    rw [e1, fl_bd_s]
    cases k1 : okN (Lt n a) 0 2 44 p with
    | false => rw [if_pos (show b2i false = 0 from rfl)]; exact hbad m1 o1 (by rw [hok, k1]; simp)
    | true =>
      rw [if_neg (show ¬ b2i true = 0 by decide)]
      obtain ⟨a1, b1⟩ := v1 k1
      have l1 := okN_n (by decide) k1
      rw [hp2] at a1 l1
      obtain ⟨m2, e2, o2, v2⟩ := m_num (lo := 0) (hi := zone r c) (t := 44) hN hn (by omega) (o1.tm h) a1
      rw [e2, fl_bd_s]
      cases k2 : okN (Lt n a) 0 (zone r c) 44 p2 with
      | false => rw [if_pos (show b2i false = 0 from rfl)]; exact hbad m2 (o1.tr o2) (by rw [hok, k2]; simp)
      | true =>
        rw [if_neg (show ¬ b2i true = 0 by decide)]
        obtain ⟨a2, b2⟩ := v2 k2
        have l2 := okN_n (by decide) k2
        rw [hp3] at a2 l2
        obtain ⟨m3, e3, o3, v3⟩ := m_num (lo := 0) (hi := zone r c) (t := 59) hN hn (by omega) ((o1.tr o2).tm h) a2
        rw [e3, fl_bd_s]
        cases k3 : okN (Lt n a) 0 (zone r c) 59 p3 with
        | false => rw [if_pos (show b2i false = 0 from rfl)]; exact hbad m3 ((o1.tr o2).tr o3) (by rw [hok, k3]; simp)
        | true =>
          rw [if_neg (show ¬ b2i true = 0 by decide)]
          obtain ⟨a3, b3⟩ := v3 k3
          have o123 := (o1.tr o2).tr o3
          obtain ⟨m4, e4, f1, f2, f3, f4, f5, f6, f7⟩ := m_addsCab (x := m1.1 0 20) (y := m2.1 0 20) (z := m3.1 0 20) (o123.rd hr) (by omega)
          have hT : (!decide (nc = 3) && okR (Lt n a) [(0, 2), (0, zone r c), (0, zone r c)] p) = true := by rw [hok, k1, k2, k3, decide_eq_false h0]; rfl
          rw [e4, fl_bd_s, hT]
          have hd := o123.rd hr
          refine ⟨m4, rfl, ⟨fun k x y z => by rw [f1 k x y]; exact o123.1 k x, fun j hj => by rw [f2 j (by omega)]; exact o123.2 j (by omega) (by omega)⟩, fun _ => ⟨?_, ⟨?_, ?_, f3, ?_⟩, fun j hj => ?_, by rw [f5, b1], by rw [f6, b2], by rw [f7, b3], ?_⟩⟩
          · rw [f2 19 (by omega), a3]
          · rw [f2 21 (by omega)]; exact hd.1
          · rw [f2 22 (by omega)]; exact hd.2.1
          · rw [f2 25 (by omega)]; exact hd.2.2.2
          · rw [f4 j hj, o123.1 12 (by omega)]
          · rw [f1 13 (by omega) (by omega), o123.1 13 (by omega)]
theorem m_fareT {N n p nc nf : Nat} {a : Nat → Int32} {r c : Int32} {m : Mem} (hN : 10 ≤ N) (hn : n ≤ 200) (hp : p ≤ n) (h : TM n a m) (hpos : m.1 0 19 = nI p) (hr : RD_ nc nf r c m) (hnc : nc ≤ 3) (hnf : nf ≤ 7) :
    ∃ m', f_X9_takesFare N m = some (b2i (!decide (nf = 7) && okR (Lt n a) [(0, 3), (0, zone r c), (0, zone r c), (0, 99), (0, 60)] p), m') ∧ roffs m m' ∧ ((!decide (nf = 7) && okR (Lt n a) [(0, 3), (0, zone r c), (0, zone r c), (0, 99), (0, 60)] p) = true → m'.1 0 19 = nI (p + nl (Lt n a) p + 1 + nl (Lt n a) (p + nl (Lt n a) p + 1) + 1 + nl (Lt n a) (p + nl (Lt n a) p + 1 + nl (Lt n a) (p + nl (Lt n a) p + 1) + 1) + 1 + nl (Lt n a) (p + nl (Lt n a) p + 1 + nl (Lt n a) (p + nl (Lt n a) p + 1) + 1 + nl (Lt n a) (p + nl (Lt n a) p + 1 + nl (Lt n a) (p + nl (Lt n a) p + 1) + 1) + 1) + 1 + nl (Lt n a) (p + nl (Lt n a) p + 1 + nl (Lt n a) (p + nl (Lt n a) p + 1) + 1 + nl (Lt n a) (p + nl (Lt n a) p + 1 + nl (Lt n a) (p + nl (Lt n a) p + 1) + 1) + 1 + nl (Lt n a) (p + nl (Lt n a) p + 1 + nl (Lt n a) (p + nl (Lt n a) p + 1) + 1 + nl (Lt n a) (p + nl (Lt n a) p + 1 + nl (Lt n a) (p + nl (Lt n a) p + 1) + 1) + 1) + 1) + 1) ∧ RD_ nc (nf + 1) r c m' ∧ (∀ j, j < 5 * nf → m'.1 13 j = m.1 13 j) ∧ m'.1 13 (5 * nf) = nv (Lt n a) p ∧ m'.1 13 (5 * nf + 1) = nv (Lt n a) (p + nl (Lt n a) p + 1) ∧ m'.1 13 (5 * nf + 2) = nv (Lt n a) (p + nl (Lt n a) p + 1 + nl (Lt n a) (p + nl (Lt n a) p + 1) + 1) ∧ m'.1 13 (5 * nf + 3) = nv (Lt n a) (p + nl (Lt n a) p + 1 + nl (Lt n a) (p + nl (Lt n a) p + 1) + 1 + nl (Lt n a) (p + nl (Lt n a) p + 1 + nl (Lt n a) (p + nl (Lt n a) p + 1) + 1) + 1) ∧ m'.1 13 (5 * nf + 4) = nv (Lt n a) (p + nl (Lt n a) p + 1 + nl (Lt n a) (p + nl (Lt n a) p + 1) + 1 + nl (Lt n a) (p + nl (Lt n a) p + 1 + nl (Lt n a) (p + nl (Lt n a) p + 1) + 1) + 1 + nl (Lt n a) (p + nl (Lt n a) p + 1 + nl (Lt n a) (p + nl (Lt n a) p + 1) + 1 + nl (Lt n a) (p + nl (Lt n a) p + 1 + nl (Lt n a) (p + nl (Lt n a) p + 1) + 1) + 1) + 1) ∧ m'.1 12 = m.1 12) := by
  have hok : okR (Lt n a) [(0, 3), (0, zone r c), (0, zone r c), (0, 99), (0, 60)] p = (okN (Lt n a) 0 3 44 p && (okN (Lt n a) 0 (zone r c) 44 (p + nl (Lt n a) p + 1) && (okN (Lt n a) 0 (zone r c) 44 (p + nl (Lt n a) p + 1 + nl (Lt n a) (p + nl (Lt n a) p + 1) + 1) && (okN (Lt n a) 0 99 44 (p + nl (Lt n a) p + 1 + nl (Lt n a) (p + nl (Lt n a) p + 1) + 1 + nl (Lt n a) (p + nl (Lt n a) p + 1 + nl (Lt n a) (p + nl (Lt n a) p + 1) + 1) + 1) && okN (Lt n a) 0 60 59 (p + nl (Lt n a) p + 1 + nl (Lt n a) (p + nl (Lt n a) p + 1) + 1 + nl (Lt n a) (p + nl (Lt n a) p + 1 + nl (Lt n a) (p + nl (Lt n a) p + 1) + 1) + 1 + nl (Lt n a) (p + nl (Lt n a) p + 1 + nl (Lt n a) (p + nl (Lt n a) p + 1) + 1 + nl (Lt n a) (p + nl (Lt n a) p + 1 + nl (Lt n a) (p + nl (Lt n a) p + 1) + 1) + 1) + 1))))) := rfl
  generalize hp2 : p + nl (Lt n a) p + 1 = p2 at *
  generalize hp3 : p2 + nl (Lt n a) p2 + 1 = p3 at *
  generalize hp4 : p3 + nl (Lt n a) p3 + 1 = p4 at *
  generalize hp5 : p4 + nl (Lt n a) p4 + 1 = p5 at *
  have hbad : ∀ m1, moff m m1 → (!decide (nf = 7) && okR (Lt n a) [(0, 3), (0, zone r c), (0, zone r c), (0, 99), (0, 60)] p) = false → ∃ m', some ((0 : Int32), m1) = some (b2i (!decide (nf = 7) && okR (Lt n a) [(0, 3), (0, zone r c), (0, zone r c), (0, 99), (0, 60)] p), m') ∧ roffs m m' ∧ ((!decide (nf = 7) && okR (Lt n a) [(0, 3), (0, zone r c), (0, zone r c), (0, 99), (0, 60)] p) = true → m'.1 0 19 = nI (p5 + nl (Lt n a) p5 + 1) ∧ RD_ nc (nf + 1) r c m' ∧ (∀ j, j < 5 * nf → m'.1 13 j = m.1 13 j) ∧ m'.1 13 (5 * nf) = nv (Lt n a) p ∧ m'.1 13 (5 * nf + 1) = nv (Lt n a) p2 ∧ m'.1 13 (5 * nf + 2) = nv (Lt n a) p3 ∧ m'.1 13 (5 * nf + 3) = nv (Lt n a) p4 ∧ m'.1 13 (5 * nf + 4) = nv (Lt n a) p5 ∧ m'.1 12 = m.1 12) := fun m1 ho hf => ⟨m1, by rw [hf]; rfl, ho.ro, fun z => by rw [hf] at z; cases z⟩
  unfold f_X9_takesFare
  simp only [fl_li]
  rw [hr.1, hr.2.1, hr.2.2.2, show r * c - 1 = zone r c from rfl]
  by_cases h0 : nf = 7
  · rw [if_pos (by rw [h0]; rfl)]
    exact hbad m ⟨fun _ _ => rfl, fun _ _ _ => rfl⟩ (by rw [decide_eq_true h0]; rfl)
  · rw [if_neg (show ¬ nI nf = (7 : Int32) from fun e => h0 (nI_inj (b := 7) (by omega) (by omega) e))]
    obtain ⟨m1, e1, o1, v1⟩ := m_num (lo := 0) (hi := 3) (t := 44) hN hn (by omega) h hpos
    rw [e1, fl_bd_s]
    cases k1 : okN (Lt n a) 0 3 44 p with
    | false => rw [if_pos (show b2i false = 0 from rfl)]; exact hbad m1 (o1) (by rw [hok, k1]; simp)
    | true =>
      rw [if_neg (show ¬ b2i true = 0 by decide)]
      obtain ⟨a1, b1⟩ := v1 k1
      have l1 := okN_n (by decide) k1
      rw [hp2] at a1 l1
      obtain ⟨m2, e2, o2, v2⟩ := m_num (lo := 0) (hi := zone r c) (t := 44) hN hn (by omega) ((o1).tm h) a1
      rw [e2, fl_bd_s]
      cases k2 : okN (Lt n a) 0 (zone r c) 44 p2 with
      | false => rw [if_pos (show b2i false = 0 from rfl)]; exact hbad m2 ((o1).tr o2) (by rw [hok, k2]; simp)
      | true =>
        rw [if_neg (show ¬ b2i true = 0 by decide)]
        obtain ⟨a2, b2⟩ := v2 k2
        have l2 := okN_n (by decide) k2
        rw [hp3] at a2 l2
        obtain ⟨m3, e3, o3, v3⟩ := m_num (lo := 0) (hi := zone r c) (t := 44) hN hn (by omega) (((o1).tr o2).tm h) a2
        rw [e3, fl_bd_s]
        cases k3 : okN (Lt n a) 0 (zone r c) 44 p3 with
        | false => rw [if_pos (show b2i false = 0 from rfl)]; exact hbad m3 (((o1).tr o2).tr o3) (by rw [hok, k3]; simp)
        | true =>
          rw [if_neg (show ¬ b2i true = 0 by decide)]
          obtain ⟨a3, b3⟩ := v3 k3
          have l3 := okN_n (by decide) k3
          rw [hp4] at a3 l3
          obtain ⟨m4, e4, o4, v4⟩ := m_num (lo := 0) (hi := 99) (t := 44) hN hn (by omega) ((((o1).tr o2).tr o3).tm h) a3
          rw [e4, fl_bd_s]
          cases k4 : okN (Lt n a) 0 99 44 p4 with
          | false => rw [if_pos (show b2i false = 0 from rfl)]; exact hbad m4 ((((o1).tr o2).tr o3).tr o4) (by rw [hok, k4]; simp)
          | true =>
            rw [if_neg (show ¬ b2i true = 0 by decide)]
            obtain ⟨a4, b4⟩ := v4 k4
            have l4 := okN_n (by decide) k4
            rw [hp5] at a4 l4
            obtain ⟨m5, e5, o5, v5⟩ := m_num (lo := 0) (hi := 60) (t := 59) hN hn (by omega) (((((o1).tr o2).tr o3).tr o4).tm h) a4
            rw [e5, fl_bd_s]
            cases k5 : okN (Lt n a) 0 60 59 p5 with
            | false => rw [if_pos (show b2i false = 0 from rfl)]; exact hbad m5 (((((o1).tr o2).tr o3).tr o4).tr o5) (by rw [hok, k5]; simp)
            | true =>
              rw [if_neg (show ¬ b2i true = 0 by decide)]
              obtain ⟨a5, b5⟩ := v5 k5
              have oo := ((((o1).tr o2).tr o3).tr o4).tr o5
              obtain ⟨m6, e6, f1, f2, f3, f4, f5, f6, f7, f8, f9⟩ := m_addsFare (x := m1.1 0 20) (y := m2.1 0 20) (z := m3.1 0 20) (u := m4.1 0 20) (v := m5.1 0 20) (oo.rd hr) (by omega)
              have hT : (!decide (nf = 7) && okR (Lt n a) [(0, 3), (0, zone r c), (0, zone r c), (0, 99), (0, 60)] p) = true := by rw [hok, k1, k2, k3, k4, k5, decide_eq_false h0]; rfl
              rw [e6, fl_bd_s, hT]
              have hd := oo.rd hr
              refine ⟨m6, rfl, ⟨fun k x y z => by rw [f1 k x z]; exact oo.1 k x, fun j hj => by rw [f2 j (by omega)]; exact oo.2 j (by omega) (by omega)⟩, fun _ => ⟨?_, ⟨?_, ?_, ?_, f3⟩, fun j hj => ?_, by rw [f5, b1], by rw [f6, b2], by rw [f7, b3], by rw [f8, b4], by rw [f9, b5], ?_⟩⟩
              · rw [f2 19 (by omega), a5]
              · rw [f2 21 (by omega)]; exact hd.1
              · rw [f2 22 (by omega)]; exact hd.2.1
              · rw [f2 23 (by omega)]; exact hd.2.2.1
              · rw [f4 j hj, oo.1 13 (by omega)]
              · rw [f1 12 (by omega) (by omega), oo.1 12 (by omega)]
theorem m_item {N n p nc nf : Nat} {a : Nat → Int32} {r c : Int32} {m : Mem} (hN : 10 ≤ N) (hn : n ≤ 200) (hp : p < n) (h : TM n a m) (hpos : m.1 0 19 = nI p) (hr : RD_ nc nf r c m) (hnc : nc ≤ 3) (hnf : nf ≤ 7) :
    ∃ m', f_X9_takesItem N m = some (b2i (itm (Lt n a) (a p) nc nf r c (p + 1)), m') ∧ roffs m m' ∧ (itm (Lt n a) (a p) nc nf r c (p + 1) = true → ∃ R, wants (a p) nc nf r c = some R ∧ m'.1 0 19 = nI (enR (Lt n a) R (p + 1)) ∧ after (a p) nc nf (vlR (Lt n a) R (p + 1)) m m') := by
  have hp1 : m.1 0 19 + 1 = nI (p + 1) := by rw [hpos, nI_1]
  unfold f_X9_takesItem
  rw [hpos, m_letter hn (by omega) h, fl_bd_s, lt_in hp, hp1]
  simp only [fl_lm]
  have o0 : moff m (mI m 0 19 (nI (p + 1))) := ⟨fun k hk => mI_ne k hk, fun j h1 _ => mI_j h1⟩
  generalize hm0 : mI m 0 19 (nI (p + 1)) = m0 at *
  have q0 : m0.1 0 19 = nI (p + 1) := by rw [← hm0, mI_s]
  have t0 := o0.tm h
  have r0 := o0.rd hr
  have bad : ∀ (m1 : Mem), moff m m1 → itm (Lt n a) (a p) nc nf r c (p + 1) = false → ∃ m', some ((0 : Int32), m1) = some (b2i (itm (Lt n a) (a p) nc nf r c (p + 1)), m') ∧ roffs m m' ∧ (itm (Lt n a) (a p) nc nf r c (p + 1) = true → ∃ R, wants (a p) nc nf r c = some R ∧ m'.1 0 19 = nI (enR (Lt n a) R (p + 1)) ∧ after (a p) nc nf (vlR (Lt n a) R (p + 1)) m m') := fun m1 ho hf => ⟨m1, by rw [hf]; rfl, ho.ro, fun z => by rw [hf] at z; cases z⟩
  have hen : ∀ (R : List (Int32 × Int32)) (b : Bool), wants (a p) nc nf r c = (if b = true then some R else none) → itm (Lt n a) (a p) nc nf r c (p + 1) = (b && okR (Lt n a) R (p + 1)) := fun R b hw => by
    unfold itm
    rw [hw]
    cases b <;> rfl
  have hRt : ∀ (R : List (Int32 × Int32)) (b : Bool), wants (a p) nc nf r c = (if b = true then some R else none) → (b && okR (Lt n a) R (p + 1)) = true → wants (a p) nc nf r c = some R := fun R b hw hb => by
    rw [Bool.and_eq_true] at hb
    rw [hw, if_pos hb.1]
  have h12 : m0.1 12 = m.1 12 := o0.1 12 (by omega)
  have h13 : m0.1 13 = m.1 13 := o0.1 13 (by omega)
  by_cases h103 : a p = 103
  · rw [if_pos h103]
    have hw : wants (a p) nc nf r c = (if decide (nc + nf = 0) = true then some [(1, 6), (1, 6)] else none) := by
      unfold wants
      rw [if_pos h103]
      by_cases z : nc + nf = 0
      · rw [if_pos z, if_pos (decide_eq_true z)]
      · rw [if_neg z, if_neg (by rw [decide_eq_false z]; decide)]
    obtain ⟨m1, e1, f1, g1⟩ := m_rows (p := p + 1) hN hn (by omega) t0 q0 r0 hnc hnf
    rw [e1, fl_bd_s, fl_ck_t (b2i_01 _), hen _ _ hw]
    refine ⟨m1, rfl, o0.ro.tr f1, fun hb => ?_⟩
    obtain ⟨x1, x2, x3, x4⟩ := g1 hb
    refine ⟨_, hRt _ _ hw hb, x1, ?_⟩
    unfold after
    rw [if_pos h103]
    exact ⟨x2, x3.trans h12, x4.trans h13⟩
  · rw [if_neg h103]
    by_cases h99 : a p = 99
    · rw [if_pos h99]
      have hw : wants (a p) nc nf r c = (if (!decide (nc = 3)) = true then some [(0, 2), (0, zone r c), (0, zone r c)] else none) := by
        unfold wants
        rw [if_neg h103, if_pos h99]
        by_cases z : nc = 3
        · rw [if_pos z, if_neg (by rw [decide_eq_true z]; decide)]
        · rw [if_neg z, if_pos (by rw [decide_eq_false z]; rfl)]
      obtain ⟨m1, e1, f1, g1⟩ := m_cab (p := p + 1) hN hn (by omega) t0 q0 r0 hnc hnf
      rw [e1, fl_bd_s, fl_ck_t (b2i_01 _), hen _ _ hw]
      refine ⟨m1, rfl, o0.ro.tr f1, fun hb => ?_⟩
      obtain ⟨x1, x2, x3, x4, x5, x6, x7⟩ := g1 hb
      refine ⟨_, hRt _ _ hw hb, x1, ?_⟩
      unfold after
      rw [if_neg h103, if_pos h99, hr.1, hr.2.1]
      exact ⟨x2, fun j hj => (x3 j hj).trans (by rw [h12]), x4, x5, x6, x7.trans h13⟩
    · rw [if_neg h99]
      by_cases h102 : a p = 102
      · rw [if_pos h102]
        have hw : wants (a p) nc nf r c = (if (!decide (nf = 7)) = true then some [(0, 3), (0, zone r c), (0, zone r c), (0, 99), (0, 60)] else none) := by
          unfold wants
          rw [if_neg h103, if_neg h99, if_pos h102]
          by_cases z : nf = 7
          · rw [if_pos z, if_neg (by rw [decide_eq_true z]; decide)]
          · rw [if_neg z, if_pos (by rw [decide_eq_false z]; rfl)]
        obtain ⟨m1, e1, f1, g1⟩ := m_fareT (p := p + 1) hN hn (by omega) t0 q0 r0 hnc hnf
        rw [e1, fl_bd_s, hen _ _ hw]
        refine ⟨m1, ?_, o0.ro.tr f1, fun hb => ?_⟩
        · cases (!decide (nf = 7) && okR (Lt n a) [(0, 3), (0, zone r c), (0, zone r c), (0, 99), (0, 60)] (p + 1)) with
          | true => rfl
          | false => rfl
        · obtain ⟨x1, x2, x3, x4, x5, x6, x7, x8, x9⟩ := g1 hb
          refine ⟨_, hRt _ _ hw hb, x1, ?_⟩
          unfold after
          rw [if_neg h103, if_neg h99, hr.1, hr.2.1]
          exact ⟨x2, fun j hj => (x3 j hj).trans (by rw [h13]), x4, x5, x6, x7, x8, x9.trans h12⟩
      · rw [if_neg h102]
        refine bad m0 o0 ?_
        unfold itm wants
        rw [if_neg h103, if_neg h99, if_neg h102]
