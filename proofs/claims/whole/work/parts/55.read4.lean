/-! one item, told to the class -/
def CX (K nc nf : Nat) (r c : Int32) (m : Mem) : Prop := m.1 K 0 = r ∧ m.1 K 1 = c ∧ m.1 K 2 = nI nc ∧ m.1 K 3 = nI nf
def xfr (K : Nat) (m m' : Mem) : Prop := (∀ k, k ≠ 1 → k ≠ 3 → (k < K ∨ K + 8 < k) → m'.1 k = m.1 k) ∧ ∀ j, j ≠ 3 → m'.1 1 j = m.1 1 j
theorem xfr.rf {K : Nat} {m : Mem} : xfr K m m := ⟨fun _ _ _ _ => rfl, fun _ _ => rfl⟩
theorem xfr.tr {K : Nat} {m m1 m2 : Mem} (h : xfr K m m1) (h2 : xfr K m1 m2) : xfr K m m2 := ⟨fun k a b c => (h2.1 k a b c).trans (h.1 k a b c), fun j a => (h2.2 j a).trans (h.2 j a)⟩
theorem xoffs.fr {K : Nat} {m m' : Mem} (h : xoffs m m') : xfr K m m' := ⟨fun k a b _ => h.1.2 k (by omega), fun j hj => h.2 j hj⟩
theorem xfr.tx {K n : Nat} {a : Nat → Int32} {m m' : Mem} (hK : 4 ≤ K) (h : xfr K m m') (ht : TX n a m) : TX n a m' := ⟨by rw [h.2 1 (by omega)]; exact ht.1, fun j hj => by rw [h.1 2 (by omega) (by omega) (by omega)]; exact ht.2 j hj⟩
def told (ch : Int32) (nc nf : Nat) (r c : Int32) (l : List Int32) : Bool := match wants ch nc nf r c with
  | none => false
  | some R => inR R l
def xafter (K : Nat) (ch : Int32) (nc nf : Nat) (l : List Int32) (m m' : Mem) : Prop :=
  if ch = 103 then m'.1 K 0 = l.getD 0 0 ∧ m'.1 K 1 = l.getD 1 0 ∧ m'.1 K 2 = m.1 K 2 ∧ m'.1 K 3 = m.1 K 3 ∧ ∀ k, K < k → m'.1 k = m.1 k
  else if ch = 99 then m'.1 K 0 = m.1 K 0 ∧ m'.1 K 1 = m.1 K 1 ∧ m'.1 K 2 = nI (nc + 1) ∧ m'.1 K 3 = m.1 K 3 ∧ m'.1 (K + 1) = upd (m.1 (K + 1)) nc (l.getD 0 0) ∧ m'.1 (K + 2) = upd (m.1 (K + 2)) nc (l.getD 1 0) ∧ m'.1 (K + 3) = upd (m.1 (K + 3)) nc (if l.getD 2 0 = l.getD 1 0 then -4 else l.getD 2 0) ∧ ∀ k, K + 3 < k → m'.1 k = m.1 k
  else m'.1 K 0 = m.1 K 0 ∧ m'.1 K 1 = m.1 K 1 ∧ m'.1 K 2 = m.1 K 2 ∧ m'.1 K 3 = nI (nf + 1) ∧ (∀ k, K < k → k < K + 4 → m'.1 k = m.1 k) ∧ m'.1 (K + 4) = upd (m.1 (K + 4)) nf (l.getD 0 0) ∧ m'.1 (K + 5) = upd (m.1 (K + 5)) nf (l.getD 1 0) ∧ m'.1 (K + 6) = upd (m.1 (K + 6)) nf (l.getD 2 0) ∧ m'.1 (K + 7) = upd (m.1 (K + 7)) nf (l.getD 3 0) ∧ m'.1 (K + 8) = upd (m.1 (K + 8)) nf (l.getD 4 0)
theorem x_place {K : Nat} {r c x : Int32} {m : Mem} (h0 : m.1 K 0 = r) (h1 : m.1 K 1 = c) : f_X0_hasPlace K x m = some (b2i (rgi x 0 (zone r c).toInt), m) := by
  refine ok_v ?_
  unfold f_X0_hasPlace f_X0_places
  rw [fl_bd_s, h0, h1]
  exact ok_eq x_within (ok_ck (b2i_01 _) (ok_ret ⟨rfl, rfl⟩))
theorem x_build {K nc nf : Nat} {r c x y : Int32} {m : Mem} (hc : CX K nc nf r c m) (hnc : nc ≤ 3) (hnf : nf ≤ 7) : ∃ m', f_X0_build K x y m = some (b2i (decide (nc + nf = 0) && (rgi x 1 6 && (rgi y 1 6 && true))), m') ∧ (∀ k, k ≠ K → m'.1 k = m.1 k) ∧ ((decide (nc + nf = 0) && (rgi x 1 6 && (rgi y 1 6 && true))) = true → m'.1 K 0 = x ∧ m'.1 K 1 = y ∧ m'.1 K 2 = m.1 K 2 ∧ m'.1 K 3 = m.1 K 3) := by
  unfold f_X0_build
  rw [hc.2.2.1, hc.2.2.2]
  by_cases h1 : nc = 0
  · rw [if_neg (by rw [h1]; decide)]
    by_cases h2 : nf = 0
    · rw [if_neg (by rw [h2]; decide), x_within, fl_bd_s, show (1 : Int32).toInt = 1 from rfl, show (6 : Int32).toInt = 6 from rfl, decide_eq_true (show nc + nf = 0 by omega)]
      cases hx : rgi x 1 6 with
      | false => exact ⟨m, rfl, fun _ _ => rfl, fun z => by cases z⟩
      | true =>
        rw [if_neg (show ¬ b2i true = 0 by decide), x_within, fl_bd_s, show (1 : Int32).toInt = 1 from rfl, show (6 : Int32).toInt = 6 from rfl]
        cases hy : rgi y 1 6 with
        | false => exact ⟨m, rfl, fun _ _ => rfl, fun z => by cases z⟩
        | true =>
          rw [if_neg (show ¬ b2i true = 0 by decide)]
          simp only [fl_lm]
          exact ⟨_, rfl, fun k hk => by rw [mI_ne k hk, mI_ne k hk], fun _ => ⟨by rw [mI_j (by omega), mI_s], mI_s, by rw [mI_j (by omega), mI_j (by omega)]; exact hc.2.2.1, by rw [mI_j (by omega), mI_j (by omega)]; exact hc.2.2.2⟩⟩
    · rw [if_pos (show (0 : Int32) < nI nf from nI_lt (a := 0) (by omega) (by omega)), decide_eq_false (show ¬ nc + nf = 0 by omega)]
      exact ⟨m, rfl, fun _ _ => rfl, fun z => by cases z⟩
  · rw [if_pos (show (0 : Int32) < nI nc from nI_lt (a := 0) (by omega) (by omega)), decide_eq_false (show ¬ nc + nf = 0 by omega)]
    exact ⟨m, rfl, fun _ _ => rfl, fun z => by cases z⟩
theorem x_addCab {K nc nf : Nat} {r c x y z : Int32} {m : Mem} (hc : CX K nc nf r c m) (hnc : nc ≤ 3) : ∃ m', f_X0_addCab K x y z m = some (b2i (!decide (nc = 3) && (rgi x 0 2 && (rgi y 0 (zone r c).toInt && (rgi z 0 (zone r c).toInt && true)))), m') ∧ (∀ k, k ≠ K → k ≠ K + 1 → k ≠ K + 2 → k ≠ K + 3 → m'.1 k = m.1 k) ∧ ((!decide (nc = 3) && (rgi x 0 2 && (rgi y 0 (zone r c).toInt && (rgi z 0 (zone r c).toInt && true)))) = true → m'.1 K 0 = m.1 K 0 ∧ m'.1 K 1 = m.1 K 1 ∧ m'.1 K 2 = nI (nc + 1) ∧ m'.1 K 3 = m.1 K 3 ∧ m'.1 (K + 1) = upd (m.1 (K + 1)) nc x ∧ m'.1 (K + 2) = upd (m.1 (K + 2)) nc y ∧ m'.1 (K + 3) = upd (m.1 (K + 3)) nc (if z = y then -4 else z)) := by
  have bad : ∀ b : Bool, b = false → ∃ m', some ((0 : Int32), m) = some (b2i b, m') ∧ (∀ k, k ≠ K → k ≠ K + 1 → k ≠ K + 2 → k ≠ K + 3 → m'.1 k = m.1 k) ∧ (b = true → m'.1 K 0 = m.1 K 0 ∧ m'.1 K 1 = m.1 K 1 ∧ m'.1 K 2 = nI (nc + 1) ∧ m'.1 K 3 = m.1 K 3 ∧ m'.1 (K + 1) = upd (m.1 (K + 1)) nc x ∧ m'.1 (K + 2) = upd (m.1 (K + 2)) nc y ∧ m'.1 (K + 3) = upd (m.1 (K + 3)) nc (if z = y then -4 else z)) := fun b hb => ⟨m, by rw [hb]; rfl, fun _ _ _ _ _ => rfl, fun q => by rw [hb] at q; cases q⟩
  unfold f_X0_addCab
  rw [hc.2.2.1]
  by_cases h3 : nc = 3
  · rw [if_pos (by rw [h3]; decide)]
    exact bad _ (by rw [decide_eq_true h3]; rfl)
  · rw [if_neg (show ¬ (3 : Int32) ≤ nI nc from nI_ge (b := 3) (by omega) (by omega)), x_within, fl_bd_s, show (0 : Int32).toInt = 0 from rfl, show (2 : Int32).toInt = 2 from rfl]
    cases hx : rgi x 0 2 with
    | false => rw [if_pos (show b2i false = 0 from rfl)]; exact bad _ (by simp)
    | true =>
      rw [if_neg (show ¬ b2i true = 0 by decide), x_place hc.1 hc.2.1, fl_bd_s]
      cases hy : rgi y 0 (zone r c).toInt with
      | false => rw [if_pos (show b2i false = 0 from rfl)]; exact bad _ (by simp)
      | true =>
        rw [if_neg (show ¬ b2i true = 0 by decide), x_place hc.1 hc.2.1, fl_bd_s]
        cases hz : rgi z 0 (zone r c).toInt with
        | false => rw [if_pos (show b2i false = 0 from rfl)]; exact bad _ (by simp)
        | true =>
          rw [if_neg (show ¬ b2i true = 0 by decide), hc.2.2.1, fl_ck_t (i_ckz (by omega) (by omega)), i_c (by omega), decide_eq_false h3]
          simp only [fl_lm]
          rw [mI_ne K (by omega), hc.2.2.1, fl_ck_t (i_ckz (by omega) (by omega)), i_c (by omega), mI_ne K (by omega), mI_ne K (by omega), hc.2.2.1]
          have J : ∀ v : Int32, J_X0_addCab_74 K (nI nc) v (mI (mI m (K + 1) nc x) (K + 2) nc y) = some (1, mI (mI (mI (mI m (K + 1) nc x) (K + 2) nc y) (K + 3) nc v) K 2 (nI (nc + 1))) := fun v => by
            unfold J_X0_addCab_74
            rw [fl_ck_t (i_ckz (by omega) (by omega)), i_c (by omega)]
            simp only [fl_lm]
            rw [mI_ne K (by omega), mI_ne K (by omega), mI_ne K (by omega), hc.2.2.1, nI_1]
          rw [J, J]
          have fin : ∀ v : Int32, v = (if z = y then -4 else z) → ∃ m', some ((1 : Int32), mI (mI (mI (mI m (K + 1) nc x) (K + 2) nc y) (K + 3) nc v) K 2 (nI (nc + 1))) = some (b2i (!false && (true && (true && (true && true)))), m') ∧ (∀ k, k ≠ K → k ≠ K + 1 → k ≠ K + 2 → k ≠ K + 3 → m'.1 k = m.1 k) ∧ ((!false && (true && (true && (true && true)))) = true → m'.1 K 0 = m.1 K 0 ∧ m'.1 K 1 = m.1 K 1 ∧ m'.1 K 2 = nI (nc + 1) ∧ m'.1 K 3 = m.1 K 3 ∧ m'.1 (K + 1) = upd (m.1 (K + 1)) nc x ∧ m'.1 (K + 2) = upd (m.1 (K + 2)) nc y ∧ m'.1 (K + 3) = upd (m.1 (K + 3)) nc (if z = y then -4 else z)) := by
            intro v hv
            have oK : ∀ j, j ≠ 2 → (mI (mI (mI (mI m (K + 1) nc x) (K + 2) nc y) (K + 3) nc v) K 2 (nI (nc + 1))).1 K j = m.1 K j := fun j hj => by rw [mI_j hj, mI_ne K (by omega), mI_ne K (by omega), mI_ne K (by omega)]
            refine ⟨_, rfl, fun k q0 q1 q2 q3 => by rw [mI_ne k q0, mI_ne k q3, mI_ne k q2, mI_ne k q1], fun _ => ⟨oK 0 (by omega), oK 1 (by omega), mI_s, oK 3 (by omega), ?_, ?_, ?_⟩⟩
            · rw [mI_ne _ (by omega), mI_ne _ (by omega), mI_ne _ (by omega), mI_eq]
            · rw [mI_ne _ (by omega), mI_ne _ (by omega), mI_eq, mI_ne _ (by omega)]
            · rw [mI_ne _ (by omega), mI_eq, mI_ne _ (by omega), mI_ne _ (by omega), hv]
          by_cases hzy : z = y
          · rw [if_pos hzy]; exact fin _ (by rw [if_pos hzy])
          · rw [if_neg hzy]; exact fin _ (by rw [if_neg hzy])
theorem x_addFare {K nc nf : Nat} {r c x y z u v : Int32} {m : Mem} (hK : 4 ≤ K) (hc : CX K nc nf r c m) (hnf : nf ≤ 7) (h0 : m.1 3 0 = x) (h1 : m.1 3 1 = y) (h2 : m.1 3 2 = z) (h3 : m.1 3 3 = u) (h4 : m.1 3 4 = v) : ∃ m', f_X0_addFare K m = some (b2i (!decide (nf = 7) && (rgi x 0 3 && (rgi y 0 (zone r c).toInt && (rgi z 0 (zone r c).toInt && (rgi u 0 99 && (rgi v 0 60 && true)))))), m') ∧ (∀ k, k ≠ K → k ≠ K + 4 → k ≠ K + 5 → k ≠ K + 6 → k ≠ K + 7 → k ≠ K + 8 → m'.1 k = m.1 k) ∧ ((!decide (nf = 7) && (rgi x 0 3 && (rgi y 0 (zone r c).toInt && (rgi z 0 (zone r c).toInt && (rgi u 0 99 && (rgi v 0 60 && true)))))) = true → m'.1 K 0 = m.1 K 0 ∧ m'.1 K 1 = m.1 K 1 ∧ m'.1 K 2 = m.1 K 2 ∧ m'.1 K 3 = nI (nf + 1) ∧ m'.1 (K + 4) = upd (m.1 (K + 4)) nf x ∧ m'.1 (K + 5) = upd (m.1 (K + 5)) nf y ∧ m'.1 (K + 6) = upd (m.1 (K + 6)) nf z ∧ m'.1 (K + 7) = upd (m.1 (K + 7)) nf u ∧ m'.1 (K + 8) = upd (m.1 (K + 8)) nf v) := by
  have bad : ∀ b : Bool, b = false → ∃ m', some ((0 : Int32), m) = some (b2i b, m') ∧ (∀ k, k ≠ K → k ≠ K + 4 → k ≠ K + 5 → k ≠ K + 6 → k ≠ K + 7 → k ≠ K + 8 → m'.1 k = m.1 k) ∧ (b = true → m'.1 K 0 = m.1 K 0 ∧ m'.1 K 1 = m.1 K 1 ∧ m'.1 K 2 = m.1 K 2 ∧ m'.1 K 3 = nI (nf + 1) ∧ m'.1 (K + 4) = upd (m.1 (K + 4)) nf x ∧ m'.1 (K + 5) = upd (m.1 (K + 5)) nf y ∧ m'.1 (K + 6) = upd (m.1 (K + 6)) nf z ∧ m'.1 (K + 7) = upd (m.1 (K + 7)) nf u ∧ m'.1 (K + 8) = upd (m.1 (K + 8)) nf v) := fun b hb => ⟨m, by rw [hb]; rfl, fun _ _ _ _ _ _ _ => rfl, fun q => by rw [hb] at q; cases q⟩
  have j53 : J_X0_addFare_53 K 0 m = some (0, m) := by unfold J_X0_addFare_53; rw [if_pos rfl]
  unfold f_X0_addFare J_X0_addFare_52
  rw [hc.2.2.2]
  by_cases h7 : nf = 7
  · rw [if_pos (by rw [h7]; decide)]
    exact bad _ (by rw [decide_eq_true h7]; rfl)
  · rw [if_neg (show ¬ (7 : Int32) ≤ nI nf from nI_ge (b := 7) (by omega) (by omega)), if_pos (Int32.le_refl _), x_within, fl_bd_s, show (0 : Int32).toInt = 0 from rfl, show (3 : Int32).toInt = 3 from rfl, h0, h1]
    cases hx : rgi x 0 3 with
    | false => rw [if_pos (show b2i false = 0 from rfl), j53]; exact bad _ (by simp)
    | true =>
      rw [if_neg (show ¬ b2i true = 0 by decide), x_place hc.1 hc.2.1, fl_bd_s]
      cases hy : rgi y 0 (zone r c).toInt with
      | false => rw [if_pos (show b2i false = 0 from rfl), j53]; exact bad _ (by simp)
      | true =>
        rw [if_neg (show ¬ b2i true = 0 by decide), h2, x_place hc.1 hc.2.1, fl_bd_s]
        cases hz : rgi z 0 (zone r c).toInt with
        | false => rw [if_pos (show b2i false = 0 from rfl), j53]; exact bad _ (by simp)
        | true =>
          rw [if_neg (show ¬ b2i true = 0 by decide)]
          unfold J_X0_addFare_53
          rw [if_neg (show ¬ (1 : Int32) = 0 by decide), x_within, fl_bd_s, show (0 : Int32).toInt = 0 from rfl, show (99 : Int32).toInt = 99 from rfl, h3]
          cases hu : rgi u 0 99 with
          | false => rw [if_pos (show b2i false = 0 from rfl)]; exact bad _ (by simp)
          | true =>
            rw [if_neg (show ¬ b2i true = 0 by decide), x_within, fl_bd_s, show (0 : Int32).toInt = 0 from rfl, show (60 : Int32).toInt = 60 from rfl, h4]
            cases hv : rgi v 0 60 with
            | false => rw [if_pos (show b2i false = 0 from rfl)]; exact bad _ (by simp)
            | true =>
              rw [if_neg (show ¬ b2i true = 0 by decide), decide_eq_false h7]
              simp only [fl_lm, mI_ne K (show K ≠ K + 4 by omega), mI_ne K (show K ≠ K + 5 by omega), mI_ne K (show K ≠ K + 6 by omega), mI_ne K (show K ≠ K + 7 by omega), mI_ne K (show K ≠ K + 8 by omega), mI_ne 3 (show 3 ≠ K + 4 by omega), mI_ne 3 (show 3 ≠ K + 5 by omega), mI_ne 3 (show 3 ≠ K + 6 by omega), mI_ne 3 (show 3 ≠ K + 7 by omega)]
              rw [hc.2.2.2, fl_ck_t (i_ckz (by omega) (by omega)), fl_ck_t (i_ckz (by omega) (by omega)), fl_ck_t (i_ckz (by omega) (by omega)), fl_ck_t (i_ckz (by omega) (by omega)), fl_ck_t (i_ckz (by omega) (by omega)), i_c (by omega), h0, h1, h2, h3, h4, nI_1]
              have oK : ∀ j, j ≠ 3 → (mI (mI (mI (mI (mI (mI m (K + 4) nf x) (K + 5) nf y) (K + 6) nf z) (K + 7) nf u) (K + 8) nf v) K 3 (nI (nf + 1))).1 K j = m.1 K j := fun j hj => by rw [mI_j hj, mI_ne K (by omega), mI_ne K (by omega), mI_ne K (by omega), mI_ne K (by omega), mI_ne K (by omega)]
              refine ⟨_, rfl, fun k q0 q4 q5 q6 q7 q8 => by rw [mI_ne k q0, mI_ne k q8, mI_ne k q7, mI_ne k q6, mI_ne k q5, mI_ne k q4], fun _ => ⟨oK 0 (by omega), oK 1 (by omega), oK 2 (by omega), mI_s, ?_, ?_, ?_, ?_, ?_⟩⟩
              · rw [mI_ne _ (by omega), mI_ne _ (by omega), mI_ne _ (by omega), mI_ne _ (by omega), mI_ne _ (by omega), mI_eq]
              · rw [mI_ne _ (by omega), mI_ne _ (by omega), mI_ne _ (by omega), mI_ne _ (by omega), mI_eq, mI_ne _ (by omega)]
              · rw [mI_ne _ (by omega), mI_ne _ (by omega), mI_ne _ (by omega), mI_eq, mI_ne _ (by omega), mI_ne _ (by omega)]
              · rw [mI_ne _ (by omega), mI_ne _ (by omega), mI_eq, mI_ne _ (by omega), mI_ne _ (by omega), mI_ne _ (by omega)]
              · rw [mI_ne _ (by omega), mI_eq, mI_ne _ (by omega), mI_ne _ (by omega), mI_ne _ (by omega), mI_ne _ (by omega)]
