/-! ===== a day lived, and the round ===== -/
theorem x_dawn {N : Nat} {m : Mem} (hN : 14 ≤ N) : Ok (f_X5_dawn N 45 m) (fun _ m' => eqOff m m' (fun k => k = 45 ∨ k = 47 ∨ k = 49 ∨ k = 50) ∧ m'.1 45 0 = 0 ∧ ∀ c, c < 3 → m'.1 47 c = 0) := by
  have l2 : ∀ (k n j : Nat) (m1 : Mem), j + k = 7 → k < n → eqOff m m1 (fun k => k = 45 ∨ k = 47 ∨ k = 49 ∨ k = 50) → m1.1 45 0 = 0 → (∀ c, c < 3 → m1.1 47 c = 0) → Ok (l_X5_dawn N 45 n 2 (nI j) m1) (fun _ m' => eqOff m m' (fun k => k = 45 ∨ k = 47 ∨ k = 49 ∨ k = 50) ∧ m'.1 45 0 = 0 ∧ ∀ c, c < 3 → m'.1 47 c = 0) := by
    intro k
    induction k with
    | zero =>
      intro n j m1 hj hn he h0 h1
      obtain ⟨n, rfl⟩ : ∃ q, n = q + 1 := ⟨n - 1, by omega⟩
      show Ok (B_X5_dawn_27 N 45 (l_X5_dawn N 45 n) (nI j) m1) _
      unfold B_X5_dawn_27
      exact ok_t (show (7 : Int32) ≤ nI j from nI_le (a := 7) (by omega) (by omega)) (ok_ret ⟨he, h0, h1⟩)
    | succ k ih =>
      intro n j m1 hj hn he h0 h1
      obtain ⟨n, rfl⟩ : ∃ q, n = q + 1 := ⟨n - 1, by omega⟩
      show Ok (B_X5_dawn_27 N 45 (l_X5_dawn N 45 n) (nI j) m1) _
      unfold B_X5_dawn_27
      rw [i_c (by omega), nI_1 j]
      refine ok_f (show ¬ (7 : Int32) ≤ nI j from nI_ge (b := 7) (by omega) (by omega)) (ok_ck (i_ckz (by omega) (by omega)) (ok_lm (fun m2 e2 => ok_ck (i_ckz (by omega) (by omega)) (ok_lm (fun m3 e3 => ih n (j + 1) m3 (by omega) (by omega) ?_ ?_ (fun c hc => ?_))))))
      · exact ⟨by rw [e3, mI_2, e2, mI_2]; exact he.1, fun k hk => by rw [e3, mI_ne k (by omega), e2, mI_ne k (by omega)]; exact he.2 k hk⟩
      · rw [e3, mI_ne 45 (by omega), e2, mI_ne 45 (by omega)]; exact h0
      · rw [e3, mI_ne 47 (by omega), e2, mI_ne 47 (by omega)]; exact h1 c hc
  have l1 : ∀ (k n j : Nat) (m1 : Mem), j + k = 3 → k + 9 < n → eqOff m m1 (fun k => k = 45 ∨ k = 47 ∨ k = 49 ∨ k = 50) → m1.1 45 0 = 0 → (∀ c, c < j → m1.1 47 c = 0) → Ok (l_X5_dawn N 45 n 1 (nI j) m1) (fun _ m' => eqOff m m' (fun k => k = 45 ∨ k = 47 ∨ k = 49 ∨ k = 50) ∧ m'.1 45 0 = 0 ∧ ∀ c, c < 3 → m'.1 47 c = 0) := by
    intro k
    induction k with
    | zero =>
      intro n j m1 hj hn he h0 h1
      obtain ⟨n, rfl⟩ : ∃ q, n = q + 1 := ⟨n - 1, by omega⟩
      show Ok (B_X5_dawn_7 N 45 (l_X5_dawn N 45 n) (nI j) m1) _
      unfold B_X5_dawn_7
      exact ok_t (show (3 : Int32) ≤ nI j from nI_le (a := 3) (by omega) (by omega)) (l2 7 n 0 m1 rfl (by omega) he h0 (fun c hc => h1 c (by omega)))
    | succ k ih =>
      intro n j m1 hj hn he h0 h1
      obtain ⟨n, rfl⟩ : ∃ q, n = q + 1 := ⟨n - 1, by omega⟩
      show Ok (B_X5_dawn_7 N 45 (l_X5_dawn N 45 n) (nI j) m1) _
      unfold B_X5_dawn_7
      rw [i_c (by omega), nI_1 j]
      refine ok_f (show ¬ (3 : Int32) ≤ nI j from nI_ge (b := 3) (by omega) (by omega)) (ok_ck (i_ckz (by omega) (by omega)) (ok_lm (fun m2 e2 => ih n (j + 1) m2 (by omega) (by omega) ?_ ?_ (fun c hc => ?_))))
      · exact ⟨by rw [e2, mI_2]; exact he.1, fun k hk => by rw [e2, mI_ne k (by omega)]; exact he.2 k hk⟩
      · rw [e2, mI_ne 45 (by omega)]; exact h0
      · rw [e2, mI_g, if_pos rfl]
        by_cases e : c = j
        · rw [if_pos e]
        · rw [if_neg e]; exact h1 c (by omega)
  unfold f_X5_dawn
  refine ok_lm (fun m1 e1 => l1 3 N 0 m1 rfl (by omega) ?_ ?_ (fun c hc => by omega))
  · rw [e1]; exact eqOff.mI (Or.inl rfl)
  · rw [e1, mI_s]
/-! the reference's dawn -/
theorem l_r2 {N n : Nat} {x1 x2 x3 : Int32} {m : Mem} : l_X9_round N (n + 1) 2 x1 x2 x3 m = B_X9_round_39 N (l_X9_round N n) x1 x2 x3 m := rfl
theorem m_dawn_l {N n : Nat} {x1 x2 : Int32} {m : Mem} (hC : mcOk m) : ∀ (k j : Nat) (m1 : Mem), j + k = cN (mC_ m) → eqOff m m1 (fun k => k = 1) → (∀ j, (j < 19 ∨ 26 ≤ j ∨ (20 ≤ j ∧ j < 23)) → m1.1 1 j = m.1 1 j) → m1.1 1 19 = 0 → (∀ c, c < j → m1.1 1 (23 + c) = 0) →
      ∃ m', l_X9_round N (n + (k + 1)) 2 x1 x2 (nI j) m1 = l_X9_round N n 3 x1 x2 (nI 0) m' ∧ eqOff m m' (fun k => k = 1) ∧ (∀ j, (j < 19 ∨ 26 ≤ j ∨ (20 ≤ j ∧ j < 23)) → m'.1 1 j = m.1 1 j) ∧ m'.1 1 19 = 0 ∧ ∀ c, c < cN (mC_ m) → m'.1 1 (23 + c) = 0 := by
  have n3 := hC.1.2.1
  intro k
  induction k with
  | zero =>
    intro j m1 hj he ho h0 hl
    have em : l_X9_round N (n + (0 + 1)) 2 x1 x2 (nI j) m1 = B_X9_round_39 N (l_X9_round N n) x1 x2 (nI j) m1 := l_r2
    have e2 : B_X9_round_39 N (l_X9_round N n) x1 x2 (nI j) m1 = l_X9_round N n 3 x1 x2 (nI 0) m1 := by
      unfold B_X9_round_39
      rw [he.2 0 (by omega), mc_n hC, if_pos (nI_le (by omega) (by omega)), show (0 : Int32) = nI 0 from rfl]
    exact ⟨m1, em.trans e2, he, ho, h0, fun c hc => hl c (by omega)⟩
  | succ k ih =>
    intro j m1 hj he ho h0 hl
    have hcl : ∀ c, c < j + 1 → (mI m1 1 (23 + j) 0).1 1 (23 + c) = 0 := fun c hc => by
      rw [mI_g, if_pos rfl]
      by_cases e : c = j
      · rw [if_pos (by omega)]
      · rw [if_neg (by omega)]; exact hl c (by omega)
    obtain ⟨m', q1, q2⟩ := ih (j + 1) (mI m1 1 (23 + j) 0) (by omega) ⟨he.1, fun k hk => by rw [mI_ne k hk]; exact he.2 k hk⟩ (fun q hq => by rw [mI_j (by omega)]; exact ho q hq) (by rw [mI_j (by omega)]; exact h0) hcl
    refine ⟨m', Eq.trans ?_ q1, q2⟩
    have em : l_X9_round N (n + (k + 1 + 1)) 2 x1 x2 (nI j) m1 = B_X9_round_39 N (l_X9_round N (n + (k + 1))) x1 x2 (nI j) m1 := by rw [show n + (k + 1 + 1) = (n + (k + 1)) + 1 by omega]; exact l_r2
    rw [em]
    unfold B_X9_round_39
    rw [he.2 0 (by omega), mc_n hC, if_neg (nI_ge (by omega) (by omega)), show (23 : Int32) + nI j = nI (23 + j) from nI_add 23 j, fl_ck_t (i_ckz (by omega) (by omega)), i_c (by omega), nI_1 j]
    rfl
theorem m_dawn {N n : Nat} {x1 x2 : Int32} {m : Mem} (hC : mcOk m) : ∃ m', l_X9_round N (n + (cN (mC_ m) + 1)) 2 x1 x2 (nI 0) (mI m 1 19 0) = l_X9_round N n 3 x1 x2 (nI 0) m' ∧ eqOff m m' (fun k => k = 1) ∧ (∀ j, (j < 19 ∨ 26 ≤ j ∨ (20 ≤ j ∧ j < 23)) → m'.1 1 j = m.1 1 j) ∧ m'.1 1 19 = 0 ∧ ∀ c, c < cN (mC_ m) → m'.1 1 (23 + c) = 0 :=
  m_dawn_l hC (cN (mC_ m)) 0 (mI m 1 19 0) (Nat.zero_add _) (eqOff.mI rfl) (fun j hj => mI_j (by omega)) mI_s (fun c hc => absurd hc (Nat.not_lt_zero c))
def Stl (n : Nat) (p0 w0 : Nat → Int32) (mx : Mem) : Prop := ∀ x, n ≤ x → x < 3 → mx.1 46 x = p0 x ∧ mx.1 48 x = w0 x
/-- both live through the fares -/
theorem live_l {N : Nat} {mx0 mm0 : Mem} {p0 w0 : Nat → Int32} {x1 x2 : Int32} (hN : 4 ≤ N) (hok : okC (mC_ mm0)) :
    ∀ (k n n' j : Nat) (mx mm : Mem), j + k = cM (mC_ mm0) → k < n → Td mx0 mm0 mx mm (99 + 123 * j) → Stl (cN (mC_ mm0)) p0 w0 mx →
      ∃ mx' mm', l_X8_liveOneDay N n (nI j) mx = some (0, mx') ∧ l_X9_round N (n' + (k + 1)) 3 x1 x2 (nI j) mm = fl_bd (f_X9_laysDay N x2 mm') (fun r19 m20 => l_X9_round N n' 4 x1 x2 (0 : Int32) m20) ∧ Td mx0 mm0 mx' mm' (99 + 123 * cM (mC_ mm0)) ∧ Stl (cN (mC_ mm0)) p0 w0 mx' ∧ mx'.2 = mx.2 ∧ mm'.1 17 = mm.1 17 := by
  have n7 := hok.2.2.1
  intro k
  induction k with
  | zero =>
    intro n n' j mx mm hj hn h hs
    obtain ⟨n, rfl⟩ : ∃ q, n = q + 1 := ⟨n - 1, by omega⟩
    refine ⟨mx, mm, ?_, ?_, h.wk (by omega), hs, rfl, rfl⟩
    · show B_X8_liveOneDay_9 N (l_X8_liveOneDay N n) (nI j) mx = _
      unfold B_X8_liveOneDay_9
      rw [xc_m h.rc.2.1, h.cx, if_pos (nI_le (by omega) (by omega))]
    · show B_X9_round_65 N (l_X9_round N n') x1 x2 (nI j) mm = _
      unfold B_X9_round_65
      rw [mc_m h.rc.2.2.1, h.C, if_pos (nI_le (by omega) (by omega))]
  | succ k ih =>
    intro n n' j mx mm hj hn h hs
    obtain ⟨n, rfl⟩ : ∃ q, n = q + 1 := ⟨n - 1, by omega⟩
    obtain ⟨c, b, mx1, mm1, hc, e1, e2, e3, ht, hx, hm⟩ := td_soon hN h (by omega) (show j < cM (mC_ mm0) by omega)
    have ex : l_X8_liveOneDay N (n + 1) (nI j) mx = B_X8_liveOneDay_9 N (l_X8_liveOneDay N n) (nI j) mx := rfl
    have em : l_X9_round N (n' + (k + 1 + 1)) 3 x1 x2 (nI j) mm = B_X9_round_65 N (l_X9_round N (n' + (k + 1))) x1 x2 (nI j) mm := rfl
    rw [ex, em]
    unfold B_X8_liveOneDay_9 B_X9_round_65
    rw [xc_m h.rc.2.1, h.cx, if_neg (nI_ge (by omega) (by omega)), mc_m h.rc.2.2.1, h.C, if_neg (nI_ge (by omega) (by omega)), e1, fl_bd_s, show f_X9_soonestIn N 19 (nI j) mm = _ from e2, fl_bd_s, e3, fl_bd_s, nI_1 j]
    obtain ⟨mx2, mm2, g1, g2, g3, g4, g5, g6⟩ := ih n n' (j + 1) mx1 mm1 (by omega) (by omega) (ht.wk (by omega)) (fun x a b' => by
      rw [hx.2.1, hx.2.2.2.1, upd_n (by omega), upd_n (by omega)]
      exact hs x a b')
    exact ⟨mx2, mm2, g1, g2, g3, g4, g5.trans hx.1.1, g6.trans (hm.1.2 17 (by omega))⟩
theorem Td.v {mx0 mm0 mx mm : Mem} {B : Int} (h : Td mx0 mm0 mx mm B) : vOk (mx.1 46) (mx.1 48) := fun x hx => ⟨(h.B.2 x hx).1, (h.B.2 x hx).2.2⟩
theorem Td.at {mx0 mm0 mx mm : Mem} {B : Int} (h : Td mx0 mm0 mx mm B) {x : Nat} (hx : x < cN (mC_ mm0)) : mx.1 46 x = mm.1 1 (20 + x) ∧ mx.1 48 x = mm.1 1 (26 + x) := by
  have hP := h.2.2.1
  constructor
  · have := congrFun (congrArg (fun P : Ps => P.2.1) hP) x
    exact (rs_lt (g := mx.1 46) hx).symm.trans (this.trans (rs_lt (g := fun c => mm.1 1 (19 + 1 + c)) hx))
  · have := congrFun (congrArg (fun P : Ps => P.2.2.2) hP) x
    exact (rs_lt (g := mx.1 48) hx).symm.trans (this.trans (rs_lt (g := fun c => mm.1 1 (19 + 7 + c)) hx))
/-- a day laid down on both sides -/
theorem lay_both {N d : Nat} {mx0 mm0 mx mm : Mem} {B : Int} {p0 w0 : Nat → Int32} (hN : 8 ≤ N) (hd : d < 41) (h : Td mx0 mm0 mx mm B) (hs : Stl (cN (mC_ mm0)) p0 w0 mx) (hD : ∀ t, t < d → Dy (cN (mC_ mm0)) p0 w0 mx mm t) :
    ∃ K mm', f_X5_cabsAsNumber N 45 mx = some (K, mx) ∧ f_X9_laysDay N (nI d) mm = some (0, mm') ∧ Td mx0 mm0 (mL mx d K) mm' B ∧ Stl (cN (mC_ mm0)) p0 w0 (mL mx d K) ∧ ∀ t, t ≤ d → Dy (cN (mC_ mm0)) p0 w0 (mL mx d K) mm' t := by
  obtain ⟨K, eK, hK⟩ := x_key (N := N) (by omega) h.v
  obtain ⟨r, mm', em, he, ho, hl⟩ := m_lays (N := N) (by omega) hd h.rc.2.2.1
  have er : r = 0 := by
    have hz : ∀ n j (m1 m2 : Mem) r, l_X9_laysDay N n (nI d) j m1 = some (r, m2) → r = 0 := by
      intro n
      induction n with
      | zero => intro j m1 m2 r q; exact absurd q (by intro q; cases q)
      | succ n ih =>
        intro j m1 m2 r q
        have q : B_X9_laysDay_2 N (l_X9_laysDay N n) (nI d) j m1 = some (r, m2) := q
        unfold B_X9_laysDay_2 J_X9_laysDay_38 fl_ck at q
        simp only [fl_lm] at q
        split at q
        · injection q with q; injection q with q _; exact q.symm
        · split at q <;> (repeat' (split at q)) <;> first | exact ih _ _ _ _ q | (cases q)
    exact hz N 0 mm mm' r em
  subst er
  have ht : Td mx0 mm0 (mL mx d K) mm' B := by
    obtain ⟨rc, hc, hP, hB', kx, km, km1⟩ := h
    refine ⟨(rc.cong (fun _ _ _ => rfl) (fun k a _ b => he.2 k (by omega)) (by rw [he.2 0 (by omega)]) (by rw [he.2 0 (by omega)]) (by rw [he.2 0 (by omega)]) (by rw [he.2 0 (by omega)])).1, (mC_cong (fun k _ a => he.2 k (by omega))).trans hc, ?_, hB', kx, fun k a b => by rw [he.2 k b]; exact km k a b, fun j hj => by rw [he.2 1 (by omega)]; exact km1 j hj⟩
    have : mP (cN (mC_ mm0)) mm' 19 = mP (cN (mC_ mm0)) mm 19 := by unfold mP; rw [he.2 1 (by omega)]
    rw [this]
    exact hP
  refine ⟨K, mm', eK, em, ht, hs, fun t htd => ?_⟩
  by_cases e : t = d
  · subst e
    refine ⟨mx.1 46, mx.1 48, h.v, ?_, fun x hx => ?_, hs⟩
    · have : (mL mx t K).2 t = K := by simp [mL, vp_updL]
      rw [this]; exact hK
    · obtain ⟨g1, g2⟩ := hl x hx
      rw [g1, g2, h.C]
      by_cases hc : x < cN (mC_ mm0)
      · rw [if_pos hc, if_pos hc, if_pos hc, if_pos hc, (h.at hc).1, (h.at hc).2]; exact ⟨rfl, rfl⟩
      · rw [if_neg hc, if_neg hc, if_neg hc, if_neg hc]; exact ⟨rfl, rfl⟩
  · obtain ⟨p, w, a1, a2, a3, a4⟩ := hD t (by omega)
    refine ⟨p, w, a1, ?_, fun x hx => ?_, a4⟩
    · have : (mL mx d K).2 t = mx.2 t := by simp [mL, vp_updL, e]
      rw [this]; exact a2
    · rw [ho _ (by omega), ho _ (by omega)]; exact a3 x hx
theorem round_l {i N : Nat} {mx0 mm0 : Mem} {p0 w0 : Nat → Int32} {x1 : Int32} (hN : 100 ≤ N) (hr : Rl i mx0 mm0) :
    ∀ (k n n' d : Nat) (mx mm : Mem), d + k = 41 → k < n → 60 * k < n' → Td mx0 mm0 mx mm 13000 → Stl (cN (mC_ mm0)) p0 w0 mx → (∀ t, t < d → Dy (cN (mC_ mm0)) p0 w0 mx mm t) → Sim (i + 1) (l_X8_round N n x1 (nI d) mx) (l_X9_round N n' 1 x1 (nI d) 0 mm) := by
  obtain ⟨rc0, -⟩ := id hr
  have hok := rc0.ok
  have n3 := hok.2.1
  have n7 := hok.2.2.1
  intro k
  induction k with
  | zero =>
    intro n n' d mx mm hj hn hn' h hs hD
    obtain ⟨n, rfl⟩ : ∃ q, n = q + 1 := ⟨n - 1, by omega⟩
    obtain ⟨n', rfl⟩ : ∃ q, n' = q + 1 := ⟨n' - 1, by omega⟩
    have : d = 41 := by omega
    subst this
    show Sim (i + 1) (B_X8_round_37 N (l_X8_round N n) x1 (nI 41) mx) (B_X9_round_23 N (l_X9_round N n') x1 (nI 41) mm)
    unfold B_X8_round_37 B_X9_round_23
    rw [if_pos (by decide), if_pos (by decide)]
    exact sim_endd hr h rfl
  | succ k ih =>
    intro n n' d mx mm hj hn hn' h hs hD
    obtain ⟨n, rfl⟩ : ∃ q, n = q + 1 := ⟨n - 1, by omega⟩
    obtain ⟨w, hw, rfl⟩ : ∃ w, 60 * k < w ∧ n' = (w + (d + 1)) + (cM (mC_ mm0) + 1) + (cN (mC_ mm0) + 1) + 1 := ⟨n' - (d + 1) - (cM (mC_ mm0) + 1) - (cN (mC_ mm0) + 1) - 1, by omega, by omega⟩
    show Sim (i + 1) (B_X8_round_37 N (l_X8_round N n) x1 (nI d) mx) (B_X9_round_23 N (l_X9_round N ((w + (d + 1)) + (cM (mC_ mm0) + 1) + (cN (mC_ mm0) + 1))) x1 (nI d) mm)
    unfold B_X8_round_37 B_X9_round_23 f_X8_liveOneDay
    rw [if_neg (show ¬ (40 : Int32) < nI d from nI_nlt (a := 40) (by omega) (by omega)), if_neg (show ¬ (40 : Int32) < nI d from nI_nlt (a := 40) (by omega) (by omega))]
    obtain ⟨mm1, em1, hm1, hmo, hm0, hmc⟩ := m_dawn (N := N) (n := w + (d + 1) + (cM (mC_ mm0) + 1)) (x1 := x1) (x2 := nI d) h.rc.2.2.1
    rw [h.C] at em1 hmc
    obtain ⟨rx, mx1, ex1, hx1, hx0, hxc⟩ := x_dawn (N := N) (m := mx) (by omega)
    have ht1 : Td mx0 mm0 mx1 mm1 (99 + 123 * (0 : Nat)) := by
      have hBx := h.B
      obtain ⟨rc, hc, hP, hB', kx, km, km1⟩ := h
      have hP1 := congrArg (fun P : Ps => P.2.1) hP
      have hP3 := congrArg (fun P : Ps => P.2.2.2) hP
      refine ⟨(rc.cong (fun k _ _ => hx1.2 k (by omega)) (fun k a _ _ => hm1.2 k a) (by rw [hm1.2 0 (by omega)]) (by rw [hm1.2 0 (by omega)]) (by rw [hm1.2 0 (by omega)]) (by rw [hm1.2 0 (by omega)])).1, (mC_cong (fun k a _ => hm1.2 k a)).trans hc, ?_, ⟨?_, fun q hq => ?_⟩, fun k a b => ?_, fun k a b => ?_, fun j hj => ?_⟩
      · unfold xP mP
        rw [hx0, hm0, hx1.2 46 (by omega), hx1.2 48 (by omega)]
        rw [rs_cong (n := cN (mC_ mm0)) (g := mx1.1 47) (g' := fun c => mm1.1 1 (19 + 4 + c)) (fun c hc => by rw [hxc c (by omega), hmc c hc])]
        rw [rs_cong (n := cN (mC_ mm0)) (g := fun c => mm1.1 1 (19 + 1 + c)) (g' := fun c => mm.1 1 (19 + 1 + c)) (fun c hc => hmo _ (by omega))]
        rw [rs_cong (n := cN (mC_ mm0)) (g := fun c => mm1.1 1 (19 + 7 + c)) (g' := fun c => mm.1 1 (19 + 7 + c)) (fun c hc => hmo _ (by omega))]
        have hz : ∀ {a b a' b' q : Nat → Int32}, a = a' → b = b' → ((0 : Int32), a, q, b) = (0, a', q, b') := fun e1 e2 => by rw [e1, e2]
        exact hz hP1 hP3
      · rw [hx0]; decide
      · rw [hxc q hq, hx1.2 46 (by omega), hx1.2 48 (by omega)]
        exact ⟨(hBx.2 q hq).1, by decide, (hBx.2 q hq).2.2⟩
      · rw [hx1.2 k (by omega)]; exact kx k a b
      · rw [hm1.2 k a]; exact km k a b
      · rw [hmo j (by omega)]; exact km1 j hj
    have hs1 : Stl (cN (mC_ mm0)) p0 w0 mx1 := fun x a b => by
      rw [hx1.2 46 (by omega), hx1.2 48 (by omega)]; exact hs x a b
    obtain ⟨mx2, mm2, ex2, em2, ht2, hs2, hx22, hm217⟩ := live_l (N := N) (p0 := p0) (w0 := w0) (x1 := x1) (x2 := nI d) (by omega) hok (cM (mC_ mm0)) N (w + (d + 1)) 0 mx1 mm1 (by omega) (by omega) ht1 hs1
    have hD2 : ∀ t, t < d → Dy (cN (mC_ mm0)) p0 w0 mx2 mm2 t := fun t htd => by
      obtain ⟨p, w, a1, a2, a3, a4⟩ := hD t htd
      refine ⟨p, w, a1, by rw [hx22, hx1.1]; exact a2, fun x hx => ?_, a4⟩
      rw [hm217, hm1.2 17 (by omega)]; exact a3 x hx
    obtain ⟨K, mm3, eK, em3, ht3, hs3, hD3⟩ := lay_both (N := N) (d := d) (by omega) (by omega) ht2 hs2 hD2
    obtain ⟨v, hv, ev, hor⟩ := day_like (N := N) (x1 := x1) (by omega) (by omega) hD3 d N w 0 (by omega) (by omega)
    simp only [fl_lm]
    rw [ex1, fl_bd_s, show l_X8_liveOneDay N N 0 mx1 = _ from ex2, fl_bd_s, eK, fl_bd_s, fl_ck_t (i_ckz (by omega) (by omega)), i_c (by omega), show f_X8_dayLike N (nI d) (mL mx2 d K) = _ from ev, fl_bd_s, show l_X9_round N (w + (d + 1) + (cM (mC_ mm0) + 1) + (cN (mC_ mm0) + 1)) 2 x1 (nI d) 0 (mI mm 1 19 0) = _ from em1, em2, em3, fl_bd_s]
    rcases hor with ⟨e, g⟩ | ⟨e, g⟩
    · subst e
      rw [if_pos (Int32.le_refl _), nI_1 v, show l_X9_round N (w + (v + 1)) 4 x1 (nI v) 0 mm3 = _ from g]
      exact ih n w (v + 1) _ _ (by omega) (by omega) hw (ht3.wk (by omega)) hs3 (fun t htd => hD3 t (by omega))
    · rw [if_neg (nI_ge e (by omega)), show l_X9_round N (w + (d + 1)) 4 x1 (nI d) 0 mm3 = _ from g]
      exact sim_if (fun _ => sim_endd hr ht3 rfl) (fun _ => sim_endd hr ht3 rfl)
theorem sim_round {i N : Nat} {mx mm : Mem} (hN : 3000 ≤ N) (hi : i ≤ 64) (h : Rl i mx mm) (w : Int32) : Sim (i + 1) (f_X8_round N w mx) (f_X9_round N w mm) := by
  unfold f_X8_round f_X9_round
  refine sim_rngq h w rfl rfl (fun w1 w2 => ?_)
  obtain ⟨mx1, mm1, ex, em, ht, -, -, -⟩ := tr_start (N := N) (by omega) h
  have ht' : Td mx mm mx1 mm1 13000 := ⟨ht.1, ht.2.1, ht.2.2.1, ht.B.wk (by unfold tb; omega), ht.2.2.2.2.2.1, fun k a _ => ht.2.2.2.2.2.2.1 k a, ht.2.2.2.2.2.2.2⟩
  obtain ⟨K, mm3, eK, em3, ht3, hs3, hD3⟩ := lay_both (N := N) (d := 0) (p0 := mx1.1 46) (w0 := mx1.1 48) (by omega) (by omega) ht' (fun _ _ _ => ⟨rfl, rfl⟩) (fun t ht => by omega)
  simp only [fl_lm]
  rw [ex, fl_bd_s, eK, fl_bd_s, em, fl_bd_s, show f_X9_laysDay N 0 mm1 = _ from em3, fl_bd_s]
  exact round_l (by omega) h 40 N N 1 _ _ rfl (by omega) (by omega) ht3 hs3 (fun t htd => hD3 t (by omega))
