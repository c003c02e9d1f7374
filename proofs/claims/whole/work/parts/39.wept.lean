/-! ===== what was seen: where one wept, what kind a cab is ===== -/
theorem m_seen0 {N n : Nat} {x : Int32} {mm : Mem} (hs : mm.1 0 13 = nI n) (hn : n ≤ 6) : ∀ (k q j : Nat), j + k = n → k < q → l_X9_isSeen N q x 0 (nI j) mm = some (0, mm) := by
  intro k
  induction k with
  | zero =>
    intro q j hj hq
    obtain ⟨q, rfl⟩ : ∃ n', q = n' + 1 := ⟨q - 1, by omega⟩
    show B_X9_isSeen_4 N (l_X9_isSeen N q) x 0 (nI j) mm = _
    unfold B_X9_isSeen_4
    rw [hs, if_pos (nI_le (by omega) (by omega)), fl_ck_t (Or.inl rfl)]
  | succ k ih =>
    intro q j hj hq
    obtain ⟨q, rfl⟩ : ∃ n', q = n' + 1 := ⟨q - 1, by omega⟩
    show B_X9_isSeen_4 N (l_X9_isSeen N q) x 0 (nI j) mm = _
    unfold B_X9_isSeen_4
    rw [hs, if_neg (nI_ge (by omega) (by omega)), if_pos rfl, nI_1 j]
    exact ih q (j + 1) (by omega) (by omega)
/-- what a cab with that kind and that pair would be free by -/
def g_at (mx : Mem) (c f : Nat) (kind wept : Int32) : Int32 := g_free (mx.1 4 1) (mx.1 39 0) (mx.1 41 c) (mx.1 11 f) (mx.1 40 c) (mx.1 9 f) (mx.1 10 f) kind wept
theorem fits_l {N n c : Nat} {mx mm : Mem} {kind wept : Int32} {B : Int} (hxC : xcOk mx) (hmC : mcOk mm) (hP : okP (mC_ mm) (mPm mm 19) B) (hcc : c < cN (mC_ mm)) (hcM : cM (xC mx) = cM (mC_ mm)) (hw : nowh wept) (hn : n ≤ 6) (h1 : mx.1 28 3 = nI n) (h2 : mm.1 0 13 = nI n)
    (hs : ∀ j, j < n → mx.1 29 j = mm.1 8 j ∧ mx.1 30 j = mm.1 9 j ∧ mx.1 31 j = mm.1 10 j ∧ (∃ c, c < cN (mC_ mm) ∧ mm.1 8 j = nI c) ∧ (∃ f, f < cM (mC_ mm) ∧ mm.1 9 j = nI f)) (hE : ∀ f, f < cM (mC_ mm) → g_at mx c f kind wept = a_free (mC_ mm) (mPm mm 19) c f) :
    ∀ (k q q' j : Nat) (mx1 : Mem), j + k = n → k < q → k < q' → eqOff mx mx1 trp → ∃ b mx2, l_X8_fitsSeen N q (nI c) kind wept (nI j) mx1 = some (b2i b, mx2) ∧ eqOff mx mx2 trp ∧ l_X9_isSeen N q' (nI c) 1 (nI j) mm = some (b2i b, mm) := by
  have n3 := hmC.1.2.1
  have n7 := hmC.1.2.2.1
  intro k
  induction k with
  | zero =>
    intro q q' j mx1 hj hq hq' he
    obtain ⟨q, rfl⟩ : ∃ n', q = n' + 1 := ⟨q - 1, by omega⟩
    obtain ⟨q', rfl⟩ : ∃ n', q' = n' + 1 := ⟨q' - 1, by omega⟩
    refine ⟨true, mx1, ?_, he, ?_⟩
    · show B_X8_fitsSeen_3 N (l_X8_fitsSeen N q) (nI c) kind wept (nI j) mx1 = _
      unfold B_X8_fitsSeen_3
      rw [he.2 28 (by unfold trp; omega), h1, if_pos (nI_le (by omega) (by omega))]
      rfl
    · show B_X9_isSeen_4 N (l_X9_isSeen N q') (nI c) 1 (nI j) mm = _
      unfold B_X9_isSeen_4
      rw [h2, if_pos (nI_le (by omega) (by omega)), fl_ck_t (Or.inr rfl)]
      rfl
  | succ k ih =>
    intro q q' j mx1 hj hq hq' he
    obtain ⟨q, rfl⟩ : ∃ n', q = n' + 1 := ⟨q - 1, by omega⟩
    obtain ⟨q', rfl⟩ : ∃ n', q' = n' + 1 := ⟨q' - 1, by omega⟩
    obtain ⟨s1, s2, s3, ⟨cj, hcj, ecj⟩, ⟨fj, hfj, efj⟩⟩ := hs j (by omega)
    have ex : l_X8_fitsSeen N (q + 1) (nI c) kind wept (nI j) mx1 = B_X8_fitsSeen_3 N (l_X8_fitsSeen N q) (nI c) kind wept (nI j) mx1 := rfl
    have em : l_X9_isSeen N (q' + 1) (nI c) 1 (nI j) mm = B_X9_isSeen_4 N (l_X9_isSeen N q') (nI c) 1 (nI j) mm := rfl
    have o : ∀ k, k ≠ 13 → mx1.1 k = mx.1 k := fun k hk => he.2 k (by unfold trp; exact hk)
    rw [ex, em]
    unfold B_X8_fitsSeen_3 B_X9_isSeen_4
    rw [o 28 (by omega), h1, if_neg (nI_ge (by omega) (by omega)), h2, if_neg (nI_ge (by omega) (by omega)), if_neg (show ¬ (1 : Int32) = 0 by decide)]
    simp only [fl_ck_t (i_ckz (j := j) (z := 6) (by omega) (by omega))]
    rw [i_c (by omega), o 29 (by omega), o 30 (by omega), s1, s2, ecj, efj, nI_1 j]
    by_cases e : nI cj = nI c
    · rw [if_pos e, if_pos e]
      have hpf : pl (mx.1 9 fj) := by
        have := (hxC.1.2.2.2 fj (by rw [hcM]; exact hfj)).1
        rw [xc_qF (by rw [hcM]; exact hfj)] at this
        exact this
      obtain ⟨r, mx2, er, he2, -, e0, -, -⟩ := x_reckonAs (m := mx1) (S := 39) (c := c) (f := fj) (kind := kind) (wept := wept) (by omega) (by rw [o 4 (by omega)]; exact hxC.1.1) (by omega) (by omega) (by rw [o 9 (by omega)]; exact hpf) hw
      rw [o 4 (by omega), o 39 (by omega), o (39 + 2) (by omega), o 11 (by omega), o (39 + 1) (by omega), o 9 (by omega), o 10 (by omega)] at e0
      have e0' : mx2.1 13 0 = a_free (mC_ mm) (mPm mm 19) c fj := e0.trans (hE fj hfj)
      have h32 : mx2.1 31 j = mm.1 10 j := by rw [he2.2 31 (by unfold trp; omega), o 31 (by omega), s3]
      rw [er, fl_bd_s, e0', h32, show (19 : Int32) = nI 19 from rfl, m_freeBy (r := 19) hmC hP (by omega) hcc hfj, fl_bd_s]
      by_cases g : a_free (mC_ mm) (mPm mm 19) c fj = mm.1 10 j
      · rw [if_pos g, if_pos g]
        exact ih q q' (j + 1) mx2 (by omega) (by omega) (by omega) (he.tr he2)
      · rw [if_neg g, if_neg g]
        exact ⟨false, mx2, rfl, he.tr he2, m_seen0 h2 hn k q' (j + 1) (by omega) (by omega)⟩
    · rw [if_neg e, if_neg e]
      exact ih q q' (j + 1) mx1 (by omega) (by omega) (by omega) he
theorem mp_free {mm : Mem} {r c f : Nat} (hc : c < cN (mC_ mm)) (hf : f < cM (mC_ mm)) : a_free (mC_ mm) (mPm mm r) c f = g_free (mm.1 0 4) (mm.1 1 r) (mm.1 1 (r + 4 + c)) (mm.1 6 f) (mm.1 1 (r + 1 + c)) (mm.1 4 f) (mm.1 5 f) (mm.1 2 c) (mm.1 1 (r + 7 + c)) := by
  unfold a_free
  rw [mp_1 hc, mp_2 hc, mp_3 hc, mc_K hc, mc_qF hf, mc_qT hf, mc_qS hf]
  rfl
/-- the record tried, but for one pair -/
def Ws (mm0 mm : Mem) (c : Nat) (w : Int32) : Prop := (∀ k, k ≠ 1 → mm.1 k = mm0.1 k) ∧ ∀ j, mm.1 1 j = if j = 26 + c then w else if 19 ≤ j ∧ j < 38 then mm0.1 1 (j - 19) else mm0.1 1 j
theorem Ws.tx {mx mm0 mm : Mem} {c : Nat} {w : Int32} (hc : c < 3) (h : Ws mm0 mm c w) : Tx mx mm0 mx mm := ⟨fun _ _ _ => rfl, h.1, fun j hj => by rw [h.2, if_neg (by omega), if_neg (by omega)]⟩
/-- does it fit: one question, both sides -/
theorem fits_q {i N c : Nat} {mx0 mm0 mx mm : Mem} {w : Int32} (hN : 10 ≤ N) (hr : Rl i mx0 mm0) (hcc : c < cN (mC_ mm0)) (hw : nowh w) (he : eqOff mx0 mx trp) (h : Ws mm0 mm c w) :
    ∃ b mx', f_X8_fitsSeen N (nI c) (mx.1 5 c) w mx = some (b2i b, mx') ∧ eqOff mx0 mx' trp ∧ f_X9_isSeen N (nI c) mm = some (b2i b, mm) := by
  obtain ⟨rc, t, f, d, k, n, s1, s2, s3, s4⟩ := id hr
  have eC : mC_ mm = mC_ mm0 := mC_cong (fun k a _ => h.1 k a)
  have n3 := rc.ok.2.1
  have hx : xcOk mx := trp_cOk he rc.2.1
  have hm : mcOk mm := mcOk_cong (fun k a _ => h.1 k a) rc.2.2.1
  have ex : xC mx = mC_ mm0 := (trp_C he).trans rc.1
  have o : ∀ k, k ≠ 13 → mx.1 k = mx0.1 k := fun k hk => he.2 k (by unfold trp; exact hk)
  have cl : ∀ d, d < cN (mC_ mm0) → mm.1 1 (19 + 1 + d) = mx0.1 40 d ∧ mm.1 1 (19 + 4 + d) = mx0.1 41 d ∧ mm.1 1 (19 + 7 + d) = (if d = c then w else mx0.1 42 d) := by
    intro d hd
    refine ⟨?_, ?_, ?_⟩
    · rw [h.2, if_neg (by omega), if_pos (by omega), show 19 + 1 + d - 19 = 0 + 1 + d by omega]; exact (f.p1 hd).symm
    · rw [h.2, if_neg (by omega), if_pos (by omega), show 19 + 4 + d - 19 = 0 + 4 + d by omega]; exact (f.p2 hd).symm
    · rw [h.2]
      by_cases e : d = c
      · subst e; rw [if_pos (by omega), if_pos rfl]
      · rw [if_neg (by omega), if_neg e, if_pos (by omega), show 19 + 7 + d - 19 = 0 + 7 + d by omega]; exact (f.p3 hd).symm
  have c0 : mm.1 1 19 = mx0.1 39 0 := by rw [h.2, if_neg (by omega), if_pos (by omega), show 19 - 19 = 0 from rfl]; exact f.p0.symm
  have hP : okP (mC_ mm) (mPm mm 19) (tb i) := by
    refine ⟨?_, fun d hd => ?_⟩
    · show 0 ≤ (mm.1 1 19).toInt ∧ (mm.1 1 19).toInt ≤ tb i
      rw [c0]; exact f.2.1.1
    · rw [mp_1 hd, mp_2 hd, mp_3 hd]
      rw [eC] at hd
      obtain ⟨e1, e2, e3⟩ := cl d hd
      obtain ⟨g1, g2, g3⟩ := f.2.1.2 d (by omega)
      rw [e1, e2, e3]
      refine ⟨g1, g2, ?_⟩
      split
      · exact hw
      · exact g3
  refine fits_l (N := N) (c := c) hx hm hP (by rw [eC]; exact hcc) (by rw [ex, eC]) hw s1 (by rw [o 28 (by omega)]; exact s2) (by rw [h.1 0 (by omega)]; exact s3) (fun j hj => by rw [o 29 (by omega), o 30 (by omega), o 31 (by omega), h.1 8 (by omega), h.1 9 (by omega), h.1 10 (by omega), eC]; exact s4 j hj) (fun g hg => ?_) n N N 0 mx (by omega) (by omega) (by omega) eqOff.rf |> fun ⟨b, mx2, a1, a2, a3⟩ => ⟨b, mx2, a1, he.tr a2, a3⟩
  rw [mp_free (by rw [eC]; exact hcc) hg]
  rw [eC] at hg
  obtain ⟨e1, e2, e3⟩ := cl c hcc
  unfold g_at
  rw [e1, e2, e3, if_pos rfl, c0, o 4 (by omega), o 39 (by omega), o 41 (by omega), o 11 (by omega), o 40 (by omega), o 9 (by omega), o 10 (by omega), o 5 (by omega), h.1 0 (by omega), h.1 6 (by omega), h.1 4 (by omega), h.1 5 (by omega), h.1 2 (by omega), rc.w, rc.f11 hg, rc.f9 hg, rc.f10 hg, rc.k hcc]
theorem wept_l {i N c : Nat} {mx0 mm0 : Mem} {x2 : Int32} (hN : 10 ≤ N) (hr : Rl i mx0 mm0) (hcc : c < cN (mC_ mm0)) :
    ∀ (p n n' : Nat) (s l w : Int32) (mx mm : Mem), p ≤ nPl (mm0.1 0 3) (mm0.1 0 4) → p < n → p < n' → eqOff mx0 mx trp → Ws mm0 mm c w → Sim (i + 1) (l_X8_wept N n (nI c) x2 s l (nI p - 1) mx) (l_X9_wept N n' (nI c) x2 s l (nI p - 1) mm) := by
  obtain ⟨rc, -⟩ := id hr
  have h36 := rc.np
  have n3 := rc.ok.2.1
  intro p
  induction p with
  | zero =>
    intro n n' s l w mx mm hp hn hn' he h
    obtain ⟨n, rfl⟩ : ∃ q, n = q + 1 := ⟨n - 1, by omega⟩
    obtain ⟨n', rfl⟩ : ∃ q, n' = q + 1 := ⟨n' - 1, by omega⟩
    show Sim (i + 1) (B_X8_wept_72 N (l_X8_wept N n) (nI c) x2 s l (nI 0 - 1) mx) (B_X9_wept_36 N (l_X9_wept N n') (nI c) x2 s l (nI 0 - 1) mm)
    unfold B_X8_wept_72 B_X9_wept_36
    rw [if_pos (show nI 0 - 1 < (0 : Int32) by decide), if_pos (show nI 0 - 1 < (0 : Int32) by decide)]
    have tx : Tx mx0 mm0 mx mm := ⟨fun k a _ => he.2 k a, (h.tx (mx := mx) (by omega)).2.1, (h.tx (mx := mx) (by omega)).2.2⟩
    exact sim_if (fun _ => sim_endx hr tx rfl) (fun _ => sim_endx hr tx rfl)
  | succ p ih =>
    intro n n' s l w mx mm hp hn hn' he h
    obtain ⟨n, rfl⟩ : ∃ q, n = q + 1 := ⟨n - 1, by omega⟩
    obtain ⟨n', rfl⟩ : ∃ q, n' = q + 1 := ⟨n' - 1, by omega⟩
    have hp36 : p < 36 := by have := h36.2.2; omega
    rw [nI_pred]
    show Sim (i + 1) (B_X8_wept_72 N (l_X8_wept N n) (nI c) x2 s l (nI p) mx) (B_X9_wept_36 N (l_X9_wept N n') (nI c) x2 s l (nI p) mm)
    unfold B_X8_wept_72 B_X9_wept_36 J_X9_wept_65 f_X9_places
    have hne : ¬ nI p = nI (nPl (mm0.1 0 3) (mm0.1 0 4)) := fun q => by
      have := nI_inj (by omega) (by have := h36.2.2; omega) q
      omega
    have hlt : ¬ nI p < (0 : Int32) := nI_nlt (b := 0) (by omega) (by omega)
    rw [if_neg hlt, if_neg hlt, fl_bd_s, h.1 0 (by omega), h36.1, if_neg hne, fl_ck_t (i_ckz (by omega) (by omega)), i_c (by omega), show (26 : Int32) + nI c = nI (26 + c) from nI_add 26 c, fl_ck_t (i_ckz (by omega) (by omega)), i_c (by omega)]
    simp only [fl_lm]
    have h' : Ws mm0 (mI mm 1 (26 + c) (nI p)) c (nI p) := ⟨fun k a => by rw [mI_ne k a]; exact h.1 k a, fun j => by
      rw [mI_g, if_pos rfl]
      by_cases e : j = 26 + c
      · rw [if_pos e, if_pos e]
      · rw [if_neg e, if_neg e, h.2, if_neg e]⟩
    have hw : nowh (nI p) := Or.inr ⟨by rw [nI_toInt (by omega)]; omega, by rw [nI_toInt (by omega)]; omega⟩
    obtain ⟨b, mx', e1, e2, e3⟩ := fits_q (c := c) hN hr hcc hw he h'
    refine sim_eq e1 e3 (sim_b (fun hb => ?_) (fun hb => ?_))
    · unfold J_X9_wept_84
      simp only [fl_li]
      rw [hb, if_pos (show b2i false = 0 from rfl), show s + (0 : Int32) = s from Int32.add_zero _, show nI p + (-1 : Int32) = nI p - 1 from (Int32.sub_eq_add_neg _ _).symm]
      exact ih n n' s l (nI p) mx' _ (by omega) (by omega) (by omega) e2 h'
    · unfold J_X9_wept_84 f_X9_places
      simp only [fl_li]
      rw [hb, if_neg (show ¬ b2i true = 0 by decide), fl_bd_s, h'.1 0 (by omega), h36.1, if_neg hne, show nI p + (-1 : Int32) = nI p - 1 from (Int32.sub_eq_add_neg _ _).symm]
      exact ih n n' (s + 1) (nI p) (nI p) mx' _ (by omega) (by omega) (by omega) e2 h'
theorem sim_wept {i N : Nat} {mx mm : Mem} (hN : 50 ≤ N) (h : Rl i mx mm) (a w : Int32) : Sim (i + 1) (f_X8_wept N a w mx) (f_X9_wept N a w mm) := by
  obtain ⟨rc, -⟩ := id h
  have h36 := rc.np
  have n3 := rc.ok.2.1
  unfold f_X8_wept f_X9_wept
  refine sim_cab h a (fun c hcc ea => sim_rngq h w rfl rfl (fun w1 w2 => ?_))
  subst ea
  obtain ⟨_, mm1, _, em, -, -, -, hcm⟩ := tr_start (N := N) (by omega) h
  rw [em, fl_bd_s, fl_ck_t (i_ckz (by omega) (by omega)), i_c (by omega)]
  unfold f_X9_places
  have eC : mm1.1 0 = mm.1 0 := hcm.1.2 0 (by omega)
  obtain ⟨q, rfl⟩ : ∃ q, N = q + 1 := ⟨N - 1, by omega⟩
  have h' : Ws mm (mI mm1 1 (26 + c) (-4)) c (-4) := ⟨fun k a => by rw [mI_ne k a]; exact hcm.1.2 k a, fun j => by
    rw [mI_g, if_pos rfl]
    by_cases e : j = 26 + c
    · rw [if_pos e, if_pos e]
    · rw [if_neg e, if_neg e, hcm.2]
      by_cases g : 19 ≤ j ∧ j < 19 + 19
      · rw [if_pos g, if_pos (by omega), Nat.zero_add]
      · rw [if_neg g, if_neg (by omega)]⟩
  obtain ⟨b, mx', e1, e2, e3⟩ := fits_q (N := q + 1) (c := c) (by omega) h hcc (Or.inl rfl) eqOff.rf h'
  rw [fl_bd_s, eC, h36.1, e1, fl_bd_s]
  show Sim (i + 1) _ (B_X9_wept_36 (q + 1) (l_X9_wept (q + 1) q) (nI c) w 0 (-4) (nI (nPl (mm.1 0 3) (mm.1 0 4))) mm1)
  unfold B_X9_wept_36 J_X9_wept_65 f_X9_places
  have hlt : ¬ nI (nPl (mm.1 0 3) (mm.1 0 4)) < (0 : Int32) := nI_nlt (b := 0) (by omega) (by have := h36.2.2; omega)
  rw [if_neg hlt, fl_bd_s, eC, h36.1, if_pos rfl, show (26 : Int32) + nI c = nI (26 + c) from nI_add 26 c, fl_ck_t (i_ckz (by omega) (by omega)), i_c (by omega)]
  simp only [fl_lm]
  have e3' : f_X9_isSeen (q + 1) (nI c) (mI mm1 1 (26 + c) (-4)) = some (b2i b, mI mm1 1 (26 + c) (-4)) := e3
  rw [e3', fl_bd_s]
  have hpx : f_X0_places 4 mx' = some (nI (nPl (mm.1 0 3) (mm.1 0 4)), mx') := by
    unfold f_X0_places
    rw [e2.2 4 (by unfold trp; omega), rc.2.2.2.2, rc.w, h36.1]
  unfold J_X8_wept_46 J_X8_wept_59 J_X9_wept_84 f_X9_places
  simp only [fl_li]
  simp only [hpx, fl_bd_s, mI_ne 0 (show (0 : Nat) ≠ 1 by omega), eC, h36.1, if_true, show nI (nPl (mm.1 0 3) (mm.1 0 4)) + (-1 : Int32) = nI (nPl (mm.1 0 3) (mm.1 0 4)) - 1 from (Int32.sub_eq_add_neg _ _).symm, Int32.add_zero, Int32.zero_add]
  have hgo := fun s l => wept_l (N := q + 1) (x2 := w) (by omega) h hcc (nPl (mm.1 0 3) (mm.1 0 4)) (q + 1) q s l (-4) mx' (mI mm1 1 (26 + c) (-4)) (Nat.le_refl _) (by have := h36.2.2; omega) (by have := h36.2.2; omega) e2 h'
  cases b with
  | false =>
    simp only [show b2i false = 0 from rfl, if_true, show ¬ ((0 : Int32) = 1) by decide, if_false]
    exact hgo 0 (-4)
  | true =>
    simp only [show b2i true = 1 from rfl, show ¬ ((1 : Int32) = 0) by decide, if_true, if_false]
    exact hgo 1 99
/-! what kind it is -/
def Ks (mm0 mm : Mem) (c : Nat) : Prop := (∀ k, k ≠ 1 → k ≠ 2 → mm.1 k = mm0.1 k) ∧ (∀ j, mm.1 1 j = if 19 ≤ j ∧ j < 38 then mm0.1 1 (j - 19) else mm0.1 1 j) ∧ ∀ d, d ≠ c → mm.1 2 d = mm0.1 2 d
theorem kind_q {i N c : Nat} {mx0 mm0 mx mm : Mem} {x : Int32} (hN : 10 ≤ N) (hr : Rl i mx0 mm0) (hcc : c < cN (mC_ mm0)) (he : eqOff mx0 mx trp) (h : Ks mm0 mm c) (hx2 : mm.1 2 c = x) :
    ∃ b mx', f_X8_fitsSeen N (nI c) x (mx.1 42 c) mx = some (b2i b, mx') ∧ eqOff mx0 mx' trp ∧ f_X9_isSeen N (nI c) mm = some (b2i b, mm) := by
  obtain ⟨rc, t, f, d, k, n, s1, s2, s3, s4⟩ := id hr
  have n3 := rc.ok.2.1
  have hx : xcOk mx := trp_cOk he rc.2.1
  have ex : xC mx = mC_ mm0 := (trp_C he).trans rc.1
  have o : ∀ k, k ≠ 13 → mx.1 k = mx0.1 k := fun k hk => he.2 k (by unfold trp; exact hk)
  have h0 := h.1 0 (by omega) (by omega)
  have eN : cN (mC_ mm) = cN (mC_ mm0) := by show (mm.1 0 5).toNatClampNeg = _; rw [h0]; rfl
  have eM : cM (mC_ mm) = cM (mC_ mm0) := by show (mm.1 0 7).toNatClampNeg = _; rw [h0]; rfl
  have hm : mcOk mm := by
    obtain ⟨⟨a1, a2, a3, a4⟩, a5, a6⟩ := rc.2.2.1
    refine ⟨⟨by show wdt (mm.1 0 4); rw [h0]; exact a1, by rw [eN]; exact a2, by rw [eM]; exact a3, fun g hg => ?_⟩, by rw [h0]; exact a5, by rw [h0]; exact a6⟩
    have hg' := hg
    rw [eM] at hg'
    have := a4 g hg'
    rw [mc_qF hg', mc_qT hg', mc_qS hg', mc_qB hg'] at this
    rw [mc_qF hg, mc_qT hg, mc_qS hg, mc_qB hg, h.1 4 (by omega) (by omega), h.1 5 (by omega) (by omega), h.1 6 (by omega) (by omega), h.1 7 (by omega) (by omega)]
    exact this
  have cl : ∀ d, d < cN (mC_ mm0) → mm.1 1 (19 + 1 + d) = mx0.1 40 d ∧ mm.1 1 (19 + 4 + d) = mx0.1 41 d ∧ mm.1 1 (19 + 7 + d) = mx0.1 42 d := by
    intro d hd
    refine ⟨?_, ?_, ?_⟩
    · rw [h.2.1, if_pos (by omega), show 19 + 1 + d - 19 = 0 + 1 + d by omega]; exact (f.p1 hd).symm
    · rw [h.2.1, if_pos (by omega), show 19 + 4 + d - 19 = 0 + 4 + d by omega]; exact (f.p2 hd).symm
    · rw [h.2.1, if_pos (by omega), show 19 + 7 + d - 19 = 0 + 7 + d by omega]; exact (f.p3 hd).symm
  have c0 : mm.1 1 19 = mx0.1 39 0 := by rw [h.2.1, if_pos (by omega), show 19 - 19 = 0 from rfl]; exact f.p0.symm
  have hP : okP (mC_ mm) (mPm mm 19) (tb i) := by
    refine ⟨?_, fun d hd => ?_⟩
    · show 0 ≤ (mm.1 1 19).toInt ∧ (mm.1 1 19).toInt ≤ tb i
      rw [c0]; exact f.2.1.1
    · rw [mp_1 hd, mp_2 hd, mp_3 hd]
      rw [eN] at hd
      obtain ⟨e1, e2, e3⟩ := cl d hd
      rw [e1, e2, e3]
      exact f.2.1.2 d (by omega)
  refine fits_l (N := N) (c := c) (mm := mm) (kind := x) (wept := mx.1 42 c) hx hm hP (by rw [eN]; exact hcc) (by rw [ex, eM]) (by rw [o 42 (by omega)]; exact (f.2.1.2 c (by omega)).2.2) s1 (by rw [o 28 (by omega)]; exact s2) (by rw [h0]; exact s3) (fun j hj => by rw [o 29 (by omega), o 30 (by omega), o 31 (by omega), h.1 8 (by omega) (by omega), h.1 9 (by omega) (by omega), h.1 10 (by omega) (by omega), eN, eM]; exact s4 j hj) (fun g hg => ?_) n N N 0 mx (by omega) (by omega) (by omega) eqOff.rf |> fun ⟨b, mx2, a1, a2, a3⟩ => ⟨b, mx2, a1, he.tr a2, a3⟩
  rw [mp_free (by rw [eN]; exact hcc) hg]
  rw [eM] at hg
  obtain ⟨e1, e2, e3⟩ := cl c hcc
  unfold g_at
  rw [e1, e2, e3, c0, o 4 (by omega), o 39 (by omega), o 41 (by omega), o 11 (by omega), o 40 (by omega), o 9 (by omega), o 10 (by omega), o 42 (by omega), h0, h.1 6 (by omega) (by omega), h.1 4 (by omega) (by omega), h.1 5 (by omega) (by omega), hx2, rc.w, rc.f11 hg, rc.f9 hg, rc.f10 hg]
theorem kinds_l {i N c : Nat} {mx0 mm0 : Mem} (hN : 10 ≤ N) (hr : Rl i mx0 mm0) (hcc : c < cN (mC_ mm0)) :
    ∀ (k n n' j : Nat) (s : Int32) (mx mm : Mem), j + k = 3 → k < n → k < n' → eqOff mx0 mx trp → Ks mm0 mm c → Sim (i + 1) (l_X8_kinds N n (nI c) s (nI j) mx) (l_X9_kinds N n' (nI c) s (mm0.1 2 c) (nI j) mm) := by
  obtain ⟨rc, -⟩ := id hr
  have n3 := rc.ok.2.1
  intro k
  induction k with
  | zero =>
    intro n n' j s mx mm hj hn hn' he h
    obtain ⟨n, rfl⟩ : ∃ q, n = q + 1 := ⟨n - 1, by omega⟩
    obtain ⟨n', rfl⟩ : ∃ q, n' = q + 1 := ⟨n' - 1, by omega⟩
    have : j = 3 := by omega
    subst this
    show Sim (i + 1) (B_X8_kinds_17 N (l_X8_kinds N n) (nI c) s (nI 3) mx) (B_X9_kinds_26 N (l_X9_kinds N n') (nI c) s (mm0.1 2 c) (nI 3) mm)
    unfold B_X8_kinds_17 B_X9_kinds_26
    rw [if_pos (show (3 : Int32) ≤ nI 3 by decide), if_pos (show (2 : Int32) < nI 3 by decide), fl_ck_t (i_ckz (by omega) (by omega)), i_c (by omega)]
    simp only [fl_lm]
    refine sim_endx hr ⟨fun k a _ => he.2 k a, fun k a => ?_, fun j hj => ?_⟩ rfl
    · by_cases e : k = 2
      · subst e
        rw [mI_eq]
        funext d
        unfold upd
        by_cases e : d = c
        · rw [if_pos e, e]
        · rw [if_neg e]; exact h.2.2 d e
      · rw [mI_ne k e]; exact h.1 k a e
    · rw [mI_ne 1 (by omega), h.2.1, if_neg (by omega)]
  | succ k ih =>
    intro n n' j s mx mm hj hn hn' he h
    obtain ⟨n, rfl⟩ : ∃ q, n = q + 1 := ⟨n - 1, by omega⟩
    obtain ⟨n', rfl⟩ : ∃ q, n' = q + 1 := ⟨n' - 1, by omega⟩
    show Sim (i + 1) (B_X8_kinds_17 N (l_X8_kinds N n) (nI c) s (nI j) mx) (B_X9_kinds_26 N (l_X9_kinds N n') (nI c) s (mm0.1 2 c) (nI j) mm)
    unfold B_X8_kinds_17 B_X9_kinds_26
    rw [if_neg (show ¬ (3 : Int32) ≤ nI j from nI_ge (b := 3) (by omega) (by omega)), if_neg (show ¬ (2 : Int32) < nI j from nI_nlt (a := 2) (by omega) (by omega)), fl_ck_t (i_ckz (by omega) (by omega)), fl_ck_t (i_ckz (by omega) (by omega)), i_c (by omega), nI_1 j]
    simp only [fl_lm]
    have h' : Ks mm0 (mI mm 2 c (nI j)) c := ⟨fun k a b => by rw [mI_ne k b]; exact h.1 k a b, fun q => by rw [mI_ne 1 (by omega)]; exact h.2.1 q, fun d hd => by rw [mI_j hd]; exact h.2.2 d hd⟩
    obtain ⟨b, mx', e1, e2, e3⟩ := kind_q (x := nI j) hN hr hcc he h' mI_s
    refine sim_eq e1 e3 (sim_b (fun hb => ?_) (fun hb => ?_))
    · simp only [fl_li, hb, show b2i false = 0 from rfl, if_true, Int32.or_zero]
      exact ih n n' (j + 1) s mx' _ (by omega) (by omega) (by omega) e2 h'
    · simp only [fl_li, hb, show b2i true = 1 from rfl, show ¬ ((1 : Int32) = 0) by decide, if_false]
      exact ih n n' (j + 1) _ mx' _ (by omega) (by omega) (by omega) e2 h'
theorem sim_kinds {i N : Nat} {mx mm : Mem} (hN : 50 ≤ N) (h : Rl i mx mm) (a : Int32) : Sim (i + 1) (f_X8_kinds N a mx) (f_X9_kinds N a mm) := by
  obtain ⟨rc, -⟩ := id h
  have n3 := rc.ok.2.1
  unfold f_X8_kinds f_X9_kinds
  refine sim_cab h a (fun c hcc ea => ?_)
  subst ea
  obtain ⟨_, mm1, _, em, -, -, -, hcm⟩ := tr_start (N := N) (by omega) h
  rw [fl_ck_t (i_ckz (by omega) (by omega)), i_c (by omega)]
  simp only [fl_li]
  rw [em, fl_bd_s]
  exact kinds_l (by omega) h hcc 3 N N 0 0 mx mm1 rfl (by omega) (by omega) eqOff.rf ⟨fun k a _ => hcm.1.2 k a, fun j => by
    rw [hcm.2]
    by_cases g : 19 ≤ j ∧ j < 19 + 19
    · rw [if_pos g, if_pos (by omega), Nat.zero_add]
    · rw [if_neg g, if_neg (by omega)], fun d _ => by rw [hcm.1.2 2 (by omega)]⟩
