/-! ===== what a brewer's fare mends ===== -/
def wend (N : Nat) (x2 x3 x4 : Int32) (m : Mem) : Option (Int32 × Mem) :=
  if x3 = 0 then (
      fl_bd (f_X9_soonestIn N (19 : Int32) x2 m) (fun r16 m17 =>
        fl_bd (f_X9_ridesAsOneDoes (19 : Int32) r16 x2 m17) (fun r19 m20 =>
          if r19 = 0 then (
            fl_li (x4 + (0 : Int32)) (fun z23 =>
              some (z23, m20)))
          else (
            fl_li (x4 + (1 : Int32)) (fun z25 =>
              some (z25, m20))))))
    else (
      some (x4, m))
theorem mend_l {N : Nat} {mx0 mm0 : Mem} {B : Int} {f0 T : Nat} {x3 : Int32} (hN : 4 ≤ N) (hB : 99 ≤ B ∧ B ≤ 20000) (hf0 : f0 < 7) (hT : T < 2 ^ cM (mC_ mm0)) (hok : okC (mC_ mm0)) :
    ∀ (k n j : Nat) (s : Int32) (mx mm : Mem), j + k = cM (mC_ mm0) → k < n → Tr mx0 mm0 mx mm (B + 123 * j) → (∀ g, j ≤ g → g < cM (mC_ mm0) → g ≠ f0 → decide (mx.1 49 g ≠ -4) = T.testBit g) →
      ∃ v mx' mm', l_X8_tearsOfOthers N n (nI f0) s (nI j) mx = some (v, mx') ∧ Tr mx0 mm0 mx' mm' (B + 123 * cM (mC_ mm0)) ∧ l_X9_weepBy N n (nI (restM (cM (mC_ mm0)) T)) (nI f0) x3 s (nI j) mm = wend N (nI f0) x3 v mm' := by
  have n7 := hok.2.2.1
  have hT8 := bt_lt (by omega) hT
  intro k
  induction k with
  | zero =>
    intro n j s mx mm hj hn h hg
    obtain ⟨n, rfl⟩ : ∃ n', n = n' + 1 := ⟨n - 1, by omega⟩
    refine ⟨s, mx, mm, ?_, h.wk (by omega), ?_⟩
    · show B_X8_tearsOfOthers_4 N (l_X8_tearsOfOthers N n) (nI f0) s (nI j) mx = _
      unfold B_X8_tearsOfOthers_4
      rw [xc_m h.rc.2.1, h.cx, if_pos (nI_le (by omega) (by omega))]
    · show B_X9_weepBy_41 N (l_X9_weepBy N n) (nI (restM (cM (mC_ mm0)) T)) (nI f0) x3 s (nI j) mm = _
      unfold B_X9_weepBy_41
      rw [mc_m h.rc.2.2.1, h.C, if_pos (nI_le (by omega) (by omega))]
      rfl
  | succ k ih =>
    intro n j s mx mm hj hn h hg
    obtain ⟨n, rfl⟩ : ∃ n', n = n' + 1 := ⟨n - 1, by omega⟩
    have hj7 : j < cM (mC_ mm0) := by omega
    have ex : l_X8_tearsOfOthers N (n + 1) (nI f0) s (nI j) mx = B_X8_tearsOfOthers_4 N (l_X8_tearsOfOthers N n) (nI f0) s (nI j) mx := rfl
    have em : l_X9_weepBy N (n + 1) (nI (restM (cM (mC_ mm0)) T)) (nI f0) x3 s (nI j) mm = B_X9_weepBy_41 N (l_X9_weepBy N n) (nI (restM (cM (mC_ mm0)) T)) (nI f0) x3 s (nI j) mm := rfl
    rw [ex, em]
    unfold B_X8_tearsOfOthers_4 B_X9_weepBy_41
    rw [xc_m h.rc.2.1, h.cx, if_neg (nI_ge hj7 (by omega)), mc_m h.rc.2.2.1, h.C, if_neg (nI_ge hj7 (by omega)), m_has (restM_lt _ (by omega) _ hT8) (by omega), fl_bd_s, restM_b (by omega) hT8 (by omega), nI_1 j, decide_eq_true hj7, Bool.true_and]
    have skip := ih n (j + 1) s mx mm (by omega) (by omega) (h.wk (by omega)) (fun g a b c => hg g (by omega) b c)
    by_cases e : j = f0
    · subst e
      rw [if_pos rfl]
      cases hb : T.testBit j with
      | true => rw [if_pos (show b2i (!true) = 0 from rfl)]; exact skip
      | false => rw [if_neg (show ¬ b2i (!false) = 0 by decide), if_pos rfl]; exact skip
    · rw [if_neg (fun q => e (nI_inj (by omega) (by omega) q)), x_isTaken (S := 45) (by omega), fl_bd_s, hg j (by omega) hj7 e]
      cases hb : T.testBit j with
      | true =>
        rw [if_pos (show b2i (!true) = 0 from rfl), if_neg (show ¬ b2i true = 0 by decide)]
        exact skip
      | false =>
        rw [if_neg (show ¬ b2i (!false) = 0 by decide), if_neg (fun q => e (nI_inj (by omega) (by omega) q)), if_pos (show b2i false = 0 from rfl)]
        obtain ⟨c, mx1, mm1, -, hc, e1, e2, e3, ht, hx, -⟩ := tr_soon hN h (by omega) hj7
        rw [e1, fl_bd_s, show (19 : Int32) = nI 19 from rfl, show f_X9_soonestIn N (nI 19) (nI j) mm = _ from e2, fl_bd_s, show f_X9_ridesAsOneDoes (nI 19) (nI c) (nI j) mm = _ from e3, fl_bd_s]
        have go := fun s' => ih n (j + 1) s' mx1 mm1 (by omega) (by omega) (ht.wk (by omega)) (fun g a b c' => by rw [hx.2.2.2.2.1, upd_n (by omega)]; exact hg g (by omega) b c')
        simp only [fl_li]
        cases a_weeps (mC_ mm0) (mPm mm 19) c j with
        | false => rw [if_pos (show b2i false = 0 from rfl), if_pos (show b2i false = 0 from rfl)]; exact go _
        | true => rw [if_neg (show ¬ b2i true = 0 by decide), if_neg (show ¬ b2i true = 0 by decide)]; exact go _
theorem brew {C : Cf} {P : Ps} {c f : Nat} (h : qK C f = 3) : a_weeps C P c f = false := by
  unfold a_weeps g_weeps
  rw [h]
  simp
theorem sim_mends {i N : Nat} {mx mm : Mem} (hN : 50 ≤ N) (hi : i ≤ 64) (h : Rl i mx mm) (a : Int32) : Sim (i + 1) (f_X8_mends N a mx) (f_X9_mends N a mm) := by
  obtain ⟨c, t, f, -⟩ := id h
  have n7 := c.ok.2.2.1
  unfold f_X8_mends f_X9_mends
  refine sim_fareq h a (fun fa hfa ea => ?_)
  subst ea
  obtain ⟨T, hT, h10, hg⟩ := f.mask
  rw [Nat.zero_add] at h10
  have hT8 := bt_lt (by omega) hT
  refine sim_eq (x_isTaken (S := 39) (by omega)) (show f_X9_has (mm.1 1 10) (nI fa) mm = some (b2i (T.testBit fa), mm) by rw [h10]; exact m_has hT8 (by omega)) ?_
  rw [hg fa hfa]
  refine sim_b (fun _ => ?_) (fun _ => sim_same h rfl)
  rw [fl_ck_t (i_ckz (by omega) (by omega)), fl_ck_t (i_ckz (by omega) (by omega)), i_c (by omega), c.f8 hfa]
  refine sim_if (fun hk => ?_) (fun _ => sim_same h rfl)
  have hq : qK (mC_ mm) fa = 3 := by rw [mc_qK hfa]; exact hk
  -- the first trial
  obtain ⟨mx1, mm1, x1, y1, t1, F1, -, -⟩ := tr_start (N := N) (by omega) h
  obtain ⟨T1, hT1, h101, hg1⟩ := F1.mask
  have hTT : T1 = T := by
    have e : mm1.1 1 29 = mm.1 1 10 := by
      obtain ⟨_, _, ex, em, hh, hF, hcx, hcm⟩ := tr_start (N := N) (by omega) h
      rw [em] at y1
      injection y1 with y1
      injection y1 with _ y1
      subst y1
      have := hcm.i (j := 10) (by omega)
      rw [Nat.zero_add] at this
      exact this
    have e2 : mm1.1 1 29 = nI T1 := h101
    rw [e, h10] at e2
    exact (nI_inj (by omega) (by have := bt_lt (by omega) hT1; omega) e2).symm
  subst hTT
  obtain ⟨v1, mx2, mm2, x2, t2, y2⟩ := mend_l (N := N) (x3 := 0) (f0 := fa) (T := T1) (by omega) (B := tb i) (by unfold tb; omega) (by omega) hT1 c.ok (cM (mC_ mm)) N 0 0 mx1 mm1 (by omega) (by omega) (t1.wk (by omega)) (fun g _ b _ => hg1 g b)
  rw [x1, fl_bd_s]
  unfold f_X8_tearsOfOthers f_X9_weepBy
  rw [show l_X8_tearsOfOthers N N (nI fa) 0 0 mx1 = some (v1, mx2) from x2, fl_bd_s, m_rest c.2.2.1 hT8 h10, fl_bd_s, y1, fl_bd_s, if_pos rfl]
  unfold J_X9_weepBy_38
  rw [show l_X9_weepBy N N (nI (restM (cM (mC_ mm)) T1)) (nI fa) 0 0 0 mm1 = _ from y2]
  unfold wend
  obtain ⟨cc, mx3, mm3, -, hcc, e1, e2, e3, t3, -, -⟩ := tr_soon (N := N) (by omega) t2 (by unfold tb; omega) hfa
  rw [if_pos rfl, show f_X9_soonestIn N 19 (nI fa) mm2 = _ from e2, fl_bd_s, e3, fl_bd_s, brew hq, if_pos (show b2i false = 0 from rfl)]
  simp only [fl_li]
  rw [fl_bd_s, show v1 + (0 : Int32) = v1 from Int32.add_zero _]
  -- the second trial: the class stands at mx2, the reference at mm3
  have tx : Tx mx mm mx2 mm3 := ⟨t2.out.1, t3.out.2.1, t3.out.2.2⟩
  have h2 := tx.rl h
  have eC : mC_ mm3 = mC_ mm := mC_cong (fun k a _ => tx.2.1 k a)
  obtain ⟨c2, t2', f2, -⟩ := id h2
  obtain ⟨mx4, mm4, x4, y4, t4, F4, -, hcm4⟩ := tr_start (N := N) (by omega) h2
  obtain ⟨T4, hT4, h104, hg4⟩ := F4.mask
  have h103 : mm3.1 1 10 = nI T1 := by rw [tx.2.2 10 (by omega)]; exact h10
  have hTT4 : T4 = T1 := by
    have := hcm4.i (j := 10) (by omega)
    rw [Nat.zero_add, h103] at this
    have e2 : mm4.1 1 29 = nI T4 := h104
    rw [eC] at hT4
    exact (nI_inj (by omega) (by have := bt_lt (by omega) hT4; omega) (this.symm.trans e2)).symm
  subst hTT4
  rw [eC] at hT4 hg4
  obtain ⟨c5, mx5, mm5, -, hc5, g1, g2, g3, t5, hx5, -⟩ := tr_soon (N := N) (by omega) t4 (by unfold tb; omega) (by rw [eC]; exact hfa)
  rw [x4, fl_bd_s, g1, fl_bd_s, m_rest c2.2.2.1 hT8 h103, fl_bd_s, y4, fl_bd_s, if_neg (show ¬ (1 : Int32) = 0 by decide), show f_X9_soonestIn N 19 (nI fa) mm4 = _ from g2, fl_bd_s, g3, fl_bd_s, eC, brew hq, if_pos (show b2i false = 0 from rfl)]
  unfold J_X9_weepBy_35 J_X9_weepBy_38
  simp only [fl_li]
  obtain ⟨v6, mx6, mm6, x6, t6, y6⟩ := mend_l (N := N) (mx0 := mx2) (mm0 := mm3) (x3 := 1) (f0 := fa) (T := T4) (by omega) (B := tb (i + 1) + 123) (by unfold tb; omega) (by omega) (by rw [eC]; exact hT4) (by rw [eC]; exact c.ok) (cM (mC_ mm)) N 0 0 mx5 mm5 (by rw [eC]; omega) (by omega) (t5.wk (by omega)) (fun g _ b q => by rw [eC] at b; rw [hx5.2.2.2.2.1, upd_n q]; exact hg4 g b)
  rw [eC] at y6
  rw [show l_X8_tearsOfOthers N N (nI fa) 0 0 mx5 = some (v6, mx6) from x6, fl_bd_s, show l_X9_weepBy N N (nI (restM (cM (mC_ mm)) T4)) (nI fa) 1 (0 + 0) 0 mm5 = _ from y6]
  unfold wend
  rw [if_neg (show ¬ (1 : Int32) = 0 by decide), fl_bd_s]
  exact sim_endx h (tx.tr t6.out) rfl
