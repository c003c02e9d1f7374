theorem gl0 {C : Cf} {T : Nat} (hk : unt C T = 0) : gl C T = 0 := by
  cases h : gl C T with
  | zero => rfl
  | succ n =>
    obtain ⟨f, h1, h2⟩ := cnt_pos (p := fun g => !T.testBit g && decide (qK C g = 1)) (n := cM C) (by unfold gl at h; omega)
    have h3 := cnt_zero (p := fun g => !T.testBit g) hk h1
    simp [h3] at h2
theorem sg_prune {C : Cf} {k : Nat} {P : Ps} {T l w : Nat} {t : Nat → Int32} {b : Bs} {f : Nat} (hf : f < cM C) (hk : unt C T = k + 1) (hb : b.1 ≤ w + gl C T) : Sg C k P T l w t f b = b := by
  unfold Sg
  cases hT : T.testBit f with
  | true => rfl
  | false =>
    rw [if_neg (by decide)]
    refine sx_prune k _ _ _ _ _ b (unt_kid hk hf hT) ?_
    have := wg_kid (P := P) (w := w) hf hT
    omega
theorem sfold_s (g : Nat → Bs → Bs) (n : Nat) (b : Bs) : sfold g (n + 1) b = g n (sfold g n b) := rfl
theorem sfold_stop {g : Nat → Bs → Bs} {b : Bs} {j n : Nat} (hj : j ≤ n) (h : ∀ f, j ≤ f → f < n → g f (sfold g j b) = sfold g j b) : sfold g n b = sfold g j b := by
  obtain ⟨d, rfl⟩ : ∃ d, n = j + d := ⟨n - j, by omega⟩
  exact sfold_same rfl d (fun f a c => h f a c)
theorem x_ext {N r : Nat} {C : Cf} {B : Int} (hN : 10 ≤ N) (hB : 99 ≤ B ∧ B ≤ 20000) (hr : r ≤ 7) : ∀ (k d l T w : Nat) (P : Ps) (t : Nat → Int32) (b : Bs) (m : Mem), k < d → l + k = r → unt C T = k → w ≤ l → b.1 < 2147483648 → Nx C B P T l t m → m.1 32 3 = nI r → Bx r b m →
    Ok (f_X2_extend N d 4 (nI l) (nI (w + gl C T)) m) (fun _ m' => xoff l m m' ∧ Bx r (Sx C k P T l w t b) m') := by
  intro k
  induction k with
  | zero =>
    intro d l T w P t b m hd hl hk hw hb2 hn h3 hb
    obtain ⟨d, rfl⟩ : ∃ q, d = q + 1 := ⟨d - 1, by omega⟩
    have : l = r := by omega
    subst this
    show Ok (E_X2_extend N (f_X2_extend N d) 4 (nI l) (nI (w + gl C T)) m) _
    unfold E_X2_extend
    rw [h3, if_pos (Int32.le_refl _), gl0 hk, Nat.add_zero]
    exact x_leaf hr (by omega) hb2 hb hn.2.2.2.2.2
  | succ k ih =>
    intro d l T w P t b m hd hl hk hw hb2 hn h3 hb
    obtain ⟨d, rfl⟩ : ∃ q, d = q + 1 := ⟨d - 1, by omega⟩
    show Ok (E_X2_extend N (f_X2_extend N d) 4 (nI l) (nI (w + gl C T)) m) _
    unfold E_X2_extend
    have hgl : gl C T ≤ cM C := cnt_le _ _
    have hC : okC C := by rw [← hn.1]; exact hn.2.1.1
    have n3 := hC.2.1
    have n7 := hC.2.2.1
    rw [h3, if_neg (nI_ge (by omega) (by omega)), if_pos (show nI l < (7 : Int32) from nI_lt (b := 7) (by omega) (by omega)), nI_1 l, fl_ck_t (i_ckz (by omega) (by omega)), fl_ck_t (i_ckz (by omega) (by omega)), i_c (by omega), i_c (by omega)]
    have loop : ∀ (q n j : Nat) (m1 : Mem), j + q = cM C → q < n → xoff l m m1 → Bx r (sfold (Sg C k P T l w t) j b) m1 → Ok (l_X2_extend N (f_X2_extend N d) 4 n (111 + 6 * l) (111 + 6 * (l + 1)) (nI l) (nI (w + gl C T)) (nI j) m1) (fun _ m' => xoff l m m' ∧ Bx r (Sx C (k + 1) P T l w t b) m') := by
      intro q
      induction q with
      | zero =>
        intro n j m1 hj hq ho hbj
        obtain ⟨n, rfl⟩ : ∃ q, n = q + 1 := ⟨n - 1, by omega⟩
        have hn1 := ho.nx (by omega) hn
        show Ok (B_X2_extend_41 N (f_X2_extend N d) 4 (l_X2_extend N (f_X2_extend N d) 4 n) (nI l) (nI (w + gl C T)) (111 + 6 * l) (111 + 6 * (l + 1)) (nI j) m1) _
        unfold B_X2_extend_41
        rw [xc_m hn1.2.1, hn1.1, if_pos (nI_le (by omega) (by omega))]
        refine ok_ret ⟨ho, ?_⟩
        rw [sx_s, ← show j = cM C by omega]
        exact hbj
      | succ q ihq =>
        intro n j m1 hj hq ho hbj
        obtain ⟨n, rfl⟩ : ∃ q, n = q + 1 := ⟨n - 1, by omega⟩
        have hn1 := ho.nx (by omega) hn
        have hj7 : j < cM C := by omega
        have hbl : (sfold (Sg C k P T l w t) j b).1 ≤ b.1 := sfold_le (fun f b => by
          unfold Sg
          split
          · exact Nat.le_refl _
          · exact sx_le k _ _ _ _ _ _) j b
        show Ok (B_X2_extend_41 N (f_X2_extend N d) 4 (l_X2_extend N (f_X2_extend N d) 4 n) (nI l) (nI (w + gl C T)) (111 + 6 * l) (111 + 6 * (l + 1)) (nI j) m1) _
        unfold B_X2_extend_41
        rw [xc_m hn1.2.1, hn1.1, if_neg (nI_ge hj7 (by omega)), hbj.1]
        by_cases hp : (sfold (Sg C k P T l w t) j b).1 ≤ w + gl C T
        · rw [if_pos (nI_le hp (by omega))]
          refine ok_ret ⟨ho, ?_⟩
          rw [sx_s, sfold_stop (by omega) (fun f _ hf => sg_prune hf hk hp)]
          exact hbj
        rw [if_neg (nI_ge (by omega) (by omega)), x_isTaken (by omega), fl_bd_s, hn1.2.2.2.2.1 j hj7, nI_1 j]
        cases hT : T.testBit j with
        | true =>
          rw [if_neg (show ¬ b2i true = 0 by decide)]
          refine ihq n (j + 1) m1 (by omega) (by omega) ho ?_
          rw [sfold_s]
          unfold Sg
          rw [if_pos hT]
          exact hbj
        | false =>
          rw [if_pos (show b2i false = 0 from rfl), i_c (by omega), i_c (by omega)]
          obtain ⟨x1, x2, x3, x4, x5, x6⟩ := id hn1
          refine ok_bd (x_copy (by omega)) (fun _ m2 h2 => ok_ck (i_ckz (by omega) (by omega)) (ok_lm (fun m4 e4 => ?_)))
          -- the child's stand
          have o4 : ∀ k, k ≠ 34 → m4.1 k = m2.1 k := fun k hk => by rw [e4, mI_ne k hk]
          have c4 : ∀ k, 4 ≤ k → k ≤ 12 → m4.1 k = m1.1 k := fun k a b => by rw [o4 k (by omega), h2.1.2 k (by omega)]
          have eC4 : xC m4 = C := (xC_cong c4).trans x1
          have hC4 : xcOk m4 := xcOk_cong c4 x2
          have eP4 : xPm m4 (111 + 6 * (l + 1)) = P := by
            unfold xPm
            rw [eC4, xP_cong (m := m2) (fun k _ _ => o4 k (by omega)), h2.P (by omega)]
            have := x3
            unfold xPm at this
            rw [x1] at this
            exact this
          have hB4 : xB m4 (111 + 6 * (l + 1)) (B + 123 * l) := xB_cong (m := m2) (fun k _ _ => o4 k (by omega)) (h2.B x4)
          refine ok_bd (x_driveSoonest (N := N) (S := 111 + 6 * (l + 1)) (f := j) (by omega) hC4 (by omega) hB4 (by rw [eC4]; exact hj7)) (fun r5 m5 h5 => ?_)
          rw [eC4, eP4] at h5
          obtain ⟨rfl, h5⟩ := h5
          have hcc := a_near_lt hC P j
          have hl5 := a_late_b hC (by have := hB4.okP hC4; rw [eC4] at this; unfold xPm at eP4; rw [eC4] at eP4; rw [eP4] at this; exact this) (by omega) hcc hj7
          have hP5 : xPm m5 (111 + 6 * (l + 1)) = kidP C P j := by
            have := h5.P (by omega) (by rw [eC4]; exact hcc)
            rw [eC4, eP4] at this
            exact this
          have ho5 : xoff l m1 m5 := ⟨⟨by rw [h5.1.1, e4, mI_2, h2.1.1], fun k hk => by rw [h5.1.2 k (by omega), o4 k (by omega), h2.1.2 k (by omega)]⟩, fun i hi => by rw [h5.1.2 34 (by omega), e4, mI_j (by omega), h2.1.2 34 (by omega)], fun i hi => by rw [h5.1.2 32 (by omega), o4 32 (by omega), h2.1.2 32 (by omega)]⟩
          have hN5 : Nx C B (kidP C P j) (T ||| 2 ^ j) (l + 1) (upd t l (nI j)) m5 := by
            refine ⟨(h5.C (by omega)).trans eC4, h5.cOk (by omega) hC4, hP5, ?_, fun g hg => ?_, fun i hi => ?_⟩
            · have := h5.B hC4 (by omega) hB4 (by omega) (by rw [eC4]; exact hcc) (by rw [eC4]; exact hj7)
              refine this.wk ?_
              rw [show ((l + 1 : Nat) : Int) = (l : Int) + 1 from rfl]
              omega
            · rw [h5.2.2.2.2.1, eC4, eP4]
              by_cases e : g = j
              · subst e
                rw [upd_s, bs_eq]
                refine decide_eq_true (fun q => ?_)
                rw [q] at hl5
                exact absurd hl5.1 (by decide)
              · rw [upd_n e, bs_ne e, o4 _ (by omega), (h2.2.2.2 g (by omega)).1]
                exact x5 g hg
            · rw [h5.1.2 34 (by omega), e4, mI_eq, h2.1.2 34 (by omega)]
              by_cases e : i = l
              · subst e; rw [upd_s, upd_s]
              · rw [upd_n e, upd_n e]; exact x6 i (by omega)
          have hb5 : Bx r (sfold (Sg C k P T l w t) j b) m5 := by
            refine ⟨by rw [h5.1.2 32 (by omega), o4 32 (by omega), h2.1.2 32 (by omega)]; exact hbj.1, fun i hi => by rw [h5.1.2 35 (by omega), o4 35 (by omega), h2.1.2 35 (by omega)]; exact hbj.2 i hi⟩
          have h35 : m5.1 32 3 = nI r := by rw [ho5.2.2 3 (by omega), ho.2.2 3 (by omega)]; exact h3
          have hw1 : wp C P j ≤ 1 := by unfold wp; split <;> omega
          have go : ∀ x : Int32, x = nI (w + wp C P j + gl C (T ||| 2 ^ j)) → Ok (J_X2_extend_129 N (f_X2_extend N d) 4 (l_X2_extend N (f_X2_extend N d) 4 n) (nI l) (nI (w + gl C T)) (111 + 6 * l) (111 + 6 * (l + 1)) (nI j) (nI (l + 1)) x m5) (fun _ m' => xoff l m m' ∧ Bx r (Sx C (k + 1) P T l w t b) m') := by
            intro x hx
            unfold J_X2_extend_129
            rw [hx, nI_1 j]
            refine ok_bd (ih d (l + 1) (T ||| 2 ^ j) (w + wp C P j) (kidP C P j) (upd t l (nI j)) (sfold (Sg C k P T l w t) j b) m5 (by omega) (by omega) (unt_kid hk hj7 hT) (by omega) (by omega) hN5 h35 hb5) (fun _ m6 h6 => ?_)
            refine ihq n (j + 1) m6 (by omega) (by omega) ?_ ?_
            · refine ⟨⟨by rw [h6.1.1.1, ho5.1.1, ho.1.1], fun k hk => by rw [h6.1.1.2 k (by omega), ho5.1.2 k (by omega), ho.1.2 k (by omega)]⟩, fun i hi => by rw [h6.1.2.1 i (by omega), ho5.2.1 i hi, ho.2.1 i hi], fun i hi => by rw [h6.1.2.2 i hi, ho5.2.2 i hi, ho.2.2 i hi]⟩
            · rw [sfold_s]
              have := h6.2
              unfold Sg
              rw [if_neg (by rw [hT]; decide)]
              exact this
          have hk8 : m5.1 8 j = qK C j := by
            rw [← xc_qK (m := m5) (by rw [hN5.1]; exact hj7), hN5.1]
          have hwg := wg_kid (P := P) (w := w) hj7 hT
          unfold J_X2_extend_109 J_X2_extend_110
          rw [hk8, nI_1 l]
          refine ok_b (fun hwf => ok_t rfl (go _ ?_)) (fun hwt => ok_ck (i_ckz (by omega) (by omega)) (ok_if (fun hg => ok_t rfl (go _ ?_)) (fun hg => ok_f (by decide) (go _ ?_))))
          · have h0 : wp C P j = 0 := by unfold wp; rw [hwf]; rfl
            have : ¬ qK C j = 1 := fun q => by rw [girl q] at hwf; cases hwf
            rw [if_neg this, h0] at hwg
            rw [h0]
            congr 1
          · rw [if_pos hg] at hwg
            rw [← hwg, Nat.add_zero]
          · have h1 : wp C P j = 1 := by unfold wp; rw [hwt]; rfl
            rw [if_neg hg] at hwg
            rw [← hwg, h1, nI_1]
    exact loop (cM C) N 0 m (by omega) (by omega) ⟨eqOff.rf, fun _ _ => rfl, fun _ _ => rfl⟩ hb
