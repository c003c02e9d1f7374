/-! ===== two rivals: what it is ===== -/
def sgn (s w : Bool) : Int := if w = true then (if s = true then 1 else -1) else 0
def cabS (c1 c2 : Nat) (s : Bool) : Nat := if s = true then c1 else c2
def vf (s : Bool) (g : Nat → Option Int) : Nat → Option (Int × Nat)
  | 0 => none
  | j + 1 => match g j with
    | none => vf s g j
    | some v => match vf s g j with
      | none => some (v, j)
      | some (b, f) => if (if s = true then b ≤ v else v ≤ b) then some (b, f) else some (v, j)
def vk (C : Cf) (c1 c2 : Nat) (V : Bool → Ps → Nat → Int) (s : Bool) (P : Ps) (T : Nat) (f : Nat) : Option Int := if T.testBit f = true then none else some (V (!s) (a_drive C P (cabS c1 c2 s) f) (T ||| 2 ^ f) + sgn s (a_weeps C P (cabS c1 c2 s) f))
def vo (o : Option (Int × Nat)) : Int := match o with
  | none => 0
  | some (v, _) => v
def Vv (C : Cf) (c1 c2 : Nat) : Nat → Bool → Ps → Nat → Int
  | 0 => fun _ _ _ => 0
  | k + 1 => fun s P T => vo (vf s (vk C c1 c2 (Vv C c1 c2 k) s P T) (cM C))
theorem vv_s (C : Cf) (c1 c2 k : Nat) (s : Bool) (P : Ps) (T : Nat) : Vv C c1 c2 (k + 1) s P T = vo (vf s (vk C c1 c2 (Vv C c1 c2 k) s P T) (cM C)) := rfl
theorem vf_s (s : Bool) (g : Nat → Option Int) (j : Nat) : vf s g (j + 1) = match g j with
    | none => vf s g j
    | some v => match vf s g j with
      | none => some (v, j)
      | some (b, f) => if (if s = true then b ≤ v else v ≤ b) then some (b, f) else some (v, j) := rfl
theorem vf_none {s : Bool} {g : Nat → Option Int} {j : Nat} (h : g j = none) : vf s g (j + 1) = vf s g j := by rw [vf_s, h]
theorem vf_first {s : Bool} {g : Nat → Option Int} {j : Nat} {v : Int} (h : g j = some v) (h2 : vf s g j = none) : vf s g (j + 1) = some (v, j) := by rw [vf_s, h, h2]
theorem vf_keep {s : Bool} {g : Nat → Option Int} {j f : Nat} {v b : Int} (h : g j = some v) (h2 : vf s g j = some (b, f)) (hc : if s = true then b ≤ v else v ≤ b) : vf s g (j + 1) = some (b, f) := by
  rw [vf_s, h, h2]
  exact if_pos hc
theorem vf_new {s : Bool} {g : Nat → Option Int} {j f : Nat} {v b : Int} (h : g j = some v) (h2 : vf s g j = some (b, f)) (hc : ¬ (if s = true then b ≤ v else v ≤ b)) : vf s g (j + 1) = some (v, j) := by
  rw [vf_s, h, h2]
  exact if_neg hc
theorem vf_mem {s : Bool} {g : Nat → Option Int} : ∀ {n : Nat} {v : Int} {f : Nat}, vf s g n = some (v, f) → f < n ∧ g f = some v
  | 0, _, _, h => by cases h
  | n + 1, v, f, h => by
    cases hg : g n with
    | none =>
      rw [vf_none hg] at h
      have := vf_mem h
      exact ⟨by omega, this.2⟩
    | some w =>
      cases ho : vf s g n with
      | none =>
        rw [vf_first hg ho] at h
        injection h with h
        injection h with h1 h2
        subst h1 h2
        exact ⟨by omega, hg⟩
      | some bf =>
        obtain ⟨b, f'⟩ := bf
        by_cases hc : if s = true then b ≤ w else w ≤ b
        · rw [vf_keep hg ho hc] at h
          injection h with h
          injection h with h1 h2
          subst h1 h2
          have := vf_mem ho
          exact ⟨by omega, this.2⟩
        · rw [vf_new hg ho hc] at h
          injection h with h
          injection h with h1 h2
          subst h1 h2
          exact ⟨by omega, hg⟩
theorem vf_all {s : Bool} {g : Nat → Option Int} : ∀ {n : Nat}, vf s g n = none → ∀ f, f < n → g f = none
  | 0, _, f, hf => absurd hf (Nat.not_lt_zero f)
  | n + 1, h, f, hf => by
    cases hg : g n with
    | none =>
      rw [vf_none hg] at h
      by_cases e : f = n
      · subst e; exact hg
      · exact vf_all h f (by omega)
    | some w =>
      cases ho : vf s g n with
      | none => rw [vf_first hg ho] at h; cases h
      | some bf =>
        obtain ⟨b, f'⟩ := bf
        by_cases hc : if s = true then b ≤ w else w ≤ b
        · rw [vf_keep hg ho hc] at h; cases h
        · rw [vf_new hg ho hc] at h; cases h
theorem vf_shift {s : Bool} {g g' : Nat → Option Int} {a : Int} : ∀ {n : Nat}, (∀ f, f < n → g f = (g' f).map (fun v => a + v)) → vf s g n = (vf s g' n).map (fun p => (a + p.1, p.2))
  | 0, _ => rfl
  | n + 1, h => by
    have ih := vf_shift (s := s) (g := g) (g' := g') (a := a) (n := n) (fun f hf => h f (by omega))
    have hn := h n (by omega)
    cases hg : g' n with
    | none =>
      rw [hg] at hn
      rw [vf_none hn, vf_none hg]
      exact ih
    | some w =>
      rw [hg] at hn
      cases ho : vf s g' n with
      | none =>
        rw [ho] at ih
        rw [vf_first hn ih, vf_first hg ho]
        rfl
      | some bf =>
        obtain ⟨b, f'⟩ := bf
        rw [ho] at ih
        by_cases hc : if s = true then b ≤ w else w ≤ b
        · rw [vf_keep hg ho hc, vf_keep hn ih (by cases s <;> simp at hc ⊢ <;> omega)]
          rfl
        · rw [vf_new hg ho hc, vf_new hn ih (by cases s <;> simp at hc ⊢ <;> omega)]
          rfl
theorem sgn_b (s w : Bool) : -1 ≤ sgn s w ∧ sgn s w ≤ 1 := by cases s <;> cases w <;> decide
theorem vv_b {C : Cf} {c1 c2 : Nat} : ∀ (k : Nat) (s : Bool) (P : Ps) (T : Nat), -(k : Int) ≤ Vv C c1 c2 k s P T ∧ Vv C c1 c2 k s P T ≤ k
  | 0, _, _, _ => ⟨Int.le_refl 0, Int.le_refl 0⟩
  | k + 1, s, P, T => by
    rw [vv_s]
    cases h : vf s (vk C c1 c2 (Vv C c1 c2 k) s P T) (cM C) with
    | none => exact ⟨by show -((k + 1 : Nat) : Int) ≤ 0; omega, by show (0 : Int) ≤ ((k + 1 : Nat) : Int); omega⟩
    | some p =>
      obtain ⟨v, f⟩ := p
      have := (vf_mem h).2
      unfold vk at this
      split at this
      · cases this
      · injection this with this
        have h1 := vv_b (C := C) (c1 := c1) (c2 := c2) k (!s) (a_drive C P (cabS c1 c2 s) f) (T ||| 2 ^ f)
        have h2 := sgn_b s (a_weeps C P (cabS c1 c2 s) f)
        show -((k + 1 : Nat) : Int) ≤ v ∧ v ≤ ((k + 1 : Nat) : Int)
        omega
/-! the class plays it -/
def PN (C : Cf) (B : Int) (c1 c2 n : Nat) (P : Ps) (T l : Nat) (m : Mem) : Prop := xC m = C ∧ xcOk m ∧ xPm m (159 + 6 * l) = P ∧ xB m (159 + 6 * l) (B + 123 * l) ∧ (∀ g, g < cM C → decide (m.1 (159 + 6 * l + 4) g ≠ -4) = T.testBit g) ∧ m.1 36 1 = nI c1 ∧ m.1 36 2 = nI c2 ∧ m.1 36 3 = nI n
def poff (l : Nat) (m m' : Mem) : Prop := eqOff m m' (fun k => k = 13 ∨ k = 36 ∨ 159 + 6 * (l + 1) ≤ k) ∧ ∀ i, i ≠ 5 → m'.1 36 i = m.1 36 i
theorem poff.pn {C : Cf} {B : Int} {c1 c2 n : Nat} {P : Ps} {T l : Nat} {m m' : Mem} (h : poff l m m') (hn : PN C B c1 c2 n P T l m) : PN C B c1 c2 n P T l m' := by
  obtain ⟨a, b, c, d, e, f1, f2, f3⟩ := hn
  have hc : xC m' = xC m := xC_cong (fun k _ _ => h.1.2 k (by omega))
  refine ⟨hc.trans a, xcOk_cong (fun k _ _ => h.1.2 k (by omega)) b, ?_, xB_cong (fun k _ _ => h.1.2 k (by omega)) d, fun g hg => ?_, by rw [h.2 1 (by omega)]; exact f1, by rw [h.2 2 (by omega)]; exact f2, by rw [h.2 3 (by omega)]; exact f3⟩
  · unfold xPm at c ⊢
    rw [hc, xP_cong (fun k _ _ => h.1.2 k (by omega))]; exact c
  · rw [h.1.2 _ (by omega)]; exact e g hg
def oF (o : Option (Int × Nat)) : Int32 := match o with
  | none => -4
  | some (_, f) => nI f
theorem x_play {N n c1 c2 : Nat} {C : Cf} {B : Int} (hN : 10 ≤ N) (hB : 99 ≤ B ∧ B ≤ 20000) (hn4 : n ≤ 4) (h1 : c1 < cN C) (h2 : c2 < cN C) : ∀ (k d l T : Nat) (P : Ps) (m : Mem), k < d → l + k = n → PN C B c1 c2 n P T l m →
    Ok (f_X1_play N d 4 (nI l) m) (fun v m' => v.toInt = Vv C c1 c2 k (decide (l % 2 = 0)) P T ∧ poff l m m' ∧ (1 ≤ l ∨ k = 0 → m'.1 36 5 = m.1 36 5) ∧ (l = 0 → 1 ≤ k → ∃ k', k = k' + 1 ∧ m'.1 36 5 = oF (vf true (vk C c1 c2 (Vv C c1 c2 k') true P T) (cM C)))) := by
  intro k
  induction k with
  | zero =>
    intro d l T P m hd hl hp
    obtain ⟨d, rfl⟩ : ∃ q, d = q + 1 := ⟨d - 1, by omega⟩
    show Ok (E_X1_play N (f_X1_play N d) 4 (nI l) m) _
    unfold E_X1_play
    rw [hp.2.2.2.2.2.2.2, if_pos (nI_le (by omega) (by omega))]
    exact ok_ret ⟨rfl, ⟨eqOff.rf, fun _ _ => rfl⟩, fun _ => rfl, fun _ h => absurd h (by omega)⟩
  | succ k ih =>
    intro d l T P m hd hl hp
    obtain ⟨d, rfl⟩ : ∃ q, d = q + 1 := ⟨d - 1, by omega⟩
    have hC : okC C := by rw [← hp.1]; exact hp.2.1.1
    have n3 := hC.2.1
    have n7 := hC.2.2.1
    show Ok (E_X1_play N (f_X1_play N d) 4 (nI l) m) _
    unfold E_X1_play
    rw [hp.2.2.2.2.2.2.2, if_neg (nI_ge (by omega) (by omega)), if_pos (show nI l < (4 : Int32) from nI_lt (b := 4) (by omega) (by omega)), show (2 : Int32) = nI 2 from rfl, i_rem (by omega) (by omega) (by omega)]
    have loop : ∀ (s : Bool) (x3 x4 : Int32), s = decide (l % 2 = 0) → x3 = b2i s → x4 = (if s = true then 1 else -1) → ∀ (q nn j : Nat) (x5 x6 : Int32) (m1 : Mem), j + q = cM C → q < nn → poff l m m1 → m1.1 36 5 = m.1 36 5 → x5 = oF (vf s (vk C c1 c2 (Vv C c1 c2 k) s P T) j) → x6.toInt = vo (vf s (vk C c1 c2 (Vv C c1 c2 k) s P T) j) →
        Ok (l_X1_play N (f_X1_play N d) 4 nn (nI l) x3 x4 x5 x6 (nI j) m1) (fun v m' => v.toInt = Vv C c1 c2 (k + 1) (decide (l % 2 = 0)) P T ∧ poff l m m' ∧ (1 ≤ l ∨ k + 1 = 0 → m'.1 36 5 = m.1 36 5) ∧ (l = 0 → 1 ≤ k + 1 → ∃ k', k + 1 = k' + 1 ∧ m'.1 36 5 = oF (vf true (vk C c1 c2 (Vv C c1 c2 k') true P T) (cM C)))) := by
      intro s x3 x4 hs hx3 hx4 q
      induction q with
      | zero =>
        intro nn j x5 x6 m1 hj hq ho h5 hx5 hx6
        obtain ⟨nn, rfl⟩ : ∃ q, nn = q + 1 := ⟨nn - 1, by omega⟩
        have hn1 := ho.pn hp
        have : j = cM C := by omega
        subst this
        show Ok (B_X1_play_48 N (f_X1_play N d) 4 (l_X1_play N (f_X1_play N d) 4 nn) (nI l) x3 x4 x5 x6 (nI (cM C)) m1) _
        unfold B_X1_play_48
        rw [xc_m hn1.2.1, hn1.1, if_pos (Int32.le_refl _)]
        have hv : x6.toInt = Vv C c1 c2 (k + 1) (decide (l % 2 = 0)) P T := by rw [hx6, vv_s, hs]
        have hpo : ∀ (v : Int32) (m2 : Mem), m2 = mI m1 36 5 v → poff l m m2 := fun v m2 e => ⟨⟨by rw [e, mI_2]; exact ho.1.1, fun k hk => by rw [e, mI_ne k (by omega)]; exact ho.1.2 k hk⟩, fun i hi => by rw [e, mI_j hi]; exact ho.2 i hi⟩
        refine ok_if (fun h0 => ok_lm (fun m2 e2 => ok_ret ⟨hv, hpo _ _ e2, fun hl1 => ?_, fun hl0 _ => ⟨k, rfl, ?_⟩⟩)) (fun h0 => ok_lm (fun m2 e2 => ok_ret ⟨hv, hpo _ _ e2, fun _ => by rw [e2, mI_s, h5], fun hl0 => ?_⟩))
        · exact absurd h0 (nI_ne0 (by omega) (by omega))
        · rw [e2, mI_s, hx5, show s = true by rw [hs, hl0]; rfl]
        · exact absurd (by rw [hl0]; rfl) h0
      | succ q ihq =>
        intro nn j x5 x6 m1 hj hq ho h5 hx5 hx6
        obtain ⟨nn, rfl⟩ : ∃ q, nn = q + 1 := ⟨nn - 1, by omega⟩
        have hn1 := ho.pn hp
        have hj7 : j < cM C := by omega
        show Ok (B_X1_play_48 N (f_X1_play N d) 4 (l_X1_play N (f_X1_play N d) 4 nn) (nI l) x3 x4 x5 x6 (nI j) m1) _
        unfold B_X1_play_48
        rw [xc_m hn1.2.1, hn1.1, if_neg (nI_ge hj7 (by omega)), fl_ck_t (i_ckz (by omega) (by omega)), i_c (by omega), x_isTaken (by omega), fl_bd_s, hn1.2.2.2.2.1 j hj7, nI_1 j, nI_1 l]
        cases hT : T.testBit j with
        | true =>
          rw [if_neg (show ¬ b2i true = 0 by decide)]
          have hg : vk C c1 c2 (Vv C c1 c2 k) s P T j = none := by unfold vk; rw [if_pos hT]
          exact ihq nn (j + 1) x5 x6 m1 (by omega) (by omega) ho h5 (by rw [vf_none hg]; exact hx5) (by rw [vf_none hg]; exact hx6)
        | false =>
          rw [if_pos (show b2i false = 0 from rfl), i_c (by omega)]
          obtain ⟨y1, y2, y3, y4, y5, y6, y7, y8⟩ := id hn1
          refine ok_ck (i_ckz (by omega) (by omega)) (ok_ck (i_ckz (by omega) (by omega)) (ok_bd (x_copy (by omega)) (fun _ m2 hc2 => ok_ck (i_ckz (by omega) (by omega)) ?_)))
          have c2' : ∀ k, 4 ≤ k → k ≤ 12 → m2.1 k = m1.1 k := fun k a b => hc2.1.2 k (by omega)
          have eC2 : xC m2 = C := (xC_cong c2').trans y1
          have hC2 : xcOk m2 := xcOk_cong c2' y2
          have eP2 : xPm m2 (159 + 6 * (l + 1)) = P := by
            unfold xPm
            rw [eC2, hc2.P (by omega)]
            have := y3
            unfold xPm at this
            rw [y1] at this
            exact this
          have hB2 : xB m2 (159 + 6 * (l + 1)) (B + 123 * l) := hc2.B y4
          have hcs : cabS c1 c2 s < cN C := by unfold cabS; split <;> assumption
          have hok2 : okP C P (B + 123 * l) := by
            have := hB2.okP hC2
            rw [eC2] at this
            unfold xPm at eP2
            rw [eC2] at eP2
            rw [eP2] at this
            exact this
          have hg : vk C c1 c2 (Vv C c1 c2 k) s P T j = some (Vv C c1 c2 k (!s) (a_drive C P (cabS c1 c2 s) j) (T ||| 2 ^ j) + sgn s (a_weeps C P (cabS c1 c2 s) j)) := by unfold vk; rw [if_neg (by rw [hT]; decide)]
          have main : ∀ c : Int32, c = nI (cabS c1 c2 s) → Ok (J_X1_play_112 N (f_X1_play N d) 4 (l_X1_play N (f_X1_play N d) 4 nn) (nI l) x3 x4 x5 x6 (nI j) (159 + 6 * (l + 1)) c m2) (fun v m' => v.toInt = Vv C c1 c2 (k + 1) (decide (l % 2 = 0)) P T ∧ poff l m m' ∧ (1 ≤ l ∨ k + 1 = 0 → m'.1 36 5 = m.1 36 5) ∧ (l = 0 → 1 ≤ k + 1 → ∃ k', k + 1 = k' + 1 ∧ m'.1 36 5 = oF (vf true (vk C c1 c2 (Vv C c1 c2 k') true P T) (cM C)))) := by
            intro c hc
            subst hc
            unfold J_X1_play_112
            refine ok_bd (x_drive (S := 159 + 6 * (l + 1)) hC2 (by omega) hB2 (by rw [eC2]; exact hcs) (by rw [eC2]; exact hj7)) (fun r3 m3 hr3 => ?_)
            rw [eC2, eP2] at hr3
            obtain ⟨rfl, hx3'⟩ := hr3
            have hl3 := a_late_b hC hok2 (by omega) hcs hj7
            have hP3 : xPm m3 (159 + 6 * (l + 1)) = a_drive C P (cabS c1 c2 s) j := by
              have := hx3'.P (by omega) (by rw [eC2]; exact hcs)
              rw [eC2, eP2] at this
              exact this
            have hn3 : PN C B c1 c2 n (a_drive C P (cabS c1 c2 s) j) (T ||| 2 ^ j) (l + 1) m3 := by
              refine ⟨(hx3'.C (by omega)).trans eC2, hx3'.cOk (by omega) hC2, hP3, ?_, fun g hgg => ?_, ?_, ?_, ?_⟩
              · have := hx3'.B hC2 (by omega) hB2 (by omega) (by rw [eC2]; exact hcs) (by rw [eC2]; exact hj7)
                refine this.wk ?_
                rw [show ((l + 1 : Nat) : Int) = (l : Int) + 1 from rfl]
                omega
              · rw [hx3'.2.2.2.2.1, eC2, eP2]
                by_cases e : g = j
                · subst e
                  rw [upd_s, bs_eq]
                  refine decide_eq_true (fun q => ?_)
                  rw [q] at hl3
                  exact absurd hl3.1 (by decide)
                · rw [upd_n e, bs_ne e, (hc2.2.2.2 g (by omega)).1]
                  exact y5 g hgg
              · rw [hx3'.1.2 36 (by omega), hc2.1.2 36 (by omega)]; exact y6
              · rw [hx3'.1.2 36 (by omega), hc2.1.2 36 (by omega)]; exact y7
              · rw [hx3'.1.2 36 (by omega), hc2.1.2 36 (by omega)]; exact y8
            rw [nI_1 l]
            refine ok_bd (ih d (l + 1) (T ||| 2 ^ j) _ m3 (by omega) (by omega) hn3) (fun r4 m4 hr4 => ?_)
            obtain ⟨hv4, ho4, h54, -⟩ := hr4
            have hs' : decide ((l + 1) % 2 = 0) = !s := by
              rw [hs]
              by_cases e : l % 2 = 0
              · rw [decide_eq_true e, decide_eq_false (by omega)]; rfl
              · rw [decide_eq_false e, decide_eq_true (by omega)]; rfl
            rw [hs'] at hv4
            have hvb := vv_b (C := C) (c1 := c1) (c2 := c2) k (!s) (a_drive C P (cabS c1 c2 s) j) (T ||| 2 ^ j)
            have ho' : poff l m m4 := ⟨⟨by rw [ho4.1.1, hx3'.1.1, hc2.1.1, ho.1.1], fun k hk => by rw [ho4.1.2 k (by omega), hx3'.1.2 k (by omega), hc2.1.2 k (by omega), ho.1.2 k hk]⟩, fun i hi => by rw [ho4.2 i hi, hx3'.1.2 36 (by omega), hc2.1.2 36 (by omega), ho.2 i hi]⟩
            have h5' : m4.1 36 5 = m.1 36 5 := by rw [h54 (by omega), hx3'.1.2 36 (by omega), hc2.1.2 36 (by omega), h5]
            have fin : ∀ t1 : Int32, t1.toInt = sgn s (a_weeps C P (cabS c1 c2 s) j) → Ok (J_X1_play_138 N (f_X1_play N d) 4 (l_X1_play N (f_X1_play N d) 4 nn) (nI l) x3 x4 x5 x6 (nI j) r4 t1 m4) (fun v m' => v.toInt = Vv C c1 c2 (k + 1) (decide (l % 2 = 0)) P T ∧ poff l m m' ∧ (1 ≤ l ∨ k + 1 = 0 → m'.1 36 5 = m.1 36 5) ∧ (l = 0 → 1 ≤ k + 1 → ∃ k', k + 1 = k' + 1 ∧ m'.1 36 5 = oF (vf true (vk C c1 c2 (Vv C c1 c2 k') true P T) (cM C)))) := by
              intro t1 ht1
              have hsb := sgn_b s (a_weeps C P (cabS c1 c2 s) j)
              have hz := i_add (x := r4) (y := t1) (by omega) (by omega)
              unfold J_X1_play_138 J_X1_play_161
              refine ok_li (fun z hz' => ?_)
              subst hz'
              have hzz : (r4 + t1).toInt = Vv C c1 c2 k (!s) (a_drive C P (cabS c1 c2 s) j) (T ||| 2 ^ j) + sgn s (a_weeps C P (cabS c1 c2 s) j) := by omega
              rw [nI_1 j]
              cases hvf : vf s (vk C c1 c2 (Vv C c1 c2 k) s P T) j with
              | none =>
                rw [hvf] at hx5
                have hnew := vf_first hg hvf
                refine ok_t (by rw [hx5]; rfl) (ihq nn (j + 1) (nI j) (r4 + t1) m4 (by omega) (by omega) ho' h5' (by rw [hnew]; rfl) (by rw [hnew, hzz]; rfl))
              | some bf =>
                obtain ⟨b, f⟩ := bf
                rw [hvf] at hx5 hx6
                have hfm := vf_mem hvf
                have hbb : -5 ≤ b ∧ b ≤ 5 := by
                  have h := hfm.2
                  unfold vk at h
                  split at h
                  · cases h
                  · injection h with h
                    have h1 := vv_b (C := C) (c1 := c1) (c2 := c2) k (!s) (a_drive C P (cabS c1 c2 s) f) (T ||| 2 ^ f)
                    have h2 := sgn_b s (a_weeps C P (cabS c1 c2 s) f)
                    omega
                have hx6' : x6.toInt = b := hx6
                refine ok_f (fun e => ?_) ?_
                · rw [hx5] at e
                  have e : nI f = -4 := e
                  have := congrArg Int32.toInt e
                  rw [nI_toInt (by omega)] at this
                  have h4 : (-4 : Int32).toInt = -4 := by decide
                  omega
                · have hcmp : (x6 * x4 ≤ (r4 + t1) * x4) ↔ (if s = true then b ≤ Vv C c1 c2 k (!s) (a_drive C P (cabS c1 c2 s) j) (T ||| 2 ^ j) + sgn s (a_weeps C P (cabS c1 c2 s) j) else Vv C c1 c2 k (!s) (a_drive C P (cabS c1 c2 s) j) (T ||| 2 ^ j) + sgn s (a_weeps C P (cabS c1 c2 s) j) ≤ b) := by
                    rw [i_le, hx4]
                    have e1 : (1 : Int32).toInt = 1 := rfl
                    have em : (-1 : Int32).toInt = -1 := by decide
                    cases s with
                    | true =>
                      rw [if_pos rfl, if_pos rfl, i_mul (by rw [e1]; omega) (by rw [e1]; omega), i_mul (by rw [e1]; omega) (by rw [e1]; omega), e1]
                      omega
                    | false =>
                      rw [if_neg (by decide), if_neg (by decide), i_mul (by rw [em]; omega) (by rw [em]; omega), i_mul (by rw [em]; omega) (by rw [em]; omega), em]
                      omega
                  refine ok_if (fun hc => ?_) (fun hc => ?_)
                  · have hk := vf_keep hg hvf (hcmp.mp hc)
                    exact ihq nn (j + 1) x5 x6 m4 (by omega) (by omega) ho' h5' (by rw [hk]; exact hx5) (by rw [hk]; exact hx6)
                  · have hk := vf_new hg hvf (fun z => hc (hcmp.mpr z))
                    exact ihq nn (j + 1) (nI j) (r4 + t1) m4 (by omega) (by omega) ho' h5' (by rw [hk]; rfl) (by rw [hk, hzz]; rfl)
            refine ok_b (fun hw => fin 0 ?_) (fun hw => fin x4 ?_)
            · rw [hw]; rfl
            · rw [hw, hx4]
              cases s <;> decide
          have e36 : m2.1 36 = m1.1 36 := hc2.1.2 36 (by omega)
          rw [hx3, e36, y6, y7]
          cases s with
          | true => exact ok_f (by decide) (by rw [← hx3]; exact main _ rfl)
          | false => exact ok_t rfl (by rw [← hx3]; exact main _ rfl)
    by_cases e : l % 2 = 0
    · rw [show nI (l % 2) = nI 0 by rw [e]]
      refine ok_t rfl ?_
      unfold J_X1_play_26 J_X1_play_36
      refine ok_f (by decide) ?_
      exact loop true 1 1 (by rw [e]; rfl) rfl rfl (cM C) N 0 (-4) 0 m (by omega) (by omega) ⟨eqOff.rf, fun _ _ => rfl⟩ rfl rfl rfl
    · have e1 : l % 2 = 1 := by omega
      rw [show nI (l % 2) = nI 1 by rw [e1]]
      refine ok_f (by decide) ?_
      unfold J_X1_play_26 J_X1_play_36
      refine ok_t rfl ?_
      exact loop false 0 (-1) (by rw [e1]; rfl) rfl rfl (cM C) N 0 (-4) 0 m (by omega) (by omega) ⟨eqOff.rf, fun _ _ => rfl⟩ rfl rfl rfl
