/-! ===== the order with the fewest tears: what it is ===== -/
def unt (C : Cf) (T : Nat) : Nat := cnt (fun f => !T.testBit f) (cM C)
def gl (C : Cf) (T : Nat) : Nat := cnt (fun f => !T.testBit f && decide (qK C f = 1)) (cM C)
abbrev Bs : Type := Nat × (Nat → Int32)
def sfold (g : Nat → Bs → Bs) : Nat → Bs → Bs
  | 0, b => b
  | n + 1, b => g n (sfold g n b)
def wp (C : Cf) (P : Ps) (f : Nat) : Nat := if a_weeps C P (a_near C P f) f = true then 1 else 0
def kidP (C : Cf) (P : Ps) (f : Nat) : Ps := a_drive C P (a_near C P f) f
def Sx (C : Cf) : Nat → Ps → Nat → Nat → Nat → (Nat → Int32) → Bs → Bs
  | 0 => fun _ _ _ w t b => if w < b.1 then (w, t) else b
  | k + 1 => fun P T l w t b => sfold (fun f b => if T.testBit f = true then b else Sx C k (kidP C P f) (T ||| 2 ^ f) (l + 1) (w + wp C P f) (upd t l (nI f)) b) (cM C) b
def Sg (C : Cf) (k : Nat) (P : Ps) (T l w : Nat) (t : Nat → Int32) (f : Nat) (b : Bs) : Bs := if T.testBit f = true then b else Sx C k (kidP C P f) (T ||| 2 ^ f) (l + 1) (w + wp C P f) (upd t l (nI f)) b
theorem sx_s (C : Cf) (k : Nat) (P : Ps) (T l w : Nat) (t : Nat → Int32) (b : Bs) : Sx C (k + 1) P T l w t b = sfold (Sg C k P T l w t) (cM C) b := rfl
theorem cnt_drop {p q : Nat → Bool} {f : Nat} (hp : p f = true) (hq : q f = false) (hpq : ∀ g, g ≠ f → p g = q g) : ∀ n, cnt p n = cnt q n + (if f < n then 1 else 0)
  | 0 => rfl
  | n + 1 => by
    rw [cnt_s, cnt_s, cnt_drop hp hq hpq n]
    by_cases e : n = f
    · subst e
      rw [hp, hq]
      simp
    · rw [hpq n e]
      by_cases h : f < n
      · rw [if_pos h, if_pos (show f < n + 1 by omega)]; omega
      · rw [if_neg h, if_neg (show ¬ f < n + 1 by omega)]; omega
theorem cnt_pos {p : Nat → Bool} : ∀ {n : Nat}, 0 < cnt p n → ∃ f, f < n ∧ p f = true
  | 0, h => absurd h (Nat.not_lt_zero 0)
  | n + 1, h => by
    rw [cnt_s] at h
    cases hp : p n with
    | true => exact ⟨n, by omega, hp⟩
    | false =>
      rw [hp] at h
      obtain ⟨f, h1, h2⟩ := cnt_pos (p := p) (n := n) (by simpa using h)
      exact ⟨f, by omega, h2⟩
theorem cnt_zero {p : Nat → Bool} {n f : Nat} (h : cnt p n = 0) (hf : f < n) : p f = false := by
  cases hp : p f with
  | false => rfl
  | true =>
    have := cnt_drop (p := p) (q := fun g => if g = f then false else p g) hp (by simp) (fun g hg => by simp [hg]) n
    rw [if_pos hf] at this
    omega
theorem bs_eq (T f : Nat) : (T ||| 2 ^ f).testBit f = true := by rw [bt_set]; simp
theorem bs_ne {T f g : Nat} (h : g ≠ f) : (T ||| 2 ^ f).testBit g = T.testBit g := by rw [bt_set]; simp [h]
theorem unt_kid {C : Cf} {T f k : Nat} (h : unt C T = k + 1) (hf : f < cM C) (hb : T.testBit f = false) : unt C (T ||| 2 ^ f) = k := by
  have := cnt_drop (p := fun g => !T.testBit g) (q := fun g => !(T ||| 2 ^ f).testBit g) (f := f) (by simp [hb]) (by rw [bs_eq]; rfl) (fun g hg => by rw [bs_ne hg]) (cM C)
  rw [if_pos hf] at this
  unfold unt at *
  omega
theorem gl_kid {C : Cf} {T f : Nat} (hf : f < cM C) (hb : T.testBit f = false) : gl C T = gl C (T ||| 2 ^ f) + (if qK C f = 1 then 1 else 0) := by
  by_cases h : qK C f = 1
  · have := cnt_drop (p := fun g => !T.testBit g && decide (qK C g = 1)) (q := fun g => !(T ||| 2 ^ f).testBit g && decide (qK C g = 1)) (f := f) (by simp [hb, h]) (by rw [bs_eq]; rfl) (fun g hg => by rw [bs_ne hg]) (cM C)
    rw [if_pos hf] at this
    rw [if_pos h]
    exact this
  · rw [if_neg h]
    refine cnt_cong (fun g hg => ?_)
    by_cases e : g = f
    · subst e; simp [h]
    · rw [bs_ne e]
theorem girl {C : Cf} {P : Ps} {c f : Nat} (h : qK C f = 1) : a_weeps C P c f = true := by
  unfold a_weeps g_weeps
  rw [h]
  simp
theorem wg_kid {C : Cf} {P : Ps} {T f w : Nat} (hf : f < cM C) (hb : T.testBit f = false) : w + gl C T + (if qK C f = 1 then 0 else wp C P f) = w + wp C P f + gl C (T ||| 2 ^ f) := by
  rw [gl_kid hf hb]
  by_cases h : qK C f = 1
  · rw [if_pos h, if_pos h]
    have : wp C P f = 1 := by unfold wp; rw [girl h]; rfl
    omega
  · rw [if_neg h, if_neg h]; omega
theorem sfold_same {g : Nat → Bs → Bs} {b b0 : Bs} {j : Nat} (h0 : sfold g j b0 = b) : ∀ n, (∀ f, j ≤ f → f < j + n → g f b = b) → sfold g (j + n) b0 = b
  | 0, _ => h0
  | n + 1, h => by
    show g (j + n) (sfold g (j + n) b0) = b
    rw [sfold_same h0 n (fun f a c => h f a (by omega))]
    exact h (j + n) (by omega) (by omega)
theorem sx_prune {C : Cf} : ∀ (k : Nat) (P : Ps) (T l w : Nat) (t : Nat → Int32) (b : Bs), unt C T = k → b.1 ≤ w + gl C T → Sx C k P T l w t b = b
  | 0, P, T, l, w, t, b, hk, hb => by
    have : gl C T = 0 := by
      cases h : gl C T with
      | zero => rfl
      | succ n =>
        obtain ⟨f, h1, h2⟩ := cnt_pos (p := fun g => !T.testBit g && decide (qK C g = 1)) (n := cM C) (by unfold gl at h; omega)
        have h3 := cnt_zero (p := fun g => !T.testBit g) hk h1
        simp [h3] at h2
    rw [this] at hb
    exact if_neg (by omega)
  | k + 1, P, T, l, w, t, b, hk, hb => by
    rw [sx_s]
    have := sfold_same (g := Sg C k P T l w t) (b := b) (b0 := b) (j := 0) rfl (cM C) (fun f _ hf => by
      unfold Sg
      cases hT : T.testBit f with
      | true => rfl
      | false =>
        rw [if_neg (by decide)]
        have hf' : f < cM C := by omega
        refine sx_prune k _ _ _ _ _ b (unt_kid hk hf' hT) ?_
        have := wg_kid (P := P) (w := w) hf' hT
        omega)
    rw [Nat.zero_add] at this
    exact this
theorem sfold_le {g : Nat → Bs → Bs} (h : ∀ f b, (g f b).1 ≤ b.1) : ∀ n b, (sfold g n b).1 ≤ b.1
  | 0, _ => Nat.le_refl _
  | n + 1, b => Nat.le_trans (h n _) (sfold_le h n b)
theorem sx_le {C : Cf} : ∀ (k : Nat) (P : Ps) (T l w : Nat) (t : Nat → Int32) (b : Bs), (Sx C k P T l w t b).1 ≤ b.1
  | 0, P, T, l, w, t, b => by
    show (if w < b.1 then (w, t) else b).1 ≤ b.1
    split
    · show w ≤ b.1; omega
    · exact Nat.le_refl _
  | k + 1, P, T, l, w, t, b => by
    rw [sx_s]
    refine sfold_le (fun f b => ?_) _ _
    unfold Sg
    split
    · exact Nat.le_refl _
    · exact sx_le k _ _ _ _ _ _
theorem sx_ind {C : Cf} : ∀ (k : Nat) (P : Ps) (T l w : Nat) (t : Nat → Int32) (b b' : Bs), unt C T = k → w + k < b.1 → w + k < b'.1 → Sx C k P T l w t b = Sx C k P T l w t b'
  | 0, P, T, l, w, t, b, b', _, h1, h2 => by
    show (if w < b.1 then (w, t) else b) = (if w < b'.1 then (w, t) else b')
    rw [if_pos (by omega), if_pos (by omega)]
  | k + 1, P, T, l, w, t, b, b', hk, h1, h2 => by
    rw [sx_s, sx_s]
    have key : ∀ n, n ≤ cM C → ((∃ f, f < n ∧ T.testBit f = false) → sfold (Sg C k P T l w t) n b = sfold (Sg C k P T l w t) n b') ∧ ((∀ f, f < n → T.testBit f = true) → sfold (Sg C k P T l w t) n b = b ∧ sfold (Sg C k P T l w t) n b' = b') := by
      intro n
      induction n with
      | zero => exact fun _ => ⟨fun ⟨f, hf, _⟩ => absurd hf (Nat.not_lt_zero f), fun _ => ⟨rfl, rfl⟩⟩
      | succ n ih =>
        intro hn
        obtain ⟨i1, i2⟩ := ih (by omega)
        refine ⟨fun ⟨f, hf, hb⟩ => ?_, fun h => ?_⟩
        · show Sg C k P T l w t n _ = Sg C k P T l w t n _
          by_cases hex : ∃ f, f < n ∧ T.testBit f = false
          · rw [i1 hex]
          · have hall : ∀ f, f < n → T.testBit f = true := fun f hf => by
              cases hq : T.testBit f with
              | true => rfl
              | false => exact absurd ⟨f, hf, hq⟩ hex
            have : f = n := by
              rcases Nat.lt_or_ge f n with q | q
              · rw [hall f q] at hb; cases hb
              · omega
            subst this
            rw [(i2 hall).1, (i2 hall).2]
            unfold Sg
            rw [if_neg (by rw [hb]; decide), if_neg (by rw [hb]; decide)]
            have hw : wp C P f ≤ 1 := by unfold wp; split <;> omega
            exact sx_ind k _ _ _ _ _ b b' (unt_kid hk (by omega) hb) (by omega) (by omega)
        · obtain ⟨j1, j2⟩ := i2 (fun f hf => h f (by omega))
          show Sg C k P T l w t n _ = b ∧ Sg C k P T l w t n _ = b'
          rw [j1, j2]
          unfold Sg
          rw [if_pos (h n (by omega)), if_pos (h n (by omega))]
          exact ⟨rfl, rfl⟩
    obtain ⟨f, hf, hb⟩ := cnt_pos (p := fun g => !T.testBit g) (n := cM C) (by unfold unt at hk; omega)
    exact (key (cM C) (Nat.le_refl _)).1 ⟨f, hf, by simpa using hb⟩
/-! the class looks for it -/
def Bx (r : Nat) (b : Bs) (m : Mem) : Prop := m.1 32 4 = nI b.1 ∧ ∀ i, i < r → m.1 35 i = b.2 i
def Nx (C : Cf) (B : Int) (P : Ps) (T l : Nat) (t : Nat → Int32) (m : Mem) : Prop := xC m = C ∧ xcOk m ∧ xPm m (111 + 6 * l) = P ∧ xB m (111 + 6 * l) (B + 123 * l) ∧ (∀ g, g < cM C → decide (m.1 (111 + 6 * l + 4) g ≠ -4) = T.testBit g) ∧ ∀ i, i < l → m.1 34 i = t i
def xoff (l : Nat) (m m' : Mem) : Prop := eqOff m m' (fun k => k = 13 ∨ k = 32 ∨ k = 34 ∨ k = 35 ∨ (111 + 6 * (l + 1) ≤ k ∧ k < 159)) ∧ (∀ i, i < l → m'.1 34 i = m.1 34 i) ∧ ∀ i, i ≠ 4 → m'.1 32 i = m.1 32 i
theorem xoff.nx {C : Cf} {B : Int} {P : Ps} {T l : Nat} {t : Nat → Int32} {m m' : Mem} (hl : l ≤ 7) (h : xoff l m m') (hn : Nx C B P T l t m) : Nx C B P T l t m' := by
  obtain ⟨a, b, c, d, e, f⟩ := hn
  have hc : xC m' = xC m := xC_cong (fun k _ _ => h.1.2 k (by omega))
  refine ⟨hc.trans a, xcOk_cong (fun k _ _ => h.1.2 k (by omega)) b, ?_, xB_cong (fun k _ _ => h.1.2 k (by omega)) d, fun g hg => ?_, fun i hi => ?_⟩
  · unfold xPm at c ⊢
    rw [hc, xP_cong (fun k _ _ => h.1.2 k (by omega))]; exact c
  · rw [h.1.2 _ (by omega)]; exact e g hg
  · rw [h.2.1 i hi]; exact f i hi
theorem cpy7 {f g : Nat → Int32} {j : Nat} (h : j < 7) : va_cpy f g 0 0 7 j = f j := cpy_in h
theorem x_leaf {N : Nat} {G : Nat → Int32 → Int32 → Mem → Option (Int32 × Mem)} {F} {m : Mem} {r w l : Nat} {t : Nat → Int32} {b : Bs} (hr : r ≤ 7) (hw : w < 1000) (hb2 : b.1 < 2147483648) (hb : Bx r b m) (ht : ∀ i, i < r → m.1 34 i = t i) : Ok (J_X2_extend_14 N G 4 F (nI w) m) (fun _ m' => xoff l m m' ∧ Bx r (if w < b.1 then (w, t) else b) m') := by
  unfold J_X2_extend_14 f_X2_keepIfFewer
  rw [hb.1]
  by_cases h : w < b.1
  · rw [if_neg (nI_ge h hb2), if_pos h]
    refine ok_bd (P := fun _ m' => xoff l m m' ∧ Bx r (w, t) m') (ok_lm (fun m1 e1 => ok_lm (fun m2 e2 => ok_ret ?_))) (fun _ m' h' => ok_ret h')
    refine ⟨⟨⟨by rw [e2, e1]; rfl, fun k hk => by rw [e2, mC_ne k (by omega), e1, mI_ne k (by omega)]⟩, fun i hi => by rw [e2, mC_ne 34 (by omega), e1, mI_ne 34 (by omega)], fun i hi => by rw [e2, mC_ne 32 (by omega), e1, mI_j hi]⟩, ?_, fun i hi => ?_⟩
    · rw [e2, mC_ne 32 (by omega), e1, mI_s]
    · rw [e2, mC_eq, cpy7 (by omega), e1, mI_ne 34 (by omega)]; exact ht i hi
  · rw [if_pos (nI_le (by omega) (by omega)), if_neg h]
    exact ok_bd (P := fun _ m' => xoff l m m' ∧ Bx r b m') (ok_ret ⟨⟨eqOff.rf, fun _ _ => rfl, fun _ _ => rfl⟩, hb⟩) (fun _ m' h' => ok_ret h')
