theorem x_nums {N n e : Nat} {a : Nat → Int32} (hn : n ≤ 200) (he : e < n) (hLe : Lt n a e = 59) : ∀ (f p idx q : Nat) (m : Mem), p ≤ e + 1 → e + 1 < p + f → e + 1 < p + q → idx ≤ 5 → TX n a m → m.1 1 3 = nI idx →
    ∃ r m', l_X6_readNumbers N q (nI e) 0 0 (nI p) m = some (b2i r, m') ∧ xoffs m m' ∧ (∀ i, i < idx → m'.1 3 i = m.1 3 i) ∧ (r = true → ∃ l, lst (Lt n a) e f p = some l ∧ idx + l.length ≤ 5) ∧ ∀ l, lst (Lt n a) e f p = some l → idx + l.length ≤ 5 → r = true ∧ m'.1 1 3 = nI (idx + l.length) ∧ ∀ i, i < l.length → m'.1 3 (idx + i) = l.getD i 0 := by
  intro f
  induction f with
  | zero => intro p idx q m hp hf; omega
  | succ f ih =>
    intro p idx q m hp hf hq hidx ht hi
    rw [lst_s]
    by_cases h1 : p = e + 1
    · rw [if_pos h1]
      obtain ⟨q, rfl⟩ : ∃ q', q = q' + 1 := ⟨q - 1, by omega⟩
      refine ⟨true, m, ?_, ⟨eqOff.rf, fun _ _ => rfl⟩, fun _ _ => rfl, fun _ => ⟨[], rfl, by simpa using hidx⟩, fun l hl _ => ?_⟩
      · show B_X6_readNumbers_15 N (l_X6_readNumbers N q) (nI e) 0 0 (nI p) m = _
        unfold B_X6_readNumbers_15
        rw [if_pos (nI_lt (by omega) (by omega))]
        rfl
      · injection hl with hl
        subst hl
        exact ⟨rfl, hi, fun i hi => absurd hi (Nat.not_lt_zero i)⟩
    · rw [if_neg h1]
      have hpe : p ≤ e := by omega
      have hne := nl_e (L := Lt n a) hLe hpe
      obtain ⟨q, rfl⟩ : ∃ q', q = q' + nl (Lt n a) p + 1 := ⟨q - nl (Lt n a) p - 1, by omega⟩
      rw [x_num1 hn he hLe hpe ht hi hidx]
      have bad : ∀ (o : Option (List Int32)), (∀ l, o = some l → 5 < idx + l.length) → ∃ r m', some ((0 : Int32), m) = some (b2i r, m') ∧ xoffs m m' ∧ (∀ i, i < idx → m'.1 3 i = m.1 3 i) ∧ (r = true → ∃ l, o = some l ∧ idx + l.length ≤ 5) ∧ ∀ l, o = some l → idx + l.length ≤ 5 → r = true ∧ m'.1 1 3 = nI (idx + l.length) ∧ ∀ i, i < l.length → m'.1 3 (idx + i) = l.getD i 0 := fun o ho => ⟨false, m, rfl, ⟨eqOff.rf, fun _ _ => rfl⟩, fun _ _ => rfl, fun h => (by cases h), fun l hl h5 => by have := ho l hl; omega⟩
      by_cases h0 : nl (Lt n a) p = 0
      · rw [if_pos h0, if_pos h0]
        exact bad none (fun l h => by cases h)
      · rw [if_neg h0, if_neg h0]
        by_cases hs : Lt n a (p + nl (Lt n a) p) = 44 ∨ Lt n a (p + nl (Lt n a) p) = 59
        · rw [if_pos hs, if_pos hs]
          by_cases h5 : 5 ≤ idx
          · rw [if_pos h5]
            refine bad _ (fun l h => ?_)
            cases hl : lst (Lt n a) e f (p + nl (Lt n a) p + 1) with
            | none => rw [hl] at h; cases h
            | some l' =>
              rw [hl] at h
              injection h with h
              subst h
              show 5 < idx + (l'.length + 1)
              omega
          · rw [if_neg h5]
            have ho : xoffs m (mI (mI m 3 idx (nv (Lt n a) p)) 1 3 (nI (idx + 1))) := ⟨⟨by rw [mI_2, mI_2], fun k hk => by rw [mI_ne k (by omega), mI_ne k (by omega)]⟩, fun j hj => by rw [mI_j hj, mI_ne 1 (by omega)]⟩
            obtain ⟨r, m', e1, e2, e3, e4, e5⟩ := ih (p + nl (Lt n a) p + 1) (idx + 1) q _ (by omega) (by omega) (by omega) (by omega) (ho.tx ht) mI_s
            refine ⟨r, m', e1, ho.tr e2, fun i hii => ?_, fun hr => ?_, fun l hl h6 => ?_⟩
            · rw [e3 i (by omega), mI_ne 3 (by omega), mI_j (by omega)]
            · obtain ⟨l', hl', hl5⟩ := e4 hr
              rw [hl']
              exact ⟨nv (Lt n a) p :: l', rfl, by show idx + (l'.length + 1) ≤ 5; omega⟩
            · cases hl' : lst (Lt n a) e f (p + nl (Lt n a) p + 1) with
              | none => rw [hl'] at hl; cases hl
              | some l' =>
                rw [hl'] at hl
                injection hl with hl
                subst hl
                have h6' : idx + (l'.length + 1) ≤ 5 := h6
                obtain ⟨g1, g2, g3⟩ := e5 l' hl' (by omega)
                refine ⟨g1, ?_, fun i hi' => ?_⟩
                · rw [g2]
                  show nI (idx + 1 + l'.length) = nI (idx + (l'.length + 1))
                  rw [show idx + 1 + l'.length = idx + (l'.length + 1) by omega]
                · cases i with
                  | zero =>
                    rw [Nat.add_zero, e3 idx (by omega), mI_ne 3 (by omega), mI_s]
                    rfl
                  | succ i =>
                    have := g3 i (by have : i + 1 < l'.length + 1 := hi'; omega)
                    rw [show idx + (i + 1) = idx + 1 + i by omega, this]
                    rfl
        · rw [if_neg hs, if_neg hs]
          exact bad none (fun l h => by cases h)
/-! what the reference takes, as one question -/
def okR (L : Nat → Int32) : List (Int32 × Int32) → Nat → Bool
  | [], _ => false
  | [r], p => okN L r.1 r.2 59 p
  | r :: s :: R, p => okN L r.1 r.2 44 p && okR L (s :: R) (p + nl L p + 1)
def vlR (L : Nat → Int32) : List (Int32 × Int32) → Nat → List Int32
  | [], _ => []
  | _ :: R, p => nv L p :: vlR L R (p + nl L p + 1)
def enR (L : Nat → Int32) : List (Int32 × Int32) → Nat → Nat
  | [], p => p
  | _ :: R, p => enR L R (p + nl L p + 1)
def inR : List (Int32 × Int32) → List Int32 → Bool
  | [], [] => true
  | r :: R, v :: l => rgi v r.1.toInt r.2.toInt && inR R l
  | _, _ => false
theorem okN_t {L : Nat → Int32} {lo hi t : Int32} {p : Nat} : okN L lo hi t p = true ↔ 1 ≤ nl L p ∧ rgi (nv L p) lo.toInt hi.toInt = true ∧ L (p + nl L p) = t := by
  unfold okN
  simp [Bool.and_eq_true]
theorem okR_fwd {L : Nat → Int32} {e : Nat} (he : L e = 59) : ∀ (R : List (Int32 × Int32)) (p f : Nat), p ≤ e → (∀ j, p ≤ j → j < e → L j ≠ 59) → e + 1 < p + f → okR L R p = true → lst L e f p = some (vlR L R p) ∧ inR R (vlR L R p) = true ∧ enR L R p = e + 1
  | [], p, f, _, _, _, h => by cases h
  | [r], p, f, hp, hf, hfu, h => by
    obtain ⟨h1, h2, h3⟩ := okN_t.mp h
    have hne := nl_e he hp
    have hq : p + nl L p = e := by
      rcases Nat.lt_or_ge (p + nl L p) e with z | z
      · exact absurd h3 (hf _ (by omega) z)
      · omega
    obtain ⟨f, rfl⟩ : ∃ f', f = f' + 2 := ⟨f - 2, by omega⟩
    refine ⟨?_, ?_, ?_⟩
    · rw [lst_s, if_neg (by omega), if_neg (by omega), if_pos (Or.inr h3), lst_s, if_pos (by omega)]
      rfl
    · show (rgi (nv L p) r.1.toInt r.2.toInt && true) = true
      rw [h2]; rfl
    · show p + nl L p + 1 = e + 1
      omega
  | r :: s :: R, p, f, hp, hf, hfu, h => by
    have h : (okN L r.1 r.2 44 p && okR L (s :: R) (p + nl L p + 1)) = true := h
    rw [Bool.and_eq_true] at h
    obtain ⟨h1, h2, h3⟩ := okN_t.mp h.1
    have hne := nl_e he hp
    have hq : p + nl L p < e := by
      rcases Nat.lt_or_ge (p + nl L p) e with z | z
      · exact z
      · rw [show p + nl L p = e by omega, he] at h3
        exact absurd h3 (by decide)
    obtain ⟨f, rfl⟩ : ∃ f', f = f' + 1 := ⟨f - 1, by omega⟩
    obtain ⟨g1, g2, g3⟩ := okR_fwd he (s :: R) (p + nl L p + 1) f (by omega) (fun j a b => hf j (by omega) b) (by omega) h.2
    refine ⟨?_, ?_, g3⟩
    · rw [lst_s, if_neg (by omega), if_neg (by omega), if_pos (Or.inl h3), g1]
      rfl
    · show (rgi (nv L p) r.1.toInt r.2.toInt && inR (s :: R) (vlR L (s :: R) (p + nl L p + 1))) = true
      rw [h2, g2]; rfl
theorem okR_bwd {L : Nat → Int32} {e : Nat} (he : L e = 59) : ∀ (R : List (Int32 × Int32)) (p f : Nat) (l : List Int32), R ≠ [] → p ≤ e → (∀ j, p ≤ j → j < e → L j ≠ 59) → lst L e f p = some l → inR R l = true → okR L R p = true
  | [], _, _, _, hR, _, _, _, _ => absurd rfl hR
  | r :: R, p, 0, l, _, _, _, hl, _ => by cases hl
  | r :: R, p, f + 1, l, _, hp, hf, hl, hin => by
    rw [lst_s, if_neg (by omega)] at hl
    by_cases h0 : nl L p = 0
    · rw [if_pos h0] at hl; cases hl
    · rw [if_neg h0] at hl
      have hne := nl_e he hp
      by_cases hs : L (p + nl L p) = 44 ∨ L (p + nl L p) = 59
      · rw [if_pos hs] at hl
        cases hl' : lst L e f (p + nl L p + 1) with
        | none => rw [hl'] at hl; cases hl
        | some l' =>
          rw [hl'] at hl
          injection hl with hl
          subst hl
          have hin : (rgi (nv L p) r.1.toInt r.2.toInt && inR R l') = true := hin
          rw [Bool.and_eq_true] at hin
          cases R with
          | nil =>
            cases l' with
            | cons v l'' => have := hin.2; cases this
            | nil =>
              -- nothing behind it: here is the semicolon
              have hpe : p + nl L p = e := by
                cases f with
                | zero => cases hl'
                | succ f =>
                  rw [lst_s] at hl'
                  by_cases z : p + nl L p + 1 = e + 1
                  · omega
                  · rw [if_neg z] at hl'
                    split at hl'
                    · cases hl'
                    · split at hl'
                      · cases hq : lst L e f (p + nl L p + 1 + nl L (p + nl L p + 1) + 1) with
                        | none => rw [hq] at hl'; cases hl'
                        | some x => rw [hq] at hl'; cases hl'
                      · cases hl'
              exact okN_t.mpr ⟨by omega, hin.1, by rw [hpe]; exact he⟩
          | cons s R =>
            have hlt : p + nl L p < e := by
              rcases Nat.lt_or_ge (p + nl L p) e with z | z
              · exact z
              · exfalso
                have hz : p + nl L p + 1 = e + 1 := by omega
                cases f with
                | zero => cases hl'
                | succ f =>
                  rw [lst_s, if_pos hz] at hl'
                  injection hl' with hl'
                  subst hl'
                  have := hin.2
                  cases this
            have h44 : L (p + nl L p) = 44 := by
              rcases hs with z | z
              · exact z
              · exact absurd z (hf _ (by omega) hlt)
            have ih := okR_bwd he (s :: R) (p + nl L p + 1) f l' (by simp) (by omega) (fun j a b => hf j (by omega) b) hl' hin.2
            show (okN L r.1 r.2 44 p && okR L (s :: R) (p + nl L p + 1)) = true
            rw [Bool.and_eq_true]
            exact ⟨okN_t.mpr ⟨by omega, hin.1, h44⟩, ih⟩
      · rw [if_neg hs] at hl; cases hl
theorem okR_none {L : Nat → Int32} : ∀ (R : List (Int32 × Int32)) (p : Nat), (∀ j, p ≤ j → L j ≠ 59) → okR L R p = false
  | [], _, _ => rfl
  | [r], p, h => by
    cases hq : okR L [r] p with
    | false => rfl
    | true => exact absurd (okN_t.mp hq).2.2 (h _ (by omega))
  | r :: s :: R, p, h => by
    show (okN L r.1 r.2 44 p && okR L (s :: R) (p + nl L p + 1)) = false
    rw [okR_none (s :: R) (p + nl L p + 1) (fun j hj => h j (by omega)), Bool.and_false]
