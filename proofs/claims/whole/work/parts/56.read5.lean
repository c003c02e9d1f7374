theorem x_tell {K nc nf : Nat} {r c ch : Int32} {l : List Int32} {m : Mem} (hK : 4 ≤ K) (hc : CX K nc nf r c m) (hnc : nc ≤ 3) (hnf : nf ≤ 7) (hl : l.length ≤ 5) (h1 : m.1 1 3 = nI l.length) (h3 : ∀ i, i < l.length → m.1 3 i = l.getD i 0) :
    ∃ m', f_X6_tell K ch m = some (b2i (told ch nc nf r c l), m') ∧ xfr K m m' ∧ (told ch nc nf r c l = true → xafter K ch nc nf l m m') := by
  have bad : ∀ b : Bool, b = false → ∃ m', some ((0 : Int32), m) = some (b2i b, m') ∧ xfr K m m' ∧ (b = true → xafter K ch nc nf l m m') := fun b hb => ⟨m, by rw [hb]; rfl, xfr.rf, fun q => by rw [hb] at q; cases q⟩
  have two : ∀ k, k < 8 → ¬ l.length = k → ¬ nI l.length = nI k := fun k hk hne e => hne (nI_inj (by omega) (by omega) e)
  unfold f_X6_tell
  by_cases h103 : ch = 103
  · rw [if_pos h103]
    by_cases hlen : l.length = 2
    · rw [if_pos (by rw [h1, hlen]; rfl)]
      obtain ⟨x, y, rfl⟩ : ∃ x y, l = [x, y] := by
        match l, hlen with
        | [x, y], _ => exact ⟨x, y, rfl⟩
      rw [show m.1 3 0 = x from h3 0 (by simp), show m.1 3 1 = y from h3 1 (by simp)]
      obtain ⟨m', e1, e2, e3⟩ := x_build (x := x) (y := y) hc hnc hnf
      have ht : told ch nc nf r c [x, y] = (decide (nc + nf = 0) && (rgi x 1 6 && (rgi y 1 6 && true))) := by
        unfold told wants
        rw [if_pos h103]
        by_cases z : nc + nf = 0
        · rw [if_pos z, decide_eq_true z]; rfl
        · rw [if_neg z, decide_eq_false z]; rfl
      rw [e1, fl_bd_s, ht]
      refine ⟨m', ?_, ⟨fun k _ _ hk => e2 k (by omega), fun j _ => by rw [e2 1 (by omega)]⟩, fun hb => ?_⟩
      · cases (decide (nc + nf = 0) && (rgi x 1 6 && (rgi y 1 6 && true))) <;> rfl
      · obtain ⟨a, b, d, g⟩ := e3 hb
        unfold xafter
        rw [if_pos h103]
        exact ⟨a, b, d, g, fun k hk => e2 k (by omega)⟩
    · rw [if_neg (show ¬ m.1 1 3 = (2 : Int32) by rw [h1]; exact two 2 (by omega) hlen)]
      refine bad _ ?_
      unfold told wants
      rw [if_pos h103]
      by_cases z : nc + nf = 0
      · rw [if_pos z]
        match l, hlen with
        | [], _ => rfl
        | [x], _ => show (rgi x _ _ && false) = false; simp
        | [x, y], h => exact absurd rfl h
        | x :: y :: w :: l, _ => show (rgi x _ _ && (rgi y _ _ && false)) = false; simp
      · rw [if_neg z]
  · rw [if_neg h103]
    by_cases h99 : ch = 99
    · rw [if_pos h99]
      by_cases hlen : l.length = 3
      · rw [if_pos (by rw [h1, hlen]; rfl)]
        obtain ⟨x, y, w, rfl⟩ : ∃ x y w, l = [x, y, w] := by
          match l, hlen with
          | [x, y, w], _ => exact ⟨x, y, w, rfl⟩
        rw [show m.1 3 0 = x from h3 0 (by simp), show m.1 3 1 = y from h3 1 (by simp), show m.1 3 2 = w from h3 2 (by simp)]
        obtain ⟨m', e1, e2, e3⟩ := x_addCab (x := x) (y := y) (z := w) hc hnc
        have ht : told ch nc nf r c [x, y, w] = (!decide (nc = 3) && (rgi x 0 2 && (rgi y 0 (zone r c).toInt && (rgi w 0 (zone r c).toInt && true)))) := by
          unfold told wants
          rw [if_neg h103, if_pos h99]
          by_cases z : nc = 3
          · rw [if_pos z, decide_eq_true z]; rfl
          · rw [if_neg z, decide_eq_false z]; rfl
        rw [e1, fl_bd_s, ht]
        refine ⟨m', ?_, ⟨fun k _ _ hk => e2 k (by omega) (by omega) (by omega) (by omega), fun j _ => by rw [e2 1 (by omega) (by omega) (by omega) (by omega)]⟩, fun hb => ?_⟩
        · cases (!decide (nc = 3) && (rgi x 0 2 && (rgi y 0 (zone r c).toInt && (rgi w 0 (zone r c).toInt && true)))) <;> rfl
        · obtain ⟨a, b, d, g, g1, g2, g3⟩ := e3 hb
          unfold xafter
          rw [if_neg h103, if_pos h99]
          exact ⟨a, b, d, g, g1, g2, g3, fun k hk => e2 k (by omega) (by omega) (by omega) (by omega)⟩
      · rw [if_neg (show ¬ m.1 1 3 = (3 : Int32) by rw [h1]; exact two 3 (by omega) hlen)]
        refine bad _ ?_
        unfold told wants
        rw [if_neg h103, if_pos h99]
        by_cases z : nc = 3
        · rw [if_pos z]
        · rw [if_neg z]
          match l, hlen with
          | [], _ => rfl
          | [x], _ => show (rgi x _ _ && false) = false; simp
          | [x, y], _ => show (rgi x _ _ && (rgi y _ _ && false)) = false; simp
          | [x, y, w], h => exact absurd rfl h
          | x :: y :: w :: v :: l, _ => show (rgi x _ _ && (rgi y _ _ && (rgi w _ _ && false))) = false; simp
    · rw [if_neg h99]
      by_cases h102 : ch = 102
      · rw [if_pos h102]
        by_cases hlen : l.length = 5
        · rw [if_pos (by rw [h1, hlen]; rfl)]
          obtain ⟨x, y, w, u, v, rfl⟩ : ∃ x y w u v, l = [x, y, w, u, v] := by
            match l, hlen with
            | [x, y, w, u, v], _ => exact ⟨x, y, w, u, v, rfl⟩
          obtain ⟨m', e1, e2, e3⟩ := x_addFare (x := x) (y := y) (z := w) (u := u) (v := v) hK hc hnf (h3 0 (by simp)) (h3 1 (by simp)) (h3 2 (by simp)) (h3 3 (by simp)) (h3 4 (by simp))
          have ht : told ch nc nf r c [x, y, w, u, v] = (!decide (nf = 7) && (rgi x 0 3 && (rgi y 0 (zone r c).toInt && (rgi w 0 (zone r c).toInt && (rgi u 0 99 && (rgi v 0 60 && true)))))) := by
            unfold told wants
            rw [if_neg h103, if_neg h99, if_pos h102]
            by_cases z : nf = 7
            · rw [if_pos z, decide_eq_true z]; rfl
            · rw [if_neg z, decide_eq_false z]; rfl
          rw [e1, fl_bd_s, ht]
          refine ⟨m', ?_, ⟨fun k _ _ hk => e2 k (by omega) (by omega) (by omega) (by omega) (by omega) (by omega), fun j _ => by rw [e2 1 (by omega) (by omega) (by omega) (by omega) (by omega) (by omega)]⟩, fun hb => ?_⟩
          · cases (!decide (nf = 7) && (rgi x 0 3 && (rgi y 0 (zone r c).toInt && (rgi w 0 (zone r c).toInt && (rgi u 0 99 && (rgi v 0 60 && true)))))) <;> rfl
          · obtain ⟨a, b, d, g, g1, g2, g3, g4, g5⟩ := e3 hb
            unfold xafter
            rw [if_neg h103, if_neg h99]
            exact ⟨a, b, d, g, fun k hk hk2 => e2 k (by omega) (by omega) (by omega) (by omega) (by omega) (by omega), g1, g2, g3, g4, g5⟩
        · rw [if_neg (show ¬ m.1 1 3 = (5 : Int32) by rw [h1]; exact two 5 (by omega) hlen)]
          refine bad _ ?_
          unfold told wants
          rw [if_neg h103, if_neg h99, if_pos h102]
          by_cases z : nf = 7
          · rw [if_pos z]
          · rw [if_neg z]
            match l, hlen with
            | [], _ => rfl
            | [x], _ => show (rgi x _ _ && false) = false; simp
            | [x, y], _ => show (rgi x _ _ && (rgi y _ _ && false)) = false; simp
            | [x, y, w], _ => show (rgi x _ _ && (rgi y _ _ && (rgi w _ _ && false))) = false; simp
            | [x, y, w, u], _ => show (rgi x _ _ && (rgi y _ _ && (rgi w _ _ && (rgi u _ _ && false)))) = false; simp
            | [x, y, w, u, v], h => exact absurd rfl h
            | x :: y :: w :: u :: v :: g :: l, _ => show (rgi x _ _ && (rgi y _ _ && (rgi w _ _ && (rgi u _ _ && (rgi v _ _ && false))))) = false; simp
      · rw [if_neg h102]
        refine bad _ ?_
        unfold told wants
        rw [if_neg h103, if_neg h99, if_neg h102]
theorem inR_len : ∀ (R : List (Int32 × Int32)) (l : List Int32), inR R l = true → l.length = R.length
  | [], [], _ => rfl
  | [], _ :: _, h => by cases h
  | _ :: _, [], h => by cases h
  | r :: R, v :: l, h => by
    have h : (rgi v r.1.toInt r.2.toInt && inR R l) = true := h
    rw [Bool.and_eq_true] at h
    show l.length + 1 = R.length + 1
    rw [inR_len R l h.2]
theorem wants_len {ch r c : Int32} {nc nf : Nat} {R : List (Int32 × Int32)} (h : wants ch nc nf r c = some R) : R ≠ [] ∧ R.length ≤ 5 := by
  unfold wants at h
  repeat' (split at h)
  all_goals first
    | (cases h; done)
    | (injection h with h; subst h; exact ⟨by simp, by simp⟩)
/-- the class reads and is told one item, up to its semicolon at e -/
theorem x_item {N n p e K nc nf : Nat} {a : Nat → Int32} {r c : Int32} {m : Mem} (hN : 300 ≤ N) (hK : 4 ≤ K) (hn : n ≤ 200) (hp : p ≤ e) (he : e < n) (hLe : Lt n a e = 59) (hf : ∀ j, p ≤ j → j < e → Lt n a j ≠ 59) (ht : TX n a m) (hc : CX K nc nf r c m) (hnc : nc ≤ 3) (hnf : nf ≤ 7) :
    ∃ s m1, f_X6_readNumbers N (nI p) (nI e) m = some (b2i s, m1) ∧ xfr K m m1 ∧ (s = false → itm (Lt n a) (a p) nc nf r c (p + 1) = false) ∧ (s = true → ∃ m', f_X6_tell K (m1.1 2 p) m1 = some (b2i (itm (Lt n a) (a p) nc nf r c (p + 1)), m') ∧ xfr K m m' ∧ (itm (Lt n a) (a p) nc nf r c (p + 1) = true → ∃ R, wants (a p) nc nf r c = some R ∧ enR (Lt n a) R (p + 1) = e + 1 ∧ inR R (vlR (Lt n a) R (p + 1)) = true ∧ xafter K (a p) nc nf (vlR (Lt n a) R (p + 1)) m m')) := by
  have ho0 : xoffs m (mI m 1 3 0) := ⟨⟨by rw [mI_2], fun k hk => mI_ne k (by omega)⟩, fun j hj => mI_j hj⟩
  obtain ⟨s, m1, e1, o1, -, e4, e5⟩ := x_nums (N := N) hn he hLe 300 (p + 1) 0 N (mI m 1 3 0) (by omega) (by omega) (by omega) (by omega) (ho0.tx ht) mI_s
  have ho := ho0.tr o1
  have hcX : CX K nc nf r c m1 := by
    obtain ⟨c1, c2, c3, c4⟩ := hc
    have hk : m1.1 K = m.1 K := ho.1.2 K (by omega)
    exact ⟨by rw [hk]; exact c1, by rw [hk]; exact c2, by rw [hk]; exact c3, by rw [hk]; exact c4⟩
  -- what the list says
  have hitm : ∀ l, lst (Lt n a) e 300 (p + 1) = some l → (told (a p) nc nf r c l = itm (Lt n a) (a p) nc nf r c (p + 1)) := by
    intro l hl
    unfold told itm
    cases hw : wants (a p) nc nf r c with
    | none => rfl
    | some R =>
      obtain ⟨hR1, hR2⟩ := wants_len hw
      have hpe : p + 1 ≤ e := by
        rcases Nat.lt_or_ge p e with z | z
        · omega
        · exfalso
          have hpe : p = e := by omega
          have ha : a p = 59 := by rw [← hLe, hpe, lt_in he]
          unfold wants at hw
          rw [ha, if_neg (by decide), if_neg (by decide), if_neg (by decide)] at hw
          cases hw
      show inR R l = okR (Lt n a) R (p + 1)
      cases hi : inR R l with
      | true => exact (okR_bwd hLe R (p + 1) 300 l hR1 hpe (fun j x y => hf j (by omega) y) hl hi).symm
      | false =>
        cases ho' : okR (Lt n a) R (p + 1) with
        | false => rfl
        | true =>
          obtain ⟨g1, g2, -⟩ := okR_fwd hLe R (p + 1) 300 hpe (fun j x y => hf j (by omega) y) (by omega) ho'
          rw [hl] at g1
          injection g1 with g1
          rw [g1, g2] at hi
          cases hi
  have hgood : itm (Lt n a) (a p) nc nf r c (p + 1) = true → ∃ R, wants (a p) nc nf r c = some R ∧ enR (Lt n a) R (p + 1) = e + 1 ∧ inR R (vlR (Lt n a) R (p + 1)) = true ∧ lst (Lt n a) e 300 (p + 1) = some (vlR (Lt n a) R (p + 1)) := by
    intro hb
    unfold itm at hb
    cases hw : wants (a p) nc nf r c with
    | none => rw [hw] at hb; cases hb
    | some R =>
      rw [hw] at hb
      have hpe : p + 1 ≤ e := by
        rcases Nat.lt_or_ge p e with z | z
        · omega
        · exfalso
          have hpe : p = e := by omega
          have ha : a p = 59 := by rw [← hLe, hpe, lt_in he]
          unfold wants at hw
          rw [ha, if_neg (by decide), if_neg (by decide), if_neg (by decide)] at hw
          cases hw
      obtain ⟨g1, g2, g3⟩ := okR_fwd hLe R (p + 1) 300 hpe (fun j x y => hf j (by omega) y) (by omega) hb
      exact ⟨R, rfl, g3, g2, g1⟩
  refine ⟨s, m1, ?_, ho.fr, fun hs => ?_, fun hs => ?_⟩
  · unfold f_X6_readNumbers
    simp only [fl_lm, fl_li]
    rw [nI_1 p]
    exact e1
  · cases hb : itm (Lt n a) (a p) nc nf r c (p + 1) with
    | false => rfl
    | true =>
      obtain ⟨R, g1, g2, g3, g4⟩ := hgood hb
      have hlen := inR_len _ _ g3
      have hw := wants_len g1
      have := (e5 _ g4 (by omega)).1
      rw [hs] at this
      cases this
  · obtain ⟨l, hl, hl5⟩ := e4 hs
    obtain ⟨-, h13, h3⟩ := e5 l hl hl5
    have ha : m1.1 2 p = a p := (ho.tx ht).2 p (by omega)
    obtain ⟨m', t1, t2, t3⟩ := x_tell (ch := a p) (l := l) hK hcX hnc hnf (by omega) (by rw [h13, Nat.zero_add]) (fun i hi => by have := h3 i hi; rw [Nat.zero_add] at this; exact this)
    rw [hitm l hl] at t1 t3
    refine ⟨m', by rw [ha]; exact t1, (ho.fr (K := K)).tr t2, fun hb => ?_⟩
    obtain ⟨R, g1, g2, g3, g4⟩ := hgood hb
    refine ⟨R, g1, g2, g3, ?_⟩
    rw [hl] at g4
    injection g4 with g4
    have := t3 hb
    rw [g4] at this
    have hk : ∀ k, k ≠ 1 → k ≠ 3 → m1.1 k = m.1 k := fun k x y => ho.1.2 k (by omega)
    unfold xafter at this ⊢
    rw [hk K (by omega) (by omega)] at this
    by_cases h103 : a p = 103
    · rw [if_pos h103] at this ⊢
      obtain ⟨x1, x2, x3, x4, x5⟩ := this
      exact ⟨x1, x2, x3, x4, fun k h => (x5 k h).trans (hk k (by omega) (by omega))⟩
    · rw [if_neg h103] at this ⊢
      by_cases h99 : a p = 99
      · rw [if_pos h99] at this ⊢
        rw [hk (K + 1) (by omega) (by omega), hk (K + 2) (by omega) (by omega), hk (K + 3) (by omega) (by omega)] at this
        obtain ⟨x1, x2, x3, x4, x5, x6, x7, x8⟩ := this
        exact ⟨x1, x2, x3, x4, x5, x6, x7, fun k h => (x8 k h).trans (hk k (by omega) (by omega))⟩
      · rw [if_neg h99] at this ⊢
        rw [hk (K + 4) (by omega) (by omega), hk (K + 5) (by omega) (by omega), hk (K + 6) (by omega) (by omega), hk (K + 7) (by omega) (by omega), hk (K + 8) (by omega) (by omega)] at this
        obtain ⟨x1, x2, x3, x4, x5, x6, x7, x8, x9, x10⟩ := this
        exact ⟨x1, x2, x3, x4, fun k h h2 => (x5 k h h2).trans (hk k (by omega) (by omega)), x6, x7, x8, x9, x10⟩
