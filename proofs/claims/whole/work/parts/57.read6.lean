/-! the whole text, read by both -/
def CRd (K nc nf : Nat) (mx mm : Mem) : Prop := nc ≤ 3 ∧ nf ≤ 7 ∧ CX K nc nf (mm.1 0 21) (mm.1 0 22) mx ∧ RD_ nc nf (mm.1 0 21) (mm.1 0 22) mm ∧ wdt (mm.1 0 21) ∧ wdt (mm.1 0 22) ∧ (∀ c, c < nc → mx.1 (K + 1) c = mm.1 12 (3 * c) ∧ mx.1 (K + 2) c = mm.1 12 (3 * c + 1) ∧ mx.1 (K + 3) c = (if mm.1 12 (3 * c + 2) = mm.1 12 (3 * c + 1) then -4 else mm.1 12 (3 * c + 2))) ∧
  ∀ f, f < nf → mx.1 (K + 4) f = mm.1 13 (5 * f) ∧ mx.1 (K + 5) f = mm.1 13 (5 * f + 1) ∧ mx.1 (K + 6) f = mm.1 13 (5 * f + 2) ∧ mx.1 (K + 7) f = mm.1 13 (5 * f + 3) ∧ mx.1 (K + 8) f = mm.1 13 (5 * f + 4) ∧ pl (mx.1 (K + 5) f) ∧ pl (mx.1 (K + 6) f) ∧ (0 ≤ (mx.1 (K + 7) f).toInt ∧ (mx.1 (K + 7) f).toInt ≤ 99) ∧ (0 ≤ (mx.1 (K + 8) f).toInt ∧ (mx.1 (K + 8) f).toInt ≤ 60)
def RWx (K : Nat) (mx : Mem) : Prop := ∀ c, c < 3 → pl (mx.1 (K + 2) c) ∧ nowh (mx.1 (K + 3) c)
theorem zone_pl {r c y : Int32} (hr : wdt r) (hc : wdt c) (h : rgi y 0 (zone r c).toInt = true) : pl y := by
  have h36 := nPl_b hr hc
  have hz : (zone r c).toInt = (nPl r c : Int) - 1 := by
    unfold zone
    rw [h36.1, nI_m1 (by omega)]
  have := of_decide_eq_true h
  rw [hz] at this
  exact ⟨this.1, by have := this.2; omega⟩
theorem crd_step {K nc nf : Nat} {ch : Int32} {mx mm mx' mm' : Mem} {R : List (Int32 × Int32)} {l : List Int32} (h : CRd K nc nf mx mm) (hw : wants ch nc nf (mm.1 0 21) (mm.1 0 22) = some R) (hin : inR R l = true) (hx : xafter K ch nc nf l mx mx') (hm : after ch nc nf l mm mm') : ∃ nc' nf', CRd K nc' nf' mx' mm' ∧ (RWx K mx → RWx K mx') := by
  obtain ⟨h1, h2, ⟨c1, c2, c3, c4⟩, ⟨d1, d2, d3, d4⟩, w1, w2, hc, hf⟩ := h
  unfold wants at hw
  unfold xafter at hx
  unfold after at hm
  by_cases h103 : ch = 103
  · rw [if_pos h103] at hw hx hm
    by_cases z : nc + nf = 0
    · rw [if_pos z] at hw
      injection hw with hw
      subst hw
      obtain ⟨x, y, rfl⟩ : ∃ x y, l = [x, y] := by
        have hl := inR_len _ _ hin
        match l, hl with
        | [x, y], _ => exact ⟨x, y, rfl⟩
      have hin : (rgi x 1 6 && (rgi y 1 6 && true)) = true := hin
      simp only [Bool.and_eq_true] at hin
      have wx : 1 ≤ x.toInt ∧ x.toInt ≤ 6 := of_decide_eq_true hin.1
      have wy : 1 ≤ y.toInt ∧ y.toInt ≤ 6 := of_decide_eq_true hin.2.1
      obtain ⟨x1, x2, x3, x4, x5⟩ := hx
      obtain ⟨⟨m1, m2, m3, m4⟩, m5, m6⟩ := hm
      have m1 : mm'.1 0 21 = x := m1
      have m2 : mm'.1 0 22 = y := m2
      refine ⟨nc, nf, ⟨h1, h2, ⟨by rw [m1]; exact x1, by rw [m2]; exact x2, by rw [x3]; exact c3, by rw [x4]; exact c4⟩, ⟨rfl, rfl, m3, m4⟩, by rw [m1]; exact wx, by rw [m2]; exact wy, fun c hcc => by omega, fun f hff => by omega⟩, fun hrw c hcc => ?_⟩
      rw [x5 _ (by omega), x5 _ (by omega)]
      exact hrw c hcc
    · rw [if_neg z] at hw; cases hw
  · rw [if_neg h103] at hw hx hm
    by_cases h99 : ch = 99
    · rw [if_pos h99] at hw hx hm
      by_cases z : nc = 3
      · rw [if_pos z] at hw; cases hw
      · rw [if_neg z] at hw
        injection hw with hw
        subst hw
        obtain ⟨x, y, w, rfl⟩ : ∃ x y w, l = [x, y, w] := by
          have hl := inR_len _ _ hin
          match l, hl with
          | [x, y, w], _ => exact ⟨x, y, w, rfl⟩
        have hin : (rgi x 0 2 && (rgi y 0 (zone (mm.1 0 21) (mm.1 0 22)).toInt && (rgi w 0 (zone (mm.1 0 21) (mm.1 0 22)).toInt && true))) = true := hin
        simp only [Bool.and_eq_true] at hin
        have py := zone_pl w1 w2 hin.2.1
        have pw' := zone_pl w1 w2 hin.2.2.1
        obtain ⟨x1, x2, x3, x4, x5, x6, x7, x8⟩ := hx
        obtain ⟨⟨m1, m2, m3, m4⟩, m5, m6, m7, m8, m9⟩ := hm
        have x5 : mx'.1 (K + 1) = upd (mx.1 (K + 1)) nc x := x5
        have x6 : mx'.1 (K + 2) = upd (mx.1 (K + 2)) nc y := x6
        have x7 : mx'.1 (K + 3) = upd (mx.1 (K + 3)) nc (if w = y then -4 else w) := x7
        have m6 : mm'.1 12 (3 * nc) = x := m6
        have m7 : mm'.1 12 (3 * nc + 1) = y := m7
        have m8 : mm'.1 12 (3 * nc + 2) = w := m8
        refine ⟨nc + 1, nf, ⟨by omega, h2, ⟨by rw [x1, m1]; exact c1, by rw [x2, m2]; exact c2, x3, by rw [x4]; exact c4⟩, ⟨rfl, rfl, m3, m4⟩, by rw [m1]; exact w1, by rw [m2]; exact w2, fun c hcc => ?_, fun f hff => ?_⟩, fun hrw c hcc => ?_⟩
        · rw [x5, x6, x7]
          by_cases e : c = nc
          · subst e
            rw [upd_s, upd_s, upd_s, m6, m7, m8]
            exact ⟨rfl, rfl, rfl⟩
          · rw [upd_n e, upd_n e, upd_n e, m5 _ (by omega), m5 _ (by omega), m5 _ (by omega)]
            exact hc c (by omega)
        · rw [x8 _ (by omega), x8 _ (by omega), x8 _ (by omega), x8 _ (by omega), x8 _ (by omega), m9]
          exact hf f hff
        · rw [x6, x7]
          by_cases e : c = nc
          · subst e
            rw [upd_s, upd_s]
            refine ⟨py, ?_⟩
            split
            · exact Or.inl rfl
            · exact Or.inr pw'
          · rw [upd_n e, upd_n e]
            exact hrw c hcc
    · rw [if_neg h99] at hw hx hm
      by_cases h102 : ch = 102
      · rw [if_pos h102] at hw
        by_cases z : nf = 7
        · rw [if_pos z] at hw; cases hw
        · rw [if_neg z] at hw
          injection hw with hw
          subst hw
          obtain ⟨x, y, w, u, v, rfl⟩ : ∃ x y w u v, l = [x, y, w, u, v] := by
            have hl := inR_len _ _ hin
            match l, hl with
            | [x, y, w, u, v], _ => exact ⟨x, y, w, u, v, rfl⟩
          have hin : (rgi x 0 3 && (rgi y 0 (zone (mm.1 0 21) (mm.1 0 22)).toInt && (rgi w 0 (zone (mm.1 0 21) (mm.1 0 22)).toInt && (rgi u 0 99 && (rgi v 0 60 && true))))) = true := hin
          simp only [Bool.and_eq_true] at hin
          have py := zone_pl w1 w2 hin.2.1
          have pw' := zone_pl w1 w2 hin.2.2.1
          have pu : 0 ≤ u.toInt ∧ u.toInt ≤ 99 := of_decide_eq_true hin.2.2.2.1
          have pv : 0 ≤ v.toInt ∧ v.toInt ≤ 60 := of_decide_eq_true hin.2.2.2.2.1
          obtain ⟨x1, x2, x3, x4, x5, x6, x7, x8, x9, x10⟩ := hx
          obtain ⟨⟨m1, m2, m3, m4⟩, m5, m6, m7, m8, m9, m10, m11⟩ := hm
          have x6 : mx'.1 (K + 4) = upd (mx.1 (K + 4)) nf x := x6
          have x7 : mx'.1 (K + 5) = upd (mx.1 (K + 5)) nf y := x7
          have x8 : mx'.1 (K + 6) = upd (mx.1 (K + 6)) nf w := x8
          have x9 : mx'.1 (K + 7) = upd (mx.1 (K + 7)) nf u := x9
          have x10 : mx'.1 (K + 8) = upd (mx.1 (K + 8)) nf v := x10
          have m6 : mm'.1 13 (5 * nf) = x := m6
          have m7 : mm'.1 13 (5 * nf + 1) = y := m7
          have m8 : mm'.1 13 (5 * nf + 2) = w := m8
          have m9 : mm'.1 13 (5 * nf + 3) = u := m9
          have m10 : mm'.1 13 (5 * nf + 4) = v := m10
          refine ⟨nc, nf + 1, ⟨h1, by omega, ⟨by rw [x1, m1]; exact c1, by rw [x2, m2]; exact c2, by rw [x3]; exact c3, x4⟩, ⟨rfl, rfl, m3, m4⟩, by rw [m1]; exact w1, by rw [m2]; exact w2, fun c hcc => ?_, fun f hff => ?_⟩, fun hrw c hcc => ?_⟩
          · rw [x5 (K + 1) (by omega) (by omega), x5 (K + 2) (by omega) (by omega), x5 (K + 3) (by omega) (by omega), m11]
            exact hc c hcc
          · rw [x6, x7, x8, x9, x10]
            by_cases e : f = nf
            · subst e
              rw [upd_s, upd_s, upd_s, upd_s, upd_s, m6, m7, m8, m9, m10]
              exact ⟨rfl, rfl, rfl, rfl, rfl, py, pw', pu, pv⟩
            · rw [upd_n e, upd_n e, upd_n e, upd_n e, upd_n e, m5 _ (by omega), m5 _ (by omega), m5 _ (by omega), m5 _ (by omega), m5 _ (by omega)]
              exact hf f (by omega)
          · rw [x5 (K + 2) (by omega) (by omega), x5 (K + 3) (by omega) (by omega)]
            exact hrw c hcc
      · rw [if_neg h102] at hw; cases hw
theorem first59 {a : Nat → Int32} : ∀ (d p : Nat), (∀ j, p ≤ j → j < p + d → a j ≠ 59) ∨ ∃ e, p ≤ e ∧ e < p + d ∧ a e = 59 ∧ ∀ j, p ≤ j → j < e → a j ≠ 59
  | 0, p => Or.inl (fun j h1 h2 => by omega)
  | d + 1, p => by
    by_cases h : a p = 59
    · exact Or.inr ⟨p, by omega, by omega, h, fun j h1 h2 => by omega⟩
    · rcases first59 d (p + 1) with z | ⟨e, z1, z2, z3, z4⟩
      · refine Or.inl (fun j h1 h2 => ?_)
        by_cases e : j = p
        · rw [e]; exact h
        · exact z j (by omega) (by omega)
      · refine Or.inr ⟨e, by omega, by omega, z3, fun j h1 h2 => ?_⟩
        by_cases e : j = p
        · rw [e]; exact h
        · exact z4 j (by omega) h2
theorem x_scan {N n K p : Nat} {a : Nat → Int32} {m : Mem} (hn : n ≤ 200) (ht : TX n a m) : ∀ (k q j : Nat), j + k ≤ n → (∀ i, j ≤ i → i < j + k → a i ≠ 59) → l_X6_readInto N K (q + k) (nI p) (nI j) m = l_X6_readInto N K q (nI p) (nI (j + k)) m
  | 0, q, j, _, _ => rfl
  | k + 1, q, j, hj, h => by
    rw [show q + (k + 1) = (q + k) + 1 by omega]
    show B_X6_readInto_8 N K (l_X6_readInto N K (q + k)) (nI p) (nI j) m = _
    unfold B_X6_readInto_8
    rw [ht.1, if_neg (nI_ge (by omega) (by omega)), fl_ck_t (i_ckz (by omega) (by omega)), i_c (by omega), ht.2 j (by omega), if_neg (h j (by omega) (by omega)), nI_1 j, x_scan hn ht k q (j + 1) (by omega) (fun i h1 h2 => h i (by omega) (by omega)), show j + 1 + k = j + (k + 1) by omega]
theorem nI_neg4 {p : Nat} (h : p < 2147483648) : ¬ nI p = (-4 : Int32) := fun e => by
  have := congrArg Int32.toInt e
  rw [nI_toInt h] at this
  have h4 : (-4 : Int32).toInt = -4 := by decide
  omega
theorem read_l {N n K : Nat} {a : Nat → Int32} (hN : 300 ≤ N) (hK : 4 ≤ K) (hn : n ≤ 200) : ∀ (d p fx fm nc nf : Nat) (mx mm : Mem), p + d = n → d < fx → d < fm → TX n a mx → TM n a mm → mm.1 0 19 = nI p → CRd K nc nf mx mm →
    ∃ v mx' mm', l_X6_readInto N K fx (nI p) (nI p) mx = some (v, mx') ∧ l_X9_faultOf N fm mm = some (v, mm') ∧ xfr K mx mx' ∧ roffs mm mm' ∧ (v = -4 → ∃ nc' nf', CRd K nc' nf' mx' mm' ∧ (RWx K mx → RWx K mx')) := by
  intro d
  induction d using Nat.strongRecOn with
  | _ d ih =>
    intro p fx fm nc nf mx mm hp hfx hfm ht hm hpos hcr
    obtain ⟨fm, rfl⟩ : ∃ f, fm = f + 1 := ⟨fm - 1, by omega⟩
    have em : l_X9_faultOf N (fm + 1) mm = B_X9_faultOf_25 N (l_X9_faultOf N fm) mm := rfl
    rw [em]
    unfold B_X9_faultOf_25
    rw [hm.1, hpos]
    obtain ⟨h1, h2, hcx, hrd, w1, w2, hrest⟩ := id hcr
    rcases Nat.eq_zero_or_pos d with hd0 | hd0
    · subst hd0
      obtain ⟨fx, rfl⟩ : ∃ f, fx = f + 1 := ⟨fx - 1, by omega⟩
      refine ⟨-4, mx, mm, ?_, by rw [if_pos (nI_le (by omega) (by omega))], xfr.rf, roffs.rf, fun _ => ⟨nc, nf, hcr, fun h => h⟩⟩
      show B_X6_readInto_8 N K (l_X6_readInto N K fx) (nI p) (nI p) mx = _
      unfold B_X6_readInto_8
      rw [ht.1, if_pos (nI_le (by omega) (by omega)), if_pos (nI_le (by omega) (by omega))]
    rw [if_neg (nI_ge (by omega) (by omega))]
    obtain ⟨mm1, e1, o1, g1⟩ := m_item (N := N) (by omega) hn (show p < n by omega) hm hpos hrd h1 h2
    simp only [fl_li]
    rw [e1, fl_bd_s]
    have fail : itm (Lt n a) (a p) nc nf (mm.1 0 21) (mm.1 0 22) (p + 1) = false → ∀ mx1, l_X6_readInto N K fx (nI p) (nI p) mx = some (nI p, mx1) → xfr K mx mx1 → ∃ v mx' mm', l_X6_readInto N K fx (nI p) (nI p) mx = some (v, mx') ∧ (if b2i (itm (Lt n a) (a p) nc nf (mm.1 0 21) (mm.1 0 22) (p + 1)) = 0 then some (nI p, mm1) else l_X9_faultOf N fm mm1) = some (v, mm') ∧ xfr K mx mx' ∧ roffs mm mm' ∧ (v = -4 → ∃ nc' nf', CRd K nc' nf' mx' mm' ∧ (RWx K mx → RWx K mx')) := fun hb mx1 hx ho => ⟨nI p, mx1, mm1, hx, by rw [hb, if_pos (show b2i false = 0 from rfl)], ho, o1, fun z => absurd z (nI_neg4 (by omega))⟩
    rcases first59 (a := a) d p with hno | ⟨e, he1, he2, he3, he4⟩
    · -- no semicolon any more
      have hL : ∀ j, p + 1 ≤ j → Lt n a j ≠ 59 := fun j hj => by
        by_cases hc : j < n
        · rw [lt_in hc]; exact hno j (by omega) (by omega)
        · have : Lt n a j = -1 := if_neg hc
          rw [this]; decide
      have hb : itm (Lt n a) (a p) nc nf (mm.1 0 21) (mm.1 0 22) (p + 1) = false := by
        unfold itm
        cases wants (a p) nc nf (mm.1 0 21) (mm.1 0 22) with
        | none => rfl
        | some R => exact okR_none R (p + 1) hL
      refine fail hb mx ?_ xfr.rf
      obtain ⟨q, rfl⟩ : ∃ q, fx = (q + 1) + d := ⟨fx - d - 1, by omega⟩
      rw [x_scan hn ht d (q + 1) p (by omega) hno]
      show B_X6_readInto_8 N K (l_X6_readInto N K q) (nI p) (nI (p + d)) mx = _
      unfold B_X6_readInto_8
      rw [ht.1, if_pos (nI_le (by omega) (by omega)), if_neg (nI_ge (by omega) (by omega))]
    · have hen : e < n := by omega
      obtain ⟨s, m1, s1, s2, s3, s4⟩ := x_item (N := N) (K := K) hN hK hn he1 hen (by rw [lt_in hen]; exact he3) (fun j x y => by rw [lt_in (by omega)]; exact he4 j x y) ht hcx h1 h2
      obtain ⟨q, rfl⟩ : ∃ q, fx = (q + 1) + (e - p) := ⟨fx - (e - p) - 1, by omega⟩
      have ex : l_X6_readInto N K ((q + 1) + (e - p)) (nI p) (nI p) mx = B_X6_readInto_8 N K (l_X6_readInto N K q) (nI p) (nI e) mx := by
        rw [x_scan hn ht (e - p) (q + 1) p (by omega) (fun i x y => he4 i x (by omega)), show p + (e - p) = e by omega]
        rfl
      rw [ex] at fail ⊢
      have hB : B_X6_readInto_8 N K (l_X6_readInto N K q) (nI p) (nI e) mx = (if b2i s = 0 then some (nI p, m1) else fl_bd (f_X6_tell K (m1.1 2 p) m1) (fun r13 m14 => if r13 = 0 then some (nI p, m14) else l_X6_readInto N K q (nI (e + 1)) (nI (e + 1)) m14)) := by
        unfold B_X6_readInto_8
        rw [ht.1, if_neg (nI_ge hen (by omega)), fl_ck_t (i_ckz (by omega) (by omega)), i_c (by omega), ht.2 e hen, if_pos he3, s1, fl_bd_s, fl_ck_t (i_ckz (by omega) (by omega)), i_c (by omega), nI_1 e]
        rfl
      rw [hB] at fail ⊢
      cases hs : s with
      | false =>
        rw [hs, if_pos (show b2i false = 0 from rfl)] at fail
        rw [if_pos (show b2i false = 0 from rfl)]
        exact fail (s3 hs) m1 rfl s2
      | true =>
        obtain ⟨m2, t1, t2, t3⟩ := s4 hs
        rw [hs, if_neg (show ¬ b2i true = 0 by decide), t1, fl_bd_s] at fail
        rw [if_neg (show ¬ b2i true = 0 by decide), t1, fl_bd_s]
        cases hb : itm (Lt n a) (a p) nc nf (mm.1 0 21) (mm.1 0 22) (p + 1) with
        | false =>
          rw [hb, if_pos (show b2i false = 0 from rfl), if_pos (show b2i false = 0 from rfl)] at fail
          rw [if_pos (show b2i false = 0 from rfl), if_pos (show b2i false = 0 from rfl)]
          exact fail rfl m2 rfl t2
        | true =>
          rw [if_neg (show ¬ b2i true = 0 by decide), if_neg (show ¬ b2i true = 0 by decide)]
          obtain ⟨R, y1, y2, y3, y4⟩ := t3 hb
          obtain ⟨R', z1, z2, z3⟩ := g1 hb
          rw [y1] at z1
          injection z1 with z1
          subst z1
          obtain ⟨nc', nf', q1, q2⟩ := crd_step hcr y1 y3 y4 z3
          rw [y2] at z2
          obtain ⟨v, mx', mm', r1, r2, r3, r4, r5⟩ := ih (n - (e + 1)) (by omega) (e + 1) q fm nc' nf' m2 mm1 (by omega) (by omega) (by omega) (t2.tx hK ht) (o1.tm hm) z2 q1
          refine ⟨v, mx', mm', r1, r2, t2.tr r3, o1.tr r4, fun hv => ?_⟩
          obtain ⟨nc'', nf'', u1, u2⟩ := r5 hv
          exact ⟨nc'', nf'', u1, fun h => u2 (q2 h)⟩
theorem read_all {N n K : Nat} {a : Nat → Int32} {mx mm : Mem} (hN : 300 ≤ N) (hK : 4 ≤ K) (hn : n ≤ 200) (ht : TX n a mx) (hm : TM n a mm) : ∃ v mx' mm', f_X6_readInto N K mx = some (v, mx') ∧ f_X9_faultOf N mm = some (v, mm') ∧ xfr K mx mx' ∧ roffs mm mm' ∧ (v = -4 → ∃ nc' nf', CRd K nc' nf' mx' mm' ∧ (RWx K mx → RWx K mx')) := by
  unfold f_X6_readInto f_X0_clear f_X9_faultOf
  simp only [fl_lm]
  rw [fl_bd_s]
  generalize hx0 : mI (mI (mI (mI mx K 0 4) K 1 4) K 2 0) K 3 0 = mx0
  generalize hm0 : mI (mI (mI (mI (mI mm 0 21 4) 0 22 4) 0 23 0) 0 25 0) 0 19 0 = mm0
  have ox : ∀ k, k ≠ K → mx0.1 k = mx.1 k := fun k hk => by rw [← hx0, mI_ne k hk, mI_ne k hk, mI_ne k hk, mI_ne k hk]
  have om : ∀ k, k ≠ 0 → mm0.1 k = mm.1 k := fun k hk => by rw [← hm0, mI_ne k hk, mI_ne k hk, mI_ne k hk, mI_ne k hk, mI_ne k hk]
  have om0 : ∀ j, j < 19 → mm0.1 0 j = mm.1 0 j := fun j hj => by rw [← hm0, mI_j (by omega), mI_j (by omega), mI_j (by omega), mI_j (by omega), mI_j (by omega)]
  have x0 : xfr K mx mx0 := ⟨fun k _ _ hk => ox k (by omega), fun j _ => by rw [ox 1 (by omega)]⟩
  have r0 : roffs mm mm0 := ⟨fun k a _ _ => om k a, om0⟩
  have m21 : mm0.1 0 21 = 4 := by rw [← hm0, mI_j (by omega), mI_j (by omega), mI_j (by omega), mI_j (by omega), mI_s]
  have m22 : mm0.1 0 22 = 4 := by rw [← hm0, mI_j (by omega), mI_j (by omega), mI_j (by omega), mI_s]
  have m23 : mm0.1 0 23 = nI 0 := by rw [← hm0, mI_j (by omega), mI_j (by omega), mI_s]; rfl
  have m25 : mm0.1 0 25 = nI 0 := by rw [← hm0, mI_j (by omega), mI_s]; rfl
  have m19 : mm0.1 0 19 = nI 0 := by rw [← hm0, mI_s]; rfl
  have c0 : CRd K 0 0 mx0 mm0 := by
    refine ⟨by omega, by omega, ⟨?_, ?_, ?_, ?_⟩, ⟨rfl, rfl, m23, m25⟩, by rw [m21]; exact ⟨by decide, by decide⟩, by rw [m22]; exact ⟨by decide, by decide⟩, fun c hc => absurd hc (Nat.not_lt_zero c), fun f hf => absurd hf (Nat.not_lt_zero f)⟩
    · rw [m21, ← hx0, mI_j (by omega), mI_j (by omega), mI_j (by omega), mI_s]
    · rw [m22, ← hx0, mI_j (by omega), mI_j (by omega), mI_s]
    · rw [← hx0, mI_j (by omega), mI_s]; rfl
    · rw [← hx0, mI_s]; rfl
  obtain ⟨v, mx', mm', e1, e2, e3, e4, e5⟩ := read_l (K := K) hN hK hn n 0 N N 0 0 mx0 mm0 (by omega) (by omega) (by omega) (x0.tx hK ht) (r0.tm hm) m19 c0
  refine ⟨v, mx', mm', e1, e2, x0.tr e3, r0.tr e4, fun hv => ?_⟩
  obtain ⟨nc', nf', u1, u2⟩ := e5 hv
  refine ⟨nc', nf', u1, fun h => u2 (fun c hc => ?_)⟩
  rw [ox (K + 2) (by omega), ox (K + 3) (by omega)]
  exact h c hc
/-- what reading leaves behind, when it is only a look -/
theorem read_rl {i : Nat} {mx mm mx' mm' : Mem} (h : Rl i mx mm) (hx : xfr 14 mx mx') (hm : roffs mm mm') : Rl (i + 1) mx' mm' := by
  obtain ⟨c, t, f, d, k, s⟩ := id h
  refine h.part (fun k h0 h1 h2 h3 _ hk => hx.1 k h1 h3 (by omega)) (fun j hj => hm.2 j (by omega)) (fun j _ => by rw [hm.1 1 (by omega) (by omega) (by omega)]) (fun k a b => hm.1 k (by omega) (by omega) (by omega)) ?_ (fun ec => ?_)
  · obtain ⟨n, h1, h2, h3, h4⟩ := t
    refine ⟨n, h1, by rw [hx.2 1 (by omega)]; exact h2, by rw [hm.2 18 (by omega)]; exact h3, fun j hj => ?_⟩
    rw [hx.1 2 (by omega) (by omega) (by omega), hm.1 11 (by omega) (by omega) (by omega)]
    exact h4 j hj
  · obtain ⟨n, g1, g2, g3, g4⟩ := s
    refine ⟨n, g1, by rw [hx.1 28 (by omega) (by omega) (by omega)]; exact g2, by rw [hm.2 13 (by omega)]; exact g3, fun j hj => ?_⟩
    rw [hx.1 29 (by omega) (by omega) (by omega), hx.1 30 (by omega) (by omega) (by omega), hx.1 31 (by omega) (by omega) (by omega), hm.1 8 (by omega) (by omega) (by omega), hm.1 9 (by omega) (by omega) (by omega), hm.1 10 (by omega) (by omega) (by omega), ec]
    exact g4 j hj
theorem RT.tx {mx mm : Mem} (h : RT mx mm) : ∃ n a, n ≤ 200 ∧ TX n a mx ∧ TM n a mm := by
  obtain ⟨n, h1, h2, h3, h4⟩ := h
  exact ⟨n, mm.1 11, h1, ⟨h2, fun j hj => (h4 j hj).1⟩, h3, fun _ _ => rfl⟩
theorem sim_fault {i N : Nat} {mx mm : Mem} (hN : 300 ≤ N) (h : Rl i mx mm) : Sim (i + 1) (f_X8_fault N mx) (f_X9_fault N mm) := by
  obtain ⟨c, t, -⟩ := id h
  obtain ⟨n, a, hn, ht, hm⟩ := t.tx
  obtain ⟨v, mx', mm', e1, e2, e3, e4, -⟩ := read_all (K := 14) hN (by omega) hn ht hm
  unfold f_X8_fault f_X9_fault
  rw [e1, e2, fl_bd_s, fl_bd_s]
  exact ok_ret (ok_ret ⟨rfl, read_rl h e3 e4⟩)
