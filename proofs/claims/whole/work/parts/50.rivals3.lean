def tv (C : Cf) (c1 c2 : Nat) (P0 : Ps) (T0 nn d p : Nat) : Int := match nd C c1 c2 P0 T0 d p with
  | none => 1000000
  | some (P, T, a) => a + Vv C c1 c2 (nn - d) (evn d) P T
theorem tv_none {C : Cf} {c1 c2 : Nat} {P0 : Ps} {T0 nn d p : Nat} (h : nd C c1 c2 P0 T0 d p = none) : tv C c1 c2 P0 T0 nn d p = 1000000 := by unfold tv; rw [h]
theorem tv_some {C : Cf} {c1 c2 : Nat} {P0 P : Ps} {T0 nn d p T : Nat} {a : Int} (h : nd C c1 c2 P0 T0 d p = some (P, T, a)) : tv C c1 c2 P0 T0 nn d p = a + Vv C c1 c2 (nn - d) (evn d) P T := by unfold tv; rw [h]
def gt (C : Cf) (c1 c2 : Nat) (P0 : Ps) (T0 nn d q : Nat) (f : Nat) : Option Int := if tv C c1 c2 P0 T0 nn (d + 1) (cM C * q + f) = 1000000 then none else some (tv C c1 c2 P0 T0 nn (d + 1) (cM C * q + f))
def oB (o : Option (Int × Nat)) : Int := match o with
  | none => 1000000
  | some (v, _) => v
def o7 (x7 : Int32) (o : Option (Int × Nat)) : Int32 := match o with
  | none => x7
  | some (_, f) => nI f
theorem evn_s (d : Nat) : evn (d + 1) = !evn d := by
  unfold evn
  by_cases e : d % 2 = 0
  · rw [decide_eq_true e, decide_eq_false (by omega)]; rfl
  · rw [decide_eq_false e, decide_eq_true (by omega)]; rfl
theorem gt_shift {C : Cf} {c1 c2 : Nat} {P0 P : Ps} {T0 nn d q T k : Nat} {a : Int} (hC : okC C) (hd : d + (k + 1) = nn) (hd4 : nn ≤ 4) (ha : -(d : Int) ≤ a ∧ a ≤ d) (h : nd C c1 c2 P0 T0 d q = some (P, T, a)) (f : Nat) (hf : f < cM C) : gt C c1 c2 P0 T0 nn d q f = (vk C c1 c2 (Vv C c1 c2 k) (evn d) P T f).map (fun v => a + v) := by
  have n7 := hC.2.2.1
  have e1 : (cM C * q + f) / cM C = q := by rw [Nat.mul_add_div (by omega), Nat.div_eq_of_lt hf, Nat.add_zero]
  have e2 : (cM C * q + f) % cM C = f := by rw [Nat.mul_add_mod, Nat.mod_eq_of_lt hf]
  have hs := nd_s2 (C := C) (c1 := c1) (c2 := c2) (P0 := P0) (T0 := T0) (d := d) (q := cM C * q + f) (by rw [e1]; exact h)
  rw [e2] at hs
  unfold gt vk
  cases hT : T.testBit f with
  | true =>
    rw [hT, if_pos rfl] at hs
    rw [tv_none hs, if_pos rfl, if_pos rfl]
    rfl
  | false =>
    rw [hT, if_neg (by decide)] at hs
    have hv := vv_b (C := C) (c1 := c1) (c2 := c2) k (!evn d) (a_drive C P (cabS c1 c2 (evn d)) f) (T ||| 2 ^ f)
    have hb := sgn_b (evn d) (a_weeps C P (cabS c1 c2 (evn d)) f)
    rw [tv_some hs, show nn - (d + 1) = k by omega, evn_s, if_neg (by omega), if_neg (by decide)]
    refine congrArg some (?_ : _ = a + (_ + _))
    omega
theorem tv_step {C : Cf} {c1 c2 : Nat} {P0 : Ps} {T0 nn d q k : Nat} {B : Int} (hC : okC C) (hB : 99 ≤ B ∧ B ≤ 20000) (h1 : c1 < cN C) (h2 : c2 < cN C) (hP0 : okP C P0 B) (hT0 : T0 < 2 ^ cM C) (hd : d + (k + 1) = nn) (hd4 : nn ≤ 4) (hu : nn ≤ unt C T0) : tv C c1 c2 P0 T0 nn d q = oB (vf (evn d) (gt C c1 c2 P0 T0 nn d q) (cM C)) ∧ ∀ P T a, nd C c1 c2 P0 T0 d q = some (P, T, a) → ∃ v f, vf (evn d) (vk C c1 c2 (Vv C c1 c2 k) (evn d) P T) (cM C) = some (v, f) ∧ vf (evn d) (gt C c1 c2 P0 T0 nn d q) (cM C) = some (a + v, f) := by
  have n7 := hC.2.2.1
  have second : ∀ P T a, nd C c1 c2 P0 T0 d q = some (P, T, a) → ∃ v f, vf (evn d) (vk C c1 c2 (Vv C c1 c2 k) (evn d) P T) (cM C) = some (v, f) ∧ vf (evn d) (gt C c1 c2 P0 T0 nn d q) (cM C) = some (a + v, f) := by
    intro P T a h
    obtain ⟨o1, o2, o3, o4, o5⟩ := nd_ok hC hB h1 h2 hP0 hT0 d q P T a (by omega) h
    have hsh := vf_shift (s := evn d) (g := gt C c1 c2 P0 T0 nn d q) (g' := vk C c1 c2 (Vv C c1 c2 k) (evn d) P T) (a := a) (n := cM C) (fun f hf => gt_shift hC hd hd4 ⟨o4, o5⟩ h f hf)
    cases hv : vf (evn d) (vk C c1 c2 (Vv C c1 c2 k) (evn d) P T) (cM C) with
    | none =>
      exfalso
      obtain ⟨f, hf, hb⟩ := cnt_pos (p := fun g => !T.testBit g) (n := cM C) (by unfold unt at *; omega)
      have := vf_all hv f hf
      unfold vk at this
      rw [if_neg (by simpa using hb)] at this
      cases this
    | some p =>
      obtain ⟨v, f⟩ := p
      rw [hv] at hsh
      exact ⟨v, f, rfl, hsh⟩
  refine ⟨?_, second⟩
  cases h : nd C c1 c2 P0 T0 d q with
  | none =>
    have hall : ∀ f, f < cM C → gt C c1 c2 P0 T0 nn d q f = none := fun f hf => by
      have e1 : (cM C * q + f) / cM C = q := by rw [Nat.mul_add_div (by omega), Nat.div_eq_of_lt hf, Nat.add_zero]
      unfold gt
      rw [tv_none (nd_s1 (by rw [e1]; exact h)), if_pos rfl]
    have hvn : ∀ n, n ≤ cM C → vf (evn d) (gt C c1 c2 P0 T0 nn d q) n = none := by
      intro n
      induction n with
      | zero => exact fun _ => rfl
      | succ n ih => intro hn; rw [vf_none (hall n (by omega))]; exact ih (by omega)
    rw [tv_none h, hvn (cM C) (Nat.le_refl _)]
    rfl
  | some p =>
    obtain ⟨P, T, a⟩ := p
    obtain ⟨v, f, e1, e2⟩ := second P T a h
    rw [tv_some h, e2, show nn - d = k + 1 by omega, vv_s, e1]
    rfl
theorem bk6 {N nn d q c1 c2 T0 : Nat} {mm0 m : Mem} {P0 : Ps} {x4 x70 X8 : Int32} (hm : mcOk mm0) (hd : d < 4) (hq : q < 343) (hF : Fr mm0 m) (hl : ∀ f, f < cM (mC_ mm0) → (m.1 18 (cM (mC_ mm0) * q + f)).toInt = tv (mC_ mm0) c1 c2 P0 T0 nn (d + 1) (cM (mC_ mm0) * q + f)) :
    ∀ (k j : Nat) (x7 x11 : Int32), j + k = cM (mC_ mm0) → x11.toInt = oB (vf (evn d) (gt (mC_ mm0) c1 c2 P0 T0 nn d q) j) → x7 = o7 x70 (vf (evn d) (gt (mC_ mm0) c1 c2 P0 T0 nn d q) j) →
      ∃ v : Int32, v.toInt = oB (vf (evn d) (gt (mC_ mm0) c1 c2 P0 T0 nn d q) (cM (mC_ mm0))) ∧ ∀ n, l_X9_rivals N (n + (k + 1)) 6 0 0 x4 0 0 x7 X8 (nI d) (nI q) x11 (nI j) m = l_X9_rivals N n 5 0 0 x4 0 0 (o7 x70 (vf (evn d) (gt (mC_ mm0) c1 c2 P0 T0 nn d q) (cM (mC_ mm0)))) X8 (nI d) (nI (q + 1)) 0 0 (mI m 18 q v) := by
  have n7 := hm.1.2.2.1
  have em : (1000000 : Int32).toInt = 1000000 := rfl
  intro k
  induction k with
  | zero =>
    intro j x7 x11 hj hx11 hx7
    have : j = cM (mC_ mm0) := by omega
    subst this
    refine ⟨x11, hx11, fun n => ?_⟩
    rw [show n + (0 + 1) = n + 1 from rfl, l_v6]
    unfold B_X9_rivals_311
    rw [mc_m (hF.cOk hm), hF.C, if_pos (Int32.le_refl _), fl_ck_t (i_ckz (by omega) (by omega)), i_c (by omega), nI_1 q, ← hx7]
    simp only [fl_lm]
  | succ k ih =>
    intro j x7 x11 hj hx11 hx7
    have hj7 : j < cM (mC_ mm0) := by omega
    have hmul : cM (mC_ mm0) * q ≤ 7 * 342 := Nat.mul_le_mul (by omega) (by omega)
    have hz := hl j hj7
    have hr2 : fl_rem (nI d) (2 : Int32) = nI (d % 2) := i_rem (b := 2) (by omega) (by omega) (by omega)
    have hgd : gt (mC_ mm0) c1 c2 P0 T0 nn d q j = if tv (mC_ mm0) c1 c2 P0 T0 nn (d + 1) (cM (mC_ mm0) * q + j) = 1000000 then none else some (tv (mC_ mm0) c1 c2 P0 T0 nn (d + 1) (cM (mC_ mm0) * q + j)) := rfl
    have eH : ∀ n, l_X9_rivals N (n + (k + 1 + 1)) 6 0 0 x4 0 0 x7 X8 (nI d) (nI q) x11 (nI j) m = B_X9_rivals_311 N (l_X9_rivals N (n + (k + 1))) x4 x7 X8 (nI d) (nI q) x11 (nI j) m := fun n => by
      rw [show n + (k + 1 + 1) = (n + (k + 1)) + 1 by omega, l_v6]
    have eB : ∀ n, B_X9_rivals_311 N (l_X9_rivals N (n + (k + 1))) x4 x7 X8 (nI d) (nI q) x11 (nI j) m = (if m.1 18 (cM (mC_ mm0) * q + j) = (1000000 : Int32) then l_X9_rivals N (n + (k + 1)) 6 0 0 x4 0 0 x7 X8 (nI d) (nI q) x11 (nI (j + 1)) m else if x11 = (1000000 : Int32) then l_X9_rivals N (n + (k + 1)) 6 0 0 x4 0 0 (nI j) X8 (nI d) (nI q) (m.1 18 (cM (mC_ mm0) * q + j)) (nI (j + 1)) m else if nI (d % 2) = 0 then (if x11 ≤ m.1 18 (cM (mC_ mm0) * q + j) then l_X9_rivals N (n + (k + 1)) 6 0 0 x4 0 0 x7 X8 (nI d) (nI q) x11 (nI (j + 1)) m else l_X9_rivals N (n + (k + 1)) 6 0 0 x4 0 0 (nI j) X8 (nI d) (nI q) (m.1 18 (cM (mC_ mm0) * q + j)) (nI (j + 1)) m) else (if m.1 18 (cM (mC_ mm0) * q + j) ≤ x11 then l_X9_rivals N (n + (k + 1)) 6 0 0 x4 0 0 x7 X8 (nI d) (nI q) x11 (nI (j + 1)) m else l_X9_rivals N (n + (k + 1)) 6 0 0 x4 0 0 (nI j) X8 (nI d) (nI q) (m.1 18 (cM (mC_ mm0) * q + j)) (nI (j + 1)) m)) := fun n => by
      unfold B_X9_rivals_311 J_X9_rivals_379 J_X9_rivals_375 J_X9_rivals_380 J_X9_rivals_394
      rw [mc_m (hF.cOk hm), hF.C, if_neg (nI_ge hj7 (by omega)), pk_mul, nI_add, fl_ck_t (i_ckz (by omega) (by omega)), i_c (by omega), hr2, nI_1 j]
      simp only [fl_li, if_true, show ¬ ((1 : Int32) = 0) by decide, if_false]
    generalize m.1 18 (cM (mC_ mm0) * q + j) = z at *
    generalize tv (mC_ mm0) c1 c2 P0 T0 nn (d + 1) (cM (mC_ mm0) * q + j) = w at *
    by_cases hw : w = 1000000
    · rw [if_pos hw] at hgd
      have hvn := vf_none (s := evn d) hgd
      obtain ⟨v, e1, e2⟩ := ih (j + 1) x7 x11 (by omega) (by rw [hvn]; exact hx11) (by rw [hvn]; exact hx7)
      refine ⟨v, e1, fun n => ?_⟩
      rw [eH, eB, if_pos ((i_eq _ _).mpr (by rw [hz, hw, em]))]
      exact e2 n
    · rw [if_neg hw] at hgd
      have hzn : ¬ z = (1000000 : Int32) := fun e => hw (by rw [← hz, e, em])
      cases hv : vf (evn d) (gt (mC_ mm0) c1 c2 P0 T0 nn d q) j with
      | none =>
        rw [hv] at hx11
        have hvf := vf_first hgd hv
        obtain ⟨v, e1, e2⟩ := ih (j + 1) (nI j) z (by omega) (by rw [hvf]; exact hz) (by rw [hvf]; rfl)
        refine ⟨v, e1, fun n => ?_⟩
        rw [eH, eB, if_neg hzn, if_pos ((i_eq _ _).mpr (by rw [hx11, em]; rfl))]
        exact e2 n
      | some p =>
        obtain ⟨b, f⟩ := p
        rw [hv] at hx11 hx7
        have hx11' : x11.toInt = b := hx11
        have hbn : ¬ x11 = (1000000 : Int32) := fun e => by
          have hb : b = 1000000 := by rw [← hx11', e, em]
          have := (vf_mem hv).2
          unfold gt at this
          split at this
          · cases this
          · rename_i hne
            injection this with this
            exact hne (this.trans hb)
        by_cases hc : if evn d = true then b ≤ w else w ≤ b
        · have hvf := vf_keep hgd hv hc
          obtain ⟨v, e1, e2⟩ := ih (j + 1) x7 x11 (by omega) (by rw [hvf]; exact hx11) (by rw [hvf]; exact hx7)
          refine ⟨v, e1, fun n => ?_⟩
          rw [eH, eB, if_neg hzn, if_neg hbn, ← e2 n]
          rcases (show d % 2 = 0 ∨ d % 2 = 1 by omega) with e | e
          · rw [show evn d = true from decide_eq_true e, if_pos rfl] at hc
            rw [e, if_pos (show nI 0 = (0 : Int32) from rfl), if_pos (by rw [i_le]; omega)]
          · rw [show evn d = false from decide_eq_false (by omega), if_neg (by decide)] at hc
            rw [e, if_neg (show ¬ nI 1 = (0 : Int32) by decide), if_pos (by rw [i_le]; omega)]
        · have hvf := vf_new hgd hv hc
          obtain ⟨v, e1, e2⟩ := ih (j + 1) (nI j) z (by omega) (by rw [hvf]; exact hz) (by rw [hvf]; rfl)
          refine ⟨v, e1, fun n => ?_⟩
          rw [eH, eB, if_neg hzn, if_neg hbn, ← e2 n]
          rcases (show d % 2 = 0 ∨ d % 2 = 1 by omega) with e | e
          · rw [show evn d = true from decide_eq_true e, if_pos rfl] at hc
            rw [e, if_pos (show nI 0 = (0 : Int32) from rfl), if_neg (by rw [i_le]; omega)]
          · rw [show evn d = false from decide_eq_false (by omega), if_neg (by decide)] at hc
            rw [e, if_neg (show ¬ nI 1 = (0 : Int32) by decide), if_neg (by rw [i_le]; omega)]
theorem bk5 {N nn d c1 c2 T0 k0 : Nat} {mm0 : Mem} {P0 : Ps} {B : Int} {x4 : Int32} (hm : mcOk mm0) (hB : 99 ≤ B ∧ B ≤ 20000) (h1 : c1 < cN (mC_ mm0)) (h2 : c2 < cN (mC_ mm0)) (hP0 : okP (mC_ mm0) P0 B) (hT0 : T0 < 2 ^ cM (mC_ mm0)) (hd : d + (k0 + 1) = nn) (hnn : nn ≤ 4) (hu : nn ≤ unt (mC_ mm0) T0) :
    ∀ (k q : Nat) (x7 : Int32) (m : Mem), q + k = cM (mC_ mm0) ^ d → Fr mm0 m → (∀ p, p < q → (m.1 18 p).toInt = tv (mC_ mm0) c1 c2 P0 T0 nn d p) → (∀ p, q ≤ p → p < cM (mC_ mm0) ^ (d + 1) → (m.1 18 p).toInt = tv (mC_ mm0) c1 c2 P0 T0 nn (d + 1) p) →
      ∃ st m' x7', st ≤ 10 * k + 1 ∧ (∀ n, l_X9_rivals N (n + st) 5 0 0 x4 0 0 x7 (nI (cM (mC_ mm0) ^ d)) (nI d) (nI q) 0 0 m = l_X9_rivals N n 4 0 0 x4 0 0 x7' (nI (cM (mC_ mm0) ^ d)) (nI d + (-1)) 0 0 0 m') ∧ Fr mm0 m' ∧ (∀ p, p < cM (mC_ mm0) ^ d → (m'.1 18 p).toInt = tv (mC_ mm0) c1 c2 P0 T0 nn d p) ∧ (d = 0 → q = 0 → x7' = o7 x7 (vf true (gt (mC_ mm0) c1 c2 P0 T0 nn 0 0) (cM (mC_ mm0)))) ∧ (q = cM (mC_ mm0) ^ d → x7' = x7) := by
  have n7 := hm.1.2.2.1
  have hM := pwM hm.1 (k := d) (by omega)
  have hM3 : cM (mC_ mm0) ^ d ≤ 343 := Nat.le_trans (Nat.pow_le_pow_left n7.2 d) (Nat.le_trans (Nat.pow_le_pow_right (by omega) (show d ≤ 3 by omega)) (by decide))
  intro k
  induction k with
  | zero =>
    intro q x7 m hq hF hl hh
    refine ⟨1, m, x7, by omega, fun n => ?_, hF, fun p hp => hl p (by omega), fun hd0 hq0 => ?_, fun _ => rfl⟩
    · rw [l_v5]
      unfold B_X9_rivals_297
      rw [if_pos (nI_le (by omega) (by omega))]
    · subst hd0
      rw [Nat.pow_zero] at hq
      omega
  | succ k ih =>
    intro q x7 m hq hF hl hh
    have hrow : ∀ f, f < cM (mC_ mm0) → cM (mC_ mm0) * q + f < cM (mC_ mm0) ^ (d + 1) ∧ q ≤ cM (mC_ mm0) * q + f := fun f hf => by
      have a1 : cM (mC_ mm0) * (q + 1) ≤ cM (mC_ mm0) * cM (mC_ mm0) ^ d := Nat.mul_le_mul_left _ (by omega)
      rw [Nat.mul_succ] at a1
      rw [Nat.pow_succ, Nat.mul_comm (cM (mC_ mm0) ^ d)]
      have a2 : 1 * q ≤ cM (mC_ mm0) * q := Nat.mul_le_mul_right _ n7.1
      omega
    obtain ⟨v, hv, e1⟩ := bk6 (N := N) (nn := nn) (d := d) (q := q) (c1 := c1) (c2 := c2) (T0 := T0) (P0 := P0) (x4 := x4) (x70 := x7) (X8 := nI (cM (mC_ mm0) ^ d)) hm (by omega) (by omega) hF (fun f hf => hh _ (hrow f hf).2 (hrow f hf).1) (cM (mC_ mm0)) 0 x7 1000000 (by omega) rfl rfl
    have hts := tv_step (C := mC_ mm0) (c1 := c1) (c2 := c2) (P0 := P0) (T0 := T0) (nn := nn) (d := d) (q := q) (k := k0) hm.1 hB h1 h2 hP0 hT0 hd hnn hu
    have hF2 : Fr mm0 (mI m 18 q v) := ⟨fun k a b => by rw [mI_ne k b]; exact hF.1 k a b, fun j hj => by rw [mI_ne 1 (by omega)]; exact hF.2 j hj⟩
    obtain ⟨st, m', x7', s1, s2, s3, s4, s5, s6⟩ := ih (q + 1) (o7 x7 (vf (evn d) (gt (mC_ mm0) c1 c2 P0 T0 nn d q) (cM (mC_ mm0)))) (mI m 18 q v) (by omega) hF2 (fun p hp => by
      rw [mI_g, if_pos rfl]
      by_cases e : p = q
      · subst e; rw [if_pos rfl, hv, hts.1]
      · rw [if_neg e]; exact hl p (by omega)) (fun p a b => by
      rw [mI_j (by omega)]; exact hh p (by omega) b)
    refine ⟨st + (cM (mC_ mm0) + 1) + 1, m', x7', by omega, fun n => ?_, s3, s4, fun hd0 hq0 => ?_, fun hqq => by omega⟩
    · rw [show n + (st + (cM (mC_ mm0) + 1) + 1) = (n + st + (cM (mC_ mm0) + 1)) + 1 by omega, l_v5]
      unfold B_X9_rivals_297
      rw [if_neg (nI_ge (by omega) (by omega))]
      exact (e1 (n + st)).trans (s2 n)
    · subst hd0 hq0
      have := s6 (by rw [Nat.pow_zero])
      rw [this]
      rfl
theorem bk4 {N nn c1 c2 T0 : Nat} {mm0 : Mem} {P0 : Ps} {B : Int} {x4 : Int32} (hm : mcOk mm0) (hB : 99 ≤ B ∧ B ≤ 20000) (h1 : c1 < cN (mC_ mm0)) (h2 : c2 < cN (mC_ mm0)) (hP0 : okP (mC_ mm0) P0 B) (hT0 : T0 < 2 ^ cM (mC_ mm0)) (hnn : nn ≤ 4) (hu : nn ≤ unt (mC_ mm0) T0) :
    ∀ (d : Nat) (x7 : Int32) (m : Mem), d ≤ nn → Fr mm0 m → (∀ p, p < cM (mC_ mm0) ^ d → (m.1 18 p).toInt = tv (mC_ mm0) c1 c2 P0 T0 nn d p) →
      ∃ st m' x7', st ≤ 3500 * d + 1 ∧ (∀ n, l_X9_rivals N (n + st) 4 0 0 x4 0 0 x7 (nI (cM (mC_ mm0) ^ d)) (nI d - 1) 0 0 0 m = (if x4 = 0 then some (m'.1 18 0 + 10, m') else some (x7', m'))) ∧ Fr mm0 m' ∧ (m'.1 18 0).toInt = tv (mC_ mm0) c1 c2 P0 T0 nn 0 0 ∧ (d = 0 → x7' = x7) ∧ (1 ≤ d → ∀ v f, vf true (gt (mC_ mm0) c1 c2 P0 T0 nn 0 0) (cM (mC_ mm0)) = some (v, f) → x7' = nI f) := by
  have n7 := hm.1.2.2.1
  intro d
  induction d with
  | zero =>
    intro x7 m hd hF hl
    refine ⟨1, m, x7, by omega, fun n => ?_, hF, hl 0 (by rw [Nat.pow_zero]; omega), fun _ => rfl, fun h => absurd h (by omega)⟩
    rw [l_v4]
    unfold B_X9_rivals_280
    rw [if_pos (show nI 0 - 1 < (0 : Int32) by decide)]
  | succ d ih =>
    intro x7 m hd hF hl
    have hM := pwM hm.1 (k := d) (by omega)
    have hM1 := pwM hm.1 (k := d + 1) (by omega)
    have hM3 : cM (mC_ mm0) ^ d ≤ 343 := Nat.le_trans (Nat.pow_le_pow_left n7.2 d) (Nat.le_trans (Nat.pow_le_pow_right (by omega) (show d ≤ 3 by omega)) (by decide))
    obtain ⟨st, m1, x71, s1, s2, s3, s4, s5, -⟩ := bk5 (N := N) (nn := nn) (d := d) (c1 := c1) (c2 := c2) (T0 := T0) (k0 := nn - d - 1) (x4 := x4) hm hB h1 h2 hP0 hT0 (by omega) hnn hu (cM (mC_ mm0) ^ d) 0 x7 m (by omega) hF (fun p hp => absurd hp (Nat.not_lt_zero p)) (fun p _ hp => hl p hp)
    obtain ⟨st2, m2, x72, t1, t2, t3, t4, t5, t6⟩ := ih x71 m1 (by omega) s3 s4
    refine ⟨st2 + st + 1, m2, x72, by omega, fun n => ?_, t3, t4, fun h => absurd h (by omega), fun _ v f hvf => ?_⟩
    · rw [show n + (st2 + st + 1) = (n + st2 + st) + 1 by omega, l_v4]
      unfold B_X9_rivals_280
      rw [nI_pred, if_neg (show ¬ nI d < (0 : Int32) from nI_nlt (b := 0) (by omega) (by omega)), mc_m (hF.cOk hm), hF.C, fl_ck_t (nI_ne0 (by omega) (by omega)), i_div (by omega) (by omega), Nat.pow_succ, Nat.mul_div_cancel _ (by omega)]
      simp only [fl_li]
      refine (s2 (n + st2)).trans ?_
      rw [show nI d + (-1 : Int32) = nI d - 1 from (Int32.sub_eq_add_neg _ _).symm]
      exact t2 n
    · rcases Nat.eq_zero_or_pos d with e | e
      · subst e
        rw [t5 rfl, s5 rfl rfl, hvf]
        rfl
      · exact t6 e v f hvf
