/-! the reference plays it: all codes, then backwards -/
theorem l_v1 {N n : Nat} {x1 x2 x4 x5 x6 x7 x8 x9 x10 x11 x12 : Int32} {m : Mem} : l_X9_rivals N (n + 1) 1 x1 x2 x4 x5 x6 x7 x8 x9 x10 x11 x12 m = B_X9_rivals_76 N (l_X9_rivals N n) x1 x2 x4 x5 x6 x7 m := rfl
theorem l_v2 {N n : Nat} {x1 x2 x4 x5 x6 x7 x8 x9 x10 x11 x12 : Int32} {m : Mem} : l_X9_rivals N (n + 1) 2 x1 x2 x4 x5 x6 x7 x8 x9 x10 x11 x12 m = B_X9_rivals_101 N (l_X9_rivals N n) x1 x2 x4 x5 x6 x7 m := rfl
theorem l_v3 {N n : Nat} {x1 x2 x4 x5 x6 x7 x8 x9 x10 x11 x12 : Int32} {m : Mem} : l_X9_rivals N (n + 1) 3 x1 x2 x4 x5 x6 x7 x8 x9 x10 x11 x12 m = B_X9_rivals_125 N (l_X9_rivals N n) x1 x2 x4 x5 x6 x7 x8 x9 x10 x11 m := rfl
theorem l_v4 {N n : Nat} {x1 x2 x4 x5 x6 x7 x8 x9 x10 x11 x12 : Int32} {m : Mem} : l_X9_rivals N (n + 1) 4 x1 x2 x4 x5 x6 x7 x8 x9 x10 x11 x12 m = B_X9_rivals_280 N (l_X9_rivals N n) x4 x7 x8 x9 m := rfl
theorem l_v5 {N n : Nat} {x1 x2 x4 x5 x6 x7 x8 x9 x10 x11 x12 : Int32} {m : Mem} : l_X9_rivals N (n + 1) 5 x1 x2 x4 x5 x6 x7 x8 x9 x10 x11 x12 m = B_X9_rivals_297 N (l_X9_rivals N n) x4 x7 x8 x9 x10 m := rfl
theorem l_v6 {N n : Nat} {x1 x2 x4 x5 x6 x7 x8 x9 x10 x11 x12 : Int32} {m : Mem} : l_X9_rivals N (n + 1) 6 x1 x2 x4 x5 x6 x7 x8 x9 x10 x11 x12 m = B_X9_rivals_311 N (l_X9_rivals N n) x4 x7 x8 x9 x10 x11 x12 m := rfl
def evn (d : Nat) : Bool := decide (d % 2 = 0)
def nd (C : Cf) (c1 c2 : Nat) (P0 : Ps) (T0 : Nat) : Nat → Nat → Option (Ps × Nat × Int)
  | 0 => fun _ => some (P0, T0, 0)
  | d + 1 => fun q => match nd C c1 c2 P0 T0 d (q / cM C) with
    | none => none
    | some (P, T, a) => if T.testBit (q % cM C) = true then none else some (a_drive C P (cabS c1 c2 (evn d)) (q % cM C), T ||| 2 ^ (q % cM C), a + sgn (evn d) (a_weeps C P (cabS c1 c2 (evn d)) (q % cM C)))
theorem nd_s1 {C : Cf} {c1 c2 : Nat} {P0 : Ps} {T0 d q : Nat} (h : nd C c1 c2 P0 T0 d (q / cM C) = none) : nd C c1 c2 P0 T0 (d + 1) q = none := by
  show (match nd C c1 c2 P0 T0 d (q / cM C) with | none => none | some (P, T, a) => _) = none
  rw [h]
theorem nd_s2 {C : Cf} {c1 c2 : Nat} {P0 P : Ps} {T0 d q T : Nat} {a : Int} (h : nd C c1 c2 P0 T0 d (q / cM C) = some (P, T, a)) : nd C c1 c2 P0 T0 (d + 1) q = if T.testBit (q % cM C) = true then none else some (a_drive C P (cabS c1 c2 (evn d)) (q % cM C), T ||| 2 ^ (q % cM C), a + sgn (evn d) (a_weeps C P (cabS c1 c2 (evn d)) (q % cM C))) := by
  show (match nd C c1 c2 P0 T0 d (q / cM C) with | none => none | some (P, T, a) => _) = _
  rw [h]
theorem nd_none {C : Cf} {c1 c2 : Nat} {P0 : Ps} {T0 d : Nat} : ∀ (k q : Nat), nd C c1 c2 P0 T0 d (q / cM C ^ k) = none → nd C c1 c2 P0 T0 (d + k) q = none
  | 0, q, h => by rw [Nat.pow_zero, Nat.div_one] at h; exact h
  | k + 1, q, h => by
    refine nd_s1 (d := d + k) (nd_none k (q / cM C) ?_)
    rw [Nat.div_div_eq_div_mul, ← Nat.pow_succ']
    exact h
theorem nd_ok {C : Cf} {c1 c2 : Nat} {P0 : Ps} {T0 : Nat} {B : Int} (hC : okC C) (hB : 99 ≤ B ∧ B ≤ 20000) (h1 : c1 < cN C) (h2 : c2 < cN C) (hP0 : okP C P0 B) (hT0 : T0 < 2 ^ cM C) : ∀ (d q : Nat) (P : Ps) (T : Nat) (a : Int), d ≤ 4 → nd C c1 c2 P0 T0 d q = some (P, T, a) → okP C P (B + 123 * d) ∧ T < 2 ^ cM C ∧ unt C T + d = unt C T0 ∧ -(d : Int) ≤ a ∧ a ≤ d
  | 0, q, P, T, a, _, h => by
    injection h with h
    injection h with e1 h
    injection h with e2 e3
    subst e1 e2 e3
    exact ⟨hP0.wk (by omega), hT0, rfl, by decide, by decide⟩
  | d + 1, q, P, T, a, hd, h => by
    cases hq : nd C c1 c2 P0 T0 d (q / cM C) with
    | none => rw [nd_s1 hq] at h; cases h
    | some p =>
      obtain ⟨P', T', a'⟩ := p
      obtain ⟨i1, i2, i3, i4, i5⟩ := nd_ok hC hB h1 h2 hP0 hT0 d (q / cM C) P' T' a' (by omega) hq
      rw [nd_s2 hq] at h
      have n7 := hC.2.2.1
      have hf : q % cM C < cM C := Nat.mod_lt _ (by omega)
      cases hT : T'.testBit (q % cM C) with
      | true => rw [if_pos hT] at h; cases h
      | false =>
        rw [if_neg (by rw [hT]; decide)] at h
        injection h with h
        injection h with e1 h
        injection h with e2 e3
        subst e1 e2 e3
        have hs := sgn_b (evn d) (a_weeps C P' (cabS c1 c2 (evn d)) (q % cM C))
        have hcs : cabS c1 c2 (evn d) < cN C := by unfold cabS; split <;> assumption
        refine ⟨(a_ride_ok hC i1 (by omega) hcs hf _).wk (by rw [show ((d + 1 : Nat) : Int) = (d : Int) + 1 from rfl]; omega), bt_or _ (by omega) T' i2 _ hf, ?_, by rw [show ((d + 1 : Nat) : Int) = (d : Int) + 1 from rfl]; omega, by rw [show ((d + 1 : Nat) : Int) = (d : Int) + 1 from rfl]; omega⟩
        have hpos : 0 < unt C T' := by
          cases hu : unt C T' with
          | zero =>
            have := cnt_zero (p := fun g => !T'.testBit g) hu hf
            simp [hT] at this
          | succ k => omega
        obtain ⟨k, hk⟩ : ∃ k, unt C T' = k + 1 := ⟨unt C T' - 1, by omega⟩
        have := unt_kid hk hf hT
        omega
def tl (o : Option (Ps × Nat × Int)) : Int := match o with
  | none => 1000000
  | some (_, _, a) => a
def Fr (mm0 m : Mem) : Prop := (∀ k, k ≠ 1 → k ≠ 18 → m.1 k = mm0.1 k) ∧ ∀ j, (j < 19 ∨ 38 ≤ j) → m.1 1 j = mm0.1 1 j
theorem Fr.C {mm0 m : Mem} (h : Fr mm0 m) : mC_ m = mC_ mm0 := mC_cong (fun k a _ => h.1 k a (by omega))
theorem Fr.cOk {mm0 m : Mem} (h : Fr mm0 m) (hc : mcOk mm0) : mcOk m := mcOk_cong (fun k a _ => h.1 k a (by omega)) hc
theorem pwM {C : Cf} (hC : okC C) {k : Nat} (hk : k ≤ 4) : 1 ≤ cM C ^ k ∧ cM C ^ k ≤ 2401 := by
  have n7 := hC.2.2.1
  constructor
  · exact Nat.pos_of_ne_zero (by intro h; rw [Nat.pow_eq_zero] at h; omega)
  · exact Nat.le_trans (Nat.pow_le_pow_left n7.2 k) (Nat.le_trans (Nat.pow_le_pow_right (by omega) hk) (by decide))
theorem sim_l {N nn q c1 c2 T0 : Nat} {mm0 : Mem} {P0 : Ps} {B : Int} {x4 x6 : Int32} (hm : mcOk mm0) (hB : 99 ≤ B ∧ B ≤ 20000) (h1 : c1 < cN (mC_ mm0)) (h2 : c2 < cN (mC_ mm0)) (hP0 : okP (mC_ mm0) P0 B) (hT0 : T0 < 2 ^ cM (mC_ mm0)) (hnn : nn ≤ 4) (hq : q < cM (mC_ mm0) ^ nn) :
    ∀ (k d T : Nat) (a : Int) (P : Ps) (x8 : Int32) (m : Mem), d + k = nn → nd (mC_ mm0) c1 c2 P0 T0 d (q / cM (mC_ mm0) ^ k) = some (P, T, a) → x8.toInt = a → Fr mm0 m → mPm m 19 = P → m.1 1 29 = nI T →
      ∃ st m' v, st ≤ k + 2 ∧ (∀ n, l_X9_rivals N (n + st) 3 (nI c1) (nI c2) x4 (nI nn) x6 (nI q) x8 1 (nI (cM (mC_ mm0) ^ k)) (nI d) 0 m = l_X9_rivals N n 2 (nI c1) (nI c2) x4 (nI nn) x6 (nI (q + 1)) 0 0 0 0 0 (mI m' 18 q v)) ∧ v.toInt = tl (nd (mC_ mm0) c1 c2 P0 T0 nn q) ∧ Fr mm0 m' ∧ m'.1 18 = m.1 18 := by
  have hC := hm.1
  have n3 := hC.2.1
  have n7 := hC.2.2.1
  have hq2 := (pwM hC hnn).2
  intro k
  induction k with
  | zero =>
    intro d T a P x8 m hd hnd hx8 hF hP hT
    have : d = nn := by omega
    subst this
    rw [Nat.pow_zero, Nat.div_one] at hnd
    refine ⟨1, m, x8, by omega, fun n => ?_, by rw [hnd]; exact hx8, hF, rfl⟩
    rw [l_v3]
    unfold B_X9_rivals_125 J_X9_rivals_241
    rw [if_pos (Int32.le_refl _), if_neg (by decide), fl_ck_t (i_ckz (by omega) (by omega)), i_c (by omega), nI_1 q]
    simp only [fl_lm]
  | succ k ih =>
    intro d T a P x8 m hd hnd hx8 hF hP hT
    have hk1 := pwM hC (k := k) (by omega)
    have hk2 := pwM hC (k := k + 1) (by omega)
    have e48 : nI (cM (mC_ mm0) ^ (k + 1)) / nI (cM (mC_ mm0)) = nI (cM (mC_ mm0) ^ k) := by
      rw [i_div (by omega) (by omega), Nat.pow_succ, Nat.mul_div_cancel _ (by omega)]
    have e52 : fl_rem (nI q / nI (cM (mC_ mm0) ^ k)) (nI (cM (mC_ mm0))) = nI (q / cM (mC_ mm0) ^ k % cM (mC_ mm0)) := by
      have := Nat.div_le_self q (cM (mC_ mm0) ^ k)
      rw [i_div (by omega) (by omega), i_rem (by omega) (by omega) (by omega)]
    have hf : q / cM (mC_ mm0) ^ k % cM (mC_ mm0) < cM (mC_ mm0) := Nat.mod_lt _ (by omega)
    rw [Nat.pow_succ, ← Nat.div_div_eq_div_mul] at hnd
    obtain ⟨o1, o2, o3, o4, o5⟩ := nd_ok hC hB h1 h2 hP0 hT0 d _ P T a (by omega) hnd
    have h8T := bt_lt (by omega) o2
    have hstep := nd_s2 hnd
    generalize hfd : q / cM (mC_ mm0) ^ k % cM (mC_ mm0) = f at *
    have hr2 : fl_rem (nI d) (2 : Int32) = nI (d % 2) := i_rem (b := 2) (by omega) (by omega) (by omega)
    have hhead : ∀ n, l_X9_rivals N (n + 1) 3 (nI c1) (nI c2) x4 (nI nn) x6 (nI q) x8 1 (nI (cM (mC_ mm0) ^ (k + 1))) (nI d) 0 m = if b2i (T.testBit f) = 0 then J_X9_rivals_178 N (l_X9_rivals N n) (nI c1) (nI c2) x4 (nI nn) x6 (nI q) x8 (nI (cM (mC_ mm0) ^ k)) (nI d) (nI f) 1 m else J_X9_rivals_178 N (l_X9_rivals N n) (nI c1) (nI c2) x4 (nI nn) x6 (nI q) x8 (nI (cM (mC_ mm0) ^ k)) (nI d) (nI f) 0 m := fun n => by
      rw [l_v3]
      unfold B_X9_rivals_125
      rw [if_neg (nI_ge (by omega) (by omega)), if_neg (by decide), mc_m (hF.cOk hm), hF.C, fl_ck_t (nI_ne0 (by omega) (by omega)), e48]
      simp only [fl_li]
      rw [fl_ck_t (nI_ne0 (by omega) (by omega)), fl_ck_t (nI_ne0 (by omega) (by omega)), e52, hT, m_has h8T (by omega), fl_bd_s]
    cases hTf : T.testBit f with
    | true =>
      rw [hTf, if_pos rfl] at hstep
      have hnone := nd_none k q hstep
      rw [show d + 1 + k = nn by omega] at hnone
      refine ⟨2, m, 1000000, by omega, fun n => ?_, by rw [hnone]; rfl, hF, rfl⟩
      rw [show n + 2 = (n + 1) + 1 from rfl, hhead, hTf, if_neg (show ¬ b2i true = 0 by decide)]
      unfold J_X9_rivals_178
      rw [if_pos rfl, l_v3]
      have hj : J_X9_rivals_241 N (l_X9_rivals N n) (nI c1) (nI c2) x4 (nI nn) x6 (nI q) x8 0 m = l_X9_rivals N n 2 (nI c1) (nI c2) x4 (nI nn) x6 (nI (q + 1)) 0 0 0 0 0 (mI m 18 q 1000000) := by
        unfold J_X9_rivals_241
        rw [if_pos rfl, fl_ck_t (i_ckz (by omega) (by omega)), i_c (by omega), nI_1 q]
        simp only [fl_lm]
      unfold B_X9_rivals_125
      rw [hj, if_pos rfl]
      split <;> rfl
    | false =>
      rw [hTf, if_neg (by decide)] at hstep
      have hcs : cabS c1 c2 (evn d) < cN (mC_ mm0) := by unfold cabS; split <;> assumption
      have hsb := sgn_b (evn d) (a_weeps (mC_ mm0) P (cabS c1 c2 (evn d)) f)
      obtain ⟨r3, m3, e3, hr3, h3⟩ := m_ride1 (r := 19) (c := cabS c1 c2 (evn d)) (f := f) (hF.cOk hm) (by rw [hF.C, hP]; exact o1) (by omega) (by rw [hF.C]; exact hcs) (by rw [hF.C]; exact hf)
      rw [hF.C, hP] at hr3 h3
      subst hr3
      have hF3 : Fr mm0 m3 := ⟨fun k a b => by rw [h3.1.2 k a]; exact hF.1 k a b, fun j hj => by rw [h3.2.1 j (by omega)]; exact hF.2 j hj⟩
      have hP3 : mPm m3 19 = a_drive (mC_ mm0) P (cabS c1 c2 (evn d)) f := by
        have := h3.2.2.1
        rw [hF.C, hP] at this
        exact this
      have hT3 : m3.1 1 29 = nI (T ||| 2 ^ f) := by
        have := h3.2.2.2.1
        rw [show 19 + 10 = 29 from rfl, hT, (bt_tab T h8T f (by omega)).2] at this
        exact this
      have go : ∀ z : Int32, z.toInt = a + sgn (evn d) (a_weeps (mC_ mm0) P (cabS c1 c2 (evn d)) f) → ∃ st m' v, st ≤ k + 2 ∧ (∀ n, l_X9_rivals N (n + st) 3 (nI c1) (nI c2) x4 (nI nn) x6 (nI q) z 1 (nI (cM (mC_ mm0) ^ k)) (nI (d + 1)) 0 m3 = l_X9_rivals N n 2 (nI c1) (nI c2) x4 (nI nn) x6 (nI (q + 1)) 0 0 0 0 0 (mI m' 18 q v)) ∧ v.toInt = tl (nd (mC_ mm0) c1 c2 P0 T0 nn q) ∧ Fr mm0 m' ∧ m'.1 18 = m3.1 18 := fun z hz => ih (d + 1) (T ||| 2 ^ f) _ _ z m3 (by omega) hstep hz hF3 hP3 hT3
      have z178 : ∀ n, J_X9_rivals_178 N (l_X9_rivals N n) (nI c1) (nI c2) x4 (nI nn) x6 (nI q) x8 (nI (cM (mC_ mm0) ^ k)) (nI d) (nI f) 1 m = J_X9_rivals_200 N (l_X9_rivals N n) (nI c1) (nI c2) x4 (nI nn) x6 (nI q) x8 1 (nI (cM (mC_ mm0) ^ k)) (nI d) (nI f) 19 (nI (cabS c1 c2 (evn d))) m := fun n => by
        unfold J_X9_rivals_178
        rw [if_neg (by decide), hr2]
        rcases (show d % 2 = 0 ∨ d % 2 = 1 by omega) with e | e
        · rw [e, if_pos (by decide), show evn d = true from decide_eq_true e]; rfl
        · rw [e, if_neg (by decide), show evn d = false from decide_eq_false (by omega)]; rfl
      have z213 : ∀ n, ∃ z : Int32, z.toInt = a + sgn (evn d) (a_weeps (mC_ mm0) P (cabS c1 c2 (evn d)) f) ∧ J_X9_rivals_200 N (l_X9_rivals N n) (nI c1) (nI c2) x4 (nI nn) x6 (nI q) x8 1 (nI (cM (mC_ mm0) ^ k)) (nI d) (nI f) 19 (nI (cabS c1 c2 (evn d))) m = l_X9_rivals N n 3 (nI c1) (nI c2) x4 (nI nn) x6 (nI q) z 1 (nI (cM (mC_ mm0) ^ k)) (nI (d + 1)) 0 m3 := fun n => by
        unfold J_X9_rivals_200 J_X9_rivals_213
        rw [show f_X9_ridesAsOneDoes 19 (nI (cabS c1 c2 (evn d))) (nI f) m = _ from e3, fl_bd_s, hr2, nI_1 d]
        simp only [fl_li]
        have e0 : (0 : Int32).toInt = 0 := rfl
        have e1 : (1 : Int32).toInt = 1 := rfl
        have en0 : (-(0 : Int32)).toInt = 0 := rfl
        have en1 : (-(1 : Int32)).toInt = -1 := by decide
        rcases (show d % 2 = 0 ∨ d % 2 = 1 by omega) with e | e
        · have hev : evn d = true := decide_eq_true e
          rw [e, hev]
          rw [hev] at hsb
          cases hw : a_weeps (mC_ mm0) P (cabS c1 c2 true) f with
          | true =>
            have hs1 : sgn true true = 1 := rfl
            refine ⟨x8 + 1, by rw [i_add (by omega) (by omega)]; omega, ?_⟩
            rw [if_neg (show ¬ b2i true = 0 by decide), if_pos (show nI 0 = (0 : Int32) from rfl)]
          | false =>
            have hs1 : sgn true false = 0 := rfl
            refine ⟨x8 + 0, by rw [i_add (by omega) (by omega)]; omega, ?_⟩
            rw [if_pos (show b2i false = 0 from rfl), if_pos (show nI 0 = (0 : Int32) from rfl)]
        · have hev : evn d = false := decide_eq_false (by omega)
          rw [e, hev]
          rw [hev] at hsb
          cases hw : a_weeps (mC_ mm0) P (cabS c1 c2 false) f with
          | true =>
            have hs1 : sgn false true = -1 := rfl
            refine ⟨x8 + -1, by rw [i_add (by omega) (by omega)]; omega, ?_⟩
            rw [if_neg (show ¬ b2i true = 0 by decide), if_neg (show ¬ nI 1 = (0 : Int32) by decide)]
          | false =>
            have hs1 : sgn false false = 0 := rfl
            refine ⟨x8 + -0, by rw [i_add (by omega) (by omega)]; omega, ?_⟩
            rw [if_pos (show b2i false = 0 from rfl), if_neg (show ¬ nI 1 = (0 : Int32) by decide)]
      obtain ⟨z, hz, -⟩ := z213 0
      obtain ⟨st, m', v, g1, g2, g3, g4, g5⟩ := go z hz
      refine ⟨st + 1, m', v, by omega, fun n => ?_, g3, g4, g5.trans (h3.1.2 18 (by omega))⟩
      rw [← Nat.add_assoc, hhead, hTf, if_pos (show b2i false = 0 from rfl), z178]
      obtain ⟨z', hz', ez'⟩ := z213 (n + st)
      rw [ez', show z' = z from (i_eq _ _).mpr (hz'.trans hz.symm)]
      exact g2 n
theorem codes_l {N nn c1 c2 T0 : Nat} {mm0 : Mem} {B : Int} {x4 : Int32} (hN : 20 ≤ N) (hm : mcOk mm0) (hB : 99 ≤ B ∧ B ≤ 20000) (h1 : c1 < cN (mC_ mm0)) (h2 : c2 < cN (mC_ mm0)) (hP0 : okP (mC_ mm0) (mPm mm0 0) B) (hT0 : T0 < 2 ^ cM (mC_ mm0)) (h10 : mm0.1 1 10 = nI T0) (hnn : nn ≤ 4) :
    ∀ (k q : Nat) (m : Mem), q + k = cM (mC_ mm0) ^ nn → Fr mm0 m → (∀ p, p < q → (m.1 18 p).toInt = tl (nd (mC_ mm0) c1 c2 (mPm mm0 0) T0 nn p)) →
      ∃ st m', st ≤ 8 * k + 1 ∧ (∀ n, l_X9_rivals N (n + st) 2 (nI c1) (nI c2) x4 (nI nn) (nI (cM (mC_ mm0) ^ nn)) (nI q) 0 0 0 0 0 m = l_X9_rivals N n 4 0 0 x4 0 0 (-4) (nI (cM (mC_ mm0) ^ nn)) (nI nn - 1) 0 0 0 m') ∧ Fr mm0 m' ∧ ∀ p, p < cM (mC_ mm0) ^ nn → (m'.1 18 p).toInt = tl (nd (mC_ mm0) c1 c2 (mPm mm0 0) T0 nn p) := by
  have hq2 := (pwM hm.1 hnn).2
  have n3 := hm.1.2.1
  intro k
  induction k with
  | zero =>
    intro q m hq hF hl
    refine ⟨1, m, by omega, fun n => ?_, hF, fun p hp => hl p (by omega)⟩
    rw [l_v2]
    unfold B_X9_rivals_101
    rw [if_pos (nI_le (by omega) (by omega))]
    simp only [fl_li]
  | succ k ih =>
    intro q m hq hF hl
    obtain ⟨r, m1, e1, hc1⟩ := m_copy (N := N) (a := 0) (b := 19) (m := m) hN (by omega) (by omega) (by omega)
    have hF1 : Fr mm0 m1 := ⟨fun k a b => by rw [hc1.1.2 k a]; exact hF.1 k a b, fun j hj => by rw [hc1.o (by omega)]; exact hF.2 j hj⟩
    have hP1 : mPm m1 19 = mPm mm0 0 := by
      unfold mPm
      rw [hF1.C, mP_shift (m := mm0) (r := 0) (by omega) (fun t ht => by rw [hc1.i ht, hF.2 _ (by omega)])]
    have hT1 : m1.1 1 29 = nI T0 := by
      have := hc1.i (j := 10) (by omega)
      rw [show 19 + 10 = 29 from rfl, Nat.zero_add, hF.2 10 (by omega), h10] at this
      exact this
    obtain ⟨st, m2, v, s1, s2, s3, s4, s5⟩ := sim_l (N := N) (nn := nn) (q := q) (c1 := c1) (c2 := c2) (T0 := T0) (x4 := x4) (x6 := nI (cM (mC_ mm0) ^ nn)) hm hB h1 h2 hP0 hT0 hnn (by omega) nn 0 T0 0 (mPm mm0 0) 0 m1 (by omega) rfl rfl hF1 hP1 hT1
    have hF2 : Fr mm0 (mI m2 18 q v) := ⟨fun k a b => by rw [mI_ne k b]; exact s4.1 k a b, fun j hj => by rw [mI_ne 1 (by omega)]; exact s4.2 j hj⟩
    obtain ⟨st2, m3, t1, t2, t3, t4⟩ := ih (q + 1) (mI m2 18 q v) (by omega) hF2 (fun p hp => by
      rw [mI_g, if_pos rfl]
      by_cases e : p = q
      · subst e; rw [if_pos rfl]; exact s3
      · rw [if_neg e, s5, hc1.1.2 18 (by omega)]; exact hl p (by omega))
    refine ⟨st2 + st + 1, m3, by omega, fun n => ?_, t3, t4⟩
    rw [show n + (st2 + st + 1) = (n + st2 + st) + 1 by omega, l_v2]
    unfold B_X9_rivals_101
    have etr : f_X9_tries N m = some (0, m1) := by
      unfold f_X9_tries
      rw [show f_X9_copy N 0 19 m = some (r, m1) from e1, fl_bd_s]
    rw [if_neg (nI_ge (by omega) (by omega)), etr, fl_bd_s]
    exact (s2 (n + st2)).trans (t2 n)
