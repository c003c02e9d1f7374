def B_X8_restOf_4 (N : Nat) (K0 : Nat) (K1 : Nat) (F : Int32 → Int32 → Mem → Option (Int32 × Mem)) (x2 : Int32) (x3 : Int32) (m : Mem) : Option (Int32 × Mem) :=
  if (m.1 K0 3) ≤ x3 then (
    some (x2, m))
  else (
    fl_bd (f_X5_isTaken K1 x3 m) (fun r2 m3 =>
      if r2 = 0 then (
        fl_li (x2 + (1 : Int32)) (fun z6 =>
          F z6 (x3 + 1) m3))
      else (
        fl_li (x2 + (0 : Int32)) (fun z8 =>
          F z8 (x3 + 1) m3))))
def l_X8_restOf (N : Nat) (K0 : Nat) (K1 : Nat) : Nat → Int32 → Int32 → Mem → Option (Int32 × Mem)
  | 0 => fun _ _ _ => none
  | n + 1 => fun x2 x3 m => B_X8_restOf_4 N K0 K1 (l_X8_restOf N K0 K1 n) x2 x3 m
def f_X8_restOf (N : Nat) (K0 : Nat) (K1 : Nat) (m : Mem) : Option (Int32 × Mem) :=
  (l_X8_restOf N K0 K1 N) (0 : Int32) (0 : Int32) m
set_option maxHeartbeats 4000000 in
set_option maxRecDepth 100000 in
theorem c_X8_restOf (l : Launch) (D : va_G) (ca : Nat → ClassId) (ad : Nat → Nat) (hi : fl_inj L1 ad) (N : Nat) (K0 : Nat) (hK0 : isCity K0) (K1 : Nat) (hK1 : isStand K1) (m : Mem) (v' : Int32) (M' : Mem) (h : f_X8_restOf N K0 K1 m = some (v', M')) : fl_M l L1 D ca ad yX8_restOf cX8_restOf 4 (some .int) 2 [.ref (ad K0), .ref (ad K1)] m (some (.int v')) M' := by
  unfold f_X8_restOf at h
  refine fl_ofW (by decide) hi (Nat.le_of_ble_eq_true rfl) ?_
  intro p e s mm args below meth c ls X hr hlk hP hl
  have hl : lv_has ls 4 [(0, .ref (ad K0)), (1, .ref (ad K1))] := hl
  have X : fl_X p s mm args c cX8_restOf 4 RX8 L1 D ca ad := X
  obtain ⟨hx, hb, hml, hown, hts, hE, -⟩ := id X
  have hS : va_S (fl_A L1 ad) s.heap s.heap [] := va_S.rf
  have key : ∀ n : Nat, (∀ (x2 : Int32) (x3 : Int32) (m : Mem) (H : Heap) (locs : List Loc) (ls : Array Slot), l_X8_restOf N K0 K1 n x2 x3 m = some (v', M') → va_P D vwCl (fl_w L1 ca ad m) H → va_S (fl_A L1 ad) s.heap H locs → lv_has ls 4 [(0, .ref (ad K0)), (1, .ref (ad K1)), (2, .int x2), (3, .int x3)] → W p l e (fl_rm 2) s mm args below meth c H locs 0 0 (MQ below (fl_Q L1 D ca ad (some (.int v')) M') args s 0 0 (fl_A L1 ad)) (F0 mm 4 ls [])) := by
    intro n
    induction n with
    | zero =>
      skip
      · intro x2 x3 m H locs ls h hP hS hl
        have h : (none : Option (Int32 × Mem)) = some (v', M') := h
        cases h
    | succ n ih =>
      have ih_4 := ih
      skip
      · intro x2 x3 m H locs ls h hP hS hl
        have h : B_X8_restOf_4 N K0 K1 (l_X8_restOf N K0 K1 n) x2 x3 m = some (v', M') := h
        unfold B_X8_restOf_4 at h
        refine lv_iload_n hx hb dX8_restOf_4 rfl (lv_at hl 3 rfl) ?_
        refine lv_aload_n hx hb dX8_restOf_5 rfl (lv_at hl 0 rfl) ?_
        refine fl_geti X hP fk_X8_106 hK0.1 rfl dX8_restOf_6 ?_
        refine lv_icmp_ge (tgt := 34) hx hb dX8_restOf_9 (by decide) (fun c1 => ?_) (fun c1 => ?_)
        · replace h := fl_if_t h c1
          refine lv_iload_n hx hb dX8_restOf_34 rfl (lv_at hl 2 rfl) ?_
          exact fl_iret X hr hlk hP hS dX8_restOf_35 h
        · replace h := fl_if_f h c1
          refine lv_iload_n hx hb dX8_restOf_12 rfl (lv_at hl 2 rfl) ?_
          refine lv_aload_n hx hb dX8_restOf_13 rfl (lv_at hl 1 rfl) ?_
          refine lv_iload_n hx hb dX8_restOf_14 rfl (lv_at hl 3 rfl) ?_
          obtain ⟨r2, m3, hz4, h⟩ := fl_bd_e h
          refine fl_callV (av := [.int x3]) X hP hS hl.1 mv_X8_154 (c_X5_isTaken l D ca ad hi K1 hK1 x3 m _ _ hz4) hK1.1 (fl_fit_rm (by omega) (by decide)) rfl (Nat.le_of_ble_eq_true rfl) dX8_restOf_15 rfl (fun H locs hP hS => ?_)
          refine W.eq (g2 := F0 mm 18 ls [.int r2, .int x2]) rfl ?_
          refine lv_if_eq (tgt := 25) hx hb dX8_restOf_18 (by decide) (fun c5 => ?_) (fun c5 => ?_)
          · replace h := fl_if_t h c5
            refine lv_iconst (v := (1 : Int32)) hx hb dX8_restOf_25 (by decide) ?_
            refine lv_iadd hx hb dX8_restOf_26 ?_
            obtain ⟨z6, ez7, h⟩ := fl_li_e h
            refine fl_topi ez7 ?_
            refine lv_istore_n (lv' := [(2, .int z6), (0, .ref (ad K0)), (1, .ref (ad K1)), (3, .int x3)]) hx hb dX8_restOf_27 rfl hl (by decide) rfl (fun ls hl => ?_)
            refine lv_iinc (v := x3 + 1) (lv' := [(3, .int (x3 + 1)), (2, .int z6), (0, .ref (ad K0)), (1, .ref (ad K1))]) hx hb dX8_restOf_28 hl (k := 3) rfl rfl (by decide) rfl (fun ls hl => ?_)
            refine lv_goto (tgt := 4) hx hb dX8_restOf_31 (by decide) ?_
            exact ih_4 _ _ _ _ _ _ h hP hS (lv_sub hl [2, 3, 1, 0] rfl)
          · replace h := fl_if_f h c5
            refine lv_iconst (v := (0 : Int32)) hx hb dX8_restOf_21 (by decide) ?_
            refine lv_goto (tgt := 26) hx hb dX8_restOf_22 (by decide) ?_
            refine lv_iadd hx hb dX8_restOf_26 ?_
            obtain ⟨z8, ez9, h⟩ := fl_li_e h
            refine fl_topi ez9 ?_
            refine lv_istore_n (lv' := [(2, .int z8), (0, .ref (ad K0)), (1, .ref (ad K1)), (3, .int x3)]) hx hb dX8_restOf_27 rfl hl (by decide) rfl (fun ls hl => ?_)
            refine lv_iinc (v := x3 + 1) (lv' := [(3, .int (x3 + 1)), (2, .int z8), (0, .ref (ad K0)), (1, .ref (ad K1))]) hx hb dX8_restOf_28 hl (k := 3) rfl rfl (by decide) rfl (fun ls hl => ?_)
            refine lv_goto (tgt := 4) hx hb dX8_restOf_31 (by decide) ?_
            exact ih_4 _ _ _ _ _ _ h hP hS (lv_sub hl [2, 3, 1, 0] rfl)
  have ih_4 := key N
  refine lv_iconst (v := (0 : Int32)) hx hb dX8_restOf_0 (by decide) ?_
  refine lv_istore_n (lv' := [(2, .int (0 : Int32)), (0, .ref (ad K0)), (1, .ref (ad K1))]) hx hb dX8_restOf_1 rfl hl (by decide) rfl (fun ls hl => ?_)
  refine lv_iconst (v := (0 : Int32)) hx hb dX8_restOf_2 (by decide) ?_
  refine lv_istore_n (lv' := [(3, .int (0 : Int32)), (2, .int (0 : Int32)), (0, .ref (ad K0)), (1, .ref (ad K1))]) hx hb dX8_restOf_3 rfl hl (by decide) rfl (fun ls hl => ?_)
  exact ih_4 _ _ _ _ _ _ h hP hS (lv_sub hl [2, 3, 1, 0] rfl)

def f_X2_keepIfFewer (x1 : Int32) (m : Mem) : Option (Int32 × Mem) :=
  if (m.1 32 4) ≤ x1 then (
    some ((0 : Int32), m))
  else (
    fl_lm (mI m 32 4 x1) (fun m2 =>
      fl_lm (mC m2 34 35 0 0 7) (fun m4 =>
        some ((0 : Int32), m4))))
set_option maxHeartbeats 4000000 in
set_option maxRecDepth 100000 in
theorem c_X2_keepIfFewer (l : Launch) (D : va_G) (ca : Nat → ClassId) (ad : Nat → Nat) (hi : fl_inj L1 ad) (x1 : Int32) (m : Mem) (v' : Int32) (M' : Mem) (h : f_X2_keepIfFewer x1 m = some (v', M')) : fl_M l L1 D ca ad yX2_keepIfFewer cX2_keepIfFewer 2 none 1 [.ref (ad 32), .int x1] m none M' := by
  unfold f_X2_keepIfFewer at h
  refine fl_ofW (by decide) hi (Nat.le_of_ble_eq_true rfl) ?_
  intro p e s mm args below meth c ls X hr hlk hP hl
  have hl : lv_has ls 2 [(0, .ref (ad 32)), (1, .int x1)] := hl
  have X : fl_X p s mm args c cX2_keepIfFewer 2 RX2 L1 D ca ad := X
  obtain ⟨hx, hb, hml, hown, hts, hE, -⟩ := id X
  have hS : va_S (fl_A L1 ad) s.heap s.heap [] := va_S.rf
  refine lv_iload_n hx hb dX2_keepIfFewer_0 rfl (lv_at hl 1 rfl) ?_
  refine lv_aload_n hx hb dX2_keepIfFewer_1 rfl (lv_at hl 0 rfl) ?_
  refine fl_geti X hP fk_X2_37 k1_32 rfl dX2_keepIfFewer_2 ?_
  refine lv_icmp_ge (tgt := 28) hx hb dX2_keepIfFewer_5 (by decide) (fun c1 => ?_) (fun c1 => ?_)
  · replace h := fl_if_t h c1
    exact fl_vret X hr hlk hP hS dX2_keepIfFewer_28 h
  · replace h := fl_if_f h c1
    refine lv_aload_n hx hb dX2_keepIfFewer_8 rfl (lv_at hl 0 rfl) ?_
    refine lv_iload_n hx hb dX2_keepIfFewer_9 rfl (lv_at hl 1 rfl) ?_
    obtain ⟨m2, em3, h⟩ := fl_lm_e h
    refine fl_puti X hP hS pk_X2_37 k1_32 rfl rfl rfl dX2_keepIfFewer_10 (fun H locs hP hS => ?_)
    have hP : va_P D vwCl (fl_w L1 ca ad m2) H := by rw [em3]; exact hP
    refine lv_aload_n hx hb dX2_keepIfFewer_13 rfl (lv_at hl 0 rfl) ?_
    refine fl_getr X hP fk_X2_17 k1_32 rfl dX2_keepIfFewer_14 ?_
    refine lv_iconst (v := (0 : Int32)) hx hb dX2_keepIfFewer_17 (by decide) ?_
    refine lv_aload_n hx hb dX2_keepIfFewer_18 rfl (lv_at hl 0 rfl) ?_
    refine fl_getr X hP fk_X2_21 k1_32 rfl dX2_keepIfFewer_19 ?_
    refine lv_iconst (v := (0 : Int32)) hx hb dX2_keepIfFewer_22 (by decide) ?_
    refine lv_bipush (v := (7 : Int32)) hx hb dX2_keepIfFewer_23 (by decide) ?_
    obtain ⟨m4, em5, h⟩ := fl_lm_e h
    refine fl_copy X hP hS hl.1 k1_34 k1_35 (by decide) (by decide) (by decide) (by decide) (by decide) wq_594 wq_417 wq_416 wq_59 (fl_r1 (by omega)) (fl_r3 (by omega) (Nat.le_of_ble_eq_true rfl)) dX2_keepIfFewer_25 (fun H locs hP hS => ?_)
    have hP : va_P D vwCl (fl_w L1 ca ad m4) H := by rw [em5]; exact hP
    exact fl_vret X hr hlk hP hS dX2_keepIfFewer_28 h

def J_X2_extend_129 (N : Nat) (G : Nat → Int32 → Int32 → Mem → Option (Int32 × Mem)) (K1 : Nat) (F : Nat → Nat → Int32 → Int32 → Int32 → Mem → Option (Int32 × Mem)) (x2 : Int32) (x3 : Int32) (q4 : Nat) (q5 : Nat) (x6 : Int32) (t2 : Int32) (t3 : Int32) (m : Mem) : Option (Int32 × Mem) :=
  fl_bd (G K1 t2 t3 m) (fun r27 m28 =>
    F q4 q5 x2 x3 (x6 + 1) m28)
def J_X2_extend_110 (N : Nat) (G : Nat → Int32 → Int32 → Mem → Option (Int32 × Mem)) (K1 : Nat) (F : Nat → Nat → Int32 → Int32 → Int32 → Mem → Option (Int32 × Mem)) (x2 : Int32) (x3 : Int32) (q4 : Nat) (q5 : Nat) (x6 : Int32) (t0 : Int32) (m : Mem) : Option (Int32 × Mem) :=
  if t0 = 0 then (
    J_X2_extend_129 N G K1 F x2 x3 q4 q5 x6 (x2 + (1 : Int32)) x3 m)
  else (
    J_X2_extend_129 N G K1 F x2 x3 q4 q5 x6 (x2 + (1 : Int32)) (x3 + (1 : Int32)) m)
def J_X2_extend_109 (N : Nat) (G : Nat → Int32 → Int32 → Mem → Option (Int32 × Mem)) (K1 : Nat) (F : Nat → Nat → Int32 → Int32 → Int32 → Mem → Option (Int32 × Mem)) (x2 : Int32) (x3 : Int32) (q4 : Nat) (q5 : Nat) (x6 : Int32) (m : Mem) : Option (Int32 × Mem) :=
  J_X2_extend_110 N G K1 F x2 x3 q4 q5 x6 (0 : Int32) m
def B_X2_extend_41 (N : Nat) (G : Nat → Int32 → Int32 → Mem → Option (Int32 × Mem)) (K1 : Nat) (F : Nat → Nat → Int32 → Int32 → Int32 → Mem → Option (Int32 × Mem)) (x2 : Int32) (x3 : Int32) (q4 : Nat) (q5 : Nat) (x6 : Int32) (m : Mem) : Option (Int32 × Mem) :=
  if (m.1 K1 3) ≤ x6 then (
    some ((0 : Int32), m))
  else (
    if (m.1 32 4) ≤ x3 then (
      some ((0 : Int32), m))
    else (
      fl_bd (f_X5_isTaken q4 x6 m) (fun r10 m11 =>
        if r10 = 0 then (
          fl_bd (f_X5_copy q5 q4 m11) (fun r14 m15 =>
            fl_ck (0 ≤ x2.toInt ∧ x2.toInt < 7) (
              fl_lm (mI m15 34 (x2.toNatClampNeg) x6) (fun m18 =>
                fl_bd (f_X0_driveSoonest N K1 q5 x6 m18) (fun r20 m21 =>
                  if r20 = 0 then (
                    J_X2_extend_109 N G K1 F x2 x3 q4 q5 x6 m21)
                  else (
                    fl_ck (0 ≤ x6.toInt ∧ x6.toInt < 7) (
                      if (m21.1 (K1 + 4) (x6.toNatClampNeg)) = (1 : Int32) then (
                        J_X2_extend_109 N G K1 F x2 x3 q4 q5 x6 m21)
                      else (
                        J_X2_extend_110 N G K1 F x2 x3 q4 q5 x6 (1 : Int32) m21))))))))
        else (
          F q4 q5 x2 x3 (x6 + 1) m11))))
def J_X2_extend_14 (N : Nat) (G : Nat → Int32 → Int32 → Mem → Option (Int32 × Mem)) (K1 : Nat) (F : Nat → Nat → Int32 → Int32 → Int32 → Mem → Option (Int32 × Mem)) (x3 : Int32) (m : Mem) : Option (Int32 × Mem) :=
  fl_bd (f_X2_keepIfFewer x3 m) (fun r5 m6 =>
    some ((0 : Int32), m6))
def l_X2_extend (N : Nat) (G : Nat → Int32 → Int32 → Mem → Option (Int32 × Mem)) (K1 : Nat) : Nat → Nat → Nat → Int32 → Int32 → Int32 → Mem → Option (Int32 × Mem)
  | 0 => fun _ _ _ _ _ _ => none
  | n + 1 => fun q4 q5 x2 x3 x6 m => B_X2_extend_41 N G K1 (l_X2_extend N G K1 n) x2 x3 q4 q5 x6 m
def E_X2_extend (N : Nat) (G : Nat → Int32 → Int32 → Mem → Option (Int32 × Mem)) (K1 : Nat) (x2 : Int32) (x3 : Int32) (m : Mem) : Option (Int32 × Mem) :=
  if (m.1 32 3) ≤ x2 then (
    J_X2_extend_14 N G K1 (l_X2_extend N G K1 N) x3 m)
  else (
    if x2 < (7 : Int32) then (
      fl_ck (0 ≤ x2.toInt ∧ x2.toInt < 8) (
        fl_ck (0 ≤ (x2 + (1 : Int32)).toInt ∧ (x2 + (1 : Int32)).toInt < 8) (
          (l_X2_extend N G K1 N) (111 + 6 * x2.toNatClampNeg) (111 + 6 * (x2 + (1 : Int32)).toNatClampNeg) x2 x3 (0 : Int32) m)))
    else (
      J_X2_extend_14 N G K1 (l_X2_extend N G K1 N) x3 m))
def f_X2_extend (N : Nat) : Nat → Nat → Int32 → Int32 → Mem → Option (Int32 × Mem)
  | 0 => fun _ _ _ _ => none
  | d + 1 => fun K1 x2 x3 m => E_X2_extend N (f_X2_extend N d) K1 x2 x3 m
set_option maxHeartbeats 4000000 in
set_option maxRecDepth 100000 in
theorem c_X2_extend (l : Launch) (D : va_G) (ca : Nat → ClassId) (ad : Nat → Nat) (hi : fl_inj L1 ad) (N : Nat) : ∀ (dd : Nat) (K1 : Nat) (hK1 : isCity K1) (x2 : Int32) (x3 : Int32) (m : Mem) (v' : Int32) (M' : Mem), f_X2_extend N dd K1 x2 x3 m = some (v', M') → fl_M l L1 D ca ad yX2_extend cX2_extend 8 none (6 + dd) [.ref (ad 32), .ref (ad K1), .int x2, .int x3] m none M' := by
  intro dd
  induction dd with
  | zero =>
    intro K1 hK1 x2 x3 m v' M' h
    have h : (none : Option (Int32 × Mem)) = some (v', M') := h
    cases h
  | succ dd rih =>
    intro K1 hK1 x2 x3 m v' M' h
    have h : E_X2_extend N (f_X2_extend N dd) K1 x2 x3 m = some (v', M') := h
    unfold E_X2_extend at h
    refine fl_ofW (by decide) hi (Nat.le_of_ble_eq_true rfl) ?_
    intro p e s mm args below meth c ls X hr hlk hP hl
    have hl : lv_has ls 8 [(0, .ref (ad 32)), (1, .ref (ad K1)), (2, .int x2), (3, .int x3)] := hl
    have X : fl_X p s mm args c cX2_extend 8 RX2 L1 D ca ad := X
    obtain ⟨hx, hb, hml, hown, hts, hE, -⟩ := id X
    have hS : va_S (fl_A L1 ad) s.heap s.heap [] := va_S.rf
    have js : ∀ n : Nat, ((∀ (x2 : Int32) (x3 : Int32) (q4 : Nat) (hq4 : isStand q4) (q5 : Nat) (hq5 : isStand q5) (x6 : Int32) (m : Mem) (H : Heap) (locs : List Loc) (ls : Array Slot), l_X2_extend N (f_X2_extend N dd) K1 n q4 q5 x2 x3 x6 m = some (v', M') → va_P D vwCl (fl_w L1 ca ad m) H → va_S (fl_A L1 ad) s.heap H locs → lv_has ls 8 [(0, .ref (ad 32)), (1, .ref (ad K1)), (2, .int x2), (3, .int x3), (4, .ref (ad q4)), (5, .ref (ad q5)), (6, .int x6)] → W p l e (fl_rm (6 + (dd + 1))) s mm args below meth c H locs 0 0 (MQ below (fl_Q L1 D ca ad none M') args s 0 0 (fl_A L1 ad)) (F0 mm 41 ls []))) → (∀ (x2 : Int32) (x3 : Int32) (q4 : Nat) (hq4 : isStand q4) (q5 : Nat) (hq5 : isStand q5) (x6 : Int32) (t2 : Int32) (t3 : Int32) (m : Mem) (H : Heap) (locs : List Loc) (ls : Array Slot), J_X2_extend_129 N (f_X2_extend N dd) K1 (l_X2_extend N (f_X2_extend N dd) K1 n) x2 x3 q4 q5 x6 t2 t3 m = some (v', M') → va_P D vwCl (fl_w L1 ca ad m) H → va_S (fl_A L1 ad) s.heap H locs → lv_has ls 8 [(0, .ref (ad 32)), (1, .ref (ad K1)), (2, .int x2), (3, .int x3), (4, .ref (ad q4)), (5, .ref (ad q5)), (6, .int x6)] → W p l e (fl_rm (6 + (dd + 1))) s mm args below meth c H locs 0 0 (MQ below (fl_Q L1 D ca ad none M') args s 0 0 (fl_A L1 ad)) (F0 mm 129 ls [.int t3, .int t2, .ref (ad K1), .ref (ad 32)])) ∧ (∀ (x2 : Int32) (x3 : Int32) (q4 : Nat) (hq4 : isStand q4) (q5 : Nat) (hq5 : isStand q5) (x6 : Int32) (t0 : Int32) (m : Mem) (H : Heap) (locs : List Loc) (ls : Array Slot), J_X2_extend_110 N (f_X2_extend N dd) K1 (l_X2_extend N (f_X2_extend N dd) K1 n) x2 x3 q4 q5 x6 t0 m = some (v', M') → va_P D vwCl (fl_w L1 ca ad m) H → va_S (fl_A L1 ad) s.heap H locs → lv_has ls 8 [(0, .ref (ad 32)), (1, .ref (ad K1)), (2, .int x2), (3, .int x3), (4, .ref (ad q4)), (5, .ref (ad q5)), (6, .int x6)] → W p l e (fl_rm (6 + (dd + 1))) s mm args below meth c H locs 0 0 (MQ below (fl_Q L1 D ca ad none M') args s 0 0 (fl_A L1 ad)) (F0 mm 110 ls [.int t0])) ∧ (∀ (x2 : Int32) (x3 : Int32) (q4 : Nat) (hq4 : isStand q4) (q5 : Nat) (hq5 : isStand q5) (x6 : Int32) (m : Mem) (H : Heap) (locs : List Loc) (ls : Array Slot), J_X2_extend_109 N (f_X2_extend N dd) K1 (l_X2_extend N (f_X2_extend N dd) K1 n) x2 x3 q4 q5 x6 m = some (v', M') → va_P D vwCl (fl_w L1 ca ad m) H → va_S (fl_A L1 ad) s.heap H locs → lv_has ls 8 [(0, .ref (ad 32)), (1, .ref (ad K1)), (2, .int x2), (3, .int x3), (4, .ref (ad q4)), (5, .ref (ad q5)), (6, .int x6)] → W p l e (fl_rm (6 + (dd + 1))) s mm args below meth c H locs 0 0 (MQ below (fl_Q L1 D ca ad none M') args s 0 0 (fl_A L1 ad)) (F0 mm 109 ls [])) ∧ (∀ (x3 : Int32) (m : Mem) (H : Heap) (locs : List Loc) (ls : Array Slot), J_X2_extend_14 N (f_X2_extend N dd) K1 (l_X2_extend N (f_X2_extend N dd) K1 n) x3 m = some (v', M') → va_P D vwCl (fl_w L1 ca ad m) H → va_S (fl_A L1 ad) s.heap H locs → lv_has ls 8 [(0, .ref (ad 32)), (3, .int x3)] → W p l e (fl_rm (6 + (dd + 1))) s mm args below meth c H locs 0 0 (MQ below (fl_Q L1 D ca ad none M') args s 0 0 (fl_A L1 ad)) (F0 mm 14 ls [])) := by
      intro n ih
      have ih_41 := ih
      have j_129 : ∀ (x2 : Int32) (x3 : Int32) (q4 : Nat) (hq4 : isStand q4) (q5 : Nat) (hq5 : isStand q5) (x6 : Int32) (t2 : Int32) (t3 : Int32) (m : Mem) (H : Heap) (locs : List Loc) (ls : Array Slot), J_X2_extend_129 N (f_X2_extend N dd) K1 (l_X2_extend N (f_X2_extend N dd) K1 n) x2 x3 q4 q5 x6 t2 t3 m = some (v', M') → va_P D vwCl (fl_w L1 ca ad m) H → va_S (fl_A L1 ad) s.heap H locs → lv_has ls 8 [(0, .ref (ad 32)), (1, .ref (ad K1)), (2, .int x2), (3, .int x3), (4, .ref (ad q4)), (5, .ref (ad q5)), (6, .int x6)] → W p l e (fl_rm (6 + (dd + 1))) s mm args below meth c H locs 0 0 (MQ below (fl_Q L1 D ca ad none M') args s 0 0 (fl_A L1 ad)) (F0 mm 129 ls [.int t3, .int t2, .ref (ad K1), .ref (ad 32)]) := by
        intro x2 x3 q4 hq4 q5 hq5 x6 t2 t3 m H locs ls h hP hS hl
        unfold J_X2_extend_129 at h
        obtain ⟨r27, m28, hz29, h⟩ := fl_bd_e h
        refine fl_callS (av := [.ref (ad 32), .ref (ad K1), .int t2, .int t3]) X hP hS hl.1 ms_X2_52 (rih K1 hK1 t2 t3 m _ _ hz29) (fl_fit_rm (by omega) (by decide)) rfl (Nat.le_of_ble_eq_true rfl) dX2_extend_129 rfl (fun H locs hP hS => ?_)
        refine W.eq (g2 := F0 mm 132 ls []) rfl ?_
        refine lv_iinc (v := x6 + 1) (lv' := [(6, .int (x6 + 1)), (0, .ref (ad 32)), (1, .ref (ad K1)), (2, .int x2), (3, .int x3), (4, .ref (ad q4)), (5, .ref (ad q5))]) hx hb dX2_extend_132 hl (k := 6) rfl rfl (by decide) rfl (fun ls hl => ?_)
        refine lv_goto (tgt := 41) hx hb dX2_extend_135 (by decide) ?_
        exact ih_41 _ _ _ hq4 _ hq5 _ _ _ _ _ h hP hS (lv_sub hl [1, 2, 3, 4, 5, 6, 0] rfl)
      have j_110 : ∀ (x2 : Int32) (x3 : Int32) (q4 : Nat) (hq4 : isStand q4) (q5 : Nat) (hq5 : isStand q5) (x6 : Int32) (t0 : Int32) (m : Mem) (H : Heap) (locs : List Loc) (ls : Array Slot), J_X2_extend_110 N (f_X2_extend N dd) K1 (l_X2_extend N (f_X2_extend N dd) K1 n) x2 x3 q4 q5 x6 t0 m = some (v', M') → va_P D vwCl (fl_w L1 ca ad m) H → va_S (fl_A L1 ad) s.heap H locs → lv_has ls 8 [(0, .ref (ad 32)), (1, .ref (ad K1)), (2, .int x2), (3, .int x3), (4, .ref (ad q4)), (5, .ref (ad q5)), (6, .int x6)] → W p l e (fl_rm (6 + (dd + 1))) s mm args below meth c H locs 0 0 (MQ below (fl_Q L1 D ca ad none M') args s 0 0 (fl_A L1 ad)) (F0 mm 110 ls [.int t0]) := by
        intro x2 x3 q4 hq4 q5 hq5 x6 t0 m H locs ls h hP hS hl
        unfold J_X2_extend_110 at h
        refine lv_istore (lv' := [(7, .int t0), (0, .ref (ad 32)), (1, .ref (ad K1)), (2, .int x2), (3, .int x3), (4, .ref (ad q4)), (5, .ref (ad q5)), (6, .int x6)]) hx hb dX2_extend_110 hl (by decide) rfl (fun ls hl => ?_)
        refine lv_aload_n hx hb dX2_extend_112 rfl (lv_at hl 1 rfl) ?_
        refine lv_aload_n hx hb dX2_extend_113 rfl (lv_at hl 2 rfl) ?_
        refine lv_iload_n hx hb dX2_extend_114 rfl (lv_at hl 3 rfl) ?_
        refine lv_iconst (v := (1 : Int32)) hx hb dX2_extend_115 (by decide) ?_
        refine lv_iadd hx hb dX2_extend_116 ?_
        refine lv_iload hx hb dX2_extend_117 (lv_at hl 0 rfl) ?_
        refine lv_if_eq (tgt := 128) hx hb dX2_extend_119 (by decide) (fun c26 => ?_) (fun c26 => ?_)
        · replace h := fl_if_t h c26
          refine lv_iload_n hx hb dX2_extend_128 rfl (lv_at hl 4 rfl) ?_
          exact j_129 _ _ _ hq4 _ hq5 _ _ _ _ _ _ _ h hP hS (lv_sub hl [1, 2, 3, 4, 5, 6, 7] rfl)
        · replace h := fl_if_f h c26
          refine lv_iload_n hx hb dX2_extend_122 rfl (lv_at hl 4 rfl) ?_
          refine lv_iconst (v := (1 : Int32)) hx hb dX2_extend_123 (by decide) ?_
          refine lv_iadd hx hb dX2_extend_124 ?_
          refine lv_goto (tgt := 129) hx hb dX2_extend_125 (by decide) ?_
          exact j_129 _ _ _ hq4 _ hq5 _ _ _ _ _ _ _ h hP hS (lv_sub hl [1, 2, 3, 4, 5, 6, 7] rfl)
      have j_109 : ∀ (x2 : Int32) (x3 : Int32) (q4 : Nat) (hq4 : isStand q4) (q5 : Nat) (hq5 : isStand q5) (x6 : Int32) (m : Mem) (H : Heap) (locs : List Loc) (ls : Array Slot), J_X2_extend_109 N (f_X2_extend N dd) K1 (l_X2_extend N (f_X2_extend N dd) K1 n) x2 x3 q4 q5 x6 m = some (v', M') → va_P D vwCl (fl_w L1 ca ad m) H → va_S (fl_A L1 ad) s.heap H locs → lv_has ls 8 [(0, .ref (ad 32)), (1, .ref (ad K1)), (2, .int x2), (3, .int x3), (4, .ref (ad q4)), (5, .ref (ad q5)), (6, .int x6)] → W p l e (fl_rm (6 + (dd + 1))) s mm args below meth c H locs 0 0 (MQ below (fl_Q L1 D ca ad none M') args s 0 0 (fl_A L1 ad)) (F0 mm 109 ls []) := by
        intro x2 x3 q4 hq4 q5 hq5 x6 m H locs ls h hP hS hl
        unfold J_X2_extend_109 at h
        refine lv_iconst (v := (0 : Int32)) hx hb dX2_extend_109 (by decide) ?_
        exact j_110 _ _ _ hq4 _ hq5 _ _ _ _ _ _ h hP hS (lv_sub hl [0, 1, 2, 3, 4, 5, 6] rfl)
      have j_14 : ∀ (x3 : Int32) (m : Mem) (H : Heap) (locs : List Loc) (ls : Array Slot), J_X2_extend_14 N (f_X2_extend N dd) K1 (l_X2_extend N (f_X2_extend N dd) K1 n) x3 m = some (v', M') → va_P D vwCl (fl_w L1 ca ad m) H → va_S (fl_A L1 ad) s.heap H locs → lv_has ls 8 [(0, .ref (ad 32)), (3, .int x3)] → W p l e (fl_rm (6 + (dd + 1))) s mm args below meth c H locs 0 0 (MQ below (fl_Q L1 D ca ad none M') args s 0 0 (fl_A L1 ad)) (F0 mm 14 ls []) := by
        intro x3 m H locs ls h hP hS hl
        unfold J_X2_extend_14 at h
        refine lv_aload_n hx hb dX2_extend_14 rfl (lv_at hl 0 rfl) ?_
        refine lv_iload_n hx hb dX2_extend_15 rfl (lv_at hl 1 rfl) ?_
        obtain ⟨r5, m6, hz7, h⟩ := fl_bd_e h
        refine fl_callV (av := [.int x3]) X hP hS hl.1 mv_X2_56 (c_X2_keepIfFewer l D ca ad hi x3 m _ _ hz7) k1_32 (fl_fit_rm (by omega) (by decide)) rfl (Nat.le_of_ble_eq_true rfl) dX2_extend_16 rfl (fun H locs hP hS => ?_)
        refine W.eq (g2 := F0 mm 19 ls []) rfl ?_
        exact fl_vret X hr hlk hP hS dX2_extend_19 h
      exact ⟨j_129, j_110, j_109, j_14⟩
    have key : ∀ n : Nat, (∀ (x2 : Int32) (x3 : Int32) (q4 : Nat) (hq4 : isStand q4) (q5 : Nat) (hq5 : isStand q5) (x6 : Int32) (m : Mem) (H : Heap) (locs : List Loc) (ls : Array Slot), l_X2_extend N (f_X2_extend N dd) K1 n q4 q5 x2 x3 x6 m = some (v', M') → va_P D vwCl (fl_w L1 ca ad m) H → va_S (fl_A L1 ad) s.heap H locs → lv_has ls 8 [(0, .ref (ad 32)), (1, .ref (ad K1)), (2, .int x2), (3, .int x3), (4, .ref (ad q4)), (5, .ref (ad q5)), (6, .int x6)] → W p l e (fl_rm (6 + (dd + 1))) s mm args below meth c H locs 0 0 (MQ below (fl_Q L1 D ca ad none M') args s 0 0 (fl_A L1 ad)) (F0 mm 41 ls [])) := by
      intro n
      induction n with
      | zero =>
        skip
        · intro x2 x3 q4 hq4 q5 hq5 x6 m H locs ls h hP hS hl
          have h : (none : Option (Int32 × Mem)) = some (v', M') := h
          cases h
      | succ n ih =>
        have ih_41 := ih
        obtain ⟨j_129, j_110, j_109, j_14⟩ := js n ih_41
        skip
        · intro x2 x3 q4 hq4 q5 hq5 x6 m H locs ls h hP hS hl
          have h : B_X2_extend_41 N (f_X2_extend N dd) K1 (l_X2_extend N (f_X2_extend N dd) K1 n) x2 x3 q4 q5 x6 m = some (v', M') := h
          unfold B_X2_extend_41 at h
          refine lv_iload hx hb dX2_extend_41 (lv_at hl 6 rfl) ?_
          refine lv_aload_n hx hb dX2_extend_43 rfl (lv_at hl 1 rfl) ?_
          refine fl_geti X hP fk_X2_40 hK1.1 rfl dX2_extend_44 ?_
          refine lv_icmp_ge (tgt := 138) hx hb dX2_extend_47 (by decide) (fun c8 => ?_) (fun c8 => ?_)
          · replace h := fl_if_t h c8
            exact fl_vret X hr hlk hP hS dX2_extend_138 h
          · replace h := fl_if_f h c8
            refine lv_iload_n hx hb dX2_extend_50 rfl (lv_at hl 3 rfl) ?_
            refine lv_aload_n hx hb dX2_extend_51 rfl (lv_at hl 0 rfl) ?_
            refine fl_geti X hP fk_X2_37 k1_32 rfl dX2_extend_52 ?_
            refine lv_icmp_ge (tgt := 138) hx hb dX2_extend_55 (by decide) (fun c9 => ?_) (fun c9 => ?_)
            · replace h := fl_if_t h c9
              exact fl_vret X hr hlk hP hS dX2_extend_138 h
            · replace h := fl_if_f h c9
              refine lv_aload hx hb dX2_extend_58 (lv_at hl 4 rfl) ?_
              refine lv_iload hx hb dX2_extend_60 (lv_at hl 6 rfl) ?_
              obtain ⟨r10, m11, hz12, h⟩ := fl_bd_e h
              refine fl_callV (av := [.int x6]) X hP hS hl.1 mv_X2_48 (c_X5_isTaken l D ca ad hi q4 hq4 x6 m _ _ hz12) hq4.1 (fl_fit_rm (by omega) (by decide)) rfl (Nat.le_of_ble_eq_true rfl) dX2_extend_62 rfl (fun H locs hP hS => ?_)
              refine W.eq (g2 := F0 mm 65 ls [.int r10]) rfl ?_
              refine lv_if_ne (tgt := 132) hx hb dX2_extend_65 (by decide) (fun c13 => ?_) (fun c13 => ?_)
              · replace h := fl_if_f h c13
                refine lv_iinc (v := x6 + 1) (lv' := [(6, .int (x6 + 1)), (0, .ref (ad 32)), (1, .ref (ad K1)), (2, .int x2), (3, .int x3), (4, .ref (ad q4)), (5, .ref (ad q5))]) hx hb dX2_extend_132 hl (k := 6) rfl rfl (by decide) rfl (fun ls hl => ?_)
                refine lv_goto (tgt := 41) hx hb dX2_extend_135 (by decide) ?_
                exact ih_41 _ _ _ hq4 _ hq5 _ _ _ _ _ h hP hS (lv_sub hl [1, 2, 3, 4, 5, 6, 0] rfl)
              · replace h := fl_if_t h c13
                refine lv_aload hx hb dX2_extend_68 (lv_at hl 5 rfl) ?_
                refine lv_aload hx hb dX2_extend_70 (lv_at hl 4 rfl) ?_
                obtain ⟨r14, m15, hz16, h⟩ := fl_bd_e h
                refine fl_callV (av := [.ref (ad q4)]) X hP hS hl.1 mv_X2_25 (c_X5_copy l D ca ad hi q5 hq5 q4 hq4 m11 _ _ hz16) hq5.1 (fl_fit_rm (by omega) (by decide)) rfl (Nat.le_of_ble_eq_true rfl) dX2_extend_72 rfl (fun H locs hP hS => ?_)
                refine W.eq (g2 := F0 mm 75 ls []) rfl ?_
                refine lv_aload_n hx hb dX2_extend_75 rfl (lv_at hl 0 rfl) ?_
                refine fl_getr X hP fk_X2_17 k1_32 rfl dX2_extend_76 ?_
                refine lv_iload_n hx hb dX2_extend_79 rfl (lv_at hl 2 rfl) ?_
                refine lv_iload hx hb dX2_extend_80 (lv_at hl 6 rfl) ?_
                obtain ⟨hk17, h⟩ := fl_ck_e h
                obtain ⟨m18, em19, h⟩ := fl_lm_e h
                refine fl_iast X hP hS k1_34 hk17 dX2_extend_82 (fun H locs hP hS => ?_)
                have hP : va_P D vwCl (fl_w L1 ca ad m18) H := by rw [em19]; exact hP
                refine lv_aload_n hx hb dX2_extend_83 rfl (lv_at hl 1 rfl) ?_
                refine lv_aload hx hb dX2_extend_84 (lv_at hl 5 rfl) ?_
                refine lv_iload hx hb dX2_extend_86 (lv_at hl 6 rfl) ?_
                obtain ⟨r20, m21, hz22, h⟩ := fl_bd_e h
                refine fl_callV (av := [.ref (ad q5), .int x6]) X hP hS hl.1 mv_X2_60 (c_X0_driveSoonest l D ca ad hi N K1 hK1 q5 hq5 x6 m18 _ _ hz22) hK1.1 (fl_fit_rm (by omega) (by decide)) rfl (Nat.le_of_ble_eq_true rfl) dX2_extend_88 rfl (fun H locs hP hS => ?_)
                refine W.eq (g2 := F0 mm 91 ls [.int r20]) rfl ?_
                refine lv_if_eq (tgt := 109) hx hb dX2_extend_91 (by decide) (fun c23 => ?_) (fun c23 => ?_)
                · replace h := fl_if_t h c23
                  exact j_109 _ _ _ hq4 _ hq5 _ _ _ _ _ h hP hS (lv_sub hl [0, 1, 2, 3, 4, 5, 6] rfl)
                · replace h := fl_if_f h c23
                  refine lv_aload_n hx hb dX2_extend_94 rfl (lv_at hl 1 rfl) ?_
                  refine fl_getr X hP fk_X2_45 hK1.1 rfl dX2_extend_95 ?_
                  refine lv_iload hx hb dX2_extend_98 (lv_at hl 6 rfl) ?_
                  obtain ⟨hk24, h⟩ := fl_ck_e h
                  refine fl_iald X hP hK1.2.2.2.2.1 hk24 dX2_extend_100 ?_
                  refine lv_iconst (v := (1 : Int32)) hx hb dX2_extend_101 (by decide) ?_
                  refine lv_icmp_eq (tgt := 109) hx hb dX2_extend_102 (by decide) (fun c25 => ?_) (fun c25 => ?_)
                  · replace h := fl_if_t h c25
                    exact j_109 _ _ _ hq4 _ hq5 _ _ _ _ _ h hP hS (lv_sub hl [0, 1, 2, 3, 4, 5, 6] rfl)
                  · replace h := fl_if_f h c25
                    refine lv_iconst (v := (1 : Int32)) hx hb dX2_extend_105 (by decide) ?_
                    refine lv_goto (tgt := 110) hx hb dX2_extend_106 (by decide) ?_
                    exact j_110 _ _ _ hq4 _ hq5 _ _ _ _ _ _ h hP hS (lv_sub hl [0, 1, 2, 3, 4, 5, 6] rfl)
    have ih_41 := key N
    obtain ⟨j_129, j_110, j_109, j_14⟩ := js N ih_41
    refine lv_iload_n hx hb dX2_extend_0 rfl (lv_at hl 2 rfl) ?_
    refine lv_aload_n hx hb dX2_extend_1 rfl (lv_at hl 0 rfl) ?_
    refine fl_geti X hP fk_X2_33 k1_32 rfl dX2_extend_2 ?_
    refine lv_icmp_ge (tgt := 14) hx hb dX2_extend_5 (by decide) (fun c1 => ?_) (fun c1 => ?_)
    · replace h := fl_if_t h c1
      exact j_14 _ _ _ _ _ h hP hS (lv_sub hl [0, 3] rfl)
    · replace h := fl_if_f h c1
      refine lv_iload_n hx hb dX2_extend_8 rfl (lv_at hl 2 rfl) ?_
      refine lv_bipush (v := (7 : Int32)) hx hb dX2_extend_9 (by decide) ?_
      refine lv_icmp_lt (tgt := 20) hx hb dX2_extend_11 (by decide) (fun c2 => ?_) (fun c2 => ?_)
      · replace h := fl_if_t h c2
        refine lv_aload_n hx hb dX2_extend_20 rfl (lv_at hl 0 rfl) ?_
        refine fl_getr X hP fk_X2_11 k1_32 rfl dX2_extend_21 ?_
        refine lv_iload_n hx hb dX2_extend_24 rfl (lv_at hl 2 rfl) ?_
        obtain ⟨hk3, h⟩ := fl_ck_e h
        refine fl_aald X hP k1_33 hk3 dX2_extend_25 ?_
        refine lv_astore (lv' := [(4, .ref (ad (111 + 6 * x2.toNatClampNeg))), (0, .ref (ad 32)), (1, .ref (ad K1)), (2, .int x2), (3, .int x3)]) hx hb dX2_extend_26 hl (by decide) rfl (fun ls hl => ?_)
        refine lv_aload_n hx hb dX2_extend_28 rfl (lv_at hl 1 rfl) ?_
        refine fl_getr X hP fk_X2_11 k1_32 rfl dX2_extend_29 ?_
        refine lv_iload_n hx hb dX2_extend_32 rfl (lv_at hl 3 rfl) ?_
        refine lv_iconst (v := (1 : Int32)) hx hb dX2_extend_33 (by decide) ?_
        refine lv_iadd hx hb dX2_extend_34 ?_
        obtain ⟨hk4, h⟩ := fl_ck_e h
        refine fl_aald X hP k1_33 hk4 dX2_extend_35 ?_
        refine lv_astore (lv' := [(5, .ref (ad (111 + 6 * (x2 + (1 : Int32)).toNatClampNeg))), (4, .ref (ad (111 + 6 * x2.toNatClampNeg))), (0, .ref (ad 32)), (1, .ref (ad K1)), (2, .int x2), (3, .int x3)]) hx hb dX2_extend_36 hl (by decide) rfl (fun ls hl => ?_)
        refine lv_iconst (v := (0 : Int32)) hx hb dX2_extend_38 (by decide) ?_
        refine lv_istore (lv' := [(6, .int (0 : Int32)), (5, .ref (ad (111 + 6 * (x2 + (1 : Int32)).toNatClampNeg))), (4, .ref (ad (111 + 6 * x2.toNatClampNeg))), (0, .ref (ad 32)), (1, .ref (ad K1)), (2, .int x2), (3, .int x3)]) hx hb dX2_extend_39 hl (by decide) rfl (fun ls hl => ?_)
        exact ih_41 _ _ _ (fl_st_111 hk3) _ (fl_st_111 hk4) _ _ _ _ _ h hP hS (lv_sub hl [3, 4, 5, 6, 2, 1, 0] rfl)
      · replace h := fl_if_f h c2
        exact j_14 _ _ _ _ _ h hP hS (lv_sub hl [0, 3] rfl)

def J_X2_search_68 (N : Nat) (K1 : Nat) (K2 : Nat) (F : Int32 → Int32 → Mem → Option (Int32 × Mem)) (x4 : Int32) (t0 : Int32) (m : Mem) : Option (Int32 × Mem) :=
  fl_li (t0 + (0 : Int32)) (fun z23 =>
    F z23 (x4 + 1) m)
def B_X2_search_34 (N : Nat) (K1 : Nat) (K2 : Nat) (F : Int32 → Int32 → Mem → Option (Int32 × Mem)) (x3 : Int32) (x4 : Int32) (m : Mem) : Option (Int32 × Mem) :=
  if (m.1 K1 3) ≤ x4 then (
    fl_bd (f_X2_extend N 10 K1 (0 : Int32) x3 m) (fun r12 m13 =>
      some ((0 : Int32), m13)))
  else (
    fl_ck (0 ≤ x4.toInt ∧ x4.toInt < 7) (
      if (m.1 (K1 + 4) (x4.toNatClampNeg)) = (1 : Int32) then (
        fl_bd (f_X5_isTaken K2 x4 m) (fun r17 m18 =>
          if r17 = 0 then (
            fl_li (x3 + (1 : Int32)) (fun z21 =>
              F z21 (x4 + 1) m18))
          else (
            J_X2_search_68 N K1 K2 F x4 x3 m18)))
      else (
        J_X2_search_68 N K1 K2 F x4 x3 m)))
def l_X2_search (N : Nat) (K1 : Nat) (K2 : Nat) : Nat → Int32 → Int32 → Mem → Option (Int32 × Mem)
  | 0 => fun _ _ _ => none
  | n + 1 => fun x3 x4 m => B_X2_search_34 N K1 K2 (l_X2_search N K1 K2 n) x3 x4 m
def f_X2_search (N : Nat) (K1 : Nat) (K2 : Nat) (m : Mem) : Option (Int32 × Mem) :=
  fl_bd (f_X5_copy 111 K2 m) (fun r1 m2 =>
    fl_bd (f_X8_restOf N K1 K2 m2) (fun r4 m5 =>
      fl_lm (mI m5 32 3 r4) (fun m7 =>
        fl_lm (mI m7 32 4 ((m7.1 32 3) + (1 : Int32))) (fun m9 =>
          (l_X2_search N K1 K2 N) (0 : Int32) (0 : Int32) m9))))
set_option maxHeartbeats 4000000 in
set_option maxRecDepth 100000 in
theorem c_X2_search (l : Launch) (D : va_G) (ca : Nat → ClassId) (ad : Nat → Nat) (hi : fl_inj L1 ad) (N : Nat) (K1 : Nat) (hK1 : isCity K1) (K2 : Nat) (hK2 : isStand K2) (m : Mem) (v' : Int32) (M' : Mem) (h : f_X2_search N K1 K2 m = some (v', M')) : fl_M l L1 D ca ad yX2_search cX2_search 5 none 17 [.ref (ad 32), .ref (ad K1), .ref (ad K2)] m none M' := by
  unfold f_X2_search at h
  refine fl_ofW (by decide) hi (Nat.le_of_ble_eq_true rfl) ?_
  intro p e s mm args below meth c ls X hr hlk hP hl
  have hl : lv_has ls 5 [(0, .ref (ad 32)), (1, .ref (ad K1)), (2, .ref (ad K2))] := hl
  have X : fl_X p s mm args c cX2_search 5 RX2 L1 D ca ad := X
  obtain ⟨hx, hb, hml, hown, hts, hE, -⟩ := id X
  have hS : va_S (fl_A L1 ad) s.heap s.heap [] := va_S.rf
  have js : ∀ n : Nat, ((∀ (x3 : Int32) (x4 : Int32) (m : Mem) (H : Heap) (locs : List Loc) (ls : Array Slot), l_X2_search N K1 K2 n x3 x4 m = some (v', M') → va_P D vwCl (fl_w L1 ca ad m) H → va_S (fl_A L1 ad) s.heap H locs → lv_has ls 5 [(0, .ref (ad 32)), (1, .ref (ad K1)), (2, .ref (ad K2)), (3, .int x3), (4, .int x4)] → W p l e (fl_rm 17) s mm args below meth c H locs 0 0 (MQ below (fl_Q L1 D ca ad none M') args s 0 0 (fl_A L1 ad)) (F0 mm 34 ls []))) → (∀ (x4 : Int32) (t0 : Int32) (m : Mem) (H : Heap) (locs : List Loc) (ls : Array Slot), J_X2_search_68 N K1 K2 (l_X2_search N K1 K2 n) x4 t0 m = some (v', M') → va_P D vwCl (fl_w L1 ca ad m) H → va_S (fl_A L1 ad) s.heap H locs → lv_has ls 5 [(0, .ref (ad 32)), (1, .ref (ad K1)), (2, .ref (ad K2)), (4, .int x4)] → W p l e (fl_rm 17) s mm args below meth c H locs 0 0 (MQ below (fl_Q L1 D ca ad none M') args s 0 0 (fl_A L1 ad)) (F0 mm 68 ls [.int t0])) := by
    intro n ih
    have ih_34 := ih
    have j_68 : ∀ (x4 : Int32) (t0 : Int32) (m : Mem) (H : Heap) (locs : List Loc) (ls : Array Slot), J_X2_search_68 N K1 K2 (l_X2_search N K1 K2 n) x4 t0 m = some (v', M') → va_P D vwCl (fl_w L1 ca ad m) H → va_S (fl_A L1 ad) s.heap H locs → lv_has ls 5 [(0, .ref (ad 32)), (1, .ref (ad K1)), (2, .ref (ad K2)), (4, .int x4)] → W p l e (fl_rm 17) s mm args below meth c H locs 0 0 (MQ below (fl_Q L1 D ca ad none M') args s 0 0 (fl_A L1 ad)) (F0 mm 68 ls [.int t0]) := by
      intro x4 t0 m H locs ls h hP hS hl
      unfold J_X2_search_68 at h
      refine lv_iconst (v := (0 : Int32)) hx hb dX2_search_68 (by decide) ?_
      refine lv_iadd hx hb dX2_search_69 ?_
      obtain ⟨z23, ez24, h⟩ := fl_li_e h
      refine fl_topi ez24 ?_
      refine lv_istore_n (lv' := [(3, .int z23), (0, .ref (ad 32)), (1, .ref (ad K1)), (2, .ref (ad K2)), (4, .int x4)]) hx hb dX2_search_70 rfl hl (by decide) rfl (fun ls hl => ?_)
      refine lv_iinc (v := x4 + 1) (lv' := [(4, .int (x4 + 1)), (3, .int z23), (0, .ref (ad 32)), (1, .ref (ad K1)), (2, .ref (ad K2))]) hx hb dX2_search_71 hl (k := 4) rfl rfl (by decide) rfl (fun ls hl => ?_)
      refine lv_goto (tgt := 34) hx hb dX2_search_74 (by decide) ?_
      exact ih_34 _ _ _ _ _ _ h hP hS (lv_sub hl [2, 3, 4, 1, 0] rfl)
    exact j_68
  have key : ∀ n : Nat, (∀ (x3 : Int32) (x4 : Int32) (m : Mem) (H : Heap) (locs : List Loc) (ls : Array Slot), l_X2_search N K1 K2 n x3 x4 m = some (v', M') → va_P D vwCl (fl_w L1 ca ad m) H → va_S (fl_A L1 ad) s.heap H locs → lv_has ls 5 [(0, .ref (ad 32)), (1, .ref (ad K1)), (2, .ref (ad K2)), (3, .int x3), (4, .int x4)] → W p l e (fl_rm 17) s mm args below meth c H locs 0 0 (MQ below (fl_Q L1 D ca ad none M') args s 0 0 (fl_A L1 ad)) (F0 mm 34 ls [])) := by
    intro n
    induction n with
    | zero =>
      skip
      · intro x3 x4 m H locs ls h hP hS hl
        have h : (none : Option (Int32 × Mem)) = some (v', M') := h
        cases h
    | succ n ih =>
      have ih_34 := ih
      have j_68 := js n ih_34
      skip
      · intro x3 x4 m H locs ls h hP hS hl
        have h : B_X2_search_34 N K1 K2 (l_X2_search N K1 K2 n) x3 x4 m = some (v', M') := h
        unfold B_X2_search_34 at h
        refine lv_iload hx hb dX2_search_34 (lv_at hl 4 rfl) ?_
        refine lv_aload_n hx hb dX2_search_36 rfl (lv_at hl 1 rfl) ?_
        refine fl_geti X hP fk_X2_40 hK1.1 rfl dX2_search_37 ?_
        refine lv_icmp_ge (tgt := 77) hx hb dX2_search_40 (by decide) (fun c11 => ?_) (fun c11 => ?_)
        · replace h := fl_if_t h c11
          refine lv_aload_n hx hb dX2_search_77 rfl (lv_at hl 0 rfl) ?_
          refine lv_aload_n hx hb dX2_search_78 rfl (lv_at hl 1 rfl) ?_
          refine lv_iconst (v := (0 : Int32)) hx hb dX2_search_79 (by decide) ?_
          refine lv_iload_n hx hb dX2_search_80 rfl (lv_at hl 3 rfl) ?_
          obtain ⟨r12, m13, hz14, h⟩ := fl_bd_e h
          refine fl_callS (av := [.ref (ad 32), .ref (ad K1), .int (0 : Int32), .int x3]) X hP hS hl.1 ms_X2_52 (c_X2_extend l D ca ad hi N 10 K1 hK1 (0 : Int32) x3 m _ _ hz14) (fl_fit_rm (by omega) (by decide)) rfl (Nat.le_of_ble_eq_true rfl) dX2_search_81 rfl (fun H locs hP hS => ?_)
          refine W.eq (g2 := F0 mm 84 ls []) rfl ?_
          exact fl_vret X hr hlk hP hS dX2_search_84 h
        · replace h := fl_if_f h c11
          refine lv_iload_n hx hb dX2_search_43 rfl (lv_at hl 3 rfl) ?_
          refine lv_aload_n hx hb dX2_search_44 rfl (lv_at hl 1 rfl) ?_
          refine fl_getr X hP fk_X2_45 hK1.1 rfl dX2_search_45 ?_
          refine lv_iload hx hb dX2_search_48 (lv_at hl 4 rfl) ?_
          obtain ⟨hk15, h⟩ := fl_ck_e h
          refine fl_iald X hP hK1.2.2.2.2.1 hk15 dX2_search_50 ?_
          refine lv_iconst (v := (1 : Int32)) hx hb dX2_search_51 (by decide) ?_
          refine lv_icmp_ne (tgt := 68) hx hb dX2_search_52 (by decide) (fun c16 => ?_) (fun c16 => ?_)
          · replace h := fl_if_f h c16
            exact j_68 _ _ _ _ _ _ h hP hS (lv_sub hl [0, 1, 2, 4] rfl)
          · replace h := fl_if_t h c16
            refine lv_aload_n hx hb dX2_search_55 rfl (lv_at hl 2 rfl) ?_
            refine lv_iload hx hb dX2_search_56 (lv_at hl 4 rfl) ?_
            obtain ⟨r17, m18, hz19, h⟩ := fl_bd_e h
            refine fl_callV (av := [.int x4]) X hP hS hl.1 mv_X2_48 (c_X5_isTaken l D ca ad hi K2 hK2 x4 m _ _ hz19) hK2.1 (fl_fit_rm (by omega) (by decide)) rfl (Nat.le_of_ble_eq_true rfl) dX2_search_58 rfl (fun H locs hP hS => ?_)
            refine W.eq (g2 := F0 mm 61 ls [.int r17, .int x3]) rfl ?_
            refine lv_if_ne (tgt := 68) hx hb dX2_search_61 (by decide) (fun c20 => ?_) (fun c20 => ?_)
            · replace h := fl_if_f h c20
              exact j_68 _ _ _ _ _ _ h hP hS (lv_sub hl [0, 1, 2, 4] rfl)
            · replace h := fl_if_t h c20
              refine lv_iconst (v := (1 : Int32)) hx hb dX2_search_64 (by decide) ?_
              refine lv_goto (tgt := 69) hx hb dX2_search_65 (by decide) ?_
              refine lv_iadd hx hb dX2_search_69 ?_
              obtain ⟨z21, ez22, h⟩ := fl_li_e h
              refine fl_topi ez22 ?_
              refine lv_istore_n (lv' := [(3, .int z21), (0, .ref (ad 32)), (1, .ref (ad K1)), (2, .ref (ad K2)), (4, .int x4)]) hx hb dX2_search_70 rfl hl (by decide) rfl (fun ls hl => ?_)
              refine lv_iinc (v := x4 + 1) (lv' := [(4, .int (x4 + 1)), (3, .int z21), (0, .ref (ad 32)), (1, .ref (ad K1)), (2, .ref (ad K2))]) hx hb dX2_search_71 hl (k := 4) rfl rfl (by decide) rfl (fun ls hl => ?_)
              refine lv_goto (tgt := 34) hx hb dX2_search_74 (by decide) ?_
              exact ih_34 _ _ _ _ _ _ h hP hS (lv_sub hl [2, 3, 4, 1, 0] rfl)
  have ih_34 := key N
  have j_68 := js N ih_34
  refine lv_aload_n hx hb dX2_search_0 rfl (lv_at hl 0 rfl) ?_
  refine fl_getr X hP fk_X2_11 k1_32 rfl dX2_search_1 ?_
  refine lv_iconst (v := (0 : Int32)) hx hb dX2_search_4 (by decide) ?_
  refine fl_aald X hP k1_33 (by decide) dX2_search_5 ?_
  refine W.eq (g2 := F0 mm 6 ls [.ref (ad 111)]) rfl ?_
  refine lv_aload_n hx hb dX2_search_6 rfl (lv_at hl 2 rfl) ?_
  obtain ⟨r1, m2, hz3, h⟩ := fl_bd_e h
  refine fl_callV (av := [.ref (ad K2)]) X hP hS hl.1 mv_X2_25 (c_X5_copy l D ca ad hi 111 st_111 K2 hK2 m _ _ hz3) k1_111 (fl_fit_rm (by omega) (by decide)) rfl (Nat.le_of_ble_eq_true rfl) dX2_search_7 rfl (fun H locs hP hS => ?_)
  refine W.eq (g2 := F0 mm 10 ls []) rfl ?_
  refine lv_aload_n hx hb dX2_search_10 rfl (lv_at hl 0 rfl) ?_
  refine lv_aload_n hx hb dX2_search_11 rfl (lv_at hl 1 rfl) ?_
  refine lv_aload_n hx hb dX2_search_12 rfl (lv_at hl 2 rfl) ?_
  obtain ⟨r4, m5, hz6, h⟩ := fl_bd_e h
  refine fl_callN (av := [.ref (ad K1), .ref (ad K2)]) X hP hS hl.1 mn_X2_29 (c_X8_restOf l D ca ad hi N K1 hK1 K2 hK2 m2 _ _ hz6) (fl_fit_rm (by omega) (by decide)) rfl (Nat.le_of_ble_eq_true rfl) dX2_search_13 rfl (fun H locs hP hS => ?_)
  refine W.eq (g2 := F0 mm 16 ls [.int r4, .ref (ad 32)]) rfl ?_
  obtain ⟨m7, em8, h⟩ := fl_lm_e h
  refine fl_puti X hP hS pk_X2_33 k1_32 rfl rfl rfl dX2_search_16 (fun H locs hP hS => ?_)
  have hP : va_P D vwCl (fl_w L1 ca ad m7) H := by rw [em8]; exact hP
  refine lv_aload_n hx hb dX2_search_19 rfl (lv_at hl 0 rfl) ?_
  refine lv_aload_n hx hb dX2_search_20 rfl (lv_at hl 0 rfl) ?_
  refine fl_geti X hP fk_X2_33 k1_32 rfl dX2_search_21 ?_
  refine lv_iconst (v := (1 : Int32)) hx hb dX2_search_24 (by decide) ?_
  refine lv_iadd hx hb dX2_search_25 ?_
  obtain ⟨m9, em10, h⟩ := fl_lm_e h
  refine fl_puti X hP hS pk_X2_37 k1_32 rfl rfl rfl dX2_search_26 (fun H locs hP hS => ?_)
  have hP : va_P D vwCl (fl_w L1 ca ad m9) H := by rw [em10]; exact hP
  refine lv_iconst (v := (0 : Int32)) hx hb dX2_search_29 (by decide) ?_
  refine lv_istore_n (lv' := [(3, .int (0 : Int32)), (0, .ref (ad 32)), (1, .ref (ad K1)), (2, .ref (ad K2))]) hx hb dX2_search_30 rfl hl (by decide) rfl (fun ls hl => ?_)
  refine lv_iconst (v := (0 : Int32)) hx hb dX2_search_31 (by decide) ?_
  refine lv_istore (lv' := [(4, .int (0 : Int32)), (3, .int (0 : Int32)), (0, .ref (ad 32)), (1, .ref (ad K1)), (2, .ref (ad K2))]) hx hb dX2_search_32 hl (by decide) rfl (fun ls hl => ?_)
  exact ih_34 _ _ _ _ _ _ h hP hS (lv_sub hl [2, 3, 4, 1, 0] rfl)

def J_X1_play_161 (N : Nat) (G : Nat → Int32 → Mem → Option (Int32 × Mem)) (K1 : Nat) (F : Int32 → Int32 → Int32 → Int32 → Int32 → Int32 → Mem → Option (Int32 × Mem)) (x2 : Int32) (x3 : Int32) (x4 : Int32) (x7 : Int32) (x9 : Int32) (m : Mem) : Option (Int32 × Mem) :=
  F x2 x3 x4 x7 x9 (x7 + 1) m
def J_X1_play_138 (N : Nat) (G : Nat → Int32 → Mem → Option (Int32 × Mem)) (K1 : Nat) (F : Int32 → Int32 → Int32 → Int32 → Int32 → Int32 → Mem → Option (Int32 × Mem)) (x2 : Int32) (x3 : Int32) (x4 : Int32) (x5 : Int32) (x6 : Int32) (x7 : Int32) (t0 : Int32) (t1 : Int32) (m : Mem) : Option (Int32 × Mem) :=
  fl_li (t0 + t1) (fun z30 =>
    if x5 = (-4 : Int32) then (
      J_X1_play_161 N G K1 F x2 x3 x4 x7 z30 m)
    else (
      if (x6 * x4) ≤ (z30 * x4) then (
        F x2 x3 x4 x5 x6 (x7 + 1) m)
      else (
        J_X1_play_161 N G K1 F x2 x3 x4 x7 z30 m)))
def J_X1_play_112 (N : Nat) (G : Nat → Int32 → Mem → Option (Int32 × Mem)) (K1 : Nat) (F : Int32 → Int32 → Int32 → Int32 → Int32 → Int32 → Mem → Option (Int32 × Mem)) (x2 : Int32) (x3 : Int32) (x4 : Int32) (x5 : Int32) (x6 : Int32) (x7 : Int32) (qs1 : Nat) (t2 : Int32) (m : Mem) : Option (Int32 × Mem) :=
  fl_bd (f_X0_drive K1 qs1 t2 x7 m) (fun r23 m24 =>
    fl_bd (G K1 (x2 + (1 : Int32)) m24) (fun r26 m27 =>
      if r23 = 0 then (
        J_X1_play_138 N G K1 F x2 x3 x4 x5 x6 x7 r26 (0 : Int32) m27)
      else (
        J_X1_play_138 N G K1 F x2 x3 x4 x5 x6 x7 r26 x4 m27)))
def B_X1_play_48 (N : Nat) (G : Nat → Int32 → Mem → Option (Int32 × Mem)) (K1 : Nat) (F : Int32 → Int32 → Int32 → Int32 → Int32 → Int32 → Mem → Option (Int32 × Mem)) (x2 : Int32) (x3 : Int32) (x4 : Int32) (x5 : Int32) (x6 : Int32) (x7 : Int32) (m : Mem) : Option (Int32 × Mem) :=
  if (m.1 K1 3) ≤ x7 then (
    if x2 = 0 then (
      fl_lm (mI m 36 5 x5) (fun m9 =>
        some (x6, m9)))
    else (
      fl_lm (mI m 36 5 (m.1 36 5)) (fun m7 =>
        some (x6, m7))))
  else (
    fl_ck (0 ≤ x2.toInt ∧ x2.toInt < 5) (
      fl_bd (f_X5_isTaken (159 + 6 * x2.toNatClampNeg) x7 m) (fun r12 m13 =>
        if r12 = 0 then (
          fl_ck (0 ≤ (x2 + (1 : Int32)).toInt ∧ (x2 + (1 : Int32)).toInt < 5) (
            fl_ck (0 ≤ x2.toInt ∧ x2.toInt < 5) (
              fl_bd (f_X5_copy (159 + 6 * (x2 + (1 : Int32)).toNatClampNeg) (159 + 6 * x2.toNatClampNeg) m13) (fun r18 m19 =>
                fl_ck (0 ≤ (x2 + (1 : Int32)).toInt ∧ (x2 + (1 : Int32)).toInt < 5) (
                  if x3 = 0 then (
                    J_X1_play_112 N G K1 F x2 x3 x4 x5 x6 x7 (159 + 6 * (x2 + (1 : Int32)).toNatClampNeg) (m19.1 36 2) m19)
                  else (
                    J_X1_play_112 N G K1 F x2 x3 x4 x5 x6 x7 (159 + 6 * (x2 + (1 : Int32)).toNatClampNeg) (m19.1 36 1) m19))))))
        else (
          F x2 x3 x4 x5 x6 (x7 + 1) m13))))
def J_X1_play_36 (N : Nat) (G : Nat → Int32 → Mem → Option (Int32 × Mem)) (K1 : Nat) (F : Int32 → Int32 → Int32 → Int32 → Int32 → Int32 → Mem → Option (Int32 × Mem)) (x2 : Int32) (x3 : Int32) (t0 : Int32) (m : Mem) : Option (Int32 × Mem) :=
  F x2 x3 t0 (-4 : Int32) (0 : Int32) (0 : Int32) m
def J_X1_play_26 (N : Nat) (G : Nat → Int32 → Mem → Option (Int32 × Mem)) (K1 : Nat) (F : Int32 → Int32 → Int32 → Int32 → Int32 → Int32 → Mem → Option (Int32 × Mem)) (x2 : Int32) (t0 : Int32) (m : Mem) : Option (Int32 × Mem) :=
  if t0 = 0 then (
    J_X1_play_36 N G K1 F x2 t0 (-1 : Int32) m)
  else (
    J_X1_play_36 N G K1 F x2 t0 (1 : Int32) m)
def l_X1_play (N : Nat) (G : Nat → Int32 → Mem → Option (Int32 × Mem)) (K1 : Nat) : Nat → Int32 → Int32 → Int32 → Int32 → Int32 → Int32 → Mem → Option (Int32 × Mem)
  | 0 => fun _ _ _ _ _ _ _ => none
  | n + 1 => fun x2 x3 x4 x5 x6 x7 m => B_X1_play_48 N G K1 (l_X1_play N G K1 n) x2 x3 x4 x5 x6 x7 m
def E_X1_play (N : Nat) (G : Nat → Int32 → Mem → Option (Int32 × Mem)) (K1 : Nat) (x2 : Int32) (m : Mem) : Option (Int32 × Mem) :=
  if (m.1 36 3) ≤ x2 then (
    some ((0 : Int32), m))
  else (
    if x2 < (4 : Int32) then (
      if (fl_rem x2 (2 : Int32)) = 0 then (
        J_X1_play_26 N G K1 (l_X1_play N G K1 N) x2 (1 : Int32) m)
      else (
        J_X1_play_26 N G K1 (l_X1_play N G K1 N) x2 (0 : Int32) m))
    else (
      some ((0 : Int32), m)))
def f_X1_play (N : Nat) : Nat → Nat → Int32 → Mem → Option (Int32 × Mem)
  | 0 => fun _ _ _ => none
  | d + 1 => fun K1 x2 m => E_X1_play N (f_X1_play N d) K1 x2 m
set_option maxHeartbeats 4000000 in
set_option maxRecDepth 100000 in
theorem c_X1_play (l : Launch) (D : va_G) (ca : Nat → ClassId) (ad : Nat → Nat) (hi : fl_inj L1 ad) (N : Nat) : ∀ (dd : Nat) (K1 : Nat) (hK1 : isCity K1) (x2 : Int32) (m : Mem) (v' : Int32) (M' : Mem), f_X1_play N dd K1 x2 m = some (v', M') → fl_M l L1 D ca ad yX1_play cX1_play 10 (some .int) (5 + dd) [.ref (ad 36), .ref (ad K1), .int x2] m (some (.int v')) M' := by
  intro dd
  induction dd with
  | zero =>
    intro K1 hK1 x2 m v' M' h
    have h : (none : Option (Int32 × Mem)) = some (v', M') := h
    cases h
  | succ dd rih =>
    intro K1 hK1 x2 m v' M' h
    have h : E_X1_play N (f_X1_play N dd) K1 x2 m = some (v', M') := h
    unfold E_X1_play at h
    refine fl_ofW (by decide) hi (Nat.le_of_ble_eq_true rfl) ?_
    intro p e s mm args below meth c ls X hr hlk hP hl
    have hl : lv_has ls 10 [(0, .ref (ad 36)), (1, .ref (ad K1)), (2, .int x2)] := hl
    have X : fl_X p s mm args c cX1_play 10 RX1 L1 D ca ad := X
    obtain ⟨hx, hb, hml, hown, hts, hE, -⟩ := id X
    have hS : va_S (fl_A L1 ad) s.heap s.heap [] := va_S.rf
    have js : ∀ n : Nat, ((∀ (x2 : Int32) (x3 : Int32) (x4 : Int32) (x5 : Int32) (x6 : Int32) (x7 : Int32) (m : Mem) (H : Heap) (locs : List Loc) (ls : Array Slot), l_X1_play N (f_X1_play N dd) K1 n x2 x3 x4 x5 x6 x7 m = some (v', M') → va_P D vwCl (fl_w L1 ca ad m) H → va_S (fl_A L1 ad) s.heap H locs → lv_has ls 10 [(0, .ref (ad 36)), (1, .ref (ad K1)), (2, .int x2), (3, .int x3), (4, .int x4), (5, .int x5), (6, .int x6), (7, .int x7)] → W p l e (fl_rm (5 + (dd + 1))) s mm args below meth c H locs 0 0 (MQ below (fl_Q L1 D ca ad (some (.int v')) M') args s 0 0 (fl_A L1 ad)) (F0 mm 48 ls []))) → (∀ (x2 : Int32) (x3 : Int32) (x4 : Int32) (x7 : Int32) (x9 : Int32) (m : Mem) (H : Heap) (locs : List Loc) (ls : Array Slot), J_X1_play_161 N (f_X1_play N dd) K1 (l_X1_play N (f_X1_play N dd) K1 n) x2 x3 x4 x7 x9 m = some (v', M') → va_P D vwCl (fl_w L1 ca ad m) H → va_S (fl_A L1 ad) s.heap H locs → lv_has ls 10 [(0, .ref (ad 36)), (1, .ref (ad K1)), (2, .int x2), (3, .int x3), (4, .int x4), (7, .int x7), (9, .int x9)] → W p l e (fl_rm (5 + (dd + 1))) s mm args below meth c H locs 0 0 (MQ below (fl_Q L1 D ca ad (some (.int v')) M') args s 0 0 (fl_A L1 ad)) (F0 mm 161 ls [])) ∧ (∀ (x2 : Int32) (x3 : Int32) (x4 : Int32) (x5 : Int32) (x6 : Int32) (x7 : Int32) (t0 : Int32) (t1 : Int32) (m : Mem) (H : Heap) (locs : List Loc) (ls : Array Slot), J_X1_play_138 N (f_X1_play N dd) K1 (l_X1_play N (f_X1_play N dd) K1 n) x2 x3 x4 x5 x6 x7 t0 t1 m = some (v', M') → va_P D vwCl (fl_w L1 ca ad m) H → va_S (fl_A L1 ad) s.heap H locs → lv_has ls 10 [(0, .ref (ad 36)), (1, .ref (ad K1)), (2, .int x2), (3, .int x3), (4, .int x4), (5, .int x5), (6, .int x6), (7, .int x7)] → W p l e (fl_rm (5 + (dd + 1))) s mm args below meth c H locs 0 0 (MQ below (fl_Q L1 D ca ad (some (.int v')) M') args s 0 0 (fl_A L1 ad)) (F0 mm 138 ls [.int t1, .int t0])) ∧ (∀ (x2 : Int32) (x3 : Int32) (x4 : Int32) (x5 : Int32) (x6 : Int32) (x7 : Int32) (qs1 : Nat) (hqs1 : isStand qs1) (t2 : Int32) (m : Mem) (H : Heap) (locs : List Loc) (ls : Array Slot), J_X1_play_112 N (f_X1_play N dd) K1 (l_X1_play N (f_X1_play N dd) K1 n) x2 x3 x4 x5 x6 x7 qs1 t2 m = some (v', M') → va_P D vwCl (fl_w L1 ca ad m) H → va_S (fl_A L1 ad) s.heap H locs → lv_has ls 10 [(0, .ref (ad 36)), (1, .ref (ad K1)), (2, .int x2), (3, .int x3), (4, .int x4), (5, .int x5), (6, .int x6), (7, .int x7)] → W p l e (fl_rm (5 + (dd + 1))) s mm args below meth c H locs 0 0 (MQ below (fl_Q L1 D ca ad (some (.int v')) M') args s 0 0 (fl_A L1 ad)) (F0 mm 112 ls [.int t2, .ref (ad qs1), .ref (ad K1)])) ∧ (∀ (x2 : Int32) (x3 : Int32) (t0 : Int32) (m : Mem) (H : Heap) (locs : List Loc) (ls : Array Slot), J_X1_play_36 N (f_X1_play N dd) K1 (l_X1_play N (f_X1_play N dd) K1 n) x2 x3 t0 m = some (v', M') → va_P D vwCl (fl_w L1 ca ad m) H → va_S (fl_A L1 ad) s.heap H locs → lv_has ls 10 [(0, .ref (ad 36)), (1, .ref (ad K1)), (2, .int x2), (3, .int x3)] → W p l e (fl_rm (5 + (dd + 1))) s mm args below meth c H locs 0 0 (MQ below (fl_Q L1 D ca ad (some (.int v')) M') args s 0 0 (fl_A L1 ad)) (F0 mm 36 ls [.int t0])) ∧ (∀ (x2 : Int32) (t0 : Int32) (m : Mem) (H : Heap) (locs : List Loc) (ls : Array Slot), J_X1_play_26 N (f_X1_play N dd) K1 (l_X1_play N (f_X1_play N dd) K1 n) x2 t0 m = some (v', M') → va_P D vwCl (fl_w L1 ca ad m) H → va_S (fl_A L1 ad) s.heap H locs → lv_has ls 10 [(0, .ref (ad 36)), (1, .ref (ad K1)), (2, .int x2)] → W p l e (fl_rm (5 + (dd + 1))) s mm args below meth c H locs 0 0 (MQ below (fl_Q L1 D ca ad (some (.int v')) M') args s 0 0 (fl_A L1 ad)) (F0 mm 26 ls [.int t0])) := by
      intro n ih
      have ih_48 := ih
      have j_161 : ∀ (x2 : Int32) (x3 : Int32) (x4 : Int32) (x7 : Int32) (x9 : Int32) (m : Mem) (H : Heap) (locs : List Loc) (ls : Array Slot), J_X1_play_161 N (f_X1_play N dd) K1 (l_X1_play N (f_X1_play N dd) K1 n) x2 x3 x4 x7 x9 m = some (v', M') → va_P D vwCl (fl_w L1 ca ad m) H → va_S (fl_A L1 ad) s.heap H locs → lv_has ls 10 [(0, .ref (ad 36)), (1, .ref (ad K1)), (2, .int x2), (3, .int x3), (4, .int x4), (7, .int x7), (9, .int x9)] → W p l e (fl_rm (5 + (dd + 1))) s mm args below meth c H locs 0 0 (MQ below (fl_Q L1 D ca ad (some (.int v')) M') args s 0 0 (fl_A L1 ad)) (F0 mm 161 ls []) := by
        intro x2 x3 x4 x7 x9 m H locs ls h hP hS hl
        unfold J_X1_play_161 at h
        refine lv_iload hx hb dX1_play_161 (lv_at hl 5 rfl) ?_
        refine lv_istore (lv' := [(5, .int x7), (0, .ref (ad 36)), (1, .ref (ad K1)), (2, .int x2), (3, .int x3), (4, .int x4), (7, .int x7), (9, .int x9)]) hx hb dX1_play_163 hl (by decide) rfl (fun ls hl => ?_)
        refine lv_iload hx hb dX1_play_165 (lv_at hl 7 rfl) ?_
        refine lv_istore (lv' := [(6, .int x9), (5, .int x7), (0, .ref (ad 36)), (1, .ref (ad K1)), (2, .int x2), (3, .int x3), (4, .int x4), (7, .int x7), (9, .int x9)]) hx hb dX1_play_167 hl (by decide) rfl (fun ls hl => ?_)
        refine lv_iinc (v := x7 + 1) (lv' := [(7, .int (x7 + 1)), (6, .int x9), (5, .int x7), (0, .ref (ad 36)), (1, .ref (ad K1)), (2, .int x2), (3, .int x3), (4, .int x4), (9, .int x9)]) hx hb dX1_play_169 hl (k := 7) rfl rfl (by decide) rfl (fun ls hl => ?_)
        refine lv_goto (tgt := 48) hx hb dX1_play_172 (by decide) ?_
        exact ih_48 _ _ _ _ _ _ _ _ _ _ h hP hS (lv_sub hl [3, 4, 5, 6, 7, 2, 1, 0] rfl)
      have j_138 : ∀ (x2 : Int32) (x3 : Int32) (x4 : Int32) (x5 : Int32) (x6 : Int32) (x7 : Int32) (t0 : Int32) (t1 : Int32) (m : Mem) (H : Heap) (locs : List Loc) (ls : Array Slot), J_X1_play_138 N (f_X1_play N dd) K1 (l_X1_play N (f_X1_play N dd) K1 n) x2 x3 x4 x5 x6 x7 t0 t1 m = some (v', M') → va_P D vwCl (fl_w L1 ca ad m) H → va_S (fl_A L1 ad) s.heap H locs → lv_has ls 10 [(0, .ref (ad 36)), (1, .ref (ad K1)), (2, .int x2), (3, .int x3), (4, .int x4), (5, .int x5), (6, .int x6), (7, .int x7)] → W p l e (fl_rm (5 + (dd + 1))) s mm args below meth c H locs 0 0 (MQ below (fl_Q L1 D ca ad (some (.int v')) M') args s 0 0 (fl_A L1 ad)) (F0 mm 138 ls [.int t1, .int t0]) := by
        intro x2 x3 x4 x5 x6 x7 t0 t1 m H locs ls h hP hS hl
        unfold J_X1_play_138 at h
        refine lv_iadd hx hb dX1_play_138 ?_
        obtain ⟨z30, ez31, h⟩ := fl_li_e h
        refine fl_topi ez31 ?_
        refine lv_istore (lv' := [(9, .int z30), (0, .ref (ad 36)), (1, .ref (ad K1)), (2, .int x2), (3, .int x3), (4, .int x4), (5, .int x5), (6, .int x6), (7, .int x7)]) hx hb dX1_play_139 hl (by decide) rfl (fun ls hl => ?_)
        refine lv_iload hx hb dX1_play_141 (lv_at hl 6 rfl) ?_
        refine lv_bipush (v := (-4 : Int32)) hx hb dX1_play_143 (by decide) ?_
        refine lv_icmp_eq (tgt := 161) hx hb dX1_play_145 (by decide) (fun c32 => ?_) (fun c32 => ?_)
        · replace h := fl_if_t h c32
          exact j_161 _ _ _ _ _ _ _ _ _ h hP hS (lv_sub hl [1, 2, 3, 4, 5, 8, 0] rfl)
        · replace h := fl_if_f h c32
          refine lv_iload hx hb dX1_play_148 (lv_at hl 0 rfl) ?_
          refine lv_iload hx hb dX1_play_150 (lv_at hl 5 rfl) ?_
          refine lv_imul hx hb dX1_play_152 ?_
          refine lv_iload hx hb dX1_play_153 (lv_at hl 7 rfl) ?_
          refine lv_iload hx hb dX1_play_155 (lv_at hl 5 rfl) ?_
          refine lv_imul hx hb dX1_play_157 ?_
          refine lv_icmp_ge (tgt := 169) hx hb dX1_play_158 (by decide) (fun c33 => ?_) (fun c33 => ?_)
          · replace h := fl_if_t h c33
            refine lv_iinc (v := x7 + 1) (lv' := [(7, .int (x7 + 1)), (9, .int z30), (0, .ref (ad 36)), (1, .ref (ad K1)), (2, .int x2), (3, .int x3), (4, .int x4), (5, .int x5), (6, .int x6)]) hx hb dX1_play_169 hl (k := 8) rfl rfl (by decide) rfl (fun ls hl => ?_)
            refine lv_goto (tgt := 48) hx hb dX1_play_172 (by decide) ?_
            exact ih_48 _ _ _ _ _ _ _ _ _ _ h hP hS (lv_sub hl [2, 3, 4, 5, 6, 7, 8, 0] rfl)
          · replace h := fl_if_f h c33
            exact j_161 _ _ _ _ _ _ _ _ _ h hP hS (lv_sub hl [1, 2, 3, 4, 5, 8, 0] rfl)
      have j_112 : ∀ (x2 : Int32) (x3 : Int32) (x4 : Int32) (x5 : Int32) (x6 : Int32) (x7 : Int32) (qs1 : Nat) (hqs1 : isStand qs1) (t2 : Int32) (m : Mem) (H : Heap) (locs : List Loc) (ls : Array Slot), J_X1_play_112 N (f_X1_play N dd) K1 (l_X1_play N (f_X1_play N dd) K1 n) x2 x3 x4 x5 x6 x7 qs1 t2 m = some (v', M') → va_P D vwCl (fl_w L1 ca ad m) H → va_S (fl_A L1 ad) s.heap H locs → lv_has ls 10 [(0, .ref (ad 36)), (1, .ref (ad K1)), (2, .int x2), (3, .int x3), (4, .int x4), (5, .int x5), (6, .int x6), (7, .int x7)] → W p l e (fl_rm (5 + (dd + 1))) s mm args below meth c H locs 0 0 (MQ below (fl_Q L1 D ca ad (some (.int v')) M') args s 0 0 (fl_A L1 ad)) (F0 mm 112 ls [.int t2, .ref (ad qs1), .ref (ad K1)]) := by
        intro x2 x3 x4 x5 x6 x7 qs1 hqs1 t2 m H locs ls h hP hS hl
        unfold J_X1_play_112 at h
        refine lv_iload hx hb dX1_play_112 (lv_at hl 7 rfl) ?_
        obtain ⟨r23, m24, hz25, h⟩ := fl_bd_e h
        refine fl_callV (av := [.ref (ad qs1), .int t2, .int x7]) X hP hS hl.1 mv_X1_61 (c_X0_drive l D ca ad hi K1 hK1 qs1 hqs1 t2 x7 m _ _ hz25) hK1.1 (fl_fit_rm (by omega) (by decide)) rfl (Nat.le_of_ble_eq_true rfl) dX1_play_114 rfl (fun H locs hP hS => ?_)
        refine W.eq (g2 := F0 mm 117 ls [.int r23]) rfl ?_
        refine lv_istore (lv' := [(8, .int r23), (0, .ref (ad 36)), (1, .ref (ad K1)), (2, .int x2), (3, .int x3), (4, .int x4), (5, .int x5), (6, .int x6), (7, .int x7)]) hx hb dX1_play_117 hl (by decide) rfl (fun ls hl => ?_)
        refine lv_aload_n hx hb dX1_play_119 rfl (lv_at hl 1 rfl) ?_
        refine lv_aload_n hx hb dX1_play_120 rfl (lv_at hl 2 rfl) ?_
        refine lv_iload_n hx hb dX1_play_121 rfl (lv_at hl 3 rfl) ?_
        refine lv_iconst (v := (1 : Int32)) hx hb dX1_play_122 (by decide) ?_
        refine lv_iadd hx hb dX1_play_123 ?_
        obtain ⟨r26, m27, hz28, h⟩ := fl_bd_e h
        refine fl_callS (av := [.ref (ad 36), .ref (ad K1), .int (x2 + (1 : Int32))]) X hP hS hl.1 ms_X1_45 (rih K1 hK1 (x2 + (1 : Int32)) m24 _ _ hz28) (fl_fit_rm (by omega) (by decide)) rfl (Nat.le_of_ble_eq_true rfl) dX1_play_124 rfl (fun H locs hP hS => ?_)
        refine W.eq (g2 := F0 mm 127 ls [.int r26]) rfl ?_
        refine lv_iload hx hb dX1_play_127 (lv_at hl 0 rfl) ?_
        refine lv_if_eq (tgt := 137) hx hb dX1_play_129 (by decide) (fun c29 => ?_) (fun c29 => ?_)
        · replace h := fl_if_t h c29
          refine lv_iconst (v := (0 : Int32)) hx hb dX1_play_137 (by decide) ?_
          exact j_138 _ _ _ _ _ _ _ _ _ _ _ _ h hP hS (lv_sub hl [1, 2, 3, 4, 5, 6, 7, 8] rfl)
        · replace h := fl_if_f h c29
          refine lv_iload hx hb dX1_play_132 (lv_at hl 5 rfl) ?_
          refine lv_goto (tgt := 138) hx hb dX1_play_134 (by decide) ?_
          exact j_138 _ _ _ _ _ _ _ _ _ _ _ _ h hP hS (lv_sub hl [1, 2, 3, 4, 5, 6, 7, 8] rfl)
      have j_36 : ∀ (x2 : Int32) (x3 : Int32) (t0 : Int32) (m : Mem) (H : Heap) (locs : List Loc) (ls : Array Slot), J_X1_play_36 N (f_X1_play N dd) K1 (l_X1_play N (f_X1_play N dd) K1 n) x2 x3 t0 m = some (v', M') → va_P D vwCl (fl_w L1 ca ad m) H → va_S (fl_A L1 ad) s.heap H locs → lv_has ls 10 [(0, .ref (ad 36)), (1, .ref (ad K1)), (2, .int x2), (3, .int x3)] → W p l e (fl_rm (5 + (dd + 1))) s mm args below meth c H locs 0 0 (MQ below (fl_Q L1 D ca ad (some (.int v')) M') args s 0 0 (fl_A L1 ad)) (F0 mm 36 ls [.int t0]) := by
        intro x2 x3 t0 m H locs ls h hP hS hl
        unfold J_X1_play_36 at h
        refine lv_istore (lv' := [(4, .int t0), (0, .ref (ad 36)), (1, .ref (ad K1)), (2, .int x2), (3, .int x3)]) hx hb dX1_play_36 hl (by decide) rfl (fun ls hl => ?_)
        refine lv_bipush (v := (-4 : Int32)) hx hb dX1_play_38 (by decide) ?_
        refine lv_istore (lv' := [(5, .int (-4 : Int32)), (4, .int t0), (0, .ref (ad 36)), (1, .ref (ad K1)), (2, .int x2), (3, .int x3)]) hx hb dX1_play_40 hl (by decide) rfl (fun ls hl => ?_)
        refine lv_iconst (v := (0 : Int32)) hx hb dX1_play_42 (by decide) ?_
        refine lv_istore (lv' := [(6, .int (0 : Int32)), (5, .int (-4 : Int32)), (4, .int t0), (0, .ref (ad 36)), (1, .ref (ad K1)), (2, .int x2), (3, .int x3)]) hx hb dX1_play_43 hl (by decide) rfl (fun ls hl => ?_)
        refine lv_iconst (v := (0 : Int32)) hx hb dX1_play_45 (by decide) ?_
        refine lv_istore (lv' := [(7, .int (0 : Int32)), (6, .int (0 : Int32)), (5, .int (-4 : Int32)), (4, .int t0), (0, .ref (ad 36)), (1, .ref (ad K1)), (2, .int x2), (3, .int x3)]) hx hb dX1_play_46 hl (by decide) rfl (fun ls hl => ?_)
        exact ih_48 _ _ _ _ _ _ _ _ _ _ h hP hS (lv_sub hl [4, 5, 6, 7, 3, 2, 1, 0] rfl)
      have j_26 : ∀ (x2 : Int32) (t0 : Int32) (m : Mem) (H : Heap) (locs : List Loc) (ls : Array Slot), J_X1_play_26 N (f_X1_play N dd) K1 (l_X1_play N (f_X1_play N dd) K1 n) x2 t0 m = some (v', M') → va_P D vwCl (fl_w L1 ca ad m) H → va_S (fl_A L1 ad) s.heap H locs → lv_has ls 10 [(0, .ref (ad 36)), (1, .ref (ad K1)), (2, .int x2)] → W p l e (fl_rm (5 + (dd + 1))) s mm args below meth c H locs 0 0 (MQ below (fl_Q L1 D ca ad (some (.int v')) M') args s 0 0 (fl_A L1 ad)) (F0 mm 26 ls [.int t0]) := by
        intro x2 t0 m H locs ls h hP hS hl
        unfold J_X1_play_26 at h
        refine lv_istore_n (lv' := [(3, .int t0), (0, .ref (ad 36)), (1, .ref (ad K1)), (2, .int x2)]) hx hb dX1_play_26 rfl hl (by decide) rfl (fun ls hl => ?_)
        refine lv_iload_n hx hb dX1_play_27 rfl (lv_at hl 0 rfl) ?_
        refine lv_if_eq (tgt := 35) hx hb dX1_play_28 (by decide) (fun c4 => ?_) (fun c4 => ?_)
        · replace h := fl_if_t h c4
          refine lv_iconst (v := (-1 : Int32)) hx hb dX1_play_35 (by decide) ?_
          exact j_36 _ _ _ _ _ _ _ h hP hS (lv_sub hl [1, 2, 3, 0] rfl)
        · replace h := fl_if_f h c4
          refine lv_iconst (v := (1 : Int32)) hx hb dX1_play_31 (by decide) ?_
          refine lv_goto (tgt := 36) hx hb dX1_play_32 (by decide) ?_
          exact j_36 _ _ _ _ _ _ _ h hP hS (lv_sub hl [1, 2, 3, 0] rfl)
      exact ⟨j_161, j_138, j_112, j_36, j_26⟩
    have key : ∀ n : Nat, (∀ (x2 : Int32) (x3 : Int32) (x4 : Int32) (x5 : Int32) (x6 : Int32) (x7 : Int32) (m : Mem) (H : Heap) (locs : List Loc) (ls : Array Slot), l_X1_play N (f_X1_play N dd) K1 n x2 x3 x4 x5 x6 x7 m = some (v', M') → va_P D vwCl (fl_w L1 ca ad m) H → va_S (fl_A L1 ad) s.heap H locs → lv_has ls 10 [(0, .ref (ad 36)), (1, .ref (ad K1)), (2, .int x2), (3, .int x3), (4, .int x4), (5, .int x5), (6, .int x6), (7, .int x7)] → W p l e (fl_rm (5 + (dd + 1))) s mm args below meth c H locs 0 0 (MQ below (fl_Q L1 D ca ad (some (.int v')) M') args s 0 0 (fl_A L1 ad)) (F0 mm 48 ls [])) := by
      intro n
      induction n with
      | zero =>
        skip
        · intro x2 x3 x4 x5 x6 x7 m H locs ls h hP hS hl
          have h : (none : Option (Int32 × Mem)) = some (v', M') := h
          cases h
      | succ n ih =>
        have ih_48 := ih
        obtain ⟨j_161, j_138, j_112, j_36, j_26⟩ := js n ih_48
        skip
        · intro x2 x3 x4 x5 x6 x7 m H locs ls h hP hS hl
          have h : B_X1_play_48 N (f_X1_play N dd) K1 (l_X1_play N (f_X1_play N dd) K1 n) x2 x3 x4 x5 x6 x7 m = some (v', M') := h
          unfold B_X1_play_48 at h
          refine lv_iload hx hb dX1_play_48 (lv_at hl 7 rfl) ?_
          refine lv_aload_n hx hb dX1_play_50 rfl (lv_at hl 1 rfl) ?_
          refine fl_geti X hP fk_X1_52 hK1.1 rfl dX1_play_51 ?_
          refine lv_icmp_ge (tgt := 175) hx hb dX1_play_54 (by decide) (fun c5 => ?_) (fun c5 => ?_)
          · replace h := fl_if_t h c5
            refine lv_aload_n hx hb dX1_play_175 rfl (lv_at hl 0 rfl) ?_
            refine lv_iload_n hx hb dX1_play_176 rfl (lv_at hl 2 rfl) ?_
            refine lv_if_ne (tgt := 185) hx hb dX1_play_177 (by decide) (fun c6 => ?_) (fun c6 => ?_)
            · replace h := fl_if_f h c6
              refine lv_aload_n hx hb dX1_play_185 rfl (lv_at hl 0 rfl) ?_
              refine fl_geti X hP fk_X1_42 k1_36 rfl dX1_play_186 ?_
              obtain ⟨m7, em8, h⟩ := fl_lm_e h
              refine fl_puti X hP hS pk_X1_42 k1_36 rfl rfl rfl dX1_play_189 (fun H locs hP hS => ?_)
              have hP : va_P D vwCl (fl_w L1 ca ad m7) H := by rw [em8]; exact hP
              refine lv_iload hx hb dX1_play_192 (lv_at hl 6 rfl) ?_
              exact fl_iret X hr hlk hP hS dX1_play_194 h
            · replace h := fl_if_t h c6
              refine lv_iload hx hb dX1_play_180 (lv_at hl 5 rfl) ?_
              refine lv_goto (tgt := 189) hx hb dX1_play_182 (by decide) ?_
              obtain ⟨m9, em10, h⟩ := fl_lm_e h
              refine fl_puti X hP hS pk_X1_42 k1_36 rfl rfl rfl dX1_play_189 (fun H locs hP hS => ?_)
              have hP : va_P D vwCl (fl_w L1 ca ad m9) H := by rw [em10]; exact hP
              refine lv_iload hx hb dX1_play_192 (lv_at hl 6 rfl) ?_
              exact fl_iret X hr hlk hP hS dX1_play_194 h
          · replace h := fl_if_f h c5
            refine lv_aload_n hx hb dX1_play_57 rfl (lv_at hl 0 rfl) ?_
            refine fl_getr X hP fk_X1_11 k1_36 rfl dX1_play_58 ?_
            refine lv_iload_n hx hb dX1_play_61 rfl (lv_at hl 2 rfl) ?_
            obtain ⟨hk11, h⟩ := fl_ck_e h
            refine fl_aald X hP k1_37 hk11 dX1_play_62 ?_
            refine lv_iload hx hb dX1_play_63 (lv_at hl 7 rfl) ?_
            obtain ⟨r12, m13, hz14, h⟩ := fl_bd_e h
            refine fl_callV (av := [.int x7]) X hP hS hl.1 mv_X1_57 (c_X5_isTaken l D ca ad hi (159 + 6 * x2.toNatClampNeg) (fl_st_159 hk11) x7 m _ _ hz14) ((fl_st_159 hk11).1) (fl_fit_rm (by omega) (by decide)) rfl (Nat.le_of_ble_eq_true rfl) dX1_play_65 rfl (fun H locs hP hS => ?_)
            refine W.eq (g2 := F0 mm 68 ls [.int r12]) rfl ?_
            refine lv_if_ne (tgt := 169) hx hb dX1_play_68 (by decide) (fun c15 => ?_) (fun c15 => ?_)
            · replace h := fl_if_f h c15
              refine lv_iinc (v := x7 + 1) (lv' := [(7, .int (x7 + 1)), (0, .ref (ad 36)), (1, .ref (ad K1)), (2, .int x2), (3, .int x3), (4, .int x4), (5, .int x5), (6, .int x6)]) hx hb dX1_play_169 hl (k := 7) rfl rfl (by decide) rfl (fun ls hl => ?_)
              refine lv_goto (tgt := 48) hx hb dX1_play_172 (by decide) ?_
              exact ih_48 _ _ _ _ _ _ _ _ _ _ h hP hS (lv_sub hl [1, 2, 3, 4, 5, 6, 7, 0] rfl)
            · replace h := fl_if_t h c15
              refine lv_aload_n hx hb dX1_play_71 rfl (lv_at hl 0 rfl) ?_
              refine fl_getr X hP fk_X1_11 k1_36 rfl dX1_play_72 ?_
              refine lv_iload_n hx hb dX1_play_75 rfl (lv_at hl 2 rfl) ?_
              refine lv_iconst (v := (1 : Int32)) hx hb dX1_play_76 (by decide) ?_
              refine lv_iadd hx hb dX1_play_77 ?_
              obtain ⟨hk16, h⟩ := fl_ck_e h
              refine fl_aald X hP k1_37 hk16 dX1_play_78 ?_
              refine lv_aload_n hx hb dX1_play_79 rfl (lv_at hl 0 rfl) ?_
              refine fl_getr X hP fk_X1_11 k1_36 rfl dX1_play_80 ?_
              refine lv_iload_n hx hb dX1_play_83 rfl (lv_at hl 2 rfl) ?_
              obtain ⟨hk17, h⟩ := fl_ck_e h
              refine fl_aald X hP k1_37 hk17 dX1_play_84 ?_
              obtain ⟨r18, m19, hz20, h⟩ := fl_bd_e h
              refine fl_callV (av := [.ref (ad (159 + 6 * x2.toNatClampNeg))]) X hP hS hl.1 mv_X1_18 (c_X5_copy l D ca ad hi (159 + 6 * (x2 + (1 : Int32)).toNatClampNeg) (fl_st_159 hk16) (159 + 6 * x2.toNatClampNeg) (fl_st_159 hk17) m13 _ _ hz20) ((fl_st_159 hk16).1) (fl_fit_rm (by omega) (by decide)) rfl (Nat.le_of_ble_eq_true rfl) dX1_play_85 rfl (fun H locs hP hS => ?_)
              refine W.eq (g2 := F0 mm 88 ls []) rfl ?_
              refine lv_aload_n hx hb dX1_play_88 rfl (lv_at hl 1 rfl) ?_
              refine lv_aload_n hx hb dX1_play_89 rfl (lv_at hl 0 rfl) ?_
              refine fl_getr X hP fk_X1_11 k1_36 rfl dX1_play_90 ?_
              refine lv_iload_n hx hb dX1_play_93 rfl (lv_at hl 2 rfl) ?_
              refine lv_iconst (v := (1 : Int32)) hx hb dX1_play_94 (by decide) ?_
              refine lv_iadd hx hb dX1_play_95 ?_
              obtain ⟨hk21, h⟩ := fl_ck_e h
              refine fl_aald X hP k1_37 hk21 dX1_play_96 ?_
              refine lv_iload_n hx hb dX1_play_97 rfl (lv_at hl 3 rfl) ?_
              refine lv_if_eq (tgt := 108) hx hb dX1_play_98 (by decide) (fun c22 => ?_) (fun c22 => ?_)
              · replace h := fl_if_t h c22
                refine lv_aload_n hx hb dX1_play_108 rfl (lv_at hl 0 rfl) ?_
                refine fl_geti X hP fk_X1_26 k1_36 rfl dX1_play_109 ?_
                exact j_112 _ _ _ _ _ _ _ (fl_st_159 hk21) _ _ _ _ _ h hP hS (lv_sub hl [0, 1, 2, 3, 4, 5, 6, 7] rfl)
              · replace h := fl_if_f h c22
                refine lv_aload_n hx hb dX1_play_101 rfl (lv_at hl 0 rfl) ?_
                refine fl_geti X hP fk_X1_22 k1_36 rfl dX1_play_102 ?_
                refine lv_goto (tgt := 112) hx hb dX1_play_105 (by decide) ?_
                exact j_112 _ _ _ _ _ _ _ (fl_st_159 hk21) _ _ _ _ _ h hP hS (lv_sub hl [0, 1, 2, 3, 4, 5, 6, 7] rfl)
    have ih_48 := key N
    obtain ⟨j_161, j_138, j_112, j_36, j_26⟩ := js N ih_48
    refine lv_iload_n hx hb dX1_play_0 rfl (lv_at hl 2 rfl) ?_
    refine lv_aload_n hx hb dX1_play_1 rfl (lv_at hl 0 rfl) ?_
    refine fl_geti X hP fk_X1_39 k1_36 rfl dX1_play_2 ?_
    refine lv_icmp_ge (tgt := 13) hx hb dX1_play_5 (by decide) (fun c1 => ?_) (fun c1 => ?_)
    · replace h := fl_if_t h c1
      refine lv_iconst (v := (0 : Int32)) hx hb dX1_play_13 (by decide) ?_
      exact fl_iret X hr hlk hP hS dX1_play_14 h
    · replace h := fl_if_f h c1
      refine lv_iload_n hx hb dX1_play_8 rfl (lv_at hl 2 rfl) ?_
      refine lv_iconst (v := (4 : Int32)) hx hb dX1_play_9 (by decide) ?_
      refine lv_icmp_lt (tgt := 15) hx hb dX1_play_10 (by decide) (fun c2 => ?_) (fun c2 => ?_)
      · replace h := fl_if_t h c2
        refine lv_iload_n hx hb dX1_play_15 rfl (lv_at hl 2 rfl) ?_
        refine lv_iconst (v := (2 : Int32)) hx hb dX1_play_16 (by decide) ?_
        refine lv_irem hx hb dX1_play_17 (by decide) ?_
        refine lv_if_ne (tgt := 25) hx hb dX1_play_18 (by decide) (fun c3 => ?_) (fun c3 => ?_)
        · replace h := fl_if_f h c3
          refine lv_iconst (v := (0 : Int32)) hx hb dX1_play_25 (by decide) ?_
          exact j_26 _ _ _ _ _ _ h hP hS (lv_sub hl [0, 1, 2] rfl)
        · replace h := fl_if_t h c3
          refine lv_iconst (v := (1 : Int32)) hx hb dX1_play_21 (by decide) ?_
          refine lv_goto (tgt := 26) hx hb dX1_play_22 (by decide) ?_
          exact j_26 _ _ _ _ _ _ h hP hS (lv_sub hl [0, 1, 2] rfl)
      · replace h := fl_if_f h c2
        refine lv_iconst (v := (0 : Int32)) hx hb dX1_play_13 (by decide) ?_
        exact fl_iret X hr hlk hP hS dX1_play_14 h

def f_X1_fight (N : Nat) (K1 : Nat) (K2 : Nat) (x3 : Int32) (x4 : Int32) (x5 : Int32) (m : Mem) : Option (Int32 × Mem) :=
  fl_bd (f_X5_copy 159 K2 m) (fun r1 m2 =>
    fl_lm (mI m2 36 1 x3) (fun m4 =>
      fl_lm (mI m4 36 2 x4) (fun m6 =>
        fl_bd (f_X8_restOf N K1 K2 m6) (fun r8 m9 =>
          fl_lm (mI m9 36 3 (fl_min (fl_min x5 (4 : Int32)) r8)) (fun m11 =>
            fl_lm (mI m11 36 5 (-4 : Int32)) (fun m13 =>
              fl_bd (f_X1_play N 10 K1 (0 : Int32) m13) (fun r15 m16 =>
                fl_lm (mI m16 36 4 r15) (fun m18 =>
                  some ((0 : Int32), m18)))))))))
set_option maxHeartbeats 4000000 in
set_option maxRecDepth 100000 in
theorem c_X1_fight (l : Launch) (D : va_G) (ca : Nat → ClassId) (ad : Nat → Nat) (hi : fl_inj L1 ad) (N : Nat) (K1 : Nat) (hK1 : isCity K1) (K2 : Nat) (hK2 : isStand K2) (x3 : Int32) (x4 : Int32) (x5 : Int32) (m : Mem) (v' : Int32) (M' : Mem) (h : f_X1_fight N K1 K2 x3 x4 x5 m = some (v', M')) : fl_M l L1 D ca ad yX1_fight cX1_fight 6 none 16 [.ref (ad 36), .ref (ad K1), .ref (ad K2), .int x3, .int x4, .int x5] m none M' := by
  unfold f_X1_fight at h
  refine fl_ofW (by decide) hi (Nat.le_of_ble_eq_true rfl) ?_
  intro p e s mm args below meth c ls X hr hlk hP hl
  have hl : lv_has ls 6 [(0, .ref (ad 36)), (1, .ref (ad K1)), (2, .ref (ad K2)), (3, .int x3), (4, .int x4), (5, .int x5)] := hl
  have X : fl_X p s mm args c cX1_fight 6 RX1 L1 D ca ad := X
  obtain ⟨hx, hb, hml, hown, hts, hE, -⟩ := id X
  have hS : va_S (fl_A L1 ad) s.heap s.heap [] := va_S.rf
  refine lv_aload_n hx hb dX1_fight_0 rfl (lv_at hl 0 rfl) ?_
  refine fl_getr X hP fk_X1_11 k1_36 rfl dX1_fight_1 ?_
  refine lv_iconst (v := (0 : Int32)) hx hb dX1_fight_4 (by decide) ?_
  refine fl_aald X hP k1_37 (by decide) dX1_fight_5 ?_
  refine W.eq (g2 := F0 mm 6 ls [.ref (ad 159)]) rfl ?_
  refine lv_aload_n hx hb dX1_fight_6 rfl (lv_at hl 2 rfl) ?_
  obtain ⟨r1, m2, hz3, h⟩ := fl_bd_e h
  refine fl_callV (av := [.ref (ad K2)]) X hP hS hl.1 mv_X1_18 (c_X5_copy l D ca ad hi 159 st_159 K2 hK2 m _ _ hz3) k1_159 (fl_fit_rm (by omega) (by decide)) rfl (Nat.le_of_ble_eq_true rfl) dX1_fight_7 rfl (fun H locs hP hS => ?_)
  refine W.eq (g2 := F0 mm 10 ls []) rfl ?_
  refine lv_aload_n hx hb dX1_fight_10 rfl (lv_at hl 0 rfl) ?_
  refine lv_iload_n hx hb dX1_fight_11 rfl (lv_at hl 3 rfl) ?_
  obtain ⟨m4, em5, h⟩ := fl_lm_e h
  refine fl_puti X hP hS pk_X1_22 k1_36 rfl rfl rfl dX1_fight_12 (fun H locs hP hS => ?_)
  have hP : va_P D vwCl (fl_w L1 ca ad m4) H := by rw [em5]; exact hP
  refine lv_aload_n hx hb dX1_fight_15 rfl (lv_at hl 0 rfl) ?_
  refine lv_iload hx hb dX1_fight_16 (lv_at hl 4 rfl) ?_
  obtain ⟨m6, em7, h⟩ := fl_lm_e h
  refine fl_puti X hP hS pk_X1_26 k1_36 rfl rfl rfl dX1_fight_18 (fun H locs hP hS => ?_)
  have hP : va_P D vwCl (fl_w L1 ca ad m6) H := by rw [em7]; exact hP
  refine lv_aload_n hx hb dX1_fight_21 rfl (lv_at hl 0 rfl) ?_
  refine lv_iload hx hb dX1_fight_22 (lv_at hl 5 rfl) ?_
  refine lv_iconst (v := (4 : Int32)) hx hb dX1_fight_24 (by decide) ?_
  refine va_mmin hx hb (hml.trans hl.1.symm) hown (hts _ wq_647) (hts _ wq_522) (hts _ wq_51) (hts _ wq_523) (fl_r1 (by omega)) (fl_r2 (by omega) (Nat.le_of_ble_eq_true rfl)) (Nat.le_refl 0) (Nat.le_refl 0) dX1_fight_25 ?_
  refine lv_aload_n hx hb dX1_fight_28 rfl (lv_at hl 1 rfl) ?_
  refine lv_aload_n hx hb dX1_fight_29 rfl (lv_at hl 2 rfl) ?_
  obtain ⟨r8, m9, hz10, h⟩ := fl_bd_e h
  refine fl_callN (av := [.ref (ad K1), .ref (ad K2)]) X hP hS hl.1 mn_X1_35 (c_X8_restOf l D ca ad hi N K1 hK1 K2 hK2 m6 _ _ hz10) (fl_fit_rm (by omega) (by decide)) rfl (Nat.le_of_ble_eq_true rfl) dX1_fight_30 rfl (fun H locs hP hS => ?_)
  refine W.eq (g2 := F0 mm 33 ls [.int r8, .int (fl_min x5 (4 : Int32)), .ref (ad 36)]) rfl ?_
  refine va_mmin hx hb (hml.trans hl.1.symm) hown (hts _ wq_647) (hts _ wq_522) (hts _ wq_51) (hts _ wq_523) (fl_r1 (by omega)) (fl_r2 (by omega) (Nat.le_of_ble_eq_true rfl)) (Nat.le_refl 0) (Nat.le_refl 0) dX1_fight_33 ?_
  obtain ⟨m11, em12, h⟩ := fl_lm_e h
  refine fl_puti X hP hS pk_X1_39 k1_36 rfl rfl rfl dX1_fight_36 (fun H locs hP hS => ?_)
  have hP : va_P D vwCl (fl_w L1 ca ad m11) H := by rw [em12]; exact hP
  refine lv_aload_n hx hb dX1_fight_39 rfl (lv_at hl 0 rfl) ?_
  refine lv_bipush (v := (-4 : Int32)) hx hb dX1_fight_40 (by decide) ?_
  obtain ⟨m13, em14, h⟩ := fl_lm_e h
  refine fl_puti X hP hS pk_X1_42 k1_36 rfl rfl rfl dX1_fight_42 (fun H locs hP hS => ?_)
  have hP : va_P D vwCl (fl_w L1 ca ad m13) H := by rw [em14]; exact hP
  refine lv_aload_n hx hb dX1_fight_45 rfl (lv_at hl 0 rfl) ?_
  refine lv_aload_n hx hb dX1_fight_46 rfl (lv_at hl 0 rfl) ?_
  refine lv_aload_n hx hb dX1_fight_47 rfl (lv_at hl 1 rfl) ?_
  refine lv_iconst (v := (0 : Int32)) hx hb dX1_fight_48 (by decide) ?_
  obtain ⟨r15, m16, hz17, h⟩ := fl_bd_e h
  refine fl_callS (av := [.ref (ad 36), .ref (ad K1), .int (0 : Int32)]) X hP hS hl.1 ms_X1_45 (c_X1_play l D ca ad hi N 10 K1 hK1 (0 : Int32) m13 _ _ hz17) (fl_fit_rm (by omega) (by decide)) rfl (Nat.le_of_ble_eq_true rfl) dX1_fight_49 rfl (fun H locs hP hS => ?_)
  refine W.eq (g2 := F0 mm 52 ls [.int r15, .ref (ad 36)]) rfl ?_
  obtain ⟨m18, em19, h⟩ := fl_lm_e h
  refine fl_puti X hP hS pk_X1_49 k1_36 rfl rfl rfl dX1_fight_52 (fun H locs hP hS => ?_)
  have hP : va_P D vwCl (fl_w L1 ca ad m18) H := by rw [em19]; exact hP
  exact fl_vret X hr hlk hP hS dX1_fight_55 h
