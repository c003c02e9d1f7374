def J_X9_minds_55 (N : Nat) (F : Int32 → Mem → Option (Int32 × Mem))  (m : Mem) : Option (Int32 × Mem) :=
  fl_bd (f_X9_copy N (0 : Int32) ((76 : Int32) + ((19 : Int32) * (m.1 0 1))) m) (fun r2 m3 =>
    fl_lm (mI m3 0 1 ((m3.1 0 1) + (1 : Int32))) (fun m5 =>
      some ((0 : Int32), m5)))
def B_X9_minds_11 (N : Nat) (F : Int32 → Mem → Option (Int32 × Mem)) (x1 : Int32) (m : Mem) : Option (Int32 × Mem) :=
  if (133 : Int32) ≤ x1 then (
    fl_lm (mI m 0 1 ((m.1 0 1) - (1 : Int32))) (fun m8 =>
      J_X9_minds_55 N F  m8))
  else (
    fl_ck (0 ≤ (((76 : Int32) + x1) + (19 : Int32)).toInt ∧ (((76 : Int32) + x1) + (19 : Int32)).toInt < 380) (
      fl_ck (0 ≤ ((76 : Int32) + x1).toInt ∧ ((76 : Int32) + x1).toInt < 380) (
        fl_lm (mI m 1 (((76 : Int32) + x1).toNatClampNeg) (m.1 1 ((((76 : Int32) + x1) + (19 : Int32)).toNatClampNeg))) (fun m12 =>
          F (x1 + 1) m12))))
def l_X9_minds (N : Nat) : Nat → Int32 → Mem → Option (Int32 × Mem)
  | 0 => fun _ _ => none
  | n + 1 => fun x1 m => B_X9_minds_11 N (l_X9_minds N n) x1 m
def f_X9_minds (N : Nat)  (m : Mem) : Option (Int32 × Mem) :=
  if (m.1 0 1) = (8 : Int32) then (
    (l_X9_minds N N) (0 : Int32) m)
  else (
    J_X9_minds_55 N (l_X9_minds N N)  m)
set_option maxHeartbeats 4000000 in
set_option maxRecDepth 100000 in
theorem c_X9_minds (l : Launch) (D : va_G) (ca : Nat → ClassId) (ad : Nat → Nat) (hi : fl_inj L2 ad) (N : Nat)  (m : Mem) (v' : Int32) (M' : Mem) (h : f_X9_minds N  m = some (v', M')) : fl_M l L2 D ca ad yX9_minds cX9_minds 2 none 2 [.ref (ad 0)] m none M' := by
  unfold f_X9_minds at h
  refine fl_ofW (by decide) hi (Nat.le_of_ble_eq_true rfl) ?_
  intro p e s mm args below meth c ls X hr hlk hP hl
  have hl : lv_has ls 2 [(0, .ref (ad 0))] := hl
  have X : fl_X p s mm args c cX9_minds 2 RX9 L2 D ca ad := X
  obtain ⟨hx, hb, hml, hown, hts, hE, -⟩ := id X
  have hS : va_S (fl_A L2 ad) s.heap s.heap [] := va_S.rf
  have js : ∀ n : Nat, ((∀ (x1 : Int32) (m : Mem) (H : Heap) (locs : List Loc) (ls : Array Slot), l_X9_minds N n x1 m = some (v', M') → va_P D vwCl (fl_w L2 ca ad m) H → va_S (fl_A L2 ad) s.heap H locs → lv_has ls 2 [(0, .ref (ad 0)), (1, .int x1)] → W p l e (fl_rm 2) s mm args below meth c H locs 0 0 (MQ below (fl_Q L2 D ca ad none M') args s 0 0 (fl_A L2 ad)) (F0 mm 11 ls []))) → (∀  (m : Mem) (H : Heap) (locs : List Loc) (ls : Array Slot), J_X9_minds_55 N (l_X9_minds N n)  m = some (v', M') → va_P D vwCl (fl_w L2 ca ad m) H → va_S (fl_A L2 ad) s.heap H locs → lv_has ls 2 [(0, .ref (ad 0))] → W p l e (fl_rm 2) s mm args below meth c H locs 0 0 (MQ below (fl_Q L2 D ca ad none M') args s 0 0 (fl_A L2 ad)) (F0 mm 55 ls [])) := by
    intro n ih
    have ih_11 := ih
    have j_55 : ∀  (m : Mem) (H : Heap) (locs : List Loc) (ls : Array Slot), J_X9_minds_55 N (l_X9_minds N n)  m = some (v', M') → va_P D vwCl (fl_w L2 ca ad m) H → va_S (fl_A L2 ad) s.heap H locs → lv_has ls 2 [(0, .ref (ad 0))] → W p l e (fl_rm 2) s mm args below meth c H locs 0 0 (MQ below (fl_Q L2 D ca ad none M') args s 0 0 (fl_A L2 ad)) (F0 mm 55 ls []) := by
      intro  m H locs ls h hP hS hl
      unfold J_X9_minds_55 at h
      refine lv_aload_n hx hb dX9_minds_55 rfl (lv_at hl 0 rfl) ?_
      refine lv_iconst (v := (0 : Int32)) hx hb dX9_minds_56 (by decide) ?_
      refine lv_bipush (v := (76 : Int32)) hx hb dX9_minds_57 (by decide) ?_
      refine lv_bipush (v := (19 : Int32)) hx hb dX9_minds_59 (by decide) ?_
      refine lv_aload_n hx hb dX9_minds_61 rfl (lv_at hl 0 rfl) ?_
      refine fl_geti X hP fk_X9_108 k2_0 rfl dX9_minds_62 ?_
      refine lv_imul hx hb dX9_minds_65 ?_
      refine lv_iadd hx hb dX9_minds_66 ?_
      obtain ⟨r2, m3, hz4, h⟩ := fl_bd_e h
      refine fl_callV (av := [.int (0 : Int32), .int ((76 : Int32) + ((19 : Int32) * (m.1 0 1)))]) X hP hS hl.1 mv_X9_193 (c_X9_copy l D ca ad hi N (0 : Int32) ((76 : Int32) + ((19 : Int32) * (m.1 0 1))) m _ _ hz4) k2_0 (fl_fit_rm (by omega) (by decide)) rfl (Nat.le_of_ble_eq_true rfl) dX9_minds_67 rfl (fun H locs hP hS => ?_)
      refine W.eq (g2 := F0 mm 70 ls []) rfl ?_
      refine lv_aload_n hx hb dX9_minds_70 rfl (lv_at hl 0 rfl) ?_
      refine lv_dup hx hb dX9_minds_71 rfl ?_
      refine fl_geti X hP fk_X9_108 k2_0 rfl dX9_minds_72 ?_
      refine lv_iconst (v := (1 : Int32)) hx hb dX9_minds_75 (by decide) ?_
      refine lv_iadd hx hb dX9_minds_76 ?_
      obtain ⟨m5, em6, h⟩ := fl_lm_e h
      refine fl_puti X hP hS pk_X9_108 k2_0 rfl rfl rfl dX9_minds_77 (fun H locs hP hS => ?_)
      have hP : va_P D vwCl (fl_w L2 ca ad m5) H := by rw [em6]; exact hP
      exact fl_vret X hr hlk hP hS dX9_minds_80 h
    exact j_55
  have key : ∀ n : Nat, (∀ (x1 : Int32) (m : Mem) (H : Heap) (locs : List Loc) (ls : Array Slot), l_X9_minds N n x1 m = some (v', M') → va_P D vwCl (fl_w L2 ca ad m) H → va_S (fl_A L2 ad) s.heap H locs → lv_has ls 2 [(0, .ref (ad 0)), (1, .int x1)] → W p l e (fl_rm 2) s mm args below meth c H locs 0 0 (MQ below (fl_Q L2 D ca ad none M') args s 0 0 (fl_A L2 ad)) (F0 mm 11 ls [])) := by
    intro n
    induction n with
    | zero =>
      skip
      · intro x1 m H locs ls h hP hS hl
        have h : (none : Option (Int32 × Mem)) = some (v', M') := h
        cases h
    | succ n ih =>
      have ih_11 := ih
      have j_55 := js n ih_11
      skip
      · intro x1 m H locs ls h hP hS hl
        have h : B_X9_minds_11 N (l_X9_minds N n) x1 m = some (v', M') := h
        unfold B_X9_minds_11 at h
        refine lv_iload_n hx hb dX9_minds_11 rfl (lv_at hl 1 rfl) ?_
        refine lv_sipush (v := (133 : Int32)) hx hb dX9_minds_12 (by decide) ?_
        refine lv_icmp_ge (tgt := 45) hx hb dX9_minds_15 (by decide) (fun c7 => ?_) (fun c7 => ?_)
        · replace h := fl_if_t h c7
          refine lv_aload_n hx hb dX9_minds_45 rfl (lv_at hl 0 rfl) ?_
          refine lv_dup hx hb dX9_minds_46 rfl ?_
          refine fl_geti X hP fk_X9_108 k2_0 rfl dX9_minds_47 ?_
          refine lv_iconst (v := (1 : Int32)) hx hb dX9_minds_50 (by decide) ?_
          refine lv_isub hx hb dX9_minds_51 ?_
          obtain ⟨m8, em9, h⟩ := fl_lm_e h
          refine fl_puti X hP hS pk_X9_108 k2_0 rfl rfl rfl dX9_minds_52 (fun H locs hP hS => ?_)
          have hP : va_P D vwCl (fl_w L2 ca ad m8) H := by rw [em9]; exact hP
          exact j_55  _ _ _ _ h hP hS (lv_sub hl [0] rfl)
        · replace h := fl_if_f h c7
          refine lv_aload_n hx hb dX9_minds_18 rfl (lv_at hl 0 rfl) ?_
          refine fl_getr X hP fk_X9_7 k2_0 rfl dX9_minds_19 ?_
          refine lv_bipush (v := (76 : Int32)) hx hb dX9_minds_22 (by decide) ?_
          refine lv_iload_n hx hb dX9_minds_24 rfl (lv_at hl 1 rfl) ?_
          refine lv_iadd hx hb dX9_minds_25 ?_
          refine lv_aload_n hx hb dX9_minds_26 rfl (lv_at hl 0 rfl) ?_
          refine fl_getr X hP fk_X9_7 k2_0 rfl dX9_minds_27 ?_
          refine lv_bipush (v := (76 : Int32)) hx hb dX9_minds_30 (by decide) ?_
          refine lv_iload_n hx hb dX9_minds_32 rfl (lv_at hl 1 rfl) ?_
          refine lv_iadd hx hb dX9_minds_33 ?_
          refine lv_bipush (v := (19 : Int32)) hx hb dX9_minds_34 (by decide) ?_
          refine lv_iadd hx hb dX9_minds_36 ?_
          obtain ⟨hk10, h⟩ := fl_ck_e h
          refine fl_iald X hP k2_1 hk10 dX9_minds_37 ?_
          obtain ⟨hk11, h⟩ := fl_ck_e h
          obtain ⟨m12, em13, h⟩ := fl_lm_e h
          refine fl_iast X hP hS k2_1 hk11 dX9_minds_38 (fun H locs hP hS => ?_)
          have hP : va_P D vwCl (fl_w L2 ca ad m12) H := by rw [em13]; exact hP
          refine lv_iinc (v := x1 + 1) (lv' := [(1, .int (x1 + 1)), (0, .ref (ad 0))]) hx hb dX9_minds_39 hl (k := 1) rfl rfl (by decide) rfl (fun ls hl => ?_)
          refine lv_goto (tgt := 11) hx hb dX9_minds_42 (by decide) ?_
          exact ih_11 _ _ _ _ _ h hP hS (lv_sub hl [1, 0] rfl)
  have ih_11 := key N
  have j_55 := js N ih_11
  refine lv_aload_n hx hb dX9_minds_0 rfl (lv_at hl 0 rfl) ?_
  refine fl_geti X hP fk_X9_108 k2_0 rfl dX9_minds_1 ?_
  refine lv_bipush (v := (8 : Int32)) hx hb dX9_minds_4 (by decide) ?_
  refine lv_icmp_ne (tgt := 55) hx hb dX9_minds_6 (by decide) (fun c1 => ?_) (fun c1 => ?_)
  · replace h := fl_if_f h c1
    exact j_55  _ _ _ _ h hP hS (lv_sub hl [0] rfl)
  · replace h := fl_if_t h c1
    refine lv_iconst (v := (0 : Int32)) hx hb dX9_minds_9 (by decide) ?_
    refine lv_istore_n (lv' := [(1, .int (0 : Int32)), (0, .ref (ad 0))]) hx hb dX9_minds_10 rfl hl (by decide) rfl (fun ls hl => ?_)
    exact ih_11 _ _ _ _ _ h hP hS (lv_sub hl [1, 0] rfl)

def f_X9_take (N : Nat) (x1 : Int32) (x2 : Int32) (m : Mem) : Option (Int32 × Mem) :=
  fl_bd (f_X9_isCab x1 m) (fun r1 m2 =>
    if r1 = 0 then (
      some ((-1 : Int32), m2))
    else (
      fl_bd (f_X9_isFare x2 m2) (fun r5 m6 =>
        if r5 = 0 then (
          some ((-1 : Int32), m6))
        else (
          fl_bd (f_X9_has (m6.1 1 10) x2 m6) (fun r9 m10 =>
            if r9 = 0 then (
              fl_bd (f_X9_minds N  m10) (fun r13 m14 =>
                fl_bd (f_X9_ridesAsOneDoes (0 : Int32) x1 x2 m14) (fun r16 m17 =>
                  fl_ck (0 ≤ ((11 : Int32) + x2).toInt ∧ ((11 : Int32) + x2).toInt < 380) (
                    some (m17.1 1 (((11 : Int32) + x2).toNatClampNeg), m17)))))
            else (
              some ((-2 : Int32), m10)))))))
set_option maxHeartbeats 4000000 in
set_option maxRecDepth 100000 in
theorem c_X9_take (l : Launch) (D : va_G) (ca : Nat → ClassId) (ad : Nat → Nat) (hi : fl_inj L2 ad) (N : Nat) (x1 : Int32) (x2 : Int32) (m : Mem) (v' : Int32) (M' : Mem) (h : f_X9_take N x1 x2 m = some (v', M')) : fl_M l L2 D ca ad yX9_take cX9_take 3 (some .int) 6 [.ref (ad 0), .int x1, .int x2] m (some (.int v')) M' := by
  unfold f_X9_take at h
  refine fl_ofW (by decide) hi (Nat.le_of_ble_eq_true rfl) ?_
  intro p e s mm args below meth c ls X hr hlk hP hl
  have hl : lv_has ls 3 [(0, .ref (ad 0)), (1, .int x1), (2, .int x2)] := hl
  have X : fl_X p s mm args c cX9_take 3 RX9 L2 D ca ad := X
  obtain ⟨hx, hb, hml, hown, hts, hE, -⟩ := id X
  have hS : va_S (fl_A L2 ad) s.heap s.heap [] := va_S.rf
  refine lv_aload_n hx hb dX9_take_0 rfl (lv_at hl 0 rfl) ?_
  refine lv_iload_n hx hb dX9_take_1 rfl (lv_at hl 1 rfl) ?_
  obtain ⟨r1, m2, hz3, h⟩ := fl_bd_e h
  refine fl_callV (av := [.int x1]) X hP hS hl.1 mv_X9_166 (c_X9_isCab l D ca ad hi x1 m _ _ hz3) k2_0 (fl_fit_rm (by omega) (by decide)) rfl (Nat.le_of_ble_eq_true rfl) dX9_take_2 rfl (fun H locs hP hS => ?_)
  refine W.eq (g2 := F0 mm 5 ls [.int r1]) rfl ?_
  refine lv_if_eq (tgt := 16) hx hb dX9_take_5 (by decide) (fun c4 => ?_) (fun c4 => ?_)
  · replace h := fl_if_t h c4
    refine lv_iconst (v := (-1 : Int32)) hx hb dX9_take_16 (by decide) ?_
    exact fl_iret X hr hlk hP hS dX9_take_17 h
  · replace h := fl_if_f h c4
    refine lv_aload_n hx hb dX9_take_8 rfl (lv_at hl 0 rfl) ?_
    refine lv_iload_n hx hb dX9_take_9 rfl (lv_at hl 2 rfl) ?_
    obtain ⟨r5, m6, hz7, h⟩ := fl_bd_e h
    refine fl_callV (av := [.int x2]) X hP hS hl.1 mv_X9_169 (c_X9_isFare l D ca ad hi x2 m2 _ _ hz7) k2_0 (fl_fit_rm (by omega) (by decide)) rfl (Nat.le_of_ble_eq_true rfl) dX9_take_10 rfl (fun H locs hP hS => ?_)
    refine W.eq (g2 := F0 mm 13 ls [.int r5]) rfl ?_
    refine lv_if_ne (tgt := 18) hx hb dX9_take_13 (by decide) (fun c8 => ?_) (fun c8 => ?_)
    · replace h := fl_if_f h c8
      refine lv_aload_n hx hb dX9_take_18 rfl (lv_at hl 0 rfl) ?_
      refine fl_getr X hP fk_X9_7 k2_0 rfl dX9_take_19 ?_
      refine lv_bipush (v := (10 : Int32)) hx hb dX9_take_22 (by decide) ?_
      refine fl_iald X hP k2_1 (by decide) dX9_take_24 ?_
      refine lv_iload_n hx hb dX9_take_25 rfl (lv_at hl 2 rfl) ?_
      obtain ⟨r9, m10, hz11, h⟩ := fl_bd_e h
      refine fl_callS (av := [.int (m6.1 1 10), .int x2]) X hP hS hl.1 ms_X9_197 (c_X9_has l D ca ad hi (m6.1 1 10) x2 m6 _ _ hz11) (fl_fit_rm (by omega) (by decide)) rfl (Nat.le_of_ble_eq_true rfl) dX9_take_26 rfl (fun H locs hP hS => ?_)
      refine W.eq (g2 := F0 mm 29 ls [.int r9]) rfl ?_
      refine lv_if_eq (tgt := 35) hx hb dX9_take_29 (by decide) (fun c12 => ?_) (fun c12 => ?_)
      · replace h := fl_if_t h c12
        refine lv_aload_n hx hb dX9_take_35 rfl (lv_at hl 0 rfl) ?_
        obtain ⟨r13, m14, hz15, h⟩ := fl_bd_e h
        refine fl_callV (av := []) X hP hS hl.1 mv_X9_200 (c_X9_minds l D ca ad hi N  m10 _ _ hz15) k2_0 (fl_fit_rm (by omega) (by decide)) rfl (Nat.le_of_ble_eq_true rfl) dX9_take_36 rfl (fun H locs hP hS => ?_)
        refine W.eq (g2 := F0 mm 39 ls []) rfl ?_
        refine lv_aload_n hx hb dX9_take_39 rfl (lv_at hl 0 rfl) ?_
        refine lv_iconst (v := (0 : Int32)) hx hb dX9_take_40 (by decide) ?_
        refine lv_iload_n hx hb dX9_take_41 rfl (lv_at hl 1 rfl) ?_
        refine lv_iload_n hx hb dX9_take_42 rfl (lv_at hl 2 rfl) ?_
        obtain ⟨r16, m17, hz18, h⟩ := fl_bd_e h
        refine fl_callV (av := [.int (0 : Int32), .int x1, .int x2]) X hP hS hl.1 mv_X9_203 (c_X9_ridesAsOneDoes l D ca ad hi (0 : Int32) x1 x2 m14 _ _ hz18) k2_0 (fl_fit_rm (by omega) (by decide)) rfl (Nat.le_of_ble_eq_true rfl) dX9_take_43 rfl (fun H locs hP hS => ?_)
        refine W.eq (g2 := F0 mm 46 ls [.int r16]) rfl ?_
        refine lv_pop hx hb dX9_take_46 rfl ?_
        refine lv_aload_n hx hb dX9_take_47 rfl (lv_at hl 0 rfl) ?_
        refine fl_getr X hP fk_X9_7 k2_0 rfl dX9_take_48 ?_
        refine lv_bipush (v := (11 : Int32)) hx hb dX9_take_51 (by decide) ?_
        refine lv_iload_n hx hb dX9_take_53 rfl (lv_at hl 2 rfl) ?_
        refine lv_iadd hx hb dX9_take_54 ?_
        obtain ⟨hk19, h⟩ := fl_ck_e h
        refine fl_iald X hP k2_1 hk19 dX9_take_55 ?_
        exact fl_iret X hr hlk hP hS dX9_take_56 h
      · replace h := fl_if_f h c12
        refine lv_bipush (v := (-2 : Int32)) hx hb dX9_take_32 (by decide) ?_
        exact fl_iret X hr hlk hP hS dX9_take_34 h
    · replace h := fl_if_t h c8
      refine lv_iconst (v := (-1 : Int32)) hx hb dX9_take_16 (by decide) ?_
      exact fl_iret X hr hlk hP hS dX9_take_17 h

def f_X9_sends (x1 : Int32) (x2 : Int32) (x3 : Int32) (m : Mem) : Option (Int32 × Mem) :=
  fl_bd (f_X9_setsOut x1 x2 m) (fun r1 m2 =>
    fl_ck (0 ≤ ((x1 + (1 : Int32)) + x2).toInt ∧ ((x1 + (1 : Int32)) + x2).toInt < 380) (
      fl_bd (f_X9_farOf (m2.1 1 (((x1 + (1 : Int32)) + x2).toNatClampNeg)) x3 m2) (fun r5 m6 =>
        fl_ck (0 ≤ ((x1 + (4 : Int32)) + x2).toInt ∧ ((x1 + (4 : Int32)) + x2).toInt < 380) (
          fl_lm (mI m6 1 (((x1 + (4 : Int32)) + x2).toNatClampNeg) (r1 + r5)) (fun m9 =>
            fl_ck (0 ≤ ((x1 + (1 : Int32)) + x2).toInt ∧ ((x1 + (1 : Int32)) + x2).toInt < 380) (
              fl_lm (mI m9 1 (((x1 + (1 : Int32)) + x2).toNatClampNeg) x3) (fun m12 =>
                some ((0 : Int32), m12))))))))
set_option maxHeartbeats 4000000 in
set_option maxRecDepth 100000 in
theorem c_X9_sends (l : Launch) (D : va_G) (ca : Nat → ClassId) (ad : Nat → Nat) (hi : fl_inj L2 ad) (x1 : Int32) (x2 : Int32) (x3 : Int32) (m : Mem) (v' : Int32) (M' : Mem) (h : f_X9_sends x1 x2 x3 m = some (v', M')) : fl_M l L2 D ca ad yX9_sends cX9_sends 4 none 2 [.ref (ad 0), .int x1, .int x2, .int x3] m none M' := by
  unfold f_X9_sends at h
  refine fl_ofW (by decide) hi (Nat.le_of_ble_eq_true rfl) ?_
  intro p e s mm args below meth c ls X hr hlk hP hl
  have hl : lv_has ls 4 [(0, .ref (ad 0)), (1, .int x1), (2, .int x2), (3, .int x3)] := hl
  have X : fl_X p s mm args c cX9_sends 4 RX9 L2 D ca ad := X
  obtain ⟨hx, hb, hml, hown, hts, hE, -⟩ := id X
  have hS : va_S (fl_A L2 ad) s.heap s.heap [] := va_S.rf
  refine lv_aload_n hx hb dX9_sends_0 rfl (lv_at hl 0 rfl) ?_
  refine fl_getr X hP fk_X9_7 k2_0 rfl dX9_sends_1 ?_
  refine lv_iload_n hx hb dX9_sends_4 rfl (lv_at hl 1 rfl) ?_
  refine lv_iconst (v := (4 : Int32)) hx hb dX9_sends_5 (by decide) ?_
  refine lv_iadd hx hb dX9_sends_6 ?_
  refine lv_iload_n hx hb dX9_sends_7 rfl (lv_at hl 2 rfl) ?_
  refine lv_iadd hx hb dX9_sends_8 ?_
  refine lv_aload_n hx hb dX9_sends_9 rfl (lv_at hl 0 rfl) ?_
  refine lv_iload_n hx hb dX9_sends_10 rfl (lv_at hl 1 rfl) ?_
  refine lv_iload_n hx hb dX9_sends_11 rfl (lv_at hl 2 rfl) ?_
  obtain ⟨r1, m2, hz3, h⟩ := fl_bd_e h
  refine fl_callV (av := [.int x1, .int x2]) X hP hS hl.1 mv_X9_172 (c_X9_setsOut l D ca ad hi x1 x2 m _ _ hz3) k2_0 (fl_fit_rm (by omega) (by decide)) rfl (Nat.le_of_ble_eq_true rfl) dX9_sends_12 rfl (fun H locs hP hS => ?_)
  refine W.eq (g2 := F0 mm 15 ls [.int r1, .int ((x1 + (4 : Int32)) + x2), .ref (ad 1)]) rfl ?_
  refine lv_aload_n hx hb dX9_sends_15 rfl (lv_at hl 0 rfl) ?_
  refine lv_aload_n hx hb dX9_sends_16 rfl (lv_at hl 0 rfl) ?_
  refine fl_getr X hP fk_X9_7 k2_0 rfl dX9_sends_17 ?_
  refine lv_iload_n hx hb dX9_sends_20 rfl (lv_at hl 1 rfl) ?_
  refine lv_iconst (v := (1 : Int32)) hx hb dX9_sends_21 (by decide) ?_
  refine lv_iadd hx hb dX9_sends_22 ?_
  refine lv_iload_n hx hb dX9_sends_23 rfl (lv_at hl 2 rfl) ?_
  refine lv_iadd hx hb dX9_sends_24 ?_
  obtain ⟨hk4, h⟩ := fl_ck_e h
  refine fl_iald X hP k2_1 hk4 dX9_sends_25 ?_
  refine lv_iload_n hx hb dX9_sends_26 rfl (lv_at hl 3 rfl) ?_
  obtain ⟨r5, m6, hz7, h⟩ := fl_bd_e h
  refine fl_callV (av := [.int (m2.1 1 (((x1 + (1 : Int32)) + x2).toNatClampNeg)), .int x3]) X hP hS hl.1 mv_X9_162 (c_X9_farOf l D ca ad hi (m2.1 1 (((x1 + (1 : Int32)) + x2).toNatClampNeg)) x3 m2 _ _ hz7) k2_0 (fl_fit_rm (by omega) (by decide)) rfl (Nat.le_of_ble_eq_true rfl) dX9_sends_27 rfl (fun H locs hP hS => ?_)
  refine W.eq (g2 := F0 mm 30 ls [.int r5, .int r1, .int ((x1 + (4 : Int32)) + x2), .ref (ad 1)]) rfl ?_
  refine lv_iadd hx hb dX9_sends_30 ?_
  obtain ⟨hk8, h⟩ := fl_ck_e h
  obtain ⟨m9, em10, h⟩ := fl_lm_e h
  refine fl_iast X hP hS k2_1 hk8 dX9_sends_31 (fun H locs hP hS => ?_)
  have hP : va_P D vwCl (fl_w L2 ca ad m9) H := by rw [em10]; exact hP
  refine lv_aload_n hx hb dX9_sends_32 rfl (lv_at hl 0 rfl) ?_
  refine fl_getr X hP fk_X9_7 k2_0 rfl dX9_sends_33 ?_
  refine lv_iload_n hx hb dX9_sends_36 rfl (lv_at hl 1 rfl) ?_
  refine lv_iconst (v := (1 : Int32)) hx hb dX9_sends_37 (by decide) ?_
  refine lv_iadd hx hb dX9_sends_38 ?_
  refine lv_iload_n hx hb dX9_sends_39 rfl (lv_at hl 2 rfl) ?_
  refine lv_iadd hx hb dX9_sends_40 ?_
  refine lv_iload_n hx hb dX9_sends_41 rfl (lv_at hl 3 rfl) ?_
  obtain ⟨hk11, h⟩ := fl_ck_e h
  obtain ⟨m12, em13, h⟩ := fl_lm_e h
  refine fl_iast X hP hS k2_1 hk11 dX9_sends_42 (fun H locs hP hS => ?_)
  have hP : va_P D vwCl (fl_w L2 ca ad m12) H := by rw [em13]; exact hP
  exact fl_vret X hr hlk hP hS dX9_sends_43 h

def f_X9_send (N : Nat) (x1 : Int32) (x2 : Int32) (m : Mem) : Option (Int32 × Mem) :=
  fl_bd (f_X9_isCab x1 m) (fun r1 m2 =>
    if r1 = 0 then (
      some ((-1 : Int32), m2))
    else (
      fl_bd (f_X9_isPlace x2 m2) (fun r5 m6 =>
        if r5 = 0 then (
          some ((-1 : Int32), m6))
        else (
          fl_bd (f_X9_minds N  m6) (fun r9 m10 =>
            fl_bd (f_X9_sends (0 : Int32) x1 x2 m10) (fun r12 m13 =>
              fl_ck (0 ≤ ((4 : Int32) + x1).toInt ∧ ((4 : Int32) + x1).toInt < 380) (
                some (m13.1 1 (((4 : Int32) + x1).toNatClampNeg), m13))))))))
set_option maxHeartbeats 4000000 in
set_option maxRecDepth 100000 in
theorem c_X9_send (l : Launch) (D : va_G) (ca : Nat → ClassId) (ad : Nat → Nat) (hi : fl_inj L2 ad) (N : Nat) (x1 : Int32) (x2 : Int32) (m : Mem) (v' : Int32) (M' : Mem) (h : f_X9_send N x1 x2 m = some (v', M')) : fl_M l L2 D ca ad yX9_send cX9_send 3 (some .int) 3 [.ref (ad 0), .int x1, .int x2] m (some (.int v')) M' := by
  unfold f_X9_send at h
  refine fl_ofW (by decide) hi (Nat.le_of_ble_eq_true rfl) ?_
  intro p e s mm args below meth c ls X hr hlk hP hl
  have hl : lv_has ls 3 [(0, .ref (ad 0)), (1, .int x1), (2, .int x2)] := hl
  have X : fl_X p s mm args c cX9_send 3 RX9 L2 D ca ad := X
  obtain ⟨hx, hb, hml, hown, hts, hE, -⟩ := id X
  have hS : va_S (fl_A L2 ad) s.heap s.heap [] := va_S.rf
  refine lv_aload_n hx hb dX9_send_0 rfl (lv_at hl 0 rfl) ?_
  refine lv_iload_n hx hb dX9_send_1 rfl (lv_at hl 1 rfl) ?_
  obtain ⟨r1, m2, hz3, h⟩ := fl_bd_e h
  refine fl_callV (av := [.int x1]) X hP hS hl.1 mv_X9_166 (c_X9_isCab l D ca ad hi x1 m _ _ hz3) k2_0 (fl_fit_rm (by omega) (by decide)) rfl (Nat.le_of_ble_eq_true rfl) dX9_send_2 rfl (fun H locs hP hS => ?_)
  refine W.eq (g2 := F0 mm 5 ls [.int r1]) rfl ?_
  refine lv_if_eq (tgt := 16) hx hb dX9_send_5 (by decide) (fun c4 => ?_) (fun c4 => ?_)
  · replace h := fl_if_t h c4
    refine lv_iconst (v := (-1 : Int32)) hx hb dX9_send_16 (by decide) ?_
    exact fl_iret X hr hlk hP hS dX9_send_17 h
  · replace h := fl_if_f h c4
    refine lv_aload_n hx hb dX9_send_8 rfl (lv_at hl 0 rfl) ?_
    refine lv_iload_n hx hb dX9_send_9 rfl (lv_at hl 2 rfl) ?_
    obtain ⟨r5, m6, hz7, h⟩ := fl_bd_e h
    refine fl_callV (av := [.int x2]) X hP hS hl.1 mv_X9_158 (c_X9_isPlace l D ca ad hi x2 m2 _ _ hz7) k2_0 (fl_fit_rm (by omega) (by decide)) rfl (Nat.le_of_ble_eq_true rfl) dX9_send_10 rfl (fun H locs hP hS => ?_)
    refine W.eq (g2 := F0 mm 13 ls [.int r5]) rfl ?_
    refine lv_if_ne (tgt := 18) hx hb dX9_send_13 (by decide) (fun c8 => ?_) (fun c8 => ?_)
    · replace h := fl_if_f h c8
      refine lv_aload_n hx hb dX9_send_18 rfl (lv_at hl 0 rfl) ?_
      obtain ⟨r9, m10, hz11, h⟩ := fl_bd_e h
      refine fl_callV (av := []) X hP hS hl.1 mv_X9_200 (c_X9_minds l D ca ad hi N  m6 _ _ hz11) k2_0 (fl_fit_rm (by omega) (by decide)) rfl (Nat.le_of_ble_eq_true rfl) dX9_send_19 rfl (fun H locs hP hS => ?_)
      refine W.eq (g2 := F0 mm 22 ls []) rfl ?_
      refine lv_aload_n hx hb dX9_send_22 rfl (lv_at hl 0 rfl) ?_
      refine lv_iconst (v := (0 : Int32)) hx hb dX9_send_23 (by decide) ?_
      refine lv_iload_n hx hb dX9_send_24 rfl (lv_at hl 1 rfl) ?_
      refine lv_iload_n hx hb dX9_send_25 rfl (lv_at hl 2 rfl) ?_
      obtain ⟨r12, m13, hz14, h⟩ := fl_bd_e h
      refine fl_callV (av := [.int (0 : Int32), .int x1, .int x2]) X hP hS hl.1 mv_X9_206 (c_X9_sends l D ca ad hi (0 : Int32) x1 x2 m10 _ _ hz14) k2_0 (fl_fit_rm (by omega) (by decide)) rfl (Nat.le_of_ble_eq_true rfl) dX9_send_26 rfl (fun H locs hP hS => ?_)
      refine W.eq (g2 := F0 mm 29 ls []) rfl ?_
      refine lv_aload_n hx hb dX9_send_29 rfl (lv_at hl 0 rfl) ?_
      refine fl_getr X hP fk_X9_7 k2_0 rfl dX9_send_30 ?_
      refine lv_iconst (v := (4 : Int32)) hx hb dX9_send_33 (by decide) ?_
      refine lv_iload_n hx hb dX9_send_34 rfl (lv_at hl 1 rfl) ?_
      refine lv_iadd hx hb dX9_send_35 ?_
      obtain ⟨hk15, h⟩ := fl_ck_e h
      refine fl_iald X hP k2_1 hk15 dX9_send_36 ?_
      exact fl_iret X hr hlk hP hS dX9_send_37 h
    · replace h := fl_if_t h c8
      refine lv_iconst (v := (-1 : Int32)) hx hb dX9_send_16 (by decide) ?_
      exact fl_iret X hr hlk hP hS dX9_send_17 h

def f_X9_pass (N : Nat) (x1 : Int32) (m : Mem) : Option (Int32 × Mem) :=
  fl_bd (f_X9_in x1.toInt64 (1 : Int64) (60 : Int64) m) (fun r1 m2 =>
    if r1 = 0 then (
      some ((-1 : Int32), m2))
    else (
      fl_bd (f_X9_minds N  m2) (fun r5 m6 =>
        fl_lm (mI m6 1 0 ((m6.1 1 0) + x1)) (fun m8 =>
          some (m8.1 1 0, m8)))))
set_option maxHeartbeats 4000000 in
set_option maxRecDepth 100000 in
theorem c_X9_pass (l : Launch) (D : va_G) (ca : Nat → ClassId) (ad : Nat → Nat) (hi : fl_inj L2 ad) (N : Nat) (x1 : Int32) (m : Mem) (v' : Int32) (M' : Mem) (h : f_X9_pass N x1 m = some (v', M')) : fl_M l L2 D ca ad yX9_pass cX9_pass 2 (some .int) 3 [.ref (ad 0), .int x1] m (some (.int v')) M' := by
  unfold f_X9_pass at h
  refine fl_ofW (by decide) hi (Nat.le_of_ble_eq_true rfl) ?_
  intro p e s mm args below meth c ls X hr hlk hP hl
  have hl : lv_has ls 2 [(0, .ref (ad 0)), (1, .int x1)] := hl
  have X : fl_X p s mm args c cX9_pass 2 RX9 L2 D ca ad := X
  obtain ⟨hx, hb, hml, hown, hts, hE, -⟩ := id X
  have hS : va_S (fl_A L2 ad) s.heap s.heap [] := va_S.rf
  refine lv_iload_n hx hb dX9_pass_0 rfl (lv_at hl 1 rfl) ?_
  refine lv_i2l (v := x1.toInt64) hx hb dX9_pass_1 rfl ?_
  refine lv_lconst (v := (1 : Int64)) hx hb dX9_pass_2 (by decide) ?_
  refine lv_ldc2 (v := (60 : Int64)) hx hb hown (hts _ wq_981) dX9_pass_3 ?_
  obtain ⟨r1, m2, hz3, h⟩ := fl_bd_e h
  refine fl_callS (av := [.long x1.toInt64, .long (1 : Int64), .long (60 : Int64)]) X hP hS hl.1 ms_X9_92 (c_X9_in l D ca ad hi x1.toInt64 (1 : Int64) (60 : Int64) m _ _ hz3) (fl_fit_rm (by omega) (by decide)) rfl (Nat.le_of_ble_eq_true rfl) dX9_pass_6 rfl (fun H locs hP hS => ?_)
  refine W.eq (g2 := F0 mm 9 ls [.int r1]) rfl ?_
  refine lv_if_ne (tgt := 14) hx hb dX9_pass_9 (by decide) (fun c4 => ?_) (fun c4 => ?_)
  · replace h := fl_if_f h c4
    refine lv_aload_n hx hb dX9_pass_14 rfl (lv_at hl 0 rfl) ?_
    obtain ⟨r5, m6, hz7, h⟩ := fl_bd_e h
    refine fl_callV (av := []) X hP hS hl.1 mv_X9_200 (c_X9_minds l D ca ad hi N  m2 _ _ hz7) k2_0 (fl_fit_rm (by omega) (by decide)) rfl (Nat.le_of_ble_eq_true rfl) dX9_pass_15 rfl (fun H locs hP hS => ?_)
    refine W.eq (g2 := F0 mm 18 ls []) rfl ?_
    refine lv_aload_n hx hb dX9_pass_18 rfl (lv_at hl 0 rfl) ?_
    refine fl_getr X hP fk_X9_7 k2_0 rfl dX9_pass_19 ?_
    refine lv_iconst (v := (0 : Int32)) hx hb dX9_pass_22 (by decide) ?_
    refine lv_dup2_11 hx hb dX9_pass_23 rfl rfl ?_
    refine fl_iald X hP k2_1 (by decide) dX9_pass_24 ?_
    refine lv_iload_n hx hb dX9_pass_25 rfl (lv_at hl 1 rfl) ?_
    refine lv_iadd hx hb dX9_pass_26 ?_
    obtain ⟨m8, em9, h⟩ := fl_lm_e h
    refine fl_iast X hP hS k2_1 (by decide) dX9_pass_27 (fun H locs hP hS => ?_)
    have hP : va_P D vwCl (fl_w L2 ca ad m8) H := by rw [em9]; exact hP
    refine lv_aload_n hx hb dX9_pass_28 rfl (lv_at hl 0 rfl) ?_
    refine fl_getr X hP fk_X9_7 k2_0 rfl dX9_pass_29 ?_
    refine lv_iconst (v := (0 : Int32)) hx hb dX9_pass_32 (by decide) ?_
    refine fl_iald X hP k2_1 (by decide) dX9_pass_33 ?_
    exact fl_iret X hr hlk hP hS dX9_pass_34 h
  · replace h := fl_if_t h c4
    refine lv_iconst (v := (-1 : Int32)) hx hb dX9_pass_12 (by decide) ?_
    exact fl_iret X hr hlk hP hS dX9_pass_13 h

def f_X9_undo (N : Nat)  (m : Mem) : Option (Int32 × Mem) :=
  if (m.1 0 1) = 0 then (
    some ((-2 : Int32), m))
  else (
    fl_lm (mI m 0 1 ((m.1 0 1) - (1 : Int32))) (fun m2 =>
      fl_bd (f_X9_copy N ((76 : Int32) + ((19 : Int32) * (m2.1 0 1))) (0 : Int32) m2) (fun r4 m5 =>
        some (m5.1 0 1, m5))))
set_option maxHeartbeats 4000000 in
set_option maxRecDepth 100000 in
theorem c_X9_undo (l : Launch) (D : va_G) (ca : Nat → ClassId) (ad : Nat → Nat) (hi : fl_inj L2 ad) (N : Nat)  (m : Mem) (v' : Int32) (M' : Mem) (h : f_X9_undo N  m = some (v', M')) : fl_M l L2 D ca ad yX9_undo cX9_undo 1 (some .int) 2 [.ref (ad 0)] m (some (.int v')) M' := by
  unfold f_X9_undo at h
  refine fl_ofW (by decide) hi (Nat.le_of_ble_eq_true rfl) ?_
  intro p e s mm args below meth c ls X hr hlk hP hl
  have hl : lv_has ls 1 [(0, .ref (ad 0))] := hl
  have X : fl_X p s mm args c cX9_undo 1 RX9 L2 D ca ad := X
  obtain ⟨hx, hb, hml, hown, hts, hE, -⟩ := id X
  have hS : va_S (fl_A L2 ad) s.heap s.heap [] := va_S.rf
  refine lv_aload_n hx hb dX9_undo_0 rfl (lv_at hl 0 rfl) ?_
  refine fl_geti X hP fk_X9_108 k2_0 rfl dX9_undo_1 ?_
  refine lv_if_ne (tgt := 10) hx hb dX9_undo_4 (by decide) (fun c1 => ?_) (fun c1 => ?_)
  · replace h := fl_if_f h c1
    refine lv_aload_n hx hb dX9_undo_10 rfl (lv_at hl 0 rfl) ?_
    refine lv_dup hx hb dX9_undo_11 rfl ?_
    refine fl_geti X hP fk_X9_108 k2_0 rfl dX9_undo_12 ?_
    refine lv_iconst (v := (1 : Int32)) hx hb dX9_undo_15 (by decide) ?_
    refine lv_isub hx hb dX9_undo_16 ?_
    obtain ⟨m2, em3, h⟩ := fl_lm_e h
    refine fl_puti X hP hS pk_X9_108 k2_0 rfl rfl rfl dX9_undo_17 (fun H locs hP hS => ?_)
    have hP : va_P D vwCl (fl_w L2 ca ad m2) H := by rw [em3]; exact hP
    refine lv_aload_n hx hb dX9_undo_20 rfl (lv_at hl 0 rfl) ?_
    refine lv_bipush (v := (76 : Int32)) hx hb dX9_undo_21 (by decide) ?_
    refine lv_bipush (v := (19 : Int32)) hx hb dX9_undo_23 (by decide) ?_
    refine lv_aload_n hx hb dX9_undo_25 rfl (lv_at hl 0 rfl) ?_
    refine fl_geti X hP fk_X9_108 k2_0 rfl dX9_undo_26 ?_
    refine lv_imul hx hb dX9_undo_29 ?_
    refine lv_iadd hx hb dX9_undo_30 ?_
    refine lv_iconst (v := (0 : Int32)) hx hb dX9_undo_31 (by decide) ?_
    obtain ⟨r4, m5, hz6, h⟩ := fl_bd_e h
    refine fl_callV (av := [.int ((76 : Int32) + ((19 : Int32) * (m2.1 0 1))), .int (0 : Int32)]) X hP hS hl.1 mv_X9_193 (c_X9_copy l D ca ad hi N ((76 : Int32) + ((19 : Int32) * (m2.1 0 1))) (0 : Int32) m2 _ _ hz6) k2_0 (fl_fit_rm (by omega) (by decide)) rfl (Nat.le_of_ble_eq_true rfl) dX9_undo_32 rfl (fun H locs hP hS => ?_)
    refine W.eq (g2 := F0 mm 35 ls []) rfl ?_
    refine lv_aload_n hx hb dX9_undo_35 rfl (lv_at hl 0 rfl) ?_
    refine fl_geti X hP fk_X9_108 k2_0 rfl dX9_undo_36 ?_
    exact fl_iret X hr hlk hP hS dX9_undo_39 h
  · replace h := fl_if_t h c1
    refine lv_bipush (v := (-2 : Int32)) hx hb dX9_undo_7 (by decide) ?_
    exact fl_iret X hr hlk hP hS dX9_undo_9 h

def f_X9_tries (N : Nat)  (m : Mem) : Option (Int32 × Mem) :=
  fl_bd (f_X9_copy N (0 : Int32) (19 : Int32) m) (fun r1 m2 =>
    some ((0 : Int32), m2))
set_option maxHeartbeats 4000000 in
set_option maxRecDepth 100000 in
theorem c_X9_tries (l : Launch) (D : va_G) (ca : Nat → ClassId) (ad : Nat → Nat) (hi : fl_inj L2 ad) (N : Nat)  (m : Mem) (v' : Int32) (M' : Mem) (h : f_X9_tries N  m = some (v', M')) : fl_M l L2 D ca ad yX9_tries cX9_tries 1 none 2 [.ref (ad 0)] m none M' := by
  unfold f_X9_tries at h
  refine fl_ofW (by decide) hi (Nat.le_of_ble_eq_true rfl) ?_
  intro p e s mm args below meth c ls X hr hlk hP hl
  have hl : lv_has ls 1 [(0, .ref (ad 0))] := hl
  have X : fl_X p s mm args c cX9_tries 1 RX9 L2 D ca ad := X
  obtain ⟨hx, hb, hml, hown, hts, hE, -⟩ := id X
  have hS : va_S (fl_A L2 ad) s.heap s.heap [] := va_S.rf
  refine lv_aload_n hx hb dX9_tries_0 rfl (lv_at hl 0 rfl) ?_
  refine lv_iconst (v := (0 : Int32)) hx hb dX9_tries_1 (by decide) ?_
  refine lv_bipush (v := (19 : Int32)) hx hb dX9_tries_2 (by decide) ?_
  obtain ⟨r1, m2, hz3, h⟩ := fl_bd_e h
  refine fl_callV (av := [.int (0 : Int32), .int (19 : Int32)]) X hP hS hl.1 mv_X9_193 (c_X9_copy l D ca ad hi N (0 : Int32) (19 : Int32) m _ _ hz3) k2_0 (fl_fit_rm (by omega) (by decide)) rfl (Nat.le_of_ble_eq_true rfl) dX9_tries_4 rfl (fun H locs hP hS => ?_)
  refine W.eq (g2 := F0 mm 7 ls []) rfl ?_
  exact fl_vret X hr hlk hP hS dX9_tries_7 h

def f_X9_ride (x1 : Int32) (x2 : Int32) (x3 : Int32) (m : Mem) : Option (Int32 × Mem) :=
  fl_bd (f_X9_isCab x1 m) (fun r1 m2 =>
    if r1 = 0 then (
      some ((-1 : Int32), m2))
    else (
      fl_bd (f_X9_isFare x2 m2) (fun r5 m6 =>
        if r5 = 0 then (
          some ((-1 : Int32), m6))
        else (
          fl_bd (f_X9_lateBy (0 : Int32) x1 x2 m6) (fun r9 m10 =>
            if x3 = (0 : Int32) then (
              fl_bd (f_X9_freeBy (0 : Int32) x1 x2 m10) (fun r12 m13 =>
                some (r12, m13)))
            else (
              if x3 = (1 : Int32) then (
                some (r9, m10))
              else (
                if x3 = (2 : Int32) then (
                  fl_bd (f_X9_weeps x2 r9 m10) (fun r15 m16 =>
                    if r15 = 0 then (
                      some ((0 : Int32), m16))
                    else (
                      some ((1 : Int32), m16))))
                else (
                  if x3 = (3 : Int32) then (
                    fl_bd (f_X9_goesBy (0 : Int32) x1 x2 m10) (fun r19 m20 =>
                      if r19 = 0 then (
                        some ((0 : Int32), m20))
                      else (
                        some ((1 : Int32), m20))))
                  else (
                    some ((-1 : Int32), m10))))))))))
set_option maxHeartbeats 4000000 in
set_option maxRecDepth 100000 in
theorem c_X9_ride (l : Launch) (D : va_G) (ca : Nat → ClassId) (ad : Nat → Nat) (hi : fl_inj L2 ad) (x1 : Int32) (x2 : Int32) (x3 : Int32) (m : Mem) (v' : Int32) (M' : Mem) (h : f_X9_ride x1 x2 x3 m = some (v', M')) : fl_M l L2 D ca ad yX9_ride cX9_ride 5 (some .int) 5 [.ref (ad 0), .int x1, .int x2, .int x3] m (some (.int v')) M' := by
  unfold f_X9_ride at h
  refine fl_ofW (by decide) hi (Nat.le_of_ble_eq_true rfl) ?_
  intro p e s mm args below meth c ls X hr hlk hP hl
  have hl : lv_has ls 5 [(0, .ref (ad 0)), (1, .int x1), (2, .int x2), (3, .int x3)] := hl
  have X : fl_X p s mm args c cX9_ride 5 RX9 L2 D ca ad := X
  obtain ⟨hx, hb, hml, hown, hts, hE, -⟩ := id X
  have hS : va_S (fl_A L2 ad) s.heap s.heap [] := va_S.rf
  refine lv_aload_n hx hb dX9_ride_0 rfl (lv_at hl 0 rfl) ?_
  refine lv_iload_n hx hb dX9_ride_1 rfl (lv_at hl 1 rfl) ?_
  obtain ⟨r1, m2, hz3, h⟩ := fl_bd_e h
  refine fl_callV (av := [.int x1]) X hP hS hl.1 mv_X9_166 (c_X9_isCab l D ca ad hi x1 m _ _ hz3) k2_0 (fl_fit_rm (by omega) (by decide)) rfl (Nat.le_of_ble_eq_true rfl) dX9_ride_2 rfl (fun H locs hP hS => ?_)
  refine W.eq (g2 := F0 mm 5 ls [.int r1]) rfl ?_
  refine lv_if_eq (tgt := 16) hx hb dX9_ride_5 (by decide) (fun c4 => ?_) (fun c4 => ?_)
  · replace h := fl_if_t h c4
    refine lv_iconst (v := (-1 : Int32)) hx hb dX9_ride_16 (by decide) ?_
    exact fl_iret X hr hlk hP hS dX9_ride_17 h
  · replace h := fl_if_f h c4
    refine lv_aload_n hx hb dX9_ride_8 rfl (lv_at hl 0 rfl) ?_
    refine lv_iload_n hx hb dX9_ride_9 rfl (lv_at hl 2 rfl) ?_
    obtain ⟨r5, m6, hz7, h⟩ := fl_bd_e h
    refine fl_callV (av := [.int x2]) X hP hS hl.1 mv_X9_169 (c_X9_isFare l D ca ad hi x2 m2 _ _ hz7) k2_0 (fl_fit_rm (by omega) (by decide)) rfl (Nat.le_of_ble_eq_true rfl) dX9_ride_10 rfl (fun H locs hP hS => ?_)
    refine W.eq (g2 := F0 mm 13 ls [.int r5]) rfl ?_
    refine lv_if_ne (tgt := 18) hx hb dX9_ride_13 (by decide) (fun c8 => ?_) (fun c8 => ?_)
    · replace h := fl_if_f h c8
      refine lv_aload_n hx hb dX9_ride_18 rfl (lv_at hl 0 rfl) ?_
      refine lv_iconst (v := (0 : Int32)) hx hb dX9_ride_19 (by decide) ?_
      refine lv_iload_n hx hb dX9_ride_20 rfl (lv_at hl 1 rfl) ?_
      refine lv_iload_n hx hb dX9_ride_21 rfl (lv_at hl 2 rfl) ?_
      obtain ⟨r9, m10, hz11, h⟩ := fl_bd_e h
      refine fl_callV (av := [.int (0 : Int32), .int x1, .int x2]) X hP hS hl.1 mv_X9_182 (c_X9_lateBy l D ca ad hi (0 : Int32) x1 x2 m6 _ _ hz11) k2_0 (fl_fit_rm (by omega) (by decide)) rfl (Nat.le_of_ble_eq_true rfl) dX9_ride_22 rfl (fun H locs hP hS => ?_)
      refine W.eq (g2 := F0 mm 25 ls [.int r9]) rfl ?_
      refine lv_istore (lv' := [(4, .int r9), (0, .ref (ad 0)), (1, .int x1), (2, .int x2), (3, .int x3)]) hx hb dX9_ride_25 hl (by decide) rfl (fun ls hl => ?_)
      refine lv_iload_n hx hb dX9_ride_27 rfl (lv_at hl 4 rfl) ?_
      by_cases c_0 : x3 = (0 : Int32)
      · replace h := fl_if_t h c_0
        refine lv_tableIn (off := 32) (tgt := 60) hx hb dX9_ride_28 (by rw [c_0]; decide) (by rw [c_0]; decide) (by rw [c_0]; rfl) (by decide) ?_
        refine lv_aload_n hx hb dX9_ride_60 rfl (lv_at hl 1 rfl) ?_
        refine lv_iconst (v := (0 : Int32)) hx hb dX9_ride_61 (by decide) ?_
        refine lv_iload_n hx hb dX9_ride_62 rfl (lv_at hl 2 rfl) ?_
        refine lv_iload_n hx hb dX9_ride_63 rfl (lv_at hl 3 rfl) ?_
        obtain ⟨r12, m13, hz14, h⟩ := fl_bd_e h
        refine fl_callV (av := [.int (0 : Int32), .int x1, .int x2]) X hP hS hl.1 mv_X9_178 (c_X9_freeBy l D ca ad hi (0 : Int32) x1 x2 m10 _ _ hz14) k2_0 (fl_fit_rm (by omega) (by decide)) rfl (Nat.le_of_ble_eq_true rfl) dX9_ride_64 rfl (fun H locs hP hS => ?_)
        refine W.eq (g2 := F0 mm 67 ls [.int r12]) rfl ?_
        exact fl_iret X hr hlk hP hS dX9_ride_67 h
      · replace h := fl_if_f h c_0
        by_cases c_1 : x3 = (1 : Int32)
        · replace h := fl_if_t h c_1
          refine lv_tableIn (off := 40) (tgt := 68) hx hb dX9_ride_28 (by rw [c_1]; decide) (by rw [c_1]; decide) (by rw [c_1]; rfl) (by decide) ?_
          refine lv_iload hx hb dX9_ride_68 (lv_at hl 0 rfl) ?_
          exact fl_iret X hr hlk hP hS dX9_ride_70 h
        · replace h := fl_if_f h c_1
          by_cases c_2 : x3 = (2 : Int32)
          · replace h := fl_if_t h c_2
            refine lv_tableIn (off := 43) (tgt := 71) hx hb dX9_ride_28 (by rw [c_2]; decide) (by rw [c_2]; decide) (by rw [c_2]; rfl) (by decide) ?_
            refine lv_aload_n hx hb dX9_ride_71 rfl (lv_at hl 1 rfl) ?_
            refine lv_iload_n hx hb dX9_ride_72 rfl (lv_at hl 3 rfl) ?_
            refine lv_iload hx hb dX9_ride_73 (lv_at hl 0 rfl) ?_
            obtain ⟨r15, m16, hz17, h⟩ := fl_bd_e h
            refine fl_callV (av := [.int x2, .int r9]) X hP hS hl.1 mv_X9_185 (c_X9_weeps l D ca ad hi x2 r9 m10 _ _ hz17) k2_0 (fl_fit_rm (by omega) (by decide)) rfl (Nat.le_of_ble_eq_true rfl) dX9_ride_75 rfl (fun H locs hP hS => ?_)
            refine W.eq (g2 := F0 mm 78 ls [.int r15]) rfl ?_
            refine lv_if_eq (tgt := 85) hx hb dX9_ride_78 (by decide) (fun c18 => ?_) (fun c18 => ?_)
            · replace h := fl_if_t h c18
              refine lv_iconst (v := (0 : Int32)) hx hb dX9_ride_85 (by decide) ?_
              exact fl_iret X hr hlk hP hS dX9_ride_86 h
            · replace h := fl_if_f h c18
              refine lv_iconst (v := (1 : Int32)) hx hb dX9_ride_81 (by decide) ?_
              refine lv_goto (tgt := 86) hx hb dX9_ride_82 (by decide) ?_
              exact fl_iret X hr hlk hP hS dX9_ride_86 h
          · replace h := fl_if_f h c_2
            by_cases c_3 : x3 = (3 : Int32)
            · replace h := fl_if_t h c_3
              refine lv_tableIn (off := 59) (tgt := 87) hx hb dX9_ride_28 (by rw [c_3]; decide) (by rw [c_3]; decide) (by rw [c_3]; rfl) (by decide) ?_
              refine lv_aload_n hx hb dX9_ride_87 rfl (lv_at hl 1 rfl) ?_
              refine lv_iconst (v := (0 : Int32)) hx hb dX9_ride_88 (by decide) ?_
              refine lv_iload_n hx hb dX9_ride_89 rfl (lv_at hl 2 rfl) ?_
              refine lv_iload_n hx hb dX9_ride_90 rfl (lv_at hl 3 rfl) ?_
              obtain ⟨r19, m20, hz21, h⟩ := fl_bd_e h
              refine fl_callV (av := [.int (0 : Int32), .int x1, .int x2]) X hP hS hl.1 mv_X9_175 (c_X9_goesBy l D ca ad hi (0 : Int32) x1 x2 m10 _ _ hz21) k2_0 (fl_fit_rm (by omega) (by decide)) rfl (Nat.le_of_ble_eq_true rfl) dX9_ride_91 rfl (fun H locs hP hS => ?_)
              refine W.eq (g2 := F0 mm 94 ls [.int r19]) rfl ?_
              refine lv_if_eq (tgt := 101) hx hb dX9_ride_94 (by decide) (fun c22 => ?_) (fun c22 => ?_)
              · replace h := fl_if_t h c22
                refine lv_iconst (v := (0 : Int32)) hx hb dX9_ride_101 (by decide) ?_
                exact fl_iret X hr hlk hP hS dX9_ride_102 h
              · replace h := fl_if_f h c22
                refine lv_iconst (v := (1 : Int32)) hx hb dX9_ride_97 (by decide) ?_
                refine lv_goto (tgt := 102) hx hb dX9_ride_98 (by decide) ?_
                exact fl_iret X hr hlk hP hS dX9_ride_102 h
            · replace h := fl_if_f h c_3
              refine lv_tableOut (tgt := 103) hx hb dX9_ride_28 (by have e0 := lv_neT c_0 (a := 0) (by decide); have e1 := lv_neT c_1 (a := 1) (by decide); have e2 := lv_neT c_2 (a := 2) (by decide); have e3 := lv_neT c_3 (a := 3) (by decide); omega) (by decide) ?_
              refine lv_iconst (v := (-1 : Int32)) hx hb dX9_ride_103 (by decide) ?_
              exact fl_iret X hr hlk hP hS dX9_ride_104 h
    · replace h := fl_if_t h c8
      refine lv_iconst (v := (-1 : Int32)) hx hb dX9_ride_16 (by decide) ?_
      exact fl_iret X hr hlk hP hS dX9_ride_17 h

def f_X9_soonest (N : Nat) (x1 : Int32) (m : Mem) : Option (Int32 × Mem) :=
  fl_bd (f_X9_isFare x1 m) (fun r1 m2 =>
    if r1 = 0 then (
      some ((-1 : Int32), m2))
    else (
      fl_bd (f_X9_soonestIn N (0 : Int32) x1 m2) (fun r5 m6 =>
        some (r5, m6))))
set_option maxHeartbeats 4000000 in
set_option maxRecDepth 100000 in
theorem c_X9_soonest (l : Launch) (D : va_G) (ca : Nat → ClassId) (ad : Nat → Nat) (hi : fl_inj L2 ad) (N : Nat) (x1 : Int32) (m : Mem) (v' : Int32) (M' : Mem) (h : f_X9_soonest N x1 m = some (v', M')) : fl_M l L2 D ca ad yX9_soonest cX9_soonest 2 (some .int) 6 [.ref (ad 0), .int x1] m (some (.int v')) M' := by
  unfold f_X9_soonest at h
  refine fl_ofW (by decide) hi (Nat.le_of_ble_eq_true rfl) ?_
  intro p e s mm args below meth c ls X hr hlk hP hl
  have hl : lv_has ls 2 [(0, .ref (ad 0)), (1, .int x1)] := hl
  have X : fl_X p s mm args c cX9_soonest 2 RX9 L2 D ca ad := X
  obtain ⟨hx, hb, hml, hown, hts, hE, -⟩ := id X
  have hS : va_S (fl_A L2 ad) s.heap s.heap [] := va_S.rf
  refine lv_aload_n hx hb dX9_soonest_0 rfl (lv_at hl 0 rfl) ?_
  refine lv_iload_n hx hb dX9_soonest_1 rfl (lv_at hl 1 rfl) ?_
  obtain ⟨r1, m2, hz3, h⟩ := fl_bd_e h
  refine fl_callV (av := [.int x1]) X hP hS hl.1 mv_X9_169 (c_X9_isFare l D ca ad hi x1 m _ _ hz3) k2_0 (fl_fit_rm (by omega) (by decide)) rfl (Nat.le_of_ble_eq_true rfl) dX9_soonest_2 rfl (fun H locs hP hS => ?_)
  refine W.eq (g2 := F0 mm 5 ls [.int r1]) rfl ?_
  refine lv_if_eq (tgt := 17) hx hb dX9_soonest_5 (by decide) (fun c4 => ?_) (fun c4 => ?_)
  · replace h := fl_if_t h c4
    refine lv_iconst (v := (-1 : Int32)) hx hb dX9_soonest_17 (by decide) ?_
    exact fl_iret X hr hlk hP hS dX9_soonest_18 h
  · replace h := fl_if_f h c4
    refine lv_aload_n hx hb dX9_soonest_8 rfl (lv_at hl 0 rfl) ?_
    refine lv_iconst (v := (0 : Int32)) hx hb dX9_soonest_9 (by decide) ?_
    refine lv_iload_n hx hb dX9_soonest_10 rfl (lv_at hl 1 rfl) ?_
    obtain ⟨r5, m6, hz7, h⟩ := fl_bd_e h
    refine fl_callV (av := [.int (0 : Int32), .int x1]) X hP hS hl.1 mv_X9_211 (c_X9_soonestIn l D ca ad hi N (0 : Int32) x1 m2 _ _ hz7) k2_0 (fl_fit_rm (by omega) (by decide)) rfl (Nat.le_of_ble_eq_true rfl) dX9_soonest_11 rfl (fun H locs hP hS => ?_)
    refine W.eq (g2 := F0 mm 14 ls [.int r5]) rfl ?_
    refine lv_goto (tgt := 18) hx hb dX9_soonest_14 (by decide) ?_
    exact fl_iret X hr hlk hP hS dX9_soonest_18 h

def f_X9_rest  (m : Mem) : Option (Int32 × Mem) :=
  some ((((1 : Int32) <<< ((m.1 0 7) &&& 31)) - (1 : Int32)) &&& ((m.1 1 10) ^^^ (-1 : Int32)), m)
set_option maxHeartbeats 4000000 in
set_option maxRecDepth 100000 in
theorem c_X9_rest (l : Launch) (D : va_G) (ca : Nat → ClassId) (ad : Nat → Nat) (hi : fl_inj L2 ad)  (m : Mem) (v' : Int32) (M' : Mem) (h : f_X9_rest  m = some (v', M')) : fl_M l L2 D ca ad yX9_rest cX9_rest 1 (some .int) 1 [.ref (ad 0)] m (some (.int v')) M' := by
  unfold f_X9_rest at h
  refine fl_ofW (by decide) hi (Nat.le_of_ble_eq_true rfl) ?_
  intro p e s mm args below meth c ls X hr hlk hP hl
  have hl : lv_has ls 1 [(0, .ref (ad 0))] := hl
  have X : fl_X p s mm args c cX9_rest 1 RX9 L2 D ca ad := X
  obtain ⟨hx, hb, hml, hown, hts, hE, -⟩ := id X
  have hS : va_S (fl_A L2 ad) s.heap s.heap [] := va_S.rf
  refine lv_iconst (v := (1 : Int32)) hx hb dX9_rest_0 (by decide) ?_
  refine lv_aload_n hx hb dX9_rest_1 rfl (lv_at hl 0 rfl) ?_
  refine fl_geti X hP fk_X9_99 k2_0 rfl dX9_rest_2 ?_
  refine lv_ishl hx hb dX9_rest_5 ?_
  refine lv_iconst (v := (1 : Int32)) hx hb dX9_rest_6 (by decide) ?_
  refine lv_isub hx hb dX9_rest_7 ?_
  refine lv_aload_n hx hb dX9_rest_8 rfl (lv_at hl 0 rfl) ?_
  refine fl_getr X hP fk_X9_7 k2_0 rfl dX9_rest_9 ?_
  refine lv_bipush (v := (10 : Int32)) hx hb dX9_rest_12 (by decide) ?_
  refine fl_iald X hP k2_1 (by decide) dX9_rest_14 ?_
  refine lv_iconst (v := (-1 : Int32)) hx hb dX9_rest_15 (by decide) ?_
  refine lv_ixor hx hb dX9_rest_16 ?_
  refine lv_iand hx hb dX9_rest_17 ?_
  exact fl_iret X hr hlk hP hS dX9_rest_18 h

def J_X9_ordersRest_262 (N : Nat) (F : Nat → Int32 → Int32 → Int32 → Int32 → Int32 → Int32 → Int32 → Mem → Option (Int32 × Mem)) (x1 : Int32) (x2 : Int32) (x3 : Int32) (x4 : Int32) (t1 : Int32) (t2 : Int32) (t3 : Int32) (m : Mem) : Option (Int32 × Mem) :=
  fl_ck (0 ≤ t1.toInt ∧ t1.toInt < 8) (
    fl_lm (mI m 15 (t1.toNatClampNeg) (t2 + t3)) (fun m55 =>
      fl_ck (0 ≤ (x4 + 1).toInt ∧ (x4 + 1).toInt < 8) (
        fl_lm (mI m55 14 ((x4 + 1).toNatClampNeg) (-1 : Int32)) (fun m58 =>
          F 1 x1 x2 x3 (x4 + 1) 0 0 0 m58))))
def B_X9_ordersRest_161 (N : Nat) (F : Nat → Int32 → Int32 → Int32 → Int32 → Int32 → Int32 → Int32 → Mem → Option (Int32 × Mem)) (x1 : Int32) (x2 : Int32) (x3 : Int32) (x4 : Int32) (x7 : Int32) (m : Mem) : Option (Int32 × Mem) :=
  if x2 ≤ x7 then (
    F 1 x1 x2 x3 (x4 + (-1)) 0 0 0 m)
  else (
    fl_ck (0 ≤ x7.toInt ∧ x7.toInt < 8) (
      fl_ck (0 ≤ x7.toInt ∧ x7.toInt < 7) (
        fl_lm (mI m 16 (x7.toNatClampNeg) (m.1 14 (x7.toNatClampNeg))) (fun m63 =>
          F 3 x1 x2 x3 x4 0 0 (x7 + 1) m63))))
def J_X9_ordersRest_133 (N : Nat) (F : Nat → Int32 → Int32 → Int32 → Int32 → Int32 → Int32 → Int32 → Mem → Option (Int32 × Mem)) (x1 : Int32) (x2 : Int32) (x3 : Int32) (x4 : Int32) (m : Mem) : Option (Int32 × Mem) :=
  if x4 = x2 then (
    fl_ck (0 ≤ x4.toInt ∧ x4.toInt < 8) (
      if x3 ≤ (m.1 15 (x4.toNatClampNeg)) then (
        F 1 x1 x2 x3 (x4 + (-1)) 0 0 0 m)
      else (
        fl_ck (0 ≤ x4.toInt ∧ x4.toInt < 8) (
          fl_li (m.1 15 (x4.toNatClampNeg)) (fun z52 =>
            F 3 x1 x2 z52 x4 0 0 (0 : Int32) m)))))
  else (
    F 1 x1 x2 x3 (x4 + (-1)) 0 0 0 m)
def J_X9_ordersRest_107 (N : Nat) (F : Nat → Int32 → Int32 → Int32 → Int32 → Int32 → Int32 → Int32 → Mem → Option (Int32 × Mem)) (x1 : Int32) (x2 : Int32) (x3 : Int32) (x4 : Int32) (x5 : Int32) (x6 : Int32) (m : Mem) : Option (Int32 × Mem) :=
  if x4 = x2 then (
    J_X9_ordersRest_133 N F x1 x2 x3 x4 m)
  else (
    if x6 = (m.1 0 7) then (
      J_X9_ordersRest_133 N F x1 x2 x3 x4 m)
    else (
      fl_ck (0 ≤ x4.toInt ∧ x4.toInt < 8) (
        if (m.1 15 (x4.toNatClampNeg)) < x3 then (
          fl_ck (0 ≤ x4.toInt ∧ x4.toInt < 8) (
            fl_lm (mI m 14 (x4.toNatClampNeg) x6) (fun m35 =>
              fl_bd (f_X9_copy N x5 (x5 + (19 : Int32)) m35) (fun r37 m38 =>
                fl_bd (f_X9_soonestIn N (x5 + (19 : Int32)) x6 m38) (fun r40 m41 =>
                  fl_bd (f_X9_ridesAsOneDoes (x5 + (19 : Int32)) r40 x6 m41) (fun r43 m44 =>
                    fl_ck (0 ≤ x4.toInt ∧ x4.toInt < 8) (
                      if r43 = 0 then (
                        J_X9_ordersRest_262 N F x1 x2 x3 x4 (x4 + (1 : Int32)) (m44.1 15 (x4.toNatClampNeg)) (0 : Int32) m44)
                      else (
                        J_X9_ordersRest_262 N F x1 x2 x3 x4 (x4 + (1 : Int32)) (m44.1 15 (x4.toNatClampNeg)) (1 : Int32) m44))))))))
        else (
          J_X9_ordersRest_133 N F x1 x2 x3 x4 m))))
def B_X9_ordersRest_65 (N : Nat) (F : Nat → Int32 → Int32 → Int32 → Int32 → Int32 → Int32 → Int32 → Mem → Option (Int32 × Mem)) (x1 : Int32) (x2 : Int32) (x3 : Int32) (x4 : Int32) (x5 : Int32) (x6 : Int32) (m : Mem) : Option (Int32 × Mem) :=
  if (m.1 0 7) ≤ x6 then (
    J_X9_ordersRest_107 N F x1 x2 x3 x4 x5 x6 m)
  else (
    fl_bd (f_X9_has x1 x6 m) (fun r21 m22 =>
      if r21 = 0 then (
        F 2 x1 x2 x3 x4 x5 (x6 + 1) 0 m22)
      else (
        fl_ck (0 ≤ (x5 + (10 : Int32)).toInt ∧ (x5 + (10 : Int32)).toInt < 380) (
          fl_bd (f_X9_has (m22.1 1 ((x5 + (10 : Int32)).toNatClampNeg)) x6 m22) (fun r26 m27 =>
            if r26 = 0 then (
              J_X9_ordersRest_107 N F x1 x2 x3 x4 x5 x6 m27)
            else (
              F 2 x1 x2 x3 x4 x5 (x6 + 1) 0 m27))))))
def B_X9_ordersRest_38 (N : Nat) (F : Nat → Int32 → Int32 → Int32 → Int32 → Int32 → Int32 → Int32 → Mem → Option (Int32 × Mem)) (x1 : Int32) (x2 : Int32) (x3 : Int32) (x4 : Int32) (m : Mem) : Option (Int32 × Mem) :=
  if x4 < 0 then (
    some (x3, m))
  else (
    fl_li ((228 : Int32) + ((19 : Int32) * x4)) (fun z15 =>
      fl_ck (0 ≤ x4.toInt ∧ x4.toInt < 8) (
        fl_li ((m.1 14 (x4.toNatClampNeg)) + (1 : Int32)) (fun z18 =>
          F 2 x1 x2 x3 x4 z15 z18 0 m))))
def l_X9_ordersRest (N : Nat) : Nat → Nat → Int32 → Int32 → Int32 → Int32 → Int32 → Int32 → Int32 → Mem → Option (Int32 × Mem)
  | 0 => fun _ _ _ _ _ _ _ _ _ => none
  | n + 1 => fun lab x1 x2 x3 x4 x5 x6 x7 m => if lab = 1 then B_X9_ordersRest_38 N (l_X9_ordersRest N n) x1 x2 x3 x4 m else if lab = 2 then B_X9_ordersRest_65 N (l_X9_ordersRest N n) x1 x2 x3 x4 x5 x6 m else if lab = 3 then B_X9_ordersRest_161 N (l_X9_ordersRest N n) x1 x2 x3 x4 x7 m else none
def f_X9_ordersRest (N : Nat)  (m : Mem) : Option (Int32 × Mem) :=
  fl_bd (f_X9_rest  m) (fun r1 m2 =>
    fl_bd (f_X9_ones N r1 m2) (fun r4 m5 =>
      fl_bd (f_X9_copy N (0 : Int32) (228 : Int32) m5) (fun r7 m8 =>
        fl_lm (mI m8 14 0 (-1 : Int32)) (fun m10 =>
          fl_lm (mI m10 15 0 (0 : Int32)) (fun m12 =>
            (l_X9_ordersRest N N) 1 r1 r4 (1000000 : Int32) (0 : Int32) 0 0 0 m12)))))
set_option maxHeartbeats 4000000 in
set_option maxRecDepth 100000 in
theorem c_X9_ordersRest (l : Launch) (D : va_G) (ca : Nat → ClassId) (ad : Nat → Nat) (hi : fl_inj L2 ad) (N : Nat)  (m : Mem) (v' : Int32) (M' : Mem) (h : f_X9_ordersRest N  m = some (v', M')) : fl_M l L2 D ca ad yX9_ordersRest cX9_ordersRest 8 (some .int) 6 [.ref (ad 0)] m (some (.int v')) M' := by
  unfold f_X9_ordersRest at h
  refine fl_ofW (by decide) hi (Nat.le_of_ble_eq_true rfl) ?_
  intro p e s mm args below meth c ls X hr hlk hP hl
  have hl : lv_has ls 8 [(0, .ref (ad 0))] := hl
  have X : fl_X p s mm args c cX9_ordersRest 8 RX9 L2 D ca ad := X
  obtain ⟨hx, hb, hml, hown, hts, hE, -⟩ := id X
  have hS : va_S (fl_A L2 ad) s.heap s.heap [] := va_S.rf
  have js : ∀ n : Nat, ((∀ (x1 : Int32) (x2 : Int32) (x3 : Int32) (x4 : Int32) (m : Mem) (H : Heap) (locs : List Loc) (ls : Array Slot), l_X9_ordersRest N n 1 x1 x2 x3 x4 0 0 0 m = some (v', M') → va_P D vwCl (fl_w L2 ca ad m) H → va_S (fl_A L2 ad) s.heap H locs → lv_has ls 8 [(0, .ref (ad 0)), (1, .int x1), (2, .int x2), (3, .int x3), (4, .int x4)] → W p l e (fl_rm 6) s mm args below meth c H locs 0 0 (MQ below (fl_Q L2 D ca ad (some (.int v')) M') args s 0 0 (fl_A L2 ad)) (F0 mm 38 ls [])) ∧ (∀ (x1 : Int32) (x2 : Int32) (x3 : Int32) (x4 : Int32) (x5 : Int32) (x6 : Int32) (m : Mem) (H : Heap) (locs : List Loc) (ls : Array Slot), l_X9_ordersRest N n 2 x1 x2 x3 x4 x5 x6 0 m = some (v', M') → va_P D vwCl (fl_w L2 ca ad m) H → va_S (fl_A L2 ad) s.heap H locs → lv_has ls 8 [(0, .ref (ad 0)), (1, .int x1), (2, .int x2), (3, .int x3), (4, .int x4), (5, .int x5), (6, .int x6)] → W p l e (fl_rm 6) s mm args below meth c H locs 0 0 (MQ below (fl_Q L2 D ca ad (some (.int v')) M') args s 0 0 (fl_A L2 ad)) (F0 mm 65 ls [])) ∧ (∀ (x1 : Int32) (x2 : Int32) (x3 : Int32) (x4 : Int32) (x7 : Int32) (m : Mem) (H : Heap) (locs : List Loc) (ls : Array Slot), l_X9_ordersRest N n 3 x1 x2 x3 x4 0 0 x7 m = some (v', M') → va_P D vwCl (fl_w L2 ca ad m) H → va_S (fl_A L2 ad) s.heap H locs → lv_has ls 8 [(0, .ref (ad 0)), (1, .int x1), (2, .int x2), (3, .int x3), (4, .int x4), (7, .int x7)] → W p l e (fl_rm 6) s mm args below meth c H locs 0 0 (MQ below (fl_Q L2 D ca ad (some (.int v')) M') args s 0 0 (fl_A L2 ad)) (F0 mm 161 ls []))) → (∀ (x1 : Int32) (x2 : Int32) (x3 : Int32) (x4 : Int32) (t1 : Int32) (t2 : Int32) (t3 : Int32) (m : Mem) (H : Heap) (locs : List Loc) (ls : Array Slot), J_X9_ordersRest_262 N (l_X9_ordersRest N n) x1 x2 x3 x4 t1 t2 t3 m = some (v', M') → va_P D vwCl (fl_w L2 ca ad m) H → va_S (fl_A L2 ad) s.heap H locs → lv_has ls 8 [(0, .ref (ad 0)), (1, .int x1), (2, .int x2), (3, .int x3), (4, .int x4)] → W p l e (fl_rm 6) s mm args below meth c H locs 0 0 (MQ below (fl_Q L2 D ca ad (some (.int v')) M') args s 0 0 (fl_A L2 ad)) (F0 mm 262 ls [.int t3, .int t2, .int t1, .ref (ad 15)])) ∧ (∀ (x1 : Int32) (x2 : Int32) (x3 : Int32) (x4 : Int32) (m : Mem) (H : Heap) (locs : List Loc) (ls : Array Slot), J_X9_ordersRest_133 N (l_X9_ordersRest N n) x1 x2 x3 x4 m = some (v', M') → va_P D vwCl (fl_w L2 ca ad m) H → va_S (fl_A L2 ad) s.heap H locs → lv_has ls 8 [(0, .ref (ad 0)), (1, .int x1), (2, .int x2), (3, .int x3), (4, .int x4)] → W p l e (fl_rm 6) s mm args below meth c H locs 0 0 (MQ below (fl_Q L2 D ca ad (some (.int v')) M') args s 0 0 (fl_A L2 ad)) (F0 mm 133 ls [])) ∧ (∀ (x1 : Int32) (x2 : Int32) (x3 : Int32) (x4 : Int32) (x5 : Int32) (x6 : Int32) (m : Mem) (H : Heap) (locs : List Loc) (ls : Array Slot), J_X9_ordersRest_107 N (l_X9_ordersRest N n) x1 x2 x3 x4 x5 x6 m = some (v', M') → va_P D vwCl (fl_w L2 ca ad m) H → va_S (fl_A L2 ad) s.heap H locs → lv_has ls 8 [(0, .ref (ad 0)), (1, .int x1), (2, .int x2), (3, .int x3), (4, .int x4), (5, .int x5), (6, .int x6)] → W p l e (fl_rm 6) s mm args below meth c H locs 0 0 (MQ below (fl_Q L2 D ca ad (some (.int v')) M') args s 0 0 (fl_A L2 ad)) (F0 mm 107 ls [])) := by
    intro n ih
    obtain ⟨ih_38, ih_65, ih_161⟩ := ih
    have j_262 : ∀ (x1 : Int32) (x2 : Int32) (x3 : Int32) (x4 : Int32) (t1 : Int32) (t2 : Int32) (t3 : Int32) (m : Mem) (H : Heap) (locs : List Loc) (ls : Array Slot), J_X9_ordersRest_262 N (l_X9_ordersRest N n) x1 x2 x3 x4 t1 t2 t3 m = some (v', M') → va_P D vwCl (fl_w L2 ca ad m) H → va_S (fl_A L2 ad) s.heap H locs → lv_has ls 8 [(0, .ref (ad 0)), (1, .int x1), (2, .int x2), (3, .int x3), (4, .int x4)] → W p l e (fl_rm 6) s mm args below meth c H locs 0 0 (MQ below (fl_Q L2 D ca ad (some (.int v')) M') args s 0 0 (fl_A L2 ad)) (F0 mm 262 ls [.int t3, .int t2, .int t1, .ref (ad 15)]) := by
      intro x1 x2 x3 x4 t1 t2 t3 m H locs ls h hP hS hl
      unfold J_X9_ordersRest_262 at h
      refine lv_iadd hx hb dX9_ordersRest_262 ?_
      obtain ⟨hk54, h⟩ := fl_ck_e h
      obtain ⟨m55, em56, h⟩ := fl_lm_e h
      refine fl_iast X hP hS k2_15 hk54 dX9_ordersRest_263 (fun H locs hP hS => ?_)
      have hP : va_P D vwCl (fl_w L2 ca ad m55) H := by rw [em56]; exact hP
      refine lv_iinc (v := x4 + 1) (lv' := [(4, .int (x4 + 1)), (0, .ref (ad 0)), (1, .int x1), (2, .int x2), (3, .int x3)]) hx hb dX9_ordersRest_264 hl (k := 4) rfl rfl (by decide) rfl (fun ls hl => ?_)
      refine lv_aload_n hx hb dX9_ordersRest_267 rfl (lv_at hl 1 rfl) ?_
      refine fl_getr X hP fk_X9_49 k2_0 rfl dX9_ordersRest_268 ?_
      refine lv_iload hx hb dX9_ordersRest_271 (lv_at hl 0 rfl) ?_
      refine lv_iconst (v := (-1 : Int32)) hx hb dX9_ordersRest_273 (by decide) ?_
      obtain ⟨hk57, h⟩ := fl_ck_e h
      obtain ⟨m58, em59, h⟩ := fl_lm_e h
      refine fl_iast X hP hS k2_14 hk57 dX9_ordersRest_274 (fun H locs hP hS => ?_)
      have hP : va_P D vwCl (fl_w L2 ca ad m58) H := by rw [em59]; exact hP
      refine lv_goto (tgt := 38) hx hb dX9_ordersRest_275 (by decide) ?_
      exact ih_38 _ _ _ _ _ _ _ _ h hP hS (lv_sub hl [1, 2, 3, 4, 0] rfl)
    have j_133 : ∀ (x1 : Int32) (x2 : Int32) (x3 : Int32) (x4 : Int32) (m : Mem) (H : Heap) (locs : List Loc) (ls : Array Slot), J_X9_ordersRest_133 N (l_X9_ordersRest N n) x1 x2 x3 x4 m = some (v', M') → va_P D vwCl (fl_w L2 ca ad m) H → va_S (fl_A L2 ad) s.heap H locs → lv_has ls 8 [(0, .ref (ad 0)), (1, .int x1), (2, .int x2), (3, .int x3), (4, .int x4)] → W p l e (fl_rm 6) s mm args below meth c H locs 0 0 (MQ below (fl_Q L2 D ca ad (some (.int v')) M') args s 0 0 (fl_A L2 ad)) (F0 mm 133 ls []) := by
      intro x1 x2 x3 x4 m H locs ls h hP hS hl
      unfold J_X9_ordersRest_133 at h
      refine lv_iload hx hb dX9_ordersRest_133 (lv_at hl 4 rfl) ?_
      refine lv_iload_n hx hb dX9_ordersRest_135 rfl (lv_at hl 2 rfl) ?_
      refine lv_icmp_ne (tgt := 187) hx hb dX9_ordersRest_136 (by decide) (fun c48 => ?_) (fun c48 => ?_)
      · replace h := fl_if_f h c48
        refine lv_iinc (v := x4 + (-1)) (lv' := [(4, .int (x4 + (-1))), (0, .ref (ad 0)), (1, .int x1), (2, .int x2), (3, .int x3)]) hx hb dX9_ordersRest_187 hl (k := 4) rfl rfl (by decide) rfl (fun ls hl => ?_)
        refine lv_goto (tgt := 275) hx hb dX9_ordersRest_190 (by decide) ?_
        refine lv_goto (tgt := 38) hx hb dX9_ordersRest_275 (by decide) ?_
        exact ih_38 _ _ _ _ _ _ _ _ h hP hS (lv_sub hl [1, 2, 3, 4, 0] rfl)
      · replace h := fl_if_t h c48
        refine lv_aload_n hx hb dX9_ordersRest_139 rfl (lv_at hl 0 rfl) ?_
        refine fl_getr X hP fk_X9_52 k2_0 rfl dX9_ordersRest_140 ?_
        refine lv_iload hx hb dX9_ordersRest_143 (lv_at hl 4 rfl) ?_
        obtain ⟨hk49, h⟩ := fl_ck_e h
        refine fl_iald X hP k2_15 hk49 dX9_ordersRest_145 ?_
        refine lv_iload_n hx hb dX9_ordersRest_146 rfl (lv_at hl 3 rfl) ?_
        refine lv_icmp_ge (tgt := 187) hx hb dX9_ordersRest_147 (by decide) (fun c50 => ?_) (fun c50 => ?_)
        · replace h := fl_if_t h c50
          refine lv_iinc (v := x4 + (-1)) (lv' := [(4, .int (x4 + (-1))), (0, .ref (ad 0)), (1, .int x1), (2, .int x2), (3, .int x3)]) hx hb dX9_ordersRest_187 hl (k := 4) rfl rfl (by decide) rfl (fun ls hl => ?_)
          refine lv_goto (tgt := 275) hx hb dX9_ordersRest_190 (by decide) ?_
          refine lv_goto (tgt := 38) hx hb dX9_ordersRest_275 (by decide) ?_
          exact ih_38 _ _ _ _ _ _ _ _ h hP hS (lv_sub hl [1, 2, 3, 4, 0] rfl)
        · replace h := fl_if_f h c50
          refine lv_aload_n hx hb dX9_ordersRest_150 rfl (lv_at hl 0 rfl) ?_
          refine fl_getr X hP fk_X9_52 k2_0 rfl dX9_ordersRest_151 ?_
          refine lv_iload hx hb dX9_ordersRest_154 (lv_at hl 4 rfl) ?_
          obtain ⟨hk51, h⟩ := fl_ck_e h
          refine fl_iald X hP k2_15 hk51 dX9_ordersRest_156 ?_
          obtain ⟨z52, ez53, h⟩ := fl_li_e h
          refine fl_topi ez53 ?_
          refine lv_istore_n (lv' := [(3, .int z52), (0, .ref (ad 0)), (1, .int x1), (2, .int x2), (4, .int x4)]) hx hb dX9_ordersRest_157 rfl hl (by decide) rfl (fun ls hl => ?_)
          refine lv_iconst (v := (0 : Int32)) hx hb dX9_ordersRest_158 (by decide) ?_
          refine lv_istore (lv' := [(7, .int (0 : Int32)), (3, .int z52), (0, .ref (ad 0)), (1, .int x1), (2, .int x2), (4, .int x4)]) hx hb dX9_ordersRest_159 hl (by decide) rfl (fun ls hl => ?_)
          exact ih_161 _ _ _ _ _ _ _ _ _ h hP hS (lv_sub hl [2, 3, 4, 1, 5, 0] rfl)
    have j_107 : ∀ (x1 : Int32) (x2 : Int32) (x3 : Int32) (x4 : Int32) (x5 : Int32) (x6 : Int32) (m : Mem) (H : Heap) (locs : List Loc) (ls : Array Slot), J_X9_ordersRest_107 N (l_X9_ordersRest N n) x1 x2 x3 x4 x5 x6 m = some (v', M') → va_P D vwCl (fl_w L2 ca ad m) H → va_S (fl_A L2 ad) s.heap H locs → lv_has ls 8 [(0, .ref (ad 0)), (1, .int x1), (2, .int x2), (3, .int x3), (4, .int x4), (5, .int x5), (6, .int x6)] → W p l e (fl_rm 6) s mm args below meth c H locs 0 0 (MQ below (fl_Q L2 D ca ad (some (.int v')) M') args s 0 0 (fl_A L2 ad)) (F0 mm 107 ls []) := by
      intro x1 x2 x3 x4 x5 x6 m H locs ls h hP hS hl
      unfold J_X9_ordersRest_107 at h
      refine lv_iload hx hb dX9_ordersRest_107 (lv_at hl 4 rfl) ?_
      refine lv_iload_n hx hb dX9_ordersRest_109 rfl (lv_at hl 2 rfl) ?_
      refine lv_icmp_eq (tgt := 133) hx hb dX9_ordersRest_110 (by decide) (fun c30 => ?_) (fun c30 => ?_)
      · replace h := fl_if_t h c30
        exact j_133 _ _ _ _ _ _ _ _ h hP hS (lv_sub hl [0, 1, 2, 3, 4] rfl)
      · replace h := fl_if_f h c30
        refine lv_iload hx hb dX9_ordersRest_113 (lv_at hl 6 rfl) ?_
        refine lv_aload_n hx hb dX9_ordersRest_115 rfl (lv_at hl 0 rfl) ?_
        refine fl_geti X hP fk_X9_99 k2_0 rfl dX9_ordersRest_116 ?_
        refine lv_icmp_eq (tgt := 133) hx hb dX9_ordersRest_119 (by decide) (fun c31 => ?_) (fun c31 => ?_)
        · replace h := fl_if_t h c31
          exact j_133 _ _ _ _ _ _ _ _ h hP hS (lv_sub hl [0, 1, 2, 3, 4] rfl)
        · replace h := fl_if_f h c31
          refine lv_aload_n hx hb dX9_ordersRest_122 rfl (lv_at hl 0 rfl) ?_
          refine fl_getr X hP fk_X9_52 k2_0 rfl dX9_ordersRest_123 ?_
          refine lv_iload hx hb dX9_ordersRest_126 (lv_at hl 4 rfl) ?_
          obtain ⟨hk32, h⟩ := fl_ck_e h
          refine fl_iald X hP k2_15 hk32 dX9_ordersRest_128 ?_
          refine lv_iload_n hx hb dX9_ordersRest_129 rfl (lv_at hl 3 rfl) ?_
          refine lv_icmp_lt (tgt := 193) hx hb dX9_ordersRest_130 (by decide) (fun c33 => ?_) (fun c33 => ?_)
          · replace h := fl_if_t h c33
            refine lv_aload_n hx hb dX9_ordersRest_193 rfl (lv_at hl 0 rfl) ?_
            refine fl_getr X hP fk_X9_49 k2_0 rfl dX9_ordersRest_194 ?_
            refine lv_iload hx hb dX9_ordersRest_197 (lv_at hl 4 rfl) ?_
            refine lv_iload hx hb dX9_ordersRest_199 (lv_at hl 6 rfl) ?_
            obtain ⟨hk34, h⟩ := fl_ck_e h
            obtain ⟨m35, em36, h⟩ := fl_lm_e h
            refine fl_iast X hP hS k2_14 hk34 dX9_ordersRest_201 (fun H locs hP hS => ?_)
            have hP : va_P D vwCl (fl_w L2 ca ad m35) H := by rw [em36]; exact hP
            refine lv_aload_n hx hb dX9_ordersRest_202 rfl (lv_at hl 0 rfl) ?_
            refine lv_iload hx hb dX9_ordersRest_203 (lv_at hl 5 rfl) ?_
            refine lv_iload hx hb dX9_ordersRest_205 (lv_at hl 5 rfl) ?_
            refine lv_bipush (v := (19 : Int32)) hx hb dX9_ordersRest_207 (by decide) ?_
            refine lv_iadd hx hb dX9_ordersRest_209 ?_
            obtain ⟨r37, m38, hz39, h⟩ := fl_bd_e h
            refine fl_callV (av := [.int x5, .int (x5 + (19 : Int32))]) X hP hS hl.1 mv_X9_193 (c_X9_copy l D ca ad hi N x5 (x5 + (19 : Int32)) m35 _ _ hz39) k2_0 (fl_fit_rm (by omega) (by decide)) rfl (Nat.le_of_ble_eq_true rfl) dX9_ordersRest_210 rfl (fun H locs hP hS => ?_)
            refine W.eq (g2 := F0 mm 213 ls []) rfl ?_
            refine lv_aload_n hx hb dX9_ordersRest_213 rfl (lv_at hl 0 rfl) ?_
            refine lv_iload hx hb dX9_ordersRest_214 (lv_at hl 5 rfl) ?_
            refine lv_bipush (v := (19 : Int32)) hx hb dX9_ordersRest_216 (by decide) ?_
            refine lv_iadd hx hb dX9_ordersRest_218 ?_
            refine lv_aload_n hx hb dX9_ordersRest_219 rfl (lv_at hl 0 rfl) ?_
            refine lv_iload hx hb dX9_ordersRest_220 (lv_at hl 5 rfl) ?_
            refine lv_bipush (v := (19 : Int32)) hx hb dX9_ordersRest_222 (by decide) ?_
            refine lv_iadd hx hb dX9_ordersRest_224 ?_
            refine lv_iload hx hb dX9_ordersRest_225 (lv_at hl 6 rfl) ?_
            obtain ⟨r40, m41, hz42, h⟩ := fl_bd_e h
            refine fl_callV (av := [.int (x5 + (19 : Int32)), .int x6]) X hP hS hl.1 mv_X9_211 (c_X9_soonestIn l D ca ad hi N (x5 + (19 : Int32)) x6 m38 _ _ hz42) k2_0 (fl_fit_rm (by omega) (by decide)) rfl (Nat.le_of_ble_eq_true rfl) dX9_ordersRest_227 rfl (fun H locs hP hS => ?_)
            refine W.eq (g2 := F0 mm 230 ls [.int r40, .int (x5 + (19 : Int32)), .ref (ad 0)]) rfl ?_
            refine lv_iload hx hb dX9_ordersRest_230 (lv_at hl 6 rfl) ?_
            obtain ⟨r43, m44, hz45, h⟩ := fl_bd_e h
            refine fl_callV (av := [.int (x5 + (19 : Int32)), .int r40, .int x6]) X hP hS hl.1 mv_X9_203 (c_X9_ridesAsOneDoes l D ca ad hi (x5 + (19 : Int32)) r40 x6 m41 _ _ hz45) k2_0 (fl_fit_rm (by omega) (by decide)) rfl (Nat.le_of_ble_eq_true rfl) dX9_ordersRest_232 rfl (fun H locs hP hS => ?_)
            refine W.eq (g2 := F0 mm 235 ls [.int r43]) rfl ?_
            refine lv_istore (lv' := [(7, .int r43), (0, .ref (ad 0)), (1, .int x1), (2, .int x2), (3, .int x3), (4, .int x4), (5, .int x5), (6, .int x6)]) hx hb dX9_ordersRest_235 hl (by decide) rfl (fun ls hl => ?_)
            refine lv_aload_n hx hb dX9_ordersRest_237 rfl (lv_at hl 1 rfl) ?_
            refine fl_getr X hP fk_X9_52 k2_0 rfl dX9_ordersRest_238 ?_
            refine lv_iload hx hb dX9_ordersRest_241 (lv_at hl 5 rfl) ?_
            refine lv_iconst (v := (1 : Int32)) hx hb dX9_ordersRest_243 (by decide) ?_
            refine lv_iadd hx hb dX9_ordersRest_244 ?_
            refine lv_aload_n hx hb dX9_ordersRest_245 rfl (lv_at hl 1 rfl) ?_
            refine fl_getr X hP fk_X9_52 k2_0 rfl dX9_ordersRest_246 ?_
            refine lv_iload hx hb dX9_ordersRest_249 (lv_at hl 5 rfl) ?_
            obtain ⟨hk46, h⟩ := fl_ck_e h
            refine fl_iald X hP k2_15 hk46 dX9_ordersRest_251 ?_
            refine lv_iload hx hb dX9_ordersRest_252 (lv_at hl 0 rfl) ?_
            refine lv_if_eq (tgt := 261) hx hb dX9_ordersRest_254 (by decide) (fun c47 => ?_) (fun c47 => ?_)
            · replace h := fl_if_t h c47
              refine lv_iconst (v := (0 : Int32)) hx hb dX9_ordersRest_261 (by decide) ?_
              exact j_262 _ _ _ _ _ _ _ _ _ _ _ h hP hS (lv_sub hl [1, 2, 3, 4, 5] rfl)
            · replace h := fl_if_f h c47
              refine lv_iconst (v := (1 : Int32)) hx hb dX9_ordersRest_257 (by decide) ?_
              refine lv_goto (tgt := 262) hx hb dX9_ordersRest_258 (by decide) ?_
              exact j_262 _ _ _ _ _ _ _ _ _ _ _ h hP hS (lv_sub hl [1, 2, 3, 4, 5] rfl)
          · replace h := fl_if_f h c33
            exact j_133 _ _ _ _ _ _ _ _ h hP hS (lv_sub hl [0, 1, 2, 3, 4] rfl)
    exact ⟨j_262, j_133, j_107⟩
  have key : ∀ n : Nat, (∀ (x1 : Int32) (x2 : Int32) (x3 : Int32) (x4 : Int32) (m : Mem) (H : Heap) (locs : List Loc) (ls : Array Slot), l_X9_ordersRest N n 1 x1 x2 x3 x4 0 0 0 m = some (v', M') → va_P D vwCl (fl_w L2 ca ad m) H → va_S (fl_A L2 ad) s.heap H locs → lv_has ls 8 [(0, .ref (ad 0)), (1, .int x1), (2, .int x2), (3, .int x3), (4, .int x4)] → W p l e (fl_rm 6) s mm args below meth c H locs 0 0 (MQ below (fl_Q L2 D ca ad (some (.int v')) M') args s 0 0 (fl_A L2 ad)) (F0 mm 38 ls [])) ∧ (∀ (x1 : Int32) (x2 : Int32) (x3 : Int32) (x4 : Int32) (x5 : Int32) (x6 : Int32) (m : Mem) (H : Heap) (locs : List Loc) (ls : Array Slot), l_X9_ordersRest N n 2 x1 x2 x3 x4 x5 x6 0 m = some (v', M') → va_P D vwCl (fl_w L2 ca ad m) H → va_S (fl_A L2 ad) s.heap H locs → lv_has ls 8 [(0, .ref (ad 0)), (1, .int x1), (2, .int x2), (3, .int x3), (4, .int x4), (5, .int x5), (6, .int x6)] → W p l e (fl_rm 6) s mm args below meth c H locs 0 0 (MQ below (fl_Q L2 D ca ad (some (.int v')) M') args s 0 0 (fl_A L2 ad)) (F0 mm 65 ls [])) ∧ (∀ (x1 : Int32) (x2 : Int32) (x3 : Int32) (x4 : Int32) (x7 : Int32) (m : Mem) (H : Heap) (locs : List Loc) (ls : Array Slot), l_X9_ordersRest N n 3 x1 x2 x3 x4 0 0 x7 m = some (v', M') → va_P D vwCl (fl_w L2 ca ad m) H → va_S (fl_A L2 ad) s.heap H locs → lv_has ls 8 [(0, .ref (ad 0)), (1, .int x1), (2, .int x2), (3, .int x3), (4, .int x4), (7, .int x7)] → W p l e (fl_rm 6) s mm args below meth c H locs 0 0 (MQ below (fl_Q L2 D ca ad (some (.int v')) M') args s 0 0 (fl_A L2 ad)) (F0 mm 161 ls [])) := by
    intro n
    induction n with
    | zero =>
      refine ⟨?_, ?_, ?_⟩
      · intro x1 x2 x3 x4 m H locs ls h hP hS hl
        have h : (none : Option (Int32 × Mem)) = some (v', M') := h
        cases h
      · intro x1 x2 x3 x4 x5 x6 m H locs ls h hP hS hl
        have h : (none : Option (Int32 × Mem)) = some (v', M') := h
        cases h
      · intro x1 x2 x3 x4 x7 m H locs ls h hP hS hl
        have h : (none : Option (Int32 × Mem)) = some (v', M') := h
        cases h
    | succ n ih =>
      obtain ⟨ih_38, ih_65, ih_161⟩ := ih
      obtain ⟨j_262, j_133, j_107⟩ := js n ⟨ih_38, ih_65, ih_161⟩
      refine ⟨?_, ?_, ?_⟩
      · intro x1 x2 x3 x4 m H locs ls h hP hS hl
        have h : B_X9_ordersRest_38 N (l_X9_ordersRest N n) x1 x2 x3 x4 m = some (v', M') := h
        unfold B_X9_ordersRest_38 at h
        refine lv_iload hx hb dX9_ordersRest_38 (lv_at hl 4 rfl) ?_
        refine lv_if_lt (tgt := 278) hx hb dX9_ordersRest_40 (by decide) (fun c14 => ?_) (fun c14 => ?_)
        · replace h := fl_if_t h c14
          refine lv_iload_n hx hb dX9_ordersRest_278 rfl (lv_at hl 3 rfl) ?_
          exact fl_iret X hr hlk hP hS dX9_ordersRest_279 h
        · replace h := fl_if_f h c14
          refine lv_sipush (v := (228 : Int32)) hx hb dX9_ordersRest_43 (by decide) ?_
          refine lv_bipush (v := (19 : Int32)) hx hb dX9_ordersRest_46 (by decide) ?_
          refine lv_iload hx hb dX9_ordersRest_48 (lv_at hl 4 rfl) ?_
          refine lv_imul hx hb dX9_ordersRest_50 ?_
          refine lv_iadd hx hb dX9_ordersRest_51 ?_
          obtain ⟨z15, ez16, h⟩ := fl_li_e h
          refine fl_topi ez16 ?_
          refine lv_istore (lv' := [(5, .int z15), (0, .ref (ad 0)), (1, .int x1), (2, .int x2), (3, .int x3), (4, .int x4)]) hx hb dX9_ordersRest_52 hl (by decide) rfl (fun ls hl => ?_)
          refine lv_aload_n hx hb dX9_ordersRest_54 rfl (lv_at hl 1 rfl) ?_
          refine fl_getr X hP fk_X9_49 k2_0 rfl dX9_ordersRest_55 ?_
          refine lv_iload hx hb dX9_ordersRest_58 (lv_at hl 5 rfl) ?_
          obtain ⟨hk17, h⟩ := fl_ck_e h
          refine fl_iald X hP k2_14 hk17 dX9_ordersRest_60 ?_
          refine lv_iconst (v := (1 : Int32)) hx hb dX9_ordersRest_61 (by decide) ?_
          refine lv_iadd hx hb dX9_ordersRest_62 ?_
          obtain ⟨z18, ez19, h⟩ := fl_li_e h
          refine fl_topi ez19 ?_
          refine lv_istore (lv' := [(6, .int z18), (5, .int z15), (0, .ref (ad 0)), (1, .int x1), (2, .int x2), (3, .int x3), (4, .int x4)]) hx hb dX9_ordersRest_63 hl (by decide) rfl (fun ls hl => ?_)
          exact ih_65 _ _ _ _ _ _ _ _ _ _ h hP hS (lv_sub hl [2, 3, 4, 5, 6, 1, 0] rfl)
      · intro x1 x2 x3 x4 x5 x6 m H locs ls h hP hS hl
        have h : B_X9_ordersRest_65 N (l_X9_ordersRest N n) x1 x2 x3 x4 x5 x6 m = some (v', M') := h
        unfold B_X9_ordersRest_65 at h
        refine lv_iload hx hb dX9_ordersRest_65 (lv_at hl 6 rfl) ?_
        refine lv_aload_n hx hb dX9_ordersRest_67 rfl (lv_at hl 0 rfl) ?_
        refine fl_geti X hP fk_X9_99 k2_0 rfl dX9_ordersRest_68 ?_
        refine lv_icmp_ge (tgt := 107) hx hb dX9_ordersRest_71 (by decide) (fun c20 => ?_) (fun c20 => ?_)
        · replace h := fl_if_t h c20
          exact j_107 _ _ _ _ _ _ _ _ _ _ h hP hS (lv_sub hl [0, 1, 2, 3, 4, 5, 6] rfl)
        · replace h := fl_if_f h c20
          refine lv_iload_n hx hb dX9_ordersRest_74 rfl (lv_at hl 1 rfl) ?_
          refine lv_iload hx hb dX9_ordersRest_75 (lv_at hl 6 rfl) ?_
          obtain ⟨r21, m22, hz23, h⟩ := fl_bd_e h
          refine fl_callS (av := [.int x1, .int x6]) X hP hS hl.1 ms_X9_197 (c_X9_has l D ca ad hi x1 x6 m _ _ hz23) (fl_fit_rm (by omega) (by decide)) rfl (Nat.le_of_ble_eq_true rfl) dX9_ordersRest_77 rfl (fun H locs hP hS => ?_)
          refine W.eq (g2 := F0 mm 80 ls [.int r21]) rfl ?_
          refine lv_if_eq (tgt := 101) hx hb dX9_ordersRest_80 (by decide) (fun c24 => ?_) (fun c24 => ?_)
          · replace h := fl_if_t h c24
            refine lv_iinc (v := x6 + 1) (lv' := [(6, .int (x6 + 1)), (0, .ref (ad 0)), (1, .int x1), (2, .int x2), (3, .int x3), (4, .int x4), (5, .int x5)]) hx hb dX9_ordersRest_101 hl (k := 6) rfl rfl (by decide) rfl (fun ls hl => ?_)
            refine lv_goto (tgt := 65) hx hb dX9_ordersRest_104 (by decide) ?_
            exact ih_65 _ _ _ _ _ _ _ _ _ _ h hP hS (lv_sub hl [1, 2, 3, 4, 5, 6, 0] rfl)
          · replace h := fl_if_f h c24
            refine lv_aload_n hx hb dX9_ordersRest_83 rfl (lv_at hl 0 rfl) ?_
            refine fl_getr X hP fk_X9_7 k2_0 rfl dX9_ordersRest_84 ?_
            refine lv_iload hx hb dX9_ordersRest_87 (lv_at hl 5 rfl) ?_
            refine lv_bipush (v := (10 : Int32)) hx hb dX9_ordersRest_89 (by decide) ?_
            refine lv_iadd hx hb dX9_ordersRest_91 ?_
            obtain ⟨hk25, h⟩ := fl_ck_e h
            refine fl_iald X hP k2_1 hk25 dX9_ordersRest_92 ?_
            refine lv_iload hx hb dX9_ordersRest_93 (lv_at hl 6 rfl) ?_
            obtain ⟨r26, m27, hz28, h⟩ := fl_bd_e h
            refine fl_callS (av := [.int (m22.1 1 ((x5 + (10 : Int32)).toNatClampNeg)), .int x6]) X hP hS hl.1 ms_X9_197 (c_X9_has l D ca ad hi (m22.1 1 ((x5 + (10 : Int32)).toNatClampNeg)) x6 m22 _ _ hz28) (fl_fit_rm (by omega) (by decide)) rfl (Nat.le_of_ble_eq_true rfl) dX9_ordersRest_95 rfl (fun H locs hP hS => ?_)
            refine W.eq (g2 := F0 mm 98 ls [.int r26]) rfl ?_
            refine lv_if_eq (tgt := 107) hx hb dX9_ordersRest_98 (by decide) (fun c29 => ?_) (fun c29 => ?_)
            · replace h := fl_if_t h c29
              exact j_107 _ _ _ _ _ _ _ _ _ _ h hP hS (lv_sub hl [0, 1, 2, 3, 4, 5, 6] rfl)
            · replace h := fl_if_f h c29
              refine lv_iinc (v := x6 + 1) (lv' := [(6, .int (x6 + 1)), (0, .ref (ad 0)), (1, .int x1), (2, .int x2), (3, .int x3), (4, .int x4), (5, .int x5)]) hx hb dX9_ordersRest_101 hl (k := 6) rfl rfl (by decide) rfl (fun ls hl => ?_)
              refine lv_goto (tgt := 65) hx hb dX9_ordersRest_104 (by decide) ?_
              exact ih_65 _ _ _ _ _ _ _ _ _ _ h hP hS (lv_sub hl [1, 2, 3, 4, 5, 6, 0] rfl)
      · intro x1 x2 x3 x4 x7 m H locs ls h hP hS hl
        have h : B_X9_ordersRest_161 N (l_X9_ordersRest N n) x1 x2 x3 x4 x7 m = some (v', M') := h
        unfold B_X9_ordersRest_161 at h
        refine lv_iload hx hb dX9_ordersRest_161 (lv_at hl 5 rfl) ?_
        refine lv_iload_n hx hb dX9_ordersRest_163 rfl (lv_at hl 2 rfl) ?_
        refine lv_icmp_ge (tgt := 187) hx hb dX9_ordersRest_164 (by decide) (fun c60 => ?_) (fun c60 => ?_)
        · replace h := fl_if_t h c60
          refine lv_iinc (v := x4 + (-1)) (lv' := [(4, .int (x4 + (-1))), (0, .ref (ad 0)), (1, .int x1), (2, .int x2), (3, .int x3), (7, .int x7)]) hx hb dX9_ordersRest_187 hl (k := 4) rfl rfl (by decide) rfl (fun ls hl => ?_)
          refine lv_goto (tgt := 275) hx hb dX9_ordersRest_190 (by decide) ?_
          refine lv_goto (tgt := 38) hx hb dX9_ordersRest_275 (by decide) ?_
          exact ih_38 _ _ _ _ _ _ _ _ h hP hS (lv_sub hl [1, 2, 3, 4, 0] rfl)
        · replace h := fl_if_f h c60
          refine lv_aload_n hx hb dX9_ordersRest_167 rfl (lv_at hl 0 rfl) ?_
          refine fl_getr X hP fk_X9_55 k2_0 rfl dX9_ordersRest_168 ?_
          refine lv_iload hx hb dX9_ordersRest_171 (lv_at hl 5 rfl) ?_
          refine lv_aload_n hx hb dX9_ordersRest_173 rfl (lv_at hl 0 rfl) ?_
          refine fl_getr X hP fk_X9_49 k2_0 rfl dX9_ordersRest_174 ?_
          refine lv_iload hx hb dX9_ordersRest_177 (lv_at hl 5 rfl) ?_
          obtain ⟨hk61, h⟩ := fl_ck_e h
          refine fl_iald X hP k2_14 hk61 dX9_ordersRest_179 ?_
          obtain ⟨hk62, h⟩ := fl_ck_e h
          obtain ⟨m63, em64, h⟩ := fl_lm_e h
          refine fl_iast X hP hS k2_16 hk62 dX9_ordersRest_180 (fun H locs hP hS => ?_)
          have hP : va_P D vwCl (fl_w L2 ca ad m63) H := by rw [em64]; exact hP
          refine lv_iinc (v := x7 + 1) (lv' := [(7, .int (x7 + 1)), (0, .ref (ad 0)), (1, .int x1), (2, .int x2), (3, .int x3), (4, .int x4)]) hx hb dX9_ordersRest_181 hl (k := 5) rfl rfl (by decide) rfl (fun ls hl => ?_)
          refine lv_goto (tgt := 161) hx hb dX9_ordersRest_184 (by decide) ?_
          exact ih_161 _ _ _ _ _ _ _ _ _ h hP hS (lv_sub hl [1, 2, 3, 4, 5, 0] rfl)
  obtain ⟨ih_38, ih_65, ih_161⟩ := key N
  obtain ⟨j_262, j_133, j_107⟩ := js N ⟨ih_38, ih_65, ih_161⟩
  refine lv_aload_n hx hb dX9_ordersRest_0 rfl (lv_at hl 0 rfl) ?_
  obtain ⟨r1, m2, hz3, h⟩ := fl_bd_e h
  refine fl_callV (av := []) X hP hS hl.1 mv_X9_214 (c_X9_rest l D ca ad hi  m _ _ hz3) k2_0 (fl_fit_rm (by omega) (by decide)) rfl (Nat.le_of_ble_eq_true rfl) dX9_ordersRest_1 rfl (fun H locs hP hS => ?_)
  refine W.eq (g2 := F0 mm 4 ls [.int r1]) rfl ?_
  refine lv_istore_n (lv' := [(1, .int r1), (0, .ref (ad 0))]) hx hb dX9_ordersRest_4 rfl hl (by decide) rfl (fun ls hl => ?_)
  refine lv_iload_n hx hb dX9_ordersRest_5 rfl (lv_at hl 0 rfl) ?_
  obtain ⟨r4, m5, hz6, h⟩ := fl_bd_e h
  refine fl_callS (av := [.int r1]) X hP hS hl.1 ms_X9_217 (c_X9_ones l D ca ad hi N r1 m2 _ _ hz6) (fl_fit_rm (by omega) (by decide)) rfl (Nat.le_of_ble_eq_true rfl) dX9_ordersRest_6 rfl (fun H locs hP hS => ?_)
  refine W.eq (g2 := F0 mm 9 ls [.int r4]) rfl ?_
  refine lv_istore_n (lv' := [(2, .int r4), (1, .int r1), (0, .ref (ad 0))]) hx hb dX9_ordersRest_9 rfl hl (by decide) rfl (fun ls hl => ?_)
  refine lv_ldc (v := (1000000 : Int32)) hx hb hown (hts _ wq_1014) dX9_ordersRest_10 ?_
  refine lv_istore_n (lv' := [(3, .int (1000000 : Int32)), (2, .int r4), (1, .int r1), (0, .ref (ad 0))]) hx hb dX9_ordersRest_12 rfl hl (by decide) rfl (fun ls hl => ?_)
  refine lv_iconst (v := (0 : Int32)) hx hb dX9_ordersRest_13 (by decide) ?_
  refine lv_istore (lv' := [(4, .int (0 : Int32)), (3, .int (1000000 : Int32)), (2, .int r4), (1, .int r1), (0, .ref (ad 0))]) hx hb dX9_ordersRest_14 hl (by decide) rfl (fun ls hl => ?_)
  refine lv_aload_n hx hb dX9_ordersRest_16 rfl (lv_at hl 4 rfl) ?_
  refine lv_iconst (v := (0 : Int32)) hx hb dX9_ordersRest_17 (by decide) ?_
  refine lv_sipush (v := (228 : Int32)) hx hb dX9_ordersRest_18 (by decide) ?_
  obtain ⟨r7, m8, hz9, h⟩ := fl_bd_e h
  refine fl_callV (av := [.int (0 : Int32), .int (228 : Int32)]) X hP hS hl.1 mv_X9_193 (c_X9_copy l D ca ad hi N (0 : Int32) (228 : Int32) m5 _ _ hz9) k2_0 (fl_fit_rm (by omega) (by decide)) rfl (Nat.le_of_ble_eq_true rfl) dX9_ordersRest_21 rfl (fun H locs hP hS => ?_)
  refine W.eq (g2 := F0 mm 24 ls []) rfl ?_
  refine lv_aload_n hx hb dX9_ordersRest_24 rfl (lv_at hl 4 rfl) ?_
  refine fl_getr X hP fk_X9_49 k2_0 rfl dX9_ordersRest_25 ?_
  refine lv_iconst (v := (0 : Int32)) hx hb dX9_ordersRest_28 (by decide) ?_
  refine lv_iconst (v := (-1 : Int32)) hx hb dX9_ordersRest_29 (by decide) ?_
  obtain ⟨m10, em11, h⟩ := fl_lm_e h
  refine fl_iast X hP hS k2_14 (by decide) dX9_ordersRest_30 (fun H locs hP hS => ?_)
  have hP : va_P D vwCl (fl_w L2 ca ad m10) H := by rw [em11]; exact hP
  refine lv_aload_n hx hb dX9_ordersRest_31 rfl (lv_at hl 4 rfl) ?_
  refine fl_getr X hP fk_X9_52 k2_0 rfl dX9_ordersRest_32 ?_
  refine lv_iconst (v := (0 : Int32)) hx hb dX9_ordersRest_35 (by decide) ?_
  refine lv_iconst (v := (0 : Int32)) hx hb dX9_ordersRest_36 (by decide) ?_
  obtain ⟨m12, em13, h⟩ := fl_lm_e h
  refine fl_iast X hP hS k2_15 (by decide) dX9_ordersRest_37 (fun H locs hP hS => ?_)
  have hP : va_P D vwCl (fl_w L2 ca ad m12) H := by rw [em13]; exact hP
  exact ih_38 _ _ _ _ _ _ _ _ h hP hS (lv_sub hl [4, 3, 2, 1, 0] rfl)

def f_X9_order (N : Nat) (x1 : Int32) (m : Mem) : Option (Int32 × Mem) :=
  fl_bd (f_X9_in x1.toInt64 (0 : Int64) (7 : Int64) m) (fun r1 m2 =>
    if r1 = 0 then (
      some ((-1 : Int32), m2))
    else (
      fl_bd (f_X9_ordersRest N  m2) (fun r5 m6 =>
        if x1 = 0 then (
          some (r5, m6))
        else (
          fl_bd (f_X9_rest  m6) (fun r9 m10 =>
            fl_bd (f_X9_ones N r9 m10) (fun r12 m13 =>
              if r12 < x1 then (
                some ((-4 : Int32), m13))
              else (
                fl_ck (0 ≤ (x1 - (1 : Int32)).toInt ∧ (x1 - (1 : Int32)).toInt < 7) (
                  some (m13.1 16 ((x1 - (1 : Int32)).toNatClampNeg), m13)))))))))
set_option maxHeartbeats 4000000 in
set_option maxRecDepth 100000 in
theorem c_X9_order (l : Launch) (D : va_G) (ca : Nat → ClassId) (ad : Nat → Nat) (hi : fl_inj L2 ad) (N : Nat) (x1 : Int32) (m : Mem) (v' : Int32) (M' : Mem) (h : f_X9_order N x1 m = some (v', M')) : fl_M l L2 D ca ad yX9_order cX9_order 3 (some .int) 7 [.ref (ad 0), .int x1] m (some (.int v')) M' := by
  unfold f_X9_order at h
  refine fl_ofW (by decide) hi (Nat.le_of_ble_eq_true rfl) ?_
  intro p e s mm args below meth c ls X hr hlk hP hl
  have hl : lv_has ls 3 [(0, .ref (ad 0)), (1, .int x1)] := hl
  have X : fl_X p s mm args c cX9_order 3 RX9 L2 D ca ad := X
  obtain ⟨hx, hb, hml, hown, hts, hE, -⟩ := id X
  have hS : va_S (fl_A L2 ad) s.heap s.heap [] := va_S.rf
  refine lv_iload_n hx hb dX9_order_0 rfl (lv_at hl 1 rfl) ?_
  refine lv_i2l (v := x1.toInt64) hx hb dX9_order_1 rfl ?_
  refine lv_lconst (v := (0 : Int64)) hx hb dX9_order_2 (by decide) ?_
  refine lv_ldc2 (v := (7 : Int64)) hx hb hown (hts _ wq_1002) dX9_order_3 ?_
  obtain ⟨r1, m2, hz3, h⟩ := fl_bd_e h
  refine fl_callS (av := [.long x1.toInt64, .long (0 : Int64), .long (7 : Int64)]) X hP hS hl.1 ms_X9_92 (c_X9_in l D ca ad hi x1.toInt64 (0 : Int64) (7 : Int64) m _ _ hz3) (fl_fit_rm (by omega) (by decide)) rfl (Nat.le_of_ble_eq_true rfl) dX9_order_6 rfl (fun H locs hP hS => ?_)
  refine W.eq (g2 := F0 mm 9 ls [.int r1]) rfl ?_
  refine lv_if_ne (tgt := 14) hx hb dX9_order_9 (by decide) (fun c4 => ?_) (fun c4 => ?_)
  · replace h := fl_if_f h c4
    refine lv_aload_n hx hb dX9_order_14 rfl (lv_at hl 0 rfl) ?_
    obtain ⟨r5, m6, hz7, h⟩ := fl_bd_e h
    refine fl_callV (av := []) X hP hS hl.1 mv_X9_223 (c_X9_ordersRest l D ca ad hi N  m2 _ _ hz7) k2_0 (fl_fit_rm (by omega) (by decide)) rfl (Nat.le_of_ble_eq_true rfl) dX9_order_15 rfl (fun H locs hP hS => ?_)
    refine W.eq (g2 := F0 mm 18 ls [.int r5]) rfl ?_
    refine lv_istore_n (lv' := [(2, .int r5), (0, .ref (ad 0)), (1, .int x1)]) hx hb dX9_order_18 rfl hl (by decide) rfl (fun ls hl => ?_)
    refine lv_iload_n hx hb dX9_order_19 rfl (lv_at hl 2 rfl) ?_
    refine lv_if_ne (tgt := 27) hx hb dX9_order_20 (by decide) (fun c8 => ?_) (fun c8 => ?_)
    · replace h := fl_if_f h c8
      refine lv_iload_n hx hb dX9_order_27 rfl (lv_at hl 2 rfl) ?_
      refine lv_aload_n hx hb dX9_order_28 rfl (lv_at hl 1 rfl) ?_
      obtain ⟨r9, m10, hz11, h⟩ := fl_bd_e h
      refine fl_callV (av := []) X hP hS hl.1 mv_X9_214 (c_X9_rest l D ca ad hi  m6 _ _ hz11) k2_0 (fl_fit_rm (by omega) (by decide)) rfl (Nat.le_of_ble_eq_true rfl) dX9_order_29 rfl (fun H locs hP hS => ?_)
      refine W.eq (g2 := F0 mm 32 ls [.int r9, .int x1]) rfl ?_
      obtain ⟨r12, m13, hz14, h⟩ := fl_bd_e h
      refine fl_callS (av := [.int r9]) X hP hS hl.1 ms_X9_217 (c_X9_ones l D ca ad hi N r9 m10 _ _ hz14) (fl_fit_rm (by omega) (by decide)) rfl (Nat.le_of_ble_eq_true rfl) dX9_order_32 rfl (fun H locs hP hS => ?_)
      refine W.eq (g2 := F0 mm 35 ls [.int r12, .int x1]) rfl ?_
      refine lv_icmp_gt (tgt := 49) hx hb dX9_order_35 (by decide) (fun c15 => ?_) (fun c15 => ?_)
      · replace h := fl_if_t h c15
        refine lv_bipush (v := (-4 : Int32)) hx hb dX9_order_49 (by decide) ?_
        exact fl_iret X hr hlk hP hS dX9_order_51 h
      · replace h := fl_if_f h c15
        refine lv_aload_n hx hb dX9_order_38 rfl (lv_at hl 1 rfl) ?_
        refine fl_getr X hP fk_X9_55 k2_0 rfl dX9_order_39 ?_
        refine lv_iload_n hx hb dX9_order_42 rfl (lv_at hl 2 rfl) ?_
        refine lv_iconst (v := (1 : Int32)) hx hb dX9_order_43 (by decide) ?_
        refine lv_isub hx hb dX9_order_44 ?_
        obtain ⟨hk16, h⟩ := fl_ck_e h
        refine fl_iald X hP k2_16 hk16 dX9_order_45 ?_
        refine lv_goto (tgt := 51) hx hb dX9_order_46 (by decide) ?_
        exact fl_iret X hr hlk hP hS dX9_order_51 h
    · replace h := fl_if_t h c8
      refine lv_iload_n hx hb dX9_order_23 rfl (lv_at hl 0 rfl) ?_
      refine lv_goto (tgt := 51) hx hb dX9_order_24 (by decide) ?_
      exact fl_iret X hr hlk hP hS dX9_order_51 h
  · replace h := fl_if_t h c4
    refine lv_iconst (v := (-1 : Int32)) hx hb dX9_order_12 (by decide) ?_
    exact fl_iret X hr hlk hP hS dX9_order_13 h

def J_X9_waiting_115 (N : Nat) (F : Nat → Int32 → Int32 → Int32 → Int32 → Int32 → Int32 → Int32 → Mem → Option (Int32 × Mem)) (x1 : Int32) (x2 : Int32) (x4 : Int32) (x5 : Int32) (x6 : Int32) (t0 : Int32) (m : Mem) : Option (Int32 × Mem) :=
  if x4 ≤ x6 then (
    F 1 x1 x2 t0 x4 (x5 + 1) 0 0 m)
  else (
    F 1 x1 x2 t0 x6 (x5 + 1) 0 0 m)
def B_X9_waiting_57 (N : Nat) (F : Nat → Int32 → Int32 → Int32 → Int32 → Int32 → Int32 → Int32 → Mem → Option (Int32 × Mem)) (x1 : Int32) (x2 : Int32) (x3 : Int32) (x4 : Int32) (x5 : Int32) (x6 : Int32) (x7 : Int32) (m : Mem) : Option (Int32 × Mem) :=
  if (m.1 0 7) ≤ x7 then (
    if x4 ≤ x6 then (
      J_X9_waiting_115 N F x1 x2 x4 x5 x6 x3 m)
    else (
      J_X9_waiting_115 N F x1 x2 x4 x5 x6 x5 m))
  else (
    fl_bd (f_X9_rest  m) (fun r22 m23 =>
      fl_bd (f_X9_has r22 x7 m23) (fun r25 m26 =>
        if r25 = 0 then (
          fl_li (x6 + (0 : Int32)) (fun z29 =>
            F 2 x1 x2 x3 x4 x5 z29 (x7 + 1) m26))
        else (
          fl_bd (f_X9_lateBy (19 : Int32) x1 x7 m26) (fun r31 m32 =>
            fl_li (x6 + r31) (fun z34 =>
              F 2 x1 x2 x3 x4 x5 z34 (x7 + 1) m32))))))
def B_X9_waiting_29 (N : Nat) (F : Nat → Int32 → Int32 → Int32 → Int32 → Int32 → Int32 → Int32 → Mem → Option (Int32 × Mem)) (x1 : Int32) (x2 : Int32) (x3 : Int32) (x4 : Int32) (x5 : Int32) (m : Mem) : Option (Int32 × Mem) :=
  fl_bd (f_X9_places  m) (fun r9 m10 =>
    if r9 ≤ x5 then (
      if x2 = 0 then (
        some (x3, m10))
      else (
        some (x4, m10)))
    else (
      fl_bd (f_X9_tries N  m10) (fun r14 m15 =>
        fl_bd (f_X9_sends (19 : Int32) x1 x5 m15) (fun r17 m18 =>
          F 2 x1 x2 x3 x4 x5 (0 : Int32) (0 : Int32) m18))))
def l_X9_waiting (N : Nat) : Nat → Nat → Int32 → Int32 → Int32 → Int32 → Int32 → Int32 → Int32 → Mem → Option (Int32 × Mem)
  | 0 => fun _ _ _ _ _ _ _ _ _ => none
  | n + 1 => fun lab x1 x2 x3 x4 x5 x6 x7 m => if lab = 1 then B_X9_waiting_29 N (l_X9_waiting N n) x1 x2 x3 x4 x5 m else if lab = 2 then B_X9_waiting_57 N (l_X9_waiting N n) x1 x2 x3 x4 x5 x6 x7 m else none
def f_X9_waiting (N : Nat) (x1 : Int32) (x2 : Int32) (m : Mem) : Option (Int32 × Mem) :=
  fl_bd (f_X9_isCab x1 m) (fun r1 m2 =>
    if r1 = 0 then (
      some ((-1 : Int32), m2))
    else (
      fl_bd (f_X9_in x2.toInt64 (0 : Int64) (1 : Int64) m2) (fun r5 m6 =>
        if r5 = 0 then (
          some ((-1 : Int32), m6))
        else (
          (l_X9_waiting N N) 1 x1 x2 (0 : Int32) (1000000 : Int32) (0 : Int32) 0 0 m6))))
set_option maxHeartbeats 4000000 in
set_option maxRecDepth 100000 in
theorem c_X9_waiting (l : Launch) (D : va_G) (ca : Nat → ClassId) (ad : Nat → Nat) (hi : fl_inj L2 ad) (N : Nat) (x1 : Int32) (x2 : Int32) (m : Mem) (v' : Int32) (M' : Mem) (h : f_X9_waiting N x1 x2 m = some (v', M')) : fl_M l L2 D ca ad yX9_waiting cX9_waiting 8 (some .int) 5 [.ref (ad 0), .int x1, .int x2] m (some (.int v')) M' := by
  unfold f_X9_waiting at h
  refine fl_ofW (by decide) hi (Nat.le_of_ble_eq_true rfl) ?_
  intro p e s mm args below meth c ls X hr hlk hP hl
  have hl : lv_has ls 8 [(0, .ref (ad 0)), (1, .int x1), (2, .int x2)] := hl
  have X : fl_X p s mm args c cX9_waiting 8 RX9 L2 D ca ad := X
  obtain ⟨hx, hb, hml, hown, hts, hE, -⟩ := id X
  have hS : va_S (fl_A L2 ad) s.heap s.heap [] := va_S.rf
  have js : ∀ n : Nat, ((∀ (x1 : Int32) (x2 : Int32) (x3 : Int32) (x4 : Int32) (x5 : Int32) (m : Mem) (H : Heap) (locs : List Loc) (ls : Array Slot), l_X9_waiting N n 1 x1 x2 x3 x4 x5 0 0 m = some (v', M') → va_P D vwCl (fl_w L2 ca ad m) H → va_S (fl_A L2 ad) s.heap H locs → lv_has ls 8 [(0, .ref (ad 0)), (1, .int x1), (2, .int x2), (3, .int x3), (4, .int x4), (5, .int x5)] → W p l e (fl_rm 5) s mm args below meth c H locs 0 0 (MQ below (fl_Q L2 D ca ad (some (.int v')) M') args s 0 0 (fl_A L2 ad)) (F0 mm 29 ls [])) ∧ (∀ (x1 : Int32) (x2 : Int32) (x3 : Int32) (x4 : Int32) (x5 : Int32) (x6 : Int32) (x7 : Int32) (m : Mem) (H : Heap) (locs : List Loc) (ls : Array Slot), l_X9_waiting N n 2 x1 x2 x3 x4 x5 x6 x7 m = some (v', M') → va_P D vwCl (fl_w L2 ca ad m) H → va_S (fl_A L2 ad) s.heap H locs → lv_has ls 8 [(0, .ref (ad 0)), (1, .int x1), (2, .int x2), (3, .int x3), (4, .int x4), (5, .int x5), (6, .int x6), (7, .int x7)] → W p l e (fl_rm 5) s mm args below meth c H locs 0 0 (MQ below (fl_Q L2 D ca ad (some (.int v')) M') args s 0 0 (fl_A L2 ad)) (F0 mm 57 ls []))) → (∀ (x1 : Int32) (x2 : Int32) (x4 : Int32) (x5 : Int32) (x6 : Int32) (t0 : Int32) (m : Mem) (H : Heap) (locs : List Loc) (ls : Array Slot), J_X9_waiting_115 N (l_X9_waiting N n) x1 x2 x4 x5 x6 t0 m = some (v', M') → va_P D vwCl (fl_w L2 ca ad m) H → va_S (fl_A L2 ad) s.heap H locs → lv_has ls 8 [(0, .ref (ad 0)), (1, .int x1), (2, .int x2), (4, .int x4), (5, .int x5), (6, .int x6)] → W p l e (fl_rm 5) s mm args below meth c H locs 0 0 (MQ below (fl_Q L2 D ca ad (some (.int v')) M') args s 0 0 (fl_A L2 ad)) (F0 mm 115 ls [.int t0])) := by
    intro n ih
    obtain ⟨ih_29, ih_57⟩ := ih
    have j_115 : ∀ (x1 : Int32) (x2 : Int32) (x4 : Int32) (x5 : Int32) (x6 : Int32) (t0 : Int32) (m : Mem) (H : Heap) (locs : List Loc) (ls : Array Slot), J_X9_waiting_115 N (l_X9_waiting N n) x1 x2 x4 x5 x6 t0 m = some (v', M') → va_P D vwCl (fl_w L2 ca ad m) H → va_S (fl_A L2 ad) s.heap H locs → lv_has ls 8 [(0, .ref (ad 0)), (1, .int x1), (2, .int x2), (4, .int x4), (5, .int x5), (6, .int x6)] → W p l e (fl_rm 5) s mm args below meth c H locs 0 0 (MQ below (fl_Q L2 D ca ad (some (.int v')) M') args s 0 0 (fl_A L2 ad)) (F0 mm 115 ls [.int t0]) := by
      intro x1 x2 x4 x5 x6 t0 m H locs ls h hP hS hl
      unfold J_X9_waiting_115 at h
      refine lv_istore_n (lv' := [(3, .int t0), (0, .ref (ad 0)), (1, .int x1), (2, .int x2), (4, .int x4), (5, .int x5), (6, .int x6)]) hx hb dX9_waiting_115 rfl hl (by decide) rfl (fun ls hl => ?_)
      refine lv_iload hx hb dX9_waiting_116 (lv_at hl 6 rfl) ?_
      refine lv_iload hx hb dX9_waiting_118 (lv_at hl 4 rfl) ?_
      refine lv_icmp_ge (tgt := 128) hx hb dX9_waiting_120 (by decide) (fun c36 => ?_) (fun c36 => ?_)
      · replace h := fl_if_t h c36
        refine lv_iload hx hb dX9_waiting_128 (lv_at hl 4 rfl) ?_
        refine lv_istore (lv' := [(4, .int x4), (3, .int t0), (0, .ref (ad 0)), (1, .int x1), (2, .int x2), (5, .int x5), (6, .int x6)]) hx hb dX9_waiting_130 hl (by decide) rfl (fun ls hl => ?_)
        refine lv_iinc (v := x5 + 1) (lv' := [(5, .int (x5 + 1)), (4, .int x4), (3, .int t0), (0, .ref (ad 0)), (1, .int x1), (2, .int x2), (6, .int x6)]) hx hb dX9_waiting_132 hl (k := 5) rfl rfl (by decide) rfl (fun ls hl => ?_)
        refine lv_goto (tgt := 29) hx hb dX9_waiting_135 (by decide) ?_
        exact ih_29 _ _ _ _ _ _ _ _ _ h hP hS (lv_sub hl [3, 4, 5, 2, 1, 0] rfl)
      · replace h := fl_if_f h c36
        refine lv_iload hx hb dX9_waiting_123 (lv_at hl 6 rfl) ?_
        refine lv_goto (tgt := 130) hx hb dX9_waiting_125 (by decide) ?_
        refine lv_istore (lv' := [(4, .int x6), (3, .int t0), (0, .ref (ad 0)), (1, .int x1), (2, .int x2), (5, .int x5), (6, .int x6)]) hx hb dX9_waiting_130 hl (by decide) rfl (fun ls hl => ?_)
        refine lv_iinc (v := x5 + 1) (lv' := [(5, .int (x5 + 1)), (4, .int x6), (3, .int t0), (0, .ref (ad 0)), (1, .int x1), (2, .int x2), (6, .int x6)]) hx hb dX9_waiting_132 hl (k := 5) rfl rfl (by decide) rfl (fun ls hl => ?_)
        refine lv_goto (tgt := 29) hx hb dX9_waiting_135 (by decide) ?_
        exact ih_29 _ _ _ _ _ _ _ _ _ h hP hS (lv_sub hl [3, 4, 5, 2, 1, 0] rfl)
    exact j_115
  have key : ∀ n : Nat, (∀ (x1 : Int32) (x2 : Int32) (x3 : Int32) (x4 : Int32) (x5 : Int32) (m : Mem) (H : Heap) (locs : List Loc) (ls : Array Slot), l_X9_waiting N n 1 x1 x2 x3 x4 x5 0 0 m = some (v', M') → va_P D vwCl (fl_w L2 ca ad m) H → va_S (fl_A L2 ad) s.heap H locs → lv_has ls 8 [(0, .ref (ad 0)), (1, .int x1), (2, .int x2), (3, .int x3), (4, .int x4), (5, .int x5)] → W p l e (fl_rm 5) s mm args below meth c H locs 0 0 (MQ below (fl_Q L2 D ca ad (some (.int v')) M') args s 0 0 (fl_A L2 ad)) (F0 mm 29 ls [])) ∧ (∀ (x1 : Int32) (x2 : Int32) (x3 : Int32) (x4 : Int32) (x5 : Int32) (x6 : Int32) (x7 : Int32) (m : Mem) (H : Heap) (locs : List Loc) (ls : Array Slot), l_X9_waiting N n 2 x1 x2 x3 x4 x5 x6 x7 m = some (v', M') → va_P D vwCl (fl_w L2 ca ad m) H → va_S (fl_A L2 ad) s.heap H locs → lv_has ls 8 [(0, .ref (ad 0)), (1, .int x1), (2, .int x2), (3, .int x3), (4, .int x4), (5, .int x5), (6, .int x6), (7, .int x7)] → W p l e (fl_rm 5) s mm args below meth c H locs 0 0 (MQ below (fl_Q L2 D ca ad (some (.int v')) M') args s 0 0 (fl_A L2 ad)) (F0 mm 57 ls [])) := by
    intro n
    induction n with
    | zero =>
      refine ⟨?_, ?_⟩
      · intro x1 x2 x3 x4 x5 m H locs ls h hP hS hl
        have h : (none : Option (Int32 × Mem)) = some (v', M') := h
        cases h
      · intro x1 x2 x3 x4 x5 x6 x7 m H locs ls h hP hS hl
        have h : (none : Option (Int32 × Mem)) = some (v', M') := h
        cases h
    | succ n ih =>
      obtain ⟨ih_29, ih_57⟩ := ih
      have j_115 := js n ⟨ih_29, ih_57⟩
      refine ⟨?_, ?_⟩
      · intro x1 x2 x3 x4 x5 m H locs ls h hP hS hl
        have h : B_X9_waiting_29 N (l_X9_waiting N n) x1 x2 x3 x4 x5 m = some (v', M') := h
        unfold B_X9_waiting_29 at h
        refine lv_iload hx hb dX9_waiting_29 (lv_at hl 5 rfl) ?_
        refine lv_aload_n hx hb dX9_waiting_31 rfl (lv_at hl 0 rfl) ?_
        obtain ⟨r9, m10, hz11, h⟩ := fl_bd_e h
        refine fl_callV (av := []) X hP hS hl.1 mv_X9_88 (c_X9_places l D ca ad hi  m _ _ hz11) k2_0 (fl_fit_rm (by omega) (by decide)) rfl (Nat.le_of_ble_eq_true rfl) dX9_waiting_32 rfl (fun H locs hP hS => ?_)
        refine W.eq (g2 := F0 mm 35 ls [.int r9, .int x5]) rfl ?_
        refine lv_icmp_ge (tgt := 138) hx hb dX9_waiting_35 (by decide) (fun c12 => ?_) (fun c12 => ?_)
        · replace h := fl_if_t h c12
          refine lv_iload_n hx hb dX9_waiting_138 rfl (lv_at hl 2 rfl) ?_
          refine lv_if_ne (tgt := 146) hx hb dX9_waiting_139 (by decide) (fun c13 => ?_) (fun c13 => ?_)
          · replace h := fl_if_f h c13
            refine lv_iload hx hb dX9_waiting_146 (lv_at hl 4 rfl) ?_
            exact fl_iret X hr hlk hP hS dX9_waiting_148 h
          · replace h := fl_if_t h c13
            refine lv_iload_n hx hb dX9_waiting_142 rfl (lv_at hl 3 rfl) ?_
            refine lv_goto (tgt := 148) hx hb dX9_waiting_143 (by decide) ?_
            exact fl_iret X hr hlk hP hS dX9_waiting_148 h
        · replace h := fl_if_f h c12
          refine lv_aload_n hx hb dX9_waiting_38 rfl (lv_at hl 0 rfl) ?_
          obtain ⟨r14, m15, hz16, h⟩ := fl_bd_e h
          refine fl_callV (av := []) X hP hS hl.1 mv_X9_226 (c_X9_tries l D ca ad hi N  m10 _ _ hz16) k2_0 (fl_fit_rm (by omega) (by decide)) rfl (Nat.le_of_ble_eq_true rfl) dX9_waiting_39 rfl (fun H locs hP hS => ?_)
          refine W.eq (g2 := F0 mm 42 ls []) rfl ?_
          refine lv_aload_n hx hb dX9_waiting_42 rfl (lv_at hl 0 rfl) ?_
          refine lv_bipush (v := (19 : Int32)) hx hb dX9_waiting_43 (by decide) ?_
          refine lv_iload_n hx hb dX9_waiting_45 rfl (lv_at hl 1 rfl) ?_
          refine lv_iload hx hb dX9_waiting_46 (lv_at hl 5 rfl) ?_
          obtain ⟨r17, m18, hz19, h⟩ := fl_bd_e h
          refine fl_callV (av := [.int (19 : Int32), .int x1, .int x5]) X hP hS hl.1 mv_X9_206 (c_X9_sends l D ca ad hi (19 : Int32) x1 x5 m15 _ _ hz19) k2_0 (fl_fit_rm (by omega) (by decide)) rfl (Nat.le_of_ble_eq_true rfl) dX9_waiting_48 rfl (fun H locs hP hS => ?_)
          refine W.eq (g2 := F0 mm 51 ls []) rfl ?_
          refine lv_iconst (v := (0 : Int32)) hx hb dX9_waiting_51 (by decide) ?_
          refine lv_istore (lv' := [(6, .int (0 : Int32)), (0, .ref (ad 0)), (1, .int x1), (2, .int x2), (3, .int x3), (4, .int x4), (5, .int x5)]) hx hb dX9_waiting_52 hl (by decide) rfl (fun ls hl => ?_)
          refine lv_iconst (v := (0 : Int32)) hx hb dX9_waiting_54 (by decide) ?_
          refine lv_istore (lv' := [(7, .int (0 : Int32)), (6, .int (0 : Int32)), (0, .ref (ad 0)), (1, .int x1), (2, .int x2), (3, .int x3), (4, .int x4), (5, .int x5)]) hx hb dX9_waiting_55 hl (by decide) rfl (fun ls hl => ?_)
          exact ih_57 _ _ _ _ _ _ _ _ _ _ _ h hP hS (lv_sub hl [2, 3, 4, 5, 6, 7, 1, 0] rfl)
      · intro x1 x2 x3 x4 x5 x6 x7 m H locs ls h hP hS hl
        have h : B_X9_waiting_57 N (l_X9_waiting N n) x1 x2 x3 x4 x5 x6 x7 m = some (v', M') := h
        unfold B_X9_waiting_57 at h
        refine lv_iload hx hb dX9_waiting_57 (lv_at hl 7 rfl) ?_
        refine lv_aload_n hx hb dX9_waiting_59 rfl (lv_at hl 0 rfl) ?_
        refine fl_geti X hP fk_X9_99 k2_0 rfl dX9_waiting_60 ?_
        refine lv_icmp_ge (tgt := 102) hx hb dX9_waiting_63 (by decide) (fun c20 => ?_) (fun c20 => ?_)
        · replace h := fl_if_t h c20
          refine lv_iload hx hb dX9_waiting_102 (lv_at hl 6 rfl) ?_
          refine lv_iload hx hb dX9_waiting_104 (lv_at hl 4 rfl) ?_
          refine lv_icmp_ge (tgt := 114) hx hb dX9_waiting_106 (by decide) (fun c21 => ?_) (fun c21 => ?_)
          · replace h := fl_if_t h c21
            refine lv_iload_n hx hb dX9_waiting_114 rfl (lv_at hl 3 rfl) ?_
            exact j_115 _ _ _ _ _ _ _ _ _ _ h hP hS (lv_sub hl [0, 1, 2, 4, 5, 6] rfl)
          · replace h := fl_if_f h c21
            refine lv_iload hx hb dX9_waiting_109 (lv_at hl 5 rfl) ?_
            refine lv_goto (tgt := 115) hx hb dX9_waiting_111 (by decide) ?_
            exact j_115 _ _ _ _ _ _ _ _ _ _ h hP hS (lv_sub hl [0, 1, 2, 4, 5, 6] rfl)
        · replace h := fl_if_f h c20
          refine lv_iload hx hb dX9_waiting_66 (lv_at hl 6 rfl) ?_
          refine lv_aload_n hx hb dX9_waiting_68 rfl (lv_at hl 0 rfl) ?_
          obtain ⟨r22, m23, hz24, h⟩ := fl_bd_e h
          refine fl_callV (av := []) X hP hS hl.1 mv_X9_214 (c_X9_rest l D ca ad hi  m _ _ hz24) k2_0 (fl_fit_rm (by omega) (by decide)) rfl (Nat.le_of_ble_eq_true rfl) dX9_waiting_69 rfl (fun H locs hP hS => ?_)
          refine W.eq (g2 := F0 mm 72 ls [.int r22, .int x6]) rfl ?_
          refine lv_iload hx hb dX9_waiting_72 (lv_at hl 7 rfl) ?_
          obtain ⟨r25, m26, hz27, h⟩ := fl_bd_e h
          refine fl_callS (av := [.int r22, .int x7]) X hP hS hl.1 ms_X9_197 (c_X9_has l D ca ad hi r22 x7 m23 _ _ hz27) (fl_fit_rm (by omega) (by decide)) rfl (Nat.le_of_ble_eq_true rfl) dX9_waiting_74 rfl (fun H locs hP hS => ?_)
          refine W.eq (g2 := F0 mm 77 ls [.int r25, .int x6]) rfl ?_
          refine lv_if_eq (tgt := 92) hx hb dX9_waiting_77 (by decide) (fun c28 => ?_) (fun c28 => ?_)
          · replace h := fl_if_t h c28
            refine lv_iconst (v := (0 : Int32)) hx hb dX9_waiting_92 (by decide) ?_
            refine lv_iadd hx hb dX9_waiting_93 ?_
            obtain ⟨z29, ez30, h⟩ := fl_li_e h
            refine fl_topi ez30 ?_
            refine lv_istore (lv' := [(6, .int z29), (0, .ref (ad 0)), (1, .int x1), (2, .int x2), (3, .int x3), (4, .int x4), (5, .int x5), (7, .int x7)]) hx hb dX9_waiting_94 hl (by decide) rfl (fun ls hl => ?_)
            refine lv_iinc (v := x7 + 1) (lv' := [(7, .int (x7 + 1)), (6, .int z29), (0, .ref (ad 0)), (1, .int x1), (2, .int x2), (3, .int x3), (4, .int x4), (5, .int x5)]) hx hb dX9_waiting_96 hl (k := 7) rfl rfl (by decide) rfl (fun ls hl => ?_)
            refine lv_goto (tgt := 57) hx hb dX9_waiting_99 (by decide) ?_
            exact ih_57 _ _ _ _ _ _ _ _ _ _ _ h hP hS (lv_sub hl [2, 3, 4, 5, 6, 7, 1, 0] rfl)
          · replace h := fl_if_f h c28
            refine lv_aload_n hx hb dX9_waiting_80 rfl (lv_at hl 0 rfl) ?_
            refine lv_bipush (v := (19 : Int32)) hx hb dX9_waiting_81 (by decide) ?_
            refine lv_iload_n hx hb dX9_waiting_83 rfl (lv_at hl 1 rfl) ?_
            refine lv_iload hx hb dX9_waiting_84 (lv_at hl 7 rfl) ?_
            obtain ⟨r31, m32, hz33, h⟩ := fl_bd_e h
            refine fl_callV (av := [.int (19 : Int32), .int x1, .int x7]) X hP hS hl.1 mv_X9_182 (c_X9_lateBy l D ca ad hi (19 : Int32) x1 x7 m26 _ _ hz33) k2_0 (fl_fit_rm (by omega) (by decide)) rfl (Nat.le_of_ble_eq_true rfl) dX9_waiting_86 rfl (fun H locs hP hS => ?_)
            refine W.eq (g2 := F0 mm 89 ls [.int r31, .int x6]) rfl ?_
            refine lv_goto (tgt := 93) hx hb dX9_waiting_89 (by decide) ?_
            refine lv_iadd hx hb dX9_waiting_93 ?_
            obtain ⟨z34, ez35, h⟩ := fl_li_e h
            refine fl_topi ez35 ?_
            refine lv_istore (lv' := [(6, .int z34), (0, .ref (ad 0)), (1, .int x1), (2, .int x2), (3, .int x3), (4, .int x4), (5, .int x5), (7, .int x7)]) hx hb dX9_waiting_94 hl (by decide) rfl (fun ls hl => ?_)
            refine lv_iinc (v := x7 + 1) (lv' := [(7, .int (x7 + 1)), (6, .int z34), (0, .ref (ad 0)), (1, .int x1), (2, .int x2), (3, .int x3), (4, .int x4), (5, .int x5)]) hx hb dX9_waiting_96 hl (k := 7) rfl rfl (by decide) rfl (fun ls hl => ?_)
            refine lv_goto (tgt := 57) hx hb dX9_waiting_99 (by decide) ?_
            exact ih_57 _ _ _ _ _ _ _ _ _ _ _ h hP hS (lv_sub hl [2, 3, 4, 5, 6, 7, 1, 0] rfl)
  obtain ⟨ih_29, ih_57⟩ := key N
  have j_115 := js N ⟨ih_29, ih_57⟩
  refine lv_aload_n hx hb dX9_waiting_0 rfl (lv_at hl 0 rfl) ?_
  refine lv_iload_n hx hb dX9_waiting_1 rfl (lv_at hl 1 rfl) ?_
  obtain ⟨r1, m2, hz3, h⟩ := fl_bd_e h
  refine fl_callV (av := [.int x1]) X hP hS hl.1 mv_X9_166 (c_X9_isCab l D ca ad hi x1 m _ _ hz3) k2_0 (fl_fit_rm (by omega) (by decide)) rfl (Nat.le_of_ble_eq_true rfl) dX9_waiting_2 rfl (fun H locs hP hS => ?_)
  refine W.eq (g2 := F0 mm 5 ls [.int r1]) rfl ?_
  refine lv_if_eq (tgt := 18) hx hb dX9_waiting_5 (by decide) (fun c4 => ?_) (fun c4 => ?_)
  · replace h := fl_if_t h c4
    refine lv_iconst (v := (-1 : Int32)) hx hb dX9_waiting_18 (by decide) ?_
    exact fl_iret X hr hlk hP hS dX9_waiting_19 h
  · replace h := fl_if_f h c4
    refine lv_iload_n hx hb dX9_waiting_8 rfl (lv_at hl 2 rfl) ?_
    refine lv_i2l (v := x2.toInt64) hx hb dX9_waiting_9 rfl ?_
    refine lv_lconst (v := (0 : Int64)) hx hb dX9_waiting_10 (by decide) ?_
    refine lv_lconst (v := (1 : Int64)) hx hb dX9_waiting_11 (by decide) ?_
    obtain ⟨r5, m6, hz7, h⟩ := fl_bd_e h
    refine fl_callS (av := [.long x2.toInt64, .long (0 : Int64), .long (1 : Int64)]) X hP hS hl.1 ms_X9_92 (c_X9_in l D ca ad hi x2.toInt64 (0 : Int64) (1 : Int64) m2 _ _ hz7) (fl_fit_rm (by omega) (by decide)) rfl (Nat.le_of_ble_eq_true rfl) dX9_waiting_12 rfl (fun H locs hP hS => ?_)
    refine W.eq (g2 := F0 mm 15 ls [.int r5]) rfl ?_
    refine lv_if_ne (tgt := 20) hx hb dX9_waiting_15 (by decide) (fun c8 => ?_) (fun c8 => ?_)
    · replace h := fl_if_f h c8
      refine lv_iconst (v := (0 : Int32)) hx hb dX9_waiting_20 (by decide) ?_
      refine lv_istore_n (lv' := [(3, .int (0 : Int32)), (0, .ref (ad 0)), (1, .int x1), (2, .int x2)]) hx hb dX9_waiting_21 rfl hl (by decide) rfl (fun ls hl => ?_)
      refine lv_ldc (v := (1000000 : Int32)) hx hb hown (hts _ wq_1014) dX9_waiting_22 ?_
      refine lv_istore (lv' := [(4, .int (1000000 : Int32)), (3, .int (0 : Int32)), (0, .ref (ad 0)), (1, .int x1), (2, .int x2)]) hx hb dX9_waiting_24 hl (by decide) rfl (fun ls hl => ?_)
      refine lv_iconst (v := (0 : Int32)) hx hb dX9_waiting_26 (by decide) ?_
      refine lv_istore (lv' := [(5, .int (0 : Int32)), (4, .int (1000000 : Int32)), (3, .int (0 : Int32)), (0, .ref (ad 0)), (1, .int x1), (2, .int x2)]) hx hb dX9_waiting_27 hl (by decide) rfl (fun ls hl => ?_)
      exact ih_29 _ _ _ _ _ _ _ _ _ h hP hS (lv_sub hl [3, 4, 5, 2, 1, 0] rfl)
    · replace h := fl_if_t h c8
      refine lv_iconst (v := (-1 : Int32)) hx hb dX9_waiting_18 (by decide) ?_
      exact fl_iret X hr hlk hP hS dX9_waiting_19 h

def J_X9_laysDay_38 (N : Nat) (F : Int32 → Int32 → Mem → Option (Int32 × Mem)) (x1 : Int32) (x2 : Int32) (t1 : Int32) (t2 : Int32) (m : Mem) : Option (Int32 × Mem) :=
  fl_ck (0 ≤ t1.toInt ∧ t1.toInt < 246) (
    fl_lm (mI m 17 (t1.toNatClampNeg) t2) (fun m5 =>
      if (m5.1 0 5) ≤ x2 then (
        fl_ck (0 ≤ ((((6 : Int32) * x1) + (3 : Int32)) + x2).toInt ∧ ((((6 : Int32) * x1) + (3 : Int32)) + x2).toInt < 246) (
          fl_lm (mI m5 17 (((((6 : Int32) * x1) + (3 : Int32)) + x2).toNatClampNeg) (0 : Int32)) (fun m9 =>
            F x1 (x2 + 1) m9)))
      else (
        fl_ck (0 ≤ ((26 : Int32) + x2).toInt ∧ ((26 : Int32) + x2).toInt < 380) (
          fl_ck (0 ≤ ((((6 : Int32) * x1) + (3 : Int32)) + x2).toInt ∧ ((((6 : Int32) * x1) + (3 : Int32)) + x2).toInt < 246) (
            fl_lm (mI m5 17 (((((6 : Int32) * x1) + (3 : Int32)) + x2).toNatClampNeg) (m5.1 1 (((26 : Int32) + x2).toNatClampNeg))) (fun m13 =>
              F x1 (x2 + 1) m13))))))
def B_X9_laysDay_2 (N : Nat) (F : Int32 → Int32 → Mem → Option (Int32 × Mem)) (x1 : Int32) (x2 : Int32) (m : Mem) : Option (Int32 × Mem) :=
  if (3 : Int32) ≤ x2 then (
    some ((0 : Int32), m))
  else (
    if (m.1 0 5) ≤ x2 then (
      J_X9_laysDay_38 N F x1 x2 (((6 : Int32) * x1) + x2) (0 : Int32) m)
    else (
      fl_ck (0 ≤ ((20 : Int32) + x2).toInt ∧ ((20 : Int32) + x2).toInt < 380) (
        J_X9_laysDay_38 N F x1 x2 (((6 : Int32) * x1) + x2) (m.1 1 (((20 : Int32) + x2).toNatClampNeg)) m)))
def l_X9_laysDay (N : Nat) : Nat → Int32 → Int32 → Mem → Option (Int32 × Mem)
  | 0 => fun _ _ _ => none
  | n + 1 => fun x1 x2 m => B_X9_laysDay_2 N (l_X9_laysDay N n) x1 x2 m
def f_X9_laysDay (N : Nat) (x1 : Int32) (m : Mem) : Option (Int32 × Mem) :=
  (l_X9_laysDay N N) x1 (0 : Int32) m
set_option maxHeartbeats 4000000 in
set_option maxRecDepth 100000 in
theorem c_X9_laysDay (l : Launch) (D : va_G) (ca : Nat → ClassId) (ad : Nat → Nat) (hi : fl_inj L2 ad) (N : Nat) (x1 : Int32) (m : Mem) (v' : Int32) (M' : Mem) (h : f_X9_laysDay N x1 m = some (v', M')) : fl_M l L2 D ca ad yX9_laysDay cX9_laysDay 3 none 1 [.ref (ad 0), .int x1] m none M' := by
  unfold f_X9_laysDay at h
  refine fl_ofW (by decide) hi (Nat.le_of_ble_eq_true rfl) ?_
  intro p e s mm args below meth c ls X hr hlk hP hl
  have hl : lv_has ls 3 [(0, .ref (ad 0)), (1, .int x1)] := hl
  have X : fl_X p s mm args c cX9_laysDay 3 RX9 L2 D ca ad := X
  obtain ⟨hx, hb, hml, hown, hts, hE, -⟩ := id X
  have hS : va_S (fl_A L2 ad) s.heap s.heap [] := va_S.rf
  have js : ∀ n : Nat, ((∀ (x1 : Int32) (x2 : Int32) (m : Mem) (H : Heap) (locs : List Loc) (ls : Array Slot), l_X9_laysDay N n x1 x2 m = some (v', M') → va_P D vwCl (fl_w L2 ca ad m) H → va_S (fl_A L2 ad) s.heap H locs → lv_has ls 3 [(0, .ref (ad 0)), (1, .int x1), (2, .int x2)] → W p l e (fl_rm 1) s mm args below meth c H locs 0 0 (MQ below (fl_Q L2 D ca ad none M') args s 0 0 (fl_A L2 ad)) (F0 mm 2 ls []))) → (∀ (x1 : Int32) (x2 : Int32) (t1 : Int32) (t2 : Int32) (m : Mem) (H : Heap) (locs : List Loc) (ls : Array Slot), J_X9_laysDay_38 N (l_X9_laysDay N n) x1 x2 t1 t2 m = some (v', M') → va_P D vwCl (fl_w L2 ca ad m) H → va_S (fl_A L2 ad) s.heap H locs → lv_has ls 3 [(0, .ref (ad 0)), (1, .int x1), (2, .int x2)] → W p l e (fl_rm 1) s mm args below meth c H locs 0 0 (MQ below (fl_Q L2 D ca ad none M') args s 0 0 (fl_A L2 ad)) (F0 mm 38 ls [.int t2, .int t1, .ref (ad 17)])) := by
    intro n ih
    have ih_2 := ih
    have j_38 : ∀ (x1 : Int32) (x2 : Int32) (t1 : Int32) (t2 : Int32) (m : Mem) (H : Heap) (locs : List Loc) (ls : Array Slot), J_X9_laysDay_38 N (l_X9_laysDay N n) x1 x2 t1 t2 m = some (v', M') → va_P D vwCl (fl_w L2 ca ad m) H → va_S (fl_A L2 ad) s.heap H locs → lv_has ls 3 [(0, .ref (ad 0)), (1, .int x1), (2, .int x2)] → W p l e (fl_rm 1) s mm args below meth c H locs 0 0 (MQ below (fl_Q L2 D ca ad none M') args s 0 0 (fl_A L2 ad)) (F0 mm 38 ls [.int t2, .int t1, .ref (ad 17)]) := by
      intro x1 x2 t1 t2 m H locs ls h hP hS hl
      unfold J_X9_laysDay_38 at h
      obtain ⟨hk4, h⟩ := fl_ck_e h
      obtain ⟨m5, em6, h⟩ := fl_lm_e h
      refine fl_iast X hP hS k2_17 hk4 dX9_laysDay_38 (fun H locs hP hS => ?_)
      have hP : va_P D vwCl (fl_w L2 ca ad m5) H := by rw [em6]; exact hP
      refine lv_aload_n hx hb dX9_laysDay_39 rfl (lv_at hl 0 rfl) ?_
      refine fl_getr X hP fk_X9_58 k2_0 rfl dX9_laysDay_40 ?_
      refine lv_bipush (v := (6 : Int32)) hx hb dX9_laysDay_43 (by decide) ?_
      refine lv_iload_n hx hb dX9_laysDay_45 rfl (lv_at hl 1 rfl) ?_
      refine lv_imul hx hb dX9_laysDay_46 ?_
      refine lv_iconst (v := (3 : Int32)) hx hb dX9_laysDay_47 (by decide) ?_
      refine lv_iadd hx hb dX9_laysDay_48 ?_
      refine lv_iload_n hx hb dX9_laysDay_49 rfl (lv_at hl 2 rfl) ?_
      refine lv_iadd hx hb dX9_laysDay_50 ?_
      refine lv_iload_n hx hb dX9_laysDay_51 rfl (lv_at hl 2 rfl) ?_
      refine lv_aload_n hx hb dX9_laysDay_52 rfl (lv_at hl 0 rfl) ?_
      refine fl_geti X hP fk_X9_96 k2_0 rfl dX9_laysDay_53 ?_
      refine lv_icmp_ge (tgt := 71) hx hb dX9_laysDay_56 (by decide) (fun c7 => ?_) (fun c7 => ?_)
      · replace h := fl_if_t h c7
        refine lv_iconst (v := (0 : Int32)) hx hb dX9_laysDay_71 (by decide) ?_
        obtain ⟨hk8, h⟩ := fl_ck_e h
        obtain ⟨m9, em10, h⟩ := fl_lm_e h
        refine fl_iast X hP hS k2_17 hk8 dX9_laysDay_72 (fun H locs hP hS => ?_)
        have hP : va_P D vwCl (fl_w L2 ca ad m9) H := by rw [em10]; exact hP
        refine lv_iinc (v := x2 + 1) (lv' := [(2, .int (x2 + 1)), (0, .ref (ad 0)), (1, .int x1)]) hx hb dX9_laysDay_73 hl (k := 2) rfl rfl (by decide) rfl (fun ls hl => ?_)
        refine lv_goto (tgt := 2) hx hb dX9_laysDay_76 (by decide) ?_
        exact ih_2 _ _ _ _ _ _ h hP hS (lv_sub hl [1, 2, 0] rfl)
      · replace h := fl_if_f h c7
        refine lv_aload_n hx hb dX9_laysDay_59 rfl (lv_at hl 0 rfl) ?_
        refine fl_getr X hP fk_X9_7 k2_0 rfl dX9_laysDay_60 ?_
        refine lv_bipush (v := (26 : Int32)) hx hb dX9_laysDay_63 (by decide) ?_
        refine lv_iload_n hx hb dX9_laysDay_65 rfl (lv_at hl 2 rfl) ?_
        refine lv_iadd hx hb dX9_laysDay_66 ?_
        obtain ⟨hk11, h⟩ := fl_ck_e h
        refine fl_iald X hP k2_1 hk11 dX9_laysDay_67 ?_
        refine lv_goto (tgt := 72) hx hb dX9_laysDay_68 (by decide) ?_
        obtain ⟨hk12, h⟩ := fl_ck_e h
        obtain ⟨m13, em14, h⟩ := fl_lm_e h
        refine fl_iast X hP hS k2_17 hk12 dX9_laysDay_72 (fun H locs hP hS => ?_)
        have hP : va_P D vwCl (fl_w L2 ca ad m13) H := by rw [em14]; exact hP
        refine lv_iinc (v := x2 + 1) (lv' := [(2, .int (x2 + 1)), (0, .ref (ad 0)), (1, .int x1)]) hx hb dX9_laysDay_73 hl (k := 2) rfl rfl (by decide) rfl (fun ls hl => ?_)
        refine lv_goto (tgt := 2) hx hb dX9_laysDay_76 (by decide) ?_
        exact ih_2 _ _ _ _ _ _ h hP hS (lv_sub hl [1, 2, 0] rfl)
    exact j_38
  have key : ∀ n : Nat, (∀ (x1 : Int32) (x2 : Int32) (m : Mem) (H : Heap) (locs : List Loc) (ls : Array Slot), l_X9_laysDay N n x1 x2 m = some (v', M') → va_P D vwCl (fl_w L2 ca ad m) H → va_S (fl_A L2 ad) s.heap H locs → lv_has ls 3 [(0, .ref (ad 0)), (1, .int x1), (2, .int x2)] → W p l e (fl_rm 1) s mm args below meth c H locs 0 0 (MQ below (fl_Q L2 D ca ad none M') args s 0 0 (fl_A L2 ad)) (F0 mm 2 ls [])) := by
    intro n
    induction n with
    | zero =>
      skip
      · intro x1 x2 m H locs ls h hP hS hl
        have h : (none : Option (Int32 × Mem)) = some (v', M') := h
        cases h
    | succ n ih =>
      have ih_2 := ih
      have j_38 := js n ih_2
      skip
      · intro x1 x2 m H locs ls h hP hS hl
        have h : B_X9_laysDay_2 N (l_X9_laysDay N n) x1 x2 m = some (v', M') := h
        unfold B_X9_laysDay_2 at h
        refine lv_iload_n hx hb dX9_laysDay_2 rfl (lv_at hl 2 rfl) ?_
        refine lv_iconst (v := (3 : Int32)) hx hb dX9_laysDay_3 (by decide) ?_
        refine lv_icmp_ge (tgt := 79) hx hb dX9_laysDay_4 (by decide) (fun c1 => ?_) (fun c1 => ?_)
        · replace h := fl_if_t h c1
          exact fl_vret X hr hlk hP hS dX9_laysDay_79 h
        · replace h := fl_if_f h c1
          refine lv_aload_n hx hb dX9_laysDay_7 rfl (lv_at hl 0 rfl) ?_
          refine fl_getr X hP fk_X9_58 k2_0 rfl dX9_laysDay_8 ?_
          refine lv_bipush (v := (6 : Int32)) hx hb dX9_laysDay_11 (by decide) ?_
          refine lv_iload_n hx hb dX9_laysDay_13 rfl (lv_at hl 1 rfl) ?_
          refine lv_imul hx hb dX9_laysDay_14 ?_
          refine lv_iload_n hx hb dX9_laysDay_15 rfl (lv_at hl 2 rfl) ?_
          refine lv_iadd hx hb dX9_laysDay_16 ?_
          refine lv_iload_n hx hb dX9_laysDay_17 rfl (lv_at hl 2 rfl) ?_
          refine lv_aload_n hx hb dX9_laysDay_18 rfl (lv_at hl 0 rfl) ?_
          refine fl_geti X hP fk_X9_96 k2_0 rfl dX9_laysDay_19 ?_
          refine lv_icmp_ge (tgt := 37) hx hb dX9_laysDay_22 (by decide) (fun c2 => ?_) (fun c2 => ?_)
          · replace h := fl_if_t h c2
            refine lv_iconst (v := (0 : Int32)) hx hb dX9_laysDay_37 (by decide) ?_
            exact j_38 _ _ _ _ _ _ _ _ h hP hS (lv_sub hl [0, 1, 2] rfl)
          · replace h := fl_if_f h c2
            refine lv_aload_n hx hb dX9_laysDay_25 rfl (lv_at hl 0 rfl) ?_
            refine fl_getr X hP fk_X9_7 k2_0 rfl dX9_laysDay_26 ?_
            refine lv_bipush (v := (20 : Int32)) hx hb dX9_laysDay_29 (by decide) ?_
            refine lv_iload_n hx hb dX9_laysDay_31 rfl (lv_at hl 2 rfl) ?_
            refine lv_iadd hx hb dX9_laysDay_32 ?_
            obtain ⟨hk3, h⟩ := fl_ck_e h
            refine fl_iald X hP k2_1 hk3 dX9_laysDay_33 ?_
            refine lv_goto (tgt := 38) hx hb dX9_laysDay_34 (by decide) ?_
            exact j_38 _ _ _ _ _ _ _ _ h hP hS (lv_sub hl [0, 1, 2] rfl)
  have ih_2 := key N
  have j_38 := js N ih_2
  refine lv_iconst (v := (0 : Int32)) hx hb dX9_laysDay_0 (by decide) ?_
  refine lv_istore_n (lv' := [(2, .int (0 : Int32)), (0, .ref (ad 0)), (1, .int x1)]) hx hb dX9_laysDay_1 rfl hl (by decide) rfl (fun ls hl => ?_)
  exact ih_2 _ _ _ _ _ _ h hP hS (lv_sub hl [1, 2, 0] rfl)

def B_X9_areLike_5 (N : Nat) (F : Int32 → Int32 → Int32 → Int32 → Mem → Option (Int32 × Mem)) (x1 : Int32) (x2 : Int32) (x3 : Int32) (x4 : Int32) (m : Mem) : Option (Int32 × Mem) :=
  if (6 : Int32) ≤ x4 then (
    fl_ck (x3 = 0 ∨ x3 = 1) (
      some (x3, m)))
  else (
    if x3 = 0 then (
      F x1 x2 (0 : Int32) (x4 + 1) m)
    else (
      fl_ck (0 ≤ (((6 : Int32) * x1) + x4).toInt ∧ (((6 : Int32) * x1) + x4).toInt < 246) (
        fl_ck (0 ≤ (((6 : Int32) * x2) + x4).toInt ∧ (((6 : Int32) * x2) + x4).toInt < 246) (
          if (m.1 17 ((((6 : Int32) * x1) + x4).toNatClampNeg)) = (m.1 17 ((((6 : Int32) * x2) + x4).toNatClampNeg)) then (
            F x1 x2 (1 : Int32) (x4 + 1) m)
          else (
            F x1 x2 (0 : Int32) (x4 + 1) m)))))
def l_X9_areLike (N : Nat) : Nat → Int32 → Int32 → Int32 → Int32 → Mem → Option (Int32 × Mem)
  | 0 => fun _ _ _ _ _ => none
  | n + 1 => fun x1 x2 x3 x4 m => B_X9_areLike_5 N (l_X9_areLike N n) x1 x2 x3 x4 m
def f_X9_areLike (N : Nat) (x1 : Int32) (x2 : Int32) (m : Mem) : Option (Int32 × Mem) :=
  (l_X9_areLike N N) x1 x2 (1 : Int32) (0 : Int32) m
set_option maxHeartbeats 4000000 in
set_option maxRecDepth 100000 in
theorem c_X9_areLike (l : Launch) (D : va_G) (ca : Nat → ClassId) (ad : Nat → Nat) (hi : fl_inj L2 ad) (N : Nat) (x1 : Int32) (x2 : Int32) (m : Mem) (v' : Int32) (M' : Mem) (h : f_X9_areLike N x1 x2 m = some (v', M')) : fl_M l L2 D ca ad yX9_areLike cX9_areLike 5 (some .boolean) 1 [.ref (ad 0), .int x1, .int x2] m (some (.int v')) M' := by
  unfold f_X9_areLike at h
  refine fl_ofW (by decide) hi (Nat.le_of_ble_eq_true rfl) ?_
  intro p e s mm args below meth c ls X hr hlk hP hl
  have hl : lv_has ls 5 [(0, .ref (ad 0)), (1, .int x1), (2, .int x2)] := hl
  have X : fl_X p s mm args c cX9_areLike 5 RX9 L2 D ca ad := X
  obtain ⟨hx, hb, hml, hown, hts, hE, -⟩ := id X
  have hS : va_S (fl_A L2 ad) s.heap s.heap [] := va_S.rf
  have key : ∀ n : Nat, (∀ (x1 : Int32) (x2 : Int32) (x3 : Int32) (x4 : Int32) (m : Mem) (H : Heap) (locs : List Loc) (ls : Array Slot), l_X9_areLike N n x1 x2 x3 x4 m = some (v', M') → va_P D vwCl (fl_w L2 ca ad m) H → va_S (fl_A L2 ad) s.heap H locs → lv_has ls 5 [(0, .ref (ad 0)), (1, .int x1), (2, .int x2), (3, .int x3), (4, .int x4)] → W p l e (fl_rm 1) s mm args below meth c H locs 0 0 (MQ below (fl_Q L2 D ca ad (some (.int v')) M') args s 0 0 (fl_A L2 ad)) (F0 mm 5 ls [])) := by
    intro n
    induction n with
    | zero =>
      skip
      · intro x1 x2 x3 x4 m H locs ls h hP hS hl
        have h : (none : Option (Int32 × Mem)) = some (v', M') := h
        cases h
    | succ n ih =>
      have ih_5 := ih
      skip
      · intro x1 x2 x3 x4 m H locs ls h hP hS hl
        have h : B_X9_areLike_5 N (l_X9_areLike N n) x1 x2 x3 x4 m = some (v', M') := h
        unfold B_X9_areLike_5 at h
        refine lv_iload hx hb dX9_areLike_5 (lv_at hl 4 rfl) ?_
        refine lv_bipush (v := (6 : Int32)) hx hb dX9_areLike_7 (by decide) ?_
        refine lv_icmp_ge (tgt := 55) hx hb dX9_areLike_9 (by decide) (fun c1 => ?_) (fun c1 => ?_)
        · replace h := fl_if_t h c1
          refine lv_iload_n hx hb dX9_areLike_55 rfl (lv_at hl 3 rfl) ?_
          obtain ⟨hk2, h⟩ := fl_ck_e h
          exact fl_zret X hr hlk hk2 hP hS dX9_areLike_56 h
        · replace h := fl_if_f h c1
          refine lv_iload_n hx hb dX9_areLike_12 rfl (lv_at hl 3 rfl) ?_
          refine lv_if_eq (tgt := 47) hx hb dX9_areLike_13 (by decide) (fun c3 => ?_) (fun c3 => ?_)
          · replace h := fl_if_t h c3
            refine lv_iconst (v := (0 : Int32)) hx hb dX9_areLike_47 (by decide) ?_
            refine lv_istore_n (lv' := [(3, .int (0 : Int32)), (0, .ref (ad 0)), (1, .int x1), (2, .int x2), (4, .int x4)]) hx hb dX9_areLike_48 rfl hl (by decide) rfl (fun ls hl => ?_)
            refine lv_iinc (v := x4 + 1) (lv' := [(4, .int (x4 + 1)), (3, .int (0 : Int32)), (0, .ref (ad 0)), (1, .int x1), (2, .int x2)]) hx hb dX9_areLike_49 hl (k := 4) rfl rfl (by decide) rfl (fun ls hl => ?_)
            refine lv_goto (tgt := 5) hx hb dX9_areLike_52 (by decide) ?_
            exact ih_5 _ _ _ _ _ _ _ _ h hP hS (lv_sub hl [2, 3, 4, 1, 0] rfl)
          · replace h := fl_if_f h c3
            refine lv_aload_n hx hb dX9_areLike_16 rfl (lv_at hl 0 rfl) ?_
            refine fl_getr X hP fk_X9_58 k2_0 rfl dX9_areLike_17 ?_
            refine lv_bipush (v := (6 : Int32)) hx hb dX9_areLike_20 (by decide) ?_
            refine lv_iload_n hx hb dX9_areLike_22 rfl (lv_at hl 1 rfl) ?_
            refine lv_imul hx hb dX9_areLike_23 ?_
            refine lv_iload hx hb dX9_areLike_24 (lv_at hl 4 rfl) ?_
            refine lv_iadd hx hb dX9_areLike_26 ?_
            obtain ⟨hk4, h⟩ := fl_ck_e h
            refine fl_iald X hP k2_17 hk4 dX9_areLike_27 ?_
            refine lv_aload_n hx hb dX9_areLike_28 rfl (lv_at hl 0 rfl) ?_
            refine fl_getr X hP fk_X9_58 k2_0 rfl dX9_areLike_29 ?_
            refine lv_bipush (v := (6 : Int32)) hx hb dX9_areLike_32 (by decide) ?_
            refine lv_iload_n hx hb dX9_areLike_34 rfl (lv_at hl 2 rfl) ?_
            refine lv_imul hx hb dX9_areLike_35 ?_
            refine lv_iload hx hb dX9_areLike_36 (lv_at hl 4 rfl) ?_
            refine lv_iadd hx hb dX9_areLike_38 ?_
            obtain ⟨hk5, h⟩ := fl_ck_e h
            refine fl_iald X hP k2_17 hk5 dX9_areLike_39 ?_
            refine lv_icmp_ne (tgt := 47) hx hb dX9_areLike_40 (by decide) (fun c6 => ?_) (fun c6 => ?_)
            · replace h := fl_if_f h c6
              refine lv_iconst (v := (0 : Int32)) hx hb dX9_areLike_47 (by decide) ?_
              refine lv_istore_n (lv' := [(3, .int (0 : Int32)), (0, .ref (ad 0)), (1, .int x1), (2, .int x2), (4, .int x4)]) hx hb dX9_areLike_48 rfl hl (by decide) rfl (fun ls hl => ?_)
              refine lv_iinc (v := x4 + 1) (lv' := [(4, .int (x4 + 1)), (3, .int (0 : Int32)), (0, .ref (ad 0)), (1, .int x1), (2, .int x2)]) hx hb dX9_areLike_49 hl (k := 4) rfl rfl (by decide) rfl (fun ls hl => ?_)
              refine lv_goto (tgt := 5) hx hb dX9_areLike_52 (by decide) ?_
              exact ih_5 _ _ _ _ _ _ _ _ h hP hS (lv_sub hl [2, 3, 4, 1, 0] rfl)
            · replace h := fl_if_t h c6
              refine lv_iconst (v := (1 : Int32)) hx hb dX9_areLike_43 (by decide) ?_
              refine lv_goto (tgt := 48) hx hb dX9_areLike_44 (by decide) ?_
              refine lv_istore_n (lv' := [(3, .int (1 : Int32)), (0, .ref (ad 0)), (1, .int x1), (2, .int x2), (4, .int x4)]) hx hb dX9_areLike_48 rfl hl (by decide) rfl (fun ls hl => ?_)
              refine lv_iinc (v := x4 + 1) (lv' := [(4, .int (x4 + 1)), (3, .int (1 : Int32)), (0, .ref (ad 0)), (1, .int x1), (2, .int x2)]) hx hb dX9_areLike_49 hl (k := 4) rfl rfl (by decide) rfl (fun ls hl => ?_)
              refine lv_goto (tgt := 5) hx hb dX9_areLike_52 (by decide) ?_
              exact ih_5 _ _ _ _ _ _ _ _ h hP hS (lv_sub hl [2, 3, 4, 1, 0] rfl)
  have ih_5 := key N
  refine lv_iconst (v := (1 : Int32)) hx hb dX9_areLike_0 (by decide) ?_
  refine lv_istore_n (lv' := [(3, .int (1 : Int32)), (0, .ref (ad 0)), (1, .int x1), (2, .int x2)]) hx hb dX9_areLike_1 rfl hl (by decide) rfl (fun ls hl => ?_)
  refine lv_iconst (v := (0 : Int32)) hx hb dX9_areLike_2 (by decide) ?_
  refine lv_istore (lv' := [(4, .int (0 : Int32)), (3, .int (1 : Int32)), (0, .ref (ad 0)), (1, .int x1), (2, .int x2)]) hx hb dX9_areLike_3 hl (by decide) rfl (fun ls hl => ?_)
  exact ih_5 _ _ _ _ _ _ _ _ h hP hS (lv_sub hl [2, 3, 4, 1, 0] rfl)

def B_X9_round_101 (N : Nat) (F : Nat → Int32 → Int32 → Int32 → Mem → Option (Int32 × Mem)) (x1 : Int32) (x2 : Int32) (x3 : Int32) (m : Mem) : Option (Int32 × Mem) :=
  if x2 ≤ x3 then (
    F 1 x1 (x2 + 1) 0 m)
  else (
    fl_bd (f_X9_areLike N x3 x2 m) (fun r29 m30 =>
      if r29 = 0 then (
        F 4 x1 x2 (x3 + 1) m30)
      else (
        if x1 = 0 then (
          some (x2, m30))
        else (
          some (x3, m30)))))
def B_X9_round_65 (N : Nat) (F : Nat → Int32 → Int32 → Int32 → Mem → Option (Int32 × Mem)) (x1 : Int32) (x2 : Int32) (x3 : Int32) (m : Mem) : Option (Int32 × Mem) :=
  if (m.1 0 7) ≤ x3 then (
    fl_bd (f_X9_laysDay N x2 m) (fun r19 m20 =>
      F 4 x1 x2 (0 : Int32) m20))
  else (
    fl_bd (f_X9_soonestIn N (19 : Int32) x3 m) (fun r22 m23 =>
      fl_bd (f_X9_ridesAsOneDoes (19 : Int32) r22 x3 m23) (fun r25 m26 =>
        F 3 x1 x2 (x3 + 1) m26)))
def B_X9_round_39 (N : Nat) (F : Nat → Int32 → Int32 → Int32 → Mem → Option (Int32 × Mem)) (x1 : Int32) (x2 : Int32) (x3 : Int32) (m : Mem) : Option (Int32 × Mem) :=
  if (m.1 0 5) ≤ x3 then (
    F 3 x1 x2 (0 : Int32) m)
  else (
    fl_ck (0 ≤ ((23 : Int32) + x3).toInt ∧ ((23 : Int32) + x3).toInt < 380) (
      fl_lm (mI m 1 (((23 : Int32) + x3).toNatClampNeg) (0 : Int32)) (fun m16 =>
        F 2 x1 x2 (x3 + 1) m16)))
def B_X9_round_23 (N : Nat) (F : Nat → Int32 → Int32 → Int32 → Mem → Option (Int32 × Mem)) (x1 : Int32) (x2 : Int32) (m : Mem) : Option (Int32 × Mem) :=
  if (40 : Int32) < x2 then (
    some ((-4 : Int32), m))
  else (
    fl_lm (mI m 1 19 (0 : Int32)) (fun m12 =>
      F 2 x1 x2 (0 : Int32) m12))
def l_X9_round (N : Nat) : Nat → Nat → Int32 → Int32 → Int32 → Mem → Option (Int32 × Mem)
  | 0 => fun _ _ _ _ _ => none
  | n + 1 => fun lab x1 x2 x3 m => if lab = 1 then B_X9_round_23 N (l_X9_round N n) x1 x2 m else if lab = 2 then B_X9_round_39 N (l_X9_round N n) x1 x2 x3 m else if lab = 3 then B_X9_round_65 N (l_X9_round N n) x1 x2 x3 m else if lab = 4 then B_X9_round_101 N (l_X9_round N n) x1 x2 x3 m else none
def f_X9_round (N : Nat) (x1 : Int32) (m : Mem) : Option (Int32 × Mem) :=
  fl_bd (f_X9_in x1.toInt64 (0 : Int64) (1 : Int64) m) (fun r1 m2 =>
    if r1 = 0 then (
      some ((-1 : Int32), m2))
    else (
      fl_bd (f_X9_tries N  m2) (fun r5 m6 =>
        fl_bd (f_X9_laysDay N (0 : Int32) m6) (fun r8 m9 =>
          (l_X9_round N N) 1 x1 (1 : Int32) 0 m9))))
set_option maxHeartbeats 4000000 in
set_option maxRecDepth 100000 in
theorem c_X9_round (l : Launch) (D : va_G) (ca : Nat → ClassId) (ad : Nat → Nat) (hi : fl_inj L2 ad) (N : Nat) (x1 : Int32) (m : Mem) (v' : Int32) (M' : Mem) (h : f_X9_round N x1 m = some (v', M')) : fl_M l L2 D ca ad yX9_round cX9_round 4 (some .int) 6 [.ref (ad 0), .int x1] m (some (.int v')) M' := by
  unfold f_X9_round at h
  refine fl_ofW (by decide) hi (Nat.le_of_ble_eq_true rfl) ?_
  intro p e s mm args below meth c ls X hr hlk hP hl
  have hl : lv_has ls 4 [(0, .ref (ad 0)), (1, .int x1)] := hl
  have X : fl_X p s mm args c cX9_round 4 RX9 L2 D ca ad := X
  obtain ⟨hx, hb, hml, hown, hts, hE, -⟩ := id X
  have hS : va_S (fl_A L2 ad) s.heap s.heap [] := va_S.rf
  have key : ∀ n : Nat, (∀ (x1 : Int32) (x2 : Int32) (m : Mem) (H : Heap) (locs : List Loc) (ls : Array Slot), l_X9_round N n 1 x1 x2 0 m = some (v', M') → va_P D vwCl (fl_w L2 ca ad m) H → va_S (fl_A L2 ad) s.heap H locs → lv_has ls 4 [(0, .ref (ad 0)), (1, .int x1), (2, .int x2)] → W p l e (fl_rm 6) s mm args below meth c H locs 0 0 (MQ below (fl_Q L2 D ca ad (some (.int v')) M') args s 0 0 (fl_A L2 ad)) (F0 mm 23 ls [])) ∧ (∀ (x1 : Int32) (x2 : Int32) (x3 : Int32) (m : Mem) (H : Heap) (locs : List Loc) (ls : Array Slot), l_X9_round N n 2 x1 x2 x3 m = some (v', M') → va_P D vwCl (fl_w L2 ca ad m) H → va_S (fl_A L2 ad) s.heap H locs → lv_has ls 4 [(0, .ref (ad 0)), (1, .int x1), (2, .int x2), (3, .int x3)] → W p l e (fl_rm 6) s mm args below meth c H locs 0 0 (MQ below (fl_Q L2 D ca ad (some (.int v')) M') args s 0 0 (fl_A L2 ad)) (F0 mm 39 ls [])) ∧ (∀ (x1 : Int32) (x2 : Int32) (x3 : Int32) (m : Mem) (H : Heap) (locs : List Loc) (ls : Array Slot), l_X9_round N n 3 x1 x2 x3 m = some (v', M') → va_P D vwCl (fl_w L2 ca ad m) H → va_S (fl_A L2 ad) s.heap H locs → lv_has ls 4 [(0, .ref (ad 0)), (1, .int x1), (2, .int x2), (3, .int x3)] → W p l e (fl_rm 6) s mm args below meth c H locs 0 0 (MQ below (fl_Q L2 D ca ad (some (.int v')) M') args s 0 0 (fl_A L2 ad)) (F0 mm 65 ls [])) ∧ (∀ (x1 : Int32) (x2 : Int32) (x3 : Int32) (m : Mem) (H : Heap) (locs : List Loc) (ls : Array Slot), l_X9_round N n 4 x1 x2 x3 m = some (v', M') → va_P D vwCl (fl_w L2 ca ad m) H → va_S (fl_A L2 ad) s.heap H locs → lv_has ls 4 [(0, .ref (ad 0)), (1, .int x1), (2, .int x2), (3, .int x3)] → W p l e (fl_rm 6) s mm args below meth c H locs 0 0 (MQ below (fl_Q L2 D ca ad (some (.int v')) M') args s 0 0 (fl_A L2 ad)) (F0 mm 101 ls [])) := by
    intro n
    induction n with
    | zero =>
      refine ⟨?_, ?_, ?_, ?_⟩
      · intro x1 x2 m H locs ls h hP hS hl
        have h : (none : Option (Int32 × Mem)) = some (v', M') := h
        cases h
      · intro x1 x2 x3 m H locs ls h hP hS hl
        have h : (none : Option (Int32 × Mem)) = some (v', M') := h
        cases h
      · intro x1 x2 x3 m H locs ls h hP hS hl
        have h : (none : Option (Int32 × Mem)) = some (v', M') := h
        cases h
      · intro x1 x2 x3 m H locs ls h hP hS hl
        have h : (none : Option (Int32 × Mem)) = some (v', M') := h
        cases h
    | succ n ih =>
      obtain ⟨ih_23, ih_39, ih_65, ih_101⟩ := ih
      refine ⟨?_, ?_, ?_, ?_⟩
      · intro x1 x2 m H locs ls h hP hS hl
        have h : B_X9_round_23 N (l_X9_round N n) x1 x2 m = some (v', M') := h
        unfold B_X9_round_23 at h
        refine lv_iload_n hx hb dX9_round_23 rfl (lv_at hl 2 rfl) ?_
        refine lv_bipush (v := (40 : Int32)) hx hb dX9_round_24 (by decide) ?_
        refine lv_icmp_gt (tgt := 137) hx hb dX9_round_26 (by decide) (fun c11 => ?_) (fun c11 => ?_)
        · replace h := fl_if_t h c11
          refine lv_bipush (v := (-4 : Int32)) hx hb dX9_round_137 (by decide) ?_
          exact fl_iret X hr hlk hP hS dX9_round_139 h
        · replace h := fl_if_f h c11
          refine lv_aload_n hx hb dX9_round_29 rfl (lv_at hl 0 rfl) ?_
          refine fl_getr X hP fk_X9_7 k2_0 rfl dX9_round_30 ?_
          refine lv_bipush (v := (19 : Int32)) hx hb dX9_round_33 (by decide) ?_
          refine lv_iconst (v := (0 : Int32)) hx hb dX9_round_35 (by decide) ?_
          obtain ⟨m12, em13, h⟩ := fl_lm_e h
          refine fl_iast X hP hS k2_1 (by decide) dX9_round_36 (fun H locs hP hS => ?_)
          have hP : va_P D vwCl (fl_w L2 ca ad m12) H := by rw [em13]; exact hP
          refine lv_iconst (v := (0 : Int32)) hx hb dX9_round_37 (by decide) ?_
          refine lv_istore_n (lv' := [(3, .int (0 : Int32)), (0, .ref (ad 0)), (1, .int x1), (2, .int x2)]) hx hb dX9_round_38 rfl hl (by decide) rfl (fun ls hl => ?_)
          exact ih_39 _ _ _ _ _ _ _ h hP hS (lv_sub hl [1, 2, 3, 0] rfl)
      · intro x1 x2 x3 m H locs ls h hP hS hl
        have h : B_X9_round_39 N (l_X9_round N n) x1 x2 x3 m = some (v', M') := h
        unfold B_X9_round_39 at h
        refine lv_iload_n hx hb dX9_round_39 rfl (lv_at hl 3 rfl) ?_
        refine lv_aload_n hx hb dX9_round_40 rfl (lv_at hl 0 rfl) ?_
        refine fl_geti X hP fk_X9_96 k2_0 rfl dX9_round_41 ?_
        refine lv_icmp_ge (tgt := 63) hx hb dX9_round_44 (by decide) (fun c14 => ?_) (fun c14 => ?_)
        · replace h := fl_if_t h c14
          refine lv_iconst (v := (0 : Int32)) hx hb dX9_round_63 (by decide) ?_
          refine lv_istore_n (lv' := [(3, .int (0 : Int32)), (0, .ref (ad 0)), (1, .int x1), (2, .int x2)]) hx hb dX9_round_64 rfl hl (by decide) rfl (fun ls hl => ?_)
          exact ih_65 _ _ _ _ _ _ _ h hP hS (lv_sub hl [1, 2, 3, 0] rfl)
        · replace h := fl_if_f h c14
          refine lv_aload_n hx hb dX9_round_47 rfl (lv_at hl 0 rfl) ?_
          refine fl_getr X hP fk_X9_7 k2_0 rfl dX9_round_48 ?_
          refine lv_bipush (v := (23 : Int32)) hx hb dX9_round_51 (by decide) ?_
          refine lv_iload_n hx hb dX9_round_53 rfl (lv_at hl 3 rfl) ?_
          refine lv_iadd hx hb dX9_round_54 ?_
          refine lv_iconst (v := (0 : Int32)) hx hb dX9_round_55 (by decide) ?_
          obtain ⟨hk15, h⟩ := fl_ck_e h
          obtain ⟨m16, em17, h⟩ := fl_lm_e h
          refine fl_iast X hP hS k2_1 hk15 dX9_round_56 (fun H locs hP hS => ?_)
          have hP : va_P D vwCl (fl_w L2 ca ad m16) H := by rw [em17]; exact hP
          refine lv_iinc (v := x3 + 1) (lv' := [(3, .int (x3 + 1)), (0, .ref (ad 0)), (1, .int x1), (2, .int x2)]) hx hb dX9_round_57 hl (k := 3) rfl rfl (by decide) rfl (fun ls hl => ?_)
          refine lv_goto (tgt := 39) hx hb dX9_round_60 (by decide) ?_
          exact ih_39 _ _ _ _ _ _ _ h hP hS (lv_sub hl [1, 2, 3, 0] rfl)
      · intro x1 x2 x3 m H locs ls h hP hS hl
        have h : B_X9_round_65 N (l_X9_round N n) x1 x2 x3 m = some (v', M') := h
        unfold B_X9_round_65 at h
        refine lv_iload_n hx hb dX9_round_65 rfl (lv_at hl 3 rfl) ?_
        refine lv_aload_n hx hb dX9_round_66 rfl (lv_at hl 0 rfl) ?_
        refine fl_geti X hP fk_X9_99 k2_0 rfl dX9_round_67 ?_
        refine lv_icmp_ge (tgt := 94) hx hb dX9_round_70 (by decide) (fun c18 => ?_) (fun c18 => ?_)
        · replace h := fl_if_t h c18
          refine lv_aload_n hx hb dX9_round_94 rfl (lv_at hl 0 rfl) ?_
          refine lv_iload_n hx hb dX9_round_95 rfl (lv_at hl 2 rfl) ?_
          obtain ⟨r19, m20, hz21, h⟩ := fl_bd_e h
          refine fl_callV (av := [.int x2]) X hP hS hl.1 mv_X9_229 (c_X9_laysDay l D ca ad hi N x2 m _ _ hz21) k2_0 (fl_fit_rm (by omega) (by decide)) rfl (Nat.le_of_ble_eq_true rfl) dX9_round_96 rfl (fun H locs hP hS => ?_)
          refine W.eq (g2 := F0 mm 99 ls []) rfl ?_
          refine lv_iconst (v := (0 : Int32)) hx hb dX9_round_99 (by decide) ?_
          refine lv_istore_n (lv' := [(3, .int (0 : Int32)), (0, .ref (ad 0)), (1, .int x1), (2, .int x2)]) hx hb dX9_round_100 rfl hl (by decide) rfl (fun ls hl => ?_)
          exact ih_101 _ _ _ _ _ _ _ h hP hS (lv_sub hl [1, 2, 3, 0] rfl)
        · replace h := fl_if_f h c18
          refine lv_aload_n hx hb dX9_round_73 rfl (lv_at hl 0 rfl) ?_
          refine lv_bipush (v := (19 : Int32)) hx hb dX9_round_74 (by decide) ?_
          refine lv_aload_n hx hb dX9_round_76 rfl (lv_at hl 0 rfl) ?_
          refine lv_bipush (v := (19 : Int32)) hx hb dX9_round_77 (by decide) ?_
          refine lv_iload_n hx hb dX9_round_79 rfl (lv_at hl 3 rfl) ?_
          obtain ⟨r22, m23, hz24, h⟩ := fl_bd_e h
          refine fl_callV (av := [.int (19 : Int32), .int x3]) X hP hS hl.1 mv_X9_211 (c_X9_soonestIn l D ca ad hi N (19 : Int32) x3 m _ _ hz24) k2_0 (fl_fit_rm (by omega) (by decide)) rfl (Nat.le_of_ble_eq_true rfl) dX9_round_80 rfl (fun H locs hP hS => ?_)
          refine W.eq (g2 := F0 mm 83 ls [.int r22, .int (19 : Int32), .ref (ad 0)]) rfl ?_
          refine lv_iload_n hx hb dX9_round_83 rfl (lv_at hl 3 rfl) ?_
          obtain ⟨r25, m26, hz27, h⟩ := fl_bd_e h
          refine fl_callV (av := [.int (19 : Int32), .int r22, .int x3]) X hP hS hl.1 mv_X9_203 (c_X9_ridesAsOneDoes l D ca ad hi (19 : Int32) r22 x3 m23 _ _ hz27) k2_0 (fl_fit_rm (by omega) (by decide)) rfl (Nat.le_of_ble_eq_true rfl) dX9_round_84 rfl (fun H locs hP hS => ?_)
          refine W.eq (g2 := F0 mm 87 ls [.int r25]) rfl ?_
          refine lv_pop hx hb dX9_round_87 rfl ?_
          refine lv_iinc (v := x3 + 1) (lv' := [(3, .int (x3 + 1)), (0, .ref (ad 0)), (1, .int x1), (2, .int x2)]) hx hb dX9_round_88 hl (k := 3) rfl rfl (by decide) rfl (fun ls hl => ?_)
          refine lv_goto (tgt := 65) hx hb dX9_round_91 (by decide) ?_
          exact ih_65 _ _ _ _ _ _ _ h hP hS (lv_sub hl [1, 2, 3, 0] rfl)
      · intro x1 x2 x3 m H locs ls h hP hS hl
        have h : B_X9_round_101 N (l_X9_round N n) x1 x2 x3 m = some (v', M') := h
        unfold B_X9_round_101 at h
        refine lv_iload_n hx hb dX9_round_101 rfl (lv_at hl 3 rfl) ?_
        refine lv_iload_n hx hb dX9_round_102 rfl (lv_at hl 2 rfl) ?_
        refine lv_icmp_ge (tgt := 131) hx hb dX9_round_103 (by decide) (fun c28 => ?_) (fun c28 => ?_)
        · replace h := fl_if_t h c28
          refine lv_iinc (v := x2 + 1) (lv' := [(2, .int (x2 + 1)), (0, .ref (ad 0)), (1, .int x1), (3, .int x3)]) hx hb dX9_round_131 hl (k := 2) rfl rfl (by decide) rfl (fun ls hl => ?_)
          refine lv_goto (tgt := 23) hx hb dX9_round_134 (by decide) ?_
          exact ih_23 _ _ _ _ _ _ h hP hS (lv_sub hl [1, 2, 0] rfl)
        · replace h := fl_if_f h c28
          refine lv_aload_n hx hb dX9_round_106 rfl (lv_at hl 0 rfl) ?_
          refine lv_iload_n hx hb dX9_round_107 rfl (lv_at hl 3 rfl) ?_
          refine lv_iload_n hx hb dX9_round_108 rfl (lv_at hl 2 rfl) ?_
          obtain ⟨r29, m30, hz31, h⟩ := fl_bd_e h
          refine fl_callV (av := [.int x3, .int x2]) X hP hS hl.1 mv_X9_233 (c_X9_areLike l D ca ad hi N x3 x2 m _ _ hz31) k2_0 (fl_fit_rm (by omega) (by decide)) rfl (Nat.le_of_ble_eq_true rfl) dX9_round_109 rfl (fun H locs hP hS => ?_)
          refine W.eq (g2 := F0 mm 112 ls [.int r29]) rfl ?_
          refine lv_if_eq (tgt := 125) hx hb dX9_round_112 (by decide) (fun c32 => ?_) (fun c32 => ?_)
          · replace h := fl_if_t h c32
            refine lv_iinc (v := x3 + 1) (lv' := [(3, .int (x3 + 1)), (0, .ref (ad 0)), (1, .int x1), (2, .int x2)]) hx hb dX9_round_125 hl (k := 3) rfl rfl (by decide) rfl (fun ls hl => ?_)
            refine lv_goto (tgt := 101) hx hb dX9_round_128 (by decide) ?_
            exact ih_101 _ _ _ _ _ _ _ h hP hS (lv_sub hl [1, 2, 3, 0] rfl)
          · replace h := fl_if_f h c32
            refine lv_iload_n hx hb dX9_round_115 rfl (lv_at hl 1 rfl) ?_
            refine lv_if_ne (tgt := 123) hx hb dX9_round_116 (by decide) (fun c33 => ?_) (fun c33 => ?_)
            · replace h := fl_if_f h c33
              refine lv_iload_n hx hb dX9_round_123 rfl (lv_at hl 3 rfl) ?_
              exact fl_iret X hr hlk hP hS dX9_round_124 h
            · replace h := fl_if_t h c33
              refine lv_iload_n hx hb dX9_round_119 rfl (lv_at hl 2 rfl) ?_
              refine lv_goto (tgt := 124) hx hb dX9_round_120 (by decide) ?_
              exact fl_iret X hr hlk hP hS dX9_round_124 h
  obtain ⟨ih_23, ih_39, ih_65, ih_101⟩ := key N
  refine lv_iload_n hx hb dX9_round_0 rfl (lv_at hl 1 rfl) ?_
  refine lv_i2l (v := x1.toInt64) hx hb dX9_round_1 rfl ?_
  refine lv_lconst (v := (0 : Int64)) hx hb dX9_round_2 (by decide) ?_
  refine lv_lconst (v := (1 : Int64)) hx hb dX9_round_3 (by decide) ?_
  obtain ⟨r1, m2, hz3, h⟩ := fl_bd_e h
  refine fl_callS (av := [.long x1.toInt64, .long (0 : Int64), .long (1 : Int64)]) X hP hS hl.1 ms_X9_92 (c_X9_in l D ca ad hi x1.toInt64 (0 : Int64) (1 : Int64) m _ _ hz3) (fl_fit_rm (by omega) (by decide)) rfl (Nat.le_of_ble_eq_true rfl) dX9_round_4 rfl (fun H locs hP hS => ?_)
  refine W.eq (g2 := F0 mm 7 ls [.int r1]) rfl ?_
  refine lv_if_ne (tgt := 12) hx hb dX9_round_7 (by decide) (fun c4 => ?_) (fun c4 => ?_)
  · replace h := fl_if_f h c4
    refine lv_aload_n hx hb dX9_round_12 rfl (lv_at hl 0 rfl) ?_
    obtain ⟨r5, m6, hz7, h⟩ := fl_bd_e h
    refine fl_callV (av := []) X hP hS hl.1 mv_X9_226 (c_X9_tries l D ca ad hi N  m2 _ _ hz7) k2_0 (fl_fit_rm (by omega) (by decide)) rfl (Nat.le_of_ble_eq_true rfl) dX9_round_13 rfl (fun H locs hP hS => ?_)
    refine W.eq (g2 := F0 mm 16 ls []) rfl ?_
    refine lv_aload_n hx hb dX9_round_16 rfl (lv_at hl 0 rfl) ?_
    refine lv_iconst (v := (0 : Int32)) hx hb dX9_round_17 (by decide) ?_
    obtain ⟨r8, m9, hz10, h⟩ := fl_bd_e h
    refine fl_callV (av := [.int (0 : Int32)]) X hP hS hl.1 mv_X9_229 (c_X9_laysDay l D ca ad hi N (0 : Int32) m6 _ _ hz10) k2_0 (fl_fit_rm (by omega) (by decide)) rfl (Nat.le_of_ble_eq_true rfl) dX9_round_18 rfl (fun H locs hP hS => ?_)
    refine W.eq (g2 := F0 mm 21 ls []) rfl ?_
    refine lv_iconst (v := (1 : Int32)) hx hb dX9_round_21 (by decide) ?_
    refine lv_istore_n (lv' := [(2, .int (1 : Int32)), (0, .ref (ad 0)), (1, .int x1)]) hx hb dX9_round_22 rfl hl (by decide) rfl (fun ls hl => ?_)
    exact ih_23 _ _ _ _ _ _ h hP hS (lv_sub hl [1, 2, 0] rfl)
  · replace h := fl_if_t h c4
    refine lv_iconst (v := (-1 : Int32)) hx hb dX9_round_10 (by decide) ?_
    exact fl_iret X hr hlk hP hS dX9_round_11 h

def B_X9_weepBy_41 (N : Nat) (F : Int32 → Int32 → Int32 → Int32 → Int32 → Mem → Option (Int32 × Mem)) (x1 : Int32) (x2 : Int32) (x3 : Int32) (x4 : Int32) (x5 : Int32) (m : Mem) : Option (Int32 × Mem) :=
  if (m.1 0 7) ≤ x5 then (
    if x3 = 0 then (
      fl_bd (f_X9_soonestIn N (19 : Int32) x2 m) (fun r16 m17 =>
        fl_bd (f_X9_ridesAsOneDoes (19 : Int32) r16 x2 m17) (fun r19 m20 =>
          if r19 = 0 then (
            fl_li (x4 + (0 : Int32)) (fun z23 =>
              some (z23, m20)))
          else (
            fl_li (x4 + (1 : Int32)) (fun z25 =>
              some (z25, m20))))))
    else (
      some (x4, m)))
  else (
    fl_bd (f_X9_has x1 x5 m) (fun r27 m28 =>
      if r27 = 0 then (
        F x1 x2 x3 x4 (x5 + 1) m28)
      else (
        if x5 = x2 then (
          F x1 x2 x3 x4 (x5 + 1) m28)
        else (
          fl_bd (f_X9_soonestIn N (19 : Int32) x5 m28) (fun r32 m33 =>
            fl_bd (f_X9_ridesAsOneDoes (19 : Int32) r32 x5 m33) (fun r35 m36 =>
              if r35 = 0 then (
                fl_li (x4 + (0 : Int32)) (fun z39 =>
                  F x1 x2 x3 z39 (x5 + 1) m36))
              else (
                fl_li (x4 + (1 : Int32)) (fun z41 =>
                  F x1 x2 x3 z41 (x5 + 1) m36))))))))
def J_X9_weepBy_38 (N : Nat) (F : Int32 → Int32 → Int32 → Int32 → Int32 → Mem → Option (Int32 × Mem)) (x1 : Int32) (x2 : Int32) (x3 : Int32) (x4 : Int32) (m : Mem) : Option (Int32 × Mem) :=
  F x1 x2 x3 x4 (0 : Int32) m
def J_X9_weepBy_35 (N : Nat) (F : Int32 → Int32 → Int32 → Int32 → Int32 → Mem → Option (Int32 × Mem)) (x1 : Int32) (x2 : Int32) (x3 : Int32) (t0 : Int32) (t1 : Int32) (m : Mem) : Option (Int32 × Mem) :=
  fl_li (t0 + t1) (fun z12 =>
    J_X9_weepBy_38 N F x1 x2 x3 z12 m)
def l_X9_weepBy (N : Nat) : Nat → Int32 → Int32 → Int32 → Int32 → Int32 → Mem → Option (Int32 × Mem)
  | 0 => fun _ _ _ _ _ _ => none
  | n + 1 => fun x1 x2 x3 x4 x5 m => B_X9_weepBy_41 N (l_X9_weepBy N n) x1 x2 x3 x4 x5 m
def f_X9_weepBy (N : Nat) (x1 : Int32) (x2 : Int32) (x3 : Int32) (m : Mem) : Option (Int32 × Mem) :=
  fl_bd (f_X9_tries N  m) (fun r1 m2 =>
    if x3 = 0 then (
      J_X9_weepBy_38 N (l_X9_weepBy N N) x1 x2 x3 (0 : Int32) m2)
    else (
      fl_bd (f_X9_soonestIn N (19 : Int32) x2 m2) (fun r5 m6 =>
        fl_bd (f_X9_ridesAsOneDoes (19 : Int32) r5 x2 m6) (fun r8 m9 =>
          if r8 = 0 then (
            J_X9_weepBy_35 N (l_X9_weepBy N N) x1 x2 x3 (0 : Int32) (0 : Int32) m9)
          else (
            J_X9_weepBy_35 N (l_X9_weepBy N N) x1 x2 x3 (0 : Int32) (1 : Int32) m9)))))
set_option maxHeartbeats 4000000 in
set_option maxRecDepth 100000 in
theorem c_X9_weepBy (l : Launch) (D : va_G) (ca : Nat → ClassId) (ad : Nat → Nat) (hi : fl_inj L2 ad) (N : Nat) (x1 : Int32) (x2 : Int32) (x3 : Int32) (m : Mem) (v' : Int32) (M' : Mem) (h : f_X9_weepBy N x1 x2 x3 m = some (v', M')) : fl_M l L2 D ca ad yX9_weepBy cX9_weepBy 6 (some .int) 6 [.ref (ad 0), .int x1, .int x2, .int x3] m (some (.int v')) M' := by
  unfold f_X9_weepBy at h
  refine fl_ofW (by decide) hi (Nat.le_of_ble_eq_true rfl) ?_
  intro p e s mm args below meth c ls X hr hlk hP hl
  have hl : lv_has ls 6 [(0, .ref (ad 0)), (1, .int x1), (2, .int x2), (3, .int x3)] := hl
  have X : fl_X p s mm args c cX9_weepBy 6 RX9 L2 D ca ad := X
  obtain ⟨hx, hb, hml, hown, hts, hE, -⟩ := id X
  have hS : va_S (fl_A L2 ad) s.heap s.heap [] := va_S.rf
  have js : ∀ n : Nat, ((∀ (x1 : Int32) (x2 : Int32) (x3 : Int32) (x4 : Int32) (x5 : Int32) (m : Mem) (H : Heap) (locs : List Loc) (ls : Array Slot), l_X9_weepBy N n x1 x2 x3 x4 x5 m = some (v', M') → va_P D vwCl (fl_w L2 ca ad m) H → va_S (fl_A L2 ad) s.heap H locs → lv_has ls 6 [(0, .ref (ad 0)), (1, .int x1), (2, .int x2), (3, .int x3), (4, .int x4), (5, .int x5)] → W p l e (fl_rm 6) s mm args below meth c H locs 0 0 (MQ below (fl_Q L2 D ca ad (some (.int v')) M') args s 0 0 (fl_A L2 ad)) (F0 mm 41 ls []))) → (∀ (x1 : Int32) (x2 : Int32) (x3 : Int32) (x4 : Int32) (m : Mem) (H : Heap) (locs : List Loc) (ls : Array Slot), J_X9_weepBy_38 N (l_X9_weepBy N n) x1 x2 x3 x4 m = some (v', M') → va_P D vwCl (fl_w L2 ca ad m) H → va_S (fl_A L2 ad) s.heap H locs → lv_has ls 6 [(0, .ref (ad 0)), (1, .int x1), (2, .int x2), (3, .int x3), (4, .int x4)] → W p l e (fl_rm 6) s mm args below meth c H locs 0 0 (MQ below (fl_Q L2 D ca ad (some (.int v')) M') args s 0 0 (fl_A L2 ad)) (F0 mm 38 ls [])) ∧ (∀ (x1 : Int32) (x2 : Int32) (x3 : Int32) (t0 : Int32) (t1 : Int32) (m : Mem) (H : Heap) (locs : List Loc) (ls : Array Slot), J_X9_weepBy_35 N (l_X9_weepBy N n) x1 x2 x3 t0 t1 m = some (v', M') → va_P D vwCl (fl_w L2 ca ad m) H → va_S (fl_A L2 ad) s.heap H locs → lv_has ls 6 [(0, .ref (ad 0)), (1, .int x1), (2, .int x2), (3, .int x3)] → W p l e (fl_rm 6) s mm args below meth c H locs 0 0 (MQ below (fl_Q L2 D ca ad (some (.int v')) M') args s 0 0 (fl_A L2 ad)) (F0 mm 35 ls [.int t1, .int t0])) := by
    intro n ih
    have ih_41 := ih
    have j_38 : ∀ (x1 : Int32) (x2 : Int32) (x3 : Int32) (x4 : Int32) (m : Mem) (H : Heap) (locs : List Loc) (ls : Array Slot), J_X9_weepBy_38 N (l_X9_weepBy N n) x1 x2 x3 x4 m = some (v', M') → va_P D vwCl (fl_w L2 ca ad m) H → va_S (fl_A L2 ad) s.heap H locs → lv_has ls 6 [(0, .ref (ad 0)), (1, .int x1), (2, .int x2), (3, .int x3), (4, .int x4)] → W p l e (fl_rm 6) s mm args below meth c H locs 0 0 (MQ below (fl_Q L2 D ca ad (some (.int v')) M') args s 0 0 (fl_A L2 ad)) (F0 mm 38 ls []) := by
      intro x1 x2 x3 x4 m H locs ls h hP hS hl
      unfold J_X9_weepBy_38 at h
      refine lv_iconst (v := (0 : Int32)) hx hb dX9_weepBy_38 (by decide) ?_
      refine lv_istore (lv' := [(5, .int (0 : Int32)), (0, .ref (ad 0)), (1, .int x1), (2, .int x2), (3, .int x3), (4, .int x4)]) hx hb dX9_weepBy_39 hl (by decide) rfl (fun ls hl => ?_)
      exact ih_41 _ _ _ _ _ _ _ _ _ h hP hS (lv_sub hl [1, 2, 3, 4, 5, 0] rfl)
    have j_35 : ∀ (x1 : Int32) (x2 : Int32) (x3 : Int32) (t0 : Int32) (t1 : Int32) (m : Mem) (H : Heap) (locs : List Loc) (ls : Array Slot), J_X9_weepBy_35 N (l_X9_weepBy N n) x1 x2 x3 t0 t1 m = some (v', M') → va_P D vwCl (fl_w L2 ca ad m) H → va_S (fl_A L2 ad) s.heap H locs → lv_has ls 6 [(0, .ref (ad 0)), (1, .int x1), (2, .int x2), (3, .int x3)] → W p l e (fl_rm 6) s mm args below meth c H locs 0 0 (MQ below (fl_Q L2 D ca ad (some (.int v')) M') args s 0 0 (fl_A L2 ad)) (F0 mm 35 ls [.int t1, .int t0]) := by
      intro x1 x2 x3 t0 t1 m H locs ls h hP hS hl
      unfold J_X9_weepBy_35 at h
      refine lv_iadd hx hb dX9_weepBy_35 ?_
      obtain ⟨z12, ez13, h⟩ := fl_li_e h
      refine fl_topi ez13 ?_
      refine lv_istore (lv' := [(4, .int z12), (0, .ref (ad 0)), (1, .int x1), (2, .int x2), (3, .int x3)]) hx hb dX9_weepBy_36 hl (by decide) rfl (fun ls hl => ?_)
      exact j_38 _ _ _ _ _ _ _ _ h hP hS (lv_sub hl [1, 2, 3, 4, 0] rfl)
    exact ⟨j_38, j_35⟩
  have key : ∀ n : Nat, (∀ (x1 : Int32) (x2 : Int32) (x3 : Int32) (x4 : Int32) (x5 : Int32) (m : Mem) (H : Heap) (locs : List Loc) (ls : Array Slot), l_X9_weepBy N n x1 x2 x3 x4 x5 m = some (v', M') → va_P D vwCl (fl_w L2 ca ad m) H → va_S (fl_A L2 ad) s.heap H locs → lv_has ls 6 [(0, .ref (ad 0)), (1, .int x1), (2, .int x2), (3, .int x3), (4, .int x4), (5, .int x5)] → W p l e (fl_rm 6) s mm args below meth c H locs 0 0 (MQ below (fl_Q L2 D ca ad (some (.int v')) M') args s 0 0 (fl_A L2 ad)) (F0 mm 41 ls [])) := by
    intro n
    induction n with
    | zero =>
      skip
      · intro x1 x2 x3 x4 x5 m H locs ls h hP hS hl
        have h : (none : Option (Int32 × Mem)) = some (v', M') := h
        cases h
    | succ n ih =>
      have ih_41 := ih
      obtain ⟨j_38, j_35⟩ := js n ih_41
      skip
      · intro x1 x2 x3 x4 x5 m H locs ls h hP hS hl
        have h : B_X9_weepBy_41 N (l_X9_weepBy N n) x1 x2 x3 x4 x5 m = some (v', M') := h
        unfold B_X9_weepBy_41 at h
        refine lv_iload hx hb dX9_weepBy_41 (lv_at hl 5 rfl) ?_
        refine lv_aload_n hx hb dX9_weepBy_43 rfl (lv_at hl 0 rfl) ?_
        refine fl_geti X hP fk_X9_99 k2_0 rfl dX9_weepBy_44 ?_
        refine lv_icmp_ge (tgt := 100) hx hb dX9_weepBy_47 (by decide) (fun c14 => ?_) (fun c14 => ?_)
        · replace h := fl_if_t h c14
          refine lv_iload_n hx hb dX9_weepBy_100 rfl (lv_at hl 3 rfl) ?_
          refine lv_if_ne (tgt := 131) hx hb dX9_weepBy_101 (by decide) (fun c15 => ?_) (fun c15 => ?_)
          · replace h := fl_if_f h c15
            refine lv_iload hx hb dX9_weepBy_131 (lv_at hl 4 rfl) ?_
            exact fl_iret X hr hlk hP hS dX9_weepBy_133 h
          · replace h := fl_if_t h c15
            refine lv_iload hx hb dX9_weepBy_104 (lv_at hl 4 rfl) ?_
            refine lv_aload_n hx hb dX9_weepBy_106 rfl (lv_at hl 0 rfl) ?_
            refine lv_bipush (v := (19 : Int32)) hx hb dX9_weepBy_107 (by decide) ?_
            refine lv_aload_n hx hb dX9_weepBy_109 rfl (lv_at hl 0 rfl) ?_
            refine lv_bipush (v := (19 : Int32)) hx hb dX9_weepBy_110 (by decide) ?_
            refine lv_iload_n hx hb dX9_weepBy_112 rfl (lv_at hl 2 rfl) ?_
            obtain ⟨r16, m17, hz18, h⟩ := fl_bd_e h
            refine fl_callV (av := [.int (19 : Int32), .int x2]) X hP hS hl.1 mv_X9_211 (c_X9_soonestIn l D ca ad hi N (19 : Int32) x2 m _ _ hz18) k2_0 (fl_fit_rm (by omega) (by decide)) rfl (Nat.le_of_ble_eq_true rfl) dX9_weepBy_113 rfl (fun H locs hP hS => ?_)
            refine W.eq (g2 := F0 mm 116 ls [.int r16, .int (19 : Int32), .ref (ad 0), .int x4]) rfl ?_
            refine lv_iload_n hx hb dX9_weepBy_116 rfl (lv_at hl 2 rfl) ?_
            obtain ⟨r19, m20, hz21, h⟩ := fl_bd_e h
            refine fl_callV (av := [.int (19 : Int32), .int r16, .int x2]) X hP hS hl.1 mv_X9_203 (c_X9_ridesAsOneDoes l D ca ad hi (19 : Int32) r16 x2 m17 _ _ hz21) k2_0 (fl_fit_rm (by omega) (by decide)) rfl (Nat.le_of_ble_eq_true rfl) dX9_weepBy_117 rfl (fun H locs hP hS => ?_)
            refine W.eq (g2 := F0 mm 120 ls [.int r19, .int x4]) rfl ?_
            refine lv_if_eq (tgt := 127) hx hb dX9_weepBy_120 (by decide) (fun c22 => ?_) (fun c22 => ?_)
            · replace h := fl_if_t h c22
              refine lv_iconst (v := (0 : Int32)) hx hb dX9_weepBy_127 (by decide) ?_
              refine lv_iadd hx hb dX9_weepBy_128 ?_
              obtain ⟨z23, ez24, h⟩ := fl_li_e h
              refine fl_topi ez24 ?_
              refine lv_istore (lv' := [(4, .int z23), (0, .ref (ad 0)), (1, .int x1), (2, .int x2), (3, .int x3), (5, .int x5)]) hx hb dX9_weepBy_129 hl (by decide) rfl (fun ls hl => ?_)
              refine lv_iload hx hb dX9_weepBy_131 (lv_at hl 0 rfl) ?_
              exact fl_iret X hr hlk hP hS dX9_weepBy_133 h
            · replace h := fl_if_f h c22
              refine lv_iconst (v := (1 : Int32)) hx hb dX9_weepBy_123 (by decide) ?_
              refine lv_goto (tgt := 128) hx hb dX9_weepBy_124 (by decide) ?_
              refine lv_iadd hx hb dX9_weepBy_128 ?_
              obtain ⟨z25, ez26, h⟩ := fl_li_e h
              refine fl_topi ez26 ?_
              refine lv_istore (lv' := [(4, .int z25), (0, .ref (ad 0)), (1, .int x1), (2, .int x2), (3, .int x3), (5, .int x5)]) hx hb dX9_weepBy_129 hl (by decide) rfl (fun ls hl => ?_)
              refine lv_iload hx hb dX9_weepBy_131 (lv_at hl 0 rfl) ?_
              exact fl_iret X hr hlk hP hS dX9_weepBy_133 h
        · replace h := fl_if_f h c14
          refine lv_iload_n hx hb dX9_weepBy_50 rfl (lv_at hl 1 rfl) ?_
          refine lv_iload hx hb dX9_weepBy_51 (lv_at hl 5 rfl) ?_
          obtain ⟨r27, m28, hz29, h⟩ := fl_bd_e h
          refine fl_callS (av := [.int x1, .int x5]) X hP hS hl.1 ms_X9_197 (c_X9_has l D ca ad hi x1 x5 m _ _ hz29) (fl_fit_rm (by omega) (by decide)) rfl (Nat.le_of_ble_eq_true rfl) dX9_weepBy_53 rfl (fun H locs hP hS => ?_)
          refine W.eq (g2 := F0 mm 56 ls [.int r27]) rfl ?_
          refine lv_if_eq (tgt := 94) hx hb dX9_weepBy_56 (by decide) (fun c30 => ?_) (fun c30 => ?_)
          · replace h := fl_if_t h c30
            refine lv_iinc (v := x5 + 1) (lv' := [(5, .int (x5 + 1)), (0, .ref (ad 0)), (1, .int x1), (2, .int x2), (3, .int x3), (4, .int x4)]) hx hb dX9_weepBy_94 hl (k := 5) rfl rfl (by decide) rfl (fun ls hl => ?_)
            refine lv_goto (tgt := 41) hx hb dX9_weepBy_97 (by decide) ?_
            exact ih_41 _ _ _ _ _ _ _ _ _ h hP hS (lv_sub hl [1, 2, 3, 4, 5, 0] rfl)
          · replace h := fl_if_f h c30
            refine lv_iload hx hb dX9_weepBy_59 (lv_at hl 5 rfl) ?_
            refine lv_iload_n hx hb dX9_weepBy_61 rfl (lv_at hl 2 rfl) ?_
            refine lv_icmp_eq (tgt := 94) hx hb dX9_weepBy_62 (by decide) (fun c31 => ?_) (fun c31 => ?_)
            · replace h := fl_if_t h c31
              refine lv_iinc (v := x5 + 1) (lv' := [(5, .int (x5 + 1)), (0, .ref (ad 0)), (1, .int x1), (2, .int x2), (3, .int x3), (4, .int x4)]) hx hb dX9_weepBy_94 hl (k := 5) rfl rfl (by decide) rfl (fun ls hl => ?_)
              refine lv_goto (tgt := 41) hx hb dX9_weepBy_97 (by decide) ?_
              exact ih_41 _ _ _ _ _ _ _ _ _ h hP hS (lv_sub hl [1, 2, 3, 4, 5, 0] rfl)
            · replace h := fl_if_f h c31
              refine lv_iload hx hb dX9_weepBy_65 (lv_at hl 4 rfl) ?_
              refine lv_aload_n hx hb dX9_weepBy_67 rfl (lv_at hl 0 rfl) ?_
              refine lv_bipush (v := (19 : Int32)) hx hb dX9_weepBy_68 (by decide) ?_
              refine lv_aload_n hx hb dX9_weepBy_70 rfl (lv_at hl 0 rfl) ?_
              refine lv_bipush (v := (19 : Int32)) hx hb dX9_weepBy_71 (by decide) ?_
              refine lv_iload hx hb dX9_weepBy_73 (lv_at hl 5 rfl) ?_
              obtain ⟨r32, m33, hz34, h⟩ := fl_bd_e h
              refine fl_callV (av := [.int (19 : Int32), .int x5]) X hP hS hl.1 mv_X9_211 (c_X9_soonestIn l D ca ad hi N (19 : Int32) x5 m28 _ _ hz34) k2_0 (fl_fit_rm (by omega) (by decide)) rfl (Nat.le_of_ble_eq_true rfl) dX9_weepBy_75 rfl (fun H locs hP hS => ?_)
              refine W.eq (g2 := F0 mm 78 ls [.int r32, .int (19 : Int32), .ref (ad 0), .int x4]) rfl ?_
              refine lv_iload hx hb dX9_weepBy_78 (lv_at hl 5 rfl) ?_
              obtain ⟨r35, m36, hz37, h⟩ := fl_bd_e h
              refine fl_callV (av := [.int (19 : Int32), .int r32, .int x5]) X hP hS hl.1 mv_X9_203 (c_X9_ridesAsOneDoes l D ca ad hi (19 : Int32) r32 x5 m33 _ _ hz37) k2_0 (fl_fit_rm (by omega) (by decide)) rfl (Nat.le_of_ble_eq_true rfl) dX9_weepBy_80 rfl (fun H locs hP hS => ?_)
              refine W.eq (g2 := F0 mm 83 ls [.int r35, .int x4]) rfl ?_
              refine lv_if_eq (tgt := 90) hx hb dX9_weepBy_83 (by decide) (fun c38 => ?_) (fun c38 => ?_)
              · replace h := fl_if_t h c38
                refine lv_iconst (v := (0 : Int32)) hx hb dX9_weepBy_90 (by decide) ?_
                refine lv_iadd hx hb dX9_weepBy_91 ?_
                obtain ⟨z39, ez40, h⟩ := fl_li_e h
                refine fl_topi ez40 ?_
                refine lv_istore (lv' := [(4, .int z39), (0, .ref (ad 0)), (1, .int x1), (2, .int x2), (3, .int x3), (5, .int x5)]) hx hb dX9_weepBy_92 hl (by decide) rfl (fun ls hl => ?_)
                refine lv_iinc (v := x5 + 1) (lv' := [(5, .int (x5 + 1)), (4, .int z39), (0, .ref (ad 0)), (1, .int x1), (2, .int x2), (3, .int x3)]) hx hb dX9_weepBy_94 hl (k := 5) rfl rfl (by decide) rfl (fun ls hl => ?_)
                refine lv_goto (tgt := 41) hx hb dX9_weepBy_97 (by decide) ?_
                exact ih_41 _ _ _ _ _ _ _ _ _ h hP hS (lv_sub hl [2, 3, 4, 5, 1, 0] rfl)
              · replace h := fl_if_f h c38
                refine lv_iconst (v := (1 : Int32)) hx hb dX9_weepBy_86 (by decide) ?_
                refine lv_goto (tgt := 91) hx hb dX9_weepBy_87 (by decide) ?_
                refine lv_iadd hx hb dX9_weepBy_91 ?_
                obtain ⟨z41, ez42, h⟩ := fl_li_e h
                refine fl_topi ez42 ?_
                refine lv_istore (lv' := [(4, .int z41), (0, .ref (ad 0)), (1, .int x1), (2, .int x2), (3, .int x3), (5, .int x5)]) hx hb dX9_weepBy_92 hl (by decide) rfl (fun ls hl => ?_)
                refine lv_iinc (v := x5 + 1) (lv' := [(5, .int (x5 + 1)), (4, .int z41), (0, .ref (ad 0)), (1, .int x1), (2, .int x2), (3, .int x3)]) hx hb dX9_weepBy_94 hl (k := 5) rfl rfl (by decide) rfl (fun ls hl => ?_)
                refine lv_goto (tgt := 41) hx hb dX9_weepBy_97 (by decide) ?_
                exact ih_41 _ _ _ _ _ _ _ _ _ h hP hS (lv_sub hl [2, 3, 4, 5, 1, 0] rfl)
  have ih_41 := key N
  obtain ⟨j_38, j_35⟩ := js N ih_41
  refine lv_aload_n hx hb dX9_weepBy_0 rfl (lv_at hl 0 rfl) ?_
  obtain ⟨r1, m2, hz3, h⟩ := fl_bd_e h
  refine fl_callV (av := []) X hP hS hl.1 mv_X9_226 (c_X9_tries l D ca ad hi N  m _ _ hz3) k2_0 (fl_fit_rm (by omega) (by decide)) rfl (Nat.le_of_ble_eq_true rfl) dX9_weepBy_1 rfl (fun H locs hP hS => ?_)
  refine W.eq (g2 := F0 mm 4 ls []) rfl ?_
  refine lv_iconst (v := (0 : Int32)) hx hb dX9_weepBy_4 (by decide) ?_
  refine lv_istore (lv' := [(4, .int (0 : Int32)), (0, .ref (ad 0)), (1, .int x1), (2, .int x2), (3, .int x3)]) hx hb dX9_weepBy_5 hl (by decide) rfl (fun ls hl => ?_)
  refine lv_iload_n hx hb dX9_weepBy_7 rfl (lv_at hl 4 rfl) ?_
  refine lv_if_eq (tgt := 38) hx hb dX9_weepBy_8 (by decide) (fun c4 => ?_) (fun c4 => ?_)
  · replace h := fl_if_t h c4
    exact j_38 _ _ _ _ _ _ _ _ h hP hS (lv_sub hl [1, 2, 3, 4, 0] rfl)
  · replace h := fl_if_f h c4
    refine lv_iload hx hb dX9_weepBy_11 (lv_at hl 0 rfl) ?_
    refine lv_aload_n hx hb dX9_weepBy_13 rfl (lv_at hl 1 rfl) ?_
    refine lv_bipush (v := (19 : Int32)) hx hb dX9_weepBy_14 (by decide) ?_
    refine lv_aload_n hx hb dX9_weepBy_16 rfl (lv_at hl 1 rfl) ?_
    refine lv_bipush (v := (19 : Int32)) hx hb dX9_weepBy_17 (by decide) ?_
    refine lv_iload_n hx hb dX9_weepBy_19 rfl (lv_at hl 3 rfl) ?_
    obtain ⟨r5, m6, hz7, h⟩ := fl_bd_e h
    refine fl_callV (av := [.int (19 : Int32), .int x2]) X hP hS hl.1 mv_X9_211 (c_X9_soonestIn l D ca ad hi N (19 : Int32) x2 m2 _ _ hz7) k2_0 (fl_fit_rm (by omega) (by decide)) rfl (Nat.le_of_ble_eq_true rfl) dX9_weepBy_20 rfl (fun H locs hP hS => ?_)
    refine W.eq (g2 := F0 mm 23 ls [.int r5, .int (19 : Int32), .ref (ad 0), .int (0 : Int32)]) rfl ?_
    refine lv_iload_n hx hb dX9_weepBy_23 rfl (lv_at hl 3 rfl) ?_
    obtain ⟨r8, m9, hz10, h⟩ := fl_bd_e h
    refine fl_callV (av := [.int (19 : Int32), .int r5, .int x2]) X hP hS hl.1 mv_X9_203 (c_X9_ridesAsOneDoes l D ca ad hi (19 : Int32) r5 x2 m6 _ _ hz10) k2_0 (fl_fit_rm (by omega) (by decide)) rfl (Nat.le_of_ble_eq_true rfl) dX9_weepBy_24 rfl (fun H locs hP hS => ?_)
    refine W.eq (g2 := F0 mm 27 ls [.int r8, .int (0 : Int32)]) rfl ?_
    refine lv_if_eq (tgt := 34) hx hb dX9_weepBy_27 (by decide) (fun c11 => ?_) (fun c11 => ?_)
    · replace h := fl_if_t h c11
      refine lv_iconst (v := (0 : Int32)) hx hb dX9_weepBy_34 (by decide) ?_
      exact j_35 _ _ _ _ _ _ _ _ _ h hP hS (lv_sub hl [1, 2, 3, 4] rfl)
    · replace h := fl_if_f h c11
      refine lv_iconst (v := (1 : Int32)) hx hb dX9_weepBy_30 (by decide) ?_
      refine lv_goto (tgt := 35) hx hb dX9_weepBy_31 (by decide) ?_
      exact j_35 _ _ _ _ _ _ _ _ _ h hP hS (lv_sub hl [1, 2, 3, 4] rfl)

def f_X9_mends (N : Nat) (x1 : Int32) (m : Mem) : Option (Int32 × Mem) :=
  fl_bd (f_X9_isFare x1 m) (fun r1 m2 =>
    if r1 = 0 then (
      some ((-1 : Int32), m2))
    else (
      fl_bd (f_X9_has (m2.1 1 10) x1 m2) (fun r5 m6 =>
        if r5 = 0 then (
          fl_ck (0 ≤ x1.toInt ∧ x1.toInt < 7) (
            if (m6.1 3 (x1.toNatClampNeg)) = (3 : Int32) then (
              fl_bd (f_X9_rest  m6) (fun r11 m12 =>
                fl_bd (f_X9_weepBy N r11 x1 (0 : Int32) m12) (fun r14 m15 =>
                  fl_bd (f_X9_rest  m15) (fun r17 m18 =>
                    fl_bd (f_X9_weepBy N r17 x1 (1 : Int32) m18) (fun r20 m21 =>
                      some ((r14 - r20) + (10 : Int32), m21))))))
            else (
              some ((-2 : Int32), m6))))
        else (
          some ((-2 : Int32), m6)))))
set_option maxHeartbeats 4000000 in
set_option maxRecDepth 100000 in
theorem c_X9_mends (l : Launch) (D : va_G) (ca : Nat → ClassId) (ad : Nat → Nat) (hi : fl_inj L2 ad) (N : Nat) (x1 : Int32) (m : Mem) (v' : Int32) (M' : Mem) (h : f_X9_mends N x1 m = some (v', M')) : fl_M l L2 D ca ad yX9_mends cX9_mends 2 (some .int) 7 [.ref (ad 0), .int x1] m (some (.int v')) M' := by
  unfold f_X9_mends at h
  refine fl_ofW (by decide) hi (Nat.le_of_ble_eq_true rfl) ?_
  intro p e s mm args below meth c ls X hr hlk hP hl
  have hl : lv_has ls 2 [(0, .ref (ad 0)), (1, .int x1)] := hl
  have X : fl_X p s mm args c cX9_mends 2 RX9 L2 D ca ad := X
  obtain ⟨hx, hb, hml, hown, hts, hE, -⟩ := id X
  have hS : va_S (fl_A L2 ad) s.heap s.heap [] := va_S.rf
  refine lv_aload_n hx hb dX9_mends_0 rfl (lv_at hl 0 rfl) ?_
  refine lv_iload_n hx hb dX9_mends_1 rfl (lv_at hl 1 rfl) ?_
  obtain ⟨r1, m2, hz3, h⟩ := fl_bd_e h
  refine fl_callV (av := [.int x1]) X hP hS hl.1 mv_X9_169 (c_X9_isFare l D ca ad hi x1 m _ _ hz3) k2_0 (fl_fit_rm (by omega) (by decide)) rfl (Nat.le_of_ble_eq_true rfl) dX9_mends_2 rfl (fun H locs hP hS => ?_)
  refine W.eq (g2 := F0 mm 5 ls [.int r1]) rfl ?_
  refine lv_if_ne (tgt := 10) hx hb dX9_mends_5 (by decide) (fun c4 => ?_) (fun c4 => ?_)
  · replace h := fl_if_f h c4
    refine lv_aload_n hx hb dX9_mends_10 rfl (lv_at hl 0 rfl) ?_
    refine fl_getr X hP fk_X9_7 k2_0 rfl dX9_mends_11 ?_
    refine lv_bipush (v := (10 : Int32)) hx hb dX9_mends_14 (by decide) ?_
    refine fl_iald X hP k2_1 (by decide) dX9_mends_16 ?_
    refine lv_iload_n hx hb dX9_mends_17 rfl (lv_at hl 1 rfl) ?_
    obtain ⟨r5, m6, hz7, h⟩ := fl_bd_e h
    refine fl_callS (av := [.int (m2.1 1 10), .int x1]) X hP hS hl.1 ms_X9_197 (c_X9_has l D ca ad hi (m2.1 1 10) x1 m2 _ _ hz7) (fl_fit_rm (by omega) (by decide)) rfl (Nat.le_of_ble_eq_true rfl) dX9_mends_18 rfl (fun H locs hP hS => ?_)
    refine W.eq (g2 := F0 mm 21 ls [.int r5]) rfl ?_
    refine lv_if_ne (tgt := 34) hx hb dX9_mends_21 (by decide) (fun c8 => ?_) (fun c8 => ?_)
    · replace h := fl_if_f h c8
      refine lv_bipush (v := (-2 : Int32)) hx hb dX9_mends_34 (by decide) ?_
      exact fl_iret X hr hlk hP hS dX9_mends_36 h
    · replace h := fl_if_t h c8
      refine lv_aload_n hx hb dX9_mends_24 rfl (lv_at hl 0 rfl) ?_
      refine fl_getr X hP fk_X9_16 k2_0 rfl dX9_mends_25 ?_
      refine lv_iload_n hx hb dX9_mends_28 rfl (lv_at hl 1 rfl) ?_
      obtain ⟨hk9, h⟩ := fl_ck_e h
      refine fl_iald X hP k2_3 hk9 dX9_mends_29 ?_
      refine lv_iconst (v := (3 : Int32)) hx hb dX9_mends_30 (by decide) ?_
      refine lv_icmp_eq (tgt := 37) hx hb dX9_mends_31 (by decide) (fun c10 => ?_) (fun c10 => ?_)
      · replace h := fl_if_t h c10
        refine lv_aload_n hx hb dX9_mends_37 rfl (lv_at hl 0 rfl) ?_
        refine lv_aload_n hx hb dX9_mends_38 rfl (lv_at hl 0 rfl) ?_
        obtain ⟨r11, m12, hz13, h⟩ := fl_bd_e h
        refine fl_callV (av := []) X hP hS hl.1 mv_X9_214 (c_X9_rest l D ca ad hi  m6 _ _ hz13) k2_0 (fl_fit_rm (by omega) (by decide)) rfl (Nat.le_of_ble_eq_true rfl) dX9_mends_39 rfl (fun H locs hP hS => ?_)
        refine W.eq (g2 := F0 mm 42 ls [.int r11, .ref (ad 0)]) rfl ?_
        refine lv_iload_n hx hb dX9_mends_42 rfl (lv_at hl 1 rfl) ?_
        refine lv_iconst (v := (0 : Int32)) hx hb dX9_mends_43 (by decide) ?_
        obtain ⟨r14, m15, hz16, h⟩ := fl_bd_e h
        refine fl_callV (av := [.int r11, .int x1, .int (0 : Int32)]) X hP hS hl.1 mv_X9_236 (c_X9_weepBy l D ca ad hi N r11 x1 (0 : Int32) m12 _ _ hz16) k2_0 (fl_fit_rm (by omega) (by decide)) rfl (Nat.le_of_ble_eq_true rfl) dX9_mends_44 rfl (fun H locs hP hS => ?_)
        refine W.eq (g2 := F0 mm 47 ls [.int r14]) rfl ?_
        refine lv_aload_n hx hb dX9_mends_47 rfl (lv_at hl 0 rfl) ?_
        refine lv_aload_n hx hb dX9_mends_48 rfl (lv_at hl 0 rfl) ?_
        obtain ⟨r17, m18, hz19, h⟩ := fl_bd_e h
        refine fl_callV (av := []) X hP hS hl.1 mv_X9_214 (c_X9_rest l D ca ad hi  m15 _ _ hz19) k2_0 (fl_fit_rm (by omega) (by decide)) rfl (Nat.le_of_ble_eq_true rfl) dX9_mends_49 rfl (fun H locs hP hS => ?_)
        refine W.eq (g2 := F0 mm 52 ls [.int r17, .ref (ad 0), .int r14]) rfl ?_
        refine lv_iload_n hx hb dX9_mends_52 rfl (lv_at hl 1 rfl) ?_
        refine lv_iconst (v := (1 : Int32)) hx hb dX9_mends_53 (by decide) ?_
        obtain ⟨r20, m21, hz22, h⟩ := fl_bd_e h
        refine fl_callV (av := [.int r17, .int x1, .int (1 : Int32)]) X hP hS hl.1 mv_X9_236 (c_X9_weepBy l D ca ad hi N r17 x1 (1 : Int32) m18 _ _ hz22) k2_0 (fl_fit_rm (by omega) (by decide)) rfl (Nat.le_of_ble_eq_true rfl) dX9_mends_54 rfl (fun H locs hP hS => ?_)
        refine W.eq (g2 := F0 mm 57 ls [.int r20, .int r14]) rfl ?_
        refine lv_isub hx hb dX9_mends_57 ?_
        refine lv_bipush (v := (10 : Int32)) hx hb dX9_mends_58 (by decide) ?_
        refine lv_iadd hx hb dX9_mends_60 ?_
        exact fl_iret X hr hlk hP hS dX9_mends_61 h
      · replace h := fl_if_f h c10
        refine lv_bipush (v := (-2 : Int32)) hx hb dX9_mends_34 (by decide) ?_
        exact fl_iret X hr hlk hP hS dX9_mends_36 h
  · replace h := fl_if_t h c4
    refine lv_iconst (v := (-1 : Int32)) hx hb dX9_mends_8 (by decide) ?_
    exact fl_iret X hr hlk hP hS dX9_mends_9 h

def J_X9_rivals_394 (N : Nat) (F : Nat → Int32 → Int32 → Int32 → Int32 → Int32 → Int32 → Int32 → Int32 → Int32 → Int32 → Int32 → Mem → Option (Int32 × Mem)) (x4 : Int32) (x8 : Int32) (x9 : Int32) (x10 : Int32) (x11 : Int32) (x12 : Int32) (x13 : Int32) (x14 : Int32) (t0 : Int32) (m : Mem) : Option (Int32 × Mem) :=
  if x14 = 0 then (
    F 6 0 0 x4 0 0 t0 x8 x9 x10 x11 (x12 + 1) m)
  else (
    F 6 0 0 x4 0 0 t0 x8 x9 x10 x13 (x12 + 1) m)
def J_X9_rivals_380 (N : Nat) (F : Nat → Int32 → Int32 → Int32 → Int32 → Int32 → Int32 → Int32 → Int32 → Int32 → Int32 → Int32 → Mem → Option (Int32 × Mem)) (x4 : Int32) (x7 : Int32) (x8 : Int32) (x9 : Int32) (x10 : Int32) (x11 : Int32) (x12 : Int32) (x13 : Int32) (t0 : Int32) (m : Mem) : Option (Int32 × Mem) :=
  if t0 = 0 then (
    J_X9_rivals_394 N F x4 x8 x9 x10 x11 x12 x13 t0 x7 m)
  else (
    J_X9_rivals_394 N F x4 x8 x9 x10 x11 x12 x13 t0 x12 m)
def J_X9_rivals_379 (N : Nat) (F : Nat → Int32 → Int32 → Int32 → Int32 → Int32 → Int32 → Int32 → Int32 → Int32 → Int32 → Int32 → Mem → Option (Int32 × Mem)) (x4 : Int32) (x7 : Int32) (x8 : Int32) (x9 : Int32) (x10 : Int32) (x11 : Int32) (x12 : Int32) (x13 : Int32) (m : Mem) : Option (Int32 × Mem) :=
  J_X9_rivals_380 N F x4 x7 x8 x9 x10 x11 x12 x13 (0 : Int32) m
def J_X9_rivals_375 (N : Nat) (F : Nat → Int32 → Int32 → Int32 → Int32 → Int32 → Int32 → Int32 → Int32 → Int32 → Int32 → Int32 → Mem → Option (Int32 × Mem)) (x4 : Int32) (x7 : Int32) (x8 : Int32) (x9 : Int32) (x10 : Int32) (x11 : Int32) (x12 : Int32) (x13 : Int32) (m : Mem) : Option (Int32 × Mem) :=
  J_X9_rivals_380 N F x4 x7 x8 x9 x10 x11 x12 x13 (1 : Int32) m
def B_X9_rivals_311 (N : Nat) (F : Nat → Int32 → Int32 → Int32 → Int32 → Int32 → Int32 → Int32 → Int32 → Int32 → Int32 → Int32 → Mem → Option (Int32 × Mem)) (x4 : Int32) (x7 : Int32) (x8 : Int32) (x9 : Int32) (x10 : Int32) (x11 : Int32) (x12 : Int32) (m : Mem) : Option (Int32 × Mem) :=
  if (m.1 0 7) ≤ x12 then (
    fl_ck (0 ≤ x10.toInt ∧ x10.toInt < 2401) (
      fl_lm (mI m 18 (x10.toNatClampNeg) x11) (fun m70 =>
        F 5 0 0 x4 0 0 x7 x8 x9 (x10 + 1) 0 0 m70)))
  else (
    fl_ck (0 ≤ (((m.1 0 7) * x10) + x12).toInt ∧ (((m.1 0 7) * x10) + x12).toInt < 2401) (
      fl_li (m.1 18 ((((m.1 0 7) * x10) + x12).toNatClampNeg)) (fun z73 =>
        if z73 = (1000000 : Int32) then (
          J_X9_rivals_379 N F x4 x7 x8 x9 x10 x11 x12 z73 m)
        else (
          if x11 = (1000000 : Int32) then (
            J_X9_rivals_375 N F x4 x7 x8 x9 x10 x11 x12 z73 m)
          else (
            if (fl_rem x9 (2 : Int32)) = 0 then (
              if x11 ≤ z73 then (
                J_X9_rivals_379 N F x4 x7 x8 x9 x10 x11 x12 z73 m)
              else (
                J_X9_rivals_375 N F x4 x7 x8 x9 x10 x11 x12 z73 m))
            else (
              if z73 ≤ x11 then (
                J_X9_rivals_379 N F x4 x7 x8 x9 x10 x11 x12 z73 m)
              else (
                J_X9_rivals_375 N F x4 x7 x8 x9 x10 x11 x12 z73 m)))))))
def B_X9_rivals_297 (N : Nat) (F : Nat → Int32 → Int32 → Int32 → Int32 → Int32 → Int32 → Int32 → Int32 → Int32 → Int32 → Int32 → Mem → Option (Int32 × Mem)) (x4 : Int32) (x7 : Int32) (x8 : Int32) (x9 : Int32) (x10 : Int32) (m : Mem) : Option (Int32 × Mem) :=
  if x8 ≤ x10 then (
    F 4 0 0 x4 0 0 x7 x8 (x9 + (-1)) 0 0 0 m)
  else (
    F 6 0 0 x4 0 0 x7 x8 x9 x10 (1000000 : Int32) (0 : Int32) m)
def B_X9_rivals_280 (N : Nat) (F : Nat → Int32 → Int32 → Int32 → Int32 → Int32 → Int32 → Int32 → Int32 → Int32 → Int32 → Int32 → Mem → Option (Int32 × Mem)) (x4 : Int32) (x7 : Int32) (x8 : Int32) (x9 : Int32) (m : Mem) : Option (Int32 × Mem) :=
  if x9 < 0 then (
    if x4 = 0 then (
      some ((m.1 18 0) + (10 : Int32), m))
    else (
      some (x7, m)))
  else (
    fl_ck (¬ (m.1 0 7) = 0) (
      fl_li (x8 / (m.1 0 7)) (fun z43 =>
        F 5 0 0 x4 0 0 x7 z43 x9 (0 : Int32) 0 0 m)))
def J_X9_rivals_241 (N : Nat) (F : Nat → Int32 → Int32 → Int32 → Int32 → Int32 → Int32 → Int32 → Int32 → Int32 → Int32 → Int32 → Mem → Option (Int32 × Mem)) (x1 : Int32) (x2 : Int32) (x4 : Int32) (x5 : Int32) (x6 : Int32) (x7 : Int32) (x8 : Int32) (x9 : Int32) (m : Mem) : Option (Int32 × Mem) :=
  if x9 = 0 then (
    fl_ck (0 ≤ x7.toInt ∧ x7.toInt < 2401) (
      fl_lm (mI m 18 (x7.toNatClampNeg) (1000000 : Int32)) (fun m61 =>
        F 2 x1 x2 x4 x5 x6 (x7 + 1) 0 0 0 0 0 m61)))
  else (
    fl_ck (0 ≤ x7.toInt ∧ x7.toInt < 2401) (
      fl_lm (mI m 18 (x7.toNatClampNeg) x8) (fun m64 =>
        F 2 x1 x2 x4 x5 x6 (x7 + 1) 0 0 0 0 0 m64)))
def J_X9_rivals_213 (N : Nat) (F : Nat → Int32 → Int32 → Int32 → Int32 → Int32 → Int32 → Int32 → Int32 → Int32 → Int32 → Int32 → Mem → Option (Int32 × Mem)) (x1 : Int32) (x2 : Int32) (x4 : Int32) (x5 : Int32) (x6 : Int32) (x7 : Int32) (x8 : Int32) (x9 : Int32) (x10 : Int32) (x11 : Int32) (t0 : Int32) (m : Mem) : Option (Int32 × Mem) :=
  if (fl_rem x11 (2 : Int32)) = 0 then (
    fl_li (x8 + t0) (fun z87 =>
      F 3 x1 x2 x4 x5 x6 x7 z87 x9 x10 (x11 + 1) 0 m))
  else (
    fl_li (x8 + (-t0)) (fun z85 =>
      F 3 x1 x2 x4 x5 x6 x7 z85 x9 x10 (x11 + 1) 0 m))
def J_X9_rivals_200 (N : Nat) (F : Nat → Int32 → Int32 → Int32 → Int32 → Int32 → Int32 → Int32 → Int32 → Int32 → Int32 → Int32 → Mem → Option (Int32 × Mem)) (x1 : Int32) (x2 : Int32) (x4 : Int32) (x5 : Int32) (x6 : Int32) (x7 : Int32) (x8 : Int32) (x9 : Int32) (x10 : Int32) (x11 : Int32) (x12 : Int32) (t1 : Int32) (t2 : Int32) (m : Mem) : Option (Int32 × Mem) :=
  fl_bd (f_X9_ridesAsOneDoes t1 t2 x12 m) (fun r80 m81 =>
    if r80 = 0 then (
      J_X9_rivals_213 N F x1 x2 x4 x5 x6 x7 x8 x9 x10 x11 (0 : Int32) m81)
    else (
      J_X9_rivals_213 N F x1 x2 x4 x5 x6 x7 x8 x9 x10 x11 (1 : Int32) m81))
def J_X9_rivals_178 (N : Nat) (F : Nat → Int32 → Int32 → Int32 → Int32 → Int32 → Int32 → Int32 → Int32 → Int32 → Int32 → Int32 → Mem → Option (Int32 × Mem)) (x1 : Int32) (x2 : Int32) (x4 : Int32) (x5 : Int32) (x6 : Int32) (x7 : Int32) (x8 : Int32) (x10 : Int32) (x11 : Int32) (x12 : Int32) (t0 : Int32) (m : Mem) : Option (Int32 × Mem) :=
  if t0 = 0 then (
    F 3 x1 x2 x4 x5 x6 x7 x8 t0 x10 (x11 + 1) 0 m)
  else (
    if (fl_rem x11 (2 : Int32)) = 0 then (
      J_X9_rivals_200 N F x1 x2 x4 x5 x6 x7 x8 t0 x10 x11 x12 (19 : Int32) x1 m)
    else (
      J_X9_rivals_200 N F x1 x2 x4 x5 x6 x7 x8 t0 x10 x11 x12 (19 : Int32) x2 m))
def B_X9_rivals_125 (N : Nat) (F : Nat → Int32 → Int32 → Int32 → Int32 → Int32 → Int32 → Int32 → Int32 → Int32 → Int32 → Int32 → Mem → Option (Int32 × Mem)) (x1 : Int32) (x2 : Int32) (x4 : Int32) (x5 : Int32) (x6 : Int32) (x7 : Int32) (x8 : Int32) (x9 : Int32) (x10 : Int32) (x11 : Int32) (m : Mem) : Option (Int32 × Mem) :=
  if x5 ≤ x11 then (
    J_X9_rivals_241 N F x1 x2 x4 x5 x6 x7 x8 x9 m)
  else (
    if x9 = 0 then (
      J_X9_rivals_241 N F x1 x2 x4 x5 x6 x7 x8 x9 m)
    else (
      fl_ck (¬ (m.1 0 7) = 0) (
        fl_li (x10 / (m.1 0 7)) (fun z48 =>
          fl_ck (¬ z48 = 0) (
            fl_ck (¬ (m.1 0 7) = 0) (
              fl_li (fl_rem (x7 / z48) (m.1 0 7)) (fun z52 =>
                fl_bd (f_X9_has (m.1 1 29) z52 m) (fun r54 m55 =>
                  if r54 = 0 then (
                    J_X9_rivals_178 N F x1 x2 x4 x5 x6 x7 x8 z48 x11 z52 (1 : Int32) m55)
                  else (
                    J_X9_rivals_178 N F x1 x2 x4 x5 x6 x7 x8 z48 x11 z52 (0 : Int32) m55)))))))))
def B_X9_rivals_101 (N : Nat) (F : Nat → Int32 → Int32 → Int32 → Int32 → Int32 → Int32 → Int32 → Int32 → Int32 → Int32 → Int32 → Mem → Option (Int32 × Mem)) (x1 : Int32) (x2 : Int32) (x4 : Int32) (x5 : Int32) (x6 : Int32) (x7 : Int32) (m : Mem) : Option (Int32 × Mem) :=
  if x6 ≤ x7 then (
    fl_li (x5 - (1 : Int32)) (fun z35 =>
      F 4 0 0 x4 0 0 (-4 : Int32) x6 z35 0 0 0 m))
  else (
    fl_bd (f_X9_tries N  m) (fun r37 m38 =>
      F 3 x1 x2 x4 x5 x6 x7 (0 : Int32) (1 : Int32) x6 (0 : Int32) 0 m38))
def B_X9_rivals_76 (N : Nat) (F : Nat → Int32 → Int32 → Int32 → Int32 → Int32 → Int32 → Int32 → Int32 → Int32 → Int32 → Int32 → Mem → Option (Int32 × Mem)) (x1 : Int32) (x2 : Int32) (x4 : Int32) (x5 : Int32) (x6 : Int32) (x7 : Int32) (m : Mem) : Option (Int32 × Mem) :=
  if x5 ≤ x7 then (
    F 2 x1 x2 x4 x5 x6 (0 : Int32) 0 0 0 0 0 m)
  else (
    fl_li (x6 * (m.1 0 7)) (fun z32 =>
      F 1 x1 x2 x4 x5 z32 (x7 + 1) 0 0 0 0 0 m))
def J_X9_rivals_68 (N : Nat) (F : Nat → Int32 → Int32 → Int32 → Int32 → Int32 → Int32 → Int32 → Int32 → Int32 → Int32 → Int32 → Mem → Option (Int32 × Mem)) (x1 : Int32) (x2 : Int32) (x4 : Int32) (t0 : Int32) (m : Mem) : Option (Int32 × Mem) :=
  F 1 x1 x2 x4 t0 (1 : Int32) (0 : Int32) 0 0 0 0 0 m
def l_X9_rivals (N : Nat) : Nat → Nat → Int32 → Int32 → Int32 → Int32 → Int32 → Int32 → Int32 → Int32 → Int32 → Int32 → Int32 → Mem → Option (Int32 × Mem)
  | 0 => fun _ _ _ _ _ _ _ _ _ _ _ _ _ => none
  | n + 1 => fun lab x1 x2 x4 x5 x6 x7 x8 x9 x10 x11 x12 m => if lab = 1 then B_X9_rivals_76 N (l_X9_rivals N n) x1 x2 x4 x5 x6 x7 m else if lab = 2 then B_X9_rivals_101 N (l_X9_rivals N n) x1 x2 x4 x5 x6 x7 m else if lab = 3 then B_X9_rivals_125 N (l_X9_rivals N n) x1 x2 x4 x5 x6 x7 x8 x9 x10 x11 m else if lab = 4 then B_X9_rivals_280 N (l_X9_rivals N n) x4 x7 x8 x9 m else if lab = 5 then B_X9_rivals_297 N (l_X9_rivals N n) x4 x7 x8 x9 x10 m else if lab = 6 then B_X9_rivals_311 N (l_X9_rivals N n) x4 x7 x8 x9 x10 x11 x12 m else none
def f_X9_rivals (N : Nat) (x1 : Int32) (x2 : Int32) (x3 : Int32) (x4 : Int32) (m : Mem) : Option (Int32 × Mem) :=
  fl_bd (f_X9_isCab x1 m) (fun r1 m2 =>
    if r1 = 0 then (
      some ((-1 : Int32), m2))
    else (
      fl_bd (f_X9_isCab x2 m2) (fun r5 m6 =>
        if r5 = 0 then (
          some ((-1 : Int32), m6))
        else (
          if x1 = x2 then (
            some ((-1 : Int32), m6))
          else (
            fl_bd (f_X9_in x3.toInt64 (1 : Int64) (4 : Int64) m6) (fun r10 m11 =>
              if r10 = 0 then (
                some ((-1 : Int32), m11))
              else (
                fl_bd (f_X9_in x4.toInt64 (0 : Int64) (1 : Int64) m11) (fun r14 m15 =>
                  if r14 = 0 then (
                    some ((-1 : Int32), m15))
                  else (
                    fl_bd (f_X9_rest  m15) (fun r18 m19 =>
                      fl_bd (f_X9_ones N r18 m19) (fun r21 m22 =>
                        if r21 ≤ x3 then (
                          fl_bd (f_X9_rest  m22) (fun r25 m26 =>
                            fl_bd (f_X9_ones N r25 m26) (fun r28 m29 =>
                              J_X9_rivals_68 N (l_X9_rivals N N) x1 x2 x4 r28 m29)))
                        else (
                          J_X9_rivals_68 N (l_X9_rivals N N) x1 x2 x4 x3 m22))))))))))))
set_option maxHeartbeats 4000000 in
set_option maxRecDepth 100000 in
theorem c_X9_rivals (l : Launch) (D : va_G) (ca : Nat → ClassId) (ad : Nat → Nat) (hi : fl_inj L2 ad) (N : Nat) (x1 : Int32) (x2 : Int32) (x3 : Int32) (x4 : Int32) (m : Mem) (v' : Int32) (M' : Mem) (h : f_X9_rivals N x1 x2 x3 x4 m = some (v', M')) : fl_M l L2 D ca ad yX9_rivals cX9_rivals 15 (some .int) 6 [.ref (ad 0), .int x1, .int x2, .int x3, .int x4] m (some (.int v')) M' := by
  unfold f_X9_rivals at h
  refine fl_ofW (by decide) hi (Nat.le_of_ble_eq_true rfl) ?_
  intro p e s mm args below meth c ls X hr hlk hP hl
  have hl : lv_has ls 15 [(0, .ref (ad 0)), (1, .int x1), (2, .int x2), (3, .int x3), (4, .int x4)] := hl
  have X : fl_X p s mm args c cX9_rivals 15 RX9 L2 D ca ad := X
  obtain ⟨hx, hb, hml, hown, hts, hE, -⟩ := id X
  have hS : va_S (fl_A L2 ad) s.heap s.heap [] := va_S.rf
  have js : ∀ n : Nat, ((∀ (x1 : Int32) (x2 : Int32) (x4 : Int32) (x5 : Int32) (x6 : Int32) (x7 : Int32) (m : Mem) (H : Heap) (locs : List Loc) (ls : Array Slot), l_X9_rivals N n 1 x1 x2 x4 x5 x6 x7 0 0 0 0 0 m = some (v', M') → va_P D vwCl (fl_w L2 ca ad m) H → va_S (fl_A L2 ad) s.heap H locs → lv_has ls 15 [(0, .ref (ad 0)), (1, .int x1), (2, .int x2), (4, .int x4), (5, .int x5), (6, .int x6), (7, .int x7)] → W p l e (fl_rm 6) s mm args below meth c H locs 0 0 (MQ below (fl_Q L2 D ca ad (some (.int v')) M') args s 0 0 (fl_A L2 ad)) (F0 mm 76 ls [])) ∧ (∀ (x1 : Int32) (x2 : Int32) (x4 : Int32) (x5 : Int32) (x6 : Int32) (x7 : Int32) (m : Mem) (H : Heap) (locs : List Loc) (ls : Array Slot), l_X9_rivals N n 2 x1 x2 x4 x5 x6 x7 0 0 0 0 0 m = some (v', M') → va_P D vwCl (fl_w L2 ca ad m) H → va_S (fl_A L2 ad) s.heap H locs → lv_has ls 15 [(0, .ref (ad 0)), (1, .int x1), (2, .int x2), (4, .int x4), (5, .int x5), (6, .int x6), (7, .int x7)] → W p l e (fl_rm 6) s mm args below meth c H locs 0 0 (MQ below (fl_Q L2 D ca ad (some (.int v')) M') args s 0 0 (fl_A L2 ad)) (F0 mm 101 ls [])) ∧ (∀ (x1 : Int32) (x2 : Int32) (x4 : Int32) (x5 : Int32) (x6 : Int32) (x7 : Int32) (x8 : Int32) (x9 : Int32) (x10 : Int32) (x11 : Int32) (m : Mem) (H : Heap) (locs : List Loc) (ls : Array Slot), l_X9_rivals N n 3 x1 x2 x4 x5 x6 x7 x8 x9 x10 x11 0 m = some (v', M') → va_P D vwCl (fl_w L2 ca ad m) H → va_S (fl_A L2 ad) s.heap H locs → lv_has ls 15 [(0, .ref (ad 0)), (1, .int x1), (2, .int x2), (4, .int x4), (5, .int x5), (6, .int x6), (7, .int x7), (8, .int x8), (9, .int x9), (10, .int x10), (11, .int x11)] → W p l e (fl_rm 6) s mm args below meth c H locs 0 0 (MQ below (fl_Q L2 D ca ad (some (.int v')) M') args s 0 0 (fl_A L2 ad)) (F0 mm 125 ls [])) ∧ (∀ (x4 : Int32) (x7 : Int32) (x8 : Int32) (x9 : Int32) (m : Mem) (H : Heap) (locs : List Loc) (ls : Array Slot), l_X9_rivals N n 4 0 0 x4 0 0 x7 x8 x9 0 0 0 m = some (v', M') → va_P D vwCl (fl_w L2 ca ad m) H → va_S (fl_A L2 ad) s.heap H locs → lv_has ls 15 [(0, .ref (ad 0)), (4, .int x4), (7, .int x7), (8, .int x8), (9, .int x9)] → W p l e (fl_rm 6) s mm args below meth c H locs 0 0 (MQ below (fl_Q L2 D ca ad (some (.int v')) M') args s 0 0 (fl_A L2 ad)) (F0 mm 280 ls [])) ∧ (∀ (x4 : Int32) (x7 : Int32) (x8 : Int32) (x9 : Int32) (x10 : Int32) (m : Mem) (H : Heap) (locs : List Loc) (ls : Array Slot), l_X9_rivals N n 5 0 0 x4 0 0 x7 x8 x9 x10 0 0 m = some (v', M') → va_P D vwCl (fl_w L2 ca ad m) H → va_S (fl_A L2 ad) s.heap H locs → lv_has ls 15 [(0, .ref (ad 0)), (4, .int x4), (7, .int x7), (8, .int x8), (9, .int x9), (10, .int x10)] → W p l e (fl_rm 6) s mm args below meth c H locs 0 0 (MQ below (fl_Q L2 D ca ad (some (.int v')) M') args s 0 0 (fl_A L2 ad)) (F0 mm 297 ls [])) ∧ (∀ (x4 : Int32) (x7 : Int32) (x8 : Int32) (x9 : Int32) (x10 : Int32) (x11 : Int32) (x12 : Int32) (m : Mem) (H : Heap) (locs : List Loc) (ls : Array Slot), l_X9_rivals N n 6 0 0 x4 0 0 x7 x8 x9 x10 x11 x12 m = some (v', M') → va_P D vwCl (fl_w L2 ca ad m) H → va_S (fl_A L2 ad) s.heap H locs → lv_has ls 15 [(0, .ref (ad 0)), (4, .int x4), (7, .int x7), (8, .int x8), (9, .int x9), (10, .int x10), (11, .int x11), (12, .int x12)] → W p l e (fl_rm 6) s mm args below meth c H locs 0 0 (MQ below (fl_Q L2 D ca ad (some (.int v')) M') args s 0 0 (fl_A L2 ad)) (F0 mm 311 ls []))) → (∀ (x4 : Int32) (x8 : Int32) (x9 : Int32) (x10 : Int32) (x11 : Int32) (x12 : Int32) (x13 : Int32) (x14 : Int32) (t0 : Int32) (m : Mem) (H : Heap) (locs : List Loc) (ls : Array Slot), J_X9_rivals_394 N (l_X9_rivals N n) x4 x8 x9 x10 x11 x12 x13 x14 t0 m = some (v', M') → va_P D vwCl (fl_w L2 ca ad m) H → va_S (fl_A L2 ad) s.heap H locs → lv_has ls 15 [(0, .ref (ad 0)), (4, .int x4), (8, .int x8), (9, .int x9), (10, .int x10), (11, .int x11), (12, .int x12), (13, .int x13), (14, .int x14)] → W p l e (fl_rm 6) s mm args below meth c H locs 0 0 (MQ below (fl_Q L2 D ca ad (some (.int v')) M') args s 0 0 (fl_A L2 ad)) (F0 mm 394 ls [.int t0])) ∧ (∀ (x4 : Int32) (x7 : Int32) (x8 : Int32) (x9 : Int32) (x10 : Int32) (x11 : Int32) (x12 : Int32) (x13 : Int32) (t0 : Int32) (m : Mem) (H : Heap) (locs : List Loc) (ls : Array Slot), J_X9_rivals_380 N (l_X9_rivals N n) x4 x7 x8 x9 x10 x11 x12 x13 t0 m = some (v', M') → va_P D vwCl (fl_w L2 ca ad m) H → va_S (fl_A L2 ad) s.heap H locs → lv_has ls 15 [(0, .ref (ad 0)), (4, .int x4), (7, .int x7), (8, .int x8), (9, .int x9), (10, .int x10), (11, .int x11), (12, .int x12), (13, .int x13)] → W p l e (fl_rm 6) s mm args below meth c H locs 0 0 (MQ below (fl_Q L2 D ca ad (some (.int v')) M') args s 0 0 (fl_A L2 ad)) (F0 mm 380 ls [.int t0])) ∧ (∀ (x4 : Int32) (x7 : Int32) (x8 : Int32) (x9 : Int32) (x10 : Int32) (x11 : Int32) (x12 : Int32) (x13 : Int32) (m : Mem) (H : Heap) (locs : List Loc) (ls : Array Slot), J_X9_rivals_379 N (l_X9_rivals N n) x4 x7 x8 x9 x10 x11 x12 x13 m = some (v', M') → va_P D vwCl (fl_w L2 ca ad m) H → va_S (fl_A L2 ad) s.heap H locs → lv_has ls 15 [(0, .ref (ad 0)), (4, .int x4), (7, .int x7), (8, .int x8), (9, .int x9), (10, .int x10), (11, .int x11), (12, .int x12), (13, .int x13)] → W p l e (fl_rm 6) s mm args below meth c H locs 0 0 (MQ below (fl_Q L2 D ca ad (some (.int v')) M') args s 0 0 (fl_A L2 ad)) (F0 mm 379 ls [])) ∧ (∀ (x4 : Int32) (x7 : Int32) (x8 : Int32) (x9 : Int32) (x10 : Int32) (x11 : Int32) (x12 : Int32) (x13 : Int32) (m : Mem) (H : Heap) (locs : List Loc) (ls : Array Slot), J_X9_rivals_375 N (l_X9_rivals N n) x4 x7 x8 x9 x10 x11 x12 x13 m = some (v', M') → va_P D vwCl (fl_w L2 ca ad m) H → va_S (fl_A L2 ad) s.heap H locs → lv_has ls 15 [(0, .ref (ad 0)), (4, .int x4), (7, .int x7), (8, .int x8), (9, .int x9), (10, .int x10), (11, .int x11), (12, .int x12), (13, .int x13)] → W p l e (fl_rm 6) s mm args below meth c H locs 0 0 (MQ below (fl_Q L2 D ca ad (some (.int v')) M') args s 0 0 (fl_A L2 ad)) (F0 mm 375 ls [])) ∧ (∀ (x1 : Int32) (x2 : Int32) (x4 : Int32) (x5 : Int32) (x6 : Int32) (x7 : Int32) (x8 : Int32) (x9 : Int32) (m : Mem) (H : Heap) (locs : List Loc) (ls : Array Slot), J_X9_rivals_241 N (l_X9_rivals N n) x1 x2 x4 x5 x6 x7 x8 x9 m = some (v', M') → va_P D vwCl (fl_w L2 ca ad m) H → va_S (fl_A L2 ad) s.heap H locs → lv_has ls 15 [(0, .ref (ad 0)), (1, .int x1), (2, .int x2), (4, .int x4), (5, .int x5), (6, .int x6), (7, .int x7), (8, .int x8), (9, .int x9)] → W p l e (fl_rm 6) s mm args below meth c H locs 0 0 (MQ below (fl_Q L2 D ca ad (some (.int v')) M') args s 0 0 (fl_A L2 ad)) (F0 mm 241 ls [])) ∧ (∀ (x1 : Int32) (x2 : Int32) (x4 : Int32) (x5 : Int32) (x6 : Int32) (x7 : Int32) (x8 : Int32) (x9 : Int32) (x10 : Int32) (x11 : Int32) (t0 : Int32) (m : Mem) (H : Heap) (locs : List Loc) (ls : Array Slot), J_X9_rivals_213 N (l_X9_rivals N n) x1 x2 x4 x5 x6 x7 x8 x9 x10 x11 t0 m = some (v', M') → va_P D vwCl (fl_w L2 ca ad m) H → va_S (fl_A L2 ad) s.heap H locs → lv_has ls 15 [(0, .ref (ad 0)), (1, .int x1), (2, .int x2), (4, .int x4), (5, .int x5), (6, .int x6), (7, .int x7), (8, .int x8), (9, .int x9), (10, .int x10), (11, .int x11)] → W p l e (fl_rm 6) s mm args below meth c H locs 0 0 (MQ below (fl_Q L2 D ca ad (some (.int v')) M') args s 0 0 (fl_A L2 ad)) (F0 mm 213 ls [.int t0])) ∧ (∀ (x1 : Int32) (x2 : Int32) (x4 : Int32) (x5 : Int32) (x6 : Int32) (x7 : Int32) (x8 : Int32) (x9 : Int32) (x10 : Int32) (x11 : Int32) (x12 : Int32) (t1 : Int32) (t2 : Int32) (m : Mem) (H : Heap) (locs : List Loc) (ls : Array Slot), J_X9_rivals_200 N (l_X9_rivals N n) x1 x2 x4 x5 x6 x7 x8 x9 x10 x11 x12 t1 t2 m = some (v', M') → va_P D vwCl (fl_w L2 ca ad m) H → va_S (fl_A L2 ad) s.heap H locs → lv_has ls 15 [(0, .ref (ad 0)), (1, .int x1), (2, .int x2), (4, .int x4), (5, .int x5), (6, .int x6), (7, .int x7), (8, .int x8), (9, .int x9), (10, .int x10), (11, .int x11), (12, .int x12)] → W p l e (fl_rm 6) s mm args below meth c H locs 0 0 (MQ below (fl_Q L2 D ca ad (some (.int v')) M') args s 0 0 (fl_A L2 ad)) (F0 mm 200 ls [.int t2, .int t1, .ref (ad 0)])) ∧ (∀ (x1 : Int32) (x2 : Int32) (x4 : Int32) (x5 : Int32) (x6 : Int32) (x7 : Int32) (x8 : Int32) (x10 : Int32) (x11 : Int32) (x12 : Int32) (t0 : Int32) (m : Mem) (H : Heap) (locs : List Loc) (ls : Array Slot), J_X9_rivals_178 N (l_X9_rivals N n) x1 x2 x4 x5 x6 x7 x8 x10 x11 x12 t0 m = some (v', M') → va_P D vwCl (fl_w L2 ca ad m) H → va_S (fl_A L2 ad) s.heap H locs → lv_has ls 15 [(0, .ref (ad 0)), (1, .int x1), (2, .int x2), (4, .int x4), (5, .int x5), (6, .int x6), (7, .int x7), (8, .int x8), (10, .int x10), (11, .int x11), (12, .int x12)] → W p l e (fl_rm 6) s mm args below meth c H locs 0 0 (MQ below (fl_Q L2 D ca ad (some (.int v')) M') args s 0 0 (fl_A L2 ad)) (F0 mm 178 ls [.int t0])) ∧ (∀ (x1 : Int32) (x2 : Int32) (x4 : Int32) (t0 : Int32) (m : Mem) (H : Heap) (locs : List Loc) (ls : Array Slot), J_X9_rivals_68 N (l_X9_rivals N n) x1 x2 x4 t0 m = some (v', M') → va_P D vwCl (fl_w L2 ca ad m) H → va_S (fl_A L2 ad) s.heap H locs → lv_has ls 15 [(0, .ref (ad 0)), (1, .int x1), (2, .int x2), (4, .int x4)] → W p l e (fl_rm 6) s mm args below meth c H locs 0 0 (MQ below (fl_Q L2 D ca ad (some (.int v')) M') args s 0 0 (fl_A L2 ad)) (F0 mm 68 ls [.int t0])) := by
    intro n ih
    obtain ⟨ih_76, ih_101, ih_125, ih_280, ih_297, ih_311⟩ := ih
    have j_394 : ∀ (x4 : Int32) (x8 : Int32) (x9 : Int32) (x10 : Int32) (x11 : Int32) (x12 : Int32) (x13 : Int32) (x14 : Int32) (t0 : Int32) (m : Mem) (H : Heap) (locs : List Loc) (ls : Array Slot), J_X9_rivals_394 N (l_X9_rivals N n) x4 x8 x9 x10 x11 x12 x13 x14 t0 m = some (v', M') → va_P D vwCl (fl_w L2 ca ad m) H → va_S (fl_A L2 ad) s.heap H locs → lv_has ls 15 [(0, .ref (ad 0)), (4, .int x4), (8, .int x8), (9, .int x9), (10, .int x10), (11, .int x11), (12, .int x12), (13, .int x13), (14, .int x14)] → W p l e (fl_rm 6) s mm args below meth c H locs 0 0 (MQ below (fl_Q L2 D ca ad (some (.int v')) M') args s 0 0 (fl_A L2 ad)) (F0 mm 394 ls [.int t0]) := by
      intro x4 x8 x9 x10 x11 x12 x13 x14 t0 m H locs ls h hP hS hl
      unfold J_X9_rivals_394 at h
      refine lv_istore (lv' := [(7, .int t0), (0, .ref (ad 0)), (4, .int x4), (8, .int x8), (9, .int x9), (10, .int x10), (11, .int x11), (12, .int x12), (13, .int x13), (14, .int x14)]) hx hb dX9_rivals_394 hl (by decide) rfl (fun ls hl => ?_)
      refine lv_iload hx hb dX9_rivals_396 (lv_at hl 9 rfl) ?_
      refine lv_if_eq (tgt := 406) hx hb dX9_rivals_398 (by decide) (fun c90 => ?_) (fun c90 => ?_)
      · replace h := fl_if_t h c90
        refine lv_iload hx hb dX9_rivals_406 (lv_at hl 6 rfl) ?_
        refine lv_istore (lv' := [(11, .int x11), (7, .int t0), (0, .ref (ad 0)), (4, .int x4), (8, .int x8), (9, .int x9), (10, .int x10), (12, .int x12), (13, .int x13), (14, .int x14)]) hx hb dX9_rivals_408 hl (by decide) rfl (fun ls hl => ?_)
        refine lv_iinc (v := x12 + 1) (lv' := [(12, .int (x12 + 1)), (11, .int x11), (7, .int t0), (0, .ref (ad 0)), (4, .int x4), (8, .int x8), (9, .int x9), (10, .int x10), (13, .int x13), (14, .int x14)]) hx hb dX9_rivals_410 hl (k := 7) rfl rfl (by decide) rfl (fun ls hl => ?_)
        refine lv_goto (tgt := 311) hx hb dX9_rivals_413 (by decide) ?_
        exact ih_311 _ _ _ _ _ _ _ _ _ _ _ h hP hS (lv_sub hl [3, 4, 2, 5, 6, 7, 1, 0] rfl)
      · replace h := fl_if_f h c90
        refine lv_iload hx hb dX9_rivals_401 (lv_at hl 8 rfl) ?_
        refine lv_goto (tgt := 408) hx hb dX9_rivals_403 (by decide) ?_
        refine lv_istore (lv' := [(11, .int x13), (7, .int t0), (0, .ref (ad 0)), (4, .int x4), (8, .int x8), (9, .int x9), (10, .int x10), (12, .int x12), (13, .int x13), (14, .int x14)]) hx hb dX9_rivals_408 hl (by decide) rfl (fun ls hl => ?_)
        refine lv_iinc (v := x12 + 1) (lv' := [(12, .int (x12 + 1)), (11, .int x13), (7, .int t0), (0, .ref (ad 0)), (4, .int x4), (8, .int x8), (9, .int x9), (10, .int x10), (13, .int x13), (14, .int x14)]) hx hb dX9_rivals_410 hl (k := 7) rfl rfl (by decide) rfl (fun ls hl => ?_)
        refine lv_goto (tgt := 311) hx hb dX9_rivals_413 (by decide) ?_
        exact ih_311 _ _ _ _ _ _ _ _ _ _ _ h hP hS (lv_sub hl [3, 4, 2, 5, 6, 7, 1, 0] rfl)
    have j_380 : ∀ (x4 : Int32) (x7 : Int32) (x8 : Int32) (x9 : Int32) (x10 : Int32) (x11 : Int32) (x12 : Int32) (x13 : Int32) (t0 : Int32) (m : Mem) (H : Heap) (locs : List Loc) (ls : Array Slot), J_X9_rivals_380 N (l_X9_rivals N n) x4 x7 x8 x9 x10 x11 x12 x13 t0 m = some (v', M') → va_P D vwCl (fl_w L2 ca ad m) H → va_S (fl_A L2 ad) s.heap H locs → lv_has ls 15 [(0, .ref (ad 0)), (4, .int x4), (7, .int x7), (8, .int x8), (9, .int x9), (10, .int x10), (11, .int x11), (12, .int x12), (13, .int x13)] → W p l e (fl_rm 6) s mm args below meth c H locs 0 0 (MQ below (fl_Q L2 D ca ad (some (.int v')) M') args s 0 0 (fl_A L2 ad)) (F0 mm 380 ls [.int t0]) := by
      intro x4 x7 x8 x9 x10 x11 x12 x13 t0 m H locs ls h hP hS hl
      unfold J_X9_rivals_380 at h
      refine lv_istore (lv' := [(14, .int t0), (0, .ref (ad 0)), (4, .int x4), (7, .int x7), (8, .int x8), (9, .int x9), (10, .int x10), (11, .int x11), (12, .int x12), (13, .int x13)]) hx hb dX9_rivals_380 hl (by decide) rfl (fun ls hl => ?_)
      refine lv_iload hx hb dX9_rivals_382 (lv_at hl 0 rfl) ?_
      refine lv_if_eq (tgt := 392) hx hb dX9_rivals_384 (by decide) (fun c89 => ?_) (fun c89 => ?_)
      · replace h := fl_if_t h c89
        refine lv_iload hx hb dX9_rivals_392 (lv_at hl 3 rfl) ?_
        exact j_394 _ _ _ _ _ _ _ _ _ _ _ _ _ h hP hS (lv_sub hl [1, 2, 4, 5, 6, 7, 8, 9, 0] rfl)
      · replace h := fl_if_f h c89
        refine lv_iload hx hb dX9_rivals_387 (lv_at hl 8 rfl) ?_
        refine lv_goto (tgt := 394) hx hb dX9_rivals_389 (by decide) ?_
        exact j_394 _ _ _ _ _ _ _ _ _ _ _ _ _ h hP hS (lv_sub hl [1, 2, 4, 5, 6, 7, 8, 9, 0] rfl)
    have j_379 : ∀ (x4 : Int32) (x7 : Int32) (x8 : Int32) (x9 : Int32) (x10 : Int32) (x11 : Int32) (x12 : Int32) (x13 : Int32) (m : Mem) (H : Heap) (locs : List Loc) (ls : Array Slot), J_X9_rivals_379 N (l_X9_rivals N n) x4 x7 x8 x9 x10 x11 x12 x13 m = some (v', M') → va_P D vwCl (fl_w L2 ca ad m) H → va_S (fl_A L2 ad) s.heap H locs → lv_has ls 15 [(0, .ref (ad 0)), (4, .int x4), (7, .int x7), (8, .int x8), (9, .int x9), (10, .int x10), (11, .int x11), (12, .int x12), (13, .int x13)] → W p l e (fl_rm 6) s mm args below meth c H locs 0 0 (MQ below (fl_Q L2 D ca ad (some (.int v')) M') args s 0 0 (fl_A L2 ad)) (F0 mm 379 ls []) := by
      intro x4 x7 x8 x9 x10 x11 x12 x13 m H locs ls h hP hS hl
      unfold J_X9_rivals_379 at h
      refine lv_iconst (v := (0 : Int32)) hx hb dX9_rivals_379 (by decide) ?_
      exact j_380 _ _ _ _ _ _ _ _ _ _ _ _ _ h hP hS (lv_sub hl [0, 1, 2, 3, 4, 5, 6, 7, 8] rfl)
    have j_375 : ∀ (x4 : Int32) (x7 : Int32) (x8 : Int32) (x9 : Int32) (x10 : Int32) (x11 : Int32) (x12 : Int32) (x13 : Int32) (m : Mem) (H : Heap) (locs : List Loc) (ls : Array Slot), J_X9_rivals_375 N (l_X9_rivals N n) x4 x7 x8 x9 x10 x11 x12 x13 m = some (v', M') → va_P D vwCl (fl_w L2 ca ad m) H → va_S (fl_A L2 ad) s.heap H locs → lv_has ls 15 [(0, .ref (ad 0)), (4, .int x4), (7, .int x7), (8, .int x8), (9, .int x9), (10, .int x10), (11, .int x11), (12, .int x12), (13, .int x13)] → W p l e (fl_rm 6) s mm args below meth c H locs 0 0 (MQ below (fl_Q L2 D ca ad (some (.int v')) M') args s 0 0 (fl_A L2 ad)) (F0 mm 375 ls []) := by
      intro x4 x7 x8 x9 x10 x11 x12 x13 m H locs ls h hP hS hl
      unfold J_X9_rivals_375 at h
      refine lv_iconst (v := (1 : Int32)) hx hb dX9_rivals_375 (by decide) ?_
      refine lv_goto (tgt := 380) hx hb dX9_rivals_376 (by decide) ?_
      exact j_380 _ _ _ _ _ _ _ _ _ _ _ _ _ h hP hS (lv_sub hl [0, 1, 2, 3, 4, 5, 6, 7, 8] rfl)
    have j_241 : ∀ (x1 : Int32) (x2 : Int32) (x4 : Int32) (x5 : Int32) (x6 : Int32) (x7 : Int32) (x8 : Int32) (x9 : Int32) (m : Mem) (H : Heap) (locs : List Loc) (ls : Array Slot), J_X9_rivals_241 N (l_X9_rivals N n) x1 x2 x4 x5 x6 x7 x8 x9 m = some (v', M') → va_P D vwCl (fl_w L2 ca ad m) H → va_S (fl_A L2 ad) s.heap H locs → lv_has ls 15 [(0, .ref (ad 0)), (1, .int x1), (2, .int x2), (4, .int x4), (5, .int x5), (6, .int x6), (7, .int x7), (8, .int x8), (9, .int x9)] → W p l e (fl_rm 6) s mm args below meth c H locs 0 0 (MQ below (fl_Q L2 D ca ad (some (.int v')) M') args s 0 0 (fl_A L2 ad)) (F0 mm 241 ls []) := by
      intro x1 x2 x4 x5 x6 x7 x8 x9 m H locs ls h hP hS hl
      unfold J_X9_rivals_241 at h
      refine lv_aload_n hx hb dX9_rivals_241 rfl (lv_at hl 0 rfl) ?_
      refine fl_getr X hP fk_X9_61 k2_0 rfl dX9_rivals_242 ?_
      refine lv_iload hx hb dX9_rivals_245 (lv_at hl 6 rfl) ?_
      refine lv_iload hx hb dX9_rivals_247 (lv_at hl 8 rfl) ?_
      refine lv_if_eq (tgt := 257) hx hb dX9_rivals_249 (by decide) (fun c59 => ?_) (fun c59 => ?_)
      · replace h := fl_if_t h c59
        refine lv_ldc (v := (1000000 : Int32)) hx hb hown (hts _ wq_1014) dX9_rivals_257 ?_
        obtain ⟨hk60, h⟩ := fl_ck_e h
        obtain ⟨m61, em62, h⟩ := fl_lm_e h
        refine fl_iast X hP hS k2_18 hk60 dX9_rivals_259 (fun H locs hP hS => ?_)
        have hP : va_P D vwCl (fl_w L2 ca ad m61) H := by rw [em62]; exact hP
        refine lv_iinc (v := x7 + 1) (lv' := [(7, .int (x7 + 1)), (0, .ref (ad 0)), (1, .int x1), (2, .int x2), (4, .int x4), (5, .int x5), (6, .int x6), (8, .int x8), (9, .int x9)]) hx hb dX9_rivals_260 hl (k := 6) rfl rfl (by decide) rfl (fun ls hl => ?_)
        refine lv_goto (tgt := 101) hx hb dX9_rivals_263 (by decide) ?_
        exact ih_101 _ _ _ _ _ _ _ _ _ _ h hP hS (lv_sub hl [1, 2, 3, 4, 5, 6, 0] rfl)
      · replace h := fl_if_f h c59
        refine lv_iload hx hb dX9_rivals_252 (lv_at hl 7 rfl) ?_
        refine lv_goto (tgt := 259) hx hb dX9_rivals_254 (by decide) ?_
        obtain ⟨hk63, h⟩ := fl_ck_e h
        obtain ⟨m64, em65, h⟩ := fl_lm_e h
        refine fl_iast X hP hS k2_18 hk63 dX9_rivals_259 (fun H locs hP hS => ?_)
        have hP : va_P D vwCl (fl_w L2 ca ad m64) H := by rw [em65]; exact hP
        refine lv_iinc (v := x7 + 1) (lv' := [(7, .int (x7 + 1)), (0, .ref (ad 0)), (1, .int x1), (2, .int x2), (4, .int x4), (5, .int x5), (6, .int x6), (8, .int x8), (9, .int x9)]) hx hb dX9_rivals_260 hl (k := 6) rfl rfl (by decide) rfl (fun ls hl => ?_)
        refine lv_goto (tgt := 101) hx hb dX9_rivals_263 (by decide) ?_
        exact ih_101 _ _ _ _ _ _ _ _ _ _ h hP hS (lv_sub hl [1, 2, 3, 4, 5, 6, 0] rfl)
    have j_213 : ∀ (x1 : Int32) (x2 : Int32) (x4 : Int32) (x5 : Int32) (x6 : Int32) (x7 : Int32) (x8 : Int32) (x9 : Int32) (x10 : Int32) (x11 : Int32) (t0 : Int32) (m : Mem) (H : Heap) (locs : List Loc) (ls : Array Slot), J_X9_rivals_213 N (l_X9_rivals N n) x1 x2 x4 x5 x6 x7 x8 x9 x10 x11 t0 m = some (v', M') → va_P D vwCl (fl_w L2 ca ad m) H → va_S (fl_A L2 ad) s.heap H locs → lv_has ls 15 [(0, .ref (ad 0)), (1, .int x1), (2, .int x2), (4, .int x4), (5, .int x5), (6, .int x6), (7, .int x7), (8, .int x8), (9, .int x9), (10, .int x10), (11, .int x11)] → W p l e (fl_rm 6) s mm args below meth c H locs 0 0 (MQ below (fl_Q L2 D ca ad (some (.int v')) M') args s 0 0 (fl_A L2 ad)) (F0 mm 213 ls [.int t0]) := by
      intro x1 x2 x4 x5 x6 x7 x8 x9 x10 x11 t0 m H locs ls h hP hS hl
      unfold J_X9_rivals_213 at h
      refine lv_istore (lv' := [(13, .int t0), (0, .ref (ad 0)), (1, .int x1), (2, .int x2), (4, .int x4), (5, .int x5), (6, .int x6), (7, .int x7), (8, .int x8), (9, .int x9), (10, .int x10), (11, .int x11)]) hx hb dX9_rivals_213 hl (by decide) rfl (fun ls hl => ?_)
      refine lv_iload hx hb dX9_rivals_215 (lv_at hl 8 rfl) ?_
      refine lv_iload hx hb dX9_rivals_217 (lv_at hl 11 rfl) ?_
      refine lv_iconst (v := (2 : Int32)) hx hb dX9_rivals_219 (by decide) ?_
      refine lv_irem hx hb dX9_rivals_220 (by decide) ?_
      refine lv_if_ne (tgt := 229) hx hb dX9_rivals_221 (by decide) (fun c84 => ?_) (fun c84 => ?_)
      · replace h := fl_if_f h c84
        refine lv_iload hx hb dX9_rivals_229 (lv_at hl 0 rfl) ?_
        refine lv_ineg hx hb dX9_rivals_231 ?_
        refine lv_iadd hx hb dX9_rivals_232 ?_
        obtain ⟨z85, ez86, h⟩ := fl_li_e h
        refine fl_topi ez86 ?_
        refine lv_istore (lv' := [(8, .int z85), (13, .int t0), (0, .ref (ad 0)), (1, .int x1), (2, .int x2), (4, .int x4), (5, .int x5), (6, .int x6), (7, .int x7), (9, .int x9), (10, .int x10), (11, .int x11)]) hx hb dX9_rivals_233 hl (by decide) rfl (fun ls hl => ?_)
        refine lv_iinc (v := x11 + 1) (lv' := [(11, .int (x11 + 1)), (8, .int z85), (13, .int t0), (0, .ref (ad 0)), (1, .int x1), (2, .int x2), (4, .int x4), (5, .int x5), (6, .int x6), (7, .int x7), (9, .int x9), (10, .int x10)]) hx hb dX9_rivals_235 hl (k := 11) rfl rfl (by decide) rfl (fun ls hl => ?_)
        refine lv_goto (tgt := 125) hx hb dX9_rivals_238 (by decide) ?_
        exact ih_125 _ _ _ _ _ _ _ _ _ _ _ _ _ _ h hP hS (lv_sub hl [3, 4, 5, 6, 7, 8, 9, 1, 10, 11, 0] rfl)
      · replace h := fl_if_t h c84
        refine lv_iload hx hb dX9_rivals_224 (lv_at hl 0 rfl) ?_
        refine lv_goto (tgt := 232) hx hb dX9_rivals_226 (by decide) ?_
        refine lv_iadd hx hb dX9_rivals_232 ?_
        obtain ⟨z87, ez88, h⟩ := fl_li_e h
        refine fl_topi ez88 ?_
        refine lv_istore (lv' := [(8, .int z87), (13, .int t0), (0, .ref (ad 0)), (1, .int x1), (2, .int x2), (4, .int x4), (5, .int x5), (6, .int x6), (7, .int x7), (9, .int x9), (10, .int x10), (11, .int x11)]) hx hb dX9_rivals_233 hl (by decide) rfl (fun ls hl => ?_)
        refine lv_iinc (v := x11 + 1) (lv' := [(11, .int (x11 + 1)), (8, .int z87), (13, .int t0), (0, .ref (ad 0)), (1, .int x1), (2, .int x2), (4, .int x4), (5, .int x5), (6, .int x6), (7, .int x7), (9, .int x9), (10, .int x10)]) hx hb dX9_rivals_235 hl (k := 11) rfl rfl (by decide) rfl (fun ls hl => ?_)
        refine lv_goto (tgt := 125) hx hb dX9_rivals_238 (by decide) ?_
        exact ih_125 _ _ _ _ _ _ _ _ _ _ _ _ _ _ h hP hS (lv_sub hl [3, 4, 5, 6, 7, 8, 9, 1, 10, 11, 0] rfl)
    have j_200 : ∀ (x1 : Int32) (x2 : Int32) (x4 : Int32) (x5 : Int32) (x6 : Int32) (x7 : Int32) (x8 : Int32) (x9 : Int32) (x10 : Int32) (x11 : Int32) (x12 : Int32) (t1 : Int32) (t2 : Int32) (m : Mem) (H : Heap) (locs : List Loc) (ls : Array Slot), J_X9_rivals_200 N (l_X9_rivals N n) x1 x2 x4 x5 x6 x7 x8 x9 x10 x11 x12 t1 t2 m = some (v', M') → va_P D vwCl (fl_w L2 ca ad m) H → va_S (fl_A L2 ad) s.heap H locs → lv_has ls 15 [(0, .ref (ad 0)), (1, .int x1), (2, .int x2), (4, .int x4), (5, .int x5), (6, .int x6), (7, .int x7), (8, .int x8), (9, .int x9), (10, .int x10), (11, .int x11), (12, .int x12)] → W p l e (fl_rm 6) s mm args below meth c H locs 0 0 (MQ below (fl_Q L2 D ca ad (some (.int v')) M') args s 0 0 (fl_A L2 ad)) (F0 mm 200 ls [.int t2, .int t1, .ref (ad 0)]) := by
      intro x1 x2 x4 x5 x6 x7 x8 x9 x10 x11 x12 t1 t2 m H locs ls h hP hS hl
      unfold J_X9_rivals_200 at h
      refine lv_iload hx hb dX9_rivals_200 (lv_at hl 11 rfl) ?_
      obtain ⟨r80, m81, hz82, h⟩ := fl_bd_e h
      refine fl_callV (av := [.int t1, .int t2, .int x12]) X hP hS hl.1 mv_X9_203 (c_X9_ridesAsOneDoes l D ca ad hi t1 t2 x12 m _ _ hz82) k2_0 (fl_fit_rm (by omega) (by decide)) rfl (Nat.le_of_ble_eq_true rfl) dX9_rivals_202 rfl (fun H locs hP hS => ?_)
      refine W.eq (g2 := F0 mm 205 ls [.int r80]) rfl ?_
      refine lv_if_eq (tgt := 212) hx hb dX9_rivals_205 (by decide) (fun c83 => ?_) (fun c83 => ?_)
      · replace h := fl_if_t h c83
        refine lv_iconst (v := (0 : Int32)) hx hb dX9_rivals_212 (by decide) ?_
        exact j_213 _ _ _ _ _ _ _ _ _ _ _ _ _ _ _ h hP hS (lv_sub hl [0, 1, 2, 3, 4, 5, 6, 7, 8, 9, 10] rfl)
      · replace h := fl_if_f h c83
        refine lv_iconst (v := (1 : Int32)) hx hb dX9_rivals_208 (by decide) ?_
        refine lv_goto (tgt := 213) hx hb dX9_rivals_209 (by decide) ?_
        exact j_213 _ _ _ _ _ _ _ _ _ _ _ _ _ _ _ h hP hS (lv_sub hl [0, 1, 2, 3, 4, 5, 6, 7, 8, 9, 10] rfl)
    have j_178 : ∀ (x1 : Int32) (x2 : Int32) (x4 : Int32) (x5 : Int32) (x6 : Int32) (x7 : Int32) (x8 : Int32) (x10 : Int32) (x11 : Int32) (x12 : Int32) (t0 : Int32) (m : Mem) (H : Heap) (locs : List Loc) (ls : Array Slot), J_X9_rivals_178 N (l_X9_rivals N n) x1 x2 x4 x5 x6 x7 x8 x10 x11 x12 t0 m = some (v', M') → va_P D vwCl (fl_w L2 ca ad m) H → va_S (fl_A L2 ad) s.heap H locs → lv_has ls 15 [(0, .ref (ad 0)), (1, .int x1), (2, .int x2), (4, .int x4), (5, .int x5), (6, .int x6), (7, .int x7), (8, .int x8), (10, .int x10), (11, .int x11), (12, .int x12)] → W p l e (fl_rm 6) s mm args below meth c H locs 0 0 (MQ below (fl_Q L2 D ca ad (some (.int v')) M') args s 0 0 (fl_A L2 ad)) (F0 mm 178 ls [.int t0]) := by
      intro x1 x2 x4 x5 x6 x7 x8 x10 x11 x12 t0 m H locs ls h hP hS hl
      unfold J_X9_rivals_178 at h
      refine lv_istore (lv' := [(9, .int t0), (0, .ref (ad 0)), (1, .int x1), (2, .int x2), (4, .int x4), (5, .int x5), (6, .int x6), (7, .int x7), (8, .int x8), (10, .int x10), (11, .int x11), (12, .int x12)]) hx hb dX9_rivals_178 hl (by decide) rfl (fun ls hl => ?_)
      refine lv_iload hx hb dX9_rivals_180 (lv_at hl 0 rfl) ?_
      refine lv_if_eq (tgt := 235) hx hb dX9_rivals_182 (by decide) (fun c66 => ?_) (fun c66 => ?_)
      · replace h := fl_if_t h c66
        refine lv_iinc (v := x11 + 1) (lv' := [(11, .int (x11 + 1)), (9, .int t0), (0, .ref (ad 0)), (1, .int x1), (2, .int x2), (4, .int x4), (5, .int x5), (6, .int x6), (7, .int x7), (8, .int x8), (10, .int x10), (12, .int x12)]) hx hb dX9_rivals_235 hl (k := 10) rfl rfl (by decide) rfl (fun ls hl => ?_)
        refine lv_goto (tgt := 125) hx hb dX9_rivals_238 (by decide) ?_
        exact ih_125 _ _ _ _ _ _ _ _ _ _ _ _ _ _ h hP hS (lv_sub hl [2, 3, 4, 5, 6, 7, 8, 9, 1, 10, 0] rfl)
      · replace h := fl_if_f h c66
        refine lv_aload_n hx hb dX9_rivals_185 rfl (lv_at hl 1 rfl) ?_
        refine lv_bipush (v := (19 : Int32)) hx hb dX9_rivals_186 (by decide) ?_
        refine lv_iload hx hb dX9_rivals_188 (lv_at hl 10 rfl) ?_
        refine lv_iconst (v := (2 : Int32)) hx hb dX9_rivals_190 (by decide) ?_
        refine lv_irem hx hb dX9_rivals_191 (by decide) ?_
        refine lv_if_ne (tgt := 199) hx hb dX9_rivals_192 (by decide) (fun c67 => ?_) (fun c67 => ?_)
        · replace h := fl_if_f h c67
          refine lv_iload_n hx hb dX9_rivals_199 rfl (lv_at hl 3 rfl) ?_
          exact j_200 _ _ _ _ _ _ _ _ _ _ _ _ _ _ _ _ _ h hP hS (lv_sub hl [1, 2, 3, 4, 5, 6, 7, 8, 0, 9, 10, 11] rfl)
        · replace h := fl_if_t h c67
          refine lv_iload_n hx hb dX9_rivals_195 rfl (lv_at hl 2 rfl) ?_
          refine lv_goto (tgt := 200) hx hb dX9_rivals_196 (by decide) ?_
          exact j_200 _ _ _ _ _ _ _ _ _ _ _ _ _ _ _ _ _ h hP hS (lv_sub hl [1, 2, 3, 4, 5, 6, 7, 8, 0, 9, 10, 11] rfl)
    have j_68 : ∀ (x1 : Int32) (x2 : Int32) (x4 : Int32) (t0 : Int32) (m : Mem) (H : Heap) (locs : List Loc) (ls : Array Slot), J_X9_rivals_68 N (l_X9_rivals N n) x1 x2 x4 t0 m = some (v', M') → va_P D vwCl (fl_w L2 ca ad m) H → va_S (fl_A L2 ad) s.heap H locs → lv_has ls 15 [(0, .ref (ad 0)), (1, .int x1), (2, .int x2), (4, .int x4)] → W p l e (fl_rm 6) s mm args below meth c H locs 0 0 (MQ below (fl_Q L2 D ca ad (some (.int v')) M') args s 0 0 (fl_A L2 ad)) (F0 mm 68 ls [.int t0]) := by
      intro x1 x2 x4 t0 m H locs ls h hP hS hl
      unfold J_X9_rivals_68 at h
      refine lv_istore (lv' := [(5, .int t0), (0, .ref (ad 0)), (1, .int x1), (2, .int x2), (4, .int x4)]) hx hb dX9_rivals_68 hl (by decide) rfl (fun ls hl => ?_)
      refine lv_iconst (v := (1 : Int32)) hx hb dX9_rivals_70 (by decide) ?_
      refine lv_istore (lv' := [(6, .int (1 : Int32)), (5, .int t0), (0, .ref (ad 0)), (1, .int x1), (2, .int x2), (4, .int x4)]) hx hb dX9_rivals_71 hl (by decide) rfl (fun ls hl => ?_)
      refine lv_iconst (v := (0 : Int32)) hx hb dX9_rivals_73 (by decide) ?_
      refine lv_istore (lv' := [(7, .int (0 : Int32)), (6, .int (1 : Int32)), (5, .int t0), (0, .ref (ad 0)), (1, .int x1), (2, .int x2), (4, .int x4)]) hx hb dX9_rivals_74 hl (by decide) rfl (fun ls hl => ?_)
      exact ih_76 _ _ _ _ _ _ _ _ _ _ h hP hS (lv_sub hl [3, 4, 5, 6, 2, 1, 0] rfl)
    exact ⟨j_394, j_380, j_379, j_375, j_241, j_213, j_200, j_178, j_68⟩
  have key : ∀ n : Nat, (∀ (x1 : Int32) (x2 : Int32) (x4 : Int32) (x5 : Int32) (x6 : Int32) (x7 : Int32) (m : Mem) (H : Heap) (locs : List Loc) (ls : Array Slot), l_X9_rivals N n 1 x1 x2 x4 x5 x6 x7 0 0 0 0 0 m = some (v', M') → va_P D vwCl (fl_w L2 ca ad m) H → va_S (fl_A L2 ad) s.heap H locs → lv_has ls 15 [(0, .ref (ad 0)), (1, .int x1), (2, .int x2), (4, .int x4), (5, .int x5), (6, .int x6), (7, .int x7)] → W p l e (fl_rm 6) s mm args below meth c H locs 0 0 (MQ below (fl_Q L2 D ca ad (some (.int v')) M') args s 0 0 (fl_A L2 ad)) (F0 mm 76 ls [])) ∧ (∀ (x1 : Int32) (x2 : Int32) (x4 : Int32) (x5 : Int32) (x6 : Int32) (x7 : Int32) (m : Mem) (H : Heap) (locs : List Loc) (ls : Array Slot), l_X9_rivals N n 2 x1 x2 x4 x5 x6 x7 0 0 0 0 0 m = some (v', M') → va_P D vwCl (fl_w L2 ca ad m) H → va_S (fl_A L2 ad) s.heap H locs → lv_has ls 15 [(0, .ref (ad 0)), (1, .int x1), (2, .int x2), (4, .int x4), (5, .int x5), (6, .int x6), (7, .int x7)] → W p l e (fl_rm 6) s mm args below meth c H locs 0 0 (MQ below (fl_Q L2 D ca ad (some (.int v')) M') args s 0 0 (fl_A L2 ad)) (F0 mm 101 ls [])) ∧ (∀ (x1 : Int32) (x2 : Int32) (x4 : Int32) (x5 : Int32) (x6 : Int32) (x7 : Int32) (x8 : Int32) (x9 : Int32) (x10 : Int32) (x11 : Int32) (m : Mem) (H : Heap) (locs : List Loc) (ls : Array Slot), l_X9_rivals N n 3 x1 x2 x4 x5 x6 x7 x8 x9 x10 x11 0 m = some (v', M') → va_P D vwCl (fl_w L2 ca ad m) H → va_S (fl_A L2 ad) s.heap H locs → lv_has ls 15 [(0, .ref (ad 0)), (1, .int x1), (2, .int x2), (4, .int x4), (5, .int x5), (6, .int x6), (7, .int x7), (8, .int x8), (9, .int x9), (10, .int x10), (11, .int x11)] → W p l e (fl_rm 6) s mm args below meth c H locs 0 0 (MQ below (fl_Q L2 D ca ad (some (.int v')) M') args s 0 0 (fl_A L2 ad)) (F0 mm 125 ls [])) ∧ (∀ (x4 : Int32) (x7 : Int32) (x8 : Int32) (x9 : Int32) (m : Mem) (H : Heap) (locs : List Loc) (ls : Array Slot), l_X9_rivals N n 4 0 0 x4 0 0 x7 x8 x9 0 0 0 m = some (v', M') → va_P D vwCl (fl_w L2 ca ad m) H → va_S (fl_A L2 ad) s.heap H locs → lv_has ls 15 [(0, .ref (ad 0)), (4, .int x4), (7, .int x7), (8, .int x8), (9, .int x9)] → W p l e (fl_rm 6) s mm args below meth c H locs 0 0 (MQ below (fl_Q L2 D ca ad (some (.int v')) M') args s 0 0 (fl_A L2 ad)) (F0 mm 280 ls [])) ∧ (∀ (x4 : Int32) (x7 : Int32) (x8 : Int32) (x9 : Int32) (x10 : Int32) (m : Mem) (H : Heap) (locs : List Loc) (ls : Array Slot), l_X9_rivals N n 5 0 0 x4 0 0 x7 x8 x9 x10 0 0 m = some (v', M') → va_P D vwCl (fl_w L2 ca ad m) H → va_S (fl_A L2 ad) s.heap H locs → lv_has ls 15 [(0, .ref (ad 0)), (4, .int x4), (7, .int x7), (8, .int x8), (9, .int x9), (10, .int x10)] → W p l e (fl_rm 6) s mm args below meth c H locs 0 0 (MQ below (fl_Q L2 D ca ad (some (.int v')) M') args s 0 0 (fl_A L2 ad)) (F0 mm 297 ls [])) ∧ (∀ (x4 : Int32) (x7 : Int32) (x8 : Int32) (x9 : Int32) (x10 : Int32) (x11 : Int32) (x12 : Int32) (m : Mem) (H : Heap) (locs : List Loc) (ls : Array Slot), l_X9_rivals N n 6 0 0 x4 0 0 x7 x8 x9 x10 x11 x12 m = some (v', M') → va_P D vwCl (fl_w L2 ca ad m) H → va_S (fl_A L2 ad) s.heap H locs → lv_has ls 15 [(0, .ref (ad 0)), (4, .int x4), (7, .int x7), (8, .int x8), (9, .int x9), (10, .int x10), (11, .int x11), (12, .int x12)] → W p l e (fl_rm 6) s mm args below meth c H locs 0 0 (MQ below (fl_Q L2 D ca ad (some (.int v')) M') args s 0 0 (fl_A L2 ad)) (F0 mm 311 ls [])) := by
    intro n
    induction n with
    | zero =>
      refine ⟨?_, ?_, ?_, ?_, ?_, ?_⟩
      · intro x1 x2 x4 x5 x6 x7 m H locs ls h hP hS hl
        have h : (none : Option (Int32 × Mem)) = some (v', M') := h
        cases h
      · intro x1 x2 x4 x5 x6 x7 m H locs ls h hP hS hl
        have h : (none : Option (Int32 × Mem)) = some (v', M') := h
        cases h
      · intro x1 x2 x4 x5 x6 x7 x8 x9 x10 x11 m H locs ls h hP hS hl
        have h : (none : Option (Int32 × Mem)) = some (v', M') := h
        cases h
      · intro x4 x7 x8 x9 m H locs ls h hP hS hl
        have h : (none : Option (Int32 × Mem)) = some (v', M') := h
        cases h
      · intro x4 x7 x8 x9 x10 m H locs ls h hP hS hl
        have h : (none : Option (Int32 × Mem)) = some (v', M') := h
        cases h
      · intro x4 x7 x8 x9 x10 x11 x12 m H locs ls h hP hS hl
        have h : (none : Option (Int32 × Mem)) = some (v', M') := h
        cases h
    | succ n ih =>
      obtain ⟨ih_76, ih_101, ih_125, ih_280, ih_297, ih_311⟩ := ih
      obtain ⟨j_394, j_380, j_379, j_375, j_241, j_213, j_200, j_178, j_68⟩ := js n ⟨ih_76, ih_101, ih_125, ih_280, ih_297, ih_311⟩
      refine ⟨?_, ?_, ?_, ?_, ?_, ?_⟩
      · intro x1 x2 x4 x5 x6 x7 m H locs ls h hP hS hl
        have h : B_X9_rivals_76 N (l_X9_rivals N n) x1 x2 x4 x5 x6 x7 m = some (v', M') := h
        unfold B_X9_rivals_76 at h
        refine lv_iload hx hb dX9_rivals_76 (lv_at hl 6 rfl) ?_
        refine lv_iload hx hb dX9_rivals_78 (lv_at hl 4 rfl) ?_
        refine lv_icmp_ge (tgt := 98) hx hb dX9_rivals_80 (by decide) (fun c31 => ?_) (fun c31 => ?_)
        · replace h := fl_if_t h c31
          refine lv_iconst (v := (0 : Int32)) hx hb dX9_rivals_98 (by decide) ?_
          refine lv_istore (lv' := [(7, .int (0 : Int32)), (0, .ref (ad 0)), (1, .int x1), (2, .int x2), (4, .int x4), (5, .int x5), (6, .int x6)]) hx hb dX9_rivals_99 hl (by decide) rfl (fun ls hl => ?_)
          exact ih_101 _ _ _ _ _ _ _ _ _ _ h hP hS (lv_sub hl [1, 2, 3, 4, 5, 6, 0] rfl)
        · replace h := fl_if_f h c31
          refine lv_iload hx hb dX9_rivals_83 (lv_at hl 5 rfl) ?_
          refine lv_aload_n hx hb dX9_rivals_85 rfl (lv_at hl 0 rfl) ?_
          refine fl_geti X hP fk_X9_99 k2_0 rfl dX9_rivals_86 ?_
          refine lv_imul hx hb dX9_rivals_89 ?_
          obtain ⟨z32, ez33, h⟩ := fl_li_e h
          refine fl_topi ez33 ?_
          refine lv_istore (lv' := [(6, .int z32), (0, .ref (ad 0)), (1, .int x1), (2, .int x2), (4, .int x4), (5, .int x5), (7, .int x7)]) hx hb dX9_rivals_90 hl (by decide) rfl (fun ls hl => ?_)
          refine lv_iinc (v := x7 + 1) (lv' := [(7, .int (x7 + 1)), (6, .int z32), (0, .ref (ad 0)), (1, .int x1), (2, .int x2), (4, .int x4), (5, .int x5)]) hx hb dX9_rivals_92 hl (k := 6) rfl rfl (by decide) rfl (fun ls hl => ?_)
          refine lv_goto (tgt := 76) hx hb dX9_rivals_95 (by decide) ?_
          exact ih_76 _ _ _ _ _ _ _ _ _ _ h hP hS (lv_sub hl [2, 3, 4, 5, 6, 1, 0] rfl)
      · intro x1 x2 x4 x5 x6 x7 m H locs ls h hP hS hl
        have h : B_X9_rivals_101 N (l_X9_rivals N n) x1 x2 x4 x5 x6 x7 m = some (v', M') := h
        unfold B_X9_rivals_101 at h
        refine lv_iload hx hb dX9_rivals_101 (lv_at hl 6 rfl) ?_
        refine lv_iload hx hb dX9_rivals_103 (lv_at hl 5 rfl) ?_
        refine lv_icmp_ge (tgt := 266) hx hb dX9_rivals_105 (by decide) (fun c34 => ?_) (fun c34 => ?_)
        · replace h := fl_if_t h c34
          refine lv_bipush (v := (-4 : Int32)) hx hb dX9_rivals_266 (by decide) ?_
          refine lv_istore (lv' := [(7, .int (-4 : Int32)), (0, .ref (ad 0)), (1, .int x1), (2, .int x2), (4, .int x4), (5, .int x5), (6, .int x6)]) hx hb dX9_rivals_268 hl (by decide) rfl (fun ls hl => ?_)
          refine lv_iload hx hb dX9_rivals_270 (lv_at hl 6 rfl) ?_
          refine lv_istore (lv' := [(8, .int x6), (7, .int (-4 : Int32)), (0, .ref (ad 0)), (1, .int x1), (2, .int x2), (4, .int x4), (5, .int x5), (6, .int x6)]) hx hb dX9_rivals_272 hl (by decide) rfl (fun ls hl => ?_)
          refine lv_iload hx hb dX9_rivals_274 (lv_at hl 6 rfl) ?_
          refine lv_iconst (v := (1 : Int32)) hx hb dX9_rivals_276 (by decide) ?_
          refine lv_isub hx hb dX9_rivals_277 ?_
          obtain ⟨z35, ez36, h⟩ := fl_li_e h
          refine fl_topi ez36 ?_
          refine lv_istore (lv' := [(9, .int z35), (8, .int x6), (7, .int (-4 : Int32)), (0, .ref (ad 0)), (1, .int x1), (2, .int x2), (4, .int x4), (5, .int x5), (6, .int x6)]) hx hb dX9_rivals_278 hl (by decide) rfl (fun ls hl => ?_)
          exact ih_280 _ _ _ _ _ _ _ _ h hP hS (lv_sub hl [3, 6, 2, 1, 0] rfl)
        · replace h := fl_if_f h c34
          refine lv_aload_n hx hb dX9_rivals_108 rfl (lv_at hl 0 rfl) ?_
          obtain ⟨r37, m38, hz39, h⟩ := fl_bd_e h
          refine fl_callV (av := []) X hP hS hl.1 mv_X9_226 (c_X9_tries l D ca ad hi N  m _ _ hz39) k2_0 (fl_fit_rm (by omega) (by decide)) rfl (Nat.le_of_ble_eq_true rfl) dX9_rivals_109 rfl (fun H locs hP hS => ?_)
          refine W.eq (g2 := F0 mm 112 ls []) rfl ?_
          refine lv_iconst (v := (0 : Int32)) hx hb dX9_rivals_112 (by decide) ?_
          refine lv_istore (lv' := [(8, .int (0 : Int32)), (0, .ref (ad 0)), (1, .int x1), (2, .int x2), (4, .int x4), (5, .int x5), (6, .int x6), (7, .int x7)]) hx hb dX9_rivals_113 hl (by decide) rfl (fun ls hl => ?_)
          refine lv_iconst (v := (1 : Int32)) hx hb dX9_rivals_115 (by decide) ?_
          refine lv_istore (lv' := [(9, .int (1 : Int32)), (8, .int (0 : Int32)), (0, .ref (ad 0)), (1, .int x1), (2, .int x2), (4, .int x4), (5, .int x5), (6, .int x6), (7, .int x7)]) hx hb dX9_rivals_116 hl (by decide) rfl (fun ls hl => ?_)
          refine lv_iload hx hb dX9_rivals_118 (lv_at hl 7 rfl) ?_
          refine lv_istore (lv' := [(10, .int x6), (9, .int (1 : Int32)), (8, .int (0 : Int32)), (0, .ref (ad 0)), (1, .int x1), (2, .int x2), (4, .int x4), (5, .int x5), (6, .int x6), (7, .int x7)]) hx hb dX9_rivals_120 hl (by decide) rfl (fun ls hl => ?_)
          refine lv_iconst (v := (0 : Int32)) hx hb dX9_rivals_122 (by decide) ?_
          refine lv_istore (lv' := [(11, .int (0 : Int32)), (10, .int x6), (9, .int (1 : Int32)), (8, .int (0 : Int32)), (0, .ref (ad 0)), (1, .int x1), (2, .int x2), (4, .int x4), (5, .int x5), (6, .int x6), (7, .int x7)]) hx hb dX9_rivals_123 hl (by decide) rfl (fun ls hl => ?_)
          exact ih_125 _ _ _ _ _ _ _ _ _ _ _ _ _ _ h hP hS (lv_sub hl [4, 5, 6, 7, 8, 9, 10, 3, 2, 1, 0] rfl)
      · intro x1 x2 x4 x5 x6 x7 x8 x9 x10 x11 m H locs ls h hP hS hl
        have h : B_X9_rivals_125 N (l_X9_rivals N n) x1 x2 x4 x5 x6 x7 x8 x9 x10 x11 m = some (v', M') := h
        unfold B_X9_rivals_125 at h
        refine lv_iload hx hb dX9_rivals_125 (lv_at hl 10 rfl) ?_
        refine lv_iload hx hb dX9_rivals_127 (lv_at hl 4 rfl) ?_
        refine lv_icmp_ge (tgt := 241) hx hb dX9_rivals_129 (by decide) (fun c45 => ?_) (fun c45 => ?_)
        · replace h := fl_if_t h c45
          exact j_241 _ _ _ _ _ _ _ _ _ _ _ _ h hP hS (lv_sub hl [0, 1, 2, 3, 4, 5, 6, 7, 8] rfl)
        · replace h := fl_if_f h c45
          refine lv_iload hx hb dX9_rivals_132 (lv_at hl 8 rfl) ?_
          refine lv_if_eq (tgt := 241) hx hb dX9_rivals_134 (by decide) (fun c46 => ?_) (fun c46 => ?_)
          · replace h := fl_if_t h c46
            exact j_241 _ _ _ _ _ _ _ _ _ _ _ _ h hP hS (lv_sub hl [0, 1, 2, 3, 4, 5, 6, 7, 8] rfl)
          · replace h := fl_if_f h c46
            refine lv_iload hx hb dX9_rivals_137 (lv_at hl 9 rfl) ?_
            refine lv_aload_n hx hb dX9_rivals_139 rfl (lv_at hl 0 rfl) ?_
            refine fl_geti X hP fk_X9_99 k2_0 rfl dX9_rivals_140 ?_
            obtain ⟨hk47, h⟩ := fl_ck_e h
            refine lv_idiv hx hb dX9_rivals_143 hk47 ?_
            obtain ⟨z48, ez49, h⟩ := fl_li_e h
            refine fl_topi ez49 ?_
            refine lv_istore (lv' := [(10, .int z48), (0, .ref (ad 0)), (1, .int x1), (2, .int x2), (4, .int x4), (5, .int x5), (6, .int x6), (7, .int x7), (8, .int x8), (9, .int x9), (11, .int x11)]) hx hb dX9_rivals_144 hl (by decide) rfl (fun ls hl => ?_)
            refine lv_iload hx hb dX9_rivals_146 (lv_at hl 7 rfl) ?_
            refine lv_iload hx hb dX9_rivals_148 (lv_at hl 0 rfl) ?_
            obtain ⟨hk50, h⟩ := fl_ck_e h
            refine lv_idiv hx hb dX9_rivals_150 hk50 ?_
            refine lv_aload_n hx hb dX9_rivals_151 rfl (lv_at hl 1 rfl) ?_
            refine fl_geti X hP fk_X9_99 k2_0 rfl dX9_rivals_152 ?_
            obtain ⟨hk51, h⟩ := fl_ck_e h
            refine lv_irem hx hb dX9_rivals_155 hk51 ?_
            obtain ⟨z52, ez53, h⟩ := fl_li_e h
            refine fl_topi ez53 ?_
            refine lv_istore (lv' := [(12, .int z52), (10, .int z48), (0, .ref (ad 0)), (1, .int x1), (2, .int x2), (4, .int x4), (5, .int x5), (6, .int x6), (7, .int x7), (8, .int x8), (9, .int x9), (11, .int x11)]) hx hb dX9_rivals_156 hl (by decide) rfl (fun ls hl => ?_)
            refine lv_aload_n hx hb dX9_rivals_158 rfl (lv_at hl 2 rfl) ?_
            refine fl_getr X hP fk_X9_7 k2_0 rfl dX9_rivals_159 ?_
            refine lv_bipush (v := (29 : Int32)) hx hb dX9_rivals_162 (by decide) ?_
            refine fl_iald X hP k2_1 (by decide) dX9_rivals_164 ?_
            refine lv_iload hx hb dX9_rivals_165 (lv_at hl 0 rfl) ?_
            obtain ⟨r54, m55, hz56, h⟩ := fl_bd_e h
            refine fl_callS (av := [.int (m.1 1 29), .int z52]) X hP hS hl.1 ms_X9_197 (c_X9_has l D ca ad hi (m.1 1 29) z52 m _ _ hz56) (fl_fit_rm (by omega) (by decide)) rfl (Nat.le_of_ble_eq_true rfl) dX9_rivals_167 rfl (fun H locs hP hS => ?_)
            refine W.eq (g2 := F0 mm 170 ls [.int r54]) rfl ?_
            refine lv_if_ne (tgt := 177) hx hb dX9_rivals_170 (by decide) (fun c57 => ?_) (fun c57 => ?_)
            · replace h := fl_if_f h c57
              refine lv_iconst (v := (0 : Int32)) hx hb dX9_rivals_177 (by decide) ?_
              exact j_178 _ _ _ _ _ _ _ _ _ _ _ _ _ _ _ h hP hS (lv_sub hl [2, 3, 4, 5, 6, 7, 8, 9, 1, 11, 0] rfl)
            · replace h := fl_if_t h c57
              refine lv_iconst (v := (1 : Int32)) hx hb dX9_rivals_173 (by decide) ?_
              refine lv_goto (tgt := 178) hx hb dX9_rivals_174 (by decide) ?_
              exact j_178 _ _ _ _ _ _ _ _ _ _ _ _ _ _ _ h hP hS (lv_sub hl [2, 3, 4, 5, 6, 7, 8, 9, 1, 11, 0] rfl)
      · intro x4 x7 x8 x9 m H locs ls h hP hS hl
        have h : B_X9_rivals_280 N (l_X9_rivals N n) x4 x7 x8 x9 m = some (v', M') := h
        unfold B_X9_rivals_280 at h
        refine lv_iload hx hb dX9_rivals_280 (lv_at hl 4 rfl) ?_
        refine lv_if_lt (tgt := 437) hx hb dX9_rivals_282 (by decide) (fun c40 => ?_) (fun c40 => ?_)
        · replace h := fl_if_t h c40
          refine lv_iload hx hb dX9_rivals_437 (lv_at hl 1 rfl) ?_
          refine lv_if_ne (tgt := 454) hx hb dX9_rivals_439 (by decide) (fun c41 => ?_) (fun c41 => ?_)
          · replace h := fl_if_f h c41
            refine lv_iload hx hb dX9_rivals_454 (lv_at hl 2 rfl) ?_
            exact fl_iret X hr hlk hP hS dX9_rivals_456 h
          · replace h := fl_if_t h c41
            refine lv_aload_n hx hb dX9_rivals_442 rfl (lv_at hl 0 rfl) ?_
            refine fl_getr X hP fk_X9_61 k2_0 rfl dX9_rivals_443 ?_
            refine lv_iconst (v := (0 : Int32)) hx hb dX9_rivals_446 (by decide) ?_
            refine fl_iald X hP k2_18 (by decide) dX9_rivals_447 ?_
            refine lv_bipush (v := (10 : Int32)) hx hb dX9_rivals_448 (by decide) ?_
            refine lv_iadd hx hb dX9_rivals_450 ?_
            refine lv_goto (tgt := 456) hx hb dX9_rivals_451 (by decide) ?_
            exact fl_iret X hr hlk hP hS dX9_rivals_456 h
        · replace h := fl_if_f h c40
          refine lv_iload hx hb dX9_rivals_285 (lv_at hl 3 rfl) ?_
          refine lv_aload_n hx hb dX9_rivals_287 rfl (lv_at hl 0 rfl) ?_
          refine fl_geti X hP fk_X9_99 k2_0 rfl dX9_rivals_288 ?_
          obtain ⟨hk42, h⟩ := fl_ck_e h
          refine lv_idiv hx hb dX9_rivals_291 hk42 ?_
          obtain ⟨z43, ez44, h⟩ := fl_li_e h
          refine fl_topi ez44 ?_
          refine lv_istore (lv' := [(8, .int z43), (0, .ref (ad 0)), (4, .int x4), (7, .int x7), (9, .int x9)]) hx hb dX9_rivals_292 hl (by decide) rfl (fun ls hl => ?_)
          refine lv_iconst (v := (0 : Int32)) hx hb dX9_rivals_294 (by decide) ?_
          refine lv_istore (lv' := [(10, .int (0 : Int32)), (8, .int z43), (0, .ref (ad 0)), (4, .int x4), (7, .int x7), (9, .int x9)]) hx hb dX9_rivals_295 hl (by decide) rfl (fun ls hl => ?_)
          exact ih_297 _ _ _ _ _ _ _ _ _ h hP hS (lv_sub hl [2, 3, 4, 1, 5, 0] rfl)
      · intro x4 x7 x8 x9 x10 m H locs ls h hP hS hl
        have h : B_X9_rivals_297 N (l_X9_rivals N n) x4 x7 x8 x9 x10 m = some (v', M') := h
        unfold B_X9_rivals_297 at h
        refine lv_iload hx hb dX9_rivals_297 (lv_at hl 5 rfl) ?_
        refine lv_iload hx hb dX9_rivals_299 (lv_at hl 3 rfl) ?_
        refine lv_icmp_ge (tgt := 431) hx hb dX9_rivals_301 (by decide) (fun c58 => ?_) (fun c58 => ?_)
        · replace h := fl_if_t h c58
          refine lv_iinc (v := x9 + (-1)) (lv' := [(9, .int (x9 + (-1))), (0, .ref (ad 0)), (4, .int x4), (7, .int x7), (8, .int x8), (10, .int x10)]) hx hb dX9_rivals_431 hl (k := 4) rfl rfl (by decide) rfl (fun ls hl => ?_)
          refine lv_goto (tgt := 280) hx hb dX9_rivals_434 (by decide) ?_
          exact ih_280 _ _ _ _ _ _ _ _ h hP hS (lv_sub hl [1, 2, 3, 4, 0] rfl)
        · replace h := fl_if_f h c58
          refine lv_ldc (v := (1000000 : Int32)) hx hb hown (hts _ wq_1014) dX9_rivals_304 ?_
          refine lv_istore (lv' := [(11, .int (1000000 : Int32)), (0, .ref (ad 0)), (4, .int x4), (7, .int x7), (8, .int x8), (9, .int x9), (10, .int x10)]) hx hb dX9_rivals_306 hl (by decide) rfl (fun ls hl => ?_)
          refine lv_iconst (v := (0 : Int32)) hx hb dX9_rivals_308 (by decide) ?_
          refine lv_istore (lv' := [(12, .int (0 : Int32)), (11, .int (1000000 : Int32)), (0, .ref (ad 0)), (4, .int x4), (7, .int x7), (8, .int x8), (9, .int x9), (10, .int x10)]) hx hb dX9_rivals_309 hl (by decide) rfl (fun ls hl => ?_)
          exact ih_311 _ _ _ _ _ _ _ _ _ _ _ h hP hS (lv_sub hl [2, 3, 4, 5, 6, 7, 1, 0] rfl)
      · intro x4 x7 x8 x9 x10 x11 x12 m H locs ls h hP hS hl
        have h : B_X9_rivals_311 N (l_X9_rivals N n) x4 x7 x8 x9 x10 x11 x12 m = some (v', M') := h
        unfold B_X9_rivals_311 at h
        refine lv_iload hx hb dX9_rivals_311 (lv_at hl 7 rfl) ?_
        refine lv_aload_n hx hb dX9_rivals_313 rfl (lv_at hl 0 rfl) ?_
        refine fl_geti X hP fk_X9_99 k2_0 rfl dX9_rivals_314 ?_
        refine lv_icmp_ge (tgt := 416) hx hb dX9_rivals_317 (by decide) (fun c68 => ?_) (fun c68 => ?_)
        · replace h := fl_if_t h c68
          refine lv_aload_n hx hb dX9_rivals_416 rfl (lv_at hl 0 rfl) ?_
          refine fl_getr X hP fk_X9_61 k2_0 rfl dX9_rivals_417 ?_
          refine lv_iload hx hb dX9_rivals_420 (lv_at hl 5 rfl) ?_
          refine lv_iload hx hb dX9_rivals_422 (lv_at hl 6 rfl) ?_
          obtain ⟨hk69, h⟩ := fl_ck_e h
          obtain ⟨m70, em71, h⟩ := fl_lm_e h
          refine fl_iast X hP hS k2_18 hk69 dX9_rivals_424 (fun H locs hP hS => ?_)
          have hP : va_P D vwCl (fl_w L2 ca ad m70) H := by rw [em71]; exact hP
          refine lv_iinc (v := x10 + 1) (lv' := [(10, .int (x10 + 1)), (0, .ref (ad 0)), (4, .int x4), (7, .int x7), (8, .int x8), (9, .int x9), (11, .int x11), (12, .int x12)]) hx hb dX9_rivals_425 hl (k := 5) rfl rfl (by decide) rfl (fun ls hl => ?_)
          refine lv_goto (tgt := 297) hx hb dX9_rivals_428 (by decide) ?_
          exact ih_297 _ _ _ _ _ _ _ _ _ h hP hS (lv_sub hl [1, 2, 3, 4, 5, 0] rfl)
        · replace h := fl_if_f h c68
          refine lv_aload_n hx hb dX9_rivals_320 rfl (lv_at hl 0 rfl) ?_
          refine fl_getr X hP fk_X9_61 k2_0 rfl dX9_rivals_321 ?_
          refine lv_aload_n hx hb dX9_rivals_324 rfl (lv_at hl 0 rfl) ?_
          refine fl_geti X hP fk_X9_99 k2_0 rfl dX9_rivals_325 ?_
          refine lv_iload hx hb dX9_rivals_328 (lv_at hl 5 rfl) ?_
          refine lv_imul hx hb dX9_rivals_330 ?_
          refine lv_iload hx hb dX9_rivals_331 (lv_at hl 7 rfl) ?_
          refine lv_iadd hx hb dX9_rivals_333 ?_
          obtain ⟨hk72, h⟩ := fl_ck_e h
          refine fl_iald X hP k2_18 hk72 dX9_rivals_334 ?_
          obtain ⟨z73, ez74, h⟩ := fl_li_e h
          refine fl_topi ez74 ?_
          refine lv_istore (lv' := [(13, .int z73), (0, .ref (ad 0)), (4, .int x4), (7, .int x7), (8, .int x8), (9, .int x9), (10, .int x10), (11, .int x11), (12, .int x12)]) hx hb dX9_rivals_335 hl (by decide) rfl (fun ls hl => ?_)
          refine lv_iload hx hb dX9_rivals_337 (lv_at hl 0 rfl) ?_
          refine lv_ldc (v := (1000000 : Int32)) hx hb hown (hts _ wq_1014) dX9_rivals_339 ?_
          refine lv_icmp_eq (tgt := 379) hx hb dX9_rivals_341 (by decide) (fun c75 => ?_) (fun c75 => ?_)
          · replace h := fl_if_t h c75
            exact j_379 _ _ _ _ _ _ _ _ _ _ _ _ h hP hS (lv_sub hl [1, 2, 3, 4, 5, 6, 7, 8, 0] rfl)
          · replace h := fl_if_f h c75
            refine lv_iload hx hb dX9_rivals_344 (lv_at hl 7 rfl) ?_
            refine lv_ldc (v := (1000000 : Int32)) hx hb hown (hts _ wq_1014) dX9_rivals_346 ?_
            refine lv_icmp_eq (tgt := 375) hx hb dX9_rivals_348 (by decide) (fun c76 => ?_) (fun c76 => ?_)
            · replace h := fl_if_t h c76
              exact j_375 _ _ _ _ _ _ _ _ _ _ _ _ h hP hS (lv_sub hl [1, 2, 3, 4, 5, 6, 7, 8, 0] rfl)
            · replace h := fl_if_f h c76
              refine lv_iload hx hb dX9_rivals_351 (lv_at hl 5 rfl) ?_
              refine lv_iconst (v := (2 : Int32)) hx hb dX9_rivals_353 (by decide) ?_
              refine lv_irem hx hb dX9_rivals_354 (by decide) ?_
              refine lv_if_ne (tgt := 368) hx hb dX9_rivals_355 (by decide) (fun c77 => ?_) (fun c77 => ?_)
              · replace h := fl_if_f h c77
                refine lv_iload hx hb dX9_rivals_368 (lv_at hl 0 rfl) ?_
                refine lv_iload hx hb dX9_rivals_370 (lv_at hl 7 rfl) ?_
                refine lv_icmp_le (tgt := 379) hx hb dX9_rivals_372 (by decide) (fun c78 => ?_) (fun c78 => ?_)
                · replace h := fl_if_t h c78
                  exact j_379 _ _ _ _ _ _ _ _ _ _ _ _ h hP hS (lv_sub hl [1, 2, 3, 4, 5, 6, 7, 8, 0] rfl)
                · replace h := fl_if_f h c78
                  exact j_375 _ _ _ _ _ _ _ _ _ _ _ _ h hP hS (lv_sub hl [1, 2, 3, 4, 5, 6, 7, 8, 0] rfl)
              · replace h := fl_if_t h c77
                refine lv_iload hx hb dX9_rivals_358 (lv_at hl 0 rfl) ?_
                refine lv_iload hx hb dX9_rivals_360 (lv_at hl 7 rfl) ?_
                refine lv_icmp_ge (tgt := 379) hx hb dX9_rivals_362 (by decide) (fun c79 => ?_) (fun c79 => ?_)
                · replace h := fl_if_t h c79
                  exact j_379 _ _ _ _ _ _ _ _ _ _ _ _ h hP hS (lv_sub hl [1, 2, 3, 4, 5, 6, 7, 8, 0] rfl)
                · replace h := fl_if_f h c79
                  refine lv_goto (tgt := 375) hx hb dX9_rivals_365 (by decide) ?_
                  exact j_375 _ _ _ _ _ _ _ _ _ _ _ _ h hP hS (lv_sub hl [1, 2, 3, 4, 5, 6, 7, 8, 0] rfl)
  obtain ⟨ih_76, ih_101, ih_125, ih_280, ih_297, ih_311⟩ := key N
  obtain ⟨j_394, j_380, j_379, j_375, j_241, j_213, j_200, j_178, j_68⟩ := js N ⟨ih_76, ih_101, ih_125, ih_280, ih_297, ih_311⟩
  refine lv_aload_n hx hb dX9_rivals_0 rfl (lv_at hl 0 rfl) ?_
  refine lv_iload_n hx hb dX9_rivals_1 rfl (lv_at hl 1 rfl) ?_
  obtain ⟨r1, m2, hz3, h⟩ := fl_bd_e h
  refine fl_callV (av := [.int x1]) X hP hS hl.1 mv_X9_166 (c_X9_isCab l D ca ad hi x1 m _ _ hz3) k2_0 (fl_fit_rm (by omega) (by decide)) rfl (Nat.le_of_ble_eq_true rfl) dX9_rivals_2 rfl (fun H locs hP hS => ?_)
  refine W.eq (g2 := F0 mm 5 ls [.int r1]) rfl ?_
  refine lv_if_eq (tgt := 44) hx hb dX9_rivals_5 (by decide) (fun c4 => ?_) (fun c4 => ?_)
  · replace h := fl_if_t h c4
    refine lv_iconst (v := (-1 : Int32)) hx hb dX9_rivals_44 (by decide) ?_
    exact fl_iret X hr hlk hP hS dX9_rivals_45 h
  · replace h := fl_if_f h c4
    refine lv_aload_n hx hb dX9_rivals_8 rfl (lv_at hl 0 rfl) ?_
    refine lv_iload_n hx hb dX9_rivals_9 rfl (lv_at hl 2 rfl) ?_
    obtain ⟨r5, m6, hz7, h⟩ := fl_bd_e h
    refine fl_callV (av := [.int x2]) X hP hS hl.1 mv_X9_166 (c_X9_isCab l D ca ad hi x2 m2 _ _ hz7) k2_0 (fl_fit_rm (by omega) (by decide)) rfl (Nat.le_of_ble_eq_true rfl) dX9_rivals_10 rfl (fun H locs hP hS => ?_)
    refine W.eq (g2 := F0 mm 13 ls [.int r5]) rfl ?_
    refine lv_if_eq (tgt := 44) hx hb dX9_rivals_13 (by decide) (fun c8 => ?_) (fun c8 => ?_)
    · replace h := fl_if_t h c8
      refine lv_iconst (v := (-1 : Int32)) hx hb dX9_rivals_44 (by decide) ?_
      exact fl_iret X hr hlk hP hS dX9_rivals_45 h
    · replace h := fl_if_f h c8
      refine lv_iload_n hx hb dX9_rivals_16 rfl (lv_at hl 1 rfl) ?_
      refine lv_iload_n hx hb dX9_rivals_17 rfl (lv_at hl 2 rfl) ?_
      refine lv_icmp_eq (tgt := 44) hx hb dX9_rivals_18 (by decide) (fun c9 => ?_) (fun c9 => ?_)
      · replace h := fl_if_t h c9
        refine lv_iconst (v := (-1 : Int32)) hx hb dX9_rivals_44 (by decide) ?_
        exact fl_iret X hr hlk hP hS dX9_rivals_45 h
      · replace h := fl_if_f h c9
        refine lv_iload_n hx hb dX9_rivals_21 rfl (lv_at hl 3 rfl) ?_
        refine lv_i2l (v := x3.toInt64) hx hb dX9_rivals_22 rfl ?_
        refine lv_lconst (v := (1 : Int64)) hx hb dX9_rivals_23 (by decide) ?_
        refine lv_ldc2 (v := (4 : Int64)) hx hb hown (hts _ wq_1047) dX9_rivals_24 ?_
        obtain ⟨r10, m11, hz12, h⟩ := fl_bd_e h
        refine fl_callS (av := [.long x3.toInt64, .long (1 : Int64), .long (4 : Int64)]) X hP hS hl.1 ms_X9_92 (c_X9_in l D ca ad hi x3.toInt64 (1 : Int64) (4 : Int64) m6 _ _ hz12) (fl_fit_rm (by omega) (by decide)) rfl (Nat.le_of_ble_eq_true rfl) dX9_rivals_27 rfl (fun H locs hP hS => ?_)
        refine W.eq (g2 := F0 mm 30 ls [.int r10]) rfl ?_
        refine lv_if_eq (tgt := 44) hx hb dX9_rivals_30 (by decide) (fun c13 => ?_) (fun c13 => ?_)
        · replace h := fl_if_t h c13
          refine lv_iconst (v := (-1 : Int32)) hx hb dX9_rivals_44 (by decide) ?_
          exact fl_iret X hr hlk hP hS dX9_rivals_45 h
        · replace h := fl_if_f h c13
          refine lv_iload hx hb dX9_rivals_33 (lv_at hl 4 rfl) ?_
          refine lv_i2l (v := x4.toInt64) hx hb dX9_rivals_35 rfl ?_
          refine lv_lconst (v := (0 : Int64)) hx hb dX9_rivals_36 (by decide) ?_
          refine lv_lconst (v := (1 : Int64)) hx hb dX9_rivals_37 (by decide) ?_
          obtain ⟨r14, m15, hz16, h⟩ := fl_bd_e h
          refine fl_callS (av := [.long x4.toInt64, .long (0 : Int64), .long (1 : Int64)]) X hP hS hl.1 ms_X9_92 (c_X9_in l D ca ad hi x4.toInt64 (0 : Int64) (1 : Int64) m11 _ _ hz16) (fl_fit_rm (by omega) (by decide)) rfl (Nat.le_of_ble_eq_true rfl) dX9_rivals_38 rfl (fun H locs hP hS => ?_)
          refine W.eq (g2 := F0 mm 41 ls [.int r14]) rfl ?_
          refine lv_if_ne (tgt := 46) hx hb dX9_rivals_41 (by decide) (fun c17 => ?_) (fun c17 => ?_)
          · replace h := fl_if_f h c17
            refine lv_iload_n hx hb dX9_rivals_46 rfl (lv_at hl 3 rfl) ?_
            refine lv_aload_n hx hb dX9_rivals_47 rfl (lv_at hl 0 rfl) ?_
            obtain ⟨r18, m19, hz20, h⟩ := fl_bd_e h
            refine fl_callV (av := []) X hP hS hl.1 mv_X9_214 (c_X9_rest l D ca ad hi  m15 _ _ hz20) k2_0 (fl_fit_rm (by omega) (by decide)) rfl (Nat.le_of_ble_eq_true rfl) dX9_rivals_48 rfl (fun H locs hP hS => ?_)
            refine W.eq (g2 := F0 mm 51 ls [.int r18, .int x3]) rfl ?_
            obtain ⟨r21, m22, hz23, h⟩ := fl_bd_e h
            refine fl_callS (av := [.int r18]) X hP hS hl.1 ms_X9_217 (c_X9_ones l D ca ad hi N r18 m19 _ _ hz23) (fl_fit_rm (by omega) (by decide)) rfl (Nat.le_of_ble_eq_true rfl) dX9_rivals_51 rfl (fun H locs hP hS => ?_)
            refine W.eq (g2 := F0 mm 54 ls [.int r21, .int x3]) rfl ?_
            refine lv_icmp_ge (tgt := 61) hx hb dX9_rivals_54 (by decide) (fun c24 => ?_) (fun c24 => ?_)
            · replace h := fl_if_t h c24
              refine lv_aload_n hx hb dX9_rivals_61 rfl (lv_at hl 0 rfl) ?_
              obtain ⟨r25, m26, hz27, h⟩ := fl_bd_e h
              refine fl_callV (av := []) X hP hS hl.1 mv_X9_214 (c_X9_rest l D ca ad hi  m22 _ _ hz27) k2_0 (fl_fit_rm (by omega) (by decide)) rfl (Nat.le_of_ble_eq_true rfl) dX9_rivals_62 rfl (fun H locs hP hS => ?_)
              refine W.eq (g2 := F0 mm 65 ls [.int r25]) rfl ?_
              obtain ⟨r28, m29, hz30, h⟩ := fl_bd_e h
              refine fl_callS (av := [.int r25]) X hP hS hl.1 ms_X9_217 (c_X9_ones l D ca ad hi N r25 m26 _ _ hz30) (fl_fit_rm (by omega) (by decide)) rfl (Nat.le_of_ble_eq_true rfl) dX9_rivals_65 rfl (fun H locs hP hS => ?_)
              refine W.eq (g2 := F0 mm 68 ls [.int r28]) rfl ?_
              exact j_68 _ _ _ _ _ _ _ _ h hP hS (lv_sub hl [0, 1, 2, 4] rfl)
            · replace h := fl_if_f h c24
              refine lv_iload_n hx hb dX9_rivals_57 rfl (lv_at hl 3 rfl) ?_
              refine lv_goto (tgt := 68) hx hb dX9_rivals_58 (by decide) ?_
              exact j_68 _ _ _ _ _ _ _ _ h hP hS (lv_sub hl [0, 1, 2, 4] rfl)
          · replace h := fl_if_t h c17
            refine lv_iconst (v := (-1 : Int32)) hx hb dX9_rivals_44 (by decide) ?_
            exact fl_iret X hr hlk hP hS dX9_rivals_45 h

def f_X9_see (x1 : Int32) (x2 : Int32) (x3 : Int32) (m : Mem) : Option (Int32 × Mem) :=
  fl_bd (f_X9_isCab x1 m) (fun r1 m2 =>
    if r1 = 0 then (
      some ((-1 : Int32), m2))
    else (
      fl_bd (f_X9_isFare x2 m2) (fun r5 m6 =>
        if r5 = 0 then (
          some ((-1 : Int32), m6))
        else (
          fl_bd (f_X9_in x3.toInt64 (0 : Int64) (400 : Int64) m6) (fun r9 m10 =>
            if r9 = 0 then (
              some ((-1 : Int32), m10))
            else (
              if (m10.1 0 13) = (6 : Int32) then (
                some ((-3 : Int32), m10))
              else (
                fl_ck (0 ≤ (m10.1 0 13).toInt ∧ (m10.1 0 13).toInt < 6) (
                  fl_lm (mI m10 8 ((m10.1 0 13).toNatClampNeg) x1) (fun m15 =>
                    fl_ck (0 ≤ (m15.1 0 13).toInt ∧ (m15.1 0 13).toInt < 6) (
                      fl_lm (mI m15 9 ((m15.1 0 13).toNatClampNeg) x2) (fun m18 =>
                        fl_ck (0 ≤ (m18.1 0 13).toInt ∧ (m18.1 0 13).toInt < 6) (
                          fl_lm (mI m18 10 ((m18.1 0 13).toNatClampNeg) x3) (fun m21 =>
                            fl_lm (mI m21 0 13 ((m21.1 0 13) + (1 : Int32))) (fun m23 =>
                              some (m23.1 0 13, m23)))))))))))))))
set_option maxHeartbeats 4000000 in
set_option maxRecDepth 100000 in
theorem c_X9_see (l : Launch) (D : va_G) (ca : Nat → ClassId) (ad : Nat → Nat) (hi : fl_inj L2 ad) (x1 : Int32) (x2 : Int32) (x3 : Int32) (m : Mem) (v' : Int32) (M' : Mem) (h : f_X9_see x1 x2 x3 m = some (v', M')) : fl_M l L2 D ca ad yX9_see cX9_see 4 (some .int) 3 [.ref (ad 0), .int x1, .int x2, .int x3] m (some (.int v')) M' := by
  unfold f_X9_see at h
  refine fl_ofW (by decide) hi (Nat.le_of_ble_eq_true rfl) ?_
  intro p e s mm args below meth c ls X hr hlk hP hl
  have hl : lv_has ls 4 [(0, .ref (ad 0)), (1, .int x1), (2, .int x2), (3, .int x3)] := hl
  have X : fl_X p s mm args c cX9_see 4 RX9 L2 D ca ad := X
  obtain ⟨hx, hb, hml, hown, hts, hE, -⟩ := id X
  have hS : va_S (fl_A L2 ad) s.heap s.heap [] := va_S.rf
  refine lv_aload_n hx hb dX9_see_0 rfl (lv_at hl 0 rfl) ?_
  refine lv_iload_n hx hb dX9_see_1 rfl (lv_at hl 1 rfl) ?_
  obtain ⟨r1, m2, hz3, h⟩ := fl_bd_e h
  refine fl_callV (av := [.int x1]) X hP hS hl.1 mv_X9_166 (c_X9_isCab l D ca ad hi x1 m _ _ hz3) k2_0 (fl_fit_rm (by omega) (by decide)) rfl (Nat.le_of_ble_eq_true rfl) dX9_see_2 rfl (fun H locs hP hS => ?_)
  refine W.eq (g2 := F0 mm 5 ls [.int r1]) rfl ?_
  refine lv_if_eq (tgt := 28) hx hb dX9_see_5 (by decide) (fun c4 => ?_) (fun c4 => ?_)
  · replace h := fl_if_t h c4
    refine lv_iconst (v := (-1 : Int32)) hx hb dX9_see_28 (by decide) ?_
    exact fl_iret X hr hlk hP hS dX9_see_29 h
  · replace h := fl_if_f h c4
    refine lv_aload_n hx hb dX9_see_8 rfl (lv_at hl 0 rfl) ?_
    refine lv_iload_n hx hb dX9_see_9 rfl (lv_at hl 2 rfl) ?_
    obtain ⟨r5, m6, hz7, h⟩ := fl_bd_e h
    refine fl_callV (av := [.int x2]) X hP hS hl.1 mv_X9_169 (c_X9_isFare l D ca ad hi x2 m2 _ _ hz7) k2_0 (fl_fit_rm (by omega) (by decide)) rfl (Nat.le_of_ble_eq_true rfl) dX9_see_10 rfl (fun H locs hP hS => ?_)
    refine W.eq (g2 := F0 mm 13 ls [.int r5]) rfl ?_
    refine lv_if_eq (tgt := 28) hx hb dX9_see_13 (by decide) (fun c8 => ?_) (fun c8 => ?_)
    · replace h := fl_if_t h c8
      refine lv_iconst (v := (-1 : Int32)) hx hb dX9_see_28 (by decide) ?_
      exact fl_iret X hr hlk hP hS dX9_see_29 h
    · replace h := fl_if_f h c8
      refine lv_iload_n hx hb dX9_see_16 rfl (lv_at hl 3 rfl) ?_
      refine lv_i2l (v := x3.toInt64) hx hb dX9_see_17 rfl ?_
      refine lv_lconst (v := (0 : Int64)) hx hb dX9_see_18 (by decide) ?_
      refine lv_ldc2 (v := (400 : Int64)) hx hb hown (hts _ wq_1052) dX9_see_19 ?_
      obtain ⟨r9, m10, hz11, h⟩ := fl_bd_e h
      refine fl_callS (av := [.long x3.toInt64, .long (0 : Int64), .long (400 : Int64)]) X hP hS hl.1 ms_X9_92 (c_X9_in l D ca ad hi x3.toInt64 (0 : Int64) (400 : Int64) m6 _ _ hz11) (fl_fit_rm (by omega) (by decide)) rfl (Nat.le_of_ble_eq_true rfl) dX9_see_22 rfl (fun H locs hP hS => ?_)
      refine W.eq (g2 := F0 mm 25 ls [.int r9]) rfl ?_
      refine lv_if_ne (tgt := 30) hx hb dX9_see_25 (by decide) (fun c12 => ?_) (fun c12 => ?_)
      · replace h := fl_if_f h c12
        refine lv_aload_n hx hb dX9_see_30 rfl (lv_at hl 0 rfl) ?_
        refine fl_geti X hP fk_X9_114 k2_0 rfl dX9_see_31 ?_
        refine lv_bipush (v := (6 : Int32)) hx hb dX9_see_34 (by decide) ?_
        refine lv_icmp_ne (tgt := 42) hx hb dX9_see_36 (by decide) (fun c13 => ?_) (fun c13 => ?_)
        · replace h := fl_if_f h c13
          refine lv_aload_n hx hb dX9_see_42 rfl (lv_at hl 0 rfl) ?_
          refine fl_getr X hP fk_X9_31 k2_0 rfl dX9_see_43 ?_
          refine lv_aload_n hx hb dX9_see_46 rfl (lv_at hl 0 rfl) ?_
          refine fl_geti X hP fk_X9_114 k2_0 rfl dX9_see_47 ?_
          refine lv_iload_n hx hb dX9_see_50 rfl (lv_at hl 1 rfl) ?_
          obtain ⟨hk14, h⟩ := fl_ck_e h
          obtain ⟨m15, em16, h⟩ := fl_lm_e h
          refine fl_iast X hP hS k2_8 hk14 dX9_see_51 (fun H locs hP hS => ?_)
          have hP : va_P D vwCl (fl_w L2 ca ad m15) H := by rw [em16]; exact hP
          refine lv_aload_n hx hb dX9_see_52 rfl (lv_at hl 0 rfl) ?_
          refine fl_getr X hP fk_X9_34 k2_0 rfl dX9_see_53 ?_
          refine lv_aload_n hx hb dX9_see_56 rfl (lv_at hl 0 rfl) ?_
          refine fl_geti X hP fk_X9_114 k2_0 rfl dX9_see_57 ?_
          refine lv_iload_n hx hb dX9_see_60 rfl (lv_at hl 2 rfl) ?_
          obtain ⟨hk17, h⟩ := fl_ck_e h
          obtain ⟨m18, em19, h⟩ := fl_lm_e h
          refine fl_iast X hP hS k2_9 hk17 dX9_see_61 (fun H locs hP hS => ?_)
          have hP : va_P D vwCl (fl_w L2 ca ad m18) H := by rw [em19]; exact hP
          refine lv_aload_n hx hb dX9_see_62 rfl (lv_at hl 0 rfl) ?_
          refine fl_getr X hP fk_X9_37 k2_0 rfl dX9_see_63 ?_
          refine lv_aload_n hx hb dX9_see_66 rfl (lv_at hl 0 rfl) ?_
          refine fl_geti X hP fk_X9_114 k2_0 rfl dX9_see_67 ?_
          refine lv_iload_n hx hb dX9_see_70 rfl (lv_at hl 3 rfl) ?_
          obtain ⟨hk20, h⟩ := fl_ck_e h
          obtain ⟨m21, em22, h⟩ := fl_lm_e h
          refine fl_iast X hP hS k2_10 hk20 dX9_see_71 (fun H locs hP hS => ?_)
          have hP : va_P D vwCl (fl_w L2 ca ad m21) H := by rw [em22]; exact hP
          refine lv_aload_n hx hb dX9_see_72 rfl (lv_at hl 0 rfl) ?_
          refine lv_dup hx hb dX9_see_73 rfl ?_
          refine fl_geti X hP fk_X9_114 k2_0 rfl dX9_see_74 ?_
          refine lv_iconst (v := (1 : Int32)) hx hb dX9_see_77 (by decide) ?_
          refine lv_iadd hx hb dX9_see_78 ?_
          obtain ⟨m23, em24, h⟩ := fl_lm_e h
          refine fl_puti X hP hS pk_X9_114 k2_0 rfl rfl rfl dX9_see_79 (fun H locs hP hS => ?_)
          have hP : va_P D vwCl (fl_w L2 ca ad m23) H := by rw [em24]; exact hP
          refine lv_aload_n hx hb dX9_see_82 rfl (lv_at hl 0 rfl) ?_
          refine fl_geti X hP fk_X9_114 k2_0 rfl dX9_see_83 ?_
          exact fl_iret X hr hlk hP hS dX9_see_86 h
        · replace h := fl_if_t h c13
          refine lv_bipush (v := (-3 : Int32)) hx hb dX9_see_39 (by decide) ?_
          exact fl_iret X hr hlk hP hS dX9_see_41 h
      · replace h := fl_if_t h c12
        refine lv_iconst (v := (-1 : Int32)) hx hb dX9_see_28 (by decide) ?_
        exact fl_iret X hr hlk hP hS dX9_see_29 h

def f_X9_forget  (m : Mem) : Option (Int32 × Mem) :=
  fl_li (m.1 0 13) (fun z1 =>
    fl_lm (mI m 0 13 (0 : Int32)) (fun m3 =>
      some (z1, m3)))
set_option maxHeartbeats 4000000 in
set_option maxRecDepth 100000 in
theorem c_X9_forget (l : Launch) (D : va_G) (ca : Nat → ClassId) (ad : Nat → Nat) (hi : fl_inj L2 ad)  (m : Mem) (v' : Int32) (M' : Mem) (h : f_X9_forget  m = some (v', M')) : fl_M l L2 D ca ad yX9_forget cX9_forget 2 (some .int) 1 [.ref (ad 0)] m (some (.int v')) M' := by
  unfold f_X9_forget at h
  refine fl_ofW (by decide) hi (Nat.le_of_ble_eq_true rfl) ?_
  intro p e s mm args below meth c ls X hr hlk hP hl
  have hl : lv_has ls 2 [(0, .ref (ad 0))] := hl
  have X : fl_X p s mm args c cX9_forget 2 RX9 L2 D ca ad := X
  obtain ⟨hx, hb, hml, hown, hts, hE, -⟩ := id X
  have hS : va_S (fl_A L2 ad) s.heap s.heap [] := va_S.rf
  refine lv_aload_n hx hb dX9_forget_0 rfl (lv_at hl 0 rfl) ?_
  refine fl_geti X hP fk_X9_114 k2_0 rfl dX9_forget_1 ?_
  obtain ⟨z1, ez2, h⟩ := fl_li_e h
  refine fl_topi ez2 ?_
  refine lv_istore_n (lv' := [(1, .int z1), (0, .ref (ad 0))]) hx hb dX9_forget_4 rfl hl (by decide) rfl (fun ls hl => ?_)
  refine lv_aload_n hx hb dX9_forget_5 rfl (lv_at hl 1 rfl) ?_
  refine lv_iconst (v := (0 : Int32)) hx hb dX9_forget_6 (by decide) ?_
  obtain ⟨m3, em4, h⟩ := fl_lm_e h
  refine fl_puti X hP hS pk_X9_114 k2_0 rfl rfl rfl dX9_forget_7 (fun H locs hP hS => ?_)
  have hP : va_P D vwCl (fl_w L2 ca ad m3) H := by rw [em4]; exact hP
  refine lv_iload_n hx hb dX9_forget_10 rfl (lv_at hl 0 rfl) ?_
  exact fl_iret X hr hlk hP hS dX9_forget_11 h

def B_X9_isSeen_4 (N : Nat) (F : Int32 → Int32 → Int32 → Mem → Option (Int32 × Mem)) (x1 : Int32) (x2 : Int32) (x3 : Int32) (m : Mem) : Option (Int32 × Mem) :=
  if (m.1 0 13) ≤ x3 then (
    fl_ck (x2 = 0 ∨ x2 = 1) (
      some (x2, m)))
  else (
    if x2 = 0 then (
      F x1 (0 : Int32) (x3 + 1) m)
    else (
      fl_ck (0 ≤ x3.toInt ∧ x3.toInt < 6) (
        if (m.1 8 (x3.toNatClampNeg)) = x1 then (
          fl_ck (0 ≤ x3.toInt ∧ x3.toInt < 6) (
            fl_bd (f_X9_freeBy (19 : Int32) x1 (m.1 9 (x3.toNatClampNeg)) m) (fun r7 m8 =>
              fl_ck (0 ≤ x3.toInt ∧ x3.toInt < 6) (
                if r7 = (m8.1 10 (x3.toNatClampNeg)) then (
                  F x1 (1 : Int32) (x3 + 1) m8)
                else (
                  F x1 (0 : Int32) (x3 + 1) m8)))))
        else (
          F x1 (1 : Int32) (x3 + 1) m))))
def l_X9_isSeen (N : Nat) : Nat → Int32 → Int32 → Int32 → Mem → Option (Int32 × Mem)
  | 0 => fun _ _ _ _ => none
  | n + 1 => fun x1 x2 x3 m => B_X9_isSeen_4 N (l_X9_isSeen N n) x1 x2 x3 m
def f_X9_isSeen (N : Nat) (x1 : Int32) (m : Mem) : Option (Int32 × Mem) :=
  (l_X9_isSeen N N) x1 (1 : Int32) (0 : Int32) m
set_option maxHeartbeats 4000000 in
set_option maxRecDepth 100000 in
theorem c_X9_isSeen (l : Launch) (D : va_G) (ca : Nat → ClassId) (ad : Nat → Nat) (hi : fl_inj L2 ad) (N : Nat) (x1 : Int32) (m : Mem) (v' : Int32) (M' : Mem) (h : f_X9_isSeen N x1 m = some (v', M')) : fl_M l L2 D ca ad yX9_isSeen cX9_isSeen 4 (some .boolean) 4 [.ref (ad 0), .int x1] m (some (.int v')) M' := by
  unfold f_X9_isSeen at h
  refine fl_ofW (by decide) hi (Nat.le_of_ble_eq_true rfl) ?_
  intro p e s mm args below meth c ls X hr hlk hP hl
  have hl : lv_has ls 4 [(0, .ref (ad 0)), (1, .int x1)] := hl
  have X : fl_X p s mm args c cX9_isSeen 4 RX9 L2 D ca ad := X
  obtain ⟨hx, hb, hml, hown, hts, hE, -⟩ := id X
  have hS : va_S (fl_A L2 ad) s.heap s.heap [] := va_S.rf
  have key : ∀ n : Nat, (∀ (x1 : Int32) (x2 : Int32) (x3 : Int32) (m : Mem) (H : Heap) (locs : List Loc) (ls : Array Slot), l_X9_isSeen N n x1 x2 x3 m = some (v', M') → va_P D vwCl (fl_w L2 ca ad m) H → va_S (fl_A L2 ad) s.heap H locs → lv_has ls 4 [(0, .ref (ad 0)), (1, .int x1), (2, .int x2), (3, .int x3)] → W p l e (fl_rm 4) s mm args below meth c H locs 0 0 (MQ below (fl_Q L2 D ca ad (some (.int v')) M') args s 0 0 (fl_A L2 ad)) (F0 mm 4 ls [])) := by
    intro n
    induction n with
    | zero =>
      skip
      · intro x1 x2 x3 m H locs ls h hP hS hl
        have h : (none : Option (Int32 × Mem)) = some (v', M') := h
        cases h
    | succ n ih =>
      have ih_4 := ih
      skip
      · intro x1 x2 x3 m H locs ls h hP hS hl
        have h : B_X9_isSeen_4 N (l_X9_isSeen N n) x1 x2 x3 m = some (v', M') := h
        unfold B_X9_isSeen_4 at h
        refine lv_iload_n hx hb dX9_isSeen_4 rfl (lv_at hl 3 rfl) ?_
        refine lv_aload_n hx hb dX9_isSeen_5 rfl (lv_at hl 0 rfl) ?_
        refine fl_geti X hP fk_X9_114 k2_0 rfl dX9_isSeen_6 ?_
        refine lv_icmp_ge (tgt := 60) hx hb dX9_isSeen_9 (by decide) (fun c1 => ?_) (fun c1 => ?_)
        · replace h := fl_if_t h c1
          refine lv_iload_n hx hb dX9_isSeen_60 rfl (lv_at hl 2 rfl) ?_
          obtain ⟨hk2, h⟩ := fl_ck_e h
          exact fl_zret X hr hlk hk2 hP hS dX9_isSeen_61 h
        · replace h := fl_if_f h c1
          refine lv_iload_n hx hb dX9_isSeen_12 rfl (lv_at hl 2 rfl) ?_
          refine lv_if_eq (tgt := 52) hx hb dX9_isSeen_13 (by decide) (fun c3 => ?_) (fun c3 => ?_)
          · replace h := fl_if_t h c3
            refine lv_iconst (v := (0 : Int32)) hx hb dX9_isSeen_52 (by decide) ?_
            refine lv_istore_n (lv' := [(2, .int (0 : Int32)), (0, .ref (ad 0)), (1, .int x1), (3, .int x3)]) hx hb dX9_isSeen_53 rfl hl (by decide) rfl (fun ls hl => ?_)
            refine lv_iinc (v := x3 + 1) (lv' := [(3, .int (x3 + 1)), (2, .int (0 : Int32)), (0, .ref (ad 0)), (1, .int x1)]) hx hb dX9_isSeen_54 hl (k := 3) rfl rfl (by decide) rfl (fun ls hl => ?_)
            refine lv_goto (tgt := 4) hx hb dX9_isSeen_57 (by decide) ?_
            exact ih_4 _ _ _ _ _ _ _ h hP hS (lv_sub hl [2, 3, 1, 0] rfl)
          · replace h := fl_if_f h c3
            refine lv_aload_n hx hb dX9_isSeen_16 rfl (lv_at hl 0 rfl) ?_
            refine fl_getr X hP fk_X9_31 k2_0 rfl dX9_isSeen_17 ?_
            refine lv_iload_n hx hb dX9_isSeen_20 rfl (lv_at hl 3 rfl) ?_
            obtain ⟨hk4, h⟩ := fl_ck_e h
            refine fl_iald X hP k2_8 hk4 dX9_isSeen_21 ?_
            refine lv_iload_n hx hb dX9_isSeen_22 rfl (lv_at hl 1 rfl) ?_
            refine lv_icmp_ne (tgt := 48) hx hb dX9_isSeen_23 (by decide) (fun c5 => ?_) (fun c5 => ?_)
            · replace h := fl_if_f h c5
              refine lv_iconst (v := (1 : Int32)) hx hb dX9_isSeen_48 (by decide) ?_
              refine lv_goto (tgt := 53) hx hb dX9_isSeen_49 (by decide) ?_
              refine lv_istore_n (lv' := [(2, .int (1 : Int32)), (0, .ref (ad 0)), (1, .int x1), (3, .int x3)]) hx hb dX9_isSeen_53 rfl hl (by decide) rfl (fun ls hl => ?_)
              refine lv_iinc (v := x3 + 1) (lv' := [(3, .int (x3 + 1)), (2, .int (1 : Int32)), (0, .ref (ad 0)), (1, .int x1)]) hx hb dX9_isSeen_54 hl (k := 3) rfl rfl (by decide) rfl (fun ls hl => ?_)
              refine lv_goto (tgt := 4) hx hb dX9_isSeen_57 (by decide) ?_
              exact ih_4 _ _ _ _ _ _ _ h hP hS (lv_sub hl [2, 3, 1, 0] rfl)
            · replace h := fl_if_t h c5
              refine lv_aload_n hx hb dX9_isSeen_26 rfl (lv_at hl 0 rfl) ?_
              refine lv_bipush (v := (19 : Int32)) hx hb dX9_isSeen_27 (by decide) ?_
              refine lv_iload_n hx hb dX9_isSeen_29 rfl (lv_at hl 1 rfl) ?_
              refine lv_aload_n hx hb dX9_isSeen_30 rfl (lv_at hl 0 rfl) ?_
              refine fl_getr X hP fk_X9_34 k2_0 rfl dX9_isSeen_31 ?_
              refine lv_iload_n hx hb dX9_isSeen_34 rfl (lv_at hl 3 rfl) ?_
              obtain ⟨hk6, h⟩ := fl_ck_e h
              refine fl_iald X hP k2_9 hk6 dX9_isSeen_35 ?_
              obtain ⟨r7, m8, hz9, h⟩ := fl_bd_e h
              refine fl_callV (av := [.int (19 : Int32), .int x1, .int (m.1 9 (x3.toNatClampNeg))]) X hP hS hl.1 mv_X9_178 (c_X9_freeBy l D ca ad hi (19 : Int32) x1 (m.1 9 (x3.toNatClampNeg)) m _ _ hz9) k2_0 (fl_fit_rm (by omega) (by decide)) rfl (Nat.le_of_ble_eq_true rfl) dX9_isSeen_36 rfl (fun H locs hP hS => ?_)
              refine W.eq (g2 := F0 mm 39 ls [.int r7]) rfl ?_
              refine lv_aload_n hx hb dX9_isSeen_39 rfl (lv_at hl 0 rfl) ?_
              refine fl_getr X hP fk_X9_37 k2_0 rfl dX9_isSeen_40 ?_
              refine lv_iload_n hx hb dX9_isSeen_43 rfl (lv_at hl 3 rfl) ?_
              obtain ⟨hk10, h⟩ := fl_ck_e h
              refine fl_iald X hP k2_10 hk10 dX9_isSeen_44 ?_
              refine lv_icmp_ne (tgt := 52) hx hb dX9_isSeen_45 (by decide) (fun c11 => ?_) (fun c11 => ?_)
              · replace h := fl_if_f h c11
                refine lv_iconst (v := (0 : Int32)) hx hb dX9_isSeen_52 (by decide) ?_
                refine lv_istore_n (lv' := [(2, .int (0 : Int32)), (0, .ref (ad 0)), (1, .int x1), (3, .int x3)]) hx hb dX9_isSeen_53 rfl hl (by decide) rfl (fun ls hl => ?_)
                refine lv_iinc (v := x3 + 1) (lv' := [(3, .int (x3 + 1)), (2, .int (0 : Int32)), (0, .ref (ad 0)), (1, .int x1)]) hx hb dX9_isSeen_54 hl (k := 3) rfl rfl (by decide) rfl (fun ls hl => ?_)
                refine lv_goto (tgt := 4) hx hb dX9_isSeen_57 (by decide) ?_
                exact ih_4 _ _ _ _ _ _ _ h hP hS (lv_sub hl [2, 3, 1, 0] rfl)
              · replace h := fl_if_t h c11
                refine lv_iconst (v := (1 : Int32)) hx hb dX9_isSeen_48 (by decide) ?_
                refine lv_goto (tgt := 53) hx hb dX9_isSeen_49 (by decide) ?_
                refine lv_istore_n (lv' := [(2, .int (1 : Int32)), (0, .ref (ad 0)), (1, .int x1), (3, .int x3)]) hx hb dX9_isSeen_53 rfl hl (by decide) rfl (fun ls hl => ?_)
                refine lv_iinc (v := x3 + 1) (lv' := [(3, .int (x3 + 1)), (2, .int (1 : Int32)), (0, .ref (ad 0)), (1, .int x1)]) hx hb dX9_isSeen_54 hl (k := 3) rfl rfl (by decide) rfl (fun ls hl => ?_)
                refine lv_goto (tgt := 4) hx hb dX9_isSeen_57 (by decide) ?_
                exact ih_4 _ _ _ _ _ _ _ h hP hS (lv_sub hl [2, 3, 1, 0] rfl)
  have ih_4 := key N
  refine lv_iconst (v := (1 : Int32)) hx hb dX9_isSeen_0 (by decide) ?_
  refine lv_istore_n (lv' := [(2, .int (1 : Int32)), (0, .ref (ad 0)), (1, .int x1)]) hx hb dX9_isSeen_1 rfl hl (by decide) rfl (fun ls hl => ?_)
  refine lv_iconst (v := (0 : Int32)) hx hb dX9_isSeen_2 (by decide) ?_
  refine lv_istore_n (lv' := [(3, .int (0 : Int32)), (2, .int (1 : Int32)), (0, .ref (ad 0)), (1, .int x1)]) hx hb dX9_isSeen_3 rfl hl (by decide) rfl (fun ls hl => ?_)
  exact ih_4 _ _ _ _ _ _ _ h hP hS (lv_sub hl [2, 3, 1, 0] rfl)

def J_X9_wept_84 (N : Nat) (F : Int32 → Int32 → Int32 → Int32 → Int32 → Mem → Option (Int32 × Mem)) (x1 : Int32) (x2 : Int32) (x4 : Int32) (x5 : Int32) (x6 : Int32) (t0 : Int32) (t1 : Int32) (m : Mem) : Option (Int32 × Mem) :=
  fl_li (t0 + t1) (fun z28 =>
    if x6 = 0 then (
      F x1 x2 z28 x4 (x5 + (-1)) m)
    else (
      fl_bd (f_X9_places  m) (fun r31 m32 =>
        if x5 = r31 then (
          F x1 x2 z28 (99 : Int32) (x5 + (-1)) m32)
        else (
          F x1 x2 z28 x5 (x5 + (-1)) m32))))
def J_X9_wept_65 (N : Nat) (F : Int32 → Int32 → Int32 → Int32 → Int32 → Mem → Option (Int32 × Mem)) (x1 : Int32) (x2 : Int32) (x3 : Int32) (x4 : Int32) (x5 : Int32) (t1 : Int32) (t2 : Int32) (m : Mem) : Option (Int32 × Mem) :=
  fl_ck (0 ≤ t1.toInt ∧ t1.toInt < 380) (
    fl_lm (mI m 1 (t1.toNatClampNeg) t2) (fun m22 =>
      fl_bd (f_X9_isSeen N x1 m22) (fun r24 m25 =>
        if r24 = 0 then (
          J_X9_wept_84 N F x1 x2 x4 x5 r24 x3 (0 : Int32) m25)
        else (
          J_X9_wept_84 N F x1 x2 x4 x5 r24 x3 (1 : Int32) m25))))
def B_X9_wept_36 (N : Nat) (F : Int32 → Int32 → Int32 → Int32 → Int32 → Mem → Option (Int32 × Mem)) (x1 : Int32) (x2 : Int32) (x3 : Int32) (x4 : Int32) (x5 : Int32) (m : Mem) : Option (Int32 × Mem) :=
  if x5 < 0 then (
    if x2 = 0 then (
      some (x3, m))
    else (
      some (x4, m)))
  else (
    fl_bd (f_X9_places  m) (fun r17 m18 =>
      if x5 = r17 then (
        J_X9_wept_65 N F x1 x2 x3 x4 x5 ((26 : Int32) + x1) (-4 : Int32) m18)
      else (
        J_X9_wept_65 N F x1 x2 x3 x4 x5 ((26 : Int32) + x1) x5 m18)))
def l_X9_wept (N : Nat) : Nat → Int32 → Int32 → Int32 → Int32 → Int32 → Mem → Option (Int32 × Mem)
  | 0 => fun _ _ _ _ _ _ => none
  | n + 1 => fun x1 x2 x3 x4 x5 m => B_X9_wept_36 N (l_X9_wept N n) x1 x2 x3 x4 x5 m
def f_X9_wept (N : Nat) (x1 : Int32) (x2 : Int32) (m : Mem) : Option (Int32 × Mem) :=
  fl_bd (f_X9_isCab x1 m) (fun r1 m2 =>
    if r1 = 0 then (
      some ((-1 : Int32), m2))
    else (
      fl_bd (f_X9_in x2.toInt64 (0 : Int64) (1 : Int64) m2) (fun r5 m6 =>
        if r5 = 0 then (
          some ((-1 : Int32), m6))
        else (
          fl_bd (f_X9_tries N  m6) (fun r9 m10 =>
            fl_bd (f_X9_places  m10) (fun r12 m13 =>
              (l_X9_wept N N) x1 x2 (0 : Int32) (-4 : Int32) r12 m13))))))
set_option maxHeartbeats 4000000 in
set_option maxRecDepth 100000 in
theorem c_X9_wept (l : Launch) (D : va_G) (ca : Nat → ClassId) (ad : Nat → Nat) (hi : fl_inj L2 ad) (N : Nat) (x1 : Int32) (x2 : Int32) (m : Mem) (v' : Int32) (M' : Mem) (h : f_X9_wept N x1 x2 m = some (v', M')) : fl_M l L2 D ca ad yX9_wept cX9_wept 7 (some .int) 5 [.ref (ad 0), .int x1, .int x2] m (some (.int v')) M' := by
  unfold f_X9_wept at h
  refine fl_ofW (by decide) hi (Nat.le_of_ble_eq_true rfl) ?_
  intro p e s mm args below meth c ls X hr hlk hP hl
  have hl : lv_has ls 7 [(0, .ref (ad 0)), (1, .int x1), (2, .int x2)] := hl
  have X : fl_X p s mm args c cX9_wept 7 RX9 L2 D ca ad := X
  obtain ⟨hx, hb, hml, hown, hts, hE, -⟩ := id X
  have hS : va_S (fl_A L2 ad) s.heap s.heap [] := va_S.rf
  have js : ∀ n : Nat, ((∀ (x1 : Int32) (x2 : Int32) (x3 : Int32) (x4 : Int32) (x5 : Int32) (m : Mem) (H : Heap) (locs : List Loc) (ls : Array Slot), l_X9_wept N n x1 x2 x3 x4 x5 m = some (v', M') → va_P D vwCl (fl_w L2 ca ad m) H → va_S (fl_A L2 ad) s.heap H locs → lv_has ls 7 [(0, .ref (ad 0)), (1, .int x1), (2, .int x2), (3, .int x3), (4, .int x4), (5, .int x5)] → W p l e (fl_rm 5) s mm args below meth c H locs 0 0 (MQ below (fl_Q L2 D ca ad (some (.int v')) M') args s 0 0 (fl_A L2 ad)) (F0 mm 36 ls []))) → (∀ (x1 : Int32) (x2 : Int32) (x4 : Int32) (x5 : Int32) (x6 : Int32) (t0 : Int32) (t1 : Int32) (m : Mem) (H : Heap) (locs : List Loc) (ls : Array Slot), J_X9_wept_84 N (l_X9_wept N n) x1 x2 x4 x5 x6 t0 t1 m = some (v', M') → va_P D vwCl (fl_w L2 ca ad m) H → va_S (fl_A L2 ad) s.heap H locs → lv_has ls 7 [(0, .ref (ad 0)), (1, .int x1), (2, .int x2), (4, .int x4), (5, .int x5), (6, .int x6)] → W p l e (fl_rm 5) s mm args below meth c H locs 0 0 (MQ below (fl_Q L2 D ca ad (some (.int v')) M') args s 0 0 (fl_A L2 ad)) (F0 mm 84 ls [.int t1, .int t0])) ∧ (∀ (x1 : Int32) (x2 : Int32) (x3 : Int32) (x4 : Int32) (x5 : Int32) (t1 : Int32) (t2 : Int32) (m : Mem) (H : Heap) (locs : List Loc) (ls : Array Slot), J_X9_wept_65 N (l_X9_wept N n) x1 x2 x3 x4 x5 t1 t2 m = some (v', M') → va_P D vwCl (fl_w L2 ca ad m) H → va_S (fl_A L2 ad) s.heap H locs → lv_has ls 7 [(0, .ref (ad 0)), (1, .int x1), (2, .int x2), (3, .int x3), (4, .int x4), (5, .int x5)] → W p l e (fl_rm 5) s mm args below meth c H locs 0 0 (MQ below (fl_Q L2 D ca ad (some (.int v')) M') args s 0 0 (fl_A L2 ad)) (F0 mm 65 ls [.int t2, .int t1, .ref (ad 1)])) := by
    intro n ih
    have ih_36 := ih
    have j_84 : ∀ (x1 : Int32) (x2 : Int32) (x4 : Int32) (x5 : Int32) (x6 : Int32) (t0 : Int32) (t1 : Int32) (m : Mem) (H : Heap) (locs : List Loc) (ls : Array Slot), J_X9_wept_84 N (l_X9_wept N n) x1 x2 x4 x5 x6 t0 t1 m = some (v', M') → va_P D vwCl (fl_w L2 ca ad m) H → va_S (fl_A L2 ad) s.heap H locs → lv_has ls 7 [(0, .ref (ad 0)), (1, .int x1), (2, .int x2), (4, .int x4), (5, .int x5), (6, .int x6)] → W p l e (fl_rm 5) s mm args below meth c H locs 0 0 (MQ below (fl_Q L2 D ca ad (some (.int v')) M') args s 0 0 (fl_A L2 ad)) (F0 mm 84 ls [.int t1, .int t0]) := by
      intro x1 x2 x4 x5 x6 t0 t1 m H locs ls h hP hS hl
      unfold J_X9_wept_84 at h
      refine lv_iadd hx hb dX9_wept_84 ?_
      obtain ⟨z28, ez29, h⟩ := fl_li_e h
      refine fl_topi ez29 ?_
      refine lv_istore_n (lv' := [(3, .int z28), (0, .ref (ad 0)), (1, .int x1), (2, .int x2), (4, .int x4), (5, .int x5), (6, .int x6)]) hx hb dX9_wept_85 rfl hl (by decide) rfl (fun ls hl => ?_)
      refine lv_iload hx hb dX9_wept_86 (lv_at hl 6 rfl) ?_
      refine lv_if_eq (tgt := 110) hx hb dX9_wept_88 (by decide) (fun c30 => ?_) (fun c30 => ?_)
      · replace h := fl_if_t h c30
        refine lv_iload hx hb dX9_wept_110 (lv_at hl 4 rfl) ?_
        refine lv_istore (lv' := [(4, .int x4), (3, .int z28), (0, .ref (ad 0)), (1, .int x1), (2, .int x2), (5, .int x5), (6, .int x6)]) hx hb dX9_wept_112 hl (by decide) rfl (fun ls hl => ?_)
        refine lv_iinc (v := x5 + (-1)) (lv' := [(5, .int (x5 + (-1))), (4, .int x4), (3, .int z28), (0, .ref (ad 0)), (1, .int x1), (2, .int x2), (6, .int x6)]) hx hb dX9_wept_114 hl (k := 5) rfl rfl (by decide) rfl (fun ls hl => ?_)
        refine lv_goto (tgt := 36) hx hb dX9_wept_117 (by decide) ?_
        exact ih_36 _ _ _ _ _ _ _ _ _ h hP hS (lv_sub hl [3, 4, 5, 2, 1, 0] rfl)
      · replace h := fl_if_f h c30
        refine lv_iload hx hb dX9_wept_91 (lv_at hl 5 rfl) ?_
        refine lv_aload_n hx hb dX9_wept_93 rfl (lv_at hl 1 rfl) ?_
        obtain ⟨r31, m32, hz33, h⟩ := fl_bd_e h
        refine fl_callV (av := []) X hP hS hl.1 mv_X9_88 (c_X9_places l D ca ad hi  m _ _ hz33) k2_0 (fl_fit_rm (by omega) (by decide)) rfl (Nat.le_of_ble_eq_true rfl) dX9_wept_94 rfl (fun H locs hP hS => ?_)
        refine W.eq (g2 := F0 mm 97 ls [.int r31, .int x5]) rfl ?_
        refine lv_icmp_ne (tgt := 105) hx hb dX9_wept_97 (by decide) (fun c34 => ?_) (fun c34 => ?_)
        · replace h := fl_if_f h c34
          refine lv_iload hx hb dX9_wept_105 (lv_at hl 5 rfl) ?_
          refine lv_goto (tgt := 112) hx hb dX9_wept_107 (by decide) ?_
          refine lv_istore (lv' := [(4, .int x5), (3, .int z28), (0, .ref (ad 0)), (1, .int x1), (2, .int x2), (5, .int x5), (6, .int x6)]) hx hb dX9_wept_112 hl (by decide) rfl (fun ls hl => ?_)
          refine lv_iinc (v := x5 + (-1)) (lv' := [(5, .int (x5 + (-1))), (4, .int x5), (3, .int z28), (0, .ref (ad 0)), (1, .int x1), (2, .int x2), (6, .int x6)]) hx hb dX9_wept_114 hl (k := 5) rfl rfl (by decide) rfl (fun ls hl => ?_)
          refine lv_goto (tgt := 36) hx hb dX9_wept_117 (by decide) ?_
          exact ih_36 _ _ _ _ _ _ _ _ _ h hP hS (lv_sub hl [3, 4, 5, 2, 1, 0] rfl)
        · replace h := fl_if_t h c34
          refine lv_bipush (v := (99 : Int32)) hx hb dX9_wept_100 (by decide) ?_
          refine lv_goto (tgt := 112) hx hb dX9_wept_102 (by decide) ?_
          refine lv_istore (lv' := [(4, .int (99 : Int32)), (3, .int z28), (0, .ref (ad 0)), (1, .int x1), (2, .int x2), (5, .int x5), (6, .int x6)]) hx hb dX9_wept_112 hl (by decide) rfl (fun ls hl => ?_)
          refine lv_iinc (v := x5 + (-1)) (lv' := [(5, .int (x5 + (-1))), (4, .int (99 : Int32)), (3, .int z28), (0, .ref (ad 0)), (1, .int x1), (2, .int x2), (6, .int x6)]) hx hb dX9_wept_114 hl (k := 5) rfl rfl (by decide) rfl (fun ls hl => ?_)
          refine lv_goto (tgt := 36) hx hb dX9_wept_117 (by decide) ?_
          exact ih_36 _ _ _ _ _ _ _ _ _ h hP hS (lv_sub hl [3, 4, 5, 2, 1, 0] rfl)
    have j_65 : ∀ (x1 : Int32) (x2 : Int32) (x3 : Int32) (x4 : Int32) (x5 : Int32) (t1 : Int32) (t2 : Int32) (m : Mem) (H : Heap) (locs : List Loc) (ls : Array Slot), J_X9_wept_65 N (l_X9_wept N n) x1 x2 x3 x4 x5 t1 t2 m = some (v', M') → va_P D vwCl (fl_w L2 ca ad m) H → va_S (fl_A L2 ad) s.heap H locs → lv_has ls 7 [(0, .ref (ad 0)), (1, .int x1), (2, .int x2), (3, .int x3), (4, .int x4), (5, .int x5)] → W p l e (fl_rm 5) s mm args below meth c H locs 0 0 (MQ below (fl_Q L2 D ca ad (some (.int v')) M') args s 0 0 (fl_A L2 ad)) (F0 mm 65 ls [.int t2, .int t1, .ref (ad 1)]) := by
      intro x1 x2 x3 x4 x5 t1 t2 m H locs ls h hP hS hl
      unfold J_X9_wept_65 at h
      obtain ⟨hk21, h⟩ := fl_ck_e h
      obtain ⟨m22, em23, h⟩ := fl_lm_e h
      refine fl_iast X hP hS k2_1 hk21 dX9_wept_65 (fun H locs hP hS => ?_)
      have hP : va_P D vwCl (fl_w L2 ca ad m22) H := by rw [em23]; exact hP
      refine lv_aload_n hx hb dX9_wept_66 rfl (lv_at hl 0 rfl) ?_
      refine lv_iload_n hx hb dX9_wept_67 rfl (lv_at hl 1 rfl) ?_
      obtain ⟨r24, m25, hz26, h⟩ := fl_bd_e h
      refine fl_callV (av := [.int x1]) X hP hS hl.1 mv_X9_244 (c_X9_isSeen l D ca ad hi N x1 m22 _ _ hz26) k2_0 (fl_fit_rm (by omega) (by decide)) rfl (Nat.le_of_ble_eq_true rfl) dX9_wept_68 rfl (fun H locs hP hS => ?_)
      refine W.eq (g2 := F0 mm 71 ls [.int r24]) rfl ?_
      refine lv_istore (lv' := [(6, .int r24), (0, .ref (ad 0)), (1, .int x1), (2, .int x2), (3, .int x3), (4, .int x4), (5, .int x5)]) hx hb dX9_wept_71 hl (by decide) rfl (fun ls hl => ?_)
      refine lv_iload_n hx hb dX9_wept_73 rfl (lv_at hl 4 rfl) ?_
      refine lv_iload hx hb dX9_wept_74 (lv_at hl 0 rfl) ?_
      refine lv_if_eq (tgt := 83) hx hb dX9_wept_76 (by decide) (fun c27 => ?_) (fun c27 => ?_)
      · replace h := fl_if_t h c27
        refine lv_iconst (v := (0 : Int32)) hx hb dX9_wept_83 (by decide) ?_
        exact j_84 _ _ _ _ _ _ _ _ _ _ _ h hP hS (lv_sub hl [1, 2, 3, 5, 6, 0] rfl)
      · replace h := fl_if_f h c27
        refine lv_iconst (v := (1 : Int32)) hx hb dX9_wept_79 (by decide) ?_
        refine lv_goto (tgt := 84) hx hb dX9_wept_80 (by decide) ?_
        exact j_84 _ _ _ _ _ _ _ _ _ _ _ h hP hS (lv_sub hl [1, 2, 3, 5, 6, 0] rfl)
    exact ⟨j_84, j_65⟩
  have key : ∀ n : Nat, (∀ (x1 : Int32) (x2 : Int32) (x3 : Int32) (x4 : Int32) (x5 : Int32) (m : Mem) (H : Heap) (locs : List Loc) (ls : Array Slot), l_X9_wept N n x1 x2 x3 x4 x5 m = some (v', M') → va_P D vwCl (fl_w L2 ca ad m) H → va_S (fl_A L2 ad) s.heap H locs → lv_has ls 7 [(0, .ref (ad 0)), (1, .int x1), (2, .int x2), (3, .int x3), (4, .int x4), (5, .int x5)] → W p l e (fl_rm 5) s mm args below meth c H locs 0 0 (MQ below (fl_Q L2 D ca ad (some (.int v')) M') args s 0 0 (fl_A L2 ad)) (F0 mm 36 ls [])) := by
    intro n
    induction n with
    | zero =>
      skip
      · intro x1 x2 x3 x4 x5 m H locs ls h hP hS hl
        have h : (none : Option (Int32 × Mem)) = some (v', M') := h
        cases h
    | succ n ih =>
      have ih_36 := ih
      obtain ⟨j_84, j_65⟩ := js n ih_36
      skip
      · intro x1 x2 x3 x4 x5 m H locs ls h hP hS hl
        have h : B_X9_wept_36 N (l_X9_wept N n) x1 x2 x3 x4 x5 m = some (v', M') := h
        unfold B_X9_wept_36 at h
        refine lv_iload hx hb dX9_wept_36 (lv_at hl 5 rfl) ?_
        refine lv_if_lt (tgt := 120) hx hb dX9_wept_38 (by decide) (fun c15 => ?_) (fun c15 => ?_)
        · replace h := fl_if_t h c15
          refine lv_iload_n hx hb dX9_wept_120 rfl (lv_at hl 2 rfl) ?_
          refine lv_if_ne (tgt := 128) hx hb dX9_wept_121 (by decide) (fun c16 => ?_) (fun c16 => ?_)
          · replace h := fl_if_f h c16
            refine lv_iload hx hb dX9_wept_128 (lv_at hl 4 rfl) ?_
            exact fl_iret X hr hlk hP hS dX9_wept_130 h
          · replace h := fl_if_t h c16
            refine lv_iload_n hx hb dX9_wept_124 rfl (lv_at hl 3 rfl) ?_
            refine lv_goto (tgt := 130) hx hb dX9_wept_125 (by decide) ?_
            exact fl_iret X hr hlk hP hS dX9_wept_130 h
        · replace h := fl_if_f h c15
          refine lv_aload_n hx hb dX9_wept_41 rfl (lv_at hl 0 rfl) ?_
          refine fl_getr X hP fk_X9_7 k2_0 rfl dX9_wept_42 ?_
          refine lv_bipush (v := (26 : Int32)) hx hb dX9_wept_45 (by decide) ?_
          refine lv_iload_n hx hb dX9_wept_47 rfl (lv_at hl 1 rfl) ?_
          refine lv_iadd hx hb dX9_wept_48 ?_
          refine lv_iload hx hb dX9_wept_49 (lv_at hl 5 rfl) ?_
          refine lv_aload_n hx hb dX9_wept_51 rfl (lv_at hl 0 rfl) ?_
          obtain ⟨r17, m18, hz19, h⟩ := fl_bd_e h
          refine fl_callV (av := []) X hP hS hl.1 mv_X9_88 (c_X9_places l D ca ad hi  m _ _ hz19) k2_0 (fl_fit_rm (by omega) (by decide)) rfl (Nat.le_of_ble_eq_true rfl) dX9_wept_52 rfl (fun H locs hP hS => ?_)
          refine W.eq (g2 := F0 mm 55 ls [.int r17, .int x5, .int ((26 : Int32) + x1), .ref (ad 1)]) rfl ?_
          refine lv_icmp_ne (tgt := 63) hx hb dX9_wept_55 (by decide) (fun c20 => ?_) (fun c20 => ?_)
          · replace h := fl_if_f h c20
            refine lv_iload hx hb dX9_wept_63 (lv_at hl 5 rfl) ?_
            exact j_65 _ _ _ _ _ _ _ _ _ _ _ h hP hS (lv_sub hl [0, 1, 2, 3, 4, 5] rfl)
          · replace h := fl_if_t h c20
            refine lv_bipush (v := (-4 : Int32)) hx hb dX9_wept_58 (by decide) ?_
            refine lv_goto (tgt := 65) hx hb dX9_wept_60 (by decide) ?_
            exact j_65 _ _ _ _ _ _ _ _ _ _ _ h hP hS (lv_sub hl [0, 1, 2, 3, 4, 5] rfl)
  have ih_36 := key N
  obtain ⟨j_84, j_65⟩ := js N ih_36
  refine lv_aload_n hx hb dX9_wept_0 rfl (lv_at hl 0 rfl) ?_
  refine lv_iload_n hx hb dX9_wept_1 rfl (lv_at hl 1 rfl) ?_
  obtain ⟨r1, m2, hz3, h⟩ := fl_bd_e h
  refine fl_callV (av := [.int x1]) X hP hS hl.1 mv_X9_166 (c_X9_isCab l D ca ad hi x1 m _ _ hz3) k2_0 (fl_fit_rm (by omega) (by decide)) rfl (Nat.le_of_ble_eq_true rfl) dX9_wept_2 rfl (fun H locs hP hS => ?_)
  refine W.eq (g2 := F0 mm 5 ls [.int r1]) rfl ?_
  refine lv_if_eq (tgt := 18) hx hb dX9_wept_5 (by decide) (fun c4 => ?_) (fun c4 => ?_)
  · replace h := fl_if_t h c4
    refine lv_iconst (v := (-1 : Int32)) hx hb dX9_wept_18 (by decide) ?_
    exact fl_iret X hr hlk hP hS dX9_wept_19 h
  · replace h := fl_if_f h c4
    refine lv_iload_n hx hb dX9_wept_8 rfl (lv_at hl 2 rfl) ?_
    refine lv_i2l (v := x2.toInt64) hx hb dX9_wept_9 rfl ?_
    refine lv_lconst (v := (0 : Int64)) hx hb dX9_wept_10 (by decide) ?_
    refine lv_lconst (v := (1 : Int64)) hx hb dX9_wept_11 (by decide) ?_
    obtain ⟨r5, m6, hz7, h⟩ := fl_bd_e h
    refine fl_callS (av := [.long x2.toInt64, .long (0 : Int64), .long (1 : Int64)]) X hP hS hl.1 ms_X9_92 (c_X9_in l D ca ad hi x2.toInt64 (0 : Int64) (1 : Int64) m2 _ _ hz7) (fl_fit_rm (by omega) (by decide)) rfl (Nat.le_of_ble_eq_true rfl) dX9_wept_12 rfl (fun H locs hP hS => ?_)
    refine W.eq (g2 := F0 mm 15 ls [.int r5]) rfl ?_
    refine lv_if_ne (tgt := 20) hx hb dX9_wept_15 (by decide) (fun c8 => ?_) (fun c8 => ?_)
    · replace h := fl_if_f h c8
      refine lv_iconst (v := (0 : Int32)) hx hb dX9_wept_20 (by decide) ?_
      refine lv_istore_n (lv' := [(3, .int (0 : Int32)), (0, .ref (ad 0)), (1, .int x1), (2, .int x2)]) hx hb dX9_wept_21 rfl hl (by decide) rfl (fun ls hl => ?_)
      refine lv_bipush (v := (-4 : Int32)) hx hb dX9_wept_22 (by decide) ?_
      refine lv_istore (lv' := [(4, .int (-4 : Int32)), (3, .int (0 : Int32)), (0, .ref (ad 0)), (1, .int x1), (2, .int x2)]) hx hb dX9_wept_24 hl (by decide) rfl (fun ls hl => ?_)
      refine lv_aload_n hx hb dX9_wept_26 rfl (lv_at hl 2 rfl) ?_
      obtain ⟨r9, m10, hz11, h⟩ := fl_bd_e h
      refine fl_callV (av := []) X hP hS hl.1 mv_X9_226 (c_X9_tries l D ca ad hi N  m6 _ _ hz11) k2_0 (fl_fit_rm (by omega) (by decide)) rfl (Nat.le_of_ble_eq_true rfl) dX9_wept_27 rfl (fun H locs hP hS => ?_)
      refine W.eq (g2 := F0 mm 30 ls []) rfl ?_
      refine lv_aload_n hx hb dX9_wept_30 rfl (lv_at hl 2 rfl) ?_
      obtain ⟨r12, m13, hz14, h⟩ := fl_bd_e h
      refine fl_callV (av := []) X hP hS hl.1 mv_X9_88 (c_X9_places l D ca ad hi  m10 _ _ hz14) k2_0 (fl_fit_rm (by omega) (by decide)) rfl (Nat.le_of_ble_eq_true rfl) dX9_wept_31 rfl (fun H locs hP hS => ?_)
      refine W.eq (g2 := F0 mm 34 ls [.int r12]) rfl ?_
      refine lv_istore (lv' := [(5, .int r12), (4, .int (-4 : Int32)), (3, .int (0 : Int32)), (0, .ref (ad 0)), (1, .int x1), (2, .int x2)]) hx hb dX9_wept_34 hl (by decide) rfl (fun ls hl => ?_)
      exact ih_36 _ _ _ _ _ _ _ _ _ h hP hS (lv_sub hl [3, 4, 5, 2, 1, 0] rfl)
    · replace h := fl_if_t h c8
      refine lv_iconst (v := (-1 : Int32)) hx hb dX9_wept_18 (by decide) ?_
      exact fl_iret X hr hlk hP hS dX9_wept_19 h

def B_X9_kinds_26 (N : Nat) (F : Int32 → Int32 → Int32 → Int32 → Mem → Option (Int32 × Mem)) (x1 : Int32) (x2 : Int32) (x3 : Int32) (x4 : Int32) (m : Mem) : Option (Int32 × Mem) :=
  if (2 : Int32) < x4 then (
    fl_ck (0 ≤ x1.toInt ∧ x1.toInt < 3) (
      fl_lm (mI m 2 (x1.toNatClampNeg) x3) (fun m13 =>
        some (x2, m13))))
  else (
    fl_ck (0 ≤ x1.toInt ∧ x1.toInt < 3) (
      fl_lm (mI m 2 (x1.toNatClampNeg) x4) (fun m16 =>
        fl_bd (f_X9_isSeen N x1 m16) (fun r18 m19 =>
          if r18 = 0 then (
            fl_li (x2 ||| (0 : Int32)) (fun z22 =>
              F x1 z22 x3 (x4 + 1) m19))
          else (
            fl_li (x2 ||| ((1 : Int32) <<< (x4 &&& 31))) (fun z24 =>
              F x1 z24 x3 (x4 + 1) m19))))))
def l_X9_kinds (N : Nat) : Nat → Int32 → Int32 → Int32 → Int32 → Mem → Option (Int32 × Mem)
  | 0 => fun _ _ _ _ _ => none
  | n + 1 => fun x1 x2 x3 x4 m => B_X9_kinds_26 N (l_X9_kinds N n) x1 x2 x3 x4 m
def f_X9_kinds (N : Nat) (x1 : Int32) (m : Mem) : Option (Int32 × Mem) :=
  fl_bd (f_X9_isCab x1 m) (fun r1 m2 =>
    if r1 = 0 then (
      some ((-1 : Int32), m2))
    else (
      fl_ck (0 ≤ x1.toInt ∧ x1.toInt < 3) (
        fl_li (m2.1 2 (x1.toNatClampNeg)) (fun z6 =>
          fl_bd (f_X9_tries N  m2) (fun r8 m9 =>
            (l_X9_kinds N N) x1 (0 : Int32) z6 (0 : Int32) m9)))))
set_option maxHeartbeats 4000000 in
set_option maxRecDepth 100000 in
theorem c_X9_kinds (l : Launch) (D : va_G) (ca : Nat → ClassId) (ad : Nat → Nat) (hi : fl_inj L2 ad) (N : Nat) (x1 : Int32) (m : Mem) (v' : Int32) (M' : Mem) (h : f_X9_kinds N x1 m = some (v', M')) : fl_M l L2 D ca ad yX9_kinds cX9_kinds 5 (some .int) 5 [.ref (ad 0), .int x1] m (some (.int v')) M' := by
  unfold f_X9_kinds at h
  refine fl_ofW (by decide) hi (Nat.le_of_ble_eq_true rfl) ?_
  intro p e s mm args below meth c ls X hr hlk hP hl
  have hl : lv_has ls 5 [(0, .ref (ad 0)), (1, .int x1)] := hl
  have X : fl_X p s mm args c cX9_kinds 5 RX9 L2 D ca ad := X
  obtain ⟨hx, hb, hml, hown, hts, hE, -⟩ := id X
  have hS : va_S (fl_A L2 ad) s.heap s.heap [] := va_S.rf
  have key : ∀ n : Nat, (∀ (x1 : Int32) (x2 : Int32) (x3 : Int32) (x4 : Int32) (m : Mem) (H : Heap) (locs : List Loc) (ls : Array Slot), l_X9_kinds N n x1 x2 x3 x4 m = some (v', M') → va_P D vwCl (fl_w L2 ca ad m) H → va_S (fl_A L2 ad) s.heap H locs → lv_has ls 5 [(0, .ref (ad 0)), (1, .int x1), (2, .int x2), (3, .int x3), (4, .int x4)] → W p l e (fl_rm 5) s mm args below meth c H locs 0 0 (MQ below (fl_Q L2 D ca ad (some (.int v')) M') args s 0 0 (fl_A L2 ad)) (F0 mm 26 ls [])) := by
    intro n
    induction n with
    | zero =>
      skip
      · intro x1 x2 x3 x4 m H locs ls h hP hS hl
        have h : (none : Option (Int32 × Mem)) = some (v', M') := h
        cases h
    | succ n ih =>
      have ih_26 := ih
      skip
      · intro x1 x2 x3 x4 m H locs ls h hP hS hl
        have h : B_X9_kinds_26 N (l_X9_kinds N n) x1 x2 x3 x4 m = some (v', M') := h
        unfold B_X9_kinds_26 at h
        refine lv_iload hx hb dX9_kinds_26 (lv_at hl 4 rfl) ?_
        refine lv_iconst (v := (2 : Int32)) hx hb dX9_kinds_28 (by decide) ?_
        refine lv_icmp_gt (tgt := 65) hx hb dX9_kinds_29 (by decide) (fun c11 => ?_) (fun c11 => ?_)
        · replace h := fl_if_t h c11
          refine lv_aload_n hx hb dX9_kinds_65 rfl (lv_at hl 0 rfl) ?_
          refine fl_getr X hP fk_X9_13 k2_0 rfl dX9_kinds_66 ?_
          refine lv_iload_n hx hb dX9_kinds_69 rfl (lv_at hl 1 rfl) ?_
          refine lv_iload_n hx hb dX9_kinds_70 rfl (lv_at hl 3 rfl) ?_
          obtain ⟨hk12, h⟩ := fl_ck_e h
          obtain ⟨m13, em14, h⟩ := fl_lm_e h
          refine fl_iast X hP hS k2_2 hk12 dX9_kinds_71 (fun H locs hP hS => ?_)
          have hP : va_P D vwCl (fl_w L2 ca ad m13) H := by rw [em14]; exact hP
          refine lv_iload_n hx hb dX9_kinds_72 rfl (lv_at hl 2 rfl) ?_
          exact fl_iret X hr hlk hP hS dX9_kinds_73 h
        · replace h := fl_if_f h c11
          refine lv_aload_n hx hb dX9_kinds_32 rfl (lv_at hl 0 rfl) ?_
          refine fl_getr X hP fk_X9_13 k2_0 rfl dX9_kinds_33 ?_
          refine lv_iload_n hx hb dX9_kinds_36 rfl (lv_at hl 1 rfl) ?_
          refine lv_iload hx hb dX9_kinds_37 (lv_at hl 4 rfl) ?_
          obtain ⟨hk15, h⟩ := fl_ck_e h
          obtain ⟨m16, em17, h⟩ := fl_lm_e h
          refine fl_iast X hP hS k2_2 hk15 dX9_kinds_39 (fun H locs hP hS => ?_)
          have hP : va_P D vwCl (fl_w L2 ca ad m16) H := by rw [em17]; exact hP
          refine lv_iload_n hx hb dX9_kinds_40 rfl (lv_at hl 2 rfl) ?_
          refine lv_aload_n hx hb dX9_kinds_41 rfl (lv_at hl 0 rfl) ?_
          refine lv_iload_n hx hb dX9_kinds_42 rfl (lv_at hl 1 rfl) ?_
          obtain ⟨r18, m19, hz20, h⟩ := fl_bd_e h
          refine fl_callV (av := [.int x1]) X hP hS hl.1 mv_X9_244 (c_X9_isSeen l D ca ad hi N x1 m16 _ _ hz20) k2_0 (fl_fit_rm (by omega) (by decide)) rfl (Nat.le_of_ble_eq_true rfl) dX9_kinds_43 rfl (fun H locs hP hS => ?_)
          refine W.eq (g2 := F0 mm 46 ls [.int r18, .int x2]) rfl ?_
          refine lv_if_eq (tgt := 56) hx hb dX9_kinds_46 (by decide) (fun c21 => ?_) (fun c21 => ?_)
          · replace h := fl_if_t h c21
            refine lv_iconst (v := (0 : Int32)) hx hb dX9_kinds_56 (by decide) ?_
            refine lv_ior hx hb dX9_kinds_57 ?_
            obtain ⟨z22, ez23, h⟩ := fl_li_e h
            refine fl_topi ez23 ?_
            refine lv_istore_n (lv' := [(2, .int z22), (0, .ref (ad 0)), (1, .int x1), (3, .int x3), (4, .int x4)]) hx hb dX9_kinds_58 rfl hl (by decide) rfl (fun ls hl => ?_)
            refine lv_iinc (v := x4 + 1) (lv' := [(4, .int (x4 + 1)), (2, .int z22), (0, .ref (ad 0)), (1, .int x1), (3, .int x3)]) hx hb dX9_kinds_59 hl (k := 4) rfl rfl (by decide) rfl (fun ls hl => ?_)
            refine lv_goto (tgt := 26) hx hb dX9_kinds_62 (by decide) ?_
            exact ih_26 _ _ _ _ _ _ _ _ h hP hS (lv_sub hl [2, 3, 1, 4, 0] rfl)
          · replace h := fl_if_f h c21
            refine lv_iconst (v := (1 : Int32)) hx hb dX9_kinds_49 (by decide) ?_
            refine lv_iload hx hb dX9_kinds_50 (lv_at hl 4 rfl) ?_
            refine lv_ishl hx hb dX9_kinds_52 ?_
            refine lv_goto (tgt := 57) hx hb dX9_kinds_53 (by decide) ?_
            refine lv_ior hx hb dX9_kinds_57 ?_
            obtain ⟨z24, ez25, h⟩ := fl_li_e h
            refine fl_topi ez25 ?_
            refine lv_istore_n (lv' := [(2, .int z24), (0, .ref (ad 0)), (1, .int x1), (3, .int x3), (4, .int x4)]) hx hb dX9_kinds_58 rfl hl (by decide) rfl (fun ls hl => ?_)
            refine lv_iinc (v := x4 + 1) (lv' := [(4, .int (x4 + 1)), (2, .int z24), (0, .ref (ad 0)), (1, .int x1), (3, .int x3)]) hx hb dX9_kinds_59 hl (k := 4) rfl rfl (by decide) rfl (fun ls hl => ?_)
            refine lv_goto (tgt := 26) hx hb dX9_kinds_62 (by decide) ?_
            exact ih_26 _ _ _ _ _ _ _ _ h hP hS (lv_sub hl [2, 3, 1, 4, 0] rfl)
  have ih_26 := key N
  refine lv_aload_n hx hb dX9_kinds_0 rfl (lv_at hl 0 rfl) ?_
  refine lv_iload_n hx hb dX9_kinds_1 rfl (lv_at hl 1 rfl) ?_
  obtain ⟨r1, m2, hz3, h⟩ := fl_bd_e h
  refine fl_callV (av := [.int x1]) X hP hS hl.1 mv_X9_166 (c_X9_isCab l D ca ad hi x1 m _ _ hz3) k2_0 (fl_fit_rm (by omega) (by decide)) rfl (Nat.le_of_ble_eq_true rfl) dX9_kinds_2 rfl (fun H locs hP hS => ?_)
  refine W.eq (g2 := F0 mm 5 ls [.int r1]) rfl ?_
  refine lv_if_ne (tgt := 10) hx hb dX9_kinds_5 (by decide) (fun c4 => ?_) (fun c4 => ?_)
  · replace h := fl_if_f h c4
    refine lv_iconst (v := (0 : Int32)) hx hb dX9_kinds_10 (by decide) ?_
    refine lv_istore_n (lv' := [(2, .int (0 : Int32)), (0, .ref (ad 0)), (1, .int x1)]) hx hb dX9_kinds_11 rfl hl (by decide) rfl (fun ls hl => ?_)
    refine lv_aload_n hx hb dX9_kinds_12 rfl (lv_at hl 1 rfl) ?_
    refine fl_getr X hP fk_X9_13 k2_0 rfl dX9_kinds_13 ?_
    refine lv_iload_n hx hb dX9_kinds_16 rfl (lv_at hl 2 rfl) ?_
    obtain ⟨hk5, h⟩ := fl_ck_e h
    refine fl_iald X hP k2_2 hk5 dX9_kinds_17 ?_
    obtain ⟨z6, ez7, h⟩ := fl_li_e h
    refine fl_topi ez7 ?_
    refine lv_istore_n (lv' := [(3, .int z6), (2, .int (0 : Int32)), (0, .ref (ad 0)), (1, .int x1)]) hx hb dX9_kinds_18 rfl hl (by decide) rfl (fun ls hl => ?_)
    refine lv_aload_n hx hb dX9_kinds_19 rfl (lv_at hl 2 rfl) ?_
    obtain ⟨r8, m9, hz10, h⟩ := fl_bd_e h
    refine fl_callV (av := []) X hP hS hl.1 mv_X9_226 (c_X9_tries l D ca ad hi N  m2 _ _ hz10) k2_0 (fl_fit_rm (by omega) (by decide)) rfl (Nat.le_of_ble_eq_true rfl) dX9_kinds_20 rfl (fun H locs hP hS => ?_)
    refine W.eq (g2 := F0 mm 23 ls []) rfl ?_
    refine lv_iconst (v := (0 : Int32)) hx hb dX9_kinds_23 (by decide) ?_
    refine lv_istore (lv' := [(4, .int (0 : Int32)), (3, .int z6), (2, .int (0 : Int32)), (0, .ref (ad 0)), (1, .int x1)]) hx hb dX9_kinds_24 hl (by decide) rfl (fun ls hl => ?_)
    exact ih_26 _ _ _ _ _ _ _ _ h hP hS (lv_sub hl [3, 4, 2, 1, 0] rfl)
  · replace h := fl_if_t h c4
    refine lv_iconst (v := (-1 : Int32)) hx hb dX9_kinds_8 (by decide) ?_
    exact fl_iret X hr hlk hP hS dX9_kinds_9 h

def B_X9_tears_241 (N : Nat) (F : Nat → Int32 → Int32 → Int32 → Int32 → Int32 → Int32 → Int32 → Int32 → Int32 → Int32 → Int32 → Int32 → Mem → Option (Int32 × Mem)) (x3 : Int32) (x6 : Int32) (x7 : Int32) (x8 : Int32) (x9 : Int32) (m : Mem) : Option (Int32 × Mem) :=
  if x9 = 0 then (
    if x3 = 0 then (
      fl_ck (¬ x8 = 0) (
        some (x6 / x8, m)))
    else (
      fl_ck (¬ x8 = 0) (
        some (x7 / x8, m))))
  else (
    fl_ck (¬ x9 = 0) (
      fl_li (fl_rem x8 x9) (fun z31 =>
        F 4 0 0 x3 0 0 x6 x7 x9 z31 0 0 0 m)))
def J_X9_tears_198 (N : Nat) (F : Nat → Int32 → Int32 → Int32 → Int32 → Int32 → Int32 → Int32 → Int32 → Int32 → Int32 → Int32 → Int32 → Mem → Option (Int32 × Mem)) (x1 : Int32) (x2 : Int32) (x3 : Int32) (x4 : Int32) (x5 : Int32) (x6 : Int32) (x7 : Int32) (x8 : Int32) (x9 : Int32) (x11 : Int32) (x12 : Int32) (t0 : Int32) (t1 : Int32) (m : Mem) : Option (Int32 × Mem) :=
  fl_li (t0 + t1) (fun z61 =>
    F 3 x1 x2 x3 x4 x5 x6 x7 x8 x9 z61 (x11 + 1) (x12 + 1) m)
def J_X9_tears_145 (N : Nat) (F : Nat → Int32 → Int32 → Int32 → Int32 → Int32 → Int32 → Int32 → Int32 → Int32 → Int32 → Int32 → Int32 → Mem → Option (Int32 × Mem)) (x1 : Int32) (x2 : Int32) (x3 : Int32) (x4 : Int32) (x5 : Int32) (x6 : Int32) (x7 : Int32) (x8 : Int32) (x10 : Int32) (x11 : Int32) (x12 : Int32) (t0 : Int32) (t1 : Int32) (m : Mem) : Option (Int32 × Mem) :=
  fl_li (t0 * t1) (fun z47 =>
    fl_bd (f_X9_soonestIn N (19 : Int32) x12 m) (fun r49 m50 =>
      fl_bd (f_X9_has x8 x11 m50) (fun r52 m53 =>
        fl_bd (f_X9_rides (19 : Int32) r49 x12 r52 m53) (fun r55 m56 =>
          fl_ck (0 ≤ ((30 : Int32) + x12).toInt ∧ ((30 : Int32) + x12).toInt < 380) (
            fl_ck (0 ≤ x12.toInt ∧ x12.toInt < 7) (
              if (m56.1 1 (((30 : Int32) + x12).toNatClampNeg)) ≤ (m56.1 7 (x12.toNatClampNeg)) then (
                J_X9_tears_198 N F x1 x2 x3 x4 x5 x6 x7 x8 z47 x11 x12 x10 (0 : Int32) m56)
              else (
                J_X9_tears_198 N F x1 x2 x3 x4 x5 x6 x7 x8 z47 x11 x12 x10 (1 : Int32) m56)))))))
def B_X9_tears_106 (N : Nat) (F : Nat → Int32 → Int32 → Int32 → Int32 → Int32 → Int32 → Int32 → Int32 → Int32 → Int32 → Int32 → Int32 → Mem → Option (Int32 × Mem)) (x1 : Int32) (x2 : Int32) (x3 : Int32) (x4 : Int32) (x5 : Int32) (x6 : Int32) (x7 : Int32) (x8 : Int32) (x9 : Int32) (x10 : Int32) (x11 : Int32) (x12 : Int32) (m : Mem) : Option (Int32 × Mem) :=
  if (m.1 0 7) ≤ x12 then (
    if x10 < x1 then (
      fl_li (x6 + (0 : Int32)) (fun z35 =>
        F 2 x1 x2 x3 x4 x5 z35 x7 (x8 + 1) 0 0 0 0 m))
    else (
      fl_li (x6 + x9) (fun z37 =>
        F 2 x1 x2 x3 x4 x5 z37 x7 (x8 + 1) 0 0 0 0 m)))
  else (
    fl_bd (f_X9_has x4 x12 m) (fun r39 m40 =>
      if r39 = 0 then (
        F 3 x1 x2 x3 x4 x5 x6 x7 x8 x9 x10 x11 (x12 + 1) m40)
      else (
        fl_bd (f_X9_has x8 x11 m40) (fun r43 m44 =>
          if r43 = 0 then (
            J_X9_tears_145 N F x1 x2 x3 x4 x5 x6 x7 x8 x10 x11 x12 x9 ((10 : Int32) - x2) m44)
          else (
            J_X9_tears_145 N F x1 x2 x3 x4 x5 x6 x7 x8 x10 x11 x12 x9 x2 m44)))))
def B_X9_tears_81 (N : Nat) (F : Nat → Int32 → Int32 → Int32 → Int32 → Int32 → Int32 → Int32 → Int32 → Int32 → Int32 → Int32 → Int32 → Mem → Option (Int32 × Mem)) (x1 : Int32) (x2 : Int32) (x3 : Int32) (x4 : Int32) (x5 : Int32) (x6 : Int32) (x7 : Int32) (x8 : Int32) (m : Mem) : Option (Int32 × Mem) :=
  if ((1 : Int32) <<< (x5 &&& 31)) ≤ x8 then (
    F 4 0 0 x3 0 0 x6 x7 x6 x7 0 0 0 m)
  else (
    fl_bd (f_X9_tries N  m) (fun r23 m24 =>
      F 3 x1 x2 x3 x4 x5 x6 x7 x8 (1 : Int32) (0 : Int32) (0 : Int32) (0 : Int32) m24))
def B_X9_tears_58 (N : Nat) (F : Nat → Int32 → Int32 → Int32 → Int32 → Int32 → Int32 → Int32 → Int32 → Int32 → Int32 → Int32 → Int32 → Mem → Option (Int32 × Mem)) (x1 : Int32) (x2 : Int32) (x3 : Int32) (x4 : Int32) (x5 : Int32) (x6 : Int32) (x7 : Int32) (x8 : Int32) (m : Mem) : Option (Int32 × Mem) :=
  if x5 ≤ x8 then (
    F 2 x1 x2 x3 x4 x5 x6 x7 (0 : Int32) 0 0 0 0 m)
  else (
    fl_li (x7 * (10 : Int32)) (fun z20 =>
      F 1 x1 x2 x3 x4 x5 x6 z20 (x8 + 1) 0 0 0 0 m))
def l_X9_tears (N : Nat) : Nat → Nat → Int32 → Int32 → Int32 → Int32 → Int32 → Int32 → Int32 → Int32 → Int32 → Int32 → Int32 → Int32 → Mem → Option (Int32 × Mem)
  | 0 => fun _ _ _ _ _ _ _ _ _ _ _ _ _ _ => none
  | n + 1 => fun lab x1 x2 x3 x4 x5 x6 x7 x8 x9 x10 x11 x12 m => if lab = 1 then B_X9_tears_58 N (l_X9_tears N n) x1 x2 x3 x4 x5 x6 x7 x8 m else if lab = 2 then B_X9_tears_81 N (l_X9_tears N n) x1 x2 x3 x4 x5 x6 x7 x8 m else if lab = 3 then B_X9_tears_106 N (l_X9_tears N n) x1 x2 x3 x4 x5 x6 x7 x8 x9 x10 x11 x12 m else if lab = 4 then B_X9_tears_241 N (l_X9_tears N n) x3 x6 x7 x8 x9 m else none
def f_X9_tears (N : Nat) (x1 : Int32) (x2 : Int32) (x3 : Int32) (m : Mem) : Option (Int32 × Mem) :=
  fl_bd (f_X9_in x1.toInt64 (0 : Int64) (7 : Int64) m) (fun r1 m2 =>
    if r1 = 0 then (
      some ((-1 : Int32), m2))
    else (
      fl_bd (f_X9_in x2.toInt64 (0 : Int64) (10 : Int64) m2) (fun r5 m6 =>
        if r5 = 0 then (
          some ((-1 : Int32), m6))
        else (
          fl_bd (f_X9_in x3.toInt64 (0 : Int64) (1 : Int64) m6) (fun r9 m10 =>
            if r9 = 0 then (
              some ((-1 : Int32), m10))
            else (
              fl_bd (f_X9_rest  m10) (fun r13 m14 =>
                fl_bd (f_X9_ones N r13 m14) (fun r16 m17 =>
                  (l_X9_tears N N) 1 x1 x2 x3 r13 r16 (0 : Int32) (1 : Int32) (0 : Int32) 0 0 0 0 m17))))))))
set_option maxHeartbeats 4000000 in
set_option maxRecDepth 100000 in
theorem c_X9_tears (l : Launch) (D : va_G) (ca : Nat → ClassId) (ad : Nat → Nat) (hi : fl_inj L2 ad) (N : Nat) (x1 : Int32) (x2 : Int32) (x3 : Int32) (m : Mem) (v' : Int32) (M' : Mem) (h : f_X9_tears N x1 x2 x3 m = some (v', M')) : fl_M l L2 D ca ad yX9_tears cX9_tears 13 (some .int) 6 [.ref (ad 0), .int x1, .int x2, .int x3] m (some (.int v')) M' := by
  unfold f_X9_tears at h
  refine fl_ofW (by decide) hi (Nat.le_of_ble_eq_true rfl) ?_
  intro p e s mm args below meth c ls X hr hlk hP hl
  have hl : lv_has ls 13 [(0, .ref (ad 0)), (1, .int x1), (2, .int x2), (3, .int x3)] := hl
  have X : fl_X p s mm args c cX9_tears 13 RX9 L2 D ca ad := X
  obtain ⟨hx, hb, hml, hown, hts, hE, -⟩ := id X
  have hS : va_S (fl_A L2 ad) s.heap s.heap [] := va_S.rf
  have js : ∀ n : Nat, ((∀ (x1 : Int32) (x2 : Int32) (x3 : Int32) (x4 : Int32) (x5 : Int32) (x6 : Int32) (x7 : Int32) (x8 : Int32) (m : Mem) (H : Heap) (locs : List Loc) (ls : Array Slot), l_X9_tears N n 1 x1 x2 x3 x4 x5 x6 x7 x8 0 0 0 0 m = some (v', M') → va_P D vwCl (fl_w L2 ca ad m) H → va_S (fl_A L2 ad) s.heap H locs → lv_has ls 13 [(0, .ref (ad 0)), (1, .int x1), (2, .int x2), (3, .int x3), (4, .int x4), (5, .int x5), (6, .int x6), (7, .int x7), (8, .int x8)] → W p l e (fl_rm 6) s mm args below meth c H locs 0 0 (MQ below (fl_Q L2 D ca ad (some (.int v')) M') args s 0 0 (fl_A L2 ad)) (F0 mm 58 ls [])) ∧ (∀ (x1 : Int32) (x2 : Int32) (x3 : Int32) (x4 : Int32) (x5 : Int32) (x6 : Int32) (x7 : Int32) (x8 : Int32) (m : Mem) (H : Heap) (locs : List Loc) (ls : Array Slot), l_X9_tears N n 2 x1 x2 x3 x4 x5 x6 x7 x8 0 0 0 0 m = some (v', M') → va_P D vwCl (fl_w L2 ca ad m) H → va_S (fl_A L2 ad) s.heap H locs → lv_has ls 13 [(0, .ref (ad 0)), (1, .int x1), (2, .int x2), (3, .int x3), (4, .int x4), (5, .int x5), (6, .int x6), (7, .int x7), (8, .int x8)] → W p l e (fl_rm 6) s mm args below meth c H locs 0 0 (MQ below (fl_Q L2 D ca ad (some (.int v')) M') args s 0 0 (fl_A L2 ad)) (F0 mm 81 ls [])) ∧ (∀ (x1 : Int32) (x2 : Int32) (x3 : Int32) (x4 : Int32) (x5 : Int32) (x6 : Int32) (x7 : Int32) (x8 : Int32) (x9 : Int32) (x10 : Int32) (x11 : Int32) (x12 : Int32) (m : Mem) (H : Heap) (locs : List Loc) (ls : Array Slot), l_X9_tears N n 3 x1 x2 x3 x4 x5 x6 x7 x8 x9 x10 x11 x12 m = some (v', M') → va_P D vwCl (fl_w L2 ca ad m) H → va_S (fl_A L2 ad) s.heap H locs → lv_has ls 13 [(0, .ref (ad 0)), (1, .int x1), (2, .int x2), (3, .int x3), (4, .int x4), (5, .int x5), (6, .int x6), (7, .int x7), (8, .int x8), (9, .int x9), (10, .int x10), (11, .int x11), (12, .int x12)] → W p l e (fl_rm 6) s mm args below meth c H locs 0 0 (MQ below (fl_Q L2 D ca ad (some (.int v')) M') args s 0 0 (fl_A L2 ad)) (F0 mm 106 ls [])) ∧ (∀ (x3 : Int32) (x6 : Int32) (x7 : Int32) (x8 : Int32) (x9 : Int32) (m : Mem) (H : Heap) (locs : List Loc) (ls : Array Slot), l_X9_tears N n 4 0 0 x3 0 0 x6 x7 x8 x9 0 0 0 m = some (v', M') → va_P D vwCl (fl_w L2 ca ad m) H → va_S (fl_A L2 ad) s.heap H locs → lv_has ls 13 [(3, .int x3), (6, .int x6), (7, .int x7), (8, .int x8), (9, .int x9)] → W p l e (fl_rm 6) s mm args below meth c H locs 0 0 (MQ below (fl_Q L2 D ca ad (some (.int v')) M') args s 0 0 (fl_A L2 ad)) (F0 mm 241 ls []))) → (∀ (x1 : Int32) (x2 : Int32) (x3 : Int32) (x4 : Int32) (x5 : Int32) (x6 : Int32) (x7 : Int32) (x8 : Int32) (x9 : Int32) (x11 : Int32) (x12 : Int32) (t0 : Int32) (t1 : Int32) (m : Mem) (H : Heap) (locs : List Loc) (ls : Array Slot), J_X9_tears_198 N (l_X9_tears N n) x1 x2 x3 x4 x5 x6 x7 x8 x9 x11 x12 t0 t1 m = some (v', M') → va_P D vwCl (fl_w L2 ca ad m) H → va_S (fl_A L2 ad) s.heap H locs → lv_has ls 13 [(0, .ref (ad 0)), (1, .int x1), (2, .int x2), (3, .int x3), (4, .int x4), (5, .int x5), (6, .int x6), (7, .int x7), (8, .int x8), (9, .int x9), (11, .int x11), (12, .int x12)] → W p l e (fl_rm 6) s mm args below meth c H locs 0 0 (MQ below (fl_Q L2 D ca ad (some (.int v')) M') args s 0 0 (fl_A L2 ad)) (F0 mm 198 ls [.int t1, .int t0])) ∧ (∀ (x1 : Int32) (x2 : Int32) (x3 : Int32) (x4 : Int32) (x5 : Int32) (x6 : Int32) (x7 : Int32) (x8 : Int32) (x10 : Int32) (x11 : Int32) (x12 : Int32) (t0 : Int32) (t1 : Int32) (m : Mem) (H : Heap) (locs : List Loc) (ls : Array Slot), J_X9_tears_145 N (l_X9_tears N n) x1 x2 x3 x4 x5 x6 x7 x8 x10 x11 x12 t0 t1 m = some (v', M') → va_P D vwCl (fl_w L2 ca ad m) H → va_S (fl_A L2 ad) s.heap H locs → lv_has ls 13 [(0, .ref (ad 0)), (1, .int x1), (2, .int x2), (3, .int x3), (4, .int x4), (5, .int x5), (6, .int x6), (7, .int x7), (8, .int x8), (10, .int x10), (11, .int x11), (12, .int x12)] → W p l e (fl_rm 6) s mm args below meth c H locs 0 0 (MQ below (fl_Q L2 D ca ad (some (.int v')) M') args s 0 0 (fl_A L2 ad)) (F0 mm 145 ls [.int t1, .int t0])) := by
    intro n ih
    obtain ⟨ih_58, ih_81, ih_106, ih_241⟩ := ih
    have j_198 : ∀ (x1 : Int32) (x2 : Int32) (x3 : Int32) (x4 : Int32) (x5 : Int32) (x6 : Int32) (x7 : Int32) (x8 : Int32) (x9 : Int32) (x11 : Int32) (x12 : Int32) (t0 : Int32) (t1 : Int32) (m : Mem) (H : Heap) (locs : List Loc) (ls : Array Slot), J_X9_tears_198 N (l_X9_tears N n) x1 x2 x3 x4 x5 x6 x7 x8 x9 x11 x12 t0 t1 m = some (v', M') → va_P D vwCl (fl_w L2 ca ad m) H → va_S (fl_A L2 ad) s.heap H locs → lv_has ls 13 [(0, .ref (ad 0)), (1, .int x1), (2, .int x2), (3, .int x3), (4, .int x4), (5, .int x5), (6, .int x6), (7, .int x7), (8, .int x8), (9, .int x9), (11, .int x11), (12, .int x12)] → W p l e (fl_rm 6) s mm args below meth c H locs 0 0 (MQ below (fl_Q L2 D ca ad (some (.int v')) M') args s 0 0 (fl_A L2 ad)) (F0 mm 198 ls [.int t1, .int t0]) := by
      intro x1 x2 x3 x4 x5 x6 x7 x8 x9 x11 x12 t0 t1 m H locs ls h hP hS hl
      unfold J_X9_tears_198 at h
      refine lv_iadd hx hb dX9_tears_198 ?_
      obtain ⟨z61, ez62, h⟩ := fl_li_e h
      refine fl_topi ez62 ?_
      refine lv_istore (lv' := [(10, .int z61), (0, .ref (ad 0)), (1, .int x1), (2, .int x2), (3, .int x3), (4, .int x4), (5, .int x5), (6, .int x6), (7, .int x7), (8, .int x8), (9, .int x9), (11, .int x11), (12, .int x12)]) hx hb dX9_tears_199 hl (by decide) rfl (fun ls hl => ?_)
      refine lv_iinc (v := x11 + 1) (lv' := [(11, .int (x11 + 1)), (10, .int z61), (0, .ref (ad 0)), (1, .int x1), (2, .int x2), (3, .int x3), (4, .int x4), (5, .int x5), (6, .int x6), (7, .int x7), (8, .int x8), (9, .int x9), (12, .int x12)]) hx hb dX9_tears_201 hl (k := 11) rfl rfl (by decide) rfl (fun ls hl => ?_)
      refine lv_iinc (v := x12 + 1) (lv' := [(12, .int (x12 + 1)), (11, .int (x11 + 1)), (10, .int z61), (0, .ref (ad 0)), (1, .int x1), (2, .int x2), (3, .int x3), (4, .int x4), (5, .int x5), (6, .int x6), (7, .int x7), (8, .int x8), (9, .int x9)]) hx hb dX9_tears_204 hl (k := 12) rfl rfl (by decide) rfl (fun ls hl => ?_)
      refine lv_goto (tgt := 106) hx hb dX9_tears_207 (by decide) ?_
      exact ih_106 _ _ _ _ _ _ _ _ _ _ _ _ _ _ _ _ h hP hS (lv_sub hl [3, 4, 5, 6, 7, 8, 9, 10, 11, 12, 2, 1, 0] rfl)
    have j_145 : ∀ (x1 : Int32) (x2 : Int32) (x3 : Int32) (x4 : Int32) (x5 : Int32) (x6 : Int32) (x7 : Int32) (x8 : Int32) (x10 : Int32) (x11 : Int32) (x12 : Int32) (t0 : Int32) (t1 : Int32) (m : Mem) (H : Heap) (locs : List Loc) (ls : Array Slot), J_X9_tears_145 N (l_X9_tears N n) x1 x2 x3 x4 x5 x6 x7 x8 x10 x11 x12 t0 t1 m = some (v', M') → va_P D vwCl (fl_w L2 ca ad m) H → va_S (fl_A L2 ad) s.heap H locs → lv_has ls 13 [(0, .ref (ad 0)), (1, .int x1), (2, .int x2), (3, .int x3), (4, .int x4), (5, .int x5), (6, .int x6), (7, .int x7), (8, .int x8), (10, .int x10), (11, .int x11), (12, .int x12)] → W p l e (fl_rm 6) s mm args below meth c H locs 0 0 (MQ below (fl_Q L2 D ca ad (some (.int v')) M') args s 0 0 (fl_A L2 ad)) (F0 mm 145 ls [.int t1, .int t0]) := by
      intro x1 x2 x3 x4 x5 x6 x7 x8 x10 x11 x12 t0 t1 m H locs ls h hP hS hl
      unfold J_X9_tears_145 at h
      refine lv_imul hx hb dX9_tears_145 ?_
      obtain ⟨z47, ez48, h⟩ := fl_li_e h
      refine fl_topi ez48 ?_
      refine lv_istore (lv' := [(9, .int z47), (0, .ref (ad 0)), (1, .int x1), (2, .int x2), (3, .int x3), (4, .int x4), (5, .int x5), (6, .int x6), (7, .int x7), (8, .int x8), (10, .int x10), (11, .int x11), (12, .int x12)]) hx hb dX9_tears_146 hl (by decide) rfl (fun ls hl => ?_)
      refine lv_aload_n hx hb dX9_tears_148 rfl (lv_at hl 1 rfl) ?_
      refine lv_bipush (v := (19 : Int32)) hx hb dX9_tears_149 (by decide) ?_
      refine lv_aload_n hx hb dX9_tears_151 rfl (lv_at hl 1 rfl) ?_
      refine lv_bipush (v := (19 : Int32)) hx hb dX9_tears_152 (by decide) ?_
      refine lv_iload hx hb dX9_tears_154 (lv_at hl 12 rfl) ?_
      obtain ⟨r49, m50, hz51, h⟩ := fl_bd_e h
      refine fl_callV (av := [.int (19 : Int32), .int x12]) X hP hS hl.1 mv_X9_211 (c_X9_soonestIn l D ca ad hi N (19 : Int32) x12 m _ _ hz51) k2_0 (fl_fit_rm (by omega) (by decide)) rfl (Nat.le_of_ble_eq_true rfl) dX9_tears_156 rfl (fun H locs hP hS => ?_)
      refine W.eq (g2 := F0 mm 159 ls [.int r49, .int (19 : Int32), .ref (ad 0)]) rfl ?_
      refine lv_iload hx hb dX9_tears_159 (lv_at hl 12 rfl) ?_
      refine lv_iload hx hb dX9_tears_161 (lv_at hl 9 rfl) ?_
      refine lv_iload hx hb dX9_tears_163 (lv_at hl 11 rfl) ?_
      obtain ⟨r52, m53, hz54, h⟩ := fl_bd_e h
      refine fl_callS (av := [.int x8, .int x11]) X hP hS hl.1 ms_X9_197 (c_X9_has l D ca ad hi x8 x11 m50 _ _ hz54) (fl_fit_rm (by omega) (by decide)) rfl (Nat.le_of_ble_eq_true rfl) dX9_tears_165 rfl (fun H locs hP hS => ?_)
      refine W.eq (g2 := F0 mm 168 ls [.int r52, .int x12, .int r49, .int (19 : Int32), .ref (ad 0)]) rfl ?_
      obtain ⟨r55, m56, hz57, h⟩ := fl_bd_e h
      refine fl_callV (av := [.int (19 : Int32), .int r49, .int x12, .int r52]) X hP hS hl.1 mv_X9_189 (c_X9_rides l D ca ad hi (19 : Int32) r49 x12 r52 m53 _ _ hz57) k2_0 (fl_fit_rm (by omega) (by decide)) rfl (Nat.le_of_ble_eq_true rfl) dX9_tears_168 rfl (fun H locs hP hS => ?_)
      refine W.eq (g2 := F0 mm 171 ls []) rfl ?_
      refine lv_iload hx hb dX9_tears_171 (lv_at hl 10 rfl) ?_
      refine lv_aload_n hx hb dX9_tears_173 rfl (lv_at hl 1 rfl) ?_
      refine fl_getr X hP fk_X9_7 k2_0 rfl dX9_tears_174 ?_
      refine lv_bipush (v := (30 : Int32)) hx hb dX9_tears_177 (by decide) ?_
      refine lv_iload hx hb dX9_tears_179 (lv_at hl 12 rfl) ?_
      refine lv_iadd hx hb dX9_tears_181 ?_
      obtain ⟨hk58, h⟩ := fl_ck_e h
      refine fl_iald X hP k2_1 hk58 dX9_tears_182 ?_
      refine lv_aload_n hx hb dX9_tears_183 rfl (lv_at hl 1 rfl) ?_
      refine fl_getr X hP fk_X9_28 k2_0 rfl dX9_tears_184 ?_
      refine lv_iload hx hb dX9_tears_187 (lv_at hl 12 rfl) ?_
      obtain ⟨hk59, h⟩ := fl_ck_e h
      refine fl_iald X hP k2_7 hk59 dX9_tears_189 ?_
      refine lv_icmp_le (tgt := 197) hx hb dX9_tears_190 (by decide) (fun c60 => ?_) (fun c60 => ?_)
      · replace h := fl_if_t h c60
        refine lv_iconst (v := (0 : Int32)) hx hb dX9_tears_197 (by decide) ?_
        exact j_198 _ _ _ _ _ _ _ _ _ _ _ _ _ _ _ _ _ h hP hS (lv_sub hl [1, 2, 3, 4, 5, 6, 7, 8, 9, 0, 11, 12] rfl)
      · replace h := fl_if_f h c60
        refine lv_iconst (v := (1 : Int32)) hx hb dX9_tears_193 (by decide) ?_
        refine lv_goto (tgt := 198) hx hb dX9_tears_194 (by decide) ?_
        exact j_198 _ _ _ _ _ _ _ _ _ _ _ _ _ _ _ _ _ h hP hS (lv_sub hl [1, 2, 3, 4, 5, 6, 7, 8, 9, 0, 11, 12] rfl)
    exact ⟨j_198, j_145⟩
  have key : ∀ n : Nat, (∀ (x1 : Int32) (x2 : Int32) (x3 : Int32) (x4 : Int32) (x5 : Int32) (x6 : Int32) (x7 : Int32) (x8 : Int32) (m : Mem) (H : Heap) (locs : List Loc) (ls : Array Slot), l_X9_tears N n 1 x1 x2 x3 x4 x5 x6 x7 x8 0 0 0 0 m = some (v', M') → va_P D vwCl (fl_w L2 ca ad m) H → va_S (fl_A L2 ad) s.heap H locs → lv_has ls 13 [(0, .ref (ad 0)), (1, .int x1), (2, .int x2), (3, .int x3), (4, .int x4), (5, .int x5), (6, .int x6), (7, .int x7), (8, .int x8)] → W p l e (fl_rm 6) s mm args below meth c H locs 0 0 (MQ below (fl_Q L2 D ca ad (some (.int v')) M') args s 0 0 (fl_A L2 ad)) (F0 mm 58 ls [])) ∧ (∀ (x1 : Int32) (x2 : Int32) (x3 : Int32) (x4 : Int32) (x5 : Int32) (x6 : Int32) (x7 : Int32) (x8 : Int32) (m : Mem) (H : Heap) (locs : List Loc) (ls : Array Slot), l_X9_tears N n 2 x1 x2 x3 x4 x5 x6 x7 x8 0 0 0 0 m = some (v', M') → va_P D vwCl (fl_w L2 ca ad m) H → va_S (fl_A L2 ad) s.heap H locs → lv_has ls 13 [(0, .ref (ad 0)), (1, .int x1), (2, .int x2), (3, .int x3), (4, .int x4), (5, .int x5), (6, .int x6), (7, .int x7), (8, .int x8)] → W p l e (fl_rm 6) s mm args below meth c H locs 0 0 (MQ below (fl_Q L2 D ca ad (some (.int v')) M') args s 0 0 (fl_A L2 ad)) (F0 mm 81 ls [])) ∧ (∀ (x1 : Int32) (x2 : Int32) (x3 : Int32) (x4 : Int32) (x5 : Int32) (x6 : Int32) (x7 : Int32) (x8 : Int32) (x9 : Int32) (x10 : Int32) (x11 : Int32) (x12 : Int32) (m : Mem) (H : Heap) (locs : List Loc) (ls : Array Slot), l_X9_tears N n 3 x1 x2 x3 x4 x5 x6 x7 x8 x9 x10 x11 x12 m = some (v', M') → va_P D vwCl (fl_w L2 ca ad m) H → va_S (fl_A L2 ad) s.heap H locs → lv_has ls 13 [(0, .ref (ad 0)), (1, .int x1), (2, .int x2), (3, .int x3), (4, .int x4), (5, .int x5), (6, .int x6), (7, .int x7), (8, .int x8), (9, .int x9), (10, .int x10), (11, .int x11), (12, .int x12)] → W p l e (fl_rm 6) s mm args below meth c H locs 0 0 (MQ below (fl_Q L2 D ca ad (some (.int v')) M') args s 0 0 (fl_A L2 ad)) (F0 mm 106 ls [])) ∧ (∀ (x3 : Int32) (x6 : Int32) (x7 : Int32) (x8 : Int32) (x9 : Int32) (m : Mem) (H : Heap) (locs : List Loc) (ls : Array Slot), l_X9_tears N n 4 0 0 x3 0 0 x6 x7 x8 x9 0 0 0 m = some (v', M') → va_P D vwCl (fl_w L2 ca ad m) H → va_S (fl_A L2 ad) s.heap H locs → lv_has ls 13 [(3, .int x3), (6, .int x6), (7, .int x7), (8, .int x8), (9, .int x9)] → W p l e (fl_rm 6) s mm args below meth c H locs 0 0 (MQ below (fl_Q L2 D ca ad (some (.int v')) M') args s 0 0 (fl_A L2 ad)) (F0 mm 241 ls [])) := by
    intro n
    induction n with
    | zero =>
      refine ⟨?_, ?_, ?_, ?_⟩
      · intro x1 x2 x3 x4 x5 x6 x7 x8 m H locs ls h hP hS hl
        have h : (none : Option (Int32 × Mem)) = some (v', M') := h
        cases h
      · intro x1 x2 x3 x4 x5 x6 x7 x8 m H locs ls h hP hS hl
        have h : (none : Option (Int32 × Mem)) = some (v', M') := h
        cases h
      · intro x1 x2 x3 x4 x5 x6 x7 x8 x9 x10 x11 x12 m H locs ls h hP hS hl
        have h : (none : Option (Int32 × Mem)) = some (v', M') := h
        cases h
      · intro x3 x6 x7 x8 x9 m H locs ls h hP hS hl
        have h : (none : Option (Int32 × Mem)) = some (v', M') := h
        cases h
    | succ n ih =>
      obtain ⟨ih_58, ih_81, ih_106, ih_241⟩ := ih
      obtain ⟨j_198, j_145⟩ := js n ⟨ih_58, ih_81, ih_106, ih_241⟩
      refine ⟨?_, ?_, ?_, ?_⟩
      · intro x1 x2 x3 x4 x5 x6 x7 x8 m H locs ls h hP hS hl
        have h : B_X9_tears_58 N (l_X9_tears N n) x1 x2 x3 x4 x5 x6 x7 x8 m = some (v', M') := h
        unfold B_X9_tears_58 at h
        refine lv_iload hx hb dX9_tears_58 (lv_at hl 8 rfl) ?_
        refine lv_iload hx hb dX9_tears_60 (lv_at hl 5 rfl) ?_
        refine lv_icmp_ge (tgt := 78) hx hb dX9_tears_62 (by decide) (fun c19 => ?_) (fun c19 => ?_)
        · replace h := fl_if_t h c19
          refine lv_iconst (v := (0 : Int32)) hx hb dX9_tears_78 (by decide) ?_
          refine lv_istore (lv' := [(8, .int (0 : Int32)), (0, .ref (ad 0)), (1, .int x1), (2, .int x2), (3, .int x3), (4, .int x4), (5, .int x5), (6, .int x6), (7, .int x7)]) hx hb dX9_tears_79 hl (by decide) rfl (fun ls hl => ?_)
          exact ih_81 _ _ _ _ _ _ _ _ _ _ _ _ h hP hS (lv_sub hl [1, 2, 3, 4, 5, 6, 7, 8, 0] rfl)
        · replace h := fl_if_f h c19
          refine lv_iload hx hb dX9_tears_65 (lv_at hl 7 rfl) ?_
          refine lv_bipush (v := (10 : Int32)) hx hb dX9_tears_67 (by decide) ?_
          refine lv_imul hx hb dX9_tears_69 ?_
          obtain ⟨z20, ez21, h⟩ := fl_li_e h
          refine fl_topi ez21 ?_
          refine lv_istore (lv' := [(7, .int z20), (0, .ref (ad 0)), (1, .int x1), (2, .int x2), (3, .int x3), (4, .int x4), (5, .int x5), (6, .int x6), (8, .int x8)]) hx hb dX9_tears_70 hl (by decide) rfl (fun ls hl => ?_)
          refine lv_iinc (v := x8 + 1) (lv' := [(8, .int (x8 + 1)), (7, .int z20), (0, .ref (ad 0)), (1, .int x1), (2, .int x2), (3, .int x3), (4, .int x4), (5, .int x5), (6, .int x6)]) hx hb dX9_tears_72 hl (k := 8) rfl rfl (by decide) rfl (fun ls hl => ?_)
          refine lv_goto (tgt := 58) hx hb dX9_tears_75 (by decide) ?_
          exact ih_58 _ _ _ _ _ _ _ _ _ _ _ _ h hP hS (lv_sub hl [2, 3, 4, 5, 6, 7, 8, 1, 0] rfl)
      · intro x1 x2 x3 x4 x5 x6 x7 x8 m H locs ls h hP hS hl
        have h : B_X9_tears_81 N (l_X9_tears N n) x1 x2 x3 x4 x5 x6 x7 x8 m = some (v', M') := h
        unfold B_X9_tears_81 at h
        refine lv_iload hx hb dX9_tears_81 (lv_at hl 8 rfl) ?_
        refine lv_iconst (v := (1 : Int32)) hx hb dX9_tears_83 (by decide) ?_
        refine lv_iload hx hb dX9_tears_84 (lv_at hl 5 rfl) ?_
        refine lv_ishl hx hb dX9_tears_86 ?_
        refine lv_icmp_ge (tgt := 233) hx hb dX9_tears_87 (by decide) (fun c22 => ?_) (fun c22 => ?_)
        · replace h := fl_if_t h c22
          refine lv_iload hx hb dX9_tears_233 (lv_at hl 6 rfl) ?_
          refine lv_istore (lv' := [(8, .int x6), (0, .ref (ad 0)), (1, .int x1), (2, .int x2), (3, .int x3), (4, .int x4), (5, .int x5), (6, .int x6), (7, .int x7)]) hx hb dX9_tears_235 hl (by decide) rfl (fun ls hl => ?_)
          refine lv_iload hx hb dX9_tears_237 (lv_at hl 8 rfl) ?_
          refine lv_istore (lv' := [(9, .int x7), (8, .int x6), (0, .ref (ad 0)), (1, .int x1), (2, .int x2), (3, .int x3), (4, .int x4), (5, .int x5), (6, .int x6), (7, .int x7)]) hx hb dX9_tears_239 hl (by decide) rfl (fun ls hl => ?_)
          exact ih_241 _ _ _ _ _ _ _ _ _ h hP hS (lv_sub hl [5, 8, 9, 1, 0] rfl)
        · replace h := fl_if_f h c22
          refine lv_iconst (v := (1 : Int32)) hx hb dX9_tears_90 (by decide) ?_
          refine lv_istore (lv' := [(9, .int (1 : Int32)), (0, .ref (ad 0)), (1, .int x1), (2, .int x2), (3, .int x3), (4, .int x4), (5, .int x5), (6, .int x6), (7, .int x7), (8, .int x8)]) hx hb dX9_tears_91 hl (by decide) rfl (fun ls hl => ?_)
          refine lv_iconst (v := (0 : Int32)) hx hb dX9_tears_93 (by decide) ?_
          refine lv_istore (lv' := [(10, .int (0 : Int32)), (9, .int (1 : Int32)), (0, .ref (ad 0)), (1, .int x1), (2, .int x2), (3, .int x3), (4, .int x4), (5, .int x5), (6, .int x6), (7, .int x7), (8, .int x8)]) hx hb dX9_tears_94 hl (by decide) rfl (fun ls hl => ?_)
          refine lv_iconst (v := (0 : Int32)) hx hb dX9_tears_96 (by decide) ?_
          refine lv_istore (lv' := [(11, .int (0 : Int32)), (10, .int (0 : Int32)), (9, .int (1 : Int32)), (0, .ref (ad 0)), (1, .int x1), (2, .int x2), (3, .int x3), (4, .int x4), (5, .int x5), (6, .int x6), (7, .int x7), (8, .int x8)]) hx hb dX9_tears_97 hl (by decide) rfl (fun ls hl => ?_)
          refine lv_aload_n hx hb dX9_tears_99 rfl (lv_at hl 3 rfl) ?_
          obtain ⟨r23, m24, hz25, h⟩ := fl_bd_e h
          refine fl_callV (av := []) X hP hS hl.1 mv_X9_226 (c_X9_tries l D ca ad hi N  m _ _ hz25) k2_0 (fl_fit_rm (by omega) (by decide)) rfl (Nat.le_of_ble_eq_true rfl) dX9_tears_100 rfl (fun H locs hP hS => ?_)
          refine W.eq (g2 := F0 mm 103 ls []) rfl ?_
          refine lv_iconst (v := (0 : Int32)) hx hb dX9_tears_103 (by decide) ?_
          refine lv_istore (lv' := [(12, .int (0 : Int32)), (11, .int (0 : Int32)), (10, .int (0 : Int32)), (9, .int (1 : Int32)), (0, .ref (ad 0)), (1, .int x1), (2, .int x2), (3, .int x3), (4, .int x4), (5, .int x5), (6, .int x6), (7, .int x7), (8, .int x8)]) hx hb dX9_tears_104 hl (by decide) rfl (fun ls hl => ?_)
          exact ih_106 _ _ _ _ _ _ _ _ _ _ _ _ _ _ _ _ h hP hS (lv_sub hl [4, 5, 6, 7, 8, 9, 10, 11, 12, 3, 2, 1, 0] rfl)
      · intro x1 x2 x3 x4 x5 x6 x7 x8 x9 x10 x11 x12 m H locs ls h hP hS hl
        have h : B_X9_tears_106 N (l_X9_tears N n) x1 x2 x3 x4 x5 x6 x7 x8 x9 x10 x11 x12 m = some (v', M') := h
        unfold B_X9_tears_106 at h
        refine lv_iload hx hb dX9_tears_106 (lv_at hl 12 rfl) ?_
        refine lv_aload_n hx hb dX9_tears_108 rfl (lv_at hl 0 rfl) ?_
        refine fl_geti X hP fk_X9_99 k2_0 rfl dX9_tears_109 ?_
        refine lv_icmp_ge (tgt := 210) hx hb dX9_tears_112 (by decide) (fun c33 => ?_) (fun c33 => ?_)
        · replace h := fl_if_t h c33
          refine lv_iload hx hb dX9_tears_210 (lv_at hl 6 rfl) ?_
          refine lv_iload hx hb dX9_tears_212 (lv_at hl 10 rfl) ?_
          refine lv_iload_n hx hb dX9_tears_214 rfl (lv_at hl 1 rfl) ?_
          refine lv_icmp_lt (tgt := 223) hx hb dX9_tears_215 (by decide) (fun c34 => ?_) (fun c34 => ?_)
          · replace h := fl_if_t h c34
            refine lv_iconst (v := (0 : Int32)) hx hb dX9_tears_223 (by decide) ?_
            refine lv_iadd hx hb dX9_tears_224 ?_
            obtain ⟨z35, ez36, h⟩ := fl_li_e h
            refine fl_topi ez36 ?_
            refine lv_istore (lv' := [(6, .int z35), (0, .ref (ad 0)), (1, .int x1), (2, .int x2), (3, .int x3), (4, .int x4), (5, .int x5), (7, .int x7), (8, .int x8), (9, .int x9), (10, .int x10), (11, .int x11), (12, .int x12)]) hx hb dX9_tears_225 hl (by decide) rfl (fun ls hl => ?_)
            refine lv_iinc (v := x8 + 1) (lv' := [(8, .int (x8 + 1)), (6, .int z35), (0, .ref (ad 0)), (1, .int x1), (2, .int x2), (3, .int x3), (4, .int x4), (5, .int x5), (7, .int x7), (9, .int x9), (10, .int x10), (11, .int x11), (12, .int x12)]) hx hb dX9_tears_227 hl (k := 8) rfl rfl (by decide) rfl (fun ls hl => ?_)
            refine lv_goto (tgt := 81) hx hb dX9_tears_230 (by decide) ?_
            exact ih_81 _ _ _ _ _ _ _ _ _ _ _ _ h hP hS (lv_sub hl [2, 3, 4, 5, 6, 7, 1, 8, 0] rfl)
          · replace h := fl_if_f h c34
            refine lv_iload hx hb dX9_tears_218 (lv_at hl 9 rfl) ?_
            refine lv_goto (tgt := 224) hx hb dX9_tears_220 (by decide) ?_
            refine lv_iadd hx hb dX9_tears_224 ?_
            obtain ⟨z37, ez38, h⟩ := fl_li_e h
            refine fl_topi ez38 ?_
            refine lv_istore (lv' := [(6, .int z37), (0, .ref (ad 0)), (1, .int x1), (2, .int x2), (3, .int x3), (4, .int x4), (5, .int x5), (7, .int x7), (8, .int x8), (9, .int x9), (10, .int x10), (11, .int x11), (12, .int x12)]) hx hb dX9_tears_225 hl (by decide) rfl (fun ls hl => ?_)
            refine lv_iinc (v := x8 + 1) (lv' := [(8, .int (x8 + 1)), (6, .int z37), (0, .ref (ad 0)), (1, .int x1), (2, .int x2), (3, .int x3), (4, .int x4), (5, .int x5), (7, .int x7), (9, .int x9), (10, .int x10), (11, .int x11), (12, .int x12)]) hx hb dX9_tears_227 hl (k := 8) rfl rfl (by decide) rfl (fun ls hl => ?_)
            refine lv_goto (tgt := 81) hx hb dX9_tears_230 (by decide) ?_
            exact ih_81 _ _ _ _ _ _ _ _ _ _ _ _ h hP hS (lv_sub hl [2, 3, 4, 5, 6, 7, 1, 8, 0] rfl)
        · replace h := fl_if_f h c33
          refine lv_iload hx hb dX9_tears_115 (lv_at hl 4 rfl) ?_
          refine lv_iload hx hb dX9_tears_117 (lv_at hl 12 rfl) ?_
          obtain ⟨r39, m40, hz41, h⟩ := fl_bd_e h
          refine fl_callS (av := [.int x4, .int x12]) X hP hS hl.1 ms_X9_197 (c_X9_has l D ca ad hi x4 x12 m _ _ hz41) (fl_fit_rm (by omega) (by decide)) rfl (Nat.le_of_ble_eq_true rfl) dX9_tears_119 rfl (fun H locs hP hS => ?_)
          refine W.eq (g2 := F0 mm 122 ls [.int r39]) rfl ?_
          refine lv_if_eq (tgt := 204) hx hb dX9_tears_122 (by decide) (fun c42 => ?_) (fun c42 => ?_)
          · replace h := fl_if_t h c42
            refine lv_iinc (v := x12 + 1) (lv' := [(12, .int (x12 + 1)), (0, .ref (ad 0)), (1, .int x1), (2, .int x2), (3, .int x3), (4, .int x4), (5, .int x5), (6, .int x6), (7, .int x7), (8, .int x8), (9, .int x9), (10, .int x10), (11, .int x11)]) hx hb dX9_tears_204 hl (k := 12) rfl rfl (by decide) rfl (fun ls hl => ?_)
            refine lv_goto (tgt := 106) hx hb dX9_tears_207 (by decide) ?_
            exact ih_106 _ _ _ _ _ _ _ _ _ _ _ _ _ _ _ _ h hP hS (lv_sub hl [1, 2, 3, 4, 5, 6, 7, 8, 9, 10, 11, 12, 0] rfl)
          · replace h := fl_if_f h c42
            refine lv_iload hx hb dX9_tears_125 (lv_at hl 9 rfl) ?_
            refine lv_iload hx hb dX9_tears_127 (lv_at hl 8 rfl) ?_
            refine lv_iload hx hb dX9_tears_129 (lv_at hl 11 rfl) ?_
            obtain ⟨r43, m44, hz45, h⟩ := fl_bd_e h
            refine fl_callS (av := [.int x8, .int x11]) X hP hS hl.1 ms_X9_197 (c_X9_has l D ca ad hi x8 x11 m40 _ _ hz45) (fl_fit_rm (by omega) (by decide)) rfl (Nat.le_of_ble_eq_true rfl) dX9_tears_131 rfl (fun H locs hP hS => ?_)
            refine W.eq (g2 := F0 mm 134 ls [.int r43, .int x9]) rfl ?_
            refine lv_if_eq (tgt := 141) hx hb dX9_tears_134 (by decide) (fun c46 => ?_) (fun c46 => ?_)
            · replace h := fl_if_t h c46
              refine lv_bipush (v := (10 : Int32)) hx hb dX9_tears_141 (by decide) ?_
              refine lv_iload_n hx hb dX9_tears_143 rfl (lv_at hl 2 rfl) ?_
              refine lv_isub hx hb dX9_tears_144 ?_
              exact j_145 _ _ _ _ _ _ _ _ _ _ _ _ _ _ _ _ _ h hP hS (lv_sub hl [0, 1, 2, 3, 4, 5, 6, 7, 8, 10, 11, 12] rfl)
            · replace h := fl_if_f h c46
              refine lv_iload_n hx hb dX9_tears_137 rfl (lv_at hl 2 rfl) ?_
              refine lv_goto (tgt := 145) hx hb dX9_tears_138 (by decide) ?_
              exact j_145 _ _ _ _ _ _ _ _ _ _ _ _ _ _ _ _ _ h hP hS (lv_sub hl [0, 1, 2, 3, 4, 5, 6, 7, 8, 10, 11, 12] rfl)
      · intro x3 x6 x7 x8 x9 m H locs ls h hP hS hl
        have h : B_X9_tears_241 N (l_X9_tears N n) x3 x6 x7 x8 x9 m = some (v', M') := h
        unfold B_X9_tears_241 at h
        refine lv_iload hx hb dX9_tears_241 (lv_at hl 4 rfl) ?_
        refine lv_if_eq (tgt := 264) hx hb dX9_tears_243 (by decide) (fun c26 => ?_) (fun c26 => ?_)
        · replace h := fl_if_t h c26
          refine lv_iload_n hx hb dX9_tears_264 rfl (lv_at hl 0 rfl) ?_
          refine lv_if_ne (tgt := 276) hx hb dX9_tears_265 (by decide) (fun c27 => ?_) (fun c27 => ?_)
          · replace h := fl_if_f h c27
            refine lv_iload hx hb dX9_tears_276 (lv_at hl 2 rfl) ?_
            refine lv_iload hx hb dX9_tears_278 (lv_at hl 3 rfl) ?_
            obtain ⟨hk28, h⟩ := fl_ck_e h
            refine lv_idiv hx hb dX9_tears_280 hk28 ?_
            exact fl_iret X hr hlk hP hS dX9_tears_281 h
          · replace h := fl_if_t h c27
            refine lv_iload hx hb dX9_tears_268 (lv_at hl 1 rfl) ?_
            refine lv_iload hx hb dX9_tears_270 (lv_at hl 3 rfl) ?_
            obtain ⟨hk29, h⟩ := fl_ck_e h
            refine lv_idiv hx hb dX9_tears_272 hk29 ?_
            refine lv_goto (tgt := 281) hx hb dX9_tears_273 (by decide) ?_
            exact fl_iret X hr hlk hP hS dX9_tears_281 h
        · replace h := fl_if_f h c26
          refine lv_iload hx hb dX9_tears_246 (lv_at hl 3 rfl) ?_
          refine lv_iload hx hb dX9_tears_248 (lv_at hl 4 rfl) ?_
          obtain ⟨hk30, h⟩ := fl_ck_e h
          refine lv_irem hx hb dX9_tears_250 hk30 ?_
          obtain ⟨z31, ez32, h⟩ := fl_li_e h
          refine fl_topi ez32 ?_
          refine lv_istore (lv' := [(10, .int z31), (3, .int x3), (6, .int x6), (7, .int x7), (8, .int x8), (9, .int x9)]) hx hb dX9_tears_251 hl (by decide) rfl (fun ls hl => ?_)
          refine lv_iload hx hb dX9_tears_253 (lv_at hl 5 rfl) ?_
          refine lv_istore (lv' := [(8, .int x9), (10, .int z31), (3, .int x3), (6, .int x6), (7, .int x7), (9, .int x9)]) hx hb dX9_tears_255 hl (by decide) rfl (fun ls hl => ?_)
          refine lv_iload hx hb dX9_tears_257 (lv_at hl 1 rfl) ?_
          refine lv_istore (lv' := [(9, .int z31), (8, .int x9), (10, .int z31), (3, .int x3), (6, .int x6), (7, .int x7)]) hx hb dX9_tears_259 hl (by decide) rfl (fun ls hl => ?_)
          refine lv_goto (tgt := 241) hx hb dX9_tears_261 (by decide) ?_
          exact ih_241 _ _ _ _ _ _ _ _ _ h hP hS (lv_sub hl [3, 4, 5, 1, 0] rfl)
  obtain ⟨ih_58, ih_81, ih_106, ih_241⟩ := key N
  obtain ⟨j_198, j_145⟩ := js N ⟨ih_58, ih_81, ih_106, ih_241⟩
  refine lv_iload_n hx hb dX9_tears_0 rfl (lv_at hl 1 rfl) ?_
  refine lv_i2l (v := x1.toInt64) hx hb dX9_tears_1 rfl ?_
  refine lv_lconst (v := (0 : Int64)) hx hb dX9_tears_2 (by decide) ?_
  refine lv_ldc2 (v := (7 : Int64)) hx hb hown (hts _ wq_1002) dX9_tears_3 ?_
  obtain ⟨r1, m2, hz3, h⟩ := fl_bd_e h
  refine fl_callS (av := [.long x1.toInt64, .long (0 : Int64), .long (7 : Int64)]) X hP hS hl.1 ms_X9_92 (c_X9_in l D ca ad hi x1.toInt64 (0 : Int64) (7 : Int64) m _ _ hz3) (fl_fit_rm (by omega) (by decide)) rfl (Nat.le_of_ble_eq_true rfl) dX9_tears_6 rfl (fun H locs hP hS => ?_)
  refine W.eq (g2 := F0 mm 9 ls [.int r1]) rfl ?_
  refine lv_if_eq (tgt := 34) hx hb dX9_tears_9 (by decide) (fun c4 => ?_) (fun c4 => ?_)
  · replace h := fl_if_t h c4
    refine lv_iconst (v := (-1 : Int32)) hx hb dX9_tears_34 (by decide) ?_
    exact fl_iret X hr hlk hP hS dX9_tears_35 h
  · replace h := fl_if_f h c4
    refine lv_iload_n hx hb dX9_tears_12 rfl (lv_at hl 2 rfl) ?_
    refine lv_i2l (v := x2.toInt64) hx hb dX9_tears_13 rfl ?_
    refine lv_lconst (v := (0 : Int64)) hx hb dX9_tears_14 (by decide) ?_
    refine lv_ldc2 (v := (10 : Int64)) hx hb hown (hts _ wq_1073) dX9_tears_15 ?_
    obtain ⟨r5, m6, hz7, h⟩ := fl_bd_e h
    refine fl_callS (av := [.long x2.toInt64, .long (0 : Int64), .long (10 : Int64)]) X hP hS hl.1 ms_X9_92 (c_X9_in l D ca ad hi x2.toInt64 (0 : Int64) (10 : Int64) m2 _ _ hz7) (fl_fit_rm (by omega) (by decide)) rfl (Nat.le_of_ble_eq_true rfl) dX9_tears_18 rfl (fun H locs hP hS => ?_)
    refine W.eq (g2 := F0 mm 21 ls [.int r5]) rfl ?_
    refine lv_if_eq (tgt := 34) hx hb dX9_tears_21 (by decide) (fun c8 => ?_) (fun c8 => ?_)
    · replace h := fl_if_t h c8
      refine lv_iconst (v := (-1 : Int32)) hx hb dX9_tears_34 (by decide) ?_
      exact fl_iret X hr hlk hP hS dX9_tears_35 h
    · replace h := fl_if_f h c8
      refine lv_iload_n hx hb dX9_tears_24 rfl (lv_at hl 3 rfl) ?_
      refine lv_i2l (v := x3.toInt64) hx hb dX9_tears_25 rfl ?_
      refine lv_lconst (v := (0 : Int64)) hx hb dX9_tears_26 (by decide) ?_
      refine lv_lconst (v := (1 : Int64)) hx hb dX9_tears_27 (by decide) ?_
      obtain ⟨r9, m10, hz11, h⟩ := fl_bd_e h
      refine fl_callS (av := [.long x3.toInt64, .long (0 : Int64), .long (1 : Int64)]) X hP hS hl.1 ms_X9_92 (c_X9_in l D ca ad hi x3.toInt64 (0 : Int64) (1 : Int64) m6 _ _ hz11) (fl_fit_rm (by omega) (by decide)) rfl (Nat.le_of_ble_eq_true rfl) dX9_tears_28 rfl (fun H locs hP hS => ?_)
      refine W.eq (g2 := F0 mm 31 ls [.int r9]) rfl ?_
      refine lv_if_ne (tgt := 36) hx hb dX9_tears_31 (by decide) (fun c12 => ?_) (fun c12 => ?_)
      · replace h := fl_if_f h c12
        refine lv_aload_n hx hb dX9_tears_36 rfl (lv_at hl 0 rfl) ?_
        obtain ⟨r13, m14, hz15, h⟩ := fl_bd_e h
        refine fl_callV (av := []) X hP hS hl.1 mv_X9_214 (c_X9_rest l D ca ad hi  m10 _ _ hz15) k2_0 (fl_fit_rm (by omega) (by decide)) rfl (Nat.le_of_ble_eq_true rfl) dX9_tears_37 rfl (fun H locs hP hS => ?_)
        refine W.eq (g2 := F0 mm 40 ls [.int r13]) rfl ?_
        refine lv_istore (lv' := [(4, .int r13), (0, .ref (ad 0)), (1, .int x1), (2, .int x2), (3, .int x3)]) hx hb dX9_tears_40 hl (by decide) rfl (fun ls hl => ?_)
        refine lv_iload hx hb dX9_tears_42 (lv_at hl 0 rfl) ?_
        obtain ⟨r16, m17, hz18, h⟩ := fl_bd_e h
        refine fl_callS (av := [.int r13]) X hP hS hl.1 ms_X9_217 (c_X9_ones l D ca ad hi N r13 m14 _ _ hz18) (fl_fit_rm (by omega) (by decide)) rfl (Nat.le_of_ble_eq_true rfl) dX9_tears_44 rfl (fun H locs hP hS => ?_)
        refine W.eq (g2 := F0 mm 47 ls [.int r16]) rfl ?_
        refine lv_istore (lv' := [(5, .int r16), (4, .int r13), (0, .ref (ad 0)), (1, .int x1), (2, .int x2), (3, .int x3)]) hx hb dX9_tears_47 hl (by decide) rfl (fun ls hl => ?_)
        refine lv_iconst (v := (0 : Int32)) hx hb dX9_tears_49 (by decide) ?_
        refine lv_istore (lv' := [(6, .int (0 : Int32)), (5, .int r16), (4, .int r13), (0, .ref (ad 0)), (1, .int x1), (2, .int x2), (3, .int x3)]) hx hb dX9_tears_50 hl (by decide) rfl (fun ls hl => ?_)
        refine lv_iconst (v := (1 : Int32)) hx hb dX9_tears_52 (by decide) ?_
        refine lv_istore (lv' := [(7, .int (1 : Int32)), (6, .int (0 : Int32)), (5, .int r16), (4, .int r13), (0, .ref (ad 0)), (1, .int x1), (2, .int x2), (3, .int x3)]) hx hb dX9_tears_53 hl (by decide) rfl (fun ls hl => ?_)
        refine lv_iconst (v := (0 : Int32)) hx hb dX9_tears_55 (by decide) ?_
        refine lv_istore (lv' := [(8, .int (0 : Int32)), (7, .int (1 : Int32)), (6, .int (0 : Int32)), (5, .int r16), (4, .int r13), (0, .ref (ad 0)), (1, .int x1), (2, .int x2), (3, .int x3)]) hx hb dX9_tears_56 hl (by decide) rfl (fun ls hl => ?_)
        exact ih_58 _ _ _ _ _ _ _ _ _ _ _ _ h hP hS (lv_sub hl [5, 6, 7, 8, 4, 3, 2, 1, 0] rfl)
      · replace h := fl_if_t h c12
        refine lv_iconst (v := (-1 : Int32)) hx hb dX9_tears_34 (by decide) ?_
        exact fl_iret X hr hlk hP hS dX9_tears_35 h

def J_X9_year_121 (N : Nat) (F : Int32 → Int32 → Int32 → Int32 → Int32 → Int32 → Mem → Option (Int32 × Mem)) (x1 : Int32) (x2 : Int32) (x3 : Int32) (x5 : Int32) (x6 : Int32) (x9 : Int32) (x10 : Int32) (t0 : Int32) (t1 : Int32) (m : Mem) : Option (Int32 × Mem) :=
  fl_li (t0 + t1) (fun z30 =>
    fl_ck (0 ≤ ((30 : Int32) + x10).toInt ∧ ((30 : Int32) + x10).toInt < 380) (
      fl_li (x5 + (m.1 1 (((30 : Int32) + x10).toNatClampNeg))) (fun z33 =>
        fl_lm (mI m 1 19 ((m.1 1 19) + (fl_rem (x9 / (64 : Int32)) (8 : Int32)))) (fun m35 =>
          F x1 x2 x3 z30 z33 (x6 + 1) m35))))
def B_X9_year_49 (N : Nat) (F : Int32 → Int32 → Int32 → Int32 → Int32 → Int32 → Mem → Option (Int32 × Mem)) (x1 : Int32) (x2 : Int32) (x3 : Int32) (x4 : Int32) (x5 : Int32) (x6 : Int32) (m : Mem) : Option (Int32 × Mem) :=
  if x2 ≤ x6 then (
    if x3 = 0 then (
      some (x4, m))
    else (
      some (x5, m)))
  else (
    fl_ll ((((7919 : Int64) * x1.toInt64) + ((6151 : Int64) * x6.toInt64)) + (1 : Int64)) (fun z18 =>
      fl_li ((fl_remL (z18 * z18) (65521 : Int64)).toInt32) (fun z20 =>
        fl_ck (¬ (m.1 0 7) = 0) (
          fl_li (fl_rem (z20 / (4 : Int32)) (m.1 0 7)) (fun z23 =>
            fl_ck (¬ (m.1 0 5) = 0) (
              fl_bd (f_X9_ridesAsOneDoes (19 : Int32) (fl_rem z20 (m.1 0 5)) z23 m) (fun r26 m27 =>
                if r26 = 0 then (
                  J_X9_year_121 N F x1 x2 x3 x5 x6 z20 z23 x4 (0 : Int32) m27)
                else (
                  J_X9_year_121 N F x1 x2 x3 x5 x6 z20 z23 x4 (1 : Int32) m27))))))))
def l_X9_year (N : Nat) : Nat → Int32 → Int32 → Int32 → Int32 → Int32 → Int32 → Mem → Option (Int32 × Mem)
  | 0 => fun _ _ _ _ _ _ _ => none
  | n + 1 => fun x1 x2 x3 x4 x5 x6 m => B_X9_year_49 N (l_X9_year N n) x1 x2 x3 x4 x5 x6 m
def f_X9_year (N : Nat) (x1 : Int32) (x2 : Int32) (x3 : Int32) (m : Mem) : Option (Int32 × Mem) :=
  fl_bd (f_X9_in x1.toInt64 (0 : Int64) (9999 : Int64) m) (fun r1 m2 =>
    if r1 = 0 then (
      some ((-1 : Int32), m2))
    else (
      fl_bd (f_X9_in x2.toInt64 (1 : Int64) (40 : Int64) m2) (fun r5 m6 =>
        if r5 = 0 then (
          some ((-1 : Int32), m6))
        else (
          fl_bd (f_X9_in x3.toInt64 (0 : Int64) (1 : Int64) m6) (fun r9 m10 =>
            if r9 = 0 then (
              some ((-1 : Int32), m10))
            else (
              fl_bd (f_X9_tries N  m10) (fun r13 m14 =>
                (l_X9_year N N) x1 x2 x3 (0 : Int32) (0 : Int32) (0 : Int32) m14)))))))
set_option maxHeartbeats 4000000 in
set_option maxRecDepth 100000 in
theorem c_X9_year (l : Launch) (D : va_G) (ca : Nat → ClassId) (ad : Nat → Nat) (hi : fl_inj L2 ad) (N : Nat) (x1 : Int32) (x2 : Int32) (x3 : Int32) (m : Mem) (v' : Int32) (M' : Mem) (h : f_X9_year N x1 x2 x3 m = some (v', M')) : fl_M l L2 D ca ad yX9_year cX9_year 11 (some .int) 6 [.ref (ad 0), .int x1, .int x2, .int x3] m (some (.int v')) M' := by
  unfold f_X9_year at h
  refine fl_ofW (by decide) hi (Nat.le_of_ble_eq_true rfl) ?_
  intro p e s mm args below meth c ls X hr hlk hP hl
  have hl : lv_has ls 11 [(0, .ref (ad 0)), (1, .int x1), (2, .int x2), (3, .int x3)] := hl
  have X : fl_X p s mm args c cX9_year 11 RX9 L2 D ca ad := X
  obtain ⟨hx, hb, hml, hown, hts, hE, -⟩ := id X
  have hS : va_S (fl_A L2 ad) s.heap s.heap [] := va_S.rf
  have js : ∀ n : Nat, ((∀ (x1 : Int32) (x2 : Int32) (x3 : Int32) (x4 : Int32) (x5 : Int32) (x6 : Int32) (m : Mem) (H : Heap) (locs : List Loc) (ls : Array Slot), l_X9_year N n x1 x2 x3 x4 x5 x6 m = some (v', M') → va_P D vwCl (fl_w L2 ca ad m) H → va_S (fl_A L2 ad) s.heap H locs → lv_has ls 11 [(0, .ref (ad 0)), (1, .int x1), (2, .int x2), (3, .int x3), (4, .int x4), (5, .int x5), (6, .int x6)] → W p l e (fl_rm 6) s mm args below meth c H locs 0 0 (MQ below (fl_Q L2 D ca ad (some (.int v')) M') args s 0 0 (fl_A L2 ad)) (F0 mm 49 ls []))) → (∀ (x1 : Int32) (x2 : Int32) (x3 : Int32) (x5 : Int32) (x6 : Int32) (x9 : Int32) (x10 : Int32) (t0 : Int32) (t1 : Int32) (m : Mem) (H : Heap) (locs : List Loc) (ls : Array Slot), J_X9_year_121 N (l_X9_year N n) x1 x2 x3 x5 x6 x9 x10 t0 t1 m = some (v', M') → va_P D vwCl (fl_w L2 ca ad m) H → va_S (fl_A L2 ad) s.heap H locs → lv_has ls 11 [(0, .ref (ad 0)), (1, .int x1), (2, .int x2), (3, .int x3), (5, .int x5), (6, .int x6), (9, .int x9), (10, .int x10)] → W p l e (fl_rm 6) s mm args below meth c H locs 0 0 (MQ below (fl_Q L2 D ca ad (some (.int v')) M') args s 0 0 (fl_A L2 ad)) (F0 mm 121 ls [.int t1, .int t0])) := by
    intro n ih
    have ih_49 := ih
    have j_121 : ∀ (x1 : Int32) (x2 : Int32) (x3 : Int32) (x5 : Int32) (x6 : Int32) (x9 : Int32) (x10 : Int32) (t0 : Int32) (t1 : Int32) (m : Mem) (H : Heap) (locs : List Loc) (ls : Array Slot), J_X9_year_121 N (l_X9_year N n) x1 x2 x3 x5 x6 x9 x10 t0 t1 m = some (v', M') → va_P D vwCl (fl_w L2 ca ad m) H → va_S (fl_A L2 ad) s.heap H locs → lv_has ls 11 [(0, .ref (ad 0)), (1, .int x1), (2, .int x2), (3, .int x3), (5, .int x5), (6, .int x6), (9, .int x9), (10, .int x10)] → W p l e (fl_rm 6) s mm args below meth c H locs 0 0 (MQ below (fl_Q L2 D ca ad (some (.int v')) M') args s 0 0 (fl_A L2 ad)) (F0 mm 121 ls [.int t1, .int t0]) := by
      intro x1 x2 x3 x5 x6 x9 x10 t0 t1 m H locs ls h hP hS hl
      unfold J_X9_year_121 at h
      refine lv_iadd hx hb dX9_year_121 ?_
      obtain ⟨z30, ez31, h⟩ := fl_li_e h
      refine fl_topi ez31 ?_
      refine lv_istore (lv' := [(4, .int z30), (0, .ref (ad 0)), (1, .int x1), (2, .int x2), (3, .int x3), (5, .int x5), (6, .int x6), (9, .int x9), (10, .int x10)]) hx hb dX9_year_122 hl (by decide) rfl (fun ls hl => ?_)
      refine lv_iload hx hb dX9_year_124 (lv_at hl 5 rfl) ?_
      refine lv_aload_n hx hb dX9_year_126 rfl (lv_at hl 1 rfl) ?_
      refine fl_getr X hP fk_X9_7 k2_0 rfl dX9_year_127 ?_
      refine lv_bipush (v := (30 : Int32)) hx hb dX9_year_130 (by decide) ?_
      refine lv_iload hx hb dX9_year_132 (lv_at hl 8 rfl) ?_
      refine lv_iadd hx hb dX9_year_134 ?_
      obtain ⟨hk32, h⟩ := fl_ck_e h
      refine fl_iald X hP k2_1 hk32 dX9_year_135 ?_
      refine lv_iadd hx hb dX9_year_136 ?_
      obtain ⟨z33, ez34, h⟩ := fl_li_e h
      refine fl_topi ez34 ?_
      refine lv_istore (lv' := [(5, .int z33), (4, .int z30), (0, .ref (ad 0)), (1, .int x1), (2, .int x2), (3, .int x3), (6, .int x6), (9, .int x9), (10, .int x10)]) hx hb dX9_year_137 hl (by decide) rfl (fun ls hl => ?_)
      refine lv_aload_n hx hb dX9_year_139 rfl (lv_at hl 2 rfl) ?_
      refine fl_getr X hP fk_X9_7 k2_0 rfl dX9_year_140 ?_
      refine lv_bipush (v := (19 : Int32)) hx hb dX9_year_143 (by decide) ?_
      refine lv_dup2_11 hx hb dX9_year_145 rfl rfl ?_
      refine fl_iald X hP k2_1 (by decide) dX9_year_146 ?_
      refine lv_iload hx hb dX9_year_147 (lv_at hl 7 rfl) ?_
      refine lv_bipush (v := (64 : Int32)) hx hb dX9_year_149 (by decide) ?_
      refine lv_idiv hx hb dX9_year_151 (by decide) ?_
      refine lv_bipush (v := (8 : Int32)) hx hb dX9_year_152 (by decide) ?_
      refine lv_irem hx hb dX9_year_154 (by decide) ?_
      refine lv_iadd hx hb dX9_year_155 ?_
      obtain ⟨m35, em36, h⟩ := fl_lm_e h
      refine fl_iast X hP hS k2_1 (by decide) dX9_year_156 (fun H locs hP hS => ?_)
      have hP : va_P D vwCl (fl_w L2 ca ad m35) H := by rw [em36]; exact hP
      refine lv_iinc (v := x6 + 1) (lv' := [(6, .int (x6 + 1)), (5, .int z33), (4, .int z30), (0, .ref (ad 0)), (1, .int x1), (2, .int x2), (3, .int x3), (9, .int x9), (10, .int x10)]) hx hb dX9_year_157 hl (k := 6) rfl rfl (by decide) rfl (fun ls hl => ?_)
      refine lv_goto (tgt := 49) hx hb dX9_year_160 (by decide) ?_
      exact ih_49 _ _ _ _ _ _ _ _ _ _ h hP hS (lv_sub hl [3, 4, 5, 6, 2, 1, 0] rfl)
    exact j_121
  have key : ∀ n : Nat, (∀ (x1 : Int32) (x2 : Int32) (x3 : Int32) (x4 : Int32) (x5 : Int32) (x6 : Int32) (m : Mem) (H : Heap) (locs : List Loc) (ls : Array Slot), l_X9_year N n x1 x2 x3 x4 x5 x6 m = some (v', M') → va_P D vwCl (fl_w L2 ca ad m) H → va_S (fl_A L2 ad) s.heap H locs → lv_has ls 11 [(0, .ref (ad 0)), (1, .int x1), (2, .int x2), (3, .int x3), (4, .int x4), (5, .int x5), (6, .int x6)] → W p l e (fl_rm 6) s mm args below meth c H locs 0 0 (MQ below (fl_Q L2 D ca ad (some (.int v')) M') args s 0 0 (fl_A L2 ad)) (F0 mm 49 ls [])) := by
    intro n
    induction n with
    | zero =>
      skip
      · intro x1 x2 x3 x4 x5 x6 m H locs ls h hP hS hl
        have h : (none : Option (Int32 × Mem)) = some (v', M') := h
        cases h
    | succ n ih =>
      have ih_49 := ih
      have j_121 := js n ih_49
      skip
      · intro x1 x2 x3 x4 x5 x6 m H locs ls h hP hS hl
        have h : B_X9_year_49 N (l_X9_year N n) x1 x2 x3 x4 x5 x6 m = some (v', M') := h
        unfold B_X9_year_49 at h
        refine lv_iload hx hb dX9_year_49 (lv_at hl 6 rfl) ?_
        refine lv_iload_n hx hb dX9_year_51 rfl (lv_at hl 2 rfl) ?_
        refine lv_icmp_ge (tgt := 163) hx hb dX9_year_52 (by decide) (fun c16 => ?_) (fun c16 => ?_)
        · replace h := fl_if_t h c16
          refine lv_iload_n hx hb dX9_year_163 rfl (lv_at hl 3 rfl) ?_
          refine lv_if_ne (tgt := 172) hx hb dX9_year_164 (by decide) (fun c17 => ?_) (fun c17 => ?_)
          · replace h := fl_if_f h c17
            refine lv_iload hx hb dX9_year_172 (lv_at hl 5 rfl) ?_
            exact fl_iret X hr hlk hP hS dX9_year_174 h
          · replace h := fl_if_t h c17
            refine lv_iload hx hb dX9_year_167 (lv_at hl 4 rfl) ?_
            refine lv_goto (tgt := 174) hx hb dX9_year_169 (by decide) ?_
            exact fl_iret X hr hlk hP hS dX9_year_174 h
        · replace h := fl_if_f h c16
          refine lv_ldc2 (v := (7919 : Int64)) hx hb hown (hts _ wq_1080) dX9_year_55 ?_
          refine lv_iload_n hx hb dX9_year_58 rfl (lv_at hl 1 rfl) ?_
          refine lv_i2l (v := x1.toInt64) hx hb dX9_year_59 rfl ?_
          refine lv_lmul hx hb dX9_year_60 ?_
          refine lv_ldc2 (v := (6151 : Int64)) hx hb hown (hts _ wq_1081) dX9_year_61 ?_
          refine lv_iload hx hb dX9_year_64 (lv_at hl 6 rfl) ?_
          refine lv_i2l (v := x6.toInt64) hx hb dX9_year_66 rfl ?_
          refine lv_lmul hx hb dX9_year_67 ?_
          refine lv_ladd hx hb dX9_year_68 ?_
          refine lv_lconst (v := (1 : Int64)) hx hb dX9_year_69 (by decide) ?_
          refine lv_ladd hx hb dX9_year_70 ?_
          obtain ⟨z18, ez19, h⟩ := fl_ll_e h
          refine fl_topl ez19 ?_
          refine lv_lstore (lv' := [(7, .long z18), (0, .ref (ad 0)), (1, .int x1), (2, .int x2), (3, .int x3), (4, .int x4), (5, .int x5), (6, .int x6)]) hx hb dX9_year_71 hl (by decide) rfl (fun ls hl => ?_)
          refine lv_lload hx hb dX9_year_73 (lv_at hl 0 rfl) ?_
          refine lv_lload hx hb dX9_year_75 (lv_at hl 0 rfl) ?_
          refine lv_lmul hx hb dX9_year_77 ?_
          refine lv_ldc2 (v := (65521 : Int64)) hx hb hown (hts _ wq_1082) dX9_year_78 ?_
          refine lv_lrem hx hb dX9_year_81 (by decide) ?_
          refine lv_l2i (v := (fl_remL (z18 * z18) (65521 : Int64)).toInt32) hx hb dX9_year_82 rfl ?_
          obtain ⟨z20, ez21, h⟩ := fl_li_e h
          refine fl_topi ez21 ?_
          refine lv_istore (lv' := [(9, .int z20), (7, .long z18), (0, .ref (ad 0)), (1, .int x1), (2, .int x2), (3, .int x3), (4, .int x4), (5, .int x5), (6, .int x6)]) hx hb dX9_year_83 hl (by decide) rfl (fun ls hl => ?_)
          refine lv_iload hx hb dX9_year_85 (lv_at hl 0 rfl) ?_
          refine lv_iconst (v := (4 : Int32)) hx hb dX9_year_87 (by decide) ?_
          refine lv_idiv hx hb dX9_year_88 (by decide) ?_
          refine lv_aload_n hx hb dX9_year_89 rfl (lv_at hl 2 rfl) ?_
          refine fl_geti X hP fk_X9_99 k2_0 rfl dX9_year_90 ?_
          obtain ⟨hk22, h⟩ := fl_ck_e h
          refine lv_irem hx hb dX9_year_93 hk22 ?_
          obtain ⟨z23, ez24, h⟩ := fl_li_e h
          refine fl_topi ez24 ?_
          refine lv_istore (lv' := [(10, .int z23), (9, .int z20), (7, .long z18), (0, .ref (ad 0)), (1, .int x1), (2, .int x2), (3, .int x3), (4, .int x4), (5, .int x5), (6, .int x6)]) hx hb dX9_year_94 hl (by decide) rfl (fun ls hl => ?_)
          refine lv_iload hx hb dX9_year_96 (lv_at hl 7 rfl) ?_
          refine lv_aload_n hx hb dX9_year_98 rfl (lv_at hl 3 rfl) ?_
          refine lv_bipush (v := (19 : Int32)) hx hb dX9_year_99 (by decide) ?_
          refine lv_iload hx hb dX9_year_101 (lv_at hl 1 rfl) ?_
          refine lv_aload_n hx hb dX9_year_103 rfl (lv_at hl 3 rfl) ?_
          refine fl_geti X hP fk_X9_96 k2_0 rfl dX9_year_104 ?_
          obtain ⟨hk25, h⟩ := fl_ck_e h
          refine lv_irem hx hb dX9_year_107 hk25 ?_
          refine lv_iload hx hb dX9_year_108 (lv_at hl 0 rfl) ?_
          obtain ⟨r26, m27, hz28, h⟩ := fl_bd_e h
          refine fl_callV (av := [.int (19 : Int32), .int (fl_rem z20 (m.1 0 5)), .int z23]) X hP hS hl.1 mv_X9_203 (c_X9_ridesAsOneDoes l D ca ad hi (19 : Int32) (fl_rem z20 (m.1 0 5)) z23 m _ _ hz28) k2_0 (fl_fit_rm (by omega) (by decide)) rfl (Nat.le_of_ble_eq_true rfl) dX9_year_110 rfl (fun H locs hP hS => ?_)
          refine W.eq (g2 := F0 mm 113 ls [.int r26, .int x4]) rfl ?_
          refine lv_if_eq (tgt := 120) hx hb dX9_year_113 (by decide) (fun c29 => ?_) (fun c29 => ?_)
          · replace h := fl_if_t h c29
            refine lv_iconst (v := (0 : Int32)) hx hb dX9_year_120 (by decide) ?_
            exact j_121 _ _ _ _ _ _ _ _ _ _ _ _ _ h hP hS (lv_sub hl [3, 4, 5, 6, 8, 9, 1, 0] rfl)
          · replace h := fl_if_f h c29
            refine lv_iconst (v := (1 : Int32)) hx hb dX9_year_116 (by decide) ?_
            refine lv_goto (tgt := 121) hx hb dX9_year_117 (by decide) ?_
            exact j_121 _ _ _ _ _ _ _ _ _ _ _ _ _ h hP hS (lv_sub hl [3, 4, 5, 6, 8, 9, 1, 0] rfl)
  have ih_49 := key N
  have j_121 := js N ih_49
  refine lv_iload_n hx hb dX9_year_0 rfl (lv_at hl 1 rfl) ?_
  refine lv_i2l (v := x1.toInt64) hx hb dX9_year_1 rfl ?_
  refine lv_lconst (v := (0 : Int64)) hx hb dX9_year_2 (by decide) ?_
  refine lv_ldc2 (v := (9999 : Int64)) hx hb hown (hts _ wq_1078) dX9_year_3 ?_
  obtain ⟨r1, m2, hz3, h⟩ := fl_bd_e h
  refine fl_callS (av := [.long x1.toInt64, .long (0 : Int64), .long (9999 : Int64)]) X hP hS hl.1 ms_X9_92 (c_X9_in l D ca ad hi x1.toInt64 (0 : Int64) (9999 : Int64) m _ _ hz3) (fl_fit_rm (by omega) (by decide)) rfl (Nat.le_of_ble_eq_true rfl) dX9_year_6 rfl (fun H locs hP hS => ?_)
  refine W.eq (g2 := F0 mm 9 ls [.int r1]) rfl ?_
  refine lv_if_eq (tgt := 34) hx hb dX9_year_9 (by decide) (fun c4 => ?_) (fun c4 => ?_)
  · replace h := fl_if_t h c4
    refine lv_iconst (v := (-1 : Int32)) hx hb dX9_year_34 (by decide) ?_
    exact fl_iret X hr hlk hP hS dX9_year_35 h
  · replace h := fl_if_f h c4
    refine lv_iload_n hx hb dX9_year_12 rfl (lv_at hl 2 rfl) ?_
    refine lv_i2l (v := x2.toInt64) hx hb dX9_year_13 rfl ?_
    refine lv_lconst (v := (1 : Int64)) hx hb dX9_year_14 (by decide) ?_
    refine lv_ldc2 (v := (40 : Int64)) hx hb hown (hts _ wq_1079) dX9_year_15 ?_
    obtain ⟨r5, m6, hz7, h⟩ := fl_bd_e h
    refine fl_callS (av := [.long x2.toInt64, .long (1 : Int64), .long (40 : Int64)]) X hP hS hl.1 ms_X9_92 (c_X9_in l D ca ad hi x2.toInt64 (1 : Int64) (40 : Int64) m2 _ _ hz7) (fl_fit_rm (by omega) (by decide)) rfl (Nat.le_of_ble_eq_true rfl) dX9_year_18 rfl (fun H locs hP hS => ?_)
    refine W.eq (g2 := F0 mm 21 ls [.int r5]) rfl ?_
    refine lv_if_eq (tgt := 34) hx hb dX9_year_21 (by decide) (fun c8 => ?_) (fun c8 => ?_)
    · replace h := fl_if_t h c8
      refine lv_iconst (v := (-1 : Int32)) hx hb dX9_year_34 (by decide) ?_
      exact fl_iret X hr hlk hP hS dX9_year_35 h
    · replace h := fl_if_f h c8
      refine lv_iload_n hx hb dX9_year_24 rfl (lv_at hl 3 rfl) ?_
      refine lv_i2l (v := x3.toInt64) hx hb dX9_year_25 rfl ?_
      refine lv_lconst (v := (0 : Int64)) hx hb dX9_year_26 (by decide) ?_
      refine lv_lconst (v := (1 : Int64)) hx hb dX9_year_27 (by decide) ?_
      obtain ⟨r9, m10, hz11, h⟩ := fl_bd_e h
      refine fl_callS (av := [.long x3.toInt64, .long (0 : Int64), .long (1 : Int64)]) X hP hS hl.1 ms_X9_92 (c_X9_in l D ca ad hi x3.toInt64 (0 : Int64) (1 : Int64) m6 _ _ hz11) (fl_fit_rm (by omega) (by decide)) rfl (Nat.le_of_ble_eq_true rfl) dX9_year_28 rfl (fun H locs hP hS => ?_)
      refine W.eq (g2 := F0 mm 31 ls [.int r9]) rfl ?_
      refine lv_if_ne (tgt := 36) hx hb dX9_year_31 (by decide) (fun c12 => ?_) (fun c12 => ?_)
      · replace h := fl_if_f h c12
        refine lv_aload_n hx hb dX9_year_36 rfl (lv_at hl 0 rfl) ?_
        obtain ⟨r13, m14, hz15, h⟩ := fl_bd_e h
        refine fl_callV (av := []) X hP hS hl.1 mv_X9_226 (c_X9_tries l D ca ad hi N  m10 _ _ hz15) k2_0 (fl_fit_rm (by omega) (by decide)) rfl (Nat.le_of_ble_eq_true rfl) dX9_year_37 rfl (fun H locs hP hS => ?_)
        refine W.eq (g2 := F0 mm 40 ls []) rfl ?_
        refine lv_iconst (v := (0 : Int32)) hx hb dX9_year_40 (by decide) ?_
        refine lv_istore (lv' := [(4, .int (0 : Int32)), (0, .ref (ad 0)), (1, .int x1), (2, .int x2), (3, .int x3)]) hx hb dX9_year_41 hl (by decide) rfl (fun ls hl => ?_)
        refine lv_iconst (v := (0 : Int32)) hx hb dX9_year_43 (by decide) ?_
        refine lv_istore (lv' := [(5, .int (0 : Int32)), (4, .int (0 : Int32)), (0, .ref (ad 0)), (1, .int x1), (2, .int x2), (3, .int x3)]) hx hb dX9_year_44 hl (by decide) rfl (fun ls hl => ?_)
        refine lv_iconst (v := (0 : Int32)) hx hb dX9_year_46 (by decide) ?_
        refine lv_istore (lv' := [(6, .int (0 : Int32)), (5, .int (0 : Int32)), (4, .int (0 : Int32)), (0, .ref (ad 0)), (1, .int x1), (2, .int x2), (3, .int x3)]) hx hb dX9_year_47 hl (by decide) rfl (fun ls hl => ?_)
        exact ih_49 _ _ _ _ _ _ _ _ _ _ h hP hS (lv_sub hl [3, 4, 5, 6, 2, 1, 0] rfl)
      · replace h := fl_if_t h c12
        refine lv_iconst (v := (-1 : Int32)) hx hb dX9_year_34 (by decide) ?_
        exact fl_iret X hr hlk hP hS dX9_year_35 h

def f_X9_keep (N : Nat)  (m : Mem) : Option (Int32 × Mem) :=
  if (m.1 0 2) = (2 : Int32) then (
    some ((-3 : Int32), m))
  else (
    fl_bd (f_X9_copy N (0 : Int32) ((38 : Int32) + ((19 : Int32) * (m.1 0 2))) m) (fun r2 m3 =>
      fl_lm (mI m3 0 2 ((m3.1 0 2) + (1 : Int32))) (fun m5 =>
        some (m5.1 0 2, m5))))
set_option maxHeartbeats 4000000 in
set_option maxRecDepth 100000 in
theorem c_X9_keep (l : Launch) (D : va_G) (ca : Nat → ClassId) (ad : Nat → Nat) (hi : fl_inj L2 ad) (N : Nat)  (m : Mem) (v' : Int32) (M' : Mem) (h : f_X9_keep N  m = some (v', M')) : fl_M l L2 D ca ad yX9_keep cX9_keep 1 (some .int) 2 [.ref (ad 0)] m (some (.int v')) M' := by
  unfold f_X9_keep at h
  refine fl_ofW (by decide) hi (Nat.le_of_ble_eq_true rfl) ?_
  intro p e s mm args below meth c ls X hr hlk hP hl
  have hl : lv_has ls 1 [(0, .ref (ad 0))] := hl
  have X : fl_X p s mm args c cX9_keep 1 RX9 L2 D ca ad := X
  obtain ⟨hx, hb, hml, hown, hts, hE, -⟩ := id X
  have hS : va_S (fl_A L2 ad) s.heap s.heap [] := va_S.rf
  refine lv_aload_n hx hb dX9_keep_0 rfl (lv_at hl 0 rfl) ?_
  refine fl_geti X hP fk_X9_111 k2_0 rfl dX9_keep_1 ?_
  refine lv_iconst (v := (2 : Int32)) hx hb dX9_keep_4 (by decide) ?_
  refine lv_icmp_ne (tgt := 11) hx hb dX9_keep_5 (by decide) (fun c1 => ?_) (fun c1 => ?_)
  · replace h := fl_if_f h c1
    refine lv_aload_n hx hb dX9_keep_11 rfl (lv_at hl 0 rfl) ?_
    refine lv_iconst (v := (0 : Int32)) hx hb dX9_keep_12 (by decide) ?_
    refine lv_bipush (v := (38 : Int32)) hx hb dX9_keep_13 (by decide) ?_
    refine lv_bipush (v := (19 : Int32)) hx hb dX9_keep_15 (by decide) ?_
    refine lv_aload_n hx hb dX9_keep_17 rfl (lv_at hl 0 rfl) ?_
    refine fl_geti X hP fk_X9_111 k2_0 rfl dX9_keep_18 ?_
    refine lv_imul hx hb dX9_keep_21 ?_
    refine lv_iadd hx hb dX9_keep_22 ?_
    obtain ⟨r2, m3, hz4, h⟩ := fl_bd_e h
    refine fl_callV (av := [.int (0 : Int32), .int ((38 : Int32) + ((19 : Int32) * (m.1 0 2)))]) X hP hS hl.1 mv_X9_193 (c_X9_copy l D ca ad hi N (0 : Int32) ((38 : Int32) + ((19 : Int32) * (m.1 0 2))) m _ _ hz4) k2_0 (fl_fit_rm (by omega) (by decide)) rfl (Nat.le_of_ble_eq_true rfl) dX9_keep_23 rfl (fun H locs hP hS => ?_)
    refine W.eq (g2 := F0 mm 26 ls []) rfl ?_
    refine lv_aload_n hx hb dX9_keep_26 rfl (lv_at hl 0 rfl) ?_
    refine lv_dup hx hb dX9_keep_27 rfl ?_
    refine fl_geti X hP fk_X9_111 k2_0 rfl dX9_keep_28 ?_
    refine lv_iconst (v := (1 : Int32)) hx hb dX9_keep_31 (by decide) ?_
    refine lv_iadd hx hb dX9_keep_32 ?_
    obtain ⟨m5, em6, h⟩ := fl_lm_e h
    refine fl_puti X hP hS pk_X9_111 k2_0 rfl rfl rfl dX9_keep_33 (fun H locs hP hS => ?_)
    have hP : va_P D vwCl (fl_w L2 ca ad m5) H := by rw [em6]; exact hP
    refine lv_aload_n hx hb dX9_keep_36 rfl (lv_at hl 0 rfl) ?_
    refine fl_geti X hP fk_X9_111 k2_0 rfl dX9_keep_37 ?_
    exact fl_iret X hr hlk hP hS dX9_keep_40 h
  · replace h := fl_if_t h c1
    refine lv_bipush (v := (-3 : Int32)) hx hb dX9_keep_8 (by decide) ?_
    exact fl_iret X hr hlk hP hS dX9_keep_10 h

def f_X9_back (N : Nat)  (m : Mem) : Option (Int32 × Mem) :=
  if (m.1 0 2) = 0 then (
    some ((-2 : Int32), m))
  else (
    fl_lm (mI m 0 2 ((m.1 0 2) - (1 : Int32))) (fun m2 =>
      fl_bd (f_X9_copy N ((38 : Int32) + ((19 : Int32) * (m2.1 0 2))) (0 : Int32) m2) (fun r4 m5 =>
        fl_lm (mI m5 0 1 (0 : Int32)) (fun m7 =>
          some (m7.1 0 2, m7)))))
set_option maxHeartbeats 4000000 in
set_option maxRecDepth 100000 in
theorem c_X9_back (l : Launch) (D : va_G) (ca : Nat → ClassId) (ad : Nat → Nat) (hi : fl_inj L2 ad) (N : Nat)  (m : Mem) (v' : Int32) (M' : Mem) (h : f_X9_back N  m = some (v', M')) : fl_M l L2 D ca ad yX9_back cX9_back 1 (some .int) 2 [.ref (ad 0)] m (some (.int v')) M' := by
  unfold f_X9_back at h
  refine fl_ofW (by decide) hi (Nat.le_of_ble_eq_true rfl) ?_
  intro p e s mm args below meth c ls X hr hlk hP hl
  have hl : lv_has ls 1 [(0, .ref (ad 0))] := hl
  have X : fl_X p s mm args c cX9_back 1 RX9 L2 D ca ad := X
  obtain ⟨hx, hb, hml, hown, hts, hE, -⟩ := id X
  have hS : va_S (fl_A L2 ad) s.heap s.heap [] := va_S.rf
  refine lv_aload_n hx hb dX9_back_0 rfl (lv_at hl 0 rfl) ?_
  refine fl_geti X hP fk_X9_111 k2_0 rfl dX9_back_1 ?_
  refine lv_if_ne (tgt := 10) hx hb dX9_back_4 (by decide) (fun c1 => ?_) (fun c1 => ?_)
  · replace h := fl_if_f h c1
    refine lv_aload_n hx hb dX9_back_10 rfl (lv_at hl 0 rfl) ?_
    refine lv_dup hx hb dX9_back_11 rfl ?_
    refine fl_geti X hP fk_X9_111 k2_0 rfl dX9_back_12 ?_
    refine lv_iconst (v := (1 : Int32)) hx hb dX9_back_15 (by decide) ?_
    refine lv_isub hx hb dX9_back_16 ?_
    obtain ⟨m2, em3, h⟩ := fl_lm_e h
    refine fl_puti X hP hS pk_X9_111 k2_0 rfl rfl rfl dX9_back_17 (fun H locs hP hS => ?_)
    have hP : va_P D vwCl (fl_w L2 ca ad m2) H := by rw [em3]; exact hP
    refine lv_aload_n hx hb dX9_back_20 rfl (lv_at hl 0 rfl) ?_
    refine lv_bipush (v := (38 : Int32)) hx hb dX9_back_21 (by decide) ?_
    refine lv_bipush (v := (19 : Int32)) hx hb dX9_back_23 (by decide) ?_
    refine lv_aload_n hx hb dX9_back_25 rfl (lv_at hl 0 rfl) ?_
    refine fl_geti X hP fk_X9_111 k2_0 rfl dX9_back_26 ?_
    refine lv_imul hx hb dX9_back_29 ?_
    refine lv_iadd hx hb dX9_back_30 ?_
    refine lv_iconst (v := (0 : Int32)) hx hb dX9_back_31 (by decide) ?_
    obtain ⟨r4, m5, hz6, h⟩ := fl_bd_e h
    refine fl_callV (av := [.int ((38 : Int32) + ((19 : Int32) * (m2.1 0 2))), .int (0 : Int32)]) X hP hS hl.1 mv_X9_193 (c_X9_copy l D ca ad hi N ((38 : Int32) + ((19 : Int32) * (m2.1 0 2))) (0 : Int32) m2 _ _ hz6) k2_0 (fl_fit_rm (by omega) (by decide)) rfl (Nat.le_of_ble_eq_true rfl) dX9_back_32 rfl (fun H locs hP hS => ?_)
    refine W.eq (g2 := F0 mm 35 ls []) rfl ?_
    refine lv_aload_n hx hb dX9_back_35 rfl (lv_at hl 0 rfl) ?_
    refine lv_iconst (v := (0 : Int32)) hx hb dX9_back_36 (by decide) ?_
    obtain ⟨m7, em8, h⟩ := fl_lm_e h
    refine fl_puti X hP hS pk_X9_108 k2_0 rfl rfl rfl dX9_back_37 (fun H locs hP hS => ?_)
    have hP : va_P D vwCl (fl_w L2 ca ad m7) H := by rw [em8]; exact hP
    refine lv_aload_n hx hb dX9_back_40 rfl (lv_at hl 0 rfl) ?_
    refine fl_geti X hP fk_X9_111 k2_0 rfl dX9_back_41 ?_
    exact fl_iret X hr hlk hP hS dX9_back_44 h
  · replace h := fl_if_t h c1
    refine lv_bipush (v := (-2 : Int32)) hx hb dX9_back_7 (by decide) ?_
    exact fl_iret X hr hlk hP hS dX9_back_9 h

def f_X9_count (N : Nat) (x1 : Int32) (m : Mem) : Option (Int32 × Mem) :=
  if x1 = (0 : Int32) then (
    fl_bd (f_X9_places  m) (fun r1 m2 =>
      some (r1, m2)))
  else (
    if x1 = (1 : Int32) then (
      some (m.1 0 4, m))
    else (
      if x1 = (2 : Int32) then (
        some (m.1 0 5, m))
      else (
        if x1 = (3 : Int32) then (
          some (m.1 0 7, m))
        else (
          if x1 = (4 : Int32) then (
            some (m.1 1 0, m))
          else (
            if x1 = (5 : Int32) then (
              fl_bd (f_X9_ones N (m.1 1 10) m) (fun r4 m5 =>
                some (r4, m5)))
            else (
              if x1 = (6 : Int32) then (
                fl_bd (f_X9_ones N (m.1 1 18) m) (fun r7 m8 =>
                  some (r7, m8)))
              else (
                if x1 = (7 : Int32) then (
                  some (m.1 0 13, m))
                else (
                  if x1 = (8 : Int32) then (
                    some (m.1 0 1, m))
                  else (
                    if x1 = (9 : Int32) then (
                      some (m.1 0 2, m))
                    else (
                      if x1 = (10 : Int32) then (
                        some (m.1 0 18, m))
                      else (
                        some ((-1 : Int32), m))))))))))))
set_option maxHeartbeats 4000000 in
set_option maxRecDepth 100000 in
theorem c_X9_count (l : Launch) (D : va_G) (ca : Nat → ClassId) (ad : Nat → Nat) (hi : fl_inj L2 ad) (N : Nat) (x1 : Int32) (m : Mem) (v' : Int32) (M' : Mem) (h : f_X9_count N x1 m = some (v', M')) : fl_M l L2 D ca ad yX9_count cX9_count 2 (some .int) 2 [.ref (ad 0), .int x1] m (some (.int v')) M' := by
  unfold f_X9_count at h
  refine fl_ofW (by decide) hi (Nat.le_of_ble_eq_true rfl) ?_
  intro p e s mm args below meth c ls X hr hlk hP hl
  have hl : lv_has ls 2 [(0, .ref (ad 0)), (1, .int x1)] := hl
  have X : fl_X p s mm args c cX9_count 2 RX9 L2 D ca ad := X
  obtain ⟨hx, hb, hml, hown, hts, hE, -⟩ := id X
  have hS : va_S (fl_A L2 ad) s.heap s.heap [] := va_S.rf
  refine lv_iload_n hx hb dX9_count_0 rfl (lv_at hl 1 rfl) ?_
  by_cases c_0 : x1 = (0 : Int32)
  · replace h := fl_if_t h c_0
    refine lv_tableIn (off := 59) (tgt := 60) hx hb dX9_count_1 (by rw [c_0]; decide) (by rw [c_0]; decide) (by rw [c_0]; rfl) (by decide) ?_
    refine lv_aload_n hx hb dX9_count_60 rfl (lv_at hl 0 rfl) ?_
    obtain ⟨r1, m2, hz3, h⟩ := fl_bd_e h
    refine fl_callV (av := []) X hP hS hl.1 mv_X9_88 (c_X9_places l D ca ad hi  m _ _ hz3) k2_0 (fl_fit_rm (by omega) (by decide)) rfl (Nat.le_of_ble_eq_true rfl) dX9_count_61 rfl (fun H locs hP hS => ?_)
    refine W.eq (g2 := F0 mm 64 ls [.int r1]) rfl ?_
    exact fl_iret X hr hlk hP hS dX9_count_64 h
  · replace h := fl_if_f h c_0
    by_cases c_1 : x1 = (1 : Int32)
    · replace h := fl_if_t h c_1
      refine lv_tableIn (off := 64) (tgt := 65) hx hb dX9_count_1 (by rw [c_1]; decide) (by rw [c_1]; decide) (by rw [c_1]; rfl) (by decide) ?_
      refine lv_aload_n hx hb dX9_count_65 rfl (lv_at hl 0 rfl) ?_
      refine fl_geti X hP fk_X9_85 k2_0 rfl dX9_count_66 ?_
      exact fl_iret X hr hlk hP hS dX9_count_69 h
    · replace h := fl_if_f h c_1
      by_cases c_2 : x1 = (2 : Int32)
      · replace h := fl_if_t h c_2
        refine lv_tableIn (off := 69) (tgt := 70) hx hb dX9_count_1 (by rw [c_2]; decide) (by rw [c_2]; decide) (by rw [c_2]; rfl) (by decide) ?_
        refine lv_aload_n hx hb dX9_count_70 rfl (lv_at hl 0 rfl) ?_
        refine fl_geti X hP fk_X9_96 k2_0 rfl dX9_count_71 ?_
        exact fl_iret X hr hlk hP hS dX9_count_74 h
      · replace h := fl_if_f h c_2
        by_cases c_3 : x1 = (3 : Int32)
        · replace h := fl_if_t h c_3
          refine lv_tableIn (off := 74) (tgt := 75) hx hb dX9_count_1 (by rw [c_3]; decide) (by rw [c_3]; decide) (by rw [c_3]; rfl) (by decide) ?_
          refine lv_aload_n hx hb dX9_count_75 rfl (lv_at hl 0 rfl) ?_
          refine fl_geti X hP fk_X9_99 k2_0 rfl dX9_count_76 ?_
          exact fl_iret X hr hlk hP hS dX9_count_79 h
        · replace h := fl_if_f h c_3
          by_cases c_4 : x1 = (4 : Int32)
          · replace h := fl_if_t h c_4
            refine lv_tableIn (off := 79) (tgt := 80) hx hb dX9_count_1 (by rw [c_4]; decide) (by rw [c_4]; decide) (by rw [c_4]; rfl) (by decide) ?_
            refine lv_aload_n hx hb dX9_count_80 rfl (lv_at hl 0 rfl) ?_
            refine fl_getr X hP fk_X9_7 k2_0 rfl dX9_count_81 ?_
            refine lv_iconst (v := (0 : Int32)) hx hb dX9_count_84 (by decide) ?_
            refine fl_iald X hP k2_1 (by decide) dX9_count_85 ?_
            exact fl_iret X hr hlk hP hS dX9_count_86 h
          · replace h := fl_if_f h c_4
            by_cases c_5 : x1 = (5 : Int32)
            · replace h := fl_if_t h c_5
              refine lv_tableIn (off := 86) (tgt := 87) hx hb dX9_count_1 (by rw [c_5]; decide) (by rw [c_5]; decide) (by rw [c_5]; rfl) (by decide) ?_
              refine lv_aload_n hx hb dX9_count_87 rfl (lv_at hl 0 rfl) ?_
              refine fl_getr X hP fk_X9_7 k2_0 rfl dX9_count_88 ?_
              refine lv_bipush (v := (10 : Int32)) hx hb dX9_count_91 (by decide) ?_
              refine fl_iald X hP k2_1 (by decide) dX9_count_93 ?_
              obtain ⟨r4, m5, hz6, h⟩ := fl_bd_e h
              refine fl_callS (av := [.int (m.1 1 10)]) X hP hS hl.1 ms_X9_217 (c_X9_ones l D ca ad hi N (m.1 1 10) m _ _ hz6) (fl_fit_rm (by omega) (by decide)) rfl (Nat.le_of_ble_eq_true rfl) dX9_count_94 rfl (fun H locs hP hS => ?_)
              refine W.eq (g2 := F0 mm 97 ls [.int r4]) rfl ?_
              exact fl_iret X hr hlk hP hS dX9_count_97 h
            · replace h := fl_if_f h c_5
              by_cases c_6 : x1 = (6 : Int32)
              · replace h := fl_if_t h c_6
                refine lv_tableIn (off := 97) (tgt := 98) hx hb dX9_count_1 (by rw [c_6]; decide) (by rw [c_6]; decide) (by rw [c_6]; rfl) (by decide) ?_
                refine lv_aload_n hx hb dX9_count_98 rfl (lv_at hl 0 rfl) ?_
                refine fl_getr X hP fk_X9_7 k2_0 rfl dX9_count_99 ?_
                refine lv_bipush (v := (18 : Int32)) hx hb dX9_count_102 (by decide) ?_
                refine fl_iald X hP k2_1 (by decide) dX9_count_104 ?_
                obtain ⟨r7, m8, hz9, h⟩ := fl_bd_e h
                refine fl_callS (av := [.int (m.1 1 18)]) X hP hS hl.1 ms_X9_217 (c_X9_ones l D ca ad hi N (m.1 1 18) m _ _ hz9) (fl_fit_rm (by omega) (by decide)) rfl (Nat.le_of_ble_eq_true rfl) dX9_count_105 rfl (fun H locs hP hS => ?_)
                refine W.eq (g2 := F0 mm 108 ls [.int r7]) rfl ?_
                exact fl_iret X hr hlk hP hS dX9_count_108 h
              · replace h := fl_if_f h c_6
                by_cases c_7 : x1 = (7 : Int32)
                · replace h := fl_if_t h c_7
                  refine lv_tableIn (off := 108) (tgt := 109) hx hb dX9_count_1 (by rw [c_7]; decide) (by rw [c_7]; decide) (by rw [c_7]; rfl) (by decide) ?_
                  refine lv_aload_n hx hb dX9_count_109 rfl (lv_at hl 0 rfl) ?_
                  refine fl_geti X hP fk_X9_114 k2_0 rfl dX9_count_110 ?_
                  exact fl_iret X hr hlk hP hS dX9_count_113 h
                · replace h := fl_if_f h c_7
                  by_cases c_8 : x1 = (8 : Int32)
                  · replace h := fl_if_t h c_8
                    refine lv_tableIn (off := 113) (tgt := 114) hx hb dX9_count_1 (by rw [c_8]; decide) (by rw [c_8]; decide) (by rw [c_8]; rfl) (by decide) ?_
                    refine lv_aload_n hx hb dX9_count_114 rfl (lv_at hl 0 rfl) ?_
                    refine fl_geti X hP fk_X9_108 k2_0 rfl dX9_count_115 ?_
                    exact fl_iret X hr hlk hP hS dX9_count_118 h
                  · replace h := fl_if_f h c_8
                    by_cases c_9 : x1 = (9 : Int32)
                    · replace h := fl_if_t h c_9
                      refine lv_tableIn (off := 118) (tgt := 119) hx hb dX9_count_1 (by rw [c_9]; decide) (by rw [c_9]; decide) (by rw [c_9]; rfl) (by decide) ?_
                      refine lv_aload_n hx hb dX9_count_119 rfl (lv_at hl 0 rfl) ?_
                      refine fl_geti X hP fk_X9_111 k2_0 rfl dX9_count_120 ?_
                      exact fl_iret X hr hlk hP hS dX9_count_123 h
                    · replace h := fl_if_f h c_9
                      by_cases c_10 : x1 = (10 : Int32)
                      · replace h := fl_if_t h c_10
                        refine lv_tableIn (off := 123) (tgt := 124) hx hb dX9_count_1 (by rw [c_10]; decide) (by rw [c_10]; decide) (by rw [c_10]; rfl) (by decide) ?_
                        refine lv_aload_n hx hb dX9_count_124 rfl (lv_at hl 0 rfl) ?_
                        refine fl_geti X hP fk_X9_121 k2_0 rfl dX9_count_125 ?_
                        exact fl_iret X hr hlk hP hS dX9_count_128 h
                      · replace h := fl_if_f h c_10
                        refine lv_tableOut (tgt := 129) hx hb dX9_count_1 (by have e0 := lv_neT c_0 (a := 0) (by decide); have e1 := lv_neT c_1 (a := 1) (by decide); have e2 := lv_neT c_2 (a := 2) (by decide); have e3 := lv_neT c_3 (a := 3) (by decide); have e4 := lv_neT c_4 (a := 4) (by decide); have e5 := lv_neT c_5 (a := 5) (by decide); have e6 := lv_neT c_6 (a := 6) (by decide); have e7 := lv_neT c_7 (a := 7) (by decide); have e8 := lv_neT c_8 (a := 8) (by decide); have e9 := lv_neT c_9 (a := 9) (by decide); have e10 := lv_neT c_10 (a := 10) (by decide); omega) (by decide) ?_
                        refine lv_iconst (v := (-1 : Int32)) hx hb dX9_count_129 (by decide) ?_
                        exact fl_iret X hr hlk hP hS dX9_count_130 h
