def f_X8_begin (N : Nat)  (m : Mem) : Option (Int32 × Mem) :=
  fl_bd (f_X5_begin N 39 4 m) (fun r1 m2 =>
    fl_lm (mI m2 24 2 (0 : Int32)) (fun m4 =>
      fl_lm (mI m4 26 2 (0 : Int32)) (fun m6 =>
        fl_lm (mI m6 28 3 (0 : Int32)) (fun m8 =>
          some ((0 : Int32), m8)))))
set_option maxHeartbeats 4000000 in
set_option maxRecDepth 100000 in
theorem c_X8_begin (l : Launch) (D : va_G) (ca : Nat → ClassId) (ad : Nat → Nat) (hi : fl_inj L1 ad) (N : Nat)  (m : Mem) (v' : Int32) (M' : Mem) (h : f_X8_begin N  m = some (v', M')) : fl_M l L1 D ca ad yX8_begin cX8_begin 1 none 3 [.ref (ad 0)] m none M' := by
  unfold f_X8_begin at h
  refine fl_ofW (by decide) hi (Nat.le_of_ble_eq_true rfl) ?_
  intro p e s mm args below meth c ls X hr hlk hP hl
  have hl : lv_has ls 1 [(0, .ref (ad 0))] := hl
  have X : fl_X p s mm args c cX8_begin 1 RX8 L1 D ca ad := X
  obtain ⟨hx, hb, hml, hown, hts, hE, -⟩ := id X
  have hS : va_S (fl_A L1 ad) s.heap s.heap [] := va_S.rf
  refine lv_aload_n hx hb dX8_begin_0 rfl (lv_at hl 0 rfl) ?_
  refine fl_getr X hP fk_X8_29 k1_0 rfl dX8_begin_1 ?_
  refine lv_aload_n hx hb dX8_begin_4 rfl (lv_at hl 0 rfl) ?_
  refine fl_getr X hP fk_X8_19 k1_0 rfl dX8_begin_5 ?_
  obtain ⟨r1, m2, hz3, h⟩ := fl_bd_e h
  refine fl_callV (av := [.ref (ad 4)]) X hP hS hl.1 mv_X8_292 (c_X5_begin l D ca ad hi N 39 st_39 4 ct_4 m _ _ hz3) k1_39 (fl_fit_rm (by omega) (by decide)) rfl (Nat.le_of_ble_eq_true rfl) dX8_begin_8 rfl (fun H locs hP hS => ?_)
  refine W.eq (g2 := F0 mm 11 ls []) rfl ?_
  refine lv_aload_n hx hb dX8_begin_11 rfl (lv_at hl 0 rfl) ?_
  refine fl_getr X hP fk_X8_41 k1_0 rfl dX8_begin_12 ?_
  refine lv_iconst (v := (0 : Int32)) hx hb dX8_begin_15 (by decide) ?_
  obtain ⟨m4, em5, h⟩ := fl_lm_e h
  refine fl_puti X hP hS pk_X8_182 k1_24 rfl rfl rfl dX8_begin_16 (fun H locs hP hS => ?_)
  have hP : va_P D vwCl (fl_w L1 ca ad m4) H := by rw [em5]; exact hP
  refine lv_aload_n hx hb dX8_begin_19 rfl (lv_at hl 0 rfl) ?_
  refine fl_getr X hP fk_X8_45 k1_0 rfl dX8_begin_20 ?_
  refine lv_iconst (v := (0 : Int32)) hx hb dX8_begin_23 (by decide) ?_
  obtain ⟨m6, em7, h⟩ := fl_lm_e h
  refine fl_puti X hP hS pk_X8_182 k1_26 rfl rfl rfl dX8_begin_24 (fun H locs hP hS => ?_)
  have hP : va_P D vwCl (fl_w L1 ca ad m6) H := by rw [em7]; exact hP
  refine lv_aload_n hx hb dX8_begin_27 rfl (lv_at hl 0 rfl) ?_
  refine fl_getr X hP fk_X8_51 k1_0 rfl dX8_begin_28 ?_
  refine lv_iconst (v := (0 : Int32)) hx hb dX8_begin_31 (by decide) ?_
  obtain ⟨m8, em9, h⟩ := fl_lm_e h
  refine fl_puti X hP hS pk_X8_256 k1_28 rfl rfl rfl dX8_begin_32 (fun H locs hP hS => ?_)
  have hP : va_P D vwCl (fl_w L1 ca ad m8) H := by rw [em9]; exact hP
  exact fl_vret X hr hlk hP hS dX8_begin_35 h

def B_X8_howManyWept_4 (N : Nat) (F : Int32 → Int32 → Mem → Option (Int32 × Mem)) (x1 : Int32) (x2 : Int32) (m : Mem) : Option (Int32 × Mem) :=
  if (m.1 4 3) ≤ x2 then (
    some (x1, m))
  else (
    fl_ck (0 ≤ x2.toInt ∧ x2.toInt < 7) (
      fl_li (x1 + (m.1 44 (x2.toNatClampNeg))) (fun z3 =>
        F z3 (x2 + 1) m)))
def l_X8_howManyWept (N : Nat) : Nat → Int32 → Int32 → Mem → Option (Int32 × Mem)
  | 0 => fun _ _ _ => none
  | n + 1 => fun x1 x2 m => B_X8_howManyWept_4 N (l_X8_howManyWept N n) x1 x2 m
def f_X8_howManyWept (N : Nat)  (m : Mem) : Option (Int32 × Mem) :=
  (l_X8_howManyWept N N) (0 : Int32) (0 : Int32) m
set_option maxHeartbeats 4000000 in
set_option maxRecDepth 100000 in
theorem c_X8_howManyWept (l : Launch) (D : va_G) (ca : Nat → ClassId) (ad : Nat → Nat) (hi : fl_inj L1 ad) (N : Nat)  (m : Mem) (v' : Int32) (M' : Mem) (h : f_X8_howManyWept N  m = some (v', M')) : fl_M l L1 D ca ad yX8_howManyWept cX8_howManyWept 3 (some .int) 1 [.ref (ad 0)] m (some (.int v')) M' := by
  unfold f_X8_howManyWept at h
  refine fl_ofW (by decide) hi (Nat.le_of_ble_eq_true rfl) ?_
  intro p e s mm args below meth c ls X hr hlk hP hl
  have hl : lv_has ls 3 [(0, .ref (ad 0))] := hl
  have X : fl_X p s mm args c cX8_howManyWept 3 RX8 L1 D ca ad := X
  obtain ⟨hx, hb, hml, hown, hts, hE, -⟩ := id X
  have hS : va_S (fl_A L1 ad) s.heap s.heap [] := va_S.rf
  have key : ∀ n : Nat, (∀ (x1 : Int32) (x2 : Int32) (m : Mem) (H : Heap) (locs : List Loc) (ls : Array Slot), l_X8_howManyWept N n x1 x2 m = some (v', M') → va_P D vwCl (fl_w L1 ca ad m) H → va_S (fl_A L1 ad) s.heap H locs → lv_has ls 3 [(0, .ref (ad 0)), (1, .int x1), (2, .int x2)] → W p l e (fl_rm 1) s mm args below meth c H locs 0 0 (MQ below (fl_Q L1 D ca ad (some (.int v')) M') args s 0 0 (fl_A L1 ad)) (F0 mm 4 ls [])) := by
    intro n
    induction n with
    | zero =>
      skip
      · intro x1 x2 m H locs ls h hP hS hl
        have h : (none : Option (Int32 × Mem)) = some (v', M') := h
        cases h
    | succ n ih =>
      have ih_4 := ih
      skip
      · intro x1 x2 m H locs ls h hP hS hl
        have h : B_X8_howManyWept_4 N (l_X8_howManyWept N n) x1 x2 m = some (v', M') := h
        unfold B_X8_howManyWept_4 at h
        refine lv_iload_n hx hb dX8_howManyWept_4 rfl (lv_at hl 2 rfl) ?_
        refine lv_aload_n hx hb dX8_howManyWept_5 rfl (lv_at hl 0 rfl) ?_
        refine fl_getr X hP fk_X8_19 k1_0 rfl dX8_howManyWept_6 ?_
        refine fl_geti X hP fk_X8_106 k1_4 rfl dX8_howManyWept_9 ?_
        refine lv_icmp_ge (tgt := 33) hx hb dX8_howManyWept_12 (by decide) (fun c1 => ?_) (fun c1 => ?_)
        · replace h := fl_if_t h c1
          refine lv_iload_n hx hb dX8_howManyWept_33 rfl (lv_at hl 1 rfl) ?_
          exact fl_iret X hr hlk hP hS dX8_howManyWept_34 h
        · replace h := fl_if_f h c1
          refine lv_iload_n hx hb dX8_howManyWept_15 rfl (lv_at hl 1 rfl) ?_
          refine lv_aload_n hx hb dX8_howManyWept_16 rfl (lv_at hl 0 rfl) ?_
          refine fl_getr X hP fk_X8_29 k1_0 rfl dX8_howManyWept_17 ?_
          refine fl_getr X hP fk_X8_160 k1_39 rfl dX8_howManyWept_20 ?_
          refine lv_iload_n hx hb dX8_howManyWept_23 rfl (lv_at hl 2 rfl) ?_
          obtain ⟨hk2, h⟩ := fl_ck_e h
          refine fl_iald X hP k1_44 hk2 dX8_howManyWept_24 ?_
          refine lv_iadd hx hb dX8_howManyWept_25 ?_
          obtain ⟨z3, ez4, h⟩ := fl_li_e h
          refine fl_topi ez4 ?_
          refine lv_istore_n (lv' := [(1, .int z3), (0, .ref (ad 0)), (2, .int x2)]) hx hb dX8_howManyWept_26 rfl hl (by decide) rfl (fun ls hl => ?_)
          refine lv_iinc (v := x2 + 1) (lv' := [(2, .int (x2 + 1)), (1, .int z3), (0, .ref (ad 0))]) hx hb dX8_howManyWept_27 hl (k := 2) rfl rfl (by decide) rfl (fun ls hl => ?_)
          refine lv_goto (tgt := 4) hx hb dX8_howManyWept_30 (by decide) ?_
          exact ih_4 _ _ _ _ _ _ h hP hS (lv_sub hl [2, 1, 0] rfl)
  have ih_4 := key N
  refine lv_iconst (v := (0 : Int32)) hx hb dX8_howManyWept_0 (by decide) ?_
  refine lv_istore_n (lv' := [(1, .int (0 : Int32)), (0, .ref (ad 0))]) hx hb dX8_howManyWept_1 rfl hl (by decide) rfl (fun ls hl => ?_)
  refine lv_iconst (v := (0 : Int32)) hx hb dX8_howManyWept_2 (by decide) ?_
  refine lv_istore_n (lv' := [(2, .int (0 : Int32)), (1, .int (0 : Int32)), (0, .ref (ad 0))]) hx hb dX8_howManyWept_3 rfl hl (by decide) rfl (fun ls hl => ?_)
  exact ih_4 _ _ _ _ _ _ h hP hS (lv_sub hl [2, 1, 0] rfl)

def B_X8_lateFrom_29 (N : Nat) (F : Int32 → Int32 → Int32 → Mem → Option (Int32 × Mem)) (x1 : Int32) (x3 : Int32) (x4 : Int32) (m : Mem) : Option (Int32 × Mem) :=
  if (m.1 4 3) ≤ x4 then (
    some (x3, m))
  else (
    fl_bd (f_X5_isTaken 45 x4 m) (fun r8 m9 =>
      if r8 = 0 then (
        fl_bd (f_X0_reckon 4 45 x1 x4 m9) (fun r12 m13 =>
          fl_li (x3 + (m13.1 13 1)) (fun z15 =>
            F x1 z15 (x4 + 1) m13)))
      else (
        F x1 x3 (x4 + 1) m9)))
def l_X8_lateFrom (N : Nat) : Nat → Int32 → Int32 → Int32 → Mem → Option (Int32 × Mem)
  | 0 => fun _ _ _ _ => none
  | n + 1 => fun x1 x3 x4 m => B_X8_lateFrom_29 N (l_X8_lateFrom N n) x1 x3 x4 m
def f_X8_lateFrom (N : Nat) (x1 : Int32) (x2 : Int32) (m : Mem) : Option (Int32 × Mem) :=
  fl_bd (f_X5_copy 45 39 m) (fun r1 m2 =>
    fl_bd (f_X0_move 4 45 x1 x2 m2) (fun r4 m5 =>
      (l_X8_lateFrom N N) x1 (0 : Int32) (0 : Int32) m5))
set_option maxHeartbeats 4000000 in
set_option maxRecDepth 100000 in
theorem c_X8_lateFrom (l : Launch) (D : va_G) (ca : Nat → ClassId) (ad : Nat → Nat) (hi : fl_inj L1 ad) (N : Nat) (x1 : Int32) (x2 : Int32) (m : Mem) (v' : Int32) (M' : Mem) (h : f_X8_lateFrom N x1 x2 m = some (v', M')) : fl_M l L1 D ca ad yX8_lateFrom cX8_lateFrom 5 (some .int) 4 [.ref (ad 0), .int x1, .int x2] m (some (.int v')) M' := by
  unfold f_X8_lateFrom at h
  refine fl_ofW (by decide) hi (Nat.le_of_ble_eq_true rfl) ?_
  intro p e s mm args below meth c ls X hr hlk hP hl
  have hl : lv_has ls 5 [(0, .ref (ad 0)), (1, .int x1), (2, .int x2)] := hl
  have X : fl_X p s mm args c cX8_lateFrom 5 RX8 L1 D ca ad := X
  obtain ⟨hx, hb, hml, hown, hts, hE, -⟩ := id X
  have hS : va_S (fl_A L1 ad) s.heap s.heap [] := va_S.rf
  have key : ∀ n : Nat, (∀ (x1 : Int32) (x3 : Int32) (x4 : Int32) (m : Mem) (H : Heap) (locs : List Loc) (ls : Array Slot), l_X8_lateFrom N n x1 x3 x4 m = some (v', M') → va_P D vwCl (fl_w L1 ca ad m) H → va_S (fl_A L1 ad) s.heap H locs → lv_has ls 5 [(0, .ref (ad 0)), (1, .int x1), (3, .int x3), (4, .int x4)] → W p l e (fl_rm 4) s mm args below meth c H locs 0 0 (MQ below (fl_Q L1 D ca ad (some (.int v')) M') args s 0 0 (fl_A L1 ad)) (F0 mm 29 ls [])) := by
    intro n
    induction n with
    | zero =>
      skip
      · intro x1 x3 x4 m H locs ls h hP hS hl
        have h : (none : Option (Int32 × Mem)) = some (v', M') := h
        cases h
    | succ n ih =>
      have ih_29 := ih
      skip
      · intro x1 x3 x4 m H locs ls h hP hS hl
        have h : B_X8_lateFrom_29 N (l_X8_lateFrom N n) x1 x3 x4 m = some (v', M') := h
        unfold B_X8_lateFrom_29 at h
        refine lv_iload hx hb dX8_lateFrom_29 (lv_at hl 3 rfl) ?_
        refine lv_aload_n hx hb dX8_lateFrom_31 rfl (lv_at hl 0 rfl) ?_
        refine fl_getr X hP fk_X8_19 k1_0 rfl dX8_lateFrom_32 ?_
        refine fl_geti X hP fk_X8_106 k1_4 rfl dX8_lateFrom_35 ?_
        refine lv_icmp_ge (tgt := 86) hx hb dX8_lateFrom_38 (by decide) (fun c7 => ?_) (fun c7 => ?_)
        · replace h := fl_if_t h c7
          refine lv_iload_n hx hb dX8_lateFrom_86 rfl (lv_at hl 2 rfl) ?_
          exact fl_iret X hr hlk hP hS dX8_lateFrom_87 h
        · replace h := fl_if_f h c7
          refine lv_aload_n hx hb dX8_lateFrom_41 rfl (lv_at hl 0 rfl) ?_
          refine fl_getr X hP fk_X8_33 k1_0 rfl dX8_lateFrom_42 ?_
          refine lv_iload hx hb dX8_lateFrom_45 (lv_at hl 3 rfl) ?_
          obtain ⟨r8, m9, hz10, h⟩ := fl_bd_e h
          refine fl_callV (av := [.int x4]) X hP hS hl.1 mv_X8_154 (c_X5_isTaken l D ca ad hi 45 st_45 x4 m _ _ hz10) k1_45 (fl_fit_rm (by omega) (by decide)) rfl (Nat.le_of_ble_eq_true rfl) dX8_lateFrom_47 rfl (fun H locs hP hS => ?_)
          refine W.eq (g2 := F0 mm 50 ls [.int r8]) rfl ?_
          refine lv_if_ne (tgt := 80) hx hb dX8_lateFrom_50 (by decide) (fun c11 => ?_) (fun c11 => ?_)
          · replace h := fl_if_f h c11
            refine lv_iinc (v := x4 + 1) (lv' := [(4, .int (x4 + 1)), (0, .ref (ad 0)), (1, .int x1), (3, .int x3)]) hx hb dX8_lateFrom_80 hl (k := 3) rfl rfl (by decide) rfl (fun ls hl => ?_)
            refine lv_goto (tgt := 29) hx hb dX8_lateFrom_83 (by decide) ?_
            exact ih_29 _ _ _ _ _ _ _ h hP hS (lv_sub hl [1, 2, 3, 0] rfl)
          · replace h := fl_if_t h c11
            refine lv_aload_n hx hb dX8_lateFrom_53 rfl (lv_at hl 0 rfl) ?_
            refine fl_getr X hP fk_X8_19 k1_0 rfl dX8_lateFrom_54 ?_
            refine lv_aload_n hx hb dX8_lateFrom_57 rfl (lv_at hl 0 rfl) ?_
            refine fl_getr X hP fk_X8_33 k1_0 rfl dX8_lateFrom_58 ?_
            refine lv_iload_n hx hb dX8_lateFrom_61 rfl (lv_at hl 1 rfl) ?_
            refine lv_iload hx hb dX8_lateFrom_62 (lv_at hl 3 rfl) ?_
            obtain ⟨r12, m13, hz14, h⟩ := fl_bd_e h
            refine fl_callV (av := [.ref (ad 45), .int x1, .int x4]) X hP hS hl.1 mv_X8_185 (c_X0_reckon l D ca ad hi 4 ct_4 45 st_45 x1 x4 m9 _ _ hz14) k1_4 (fl_fit_rm (by omega) (by decide)) rfl (Nat.le_of_ble_eq_true rfl) dX8_lateFrom_64 rfl (fun H locs hP hS => ?_)
            refine W.eq (g2 := F0 mm 67 ls []) rfl ?_
            refine lv_iload_n hx hb dX8_lateFrom_67 rfl (lv_at hl 2 rfl) ?_
            refine lv_aload_n hx hb dX8_lateFrom_68 rfl (lv_at hl 0 rfl) ?_
            refine fl_getr X hP fk_X8_19 k1_0 rfl dX8_lateFrom_69 ?_
            refine fl_getr X hP fk_X8_188 k1_4 rfl dX8_lateFrom_72 ?_
            refine fl_geti X hP fk_X8_196 k1_13 rfl dX8_lateFrom_75 ?_
            refine lv_iadd hx hb dX8_lateFrom_78 ?_
            obtain ⟨z15, ez16, h⟩ := fl_li_e h
            refine fl_topi ez16 ?_
            refine lv_istore_n (lv' := [(3, .int z15), (0, .ref (ad 0)), (1, .int x1), (4, .int x4)]) hx hb dX8_lateFrom_79 rfl hl (by decide) rfl (fun ls hl => ?_)
            refine lv_iinc (v := x4 + 1) (lv' := [(4, .int (x4 + 1)), (3, .int z15), (0, .ref (ad 0)), (1, .int x1)]) hx hb dX8_lateFrom_80 hl (k := 3) rfl rfl (by decide) rfl (fun ls hl => ?_)
            refine lv_goto (tgt := 29) hx hb dX8_lateFrom_83 (by decide) ?_
            exact ih_29 _ _ _ _ _ _ _ h hP hS (lv_sub hl [2, 3, 1, 0] rfl)
  have ih_29 := key N
  refine lv_aload_n hx hb dX8_lateFrom_0 rfl (lv_at hl 0 rfl) ?_
  refine fl_getr X hP fk_X8_33 k1_0 rfl dX8_lateFrom_1 ?_
  refine lv_aload_n hx hb dX8_lateFrom_4 rfl (lv_at hl 0 rfl) ?_
  refine fl_getr X hP fk_X8_29 k1_0 rfl dX8_lateFrom_5 ?_
  obtain ⟨r1, m2, hz3, h⟩ := fl_bd_e h
  refine fl_callV (av := [.ref (ad 39)]) X hP hS hl.1 mv_X8_223 (c_X5_copy l D ca ad hi 45 st_45 39 st_39 m _ _ hz3) k1_45 (fl_fit_rm (by omega) (by decide)) rfl (Nat.le_of_ble_eq_true rfl) dX8_lateFrom_8 rfl (fun H locs hP hS => ?_)
  refine W.eq (g2 := F0 mm 11 ls []) rfl ?_
  refine lv_aload_n hx hb dX8_lateFrom_11 rfl (lv_at hl 0 rfl) ?_
  refine fl_getr X hP fk_X8_19 k1_0 rfl dX8_lateFrom_12 ?_
  refine lv_aload_n hx hb dX8_lateFrom_15 rfl (lv_at hl 0 rfl) ?_
  refine fl_getr X hP fk_X8_33 k1_0 rfl dX8_lateFrom_16 ?_
  refine lv_iload_n hx hb dX8_lateFrom_19 rfl (lv_at hl 1 rfl) ?_
  refine lv_iload_n hx hb dX8_lateFrom_20 rfl (lv_at hl 2 rfl) ?_
  obtain ⟨r4, m5, hz6, h⟩ := fl_bd_e h
  refine fl_callV (av := [.ref (ad 45), .int x1, .int x2]) X hP hS hl.1 mv_X8_171 (c_X0_move l D ca ad hi 4 ct_4 45 st_45 x1 x2 m2 _ _ hz6) k1_4 (fl_fit_rm (by omega) (by decide)) rfl (Nat.le_of_ble_eq_true rfl) dX8_lateFrom_21 rfl (fun H locs hP hS => ?_)
  refine W.eq (g2 := F0 mm 24 ls []) rfl ?_
  refine lv_iconst (v := (0 : Int32)) hx hb dX8_lateFrom_24 (by decide) ?_
  refine lv_istore_n (lv' := [(3, .int (0 : Int32)), (0, .ref (ad 0)), (1, .int x1), (2, .int x2)]) hx hb dX8_lateFrom_25 rfl hl (by decide) rfl (fun ls hl => ?_)
  refine lv_iconst (v := (0 : Int32)) hx hb dX8_lateFrom_26 (by decide) ?_
  refine lv_istore (lv' := [(4, .int (0 : Int32)), (3, .int (0 : Int32)), (0, .ref (ad 0)), (1, .int x1), (2, .int x2)]) hx hb dX8_lateFrom_27 hl (by decide) rfl (fun ls hl => ?_)
  exact ih_29 _ _ _ _ _ _ _ h hP hS (lv_sub hl [2, 3, 1, 0] rfl)

def B_X8_liveOneDay_9 (N : Nat) (F : Int32 → Mem → Option (Int32 × Mem)) (x1 : Int32) (m : Mem) : Option (Int32 × Mem) :=
  if (m.1 4 3) ≤ x1 then (
    some ((0 : Int32), m))
  else (
    fl_bd (f_X0_driveSoonest N 4 45 x1 m) (fun r5 m6 =>
      F (x1 + 1) m6))
def l_X8_liveOneDay (N : Nat) : Nat → Int32 → Mem → Option (Int32 × Mem)
  | 0 => fun _ _ => none
  | n + 1 => fun x1 m => B_X8_liveOneDay_9 N (l_X8_liveOneDay N n) x1 m
def f_X8_liveOneDay (N : Nat)  (m : Mem) : Option (Int32 × Mem) :=
  fl_bd (f_X5_dawn N 45 m) (fun r1 m2 =>
    (l_X8_liveOneDay N N) (0 : Int32) m2)
set_option maxHeartbeats 4000000 in
set_option maxRecDepth 100000 in
theorem c_X8_liveOneDay (l : Launch) (D : va_G) (ca : Nat → ClassId) (ad : Nat → Nat) (hi : fl_inj L1 ad) (N : Nat)  (m : Mem) (v' : Int32) (M' : Mem) (h : f_X8_liveOneDay N  m = some (v', M')) : fl_M l L1 D ca ad yX8_liveOneDay cX8_liveOneDay 2 none 6 [.ref (ad 0)] m none M' := by
  unfold f_X8_liveOneDay at h
  refine fl_ofW (by decide) hi (Nat.le_of_ble_eq_true rfl) ?_
  intro p e s mm args below meth c ls X hr hlk hP hl
  have hl : lv_has ls 2 [(0, .ref (ad 0))] := hl
  have X : fl_X p s mm args c cX8_liveOneDay 2 RX8 L1 D ca ad := X
  obtain ⟨hx, hb, hml, hown, hts, hE, -⟩ := id X
  have hS : va_S (fl_A L1 ad) s.heap s.heap [] := va_S.rf
  have key : ∀ n : Nat, (∀ (x1 : Int32) (m : Mem) (H : Heap) (locs : List Loc) (ls : Array Slot), l_X8_liveOneDay N n x1 m = some (v', M') → va_P D vwCl (fl_w L1 ca ad m) H → va_S (fl_A L1 ad) s.heap H locs → lv_has ls 2 [(0, .ref (ad 0)), (1, .int x1)] → W p l e (fl_rm 6) s mm args below meth c H locs 0 0 (MQ below (fl_Q L1 D ca ad none M') args s 0 0 (fl_A L1 ad)) (F0 mm 9 ls [])) := by
    intro n
    induction n with
    | zero =>
      skip
      · intro x1 m H locs ls h hP hS hl
        have h : (none : Option (Int32 × Mem)) = some (v', M') := h
        cases h
    | succ n ih =>
      have ih_9 := ih
      skip
      · intro x1 m H locs ls h hP hS hl
        have h : B_X8_liveOneDay_9 N (l_X8_liveOneDay N n) x1 m = some (v', M') := h
        unfold B_X8_liveOneDay_9 at h
        refine lv_iload_n hx hb dX8_liveOneDay_9 rfl (lv_at hl 1 rfl) ?_
        refine lv_aload_n hx hb dX8_liveOneDay_10 rfl (lv_at hl 0 rfl) ?_
        refine fl_getr X hP fk_X8_19 k1_0 rfl dX8_liveOneDay_11 ?_
        refine fl_geti X hP fk_X8_106 k1_4 rfl dX8_liveOneDay_14 ?_
        refine lv_icmp_ge (tgt := 39) hx hb dX8_liveOneDay_17 (by decide) (fun c4 => ?_) (fun c4 => ?_)
        · replace h := fl_if_t h c4
          exact fl_vret X hr hlk hP hS dX8_liveOneDay_39 h
        · replace h := fl_if_f h c4
          refine lv_aload_n hx hb dX8_liveOneDay_20 rfl (lv_at hl 0 rfl) ?_
          refine fl_getr X hP fk_X8_19 k1_0 rfl dX8_liveOneDay_21 ?_
          refine lv_aload_n hx hb dX8_liveOneDay_24 rfl (lv_at hl 0 rfl) ?_
          refine fl_getr X hP fk_X8_33 k1_0 rfl dX8_liveOneDay_25 ?_
          refine lv_iload_n hx hb dX8_liveOneDay_28 rfl (lv_at hl 1 rfl) ?_
          obtain ⟨r5, m6, hz7, h⟩ := fl_bd_e h
          refine fl_callV (av := [.ref (ad 45), .int x1]) X hP hS hl.1 mv_X8_240 (c_X0_driveSoonest l D ca ad hi N 4 ct_4 45 st_45 x1 m _ _ hz7) k1_4 (fl_fit_rm (by omega) (by decide)) rfl (Nat.le_of_ble_eq_true rfl) dX8_liveOneDay_29 rfl (fun H locs hP hS => ?_)
          refine W.eq (g2 := F0 mm 32 ls [.int r5]) rfl ?_
          refine lv_pop hx hb dX8_liveOneDay_32 rfl ?_
          refine lv_iinc (v := x1 + 1) (lv' := [(1, .int (x1 + 1)), (0, .ref (ad 0))]) hx hb dX8_liveOneDay_33 hl (k := 1) rfl rfl (by decide) rfl (fun ls hl => ?_)
          refine lv_goto (tgt := 9) hx hb dX8_liveOneDay_36 (by decide) ?_
          exact ih_9 _ _ _ _ _ h hP hS (lv_sub hl [1, 0] rfl)
  have ih_9 := key N
  refine lv_aload_n hx hb dX8_liveOneDay_0 rfl (lv_at hl 0 rfl) ?_
  refine fl_getr X hP fk_X8_33 k1_0 rfl dX8_liveOneDay_1 ?_
  obtain ⟨r1, m2, hz3, h⟩ := fl_bd_e h
  refine fl_callV (av := []) X hP hS hl.1 mv_X8_295 (c_X5_dawn l D ca ad hi N 45 st_45 m _ _ hz3) k1_45 (fl_fit_rm (by omega) (by decide)) rfl (Nat.le_of_ble_eq_true rfl) dX8_liveOneDay_4 rfl (fun H locs hP hS => ?_)
  refine W.eq (g2 := F0 mm 7 ls []) rfl ?_
  refine lv_iconst (v := (0 : Int32)) hx hb dX8_liveOneDay_7 (by decide) ?_
  refine lv_istore_n (lv' := [(1, .int (0 : Int32)), (0, .ref (ad 0))]) hx hb dX8_liveOneDay_8 rfl hl (by decide) rfl (fun ls hl => ?_)
  exact ih_9 _ _ _ _ _ h hP hS (lv_sub hl [1, 0] rfl)

def B_X8_dayLike_2 (N : Nat) (F : Int32 → Int32 → Mem → Option (Int32 × Mem)) (x1 : Int32) (x2 : Int32) (m : Mem) : Option (Int32 × Mem) :=
  if x1 ≤ x2 then (
    some (x1, m))
  else (
    fl_ck (0 ≤ x2.toInt ∧ x2.toInt < 41) (
      fl_ck (0 ≤ x1.toInt ∧ x1.toInt < 41) (
        if (lg_cmp (m.2 x2.toNatClampNeg) (m.2 x1.toNatClampNeg)) = 0 then (
          some (x2, m))
        else (
          F x1 (x2 + 1) m))))
def l_X8_dayLike (N : Nat) : Nat → Int32 → Int32 → Mem → Option (Int32 × Mem)
  | 0 => fun _ _ _ => none
  | n + 1 => fun x1 x2 m => B_X8_dayLike_2 N (l_X8_dayLike N n) x1 x2 m
def f_X8_dayLike (N : Nat) (x1 : Int32) (m : Mem) : Option (Int32 × Mem) :=
  (l_X8_dayLike N N) x1 (0 : Int32) m
set_option maxHeartbeats 4000000 in
set_option maxRecDepth 100000 in
theorem c_X8_dayLike (l : Launch) (D : va_G) (ca : Nat → ClassId) (ad : Nat → Nat) (hi : fl_inj L1 ad) (N : Nat) (x1 : Int32) (m : Mem) (v' : Int32) (M' : Mem) (h : f_X8_dayLike N x1 m = some (v', M')) : fl_M l L1 D ca ad yX8_dayLike cX8_dayLike 3 (some .int) 1 [.ref (ad 0), .int x1] m (some (.int v')) M' := by
  unfold f_X8_dayLike at h
  refine fl_ofW (by decide) hi (Nat.le_of_ble_eq_true rfl) ?_
  intro p e s mm args below meth c ls X hr hlk hP hl
  have hl : lv_has ls 3 [(0, .ref (ad 0)), (1, .int x1)] := hl
  have X : fl_X p s mm args c cX8_dayLike 3 RX8 L1 D ca ad := X
  obtain ⟨hx, hb, hml, hown, hts, hE, -⟩ := id X
  have hS : va_S (fl_A L1 ad) s.heap s.heap [] := va_S.rf
  have key : ∀ n : Nat, (∀ (x1 : Int32) (x2 : Int32) (m : Mem) (H : Heap) (locs : List Loc) (ls : Array Slot), l_X8_dayLike N n x1 x2 m = some (v', M') → va_P D vwCl (fl_w L1 ca ad m) H → va_S (fl_A L1 ad) s.heap H locs → lv_has ls 3 [(0, .ref (ad 0)), (1, .int x1), (2, .int x2)] → W p l e (fl_rm 1) s mm args below meth c H locs 0 0 (MQ below (fl_Q L1 D ca ad (some (.int v')) M') args s 0 0 (fl_A L1 ad)) (F0 mm 2 ls [])) := by
    intro n
    induction n with
    | zero =>
      skip
      · intro x1 x2 m H locs ls h hP hS hl
        have h : (none : Option (Int32 × Mem)) = some (v', M') := h
        cases h
    | succ n ih =>
      have ih_2 := ih
      skip
      · intro x1 x2 m H locs ls h hP hS hl
        have h : B_X8_dayLike_2 N (l_X8_dayLike N n) x1 x2 m = some (v', M') := h
        unfold B_X8_dayLike_2 at h
        refine lv_iload_n hx hb dX8_dayLike_2 rfl (lv_at hl 2 rfl) ?_
        refine lv_iload_n hx hb dX8_dayLike_3 rfl (lv_at hl 1 rfl) ?_
        refine lv_icmp_ge (tgt := 31) hx hb dX8_dayLike_4 (by decide) (fun c1 => ?_) (fun c1 => ?_)
        · replace h := fl_if_t h c1
          refine lv_iload_n hx hb dX8_dayLike_31 rfl (lv_at hl 1 rfl) ?_
          exact fl_iret X hr hlk hP hS dX8_dayLike_32 h
        · replace h := fl_if_f h c1
          refine lv_aload_n hx hb dX8_dayLike_7 rfl (lv_at hl 0 rfl) ?_
          refine fl_getr X hP fk_X8_69 k1_0 rfl dX8_dayLike_8 ?_
          refine lv_iload_n hx hb dX8_dayLike_11 rfl (lv_at hl 2 rfl) ?_
          obtain ⟨hk2, h⟩ := fl_ck_e h
          refine fl_lald X hP k1_38 hk2 dX8_dayLike_12 ?_
          refine lv_aload_n hx hb dX8_dayLike_13 rfl (lv_at hl 0 rfl) ?_
          refine fl_getr X hP fk_X8_69 k1_0 rfl dX8_dayLike_14 ?_
          refine lv_iload_n hx hb dX8_dayLike_17 rfl (lv_at hl 1 rfl) ?_
          obtain ⟨hk3, h⟩ := fl_ck_e h
          refine fl_lald X hP k1_38 hk3 dX8_dayLike_18 ?_
          refine W.lcmp hx hb dX8_dayLike_19 ?_
          refine lv_if_ne (tgt := 25) hx hb dX8_dayLike_20 (by decide) (fun c4 => ?_) (fun c4 => ?_)
          · replace h := fl_if_f h c4
            refine lv_iinc (v := x2 + 1) (lv' := [(2, .int (x2 + 1)), (0, .ref (ad 0)), (1, .int x1)]) hx hb dX8_dayLike_25 hl (k := 2) rfl rfl (by decide) rfl (fun ls hl => ?_)
            refine lv_goto (tgt := 2) hx hb dX8_dayLike_28 (by decide) ?_
            exact ih_2 _ _ _ _ _ _ h hP hS (lv_sub hl [1, 2, 0] rfl)
          · replace h := fl_if_t h c4
            refine lv_iload_n hx hb dX8_dayLike_23 rfl (lv_at hl 2 rfl) ?_
            exact fl_iret X hr hlk hP hS dX8_dayLike_24 h
  have ih_2 := key N
  refine lv_iconst (v := (0 : Int32)) hx hb dX8_dayLike_0 (by decide) ?_
  refine lv_istore_n (lv' := [(2, .int (0 : Int32)), (0, .ref (ad 0)), (1, .int x1)]) hx hb dX8_dayLike_1 rfl hl (by decide) rfl (fun ls hl => ?_)
  exact ih_2 _ _ _ _ _ _ h hP hS (lv_sub hl [1, 2, 0] rfl)

def B_X8_tearsOfOthers_4 (N : Nat) (F : Int32 → Int32 → Int32 → Mem → Option (Int32 × Mem)) (x1 : Int32) (x2 : Int32) (x3 : Int32) (m : Mem) : Option (Int32 × Mem) :=
  if (m.1 4 3) ≤ x3 then (
    some (x2, m))
  else (
    if x3 = x1 then (
      F x1 x2 (x3 + 1) m)
    else (
      fl_bd (f_X5_isTaken 45 x3 m) (fun r3 m4 =>
        if r3 = 0 then (
          fl_bd (f_X0_driveSoonest N 4 45 x3 m4) (fun r7 m8 =>
            if r7 = 0 then (
              fl_li (x2 + (0 : Int32)) (fun z11 =>
                F x1 z11 (x3 + 1) m8))
            else (
              fl_li (x2 + (1 : Int32)) (fun z13 =>
                F x1 z13 (x3 + 1) m8))))
        else (
          F x1 x2 (x3 + 1) m4))))
def l_X8_tearsOfOthers (N : Nat) : Nat → Int32 → Int32 → Int32 → Mem → Option (Int32 × Mem)
  | 0 => fun _ _ _ _ => none
  | n + 1 => fun x1 x2 x3 m => B_X8_tearsOfOthers_4 N (l_X8_tearsOfOthers N n) x1 x2 x3 m
def f_X8_tearsOfOthers (N : Nat) (x1 : Int32) (m : Mem) : Option (Int32 × Mem) :=
  (l_X8_tearsOfOthers N N) x1 (0 : Int32) (0 : Int32) m
set_option maxHeartbeats 4000000 in
set_option maxRecDepth 100000 in
theorem c_X8_tearsOfOthers (l : Launch) (D : va_G) (ca : Nat → ClassId) (ad : Nat → Nat) (hi : fl_inj L1 ad) (N : Nat) (x1 : Int32) (m : Mem) (v' : Int32) (M' : Mem) (h : f_X8_tearsOfOthers N x1 m = some (v', M')) : fl_M l L1 D ca ad yX8_tearsOfOthers cX8_tearsOfOthers 4 (some .int) 6 [.ref (ad 0), .int x1] m (some (.int v')) M' := by
  unfold f_X8_tearsOfOthers at h
  refine fl_ofW (by decide) hi (Nat.le_of_ble_eq_true rfl) ?_
  intro p e s mm args below meth c ls X hr hlk hP hl
  have hl : lv_has ls 4 [(0, .ref (ad 0)), (1, .int x1)] := hl
  have X : fl_X p s mm args c cX8_tearsOfOthers 4 RX8 L1 D ca ad := X
  obtain ⟨hx, hb, hml, hown, hts, hE, -⟩ := id X
  have hS : va_S (fl_A L1 ad) s.heap s.heap [] := va_S.rf
  have key : ∀ n : Nat, (∀ (x1 : Int32) (x2 : Int32) (x3 : Int32) (m : Mem) (H : Heap) (locs : List Loc) (ls : Array Slot), l_X8_tearsOfOthers N n x1 x2 x3 m = some (v', M') → va_P D vwCl (fl_w L1 ca ad m) H → va_S (fl_A L1 ad) s.heap H locs → lv_has ls 4 [(0, .ref (ad 0)), (1, .int x1), (2, .int x2), (3, .int x3)] → W p l e (fl_rm 6) s mm args below meth c H locs 0 0 (MQ below (fl_Q L1 D ca ad (some (.int v')) M') args s 0 0 (fl_A L1 ad)) (F0 mm 4 ls [])) := by
    intro n
    induction n with
    | zero =>
      skip
      · intro x1 x2 x3 m H locs ls h hP hS hl
        have h : (none : Option (Int32 × Mem)) = some (v', M') := h
        cases h
    | succ n ih =>
      have ih_4 := ih
      skip
      · intro x1 x2 x3 m H locs ls h hP hS hl
        have h : B_X8_tearsOfOthers_4 N (l_X8_tearsOfOthers N n) x1 x2 x3 m = some (v', M') := h
        unfold B_X8_tearsOfOthers_4 at h
        refine lv_iload_n hx hb dX8_tearsOfOthers_4 rfl (lv_at hl 3 rfl) ?_
        refine lv_aload_n hx hb dX8_tearsOfOthers_5 rfl (lv_at hl 0 rfl) ?_
        refine fl_getr X hP fk_X8_19 k1_0 rfl dX8_tearsOfOthers_6 ?_
        refine fl_geti X hP fk_X8_106 k1_4 rfl dX8_tearsOfOthers_9 ?_
        refine lv_icmp_ge (tgt := 60) hx hb dX8_tearsOfOthers_12 (by decide) (fun c1 => ?_) (fun c1 => ?_)
        · replace h := fl_if_t h c1
          refine lv_iload_n hx hb dX8_tearsOfOthers_60 rfl (lv_at hl 2 rfl) ?_
          exact fl_iret X hr hlk hP hS dX8_tearsOfOthers_61 h
        · replace h := fl_if_f h c1
          refine lv_iload_n hx hb dX8_tearsOfOthers_15 rfl (lv_at hl 3 rfl) ?_
          refine lv_iload_n hx hb dX8_tearsOfOthers_16 rfl (lv_at hl 1 rfl) ?_
          refine lv_icmp_eq (tgt := 54) hx hb dX8_tearsOfOthers_17 (by decide) (fun c2 => ?_) (fun c2 => ?_)
          · replace h := fl_if_t h c2
            refine lv_iinc (v := x3 + 1) (lv' := [(3, .int (x3 + 1)), (0, .ref (ad 0)), (1, .int x1), (2, .int x2)]) hx hb dX8_tearsOfOthers_54 hl (k := 3) rfl rfl (by decide) rfl (fun ls hl => ?_)
            refine lv_goto (tgt := 4) hx hb dX8_tearsOfOthers_57 (by decide) ?_
            exact ih_4 _ _ _ _ _ _ _ h hP hS (lv_sub hl [1, 2, 3, 0] rfl)
          · replace h := fl_if_f h c2
            refine lv_aload_n hx hb dX8_tearsOfOthers_20 rfl (lv_at hl 0 rfl) ?_
            refine fl_getr X hP fk_X8_33 k1_0 rfl dX8_tearsOfOthers_21 ?_
            refine lv_iload_n hx hb dX8_tearsOfOthers_24 rfl (lv_at hl 3 rfl) ?_
            obtain ⟨r3, m4, hz5, h⟩ := fl_bd_e h
            refine fl_callV (av := [.int x3]) X hP hS hl.1 mv_X8_154 (c_X5_isTaken l D ca ad hi 45 st_45 x3 m _ _ hz5) k1_45 (fl_fit_rm (by omega) (by decide)) rfl (Nat.le_of_ble_eq_true rfl) dX8_tearsOfOthers_25 rfl (fun H locs hP hS => ?_)
            refine W.eq (g2 := F0 mm 28 ls [.int r3]) rfl ?_
            refine lv_if_ne (tgt := 54) hx hb dX8_tearsOfOthers_28 (by decide) (fun c6 => ?_) (fun c6 => ?_)
            · replace h := fl_if_f h c6
              refine lv_iinc (v := x3 + 1) (lv' := [(3, .int (x3 + 1)), (0, .ref (ad 0)), (1, .int x1), (2, .int x2)]) hx hb dX8_tearsOfOthers_54 hl (k := 3) rfl rfl (by decide) rfl (fun ls hl => ?_)
              refine lv_goto (tgt := 4) hx hb dX8_tearsOfOthers_57 (by decide) ?_
              exact ih_4 _ _ _ _ _ _ _ h hP hS (lv_sub hl [1, 2, 3, 0] rfl)
            · replace h := fl_if_t h c6
              refine lv_iload_n hx hb dX8_tearsOfOthers_31 rfl (lv_at hl 2 rfl) ?_
              refine lv_aload_n hx hb dX8_tearsOfOthers_32 rfl (lv_at hl 0 rfl) ?_
              refine fl_getr X hP fk_X8_19 k1_0 rfl dX8_tearsOfOthers_33 ?_
              refine lv_aload_n hx hb dX8_tearsOfOthers_36 rfl (lv_at hl 0 rfl) ?_
              refine fl_getr X hP fk_X8_33 k1_0 rfl dX8_tearsOfOthers_37 ?_
              refine lv_iload_n hx hb dX8_tearsOfOthers_40 rfl (lv_at hl 3 rfl) ?_
              obtain ⟨r7, m8, hz9, h⟩ := fl_bd_e h
              refine fl_callV (av := [.ref (ad 45), .int x3]) X hP hS hl.1 mv_X8_240 (c_X0_driveSoonest l D ca ad hi N 4 ct_4 45 st_45 x3 m4 _ _ hz9) k1_4 (fl_fit_rm (by omega) (by decide)) rfl (Nat.le_of_ble_eq_true rfl) dX8_tearsOfOthers_41 rfl (fun H locs hP hS => ?_)
              refine W.eq (g2 := F0 mm 44 ls [.int r7, .int x2]) rfl ?_
              refine lv_if_eq (tgt := 51) hx hb dX8_tearsOfOthers_44 (by decide) (fun c10 => ?_) (fun c10 => ?_)
              · replace h := fl_if_t h c10
                refine lv_iconst (v := (0 : Int32)) hx hb dX8_tearsOfOthers_51 (by decide) ?_
                refine lv_iadd hx hb dX8_tearsOfOthers_52 ?_
                obtain ⟨z11, ez12, h⟩ := fl_li_e h
                refine fl_topi ez12 ?_
                refine lv_istore_n (lv' := [(2, .int z11), (0, .ref (ad 0)), (1, .int x1), (3, .int x3)]) hx hb dX8_tearsOfOthers_53 rfl hl (by decide) rfl (fun ls hl => ?_)
                refine lv_iinc (v := x3 + 1) (lv' := [(3, .int (x3 + 1)), (2, .int z11), (0, .ref (ad 0)), (1, .int x1)]) hx hb dX8_tearsOfOthers_54 hl (k := 3) rfl rfl (by decide) rfl (fun ls hl => ?_)
                refine lv_goto (tgt := 4) hx hb dX8_tearsOfOthers_57 (by decide) ?_
                exact ih_4 _ _ _ _ _ _ _ h hP hS (lv_sub hl [2, 3, 1, 0] rfl)
              · replace h := fl_if_f h c10
                refine lv_iconst (v := (1 : Int32)) hx hb dX8_tearsOfOthers_47 (by decide) ?_
                refine lv_goto (tgt := 52) hx hb dX8_tearsOfOthers_48 (by decide) ?_
                refine lv_iadd hx hb dX8_tearsOfOthers_52 ?_
                obtain ⟨z13, ez14, h⟩ := fl_li_e h
                refine fl_topi ez14 ?_
                refine lv_istore_n (lv' := [(2, .int z13), (0, .ref (ad 0)), (1, .int x1), (3, .int x3)]) hx hb dX8_tearsOfOthers_53 rfl hl (by decide) rfl (fun ls hl => ?_)
                refine lv_iinc (v := x3 + 1) (lv' := [(3, .int (x3 + 1)), (2, .int z13), (0, .ref (ad 0)), (1, .int x1)]) hx hb dX8_tearsOfOthers_54 hl (k := 3) rfl rfl (by decide) rfl (fun ls hl => ?_)
                refine lv_goto (tgt := 4) hx hb dX8_tearsOfOthers_57 (by decide) ?_
                exact ih_4 _ _ _ _ _ _ _ h hP hS (lv_sub hl [2, 3, 1, 0] rfl)
  have ih_4 := key N
  refine lv_iconst (v := (0 : Int32)) hx hb dX8_tearsOfOthers_0 (by decide) ?_
  refine lv_istore_n (lv' := [(2, .int (0 : Int32)), (0, .ref (ad 0)), (1, .int x1)]) hx hb dX8_tearsOfOthers_1 rfl hl (by decide) rfl (fun ls hl => ?_)
  refine lv_iconst (v := (0 : Int32)) hx hb dX8_tearsOfOthers_2 (by decide) ?_
  refine lv_istore_n (lv' := [(3, .int (0 : Int32)), (2, .int (0 : Int32)), (0, .ref (ad 0)), (1, .int x1)]) hx hb dX8_tearsOfOthers_3 rfl hl (by decide) rfl (fun ls hl => ?_)
  exact ih_4 _ _ _ _ _ _ _ h hP hS (lv_sub hl [2, 3, 1, 0] rfl)

def B_X8_fitsSeen_3 (N : Nat) (F : Int32 → Int32 → Int32 → Int32 → Mem → Option (Int32 × Mem)) (x1 : Int32) (x2 : Int32) (x3 : Int32) (x4 : Int32) (m : Mem) : Option (Int32 × Mem) :=
  if (m.1 28 3) ≤ x4 then (
    some ((1 : Int32), m))
  else (
    fl_ck (0 ≤ x4.toInt ∧ x4.toInt < 6) (
      if (m.1 29 (x4.toNatClampNeg)) = x1 then (
        fl_ck (0 ≤ x4.toInt ∧ x4.toInt < 6) (
          fl_bd (f_X0_reckonAs 4 39 x1 (m.1 30 (x4.toNatClampNeg)) x2 x3 m) (fun r5 m6 =>
            fl_ck (0 ≤ x4.toInt ∧ x4.toInt < 6) (
              if (m6.1 13 0) = (m6.1 31 (x4.toNatClampNeg)) then (
                F x1 x2 x3 (x4 + 1) m6)
              else (
                some ((0 : Int32), m6))))))
      else (
        F x1 x2 x3 (x4 + 1) m)))
def l_X8_fitsSeen (N : Nat) : Nat → Int32 → Int32 → Int32 → Int32 → Mem → Option (Int32 × Mem)
  | 0 => fun _ _ _ _ _ => none
  | n + 1 => fun x1 x2 x3 x4 m => B_X8_fitsSeen_3 N (l_X8_fitsSeen N n) x1 x2 x3 x4 m
def f_X8_fitsSeen (N : Nat) (x1 : Int32) (x2 : Int32) (x3 : Int32) (m : Mem) : Option (Int32 × Mem) :=
  (l_X8_fitsSeen N N) x1 x2 x3 (0 : Int32) m
set_option maxHeartbeats 4000000 in
set_option maxRecDepth 100000 in
theorem c_X8_fitsSeen (l : Launch) (D : va_G) (ca : Nat → ClassId) (ad : Nat → Nat) (hi : fl_inj L1 ad) (N : Nat) (x1 : Int32) (x2 : Int32) (x3 : Int32) (m : Mem) (v' : Int32) (M' : Mem) (h : f_X8_fitsSeen N x1 x2 x3 m = some (v', M')) : fl_M l L1 D ca ad yX8_fitsSeen cX8_fitsSeen 5 (some .boolean) 3 [.ref (ad 0), .int x1, .int x2, .int x3] m (some (.int v')) M' := by
  unfold f_X8_fitsSeen at h
  refine fl_ofW (by decide) hi (Nat.le_of_ble_eq_true rfl) ?_
  intro p e s mm args below meth c ls X hr hlk hP hl
  have hl : lv_has ls 5 [(0, .ref (ad 0)), (1, .int x1), (2, .int x2), (3, .int x3)] := hl
  have X : fl_X p s mm args c cX8_fitsSeen 5 RX8 L1 D ca ad := X
  obtain ⟨hx, hb, hml, hown, hts, hE, -⟩ := id X
  have hS : va_S (fl_A L1 ad) s.heap s.heap [] := va_S.rf
  have key : ∀ n : Nat, (∀ (x1 : Int32) (x2 : Int32) (x3 : Int32) (x4 : Int32) (m : Mem) (H : Heap) (locs : List Loc) (ls : Array Slot), l_X8_fitsSeen N n x1 x2 x3 x4 m = some (v', M') → va_P D vwCl (fl_w L1 ca ad m) H → va_S (fl_A L1 ad) s.heap H locs → lv_has ls 5 [(0, .ref (ad 0)), (1, .int x1), (2, .int x2), (3, .int x3), (4, .int x4)] → W p l e (fl_rm 3) s mm args below meth c H locs 0 0 (MQ below (fl_Q L1 D ca ad (some (.int v')) M') args s 0 0 (fl_A L1 ad)) (F0 mm 3 ls [])) := by
    intro n
    induction n with
    | zero =>
      skip
      · intro x1 x2 x3 x4 m H locs ls h hP hS hl
        have h : (none : Option (Int32 × Mem)) = some (v', M') := h
        cases h
    | succ n ih =>
      have ih_3 := ih
      skip
      · intro x1 x2 x3 x4 m H locs ls h hP hS hl
        have h : B_X8_fitsSeen_3 N (l_X8_fitsSeen N n) x1 x2 x3 x4 m = some (v', M') := h
        unfold B_X8_fitsSeen_3 at h
        refine lv_iload hx hb dX8_fitsSeen_3 (lv_at hl 4 rfl) ?_
        refine lv_aload_n hx hb dX8_fitsSeen_5 rfl (lv_at hl 0 rfl) ?_
        refine fl_getr X hP fk_X8_51 k1_0 rfl dX8_fitsSeen_6 ?_
        refine fl_geti X hP fk_X8_256 k1_28 rfl dX8_fitsSeen_9 ?_
        refine lv_icmp_ge (tgt := 84) hx hb dX8_fitsSeen_12 (by decide) (fun c1 => ?_) (fun c1 => ?_)
        · replace h := fl_if_t h c1
          refine lv_iconst (v := (1 : Int32)) hx hb dX8_fitsSeen_84 (by decide) ?_
          exact fl_zret X hr hlk (by decide) hP hS dX8_fitsSeen_85 h
        · replace h := fl_if_f h c1
          refine lv_aload_n hx hb dX8_fitsSeen_15 rfl (lv_at hl 0 rfl) ?_
          refine fl_getr X hP fk_X8_51 k1_0 rfl dX8_fitsSeen_16 ?_
          refine fl_getr X hP fk_X8_298 k1_28 rfl dX8_fitsSeen_19 ?_
          refine lv_iload hx hb dX8_fitsSeen_22 (lv_at hl 4 rfl) ?_
          obtain ⟨hk2, h⟩ := fl_ck_e h
          refine fl_iald X hP k1_29 hk2 dX8_fitsSeen_24 ?_
          refine lv_iload_n hx hb dX8_fitsSeen_25 rfl (lv_at hl 1 rfl) ?_
          refine lv_icmp_ne (tgt := 78) hx hb dX8_fitsSeen_26 (by decide) (fun c3 => ?_) (fun c3 => ?_)
          · replace h := fl_if_f h c3
            refine lv_iinc (v := x4 + 1) (lv' := [(4, .int (x4 + 1)), (0, .ref (ad 0)), (1, .int x1), (2, .int x2), (3, .int x3)]) hx hb dX8_fitsSeen_78 hl (k := 4) rfl rfl (by decide) rfl (fun ls hl => ?_)
            refine lv_goto (tgt := 3) hx hb dX8_fitsSeen_81 (by decide) ?_
            exact ih_3 _ _ _ _ _ _ _ _ h hP hS (lv_sub hl [1, 2, 3, 4, 0] rfl)
          · replace h := fl_if_t h c3
            refine lv_aload_n hx hb dX8_fitsSeen_29 rfl (lv_at hl 0 rfl) ?_
            refine fl_getr X hP fk_X8_19 k1_0 rfl dX8_fitsSeen_30 ?_
            refine lv_aload_n hx hb dX8_fitsSeen_33 rfl (lv_at hl 0 rfl) ?_
            refine fl_getr X hP fk_X8_29 k1_0 rfl dX8_fitsSeen_34 ?_
            refine lv_iload_n hx hb dX8_fitsSeen_37 rfl (lv_at hl 1 rfl) ?_
            refine lv_aload_n hx hb dX8_fitsSeen_38 rfl (lv_at hl 0 rfl) ?_
            refine fl_getr X hP fk_X8_51 k1_0 rfl dX8_fitsSeen_39 ?_
            refine fl_getr X hP fk_X8_301 k1_28 rfl dX8_fitsSeen_42 ?_
            refine lv_iload hx hb dX8_fitsSeen_45 (lv_at hl 4 rfl) ?_
            obtain ⟨hk4, h⟩ := fl_ck_e h
            refine fl_iald X hP k1_30 hk4 dX8_fitsSeen_47 ?_
            refine lv_iload_n hx hb dX8_fitsSeen_48 rfl (lv_at hl 2 rfl) ?_
            refine lv_iload_n hx hb dX8_fitsSeen_49 rfl (lv_at hl 3 rfl) ?_
            obtain ⟨r5, m6, hz7, h⟩ := fl_bd_e h
            refine fl_callV (av := [.ref (ad 39), .int x1, .int (m.1 30 (x4.toNatClampNeg)), .int x2, .int x3]) X hP hS hl.1 mv_X8_304 (c_X0_reckonAs l D ca ad hi 4 ct_4 39 st_39 x1 (m.1 30 (x4.toNatClampNeg)) x2 x3 m _ _ hz7) k1_4 (fl_fit_rm (by omega) (by decide)) rfl (Nat.le_of_ble_eq_true rfl) dX8_fitsSeen_50 rfl (fun H locs hP hS => ?_)
            refine W.eq (g2 := F0 mm 53 ls []) rfl ?_
            refine lv_aload_n hx hb dX8_fitsSeen_53 rfl (lv_at hl 0 rfl) ?_
            refine fl_getr X hP fk_X8_19 k1_0 rfl dX8_fitsSeen_54 ?_
            refine fl_getr X hP fk_X8_188 k1_4 rfl dX8_fitsSeen_57 ?_
            refine fl_geti X hP fk_X8_192 k1_13 rfl dX8_fitsSeen_60 ?_
            refine lv_aload_n hx hb dX8_fitsSeen_63 rfl (lv_at hl 0 rfl) ?_
            refine fl_getr X hP fk_X8_51 k1_0 rfl dX8_fitsSeen_64 ?_
            refine fl_getr X hP fk_X8_308 k1_28 rfl dX8_fitsSeen_67 ?_
            refine lv_iload hx hb dX8_fitsSeen_70 (lv_at hl 4 rfl) ?_
            obtain ⟨hk8, h⟩ := fl_ck_e h
            refine fl_iald X hP k1_31 hk8 dX8_fitsSeen_72 ?_
            refine lv_icmp_eq (tgt := 78) hx hb dX8_fitsSeen_73 (by decide) (fun c9 => ?_) (fun c9 => ?_)
            · replace h := fl_if_t h c9
              refine lv_iinc (v := x4 + 1) (lv' := [(4, .int (x4 + 1)), (0, .ref (ad 0)), (1, .int x1), (2, .int x2), (3, .int x3)]) hx hb dX8_fitsSeen_78 hl (k := 4) rfl rfl (by decide) rfl (fun ls hl => ?_)
              refine lv_goto (tgt := 3) hx hb dX8_fitsSeen_81 (by decide) ?_
              exact ih_3 _ _ _ _ _ _ _ _ h hP hS (lv_sub hl [1, 2, 3, 4, 0] rfl)
            · replace h := fl_if_f h c9
              refine lv_iconst (v := (0 : Int32)) hx hb dX8_fitsSeen_76 (by decide) ?_
              exact fl_zret X hr hlk (by decide) hP hS dX8_fitsSeen_77 h
  have ih_3 := key N
  refine lv_iconst (v := (0 : Int32)) hx hb dX8_fitsSeen_0 (by decide) ?_
  refine lv_istore (lv' := [(4, .int (0 : Int32)), (0, .ref (ad 0)), (1, .int x1), (2, .int x2), (3, .int x3)]) hx hb dX8_fitsSeen_1 hl (by decide) rfl (fun ls hl => ?_)
  exact ih_3 _ _ _ _ _ _ _ _ h hP hS (lv_sub hl [1, 2, 3, 4, 0] rfl)

def J_X8_lateAmong_127 (N : Nat) (F : Int32 → Int32 → Int32 → Mem → Option (Int32 × Mem)) (x2 : Int32) (x3 : Int32) (x4 : Int32) (t2 : Int32) (t3 : Int32) (t4 : Int32) (m : Mem) : Option (Int32 × Mem) :=
  fl_bd (f_X0_settle 4 45 t2 t3 t4 m) (fun r20 m21 =>
    fl_li (x3 >>> ((1 : Int32) &&& 31)) (fun z23 =>
      F x2 z23 (x4 + 1) m21))
def J_X8_lateAmong_101 (N : Nat) (F : Int32 → Int32 → Int32 → Mem → Option (Int32 × Mem)) (x3 : Int32) (x4 : Int32) (x5 : Int32) (t0 : Int32) (t1 : Int32) (m : Mem) : Option (Int32 × Mem) :=
  fl_li (t0 + t1) (fun z17 =>
    if (x3 &&& (1 : Int32)) = (1 : Int32) then (
      J_X8_lateAmong_127 N F z17 x3 x4 x5 x4 (1 : Int32) m)
    else (
      J_X8_lateAmong_127 N F z17 x3 x4 x5 x4 (0 : Int32) m))
def B_X8_lateAmong_18 (N : Nat) (F : Int32 → Int32 → Int32 → Mem → Option (Int32 × Mem)) (x2 : Int32) (x3 : Int32) (x4 : Int32) (m : Mem) : Option (Int32 × Mem) :=
  if (m.1 4 3) ≤ x4 then (
    some (x2, m))
  else (
    fl_bd (f_X5_isTaken 45 x4 m) (fun r5 m6 =>
      if r5 = 0 then (
        fl_bd (f_X0_nearest N 4 45 x4 m6) (fun r9 m10 =>
          fl_bd (f_X0_reckon 4 45 r9 x4 m10) (fun r12 m13 =>
            fl_ck (0 ≤ x4.toInt ∧ x4.toInt < 7) (
              if (m13.1 13 1) ≤ (m13.1 12 (x4.toNatClampNeg)) then (
                J_X8_lateAmong_101 N F x3 x4 r9 x2 (0 : Int32) m13)
              else (
                J_X8_lateAmong_101 N F x3 x4 r9 x2 (1 : Int32) m13)))))
      else (
        F x2 x3 (x4 + 1) m6)))
def l_X8_lateAmong (N : Nat) : Nat → Int32 → Int32 → Int32 → Mem → Option (Int32 × Mem)
  | 0 => fun _ _ _ _ => none
  | n + 1 => fun x2 x3 x4 m => B_X8_lateAmong_18 N (l_X8_lateAmong N n) x2 x3 x4 m
def f_X8_lateAmong (N : Nat) (x1 : Int32) (m : Mem) : Option (Int32 × Mem) :=
  fl_bd (f_X5_copy 45 39 m) (fun r1 m2 =>
    (l_X8_lateAmong N N) (0 : Int32) x1 (0 : Int32) m2)
set_option maxHeartbeats 4000000 in
set_option maxRecDepth 100000 in
theorem c_X8_lateAmong (l : Launch) (D : va_G) (ca : Nat → ClassId) (ad : Nat → Nat) (hi : fl_inj L1 ad) (N : Nat) (x1 : Int32) (m : Mem) (v' : Int32) (M' : Mem) (h : f_X8_lateAmong N x1 m = some (v', M')) : fl_M l L1 D ca ad yX8_lateAmong cX8_lateAmong 6 (some .int) 4 [.ref (ad 0), .int x1] m (some (.int v')) M' := by
  unfold f_X8_lateAmong at h
  refine fl_ofW (by decide) hi (Nat.le_of_ble_eq_true rfl) ?_
  intro p e s mm args below meth c ls X hr hlk hP hl
  have hl : lv_has ls 6 [(0, .ref (ad 0)), (1, .int x1)] := hl
  have X : fl_X p s mm args c cX8_lateAmong 6 RX8 L1 D ca ad := X
  obtain ⟨hx, hb, hml, hown, hts, hE, -⟩ := id X
  have hS : va_S (fl_A L1 ad) s.heap s.heap [] := va_S.rf
  have js : ∀ n : Nat, ((∀ (x2 : Int32) (x3 : Int32) (x4 : Int32) (m : Mem) (H : Heap) (locs : List Loc) (ls : Array Slot), l_X8_lateAmong N n x2 x3 x4 m = some (v', M') → va_P D vwCl (fl_w L1 ca ad m) H → va_S (fl_A L1 ad) s.heap H locs → lv_has ls 6 [(0, .ref (ad 0)), (2, .int x2), (3, .int x3), (4, .int x4)] → W p l e (fl_rm 4) s mm args below meth c H locs 0 0 (MQ below (fl_Q L1 D ca ad (some (.int v')) M') args s 0 0 (fl_A L1 ad)) (F0 mm 18 ls []))) → (∀ (x2 : Int32) (x3 : Int32) (x4 : Int32) (t2 : Int32) (t3 : Int32) (t4 : Int32) (m : Mem) (H : Heap) (locs : List Loc) (ls : Array Slot), J_X8_lateAmong_127 N (l_X8_lateAmong N n) x2 x3 x4 t2 t3 t4 m = some (v', M') → va_P D vwCl (fl_w L1 ca ad m) H → va_S (fl_A L1 ad) s.heap H locs → lv_has ls 6 [(0, .ref (ad 0)), (2, .int x2), (3, .int x3), (4, .int x4)] → W p l e (fl_rm 4) s mm args below meth c H locs 0 0 (MQ below (fl_Q L1 D ca ad (some (.int v')) M') args s 0 0 (fl_A L1 ad)) (F0 mm 127 ls [.int t4, .int t3, .int t2, .ref (ad 45), .ref (ad 4)])) ∧ (∀ (x3 : Int32) (x4 : Int32) (x5 : Int32) (t0 : Int32) (t1 : Int32) (m : Mem) (H : Heap) (locs : List Loc) (ls : Array Slot), J_X8_lateAmong_101 N (l_X8_lateAmong N n) x3 x4 x5 t0 t1 m = some (v', M') → va_P D vwCl (fl_w L1 ca ad m) H → va_S (fl_A L1 ad) s.heap H locs → lv_has ls 6 [(0, .ref (ad 0)), (3, .int x3), (4, .int x4), (5, .int x5)] → W p l e (fl_rm 4) s mm args below meth c H locs 0 0 (MQ below (fl_Q L1 D ca ad (some (.int v')) M') args s 0 0 (fl_A L1 ad)) (F0 mm 101 ls [.int t1, .int t0])) := by
    intro n ih
    have ih_18 := ih
    have j_127 : ∀ (x2 : Int32) (x3 : Int32) (x4 : Int32) (t2 : Int32) (t3 : Int32) (t4 : Int32) (m : Mem) (H : Heap) (locs : List Loc) (ls : Array Slot), J_X8_lateAmong_127 N (l_X8_lateAmong N n) x2 x3 x4 t2 t3 t4 m = some (v', M') → va_P D vwCl (fl_w L1 ca ad m) H → va_S (fl_A L1 ad) s.heap H locs → lv_has ls 6 [(0, .ref (ad 0)), (2, .int x2), (3, .int x3), (4, .int x4)] → W p l e (fl_rm 4) s mm args below meth c H locs 0 0 (MQ below (fl_Q L1 D ca ad (some (.int v')) M') args s 0 0 (fl_A L1 ad)) (F0 mm 127 ls [.int t4, .int t3, .int t2, .ref (ad 45), .ref (ad 4)]) := by
      intro x2 x3 x4 t2 t3 t4 m H locs ls h hP hS hl
      unfold J_X8_lateAmong_127 at h
      obtain ⟨r20, m21, hz22, h⟩ := fl_bd_e h
      refine fl_callV (av := [.ref (ad 45), .int t2, .int t3, .int t4]) X hP hS hl.1 mv_X8_311 (c_X0_settle l D ca ad hi 4 ct_4 45 st_45 t2 t3 t4 m _ _ hz22) k1_4 (fl_fit_rm (by omega) (by decide)) rfl (Nat.le_of_ble_eq_true rfl) dX8_lateAmong_127 rfl (fun H locs hP hS => ?_)
      refine W.eq (g2 := F0 mm 130 ls []) rfl ?_
      refine lv_iload_n hx hb dX8_lateAmong_130 rfl (lv_at hl 2 rfl) ?_
      refine lv_iconst (v := (1 : Int32)) hx hb dX8_lateAmong_131 (by decide) ?_
      refine lv_ishr hx hb dX8_lateAmong_132 ?_
      obtain ⟨z23, ez24, h⟩ := fl_li_e h
      refine fl_topi ez24 ?_
      refine lv_istore_n (lv' := [(3, .int z23), (0, .ref (ad 0)), (2, .int x2), (4, .int x4)]) hx hb dX8_lateAmong_133 rfl hl (by decide) rfl (fun ls hl => ?_)
      refine lv_iinc (v := x4 + 1) (lv' := [(4, .int (x4 + 1)), (3, .int z23), (0, .ref (ad 0)), (2, .int x2)]) hx hb dX8_lateAmong_134 hl (k := 3) rfl rfl (by decide) rfl (fun ls hl => ?_)
      refine lv_goto (tgt := 18) hx hb dX8_lateAmong_137 (by decide) ?_
      exact ih_18 _ _ _ _ _ _ _ h hP hS (lv_sub hl [2, 3, 1, 0] rfl)
    have j_101 : ∀ (x3 : Int32) (x4 : Int32) (x5 : Int32) (t0 : Int32) (t1 : Int32) (m : Mem) (H : Heap) (locs : List Loc) (ls : Array Slot), J_X8_lateAmong_101 N (l_X8_lateAmong N n) x3 x4 x5 t0 t1 m = some (v', M') → va_P D vwCl (fl_w L1 ca ad m) H → va_S (fl_A L1 ad) s.heap H locs → lv_has ls 6 [(0, .ref (ad 0)), (3, .int x3), (4, .int x4), (5, .int x5)] → W p l e (fl_rm 4) s mm args below meth c H locs 0 0 (MQ below (fl_Q L1 D ca ad (some (.int v')) M') args s 0 0 (fl_A L1 ad)) (F0 mm 101 ls [.int t1, .int t0]) := by
      intro x3 x4 x5 t0 t1 m H locs ls h hP hS hl
      unfold J_X8_lateAmong_101 at h
      refine lv_iadd hx hb dX8_lateAmong_101 ?_
      obtain ⟨z17, ez18, h⟩ := fl_li_e h
      refine fl_topi ez18 ?_
      refine lv_istore_n (lv' := [(2, .int z17), (0, .ref (ad 0)), (3, .int x3), (4, .int x4), (5, .int x5)]) hx hb dX8_lateAmong_102 rfl hl (by decide) rfl (fun ls hl => ?_)
      refine lv_aload_n hx hb dX8_lateAmong_103 rfl (lv_at hl 1 rfl) ?_
      refine fl_getr X hP fk_X8_19 k1_0 rfl dX8_lateAmong_104 ?_
      refine lv_aload_n hx hb dX8_lateAmong_107 rfl (lv_at hl 1 rfl) ?_
      refine fl_getr X hP fk_X8_33 k1_0 rfl dX8_lateAmong_108 ?_
      refine lv_iload hx hb dX8_lateAmong_111 (lv_at hl 4 rfl) ?_
      refine lv_iload hx hb dX8_lateAmong_113 (lv_at hl 3 rfl) ?_
      refine lv_iload_n hx hb dX8_lateAmong_115 rfl (lv_at hl 2 rfl) ?_
      refine lv_iconst (v := (1 : Int32)) hx hb dX8_lateAmong_116 (by decide) ?_
      refine lv_iand hx hb dX8_lateAmong_117 ?_
      refine lv_iconst (v := (1 : Int32)) hx hb dX8_lateAmong_118 (by decide) ?_
      refine lv_icmp_ne (tgt := 126) hx hb dX8_lateAmong_119 (by decide) (fun c19 => ?_) (fun c19 => ?_)
      · replace h := fl_if_f h c19
        refine lv_iconst (v := (0 : Int32)) hx hb dX8_lateAmong_126 (by decide) ?_
        exact j_127 _ _ _ _ _ _ _ _ _ _ h hP hS (lv_sub hl [1, 0, 2, 3] rfl)
      · replace h := fl_if_t h c19
        refine lv_iconst (v := (1 : Int32)) hx hb dX8_lateAmong_122 (by decide) ?_
        refine lv_goto (tgt := 127) hx hb dX8_lateAmong_123 (by decide) ?_
        exact j_127 _ _ _ _ _ _ _ _ _ _ h hP hS (lv_sub hl [1, 0, 2, 3] rfl)
    exact ⟨j_127, j_101⟩
  have key : ∀ n : Nat, (∀ (x2 : Int32) (x3 : Int32) (x4 : Int32) (m : Mem) (H : Heap) (locs : List Loc) (ls : Array Slot), l_X8_lateAmong N n x2 x3 x4 m = some (v', M') → va_P D vwCl (fl_w L1 ca ad m) H → va_S (fl_A L1 ad) s.heap H locs → lv_has ls 6 [(0, .ref (ad 0)), (2, .int x2), (3, .int x3), (4, .int x4)] → W p l e (fl_rm 4) s mm args below meth c H locs 0 0 (MQ below (fl_Q L1 D ca ad (some (.int v')) M') args s 0 0 (fl_A L1 ad)) (F0 mm 18 ls [])) := by
    intro n
    induction n with
    | zero =>
      skip
      · intro x2 x3 x4 m H locs ls h hP hS hl
        have h : (none : Option (Int32 × Mem)) = some (v', M') := h
        cases h
    | succ n ih =>
      have ih_18 := ih
      obtain ⟨j_127, j_101⟩ := js n ih_18
      skip
      · intro x2 x3 x4 m H locs ls h hP hS hl
        have h : B_X8_lateAmong_18 N (l_X8_lateAmong N n) x2 x3 x4 m = some (v', M') := h
        unfold B_X8_lateAmong_18 at h
        refine lv_iload hx hb dX8_lateAmong_18 (lv_at hl 3 rfl) ?_
        refine lv_aload_n hx hb dX8_lateAmong_20 rfl (lv_at hl 0 rfl) ?_
        refine fl_getr X hP fk_X8_19 k1_0 rfl dX8_lateAmong_21 ?_
        refine fl_geti X hP fk_X8_106 k1_4 rfl dX8_lateAmong_24 ?_
        refine lv_icmp_ge (tgt := 140) hx hb dX8_lateAmong_27 (by decide) (fun c4 => ?_) (fun c4 => ?_)
        · replace h := fl_if_t h c4
          refine lv_iload_n hx hb dX8_lateAmong_140 rfl (lv_at hl 1 rfl) ?_
          exact fl_iret X hr hlk hP hS dX8_lateAmong_141 h
        · replace h := fl_if_f h c4
          refine lv_aload_n hx hb dX8_lateAmong_30 rfl (lv_at hl 0 rfl) ?_
          refine fl_getr X hP fk_X8_33 k1_0 rfl dX8_lateAmong_31 ?_
          refine lv_iload hx hb dX8_lateAmong_34 (lv_at hl 3 rfl) ?_
          obtain ⟨r5, m6, hz7, h⟩ := fl_bd_e h
          refine fl_callV (av := [.int x4]) X hP hS hl.1 mv_X8_154 (c_X5_isTaken l D ca ad hi 45 st_45 x4 m _ _ hz7) k1_45 (fl_fit_rm (by omega) (by decide)) rfl (Nat.le_of_ble_eq_true rfl) dX8_lateAmong_36 rfl (fun H locs hP hS => ?_)
          refine W.eq (g2 := F0 mm 39 ls [.int r5]) rfl ?_
          refine lv_if_ne (tgt := 134) hx hb dX8_lateAmong_39 (by decide) (fun c8 => ?_) (fun c8 => ?_)
          · replace h := fl_if_f h c8
            refine lv_iinc (v := x4 + 1) (lv' := [(4, .int (x4 + 1)), (0, .ref (ad 0)), (2, .int x2), (3, .int x3)]) hx hb dX8_lateAmong_134 hl (k := 3) rfl rfl (by decide) rfl (fun ls hl => ?_)
            refine lv_goto (tgt := 18) hx hb dX8_lateAmong_137 (by decide) ?_
            exact ih_18 _ _ _ _ _ _ _ h hP hS (lv_sub hl [1, 2, 3, 0] rfl)
          · replace h := fl_if_t h c8
            refine lv_aload_n hx hb dX8_lateAmong_42 rfl (lv_at hl 0 rfl) ?_
            refine fl_getr X hP fk_X8_19 k1_0 rfl dX8_lateAmong_43 ?_
            refine lv_aload_n hx hb dX8_lateAmong_46 rfl (lv_at hl 0 rfl) ?_
            refine fl_getr X hP fk_X8_33 k1_0 rfl dX8_lateAmong_47 ?_
            refine lv_iload hx hb dX8_lateAmong_50 (lv_at hl 3 rfl) ?_
            obtain ⟨r9, m10, hz11, h⟩ := fl_bd_e h
            refine fl_callV (av := [.ref (ad 45), .int x4]) X hP hS hl.1 mv_X8_205 (c_X0_nearest l D ca ad hi N 4 ct_4 45 st_45 x4 m6 _ _ hz11) k1_4 (fl_fit_rm (by omega) (by decide)) rfl (Nat.le_of_ble_eq_true rfl) dX8_lateAmong_52 rfl (fun H locs hP hS => ?_)
            refine W.eq (g2 := F0 mm 55 ls [.int r9]) rfl ?_
            refine lv_istore (lv' := [(5, .int r9), (0, .ref (ad 0)), (2, .int x2), (3, .int x3), (4, .int x4)]) hx hb dX8_lateAmong_55 hl (by decide) rfl (fun ls hl => ?_)
            refine lv_aload_n hx hb dX8_lateAmong_57 rfl (lv_at hl 1 rfl) ?_
            refine fl_getr X hP fk_X8_19 k1_0 rfl dX8_lateAmong_58 ?_
            refine lv_aload_n hx hb dX8_lateAmong_61 rfl (lv_at hl 1 rfl) ?_
            refine fl_getr X hP fk_X8_33 k1_0 rfl dX8_lateAmong_62 ?_
            refine lv_iload hx hb dX8_lateAmong_65 (lv_at hl 0 rfl) ?_
            refine lv_iload hx hb dX8_lateAmong_67 (lv_at hl 4 rfl) ?_
            obtain ⟨r12, m13, hz14, h⟩ := fl_bd_e h
            refine fl_callV (av := [.ref (ad 45), .int r9, .int x4]) X hP hS hl.1 mv_X8_185 (c_X0_reckon l D ca ad hi 4 ct_4 45 st_45 r9 x4 m10 _ _ hz14) k1_4 (fl_fit_rm (by omega) (by decide)) rfl (Nat.le_of_ble_eq_true rfl) dX8_lateAmong_69 rfl (fun H locs hP hS => ?_)
            refine W.eq (g2 := F0 mm 72 ls []) rfl ?_
            refine lv_iload_n hx hb dX8_lateAmong_72 rfl (lv_at hl 2 rfl) ?_
            refine lv_aload_n hx hb dX8_lateAmong_73 rfl (lv_at hl 1 rfl) ?_
            refine fl_getr X hP fk_X8_19 k1_0 rfl dX8_lateAmong_74 ?_
            refine fl_getr X hP fk_X8_188 k1_4 rfl dX8_lateAmong_77 ?_
            refine fl_geti X hP fk_X8_196 k1_13 rfl dX8_lateAmong_80 ?_
            refine lv_aload_n hx hb dX8_lateAmong_83 rfl (lv_at hl 1 rfl) ?_
            refine fl_getr X hP fk_X8_19 k1_0 rfl dX8_lateAmong_84 ?_
            refine fl_getr X hP fk_X8_151 k1_4 rfl dX8_lateAmong_87 ?_
            refine lv_iload hx hb dX8_lateAmong_90 (lv_at hl 4 rfl) ?_
            obtain ⟨hk15, h⟩ := fl_ck_e h
            refine fl_iald X hP k1_12 hk15 dX8_lateAmong_92 ?_
            refine lv_icmp_le (tgt := 100) hx hb dX8_lateAmong_93 (by decide) (fun c16 => ?_) (fun c16 => ?_)
            · replace h := fl_if_t h c16
              refine lv_iconst (v := (0 : Int32)) hx hb dX8_lateAmong_100 (by decide) ?_
              exact j_101 _ _ _ _ _ _ _ _ _ h hP hS (lv_sub hl [1, 3, 4, 0] rfl)
            · replace h := fl_if_f h c16
              refine lv_iconst (v := (1 : Int32)) hx hb dX8_lateAmong_96 (by decide) ?_
              refine lv_goto (tgt := 101) hx hb dX8_lateAmong_97 (by decide) ?_
              exact j_101 _ _ _ _ _ _ _ _ _ h hP hS (lv_sub hl [1, 3, 4, 0] rfl)
  have ih_18 := key N
  obtain ⟨j_127, j_101⟩ := js N ih_18
  refine lv_aload_n hx hb dX8_lateAmong_0 rfl (lv_at hl 0 rfl) ?_
  refine fl_getr X hP fk_X8_33 k1_0 rfl dX8_lateAmong_1 ?_
  refine lv_aload_n hx hb dX8_lateAmong_4 rfl (lv_at hl 0 rfl) ?_
  refine fl_getr X hP fk_X8_29 k1_0 rfl dX8_lateAmong_5 ?_
  obtain ⟨r1, m2, hz3, h⟩ := fl_bd_e h
  refine fl_callV (av := [.ref (ad 39)]) X hP hS hl.1 mv_X8_223 (c_X5_copy l D ca ad hi 45 st_45 39 st_39 m _ _ hz3) k1_45 (fl_fit_rm (by omega) (by decide)) rfl (Nat.le_of_ble_eq_true rfl) dX8_lateAmong_8 rfl (fun H locs hP hS => ?_)
  refine W.eq (g2 := F0 mm 11 ls []) rfl ?_
  refine lv_iconst (v := (0 : Int32)) hx hb dX8_lateAmong_11 (by decide) ?_
  refine lv_istore_n (lv' := [(2, .int (0 : Int32)), (0, .ref (ad 0)), (1, .int x1)]) hx hb dX8_lateAmong_12 rfl hl (by decide) rfl (fun ls hl => ?_)
  refine lv_iload_n hx hb dX8_lateAmong_13 rfl (lv_at hl 2 rfl) ?_
  refine lv_istore_n (lv' := [(3, .int x1), (2, .int (0 : Int32)), (0, .ref (ad 0)), (1, .int x1)]) hx hb dX8_lateAmong_14 rfl hl (by decide) rfl (fun ls hl => ?_)
  refine lv_iconst (v := (0 : Int32)) hx hb dX8_lateAmong_15 (by decide) ?_
  refine lv_istore (lv' := [(4, .int (0 : Int32)), (3, .int x1), (2, .int (0 : Int32)), (0, .ref (ad 0)), (1, .int x1)]) hx hb dX8_lateAmong_16 hl (by decide) rfl (fun ls hl => ?_)
  exact ih_18 _ _ _ _ _ _ _ h hP hS (lv_sub hl [3, 2, 1, 0] rfl)

def f_X8_drawn (x0 : Int32) (x1 : Int32) (m : Mem) : Option (Int32 × Mem) :=
  fl_ll ((((7919 : Int64) * x0.toInt64) + ((6151 : Int64) * x1.toInt64)) + (1 : Int64)) (fun z1 =>
    some ((fl_remL (z1 * z1) (65521 : Int64)).toInt32, m))
set_option maxHeartbeats 4000000 in
set_option maxRecDepth 100000 in
theorem c_X8_drawn (l : Launch) (D : va_G) (ca : Nat → ClassId) (ad : Nat → Nat) (hi : fl_inj L1 ad) (x0 : Int32) (x1 : Int32) (m : Mem) (v' : Int32) (M' : Mem) (h : f_X8_drawn x0 x1 m = some (v', M')) : fl_M l L1 D ca ad yX8_drawn cX8_drawn 4 (some .int) 1 [.int x0, .int x1] m (some (.int v')) M' := by
  unfold f_X8_drawn at h
  refine fl_ofW (by decide) hi (Nat.le_of_ble_eq_true rfl) ?_
  intro p e s mm args below meth c ls X hr hlk hP hl
  have hl : lv_has ls 4 [(0, .int x0), (1, .int x1)] := hl
  have X : fl_X p s mm args c cX8_drawn 4 RX8 L1 D ca ad := X
  obtain ⟨hx, hb, hml, hown, hts, hE, -⟩ := id X
  have hS : va_S (fl_A L1 ad) s.heap s.heap [] := va_S.rf
  refine lv_ldc2 (v := (7919 : Int64)) hx hb hown (hts _ wq_709) dX8_drawn_0 ?_
  refine lv_iload_n hx hb dX8_drawn_3 rfl (lv_at hl 0 rfl) ?_
  refine lv_i2l (v := x0.toInt64) hx hb dX8_drawn_4 rfl ?_
  refine lv_lmul hx hb dX8_drawn_5 ?_
  refine lv_ldc2 (v := (6151 : Int64)) hx hb hown (hts _ wq_710) dX8_drawn_6 ?_
  refine lv_iload_n hx hb dX8_drawn_9 rfl (lv_at hl 1 rfl) ?_
  refine lv_i2l (v := x1.toInt64) hx hb dX8_drawn_10 rfl ?_
  refine lv_lmul hx hb dX8_drawn_11 ?_
  refine lv_ladd hx hb dX8_drawn_12 ?_
  refine lv_lconst (v := (1 : Int64)) hx hb dX8_drawn_13 (by decide) ?_
  refine lv_ladd hx hb dX8_drawn_14 ?_
  obtain ⟨z1, ez2, h⟩ := fl_ll_e h
  refine fl_topl ez2 ?_
  refine lv_lstore_n (lv' := [(2, .long z1), (0, .int x0), (1, .int x1)]) hx hb dX8_drawn_15 rfl hl (by decide) rfl (fun ls hl => ?_)
  refine lv_lload_n hx hb dX8_drawn_16 rfl (lv_at hl 0 rfl) ?_
  refine lv_lload_n hx hb dX8_drawn_17 rfl (lv_at hl 0 rfl) ?_
  refine lv_lmul hx hb dX8_drawn_18 ?_
  refine lv_ldc2 (v := (65521 : Int64)) hx hb hown (hts _ wq_711) dX8_drawn_19 ?_
  refine lv_lrem hx hb dX8_drawn_22 (by decide) ?_
  refine lv_l2i (v := (fl_remL (z1 * z1) (65521 : Int64)).toInt32) hx hb dX8_drawn_23 rfl ?_
  exact fl_iret X hr hlk hP hS dX8_drawn_24 h

def B_X8_power_4 (N : Nat) (F : Int32 → Int32 → Int32 → Int32 → Mem → Option (Int32 × Mem)) (x0 : Int32) (x1 : Int32) (x2 : Int32) (x3 : Int32) (m : Mem) : Option (Int32 × Mem) :=
  if x1 ≤ x3 then (
    some (x2, m))
  else (
    fl_li (x2 * x0) (fun z2 =>
      F x0 x1 z2 (x3 + 1) m))
def l_X8_power (N : Nat) : Nat → Int32 → Int32 → Int32 → Int32 → Mem → Option (Int32 × Mem)
  | 0 => fun _ _ _ _ _ => none
  | n + 1 => fun x0 x1 x2 x3 m => B_X8_power_4 N (l_X8_power N n) x0 x1 x2 x3 m
def f_X8_power (N : Nat) (x0 : Int32) (x1 : Int32) (m : Mem) : Option (Int32 × Mem) :=
  (l_X8_power N N) x0 x1 (1 : Int32) (0 : Int32) m
set_option maxHeartbeats 4000000 in
set_option maxRecDepth 100000 in
theorem c_X8_power (l : Launch) (D : va_G) (ca : Nat → ClassId) (ad : Nat → Nat) (hi : fl_inj L1 ad) (N : Nat) (x0 : Int32) (x1 : Int32) (m : Mem) (v' : Int32) (M' : Mem) (h : f_X8_power N x0 x1 m = some (v', M')) : fl_M l L1 D ca ad yX8_power cX8_power 4 (some .int) 1 [.int x0, .int x1] m (some (.int v')) M' := by
  unfold f_X8_power at h
  refine fl_ofW (by decide) hi (Nat.le_of_ble_eq_true rfl) ?_
  intro p e s mm args below meth c ls X hr hlk hP hl
  have hl : lv_has ls 4 [(0, .int x0), (1, .int x1)] := hl
  have X : fl_X p s mm args c cX8_power 4 RX8 L1 D ca ad := X
  obtain ⟨hx, hb, hml, hown, hts, hE, -⟩ := id X
  have hS : va_S (fl_A L1 ad) s.heap s.heap [] := va_S.rf
  have key : ∀ n : Nat, (∀ (x0 : Int32) (x1 : Int32) (x2 : Int32) (x3 : Int32) (m : Mem) (H : Heap) (locs : List Loc) (ls : Array Slot), l_X8_power N n x0 x1 x2 x3 m = some (v', M') → va_P D vwCl (fl_w L1 ca ad m) H → va_S (fl_A L1 ad) s.heap H locs → lv_has ls 4 [(0, .int x0), (1, .int x1), (2, .int x2), (3, .int x3)] → W p l e (fl_rm 1) s mm args below meth c H locs 0 0 (MQ below (fl_Q L1 D ca ad (some (.int v')) M') args s 0 0 (fl_A L1 ad)) (F0 mm 4 ls [])) := by
    intro n
    induction n with
    | zero =>
      skip
      · intro x0 x1 x2 x3 m H locs ls h hP hS hl
        have h : (none : Option (Int32 × Mem)) = some (v', M') := h
        cases h
    | succ n ih =>
      have ih_4 := ih
      skip
      · intro x0 x1 x2 x3 m H locs ls h hP hS hl
        have h : B_X8_power_4 N (l_X8_power N n) x0 x1 x2 x3 m = some (v', M') := h
        unfold B_X8_power_4 at h
        refine lv_iload_n hx hb dX8_power_4 rfl (lv_at hl 3 rfl) ?_
        refine lv_iload_n hx hb dX8_power_5 rfl (lv_at hl 1 rfl) ?_
        refine lv_icmp_ge (tgt := 19) hx hb dX8_power_6 (by decide) (fun c1 => ?_) (fun c1 => ?_)
        · replace h := fl_if_t h c1
          refine lv_iload_n hx hb dX8_power_19 rfl (lv_at hl 2 rfl) ?_
          exact fl_iret X hr hlk hP hS dX8_power_20 h
        · replace h := fl_if_f h c1
          refine lv_iload_n hx hb dX8_power_9 rfl (lv_at hl 2 rfl) ?_
          refine lv_iload_n hx hb dX8_power_10 rfl (lv_at hl 0 rfl) ?_
          refine lv_imul hx hb dX8_power_11 ?_
          obtain ⟨z2, ez3, h⟩ := fl_li_e h
          refine fl_topi ez3 ?_
          refine lv_istore_n (lv' := [(2, .int z2), (0, .int x0), (1, .int x1), (3, .int x3)]) hx hb dX8_power_12 rfl hl (by decide) rfl (fun ls hl => ?_)
          refine lv_iinc (v := x3 + 1) (lv' := [(3, .int (x3 + 1)), (2, .int z2), (0, .int x0), (1, .int x1)]) hx hb dX8_power_13 hl (k := 3) rfl rfl (by decide) rfl (fun ls hl => ?_)
          refine lv_goto (tgt := 4) hx hb dX8_power_16 (by decide) ?_
          exact ih_4 _ _ _ _ _ _ _ _ h hP hS (lv_sub hl [2, 3, 1, 0] rfl)
  have ih_4 := key N
  refine lv_iconst (v := (1 : Int32)) hx hb dX8_power_0 (by decide) ?_
  refine lv_istore_n (lv' := [(2, .int (1 : Int32)), (0, .int x0), (1, .int x1)]) hx hb dX8_power_1 rfl hl (by decide) rfl (fun ls hl => ?_)
  refine lv_iconst (v := (0 : Int32)) hx hb dX8_power_2 (by decide) ?_
  refine lv_istore_n (lv' := [(3, .int (0 : Int32)), (2, .int (1 : Int32)), (0, .int x0), (1, .int x1)]) hx hb dX8_power_3 rfl hl (by decide) rfl (fun ls hl => ?_)
  exact ih_4 _ _ _ _ _ _ _ _ h hP hS (lv_sub hl [2, 3, 1, 0] rfl)

def B_X8_commonDivisor_7 (N : Nat) (F : Int32 → Int32 → Int32 → Mem → Option (Int32 × Mem)) (x2 : Int32) (x3 : Int32) (x4 : Int32) (m : Mem) : Option (Int32 × Mem) :=
  if (64 : Int32) ≤ x4 then (
    some (x2, m))
  else (
    if x3 = 0 then (
      some (x2, m))
    else (
      fl_ck (¬ x3 = 0) (
        fl_li (fl_rem x2 x3) (fun z4 =>
          F x3 z4 (x4 + 1) m))))
def l_X8_commonDivisor (N : Nat) : Nat → Int32 → Int32 → Int32 → Mem → Option (Int32 × Mem)
  | 0 => fun _ _ _ _ => none
  | n + 1 => fun x2 x3 x4 m => B_X8_commonDivisor_7 N (l_X8_commonDivisor N n) x2 x3 x4 m
def f_X8_commonDivisor (N : Nat) (x0 : Int32) (x1 : Int32) (m : Mem) : Option (Int32 × Mem) :=
  (l_X8_commonDivisor N N) x0 x1 (0 : Int32) m
set_option maxHeartbeats 4000000 in
set_option maxRecDepth 100000 in
theorem c_X8_commonDivisor (l : Launch) (D : va_G) (ca : Nat → ClassId) (ad : Nat → Nat) (hi : fl_inj L1 ad) (N : Nat) (x0 : Int32) (x1 : Int32) (m : Mem) (v' : Int32) (M' : Mem) (h : f_X8_commonDivisor N x0 x1 m = some (v', M')) : fl_M l L1 D ca ad yX8_commonDivisor cX8_commonDivisor 6 (some .int) 1 [.int x0, .int x1] m (some (.int v')) M' := by
  unfold f_X8_commonDivisor at h
  refine fl_ofW (by decide) hi (Nat.le_of_ble_eq_true rfl) ?_
  intro p e s mm args below meth c ls X hr hlk hP hl
  have hl : lv_has ls 6 [(0, .int x0), (1, .int x1)] := hl
  have X : fl_X p s mm args c cX8_commonDivisor 6 RX8 L1 D ca ad := X
  obtain ⟨hx, hb, hml, hown, hts, hE, -⟩ := id X
  have hS : va_S (fl_A L1 ad) s.heap s.heap [] := va_S.rf
  have key : ∀ n : Nat, (∀ (x2 : Int32) (x3 : Int32) (x4 : Int32) (m : Mem) (H : Heap) (locs : List Loc) (ls : Array Slot), l_X8_commonDivisor N n x2 x3 x4 m = some (v', M') → va_P D vwCl (fl_w L1 ca ad m) H → va_S (fl_A L1 ad) s.heap H locs → lv_has ls 6 [(2, .int x2), (3, .int x3), (4, .int x4)] → W p l e (fl_rm 1) s mm args below meth c H locs 0 0 (MQ below (fl_Q L1 D ca ad (some (.int v')) M') args s 0 0 (fl_A L1 ad)) (F0 mm 7 ls [])) := by
    intro n
    induction n with
    | zero =>
      skip
      · intro x2 x3 x4 m H locs ls h hP hS hl
        have h : (none : Option (Int32 × Mem)) = some (v', M') := h
        cases h
    | succ n ih =>
      have ih_7 := ih
      skip
      · intro x2 x3 x4 m H locs ls h hP hS hl
        have h : B_X8_commonDivisor_7 N (l_X8_commonDivisor N n) x2 x3 x4 m = some (v', M') := h
        unfold B_X8_commonDivisor_7 at h
        refine lv_iload hx hb dX8_commonDivisor_7 (lv_at hl 2 rfl) ?_
        refine lv_bipush (v := (64 : Int32)) hx hb dX8_commonDivisor_9 (by decide) ?_
        refine lv_icmp_ge (tgt := 34) hx hb dX8_commonDivisor_11 (by decide) (fun c1 => ?_) (fun c1 => ?_)
        · replace h := fl_if_t h c1
          refine lv_iload_n hx hb dX8_commonDivisor_34 rfl (lv_at hl 0 rfl) ?_
          exact fl_iret X hr hlk hP hS dX8_commonDivisor_35 h
        · replace h := fl_if_f h c1
          refine lv_iload_n hx hb dX8_commonDivisor_14 rfl (lv_at hl 1 rfl) ?_
          refine lv_if_eq (tgt := 34) hx hb dX8_commonDivisor_15 (by decide) (fun c2 => ?_) (fun c2 => ?_)
          · replace h := fl_if_t h c2
            refine lv_iload_n hx hb dX8_commonDivisor_34 rfl (lv_at hl 0 rfl) ?_
            exact fl_iret X hr hlk hP hS dX8_commonDivisor_35 h
          · replace h := fl_if_f h c2
            refine lv_iload_n hx hb dX8_commonDivisor_18 rfl (lv_at hl 0 rfl) ?_
            refine lv_iload_n hx hb dX8_commonDivisor_19 rfl (lv_at hl 1 rfl) ?_
            obtain ⟨hk3, h⟩ := fl_ck_e h
            refine lv_irem hx hb dX8_commonDivisor_20 hk3 ?_
            obtain ⟨z4, ez5, h⟩ := fl_li_e h
            refine fl_topi ez5 ?_
            refine lv_istore (lv' := [(5, .int z4), (2, .int x2), (3, .int x3), (4, .int x4)]) hx hb dX8_commonDivisor_21 hl (by decide) rfl (fun ls hl => ?_)
            refine lv_iload_n hx hb dX8_commonDivisor_23 rfl (lv_at hl 2 rfl) ?_
            refine lv_istore_n (lv' := [(2, .int x3), (5, .int z4), (3, .int x3), (4, .int x4)]) hx hb dX8_commonDivisor_24 rfl hl (by decide) rfl (fun ls hl => ?_)
            refine lv_iload hx hb dX8_commonDivisor_25 (lv_at hl 1 rfl) ?_
            refine lv_istore_n (lv' := [(3, .int z4), (2, .int x3), (5, .int z4), (4, .int x4)]) hx hb dX8_commonDivisor_27 rfl hl (by decide) rfl (fun ls hl => ?_)
            refine lv_iinc (v := x4 + 1) (lv' := [(4, .int (x4 + 1)), (3, .int z4), (2, .int x3), (5, .int z4)]) hx hb dX8_commonDivisor_28 hl (k := 3) rfl rfl (by decide) rfl (fun ls hl => ?_)
            refine lv_goto (tgt := 7) hx hb dX8_commonDivisor_31 (by decide) ?_
            exact ih_7 _ _ _ _ _ _ _ h hP hS (lv_sub hl [2, 1, 0] rfl)
  have ih_7 := key N
  refine lv_iload_n hx hb dX8_commonDivisor_0 rfl (lv_at hl 0 rfl) ?_
  refine lv_istore_n (lv' := [(2, .int x0), (0, .int x0), (1, .int x1)]) hx hb dX8_commonDivisor_1 rfl hl (by decide) rfl (fun ls hl => ?_)
  refine lv_iload_n hx hb dX8_commonDivisor_2 rfl (lv_at hl 2 rfl) ?_
  refine lv_istore_n (lv' := [(3, .int x1), (2, .int x0), (0, .int x0), (1, .int x1)]) hx hb dX8_commonDivisor_3 rfl hl (by decide) rfl (fun ls hl => ?_)
  refine lv_iconst (v := (0 : Int32)) hx hb dX8_commonDivisor_4 (by decide) ?_
  refine lv_istore (lv' := [(4, .int (0 : Int32)), (3, .int x1), (2, .int x0), (0, .int x0), (1, .int x1)]) hx hb dX8_commonDivisor_5 hl (by decide) rfl (fun ls hl => ?_)
  exact ih_7 _ _ _ _ _ _ _ h hP hS (lv_sub hl [2, 1, 0] rfl)
