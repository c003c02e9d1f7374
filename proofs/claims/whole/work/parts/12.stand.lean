def B_X5_dawn_27 (N : Nat) (K0 : Nat) (F : Nat → Int32 → Mem → Option (Int32 × Mem)) (x1 : Int32) (m : Mem) : Option (Int32 × Mem) :=
  if (7 : Int32) ≤ x1 then (
    some ((0 : Int32), m))
  else (
    fl_ck (0 ≤ x1.toInt ∧ x1.toInt < 7) (
      fl_lm (mI m (K0 + 4) (x1.toNatClampNeg) (-4 : Int32)) (fun m9 =>
        fl_ck (0 ≤ x1.toInt ∧ x1.toInt < 7) (
          fl_lm (mI m9 (K0 + 5) (x1.toNatClampNeg) (0 : Int32)) (fun m12 =>
            F 2 (x1 + 1) m12)))))
def B_X5_dawn_7 (N : Nat) (K0 : Nat) (F : Nat → Int32 → Mem → Option (Int32 × Mem)) (x1 : Int32) (m : Mem) : Option (Int32 × Mem) :=
  if (3 : Int32) ≤ x1 then (
    F 2 (0 : Int32) m)
  else (
    fl_ck (0 ≤ x1.toInt ∧ x1.toInt < 3) (
      fl_lm (mI m (K0 + 2) (x1.toNatClampNeg) (0 : Int32)) (fun m5 =>
        F 1 (x1 + 1) m5)))
def l_X5_dawn (N : Nat) (K0 : Nat) : Nat → Nat → Int32 → Mem → Option (Int32 × Mem)
  | 0 => fun _ _ _ => none
  | n + 1 => fun lab x1 m => if lab = 1 then B_X5_dawn_7 N K0 (l_X5_dawn N K0 n) x1 m else if lab = 2 then B_X5_dawn_27 N K0 (l_X5_dawn N K0 n) x1 m else none
def f_X5_dawn (N : Nat) (K0 : Nat) (m : Mem) : Option (Int32 × Mem) :=
  fl_lm (mI m K0 0 (0 : Int32)) (fun m1 =>
    (l_X5_dawn N K0 N) 1 (0 : Int32) m1)
set_option maxHeartbeats 4000000 in
set_option maxRecDepth 100000 in
theorem c_X5_dawn (l : Launch) (D : va_G) (ca : Nat → ClassId) (ad : Nat → Nat) (hi : fl_inj L1 ad) (N : Nat) (K0 : Nat) (hK0 : isStand K0) (m : Mem) (v' : Int32) (M' : Mem) (h : f_X5_dawn N K0 m = some (v', M')) : fl_M l L1 D ca ad yX5_dawn cX5_dawn 2 none 1 [.ref (ad K0)] m none M' := by
  unfold f_X5_dawn at h
  refine fl_ofW (by decide) hi (Nat.le_of_ble_eq_true rfl) ?_
  intro p e s mm args below meth c ls X hr hlk hP hl
  have hl : lv_has ls 2 [(0, .ref (ad K0))] := hl
  have X : fl_X p s mm args c cX5_dawn 2 RX5 L1 D ca ad := X
  obtain ⟨hx, hb, hml, hown, hts, hE, -⟩ := id X
  have hS : va_S (fl_A L1 ad) s.heap s.heap [] := va_S.rf
  have key : ∀ n : Nat, (∀ (x1 : Int32) (m : Mem) (H : Heap) (locs : List Loc) (ls : Array Slot), l_X5_dawn N K0 n 1 x1 m = some (v', M') → va_P D vwCl (fl_w L1 ca ad m) H → va_S (fl_A L1 ad) s.heap H locs → lv_has ls 2 [(0, .ref (ad K0)), (1, .int x1)] → W p l e (fl_rm 1) s mm args below meth c H locs 0 0 (MQ below (fl_Q L1 D ca ad none M') args s 0 0 (fl_A L1 ad)) (F0 mm 7 ls [])) ∧ (∀ (x1 : Int32) (m : Mem) (H : Heap) (locs : List Loc) (ls : Array Slot), l_X5_dawn N K0 n 2 x1 m = some (v', M') → va_P D vwCl (fl_w L1 ca ad m) H → va_S (fl_A L1 ad) s.heap H locs → lv_has ls 2 [(0, .ref (ad K0)), (1, .int x1)] → W p l e (fl_rm 1) s mm args below meth c H locs 0 0 (MQ below (fl_Q L1 D ca ad none M') args s 0 0 (fl_A L1 ad)) (F0 mm 27 ls [])) := by
    intro n
    induction n with
    | zero =>
      refine ⟨?_, ?_⟩
      · intro x1 m H locs ls h hP hS hl
        have h : (none : Option (Int32 × Mem)) = some (v', M') := h
        cases h
      · intro x1 m H locs ls h hP hS hl
        have h : (none : Option (Int32 × Mem)) = some (v', M') := h
        cases h
    | succ n ih =>
      obtain ⟨ih_7, ih_27⟩ := ih
      refine ⟨?_, ?_⟩
      · intro x1 m H locs ls h hP hS hl
        have h : B_X5_dawn_7 N K0 (l_X5_dawn N K0 n) x1 m = some (v', M') := h
        unfold B_X5_dawn_7 at h
        refine lv_iload_n hx hb dX5_dawn_7 rfl (lv_at hl 1 rfl) ?_
        refine lv_iconst (v := (3 : Int32)) hx hb dX5_dawn_8 (by decide) ?_
        refine lv_icmp_ge (tgt := 25) hx hb dX5_dawn_9 (by decide) (fun c3 => ?_) (fun c3 => ?_)
        · replace h := fl_if_t h c3
          refine lv_iconst (v := (0 : Int32)) hx hb dX5_dawn_25 (by decide) ?_
          refine lv_istore_n (lv' := [(1, .int (0 : Int32)), (0, .ref (ad K0))]) hx hb dX5_dawn_26 rfl hl (by decide) rfl (fun ls hl => ?_)
          exact ih_27 _ _ _ _ _ h hP hS (lv_sub hl [1, 0] rfl)
        · replace h := fl_if_f h c3
          refine lv_aload_n hx hb dX5_dawn_12 rfl (lv_at hl 0 rfl) ?_
          refine fl_getr X hP fk_X5_15 hK0.1 rfl dX5_dawn_13 ?_
          refine lv_iload_n hx hb dX5_dawn_16 rfl (lv_at hl 1 rfl) ?_
          refine lv_iconst (v := (0 : Int32)) hx hb dX5_dawn_17 (by decide) ?_
          obtain ⟨hk4, h⟩ := fl_ck_e h
          obtain ⟨m5, em6, h⟩ := fl_lm_e h
          refine fl_iast X hP hS hK0.2.2.1 hk4 dX5_dawn_18 (fun H locs hP hS => ?_)
          have hP : va_P D vwCl (fl_w L1 ca ad m5) H := by rw [em6]; exact hP
          refine lv_iinc (v := x1 + 1) (lv' := [(1, .int (x1 + 1)), (0, .ref (ad K0))]) hx hb dX5_dawn_19 hl (k := 1) rfl rfl (by decide) rfl (fun ls hl => ?_)
          refine lv_goto (tgt := 7) hx hb dX5_dawn_22 (by decide) ?_
          exact ih_7 _ _ _ _ _ h hP hS (lv_sub hl [1, 0] rfl)
      · intro x1 m H locs ls h hP hS hl
        have h : B_X5_dawn_27 N K0 (l_X5_dawn N K0 n) x1 m = some (v', M') := h
        unfold B_X5_dawn_27 at h
        refine lv_iload_n hx hb dX5_dawn_27 rfl (lv_at hl 1 rfl) ?_
        refine lv_bipush (v := (7 : Int32)) hx hb dX5_dawn_28 (by decide) ?_
        refine lv_icmp_ge (tgt := 54) hx hb dX5_dawn_30 (by decide) (fun c7 => ?_) (fun c7 => ?_)
        · replace h := fl_if_t h c7
          exact fl_vret X hr hlk hP hS dX5_dawn_54 h
        · replace h := fl_if_f h c7
          refine lv_aload_n hx hb dX5_dawn_33 rfl (lv_at hl 0 rfl) ?_
          refine fl_getr X hP fk_X5_21 hK0.1 rfl dX5_dawn_34 ?_
          refine lv_iload_n hx hb dX5_dawn_37 rfl (lv_at hl 1 rfl) ?_
          refine lv_bipush (v := (-4 : Int32)) hx hb dX5_dawn_38 (by decide) ?_
          obtain ⟨hk8, h⟩ := fl_ck_e h
          obtain ⟨m9, em10, h⟩ := fl_lm_e h
          refine fl_iast X hP hS hK0.2.2.2.2.1 hk8 dX5_dawn_40 (fun H locs hP hS => ?_)
          have hP : va_P D vwCl (fl_w L1 ca ad m9) H := by rw [em10]; exact hP
          refine lv_aload_n hx hb dX5_dawn_41 rfl (lv_at hl 0 rfl) ?_
          refine fl_getr X hP fk_X5_24 hK0.1 rfl dX5_dawn_42 ?_
          refine lv_iload_n hx hb dX5_dawn_45 rfl (lv_at hl 1 rfl) ?_
          refine lv_iconst (v := (0 : Int32)) hx hb dX5_dawn_46 (by decide) ?_
          obtain ⟨hk11, h⟩ := fl_ck_e h
          obtain ⟨m12, em13, h⟩ := fl_lm_e h
          refine fl_iast X hP hS hK0.2.2.2.2.2 hk11 dX5_dawn_47 (fun H locs hP hS => ?_)
          have hP : va_P D vwCl (fl_w L1 ca ad m12) H := by rw [em13]; exact hP
          refine lv_iinc (v := x1 + 1) (lv' := [(1, .int (x1 + 1)), (0, .ref (ad K0))]) hx hb dX5_dawn_48 hl (k := 1) rfl rfl (by decide) rfl (fun ls hl => ?_)
          refine lv_goto (tgt := 27) hx hb dX5_dawn_51 (by decide) ?_
          exact ih_27 _ _ _ _ _ h hP hS (lv_sub hl [1, 0] rfl)
  obtain ⟨ih_7, ih_27⟩ := key N
  refine lv_aload_n hx hb dX5_dawn_0 rfl (lv_at hl 0 rfl) ?_
  refine lv_iconst (v := (0 : Int32)) hx hb dX5_dawn_1 (by decide) ?_
  obtain ⟨m1, em2, h⟩ := fl_lm_e h
  refine fl_puti X hP hS pk_X5_44 hK0.1 rfl rfl rfl dX5_dawn_2 (fun H locs hP hS => ?_)
  have hP : va_P D vwCl (fl_w L1 ca ad m1) H := by rw [em2]; exact hP
  refine lv_iconst (v := (0 : Int32)) hx hb dX5_dawn_5 (by decide) ?_
  refine lv_istore_n (lv' := [(1, .int (0 : Int32)), (0, .ref (ad K0))]) hx hb dX5_dawn_6 rfl hl (by decide) rfl (fun ls hl => ?_)
  exact ih_7 _ _ _ _ _ h hP hS (lv_sub hl [1, 0] rfl)

def f_X5_begin (N : Nat) (K0 : Nat) (K1 : Nat) (m : Mem) : Option (Int32 × Mem) :=
  fl_lm (mC m (K1 + 2) (K0 + 1) 0 0 3) (fun m1 =>
    fl_lm (mC m1 (K1 + 3) (K0 + 3) 0 0 3) (fun m3 =>
      fl_bd (f_X5_dawn N K0 m3) (fun r5 m6 =>
        some ((0 : Int32), m6))))
set_option maxHeartbeats 4000000 in
set_option maxRecDepth 100000 in
theorem c_X5_begin (l : Launch) (D : va_G) (ca : Nat → ClassId) (ad : Nat → Nat) (hi : fl_inj L1 ad) (N : Nat) (K0 : Nat) (hK0 : isStand K0) (K1 : Nat) (hK1 : isCity K1) (m : Mem) (v' : Int32) (M' : Mem) (h : f_X5_begin N K0 K1 m = some (v', M')) : fl_M l L1 D ca ad yX5_begin cX5_begin 2 none 2 [.ref (ad K0), .ref (ad K1)] m none M' := by
  unfold f_X5_begin at h
  refine fl_ofW (by decide) hi (Nat.le_of_ble_eq_true rfl) ?_
  intro p e s mm args below meth c ls X hr hlk hP hl
  have hl : lv_has ls 2 [(0, .ref (ad K0)), (1, .ref (ad K1))] := hl
  have X : fl_X p s mm args c cX5_begin 2 RX5 L1 D ca ad := X
  obtain ⟨hx, hb, hml, hown, hts, hE, -⟩ := id X
  have hS : va_S (fl_A L1 ad) s.heap s.heap [] := va_S.rf
  refine lv_aload_n hx hb dX5_begin_0 rfl (lv_at hl 1 rfl) ?_
  refine fl_getr X hP fk_X5_27 hK1.1 rfl dX5_begin_1 ?_
  refine lv_iconst (v := (0 : Int32)) hx hb dX5_begin_4 (by decide) ?_
  refine lv_aload_n hx hb dX5_begin_5 rfl (lv_at hl 0 rfl) ?_
  refine fl_getr X hP fk_X5_9 hK0.1 rfl dX5_begin_6 ?_
  refine lv_iconst (v := (0 : Int32)) hx hb dX5_begin_9 (by decide) ?_
  refine lv_iconst (v := (3 : Int32)) hx hb dX5_begin_10 (by decide) ?_
  obtain ⟨m1, em2, h⟩ := fl_lm_e h
  refine fl_copy X hP hS hl.1 hK1.2.2.1 hK0.2.1 (by decide) (by decide) (by decide) (by decide) (by decide) wq_415 wq_417 wq_416 wq_59 (fl_r1 (by omega)) (fl_r3 (by omega) (Nat.le_of_ble_eq_true rfl)) dX5_begin_11 (fun H locs hP hS => ?_)
  have hP : va_P D vwCl (fl_w L1 ca ad m1) H := by rw [em2]; exact hP
  refine lv_aload_n hx hb dX5_begin_14 rfl (lv_at hl 1 rfl) ?_
  refine fl_getr X hP fk_X5_38 hK1.1 rfl dX5_begin_15 ?_
  refine lv_iconst (v := (0 : Int32)) hx hb dX5_begin_18 (by decide) ?_
  refine lv_aload_n hx hb dX5_begin_19 rfl (lv_at hl 0 rfl) ?_
  refine fl_getr X hP fk_X5_18 hK0.1 rfl dX5_begin_20 ?_
  refine lv_iconst (v := (0 : Int32)) hx hb dX5_begin_23 (by decide) ?_
  refine lv_iconst (v := (3 : Int32)) hx hb dX5_begin_24 (by decide) ?_
  obtain ⟨m3, em4, h⟩ := fl_lm_e h
  refine fl_copy X hP hS hl.1 hK1.2.2.2.1 hK0.2.2.2.1 (by decide) (by decide) (by decide) (by decide) (by decide) wq_415 wq_417 wq_416 wq_59 (fl_r1 (by omega)) (fl_r3 (by omega) (Nat.le_of_ble_eq_true rfl)) dX5_begin_25 (fun H locs hP hS => ?_)
  have hP : va_P D vwCl (fl_w L1 ca ad m3) H := by rw [em4]; exact hP
  refine lv_aload_n hx hb dX5_begin_28 rfl (lv_at hl 0 rfl) ?_
  obtain ⟨r5, m6, hz7, h⟩ := fl_bd_e h
  refine fl_callV (av := []) X hP hS hl.1 mv_X5_41 (c_X5_dawn l D ca ad hi N K0 hK0 m3 _ _ hz7) hK0.1 (fl_fit_rm (by omega) (by decide)) rfl (Nat.le_of_ble_eq_true rfl) dX5_begin_29 rfl (fun H locs hP hS => ?_)
  refine W.eq (g2 := F0 mm 32 ls []) rfl ?_
  exact fl_vret X hr hlk hP hS dX5_begin_32 h

def f_X5_isTaken (K0 : Nat) (x1 : Int32) (m : Mem) : Option (Int32 × Mem) :=
  fl_ck (0 ≤ x1.toInt ∧ x1.toInt < 7) (
    if (m.1 (K0 + 4) (x1.toNatClampNeg)) = (-4 : Int32) then (
      some ((0 : Int32), m))
    else (
      some ((1 : Int32), m)))
set_option maxHeartbeats 4000000 in
set_option maxRecDepth 100000 in
theorem c_X5_isTaken (l : Launch) (D : va_G) (ca : Nat → ClassId) (ad : Nat → Nat) (hi : fl_inj L1 ad) (K0 : Nat) (hK0 : isStand K0) (x1 : Int32) (m : Mem) (v' : Int32) (M' : Mem) (h : f_X5_isTaken K0 x1 m = some (v', M')) : fl_M l L1 D ca ad yX5_isTaken cX5_isTaken 2 (some .boolean) 1 [.ref (ad K0), .int x1] m (some (.int v')) M' := by
  unfold f_X5_isTaken at h
  refine fl_ofW (by decide) hi (Nat.le_of_ble_eq_true rfl) ?_
  intro p e s mm args below meth c ls X hr hlk hP hl
  have hl : lv_has ls 2 [(0, .ref (ad K0)), (1, .int x1)] := hl
  have X : fl_X p s mm args c cX5_isTaken 2 RX5 L1 D ca ad := X
  obtain ⟨hx, hb, hml, hown, hts, hE, -⟩ := id X
  have hS : va_S (fl_A L1 ad) s.heap s.heap [] := va_S.rf
  refine lv_aload_n hx hb dX5_isTaken_0 rfl (lv_at hl 0 rfl) ?_
  refine fl_getr X hP fk_X5_21 hK0.1 rfl dX5_isTaken_1 ?_
  refine lv_iload_n hx hb dX5_isTaken_4 rfl (lv_at hl 1 rfl) ?_
  obtain ⟨hk1, h⟩ := fl_ck_e h
  refine fl_iald X hP hK0.2.2.2.2.1 hk1 dX5_isTaken_5 ?_
  refine lv_bipush (v := (-4 : Int32)) hx hb dX5_isTaken_6 (by decide) ?_
  refine lv_icmp_eq (tgt := 15) hx hb dX5_isTaken_8 (by decide) (fun c2 => ?_) (fun c2 => ?_)
  · replace h := fl_if_t h c2
    refine lv_iconst (v := (0 : Int32)) hx hb dX5_isTaken_15 (by decide) ?_
    exact fl_zret X hr hlk (by decide) hP hS dX5_isTaken_16 h
  · replace h := fl_if_f h c2
    refine lv_iconst (v := (1 : Int32)) hx hb dX5_isTaken_11 (by decide) ?_
    refine lv_goto (tgt := 16) hx hb dX5_isTaken_12 (by decide) ?_
    exact fl_zret X hr hlk (by decide) hP hS dX5_isTaken_16 h

def f_X5_copy (K0 : Nat) (K1 : Nat) (m : Mem) : Option (Int32 × Mem) :=
  fl_lm (mI m K0 0 (m.1 K1 0)) (fun m1 =>
    fl_lm (mC m1 (K1 + 1) (K0 + 1) 0 0 3) (fun m3 =>
      fl_lm (mC m3 (K1 + 2) (K0 + 2) 0 0 3) (fun m5 =>
        fl_lm (mC m5 (K1 + 3) (K0 + 3) 0 0 3) (fun m7 =>
          fl_lm (mC m7 (K1 + 4) (K0 + 4) 0 0 7) (fun m9 =>
            fl_lm (mC m9 (K1 + 5) (K0 + 5) 0 0 7) (fun m11 =>
              some ((0 : Int32), m11)))))))
set_option maxHeartbeats 4000000 in
set_option maxRecDepth 100000 in
theorem c_X5_copy (l : Launch) (D : va_G) (ca : Nat → ClassId) (ad : Nat → Nat) (hi : fl_inj L1 ad) (K0 : Nat) (hK0 : isStand K0) (K1 : Nat) (hK1 : isStand K1) (m : Mem) (v' : Int32) (M' : Mem) (h : f_X5_copy K0 K1 m = some (v', M')) : fl_M l L1 D ca ad yX5_copy cX5_copy 2 none 1 [.ref (ad K0), .ref (ad K1)] m none M' := by
  unfold f_X5_copy at h
  refine fl_ofW (by decide) hi (Nat.le_of_ble_eq_true rfl) ?_
  intro p e s mm args below meth c ls X hr hlk hP hl
  have hl : lv_has ls 2 [(0, .ref (ad K0)), (1, .ref (ad K1))] := hl
  have X : fl_X p s mm args c cX5_copy 2 RX5 L1 D ca ad := X
  obtain ⟨hx, hb, hml, hown, hts, hE, -⟩ := id X
  have hS : va_S (fl_A L1 ad) s.heap s.heap [] := va_S.rf
  refine lv_aload_n hx hb dX5_copy_0 rfl (lv_at hl 0 rfl) ?_
  refine lv_aload_n hx hb dX5_copy_1 rfl (lv_at hl 1 rfl) ?_
  refine fl_geti X hP fk_X5_44 hK1.1 rfl dX5_copy_2 ?_
  obtain ⟨m1, em2, h⟩ := fl_lm_e h
  refine fl_puti X hP hS pk_X5_44 hK0.1 rfl rfl rfl dX5_copy_5 (fun H locs hP hS => ?_)
  have hP : va_P D vwCl (fl_w L1 ca ad m1) H := by rw [em2]; exact hP
  refine lv_aload_n hx hb dX5_copy_8 rfl (lv_at hl 1 rfl) ?_
  refine fl_getr X hP fk_X5_9 hK1.1 rfl dX5_copy_9 ?_
  refine lv_iconst (v := (0 : Int32)) hx hb dX5_copy_12 (by decide) ?_
  refine lv_aload_n hx hb dX5_copy_13 rfl (lv_at hl 0 rfl) ?_
  refine fl_getr X hP fk_X5_9 hK0.1 rfl dX5_copy_14 ?_
  refine lv_iconst (v := (0 : Int32)) hx hb dX5_copy_17 (by decide) ?_
  refine lv_iconst (v := (3 : Int32)) hx hb dX5_copy_18 (by decide) ?_
  obtain ⟨m3, em4, h⟩ := fl_lm_e h
  refine fl_copy X hP hS hl.1 hK1.2.1 hK0.2.1 (by decide) (by decide) (by decide) (by decide) (by decide) wq_415 wq_417 wq_416 wq_59 (fl_r1 (by omega)) (fl_r3 (by omega) (Nat.le_of_ble_eq_true rfl)) dX5_copy_19 (fun H locs hP hS => ?_)
  have hP : va_P D vwCl (fl_w L1 ca ad m3) H := by rw [em4]; exact hP
  refine lv_aload_n hx hb dX5_copy_22 rfl (lv_at hl 1 rfl) ?_
  refine fl_getr X hP fk_X5_15 hK1.1 rfl dX5_copy_23 ?_
  refine lv_iconst (v := (0 : Int32)) hx hb dX5_copy_26 (by decide) ?_
  refine lv_aload_n hx hb dX5_copy_27 rfl (lv_at hl 0 rfl) ?_
  refine fl_getr X hP fk_X5_15 hK0.1 rfl dX5_copy_28 ?_
  refine lv_iconst (v := (0 : Int32)) hx hb dX5_copy_31 (by decide) ?_
  refine lv_iconst (v := (3 : Int32)) hx hb dX5_copy_32 (by decide) ?_
  obtain ⟨m5, em6, h⟩ := fl_lm_e h
  refine fl_copy X hP hS hl.1 hK1.2.2.1 hK0.2.2.1 (by decide) (by decide) (by decide) (by decide) (by decide) wq_415 wq_417 wq_416 wq_59 (fl_r1 (by omega)) (fl_r3 (by omega) (Nat.le_of_ble_eq_true rfl)) dX5_copy_33 (fun H locs hP hS => ?_)
  have hP : va_P D vwCl (fl_w L1 ca ad m5) H := by rw [em6]; exact hP
  refine lv_aload_n hx hb dX5_copy_36 rfl (lv_at hl 1 rfl) ?_
  refine fl_getr X hP fk_X5_18 hK1.1 rfl dX5_copy_37 ?_
  refine lv_iconst (v := (0 : Int32)) hx hb dX5_copy_40 (by decide) ?_
  refine lv_aload_n hx hb dX5_copy_41 rfl (lv_at hl 0 rfl) ?_
  refine fl_getr X hP fk_X5_18 hK0.1 rfl dX5_copy_42 ?_
  refine lv_iconst (v := (0 : Int32)) hx hb dX5_copy_45 (by decide) ?_
  refine lv_iconst (v := (3 : Int32)) hx hb dX5_copy_46 (by decide) ?_
  obtain ⟨m7, em8, h⟩ := fl_lm_e h
  refine fl_copy X hP hS hl.1 hK1.2.2.2.1 hK0.2.2.2.1 (by decide) (by decide) (by decide) (by decide) (by decide) wq_415 wq_417 wq_416 wq_59 (fl_r1 (by omega)) (fl_r3 (by omega) (Nat.le_of_ble_eq_true rfl)) dX5_copy_47 (fun H locs hP hS => ?_)
  have hP : va_P D vwCl (fl_w L1 ca ad m7) H := by rw [em8]; exact hP
  refine lv_aload_n hx hb dX5_copy_50 rfl (lv_at hl 1 rfl) ?_
  refine fl_getr X hP fk_X5_21 hK1.1 rfl dX5_copy_51 ?_
  refine lv_iconst (v := (0 : Int32)) hx hb dX5_copy_54 (by decide) ?_
  refine lv_aload_n hx hb dX5_copy_55 rfl (lv_at hl 0 rfl) ?_
  refine fl_getr X hP fk_X5_21 hK0.1 rfl dX5_copy_56 ?_
  refine lv_iconst (v := (0 : Int32)) hx hb dX5_copy_59 (by decide) ?_
  refine lv_bipush (v := (7 : Int32)) hx hb dX5_copy_60 (by decide) ?_
  obtain ⟨m9, em10, h⟩ := fl_lm_e h
  refine fl_copy X hP hS hl.1 hK1.2.2.2.2.1 hK0.2.2.2.2.1 (by decide) (by decide) (by decide) (by decide) (by decide) wq_415 wq_417 wq_416 wq_59 (fl_r1 (by omega)) (fl_r3 (by omega) (Nat.le_of_ble_eq_true rfl)) dX5_copy_62 (fun H locs hP hS => ?_)
  have hP : va_P D vwCl (fl_w L1 ca ad m9) H := by rw [em10]; exact hP
  refine lv_aload_n hx hb dX5_copy_65 rfl (lv_at hl 1 rfl) ?_
  refine fl_getr X hP fk_X5_24 hK1.1 rfl dX5_copy_66 ?_
  refine lv_iconst (v := (0 : Int32)) hx hb dX5_copy_69 (by decide) ?_
  refine lv_aload_n hx hb dX5_copy_70 rfl (lv_at hl 0 rfl) ?_
  refine fl_getr X hP fk_X5_24 hK0.1 rfl dX5_copy_71 ?_
  refine lv_iconst (v := (0 : Int32)) hx hb dX5_copy_74 (by decide) ?_
  refine lv_bipush (v := (7 : Int32)) hx hb dX5_copy_75 (by decide) ?_
  obtain ⟨m11, em12, h⟩ := fl_lm_e h
  refine fl_copy X hP hS hl.1 hK1.2.2.2.2.2 hK0.2.2.2.2.2 (by decide) (by decide) (by decide) (by decide) (by decide) wq_415 wq_417 wq_416 wq_59 (fl_r1 (by omega)) (fl_r3 (by omega) (Nat.le_of_ble_eq_true rfl)) dX5_copy_77 (fun H locs hP hS => ?_)
  have hP : va_P D vwCl (fl_w L1 ca ad m11) H := by rw [em12]; exact hP
  exact fl_vret X hr hlk hP hS dX5_copy_80 h

def B_X5_cabsAsNumber_4 (N : Nat) (K0 : Nat) (F : Int32 → Int64 → Mem → Option (Int64 × Mem)) (y1 : Int64) (x3 : Int32) (m : Mem) : Option (Int64 × Mem) :=
  if (3 : Int32) ≤ x3 then (
    some (y1, m))
  else (
    fl_ck (0 ≤ x3.toInt ∧ x3.toInt < 3) (
      fl_ck (0 ≤ x3.toInt ∧ x3.toInt < 3) (
        fl_ll (((((y1 * (64 : Int64)) + ((m.1 (K0 + 1) (x3.toNatClampNeg)).toInt64)) * (64 : Int64)) + ((m.1 (K0 + 3) (x3.toNatClampNeg)).toInt64)) - (-4 : Int64)) (fun z4 =>
          F (x3 + 1) z4 m))))
def l_X5_cabsAsNumber (N : Nat) (K0 : Nat) : Nat → Int32 → Int64 → Mem → Option (Int64 × Mem)
  | 0 => fun _ _ _ => none
  | n + 1 => fun x3 y1 m => B_X5_cabsAsNumber_4 N K0 (l_X5_cabsAsNumber N K0 n) y1 x3 m
def f_X5_cabsAsNumber (N : Nat) (K0 : Nat) (m : Mem) : Option (Int64 × Mem) :=
  (l_X5_cabsAsNumber N K0 N) (0 : Int32) (0 : Int64) m
set_option maxHeartbeats 4000000 in
set_option maxRecDepth 100000 in
theorem c_X5_cabsAsNumber (l : Launch) (D : va_G) (ca : Nat → ClassId) (ad : Nat → Nat) (hi : fl_inj L1 ad) (N : Nat) (K0 : Nat) (hK0 : isStand K0) (m : Mem) (v' : Int64) (M' : Mem) (h : f_X5_cabsAsNumber N K0 m = some (v', M')) : fl_M l L1 D ca ad yX5_cabsAsNumber cX5_cabsAsNumber 4 (some .long) 1 [.ref (ad K0)] m (some (.long v')) M' := by
  unfold f_X5_cabsAsNumber at h
  refine fl_ofW (by decide) hi (Nat.le_of_ble_eq_true rfl) ?_
  intro p e s mm args below meth c ls X hr hlk hP hl
  have hl : lv_has ls 4 [(0, .ref (ad K0))] := hl
  have X : fl_X p s mm args c cX5_cabsAsNumber 4 RX5 L1 D ca ad := X
  obtain ⟨hx, hb, hml, hown, hts, hE, -⟩ := id X
  have hS : va_S (fl_A L1 ad) s.heap s.heap [] := va_S.rf
  have key : ∀ n : Nat, (∀ (y1 : Int64) (x3 : Int32) (m : Mem) (H : Heap) (locs : List Loc) (ls : Array Slot), l_X5_cabsAsNumber N K0 n x3 y1 m = some (v', M') → va_P D vwCl (fl_w L1 ca ad m) H → va_S (fl_A L1 ad) s.heap H locs → lv_has ls 4 [(0, .ref (ad K0)), (1, .long y1), (3, .int x3)] → W p l e (fl_rm 1) s mm args below meth c H locs 0 0 (MQ below (fl_Q L1 D ca ad (some (.long v')) M') args s 0 0 (fl_A L1 ad)) (F0 mm 4 ls [])) := by
    intro n
    induction n with
    | zero =>
      skip
      · intro y1 x3 m H locs ls h hP hS hl
        have h : (none : Option (Int64 × Mem)) = some (v', M') := h
        cases h
    | succ n ih =>
      have ih_4 := ih
      skip
      · intro y1 x3 m H locs ls h hP hS hl
        have h : B_X5_cabsAsNumber_4 N K0 (l_X5_cabsAsNumber N K0 n) y1 x3 m = some (v', M') := h
        unfold B_X5_cabsAsNumber_4 at h
        refine lv_iload_n hx hb dX5_cabsAsNumber_4 rfl (lv_at hl 2 rfl) ?_
        refine lv_iconst (v := (3 : Int32)) hx hb dX5_cabsAsNumber_5 (by decide) ?_
        refine lv_icmp_ge (tgt := 45) hx hb dX5_cabsAsNumber_6 (by decide) (fun c1 => ?_) (fun c1 => ?_)
        · replace h := fl_if_t h c1
          refine lv_lload_n hx hb dX5_cabsAsNumber_45 rfl (lv_at hl 1 rfl) ?_
          exact fl_lret X hr hlk hP hS dX5_cabsAsNumber_46 h
        · replace h := fl_if_f h c1
          refine lv_lload_n hx hb dX5_cabsAsNumber_9 rfl (lv_at hl 1 rfl) ?_
          refine lv_ldc2 (v := (64 : Int64)) hx hb hown (hts _ wq_618) dX5_cabsAsNumber_10 ?_
          refine lv_lmul hx hb dX5_cabsAsNumber_13 ?_
          refine lv_aload_n hx hb dX5_cabsAsNumber_14 rfl (lv_at hl 0 rfl) ?_
          refine fl_getr X hP fk_X5_9 hK0.1 rfl dX5_cabsAsNumber_15 ?_
          refine lv_iload_n hx hb dX5_cabsAsNumber_18 rfl (lv_at hl 2 rfl) ?_
          obtain ⟨hk2, h⟩ := fl_ck_e h
          refine fl_iald X hP hK0.2.1 hk2 dX5_cabsAsNumber_19 ?_
          refine lv_i2l (v := (m.1 (K0 + 1) (x3.toNatClampNeg)).toInt64) hx hb dX5_cabsAsNumber_20 rfl ?_
          refine lv_ladd hx hb dX5_cabsAsNumber_21 ?_
          refine lv_ldc2 (v := (64 : Int64)) hx hb hown (hts _ wq_618) dX5_cabsAsNumber_22 ?_
          refine lv_lmul hx hb dX5_cabsAsNumber_25 ?_
          refine lv_aload_n hx hb dX5_cabsAsNumber_26 rfl (lv_at hl 0 rfl) ?_
          refine fl_getr X hP fk_X5_18 hK0.1 rfl dX5_cabsAsNumber_27 ?_
          refine lv_iload_n hx hb dX5_cabsAsNumber_30 rfl (lv_at hl 2 rfl) ?_
          obtain ⟨hk3, h⟩ := fl_ck_e h
          refine fl_iald X hP hK0.2.2.2.1 hk3 dX5_cabsAsNumber_31 ?_
          refine lv_i2l (v := (m.1 (K0 + 3) (x3.toNatClampNeg)).toInt64) hx hb dX5_cabsAsNumber_32 rfl ?_
          refine lv_ladd hx hb dX5_cabsAsNumber_33 ?_
          refine lv_ldc2 (v := (-4 : Int64)) hx hb hown (hts _ wq_619) dX5_cabsAsNumber_34 ?_
          refine lv_lsub hx hb dX5_cabsAsNumber_37 ?_
          obtain ⟨z4, ez5, h⟩ := fl_ll_e h
          refine fl_topl ez5 ?_
          refine lv_lstore_n (lv' := [(1, .long z4), (0, .ref (ad K0)), (3, .int x3)]) hx hb dX5_cabsAsNumber_38 rfl hl (by decide) rfl (fun ls hl => ?_)
          refine lv_iinc (v := x3 + 1) (lv' := [(3, .int (x3 + 1)), (1, .long z4), (0, .ref (ad K0))]) hx hb dX5_cabsAsNumber_39 hl (k := 2) rfl rfl (by decide) rfl (fun ls hl => ?_)
          refine lv_goto (tgt := 4) hx hb dX5_cabsAsNumber_42 (by decide) ?_
          exact ih_4 _ _ _ _ _ _ h hP hS (lv_sub hl [2, 1, 0] rfl)
  have ih_4 := key N
  refine lv_lconst (v := (0 : Int64)) hx hb dX5_cabsAsNumber_0 (by decide) ?_
  refine lv_lstore_n (lv' := [(1, .long (0 : Int64)), (0, .ref (ad K0))]) hx hb dX5_cabsAsNumber_1 rfl hl (by decide) rfl (fun ls hl => ?_)
  refine lv_iconst (v := (0 : Int32)) hx hb dX5_cabsAsNumber_2 (by decide) ?_
  refine lv_istore_n (lv' := [(3, .int (0 : Int32)), (1, .long (0 : Int64)), (0, .ref (ad K0))]) hx hb dX5_cabsAsNumber_3 rfl hl (by decide) rfl (fun ls hl => ?_)
  exact ih_4 _ _ _ _ _ _ h hP hS (lv_sub hl [2, 1, 0] rfl)

def J_X4_put_d_38 (K1 : Nat) (t1 : Int32) (m : Mem) : Option (Int32 × Mem) :=
  fl_lm (mI m 24 1 t1) (fun m6 =>
    fl_lm (mI m6 24 2 (fl_min ((m6.1 24 2) + (1 : Int32)) (8 : Int32))) (fun m8 =>
      some ((0 : Int32), m8)))
def f_X4_put_d (K1 : Nat) (m : Mem) : Option (Int32 × Mem) :=
  fl_ck (0 ≤ (m.1 24 1).toInt ∧ (m.1 24 1).toInt < 8) (
    fl_bd (f_X5_copy (51 + 6 * (m.1 24 1).toNatClampNeg) K1 m) (fun r2 m3 =>
      if (8 : Int32) ≤ ((m3.1 24 1) + (1 : Int32)) then (
        J_X4_put_d_38 K1 (0 : Int32) m3)
      else (
        J_X4_put_d_38 K1 ((m3.1 24 1) + (1 : Int32)) m3)))
set_option maxHeartbeats 4000000 in
set_option maxRecDepth 100000 in
theorem c_X4_put_d (l : Launch) (D : va_G) (ca : Nat → ClassId) (ad : Nat → Nat) (hi : fl_inj L1 ad) (K1 : Nat) (hK1 : isStand K1) (m : Mem) (v' : Int32) (M' : Mem) (h : f_X4_put_d K1 m = some (v', M')) : fl_M l L1 D ca ad yX4_put cX4_put 2 none 2 [.ref (ad 24), .ref (ad K1)] m none M' := by
  unfold f_X4_put_d at h
  refine fl_ofW (by decide) hi (Nat.le_of_ble_eq_true rfl) ?_
  intro p e s mm args below meth c ls X hr hlk hP hl
  have hl : lv_has ls 2 [(0, .ref (ad 24)), (1, .ref (ad K1))] := hl
  have X : fl_X p s mm args c cX4_put 2 RX4 L1 D ca ad := X
  obtain ⟨hx, hb, hml, hown, hts, hE, -⟩ := id X
  have hS : va_S (fl_A L1 ad) s.heap s.heap [] := va_S.rf
  have j_38 : ∀ (t1 : Int32) (m : Mem) (H : Heap) (locs : List Loc) (ls : Array Slot), J_X4_put_d_38 K1 t1 m = some (v', M') → va_P D vwCl (fl_w L1 ca ad m) H → va_S (fl_A L1 ad) s.heap H locs → lv_has ls 2 [(0, .ref (ad 24))] → W p l e (fl_rm 2) s mm args below meth c H locs 0 0 (MQ below (fl_Q L1 D ca ad none M') args s 0 0 (fl_A L1 ad)) (F0 mm 38 ls [.int t1, .ref (ad 24)]) := by
    intro t1 m H locs ls h hP hS hl
    unfold J_X4_put_d_38 at h
    obtain ⟨m6, em7, h⟩ := fl_lm_e h
    refine fl_puti X hP hS pk_X4_22 k1_24 rfl rfl rfl dX4_put_38 (fun H locs hP hS => ?_)
    have hP : va_P D vwCl (fl_w L1 ca ad m6) H := by rw [em7]; exact hP
    refine lv_aload_n hx hb dX4_put_41 rfl (lv_at hl 0 rfl) ?_
    refine lv_aload_n hx hb dX4_put_42 rfl (lv_at hl 0 rfl) ?_
    refine fl_geti X hP fk_X4_30 k1_24 rfl dX4_put_43 ?_
    refine lv_iconst (v := (1 : Int32)) hx hb dX4_put_46 (by decide) ?_
    refine lv_iadd hx hb dX4_put_47 ?_
    refine lv_aload_n hx hb dX4_put_48 rfl (lv_at hl 0 rfl) ?_
    refine fl_getr X hP fk_X4_15 k1_24 rfl dX4_put_49 ?_
    refine fl_alen (v := (8 : Int32)) X hP k1_25 (by decide) (by decide) dX4_put_52 ?_
    refine va_mmin hx hb (hml.trans hl.1.symm) hown (hts _ wq_521) (hts _ wq_522) (hts _ wq_51) (hts _ wq_523) (fl_r1 (by omega)) (fl_r2 (by omega) (Nat.le_of_ble_eq_true rfl)) (Nat.le_refl 0) (Nat.le_refl 0) dX4_put_53 ?_
    obtain ⟨m8, em9, h⟩ := fl_lm_e h
    refine fl_puti X hP hS pk_X4_30 k1_24 rfl rfl rfl dX4_put_56 (fun H locs hP hS => ?_)
    have hP : va_P D vwCl (fl_w L1 ca ad m8) H := by rw [em9]; exact hP
    exact fl_vret X hr hlk hP hS dX4_put_59 h
  refine lv_aload_n hx hb dX4_put_0 rfl (lv_at hl 0 rfl) ?_
  refine fl_getr X hP fk_X4_15 k1_24 rfl dX4_put_1 ?_
  refine lv_aload_n hx hb dX4_put_4 rfl (lv_at hl 0 rfl) ?_
  refine fl_geti X hP fk_X4_22 k1_24 rfl dX4_put_5 ?_
  obtain ⟨hk1, h⟩ := fl_ck_e h
  refine fl_aald X hP k1_25 hk1 dX4_put_8 ?_
  refine lv_aload_n hx hb dX4_put_9 rfl (lv_at hl 1 rfl) ?_
  obtain ⟨r2, m3, hz4, h⟩ := fl_bd_e h
  refine fl_callV (av := [.ref (ad K1)]) X hP hS hl.1 mv_X4_26 (c_X5_copy l D ca ad hi (51 + 6 * (m.1 24 1).toNatClampNeg) (fl_st_51 hk1) K1 hK1 m _ _ hz4) ((fl_st_51 hk1).1) (fl_fit_rm (by omega) (by decide)) rfl (Nat.le_of_ble_eq_true rfl) dX4_put_10 rfl (fun H locs hP hS => ?_)
  refine W.eq (g2 := F0 mm 13 ls []) rfl ?_
  refine lv_aload_n hx hb dX4_put_13 rfl (lv_at hl 0 rfl) ?_
  refine lv_aload_n hx hb dX4_put_14 rfl (lv_at hl 0 rfl) ?_
  refine fl_geti X hP fk_X4_22 k1_24 rfl dX4_put_15 ?_
  refine lv_iconst (v := (1 : Int32)) hx hb dX4_put_18 (by decide) ?_
  refine lv_iadd hx hb dX4_put_19 ?_
  refine lv_aload_n hx hb dX4_put_20 rfl (lv_at hl 0 rfl) ?_
  refine fl_getr X hP fk_X4_15 k1_24 rfl dX4_put_21 ?_
  refine fl_alen (v := (8 : Int32)) X hP k1_25 (by decide) (by decide) dX4_put_24 ?_
  refine lv_icmp_ge (tgt := 37) hx hb dX4_put_25 (by decide) (fun c5 => ?_) (fun c5 => ?_)
  · replace h := fl_if_t h c5
    refine lv_iconst (v := (0 : Int32)) hx hb dX4_put_37 (by decide) ?_
    exact j_38 _ _ _ _ _ h hP hS (lv_sub hl [0] rfl)
  · replace h := fl_if_f h c5
    refine lv_aload_n hx hb dX4_put_28 rfl (lv_at hl 0 rfl) ?_
    refine fl_geti X hP fk_X4_22 k1_24 rfl dX4_put_29 ?_
    refine lv_iconst (v := (1 : Int32)) hx hb dX4_put_32 (by decide) ?_
    refine lv_iadd hx hb dX4_put_33 ?_
    refine lv_goto (tgt := 38) hx hb dX4_put_34 (by decide) ?_
    exact j_38 _ _ _ _ _ h hP hS (lv_sub hl [0] rfl)

def J_X4_put_k_38 (K1 : Nat) (t1 : Int32) (m : Mem) : Option (Int32 × Mem) :=
  fl_lm (mI m 26 1 t1) (fun m6 =>
    fl_lm (mI m6 26 2 (fl_min ((m6.1 26 2) + (1 : Int32)) (2 : Int32))) (fun m8 =>
      some ((0 : Int32), m8)))
def f_X4_put_k (K1 : Nat) (m : Mem) : Option (Int32 × Mem) :=
  fl_ck (0 ≤ (m.1 26 1).toInt ∧ (m.1 26 1).toInt < 2) (
    fl_bd (f_X5_copy (99 + 6 * (m.1 26 1).toNatClampNeg) K1 m) (fun r2 m3 =>
      if (2 : Int32) ≤ ((m3.1 26 1) + (1 : Int32)) then (
        J_X4_put_k_38 K1 (0 : Int32) m3)
      else (
        J_X4_put_k_38 K1 ((m3.1 26 1) + (1 : Int32)) m3)))
set_option maxHeartbeats 4000000 in
set_option maxRecDepth 100000 in
theorem c_X4_put_k (l : Launch) (D : va_G) (ca : Nat → ClassId) (ad : Nat → Nat) (hi : fl_inj L1 ad) (K1 : Nat) (hK1 : isStand K1) (m : Mem) (v' : Int32) (M' : Mem) (h : f_X4_put_k K1 m = some (v', M')) : fl_M l L1 D ca ad yX4_put cX4_put 2 none 2 [.ref (ad 26), .ref (ad K1)] m none M' := by
  unfold f_X4_put_k at h
  refine fl_ofW (by decide) hi (Nat.le_of_ble_eq_true rfl) ?_
  intro p e s mm args below meth c ls X hr hlk hP hl
  have hl : lv_has ls 2 [(0, .ref (ad 26)), (1, .ref (ad K1))] := hl
  have X : fl_X p s mm args c cX4_put 2 RX4 L1 D ca ad := X
  obtain ⟨hx, hb, hml, hown, hts, hE, -⟩ := id X
  have hS : va_S (fl_A L1 ad) s.heap s.heap [] := va_S.rf
  have j_38 : ∀ (t1 : Int32) (m : Mem) (H : Heap) (locs : List Loc) (ls : Array Slot), J_X4_put_k_38 K1 t1 m = some (v', M') → va_P D vwCl (fl_w L1 ca ad m) H → va_S (fl_A L1 ad) s.heap H locs → lv_has ls 2 [(0, .ref (ad 26))] → W p l e (fl_rm 2) s mm args below meth c H locs 0 0 (MQ below (fl_Q L1 D ca ad none M') args s 0 0 (fl_A L1 ad)) (F0 mm 38 ls [.int t1, .ref (ad 26)]) := by
    intro t1 m H locs ls h hP hS hl
    unfold J_X4_put_k_38 at h
    obtain ⟨m6, em7, h⟩ := fl_lm_e h
    refine fl_puti X hP hS pk_X4_22 k1_26 rfl rfl rfl dX4_put_38 (fun H locs hP hS => ?_)
    have hP : va_P D vwCl (fl_w L1 ca ad m6) H := by rw [em7]; exact hP
    refine lv_aload_n hx hb dX4_put_41 rfl (lv_at hl 0 rfl) ?_
    refine lv_aload_n hx hb dX4_put_42 rfl (lv_at hl 0 rfl) ?_
    refine fl_geti X hP fk_X4_30 k1_26 rfl dX4_put_43 ?_
    refine lv_iconst (v := (1 : Int32)) hx hb dX4_put_46 (by decide) ?_
    refine lv_iadd hx hb dX4_put_47 ?_
    refine lv_aload_n hx hb dX4_put_48 rfl (lv_at hl 0 rfl) ?_
    refine fl_getr X hP fk_X4_15 k1_26 rfl dX4_put_49 ?_
    refine fl_alen (v := (2 : Int32)) X hP k1_27 (by decide) (by decide) dX4_put_52 ?_
    refine va_mmin hx hb (hml.trans hl.1.symm) hown (hts _ wq_521) (hts _ wq_522) (hts _ wq_51) (hts _ wq_523) (fl_r1 (by omega)) (fl_r2 (by omega) (Nat.le_of_ble_eq_true rfl)) (Nat.le_refl 0) (Nat.le_refl 0) dX4_put_53 ?_
    obtain ⟨m8, em9, h⟩ := fl_lm_e h
    refine fl_puti X hP hS pk_X4_30 k1_26 rfl rfl rfl dX4_put_56 (fun H locs hP hS => ?_)
    have hP : va_P D vwCl (fl_w L1 ca ad m8) H := by rw [em9]; exact hP
    exact fl_vret X hr hlk hP hS dX4_put_59 h
  refine lv_aload_n hx hb dX4_put_0 rfl (lv_at hl 0 rfl) ?_
  refine fl_getr X hP fk_X4_15 k1_26 rfl dX4_put_1 ?_
  refine lv_aload_n hx hb dX4_put_4 rfl (lv_at hl 0 rfl) ?_
  refine fl_geti X hP fk_X4_22 k1_26 rfl dX4_put_5 ?_
  obtain ⟨hk1, h⟩ := fl_ck_e h
  refine fl_aald X hP k1_27 hk1 dX4_put_8 ?_
  refine lv_aload_n hx hb dX4_put_9 rfl (lv_at hl 1 rfl) ?_
  obtain ⟨r2, m3, hz4, h⟩ := fl_bd_e h
  refine fl_callV (av := [.ref (ad K1)]) X hP hS hl.1 mv_X4_26 (c_X5_copy l D ca ad hi (99 + 6 * (m.1 26 1).toNatClampNeg) (fl_st_99 hk1) K1 hK1 m _ _ hz4) ((fl_st_99 hk1).1) (fl_fit_rm (by omega) (by decide)) rfl (Nat.le_of_ble_eq_true rfl) dX4_put_10 rfl (fun H locs hP hS => ?_)
  refine W.eq (g2 := F0 mm 13 ls []) rfl ?_
  refine lv_aload_n hx hb dX4_put_13 rfl (lv_at hl 0 rfl) ?_
  refine lv_aload_n hx hb dX4_put_14 rfl (lv_at hl 0 rfl) ?_
  refine fl_geti X hP fk_X4_22 k1_26 rfl dX4_put_15 ?_
  refine lv_iconst (v := (1 : Int32)) hx hb dX4_put_18 (by decide) ?_
  refine lv_iadd hx hb dX4_put_19 ?_
  refine lv_aload_n hx hb dX4_put_20 rfl (lv_at hl 0 rfl) ?_
  refine fl_getr X hP fk_X4_15 k1_26 rfl dX4_put_21 ?_
  refine fl_alen (v := (2 : Int32)) X hP k1_27 (by decide) (by decide) dX4_put_24 ?_
  refine lv_icmp_ge (tgt := 37) hx hb dX4_put_25 (by decide) (fun c5 => ?_) (fun c5 => ?_)
  · replace h := fl_if_t h c5
    refine lv_iconst (v := (0 : Int32)) hx hb dX4_put_37 (by decide) ?_
    exact j_38 _ _ _ _ _ h hP hS (lv_sub hl [0] rfl)
  · replace h := fl_if_f h c5
    refine lv_aload_n hx hb dX4_put_28 rfl (lv_at hl 0 rfl) ?_
    refine fl_geti X hP fk_X4_22 k1_26 rfl dX4_put_29 ?_
    refine lv_iconst (v := (1 : Int32)) hx hb dX4_put_32 (by decide) ?_
    refine lv_iadd hx hb dX4_put_33 ?_
    refine lv_goto (tgt := 38) hx hb dX4_put_34 (by decide) ?_
    exact j_38 _ _ _ _ _ h hP hS (lv_sub hl [0] rfl)

def J_X4_giveBack_d_33 (K1 : Nat) (t1 : Int32) (m : Mem) : Option (Int32 × Mem) :=
  fl_lm (mI m 24 1 t1) (fun m3 =>
    fl_lm (mI m3 24 2 ((m3.1 24 2) - (1 : Int32))) (fun m5 =>
      fl_ck (0 ≤ (m5.1 24 1).toInt ∧ (m5.1 24 1).toInt < 8) (
        fl_bd (f_X5_copy K1 (51 + 6 * (m5.1 24 1).toNatClampNeg) m5) (fun r8 m9 =>
          some ((1 : Int32), m9)))))
def f_X4_giveBack_d (K1 : Nat) (m : Mem) : Option (Int32 × Mem) :=
  if (m.1 24 2) = 0 then (
    some ((0 : Int32), m))
  else (
    if (m.1 24 1) ≤ 0 then (
      J_X4_giveBack_d_33 K1 ((8 : Int32) - (1 : Int32)) m)
    else (
      J_X4_giveBack_d_33 K1 ((m.1 24 1) - (1 : Int32)) m))
set_option maxHeartbeats 4000000 in
set_option maxRecDepth 100000 in
theorem c_X4_giveBack_d (l : Launch) (D : va_G) (ca : Nat → ClassId) (ad : Nat → Nat) (hi : fl_inj L1 ad) (K1 : Nat) (hK1 : isStand K1) (m : Mem) (v' : Int32) (M' : Mem) (h : f_X4_giveBack_d K1 m = some (v', M')) : fl_M l L1 D ca ad yX4_giveBack cX4_giveBack 2 (some .boolean) 2 [.ref (ad 24), .ref (ad K1)] m (some (.int v')) M' := by
  unfold f_X4_giveBack_d at h
  refine fl_ofW (by decide) hi (Nat.le_of_ble_eq_true rfl) ?_
  intro p e s mm args below meth c ls X hr hlk hP hl
  have hl : lv_has ls 2 [(0, .ref (ad 24)), (1, .ref (ad K1))] := hl
  have X : fl_X p s mm args c cX4_giveBack 2 RX4 L1 D ca ad := X
  obtain ⟨hx, hb, hml, hown, hts, hE, -⟩ := id X
  have hS : va_S (fl_A L1 ad) s.heap s.heap [] := va_S.rf
  have j_33 : ∀ (t1 : Int32) (m : Mem) (H : Heap) (locs : List Loc) (ls : Array Slot), J_X4_giveBack_d_33 K1 t1 m = some (v', M') → va_P D vwCl (fl_w L1 ca ad m) H → va_S (fl_A L1 ad) s.heap H locs → lv_has ls 2 [(0, .ref (ad 24)), (1, .ref (ad K1))] → W p l e (fl_rm 2) s mm args below meth c H locs 0 0 (MQ below (fl_Q L1 D ca ad (some (.int v')) M') args s 0 0 (fl_A L1 ad)) (F0 mm 33 ls [.int t1, .ref (ad 24)]) := by
    intro t1 m H locs ls h hP hS hl
    unfold J_X4_giveBack_d_33 at h
    obtain ⟨m3, em4, h⟩ := fl_lm_e h
    refine fl_puti X hP hS pk_X4_22 k1_24 rfl rfl rfl dX4_giveBack_33 (fun H locs hP hS => ?_)
    have hP : va_P D vwCl (fl_w L1 ca ad m3) H := by rw [em4]; exact hP
    refine lv_aload_n hx hb dX4_giveBack_36 rfl (lv_at hl 0 rfl) ?_
    refine lv_dup hx hb dX4_giveBack_37 rfl ?_
    refine fl_geti X hP fk_X4_30 k1_24 rfl dX4_giveBack_38 ?_
    refine lv_iconst (v := (1 : Int32)) hx hb dX4_giveBack_41 (by decide) ?_
    refine lv_isub hx hb dX4_giveBack_42 ?_
    obtain ⟨m5, em6, h⟩ := fl_lm_e h
    refine fl_puti X hP hS pk_X4_30 k1_24 rfl rfl rfl dX4_giveBack_43 (fun H locs hP hS => ?_)
    have hP : va_P D vwCl (fl_w L1 ca ad m5) H := by rw [em6]; exact hP
    refine lv_aload_n hx hb dX4_giveBack_46 rfl (lv_at hl 1 rfl) ?_
    refine lv_aload_n hx hb dX4_giveBack_47 rfl (lv_at hl 0 rfl) ?_
    refine fl_getr X hP fk_X4_15 k1_24 rfl dX4_giveBack_48 ?_
    refine lv_aload_n hx hb dX4_giveBack_51 rfl (lv_at hl 0 rfl) ?_
    refine fl_geti X hP fk_X4_22 k1_24 rfl dX4_giveBack_52 ?_
    obtain ⟨hk7, h⟩ := fl_ck_e h
    refine fl_aald X hP k1_25 hk7 dX4_giveBack_55 ?_
    obtain ⟨r8, m9, hz10, h⟩ := fl_bd_e h
    refine fl_callV (av := [.ref (ad (51 + 6 * (m5.1 24 1).toNatClampNeg))]) X hP hS hl.1 mv_X4_26 (c_X5_copy l D ca ad hi K1 hK1 (51 + 6 * (m5.1 24 1).toNatClampNeg) (fl_st_51 hk7) m5 _ _ hz10) hK1.1 (fl_fit_rm (by omega) (by decide)) rfl (Nat.le_of_ble_eq_true rfl) dX4_giveBack_56 rfl (fun H locs hP hS => ?_)
    refine W.eq (g2 := F0 mm 59 ls []) rfl ?_
    refine lv_iconst (v := (1 : Int32)) hx hb dX4_giveBack_59 (by decide) ?_
    exact fl_zret X hr hlk (by decide) hP hS dX4_giveBack_60 h
  refine lv_aload_n hx hb dX4_giveBack_0 rfl (lv_at hl 0 rfl) ?_
  refine fl_geti X hP fk_X4_30 k1_24 rfl dX4_giveBack_1 ?_
  refine lv_if_ne (tgt := 9) hx hb dX4_giveBack_4 (by decide) (fun c1 => ?_) (fun c1 => ?_)
  · replace h := fl_if_f h c1
    refine lv_aload_n hx hb dX4_giveBack_9 rfl (lv_at hl 0 rfl) ?_
    refine lv_aload_n hx hb dX4_giveBack_10 rfl (lv_at hl 0 rfl) ?_
    refine fl_geti X hP fk_X4_22 k1_24 rfl dX4_giveBack_11 ?_
    refine lv_if_le (tgt := 26) hx hb dX4_giveBack_14 (by decide) (fun c2 => ?_) (fun c2 => ?_)
    · replace h := fl_if_t h c2
      refine lv_aload_n hx hb dX4_giveBack_26 rfl (lv_at hl 0 rfl) ?_
      refine fl_getr X hP fk_X4_15 k1_24 rfl dX4_giveBack_27 ?_
      refine fl_alen (v := (8 : Int32)) X hP k1_25 (by decide) (by decide) dX4_giveBack_30 ?_
      refine lv_iconst (v := (1 : Int32)) hx hb dX4_giveBack_31 (by decide) ?_
      refine lv_isub hx hb dX4_giveBack_32 ?_
      exact j_33 _ _ _ _ _ h hP hS (lv_sub hl [0, 1] rfl)
    · replace h := fl_if_f h c2
      refine lv_aload_n hx hb dX4_giveBack_17 rfl (lv_at hl 0 rfl) ?_
      refine fl_geti X hP fk_X4_22 k1_24 rfl dX4_giveBack_18 ?_
      refine lv_iconst (v := (1 : Int32)) hx hb dX4_giveBack_21 (by decide) ?_
      refine lv_isub hx hb dX4_giveBack_22 ?_
      refine lv_goto (tgt := 33) hx hb dX4_giveBack_23 (by decide) ?_
      exact j_33 _ _ _ _ _ h hP hS (lv_sub hl [0, 1] rfl)
  · replace h := fl_if_t h c1
    refine lv_iconst (v := (0 : Int32)) hx hb dX4_giveBack_7 (by decide) ?_
    exact fl_zret X hr hlk (by decide) hP hS dX4_giveBack_8 h

def J_X4_giveBack_k_33 (K1 : Nat) (t1 : Int32) (m : Mem) : Option (Int32 × Mem) :=
  fl_lm (mI m 26 1 t1) (fun m3 =>
    fl_lm (mI m3 26 2 ((m3.1 26 2) - (1 : Int32))) (fun m5 =>
      fl_ck (0 ≤ (m5.1 26 1).toInt ∧ (m5.1 26 1).toInt < 2) (
        fl_bd (f_X5_copy K1 (99 + 6 * (m5.1 26 1).toNatClampNeg) m5) (fun r8 m9 =>
          some ((1 : Int32), m9)))))
def f_X4_giveBack_k (K1 : Nat) (m : Mem) : Option (Int32 × Mem) :=
  if (m.1 26 2) = 0 then (
    some ((0 : Int32), m))
  else (
    if (m.1 26 1) ≤ 0 then (
      J_X4_giveBack_k_33 K1 ((2 : Int32) - (1 : Int32)) m)
    else (
      J_X4_giveBack_k_33 K1 ((m.1 26 1) - (1 : Int32)) m))
set_option maxHeartbeats 4000000 in
set_option maxRecDepth 100000 in
theorem c_X4_giveBack_k (l : Launch) (D : va_G) (ca : Nat → ClassId) (ad : Nat → Nat) (hi : fl_inj L1 ad) (K1 : Nat) (hK1 : isStand K1) (m : Mem) (v' : Int32) (M' : Mem) (h : f_X4_giveBack_k K1 m = some (v', M')) : fl_M l L1 D ca ad yX4_giveBack cX4_giveBack 2 (some .boolean) 2 [.ref (ad 26), .ref (ad K1)] m (some (.int v')) M' := by
  unfold f_X4_giveBack_k at h
  refine fl_ofW (by decide) hi (Nat.le_of_ble_eq_true rfl) ?_
  intro p e s mm args below meth c ls X hr hlk hP hl
  have hl : lv_has ls 2 [(0, .ref (ad 26)), (1, .ref (ad K1))] := hl
  have X : fl_X p s mm args c cX4_giveBack 2 RX4 L1 D ca ad := X
  obtain ⟨hx, hb, hml, hown, hts, hE, -⟩ := id X
  have hS : va_S (fl_A L1 ad) s.heap s.heap [] := va_S.rf
  have j_33 : ∀ (t1 : Int32) (m : Mem) (H : Heap) (locs : List Loc) (ls : Array Slot), J_X4_giveBack_k_33 K1 t1 m = some (v', M') → va_P D vwCl (fl_w L1 ca ad m) H → va_S (fl_A L1 ad) s.heap H locs → lv_has ls 2 [(0, .ref (ad 26)), (1, .ref (ad K1))] → W p l e (fl_rm 2) s mm args below meth c H locs 0 0 (MQ below (fl_Q L1 D ca ad (some (.int v')) M') args s 0 0 (fl_A L1 ad)) (F0 mm 33 ls [.int t1, .ref (ad 26)]) := by
    intro t1 m H locs ls h hP hS hl
    unfold J_X4_giveBack_k_33 at h
    obtain ⟨m3, em4, h⟩ := fl_lm_e h
    refine fl_puti X hP hS pk_X4_22 k1_26 rfl rfl rfl dX4_giveBack_33 (fun H locs hP hS => ?_)
    have hP : va_P D vwCl (fl_w L1 ca ad m3) H := by rw [em4]; exact hP
    refine lv_aload_n hx hb dX4_giveBack_36 rfl (lv_at hl 0 rfl) ?_
    refine lv_dup hx hb dX4_giveBack_37 rfl ?_
    refine fl_geti X hP fk_X4_30 k1_26 rfl dX4_giveBack_38 ?_
    refine lv_iconst (v := (1 : Int32)) hx hb dX4_giveBack_41 (by decide) ?_
    refine lv_isub hx hb dX4_giveBack_42 ?_
    obtain ⟨m5, em6, h⟩ := fl_lm_e h
    refine fl_puti X hP hS pk_X4_30 k1_26 rfl rfl rfl dX4_giveBack_43 (fun H locs hP hS => ?_)
    have hP : va_P D vwCl (fl_w L1 ca ad m5) H := by rw [em6]; exact hP
    refine lv_aload_n hx hb dX4_giveBack_46 rfl (lv_at hl 1 rfl) ?_
    refine lv_aload_n hx hb dX4_giveBack_47 rfl (lv_at hl 0 rfl) ?_
    refine fl_getr X hP fk_X4_15 k1_26 rfl dX4_giveBack_48 ?_
    refine lv_aload_n hx hb dX4_giveBack_51 rfl (lv_at hl 0 rfl) ?_
    refine fl_geti X hP fk_X4_22 k1_26 rfl dX4_giveBack_52 ?_
    obtain ⟨hk7, h⟩ := fl_ck_e h
    refine fl_aald X hP k1_27 hk7 dX4_giveBack_55 ?_
    obtain ⟨r8, m9, hz10, h⟩ := fl_bd_e h
    refine fl_callV (av := [.ref (ad (99 + 6 * (m5.1 26 1).toNatClampNeg))]) X hP hS hl.1 mv_X4_26 (c_X5_copy l D ca ad hi K1 hK1 (99 + 6 * (m5.1 26 1).toNatClampNeg) (fl_st_99 hk7) m5 _ _ hz10) hK1.1 (fl_fit_rm (by omega) (by decide)) rfl (Nat.le_of_ble_eq_true rfl) dX4_giveBack_56 rfl (fun H locs hP hS => ?_)
    refine W.eq (g2 := F0 mm 59 ls []) rfl ?_
    refine lv_iconst (v := (1 : Int32)) hx hb dX4_giveBack_59 (by decide) ?_
    exact fl_zret X hr hlk (by decide) hP hS dX4_giveBack_60 h
  refine lv_aload_n hx hb dX4_giveBack_0 rfl (lv_at hl 0 rfl) ?_
  refine fl_geti X hP fk_X4_30 k1_26 rfl dX4_giveBack_1 ?_
  refine lv_if_ne (tgt := 9) hx hb dX4_giveBack_4 (by decide) (fun c1 => ?_) (fun c1 => ?_)
  · replace h := fl_if_f h c1
    refine lv_aload_n hx hb dX4_giveBack_9 rfl (lv_at hl 0 rfl) ?_
    refine lv_aload_n hx hb dX4_giveBack_10 rfl (lv_at hl 0 rfl) ?_
    refine fl_geti X hP fk_X4_22 k1_26 rfl dX4_giveBack_11 ?_
    refine lv_if_le (tgt := 26) hx hb dX4_giveBack_14 (by decide) (fun c2 => ?_) (fun c2 => ?_)
    · replace h := fl_if_t h c2
      refine lv_aload_n hx hb dX4_giveBack_26 rfl (lv_at hl 0 rfl) ?_
      refine fl_getr X hP fk_X4_15 k1_26 rfl dX4_giveBack_27 ?_
      refine fl_alen (v := (2 : Int32)) X hP k1_27 (by decide) (by decide) dX4_giveBack_30 ?_
      refine lv_iconst (v := (1 : Int32)) hx hb dX4_giveBack_31 (by decide) ?_
      refine lv_isub hx hb dX4_giveBack_32 ?_
      exact j_33 _ _ _ _ _ h hP hS (lv_sub hl [0, 1] rfl)
    · replace h := fl_if_f h c2
      refine lv_aload_n hx hb dX4_giveBack_17 rfl (lv_at hl 0 rfl) ?_
      refine fl_geti X hP fk_X4_22 k1_26 rfl dX4_giveBack_18 ?_
      refine lv_iconst (v := (1 : Int32)) hx hb dX4_giveBack_21 (by decide) ?_
      refine lv_isub hx hb dX4_giveBack_22 ?_
      refine lv_goto (tgt := 33) hx hb dX4_giveBack_23 (by decide) ?_
      exact j_33 _ _ _ _ _ h hP hS (lv_sub hl [0, 1] rfl)
  · replace h := fl_if_t h c1
    refine lv_iconst (v := (0 : Int32)) hx hb dX4_giveBack_7 (by decide) ?_
    exact fl_zret X hr hlk (by decide) hP hS dX4_giveBack_8 h

def f_X3_add (x1 : Int32) (x2 : Int32) (x3 : Int32) (m : Mem) : Option (Int32 × Mem) :=
  if (m.1 28 3) < (6 : Int32) then (
    fl_ck (0 ≤ (m.1 28 3).toInt ∧ (m.1 28 3).toInt < 6) (
      fl_lm (mI m 29 ((m.1 28 3).toNatClampNeg) x1) (fun m3 =>
        fl_ck (0 ≤ (m3.1 28 3).toInt ∧ (m3.1 28 3).toInt < 6) (
          fl_lm (mI m3 30 ((m3.1 28 3).toNatClampNeg) x2) (fun m6 =>
            fl_ck (0 ≤ (m6.1 28 3).toInt ∧ (m6.1 28 3).toInt < 6) (
              fl_lm (mI m6 31 ((m6.1 28 3).toNatClampNeg) x3) (fun m9 =>
                fl_lm (mI m9 28 3 ((m9.1 28 3) + (1 : Int32))) (fun m11 =>
                  some ((1 : Int32), m11)))))))))
  else (
    some ((0 : Int32), m))
set_option maxHeartbeats 4000000 in
set_option maxRecDepth 100000 in
theorem c_X3_add (l : Launch) (D : va_G) (ca : Nat → ClassId) (ad : Nat → Nat) (hi : fl_inj L1 ad) (x1 : Int32) (x2 : Int32) (x3 : Int32) (m : Mem) (v' : Int32) (M' : Mem) (h : f_X3_add x1 x2 x3 m = some (v', M')) : fl_M l L1 D ca ad yX3_add cX3_add 4 (some .boolean) 1 [.ref (ad 28), .int x1, .int x2, .int x3] m (some (.int v')) M' := by
  unfold f_X3_add at h
  refine fl_ofW (by decide) hi (Nat.le_of_ble_eq_true rfl) ?_
  intro p e s mm args below meth c ls X hr hlk hP hl
  have hl : lv_has ls 4 [(0, .ref (ad 28)), (1, .int x1), (2, .int x2), (3, .int x3)] := hl
  have X : fl_X p s mm args c cX3_add 4 RX3 L1 D ca ad := X
  obtain ⟨hx, hb, hml, hown, hts, hE, -⟩ := id X
  have hS : va_S (fl_A L1 ad) s.heap s.heap [] := va_S.rf
  refine lv_aload_n hx hb dX3_add_0 rfl (lv_at hl 0 rfl) ?_
  refine fl_geti X hP fk_X3_21 k1_28 rfl dX3_add_1 ?_
  refine lv_bipush (v := (6 : Int32)) hx hb dX3_add_4 (by decide) ?_
  refine lv_icmp_lt (tgt := 11) hx hb dX3_add_6 (by decide) (fun c1 => ?_) (fun c1 => ?_)
  · replace h := fl_if_t h c1
    refine lv_aload_n hx hb dX3_add_11 rfl (lv_at hl 0 rfl) ?_
    refine fl_getr X hP fk_X3_9 k1_28 rfl dX3_add_12 ?_
    refine lv_aload_n hx hb dX3_add_15 rfl (lv_at hl 0 rfl) ?_
    refine fl_geti X hP fk_X3_21 k1_28 rfl dX3_add_16 ?_
    refine lv_iload_n hx hb dX3_add_19 rfl (lv_at hl 1 rfl) ?_
    obtain ⟨hk2, h⟩ := fl_ck_e h
    obtain ⟨m3, em4, h⟩ := fl_lm_e h
    refine fl_iast X hP hS k1_29 hk2 dX3_add_20 (fun H locs hP hS => ?_)
    have hP : va_P D vwCl (fl_w L1 ca ad m3) H := by rw [em4]; exact hP
    refine lv_aload_n hx hb dX3_add_21 rfl (lv_at hl 0 rfl) ?_
    refine fl_getr X hP fk_X3_15 k1_28 rfl dX3_add_22 ?_
    refine lv_aload_n hx hb dX3_add_25 rfl (lv_at hl 0 rfl) ?_
    refine fl_geti X hP fk_X3_21 k1_28 rfl dX3_add_26 ?_
    refine lv_iload_n hx hb dX3_add_29 rfl (lv_at hl 2 rfl) ?_
    obtain ⟨hk5, h⟩ := fl_ck_e h
    obtain ⟨m6, em7, h⟩ := fl_lm_e h
    refine fl_iast X hP hS k1_30 hk5 dX3_add_30 (fun H locs hP hS => ?_)
    have hP : va_P D vwCl (fl_w L1 ca ad m6) H := by rw [em7]; exact hP
    refine lv_aload_n hx hb dX3_add_31 rfl (lv_at hl 0 rfl) ?_
    refine fl_getr X hP fk_X3_18 k1_28 rfl dX3_add_32 ?_
    refine lv_aload_n hx hb dX3_add_35 rfl (lv_at hl 0 rfl) ?_
    refine fl_geti X hP fk_X3_21 k1_28 rfl dX3_add_36 ?_
    refine lv_iload_n hx hb dX3_add_39 rfl (lv_at hl 3 rfl) ?_
    obtain ⟨hk8, h⟩ := fl_ck_e h
    obtain ⟨m9, em10, h⟩ := fl_lm_e h
    refine fl_iast X hP hS k1_31 hk8 dX3_add_40 (fun H locs hP hS => ?_)
    have hP : va_P D vwCl (fl_w L1 ca ad m9) H := by rw [em10]; exact hP
    refine lv_aload_n hx hb dX3_add_41 rfl (lv_at hl 0 rfl) ?_
    refine lv_dup hx hb dX3_add_42 rfl ?_
    refine fl_geti X hP fk_X3_21 k1_28 rfl dX3_add_43 ?_
    refine lv_iconst (v := (1 : Int32)) hx hb dX3_add_46 (by decide) ?_
    refine lv_iadd hx hb dX3_add_47 ?_
    obtain ⟨m11, em12, h⟩ := fl_lm_e h
    refine fl_puti X hP hS pk_X3_21 k1_28 rfl rfl rfl dX3_add_48 (fun H locs hP hS => ?_)
    have hP : va_P D vwCl (fl_w L1 ca ad m11) H := by rw [em12]; exact hP
    refine lv_iconst (v := (1 : Int32)) hx hb dX3_add_51 (by decide) ?_
    exact fl_zret X hr hlk (by decide) hP hS dX3_add_52 h
  · replace h := fl_if_f h c1
    refine lv_iconst (v := (0 : Int32)) hx hb dX3_add_9 (by decide) ?_
    exact fl_zret X hr hlk (by decide) hP hS dX3_add_10 h
