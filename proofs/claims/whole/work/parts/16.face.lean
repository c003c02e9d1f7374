def f_X8_write (x1 : Int32) (m : Mem) : Option (Int32 × Mem) :=
  fl_bd (f_X8_within x1 (32 : Int32) (126 : Int32) m) (fun r1 m2 =>
    if r1 = 0 then (
      some ((-1 : Int32), m2))
    else (
      fl_bd (f_X6_add ((x1.toUInt32 % 65536).toInt32) m2) (fun r5 m6 =>
        if r5 = 0 then (
          some ((-3 : Int32), m6))
        else (
          some (m6.1 1 1, m6)))))
set_option maxHeartbeats 4000000 in
set_option maxRecDepth 100000 in
theorem c_X8_write (l : Launch) (D : va_G) (ca : Nat → ClassId) (ad : Nat → Nat) (hi : fl_inj L1 ad) (x1 : Int32) (m : Mem) (v' : Int32) (M' : Mem) (h : f_X8_write x1 m = some (v', M')) : fl_M l L1 D ca ad yX8_write cX8_write 2 (some .int) 2 [.ref (ad 0), .int x1] m (some (.int v')) M' := by
  unfold f_X8_write at h
  refine fl_ofW (by decide) hi (Nat.le_of_ble_eq_true rfl) ?_
  intro p e s mm args below meth c ls X hr hlk hP hl
  have hl : lv_has ls 2 [(0, .ref (ad 0)), (1, .int x1)] := hl
  have X : fl_X p s mm args c cX8_write 2 RX8 L1 D ca ad := X
  obtain ⟨hx, hb, hml, hown, hts, hE, -⟩ := id X
  have hS : va_S (fl_A L1 ad) s.heap s.heap [] := va_S.rf
  refine lv_iload_n hx hb dX8_write_0 rfl (lv_at hl 1 rfl) ?_
  refine lv_bipush (v := (32 : Int32)) hx hb dX8_write_1 (by decide) ?_
  refine lv_bipush (v := (126 : Int32)) hx hb dX8_write_3 (by decide) ?_
  obtain ⟨r1, m2, hz3, h⟩ := fl_bd_e h
  refine fl_callS (av := [.int x1, .int (32 : Int32), .int (126 : Int32)]) X hP hS hl.1 ms_X8_99 (c_X8_within l D ca ad hi x1 (32 : Int32) (126 : Int32) m _ _ hz3) (fl_fit_rm (by omega) (by decide)) rfl (Nat.le_of_ble_eq_true rfl) dX8_write_5 rfl (fun H locs hP hS => ?_)
  refine W.eq (g2 := F0 mm 8 ls [.int r1]) rfl ?_
  refine lv_if_ne (tgt := 13) hx hb dX8_write_8 (by decide) (fun c4 => ?_) (fun c4 => ?_)
  · replace h := fl_if_f h c4
    refine lv_aload_n hx hb dX8_write_13 rfl (lv_at hl 0 rfl) ?_
    refine fl_getr X hP fk_X8_12 k1_0 rfl dX8_write_14 ?_
    refine lv_iload_n hx hb dX8_write_17 rfl (lv_at hl 1 rfl) ?_
    refine lv_i2c (v := (x1.toUInt32 % 65536).toInt32) hx hb dX8_write_18 rfl ?_
    obtain ⟨r5, m6, hz7, h⟩ := fl_bd_e h
    refine fl_callV (av := [.int ((x1.toUInt32 % 65536).toInt32)]) X hP hS hl.1 mv_X8_85 (c_X6_add l D ca ad hi ((x1.toUInt32 % 65536).toInt32) m2 _ _ hz7) k1_1 (fl_fit_rm (by omega) (by decide)) rfl (Nat.le_of_ble_eq_true rfl) dX8_write_19 rfl (fun H locs hP hS => ?_)
    refine W.eq (g2 := F0 mm 22 ls [.int r5]) rfl ?_
    refine lv_if_eq (tgt := 35) hx hb dX8_write_22 (by decide) (fun c8 => ?_) (fun c8 => ?_)
    · replace h := fl_if_t h c8
      refine lv_bipush (v := (-3 : Int32)) hx hb dX8_write_35 (by decide) ?_
      exact fl_iret X hr hlk hP hS dX8_write_37 h
    · replace h := fl_if_f h c8
      refine lv_aload_n hx hb dX8_write_25 rfl (lv_at hl 0 rfl) ?_
      refine fl_getr X hP fk_X8_12 k1_0 rfl dX8_write_26 ?_
      refine fl_geti X hP fk_X8_93 k1_1 rfl dX8_write_29 ?_
      refine lv_goto (tgt := 37) hx hb dX8_write_32 (by decide) ?_
      exact fl_iret X hr hlk hP hS dX8_write_37 h
  · replace h := fl_if_t h c4
    refine lv_iconst (v := (-1 : Int32)) hx hb dX8_write_11 (by decide) ?_
    exact fl_iret X hr hlk hP hS dX8_write_12 h

def f_X8_wipe  (m : Mem) : Option (Int32 × Mem) :=
  fl_li (m.1 1 1) (fun z1 =>
    fl_lm (mI m 1 1 (0 : Int32)) (fun m3 =>
      some (z1, m3)))
set_option maxHeartbeats 4000000 in
set_option maxRecDepth 100000 in
theorem c_X8_wipe (l : Launch) (D : va_G) (ca : Nat → ClassId) (ad : Nat → Nat) (hi : fl_inj L1 ad)  (m : Mem) (v' : Int32) (M' : Mem) (h : f_X8_wipe  m = some (v', M')) : fl_M l L1 D ca ad yX8_wipe cX8_wipe 2 (some .int) 1 [.ref (ad 0)] m (some (.int v')) M' := by
  unfold f_X8_wipe at h
  refine fl_ofW (by decide) hi (Nat.le_of_ble_eq_true rfl) ?_
  intro p e s mm args below meth c ls X hr hlk hP hl
  have hl : lv_has ls 2 [(0, .ref (ad 0))] := hl
  have X : fl_X p s mm args c cX8_wipe 2 RX8 L1 D ca ad := X
  obtain ⟨hx, hb, hml, hown, hts, hE, -⟩ := id X
  have hS : va_S (fl_A L1 ad) s.heap s.heap [] := va_S.rf
  refine lv_aload_n hx hb dX8_wipe_0 rfl (lv_at hl 0 rfl) ?_
  refine fl_getr X hP fk_X8_12 k1_0 rfl dX8_wipe_1 ?_
  refine fl_geti X hP fk_X8_93 k1_1 rfl dX8_wipe_4 ?_
  obtain ⟨z1, ez2, h⟩ := fl_li_e h
  refine fl_topi ez2 ?_
  refine lv_istore_n (lv' := [(1, .int z1), (0, .ref (ad 0))]) hx hb dX8_wipe_7 rfl hl (by decide) rfl (fun ls hl => ?_)
  refine lv_aload_n hx hb dX8_wipe_8 rfl (lv_at hl 1 rfl) ?_
  refine fl_getr X hP fk_X8_12 k1_0 rfl dX8_wipe_9 ?_
  refine lv_iconst (v := (0 : Int32)) hx hb dX8_wipe_12 (by decide) ?_
  obtain ⟨m3, em4, h⟩ := fl_lm_e h
  refine fl_puti X hP hS pk_X8_93 k1_1 rfl rfl rfl dX8_wipe_13 (fun H locs hP hS => ?_)
  have hP : va_P D vwCl (fl_w L1 ca ad m3) H := by rw [em4]; exact hP
  refine lv_iload_n hx hb dX8_wipe_16 rfl (lv_at hl 0 rfl) ?_
  exact fl_iret X hr hlk hP hS dX8_wipe_17 h

def f_X8_fault (N : Nat)  (m : Mem) : Option (Int32 × Mem) :=
  fl_bd (f_X6_readInto N 14 m) (fun r1 m2 =>
    some (r1, m2))
set_option maxHeartbeats 4000000 in
set_option maxRecDepth 100000 in
theorem c_X8_fault (l : Launch) (D : va_G) (ca : Nat → ClassId) (ad : Nat → Nat) (hi : fl_inj L1 ad) (N : Nat)  (m : Mem) (v' : Int32) (M' : Mem) (h : f_X8_fault N  m = some (v', M')) : fl_M l L1 D ca ad yX8_fault cX8_fault 1 (some .int) 6 [.ref (ad 0)] m (some (.int v')) M' := by
  unfold f_X8_fault at h
  refine fl_ofW (by decide) hi (Nat.le_of_ble_eq_true rfl) ?_
  intro p e s mm args below meth c ls X hr hlk hP hl
  have hl : lv_has ls 1 [(0, .ref (ad 0))] := hl
  have X : fl_X p s mm args c cX8_fault 1 RX8 L1 D ca ad := X
  obtain ⟨hx, hb, hml, hown, hts, hE, -⟩ := id X
  have hS : va_S (fl_A L1 ad) s.heap s.heap [] := va_S.rf
  refine lv_aload_n hx hb dX8_fault_0 rfl (lv_at hl 0 rfl) ?_
  refine fl_getr X hP fk_X8_12 k1_0 rfl dX8_fault_1 ?_
  refine lv_aload_n hx hb dX8_fault_4 rfl (lv_at hl 0 rfl) ?_
  refine fl_getr X hP fk_X8_23 k1_0 rfl dX8_fault_5 ?_
  obtain ⟨r1, m2, hz3, h⟩ := fl_bd_e h
  refine fl_callV (av := [.ref (ad 14)]) X hP hS hl.1 mv_X8_89 (c_X6_readInto l D ca ad hi N 14 ct_14 m _ _ hz3) k1_1 (fl_fit_rm (by omega) (by decide)) rfl (Nat.le_of_ble_eq_true rfl) dX8_fault_8 rfl (fun H locs hP hS => ?_)
  refine W.eq (g2 := F0 mm 11 ls [.int r1]) rfl ?_
  exact fl_iret X hr hlk hP hS dX8_fault_11 h

def f_X8_lay (N : Nat)  (m : Mem) : Option (Int32 × Mem) :=
  fl_bd (f_X6_readInto N 14 m) (fun r1 m2 =>
    if r1 = (-4 : Int32) then (
      if (m2.1 14 2) = 0 then (
        some ((-2 : Int32), m2))
      else (
        if (m2.1 14 3) = 0 then (
          some ((-2 : Int32), m2))
        else (
          fl_bd (f_X6_readInto N 4 m2) (fun r7 m8 =>
            fl_bd (f_X8_begin N  m8) (fun r10 m11 =>
              fl_bd (f_X0_places 4 m11) (fun r13 m14 =>
                some (r13, m14)))))))
    else (
      some ((-2 : Int32), m2)))
set_option maxHeartbeats 4000000 in
set_option maxRecDepth 100000 in
theorem c_X8_lay (l : Launch) (D : va_G) (ca : Nat → ClassId) (ad : Nat → Nat) (hi : fl_inj L1 ad) (N : Nat)  (m : Mem) (v' : Int32) (M' : Mem) (h : f_X8_lay N  m = some (v', M')) : fl_M l L1 D ca ad yX8_lay cX8_lay 1 (some .int) 6 [.ref (ad 0)] m (some (.int v')) M' := by
  unfold f_X8_lay at h
  refine fl_ofW (by decide) hi (Nat.le_of_ble_eq_true rfl) ?_
  intro p e s mm args below meth c ls X hr hlk hP hl
  have hl : lv_has ls 1 [(0, .ref (ad 0))] := hl
  have X : fl_X p s mm args c cX8_lay 1 RX8 L1 D ca ad := X
  obtain ⟨hx, hb, hml, hown, hts, hE, -⟩ := id X
  have hS : va_S (fl_A L1 ad) s.heap s.heap [] := va_S.rf
  refine lv_aload_n hx hb dX8_lay_0 rfl (lv_at hl 0 rfl) ?_
  refine fl_getr X hP fk_X8_12 k1_0 rfl dX8_lay_1 ?_
  refine lv_aload_n hx hb dX8_lay_4 rfl (lv_at hl 0 rfl) ?_
  refine fl_getr X hP fk_X8_23 k1_0 rfl dX8_lay_5 ?_
  obtain ⟨r1, m2, hz3, h⟩ := fl_bd_e h
  refine fl_callV (av := [.ref (ad 14)]) X hP hS hl.1 mv_X8_89 (c_X6_readInto l D ca ad hi N 14 ct_14 m _ _ hz3) k1_1 (fl_fit_rm (by omega) (by decide)) rfl (Nat.le_of_ble_eq_true rfl) dX8_lay_8 rfl (fun H locs hP hS => ?_)
  refine W.eq (g2 := F0 mm 11 ls [.int r1]) rfl ?_
  refine lv_bipush (v := (-4 : Int32)) hx hb dX8_lay_11 (by decide) ?_
  refine lv_icmp_ne (tgt := 36) hx hb dX8_lay_13 (by decide) (fun c4 => ?_) (fun c4 => ?_)
  · replace h := fl_if_f h c4
    refine lv_bipush (v := (-2 : Int32)) hx hb dX8_lay_36 (by decide) ?_
    exact fl_iret X hr hlk hP hS dX8_lay_38 h
  · replace h := fl_if_t h c4
    refine lv_aload_n hx hb dX8_lay_16 rfl (lv_at hl 0 rfl) ?_
    refine fl_getr X hP fk_X8_23 k1_0 rfl dX8_lay_17 ?_
    refine fl_geti X hP fk_X8_103 k1_14 rfl dX8_lay_20 ?_
    refine lv_if_eq (tgt := 36) hx hb dX8_lay_23 (by decide) (fun c5 => ?_) (fun c5 => ?_)
    · replace h := fl_if_t h c5
      refine lv_bipush (v := (-2 : Int32)) hx hb dX8_lay_36 (by decide) ?_
      exact fl_iret X hr hlk hP hS dX8_lay_38 h
    · replace h := fl_if_f h c5
      refine lv_aload_n hx hb dX8_lay_26 rfl (lv_at hl 0 rfl) ?_
      refine fl_getr X hP fk_X8_23 k1_0 rfl dX8_lay_27 ?_
      refine fl_geti X hP fk_X8_106 k1_14 rfl dX8_lay_30 ?_
      refine lv_if_ne (tgt := 39) hx hb dX8_lay_33 (by decide) (fun c6 => ?_) (fun c6 => ?_)
      · replace h := fl_if_f h c6
        refine lv_aload_n hx hb dX8_lay_39 rfl (lv_at hl 0 rfl) ?_
        refine fl_getr X hP fk_X8_12 k1_0 rfl dX8_lay_40 ?_
        refine lv_aload_n hx hb dX8_lay_43 rfl (lv_at hl 0 rfl) ?_
        refine fl_getr X hP fk_X8_19 k1_0 rfl dX8_lay_44 ?_
        obtain ⟨r7, m8, hz9, h⟩ := fl_bd_e h
        refine fl_callV (av := [.ref (ad 4)]) X hP hS hl.1 mv_X8_89 (c_X6_readInto l D ca ad hi N 4 ct_4 m2 _ _ hz9) k1_1 (fl_fit_rm (by omega) (by decide)) rfl (Nat.le_of_ble_eq_true rfl) dX8_lay_47 rfl (fun H locs hP hS => ?_)
        refine W.eq (g2 := F0 mm 50 ls [.int r7]) rfl ?_
        refine lv_pop hx hb dX8_lay_50 rfl ?_
        refine lv_aload_n hx hb dX8_lay_51 rfl (lv_at hl 0 rfl) ?_
        obtain ⟨r10, m11, hz12, h⟩ := fl_bd_e h
        refine fl_callV (av := []) X hP hS hl.1 mv_X8_96 (c_X8_begin l D ca ad hi N  m8 _ _ hz12) k1_0 (fl_fit_rm (by omega) (by decide)) rfl (Nat.le_of_ble_eq_true rfl) dX8_lay_52 rfl (fun H locs hP hS => ?_)
        refine W.eq (g2 := F0 mm 55 ls []) rfl ?_
        refine lv_aload_n hx hb dX8_lay_55 rfl (lv_at hl 0 rfl) ?_
        refine fl_getr X hP fk_X8_19 k1_0 rfl dX8_lay_56 ?_
        obtain ⟨r13, m14, hz15, h⟩ := fl_bd_e h
        refine fl_callV (av := []) X hP hS hl.1 mv_X8_109 (c_X0_places l D ca ad hi 4 ct_4 m11 _ _ hz15) k1_4 (fl_fit_rm (by omega) (by decide)) rfl (Nat.le_of_ble_eq_true rfl) dX8_lay_59 rfl (fun H locs hP hS => ?_)
        refine W.eq (g2 := F0 mm 62 ls [.int r13]) rfl ?_
        exact fl_iret X hr hlk hP hS dX8_lay_62 h
      · replace h := fl_if_t h c6
        refine lv_bipush (v := (-2 : Int32)) hx hb dX8_lay_36 (by decide) ?_
        exact fl_iret X hr hlk hP hS dX8_lay_38 h

def f_X8_far (x1 : Int32) (x2 : Int32) (m : Mem) : Option (Int32 × Mem) :=
  fl_bd (f_X0_hasPlace 4 x1 m) (fun r1 m2 =>
    if r1 = 0 then (
      some ((-1 : Int32), m2))
    else (
      fl_bd (f_X0_hasPlace 4 x2 m2) (fun r5 m6 =>
        if r5 = 0 then (
          some ((-1 : Int32), m6))
        else (
          fl_bd (f_X0_steps 4 x1 x2 m6) (fun r9 m10 =>
            some (r9, m10))))))
set_option maxHeartbeats 4000000 in
set_option maxRecDepth 100000 in
theorem c_X8_far (l : Launch) (D : va_G) (ca : Nat → ClassId) (ad : Nat → Nat) (hi : fl_inj L1 ad) (x1 : Int32) (x2 : Int32) (m : Mem) (v' : Int32) (M' : Mem) (h : f_X8_far x1 x2 m = some (v', M')) : fl_M l L1 D ca ad yX8_far cX8_far 3 (some .int) 3 [.ref (ad 0), .int x1, .int x2] m (some (.int v')) M' := by
  unfold f_X8_far at h
  refine fl_ofW (by decide) hi (Nat.le_of_ble_eq_true rfl) ?_
  intro p e s mm args below meth c ls X hr hlk hP hl
  have hl : lv_has ls 3 [(0, .ref (ad 0)), (1, .int x1), (2, .int x2)] := hl
  have X : fl_X p s mm args c cX8_far 3 RX8 L1 D ca ad := X
  obtain ⟨hx, hb, hml, hown, hts, hE, -⟩ := id X
  have hS : va_S (fl_A L1 ad) s.heap s.heap [] := va_S.rf
  refine lv_aload_n hx hb dX8_far_0 rfl (lv_at hl 0 rfl) ?_
  refine fl_getr X hP fk_X8_19 k1_0 rfl dX8_far_1 ?_
  refine lv_iload_n hx hb dX8_far_4 rfl (lv_at hl 1 rfl) ?_
  obtain ⟨r1, m2, hz3, h⟩ := fl_bd_e h
  refine fl_callV (av := [.int x1]) X hP hS hl.1 mv_X8_112 (c_X0_hasPlace l D ca ad hi 4 ct_4 x1 m _ _ hz3) k1_4 (fl_fit_rm (by omega) (by decide)) rfl (Nat.le_of_ble_eq_true rfl) dX8_far_5 rfl (fun H locs hP hS => ?_)
  refine W.eq (g2 := F0 mm 8 ls [.int r1]) rfl ?_
  refine lv_if_eq (tgt := 34) hx hb dX8_far_8 (by decide) (fun c4 => ?_) (fun c4 => ?_)
  · replace h := fl_if_t h c4
    refine lv_iconst (v := (-1 : Int32)) hx hb dX8_far_34 (by decide) ?_
    exact fl_iret X hr hlk hP hS dX8_far_35 h
  · replace h := fl_if_f h c4
    refine lv_aload_n hx hb dX8_far_11 rfl (lv_at hl 0 rfl) ?_
    refine fl_getr X hP fk_X8_19 k1_0 rfl dX8_far_12 ?_
    refine lv_iload_n hx hb dX8_far_15 rfl (lv_at hl 2 rfl) ?_
    obtain ⟨r5, m6, hz7, h⟩ := fl_bd_e h
    refine fl_callV (av := [.int x2]) X hP hS hl.1 mv_X8_112 (c_X0_hasPlace l D ca ad hi 4 ct_4 x2 m2 _ _ hz7) k1_4 (fl_fit_rm (by omega) (by decide)) rfl (Nat.le_of_ble_eq_true rfl) dX8_far_16 rfl (fun H locs hP hS => ?_)
    refine W.eq (g2 := F0 mm 19 ls [.int r5]) rfl ?_
    refine lv_if_eq (tgt := 34) hx hb dX8_far_19 (by decide) (fun c8 => ?_) (fun c8 => ?_)
    · replace h := fl_if_t h c8
      refine lv_iconst (v := (-1 : Int32)) hx hb dX8_far_34 (by decide) ?_
      exact fl_iret X hr hlk hP hS dX8_far_35 h
    · replace h := fl_if_f h c8
      refine lv_aload_n hx hb dX8_far_22 rfl (lv_at hl 0 rfl) ?_
      refine fl_getr X hP fk_X8_19 k1_0 rfl dX8_far_23 ?_
      refine lv_iload_n hx hb dX8_far_26 rfl (lv_at hl 1 rfl) ?_
      refine lv_iload_n hx hb dX8_far_27 rfl (lv_at hl 2 rfl) ?_
      obtain ⟨r9, m10, hz11, h⟩ := fl_bd_e h
      refine fl_callV (av := [.int x1, .int x2]) X hP hS hl.1 mv_X8_116 (c_X0_steps l D ca ad hi 4 ct_4 x1 x2 m6 _ _ hz11) k1_4 (fl_fit_rm (by omega) (by decide)) rfl (Nat.le_of_ble_eq_true rfl) dX8_far_28 rfl (fun H locs hP hS => ?_)
      refine W.eq (g2 := F0 mm 31 ls [.int r9]) rfl ?_
      refine lv_goto (tgt := 35) hx hb dX8_far_31 (by decide) ?_
      exact fl_iret X hr hlk hP hS dX8_far_35 h

def f_X8_cab (x1 : Int32) (x2 : Int32) (m : Mem) : Option (Int32 × Mem) :=
  fl_bd (f_X0_hasCab 4 x1 m) (fun r1 m2 =>
    if r1 = 0 then (
      some ((-1 : Int32), m2))
    else (
      if x2 = (0 : Int32) then (
        fl_ck (0 ≤ x1.toInt ∧ x1.toInt < 3) (
          some (m2.1 5 (x1.toNatClampNeg), m2)))
      else (
        if x2 = (1 : Int32) then (
          fl_ck (0 ≤ x1.toInt ∧ x1.toInt < 3) (
            some (m2.1 40 (x1.toNatClampNeg), m2)))
        else (
          if x2 = (2 : Int32) then (
            fl_ck (0 ≤ x1.toInt ∧ x1.toInt < 3) (
              some (m2.1 41 (x1.toNatClampNeg), m2)))
          else (
            if x2 = (3 : Int32) then (
              fl_ck (0 ≤ x1.toInt ∧ x1.toInt < 3) (
                some (m2.1 42 (x1.toNatClampNeg), m2)))
            else (
              some ((-1 : Int32), m2)))))))
set_option maxHeartbeats 4000000 in
set_option maxRecDepth 100000 in
theorem c_X8_cab (l : Launch) (D : va_G) (ca : Nat → ClassId) (ad : Nat → Nat) (hi : fl_inj L1 ad) (x1 : Int32) (x2 : Int32) (m : Mem) (v' : Int32) (M' : Mem) (h : f_X8_cab x1 x2 m = some (v', M')) : fl_M l L1 D ca ad yX8_cab cX8_cab 3 (some .int) 3 [.ref (ad 0), .int x1, .int x2] m (some (.int v')) M' := by
  unfold f_X8_cab at h
  refine fl_ofW (by decide) hi (Nat.le_of_ble_eq_true rfl) ?_
  intro p e s mm args below meth c ls X hr hlk hP hl
  have hl : lv_has ls 3 [(0, .ref (ad 0)), (1, .int x1), (2, .int x2)] := hl
  have X : fl_X p s mm args c cX8_cab 3 RX8 L1 D ca ad := X
  obtain ⟨hx, hb, hml, hown, hts, hE, -⟩ := id X
  have hS : va_S (fl_A L1 ad) s.heap s.heap [] := va_S.rf
  refine lv_aload_n hx hb dX8_cab_0 rfl (lv_at hl 0 rfl) ?_
  refine fl_getr X hP fk_X8_19 k1_0 rfl dX8_cab_1 ?_
  refine lv_iload_n hx hb dX8_cab_4 rfl (lv_at hl 1 rfl) ?_
  obtain ⟨r1, m2, hz3, h⟩ := fl_bd_e h
  refine fl_callV (av := [.int x1]) X hP hS hl.1 mv_X8_120 (c_X0_hasCab l D ca ad hi 4 ct_4 x1 m _ _ hz3) k1_4 (fl_fit_rm (by omega) (by decide)) rfl (Nat.le_of_ble_eq_true rfl) dX8_cab_5 rfl (fun H locs hP hS => ?_)
  refine W.eq (g2 := F0 mm 8 ls [.int r1]) rfl ?_
  refine lv_if_ne (tgt := 13) hx hb dX8_cab_8 (by decide) (fun c4 => ?_) (fun c4 => ?_)
  · replace h := fl_if_f h c4
    refine lv_iload_n hx hb dX8_cab_13 rfl (lv_at hl 2 rfl) ?_
    by_cases c_0 : x2 = (0 : Int32)
    · replace h := fl_if_t h c_0
      refine lv_tableIn (off := 30) (tgt := 44) hx hb dX8_cab_14 (by rw [c_0]; decide) (by rw [c_0]; decide) (by rw [c_0]; rfl) (by decide) ?_
      refine lv_aload_n hx hb dX8_cab_44 rfl (lv_at hl 0 rfl) ?_
      refine fl_getr X hP fk_X8_19 k1_0 rfl dX8_cab_45 ?_
      refine fl_getr X hP fk_X8_123 k1_4 rfl dX8_cab_48 ?_
      refine lv_iload_n hx hb dX8_cab_51 rfl (lv_at hl 1 rfl) ?_
      obtain ⟨hk5, h⟩ := fl_ck_e h
      refine fl_iald X hP k1_5 hk5 dX8_cab_52 ?_
      exact fl_iret X hr hlk hP hS dX8_cab_53 h
    · replace h := fl_if_f h c_0
      by_cases c_1 : x2 = (1 : Int32)
      · replace h := fl_if_t h c_1
        refine lv_tableIn (off := 40) (tgt := 54) hx hb dX8_cab_14 (by rw [c_1]; decide) (by rw [c_1]; decide) (by rw [c_1]; rfl) (by decide) ?_
        refine lv_aload_n hx hb dX8_cab_54 rfl (lv_at hl 0 rfl) ?_
        refine fl_getr X hP fk_X8_29 k1_0 rfl dX8_cab_55 ?_
        refine fl_getr X hP fk_X8_127 k1_39 rfl dX8_cab_58 ?_
        refine lv_iload_n hx hb dX8_cab_61 rfl (lv_at hl 1 rfl) ?_
        obtain ⟨hk6, h⟩ := fl_ck_e h
        refine fl_iald X hP k1_40 hk6 dX8_cab_62 ?_
        exact fl_iret X hr hlk hP hS dX8_cab_63 h
      · replace h := fl_if_f h c_1
        by_cases c_2 : x2 = (2 : Int32)
        · replace h := fl_if_t h c_2
          refine lv_tableIn (off := 50) (tgt := 64) hx hb dX8_cab_14 (by rw [c_2]; decide) (by rw [c_2]; decide) (by rw [c_2]; rfl) (by decide) ?_
          refine lv_aload_n hx hb dX8_cab_64 rfl (lv_at hl 0 rfl) ?_
          refine fl_getr X hP fk_X8_29 k1_0 rfl dX8_cab_65 ?_
          refine fl_getr X hP fk_X8_130 k1_39 rfl dX8_cab_68 ?_
          refine lv_iload_n hx hb dX8_cab_71 rfl (lv_at hl 1 rfl) ?_
          obtain ⟨hk7, h⟩ := fl_ck_e h
          refine fl_iald X hP k1_41 hk7 dX8_cab_72 ?_
          exact fl_iret X hr hlk hP hS dX8_cab_73 h
        · replace h := fl_if_f h c_2
          by_cases c_3 : x2 = (3 : Int32)
          · replace h := fl_if_t h c_3
            refine lv_tableIn (off := 60) (tgt := 74) hx hb dX8_cab_14 (by rw [c_3]; decide) (by rw [c_3]; decide) (by rw [c_3]; rfl) (by decide) ?_
            refine lv_aload_n hx hb dX8_cab_74 rfl (lv_at hl 0 rfl) ?_
            refine fl_getr X hP fk_X8_29 k1_0 rfl dX8_cab_75 ?_
            refine fl_getr X hP fk_X8_133 k1_39 rfl dX8_cab_78 ?_
            refine lv_iload_n hx hb dX8_cab_81 rfl (lv_at hl 1 rfl) ?_
            obtain ⟨hk8, h⟩ := fl_ck_e h
            refine fl_iald X hP k1_42 hk8 dX8_cab_82 ?_
            exact fl_iret X hr hlk hP hS dX8_cab_83 h
          · replace h := fl_if_f h c_3
            refine lv_tableOut (tgt := 84) hx hb dX8_cab_14 (by have e0 := lv_neT c_0 (a := 0) (by decide); have e1 := lv_neT c_1 (a := 1) (by decide); have e2 := lv_neT c_2 (a := 2) (by decide); have e3 := lv_neT c_3 (a := 3) (by decide); omega) (by decide) ?_
            refine lv_iconst (v := (-1 : Int32)) hx hb dX8_cab_84 (by decide) ?_
            exact fl_iret X hr hlk hP hS dX8_cab_85 h
  · replace h := fl_if_t h c4
    refine lv_iconst (v := (-1 : Int32)) hx hb dX8_cab_11 (by decide) ?_
    exact fl_iret X hr hlk hP hS dX8_cab_12 h

def f_X8_fare (x1 : Int32) (x2 : Int32) (m : Mem) : Option (Int32 × Mem) :=
  fl_bd (f_X0_hasFare 4 x1 m) (fun r1 m2 =>
    if r1 = 0 then (
      some ((-1 : Int32), m2))
    else (
      if x2 = (0 : Int32) then (
        fl_ck (0 ≤ x1.toInt ∧ x1.toInt < 7) (
          some (m2.1 8 (x1.toNatClampNeg), m2)))
      else (
        if x2 = (1 : Int32) then (
          fl_ck (0 ≤ x1.toInt ∧ x1.toInt < 7) (
            some (m2.1 9 (x1.toNatClampNeg), m2)))
        else (
          if x2 = (2 : Int32) then (
            fl_ck (0 ≤ x1.toInt ∧ x1.toInt < 7) (
              some (m2.1 10 (x1.toNatClampNeg), m2)))
          else (
            if x2 = (3 : Int32) then (
              fl_ck (0 ≤ x1.toInt ∧ x1.toInt < 7) (
                some (m2.1 11 (x1.toNatClampNeg), m2)))
            else (
              if x2 = (4 : Int32) then (
                fl_ck (0 ≤ x1.toInt ∧ x1.toInt < 7) (
                  some (m2.1 12 (x1.toNatClampNeg), m2)))
              else (
                if x2 = (5 : Int32) then (
                  fl_bd (f_X5_isTaken 39 x1 m2) (fun r10 m11 =>
                    if r10 = 0 then (
                      some ((0 : Int32), m11))
                    else (
                      some ((1 : Int32), m11))))
                else (
                  if x2 = (6 : Int32) then (
                    fl_ck (0 ≤ x1.toInt ∧ x1.toInt < 7) (
                      some (m2.1 43 (x1.toNatClampNeg), m2)))
                  else (
                    if x2 = (7 : Int32) then (
                      fl_ck (0 ≤ x1.toInt ∧ x1.toInt < 7) (
                        some (m2.1 44 (x1.toNatClampNeg), m2)))
                    else (
                      some ((-1 : Int32), m2)))))))))))
set_option maxHeartbeats 4000000 in
set_option maxRecDepth 100000 in
theorem c_X8_fare (l : Launch) (D : va_G) (ca : Nat → ClassId) (ad : Nat → Nat) (hi : fl_inj L1 ad) (x1 : Int32) (x2 : Int32) (m : Mem) (v' : Int32) (M' : Mem) (h : f_X8_fare x1 x2 m = some (v', M')) : fl_M l L1 D ca ad yX8_fare cX8_fare 3 (some .int) 3 [.ref (ad 0), .int x1, .int x2] m (some (.int v')) M' := by
  unfold f_X8_fare at h
  refine fl_ofW (by decide) hi (Nat.le_of_ble_eq_true rfl) ?_
  intro p e s mm args below meth c ls X hr hlk hP hl
  have hl : lv_has ls 3 [(0, .ref (ad 0)), (1, .int x1), (2, .int x2)] := hl
  have X : fl_X p s mm args c cX8_fare 3 RX8 L1 D ca ad := X
  obtain ⟨hx, hb, hml, hown, hts, hE, -⟩ := id X
  have hS : va_S (fl_A L1 ad) s.heap s.heap [] := va_S.rf
  refine lv_aload_n hx hb dX8_fare_0 rfl (lv_at hl 0 rfl) ?_
  refine fl_getr X hP fk_X8_19 k1_0 rfl dX8_fare_1 ?_
  refine lv_iload_n hx hb dX8_fare_4 rfl (lv_at hl 1 rfl) ?_
  obtain ⟨r1, m2, hz3, h⟩ := fl_bd_e h
  refine fl_callV (av := [.int x1]) X hP hS hl.1 mv_X8_136 (c_X0_hasFare l D ca ad hi 4 ct_4 x1 m _ _ hz3) k1_4 (fl_fit_rm (by omega) (by decide)) rfl (Nat.le_of_ble_eq_true rfl) dX8_fare_5 rfl (fun H locs hP hS => ?_)
  refine W.eq (g2 := F0 mm 8 ls [.int r1]) rfl ?_
  refine lv_if_ne (tgt := 13) hx hb dX8_fare_8 (by decide) (fun c4 => ?_) (fun c4 => ?_)
  · replace h := fl_if_f h c4
    refine lv_iload_n hx hb dX8_fare_13 rfl (lv_at hl 2 rfl) ?_
    by_cases c_0 : x2 = (0 : Int32)
    · replace h := fl_if_t h c_0
      refine lv_tableIn (off := 46) (tgt := 60) hx hb dX8_fare_14 (by rw [c_0]; decide) (by rw [c_0]; decide) (by rw [c_0]; rfl) (by decide) ?_
      refine lv_aload_n hx hb dX8_fare_60 rfl (lv_at hl 0 rfl) ?_
      refine fl_getr X hP fk_X8_19 k1_0 rfl dX8_fare_61 ?_
      refine fl_getr X hP fk_X8_139 k1_4 rfl dX8_fare_64 ?_
      refine lv_iload_n hx hb dX8_fare_67 rfl (lv_at hl 1 rfl) ?_
      obtain ⟨hk5, h⟩ := fl_ck_e h
      refine fl_iald X hP k1_8 hk5 dX8_fare_68 ?_
      exact fl_iret X hr hlk hP hS dX8_fare_69 h
    · replace h := fl_if_f h c_0
      by_cases c_1 : x2 = (1 : Int32)
      · replace h := fl_if_t h c_1
        refine lv_tableIn (off := 56) (tgt := 70) hx hb dX8_fare_14 (by rw [c_1]; decide) (by rw [c_1]; decide) (by rw [c_1]; rfl) (by decide) ?_
        refine lv_aload_n hx hb dX8_fare_70 rfl (lv_at hl 0 rfl) ?_
        refine fl_getr X hP fk_X8_19 k1_0 rfl dX8_fare_71 ?_
        refine fl_getr X hP fk_X8_142 k1_4 rfl dX8_fare_74 ?_
        refine lv_iload_n hx hb dX8_fare_77 rfl (lv_at hl 1 rfl) ?_
        obtain ⟨hk6, h⟩ := fl_ck_e h
        refine fl_iald X hP k1_9 hk6 dX8_fare_78 ?_
        exact fl_iret X hr hlk hP hS dX8_fare_79 h
      · replace h := fl_if_f h c_1
        by_cases c_2 : x2 = (2 : Int32)
        · replace h := fl_if_t h c_2
          refine lv_tableIn (off := 66) (tgt := 80) hx hb dX8_fare_14 (by rw [c_2]; decide) (by rw [c_2]; decide) (by rw [c_2]; rfl) (by decide) ?_
          refine lv_aload_n hx hb dX8_fare_80 rfl (lv_at hl 0 rfl) ?_
          refine fl_getr X hP fk_X8_19 k1_0 rfl dX8_fare_81 ?_
          refine fl_getr X hP fk_X8_145 k1_4 rfl dX8_fare_84 ?_
          refine lv_iload_n hx hb dX8_fare_87 rfl (lv_at hl 1 rfl) ?_
          obtain ⟨hk7, h⟩ := fl_ck_e h
          refine fl_iald X hP k1_10 hk7 dX8_fare_88 ?_
          exact fl_iret X hr hlk hP hS dX8_fare_89 h
        · replace h := fl_if_f h c_2
          by_cases c_3 : x2 = (3 : Int32)
          · replace h := fl_if_t h c_3
            refine lv_tableIn (off := 76) (tgt := 90) hx hb dX8_fare_14 (by rw [c_3]; decide) (by rw [c_3]; decide) (by rw [c_3]; rfl) (by decide) ?_
            refine lv_aload_n hx hb dX8_fare_90 rfl (lv_at hl 0 rfl) ?_
            refine fl_getr X hP fk_X8_19 k1_0 rfl dX8_fare_91 ?_
            refine fl_getr X hP fk_X8_148 k1_4 rfl dX8_fare_94 ?_
            refine lv_iload_n hx hb dX8_fare_97 rfl (lv_at hl 1 rfl) ?_
            obtain ⟨hk8, h⟩ := fl_ck_e h
            refine fl_iald X hP k1_11 hk8 dX8_fare_98 ?_
            exact fl_iret X hr hlk hP hS dX8_fare_99 h
          · replace h := fl_if_f h c_3
            by_cases c_4 : x2 = (4 : Int32)
            · replace h := fl_if_t h c_4
              refine lv_tableIn (off := 86) (tgt := 100) hx hb dX8_fare_14 (by rw [c_4]; decide) (by rw [c_4]; decide) (by rw [c_4]; rfl) (by decide) ?_
              refine lv_aload_n hx hb dX8_fare_100 rfl (lv_at hl 0 rfl) ?_
              refine fl_getr X hP fk_X8_19 k1_0 rfl dX8_fare_101 ?_
              refine fl_getr X hP fk_X8_151 k1_4 rfl dX8_fare_104 ?_
              refine lv_iload_n hx hb dX8_fare_107 rfl (lv_at hl 1 rfl) ?_
              obtain ⟨hk9, h⟩ := fl_ck_e h
              refine fl_iald X hP k1_12 hk9 dX8_fare_108 ?_
              exact fl_iret X hr hlk hP hS dX8_fare_109 h
            · replace h := fl_if_f h c_4
              by_cases c_5 : x2 = (5 : Int32)
              · replace h := fl_if_t h c_5
                refine lv_tableIn (off := 96) (tgt := 110) hx hb dX8_fare_14 (by rw [c_5]; decide) (by rw [c_5]; decide) (by rw [c_5]; rfl) (by decide) ?_
                refine lv_aload_n hx hb dX8_fare_110 rfl (lv_at hl 0 rfl) ?_
                refine fl_getr X hP fk_X8_29 k1_0 rfl dX8_fare_111 ?_
                refine lv_iload_n hx hb dX8_fare_114 rfl (lv_at hl 1 rfl) ?_
                obtain ⟨r10, m11, hz12, h⟩ := fl_bd_e h
                refine fl_callV (av := [.int x1]) X hP hS hl.1 mv_X8_154 (c_X5_isTaken l D ca ad hi 39 st_39 x1 m2 _ _ hz12) k1_39 (fl_fit_rm (by omega) (by decide)) rfl (Nat.le_of_ble_eq_true rfl) dX8_fare_115 rfl (fun H locs hP hS => ?_)
                refine W.eq (g2 := F0 mm 118 ls [.int r10]) rfl ?_
                refine lv_if_eq (tgt := 125) hx hb dX8_fare_118 (by decide) (fun c13 => ?_) (fun c13 => ?_)
                · replace h := fl_if_t h c13
                  refine lv_iconst (v := (0 : Int32)) hx hb dX8_fare_125 (by decide) ?_
                  exact fl_iret X hr hlk hP hS dX8_fare_126 h
                · replace h := fl_if_f h c13
                  refine lv_iconst (v := (1 : Int32)) hx hb dX8_fare_121 (by decide) ?_
                  refine lv_goto (tgt := 126) hx hb dX8_fare_122 (by decide) ?_
                  exact fl_iret X hr hlk hP hS dX8_fare_126 h
              · replace h := fl_if_f h c_5
                by_cases c_6 : x2 = (6 : Int32)
                · replace h := fl_if_t h c_6
                  refine lv_tableIn (off := 113) (tgt := 127) hx hb dX8_fare_14 (by rw [c_6]; decide) (by rw [c_6]; decide) (by rw [c_6]; rfl) (by decide) ?_
                  refine lv_aload_n hx hb dX8_fare_127 rfl (lv_at hl 0 rfl) ?_
                  refine fl_getr X hP fk_X8_29 k1_0 rfl dX8_fare_128 ?_
                  refine fl_getr X hP fk_X8_157 k1_39 rfl dX8_fare_131 ?_
                  refine lv_iload_n hx hb dX8_fare_134 rfl (lv_at hl 1 rfl) ?_
                  obtain ⟨hk14, h⟩ := fl_ck_e h
                  refine fl_iald X hP k1_43 hk14 dX8_fare_135 ?_
                  exact fl_iret X hr hlk hP hS dX8_fare_136 h
                · replace h := fl_if_f h c_6
                  by_cases c_7 : x2 = (7 : Int32)
                  · replace h := fl_if_t h c_7
                    refine lv_tableIn (off := 123) (tgt := 137) hx hb dX8_fare_14 (by rw [c_7]; decide) (by rw [c_7]; decide) (by rw [c_7]; rfl) (by decide) ?_
                    refine lv_aload_n hx hb dX8_fare_137 rfl (lv_at hl 0 rfl) ?_
                    refine fl_getr X hP fk_X8_29 k1_0 rfl dX8_fare_138 ?_
                    refine fl_getr X hP fk_X8_160 k1_39 rfl dX8_fare_141 ?_
                    refine lv_iload_n hx hb dX8_fare_144 rfl (lv_at hl 1 rfl) ?_
                    obtain ⟨hk15, h⟩ := fl_ck_e h
                    refine fl_iald X hP k1_44 hk15 dX8_fare_145 ?_
                    exact fl_iret X hr hlk hP hS dX8_fare_146 h
                  · replace h := fl_if_f h c_7
                    refine lv_tableOut (tgt := 147) hx hb dX8_fare_14 (by have e0 := lv_neT c_0 (a := 0) (by decide); have e1 := lv_neT c_1 (a := 1) (by decide); have e2 := lv_neT c_2 (a := 2) (by decide); have e3 := lv_neT c_3 (a := 3) (by decide); have e4 := lv_neT c_4 (a := 4) (by decide); have e5 := lv_neT c_5 (a := 5) (by decide); have e6 := lv_neT c_6 (a := 6) (by decide); have e7 := lv_neT c_7 (a := 7) (by decide); omega) (by decide) ?_
                    refine lv_iconst (v := (-1 : Int32)) hx hb dX8_fare_147 (by decide) ?_
                    exact fl_iret X hr hlk hP hS dX8_fare_148 h
  · replace h := fl_if_t h c4
    refine lv_iconst (v := (-1 : Int32)) hx hb dX8_fare_11 (by decide) ?_
    exact fl_iret X hr hlk hP hS dX8_fare_12 h

def f_X8_take (x1 : Int32) (x2 : Int32) (m : Mem) : Option (Int32 × Mem) :=
  fl_bd (f_X0_hasCab 4 x1 m) (fun r1 m2 =>
    if r1 = 0 then (
      some ((-1 : Int32), m2))
    else (
      fl_bd (f_X0_hasFare 4 x2 m2) (fun r5 m6 =>
        if r5 = 0 then (
          some ((-1 : Int32), m6))
        else (
          fl_bd (f_X5_isTaken 39 x2 m6) (fun r9 m10 =>
            if r9 = 0 then (
              fl_bd (f_X4_put_d 39 m10) (fun r13 m14 =>
                fl_bd (f_X0_drive 4 39 x1 x2 m14) (fun r16 m17 =>
                  fl_ck (0 ≤ x2.toInt ∧ x2.toInt < 7) (
                    some (m17.1 43 (x2.toNatClampNeg), m17)))))
            else (
              some ((-2 : Int32), m10)))))))
set_option maxHeartbeats 4000000 in
set_option maxRecDepth 100000 in
theorem c_X8_take (l : Launch) (D : va_G) (ca : Nat → ClassId) (ad : Nat → Nat) (hi : fl_inj L1 ad) (x1 : Int32) (x2 : Int32) (m : Mem) (v' : Int32) (M' : Mem) (h : f_X8_take x1 x2 m = some (v', M')) : fl_M l L1 D ca ad yX8_take cX8_take 3 (some .int) 5 [.ref (ad 0), .int x1, .int x2] m (some (.int v')) M' := by
  unfold f_X8_take at h
  refine fl_ofW (by decide) hi (Nat.le_of_ble_eq_true rfl) ?_
  intro p e s mm args below meth c ls X hr hlk hP hl
  have hl : lv_has ls 3 [(0, .ref (ad 0)), (1, .int x1), (2, .int x2)] := hl
  have X : fl_X p s mm args c cX8_take 3 RX8 L1 D ca ad := X
  obtain ⟨hx, hb, hml, hown, hts, hE, -⟩ := id X
  have hS : va_S (fl_A L1 ad) s.heap s.heap [] := va_S.rf
  refine lv_aload_n hx hb dX8_take_0 rfl (lv_at hl 0 rfl) ?_
  refine fl_getr X hP fk_X8_19 k1_0 rfl dX8_take_1 ?_
  refine lv_iload_n hx hb dX8_take_4 rfl (lv_at hl 1 rfl) ?_
  obtain ⟨r1, m2, hz3, h⟩ := fl_bd_e h
  refine fl_callV (av := [.int x1]) X hP hS hl.1 mv_X8_120 (c_X0_hasCab l D ca ad hi 4 ct_4 x1 m _ _ hz3) k1_4 (fl_fit_rm (by omega) (by decide)) rfl (Nat.le_of_ble_eq_true rfl) dX8_take_5 rfl (fun H locs hP hS => ?_)
  refine W.eq (g2 := F0 mm 8 ls [.int r1]) rfl ?_
  refine lv_if_eq (tgt := 22) hx hb dX8_take_8 (by decide) (fun c4 => ?_) (fun c4 => ?_)
  · replace h := fl_if_t h c4
    refine lv_iconst (v := (-1 : Int32)) hx hb dX8_take_22 (by decide) ?_
    exact fl_iret X hr hlk hP hS dX8_take_23 h
  · replace h := fl_if_f h c4
    refine lv_aload_n hx hb dX8_take_11 rfl (lv_at hl 0 rfl) ?_
    refine fl_getr X hP fk_X8_19 k1_0 rfl dX8_take_12 ?_
    refine lv_iload_n hx hb dX8_take_15 rfl (lv_at hl 2 rfl) ?_
    obtain ⟨r5, m6, hz7, h⟩ := fl_bd_e h
    refine fl_callV (av := [.int x2]) X hP hS hl.1 mv_X8_136 (c_X0_hasFare l D ca ad hi 4 ct_4 x2 m2 _ _ hz7) k1_4 (fl_fit_rm (by omega) (by decide)) rfl (Nat.le_of_ble_eq_true rfl) dX8_take_16 rfl (fun H locs hP hS => ?_)
    refine W.eq (g2 := F0 mm 19 ls [.int r5]) rfl ?_
    refine lv_if_ne (tgt := 24) hx hb dX8_take_19 (by decide) (fun c8 => ?_) (fun c8 => ?_)
    · replace h := fl_if_f h c8
      refine lv_aload_n hx hb dX8_take_24 rfl (lv_at hl 0 rfl) ?_
      refine fl_getr X hP fk_X8_29 k1_0 rfl dX8_take_25 ?_
      refine lv_iload_n hx hb dX8_take_28 rfl (lv_at hl 2 rfl) ?_
      obtain ⟨r9, m10, hz11, h⟩ := fl_bd_e h
      refine fl_callV (av := [.int x2]) X hP hS hl.1 mv_X8_154 (c_X5_isTaken l D ca ad hi 39 st_39 x2 m6 _ _ hz11) k1_39 (fl_fit_rm (by omega) (by decide)) rfl (Nat.le_of_ble_eq_true rfl) dX8_take_29 rfl (fun H locs hP hS => ?_)
      refine W.eq (g2 := F0 mm 32 ls [.int r9]) rfl ?_
      refine lv_if_eq (tgt := 38) hx hb dX8_take_32 (by decide) (fun c12 => ?_) (fun c12 => ?_)
      · replace h := fl_if_t h c12
        refine lv_aload_n hx hb dX8_take_38 rfl (lv_at hl 0 rfl) ?_
        refine fl_getr X hP fk_X8_41 k1_0 rfl dX8_take_39 ?_
        refine lv_aload_n hx hb dX8_take_42 rfl (lv_at hl 0 rfl) ?_
        refine fl_getr X hP fk_X8_29 k1_0 rfl dX8_take_43 ?_
        obtain ⟨r13, m14, hz15, h⟩ := fl_bd_e h
        refine fl_callV (av := [.ref (ad 39)]) X hP hS hl.1 mv_X8_163 (c_X4_put_d l D ca ad hi 39 st_39 m10 _ _ hz15) k1_24 (fl_fit_rm (by omega) (by decide)) rfl (Nat.le_of_ble_eq_true rfl) dX8_take_46 rfl (fun H locs hP hS => ?_)
        refine W.eq (g2 := F0 mm 49 ls []) rfl ?_
        refine lv_aload_n hx hb dX8_take_49 rfl (lv_at hl 0 rfl) ?_
        refine fl_getr X hP fk_X8_19 k1_0 rfl dX8_take_50 ?_
        refine lv_aload_n hx hb dX8_take_53 rfl (lv_at hl 0 rfl) ?_
        refine fl_getr X hP fk_X8_29 k1_0 rfl dX8_take_54 ?_
        refine lv_iload_n hx hb dX8_take_57 rfl (lv_at hl 1 rfl) ?_
        refine lv_iload_n hx hb dX8_take_58 rfl (lv_at hl 2 rfl) ?_
        obtain ⟨r16, m17, hz18, h⟩ := fl_bd_e h
        refine fl_callV (av := [.ref (ad 39), .int x1, .int x2]) X hP hS hl.1 mv_X8_167 (c_X0_drive l D ca ad hi 4 ct_4 39 st_39 x1 x2 m14 _ _ hz18) k1_4 (fl_fit_rm (by omega) (by decide)) rfl (Nat.le_of_ble_eq_true rfl) dX8_take_59 rfl (fun H locs hP hS => ?_)
        refine W.eq (g2 := F0 mm 62 ls [.int r16]) rfl ?_
        refine lv_pop hx hb dX8_take_62 rfl ?_
        refine lv_aload_n hx hb dX8_take_63 rfl (lv_at hl 0 rfl) ?_
        refine fl_getr X hP fk_X8_29 k1_0 rfl dX8_take_64 ?_
        refine fl_getr X hP fk_X8_157 k1_39 rfl dX8_take_67 ?_
        refine lv_iload_n hx hb dX8_take_70 rfl (lv_at hl 2 rfl) ?_
        obtain ⟨hk19, h⟩ := fl_ck_e h
        refine fl_iald X hP k1_43 hk19 dX8_take_71 ?_
        exact fl_iret X hr hlk hP hS dX8_take_72 h
      · replace h := fl_if_f h c12
        refine lv_bipush (v := (-2 : Int32)) hx hb dX8_take_35 (by decide) ?_
        exact fl_iret X hr hlk hP hS dX8_take_37 h
    · replace h := fl_if_t h c8
      refine lv_iconst (v := (-1 : Int32)) hx hb dX8_take_22 (by decide) ?_
      exact fl_iret X hr hlk hP hS dX8_take_23 h

def f_X8_send (x1 : Int32) (x2 : Int32) (m : Mem) : Option (Int32 × Mem) :=
  fl_bd (f_X0_hasCab 4 x1 m) (fun r1 m2 =>
    if r1 = 0 then (
      some ((-1 : Int32), m2))
    else (
      fl_bd (f_X0_hasPlace 4 x2 m2) (fun r5 m6 =>
        if r5 = 0 then (
          some ((-1 : Int32), m6))
        else (
          fl_bd (f_X4_put_d 39 m6) (fun r9 m10 =>
            fl_bd (f_X0_move 4 39 x1 x2 m10) (fun r12 m13 =>
              fl_ck (0 ≤ x1.toInt ∧ x1.toInt < 3) (
                some (m13.1 41 (x1.toNatClampNeg), m13))))))))
set_option maxHeartbeats 4000000 in
set_option maxRecDepth 100000 in
theorem c_X8_send (l : Launch) (D : va_G) (ca : Nat → ClassId) (ad : Nat → Nat) (hi : fl_inj L1 ad) (x1 : Int32) (x2 : Int32) (m : Mem) (v' : Int32) (M' : Mem) (h : f_X8_send x1 x2 m = some (v', M')) : fl_M l L1 D ca ad yX8_send cX8_send 3 (some .int) 3 [.ref (ad 0), .int x1, .int x2] m (some (.int v')) M' := by
  unfold f_X8_send at h
  refine fl_ofW (by decide) hi (Nat.le_of_ble_eq_true rfl) ?_
  intro p e s mm args below meth c ls X hr hlk hP hl
  have hl : lv_has ls 3 [(0, .ref (ad 0)), (1, .int x1), (2, .int x2)] := hl
  have X : fl_X p s mm args c cX8_send 3 RX8 L1 D ca ad := X
  obtain ⟨hx, hb, hml, hown, hts, hE, -⟩ := id X
  have hS : va_S (fl_A L1 ad) s.heap s.heap [] := va_S.rf
  refine lv_aload_n hx hb dX8_send_0 rfl (lv_at hl 0 rfl) ?_
  refine fl_getr X hP fk_X8_19 k1_0 rfl dX8_send_1 ?_
  refine lv_iload_n hx hb dX8_send_4 rfl (lv_at hl 1 rfl) ?_
  obtain ⟨r1, m2, hz3, h⟩ := fl_bd_e h
  refine fl_callV (av := [.int x1]) X hP hS hl.1 mv_X8_120 (c_X0_hasCab l D ca ad hi 4 ct_4 x1 m _ _ hz3) k1_4 (fl_fit_rm (by omega) (by decide)) rfl (Nat.le_of_ble_eq_true rfl) dX8_send_5 rfl (fun H locs hP hS => ?_)
  refine W.eq (g2 := F0 mm 8 ls [.int r1]) rfl ?_
  refine lv_if_eq (tgt := 22) hx hb dX8_send_8 (by decide) (fun c4 => ?_) (fun c4 => ?_)
  · replace h := fl_if_t h c4
    refine lv_iconst (v := (-1 : Int32)) hx hb dX8_send_22 (by decide) ?_
    exact fl_iret X hr hlk hP hS dX8_send_23 h
  · replace h := fl_if_f h c4
    refine lv_aload_n hx hb dX8_send_11 rfl (lv_at hl 0 rfl) ?_
    refine fl_getr X hP fk_X8_19 k1_0 rfl dX8_send_12 ?_
    refine lv_iload_n hx hb dX8_send_15 rfl (lv_at hl 2 rfl) ?_
    obtain ⟨r5, m6, hz7, h⟩ := fl_bd_e h
    refine fl_callV (av := [.int x2]) X hP hS hl.1 mv_X8_112 (c_X0_hasPlace l D ca ad hi 4 ct_4 x2 m2 _ _ hz7) k1_4 (fl_fit_rm (by omega) (by decide)) rfl (Nat.le_of_ble_eq_true rfl) dX8_send_16 rfl (fun H locs hP hS => ?_)
    refine W.eq (g2 := F0 mm 19 ls [.int r5]) rfl ?_
    refine lv_if_ne (tgt := 24) hx hb dX8_send_19 (by decide) (fun c8 => ?_) (fun c8 => ?_)
    · replace h := fl_if_f h c8
      refine lv_aload_n hx hb dX8_send_24 rfl (lv_at hl 0 rfl) ?_
      refine fl_getr X hP fk_X8_41 k1_0 rfl dX8_send_25 ?_
      refine lv_aload_n hx hb dX8_send_28 rfl (lv_at hl 0 rfl) ?_
      refine fl_getr X hP fk_X8_29 k1_0 rfl dX8_send_29 ?_
      obtain ⟨r9, m10, hz11, h⟩ := fl_bd_e h
      refine fl_callV (av := [.ref (ad 39)]) X hP hS hl.1 mv_X8_163 (c_X4_put_d l D ca ad hi 39 st_39 m6 _ _ hz11) k1_24 (fl_fit_rm (by omega) (by decide)) rfl (Nat.le_of_ble_eq_true rfl) dX8_send_32 rfl (fun H locs hP hS => ?_)
      refine W.eq (g2 := F0 mm 35 ls []) rfl ?_
      refine lv_aload_n hx hb dX8_send_35 rfl (lv_at hl 0 rfl) ?_
      refine fl_getr X hP fk_X8_19 k1_0 rfl dX8_send_36 ?_
      refine lv_aload_n hx hb dX8_send_39 rfl (lv_at hl 0 rfl) ?_
      refine fl_getr X hP fk_X8_29 k1_0 rfl dX8_send_40 ?_
      refine lv_iload_n hx hb dX8_send_43 rfl (lv_at hl 1 rfl) ?_
      refine lv_iload_n hx hb dX8_send_44 rfl (lv_at hl 2 rfl) ?_
      obtain ⟨r12, m13, hz14, h⟩ := fl_bd_e h
      refine fl_callV (av := [.ref (ad 39), .int x1, .int x2]) X hP hS hl.1 mv_X8_171 (c_X0_move l D ca ad hi 4 ct_4 39 st_39 x1 x2 m10 _ _ hz14) k1_4 (fl_fit_rm (by omega) (by decide)) rfl (Nat.le_of_ble_eq_true rfl) dX8_send_45 rfl (fun H locs hP hS => ?_)
      refine W.eq (g2 := F0 mm 48 ls []) rfl ?_
      refine lv_aload_n hx hb dX8_send_48 rfl (lv_at hl 0 rfl) ?_
      refine fl_getr X hP fk_X8_29 k1_0 rfl dX8_send_49 ?_
      refine fl_getr X hP fk_X8_130 k1_39 rfl dX8_send_52 ?_
      refine lv_iload_n hx hb dX8_send_55 rfl (lv_at hl 1 rfl) ?_
      obtain ⟨hk15, h⟩ := fl_ck_e h
      refine fl_iald X hP k1_41 hk15 dX8_send_56 ?_
      exact fl_iret X hr hlk hP hS dX8_send_57 h
    · replace h := fl_if_t h c8
      refine lv_iconst (v := (-1 : Int32)) hx hb dX8_send_22 (by decide) ?_
      exact fl_iret X hr hlk hP hS dX8_send_23 h

def f_X8_pass (x1 : Int32) (m : Mem) : Option (Int32 × Mem) :=
  fl_bd (f_X8_within x1 (1 : Int32) (60 : Int32) m) (fun r1 m2 =>
    if r1 = 0 then (
      some ((-1 : Int32), m2))
    else (
      fl_bd (f_X4_put_d 39 m2) (fun r5 m6 =>
        fl_lm (mI m6 39 0 ((m6.1 39 0) + x1)) (fun m8 =>
          some (m8.1 39 0, m8)))))
set_option maxHeartbeats 4000000 in
set_option maxRecDepth 100000 in
theorem c_X8_pass (l : Launch) (D : va_G) (ca : Nat → ClassId) (ad : Nat → Nat) (hi : fl_inj L1 ad) (x1 : Int32) (m : Mem) (v' : Int32) (M' : Mem) (h : f_X8_pass x1 m = some (v', M')) : fl_M l L1 D ca ad yX8_pass cX8_pass 2 (some .int) 3 [.ref (ad 0), .int x1] m (some (.int v')) M' := by
  unfold f_X8_pass at h
  refine fl_ofW (by decide) hi (Nat.le_of_ble_eq_true rfl) ?_
  intro p e s mm args below meth c ls X hr hlk hP hl
  have hl : lv_has ls 2 [(0, .ref (ad 0)), (1, .int x1)] := hl
  have X : fl_X p s mm args c cX8_pass 2 RX8 L1 D ca ad := X
  obtain ⟨hx, hb, hml, hown, hts, hE, -⟩ := id X
  have hS : va_S (fl_A L1 ad) s.heap s.heap [] := va_S.rf
  refine lv_iload_n hx hb dX8_pass_0 rfl (lv_at hl 1 rfl) ?_
  refine lv_iconst (v := (1 : Int32)) hx hb dX8_pass_1 (by decide) ?_
  refine lv_bipush (v := (60 : Int32)) hx hb dX8_pass_2 (by decide) ?_
  obtain ⟨r1, m2, hz3, h⟩ := fl_bd_e h
  refine fl_callS (av := [.int x1, .int (1 : Int32), .int (60 : Int32)]) X hP hS hl.1 ms_X8_99 (c_X8_within l D ca ad hi x1 (1 : Int32) (60 : Int32) m _ _ hz3) (fl_fit_rm (by omega) (by decide)) rfl (Nat.le_of_ble_eq_true rfl) dX8_pass_4 rfl (fun H locs hP hS => ?_)
  refine W.eq (g2 := F0 mm 7 ls [.int r1]) rfl ?_
  refine lv_if_ne (tgt := 12) hx hb dX8_pass_7 (by decide) (fun c4 => ?_) (fun c4 => ?_)
  · replace h := fl_if_f h c4
    refine lv_aload_n hx hb dX8_pass_12 rfl (lv_at hl 0 rfl) ?_
    refine fl_getr X hP fk_X8_41 k1_0 rfl dX8_pass_13 ?_
    refine lv_aload_n hx hb dX8_pass_16 rfl (lv_at hl 0 rfl) ?_
    refine fl_getr X hP fk_X8_29 k1_0 rfl dX8_pass_17 ?_
    obtain ⟨r5, m6, hz7, h⟩ := fl_bd_e h
    refine fl_callV (av := [.ref (ad 39)]) X hP hS hl.1 mv_X8_163 (c_X4_put_d l D ca ad hi 39 st_39 m2 _ _ hz7) k1_24 (fl_fit_rm (by omega) (by decide)) rfl (Nat.le_of_ble_eq_true rfl) dX8_pass_20 rfl (fun H locs hP hS => ?_)
    refine W.eq (g2 := F0 mm 23 ls []) rfl ?_
    refine lv_aload_n hx hb dX8_pass_23 rfl (lv_at hl 0 rfl) ?_
    refine fl_getr X hP fk_X8_29 k1_0 rfl dX8_pass_24 ?_
    refine lv_dup hx hb dX8_pass_27 rfl ?_
    refine fl_geti X hP fk_X8_175 k1_39 rfl dX8_pass_28 ?_
    refine lv_iload_n hx hb dX8_pass_31 rfl (lv_at hl 1 rfl) ?_
    refine lv_iadd hx hb dX8_pass_32 ?_
    obtain ⟨m8, em9, h⟩ := fl_lm_e h
    refine fl_puti X hP hS pk_X8_175 k1_39 rfl rfl rfl dX8_pass_33 (fun H locs hP hS => ?_)
    have hP : va_P D vwCl (fl_w L1 ca ad m8) H := by rw [em9]; exact hP
    refine lv_aload_n hx hb dX8_pass_36 rfl (lv_at hl 0 rfl) ?_
    refine fl_getr X hP fk_X8_29 k1_0 rfl dX8_pass_37 ?_
    refine fl_geti X hP fk_X8_175 k1_39 rfl dX8_pass_40 ?_
    exact fl_iret X hr hlk hP hS dX8_pass_43 h
  · replace h := fl_if_t h c4
    refine lv_iconst (v := (-1 : Int32)) hx hb dX8_pass_10 (by decide) ?_
    exact fl_iret X hr hlk hP hS dX8_pass_11 h

def f_X8_undo  (m : Mem) : Option (Int32 × Mem) :=
  fl_bd (f_X4_giveBack_d 39 m) (fun r1 m2 =>
    if r1 = 0 then (
      some ((-2 : Int32), m2))
    else (
      some (m2.1 24 2, m2)))
set_option maxHeartbeats 4000000 in
set_option maxRecDepth 100000 in
theorem c_X8_undo (l : Launch) (D : va_G) (ca : Nat → ClassId) (ad : Nat → Nat) (hi : fl_inj L1 ad)  (m : Mem) (v' : Int32) (M' : Mem) (h : f_X8_undo  m = some (v', M')) : fl_M l L1 D ca ad yX8_undo cX8_undo 1 (some .int) 3 [.ref (ad 0)] m (some (.int v')) M' := by
  unfold f_X8_undo at h
  refine fl_ofW (by decide) hi (Nat.le_of_ble_eq_true rfl) ?_
  intro p e s mm args below meth c ls X hr hlk hP hl
  have hl : lv_has ls 1 [(0, .ref (ad 0))] := hl
  have X : fl_X p s mm args c cX8_undo 1 RX8 L1 D ca ad := X
  obtain ⟨hx, hb, hml, hown, hts, hE, -⟩ := id X
  have hS : va_S (fl_A L1 ad) s.heap s.heap [] := va_S.rf
  refine lv_aload_n hx hb dX8_undo_0 rfl (lv_at hl 0 rfl) ?_
  refine fl_getr X hP fk_X8_41 k1_0 rfl dX8_undo_1 ?_
  refine lv_aload_n hx hb dX8_undo_4 rfl (lv_at hl 0 rfl) ?_
  refine fl_getr X hP fk_X8_29 k1_0 rfl dX8_undo_5 ?_
  obtain ⟨r1, m2, hz3, h⟩ := fl_bd_e h
  refine fl_callV (av := [.ref (ad 39)]) X hP hS hl.1 mv_X8_178 (c_X4_giveBack_d l D ca ad hi 39 st_39 m _ _ hz3) k1_24 (fl_fit_rm (by omega) (by decide)) rfl (Nat.le_of_ble_eq_true rfl) dX8_undo_8 rfl (fun H locs hP hS => ?_)
  refine W.eq (g2 := F0 mm 11 ls [.int r1]) rfl ?_
  refine lv_if_eq (tgt := 24) hx hb dX8_undo_11 (by decide) (fun c4 => ?_) (fun c4 => ?_)
  · replace h := fl_if_t h c4
    refine lv_bipush (v := (-2 : Int32)) hx hb dX8_undo_24 (by decide) ?_
    exact fl_iret X hr hlk hP hS dX8_undo_26 h
  · replace h := fl_if_f h c4
    refine lv_aload_n hx hb dX8_undo_14 rfl (lv_at hl 0 rfl) ?_
    refine fl_getr X hP fk_X8_41 k1_0 rfl dX8_undo_15 ?_
    refine fl_geti X hP fk_X8_182 k1_24 rfl dX8_undo_18 ?_
    refine lv_goto (tgt := 26) hx hb dX8_undo_21 (by decide) ?_
    exact fl_iret X hr hlk hP hS dX8_undo_26 h

def f_X8_ride (x1 : Int32) (x2 : Int32) (x3 : Int32) (m : Mem) : Option (Int32 × Mem) :=
  fl_bd (f_X0_hasCab 4 x1 m) (fun r1 m2 =>
    if r1 = 0 then (
      some ((-1 : Int32), m2))
    else (
      fl_bd (f_X0_hasFare 4 x2 m2) (fun r5 m6 =>
        if r5 = 0 then (
          some ((-1 : Int32), m6))
        else (
          fl_bd (f_X0_reckon 4 39 x1 x2 m6) (fun r9 m10 =>
            if x3 = (0 : Int32) then (
              some (m10.1 13 0, m10))
            else (
              if x3 = (1 : Int32) then (
                some (m10.1 13 1, m10))
              else (
                if x3 = (2 : Int32) then (
                  if (m10.1 13 2) = 0 then (
                    some ((0 : Int32), m10))
                  else (
                    some ((1 : Int32), m10)))
                else (
                  if x3 = (3 : Int32) then (
                    if (m10.1 13 3) = 0 then (
                      some ((0 : Int32), m10))
                    else (
                      some ((1 : Int32), m10)))
                  else (
                    some ((-1 : Int32), m10))))))))))
set_option maxHeartbeats 4000000 in
set_option maxRecDepth 100000 in
theorem c_X8_ride (l : Launch) (D : va_G) (ca : Nat → ClassId) (ad : Nat → Nat) (hi : fl_inj L1 ad) (x1 : Int32) (x2 : Int32) (x3 : Int32) (m : Mem) (v' : Int32) (M' : Mem) (h : f_X8_ride x1 x2 x3 m = some (v', M')) : fl_M l L1 D ca ad yX8_ride cX8_ride 4 (some .int) 4 [.ref (ad 0), .int x1, .int x2, .int x3] m (some (.int v')) M' := by
  unfold f_X8_ride at h
  refine fl_ofW (by decide) hi (Nat.le_of_ble_eq_true rfl) ?_
  intro p e s mm args below meth c ls X hr hlk hP hl
  have hl : lv_has ls 4 [(0, .ref (ad 0)), (1, .int x1), (2, .int x2), (3, .int x3)] := hl
  have X : fl_X p s mm args c cX8_ride 4 RX8 L1 D ca ad := X
  obtain ⟨hx, hb, hml, hown, hts, hE, -⟩ := id X
  have hS : va_S (fl_A L1 ad) s.heap s.heap [] := va_S.rf
  refine lv_aload_n hx hb dX8_ride_0 rfl (lv_at hl 0 rfl) ?_
  refine fl_getr X hP fk_X8_19 k1_0 rfl dX8_ride_1 ?_
  refine lv_iload_n hx hb dX8_ride_4 rfl (lv_at hl 1 rfl) ?_
  obtain ⟨r1, m2, hz3, h⟩ := fl_bd_e h
  refine fl_callV (av := [.int x1]) X hP hS hl.1 mv_X8_120 (c_X0_hasCab l D ca ad hi 4 ct_4 x1 m _ _ hz3) k1_4 (fl_fit_rm (by omega) (by decide)) rfl (Nat.le_of_ble_eq_true rfl) dX8_ride_5 rfl (fun H locs hP hS => ?_)
  refine W.eq (g2 := F0 mm 8 ls [.int r1]) rfl ?_
  refine lv_if_eq (tgt := 22) hx hb dX8_ride_8 (by decide) (fun c4 => ?_) (fun c4 => ?_)
  · replace h := fl_if_t h c4
    refine lv_iconst (v := (-1 : Int32)) hx hb dX8_ride_22 (by decide) ?_
    exact fl_iret X hr hlk hP hS dX8_ride_23 h
  · replace h := fl_if_f h c4
    refine lv_aload_n hx hb dX8_ride_11 rfl (lv_at hl 0 rfl) ?_
    refine fl_getr X hP fk_X8_19 k1_0 rfl dX8_ride_12 ?_
    refine lv_iload_n hx hb dX8_ride_15 rfl (lv_at hl 2 rfl) ?_
    obtain ⟨r5, m6, hz7, h⟩ := fl_bd_e h
    refine fl_callV (av := [.int x2]) X hP hS hl.1 mv_X8_136 (c_X0_hasFare l D ca ad hi 4 ct_4 x2 m2 _ _ hz7) k1_4 (fl_fit_rm (by omega) (by decide)) rfl (Nat.le_of_ble_eq_true rfl) dX8_ride_16 rfl (fun H locs hP hS => ?_)
    refine W.eq (g2 := F0 mm 19 ls [.int r5]) rfl ?_
    refine lv_if_ne (tgt := 24) hx hb dX8_ride_19 (by decide) (fun c8 => ?_) (fun c8 => ?_)
    · replace h := fl_if_f h c8
      refine lv_aload_n hx hb dX8_ride_24 rfl (lv_at hl 0 rfl) ?_
      refine fl_getr X hP fk_X8_19 k1_0 rfl dX8_ride_25 ?_
      refine lv_aload_n hx hb dX8_ride_28 rfl (lv_at hl 0 rfl) ?_
      refine fl_getr X hP fk_X8_29 k1_0 rfl dX8_ride_29 ?_
      refine lv_iload_n hx hb dX8_ride_32 rfl (lv_at hl 1 rfl) ?_
      refine lv_iload_n hx hb dX8_ride_33 rfl (lv_at hl 2 rfl) ?_
      obtain ⟨r9, m10, hz11, h⟩ := fl_bd_e h
      refine fl_callV (av := [.ref (ad 39), .int x1, .int x2]) X hP hS hl.1 mv_X8_185 (c_X0_reckon l D ca ad hi 4 ct_4 39 st_39 x1 x2 m6 _ _ hz11) k1_4 (fl_fit_rm (by omega) (by decide)) rfl (Nat.le_of_ble_eq_true rfl) dX8_ride_34 rfl (fun H locs hP hS => ?_)
      refine W.eq (g2 := F0 mm 37 ls []) rfl ?_
      refine lv_iload_n hx hb dX8_ride_37 rfl (lv_at hl 3 rfl) ?_
      by_cases c_0 : x3 = (0 : Int32)
      · replace h := fl_if_t h c_0
        refine lv_tableIn (off := 30) (tgt := 68) hx hb dX8_ride_38 (by rw [c_0]; decide) (by rw [c_0]; decide) (by rw [c_0]; rfl) (by decide) ?_
        refine lv_aload_n hx hb dX8_ride_68 rfl (lv_at hl 0 rfl) ?_
        refine fl_getr X hP fk_X8_19 k1_0 rfl dX8_ride_69 ?_
        refine fl_getr X hP fk_X8_188 k1_4 rfl dX8_ride_72 ?_
        refine fl_geti X hP fk_X8_192 k1_13 rfl dX8_ride_75 ?_
        exact fl_iret X hr hlk hP hS dX8_ride_78 h
      · replace h := fl_if_f h c_0
        by_cases c_1 : x3 = (1 : Int32)
        · replace h := fl_if_t h c_1
          refine lv_tableIn (off := 41) (tgt := 79) hx hb dX8_ride_38 (by rw [c_1]; decide) (by rw [c_1]; decide) (by rw [c_1]; rfl) (by decide) ?_
          refine lv_aload_n hx hb dX8_ride_79 rfl (lv_at hl 0 rfl) ?_
          refine fl_getr X hP fk_X8_19 k1_0 rfl dX8_ride_80 ?_
          refine fl_getr X hP fk_X8_188 k1_4 rfl dX8_ride_83 ?_
          refine fl_geti X hP fk_X8_196 k1_13 rfl dX8_ride_86 ?_
          exact fl_iret X hr hlk hP hS dX8_ride_89 h
        · replace h := fl_if_f h c_1
          by_cases c_2 : x3 = (2 : Int32)
          · replace h := fl_if_t h c_2
            refine lv_tableIn (off := 52) (tgt := 90) hx hb dX8_ride_38 (by rw [c_2]; decide) (by rw [c_2]; decide) (by rw [c_2]; rfl) (by decide) ?_
            refine lv_aload_n hx hb dX8_ride_90 rfl (lv_at hl 0 rfl) ?_
            refine fl_getr X hP fk_X8_19 k1_0 rfl dX8_ride_91 ?_
            refine fl_getr X hP fk_X8_188 k1_4 rfl dX8_ride_94 ?_
            refine fl_geti X hP fk_X8_198 k1_13 rfl dX8_ride_97 ?_
            refine lv_if_eq (tgt := 107) hx hb dX8_ride_100 (by decide) (fun c12 => ?_) (fun c12 => ?_)
            · replace h := fl_if_t h c12
              refine lv_iconst (v := (0 : Int32)) hx hb dX8_ride_107 (by decide) ?_
              exact fl_iret X hr hlk hP hS dX8_ride_108 h
            · replace h := fl_if_f h c12
              refine lv_iconst (v := (1 : Int32)) hx hb dX8_ride_103 (by decide) ?_
              refine lv_goto (tgt := 108) hx hb dX8_ride_104 (by decide) ?_
              exact fl_iret X hr hlk hP hS dX8_ride_108 h
          · replace h := fl_if_f h c_2
            by_cases c_3 : x3 = (3 : Int32)
            · replace h := fl_if_t h c_3
              refine lv_tableIn (off := 71) (tgt := 109) hx hb dX8_ride_38 (by rw [c_3]; decide) (by rw [c_3]; decide) (by rw [c_3]; rfl) (by decide) ?_
              refine lv_aload_n hx hb dX8_ride_109 rfl (lv_at hl 0 rfl) ?_
              refine fl_getr X hP fk_X8_19 k1_0 rfl dX8_ride_110 ?_
              refine fl_getr X hP fk_X8_188 k1_4 rfl dX8_ride_113 ?_
              refine fl_geti X hP fk_X8_202 k1_13 rfl dX8_ride_116 ?_
              refine lv_if_eq (tgt := 126) hx hb dX8_ride_119 (by decide) (fun c13 => ?_) (fun c13 => ?_)
              · replace h := fl_if_t h c13
                refine lv_iconst (v := (0 : Int32)) hx hb dX8_ride_126 (by decide) ?_
                exact fl_iret X hr hlk hP hS dX8_ride_127 h
              · replace h := fl_if_f h c13
                refine lv_iconst (v := (1 : Int32)) hx hb dX8_ride_122 (by decide) ?_
                refine lv_goto (tgt := 127) hx hb dX8_ride_123 (by decide) ?_
                exact fl_iret X hr hlk hP hS dX8_ride_127 h
            · replace h := fl_if_f h c_3
              refine lv_tableOut (tgt := 128) hx hb dX8_ride_38 (by have e0 := lv_neT c_0 (a := 0) (by decide); have e1 := lv_neT c_1 (a := 1) (by decide); have e2 := lv_neT c_2 (a := 2) (by decide); have e3 := lv_neT c_3 (a := 3) (by decide); omega) (by decide) ?_
              refine lv_iconst (v := (-1 : Int32)) hx hb dX8_ride_128 (by decide) ?_
              exact fl_iret X hr hlk hP hS dX8_ride_129 h
    · replace h := fl_if_t h c8
      refine lv_iconst (v := (-1 : Int32)) hx hb dX8_ride_22 (by decide) ?_
      exact fl_iret X hr hlk hP hS dX8_ride_23 h

def f_X8_soonest (N : Nat) (x1 : Int32) (m : Mem) : Option (Int32 × Mem) :=
  fl_bd (f_X0_hasFare 4 x1 m) (fun r1 m2 =>
    if r1 = 0 then (
      some ((-1 : Int32), m2))
    else (
      fl_bd (f_X0_nearest N 4 39 x1 m2) (fun r5 m6 =>
        some (r5, m6))))
set_option maxHeartbeats 4000000 in
set_option maxRecDepth 100000 in
theorem c_X8_soonest (l : Launch) (D : va_G) (ca : Nat → ClassId) (ad : Nat → Nat) (hi : fl_inj L1 ad) (N : Nat) (x1 : Int32) (m : Mem) (v' : Int32) (M' : Mem) (h : f_X8_soonest N x1 m = some (v', M')) : fl_M l L1 D ca ad yX8_soonest cX8_soonest 2 (some .int) 4 [.ref (ad 0), .int x1] m (some (.int v')) M' := by
  unfold f_X8_soonest at h
  refine fl_ofW (by decide) hi (Nat.le_of_ble_eq_true rfl) ?_
  intro p e s mm args below meth c ls X hr hlk hP hl
  have hl : lv_has ls 2 [(0, .ref (ad 0)), (1, .int x1)] := hl
  have X : fl_X p s mm args c cX8_soonest 2 RX8 L1 D ca ad := X
  obtain ⟨hx, hb, hml, hown, hts, hE, -⟩ := id X
  have hS : va_S (fl_A L1 ad) s.heap s.heap [] := va_S.rf
  refine lv_aload_n hx hb dX8_soonest_0 rfl (lv_at hl 0 rfl) ?_
  refine fl_getr X hP fk_X8_19 k1_0 rfl dX8_soonest_1 ?_
  refine lv_iload_n hx hb dX8_soonest_4 rfl (lv_at hl 1 rfl) ?_
  obtain ⟨r1, m2, hz3, h⟩ := fl_bd_e h
  refine fl_callV (av := [.int x1]) X hP hS hl.1 mv_X8_136 (c_X0_hasFare l D ca ad hi 4 ct_4 x1 m _ _ hz3) k1_4 (fl_fit_rm (by omega) (by decide)) rfl (Nat.le_of_ble_eq_true rfl) dX8_soonest_5 rfl (fun H locs hP hS => ?_)
  refine W.eq (g2 := F0 mm 8 ls [.int r1]) rfl ?_
  refine lv_if_eq (tgt := 26) hx hb dX8_soonest_8 (by decide) (fun c4 => ?_) (fun c4 => ?_)
  · replace h := fl_if_t h c4
    refine lv_iconst (v := (-1 : Int32)) hx hb dX8_soonest_26 (by decide) ?_
    exact fl_iret X hr hlk hP hS dX8_soonest_27 h
  · replace h := fl_if_f h c4
    refine lv_aload_n hx hb dX8_soonest_11 rfl (lv_at hl 0 rfl) ?_
    refine fl_getr X hP fk_X8_19 k1_0 rfl dX8_soonest_12 ?_
    refine lv_aload_n hx hb dX8_soonest_15 rfl (lv_at hl 0 rfl) ?_
    refine fl_getr X hP fk_X8_29 k1_0 rfl dX8_soonest_16 ?_
    refine lv_iload_n hx hb dX8_soonest_19 rfl (lv_at hl 1 rfl) ?_
    obtain ⟨r5, m6, hz7, h⟩ := fl_bd_e h
    refine fl_callV (av := [.ref (ad 39), .int x1]) X hP hS hl.1 mv_X8_205 (c_X0_nearest l D ca ad hi N 4 ct_4 39 st_39 x1 m2 _ _ hz7) k1_4 (fl_fit_rm (by omega) (by decide)) rfl (Nat.le_of_ble_eq_true rfl) dX8_soonest_20 rfl (fun H locs hP hS => ?_)
    refine W.eq (g2 := F0 mm 23 ls [.int r5]) rfl ?_
    refine lv_goto (tgt := 27) hx hb dX8_soonest_23 (by decide) ?_
    exact fl_iret X hr hlk hP hS dX8_soonest_27 h

def f_X8_order (N : Nat) (x1 : Int32) (m : Mem) : Option (Int32 × Mem) :=
  fl_bd (f_X8_within x1 (0 : Int32) (7 : Int32) m) (fun r1 m2 =>
    if r1 = 0 then (
      some ((-1 : Int32), m2))
    else (
      fl_bd (f_X2_search N 4 39 m2) (fun r5 m6 =>
        if x1 = 0 then (
          some (m6.1 32 4, m6))
        else (
          if (m6.1 32 3) < x1 then (
            some ((-4 : Int32), m6))
          else (
            fl_ck (0 ≤ (x1 - (1 : Int32)).toInt ∧ (x1 - (1 : Int32)).toInt < 7) (
              some (m6.1 35 ((x1 - (1 : Int32)).toNatClampNeg), m6)))))))
set_option maxHeartbeats 4000000 in
set_option maxRecDepth 100000 in
theorem c_X8_order (l : Launch) (D : va_G) (ca : Nat → ClassId) (ad : Nat → Nat) (hi : fl_inj L1 ad) (N : Nat) (x1 : Int32) (m : Mem) (v' : Int32) (M' : Mem) (h : f_X8_order N x1 m = some (v', M')) : fl_M l L1 D ca ad yX8_order cX8_order 2 (some .int) 18 [.ref (ad 0), .int x1] m (some (.int v')) M' := by
  unfold f_X8_order at h
  refine fl_ofW (by decide) hi (Nat.le_of_ble_eq_true rfl) ?_
  intro p e s mm args below meth c ls X hr hlk hP hl
  have hl : lv_has ls 2 [(0, .ref (ad 0)), (1, .int x1)] := hl
  have X : fl_X p s mm args c cX8_order 2 RX8 L1 D ca ad := X
  obtain ⟨hx, hb, hml, hown, hts, hE, -⟩ := id X
  have hS : va_S (fl_A L1 ad) s.heap s.heap [] := va_S.rf
  refine lv_iload_n hx hb dX8_order_0 rfl (lv_at hl 1 rfl) ?_
  refine lv_iconst (v := (0 : Int32)) hx hb dX8_order_1 (by decide) ?_
  refine lv_bipush (v := (7 : Int32)) hx hb dX8_order_2 (by decide) ?_
  obtain ⟨r1, m2, hz3, h⟩ := fl_bd_e h
  refine fl_callS (av := [.int x1, .int (0 : Int32), .int (7 : Int32)]) X hP hS hl.1 ms_X8_99 (c_X8_within l D ca ad hi x1 (0 : Int32) (7 : Int32) m _ _ hz3) (fl_fit_rm (by omega) (by decide)) rfl (Nat.le_of_ble_eq_true rfl) dX8_order_4 rfl (fun H locs hP hS => ?_)
  refine W.eq (g2 := F0 mm 7 ls [.int r1]) rfl ?_
  refine lv_if_ne (tgt := 12) hx hb dX8_order_7 (by decide) (fun c4 => ?_) (fun c4 => ?_)
  · replace h := fl_if_f h c4
    refine lv_aload_n hx hb dX8_order_12 rfl (lv_at hl 0 rfl) ?_
    refine fl_getr X hP fk_X8_58 k1_0 rfl dX8_order_13 ?_
    refine lv_aload_n hx hb dX8_order_16 rfl (lv_at hl 0 rfl) ?_
    refine fl_getr X hP fk_X8_19 k1_0 rfl dX8_order_17 ?_
    refine lv_aload_n hx hb dX8_order_20 rfl (lv_at hl 0 rfl) ?_
    refine fl_getr X hP fk_X8_29 k1_0 rfl dX8_order_21 ?_
    obtain ⟨r5, m6, hz7, h⟩ := fl_bd_e h
    refine fl_callV (av := [.ref (ad 4), .ref (ad 39)]) X hP hS hl.1 mv_X8_209 (c_X2_search l D ca ad hi N 4 ct_4 39 st_39 m2 _ _ hz7) k1_32 (fl_fit_rm (by omega) (by decide)) rfl (Nat.le_of_ble_eq_true rfl) dX8_order_24 rfl (fun H locs hP hS => ?_)
    refine W.eq (g2 := F0 mm 27 ls []) rfl ?_
    refine lv_iload_n hx hb dX8_order_27 rfl (lv_at hl 1 rfl) ?_
    refine lv_if_ne (tgt := 39) hx hb dX8_order_28 (by decide) (fun c8 => ?_) (fun c8 => ?_)
    · replace h := fl_if_f h c8
      refine lv_iload_n hx hb dX8_order_39 rfl (lv_at hl 1 rfl) ?_
      refine lv_aload_n hx hb dX8_order_40 rfl (lv_at hl 0 rfl) ?_
      refine fl_getr X hP fk_X8_58 k1_0 rfl dX8_order_41 ?_
      refine fl_geti X hP fk_X8_216 k1_32 rfl dX8_order_44 ?_
      refine lv_icmp_gt (tgt := 64) hx hb dX8_order_47 (by decide) (fun c9 => ?_) (fun c9 => ?_)
      · replace h := fl_if_t h c9
        refine lv_bipush (v := (-4 : Int32)) hx hb dX8_order_64 (by decide) ?_
        exact fl_iret X hr hlk hP hS dX8_order_66 h
      · replace h := fl_if_f h c9
        refine lv_aload_n hx hb dX8_order_50 rfl (lv_at hl 0 rfl) ?_
        refine fl_getr X hP fk_X8_58 k1_0 rfl dX8_order_51 ?_
        refine fl_getr X hP fk_X8_217 k1_32 rfl dX8_order_54 ?_
        refine lv_iload_n hx hb dX8_order_57 rfl (lv_at hl 1 rfl) ?_
        refine lv_iconst (v := (1 : Int32)) hx hb dX8_order_58 (by decide) ?_
        refine lv_isub hx hb dX8_order_59 ?_
        obtain ⟨hk10, h⟩ := fl_ck_e h
        refine fl_iald X hP k1_35 hk10 dX8_order_60 ?_
        refine lv_goto (tgt := 66) hx hb dX8_order_61 (by decide) ?_
        exact fl_iret X hr hlk hP hS dX8_order_66 h
    · replace h := fl_if_t h c8
      refine lv_aload_n hx hb dX8_order_31 rfl (lv_at hl 0 rfl) ?_
      refine fl_getr X hP fk_X8_58 k1_0 rfl dX8_order_32 ?_
      refine fl_geti X hP fk_X8_213 k1_32 rfl dX8_order_35 ?_
      exact fl_iret X hr hlk hP hS dX8_order_38 h
  · replace h := fl_if_t h c4
    refine lv_iconst (v := (-1 : Int32)) hx hb dX8_order_10 (by decide) ?_
    exact fl_iret X hr hlk hP hS dX8_order_11 h

def B_X8_waiting_35 (N : Nat) (F : Int32 → Int32 → Int32 → Int32 → Int32 → Mem → Option (Int32 × Mem)) (x1 : Int32) (x2 : Int32) (x3 : Int32) (x4 : Int32) (x5 : Int32) (m : Mem) : Option (Int32 × Mem) :=
  fl_bd (f_X0_places 4 m) (fun r12 m13 =>
    if r12 ≤ x5 then (
      if x2 = 0 then (
        some (x3, m13))
      else (
        some (x4, m13)))
    else (
      fl_bd (f_X8_lateFrom N x1 x5 m13) (fun r17 m18 =>
        if x4 ≤ r17 then (
          F x1 x2 x3 x4 (x5 + 1) m18)
        else (
          F x1 x2 x5 r17 (x5 + 1) m18))))
def l_X8_waiting (N : Nat) : Nat → Int32 → Int32 → Int32 → Int32 → Int32 → Mem → Option (Int32 × Mem)
  | 0 => fun _ _ _ _ _ _ => none
  | n + 1 => fun x1 x2 x3 x4 x5 m => B_X8_waiting_35 N (l_X8_waiting N n) x1 x2 x3 x4 x5 m
def f_X8_waiting (N : Nat) (x1 : Int32) (x2 : Int32) (m : Mem) : Option (Int32 × Mem) :=
  fl_bd (f_X0_hasCab 4 x1 m) (fun r1 m2 =>
    if r1 = 0 then (
      some ((-1 : Int32), m2))
    else (
      fl_bd (f_X8_within x2 (0 : Int32) (1 : Int32) m2) (fun r5 m6 =>
        if r5 = 0 then (
          some ((-1 : Int32), m6))
        else (
          fl_bd (f_X8_lateFrom N x1 (0 : Int32) m6) (fun r9 m10 =>
            (l_X8_waiting N N) x1 x2 (0 : Int32) r9 (1 : Int32) m10)))))
set_option maxHeartbeats 4000000 in
set_option maxRecDepth 100000 in
theorem c_X8_waiting (l : Launch) (D : va_G) (ca : Nat → ClassId) (ad : Nat → Nat) (hi : fl_inj L1 ad) (N : Nat) (x1 : Int32) (x2 : Int32) (m : Mem) (v' : Int32) (M' : Mem) (h : f_X8_waiting N x1 x2 m = some (v', M')) : fl_M l L1 D ca ad yX8_waiting cX8_waiting 7 (some .int) 5 [.ref (ad 0), .int x1, .int x2] m (some (.int v')) M' := by
  unfold f_X8_waiting at h
  refine fl_ofW (by decide) hi (Nat.le_of_ble_eq_true rfl) ?_
  intro p e s mm args below meth c ls X hr hlk hP hl
  have hl : lv_has ls 7 [(0, .ref (ad 0)), (1, .int x1), (2, .int x2)] := hl
  have X : fl_X p s mm args c cX8_waiting 7 RX8 L1 D ca ad := X
  obtain ⟨hx, hb, hml, hown, hts, hE, -⟩ := id X
  have hS : va_S (fl_A L1 ad) s.heap s.heap [] := va_S.rf
  have key : ∀ n : Nat, (∀ (x1 : Int32) (x2 : Int32) (x3 : Int32) (x4 : Int32) (x5 : Int32) (m : Mem) (H : Heap) (locs : List Loc) (ls : Array Slot), l_X8_waiting N n x1 x2 x3 x4 x5 m = some (v', M') → va_P D vwCl (fl_w L1 ca ad m) H → va_S (fl_A L1 ad) s.heap H locs → lv_has ls 7 [(0, .ref (ad 0)), (1, .int x1), (2, .int x2), (3, .int x3), (4, .int x4), (5, .int x5)] → W p l e (fl_rm 5) s mm args below meth c H locs 0 0 (MQ below (fl_Q L1 D ca ad (some (.int v')) M') args s 0 0 (fl_A L1 ad)) (F0 mm 35 ls [])) := by
    intro n
    induction n with
    | zero =>
      skip
      · intro x1 x2 x3 x4 x5 m H locs ls h hP hS hl
        have h : (none : Option (Int32 × Mem)) = some (v', M') := h
        cases h
    | succ n ih =>
      have ih_35 := ih
      skip
      · intro x1 x2 x3 x4 x5 m H locs ls h hP hS hl
        have h : B_X8_waiting_35 N (l_X8_waiting N n) x1 x2 x3 x4 x5 m = some (v', M') := h
        unfold B_X8_waiting_35 at h
        refine lv_iload hx hb dX8_waiting_35 (lv_at hl 5 rfl) ?_
        refine lv_aload_n hx hb dX8_waiting_37 rfl (lv_at hl 0 rfl) ?_
        refine fl_getr X hP fk_X8_19 k1_0 rfl dX8_waiting_38 ?_
        obtain ⟨r12, m13, hz14, h⟩ := fl_bd_e h
        refine fl_callV (av := []) X hP hS hl.1 mv_X8_109 (c_X0_places l D ca ad hi 4 ct_4 m _ _ hz14) k1_4 (fl_fit_rm (by omega) (by decide)) rfl (Nat.le_of_ble_eq_true rfl) dX8_waiting_41 rfl (fun H locs hP hS => ?_)
        refine W.eq (g2 := F0 mm 44 ls [.int r12, .int x5]) rfl ?_
        refine lv_icmp_ge (tgt := 76) hx hb dX8_waiting_44 (by decide) (fun c15 => ?_) (fun c15 => ?_)
        · replace h := fl_if_t h c15
          refine lv_iload_n hx hb dX8_waiting_76 rfl (lv_at hl 2 rfl) ?_
          refine lv_if_ne (tgt := 84) hx hb dX8_waiting_77 (by decide) (fun c16 => ?_) (fun c16 => ?_)
          · replace h := fl_if_f h c16
            refine lv_iload hx hb dX8_waiting_84 (lv_at hl 4 rfl) ?_
            exact fl_iret X hr hlk hP hS dX8_waiting_86 h
          · replace h := fl_if_t h c16
            refine lv_iload_n hx hb dX8_waiting_80 rfl (lv_at hl 3 rfl) ?_
            refine lv_goto (tgt := 86) hx hb dX8_waiting_81 (by decide) ?_
            exact fl_iret X hr hlk hP hS dX8_waiting_86 h
        · replace h := fl_if_f h c15
          refine lv_aload_n hx hb dX8_waiting_47 rfl (lv_at hl 0 rfl) ?_
          refine lv_iload_n hx hb dX8_waiting_48 rfl (lv_at hl 1 rfl) ?_
          refine lv_iload hx hb dX8_waiting_49 (lv_at hl 5 rfl) ?_
          obtain ⟨r17, m18, hz19, h⟩ := fl_bd_e h
          refine fl_callV (av := [.int x1, .int x5]) X hP hS hl.1 mv_X8_220 (c_X8_lateFrom l D ca ad hi N x1 x5 m13 _ _ hz19) k1_0 (fl_fit_rm (by omega) (by decide)) rfl (Nat.le_of_ble_eq_true rfl) dX8_waiting_51 rfl (fun H locs hP hS => ?_)
          refine W.eq (g2 := F0 mm 54 ls [.int r17]) rfl ?_
          refine lv_istore (lv' := [(6, .int r17), (0, .ref (ad 0)), (1, .int x1), (2, .int x2), (3, .int x3), (4, .int x4), (5, .int x5)]) hx hb dX8_waiting_54 hl (by decide) rfl (fun ls hl => ?_)
          refine lv_iload hx hb dX8_waiting_56 (lv_at hl 0 rfl) ?_
          refine lv_iload hx hb dX8_waiting_58 (lv_at hl 5 rfl) ?_
          refine lv_icmp_ge (tgt := 70) hx hb dX8_waiting_60 (by decide) (fun c20 => ?_) (fun c20 => ?_)
          · replace h := fl_if_t h c20
            refine lv_iinc (v := x5 + 1) (lv' := [(5, .int (x5 + 1)), (6, .int r17), (0, .ref (ad 0)), (1, .int x1), (2, .int x2), (3, .int x3), (4, .int x4)]) hx hb dX8_waiting_70 hl (k := 6) rfl rfl (by decide) rfl (fun ls hl => ?_)
            refine lv_goto (tgt := 35) hx hb dX8_waiting_73 (by decide) ?_
            exact ih_35 _ _ _ _ _ _ _ _ _ h hP hS (lv_sub hl [2, 3, 4, 5, 6, 0] rfl)
          · replace h := fl_if_f h c20
            refine lv_iload hx hb dX8_waiting_63 (lv_at hl 0 rfl) ?_
            refine lv_istore (lv' := [(4, .int r17), (6, .int r17), (0, .ref (ad 0)), (1, .int x1), (2, .int x2), (3, .int x3), (5, .int x5)]) hx hb dX8_waiting_65 hl (by decide) rfl (fun ls hl => ?_)
            refine lv_iload hx hb dX8_waiting_67 (lv_at hl 6 rfl) ?_
            refine lv_istore_n (lv' := [(3, .int x5), (4, .int r17), (6, .int r17), (0, .ref (ad 0)), (1, .int x1), (2, .int x2), (5, .int x5)]) hx hb dX8_waiting_69 rfl hl (by decide) rfl (fun ls hl => ?_)
            refine lv_iinc (v := x5 + 1) (lv' := [(5, .int (x5 + 1)), (3, .int x5), (4, .int r17), (6, .int r17), (0, .ref (ad 0)), (1, .int x1), (2, .int x2)]) hx hb dX8_waiting_70 hl (k := 6) rfl rfl (by decide) rfl (fun ls hl => ?_)
            refine lv_goto (tgt := 35) hx hb dX8_waiting_73 (by decide) ?_
            exact ih_35 _ _ _ _ _ _ _ _ _ h hP hS (lv_sub hl [4, 5, 6, 1, 2, 0] rfl)
  have ih_35 := key N
  refine lv_aload_n hx hb dX8_waiting_0 rfl (lv_at hl 0 rfl) ?_
  refine fl_getr X hP fk_X8_19 k1_0 rfl dX8_waiting_1 ?_
  refine lv_iload_n hx hb dX8_waiting_4 rfl (lv_at hl 1 rfl) ?_
  obtain ⟨r1, m2, hz3, h⟩ := fl_bd_e h
  refine fl_callV (av := [.int x1]) X hP hS hl.1 mv_X8_120 (c_X0_hasCab l D ca ad hi 4 ct_4 x1 m _ _ hz3) k1_4 (fl_fit_rm (by omega) (by decide)) rfl (Nat.le_of_ble_eq_true rfl) dX8_waiting_5 rfl (fun H locs hP hS => ?_)
  refine W.eq (g2 := F0 mm 8 ls [.int r1]) rfl ?_
  refine lv_if_eq (tgt := 20) hx hb dX8_waiting_8 (by decide) (fun c4 => ?_) (fun c4 => ?_)
  · replace h := fl_if_t h c4
    refine lv_iconst (v := (-1 : Int32)) hx hb dX8_waiting_20 (by decide) ?_
    exact fl_iret X hr hlk hP hS dX8_waiting_21 h
  · replace h := fl_if_f h c4
    refine lv_iload_n hx hb dX8_waiting_11 rfl (lv_at hl 2 rfl) ?_
    refine lv_iconst (v := (0 : Int32)) hx hb dX8_waiting_12 (by decide) ?_
    refine lv_iconst (v := (1 : Int32)) hx hb dX8_waiting_13 (by decide) ?_
    obtain ⟨r5, m6, hz7, h⟩ := fl_bd_e h
    refine fl_callS (av := [.int x2, .int (0 : Int32), .int (1 : Int32)]) X hP hS hl.1 ms_X8_99 (c_X8_within l D ca ad hi x2 (0 : Int32) (1 : Int32) m2 _ _ hz7) (fl_fit_rm (by omega) (by decide)) rfl (Nat.le_of_ble_eq_true rfl) dX8_waiting_14 rfl (fun H locs hP hS => ?_)
    refine W.eq (g2 := F0 mm 17 ls [.int r5]) rfl ?_
    refine lv_if_ne (tgt := 22) hx hb dX8_waiting_17 (by decide) (fun c8 => ?_) (fun c8 => ?_)
    · replace h := fl_if_f h c8
      refine lv_iconst (v := (0 : Int32)) hx hb dX8_waiting_22 (by decide) ?_
      refine lv_istore_n (lv' := [(3, .int (0 : Int32)), (0, .ref (ad 0)), (1, .int x1), (2, .int x2)]) hx hb dX8_waiting_23 rfl hl (by decide) rfl (fun ls hl => ?_)
      refine lv_aload_n hx hb dX8_waiting_24 rfl (lv_at hl 1 rfl) ?_
      refine lv_iload_n hx hb dX8_waiting_25 rfl (lv_at hl 2 rfl) ?_
      refine lv_iconst (v := (0 : Int32)) hx hb dX8_waiting_26 (by decide) ?_
      obtain ⟨r9, m10, hz11, h⟩ := fl_bd_e h
      refine fl_callV (av := [.int x1, .int (0 : Int32)]) X hP hS hl.1 mv_X8_220 (c_X8_lateFrom l D ca ad hi N x1 (0 : Int32) m6 _ _ hz11) k1_0 (fl_fit_rm (by omega) (by decide)) rfl (Nat.le_of_ble_eq_true rfl) dX8_waiting_27 rfl (fun H locs hP hS => ?_)
      refine W.eq (g2 := F0 mm 30 ls [.int r9]) rfl ?_
      refine lv_istore (lv' := [(4, .int r9), (3, .int (0 : Int32)), (0, .ref (ad 0)), (1, .int x1), (2, .int x2)]) hx hb dX8_waiting_30 hl (by decide) rfl (fun ls hl => ?_)
      refine lv_iconst (v := (1 : Int32)) hx hb dX8_waiting_32 (by decide) ?_
      refine lv_istore (lv' := [(5, .int (1 : Int32)), (4, .int r9), (3, .int (0 : Int32)), (0, .ref (ad 0)), (1, .int x1), (2, .int x2)]) hx hb dX8_waiting_33 hl (by decide) rfl (fun ls hl => ?_)
      exact ih_35 _ _ _ _ _ _ _ _ _ h hP hS (lv_sub hl [3, 4, 5, 2, 1, 0] rfl)
    · replace h := fl_if_t h c8
      refine lv_iconst (v := (-1 : Int32)) hx hb dX8_waiting_20 (by decide) ?_
      exact fl_iret X hr hlk hP hS dX8_waiting_21 h

def B_X8_round_37 (N : Nat) (F : Int32 → Int32 → Mem → Option (Int32 × Mem)) (x1 : Int32) (x2 : Int32) (m : Mem) : Option (Int32 × Mem) :=
  if (40 : Int32) < x2 then (
    some ((-4 : Int32), m))
  else (
    fl_bd (f_X8_liveOneDay N  m) (fun r14 m15 =>
      fl_bd (f_X5_cabsAsNumber N 45 m15) (fun r17 m18 =>
        fl_ck (0 ≤ x2.toInt ∧ x2.toInt < 41) (
          fl_lm (mL m18 (x2.toNatClampNeg) r17) (fun m21 =>
            fl_bd (f_X8_dayLike N x2 m21) (fun r23 m24 =>
              if x2 ≤ r23 then (
                F x1 (x2 + 1) m24)
              else (
                if x1 = 0 then (
                  some (x2, m24))
                else (
                  some (r23, m24)))))))))
def l_X8_round (N : Nat) : Nat → Int32 → Int32 → Mem → Option (Int32 × Mem)
  | 0 => fun _ _ _ => none
  | n + 1 => fun x1 x2 m => B_X8_round_37 N (l_X8_round N n) x1 x2 m
def f_X8_round (N : Nat) (x1 : Int32) (m : Mem) : Option (Int32 × Mem) :=
  fl_bd (f_X8_within x1 (0 : Int32) (1 : Int32) m) (fun r1 m2 =>
    if r1 = 0 then (
      some ((-1 : Int32), m2))
    else (
      fl_bd (f_X5_copy 45 39 m2) (fun r5 m6 =>
        fl_bd (f_X5_cabsAsNumber N 45 m6) (fun r8 m9 =>
          fl_lm (mL m9 0 r8) (fun m11 =>
            (l_X8_round N N) x1 (1 : Int32) m11)))))
set_option maxHeartbeats 4000000 in
set_option maxRecDepth 100000 in
theorem c_X8_round (l : Launch) (D : va_G) (ca : Nat → ClassId) (ad : Nat → Nat) (hi : fl_inj L1 ad) (N : Nat) (x1 : Int32) (m : Mem) (v' : Int32) (M' : Mem) (h : f_X8_round N x1 m = some (v', M')) : fl_M l L1 D ca ad yX8_round cX8_round 4 (some .int) 7 [.ref (ad 0), .int x1] m (some (.int v')) M' := by
  unfold f_X8_round at h
  refine fl_ofW (by decide) hi (Nat.le_of_ble_eq_true rfl) ?_
  intro p e s mm args below meth c ls X hr hlk hP hl
  have hl : lv_has ls 4 [(0, .ref (ad 0)), (1, .int x1)] := hl
  have X : fl_X p s mm args c cX8_round 4 RX8 L1 D ca ad := X
  obtain ⟨hx, hb, hml, hown, hts, hE, -⟩ := id X
  have hS : va_S (fl_A L1 ad) s.heap s.heap [] := va_S.rf
  have key : ∀ n : Nat, (∀ (x1 : Int32) (x2 : Int32) (m : Mem) (H : Heap) (locs : List Loc) (ls : Array Slot), l_X8_round N n x1 x2 m = some (v', M') → va_P D vwCl (fl_w L1 ca ad m) H → va_S (fl_A L1 ad) s.heap H locs → lv_has ls 4 [(0, .ref (ad 0)), (1, .int x1), (2, .int x2)] → W p l e (fl_rm 7) s mm args below meth c H locs 0 0 (MQ below (fl_Q L1 D ca ad (some (.int v')) M') args s 0 0 (fl_A L1 ad)) (F0 mm 37 ls [])) := by
    intro n
    induction n with
    | zero =>
      skip
      · intro x1 x2 m H locs ls h hP hS hl
        have h : (none : Option (Int32 × Mem)) = some (v', M') := h
        cases h
    | succ n ih =>
      have ih_37 := ih
      skip
      · intro x1 x2 m H locs ls h hP hS hl
        have h : B_X8_round_37 N (l_X8_round N n) x1 x2 m = some (v', M') := h
        unfold B_X8_round_37 at h
        refine lv_iload_n hx hb dX8_round_37 rfl (lv_at hl 2 rfl) ?_
        refine lv_bipush (v := (40 : Int32)) hx hb dX8_round_38 (by decide) ?_
        refine lv_icmp_gt (tgt := 87) hx hb dX8_round_40 (by decide) (fun c13 => ?_) (fun c13 => ?_)
        · replace h := fl_if_t h c13
          refine lv_bipush (v := (-4 : Int32)) hx hb dX8_round_87 (by decide) ?_
          exact fl_iret X hr hlk hP hS dX8_round_89 h
        · replace h := fl_if_f h c13
          refine lv_aload_n hx hb dX8_round_43 rfl (lv_at hl 0 rfl) ?_
          obtain ⟨r14, m15, hz16, h⟩ := fl_bd_e h
          refine fl_callV (av := []) X hP hS hl.1 mv_X8_230 (c_X8_liveOneDay l D ca ad hi N  m _ _ hz16) k1_0 (fl_fit_rm (by omega) (by decide)) rfl (Nat.le_of_ble_eq_true rfl) dX8_round_44 rfl (fun H locs hP hS => ?_)
          refine W.eq (g2 := F0 mm 47 ls []) rfl ?_
          refine lv_aload_n hx hb dX8_round_47 rfl (lv_at hl 0 rfl) ?_
          refine fl_getr X hP fk_X8_69 k1_0 rfl dX8_round_48 ?_
          refine lv_iload_n hx hb dX8_round_51 rfl (lv_at hl 2 rfl) ?_
          refine lv_aload_n hx hb dX8_round_52 rfl (lv_at hl 0 rfl) ?_
          refine fl_getr X hP fk_X8_33 k1_0 rfl dX8_round_53 ?_
          obtain ⟨r17, m18, hz19, h⟩ := fl_bd_e h
          refine fl_callV (av := []) X hP hS hl.1 mv_X8_226 (c_X5_cabsAsNumber l D ca ad hi N 45 st_45 m15 _ _ hz19) k1_45 (fl_fit_rm (by omega) (by decide)) rfl (Nat.le_of_ble_eq_true rfl) dX8_round_56 rfl (fun H locs hP hS => ?_)
          refine W.eq (g2 := F0 mm 59 ls [.long r17, .int x2, .ref (ad 38)]) rfl ?_
          obtain ⟨hk20, h⟩ := fl_ck_e h
          obtain ⟨m21, em22, h⟩ := fl_lm_e h
          refine fl_last X hP hS k1_38 fl_one3 hk20 dX8_round_59 (fun H locs hP hS => ?_)
          have hP : va_P D vwCl (fl_w L1 ca ad m21) H := by rw [em22]; exact hP
          refine lv_aload_n hx hb dX8_round_60 rfl (lv_at hl 0 rfl) ?_
          refine lv_iload_n hx hb dX8_round_61 rfl (lv_at hl 2 rfl) ?_
          obtain ⟨r23, m24, hz25, h⟩ := fl_bd_e h
          refine fl_callV (av := [.int x2]) X hP hS hl.1 mv_X8_233 (c_X8_dayLike l D ca ad hi N x2 m21 _ _ hz25) k1_0 (fl_fit_rm (by omega) (by decide)) rfl (Nat.le_of_ble_eq_true rfl) dX8_round_62 rfl (fun H locs hP hS => ?_)
          refine W.eq (g2 := F0 mm 65 ls [.int r23]) rfl ?_
          refine lv_istore_n (lv' := [(3, .int r23), (0, .ref (ad 0)), (1, .int x1), (2, .int x2)]) hx hb dX8_round_65 rfl hl (by decide) rfl (fun ls hl => ?_)
          refine lv_iload_n hx hb dX8_round_66 rfl (lv_at hl 0 rfl) ?_
          refine lv_iload_n hx hb dX8_round_67 rfl (lv_at hl 3 rfl) ?_
          refine lv_icmp_ge (tgt := 81) hx hb dX8_round_68 (by decide) (fun c26 => ?_) (fun c26 => ?_)
          · replace h := fl_if_t h c26
            refine lv_iinc (v := x2 + 1) (lv' := [(2, .int (x2 + 1)), (3, .int r23), (0, .ref (ad 0)), (1, .int x1)]) hx hb dX8_round_81 hl (k := 3) rfl rfl (by decide) rfl (fun ls hl => ?_)
            refine lv_goto (tgt := 37) hx hb dX8_round_84 (by decide) ?_
            exact ih_37 _ _ _ _ _ _ h hP hS (lv_sub hl [2, 3, 0] rfl)
          · replace h := fl_if_f h c26
            refine lv_iload_n hx hb dX8_round_71 rfl (lv_at hl 2 rfl) ?_
            refine lv_if_ne (tgt := 79) hx hb dX8_round_72 (by decide) (fun c27 => ?_) (fun c27 => ?_)
            · replace h := fl_if_f h c27
              refine lv_iload_n hx hb dX8_round_79 rfl (lv_at hl 0 rfl) ?_
              exact fl_iret X hr hlk hP hS dX8_round_80 h
            · replace h := fl_if_t h c27
              refine lv_iload_n hx hb dX8_round_75 rfl (lv_at hl 3 rfl) ?_
              refine lv_goto (tgt := 80) hx hb dX8_round_76 (by decide) ?_
              exact fl_iret X hr hlk hP hS dX8_round_80 h
  have ih_37 := key N
  refine lv_iload_n hx hb dX8_round_0 rfl (lv_at hl 1 rfl) ?_
  refine lv_iconst (v := (0 : Int32)) hx hb dX8_round_1 (by decide) ?_
  refine lv_iconst (v := (1 : Int32)) hx hb dX8_round_2 (by decide) ?_
  obtain ⟨r1, m2, hz3, h⟩ := fl_bd_e h
  refine fl_callS (av := [.int x1, .int (0 : Int32), .int (1 : Int32)]) X hP hS hl.1 ms_X8_99 (c_X8_within l D ca ad hi x1 (0 : Int32) (1 : Int32) m _ _ hz3) (fl_fit_rm (by omega) (by decide)) rfl (Nat.le_of_ble_eq_true rfl) dX8_round_3 rfl (fun H locs hP hS => ?_)
  refine W.eq (g2 := F0 mm 6 ls [.int r1]) rfl ?_
  refine lv_if_ne (tgt := 11) hx hb dX8_round_6 (by decide) (fun c4 => ?_) (fun c4 => ?_)
  · replace h := fl_if_f h c4
    refine lv_aload_n hx hb dX8_round_11 rfl (lv_at hl 0 rfl) ?_
    refine fl_getr X hP fk_X8_33 k1_0 rfl dX8_round_12 ?_
    refine lv_aload_n hx hb dX8_round_15 rfl (lv_at hl 0 rfl) ?_
    refine fl_getr X hP fk_X8_29 k1_0 rfl dX8_round_16 ?_
    obtain ⟨r5, m6, hz7, h⟩ := fl_bd_e h
    refine fl_callV (av := [.ref (ad 39)]) X hP hS hl.1 mv_X8_223 (c_X5_copy l D ca ad hi 45 st_45 39 st_39 m2 _ _ hz7) k1_45 (fl_fit_rm (by omega) (by decide)) rfl (Nat.le_of_ble_eq_true rfl) dX8_round_19 rfl (fun H locs hP hS => ?_)
    refine W.eq (g2 := F0 mm 22 ls []) rfl ?_
    refine lv_aload_n hx hb dX8_round_22 rfl (lv_at hl 0 rfl) ?_
    refine fl_getr X hP fk_X8_69 k1_0 rfl dX8_round_23 ?_
    refine lv_iconst (v := (0 : Int32)) hx hb dX8_round_26 (by decide) ?_
    refine lv_aload_n hx hb dX8_round_27 rfl (lv_at hl 0 rfl) ?_
    refine fl_getr X hP fk_X8_33 k1_0 rfl dX8_round_28 ?_
    obtain ⟨r8, m9, hz10, h⟩ := fl_bd_e h
    refine fl_callV (av := []) X hP hS hl.1 mv_X8_226 (c_X5_cabsAsNumber l D ca ad hi N 45 st_45 m6 _ _ hz10) k1_45 (fl_fit_rm (by omega) (by decide)) rfl (Nat.le_of_ble_eq_true rfl) dX8_round_31 rfl (fun H locs hP hS => ?_)
    refine W.eq (g2 := F0 mm 34 ls [.long r8, .int (0 : Int32), .ref (ad 38)]) rfl ?_
    obtain ⟨m11, em12, h⟩ := fl_lm_e h
    refine fl_last X hP hS k1_38 fl_one3 (by decide) dX8_round_34 (fun H locs hP hS => ?_)
    have hP : va_P D vwCl (fl_w L1 ca ad m11) H := by rw [em12]; exact hP
    refine lv_iconst (v := (1 : Int32)) hx hb dX8_round_35 (by decide) ?_
    refine lv_istore_n (lv' := [(2, .int (1 : Int32)), (0, .ref (ad 0)), (1, .int x1)]) hx hb dX8_round_36 rfl hl (by decide) rfl (fun ls hl => ?_)
    exact ih_37 _ _ _ _ _ _ h hP hS (lv_sub hl [1, 2, 0] rfl)
  · replace h := fl_if_t h c4
    refine lv_iconst (v := (-1 : Int32)) hx hb dX8_round_9 (by decide) ?_
    exact fl_iret X hr hlk hP hS dX8_round_10 h

def f_X8_mends (N : Nat) (x1 : Int32) (m : Mem) : Option (Int32 × Mem) :=
  fl_bd (f_X0_hasFare 4 x1 m) (fun r1 m2 =>
    if r1 = 0 then (
      some ((-1 : Int32), m2))
    else (
      fl_bd (f_X5_isTaken 39 x1 m2) (fun r5 m6 =>
        if r5 = 0 then (
          fl_ck (0 ≤ x1.toInt ∧ x1.toInt < 7) (
            if (m6.1 8 (x1.toNatClampNeg)) = (3 : Int32) then (
              fl_bd (f_X5_copy 45 39 m6) (fun r11 m12 =>
                fl_bd (f_X8_tearsOfOthers N x1 m12) (fun r14 m15 =>
                  fl_bd (f_X5_copy 45 39 m15) (fun r17 m18 =>
                    fl_bd (f_X0_driveSoonest N 4 45 x1 m18) (fun r20 m21 =>
                      fl_bd (f_X8_tearsOfOthers N x1 m21) (fun r23 m24 =>
                        some ((r14 - r23) + (10 : Int32), m24)))))))
            else (
              some ((-2 : Int32), m6))))
        else (
          some ((-2 : Int32), m6)))))
set_option maxHeartbeats 4000000 in
set_option maxRecDepth 100000 in
theorem c_X8_mends (l : Launch) (D : va_G) (ca : Nat → ClassId) (ad : Nat → Nat) (hi : fl_inj L1 ad) (N : Nat) (x1 : Int32) (m : Mem) (v' : Int32) (M' : Mem) (h : f_X8_mends N x1 m = some (v', M')) : fl_M l L1 D ca ad yX8_mends cX8_mends 3 (some .int) 7 [.ref (ad 0), .int x1] m (some (.int v')) M' := by
  unfold f_X8_mends at h
  refine fl_ofW (by decide) hi (Nat.le_of_ble_eq_true rfl) ?_
  intro p e s mm args below meth c ls X hr hlk hP hl
  have hl : lv_has ls 3 [(0, .ref (ad 0)), (1, .int x1)] := hl
  have X : fl_X p s mm args c cX8_mends 3 RX8 L1 D ca ad := X
  obtain ⟨hx, hb, hml, hown, hts, hE, -⟩ := id X
  have hS : va_S (fl_A L1 ad) s.heap s.heap [] := va_S.rf
  refine lv_aload_n hx hb dX8_mends_0 rfl (lv_at hl 0 rfl) ?_
  refine fl_getr X hP fk_X8_19 k1_0 rfl dX8_mends_1 ?_
  refine lv_iload_n hx hb dX8_mends_4 rfl (lv_at hl 1 rfl) ?_
  obtain ⟨r1, m2, hz3, h⟩ := fl_bd_e h
  refine fl_callV (av := [.int x1]) X hP hS hl.1 mv_X8_136 (c_X0_hasFare l D ca ad hi 4 ct_4 x1 m _ _ hz3) k1_4 (fl_fit_rm (by omega) (by decide)) rfl (Nat.le_of_ble_eq_true rfl) dX8_mends_5 rfl (fun H locs hP hS => ?_)
  refine W.eq (g2 := F0 mm 8 ls [.int r1]) rfl ?_
  refine lv_if_ne (tgt := 13) hx hb dX8_mends_8 (by decide) (fun c4 => ?_) (fun c4 => ?_)
  · replace h := fl_if_f h c4
    refine lv_aload_n hx hb dX8_mends_13 rfl (lv_at hl 0 rfl) ?_
    refine fl_getr X hP fk_X8_29 k1_0 rfl dX8_mends_14 ?_
    refine lv_iload_n hx hb dX8_mends_17 rfl (lv_at hl 1 rfl) ?_
    obtain ⟨r5, m6, hz7, h⟩ := fl_bd_e h
    refine fl_callV (av := [.int x1]) X hP hS hl.1 mv_X8_154 (c_X5_isTaken l D ca ad hi 39 st_39 x1 m2 _ _ hz7) k1_39 (fl_fit_rm (by omega) (by decide)) rfl (Nat.le_of_ble_eq_true rfl) dX8_mends_18 rfl (fun H locs hP hS => ?_)
    refine W.eq (g2 := F0 mm 21 ls [.int r5]) rfl ?_
    refine lv_if_ne (tgt := 37) hx hb dX8_mends_21 (by decide) (fun c8 => ?_) (fun c8 => ?_)
    · replace h := fl_if_f h c8
      refine lv_bipush (v := (-2 : Int32)) hx hb dX8_mends_37 (by decide) ?_
      exact fl_iret X hr hlk hP hS dX8_mends_39 h
    · replace h := fl_if_t h c8
      refine lv_aload_n hx hb dX8_mends_24 rfl (lv_at hl 0 rfl) ?_
      refine fl_getr X hP fk_X8_19 k1_0 rfl dX8_mends_25 ?_
      refine fl_getr X hP fk_X8_139 k1_4 rfl dX8_mends_28 ?_
      refine lv_iload_n hx hb dX8_mends_31 rfl (lv_at hl 1 rfl) ?_
      obtain ⟨hk9, h⟩ := fl_ck_e h
      refine fl_iald X hP k1_8 hk9 dX8_mends_32 ?_
      refine lv_iconst (v := (3 : Int32)) hx hb dX8_mends_33 (by decide) ?_
      refine lv_icmp_eq (tgt := 40) hx hb dX8_mends_34 (by decide) (fun c10 => ?_) (fun c10 => ?_)
      · replace h := fl_if_t h c10
        refine lv_aload_n hx hb dX8_mends_40 rfl (lv_at hl 0 rfl) ?_
        refine fl_getr X hP fk_X8_33 k1_0 rfl dX8_mends_41 ?_
        refine lv_aload_n hx hb dX8_mends_44 rfl (lv_at hl 0 rfl) ?_
        refine fl_getr X hP fk_X8_29 k1_0 rfl dX8_mends_45 ?_
        obtain ⟨r11, m12, hz13, h⟩ := fl_bd_e h
        refine fl_callV (av := [.ref (ad 39)]) X hP hS hl.1 mv_X8_223 (c_X5_copy l D ca ad hi 45 st_45 39 st_39 m6 _ _ hz13) k1_45 (fl_fit_rm (by omega) (by decide)) rfl (Nat.le_of_ble_eq_true rfl) dX8_mends_48 rfl (fun H locs hP hS => ?_)
        refine W.eq (g2 := F0 mm 51 ls []) rfl ?_
        refine lv_aload_n hx hb dX8_mends_51 rfl (lv_at hl 0 rfl) ?_
        refine lv_iload_n hx hb dX8_mends_52 rfl (lv_at hl 1 rfl) ?_
        obtain ⟨r14, m15, hz16, h⟩ := fl_bd_e h
        refine fl_callV (av := [.int x1]) X hP hS hl.1 mv_X8_237 (c_X8_tearsOfOthers l D ca ad hi N x1 m12 _ _ hz16) k1_0 (fl_fit_rm (by omega) (by decide)) rfl (Nat.le_of_ble_eq_true rfl) dX8_mends_53 rfl (fun H locs hP hS => ?_)
        refine W.eq (g2 := F0 mm 56 ls [.int r14]) rfl ?_
        refine lv_istore_n (lv' := [(2, .int r14), (0, .ref (ad 0)), (1, .int x1)]) hx hb dX8_mends_56 rfl hl (by decide) rfl (fun ls hl => ?_)
        refine lv_aload_n hx hb dX8_mends_57 rfl (lv_at hl 1 rfl) ?_
        refine fl_getr X hP fk_X8_33 k1_0 rfl dX8_mends_58 ?_
        refine lv_aload_n hx hb dX8_mends_61 rfl (lv_at hl 1 rfl) ?_
        refine fl_getr X hP fk_X8_29 k1_0 rfl dX8_mends_62 ?_
        obtain ⟨r17, m18, hz19, h⟩ := fl_bd_e h
        refine fl_callV (av := [.ref (ad 39)]) X hP hS hl.1 mv_X8_223 (c_X5_copy l D ca ad hi 45 st_45 39 st_39 m15 _ _ hz19) k1_45 (fl_fit_rm (by omega) (by decide)) rfl (Nat.le_of_ble_eq_true rfl) dX8_mends_65 rfl (fun H locs hP hS => ?_)
        refine W.eq (g2 := F0 mm 68 ls []) rfl ?_
        refine lv_aload_n hx hb dX8_mends_68 rfl (lv_at hl 1 rfl) ?_
        refine fl_getr X hP fk_X8_19 k1_0 rfl dX8_mends_69 ?_
        refine lv_aload_n hx hb dX8_mends_72 rfl (lv_at hl 1 rfl) ?_
        refine fl_getr X hP fk_X8_33 k1_0 rfl dX8_mends_73 ?_
        refine lv_iload_n hx hb dX8_mends_76 rfl (lv_at hl 2 rfl) ?_
        obtain ⟨r20, m21, hz22, h⟩ := fl_bd_e h
        refine fl_callV (av := [.ref (ad 45), .int x1]) X hP hS hl.1 mv_X8_240 (c_X0_driveSoonest l D ca ad hi N 4 ct_4 45 st_45 x1 m18 _ _ hz22) k1_4 (fl_fit_rm (by omega) (by decide)) rfl (Nat.le_of_ble_eq_true rfl) dX8_mends_77 rfl (fun H locs hP hS => ?_)
        refine W.eq (g2 := F0 mm 80 ls [.int r20]) rfl ?_
        refine lv_pop hx hb dX8_mends_80 rfl ?_
        refine lv_iload_n hx hb dX8_mends_81 rfl (lv_at hl 0 rfl) ?_
        refine lv_aload_n hx hb dX8_mends_82 rfl (lv_at hl 1 rfl) ?_
        refine lv_iload_n hx hb dX8_mends_83 rfl (lv_at hl 2 rfl) ?_
        obtain ⟨r23, m24, hz25, h⟩ := fl_bd_e h
        refine fl_callV (av := [.int x1]) X hP hS hl.1 mv_X8_237 (c_X8_tearsOfOthers l D ca ad hi N x1 m21 _ _ hz25) k1_0 (fl_fit_rm (by omega) (by decide)) rfl (Nat.le_of_ble_eq_true rfl) dX8_mends_84 rfl (fun H locs hP hS => ?_)
        refine W.eq (g2 := F0 mm 87 ls [.int r23, .int r14]) rfl ?_
        refine lv_isub hx hb dX8_mends_87 ?_
        refine lv_bipush (v := (10 : Int32)) hx hb dX8_mends_88 (by decide) ?_
        refine lv_iadd hx hb dX8_mends_90 ?_
        exact fl_iret X hr hlk hP hS dX8_mends_91 h
      · replace h := fl_if_f h c10
        refine lv_bipush (v := (-2 : Int32)) hx hb dX8_mends_37 (by decide) ?_
        exact fl_iret X hr hlk hP hS dX8_mends_39 h
  · replace h := fl_if_t h c4
    refine lv_iconst (v := (-1 : Int32)) hx hb dX8_mends_11 (by decide) ?_
    exact fl_iret X hr hlk hP hS dX8_mends_12 h

def J_X8_rivals_32 (N : Nat) (x1 : Int32) (x2 : Int32) (x3 : Int32) (x4 : Int32) (t0 : Int32) (m : Mem) : Option (Int32 × Mem) :=
  if t0 = 0 then (
    some ((-1 : Int32), m))
  else (
    fl_bd (f_X8_within x3 (1 : Int32) (4 : Int32) m) (fun r11 m12 =>
      if r11 = 0 then (
        some ((-1 : Int32), m12))
      else (
        fl_bd (f_X8_within x4 (0 : Int32) (1 : Int32) m12) (fun r15 m16 =>
          if r15 = 0 then (
            some ((-1 : Int32), m16))
          else (
            fl_bd (f_X1_fight N 4 39 x1 x2 x3 m16) (fun r19 m20 =>
              if x4 = 0 then (
                some ((m20.1 36 4) + (10 : Int32), m20))
              else (
                some (m20.1 36 5, m20))))))))
def J_X8_rivals_31 (N : Nat) (x1 : Int32) (x2 : Int32) (x3 : Int32) (x4 : Int32) (m : Mem) : Option (Int32 × Mem) :=
  J_X8_rivals_32 N x1 x2 x3 x4 (0 : Int32) m
def f_X8_rivals (N : Nat) (x1 : Int32) (x2 : Int32) (x3 : Int32) (x4 : Int32) (m : Mem) : Option (Int32 × Mem) :=
  fl_bd (f_X0_hasCab 4 x1 m) (fun r1 m2 =>
    if r1 = 0 then (
      J_X8_rivals_31 N x1 x2 x3 x4 m2)
    else (
      fl_bd (f_X0_hasCab 4 x2 m2) (fun r5 m6 =>
        if r5 = 0 then (
          J_X8_rivals_31 N x1 x2 x3 x4 m6)
        else (
          if x1 = x2 then (
            J_X8_rivals_31 N x1 x2 x3 x4 m6)
          else (
            J_X8_rivals_32 N x1 x2 x3 x4 (1 : Int32) m6)))))
set_option maxHeartbeats 4000000 in
set_option maxRecDepth 100000 in
theorem c_X8_rivals (l : Launch) (D : va_G) (ca : Nat → ClassId) (ad : Nat → Nat) (hi : fl_inj L1 ad) (N : Nat) (x1 : Int32) (x2 : Int32) (x3 : Int32) (x4 : Int32) (m : Mem) (v' : Int32) (M' : Mem) (h : f_X8_rivals N x1 x2 x3 x4 m = some (v', M')) : fl_M l L1 D ca ad yX8_rivals cX8_rivals 6 (some .int) 17 [.ref (ad 0), .int x1, .int x2, .int x3, .int x4] m (some (.int v')) M' := by
  unfold f_X8_rivals at h
  refine fl_ofW (by decide) hi (Nat.le_of_ble_eq_true rfl) ?_
  intro p e s mm args below meth c ls X hr hlk hP hl
  have hl : lv_has ls 6 [(0, .ref (ad 0)), (1, .int x1), (2, .int x2), (3, .int x3), (4, .int x4)] := hl
  have X : fl_X p s mm args c cX8_rivals 6 RX8 L1 D ca ad := X
  obtain ⟨hx, hb, hml, hown, hts, hE, -⟩ := id X
  have hS : va_S (fl_A L1 ad) s.heap s.heap [] := va_S.rf
  have j_32 : ∀ (x1 : Int32) (x2 : Int32) (x3 : Int32) (x4 : Int32) (t0 : Int32) (m : Mem) (H : Heap) (locs : List Loc) (ls : Array Slot), J_X8_rivals_32 N x1 x2 x3 x4 t0 m = some (v', M') → va_P D vwCl (fl_w L1 ca ad m) H → va_S (fl_A L1 ad) s.heap H locs → lv_has ls 6 [(0, .ref (ad 0)), (1, .int x1), (2, .int x2), (3, .int x3), (4, .int x4)] → W p l e (fl_rm 17) s mm args below meth c H locs 0 0 (MQ below (fl_Q L1 D ca ad (some (.int v')) M') args s 0 0 (fl_A L1 ad)) (F0 mm 32 ls [.int t0]) := by
    intro x1 x2 x3 x4 t0 m H locs ls h hP hS hl
    unfold J_X8_rivals_32 at h
    refine lv_istore (lv' := [(5, .int t0), (0, .ref (ad 0)), (1, .int x1), (2, .int x2), (3, .int x3), (4, .int x4)]) hx hb dX8_rivals_32 hl (by decide) rfl (fun ls hl => ?_)
    refine lv_iload hx hb dX8_rivals_34 (lv_at hl 0 rfl) ?_
    refine lv_if_eq (tgt := 58) hx hb dX8_rivals_36 (by decide) (fun c10 => ?_) (fun c10 => ?_)
    · replace h := fl_if_t h c10
      refine lv_iconst (v := (-1 : Int32)) hx hb dX8_rivals_58 (by decide) ?_
      exact fl_iret X hr hlk hP hS dX8_rivals_59 h
    · replace h := fl_if_f h c10
      refine lv_iload_n hx hb dX8_rivals_39 rfl (lv_at hl 4 rfl) ?_
      refine lv_iconst (v := (1 : Int32)) hx hb dX8_rivals_40 (by decide) ?_
      refine lv_iconst (v := (4 : Int32)) hx hb dX8_rivals_41 (by decide) ?_
      obtain ⟨r11, m12, hz13, h⟩ := fl_bd_e h
      refine fl_callS (av := [.int x3, .int (1 : Int32), .int (4 : Int32)]) X hP hS hl.1 ms_X8_99 (c_X8_within l D ca ad hi x3 (1 : Int32) (4 : Int32) m _ _ hz13) (fl_fit_rm (by omega) (by decide)) rfl (Nat.le_of_ble_eq_true rfl) dX8_rivals_42 rfl (fun H locs hP hS => ?_)
      refine W.eq (g2 := F0 mm 45 ls [.int r11]) rfl ?_
      refine lv_if_eq (tgt := 58) hx hb dX8_rivals_45 (by decide) (fun c14 => ?_) (fun c14 => ?_)
      · replace h := fl_if_t h c14
        refine lv_iconst (v := (-1 : Int32)) hx hb dX8_rivals_58 (by decide) ?_
        exact fl_iret X hr hlk hP hS dX8_rivals_59 h
      · replace h := fl_if_f h c14
        refine lv_iload hx hb dX8_rivals_48 (lv_at hl 5 rfl) ?_
        refine lv_iconst (v := (0 : Int32)) hx hb dX8_rivals_50 (by decide) ?_
        refine lv_iconst (v := (1 : Int32)) hx hb dX8_rivals_51 (by decide) ?_
        obtain ⟨r15, m16, hz17, h⟩ := fl_bd_e h
        refine fl_callS (av := [.int x4, .int (0 : Int32), .int (1 : Int32)]) X hP hS hl.1 ms_X8_99 (c_X8_within l D ca ad hi x4 (0 : Int32) (1 : Int32) m12 _ _ hz17) (fl_fit_rm (by omega) (by decide)) rfl (Nat.le_of_ble_eq_true rfl) dX8_rivals_52 rfl (fun H locs hP hS => ?_)
        refine W.eq (g2 := F0 mm 55 ls [.int r15]) rfl ?_
        refine lv_if_ne (tgt := 60) hx hb dX8_rivals_55 (by decide) (fun c18 => ?_) (fun c18 => ?_)
        · replace h := fl_if_f h c18
          refine lv_aload_n hx hb dX8_rivals_60 rfl (lv_at hl 1 rfl) ?_
          refine fl_getr X hP fk_X8_65 k1_0 rfl dX8_rivals_61 ?_
          refine lv_aload_n hx hb dX8_rivals_64 rfl (lv_at hl 1 rfl) ?_
          refine fl_getr X hP fk_X8_19 k1_0 rfl dX8_rivals_65 ?_
          refine lv_aload_n hx hb dX8_rivals_68 rfl (lv_at hl 1 rfl) ?_
          refine fl_getr X hP fk_X8_29 k1_0 rfl dX8_rivals_69 ?_
          refine lv_iload_n hx hb dX8_rivals_72 rfl (lv_at hl 2 rfl) ?_
          refine lv_iload_n hx hb dX8_rivals_73 rfl (lv_at hl 3 rfl) ?_
          refine lv_iload_n hx hb dX8_rivals_74 rfl (lv_at hl 4 rfl) ?_
          obtain ⟨r19, m20, hz21, h⟩ := fl_bd_e h
          refine fl_callV (av := [.ref (ad 4), .ref (ad 39), .int x1, .int x2, .int x3]) X hP hS hl.1 mv_X8_244 (c_X1_fight l D ca ad hi N 4 ct_4 39 st_39 x1 x2 x3 m16 _ _ hz21) k1_36 (fl_fit_rm (by omega) (by decide)) rfl (Nat.le_of_ble_eq_true rfl) dX8_rivals_75 rfl (fun H locs hP hS => ?_)
          refine W.eq (g2 := F0 mm 78 ls []) rfl ?_
          refine lv_iload hx hb dX8_rivals_78 (lv_at hl 5 rfl) ?_
          refine lv_if_ne (tgt := 96) hx hb dX8_rivals_80 (by decide) (fun c22 => ?_) (fun c22 => ?_)
          · replace h := fl_if_f h c22
            refine lv_aload_n hx hb dX8_rivals_96 rfl (lv_at hl 1 rfl) ?_
            refine fl_getr X hP fk_X8_65 k1_0 rfl dX8_rivals_97 ?_
            refine fl_geti X hP fk_X8_251 k1_36 rfl dX8_rivals_100 ?_
            exact fl_iret X hr hlk hP hS dX8_rivals_103 h
          · replace h := fl_if_t h c22
            refine lv_aload_n hx hb dX8_rivals_83 rfl (lv_at hl 1 rfl) ?_
            refine fl_getr X hP fk_X8_65 k1_0 rfl dX8_rivals_84 ?_
            refine fl_geti X hP fk_X8_248 k1_36 rfl dX8_rivals_87 ?_
            refine lv_bipush (v := (10 : Int32)) hx hb dX8_rivals_90 (by decide) ?_
            refine lv_iadd hx hb dX8_rivals_92 ?_
            refine lv_goto (tgt := 103) hx hb dX8_rivals_93 (by decide) ?_
            exact fl_iret X hr hlk hP hS dX8_rivals_103 h
        · replace h := fl_if_t h c18
          refine lv_iconst (v := (-1 : Int32)) hx hb dX8_rivals_58 (by decide) ?_
          exact fl_iret X hr hlk hP hS dX8_rivals_59 h
  have j_31 : ∀ (x1 : Int32) (x2 : Int32) (x3 : Int32) (x4 : Int32) (m : Mem) (H : Heap) (locs : List Loc) (ls : Array Slot), J_X8_rivals_31 N x1 x2 x3 x4 m = some (v', M') → va_P D vwCl (fl_w L1 ca ad m) H → va_S (fl_A L1 ad) s.heap H locs → lv_has ls 6 [(0, .ref (ad 0)), (1, .int x1), (2, .int x2), (3, .int x3), (4, .int x4)] → W p l e (fl_rm 17) s mm args below meth c H locs 0 0 (MQ below (fl_Q L1 D ca ad (some (.int v')) M') args s 0 0 (fl_A L1 ad)) (F0 mm 31 ls []) := by
    intro x1 x2 x3 x4 m H locs ls h hP hS hl
    unfold J_X8_rivals_31 at h
    refine lv_iconst (v := (0 : Int32)) hx hb dX8_rivals_31 (by decide) ?_
    exact j_32 _ _ _ _ _ _ _ _ _ h hP hS (lv_sub hl [0, 1, 2, 3, 4] rfl)
  refine lv_aload_n hx hb dX8_rivals_0 rfl (lv_at hl 0 rfl) ?_
  refine fl_getr X hP fk_X8_19 k1_0 rfl dX8_rivals_1 ?_
  refine lv_iload_n hx hb dX8_rivals_4 rfl (lv_at hl 1 rfl) ?_
  obtain ⟨r1, m2, hz3, h⟩ := fl_bd_e h
  refine fl_callV (av := [.int x1]) X hP hS hl.1 mv_X8_120 (c_X0_hasCab l D ca ad hi 4 ct_4 x1 m _ _ hz3) k1_4 (fl_fit_rm (by omega) (by decide)) rfl (Nat.le_of_ble_eq_true rfl) dX8_rivals_5 rfl (fun H locs hP hS => ?_)
  refine W.eq (g2 := F0 mm 8 ls [.int r1]) rfl ?_
  refine lv_if_eq (tgt := 31) hx hb dX8_rivals_8 (by decide) (fun c4 => ?_) (fun c4 => ?_)
  · replace h := fl_if_t h c4
    exact j_31 _ _ _ _ _ _ _ _ h hP hS (lv_sub hl [0, 1, 2, 3, 4] rfl)
  · replace h := fl_if_f h c4
    refine lv_aload_n hx hb dX8_rivals_11 rfl (lv_at hl 0 rfl) ?_
    refine fl_getr X hP fk_X8_19 k1_0 rfl dX8_rivals_12 ?_
    refine lv_iload_n hx hb dX8_rivals_15 rfl (lv_at hl 2 rfl) ?_
    obtain ⟨r5, m6, hz7, h⟩ := fl_bd_e h
    refine fl_callV (av := [.int x2]) X hP hS hl.1 mv_X8_120 (c_X0_hasCab l D ca ad hi 4 ct_4 x2 m2 _ _ hz7) k1_4 (fl_fit_rm (by omega) (by decide)) rfl (Nat.le_of_ble_eq_true rfl) dX8_rivals_16 rfl (fun H locs hP hS => ?_)
    refine W.eq (g2 := F0 mm 19 ls [.int r5]) rfl ?_
    refine lv_if_eq (tgt := 31) hx hb dX8_rivals_19 (by decide) (fun c8 => ?_) (fun c8 => ?_)
    · replace h := fl_if_t h c8
      exact j_31 _ _ _ _ _ _ _ _ h hP hS (lv_sub hl [0, 1, 2, 3, 4] rfl)
    · replace h := fl_if_f h c8
      refine lv_iload_n hx hb dX8_rivals_22 rfl (lv_at hl 1 rfl) ?_
      refine lv_iload_n hx hb dX8_rivals_23 rfl (lv_at hl 2 rfl) ?_
      refine lv_icmp_eq (tgt := 31) hx hb dX8_rivals_24 (by decide) (fun c9 => ?_) (fun c9 => ?_)
      · replace h := fl_if_t h c9
        exact j_31 _ _ _ _ _ _ _ _ h hP hS (lv_sub hl [0, 1, 2, 3, 4] rfl)
      · replace h := fl_if_f h c9
        refine lv_iconst (v := (1 : Int32)) hx hb dX8_rivals_27 (by decide) ?_
        refine lv_goto (tgt := 32) hx hb dX8_rivals_28 (by decide) ?_
        exact j_32 _ _ _ _ _ _ _ _ _ h hP hS (lv_sub hl [0, 1, 2, 3, 4] rfl)

def f_X8_see (x1 : Int32) (x2 : Int32) (x3 : Int32) (m : Mem) : Option (Int32 × Mem) :=
  fl_bd (f_X0_hasCab 4 x1 m) (fun r1 m2 =>
    if r1 = 0 then (
      some ((-1 : Int32), m2))
    else (
      fl_bd (f_X0_hasFare 4 x2 m2) (fun r5 m6 =>
        if r5 = 0 then (
          some ((-1 : Int32), m6))
        else (
          fl_bd (f_X8_within x3 (0 : Int32) (400 : Int32) m6) (fun r9 m10 =>
            if r9 = 0 then (
              some ((-1 : Int32), m10))
            else (
              fl_bd (f_X3_add x1 x2 x3 m10) (fun r13 m14 =>
                if r13 = 0 then (
                  some ((-3 : Int32), m14))
                else (
                  some (m14.1 28 3, m14)))))))))
set_option maxHeartbeats 4000000 in
set_option maxRecDepth 100000 in
theorem c_X8_see (l : Launch) (D : va_G) (ca : Nat → ClassId) (ad : Nat → Nat) (hi : fl_inj L1 ad) (x1 : Int32) (x2 : Int32) (x3 : Int32) (m : Mem) (v' : Int32) (M' : Mem) (h : f_X8_see x1 x2 x3 m = some (v', M')) : fl_M l L1 D ca ad yX8_see cX8_see 4 (some .int) 3 [.ref (ad 0), .int x1, .int x2, .int x3] m (some (.int v')) M' := by
  unfold f_X8_see at h
  refine fl_ofW (by decide) hi (Nat.le_of_ble_eq_true rfl) ?_
  intro p e s mm args below meth c ls X hr hlk hP hl
  have hl : lv_has ls 4 [(0, .ref (ad 0)), (1, .int x1), (2, .int x2), (3, .int x3)] := hl
  have X : fl_X p s mm args c cX8_see 4 RX8 L1 D ca ad := X
  obtain ⟨hx, hb, hml, hown, hts, hE, -⟩ := id X
  have hS : va_S (fl_A L1 ad) s.heap s.heap [] := va_S.rf
  refine lv_aload_n hx hb dX8_see_0 rfl (lv_at hl 0 rfl) ?_
  refine fl_getr X hP fk_X8_19 k1_0 rfl dX8_see_1 ?_
  refine lv_iload_n hx hb dX8_see_4 rfl (lv_at hl 1 rfl) ?_
  obtain ⟨r1, m2, hz3, h⟩ := fl_bd_e h
  refine fl_callV (av := [.int x1]) X hP hS hl.1 mv_X8_120 (c_X0_hasCab l D ca ad hi 4 ct_4 x1 m _ _ hz3) k1_4 (fl_fit_rm (by omega) (by decide)) rfl (Nat.le_of_ble_eq_true rfl) dX8_see_5 rfl (fun H locs hP hS => ?_)
  refine W.eq (g2 := F0 mm 8 ls [.int r1]) rfl ?_
  refine lv_if_eq (tgt := 33) hx hb dX8_see_8 (by decide) (fun c4 => ?_) (fun c4 => ?_)
  · replace h := fl_if_t h c4
    refine lv_iconst (v := (-1 : Int32)) hx hb dX8_see_33 (by decide) ?_
    exact fl_iret X hr hlk hP hS dX8_see_34 h
  · replace h := fl_if_f h c4
    refine lv_aload_n hx hb dX8_see_11 rfl (lv_at hl 0 rfl) ?_
    refine fl_getr X hP fk_X8_19 k1_0 rfl dX8_see_12 ?_
    refine lv_iload_n hx hb dX8_see_15 rfl (lv_at hl 2 rfl) ?_
    obtain ⟨r5, m6, hz7, h⟩ := fl_bd_e h
    refine fl_callV (av := [.int x2]) X hP hS hl.1 mv_X8_136 (c_X0_hasFare l D ca ad hi 4 ct_4 x2 m2 _ _ hz7) k1_4 (fl_fit_rm (by omega) (by decide)) rfl (Nat.le_of_ble_eq_true rfl) dX8_see_16 rfl (fun H locs hP hS => ?_)
    refine W.eq (g2 := F0 mm 19 ls [.int r5]) rfl ?_
    refine lv_if_eq (tgt := 33) hx hb dX8_see_19 (by decide) (fun c8 => ?_) (fun c8 => ?_)
    · replace h := fl_if_t h c8
      refine lv_iconst (v := (-1 : Int32)) hx hb dX8_see_33 (by decide) ?_
      exact fl_iret X hr hlk hP hS dX8_see_34 h
    · replace h := fl_if_f h c8
      refine lv_iload_n hx hb dX8_see_22 rfl (lv_at hl 3 rfl) ?_
      refine lv_iconst (v := (0 : Int32)) hx hb dX8_see_23 (by decide) ?_
      refine lv_sipush (v := (400 : Int32)) hx hb dX8_see_24 (by decide) ?_
      obtain ⟨r9, m10, hz11, h⟩ := fl_bd_e h
      refine fl_callS (av := [.int x3, .int (0 : Int32), .int (400 : Int32)]) X hP hS hl.1 ms_X8_99 (c_X8_within l D ca ad hi x3 (0 : Int32) (400 : Int32) m6 _ _ hz11) (fl_fit_rm (by omega) (by decide)) rfl (Nat.le_of_ble_eq_true rfl) dX8_see_27 rfl (fun H locs hP hS => ?_)
      refine W.eq (g2 := F0 mm 30 ls [.int r9]) rfl ?_
      refine lv_if_ne (tgt := 35) hx hb dX8_see_30 (by decide) (fun c12 => ?_) (fun c12 => ?_)
      · replace h := fl_if_f h c12
        refine lv_aload_n hx hb dX8_see_35 rfl (lv_at hl 0 rfl) ?_
        refine fl_getr X hP fk_X8_51 k1_0 rfl dX8_see_36 ?_
        refine lv_iload_n hx hb dX8_see_39 rfl (lv_at hl 1 rfl) ?_
        refine lv_iload_n hx hb dX8_see_40 rfl (lv_at hl 2 rfl) ?_
        refine lv_iload_n hx hb dX8_see_41 rfl (lv_at hl 3 rfl) ?_
        obtain ⟨r13, m14, hz15, h⟩ := fl_bd_e h
        refine fl_callV (av := [.int x1, .int x2, .int x3]) X hP hS hl.1 mv_X8_254 (c_X3_add l D ca ad hi x1 x2 x3 m10 _ _ hz15) k1_28 (fl_fit_rm (by omega) (by decide)) rfl (Nat.le_of_ble_eq_true rfl) dX8_see_42 rfl (fun H locs hP hS => ?_)
        refine W.eq (g2 := F0 mm 45 ls [.int r13]) rfl ?_
        refine lv_if_eq (tgt := 58) hx hb dX8_see_45 (by decide) (fun c16 => ?_) (fun c16 => ?_)
        · replace h := fl_if_t h c16
          refine lv_bipush (v := (-3 : Int32)) hx hb dX8_see_58 (by decide) ?_
          exact fl_iret X hr hlk hP hS dX8_see_60 h
        · replace h := fl_if_f h c16
          refine lv_aload_n hx hb dX8_see_48 rfl (lv_at hl 0 rfl) ?_
          refine fl_getr X hP fk_X8_51 k1_0 rfl dX8_see_49 ?_
          refine fl_geti X hP fk_X8_256 k1_28 rfl dX8_see_52 ?_
          refine lv_goto (tgt := 60) hx hb dX8_see_55 (by decide) ?_
          exact fl_iret X hr hlk hP hS dX8_see_60 h
      · replace h := fl_if_t h c12
        refine lv_iconst (v := (-1 : Int32)) hx hb dX8_see_33 (by decide) ?_
        exact fl_iret X hr hlk hP hS dX8_see_34 h

def f_X8_forget  (m : Mem) : Option (Int32 × Mem) :=
  fl_li (m.1 28 3) (fun z1 =>
    fl_lm (mI m 28 3 (0 : Int32)) (fun m3 =>
      some (z1, m3)))
set_option maxHeartbeats 4000000 in
set_option maxRecDepth 100000 in
theorem c_X8_forget (l : Launch) (D : va_G) (ca : Nat → ClassId) (ad : Nat → Nat) (hi : fl_inj L1 ad)  (m : Mem) (v' : Int32) (M' : Mem) (h : f_X8_forget  m = some (v', M')) : fl_M l L1 D ca ad yX8_forget cX8_forget 2 (some .int) 1 [.ref (ad 0)] m (some (.int v')) M' := by
  unfold f_X8_forget at h
  refine fl_ofW (by decide) hi (Nat.le_of_ble_eq_true rfl) ?_
  intro p e s mm args below meth c ls X hr hlk hP hl
  have hl : lv_has ls 2 [(0, .ref (ad 0))] := hl
  have X : fl_X p s mm args c cX8_forget 2 RX8 L1 D ca ad := X
  obtain ⟨hx, hb, hml, hown, hts, hE, -⟩ := id X
  have hS : va_S (fl_A L1 ad) s.heap s.heap [] := va_S.rf
  refine lv_aload_n hx hb dX8_forget_0 rfl (lv_at hl 0 rfl) ?_
  refine fl_getr X hP fk_X8_51 k1_0 rfl dX8_forget_1 ?_
  refine fl_geti X hP fk_X8_256 k1_28 rfl dX8_forget_4 ?_
  obtain ⟨z1, ez2, h⟩ := fl_li_e h
  refine fl_topi ez2 ?_
  refine lv_istore_n (lv' := [(1, .int z1), (0, .ref (ad 0))]) hx hb dX8_forget_7 rfl hl (by decide) rfl (fun ls hl => ?_)
  refine lv_aload_n hx hb dX8_forget_8 rfl (lv_at hl 1 rfl) ?_
  refine fl_getr X hP fk_X8_51 k1_0 rfl dX8_forget_9 ?_
  refine lv_iconst (v := (0 : Int32)) hx hb dX8_forget_12 (by decide) ?_
  obtain ⟨m3, em4, h⟩ := fl_lm_e h
  refine fl_puti X hP hS pk_X8_256 k1_28 rfl rfl rfl dX8_forget_13 (fun H locs hP hS => ?_)
  have hP : va_P D vwCl (fl_w L1 ca ad m3) H := by rw [em4]; exact hP
  refine lv_iload_n hx hb dX8_forget_16 rfl (lv_at hl 0 rfl) ?_
  exact fl_iret X hr hlk hP hS dX8_forget_17 h

def B_X8_wept_72 (N : Nat) (F : Int32 → Int32 → Int32 → Int32 → Int32 → Mem → Option (Int32 × Mem)) (x1 : Int32) (x2 : Int32) (x3 : Int32) (x4 : Int32) (x5 : Int32) (m : Mem) : Option (Int32 × Mem) :=
  if x5 < 0 then (
    if x2 = 0 then (
      some (x3, m))
    else (
      some (x4, m)))
  else (
    fl_ck (0 ≤ x1.toInt ∧ x1.toInt < 3) (
      fl_bd (f_X8_fitsSeen N x1 (m.1 5 (x1.toNatClampNeg)) x5 m) (fun r23 m24 =>
        if r23 = 0 then (
          F x1 x2 x3 x4 (x5 + (-1)) m24)
        else (
          F x1 x2 (x3 + 1) x5 (x5 + (-1)) m24))))
def J_X8_wept_59 (N : Nat) (F : Int32 → Int32 → Int32 → Int32 → Int32 → Mem → Option (Int32 × Mem)) (x1 : Int32) (x2 : Int32) (x3 : Int32) (t0 : Int32) (m : Mem) : Option (Int32 × Mem) :=
  fl_bd (f_X0_places 4 m) (fun r15 m16 =>
    fl_li (r15 - (1 : Int32)) (fun z18 =>
      F x1 x2 x3 t0 z18 m16))
def J_X8_wept_46 (N : Nat) (F : Int32 → Int32 → Int32 → Int32 → Int32 → Mem → Option (Int32 × Mem)) (x1 : Int32) (x2 : Int32) (t0 : Int32) (m : Mem) : Option (Int32 × Mem) :=
  if t0 = (1 : Int32) then (
    J_X8_wept_59 N F x1 x2 t0 (99 : Int32) m)
  else (
    J_X8_wept_59 N F x1 x2 t0 (-4 : Int32) m)
def l_X8_wept (N : Nat) : Nat → Int32 → Int32 → Int32 → Int32 → Int32 → Mem → Option (Int32 × Mem)
  | 0 => fun _ _ _ _ _ _ => none
  | n + 1 => fun x1 x2 x3 x4 x5 m => B_X8_wept_72 N (l_X8_wept N n) x1 x2 x3 x4 x5 m
def f_X8_wept (N : Nat) (x1 : Int32) (x2 : Int32) (m : Mem) : Option (Int32 × Mem) :=
  fl_bd (f_X0_hasCab 4 x1 m) (fun r1 m2 =>
    if r1 = 0 then (
      some ((-1 : Int32), m2))
    else (
      fl_bd (f_X8_within x2 (0 : Int32) (1 : Int32) m2) (fun r5 m6 =>
        if r5 = 0 then (
          some ((-1 : Int32), m6))
        else (
          fl_ck (0 ≤ x1.toInt ∧ x1.toInt < 3) (
            fl_bd (f_X8_fitsSeen N x1 (m6.1 5 (x1.toNatClampNeg)) (-4 : Int32) m6) (fun r10 m11 =>
              if r10 = 0 then (
                J_X8_wept_46 N (l_X8_wept N N) x1 x2 (0 : Int32) m11)
              else (
                J_X8_wept_46 N (l_X8_wept N N) x1 x2 (1 : Int32) m11)))))))
set_option maxHeartbeats 4000000 in
set_option maxRecDepth 100000 in
theorem c_X8_wept (l : Launch) (D : va_G) (ca : Nat → ClassId) (ad : Nat → Nat) (hi : fl_inj L1 ad) (N : Nat) (x1 : Int32) (x2 : Int32) (m : Mem) (v' : Int32) (M' : Mem) (h : f_X8_wept N x1 x2 m = some (v', M')) : fl_M l L1 D ca ad yX8_wept cX8_wept 6 (some .int) 4 [.ref (ad 0), .int x1, .int x2] m (some (.int v')) M' := by
  unfold f_X8_wept at h
  refine fl_ofW (by decide) hi (Nat.le_of_ble_eq_true rfl) ?_
  intro p e s mm args below meth c ls X hr hlk hP hl
  have hl : lv_has ls 6 [(0, .ref (ad 0)), (1, .int x1), (2, .int x2)] := hl
  have X : fl_X p s mm args c cX8_wept 6 RX8 L1 D ca ad := X
  obtain ⟨hx, hb, hml, hown, hts, hE, -⟩ := id X
  have hS : va_S (fl_A L1 ad) s.heap s.heap [] := va_S.rf
  have js : ∀ n : Nat, ((∀ (x1 : Int32) (x2 : Int32) (x3 : Int32) (x4 : Int32) (x5 : Int32) (m : Mem) (H : Heap) (locs : List Loc) (ls : Array Slot), l_X8_wept N n x1 x2 x3 x4 x5 m = some (v', M') → va_P D vwCl (fl_w L1 ca ad m) H → va_S (fl_A L1 ad) s.heap H locs → lv_has ls 6 [(0, .ref (ad 0)), (1, .int x1), (2, .int x2), (3, .int x3), (4, .int x4), (5, .int x5)] → W p l e (fl_rm 4) s mm args below meth c H locs 0 0 (MQ below (fl_Q L1 D ca ad (some (.int v')) M') args s 0 0 (fl_A L1 ad)) (F0 mm 72 ls []))) → (∀ (x1 : Int32) (x2 : Int32) (x3 : Int32) (t0 : Int32) (m : Mem) (H : Heap) (locs : List Loc) (ls : Array Slot), J_X8_wept_59 N (l_X8_wept N n) x1 x2 x3 t0 m = some (v', M') → va_P D vwCl (fl_w L1 ca ad m) H → va_S (fl_A L1 ad) s.heap H locs → lv_has ls 6 [(0, .ref (ad 0)), (1, .int x1), (2, .int x2), (3, .int x3)] → W p l e (fl_rm 4) s mm args below meth c H locs 0 0 (MQ below (fl_Q L1 D ca ad (some (.int v')) M') args s 0 0 (fl_A L1 ad)) (F0 mm 59 ls [.int t0])) ∧ (∀ (x1 : Int32) (x2 : Int32) (t0 : Int32) (m : Mem) (H : Heap) (locs : List Loc) (ls : Array Slot), J_X8_wept_46 N (l_X8_wept N n) x1 x2 t0 m = some (v', M') → va_P D vwCl (fl_w L1 ca ad m) H → va_S (fl_A L1 ad) s.heap H locs → lv_has ls 6 [(0, .ref (ad 0)), (1, .int x1), (2, .int x2)] → W p l e (fl_rm 4) s mm args below meth c H locs 0 0 (MQ below (fl_Q L1 D ca ad (some (.int v')) M') args s 0 0 (fl_A L1 ad)) (F0 mm 46 ls [.int t0])) := by
    intro n ih
    have ih_72 := ih
    have j_59 : ∀ (x1 : Int32) (x2 : Int32) (x3 : Int32) (t0 : Int32) (m : Mem) (H : Heap) (locs : List Loc) (ls : Array Slot), J_X8_wept_59 N (l_X8_wept N n) x1 x2 x3 t0 m = some (v', M') → va_P D vwCl (fl_w L1 ca ad m) H → va_S (fl_A L1 ad) s.heap H locs → lv_has ls 6 [(0, .ref (ad 0)), (1, .int x1), (2, .int x2), (3, .int x3)] → W p l e (fl_rm 4) s mm args below meth c H locs 0 0 (MQ below (fl_Q L1 D ca ad (some (.int v')) M') args s 0 0 (fl_A L1 ad)) (F0 mm 59 ls [.int t0]) := by
      intro x1 x2 x3 t0 m H locs ls h hP hS hl
      unfold J_X8_wept_59 at h
      refine lv_istore (lv' := [(4, .int t0), (0, .ref (ad 0)), (1, .int x1), (2, .int x2), (3, .int x3)]) hx hb dX8_wept_59 hl (by decide) rfl (fun ls hl => ?_)
      refine lv_aload_n hx hb dX8_wept_61 rfl (lv_at hl 1 rfl) ?_
      refine fl_getr X hP fk_X8_19 k1_0 rfl dX8_wept_62 ?_
      obtain ⟨r15, m16, hz17, h⟩ := fl_bd_e h
      refine fl_callV (av := []) X hP hS hl.1 mv_X8_109 (c_X0_places l D ca ad hi 4 ct_4 m _ _ hz17) k1_4 (fl_fit_rm (by omega) (by decide)) rfl (Nat.le_of_ble_eq_true rfl) dX8_wept_65 rfl (fun H locs hP hS => ?_)
      refine W.eq (g2 := F0 mm 68 ls [.int r15]) rfl ?_
      refine lv_iconst (v := (1 : Int32)) hx hb dX8_wept_68 (by decide) ?_
      refine lv_isub hx hb dX8_wept_69 ?_
      obtain ⟨z18, ez19, h⟩ := fl_li_e h
      refine fl_topi ez19 ?_
      refine lv_istore (lv' := [(5, .int z18), (4, .int t0), (0, .ref (ad 0)), (1, .int x1), (2, .int x2), (3, .int x3)]) hx hb dX8_wept_70 hl (by decide) rfl (fun ls hl => ?_)
      exact ih_72 _ _ _ _ _ _ _ _ _ h hP hS (lv_sub hl [2, 3, 4, 5, 1, 0] rfl)
    have j_46 : ∀ (x1 : Int32) (x2 : Int32) (t0 : Int32) (m : Mem) (H : Heap) (locs : List Loc) (ls : Array Slot), J_X8_wept_46 N (l_X8_wept N n) x1 x2 t0 m = some (v', M') → va_P D vwCl (fl_w L1 ca ad m) H → va_S (fl_A L1 ad) s.heap H locs → lv_has ls 6 [(0, .ref (ad 0)), (1, .int x1), (2, .int x2)] → W p l e (fl_rm 4) s mm args below meth c H locs 0 0 (MQ below (fl_Q L1 D ca ad (some (.int v')) M') args s 0 0 (fl_A L1 ad)) (F0 mm 46 ls [.int t0]) := by
      intro x1 x2 t0 m H locs ls h hP hS hl
      unfold J_X8_wept_46 at h
      refine lv_istore_n (lv' := [(3, .int t0), (0, .ref (ad 0)), (1, .int x1), (2, .int x2)]) hx hb dX8_wept_46 rfl hl (by decide) rfl (fun ls hl => ?_)
      refine lv_iload_n hx hb dX8_wept_47 rfl (lv_at hl 0 rfl) ?_
      refine lv_iconst (v := (1 : Int32)) hx hb dX8_wept_48 (by decide) ?_
      refine lv_icmp_ne (tgt := 57) hx hb dX8_wept_49 (by decide) (fun c14 => ?_) (fun c14 => ?_)
      · replace h := fl_if_f h c14
        refine lv_bipush (v := (-4 : Int32)) hx hb dX8_wept_57 (by decide) ?_
        exact j_59 _ _ _ _ _ _ _ _ h hP hS (lv_sub hl [1, 2, 3, 0] rfl)
      · replace h := fl_if_t h c14
        refine lv_bipush (v := (99 : Int32)) hx hb dX8_wept_52 (by decide) ?_
        refine lv_goto (tgt := 59) hx hb dX8_wept_54 (by decide) ?_
        exact j_59 _ _ _ _ _ _ _ _ h hP hS (lv_sub hl [1, 2, 3, 0] rfl)
    exact ⟨j_59, j_46⟩
  have key : ∀ n : Nat, (∀ (x1 : Int32) (x2 : Int32) (x3 : Int32) (x4 : Int32) (x5 : Int32) (m : Mem) (H : Heap) (locs : List Loc) (ls : Array Slot), l_X8_wept N n x1 x2 x3 x4 x5 m = some (v', M') → va_P D vwCl (fl_w L1 ca ad m) H → va_S (fl_A L1 ad) s.heap H locs → lv_has ls 6 [(0, .ref (ad 0)), (1, .int x1), (2, .int x2), (3, .int x3), (4, .int x4), (5, .int x5)] → W p l e (fl_rm 4) s mm args below meth c H locs 0 0 (MQ below (fl_Q L1 D ca ad (some (.int v')) M') args s 0 0 (fl_A L1 ad)) (F0 mm 72 ls [])) := by
    intro n
    induction n with
    | zero =>
      skip
      · intro x1 x2 x3 x4 x5 m H locs ls h hP hS hl
        have h : (none : Option (Int32 × Mem)) = some (v', M') := h
        cases h
    | succ n ih =>
      have ih_72 := ih
      obtain ⟨j_59, j_46⟩ := js n ih_72
      skip
      · intro x1 x2 x3 x4 x5 m H locs ls h hP hS hl
        have h : B_X8_wept_72 N (l_X8_wept N n) x1 x2 x3 x4 x5 m = some (v', M') := h
        unfold B_X8_wept_72 at h
        refine lv_iload hx hb dX8_wept_72 (lv_at hl 5 rfl) ?_
        refine lv_if_lt (tgt := 109) hx hb dX8_wept_74 (by decide) (fun c20 => ?_) (fun c20 => ?_)
        · replace h := fl_if_t h c20
          refine lv_iload_n hx hb dX8_wept_109 rfl (lv_at hl 2 rfl) ?_
          refine lv_if_ne (tgt := 117) hx hb dX8_wept_110 (by decide) (fun c21 => ?_) (fun c21 => ?_)
          · replace h := fl_if_f h c21
            refine lv_iload hx hb dX8_wept_117 (lv_at hl 4 rfl) ?_
            exact fl_iret X hr hlk hP hS dX8_wept_119 h
          · replace h := fl_if_t h c21
            refine lv_iload_n hx hb dX8_wept_113 rfl (lv_at hl 3 rfl) ?_
            refine lv_goto (tgt := 119) hx hb dX8_wept_114 (by decide) ?_
            exact fl_iret X hr hlk hP hS dX8_wept_119 h
        · replace h := fl_if_f h c20
          refine lv_aload_n hx hb dX8_wept_77 rfl (lv_at hl 0 rfl) ?_
          refine lv_iload_n hx hb dX8_wept_78 rfl (lv_at hl 1 rfl) ?_
          refine lv_aload_n hx hb dX8_wept_79 rfl (lv_at hl 0 rfl) ?_
          refine fl_getr X hP fk_X8_19 k1_0 rfl dX8_wept_80 ?_
          refine fl_getr X hP fk_X8_123 k1_4 rfl dX8_wept_83 ?_
          refine lv_iload_n hx hb dX8_wept_86 rfl (lv_at hl 1 rfl) ?_
          obtain ⟨hk22, h⟩ := fl_ck_e h
          refine fl_iald X hP k1_5 hk22 dX8_wept_87 ?_
          refine lv_iload hx hb dX8_wept_88 (lv_at hl 5 rfl) ?_
          obtain ⟨r23, m24, hz25, h⟩ := fl_bd_e h
          refine fl_callV (av := [.int x1, .int (m.1 5 (x1.toNatClampNeg)), .int x5]) X hP hS hl.1 mv_X8_257 (c_X8_fitsSeen l D ca ad hi N x1 (m.1 5 (x1.toNatClampNeg)) x5 m _ _ hz25) k1_0 (fl_fit_rm (by omega) (by decide)) rfl (Nat.le_of_ble_eq_true rfl) dX8_wept_90 rfl (fun H locs hP hS => ?_)
          refine W.eq (g2 := F0 mm 93 ls [.int r23]) rfl ?_
          refine lv_if_eq (tgt := 103) hx hb dX8_wept_93 (by decide) (fun c26 => ?_) (fun c26 => ?_)
          · replace h := fl_if_t h c26
            refine lv_iinc (v := x5 + (-1)) (lv' := [(5, .int (x5 + (-1))), (0, .ref (ad 0)), (1, .int x1), (2, .int x2), (3, .int x3), (4, .int x4)]) hx hb dX8_wept_103 hl (k := 5) rfl rfl (by decide) rfl (fun ls hl => ?_)
            refine lv_goto (tgt := 72) hx hb dX8_wept_106 (by decide) ?_
            exact ih_72 _ _ _ _ _ _ _ _ _ h hP hS (lv_sub hl [1, 2, 3, 4, 5, 0] rfl)
          · replace h := fl_if_f h c26
            refine lv_iinc (v := x3 + 1) (lv' := [(3, .int (x3 + 1)), (0, .ref (ad 0)), (1, .int x1), (2, .int x2), (4, .int x4), (5, .int x5)]) hx hb dX8_wept_96 hl (k := 3) rfl rfl (by decide) rfl (fun ls hl => ?_)
            refine lv_iload hx hb dX8_wept_99 (lv_at hl 5 rfl) ?_
            refine lv_istore (lv' := [(4, .int x5), (3, .int (x3 + 1)), (0, .ref (ad 0)), (1, .int x1), (2, .int x2), (5, .int x5)]) hx hb dX8_wept_101 hl (by decide) rfl (fun ls hl => ?_)
            refine lv_iinc (v := x5 + (-1)) (lv' := [(5, .int (x5 + (-1))), (4, .int x5), (3, .int (x3 + 1)), (0, .ref (ad 0)), (1, .int x1), (2, .int x2)]) hx hb dX8_wept_103 hl (k := 5) rfl rfl (by decide) rfl (fun ls hl => ?_)
            refine lv_goto (tgt := 72) hx hb dX8_wept_106 (by decide) ?_
            exact ih_72 _ _ _ _ _ _ _ _ _ h hP hS (lv_sub hl [3, 4, 5, 2, 1, 0] rfl)
  have ih_72 := key N
  obtain ⟨j_59, j_46⟩ := js N ih_72
  refine lv_aload_n hx hb dX8_wept_0 rfl (lv_at hl 0 rfl) ?_
  refine fl_getr X hP fk_X8_19 k1_0 rfl dX8_wept_1 ?_
  refine lv_iload_n hx hb dX8_wept_4 rfl (lv_at hl 1 rfl) ?_
  obtain ⟨r1, m2, hz3, h⟩ := fl_bd_e h
  refine fl_callV (av := [.int x1]) X hP hS hl.1 mv_X8_120 (c_X0_hasCab l D ca ad hi 4 ct_4 x1 m _ _ hz3) k1_4 (fl_fit_rm (by omega) (by decide)) rfl (Nat.le_of_ble_eq_true rfl) dX8_wept_5 rfl (fun H locs hP hS => ?_)
  refine W.eq (g2 := F0 mm 8 ls [.int r1]) rfl ?_
  refine lv_if_eq (tgt := 20) hx hb dX8_wept_8 (by decide) (fun c4 => ?_) (fun c4 => ?_)
  · replace h := fl_if_t h c4
    refine lv_iconst (v := (-1 : Int32)) hx hb dX8_wept_20 (by decide) ?_
    exact fl_iret X hr hlk hP hS dX8_wept_21 h
  · replace h := fl_if_f h c4
    refine lv_iload_n hx hb dX8_wept_11 rfl (lv_at hl 2 rfl) ?_
    refine lv_iconst (v := (0 : Int32)) hx hb dX8_wept_12 (by decide) ?_
    refine lv_iconst (v := (1 : Int32)) hx hb dX8_wept_13 (by decide) ?_
    obtain ⟨r5, m6, hz7, h⟩ := fl_bd_e h
    refine fl_callS (av := [.int x2, .int (0 : Int32), .int (1 : Int32)]) X hP hS hl.1 ms_X8_99 (c_X8_within l D ca ad hi x2 (0 : Int32) (1 : Int32) m2 _ _ hz7) (fl_fit_rm (by omega) (by decide)) rfl (Nat.le_of_ble_eq_true rfl) dX8_wept_14 rfl (fun H locs hP hS => ?_)
    refine W.eq (g2 := F0 mm 17 ls [.int r5]) rfl ?_
    refine lv_if_ne (tgt := 22) hx hb dX8_wept_17 (by decide) (fun c8 => ?_) (fun c8 => ?_)
    · replace h := fl_if_f h c8
      refine lv_aload_n hx hb dX8_wept_22 rfl (lv_at hl 0 rfl) ?_
      refine lv_iload_n hx hb dX8_wept_23 rfl (lv_at hl 1 rfl) ?_
      refine lv_aload_n hx hb dX8_wept_24 rfl (lv_at hl 0 rfl) ?_
      refine fl_getr X hP fk_X8_19 k1_0 rfl dX8_wept_25 ?_
      refine fl_getr X hP fk_X8_123 k1_4 rfl dX8_wept_28 ?_
      refine lv_iload_n hx hb dX8_wept_31 rfl (lv_at hl 1 rfl) ?_
      obtain ⟨hk9, h⟩ := fl_ck_e h
      refine fl_iald X hP k1_5 hk9 dX8_wept_32 ?_
      refine lv_bipush (v := (-4 : Int32)) hx hb dX8_wept_33 (by decide) ?_
      obtain ⟨r10, m11, hz12, h⟩ := fl_bd_e h
      refine fl_callV (av := [.int x1, .int (m6.1 5 (x1.toNatClampNeg)), .int (-4 : Int32)]) X hP hS hl.1 mv_X8_257 (c_X8_fitsSeen l D ca ad hi N x1 (m6.1 5 (x1.toNatClampNeg)) (-4 : Int32) m6 _ _ hz12) k1_0 (fl_fit_rm (by omega) (by decide)) rfl (Nat.le_of_ble_eq_true rfl) dX8_wept_35 rfl (fun H locs hP hS => ?_)
      refine W.eq (g2 := F0 mm 38 ls [.int r10]) rfl ?_
      refine lv_if_eq (tgt := 45) hx hb dX8_wept_38 (by decide) (fun c13 => ?_) (fun c13 => ?_)
      · replace h := fl_if_t h c13
        refine lv_iconst (v := (0 : Int32)) hx hb dX8_wept_45 (by decide) ?_
        exact j_46 _ _ _ _ _ _ _ h hP hS (lv_sub hl [0, 1, 2] rfl)
      · replace h := fl_if_f h c13
        refine lv_iconst (v := (1 : Int32)) hx hb dX8_wept_41 (by decide) ?_
        refine lv_goto (tgt := 46) hx hb dX8_wept_42 (by decide) ?_
        exact j_46 _ _ _ _ _ _ _ h hP hS (lv_sub hl [0, 1, 2] rfl)
    · replace h := fl_if_t h c8
      refine lv_iconst (v := (-1 : Int32)) hx hb dX8_wept_20 (by decide) ?_
      exact fl_iret X hr hlk hP hS dX8_wept_21 h

def B_X8_kinds_17 (N : Nat) (F : Int32 → Int32 → Int32 → Mem → Option (Int32 × Mem)) (x1 : Int32) (x2 : Int32) (x3 : Int32) (m : Mem) : Option (Int32 × Mem) :=
  if (3 : Int32) ≤ x3 then (
    some (x2, m))
  else (
    fl_ck (0 ≤ x1.toInt ∧ x1.toInt < 3) (
      fl_bd (f_X8_fitsSeen N x1 x3 (m.1 42 (x1.toNatClampNeg)) m) (fun r7 m8 =>
        if r7 = 0 then (
          F x1 x2 (x3 + 1) m8)
        else (
          fl_li (x2 ||| ((1 : Int32) <<< (x3 &&& 31))) (fun z11 =>
            F x1 z11 (x3 + 1) m8)))))
def l_X8_kinds (N : Nat) : Nat → Int32 → Int32 → Int32 → Mem → Option (Int32 × Mem)
  | 0 => fun _ _ _ _ => none
  | n + 1 => fun x1 x2 x3 m => B_X8_kinds_17 N (l_X8_kinds N n) x1 x2 x3 m
def f_X8_kinds (N : Nat) (x1 : Int32) (m : Mem) : Option (Int32 × Mem) :=
  fl_bd (f_X0_hasCab 4 x1 m) (fun r1 m2 =>
    if r1 = 0 then (
      some ((-1 : Int32), m2))
    else (
      (l_X8_kinds N N) x1 (0 : Int32) (0 : Int32) m2))
set_option maxHeartbeats 4000000 in
set_option maxRecDepth 100000 in
theorem c_X8_kinds (l : Launch) (D : va_G) (ca : Nat → ClassId) (ad : Nat → Nat) (hi : fl_inj L1 ad) (N : Nat) (x1 : Int32) (m : Mem) (v' : Int32) (M' : Mem) (h : f_X8_kinds N x1 m = some (v', M')) : fl_M l L1 D ca ad yX8_kinds cX8_kinds 4 (some .int) 4 [.ref (ad 0), .int x1] m (some (.int v')) M' := by
  unfold f_X8_kinds at h
  refine fl_ofW (by decide) hi (Nat.le_of_ble_eq_true rfl) ?_
  intro p e s mm args below meth c ls X hr hlk hP hl
  have hl : lv_has ls 4 [(0, .ref (ad 0)), (1, .int x1)] := hl
  have X : fl_X p s mm args c cX8_kinds 4 RX8 L1 D ca ad := X
  obtain ⟨hx, hb, hml, hown, hts, hE, -⟩ := id X
  have hS : va_S (fl_A L1 ad) s.heap s.heap [] := va_S.rf
  have key : ∀ n : Nat, (∀ (x1 : Int32) (x2 : Int32) (x3 : Int32) (m : Mem) (H : Heap) (locs : List Loc) (ls : Array Slot), l_X8_kinds N n x1 x2 x3 m = some (v', M') → va_P D vwCl (fl_w L1 ca ad m) H → va_S (fl_A L1 ad) s.heap H locs → lv_has ls 4 [(0, .ref (ad 0)), (1, .int x1), (2, .int x2), (3, .int x3)] → W p l e (fl_rm 4) s mm args below meth c H locs 0 0 (MQ below (fl_Q L1 D ca ad (some (.int v')) M') args s 0 0 (fl_A L1 ad)) (F0 mm 17 ls [])) := by
    intro n
    induction n with
    | zero =>
      skip
      · intro x1 x2 x3 m H locs ls h hP hS hl
        have h : (none : Option (Int32 × Mem)) = some (v', M') := h
        cases h
    | succ n ih =>
      have ih_17 := ih
      skip
      · intro x1 x2 x3 m H locs ls h hP hS hl
        have h : B_X8_kinds_17 N (l_X8_kinds N n) x1 x2 x3 m = some (v', M') := h
        unfold B_X8_kinds_17 at h
        refine lv_iload_n hx hb dX8_kinds_17 rfl (lv_at hl 3 rfl) ?_
        refine lv_iconst (v := (3 : Int32)) hx hb dX8_kinds_18 (by decide) ?_
        refine lv_icmp_ge (tgt := 52) hx hb dX8_kinds_19 (by decide) (fun c5 => ?_) (fun c5 => ?_)
        · replace h := fl_if_t h c5
          refine lv_iload_n hx hb dX8_kinds_52 rfl (lv_at hl 2 rfl) ?_
          exact fl_iret X hr hlk hP hS dX8_kinds_53 h
        · replace h := fl_if_f h c5
          refine lv_aload_n hx hb dX8_kinds_22 rfl (lv_at hl 0 rfl) ?_
          refine lv_iload_n hx hb dX8_kinds_23 rfl (lv_at hl 1 rfl) ?_
          refine lv_iload_n hx hb dX8_kinds_24 rfl (lv_at hl 3 rfl) ?_
          refine lv_aload_n hx hb dX8_kinds_25 rfl (lv_at hl 0 rfl) ?_
          refine fl_getr X hP fk_X8_29 k1_0 rfl dX8_kinds_26 ?_
          refine fl_getr X hP fk_X8_133 k1_39 rfl dX8_kinds_29 ?_
          refine lv_iload_n hx hb dX8_kinds_32 rfl (lv_at hl 1 rfl) ?_
          obtain ⟨hk6, h⟩ := fl_ck_e h
          refine fl_iald X hP k1_42 hk6 dX8_kinds_33 ?_
          obtain ⟨r7, m8, hz9, h⟩ := fl_bd_e h
          refine fl_callV (av := [.int x1, .int x3, .int (m.1 42 (x1.toNatClampNeg))]) X hP hS hl.1 mv_X8_257 (c_X8_fitsSeen l D ca ad hi N x1 x3 (m.1 42 (x1.toNatClampNeg)) m _ _ hz9) k1_0 (fl_fit_rm (by omega) (by decide)) rfl (Nat.le_of_ble_eq_true rfl) dX8_kinds_34 rfl (fun H locs hP hS => ?_)
          refine W.eq (g2 := F0 mm 37 ls [.int r7]) rfl ?_
          refine lv_if_eq (tgt := 46) hx hb dX8_kinds_37 (by decide) (fun c10 => ?_) (fun c10 => ?_)
          · replace h := fl_if_t h c10
            refine lv_iinc (v := x3 + 1) (lv' := [(3, .int (x3 + 1)), (0, .ref (ad 0)), (1, .int x1), (2, .int x2)]) hx hb dX8_kinds_46 hl (k := 3) rfl rfl (by decide) rfl (fun ls hl => ?_)
            refine lv_goto (tgt := 17) hx hb dX8_kinds_49 (by decide) ?_
            exact ih_17 _ _ _ _ _ _ _ h hP hS (lv_sub hl [1, 2, 3, 0] rfl)
          · replace h := fl_if_f h c10
            refine lv_iload_n hx hb dX8_kinds_40 rfl (lv_at hl 2 rfl) ?_
            refine lv_iconst (v := (1 : Int32)) hx hb dX8_kinds_41 (by decide) ?_
            refine lv_iload_n hx hb dX8_kinds_42 rfl (lv_at hl 3 rfl) ?_
            refine lv_ishl hx hb dX8_kinds_43 ?_
            refine lv_ior hx hb dX8_kinds_44 ?_
            obtain ⟨z11, ez12, h⟩ := fl_li_e h
            refine fl_topi ez12 ?_
            refine lv_istore_n (lv' := [(2, .int z11), (0, .ref (ad 0)), (1, .int x1), (3, .int x3)]) hx hb dX8_kinds_45 rfl hl (by decide) rfl (fun ls hl => ?_)
            refine lv_iinc (v := x3 + 1) (lv' := [(3, .int (x3 + 1)), (2, .int z11), (0, .ref (ad 0)), (1, .int x1)]) hx hb dX8_kinds_46 hl (k := 3) rfl rfl (by decide) rfl (fun ls hl => ?_)
            refine lv_goto (tgt := 17) hx hb dX8_kinds_49 (by decide) ?_
            exact ih_17 _ _ _ _ _ _ _ h hP hS (lv_sub hl [2, 3, 1, 0] rfl)
  have ih_17 := key N
  refine lv_aload_n hx hb dX8_kinds_0 rfl (lv_at hl 0 rfl) ?_
  refine fl_getr X hP fk_X8_19 k1_0 rfl dX8_kinds_1 ?_
  refine lv_iload_n hx hb dX8_kinds_4 rfl (lv_at hl 1 rfl) ?_
  obtain ⟨r1, m2, hz3, h⟩ := fl_bd_e h
  refine fl_callV (av := [.int x1]) X hP hS hl.1 mv_X8_120 (c_X0_hasCab l D ca ad hi 4 ct_4 x1 m _ _ hz3) k1_4 (fl_fit_rm (by omega) (by decide)) rfl (Nat.le_of_ble_eq_true rfl) dX8_kinds_5 rfl (fun H locs hP hS => ?_)
  refine W.eq (g2 := F0 mm 8 ls [.int r1]) rfl ?_
  refine lv_if_ne (tgt := 13) hx hb dX8_kinds_8 (by decide) (fun c4 => ?_) (fun c4 => ?_)
  · replace h := fl_if_f h c4
    refine lv_iconst (v := (0 : Int32)) hx hb dX8_kinds_13 (by decide) ?_
    refine lv_istore_n (lv' := [(2, .int (0 : Int32)), (0, .ref (ad 0)), (1, .int x1)]) hx hb dX8_kinds_14 rfl hl (by decide) rfl (fun ls hl => ?_)
    refine lv_iconst (v := (0 : Int32)) hx hb dX8_kinds_15 (by decide) ?_
    refine lv_istore_n (lv' := [(3, .int (0 : Int32)), (2, .int (0 : Int32)), (0, .ref (ad 0)), (1, .int x1)]) hx hb dX8_kinds_16 rfl hl (by decide) rfl (fun ls hl => ?_)
    exact ih_17 _ _ _ _ _ _ _ h hP hS (lv_sub hl [2, 3, 1, 0] rfl)
  · replace h := fl_if_t h c4
    refine lv_iconst (v := (-1 : Int32)) hx hb dX8_kinds_11 (by decide) ?_
    exact fl_iret X hr hlk hP hS dX8_kinds_12 h

def J_X8_tears_144 (N : Nat) (F : Int32 → Int32 → Int32 → Int32 → Int32 → Int32 → Int32 → Mem → Option (Int32 × Mem)) (x7 : Int32) (t0 : Int32) (m : Mem) : Option (Int32 × Mem) :=
  fl_ck (¬ (fl_max (1 : Int32) x7) = 0) (
    some (t0 / (fl_max (1 : Int32) x7), m))
def B_X8_tears_59 (N : Nat) (F : Int32 → Int32 → Int32 → Int32 → Int32 → Int32 → Int32 → Mem → Option (Int32 × Mem)) (x1 : Int32) (x2 : Int32) (x3 : Int32) (x4 : Int32) (x5 : Int32) (x6 : Int32) (x7 : Int32) (m : Mem) : Option (Int32 × Mem) :=
  if ((1 : Int32) <<< (x4 &&& 31)) ≤ x7 then (
    fl_bd (f_X8_commonDivisor N x6 x5 m) (fun r20 m21 =>
      if x3 = 0 then (
        J_X8_tears_144 N F r20 x6 m21)
      else (
        J_X8_tears_144 N F r20 x5 m21)))
  else (
    fl_bd (f_J6_bitCount_0f7a4 x7 m) (fun r24 m25 =>
      fl_bd (f_X8_power N x2 r24 m25) (fun r27 m28 =>
        fl_bd (f_X8_power N ((10 : Int32) - x2) (x4 - r24) m28) (fun r30 m31 =>
          fl_li (r27 * r30) (fun z33 =>
            if z33 ≤ 0 then (
              F x1 x2 x3 x4 x5 x6 (x7 + 1) m31)
            else (
              fl_bd (f_X8_lateAmong N x7 m31) (fun r36 m37 =>
                if r36 < x1 then (
                  F x1 x2 x3 x4 x5 x6 (x7 + 1) m37)
                else (
                  fl_li (x6 + z33) (fun z40 =>
                    F x1 x2 x3 x4 x5 z40 (x7 + 1) m37)))))))))
def l_X8_tears (N : Nat) : Nat → Int32 → Int32 → Int32 → Int32 → Int32 → Int32 → Int32 → Mem → Option (Int32 × Mem)
  | 0 => fun _ _ _ _ _ _ _ _ => none
  | n + 1 => fun x1 x2 x3 x4 x5 x6 x7 m => B_X8_tears_59 N (l_X8_tears N n) x1 x2 x3 x4 x5 x6 x7 m
def f_X8_tears (N : Nat) (x1 : Int32) (x2 : Int32) (x3 : Int32) (m : Mem) : Option (Int32 × Mem) :=
  fl_bd (f_X8_within x1 (0 : Int32) (7 : Int32) m) (fun r1 m2 =>
    if r1 = 0 then (
      some ((-1 : Int32), m2))
    else (
      fl_bd (f_X8_within x2 (0 : Int32) (10 : Int32) m2) (fun r5 m6 =>
        if r5 = 0 then (
          some ((-1 : Int32), m6))
        else (
          fl_bd (f_X8_within x3 (0 : Int32) (1 : Int32) m6) (fun r9 m10 =>
            if r9 = 0 then (
              some ((-1 : Int32), m10))
            else (
              fl_bd (f_X8_restOf N 4 39 m10) (fun r13 m14 =>
                fl_bd (f_X8_power N (10 : Int32) r13 m14) (fun r16 m17 =>
                  (l_X8_tears N N) x1 x2 x3 r13 r16 (0 : Int32) (0 : Int32) m17))))))))
set_option maxHeartbeats 4000000 in
set_option maxRecDepth 100000 in
theorem c_X8_tears (l : Launch) (D : va_G) (ca : Nat → ClassId) (ad : Nat → Nat) (hi : fl_inj L1 ad) (N : Nat) (x1 : Int32) (x2 : Int32) (x3 : Int32) (m : Mem) (v' : Int32) (M' : Mem) (h : f_X8_tears N x1 x2 x3 m = some (v', M')) : fl_M l L1 D ca ad yX8_tears cX8_tears 10 (some .int) 5 [.ref (ad 0), .int x1, .int x2, .int x3] m (some (.int v')) M' := by
  unfold f_X8_tears at h
  refine fl_ofW (by decide) hi (Nat.le_of_ble_eq_true rfl) ?_
  intro p e s mm args below meth c ls X hr hlk hP hl
  have hl : lv_has ls 10 [(0, .ref (ad 0)), (1, .int x1), (2, .int x2), (3, .int x3)] := hl
  have X : fl_X p s mm args c cX8_tears 10 RX8 L1 D ca ad := X
  obtain ⟨hx, hb, hml, hown, hts, hE, -⟩ := id X
  have hS : va_S (fl_A L1 ad) s.heap s.heap [] := va_S.rf
  have js : ∀ n : Nat, ((∀ (x1 : Int32) (x2 : Int32) (x3 : Int32) (x4 : Int32) (x5 : Int32) (x6 : Int32) (x7 : Int32) (m : Mem) (H : Heap) (locs : List Loc) (ls : Array Slot), l_X8_tears N n x1 x2 x3 x4 x5 x6 x7 m = some (v', M') → va_P D vwCl (fl_w L1 ca ad m) H → va_S (fl_A L1 ad) s.heap H locs → lv_has ls 10 [(0, .ref (ad 0)), (1, .int x1), (2, .int x2), (3, .int x3), (4, .int x4), (5, .int x5), (6, .int x6), (7, .int x7)] → W p l e (fl_rm 5) s mm args below meth c H locs 0 0 (MQ below (fl_Q L1 D ca ad (some (.int v')) M') args s 0 0 (fl_A L1 ad)) (F0 mm 59 ls []))) → (∀ (x7 : Int32) (t0 : Int32) (m : Mem) (H : Heap) (locs : List Loc) (ls : Array Slot), J_X8_tears_144 N (l_X8_tears N n) x7 t0 m = some (v', M') → va_P D vwCl (fl_w L1 ca ad m) H → va_S (fl_A L1 ad) s.heap H locs → lv_has ls 10 [(7, .int x7)] → W p l e (fl_rm 5) s mm args below meth c H locs 0 0 (MQ below (fl_Q L1 D ca ad (some (.int v')) M') args s 0 0 (fl_A L1 ad)) (F0 mm 144 ls [.int t0])) := by
    intro n ih
    have ih_59 := ih
    have j_144 : ∀ (x7 : Int32) (t0 : Int32) (m : Mem) (H : Heap) (locs : List Loc) (ls : Array Slot), J_X8_tears_144 N (l_X8_tears N n) x7 t0 m = some (v', M') → va_P D vwCl (fl_w L1 ca ad m) H → va_S (fl_A L1 ad) s.heap H locs → lv_has ls 10 [(7, .int x7)] → W p l e (fl_rm 5) s mm args below meth c H locs 0 0 (MQ below (fl_Q L1 D ca ad (some (.int v')) M') args s 0 0 (fl_A L1 ad)) (F0 mm 144 ls [.int t0]) := by
      intro x7 t0 m H locs ls h hP hS hl
      unfold J_X8_tears_144 at h
      refine lv_iconst (v := (1 : Int32)) hx hb dX8_tears_144 (by decide) ?_
      refine lv_iload hx hb dX8_tears_145 (lv_at hl 0 rfl) ?_
      refine va_mmax hx hb (hml.trans hl.1.symm) hown (hts _ wq_701) (hts _ wq_220) (hts _ wq_51) (hts _ wq_221) (fl_r1 (by omega)) (fl_r2 (by omega) (Nat.le_of_ble_eq_true rfl)) (Nat.le_refl 0) (Nat.le_refl 0) dX8_tears_147 ?_
      obtain ⟨hk42, h⟩ := fl_ck_e h
      refine lv_idiv hx hb dX8_tears_150 hk42 ?_
      exact fl_iret X hr hlk hP hS dX8_tears_151 h
    exact j_144
  have key : ∀ n : Nat, (∀ (x1 : Int32) (x2 : Int32) (x3 : Int32) (x4 : Int32) (x5 : Int32) (x6 : Int32) (x7 : Int32) (m : Mem) (H : Heap) (locs : List Loc) (ls : Array Slot), l_X8_tears N n x1 x2 x3 x4 x5 x6 x7 m = some (v', M') → va_P D vwCl (fl_w L1 ca ad m) H → va_S (fl_A L1 ad) s.heap H locs → lv_has ls 10 [(0, .ref (ad 0)), (1, .int x1), (2, .int x2), (3, .int x3), (4, .int x4), (5, .int x5), (6, .int x6), (7, .int x7)] → W p l e (fl_rm 5) s mm args below meth c H locs 0 0 (MQ below (fl_Q L1 D ca ad (some (.int v')) M') args s 0 0 (fl_A L1 ad)) (F0 mm 59 ls [])) := by
    intro n
    induction n with
    | zero =>
      skip
      · intro x1 x2 x3 x4 x5 x6 x7 m H locs ls h hP hS hl
        have h : (none : Option (Int32 × Mem)) = some (v', M') := h
        cases h
    | succ n ih =>
      have ih_59 := ih
      have j_144 := js n ih_59
      skip
      · intro x1 x2 x3 x4 x5 x6 x7 m H locs ls h hP hS hl
        have h : B_X8_tears_59 N (l_X8_tears N n) x1 x2 x3 x4 x5 x6 x7 m = some (v', M') := h
        unfold B_X8_tears_59 at h
        refine lv_iload hx hb dX8_tears_59 (lv_at hl 7 rfl) ?_
        refine lv_iconst (v := (1 : Int32)) hx hb dX8_tears_61 (by decide) ?_
        refine lv_iload hx hb dX8_tears_62 (lv_at hl 4 rfl) ?_
        refine lv_ishl hx hb dX8_tears_64 ?_
        refine lv_icmp_ge (tgt := 124) hx hb dX8_tears_65 (by decide) (fun c19 => ?_) (fun c19 => ?_)
        · replace h := fl_if_t h c19
          refine lv_iload hx hb dX8_tears_124 (lv_at hl 6 rfl) ?_
          refine lv_iload hx hb dX8_tears_126 (lv_at hl 5 rfl) ?_
          obtain ⟨r20, m21, hz22, h⟩ := fl_bd_e h
          refine fl_callS (av := [.int x6, .int x5]) X hP hS hl.1 ms_X8_275 (c_X8_commonDivisor l D ca ad hi N x6 x5 m _ _ hz22) (fl_fit_rm (by omega) (by decide)) rfl (Nat.le_of_ble_eq_true rfl) dX8_tears_128 rfl (fun H locs hP hS => ?_)
          refine W.eq (g2 := F0 mm 131 ls [.int r20]) rfl ?_
          refine lv_istore (lv' := [(7, .int r20), (0, .ref (ad 0)), (1, .int x1), (2, .int x2), (3, .int x3), (4, .int x4), (5, .int x5), (6, .int x6)]) hx hb dX8_tears_131 hl (by decide) rfl (fun ls hl => ?_)
          refine lv_iload_n hx hb dX8_tears_133 rfl (lv_at hl 4 rfl) ?_
          refine lv_if_ne (tgt := 142) hx hb dX8_tears_134 (by decide) (fun c23 => ?_) (fun c23 => ?_)
          · replace h := fl_if_f h c23
            refine lv_iload hx hb dX8_tears_142 (lv_at hl 6 rfl) ?_
            exact j_144 _ _ _ _ _ _ h hP hS (lv_sub hl [0] rfl)
          · replace h := fl_if_t h c23
            refine lv_iload hx hb dX8_tears_137 (lv_at hl 7 rfl) ?_
            refine lv_goto (tgt := 144) hx hb dX8_tears_139 (by decide) ?_
            exact j_144 _ _ _ _ _ _ h hP hS (lv_sub hl [0] rfl)
        · replace h := fl_if_f h c19
          refine lv_iload hx hb dX8_tears_68 (lv_at hl 7 rfl) ?_
          obtain ⟨r24, m25, hz26, h⟩ := fl_bd_e h
          refine fl_callS (av := [.int x7]) X hP hS hl.1 ms_X8_267 (c_J6_bitCount_0f7a4 l D ca ad hi x7 m _ _ hz26) (fl_fit_rm (by omega) (by decide)) rfl (Nat.le_of_ble_eq_true rfl) dX8_tears_70 rfl (fun H locs hP hS => ?_)
          refine W.eq (g2 := F0 mm 73 ls [.int r24]) rfl ?_
          refine lv_istore (lv' := [(8, .int r24), (0, .ref (ad 0)), (1, .int x1), (2, .int x2), (3, .int x3), (4, .int x4), (5, .int x5), (6, .int x6), (7, .int x7)]) hx hb dX8_tears_73 hl (by decide) rfl (fun ls hl => ?_)
          refine lv_iload_n hx hb dX8_tears_75 rfl (lv_at hl 3 rfl) ?_
          refine lv_iload hx hb dX8_tears_76 (lv_at hl 0 rfl) ?_
          obtain ⟨r27, m28, hz29, h⟩ := fl_bd_e h
          refine fl_callS (av := [.int x2, .int r24]) X hP hS hl.1 ms_X8_264 (c_X8_power l D ca ad hi N x2 r24 m25 _ _ hz29) (fl_fit_rm (by omega) (by decide)) rfl (Nat.le_of_ble_eq_true rfl) dX8_tears_78 rfl (fun H locs hP hS => ?_)
          refine W.eq (g2 := F0 mm 81 ls [.int r27]) rfl ?_
          refine lv_bipush (v := (10 : Int32)) hx hb dX8_tears_81 (by decide) ?_
          refine lv_iload_n hx hb dX8_tears_83 rfl (lv_at hl 3 rfl) ?_
          refine lv_isub hx hb dX8_tears_84 ?_
          refine lv_iload hx hb dX8_tears_85 (lv_at hl 5 rfl) ?_
          refine lv_iload hx hb dX8_tears_87 (lv_at hl 0 rfl) ?_
          refine lv_isub hx hb dX8_tears_89 ?_
          obtain ⟨r30, m31, hz32, h⟩ := fl_bd_e h
          refine fl_callS (av := [.int ((10 : Int32) - x2), .int (x4 - r24)]) X hP hS hl.1 ms_X8_264 (c_X8_power l D ca ad hi N ((10 : Int32) - x2) (x4 - r24) m28 _ _ hz32) (fl_fit_rm (by omega) (by decide)) rfl (Nat.le_of_ble_eq_true rfl) dX8_tears_90 rfl (fun H locs hP hS => ?_)
          refine W.eq (g2 := F0 mm 93 ls [.int r30, .int r27]) rfl ?_
          refine lv_imul hx hb dX8_tears_93 ?_
          obtain ⟨z33, ez34, h⟩ := fl_li_e h
          refine fl_topi ez34 ?_
          refine lv_istore (lv' := [(9, .int z33), (8, .int r24), (0, .ref (ad 0)), (1, .int x1), (2, .int x2), (3, .int x3), (4, .int x4), (5, .int x5), (6, .int x6), (7, .int x7)]) hx hb dX8_tears_94 hl (by decide) rfl (fun ls hl => ?_)
          refine lv_iload hx hb dX8_tears_96 (lv_at hl 0 rfl) ?_
          refine lv_if_le (tgt := 118) hx hb dX8_tears_98 (by decide) (fun c35 => ?_) (fun c35 => ?_)
          · replace h := fl_if_t h c35
            refine lv_iinc (v := x7 + 1) (lv' := [(7, .int (x7 + 1)), (9, .int z33), (8, .int r24), (0, .ref (ad 0)), (1, .int x1), (2, .int x2), (3, .int x3), (4, .int x4), (5, .int x5), (6, .int x6)]) hx hb dX8_tears_118 hl (k := 9) rfl rfl (by decide) rfl (fun ls hl => ?_)
            refine lv_goto (tgt := 59) hx hb dX8_tears_121 (by decide) ?_
            exact ih_59 _ _ _ _ _ _ _ _ _ _ _ h hP hS (lv_sub hl [3, 4, 5, 6, 7, 8, 9, 0] rfl)
          · replace h := fl_if_f h c35
            refine lv_aload_n hx hb dX8_tears_101 rfl (lv_at hl 2 rfl) ?_
            refine lv_iload hx hb dX8_tears_102 (lv_at hl 9 rfl) ?_
            obtain ⟨r36, m37, hz38, h⟩ := fl_bd_e h
            refine fl_callV (av := [.int x7]) X hP hS hl.1 mv_X8_272 (c_X8_lateAmong l D ca ad hi N x7 m31 _ _ hz38) k1_0 (fl_fit_rm (by omega) (by decide)) rfl (Nat.le_of_ble_eq_true rfl) dX8_tears_104 rfl (fun H locs hP hS => ?_)
            refine W.eq (g2 := F0 mm 107 ls [.int r36]) rfl ?_
            refine lv_iload_n hx hb dX8_tears_107 rfl (lv_at hl 3 rfl) ?_
            refine lv_icmp_lt (tgt := 118) hx hb dX8_tears_108 (by decide) (fun c39 => ?_) (fun c39 => ?_)
            · replace h := fl_if_t h c39
              refine lv_iinc (v := x7 + 1) (lv' := [(7, .int (x7 + 1)), (9, .int z33), (8, .int r24), (0, .ref (ad 0)), (1, .int x1), (2, .int x2), (3, .int x3), (4, .int x4), (5, .int x5), (6, .int x6)]) hx hb dX8_tears_118 hl (k := 9) rfl rfl (by decide) rfl (fun ls hl => ?_)
              refine lv_goto (tgt := 59) hx hb dX8_tears_121 (by decide) ?_
              exact ih_59 _ _ _ _ _ _ _ _ _ _ _ h hP hS (lv_sub hl [3, 4, 5, 6, 7, 8, 9, 0] rfl)
            · replace h := fl_if_f h c39
              refine lv_iload hx hb dX8_tears_111 (lv_at hl 8 rfl) ?_
              refine lv_iload hx hb dX8_tears_113 (lv_at hl 0 rfl) ?_
              refine lv_iadd hx hb dX8_tears_115 ?_
              obtain ⟨z40, ez41, h⟩ := fl_li_e h
              refine fl_topi ez41 ?_
              refine lv_istore (lv' := [(6, .int z40), (9, .int z33), (8, .int r24), (0, .ref (ad 0)), (1, .int x1), (2, .int x2), (3, .int x3), (4, .int x4), (5, .int x5), (7, .int x7)]) hx hb dX8_tears_116 hl (by decide) rfl (fun ls hl => ?_)
              refine lv_iinc (v := x7 + 1) (lv' := [(7, .int (x7 + 1)), (6, .int z40), (9, .int z33), (8, .int r24), (0, .ref (ad 0)), (1, .int x1), (2, .int x2), (3, .int x3), (4, .int x4), (5, .int x5)]) hx hb dX8_tears_118 hl (k := 9) rfl rfl (by decide) rfl (fun ls hl => ?_)
              refine lv_goto (tgt := 59) hx hb dX8_tears_121 (by decide) ?_
              exact ih_59 _ _ _ _ _ _ _ _ _ _ _ h hP hS (lv_sub hl [4, 5, 6, 7, 8, 9, 1, 0] rfl)
  have ih_59 := key N
  have j_144 := js N ih_59
  refine lv_iload_n hx hb dX8_tears_0 rfl (lv_at hl 1 rfl) ?_
  refine lv_iconst (v := (0 : Int32)) hx hb dX8_tears_1 (by decide) ?_
  refine lv_bipush (v := (7 : Int32)) hx hb dX8_tears_2 (by decide) ?_
  obtain ⟨r1, m2, hz3, h⟩ := fl_bd_e h
  refine fl_callS (av := [.int x1, .int (0 : Int32), .int (7 : Int32)]) X hP hS hl.1 ms_X8_99 (c_X8_within l D ca ad hi x1 (0 : Int32) (7 : Int32) m _ _ hz3) (fl_fit_rm (by omega) (by decide)) rfl (Nat.le_of_ble_eq_true rfl) dX8_tears_4 rfl (fun H locs hP hS => ?_)
  refine W.eq (g2 := F0 mm 7 ls [.int r1]) rfl ?_
  refine lv_if_eq (tgt := 29) hx hb dX8_tears_7 (by decide) (fun c4 => ?_) (fun c4 => ?_)
  · replace h := fl_if_t h c4
    refine lv_iconst (v := (-1 : Int32)) hx hb dX8_tears_29 (by decide) ?_
    exact fl_iret X hr hlk hP hS dX8_tears_30 h
  · replace h := fl_if_f h c4
    refine lv_iload_n hx hb dX8_tears_10 rfl (lv_at hl 2 rfl) ?_
    refine lv_iconst (v := (0 : Int32)) hx hb dX8_tears_11 (by decide) ?_
    refine lv_bipush (v := (10 : Int32)) hx hb dX8_tears_12 (by decide) ?_
    obtain ⟨r5, m6, hz7, h⟩ := fl_bd_e h
    refine fl_callS (av := [.int x2, .int (0 : Int32), .int (10 : Int32)]) X hP hS hl.1 ms_X8_99 (c_X8_within l D ca ad hi x2 (0 : Int32) (10 : Int32) m2 _ _ hz7) (fl_fit_rm (by omega) (by decide)) rfl (Nat.le_of_ble_eq_true rfl) dX8_tears_14 rfl (fun H locs hP hS => ?_)
    refine W.eq (g2 := F0 mm 17 ls [.int r5]) rfl ?_
    refine lv_if_eq (tgt := 29) hx hb dX8_tears_17 (by decide) (fun c8 => ?_) (fun c8 => ?_)
    · replace h := fl_if_t h c8
      refine lv_iconst (v := (-1 : Int32)) hx hb dX8_tears_29 (by decide) ?_
      exact fl_iret X hr hlk hP hS dX8_tears_30 h
    · replace h := fl_if_f h c8
      refine lv_iload_n hx hb dX8_tears_20 rfl (lv_at hl 3 rfl) ?_
      refine lv_iconst (v := (0 : Int32)) hx hb dX8_tears_21 (by decide) ?_
      refine lv_iconst (v := (1 : Int32)) hx hb dX8_tears_22 (by decide) ?_
      obtain ⟨r9, m10, hz11, h⟩ := fl_bd_e h
      refine fl_callS (av := [.int x3, .int (0 : Int32), .int (1 : Int32)]) X hP hS hl.1 ms_X8_99 (c_X8_within l D ca ad hi x3 (0 : Int32) (1 : Int32) m6 _ _ hz11) (fl_fit_rm (by omega) (by decide)) rfl (Nat.le_of_ble_eq_true rfl) dX8_tears_23 rfl (fun H locs hP hS => ?_)
      refine W.eq (g2 := F0 mm 26 ls [.int r9]) rfl ?_
      refine lv_if_ne (tgt := 31) hx hb dX8_tears_26 (by decide) (fun c12 => ?_) (fun c12 => ?_)
      · replace h := fl_if_f h c12
        refine lv_aload_n hx hb dX8_tears_31 rfl (lv_at hl 0 rfl) ?_
        refine fl_getr X hP fk_X8_19 k1_0 rfl dX8_tears_32 ?_
        refine lv_aload_n hx hb dX8_tears_35 rfl (lv_at hl 0 rfl) ?_
        refine fl_getr X hP fk_X8_29 k1_0 rfl dX8_tears_36 ?_
        obtain ⟨r13, m14, hz15, h⟩ := fl_bd_e h
        refine fl_callS (av := [.ref (ad 4), .ref (ad 39)]) X hP hS hl.1 ms_X8_260 (c_X8_restOf l D ca ad hi N 4 ct_4 39 st_39 m10 _ _ hz15) (fl_fit_rm (by omega) (by decide)) rfl (Nat.le_of_ble_eq_true rfl) dX8_tears_39 rfl (fun H locs hP hS => ?_)
        refine W.eq (g2 := F0 mm 42 ls [.int r13]) rfl ?_
        refine lv_istore (lv' := [(4, .int r13), (0, .ref (ad 0)), (1, .int x1), (2, .int x2), (3, .int x3)]) hx hb dX8_tears_42 hl (by decide) rfl (fun ls hl => ?_)
        refine lv_bipush (v := (10 : Int32)) hx hb dX8_tears_44 (by decide) ?_
        refine lv_iload hx hb dX8_tears_46 (lv_at hl 0 rfl) ?_
        obtain ⟨r16, m17, hz18, h⟩ := fl_bd_e h
        refine fl_callS (av := [.int (10 : Int32), .int r13]) X hP hS hl.1 ms_X8_264 (c_X8_power l D ca ad hi N (10 : Int32) r13 m14 _ _ hz18) (fl_fit_rm (by omega) (by decide)) rfl (Nat.le_of_ble_eq_true rfl) dX8_tears_48 rfl (fun H locs hP hS => ?_)
        refine W.eq (g2 := F0 mm 51 ls [.int r16]) rfl ?_
        refine lv_istore (lv' := [(5, .int r16), (4, .int r13), (0, .ref (ad 0)), (1, .int x1), (2, .int x2), (3, .int x3)]) hx hb dX8_tears_51 hl (by decide) rfl (fun ls hl => ?_)
        refine lv_iconst (v := (0 : Int32)) hx hb dX8_tears_53 (by decide) ?_
        refine lv_istore (lv' := [(6, .int (0 : Int32)), (5, .int r16), (4, .int r13), (0, .ref (ad 0)), (1, .int x1), (2, .int x2), (3, .int x3)]) hx hb dX8_tears_54 hl (by decide) rfl (fun ls hl => ?_)
        refine lv_iconst (v := (0 : Int32)) hx hb dX8_tears_56 (by decide) ?_
        refine lv_istore (lv' := [(7, .int (0 : Int32)), (6, .int (0 : Int32)), (5, .int r16), (4, .int r13), (0, .ref (ad 0)), (1, .int x1), (2, .int x2), (3, .int x3)]) hx hb dX8_tears_57 hl (by decide) rfl (fun ls hl => ?_)
        exact ih_59 _ _ _ _ _ _ _ _ _ _ _ h hP hS (lv_sub hl [4, 5, 6, 7, 3, 2, 1, 0] rfl)
      · replace h := fl_if_t h c12
        refine lv_iconst (v := (-1 : Int32)) hx hb dX8_tears_29 (by decide) ?_
        exact fl_iret X hr hlk hP hS dX8_tears_30 h

def J_X8_year_125 (N : Nat) (F : Int32 → Int32 → Int32 → Int32 → Int32 → Int32 → Mem → Option (Int32 × Mem)) (x1 : Int32) (x2 : Int32) (x3 : Int32) (x5 : Int32) (x6 : Int32) (x7 : Int32) (x8 : Int32) (t0 : Int32) (t1 : Int32) (m : Mem) : Option (Int32 × Mem) :=
  fl_li (t0 + t1) (fun z31 =>
    fl_ck (0 ≤ x8.toInt ∧ x8.toInt < 7) (
      fl_li (x5 + (m.1 49 (x8.toNatClampNeg))) (fun z34 =>
        fl_lm (mI m 45 0 ((m.1 45 0) + (fl_rem (x7 / (64 : Int32)) (8 : Int32)))) (fun m36 =>
          F x1 x2 x3 z31 z34 (x6 + 1) m36))))
def B_X8_year_52 (N : Nat) (F : Int32 → Int32 → Int32 → Int32 → Int32 → Int32 → Mem → Option (Int32 × Mem)) (x1 : Int32) (x2 : Int32) (x3 : Int32) (x4 : Int32) (x5 : Int32) (x6 : Int32) (m : Mem) : Option (Int32 × Mem) :=
  if x2 ≤ x6 then (
    if x3 = 0 then (
      some (x4, m))
    else (
      some (x5, m)))
  else (
    fl_bd (f_X8_drawn x1 x6 m) (fun r18 m19 =>
      fl_ck (¬ (fl_max (1 : Int32) (m19.1 4 3)) = 0) (
        fl_li (fl_rem (r18 / (4 : Int32)) (fl_max (1 : Int32) (m19.1 4 3))) (fun z22 =>
          fl_ck (¬ (fl_max (1 : Int32) (m19.1 4 2)) = 0) (
            fl_li (fl_rem r18 (fl_max (1 : Int32) (m19.1 4 2))) (fun z25 =>
              fl_bd (f_X0_drive 4 45 z25 z22 m19) (fun r27 m28 =>
                if r27 = 0 then (
                  J_X8_year_125 N F x1 x2 x3 x5 x6 r18 z22 x4 (0 : Int32) m28)
                else (
                  J_X8_year_125 N F x1 x2 x3 x5 x6 r18 z22 x4 (1 : Int32) m28))))))))
def l_X8_year (N : Nat) : Nat → Int32 → Int32 → Int32 → Int32 → Int32 → Int32 → Mem → Option (Int32 × Mem)
  | 0 => fun _ _ _ _ _ _ _ => none
  | n + 1 => fun x1 x2 x3 x4 x5 x6 m => B_X8_year_52 N (l_X8_year N n) x1 x2 x3 x4 x5 x6 m
def f_X8_year (N : Nat) (x1 : Int32) (x2 : Int32) (x3 : Int32) (m : Mem) : Option (Int32 × Mem) :=
  fl_bd (f_X8_within x1 (0 : Int32) (9999 : Int32) m) (fun r1 m2 =>
    if r1 = 0 then (
      some ((-1 : Int32), m2))
    else (
      fl_bd (f_X8_within x2 (1 : Int32) (40 : Int32) m2) (fun r5 m6 =>
        if r5 = 0 then (
          some ((-1 : Int32), m6))
        else (
          fl_bd (f_X8_within x3 (0 : Int32) (1 : Int32) m6) (fun r9 m10 =>
            if r9 = 0 then (
              some ((-1 : Int32), m10))
            else (
              fl_bd (f_X5_copy 45 39 m10) (fun r13 m14 =>
                (l_X8_year N N) x1 x2 x3 (0 : Int32) (0 : Int32) (0 : Int32) m14)))))))
set_option maxHeartbeats 4000000 in
set_option maxRecDepth 100000 in
theorem c_X8_year (l : Launch) (D : va_G) (ca : Nat → ClassId) (ad : Nat → Nat) (hi : fl_inj L1 ad) (N : Nat) (x1 : Int32) (x2 : Int32) (x3 : Int32) (m : Mem) (v' : Int32) (M' : Mem) (h : f_X8_year N x1 x2 x3 m = some (v', M')) : fl_M l L1 D ca ad yX8_year cX8_year 10 (some .int) 5 [.ref (ad 0), .int x1, .int x2, .int x3] m (some (.int v')) M' := by
  unfold f_X8_year at h
  refine fl_ofW (by decide) hi (Nat.le_of_ble_eq_true rfl) ?_
  intro p e s mm args below meth c ls X hr hlk hP hl
  have hl : lv_has ls 10 [(0, .ref (ad 0)), (1, .int x1), (2, .int x2), (3, .int x3)] := hl
  have X : fl_X p s mm args c cX8_year 10 RX8 L1 D ca ad := X
  obtain ⟨hx, hb, hml, hown, hts, hE, -⟩ := id X
  have hS : va_S (fl_A L1 ad) s.heap s.heap [] := va_S.rf
  have js : ∀ n : Nat, ((∀ (x1 : Int32) (x2 : Int32) (x3 : Int32) (x4 : Int32) (x5 : Int32) (x6 : Int32) (m : Mem) (H : Heap) (locs : List Loc) (ls : Array Slot), l_X8_year N n x1 x2 x3 x4 x5 x6 m = some (v', M') → va_P D vwCl (fl_w L1 ca ad m) H → va_S (fl_A L1 ad) s.heap H locs → lv_has ls 10 [(0, .ref (ad 0)), (1, .int x1), (2, .int x2), (3, .int x3), (4, .int x4), (5, .int x5), (6, .int x6)] → W p l e (fl_rm 5) s mm args below meth c H locs 0 0 (MQ below (fl_Q L1 D ca ad (some (.int v')) M') args s 0 0 (fl_A L1 ad)) (F0 mm 52 ls []))) → (∀ (x1 : Int32) (x2 : Int32) (x3 : Int32) (x5 : Int32) (x6 : Int32) (x7 : Int32) (x8 : Int32) (t0 : Int32) (t1 : Int32) (m : Mem) (H : Heap) (locs : List Loc) (ls : Array Slot), J_X8_year_125 N (l_X8_year N n) x1 x2 x3 x5 x6 x7 x8 t0 t1 m = some (v', M') → va_P D vwCl (fl_w L1 ca ad m) H → va_S (fl_A L1 ad) s.heap H locs → lv_has ls 10 [(0, .ref (ad 0)), (1, .int x1), (2, .int x2), (3, .int x3), (5, .int x5), (6, .int x6), (7, .int x7), (8, .int x8)] → W p l e (fl_rm 5) s mm args below meth c H locs 0 0 (MQ below (fl_Q L1 D ca ad (some (.int v')) M') args s 0 0 (fl_A L1 ad)) (F0 mm 125 ls [.int t1, .int t0])) := by
    intro n ih
    have ih_52 := ih
    have j_125 : ∀ (x1 : Int32) (x2 : Int32) (x3 : Int32) (x5 : Int32) (x6 : Int32) (x7 : Int32) (x8 : Int32) (t0 : Int32) (t1 : Int32) (m : Mem) (H : Heap) (locs : List Loc) (ls : Array Slot), J_X8_year_125 N (l_X8_year N n) x1 x2 x3 x5 x6 x7 x8 t0 t1 m = some (v', M') → va_P D vwCl (fl_w L1 ca ad m) H → va_S (fl_A L1 ad) s.heap H locs → lv_has ls 10 [(0, .ref (ad 0)), (1, .int x1), (2, .int x2), (3, .int x3), (5, .int x5), (6, .int x6), (7, .int x7), (8, .int x8)] → W p l e (fl_rm 5) s mm args below meth c H locs 0 0 (MQ below (fl_Q L1 D ca ad (some (.int v')) M') args s 0 0 (fl_A L1 ad)) (F0 mm 125 ls [.int t1, .int t0]) := by
      intro x1 x2 x3 x5 x6 x7 x8 t0 t1 m H locs ls h hP hS hl
      unfold J_X8_year_125 at h
      refine lv_iadd hx hb dX8_year_125 ?_
      obtain ⟨z31, ez32, h⟩ := fl_li_e h
      refine fl_topi ez32 ?_
      refine lv_istore (lv' := [(4, .int z31), (0, .ref (ad 0)), (1, .int x1), (2, .int x2), (3, .int x3), (5, .int x5), (6, .int x6), (7, .int x7), (8, .int x8)]) hx hb dX8_year_126 hl (by decide) rfl (fun ls hl => ?_)
      refine lv_iload hx hb dX8_year_128 (lv_at hl 5 rfl) ?_
      refine lv_aload_n hx hb dX8_year_130 rfl (lv_at hl 1 rfl) ?_
      refine fl_getr X hP fk_X8_33 k1_0 rfl dX8_year_131 ?_
      refine fl_getr X hP fk_X8_157 k1_45 rfl dX8_year_134 ?_
      refine lv_iload hx hb dX8_year_137 (lv_at hl 8 rfl) ?_
      obtain ⟨hk33, h⟩ := fl_ck_e h
      refine fl_iald X hP k1_49 hk33 dX8_year_139 ?_
      refine lv_iadd hx hb dX8_year_140 ?_
      obtain ⟨z34, ez35, h⟩ := fl_li_e h
      refine fl_topi ez35 ?_
      refine lv_istore (lv' := [(5, .int z34), (4, .int z31), (0, .ref (ad 0)), (1, .int x1), (2, .int x2), (3, .int x3), (6, .int x6), (7, .int x7), (8, .int x8)]) hx hb dX8_year_141 hl (by decide) rfl (fun ls hl => ?_)
      refine lv_aload_n hx hb dX8_year_143 rfl (lv_at hl 2 rfl) ?_
      refine fl_getr X hP fk_X8_33 k1_0 rfl dX8_year_144 ?_
      refine lv_dup hx hb dX8_year_147 rfl ?_
      refine fl_geti X hP fk_X8_175 k1_45 rfl dX8_year_148 ?_
      refine lv_iload hx hb dX8_year_151 (lv_at hl 7 rfl) ?_
      refine lv_bipush (v := (64 : Int32)) hx hb dX8_year_153 (by decide) ?_
      refine lv_idiv hx hb dX8_year_155 (by decide) ?_
      refine lv_bipush (v := (8 : Int32)) hx hb dX8_year_156 (by decide) ?_
      refine lv_irem hx hb dX8_year_158 (by decide) ?_
      refine lv_iadd hx hb dX8_year_159 ?_
      obtain ⟨m36, em37, h⟩ := fl_lm_e h
      refine fl_puti X hP hS pk_X8_175 k1_45 rfl rfl rfl dX8_year_160 (fun H locs hP hS => ?_)
      have hP : va_P D vwCl (fl_w L1 ca ad m36) H := by rw [em37]; exact hP
      refine lv_iinc (v := x6 + 1) (lv' := [(6, .int (x6 + 1)), (5, .int z34), (4, .int z31), (0, .ref (ad 0)), (1, .int x1), (2, .int x2), (3, .int x3), (7, .int x7), (8, .int x8)]) hx hb dX8_year_163 hl (k := 6) rfl rfl (by decide) rfl (fun ls hl => ?_)
      refine lv_goto (tgt := 52) hx hb dX8_year_166 (by decide) ?_
      exact ih_52 _ _ _ _ _ _ _ _ _ _ h hP hS (lv_sub hl [3, 4, 5, 6, 2, 1, 0] rfl)
    exact j_125
  have key : ∀ n : Nat, (∀ (x1 : Int32) (x2 : Int32) (x3 : Int32) (x4 : Int32) (x5 : Int32) (x6 : Int32) (m : Mem) (H : Heap) (locs : List Loc) (ls : Array Slot), l_X8_year N n x1 x2 x3 x4 x5 x6 m = some (v', M') → va_P D vwCl (fl_w L1 ca ad m) H → va_S (fl_A L1 ad) s.heap H locs → lv_has ls 10 [(0, .ref (ad 0)), (1, .int x1), (2, .int x2), (3, .int x3), (4, .int x4), (5, .int x5), (6, .int x6)] → W p l e (fl_rm 5) s mm args below meth c H locs 0 0 (MQ below (fl_Q L1 D ca ad (some (.int v')) M') args s 0 0 (fl_A L1 ad)) (F0 mm 52 ls [])) := by
    intro n
    induction n with
    | zero =>
      skip
      · intro x1 x2 x3 x4 x5 x6 m H locs ls h hP hS hl
        have h : (none : Option (Int32 × Mem)) = some (v', M') := h
        cases h
    | succ n ih =>
      have ih_52 := ih
      have j_125 := js n ih_52
      skip
      · intro x1 x2 x3 x4 x5 x6 m H locs ls h hP hS hl
        have h : B_X8_year_52 N (l_X8_year N n) x1 x2 x3 x4 x5 x6 m = some (v', M') := h
        unfold B_X8_year_52 at h
        refine lv_iload hx hb dX8_year_52 (lv_at hl 6 rfl) ?_
        refine lv_iload_n hx hb dX8_year_54 rfl (lv_at hl 2 rfl) ?_
        refine lv_icmp_ge (tgt := 169) hx hb dX8_year_55 (by decide) (fun c16 => ?_) (fun c16 => ?_)
        · replace h := fl_if_t h c16
          refine lv_iload_n hx hb dX8_year_169 rfl (lv_at hl 3 rfl) ?_
          refine lv_if_ne (tgt := 178) hx hb dX8_year_170 (by decide) (fun c17 => ?_) (fun c17 => ?_)
          · replace h := fl_if_f h c17
            refine lv_iload hx hb dX8_year_178 (lv_at hl 5 rfl) ?_
            exact fl_iret X hr hlk hP hS dX8_year_180 h
          · replace h := fl_if_t h c17
            refine lv_iload hx hb dX8_year_173 (lv_at hl 4 rfl) ?_
            refine lv_goto (tgt := 180) hx hb dX8_year_175 (by decide) ?_
            exact fl_iret X hr hlk hP hS dX8_year_180 h
        · replace h := fl_if_f h c16
          refine lv_iload_n hx hb dX8_year_58 rfl (lv_at hl 1 rfl) ?_
          refine lv_iload hx hb dX8_year_59 (lv_at hl 6 rfl) ?_
          obtain ⟨r18, m19, hz20, h⟩ := fl_bd_e h
          refine fl_callS (av := [.int x1, .int x6]) X hP hS hl.1 ms_X8_283 (c_X8_drawn l D ca ad hi x1 x6 m _ _ hz20) (fl_fit_rm (by omega) (by decide)) rfl (Nat.le_of_ble_eq_true rfl) dX8_year_61 rfl (fun H locs hP hS => ?_)
          refine W.eq (g2 := F0 mm 64 ls [.int r18]) rfl ?_
          refine lv_istore (lv' := [(7, .int r18), (0, .ref (ad 0)), (1, .int x1), (2, .int x2), (3, .int x3), (4, .int x4), (5, .int x5), (6, .int x6)]) hx hb dX8_year_64 hl (by decide) rfl (fun ls hl => ?_)
          refine lv_iload hx hb dX8_year_66 (lv_at hl 0 rfl) ?_
          refine lv_iconst (v := (4 : Int32)) hx hb dX8_year_68 (by decide) ?_
          refine lv_idiv hx hb dX8_year_69 (by decide) ?_
          refine lv_iconst (v := (1 : Int32)) hx hb dX8_year_70 (by decide) ?_
          refine lv_aload_n hx hb dX8_year_71 rfl (lv_at hl 1 rfl) ?_
          refine fl_getr X hP fk_X8_19 k1_0 rfl dX8_year_72 ?_
          refine fl_geti X hP fk_X8_106 k1_4 rfl dX8_year_75 ?_
          refine va_mmax hx hb (hml.trans hl.1.symm) hown (hts _ wq_701) (hts _ wq_220) (hts _ wq_51) (hts _ wq_221) (fl_r1 (by omega)) (fl_r2 (by omega) (Nat.le_of_ble_eq_true rfl)) (Nat.le_refl 0) (Nat.le_refl 0) dX8_year_78 ?_
          obtain ⟨hk21, h⟩ := fl_ck_e h
          refine lv_irem hx hb dX8_year_81 hk21 ?_
          obtain ⟨z22, ez23, h⟩ := fl_li_e h
          refine fl_topi ez23 ?_
          refine lv_istore (lv' := [(8, .int z22), (7, .int r18), (0, .ref (ad 0)), (1, .int x1), (2, .int x2), (3, .int x3), (4, .int x4), (5, .int x5), (6, .int x6)]) hx hb dX8_year_82 hl (by decide) rfl (fun ls hl => ?_)
          refine lv_iload hx hb dX8_year_84 (lv_at hl 1 rfl) ?_
          refine lv_iconst (v := (1 : Int32)) hx hb dX8_year_86 (by decide) ?_
          refine lv_aload_n hx hb dX8_year_87 rfl (lv_at hl 2 rfl) ?_
          refine fl_getr X hP fk_X8_19 k1_0 rfl dX8_year_88 ?_
          refine fl_geti X hP fk_X8_103 k1_4 rfl dX8_year_91 ?_
          refine va_mmax hx hb (hml.trans hl.1.symm) hown (hts _ wq_701) (hts _ wq_220) (hts _ wq_51) (hts _ wq_221) (fl_r1 (by omega)) (fl_r2 (by omega) (Nat.le_of_ble_eq_true rfl)) (Nat.le_refl 0) (Nat.le_refl 0) dX8_year_94 ?_
          obtain ⟨hk24, h⟩ := fl_ck_e h
          refine lv_irem hx hb dX8_year_97 hk24 ?_
          obtain ⟨z25, ez26, h⟩ := fl_li_e h
          refine fl_topi ez26 ?_
          refine lv_istore (lv' := [(9, .int z25), (8, .int z22), (7, .int r18), (0, .ref (ad 0)), (1, .int x1), (2, .int x2), (3, .int x3), (4, .int x4), (5, .int x5), (6, .int x6)]) hx hb dX8_year_98 hl (by decide) rfl (fun ls hl => ?_)
          refine lv_iload hx hb dX8_year_100 (lv_at hl 7 rfl) ?_
          refine lv_aload_n hx hb dX8_year_102 rfl (lv_at hl 3 rfl) ?_
          refine fl_getr X hP fk_X8_19 k1_0 rfl dX8_year_103 ?_
          refine lv_aload_n hx hb dX8_year_106 rfl (lv_at hl 3 rfl) ?_
          refine fl_getr X hP fk_X8_33 k1_0 rfl dX8_year_107 ?_
          refine lv_iload hx hb dX8_year_110 (lv_at hl 0 rfl) ?_
          refine lv_iload hx hb dX8_year_112 (lv_at hl 1 rfl) ?_
          obtain ⟨r27, m28, hz29, h⟩ := fl_bd_e h
          refine fl_callV (av := [.ref (ad 45), .int z25, .int z22]) X hP hS hl.1 mv_X8_167 (c_X0_drive l D ca ad hi 4 ct_4 45 st_45 z25 z22 m19 _ _ hz29) k1_4 (fl_fit_rm (by omega) (by decide)) rfl (Nat.le_of_ble_eq_true rfl) dX8_year_114 rfl (fun H locs hP hS => ?_)
          refine W.eq (g2 := F0 mm 117 ls [.int r27, .int x4]) rfl ?_
          refine lv_if_eq (tgt := 124) hx hb dX8_year_117 (by decide) (fun c30 => ?_) (fun c30 => ?_)
          · replace h := fl_if_t h c30
            refine lv_iconst (v := (0 : Int32)) hx hb dX8_year_124 (by decide) ?_
            exact j_125 _ _ _ _ _ _ _ _ _ _ _ _ _ h hP hS (lv_sub hl [3, 4, 5, 6, 8, 9, 2, 1] rfl)
          · replace h := fl_if_f h c30
            refine lv_iconst (v := (1 : Int32)) hx hb dX8_year_120 (by decide) ?_
            refine lv_goto (tgt := 125) hx hb dX8_year_121 (by decide) ?_
            exact j_125 _ _ _ _ _ _ _ _ _ _ _ _ _ h hP hS (lv_sub hl [3, 4, 5, 6, 8, 9, 2, 1] rfl)
  have ih_52 := key N
  have j_125 := js N ih_52
  refine lv_iload_n hx hb dX8_year_0 rfl (lv_at hl 1 rfl) ?_
  refine lv_iconst (v := (0 : Int32)) hx hb dX8_year_1 (by decide) ?_
  refine lv_sipush (v := (9999 : Int32)) hx hb dX8_year_2 (by decide) ?_
  obtain ⟨r1, m2, hz3, h⟩ := fl_bd_e h
  refine fl_callS (av := [.int x1, .int (0 : Int32), .int (9999 : Int32)]) X hP hS hl.1 ms_X8_99 (c_X8_within l D ca ad hi x1 (0 : Int32) (9999 : Int32) m _ _ hz3) (fl_fit_rm (by omega) (by decide)) rfl (Nat.le_of_ble_eq_true rfl) dX8_year_5 rfl (fun H locs hP hS => ?_)
  refine W.eq (g2 := F0 mm 8 ls [.int r1]) rfl ?_
  refine lv_if_eq (tgt := 30) hx hb dX8_year_8 (by decide) (fun c4 => ?_) (fun c4 => ?_)
  · replace h := fl_if_t h c4
    refine lv_iconst (v := (-1 : Int32)) hx hb dX8_year_30 (by decide) ?_
    exact fl_iret X hr hlk hP hS dX8_year_31 h
  · replace h := fl_if_f h c4
    refine lv_iload_n hx hb dX8_year_11 rfl (lv_at hl 2 rfl) ?_
    refine lv_iconst (v := (1 : Int32)) hx hb dX8_year_12 (by decide) ?_
    refine lv_bipush (v := (40 : Int32)) hx hb dX8_year_13 (by decide) ?_
    obtain ⟨r5, m6, hz7, h⟩ := fl_bd_e h
    refine fl_callS (av := [.int x2, .int (1 : Int32), .int (40 : Int32)]) X hP hS hl.1 ms_X8_99 (c_X8_within l D ca ad hi x2 (1 : Int32) (40 : Int32) m2 _ _ hz7) (fl_fit_rm (by omega) (by decide)) rfl (Nat.le_of_ble_eq_true rfl) dX8_year_15 rfl (fun H locs hP hS => ?_)
    refine W.eq (g2 := F0 mm 18 ls [.int r5]) rfl ?_
    refine lv_if_eq (tgt := 30) hx hb dX8_year_18 (by decide) (fun c8 => ?_) (fun c8 => ?_)
    · replace h := fl_if_t h c8
      refine lv_iconst (v := (-1 : Int32)) hx hb dX8_year_30 (by decide) ?_
      exact fl_iret X hr hlk hP hS dX8_year_31 h
    · replace h := fl_if_f h c8
      refine lv_iload_n hx hb dX8_year_21 rfl (lv_at hl 3 rfl) ?_
      refine lv_iconst (v := (0 : Int32)) hx hb dX8_year_22 (by decide) ?_
      refine lv_iconst (v := (1 : Int32)) hx hb dX8_year_23 (by decide) ?_
      obtain ⟨r9, m10, hz11, h⟩ := fl_bd_e h
      refine fl_callS (av := [.int x3, .int (0 : Int32), .int (1 : Int32)]) X hP hS hl.1 ms_X8_99 (c_X8_within l D ca ad hi x3 (0 : Int32) (1 : Int32) m6 _ _ hz11) (fl_fit_rm (by omega) (by decide)) rfl (Nat.le_of_ble_eq_true rfl) dX8_year_24 rfl (fun H locs hP hS => ?_)
      refine W.eq (g2 := F0 mm 27 ls [.int r9]) rfl ?_
      refine lv_if_ne (tgt := 32) hx hb dX8_year_27 (by decide) (fun c12 => ?_) (fun c12 => ?_)
      · replace h := fl_if_f h c12
        refine lv_aload_n hx hb dX8_year_32 rfl (lv_at hl 0 rfl) ?_
        refine fl_getr X hP fk_X8_33 k1_0 rfl dX8_year_33 ?_
        refine lv_aload_n hx hb dX8_year_36 rfl (lv_at hl 0 rfl) ?_
        refine fl_getr X hP fk_X8_29 k1_0 rfl dX8_year_37 ?_
        obtain ⟨r13, m14, hz15, h⟩ := fl_bd_e h
        refine fl_callV (av := [.ref (ad 39)]) X hP hS hl.1 mv_X8_223 (c_X5_copy l D ca ad hi 45 st_45 39 st_39 m10 _ _ hz15) k1_45 (fl_fit_rm (by omega) (by decide)) rfl (Nat.le_of_ble_eq_true rfl) dX8_year_40 rfl (fun H locs hP hS => ?_)
        refine W.eq (g2 := F0 mm 43 ls []) rfl ?_
        refine lv_iconst (v := (0 : Int32)) hx hb dX8_year_43 (by decide) ?_
        refine lv_istore (lv' := [(4, .int (0 : Int32)), (0, .ref (ad 0)), (1, .int x1), (2, .int x2), (3, .int x3)]) hx hb dX8_year_44 hl (by decide) rfl (fun ls hl => ?_)
        refine lv_iconst (v := (0 : Int32)) hx hb dX8_year_46 (by decide) ?_
        refine lv_istore (lv' := [(5, .int (0 : Int32)), (4, .int (0 : Int32)), (0, .ref (ad 0)), (1, .int x1), (2, .int x2), (3, .int x3)]) hx hb dX8_year_47 hl (by decide) rfl (fun ls hl => ?_)
        refine lv_iconst (v := (0 : Int32)) hx hb dX8_year_49 (by decide) ?_
        refine lv_istore (lv' := [(6, .int (0 : Int32)), (5, .int (0 : Int32)), (4, .int (0 : Int32)), (0, .ref (ad 0)), (1, .int x1), (2, .int x2), (3, .int x3)]) hx hb dX8_year_50 hl (by decide) rfl (fun ls hl => ?_)
        exact ih_52 _ _ _ _ _ _ _ _ _ _ h hP hS (lv_sub hl [3, 4, 5, 6, 2, 1, 0] rfl)
      · replace h := fl_if_t h c12
        refine lv_iconst (v := (-1 : Int32)) hx hb dX8_year_30 (by decide) ?_
        exact fl_iret X hr hlk hP hS dX8_year_31 h

def f_X8_keep  (m : Mem) : Option (Int32 × Mem) :=
  if (m.1 26 2) = (2 : Int32) then (
    some ((-3 : Int32), m))
  else (
    fl_bd (f_X4_put_k 39 m) (fun r2 m3 =>
      some (m3.1 26 2, m3)))
set_option maxHeartbeats 4000000 in
set_option maxRecDepth 100000 in
theorem c_X8_keep (l : Launch) (D : va_G) (ca : Nat → ClassId) (ad : Nat → Nat) (hi : fl_inj L1 ad)  (m : Mem) (v' : Int32) (M' : Mem) (h : f_X8_keep  m = some (v', M')) : fl_M l L1 D ca ad yX8_keep cX8_keep 1 (some .int) 3 [.ref (ad 0)] m (some (.int v')) M' := by
  unfold f_X8_keep at h
  refine fl_ofW (by decide) hi (Nat.le_of_ble_eq_true rfl) ?_
  intro p e s mm args below meth c ls X hr hlk hP hl
  have hl : lv_has ls 1 [(0, .ref (ad 0))] := hl
  have X : fl_X p s mm args c cX8_keep 1 RX8 L1 D ca ad := X
  obtain ⟨hx, hb, hml, hown, hts, hE, -⟩ := id X
  have hS : va_S (fl_A L1 ad) s.heap s.heap [] := va_S.rf
  refine lv_aload_n hx hb dX8_keep_0 rfl (lv_at hl 0 rfl) ?_
  refine fl_getr X hP fk_X8_45 k1_0 rfl dX8_keep_1 ?_
  refine fl_geti X hP fk_X8_182 k1_26 rfl dX8_keep_4 ?_
  refine lv_iconst (v := (2 : Int32)) hx hb dX8_keep_7 (by decide) ?_
  refine lv_icmp_ne (tgt := 14) hx hb dX8_keep_8 (by decide) (fun c1 => ?_) (fun c1 => ?_)
  · replace h := fl_if_f h c1
    refine lv_aload_n hx hb dX8_keep_14 rfl (lv_at hl 0 rfl) ?_
    refine fl_getr X hP fk_X8_45 k1_0 rfl dX8_keep_15 ?_
    refine lv_aload_n hx hb dX8_keep_18 rfl (lv_at hl 0 rfl) ?_
    refine fl_getr X hP fk_X8_29 k1_0 rfl dX8_keep_19 ?_
    obtain ⟨r2, m3, hz4, h⟩ := fl_bd_e h
    refine fl_callV (av := [.ref (ad 39)]) X hP hS hl.1 mv_X8_163 (c_X4_put_k l D ca ad hi 39 st_39 m _ _ hz4) k1_26 (fl_fit_rm (by omega) (by decide)) rfl (Nat.le_of_ble_eq_true rfl) dX8_keep_22 rfl (fun H locs hP hS => ?_)
    refine W.eq (g2 := F0 mm 25 ls []) rfl ?_
    refine lv_aload_n hx hb dX8_keep_25 rfl (lv_at hl 0 rfl) ?_
    refine fl_getr X hP fk_X8_45 k1_0 rfl dX8_keep_26 ?_
    refine fl_geti X hP fk_X8_182 k1_26 rfl dX8_keep_29 ?_
    exact fl_iret X hr hlk hP hS dX8_keep_32 h
  · replace h := fl_if_t h c1
    refine lv_bipush (v := (-3 : Int32)) hx hb dX8_keep_11 (by decide) ?_
    exact fl_iret X hr hlk hP hS dX8_keep_13 h

def f_X8_back  (m : Mem) : Option (Int32 × Mem) :=
  fl_bd (f_X4_giveBack_k 39 m) (fun r1 m2 =>
    if r1 = 0 then (
      some ((-2 : Int32), m2))
    else (
      fl_lm (mI m2 24 2 (0 : Int32)) (fun m5 =>
        some (m5.1 26 2, m5))))
set_option maxHeartbeats 4000000 in
set_option maxRecDepth 100000 in
theorem c_X8_back (l : Launch) (D : va_G) (ca : Nat → ClassId) (ad : Nat → Nat) (hi : fl_inj L1 ad)  (m : Mem) (v' : Int32) (M' : Mem) (h : f_X8_back  m = some (v', M')) : fl_M l L1 D ca ad yX8_back cX8_back 1 (some .int) 3 [.ref (ad 0)] m (some (.int v')) M' := by
  unfold f_X8_back at h
  refine fl_ofW (by decide) hi (Nat.le_of_ble_eq_true rfl) ?_
  intro p e s mm args below meth c ls X hr hlk hP hl
  have hl : lv_has ls 1 [(0, .ref (ad 0))] := hl
  have X : fl_X p s mm args c cX8_back 1 RX8 L1 D ca ad := X
  obtain ⟨hx, hb, hml, hown, hts, hE, -⟩ := id X
  have hS : va_S (fl_A L1 ad) s.heap s.heap [] := va_S.rf
  refine lv_aload_n hx hb dX8_back_0 rfl (lv_at hl 0 rfl) ?_
  refine fl_getr X hP fk_X8_45 k1_0 rfl dX8_back_1 ?_
  refine lv_aload_n hx hb dX8_back_4 rfl (lv_at hl 0 rfl) ?_
  refine fl_getr X hP fk_X8_29 k1_0 rfl dX8_back_5 ?_
  obtain ⟨r1, m2, hz3, h⟩ := fl_bd_e h
  refine fl_callV (av := [.ref (ad 39)]) X hP hS hl.1 mv_X8_178 (c_X4_giveBack_k l D ca ad hi 39 st_39 m _ _ hz3) k1_26 (fl_fit_rm (by omega) (by decide)) rfl (Nat.le_of_ble_eq_true rfl) dX8_back_8 rfl (fun H locs hP hS => ?_)
  refine W.eq (g2 := F0 mm 11 ls [.int r1]) rfl ?_
  refine lv_if_ne (tgt := 17) hx hb dX8_back_11 (by decide) (fun c4 => ?_) (fun c4 => ?_)
  · replace h := fl_if_f h c4
    refine lv_aload_n hx hb dX8_back_17 rfl (lv_at hl 0 rfl) ?_
    refine fl_getr X hP fk_X8_41 k1_0 rfl dX8_back_18 ?_
    refine lv_iconst (v := (0 : Int32)) hx hb dX8_back_21 (by decide) ?_
    obtain ⟨m5, em6, h⟩ := fl_lm_e h
    refine fl_puti X hP hS pk_X8_182 k1_24 rfl rfl rfl dX8_back_22 (fun H locs hP hS => ?_)
    have hP : va_P D vwCl (fl_w L1 ca ad m5) H := by rw [em6]; exact hP
    refine lv_aload_n hx hb dX8_back_25 rfl (lv_at hl 0 rfl) ?_
    refine fl_getr X hP fk_X8_45 k1_0 rfl dX8_back_26 ?_
    refine fl_geti X hP fk_X8_182 k1_26 rfl dX8_back_29 ?_
    exact fl_iret X hr hlk hP hS dX8_back_32 h
  · replace h := fl_if_t h c4
    refine lv_bipush (v := (-2 : Int32)) hx hb dX8_back_14 (by decide) ?_
    exact fl_iret X hr hlk hP hS dX8_back_16 h

def f_X8_count (N : Nat) (x1 : Int32) (m : Mem) : Option (Int32 × Mem) :=
  if x1 = (0 : Int32) then (
    fl_bd (f_X0_places 4 m) (fun r1 m2 =>
      some (r1, m2)))
  else (
    if x1 = (1 : Int32) then (
      some (m.1 4 1, m))
    else (
      if x1 = (2 : Int32) then (
        some (m.1 4 2, m))
      else (
        if x1 = (3 : Int32) then (
          some (m.1 4 3, m))
        else (
          if x1 = (4 : Int32) then (
            some (m.1 39 0, m))
          else (
            if x1 = (5 : Int32) then (
              fl_bd (f_X8_restOf N 4 39 m) (fun r4 m5 =>
                some ((m.1 4 3) - r4, m5)))
            else (
              if x1 = (6 : Int32) then (
                fl_bd (f_X8_howManyWept N  m) (fun r7 m8 =>
                  some (r7, m8)))
              else (
                if x1 = (7 : Int32) then (
                  some (m.1 28 3, m))
                else (
                  if x1 = (8 : Int32) then (
                    some (m.1 24 2, m))
                  else (
                    if x1 = (9 : Int32) then (
                      some (m.1 26 2, m))
                    else (
                      if x1 = (10 : Int32) then (
                        some (m.1 1 1, m))
                      else (
                        some ((-1 : Int32), m))))))))))))
set_option maxHeartbeats 4000000 in
set_option maxRecDepth 100000 in
theorem c_X8_count (l : Launch) (D : va_G) (ca : Nat → ClassId) (ad : Nat → Nat) (hi : fl_inj L1 ad) (N : Nat) (x1 : Int32) (m : Mem) (v' : Int32) (M' : Mem) (h : f_X8_count N x1 m = some (v', M')) : fl_M l L1 D ca ad yX8_count cX8_count 2 (some .int) 3 [.ref (ad 0), .int x1] m (some (.int v')) M' := by
  unfold f_X8_count at h
  refine fl_ofW (by decide) hi (Nat.le_of_ble_eq_true rfl) ?_
  intro p e s mm args below meth c ls X hr hlk hP hl
  have hl : lv_has ls 2 [(0, .ref (ad 0)), (1, .int x1)] := hl
  have X : fl_X p s mm args c cX8_count 2 RX8 L1 D ca ad := X
  obtain ⟨hx, hb, hml, hown, hts, hE, -⟩ := id X
  have hS : va_S (fl_A L1 ad) s.heap s.heap [] := va_S.rf
  refine lv_iload_n hx hb dX8_count_0 rfl (lv_at hl 1 rfl) ?_
  by_cases c_0 : x1 = (0 : Int32)
  · replace h := fl_if_t h c_0
    refine lv_tableIn (off := 59) (tgt := 60) hx hb dX8_count_1 (by rw [c_0]; decide) (by rw [c_0]; decide) (by rw [c_0]; rfl) (by decide) ?_
    refine lv_aload_n hx hb dX8_count_60 rfl (lv_at hl 0 rfl) ?_
    refine fl_getr X hP fk_X8_19 k1_0 rfl dX8_count_61 ?_
    obtain ⟨r1, m2, hz3, h⟩ := fl_bd_e h
    refine fl_callV (av := []) X hP hS hl.1 mv_X8_109 (c_X0_places l D ca ad hi 4 ct_4 m _ _ hz3) k1_4 (fl_fit_rm (by omega) (by decide)) rfl (Nat.le_of_ble_eq_true rfl) dX8_count_64 rfl (fun H locs hP hS => ?_)
    refine W.eq (g2 := F0 mm 67 ls [.int r1]) rfl ?_
    exact fl_iret X hr hlk hP hS dX8_count_67 h
  · replace h := fl_if_f h c_0
    by_cases c_1 : x1 = (1 : Int32)
    · replace h := fl_if_t h c_1
      refine lv_tableIn (off := 67) (tgt := 68) hx hb dX8_count_1 (by rw [c_1]; decide) (by rw [c_1]; decide) (by rw [c_1]; rfl) (by decide) ?_
      refine lv_aload_n hx hb dX8_count_68 rfl (lv_at hl 0 rfl) ?_
      refine fl_getr X hP fk_X8_19 k1_0 rfl dX8_count_69 ?_
      refine fl_geti X hP fk_X8_286 k1_4 rfl dX8_count_72 ?_
      exact fl_iret X hr hlk hP hS dX8_count_75 h
    · replace h := fl_if_f h c_1
      by_cases c_2 : x1 = (2 : Int32)
      · replace h := fl_if_t h c_2
        refine lv_tableIn (off := 75) (tgt := 76) hx hb dX8_count_1 (by rw [c_2]; decide) (by rw [c_2]; decide) (by rw [c_2]; rfl) (by decide) ?_
        refine lv_aload_n hx hb dX8_count_76 rfl (lv_at hl 0 rfl) ?_
        refine fl_getr X hP fk_X8_19 k1_0 rfl dX8_count_77 ?_
        refine fl_geti X hP fk_X8_103 k1_4 rfl dX8_count_80 ?_
        exact fl_iret X hr hlk hP hS dX8_count_83 h
      · replace h := fl_if_f h c_2
        by_cases c_3 : x1 = (3 : Int32)
        · replace h := fl_if_t h c_3
          refine lv_tableIn (off := 83) (tgt := 84) hx hb dX8_count_1 (by rw [c_3]; decide) (by rw [c_3]; decide) (by rw [c_3]; rfl) (by decide) ?_
          refine lv_aload_n hx hb dX8_count_84 rfl (lv_at hl 0 rfl) ?_
          refine fl_getr X hP fk_X8_19 k1_0 rfl dX8_count_85 ?_
          refine fl_geti X hP fk_X8_106 k1_4 rfl dX8_count_88 ?_
          exact fl_iret X hr hlk hP hS dX8_count_91 h
        · replace h := fl_if_f h c_3
          by_cases c_4 : x1 = (4 : Int32)
          · replace h := fl_if_t h c_4
            refine lv_tableIn (off := 91) (tgt := 92) hx hb dX8_count_1 (by rw [c_4]; decide) (by rw [c_4]; decide) (by rw [c_4]; rfl) (by decide) ?_
            refine lv_aload_n hx hb dX8_count_92 rfl (lv_at hl 0 rfl) ?_
            refine fl_getr X hP fk_X8_29 k1_0 rfl dX8_count_93 ?_
            refine fl_geti X hP fk_X8_175 k1_39 rfl dX8_count_96 ?_
            exact fl_iret X hr hlk hP hS dX8_count_99 h
          · replace h := fl_if_f h c_4
            by_cases c_5 : x1 = (5 : Int32)
            · replace h := fl_if_t h c_5
              refine lv_tableIn (off := 99) (tgt := 100) hx hb dX8_count_1 (by rw [c_5]; decide) (by rw [c_5]; decide) (by rw [c_5]; rfl) (by decide) ?_
              refine lv_aload_n hx hb dX8_count_100 rfl (lv_at hl 0 rfl) ?_
              refine fl_getr X hP fk_X8_19 k1_0 rfl dX8_count_101 ?_
              refine fl_geti X hP fk_X8_106 k1_4 rfl dX8_count_104 ?_
              refine lv_aload_n hx hb dX8_count_107 rfl (lv_at hl 0 rfl) ?_
              refine fl_getr X hP fk_X8_19 k1_0 rfl dX8_count_108 ?_
              refine lv_aload_n hx hb dX8_count_111 rfl (lv_at hl 0 rfl) ?_
              refine fl_getr X hP fk_X8_29 k1_0 rfl dX8_count_112 ?_
              obtain ⟨r4, m5, hz6, h⟩ := fl_bd_e h
              refine fl_callS (av := [.ref (ad 4), .ref (ad 39)]) X hP hS hl.1 ms_X8_260 (c_X8_restOf l D ca ad hi N 4 ct_4 39 st_39 m _ _ hz6) (fl_fit_rm (by omega) (by decide)) rfl (Nat.le_of_ble_eq_true rfl) dX8_count_115 rfl (fun H locs hP hS => ?_)
              refine W.eq (g2 := F0 mm 118 ls [.int r4, .int (m.1 4 3)]) rfl ?_
              refine lv_isub hx hb dX8_count_118 ?_
              exact fl_iret X hr hlk hP hS dX8_count_119 h
            · replace h := fl_if_f h c_5
              by_cases c_6 : x1 = (6 : Int32)
              · replace h := fl_if_t h c_6
                refine lv_tableIn (off := 119) (tgt := 120) hx hb dX8_count_1 (by rw [c_6]; decide) (by rw [c_6]; decide) (by rw [c_6]; rfl) (by decide) ?_
                refine lv_aload_n hx hb dX8_count_120 rfl (lv_at hl 0 rfl) ?_
                obtain ⟨r7, m8, hz9, h⟩ := fl_bd_e h
                refine fl_callV (av := []) X hP hS hl.1 mv_X8_289 (c_X8_howManyWept l D ca ad hi N  m _ _ hz9) k1_0 (fl_fit_rm (by omega) (by decide)) rfl (Nat.le_of_ble_eq_true rfl) dX8_count_121 rfl (fun H locs hP hS => ?_)
                refine W.eq (g2 := F0 mm 124 ls [.int r7]) rfl ?_
                exact fl_iret X hr hlk hP hS dX8_count_124 h
              · replace h := fl_if_f h c_6
                by_cases c_7 : x1 = (7 : Int32)
                · replace h := fl_if_t h c_7
                  refine lv_tableIn (off := 124) (tgt := 125) hx hb dX8_count_1 (by rw [c_7]; decide) (by rw [c_7]; decide) (by rw [c_7]; rfl) (by decide) ?_
                  refine lv_aload_n hx hb dX8_count_125 rfl (lv_at hl 0 rfl) ?_
                  refine fl_getr X hP fk_X8_51 k1_0 rfl dX8_count_126 ?_
                  refine fl_geti X hP fk_X8_256 k1_28 rfl dX8_count_129 ?_
                  exact fl_iret X hr hlk hP hS dX8_count_132 h
                · replace h := fl_if_f h c_7
                  by_cases c_8 : x1 = (8 : Int32)
                  · replace h := fl_if_t h c_8
                    refine lv_tableIn (off := 132) (tgt := 133) hx hb dX8_count_1 (by rw [c_8]; decide) (by rw [c_8]; decide) (by rw [c_8]; rfl) (by decide) ?_
                    refine lv_aload_n hx hb dX8_count_133 rfl (lv_at hl 0 rfl) ?_
                    refine fl_getr X hP fk_X8_41 k1_0 rfl dX8_count_134 ?_
                    refine fl_geti X hP fk_X8_182 k1_24 rfl dX8_count_137 ?_
                    exact fl_iret X hr hlk hP hS dX8_count_140 h
                  · replace h := fl_if_f h c_8
                    by_cases c_9 : x1 = (9 : Int32)
                    · replace h := fl_if_t h c_9
                      refine lv_tableIn (off := 140) (tgt := 141) hx hb dX8_count_1 (by rw [c_9]; decide) (by rw [c_9]; decide) (by rw [c_9]; rfl) (by decide) ?_
                      refine lv_aload_n hx hb dX8_count_141 rfl (lv_at hl 0 rfl) ?_
                      refine fl_getr X hP fk_X8_45 k1_0 rfl dX8_count_142 ?_
                      refine fl_geti X hP fk_X8_182 k1_26 rfl dX8_count_145 ?_
                      exact fl_iret X hr hlk hP hS dX8_count_148 h
                    · replace h := fl_if_f h c_9
                      by_cases c_10 : x1 = (10 : Int32)
                      · replace h := fl_if_t h c_10
                        refine lv_tableIn (off := 148) (tgt := 149) hx hb dX8_count_1 (by rw [c_10]; decide) (by rw [c_10]; decide) (by rw [c_10]; rfl) (by decide) ?_
                        refine lv_aload_n hx hb dX8_count_149 rfl (lv_at hl 0 rfl) ?_
                        refine fl_getr X hP fk_X8_12 k1_0 rfl dX8_count_150 ?_
                        refine fl_geti X hP fk_X8_93 k1_1 rfl dX8_count_153 ?_
                        exact fl_iret X hr hlk hP hS dX8_count_156 h
                      · replace h := fl_if_f h c_10
                        refine lv_tableOut (tgt := 157) hx hb dX8_count_1 (by have e0 := lv_neT c_0 (a := 0) (by decide); have e1 := lv_neT c_1 (a := 1) (by decide); have e2 := lv_neT c_2 (a := 2) (by decide); have e3 := lv_neT c_3 (a := 3) (by decide); have e4 := lv_neT c_4 (a := 4) (by decide); have e5 := lv_neT c_5 (a := 5) (by decide); have e6 := lv_neT c_6 (a := 6) (by decide); have e7 := lv_neT c_7 (a := 7) (by decide); have e8 := lv_neT c_8 (a := 8) (by decide); have e9 := lv_neT c_9 (a := 9) (by decide); have e10 := lv_neT c_10 (a := 10) (by decide); omega) (by decide) ?_
                        refine lv_iconst (v := (-1 : Int32)) hx hb dX8_count_157 (by decide) ?_
                        exact fl_iret X hr hlk hP hS dX8_count_158 h
