def f_X8_within (x0 : Int32) (x1 : Int32) (x2 : Int32) (m : Mem) : Option (Int32 × Mem) :=
  if x0 < x1 then (
    some ((0 : Int32), m))
  else (
    if x2 < x0 then (
      some ((0 : Int32), m))
    else (
      some ((1 : Int32), m)))
set_option maxHeartbeats 4000000 in
set_option maxRecDepth 100000 in
theorem c_X8_within (l : Launch) (D : va_G) (ca : Nat → ClassId) (ad : Nat → Nat) (hi : fl_inj L1 ad) (x0 : Int32) (x1 : Int32) (x2 : Int32) (m : Mem) (v' : Int32) (M' : Mem) (h : f_X8_within x0 x1 x2 m = some (v', M')) : fl_M l L1 D ca ad yX8_within cX8_within 3 (some .boolean) 1 [.int x0, .int x1, .int x2] m (some (.int v')) M' := by
  unfold f_X8_within at h
  refine fl_ofW (by decide) hi (Nat.le_of_ble_eq_true rfl) ?_
  intro p e s mm args below meth c ls X hr hlk hP hl
  have hl : lv_has ls 3 [(0, .int x0), (1, .int x1), (2, .int x2)] := hl
  have X : fl_X p s mm args c cX8_within 3 RX8 L1 D ca ad := X
  obtain ⟨hx, hb, hml, hown, hts, hE, -⟩ := id X
  have hS : va_S (fl_A L1 ad) s.heap s.heap [] := va_S.rf
  refine lv_iload_n hx hb dX8_within_0 rfl (lv_at hl 0 rfl) ?_
  refine lv_iload_n hx hb dX8_within_1 rfl (lv_at hl 1 rfl) ?_
  refine lv_icmp_lt (tgt := 14) hx hb dX8_within_2 (by decide) (fun c1 => ?_) (fun c1 => ?_)
  · replace h := fl_if_t h c1
    refine lv_iconst (v := (0 : Int32)) hx hb dX8_within_14 (by decide) ?_
    exact fl_zret X hr hlk (by decide) hP hS dX8_within_15 h
  · replace h := fl_if_f h c1
    refine lv_iload_n hx hb dX8_within_5 rfl (lv_at hl 0 rfl) ?_
    refine lv_iload_n hx hb dX8_within_6 rfl (lv_at hl 2 rfl) ?_
    refine lv_icmp_gt (tgt := 14) hx hb dX8_within_7 (by decide) (fun c2 => ?_) (fun c2 => ?_)
    · replace h := fl_if_t h c2
      refine lv_iconst (v := (0 : Int32)) hx hb dX8_within_14 (by decide) ?_
      exact fl_zret X hr hlk (by decide) hP hS dX8_within_15 h
    · replace h := fl_if_f h c2
      refine lv_iconst (v := (1 : Int32)) hx hb dX8_within_10 (by decide) ?_
      refine lv_goto (tgt := 15) hx hb dX8_within_11 (by decide) ?_
      exact fl_zret X hr hlk (by decide) hP hS dX8_within_15 h

def f_X0_clear (K0 : Nat) (m : Mem) : Option (Int32 × Mem) :=
  fl_lm (mI m K0 0 (4 : Int32)) (fun m1 =>
    fl_lm (mI m1 K0 1 (4 : Int32)) (fun m3 =>
      fl_lm (mI m3 K0 2 (0 : Int32)) (fun m5 =>
        fl_lm (mI m5 K0 3 (0 : Int32)) (fun m7 =>
          some ((0 : Int32), m7)))))
set_option maxHeartbeats 4000000 in
set_option maxRecDepth 100000 in
theorem c_X0_clear (l : Launch) (D : va_G) (ca : Nat → ClassId) (ad : Nat → Nat) (hi : fl_inj L1 ad) (K0 : Nat) (hK0 : isCity K0) (m : Mem) (v' : Int32) (M' : Mem) (h : f_X0_clear K0 m = some (v', M')) : fl_M l L1 D ca ad yX0_clear cX0_clear 1 none 1 [.ref (ad K0)] m none M' := by
  unfold f_X0_clear at h
  refine fl_ofW (by decide) hi (Nat.le_of_ble_eq_true rfl) ?_
  intro p e s mm args below meth c ls X hr hlk hP hl
  have hl : lv_has ls 1 [(0, .ref (ad K0))] := hl
  have X : fl_X p s mm args c cX0_clear 1 RX0 L1 D ca ad := X
  obtain ⟨hx, hb, hml, hown, hts, hE, -⟩ := id X
  have hS : va_S (fl_A L1 ad) s.heap s.heap [] := va_S.rf
  refine lv_aload_n hx hb dX0_clear_0 rfl (lv_at hl 0 rfl) ?_
  refine lv_iconst (v := (4 : Int32)) hx hb dX0_clear_1 (by decide) ?_
  obtain ⟨m1, em2, h⟩ := fl_lm_e h
  refine fl_puti X hP hS pk_X0_43 hK0.1 rfl rfl rfl dX0_clear_2 (fun H locs hP hS => ?_)
  have hP : va_P D vwCl (fl_w L1 ca ad m1) H := by rw [em2]; exact hP
  refine lv_aload_n hx hb dX0_clear_5 rfl (lv_at hl 0 rfl) ?_
  refine lv_iconst (v := (4 : Int32)) hx hb dX0_clear_6 (by decide) ?_
  obtain ⟨m3, em4, h⟩ := fl_lm_e h
  refine fl_puti X hP hS pk_X0_47 hK0.1 rfl rfl rfl dX0_clear_7 (fun H locs hP hS => ?_)
  have hP : va_P D vwCl (fl_w L1 ca ad m3) H := by rw [em4]; exact hP
  refine lv_aload_n hx hb dX0_clear_10 rfl (lv_at hl 0 rfl) ?_
  refine lv_iconst (v := (0 : Int32)) hx hb dX0_clear_11 (by decide) ?_
  obtain ⟨m5, em6, h⟩ := fl_lm_e h
  refine fl_puti X hP hS pk_X0_50 hK0.1 rfl rfl rfl dX0_clear_12 (fun H locs hP hS => ?_)
  have hP : va_P D vwCl (fl_w L1 ca ad m5) H := by rw [em6]; exact hP
  refine lv_aload_n hx hb dX0_clear_15 rfl (lv_at hl 0 rfl) ?_
  refine lv_iconst (v := (0 : Int32)) hx hb dX0_clear_16 (by decide) ?_
  obtain ⟨m7, em8, h⟩ := fl_lm_e h
  refine fl_puti X hP hS pk_X0_53 hK0.1 rfl rfl rfl dX0_clear_17 (fun H locs hP hS => ?_)
  have hP : va_P D vwCl (fl_w L1 ca ad m7) H := by rw [em8]; exact hP
  exact fl_vret X hr hlk hP hS dX0_clear_20 h

def f_X0_places (K0 : Nat) (m : Mem) : Option (Int32 × Mem) :=
  some ((m.1 K0 0) * (m.1 K0 1), m)
set_option maxHeartbeats 4000000 in
set_option maxRecDepth 100000 in
theorem c_X0_places (l : Launch) (D : va_G) (ca : Nat → ClassId) (ad : Nat → Nat) (hi : fl_inj L1 ad) (K0 : Nat) (hK0 : isCity K0) (m : Mem) (v' : Int32) (M' : Mem) (h : f_X0_places K0 m = some (v', M')) : fl_M l L1 D ca ad yX0_places cX0_places 1 (some .int) 1 [.ref (ad K0)] m (some (.int v')) M' := by
  unfold f_X0_places at h
  refine fl_ofW (by decide) hi (Nat.le_of_ble_eq_true rfl) ?_
  intro p e s mm args below meth c ls X hr hlk hP hl
  have hl : lv_has ls 1 [(0, .ref (ad K0))] := hl
  have X : fl_X p s mm args c cX0_places 1 RX0 L1 D ca ad := X
  obtain ⟨hx, hb, hml, hown, hts, hE, -⟩ := id X
  have hS : va_S (fl_A L1 ad) s.heap s.heap [] := va_S.rf
  refine lv_aload_n hx hb dX0_places_0 rfl (lv_at hl 0 rfl) ?_
  refine fl_geti X hP fk_X0_43 hK0.1 rfl dX0_places_1 ?_
  refine lv_aload_n hx hb dX0_places_4 rfl (lv_at hl 0 rfl) ?_
  refine fl_geti X hP fk_X0_47 hK0.1 rfl dX0_places_5 ?_
  refine lv_imul hx hb dX0_places_8 ?_
  exact fl_iret X hr hlk hP hS dX0_places_9 h

def f_X0_hasPlace (K0 : Nat) (x1 : Int32) (m : Mem) : Option (Int32 × Mem) :=
  fl_bd (f_X0_places K0 m) (fun r1 m2 =>
    fl_bd (f_X8_within x1 (0 : Int32) (r1 - (1 : Int32)) m2) (fun r4 m5 =>
      fl_ck (r4 = 0 ∨ r4 = 1) (
        some (r4, m5))))
set_option maxHeartbeats 4000000 in
set_option maxRecDepth 100000 in
theorem c_X0_hasPlace (l : Launch) (D : va_G) (ca : Nat → ClassId) (ad : Nat → Nat) (hi : fl_inj L1 ad) (K0 : Nat) (hK0 : isCity K0) (x1 : Int32) (m : Mem) (v' : Int32) (M' : Mem) (h : f_X0_hasPlace K0 x1 m = some (v', M')) : fl_M l L1 D ca ad yX0_hasPlace cX0_hasPlace 2 (some .boolean) 2 [.ref (ad K0), .int x1] m (some (.int v')) M' := by
  unfold f_X0_hasPlace at h
  refine fl_ofW (by decide) hi (Nat.le_of_ble_eq_true rfl) ?_
  intro p e s mm args below meth c ls X hr hlk hP hl
  have hl : lv_has ls 2 [(0, .ref (ad K0)), (1, .int x1)] := hl
  have X : fl_X p s mm args c cX0_hasPlace 2 RX0 L1 D ca ad := X
  obtain ⟨hx, hb, hml, hown, hts, hE, -⟩ := id X
  have hS : va_S (fl_A L1 ad) s.heap s.heap [] := va_S.rf
  refine lv_iload_n hx hb dX0_hasPlace_0 rfl (lv_at hl 1 rfl) ?_
  refine lv_iconst (v := (0 : Int32)) hx hb dX0_hasPlace_1 (by decide) ?_
  refine lv_aload_n hx hb dX0_hasPlace_2 rfl (lv_at hl 0 rfl) ?_
  obtain ⟨r1, m2, hz3, h⟩ := fl_bd_e h
  refine fl_callV (av := []) X hP hS hl.1 mv_X0_64 (c_X0_places l D ca ad hi K0 hK0 m _ _ hz3) hK0.1 (fl_fit_rm (by omega) (by decide)) rfl (Nat.le_of_ble_eq_true rfl) dX0_hasPlace_3 rfl (fun H locs hP hS => ?_)
  refine W.eq (g2 := F0 mm 6 ls [.int r1, .int (0 : Int32), .int x1]) rfl ?_
  refine lv_iconst (v := (1 : Int32)) hx hb dX0_hasPlace_6 (by decide) ?_
  refine lv_isub hx hb dX0_hasPlace_7 ?_
  obtain ⟨r4, m5, hz6, h⟩ := fl_bd_e h
  refine fl_callN (av := [.int x1, .int (0 : Int32), .int (r1 - (1 : Int32))]) X hP hS hl.1 mn_X0_56 (c_X8_within l D ca ad hi x1 (0 : Int32) (r1 - (1 : Int32)) m2 _ _ hz6) (fl_fit_rm (by omega) (by decide)) rfl (Nat.le_of_ble_eq_true rfl) dX0_hasPlace_8 rfl (fun H locs hP hS => ?_)
  refine W.eq (g2 := F0 mm 11 ls [.int r4]) rfl ?_
  obtain ⟨hk7, h⟩ := fl_ck_e h
  exact fl_zret X hr hlk hk7 hP hS dX0_hasPlace_11 h

def f_X0_hasCab (K0 : Nat) (x1 : Int32) (m : Mem) : Option (Int32 × Mem) :=
  fl_bd (f_X8_within x1 (0 : Int32) ((m.1 K0 2) - (1 : Int32)) m) (fun r1 m2 =>
    fl_ck (r1 = 0 ∨ r1 = 1) (
      some (r1, m2)))
set_option maxHeartbeats 4000000 in
set_option maxRecDepth 100000 in
theorem c_X0_hasCab (l : Launch) (D : va_G) (ca : Nat → ClassId) (ad : Nat → Nat) (hi : fl_inj L1 ad) (K0 : Nat) (hK0 : isCity K0) (x1 : Int32) (m : Mem) (v' : Int32) (M' : Mem) (h : f_X0_hasCab K0 x1 m = some (v', M')) : fl_M l L1 D ca ad yX0_hasCab cX0_hasCab 2 (some .boolean) 2 [.ref (ad K0), .int x1] m (some (.int v')) M' := by
  unfold f_X0_hasCab at h
  refine fl_ofW (by decide) hi (Nat.le_of_ble_eq_true rfl) ?_
  intro p e s mm args below meth c ls X hr hlk hP hl
  have hl : lv_has ls 2 [(0, .ref (ad K0)), (1, .int x1)] := hl
  have X : fl_X p s mm args c cX0_hasCab 2 RX0 L1 D ca ad := X
  obtain ⟨hx, hb, hml, hown, hts, hE, -⟩ := id X
  have hS : va_S (fl_A L1 ad) s.heap s.heap [] := va_S.rf
  refine lv_iload_n hx hb dX0_hasCab_0 rfl (lv_at hl 1 rfl) ?_
  refine lv_iconst (v := (0 : Int32)) hx hb dX0_hasCab_1 (by decide) ?_
  refine lv_aload_n hx hb dX0_hasCab_2 rfl (lv_at hl 0 rfl) ?_
  refine fl_geti X hP fk_X0_50 hK0.1 rfl dX0_hasCab_3 ?_
  refine lv_iconst (v := (1 : Int32)) hx hb dX0_hasCab_6 (by decide) ?_
  refine lv_isub hx hb dX0_hasCab_7 ?_
  obtain ⟨r1, m2, hz3, h⟩ := fl_bd_e h
  refine fl_callN (av := [.int x1, .int (0 : Int32), .int ((m.1 K0 2) - (1 : Int32))]) X hP hS hl.1 mn_X0_56 (c_X8_within l D ca ad hi x1 (0 : Int32) ((m.1 K0 2) - (1 : Int32)) m _ _ hz3) (fl_fit_rm (by omega) (by decide)) rfl (Nat.le_of_ble_eq_true rfl) dX0_hasCab_8 rfl (fun H locs hP hS => ?_)
  refine W.eq (g2 := F0 mm 11 ls [.int r1]) rfl ?_
  obtain ⟨hk4, h⟩ := fl_ck_e h
  exact fl_zret X hr hlk hk4 hP hS dX0_hasCab_11 h

def f_X0_hasFare (K0 : Nat) (x1 : Int32) (m : Mem) : Option (Int32 × Mem) :=
  fl_bd (f_X8_within x1 (0 : Int32) ((m.1 K0 3) - (1 : Int32)) m) (fun r1 m2 =>
    fl_ck (r1 = 0 ∨ r1 = 1) (
      some (r1, m2)))
set_option maxHeartbeats 4000000 in
set_option maxRecDepth 100000 in
theorem c_X0_hasFare (l : Launch) (D : va_G) (ca : Nat → ClassId) (ad : Nat → Nat) (hi : fl_inj L1 ad) (K0 : Nat) (hK0 : isCity K0) (x1 : Int32) (m : Mem) (v' : Int32) (M' : Mem) (h : f_X0_hasFare K0 x1 m = some (v', M')) : fl_M l L1 D ca ad yX0_hasFare cX0_hasFare 2 (some .boolean) 2 [.ref (ad K0), .int x1] m (some (.int v')) M' := by
  unfold f_X0_hasFare at h
  refine fl_ofW (by decide) hi (Nat.le_of_ble_eq_true rfl) ?_
  intro p e s mm args below meth c ls X hr hlk hP hl
  have hl : lv_has ls 2 [(0, .ref (ad K0)), (1, .int x1)] := hl
  have X : fl_X p s mm args c cX0_hasFare 2 RX0 L1 D ca ad := X
  obtain ⟨hx, hb, hml, hown, hts, hE, -⟩ := id X
  have hS : va_S (fl_A L1 ad) s.heap s.heap [] := va_S.rf
  refine lv_iload_n hx hb dX0_hasFare_0 rfl (lv_at hl 1 rfl) ?_
  refine lv_iconst (v := (0 : Int32)) hx hb dX0_hasFare_1 (by decide) ?_
  refine lv_aload_n hx hb dX0_hasFare_2 rfl (lv_at hl 0 rfl) ?_
  refine fl_geti X hP fk_X0_53 hK0.1 rfl dX0_hasFare_3 ?_
  refine lv_iconst (v := (1 : Int32)) hx hb dX0_hasFare_6 (by decide) ?_
  refine lv_isub hx hb dX0_hasFare_7 ?_
  obtain ⟨r1, m2, hz3, h⟩ := fl_bd_e h
  refine fl_callN (av := [.int x1, .int (0 : Int32), .int ((m.1 K0 3) - (1 : Int32))]) X hP hS hl.1 mn_X0_56 (c_X8_within l D ca ad hi x1 (0 : Int32) ((m.1 K0 3) - (1 : Int32)) m _ _ hz3) (fl_fit_rm (by omega) (by decide)) rfl (Nat.le_of_ble_eq_true rfl) dX0_hasFare_8 rfl (fun H locs hP hS => ?_)
  refine W.eq (g2 := F0 mm 11 ls [.int r1]) rfl ?_
  obtain ⟨hk4, h⟩ := fl_ck_e h
  exact fl_zret X hr hlk hk4 hP hS dX0_hasFare_11 h

def f_X0_build (K0 : Nat) (x1 : Int32) (x2 : Int32) (m : Mem) : Option (Int32 × Mem) :=
  if 0 < (m.1 K0 2) then (
    some ((0 : Int32), m))
  else (
    if 0 < (m.1 K0 3) then (
      some ((0 : Int32), m))
    else (
      fl_bd (f_X8_within x1 (1 : Int32) (6 : Int32) m) (fun r3 m4 =>
        if r3 = 0 then (
          some ((0 : Int32), m4))
        else (
          fl_bd (f_X8_within x2 (1 : Int32) (6 : Int32) m4) (fun r7 m8 =>
            if r7 = 0 then (
              some ((0 : Int32), m8))
            else (
              fl_lm (mI m8 K0 0 x1) (fun m11 =>
                fl_lm (mI m11 K0 1 x2) (fun m13 =>
                  some ((1 : Int32), m13)))))))))
set_option maxHeartbeats 4000000 in
set_option maxRecDepth 100000 in
theorem c_X0_build (l : Launch) (D : va_G) (ca : Nat → ClassId) (ad : Nat → Nat) (hi : fl_inj L1 ad) (K0 : Nat) (hK0 : isCity K0) (x1 : Int32) (x2 : Int32) (m : Mem) (v' : Int32) (M' : Mem) (h : f_X0_build K0 x1 x2 m = some (v', M')) : fl_M l L1 D ca ad yX0_build cX0_build 3 (some .boolean) 2 [.ref (ad K0), .int x1, .int x2] m (some (.int v')) M' := by
  unfold f_X0_build at h
  refine fl_ofW (by decide) hi (Nat.le_of_ble_eq_true rfl) ?_
  intro p e s mm args below meth c ls X hr hlk hP hl
  have hl : lv_has ls 3 [(0, .ref (ad K0)), (1, .int x1), (2, .int x2)] := hl
  have X : fl_X p s mm args c cX0_build 3 RX0 L1 D ca ad := X
  obtain ⟨hx, hb, hml, hown, hts, hE, -⟩ := id X
  have hS : va_S (fl_A L1 ad) s.heap s.heap [] := va_S.rf
  refine lv_aload_n hx hb dX0_build_0 rfl (lv_at hl 0 rfl) ?_
  refine fl_geti X hP fk_X0_50 hK0.1 rfl dX0_build_1 ?_
  refine lv_if_gt (tgt := 34) hx hb dX0_build_4 (by decide) (fun c1 => ?_) (fun c1 => ?_)
  · replace h := fl_if_t h c1
    refine lv_iconst (v := (0 : Int32)) hx hb dX0_build_34 (by decide) ?_
    exact fl_zret X hr hlk (by decide) hP hS dX0_build_35 h
  · replace h := fl_if_f h c1
    refine lv_aload_n hx hb dX0_build_7 rfl (lv_at hl 0 rfl) ?_
    refine fl_geti X hP fk_X0_53 hK0.1 rfl dX0_build_8 ?_
    refine lv_if_gt (tgt := 34) hx hb dX0_build_11 (by decide) (fun c2 => ?_) (fun c2 => ?_)
    · replace h := fl_if_t h c2
      refine lv_iconst (v := (0 : Int32)) hx hb dX0_build_34 (by decide) ?_
      exact fl_zret X hr hlk (by decide) hP hS dX0_build_35 h
    · replace h := fl_if_f h c2
      refine lv_iload_n hx hb dX0_build_14 rfl (lv_at hl 1 rfl) ?_
      refine lv_iconst (v := (1 : Int32)) hx hb dX0_build_15 (by decide) ?_
      refine lv_bipush (v := (6 : Int32)) hx hb dX0_build_16 (by decide) ?_
      obtain ⟨r3, m4, hz5, h⟩ := fl_bd_e h
      refine fl_callN (av := [.int x1, .int (1 : Int32), .int (6 : Int32)]) X hP hS hl.1 mn_X0_56 (c_X8_within l D ca ad hi x1 (1 : Int32) (6 : Int32) m _ _ hz5) (fl_fit_rm (by omega) (by decide)) rfl (Nat.le_of_ble_eq_true rfl) dX0_build_18 rfl (fun H locs hP hS => ?_)
      refine W.eq (g2 := F0 mm 21 ls [.int r3]) rfl ?_
      refine lv_if_eq (tgt := 34) hx hb dX0_build_21 (by decide) (fun c6 => ?_) (fun c6 => ?_)
      · replace h := fl_if_t h c6
        refine lv_iconst (v := (0 : Int32)) hx hb dX0_build_34 (by decide) ?_
        exact fl_zret X hr hlk (by decide) hP hS dX0_build_35 h
      · replace h := fl_if_f h c6
        refine lv_iload_n hx hb dX0_build_24 rfl (lv_at hl 2 rfl) ?_
        refine lv_iconst (v := (1 : Int32)) hx hb dX0_build_25 (by decide) ?_
        refine lv_bipush (v := (6 : Int32)) hx hb dX0_build_26 (by decide) ?_
        obtain ⟨r7, m8, hz9, h⟩ := fl_bd_e h
        refine fl_callN (av := [.int x2, .int (1 : Int32), .int (6 : Int32)]) X hP hS hl.1 mn_X0_56 (c_X8_within l D ca ad hi x2 (1 : Int32) (6 : Int32) m4 _ _ hz9) (fl_fit_rm (by omega) (by decide)) rfl (Nat.le_of_ble_eq_true rfl) dX0_build_28 rfl (fun H locs hP hS => ?_)
        refine W.eq (g2 := F0 mm 31 ls [.int r7]) rfl ?_
        refine lv_if_ne (tgt := 36) hx hb dX0_build_31 (by decide) (fun c10 => ?_) (fun c10 => ?_)
        · replace h := fl_if_f h c10
          refine lv_aload_n hx hb dX0_build_36 rfl (lv_at hl 0 rfl) ?_
          refine lv_iload_n hx hb dX0_build_37 rfl (lv_at hl 1 rfl) ?_
          obtain ⟨m11, em12, h⟩ := fl_lm_e h
          refine fl_puti X hP hS pk_X0_43 hK0.1 rfl rfl rfl dX0_build_38 (fun H locs hP hS => ?_)
          have hP : va_P D vwCl (fl_w L1 ca ad m11) H := by rw [em12]; exact hP
          refine lv_aload_n hx hb dX0_build_41 rfl (lv_at hl 0 rfl) ?_
          refine lv_iload_n hx hb dX0_build_42 rfl (lv_at hl 2 rfl) ?_
          obtain ⟨m13, em14, h⟩ := fl_lm_e h
          refine fl_puti X hP hS pk_X0_47 hK0.1 rfl rfl rfl dX0_build_43 (fun H locs hP hS => ?_)
          have hP : va_P D vwCl (fl_w L1 ca ad m13) H := by rw [em14]; exact hP
          refine lv_iconst (v := (1 : Int32)) hx hb dX0_build_46 (by decide) ?_
          exact fl_zret X hr hlk (by decide) hP hS dX0_build_47 h
        · replace h := fl_if_t h c10
          refine lv_iconst (v := (0 : Int32)) hx hb dX0_build_34 (by decide) ?_
          exact fl_zret X hr hlk (by decide) hP hS dX0_build_35 h

def J_X0_addCab_74 (K0 : Nat) (t1 : Int32) (t2 : Int32) (m : Mem) : Option (Int32 × Mem) :=
  fl_ck (0 ≤ t1.toInt ∧ t1.toInt < 3) (
    fl_lm (mI m (K0 + 3) (t1.toNatClampNeg) t2) (fun m22 =>
      fl_lm (mI m22 K0 2 ((m22.1 K0 2) + (1 : Int32))) (fun m24 =>
        some ((1 : Int32), m24))))
def f_X0_addCab (K0 : Nat) (x1 : Int32) (x2 : Int32) (x3 : Int32) (m : Mem) : Option (Int32 × Mem) :=
  if (3 : Int32) ≤ (m.1 K0 2) then (
    some ((0 : Int32), m))
  else (
    fl_bd (f_X8_within x1 (0 : Int32) (2 : Int32) m) (fun r2 m3 =>
      if r2 = 0 then (
        some ((0 : Int32), m3))
      else (
        fl_bd (f_X0_hasPlace K0 x2 m3) (fun r6 m7 =>
          if r6 = 0 then (
            some ((0 : Int32), m7))
          else (
            fl_bd (f_X0_hasPlace K0 x3 m7) (fun r10 m11 =>
              if r10 = 0 then (
                some ((0 : Int32), m11))
              else (
                fl_ck (0 ≤ (m11.1 K0 2).toInt ∧ (m11.1 K0 2).toInt < 3) (
                  fl_lm (mI m11 (K0 + 1) ((m11.1 K0 2).toNatClampNeg) x1) (fun m15 =>
                    fl_ck (0 ≤ (m15.1 K0 2).toInt ∧ (m15.1 K0 2).toInt < 3) (
                      fl_lm (mI m15 (K0 + 2) ((m15.1 K0 2).toNatClampNeg) x2) (fun m18 =>
                        if x3 = x2 then (
                          J_X0_addCab_74 K0 (m18.1 K0 2) (-4 : Int32) m18)
                        else (
                          J_X0_addCab_74 K0 (m18.1 K0 2) x3 m18))))))))))))
set_option maxHeartbeats 4000000 in
set_option maxRecDepth 100000 in
theorem c_X0_addCab (l : Launch) (D : va_G) (ca : Nat → ClassId) (ad : Nat → Nat) (hi : fl_inj L1 ad) (K0 : Nat) (hK0 : isCity K0) (x1 : Int32) (x2 : Int32) (x3 : Int32) (m : Mem) (v' : Int32) (M' : Mem) (h : f_X0_addCab K0 x1 x2 x3 m = some (v', M')) : fl_M l L1 D ca ad yX0_addCab cX0_addCab 4 (some .boolean) 3 [.ref (ad K0), .int x1, .int x2, .int x3] m (some (.int v')) M' := by
  unfold f_X0_addCab at h
  refine fl_ofW (by decide) hi (Nat.le_of_ble_eq_true rfl) ?_
  intro p e s mm args below meth c ls X hr hlk hP hl
  have hl : lv_has ls 4 [(0, .ref (ad K0)), (1, .int x1), (2, .int x2), (3, .int x3)] := hl
  have X : fl_X p s mm args c cX0_addCab 4 RX0 L1 D ca ad := X
  obtain ⟨hx, hb, hml, hown, hts, hE, -⟩ := id X
  have hS : va_S (fl_A L1 ad) s.heap s.heap [] := va_S.rf
  have j_74 : ∀ (t1 : Int32) (t2 : Int32) (m : Mem) (H : Heap) (locs : List Loc) (ls : Array Slot), J_X0_addCab_74 K0 t1 t2 m = some (v', M') → va_P D vwCl (fl_w L1 ca ad m) H → va_S (fl_A L1 ad) s.heap H locs → lv_has ls 4 [(0, .ref (ad K0))] → W p l e (fl_rm 3) s mm args below meth c H locs 0 0 (MQ below (fl_Q L1 D ca ad (some (.int v')) M') args s 0 0 (fl_A L1 ad)) (F0 mm 74 ls [.int t2, .int t1, .ref (ad (K0 + 3))]) := by
    intro t1 t2 m H locs ls h hP hS hl
    unfold J_X0_addCab_74 at h
    obtain ⟨hk21, h⟩ := fl_ck_e h
    obtain ⟨m22, em23, h⟩ := fl_lm_e h
    refine fl_iast X hP hS hK0.2.2.2.1 hk21 dX0_addCab_74 (fun H locs hP hS => ?_)
    have hP : va_P D vwCl (fl_w L1 ca ad m22) H := by rw [em23]; exact hP
    refine lv_aload_n hx hb dX0_addCab_75 rfl (lv_at hl 0 rfl) ?_
    refine lv_dup hx hb dX0_addCab_76 rfl ?_
    refine fl_geti X hP fk_X0_50 hK0.1 rfl dX0_addCab_77 ?_
    refine lv_iconst (v := (1 : Int32)) hx hb dX0_addCab_80 (by decide) ?_
    refine lv_iadd hx hb dX0_addCab_81 ?_
    obtain ⟨m24, em25, h⟩ := fl_lm_e h
    refine fl_puti X hP hS pk_X0_50 hK0.1 rfl rfl rfl dX0_addCab_82 (fun H locs hP hS => ?_)
    have hP : va_P D vwCl (fl_w L1 ca ad m24) H := by rw [em25]; exact hP
    refine lv_iconst (v := (1 : Int32)) hx hb dX0_addCab_85 (by decide) ?_
    exact fl_zret X hr hlk (by decide) hP hS dX0_addCab_86 h
  refine lv_aload_n hx hb dX0_addCab_0 rfl (lv_at hl 0 rfl) ?_
  refine fl_geti X hP fk_X0_50 hK0.1 rfl dX0_addCab_1 ?_
  refine lv_iconst (v := (3 : Int32)) hx hb dX0_addCab_4 (by decide) ?_
  refine lv_icmp_ge (tgt := 33) hx hb dX0_addCab_5 (by decide) (fun c1 => ?_) (fun c1 => ?_)
  · replace h := fl_if_t h c1
    refine lv_iconst (v := (0 : Int32)) hx hb dX0_addCab_33 (by decide) ?_
    exact fl_zret X hr hlk (by decide) hP hS dX0_addCab_34 h
  · replace h := fl_if_f h c1
    refine lv_iload_n hx hb dX0_addCab_8 rfl (lv_at hl 1 rfl) ?_
    refine lv_iconst (v := (0 : Int32)) hx hb dX0_addCab_9 (by decide) ?_
    refine lv_iconst (v := (2 : Int32)) hx hb dX0_addCab_10 (by decide) ?_
    obtain ⟨r2, m3, hz4, h⟩ := fl_bd_e h
    refine fl_callN (av := [.int x1, .int (0 : Int32), .int (2 : Int32)]) X hP hS hl.1 mn_X0_56 (c_X8_within l D ca ad hi x1 (0 : Int32) (2 : Int32) m _ _ hz4) (fl_fit_rm (by omega) (by decide)) rfl (Nat.le_of_ble_eq_true rfl) dX0_addCab_11 rfl (fun H locs hP hS => ?_)
    refine W.eq (g2 := F0 mm 14 ls [.int r2]) rfl ?_
    refine lv_if_eq (tgt := 33) hx hb dX0_addCab_14 (by decide) (fun c5 => ?_) (fun c5 => ?_)
    · replace h := fl_if_t h c5
      refine lv_iconst (v := (0 : Int32)) hx hb dX0_addCab_33 (by decide) ?_
      exact fl_zret X hr hlk (by decide) hP hS dX0_addCab_34 h
    · replace h := fl_if_f h c5
      refine lv_aload_n hx hb dX0_addCab_17 rfl (lv_at hl 0 rfl) ?_
      refine lv_iload_n hx hb dX0_addCab_18 rfl (lv_at hl 2 rfl) ?_
      obtain ⟨r6, m7, hz8, h⟩ := fl_bd_e h
      refine fl_callV (av := [.int x2]) X hP hS hl.1 mv_X0_60 (c_X0_hasPlace l D ca ad hi K0 hK0 x2 m3 _ _ hz8) hK0.1 (fl_fit_rm (by omega) (by decide)) rfl (Nat.le_of_ble_eq_true rfl) dX0_addCab_19 rfl (fun H locs hP hS => ?_)
      refine W.eq (g2 := F0 mm 22 ls [.int r6]) rfl ?_
      refine lv_if_eq (tgt := 33) hx hb dX0_addCab_22 (by decide) (fun c9 => ?_) (fun c9 => ?_)
      · replace h := fl_if_t h c9
        refine lv_iconst (v := (0 : Int32)) hx hb dX0_addCab_33 (by decide) ?_
        exact fl_zret X hr hlk (by decide) hP hS dX0_addCab_34 h
      · replace h := fl_if_f h c9
        refine lv_aload_n hx hb dX0_addCab_25 rfl (lv_at hl 0 rfl) ?_
        refine lv_iload_n hx hb dX0_addCab_26 rfl (lv_at hl 3 rfl) ?_
        obtain ⟨r10, m11, hz12, h⟩ := fl_bd_e h
        refine fl_callV (av := [.int x3]) X hP hS hl.1 mv_X0_60 (c_X0_hasPlace l D ca ad hi K0 hK0 x3 m7 _ _ hz12) hK0.1 (fl_fit_rm (by omega) (by decide)) rfl (Nat.le_of_ble_eq_true rfl) dX0_addCab_27 rfl (fun H locs hP hS => ?_)
        refine W.eq (g2 := F0 mm 30 ls [.int r10]) rfl ?_
        refine lv_if_ne (tgt := 35) hx hb dX0_addCab_30 (by decide) (fun c13 => ?_) (fun c13 => ?_)
        · replace h := fl_if_f h c13
          refine lv_aload_n hx hb dX0_addCab_35 rfl (lv_at hl 0 rfl) ?_
          refine fl_getr X hP fk_X0_9 hK0.1 rfl dX0_addCab_36 ?_
          refine lv_aload_n hx hb dX0_addCab_39 rfl (lv_at hl 0 rfl) ?_
          refine fl_geti X hP fk_X0_50 hK0.1 rfl dX0_addCab_40 ?_
          refine lv_iload_n hx hb dX0_addCab_43 rfl (lv_at hl 1 rfl) ?_
          obtain ⟨hk14, h⟩ := fl_ck_e h
          obtain ⟨m15, em16, h⟩ := fl_lm_e h
          refine fl_iast X hP hS hK0.2.1 hk14 dX0_addCab_44 (fun H locs hP hS => ?_)
          have hP : va_P D vwCl (fl_w L1 ca ad m15) H := by rw [em16]; exact hP
          refine lv_aload_n hx hb dX0_addCab_45 rfl (lv_at hl 0 rfl) ?_
          refine fl_getr X hP fk_X0_15 hK0.1 rfl dX0_addCab_46 ?_
          refine lv_aload_n hx hb dX0_addCab_49 rfl (lv_at hl 0 rfl) ?_
          refine fl_geti X hP fk_X0_50 hK0.1 rfl dX0_addCab_50 ?_
          refine lv_iload_n hx hb dX0_addCab_53 rfl (lv_at hl 2 rfl) ?_
          obtain ⟨hk17, h⟩ := fl_ck_e h
          obtain ⟨m18, em19, h⟩ := fl_lm_e h
          refine fl_iast X hP hS hK0.2.2.1 hk17 dX0_addCab_54 (fun H locs hP hS => ?_)
          have hP : va_P D vwCl (fl_w L1 ca ad m18) H := by rw [em19]; exact hP
          refine lv_aload_n hx hb dX0_addCab_55 rfl (lv_at hl 0 rfl) ?_
          refine fl_getr X hP fk_X0_18 hK0.1 rfl dX0_addCab_56 ?_
          refine lv_aload_n hx hb dX0_addCab_59 rfl (lv_at hl 0 rfl) ?_
          refine fl_geti X hP fk_X0_50 hK0.1 rfl dX0_addCab_60 ?_
          refine lv_iload_n hx hb dX0_addCab_63 rfl (lv_at hl 3 rfl) ?_
          refine lv_iload_n hx hb dX0_addCab_64 rfl (lv_at hl 2 rfl) ?_
          refine lv_icmp_ne (tgt := 73) hx hb dX0_addCab_65 (by decide) (fun c20 => ?_) (fun c20 => ?_)
          · replace h := fl_if_f h c20
            refine lv_iload_n hx hb dX0_addCab_73 rfl (lv_at hl 3 rfl) ?_
            exact j_74 _ _ _ _ _ _ h hP hS (lv_sub hl [0] rfl)
          · replace h := fl_if_t h c20
            refine lv_bipush (v := (-4 : Int32)) hx hb dX0_addCab_68 (by decide) ?_
            refine lv_goto (tgt := 74) hx hb dX0_addCab_70 (by decide) ?_
            exact j_74 _ _ _ _ _ _ h hP hS (lv_sub hl [0] rfl)
        · replace h := fl_if_t h c13
          refine lv_iconst (v := (0 : Int32)) hx hb dX0_addCab_33 (by decide) ?_
          exact fl_zret X hr hlk (by decide) hP hS dX0_addCab_34 h

def J_X0_addFare_53 (K0 : Nat) (t0 : Int32) (m : Mem) : Option (Int32 × Mem) :=
  if t0 = 0 then (
    some ((0 : Int32), m))
  else (
    fl_bd (f_X8_within (m.1 3 3) (0 : Int32) (99 : Int32) m) (fun r16 m17 =>
      if r16 = 0 then (
        some ((0 : Int32), m17))
      else (
        fl_bd (f_X8_within (m17.1 3 4) (0 : Int32) (60 : Int32) m17) (fun r20 m21 =>
          if r20 = 0 then (
            some ((0 : Int32), m21))
          else (
            fl_ck (0 ≤ (m21.1 K0 3).toInt ∧ (m21.1 K0 3).toInt < 7) (
              fl_lm (mI m21 (K0 + 4) ((m21.1 K0 3).toNatClampNeg) (m21.1 3 0)) (fun m25 =>
                fl_ck (0 ≤ (m25.1 K0 3).toInt ∧ (m25.1 K0 3).toInt < 7) (
                  fl_lm (mI m25 (K0 + 5) ((m25.1 K0 3).toNatClampNeg) (m25.1 3 1)) (fun m28 =>
                    fl_ck (0 ≤ (m28.1 K0 3).toInt ∧ (m28.1 K0 3).toInt < 7) (
                      fl_lm (mI m28 (K0 + 6) ((m28.1 K0 3).toNatClampNeg) (m28.1 3 2)) (fun m31 =>
                        fl_ck (0 ≤ (m31.1 K0 3).toInt ∧ (m31.1 K0 3).toInt < 7) (
                          fl_lm (mI m31 (K0 + 7) ((m31.1 K0 3).toNatClampNeg) (m31.1 3 3)) (fun m34 =>
                            fl_ck (0 ≤ (m34.1 K0 3).toInt ∧ (m34.1 K0 3).toInt < 7) (
                              fl_lm (mI m34 (K0 + 8) ((m34.1 K0 3).toNatClampNeg) (m34.1 3 4)) (fun m37 =>
                                fl_lm (mI m37 K0 3 ((m37.1 K0 3) + (1 : Int32))) (fun m39 =>
                                  some ((1 : Int32), m39)))))))))))))))))
def J_X0_addFare_52 (K0 : Nat)  (m : Mem) : Option (Int32 × Mem) :=
  J_X0_addFare_53 K0 (0 : Int32) m
def f_X0_addFare (K0 : Nat) (m : Mem) : Option (Int32 × Mem) :=
  if (7 : Int32) ≤ (m.1 K0 3) then (
    some ((0 : Int32), m))
  else (
    if (5 : Int32) ≤ (5 : Int32) then (
      fl_bd (f_X8_within (m.1 3 0) (0 : Int32) (3 : Int32) m) (fun r3 m4 =>
        if r3 = 0 then (
          J_X0_addFare_52 K0  m4)
        else (
          fl_bd (f_X0_hasPlace K0 (m4.1 3 1) m4) (fun r7 m8 =>
            if r7 = 0 then (
              J_X0_addFare_52 K0  m8)
            else (
              fl_bd (f_X0_hasPlace K0 (m8.1 3 2) m8) (fun r11 m12 =>
                if r11 = 0 then (
                  J_X0_addFare_52 K0  m12)
                else (
                  J_X0_addFare_53 K0 (1 : Int32) m12)))))))
    else (
      some ((0 : Int32), m)))
set_option maxHeartbeats 4000000 in
set_option maxRecDepth 100000 in
theorem c_X0_addFare (l : Launch) (D : va_G) (ca : Nat → ClassId) (ad : Nat → Nat) (hi : fl_inj L1 ad) (K0 : Nat) (hK0 : isCity K0) (m : Mem) (v' : Int32) (M' : Mem) (h : f_X0_addFare K0 m = some (v', M')) : fl_M l L1 D ca ad yX0_addFare cX0_addFare 3 (some .boolean) 3 [.ref (ad K0), .ref (ad 3)] m (some (.int v')) M' := by
  unfold f_X0_addFare at h
  refine fl_ofW (by decide) hi (Nat.le_of_ble_eq_true rfl) ?_
  intro p e s mm args below meth c ls X hr hlk hP hl
  have hl : lv_has ls 3 [(0, .ref (ad K0)), (1, .ref (ad 3))] := hl
  have X : fl_X p s mm args c cX0_addFare 3 RX0 L1 D ca ad := X
  obtain ⟨hx, hb, hml, hown, hts, hE, -⟩ := id X
  have hS : va_S (fl_A L1 ad) s.heap s.heap [] := va_S.rf
  have j_53 : ∀ (t0 : Int32) (m : Mem) (H : Heap) (locs : List Loc) (ls : Array Slot), J_X0_addFare_53 K0 t0 m = some (v', M') → va_P D vwCl (fl_w L1 ca ad m) H → va_S (fl_A L1 ad) s.heap H locs → lv_has ls 3 [(0, .ref (ad K0)), (1, .ref (ad 3))] → W p l e (fl_rm 3) s mm args below meth c H locs 0 0 (MQ below (fl_Q L1 D ca ad (some (.int v')) M') args s 0 0 (fl_A L1 ad)) (F0 mm 53 ls [.int t0]) := by
    intro t0 m H locs ls h hP hS hl
    unfold J_X0_addFare_53 at h
    refine lv_istore_n (lv' := [(2, .int t0), (0, .ref (ad K0)), (1, .ref (ad 3))]) hx hb dX0_addFare_53 rfl hl (by decide) rfl (fun ls hl => ?_)
    refine lv_iload_n hx hb dX0_addFare_54 rfl (lv_at hl 0 rfl) ?_
    refine lv_if_eq (tgt := 82) hx hb dX0_addFare_55 (by decide) (fun c15 => ?_) (fun c15 => ?_)
    · replace h := fl_if_t h c15
      refine lv_iconst (v := (0 : Int32)) hx hb dX0_addFare_82 (by decide) ?_
      exact fl_zret X hr hlk (by decide) hP hS dX0_addFare_83 h
    · replace h := fl_if_f h c15
      refine lv_aload_n hx hb dX0_addFare_58 rfl (lv_at hl 2 rfl) ?_
      refine lv_iconst (v := (3 : Int32)) hx hb dX0_addFare_59 (by decide) ?_
      refine fl_iald X hP k1_3 (by decide) dX0_addFare_60 ?_
      refine lv_iconst (v := (0 : Int32)) hx hb dX0_addFare_61 (by decide) ?_
      refine lv_bipush (v := (99 : Int32)) hx hb dX0_addFare_62 (by decide) ?_
      obtain ⟨r16, m17, hz18, h⟩ := fl_bd_e h
      refine fl_callN (av := [.int (m.1 3 3), .int (0 : Int32), .int (99 : Int32)]) X hP hS hl.1 mn_X0_56 (c_X8_within l D ca ad hi (m.1 3 3) (0 : Int32) (99 : Int32) m _ _ hz18) (fl_fit_rm (by omega) (by decide)) rfl (Nat.le_of_ble_eq_true rfl) dX0_addFare_64 rfl (fun H locs hP hS => ?_)
      refine W.eq (g2 := F0 mm 67 ls [.int r16]) rfl ?_
      refine lv_if_eq (tgt := 82) hx hb dX0_addFare_67 (by decide) (fun c19 => ?_) (fun c19 => ?_)
      · replace h := fl_if_t h c19
        refine lv_iconst (v := (0 : Int32)) hx hb dX0_addFare_82 (by decide) ?_
        exact fl_zret X hr hlk (by decide) hP hS dX0_addFare_83 h
      · replace h := fl_if_f h c19
        refine lv_aload_n hx hb dX0_addFare_70 rfl (lv_at hl 2 rfl) ?_
        refine lv_iconst (v := (4 : Int32)) hx hb dX0_addFare_71 (by decide) ?_
        refine fl_iald X hP k1_3 (by decide) dX0_addFare_72 ?_
        refine lv_iconst (v := (0 : Int32)) hx hb dX0_addFare_73 (by decide) ?_
        refine lv_bipush (v := (60 : Int32)) hx hb dX0_addFare_74 (by decide) ?_
        obtain ⟨r20, m21, hz22, h⟩ := fl_bd_e h
        refine fl_callN (av := [.int (m17.1 3 4), .int (0 : Int32), .int (60 : Int32)]) X hP hS hl.1 mn_X0_56 (c_X8_within l D ca ad hi (m17.1 3 4) (0 : Int32) (60 : Int32) m17 _ _ hz22) (fl_fit_rm (by omega) (by decide)) rfl (Nat.le_of_ble_eq_true rfl) dX0_addFare_76 rfl (fun H locs hP hS => ?_)
        refine W.eq (g2 := F0 mm 79 ls [.int r20]) rfl ?_
        refine lv_if_ne (tgt := 84) hx hb dX0_addFare_79 (by decide) (fun c23 => ?_) (fun c23 => ?_)
        · replace h := fl_if_f h c23
          refine lv_aload_n hx hb dX0_addFare_84 rfl (lv_at hl 1 rfl) ?_
          refine fl_getr X hP fk_X0_21 hK0.1 rfl dX0_addFare_85 ?_
          refine lv_aload_n hx hb dX0_addFare_88 rfl (lv_at hl 1 rfl) ?_
          refine fl_geti X hP fk_X0_53 hK0.1 rfl dX0_addFare_89 ?_
          refine lv_aload_n hx hb dX0_addFare_92 rfl (lv_at hl 2 rfl) ?_
          refine lv_iconst (v := (0 : Int32)) hx hb dX0_addFare_93 (by decide) ?_
          refine fl_iald X hP k1_3 (by decide) dX0_addFare_94 ?_
          obtain ⟨hk24, h⟩ := fl_ck_e h
          obtain ⟨m25, em26, h⟩ := fl_lm_e h
          refine fl_iast X hP hS hK0.2.2.2.2.1 hk24 dX0_addFare_95 (fun H locs hP hS => ?_)
          have hP : va_P D vwCl (fl_w L1 ca ad m25) H := by rw [em26]; exact hP
          refine lv_aload_n hx hb dX0_addFare_96 rfl (lv_at hl 1 rfl) ?_
          refine fl_getr X hP fk_X0_24 hK0.1 rfl dX0_addFare_97 ?_
          refine lv_aload_n hx hb dX0_addFare_100 rfl (lv_at hl 1 rfl) ?_
          refine fl_geti X hP fk_X0_53 hK0.1 rfl dX0_addFare_101 ?_
          refine lv_aload_n hx hb dX0_addFare_104 rfl (lv_at hl 2 rfl) ?_
          refine lv_iconst (v := (1 : Int32)) hx hb dX0_addFare_105 (by decide) ?_
          refine fl_iald X hP k1_3 (by decide) dX0_addFare_106 ?_
          obtain ⟨hk27, h⟩ := fl_ck_e h
          obtain ⟨m28, em29, h⟩ := fl_lm_e h
          refine fl_iast X hP hS hK0.2.2.2.2.2.1 hk27 dX0_addFare_107 (fun H locs hP hS => ?_)
          have hP : va_P D vwCl (fl_w L1 ca ad m28) H := by rw [em29]; exact hP
          refine lv_aload_n hx hb dX0_addFare_108 rfl (lv_at hl 1 rfl) ?_
          refine fl_getr X hP fk_X0_27 hK0.1 rfl dX0_addFare_109 ?_
          refine lv_aload_n hx hb dX0_addFare_112 rfl (lv_at hl 1 rfl) ?_
          refine fl_geti X hP fk_X0_53 hK0.1 rfl dX0_addFare_113 ?_
          refine lv_aload_n hx hb dX0_addFare_116 rfl (lv_at hl 2 rfl) ?_
          refine lv_iconst (v := (2 : Int32)) hx hb dX0_addFare_117 (by decide) ?_
          refine fl_iald X hP k1_3 (by decide) dX0_addFare_118 ?_
          obtain ⟨hk30, h⟩ := fl_ck_e h
          obtain ⟨m31, em32, h⟩ := fl_lm_e h
          refine fl_iast X hP hS hK0.2.2.2.2.2.2.1 hk30 dX0_addFare_119 (fun H locs hP hS => ?_)
          have hP : va_P D vwCl (fl_w L1 ca ad m31) H := by rw [em32]; exact hP
          refine lv_aload_n hx hb dX0_addFare_120 rfl (lv_at hl 1 rfl) ?_
          refine fl_getr X hP fk_X0_30 hK0.1 rfl dX0_addFare_121 ?_
          refine lv_aload_n hx hb dX0_addFare_124 rfl (lv_at hl 1 rfl) ?_
          refine fl_geti X hP fk_X0_53 hK0.1 rfl dX0_addFare_125 ?_
          refine lv_aload_n hx hb dX0_addFare_128 rfl (lv_at hl 2 rfl) ?_
          refine lv_iconst (v := (3 : Int32)) hx hb dX0_addFare_129 (by decide) ?_
          refine fl_iald X hP k1_3 (by decide) dX0_addFare_130 ?_
          obtain ⟨hk33, h⟩ := fl_ck_e h
          obtain ⟨m34, em35, h⟩ := fl_lm_e h
          refine fl_iast X hP hS hK0.2.2.2.2.2.2.2.1 hk33 dX0_addFare_131 (fun H locs hP hS => ?_)
          have hP : va_P D vwCl (fl_w L1 ca ad m34) H := by rw [em35]; exact hP
          refine lv_aload_n hx hb dX0_addFare_132 rfl (lv_at hl 1 rfl) ?_
          refine fl_getr X hP fk_X0_33 hK0.1 rfl dX0_addFare_133 ?_
          refine lv_aload_n hx hb dX0_addFare_136 rfl (lv_at hl 1 rfl) ?_
          refine fl_geti X hP fk_X0_53 hK0.1 rfl dX0_addFare_137 ?_
          refine lv_aload_n hx hb dX0_addFare_140 rfl (lv_at hl 2 rfl) ?_
          refine lv_iconst (v := (4 : Int32)) hx hb dX0_addFare_141 (by decide) ?_
          refine fl_iald X hP k1_3 (by decide) dX0_addFare_142 ?_
          obtain ⟨hk36, h⟩ := fl_ck_e h
          obtain ⟨m37, em38, h⟩ := fl_lm_e h
          refine fl_iast X hP hS hK0.2.2.2.2.2.2.2.2.1 hk36 dX0_addFare_143 (fun H locs hP hS => ?_)
          have hP : va_P D vwCl (fl_w L1 ca ad m37) H := by rw [em38]; exact hP
          refine lv_aload_n hx hb dX0_addFare_144 rfl (lv_at hl 1 rfl) ?_
          refine lv_dup hx hb dX0_addFare_145 rfl ?_
          refine fl_geti X hP fk_X0_53 hK0.1 rfl dX0_addFare_146 ?_
          refine lv_iconst (v := (1 : Int32)) hx hb dX0_addFare_149 (by decide) ?_
          refine lv_iadd hx hb dX0_addFare_150 ?_
          obtain ⟨m39, em40, h⟩ := fl_lm_e h
          refine fl_puti X hP hS pk_X0_53 hK0.1 rfl rfl rfl dX0_addFare_151 (fun H locs hP hS => ?_)
          have hP : va_P D vwCl (fl_w L1 ca ad m39) H := by rw [em40]; exact hP
          refine lv_iconst (v := (1 : Int32)) hx hb dX0_addFare_154 (by decide) ?_
          exact fl_zret X hr hlk (by decide) hP hS dX0_addFare_155 h
        · replace h := fl_if_t h c23
          refine lv_iconst (v := (0 : Int32)) hx hb dX0_addFare_82 (by decide) ?_
          exact fl_zret X hr hlk (by decide) hP hS dX0_addFare_83 h
  have j_52 : ∀  (m : Mem) (H : Heap) (locs : List Loc) (ls : Array Slot), J_X0_addFare_52 K0  m = some (v', M') → va_P D vwCl (fl_w L1 ca ad m) H → va_S (fl_A L1 ad) s.heap H locs → lv_has ls 3 [(0, .ref (ad K0)), (1, .ref (ad 3))] → W p l e (fl_rm 3) s mm args below meth c H locs 0 0 (MQ below (fl_Q L1 D ca ad (some (.int v')) M') args s 0 0 (fl_A L1 ad)) (F0 mm 52 ls []) := by
    intro  m H locs ls h hP hS hl
    unfold J_X0_addFare_52 at h
    refine lv_iconst (v := (0 : Int32)) hx hb dX0_addFare_52 (by decide) ?_
    exact j_53 _ _ _ _ _ h hP hS (lv_sub hl [0, 1] rfl)
  refine lv_aload_n hx hb dX0_addFare_0 rfl (lv_at hl 0 rfl) ?_
  refine fl_geti X hP fk_X0_53 hK0.1 rfl dX0_addFare_1 ?_
  refine lv_bipush (v := (7 : Int32)) hx hb dX0_addFare_4 (by decide) ?_
  refine lv_icmp_ge (tgt := 15) hx hb dX0_addFare_6 (by decide) (fun c1 => ?_) (fun c1 => ?_)
  · replace h := fl_if_t h c1
    refine lv_iconst (v := (0 : Int32)) hx hb dX0_addFare_15 (by decide) ?_
    exact fl_zret X hr hlk (by decide) hP hS dX0_addFare_16 h
  · replace h := fl_if_f h c1
    refine lv_aload_n hx hb dX0_addFare_9 rfl (lv_at hl 1 rfl) ?_
    refine fl_alen (v := (5 : Int32)) X hP k1_3 (by decide) (by decide) dX0_addFare_10 ?_
    refine lv_iconst (v := (5 : Int32)) hx hb dX0_addFare_11 (by decide) ?_
    refine lv_icmp_ge (tgt := 17) hx hb dX0_addFare_12 (by decide) (fun c2 => ?_) (fun c2 => ?_)
    · replace h := fl_if_t h c2
      refine lv_aload_n hx hb dX0_addFare_17 rfl (lv_at hl 1 rfl) ?_
      refine lv_iconst (v := (0 : Int32)) hx hb dX0_addFare_18 (by decide) ?_
      refine fl_iald X hP k1_3 (by decide) dX0_addFare_19 ?_
      refine lv_iconst (v := (0 : Int32)) hx hb dX0_addFare_20 (by decide) ?_
      refine lv_iconst (v := (3 : Int32)) hx hb dX0_addFare_21 (by decide) ?_
      obtain ⟨r3, m4, hz5, h⟩ := fl_bd_e h
      refine fl_callN (av := [.int (m.1 3 0), .int (0 : Int32), .int (3 : Int32)]) X hP hS hl.1 mn_X0_56 (c_X8_within l D ca ad hi (m.1 3 0) (0 : Int32) (3 : Int32) m _ _ hz5) (fl_fit_rm (by omega) (by decide)) rfl (Nat.le_of_ble_eq_true rfl) dX0_addFare_22 rfl (fun H locs hP hS => ?_)
      refine W.eq (g2 := F0 mm 25 ls [.int r3]) rfl ?_
      refine lv_if_eq (tgt := 52) hx hb dX0_addFare_25 (by decide) (fun c6 => ?_) (fun c6 => ?_)
      · replace h := fl_if_t h c6
        exact j_52  _ _ _ _ h hP hS (lv_sub hl [0, 1] rfl)
      · replace h := fl_if_f h c6
        refine lv_aload_n hx hb dX0_addFare_28 rfl (lv_at hl 0 rfl) ?_
        refine lv_aload_n hx hb dX0_addFare_29 rfl (lv_at hl 1 rfl) ?_
        refine lv_iconst (v := (1 : Int32)) hx hb dX0_addFare_30 (by decide) ?_
        refine fl_iald X hP k1_3 (by decide) dX0_addFare_31 ?_
        obtain ⟨r7, m8, hz9, h⟩ := fl_bd_e h
        refine fl_callV (av := [.int (m4.1 3 1)]) X hP hS hl.1 mv_X0_60 (c_X0_hasPlace l D ca ad hi K0 hK0 (m4.1 3 1) m4 _ _ hz9) hK0.1 (fl_fit_rm (by omega) (by decide)) rfl (Nat.le_of_ble_eq_true rfl) dX0_addFare_32 rfl (fun H locs hP hS => ?_)
        refine W.eq (g2 := F0 mm 35 ls [.int r7]) rfl ?_
        refine lv_if_eq (tgt := 52) hx hb dX0_addFare_35 (by decide) (fun c10 => ?_) (fun c10 => ?_)
        · replace h := fl_if_t h c10
          exact j_52  _ _ _ _ h hP hS (lv_sub hl [0, 1] rfl)
        · replace h := fl_if_f h c10
          refine lv_aload_n hx hb dX0_addFare_38 rfl (lv_at hl 0 rfl) ?_
          refine lv_aload_n hx hb dX0_addFare_39 rfl (lv_at hl 1 rfl) ?_
          refine lv_iconst (v := (2 : Int32)) hx hb dX0_addFare_40 (by decide) ?_
          refine fl_iald X hP k1_3 (by decide) dX0_addFare_41 ?_
          obtain ⟨r11, m12, hz13, h⟩ := fl_bd_e h
          refine fl_callV (av := [.int (m8.1 3 2)]) X hP hS hl.1 mv_X0_60 (c_X0_hasPlace l D ca ad hi K0 hK0 (m8.1 3 2) m8 _ _ hz13) hK0.1 (fl_fit_rm (by omega) (by decide)) rfl (Nat.le_of_ble_eq_true rfl) dX0_addFare_42 rfl (fun H locs hP hS => ?_)
          refine W.eq (g2 := F0 mm 45 ls [.int r11]) rfl ?_
          refine lv_if_eq (tgt := 52) hx hb dX0_addFare_45 (by decide) (fun c14 => ?_) (fun c14 => ?_)
          · replace h := fl_if_t h c14
            exact j_52  _ _ _ _ h hP hS (lv_sub hl [0, 1] rfl)
          · replace h := fl_if_f h c14
            refine lv_iconst (v := (1 : Int32)) hx hb dX0_addFare_48 (by decide) ?_
            refine lv_goto (tgt := 53) hx hb dX0_addFare_49 (by decide) ?_
            exact j_53 _ _ _ _ _ h hP hS (lv_sub hl [0, 1] rfl)
    · replace h := fl_if_f h c2
      refine lv_iconst (v := (0 : Int32)) hx hb dX0_addFare_15 (by decide) ?_
      exact fl_zret X hr hlk (by decide) hP hS dX0_addFare_16 h

def f_X0_steps (K0 : Nat) (x1 : Int32) (x2 : Int32) (m : Mem) : Option (Int32 × Mem) :=
  fl_li (fl_max (1 : Int32) (m.1 K0 1)) (fun z1 =>
    fl_ck (¬ z1 = 0) (
      fl_ck (¬ z1 = 0) (
        fl_ck (¬ z1 = 0) (
          fl_ck (¬ z1 = 0) (
            some ((fl_abs ((x1 / z1) - (x2 / z1))) + (fl_abs ((fl_rem x1 z1) - (fl_rem x2 z1))), m))))))
set_option maxHeartbeats 4000000 in
set_option maxRecDepth 100000 in
theorem c_X0_steps (l : Launch) (D : va_G) (ca : Nat → ClassId) (ad : Nat → Nat) (hi : fl_inj L1 ad) (K0 : Nat) (hK0 : isCity K0) (x1 : Int32) (x2 : Int32) (m : Mem) (v' : Int32) (M' : Mem) (h : f_X0_steps K0 x1 x2 m = some (v', M')) : fl_M l L1 D ca ad yX0_steps cX0_steps 4 (some .int) 1 [.ref (ad K0), .int x1, .int x2] m (some (.int v')) M' := by
  unfold f_X0_steps at h
  refine fl_ofW (by decide) hi (Nat.le_of_ble_eq_true rfl) ?_
  intro p e s mm args below meth c ls X hr hlk hP hl
  have hl : lv_has ls 4 [(0, .ref (ad K0)), (1, .int x1), (2, .int x2)] := hl
  have X : fl_X p s mm args c cX0_steps 4 RX0 L1 D ca ad := X
  obtain ⟨hx, hb, hml, hown, hts, hE, -⟩ := id X
  have hS : va_S (fl_A L1 ad) s.heap s.heap [] := va_S.rf
  refine lv_iconst (v := (1 : Int32)) hx hb dX0_steps_0 (by decide) ?_
  refine lv_aload_n hx hb dX0_steps_1 rfl (lv_at hl 0 rfl) ?_
  refine fl_geti X hP fk_X0_47 hK0.1 rfl dX0_steps_2 ?_
  refine va_mmax hx hb (hml.trans hl.1.symm) hown (hts _ wq_485) (hts _ wq_220) (hts _ wq_51) (hts _ wq_221) (fl_r1 (by omega)) (fl_r2 (by omega) (Nat.le_of_ble_eq_true rfl)) (Nat.le_refl 0) (Nat.le_refl 0) dX0_steps_5 ?_
  obtain ⟨z1, ez2, h⟩ := fl_li_e h
  refine fl_topi ez2 ?_
  refine lv_istore_n (lv' := [(3, .int z1), (0, .ref (ad K0)), (1, .int x1), (2, .int x2)]) hx hb dX0_steps_8 rfl hl (by decide) rfl (fun ls hl => ?_)
  refine lv_iload_n hx hb dX0_steps_9 rfl (lv_at hl 2 rfl) ?_
  refine lv_iload_n hx hb dX0_steps_10 rfl (lv_at hl 0 rfl) ?_
  obtain ⟨hk3, h⟩ := fl_ck_e h
  refine lv_idiv hx hb dX0_steps_11 hk3 ?_
  refine lv_iload_n hx hb dX0_steps_12 rfl (lv_at hl 3 rfl) ?_
  refine lv_iload_n hx hb dX0_steps_13 rfl (lv_at hl 0 rfl) ?_
  obtain ⟨hk4, h⟩ := fl_ck_e h
  refine lv_idiv hx hb dX0_steps_14 hk4 ?_
  refine lv_isub hx hb dX0_steps_15 ?_
  refine va_mabs hx hb (hml.trans hl.1.symm) hown (hts _ wq_486) (hts _ wq_487) (hts _ wq_51) (hts _ wq_488) (fl_r1 (by omega)) (fl_r2 (by omega) (Nat.le_of_ble_eq_true rfl)) (Nat.le_refl 0) (Nat.le_refl 0) dX0_steps_16 ?_
  refine lv_iload_n hx hb dX0_steps_19 rfl (lv_at hl 2 rfl) ?_
  refine lv_iload_n hx hb dX0_steps_20 rfl (lv_at hl 0 rfl) ?_
  obtain ⟨hk5, h⟩ := fl_ck_e h
  refine lv_irem hx hb dX0_steps_21 hk5 ?_
  refine lv_iload_n hx hb dX0_steps_22 rfl (lv_at hl 3 rfl) ?_
  refine lv_iload_n hx hb dX0_steps_23 rfl (lv_at hl 0 rfl) ?_
  obtain ⟨hk6, h⟩ := fl_ck_e h
  refine lv_irem hx hb dX0_steps_24 hk6 ?_
  refine lv_isub hx hb dX0_steps_25 ?_
  refine va_mabs hx hb (hml.trans hl.1.symm) hown (hts _ wq_486) (hts _ wq_487) (hts _ wq_51) (hts _ wq_488) (fl_r1 (by omega)) (fl_r2 (by omega) (Nat.le_of_ble_eq_true rfl)) (Nat.le_refl 0) (Nat.le_refl 0) dX0_steps_26 ?_
  refine lv_iadd hx hb dX0_steps_29 ?_
  exact fl_iret X hr hlk hP hS dX0_steps_30 h

def J_X0_reckonAs_136 (K0 : Nat) (K1 : Nat) (x2 : Int32) (x3 : Int32) (x6 : Int32) (x7 : Int32) (m : Mem) : Option (Int32 × Mem) :=
  fl_ck (0 ≤ x2.toInt ∧ x2.toInt < 3) (
    fl_ck (0 ≤ x3.toInt ∧ x3.toInt < 7) (
      fl_bd (f_X0_steps K0 (m.1 (K1 + 1) (x2.toNatClampNeg)) (m.1 (K0 + 5) (x3.toNatClampNeg)) m) (fun r24 m25 =>
        fl_lm (mI m25 (K0 + 9) 0 ((x6 + r24) + x7)) (fun m27 =>
          fl_ck (0 ≤ x3.toInt ∧ x3.toInt < 7) (
            fl_lm (mI m27 (K0 + 9) 1 ((m27.1 (K0 + 9) 0) - (m27.1 (K0 + 7) (x3.toNatClampNeg)))) (fun m30 =>
              fl_ck (0 ≤ x3.toInt ∧ x3.toInt < 7) (
                if (m30.1 (K0 + 4) (x3.toNatClampNeg)) = (1 : Int32) then (
                  fl_lm (mI m30 (K0 + 9) 2 (1 : Int32)) (fun m34 =>
                    some ((0 : Int32), m34)))
                else (
                  fl_ck (0 ≤ x3.toInt ∧ x3.toInt < 7) (
                    if (m30.1 (K0 + 4) (x3.toNatClampNeg)) = 0 then (
                      fl_ck (0 ≤ x3.toInt ∧ x3.toInt < 7) (
                        if (m30.1 (K0 + 9) 1) ≤ (m30.1 (K0 + 8) (x3.toNatClampNeg)) then (
                          fl_lm (mI m30 (K0 + 9) 2 (0 : Int32)) (fun m42 =>
                            some ((0 : Int32), m42)))
                        else (
                          fl_lm (mI m30 (K0 + 9) 2 (1 : Int32)) (fun m44 =>
                            some ((0 : Int32), m44)))))
                    else (
                      fl_lm (mI m30 (K0 + 9) 2 (0 : Int32)) (fun m38 =>
                        some ((0 : Int32), m38))))))))))))
def J_X0_reckonAs_104 (K0 : Nat) (K1 : Nat) (x2 : Int32) (x3 : Int32) (x5 : Int32) (x6 : Int32) (t0 : Int32) (m : Mem) : Option (Int32 × Mem) :=
  fl_ck (0 ≤ x3.toInt ∧ x3.toInt < 7) (
    fl_bd (f_X0_steps K0 (m.1 (K0 + 5) (x3.toNatClampNeg)) x5 m) (fun r47 m48 =>
      fl_ck (0 ≤ x3.toInt ∧ x3.toInt < 7) (
        fl_bd (f_X0_steps K0 x5 (m48.1 (K0 + 6) (x3.toNatClampNeg)) m48) (fun r51 m52 =>
          fl_li ((r47 + t0) + r51) (fun z54 =>
            J_X0_reckonAs_136 K0 K1 x2 x3 x6 z54 m52)))))
def J_X0_reckonAs_62 (K0 : Nat) (K1 : Nat) (x2 : Int32) (x3 : Int32) (x4 : Int32) (x5 : Int32) (x6 : Int32) (t1 : Int32) (m : Mem) : Option (Int32 × Mem) :=
  fl_ck (t1 = 0 ∨ t1 = 1) (
    fl_lm (mI m (K0 + 9) 3 t1) (fun m13 =>
      fl_ck (0 ≤ x3.toInt ∧ x3.toInt < 7) (
        fl_ck (0 ≤ x3.toInt ∧ x3.toInt < 7) (
          fl_bd (f_X0_steps K0 (m13.1 (K0 + 5) (x3.toNatClampNeg)) (m13.1 (K0 + 6) (x3.toNatClampNeg)) m13) (fun r17 m18 =>
            if (m18.1 (K0 + 9) 3) = 0 then (
              J_X0_reckonAs_136 K0 K1 x2 x3 x6 r17 m18)
            else (
              if x4 = (1 : Int32) then (
                J_X0_reckonAs_104 K0 K1 x2 x3 x5 x6 (3 : Int32) m18)
              else (
                J_X0_reckonAs_104 K0 K1 x2 x3 x5 x6 (1 : Int32) m18)))))))
def J_X0_reckonAs_61 (K0 : Nat) (K1 : Nat) (x2 : Int32) (x3 : Int32) (x4 : Int32) (x5 : Int32) (x6 : Int32) (m : Mem) : Option (Int32 × Mem) :=
  J_X0_reckonAs_62 K0 K1 x2 x3 x4 x5 x6 (0 : Int32) m
def J_X0_reckonAs_57 (K0 : Nat) (K1 : Nat) (x2 : Int32) (x3 : Int32) (x4 : Int32) (x5 : Int32) (x6 : Int32) (m : Mem) : Option (Int32 × Mem) :=
  J_X0_reckonAs_62 K0 K1 x2 x3 x4 x5 x6 (1 : Int32) m
def f_X0_reckonAs (K0 : Nat) (K1 : Nat) (x2 : Int32) (x3 : Int32) (x4 : Int32) (x5 : Int32) (m : Mem) : Option (Int32 × Mem) :=
  fl_ck (0 ≤ x2.toInt ∧ x2.toInt < 3) (
    fl_ck (0 ≤ x3.toInt ∧ x3.toInt < 7) (
      fl_li (fl_max (fl_max (m.1 K1 0) (m.1 (K1 + 2) (x2.toNatClampNeg))) (m.1 (K0 + 7) (x3.toNatClampNeg))) (fun z3 =>
        if x5 = (-4 : Int32) then (
          J_X0_reckonAs_61 K0 K1 x2 x3 x4 x5 z3 m)
        else (
          if x4 = (2 : Int32) then (
            fl_ck (0 ≤ x3.toInt ∧ x3.toInt < 7) (
              fl_bd (f_X0_steps K0 (m.1 (K0 + 5) (x3.toNatClampNeg)) x5 m) (fun r8 m9 =>
                if (3 : Int32) < r8 then (
                  J_X0_reckonAs_61 K0 K1 x2 x3 x4 x5 z3 m9)
                else (
                  J_X0_reckonAs_57 K0 K1 x2 x3 x4 x5 z3 m9))))
          else (
            J_X0_reckonAs_57 K0 K1 x2 x3 x4 x5 z3 m)))))
set_option maxHeartbeats 4000000 in
set_option maxRecDepth 100000 in
theorem c_X0_reckonAs (l : Launch) (D : va_G) (ca : Nat → ClassId) (ad : Nat → Nat) (hi : fl_inj L1 ad) (K0 : Nat) (hK0 : isCity K0) (K1 : Nat) (hK1 : isStand K1) (x2 : Int32) (x3 : Int32) (x4 : Int32) (x5 : Int32) (m : Mem) (v' : Int32) (M' : Mem) (h : f_X0_reckonAs K0 K1 x2 x3 x4 x5 m = some (v', M')) : fl_M l L1 D ca ad yX0_reckonAs cX0_reckonAs 9 none 2 [.ref (ad K0), .ref (ad K1), .int x2, .int x3, .int x4, .int x5] m none M' := by
  unfold f_X0_reckonAs at h
  refine fl_ofW (by decide) hi (Nat.le_of_ble_eq_true rfl) ?_
  intro p e s mm args below meth c ls X hr hlk hP hl
  have hl : lv_has ls 9 [(0, .ref (ad K0)), (1, .ref (ad K1)), (2, .int x2), (3, .int x3), (4, .int x4), (5, .int x5)] := hl
  have X : fl_X p s mm args c cX0_reckonAs 9 RX0 L1 D ca ad := X
  obtain ⟨hx, hb, hml, hown, hts, hE, -⟩ := id X
  have hS : va_S (fl_A L1 ad) s.heap s.heap [] := va_S.rf
  have j_136 : ∀ (x2 : Int32) (x3 : Int32) (x6 : Int32) (x7 : Int32) (m : Mem) (H : Heap) (locs : List Loc) (ls : Array Slot), J_X0_reckonAs_136 K0 K1 x2 x3 x6 x7 m = some (v', M') → va_P D vwCl (fl_w L1 ca ad m) H → va_S (fl_A L1 ad) s.heap H locs → lv_has ls 9 [(0, .ref (ad K0)), (1, .ref (ad K1)), (2, .int x2), (3, .int x3), (6, .int x6), (7, .int x7)] → W p l e (fl_rm 2) s mm args below meth c H locs 0 0 (MQ below (fl_Q L1 D ca ad none M') args s 0 0 (fl_A L1 ad)) (F0 mm 136 ls []) := by
    intro x2 x3 x6 x7 m H locs ls h hP hS hl
    unfold J_X0_reckonAs_136 at h
    refine lv_aload_n hx hb dX0_reckonAs_136 rfl (lv_at hl 0 rfl) ?_
    refine fl_getr X hP fk_X0_39 hK0.1 rfl dX0_reckonAs_137 ?_
    refine lv_iload hx hb dX0_reckonAs_140 (lv_at hl 4 rfl) ?_
    refine lv_aload_n hx hb dX0_reckonAs_142 rfl (lv_at hl 0 rfl) ?_
    refine lv_aload_n hx hb dX0_reckonAs_143 rfl (lv_at hl 1 rfl) ?_
    refine fl_getr X hP fk_X0_100 hK1.1 rfl dX0_reckonAs_144 ?_
    refine lv_iload_n hx hb dX0_reckonAs_147 rfl (lv_at hl 2 rfl) ?_
    obtain ⟨hk22, h⟩ := fl_ck_e h
    refine fl_iald X hP hK1.2.1 hk22 dX0_reckonAs_148 ?_
    refine lv_aload_n hx hb dX0_reckonAs_149 rfl (lv_at hl 0 rfl) ?_
    refine fl_getr X hP fk_X0_24 hK0.1 rfl dX0_reckonAs_150 ?_
    refine lv_iload_n hx hb dX0_reckonAs_153 rfl (lv_at hl 3 rfl) ?_
    obtain ⟨hk23, h⟩ := fl_ck_e h
    refine fl_iald X hP hK0.2.2.2.2.2.1 hk23 dX0_reckonAs_154 ?_
    obtain ⟨r24, m25, hz26, h⟩ := fl_bd_e h
    refine fl_callV (av := [.int (m.1 (K1 + 1) (x2.toNatClampNeg)), .int (m.1 (K0 + 5) (x3.toNatClampNeg))]) X hP hS hl.1 mv_X0_93 (c_X0_steps l D ca ad hi K0 hK0 (m.1 (K1 + 1) (x2.toNatClampNeg)) (m.1 (K0 + 5) (x3.toNatClampNeg)) m _ _ hz26) hK0.1 (fl_fit_rm (by omega) (by decide)) rfl (Nat.le_of_ble_eq_true rfl) dX0_reckonAs_155 rfl (fun H locs hP hS => ?_)
    refine W.eq (g2 := F0 mm 158 ls [.int r24, .int x6, .ref (ad (K0 + 9))]) rfl ?_
    refine lv_iadd hx hb dX0_reckonAs_158 ?_
    refine lv_iload hx hb dX0_reckonAs_159 (lv_at hl 5 rfl) ?_
    refine lv_iadd hx hb dX0_reckonAs_161 ?_
    obtain ⟨m27, em28, h⟩ := fl_lm_e h
    refine fl_puti X hP hS pk_X0_103 hK0.2.2.2.2.2.2.2.2.2 rfl rfl rfl dX0_reckonAs_162 (fun H locs hP hS => ?_)
    have hP : va_P D vwCl (fl_w L1 ca ad m27) H := by rw [em28]; exact hP
    refine lv_aload_n hx hb dX0_reckonAs_165 rfl (lv_at hl 0 rfl) ?_
    refine fl_getr X hP fk_X0_39 hK0.1 rfl dX0_reckonAs_166 ?_
    refine lv_aload_n hx hb dX0_reckonAs_169 rfl (lv_at hl 0 rfl) ?_
    refine fl_getr X hP fk_X0_39 hK0.1 rfl dX0_reckonAs_170 ?_
    refine fl_geti X hP fk_X0_103 hK0.2.2.2.2.2.2.2.2.2 rfl dX0_reckonAs_173 ?_
    refine lv_aload_n hx hb dX0_reckonAs_176 rfl (lv_at hl 0 rfl) ?_
    refine fl_getr X hP fk_X0_30 hK0.1 rfl dX0_reckonAs_177 ?_
    refine lv_iload_n hx hb dX0_reckonAs_180 rfl (lv_at hl 3 rfl) ?_
    obtain ⟨hk29, h⟩ := fl_ck_e h
    refine fl_iald X hP hK0.2.2.2.2.2.2.2.1 hk29 dX0_reckonAs_181 ?_
    refine lv_isub hx hb dX0_reckonAs_182 ?_
    obtain ⟨m30, em31, h⟩ := fl_lm_e h
    refine fl_puti X hP hS pk_X0_105 hK0.2.2.2.2.2.2.2.2.2 rfl rfl rfl dX0_reckonAs_183 (fun H locs hP hS => ?_)
    have hP : va_P D vwCl (fl_w L1 ca ad m30) H := by rw [em31]; exact hP
    refine lv_aload_n hx hb dX0_reckonAs_186 rfl (lv_at hl 0 rfl) ?_
    refine fl_getr X hP fk_X0_39 hK0.1 rfl dX0_reckonAs_187 ?_
    refine lv_aload_n hx hb dX0_reckonAs_190 rfl (lv_at hl 0 rfl) ?_
    refine fl_getr X hP fk_X0_21 hK0.1 rfl dX0_reckonAs_191 ?_
    refine lv_iload_n hx hb dX0_reckonAs_194 rfl (lv_at hl 3 rfl) ?_
    obtain ⟨hk32, h⟩ := fl_ck_e h
    refine fl_iald X hP hK0.2.2.2.2.1 hk32 dX0_reckonAs_195 ?_
    refine lv_iconst (v := (1 : Int32)) hx hb dX0_reckonAs_196 (by decide) ?_
    refine lv_icmp_eq (tgt := 225) hx hb dX0_reckonAs_197 (by decide) (fun c33 => ?_) (fun c33 => ?_)
    · replace h := fl_if_t h c33
      refine lv_iconst (v := (1 : Int32)) hx hb dX0_reckonAs_225 (by decide) ?_
      refine lv_goto (tgt := 230) hx hb dX0_reckonAs_226 (by decide) ?_
      obtain ⟨m34, em35, h⟩ := fl_lm_e h
      refine fl_puti X hP hS pk_X0_108 hK0.2.2.2.2.2.2.2.2.2 rfl rfl rfl dX0_reckonAs_230 (fun H locs hP hS => ?_)
      have hP : va_P D vwCl (fl_w L1 ca ad m34) H := by rw [em35]; exact hP
      exact fl_vret X hr hlk hP hS dX0_reckonAs_233 h
    · replace h := fl_if_f h c33
      refine lv_aload_n hx hb dX0_reckonAs_200 rfl (lv_at hl 0 rfl) ?_
      refine fl_getr X hP fk_X0_21 hK0.1 rfl dX0_reckonAs_201 ?_
      refine lv_iload_n hx hb dX0_reckonAs_204 rfl (lv_at hl 3 rfl) ?_
      obtain ⟨hk36, h⟩ := fl_ck_e h
      refine fl_iald X hP hK0.2.2.2.2.1 hk36 dX0_reckonAs_205 ?_
      refine lv_if_ne (tgt := 229) hx hb dX0_reckonAs_206 (by decide) (fun c37 => ?_) (fun c37 => ?_)
      · replace h := fl_if_f h c37
        refine lv_iconst (v := (0 : Int32)) hx hb dX0_reckonAs_229 (by decide) ?_
        obtain ⟨m38, em39, h⟩ := fl_lm_e h
        refine fl_puti X hP hS pk_X0_108 hK0.2.2.2.2.2.2.2.2.2 rfl rfl rfl dX0_reckonAs_230 (fun H locs hP hS => ?_)
        have hP : va_P D vwCl (fl_w L1 ca ad m38) H := by rw [em39]; exact hP
        exact fl_vret X hr hlk hP hS dX0_reckonAs_233 h
      · replace h := fl_if_t h c37
        refine lv_aload_n hx hb dX0_reckonAs_209 rfl (lv_at hl 0 rfl) ?_
        refine fl_getr X hP fk_X0_39 hK0.1 rfl dX0_reckonAs_210 ?_
        refine fl_geti X hP fk_X0_105 hK0.2.2.2.2.2.2.2.2.2 rfl dX0_reckonAs_213 ?_
        refine lv_aload_n hx hb dX0_reckonAs_216 rfl (lv_at hl 0 rfl) ?_
        refine fl_getr X hP fk_X0_33 hK0.1 rfl dX0_reckonAs_217 ?_
        refine lv_iload_n hx hb dX0_reckonAs_220 rfl (lv_at hl 3 rfl) ?_
        obtain ⟨hk40, h⟩ := fl_ck_e h
        refine fl_iald X hP hK0.2.2.2.2.2.2.2.2.1 hk40 dX0_reckonAs_221 ?_
        refine lv_icmp_le (tgt := 229) hx hb dX0_reckonAs_222 (by decide) (fun c41 => ?_) (fun c41 => ?_)
        · replace h := fl_if_t h c41
          refine lv_iconst (v := (0 : Int32)) hx hb dX0_reckonAs_229 (by decide) ?_
          obtain ⟨m42, em43, h⟩ := fl_lm_e h
          refine fl_puti X hP hS pk_X0_108 hK0.2.2.2.2.2.2.2.2.2 rfl rfl rfl dX0_reckonAs_230 (fun H locs hP hS => ?_)
          have hP : va_P D vwCl (fl_w L1 ca ad m42) H := by rw [em43]; exact hP
          exact fl_vret X hr hlk hP hS dX0_reckonAs_233 h
        · replace h := fl_if_f h c41
          refine lv_iconst (v := (1 : Int32)) hx hb dX0_reckonAs_225 (by decide) ?_
          refine lv_goto (tgt := 230) hx hb dX0_reckonAs_226 (by decide) ?_
          obtain ⟨m44, em45, h⟩ := fl_lm_e h
          refine fl_puti X hP hS pk_X0_108 hK0.2.2.2.2.2.2.2.2.2 rfl rfl rfl dX0_reckonAs_230 (fun H locs hP hS => ?_)
          have hP : va_P D vwCl (fl_w L1 ca ad m44) H := by rw [em45]; exact hP
          exact fl_vret X hr hlk hP hS dX0_reckonAs_233 h
  have j_104 : ∀ (x2 : Int32) (x3 : Int32) (x5 : Int32) (x6 : Int32) (t0 : Int32) (m : Mem) (H : Heap) (locs : List Loc) (ls : Array Slot), J_X0_reckonAs_104 K0 K1 x2 x3 x5 x6 t0 m = some (v', M') → va_P D vwCl (fl_w L1 ca ad m) H → va_S (fl_A L1 ad) s.heap H locs → lv_has ls 9 [(0, .ref (ad K0)), (1, .ref (ad K1)), (2, .int x2), (3, .int x3), (5, .int x5), (6, .int x6)] → W p l e (fl_rm 2) s mm args below meth c H locs 0 0 (MQ below (fl_Q L1 D ca ad none M') args s 0 0 (fl_A L1 ad)) (F0 mm 104 ls [.int t0]) := by
    intro x2 x3 x5 x6 t0 m H locs ls h hP hS hl
    unfold J_X0_reckonAs_104 at h
    refine lv_istore (lv' := [(8, .int t0), (0, .ref (ad K0)), (1, .ref (ad K1)), (2, .int x2), (3, .int x3), (5, .int x5), (6, .int x6)]) hx hb dX0_reckonAs_104 hl (by decide) rfl (fun ls hl => ?_)
    refine lv_aload_n hx hb dX0_reckonAs_106 rfl (lv_at hl 1 rfl) ?_
    refine lv_aload_n hx hb dX0_reckonAs_107 rfl (lv_at hl 1 rfl) ?_
    refine fl_getr X hP fk_X0_24 hK0.1 rfl dX0_reckonAs_108 ?_
    refine lv_iload_n hx hb dX0_reckonAs_111 rfl (lv_at hl 4 rfl) ?_
    obtain ⟨hk46, h⟩ := fl_ck_e h
    refine fl_iald X hP hK0.2.2.2.2.2.1 hk46 dX0_reckonAs_112 ?_
    refine lv_iload hx hb dX0_reckonAs_113 (lv_at hl 5 rfl) ?_
    obtain ⟨r47, m48, hz49, h⟩ := fl_bd_e h
    refine fl_callV (av := [.int (m.1 (K0 + 5) (x3.toNatClampNeg)), .int x5]) X hP hS hl.1 mv_X0_93 (c_X0_steps l D ca ad hi K0 hK0 (m.1 (K0 + 5) (x3.toNatClampNeg)) x5 m _ _ hz49) hK0.1 (fl_fit_rm (by omega) (by decide)) rfl (Nat.le_of_ble_eq_true rfl) dX0_reckonAs_115 rfl (fun H locs hP hS => ?_)
    refine W.eq (g2 := F0 mm 118 ls [.int r47]) rfl ?_
    refine lv_iload hx hb dX0_reckonAs_118 (lv_at hl 0 rfl) ?_
    refine lv_iadd hx hb dX0_reckonAs_120 ?_
    refine lv_aload_n hx hb dX0_reckonAs_121 rfl (lv_at hl 1 rfl) ?_
    refine lv_iload hx hb dX0_reckonAs_122 (lv_at hl 5 rfl) ?_
    refine lv_aload_n hx hb dX0_reckonAs_124 rfl (lv_at hl 1 rfl) ?_
    refine fl_getr X hP fk_X0_27 hK0.1 rfl dX0_reckonAs_125 ?_
    refine lv_iload_n hx hb dX0_reckonAs_128 rfl (lv_at hl 4 rfl) ?_
    obtain ⟨hk50, h⟩ := fl_ck_e h
    refine fl_iald X hP hK0.2.2.2.2.2.2.1 hk50 dX0_reckonAs_129 ?_
    obtain ⟨r51, m52, hz53, h⟩ := fl_bd_e h
    refine fl_callV (av := [.int x5, .int (m48.1 (K0 + 6) (x3.toNatClampNeg))]) X hP hS hl.1 mv_X0_93 (c_X0_steps l D ca ad hi K0 hK0 x5 (m48.1 (K0 + 6) (x3.toNatClampNeg)) m48 _ _ hz53) hK0.1 (fl_fit_rm (by omega) (by decide)) rfl (Nat.le_of_ble_eq_true rfl) dX0_reckonAs_130 rfl (fun H locs hP hS => ?_)
    refine W.eq (g2 := F0 mm 133 ls [.int r51, .int (r47 + t0)]) rfl ?_
    refine lv_iadd hx hb dX0_reckonAs_133 ?_
    obtain ⟨z54, ez55, h⟩ := fl_li_e h
    refine fl_topi ez55 ?_
    refine lv_istore (lv' := [(7, .int z54), (8, .int t0), (0, .ref (ad K0)), (1, .ref (ad K1)), (2, .int x2), (3, .int x3), (5, .int x5), (6, .int x6)]) hx hb dX0_reckonAs_134 hl (by decide) rfl (fun ls hl => ?_)
    exact j_136 _ _ _ _ _ _ _ _ h hP hS (lv_sub hl [2, 3, 4, 5, 7, 0] rfl)
  have j_62 : ∀ (x2 : Int32) (x3 : Int32) (x4 : Int32) (x5 : Int32) (x6 : Int32) (t1 : Int32) (m : Mem) (H : Heap) (locs : List Loc) (ls : Array Slot), J_X0_reckonAs_62 K0 K1 x2 x3 x4 x5 x6 t1 m = some (v', M') → va_P D vwCl (fl_w L1 ca ad m) H → va_S (fl_A L1 ad) s.heap H locs → lv_has ls 9 [(0, .ref (ad K0)), (1, .ref (ad K1)), (2, .int x2), (3, .int x3), (4, .int x4), (5, .int x5), (6, .int x6)] → W p l e (fl_rm 2) s mm args below meth c H locs 0 0 (MQ below (fl_Q L1 D ca ad none M') args s 0 0 (fl_A L1 ad)) (F0 mm 62 ls [.int t1, .ref (ad (K0 + 9))]) := by
    intro x2 x3 x4 x5 x6 t1 m H locs ls h hP hS hl
    unfold J_X0_reckonAs_62 at h
    obtain ⟨hk12, h⟩ := fl_ck_e h
    obtain ⟨m13, em14, h⟩ := fl_lm_e h
    refine fl_puti X hP hS pk_X0_96 hK0.2.2.2.2.2.2.2.2.2 rfl (fl_nz hk12) (fl_fz hk12) dX0_reckonAs_62 (fun H locs hP hS => ?_)
    have hP : va_P D vwCl (fl_w L1 ca ad m13) H := by rw [em14]; exact hP
    refine lv_aload_n hx hb dX0_reckonAs_65 rfl (lv_at hl 0 rfl) ?_
    refine lv_aload_n hx hb dX0_reckonAs_66 rfl (lv_at hl 0 rfl) ?_
    refine fl_getr X hP fk_X0_24 hK0.1 rfl dX0_reckonAs_67 ?_
    refine lv_iload_n hx hb dX0_reckonAs_70 rfl (lv_at hl 3 rfl) ?_
    obtain ⟨hk15, h⟩ := fl_ck_e h
    refine fl_iald X hP hK0.2.2.2.2.2.1 hk15 dX0_reckonAs_71 ?_
    refine lv_aload_n hx hb dX0_reckonAs_72 rfl (lv_at hl 0 rfl) ?_
    refine fl_getr X hP fk_X0_27 hK0.1 rfl dX0_reckonAs_73 ?_
    refine lv_iload_n hx hb dX0_reckonAs_76 rfl (lv_at hl 3 rfl) ?_
    obtain ⟨hk16, h⟩ := fl_ck_e h
    refine fl_iald X hP hK0.2.2.2.2.2.2.1 hk16 dX0_reckonAs_77 ?_
    obtain ⟨r17, m18, hz19, h⟩ := fl_bd_e h
    refine fl_callV (av := [.int (m13.1 (K0 + 5) (x3.toNatClampNeg)), .int (m13.1 (K0 + 6) (x3.toNatClampNeg))]) X hP hS hl.1 mv_X0_93 (c_X0_steps l D ca ad hi K0 hK0 (m13.1 (K0 + 5) (x3.toNatClampNeg)) (m13.1 (K0 + 6) (x3.toNatClampNeg)) m13 _ _ hz19) hK0.1 (fl_fit_rm (by omega) (by decide)) rfl (Nat.le_of_ble_eq_true rfl) dX0_reckonAs_78 rfl (fun H locs hP hS => ?_)
    refine W.eq (g2 := F0 mm 81 ls [.int r17]) rfl ?_
    refine lv_istore (lv' := [(7, .int r17), (0, .ref (ad K0)), (1, .ref (ad K1)), (2, .int x2), (3, .int x3), (4, .int x4), (5, .int x5), (6, .int x6)]) hx hb dX0_reckonAs_81 hl (by decide) rfl (fun ls hl => ?_)
    refine lv_aload_n hx hb dX0_reckonAs_83 rfl (lv_at hl 1 rfl) ?_
    refine fl_getr X hP fk_X0_39 hK0.1 rfl dX0_reckonAs_84 ?_
    refine fl_geti X hP fk_X0_96 hK0.2.2.2.2.2.2.2.2.2 rfl dX0_reckonAs_87 ?_
    refine lv_if_eq (tgt := 136) hx hb dX0_reckonAs_90 (by decide) (fun c20 => ?_) (fun c20 => ?_)
    · replace h := fl_if_t h c20
      exact j_136 _ _ _ _ _ _ _ _ h hP hS (lv_sub hl [1, 2, 3, 4, 7, 0] rfl)
    · replace h := fl_if_f h c20
      refine lv_iload hx hb dX0_reckonAs_93 (lv_at hl 5 rfl) ?_
      refine lv_iconst (v := (1 : Int32)) hx hb dX0_reckonAs_95 (by decide) ?_
      refine lv_icmp_ne (tgt := 103) hx hb dX0_reckonAs_96 (by decide) (fun c21 => ?_) (fun c21 => ?_)
      · replace h := fl_if_f h c21
        refine lv_iconst (v := (1 : Int32)) hx hb dX0_reckonAs_103 (by decide) ?_
        exact j_104 _ _ _ _ _ _ _ _ _ h hP hS (lv_sub hl [1, 2, 3, 4, 6, 7] rfl)
      · replace h := fl_if_t h c21
        refine lv_iconst (v := (3 : Int32)) hx hb dX0_reckonAs_99 (by decide) ?_
        refine lv_goto (tgt := 104) hx hb dX0_reckonAs_100 (by decide) ?_
        exact j_104 _ _ _ _ _ _ _ _ _ h hP hS (lv_sub hl [1, 2, 3, 4, 6, 7] rfl)
  have j_61 : ∀ (x2 : Int32) (x3 : Int32) (x4 : Int32) (x5 : Int32) (x6 : Int32) (m : Mem) (H : Heap) (locs : List Loc) (ls : Array Slot), J_X0_reckonAs_61 K0 K1 x2 x3 x4 x5 x6 m = some (v', M') → va_P D vwCl (fl_w L1 ca ad m) H → va_S (fl_A L1 ad) s.heap H locs → lv_has ls 9 [(0, .ref (ad K0)), (1, .ref (ad K1)), (2, .int x2), (3, .int x3), (4, .int x4), (5, .int x5), (6, .int x6)] → W p l e (fl_rm 2) s mm args below meth c H locs 0 0 (MQ below (fl_Q L1 D ca ad none M') args s 0 0 (fl_A L1 ad)) (F0 mm 61 ls [.ref (ad (K0 + 9))]) := by
    intro x2 x3 x4 x5 x6 m H locs ls h hP hS hl
    unfold J_X0_reckonAs_61 at h
    refine lv_iconst (v := (0 : Int32)) hx hb dX0_reckonAs_61 (by decide) ?_
    exact j_62 _ _ _ _ _ _ _ _ _ _ h hP hS (lv_sub hl [0, 1, 2, 3, 4, 5, 6] rfl)
  have j_57 : ∀ (x2 : Int32) (x3 : Int32) (x4 : Int32) (x5 : Int32) (x6 : Int32) (m : Mem) (H : Heap) (locs : List Loc) (ls : Array Slot), J_X0_reckonAs_57 K0 K1 x2 x3 x4 x5 x6 m = some (v', M') → va_P D vwCl (fl_w L1 ca ad m) H → va_S (fl_A L1 ad) s.heap H locs → lv_has ls 9 [(0, .ref (ad K0)), (1, .ref (ad K1)), (2, .int x2), (3, .int x3), (4, .int x4), (5, .int x5), (6, .int x6)] → W p l e (fl_rm 2) s mm args below meth c H locs 0 0 (MQ below (fl_Q L1 D ca ad none M') args s 0 0 (fl_A L1 ad)) (F0 mm 57 ls [.ref (ad (K0 + 9))]) := by
    intro x2 x3 x4 x5 x6 m H locs ls h hP hS hl
    unfold J_X0_reckonAs_57 at h
    refine lv_iconst (v := (1 : Int32)) hx hb dX0_reckonAs_57 (by decide) ?_
    refine lv_goto (tgt := 62) hx hb dX0_reckonAs_58 (by decide) ?_
    exact j_62 _ _ _ _ _ _ _ _ _ _ h hP hS (lv_sub hl [0, 1, 2, 3, 4, 5, 6] rfl)
  refine lv_aload_n hx hb dX0_reckonAs_0 rfl (lv_at hl 1 rfl) ?_
  refine fl_geti X hP fk_X0_87 hK1.1 rfl dX0_reckonAs_1 ?_
  refine lv_aload_n hx hb dX0_reckonAs_4 rfl (lv_at hl 1 rfl) ?_
  refine fl_getr X hP fk_X0_90 hK1.1 rfl dX0_reckonAs_5 ?_
  refine lv_iload_n hx hb dX0_reckonAs_8 rfl (lv_at hl 2 rfl) ?_
  obtain ⟨hk1, h⟩ := fl_ck_e h
  refine fl_iald X hP hK1.2.2.1 hk1 dX0_reckonAs_9 ?_
  refine va_mmax hx hb (hml.trans hl.1.symm) hown (hts _ wq_485) (hts _ wq_220) (hts _ wq_51) (hts _ wq_221) (fl_r1 (by omega)) (fl_r2 (by omega) (Nat.le_of_ble_eq_true rfl)) (Nat.le_refl 0) (Nat.le_refl 0) dX0_reckonAs_10 ?_
  refine lv_aload_n hx hb dX0_reckonAs_13 rfl (lv_at hl 0 rfl) ?_
  refine fl_getr X hP fk_X0_30 hK0.1 rfl dX0_reckonAs_14 ?_
  refine lv_iload_n hx hb dX0_reckonAs_17 rfl (lv_at hl 3 rfl) ?_
  obtain ⟨hk2, h⟩ := fl_ck_e h
  refine fl_iald X hP hK0.2.2.2.2.2.2.2.1 hk2 dX0_reckonAs_18 ?_
  refine va_mmax hx hb (hml.trans hl.1.symm) hown (hts _ wq_485) (hts _ wq_220) (hts _ wq_51) (hts _ wq_221) (fl_r1 (by omega)) (fl_r2 (by omega) (Nat.le_of_ble_eq_true rfl)) (Nat.le_refl 0) (Nat.le_refl 0) dX0_reckonAs_19 ?_
  obtain ⟨z3, ez4, h⟩ := fl_li_e h
  refine fl_topi ez4 ?_
  refine lv_istore (lv' := [(6, .int z3), (0, .ref (ad K0)), (1, .ref (ad K1)), (2, .int x2), (3, .int x3), (4, .int x4), (5, .int x5)]) hx hb dX0_reckonAs_22 hl (by decide) rfl (fun ls hl => ?_)
  refine lv_aload_n hx hb dX0_reckonAs_24 rfl (lv_at hl 1 rfl) ?_
  refine fl_getr X hP fk_X0_39 hK0.1 rfl dX0_reckonAs_25 ?_
  refine lv_iload hx hb dX0_reckonAs_28 (lv_at hl 6 rfl) ?_
  refine lv_bipush (v := (-4 : Int32)) hx hb dX0_reckonAs_30 (by decide) ?_
  refine lv_icmp_eq (tgt := 61) hx hb dX0_reckonAs_32 (by decide) (fun c5 => ?_) (fun c5 => ?_)
  · replace h := fl_if_t h c5
    exact j_61 _ _ _ _ _ _ _ _ _ h hP hS (lv_sub hl [1, 2, 3, 4, 5, 6, 0] rfl)
  · replace h := fl_if_f h c5
    refine lv_iload hx hb dX0_reckonAs_35 (lv_at hl 5 rfl) ?_
    refine lv_iconst (v := (2 : Int32)) hx hb dX0_reckonAs_37 (by decide) ?_
    refine lv_icmp_ne (tgt := 57) hx hb dX0_reckonAs_38 (by decide) (fun c6 => ?_) (fun c6 => ?_)
    · replace h := fl_if_f h c6
      exact j_57 _ _ _ _ _ _ _ _ _ h hP hS (lv_sub hl [1, 2, 3, 4, 5, 6, 0] rfl)
    · replace h := fl_if_t h c6
      refine lv_aload_n hx hb dX0_reckonAs_41 rfl (lv_at hl 1 rfl) ?_
      refine lv_aload_n hx hb dX0_reckonAs_42 rfl (lv_at hl 1 rfl) ?_
      refine fl_getr X hP fk_X0_24 hK0.1 rfl dX0_reckonAs_43 ?_
      refine lv_iload_n hx hb dX0_reckonAs_46 rfl (lv_at hl 4 rfl) ?_
      obtain ⟨hk7, h⟩ := fl_ck_e h
      refine fl_iald X hP hK0.2.2.2.2.2.1 hk7 dX0_reckonAs_47 ?_
      refine lv_iload hx hb dX0_reckonAs_48 (lv_at hl 6 rfl) ?_
      obtain ⟨r8, m9, hz10, h⟩ := fl_bd_e h
      refine fl_callV (av := [.int (m.1 (K0 + 5) (x3.toNatClampNeg)), .int x5]) X hP hS hl.1 mv_X0_93 (c_X0_steps l D ca ad hi K0 hK0 (m.1 (K0 + 5) (x3.toNatClampNeg)) x5 m _ _ hz10) hK0.1 (fl_fit_rm (by omega) (by decide)) rfl (Nat.le_of_ble_eq_true rfl) dX0_reckonAs_50 rfl (fun H locs hP hS => ?_)
      refine W.eq (g2 := F0 mm 53 ls [.int r8, .ref (ad (K0 + 9))]) rfl ?_
      refine lv_iconst (v := (3 : Int32)) hx hb dX0_reckonAs_53 (by decide) ?_
      refine lv_icmp_gt (tgt := 61) hx hb dX0_reckonAs_54 (by decide) (fun c11 => ?_) (fun c11 => ?_)
      · replace h := fl_if_t h c11
        exact j_61 _ _ _ _ _ _ _ _ _ h hP hS (lv_sub hl [1, 2, 3, 4, 5, 6, 0] rfl)
      · replace h := fl_if_f h c11
        exact j_57 _ _ _ _ _ _ _ _ _ h hP hS (lv_sub hl [1, 2, 3, 4, 5, 6, 0] rfl)

def f_X0_reckon (K0 : Nat) (K1 : Nat) (x2 : Int32) (x3 : Int32) (m : Mem) : Option (Int32 × Mem) :=
  fl_ck (0 ≤ x2.toInt ∧ x2.toInt < 3) (
    fl_ck (0 ≤ x2.toInt ∧ x2.toInt < 3) (
      fl_bd (f_X0_reckonAs K0 K1 x2 x3 (m.1 (K0 + 1) (x2.toNatClampNeg)) (m.1 (K1 + 3) (x2.toNatClampNeg)) m) (fun r3 m4 =>
        some ((0 : Int32), m4))))
set_option maxHeartbeats 4000000 in
set_option maxRecDepth 100000 in
theorem c_X0_reckon (l : Launch) (D : va_G) (ca : Nat → ClassId) (ad : Nat → Nat) (hi : fl_inj L1 ad) (K0 : Nat) (hK0 : isCity K0) (K1 : Nat) (hK1 : isStand K1) (x2 : Int32) (x3 : Int32) (m : Mem) (v' : Int32) (M' : Mem) (h : f_X0_reckon K0 K1 x2 x3 m = some (v', M')) : fl_M l L1 D ca ad yX0_reckon cX0_reckon 4 none 3 [.ref (ad K0), .ref (ad K1), .int x2, .int x3] m none M' := by
  unfold f_X0_reckon at h
  refine fl_ofW (by decide) hi (Nat.le_of_ble_eq_true rfl) ?_
  intro p e s mm args below meth c ls X hr hlk hP hl
  have hl : lv_has ls 4 [(0, .ref (ad K0)), (1, .ref (ad K1)), (2, .int x2), (3, .int x3)] := hl
  have X : fl_X p s mm args c cX0_reckon 4 RX0 L1 D ca ad := X
  obtain ⟨hx, hb, hml, hown, hts, hE, -⟩ := id X
  have hS : va_S (fl_A L1 ad) s.heap s.heap [] := va_S.rf
  refine lv_aload_n hx hb dX0_reckon_0 rfl (lv_at hl 0 rfl) ?_
  refine lv_aload_n hx hb dX0_reckon_1 rfl (lv_at hl 1 rfl) ?_
  refine lv_iload_n hx hb dX0_reckon_2 rfl (lv_at hl 2 rfl) ?_
  refine lv_iload_n hx hb dX0_reckon_3 rfl (lv_at hl 3 rfl) ?_
  refine lv_aload_n hx hb dX0_reckon_4 rfl (lv_at hl 0 rfl) ?_
  refine fl_getr X hP fk_X0_9 hK0.1 rfl dX0_reckon_5 ?_
  refine lv_iload_n hx hb dX0_reckon_8 rfl (lv_at hl 2 rfl) ?_
  obtain ⟨hk1, h⟩ := fl_ck_e h
  refine fl_iald X hP hK0.2.1 hk1 dX0_reckon_9 ?_
  refine lv_aload_n hx hb dX0_reckon_10 rfl (lv_at hl 1 rfl) ?_
  refine fl_getr X hP fk_X0_78 hK1.1 rfl dX0_reckon_11 ?_
  refine lv_iload_n hx hb dX0_reckon_14 rfl (lv_at hl 2 rfl) ?_
  obtain ⟨hk2, h⟩ := fl_ck_e h
  refine fl_iald X hP hK1.2.2.2.1 hk2 dX0_reckon_15 ?_
  obtain ⟨r3, m4, hz5, h⟩ := fl_bd_e h
  refine fl_callV (av := [.ref (ad K1), .int x2, .int x3, .int (m.1 (K0 + 1) (x2.toNatClampNeg)), .int (m.1 (K1 + 3) (x2.toNatClampNeg))]) X hP hS hl.1 mv_X0_83 (c_X0_reckonAs l D ca ad hi K0 hK0 K1 hK1 x2 x3 (m.1 (K0 + 1) (x2.toNatClampNeg)) (m.1 (K1 + 3) (x2.toNatClampNeg)) m _ _ hz5) hK0.1 (fl_fit_rm (by omega) (by decide)) rfl (Nat.le_of_ble_eq_true rfl) dX0_reckon_16 rfl (fun H locs hP hS => ?_)
  refine W.eq (g2 := F0 mm 19 ls []) rfl ?_
  exact fl_vret X hr hlk hP hS dX0_reckon_19 h

def J_X0_nearest_56 (N : Nat) (K0 : Nat) (K1 : Nat) (F : Int32 → Int32 → Int32 → Int32 → Mem → Option (Int32 × Mem)) (x2 : Int32) (x5 : Int32) (m : Mem) : Option (Int32 × Mem) :=
  fl_li (m.1 (K0 + 9) 1) (fun z9 =>
    F x2 x5 z9 (x5 + 1) m)
def B_X0_nearest_8 (N : Nat) (K0 : Nat) (K1 : Nat) (F : Int32 → Int32 → Int32 → Int32 → Mem → Option (Int32 × Mem)) (x2 : Int32) (x3 : Int32) (x4 : Int32) (x5 : Int32) (m : Mem) : Option (Int32 × Mem) :=
  if (m.1 K0 2) ≤ x5 then (
    some (x3, m))
  else (
    fl_ck (0 ≤ x5.toInt ∧ x5.toInt < 3) (
      fl_ck (0 ≤ x5.toInt ∧ x5.toInt < 3) (
        fl_bd (f_X0_reckonAs K0 K1 x5 x2 (m.1 (K0 + 1) (x5.toNatClampNeg)) (m.1 (K1 + 3) (x5.toNatClampNeg)) m) (fun r4 m5 =>
          if x5 = 0 then (
            J_X0_nearest_56 N K0 K1 F x2 x5 m5)
          else (
            if x4 ≤ (m5.1 (K0 + 9) 1) then (
              F x2 x3 x4 (x5 + 1) m5)
            else (
              J_X0_nearest_56 N K0 K1 F x2 x5 m5))))))
def l_X0_nearest (N : Nat) (K0 : Nat) (K1 : Nat) : Nat → Int32 → Int32 → Int32 → Int32 → Mem → Option (Int32 × Mem)
  | 0 => fun _ _ _ _ _ => none
  | n + 1 => fun x2 x3 x4 x5 m => B_X0_nearest_8 N K0 K1 (l_X0_nearest N K0 K1 n) x2 x3 x4 x5 m
def f_X0_nearest (N : Nat) (K0 : Nat) (K1 : Nat) (x2 : Int32) (m : Mem) : Option (Int32 × Mem) :=
  (l_X0_nearest N K0 K1 N) x2 (0 : Int32) (0 : Int32) (0 : Int32) m
set_option maxHeartbeats 4000000 in
set_option maxRecDepth 100000 in
theorem c_X0_nearest (l : Launch) (D : va_G) (ca : Nat → ClassId) (ad : Nat → Nat) (hi : fl_inj L1 ad) (N : Nat) (K0 : Nat) (hK0 : isCity K0) (K1 : Nat) (hK1 : isStand K1) (x2 : Int32) (m : Mem) (v' : Int32) (M' : Mem) (h : f_X0_nearest N K0 K1 x2 m = some (v', M')) : fl_M l L1 D ca ad yX0_nearest cX0_nearest 6 (some .int) 3 [.ref (ad K0), .ref (ad K1), .int x2] m (some (.int v')) M' := by
  unfold f_X0_nearest at h
  refine fl_ofW (by decide) hi (Nat.le_of_ble_eq_true rfl) ?_
  intro p e s mm args below meth c ls X hr hlk hP hl
  have hl : lv_has ls 6 [(0, .ref (ad K0)), (1, .ref (ad K1)), (2, .int x2)] := hl
  have X : fl_X p s mm args c cX0_nearest 6 RX0 L1 D ca ad := X
  obtain ⟨hx, hb, hml, hown, hts, hE, -⟩ := id X
  have hS : va_S (fl_A L1 ad) s.heap s.heap [] := va_S.rf
  have js : ∀ n : Nat, ((∀ (x2 : Int32) (x3 : Int32) (x4 : Int32) (x5 : Int32) (m : Mem) (H : Heap) (locs : List Loc) (ls : Array Slot), l_X0_nearest N K0 K1 n x2 x3 x4 x5 m = some (v', M') → va_P D vwCl (fl_w L1 ca ad m) H → va_S (fl_A L1 ad) s.heap H locs → lv_has ls 6 [(0, .ref (ad K0)), (1, .ref (ad K1)), (2, .int x2), (3, .int x3), (4, .int x4), (5, .int x5)] → W p l e (fl_rm 3) s mm args below meth c H locs 0 0 (MQ below (fl_Q L1 D ca ad (some (.int v')) M') args s 0 0 (fl_A L1 ad)) (F0 mm 8 ls []))) → (∀ (x2 : Int32) (x5 : Int32) (m : Mem) (H : Heap) (locs : List Loc) (ls : Array Slot), J_X0_nearest_56 N K0 K1 (l_X0_nearest N K0 K1 n) x2 x5 m = some (v', M') → va_P D vwCl (fl_w L1 ca ad m) H → va_S (fl_A L1 ad) s.heap H locs → lv_has ls 6 [(0, .ref (ad K0)), (1, .ref (ad K1)), (2, .int x2), (5, .int x5)] → W p l e (fl_rm 3) s mm args below meth c H locs 0 0 (MQ below (fl_Q L1 D ca ad (some (.int v')) M') args s 0 0 (fl_A L1 ad)) (F0 mm 56 ls [])) := by
    intro n ih
    have ih_8 := ih
    have j_56 : ∀ (x2 : Int32) (x5 : Int32) (m : Mem) (H : Heap) (locs : List Loc) (ls : Array Slot), J_X0_nearest_56 N K0 K1 (l_X0_nearest N K0 K1 n) x2 x5 m = some (v', M') → va_P D vwCl (fl_w L1 ca ad m) H → va_S (fl_A L1 ad) s.heap H locs → lv_has ls 6 [(0, .ref (ad K0)), (1, .ref (ad K1)), (2, .int x2), (5, .int x5)] → W p l e (fl_rm 3) s mm args below meth c H locs 0 0 (MQ below (fl_Q L1 D ca ad (some (.int v')) M') args s 0 0 (fl_A L1 ad)) (F0 mm 56 ls []) := by
      intro x2 x5 m H locs ls h hP hS hl
      unfold J_X0_nearest_56 at h
      refine lv_iload hx hb dX0_nearest_56 (lv_at hl 3 rfl) ?_
      refine lv_istore_n (lv' := [(3, .int x5), (0, .ref (ad K0)), (1, .ref (ad K1)), (2, .int x2), (5, .int x5)]) hx hb dX0_nearest_58 rfl hl (by decide) rfl (fun ls hl => ?_)
      refine lv_aload_n hx hb dX0_nearest_59 rfl (lv_at hl 1 rfl) ?_
      refine fl_getr X hP fk_X0_39 hK0.1 rfl dX0_nearest_60 ?_
      refine fl_geti X hP fk_X0_105 hK0.2.2.2.2.2.2.2.2.2 rfl dX0_nearest_63 ?_
      obtain ⟨z9, ez10, h⟩ := fl_li_e h
      refine fl_topi ez10 ?_
      refine lv_istore (lv' := [(4, .int z9), (3, .int x5), (0, .ref (ad K0)), (1, .ref (ad K1)), (2, .int x2), (5, .int x5)]) hx hb dX0_nearest_66 hl (by decide) rfl (fun ls hl => ?_)
      refine lv_iinc (v := x5 + 1) (lv' := [(5, .int (x5 + 1)), (4, .int z9), (3, .int x5), (0, .ref (ad K0)), (1, .ref (ad K1)), (2, .int x2)]) hx hb dX0_nearest_68 hl (k := 5) rfl rfl (by decide) rfl (fun ls hl => ?_)
      refine lv_goto (tgt := 8) hx hb dX0_nearest_71 (by decide) ?_
      exact ih_8 _ _ _ _ _ _ _ _ h hP hS (lv_sub hl [3, 4, 5, 2, 1, 0] rfl)
    exact j_56
  have key : ∀ n : Nat, (∀ (x2 : Int32) (x3 : Int32) (x4 : Int32) (x5 : Int32) (m : Mem) (H : Heap) (locs : List Loc) (ls : Array Slot), l_X0_nearest N K0 K1 n x2 x3 x4 x5 m = some (v', M') → va_P D vwCl (fl_w L1 ca ad m) H → va_S (fl_A L1 ad) s.heap H locs → lv_has ls 6 [(0, .ref (ad K0)), (1, .ref (ad K1)), (2, .int x2), (3, .int x3), (4, .int x4), (5, .int x5)] → W p l e (fl_rm 3) s mm args below meth c H locs 0 0 (MQ below (fl_Q L1 D ca ad (some (.int v')) M') args s 0 0 (fl_A L1 ad)) (F0 mm 8 ls [])) := by
    intro n
    induction n with
    | zero =>
      skip
      · intro x2 x3 x4 x5 m H locs ls h hP hS hl
        have h : (none : Option (Int32 × Mem)) = some (v', M') := h
        cases h
    | succ n ih =>
      have ih_8 := ih
      have j_56 := js n ih_8
      skip
      · intro x2 x3 x4 x5 m H locs ls h hP hS hl
        have h : B_X0_nearest_8 N K0 K1 (l_X0_nearest N K0 K1 n) x2 x3 x4 x5 m = some (v', M') := h
        unfold B_X0_nearest_8 at h
        refine lv_iload hx hb dX0_nearest_8 (lv_at hl 5 rfl) ?_
        refine lv_aload_n hx hb dX0_nearest_10 rfl (lv_at hl 0 rfl) ?_
        refine fl_geti X hP fk_X0_50 hK0.1 rfl dX0_nearest_11 ?_
        refine lv_icmp_ge (tgt := 74) hx hb dX0_nearest_14 (by decide) (fun c1 => ?_) (fun c1 => ?_)
        · replace h := fl_if_t h c1
          refine lv_iload_n hx hb dX0_nearest_74 rfl (lv_at hl 3 rfl) ?_
          exact fl_iret X hr hlk hP hS dX0_nearest_75 h
        · replace h := fl_if_f h c1
          refine lv_aload_n hx hb dX0_nearest_17 rfl (lv_at hl 0 rfl) ?_
          refine lv_aload_n hx hb dX0_nearest_18 rfl (lv_at hl 1 rfl) ?_
          refine lv_iload hx hb dX0_nearest_19 (lv_at hl 5 rfl) ?_
          refine lv_iload_n hx hb dX0_nearest_21 rfl (lv_at hl 2 rfl) ?_
          refine lv_aload_n hx hb dX0_nearest_22 rfl (lv_at hl 0 rfl) ?_
          refine fl_getr X hP fk_X0_9 hK0.1 rfl dX0_nearest_23 ?_
          refine lv_iload hx hb dX0_nearest_26 (lv_at hl 5 rfl) ?_
          obtain ⟨hk2, h⟩ := fl_ck_e h
          refine fl_iald X hP hK0.2.1 hk2 dX0_nearest_28 ?_
          refine lv_aload_n hx hb dX0_nearest_29 rfl (lv_at hl 1 rfl) ?_
          refine fl_getr X hP fk_X0_78 hK1.1 rfl dX0_nearest_30 ?_
          refine lv_iload hx hb dX0_nearest_33 (lv_at hl 5 rfl) ?_
          obtain ⟨hk3, h⟩ := fl_ck_e h
          refine fl_iald X hP hK1.2.2.2.1 hk3 dX0_nearest_35 ?_
          obtain ⟨r4, m5, hz6, h⟩ := fl_bd_e h
          refine fl_callV (av := [.ref (ad K1), .int x5, .int x2, .int (m.1 (K0 + 1) (x5.toNatClampNeg)), .int (m.1 (K1 + 3) (x5.toNatClampNeg))]) X hP hS hl.1 mv_X0_83 (c_X0_reckonAs l D ca ad hi K0 hK0 K1 hK1 x5 x2 (m.1 (K0 + 1) (x5.toNatClampNeg)) (m.1 (K1 + 3) (x5.toNatClampNeg)) m _ _ hz6) hK0.1 (fl_fit_rm (by omega) (by decide)) rfl (Nat.le_of_ble_eq_true rfl) dX0_nearest_36 rfl (fun H locs hP hS => ?_)
          refine W.eq (g2 := F0 mm 39 ls []) rfl ?_
          refine lv_iload hx hb dX0_nearest_39 (lv_at hl 5 rfl) ?_
          refine lv_if_eq (tgt := 56) hx hb dX0_nearest_41 (by decide) (fun c7 => ?_) (fun c7 => ?_)
          · replace h := fl_if_t h c7
            exact j_56 _ _ _ _ _ _ h hP hS (lv_sub hl [0, 1, 2, 5] rfl)
          · replace h := fl_if_f h c7
            refine lv_aload_n hx hb dX0_nearest_44 rfl (lv_at hl 0 rfl) ?_
            refine fl_getr X hP fk_X0_39 hK0.1 rfl dX0_nearest_45 ?_
            refine fl_geti X hP fk_X0_105 hK0.2.2.2.2.2.2.2.2.2 rfl dX0_nearest_48 ?_
            refine lv_iload hx hb dX0_nearest_51 (lv_at hl 4 rfl) ?_
            refine lv_icmp_ge (tgt := 68) hx hb dX0_nearest_53 (by decide) (fun c8 => ?_) (fun c8 => ?_)
            · replace h := fl_if_t h c8
              refine lv_iinc (v := x5 + 1) (lv' := [(5, .int (x5 + 1)), (0, .ref (ad K0)), (1, .ref (ad K1)), (2, .int x2), (3, .int x3), (4, .int x4)]) hx hb dX0_nearest_68 hl (k := 5) rfl rfl (by decide) rfl (fun ls hl => ?_)
              refine lv_goto (tgt := 8) hx hb dX0_nearest_71 (by decide) ?_
              exact ih_8 _ _ _ _ _ _ _ _ h hP hS (lv_sub hl [1, 2, 3, 4, 5, 0] rfl)
            · replace h := fl_if_f h c8
              exact j_56 _ _ _ _ _ _ h hP hS (lv_sub hl [0, 1, 2, 5] rfl)
  have ih_8 := key N
  have j_56 := js N ih_8
  refine lv_iconst (v := (0 : Int32)) hx hb dX0_nearest_0 (by decide) ?_
  refine lv_istore_n (lv' := [(3, .int (0 : Int32)), (0, .ref (ad K0)), (1, .ref (ad K1)), (2, .int x2)]) hx hb dX0_nearest_1 rfl hl (by decide) rfl (fun ls hl => ?_)
  refine lv_iconst (v := (0 : Int32)) hx hb dX0_nearest_2 (by decide) ?_
  refine lv_istore (lv' := [(4, .int (0 : Int32)), (3, .int (0 : Int32)), (0, .ref (ad K0)), (1, .ref (ad K1)), (2, .int x2)]) hx hb dX0_nearest_3 hl (by decide) rfl (fun ls hl => ?_)
  refine lv_iconst (v := (0 : Int32)) hx hb dX0_nearest_5 (by decide) ?_
  refine lv_istore (lv' := [(5, .int (0 : Int32)), (4, .int (0 : Int32)), (3, .int (0 : Int32)), (0, .ref (ad K0)), (1, .ref (ad K1)), (2, .int x2)]) hx hb dX0_nearest_6 hl (by decide) rfl (fun ls hl => ?_)
  exact ih_8 _ _ _ _ _ _ _ _ h hP hS (lv_sub hl [3, 4, 5, 2, 1, 0] rfl)

def J_X0_settle_85 (K0 : Nat) (K1 : Nat) (x2 : Int32) (x3 : Int32) (x4 : Int32) (m : Mem) : Option (Int32 × Mem) :=
  if x4 = 0 then (
    some ((0 : Int32), m))
  else (
    fl_ck (0 ≤ x3.toInt ∧ x3.toInt < 7) (
      fl_ck (0 ≤ x2.toInt ∧ x2.toInt < 3) (
        fl_lm (mI m (K1 + 3) (x2.toNatClampNeg) (m.1 (K0 + 6) (x3.toNatClampNeg))) (fun m24 =>
          some ((0 : Int32), m24)))))
def J_X0_settle_53 (K0 : Nat) (K1 : Nat) (x2 : Int32) (x3 : Int32) (x4 : Int32) (t1 : Int32) (t2 : Int32) (m : Mem) : Option (Int32 × Mem) :=
  fl_ck (0 ≤ t1.toInt ∧ t1.toInt < 7) (
    fl_lm (mI m (K1 + 5) (t1.toNatClampNeg) t2) (fun m13 =>
      fl_ck (0 ≤ x3.toInt ∧ x3.toInt < 7) (
        if (m13.1 (K0 + 4) (x3.toNatClampNeg)) = (3 : Int32) then (
          if (m13.1 (K0 + 9) 3) = 0 then (
            J_X0_settle_85 K0 K1 x2 x3 x4 m13)
          else (
            fl_ck (0 ≤ x2.toInt ∧ x2.toInt < 3) (
              fl_lm (mI m13 (K1 + 3) (x2.toNatClampNeg) (-4 : Int32)) (fun m19 =>
                some ((0 : Int32), m19)))))
        else (
          J_X0_settle_85 K0 K1 x2 x3 x4 m13))))
def f_X0_settle (K0 : Nat) (K1 : Nat) (x2 : Int32) (x3 : Int32) (x4 : Int32) (m : Mem) : Option (Int32 × Mem) :=
  fl_ck (0 ≤ x3.toInt ∧ x3.toInt < 7) (
    fl_ck (0 ≤ x2.toInt ∧ x2.toInt < 3) (
      fl_lm (mI m (K1 + 1) (x2.toNatClampNeg) (m.1 (K0 + 6) (x3.toNatClampNeg))) (fun m3 =>
        fl_ck (0 ≤ x2.toInt ∧ x2.toInt < 3) (
          fl_lm (mI m3 (K1 + 2) (x2.toNatClampNeg) (m3.1 (K0 + 9) 0)) (fun m6 =>
            fl_ck (0 ≤ x3.toInt ∧ x3.toInt < 7) (
              fl_lm (mI m6 (K1 + 4) (x3.toNatClampNeg) (m6.1 (K0 + 9) 1)) (fun m9 =>
                if x4 = 0 then (
                  J_X0_settle_53 K0 K1 x2 x3 x4 x3 (0 : Int32) m9)
                else (
                  J_X0_settle_53 K0 K1 x2 x3 x4 x3 (1 : Int32) m9))))))))
set_option maxHeartbeats 4000000 in
set_option maxRecDepth 100000 in
theorem c_X0_settle (l : Launch) (D : va_G) (ca : Nat → ClassId) (ad : Nat → Nat) (hi : fl_inj L1 ad) (K0 : Nat) (hK0 : isCity K0) (K1 : Nat) (hK1 : isStand K1) (x2 : Int32) (x3 : Int32) (x4 : Int32) (m : Mem) (v' : Int32) (M' : Mem) (h : f_X0_settle K0 K1 x2 x3 x4 m = some (v', M')) : fl_M l L1 D ca ad yX0_settle cX0_settle 5 none 1 [.ref (ad K0), .ref (ad K1), .int x2, .int x3, .int x4] m none M' := by
  unfold f_X0_settle at h
  refine fl_ofW (by decide) hi (Nat.le_of_ble_eq_true rfl) ?_
  intro p e s mm args below meth c ls X hr hlk hP hl
  have hl : lv_has ls 5 [(0, .ref (ad K0)), (1, .ref (ad K1)), (2, .int x2), (3, .int x3), (4, .int x4)] := hl
  have X : fl_X p s mm args c cX0_settle 5 RX0 L1 D ca ad := X
  obtain ⟨hx, hb, hml, hown, hts, hE, -⟩ := id X
  have hS : va_S (fl_A L1 ad) s.heap s.heap [] := va_S.rf
  have j_85 : ∀ (x2 : Int32) (x3 : Int32) (x4 : Int32) (m : Mem) (H : Heap) (locs : List Loc) (ls : Array Slot), J_X0_settle_85 K0 K1 x2 x3 x4 m = some (v', M') → va_P D vwCl (fl_w L1 ca ad m) H → va_S (fl_A L1 ad) s.heap H locs → lv_has ls 5 [(0, .ref (ad K0)), (1, .ref (ad K1)), (2, .int x2), (3, .int x3), (4, .int x4)] → W p l e (fl_rm 1) s mm args below meth c H locs 0 0 (MQ below (fl_Q L1 D ca ad none M') args s 0 0 (fl_A L1 ad)) (F0 mm 85 ls []) := by
    intro x2 x3 x4 m H locs ls h hP hS hl
    unfold J_X0_settle_85 at h
    refine lv_iload hx hb dX0_settle_85 (lv_at hl 4 rfl) ?_
    refine lv_if_eq (tgt := 102) hx hb dX0_settle_87 (by decide) (fun c21 => ?_) (fun c21 => ?_)
    · replace h := fl_if_t h c21
      exact fl_vret X hr hlk hP hS dX0_settle_102 h
    · replace h := fl_if_f h c21
      refine lv_aload_n hx hb dX0_settle_90 rfl (lv_at hl 1 rfl) ?_
      refine fl_getr X hP fk_X0_78 hK1.1 rfl dX0_settle_91 ?_
      refine lv_iload_n hx hb dX0_settle_94 rfl (lv_at hl 2 rfl) ?_
      refine lv_aload_n hx hb dX0_settle_95 rfl (lv_at hl 0 rfl) ?_
      refine fl_getr X hP fk_X0_27 hK0.1 rfl dX0_settle_96 ?_
      refine lv_iload_n hx hb dX0_settle_99 rfl (lv_at hl 3 rfl) ?_
      obtain ⟨hk22, h⟩ := fl_ck_e h
      refine fl_iald X hP hK0.2.2.2.2.2.2.1 hk22 dX0_settle_100 ?_
      obtain ⟨hk23, h⟩ := fl_ck_e h
      obtain ⟨m24, em25, h⟩ := fl_lm_e h
      refine fl_iast X hP hS hK1.2.2.2.1 hk23 dX0_settle_101 (fun H locs hP hS => ?_)
      have hP : va_P D vwCl (fl_w L1 ca ad m24) H := by rw [em25]; exact hP
      exact fl_vret X hr hlk hP hS dX0_settle_102 h
  have j_53 : ∀ (x2 : Int32) (x3 : Int32) (x4 : Int32) (t1 : Int32) (t2 : Int32) (m : Mem) (H : Heap) (locs : List Loc) (ls : Array Slot), J_X0_settle_53 K0 K1 x2 x3 x4 t1 t2 m = some (v', M') → va_P D vwCl (fl_w L1 ca ad m) H → va_S (fl_A L1 ad) s.heap H locs → lv_has ls 5 [(0, .ref (ad K0)), (1, .ref (ad K1)), (2, .int x2), (3, .int x3), (4, .int x4)] → W p l e (fl_rm 1) s mm args below meth c H locs 0 0 (MQ below (fl_Q L1 D ca ad none M') args s 0 0 (fl_A L1 ad)) (F0 mm 53 ls [.int t2, .int t1, .ref (ad (K1 + 5))]) := by
    intro x2 x3 x4 t1 t2 m H locs ls h hP hS hl
    unfold J_X0_settle_53 at h
    obtain ⟨hk12, h⟩ := fl_ck_e h
    obtain ⟨m13, em14, h⟩ := fl_lm_e h
    refine fl_iast X hP hS hK1.2.2.2.2.2 hk12 dX0_settle_53 (fun H locs hP hS => ?_)
    have hP : va_P D vwCl (fl_w L1 ca ad m13) H := by rw [em14]; exact hP
    refine lv_aload_n hx hb dX0_settle_54 rfl (lv_at hl 0 rfl) ?_
    refine fl_getr X hP fk_X0_21 hK0.1 rfl dX0_settle_55 ?_
    refine lv_iload_n hx hb dX0_settle_58 rfl (lv_at hl 3 rfl) ?_
    obtain ⟨hk15, h⟩ := fl_ck_e h
    refine fl_iald X hP hK0.2.2.2.2.1 hk15 dX0_settle_59 ?_
    refine lv_iconst (v := (3 : Int32)) hx hb dX0_settle_60 (by decide) ?_
    refine lv_icmp_ne (tgt := 85) hx hb dX0_settle_61 (by decide) (fun c16 => ?_) (fun c16 => ?_)
    · replace h := fl_if_f h c16
      exact j_85 _ _ _ _ _ _ _ h hP hS (lv_sub hl [0, 1, 2, 3, 4] rfl)
    · replace h := fl_if_t h c16
      refine lv_aload_n hx hb dX0_settle_64 rfl (lv_at hl 0 rfl) ?_
      refine fl_getr X hP fk_X0_39 hK0.1 rfl dX0_settle_65 ?_
      refine fl_geti X hP fk_X0_96 hK0.2.2.2.2.2.2.2.2.2 rfl dX0_settle_68 ?_
      refine lv_if_eq (tgt := 85) hx hb dX0_settle_71 (by decide) (fun c17 => ?_) (fun c17 => ?_)
      · replace h := fl_if_t h c17
        exact j_85 _ _ _ _ _ _ _ h hP hS (lv_sub hl [0, 1, 2, 3, 4] rfl)
      · replace h := fl_if_f h c17
        refine lv_aload_n hx hb dX0_settle_74 rfl (lv_at hl 1 rfl) ?_
        refine fl_getr X hP fk_X0_78 hK1.1 rfl dX0_settle_75 ?_
        refine lv_iload_n hx hb dX0_settle_78 rfl (lv_at hl 2 rfl) ?_
        refine lv_bipush (v := (-4 : Int32)) hx hb dX0_settle_79 (by decide) ?_
        obtain ⟨hk18, h⟩ := fl_ck_e h
        obtain ⟨m19, em20, h⟩ := fl_lm_e h
        refine fl_iast X hP hS hK1.2.2.2.1 hk18 dX0_settle_81 (fun H locs hP hS => ?_)
        have hP : va_P D vwCl (fl_w L1 ca ad m19) H := by rw [em20]; exact hP
        refine lv_goto (tgt := 102) hx hb dX0_settle_82 (by decide) ?_
        exact fl_vret X hr hlk hP hS dX0_settle_102 h
  refine lv_aload_n hx hb dX0_settle_0 rfl (lv_at hl 1 rfl) ?_
  refine fl_getr X hP fk_X0_100 hK1.1 rfl dX0_settle_1 ?_
  refine lv_iload_n hx hb dX0_settle_4 rfl (lv_at hl 2 rfl) ?_
  refine lv_aload_n hx hb dX0_settle_5 rfl (lv_at hl 0 rfl) ?_
  refine fl_getr X hP fk_X0_27 hK0.1 rfl dX0_settle_6 ?_
  refine lv_iload_n hx hb dX0_settle_9 rfl (lv_at hl 3 rfl) ?_
  obtain ⟨hk1, h⟩ := fl_ck_e h
  refine fl_iald X hP hK0.2.2.2.2.2.2.1 hk1 dX0_settle_10 ?_
  obtain ⟨hk2, h⟩ := fl_ck_e h
  obtain ⟨m3, em4, h⟩ := fl_lm_e h
  refine fl_iast X hP hS hK1.2.1 hk2 dX0_settle_11 (fun H locs hP hS => ?_)
  have hP : va_P D vwCl (fl_w L1 ca ad m3) H := by rw [em4]; exact hP
  refine lv_aload_n hx hb dX0_settle_12 rfl (lv_at hl 1 rfl) ?_
  refine fl_getr X hP fk_X0_90 hK1.1 rfl dX0_settle_13 ?_
  refine lv_iload_n hx hb dX0_settle_16 rfl (lv_at hl 2 rfl) ?_
  refine lv_aload_n hx hb dX0_settle_17 rfl (lv_at hl 0 rfl) ?_
  refine fl_getr X hP fk_X0_39 hK0.1 rfl dX0_settle_18 ?_
  refine fl_geti X hP fk_X0_103 hK0.2.2.2.2.2.2.2.2.2 rfl dX0_settle_21 ?_
  obtain ⟨hk5, h⟩ := fl_ck_e h
  obtain ⟨m6, em7, h⟩ := fl_lm_e h
  refine fl_iast X hP hS hK1.2.2.1 hk5 dX0_settle_24 (fun H locs hP hS => ?_)
  have hP : va_P D vwCl (fl_w L1 ca ad m6) H := by rw [em7]; exact hP
  refine lv_aload_n hx hb dX0_settle_25 rfl (lv_at hl 1 rfl) ?_
  refine fl_getr X hP fk_X0_111 hK1.1 rfl dX0_settle_26 ?_
  refine lv_iload_n hx hb dX0_settle_29 rfl (lv_at hl 3 rfl) ?_
  refine lv_aload_n hx hb dX0_settle_30 rfl (lv_at hl 0 rfl) ?_
  refine fl_getr X hP fk_X0_39 hK0.1 rfl dX0_settle_31 ?_
  refine fl_geti X hP fk_X0_105 hK0.2.2.2.2.2.2.2.2.2 rfl dX0_settle_34 ?_
  obtain ⟨hk8, h⟩ := fl_ck_e h
  obtain ⟨m9, em10, h⟩ := fl_lm_e h
  refine fl_iast X hP hS hK1.2.2.2.2.1 hk8 dX0_settle_37 (fun H locs hP hS => ?_)
  have hP : va_P D vwCl (fl_w L1 ca ad m9) H := by rw [em10]; exact hP
  refine lv_aload_n hx hb dX0_settle_38 rfl (lv_at hl 1 rfl) ?_
  refine fl_getr X hP fk_X0_113 hK1.1 rfl dX0_settle_39 ?_
  refine lv_iload_n hx hb dX0_settle_42 rfl (lv_at hl 3 rfl) ?_
  refine lv_iload hx hb dX0_settle_43 (lv_at hl 4 rfl) ?_
  refine lv_if_eq (tgt := 52) hx hb dX0_settle_45 (by decide) (fun c11 => ?_) (fun c11 => ?_)
  · replace h := fl_if_t h c11
    refine lv_iconst (v := (0 : Int32)) hx hb dX0_settle_52 (by decide) ?_
    exact j_53 _ _ _ _ _ _ _ _ _ h hP hS (lv_sub hl [0, 1, 2, 3, 4] rfl)
  · replace h := fl_if_f h c11
    refine lv_iconst (v := (1 : Int32)) hx hb dX0_settle_48 (by decide) ?_
    refine lv_goto (tgt := 53) hx hb dX0_settle_49 (by decide) ?_
    exact j_53 _ _ _ _ _ _ _ _ _ h hP hS (lv_sub hl [0, 1, 2, 3, 4] rfl)

def f_X0_drive (K0 : Nat) (K1 : Nat) (x2 : Int32) (x3 : Int32) (m : Mem) : Option (Int32 × Mem) :=
  fl_bd (f_X0_reckon K0 K1 x2 x3 m) (fun r1 m2 =>
    fl_li (m2.1 (K0 + 9) 2) (fun z4 =>
      fl_bd (f_X0_settle K0 K1 x2 x3 z4 m2) (fun r6 m7 =>
        fl_ck (z4 = 0 ∨ z4 = 1) (
          some (z4, m7)))))
set_option maxHeartbeats 4000000 in
set_option maxRecDepth 100000 in
theorem c_X0_drive (l : Launch) (D : va_G) (ca : Nat → ClassId) (ad : Nat → Nat) (hi : fl_inj L1 ad) (K0 : Nat) (hK0 : isCity K0) (K1 : Nat) (hK1 : isStand K1) (x2 : Int32) (x3 : Int32) (m : Mem) (v' : Int32) (M' : Mem) (h : f_X0_drive K0 K1 x2 x3 m = some (v', M')) : fl_M l L1 D ca ad yX0_drive cX0_drive 5 (some .boolean) 4 [.ref (ad K0), .ref (ad K1), .int x2, .int x3] m (some (.int v')) M' := by
  unfold f_X0_drive at h
  refine fl_ofW (by decide) hi (Nat.le_of_ble_eq_true rfl) ?_
  intro p e s mm args below meth c ls X hr hlk hP hl
  have hl : lv_has ls 5 [(0, .ref (ad K0)), (1, .ref (ad K1)), (2, .int x2), (3, .int x3)] := hl
  have X : fl_X p s mm args c cX0_drive 5 RX0 L1 D ca ad := X
  obtain ⟨hx, hb, hml, hown, hts, hE, -⟩ := id X
  have hS : va_S (fl_A L1 ad) s.heap s.heap [] := va_S.rf
  refine lv_aload_n hx hb dX0_drive_0 rfl (lv_at hl 0 rfl) ?_
  refine lv_aload_n hx hb dX0_drive_1 rfl (lv_at hl 1 rfl) ?_
  refine lv_iload_n hx hb dX0_drive_2 rfl (lv_at hl 2 rfl) ?_
  refine lv_iload_n hx hb dX0_drive_3 rfl (lv_at hl 3 rfl) ?_
  obtain ⟨r1, m2, hz3, h⟩ := fl_bd_e h
  refine fl_callV (av := [.ref (ad K1), .int x2, .int x3]) X hP hS hl.1 mv_X0_116 (c_X0_reckon l D ca ad hi K0 hK0 K1 hK1 x2 x3 m _ _ hz3) hK0.1 (fl_fit_rm (by omega) (by decide)) rfl (Nat.le_of_ble_eq_true rfl) dX0_drive_4 rfl (fun H locs hP hS => ?_)
  refine W.eq (g2 := F0 mm 7 ls []) rfl ?_
  refine lv_aload_n hx hb dX0_drive_7 rfl (lv_at hl 0 rfl) ?_
  refine fl_getr X hP fk_X0_39 hK0.1 rfl dX0_drive_8 ?_
  refine fl_geti X hP fk_X0_108 hK0.2.2.2.2.2.2.2.2.2 rfl dX0_drive_11 ?_
  obtain ⟨z4, ez5, h⟩ := fl_li_e h
  refine fl_topi ez5 ?_
  refine lv_istore (lv' := [(4, .int z4), (0, .ref (ad K0)), (1, .ref (ad K1)), (2, .int x2), (3, .int x3)]) hx hb dX0_drive_14 hl (by decide) rfl (fun ls hl => ?_)
  refine lv_aload_n hx hb dX0_drive_16 rfl (lv_at hl 1 rfl) ?_
  refine lv_aload_n hx hb dX0_drive_17 rfl (lv_at hl 2 rfl) ?_
  refine lv_iload_n hx hb dX0_drive_18 rfl (lv_at hl 3 rfl) ?_
  refine lv_iload_n hx hb dX0_drive_19 rfl (lv_at hl 4 rfl) ?_
  refine lv_iload hx hb dX0_drive_20 (lv_at hl 0 rfl) ?_
  obtain ⟨r6, m7, hz8, h⟩ := fl_bd_e h
  refine fl_callV (av := [.ref (ad K1), .int x2, .int x3, .int z4]) X hP hS hl.1 mv_X0_120 (c_X0_settle l D ca ad hi K0 hK0 K1 hK1 x2 x3 z4 m2 _ _ hz8) hK0.1 (fl_fit_rm (by omega) (by decide)) rfl (Nat.le_of_ble_eq_true rfl) dX0_drive_22 rfl (fun H locs hP hS => ?_)
  refine W.eq (g2 := F0 mm 25 ls []) rfl ?_
  refine lv_iload hx hb dX0_drive_25 (lv_at hl 0 rfl) ?_
  obtain ⟨hk9, h⟩ := fl_ck_e h
  exact fl_zret X hr hlk hk9 hP hS dX0_drive_27 h

def f_X0_driveSoonest (N : Nat) (K0 : Nat) (K1 : Nat) (x2 : Int32) (m : Mem) : Option (Int32 × Mem) :=
  fl_bd (f_X0_nearest N K0 K1 x2 m) (fun r1 m2 =>
    fl_bd (f_X0_drive K0 K1 r1 x2 m2) (fun r4 m5 =>
      fl_ck (r4 = 0 ∨ r4 = 1) (
        some (r4, m5))))
set_option maxHeartbeats 4000000 in
set_option maxRecDepth 100000 in
theorem c_X0_driveSoonest (l : Launch) (D : va_G) (ca : Nat → ClassId) (ad : Nat → Nat) (hi : fl_inj L1 ad) (N : Nat) (K0 : Nat) (hK0 : isCity K0) (K1 : Nat) (hK1 : isStand K1) (x2 : Int32) (m : Mem) (v' : Int32) (M' : Mem) (h : f_X0_driveSoonest N K0 K1 x2 m = some (v', M')) : fl_M l L1 D ca ad yX0_driveSoonest cX0_driveSoonest 3 (some .boolean) 5 [.ref (ad K0), .ref (ad K1), .int x2] m (some (.int v')) M' := by
  unfold f_X0_driveSoonest at h
  refine fl_ofW (by decide) hi (Nat.le_of_ble_eq_true rfl) ?_
  intro p e s mm args below meth c ls X hr hlk hP hl
  have hl : lv_has ls 3 [(0, .ref (ad K0)), (1, .ref (ad K1)), (2, .int x2)] := hl
  have X : fl_X p s mm args c cX0_driveSoonest 3 RX0 L1 D ca ad := X
  obtain ⟨hx, hb, hml, hown, hts, hE, -⟩ := id X
  have hS : va_S (fl_A L1 ad) s.heap s.heap [] := va_S.rf
  refine lv_aload_n hx hb dX0_driveSoonest_0 rfl (lv_at hl 0 rfl) ?_
  refine lv_aload_n hx hb dX0_driveSoonest_1 rfl (lv_at hl 1 rfl) ?_
  refine lv_aload_n hx hb dX0_driveSoonest_2 rfl (lv_at hl 0 rfl) ?_
  refine lv_aload_n hx hb dX0_driveSoonest_3 rfl (lv_at hl 1 rfl) ?_
  refine lv_iload_n hx hb dX0_driveSoonest_4 rfl (lv_at hl 2 rfl) ?_
  obtain ⟨r1, m2, hz3, h⟩ := fl_bd_e h
  refine fl_callV (av := [.ref (ad K1), .int x2]) X hP hS hl.1 mv_X0_124 (c_X0_nearest l D ca ad hi N K0 hK0 K1 hK1 x2 m _ _ hz3) hK0.1 (fl_fit_rm (by omega) (by decide)) rfl (Nat.le_of_ble_eq_true rfl) dX0_driveSoonest_5 rfl (fun H locs hP hS => ?_)
  refine W.eq (g2 := F0 mm 8 ls [.int r1, .ref (ad K1), .ref (ad K0)]) rfl ?_
  refine lv_iload_n hx hb dX0_driveSoonest_8 rfl (lv_at hl 2 rfl) ?_
  obtain ⟨r4, m5, hz6, h⟩ := fl_bd_e h
  refine fl_callV (av := [.ref (ad K1), .int r1, .int x2]) X hP hS hl.1 mv_X0_128 (c_X0_drive l D ca ad hi K0 hK0 K1 hK1 r1 x2 m2 _ _ hz6) hK0.1 (fl_fit_rm (by omega) (by decide)) rfl (Nat.le_of_ble_eq_true rfl) dX0_driveSoonest_9 rfl (fun H locs hP hS => ?_)
  refine W.eq (g2 := F0 mm 12 ls [.int r4]) rfl ?_
  obtain ⟨hk7, h⟩ := fl_ck_e h
  exact fl_zret X hr hlk hk7 hP hS dX0_driveSoonest_12 h

def f_X0_move (K0 : Nat) (K1 : Nat) (x2 : Int32) (x3 : Int32) (m : Mem) : Option (Int32 × Mem) :=
  fl_ck (0 ≤ x2.toInt ∧ x2.toInt < 3) (
    fl_ck (0 ≤ x2.toInt ∧ x2.toInt < 3) (
      fl_bd (f_X0_steps K0 (m.1 (K1 + 1) (x2.toNatClampNeg)) x3 m) (fun r3 m4 =>
        fl_ck (0 ≤ x2.toInt ∧ x2.toInt < 3) (
          fl_lm (mI m4 (K1 + 2) (x2.toNatClampNeg) ((fl_max (m.1 K1 0) (m.1 (K1 + 2) (x2.toNatClampNeg))) + r3)) (fun m7 =>
            fl_ck (0 ≤ x2.toInt ∧ x2.toInt < 3) (
              fl_lm (mI m7 (K1 + 1) (x2.toNatClampNeg) x3) (fun m10 =>
                some ((0 : Int32), m10))))))))
set_option maxHeartbeats 4000000 in
set_option maxRecDepth 100000 in
theorem c_X0_move (l : Launch) (D : va_G) (ca : Nat → ClassId) (ad : Nat → Nat) (hi : fl_inj L1 ad) (K0 : Nat) (hK0 : isCity K0) (K1 : Nat) (hK1 : isStand K1) (x2 : Int32) (x3 : Int32) (m : Mem) (v' : Int32) (M' : Mem) (h : f_X0_move K0 K1 x2 x3 m = some (v', M')) : fl_M l L1 D ca ad yX0_move cX0_move 4 none 2 [.ref (ad K0), .ref (ad K1), .int x2, .int x3] m none M' := by
  unfold f_X0_move at h
  refine fl_ofW (by decide) hi (Nat.le_of_ble_eq_true rfl) ?_
  intro p e s mm args below meth c ls X hr hlk hP hl
  have hl : lv_has ls 4 [(0, .ref (ad K0)), (1, .ref (ad K1)), (2, .int x2), (3, .int x3)] := hl
  have X : fl_X p s mm args c cX0_move 4 RX0 L1 D ca ad := X
  obtain ⟨hx, hb, hml, hown, hts, hE, -⟩ := id X
  have hS : va_S (fl_A L1 ad) s.heap s.heap [] := va_S.rf
  refine lv_aload_n hx hb dX0_move_0 rfl (lv_at hl 1 rfl) ?_
  refine fl_getr X hP fk_X0_90 hK1.1 rfl dX0_move_1 ?_
  refine lv_iload_n hx hb dX0_move_4 rfl (lv_at hl 2 rfl) ?_
  refine lv_aload_n hx hb dX0_move_5 rfl (lv_at hl 1 rfl) ?_
  refine fl_geti X hP fk_X0_87 hK1.1 rfl dX0_move_6 ?_
  refine lv_aload_n hx hb dX0_move_9 rfl (lv_at hl 1 rfl) ?_
  refine fl_getr X hP fk_X0_90 hK1.1 rfl dX0_move_10 ?_
  refine lv_iload_n hx hb dX0_move_13 rfl (lv_at hl 2 rfl) ?_
  obtain ⟨hk1, h⟩ := fl_ck_e h
  refine fl_iald X hP hK1.2.2.1 hk1 dX0_move_14 ?_
  refine va_mmax hx hb (hml.trans hl.1.symm) hown (hts _ wq_485) (hts _ wq_220) (hts _ wq_51) (hts _ wq_221) (fl_r1 (by omega)) (fl_r2 (by omega) (Nat.le_of_ble_eq_true rfl)) (Nat.le_refl 0) (Nat.le_refl 0) dX0_move_15 ?_
  refine lv_aload_n hx hb dX0_move_18 rfl (lv_at hl 0 rfl) ?_
  refine lv_aload_n hx hb dX0_move_19 rfl (lv_at hl 1 rfl) ?_
  refine fl_getr X hP fk_X0_100 hK1.1 rfl dX0_move_20 ?_
  refine lv_iload_n hx hb dX0_move_23 rfl (lv_at hl 2 rfl) ?_
  obtain ⟨hk2, h⟩ := fl_ck_e h
  refine fl_iald X hP hK1.2.1 hk2 dX0_move_24 ?_
  refine lv_iload_n hx hb dX0_move_25 rfl (lv_at hl 3 rfl) ?_
  obtain ⟨r3, m4, hz5, h⟩ := fl_bd_e h
  refine fl_callV (av := [.int (m.1 (K1 + 1) (x2.toNatClampNeg)), .int x3]) X hP hS hl.1 mv_X0_93 (c_X0_steps l D ca ad hi K0 hK0 (m.1 (K1 + 1) (x2.toNatClampNeg)) x3 m _ _ hz5) hK0.1 (fl_fit_rm (by omega) (by decide)) rfl (Nat.le_of_ble_eq_true rfl) dX0_move_26 rfl (fun H locs hP hS => ?_)
  refine W.eq (g2 := F0 mm 29 ls [.int r3, .int (fl_max (m.1 K1 0) (m.1 (K1 + 2) (x2.toNatClampNeg))), .int x2, .ref (ad (K1 + 2))]) rfl ?_
  refine lv_iadd hx hb dX0_move_29 ?_
  obtain ⟨hk6, h⟩ := fl_ck_e h
  obtain ⟨m7, em8, h⟩ := fl_lm_e h
  refine fl_iast X hP hS hK1.2.2.1 hk6 dX0_move_30 (fun H locs hP hS => ?_)
  have hP : va_P D vwCl (fl_w L1 ca ad m7) H := by rw [em8]; exact hP
  refine lv_aload_n hx hb dX0_move_31 rfl (lv_at hl 1 rfl) ?_
  refine fl_getr X hP fk_X0_100 hK1.1 rfl dX0_move_32 ?_
  refine lv_iload_n hx hb dX0_move_35 rfl (lv_at hl 2 rfl) ?_
  refine lv_iload_n hx hb dX0_move_36 rfl (lv_at hl 3 rfl) ?_
  obtain ⟨hk9, h⟩ := fl_ck_e h
  obtain ⟨m10, em11, h⟩ := fl_lm_e h
  refine fl_iast X hP hS hK1.2.1 hk9 dX0_move_37 (fun H locs hP hS => ?_)
  have hP : va_P D vwCl (fl_w L1 ca ad m10) H := by rw [em11]; exact hP
  exact fl_vret X hr hlk hP hS dX0_move_38 h
