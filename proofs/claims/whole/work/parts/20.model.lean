def f_X9_in (y0 : Int64) (y2 : Int64) (y4 : Int64) (m : Mem) : Option (Int32 × Mem) :=
  if (lg_cmp y0 y2) < 0 then (
    some ((0 : Int32), m))
  else (
    if 0 < (lg_cmp y0 y4) then (
      some ((0 : Int32), m))
    else (
      some ((1 : Int32), m)))
set_option maxHeartbeats 4000000 in
set_option maxRecDepth 100000 in
theorem c_X9_in (l : Launch) (D : va_G) (ca : Nat → ClassId) (ad : Nat → Nat) (hi : fl_inj L2 ad) (y0 : Int64) (y2 : Int64) (y4 : Int64) (m : Mem) (v' : Int32) (M' : Mem) (h : f_X9_in y0 y2 y4 m = some (v', M')) : fl_M l L2 D ca ad yX9_in cX9_in 6 (some .boolean) 1 [.long y0, .long y2, .long y4] m (some (.int v')) M' := by
  unfold f_X9_in at h
  refine fl_ofW (by decide) hi (Nat.le_of_ble_eq_true rfl) ?_
  intro p e s mm args below meth c ls X hr hlk hP hl
  have hl : lv_has ls 6 [(0, .long y0), (2, .long y2), (4, .long y4)] := hl
  have X : fl_X p s mm args c cX9_in 6 RX9 L2 D ca ad := X
  obtain ⟨hx, hb, hml, hown, hts, hE, -⟩ := id X
  have hS : va_S (fl_A L2 ad) s.heap s.heap [] := va_S.rf
  refine lv_lload_n hx hb dX9_in_0 rfl (lv_at hl 0 rfl) ?_
  refine lv_lload_n hx hb dX9_in_1 rfl (lv_at hl 1 rfl) ?_
  refine W.lcmp hx hb dX9_in_2 ?_
  refine lv_if_lt (tgt := 17) hx hb dX9_in_3 (by decide) (fun c1 => ?_) (fun c1 => ?_)
  · replace h := fl_if_t h c1
    refine lv_iconst (v := (0 : Int32)) hx hb dX9_in_17 (by decide) ?_
    exact fl_zret X hr hlk (by decide) hP hS dX9_in_18 h
  · replace h := fl_if_f h c1
    refine lv_lload_n hx hb dX9_in_6 rfl (lv_at hl 0 rfl) ?_
    refine lv_lload hx hb dX9_in_7 (lv_at hl 2 rfl) ?_
    refine W.lcmp hx hb dX9_in_9 ?_
    refine lv_if_gt (tgt := 17) hx hb dX9_in_10 (by decide) (fun c2 => ?_) (fun c2 => ?_)
    · replace h := fl_if_t h c2
      refine lv_iconst (v := (0 : Int32)) hx hb dX9_in_17 (by decide) ?_
      exact fl_zret X hr hlk (by decide) hP hS dX9_in_18 h
    · replace h := fl_if_f h c2
      refine lv_iconst (v := (1 : Int32)) hx hb dX9_in_13 (by decide) ?_
      refine lv_goto (tgt := 18) hx hb dX9_in_14 (by decide) ?_
      exact fl_zret X hr hlk (by decide) hP hS dX9_in_18 h

def f_X9_has (x0 : Int32) (x1 : Int32) (m : Mem) : Option (Int32 × Mem) :=
  if ((x0 >>> (x1 &&& 31)) &&& (1 : Int32)) = (1 : Int32) then (
    some ((1 : Int32), m))
  else (
    some ((0 : Int32), m))
set_option maxHeartbeats 4000000 in
set_option maxRecDepth 100000 in
theorem c_X9_has (l : Launch) (D : va_G) (ca : Nat → ClassId) (ad : Nat → Nat) (hi : fl_inj L2 ad) (x0 : Int32) (x1 : Int32) (m : Mem) (v' : Int32) (M' : Mem) (h : f_X9_has x0 x1 m = some (v', M')) : fl_M l L2 D ca ad yX9_has cX9_has 2 (some .boolean) 1 [.int x0, .int x1] m (some (.int v')) M' := by
  unfold f_X9_has at h
  refine fl_ofW (by decide) hi (Nat.le_of_ble_eq_true rfl) ?_
  intro p e s mm args below meth c ls X hr hlk hP hl
  have hl : lv_has ls 2 [(0, .int x0), (1, .int x1)] := hl
  have X : fl_X p s mm args c cX9_has 2 RX9 L2 D ca ad := X
  obtain ⟨hx, hb, hml, hown, hts, hE, -⟩ := id X
  have hS : va_S (fl_A L2 ad) s.heap s.heap [] := va_S.rf
  refine lv_iload_n hx hb dX9_has_0 rfl (lv_at hl 0 rfl) ?_
  refine lv_iload_n hx hb dX9_has_1 rfl (lv_at hl 1 rfl) ?_
  refine lv_ishr hx hb dX9_has_2 ?_
  refine lv_iconst (v := (1 : Int32)) hx hb dX9_has_3 (by decide) ?_
  refine lv_iand hx hb dX9_has_4 ?_
  refine lv_iconst (v := (1 : Int32)) hx hb dX9_has_5 (by decide) ?_
  refine lv_icmp_ne (tgt := 13) hx hb dX9_has_6 (by decide) (fun c1 => ?_) (fun c1 => ?_)
  · replace h := fl_if_f h c1
    refine lv_iconst (v := (0 : Int32)) hx hb dX9_has_13 (by decide) ?_
    exact fl_zret X hr hlk (by decide) hP hS dX9_has_14 h
  · replace h := fl_if_t h c1
    refine lv_iconst (v := (1 : Int32)) hx hb dX9_has_9 (by decide) ?_
    refine lv_goto (tgt := 14) hx hb dX9_has_10 (by decide) ?_
    exact fl_zret X hr hlk (by decide) hP hS dX9_has_14 h

def B_X9_ones_4 (N : Nat) (F : Int32 → Int32 → Int32 → Mem → Option (Int32 × Mem)) (x0 : Int32) (x1 : Int32) (x2 : Int32) (m : Mem) : Option (Int32 × Mem) :=
  if (7 : Int32) ≤ x2 then (
    some (x1, m))
  else (
    fl_li (x1 + ((x0 >>> (x2 &&& 31)) &&& (1 : Int32))) (fun z2 =>
      F x0 z2 (x2 + 1) m))
def l_X9_ones (N : Nat) : Nat → Int32 → Int32 → Int32 → Mem → Option (Int32 × Mem)
  | 0 => fun _ _ _ _ => none
  | n + 1 => fun x0 x1 x2 m => B_X9_ones_4 N (l_X9_ones N n) x0 x1 x2 m
def f_X9_ones (N : Nat) (x0 : Int32) (m : Mem) : Option (Int32 × Mem) :=
  (l_X9_ones N N) x0 (0 : Int32) (0 : Int32) m
set_option maxHeartbeats 4000000 in
set_option maxRecDepth 100000 in
theorem c_X9_ones (l : Launch) (D : va_G) (ca : Nat → ClassId) (ad : Nat → Nat) (hi : fl_inj L2 ad) (N : Nat) (x0 : Int32) (m : Mem) (v' : Int32) (M' : Mem) (h : f_X9_ones N x0 m = some (v', M')) : fl_M l L2 D ca ad yX9_ones cX9_ones 3 (some .int) 1 [.int x0] m (some (.int v')) M' := by
  unfold f_X9_ones at h
  refine fl_ofW (by decide) hi (Nat.le_of_ble_eq_true rfl) ?_
  intro p e s mm args below meth c ls X hr hlk hP hl
  have hl : lv_has ls 3 [(0, .int x0)] := hl
  have X : fl_X p s mm args c cX9_ones 3 RX9 L2 D ca ad := X
  obtain ⟨hx, hb, hml, hown, hts, hE, -⟩ := id X
  have hS : va_S (fl_A L2 ad) s.heap s.heap [] := va_S.rf
  have key : ∀ n : Nat, (∀ (x0 : Int32) (x1 : Int32) (x2 : Int32) (m : Mem) (H : Heap) (locs : List Loc) (ls : Array Slot), l_X9_ones N n x0 x1 x2 m = some (v', M') → va_P D vwCl (fl_w L2 ca ad m) H → va_S (fl_A L2 ad) s.heap H locs → lv_has ls 3 [(0, .int x0), (1, .int x1), (2, .int x2)] → W p l e (fl_rm 1) s mm args below meth c H locs 0 0 (MQ below (fl_Q L2 D ca ad (some (.int v')) M') args s 0 0 (fl_A L2 ad)) (F0 mm 4 ls [])) := by
    intro n
    induction n with
    | zero =>
      skip
      · intro x0 x1 x2 m H locs ls h hP hS hl
        have h : (none : Option (Int32 × Mem)) = some (v', M') := h
        cases h
    | succ n ih =>
      have ih_4 := ih
      skip
      · intro x0 x1 x2 m H locs ls h hP hS hl
        have h : B_X9_ones_4 N (l_X9_ones N n) x0 x1 x2 m = some (v', M') := h
        unfold B_X9_ones_4 at h
        refine lv_iload_n hx hb dX9_ones_4 rfl (lv_at hl 2 rfl) ?_
        refine lv_bipush (v := (7 : Int32)) hx hb dX9_ones_5 (by decide) ?_
        refine lv_icmp_ge (tgt := 24) hx hb dX9_ones_7 (by decide) (fun c1 => ?_) (fun c1 => ?_)
        · replace h := fl_if_t h c1
          refine lv_iload_n hx hb dX9_ones_24 rfl (lv_at hl 1 rfl) ?_
          exact fl_iret X hr hlk hP hS dX9_ones_25 h
        · replace h := fl_if_f h c1
          refine lv_iload_n hx hb dX9_ones_10 rfl (lv_at hl 1 rfl) ?_
          refine lv_iload_n hx hb dX9_ones_11 rfl (lv_at hl 0 rfl) ?_
          refine lv_iload_n hx hb dX9_ones_12 rfl (lv_at hl 2 rfl) ?_
          refine lv_ishr hx hb dX9_ones_13 ?_
          refine lv_iconst (v := (1 : Int32)) hx hb dX9_ones_14 (by decide) ?_
          refine lv_iand hx hb dX9_ones_15 ?_
          refine lv_iadd hx hb dX9_ones_16 ?_
          obtain ⟨z2, ez3, h⟩ := fl_li_e h
          refine fl_topi ez3 ?_
          refine lv_istore_n (lv' := [(1, .int z2), (0, .int x0), (2, .int x2)]) hx hb dX9_ones_17 rfl hl (by decide) rfl (fun ls hl => ?_)
          refine lv_iinc (v := x2 + 1) (lv' := [(2, .int (x2 + 1)), (1, .int z2), (0, .int x0)]) hx hb dX9_ones_18 hl (k := 2) rfl rfl (by decide) rfl (fun ls hl => ?_)
          refine lv_goto (tgt := 4) hx hb dX9_ones_21 (by decide) ?_
          exact ih_4 _ _ _ _ _ _ _ h hP hS (lv_sub hl [2, 1, 0] rfl)
  have ih_4 := key N
  refine lv_iconst (v := (0 : Int32)) hx hb dX9_ones_0 (by decide) ?_
  refine lv_istore_n (lv' := [(1, .int (0 : Int32)), (0, .int x0)]) hx hb dX9_ones_1 rfl hl (by decide) rfl (fun ls hl => ?_)
  refine lv_iconst (v := (0 : Int32)) hx hb dX9_ones_2 (by decide) ?_
  refine lv_istore_n (lv' := [(2, .int (0 : Int32)), (1, .int (0 : Int32)), (0, .int x0)]) hx hb dX9_ones_3 rfl hl (by decide) rfl (fun ls hl => ?_)
  exact ih_4 _ _ _ _ _ _ _ h hP hS (lv_sub hl [2, 1, 0] rfl)

def B_X9_copy_2 (N : Nat) (F : Int32 → Int32 → Int32 → Mem → Option (Int32 × Mem)) (x1 : Int32) (x2 : Int32) (x3 : Int32) (m : Mem) : Option (Int32 × Mem) :=
  if (19 : Int32) ≤ x3 then (
    some ((0 : Int32), m))
  else (
    fl_ck (0 ≤ (x1 + x3).toInt ∧ (x1 + x3).toInt < 380) (
      fl_ck (0 ≤ (x2 + x3).toInt ∧ (x2 + x3).toInt < 380) (
        fl_lm (mI m 1 ((x2 + x3).toNatClampNeg) (m.1 1 ((x1 + x3).toNatClampNeg))) (fun m4 =>
          F x1 x2 (x3 + 1) m4))))
def l_X9_copy (N : Nat) : Nat → Int32 → Int32 → Int32 → Mem → Option (Int32 × Mem)
  | 0 => fun _ _ _ _ => none
  | n + 1 => fun x1 x2 x3 m => B_X9_copy_2 N (l_X9_copy N n) x1 x2 x3 m
def f_X9_copy (N : Nat) (x1 : Int32) (x2 : Int32) (m : Mem) : Option (Int32 × Mem) :=
  (l_X9_copy N N) x1 x2 (0 : Int32) m
set_option maxHeartbeats 4000000 in
set_option maxRecDepth 100000 in
theorem c_X9_copy (l : Launch) (D : va_G) (ca : Nat → ClassId) (ad : Nat → Nat) (hi : fl_inj L2 ad) (N : Nat) (x1 : Int32) (x2 : Int32) (m : Mem) (v' : Int32) (M' : Mem) (h : f_X9_copy N x1 x2 m = some (v', M')) : fl_M l L2 D ca ad yX9_copy cX9_copy 4 none 1 [.ref (ad 0), .int x1, .int x2] m none M' := by
  unfold f_X9_copy at h
  refine fl_ofW (by decide) hi (Nat.le_of_ble_eq_true rfl) ?_
  intro p e s mm args below meth c ls X hr hlk hP hl
  have hl : lv_has ls 4 [(0, .ref (ad 0)), (1, .int x1), (2, .int x2)] := hl
  have X : fl_X p s mm args c cX9_copy 4 RX9 L2 D ca ad := X
  obtain ⟨hx, hb, hml, hown, hts, hE, -⟩ := id X
  have hS : va_S (fl_A L2 ad) s.heap s.heap [] := va_S.rf
  have key : ∀ n : Nat, (∀ (x1 : Int32) (x2 : Int32) (x3 : Int32) (m : Mem) (H : Heap) (locs : List Loc) (ls : Array Slot), l_X9_copy N n x1 x2 x3 m = some (v', M') → va_P D vwCl (fl_w L2 ca ad m) H → va_S (fl_A L2 ad) s.heap H locs → lv_has ls 4 [(0, .ref (ad 0)), (1, .int x1), (2, .int x2), (3, .int x3)] → W p l e (fl_rm 1) s mm args below meth c H locs 0 0 (MQ below (fl_Q L2 D ca ad none M') args s 0 0 (fl_A L2 ad)) (F0 mm 2 ls [])) := by
    intro n
    induction n with
    | zero =>
      skip
      · intro x1 x2 x3 m H locs ls h hP hS hl
        have h : (none : Option (Int32 × Mem)) = some (v', M') := h
        cases h
    | succ n ih =>
      have ih_2 := ih
      skip
      · intro x1 x2 x3 m H locs ls h hP hS hl
        have h : B_X9_copy_2 N (l_X9_copy N n) x1 x2 x3 m = some (v', M') := h
        unfold B_X9_copy_2 at h
        refine lv_iload_n hx hb dX9_copy_2 rfl (lv_at hl 3 rfl) ?_
        refine lv_bipush (v := (19 : Int32)) hx hb dX9_copy_3 (by decide) ?_
        refine lv_icmp_ge (tgt := 30) hx hb dX9_copy_5 (by decide) (fun c1 => ?_) (fun c1 => ?_)
        · replace h := fl_if_t h c1
          exact fl_vret X hr hlk hP hS dX9_copy_30 h
        · replace h := fl_if_f h c1
          refine lv_aload_n hx hb dX9_copy_8 rfl (lv_at hl 0 rfl) ?_
          refine fl_getr X hP fk_X9_7 k2_0 rfl dX9_copy_9 ?_
          refine lv_iload_n hx hb dX9_copy_12 rfl (lv_at hl 2 rfl) ?_
          refine lv_iload_n hx hb dX9_copy_13 rfl (lv_at hl 3 rfl) ?_
          refine lv_iadd hx hb dX9_copy_14 ?_
          refine lv_aload_n hx hb dX9_copy_15 rfl (lv_at hl 0 rfl) ?_
          refine fl_getr X hP fk_X9_7 k2_0 rfl dX9_copy_16 ?_
          refine lv_iload_n hx hb dX9_copy_19 rfl (lv_at hl 1 rfl) ?_
          refine lv_iload_n hx hb dX9_copy_20 rfl (lv_at hl 3 rfl) ?_
          refine lv_iadd hx hb dX9_copy_21 ?_
          obtain ⟨hk2, h⟩ := fl_ck_e h
          refine fl_iald X hP k2_1 hk2 dX9_copy_22 ?_
          obtain ⟨hk3, h⟩ := fl_ck_e h
          obtain ⟨m4, em5, h⟩ := fl_lm_e h
          refine fl_iast X hP hS k2_1 hk3 dX9_copy_23 (fun H locs hP hS => ?_)
          have hP : va_P D vwCl (fl_w L2 ca ad m4) H := by rw [em5]; exact hP
          refine lv_iinc (v := x3 + 1) (lv' := [(3, .int (x3 + 1)), (0, .ref (ad 0)), (1, .int x1), (2, .int x2)]) hx hb dX9_copy_24 hl (k := 3) rfl rfl (by decide) rfl (fun ls hl => ?_)
          refine lv_goto (tgt := 2) hx hb dX9_copy_27 (by decide) ?_
          exact ih_2 _ _ _ _ _ _ _ h hP hS (lv_sub hl [1, 2, 3, 0] rfl)
  have ih_2 := key N
  refine lv_iconst (v := (0 : Int32)) hx hb dX9_copy_0 (by decide) ?_
  refine lv_istore_n (lv' := [(3, .int (0 : Int32)), (0, .ref (ad 0)), (1, .int x1), (2, .int x2)]) hx hb dX9_copy_1 rfl hl (by decide) rfl (fun ls hl => ?_)
  exact ih_2 _ _ _ _ _ _ _ h hP hS (lv_sub hl [1, 2, 3, 0] rfl)

def f_X9_places  (m : Mem) : Option (Int32 × Mem) :=
  some ((m.1 0 3) * (m.1 0 4), m)
set_option maxHeartbeats 4000000 in
set_option maxRecDepth 100000 in
theorem c_X9_places (l : Launch) (D : va_G) (ca : Nat → ClassId) (ad : Nat → Nat) (hi : fl_inj L2 ad)  (m : Mem) (v' : Int32) (M' : Mem) (h : f_X9_places  m = some (v', M')) : fl_M l L2 D ca ad yX9_places cX9_places 1 (some .int) 1 [.ref (ad 0)] m (some (.int v')) M' := by
  unfold f_X9_places at h
  refine fl_ofW (by decide) hi (Nat.le_of_ble_eq_true rfl) ?_
  intro p e s mm args below meth c ls X hr hlk hP hl
  have hl : lv_has ls 1 [(0, .ref (ad 0))] := hl
  have X : fl_X p s mm args c cX9_places 1 RX9 L2 D ca ad := X
  obtain ⟨hx, hb, hml, hown, hts, hE, -⟩ := id X
  have hS : va_S (fl_A L2 ad) s.heap s.heap [] := va_S.rf
  refine lv_aload_n hx hb dX9_places_0 rfl (lv_at hl 0 rfl) ?_
  refine fl_geti X hP fk_X9_82 k2_0 rfl dX9_places_1 ?_
  refine lv_aload_n hx hb dX9_places_4 rfl (lv_at hl 0 rfl) ?_
  refine fl_geti X hP fk_X9_85 k2_0 rfl dX9_places_5 ?_
  refine lv_imul hx hb dX9_places_8 ?_
  exact fl_iret X hr hlk hP hS dX9_places_9 h

def f_X9_isPlace (x1 : Int32) (m : Mem) : Option (Int32 × Mem) :=
  fl_bd (f_X9_places  m) (fun r1 m2 =>
    fl_bd (f_X9_in x1.toInt64 (0 : Int64) ((r1 - (1 : Int32)).toInt64) m2) (fun r4 m5 =>
      fl_ck (r4 = 0 ∨ r4 = 1) (
        some (r4, m5))))
set_option maxHeartbeats 4000000 in
set_option maxRecDepth 100000 in
theorem c_X9_isPlace (l : Launch) (D : va_G) (ca : Nat → ClassId) (ad : Nat → Nat) (hi : fl_inj L2 ad) (x1 : Int32) (m : Mem) (v' : Int32) (M' : Mem) (h : f_X9_isPlace x1 m = some (v', M')) : fl_M l L2 D ca ad yX9_isPlace cX9_isPlace 2 (some .boolean) 2 [.ref (ad 0), .int x1] m (some (.int v')) M' := by
  unfold f_X9_isPlace at h
  refine fl_ofW (by decide) hi (Nat.le_of_ble_eq_true rfl) ?_
  intro p e s mm args below meth c ls X hr hlk hP hl
  have hl : lv_has ls 2 [(0, .ref (ad 0)), (1, .int x1)] := hl
  have X : fl_X p s mm args c cX9_isPlace 2 RX9 L2 D ca ad := X
  obtain ⟨hx, hb, hml, hown, hts, hE, -⟩ := id X
  have hS : va_S (fl_A L2 ad) s.heap s.heap [] := va_S.rf
  refine lv_iload_n hx hb dX9_isPlace_0 rfl (lv_at hl 1 rfl) ?_
  refine lv_i2l (v := x1.toInt64) hx hb dX9_isPlace_1 rfl ?_
  refine lv_lconst (v := (0 : Int64)) hx hb dX9_isPlace_2 (by decide) ?_
  refine lv_aload_n hx hb dX9_isPlace_3 rfl (lv_at hl 0 rfl) ?_
  obtain ⟨r1, m2, hz3, h⟩ := fl_bd_e h
  refine fl_callV (av := []) X hP hS hl.1 mv_X9_88 (c_X9_places l D ca ad hi  m _ _ hz3) k2_0 (fl_fit_rm (by omega) (by decide)) rfl (Nat.le_of_ble_eq_true rfl) dX9_isPlace_4 rfl (fun H locs hP hS => ?_)
  refine W.eq (g2 := F0 mm 7 ls [.int r1, .long (0 : Int64), .long x1.toInt64]) rfl ?_
  refine lv_iconst (v := (1 : Int32)) hx hb dX9_isPlace_7 (by decide) ?_
  refine lv_isub hx hb dX9_isPlace_8 ?_
  refine lv_i2l (v := (r1 - (1 : Int32)).toInt64) hx hb dX9_isPlace_9 rfl ?_
  obtain ⟨r4, m5, hz6, h⟩ := fl_bd_e h
  refine fl_callS (av := [.long x1.toInt64, .long (0 : Int64), .long ((r1 - (1 : Int32)).toInt64)]) X hP hS hl.1 ms_X9_92 (c_X9_in l D ca ad hi x1.toInt64 (0 : Int64) ((r1 - (1 : Int32)).toInt64) m2 _ _ hz6) (fl_fit_rm (by omega) (by decide)) rfl (Nat.le_of_ble_eq_true rfl) dX9_isPlace_10 rfl (fun H locs hP hS => ?_)
  refine W.eq (g2 := F0 mm 13 ls [.int r4]) rfl ?_
  obtain ⟨hk7, h⟩ := fl_ck_e h
  exact fl_zret X hr hlk hk7 hP hS dX9_isPlace_13 h

def f_X9_isCab (x1 : Int32) (m : Mem) : Option (Int32 × Mem) :=
  fl_bd (f_X9_in x1.toInt64 (0 : Int64) (((m.1 0 5) - (1 : Int32)).toInt64) m) (fun r1 m2 =>
    fl_ck (r1 = 0 ∨ r1 = 1) (
      some (r1, m2)))
set_option maxHeartbeats 4000000 in
set_option maxRecDepth 100000 in
theorem c_X9_isCab (l : Launch) (D : va_G) (ca : Nat → ClassId) (ad : Nat → Nat) (hi : fl_inj L2 ad) (x1 : Int32) (m : Mem) (v' : Int32) (M' : Mem) (h : f_X9_isCab x1 m = some (v', M')) : fl_M l L2 D ca ad yX9_isCab cX9_isCab 2 (some .boolean) 2 [.ref (ad 0), .int x1] m (some (.int v')) M' := by
  unfold f_X9_isCab at h
  refine fl_ofW (by decide) hi (Nat.le_of_ble_eq_true rfl) ?_
  intro p e s mm args below meth c ls X hr hlk hP hl
  have hl : lv_has ls 2 [(0, .ref (ad 0)), (1, .int x1)] := hl
  have X : fl_X p s mm args c cX9_isCab 2 RX9 L2 D ca ad := X
  obtain ⟨hx, hb, hml, hown, hts, hE, -⟩ := id X
  have hS : va_S (fl_A L2 ad) s.heap s.heap [] := va_S.rf
  refine lv_iload_n hx hb dX9_isCab_0 rfl (lv_at hl 1 rfl) ?_
  refine lv_i2l (v := x1.toInt64) hx hb dX9_isCab_1 rfl ?_
  refine lv_lconst (v := (0 : Int64)) hx hb dX9_isCab_2 (by decide) ?_
  refine lv_aload_n hx hb dX9_isCab_3 rfl (lv_at hl 0 rfl) ?_
  refine fl_geti X hP fk_X9_96 k2_0 rfl dX9_isCab_4 ?_
  refine lv_iconst (v := (1 : Int32)) hx hb dX9_isCab_7 (by decide) ?_
  refine lv_isub hx hb dX9_isCab_8 ?_
  refine lv_i2l (v := ((m.1 0 5) - (1 : Int32)).toInt64) hx hb dX9_isCab_9 rfl ?_
  obtain ⟨r1, m2, hz3, h⟩ := fl_bd_e h
  refine fl_callS (av := [.long x1.toInt64, .long (0 : Int64), .long (((m.1 0 5) - (1 : Int32)).toInt64)]) X hP hS hl.1 ms_X9_92 (c_X9_in l D ca ad hi x1.toInt64 (0 : Int64) (((m.1 0 5) - (1 : Int32)).toInt64) m _ _ hz3) (fl_fit_rm (by omega) (by decide)) rfl (Nat.le_of_ble_eq_true rfl) dX9_isCab_10 rfl (fun H locs hP hS => ?_)
  refine W.eq (g2 := F0 mm 13 ls [.int r1]) rfl ?_
  obtain ⟨hk4, h⟩ := fl_ck_e h
  exact fl_zret X hr hlk hk4 hP hS dX9_isCab_13 h

def f_X9_isFare (x1 : Int32) (m : Mem) : Option (Int32 × Mem) :=
  fl_bd (f_X9_in x1.toInt64 (0 : Int64) (((m.1 0 7) - (1 : Int32)).toInt64) m) (fun r1 m2 =>
    fl_ck (r1 = 0 ∨ r1 = 1) (
      some (r1, m2)))
set_option maxHeartbeats 4000000 in
set_option maxRecDepth 100000 in
theorem c_X9_isFare (l : Launch) (D : va_G) (ca : Nat → ClassId) (ad : Nat → Nat) (hi : fl_inj L2 ad) (x1 : Int32) (m : Mem) (v' : Int32) (M' : Mem) (h : f_X9_isFare x1 m = some (v', M')) : fl_M l L2 D ca ad yX9_isFare cX9_isFare 2 (some .boolean) 2 [.ref (ad 0), .int x1] m (some (.int v')) M' := by
  unfold f_X9_isFare at h
  refine fl_ofW (by decide) hi (Nat.le_of_ble_eq_true rfl) ?_
  intro p e s mm args below meth c ls X hr hlk hP hl
  have hl : lv_has ls 2 [(0, .ref (ad 0)), (1, .int x1)] := hl
  have X : fl_X p s mm args c cX9_isFare 2 RX9 L2 D ca ad := X
  obtain ⟨hx, hb, hml, hown, hts, hE, -⟩ := id X
  have hS : va_S (fl_A L2 ad) s.heap s.heap [] := va_S.rf
  refine lv_iload_n hx hb dX9_isFare_0 rfl (lv_at hl 1 rfl) ?_
  refine lv_i2l (v := x1.toInt64) hx hb dX9_isFare_1 rfl ?_
  refine lv_lconst (v := (0 : Int64)) hx hb dX9_isFare_2 (by decide) ?_
  refine lv_aload_n hx hb dX9_isFare_3 rfl (lv_at hl 0 rfl) ?_
  refine fl_geti X hP fk_X9_99 k2_0 rfl dX9_isFare_4 ?_
  refine lv_iconst (v := (1 : Int32)) hx hb dX9_isFare_7 (by decide) ?_
  refine lv_isub hx hb dX9_isFare_8 ?_
  refine lv_i2l (v := ((m.1 0 7) - (1 : Int32)).toInt64) hx hb dX9_isFare_9 rfl ?_
  obtain ⟨r1, m2, hz3, h⟩ := fl_bd_e h
  refine fl_callS (av := [.long x1.toInt64, .long (0 : Int64), .long (((m.1 0 7) - (1 : Int32)).toInt64)]) X hP hS hl.1 ms_X9_92 (c_X9_in l D ca ad hi x1.toInt64 (0 : Int64) (((m.1 0 7) - (1 : Int32)).toInt64) m _ _ hz3) (fl_fit_rm (by omega) (by decide)) rfl (Nat.le_of_ble_eq_true rfl) dX9_isFare_10 rfl (fun H locs hP hS => ?_)
  refine W.eq (g2 := F0 mm 13 ls [.int r1]) rfl ?_
  obtain ⟨hk4, h⟩ := fl_ck_e h
  exact fl_zret X hr hlk hk4 hP hS dX9_isFare_13 h

def f_X9_addsCab (x1 : Int32) (x2 : Int32) (x3 : Int32) (m : Mem) : Option (Int32 × Mem) :=
  fl_ck (0 ≤ ((3 : Int32) * (m.1 0 23)).toInt ∧ ((3 : Int32) * (m.1 0 23)).toInt < 9) (
    fl_lm (mI m 12 (((3 : Int32) * (m.1 0 23)).toNatClampNeg) x1) (fun m2 =>
      fl_ck (0 ≤ (((3 : Int32) * (m2.1 0 23)) + (1 : Int32)).toInt ∧ (((3 : Int32) * (m2.1 0 23)) + (1 : Int32)).toInt < 9) (
        fl_lm (mI m2 12 ((((3 : Int32) * (m2.1 0 23)) + (1 : Int32)).toNatClampNeg) x2) (fun m5 =>
          fl_ck (0 ≤ (((3 : Int32) * (m5.1 0 23)) + (2 : Int32)).toInt ∧ (((3 : Int32) * (m5.1 0 23)) + (2 : Int32)).toInt < 9) (
            fl_lm (mI m5 12 ((((3 : Int32) * (m5.1 0 23)) + (2 : Int32)).toNatClampNeg) x3) (fun m8 =>
              fl_lm (mI m8 0 23 ((m8.1 0 23) + (1 : Int32))) (fun m10 =>
                some ((0 : Int32), m10))))))))
set_option maxHeartbeats 4000000 in
set_option maxRecDepth 100000 in
theorem c_X9_addsCab (l : Launch) (D : va_G) (ca : Nat → ClassId) (ad : Nat → Nat) (hi : fl_inj L2 ad) (x1 : Int32) (x2 : Int32) (x3 : Int32) (m : Mem) (v' : Int32) (M' : Mem) (h : f_X9_addsCab x1 x2 x3 m = some (v', M')) : fl_M l L2 D ca ad yX9_addsCab cX9_addsCab 4 none 1 [.ref (ad 0), .int x1, .int x2, .int x3] m none M' := by
  unfold f_X9_addsCab at h
  refine fl_ofW (by decide) hi (Nat.le_of_ble_eq_true rfl) ?_
  intro p e s mm args below meth c ls X hr hlk hP hl
  have hl : lv_has ls 4 [(0, .ref (ad 0)), (1, .int x1), (2, .int x2), (3, .int x3)] := hl
  have X : fl_X p s mm args c cX9_addsCab 4 RX9 L2 D ca ad := X
  obtain ⟨hx, hb, hml, hown, hts, hE, -⟩ := id X
  have hS : va_S (fl_A L2 ad) s.heap s.heap [] := va_S.rf
  refine lv_aload_n hx hb dX9_addsCab_0 rfl (lv_at hl 0 rfl) ?_
  refine fl_getr X hP fk_X9_43 k2_0 rfl dX9_addsCab_1 ?_
  refine lv_iconst (v := (3 : Int32)) hx hb dX9_addsCab_4 (by decide) ?_
  refine lv_aload_n hx hb dX9_addsCab_5 rfl (lv_at hl 0 rfl) ?_
  refine fl_geti X hP fk_X9_102 k2_0 rfl dX9_addsCab_6 ?_
  refine lv_imul hx hb dX9_addsCab_9 ?_
  refine lv_iload_n hx hb dX9_addsCab_10 rfl (lv_at hl 1 rfl) ?_
  obtain ⟨hk1, h⟩ := fl_ck_e h
  obtain ⟨m2, em3, h⟩ := fl_lm_e h
  refine fl_iast X hP hS k2_12 hk1 dX9_addsCab_11 (fun H locs hP hS => ?_)
  have hP : va_P D vwCl (fl_w L2 ca ad m2) H := by rw [em3]; exact hP
  refine lv_aload_n hx hb dX9_addsCab_12 rfl (lv_at hl 0 rfl) ?_
  refine fl_getr X hP fk_X9_43 k2_0 rfl dX9_addsCab_13 ?_
  refine lv_iconst (v := (3 : Int32)) hx hb dX9_addsCab_16 (by decide) ?_
  refine lv_aload_n hx hb dX9_addsCab_17 rfl (lv_at hl 0 rfl) ?_
  refine fl_geti X hP fk_X9_102 k2_0 rfl dX9_addsCab_18 ?_
  refine lv_imul hx hb dX9_addsCab_21 ?_
  refine lv_iconst (v := (1 : Int32)) hx hb dX9_addsCab_22 (by decide) ?_
  refine lv_iadd hx hb dX9_addsCab_23 ?_
  refine lv_iload_n hx hb dX9_addsCab_24 rfl (lv_at hl 2 rfl) ?_
  obtain ⟨hk4, h⟩ := fl_ck_e h
  obtain ⟨m5, em6, h⟩ := fl_lm_e h
  refine fl_iast X hP hS k2_12 hk4 dX9_addsCab_25 (fun H locs hP hS => ?_)
  have hP : va_P D vwCl (fl_w L2 ca ad m5) H := by rw [em6]; exact hP
  refine lv_aload_n hx hb dX9_addsCab_26 rfl (lv_at hl 0 rfl) ?_
  refine fl_getr X hP fk_X9_43 k2_0 rfl dX9_addsCab_27 ?_
  refine lv_iconst (v := (3 : Int32)) hx hb dX9_addsCab_30 (by decide) ?_
  refine lv_aload_n hx hb dX9_addsCab_31 rfl (lv_at hl 0 rfl) ?_
  refine fl_geti X hP fk_X9_102 k2_0 rfl dX9_addsCab_32 ?_
  refine lv_imul hx hb dX9_addsCab_35 ?_
  refine lv_iconst (v := (2 : Int32)) hx hb dX9_addsCab_36 (by decide) ?_
  refine lv_iadd hx hb dX9_addsCab_37 ?_
  refine lv_iload_n hx hb dX9_addsCab_38 rfl (lv_at hl 3 rfl) ?_
  obtain ⟨hk7, h⟩ := fl_ck_e h
  obtain ⟨m8, em9, h⟩ := fl_lm_e h
  refine fl_iast X hP hS k2_12 hk7 dX9_addsCab_39 (fun H locs hP hS => ?_)
  have hP : va_P D vwCl (fl_w L2 ca ad m8) H := by rw [em9]; exact hP
  refine lv_aload_n hx hb dX9_addsCab_40 rfl (lv_at hl 0 rfl) ?_
  refine lv_dup hx hb dX9_addsCab_41 rfl ?_
  refine fl_geti X hP fk_X9_102 k2_0 rfl dX9_addsCab_42 ?_
  refine lv_iconst (v := (1 : Int32)) hx hb dX9_addsCab_45 (by decide) ?_
  refine lv_iadd hx hb dX9_addsCab_46 ?_
  obtain ⟨m10, em11, h⟩ := fl_lm_e h
  refine fl_puti X hP hS pk_X9_102 k2_0 rfl rfl rfl dX9_addsCab_47 (fun H locs hP hS => ?_)
  have hP : va_P D vwCl (fl_w L2 ca ad m10) H := by rw [em11]; exact hP
  exact fl_vret X hr hlk hP hS dX9_addsCab_50 h

def f_X9_addsFare (x1 : Int32) (x2 : Int32) (x3 : Int32) (x4 : Int32) (x5 : Int32) (m : Mem) : Option (Int32 × Mem) :=
  fl_ck (0 ≤ ((5 : Int32) * (m.1 0 25)).toInt ∧ ((5 : Int32) * (m.1 0 25)).toInt < 35) (
    fl_lm (mI m 13 (((5 : Int32) * (m.1 0 25)).toNatClampNeg) x1) (fun m2 =>
      fl_ck (0 ≤ (((5 : Int32) * (m2.1 0 25)) + (1 : Int32)).toInt ∧ (((5 : Int32) * (m2.1 0 25)) + (1 : Int32)).toInt < 35) (
        fl_lm (mI m2 13 ((((5 : Int32) * (m2.1 0 25)) + (1 : Int32)).toNatClampNeg) x2) (fun m5 =>
          fl_ck (0 ≤ (((5 : Int32) * (m5.1 0 25)) + (2 : Int32)).toInt ∧ (((5 : Int32) * (m5.1 0 25)) + (2 : Int32)).toInt < 35) (
            fl_lm (mI m5 13 ((((5 : Int32) * (m5.1 0 25)) + (2 : Int32)).toNatClampNeg) x3) (fun m8 =>
              fl_ck (0 ≤ (((5 : Int32) * (m8.1 0 25)) + (3 : Int32)).toInt ∧ (((5 : Int32) * (m8.1 0 25)) + (3 : Int32)).toInt < 35) (
                fl_lm (mI m8 13 ((((5 : Int32) * (m8.1 0 25)) + (3 : Int32)).toNatClampNeg) x4) (fun m11 =>
                  fl_ck (0 ≤ (((5 : Int32) * (m11.1 0 25)) + (4 : Int32)).toInt ∧ (((5 : Int32) * (m11.1 0 25)) + (4 : Int32)).toInt < 35) (
                    fl_lm (mI m11 13 ((((5 : Int32) * (m11.1 0 25)) + (4 : Int32)).toNatClampNeg) x5) (fun m14 =>
                      fl_lm (mI m14 0 25 ((m14.1 0 25) + (1 : Int32))) (fun m16 =>
                        some ((0 : Int32), m16))))))))))))
set_option maxHeartbeats 4000000 in
set_option maxRecDepth 100000 in
theorem c_X9_addsFare (l : Launch) (D : va_G) (ca : Nat → ClassId) (ad : Nat → Nat) (hi : fl_inj L2 ad) (x1 : Int32) (x2 : Int32) (x3 : Int32) (x4 : Int32) (x5 : Int32) (m : Mem) (v' : Int32) (M' : Mem) (h : f_X9_addsFare x1 x2 x3 x4 x5 m = some (v', M')) : fl_M l L2 D ca ad yX9_addsFare cX9_addsFare 6 none 1 [.ref (ad 0), .int x1, .int x2, .int x3, .int x4, .int x5] m none M' := by
  unfold f_X9_addsFare at h
  refine fl_ofW (by decide) hi (Nat.le_of_ble_eq_true rfl) ?_
  intro p e s mm args below meth c ls X hr hlk hP hl
  have hl : lv_has ls 6 [(0, .ref (ad 0)), (1, .int x1), (2, .int x2), (3, .int x3), (4, .int x4), (5, .int x5)] := hl
  have X : fl_X p s mm args c cX9_addsFare 6 RX9 L2 D ca ad := X
  obtain ⟨hx, hb, hml, hown, hts, hE, -⟩ := id X
  have hS : va_S (fl_A L2 ad) s.heap s.heap [] := va_S.rf
  refine lv_aload_n hx hb dX9_addsFare_0 rfl (lv_at hl 0 rfl) ?_
  refine fl_getr X hP fk_X9_46 k2_0 rfl dX9_addsFare_1 ?_
  refine lv_iconst (v := (5 : Int32)) hx hb dX9_addsFare_4 (by decide) ?_
  refine lv_aload_n hx hb dX9_addsFare_5 rfl (lv_at hl 0 rfl) ?_
  refine fl_geti X hP fk_X9_105 k2_0 rfl dX9_addsFare_6 ?_
  refine lv_imul hx hb dX9_addsFare_9 ?_
  refine lv_iload_n hx hb dX9_addsFare_10 rfl (lv_at hl 1 rfl) ?_
  obtain ⟨hk1, h⟩ := fl_ck_e h
  obtain ⟨m2, em3, h⟩ := fl_lm_e h
  refine fl_iast X hP hS k2_13 hk1 dX9_addsFare_11 (fun H locs hP hS => ?_)
  have hP : va_P D vwCl (fl_w L2 ca ad m2) H := by rw [em3]; exact hP
  refine lv_aload_n hx hb dX9_addsFare_12 rfl (lv_at hl 0 rfl) ?_
  refine fl_getr X hP fk_X9_46 k2_0 rfl dX9_addsFare_13 ?_
  refine lv_iconst (v := (5 : Int32)) hx hb dX9_addsFare_16 (by decide) ?_
  refine lv_aload_n hx hb dX9_addsFare_17 rfl (lv_at hl 0 rfl) ?_
  refine fl_geti X hP fk_X9_105 k2_0 rfl dX9_addsFare_18 ?_
  refine lv_imul hx hb dX9_addsFare_21 ?_
  refine lv_iconst (v := (1 : Int32)) hx hb dX9_addsFare_22 (by decide) ?_
  refine lv_iadd hx hb dX9_addsFare_23 ?_
  refine lv_iload_n hx hb dX9_addsFare_24 rfl (lv_at hl 2 rfl) ?_
  obtain ⟨hk4, h⟩ := fl_ck_e h
  obtain ⟨m5, em6, h⟩ := fl_lm_e h
  refine fl_iast X hP hS k2_13 hk4 dX9_addsFare_25 (fun H locs hP hS => ?_)
  have hP : va_P D vwCl (fl_w L2 ca ad m5) H := by rw [em6]; exact hP
  refine lv_aload_n hx hb dX9_addsFare_26 rfl (lv_at hl 0 rfl) ?_
  refine fl_getr X hP fk_X9_46 k2_0 rfl dX9_addsFare_27 ?_
  refine lv_iconst (v := (5 : Int32)) hx hb dX9_addsFare_30 (by decide) ?_
  refine lv_aload_n hx hb dX9_addsFare_31 rfl (lv_at hl 0 rfl) ?_
  refine fl_geti X hP fk_X9_105 k2_0 rfl dX9_addsFare_32 ?_
  refine lv_imul hx hb dX9_addsFare_35 ?_
  refine lv_iconst (v := (2 : Int32)) hx hb dX9_addsFare_36 (by decide) ?_
  refine lv_iadd hx hb dX9_addsFare_37 ?_
  refine lv_iload_n hx hb dX9_addsFare_38 rfl (lv_at hl 3 rfl) ?_
  obtain ⟨hk7, h⟩ := fl_ck_e h
  obtain ⟨m8, em9, h⟩ := fl_lm_e h
  refine fl_iast X hP hS k2_13 hk7 dX9_addsFare_39 (fun H locs hP hS => ?_)
  have hP : va_P D vwCl (fl_w L2 ca ad m8) H := by rw [em9]; exact hP
  refine lv_aload_n hx hb dX9_addsFare_40 rfl (lv_at hl 0 rfl) ?_
  refine fl_getr X hP fk_X9_46 k2_0 rfl dX9_addsFare_41 ?_
  refine lv_iconst (v := (5 : Int32)) hx hb dX9_addsFare_44 (by decide) ?_
  refine lv_aload_n hx hb dX9_addsFare_45 rfl (lv_at hl 0 rfl) ?_
  refine fl_geti X hP fk_X9_105 k2_0 rfl dX9_addsFare_46 ?_
  refine lv_imul hx hb dX9_addsFare_49 ?_
  refine lv_iconst (v := (3 : Int32)) hx hb dX9_addsFare_50 (by decide) ?_
  refine lv_iadd hx hb dX9_addsFare_51 ?_
  refine lv_iload hx hb dX9_addsFare_52 (lv_at hl 4 rfl) ?_
  obtain ⟨hk10, h⟩ := fl_ck_e h
  obtain ⟨m11, em12, h⟩ := fl_lm_e h
  refine fl_iast X hP hS k2_13 hk10 dX9_addsFare_54 (fun H locs hP hS => ?_)
  have hP : va_P D vwCl (fl_w L2 ca ad m11) H := by rw [em12]; exact hP
  refine lv_aload_n hx hb dX9_addsFare_55 rfl (lv_at hl 0 rfl) ?_
  refine fl_getr X hP fk_X9_46 k2_0 rfl dX9_addsFare_56 ?_
  refine lv_iconst (v := (5 : Int32)) hx hb dX9_addsFare_59 (by decide) ?_
  refine lv_aload_n hx hb dX9_addsFare_60 rfl (lv_at hl 0 rfl) ?_
  refine fl_geti X hP fk_X9_105 k2_0 rfl dX9_addsFare_61 ?_
  refine lv_imul hx hb dX9_addsFare_64 ?_
  refine lv_iconst (v := (4 : Int32)) hx hb dX9_addsFare_65 (by decide) ?_
  refine lv_iadd hx hb dX9_addsFare_66 ?_
  refine lv_iload hx hb dX9_addsFare_67 (lv_at hl 5 rfl) ?_
  obtain ⟨hk13, h⟩ := fl_ck_e h
  obtain ⟨m14, em15, h⟩ := fl_lm_e h
  refine fl_iast X hP hS k2_13 hk13 dX9_addsFare_69 (fun H locs hP hS => ?_)
  have hP : va_P D vwCl (fl_w L2 ca ad m14) H := by rw [em15]; exact hP
  refine lv_aload_n hx hb dX9_addsFare_70 rfl (lv_at hl 0 rfl) ?_
  refine lv_dup hx hb dX9_addsFare_71 rfl ?_
  refine fl_geti X hP fk_X9_105 k2_0 rfl dX9_addsFare_72 ?_
  refine lv_iconst (v := (1 : Int32)) hx hb dX9_addsFare_75 (by decide) ?_
  refine lv_iadd hx hb dX9_addsFare_76 ?_
  obtain ⟨m16, em17, h⟩ := fl_lm_e h
  refine fl_puti X hP hS pk_X9_105 k2_0 rfl rfl rfl dX9_addsFare_77 (fun H locs hP hS => ?_)
  have hP : va_P D vwCl (fl_w L2 ca ad m16) H := by rw [em17]; exact hP
  exact fl_vret X hr hlk hP hS dX9_addsFare_80 h

def B_X9_begins_141 (N : Nat) (F : Nat → Int32 → Mem → Option (Int32 × Mem)) (x1 : Int32) (m : Mem) : Option (Int32 × Mem) :=
  if (m.1 0 7) ≤ x1 then (
    fl_lm (mI m 0 1 (0 : Int32)) (fun m34 =>
      fl_lm (mI m34 0 2 (0 : Int32)) (fun m36 =>
        fl_lm (mI m36 0 13 (0 : Int32)) (fun m38 =>
          some ((0 : Int32), m38)))))
  else (
    fl_ck (0 ≤ ((5 : Int32) * x1).toInt ∧ ((5 : Int32) * x1).toInt < 35) (
      fl_ck (0 ≤ x1.toInt ∧ x1.toInt < 7) (
        fl_lm (mI m 3 (x1.toNatClampNeg) (m.1 13 (((5 : Int32) * x1).toNatClampNeg))) (fun m42 =>
          fl_ck (0 ≤ (((5 : Int32) * x1) + (1 : Int32)).toInt ∧ (((5 : Int32) * x1) + (1 : Int32)).toInt < 35) (
            fl_ck (0 ≤ x1.toInt ∧ x1.toInt < 7) (
              fl_lm (mI m42 4 (x1.toNatClampNeg) (m42.1 13 ((((5 : Int32) * x1) + (1 : Int32)).toNatClampNeg))) (fun m46 =>
                fl_ck (0 ≤ (((5 : Int32) * x1) + (2 : Int32)).toInt ∧ (((5 : Int32) * x1) + (2 : Int32)).toInt < 35) (
                  fl_ck (0 ≤ x1.toInt ∧ x1.toInt < 7) (
                    fl_lm (mI m46 5 (x1.toNatClampNeg) (m46.1 13 ((((5 : Int32) * x1) + (2 : Int32)).toNatClampNeg))) (fun m50 =>
                      fl_ck (0 ≤ (((5 : Int32) * x1) + (3 : Int32)).toInt ∧ (((5 : Int32) * x1) + (3 : Int32)).toInt < 35) (
                        fl_ck (0 ≤ x1.toInt ∧ x1.toInt < 7) (
                          fl_lm (mI m50 6 (x1.toNatClampNeg) (m50.1 13 ((((5 : Int32) * x1) + (3 : Int32)).toNatClampNeg))) (fun m54 =>
                            fl_ck (0 ≤ (((5 : Int32) * x1) + (4 : Int32)).toInt ∧ (((5 : Int32) * x1) + (4 : Int32)).toInt < 35) (
                              fl_ck (0 ≤ x1.toInt ∧ x1.toInt < 7) (
                                fl_lm (mI m54 7 (x1.toNatClampNeg) (m54.1 13 ((((5 : Int32) * x1) + (4 : Int32)).toNatClampNeg))) (fun m58 =>
                                  fl_ck (0 ≤ ((11 : Int32) + x1).toInt ∧ ((11 : Int32) + x1).toInt < 380) (
                                    fl_lm (mI m58 1 (((11 : Int32) + x1).toNatClampNeg) (-4 : Int32)) (fun m61 =>
                                      F 3 (x1 + 1) m61))))))))))))))))))
def B_X9_begins_55 (N : Nat) (F : Nat → Int32 → Mem → Option (Int32 × Mem)) (x1 : Int32) (m : Mem) : Option (Int32 × Mem) :=
  if (m.1 0 5) ≤ x1 then (
    F 3 (0 : Int32) m)
  else (
    fl_ck (0 ≤ (((3 : Int32) * x1) + (2 : Int32)).toInt ∧ (((3 : Int32) * x1) + (2 : Int32)).toInt < 9) (
      fl_li (m.1 12 ((((3 : Int32) * x1) + (2 : Int32)).toNatClampNeg)) (fun z15 =>
        fl_ck (0 ≤ ((3 : Int32) * x1).toInt ∧ ((3 : Int32) * x1).toInt < 9) (
          fl_ck (0 ≤ x1.toInt ∧ x1.toInt < 3) (
            fl_lm (mI m 2 (x1.toNatClampNeg) (m.1 12 (((3 : Int32) * x1).toNatClampNeg))) (fun m19 =>
              fl_ck (0 ≤ (((3 : Int32) * x1) + (1 : Int32)).toInt ∧ (((3 : Int32) * x1) + (1 : Int32)).toInt < 9) (
                fl_ck (0 ≤ ((1 : Int32) + x1).toInt ∧ ((1 : Int32) + x1).toInt < 380) (
                  fl_lm (mI m19 1 (((1 : Int32) + x1).toNatClampNeg) (m19.1 12 ((((3 : Int32) * x1) + (1 : Int32)).toNatClampNeg))) (fun m23 =>
                    fl_ck (0 ≤ ((1 : Int32) + x1).toInt ∧ ((1 : Int32) + x1).toInt < 380) (
                      if z15 = (m23.1 1 (((1 : Int32) + x1).toNatClampNeg)) then (
                        fl_ck (0 ≤ ((7 : Int32) + x1).toInt ∧ ((7 : Int32) + x1).toInt < 380) (
                          fl_lm (mI m23 1 (((7 : Int32) + x1).toNatClampNeg) (-4 : Int32)) (fun m31 =>
                            F 2 (x1 + 1) m31)))
                      else (
                        fl_ck (0 ≤ ((7 : Int32) + x1).toInt ∧ ((7 : Int32) + x1).toInt < 380) (
                          fl_lm (mI m23 1 (((7 : Int32) + x1).toNatClampNeg) z15) (fun m28 =>
                            F 2 (x1 + 1) m28)))))))))))))
def B_X9_begins_34 (N : Nat) (F : Nat → Int32 → Mem → Option (Int32 × Mem)) (x1 : Int32) (m : Mem) : Option (Int32 × Mem) :=
  if (19 : Int32) ≤ x1 then (
    F 2 (0 : Int32) m)
  else (
    fl_ck (0 ≤ x1.toInt ∧ x1.toInt < 380) (
      fl_lm (mI m 1 (x1.toNatClampNeg) (0 : Int32)) (fun m11 =>
        F 1 (x1 + 1) m11)))
def l_X9_begins (N : Nat) : Nat → Nat → Int32 → Mem → Option (Int32 × Mem)
  | 0 => fun _ _ _ => none
  | n + 1 => fun lab x1 m => if lab = 1 then B_X9_begins_34 N (l_X9_begins N n) x1 m else if lab = 2 then B_X9_begins_55 N (l_X9_begins N n) x1 m else if lab = 3 then B_X9_begins_141 N (l_X9_begins N n) x1 m else none
def f_X9_begins (N : Nat)  (m : Mem) : Option (Int32 × Mem) :=
  fl_lm (mI m 0 3 (m.1 0 21)) (fun m1 =>
    fl_lm (mI m1 0 4 (m1.1 0 22)) (fun m3 =>
      fl_lm (mI m3 0 5 (m3.1 0 23)) (fun m5 =>
        fl_lm (mI m5 0 7 (m5.1 0 25)) (fun m7 =>
          (l_X9_begins N N) 1 (0 : Int32) m7))))
set_option maxHeartbeats 4000000 in
set_option maxRecDepth 100000 in
theorem c_X9_begins (l : Launch) (D : va_G) (ca : Nat → ClassId) (ad : Nat → Nat) (hi : fl_inj L2 ad) (N : Nat)  (m : Mem) (v' : Int32) (M' : Mem) (h : f_X9_begins N  m = some (v', M')) : fl_M l L2 D ca ad yX9_begins cX9_begins 3 none 1 [.ref (ad 0)] m none M' := by
  unfold f_X9_begins at h
  refine fl_ofW (by decide) hi (Nat.le_of_ble_eq_true rfl) ?_
  intro p e s mm args below meth c ls X hr hlk hP hl
  have hl : lv_has ls 3 [(0, .ref (ad 0))] := hl
  have X : fl_X p s mm args c cX9_begins 3 RX9 L2 D ca ad := X
  obtain ⟨hx, hb, hml, hown, hts, hE, -⟩ := id X
  have hS : va_S (fl_A L2 ad) s.heap s.heap [] := va_S.rf
  have key : ∀ n : Nat, (∀ (x1 : Int32) (m : Mem) (H : Heap) (locs : List Loc) (ls : Array Slot), l_X9_begins N n 1 x1 m = some (v', M') → va_P D vwCl (fl_w L2 ca ad m) H → va_S (fl_A L2 ad) s.heap H locs → lv_has ls 3 [(0, .ref (ad 0)), (1, .int x1)] → W p l e (fl_rm 1) s mm args below meth c H locs 0 0 (MQ below (fl_Q L2 D ca ad none M') args s 0 0 (fl_A L2 ad)) (F0 mm 34 ls [])) ∧ (∀ (x1 : Int32) (m : Mem) (H : Heap) (locs : List Loc) (ls : Array Slot), l_X9_begins N n 2 x1 m = some (v', M') → va_P D vwCl (fl_w L2 ca ad m) H → va_S (fl_A L2 ad) s.heap H locs → lv_has ls 3 [(0, .ref (ad 0)), (1, .int x1)] → W p l e (fl_rm 1) s mm args below meth c H locs 0 0 (MQ below (fl_Q L2 D ca ad none M') args s 0 0 (fl_A L2 ad)) (F0 mm 55 ls [])) ∧ (∀ (x1 : Int32) (m : Mem) (H : Heap) (locs : List Loc) (ls : Array Slot), l_X9_begins N n 3 x1 m = some (v', M') → va_P D vwCl (fl_w L2 ca ad m) H → va_S (fl_A L2 ad) s.heap H locs → lv_has ls 3 [(0, .ref (ad 0)), (1, .int x1)] → W p l e (fl_rm 1) s mm args below meth c H locs 0 0 (MQ below (fl_Q L2 D ca ad none M') args s 0 0 (fl_A L2 ad)) (F0 mm 141 ls [])) := by
    intro n
    induction n with
    | zero =>
      refine ⟨?_, ?_, ?_⟩
      · intro x1 m H locs ls h hP hS hl
        have h : (none : Option (Int32 × Mem)) = some (v', M') := h
        cases h
      · intro x1 m H locs ls h hP hS hl
        have h : (none : Option (Int32 × Mem)) = some (v', M') := h
        cases h
      · intro x1 m H locs ls h hP hS hl
        have h : (none : Option (Int32 × Mem)) = some (v', M') := h
        cases h
    | succ n ih =>
      obtain ⟨ih_34, ih_55, ih_141⟩ := ih
      refine ⟨?_, ?_, ?_⟩
      · intro x1 m H locs ls h hP hS hl
        have h : B_X9_begins_34 N (l_X9_begins N n) x1 m = some (v', M') := h
        unfold B_X9_begins_34 at h
        refine lv_iload_n hx hb dX9_begins_34 rfl (lv_at hl 1 rfl) ?_
        refine lv_bipush (v := (19 : Int32)) hx hb dX9_begins_35 (by decide) ?_
        refine lv_icmp_ge (tgt := 53) hx hb dX9_begins_37 (by decide) (fun c9 => ?_) (fun c9 => ?_)
        · replace h := fl_if_t h c9
          refine lv_iconst (v := (0 : Int32)) hx hb dX9_begins_53 (by decide) ?_
          refine lv_istore_n (lv' := [(1, .int (0 : Int32)), (0, .ref (ad 0))]) hx hb dX9_begins_54 rfl hl (by decide) rfl (fun ls hl => ?_)
          exact ih_55 _ _ _ _ _ h hP hS (lv_sub hl [1, 0] rfl)
        · replace h := fl_if_f h c9
          refine lv_aload_n hx hb dX9_begins_40 rfl (lv_at hl 0 rfl) ?_
          refine fl_getr X hP fk_X9_7 k2_0 rfl dX9_begins_41 ?_
          refine lv_iload_n hx hb dX9_begins_44 rfl (lv_at hl 1 rfl) ?_
          refine lv_iconst (v := (0 : Int32)) hx hb dX9_begins_45 (by decide) ?_
          obtain ⟨hk10, h⟩ := fl_ck_e h
          obtain ⟨m11, em12, h⟩ := fl_lm_e h
          refine fl_iast X hP hS k2_1 hk10 dX9_begins_46 (fun H locs hP hS => ?_)
          have hP : va_P D vwCl (fl_w L2 ca ad m11) H := by rw [em12]; exact hP
          refine lv_iinc (v := x1 + 1) (lv' := [(1, .int (x1 + 1)), (0, .ref (ad 0))]) hx hb dX9_begins_47 hl (k := 1) rfl rfl (by decide) rfl (fun ls hl => ?_)
          refine lv_goto (tgt := 34) hx hb dX9_begins_50 (by decide) ?_
          exact ih_34 _ _ _ _ _ h hP hS (lv_sub hl [1, 0] rfl)
      · intro x1 m H locs ls h hP hS hl
        have h : B_X9_begins_55 N (l_X9_begins N n) x1 m = some (v', M') := h
        unfold B_X9_begins_55 at h
        refine lv_iload_n hx hb dX9_begins_55 rfl (lv_at hl 1 rfl) ?_
        refine lv_aload_n hx hb dX9_begins_56 rfl (lv_at hl 0 rfl) ?_
        refine fl_geti X hP fk_X9_96 k2_0 rfl dX9_begins_57 ?_
        refine lv_icmp_ge (tgt := 139) hx hb dX9_begins_60 (by decide) (fun c13 => ?_) (fun c13 => ?_)
        · replace h := fl_if_t h c13
          refine lv_iconst (v := (0 : Int32)) hx hb dX9_begins_139 (by decide) ?_
          refine lv_istore_n (lv' := [(1, .int (0 : Int32)), (0, .ref (ad 0))]) hx hb dX9_begins_140 rfl hl (by decide) rfl (fun ls hl => ?_)
          exact ih_141 _ _ _ _ _ h hP hS (lv_sub hl [1, 0] rfl)
        · replace h := fl_if_f h c13
          refine lv_aload_n hx hb dX9_begins_63 rfl (lv_at hl 0 rfl) ?_
          refine fl_getr X hP fk_X9_43 k2_0 rfl dX9_begins_64 ?_
          refine lv_iconst (v := (3 : Int32)) hx hb dX9_begins_67 (by decide) ?_
          refine lv_iload_n hx hb dX9_begins_68 rfl (lv_at hl 1 rfl) ?_
          refine lv_imul hx hb dX9_begins_69 ?_
          refine lv_iconst (v := (2 : Int32)) hx hb dX9_begins_70 (by decide) ?_
          refine lv_iadd hx hb dX9_begins_71 ?_
          obtain ⟨hk14, h⟩ := fl_ck_e h
          refine fl_iald X hP k2_12 hk14 dX9_begins_72 ?_
          obtain ⟨z15, ez16, h⟩ := fl_li_e h
          refine fl_topi ez16 ?_
          refine lv_istore_n (lv' := [(2, .int z15), (0, .ref (ad 0)), (1, .int x1)]) hx hb dX9_begins_73 rfl hl (by decide) rfl (fun ls hl => ?_)
          refine lv_aload_n hx hb dX9_begins_74 rfl (lv_at hl 1 rfl) ?_
          refine fl_getr X hP fk_X9_13 k2_0 rfl dX9_begins_75 ?_
          refine lv_iload_n hx hb dX9_begins_78 rfl (lv_at hl 2 rfl) ?_
          refine lv_aload_n hx hb dX9_begins_79 rfl (lv_at hl 1 rfl) ?_
          refine fl_getr X hP fk_X9_43 k2_0 rfl dX9_begins_80 ?_
          refine lv_iconst (v := (3 : Int32)) hx hb dX9_begins_83 (by decide) ?_
          refine lv_iload_n hx hb dX9_begins_84 rfl (lv_at hl 2 rfl) ?_
          refine lv_imul hx hb dX9_begins_85 ?_
          obtain ⟨hk17, h⟩ := fl_ck_e h
          refine fl_iald X hP k2_12 hk17 dX9_begins_86 ?_
          obtain ⟨hk18, h⟩ := fl_ck_e h
          obtain ⟨m19, em20, h⟩ := fl_lm_e h
          refine fl_iast X hP hS k2_2 hk18 dX9_begins_87 (fun H locs hP hS => ?_)
          have hP : va_P D vwCl (fl_w L2 ca ad m19) H := by rw [em20]; exact hP
          refine lv_aload_n hx hb dX9_begins_88 rfl (lv_at hl 1 rfl) ?_
          refine fl_getr X hP fk_X9_7 k2_0 rfl dX9_begins_89 ?_
          refine lv_iconst (v := (1 : Int32)) hx hb dX9_begins_92 (by decide) ?_
          refine lv_iload_n hx hb dX9_begins_93 rfl (lv_at hl 2 rfl) ?_
          refine lv_iadd hx hb dX9_begins_94 ?_
          refine lv_aload_n hx hb dX9_begins_95 rfl (lv_at hl 1 rfl) ?_
          refine fl_getr X hP fk_X9_43 k2_0 rfl dX9_begins_96 ?_
          refine lv_iconst (v := (3 : Int32)) hx hb dX9_begins_99 (by decide) ?_
          refine lv_iload_n hx hb dX9_begins_100 rfl (lv_at hl 2 rfl) ?_
          refine lv_imul hx hb dX9_begins_101 ?_
          refine lv_iconst (v := (1 : Int32)) hx hb dX9_begins_102 (by decide) ?_
          refine lv_iadd hx hb dX9_begins_103 ?_
          obtain ⟨hk21, h⟩ := fl_ck_e h
          refine fl_iald X hP k2_12 hk21 dX9_begins_104 ?_
          obtain ⟨hk22, h⟩ := fl_ck_e h
          obtain ⟨m23, em24, h⟩ := fl_lm_e h
          refine fl_iast X hP hS k2_1 hk22 dX9_begins_105 (fun H locs hP hS => ?_)
          have hP : va_P D vwCl (fl_w L2 ca ad m23) H := by rw [em24]; exact hP
          refine lv_aload_n hx hb dX9_begins_106 rfl (lv_at hl 1 rfl) ?_
          refine fl_getr X hP fk_X9_7 k2_0 rfl dX9_begins_107 ?_
          refine lv_bipush (v := (7 : Int32)) hx hb dX9_begins_110 (by decide) ?_
          refine lv_iload_n hx hb dX9_begins_112 rfl (lv_at hl 2 rfl) ?_
          refine lv_iadd hx hb dX9_begins_113 ?_
          refine lv_iload_n hx hb dX9_begins_114 rfl (lv_at hl 0 rfl) ?_
          refine lv_aload_n hx hb dX9_begins_115 rfl (lv_at hl 1 rfl) ?_
          refine fl_getr X hP fk_X9_7 k2_0 rfl dX9_begins_116 ?_
          refine lv_iconst (v := (1 : Int32)) hx hb dX9_begins_119 (by decide) ?_
          refine lv_iload_n hx hb dX9_begins_120 rfl (lv_at hl 2 rfl) ?_
          refine lv_iadd hx hb dX9_begins_121 ?_
          obtain ⟨hk25, h⟩ := fl_ck_e h
          refine fl_iald X hP k2_1 hk25 dX9_begins_122 ?_
          refine lv_icmp_ne (tgt := 131) hx hb dX9_begins_123 (by decide) (fun c26 => ?_) (fun c26 => ?_)
          · replace h := fl_if_f h c26
            refine lv_iload_n hx hb dX9_begins_131 rfl (lv_at hl 0 rfl) ?_
            obtain ⟨hk27, h⟩ := fl_ck_e h
            obtain ⟨m28, em29, h⟩ := fl_lm_e h
            refine fl_iast X hP hS k2_1 hk27 dX9_begins_132 (fun H locs hP hS => ?_)
            have hP : va_P D vwCl (fl_w L2 ca ad m28) H := by rw [em29]; exact hP
            refine lv_iinc (v := x1 + 1) (lv' := [(1, .int (x1 + 1)), (2, .int z15), (0, .ref (ad 0))]) hx hb dX9_begins_133 hl (k := 2) rfl rfl (by decide) rfl (fun ls hl => ?_)
            refine lv_goto (tgt := 55) hx hb dX9_begins_136 (by decide) ?_
            exact ih_55 _ _ _ _ _ h hP hS (lv_sub hl [2, 0] rfl)
          · replace h := fl_if_t h c26
            refine lv_bipush (v := (-4 : Int32)) hx hb dX9_begins_126 (by decide) ?_
            refine lv_goto (tgt := 132) hx hb dX9_begins_128 (by decide) ?_
            obtain ⟨hk30, h⟩ := fl_ck_e h
            obtain ⟨m31, em32, h⟩ := fl_lm_e h
            refine fl_iast X hP hS k2_1 hk30 dX9_begins_132 (fun H locs hP hS => ?_)
            have hP : va_P D vwCl (fl_w L2 ca ad m31) H := by rw [em32]; exact hP
            refine lv_iinc (v := x1 + 1) (lv' := [(1, .int (x1 + 1)), (2, .int z15), (0, .ref (ad 0))]) hx hb dX9_begins_133 hl (k := 2) rfl rfl (by decide) rfl (fun ls hl => ?_)
            refine lv_goto (tgt := 55) hx hb dX9_begins_136 (by decide) ?_
            exact ih_55 _ _ _ _ _ h hP hS (lv_sub hl [2, 0] rfl)
      · intro x1 m H locs ls h hP hS hl
        have h : B_X9_begins_141 N (l_X9_begins N n) x1 m = some (v', M') := h
        unfold B_X9_begins_141 at h
        refine lv_iload_n hx hb dX9_begins_141 rfl (lv_at hl 1 rfl) ?_
        refine lv_aload_n hx hb dX9_begins_142 rfl (lv_at hl 0 rfl) ?_
        refine fl_geti X hP fk_X9_99 k2_0 rfl dX9_begins_143 ?_
        refine lv_icmp_ge (tgt := 244) hx hb dX9_begins_146 (by decide) (fun c33 => ?_) (fun c33 => ?_)
        · replace h := fl_if_t h c33
          refine lv_aload_n hx hb dX9_begins_244 rfl (lv_at hl 0 rfl) ?_
          refine lv_iconst (v := (0 : Int32)) hx hb dX9_begins_245 (by decide) ?_
          obtain ⟨m34, em35, h⟩ := fl_lm_e h
          refine fl_puti X hP hS pk_X9_108 k2_0 rfl rfl rfl dX9_begins_246 (fun H locs hP hS => ?_)
          have hP : va_P D vwCl (fl_w L2 ca ad m34) H := by rw [em35]; exact hP
          refine lv_aload_n hx hb dX9_begins_249 rfl (lv_at hl 0 rfl) ?_
          refine lv_iconst (v := (0 : Int32)) hx hb dX9_begins_250 (by decide) ?_
          obtain ⟨m36, em37, h⟩ := fl_lm_e h
          refine fl_puti X hP hS pk_X9_111 k2_0 rfl rfl rfl dX9_begins_251 (fun H locs hP hS => ?_)
          have hP : va_P D vwCl (fl_w L2 ca ad m36) H := by rw [em37]; exact hP
          refine lv_aload_n hx hb dX9_begins_254 rfl (lv_at hl 0 rfl) ?_
          refine lv_iconst (v := (0 : Int32)) hx hb dX9_begins_255 (by decide) ?_
          obtain ⟨m38, em39, h⟩ := fl_lm_e h
          refine fl_puti X hP hS pk_X9_114 k2_0 rfl rfl rfl dX9_begins_256 (fun H locs hP hS => ?_)
          have hP : va_P D vwCl (fl_w L2 ca ad m38) H := by rw [em39]; exact hP
          exact fl_vret X hr hlk hP hS dX9_begins_259 h
        · replace h := fl_if_f h c33
          refine lv_aload_n hx hb dX9_begins_149 rfl (lv_at hl 0 rfl) ?_
          refine fl_getr X hP fk_X9_16 k2_0 rfl dX9_begins_150 ?_
          refine lv_iload_n hx hb dX9_begins_153 rfl (lv_at hl 1 rfl) ?_
          refine lv_aload_n hx hb dX9_begins_154 rfl (lv_at hl 0 rfl) ?_
          refine fl_getr X hP fk_X9_46 k2_0 rfl dX9_begins_155 ?_
          refine lv_iconst (v := (5 : Int32)) hx hb dX9_begins_158 (by decide) ?_
          refine lv_iload_n hx hb dX9_begins_159 rfl (lv_at hl 1 rfl) ?_
          refine lv_imul hx hb dX9_begins_160 ?_
          obtain ⟨hk40, h⟩ := fl_ck_e h
          refine fl_iald X hP k2_13 hk40 dX9_begins_161 ?_
          obtain ⟨hk41, h⟩ := fl_ck_e h
          obtain ⟨m42, em43, h⟩ := fl_lm_e h
          refine fl_iast X hP hS k2_3 hk41 dX9_begins_162 (fun H locs hP hS => ?_)
          have hP : va_P D vwCl (fl_w L2 ca ad m42) H := by rw [em43]; exact hP
          refine lv_aload_n hx hb dX9_begins_163 rfl (lv_at hl 0 rfl) ?_
          refine fl_getr X hP fk_X9_19 k2_0 rfl dX9_begins_164 ?_
          refine lv_iload_n hx hb dX9_begins_167 rfl (lv_at hl 1 rfl) ?_
          refine lv_aload_n hx hb dX9_begins_168 rfl (lv_at hl 0 rfl) ?_
          refine fl_getr X hP fk_X9_46 k2_0 rfl dX9_begins_169 ?_
          refine lv_iconst (v := (5 : Int32)) hx hb dX9_begins_172 (by decide) ?_
          refine lv_iload_n hx hb dX9_begins_173 rfl (lv_at hl 1 rfl) ?_
          refine lv_imul hx hb dX9_begins_174 ?_
          refine lv_iconst (v := (1 : Int32)) hx hb dX9_begins_175 (by decide) ?_
          refine lv_iadd hx hb dX9_begins_176 ?_
          obtain ⟨hk44, h⟩ := fl_ck_e h
          refine fl_iald X hP k2_13 hk44 dX9_begins_177 ?_
          obtain ⟨hk45, h⟩ := fl_ck_e h
          obtain ⟨m46, em47, h⟩ := fl_lm_e h
          refine fl_iast X hP hS k2_4 hk45 dX9_begins_178 (fun H locs hP hS => ?_)
          have hP : va_P D vwCl (fl_w L2 ca ad m46) H := by rw [em47]; exact hP
          refine lv_aload_n hx hb dX9_begins_179 rfl (lv_at hl 0 rfl) ?_
          refine fl_getr X hP fk_X9_22 k2_0 rfl dX9_begins_180 ?_
          refine lv_iload_n hx hb dX9_begins_183 rfl (lv_at hl 1 rfl) ?_
          refine lv_aload_n hx hb dX9_begins_184 rfl (lv_at hl 0 rfl) ?_
          refine fl_getr X hP fk_X9_46 k2_0 rfl dX9_begins_185 ?_
          refine lv_iconst (v := (5 : Int32)) hx hb dX9_begins_188 (by decide) ?_
          refine lv_iload_n hx hb dX9_begins_189 rfl (lv_at hl 1 rfl) ?_
          refine lv_imul hx hb dX9_begins_190 ?_
          refine lv_iconst (v := (2 : Int32)) hx hb dX9_begins_191 (by decide) ?_
          refine lv_iadd hx hb dX9_begins_192 ?_
          obtain ⟨hk48, h⟩ := fl_ck_e h
          refine fl_iald X hP k2_13 hk48 dX9_begins_193 ?_
          obtain ⟨hk49, h⟩ := fl_ck_e h
          obtain ⟨m50, em51, h⟩ := fl_lm_e h
          refine fl_iast X hP hS k2_5 hk49 dX9_begins_194 (fun H locs hP hS => ?_)
          have hP : va_P D vwCl (fl_w L2 ca ad m50) H := by rw [em51]; exact hP
          refine lv_aload_n hx hb dX9_begins_195 rfl (lv_at hl 0 rfl) ?_
          refine fl_getr X hP fk_X9_25 k2_0 rfl dX9_begins_196 ?_
          refine lv_iload_n hx hb dX9_begins_199 rfl (lv_at hl 1 rfl) ?_
          refine lv_aload_n hx hb dX9_begins_200 rfl (lv_at hl 0 rfl) ?_
          refine fl_getr X hP fk_X9_46 k2_0 rfl dX9_begins_201 ?_
          refine lv_iconst (v := (5 : Int32)) hx hb dX9_begins_204 (by decide) ?_
          refine lv_iload_n hx hb dX9_begins_205 rfl (lv_at hl 1 rfl) ?_
          refine lv_imul hx hb dX9_begins_206 ?_
          refine lv_iconst (v := (3 : Int32)) hx hb dX9_begins_207 (by decide) ?_
          refine lv_iadd hx hb dX9_begins_208 ?_
          obtain ⟨hk52, h⟩ := fl_ck_e h
          refine fl_iald X hP k2_13 hk52 dX9_begins_209 ?_
          obtain ⟨hk53, h⟩ := fl_ck_e h
          obtain ⟨m54, em55, h⟩ := fl_lm_e h
          refine fl_iast X hP hS k2_6 hk53 dX9_begins_210 (fun H locs hP hS => ?_)
          have hP : va_P D vwCl (fl_w L2 ca ad m54) H := by rw [em55]; exact hP
          refine lv_aload_n hx hb dX9_begins_211 rfl (lv_at hl 0 rfl) ?_
          refine fl_getr X hP fk_X9_28 k2_0 rfl dX9_begins_212 ?_
          refine lv_iload_n hx hb dX9_begins_215 rfl (lv_at hl 1 rfl) ?_
          refine lv_aload_n hx hb dX9_begins_216 rfl (lv_at hl 0 rfl) ?_
          refine fl_getr X hP fk_X9_46 k2_0 rfl dX9_begins_217 ?_
          refine lv_iconst (v := (5 : Int32)) hx hb dX9_begins_220 (by decide) ?_
          refine lv_iload_n hx hb dX9_begins_221 rfl (lv_at hl 1 rfl) ?_
          refine lv_imul hx hb dX9_begins_222 ?_
          refine lv_iconst (v := (4 : Int32)) hx hb dX9_begins_223 (by decide) ?_
          refine lv_iadd hx hb dX9_begins_224 ?_
          obtain ⟨hk56, h⟩ := fl_ck_e h
          refine fl_iald X hP k2_13 hk56 dX9_begins_225 ?_
          obtain ⟨hk57, h⟩ := fl_ck_e h
          obtain ⟨m58, em59, h⟩ := fl_lm_e h
          refine fl_iast X hP hS k2_7 hk57 dX9_begins_226 (fun H locs hP hS => ?_)
          have hP : va_P D vwCl (fl_w L2 ca ad m58) H := by rw [em59]; exact hP
          refine lv_aload_n hx hb dX9_begins_227 rfl (lv_at hl 0 rfl) ?_
          refine fl_getr X hP fk_X9_7 k2_0 rfl dX9_begins_228 ?_
          refine lv_bipush (v := (11 : Int32)) hx hb dX9_begins_231 (by decide) ?_
          refine lv_iload_n hx hb dX9_begins_233 rfl (lv_at hl 1 rfl) ?_
          refine lv_iadd hx hb dX9_begins_234 ?_
          refine lv_bipush (v := (-4 : Int32)) hx hb dX9_begins_235 (by decide) ?_
          obtain ⟨hk60, h⟩ := fl_ck_e h
          obtain ⟨m61, em62, h⟩ := fl_lm_e h
          refine fl_iast X hP hS k2_1 hk60 dX9_begins_237 (fun H locs hP hS => ?_)
          have hP : va_P D vwCl (fl_w L2 ca ad m61) H := by rw [em62]; exact hP
          refine lv_iinc (v := x1 + 1) (lv' := [(1, .int (x1 + 1)), (0, .ref (ad 0))]) hx hb dX9_begins_238 hl (k := 1) rfl rfl (by decide) rfl (fun ls hl => ?_)
          refine lv_goto (tgt := 141) hx hb dX9_begins_241 (by decide) ?_
          exact ih_141 _ _ _ _ _ h hP hS (lv_sub hl [1, 0] rfl)
  obtain ⟨ih_34, ih_55, ih_141⟩ := key N
  refine lv_aload_n hx hb dX9_begins_0 rfl (lv_at hl 0 rfl) ?_
  refine lv_aload_n hx hb dX9_begins_1 rfl (lv_at hl 0 rfl) ?_
  refine fl_geti X hP fk_X9_64 k2_0 rfl dX9_begins_2 ?_
  obtain ⟨m1, em2, h⟩ := fl_lm_e h
  refine fl_puti X hP hS pk_X9_82 k2_0 rfl rfl rfl dX9_begins_5 (fun H locs hP hS => ?_)
  have hP : va_P D vwCl (fl_w L2 ca ad m1) H := by rw [em2]; exact hP
  refine lv_aload_n hx hb dX9_begins_8 rfl (lv_at hl 0 rfl) ?_
  refine lv_aload_n hx hb dX9_begins_9 rfl (lv_at hl 0 rfl) ?_
  refine fl_geti X hP fk_X9_68 k2_0 rfl dX9_begins_10 ?_
  obtain ⟨m3, em4, h⟩ := fl_lm_e h
  refine fl_puti X hP hS pk_X9_85 k2_0 rfl rfl rfl dX9_begins_13 (fun H locs hP hS => ?_)
  have hP : va_P D vwCl (fl_w L2 ca ad m3) H := by rw [em4]; exact hP
  refine lv_aload_n hx hb dX9_begins_16 rfl (lv_at hl 0 rfl) ?_
  refine lv_aload_n hx hb dX9_begins_17 rfl (lv_at hl 0 rfl) ?_
  refine fl_geti X hP fk_X9_102 k2_0 rfl dX9_begins_18 ?_
  obtain ⟨m5, em6, h⟩ := fl_lm_e h
  refine fl_puti X hP hS pk_X9_96 k2_0 rfl rfl rfl dX9_begins_21 (fun H locs hP hS => ?_)
  have hP : va_P D vwCl (fl_w L2 ca ad m5) H := by rw [em6]; exact hP
  refine lv_aload_n hx hb dX9_begins_24 rfl (lv_at hl 0 rfl) ?_
  refine lv_aload_n hx hb dX9_begins_25 rfl (lv_at hl 0 rfl) ?_
  refine fl_geti X hP fk_X9_105 k2_0 rfl dX9_begins_26 ?_
  obtain ⟨m7, em8, h⟩ := fl_lm_e h
  refine fl_puti X hP hS pk_X9_99 k2_0 rfl rfl rfl dX9_begins_29 (fun H locs hP hS => ?_)
  have hP : va_P D vwCl (fl_w L2 ca ad m7) H := by rw [em8]; exact hP
  refine lv_iconst (v := (0 : Int32)) hx hb dX9_begins_32 (by decide) ?_
  refine lv_istore_n (lv' := [(1, .int (0 : Int32)), (0, .ref (ad 0))]) hx hb dX9_begins_33 rfl hl (by decide) rfl (fun ls hl => ?_)
  exact ih_34 _ _ _ _ _ h hP hS (lv_sub hl [1, 0] rfl)

def f_X9_write (x1 : Int32) (m : Mem) : Option (Int32 × Mem) :=
  fl_bd (f_X9_in x1.toInt64 (32 : Int64) (126 : Int64) m) (fun r1 m2 =>
    if r1 = 0 then (
      some ((-1 : Int32), m2))
    else (
      if (m2.1 0 18) = (200 : Int32) then (
        some ((-3 : Int32), m2))
      else (
        fl_ck (0 ≤ (m2.1 0 18).toInt ∧ (m2.1 0 18).toInt < 200) (
          fl_lm (mI m2 11 ((m2.1 0 18).toNatClampNeg) x1) (fun m7 =>
            fl_lm (mI m7 0 18 ((m7.1 0 18) + (1 : Int32))) (fun m9 =>
              some (m9.1 0 18, m9)))))))
set_option maxHeartbeats 4000000 in
set_option maxRecDepth 100000 in
theorem c_X9_write (l : Launch) (D : va_G) (ca : Nat → ClassId) (ad : Nat → Nat) (hi : fl_inj L2 ad) (x1 : Int32) (m : Mem) (v' : Int32) (M' : Mem) (h : f_X9_write x1 m = some (v', M')) : fl_M l L2 D ca ad yX9_write cX9_write 2 (some .int) 2 [.ref (ad 0), .int x1] m (some (.int v')) M' := by
  unfold f_X9_write at h
  refine fl_ofW (by decide) hi (Nat.le_of_ble_eq_true rfl) ?_
  intro p e s mm args below meth c ls X hr hlk hP hl
  have hl : lv_has ls 2 [(0, .ref (ad 0)), (1, .int x1)] := hl
  have X : fl_X p s mm args c cX9_write 2 RX9 L2 D ca ad := X
  obtain ⟨hx, hb, hml, hown, hts, hE, -⟩ := id X
  have hS : va_S (fl_A L2 ad) s.heap s.heap [] := va_S.rf
  refine lv_iload_n hx hb dX9_write_0 rfl (lv_at hl 1 rfl) ?_
  refine lv_i2l (v := x1.toInt64) hx hb dX9_write_1 rfl ?_
  refine lv_ldc2 (v := (32 : Int64)) hx hb hown (hts _ wq_847) dX9_write_2 ?_
  refine lv_ldc2 (v := (126 : Int64)) hx hb hown (hts _ wq_848) dX9_write_5 ?_
  obtain ⟨r1, m2, hz3, h⟩ := fl_bd_e h
  refine fl_callS (av := [.long x1.toInt64, .long (32 : Int64), .long (126 : Int64)]) X hP hS hl.1 ms_X9_92 (c_X9_in l D ca ad hi x1.toInt64 (32 : Int64) (126 : Int64) m _ _ hz3) (fl_fit_rm (by omega) (by decide)) rfl (Nat.le_of_ble_eq_true rfl) dX9_write_8 rfl (fun H locs hP hS => ?_)
  refine W.eq (g2 := F0 mm 11 ls [.int r1]) rfl ?_
  refine lv_if_ne (tgt := 16) hx hb dX9_write_11 (by decide) (fun c4 => ?_) (fun c4 => ?_)
  · replace h := fl_if_f h c4
    refine lv_aload_n hx hb dX9_write_16 rfl (lv_at hl 0 rfl) ?_
    refine fl_geti X hP fk_X9_121 k2_0 rfl dX9_write_17 ?_
    refine lv_sipush (v := (200 : Int32)) hx hb dX9_write_20 (by decide) ?_
    refine lv_icmp_ne (tgt := 29) hx hb dX9_write_23 (by decide) (fun c5 => ?_) (fun c5 => ?_)
    · replace h := fl_if_f h c5
      refine lv_aload_n hx hb dX9_write_29 rfl (lv_at hl 0 rfl) ?_
      refine fl_getr X hP fk_X9_40 k2_0 rfl dX9_write_30 ?_
      refine lv_aload_n hx hb dX9_write_33 rfl (lv_at hl 0 rfl) ?_
      refine fl_geti X hP fk_X9_121 k2_0 rfl dX9_write_34 ?_
      refine lv_iload_n hx hb dX9_write_37 rfl (lv_at hl 1 rfl) ?_
      obtain ⟨hk6, h⟩ := fl_ck_e h
      obtain ⟨m7, em8, h⟩ := fl_lm_e h
      refine fl_iast X hP hS k2_11 hk6 dX9_write_38 (fun H locs hP hS => ?_)
      have hP : va_P D vwCl (fl_w L2 ca ad m7) H := by rw [em8]; exact hP
      refine lv_aload_n hx hb dX9_write_39 rfl (lv_at hl 0 rfl) ?_
      refine lv_dup hx hb dX9_write_40 rfl ?_
      refine fl_geti X hP fk_X9_121 k2_0 rfl dX9_write_41 ?_
      refine lv_iconst (v := (1 : Int32)) hx hb dX9_write_44 (by decide) ?_
      refine lv_iadd hx hb dX9_write_45 ?_
      obtain ⟨m9, em10, h⟩ := fl_lm_e h
      refine fl_puti X hP hS pk_X9_121 k2_0 rfl rfl rfl dX9_write_46 (fun H locs hP hS => ?_)
      have hP : va_P D vwCl (fl_w L2 ca ad m9) H := by rw [em10]; exact hP
      refine lv_aload_n hx hb dX9_write_49 rfl (lv_at hl 0 rfl) ?_
      refine fl_geti X hP fk_X9_121 k2_0 rfl dX9_write_50 ?_
      exact fl_iret X hr hlk hP hS dX9_write_53 h
    · replace h := fl_if_t h c5
      refine lv_bipush (v := (-3 : Int32)) hx hb dX9_write_26 (by decide) ?_
      exact fl_iret X hr hlk hP hS dX9_write_28 h
  · replace h := fl_if_t h c4
    refine lv_iconst (v := (-1 : Int32)) hx hb dX9_write_14 (by decide) ?_
    exact fl_iret X hr hlk hP hS dX9_write_15 h

def f_X9_wipe  (m : Mem) : Option (Int32 × Mem) :=
  fl_li (m.1 0 18) (fun z1 =>
    fl_lm (mI m 0 18 (0 : Int32)) (fun m3 =>
      some (z1, m3)))
set_option maxHeartbeats 4000000 in
set_option maxRecDepth 100000 in
theorem c_X9_wipe (l : Launch) (D : va_G) (ca : Nat → ClassId) (ad : Nat → Nat) (hi : fl_inj L2 ad)  (m : Mem) (v' : Int32) (M' : Mem) (h : f_X9_wipe  m = some (v', M')) : fl_M l L2 D ca ad yX9_wipe cX9_wipe 2 (some .int) 1 [.ref (ad 0)] m (some (.int v')) M' := by
  unfold f_X9_wipe at h
  refine fl_ofW (by decide) hi (Nat.le_of_ble_eq_true rfl) ?_
  intro p e s mm args below meth c ls X hr hlk hP hl
  have hl : lv_has ls 2 [(0, .ref (ad 0))] := hl
  have X : fl_X p s mm args c cX9_wipe 2 RX9 L2 D ca ad := X
  obtain ⟨hx, hb, hml, hown, hts, hE, -⟩ := id X
  have hS : va_S (fl_A L2 ad) s.heap s.heap [] := va_S.rf
  refine lv_aload_n hx hb dX9_wipe_0 rfl (lv_at hl 0 rfl) ?_
  refine fl_geti X hP fk_X9_121 k2_0 rfl dX9_wipe_1 ?_
  obtain ⟨z1, ez2, h⟩ := fl_li_e h
  refine fl_topi ez2 ?_
  refine lv_istore_n (lv' := [(1, .int z1), (0, .ref (ad 0))]) hx hb dX9_wipe_4 rfl hl (by decide) rfl (fun ls hl => ?_)
  refine lv_aload_n hx hb dX9_wipe_5 rfl (lv_at hl 1 rfl) ?_
  refine lv_iconst (v := (0 : Int32)) hx hb dX9_wipe_6 (by decide) ?_
  obtain ⟨m3, em4, h⟩ := fl_lm_e h
  refine fl_puti X hP hS pk_X9_121 k2_0 rfl rfl rfl dX9_wipe_7 (fun H locs hP hS => ?_)
  have hP : va_P D vwCl (fl_w L2 ca ad m3) H := by rw [em4]; exact hP
  refine lv_iload_n hx hb dX9_wipe_10 rfl (lv_at hl 0 rfl) ?_
  exact fl_iret X hr hlk hP hS dX9_wipe_11 h

def f_X9_letterAt (x1 : Int32) (m : Mem) : Option (Int32 × Mem) :=
  if (m.1 0 18) ≤ x1 then (
    some ((-1 : Int32), m))
  else (
    fl_ck (0 ≤ x1.toInt ∧ x1.toInt < 200) (
      some (m.1 11 (x1.toNatClampNeg), m)))
set_option maxHeartbeats 4000000 in
set_option maxRecDepth 100000 in
theorem c_X9_letterAt (l : Launch) (D : va_G) (ca : Nat → ClassId) (ad : Nat → Nat) (hi : fl_inj L2 ad) (x1 : Int32) (m : Mem) (v' : Int32) (M' : Mem) (h : f_X9_letterAt x1 m = some (v', M')) : fl_M l L2 D ca ad yX9_letterAt cX9_letterAt 2 (some .int) 1 [.ref (ad 0), .int x1] m (some (.int v')) M' := by
  unfold f_X9_letterAt at h
  refine fl_ofW (by decide) hi (Nat.le_of_ble_eq_true rfl) ?_
  intro p e s mm args below meth c ls X hr hlk hP hl
  have hl : lv_has ls 2 [(0, .ref (ad 0)), (1, .int x1)] := hl
  have X : fl_X p s mm args c cX9_letterAt 2 RX9 L2 D ca ad := X
  obtain ⟨hx, hb, hml, hown, hts, hE, -⟩ := id X
  have hS : va_S (fl_A L2 ad) s.heap s.heap [] := va_S.rf
  refine lv_iload_n hx hb dX9_letterAt_0 rfl (lv_at hl 1 rfl) ?_
  refine lv_aload_n hx hb dX9_letterAt_1 rfl (lv_at hl 0 rfl) ?_
  refine fl_geti X hP fk_X9_121 k2_0 rfl dX9_letterAt_2 ?_
  refine lv_icmp_ge (tgt := 17) hx hb dX9_letterAt_5 (by decide) (fun c1 => ?_) (fun c1 => ?_)
  · replace h := fl_if_t h c1
    refine lv_iconst (v := (-1 : Int32)) hx hb dX9_letterAt_17 (by decide) ?_
    exact fl_iret X hr hlk hP hS dX9_letterAt_18 h
  · replace h := fl_if_f h c1
    refine lv_aload_n hx hb dX9_letterAt_8 rfl (lv_at hl 0 rfl) ?_
    refine fl_getr X hP fk_X9_40 k2_0 rfl dX9_letterAt_9 ?_
    refine lv_iload_n hx hb dX9_letterAt_12 rfl (lv_at hl 1 rfl) ?_
    obtain ⟨hk2, h⟩ := fl_ck_e h
    refine fl_iald X hP k2_11 hk2 dX9_letterAt_13 ?_
    refine lv_goto (tgt := 18) hx hb dX9_letterAt_14 (by decide) ?_
    exact fl_iret X hr hlk hP hS dX9_letterAt_18 h

def J_X9_takesNumber_79 (N : Nat) (F : Int32 → Int32 → Int32 → Int32 → Mem → Option (Int32 × Mem)) (x1 : Int32) (x2 : Int32) (x3 : Int32) (x4 : Int32) (m : Mem) : Option (Int32 × Mem) :=
  if (m.1 0 19) = x4 then (
    some ((0 : Int32), m))
  else (
    fl_bd (f_X9_in ((m.1 0 20).toInt64) x1.toInt64 x2.toInt64 m) (fun r21 m22 =>
      if r21 = 0 then (
        some ((0 : Int32), m22))
      else (
        fl_bd (f_X9_letterAt (m22.1 0 19) m22) (fun r25 m26 =>
          if r25 = x3 then (
            fl_lm (mI m26 0 19 ((m26.1 0 19) + (1 : Int32))) (fun m29 =>
              some ((1 : Int32), m29)))
          else (
            some ((0 : Int32), m26))))))
def B_X9_takesNumber_11 (N : Nat) (F : Int32 → Int32 → Int32 → Int32 → Mem → Option (Int32 × Mem)) (x1 : Int32) (x2 : Int32) (x3 : Int32) (x4 : Int32) (m : Mem) : Option (Int32 × Mem) :=
  if (2 : Int32) ≤ ((m.1 0 19) - x4) then (
    J_X9_takesNumber_79 N F x1 x2 x3 x4 m)
  else (
    fl_bd (f_X9_letterAt (m.1 0 19) m) (fun r6 m7 =>
      fl_bd (f_X9_in r6.toInt64 (48 : Int64) (57 : Int64) m7) (fun r9 m10 =>
        if r9 = 0 then (
          J_X9_takesNumber_79 N F x1 x2 x3 x4 m10)
        else (
          fl_bd (f_X9_letterAt (m10.1 0 19) m10) (fun r13 m14 =>
            fl_lm (mI m14 0 20 ((((10 : Int32) * (m10.1 0 20)) + r13) - (48 : Int32))) (fun m16 =>
              fl_lm (mI m16 0 19 ((m16.1 0 19) + (1 : Int32))) (fun m18 =>
                F x1 x2 x3 x4 m18)))))))
def l_X9_takesNumber (N : Nat) : Nat → Int32 → Int32 → Int32 → Int32 → Mem → Option (Int32 × Mem)
  | 0 => fun _ _ _ _ _ => none
  | n + 1 => fun x1 x2 x3 x4 m => B_X9_takesNumber_11 N (l_X9_takesNumber N n) x1 x2 x3 x4 m
def f_X9_takesNumber (N : Nat) (x1 : Int32) (x2 : Int32) (x3 : Int32) (m : Mem) : Option (Int32 × Mem) :=
  fl_li (m.1 0 19) (fun z1 =>
    fl_lm (mI m 0 20 (0 : Int32)) (fun m3 =>
      (l_X9_takesNumber N N) x1 x2 x3 z1 m3))
set_option maxHeartbeats 4000000 in
set_option maxRecDepth 100000 in
theorem c_X9_takesNumber (l : Launch) (D : va_G) (ca : Nat → ClassId) (ad : Nat → Nat) (hi : fl_inj L2 ad) (N : Nat) (x1 : Int32) (x2 : Int32) (x3 : Int32) (m : Mem) (v' : Int32) (M' : Mem) (h : f_X9_takesNumber N x1 x2 x3 m = some (v', M')) : fl_M l L2 D ca ad yX9_takesNumber cX9_takesNumber 5 (some .boolean) 2 [.ref (ad 0), .int x1, .int x2, .int x3] m (some (.int v')) M' := by
  unfold f_X9_takesNumber at h
  refine fl_ofW (by decide) hi (Nat.le_of_ble_eq_true rfl) ?_
  intro p e s mm args below meth c ls X hr hlk hP hl
  have hl : lv_has ls 5 [(0, .ref (ad 0)), (1, .int x1), (2, .int x2), (3, .int x3)] := hl
  have X : fl_X p s mm args c cX9_takesNumber 5 RX9 L2 D ca ad := X
  obtain ⟨hx, hb, hml, hown, hts, hE, -⟩ := id X
  have hS : va_S (fl_A L2 ad) s.heap s.heap [] := va_S.rf
  have js : ∀ n : Nat, ((∀ (x1 : Int32) (x2 : Int32) (x3 : Int32) (x4 : Int32) (m : Mem) (H : Heap) (locs : List Loc) (ls : Array Slot), l_X9_takesNumber N n x1 x2 x3 x4 m = some (v', M') → va_P D vwCl (fl_w L2 ca ad m) H → va_S (fl_A L2 ad) s.heap H locs → lv_has ls 5 [(0, .ref (ad 0)), (1, .int x1), (2, .int x2), (3, .int x3), (4, .int x4)] → W p l e (fl_rm 2) s mm args below meth c H locs 0 0 (MQ below (fl_Q L2 D ca ad (some (.int v')) M') args s 0 0 (fl_A L2 ad)) (F0 mm 11 ls []))) → (∀ (x1 : Int32) (x2 : Int32) (x3 : Int32) (x4 : Int32) (m : Mem) (H : Heap) (locs : List Loc) (ls : Array Slot), J_X9_takesNumber_79 N (l_X9_takesNumber N n) x1 x2 x3 x4 m = some (v', M') → va_P D vwCl (fl_w L2 ca ad m) H → va_S (fl_A L2 ad) s.heap H locs → lv_has ls 5 [(0, .ref (ad 0)), (1, .int x1), (2, .int x2), (3, .int x3), (4, .int x4)] → W p l e (fl_rm 2) s mm args below meth c H locs 0 0 (MQ below (fl_Q L2 D ca ad (some (.int v')) M') args s 0 0 (fl_A L2 ad)) (F0 mm 79 ls [])) := by
    intro n ih
    have ih_11 := ih
    have j_79 : ∀ (x1 : Int32) (x2 : Int32) (x3 : Int32) (x4 : Int32) (m : Mem) (H : Heap) (locs : List Loc) (ls : Array Slot), J_X9_takesNumber_79 N (l_X9_takesNumber N n) x1 x2 x3 x4 m = some (v', M') → va_P D vwCl (fl_w L2 ca ad m) H → va_S (fl_A L2 ad) s.heap H locs → lv_has ls 5 [(0, .ref (ad 0)), (1, .int x1), (2, .int x2), (3, .int x3), (4, .int x4)] → W p l e (fl_rm 2) s mm args below meth c H locs 0 0 (MQ below (fl_Q L2 D ca ad (some (.int v')) M') args s 0 0 (fl_A L2 ad)) (F0 mm 79 ls []) := by
      intro x1 x2 x3 x4 m H locs ls h hP hS hl
      unfold J_X9_takesNumber_79 at h
      refine lv_aload_n hx hb dX9_takesNumber_79 rfl (lv_at hl 0 rfl) ?_
      refine fl_geti X hP fk_X9_124 k2_0 rfl dX9_takesNumber_80 ?_
      refine lv_iload hx hb dX9_takesNumber_83 (lv_at hl 4 rfl) ?_
      refine lv_icmp_eq (tgt := 115) hx hb dX9_takesNumber_85 (by decide) (fun c20 => ?_) (fun c20 => ?_)
      · replace h := fl_if_t h c20
        refine lv_iconst (v := (0 : Int32)) hx hb dX9_takesNumber_115 (by decide) ?_
        exact fl_zret X hr hlk (by decide) hP hS dX9_takesNumber_116 h
      · replace h := fl_if_f h c20
        refine lv_aload_n hx hb dX9_takesNumber_88 rfl (lv_at hl 0 rfl) ?_
        refine fl_geti X hP fk_X9_127 k2_0 rfl dX9_takesNumber_89 ?_
        refine lv_i2l (v := (m.1 0 20).toInt64) hx hb dX9_takesNumber_92 rfl ?_
        refine lv_iload_n hx hb dX9_takesNumber_93 rfl (lv_at hl 1 rfl) ?_
        refine lv_i2l (v := x1.toInt64) hx hb dX9_takesNumber_94 rfl ?_
        refine lv_iload_n hx hb dX9_takesNumber_95 rfl (lv_at hl 2 rfl) ?_
        refine lv_i2l (v := x2.toInt64) hx hb dX9_takesNumber_96 rfl ?_
        obtain ⟨r21, m22, hz23, h⟩ := fl_bd_e h
        refine fl_callS (av := [.long ((m.1 0 20).toInt64), .long x1.toInt64, .long x2.toInt64]) X hP hS hl.1 ms_X9_92 (c_X9_in l D ca ad hi ((m.1 0 20).toInt64) x1.toInt64 x2.toInt64 m _ _ hz23) (fl_fit_rm (by omega) (by decide)) rfl (Nat.le_of_ble_eq_true rfl) dX9_takesNumber_97 rfl (fun H locs hP hS => ?_)
        refine W.eq (g2 := F0 mm 100 ls [.int r21]) rfl ?_
        refine lv_if_eq (tgt := 115) hx hb dX9_takesNumber_100 (by decide) (fun c24 => ?_) (fun c24 => ?_)
        · replace h := fl_if_t h c24
          refine lv_iconst (v := (0 : Int32)) hx hb dX9_takesNumber_115 (by decide) ?_
          exact fl_zret X hr hlk (by decide) hP hS dX9_takesNumber_116 h
        · replace h := fl_if_f h c24
          refine lv_aload_n hx hb dX9_takesNumber_103 rfl (lv_at hl 0 rfl) ?_
          refine lv_aload_n hx hb dX9_takesNumber_104 rfl (lv_at hl 0 rfl) ?_
          refine fl_geti X hP fk_X9_124 k2_0 rfl dX9_takesNumber_105 ?_
          obtain ⟨r25, m26, hz27, h⟩ := fl_bd_e h
          refine fl_callV (av := [.int (m22.1 0 19)]) X hP hS hl.1 mv_X9_130 (c_X9_letterAt l D ca ad hi (m22.1 0 19) m22 _ _ hz27) k2_0 (fl_fit_rm (by omega) (by decide)) rfl (Nat.le_of_ble_eq_true rfl) dX9_takesNumber_108 rfl (fun H locs hP hS => ?_)
          refine W.eq (g2 := F0 mm 111 ls [.int r25]) rfl ?_
          refine lv_iload_n hx hb dX9_takesNumber_111 rfl (lv_at hl 3 rfl) ?_
          refine lv_icmp_eq (tgt := 117) hx hb dX9_takesNumber_112 (by decide) (fun c28 => ?_) (fun c28 => ?_)
          · replace h := fl_if_t h c28
            refine lv_aload_n hx hb dX9_takesNumber_117 rfl (lv_at hl 0 rfl) ?_
            refine lv_dup hx hb dX9_takesNumber_118 rfl ?_
            refine fl_geti X hP fk_X9_124 k2_0 rfl dX9_takesNumber_119 ?_
            refine lv_iconst (v := (1 : Int32)) hx hb dX9_takesNumber_122 (by decide) ?_
            refine lv_iadd hx hb dX9_takesNumber_123 ?_
            obtain ⟨m29, em30, h⟩ := fl_lm_e h
            refine fl_puti X hP hS pk_X9_124 k2_0 rfl rfl rfl dX9_takesNumber_124 (fun H locs hP hS => ?_)
            have hP : va_P D vwCl (fl_w L2 ca ad m29) H := by rw [em30]; exact hP
            refine lv_iconst (v := (1 : Int32)) hx hb dX9_takesNumber_127 (by decide) ?_
            exact fl_zret X hr hlk (by decide) hP hS dX9_takesNumber_128 h
          · replace h := fl_if_f h c28
            refine lv_iconst (v := (0 : Int32)) hx hb dX9_takesNumber_115 (by decide) ?_
            exact fl_zret X hr hlk (by decide) hP hS dX9_takesNumber_116 h
    exact j_79
  have key : ∀ n : Nat, (∀ (x1 : Int32) (x2 : Int32) (x3 : Int32) (x4 : Int32) (m : Mem) (H : Heap) (locs : List Loc) (ls : Array Slot), l_X9_takesNumber N n x1 x2 x3 x4 m = some (v', M') → va_P D vwCl (fl_w L2 ca ad m) H → va_S (fl_A L2 ad) s.heap H locs → lv_has ls 5 [(0, .ref (ad 0)), (1, .int x1), (2, .int x2), (3, .int x3), (4, .int x4)] → W p l e (fl_rm 2) s mm args below meth c H locs 0 0 (MQ below (fl_Q L2 D ca ad (some (.int v')) M') args s 0 0 (fl_A L2 ad)) (F0 mm 11 ls [])) := by
    intro n
    induction n with
    | zero =>
      skip
      · intro x1 x2 x3 x4 m H locs ls h hP hS hl
        have h : (none : Option (Int32 × Mem)) = some (v', M') := h
        cases h
    | succ n ih =>
      have ih_11 := ih
      have j_79 := js n ih_11
      skip
      · intro x1 x2 x3 x4 m H locs ls h hP hS hl
        have h : B_X9_takesNumber_11 N (l_X9_takesNumber N n) x1 x2 x3 x4 m = some (v', M') := h
        unfold B_X9_takesNumber_11 at h
        refine lv_aload_n hx hb dX9_takesNumber_11 rfl (lv_at hl 0 rfl) ?_
        refine fl_geti X hP fk_X9_124 k2_0 rfl dX9_takesNumber_12 ?_
        refine lv_iload hx hb dX9_takesNumber_15 (lv_at hl 4 rfl) ?_
        refine lv_isub hx hb dX9_takesNumber_17 ?_
        refine lv_iconst (v := (2 : Int32)) hx hb dX9_takesNumber_18 (by decide) ?_
        refine lv_icmp_ge (tgt := 79) hx hb dX9_takesNumber_19 (by decide) (fun c5 => ?_) (fun c5 => ?_)
        · replace h := fl_if_t h c5
          exact j_79 _ _ _ _ _ _ _ _ h hP hS (lv_sub hl [0, 1, 2, 3, 4] rfl)
        · replace h := fl_if_f h c5
          refine lv_aload_n hx hb dX9_takesNumber_22 rfl (lv_at hl 0 rfl) ?_
          refine lv_aload_n hx hb dX9_takesNumber_23 rfl (lv_at hl 0 rfl) ?_
          refine fl_geti X hP fk_X9_124 k2_0 rfl dX9_takesNumber_24 ?_
          obtain ⟨r6, m7, hz8, h⟩ := fl_bd_e h
          refine fl_callV (av := [.int (m.1 0 19)]) X hP hS hl.1 mv_X9_130 (c_X9_letterAt l D ca ad hi (m.1 0 19) m _ _ hz8) k2_0 (fl_fit_rm (by omega) (by decide)) rfl (Nat.le_of_ble_eq_true rfl) dX9_takesNumber_27 rfl (fun H locs hP hS => ?_)
          refine W.eq (g2 := F0 mm 30 ls [.int r6]) rfl ?_
          refine lv_i2l (v := r6.toInt64) hx hb dX9_takesNumber_30 rfl ?_
          refine lv_ldc2 (v := (48 : Int64)) hx hb hown (hts _ wq_880) dX9_takesNumber_31 ?_
          refine lv_ldc2 (v := (57 : Int64)) hx hb hown (hts _ wq_881) dX9_takesNumber_34 ?_
          obtain ⟨r9, m10, hz11, h⟩ := fl_bd_e h
          refine fl_callS (av := [.long r6.toInt64, .long (48 : Int64), .long (57 : Int64)]) X hP hS hl.1 ms_X9_92 (c_X9_in l D ca ad hi r6.toInt64 (48 : Int64) (57 : Int64) m7 _ _ hz11) (fl_fit_rm (by omega) (by decide)) rfl (Nat.le_of_ble_eq_true rfl) dX9_takesNumber_37 rfl (fun H locs hP hS => ?_)
          refine W.eq (g2 := F0 mm 40 ls [.int r9]) rfl ?_
          refine lv_if_eq (tgt := 79) hx hb dX9_takesNumber_40 (by decide) (fun c12 => ?_) (fun c12 => ?_)
          · replace h := fl_if_t h c12
            exact j_79 _ _ _ _ _ _ _ _ h hP hS (lv_sub hl [0, 1, 2, 3, 4] rfl)
          · replace h := fl_if_f h c12
            refine lv_aload_n hx hb dX9_takesNumber_43 rfl (lv_at hl 0 rfl) ?_
            refine lv_bipush (v := (10 : Int32)) hx hb dX9_takesNumber_44 (by decide) ?_
            refine lv_aload_n hx hb dX9_takesNumber_46 rfl (lv_at hl 0 rfl) ?_
            refine fl_geti X hP fk_X9_127 k2_0 rfl dX9_takesNumber_47 ?_
            refine lv_imul hx hb dX9_takesNumber_50 ?_
            refine lv_aload_n hx hb dX9_takesNumber_51 rfl (lv_at hl 0 rfl) ?_
            refine lv_aload_n hx hb dX9_takesNumber_52 rfl (lv_at hl 0 rfl) ?_
            refine fl_geti X hP fk_X9_124 k2_0 rfl dX9_takesNumber_53 ?_
            obtain ⟨r13, m14, hz15, h⟩ := fl_bd_e h
            refine fl_callV (av := [.int (m10.1 0 19)]) X hP hS hl.1 mv_X9_130 (c_X9_letterAt l D ca ad hi (m10.1 0 19) m10 _ _ hz15) k2_0 (fl_fit_rm (by omega) (by decide)) rfl (Nat.le_of_ble_eq_true rfl) dX9_takesNumber_56 rfl (fun H locs hP hS => ?_)
            refine W.eq (g2 := F0 mm 59 ls [.int r13, .int ((10 : Int32) * (m10.1 0 20)), .ref (ad 0)]) rfl ?_
            refine lv_iadd hx hb dX9_takesNumber_59 ?_
            refine lv_bipush (v := (48 : Int32)) hx hb dX9_takesNumber_60 (by decide) ?_
            refine lv_isub hx hb dX9_takesNumber_62 ?_
            obtain ⟨m16, em17, h⟩ := fl_lm_e h
            refine fl_puti X hP hS pk_X9_127 k2_0 rfl rfl rfl dX9_takesNumber_63 (fun H locs hP hS => ?_)
            have hP : va_P D vwCl (fl_w L2 ca ad m16) H := by rw [em17]; exact hP
            refine lv_aload_n hx hb dX9_takesNumber_66 rfl (lv_at hl 0 rfl) ?_
            refine lv_dup hx hb dX9_takesNumber_67 rfl ?_
            refine fl_geti X hP fk_X9_124 k2_0 rfl dX9_takesNumber_68 ?_
            refine lv_iconst (v := (1 : Int32)) hx hb dX9_takesNumber_71 (by decide) ?_
            refine lv_iadd hx hb dX9_takesNumber_72 ?_
            obtain ⟨m18, em19, h⟩ := fl_lm_e h
            refine fl_puti X hP hS pk_X9_124 k2_0 rfl rfl rfl dX9_takesNumber_73 (fun H locs hP hS => ?_)
            have hP : va_P D vwCl (fl_w L2 ca ad m18) H := by rw [em19]; exact hP
            refine lv_goto (tgt := 11) hx hb dX9_takesNumber_76 (by decide) ?_
            exact ih_11 _ _ _ _ _ _ _ _ h hP hS (lv_sub hl [0, 1, 2, 3, 4] rfl)
  have ih_11 := key N
  have j_79 := js N ih_11
  refine lv_aload_n hx hb dX9_takesNumber_0 rfl (lv_at hl 0 rfl) ?_
  refine fl_geti X hP fk_X9_124 k2_0 rfl dX9_takesNumber_1 ?_
  obtain ⟨z1, ez2, h⟩ := fl_li_e h
  refine fl_topi ez2 ?_
  refine lv_istore (lv' := [(4, .int z1), (0, .ref (ad 0)), (1, .int x1), (2, .int x2), (3, .int x3)]) hx hb dX9_takesNumber_4 hl (by decide) rfl (fun ls hl => ?_)
  refine lv_aload_n hx hb dX9_takesNumber_6 rfl (lv_at hl 1 rfl) ?_
  refine lv_iconst (v := (0 : Int32)) hx hb dX9_takesNumber_7 (by decide) ?_
  obtain ⟨m3, em4, h⟩ := fl_lm_e h
  refine fl_puti X hP hS pk_X9_127 k2_0 rfl rfl rfl dX9_takesNumber_8 (fun H locs hP hS => ?_)
  have hP : va_P D vwCl (fl_w L2 ca ad m3) H := by rw [em4]; exact hP
  exact ih_11 _ _ _ _ _ _ _ _ h hP hS (lv_sub hl [1, 2, 3, 4, 0] rfl)

def f_X9_takesRows (N : Nat)  (m : Mem) : Option (Int32 × Mem) :=
  if 0 < ((m.1 0 23) + (m.1 0 25)) then (
    some ((0 : Int32), m))
  else (
    fl_bd (f_X9_takesNumber N (1 : Int32) (6 : Int32) (44 : Int32) m) (fun r2 m3 =>
      if r2 = 0 then (
        some ((0 : Int32), m3))
      else (
        fl_li (m3.1 0 20) (fun z6 =>
          fl_bd (f_X9_takesNumber N (1 : Int32) (6 : Int32) (59 : Int32) m3) (fun r8 m9 =>
            if r8 = 0 then (
              some ((0 : Int32), m9))
            else (
              fl_lm (mI m9 0 21 z6) (fun m12 =>
                fl_lm (mI m12 0 22 (m12.1 0 20)) (fun m14 =>
                  some ((1 : Int32), m14)))))))))
set_option maxHeartbeats 4000000 in
set_option maxRecDepth 100000 in
theorem c_X9_takesRows (l : Launch) (D : va_G) (ca : Nat → ClassId) (ad : Nat → Nat) (hi : fl_inj L2 ad) (N : Nat)  (m : Mem) (v' : Int32) (M' : Mem) (h : f_X9_takesRows N  m = some (v', M')) : fl_M l L2 D ca ad yX9_takesRows cX9_takesRows 2 (some .boolean) 3 [.ref (ad 0)] m (some (.int v')) M' := by
  unfold f_X9_takesRows at h
  refine fl_ofW (by decide) hi (Nat.le_of_ble_eq_true rfl) ?_
  intro p e s mm args below meth c ls X hr hlk hP hl
  have hl : lv_has ls 2 [(0, .ref (ad 0))] := hl
  have X : fl_X p s mm args c cX9_takesRows 2 RX9 L2 D ca ad := X
  obtain ⟨hx, hb, hml, hown, hts, hE, -⟩ := id X
  have hS : va_S (fl_A L2 ad) s.heap s.heap [] := va_S.rf
  refine lv_aload_n hx hb dX9_takesRows_0 rfl (lv_at hl 0 rfl) ?_
  refine fl_geti X hP fk_X9_102 k2_0 rfl dX9_takesRows_1 ?_
  refine lv_aload_n hx hb dX9_takesRows_4 rfl (lv_at hl 0 rfl) ?_
  refine fl_geti X hP fk_X9_105 k2_0 rfl dX9_takesRows_5 ?_
  refine lv_iadd hx hb dX9_takesRows_8 ?_
  refine lv_if_gt (tgt := 24) hx hb dX9_takesRows_9 (by decide) (fun c1 => ?_) (fun c1 => ?_)
  · replace h := fl_if_t h c1
    refine lv_iconst (v := (0 : Int32)) hx hb dX9_takesRows_24 (by decide) ?_
    exact fl_zret X hr hlk (by decide) hP hS dX9_takesRows_25 h
  · replace h := fl_if_f h c1
    refine lv_aload_n hx hb dX9_takesRows_12 rfl (lv_at hl 0 rfl) ?_
    refine lv_iconst (v := (1 : Int32)) hx hb dX9_takesRows_13 (by decide) ?_
    refine lv_bipush (v := (6 : Int32)) hx hb dX9_takesRows_14 (by decide) ?_
    refine lv_bipush (v := (44 : Int32)) hx hb dX9_takesRows_16 (by decide) ?_
    obtain ⟨r2, m3, hz4, h⟩ := fl_bd_e h
    refine fl_callV (av := [.int (1 : Int32), .int (6 : Int32), .int (44 : Int32)]) X hP hS hl.1 mv_X9_138 (c_X9_takesNumber l D ca ad hi N (1 : Int32) (6 : Int32) (44 : Int32) m _ _ hz4) k2_0 (fl_fit_rm (by omega) (by decide)) rfl (Nat.le_of_ble_eq_true rfl) dX9_takesRows_18 rfl (fun H locs hP hS => ?_)
    refine W.eq (g2 := F0 mm 21 ls [.int r2]) rfl ?_
    refine lv_if_ne (tgt := 26) hx hb dX9_takesRows_21 (by decide) (fun c5 => ?_) (fun c5 => ?_)
    · replace h := fl_if_f h c5
      refine lv_aload_n hx hb dX9_takesRows_26 rfl (lv_at hl 0 rfl) ?_
      refine fl_geti X hP fk_X9_127 k2_0 rfl dX9_takesRows_27 ?_
      obtain ⟨z6, ez7, h⟩ := fl_li_e h
      refine fl_topi ez7 ?_
      refine lv_istore_n (lv' := [(1, .int z6), (0, .ref (ad 0))]) hx hb dX9_takesRows_30 rfl hl (by decide) rfl (fun ls hl => ?_)
      refine lv_aload_n hx hb dX9_takesRows_31 rfl (lv_at hl 1 rfl) ?_
      refine lv_iconst (v := (1 : Int32)) hx hb dX9_takesRows_32 (by decide) ?_
      refine lv_bipush (v := (6 : Int32)) hx hb dX9_takesRows_33 (by decide) ?_
      refine lv_bipush (v := (59 : Int32)) hx hb dX9_takesRows_35 (by decide) ?_
      obtain ⟨r8, m9, hz10, h⟩ := fl_bd_e h
      refine fl_callV (av := [.int (1 : Int32), .int (6 : Int32), .int (59 : Int32)]) X hP hS hl.1 mv_X9_138 (c_X9_takesNumber l D ca ad hi N (1 : Int32) (6 : Int32) (59 : Int32) m3 _ _ hz10) k2_0 (fl_fit_rm (by omega) (by decide)) rfl (Nat.le_of_ble_eq_true rfl) dX9_takesRows_37 rfl (fun H locs hP hS => ?_)
      refine W.eq (g2 := F0 mm 40 ls [.int r8]) rfl ?_
      refine lv_if_ne (tgt := 45) hx hb dX9_takesRows_40 (by decide) (fun c11 => ?_) (fun c11 => ?_)
      · replace h := fl_if_f h c11
        refine lv_aload_n hx hb dX9_takesRows_45 rfl (lv_at hl 1 rfl) ?_
        refine lv_iload_n hx hb dX9_takesRows_46 rfl (lv_at hl 0 rfl) ?_
        obtain ⟨m12, em13, h⟩ := fl_lm_e h
        refine fl_puti X hP hS pk_X9_64 k2_0 rfl rfl rfl dX9_takesRows_47 (fun H locs hP hS => ?_)
        have hP : va_P D vwCl (fl_w L2 ca ad m12) H := by rw [em13]; exact hP
        refine lv_aload_n hx hb dX9_takesRows_50 rfl (lv_at hl 1 rfl) ?_
        refine lv_aload_n hx hb dX9_takesRows_51 rfl (lv_at hl 1 rfl) ?_
        refine fl_geti X hP fk_X9_127 k2_0 rfl dX9_takesRows_52 ?_
        obtain ⟨m14, em15, h⟩ := fl_lm_e h
        refine fl_puti X hP hS pk_X9_68 k2_0 rfl rfl rfl dX9_takesRows_55 (fun H locs hP hS => ?_)
        have hP : va_P D vwCl (fl_w L2 ca ad m14) H := by rw [em15]; exact hP
        refine lv_iconst (v := (1 : Int32)) hx hb dX9_takesRows_58 (by decide) ?_
        exact fl_zret X hr hlk (by decide) hP hS dX9_takesRows_59 h
      · replace h := fl_if_t h c11
        refine lv_iconst (v := (0 : Int32)) hx hb dX9_takesRows_43 (by decide) ?_
        exact fl_zret X hr hlk (by decide) hP hS dX9_takesRows_44 h
    · replace h := fl_if_t h c5
      refine lv_iconst (v := (0 : Int32)) hx hb dX9_takesRows_24 (by decide) ?_
      exact fl_zret X hr hlk (by decide) hP hS dX9_takesRows_25 h

def f_X9_takesCab (N : Nat)  (m : Mem) : Option (Int32 × Mem) :=
  fl_li (((m.1 0 21) * (m.1 0 22)) - (1 : Int32)) (fun z1 =>
    if (m.1 0 23) = (3 : Int32) then (
      some ((0 : Int32), m))
    else (
      fl_bd (f_X9_takesNumber N (0 : Int32) (2 : Int32) (44 : Int32) m) (fun r4 m5 =>
        if r4 = 0 then (
          some ((0 : Int32), m5))
        else (
          fl_li (m5.1 0 20) (fun z8 =>
            fl_bd (f_X9_takesNumber N (0 : Int32) z1 (44 : Int32) m5) (fun r10 m11 =>
              if r10 = 0 then (
                some ((0 : Int32), m11))
              else (
                fl_li (m11.1 0 20) (fun z14 =>
                  fl_bd (f_X9_takesNumber N (0 : Int32) z1 (59 : Int32) m11) (fun r16 m17 =>
                    if r16 = 0 then (
                      some ((0 : Int32), m17))
                    else (
                      fl_bd (f_X9_addsCab z8 z14 (m17.1 0 20) m17) (fun r20 m21 =>
                        some ((1 : Int32), m21))))))))))))
set_option maxHeartbeats 4000000 in
set_option maxRecDepth 100000 in
theorem c_X9_takesCab (l : Launch) (D : va_G) (ca : Nat → ClassId) (ad : Nat → Nat) (hi : fl_inj L2 ad) (N : Nat)  (m : Mem) (v' : Int32) (M' : Mem) (h : f_X9_takesCab N  m = some (v', M')) : fl_M l L2 D ca ad yX9_takesCab cX9_takesCab 4 (some .boolean) 3 [.ref (ad 0)] m (some (.int v')) M' := by
  unfold f_X9_takesCab at h
  refine fl_ofW (by decide) hi (Nat.le_of_ble_eq_true rfl) ?_
  intro p e s mm args below meth c ls X hr hlk hP hl
  have hl : lv_has ls 4 [(0, .ref (ad 0))] := hl
  have X : fl_X p s mm args c cX9_takesCab 4 RX9 L2 D ca ad := X
  obtain ⟨hx, hb, hml, hown, hts, hE, -⟩ := id X
  have hS : va_S (fl_A L2 ad) s.heap s.heap [] := va_S.rf
  refine lv_aload_n hx hb dX9_takesCab_0 rfl (lv_at hl 0 rfl) ?_
  refine fl_geti X hP fk_X9_64 k2_0 rfl dX9_takesCab_1 ?_
  refine lv_aload_n hx hb dX9_takesCab_4 rfl (lv_at hl 0 rfl) ?_
  refine fl_geti X hP fk_X9_68 k2_0 rfl dX9_takesCab_5 ?_
  refine lv_imul hx hb dX9_takesCab_8 ?_
  refine lv_iconst (v := (1 : Int32)) hx hb dX9_takesCab_9 (by decide) ?_
  refine lv_isub hx hb dX9_takesCab_10 ?_
  obtain ⟨z1, ez2, h⟩ := fl_li_e h
  refine fl_topi ez2 ?_
  refine lv_istore_n (lv' := [(1, .int z1), (0, .ref (ad 0))]) hx hb dX9_takesCab_11 rfl hl (by decide) rfl (fun ls hl => ?_)
  refine lv_aload_n hx hb dX9_takesCab_12 rfl (lv_at hl 1 rfl) ?_
  refine fl_geti X hP fk_X9_102 k2_0 rfl dX9_takesCab_13 ?_
  refine lv_iconst (v := (3 : Int32)) hx hb dX9_takesCab_16 (by decide) ?_
  refine lv_icmp_eq (tgt := 31) hx hb dX9_takesCab_17 (by decide) (fun c3 => ?_) (fun c3 => ?_)
  · replace h := fl_if_t h c3
    refine lv_iconst (v := (0 : Int32)) hx hb dX9_takesCab_31 (by decide) ?_
    exact fl_zret X hr hlk (by decide) hP hS dX9_takesCab_32 h
  · replace h := fl_if_f h c3
    refine lv_aload_n hx hb dX9_takesCab_20 rfl (lv_at hl 1 rfl) ?_
    refine lv_iconst (v := (0 : Int32)) hx hb dX9_takesCab_21 (by decide) ?_
    refine lv_iconst (v := (2 : Int32)) hx hb dX9_takesCab_22 (by decide) ?_
    refine lv_bipush (v := (44 : Int32)) hx hb dX9_takesCab_23 (by decide) ?_
    obtain ⟨r4, m5, hz6, h⟩ := fl_bd_e h
    refine fl_callV (av := [.int (0 : Int32), .int (2 : Int32), .int (44 : Int32)]) X hP hS hl.1 mv_X9_138 (c_X9_takesNumber l D ca ad hi N (0 : Int32) (2 : Int32) (44 : Int32) m _ _ hz6) k2_0 (fl_fit_rm (by omega) (by decide)) rfl (Nat.le_of_ble_eq_true rfl) dX9_takesCab_25 rfl (fun H locs hP hS => ?_)
    refine W.eq (g2 := F0 mm 28 ls [.int r4]) rfl ?_
    refine lv_if_ne (tgt := 33) hx hb dX9_takesCab_28 (by decide) (fun c7 => ?_) (fun c7 => ?_)
    · replace h := fl_if_f h c7
      refine lv_aload_n hx hb dX9_takesCab_33 rfl (lv_at hl 1 rfl) ?_
      refine fl_geti X hP fk_X9_127 k2_0 rfl dX9_takesCab_34 ?_
      obtain ⟨z8, ez9, h⟩ := fl_li_e h
      refine fl_topi ez9 ?_
      refine lv_istore_n (lv' := [(2, .int z8), (1, .int z1), (0, .ref (ad 0))]) hx hb dX9_takesCab_37 rfl hl (by decide) rfl (fun ls hl => ?_)
      refine lv_aload_n hx hb dX9_takesCab_38 rfl (lv_at hl 2 rfl) ?_
      refine lv_iconst (v := (0 : Int32)) hx hb dX9_takesCab_39 (by decide) ?_
      refine lv_iload_n hx hb dX9_takesCab_40 rfl (lv_at hl 1 rfl) ?_
      refine lv_bipush (v := (44 : Int32)) hx hb dX9_takesCab_41 (by decide) ?_
      obtain ⟨r10, m11, hz12, h⟩ := fl_bd_e h
      refine fl_callV (av := [.int (0 : Int32), .int z1, .int (44 : Int32)]) X hP hS hl.1 mv_X9_138 (c_X9_takesNumber l D ca ad hi N (0 : Int32) z1 (44 : Int32) m5 _ _ hz12) k2_0 (fl_fit_rm (by omega) (by decide)) rfl (Nat.le_of_ble_eq_true rfl) dX9_takesCab_43 rfl (fun H locs hP hS => ?_)
      refine W.eq (g2 := F0 mm 46 ls [.int r10]) rfl ?_
      refine lv_if_ne (tgt := 51) hx hb dX9_takesCab_46 (by decide) (fun c13 => ?_) (fun c13 => ?_)
      · replace h := fl_if_f h c13
        refine lv_aload_n hx hb dX9_takesCab_51 rfl (lv_at hl 2 rfl) ?_
        refine fl_geti X hP fk_X9_127 k2_0 rfl dX9_takesCab_52 ?_
        obtain ⟨z14, ez15, h⟩ := fl_li_e h
        refine fl_topi ez15 ?_
        refine lv_istore_n (lv' := [(3, .int z14), (2, .int z8), (1, .int z1), (0, .ref (ad 0))]) hx hb dX9_takesCab_55 rfl hl (by decide) rfl (fun ls hl => ?_)
        refine lv_aload_n hx hb dX9_takesCab_56 rfl (lv_at hl 3 rfl) ?_
        refine lv_iconst (v := (0 : Int32)) hx hb dX9_takesCab_57 (by decide) ?_
        refine lv_iload_n hx hb dX9_takesCab_58 rfl (lv_at hl 2 rfl) ?_
        refine lv_bipush (v := (59 : Int32)) hx hb dX9_takesCab_59 (by decide) ?_
        obtain ⟨r16, m17, hz18, h⟩ := fl_bd_e h
        refine fl_callV (av := [.int (0 : Int32), .int z1, .int (59 : Int32)]) X hP hS hl.1 mv_X9_138 (c_X9_takesNumber l D ca ad hi N (0 : Int32) z1 (59 : Int32) m11 _ _ hz18) k2_0 (fl_fit_rm (by omega) (by decide)) rfl (Nat.le_of_ble_eq_true rfl) dX9_takesCab_61 rfl (fun H locs hP hS => ?_)
        refine W.eq (g2 := F0 mm 64 ls [.int r16]) rfl ?_
        refine lv_if_ne (tgt := 69) hx hb dX9_takesCab_64 (by decide) (fun c19 => ?_) (fun c19 => ?_)
        · replace h := fl_if_f h c19
          refine lv_aload_n hx hb dX9_takesCab_69 rfl (lv_at hl 3 rfl) ?_
          refine lv_iload_n hx hb dX9_takesCab_70 rfl (lv_at hl 1 rfl) ?_
          refine lv_iload_n hx hb dX9_takesCab_71 rfl (lv_at hl 0 rfl) ?_
          refine lv_aload_n hx hb dX9_takesCab_72 rfl (lv_at hl 3 rfl) ?_
          refine fl_geti X hP fk_X9_127 k2_0 rfl dX9_takesCab_73 ?_
          obtain ⟨r20, m21, hz22, h⟩ := fl_bd_e h
          refine fl_callV (av := [.int z8, .int z14, .int (m17.1 0 20)]) X hP hS hl.1 mv_X9_71 (c_X9_addsCab l D ca ad hi z8 z14 (m17.1 0 20) m17 _ _ hz22) k2_0 (fl_fit_rm (by omega) (by decide)) rfl (Nat.le_of_ble_eq_true rfl) dX9_takesCab_76 rfl (fun H locs hP hS => ?_)
          refine W.eq (g2 := F0 mm 79 ls []) rfl ?_
          refine lv_iconst (v := (1 : Int32)) hx hb dX9_takesCab_79 (by decide) ?_
          exact fl_zret X hr hlk (by decide) hP hS dX9_takesCab_80 h
        · replace h := fl_if_t h c19
          refine lv_iconst (v := (0 : Int32)) hx hb dX9_takesCab_67 (by decide) ?_
          exact fl_zret X hr hlk (by decide) hP hS dX9_takesCab_68 h
      · replace h := fl_if_t h c13
        refine lv_iconst (v := (0 : Int32)) hx hb dX9_takesCab_49 (by decide) ?_
        exact fl_zret X hr hlk (by decide) hP hS dX9_takesCab_50 h
    · replace h := fl_if_t h c7
      refine lv_iconst (v := (0 : Int32)) hx hb dX9_takesCab_31 (by decide) ?_
      exact fl_zret X hr hlk (by decide) hP hS dX9_takesCab_32 h

def f_X9_takesFare (N : Nat)  (m : Mem) : Option (Int32 × Mem) :=
  fl_li (((m.1 0 21) * (m.1 0 22)) - (1 : Int32)) (fun z1 =>
    if (m.1 0 25) = (7 : Int32) then (
      some ((0 : Int32), m))
    else (
      fl_bd (f_X9_takesNumber N (0 : Int32) (3 : Int32) (44 : Int32) m) (fun r4 m5 =>
        if r4 = 0 then (
          some ((0 : Int32), m5))
        else (
          fl_li (m5.1 0 20) (fun z8 =>
            fl_bd (f_X9_takesNumber N (0 : Int32) z1 (44 : Int32) m5) (fun r10 m11 =>
              if r10 = 0 then (
                some ((0 : Int32), m11))
              else (
                fl_li (m11.1 0 20) (fun z14 =>
                  fl_bd (f_X9_takesNumber N (0 : Int32) z1 (44 : Int32) m11) (fun r16 m17 =>
                    if r16 = 0 then (
                      some ((0 : Int32), m17))
                    else (
                      fl_li (m17.1 0 20) (fun z20 =>
                        fl_bd (f_X9_takesNumber N (0 : Int32) (99 : Int32) (44 : Int32) m17) (fun r22 m23 =>
                          if r22 = 0 then (
                            some ((0 : Int32), m23))
                          else (
                            fl_li (m23.1 0 20) (fun z26 =>
                              fl_bd (f_X9_takesNumber N (0 : Int32) (60 : Int32) (59 : Int32) m23) (fun r28 m29 =>
                                if r28 = 0 then (
                                  some ((0 : Int32), m29))
                                else (
                                  fl_bd (f_X9_addsFare z8 z14 z20 z26 (m29.1 0 20) m29) (fun r32 m33 =>
                                    some ((1 : Int32), m33))))))))))))))))))
set_option maxHeartbeats 4000000 in
set_option maxRecDepth 100000 in
theorem c_X9_takesFare (l : Launch) (D : va_G) (ca : Nat → ClassId) (ad : Nat → Nat) (hi : fl_inj L2 ad) (N : Nat)  (m : Mem) (v' : Int32) (M' : Mem) (h : f_X9_takesFare N  m = some (v', M')) : fl_M l L2 D ca ad yX9_takesFare cX9_takesFare 6 (some .boolean) 3 [.ref (ad 0)] m (some (.int v')) M' := by
  unfold f_X9_takesFare at h
  refine fl_ofW (by decide) hi (Nat.le_of_ble_eq_true rfl) ?_
  intro p e s mm args below meth c ls X hr hlk hP hl
  have hl : lv_has ls 6 [(0, .ref (ad 0))] := hl
  have X : fl_X p s mm args c cX9_takesFare 6 RX9 L2 D ca ad := X
  obtain ⟨hx, hb, hml, hown, hts, hE, -⟩ := id X
  have hS : va_S (fl_A L2 ad) s.heap s.heap [] := va_S.rf
  refine lv_aload_n hx hb dX9_takesFare_0 rfl (lv_at hl 0 rfl) ?_
  refine fl_geti X hP fk_X9_64 k2_0 rfl dX9_takesFare_1 ?_
  refine lv_aload_n hx hb dX9_takesFare_4 rfl (lv_at hl 0 rfl) ?_
  refine fl_geti X hP fk_X9_68 k2_0 rfl dX9_takesFare_5 ?_
  refine lv_imul hx hb dX9_takesFare_8 ?_
  refine lv_iconst (v := (1 : Int32)) hx hb dX9_takesFare_9 (by decide) ?_
  refine lv_isub hx hb dX9_takesFare_10 ?_
  obtain ⟨z1, ez2, h⟩ := fl_li_e h
  refine fl_topi ez2 ?_
  refine lv_istore_n (lv' := [(1, .int z1), (0, .ref (ad 0))]) hx hb dX9_takesFare_11 rfl hl (by decide) rfl (fun ls hl => ?_)
  refine lv_aload_n hx hb dX9_takesFare_12 rfl (lv_at hl 1 rfl) ?_
  refine fl_geti X hP fk_X9_105 k2_0 rfl dX9_takesFare_13 ?_
  refine lv_bipush (v := (7 : Int32)) hx hb dX9_takesFare_16 (by decide) ?_
  refine lv_icmp_eq (tgt := 32) hx hb dX9_takesFare_18 (by decide) (fun c3 => ?_) (fun c3 => ?_)
  · replace h := fl_if_t h c3
    refine lv_iconst (v := (0 : Int32)) hx hb dX9_takesFare_32 (by decide) ?_
    exact fl_zret X hr hlk (by decide) hP hS dX9_takesFare_33 h
  · replace h := fl_if_f h c3
    refine lv_aload_n hx hb dX9_takesFare_21 rfl (lv_at hl 1 rfl) ?_
    refine lv_iconst (v := (0 : Int32)) hx hb dX9_takesFare_22 (by decide) ?_
    refine lv_iconst (v := (3 : Int32)) hx hb dX9_takesFare_23 (by decide) ?_
    refine lv_bipush (v := (44 : Int32)) hx hb dX9_takesFare_24 (by decide) ?_
    obtain ⟨r4, m5, hz6, h⟩ := fl_bd_e h
    refine fl_callV (av := [.int (0 : Int32), .int (3 : Int32), .int (44 : Int32)]) X hP hS hl.1 mv_X9_138 (c_X9_takesNumber l D ca ad hi N (0 : Int32) (3 : Int32) (44 : Int32) m _ _ hz6) k2_0 (fl_fit_rm (by omega) (by decide)) rfl (Nat.le_of_ble_eq_true rfl) dX9_takesFare_26 rfl (fun H locs hP hS => ?_)
    refine W.eq (g2 := F0 mm 29 ls [.int r4]) rfl ?_
    refine lv_if_ne (tgt := 34) hx hb dX9_takesFare_29 (by decide) (fun c7 => ?_) (fun c7 => ?_)
    · replace h := fl_if_f h c7
      refine lv_aload_n hx hb dX9_takesFare_34 rfl (lv_at hl 1 rfl) ?_
      refine fl_geti X hP fk_X9_127 k2_0 rfl dX9_takesFare_35 ?_
      obtain ⟨z8, ez9, h⟩ := fl_li_e h
      refine fl_topi ez9 ?_
      refine lv_istore_n (lv' := [(2, .int z8), (1, .int z1), (0, .ref (ad 0))]) hx hb dX9_takesFare_38 rfl hl (by decide) rfl (fun ls hl => ?_)
      refine lv_aload_n hx hb dX9_takesFare_39 rfl (lv_at hl 2 rfl) ?_
      refine lv_iconst (v := (0 : Int32)) hx hb dX9_takesFare_40 (by decide) ?_
      refine lv_iload_n hx hb dX9_takesFare_41 rfl (lv_at hl 1 rfl) ?_
      refine lv_bipush (v := (44 : Int32)) hx hb dX9_takesFare_42 (by decide) ?_
      obtain ⟨r10, m11, hz12, h⟩ := fl_bd_e h
      refine fl_callV (av := [.int (0 : Int32), .int z1, .int (44 : Int32)]) X hP hS hl.1 mv_X9_138 (c_X9_takesNumber l D ca ad hi N (0 : Int32) z1 (44 : Int32) m5 _ _ hz12) k2_0 (fl_fit_rm (by omega) (by decide)) rfl (Nat.le_of_ble_eq_true rfl) dX9_takesFare_44 rfl (fun H locs hP hS => ?_)
      refine W.eq (g2 := F0 mm 47 ls [.int r10]) rfl ?_
      refine lv_if_ne (tgt := 52) hx hb dX9_takesFare_47 (by decide) (fun c13 => ?_) (fun c13 => ?_)
      · replace h := fl_if_f h c13
        refine lv_aload_n hx hb dX9_takesFare_52 rfl (lv_at hl 2 rfl) ?_
        refine fl_geti X hP fk_X9_127 k2_0 rfl dX9_takesFare_53 ?_
        obtain ⟨z14, ez15, h⟩ := fl_li_e h
        refine fl_topi ez15 ?_
        refine lv_istore_n (lv' := [(3, .int z14), (2, .int z8), (1, .int z1), (0, .ref (ad 0))]) hx hb dX9_takesFare_56 rfl hl (by decide) rfl (fun ls hl => ?_)
        refine lv_aload_n hx hb dX9_takesFare_57 rfl (lv_at hl 3 rfl) ?_
        refine lv_iconst (v := (0 : Int32)) hx hb dX9_takesFare_58 (by decide) ?_
        refine lv_iload_n hx hb dX9_takesFare_59 rfl (lv_at hl 2 rfl) ?_
        refine lv_bipush (v := (44 : Int32)) hx hb dX9_takesFare_60 (by decide) ?_
        obtain ⟨r16, m17, hz18, h⟩ := fl_bd_e h
        refine fl_callV (av := [.int (0 : Int32), .int z1, .int (44 : Int32)]) X hP hS hl.1 mv_X9_138 (c_X9_takesNumber l D ca ad hi N (0 : Int32) z1 (44 : Int32) m11 _ _ hz18) k2_0 (fl_fit_rm (by omega) (by decide)) rfl (Nat.le_of_ble_eq_true rfl) dX9_takesFare_62 rfl (fun H locs hP hS => ?_)
        refine W.eq (g2 := F0 mm 65 ls [.int r16]) rfl ?_
        refine lv_if_ne (tgt := 70) hx hb dX9_takesFare_65 (by decide) (fun c19 => ?_) (fun c19 => ?_)
        · replace h := fl_if_f h c19
          refine lv_aload_n hx hb dX9_takesFare_70 rfl (lv_at hl 3 rfl) ?_
          refine fl_geti X hP fk_X9_127 k2_0 rfl dX9_takesFare_71 ?_
          obtain ⟨z20, ez21, h⟩ := fl_li_e h
          refine fl_topi ez21 ?_
          refine lv_istore (lv' := [(4, .int z20), (3, .int z14), (2, .int z8), (1, .int z1), (0, .ref (ad 0))]) hx hb dX9_takesFare_74 hl (by decide) rfl (fun ls hl => ?_)
          refine lv_aload_n hx hb dX9_takesFare_76 rfl (lv_at hl 4 rfl) ?_
          refine lv_iconst (v := (0 : Int32)) hx hb dX9_takesFare_77 (by decide) ?_
          refine lv_bipush (v := (99 : Int32)) hx hb dX9_takesFare_78 (by decide) ?_
          refine lv_bipush (v := (44 : Int32)) hx hb dX9_takesFare_80 (by decide) ?_
          obtain ⟨r22, m23, hz24, h⟩ := fl_bd_e h
          refine fl_callV (av := [.int (0 : Int32), .int (99 : Int32), .int (44 : Int32)]) X hP hS hl.1 mv_X9_138 (c_X9_takesNumber l D ca ad hi N (0 : Int32) (99 : Int32) (44 : Int32) m17 _ _ hz24) k2_0 (fl_fit_rm (by omega) (by decide)) rfl (Nat.le_of_ble_eq_true rfl) dX9_takesFare_82 rfl (fun H locs hP hS => ?_)
          refine W.eq (g2 := F0 mm 85 ls [.int r22]) rfl ?_
          refine lv_if_ne (tgt := 90) hx hb dX9_takesFare_85 (by decide) (fun c25 => ?_) (fun c25 => ?_)
          · replace h := fl_if_f h c25
            refine lv_aload_n hx hb dX9_takesFare_90 rfl (lv_at hl 4 rfl) ?_
            refine fl_geti X hP fk_X9_127 k2_0 rfl dX9_takesFare_91 ?_
            obtain ⟨z26, ez27, h⟩ := fl_li_e h
            refine fl_topi ez27 ?_
            refine lv_istore (lv' := [(5, .int z26), (4, .int z20), (3, .int z14), (2, .int z8), (1, .int z1), (0, .ref (ad 0))]) hx hb dX9_takesFare_94 hl (by decide) rfl (fun ls hl => ?_)
            refine lv_aload_n hx hb dX9_takesFare_96 rfl (lv_at hl 5 rfl) ?_
            refine lv_iconst (v := (0 : Int32)) hx hb dX9_takesFare_97 (by decide) ?_
            refine lv_bipush (v := (60 : Int32)) hx hb dX9_takesFare_98 (by decide) ?_
            refine lv_bipush (v := (59 : Int32)) hx hb dX9_takesFare_100 (by decide) ?_
            obtain ⟨r28, m29, hz30, h⟩ := fl_bd_e h
            refine fl_callV (av := [.int (0 : Int32), .int (60 : Int32), .int (59 : Int32)]) X hP hS hl.1 mv_X9_138 (c_X9_takesNumber l D ca ad hi N (0 : Int32) (60 : Int32) (59 : Int32) m23 _ _ hz30) k2_0 (fl_fit_rm (by omega) (by decide)) rfl (Nat.le_of_ble_eq_true rfl) dX9_takesFare_102 rfl (fun H locs hP hS => ?_)
            refine W.eq (g2 := F0 mm 105 ls [.int r28]) rfl ?_
            refine lv_if_ne (tgt := 110) hx hb dX9_takesFare_105 (by decide) (fun c31 => ?_) (fun c31 => ?_)
            · replace h := fl_if_f h c31
              refine lv_aload_n hx hb dX9_takesFare_110 rfl (lv_at hl 5 rfl) ?_
              refine lv_iload_n hx hb dX9_takesFare_111 rfl (lv_at hl 3 rfl) ?_
              refine lv_iload_n hx hb dX9_takesFare_112 rfl (lv_at hl 2 rfl) ?_
              refine lv_iload hx hb dX9_takesFare_113 (lv_at hl 1 rfl) ?_
              refine lv_iload hx hb dX9_takesFare_115 (lv_at hl 0 rfl) ?_
              refine lv_aload_n hx hb dX9_takesFare_117 rfl (lv_at hl 5 rfl) ?_
              refine fl_geti X hP fk_X9_127 k2_0 rfl dX9_takesFare_118 ?_
              obtain ⟨r32, m33, hz34, h⟩ := fl_bd_e h
              refine fl_callV (av := [.int z8, .int z14, .int z20, .int z26, .int (m29.1 0 20)]) X hP hS hl.1 mv_X9_75 (c_X9_addsFare l D ca ad hi z8 z14 z20 z26 (m29.1 0 20) m29 _ _ hz34) k2_0 (fl_fit_rm (by omega) (by decide)) rfl (Nat.le_of_ble_eq_true rfl) dX9_takesFare_121 rfl (fun H locs hP hS => ?_)
              refine W.eq (g2 := F0 mm 124 ls []) rfl ?_
              refine lv_iconst (v := (1 : Int32)) hx hb dX9_takesFare_124 (by decide) ?_
              exact fl_zret X hr hlk (by decide) hP hS dX9_takesFare_125 h
            · replace h := fl_if_t h c31
              refine lv_iconst (v := (0 : Int32)) hx hb dX9_takesFare_108 (by decide) ?_
              exact fl_zret X hr hlk (by decide) hP hS dX9_takesFare_109 h
          · replace h := fl_if_t h c25
            refine lv_iconst (v := (0 : Int32)) hx hb dX9_takesFare_88 (by decide) ?_
            exact fl_zret X hr hlk (by decide) hP hS dX9_takesFare_89 h
        · replace h := fl_if_t h c19
          refine lv_iconst (v := (0 : Int32)) hx hb dX9_takesFare_68 (by decide) ?_
          exact fl_zret X hr hlk (by decide) hP hS dX9_takesFare_69 h
      · replace h := fl_if_t h c13
        refine lv_iconst (v := (0 : Int32)) hx hb dX9_takesFare_50 (by decide) ?_
        exact fl_zret X hr hlk (by decide) hP hS dX9_takesFare_51 h
    · replace h := fl_if_t h c7
      refine lv_iconst (v := (0 : Int32)) hx hb dX9_takesFare_32 (by decide) ?_
      exact fl_zret X hr hlk (by decide) hP hS dX9_takesFare_33 h

def f_X9_takesItem (N : Nat)  (m : Mem) : Option (Int32 × Mem) :=
  fl_bd (f_X9_letterAt (m.1 0 19) m) (fun r1 m2 =>
    fl_lm (mI m2 0 19 ((m2.1 0 19) + (1 : Int32))) (fun m4 =>
      if r1 = (103 : Int32) then (
        fl_bd (f_X9_takesRows N  m4) (fun r17 m18 =>
          fl_ck (r17 = 0 ∨ r17 = 1) (
            some (r17, m18))))
      else (
        if r1 = (99 : Int32) then (
          fl_bd (f_X9_takesCab N  m4) (fun r13 m14 =>
            fl_ck (r13 = 0 ∨ r13 = 1) (
              some (r13, m14))))
        else (
          if r1 = (102 : Int32) then (
            fl_bd (f_X9_takesFare N  m4) (fun r9 m10 =>
              if r9 = 0 then (
                some ((0 : Int32), m10))
              else (
                some ((1 : Int32), m10))))
          else (
            some ((0 : Int32), m4))))))
set_option maxHeartbeats 4000000 in
set_option maxRecDepth 100000 in
theorem c_X9_takesItem (l : Launch) (D : va_G) (ca : Nat → ClassId) (ad : Nat → Nat) (hi : fl_inj L2 ad) (N : Nat)  (m : Mem) (v' : Int32) (M' : Mem) (h : f_X9_takesItem N  m = some (v', M')) : fl_M l L2 D ca ad yX9_takesItem cX9_takesItem 2 (some .boolean) 4 [.ref (ad 0)] m (some (.int v')) M' := by
  unfold f_X9_takesItem at h
  refine fl_ofW (by decide) hi (Nat.le_of_ble_eq_true rfl) ?_
  intro p e s mm args below meth c ls X hr hlk hP hl
  have hl : lv_has ls 2 [(0, .ref (ad 0))] := hl
  have X : fl_X p s mm args c cX9_takesItem 2 RX9 L2 D ca ad := X
  obtain ⟨hx, hb, hml, hown, hts, hE, -⟩ := id X
  have hS : va_S (fl_A L2 ad) s.heap s.heap [] := va_S.rf
  refine lv_aload_n hx hb dX9_takesItem_0 rfl (lv_at hl 0 rfl) ?_
  refine lv_aload_n hx hb dX9_takesItem_1 rfl (lv_at hl 0 rfl) ?_
  refine fl_geti X hP fk_X9_124 k2_0 rfl dX9_takesItem_2 ?_
  obtain ⟨r1, m2, hz3, h⟩ := fl_bd_e h
  refine fl_callV (av := [.int (m.1 0 19)]) X hP hS hl.1 mv_X9_130 (c_X9_letterAt l D ca ad hi (m.1 0 19) m _ _ hz3) k2_0 (fl_fit_rm (by omega) (by decide)) rfl (Nat.le_of_ble_eq_true rfl) dX9_takesItem_5 rfl (fun H locs hP hS => ?_)
  refine W.eq (g2 := F0 mm 8 ls [.int r1]) rfl ?_
  refine lv_istore_n (lv' := [(1, .int r1), (0, .ref (ad 0))]) hx hb dX9_takesItem_8 rfl hl (by decide) rfl (fun ls hl => ?_)
  refine lv_aload_n hx hb dX9_takesItem_9 rfl (lv_at hl 1 rfl) ?_
  refine lv_dup hx hb dX9_takesItem_10 rfl ?_
  refine fl_geti X hP fk_X9_124 k2_0 rfl dX9_takesItem_11 ?_
  refine lv_iconst (v := (1 : Int32)) hx hb dX9_takesItem_14 (by decide) ?_
  refine lv_iadd hx hb dX9_takesItem_15 ?_
  obtain ⟨m4, em5, h⟩ := fl_lm_e h
  refine fl_puti X hP hS pk_X9_124 k2_0 rfl rfl rfl dX9_takesItem_16 (fun H locs hP hS => ?_)
  have hP : va_P D vwCl (fl_w L2 ca ad m4) H := by rw [em5]; exact hP
  refine lv_iload_n hx hb dX9_takesItem_19 rfl (lv_at hl 0 rfl) ?_
  refine lv_bipush (v := (103 : Int32)) hx hb dX9_takesItem_20 (by decide) ?_
  refine lv_icmp_ne (tgt := 32) hx hb dX9_takesItem_22 (by decide) (fun c6 => ?_) (fun c6 => ?_)
  · replace h := fl_if_f h c6
    refine lv_iload_n hx hb dX9_takesItem_32 rfl (lv_at hl 0 rfl) ?_
    refine lv_bipush (v := (99 : Int32)) hx hb dX9_takesItem_33 (by decide) ?_
    refine lv_icmp_ne (tgt := 45) hx hb dX9_takesItem_35 (by decide) (fun c7 => ?_) (fun c7 => ?_)
    · replace h := fl_if_f h c7
      refine lv_iload_n hx hb dX9_takesItem_45 rfl (lv_at hl 0 rfl) ?_
      refine lv_bipush (v := (102 : Int32)) hx hb dX9_takesItem_46 (by decide) ?_
      refine lv_icmp_ne (tgt := 62) hx hb dX9_takesItem_48 (by decide) (fun c8 => ?_) (fun c8 => ?_)
      · replace h := fl_if_f h c8
        refine lv_iconst (v := (0 : Int32)) hx hb dX9_takesItem_62 (by decide) ?_
        exact fl_zret X hr hlk (by decide) hP hS dX9_takesItem_63 h
      · replace h := fl_if_t h c8
        refine lv_aload_n hx hb dX9_takesItem_51 rfl (lv_at hl 1 rfl) ?_
        obtain ⟨r9, m10, hz11, h⟩ := fl_bd_e h
        refine fl_callV (av := []) X hP hS hl.1 mv_X9_149 (c_X9_takesFare l D ca ad hi N  m4 _ _ hz11) k2_0 (fl_fit_rm (by omega) (by decide)) rfl (Nat.le_of_ble_eq_true rfl) dX9_takesItem_52 rfl (fun H locs hP hS => ?_)
        refine W.eq (g2 := F0 mm 55 ls [.int r9]) rfl ?_
        refine lv_if_eq (tgt := 62) hx hb dX9_takesItem_55 (by decide) (fun c12 => ?_) (fun c12 => ?_)
        · replace h := fl_if_t h c12
          refine lv_iconst (v := (0 : Int32)) hx hb dX9_takesItem_62 (by decide) ?_
          exact fl_zret X hr hlk (by decide) hP hS dX9_takesItem_63 h
        · replace h := fl_if_f h c12
          refine lv_iconst (v := (1 : Int32)) hx hb dX9_takesItem_58 (by decide) ?_
          refine lv_goto (tgt := 63) hx hb dX9_takesItem_59 (by decide) ?_
          exact fl_zret X hr hlk (by decide) hP hS dX9_takesItem_63 h
    · replace h := fl_if_t h c7
      refine lv_aload_n hx hb dX9_takesItem_38 rfl (lv_at hl 1 rfl) ?_
      obtain ⟨r13, m14, hz15, h⟩ := fl_bd_e h
      refine fl_callV (av := []) X hP hS hl.1 mv_X9_146 (c_X9_takesCab l D ca ad hi N  m4 _ _ hz15) k2_0 (fl_fit_rm (by omega) (by decide)) rfl (Nat.le_of_ble_eq_true rfl) dX9_takesItem_39 rfl (fun H locs hP hS => ?_)
      refine W.eq (g2 := F0 mm 42 ls [.int r13]) rfl ?_
      refine lv_goto (tgt := 63) hx hb dX9_takesItem_42 (by decide) ?_
      obtain ⟨hk16, h⟩ := fl_ck_e h
      exact fl_zret X hr hlk hk16 hP hS dX9_takesItem_63 h
  · replace h := fl_if_t h c6
    refine lv_aload_n hx hb dX9_takesItem_25 rfl (lv_at hl 1 rfl) ?_
    obtain ⟨r17, m18, hz19, h⟩ := fl_bd_e h
    refine fl_callV (av := []) X hP hS hl.1 mv_X9_142 (c_X9_takesRows l D ca ad hi N  m4 _ _ hz19) k2_0 (fl_fit_rm (by omega) (by decide)) rfl (Nat.le_of_ble_eq_true rfl) dX9_takesItem_26 rfl (fun H locs hP hS => ?_)
    refine W.eq (g2 := F0 mm 29 ls [.int r17]) rfl ?_
    refine lv_goto (tgt := 63) hx hb dX9_takesItem_29 (by decide) ?_
    obtain ⟨hk20, h⟩ := fl_ck_e h
    exact fl_zret X hr hlk hk20 hP hS dX9_takesItem_63 h

def B_X9_faultOf_25 (N : Nat) (F : Mem → Option (Int32 × Mem))  (m : Mem) : Option (Int32 × Mem) :=
  if (m.1 0 18) ≤ (m.1 0 19) then (
    some ((-4 : Int32), m))
  else (
    fl_li (m.1 0 19) (fun z12 =>
      fl_bd (f_X9_takesItem N  m) (fun r14 m15 =>
        if r14 = 0 then (
          some (z12, m15))
        else (
          F  m15))))
def l_X9_faultOf (N : Nat) : Nat → Mem → Option (Int32 × Mem)
  | 0 => fun  _ => none
  | n + 1 => fun  m => B_X9_faultOf_25 N (l_X9_faultOf N n)  m
def f_X9_faultOf (N : Nat)  (m : Mem) : Option (Int32 × Mem) :=
  fl_lm (mI m 0 21 (4 : Int32)) (fun m1 =>
    fl_lm (mI m1 0 22 (4 : Int32)) (fun m3 =>
      fl_lm (mI m3 0 23 (0 : Int32)) (fun m5 =>
        fl_lm (mI m5 0 25 (0 : Int32)) (fun m7 =>
          fl_lm (mI m7 0 19 (0 : Int32)) (fun m9 =>
            (l_X9_faultOf N N)  m9)))))
set_option maxHeartbeats 4000000 in
set_option maxRecDepth 100000 in
theorem c_X9_faultOf (l : Launch) (D : va_G) (ca : Nat → ClassId) (ad : Nat → Nat) (hi : fl_inj L2 ad) (N : Nat)  (m : Mem) (v' : Int32) (M' : Mem) (h : f_X9_faultOf N  m = some (v', M')) : fl_M l L2 D ca ad yX9_faultOf cX9_faultOf 2 (some .int) 5 [.ref (ad 0)] m (some (.int v')) M' := by
  unfold f_X9_faultOf at h
  refine fl_ofW (by decide) hi (Nat.le_of_ble_eq_true rfl) ?_
  intro p e s mm args below meth c ls X hr hlk hP hl
  have hl : lv_has ls 2 [(0, .ref (ad 0))] := hl
  have X : fl_X p s mm args c cX9_faultOf 2 RX9 L2 D ca ad := X
  obtain ⟨hx, hb, hml, hown, hts, hE, -⟩ := id X
  have hS : va_S (fl_A L2 ad) s.heap s.heap [] := va_S.rf
  have key : ∀ n : Nat, (∀  (m : Mem) (H : Heap) (locs : List Loc) (ls : Array Slot), l_X9_faultOf N n  m = some (v', M') → va_P D vwCl (fl_w L2 ca ad m) H → va_S (fl_A L2 ad) s.heap H locs → lv_has ls 2 [(0, .ref (ad 0))] → W p l e (fl_rm 5) s mm args below meth c H locs 0 0 (MQ below (fl_Q L2 D ca ad (some (.int v')) M') args s 0 0 (fl_A L2 ad)) (F0 mm 25 ls [])) := by
    intro n
    induction n with
    | zero =>
      skip
      · intro  m H locs ls h hP hS hl
        have h : (none : Option (Int32 × Mem)) = some (v', M') := h
        cases h
    | succ n ih =>
      have ih_25 := ih
      skip
      · intro  m H locs ls h hP hS hl
        have h : B_X9_faultOf_25 N (l_X9_faultOf N n)  m = some (v', M') := h
        unfold B_X9_faultOf_25 at h
        refine lv_aload_n hx hb dX9_faultOf_25 rfl (lv_at hl 0 rfl) ?_
        refine fl_geti X hP fk_X9_124 k2_0 rfl dX9_faultOf_26 ?_
        refine lv_aload_n hx hb dX9_faultOf_29 rfl (lv_at hl 0 rfl) ?_
        refine fl_geti X hP fk_X9_121 k2_0 rfl dX9_faultOf_30 ?_
        refine lv_icmp_ge (tgt := 53) hx hb dX9_faultOf_33 (by decide) (fun c11 => ?_) (fun c11 => ?_)
        · replace h := fl_if_t h c11
          refine lv_bipush (v := (-4 : Int32)) hx hb dX9_faultOf_53 (by decide) ?_
          exact fl_iret X hr hlk hP hS dX9_faultOf_55 h
        · replace h := fl_if_f h c11
          refine lv_aload_n hx hb dX9_faultOf_36 rfl (lv_at hl 0 rfl) ?_
          refine fl_geti X hP fk_X9_124 k2_0 rfl dX9_faultOf_37 ?_
          obtain ⟨z12, ez13, h⟩ := fl_li_e h
          refine fl_topi ez13 ?_
          refine lv_istore_n (lv' := [(1, .int z12), (0, .ref (ad 0))]) hx hb dX9_faultOf_40 rfl hl (by decide) rfl (fun ls hl => ?_)
          refine lv_aload_n hx hb dX9_faultOf_41 rfl (lv_at hl 1 rfl) ?_
          obtain ⟨r14, m15, hz16, h⟩ := fl_bd_e h
          refine fl_callV (av := []) X hP hS hl.1 mv_X9_152 (c_X9_takesItem l D ca ad hi N  m _ _ hz16) k2_0 (fl_fit_rm (by omega) (by decide)) rfl (Nat.le_of_ble_eq_true rfl) dX9_faultOf_42 rfl (fun H locs hP hS => ?_)
          refine W.eq (g2 := F0 mm 45 ls [.int r14]) rfl ?_
          refine lv_if_ne (tgt := 50) hx hb dX9_faultOf_45 (by decide) (fun c17 => ?_) (fun c17 => ?_)
          · replace h := fl_if_f h c17
            refine lv_goto (tgt := 25) hx hb dX9_faultOf_50 (by decide) ?_
            exact ih_25  _ _ _ _ h hP hS (lv_sub hl [1] rfl)
          · replace h := fl_if_t h c17
            refine lv_iload_n hx hb dX9_faultOf_48 rfl (lv_at hl 0 rfl) ?_
            exact fl_iret X hr hlk hP hS dX9_faultOf_49 h
  have ih_25 := key N
  refine lv_aload_n hx hb dX9_faultOf_0 rfl (lv_at hl 0 rfl) ?_
  refine lv_iconst (v := (4 : Int32)) hx hb dX9_faultOf_1 (by decide) ?_
  obtain ⟨m1, em2, h⟩ := fl_lm_e h
  refine fl_puti X hP hS pk_X9_64 k2_0 rfl rfl rfl dX9_faultOf_2 (fun H locs hP hS => ?_)
  have hP : va_P D vwCl (fl_w L2 ca ad m1) H := by rw [em2]; exact hP
  refine lv_aload_n hx hb dX9_faultOf_5 rfl (lv_at hl 0 rfl) ?_
  refine lv_iconst (v := (4 : Int32)) hx hb dX9_faultOf_6 (by decide) ?_
  obtain ⟨m3, em4, h⟩ := fl_lm_e h
  refine fl_puti X hP hS pk_X9_68 k2_0 rfl rfl rfl dX9_faultOf_7 (fun H locs hP hS => ?_)
  have hP : va_P D vwCl (fl_w L2 ca ad m3) H := by rw [em4]; exact hP
  refine lv_aload_n hx hb dX9_faultOf_10 rfl (lv_at hl 0 rfl) ?_
  refine lv_iconst (v := (0 : Int32)) hx hb dX9_faultOf_11 (by decide) ?_
  obtain ⟨m5, em6, h⟩ := fl_lm_e h
  refine fl_puti X hP hS pk_X9_102 k2_0 rfl rfl rfl dX9_faultOf_12 (fun H locs hP hS => ?_)
  have hP : va_P D vwCl (fl_w L2 ca ad m5) H := by rw [em6]; exact hP
  refine lv_aload_n hx hb dX9_faultOf_15 rfl (lv_at hl 0 rfl) ?_
  refine lv_iconst (v := (0 : Int32)) hx hb dX9_faultOf_16 (by decide) ?_
  obtain ⟨m7, em8, h⟩ := fl_lm_e h
  refine fl_puti X hP hS pk_X9_105 k2_0 rfl rfl rfl dX9_faultOf_17 (fun H locs hP hS => ?_)
  have hP : va_P D vwCl (fl_w L2 ca ad m7) H := by rw [em8]; exact hP
  refine lv_aload_n hx hb dX9_faultOf_20 rfl (lv_at hl 0 rfl) ?_
  refine lv_iconst (v := (0 : Int32)) hx hb dX9_faultOf_21 (by decide) ?_
  obtain ⟨m9, em10, h⟩ := fl_lm_e h
  refine fl_puti X hP hS pk_X9_124 k2_0 rfl rfl rfl dX9_faultOf_22 (fun H locs hP hS => ?_)
  have hP : va_P D vwCl (fl_w L2 ca ad m9) H := by rw [em10]; exact hP
  exact ih_25  _ _ _ _ h hP hS (lv_sub hl [0] rfl)

def f_X9_fault (N : Nat)  (m : Mem) : Option (Int32 × Mem) :=
  fl_bd (f_X9_faultOf N  m) (fun r1 m2 =>
    some (r1, m2))
set_option maxHeartbeats 4000000 in
set_option maxRecDepth 100000 in
theorem c_X9_fault (l : Launch) (D : va_G) (ca : Nat → ClassId) (ad : Nat → Nat) (hi : fl_inj L2 ad) (N : Nat)  (m : Mem) (v' : Int32) (M' : Mem) (h : f_X9_fault N  m = some (v', M')) : fl_M l L2 D ca ad yX9_fault cX9_fault 1 (some .int) 6 [.ref (ad 0)] m (some (.int v')) M' := by
  unfold f_X9_fault at h
  refine fl_ofW (by decide) hi (Nat.le_of_ble_eq_true rfl) ?_
  intro p e s mm args below meth c ls X hr hlk hP hl
  have hl : lv_has ls 1 [(0, .ref (ad 0))] := hl
  have X : fl_X p s mm args c cX9_fault 1 RX9 L2 D ca ad := X
  obtain ⟨hx, hb, hml, hown, hts, hE, -⟩ := id X
  have hS : va_S (fl_A L2 ad) s.heap s.heap [] := va_S.rf
  refine lv_aload_n hx hb dX9_fault_0 rfl (lv_at hl 0 rfl) ?_
  obtain ⟨r1, m2, hz3, h⟩ := fl_bd_e h
  refine fl_callV (av := []) X hP hS hl.1 mv_X9_155 (c_X9_faultOf l D ca ad hi N  m _ _ hz3) k2_0 (fl_fit_rm (by omega) (by decide)) rfl (Nat.le_of_ble_eq_true rfl) dX9_fault_1 rfl (fun H locs hP hS => ?_)
  refine W.eq (g2 := F0 mm 4 ls [.int r1]) rfl ?_
  exact fl_iret X hr hlk hP hS dX9_fault_4 h

def f_X9_lay (N : Nat)  (m : Mem) : Option (Int32 × Mem) :=
  fl_bd (f_X9_faultOf N  m) (fun r1 m2 =>
    if r1 = (-4 : Int32) then (
      if (m2.1 0 23) = 0 then (
        some ((-2 : Int32), m2))
      else (
        if (m2.1 0 25) = 0 then (
          some ((-2 : Int32), m2))
        else (
          fl_bd (f_X9_begins N  m2) (fun r7 m8 =>
            fl_bd (f_X9_places  m8) (fun r10 m11 =>
              some (r10, m11))))))
    else (
      some ((-2 : Int32), m2)))
set_option maxHeartbeats 4000000 in
set_option maxRecDepth 100000 in
theorem c_X9_lay (l : Launch) (D : va_G) (ca : Nat → ClassId) (ad : Nat → Nat) (hi : fl_inj L2 ad) (N : Nat)  (m : Mem) (v' : Int32) (M' : Mem) (h : f_X9_lay N  m = some (v', M')) : fl_M l L2 D ca ad yX9_lay cX9_lay 1 (some .int) 6 [.ref (ad 0)] m (some (.int v')) M' := by
  unfold f_X9_lay at h
  refine fl_ofW (by decide) hi (Nat.le_of_ble_eq_true rfl) ?_
  intro p e s mm args below meth c ls X hr hlk hP hl
  have hl : lv_has ls 1 [(0, .ref (ad 0))] := hl
  have X : fl_X p s mm args c cX9_lay 1 RX9 L2 D ca ad := X
  obtain ⟨hx, hb, hml, hown, hts, hE, -⟩ := id X
  have hS : va_S (fl_A L2 ad) s.heap s.heap [] := va_S.rf
  refine lv_aload_n hx hb dX9_lay_0 rfl (lv_at hl 0 rfl) ?_
  obtain ⟨r1, m2, hz3, h⟩ := fl_bd_e h
  refine fl_callV (av := []) X hP hS hl.1 mv_X9_155 (c_X9_faultOf l D ca ad hi N  m _ _ hz3) k2_0 (fl_fit_rm (by omega) (by decide)) rfl (Nat.le_of_ble_eq_true rfl) dX9_lay_1 rfl (fun H locs hP hS => ?_)
  refine W.eq (g2 := F0 mm 4 ls [.int r1]) rfl ?_
  refine lv_bipush (v := (-4 : Int32)) hx hb dX9_lay_4 (by decide) ?_
  refine lv_icmp_ne (tgt := 23) hx hb dX9_lay_6 (by decide) (fun c4 => ?_) (fun c4 => ?_)
  · replace h := fl_if_f h c4
    refine lv_bipush (v := (-2 : Int32)) hx hb dX9_lay_23 (by decide) ?_
    exact fl_iret X hr hlk hP hS dX9_lay_25 h
  · replace h := fl_if_t h c4
    refine lv_aload_n hx hb dX9_lay_9 rfl (lv_at hl 0 rfl) ?_
    refine fl_geti X hP fk_X9_102 k2_0 rfl dX9_lay_10 ?_
    refine lv_if_eq (tgt := 23) hx hb dX9_lay_13 (by decide) (fun c5 => ?_) (fun c5 => ?_)
    · replace h := fl_if_t h c5
      refine lv_bipush (v := (-2 : Int32)) hx hb dX9_lay_23 (by decide) ?_
      exact fl_iret X hr hlk hP hS dX9_lay_25 h
    · replace h := fl_if_f h c5
      refine lv_aload_n hx hb dX9_lay_16 rfl (lv_at hl 0 rfl) ?_
      refine fl_geti X hP fk_X9_105 k2_0 rfl dX9_lay_17 ?_
      refine lv_if_ne (tgt := 26) hx hb dX9_lay_20 (by decide) (fun c6 => ?_) (fun c6 => ?_)
      · replace h := fl_if_f h c6
        refine lv_aload_n hx hb dX9_lay_26 rfl (lv_at hl 0 rfl) ?_
        obtain ⟨r7, m8, hz9, h⟩ := fl_bd_e h
        refine fl_callV (av := []) X hP hS hl.1 mv_X9_79 (c_X9_begins l D ca ad hi N  m2 _ _ hz9) k2_0 (fl_fit_rm (by omega) (by decide)) rfl (Nat.le_of_ble_eq_true rfl) dX9_lay_27 rfl (fun H locs hP hS => ?_)
        refine W.eq (g2 := F0 mm 30 ls []) rfl ?_
        refine lv_aload_n hx hb dX9_lay_30 rfl (lv_at hl 0 rfl) ?_
        obtain ⟨r10, m11, hz12, h⟩ := fl_bd_e h
        refine fl_callV (av := []) X hP hS hl.1 mv_X9_88 (c_X9_places l D ca ad hi  m8 _ _ hz12) k2_0 (fl_fit_rm (by omega) (by decide)) rfl (Nat.le_of_ble_eq_true rfl) dX9_lay_31 rfl (fun H locs hP hS => ?_)
        refine W.eq (g2 := F0 mm 34 ls [.int r10]) rfl ?_
        exact fl_iret X hr hlk hP hS dX9_lay_34 h
      · replace h := fl_if_t h c6
        refine lv_bipush (v := (-2 : Int32)) hx hb dX9_lay_23 (by decide) ?_
        exact fl_iret X hr hlk hP hS dX9_lay_25 h

def J_X9_farOf_39 (x4 : Int32) (t0 : Int32) (m : Mem) : Option (Int32 × Mem) :=
  if 0 ≤ x4 then (
    some (t0 + x4, m))
  else (
    some (t0 + (-x4), m))
def f_X9_farOf (x1 : Int32) (x2 : Int32) (m : Mem) : Option (Int32 × Mem) :=
  fl_ck (¬ (m.1 0 4) = 0) (
    fl_ck (¬ (m.1 0 4) = 0) (
      fl_li ((x1 / (m.1 0 4)) - (x2 / (m.1 0 4))) (fun z3 =>
        fl_ck (¬ (m.1 0 4) = 0) (
          fl_ck (¬ (m.1 0 4) = 0) (
            fl_li ((fl_rem x1 (m.1 0 4)) - (fl_rem x2 (m.1 0 4))) (fun z7 =>
              if 0 ≤ z3 then (
                J_X9_farOf_39 z7 z3 m)
              else (
                J_X9_farOf_39 z7 (-z3) m)))))))
set_option maxHeartbeats 4000000 in
set_option maxRecDepth 100000 in
theorem c_X9_farOf (l : Launch) (D : va_G) (ca : Nat → ClassId) (ad : Nat → Nat) (hi : fl_inj L2 ad) (x1 : Int32) (x2 : Int32) (m : Mem) (v' : Int32) (M' : Mem) (h : f_X9_farOf x1 x2 m = some (v', M')) : fl_M l L2 D ca ad yX9_farOf cX9_farOf 5 (some .int) 1 [.ref (ad 0), .int x1, .int x2] m (some (.int v')) M' := by
  unfold f_X9_farOf at h
  refine fl_ofW (by decide) hi (Nat.le_of_ble_eq_true rfl) ?_
  intro p e s mm args below meth c ls X hr hlk hP hl
  have hl : lv_has ls 5 [(0, .ref (ad 0)), (1, .int x1), (2, .int x2)] := hl
  have X : fl_X p s mm args c cX9_farOf 5 RX9 L2 D ca ad := X
  obtain ⟨hx, hb, hml, hown, hts, hE, -⟩ := id X
  have hS : va_S (fl_A L2 ad) s.heap s.heap [] := va_S.rf
  have j_39 : ∀ (x4 : Int32) (t0 : Int32) (m : Mem) (H : Heap) (locs : List Loc) (ls : Array Slot), J_X9_farOf_39 x4 t0 m = some (v', M') → va_P D vwCl (fl_w L2 ca ad m) H → va_S (fl_A L2 ad) s.heap H locs → lv_has ls 5 [(4, .int x4)] → W p l e (fl_rm 1) s mm args below meth c H locs 0 0 (MQ below (fl_Q L2 D ca ad (some (.int v')) M') args s 0 0 (fl_A L2 ad)) (F0 mm 39 ls [.int t0]) := by
    intro x4 t0 m H locs ls h hP hS hl
    unfold J_X9_farOf_39 at h
    refine lv_iload hx hb dX9_farOf_39 (lv_at hl 0 rfl) ?_
    refine lv_if_ge (tgt := 50) hx hb dX9_farOf_41 (by decide) (fun c10 => ?_) (fun c10 => ?_)
    · replace h := fl_if_t h c10
      refine lv_iload hx hb dX9_farOf_50 (lv_at hl 0 rfl) ?_
      refine lv_iadd hx hb dX9_farOf_52 ?_
      exact fl_iret X hr hlk hP hS dX9_farOf_53 h
    · replace h := fl_if_f h c10
      refine lv_iload hx hb dX9_farOf_44 (lv_at hl 0 rfl) ?_
      refine lv_ineg hx hb dX9_farOf_46 ?_
      refine lv_goto (tgt := 52) hx hb dX9_farOf_47 (by decide) ?_
      refine lv_iadd hx hb dX9_farOf_52 ?_
      exact fl_iret X hr hlk hP hS dX9_farOf_53 h
  refine lv_iload_n hx hb dX9_farOf_0 rfl (lv_at hl 1 rfl) ?_
  refine lv_aload_n hx hb dX9_farOf_1 rfl (lv_at hl 0 rfl) ?_
  refine fl_geti X hP fk_X9_85 k2_0 rfl dX9_farOf_2 ?_
  obtain ⟨hk1, h⟩ := fl_ck_e h
  refine lv_idiv hx hb dX9_farOf_5 hk1 ?_
  refine lv_iload_n hx hb dX9_farOf_6 rfl (lv_at hl 2 rfl) ?_
  refine lv_aload_n hx hb dX9_farOf_7 rfl (lv_at hl 0 rfl) ?_
  refine fl_geti X hP fk_X9_85 k2_0 rfl dX9_farOf_8 ?_
  obtain ⟨hk2, h⟩ := fl_ck_e h
  refine lv_idiv hx hb dX9_farOf_11 hk2 ?_
  refine lv_isub hx hb dX9_farOf_12 ?_
  obtain ⟨z3, ez4, h⟩ := fl_li_e h
  refine fl_topi ez4 ?_
  refine lv_istore_n (lv' := [(3, .int z3), (0, .ref (ad 0)), (1, .int x1), (2, .int x2)]) hx hb dX9_farOf_13 rfl hl (by decide) rfl (fun ls hl => ?_)
  refine lv_iload_n hx hb dX9_farOf_14 rfl (lv_at hl 2 rfl) ?_
  refine lv_aload_n hx hb dX9_farOf_15 rfl (lv_at hl 1 rfl) ?_
  refine fl_geti X hP fk_X9_85 k2_0 rfl dX9_farOf_16 ?_
  obtain ⟨hk5, h⟩ := fl_ck_e h
  refine lv_irem hx hb dX9_farOf_19 hk5 ?_
  refine lv_iload_n hx hb dX9_farOf_20 rfl (lv_at hl 3 rfl) ?_
  refine lv_aload_n hx hb dX9_farOf_21 rfl (lv_at hl 1 rfl) ?_
  refine fl_geti X hP fk_X9_85 k2_0 rfl dX9_farOf_22 ?_
  obtain ⟨hk6, h⟩ := fl_ck_e h
  refine lv_irem hx hb dX9_farOf_25 hk6 ?_
  refine lv_isub hx hb dX9_farOf_26 ?_
  obtain ⟨z7, ez8, h⟩ := fl_li_e h
  refine fl_topi ez8 ?_
  refine lv_istore (lv' := [(4, .int z7), (3, .int z3), (0, .ref (ad 0)), (1, .int x1), (2, .int x2)]) hx hb dX9_farOf_27 hl (by decide) rfl (fun ls hl => ?_)
  refine lv_iload_n hx hb dX9_farOf_29 rfl (lv_at hl 1 rfl) ?_
  refine lv_if_ge (tgt := 38) hx hb dX9_farOf_30 (by decide) (fun c9 => ?_) (fun c9 => ?_)
  · replace h := fl_if_t h c9
    refine lv_iload_n hx hb dX9_farOf_38 rfl (lv_at hl 1 rfl) ?_
    exact j_39 _ _ _ _ _ _ h hP hS (lv_sub hl [0] rfl)
  · replace h := fl_if_f h c9
    refine lv_iload_n hx hb dX9_farOf_33 rfl (lv_at hl 1 rfl) ?_
    refine lv_ineg hx hb dX9_farOf_34 ?_
    refine lv_goto (tgt := 39) hx hb dX9_farOf_35 (by decide) ?_
    exact j_39 _ _ _ _ _ _ h hP hS (lv_sub hl [0] rfl)

def f_X9_far (x1 : Int32) (x2 : Int32) (m : Mem) : Option (Int32 × Mem) :=
  fl_bd (f_X9_isPlace x1 m) (fun r1 m2 =>
    if r1 = 0 then (
      some ((-1 : Int32), m2))
    else (
      fl_bd (f_X9_isPlace x2 m2) (fun r5 m6 =>
        if r5 = 0 then (
          some ((-1 : Int32), m6))
        else (
          fl_bd (f_X9_farOf x1 x2 m6) (fun r9 m10 =>
            some (r9, m10))))))
set_option maxHeartbeats 4000000 in
set_option maxRecDepth 100000 in
theorem c_X9_far (l : Launch) (D : va_G) (ca : Nat → ClassId) (ad : Nat → Nat) (hi : fl_inj L2 ad) (x1 : Int32) (x2 : Int32) (m : Mem) (v' : Int32) (M' : Mem) (h : f_X9_far x1 x2 m = some (v', M')) : fl_M l L2 D ca ad yX9_far cX9_far 3 (some .int) 3 [.ref (ad 0), .int x1, .int x2] m (some (.int v')) M' := by
  unfold f_X9_far at h
  refine fl_ofW (by decide) hi (Nat.le_of_ble_eq_true rfl) ?_
  intro p e s mm args below meth c ls X hr hlk hP hl
  have hl : lv_has ls 3 [(0, .ref (ad 0)), (1, .int x1), (2, .int x2)] := hl
  have X : fl_X p s mm args c cX9_far 3 RX9 L2 D ca ad := X
  obtain ⟨hx, hb, hml, hown, hts, hE, -⟩ := id X
  have hS : va_S (fl_A L2 ad) s.heap s.heap [] := va_S.rf
  refine lv_aload_n hx hb dX9_far_0 rfl (lv_at hl 0 rfl) ?_
  refine lv_iload_n hx hb dX9_far_1 rfl (lv_at hl 1 rfl) ?_
  obtain ⟨r1, m2, hz3, h⟩ := fl_bd_e h
  refine fl_callV (av := [.int x1]) X hP hS hl.1 mv_X9_158 (c_X9_isPlace l D ca ad hi x1 m _ _ hz3) k2_0 (fl_fit_rm (by omega) (by decide)) rfl (Nat.le_of_ble_eq_true rfl) dX9_far_2 rfl (fun H locs hP hS => ?_)
  refine W.eq (g2 := F0 mm 5 ls [.int r1]) rfl ?_
  refine lv_if_eq (tgt := 25) hx hb dX9_far_5 (by decide) (fun c4 => ?_) (fun c4 => ?_)
  · replace h := fl_if_t h c4
    refine lv_iconst (v := (-1 : Int32)) hx hb dX9_far_25 (by decide) ?_
    exact fl_iret X hr hlk hP hS dX9_far_26 h
  · replace h := fl_if_f h c4
    refine lv_aload_n hx hb dX9_far_8 rfl (lv_at hl 0 rfl) ?_
    refine lv_iload_n hx hb dX9_far_9 rfl (lv_at hl 2 rfl) ?_
    obtain ⟨r5, m6, hz7, h⟩ := fl_bd_e h
    refine fl_callV (av := [.int x2]) X hP hS hl.1 mv_X9_158 (c_X9_isPlace l D ca ad hi x2 m2 _ _ hz7) k2_0 (fl_fit_rm (by omega) (by decide)) rfl (Nat.le_of_ble_eq_true rfl) dX9_far_10 rfl (fun H locs hP hS => ?_)
    refine W.eq (g2 := F0 mm 13 ls [.int r5]) rfl ?_
    refine lv_if_eq (tgt := 25) hx hb dX9_far_13 (by decide) (fun c8 => ?_) (fun c8 => ?_)
    · replace h := fl_if_t h c8
      refine lv_iconst (v := (-1 : Int32)) hx hb dX9_far_25 (by decide) ?_
      exact fl_iret X hr hlk hP hS dX9_far_26 h
    · replace h := fl_if_f h c8
      refine lv_aload_n hx hb dX9_far_16 rfl (lv_at hl 0 rfl) ?_
      refine lv_iload_n hx hb dX9_far_17 rfl (lv_at hl 1 rfl) ?_
      refine lv_iload_n hx hb dX9_far_18 rfl (lv_at hl 2 rfl) ?_
      obtain ⟨r9, m10, hz11, h⟩ := fl_bd_e h
      refine fl_callV (av := [.int x1, .int x2]) X hP hS hl.1 mv_X9_162 (c_X9_farOf l D ca ad hi x1 x2 m6 _ _ hz11) k2_0 (fl_fit_rm (by omega) (by decide)) rfl (Nat.le_of_ble_eq_true rfl) dX9_far_19 rfl (fun H locs hP hS => ?_)
      refine W.eq (g2 := F0 mm 22 ls [.int r9]) rfl ?_
      refine lv_goto (tgt := 26) hx hb dX9_far_22 (by decide) ?_
      exact fl_iret X hr hlk hP hS dX9_far_26 h

def f_X9_cab (x1 : Int32) (x2 : Int32) (m : Mem) : Option (Int32 × Mem) :=
  fl_bd (f_X9_isCab x1 m) (fun r1 m2 =>
    if r1 = 0 then (
      some ((-1 : Int32), m2))
    else (
      if x2 = (0 : Int32) then (
        fl_ck (0 ≤ x1.toInt ∧ x1.toInt < 3) (
          some (m2.1 2 (x1.toNatClampNeg), m2)))
      else (
        if x2 = (1 : Int32) then (
          fl_ck (0 ≤ ((1 : Int32) + x1).toInt ∧ ((1 : Int32) + x1).toInt < 380) (
            some (m2.1 1 (((1 : Int32) + x1).toNatClampNeg), m2)))
        else (
          if x2 = (2 : Int32) then (
            fl_ck (0 ≤ ((4 : Int32) + x1).toInt ∧ ((4 : Int32) + x1).toInt < 380) (
              some (m2.1 1 (((4 : Int32) + x1).toNatClampNeg), m2)))
          else (
            if x2 = (3 : Int32) then (
              fl_ck (0 ≤ ((7 : Int32) + x1).toInt ∧ ((7 : Int32) + x1).toInt < 380) (
                some (m2.1 1 (((7 : Int32) + x1).toNatClampNeg), m2)))
            else (
              some ((-1 : Int32), m2)))))))
set_option maxHeartbeats 4000000 in
set_option maxRecDepth 100000 in
theorem c_X9_cab (l : Launch) (D : va_G) (ca : Nat → ClassId) (ad : Nat → Nat) (hi : fl_inj L2 ad) (x1 : Int32) (x2 : Int32) (m : Mem) (v' : Int32) (M' : Mem) (h : f_X9_cab x1 x2 m = some (v', M')) : fl_M l L2 D ca ad yX9_cab cX9_cab 3 (some .int) 3 [.ref (ad 0), .int x1, .int x2] m (some (.int v')) M' := by
  unfold f_X9_cab at h
  refine fl_ofW (by decide) hi (Nat.le_of_ble_eq_true rfl) ?_
  intro p e s mm args below meth c ls X hr hlk hP hl
  have hl : lv_has ls 3 [(0, .ref (ad 0)), (1, .int x1), (2, .int x2)] := hl
  have X : fl_X p s mm args c cX9_cab 3 RX9 L2 D ca ad := X
  obtain ⟨hx, hb, hml, hown, hts, hE, -⟩ := id X
  have hS : va_S (fl_A L2 ad) s.heap s.heap [] := va_S.rf
  refine lv_aload_n hx hb dX9_cab_0 rfl (lv_at hl 0 rfl) ?_
  refine lv_iload_n hx hb dX9_cab_1 rfl (lv_at hl 1 rfl) ?_
  obtain ⟨r1, m2, hz3, h⟩ := fl_bd_e h
  refine fl_callV (av := [.int x1]) X hP hS hl.1 mv_X9_166 (c_X9_isCab l D ca ad hi x1 m _ _ hz3) k2_0 (fl_fit_rm (by omega) (by decide)) rfl (Nat.le_of_ble_eq_true rfl) dX9_cab_2 rfl (fun H locs hP hS => ?_)
  refine W.eq (g2 := F0 mm 5 ls [.int r1]) rfl ?_
  refine lv_if_ne (tgt := 10) hx hb dX9_cab_5 (by decide) (fun c4 => ?_) (fun c4 => ?_)
  · replace h := fl_if_f h c4
    refine lv_iload_n hx hb dX9_cab_10 rfl (lv_at hl 2 rfl) ?_
    by_cases c_0 : x2 = (0 : Int32)
    · replace h := fl_if_t h c_0
      refine lv_tableIn (off := 29) (tgt := 40) hx hb dX9_cab_11 (by rw [c_0]; decide) (by rw [c_0]; decide) (by rw [c_0]; rfl) (by decide) ?_
      refine lv_aload_n hx hb dX9_cab_40 rfl (lv_at hl 0 rfl) ?_
      refine fl_getr X hP fk_X9_13 k2_0 rfl dX9_cab_41 ?_
      refine lv_iload_n hx hb dX9_cab_44 rfl (lv_at hl 1 rfl) ?_
      obtain ⟨hk5, h⟩ := fl_ck_e h
      refine fl_iald X hP k2_2 hk5 dX9_cab_45 ?_
      exact fl_iret X hr hlk hP hS dX9_cab_46 h
    · replace h := fl_if_f h c_0
      by_cases c_1 : x2 = (1 : Int32)
      · replace h := fl_if_t h c_1
        refine lv_tableIn (off := 36) (tgt := 47) hx hb dX9_cab_11 (by rw [c_1]; decide) (by rw [c_1]; decide) (by rw [c_1]; rfl) (by decide) ?_
        refine lv_aload_n hx hb dX9_cab_47 rfl (lv_at hl 0 rfl) ?_
        refine fl_getr X hP fk_X9_7 k2_0 rfl dX9_cab_48 ?_
        refine lv_iconst (v := (1 : Int32)) hx hb dX9_cab_51 (by decide) ?_
        refine lv_iload_n hx hb dX9_cab_52 rfl (lv_at hl 1 rfl) ?_
        refine lv_iadd hx hb dX9_cab_53 ?_
        obtain ⟨hk6, h⟩ := fl_ck_e h
        refine fl_iald X hP k2_1 hk6 dX9_cab_54 ?_
        exact fl_iret X hr hlk hP hS dX9_cab_55 h
      · replace h := fl_if_f h c_1
        by_cases c_2 : x2 = (2 : Int32)
        · replace h := fl_if_t h c_2
          refine lv_tableIn (off := 45) (tgt := 56) hx hb dX9_cab_11 (by rw [c_2]; decide) (by rw [c_2]; decide) (by rw [c_2]; rfl) (by decide) ?_
          refine lv_aload_n hx hb dX9_cab_56 rfl (lv_at hl 0 rfl) ?_
          refine fl_getr X hP fk_X9_7 k2_0 rfl dX9_cab_57 ?_
          refine lv_iconst (v := (4 : Int32)) hx hb dX9_cab_60 (by decide) ?_
          refine lv_iload_n hx hb dX9_cab_61 rfl (lv_at hl 1 rfl) ?_
          refine lv_iadd hx hb dX9_cab_62 ?_
          obtain ⟨hk7, h⟩ := fl_ck_e h
          refine fl_iald X hP k2_1 hk7 dX9_cab_63 ?_
          exact fl_iret X hr hlk hP hS dX9_cab_64 h
        · replace h := fl_if_f h c_2
          by_cases c_3 : x2 = (3 : Int32)
          · replace h := fl_if_t h c_3
            refine lv_tableIn (off := 54) (tgt := 65) hx hb dX9_cab_11 (by rw [c_3]; decide) (by rw [c_3]; decide) (by rw [c_3]; rfl) (by decide) ?_
            refine lv_aload_n hx hb dX9_cab_65 rfl (lv_at hl 0 rfl) ?_
            refine fl_getr X hP fk_X9_7 k2_0 rfl dX9_cab_66 ?_
            refine lv_bipush (v := (7 : Int32)) hx hb dX9_cab_69 (by decide) ?_
            refine lv_iload_n hx hb dX9_cab_71 rfl (lv_at hl 1 rfl) ?_
            refine lv_iadd hx hb dX9_cab_72 ?_
            obtain ⟨hk8, h⟩ := fl_ck_e h
            refine fl_iald X hP k2_1 hk8 dX9_cab_73 ?_
            exact fl_iret X hr hlk hP hS dX9_cab_74 h
          · replace h := fl_if_f h c_3
            refine lv_tableOut (tgt := 75) hx hb dX9_cab_11 (by have e0 := lv_neT c_0 (a := 0) (by decide); have e1 := lv_neT c_1 (a := 1) (by decide); have e2 := lv_neT c_2 (a := 2) (by decide); have e3 := lv_neT c_3 (a := 3) (by decide); omega) (by decide) ?_
            refine lv_iconst (v := (-1 : Int32)) hx hb dX9_cab_75 (by decide) ?_
            exact fl_iret X hr hlk hP hS dX9_cab_76 h
  · replace h := fl_if_t h c4
    refine lv_iconst (v := (-1 : Int32)) hx hb dX9_cab_8 (by decide) ?_
    exact fl_iret X hr hlk hP hS dX9_cab_9 h

def f_X9_fare (x1 : Int32) (x2 : Int32) (m : Mem) : Option (Int32 × Mem) :=
  fl_bd (f_X9_isFare x1 m) (fun r1 m2 =>
    if r1 = 0 then (
      some ((-1 : Int32), m2))
    else (
      if x2 = (0 : Int32) then (
        fl_ck (0 ≤ x1.toInt ∧ x1.toInt < 7) (
          some (m2.1 3 (x1.toNatClampNeg), m2)))
      else (
        if x2 = (1 : Int32) then (
          fl_ck (0 ≤ x1.toInt ∧ x1.toInt < 7) (
            some (m2.1 4 (x1.toNatClampNeg), m2)))
        else (
          if x2 = (2 : Int32) then (
            fl_ck (0 ≤ x1.toInt ∧ x1.toInt < 7) (
              some (m2.1 5 (x1.toNatClampNeg), m2)))
          else (
            if x2 = (3 : Int32) then (
              fl_ck (0 ≤ x1.toInt ∧ x1.toInt < 7) (
                some (m2.1 6 (x1.toNatClampNeg), m2)))
            else (
              if x2 = (4 : Int32) then (
                fl_ck (0 ≤ x1.toInt ∧ x1.toInt < 7) (
                  some (m2.1 7 (x1.toNatClampNeg), m2)))
              else (
                if x2 = (5 : Int32) then (
                  some (((m2.1 1 10) >>> (x1 &&& 31)) &&& (1 : Int32), m2))
                else (
                  if x2 = (6 : Int32) then (
                    fl_ck (0 ≤ ((11 : Int32) + x1).toInt ∧ ((11 : Int32) + x1).toInt < 380) (
                      some (m2.1 1 (((11 : Int32) + x1).toNatClampNeg), m2)))
                  else (
                    if x2 = (7 : Int32) then (
                      some (((m2.1 1 18) >>> (x1 &&& 31)) &&& (1 : Int32), m2))
                    else (
                      some ((-1 : Int32), m2)))))))))))
set_option maxHeartbeats 4000000 in
set_option maxRecDepth 100000 in
theorem c_X9_fare (l : Launch) (D : va_G) (ca : Nat → ClassId) (ad : Nat → Nat) (hi : fl_inj L2 ad) (x1 : Int32) (x2 : Int32) (m : Mem) (v' : Int32) (M' : Mem) (h : f_X9_fare x1 x2 m = some (v', M')) : fl_M l L2 D ca ad yX9_fare cX9_fare 3 (some .int) 3 [.ref (ad 0), .int x1, .int x2] m (some (.int v')) M' := by
  unfold f_X9_fare at h
  refine fl_ofW (by decide) hi (Nat.le_of_ble_eq_true rfl) ?_
  intro p e s mm args below meth c ls X hr hlk hP hl
  have hl : lv_has ls 3 [(0, .ref (ad 0)), (1, .int x1), (2, .int x2)] := hl
  have X : fl_X p s mm args c cX9_fare 3 RX9 L2 D ca ad := X
  obtain ⟨hx, hb, hml, hown, hts, hE, -⟩ := id X
  have hS : va_S (fl_A L2 ad) s.heap s.heap [] := va_S.rf
  refine lv_aload_n hx hb dX9_fare_0 rfl (lv_at hl 0 rfl) ?_
  refine lv_iload_n hx hb dX9_fare_1 rfl (lv_at hl 1 rfl) ?_
  obtain ⟨r1, m2, hz3, h⟩ := fl_bd_e h
  refine fl_callV (av := [.int x1]) X hP hS hl.1 mv_X9_169 (c_X9_isFare l D ca ad hi x1 m _ _ hz3) k2_0 (fl_fit_rm (by omega) (by decide)) rfl (Nat.le_of_ble_eq_true rfl) dX9_fare_2 rfl (fun H locs hP hS => ?_)
  refine W.eq (g2 := F0 mm 5 ls [.int r1]) rfl ?_
  refine lv_if_ne (tgt := 10) hx hb dX9_fare_5 (by decide) (fun c4 => ?_) (fun c4 => ?_)
  · replace h := fl_if_f h c4
    refine lv_iload_n hx hb dX9_fare_10 rfl (lv_at hl 2 rfl) ?_
    by_cases c_0 : x2 = (0 : Int32)
    · replace h := fl_if_t h c_0
      refine lv_tableIn (off := 45) (tgt := 56) hx hb dX9_fare_11 (by rw [c_0]; decide) (by rw [c_0]; decide) (by rw [c_0]; rfl) (by decide) ?_
      refine lv_aload_n hx hb dX9_fare_56 rfl (lv_at hl 0 rfl) ?_
      refine fl_getr X hP fk_X9_16 k2_0 rfl dX9_fare_57 ?_
      refine lv_iload_n hx hb dX9_fare_60 rfl (lv_at hl 1 rfl) ?_
      obtain ⟨hk5, h⟩ := fl_ck_e h
      refine fl_iald X hP k2_3 hk5 dX9_fare_61 ?_
      exact fl_iret X hr hlk hP hS dX9_fare_62 h
    · replace h := fl_if_f h c_0
      by_cases c_1 : x2 = (1 : Int32)
      · replace h := fl_if_t h c_1
        refine lv_tableIn (off := 52) (tgt := 63) hx hb dX9_fare_11 (by rw [c_1]; decide) (by rw [c_1]; decide) (by rw [c_1]; rfl) (by decide) ?_
        refine lv_aload_n hx hb dX9_fare_63 rfl (lv_at hl 0 rfl) ?_
        refine fl_getr X hP fk_X9_19 k2_0 rfl dX9_fare_64 ?_
        refine lv_iload_n hx hb dX9_fare_67 rfl (lv_at hl 1 rfl) ?_
        obtain ⟨hk6, h⟩ := fl_ck_e h
        refine fl_iald X hP k2_4 hk6 dX9_fare_68 ?_
        exact fl_iret X hr hlk hP hS dX9_fare_69 h
      · replace h := fl_if_f h c_1
        by_cases c_2 : x2 = (2 : Int32)
        · replace h := fl_if_t h c_2
          refine lv_tableIn (off := 59) (tgt := 70) hx hb dX9_fare_11 (by rw [c_2]; decide) (by rw [c_2]; decide) (by rw [c_2]; rfl) (by decide) ?_
          refine lv_aload_n hx hb dX9_fare_70 rfl (lv_at hl 0 rfl) ?_
          refine fl_getr X hP fk_X9_22 k2_0 rfl dX9_fare_71 ?_
          refine lv_iload_n hx hb dX9_fare_74 rfl (lv_at hl 1 rfl) ?_
          obtain ⟨hk7, h⟩ := fl_ck_e h
          refine fl_iald X hP k2_5 hk7 dX9_fare_75 ?_
          exact fl_iret X hr hlk hP hS dX9_fare_76 h
        · replace h := fl_if_f h c_2
          by_cases c_3 : x2 = (3 : Int32)
          · replace h := fl_if_t h c_3
            refine lv_tableIn (off := 66) (tgt := 77) hx hb dX9_fare_11 (by rw [c_3]; decide) (by rw [c_3]; decide) (by rw [c_3]; rfl) (by decide) ?_
            refine lv_aload_n hx hb dX9_fare_77 rfl (lv_at hl 0 rfl) ?_
            refine fl_getr X hP fk_X9_25 k2_0 rfl dX9_fare_78 ?_
            refine lv_iload_n hx hb dX9_fare_81 rfl (lv_at hl 1 rfl) ?_
            obtain ⟨hk8, h⟩ := fl_ck_e h
            refine fl_iald X hP k2_6 hk8 dX9_fare_82 ?_
            exact fl_iret X hr hlk hP hS dX9_fare_83 h
          · replace h := fl_if_f h c_3
            by_cases c_4 : x2 = (4 : Int32)
            · replace h := fl_if_t h c_4
              refine lv_tableIn (off := 73) (tgt := 84) hx hb dX9_fare_11 (by rw [c_4]; decide) (by rw [c_4]; decide) (by rw [c_4]; rfl) (by decide) ?_
              refine lv_aload_n hx hb dX9_fare_84 rfl (lv_at hl 0 rfl) ?_
              refine fl_getr X hP fk_X9_28 k2_0 rfl dX9_fare_85 ?_
              refine lv_iload_n hx hb dX9_fare_88 rfl (lv_at hl 1 rfl) ?_
              obtain ⟨hk9, h⟩ := fl_ck_e h
              refine fl_iald X hP k2_7 hk9 dX9_fare_89 ?_
              exact fl_iret X hr hlk hP hS dX9_fare_90 h
            · replace h := fl_if_f h c_4
              by_cases c_5 : x2 = (5 : Int32)
              · replace h := fl_if_t h c_5
                refine lv_tableIn (off := 80) (tgt := 91) hx hb dX9_fare_11 (by rw [c_5]; decide) (by rw [c_5]; decide) (by rw [c_5]; rfl) (by decide) ?_
                refine lv_aload_n hx hb dX9_fare_91 rfl (lv_at hl 0 rfl) ?_
                refine fl_getr X hP fk_X9_7 k2_0 rfl dX9_fare_92 ?_
                refine lv_bipush (v := (10 : Int32)) hx hb dX9_fare_95 (by decide) ?_
                refine fl_iald X hP k2_1 (by decide) dX9_fare_97 ?_
                refine lv_iload_n hx hb dX9_fare_98 rfl (lv_at hl 1 rfl) ?_
                refine lv_ishr hx hb dX9_fare_99 ?_
                refine lv_iconst (v := (1 : Int32)) hx hb dX9_fare_100 (by decide) ?_
                refine lv_iand hx hb dX9_fare_101 ?_
                exact fl_iret X hr hlk hP hS dX9_fare_102 h
              · replace h := fl_if_f h c_5
                by_cases c_6 : x2 = (6 : Int32)
                · replace h := fl_if_t h c_6
                  refine lv_tableIn (off := 92) (tgt := 103) hx hb dX9_fare_11 (by rw [c_6]; decide) (by rw [c_6]; decide) (by rw [c_6]; rfl) (by decide) ?_
                  refine lv_aload_n hx hb dX9_fare_103 rfl (lv_at hl 0 rfl) ?_
                  refine fl_getr X hP fk_X9_7 k2_0 rfl dX9_fare_104 ?_
                  refine lv_bipush (v := (11 : Int32)) hx hb dX9_fare_107 (by decide) ?_
                  refine lv_iload_n hx hb dX9_fare_109 rfl (lv_at hl 1 rfl) ?_
                  refine lv_iadd hx hb dX9_fare_110 ?_
                  obtain ⟨hk10, h⟩ := fl_ck_e h
                  refine fl_iald X hP k2_1 hk10 dX9_fare_111 ?_
                  exact fl_iret X hr hlk hP hS dX9_fare_112 h
                · replace h := fl_if_f h c_6
                  by_cases c_7 : x2 = (7 : Int32)
                  · replace h := fl_if_t h c_7
                    refine lv_tableIn (off := 102) (tgt := 113) hx hb dX9_fare_11 (by rw [c_7]; decide) (by rw [c_7]; decide) (by rw [c_7]; rfl) (by decide) ?_
                    refine lv_aload_n hx hb dX9_fare_113 rfl (lv_at hl 0 rfl) ?_
                    refine fl_getr X hP fk_X9_7 k2_0 rfl dX9_fare_114 ?_
                    refine lv_bipush (v := (18 : Int32)) hx hb dX9_fare_117 (by decide) ?_
                    refine fl_iald X hP k2_1 (by decide) dX9_fare_119 ?_
                    refine lv_iload_n hx hb dX9_fare_120 rfl (lv_at hl 1 rfl) ?_
                    refine lv_ishr hx hb dX9_fare_121 ?_
                    refine lv_iconst (v := (1 : Int32)) hx hb dX9_fare_122 (by decide) ?_
                    refine lv_iand hx hb dX9_fare_123 ?_
                    exact fl_iret X hr hlk hP hS dX9_fare_124 h
                  · replace h := fl_if_f h c_7
                    refine lv_tableOut (tgt := 125) hx hb dX9_fare_11 (by have e0 := lv_neT c_0 (a := 0) (by decide); have e1 := lv_neT c_1 (a := 1) (by decide); have e2 := lv_neT c_2 (a := 2) (by decide); have e3 := lv_neT c_3 (a := 3) (by decide); have e4 := lv_neT c_4 (a := 4) (by decide); have e5 := lv_neT c_5 (a := 5) (by decide); have e6 := lv_neT c_6 (a := 6) (by decide); have e7 := lv_neT c_7 (a := 7) (by decide); omega) (by decide) ?_
                    refine lv_iconst (v := (-1 : Int32)) hx hb dX9_fare_125 (by decide) ?_
                    exact fl_iret X hr hlk hP hS dX9_fare_126 h
  · replace h := fl_if_t h c4
    refine lv_iconst (v := (-1 : Int32)) hx hb dX9_fare_8 (by decide) ?_
    exact fl_iret X hr hlk hP hS dX9_fare_9 h

def f_X9_goesBy (x1 : Int32) (x2 : Int32) (x3 : Int32) (m : Mem) : Option (Int32 × Mem) :=
  fl_ck (0 ≤ ((x1 + (7 : Int32)) + x2).toInt ∧ ((x1 + (7 : Int32)) + x2).toInt < 380) (
    fl_li (m.1 1 (((x1 + (7 : Int32)) + x2).toNatClampNeg)) (fun z2 =>
      if z2 = (-4 : Int32) then (
        some ((0 : Int32), m))
      else (
        fl_ck (0 ≤ x2.toInt ∧ x2.toInt < 3) (
          if (m.1 2 (x2.toNatClampNeg)) = (2 : Int32) then (
            fl_ck (0 ≤ x3.toInt ∧ x3.toInt < 7) (
              fl_bd (f_X9_farOf z2 (m.1 4 (x3.toNatClampNeg)) m) (fun r8 m9 =>
                if (3 : Int32) < r8 then (
                  some ((0 : Int32), m9))
                else (
                  some ((1 : Int32), m9)))))
          else (
            some ((1 : Int32), m))))))
set_option maxHeartbeats 4000000 in
set_option maxRecDepth 100000 in
theorem c_X9_goesBy (l : Launch) (D : va_G) (ca : Nat → ClassId) (ad : Nat → Nat) (hi : fl_inj L2 ad) (x1 : Int32) (x2 : Int32) (x3 : Int32) (m : Mem) (v' : Int32) (M' : Mem) (h : f_X9_goesBy x1 x2 x3 m = some (v', M')) : fl_M l L2 D ca ad yX9_goesBy cX9_goesBy 5 (some .boolean) 2 [.ref (ad 0), .int x1, .int x2, .int x3] m (some (.int v')) M' := by
  unfold f_X9_goesBy at h
  refine fl_ofW (by decide) hi (Nat.le_of_ble_eq_true rfl) ?_
  intro p e s mm args below meth c ls X hr hlk hP hl
  have hl : lv_has ls 5 [(0, .ref (ad 0)), (1, .int x1), (2, .int x2), (3, .int x3)] := hl
  have X : fl_X p s mm args c cX9_goesBy 5 RX9 L2 D ca ad := X
  obtain ⟨hx, hb, hml, hown, hts, hE, -⟩ := id X
  have hS : va_S (fl_A L2 ad) s.heap s.heap [] := va_S.rf
  refine lv_aload_n hx hb dX9_goesBy_0 rfl (lv_at hl 0 rfl) ?_
  refine fl_getr X hP fk_X9_7 k2_0 rfl dX9_goesBy_1 ?_
  refine lv_iload_n hx hb dX9_goesBy_4 rfl (lv_at hl 1 rfl) ?_
  refine lv_bipush (v := (7 : Int32)) hx hb dX9_goesBy_5 (by decide) ?_
  refine lv_iadd hx hb dX9_goesBy_7 ?_
  refine lv_iload_n hx hb dX9_goesBy_8 rfl (lv_at hl 2 rfl) ?_
  refine lv_iadd hx hb dX9_goesBy_9 ?_
  obtain ⟨hk1, h⟩ := fl_ck_e h
  refine fl_iald X hP k2_1 hk1 dX9_goesBy_10 ?_
  obtain ⟨z2, ez3, h⟩ := fl_li_e h
  refine fl_topi ez3 ?_
  refine lv_istore (lv' := [(4, .int z2), (0, .ref (ad 0)), (1, .int x1), (2, .int x2), (3, .int x3)]) hx hb dX9_goesBy_11 hl (by decide) rfl (fun ls hl => ?_)
  refine lv_iload hx hb dX9_goesBy_13 (lv_at hl 0 rfl) ?_
  refine lv_bipush (v := (-4 : Int32)) hx hb dX9_goesBy_15 (by decide) ?_
  refine lv_icmp_eq (tgt := 50) hx hb dX9_goesBy_17 (by decide) (fun c4 => ?_) (fun c4 => ?_)
  · replace h := fl_if_t h c4
    refine lv_iconst (v := (0 : Int32)) hx hb dX9_goesBy_50 (by decide) ?_
    exact fl_zret X hr hlk (by decide) hP hS dX9_goesBy_51 h
  · replace h := fl_if_f h c4
    refine lv_aload_n hx hb dX9_goesBy_20 rfl (lv_at hl 1 rfl) ?_
    refine fl_getr X hP fk_X9_13 k2_0 rfl dX9_goesBy_21 ?_
    refine lv_iload_n hx hb dX9_goesBy_24 rfl (lv_at hl 3 rfl) ?_
    obtain ⟨hk5, h⟩ := fl_ck_e h
    refine fl_iald X hP k2_2 hk5 dX9_goesBy_25 ?_
    refine lv_iconst (v := (2 : Int32)) hx hb dX9_goesBy_26 (by decide) ?_
    refine lv_icmp_ne (tgt := 46) hx hb dX9_goesBy_27 (by decide) (fun c6 => ?_) (fun c6 => ?_)
    · replace h := fl_if_f h c6
      refine lv_iconst (v := (1 : Int32)) hx hb dX9_goesBy_46 (by decide) ?_
      refine lv_goto (tgt := 51) hx hb dX9_goesBy_47 (by decide) ?_
      exact fl_zret X hr hlk (by decide) hP hS dX9_goesBy_51 h
    · replace h := fl_if_t h c6
      refine lv_aload_n hx hb dX9_goesBy_30 rfl (lv_at hl 1 rfl) ?_
      refine lv_iload hx hb dX9_goesBy_31 (lv_at hl 0 rfl) ?_
      refine lv_aload_n hx hb dX9_goesBy_33 rfl (lv_at hl 1 rfl) ?_
      refine fl_getr X hP fk_X9_19 k2_0 rfl dX9_goesBy_34 ?_
      refine lv_iload_n hx hb dX9_goesBy_37 rfl (lv_at hl 4 rfl) ?_
      obtain ⟨hk7, h⟩ := fl_ck_e h
      refine fl_iald X hP k2_4 hk7 dX9_goesBy_38 ?_
      obtain ⟨r8, m9, hz10, h⟩ := fl_bd_e h
      refine fl_callV (av := [.int z2, .int (m.1 4 (x3.toNatClampNeg))]) X hP hS hl.1 mv_X9_162 (c_X9_farOf l D ca ad hi z2 (m.1 4 (x3.toNatClampNeg)) m _ _ hz10) k2_0 (fl_fit_rm (by omega) (by decide)) rfl (Nat.le_of_ble_eq_true rfl) dX9_goesBy_39 rfl (fun H locs hP hS => ?_)
      refine W.eq (g2 := F0 mm 42 ls [.int r8]) rfl ?_
      refine lv_iconst (v := (3 : Int32)) hx hb dX9_goesBy_42 (by decide) ?_
      refine lv_icmp_gt (tgt := 50) hx hb dX9_goesBy_43 (by decide) (fun c11 => ?_) (fun c11 => ?_)
      · replace h := fl_if_t h c11
        refine lv_iconst (v := (0 : Int32)) hx hb dX9_goesBy_50 (by decide) ?_
        exact fl_zret X hr hlk (by decide) hP hS dX9_goesBy_51 h
      · replace h := fl_if_f h c11
        refine lv_iconst (v := (1 : Int32)) hx hb dX9_goesBy_46 (by decide) ?_
        refine lv_goto (tgt := 51) hx hb dX9_goesBy_47 (by decide) ?_
        exact fl_zret X hr hlk (by decide) hP hS dX9_goesBy_51 h

def f_X9_setsOut (x1 : Int32) (x2 : Int32) (m : Mem) : Option (Int32 × Mem) :=
  fl_ck (0 ≤ (x1 + (0 : Int32)).toInt ∧ (x1 + (0 : Int32)).toInt < 380) (
    fl_ck (0 ≤ ((x1 + (4 : Int32)) + x2).toInt ∧ ((x1 + (4 : Int32)) + x2).toInt < 380) (
      if (m.1 1 ((x1 + (0 : Int32)).toNatClampNeg)) ≤ (m.1 1 (((x1 + (4 : Int32)) + x2).toNatClampNeg)) then (
        fl_ck (0 ≤ ((x1 + (4 : Int32)) + x2).toInt ∧ ((x1 + (4 : Int32)) + x2).toInt < 380) (
          some (m.1 1 (((x1 + (4 : Int32)) + x2).toNatClampNeg), m)))
      else (
        fl_ck (0 ≤ (x1 + (0 : Int32)).toInt ∧ (x1 + (0 : Int32)).toInt < 380) (
          some (m.1 1 ((x1 + (0 : Int32)).toNatClampNeg), m)))))
set_option maxHeartbeats 4000000 in
set_option maxRecDepth 100000 in
theorem c_X9_setsOut (l : Launch) (D : va_G) (ca : Nat → ClassId) (ad : Nat → Nat) (hi : fl_inj L2 ad) (x1 : Int32) (x2 : Int32) (m : Mem) (v' : Int32) (M' : Mem) (h : f_X9_setsOut x1 x2 m = some (v', M')) : fl_M l L2 D ca ad yX9_setsOut cX9_setsOut 3 (some .int) 1 [.ref (ad 0), .int x1, .int x2] m (some (.int v')) M' := by
  unfold f_X9_setsOut at h
  refine fl_ofW (by decide) hi (Nat.le_of_ble_eq_true rfl) ?_
  intro p e s mm args below meth c ls X hr hlk hP hl
  have hl : lv_has ls 3 [(0, .ref (ad 0)), (1, .int x1), (2, .int x2)] := hl
  have X : fl_X p s mm args c cX9_setsOut 3 RX9 L2 D ca ad := X
  obtain ⟨hx, hb, hml, hown, hts, hE, -⟩ := id X
  have hS : va_S (fl_A L2 ad) s.heap s.heap [] := va_S.rf
  refine lv_aload_n hx hb dX9_setsOut_0 rfl (lv_at hl 0 rfl) ?_
  refine fl_getr X hP fk_X9_7 k2_0 rfl dX9_setsOut_1 ?_
  refine lv_iload_n hx hb dX9_setsOut_4 rfl (lv_at hl 1 rfl) ?_
  refine lv_iconst (v := (0 : Int32)) hx hb dX9_setsOut_5 (by decide) ?_
  refine lv_iadd hx hb dX9_setsOut_6 ?_
  obtain ⟨hk1, h⟩ := fl_ck_e h
  refine fl_iald X hP k2_1 hk1 dX9_setsOut_7 ?_
  refine lv_aload_n hx hb dX9_setsOut_8 rfl (lv_at hl 0 rfl) ?_
  refine fl_getr X hP fk_X9_7 k2_0 rfl dX9_setsOut_9 ?_
  refine lv_iload_n hx hb dX9_setsOut_12 rfl (lv_at hl 1 rfl) ?_
  refine lv_iconst (v := (4 : Int32)) hx hb dX9_setsOut_13 (by decide) ?_
  refine lv_iadd hx hb dX9_setsOut_14 ?_
  refine lv_iload_n hx hb dX9_setsOut_15 rfl (lv_at hl 2 rfl) ?_
  refine lv_iadd hx hb dX9_setsOut_16 ?_
  obtain ⟨hk2, h⟩ := fl_ck_e h
  refine fl_iald X hP k2_1 hk2 dX9_setsOut_17 ?_
  refine lv_icmp_le (tgt := 32) hx hb dX9_setsOut_18 (by decide) (fun c3 => ?_) (fun c3 => ?_)
  · replace h := fl_if_t h c3
    refine lv_aload_n hx hb dX9_setsOut_32 rfl (lv_at hl 0 rfl) ?_
    refine fl_getr X hP fk_X9_7 k2_0 rfl dX9_setsOut_33 ?_
    refine lv_iload_n hx hb dX9_setsOut_36 rfl (lv_at hl 1 rfl) ?_
    refine lv_iconst (v := (4 : Int32)) hx hb dX9_setsOut_37 (by decide) ?_
    refine lv_iadd hx hb dX9_setsOut_38 ?_
    refine lv_iload_n hx hb dX9_setsOut_39 rfl (lv_at hl 2 rfl) ?_
    refine lv_iadd hx hb dX9_setsOut_40 ?_
    obtain ⟨hk4, h⟩ := fl_ck_e h
    refine fl_iald X hP k2_1 hk4 dX9_setsOut_41 ?_
    exact fl_iret X hr hlk hP hS dX9_setsOut_42 h
  · replace h := fl_if_f h c3
    refine lv_aload_n hx hb dX9_setsOut_21 rfl (lv_at hl 0 rfl) ?_
    refine fl_getr X hP fk_X9_7 k2_0 rfl dX9_setsOut_22 ?_
    refine lv_iload_n hx hb dX9_setsOut_25 rfl (lv_at hl 1 rfl) ?_
    refine lv_iconst (v := (0 : Int32)) hx hb dX9_setsOut_26 (by decide) ?_
    refine lv_iadd hx hb dX9_setsOut_27 ?_
    obtain ⟨hk5, h⟩ := fl_ck_e h
    refine fl_iald X hP k2_1 hk5 dX9_setsOut_28 ?_
    refine lv_goto (tgt := 42) hx hb dX9_setsOut_29 (by decide) ?_
    exact fl_iret X hr hlk hP hS dX9_setsOut_42 h

def J_X9_freeBy_115 (x1 : Int32) (x2 : Int32) (x3 : Int32) (x4 : Int32) (t0 : Int32) (m : Mem) : Option (Int32 × Mem) :=
  fl_ck (0 ≤ ((x1 + (1 : Int32)) + x2).toInt ∧ ((x1 + (1 : Int32)) + x2).toInt < 380) (
    fl_ck (0 ≤ x3.toInt ∧ x3.toInt < 7) (
      fl_bd (f_X9_farOf (m.1 1 (((x1 + (1 : Int32)) + x2).toNatClampNeg)) (m.1 4 (x3.toNatClampNeg)) m) (fun r30 m31 =>
        some ((x4 + r30) + t0, m31))))
def J_X9_freeBy_82 (x1 : Int32) (x2 : Int32) (x3 : Int32) (x4 : Int32) (x5 : Int32) (t0 : Int32) (t1 : Int32) (m : Mem) : Option (Int32 × Mem) :=
  fl_ck (0 ≤ x3.toInt ∧ x3.toInt < 7) (
    fl_bd (f_X9_farOf x5 (m.1 5 (x3.toNatClampNeg)) m) (fun r34 m35 =>
      J_X9_freeBy_115 x1 x2 x3 x4 ((t0 + t1) + r34) m35))
def J_X9_freeBy_30 (x1 : Int32) (x2 : Int32) (x3 : Int32) (t0 : Int32) (m : Mem) : Option (Int32 × Mem) :=
  fl_ck (0 ≤ ((x1 + (7 : Int32)) + x2).toInt ∧ ((x1 + (7 : Int32)) + x2).toInt < 380) (
    fl_li (m.1 1 (((x1 + (7 : Int32)) + x2).toNatClampNeg)) (fun z11 =>
      fl_bd (f_X9_goesBy x1 x2 x3 m) (fun r13 m14 =>
        if r13 = 0 then (
          fl_ck (0 ≤ x3.toInt ∧ x3.toInt < 7) (
            fl_ck (0 ≤ x3.toInt ∧ x3.toInt < 7) (
              fl_bd (f_X9_farOf (m14.1 4 (x3.toNatClampNeg)) (m14.1 5 (x3.toNatClampNeg)) m14) (fun r19 m20 =>
                J_X9_freeBy_115 x1 x2 x3 t0 r19 m20))))
        else (
          fl_ck (0 ≤ x3.toInt ∧ x3.toInt < 7) (
            fl_bd (f_X9_farOf (m14.1 4 (x3.toNatClampNeg)) z11 m14) (fun r23 m24 =>
              fl_ck (0 ≤ x2.toInt ∧ x2.toInt < 3) (
                if (m24.1 2 (x2.toNatClampNeg)) = (1 : Int32) then (
                  J_X9_freeBy_82 x1 x2 x3 t0 z11 r23 (3 : Int32) m24)
                else (
                  J_X9_freeBy_82 x1 x2 x3 t0 z11 r23 (1 : Int32) m24))))))))
def f_X9_freeBy (x1 : Int32) (x2 : Int32) (x3 : Int32) (m : Mem) : Option (Int32 × Mem) :=
  fl_bd (f_X9_setsOut x1 x2 m) (fun r1 m2 =>
    fl_ck (0 ≤ x3.toInt ∧ x3.toInt < 7) (
      if r1 ≤ (m2.1 6 (x3.toNatClampNeg)) then (
        fl_ck (0 ≤ x3.toInt ∧ x3.toInt < 7) (
          J_X9_freeBy_30 x1 x2 x3 (m2.1 6 (x3.toNatClampNeg)) m2))
      else (
        fl_bd (f_X9_setsOut x1 x2 m2) (fun r7 m8 =>
          J_X9_freeBy_30 x1 x2 x3 r7 m8))))
set_option maxHeartbeats 4000000 in
set_option maxRecDepth 100000 in
theorem c_X9_freeBy (l : Launch) (D : va_G) (ca : Nat → ClassId) (ad : Nat → Nat) (hi : fl_inj L2 ad) (x1 : Int32) (x2 : Int32) (x3 : Int32) (m : Mem) (v' : Int32) (M' : Mem) (h : f_X9_freeBy x1 x2 x3 m = some (v', M')) : fl_M l L2 D ca ad yX9_freeBy cX9_freeBy 7 (some .int) 3 [.ref (ad 0), .int x1, .int x2, .int x3] m (some (.int v')) M' := by
  unfold f_X9_freeBy at h
  refine fl_ofW (by decide) hi (Nat.le_of_ble_eq_true rfl) ?_
  intro p e s mm args below meth c ls X hr hlk hP hl
  have hl : lv_has ls 7 [(0, .ref (ad 0)), (1, .int x1), (2, .int x2), (3, .int x3)] := hl
  have X : fl_X p s mm args c cX9_freeBy 7 RX9 L2 D ca ad := X
  obtain ⟨hx, hb, hml, hown, hts, hE, -⟩ := id X
  have hS : va_S (fl_A L2 ad) s.heap s.heap [] := va_S.rf
  have j_115 : ∀ (x1 : Int32) (x2 : Int32) (x3 : Int32) (x4 : Int32) (t0 : Int32) (m : Mem) (H : Heap) (locs : List Loc) (ls : Array Slot), J_X9_freeBy_115 x1 x2 x3 x4 t0 m = some (v', M') → va_P D vwCl (fl_w L2 ca ad m) H → va_S (fl_A L2 ad) s.heap H locs → lv_has ls 7 [(0, .ref (ad 0)), (1, .int x1), (2, .int x2), (3, .int x3), (4, .int x4)] → W p l e (fl_rm 3) s mm args below meth c H locs 0 0 (MQ below (fl_Q L2 D ca ad (some (.int v')) M') args s 0 0 (fl_A L2 ad)) (F0 mm 115 ls [.int t0]) := by
    intro x1 x2 x3 x4 t0 m H locs ls h hP hS hl
    unfold J_X9_freeBy_115 at h
    refine lv_istore (lv' := [(6, .int t0), (0, .ref (ad 0)), (1, .int x1), (2, .int x2), (3, .int x3), (4, .int x4)]) hx hb dX9_freeBy_115 hl (by decide) rfl (fun ls hl => ?_)
    refine lv_iload hx hb dX9_freeBy_117 (lv_at hl 5 rfl) ?_
    refine lv_aload_n hx hb dX9_freeBy_119 rfl (lv_at hl 1 rfl) ?_
    refine lv_aload_n hx hb dX9_freeBy_120 rfl (lv_at hl 1 rfl) ?_
    refine fl_getr X hP fk_X9_7 k2_0 rfl dX9_freeBy_121 ?_
    refine lv_iload_n hx hb dX9_freeBy_124 rfl (lv_at hl 2 rfl) ?_
    refine lv_iconst (v := (1 : Int32)) hx hb dX9_freeBy_125 (by decide) ?_
    refine lv_iadd hx hb dX9_freeBy_126 ?_
    refine lv_iload_n hx hb dX9_freeBy_127 rfl (lv_at hl 3 rfl) ?_
    refine lv_iadd hx hb dX9_freeBy_128 ?_
    obtain ⟨hk28, h⟩ := fl_ck_e h
    refine fl_iald X hP k2_1 hk28 dX9_freeBy_129 ?_
    refine lv_aload_n hx hb dX9_freeBy_130 rfl (lv_at hl 1 rfl) ?_
    refine fl_getr X hP fk_X9_19 k2_0 rfl dX9_freeBy_131 ?_
    refine lv_iload_n hx hb dX9_freeBy_134 rfl (lv_at hl 4 rfl) ?_
    obtain ⟨hk29, h⟩ := fl_ck_e h
    refine fl_iald X hP k2_4 hk29 dX9_freeBy_135 ?_
    obtain ⟨r30, m31, hz32, h⟩ := fl_bd_e h
    refine fl_callV (av := [.int (m.1 1 (((x1 + (1 : Int32)) + x2).toNatClampNeg)), .int (m.1 4 (x3.toNatClampNeg))]) X hP hS hl.1 mv_X9_162 (c_X9_farOf l D ca ad hi (m.1 1 (((x1 + (1 : Int32)) + x2).toNatClampNeg)) (m.1 4 (x3.toNatClampNeg)) m _ _ hz32) k2_0 (fl_fit_rm (by omega) (by decide)) rfl (Nat.le_of_ble_eq_true rfl) dX9_freeBy_136 rfl (fun H locs hP hS => ?_)
    refine W.eq (g2 := F0 mm 139 ls [.int r30, .int x4]) rfl ?_
    refine lv_iadd hx hb dX9_freeBy_139 ?_
    refine lv_iload hx hb dX9_freeBy_140 (lv_at hl 0 rfl) ?_
    refine lv_iadd hx hb dX9_freeBy_142 ?_
    exact fl_iret X hr hlk hP hS dX9_freeBy_143 h
  have j_82 : ∀ (x1 : Int32) (x2 : Int32) (x3 : Int32) (x4 : Int32) (x5 : Int32) (t0 : Int32) (t1 : Int32) (m : Mem) (H : Heap) (locs : List Loc) (ls : Array Slot), J_X9_freeBy_82 x1 x2 x3 x4 x5 t0 t1 m = some (v', M') → va_P D vwCl (fl_w L2 ca ad m) H → va_S (fl_A L2 ad) s.heap H locs → lv_has ls 7 [(0, .ref (ad 0)), (1, .int x1), (2, .int x2), (3, .int x3), (4, .int x4), (5, .int x5)] → W p l e (fl_rm 3) s mm args below meth c H locs 0 0 (MQ below (fl_Q L2 D ca ad (some (.int v')) M') args s 0 0 (fl_A L2 ad)) (F0 mm 82 ls [.int t1, .int t0]) := by
    intro x1 x2 x3 x4 x5 t0 t1 m H locs ls h hP hS hl
    unfold J_X9_freeBy_82 at h
    refine lv_iadd hx hb dX9_freeBy_82 ?_
    refine lv_aload_n hx hb dX9_freeBy_83 rfl (lv_at hl 0 rfl) ?_
    refine lv_iload hx hb dX9_freeBy_84 (lv_at hl 5 rfl) ?_
    refine lv_aload_n hx hb dX9_freeBy_86 rfl (lv_at hl 0 rfl) ?_
    refine fl_getr X hP fk_X9_22 k2_0 rfl dX9_freeBy_87 ?_
    refine lv_iload_n hx hb dX9_freeBy_90 rfl (lv_at hl 3 rfl) ?_
    obtain ⟨hk33, h⟩ := fl_ck_e h
    refine fl_iald X hP k2_5 hk33 dX9_freeBy_91 ?_
    obtain ⟨r34, m35, hz36, h⟩ := fl_bd_e h
    refine fl_callV (av := [.int x5, .int (m.1 5 (x3.toNatClampNeg))]) X hP hS hl.1 mv_X9_162 (c_X9_farOf l D ca ad hi x5 (m.1 5 (x3.toNatClampNeg)) m _ _ hz36) k2_0 (fl_fit_rm (by omega) (by decide)) rfl (Nat.le_of_ble_eq_true rfl) dX9_freeBy_92 rfl (fun H locs hP hS => ?_)
    refine W.eq (g2 := F0 mm 95 ls [.int r34, .int (t0 + t1)]) rfl ?_
    refine lv_iadd hx hb dX9_freeBy_95 ?_
    refine lv_goto (tgt := 115) hx hb dX9_freeBy_96 (by decide) ?_
    exact j_115 _ _ _ _ _ _ _ _ _ h hP hS (lv_sub hl [0, 1, 2, 3, 4] rfl)
  have j_30 : ∀ (x1 : Int32) (x2 : Int32) (x3 : Int32) (t0 : Int32) (m : Mem) (H : Heap) (locs : List Loc) (ls : Array Slot), J_X9_freeBy_30 x1 x2 x3 t0 m = some (v', M') → va_P D vwCl (fl_w L2 ca ad m) H → va_S (fl_A L2 ad) s.heap H locs → lv_has ls 7 [(0, .ref (ad 0)), (1, .int x1), (2, .int x2), (3, .int x3)] → W p l e (fl_rm 3) s mm args below meth c H locs 0 0 (MQ below (fl_Q L2 D ca ad (some (.int v')) M') args s 0 0 (fl_A L2 ad)) (F0 mm 30 ls [.int t0]) := by
    intro x1 x2 x3 t0 m H locs ls h hP hS hl
    unfold J_X9_freeBy_30 at h
    refine lv_istore (lv' := [(4, .int t0), (0, .ref (ad 0)), (1, .int x1), (2, .int x2), (3, .int x3)]) hx hb dX9_freeBy_30 hl (by decide) rfl (fun ls hl => ?_)
    refine lv_aload_n hx hb dX9_freeBy_32 rfl (lv_at hl 1 rfl) ?_
    refine fl_getr X hP fk_X9_7 k2_0 rfl dX9_freeBy_33 ?_
    refine lv_iload_n hx hb dX9_freeBy_36 rfl (lv_at hl 2 rfl) ?_
    refine lv_bipush (v := (7 : Int32)) hx hb dX9_freeBy_37 (by decide) ?_
    refine lv_iadd hx hb dX9_freeBy_39 ?_
    refine lv_iload_n hx hb dX9_freeBy_40 rfl (lv_at hl 3 rfl) ?_
    refine lv_iadd hx hb dX9_freeBy_41 ?_
    obtain ⟨hk10, h⟩ := fl_ck_e h
    refine fl_iald X hP k2_1 hk10 dX9_freeBy_42 ?_
    obtain ⟨z11, ez12, h⟩ := fl_li_e h
    refine fl_topi ez12 ?_
    refine lv_istore (lv' := [(5, .int z11), (4, .int t0), (0, .ref (ad 0)), (1, .int x1), (2, .int x2), (3, .int x3)]) hx hb dX9_freeBy_43 hl (by decide) rfl (fun ls hl => ?_)
    refine lv_aload_n hx hb dX9_freeBy_45 rfl (lv_at hl 2 rfl) ?_
    refine lv_iload_n hx hb dX9_freeBy_46 rfl (lv_at hl 3 rfl) ?_
    refine lv_iload_n hx hb dX9_freeBy_47 rfl (lv_at hl 4 rfl) ?_
    refine lv_iload_n hx hb dX9_freeBy_48 rfl (lv_at hl 5 rfl) ?_
    obtain ⟨r13, m14, hz15, h⟩ := fl_bd_e h
    refine fl_callV (av := [.int x1, .int x2, .int x3]) X hP hS hl.1 mv_X9_175 (c_X9_goesBy l D ca ad hi x1 x2 x3 m _ _ hz15) k2_0 (fl_fit_rm (by omega) (by decide)) rfl (Nat.le_of_ble_eq_true rfl) dX9_freeBy_49 rfl (fun H locs hP hS => ?_)
    refine W.eq (g2 := F0 mm 52 ls [.int r13]) rfl ?_
    refine lv_if_eq (tgt := 99) hx hb dX9_freeBy_52 (by decide) (fun c16 => ?_) (fun c16 => ?_)
    · replace h := fl_if_t h c16
      refine lv_aload_n hx hb dX9_freeBy_99 rfl (lv_at hl 2 rfl) ?_
      refine lv_aload_n hx hb dX9_freeBy_100 rfl (lv_at hl 2 rfl) ?_
      refine fl_getr X hP fk_X9_19 k2_0 rfl dX9_freeBy_101 ?_
      refine lv_iload_n hx hb dX9_freeBy_104 rfl (lv_at hl 5 rfl) ?_
      obtain ⟨hk17, h⟩ := fl_ck_e h
      refine fl_iald X hP k2_4 hk17 dX9_freeBy_105 ?_
      refine lv_aload_n hx hb dX9_freeBy_106 rfl (lv_at hl 2 rfl) ?_
      refine fl_getr X hP fk_X9_22 k2_0 rfl dX9_freeBy_107 ?_
      refine lv_iload_n hx hb dX9_freeBy_110 rfl (lv_at hl 5 rfl) ?_
      obtain ⟨hk18, h⟩ := fl_ck_e h
      refine fl_iald X hP k2_5 hk18 dX9_freeBy_111 ?_
      obtain ⟨r19, m20, hz21, h⟩ := fl_bd_e h
      refine fl_callV (av := [.int (m14.1 4 (x3.toNatClampNeg)), .int (m14.1 5 (x3.toNatClampNeg))]) X hP hS hl.1 mv_X9_162 (c_X9_farOf l D ca ad hi (m14.1 4 (x3.toNatClampNeg)) (m14.1 5 (x3.toNatClampNeg)) m14 _ _ hz21) k2_0 (fl_fit_rm (by omega) (by decide)) rfl (Nat.le_of_ble_eq_true rfl) dX9_freeBy_112 rfl (fun H locs hP hS => ?_)
      refine W.eq (g2 := F0 mm 115 ls [.int r19]) rfl ?_
      exact j_115 _ _ _ _ _ _ _ _ _ h hP hS (lv_sub hl [2, 3, 4, 5, 1] rfl)
    · replace h := fl_if_f h c16
      refine lv_aload_n hx hb dX9_freeBy_55 rfl (lv_at hl 2 rfl) ?_
      refine lv_aload_n hx hb dX9_freeBy_56 rfl (lv_at hl 2 rfl) ?_
      refine fl_getr X hP fk_X9_19 k2_0 rfl dX9_freeBy_57 ?_
      refine lv_iload_n hx hb dX9_freeBy_60 rfl (lv_at hl 5 rfl) ?_
      obtain ⟨hk22, h⟩ := fl_ck_e h
      refine fl_iald X hP k2_4 hk22 dX9_freeBy_61 ?_
      refine lv_iload hx hb dX9_freeBy_62 (lv_at hl 0 rfl) ?_
      obtain ⟨r23, m24, hz25, h⟩ := fl_bd_e h
      refine fl_callV (av := [.int (m14.1 4 (x3.toNatClampNeg)), .int z11]) X hP hS hl.1 mv_X9_162 (c_X9_farOf l D ca ad hi (m14.1 4 (x3.toNatClampNeg)) z11 m14 _ _ hz25) k2_0 (fl_fit_rm (by omega) (by decide)) rfl (Nat.le_of_ble_eq_true rfl) dX9_freeBy_64 rfl (fun H locs hP hS => ?_)
      refine W.eq (g2 := F0 mm 67 ls [.int r23]) rfl ?_
      refine lv_aload_n hx hb dX9_freeBy_67 rfl (lv_at hl 2 rfl) ?_
      refine fl_getr X hP fk_X9_13 k2_0 rfl dX9_freeBy_68 ?_
      refine lv_iload_n hx hb dX9_freeBy_71 rfl (lv_at hl 4 rfl) ?_
      obtain ⟨hk26, h⟩ := fl_ck_e h
      refine fl_iald X hP k2_2 hk26 dX9_freeBy_72 ?_
      refine lv_iconst (v := (1 : Int32)) hx hb dX9_freeBy_73 (by decide) ?_
      refine lv_icmp_ne (tgt := 81) hx hb dX9_freeBy_74 (by decide) (fun c27 => ?_) (fun c27 => ?_)
      · replace h := fl_if_f h c27
        refine lv_iconst (v := (1 : Int32)) hx hb dX9_freeBy_81 (by decide) ?_
        exact j_82 _ _ _ _ _ _ _ _ _ _ _ h hP hS (lv_sub hl [2, 3, 4, 5, 1, 0] rfl)
      · replace h := fl_if_t h c27
        refine lv_iconst (v := (3 : Int32)) hx hb dX9_freeBy_77 (by decide) ?_
        refine lv_goto (tgt := 82) hx hb dX9_freeBy_78 (by decide) ?_
        exact j_82 _ _ _ _ _ _ _ _ _ _ _ h hP hS (lv_sub hl [2, 3, 4, 5, 1, 0] rfl)
  refine lv_aload_n hx hb dX9_freeBy_0 rfl (lv_at hl 0 rfl) ?_
  refine lv_iload_n hx hb dX9_freeBy_1 rfl (lv_at hl 1 rfl) ?_
  refine lv_iload_n hx hb dX9_freeBy_2 rfl (lv_at hl 2 rfl) ?_
  obtain ⟨r1, m2, hz3, h⟩ := fl_bd_e h
  refine fl_callV (av := [.int x1, .int x2]) X hP hS hl.1 mv_X9_172 (c_X9_setsOut l D ca ad hi x1 x2 m _ _ hz3) k2_0 (fl_fit_rm (by omega) (by decide)) rfl (Nat.le_of_ble_eq_true rfl) dX9_freeBy_3 rfl (fun H locs hP hS => ?_)
  refine W.eq (g2 := F0 mm 6 ls [.int r1]) rfl ?_
  refine lv_aload_n hx hb dX9_freeBy_6 rfl (lv_at hl 0 rfl) ?_
  refine fl_getr X hP fk_X9_25 k2_0 rfl dX9_freeBy_7 ?_
  refine lv_iload_n hx hb dX9_freeBy_10 rfl (lv_at hl 3 rfl) ?_
  obtain ⟨hk4, h⟩ := fl_ck_e h
  refine fl_iald X hP k2_6 hk4 dX9_freeBy_11 ?_
  refine lv_icmp_le (tgt := 24) hx hb dX9_freeBy_12 (by decide) (fun c5 => ?_) (fun c5 => ?_)
  · replace h := fl_if_t h c5
    refine lv_aload_n hx hb dX9_freeBy_24 rfl (lv_at hl 0 rfl) ?_
    refine fl_getr X hP fk_X9_25 k2_0 rfl dX9_freeBy_25 ?_
    refine lv_iload_n hx hb dX9_freeBy_28 rfl (lv_at hl 3 rfl) ?_
    obtain ⟨hk6, h⟩ := fl_ck_e h
    refine fl_iald X hP k2_6 hk6 dX9_freeBy_29 ?_
    exact j_30 _ _ _ _ _ _ _ _ h hP hS (lv_sub hl [0, 1, 2, 3] rfl)
  · replace h := fl_if_f h c5
    refine lv_aload_n hx hb dX9_freeBy_15 rfl (lv_at hl 0 rfl) ?_
    refine lv_iload_n hx hb dX9_freeBy_16 rfl (lv_at hl 1 rfl) ?_
    refine lv_iload_n hx hb dX9_freeBy_17 rfl (lv_at hl 2 rfl) ?_
    obtain ⟨r7, m8, hz9, h⟩ := fl_bd_e h
    refine fl_callV (av := [.int x1, .int x2]) X hP hS hl.1 mv_X9_172 (c_X9_setsOut l D ca ad hi x1 x2 m2 _ _ hz9) k2_0 (fl_fit_rm (by omega) (by decide)) rfl (Nat.le_of_ble_eq_true rfl) dX9_freeBy_18 rfl (fun H locs hP hS => ?_)
    refine W.eq (g2 := F0 mm 21 ls [.int r7]) rfl ?_
    refine lv_goto (tgt := 30) hx hb dX9_freeBy_21 (by decide) ?_
    exact j_30 _ _ _ _ _ _ _ _ h hP hS (lv_sub hl [0, 1, 2, 3] rfl)

def f_X9_lateBy (x1 : Int32) (x2 : Int32) (x3 : Int32) (m : Mem) : Option (Int32 × Mem) :=
  fl_bd (f_X9_freeBy x1 x2 x3 m) (fun r1 m2 =>
    fl_ck (0 ≤ x3.toInt ∧ x3.toInt < 7) (
      some (r1 - (m2.1 6 (x3.toNatClampNeg)), m2)))
set_option maxHeartbeats 4000000 in
set_option maxRecDepth 100000 in
theorem c_X9_lateBy (l : Launch) (D : va_G) (ca : Nat → ClassId) (ad : Nat → Nat) (hi : fl_inj L2 ad) (x1 : Int32) (x2 : Int32) (x3 : Int32) (m : Mem) (v' : Int32) (M' : Mem) (h : f_X9_lateBy x1 x2 x3 m = some (v', M')) : fl_M l L2 D ca ad yX9_lateBy cX9_lateBy 4 (some .int) 4 [.ref (ad 0), .int x1, .int x2, .int x3] m (some (.int v')) M' := by
  unfold f_X9_lateBy at h
  refine fl_ofW (by decide) hi (Nat.le_of_ble_eq_true rfl) ?_
  intro p e s mm args below meth c ls X hr hlk hP hl
  have hl : lv_has ls 4 [(0, .ref (ad 0)), (1, .int x1), (2, .int x2), (3, .int x3)] := hl
  have X : fl_X p s mm args c cX9_lateBy 4 RX9 L2 D ca ad := X
  obtain ⟨hx, hb, hml, hown, hts, hE, -⟩ := id X
  have hS : va_S (fl_A L2 ad) s.heap s.heap [] := va_S.rf
  refine lv_aload_n hx hb dX9_lateBy_0 rfl (lv_at hl 0 rfl) ?_
  refine lv_iload_n hx hb dX9_lateBy_1 rfl (lv_at hl 1 rfl) ?_
  refine lv_iload_n hx hb dX9_lateBy_2 rfl (lv_at hl 2 rfl) ?_
  refine lv_iload_n hx hb dX9_lateBy_3 rfl (lv_at hl 3 rfl) ?_
  obtain ⟨r1, m2, hz3, h⟩ := fl_bd_e h
  refine fl_callV (av := [.int x1, .int x2, .int x3]) X hP hS hl.1 mv_X9_178 (c_X9_freeBy l D ca ad hi x1 x2 x3 m _ _ hz3) k2_0 (fl_fit_rm (by omega) (by decide)) rfl (Nat.le_of_ble_eq_true rfl) dX9_lateBy_4 rfl (fun H locs hP hS => ?_)
  refine W.eq (g2 := F0 mm 7 ls [.int r1]) rfl ?_
  refine lv_aload_n hx hb dX9_lateBy_7 rfl (lv_at hl 0 rfl) ?_
  refine fl_getr X hP fk_X9_25 k2_0 rfl dX9_lateBy_8 ?_
  refine lv_iload_n hx hb dX9_lateBy_11 rfl (lv_at hl 3 rfl) ?_
  obtain ⟨hk4, h⟩ := fl_ck_e h
  refine fl_iald X hP k2_6 hk4 dX9_lateBy_12 ?_
  refine lv_isub hx hb dX9_lateBy_13 ?_
  exact fl_iret X hr hlk hP hS dX9_lateBy_14 h

def f_X9_weeps (x1 : Int32) (x2 : Int32) (m : Mem) : Option (Int32 × Mem) :=
  fl_ck (0 ≤ x1.toInt ∧ x1.toInt < 7) (
    if (m.1 3 (x1.toNatClampNeg)) = (1 : Int32) then (
      some ((1 : Int32), m))
    else (
      fl_ck (0 ≤ x1.toInt ∧ x1.toInt < 7) (
        if (m.1 3 (x1.toNatClampNeg)) = 0 then (
          fl_ck (0 ≤ x1.toInt ∧ x1.toInt < 7) (
            if x2 ≤ (m.1 7 (x1.toNatClampNeg)) then (
              some ((0 : Int32), m))
            else (
              some ((1 : Int32), m))))
        else (
          some ((0 : Int32), m)))))
set_option maxHeartbeats 4000000 in
set_option maxRecDepth 100000 in
theorem c_X9_weeps (l : Launch) (D : va_G) (ca : Nat → ClassId) (ad : Nat → Nat) (hi : fl_inj L2 ad) (x1 : Int32) (x2 : Int32) (m : Mem) (v' : Int32) (M' : Mem) (h : f_X9_weeps x1 x2 m = some (v', M')) : fl_M l L2 D ca ad yX9_weeps cX9_weeps 3 (some .boolean) 1 [.ref (ad 0), .int x1, .int x2] m (some (.int v')) M' := by
  unfold f_X9_weeps at h
  refine fl_ofW (by decide) hi (Nat.le_of_ble_eq_true rfl) ?_
  intro p e s mm args below meth c ls X hr hlk hP hl
  have hl : lv_has ls 3 [(0, .ref (ad 0)), (1, .int x1), (2, .int x2)] := hl
  have X : fl_X p s mm args c cX9_weeps 3 RX9 L2 D ca ad := X
  obtain ⟨hx, hb, hml, hown, hts, hE, -⟩ := id X
  have hS : va_S (fl_A L2 ad) s.heap s.heap [] := va_S.rf
  refine lv_aload_n hx hb dX9_weeps_0 rfl (lv_at hl 0 rfl) ?_
  refine fl_getr X hP fk_X9_16 k2_0 rfl dX9_weeps_1 ?_
  refine lv_iload_n hx hb dX9_weeps_4 rfl (lv_at hl 1 rfl) ?_
  obtain ⟨hk1, h⟩ := fl_ck_e h
  refine fl_iald X hP k2_3 hk1 dX9_weeps_5 ?_
  refine lv_iconst (v := (1 : Int32)) hx hb dX9_weeps_6 (by decide) ?_
  refine lv_icmp_eq (tgt := 29) hx hb dX9_weeps_7 (by decide) (fun c2 => ?_) (fun c2 => ?_)
  · replace h := fl_if_t h c2
    refine lv_iconst (v := (1 : Int32)) hx hb dX9_weeps_29 (by decide) ?_
    refine lv_goto (tgt := 34) hx hb dX9_weeps_30 (by decide) ?_
    exact fl_zret X hr hlk (by decide) hP hS dX9_weeps_34 h
  · replace h := fl_if_f h c2
    refine lv_aload_n hx hb dX9_weeps_10 rfl (lv_at hl 0 rfl) ?_
    refine fl_getr X hP fk_X9_16 k2_0 rfl dX9_weeps_11 ?_
    refine lv_iload_n hx hb dX9_weeps_14 rfl (lv_at hl 1 rfl) ?_
    obtain ⟨hk3, h⟩ := fl_ck_e h
    refine fl_iald X hP k2_3 hk3 dX9_weeps_15 ?_
    refine lv_if_ne (tgt := 33) hx hb dX9_weeps_16 (by decide) (fun c4 => ?_) (fun c4 => ?_)
    · replace h := fl_if_f h c4
      refine lv_iconst (v := (0 : Int32)) hx hb dX9_weeps_33 (by decide) ?_
      exact fl_zret X hr hlk (by decide) hP hS dX9_weeps_34 h
    · replace h := fl_if_t h c4
      refine lv_iload_n hx hb dX9_weeps_19 rfl (lv_at hl 2 rfl) ?_
      refine lv_aload_n hx hb dX9_weeps_20 rfl (lv_at hl 0 rfl) ?_
      refine fl_getr X hP fk_X9_28 k2_0 rfl dX9_weeps_21 ?_
      refine lv_iload_n hx hb dX9_weeps_24 rfl (lv_at hl 1 rfl) ?_
      obtain ⟨hk5, h⟩ := fl_ck_e h
      refine fl_iald X hP k2_7 hk5 dX9_weeps_25 ?_
      refine lv_icmp_le (tgt := 33) hx hb dX9_weeps_26 (by decide) (fun c6 => ?_) (fun c6 => ?_)
      · replace h := fl_if_t h c6
        refine lv_iconst (v := (0 : Int32)) hx hb dX9_weeps_33 (by decide) ?_
        exact fl_zret X hr hlk (by decide) hP hS dX9_weeps_34 h
      · replace h := fl_if_f h c6
        refine lv_iconst (v := (1 : Int32)) hx hb dX9_weeps_29 (by decide) ?_
        refine lv_goto (tgt := 34) hx hb dX9_weeps_30 (by decide) ?_
        exact fl_zret X hr hlk (by decide) hP hS dX9_weeps_34 h

def J_X9_rides_132 (x1 : Int32) (x2 : Int32) (x3 : Int32) (x6 : Int32) (t1 : Int32) (t2 : Int32) (m : Mem) : Option (Int32 × Mem) :=
  fl_ck (0 ≤ t1.toInt ∧ t1.toInt < 380) (
    fl_lm (mI m 1 (t1.toNatClampNeg) t2) (fun m27 =>
      fl_ck (0 ≤ x3.toInt ∧ x3.toInt < 7) (
        fl_ck (0 ≤ ((x1 + (1 : Int32)) + x2).toInt ∧ ((x1 + (1 : Int32)) + x2).toInt < 380) (
          fl_lm (mI m27 1 (((x1 + (1 : Int32)) + x2).toNatClampNeg) (m27.1 5 (x3.toNatClampNeg))) (fun m31 =>
            fl_ck (0 ≤ ((x1 + (4 : Int32)) + x2).toInt ∧ ((x1 + (4 : Int32)) + x2).toInt < 380) (
              fl_lm (mI m31 1 (((x1 + (4 : Int32)) + x2).toNatClampNeg) x6) (fun m34 =>
                some ((0 : Int32), m34))))))))
def J_X9_rides_107 (x1 : Int32) (x2 : Int32) (x3 : Int32) (x4 : Int32) (x6 : Int32) (t1 : Int32) (m : Mem) : Option (Int32 × Mem) :=
  if x4 = 0 then (
    fl_ck (0 ≤ ((x1 + (7 : Int32)) + x2).toInt ∧ ((x1 + (7 : Int32)) + x2).toInt < 380) (
      J_X9_rides_132 x1 x2 x3 x6 t1 (m.1 1 (((x1 + (7 : Int32)) + x2).toNatClampNeg)) m))
  else (
    fl_ck (0 ≤ x3.toInt ∧ x3.toInt < 7) (
      J_X9_rides_132 x1 x2 x3 x6 t1 (m.1 5 (x3.toNatClampNeg)) m))
def J_X9_rides_75 (x1 : Int32) (x2 : Int32) (x3 : Int32) (x4 : Int32) (x5 : Int32) (x6 : Int32) (t1 : Int32) (t2 : Int32) (t3 : Int32) (m : Mem) : Option (Int32 × Mem) :=
  fl_ck (0 ≤ t1.toInt ∧ t1.toInt < 380) (
    fl_lm (mI m 1 (t1.toNatClampNeg) (t2 ||| t3)) (fun m18 =>
      fl_ck (0 ≤ x3.toInt ∧ x3.toInt < 7) (
        if (m18.1 3 (x3.toNatClampNeg)) = (3 : Int32) then (
          if x5 = 0 then (
            J_X9_rides_107 x1 x2 x3 x4 x6 ((x1 + (7 : Int32)) + x2) m18)
          else (
            J_X9_rides_132 x1 x2 x3 x6 ((x1 + (7 : Int32)) + x2) (-4 : Int32) m18))
        else (
          J_X9_rides_107 x1 x2 x3 x4 x6 ((x1 + (7 : Int32)) + x2) m18))))
def f_X9_rides (x1 : Int32) (x2 : Int32) (x3 : Int32) (x4 : Int32) (m : Mem) : Option (Int32 × Mem) :=
  fl_bd (f_X9_goesBy x1 x2 x3 m) (fun r1 m2 =>
    fl_bd (f_X9_freeBy x1 x2 x3 m2) (fun r4 m5 =>
      fl_ck (0 ≤ x3.toInt ∧ x3.toInt < 7) (
        fl_ck (0 ≤ ((x1 + (11 : Int32)) + x3).toInt ∧ ((x1 + (11 : Int32)) + x3).toInt < 380) (
          fl_lm (mI m5 1 (((x1 + (11 : Int32)) + x3).toNatClampNeg) (r4 - (m5.1 6 (x3.toNatClampNeg)))) (fun m9 =>
            fl_ck (0 ≤ (x1 + (10 : Int32)).toInt ∧ (x1 + (10 : Int32)).toInt < 380) (
              fl_ck (0 ≤ (x1 + (10 : Int32)).toInt ∧ (x1 + (10 : Int32)).toInt < 380) (
                fl_lm (mI m9 1 ((x1 + (10 : Int32)).toNatClampNeg) ((m9.1 1 ((x1 + (10 : Int32)).toNatClampNeg)) ||| ((1 : Int32) <<< (x3 &&& 31)))) (fun m13 =>
                  fl_ck (0 ≤ (x1 + (18 : Int32)).toInt ∧ (x1 + (18 : Int32)).toInt < 380) (
                    if x4 = 0 then (
                      J_X9_rides_75 x1 x2 x3 x4 r1 r4 (x1 + (18 : Int32)) (m13.1 1 ((x1 + (18 : Int32)).toNatClampNeg)) (0 : Int32) m13)
                    else (
                      J_X9_rides_75 x1 x2 x3 x4 r1 r4 (x1 + (18 : Int32)) (m13.1 1 ((x1 + (18 : Int32)).toNatClampNeg)) ((1 : Int32) <<< (x3 &&& 31)) m13))))))))))
set_option maxHeartbeats 4000000 in
set_option maxRecDepth 100000 in
theorem c_X9_rides (l : Launch) (D : va_G) (ca : Nat → ClassId) (ad : Nat → Nat) (hi : fl_inj L2 ad) (x1 : Int32) (x2 : Int32) (x3 : Int32) (x4 : Int32) (m : Mem) (v' : Int32) (M' : Mem) (h : f_X9_rides x1 x2 x3 x4 m = some (v', M')) : fl_M l L2 D ca ad yX9_rides cX9_rides 7 none 4 [.ref (ad 0), .int x1, .int x2, .int x3, .int x4] m none M' := by
  unfold f_X9_rides at h
  refine fl_ofW (by decide) hi (Nat.le_of_ble_eq_true rfl) ?_
  intro p e s mm args below meth c ls X hr hlk hP hl
  have hl : lv_has ls 7 [(0, .ref (ad 0)), (1, .int x1), (2, .int x2), (3, .int x3), (4, .int x4)] := hl
  have X : fl_X p s mm args c cX9_rides 7 RX9 L2 D ca ad := X
  obtain ⟨hx, hb, hml, hown, hts, hE, -⟩ := id X
  have hS : va_S (fl_A L2 ad) s.heap s.heap [] := va_S.rf
  have j_132 : ∀ (x1 : Int32) (x2 : Int32) (x3 : Int32) (x6 : Int32) (t1 : Int32) (t2 : Int32) (m : Mem) (H : Heap) (locs : List Loc) (ls : Array Slot), J_X9_rides_132 x1 x2 x3 x6 t1 t2 m = some (v', M') → va_P D vwCl (fl_w L2 ca ad m) H → va_S (fl_A L2 ad) s.heap H locs → lv_has ls 7 [(0, .ref (ad 0)), (1, .int x1), (2, .int x2), (3, .int x3), (6, .int x6)] → W p l e (fl_rm 4) s mm args below meth c H locs 0 0 (MQ below (fl_Q L2 D ca ad none M') args s 0 0 (fl_A L2 ad)) (F0 mm 132 ls [.int t2, .int t1, .ref (ad 1)]) := by
    intro x1 x2 x3 x6 t1 t2 m H locs ls h hP hS hl
    unfold J_X9_rides_132 at h
    obtain ⟨hk26, h⟩ := fl_ck_e h
    obtain ⟨m27, em28, h⟩ := fl_lm_e h
    refine fl_iast X hP hS k2_1 hk26 dX9_rides_132 (fun H locs hP hS => ?_)
    have hP : va_P D vwCl (fl_w L2 ca ad m27) H := by rw [em28]; exact hP
    refine lv_aload_n hx hb dX9_rides_133 rfl (lv_at hl 0 rfl) ?_
    refine fl_getr X hP fk_X9_7 k2_0 rfl dX9_rides_134 ?_
    refine lv_iload_n hx hb dX9_rides_137 rfl (lv_at hl 1 rfl) ?_
    refine lv_iconst (v := (1 : Int32)) hx hb dX9_rides_138 (by decide) ?_
    refine lv_iadd hx hb dX9_rides_139 ?_
    refine lv_iload_n hx hb dX9_rides_140 rfl (lv_at hl 2 rfl) ?_
    refine lv_iadd hx hb dX9_rides_141 ?_
    refine lv_aload_n hx hb dX9_rides_142 rfl (lv_at hl 0 rfl) ?_
    refine fl_getr X hP fk_X9_22 k2_0 rfl dX9_rides_143 ?_
    refine lv_iload_n hx hb dX9_rides_146 rfl (lv_at hl 3 rfl) ?_
    obtain ⟨hk29, h⟩ := fl_ck_e h
    refine fl_iald X hP k2_5 hk29 dX9_rides_147 ?_
    obtain ⟨hk30, h⟩ := fl_ck_e h
    obtain ⟨m31, em32, h⟩ := fl_lm_e h
    refine fl_iast X hP hS k2_1 hk30 dX9_rides_148 (fun H locs hP hS => ?_)
    have hP : va_P D vwCl (fl_w L2 ca ad m31) H := by rw [em32]; exact hP
    refine lv_aload_n hx hb dX9_rides_149 rfl (lv_at hl 0 rfl) ?_
    refine fl_getr X hP fk_X9_7 k2_0 rfl dX9_rides_150 ?_
    refine lv_iload_n hx hb dX9_rides_153 rfl (lv_at hl 1 rfl) ?_
    refine lv_iconst (v := (4 : Int32)) hx hb dX9_rides_154 (by decide) ?_
    refine lv_iadd hx hb dX9_rides_155 ?_
    refine lv_iload_n hx hb dX9_rides_156 rfl (lv_at hl 2 rfl) ?_
    refine lv_iadd hx hb dX9_rides_157 ?_
    refine lv_iload hx hb dX9_rides_158 (lv_at hl 4 rfl) ?_
    obtain ⟨hk33, h⟩ := fl_ck_e h
    obtain ⟨m34, em35, h⟩ := fl_lm_e h
    refine fl_iast X hP hS k2_1 hk33 dX9_rides_160 (fun H locs hP hS => ?_)
    have hP : va_P D vwCl (fl_w L2 ca ad m34) H := by rw [em35]; exact hP
    exact fl_vret X hr hlk hP hS dX9_rides_161 h
  have j_107 : ∀ (x1 : Int32) (x2 : Int32) (x3 : Int32) (x4 : Int32) (x6 : Int32) (t1 : Int32) (m : Mem) (H : Heap) (locs : List Loc) (ls : Array Slot), J_X9_rides_107 x1 x2 x3 x4 x6 t1 m = some (v', M') → va_P D vwCl (fl_w L2 ca ad m) H → va_S (fl_A L2 ad) s.heap H locs → lv_has ls 7 [(0, .ref (ad 0)), (1, .int x1), (2, .int x2), (3, .int x3), (4, .int x4), (6, .int x6)] → W p l e (fl_rm 4) s mm args below meth c H locs 0 0 (MQ below (fl_Q L2 D ca ad none M') args s 0 0 (fl_A L2 ad)) (F0 mm 107 ls [.int t1, .ref (ad 1)]) := by
    intro x1 x2 x3 x4 x6 t1 m H locs ls h hP hS hl
    unfold J_X9_rides_107 at h
    refine lv_iload hx hb dX9_rides_107 (lv_at hl 4 rfl) ?_
    refine lv_if_eq (tgt := 121) hx hb dX9_rides_109 (by decide) (fun c23 => ?_) (fun c23 => ?_)
    · replace h := fl_if_t h c23
      refine lv_aload_n hx hb dX9_rides_121 rfl (lv_at hl 0 rfl) ?_
      refine fl_getr X hP fk_X9_7 k2_0 rfl dX9_rides_122 ?_
      refine lv_iload_n hx hb dX9_rides_125 rfl (lv_at hl 1 rfl) ?_
      refine lv_bipush (v := (7 : Int32)) hx hb dX9_rides_126 (by decide) ?_
      refine lv_iadd hx hb dX9_rides_128 ?_
      refine lv_iload_n hx hb dX9_rides_129 rfl (lv_at hl 2 rfl) ?_
      refine lv_iadd hx hb dX9_rides_130 ?_
      obtain ⟨hk24, h⟩ := fl_ck_e h
      refine fl_iald X hP k2_1 hk24 dX9_rides_131 ?_
      exact j_132 _ _ _ _ _ _ _ _ _ _ h hP hS (lv_sub hl [0, 1, 2, 3, 5] rfl)
    · replace h := fl_if_f h c23
      refine lv_aload_n hx hb dX9_rides_112 rfl (lv_at hl 0 rfl) ?_
      refine fl_getr X hP fk_X9_22 k2_0 rfl dX9_rides_113 ?_
      refine lv_iload_n hx hb dX9_rides_116 rfl (lv_at hl 3 rfl) ?_
      obtain ⟨hk25, h⟩ := fl_ck_e h
      refine fl_iald X hP k2_5 hk25 dX9_rides_117 ?_
      refine lv_goto (tgt := 132) hx hb dX9_rides_118 (by decide) ?_
      exact j_132 _ _ _ _ _ _ _ _ _ _ h hP hS (lv_sub hl [0, 1, 2, 3, 5] rfl)
  have j_75 : ∀ (x1 : Int32) (x2 : Int32) (x3 : Int32) (x4 : Int32) (x5 : Int32) (x6 : Int32) (t1 : Int32) (t2 : Int32) (t3 : Int32) (m : Mem) (H : Heap) (locs : List Loc) (ls : Array Slot), J_X9_rides_75 x1 x2 x3 x4 x5 x6 t1 t2 t3 m = some (v', M') → va_P D vwCl (fl_w L2 ca ad m) H → va_S (fl_A L2 ad) s.heap H locs → lv_has ls 7 [(0, .ref (ad 0)), (1, .int x1), (2, .int x2), (3, .int x3), (4, .int x4), (5, .int x5), (6, .int x6)] → W p l e (fl_rm 4) s mm args below meth c H locs 0 0 (MQ below (fl_Q L2 D ca ad none M') args s 0 0 (fl_A L2 ad)) (F0 mm 75 ls [.int t3, .int t2, .int t1, .ref (ad 1)]) := by
    intro x1 x2 x3 x4 x5 x6 t1 t2 t3 m H locs ls h hP hS hl
    unfold J_X9_rides_75 at h
    refine lv_ior hx hb dX9_rides_75 ?_
    obtain ⟨hk17, h⟩ := fl_ck_e h
    obtain ⟨m18, em19, h⟩ := fl_lm_e h
    refine fl_iast X hP hS k2_1 hk17 dX9_rides_76 (fun H locs hP hS => ?_)
    have hP : va_P D vwCl (fl_w L2 ca ad m18) H := by rw [em19]; exact hP
    refine lv_aload_n hx hb dX9_rides_77 rfl (lv_at hl 0 rfl) ?_
    refine fl_getr X hP fk_X9_7 k2_0 rfl dX9_rides_78 ?_
    refine lv_iload_n hx hb dX9_rides_81 rfl (lv_at hl 1 rfl) ?_
    refine lv_bipush (v := (7 : Int32)) hx hb dX9_rides_82 (by decide) ?_
    refine lv_iadd hx hb dX9_rides_84 ?_
    refine lv_iload_n hx hb dX9_rides_85 rfl (lv_at hl 2 rfl) ?_
    refine lv_iadd hx hb dX9_rides_86 ?_
    refine lv_aload_n hx hb dX9_rides_87 rfl (lv_at hl 0 rfl) ?_
    refine fl_getr X hP fk_X9_16 k2_0 rfl dX9_rides_88 ?_
    refine lv_iload_n hx hb dX9_rides_91 rfl (lv_at hl 3 rfl) ?_
    obtain ⟨hk20, h⟩ := fl_ck_e h
    refine fl_iald X hP k2_3 hk20 dX9_rides_92 ?_
    refine lv_iconst (v := (3 : Int32)) hx hb dX9_rides_93 (by decide) ?_
    refine lv_icmp_ne (tgt := 107) hx hb dX9_rides_94 (by decide) (fun c21 => ?_) (fun c21 => ?_)
    · replace h := fl_if_f h c21
      exact j_107 _ _ _ _ _ _ _ _ _ _ h hP hS (lv_sub hl [0, 1, 2, 3, 4, 6] rfl)
    · replace h := fl_if_t h c21
      refine lv_iload hx hb dX9_rides_97 (lv_at hl 5 rfl) ?_
      refine lv_if_eq (tgt := 107) hx hb dX9_rides_99 (by decide) (fun c22 => ?_) (fun c22 => ?_)
      · replace h := fl_if_t h c22
        exact j_107 _ _ _ _ _ _ _ _ _ _ h hP hS (lv_sub hl [0, 1, 2, 3, 4, 6] rfl)
      · replace h := fl_if_f h c22
        refine lv_bipush (v := (-4 : Int32)) hx hb dX9_rides_102 (by decide) ?_
        refine lv_goto (tgt := 132) hx hb dX9_rides_104 (by decide) ?_
        exact j_132 _ _ _ _ _ _ _ _ _ _ h hP hS (lv_sub hl [0, 1, 2, 3, 6] rfl)
  refine lv_aload_n hx hb dX9_rides_0 rfl (lv_at hl 0 rfl) ?_
  refine lv_iload_n hx hb dX9_rides_1 rfl (lv_at hl 1 rfl) ?_
  refine lv_iload_n hx hb dX9_rides_2 rfl (lv_at hl 2 rfl) ?_
  refine lv_iload_n hx hb dX9_rides_3 rfl (lv_at hl 3 rfl) ?_
  obtain ⟨r1, m2, hz3, h⟩ := fl_bd_e h
  refine fl_callV (av := [.int x1, .int x2, .int x3]) X hP hS hl.1 mv_X9_175 (c_X9_goesBy l D ca ad hi x1 x2 x3 m _ _ hz3) k2_0 (fl_fit_rm (by omega) (by decide)) rfl (Nat.le_of_ble_eq_true rfl) dX9_rides_4 rfl (fun H locs hP hS => ?_)
  refine W.eq (g2 := F0 mm 7 ls [.int r1]) rfl ?_
  refine lv_istore (lv' := [(5, .int r1), (0, .ref (ad 0)), (1, .int x1), (2, .int x2), (3, .int x3), (4, .int x4)]) hx hb dX9_rides_7 hl (by decide) rfl (fun ls hl => ?_)
  refine lv_aload_n hx hb dX9_rides_9 rfl (lv_at hl 1 rfl) ?_
  refine lv_iload_n hx hb dX9_rides_10 rfl (lv_at hl 2 rfl) ?_
  refine lv_iload_n hx hb dX9_rides_11 rfl (lv_at hl 3 rfl) ?_
  refine lv_iload_n hx hb dX9_rides_12 rfl (lv_at hl 4 rfl) ?_
  obtain ⟨r4, m5, hz6, h⟩ := fl_bd_e h
  refine fl_callV (av := [.int x1, .int x2, .int x3]) X hP hS hl.1 mv_X9_178 (c_X9_freeBy l D ca ad hi x1 x2 x3 m2 _ _ hz6) k2_0 (fl_fit_rm (by omega) (by decide)) rfl (Nat.le_of_ble_eq_true rfl) dX9_rides_13 rfl (fun H locs hP hS => ?_)
  refine W.eq (g2 := F0 mm 16 ls [.int r4]) rfl ?_
  refine lv_istore (lv' := [(6, .int r4), (5, .int r1), (0, .ref (ad 0)), (1, .int x1), (2, .int x2), (3, .int x3), (4, .int x4)]) hx hb dX9_rides_16 hl (by decide) rfl (fun ls hl => ?_)
  refine lv_aload_n hx hb dX9_rides_18 rfl (lv_at hl 2 rfl) ?_
  refine fl_getr X hP fk_X9_7 k2_0 rfl dX9_rides_19 ?_
  refine lv_iload_n hx hb dX9_rides_22 rfl (lv_at hl 3 rfl) ?_
  refine lv_bipush (v := (11 : Int32)) hx hb dX9_rides_23 (by decide) ?_
  refine lv_iadd hx hb dX9_rides_25 ?_
  refine lv_iload_n hx hb dX9_rides_26 rfl (lv_at hl 5 rfl) ?_
  refine lv_iadd hx hb dX9_rides_27 ?_
  refine lv_iload hx hb dX9_rides_28 (lv_at hl 0 rfl) ?_
  refine lv_aload_n hx hb dX9_rides_30 rfl (lv_at hl 2 rfl) ?_
  refine fl_getr X hP fk_X9_25 k2_0 rfl dX9_rides_31 ?_
  refine lv_iload_n hx hb dX9_rides_34 rfl (lv_at hl 5 rfl) ?_
  obtain ⟨hk7, h⟩ := fl_ck_e h
  refine fl_iald X hP k2_6 hk7 dX9_rides_35 ?_
  refine lv_isub hx hb dX9_rides_36 ?_
  obtain ⟨hk8, h⟩ := fl_ck_e h
  obtain ⟨m9, em10, h⟩ := fl_lm_e h
  refine fl_iast X hP hS k2_1 hk8 dX9_rides_37 (fun H locs hP hS => ?_)
  have hP : va_P D vwCl (fl_w L2 ca ad m9) H := by rw [em10]; exact hP
  refine lv_aload_n hx hb dX9_rides_38 rfl (lv_at hl 2 rfl) ?_
  refine fl_getr X hP fk_X9_7 k2_0 rfl dX9_rides_39 ?_
  refine lv_iload_n hx hb dX9_rides_42 rfl (lv_at hl 3 rfl) ?_
  refine lv_bipush (v := (10 : Int32)) hx hb dX9_rides_43 (by decide) ?_
  refine lv_iadd hx hb dX9_rides_45 ?_
  refine lv_dup2_11 hx hb dX9_rides_46 rfl rfl ?_
  obtain ⟨hk11, h⟩ := fl_ck_e h
  refine fl_iald X hP k2_1 hk11 dX9_rides_47 ?_
  refine lv_iconst (v := (1 : Int32)) hx hb dX9_rides_48 (by decide) ?_
  refine lv_iload_n hx hb dX9_rides_49 rfl (lv_at hl 5 rfl) ?_
  refine lv_ishl hx hb dX9_rides_50 ?_
  refine lv_ior hx hb dX9_rides_51 ?_
  obtain ⟨hk12, h⟩ := fl_ck_e h
  obtain ⟨m13, em14, h⟩ := fl_lm_e h
  refine fl_iast X hP hS k2_1 hk12 dX9_rides_52 (fun H locs hP hS => ?_)
  have hP : va_P D vwCl (fl_w L2 ca ad m13) H := by rw [em14]; exact hP
  refine lv_aload_n hx hb dX9_rides_53 rfl (lv_at hl 2 rfl) ?_
  refine fl_getr X hP fk_X9_7 k2_0 rfl dX9_rides_54 ?_
  refine lv_iload_n hx hb dX9_rides_57 rfl (lv_at hl 3 rfl) ?_
  refine lv_bipush (v := (18 : Int32)) hx hb dX9_rides_58 (by decide) ?_
  refine lv_iadd hx hb dX9_rides_60 ?_
  refine lv_dup2_11 hx hb dX9_rides_61 rfl rfl ?_
  obtain ⟨hk15, h⟩ := fl_ck_e h
  refine fl_iald X hP k2_1 hk15 dX9_rides_62 ?_
  refine lv_iload hx hb dX9_rides_63 (lv_at hl 6 rfl) ?_
  refine lv_if_eq (tgt := 74) hx hb dX9_rides_65 (by decide) (fun c16 => ?_) (fun c16 => ?_)
  · replace h := fl_if_t h c16
    refine lv_iconst (v := (0 : Int32)) hx hb dX9_rides_74 (by decide) ?_
    exact j_75 _ _ _ _ _ _ _ _ _ _ _ _ _ h hP hS (lv_sub hl [2, 3, 4, 5, 6, 1, 0] rfl)
  · replace h := fl_if_f h c16
    refine lv_iconst (v := (1 : Int32)) hx hb dX9_rides_68 (by decide) ?_
    refine lv_iload_n hx hb dX9_rides_69 rfl (lv_at hl 5 rfl) ?_
    refine lv_ishl hx hb dX9_rides_70 ?_
    refine lv_goto (tgt := 75) hx hb dX9_rides_71 (by decide) ?_
    exact j_75 _ _ _ _ _ _ _ _ _ _ _ _ _ h hP hS (lv_sub hl [2, 3, 4, 5, 6, 1, 0] rfl)

def f_X9_ridesAsOneDoes (x1 : Int32) (x2 : Int32) (x3 : Int32) (m : Mem) : Option (Int32 × Mem) :=
  fl_bd (f_X9_lateBy x1 x2 x3 m) (fun r1 m2 =>
    fl_bd (f_X9_weeps x3 r1 m2) (fun r4 m5 =>
      fl_bd (f_X9_rides x1 x2 x3 r4 m5) (fun r7 m8 =>
        fl_ck (r4 = 0 ∨ r4 = 1) (
          some (r4, m8)))))
set_option maxHeartbeats 4000000 in
set_option maxRecDepth 100000 in
theorem c_X9_ridesAsOneDoes (l : Launch) (D : va_G) (ca : Nat → ClassId) (ad : Nat → Nat) (hi : fl_inj L2 ad) (x1 : Int32) (x2 : Int32) (x3 : Int32) (m : Mem) (v' : Int32) (M' : Mem) (h : f_X9_ridesAsOneDoes x1 x2 x3 m = some (v', M')) : fl_M l L2 D ca ad yX9_ridesAsOneDoes cX9_ridesAsOneDoes 5 (some .boolean) 5 [.ref (ad 0), .int x1, .int x2, .int x3] m (some (.int v')) M' := by
  unfold f_X9_ridesAsOneDoes at h
  refine fl_ofW (by decide) hi (Nat.le_of_ble_eq_true rfl) ?_
  intro p e s mm args below meth c ls X hr hlk hP hl
  have hl : lv_has ls 5 [(0, .ref (ad 0)), (1, .int x1), (2, .int x2), (3, .int x3)] := hl
  have X : fl_X p s mm args c cX9_ridesAsOneDoes 5 RX9 L2 D ca ad := X
  obtain ⟨hx, hb, hml, hown, hts, hE, -⟩ := id X
  have hS : va_S (fl_A L2 ad) s.heap s.heap [] := va_S.rf
  refine lv_aload_n hx hb dX9_ridesAsOneDoes_0 rfl (lv_at hl 0 rfl) ?_
  refine lv_iload_n hx hb dX9_ridesAsOneDoes_1 rfl (lv_at hl 3 rfl) ?_
  refine lv_aload_n hx hb dX9_ridesAsOneDoes_2 rfl (lv_at hl 0 rfl) ?_
  refine lv_iload_n hx hb dX9_ridesAsOneDoes_3 rfl (lv_at hl 1 rfl) ?_
  refine lv_iload_n hx hb dX9_ridesAsOneDoes_4 rfl (lv_at hl 2 rfl) ?_
  refine lv_iload_n hx hb dX9_ridesAsOneDoes_5 rfl (lv_at hl 3 rfl) ?_
  obtain ⟨r1, m2, hz3, h⟩ := fl_bd_e h
  refine fl_callV (av := [.int x1, .int x2, .int x3]) X hP hS hl.1 mv_X9_182 (c_X9_lateBy l D ca ad hi x1 x2 x3 m _ _ hz3) k2_0 (fl_fit_rm (by omega) (by decide)) rfl (Nat.le_of_ble_eq_true rfl) dX9_ridesAsOneDoes_6 rfl (fun H locs hP hS => ?_)
  refine W.eq (g2 := F0 mm 9 ls [.int r1, .int x3, .ref (ad 0)]) rfl ?_
  obtain ⟨r4, m5, hz6, h⟩ := fl_bd_e h
  refine fl_callV (av := [.int x3, .int r1]) X hP hS hl.1 mv_X9_185 (c_X9_weeps l D ca ad hi x3 r1 m2 _ _ hz6) k2_0 (fl_fit_rm (by omega) (by decide)) rfl (Nat.le_of_ble_eq_true rfl) dX9_ridesAsOneDoes_9 rfl (fun H locs hP hS => ?_)
  refine W.eq (g2 := F0 mm 12 ls [.int r4]) rfl ?_
  refine lv_istore (lv' := [(4, .int r4), (0, .ref (ad 0)), (1, .int x1), (2, .int x2), (3, .int x3)]) hx hb dX9_ridesAsOneDoes_12 hl (by decide) rfl (fun ls hl => ?_)
  refine lv_aload_n hx hb dX9_ridesAsOneDoes_14 rfl (lv_at hl 1 rfl) ?_
  refine lv_iload_n hx hb dX9_ridesAsOneDoes_15 rfl (lv_at hl 2 rfl) ?_
  refine lv_iload_n hx hb dX9_ridesAsOneDoes_16 rfl (lv_at hl 3 rfl) ?_
  refine lv_iload_n hx hb dX9_ridesAsOneDoes_17 rfl (lv_at hl 4 rfl) ?_
  refine lv_iload hx hb dX9_ridesAsOneDoes_18 (lv_at hl 0 rfl) ?_
  obtain ⟨r7, m8, hz9, h⟩ := fl_bd_e h
  refine fl_callV (av := [.int x1, .int x2, .int x3, .int r4]) X hP hS hl.1 mv_X9_189 (c_X9_rides l D ca ad hi x1 x2 x3 r4 m5 _ _ hz9) k2_0 (fl_fit_rm (by omega) (by decide)) rfl (Nat.le_of_ble_eq_true rfl) dX9_ridesAsOneDoes_20 rfl (fun H locs hP hS => ?_)
  refine W.eq (g2 := F0 mm 23 ls []) rfl ?_
  refine lv_iload hx hb dX9_ridesAsOneDoes_23 (lv_at hl 0 rfl) ?_
  obtain ⟨hk10, h⟩ := fl_ck_e h
  exact fl_zret X hr hlk hk10 hP hS dX9_ridesAsOneDoes_25 h

def B_X9_soonestIn_5 (N : Nat) (F : Int32 → Int32 → Int32 → Int32 → Mem → Option (Int32 × Mem)) (x1 : Int32) (x2 : Int32) (x3 : Int32) (x4 : Int32) (m : Mem) : Option (Int32 × Mem) :=
  if (m.1 0 5) ≤ x4 then (
    some (x3, m))
  else (
    fl_bd (f_X9_lateBy x1 x4 x2 m) (fun r2 m3 =>
      fl_bd (f_X9_lateBy x1 x3 x2 m3) (fun r5 m6 =>
        if r5 ≤ r2 then (
          F x1 x2 x3 (x4 + 1) m6)
        else (
          F x1 x2 x4 (x4 + 1) m6))))
def l_X9_soonestIn (N : Nat) : Nat → Int32 → Int32 → Int32 → Int32 → Mem → Option (Int32 × Mem)
  | 0 => fun _ _ _ _ _ => none
  | n + 1 => fun x1 x2 x3 x4 m => B_X9_soonestIn_5 N (l_X9_soonestIn N n) x1 x2 x3 x4 m
def f_X9_soonestIn (N : Nat) (x1 : Int32) (x2 : Int32) (m : Mem) : Option (Int32 × Mem) :=
  (l_X9_soonestIn N N) x1 x2 (0 : Int32) (1 : Int32) m
set_option maxHeartbeats 4000000 in
set_option maxRecDepth 100000 in
theorem c_X9_soonestIn (l : Launch) (D : va_G) (ca : Nat → ClassId) (ad : Nat → Nat) (hi : fl_inj L2 ad) (N : Nat) (x1 : Int32) (x2 : Int32) (m : Mem) (v' : Int32) (M' : Mem) (h : f_X9_soonestIn N x1 x2 m = some (v', M')) : fl_M l L2 D ca ad yX9_soonestIn cX9_soonestIn 5 (some .int) 5 [.ref (ad 0), .int x1, .int x2] m (some (.int v')) M' := by
  unfold f_X9_soonestIn at h
  refine fl_ofW (by decide) hi (Nat.le_of_ble_eq_true rfl) ?_
  intro p e s mm args below meth c ls X hr hlk hP hl
  have hl : lv_has ls 5 [(0, .ref (ad 0)), (1, .int x1), (2, .int x2)] := hl
  have X : fl_X p s mm args c cX9_soonestIn 5 RX9 L2 D ca ad := X
  obtain ⟨hx, hb, hml, hown, hts, hE, -⟩ := id X
  have hS : va_S (fl_A L2 ad) s.heap s.heap [] := va_S.rf
  have key : ∀ n : Nat, (∀ (x1 : Int32) (x2 : Int32) (x3 : Int32) (x4 : Int32) (m : Mem) (H : Heap) (locs : List Loc) (ls : Array Slot), l_X9_soonestIn N n x1 x2 x3 x4 m = some (v', M') → va_P D vwCl (fl_w L2 ca ad m) H → va_S (fl_A L2 ad) s.heap H locs → lv_has ls 5 [(0, .ref (ad 0)), (1, .int x1), (2, .int x2), (3, .int x3), (4, .int x4)] → W p l e (fl_rm 5) s mm args below meth c H locs 0 0 (MQ below (fl_Q L2 D ca ad (some (.int v')) M') args s 0 0 (fl_A L2 ad)) (F0 mm 5 ls [])) := by
    intro n
    induction n with
    | zero =>
      skip
      · intro x1 x2 x3 x4 m H locs ls h hP hS hl
        have h : (none : Option (Int32 × Mem)) = some (v', M') := h
        cases h
    | succ n ih =>
      have ih_5 := ih
      skip
      · intro x1 x2 x3 x4 m H locs ls h hP hS hl
        have h : B_X9_soonestIn_5 N (l_X9_soonestIn N n) x1 x2 x3 x4 m = some (v', M') := h
        unfold B_X9_soonestIn_5 at h
        refine lv_iload hx hb dX9_soonestIn_5 (lv_at hl 4 rfl) ?_
        refine lv_aload_n hx hb dX9_soonestIn_7 rfl (lv_at hl 0 rfl) ?_
        refine fl_geti X hP fk_X9_96 k2_0 rfl dX9_soonestIn_8 ?_
        refine lv_icmp_ge (tgt := 45) hx hb dX9_soonestIn_11 (by decide) (fun c1 => ?_) (fun c1 => ?_)
        · replace h := fl_if_t h c1
          refine lv_iload_n hx hb dX9_soonestIn_45 rfl (lv_at hl 3 rfl) ?_
          exact fl_iret X hr hlk hP hS dX9_soonestIn_46 h
        · replace h := fl_if_f h c1
          refine lv_aload_n hx hb dX9_soonestIn_14 rfl (lv_at hl 0 rfl) ?_
          refine lv_iload_n hx hb dX9_soonestIn_15 rfl (lv_at hl 1 rfl) ?_
          refine lv_iload hx hb dX9_soonestIn_16 (lv_at hl 4 rfl) ?_
          refine lv_iload_n hx hb dX9_soonestIn_18 rfl (lv_at hl 2 rfl) ?_
          obtain ⟨r2, m3, hz4, h⟩ := fl_bd_e h
          refine fl_callV (av := [.int x1, .int x4, .int x2]) X hP hS hl.1 mv_X9_182 (c_X9_lateBy l D ca ad hi x1 x4 x2 m _ _ hz4) k2_0 (fl_fit_rm (by omega) (by decide)) rfl (Nat.le_of_ble_eq_true rfl) dX9_soonestIn_19 rfl (fun H locs hP hS => ?_)
          refine W.eq (g2 := F0 mm 22 ls [.int r2]) rfl ?_
          refine lv_aload_n hx hb dX9_soonestIn_22 rfl (lv_at hl 0 rfl) ?_
          refine lv_iload_n hx hb dX9_soonestIn_23 rfl (lv_at hl 1 rfl) ?_
          refine lv_iload_n hx hb dX9_soonestIn_24 rfl (lv_at hl 3 rfl) ?_
          refine lv_iload_n hx hb dX9_soonestIn_25 rfl (lv_at hl 2 rfl) ?_
          obtain ⟨r5, m6, hz7, h⟩ := fl_bd_e h
          refine fl_callV (av := [.int x1, .int x3, .int x2]) X hP hS hl.1 mv_X9_182 (c_X9_lateBy l D ca ad hi x1 x3 x2 m3 _ _ hz7) k2_0 (fl_fit_rm (by omega) (by decide)) rfl (Nat.le_of_ble_eq_true rfl) dX9_soonestIn_26 rfl (fun H locs hP hS => ?_)
          refine W.eq (g2 := F0 mm 29 ls [.int r5, .int r2]) rfl ?_
          refine lv_icmp_ge (tgt := 37) hx hb dX9_soonestIn_29 (by decide) (fun c8 => ?_) (fun c8 => ?_)
          · replace h := fl_if_t h c8
            refine lv_iload_n hx hb dX9_soonestIn_37 rfl (lv_at hl 3 rfl) ?_
            refine lv_istore_n (lv' := [(3, .int x3), (0, .ref (ad 0)), (1, .int x1), (2, .int x2), (4, .int x4)]) hx hb dX9_soonestIn_38 rfl hl (by decide) rfl (fun ls hl => ?_)
            refine lv_iinc (v := x4 + 1) (lv' := [(4, .int (x4 + 1)), (3, .int x3), (0, .ref (ad 0)), (1, .int x1), (2, .int x2)]) hx hb dX9_soonestIn_39 hl (k := 4) rfl rfl (by decide) rfl (fun ls hl => ?_)
            refine lv_goto (tgt := 5) hx hb dX9_soonestIn_42 (by decide) ?_
            exact ih_5 _ _ _ _ _ _ _ _ h hP hS (lv_sub hl [2, 3, 4, 1, 0] rfl)
          · replace h := fl_if_f h c8
            refine lv_iload hx hb dX9_soonestIn_32 (lv_at hl 4 rfl) ?_
            refine lv_goto (tgt := 38) hx hb dX9_soonestIn_34 (by decide) ?_
            refine lv_istore_n (lv' := [(3, .int x4), (0, .ref (ad 0)), (1, .int x1), (2, .int x2), (4, .int x4)]) hx hb dX9_soonestIn_38 rfl hl (by decide) rfl (fun ls hl => ?_)
            refine lv_iinc (v := x4 + 1) (lv' := [(4, .int (x4 + 1)), (3, .int x4), (0, .ref (ad 0)), (1, .int x1), (2, .int x2)]) hx hb dX9_soonestIn_39 hl (k := 4) rfl rfl (by decide) rfl (fun ls hl => ?_)
            refine lv_goto (tgt := 5) hx hb dX9_soonestIn_42 (by decide) ?_
            exact ih_5 _ _ _ _ _ _ _ _ h hP hS (lv_sub hl [2, 3, 4, 1, 0] rfl)
  have ih_5 := key N
  refine lv_iconst (v := (0 : Int32)) hx hb dX9_soonestIn_0 (by decide) ?_
  refine lv_istore_n (lv' := [(3, .int (0 : Int32)), (0, .ref (ad 0)), (1, .int x1), (2, .int x2)]) hx hb dX9_soonestIn_1 rfl hl (by decide) rfl (fun ls hl => ?_)
  refine lv_iconst (v := (1 : Int32)) hx hb dX9_soonestIn_2 (by decide) ?_
  refine lv_istore (lv' := [(4, .int (1 : Int32)), (3, .int (0 : Int32)), (0, .ref (ad 0)), (1, .int x1), (2, .int x2)]) hx hb dX9_soonestIn_3 hl (by decide) rfl (fun ls hl => ?_)
  exact ih_5 _ _ _ _ _ _ _ _ h hP hS (lv_sub hl [2, 3, 4, 1, 0] rfl)
