def f_X6_add (x1 : Int32) (m : Mem) : Option (Int32 × Mem) :=
  if (m.1 1 1) < (200 : Int32) then (
    fl_ck (0 ≤ (m.1 1 1).toInt ∧ (m.1 1 1).toInt < 200) (
      fl_lm (mI m 2 ((m.1 1 1).toNatClampNeg) (vp_nar .char x1)) (fun m3 =>
        fl_lm (mI m3 1 1 ((m3.1 1 1) + (1 : Int32))) (fun m5 =>
          some ((1 : Int32), m5)))))
  else (
    some ((0 : Int32), m))
set_option maxHeartbeats 4000000 in
set_option maxRecDepth 100000 in
theorem c_X6_add (l : Launch) (D : va_G) (ca : Nat → ClassId) (ad : Nat → Nat) (hi : fl_inj L1 ad) (x1 : Int32) (m : Mem) (v' : Int32) (M' : Mem) (h : f_X6_add x1 m = some (v', M')) : fl_M l L1 D ca ad yX6_add cX6_add 2 (some .boolean) 1 [.ref (ad 1), .int x1] m (some (.int v')) M' := by
  unfold f_X6_add at h
  refine fl_ofW (by decide) hi (Nat.le_of_ble_eq_true rfl) ?_
  intro p e s mm args below meth c ls X hr hlk hP hl
  have hl : lv_has ls 2 [(0, .ref (ad 1)), (1, .int x1)] := hl
  have X : fl_X p s mm args c cX6_add 2 RX6 L1 D ca ad := X
  obtain ⟨hx, hb, hml, hown, hts, hE, -⟩ := id X
  have hS : va_S (fl_A L1 ad) s.heap s.heap [] := va_S.rf
  refine lv_aload_n hx hb dX6_add_0 rfl (lv_at hl 0 rfl) ?_
  refine fl_geti X hP fk_X6_19 k1_1 rfl dX6_add_1 ?_
  refine lv_sipush (v := (200 : Int32)) hx hb dX6_add_4 (by decide) ?_
  refine lv_icmp_lt (tgt := 12) hx hb dX6_add_7 (by decide) (fun c1 => ?_) (fun c1 => ?_)
  · replace h := fl_if_t h c1
    refine lv_aload_n hx hb dX6_add_12 rfl (lv_at hl 0 rfl) ?_
    refine fl_getr X hP fk_X6_9 k1_1 rfl dX6_add_13 ?_
    refine lv_aload_n hx hb dX6_add_16 rfl (lv_at hl 0 rfl) ?_
    refine fl_geti X hP fk_X6_19 k1_1 rfl dX6_add_17 ?_
    refine lv_iload_n hx hb dX6_add_20 rfl (lv_at hl 1 rfl) ?_
    obtain ⟨hk2, h⟩ := fl_ck_e h
    obtain ⟨m3, em4, h⟩ := fl_lm_e h
    refine fl_cast X hP hS k1_2 hk2 dX6_add_21 (fun H locs hP hS => ?_)
    have hP : va_P D vwCl (fl_w L1 ca ad m3) H := by rw [em4]; exact hP
    refine lv_aload_n hx hb dX6_add_22 rfl (lv_at hl 0 rfl) ?_
    refine lv_dup hx hb dX6_add_23 rfl ?_
    refine fl_geti X hP fk_X6_19 k1_1 rfl dX6_add_24 ?_
    refine lv_iconst (v := (1 : Int32)) hx hb dX6_add_27 (by decide) ?_
    refine lv_iadd hx hb dX6_add_28 ?_
    obtain ⟨m5, em6, h⟩ := fl_lm_e h
    refine fl_puti X hP hS pk_X6_19 k1_1 rfl rfl rfl dX6_add_29 (fun H locs hP hS => ?_)
    have hP : va_P D vwCl (fl_w L1 ca ad m5) H := by rw [em6]; exact hP
    refine lv_iconst (v := (1 : Int32)) hx hb dX6_add_32 (by decide) ?_
    exact fl_zret X hr hlk (by decide) hP hS dX6_add_33 h
  · replace h := fl_if_f h c1
    refine lv_iconst (v := (0 : Int32)) hx hb dX6_add_10 (by decide) ?_
    exact fl_zret X hr hlk (by decide) hP hS dX6_add_11 h

def J_X6_readNumbers_82 (N : Nat) (F : Int32 → Int32 → Int32 → Int32 → Mem → Option (Int32 × Mem)) (x2 : Int32) (x3 : Int32) (x4 : Int32) (x5 : Int32) (m : Mem) : Option (Int32 × Mem) :=
  if x3 ≤ 0 then (
    some ((0 : Int32), m))
  else (
    if (5 : Int32) ≤ (m.1 1 3) then (
      some ((0 : Int32), m))
    else (
      fl_ck (0 ≤ (m.1 1 3).toInt ∧ (m.1 1 3).toInt < 5) (
        fl_lm (mI m 3 ((m.1 1 3).toNatClampNeg) x4) (fun m19 =>
          fl_lm (mI m19 1 3 ((m19.1 1 3) + (1 : Int32))) (fun m21 =>
            F x2 (0 : Int32) (0 : Int32) (x5 + 1) m21)))))
def J_X6_readNumbers_68 (N : Nat) (F : Int32 → Int32 → Int32 → Int32 → Mem → Option (Int32 × Mem)) (x2 : Int32) (x3 : Int32) (x4 : Int32) (x5 : Int32) (x6 : Int32) (m : Mem) : Option (Int32 × Mem) :=
  if x6 = (44 : Int32) then (
    J_X6_readNumbers_82 N F x2 x3 x4 x5 m)
  else (
    if x6 = (59 : Int32) then (
      J_X6_readNumbers_82 N F x2 x3 x4 x5 m)
    else (
      some ((0 : Int32), m)))
def B_X6_readNumbers_15 (N : Nat) (F : Int32 → Int32 → Int32 → Int32 → Mem → Option (Int32 × Mem)) (x2 : Int32) (x3 : Int32) (x4 : Int32) (x5 : Int32) (m : Mem) : Option (Int32 × Mem) :=
  if x2 < x5 then (
    some ((1 : Int32), m))
  else (
    fl_ck (0 ≤ x5.toInt ∧ x5.toInt < 200) (
      fl_li (m.1 2 (x5.toNatClampNeg)) (fun z7 =>
        if z7 < (48 : Int32) then (
          J_X6_readNumbers_68 N F x2 x3 x4 x5 z7 m)
        else (
          if (57 : Int32) < z7 then (
            J_X6_readNumbers_68 N F x2 x3 x4 x5 z7 m)
          else (
            if (2 : Int32) ≤ x3 then (
              J_X6_readNumbers_68 N F x2 x3 x4 x5 z7 m)
            else (
              fl_li (((x4 * (10 : Int32)) + z7) - (48 : Int32)) (fun z12 =>
                F x2 (x3 + 1) z12 (x5 + 1) m)))))))
def l_X6_readNumbers (N : Nat) : Nat → Int32 → Int32 → Int32 → Int32 → Mem → Option (Int32 × Mem)
  | 0 => fun _ _ _ _ _ => none
  | n + 1 => fun x2 x3 x4 x5 m => B_X6_readNumbers_15 N (l_X6_readNumbers N n) x2 x3 x4 x5 m
def f_X6_readNumbers (N : Nat) (x1 : Int32) (x2 : Int32) (m : Mem) : Option (Int32 × Mem) :=
  fl_lm (mI m 1 3 (0 : Int32)) (fun m1 =>
    fl_li (x1 + (1 : Int32)) (fun z3 =>
      (l_X6_readNumbers N N) x2 (0 : Int32) (0 : Int32) z3 m1))
set_option maxHeartbeats 4000000 in
set_option maxRecDepth 100000 in
theorem c_X6_readNumbers (l : Launch) (D : va_G) (ca : Nat → ClassId) (ad : Nat → Nat) (hi : fl_inj L1 ad) (N : Nat) (x1 : Int32) (x2 : Int32) (m : Mem) (v' : Int32) (M' : Mem) (h : f_X6_readNumbers N x1 x2 m = some (v', M')) : fl_M l L1 D ca ad yX6_readNumbers cX6_readNumbers 7 (some .boolean) 1 [.ref (ad 1), .int x1, .int x2] m (some (.int v')) M' := by
  unfold f_X6_readNumbers at h
  refine fl_ofW (by decide) hi (Nat.le_of_ble_eq_true rfl) ?_
  intro p e s mm args below meth c ls X hr hlk hP hl
  have hl : lv_has ls 7 [(0, .ref (ad 1)), (1, .int x1), (2, .int x2)] := hl
  have X : fl_X p s mm args c cX6_readNumbers 7 RX6 L1 D ca ad := X
  obtain ⟨hx, hb, hml, hown, hts, hE, -⟩ := id X
  have hS : va_S (fl_A L1 ad) s.heap s.heap [] := va_S.rf
  have js : ∀ n : Nat, ((∀ (x2 : Int32) (x3 : Int32) (x4 : Int32) (x5 : Int32) (m : Mem) (H : Heap) (locs : List Loc) (ls : Array Slot), l_X6_readNumbers N n x2 x3 x4 x5 m = some (v', M') → va_P D vwCl (fl_w L1 ca ad m) H → va_S (fl_A L1 ad) s.heap H locs → lv_has ls 7 [(0, .ref (ad 1)), (2, .int x2), (3, .int x3), (4, .int x4), (5, .int x5)] → W p l e (fl_rm 1) s mm args below meth c H locs 0 0 (MQ below (fl_Q L1 D ca ad (some (.int v')) M') args s 0 0 (fl_A L1 ad)) (F0 mm 15 ls []))) → (∀ (x2 : Int32) (x3 : Int32) (x4 : Int32) (x5 : Int32) (m : Mem) (H : Heap) (locs : List Loc) (ls : Array Slot), J_X6_readNumbers_82 N (l_X6_readNumbers N n) x2 x3 x4 x5 m = some (v', M') → va_P D vwCl (fl_w L1 ca ad m) H → va_S (fl_A L1 ad) s.heap H locs → lv_has ls 7 [(0, .ref (ad 1)), (2, .int x2), (3, .int x3), (4, .int x4), (5, .int x5)] → W p l e (fl_rm 1) s mm args below meth c H locs 0 0 (MQ below (fl_Q L1 D ca ad (some (.int v')) M') args s 0 0 (fl_A L1 ad)) (F0 mm 82 ls [])) ∧ (∀ (x2 : Int32) (x3 : Int32) (x4 : Int32) (x5 : Int32) (x6 : Int32) (m : Mem) (H : Heap) (locs : List Loc) (ls : Array Slot), J_X6_readNumbers_68 N (l_X6_readNumbers N n) x2 x3 x4 x5 x6 m = some (v', M') → va_P D vwCl (fl_w L1 ca ad m) H → va_S (fl_A L1 ad) s.heap H locs → lv_has ls 7 [(0, .ref (ad 1)), (2, .int x2), (3, .int x3), (4, .int x4), (5, .int x5), (6, .int x6)] → W p l e (fl_rm 1) s mm args below meth c H locs 0 0 (MQ below (fl_Q L1 D ca ad (some (.int v')) M') args s 0 0 (fl_A L1 ad)) (F0 mm 68 ls [])) := by
    intro n ih
    have ih_15 := ih
    have j_82 : ∀ (x2 : Int32) (x3 : Int32) (x4 : Int32) (x5 : Int32) (m : Mem) (H : Heap) (locs : List Loc) (ls : Array Slot), J_X6_readNumbers_82 N (l_X6_readNumbers N n) x2 x3 x4 x5 m = some (v', M') → va_P D vwCl (fl_w L1 ca ad m) H → va_S (fl_A L1 ad) s.heap H locs → lv_has ls 7 [(0, .ref (ad 1)), (2, .int x2), (3, .int x3), (4, .int x4), (5, .int x5)] → W p l e (fl_rm 1) s mm args below meth c H locs 0 0 (MQ below (fl_Q L1 D ca ad (some (.int v')) M') args s 0 0 (fl_A L1 ad)) (F0 mm 82 ls []) := by
      intro x2 x3 x4 x5 m H locs ls h hP hS hl
      unfold J_X6_readNumbers_82 at h
      refine lv_iload_n hx hb dX6_readNumbers_82 rfl (lv_at hl 2 rfl) ?_
      refine lv_if_le (tgt := 123) hx hb dX6_readNumbers_83 (by decide) (fun c16 => ?_) (fun c16 => ?_)
      · replace h := fl_if_t h c16
        refine lv_iconst (v := (0 : Int32)) hx hb dX6_readNumbers_123 (by decide) ?_
        exact fl_zret X hr hlk (by decide) hP hS dX6_readNumbers_124 h
      · replace h := fl_if_f h c16
        refine lv_aload_n hx hb dX6_readNumbers_86 rfl (lv_at hl 0 rfl) ?_
        refine fl_geti X hP fk_X6_36 k1_1 rfl dX6_readNumbers_87 ?_
        refine lv_iconst (v := (5 : Int32)) hx hb dX6_readNumbers_90 (by decide) ?_
        refine lv_icmp_ge (tgt := 123) hx hb dX6_readNumbers_91 (by decide) (fun c17 => ?_) (fun c17 => ?_)
        · replace h := fl_if_t h c17
          refine lv_iconst (v := (0 : Int32)) hx hb dX6_readNumbers_123 (by decide) ?_
          exact fl_zret X hr hlk (by decide) hP hS dX6_readNumbers_124 h
        · replace h := fl_if_f h c17
          refine lv_aload_n hx hb dX6_readNumbers_94 rfl (lv_at hl 0 rfl) ?_
          refine fl_getr X hP fk_X6_15 k1_1 rfl dX6_readNumbers_95 ?_
          refine lv_aload_n hx hb dX6_readNumbers_98 rfl (lv_at hl 0 rfl) ?_
          refine fl_geti X hP fk_X6_36 k1_1 rfl dX6_readNumbers_99 ?_
          refine lv_iload hx hb dX6_readNumbers_102 (lv_at hl 3 rfl) ?_
          obtain ⟨hk18, h⟩ := fl_ck_e h
          obtain ⟨m19, em20, h⟩ := fl_lm_e h
          refine fl_iast X hP hS k1_3 hk18 dX6_readNumbers_104 (fun H locs hP hS => ?_)
          have hP : va_P D vwCl (fl_w L1 ca ad m19) H := by rw [em20]; exact hP
          refine lv_aload_n hx hb dX6_readNumbers_105 rfl (lv_at hl 0 rfl) ?_
          refine lv_dup hx hb dX6_readNumbers_106 rfl ?_
          refine fl_geti X hP fk_X6_36 k1_1 rfl dX6_readNumbers_107 ?_
          refine lv_iconst (v := (1 : Int32)) hx hb dX6_readNumbers_110 (by decide) ?_
          refine lv_iadd hx hb dX6_readNumbers_111 ?_
          obtain ⟨m21, em22, h⟩ := fl_lm_e h
          refine fl_puti X hP hS pk_X6_36 k1_1 rfl rfl rfl dX6_readNumbers_112 (fun H locs hP hS => ?_)
          have hP : va_P D vwCl (fl_w L1 ca ad m21) H := by rw [em22]; exact hP
          refine lv_iconst (v := (0 : Int32)) hx hb dX6_readNumbers_115 (by decide) ?_
          refine lv_istore_n (lv' := [(3, .int (0 : Int32)), (0, .ref (ad 1)), (2, .int x2), (4, .int x4), (5, .int x5)]) hx hb dX6_readNumbers_116 rfl hl (by decide) rfl (fun ls hl => ?_)
          refine lv_iconst (v := (0 : Int32)) hx hb dX6_readNumbers_117 (by decide) ?_
          refine lv_istore (lv' := [(4, .int (0 : Int32)), (3, .int (0 : Int32)), (0, .ref (ad 1)), (2, .int x2), (5, .int x5)]) hx hb dX6_readNumbers_118 hl (by decide) rfl (fun ls hl => ?_)
          refine lv_goto (tgt := 125) hx hb dX6_readNumbers_120 (by decide) ?_
          refine lv_iinc (v := x5 + 1) (lv' := [(5, .int (x5 + 1)), (4, .int (0 : Int32)), (3, .int (0 : Int32)), (0, .ref (ad 1)), (2, .int x2)]) hx hb dX6_readNumbers_125 hl (k := 4) rfl rfl (by decide) rfl (fun ls hl => ?_)
          refine lv_goto (tgt := 15) hx hb dX6_readNumbers_128 (by decide) ?_
          exact ih_15 _ _ _ _ _ _ _ _ h hP hS (lv_sub hl [3, 4, 2, 1, 0] rfl)
    have j_68 : ∀ (x2 : Int32) (x3 : Int32) (x4 : Int32) (x5 : Int32) (x6 : Int32) (m : Mem) (H : Heap) (locs : List Loc) (ls : Array Slot), J_X6_readNumbers_68 N (l_X6_readNumbers N n) x2 x3 x4 x5 x6 m = some (v', M') → va_P D vwCl (fl_w L1 ca ad m) H → va_S (fl_A L1 ad) s.heap H locs → lv_has ls 7 [(0, .ref (ad 1)), (2, .int x2), (3, .int x3), (4, .int x4), (5, .int x5), (6, .int x6)] → W p l e (fl_rm 1) s mm args below meth c H locs 0 0 (MQ below (fl_Q L1 D ca ad (some (.int v')) M') args s 0 0 (fl_A L1 ad)) (F0 mm 68 ls []) := by
      intro x2 x3 x4 x5 x6 m H locs ls h hP hS hl
      unfold J_X6_readNumbers_68 at h
      refine lv_iload hx hb dX6_readNumbers_68 (lv_at hl 5 rfl) ?_
      refine lv_bipush (v := (44 : Int32)) hx hb dX6_readNumbers_70 (by decide) ?_
      refine lv_icmp_eq (tgt := 82) hx hb dX6_readNumbers_72 (by decide) (fun c14 => ?_) (fun c14 => ?_)
      · replace h := fl_if_t h c14
        exact j_82 _ _ _ _ _ _ _ _ h hP hS (lv_sub hl [0, 1, 2, 3, 4] rfl)
      · replace h := fl_if_f h c14
        refine lv_iload hx hb dX6_readNumbers_75 (lv_at hl 5 rfl) ?_
        refine lv_bipush (v := (59 : Int32)) hx hb dX6_readNumbers_77 (by decide) ?_
        refine lv_icmp_ne (tgt := 123) hx hb dX6_readNumbers_79 (by decide) (fun c15 => ?_) (fun c15 => ?_)
        · replace h := fl_if_f h c15
          refine lv_iconst (v := (0 : Int32)) hx hb dX6_readNumbers_123 (by decide) ?_
          exact fl_zret X hr hlk (by decide) hP hS dX6_readNumbers_124 h
        · replace h := fl_if_t h c15
          exact j_82 _ _ _ _ _ _ _ _ h hP hS (lv_sub hl [0, 1, 2, 3, 4] rfl)
    exact ⟨j_82, j_68⟩
  have key : ∀ n : Nat, (∀ (x2 : Int32) (x3 : Int32) (x4 : Int32) (x5 : Int32) (m : Mem) (H : Heap) (locs : List Loc) (ls : Array Slot), l_X6_readNumbers N n x2 x3 x4 x5 m = some (v', M') → va_P D vwCl (fl_w L1 ca ad m) H → va_S (fl_A L1 ad) s.heap H locs → lv_has ls 7 [(0, .ref (ad 1)), (2, .int x2), (3, .int x3), (4, .int x4), (5, .int x5)] → W p l e (fl_rm 1) s mm args below meth c H locs 0 0 (MQ below (fl_Q L1 D ca ad (some (.int v')) M') args s 0 0 (fl_A L1 ad)) (F0 mm 15 ls [])) := by
    intro n
    induction n with
    | zero =>
      skip
      · intro x2 x3 x4 x5 m H locs ls h hP hS hl
        have h : (none : Option (Int32 × Mem)) = some (v', M') := h
        cases h
    | succ n ih =>
      have ih_15 := ih
      obtain ⟨j_82, j_68⟩ := js n ih_15
      skip
      · intro x2 x3 x4 x5 m H locs ls h hP hS hl
        have h : B_X6_readNumbers_15 N (l_X6_readNumbers N n) x2 x3 x4 x5 m = some (v', M') := h
        unfold B_X6_readNumbers_15 at h
        refine lv_iload hx hb dX6_readNumbers_15 (lv_at hl 4 rfl) ?_
        refine lv_iload_n hx hb dX6_readNumbers_17 rfl (lv_at hl 1 rfl) ?_
        refine lv_icmp_gt (tgt := 131) hx hb dX6_readNumbers_18 (by decide) (fun c5 => ?_) (fun c5 => ?_)
        · replace h := fl_if_t h c5
          refine lv_iconst (v := (1 : Int32)) hx hb dX6_readNumbers_131 (by decide) ?_
          exact fl_zret X hr hlk (by decide) hP hS dX6_readNumbers_132 h
        · replace h := fl_if_f h c5
          refine lv_aload_n hx hb dX6_readNumbers_21 rfl (lv_at hl 0 rfl) ?_
          refine fl_getr X hP fk_X6_9 k1_1 rfl dX6_readNumbers_22 ?_
          refine lv_iload hx hb dX6_readNumbers_25 (lv_at hl 4 rfl) ?_
          obtain ⟨hk6, h⟩ := fl_ck_e h
          refine fl_cald X hP k1_2 hk6 dX6_readNumbers_27 ?_
          obtain ⟨z7, ez8, h⟩ := fl_li_e h
          refine fl_topi ez8 ?_
          refine lv_istore (lv' := [(6, .int z7), (0, .ref (ad 1)), (2, .int x2), (3, .int x3), (4, .int x4), (5, .int x5)]) hx hb dX6_readNumbers_28 hl (by decide) rfl (fun ls hl => ?_)
          refine lv_iload hx hb dX6_readNumbers_30 (lv_at hl 0 rfl) ?_
          refine lv_bipush (v := (48 : Int32)) hx hb dX6_readNumbers_32 (by decide) ?_
          refine lv_icmp_lt (tgt := 68) hx hb dX6_readNumbers_34 (by decide) (fun c9 => ?_) (fun c9 => ?_)
          · replace h := fl_if_t h c9
            exact j_68 _ _ _ _ _ _ _ _ _ h hP hS (lv_sub hl [1, 2, 3, 4, 5, 0] rfl)
          · replace h := fl_if_f h c9
            refine lv_iload hx hb dX6_readNumbers_37 (lv_at hl 0 rfl) ?_
            refine lv_bipush (v := (57 : Int32)) hx hb dX6_readNumbers_39 (by decide) ?_
            refine lv_icmp_gt (tgt := 68) hx hb dX6_readNumbers_41 (by decide) (fun c10 => ?_) (fun c10 => ?_)
            · replace h := fl_if_t h c10
              exact j_68 _ _ _ _ _ _ _ _ _ h hP hS (lv_sub hl [1, 2, 3, 4, 5, 0] rfl)
            · replace h := fl_if_f h c10
              refine lv_iload_n hx hb dX6_readNumbers_44 rfl (lv_at hl 3 rfl) ?_
              refine lv_iconst (v := (2 : Int32)) hx hb dX6_readNumbers_45 (by decide) ?_
              refine lv_icmp_ge (tgt := 68) hx hb dX6_readNumbers_46 (by decide) (fun c11 => ?_) (fun c11 => ?_)
              · replace h := fl_if_t h c11
                exact j_68 _ _ _ _ _ _ _ _ _ h hP hS (lv_sub hl [1, 2, 3, 4, 5, 0] rfl)
              · replace h := fl_if_f h c11
                refine lv_iload hx hb dX6_readNumbers_49 (lv_at hl 4 rfl) ?_
                refine lv_bipush (v := (10 : Int32)) hx hb dX6_readNumbers_51 (by decide) ?_
                refine lv_imul hx hb dX6_readNumbers_53 ?_
                refine lv_iload hx hb dX6_readNumbers_54 (lv_at hl 0 rfl) ?_
                refine lv_iadd hx hb dX6_readNumbers_56 ?_
                refine lv_bipush (v := (48 : Int32)) hx hb dX6_readNumbers_57 (by decide) ?_
                refine lv_isub hx hb dX6_readNumbers_59 ?_
                obtain ⟨z12, ez13, h⟩ := fl_li_e h
                refine fl_topi ez13 ?_
                refine lv_istore (lv' := [(4, .int z12), (6, .int z7), (0, .ref (ad 1)), (2, .int x2), (3, .int x3), (5, .int x5)]) hx hb dX6_readNumbers_60 hl (by decide) rfl (fun ls hl => ?_)
                refine lv_iinc (v := x3 + 1) (lv' := [(3, .int (x3 + 1)), (4, .int z12), (6, .int z7), (0, .ref (ad 1)), (2, .int x2), (5, .int x5)]) hx hb dX6_readNumbers_62 hl (k := 4) rfl rfl (by decide) rfl (fun ls hl => ?_)
                refine lv_goto (tgt := 125) hx hb dX6_readNumbers_65 (by decide) ?_
                refine lv_iinc (v := x5 + 1) (lv' := [(5, .int (x5 + 1)), (3, .int (x3 + 1)), (4, .int z12), (6, .int z7), (0, .ref (ad 1)), (2, .int x2)]) hx hb dX6_readNumbers_125 hl (k := 5) rfl rfl (by decide) rfl (fun ls hl => ?_)
                refine lv_goto (tgt := 15) hx hb dX6_readNumbers_128 (by decide) ?_
                exact ih_15 _ _ _ _ _ _ _ _ h hP hS (lv_sub hl [4, 5, 1, 2, 0] rfl)
  have ih_15 := key N
  obtain ⟨j_82, j_68⟩ := js N ih_15
  refine lv_aload_n hx hb dX6_readNumbers_0 rfl (lv_at hl 0 rfl) ?_
  refine lv_iconst (v := (0 : Int32)) hx hb dX6_readNumbers_1 (by decide) ?_
  obtain ⟨m1, em2, h⟩ := fl_lm_e h
  refine fl_puti X hP hS pk_X6_36 k1_1 rfl rfl rfl dX6_readNumbers_2 (fun H locs hP hS => ?_)
  have hP : va_P D vwCl (fl_w L1 ca ad m1) H := by rw [em2]; exact hP
  refine lv_iconst (v := (0 : Int32)) hx hb dX6_readNumbers_5 (by decide) ?_
  refine lv_istore_n (lv' := [(3, .int (0 : Int32)), (0, .ref (ad 1)), (1, .int x1), (2, .int x2)]) hx hb dX6_readNumbers_6 rfl hl (by decide) rfl (fun ls hl => ?_)
  refine lv_iconst (v := (0 : Int32)) hx hb dX6_readNumbers_7 (by decide) ?_
  refine lv_istore (lv' := [(4, .int (0 : Int32)), (3, .int (0 : Int32)), (0, .ref (ad 1)), (1, .int x1), (2, .int x2)]) hx hb dX6_readNumbers_8 hl (by decide) rfl (fun ls hl => ?_)
  refine lv_iload_n hx hb dX6_readNumbers_10 rfl (lv_at hl 3 rfl) ?_
  refine lv_iconst (v := (1 : Int32)) hx hb dX6_readNumbers_11 (by decide) ?_
  refine lv_iadd hx hb dX6_readNumbers_12 ?_
  obtain ⟨z3, ez4, h⟩ := fl_li_e h
  refine fl_topi ez4 ?_
  refine lv_istore (lv' := [(5, .int z3), (4, .int (0 : Int32)), (3, .int (0 : Int32)), (0, .ref (ad 1)), (1, .int x1), (2, .int x2)]) hx hb dX6_readNumbers_13 hl (by decide) rfl (fun ls hl => ?_)
  exact ih_15 _ _ _ _ _ _ _ _ h hP hS (lv_sub hl [3, 5, 2, 1, 0] rfl)

def f_X6_tell (K1 : Nat) (x2 : Int32) (m : Mem) : Option (Int32 × Mem) :=
  if x2 = (103 : Int32) then (
    if (m.1 1 3) = (2 : Int32) then (
      fl_bd (f_X0_build K1 (m.1 3 0) (m.1 3 1) m) (fun r15 m16 =>
        if r15 = 0 then (
          some ((0 : Int32), m16))
        else (
          some ((1 : Int32), m16))))
    else (
      some ((0 : Int32), m)))
  else (
    if x2 = (99 : Int32) then (
      if (m.1 1 3) = (3 : Int32) then (
        fl_bd (f_X0_addCab K1 (m.1 3 0) (m.1 3 1) (m.1 3 2) m) (fun r10 m11 =>
          if r10 = 0 then (
            some ((0 : Int32), m11))
          else (
            some ((1 : Int32), m11))))
      else (
        some ((0 : Int32), m)))
    else (
      if x2 = (102 : Int32) then (
        if (m.1 1 3) = (5 : Int32) then (
          fl_bd (f_X0_addFare K1 m) (fun r5 m6 =>
            if r5 = 0 then (
              some ((0 : Int32), m6))
            else (
              some ((1 : Int32), m6))))
        else (
          some ((0 : Int32), m)))
      else (
        some ((0 : Int32), m))))
set_option maxHeartbeats 4000000 in
set_option maxRecDepth 100000 in
theorem c_X6_tell (l : Launch) (D : va_G) (ca : Nat → ClassId) (ad : Nat → Nat) (hi : fl_inj L1 ad) (K1 : Nat) (hK1 : isCity K1) (x2 : Int32) (m : Mem) (v' : Int32) (M' : Mem) (h : f_X6_tell K1 x2 m = some (v', M')) : fl_M l L1 D ca ad yX6_tell cX6_tell 3 (some .boolean) 4 [.ref (ad 1), .ref (ad K1), .int x2] m (some (.int v')) M' := by
  unfold f_X6_tell at h
  refine fl_ofW (by decide) hi (Nat.le_of_ble_eq_true rfl) ?_
  intro p e s mm args below meth c ls X hr hlk hP hl
  have hl : lv_has ls 3 [(0, .ref (ad 1)), (1, .ref (ad K1)), (2, .int x2)] := hl
  have X : fl_X p s mm args c cX6_tell 3 RX6 L1 D ca ad := X
  obtain ⟨hx, hb, hml, hown, hts, hE, -⟩ := id X
  have hS : va_S (fl_A L1 ad) s.heap s.heap [] := va_S.rf
  refine lv_iload_n hx hb dX6_tell_0 rfl (lv_at hl 2 rfl) ?_
  refine lv_bipush (v := (103 : Int32)) hx hb dX6_tell_1 (by decide) ?_
  refine lv_icmp_ne (tgt := 39) hx hb dX6_tell_3 (by decide) (fun c1 => ?_) (fun c1 => ?_)
  · replace h := fl_if_f h c1
    refine lv_iload_n hx hb dX6_tell_39 rfl (lv_at hl 2 rfl) ?_
    refine lv_bipush (v := (99 : Int32)) hx hb dX6_tell_40 (by decide) ?_
    refine lv_icmp_ne (tgt := 84) hx hb dX6_tell_42 (by decide) (fun c2 => ?_) (fun c2 => ?_)
    · replace h := fl_if_f h c2
      refine lv_iload_n hx hb dX6_tell_84 rfl (lv_at hl 2 rfl) ?_
      refine lv_bipush (v := (102 : Int32)) hx hb dX6_tell_85 (by decide) ?_
      refine lv_icmp_ne (tgt := 113) hx hb dX6_tell_87 (by decide) (fun c3 => ?_) (fun c3 => ?_)
      · replace h := fl_if_f h c3
        refine lv_iconst (v := (0 : Int32)) hx hb dX6_tell_113 (by decide) ?_
        exact fl_zret X hr hlk (by decide) hP hS dX6_tell_114 h
      · replace h := fl_if_t h c3
        refine lv_aload_n hx hb dX6_tell_90 rfl (lv_at hl 0 rfl) ?_
        refine fl_geti X hP fk_X6_36 k1_1 rfl dX6_tell_91 ?_
        refine lv_iconst (v := (5 : Int32)) hx hb dX6_tell_94 (by decide) ?_
        refine lv_icmp_ne (tgt := 113) hx hb dX6_tell_95 (by decide) (fun c4 => ?_) (fun c4 => ?_)
        · replace h := fl_if_f h c4
          refine lv_iconst (v := (0 : Int32)) hx hb dX6_tell_113 (by decide) ?_
          exact fl_zret X hr hlk (by decide) hP hS dX6_tell_114 h
        · replace h := fl_if_t h c4
          refine lv_aload_n hx hb dX6_tell_98 rfl (lv_at hl 1 rfl) ?_
          refine lv_aload_n hx hb dX6_tell_99 rfl (lv_at hl 0 rfl) ?_
          refine fl_getr X hP fk_X6_15 k1_1 rfl dX6_tell_100 ?_
          obtain ⟨r5, m6, hz7, h⟩ := fl_bd_e h
          refine fl_callV (av := [.ref (ad 3)]) X hP hS hl.1 mv_X6_46 (c_X0_addFare l D ca ad hi K1 hK1 m _ _ hz7) hK1.1 (fl_fit_rm (by omega) (by decide)) rfl (Nat.le_of_ble_eq_true rfl) dX6_tell_103 rfl (fun H locs hP hS => ?_)
          refine W.eq (g2 := F0 mm 106 ls [.int r5]) rfl ?_
          refine lv_if_eq (tgt := 113) hx hb dX6_tell_106 (by decide) (fun c8 => ?_) (fun c8 => ?_)
          · replace h := fl_if_t h c8
            refine lv_iconst (v := (0 : Int32)) hx hb dX6_tell_113 (by decide) ?_
            exact fl_zret X hr hlk (by decide) hP hS dX6_tell_114 h
          · replace h := fl_if_f h c8
            refine lv_iconst (v := (1 : Int32)) hx hb dX6_tell_109 (by decide) ?_
            refine lv_goto (tgt := 114) hx hb dX6_tell_110 (by decide) ?_
            exact fl_zret X hr hlk (by decide) hP hS dX6_tell_114 h
    · replace h := fl_if_t h c2
      refine lv_aload_n hx hb dX6_tell_45 rfl (lv_at hl 0 rfl) ?_
      refine fl_geti X hP fk_X6_36 k1_1 rfl dX6_tell_46 ?_
      refine lv_iconst (v := (3 : Int32)) hx hb dX6_tell_49 (by decide) ?_
      refine lv_icmp_ne (tgt := 82) hx hb dX6_tell_50 (by decide) (fun c9 => ?_) (fun c9 => ?_)
      · replace h := fl_if_f h c9
        refine lv_iconst (v := (0 : Int32)) hx hb dX6_tell_82 (by decide) ?_
        exact fl_zret X hr hlk (by decide) hP hS dX6_tell_83 h
      · replace h := fl_if_t h c9
        refine lv_aload_n hx hb dX6_tell_53 rfl (lv_at hl 1 rfl) ?_
        refine lv_aload_n hx hb dX6_tell_54 rfl (lv_at hl 0 rfl) ?_
        refine fl_getr X hP fk_X6_15 k1_1 rfl dX6_tell_55 ?_
        refine lv_iconst (v := (0 : Int32)) hx hb dX6_tell_58 (by decide) ?_
        refine fl_iald X hP k1_3 (by decide) dX6_tell_59 ?_
        refine lv_aload_n hx hb dX6_tell_60 rfl (lv_at hl 0 rfl) ?_
        refine fl_getr X hP fk_X6_15 k1_1 rfl dX6_tell_61 ?_
        refine lv_iconst (v := (1 : Int32)) hx hb dX6_tell_64 (by decide) ?_
        refine fl_iald X hP k1_3 (by decide) dX6_tell_65 ?_
        refine lv_aload_n hx hb dX6_tell_66 rfl (lv_at hl 0 rfl) ?_
        refine fl_getr X hP fk_X6_15 k1_1 rfl dX6_tell_67 ?_
        refine lv_iconst (v := (2 : Int32)) hx hb dX6_tell_70 (by decide) ?_
        refine fl_iald X hP k1_3 (by decide) dX6_tell_71 ?_
        obtain ⟨r10, m11, hz12, h⟩ := fl_bd_e h
        refine fl_callV (av := [.int (m.1 3 0), .int (m.1 3 1), .int (m.1 3 2)]) X hP hS hl.1 mv_X6_42 (c_X0_addCab l D ca ad hi K1 hK1 (m.1 3 0) (m.1 3 1) (m.1 3 2) m _ _ hz12) hK1.1 (fl_fit_rm (by omega) (by decide)) rfl (Nat.le_of_ble_eq_true rfl) dX6_tell_72 rfl (fun H locs hP hS => ?_)
        refine W.eq (g2 := F0 mm 75 ls [.int r10]) rfl ?_
        refine lv_if_eq (tgt := 82) hx hb dX6_tell_75 (by decide) (fun c13 => ?_) (fun c13 => ?_)
        · replace h := fl_if_t h c13
          refine lv_iconst (v := (0 : Int32)) hx hb dX6_tell_82 (by decide) ?_
          exact fl_zret X hr hlk (by decide) hP hS dX6_tell_83 h
        · replace h := fl_if_f h c13
          refine lv_iconst (v := (1 : Int32)) hx hb dX6_tell_78 (by decide) ?_
          refine lv_goto (tgt := 83) hx hb dX6_tell_79 (by decide) ?_
          exact fl_zret X hr hlk (by decide) hP hS dX6_tell_83 h
  · replace h := fl_if_t h c1
    refine lv_aload_n hx hb dX6_tell_6 rfl (lv_at hl 0 rfl) ?_
    refine fl_geti X hP fk_X6_36 k1_1 rfl dX6_tell_7 ?_
    refine lv_iconst (v := (2 : Int32)) hx hb dX6_tell_10 (by decide) ?_
    refine lv_icmp_ne (tgt := 37) hx hb dX6_tell_11 (by decide) (fun c14 => ?_) (fun c14 => ?_)
    · replace h := fl_if_f h c14
      refine lv_iconst (v := (0 : Int32)) hx hb dX6_tell_37 (by decide) ?_
      exact fl_zret X hr hlk (by decide) hP hS dX6_tell_38 h
    · replace h := fl_if_t h c14
      refine lv_aload_n hx hb dX6_tell_14 rfl (lv_at hl 1 rfl) ?_
      refine lv_aload_n hx hb dX6_tell_15 rfl (lv_at hl 0 rfl) ?_
      refine fl_getr X hP fk_X6_15 k1_1 rfl dX6_tell_16 ?_
      refine lv_iconst (v := (0 : Int32)) hx hb dX6_tell_19 (by decide) ?_
      refine fl_iald X hP k1_3 (by decide) dX6_tell_20 ?_
      refine lv_aload_n hx hb dX6_tell_21 rfl (lv_at hl 0 rfl) ?_
      refine fl_getr X hP fk_X6_15 k1_1 rfl dX6_tell_22 ?_
      refine lv_iconst (v := (1 : Int32)) hx hb dX6_tell_25 (by decide) ?_
      refine fl_iald X hP k1_3 (by decide) dX6_tell_26 ?_
      obtain ⟨r15, m16, hz17, h⟩ := fl_bd_e h
      refine fl_callV (av := [.int (m.1 3 0), .int (m.1 3 1)]) X hP hS hl.1 mv_X6_39 (c_X0_build l D ca ad hi K1 hK1 (m.1 3 0) (m.1 3 1) m _ _ hz17) hK1.1 (fl_fit_rm (by omega) (by decide)) rfl (Nat.le_of_ble_eq_true rfl) dX6_tell_27 rfl (fun H locs hP hS => ?_)
      refine W.eq (g2 := F0 mm 30 ls [.int r15]) rfl ?_
      refine lv_if_eq (tgt := 37) hx hb dX6_tell_30 (by decide) (fun c18 => ?_) (fun c18 => ?_)
      · replace h := fl_if_t h c18
        refine lv_iconst (v := (0 : Int32)) hx hb dX6_tell_37 (by decide) ?_
        exact fl_zret X hr hlk (by decide) hP hS dX6_tell_38 h
      · replace h := fl_if_f h c18
        refine lv_iconst (v := (1 : Int32)) hx hb dX6_tell_33 (by decide) ?_
        refine lv_goto (tgt := 38) hx hb dX6_tell_34 (by decide) ?_
        exact fl_zret X hr hlk (by decide) hP hS dX6_tell_38 h

def B_X6_readInto_8 (N : Nat) (K1 : Nat) (F : Int32 → Int32 → Mem → Option (Int32 × Mem)) (x2 : Int32) (x3 : Int32) (m : Mem) : Option (Int32 × Mem) :=
  if (m.1 1 1) ≤ x3 then (
    if (m.1 1 1) ≤ x2 then (
      some ((-4 : Int32), m))
    else (
      some (x2, m)))
  else (
    fl_ck (0 ≤ x3.toInt ∧ x3.toInt < 200) (
      if (m.1 2 (x3.toNatClampNeg)) = (59 : Int32) then (
        fl_bd (f_X6_readNumbers N x2 x3 m) (fun r8 m9 =>
          if r8 = 0 then (
            some (x2, m9))
          else (
            fl_ck (0 ≤ x2.toInt ∧ x2.toInt < 200) (
              fl_bd (f_X6_tell K1 (m9.1 2 (x2.toNatClampNeg)) m9) (fun r13 m14 =>
                if r13 = 0 then (
                  some (x2, m14))
                else (
                  fl_li (x3 + (1 : Int32)) (fun z17 =>
                    F z17 (x3 + 1) m14)))))))
      else (
        F x2 (x3 + 1) m)))
def l_X6_readInto (N : Nat) (K1 : Nat) : Nat → Int32 → Int32 → Mem → Option (Int32 × Mem)
  | 0 => fun _ _ _ => none
  | n + 1 => fun x2 x3 m => B_X6_readInto_8 N K1 (l_X6_readInto N K1 n) x2 x3 m
def f_X6_readInto (N : Nat) (K1 : Nat) (m : Mem) : Option (Int32 × Mem) :=
  fl_bd (f_X0_clear K1 m) (fun r1 m2 =>
    (l_X6_readInto N K1 N) (0 : Int32) (0 : Int32) m2)
set_option maxHeartbeats 4000000 in
set_option maxRecDepth 100000 in
theorem c_X6_readInto (l : Launch) (D : va_G) (ca : Nat → ClassId) (ad : Nat → Nat) (hi : fl_inj L1 ad) (N : Nat) (K1 : Nat) (hK1 : isCity K1) (m : Mem) (v' : Int32) (M' : Mem) (h : f_X6_readInto N K1 m = some (v', M')) : fl_M l L1 D ca ad yX6_readInto cX6_readInto 4 (some .int) 5 [.ref (ad 1), .ref (ad K1)] m (some (.int v')) M' := by
  unfold f_X6_readInto at h
  refine fl_ofW (by decide) hi (Nat.le_of_ble_eq_true rfl) ?_
  intro p e s mm args below meth c ls X hr hlk hP hl
  have hl : lv_has ls 4 [(0, .ref (ad 1)), (1, .ref (ad K1))] := hl
  have X : fl_X p s mm args c cX6_readInto 4 RX6 L1 D ca ad := X
  obtain ⟨hx, hb, hml, hown, hts, hE, -⟩ := id X
  have hS : va_S (fl_A L1 ad) s.heap s.heap [] := va_S.rf
  have key : ∀ n : Nat, (∀ (x2 : Int32) (x3 : Int32) (m : Mem) (H : Heap) (locs : List Loc) (ls : Array Slot), l_X6_readInto N K1 n x2 x3 m = some (v', M') → va_P D vwCl (fl_w L1 ca ad m) H → va_S (fl_A L1 ad) s.heap H locs → lv_has ls 4 [(0, .ref (ad 1)), (1, .ref (ad K1)), (2, .int x2), (3, .int x3)] → W p l e (fl_rm 5) s mm args below meth c H locs 0 0 (MQ below (fl_Q L1 D ca ad (some (.int v')) M') args s 0 0 (fl_A L1 ad)) (F0 mm 8 ls [])) := by
    intro n
    induction n with
    | zero =>
      skip
      · intro x2 x3 m H locs ls h hP hS hl
        have h : (none : Option (Int32 × Mem)) = some (v', M') := h
        cases h
    | succ n ih =>
      have ih_8 := ih
      skip
      · intro x2 x3 m H locs ls h hP hS hl
        have h : B_X6_readInto_8 N K1 (l_X6_readInto N K1 n) x2 x3 m = some (v', M') := h
        unfold B_X6_readInto_8 at h
        refine lv_iload_n hx hb dX6_readInto_8 rfl (lv_at hl 3 rfl) ?_
        refine lv_aload_n hx hb dX6_readInto_9 rfl (lv_at hl 0 rfl) ?_
        refine fl_geti X hP fk_X6_19 k1_1 rfl dX6_readInto_10 ?_
        refine lv_icmp_ge (tgt := 62) hx hb dX6_readInto_13 (by decide) (fun c4 => ?_) (fun c4 => ?_)
        · replace h := fl_if_t h c4
          refine lv_iload_n hx hb dX6_readInto_62 rfl (lv_at hl 2 rfl) ?_
          refine lv_aload_n hx hb dX6_readInto_63 rfl (lv_at hl 0 rfl) ?_
          refine fl_geti X hP fk_X6_19 k1_1 rfl dX6_readInto_64 ?_
          refine lv_icmp_ge (tgt := 74) hx hb dX6_readInto_67 (by decide) (fun c5 => ?_) (fun c5 => ?_)
          · replace h := fl_if_t h c5
            refine lv_bipush (v := (-4 : Int32)) hx hb dX6_readInto_74 (by decide) ?_
            exact fl_iret X hr hlk hP hS dX6_readInto_76 h
          · replace h := fl_if_f h c5
            refine lv_iload_n hx hb dX6_readInto_70 rfl (lv_at hl 2 rfl) ?_
            refine lv_goto (tgt := 76) hx hb dX6_readInto_71 (by decide) ?_
            exact fl_iret X hr hlk hP hS dX6_readInto_76 h
        · replace h := fl_if_f h c4
          refine lv_aload_n hx hb dX6_readInto_16 rfl (lv_at hl 0 rfl) ?_
          refine fl_getr X hP fk_X6_9 k1_1 rfl dX6_readInto_17 ?_
          refine lv_iload_n hx hb dX6_readInto_20 rfl (lv_at hl 3 rfl) ?_
          obtain ⟨hk6, h⟩ := fl_ck_e h
          refine fl_cald X hP k1_2 hk6 dX6_readInto_21 ?_
          refine lv_bipush (v := (59 : Int32)) hx hb dX6_readInto_22 (by decide) ?_
          refine lv_icmp_ne (tgt := 56) hx hb dX6_readInto_24 (by decide) (fun c7 => ?_) (fun c7 => ?_)
          · replace h := fl_if_f h c7
            refine lv_iinc (v := x3 + 1) (lv' := [(3, .int (x3 + 1)), (0, .ref (ad 1)), (1, .ref (ad K1)), (2, .int x2)]) hx hb dX6_readInto_56 hl (k := 3) rfl rfl (by decide) rfl (fun ls hl => ?_)
            refine lv_goto (tgt := 8) hx hb dX6_readInto_59 (by decide) ?_
            exact ih_8 _ _ _ _ _ _ h hP hS (lv_sub hl [1, 2, 3, 0] rfl)
          · replace h := fl_if_t h c7
            refine lv_aload_n hx hb dX6_readInto_27 rfl (lv_at hl 0 rfl) ?_
            refine lv_iload_n hx hb dX6_readInto_28 rfl (lv_at hl 2 rfl) ?_
            refine lv_iload_n hx hb dX6_readInto_29 rfl (lv_at hl 3 rfl) ?_
            obtain ⟨r8, m9, hz10, h⟩ := fl_bd_e h
            refine fl_callV (av := [.int x2, .int x3]) X hP hS hl.1 mv_X6_28 (c_X6_readNumbers l D ca ad hi N x2 x3 m _ _ hz10) k1_1 (fl_fit_rm (by omega) (by decide)) rfl (Nat.le_of_ble_eq_true rfl) dX6_readInto_30 rfl (fun H locs hP hS => ?_)
            refine W.eq (g2 := F0 mm 33 ls [.int r8]) rfl ?_
            refine lv_if_eq (tgt := 50) hx hb dX6_readInto_33 (by decide) (fun c11 => ?_) (fun c11 => ?_)
            · replace h := fl_if_t h c11
              refine lv_iload_n hx hb dX6_readInto_50 rfl (lv_at hl 2 rfl) ?_
              exact fl_iret X hr hlk hP hS dX6_readInto_51 h
            · replace h := fl_if_f h c11
              refine lv_aload_n hx hb dX6_readInto_36 rfl (lv_at hl 0 rfl) ?_
              refine lv_aload_n hx hb dX6_readInto_37 rfl (lv_at hl 1 rfl) ?_
              refine lv_aload_n hx hb dX6_readInto_38 rfl (lv_at hl 0 rfl) ?_
              refine fl_getr X hP fk_X6_9 k1_1 rfl dX6_readInto_39 ?_
              refine lv_iload_n hx hb dX6_readInto_42 rfl (lv_at hl 2 rfl) ?_
              obtain ⟨hk12, h⟩ := fl_ck_e h
              refine fl_cald X hP k1_2 hk12 dX6_readInto_43 ?_
              obtain ⟨r13, m14, hz15, h⟩ := fl_bd_e h
              refine fl_callV (av := [.ref (ad K1), .int (m9.1 2 (x2.toNatClampNeg))]) X hP hS hl.1 mv_X6_32 (c_X6_tell l D ca ad hi K1 hK1 (m9.1 2 (x2.toNatClampNeg)) m9 _ _ hz15) k1_1 (fl_fit_rm (by omega) (by decide)) rfl (Nat.le_of_ble_eq_true rfl) dX6_readInto_44 rfl (fun H locs hP hS => ?_)
              refine W.eq (g2 := F0 mm 47 ls [.int r13]) rfl ?_
              refine lv_if_ne (tgt := 52) hx hb dX6_readInto_47 (by decide) (fun c16 => ?_) (fun c16 => ?_)
              · replace h := fl_if_f h c16
                refine lv_iload_n hx hb dX6_readInto_52 rfl (lv_at hl 3 rfl) ?_
                refine lv_iconst (v := (1 : Int32)) hx hb dX6_readInto_53 (by decide) ?_
                refine lv_iadd hx hb dX6_readInto_54 ?_
                obtain ⟨z17, ez18, h⟩ := fl_li_e h
                refine fl_topi ez18 ?_
                refine lv_istore_n (lv' := [(2, .int z17), (0, .ref (ad 1)), (1, .ref (ad K1)), (3, .int x3)]) hx hb dX6_readInto_55 rfl hl (by decide) rfl (fun ls hl => ?_)
                refine lv_iinc (v := x3 + 1) (lv' := [(3, .int (x3 + 1)), (2, .int z17), (0, .ref (ad 1)), (1, .ref (ad K1))]) hx hb dX6_readInto_56 hl (k := 3) rfl rfl (by decide) rfl (fun ls hl => ?_)
                refine lv_goto (tgt := 8) hx hb dX6_readInto_59 (by decide) ?_
                exact ih_8 _ _ _ _ _ _ h hP hS (lv_sub hl [2, 3, 1, 0] rfl)
              · replace h := fl_if_t h c16
                refine lv_iload_n hx hb dX6_readInto_50 rfl (lv_at hl 2 rfl) ?_
                exact fl_iret X hr hlk hP hS dX6_readInto_51 h
  have ih_8 := key N
  refine lv_aload_n hx hb dX6_readInto_0 rfl (lv_at hl 1 rfl) ?_
  obtain ⟨r1, m2, hz3, h⟩ := fl_bd_e h
  refine fl_callV (av := []) X hP hS hl.1 mv_X6_23 (c_X0_clear l D ca ad hi K1 hK1 m _ _ hz3) hK1.1 (fl_fit_rm (by omega) (by decide)) rfl (Nat.le_of_ble_eq_true rfl) dX6_readInto_1 rfl (fun H locs hP hS => ?_)
  refine W.eq (g2 := F0 mm 4 ls []) rfl ?_
  refine lv_iconst (v := (0 : Int32)) hx hb dX6_readInto_4 (by decide) ?_
  refine lv_istore_n (lv' := [(2, .int (0 : Int32)), (0, .ref (ad 1)), (1, .ref (ad K1))]) hx hb dX6_readInto_5 rfl hl (by decide) rfl (fun ls hl => ?_)
  refine lv_iconst (v := (0 : Int32)) hx hb dX6_readInto_6 (by decide) ?_
  refine lv_istore_n (lv' := [(3, .int (0 : Int32)), (2, .int (0 : Int32)), (0, .ref (ad 1)), (1, .ref (ad K1))]) hx hb dX6_readInto_7 rfl hl (by decide) rfl (fun ls hl => ?_)
  exact ih_8 _ _ _ _ _ _ h hP hS (lv_sub hl [2, 3, 1, 0] rfl)
