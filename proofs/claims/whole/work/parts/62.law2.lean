/-! ===== the law's loop: its switch, and round ===== -/
theorem and31 (x : Int32) : ∃ j, j < 32 ∧ x &&& 31 = nI j := by
  refine ⟨(x &&& 31).toBitVec.toNat, ?_, ?_⟩
  · rw [Int32.toBitVec_and, BitVec.toNat_and]
    exact Nat.lt_of_le_of_lt Nat.and_le_right (by decide)
  · apply Int32.toBitVec_inj.mp
    show (x &&& 31).toBitVec = BitVec.ofNat 32 (x &&& 31).toBitVec.toNat
    rw [BitVec.ofNat_toNat, BitVec.setWidth_eq]

theorem law_sw {p : Program} {l : Launch} {e : Env} {R : Room} {s : State} {m : MethodId} {args : Array Value} {below : List Frame} {meth : Method} {c : Code} {D : va_G} {ca : Nat → ClassId} {ad1 ad2 : Nat → Nat} {b L : Nat} {xs : Nat → Int32} {cells slots : Nat} {Q : State → Prop} {N : Nat} (hN : 1000000000 ≤ N) (K : lwK p s m args c D ca ad1 ad2 b L xs) (hR : 40 ≤ R.frames ∧ 3000 ≤ R.locals ∧ cells ≤ R.cells ∧ slots ≤ R.slots) (hL : L ≤ 320) {i t : Nat} {H : Heap} {locs : List Loc} {ls : Array Slot} (hi : i ≤ 64) (hl : lv_has ls 4 [(3, .int (nI t)), (0, .ref b), (1, .ref (ad1 0)), (2, .ref (ad2 0))]) (ht : t + 5 ≤ L) (h : lwI D ca ad1 ad2 s i H locs)
    (kk : ∀ (H1 : Heap) (locs1 : List Loc), lwI D ca ad1 ad2 s (i + 1) H1 locs1 → W p l e R s m args below meth c H1 locs1 cells slots Q (F0 m 887 ls [])) : ∀ j, j < 32 → W p l e R s m args below meth c H locs cells slots Q (F0 m 32 ls [.int (nI j)])
  | 0, _ => lv_tableIn (off := 124) (tgt := 156) K.1.1 K.1.2.1 dL_law_32 (by decide) (by decide) (by decide) (by decide) (arm_0 hN hi K hR hl ht hL h kk)
  | 1, _ => lv_tableIn (off := 147) (tgt := 179) K.1.1 K.1.2.1 dL_law_32 (by decide) (by decide) (by decide) (by decide) (arm_1 hN hi K hR hl ht hL h kk)
  | 2, _ => lv_tableIn (off := 160) (tgt := 192) K.1.1 K.1.2.1 dL_law_32 (by decide) (by decide) (by decide) (by decide) (arm_2 hN hi K hR hl ht hL h kk)
  | 3, _ => lv_tableIn (off := 173) (tgt := 205) K.1.1 K.1.2.1 dL_law_32 (by decide) (by decide) (by decide) (by decide) (arm_3 hN hi K hR hl ht hL h kk)
  | 4, _ => lv_tableIn (off := 186) (tgt := 218) K.1.1 K.1.2.1 dL_law_32 (by decide) (by decide) (by decide) (by decide) (arm_4 hN hi K hR hl ht hL h kk)
  | 5, _ => lv_tableIn (off := 219) (tgt := 251) K.1.1 K.1.2.1 dL_law_32 (by decide) (by decide) (by decide) (by decide) (arm_5 hN hi K hR hl ht hL h kk)
  | 6, _ => lv_tableIn (off := 252) (tgt := 284) K.1.1 K.1.2.1 dL_law_32 (by decide) (by decide) (by decide) (by decide) (arm_6 hN hi K hR hl ht hL h kk)
  | 7, _ => lv_tableIn (off := 285) (tgt := 317) K.1.1 K.1.2.1 dL_law_32 (by decide) (by decide) (by decide) (by decide) (arm_7 hN hi K hR hl ht hL h kk)
  | 8, _ => lv_tableIn (off := 318) (tgt := 350) K.1.1 K.1.2.1 dL_law_32 (by decide) (by decide) (by decide) (by decide) (arm_8 hN hi K hR hl ht hL h kk)
  | 9, _ => lv_tableIn (off := 351) (tgt := 383) K.1.1 K.1.2.1 dL_law_32 (by decide) (by decide) (by decide) (by decide) (arm_9 hN hi K hR hl ht hL h kk)
  | 10, _ => lv_tableIn (off := 374) (tgt := 406) K.1.1 K.1.2.1 dL_law_32 (by decide) (by decide) (by decide) (by decide) (arm_10 hN hi K hR hl ht hL h kk)
  | 11, _ => lv_tableIn (off := 387) (tgt := 419) K.1.1 K.1.2.1 dL_law_32 (by decide) (by decide) (by decide) (by decide) (arm_11 hN hi K hR hl ht hL h kk)
  | 12, _ => lv_tableIn (off := 430) (tgt := 462) K.1.1 K.1.2.1 dL_law_32 (by decide) (by decide) (by decide) (by decide) (arm_12 hN hi K hR hl ht hL h kk)
  | 13, _ => lv_tableIn (off := 453) (tgt := 485) K.1.1 K.1.2.1 dL_law_32 (by decide) (by decide) (by decide) (by decide) (arm_13 hN hi K hR hl ht hL h kk)
  | 14, _ => lv_tableIn (off := 476) (tgt := 508) K.1.1 K.1.2.1 dL_law_32 (by decide) (by decide) (by decide) (by decide) (arm_14 hN hi K hR hl ht hL h kk)
  | 15, _ => lv_tableIn (off := 509) (tgt := 541) K.1.1 K.1.2.1 dL_law_32 (by decide) (by decide) (by decide) (by decide) (arm_15 hN hi K hR hl ht hL h kk)
  | 16, _ => lv_tableIn (off := 532) (tgt := 564) K.1.1 K.1.2.1 dL_law_32 (by decide) (by decide) (by decide) (by decide) (arm_16 hN hi K hR hl ht hL h kk)
  | 17, _ => lv_tableIn (off := 555) (tgt := 587) K.1.1 K.1.2.1 dL_law_32 (by decide) (by decide) (by decide) (by decide) (arm_17 hN hi K hR hl ht hL h kk)
  | 18, _ => lv_tableIn (off := 608) (tgt := 640) K.1.1 K.1.2.1 dL_law_32 (by decide) (by decide) (by decide) (by decide) (arm_18 hN hi K hR hl ht hL h kk)
  | 19, _ => lv_tableIn (off := 651) (tgt := 683) K.1.1 K.1.2.1 dL_law_32 (by decide) (by decide) (by decide) (by decide) (arm_19 hN hi K hR hl ht hL h kk)
  | 20, _ => lv_tableIn (off := 664) (tgt := 696) K.1.1 K.1.2.1 dL_law_32 (by decide) (by decide) (by decide) (by decide) (arm_20 hN hi K hR hl ht hL h kk)
  | 21, _ => lv_tableIn (off := 697) (tgt := 729) K.1.1 K.1.2.1 dL_law_32 (by decide) (by decide) (by decide) (by decide) (arm_21 hN hi K hR hl ht hL h kk)
  | 22, _ => lv_tableIn (off := 720) (tgt := 752) K.1.1 K.1.2.1 dL_law_32 (by decide) (by decide) (by decide) (by decide) (arm_22 hN hi K hR hl ht hL h kk)
  | 23, _ => lv_tableIn (off := 763) (tgt := 795) K.1.1 K.1.2.1 dL_law_32 (by decide) (by decide) (by decide) (by decide) (arm_23 hN hi K hR hl ht hL h kk)
  | 24, _ => lv_tableIn (off := 806) (tgt := 838) K.1.1 K.1.2.1 dL_law_32 (by decide) (by decide) (by decide) (by decide) (arm_24 hN hi K hR hl ht hL h kk)
  | 25, _ => lv_tableIn (off := 819) (tgt := 851) K.1.1 K.1.2.1 dL_law_32 (by decide) (by decide) (by decide) (by decide) (arm_25 hN hi K hR hl ht hL h kk)
  | 26, _ => lv_tableIn (off := 832) (tgt := 864) K.1.1 K.1.2.1 dL_law_32 (by decide) (by decide) (by decide) (by decide) (arm_26 hN hi K hR hl ht hL h kk)
  | j + 27, hj => by
    obtain ⟨mx, mm, hP1, hP2, hRl, hS⟩ := h
    refine lv_tableOut (tgt := 887) K.1.1 K.1.2.1 dL_law_32 (Or.inr ?_) (by decide) (kk H locs ⟨mx, mm, hP1, hP2, hRl.same, hS⟩)
    rw [nI_toInt (by omega)]
    omega
theorem law_loop {p : Program} {l : Launch} {e : Env} {R : Room} {s : State} {m : MethodId} {args : Array Value} {below : List Frame} {meth : Method} {c : Code} {D : va_G} {ca : Nat → ClassId} {ad1 ad2 : Nat → Nat} {b L : Nat} {xs : Nat → Int32} {cells slots : Nat} {Q : State → Prop} {N : Nat} (hN : 1000000000 ≤ N) (K : lwK p s m args c D ca ad1 ad2 b L xs) (hR : 40 ≤ R.frames ∧ 3000 ≤ R.locals ∧ cells ≤ R.cells ∧ slots ≤ R.slots) (hL : L ≤ 320)
    (kk : ∀ (H1 : Heap) (locs1 : List Loc) (ls1 : Array Slot), lwS s H1 locs1 → W p l e R s m args below meth c H1 locs1 cells slots Q (F0 m 893 ls1 [])) : ∀ (k i t : Nat) (H : Heap) (locs : List Loc) (ls : Array Slot), i + k = 65 → t = 5 * i → lv_has ls 4 [(3, .int (nI t)), (0, .ref b), (1, .ref (ad1 0)), (2, .ref (ad2 0))] → lwI D ca ad1 ad2 s i H locs → W p l e R s m args below meth c H locs cells slots Q (F0 m 18 ls []) := by
  obtain ⟨X1, X2, f1, f2, ap, hX, hbl⟩ := id K
  have hx := X1.1
  have hb := X1.2.1
  intro k
  induction k with
  | zero =>
    intro i t H locs ls hi ht hl h
    obtain ⟨mx, mm, hP1, hP2, hRl, hS⟩ := h
    refine lv_iload_n hx hb dL_law_18 rfl (lv_at hl 0 rfl) ?_
    refine lv_aload_n hx hb dL_law_19 rfl (lv_at hl 1 rfl) ?_
    refine va_slen hx hb hX hbl (fun z => by omega) hS dL_law_20 ?_
    refine lv_iconst (v := nI 5) hx hb dL_law_21 (by decide) ?_
    refine lv_isub hx hb dL_law_22 ?_
    refine lv_icmp_gt (tgt := 893) hx hb dL_law_23 (by decide) (fun _ => kk H locs ls hS) (fun z => ?_)
    exfalso
    rw [i_lt, show Int32.ofNat L = nI L from rfl, i_sub (by rw [nI_toInt (by omega), nI_toInt (by omega)]; omega) (by rw [nI_toInt (by omega), nI_toInt (by omega)]; omega), nI_toInt (by omega), nI_toInt (by omega), nI_toInt (by omega)] at z
    omega
  | succ k ih =>
    intro i t H locs ls hi ht hl h
    obtain ⟨mx, mm, hP1, hP2, hRl, hS⟩ := id h
    refine lv_iload_n hx hb dL_law_18 rfl (lv_at hl 0 rfl) ?_
    refine lv_aload_n hx hb dL_law_19 rfl (lv_at hl 1 rfl) ?_
    refine va_slen hx hb hX hbl (fun z => by omega) hS dL_law_20 ?_
    refine lv_iconst (v := nI 5) hx hb dL_law_21 (by decide) ?_
    refine lv_isub hx hb dL_law_22 ?_
    refine lv_icmp_gt (tgt := 893) hx hb dL_law_23 (by decide) (fun _ => kk H locs ls hS) (fun z => ?_)
    rw [i_lt, show Int32.ofNat L = nI L from rfl, i_sub (by rw [nI_toInt (by omega), nI_toInt (by omega)]; omega) (by rw [nI_toInt (by omega), nI_toInt (by omega)]; omega), nI_toInt (by omega), nI_toInt (by omega), nI_toInt (by omega)] at z
    have ht5 : t + 5 ≤ L := by omega
    refine lv_aload_n hx hb dL_law_26 rfl (lv_at hl 1 rfl) ?_
    refine lv_iload_n hx hb dL_law_27 rfl (lv_at hl 0 rfl) ?_
    refine lw_ld K hS (j := t) (by omega) hL dL_law_28 ?_
    refine lv_bipush (v := (31 : Int32)) hx hb dL_law_29 (by decide) ?_
    refine lv_iand hx hb dL_law_31 ?_
    obtain ⟨j, hj, ej⟩ := and31 (xs t)
    rw [ej]
    refine law_sw hN K hR hL (by omega) hl ht5 h (fun H1 locs1 h1 => ?_) j hj
    refine lv_iinc (k := 0) (v := nI (t + 5)) (lv' := [(3, .int (nI (t + 5))), (0, .ref b), (1, .ref (ad1 0)), (2, .ref (ad2 0))]) hx hb dL_law_887 hl rfl (nI_add t 5) (by decide) rfl (fun ls hl => ?_)
    refine lv_goto (tgt := 18) hx hb dL_law_890 (by decide) ?_
    exact ih (i + 1) (t + 5) H1 locs1 ls (by omega) (by omega) hl h1

