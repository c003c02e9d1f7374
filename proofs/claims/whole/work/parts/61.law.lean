/-! ===== the law's loop ===== -/
theorem fl_wk {L : List Kd} {ca : Nat → ClassId} {ad : Nat → Nat} {m : Mem} {k : Nat} {q : Nat × va_E} (hq : (fl_w L ca ad m)[k]? = some q) : k < L.length ∧ q.1 = ad k := by
  simp only [fl_w, List.getElem?_mapIdx] at hq
  cases hL : L[k]? with
  | none => rw [hL] at hq; cases hq
  | some kd =>
    rw [hL] at hq
    cases hq
    exact ⟨(List.getElem?_eq_some_iff.mp hL).1, rfl⟩
/-- what holds all along: both layouts are known, apart, and new; the script lies where it lay -/
def lwK (p : Program) (s : State) (m : MethodId) (args : Array Value) (c : Code) (D : va_G) (ca : Nat → ClassId) (ad1 ad2 : Nat → Nat) (b L : Nat) (xs : Nat → Int32) : Prop :=
  fl_X p s m args c cL_law 4 RL L1 D ca ad1 ∧ fl_X p s m args c cL_law 4 RL L2 D ca ad2 ∧ (∀ i, i < L1.length → s.heap.size ≤ ad1 i) ∧ (∀ j, j < L2.length → s.heap.size ≤ ad2 j) ∧ (∀ i j, i < L1.length → j < L2.length → ad1 i ≠ ad2 j) ∧ va_X b L xs s s.heap ∧ b < s.heap.size
def lwS (s : State) (H : Heap) (locs : List Loc) : Prop := va_S (fun q => s.heap.size ≤ q) s.heap H locs
def lwI (D : va_G) (ca : Nat → ClassId) (ad1 ad2 : Nat → Nat) (s : State) (i : Nat) (H : Heap) (locs : List Loc) : Prop := ∃ mx mm, va_P D vwCl (fl_w L1 ca ad1 mx) H ∧ va_P D vwCl (fl_w L2 ca ad2 mm) H ∧ Rl i mx mm ∧ lwS s H locs
section
variable {p : Program} {l : Launch} {e : Env} {R : Room} {s : State} {m : MethodId} {args : Array Value} {below : List Frame} {meth : Method} {c : Code} {D : va_G} {ca : Nat → ClassId} {ad1 ad2 : Nat → Nat} {b L : Nat} {xs : Nat → Int32} {H : Heap} {locs : List Loc} {cells slots pc : Nat} {ls : Array Slot} {rest : List Value} {Q : State → Prop}
theorem lw_cx (K : lwK p s m args c D ca ad1 ad2 b L xs) {mx mm : Mem} (hP1 : va_P D vwCl (fl_w L1 ca ad1 mx) H) (hP2 : va_P D vwCl (fl_w L2 ca ad2 mm) H) (hS : lwS s H locs) (hsz : ls.size = 4) {index n nLc d : Nat} {y : MethodName} {cd : ByteArray} {ret : Option FieldType} {av : List Value} {v : Option Value} {M : Mem}
    (hm : fl_mv RL index 8 y cd nLc ret n) (hM : fl_M l L1 D ca ad1 y cd nLc ret d (.ref (ad1 0) :: av) mx v M) (hfit : fl_fit d nLc R cells slots) (hn : av.length = n) (hroom : (rest.map fun v => v.category).sum ≤ 8) (hdg : decode cL_law pc = .ok (.invokevirtual index, 3)) {st : List Value} (hst : st = av.reverse ++ .ref (ad1 0) :: rest)
    (kk : ∀ (H1 : Heap) (locs1 : List Loc), va_P D vwCl (fl_w L1 ca ad1 M) H1 → va_P D vwCl (fl_w L2 ca ad2 mm) H1 → lwS s H1 locs1 → W p l e R s m args below meth c H1 locs1 cells slots Q (F0 m (pc + 3) ls (v.toList ++ rest))) : W p l e R s m args below meth c H locs cells slots Q (F0 m pc ls st) := by
  obtain ⟨X1, X2, f1, f2, ap, hx, hbl⟩ := K
  refine va_forget (fun q hq => hS.2.2 q hq) ?_
  refine fl_callV (H0 := H) X1 hP1 va_S.rf hsz hm hM k1_0 hfit hn hroom hdg hst (fun H1 locs1 hP hS1 => ?_)
  refine kk H1 locs1 hP (hP2.kept (fun k q hk => ?_)) ⟨Nat.le_trans hS.1 hS1.1, fun q h1 h2 => ?_, fun q hq => ?_⟩
  · refine hS1.2.1 q.1 (hP2 k q hk).lt (fun z => ?_)
    obtain ⟨k1, k2, k3⟩ := z
    obtain ⟨g1, g2⟩ := fl_wk hk
    exact ap k1 k k2 g1 (k3.symm.trans g2)
  · rw [hS1.2.1 q (Nat.lt_of_lt_of_le h1 hS.1) (fun z => by obtain ⟨k1, k2, k3⟩ := z; have := f1 k1 k2; omega)]
    exact hS.2.1 q h1 h2
  · obtain ⟨k1, k2, k3⟩ := hS1.2.2 q hq
    rw [k3]
    exact f1 k1 k2
theorem lw_cm (K : lwK p s m args c D ca ad1 ad2 b L xs) {mx mm : Mem} (hP1 : va_P D vwCl (fl_w L1 ca ad1 mx) H) (hP2 : va_P D vwCl (fl_w L2 ca ad2 mm) H) (hS : lwS s H locs) (hsz : ls.size = 4) {index n nLc d : Nat} {y : MethodName} {cd : ByteArray} {ret : Option FieldType} {av : List Value} {v : Option Value} {M : Mem}
    (hm : fl_mv RL index 9 y cd nLc ret n) (hM : fl_M l L2 D ca ad2 y cd nLc ret d (.ref (ad2 0) :: av) mm v M) (hfit : fl_fit d nLc R cells slots) (hn : av.length = n) (hroom : (rest.map fun v => v.category).sum ≤ 8) (hdg : decode cL_law pc = .ok (.invokevirtual index, 3)) {st : List Value} (hst : st = av.reverse ++ .ref (ad2 0) :: rest)
    (kk : ∀ (H1 : Heap) (locs1 : List Loc), va_P D vwCl (fl_w L1 ca ad1 mx) H1 → va_P D vwCl (fl_w L2 ca ad2 M) H1 → lwS s H1 locs1 → W p l e R s m args below meth c H1 locs1 cells slots Q (F0 m (pc + 3) ls (v.toList ++ rest))) : W p l e R s m args below meth c H locs cells slots Q (F0 m pc ls st) := by
  obtain ⟨X1, X2, f1, f2, ap, hx, hbl⟩ := K
  refine va_forget (fun q hq => hS.2.2 q hq) ?_
  refine fl_callV (H0 := H) X2 hP2 va_S.rf hsz hm hM k2_0 hfit hn hroom hdg hst (fun H1 locs1 hP hS1 => ?_)
  refine kk H1 locs1 (hP1.kept (fun k q hk => ?_)) hP ⟨Nat.le_trans hS.1 hS1.1, fun q h1 h2 => ?_, fun q hq => ?_⟩
  · refine hS1.2.1 q.1 (hP1 k q hk).lt (fun z => ?_)
    obtain ⟨k1, k2, k3⟩ := z
    obtain ⟨g1, g2⟩ := fl_wk hk
    exact ap k k1 g1 k2 (g2.symm.trans k3)
  · rw [hS1.2.1 q (Nat.lt_of_lt_of_le h1 hS.1) (fun z => by obtain ⟨k1, k2, k3⟩ := z; have := f2 k1 k2; omega)]
    exact hS.2.1 q h1 h2
  · obtain ⟨k1, k2, k3⟩ := hS1.2.2 q hq
    rw [k3]
    exact f2 k1 k2
/-- a cell of the script -/
theorem lw_ld (K : lwK p s m args c D ca ad1 ad2 b L xs) (hS : lwS s H locs) {j : Nat} (hj : j < L) (hL : L ≤ 320) (hdg : decode cL_law pc = .ok (.iaload, 1))
    (kk : W p l e R s m args below meth c H locs cells slots Q (F0 m (pc + 1) ls (.int (xs j) :: rest))) : W p l e R s m args below meth c H locs cells slots Q (F0 m pc ls (.int (nI j) :: .ref b :: rest)) := by
  obtain ⟨X1, X2, f1, f2, ap, hx, hbl⟩ := K
  have e1 : (nI j).toNatClampNeg = j := i_c (by omega)
  refine va_sld X1.1 X1.2.1 hx hbl (fun z => by omega) hS (i := nI j) ?_ hdg ?_
  · unfold vp_in
    rw [e1]
    rintro (z | z)
    · exact absurd z (nI_nlt (b := 0) (by omega) (by omega))
    · omega
  · rw [e1]; exact kk
end

theorem arm_0 {p : Program} {l : Launch} {e : Env} {R : Room} {s : State} {m : MethodId} {args : Array Value} {below : List Frame} {meth : Method} {c : Code} {D : va_G} {ca : Nat → ClassId} {ad1 ad2 : Nat → Nat} {b L : Nat} {xs : Nat → Int32} {H : Heap} {locs : List Loc} {cells slots : Nat} {ls : Array Slot} {Q : State → Prop} {N i t : Nat} (hN : 1000000000 ≤ N) (hi : i ≤ 64) (K : lwK p s m args c D ca ad1 ad2 b L xs) (hR : 40 ≤ R.frames ∧ 3000 ≤ R.locals ∧ cells ≤ R.cells ∧ slots ≤ R.slots) (hl : lv_has ls 4 [(3, .int (nI t)), (0, .ref b), (1, .ref (ad1 0)), (2, .ref (ad2 0))]) (ht : t + 5 ≤ L) (hL : L ≤ 320) (h : lwI D ca ad1 ad2 s i H locs)
    (kk : ∀ (H1 : Heap) (locs1 : List Loc), lwI D ca ad1 ad2 s (i + 1) H1 locs1 → W p l e R s m args below meth c H1 locs1 cells slots Q (F0 m 887 ls [])) : W p l e R s m args below meth c H locs cells slots Q (F0 m 156 ls []) := by
  obtain ⟨mx, mm, hP1, hP2, hRl, hS⟩ := h
  obtain ⟨X1, X2, f1, f2, ap, hX, hbl⟩ := id K
  have hx := X1.1
  have hb := X1.2.1
  have i1 : fl_inj L1 ad1 := X1.2.2.2.2.2.2
  have i2 : fl_inj L2 ad2 := X2.2.2.2.2.2.2
  have sim : Sim (i + 1) (f_X8_write (xs (t + 1)) mx) (f_X9_write (xs (t + 1)) mm) := by
    first
    | exact sim_write hRl (xs (t + 1))
    | exact sim_write (N := N) (by omega) hRl (xs (t + 1))
    | exact sim_write (N := N) (by omega) hi hRl (xs (t + 1))
  obtain ⟨v, mx', ex, v', mm', em, hv, hR'⟩ := sim
  refine lv_aload_n hx hb dL_law_156 rfl (lv_at hl 2 rfl) ?_
  refine lv_aload_n hx hb dL_law_157 rfl (lv_at hl 1 rfl) ?_
  refine lv_iload_n hx hb dL_law_158 rfl (lv_at hl 0 rfl) ?_
  refine lv_iconst (v := nI 1) hx hb dL_law_159 (by decide) ?_
  refine lv_iadd hx hb dL_law_160 ?_
  rw [nI_add t 1]
  refine lw_ld K hS (j := t + 1) (by omega) hL dL_law_161 ?_
  refine lw_cx K hP1 hP2 hS hl.1 (av := [.int (xs (t + 1))]) mv_L_13 (c_X8_write l D ca ad1 i1 (xs (t + 1)) mx _ _ ex) ⟨by omega, by omega, hR.2.2.1, hR.2.2.2⟩ rfl (Nat.le_of_ble_eq_true rfl) dL_law_162 rfl (fun H locs hP1 hP2 hS => ?_)
  refine W.eq (g2 := F0 m 165 ls [.int v]) rfl ?_
  refine lv_aload_n hx hb dL_law_165 rfl (lv_at hl 3 rfl) ?_
  refine lv_aload_n hx hb dL_law_166 rfl (lv_at hl 1 rfl) ?_
  refine lv_iload_n hx hb dL_law_167 rfl (lv_at hl 0 rfl) ?_
  refine lv_iconst (v := nI 1) hx hb dL_law_168 (by decide) ?_
  refine lv_iadd hx hb dL_law_169 ?_
  rw [nI_add t 1]
  refine lw_ld K hS (j := t + 1) (by omega) hL dL_law_170 ?_
  refine lw_cm K hP1 hP2 hS hl.1 (av := [.int (xs (t + 1))]) mv_L_17 (c_X9_write l D ca ad2 i2 (xs (t + 1)) mm _ _ em) ⟨by omega, by omega, hR.2.2.1, hR.2.2.2⟩ rfl (Nat.le_of_ble_eq_true rfl) dL_law_171 rfl (fun H locs hP1 hP2 hS => ?_)
  refine W.eq (g2 := F0 m 174 ls [.int v', .int v]) rfl ?_
  refine lv_icmp_eq (tgt := 887) hx hb dL_law_174 (by decide) (fun _ => ?_) (fun z => absurd hv z)
  exact kk H locs ⟨mx', mm', hP1, hP2, hR', hS⟩
theorem arm_1 {p : Program} {l : Launch} {e : Env} {R : Room} {s : State} {m : MethodId} {args : Array Value} {below : List Frame} {meth : Method} {c : Code} {D : va_G} {ca : Nat → ClassId} {ad1 ad2 : Nat → Nat} {b L : Nat} {xs : Nat → Int32} {H : Heap} {locs : List Loc} {cells slots : Nat} {ls : Array Slot} {Q : State → Prop} {N i t : Nat} (hN : 1000000000 ≤ N) (hi : i ≤ 64) (K : lwK p s m args c D ca ad1 ad2 b L xs) (hR : 40 ≤ R.frames ∧ 3000 ≤ R.locals ∧ cells ≤ R.cells ∧ slots ≤ R.slots) (hl : lv_has ls 4 [(3, .int (nI t)), (0, .ref b), (1, .ref (ad1 0)), (2, .ref (ad2 0))]) (ht : t + 5 ≤ L) (hL : L ≤ 320) (h : lwI D ca ad1 ad2 s i H locs)
    (kk : ∀ (H1 : Heap) (locs1 : List Loc), lwI D ca ad1 ad2 s (i + 1) H1 locs1 → W p l e R s m args below meth c H1 locs1 cells slots Q (F0 m 887 ls [])) : W p l e R s m args below meth c H locs cells slots Q (F0 m 179 ls []) := by
  obtain ⟨mx, mm, hP1, hP2, hRl, hS⟩ := h
  obtain ⟨X1, X2, f1, f2, ap, hX, hbl⟩ := id K
  have hx := X1.1
  have hb := X1.2.1
  have i1 : fl_inj L1 ad1 := X1.2.2.2.2.2.2
  have i2 : fl_inj L2 ad2 := X2.2.2.2.2.2.2
  have sim : Sim (i + 1) (f_X8_wipe  mx) (f_X9_wipe  mm) := by
    first
    | exact sim_wipe hRl 
    | exact sim_wipe (N := N) (by omega) hRl 
    | exact sim_wipe (N := N) (by omega) hi hRl 
  obtain ⟨v, mx', ex, v', mm', em, hv, hR'⟩ := sim
  refine lv_aload_n hx hb dL_law_179 rfl (lv_at hl 2 rfl) ?_
  refine lw_cx K hP1 hP2 hS hl.1 (av := []) mv_L_18 (c_X8_wipe l D ca ad1 i1  mx _ _ ex) ⟨by omega, by omega, hR.2.2.1, hR.2.2.2⟩ rfl (Nat.le_of_ble_eq_true rfl) dL_law_180 rfl (fun H locs hP1 hP2 hS => ?_)
  refine W.eq (g2 := F0 m 183 ls [.int v]) rfl ?_
  refine lv_aload_n hx hb dL_law_183 rfl (lv_at hl 3 rfl) ?_
  refine lw_cm K hP1 hP2 hS hl.1 (av := []) mv_L_22 (c_X9_wipe l D ca ad2 i2  mm _ _ em) ⟨by omega, by omega, hR.2.2.1, hR.2.2.2⟩ rfl (Nat.le_of_ble_eq_true rfl) dL_law_184 rfl (fun H locs hP1 hP2 hS => ?_)
  refine W.eq (g2 := F0 m 187 ls [.int v', .int v]) rfl ?_
  refine lv_icmp_eq (tgt := 887) hx hb dL_law_187 (by decide) (fun _ => ?_) (fun z => absurd hv z)
  exact kk H locs ⟨mx', mm', hP1, hP2, hR', hS⟩
theorem arm_2 {p : Program} {l : Launch} {e : Env} {R : Room} {s : State} {m : MethodId} {args : Array Value} {below : List Frame} {meth : Method} {c : Code} {D : va_G} {ca : Nat → ClassId} {ad1 ad2 : Nat → Nat} {b L : Nat} {xs : Nat → Int32} {H : Heap} {locs : List Loc} {cells slots : Nat} {ls : Array Slot} {Q : State → Prop} {N i t : Nat} (hN : 1000000000 ≤ N) (hi : i ≤ 64) (K : lwK p s m args c D ca ad1 ad2 b L xs) (hR : 40 ≤ R.frames ∧ 3000 ≤ R.locals ∧ cells ≤ R.cells ∧ slots ≤ R.slots) (hl : lv_has ls 4 [(3, .int (nI t)), (0, .ref b), (1, .ref (ad1 0)), (2, .ref (ad2 0))]) (ht : t + 5 ≤ L) (hL : L ≤ 320) (h : lwI D ca ad1 ad2 s i H locs)
    (kk : ∀ (H1 : Heap) (locs1 : List Loc), lwI D ca ad1 ad2 s (i + 1) H1 locs1 → W p l e R s m args below meth c H1 locs1 cells slots Q (F0 m 887 ls [])) : W p l e R s m args below meth c H locs cells slots Q (F0 m 192 ls []) := by
  obtain ⟨mx, mm, hP1, hP2, hRl, hS⟩ := h
  obtain ⟨X1, X2, f1, f2, ap, hX, hbl⟩ := id K
  have hx := X1.1
  have hb := X1.2.1
  have i1 : fl_inj L1 ad1 := X1.2.2.2.2.2.2
  have i2 : fl_inj L2 ad2 := X2.2.2.2.2.2.2
  have sim : Sim (i + 1) (f_X8_fault N  mx) (f_X9_fault N  mm) := by
    first
    | exact sim_fault hRl 
    | exact sim_fault (N := N) (by omega) hRl 
    | exact sim_fault (N := N) (by omega) hi hRl 
  obtain ⟨v, mx', ex, v', mm', em, hv, hR'⟩ := sim
  refine lv_aload_n hx hb dL_law_192 rfl (lv_at hl 2 rfl) ?_
  refine lw_cx K hP1 hP2 hS hl.1 (av := []) mv_L_23 (c_X8_fault l D ca ad1 i1 N  mx _ _ ex) ⟨by omega, by omega, hR.2.2.1, hR.2.2.2⟩ rfl (Nat.le_of_ble_eq_true rfl) dL_law_193 rfl (fun H locs hP1 hP2 hS => ?_)
  refine W.eq (g2 := F0 m 196 ls [.int v]) rfl ?_
  refine lv_aload_n hx hb dL_law_196 rfl (lv_at hl 3 rfl) ?_
  refine lw_cm K hP1 hP2 hS hl.1 (av := []) mv_L_26 (c_X9_fault l D ca ad2 i2 N  mm _ _ em) ⟨by omega, by omega, hR.2.2.1, hR.2.2.2⟩ rfl (Nat.le_of_ble_eq_true rfl) dL_law_197 rfl (fun H locs hP1 hP2 hS => ?_)
  refine W.eq (g2 := F0 m 200 ls [.int v', .int v]) rfl ?_
  refine lv_icmp_eq (tgt := 887) hx hb dL_law_200 (by decide) (fun _ => ?_) (fun z => absurd hv z)
  exact kk H locs ⟨mx', mm', hP1, hP2, hR', hS⟩
theorem arm_3 {p : Program} {l : Launch} {e : Env} {R : Room} {s : State} {m : MethodId} {args : Array Value} {below : List Frame} {meth : Method} {c : Code} {D : va_G} {ca : Nat → ClassId} {ad1 ad2 : Nat → Nat} {b L : Nat} {xs : Nat → Int32} {H : Heap} {locs : List Loc} {cells slots : Nat} {ls : Array Slot} {Q : State → Prop} {N i t : Nat} (hN : 1000000000 ≤ N) (hi : i ≤ 64) (K : lwK p s m args c D ca ad1 ad2 b L xs) (hR : 40 ≤ R.frames ∧ 3000 ≤ R.locals ∧ cells ≤ R.cells ∧ slots ≤ R.slots) (hl : lv_has ls 4 [(3, .int (nI t)), (0, .ref b), (1, .ref (ad1 0)), (2, .ref (ad2 0))]) (ht : t + 5 ≤ L) (hL : L ≤ 320) (h : lwI D ca ad1 ad2 s i H locs)
    (kk : ∀ (H1 : Heap) (locs1 : List Loc), lwI D ca ad1 ad2 s (i + 1) H1 locs1 → W p l e R s m args below meth c H1 locs1 cells slots Q (F0 m 887 ls [])) : W p l e R s m args below meth c H locs cells slots Q (F0 m 205 ls []) := by
  obtain ⟨mx, mm, hP1, hP2, hRl, hS⟩ := h
  obtain ⟨X1, X2, f1, f2, ap, hX, hbl⟩ := id K
  have hx := X1.1
  have hb := X1.2.1
  have i1 : fl_inj L1 ad1 := X1.2.2.2.2.2.2
  have i2 : fl_inj L2 ad2 := X2.2.2.2.2.2.2
  have sim : Sim (i + 1) (f_X8_lay N  mx) (f_X9_lay N  mm) := by
    first
    | exact sim_lay hRl 
    | exact sim_lay (N := N) (by omega) hRl 
    | exact sim_lay (N := N) (by omega) hi hRl 
  obtain ⟨v, mx', ex, v', mm', em, hv, hR'⟩ := sim
  refine lv_aload_n hx hb dL_law_205 rfl (lv_at hl 2 rfl) ?_
  refine lw_cx K hP1 hP2 hS hl.1 (av := []) mv_L_27 (c_X8_lay l D ca ad1 i1 N  mx _ _ ex) ⟨by omega, by omega, hR.2.2.1, hR.2.2.2⟩ rfl (Nat.le_of_ble_eq_true rfl) dL_law_206 rfl (fun H locs hP1 hP2 hS => ?_)
  refine W.eq (g2 := F0 m 209 ls [.int v]) rfl ?_
  refine lv_aload_n hx hb dL_law_209 rfl (lv_at hl 3 rfl) ?_
  refine lw_cm K hP1 hP2 hS hl.1 (av := []) mv_L_30 (c_X9_lay l D ca ad2 i2 N  mm _ _ em) ⟨by omega, by omega, hR.2.2.1, hR.2.2.2⟩ rfl (Nat.le_of_ble_eq_true rfl) dL_law_210 rfl (fun H locs hP1 hP2 hS => ?_)
  refine W.eq (g2 := F0 m 213 ls [.int v', .int v]) rfl ?_
  refine lv_icmp_eq (tgt := 887) hx hb dL_law_213 (by decide) (fun _ => ?_) (fun z => absurd hv z)
  exact kk H locs ⟨mx', mm', hP1, hP2, hR', hS⟩
theorem arm_4 {p : Program} {l : Launch} {e : Env} {R : Room} {s : State} {m : MethodId} {args : Array Value} {below : List Frame} {meth : Method} {c : Code} {D : va_G} {ca : Nat → ClassId} {ad1 ad2 : Nat → Nat} {b L : Nat} {xs : Nat → Int32} {H : Heap} {locs : List Loc} {cells slots : Nat} {ls : Array Slot} {Q : State → Prop} {N i t : Nat} (hN : 1000000000 ≤ N) (hi : i ≤ 64) (K : lwK p s m args c D ca ad1 ad2 b L xs) (hR : 40 ≤ R.frames ∧ 3000 ≤ R.locals ∧ cells ≤ R.cells ∧ slots ≤ R.slots) (hl : lv_has ls 4 [(3, .int (nI t)), (0, .ref b), (1, .ref (ad1 0)), (2, .ref (ad2 0))]) (ht : t + 5 ≤ L) (hL : L ≤ 320) (h : lwI D ca ad1 ad2 s i H locs)
    (kk : ∀ (H1 : Heap) (locs1 : List Loc), lwI D ca ad1 ad2 s (i + 1) H1 locs1 → W p l e R s m args below meth c H1 locs1 cells slots Q (F0 m 887 ls [])) : W p l e R s m args below meth c H locs cells slots Q (F0 m 218 ls []) := by
  obtain ⟨mx, mm, hP1, hP2, hRl, hS⟩ := h
  obtain ⟨X1, X2, f1, f2, ap, hX, hbl⟩ := id K
  have hx := X1.1
  have hb := X1.2.1
  have i1 : fl_inj L1 ad1 := X1.2.2.2.2.2.2
  have i2 : fl_inj L2 ad2 := X2.2.2.2.2.2.2
  have sim : Sim (i + 1) (f_X8_far (xs (t + 1)) (xs (t + 2)) mx) (f_X9_far (xs (t + 1)) (xs (t + 2)) mm) := by
    first
    | exact sim_far hRl (xs (t + 1)) (xs (t + 2))
    | exact sim_far (N := N) (by omega) hRl (xs (t + 1)) (xs (t + 2))
    | exact sim_far (N := N) (by omega) hi hRl (xs (t + 1)) (xs (t + 2))
  obtain ⟨v, mx', ex, v', mm', em, hv, hR'⟩ := sim
  refine lv_aload_n hx hb dL_law_218 rfl (lv_at hl 2 rfl) ?_
  refine lv_aload_n hx hb dL_law_219 rfl (lv_at hl 1 rfl) ?_
  refine lv_iload_n hx hb dL_law_220 rfl (lv_at hl 0 rfl) ?_
  refine lv_iconst (v := nI 1) hx hb dL_law_221 (by decide) ?_
  refine lv_iadd hx hb dL_law_222 ?_
  rw [nI_add t 1]
  refine lw_ld K hS (j := t + 1) (by omega) hL dL_law_223 ?_
  refine lv_aload_n hx hb dL_law_224 rfl (lv_at hl 1 rfl) ?_
  refine lv_iload_n hx hb dL_law_225 rfl (lv_at hl 0 rfl) ?_
  refine lv_iconst (v := nI 2) hx hb dL_law_226 (by decide) ?_
  refine lv_iadd hx hb dL_law_227 ?_
  rw [nI_add t 2]
  refine lw_ld K hS (j := t + 2) (by omega) hL dL_law_228 ?_
  refine lw_cx K hP1 hP2 hS hl.1 (av := [.int (xs (t + 1)), .int (xs (t + 2))]) mv_L_31 (c_X8_far l D ca ad1 i1 (xs (t + 1)) (xs (t + 2)) mx _ _ ex) ⟨by omega, by omega, hR.2.2.1, hR.2.2.2⟩ rfl (Nat.le_of_ble_eq_true rfl) dL_law_229 rfl (fun H locs hP1 hP2 hS => ?_)
  refine W.eq (g2 := F0 m 232 ls [.int v]) rfl ?_
  refine lv_aload_n hx hb dL_law_232 rfl (lv_at hl 3 rfl) ?_
  refine lv_aload_n hx hb dL_law_233 rfl (lv_at hl 1 rfl) ?_
  refine lv_iload_n hx hb dL_law_234 rfl (lv_at hl 0 rfl) ?_
  refine lv_iconst (v := nI 1) hx hb dL_law_235 (by decide) ?_
  refine lv_iadd hx hb dL_law_236 ?_
  rw [nI_add t 1]
  refine lw_ld K hS (j := t + 1) (by omega) hL dL_law_237 ?_
  refine lv_aload_n hx hb dL_law_238 rfl (lv_at hl 1 rfl) ?_
  refine lv_iload_n hx hb dL_law_239 rfl (lv_at hl 0 rfl) ?_
  refine lv_iconst (v := nI 2) hx hb dL_law_240 (by decide) ?_
  refine lv_iadd hx hb dL_law_241 ?_
  rw [nI_add t 2]
  refine lw_ld K hS (j := t + 2) (by omega) hL dL_law_242 ?_
  refine lw_cm K hP1 hP2 hS hl.1 (av := [.int (xs (t + 1)), .int (xs (t + 2))]) mv_L_35 (c_X9_far l D ca ad2 i2 (xs (t + 1)) (xs (t + 2)) mm _ _ em) ⟨by omega, by omega, hR.2.2.1, hR.2.2.2⟩ rfl (Nat.le_of_ble_eq_true rfl) dL_law_243 rfl (fun H locs hP1 hP2 hS => ?_)
  refine W.eq (g2 := F0 m 246 ls [.int v', .int v]) rfl ?_
  refine lv_icmp_eq (tgt := 887) hx hb dL_law_246 (by decide) (fun _ => ?_) (fun z => absurd hv z)
  exact kk H locs ⟨mx', mm', hP1, hP2, hR', hS⟩
theorem arm_5 {p : Program} {l : Launch} {e : Env} {R : Room} {s : State} {m : MethodId} {args : Array Value} {below : List Frame} {meth : Method} {c : Code} {D : va_G} {ca : Nat → ClassId} {ad1 ad2 : Nat → Nat} {b L : Nat} {xs : Nat → Int32} {H : Heap} {locs : List Loc} {cells slots : Nat} {ls : Array Slot} {Q : State → Prop} {N i t : Nat} (hN : 1000000000 ≤ N) (hi : i ≤ 64) (K : lwK p s m args c D ca ad1 ad2 b L xs) (hR : 40 ≤ R.frames ∧ 3000 ≤ R.locals ∧ cells ≤ R.cells ∧ slots ≤ R.slots) (hl : lv_has ls 4 [(3, .int (nI t)), (0, .ref b), (1, .ref (ad1 0)), (2, .ref (ad2 0))]) (ht : t + 5 ≤ L) (hL : L ≤ 320) (h : lwI D ca ad1 ad2 s i H locs)
    (kk : ∀ (H1 : Heap) (locs1 : List Loc), lwI D ca ad1 ad2 s (i + 1) H1 locs1 → W p l e R s m args below meth c H1 locs1 cells slots Q (F0 m 887 ls [])) : W p l e R s m args below meth c H locs cells slots Q (F0 m 251 ls []) := by
  obtain ⟨mx, mm, hP1, hP2, hRl, hS⟩ := h
  obtain ⟨X1, X2, f1, f2, ap, hX, hbl⟩ := id K
  have hx := X1.1
  have hb := X1.2.1
  have i1 : fl_inj L1 ad1 := X1.2.2.2.2.2.2
  have i2 : fl_inj L2 ad2 := X2.2.2.2.2.2.2
  have sim : Sim (i + 1) (f_X8_cab (xs (t + 1)) (xs (t + 2)) mx) (f_X9_cab (xs (t + 1)) (xs (t + 2)) mm) := by
    first
    | exact sim_cabF hRl (xs (t + 1)) (xs (t + 2))
    | exact sim_cabF (N := N) (by omega) hRl (xs (t + 1)) (xs (t + 2))
    | exact sim_cabF (N := N) (by omega) hi hRl (xs (t + 1)) (xs (t + 2))
  obtain ⟨v, mx', ex, v', mm', em, hv, hR'⟩ := sim
  refine lv_aload_n hx hb dL_law_251 rfl (lv_at hl 2 rfl) ?_
  refine lv_aload_n hx hb dL_law_252 rfl (lv_at hl 1 rfl) ?_
  refine lv_iload_n hx hb dL_law_253 rfl (lv_at hl 0 rfl) ?_
  refine lv_iconst (v := nI 1) hx hb dL_law_254 (by decide) ?_
  refine lv_iadd hx hb dL_law_255 ?_
  rw [nI_add t 1]
  refine lw_ld K hS (j := t + 1) (by omega) hL dL_law_256 ?_
  refine lv_aload_n hx hb dL_law_257 rfl (lv_at hl 1 rfl) ?_
  refine lv_iload_n hx hb dL_law_258 rfl (lv_at hl 0 rfl) ?_
  refine lv_iconst (v := nI 2) hx hb dL_law_259 (by decide) ?_
  refine lv_iadd hx hb dL_law_260 ?_
  rw [nI_add t 2]
  refine lw_ld K hS (j := t + 2) (by omega) hL dL_law_261 ?_
  refine lw_cx K hP1 hP2 hS hl.1 (av := [.int (xs (t + 1)), .int (xs (t + 2))]) mv_L_36 (c_X8_cab l D ca ad1 i1 (xs (t + 1)) (xs (t + 2)) mx _ _ ex) ⟨by omega, by omega, hR.2.2.1, hR.2.2.2⟩ rfl (Nat.le_of_ble_eq_true rfl) dL_law_262 rfl (fun H locs hP1 hP2 hS => ?_)
  refine W.eq (g2 := F0 m 265 ls [.int v]) rfl ?_
  refine lv_aload_n hx hb dL_law_265 rfl (lv_at hl 3 rfl) ?_
  refine lv_aload_n hx hb dL_law_266 rfl (lv_at hl 1 rfl) ?_
  refine lv_iload_n hx hb dL_law_267 rfl (lv_at hl 0 rfl) ?_
  refine lv_iconst (v := nI 1) hx hb dL_law_268 (by decide) ?_
  refine lv_iadd hx hb dL_law_269 ?_
  rw [nI_add t 1]
  refine lw_ld K hS (j := t + 1) (by omega) hL dL_law_270 ?_
  refine lv_aload_n hx hb dL_law_271 rfl (lv_at hl 1 rfl) ?_
  refine lv_iload_n hx hb dL_law_272 rfl (lv_at hl 0 rfl) ?_
  refine lv_iconst (v := nI 2) hx hb dL_law_273 (by decide) ?_
  refine lv_iadd hx hb dL_law_274 ?_
  rw [nI_add t 2]
  refine lw_ld K hS (j := t + 2) (by omega) hL dL_law_275 ?_
  refine lw_cm K hP1 hP2 hS hl.1 (av := [.int (xs (t + 1)), .int (xs (t + 2))]) mv_L_39 (c_X9_cab l D ca ad2 i2 (xs (t + 1)) (xs (t + 2)) mm _ _ em) ⟨by omega, by omega, hR.2.2.1, hR.2.2.2⟩ rfl (Nat.le_of_ble_eq_true rfl) dL_law_276 rfl (fun H locs hP1 hP2 hS => ?_)
  refine W.eq (g2 := F0 m 279 ls [.int v', .int v]) rfl ?_
  refine lv_icmp_eq (tgt := 887) hx hb dL_law_279 (by decide) (fun _ => ?_) (fun z => absurd hv z)
  exact kk H locs ⟨mx', mm', hP1, hP2, hR', hS⟩
theorem arm_6 {p : Program} {l : Launch} {e : Env} {R : Room} {s : State} {m : MethodId} {args : Array Value} {below : List Frame} {meth : Method} {c : Code} {D : va_G} {ca : Nat → ClassId} {ad1 ad2 : Nat → Nat} {b L : Nat} {xs : Nat → Int32} {H : Heap} {locs : List Loc} {cells slots : Nat} {ls : Array Slot} {Q : State → Prop} {N i t : Nat} (hN : 1000000000 ≤ N) (hi : i ≤ 64) (K : lwK p s m args c D ca ad1 ad2 b L xs) (hR : 40 ≤ R.frames ∧ 3000 ≤ R.locals ∧ cells ≤ R.cells ∧ slots ≤ R.slots) (hl : lv_has ls 4 [(3, .int (nI t)), (0, .ref b), (1, .ref (ad1 0)), (2, .ref (ad2 0))]) (ht : t + 5 ≤ L) (hL : L ≤ 320) (h : lwI D ca ad1 ad2 s i H locs)
    (kk : ∀ (H1 : Heap) (locs1 : List Loc), lwI D ca ad1 ad2 s (i + 1) H1 locs1 → W p l e R s m args below meth c H1 locs1 cells slots Q (F0 m 887 ls [])) : W p l e R s m args below meth c H locs cells slots Q (F0 m 284 ls []) := by
  obtain ⟨mx, mm, hP1, hP2, hRl, hS⟩ := h
  obtain ⟨X1, X2, f1, f2, ap, hX, hbl⟩ := id K
  have hx := X1.1
  have hb := X1.2.1
  have i1 : fl_inj L1 ad1 := X1.2.2.2.2.2.2
  have i2 : fl_inj L2 ad2 := X2.2.2.2.2.2.2
  have sim : Sim (i + 1) (f_X8_fare (xs (t + 1)) (xs (t + 2)) mx) (f_X9_fare (xs (t + 1)) (xs (t + 2)) mm) := by
    first
    | exact sim_fareF hRl (xs (t + 1)) (xs (t + 2))
    | exact sim_fareF (N := N) (by omega) hRl (xs (t + 1)) (xs (t + 2))
    | exact sim_fareF (N := N) (by omega) hi hRl (xs (t + 1)) (xs (t + 2))
  obtain ⟨v, mx', ex, v', mm', em, hv, hR'⟩ := sim
  refine lv_aload_n hx hb dL_law_284 rfl (lv_at hl 2 rfl) ?_
  refine lv_aload_n hx hb dL_law_285 rfl (lv_at hl 1 rfl) ?_
  refine lv_iload_n hx hb dL_law_286 rfl (lv_at hl 0 rfl) ?_
  refine lv_iconst (v := nI 1) hx hb dL_law_287 (by decide) ?_
  refine lv_iadd hx hb dL_law_288 ?_
  rw [nI_add t 1]
  refine lw_ld K hS (j := t + 1) (by omega) hL dL_law_289 ?_
  refine lv_aload_n hx hb dL_law_290 rfl (lv_at hl 1 rfl) ?_
  refine lv_iload_n hx hb dL_law_291 rfl (lv_at hl 0 rfl) ?_
  refine lv_iconst (v := nI 2) hx hb dL_law_292 (by decide) ?_
  refine lv_iadd hx hb dL_law_293 ?_
  rw [nI_add t 2]
  refine lw_ld K hS (j := t + 2) (by omega) hL dL_law_294 ?_
  refine lw_cx K hP1 hP2 hS hl.1 (av := [.int (xs (t + 1)), .int (xs (t + 2))]) mv_L_40 (c_X8_fare l D ca ad1 i1 (xs (t + 1)) (xs (t + 2)) mx _ _ ex) ⟨by omega, by omega, hR.2.2.1, hR.2.2.2⟩ rfl (Nat.le_of_ble_eq_true rfl) dL_law_295 rfl (fun H locs hP1 hP2 hS => ?_)
  refine W.eq (g2 := F0 m 298 ls [.int v]) rfl ?_
  refine lv_aload_n hx hb dL_law_298 rfl (lv_at hl 3 rfl) ?_
  refine lv_aload_n hx hb dL_law_299 rfl (lv_at hl 1 rfl) ?_
  refine lv_iload_n hx hb dL_law_300 rfl (lv_at hl 0 rfl) ?_
  refine lv_iconst (v := nI 1) hx hb dL_law_301 (by decide) ?_
  refine lv_iadd hx hb dL_law_302 ?_
  rw [nI_add t 1]
  refine lw_ld K hS (j := t + 1) (by omega) hL dL_law_303 ?_
  refine lv_aload_n hx hb dL_law_304 rfl (lv_at hl 1 rfl) ?_
  refine lv_iload_n hx hb dL_law_305 rfl (lv_at hl 0 rfl) ?_
  refine lv_iconst (v := nI 2) hx hb dL_law_306 (by decide) ?_
  refine lv_iadd hx hb dL_law_307 ?_
  rw [nI_add t 2]
  refine lw_ld K hS (j := t + 2) (by omega) hL dL_law_308 ?_
  refine lw_cm K hP1 hP2 hS hl.1 (av := [.int (xs (t + 1)), .int (xs (t + 2))]) mv_L_43 (c_X9_fare l D ca ad2 i2 (xs (t + 1)) (xs (t + 2)) mm _ _ em) ⟨by omega, by omega, hR.2.2.1, hR.2.2.2⟩ rfl (Nat.le_of_ble_eq_true rfl) dL_law_309 rfl (fun H locs hP1 hP2 hS => ?_)
  refine W.eq (g2 := F0 m 312 ls [.int v', .int v]) rfl ?_
  refine lv_icmp_eq (tgt := 887) hx hb dL_law_312 (by decide) (fun _ => ?_) (fun z => absurd hv z)
  exact kk H locs ⟨mx', mm', hP1, hP2, hR', hS⟩
theorem arm_7 {p : Program} {l : Launch} {e : Env} {R : Room} {s : State} {m : MethodId} {args : Array Value} {below : List Frame} {meth : Method} {c : Code} {D : va_G} {ca : Nat → ClassId} {ad1 ad2 : Nat → Nat} {b L : Nat} {xs : Nat → Int32} {H : Heap} {locs : List Loc} {cells slots : Nat} {ls : Array Slot} {Q : State → Prop} {N i t : Nat} (hN : 1000000000 ≤ N) (hi : i ≤ 64) (K : lwK p s m args c D ca ad1 ad2 b L xs) (hR : 40 ≤ R.frames ∧ 3000 ≤ R.locals ∧ cells ≤ R.cells ∧ slots ≤ R.slots) (hl : lv_has ls 4 [(3, .int (nI t)), (0, .ref b), (1, .ref (ad1 0)), (2, .ref (ad2 0))]) (ht : t + 5 ≤ L) (hL : L ≤ 320) (h : lwI D ca ad1 ad2 s i H locs)
    (kk : ∀ (H1 : Heap) (locs1 : List Loc), lwI D ca ad1 ad2 s (i + 1) H1 locs1 → W p l e R s m args below meth c H1 locs1 cells slots Q (F0 m 887 ls [])) : W p l e R s m args below meth c H locs cells slots Q (F0 m 317 ls []) := by
  obtain ⟨mx, mm, hP1, hP2, hRl, hS⟩ := h
  obtain ⟨X1, X2, f1, f2, ap, hX, hbl⟩ := id K
  have hx := X1.1
  have hb := X1.2.1
  have i1 : fl_inj L1 ad1 := X1.2.2.2.2.2.2
  have i2 : fl_inj L2 ad2 := X2.2.2.2.2.2.2
  have sim : Sim (i + 1) (f_X8_take (xs (t + 1)) (xs (t + 2)) mx) (f_X9_take N (xs (t + 1)) (xs (t + 2)) mm) := by
    first
    | exact sim_take hRl (xs (t + 1)) (xs (t + 2))
    | exact sim_take (N := N) (by omega) hRl (xs (t + 1)) (xs (t + 2))
    | exact sim_take (N := N) (by omega) hi hRl (xs (t + 1)) (xs (t + 2))
  obtain ⟨v, mx', ex, v', mm', em, hv, hR'⟩ := sim
  refine lv_aload_n hx hb dL_law_317 rfl (lv_at hl 2 rfl) ?_
  refine lv_aload_n hx hb dL_law_318 rfl (lv_at hl 1 rfl) ?_
  refine lv_iload_n hx hb dL_law_319 rfl (lv_at hl 0 rfl) ?_
  refine lv_iconst (v := nI 1) hx hb dL_law_320 (by decide) ?_
  refine lv_iadd hx hb dL_law_321 ?_
  rw [nI_add t 1]
  refine lw_ld K hS (j := t + 1) (by omega) hL dL_law_322 ?_
  refine lv_aload_n hx hb dL_law_323 rfl (lv_at hl 1 rfl) ?_
  refine lv_iload_n hx hb dL_law_324 rfl (lv_at hl 0 rfl) ?_
  refine lv_iconst (v := nI 2) hx hb dL_law_325 (by decide) ?_
  refine lv_iadd hx hb dL_law_326 ?_
  rw [nI_add t 2]
  refine lw_ld K hS (j := t + 2) (by omega) hL dL_law_327 ?_
  refine lw_cx K hP1 hP2 hS hl.1 (av := [.int (xs (t + 1)), .int (xs (t + 2))]) mv_L_44 (c_X8_take l D ca ad1 i1 (xs (t + 1)) (xs (t + 2)) mx _ _ ex) ⟨by omega, by omega, hR.2.2.1, hR.2.2.2⟩ rfl (Nat.le_of_ble_eq_true rfl) dL_law_328 rfl (fun H locs hP1 hP2 hS => ?_)
  refine W.eq (g2 := F0 m 331 ls [.int v]) rfl ?_
  refine lv_aload_n hx hb dL_law_331 rfl (lv_at hl 3 rfl) ?_
  refine lv_aload_n hx hb dL_law_332 rfl (lv_at hl 1 rfl) ?_
  refine lv_iload_n hx hb dL_law_333 rfl (lv_at hl 0 rfl) ?_
  refine lv_iconst (v := nI 1) hx hb dL_law_334 (by decide) ?_
  refine lv_iadd hx hb dL_law_335 ?_
  rw [nI_add t 1]
  refine lw_ld K hS (j := t + 1) (by omega) hL dL_law_336 ?_
  refine lv_aload_n hx hb dL_law_337 rfl (lv_at hl 1 rfl) ?_
  refine lv_iload_n hx hb dL_law_338 rfl (lv_at hl 0 rfl) ?_
  refine lv_iconst (v := nI 2) hx hb dL_law_339 (by decide) ?_
  refine lv_iadd hx hb dL_law_340 ?_
  rw [nI_add t 2]
  refine lw_ld K hS (j := t + 2) (by omega) hL dL_law_341 ?_
  refine lw_cm K hP1 hP2 hS hl.1 (av := [.int (xs (t + 1)), .int (xs (t + 2))]) mv_L_47 (c_X9_take l D ca ad2 i2 N (xs (t + 1)) (xs (t + 2)) mm _ _ em) ⟨by omega, by omega, hR.2.2.1, hR.2.2.2⟩ rfl (Nat.le_of_ble_eq_true rfl) dL_law_342 rfl (fun H locs hP1 hP2 hS => ?_)
  refine W.eq (g2 := F0 m 345 ls [.int v', .int v]) rfl ?_
  refine lv_icmp_eq (tgt := 887) hx hb dL_law_345 (by decide) (fun _ => ?_) (fun z => absurd hv z)
  exact kk H locs ⟨mx', mm', hP1, hP2, hR', hS⟩
theorem arm_8 {p : Program} {l : Launch} {e : Env} {R : Room} {s : State} {m : MethodId} {args : Array Value} {below : List Frame} {meth : Method} {c : Code} {D : va_G} {ca : Nat → ClassId} {ad1 ad2 : Nat → Nat} {b L : Nat} {xs : Nat → Int32} {H : Heap} {locs : List Loc} {cells slots : Nat} {ls : Array Slot} {Q : State → Prop} {N i t : Nat} (hN : 1000000000 ≤ N) (hi : i ≤ 64) (K : lwK p s m args c D ca ad1 ad2 b L xs) (hR : 40 ≤ R.frames ∧ 3000 ≤ R.locals ∧ cells ≤ R.cells ∧ slots ≤ R.slots) (hl : lv_has ls 4 [(3, .int (nI t)), (0, .ref b), (1, .ref (ad1 0)), (2, .ref (ad2 0))]) (ht : t + 5 ≤ L) (hL : L ≤ 320) (h : lwI D ca ad1 ad2 s i H locs)
    (kk : ∀ (H1 : Heap) (locs1 : List Loc), lwI D ca ad1 ad2 s (i + 1) H1 locs1 → W p l e R s m args below meth c H1 locs1 cells slots Q (F0 m 887 ls [])) : W p l e R s m args below meth c H locs cells slots Q (F0 m 350 ls []) := by
  obtain ⟨mx, mm, hP1, hP2, hRl, hS⟩ := h
  obtain ⟨X1, X2, f1, f2, ap, hX, hbl⟩ := id K
  have hx := X1.1
  have hb := X1.2.1
  have i1 : fl_inj L1 ad1 := X1.2.2.2.2.2.2
  have i2 : fl_inj L2 ad2 := X2.2.2.2.2.2.2
  have sim : Sim (i + 1) (f_X8_send (xs (t + 1)) (xs (t + 2)) mx) (f_X9_send N (xs (t + 1)) (xs (t + 2)) mm) := by
    first
    | exact sim_send hRl (xs (t + 1)) (xs (t + 2))
    | exact sim_send (N := N) (by omega) hRl (xs (t + 1)) (xs (t + 2))
    | exact sim_send (N := N) (by omega) hi hRl (xs (t + 1)) (xs (t + 2))
  obtain ⟨v, mx', ex, v', mm', em, hv, hR'⟩ := sim
  refine lv_aload_n hx hb dL_law_350 rfl (lv_at hl 2 rfl) ?_
  refine lv_aload_n hx hb dL_law_351 rfl (lv_at hl 1 rfl) ?_
  refine lv_iload_n hx hb dL_law_352 rfl (lv_at hl 0 rfl) ?_
  refine lv_iconst (v := nI 1) hx hb dL_law_353 (by decide) ?_
  refine lv_iadd hx hb dL_law_354 ?_
  rw [nI_add t 1]
  refine lw_ld K hS (j := t + 1) (by omega) hL dL_law_355 ?_
  refine lv_aload_n hx hb dL_law_356 rfl (lv_at hl 1 rfl) ?_
  refine lv_iload_n hx hb dL_law_357 rfl (lv_at hl 0 rfl) ?_
  refine lv_iconst (v := nI 2) hx hb dL_law_358 (by decide) ?_
  refine lv_iadd hx hb dL_law_359 ?_
  rw [nI_add t 2]
  refine lw_ld K hS (j := t + 2) (by omega) hL dL_law_360 ?_
  refine lw_cx K hP1 hP2 hS hl.1 (av := [.int (xs (t + 1)), .int (xs (t + 2))]) mv_L_48 (c_X8_send l D ca ad1 i1 (xs (t + 1)) (xs (t + 2)) mx _ _ ex) ⟨by omega, by omega, hR.2.2.1, hR.2.2.2⟩ rfl (Nat.le_of_ble_eq_true rfl) dL_law_361 rfl (fun H locs hP1 hP2 hS => ?_)
  refine W.eq (g2 := F0 m 364 ls [.int v]) rfl ?_
  refine lv_aload_n hx hb dL_law_364 rfl (lv_at hl 3 rfl) ?_
  refine lv_aload_n hx hb dL_law_365 rfl (lv_at hl 1 rfl) ?_
  refine lv_iload_n hx hb dL_law_366 rfl (lv_at hl 0 rfl) ?_
  refine lv_iconst (v := nI 1) hx hb dL_law_367 (by decide) ?_
  refine lv_iadd hx hb dL_law_368 ?_
  rw [nI_add t 1]
  refine lw_ld K hS (j := t + 1) (by omega) hL dL_law_369 ?_
  refine lv_aload_n hx hb dL_law_370 rfl (lv_at hl 1 rfl) ?_
  refine lv_iload_n hx hb dL_law_371 rfl (lv_at hl 0 rfl) ?_
  refine lv_iconst (v := nI 2) hx hb dL_law_372 (by decide) ?_
  refine lv_iadd hx hb dL_law_373 ?_
  rw [nI_add t 2]
  refine lw_ld K hS (j := t + 2) (by omega) hL dL_law_374 ?_
  refine lw_cm K hP1 hP2 hS hl.1 (av := [.int (xs (t + 1)), .int (xs (t + 2))]) mv_L_51 (c_X9_send l D ca ad2 i2 N (xs (t + 1)) (xs (t + 2)) mm _ _ em) ⟨by omega, by omega, hR.2.2.1, hR.2.2.2⟩ rfl (Nat.le_of_ble_eq_true rfl) dL_law_375 rfl (fun H locs hP1 hP2 hS => ?_)
  refine W.eq (g2 := F0 m 378 ls [.int v', .int v]) rfl ?_
  refine lv_icmp_eq (tgt := 887) hx hb dL_law_378 (by decide) (fun _ => ?_) (fun z => absurd hv z)
  exact kk H locs ⟨mx', mm', hP1, hP2, hR', hS⟩
theorem arm_9 {p : Program} {l : Launch} {e : Env} {R : Room} {s : State} {m : MethodId} {args : Array Value} {below : List Frame} {meth : Method} {c : Code} {D : va_G} {ca : Nat → ClassId} {ad1 ad2 : Nat → Nat} {b L : Nat} {xs : Nat → Int32} {H : Heap} {locs : List Loc} {cells slots : Nat} {ls : Array Slot} {Q : State → Prop} {N i t : Nat} (hN : 1000000000 ≤ N) (hi : i ≤ 64) (K : lwK p s m args c D ca ad1 ad2 b L xs) (hR : 40 ≤ R.frames ∧ 3000 ≤ R.locals ∧ cells ≤ R.cells ∧ slots ≤ R.slots) (hl : lv_has ls 4 [(3, .int (nI t)), (0, .ref b), (1, .ref (ad1 0)), (2, .ref (ad2 0))]) (ht : t + 5 ≤ L) (hL : L ≤ 320) (h : lwI D ca ad1 ad2 s i H locs)
    (kk : ∀ (H1 : Heap) (locs1 : List Loc), lwI D ca ad1 ad2 s (i + 1) H1 locs1 → W p l e R s m args below meth c H1 locs1 cells slots Q (F0 m 887 ls [])) : W p l e R s m args below meth c H locs cells slots Q (F0 m 383 ls []) := by
  obtain ⟨mx, mm, hP1, hP2, hRl, hS⟩ := h
  obtain ⟨X1, X2, f1, f2, ap, hX, hbl⟩ := id K
  have hx := X1.1
  have hb := X1.2.1
  have i1 : fl_inj L1 ad1 := X1.2.2.2.2.2.2
  have i2 : fl_inj L2 ad2 := X2.2.2.2.2.2.2
  have sim : Sim (i + 1) (f_X8_pass (xs (t + 1)) mx) (f_X9_pass N (xs (t + 1)) mm) := by
    first
    | exact sim_pass hRl (xs (t + 1))
    | exact sim_pass (N := N) (by omega) hRl (xs (t + 1))
    | exact sim_pass (N := N) (by omega) hi hRl (xs (t + 1))
  obtain ⟨v, mx', ex, v', mm', em, hv, hR'⟩ := sim
  refine lv_aload_n hx hb dL_law_383 rfl (lv_at hl 2 rfl) ?_
  refine lv_aload_n hx hb dL_law_384 rfl (lv_at hl 1 rfl) ?_
  refine lv_iload_n hx hb dL_law_385 rfl (lv_at hl 0 rfl) ?_
  refine lv_iconst (v := nI 1) hx hb dL_law_386 (by decide) ?_
  refine lv_iadd hx hb dL_law_387 ?_
  rw [nI_add t 1]
  refine lw_ld K hS (j := t + 1) (by omega) hL dL_law_388 ?_
  refine lw_cx K hP1 hP2 hS hl.1 (av := [.int (xs (t + 1))]) mv_L_52 (c_X8_pass l D ca ad1 i1 (xs (t + 1)) mx _ _ ex) ⟨by omega, by omega, hR.2.2.1, hR.2.2.2⟩ rfl (Nat.le_of_ble_eq_true rfl) dL_law_389 rfl (fun H locs hP1 hP2 hS => ?_)
  refine W.eq (g2 := F0 m 392 ls [.int v]) rfl ?_
  refine lv_aload_n hx hb dL_law_392 rfl (lv_at hl 3 rfl) ?_
  refine lv_aload_n hx hb dL_law_393 rfl (lv_at hl 1 rfl) ?_
  refine lv_iload_n hx hb dL_law_394 rfl (lv_at hl 0 rfl) ?_
  refine lv_iconst (v := nI 1) hx hb dL_law_395 (by decide) ?_
  refine lv_iadd hx hb dL_law_396 ?_
  rw [nI_add t 1]
  refine lw_ld K hS (j := t + 1) (by omega) hL dL_law_397 ?_
  refine lw_cm K hP1 hP2 hS hl.1 (av := [.int (xs (t + 1))]) mv_L_55 (c_X9_pass l D ca ad2 i2 N (xs (t + 1)) mm _ _ em) ⟨by omega, by omega, hR.2.2.1, hR.2.2.2⟩ rfl (Nat.le_of_ble_eq_true rfl) dL_law_398 rfl (fun H locs hP1 hP2 hS => ?_)
  refine W.eq (g2 := F0 m 401 ls [.int v', .int v]) rfl ?_
  refine lv_icmp_eq (tgt := 887) hx hb dL_law_401 (by decide) (fun _ => ?_) (fun z => absurd hv z)
  exact kk H locs ⟨mx', mm', hP1, hP2, hR', hS⟩
theorem arm_10 {p : Program} {l : Launch} {e : Env} {R : Room} {s : State} {m : MethodId} {args : Array Value} {below : List Frame} {meth : Method} {c : Code} {D : va_G} {ca : Nat → ClassId} {ad1 ad2 : Nat → Nat} {b L : Nat} {xs : Nat → Int32} {H : Heap} {locs : List Loc} {cells slots : Nat} {ls : Array Slot} {Q : State → Prop} {N i t : Nat} (hN : 1000000000 ≤ N) (hi : i ≤ 64) (K : lwK p s m args c D ca ad1 ad2 b L xs) (hR : 40 ≤ R.frames ∧ 3000 ≤ R.locals ∧ cells ≤ R.cells ∧ slots ≤ R.slots) (hl : lv_has ls 4 [(3, .int (nI t)), (0, .ref b), (1, .ref (ad1 0)), (2, .ref (ad2 0))]) (ht : t + 5 ≤ L) (hL : L ≤ 320) (h : lwI D ca ad1 ad2 s i H locs)
    (kk : ∀ (H1 : Heap) (locs1 : List Loc), lwI D ca ad1 ad2 s (i + 1) H1 locs1 → W p l e R s m args below meth c H1 locs1 cells slots Q (F0 m 887 ls [])) : W p l e R s m args below meth c H locs cells slots Q (F0 m 406 ls []) := by
  obtain ⟨mx, mm, hP1, hP2, hRl, hS⟩ := h
  obtain ⟨X1, X2, f1, f2, ap, hX, hbl⟩ := id K
  have hx := X1.1
  have hb := X1.2.1
  have i1 : fl_inj L1 ad1 := X1.2.2.2.2.2.2
  have i2 : fl_inj L2 ad2 := X2.2.2.2.2.2.2
  have sim : Sim (i + 1) (f_X8_undo  mx) (f_X9_undo N  mm) := by
    first
    | exact sim_undo hRl 
    | exact sim_undo (N := N) (by omega) hRl 
    | exact sim_undo (N := N) (by omega) hi hRl 
  obtain ⟨v, mx', ex, v', mm', em, hv, hR'⟩ := sim
  refine lv_aload_n hx hb dL_law_406 rfl (lv_at hl 2 rfl) ?_
  refine lw_cx K hP1 hP2 hS hl.1 (av := []) mv_L_56 (c_X8_undo l D ca ad1 i1  mx _ _ ex) ⟨by omega, by omega, hR.2.2.1, hR.2.2.2⟩ rfl (Nat.le_of_ble_eq_true rfl) dL_law_407 rfl (fun H locs hP1 hP2 hS => ?_)
  refine W.eq (g2 := F0 m 410 ls [.int v]) rfl ?_
  refine lv_aload_n hx hb dL_law_410 rfl (lv_at hl 3 rfl) ?_
  refine lw_cm K hP1 hP2 hS hl.1 (av := []) mv_L_59 (c_X9_undo l D ca ad2 i2 N  mm _ _ em) ⟨by omega, by omega, hR.2.2.1, hR.2.2.2⟩ rfl (Nat.le_of_ble_eq_true rfl) dL_law_411 rfl (fun H locs hP1 hP2 hS => ?_)
  refine W.eq (g2 := F0 m 414 ls [.int v', .int v]) rfl ?_
  refine lv_icmp_eq (tgt := 887) hx hb dL_law_414 (by decide) (fun _ => ?_) (fun z => absurd hv z)
  exact kk H locs ⟨mx', mm', hP1, hP2, hR', hS⟩
theorem arm_11 {p : Program} {l : Launch} {e : Env} {R : Room} {s : State} {m : MethodId} {args : Array Value} {below : List Frame} {meth : Method} {c : Code} {D : va_G} {ca : Nat → ClassId} {ad1 ad2 : Nat → Nat} {b L : Nat} {xs : Nat → Int32} {H : Heap} {locs : List Loc} {cells slots : Nat} {ls : Array Slot} {Q : State → Prop} {N i t : Nat} (hN : 1000000000 ≤ N) (hi : i ≤ 64) (K : lwK p s m args c D ca ad1 ad2 b L xs) (hR : 40 ≤ R.frames ∧ 3000 ≤ R.locals ∧ cells ≤ R.cells ∧ slots ≤ R.slots) (hl : lv_has ls 4 [(3, .int (nI t)), (0, .ref b), (1, .ref (ad1 0)), (2, .ref (ad2 0))]) (ht : t + 5 ≤ L) (hL : L ≤ 320) (h : lwI D ca ad1 ad2 s i H locs)
    (kk : ∀ (H1 : Heap) (locs1 : List Loc), lwI D ca ad1 ad2 s (i + 1) H1 locs1 → W p l e R s m args below meth c H1 locs1 cells slots Q (F0 m 887 ls [])) : W p l e R s m args below meth c H locs cells slots Q (F0 m 419 ls []) := by
  obtain ⟨mx, mm, hP1, hP2, hRl, hS⟩ := h
  obtain ⟨X1, X2, f1, f2, ap, hX, hbl⟩ := id K
  have hx := X1.1
  have hb := X1.2.1
  have i1 : fl_inj L1 ad1 := X1.2.2.2.2.2.2
  have i2 : fl_inj L2 ad2 := X2.2.2.2.2.2.2
  have sim : Sim (i + 1) (f_X8_ride (xs (t + 1)) (xs (t + 2)) (xs (t + 3)) mx) (f_X9_ride (xs (t + 1)) (xs (t + 2)) (xs (t + 3)) mm) := by
    first
    | exact sim_ride hRl (xs (t + 1)) (xs (t + 2)) (xs (t + 3))
    | exact sim_ride (N := N) (by omega) hRl (xs (t + 1)) (xs (t + 2)) (xs (t + 3))
    | exact sim_ride (N := N) (by omega) hi hRl (xs (t + 1)) (xs (t + 2)) (xs (t + 3))
  obtain ⟨v, mx', ex, v', mm', em, hv, hR'⟩ := sim
  refine lv_aload_n hx hb dL_law_419 rfl (lv_at hl 2 rfl) ?_
  refine lv_aload_n hx hb dL_law_420 rfl (lv_at hl 1 rfl) ?_
  refine lv_iload_n hx hb dL_law_421 rfl (lv_at hl 0 rfl) ?_
  refine lv_iconst (v := nI 1) hx hb dL_law_422 (by decide) ?_
  refine lv_iadd hx hb dL_law_423 ?_
  rw [nI_add t 1]
  refine lw_ld K hS (j := t + 1) (by omega) hL dL_law_424 ?_
  refine lv_aload_n hx hb dL_law_425 rfl (lv_at hl 1 rfl) ?_
  refine lv_iload_n hx hb dL_law_426 rfl (lv_at hl 0 rfl) ?_
  refine lv_iconst (v := nI 2) hx hb dL_law_427 (by decide) ?_
  refine lv_iadd hx hb dL_law_428 ?_
  rw [nI_add t 2]
  refine lw_ld K hS (j := t + 2) (by omega) hL dL_law_429 ?_
  refine lv_aload_n hx hb dL_law_430 rfl (lv_at hl 1 rfl) ?_
  refine lv_iload_n hx hb dL_law_431 rfl (lv_at hl 0 rfl) ?_
  refine lv_iconst (v := nI 3) hx hb dL_law_432 (by decide) ?_
  refine lv_iadd hx hb dL_law_433 ?_
  rw [nI_add t 3]
  refine lw_ld K hS (j := t + 3) (by omega) hL dL_law_434 ?_
  refine lw_cx K hP1 hP2 hS hl.1 (av := [.int (xs (t + 1)), .int (xs (t + 2)), .int (xs (t + 3))]) mv_L_60 (c_X8_ride l D ca ad1 i1 (xs (t + 1)) (xs (t + 2)) (xs (t + 3)) mx _ _ ex) ⟨by omega, by omega, hR.2.2.1, hR.2.2.2⟩ rfl (Nat.le_of_ble_eq_true rfl) dL_law_435 rfl (fun H locs hP1 hP2 hS => ?_)
  refine W.eq (g2 := F0 m 438 ls [.int v]) rfl ?_
  refine lv_aload_n hx hb dL_law_438 rfl (lv_at hl 3 rfl) ?_
  refine lv_aload_n hx hb dL_law_439 rfl (lv_at hl 1 rfl) ?_
  refine lv_iload_n hx hb dL_law_440 rfl (lv_at hl 0 rfl) ?_
  refine lv_iconst (v := nI 1) hx hb dL_law_441 (by decide) ?_
  refine lv_iadd hx hb dL_law_442 ?_
  rw [nI_add t 1]
  refine lw_ld K hS (j := t + 1) (by omega) hL dL_law_443 ?_
  refine lv_aload_n hx hb dL_law_444 rfl (lv_at hl 1 rfl) ?_
  refine lv_iload_n hx hb dL_law_445 rfl (lv_at hl 0 rfl) ?_
  refine lv_iconst (v := nI 2) hx hb dL_law_446 (by decide) ?_
  refine lv_iadd hx hb dL_law_447 ?_
  rw [nI_add t 2]
  refine lw_ld K hS (j := t + 2) (by omega) hL dL_law_448 ?_
  refine lv_aload_n hx hb dL_law_449 rfl (lv_at hl 1 rfl) ?_
  refine lv_iload_n hx hb dL_law_450 rfl (lv_at hl 0 rfl) ?_
  refine lv_iconst (v := nI 3) hx hb dL_law_451 (by decide) ?_
  refine lv_iadd hx hb dL_law_452 ?_
  rw [nI_add t 3]
  refine lw_ld K hS (j := t + 3) (by omega) hL dL_law_453 ?_
  refine lw_cm K hP1 hP2 hS hl.1 (av := [.int (xs (t + 1)), .int (xs (t + 2)), .int (xs (t + 3))]) mv_L_64 (c_X9_ride l D ca ad2 i2 (xs (t + 1)) (xs (t + 2)) (xs (t + 3)) mm _ _ em) ⟨by omega, by omega, hR.2.2.1, hR.2.2.2⟩ rfl (Nat.le_of_ble_eq_true rfl) dL_law_454 rfl (fun H locs hP1 hP2 hS => ?_)
  refine W.eq (g2 := F0 m 457 ls [.int v', .int v]) rfl ?_
  refine lv_icmp_eq (tgt := 887) hx hb dL_law_457 (by decide) (fun _ => ?_) (fun z => absurd hv z)
  exact kk H locs ⟨mx', mm', hP1, hP2, hR', hS⟩
theorem arm_12 {p : Program} {l : Launch} {e : Env} {R : Room} {s : State} {m : MethodId} {args : Array Value} {below : List Frame} {meth : Method} {c : Code} {D : va_G} {ca : Nat → ClassId} {ad1 ad2 : Nat → Nat} {b L : Nat} {xs : Nat → Int32} {H : Heap} {locs : List Loc} {cells slots : Nat} {ls : Array Slot} {Q : State → Prop} {N i t : Nat} (hN : 1000000000 ≤ N) (hi : i ≤ 64) (K : lwK p s m args c D ca ad1 ad2 b L xs) (hR : 40 ≤ R.frames ∧ 3000 ≤ R.locals ∧ cells ≤ R.cells ∧ slots ≤ R.slots) (hl : lv_has ls 4 [(3, .int (nI t)), (0, .ref b), (1, .ref (ad1 0)), (2, .ref (ad2 0))]) (ht : t + 5 ≤ L) (hL : L ≤ 320) (h : lwI D ca ad1 ad2 s i H locs)
    (kk : ∀ (H1 : Heap) (locs1 : List Loc), lwI D ca ad1 ad2 s (i + 1) H1 locs1 → W p l e R s m args below meth c H1 locs1 cells slots Q (F0 m 887 ls [])) : W p l e R s m args below meth c H locs cells slots Q (F0 m 462 ls []) := by
  obtain ⟨mx, mm, hP1, hP2, hRl, hS⟩ := h
  obtain ⟨X1, X2, f1, f2, ap, hX, hbl⟩ := id K
  have hx := X1.1
  have hb := X1.2.1
  have i1 : fl_inj L1 ad1 := X1.2.2.2.2.2.2
  have i2 : fl_inj L2 ad2 := X2.2.2.2.2.2.2
  have sim : Sim (i + 1) (f_X8_soonest N (xs (t + 1)) mx) (f_X9_soonest N (xs (t + 1)) mm) := by
    first
    | exact sim_soonest hRl (xs (t + 1))
    | exact sim_soonest (N := N) (by omega) hRl (xs (t + 1))
    | exact sim_soonest (N := N) (by omega) hi hRl (xs (t + 1))
  obtain ⟨v, mx', ex, v', mm', em, hv, hR'⟩ := sim
  refine lv_aload_n hx hb dL_law_462 rfl (lv_at hl 2 rfl) ?_
  refine lv_aload_n hx hb dL_law_463 rfl (lv_at hl 1 rfl) ?_
  refine lv_iload_n hx hb dL_law_464 rfl (lv_at hl 0 rfl) ?_
  refine lv_iconst (v := nI 1) hx hb dL_law_465 (by decide) ?_
  refine lv_iadd hx hb dL_law_466 ?_
  rw [nI_add t 1]
  refine lw_ld K hS (j := t + 1) (by omega) hL dL_law_467 ?_
  refine lw_cx K hP1 hP2 hS hl.1 (av := [.int (xs (t + 1))]) mv_L_65 (c_X8_soonest l D ca ad1 i1 N (xs (t + 1)) mx _ _ ex) ⟨by omega, by omega, hR.2.2.1, hR.2.2.2⟩ rfl (Nat.le_of_ble_eq_true rfl) dL_law_468 rfl (fun H locs hP1 hP2 hS => ?_)
  refine W.eq (g2 := F0 m 471 ls [.int v]) rfl ?_
  refine lv_aload_n hx hb dL_law_471 rfl (lv_at hl 3 rfl) ?_
  refine lv_aload_n hx hb dL_law_472 rfl (lv_at hl 1 rfl) ?_
  refine lv_iload_n hx hb dL_law_473 rfl (lv_at hl 0 rfl) ?_
  refine lv_iconst (v := nI 1) hx hb dL_law_474 (by decide) ?_
  refine lv_iadd hx hb dL_law_475 ?_
  rw [nI_add t 1]
  refine lw_ld K hS (j := t + 1) (by omega) hL dL_law_476 ?_
  refine lw_cm K hP1 hP2 hS hl.1 (av := [.int (xs (t + 1))]) mv_L_68 (c_X9_soonest l D ca ad2 i2 N (xs (t + 1)) mm _ _ em) ⟨by omega, by omega, hR.2.2.1, hR.2.2.2⟩ rfl (Nat.le_of_ble_eq_true rfl) dL_law_477 rfl (fun H locs hP1 hP2 hS => ?_)
  refine W.eq (g2 := F0 m 480 ls [.int v', .int v]) rfl ?_
  refine lv_icmp_eq (tgt := 887) hx hb dL_law_480 (by decide) (fun _ => ?_) (fun z => absurd hv z)
  exact kk H locs ⟨mx', mm', hP1, hP2, hR', hS⟩
theorem arm_13 {p : Program} {l : Launch} {e : Env} {R : Room} {s : State} {m : MethodId} {args : Array Value} {below : List Frame} {meth : Method} {c : Code} {D : va_G} {ca : Nat → ClassId} {ad1 ad2 : Nat → Nat} {b L : Nat} {xs : Nat → Int32} {H : Heap} {locs : List Loc} {cells slots : Nat} {ls : Array Slot} {Q : State → Prop} {N i t : Nat} (hN : 1000000000 ≤ N) (hi : i ≤ 64) (K : lwK p s m args c D ca ad1 ad2 b L xs) (hR : 40 ≤ R.frames ∧ 3000 ≤ R.locals ∧ cells ≤ R.cells ∧ slots ≤ R.slots) (hl : lv_has ls 4 [(3, .int (nI t)), (0, .ref b), (1, .ref (ad1 0)), (2, .ref (ad2 0))]) (ht : t + 5 ≤ L) (hL : L ≤ 320) (h : lwI D ca ad1 ad2 s i H locs)
    (kk : ∀ (H1 : Heap) (locs1 : List Loc), lwI D ca ad1 ad2 s (i + 1) H1 locs1 → W p l e R s m args below meth c H1 locs1 cells slots Q (F0 m 887 ls [])) : W p l e R s m args below meth c H locs cells slots Q (F0 m 485 ls []) := by
  obtain ⟨mx, mm, hP1, hP2, hRl, hS⟩ := h
  obtain ⟨X1, X2, f1, f2, ap, hX, hbl⟩ := id K
  have hx := X1.1
  have hb := X1.2.1
  have i1 : fl_inj L1 ad1 := X1.2.2.2.2.2.2
  have i2 : fl_inj L2 ad2 := X2.2.2.2.2.2.2
  have sim : Sim (i + 1) (f_X8_order N (xs (t + 1)) mx) (f_X9_order N (xs (t + 1)) mm) := by
    first
    | exact sim_order hRl (xs (t + 1))
    | exact sim_order (N := N) (by omega) hRl (xs (t + 1))
    | exact sim_order (N := N) (by omega) hi hRl (xs (t + 1))
  obtain ⟨v, mx', ex, v', mm', em, hv, hR'⟩ := sim
  refine lv_aload_n hx hb dL_law_485 rfl (lv_at hl 2 rfl) ?_
  refine lv_aload_n hx hb dL_law_486 rfl (lv_at hl 1 rfl) ?_
  refine lv_iload_n hx hb dL_law_487 rfl (lv_at hl 0 rfl) ?_
  refine lv_iconst (v := nI 1) hx hb dL_law_488 (by decide) ?_
  refine lv_iadd hx hb dL_law_489 ?_
  rw [nI_add t 1]
  refine lw_ld K hS (j := t + 1) (by omega) hL dL_law_490 ?_
  refine lw_cx K hP1 hP2 hS hl.1 (av := [.int (xs (t + 1))]) mv_L_69 (c_X8_order l D ca ad1 i1 N (xs (t + 1)) mx _ _ ex) ⟨by omega, by omega, hR.2.2.1, hR.2.2.2⟩ rfl (Nat.le_of_ble_eq_true rfl) dL_law_491 rfl (fun H locs hP1 hP2 hS => ?_)
  refine W.eq (g2 := F0 m 494 ls [.int v]) rfl ?_
  refine lv_aload_n hx hb dL_law_494 rfl (lv_at hl 3 rfl) ?_
  refine lv_aload_n hx hb dL_law_495 rfl (lv_at hl 1 rfl) ?_
  refine lv_iload_n hx hb dL_law_496 rfl (lv_at hl 0 rfl) ?_
  refine lv_iconst (v := nI 1) hx hb dL_law_497 (by decide) ?_
  refine lv_iadd hx hb dL_law_498 ?_
  rw [nI_add t 1]
  refine lw_ld K hS (j := t + 1) (by omega) hL dL_law_499 ?_
  refine lw_cm K hP1 hP2 hS hl.1 (av := [.int (xs (t + 1))]) mv_L_72 (c_X9_order l D ca ad2 i2 N (xs (t + 1)) mm _ _ em) ⟨by omega, by omega, hR.2.2.1, hR.2.2.2⟩ rfl (Nat.le_of_ble_eq_true rfl) dL_law_500 rfl (fun H locs hP1 hP2 hS => ?_)
  refine W.eq (g2 := F0 m 503 ls [.int v', .int v]) rfl ?_
  refine lv_icmp_eq (tgt := 887) hx hb dL_law_503 (by decide) (fun _ => ?_) (fun z => absurd hv z)
  exact kk H locs ⟨mx', mm', hP1, hP2, hR', hS⟩
theorem arm_14 {p : Program} {l : Launch} {e : Env} {R : Room} {s : State} {m : MethodId} {args : Array Value} {below : List Frame} {meth : Method} {c : Code} {D : va_G} {ca : Nat → ClassId} {ad1 ad2 : Nat → Nat} {b L : Nat} {xs : Nat → Int32} {H : Heap} {locs : List Loc} {cells slots : Nat} {ls : Array Slot} {Q : State → Prop} {N i t : Nat} (hN : 1000000000 ≤ N) (hi : i ≤ 64) (K : lwK p s m args c D ca ad1 ad2 b L xs) (hR : 40 ≤ R.frames ∧ 3000 ≤ R.locals ∧ cells ≤ R.cells ∧ slots ≤ R.slots) (hl : lv_has ls 4 [(3, .int (nI t)), (0, .ref b), (1, .ref (ad1 0)), (2, .ref (ad2 0))]) (ht : t + 5 ≤ L) (hL : L ≤ 320) (h : lwI D ca ad1 ad2 s i H locs)
    (kk : ∀ (H1 : Heap) (locs1 : List Loc), lwI D ca ad1 ad2 s (i + 1) H1 locs1 → W p l e R s m args below meth c H1 locs1 cells slots Q (F0 m 887 ls [])) : W p l e R s m args below meth c H locs cells slots Q (F0 m 508 ls []) := by
  obtain ⟨mx, mm, hP1, hP2, hRl, hS⟩ := h
  obtain ⟨X1, X2, f1, f2, ap, hX, hbl⟩ := id K
  have hx := X1.1
  have hb := X1.2.1
  have i1 : fl_inj L1 ad1 := X1.2.2.2.2.2.2
  have i2 : fl_inj L2 ad2 := X2.2.2.2.2.2.2
  have sim : Sim (i + 1) (f_X8_waiting N (xs (t + 1)) (xs (t + 2)) mx) (f_X9_waiting N (xs (t + 1)) (xs (t + 2)) mm) := by
    first
    | exact sim_waiting hRl (xs (t + 1)) (xs (t + 2))
    | exact sim_waiting (N := N) (by omega) hRl (xs (t + 1)) (xs (t + 2))
    | exact sim_waiting (N := N) (by omega) hi hRl (xs (t + 1)) (xs (t + 2))
  obtain ⟨v, mx', ex, v', mm', em, hv, hR'⟩ := sim
  refine lv_aload_n hx hb dL_law_508 rfl (lv_at hl 2 rfl) ?_
  refine lv_aload_n hx hb dL_law_509 rfl (lv_at hl 1 rfl) ?_
  refine lv_iload_n hx hb dL_law_510 rfl (lv_at hl 0 rfl) ?_
  refine lv_iconst (v := nI 1) hx hb dL_law_511 (by decide) ?_
  refine lv_iadd hx hb dL_law_512 ?_
  rw [nI_add t 1]
  refine lw_ld K hS (j := t + 1) (by omega) hL dL_law_513 ?_
  refine lv_aload_n hx hb dL_law_514 rfl (lv_at hl 1 rfl) ?_
  refine lv_iload_n hx hb dL_law_515 rfl (lv_at hl 0 rfl) ?_
  refine lv_iconst (v := nI 2) hx hb dL_law_516 (by decide) ?_
  refine lv_iadd hx hb dL_law_517 ?_
  rw [nI_add t 2]
  refine lw_ld K hS (j := t + 2) (by omega) hL dL_law_518 ?_
  refine lw_cx K hP1 hP2 hS hl.1 (av := [.int (xs (t + 1)), .int (xs (t + 2))]) mv_L_73 (c_X8_waiting l D ca ad1 i1 N (xs (t + 1)) (xs (t + 2)) mx _ _ ex) ⟨by omega, by omega, hR.2.2.1, hR.2.2.2⟩ rfl (Nat.le_of_ble_eq_true rfl) dL_law_519 rfl (fun H locs hP1 hP2 hS => ?_)
  refine W.eq (g2 := F0 m 522 ls [.int v]) rfl ?_
  refine lv_aload_n hx hb dL_law_522 rfl (lv_at hl 3 rfl) ?_
  refine lv_aload_n hx hb dL_law_523 rfl (lv_at hl 1 rfl) ?_
  refine lv_iload_n hx hb dL_law_524 rfl (lv_at hl 0 rfl) ?_
  refine lv_iconst (v := nI 1) hx hb dL_law_525 (by decide) ?_
  refine lv_iadd hx hb dL_law_526 ?_
  rw [nI_add t 1]
  refine lw_ld K hS (j := t + 1) (by omega) hL dL_law_527 ?_
  refine lv_aload_n hx hb dL_law_528 rfl (lv_at hl 1 rfl) ?_
  refine lv_iload_n hx hb dL_law_529 rfl (lv_at hl 0 rfl) ?_
  refine lv_iconst (v := nI 2) hx hb dL_law_530 (by decide) ?_
  refine lv_iadd hx hb dL_law_531 ?_
  rw [nI_add t 2]
  refine lw_ld K hS (j := t + 2) (by omega) hL dL_law_532 ?_
  refine lw_cm K hP1 hP2 hS hl.1 (av := [.int (xs (t + 1)), .int (xs (t + 2))]) mv_L_76 (c_X9_waiting l D ca ad2 i2 N (xs (t + 1)) (xs (t + 2)) mm _ _ em) ⟨by omega, by omega, hR.2.2.1, hR.2.2.2⟩ rfl (Nat.le_of_ble_eq_true rfl) dL_law_533 rfl (fun H locs hP1 hP2 hS => ?_)
  refine W.eq (g2 := F0 m 536 ls [.int v', .int v]) rfl ?_
  refine lv_icmp_eq (tgt := 887) hx hb dL_law_536 (by decide) (fun _ => ?_) (fun z => absurd hv z)
  exact kk H locs ⟨mx', mm', hP1, hP2, hR', hS⟩
theorem arm_15 {p : Program} {l : Launch} {e : Env} {R : Room} {s : State} {m : MethodId} {args : Array Value} {below : List Frame} {meth : Method} {c : Code} {D : va_G} {ca : Nat → ClassId} {ad1 ad2 : Nat → Nat} {b L : Nat} {xs : Nat → Int32} {H : Heap} {locs : List Loc} {cells slots : Nat} {ls : Array Slot} {Q : State → Prop} {N i t : Nat} (hN : 1000000000 ≤ N) (hi : i ≤ 64) (K : lwK p s m args c D ca ad1 ad2 b L xs) (hR : 40 ≤ R.frames ∧ 3000 ≤ R.locals ∧ cells ≤ R.cells ∧ slots ≤ R.slots) (hl : lv_has ls 4 [(3, .int (nI t)), (0, .ref b), (1, .ref (ad1 0)), (2, .ref (ad2 0))]) (ht : t + 5 ≤ L) (hL : L ≤ 320) (h : lwI D ca ad1 ad2 s i H locs)
    (kk : ∀ (H1 : Heap) (locs1 : List Loc), lwI D ca ad1 ad2 s (i + 1) H1 locs1 → W p l e R s m args below meth c H1 locs1 cells slots Q (F0 m 887 ls [])) : W p l e R s m args below meth c H locs cells slots Q (F0 m 541 ls []) := by
  obtain ⟨mx, mm, hP1, hP2, hRl, hS⟩ := h
  obtain ⟨X1, X2, f1, f2, ap, hX, hbl⟩ := id K
  have hx := X1.1
  have hb := X1.2.1
  have i1 : fl_inj L1 ad1 := X1.2.2.2.2.2.2
  have i2 : fl_inj L2 ad2 := X2.2.2.2.2.2.2
  have sim : Sim (i + 1) (f_X8_round N (xs (t + 1)) mx) (f_X9_round N (xs (t + 1)) mm) := by
    first
    | exact sim_round hRl (xs (t + 1))
    | exact sim_round (N := N) (by omega) hRl (xs (t + 1))
    | exact sim_round (N := N) (by omega) hi hRl (xs (t + 1))
  obtain ⟨v, mx', ex, v', mm', em, hv, hR'⟩ := sim
  refine lv_aload_n hx hb dL_law_541 rfl (lv_at hl 2 rfl) ?_
  refine lv_aload_n hx hb dL_law_542 rfl (lv_at hl 1 rfl) ?_
  refine lv_iload_n hx hb dL_law_543 rfl (lv_at hl 0 rfl) ?_
  refine lv_iconst (v := nI 1) hx hb dL_law_544 (by decide) ?_
  refine lv_iadd hx hb dL_law_545 ?_
  rw [nI_add t 1]
  refine lw_ld K hS (j := t + 1) (by omega) hL dL_law_546 ?_
  refine lw_cx K hP1 hP2 hS hl.1 (av := [.int (xs (t + 1))]) mv_L_77 (c_X8_round l D ca ad1 i1 N (xs (t + 1)) mx _ _ ex) ⟨by omega, by omega, hR.2.2.1, hR.2.2.2⟩ rfl (Nat.le_of_ble_eq_true rfl) dL_law_547 rfl (fun H locs hP1 hP2 hS => ?_)
  refine W.eq (g2 := F0 m 550 ls [.int v]) rfl ?_
  refine lv_aload_n hx hb dL_law_550 rfl (lv_at hl 3 rfl) ?_
  refine lv_aload_n hx hb dL_law_551 rfl (lv_at hl 1 rfl) ?_
  refine lv_iload_n hx hb dL_law_552 rfl (lv_at hl 0 rfl) ?_
  refine lv_iconst (v := nI 1) hx hb dL_law_553 (by decide) ?_
  refine lv_iadd hx hb dL_law_554 ?_
  rw [nI_add t 1]
  refine lw_ld K hS (j := t + 1) (by omega) hL dL_law_555 ?_
  refine lw_cm K hP1 hP2 hS hl.1 (av := [.int (xs (t + 1))]) mv_L_80 (c_X9_round l D ca ad2 i2 N (xs (t + 1)) mm _ _ em) ⟨by omega, by omega, hR.2.2.1, hR.2.2.2⟩ rfl (Nat.le_of_ble_eq_true rfl) dL_law_556 rfl (fun H locs hP1 hP2 hS => ?_)
  refine W.eq (g2 := F0 m 559 ls [.int v', .int v]) rfl ?_
  refine lv_icmp_eq (tgt := 887) hx hb dL_law_559 (by decide) (fun _ => ?_) (fun z => absurd hv z)
  exact kk H locs ⟨mx', mm', hP1, hP2, hR', hS⟩
theorem arm_16 {p : Program} {l : Launch} {e : Env} {R : Room} {s : State} {m : MethodId} {args : Array Value} {below : List Frame} {meth : Method} {c : Code} {D : va_G} {ca : Nat → ClassId} {ad1 ad2 : Nat → Nat} {b L : Nat} {xs : Nat → Int32} {H : Heap} {locs : List Loc} {cells slots : Nat} {ls : Array Slot} {Q : State → Prop} {N i t : Nat} (hN : 1000000000 ≤ N) (hi : i ≤ 64) (K : lwK p s m args c D ca ad1 ad2 b L xs) (hR : 40 ≤ R.frames ∧ 3000 ≤ R.locals ∧ cells ≤ R.cells ∧ slots ≤ R.slots) (hl : lv_has ls 4 [(3, .int (nI t)), (0, .ref b), (1, .ref (ad1 0)), (2, .ref (ad2 0))]) (ht : t + 5 ≤ L) (hL : L ≤ 320) (h : lwI D ca ad1 ad2 s i H locs)
    (kk : ∀ (H1 : Heap) (locs1 : List Loc), lwI D ca ad1 ad2 s (i + 1) H1 locs1 → W p l e R s m args below meth c H1 locs1 cells slots Q (F0 m 887 ls [])) : W p l e R s m args below meth c H locs cells slots Q (F0 m 564 ls []) := by
  obtain ⟨mx, mm, hP1, hP2, hRl, hS⟩ := h
  obtain ⟨X1, X2, f1, f2, ap, hX, hbl⟩ := id K
  have hx := X1.1
  have hb := X1.2.1
  have i1 : fl_inj L1 ad1 := X1.2.2.2.2.2.2
  have i2 : fl_inj L2 ad2 := X2.2.2.2.2.2.2
  have sim : Sim (i + 1) (f_X8_mends N (xs (t + 1)) mx) (f_X9_mends N (xs (t + 1)) mm) := by
    first
    | exact sim_mends hRl (xs (t + 1))
    | exact sim_mends (N := N) (by omega) hRl (xs (t + 1))
    | exact sim_mends (N := N) (by omega) hi hRl (xs (t + 1))
  obtain ⟨v, mx', ex, v', mm', em, hv, hR'⟩ := sim
  refine lv_aload_n hx hb dL_law_564 rfl (lv_at hl 2 rfl) ?_
  refine lv_aload_n hx hb dL_law_565 rfl (lv_at hl 1 rfl) ?_
  refine lv_iload_n hx hb dL_law_566 rfl (lv_at hl 0 rfl) ?_
  refine lv_iconst (v := nI 1) hx hb dL_law_567 (by decide) ?_
  refine lv_iadd hx hb dL_law_568 ?_
  rw [nI_add t 1]
  refine lw_ld K hS (j := t + 1) (by omega) hL dL_law_569 ?_
  refine lw_cx K hP1 hP2 hS hl.1 (av := [.int (xs (t + 1))]) mv_L_81 (c_X8_mends l D ca ad1 i1 N (xs (t + 1)) mx _ _ ex) ⟨by omega, by omega, hR.2.2.1, hR.2.2.2⟩ rfl (Nat.le_of_ble_eq_true rfl) dL_law_570 rfl (fun H locs hP1 hP2 hS => ?_)
  refine W.eq (g2 := F0 m 573 ls [.int v]) rfl ?_
  refine lv_aload_n hx hb dL_law_573 rfl (lv_at hl 3 rfl) ?_
  refine lv_aload_n hx hb dL_law_574 rfl (lv_at hl 1 rfl) ?_
  refine lv_iload_n hx hb dL_law_575 rfl (lv_at hl 0 rfl) ?_
  refine lv_iconst (v := nI 1) hx hb dL_law_576 (by decide) ?_
  refine lv_iadd hx hb dL_law_577 ?_
  rw [nI_add t 1]
  refine lw_ld K hS (j := t + 1) (by omega) hL dL_law_578 ?_
  refine lw_cm K hP1 hP2 hS hl.1 (av := [.int (xs (t + 1))]) mv_L_84 (c_X9_mends l D ca ad2 i2 N (xs (t + 1)) mm _ _ em) ⟨by omega, by omega, hR.2.2.1, hR.2.2.2⟩ rfl (Nat.le_of_ble_eq_true rfl) dL_law_579 rfl (fun H locs hP1 hP2 hS => ?_)
  refine W.eq (g2 := F0 m 582 ls [.int v', .int v]) rfl ?_
  refine lv_icmp_eq (tgt := 887) hx hb dL_law_582 (by decide) (fun _ => ?_) (fun z => absurd hv z)
  exact kk H locs ⟨mx', mm', hP1, hP2, hR', hS⟩
theorem arm_17 {p : Program} {l : Launch} {e : Env} {R : Room} {s : State} {m : MethodId} {args : Array Value} {below : List Frame} {meth : Method} {c : Code} {D : va_G} {ca : Nat → ClassId} {ad1 ad2 : Nat → Nat} {b L : Nat} {xs : Nat → Int32} {H : Heap} {locs : List Loc} {cells slots : Nat} {ls : Array Slot} {Q : State → Prop} {N i t : Nat} (hN : 1000000000 ≤ N) (hi : i ≤ 64) (K : lwK p s m args c D ca ad1 ad2 b L xs) (hR : 40 ≤ R.frames ∧ 3000 ≤ R.locals ∧ cells ≤ R.cells ∧ slots ≤ R.slots) (hl : lv_has ls 4 [(3, .int (nI t)), (0, .ref b), (1, .ref (ad1 0)), (2, .ref (ad2 0))]) (ht : t + 5 ≤ L) (hL : L ≤ 320) (h : lwI D ca ad1 ad2 s i H locs)
    (kk : ∀ (H1 : Heap) (locs1 : List Loc), lwI D ca ad1 ad2 s (i + 1) H1 locs1 → W p l e R s m args below meth c H1 locs1 cells slots Q (F0 m 887 ls [])) : W p l e R s m args below meth c H locs cells slots Q (F0 m 587 ls []) := by
  obtain ⟨mx, mm, hP1, hP2, hRl, hS⟩ := h
  obtain ⟨X1, X2, f1, f2, ap, hX, hbl⟩ := id K
  have hx := X1.1
  have hb := X1.2.1
  have i1 : fl_inj L1 ad1 := X1.2.2.2.2.2.2
  have i2 : fl_inj L2 ad2 := X2.2.2.2.2.2.2
  have sim : Sim (i + 1) (f_X8_rivals N (xs (t + 1)) (xs (t + 2)) (xs (t + 3)) (xs (t + 4)) mx) (f_X9_rivals N (xs (t + 1)) (xs (t + 2)) (xs (t + 3)) (xs (t + 4)) mm) := by
    first
    | exact sim_rivals hRl (xs (t + 1)) (xs (t + 2)) (xs (t + 3)) (xs (t + 4))
    | exact sim_rivals (N := N) (by omega) hRl (xs (t + 1)) (xs (t + 2)) (xs (t + 3)) (xs (t + 4))
    | exact sim_rivals (N := N) (by omega) hi hRl (xs (t + 1)) (xs (t + 2)) (xs (t + 3)) (xs (t + 4))
  obtain ⟨v, mx', ex, v', mm', em, hv, hR'⟩ := sim
  refine lv_aload_n hx hb dL_law_587 rfl (lv_at hl 2 rfl) ?_
  refine lv_aload_n hx hb dL_law_588 rfl (lv_at hl 1 rfl) ?_
  refine lv_iload_n hx hb dL_law_589 rfl (lv_at hl 0 rfl) ?_
  refine lv_iconst (v := nI 1) hx hb dL_law_590 (by decide) ?_
  refine lv_iadd hx hb dL_law_591 ?_
  rw [nI_add t 1]
  refine lw_ld K hS (j := t + 1) (by omega) hL dL_law_592 ?_
  refine lv_aload_n hx hb dL_law_593 rfl (lv_at hl 1 rfl) ?_
  refine lv_iload_n hx hb dL_law_594 rfl (lv_at hl 0 rfl) ?_
  refine lv_iconst (v := nI 2) hx hb dL_law_595 (by decide) ?_
  refine lv_iadd hx hb dL_law_596 ?_
  rw [nI_add t 2]
  refine lw_ld K hS (j := t + 2) (by omega) hL dL_law_597 ?_
  refine lv_aload_n hx hb dL_law_598 rfl (lv_at hl 1 rfl) ?_
  refine lv_iload_n hx hb dL_law_599 rfl (lv_at hl 0 rfl) ?_
  refine lv_iconst (v := nI 3) hx hb dL_law_600 (by decide) ?_
  refine lv_iadd hx hb dL_law_601 ?_
  rw [nI_add t 3]
  refine lw_ld K hS (j := t + 3) (by omega) hL dL_law_602 ?_
  refine lv_aload_n hx hb dL_law_603 rfl (lv_at hl 1 rfl) ?_
  refine lv_iload_n hx hb dL_law_604 rfl (lv_at hl 0 rfl) ?_
  refine lv_iconst (v := nI 4) hx hb dL_law_605 (by decide) ?_
  refine lv_iadd hx hb dL_law_606 ?_
  rw [nI_add t 4]
  refine lw_ld K hS (j := t + 4) (by omega) hL dL_law_607 ?_
  refine lw_cx K hP1 hP2 hS hl.1 (av := [.int (xs (t + 1)), .int (xs (t + 2)), .int (xs (t + 3)), .int (xs (t + 4))]) mv_L_85 (c_X8_rivals l D ca ad1 i1 N (xs (t + 1)) (xs (t + 2)) (xs (t + 3)) (xs (t + 4)) mx _ _ ex) ⟨by omega, by omega, hR.2.2.1, hR.2.2.2⟩ rfl (Nat.le_of_ble_eq_true rfl) dL_law_608 rfl (fun H locs hP1 hP2 hS => ?_)
  refine W.eq (g2 := F0 m 611 ls [.int v]) rfl ?_
  refine lv_aload_n hx hb dL_law_611 rfl (lv_at hl 3 rfl) ?_
  refine lv_aload_n hx hb dL_law_612 rfl (lv_at hl 1 rfl) ?_
  refine lv_iload_n hx hb dL_law_613 rfl (lv_at hl 0 rfl) ?_
  refine lv_iconst (v := nI 1) hx hb dL_law_614 (by decide) ?_
  refine lv_iadd hx hb dL_law_615 ?_
  rw [nI_add t 1]
  refine lw_ld K hS (j := t + 1) (by omega) hL dL_law_616 ?_
  refine lv_aload_n hx hb dL_law_617 rfl (lv_at hl 1 rfl) ?_
  refine lv_iload_n hx hb dL_law_618 rfl (lv_at hl 0 rfl) ?_
  refine lv_iconst (v := nI 2) hx hb dL_law_619 (by decide) ?_
  refine lv_iadd hx hb dL_law_620 ?_
  rw [nI_add t 2]
  refine lw_ld K hS (j := t + 2) (by omega) hL dL_law_621 ?_
  refine lv_aload_n hx hb dL_law_622 rfl (lv_at hl 1 rfl) ?_
  refine lv_iload_n hx hb dL_law_623 rfl (lv_at hl 0 rfl) ?_
  refine lv_iconst (v := nI 3) hx hb dL_law_624 (by decide) ?_
  refine lv_iadd hx hb dL_law_625 ?_
  rw [nI_add t 3]
  refine lw_ld K hS (j := t + 3) (by omega) hL dL_law_626 ?_
  refine lv_aload_n hx hb dL_law_627 rfl (lv_at hl 1 rfl) ?_
  refine lv_iload_n hx hb dL_law_628 rfl (lv_at hl 0 rfl) ?_
  refine lv_iconst (v := nI 4) hx hb dL_law_629 (by decide) ?_
  refine lv_iadd hx hb dL_law_630 ?_
  rw [nI_add t 4]
  refine lw_ld K hS (j := t + 4) (by omega) hL dL_law_631 ?_
  refine lw_cm K hP1 hP2 hS hl.1 (av := [.int (xs (t + 1)), .int (xs (t + 2)), .int (xs (t + 3)), .int (xs (t + 4))]) mv_L_89 (c_X9_rivals l D ca ad2 i2 N (xs (t + 1)) (xs (t + 2)) (xs (t + 3)) (xs (t + 4)) mm _ _ em) ⟨by omega, by omega, hR.2.2.1, hR.2.2.2⟩ rfl (Nat.le_of_ble_eq_true rfl) dL_law_632 rfl (fun H locs hP1 hP2 hS => ?_)
  refine W.eq (g2 := F0 m 635 ls [.int v', .int v]) rfl ?_
  refine lv_icmp_eq (tgt := 887) hx hb dL_law_635 (by decide) (fun _ => ?_) (fun z => absurd hv z)
  exact kk H locs ⟨mx', mm', hP1, hP2, hR', hS⟩
theorem arm_18 {p : Program} {l : Launch} {e : Env} {R : Room} {s : State} {m : MethodId} {args : Array Value} {below : List Frame} {meth : Method} {c : Code} {D : va_G} {ca : Nat → ClassId} {ad1 ad2 : Nat → Nat} {b L : Nat} {xs : Nat → Int32} {H : Heap} {locs : List Loc} {cells slots : Nat} {ls : Array Slot} {Q : State → Prop} {N i t : Nat} (hN : 1000000000 ≤ N) (hi : i ≤ 64) (K : lwK p s m args c D ca ad1 ad2 b L xs) (hR : 40 ≤ R.frames ∧ 3000 ≤ R.locals ∧ cells ≤ R.cells ∧ slots ≤ R.slots) (hl : lv_has ls 4 [(3, .int (nI t)), (0, .ref b), (1, .ref (ad1 0)), (2, .ref (ad2 0))]) (ht : t + 5 ≤ L) (hL : L ≤ 320) (h : lwI D ca ad1 ad2 s i H locs)
    (kk : ∀ (H1 : Heap) (locs1 : List Loc), lwI D ca ad1 ad2 s (i + 1) H1 locs1 → W p l e R s m args below meth c H1 locs1 cells slots Q (F0 m 887 ls [])) : W p l e R s m args below meth c H locs cells slots Q (F0 m 640 ls []) := by
  obtain ⟨mx, mm, hP1, hP2, hRl, hS⟩ := h
  obtain ⟨X1, X2, f1, f2, ap, hX, hbl⟩ := id K
  have hx := X1.1
  have hb := X1.2.1
  have i1 : fl_inj L1 ad1 := X1.2.2.2.2.2.2
  have i2 : fl_inj L2 ad2 := X2.2.2.2.2.2.2
  have sim : Sim (i + 1) (f_X8_see (xs (t + 1)) (xs (t + 2)) (xs (t + 3)) mx) (f_X9_see (xs (t + 1)) (xs (t + 2)) (xs (t + 3)) mm) := by
    first
    | exact sim_see hRl (xs (t + 1)) (xs (t + 2)) (xs (t + 3))
    | exact sim_see (N := N) (by omega) hRl (xs (t + 1)) (xs (t + 2)) (xs (t + 3))
    | exact sim_see (N := N) (by omega) hi hRl (xs (t + 1)) (xs (t + 2)) (xs (t + 3))
  obtain ⟨v, mx', ex, v', mm', em, hv, hR'⟩ := sim
  refine lv_aload_n hx hb dL_law_640 rfl (lv_at hl 2 rfl) ?_
  refine lv_aload_n hx hb dL_law_641 rfl (lv_at hl 1 rfl) ?_
  refine lv_iload_n hx hb dL_law_642 rfl (lv_at hl 0 rfl) ?_
  refine lv_iconst (v := nI 1) hx hb dL_law_643 (by decide) ?_
  refine lv_iadd hx hb dL_law_644 ?_
  rw [nI_add t 1]
  refine lw_ld K hS (j := t + 1) (by omega) hL dL_law_645 ?_
  refine lv_aload_n hx hb dL_law_646 rfl (lv_at hl 1 rfl) ?_
  refine lv_iload_n hx hb dL_law_647 rfl (lv_at hl 0 rfl) ?_
  refine lv_iconst (v := nI 2) hx hb dL_law_648 (by decide) ?_
  refine lv_iadd hx hb dL_law_649 ?_
  rw [nI_add t 2]
  refine lw_ld K hS (j := t + 2) (by omega) hL dL_law_650 ?_
  refine lv_aload_n hx hb dL_law_651 rfl (lv_at hl 1 rfl) ?_
  refine lv_iload_n hx hb dL_law_652 rfl (lv_at hl 0 rfl) ?_
  refine lv_iconst (v := nI 3) hx hb dL_law_653 (by decide) ?_
  refine lv_iadd hx hb dL_law_654 ?_
  rw [nI_add t 3]
  refine lw_ld K hS (j := t + 3) (by omega) hL dL_law_655 ?_
  refine lw_cx K hP1 hP2 hS hl.1 (av := [.int (xs (t + 1)), .int (xs (t + 2)), .int (xs (t + 3))]) mv_L_90 (c_X8_see l D ca ad1 i1 (xs (t + 1)) (xs (t + 2)) (xs (t + 3)) mx _ _ ex) ⟨by omega, by omega, hR.2.2.1, hR.2.2.2⟩ rfl (Nat.le_of_ble_eq_true rfl) dL_law_656 rfl (fun H locs hP1 hP2 hS => ?_)
  refine W.eq (g2 := F0 m 659 ls [.int v]) rfl ?_
  refine lv_aload_n hx hb dL_law_659 rfl (lv_at hl 3 rfl) ?_
  refine lv_aload_n hx hb dL_law_660 rfl (lv_at hl 1 rfl) ?_
  refine lv_iload_n hx hb dL_law_661 rfl (lv_at hl 0 rfl) ?_
  refine lv_iconst (v := nI 1) hx hb dL_law_662 (by decide) ?_
  refine lv_iadd hx hb dL_law_663 ?_
  rw [nI_add t 1]
  refine lw_ld K hS (j := t + 1) (by omega) hL dL_law_664 ?_
  refine lv_aload_n hx hb dL_law_665 rfl (lv_at hl 1 rfl) ?_
  refine lv_iload_n hx hb dL_law_666 rfl (lv_at hl 0 rfl) ?_
  refine lv_iconst (v := nI 2) hx hb dL_law_667 (by decide) ?_
  refine lv_iadd hx hb dL_law_668 ?_
  rw [nI_add t 2]
  refine lw_ld K hS (j := t + 2) (by omega) hL dL_law_669 ?_
  refine lv_aload_n hx hb dL_law_670 rfl (lv_at hl 1 rfl) ?_
  refine lv_iload_n hx hb dL_law_671 rfl (lv_at hl 0 rfl) ?_
  refine lv_iconst (v := nI 3) hx hb dL_law_672 (by decide) ?_
  refine lv_iadd hx hb dL_law_673 ?_
  rw [nI_add t 3]
  refine lw_ld K hS (j := t + 3) (by omega) hL dL_law_674 ?_
  refine lw_cm K hP1 hP2 hS hl.1 (av := [.int (xs (t + 1)), .int (xs (t + 2)), .int (xs (t + 3))]) mv_L_93 (c_X9_see l D ca ad2 i2 (xs (t + 1)) (xs (t + 2)) (xs (t + 3)) mm _ _ em) ⟨by omega, by omega, hR.2.2.1, hR.2.2.2⟩ rfl (Nat.le_of_ble_eq_true rfl) dL_law_675 rfl (fun H locs hP1 hP2 hS => ?_)
  refine W.eq (g2 := F0 m 678 ls [.int v', .int v]) rfl ?_
  refine lv_icmp_eq (tgt := 887) hx hb dL_law_678 (by decide) (fun _ => ?_) (fun z => absurd hv z)
  exact kk H locs ⟨mx', mm', hP1, hP2, hR', hS⟩
theorem arm_19 {p : Program} {l : Launch} {e : Env} {R : Room} {s : State} {m : MethodId} {args : Array Value} {below : List Frame} {meth : Method} {c : Code} {D : va_G} {ca : Nat → ClassId} {ad1 ad2 : Nat → Nat} {b L : Nat} {xs : Nat → Int32} {H : Heap} {locs : List Loc} {cells slots : Nat} {ls : Array Slot} {Q : State → Prop} {N i t : Nat} (hN : 1000000000 ≤ N) (hi : i ≤ 64) (K : lwK p s m args c D ca ad1 ad2 b L xs) (hR : 40 ≤ R.frames ∧ 3000 ≤ R.locals ∧ cells ≤ R.cells ∧ slots ≤ R.slots) (hl : lv_has ls 4 [(3, .int (nI t)), (0, .ref b), (1, .ref (ad1 0)), (2, .ref (ad2 0))]) (ht : t + 5 ≤ L) (hL : L ≤ 320) (h : lwI D ca ad1 ad2 s i H locs)
    (kk : ∀ (H1 : Heap) (locs1 : List Loc), lwI D ca ad1 ad2 s (i + 1) H1 locs1 → W p l e R s m args below meth c H1 locs1 cells slots Q (F0 m 887 ls [])) : W p l e R s m args below meth c H locs cells slots Q (F0 m 683 ls []) := by
  obtain ⟨mx, mm, hP1, hP2, hRl, hS⟩ := h
  obtain ⟨X1, X2, f1, f2, ap, hX, hbl⟩ := id K
  have hx := X1.1
  have hb := X1.2.1
  have i1 : fl_inj L1 ad1 := X1.2.2.2.2.2.2
  have i2 : fl_inj L2 ad2 := X2.2.2.2.2.2.2
  have sim : Sim (i + 1) (f_X8_forget  mx) (f_X9_forget  mm) := by
    first
    | exact sim_forget hRl 
    | exact sim_forget (N := N) (by omega) hRl 
    | exact sim_forget (N := N) (by omega) hi hRl 
  obtain ⟨v, mx', ex, v', mm', em, hv, hR'⟩ := sim
  refine lv_aload_n hx hb dL_law_683 rfl (lv_at hl 2 rfl) ?_
  refine lw_cx K hP1 hP2 hS hl.1 (av := []) mv_L_94 (c_X8_forget l D ca ad1 i1  mx _ _ ex) ⟨by omega, by omega, hR.2.2.1, hR.2.2.2⟩ rfl (Nat.le_of_ble_eq_true rfl) dL_law_684 rfl (fun H locs hP1 hP2 hS => ?_)
  refine W.eq (g2 := F0 m 687 ls [.int v]) rfl ?_
  refine lv_aload_n hx hb dL_law_687 rfl (lv_at hl 3 rfl) ?_
  refine lw_cm K hP1 hP2 hS hl.1 (av := []) mv_L_97 (c_X9_forget l D ca ad2 i2  mm _ _ em) ⟨by omega, by omega, hR.2.2.1, hR.2.2.2⟩ rfl (Nat.le_of_ble_eq_true rfl) dL_law_688 rfl (fun H locs hP1 hP2 hS => ?_)
  refine W.eq (g2 := F0 m 691 ls [.int v', .int v]) rfl ?_
  refine lv_icmp_eq (tgt := 887) hx hb dL_law_691 (by decide) (fun _ => ?_) (fun z => absurd hv z)
  exact kk H locs ⟨mx', mm', hP1, hP2, hR', hS⟩
theorem arm_20 {p : Program} {l : Launch} {e : Env} {R : Room} {s : State} {m : MethodId} {args : Array Value} {below : List Frame} {meth : Method} {c : Code} {D : va_G} {ca : Nat → ClassId} {ad1 ad2 : Nat → Nat} {b L : Nat} {xs : Nat → Int32} {H : Heap} {locs : List Loc} {cells slots : Nat} {ls : Array Slot} {Q : State → Prop} {N i t : Nat} (hN : 1000000000 ≤ N) (hi : i ≤ 64) (K : lwK p s m args c D ca ad1 ad2 b L xs) (hR : 40 ≤ R.frames ∧ 3000 ≤ R.locals ∧ cells ≤ R.cells ∧ slots ≤ R.slots) (hl : lv_has ls 4 [(3, .int (nI t)), (0, .ref b), (1, .ref (ad1 0)), (2, .ref (ad2 0))]) (ht : t + 5 ≤ L) (hL : L ≤ 320) (h : lwI D ca ad1 ad2 s i H locs)
    (kk : ∀ (H1 : Heap) (locs1 : List Loc), lwI D ca ad1 ad2 s (i + 1) H1 locs1 → W p l e R s m args below meth c H1 locs1 cells slots Q (F0 m 887 ls [])) : W p l e R s m args below meth c H locs cells slots Q (F0 m 696 ls []) := by
  obtain ⟨mx, mm, hP1, hP2, hRl, hS⟩ := h
  obtain ⟨X1, X2, f1, f2, ap, hX, hbl⟩ := id K
  have hx := X1.1
  have hb := X1.2.1
  have i1 : fl_inj L1 ad1 := X1.2.2.2.2.2.2
  have i2 : fl_inj L2 ad2 := X2.2.2.2.2.2.2
  have sim : Sim (i + 1) (f_X8_wept N (xs (t + 1)) (xs (t + 2)) mx) (f_X9_wept N (xs (t + 1)) (xs (t + 2)) mm) := by
    first
    | exact sim_wept hRl (xs (t + 1)) (xs (t + 2))
    | exact sim_wept (N := N) (by omega) hRl (xs (t + 1)) (xs (t + 2))
    | exact sim_wept (N := N) (by omega) hi hRl (xs (t + 1)) (xs (t + 2))
  obtain ⟨v, mx', ex, v', mm', em, hv, hR'⟩ := sim
  refine lv_aload_n hx hb dL_law_696 rfl (lv_at hl 2 rfl) ?_
  refine lv_aload_n hx hb dL_law_697 rfl (lv_at hl 1 rfl) ?_
  refine lv_iload_n hx hb dL_law_698 rfl (lv_at hl 0 rfl) ?_
  refine lv_iconst (v := nI 1) hx hb dL_law_699 (by decide) ?_
  refine lv_iadd hx hb dL_law_700 ?_
  rw [nI_add t 1]
  refine lw_ld K hS (j := t + 1) (by omega) hL dL_law_701 ?_
  refine lv_aload_n hx hb dL_law_702 rfl (lv_at hl 1 rfl) ?_
  refine lv_iload_n hx hb dL_law_703 rfl (lv_at hl 0 rfl) ?_
  refine lv_iconst (v := nI 2) hx hb dL_law_704 (by decide) ?_
  refine lv_iadd hx hb dL_law_705 ?_
  rw [nI_add t 2]
  refine lw_ld K hS (j := t + 2) (by omega) hL dL_law_706 ?_
  refine lw_cx K hP1 hP2 hS hl.1 (av := [.int (xs (t + 1)), .int (xs (t + 2))]) mv_L_98 (c_X8_wept l D ca ad1 i1 N (xs (t + 1)) (xs (t + 2)) mx _ _ ex) ⟨by omega, by omega, hR.2.2.1, hR.2.2.2⟩ rfl (Nat.le_of_ble_eq_true rfl) dL_law_707 rfl (fun H locs hP1 hP2 hS => ?_)
  refine W.eq (g2 := F0 m 710 ls [.int v]) rfl ?_
  refine lv_aload_n hx hb dL_law_710 rfl (lv_at hl 3 rfl) ?_
  refine lv_aload_n hx hb dL_law_711 rfl (lv_at hl 1 rfl) ?_
  refine lv_iload_n hx hb dL_law_712 rfl (lv_at hl 0 rfl) ?_
  refine lv_iconst (v := nI 1) hx hb dL_law_713 (by decide) ?_
  refine lv_iadd hx hb dL_law_714 ?_
  rw [nI_add t 1]
  refine lw_ld K hS (j := t + 1) (by omega) hL dL_law_715 ?_
  refine lv_aload_n hx hb dL_law_716 rfl (lv_at hl 1 rfl) ?_
  refine lv_iload_n hx hb dL_law_717 rfl (lv_at hl 0 rfl) ?_
  refine lv_iconst (v := nI 2) hx hb dL_law_718 (by decide) ?_
  refine lv_iadd hx hb dL_law_719 ?_
  rw [nI_add t 2]
  refine lw_ld K hS (j := t + 2) (by omega) hL dL_law_720 ?_
  refine lw_cm K hP1 hP2 hS hl.1 (av := [.int (xs (t + 1)), .int (xs (t + 2))]) mv_L_101 (c_X9_wept l D ca ad2 i2 N (xs (t + 1)) (xs (t + 2)) mm _ _ em) ⟨by omega, by omega, hR.2.2.1, hR.2.2.2⟩ rfl (Nat.le_of_ble_eq_true rfl) dL_law_721 rfl (fun H locs hP1 hP2 hS => ?_)
  refine W.eq (g2 := F0 m 724 ls [.int v', .int v]) rfl ?_
  refine lv_icmp_eq (tgt := 887) hx hb dL_law_724 (by decide) (fun _ => ?_) (fun z => absurd hv z)
  exact kk H locs ⟨mx', mm', hP1, hP2, hR', hS⟩
theorem arm_21 {p : Program} {l : Launch} {e : Env} {R : Room} {s : State} {m : MethodId} {args : Array Value} {below : List Frame} {meth : Method} {c : Code} {D : va_G} {ca : Nat → ClassId} {ad1 ad2 : Nat → Nat} {b L : Nat} {xs : Nat → Int32} {H : Heap} {locs : List Loc} {cells slots : Nat} {ls : Array Slot} {Q : State → Prop} {N i t : Nat} (hN : 1000000000 ≤ N) (hi : i ≤ 64) (K : lwK p s m args c D ca ad1 ad2 b L xs) (hR : 40 ≤ R.frames ∧ 3000 ≤ R.locals ∧ cells ≤ R.cells ∧ slots ≤ R.slots) (hl : lv_has ls 4 [(3, .int (nI t)), (0, .ref b), (1, .ref (ad1 0)), (2, .ref (ad2 0))]) (ht : t + 5 ≤ L) (hL : L ≤ 320) (h : lwI D ca ad1 ad2 s i H locs)
    (kk : ∀ (H1 : Heap) (locs1 : List Loc), lwI D ca ad1 ad2 s (i + 1) H1 locs1 → W p l e R s m args below meth c H1 locs1 cells slots Q (F0 m 887 ls [])) : W p l e R s m args below meth c H locs cells slots Q (F0 m 729 ls []) := by
  obtain ⟨mx, mm, hP1, hP2, hRl, hS⟩ := h
  obtain ⟨X1, X2, f1, f2, ap, hX, hbl⟩ := id K
  have hx := X1.1
  have hb := X1.2.1
  have i1 : fl_inj L1 ad1 := X1.2.2.2.2.2.2
  have i2 : fl_inj L2 ad2 := X2.2.2.2.2.2.2
  have sim : Sim (i + 1) (f_X8_kinds N (xs (t + 1)) mx) (f_X9_kinds N (xs (t + 1)) mm) := by
    first
    | exact sim_kinds hRl (xs (t + 1))
    | exact sim_kinds (N := N) (by omega) hRl (xs (t + 1))
    | exact sim_kinds (N := N) (by omega) hi hRl (xs (t + 1))
  obtain ⟨v, mx', ex, v', mm', em, hv, hR'⟩ := sim
  refine lv_aload_n hx hb dL_law_729 rfl (lv_at hl 2 rfl) ?_
  refine lv_aload_n hx hb dL_law_730 rfl (lv_at hl 1 rfl) ?_
  refine lv_iload_n hx hb dL_law_731 rfl (lv_at hl 0 rfl) ?_
  refine lv_iconst (v := nI 1) hx hb dL_law_732 (by decide) ?_
  refine lv_iadd hx hb dL_law_733 ?_
  rw [nI_add t 1]
  refine lw_ld K hS (j := t + 1) (by omega) hL dL_law_734 ?_
  refine lw_cx K hP1 hP2 hS hl.1 (av := [.int (xs (t + 1))]) mv_L_102 (c_X8_kinds l D ca ad1 i1 N (xs (t + 1)) mx _ _ ex) ⟨by omega, by omega, hR.2.2.1, hR.2.2.2⟩ rfl (Nat.le_of_ble_eq_true rfl) dL_law_735 rfl (fun H locs hP1 hP2 hS => ?_)
  refine W.eq (g2 := F0 m 738 ls [.int v]) rfl ?_
  refine lv_aload_n hx hb dL_law_738 rfl (lv_at hl 3 rfl) ?_
  refine lv_aload_n hx hb dL_law_739 rfl (lv_at hl 1 rfl) ?_
  refine lv_iload_n hx hb dL_law_740 rfl (lv_at hl 0 rfl) ?_
  refine lv_iconst (v := nI 1) hx hb dL_law_741 (by decide) ?_
  refine lv_iadd hx hb dL_law_742 ?_
  rw [nI_add t 1]
  refine lw_ld K hS (j := t + 1) (by omega) hL dL_law_743 ?_
  refine lw_cm K hP1 hP2 hS hl.1 (av := [.int (xs (t + 1))]) mv_L_105 (c_X9_kinds l D ca ad2 i2 N (xs (t + 1)) mm _ _ em) ⟨by omega, by omega, hR.2.2.1, hR.2.2.2⟩ rfl (Nat.le_of_ble_eq_true rfl) dL_law_744 rfl (fun H locs hP1 hP2 hS => ?_)
  refine W.eq (g2 := F0 m 747 ls [.int v', .int v]) rfl ?_
  refine lv_icmp_eq (tgt := 887) hx hb dL_law_747 (by decide) (fun _ => ?_) (fun z => absurd hv z)
  exact kk H locs ⟨mx', mm', hP1, hP2, hR', hS⟩
theorem arm_22 {p : Program} {l : Launch} {e : Env} {R : Room} {s : State} {m : MethodId} {args : Array Value} {below : List Frame} {meth : Method} {c : Code} {D : va_G} {ca : Nat → ClassId} {ad1 ad2 : Nat → Nat} {b L : Nat} {xs : Nat → Int32} {H : Heap} {locs : List Loc} {cells slots : Nat} {ls : Array Slot} {Q : State → Prop} {N i t : Nat} (hN : 1000000000 ≤ N) (hi : i ≤ 64) (K : lwK p s m args c D ca ad1 ad2 b L xs) (hR : 40 ≤ R.frames ∧ 3000 ≤ R.locals ∧ cells ≤ R.cells ∧ slots ≤ R.slots) (hl : lv_has ls 4 [(3, .int (nI t)), (0, .ref b), (1, .ref (ad1 0)), (2, .ref (ad2 0))]) (ht : t + 5 ≤ L) (hL : L ≤ 320) (h : lwI D ca ad1 ad2 s i H locs)
    (kk : ∀ (H1 : Heap) (locs1 : List Loc), lwI D ca ad1 ad2 s (i + 1) H1 locs1 → W p l e R s m args below meth c H1 locs1 cells slots Q (F0 m 887 ls [])) : W p l e R s m args below meth c H locs cells slots Q (F0 m 752 ls []) := by
  obtain ⟨mx, mm, hP1, hP2, hRl, hS⟩ := h
  obtain ⟨X1, X2, f1, f2, ap, hX, hbl⟩ := id K
  have hx := X1.1
  have hb := X1.2.1
  have i1 : fl_inj L1 ad1 := X1.2.2.2.2.2.2
  have i2 : fl_inj L2 ad2 := X2.2.2.2.2.2.2
  have sim : Sim (i + 1) (f_X8_tears N (xs (t + 1)) (xs (t + 2)) (xs (t + 3)) mx) (f_X9_tears N (xs (t + 1)) (xs (t + 2)) (xs (t + 3)) mm) := by
    first
    | exact sim_tears hRl (xs (t + 1)) (xs (t + 2)) (xs (t + 3))
    | exact sim_tears (N := N) (by omega) hRl (xs (t + 1)) (xs (t + 2)) (xs (t + 3))
    | exact sim_tears (N := N) (by omega) hi hRl (xs (t + 1)) (xs (t + 2)) (xs (t + 3))
  obtain ⟨v, mx', ex, v', mm', em, hv, hR'⟩ := sim
  refine lv_aload_n hx hb dL_law_752 rfl (lv_at hl 2 rfl) ?_
  refine lv_aload_n hx hb dL_law_753 rfl (lv_at hl 1 rfl) ?_
  refine lv_iload_n hx hb dL_law_754 rfl (lv_at hl 0 rfl) ?_
  refine lv_iconst (v := nI 1) hx hb dL_law_755 (by decide) ?_
  refine lv_iadd hx hb dL_law_756 ?_
  rw [nI_add t 1]
  refine lw_ld K hS (j := t + 1) (by omega) hL dL_law_757 ?_
  refine lv_aload_n hx hb dL_law_758 rfl (lv_at hl 1 rfl) ?_
  refine lv_iload_n hx hb dL_law_759 rfl (lv_at hl 0 rfl) ?_
  refine lv_iconst (v := nI 2) hx hb dL_law_760 (by decide) ?_
  refine lv_iadd hx hb dL_law_761 ?_
  rw [nI_add t 2]
  refine lw_ld K hS (j := t + 2) (by omega) hL dL_law_762 ?_
  refine lv_aload_n hx hb dL_law_763 rfl (lv_at hl 1 rfl) ?_
  refine lv_iload_n hx hb dL_law_764 rfl (lv_at hl 0 rfl) ?_
  refine lv_iconst (v := nI 3) hx hb dL_law_765 (by decide) ?_
  refine lv_iadd hx hb dL_law_766 ?_
  rw [nI_add t 3]
  refine lw_ld K hS (j := t + 3) (by omega) hL dL_law_767 ?_
  refine lw_cx K hP1 hP2 hS hl.1 (av := [.int (xs (t + 1)), .int (xs (t + 2)), .int (xs (t + 3))]) mv_L_106 (c_X8_tears l D ca ad1 i1 N (xs (t + 1)) (xs (t + 2)) (xs (t + 3)) mx _ _ ex) ⟨by omega, by omega, hR.2.2.1, hR.2.2.2⟩ rfl (Nat.le_of_ble_eq_true rfl) dL_law_768 rfl (fun H locs hP1 hP2 hS => ?_)
  refine W.eq (g2 := F0 m 771 ls [.int v]) rfl ?_
  refine lv_aload_n hx hb dL_law_771 rfl (lv_at hl 3 rfl) ?_
  refine lv_aload_n hx hb dL_law_772 rfl (lv_at hl 1 rfl) ?_
  refine lv_iload_n hx hb dL_law_773 rfl (lv_at hl 0 rfl) ?_
  refine lv_iconst (v := nI 1) hx hb dL_law_774 (by decide) ?_
  refine lv_iadd hx hb dL_law_775 ?_
  rw [nI_add t 1]
  refine lw_ld K hS (j := t + 1) (by omega) hL dL_law_776 ?_
  refine lv_aload_n hx hb dL_law_777 rfl (lv_at hl 1 rfl) ?_
  refine lv_iload_n hx hb dL_law_778 rfl (lv_at hl 0 rfl) ?_
  refine lv_iconst (v := nI 2) hx hb dL_law_779 (by decide) ?_
  refine lv_iadd hx hb dL_law_780 ?_
  rw [nI_add t 2]
  refine lw_ld K hS (j := t + 2) (by omega) hL dL_law_781 ?_
  refine lv_aload_n hx hb dL_law_782 rfl (lv_at hl 1 rfl) ?_
  refine lv_iload_n hx hb dL_law_783 rfl (lv_at hl 0 rfl) ?_
  refine lv_iconst (v := nI 3) hx hb dL_law_784 (by decide) ?_
  refine lv_iadd hx hb dL_law_785 ?_
  rw [nI_add t 3]
  refine lw_ld K hS (j := t + 3) (by omega) hL dL_law_786 ?_
  refine lw_cm K hP1 hP2 hS hl.1 (av := [.int (xs (t + 1)), .int (xs (t + 2)), .int (xs (t + 3))]) mv_L_109 (c_X9_tears l D ca ad2 i2 N (xs (t + 1)) (xs (t + 2)) (xs (t + 3)) mm _ _ em) ⟨by omega, by omega, hR.2.2.1, hR.2.2.2⟩ rfl (Nat.le_of_ble_eq_true rfl) dL_law_787 rfl (fun H locs hP1 hP2 hS => ?_)
  refine W.eq (g2 := F0 m 790 ls [.int v', .int v]) rfl ?_
  refine lv_icmp_eq (tgt := 887) hx hb dL_law_790 (by decide) (fun _ => ?_) (fun z => absurd hv z)
  exact kk H locs ⟨mx', mm', hP1, hP2, hR', hS⟩
theorem arm_23 {p : Program} {l : Launch} {e : Env} {R : Room} {s : State} {m : MethodId} {args : Array Value} {below : List Frame} {meth : Method} {c : Code} {D : va_G} {ca : Nat → ClassId} {ad1 ad2 : Nat → Nat} {b L : Nat} {xs : Nat → Int32} {H : Heap} {locs : List Loc} {cells slots : Nat} {ls : Array Slot} {Q : State → Prop} {N i t : Nat} (hN : 1000000000 ≤ N) (hi : i ≤ 64) (K : lwK p s m args c D ca ad1 ad2 b L xs) (hR : 40 ≤ R.frames ∧ 3000 ≤ R.locals ∧ cells ≤ R.cells ∧ slots ≤ R.slots) (hl : lv_has ls 4 [(3, .int (nI t)), (0, .ref b), (1, .ref (ad1 0)), (2, .ref (ad2 0))]) (ht : t + 5 ≤ L) (hL : L ≤ 320) (h : lwI D ca ad1 ad2 s i H locs)
    (kk : ∀ (H1 : Heap) (locs1 : List Loc), lwI D ca ad1 ad2 s (i + 1) H1 locs1 → W p l e R s m args below meth c H1 locs1 cells slots Q (F0 m 887 ls [])) : W p l e R s m args below meth c H locs cells slots Q (F0 m 795 ls []) := by
  obtain ⟨mx, mm, hP1, hP2, hRl, hS⟩ := h
  obtain ⟨X1, X2, f1, f2, ap, hX, hbl⟩ := id K
  have hx := X1.1
  have hb := X1.2.1
  have i1 : fl_inj L1 ad1 := X1.2.2.2.2.2.2
  have i2 : fl_inj L2 ad2 := X2.2.2.2.2.2.2
  have sim : Sim (i + 1) (f_X8_year N (xs (t + 1)) (xs (t + 2)) (xs (t + 3)) mx) (f_X9_year N (xs (t + 1)) (xs (t + 2)) (xs (t + 3)) mm) := by
    first
    | exact sim_year hRl (xs (t + 1)) (xs (t + 2)) (xs (t + 3))
    | exact sim_year (N := N) (by omega) hRl (xs (t + 1)) (xs (t + 2)) (xs (t + 3))
    | exact sim_year (N := N) (by omega) hi hRl (xs (t + 1)) (xs (t + 2)) (xs (t + 3))
  obtain ⟨v, mx', ex, v', mm', em, hv, hR'⟩ := sim
  refine lv_aload_n hx hb dL_law_795 rfl (lv_at hl 2 rfl) ?_
  refine lv_aload_n hx hb dL_law_796 rfl (lv_at hl 1 rfl) ?_
  refine lv_iload_n hx hb dL_law_797 rfl (lv_at hl 0 rfl) ?_
  refine lv_iconst (v := nI 1) hx hb dL_law_798 (by decide) ?_
  refine lv_iadd hx hb dL_law_799 ?_
  rw [nI_add t 1]
  refine lw_ld K hS (j := t + 1) (by omega) hL dL_law_800 ?_
  refine lv_aload_n hx hb dL_law_801 rfl (lv_at hl 1 rfl) ?_
  refine lv_iload_n hx hb dL_law_802 rfl (lv_at hl 0 rfl) ?_
  refine lv_iconst (v := nI 2) hx hb dL_law_803 (by decide) ?_
  refine lv_iadd hx hb dL_law_804 ?_
  rw [nI_add t 2]
  refine lw_ld K hS (j := t + 2) (by omega) hL dL_law_805 ?_
  refine lv_aload_n hx hb dL_law_806 rfl (lv_at hl 1 rfl) ?_
  refine lv_iload_n hx hb dL_law_807 rfl (lv_at hl 0 rfl) ?_
  refine lv_iconst (v := nI 3) hx hb dL_law_808 (by decide) ?_
  refine lv_iadd hx hb dL_law_809 ?_
  rw [nI_add t 3]
  refine lw_ld K hS (j := t + 3) (by omega) hL dL_law_810 ?_
  refine lw_cx K hP1 hP2 hS hl.1 (av := [.int (xs (t + 1)), .int (xs (t + 2)), .int (xs (t + 3))]) mv_L_110 (c_X8_year l D ca ad1 i1 N (xs (t + 1)) (xs (t + 2)) (xs (t + 3)) mx _ _ ex) ⟨by omega, by omega, hR.2.2.1, hR.2.2.2⟩ rfl (Nat.le_of_ble_eq_true rfl) dL_law_811 rfl (fun H locs hP1 hP2 hS => ?_)
  refine W.eq (g2 := F0 m 814 ls [.int v]) rfl ?_
  refine lv_aload_n hx hb dL_law_814 rfl (lv_at hl 3 rfl) ?_
  refine lv_aload_n hx hb dL_law_815 rfl (lv_at hl 1 rfl) ?_
  refine lv_iload_n hx hb dL_law_816 rfl (lv_at hl 0 rfl) ?_
  refine lv_iconst (v := nI 1) hx hb dL_law_817 (by decide) ?_
  refine lv_iadd hx hb dL_law_818 ?_
  rw [nI_add t 1]
  refine lw_ld K hS (j := t + 1) (by omega) hL dL_law_819 ?_
  refine lv_aload_n hx hb dL_law_820 rfl (lv_at hl 1 rfl) ?_
  refine lv_iload_n hx hb dL_law_821 rfl (lv_at hl 0 rfl) ?_
  refine lv_iconst (v := nI 2) hx hb dL_law_822 (by decide) ?_
  refine lv_iadd hx hb dL_law_823 ?_
  rw [nI_add t 2]
  refine lw_ld K hS (j := t + 2) (by omega) hL dL_law_824 ?_
  refine lv_aload_n hx hb dL_law_825 rfl (lv_at hl 1 rfl) ?_
  refine lv_iload_n hx hb dL_law_826 rfl (lv_at hl 0 rfl) ?_
  refine lv_iconst (v := nI 3) hx hb dL_law_827 (by decide) ?_
  refine lv_iadd hx hb dL_law_828 ?_
  rw [nI_add t 3]
  refine lw_ld K hS (j := t + 3) (by omega) hL dL_law_829 ?_
  refine lw_cm K hP1 hP2 hS hl.1 (av := [.int (xs (t + 1)), .int (xs (t + 2)), .int (xs (t + 3))]) mv_L_113 (c_X9_year l D ca ad2 i2 N (xs (t + 1)) (xs (t + 2)) (xs (t + 3)) mm _ _ em) ⟨by omega, by omega, hR.2.2.1, hR.2.2.2⟩ rfl (Nat.le_of_ble_eq_true rfl) dL_law_830 rfl (fun H locs hP1 hP2 hS => ?_)
  refine W.eq (g2 := F0 m 833 ls [.int v', .int v]) rfl ?_
  refine lv_icmp_eq (tgt := 887) hx hb dL_law_833 (by decide) (fun _ => ?_) (fun z => absurd hv z)
  exact kk H locs ⟨mx', mm', hP1, hP2, hR', hS⟩
theorem arm_24 {p : Program} {l : Launch} {e : Env} {R : Room} {s : State} {m : MethodId} {args : Array Value} {below : List Frame} {meth : Method} {c : Code} {D : va_G} {ca : Nat → ClassId} {ad1 ad2 : Nat → Nat} {b L : Nat} {xs : Nat → Int32} {H : Heap} {locs : List Loc} {cells slots : Nat} {ls : Array Slot} {Q : State → Prop} {N i t : Nat} (hN : 1000000000 ≤ N) (hi : i ≤ 64) (K : lwK p s m args c D ca ad1 ad2 b L xs) (hR : 40 ≤ R.frames ∧ 3000 ≤ R.locals ∧ cells ≤ R.cells ∧ slots ≤ R.slots) (hl : lv_has ls 4 [(3, .int (nI t)), (0, .ref b), (1, .ref (ad1 0)), (2, .ref (ad2 0))]) (ht : t + 5 ≤ L) (hL : L ≤ 320) (h : lwI D ca ad1 ad2 s i H locs)
    (kk : ∀ (H1 : Heap) (locs1 : List Loc), lwI D ca ad1 ad2 s (i + 1) H1 locs1 → W p l e R s m args below meth c H1 locs1 cells slots Q (F0 m 887 ls [])) : W p l e R s m args below meth c H locs cells slots Q (F0 m 838 ls []) := by
  obtain ⟨mx, mm, hP1, hP2, hRl, hS⟩ := h
  obtain ⟨X1, X2, f1, f2, ap, hX, hbl⟩ := id K
  have hx := X1.1
  have hb := X1.2.1
  have i1 : fl_inj L1 ad1 := X1.2.2.2.2.2.2
  have i2 : fl_inj L2 ad2 := X2.2.2.2.2.2.2
  have sim : Sim (i + 1) (f_X8_keep  mx) (f_X9_keep N  mm) := by
    first
    | exact sim_keep hRl 
    | exact sim_keep (N := N) (by omega) hRl 
    | exact sim_keep (N := N) (by omega) hi hRl 
  obtain ⟨v, mx', ex, v', mm', em, hv, hR'⟩ := sim
  refine lv_aload_n hx hb dL_law_838 rfl (lv_at hl 2 rfl) ?_
  refine lw_cx K hP1 hP2 hS hl.1 (av := []) mv_L_114 (c_X8_keep l D ca ad1 i1  mx _ _ ex) ⟨by omega, by omega, hR.2.2.1, hR.2.2.2⟩ rfl (Nat.le_of_ble_eq_true rfl) dL_law_839 rfl (fun H locs hP1 hP2 hS => ?_)
  refine W.eq (g2 := F0 m 842 ls [.int v]) rfl ?_
  refine lv_aload_n hx hb dL_law_842 rfl (lv_at hl 3 rfl) ?_
  refine lw_cm K hP1 hP2 hS hl.1 (av := []) mv_L_117 (c_X9_keep l D ca ad2 i2 N  mm _ _ em) ⟨by omega, by omega, hR.2.2.1, hR.2.2.2⟩ rfl (Nat.le_of_ble_eq_true rfl) dL_law_843 rfl (fun H locs hP1 hP2 hS => ?_)
  refine W.eq (g2 := F0 m 846 ls [.int v', .int v]) rfl ?_
  refine lv_icmp_eq (tgt := 887) hx hb dL_law_846 (by decide) (fun _ => ?_) (fun z => absurd hv z)
  exact kk H locs ⟨mx', mm', hP1, hP2, hR', hS⟩
theorem arm_25 {p : Program} {l : Launch} {e : Env} {R : Room} {s : State} {m : MethodId} {args : Array Value} {below : List Frame} {meth : Method} {c : Code} {D : va_G} {ca : Nat → ClassId} {ad1 ad2 : Nat → Nat} {b L : Nat} {xs : Nat → Int32} {H : Heap} {locs : List Loc} {cells slots : Nat} {ls : Array Slot} {Q : State → Prop} {N i t : Nat} (hN : 1000000000 ≤ N) (hi : i ≤ 64) (K : lwK p s m args c D ca ad1 ad2 b L xs) (hR : 40 ≤ R.frames ∧ 3000 ≤ R.locals ∧ cells ≤ R.cells ∧ slots ≤ R.slots) (hl : lv_has ls 4 [(3, .int (nI t)), (0, .ref b), (1, .ref (ad1 0)), (2, .ref (ad2 0))]) (ht : t + 5 ≤ L) (hL : L ≤ 320) (h : lwI D ca ad1 ad2 s i H locs)
    (kk : ∀ (H1 : Heap) (locs1 : List Loc), lwI D ca ad1 ad2 s (i + 1) H1 locs1 → W p l e R s m args below meth c H1 locs1 cells slots Q (F0 m 887 ls [])) : W p l e R s m args below meth c H locs cells slots Q (F0 m 851 ls []) := by
  obtain ⟨mx, mm, hP1, hP2, hRl, hS⟩ := h
  obtain ⟨X1, X2, f1, f2, ap, hX, hbl⟩ := id K
  have hx := X1.1
  have hb := X1.2.1
  have i1 : fl_inj L1 ad1 := X1.2.2.2.2.2.2
  have i2 : fl_inj L2 ad2 := X2.2.2.2.2.2.2
  have sim : Sim (i + 1) (f_X8_back  mx) (f_X9_back N  mm) := by
    first
    | exact sim_back hRl 
    | exact sim_back (N := N) (by omega) hRl 
    | exact sim_back (N := N) (by omega) hi hRl 
  obtain ⟨v, mx', ex, v', mm', em, hv, hR'⟩ := sim
  refine lv_aload_n hx hb dL_law_851 rfl (lv_at hl 2 rfl) ?_
  refine lw_cx K hP1 hP2 hS hl.1 (av := []) mv_L_118 (c_X8_back l D ca ad1 i1  mx _ _ ex) ⟨by omega, by omega, hR.2.2.1, hR.2.2.2⟩ rfl (Nat.le_of_ble_eq_true rfl) dL_law_852 rfl (fun H locs hP1 hP2 hS => ?_)
  refine W.eq (g2 := F0 m 855 ls [.int v]) rfl ?_
  refine lv_aload_n hx hb dL_law_855 rfl (lv_at hl 3 rfl) ?_
  refine lw_cm K hP1 hP2 hS hl.1 (av := []) mv_L_121 (c_X9_back l D ca ad2 i2 N  mm _ _ em) ⟨by omega, by omega, hR.2.2.1, hR.2.2.2⟩ rfl (Nat.le_of_ble_eq_true rfl) dL_law_856 rfl (fun H locs hP1 hP2 hS => ?_)
  refine W.eq (g2 := F0 m 859 ls [.int v', .int v]) rfl ?_
  refine lv_icmp_eq (tgt := 887) hx hb dL_law_859 (by decide) (fun _ => ?_) (fun z => absurd hv z)
  exact kk H locs ⟨mx', mm', hP1, hP2, hR', hS⟩
theorem arm_26 {p : Program} {l : Launch} {e : Env} {R : Room} {s : State} {m : MethodId} {args : Array Value} {below : List Frame} {meth : Method} {c : Code} {D : va_G} {ca : Nat → ClassId} {ad1 ad2 : Nat → Nat} {b L : Nat} {xs : Nat → Int32} {H : Heap} {locs : List Loc} {cells slots : Nat} {ls : Array Slot} {Q : State → Prop} {N i t : Nat} (hN : 1000000000 ≤ N) (hi : i ≤ 64) (K : lwK p s m args c D ca ad1 ad2 b L xs) (hR : 40 ≤ R.frames ∧ 3000 ≤ R.locals ∧ cells ≤ R.cells ∧ slots ≤ R.slots) (hl : lv_has ls 4 [(3, .int (nI t)), (0, .ref b), (1, .ref (ad1 0)), (2, .ref (ad2 0))]) (ht : t + 5 ≤ L) (hL : L ≤ 320) (h : lwI D ca ad1 ad2 s i H locs)
    (kk : ∀ (H1 : Heap) (locs1 : List Loc), lwI D ca ad1 ad2 s (i + 1) H1 locs1 → W p l e R s m args below meth c H1 locs1 cells slots Q (F0 m 887 ls [])) : W p l e R s m args below meth c H locs cells slots Q (F0 m 864 ls []) := by
  obtain ⟨mx, mm, hP1, hP2, hRl, hS⟩ := h
  obtain ⟨X1, X2, f1, f2, ap, hX, hbl⟩ := id K
  have hx := X1.1
  have hb := X1.2.1
  have i1 : fl_inj L1 ad1 := X1.2.2.2.2.2.2
  have i2 : fl_inj L2 ad2 := X2.2.2.2.2.2.2
  have sim : Sim (i + 1) (f_X8_count N (xs (t + 1)) mx) (f_X9_count N (xs (t + 1)) mm) := by
    first
    | exact sim_count hRl (xs (t + 1))
    | exact sim_count (N := N) (by omega) hRl (xs (t + 1))
    | exact sim_count (N := N) (by omega) hi hRl (xs (t + 1))
  obtain ⟨v, mx', ex, v', mm', em, hv, hR'⟩ := sim
  refine lv_aload_n hx hb dL_law_864 rfl (lv_at hl 2 rfl) ?_
  refine lv_aload_n hx hb dL_law_865 rfl (lv_at hl 1 rfl) ?_
  refine lv_iload_n hx hb dL_law_866 rfl (lv_at hl 0 rfl) ?_
  refine lv_iconst (v := nI 1) hx hb dL_law_867 (by decide) ?_
  refine lv_iadd hx hb dL_law_868 ?_
  rw [nI_add t 1]
  refine lw_ld K hS (j := t + 1) (by omega) hL dL_law_869 ?_
  refine lw_cx K hP1 hP2 hS hl.1 (av := [.int (xs (t + 1))]) mv_L_122 (c_X8_count l D ca ad1 i1 N (xs (t + 1)) mx _ _ ex) ⟨by omega, by omega, hR.2.2.1, hR.2.2.2⟩ rfl (Nat.le_of_ble_eq_true rfl) dL_law_870 rfl (fun H locs hP1 hP2 hS => ?_)
  refine W.eq (g2 := F0 m 873 ls [.int v]) rfl ?_
  refine lv_aload_n hx hb dL_law_873 rfl (lv_at hl 3 rfl) ?_
  refine lv_aload_n hx hb dL_law_874 rfl (lv_at hl 1 rfl) ?_
  refine lv_iload_n hx hb dL_law_875 rfl (lv_at hl 0 rfl) ?_
  refine lv_iconst (v := nI 1) hx hb dL_law_876 (by decide) ?_
  refine lv_iadd hx hb dL_law_877 ?_
  rw [nI_add t 1]
  refine lw_ld K hS (j := t + 1) (by omega) hL dL_law_878 ?_
  refine lw_cm K hP1 hP2 hS hl.1 (av := [.int (xs (t + 1))]) mv_L_125 (c_X9_count l D ca ad2 i2 N (xs (t + 1)) mm _ _ em) ⟨by omega, by omega, hR.2.2.1, hR.2.2.2⟩ rfl (Nat.le_of_ble_eq_true rfl) dL_law_879 rfl (fun H locs hP1 hP2 hS => ?_)
  refine W.eq (g2 := F0 m 882 ls [.int v', .int v]) rfl ?_
  refine lv_icmp_eq (tgt := 887) hx hb dL_law_882 (by decide) (fun _ => ?_) (fun z => absurd hv z)
  exact kk H locs ⟨mx', mm', hP1, hP2, hR', hS⟩
