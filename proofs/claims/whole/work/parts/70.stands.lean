/-! ===== constructors that make rows of Stands ===== -/
/-- the row's references, and the Stands' own cells, by the list of those made so far -/
def st_f (qs : List (Nat × List Nat)) : Nat → Option Nat := fun k => (qs[k]?).map (fun z => z.1)
def wn_S (ca : Nat → ClassId) (qs : List (Nat × List Nat)) : va_W := qs.flatMap (fun z => wn_X5 ca z.1 z.2)
theorem st_f_nil : st_f [] = fun _ => none := rfl
theorem st_f_snoc (qs : List (Nat × List Nat)) (q : Nat) (u : List Nat) : va_up (st_f qs) qs.length (some q) = st_f (qs ++ [(q, u)]) := by
  funext k
  unfold va_up st_f
  by_cases h : k = qs.length
  · subst h; simp
  · rw [if_neg h]
    rcases Nat.lt_or_ge k qs.length with h2 | h2
    · rw [List.getElem?_append_left h2]
    · rw [List.getElem?_eq_none (by omega), List.getElem?_eq_none (by simp; omega)]
theorem wn_S_snoc (ca : Nat → ClassId) (qs : List (Nat × List Nat)) (q : Nat) (u : List Nat) : wn_S ca (qs ++ [(q, u)]) = wn_S ca qs ++ wn_X5 ca q u := by
  simp [wn_S]
def ws_S (ca : Nat → ClassId) (h0 ci qa n : Nat) (fs : List Value) (tl : va_W) (qs : List (Nat × List Nat)) : va_W := (h0, .inr (ci, fs)) :: (qa, .inl (ca 4, n, .inr (.inr (.inr (.inr (st_f qs)))))) :: (tl ++ wn_S ca qs)
theorem ws_S_snoc (ca : Nat → ClassId) (h0 ci qa n : Nat) (fs : List Value) (tl : va_W) (qs : List (Nat × List Nat)) (q : Nat) (u : List Nat) :
    (ws_S ca h0 ci qa n fs tl qs ++ wn_X5 ca q u).set 1 (qa, .inl (ca 4, n, .inr (.inr (.inr (.inr (va_up (st_f qs) qs.length (some q))))))) = ws_S ca h0 ci qa n fs tl (qs ++ [(q, u)]) := by
  rw [st_f_snoc qs q u]
  unfold ws_S
  rw [wn_S_snoc, ← List.append_assoc tl]
  rfl
set_option maxHeartbeats 4000000 in
set_option maxRecDepth 100000 in
theorem lp_X4 {p : Program} {l : Launch} {e : Env} {R : Room} {s : State} {m : MethodId} {args : Array Value} {below : List Frame} {meth : Method} {c : Code} {D : va_G} {ca : Nat → ClassId} {H0 : Heap} {Q : State → Prop} {A : Nat → Prop} {h0 qa n c0 s0 : Nat} {n0 : Int32} {fr : List Value} {tl : va_W}
    (hx : p.tables.exec = Jvm.exec) (hb : c.code = cX4_init) (hml : c.maxLocals = 3) (hown : s.vm.findClass RX4 = some m.cls) (hts : ∀ w ∈ fl_U, w.before args s = true) (hE : fl_E D ca s) (hA : ∀ q, H0.size ≤ q → A q) (hn : n ≤ 8) (hfr : 2 ≤ R.frames ∧ 100 ≤ R.locals ∧ c0 + 6 * n ≤ R.cells ∧ s0 + 29 * n ≤ R.slots)
    (kk : ∀ (qs : List (Nat × List Nat)) (H : Heap) (locs : List Loc) (ls : Array Slot), qs.length = n → (∀ z ∈ qs, z.2.length = 5) → va_P D vwCl (ws_S ca h0 4 qa n (.ref qa :: fr) tl qs) H → va_D A (ws_S ca h0 4 qa n (.ref qa :: fr) tl qs) → va_S A H0 H locs → W p l e R s m args below meth c H locs (c0 + 6 * n) (s0 + 29 * n) Q (F0 m 46 ls [])) :
    ∀ (k : Nat) (qs : List (Nat × List Nat)) (H : Heap) (locs : List Loc) (ls : Array Slot), qs.length + k = n → (∀ z ∈ qs, z.2.length = 5) → va_P D vwCl (ws_S ca h0 4 qa n (.ref qa :: fr) tl qs) H → va_D A (ws_S ca h0 4 qa n (.ref qa :: fr) tl qs) → va_S A H0 H locs → lv_has ls 3 [(2, .int (nI qs.length)), (0, .ref h0), (1, .int n0)] → W p l e R s m args below meth c H locs (c0 + 6 * qs.length) (s0 + 29 * qs.length) Q (F0 m 18 ls []) := by
  intro k
  induction k with
  | zero =>
    intro qs H locs ls hq h5 hP hD hS hl
    have hq : qs.length = n := hq
    refine lv_iload_n hx hb dX4_init_18 rfl (lv_at hl 0 rfl) ?_
    refine lv_aload_n hx hb dX4_init_19 rfl (lv_at hl 1 rfl) ?_
    refine va_get (D := D) (ci := 4) (v := .ref qa) (C := RX4) (T := TX4) (N := 3) hx hb hts inU_X4 hown hE.1 hP 0 rfl rfl 0 (by decide) (hts _ (fl_w1 225 (by decide +kernel) (by decide +kernel))) (fun _ h9 => h9) rfl dX4_init_20 ?_
    refine va_alen hx hb hE.1 hP 1 3 rfl rfl rfl dX4_init_23 ?_
    refine lv_icmp_ge (tgt := 46) hx hb dX4_init_24 (by decide) (fun _ => ?_) (fun q9 => absurd (show nI n ≤ nI qs.length from hq ▸ Int32.le_refl _) q9)
    rw [hq]
    exact kk qs H locs ls hq h5 hP hD hS
  | succ k ih =>
    intro qs H locs ls hq h5 hP hD hS hl
    refine lv_iload_n hx hb dX4_init_18 rfl (lv_at hl 0 rfl) ?_
    refine lv_aload_n hx hb dX4_init_19 rfl (lv_at hl 1 rfl) ?_
    refine va_get (D := D) (ci := 4) (v := .ref qa) (C := RX4) (T := TX4) (N := 3) hx hb hts inU_X4 hown hE.1 hP 0 rfl rfl 0 (by decide) (hts _ (fl_w1 225 (by decide +kernel) (by decide +kernel))) (fun _ h9 => h9) rfl dX4_init_20 ?_
    refine va_alen hx hb hE.1 hP 1 3 rfl rfl rfl dX4_init_23 ?_
    refine lv_icmp_ge (tgt := 46) hx hb dX4_init_24 (by decide) (fun q9 => absurd q9 (nI_ge (show qs.length < n by omega) (by omega))) (fun _ => ?_)
    refine lv_aload_n hx hb dX4_init_27 rfl (lv_at hl 1 rfl) ?_
    refine va_get (D := D) (ci := 4) (v := .ref qa) (C := RX4) (T := TX4) (N := 3) hx hb hts inU_X4 hown hE.1 hP 0 rfl rfl 0 (by decide) (hts _ (fl_w1 225 (by decide +kernel) (by decide +kernel))) (fun _ h9 => h9) rfl dX4_init_28 ?_
    refine lv_iload_n hx hb dX4_init_31 rfl (lv_at hl 0 rfl) ?_
    refine va_new (ci := 5) (fs := [.int 0, .null, .null, .null, .null, .null]) (C := RX5) (T := TX5) (N := 6) hx hb hts inU_X5 tyX5 tyX5_ok hown (hts _ (fl_w1 (w := Cond.classLink RX4 13 RX5) 222 (by decide +kernel) (by decide +kernel))) (hts _ (fl_w1 (w := Cond.instantiable RX5 6) 177 (by decide +kernel) (by decide +kernel))) (hts _ (fl_w1 (w := Cond.initialized RX5) 49 (by decide +kernel) (by decide +kernel))) hE.1 hP hD hS hA rfl (fun j hj => by rcases (show j = 0 ∨ j = 1 ∨ j = 2 ∨ j = 3 ∨ j = 4 ∨ j = 5 by omega) with rfl | rfl | rfl | rfl | rfl | rfl <;> rfl) (by omega) (by omega) dX4_init_32 (fun q H hP hD hS => ?_)
    refine lv_dup hx hb dX4_init_35 rfl ?_
    refine fl_initc (av := []) (n := 0) (wn := wn_X5 ca q) hx hb hml hown hts hE hP hD hS hA hl.1 (c_X5_init l D ca q _) ⟨List.mem_of_getElem? (i := 4) rfl, fl_goodc (fl_w1 (w := Cond.code yX5_init cX5_init 1 none) 180 (by decide +kernel) (by decide +kernel)) fl_goodU, fl_w1 (w := Cond.initialized RX5) 49 (by decide +kernel) (by decide +kernel), fl_w1 (w := Cond.instanceMethod yX5_init) 179 (by decide +kernel) (by decide +kernel), ⟨by decide +kernel, by decide +kernel, by decide +kernel⟩⟩ rfl ⟨hfr.1, by omega, by omega, by omega⟩ rfl (Nat.le_of_ble_eq_true rfl) dX4_init_36 rfl (fun u H locs hu hP hD hS => ?_)
    refine W.eq (g2 := F0 m 39 ls (.ref q :: .int (nI qs.length) :: .ref qa :: [])) rfl ?_
    refine va_astq (D := D) (r := (RX5, TX5, 6)) (f := st_f qs) (n := n) (cA := ca 4) (ci := 5) (qk := (ws_S ca h0 4 qa n (.ref qa :: fr) tl qs).length) (q0 := 1) (t0 := 3) hx hb hE.1 hP hD hS rfl rfl (by rw [List.getElem?_append_right (Nat.le_refl _), Nat.sub_self]; rfl) rfl (vp_in_nI (show qs.length < n by omega) (by omega)) dX4_init_39 (fun H locs hP hD hS => ?_)
    rw [i_c (show qs.length < 2147483648 by omega), ws_S_snoc] at hP hD
    refine lv_iinc (v := nI qs.length + 1) (lv' := [(2, .int (nI qs.length + 1)), (0, .ref h0), (1, .int n0)]) hx hb dX4_init_40 hl (k := 0) rfl rfl (by decide) rfl (fun ls hl => ?_)
    refine lv_goto (tgt := 18) hx hb dX4_init_43 (by decide) ?_
    rw [nI_1] at hl
    have e1 : (qs ++ [(q, u)]).length = qs.length + 1 := by simp
    have h := ih (qs ++ [(q, u)]) H locs ls (by omega) (fun z hz => by rcases List.mem_append.mp hz with hz | hz; exact h5 z hz; rw [List.mem_singleton.mp hz]; exact hu) hP hD hS (by rw [e1]; exact hl)
    rw [e1, show c0 + 6 * (qs.length + 1) = c0 + 6 * qs.length + 1 + 5 by omega, show s0 + 29 * (qs.length + 1) = s0 + 29 * qs.length + 6 + 23 by omega] at h
    exact h
set_option maxHeartbeats 4000000 in
set_option maxRecDepth 100000 in
theorem lp_X2 {p : Program} {l : Launch} {e : Env} {R : Room} {s : State} {m : MethodId} {args : Array Value} {below : List Frame} {meth : Method} {c : Code} {D : va_G} {ca : Nat → ClassId} {H0 : Heap} {Q : State → Prop} {A : Nat → Prop} {h0 qa n c0 s0 : Nat} {n0 : Int32} {fr : List Value} {tl : va_W}
    (hx : p.tables.exec = Jvm.exec) (hb : c.code = cX2_init) (hml : c.maxLocals = 2) (hown : s.vm.findClass RX2 = some m.cls) (hts : ∀ w ∈ fl_U, w.before args s = true) (hE : fl_E D ca s) (hA : ∀ q, H0.size ≤ q → A q) (hn : n ≤ 8) (hfr : 2 ≤ R.frames ∧ 100 ≤ R.locals ∧ c0 + 6 * n ≤ R.cells ∧ s0 + 29 * n ≤ R.slots)
    (kk : ∀ (qs : List (Nat × List Nat)) (H : Heap) (locs : List Loc) (ls : Array Slot), qs.length = n → (∀ z ∈ qs, z.2.length = 5) → va_P D vwCl (ws_S ca h0 2 qa n (.ref qa :: fr) tl qs) H → va_D A (ws_S ca h0 2 qa n (.ref qa :: fr) tl qs) → va_S A H0 H locs → W p l e R s m args below meth c H locs (c0 + 6 * n) (s0 + 29 * n) Q (F0 m 59 ls [])) :
    ∀ (k : Nat) (qs : List (Nat × List Nat)) (H : Heap) (locs : List Loc) (ls : Array Slot), qs.length + k = n → (∀ z ∈ qs, z.2.length = 5) → va_P D vwCl (ws_S ca h0 2 qa n (.ref qa :: fr) tl qs) H → va_D A (ws_S ca h0 2 qa n (.ref qa :: fr) tl qs) → va_S A H0 H locs → lv_has ls 2 [(1, .int (nI qs.length)), (0, .ref h0)] → W p l e R s m args below meth c H locs (c0 + 6 * qs.length) (s0 + 29 * qs.length) Q (F0 m 31 ls []) := by
  intro k
  induction k with
  | zero =>
    intro qs H locs ls hq h5 hP hD hS hl
    have hq : qs.length = n := hq
    refine lv_iload_n hx hb dX2_init_31 rfl (lv_at hl 0 rfl) ?_
    refine lv_aload_n hx hb dX2_init_32 rfl (lv_at hl 1 rfl) ?_
    refine va_get (D := D) (ci := 2) (v := .ref qa) (C := RX2) (T := TX2) (N := 5) hx hb hts inU_X2 hown hE.1 hP 0 rfl rfl 0 (by decide) (hts _ (fl_w1 267 (by decide +kernel) (by decide +kernel))) (fun _ h9 => h9) rfl dX2_init_33 ?_
    refine va_alen hx hb hE.1 hP 1 3 rfl rfl rfl dX2_init_36 ?_
    refine lv_icmp_ge (tgt := 59) hx hb dX2_init_37 (by decide) (fun _ => ?_) (fun q9 => absurd (show nI n ≤ nI qs.length from hq ▸ Int32.le_refl _) q9)
    rw [hq]
    exact kk qs H locs ls hq h5 hP hD hS
  | succ k ih =>
    intro qs H locs ls hq h5 hP hD hS hl
    refine lv_iload_n hx hb dX2_init_31 rfl (lv_at hl 0 rfl) ?_
    refine lv_aload_n hx hb dX2_init_32 rfl (lv_at hl 1 rfl) ?_
    refine va_get (D := D) (ci := 2) (v := .ref qa) (C := RX2) (T := TX2) (N := 5) hx hb hts inU_X2 hown hE.1 hP 0 rfl rfl 0 (by decide) (hts _ (fl_w1 267 (by decide +kernel) (by decide +kernel))) (fun _ h9 => h9) rfl dX2_init_33 ?_
    refine va_alen hx hb hE.1 hP 1 3 rfl rfl rfl dX2_init_36 ?_
    refine lv_icmp_ge (tgt := 59) hx hb dX2_init_37 (by decide) (fun q9 => absurd q9 (nI_ge (show qs.length < n by omega) (by omega))) (fun _ => ?_)
    refine lv_aload_n hx hb dX2_init_40 rfl (lv_at hl 1 rfl) ?_
    refine va_get (D := D) (ci := 2) (v := .ref qa) (C := RX2) (T := TX2) (N := 5) hx hb hts inU_X2 hown hE.1 hP 0 rfl rfl 0 (by decide) (hts _ (fl_w1 267 (by decide +kernel) (by decide +kernel))) (fun _ h9 => h9) rfl dX2_init_41 ?_
    refine lv_iload_n hx hb dX2_init_44 rfl (lv_at hl 0 rfl) ?_
    refine va_new (ci := 5) (fs := [.int 0, .null, .null, .null, .null, .null]) (C := RX5) (T := TX5) (N := 6) hx hb hts inU_X5 tyX5 tyX5_ok hown (hts _ (fl_w1 (w := Cond.classLink RX2 9 RX5) 265 (by decide +kernel) (by decide +kernel))) (hts _ (fl_w1 (w := Cond.instantiable RX5 6) 177 (by decide +kernel) (by decide +kernel))) (hts _ (fl_w1 (w := Cond.initialized RX5) 49 (by decide +kernel) (by decide +kernel))) hE.1 hP hD hS hA rfl (fun j hj => by rcases (show j = 0 ∨ j = 1 ∨ j = 2 ∨ j = 3 ∨ j = 4 ∨ j = 5 by omega) with rfl | rfl | rfl | rfl | rfl | rfl <;> rfl) (by omega) (by omega) dX2_init_45 (fun q H hP hD hS => ?_)
    refine lv_dup hx hb dX2_init_48 rfl ?_
    refine fl_initc (av := []) (n := 0) (wn := wn_X5 ca q) hx hb hml hown hts hE hP hD hS hA hl.1 (c_X5_init l D ca q _) ⟨List.mem_of_getElem? (i := 6) rfl, fl_goodc (fl_w1 (w := Cond.code yX5_init cX5_init 1 none) 180 (by decide +kernel) (by decide +kernel)) fl_goodU, fl_w1 (w := Cond.initialized RX5) 49 (by decide +kernel) (by decide +kernel), fl_w1 (w := Cond.instanceMethod yX5_init) 179 (by decide +kernel) (by decide +kernel), ⟨by decide +kernel, by decide +kernel, by decide +kernel⟩⟩ rfl ⟨hfr.1, by omega, by omega, by omega⟩ rfl (Nat.le_of_ble_eq_true rfl) dX2_init_49 rfl (fun u H locs hu hP hD hS => ?_)
    refine W.eq (g2 := F0 m 52 ls (.ref q :: .int (nI qs.length) :: .ref qa :: [])) rfl ?_
    refine va_astq (D := D) (r := (RX5, TX5, 6)) (f := st_f qs) (n := n) (cA := ca 4) (ci := 5) (qk := (ws_S ca h0 2 qa n (.ref qa :: fr) tl qs).length) (q0 := 1) (t0 := 3) hx hb hE.1 hP hD hS rfl rfl (by rw [List.getElem?_append_right (Nat.le_refl _), Nat.sub_self]; rfl) rfl (vp_in_nI (show qs.length < n by omega) (by omega)) dX2_init_52 (fun H locs hP hD hS => ?_)
    rw [i_c (show qs.length < 2147483648 by omega), ws_S_snoc] at hP hD
    refine lv_iinc (v := nI qs.length + 1) (lv' := [(1, .int (nI qs.length + 1)), (0, .ref h0)]) hx hb dX2_init_53 hl (k := 0) rfl rfl (by decide) rfl (fun ls hl => ?_)
    refine lv_goto (tgt := 31) hx hb dX2_init_56 (by decide) ?_
    rw [nI_1] at hl
    have e1 : (qs ++ [(q, u)]).length = qs.length + 1 := by simp
    have h := ih (qs ++ [(q, u)]) H locs ls (by omega) (fun z hz => by rcases List.mem_append.mp hz with hz | hz; exact h5 z hz; rw [List.mem_singleton.mp hz]; exact hu) hP hD hS (by rw [e1]; exact hl)
    rw [e1, show c0 + 6 * (qs.length + 1) = c0 + 6 * qs.length + 1 + 5 by omega, show s0 + 29 * (qs.length + 1) = s0 + 29 * qs.length + 6 + 23 by omega] at h
    exact h
set_option maxHeartbeats 4000000 in
set_option maxRecDepth 100000 in
theorem lp_X1 {p : Program} {l : Launch} {e : Env} {R : Room} {s : State} {m : MethodId} {args : Array Value} {below : List Frame} {meth : Method} {c : Code} {D : va_G} {ca : Nat → ClassId} {H0 : Heap} {Q : State → Prop} {A : Nat → Prop} {h0 qa n c0 s0 : Nat} {n0 : Int32} {fr : List Value} {tl : va_W}
    (hx : p.tables.exec = Jvm.exec) (hb : c.code = cX1_init) (hml : c.maxLocals = 2) (hown : s.vm.findClass RX1 = some m.cls) (hts : ∀ w ∈ fl_U, w.before args s = true) (hE : fl_E D ca s) (hA : ∀ q, H0.size ≤ q → A q) (hn : n ≤ 8) (hfr : 2 ≤ R.frames ∧ 100 ≤ R.locals ∧ c0 + 6 * n ≤ R.cells ∧ s0 + 29 * n ≤ R.slots)
    (kk : ∀ (qs : List (Nat × List Nat)) (H : Heap) (locs : List Loc) (ls : Array Slot), qs.length = n → (∀ z ∈ qs, z.2.length = 5) → va_P D vwCl (ws_S ca h0 1 qa n (.ref qa :: fr) tl qs) H → va_D A (ws_S ca h0 1 qa n (.ref qa :: fr) tl qs) → va_S A H0 H locs → W p l e R s m args below meth c H locs (c0 + 6 * n) (s0 + 29 * n) Q (F0 m 42 ls [])) :
    ∀ (k : Nat) (qs : List (Nat × List Nat)) (H : Heap) (locs : List Loc) (ls : Array Slot), qs.length + k = n → (∀ z ∈ qs, z.2.length = 5) → va_P D vwCl (ws_S ca h0 1 qa n (.ref qa :: fr) tl qs) H → va_D A (ws_S ca h0 1 qa n (.ref qa :: fr) tl qs) → va_S A H0 H locs → lv_has ls 2 [(1, .int (nI qs.length)), (0, .ref h0)] → W p l e R s m args below meth c H locs (c0 + 6 * qs.length) (s0 + 29 * qs.length) Q (F0 m 14 ls []) := by
  intro k
  induction k with
  | zero =>
    intro qs H locs ls hq h5 hP hD hS hl
    have hq : qs.length = n := hq
    refine lv_iload_n hx hb dX1_init_14 rfl (lv_at hl 0 rfl) ?_
    refine lv_aload_n hx hb dX1_init_15 rfl (lv_at hl 1 rfl) ?_
    refine va_get (D := D) (ci := 1) (v := .ref qa) (C := RX1) (T := TX1) (N := 6) hx hb hts inU_X1 hown hE.1 hP 0 rfl rfl 0 (by decide) (hts _ (fl_w1 294 (by decide +kernel) (by decide +kernel))) (fun _ h9 => h9) rfl dX1_init_16 ?_
    refine va_alen hx hb hE.1 hP 1 3 rfl rfl rfl dX1_init_19 ?_
    refine lv_icmp_ge (tgt := 42) hx hb dX1_init_20 (by decide) (fun _ => ?_) (fun q9 => absurd (show nI n ≤ nI qs.length from hq ▸ Int32.le_refl _) q9)
    rw [hq]
    exact kk qs H locs ls hq h5 hP hD hS
  | succ k ih =>
    intro qs H locs ls hq h5 hP hD hS hl
    refine lv_iload_n hx hb dX1_init_14 rfl (lv_at hl 0 rfl) ?_
    refine lv_aload_n hx hb dX1_init_15 rfl (lv_at hl 1 rfl) ?_
    refine va_get (D := D) (ci := 1) (v := .ref qa) (C := RX1) (T := TX1) (N := 6) hx hb hts inU_X1 hown hE.1 hP 0 rfl rfl 0 (by decide) (hts _ (fl_w1 294 (by decide +kernel) (by decide +kernel))) (fun _ h9 => h9) rfl dX1_init_16 ?_
    refine va_alen hx hb hE.1 hP 1 3 rfl rfl rfl dX1_init_19 ?_
    refine lv_icmp_ge (tgt := 42) hx hb dX1_init_20 (by decide) (fun q9 => absurd q9 (nI_ge (show qs.length < n by omega) (by omega))) (fun _ => ?_)
    refine lv_aload_n hx hb dX1_init_23 rfl (lv_at hl 1 rfl) ?_
    refine va_get (D := D) (ci := 1) (v := .ref qa) (C := RX1) (T := TX1) (N := 6) hx hb hts inU_X1 hown hE.1 hP 0 rfl rfl 0 (by decide) (hts _ (fl_w1 294 (by decide +kernel) (by decide +kernel))) (fun _ h9 => h9) rfl dX1_init_24 ?_
    refine lv_iload_n hx hb dX1_init_27 rfl (lv_at hl 0 rfl) ?_
    refine va_new (ci := 5) (fs := [.int 0, .null, .null, .null, .null, .null]) (C := RX5) (T := TX5) (N := 6) hx hb hts inU_X5 tyX5 tyX5_ok hown (hts _ (fl_w1 (w := Cond.classLink RX1 9 RX5) 292 (by decide +kernel) (by decide +kernel))) (hts _ (fl_w1 (w := Cond.instantiable RX5 6) 177 (by decide +kernel) (by decide +kernel))) (hts _ (fl_w1 (w := Cond.initialized RX5) 49 (by decide +kernel) (by decide +kernel))) hE.1 hP hD hS hA rfl (fun j hj => by rcases (show j = 0 ∨ j = 1 ∨ j = 2 ∨ j = 3 ∨ j = 4 ∨ j = 5 by omega) with rfl | rfl | rfl | rfl | rfl | rfl <;> rfl) (by omega) (by omega) dX1_init_28 (fun q H hP hD hS => ?_)
    refine lv_dup hx hb dX1_init_31 rfl ?_
    refine fl_initc (av := []) (n := 0) (wn := wn_X5 ca q) hx hb hml hown hts hE hP hD hS hA hl.1 (c_X5_init l D ca q _) ⟨List.mem_of_getElem? (i := 7) rfl, fl_goodc (fl_w1 (w := Cond.code yX5_init cX5_init 1 none) 180 (by decide +kernel) (by decide +kernel)) fl_goodU, fl_w1 (w := Cond.initialized RX5) 49 (by decide +kernel) (by decide +kernel), fl_w1 (w := Cond.instanceMethod yX5_init) 179 (by decide +kernel) (by decide +kernel), ⟨by decide +kernel, by decide +kernel, by decide +kernel⟩⟩ rfl ⟨hfr.1, by omega, by omega, by omega⟩ rfl (Nat.le_of_ble_eq_true rfl) dX1_init_32 rfl (fun u H locs hu hP hD hS => ?_)
    refine W.eq (g2 := F0 m 35 ls (.ref q :: .int (nI qs.length) :: .ref qa :: [])) rfl ?_
    refine va_astq (D := D) (r := (RX5, TX5, 6)) (f := st_f qs) (n := n) (cA := ca 4) (ci := 5) (qk := (ws_S ca h0 1 qa n (.ref qa :: fr) tl qs).length) (q0 := 1) (t0 := 3) hx hb hE.1 hP hD hS rfl rfl (by rw [List.getElem?_append_right (Nat.le_refl _), Nat.sub_self]; rfl) rfl (vp_in_nI (show qs.length < n by omega) (by omega)) dX1_init_35 (fun H locs hP hD hS => ?_)
    rw [i_c (show qs.length < 2147483648 by omega), ws_S_snoc] at hP hD
    refine lv_iinc (v := nI qs.length + 1) (lv' := [(1, .int (nI qs.length + 1)), (0, .ref h0)]) hx hb dX1_init_36 hl (k := 0) rfl rfl (by decide) rfl (fun ls hl => ?_)
    refine lv_goto (tgt := 14) hx hb dX1_init_39 (by decide) ?_
    rw [nI_1] at hl
    have e1 : (qs ++ [(q, u)]).length = qs.length + 1 := by simp
    have h := ih (qs ++ [(q, u)]) H locs ls (by omega) (fun z hz => by rcases List.mem_append.mp hz with hz | hz; exact h5 z hz; rw [List.mem_singleton.mp hz]; exact hu) hP hD hS (by rw [e1]; exact hl)
    rw [e1, show c0 + 6 * (qs.length + 1) = c0 + 6 * qs.length + 1 + 5 by omega, show s0 + 29 * (qs.length + 1) = s0 + 29 * qs.length + 6 + 23 by omega] at h
    exact h
