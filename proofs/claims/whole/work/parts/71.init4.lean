/-! ===== Shelf, Orders, Duel ===== -/
def wn_X4 (ca : Nat → ClassId) (h0 : Nat) (n : Nat) (q : Nat × List (Nat × List Nat)) : va_W := ws_S ca h0 4 q.1 n (.ref q.1 :: [.int 0, .int 0]) [] q.2
set_option maxHeartbeats 8000000 in
set_option maxRecDepth 100000 in
theorem c_X4_init (l : Launch) (D : va_G) (ca : Nat → ClassId) (h0 sz n : Nat) (hn1 : 1 ≤ n) (hn8 : n ≤ 8) : Met l yX4_init (Cond.code yX4_init cX4_init 3 none :: fl_U) { frames := 2, cells := 0 + 1 + 6 * n, slots := 0 + n + 29 * n, locals := 64 * 2 } (va_Pc [.ref h0, .int (nI n)] (fun U => U.heap.size = sz ∧ va_P D vwCl [(h0, .inr (4, [.null, .int 0, .int 0]))] U.heap ∧ fl_E D ca U ∧ va_AO RX5 U))
    (va_Qv (fun q : Nat × List (Nat × List Nat) => q.2.length = n ∧ ∀ z ∈ q.2, z.2.length = 5) (fun q U => va_P D vwCl (wn_X4 ca h0 n q) U.heap ∧ va_D (fun a => a = h0 ∨ sz ≤ a) (wn_X4 ca h0 n q)) (fun a => a = h0 ∨ sz ≤ a)) (0 + 1 + 6 * n) (0 + n + 29 * n) (fun a => a = h0 ∨ sz ≤ a) := by
  refine Met.ofW (cc := cX4_init) (maxL := 3) (ret := none) (by decide) rfl ?_
  intro p e s m args below meth c s₁ B hml hv
  obtain ⟨rfl, hsz, hP, hE, hO⟩ := hv
  have hx := B.exec
  have hb := B.bytes
  have hr := B.returns
  have hts0 := atoms_spec (ws := Cond.code yX4_init cX4_init 3 none :: fl_U) B.pre
  have hts : ∀ w ∈ fl_U, w.before _ s = true := fun w hw => hts0 w (List.mem_cons_of_mem _ hw)
  have hown : s.vm.findClass RX4 = some m.cls := findClass_of_methodNamed B.named
  have hin : meth.name = "<init>" := (name_of_methodNamed B.named B.method).1
  subst hsz
  have hD : va_D (fun a => a = h0 ∨ s.heap.size ≤ a) [(h0, .inr (4, [.null, .int 0, .int 0]))] := va_D1 (Or.inl rfl)
  have hA : ∀ q : Nat, s.heap.size ≤ q → (fun a => a = h0 ∨ s.heap.size ≤ a) q := fun q h => Or.inr h
  have hS : va_S (fun a => a = h0 ∨ s.heap.size ≤ a) s.heap s.heap [] := va_S.rf
  have hl := lv_entry ([.ref h0, .int (nI n)]) (n := 3) (Nat.le_of_ble_eq_true rfl)
  rw [lg_entry_eq]
  generalize (lg_sl ([.ref h0, .int (nI n)]) ++ List.replicate (3 - (lg_sl ([.ref h0, .int (nI n)])).length) Slot.unset).toArray = ls at hl ⊢
  have hl : lv_has ls 3 [(0, .ref h0), (1, .int (nI n))] := hl
  have har : (Cond.arrayClass .int).before ([.ref h0, .int (nI n)] : List Value).toArray s = true := hts _ (fl_w1 (w := Cond.arrayClass .int) 91 (by decide +kernel) (by decide +kernel))
  refine lv_aload_n hx hb dX4_init_0 rfl (lv_at hl 0 rfl) ?_
  refine W.objInit hx hb hown (hts _ (fl_w1 (w := Cond.methodLink RX4 1 objectInit) 218 (by decide +kernel) (by decide +kernel))) (hts _ (fl_w1 (w := Cond.instanceMethod objectInit) 68 (by decide +kernel) (by decide +kernel))) (hts _ (fl_w1 (w := Cond.code objectInit object_method_1_code 1 none) 69 (by decide +kernel) (by decide +kernel))) rfl (by rw [hml]; exact hl.1) rfl dX4_init_1 (Nat.le_of_ble_eq_true rfl) (Nat.le_of_ble_eq_true rfl) ?_
  refine W.eq (g2 := F0 m 4 ls []) rfl ?_
  refine lv_aload_n hx hb dX4_init_4 rfl (lv_at hl 0 rfl) ?_
  refine lv_iconst (v := (1 : Int32)) hx hb dX4_init_5 (by decide) ?_
  refine lv_iload_n hx hb dX4_init_6 rfl (lv_at hl 1 rfl) ?_
  refine va_mmax hx hb (hml.trans hl.1.symm) hown (hts _ (fl_w1 219 (by decide +kernel) (by decide +kernel))) (hts _ (fl_w1 220 (by decide +kernel) (by decide +kernel))) (hts _ (fl_w1 51 (by decide +kernel) (by decide +kernel))) (hts _ (fl_w1 221 (by decide +kernel) (by decide +kernel))) (Nat.le_of_ble_eq_true rfl) (Nat.le_of_ble_eq_true rfl) (Nat.zero_le _) (Nat.zero_le _) dX4_init_7 ?_
  refine fl_topi (y := nI n) (by rcases Nat.lt_or_ge 1 n with z | z; exact (if_pos (nI_lt (a := 1) z (by omega))).symm; rw [show n = 1 by omega]; decide) ?_
  refine fl_newq (N' := n) hx hb hown (hts _ (fl_w1 222 (by decide +kernel) (by decide +kernel))) hO hE hP hD hS hA (nI_nlt (b := 0) (a := n) (Nat.zero_le _) (by omega)) (i_c (by omega)) (by omega) (by show 0 + 1 ≤ 0 + 1 + 6 * n; omega) (by show 0 + n ≤ 0 + n + 29 * n; omega) dX4_init_10 (fun qa H hP hD hS => ?_)
  refine va_putF (D := D) (ci := 4) (v := .ref qa) (ty := (.array (.object RX5))) (C := RX4) (T := TX4) (N := 3) hx hb hts inU_X4 tyX4 tyX4_ok nmX4 hown hE.1 hP hD hS 0 rfl rfl 0 (by decide) (hts _ (fl_w1 225 (by decide +kernel) (by decide +kernel))) (fun _ h9 => h9) rfl hin rfl (by decide +kernel) rfl rfl (Nat.le_of_ble_eq_true rfl) dX4_init_13 (fun H locs hP hD hS => ?_)
  refine lv_iconst (v := (0 : Int32)) hx hb dX4_init_16 (by decide) ?_
  refine lv_istore_n (lv' := [(2, .int (0 : Int32)), (0, .ref h0), (1, .int (nI n))]) hx hb dX4_init_17 rfl hl (by decide) rfl (fun ls hl => ?_)
  refine lp_X4 (n := n) (qa := qa) (fr := [.int 0, .int 0]) (tl := []) (c0 := 0 + 1) (s0 := 0 + n) (A := fun a => a = h0 ∨ s.heap.size ≤ a) (n0 := nI n) hx hb hml hown hts hE hA hn8 ⟨Nat.le_refl 2, Nat.le_of_ble_eq_true rfl, Nat.le_refl _, Nat.le_refl _⟩ (fun qs H locs ls hq h5 hP hD hS => ?_) n [] H locs ls (by simp) (by simp) hP hD hS hl
  exact W.vret hx hb hr (fun t ht hW => ⟨⟨(qa, qs), rfl, ⟨hq, h5⟩, by rw [ht]; exact hP, hD⟩, hS.F ht⟩) hS.2.2 dX4_init_46
def wn_X2 (ca : Nat → ClassId) (h0 : Nat) (q : Nat × Nat × Nat × List (Nat × List Nat)) : va_W := ws_S ca h0 2 q.1 8 (.ref q.1 :: [.ref q.2.1, .ref q.2.2.1, .int 0, .int 0]) [(q.2.1, .inl (ca 1, 7, .inl (fun _ => 0))), (q.2.2.1, .inl (ca 1, 7, .inl (fun _ => 0)))] q.2.2.2
set_option maxHeartbeats 8000000 in
set_option maxRecDepth 100000 in
theorem c_X2_init (l : Launch) (D : va_G) (ca : Nat → ClassId) (h0 sz : Nat) : Met l yX2_init (Cond.code yX2_init cX2_init 2 none :: fl_U) { frames := 2, cells := 0 + 1 + 1 + 1 + 6 * 8, slots := 0 + 8 + 7 + 7 + 29 * 8, locals := 64 * 2 } (va_Pc [.ref h0] (fun U => U.heap.size = sz ∧ va_P D vwCl [(h0, .inr (2, [.null, .null, .null, .int 0, .int 0]))] U.heap ∧ fl_E D ca U ∧ va_AO RX5 U))
    (va_Qv (fun q : Nat × Nat × Nat × List (Nat × List Nat) => q.2.2.2.length = 8 ∧ ∀ z ∈ q.2.2.2, z.2.length = 5) (fun q U => va_P D vwCl (wn_X2 ca h0 q) U.heap ∧ va_D (fun a => a = h0 ∨ sz ≤ a) (wn_X2 ca h0 q)) (fun a => a = h0 ∨ sz ≤ a)) (0 + 1 + 1 + 1 + 6 * 8) (0 + 8 + 7 + 7 + 29 * 8) (fun a => a = h0 ∨ sz ≤ a) := by
  refine Met.ofW (cc := cX2_init) (maxL := 2) (ret := none) (by decide) rfl ?_
  intro p e s m args below meth c s₁ B hml hv
  obtain ⟨rfl, hsz, hP, hE, hO⟩ := hv
  have hx := B.exec
  have hb := B.bytes
  have hr := B.returns
  have hts0 := atoms_spec (ws := Cond.code yX2_init cX2_init 2 none :: fl_U) B.pre
  have hts : ∀ w ∈ fl_U, w.before _ s = true := fun w hw => hts0 w (List.mem_cons_of_mem _ hw)
  have hown : s.vm.findClass RX2 = some m.cls := findClass_of_methodNamed B.named
  have hin : meth.name = "<init>" := (name_of_methodNamed B.named B.method).1
  subst hsz
  have hD : va_D (fun a => a = h0 ∨ s.heap.size ≤ a) [(h0, .inr (2, [.null, .null, .null, .int 0, .int 0]))] := va_D1 (Or.inl rfl)
  have hA : ∀ q : Nat, s.heap.size ≤ q → (fun a => a = h0 ∨ s.heap.size ≤ a) q := fun q h => Or.inr h
  have hS : va_S (fun a => a = h0 ∨ s.heap.size ≤ a) s.heap s.heap [] := va_S.rf
  have hl := lv_entry ([.ref h0]) (n := 2) (Nat.le_of_ble_eq_true rfl)
  rw [lg_entry_eq]
  generalize (lg_sl ([.ref h0]) ++ List.replicate (2 - (lg_sl ([.ref h0])).length) Slot.unset).toArray = ls at hl ⊢
  have hl : lv_has ls 2 [(0, .ref h0)] := hl
  have har : (Cond.arrayClass .int).before ([.ref h0] : List Value).toArray s = true := hts _ (fl_w1 (w := Cond.arrayClass .int) 91 (by decide +kernel) (by decide +kernel))
  refine lv_aload_n hx hb dX2_init_0 rfl (lv_at hl 0 rfl) ?_
  refine W.objInit hx hb hown (hts _ (fl_w1 (w := Cond.methodLink RX2 3 objectInit) 264 (by decide +kernel) (by decide +kernel))) (hts _ (fl_w1 (w := Cond.instanceMethod objectInit) 68 (by decide +kernel) (by decide +kernel))) (hts _ (fl_w1 (w := Cond.code objectInit object_method_1_code 1 none) 69 (by decide +kernel) (by decide +kernel))) rfl (by rw [hml]; exact hl.1) rfl dX2_init_1 (Nat.le_of_ble_eq_true rfl) (Nat.le_of_ble_eq_true rfl) ?_
  refine W.eq (g2 := F0 m 4 ls []) rfl ?_
  refine lv_aload_n hx hb dX2_init_4 rfl (lv_at hl 0 rfl) ?_
  refine lv_bipush (v := (8 : Int32)) hx hb dX2_init_5 (by decide) ?_
  refine fl_newq (N' := 8) hx hb hown (hts _ (fl_w1 265 (by decide +kernel) (by decide +kernel))) hO hE hP hD hS hA (by decide) rfl (Nat.le_of_ble_eq_true rfl) (Nat.le_of_ble_eq_true rfl) (Nat.le_of_ble_eq_true rfl) dX2_init_7 (fun qa H hP hD hS => ?_)
  refine va_putF (D := D) (ci := 2) (v := .ref qa) (ty := (.array (.object RX5))) (C := RX2) (T := TX2) (N := 5) hx hb hts inU_X2 tyX2 tyX2_ok nmX2 hown hE.1 hP hD hS 0 rfl rfl 0 (by decide) (hts _ (fl_w1 267 (by decide +kernel) (by decide +kernel))) (fun _ h9 => h9) rfl hin rfl (by decide +kernel) rfl rfl (Nat.le_of_ble_eq_true rfl) dX2_init_10 (fun H locs hP hD hS => ?_)
  refine lv_aload_n hx hb dX2_init_13 rfl (lv_at hl 0 rfl) ?_
  refine lv_bipush (v := (7 : Int32)) hx hb dX2_init_14 (by decide) ?_
  refine fl_newi (N' := 7) hx hb hE har hP hD hS hA (by decide) rfl (Nat.le_of_ble_eq_true rfl) (Nat.le_of_ble_eq_true rfl) (Nat.le_of_ble_eq_true rfl) dX2_init_16 (fun q1 H hP hD hS => ?_)
  refine va_putF (D := D) (ci := 2) (v := .ref q1) (ty := (.array .int)) (C := RX2) (T := TX2) (N := 5) hx hb hts inU_X2 tyX2 tyX2_ok nmX2 hown hE.1 hP hD hS 0 rfl rfl 1 (by decide) (hts _ (fl_w1 268 (by decide +kernel) (by decide +kernel))) (fun _ h9 => h9) rfl hin rfl (by decide +kernel) rfl rfl (Nat.le_of_ble_eq_true rfl) dX2_init_18 (fun H locs hP hD hS => ?_)
  refine lv_aload_n hx hb dX2_init_21 rfl (lv_at hl 0 rfl) ?_
  refine lv_bipush (v := (7 : Int32)) hx hb dX2_init_22 (by decide) ?_
  refine fl_newi (N' := 7) hx hb hE har hP hD hS hA (by decide) rfl (Nat.le_of_ble_eq_true rfl) (Nat.le_of_ble_eq_true rfl) (Nat.le_of_ble_eq_true rfl) dX2_init_24 (fun q2 H hP hD hS => ?_)
  refine va_putF (D := D) (ci := 2) (v := .ref q2) (ty := (.array .int)) (C := RX2) (T := TX2) (N := 5) hx hb hts inU_X2 tyX2 tyX2_ok nmX2 hown hE.1 hP hD hS 0 rfl rfl 2 (by decide) (hts _ (fl_w1 269 (by decide +kernel) (by decide +kernel))) (fun _ h9 => h9) rfl hin rfl (by decide +kernel) rfl rfl (Nat.le_of_ble_eq_true rfl) dX2_init_26 (fun H locs hP hD hS => ?_)
  refine lv_iconst (v := (0 : Int32)) hx hb dX2_init_29 (by decide) ?_
  refine lv_istore_n (lv' := [(1, .int (0 : Int32)), (0, .ref h0)]) hx hb dX2_init_30 rfl hl (by decide) rfl (fun ls hl => ?_)
  refine lp_X2 (n := 8) (qa := qa) (fr := [.ref q1, .ref q2, .int 0, .int 0]) (tl := [(q1, .inl (ca 1, 7, .inl (fun _ => 0))), (q2, .inl (ca 1, 7, .inl (fun _ => 0)))]) (c0 := 0 + 1 + 1 + 1) (s0 := 0 + 8 + 7 + 7) (A := fun a => a = h0 ∨ s.heap.size ≤ a) (n0 := 0) hx hb hml hown hts hE hA (Nat.le_of_ble_eq_true rfl) ⟨Nat.le_refl 2, Nat.le_of_ble_eq_true rfl, Nat.le_refl _, Nat.le_refl _⟩ (fun qs H locs ls hq h5 hP hD hS => ?_) 8 [] H locs ls (by simp) (by simp) hP hD hS hl
  exact W.vret hx hb hr (fun t ht hW => ⟨⟨(qa, q1, q2, qs), rfl, ⟨hq, h5⟩, by rw [ht]; exact hP, hD⟩, hS.F ht⟩) hS.2.2 dX2_init_59
def wn_X1 (ca : Nat → ClassId) (h0 : Nat) (q : Nat × List (Nat × List Nat)) : va_W := ws_S ca h0 1 q.1 5 (.ref q.1 :: [.int 0, .int 0, .int 0, .int 0, .int 0]) [] q.2
set_option maxHeartbeats 8000000 in
set_option maxRecDepth 100000 in
theorem c_X1_init (l : Launch) (D : va_G) (ca : Nat → ClassId) (h0 sz : Nat) : Met l yX1_init (Cond.code yX1_init cX1_init 2 none :: fl_U) { frames := 2, cells := 0 + 1 + 6 * 5, slots := 0 + 5 + 29 * 5, locals := 64 * 2 } (va_Pc [.ref h0] (fun U => U.heap.size = sz ∧ va_P D vwCl [(h0, .inr (1, [.null, .int 0, .int 0, .int 0, .int 0, .int 0]))] U.heap ∧ fl_E D ca U ∧ va_AO RX5 U))
    (va_Qv (fun q : Nat × List (Nat × List Nat) => q.2.length = 5 ∧ ∀ z ∈ q.2, z.2.length = 5) (fun q U => va_P D vwCl (wn_X1 ca h0 q) U.heap ∧ va_D (fun a => a = h0 ∨ sz ≤ a) (wn_X1 ca h0 q)) (fun a => a = h0 ∨ sz ≤ a)) (0 + 1 + 6 * 5) (0 + 5 + 29 * 5) (fun a => a = h0 ∨ sz ≤ a) := by
  refine Met.ofW (cc := cX1_init) (maxL := 2) (ret := none) (by decide) rfl ?_
  intro p e s m args below meth c s₁ B hml hv
  obtain ⟨rfl, hsz, hP, hE, hO⟩ := hv
  have hx := B.exec
  have hb := B.bytes
  have hr := B.returns
  have hts0 := atoms_spec (ws := Cond.code yX1_init cX1_init 2 none :: fl_U) B.pre
  have hts : ∀ w ∈ fl_U, w.before _ s = true := fun w hw => hts0 w (List.mem_cons_of_mem _ hw)
  have hown : s.vm.findClass RX1 = some m.cls := findClass_of_methodNamed B.named
  have hin : meth.name = "<init>" := (name_of_methodNamed B.named B.method).1
  subst hsz
  have hD : va_D (fun a => a = h0 ∨ s.heap.size ≤ a) [(h0, .inr (1, [.null, .int 0, .int 0, .int 0, .int 0, .int 0]))] := va_D1 (Or.inl rfl)
  have hA : ∀ q : Nat, s.heap.size ≤ q → (fun a => a = h0 ∨ s.heap.size ≤ a) q := fun q h => Or.inr h
  have hS : va_S (fun a => a = h0 ∨ s.heap.size ≤ a) s.heap s.heap [] := va_S.rf
  have hl := lv_entry ([.ref h0]) (n := 2) (Nat.le_of_ble_eq_true rfl)
  rw [lg_entry_eq]
  generalize (lg_sl ([.ref h0]) ++ List.replicate (2 - (lg_sl ([.ref h0])).length) Slot.unset).toArray = ls at hl ⊢
  have hl : lv_has ls 2 [(0, .ref h0)] := hl
  have har : (Cond.arrayClass .int).before ([.ref h0] : List Value).toArray s = true := hts _ (fl_w1 (w := Cond.arrayClass .int) 91 (by decide +kernel) (by decide +kernel))
  refine lv_aload_n hx hb dX1_init_0 rfl (lv_at hl 0 rfl) ?_
  refine W.objInit hx hb hown (hts _ (fl_w1 (w := Cond.methodLink RX1 3 objectInit) 291 (by decide +kernel) (by decide +kernel))) (hts _ (fl_w1 (w := Cond.instanceMethod objectInit) 68 (by decide +kernel) (by decide +kernel))) (hts _ (fl_w1 (w := Cond.code objectInit object_method_1_code 1 none) 69 (by decide +kernel) (by decide +kernel))) rfl (by rw [hml]; exact hl.1) rfl dX1_init_1 (Nat.le_of_ble_eq_true rfl) (Nat.le_of_ble_eq_true rfl) ?_
  refine W.eq (g2 := F0 m 4 ls []) rfl ?_
  refine lv_aload_n hx hb dX1_init_4 rfl (lv_at hl 0 rfl) ?_
  refine lv_iconst (v := (5 : Int32)) hx hb dX1_init_5 (by decide) ?_
  refine fl_newq (N' := 5) hx hb hown (hts _ (fl_w1 292 (by decide +kernel) (by decide +kernel))) hO hE hP hD hS hA (by decide) rfl (Nat.le_of_ble_eq_true rfl) (Nat.le_of_ble_eq_true rfl) (Nat.le_of_ble_eq_true rfl) dX1_init_6 (fun qa H hP hD hS => ?_)
  refine va_putF (D := D) (ci := 1) (v := .ref qa) (ty := (.array (.object RX5))) (C := RX1) (T := TX1) (N := 6) hx hb hts inU_X1 tyX1 tyX1_ok nmX1 hown hE.1 hP hD hS 0 rfl rfl 0 (by decide) (hts _ (fl_w1 294 (by decide +kernel) (by decide +kernel))) (fun _ h9 => h9) rfl hin rfl (by decide +kernel) rfl rfl (Nat.le_of_ble_eq_true rfl) dX1_init_9 (fun H locs hP hD hS => ?_)
  refine lv_iconst (v := (0 : Int32)) hx hb dX1_init_12 (by decide) ?_
  refine lv_istore_n (lv' := [(1, .int (0 : Int32)), (0, .ref h0)]) hx hb dX1_init_13 rfl hl (by decide) rfl (fun ls hl => ?_)
  refine lp_X1 (n := 5) (qa := qa) (fr := [.int 0, .int 0, .int 0, .int 0, .int 0]) (tl := []) (c0 := 0 + 1) (s0 := 0 + 5) (A := fun a => a = h0 ∨ s.heap.size ≤ a) (n0 := 0) hx hb hml hown hts hE hA (Nat.le_of_ble_eq_true rfl) ⟨Nat.le_refl 2, Nat.le_of_ble_eq_true rfl, Nat.le_refl _, Nat.le_refl _⟩ (fun qs H locs ls hq h5 hP hD hS => ?_) 5 [] H locs ls (by simp) (by simp) hP hD hS hl
  exact W.vret hx hb hr (fun t ht hW => ⟨⟨(qa, qs), rfl, ⟨hq, h5⟩, by rw [ht]; exact hP, hD⟩, hS.F ht⟩) hS.2.2 dX1_init_42
