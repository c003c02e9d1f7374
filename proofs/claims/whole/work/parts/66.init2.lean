/-! flat constructors: the world that each leaves, by the list of the new addresses -/
def wn_X5 (ca : Nat → ClassId) (h0 : Nat) (q : List Nat) : va_W := [(h0, .inr (5, [.int 0, .ref (q.getD 0 0), .ref (q.getD 1 0), .ref (q.getD 2 0), .ref (q.getD 3 0), .ref (q.getD 4 0)])), (q.getD 0 0, .inl (ca 1, 3, .inl (fun _ => 0))), (q.getD 1 0, .inl (ca 1, 3, .inl (fun _ => 0))), (q.getD 2 0, .inl (ca 1, 3, .inl (fun _ => 0))), (q.getD 3 0, .inl (ca 1, 7, .inl (fun _ => 0))), (q.getD 4 0, .inl (ca 1, 7, .inl (fun _ => 0)))]
set_option maxHeartbeats 4000000 in
set_option maxRecDepth 100000 in
theorem c_X5_init (l : Launch) (D : va_G) (ca : Nat → ClassId) (h0 sz : Nat) : Met l yX5_init (Cond.code yX5_init cX5_init 1 none :: fl_U) { frames := 1, cells := 5, slots := 23, locals := 64 } (va_Pc [.ref h0] (fun U => U.heap.size = sz ∧ va_P D vwCl [(h0, .inr (5, [.int 0, .null, .null, .null, .null, .null]))] U.heap ∧ fl_E D ca U))
    (va_Qv (fun q : List Nat => q.length = 5) (fun q U => va_P D vwCl (wn_X5 ca h0 q) U.heap ∧ va_D (fun a => a = h0 ∨ sz ≤ a) (wn_X5 ca h0 q)) (fun a => a = h0 ∨ sz ≤ a)) 5 23 (fun a => a = h0 ∨ sz ≤ a) := by
  refine Met.ofW (cc := cX5_init) (maxL := 1) (ret := none) (by decide) rfl ?_
  intro p e s m args below meth c s₁ B hml hv
  obtain ⟨rfl, hsz, hP, hE⟩ := hv
  have hx := B.exec
  have hb := B.bytes
  have hr := B.returns
  have hts0 := atoms_spec (ws := Cond.code yX5_init cX5_init 1 none :: fl_U) B.pre
  have hts : ∀ w ∈ fl_U, w.before _ s = true := fun w hw => hts0 w (List.mem_cons_of_mem _ hw)
  have hown : s.vm.findClass RX5 = some m.cls := findClass_of_methodNamed B.named
  have hin : meth.name = "<init>" := (name_of_methodNamed B.named B.method).1
  subst hsz
  have hD : va_D (fun a => a = h0 ∨ s.heap.size ≤ a) [(h0, .inr (5, [.int 0, .null, .null, .null, .null, .null]))] := va_D1 (Or.inl rfl)
  have hA : ∀ q : Nat, s.heap.size ≤ q → (fun a => a = h0 ∨ s.heap.size ≤ a) q := fun q h => Or.inr h
  have hS : va_S (fun a => a = h0 ∨ s.heap.size ≤ a) s.heap s.heap [] := va_S.rf
  have hl := lv_entry ([.ref h0]) (n := 1) (Nat.le_of_ble_eq_true rfl)
  rw [lg_entry_eq]
  generalize (lg_sl ([.ref h0]) ++ List.replicate (1 - (lg_sl ([.ref h0])).length) Slot.unset).toArray = ls at hl ⊢
  have hl : lv_has ls 1 [(0, .ref h0)] := hl
  have har_int : (Cond.arrayClass .int).before #[Value.ref h0] s = true := hts _ (fl_w1 (w := Cond.arrayClass .int) 91 (by decide +kernel) (by decide +kernel))
  refine lv_aload_n hx hb dX5_init_0 rfl (lv_at hl 0 rfl) ?_
  refine W.objInit hx hb hown (hts _ (fl_w1 (w := Cond.methodLink RX5 3 objectInit) 181 (by decide +kernel) (by decide +kernel))) (hts _ (fl_w1 (w := Cond.instanceMethod objectInit) 68 (by decide +kernel) (by decide +kernel))) (hts _ (fl_w1 (w := Cond.code objectInit object_method_1_code 1 none) 69 (by decide +kernel) (by decide +kernel))) rfl (by rw [hml]; exact hl.1) rfl dX5_init_1 (Nat.le_of_ble_eq_true rfl) (Nat.le_of_ble_eq_true rfl) ?_
  refine W.eq (g2 := F0 m 4 ls []) rfl ?_
  refine lv_aload_n hx hb dX5_init_4 rfl (lv_at hl 0 rfl) ?_
  refine lv_iconst (v := (3 : Int32)) hx hb dX5_init_5 (by decide) ?_
  refine fl_newi (N' := 3) hx hb hE har_int hP hD hS hA (by decide) rfl (Nat.le_of_ble_eq_true rfl) (Nat.le_of_ble_eq_true rfl) (Nat.le_of_ble_eq_true rfl) dX5_init_6 (fun q0 H hP hD hS => ?_)
  refine va_putF (D := D) (ci := 5) (v := .ref q0) (ty := .array .int) (C := RX5) (T := TX5) (N := 6) hx hb hts inU_X5 tyX5 tyX5_ok nmX5 hown hE.1 hP hD hS 0 rfl rfl 1 (by decide) (hts _ (fl_w1 185 (by decide +kernel) (by decide +kernel))) (fun _ h9 => h9) rfl hin rfl (by decide +kernel) rfl rfl (Nat.le_of_ble_eq_true rfl) dX5_init_8 (fun H locs hP hD hS => ?_)
  refine lv_aload_n hx hb dX5_init_11 rfl (lv_at hl 0 rfl) ?_
  refine lv_iconst (v := (3 : Int32)) hx hb dX5_init_12 (by decide) ?_
  refine fl_newi (N' := 3) hx hb hE har_int hP hD hS hA (by decide) rfl (Nat.le_of_ble_eq_true rfl) (Nat.le_of_ble_eq_true rfl) (Nat.le_of_ble_eq_true rfl) dX5_init_13 (fun q1 H hP hD hS => ?_)
  refine va_putF (D := D) (ci := 5) (v := .ref q1) (ty := .array .int) (C := RX5) (T := TX5) (N := 6) hx hb hts inU_X5 tyX5 tyX5_ok nmX5 hown hE.1 hP hD hS 0 rfl rfl 2 (by decide) (hts _ (fl_w1 188 (by decide +kernel) (by decide +kernel))) (fun _ h9 => h9) rfl hin rfl (by decide +kernel) rfl rfl (Nat.le_of_ble_eq_true rfl) dX5_init_15 (fun H locs hP hD hS => ?_)
  refine lv_aload_n hx hb dX5_init_18 rfl (lv_at hl 0 rfl) ?_
  refine lv_iconst (v := (3 : Int32)) hx hb dX5_init_19 (by decide) ?_
  refine fl_newi (N' := 3) hx hb hE har_int hP hD hS hA (by decide) rfl (Nat.le_of_ble_eq_true rfl) (Nat.le_of_ble_eq_true rfl) (Nat.le_of_ble_eq_true rfl) dX5_init_20 (fun q2 H hP hD hS => ?_)
  refine va_putF (D := D) (ci := 5) (v := .ref q2) (ty := .array .int) (C := RX5) (T := TX5) (N := 6) hx hb hts inU_X5 tyX5 tyX5_ok nmX5 hown hE.1 hP hD hS 0 rfl rfl 3 (by decide) (hts _ (fl_w1 191 (by decide +kernel) (by decide +kernel))) (fun _ h9 => h9) rfl hin rfl (by decide +kernel) rfl rfl (Nat.le_of_ble_eq_true rfl) dX5_init_22 (fun H locs hP hD hS => ?_)
  refine lv_aload_n hx hb dX5_init_25 rfl (lv_at hl 0 rfl) ?_
  refine lv_bipush (v := (7 : Int32)) hx hb dX5_init_26 (by decide) ?_
  refine fl_newi (N' := 7) hx hb hE har_int hP hD hS hA (by decide) rfl (Nat.le_of_ble_eq_true rfl) (Nat.le_of_ble_eq_true rfl) (Nat.le_of_ble_eq_true rfl) dX5_init_28 (fun q3 H hP hD hS => ?_)
  refine va_putF (D := D) (ci := 5) (v := .ref q3) (ty := .array .int) (C := RX5) (T := TX5) (N := 6) hx hb hts inU_X5 tyX5 tyX5_ok nmX5 hown hE.1 hP hD hS 0 rfl rfl 4 (by decide) (hts _ (fl_w1 194 (by decide +kernel) (by decide +kernel))) (fun _ h9 => h9) rfl hin rfl (by decide +kernel) rfl rfl (Nat.le_of_ble_eq_true rfl) dX5_init_30 (fun H locs hP hD hS => ?_)
  refine lv_aload_n hx hb dX5_init_33 rfl (lv_at hl 0 rfl) ?_
  refine lv_bipush (v := (7 : Int32)) hx hb dX5_init_34 (by decide) ?_
  refine fl_newi (N' := 7) hx hb hE har_int hP hD hS hA (by decide) rfl (Nat.le_of_ble_eq_true rfl) (Nat.le_of_ble_eq_true rfl) (Nat.le_of_ble_eq_true rfl) dX5_init_36 (fun q4 H hP hD hS => ?_)
  refine va_putF (D := D) (ci := 5) (v := .ref q4) (ty := .array .int) (C := RX5) (T := TX5) (N := 6) hx hb hts inU_X5 tyX5 tyX5_ok nmX5 hown hE.1 hP hD hS 0 rfl rfl 5 (by decide) (hts _ (fl_w1 197 (by decide +kernel) (by decide +kernel))) (fun _ h9 => h9) rfl hin rfl (by decide +kernel) rfl rfl (Nat.le_of_ble_eq_true rfl) dX5_init_38 (fun H locs hP hD hS => ?_)
  exact W.vret hx hb hr (fun t ht hW => ⟨⟨[q0, q1, q2, q3, q4], rfl, rfl, by rw [ht]; exact hP, hD⟩, hS.F ht⟩) hS.2.2 dX5_init_41
def wn_X6 (ca : Nat → ClassId) (h0 : Nat) (q : List Nat) : va_W := [(h0, .inr (6, [.ref (q.getD 0 0), .int 0, .ref (q.getD 1 0), .int 0])), (q.getD 0 0, .inl (ca 2, 200, .inl (fun _ => 0))), (q.getD 1 0, .inl (ca 1, 5, .inl (fun _ => 0)))]
set_option maxHeartbeats 4000000 in
set_option maxRecDepth 100000 in
theorem c_X6_init (l : Launch) (D : va_G) (ca : Nat → ClassId) (h0 sz : Nat) : Met l yX6_init (Cond.code yX6_init cX6_init 1 none :: fl_U) { frames := 1, cells := 2, slots := 205, locals := 64 } (va_Pc [.ref h0] (fun U => U.heap.size = sz ∧ va_P D vwCl [(h0, .inr (6, [.null, .int 0, .null, .int 0]))] U.heap ∧ fl_E D ca U))
    (va_Qv (fun q : List Nat => q.length = 2) (fun q U => va_P D vwCl (wn_X6 ca h0 q) U.heap ∧ va_D (fun a => a = h0 ∨ sz ≤ a) (wn_X6 ca h0 q)) (fun a => a = h0 ∨ sz ≤ a)) 2 205 (fun a => a = h0 ∨ sz ≤ a) := by
  refine Met.ofW (cc := cX6_init) (maxL := 1) (ret := none) (by decide) rfl ?_
  intro p e s m args below meth c s₁ B hml hv
  obtain ⟨rfl, hsz, hP, hE⟩ := hv
  have hx := B.exec
  have hb := B.bytes
  have hr := B.returns
  have hts0 := atoms_spec (ws := Cond.code yX6_init cX6_init 1 none :: fl_U) B.pre
  have hts : ∀ w ∈ fl_U, w.before _ s = true := fun w hw => hts0 w (List.mem_cons_of_mem _ hw)
  have hown : s.vm.findClass RX6 = some m.cls := findClass_of_methodNamed B.named
  have hin : meth.name = "<init>" := (name_of_methodNamed B.named B.method).1
  subst hsz
  have hD : va_D (fun a => a = h0 ∨ s.heap.size ≤ a) [(h0, .inr (6, [.null, .int 0, .null, .int 0]))] := va_D1 (Or.inl rfl)
  have hA : ∀ q : Nat, s.heap.size ≤ q → (fun a => a = h0 ∨ s.heap.size ≤ a) q := fun q h => Or.inr h
  have hS : va_S (fun a => a = h0 ∨ s.heap.size ≤ a) s.heap s.heap [] := va_S.rf
  have hl := lv_entry ([.ref h0]) (n := 1) (Nat.le_of_ble_eq_true rfl)
  rw [lg_entry_eq]
  generalize (lg_sl ([.ref h0]) ++ List.replicate (1 - (lg_sl ([.ref h0])).length) Slot.unset).toArray = ls at hl ⊢
  have hl : lv_has ls 1 [(0, .ref h0)] := hl
  have har_int : (Cond.arrayClass .int).before #[Value.ref h0] s = true := hts _ (fl_w1 (w := Cond.arrayClass .int) 91 (by decide +kernel) (by decide +kernel))
  have har_char : (Cond.arrayClass .char).before #[Value.ref h0] s = true := hts _ (fl_w1 (w := Cond.arrayClass .char) 90 (by decide +kernel) (by decide +kernel))
  refine lv_aload_n hx hb dX6_init_0 rfl (lv_at hl 0 rfl) ?_
  refine W.objInit hx hb hown (hts _ (fl_w1 (w := Cond.methodLink RX6 3 objectInit) 75 (by decide +kernel) (by decide +kernel))) (hts _ (fl_w1 (w := Cond.instanceMethod objectInit) 68 (by decide +kernel) (by decide +kernel))) (hts _ (fl_w1 (w := Cond.code objectInit object_method_1_code 1 none) 69 (by decide +kernel) (by decide +kernel))) rfl (by rw [hml]; exact hl.1) rfl dX6_init_1 (Nat.le_of_ble_eq_true rfl) (Nat.le_of_ble_eq_true rfl) ?_
  refine W.eq (g2 := F0 m 4 ls []) rfl ?_
  refine lv_aload_n hx hb dX6_init_4 rfl (lv_at hl 0 rfl) ?_
  refine lv_sipush (v := (200 : Int32)) hx hb dX6_init_5 (by decide) ?_
  refine fl_newc (N' := 200) hx hb hE har_char hP hD hS hA (by decide) rfl (Nat.le_of_ble_eq_true rfl) (Nat.le_of_ble_eq_true rfl) (Nat.le_of_ble_eq_true rfl) dX6_init_8 (fun q0 H hP hD hS => ?_)
  refine va_putF (D := D) (ci := 6) (v := .ref q0) (ty := .array .char) (C := RX6) (T := TX6) (N := 4) hx hb hts inU_X6 tyX6 tyX6_ok nmX6 hown hE.1 hP hD hS 0 rfl rfl 0 (by decide) (hts _ (fl_w1 76 (by decide +kernel) (by decide +kernel))) (fun _ h9 => h9) rfl hin rfl (by decide +kernel) rfl rfl (Nat.le_of_ble_eq_true rfl) dX6_init_10 (fun H locs hP hD hS => ?_)
  refine lv_aload_n hx hb dX6_init_13 rfl (lv_at hl 0 rfl) ?_
  refine lv_iconst (v := (5 : Int32)) hx hb dX6_init_14 (by decide) ?_
  refine fl_newi (N' := 5) hx hb hE har_int hP hD hS hA (by decide) rfl (Nat.le_of_ble_eq_true rfl) (Nat.le_of_ble_eq_true rfl) (Nat.le_of_ble_eq_true rfl) dX6_init_15 (fun q1 H hP hD hS => ?_)
  refine va_putF (D := D) (ci := 6) (v := .ref q1) (ty := .array .int) (C := RX6) (T := TX6) (N := 4) hx hb hts inU_X6 tyX6 tyX6_ok nmX6 hown hE.1 hP hD hS 0 rfl rfl 2 (by decide) (hts _ (fl_w1 79 (by decide +kernel) (by decide +kernel))) (fun _ h9 => h9) rfl hin rfl (by decide +kernel) rfl rfl (Nat.le_of_ble_eq_true rfl) dX6_init_17 (fun H locs hP hD hS => ?_)
  exact W.vret hx hb hr (fun t ht hW => ⟨⟨[q0, q1], rfl, rfl, by rw [ht]; exact hP, hD⟩, hS.F ht⟩) hS.2.2 dX6_init_20
def wn_X7 (ca : Nat → ClassId) (h0 : Nat) (q : List Nat) : va_W := [(h0, .inr (7, [.int 0, .int 0, .int 0, .int 0]))]
set_option maxHeartbeats 4000000 in
set_option maxRecDepth 100000 in
theorem c_X7_init (l : Launch) (D : va_G) (ca : Nat → ClassId) (h0 sz : Nat) : Met l yX7_init (Cond.code yX7_init cX7_init 1 none :: fl_U) { frames := 1, cells := 0, slots := 0, locals := 64 } (va_Pc [.ref h0] (fun U => U.heap.size = sz ∧ va_P D vwCl [(h0, .inr (7, [.int 0, .int 0, .int 0, .int 0]))] U.heap ∧ fl_E D ca U))
    (va_Qv (fun q : List Nat => q.length = 0) (fun q U => va_P D vwCl (wn_X7 ca h0 q) U.heap ∧ va_D (fun a => a = h0 ∨ sz ≤ a) (wn_X7 ca h0 q)) (fun a => a = h0 ∨ sz ≤ a)) 0 0 (fun a => a = h0 ∨ sz ≤ a) := by
  refine Met.ofW (cc := cX7_init) (maxL := 1) (ret := none) (by decide) rfl ?_
  intro p e s m args below meth c s₁ B hml hv
  obtain ⟨rfl, hsz, hP, hE⟩ := hv
  have hx := B.exec
  have hb := B.bytes
  have hr := B.returns
  have hts0 := atoms_spec (ws := Cond.code yX7_init cX7_init 1 none :: fl_U) B.pre
  have hts : ∀ w ∈ fl_U, w.before _ s = true := fun w hw => hts0 w (List.mem_cons_of_mem _ hw)
  have hown : s.vm.findClass RX7 = some m.cls := findClass_of_methodNamed B.named
  have hin : meth.name = "<init>" := (name_of_methodNamed B.named B.method).1
  subst hsz
  have hD : va_D (fun a => a = h0 ∨ s.heap.size ≤ a) [(h0, .inr (7, [.int 0, .int 0, .int 0, .int 0]))] := va_D1 (Or.inl rfl)
  have hA : ∀ q : Nat, s.heap.size ≤ q → (fun a => a = h0 ∨ s.heap.size ≤ a) q := fun q h => Or.inr h
  have hS : va_S (fun a => a = h0 ∨ s.heap.size ≤ a) s.heap s.heap [] := va_S.rf
  have hl := lv_entry ([.ref h0]) (n := 1) (Nat.le_of_ble_eq_true rfl)
  rw [lg_entry_eq]
  generalize (lg_sl ([.ref h0]) ++ List.replicate (1 - (lg_sl ([.ref h0])).length) Slot.unset).toArray = ls at hl ⊢
  have hl : lv_has ls 1 [(0, .ref h0)] := hl
  refine lv_aload_n hx hb dX7_init_0 rfl (lv_at hl 0 rfl) ?_
  refine W.objInit hx hb hown (hts _ (fl_w1 (w := Cond.methodLink RX7 1 objectInit) 103 (by decide +kernel) (by decide +kernel))) (hts _ (fl_w1 (w := Cond.instanceMethod objectInit) 68 (by decide +kernel) (by decide +kernel))) (hts _ (fl_w1 (w := Cond.code objectInit object_method_1_code 1 none) 69 (by decide +kernel) (by decide +kernel))) rfl (by rw [hml]; exact hl.1) rfl dX7_init_1 (Nat.le_of_ble_eq_true rfl) (Nat.le_of_ble_eq_true rfl) ?_
  refine W.eq (g2 := F0 m 4 ls []) rfl ?_
  exact W.vret hx hb hr (fun t ht hW => ⟨⟨[], rfl, rfl, by rw [ht]; exact hP, hD⟩, hS.F ht⟩) hS.2.2 dX7_init_4
