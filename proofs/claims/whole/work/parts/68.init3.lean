def wn_X0 (ca : Nat → ClassId) (h0 : Nat) (q : List Nat) : va_W := [(h0, .inr (0, [.int 0, .int 0, .int 0, .int 0, .ref (q.getD 0 0), .ref (q.getD 1 0), .ref (q.getD 2 0), .ref (q.getD 3 0), .ref (q.getD 4 0), .ref (q.getD 5 0), .ref (q.getD 6 0), .ref (q.getD 7 0), .ref (q.getD 8 0)])), (q.getD 0 0, .inl (ca 1, 3, .inl (fun _ => 0))), (q.getD 1 0, .inl (ca 1, 3, .inl (fun _ => 0))), (q.getD 2 0, .inl (ca 1, 3, .inl (fun _ => 0))), (q.getD 3 0, .inl (ca 1, 7, .inl (fun _ => 0))), (q.getD 4 0, .inl (ca 1, 7, .inl (fun _ => 0))), (q.getD 5 0, .inl (ca 1, 7, .inl (fun _ => 0))), (q.getD 6 0, .inl (ca 1, 7, .inl (fun _ => 0))), (q.getD 7 0, .inl (ca 1, 7, .inl (fun _ => 0))), (q.getD 8 0, .inr (7, [.int 0, .int 0, .int 0, .int 0]))]
set_option maxHeartbeats 8000000 in
set_option maxRecDepth 100000 in
theorem c_X0_init (l : Launch) (D : va_G) (ca : Nat → ClassId) (h0 sz : Nat) : Met l yX0_init (Cond.code yX0_init cX0_init 1 none :: fl_U) { frames := 2, cells := 9, slots := 48, locals := 64 * 2 } (va_Pc [.ref h0] (fun U => U.heap.size = sz ∧ va_P D vwCl [(h0, .inr (0, [.int 0, .int 0, .int 0, .int 0, .null, .null, .null, .null, .null, .null, .null, .null, .null]))] U.heap ∧ fl_E D ca U))
    (va_Qv (fun q : List Nat => q.length = 9) (fun q U => va_P D vwCl (wn_X0 ca h0 q) U.heap ∧ va_D (fun a => a = h0 ∨ sz ≤ a) (wn_X0 ca h0 q)) (fun a => a = h0 ∨ sz ≤ a)) 9 48 (fun a => a = h0 ∨ sz ≤ a) := by
  refine Met.ofW (cc := cX0_init) (maxL := 1) (ret := none) (by decide) rfl ?_
  intro p e s m args below meth c s₁ B hml hv
  obtain ⟨rfl, hsz, hP, hE⟩ := hv
  have hx := B.exec
  have hb := B.bytes
  have hr := B.returns
  have hts0 := atoms_spec (ws := Cond.code yX0_init cX0_init 1 none :: fl_U) B.pre
  have hts : ∀ w ∈ fl_U, w.before _ s = true := fun w hw => hts0 w (List.mem_cons_of_mem _ hw)
  have hown : s.vm.findClass RX0 = some m.cls := findClass_of_methodNamed B.named
  have hin : meth.name = "<init>" := (name_of_methodNamed B.named B.method).1
  subst hsz
  have hD : va_D (fun a => a = h0 ∨ s.heap.size ≤ a) [(h0, .inr (0, [.int 0, .int 0, .int 0, .int 0, .null, .null, .null, .null, .null, .null, .null, .null, .null]))] := va_D1 (Or.inl rfl)
  have hA : ∀ q : Nat, s.heap.size ≤ q → (fun a => a = h0 ∨ s.heap.size ≤ a) q := fun q h => Or.inr h
  have hS : va_S (fun a => a = h0 ∨ s.heap.size ≤ a) s.heap s.heap [] := va_S.rf
  have hl := lv_entry ([.ref h0]) (n := 1) (Nat.le_of_ble_eq_true rfl)
  rw [lg_entry_eq]
  generalize (lg_sl ([.ref h0]) ++ List.replicate (1 - (lg_sl ([.ref h0])).length) Slot.unset).toArray = ls at hl ⊢
  have hl : lv_has ls 1 [(0, .ref h0)] := hl
  have har : (Cond.arrayClass .int).before #[Value.ref h0] s = true := hts _ (fl_w1 (w := Cond.arrayClass .int) 91 (by decide +kernel) (by decide +kernel))
  refine lv_aload_n hx hb dX0_init_0 rfl (lv_at hl 0 rfl) ?_
  refine W.objInit hx hb hown (hts _ (fl_w1 (w := Cond.methodLink RX0 3 objectInit) 97 (by decide +kernel) (by decide +kernel))) (hts _ (fl_w1 (w := Cond.instanceMethod objectInit) 68 (by decide +kernel) (by decide +kernel))) (hts _ (fl_w1 (w := Cond.code objectInit object_method_1_code 1 none) 69 (by decide +kernel) (by decide +kernel))) rfl (by rw [hml]; exact hl.1) rfl dX0_init_1 (Nat.le_of_ble_eq_true rfl) (Nat.le_of_ble_eq_true rfl) ?_
  refine W.eq (g2 := F0 m 4 ls []) rfl ?_
  refine lv_aload_n hx hb dX0_init_4 rfl (lv_at hl 0 rfl) ?_
  refine lv_iconst (v := (3 : Int32)) hx hb dX0_init_5 (by decide) ?_
  refine fl_newi (N' := 3) hx hb hE har hP hD hS hA (by decide) rfl (Nat.le_of_ble_eq_true rfl) (Nat.le_of_ble_eq_true rfl) (Nat.le_of_ble_eq_true rfl) dX0_init_6 (fun q0 H hP hD hS => ?_)
  refine va_putF (D := D) (ci := 0) (v := .ref q0) (ty := (.array .int)) (C := RX0) (T := TX0) (N := 13) hx hb hts inU_X0 tyX0 tyX0_ok nmX0 hown hE.1 hP hD hS 0 rfl rfl 4 (by decide) (hts _ (fl_w1 130 (by decide +kernel) (by decide +kernel))) (fun _ h9 => h9) rfl hin rfl (by decide +kernel) rfl rfl (Nat.le_of_ble_eq_true rfl) dX0_init_8 (fun H locs hP hD hS => ?_)
  refine lv_aload_n hx hb dX0_init_11 rfl (lv_at hl 0 rfl) ?_
  refine lv_iconst (v := (3 : Int32)) hx hb dX0_init_12 (by decide) ?_
  refine fl_newi (N' := 3) hx hb hE har hP hD hS hA (by decide) rfl (Nat.le_of_ble_eq_true rfl) (Nat.le_of_ble_eq_true rfl) (Nat.le_of_ble_eq_true rfl) dX0_init_13 (fun q1 H hP hD hS => ?_)
  refine va_putF (D := D) (ci := 0) (v := .ref q1) (ty := (.array .int)) (C := RX0) (T := TX0) (N := 13) hx hb hts inU_X0 tyX0 tyX0_ok nmX0 hown hE.1 hP hD hS 0 rfl rfl 5 (by decide) (hts _ (fl_w1 132 (by decide +kernel) (by decide +kernel))) (fun _ h9 => h9) rfl hin rfl (by decide +kernel) rfl rfl (Nat.le_of_ble_eq_true rfl) dX0_init_15 (fun H locs hP hD hS => ?_)
  refine lv_aload_n hx hb dX0_init_18 rfl (lv_at hl 0 rfl) ?_
  refine lv_iconst (v := (3 : Int32)) hx hb dX0_init_19 (by decide) ?_
  refine fl_newi (N' := 3) hx hb hE har hP hD hS hA (by decide) rfl (Nat.le_of_ble_eq_true rfl) (Nat.le_of_ble_eq_true rfl) (Nat.le_of_ble_eq_true rfl) dX0_init_20 (fun q2 H hP hD hS => ?_)
  refine va_putF (D := D) (ci := 0) (v := .ref q2) (ty := (.array .int)) (C := RX0) (T := TX0) (N := 13) hx hb hts inU_X0 tyX0 tyX0_ok nmX0 hown hE.1 hP hD hS 0 rfl rfl 6 (by decide) (hts _ (fl_w1 134 (by decide +kernel) (by decide +kernel))) (fun _ h9 => h9) rfl hin rfl (by decide +kernel) rfl rfl (Nat.le_of_ble_eq_true rfl) dX0_init_22 (fun H locs hP hD hS => ?_)
  refine lv_aload_n hx hb dX0_init_25 rfl (lv_at hl 0 rfl) ?_
  refine lv_bipush (v := (7 : Int32)) hx hb dX0_init_26 (by decide) ?_
  refine fl_newi (N' := 7) hx hb hE har hP hD hS hA (by decide) rfl (Nat.le_of_ble_eq_true rfl) (Nat.le_of_ble_eq_true rfl) (Nat.le_of_ble_eq_true rfl) dX0_init_28 (fun q3 H hP hD hS => ?_)
  refine va_putF (D := D) (ci := 0) (v := .ref q3) (ty := (.array .int)) (C := RX0) (T := TX0) (N := 13) hx hb hts inU_X0 tyX0 tyX0_ok nmX0 hown hE.1 hP hD hS 0 rfl rfl 7 (by decide) (hts _ (fl_w1 136 (by decide +kernel) (by decide +kernel))) (fun _ h9 => h9) rfl hin rfl (by decide +kernel) rfl rfl (Nat.le_of_ble_eq_true rfl) dX0_init_30 (fun H locs hP hD hS => ?_)
  refine lv_aload_n hx hb dX0_init_33 rfl (lv_at hl 0 rfl) ?_
  refine lv_bipush (v := (7 : Int32)) hx hb dX0_init_34 (by decide) ?_
  refine fl_newi (N' := 7) hx hb hE har hP hD hS hA (by decide) rfl (Nat.le_of_ble_eq_true rfl) (Nat.le_of_ble_eq_true rfl) (Nat.le_of_ble_eq_true rfl) dX0_init_36 (fun q4 H hP hD hS => ?_)
  refine va_putF (D := D) (ci := 0) (v := .ref q4) (ty := (.array .int)) (C := RX0) (T := TX0) (N := 13) hx hb hts inU_X0 tyX0 tyX0_ok nmX0 hown hE.1 hP hD hS 0 rfl rfl 8 (by decide) (hts _ (fl_w1 139 (by decide +kernel) (by decide +kernel))) (fun _ h9 => h9) rfl hin rfl (by decide +kernel) rfl rfl (Nat.le_of_ble_eq_true rfl) dX0_init_38 (fun H locs hP hD hS => ?_)
  refine lv_aload_n hx hb dX0_init_41 rfl (lv_at hl 0 rfl) ?_
  refine lv_bipush (v := (7 : Int32)) hx hb dX0_init_42 (by decide) ?_
  refine fl_newi (N' := 7) hx hb hE har hP hD hS hA (by decide) rfl (Nat.le_of_ble_eq_true rfl) (Nat.le_of_ble_eq_true rfl) (Nat.le_of_ble_eq_true rfl) dX0_init_44 (fun q5 H hP hD hS => ?_)
  refine va_putF (D := D) (ci := 0) (v := .ref q5) (ty := (.array .int)) (C := RX0) (T := TX0) (N := 13) hx hb hts inU_X0 tyX0 tyX0_ok nmX0 hown hE.1 hP hD hS 0 rfl rfl 9 (by decide) (hts _ (fl_w1 141 (by decide +kernel) (by decide +kernel))) (fun _ h9 => h9) rfl hin rfl (by decide +kernel) rfl rfl (Nat.le_of_ble_eq_true rfl) dX0_init_46 (fun H locs hP hD hS => ?_)
  refine lv_aload_n hx hb dX0_init_49 rfl (lv_at hl 0 rfl) ?_
  refine lv_bipush (v := (7 : Int32)) hx hb dX0_init_50 (by decide) ?_
  refine fl_newi (N' := 7) hx hb hE har hP hD hS hA (by decide) rfl (Nat.le_of_ble_eq_true rfl) (Nat.le_of_ble_eq_true rfl) (Nat.le_of_ble_eq_true rfl) dX0_init_52 (fun q6 H hP hD hS => ?_)
  refine va_putF (D := D) (ci := 0) (v := .ref q6) (ty := (.array .int)) (C := RX0) (T := TX0) (N := 13) hx hb hts inU_X0 tyX0 tyX0_ok nmX0 hown hE.1 hP hD hS 0 rfl rfl 10 (by decide) (hts _ (fl_w1 143 (by decide +kernel) (by decide +kernel))) (fun _ h9 => h9) rfl hin rfl (by decide +kernel) rfl rfl (Nat.le_of_ble_eq_true rfl) dX0_init_54 (fun H locs hP hD hS => ?_)
  refine lv_aload_n hx hb dX0_init_57 rfl (lv_at hl 0 rfl) ?_
  refine lv_bipush (v := (7 : Int32)) hx hb dX0_init_58 (by decide) ?_
  refine fl_newi (N' := 7) hx hb hE har hP hD hS hA (by decide) rfl (Nat.le_of_ble_eq_true rfl) (Nat.le_of_ble_eq_true rfl) (Nat.le_of_ble_eq_true rfl) dX0_init_60 (fun q7 H hP hD hS => ?_)
  refine va_putF (D := D) (ci := 0) (v := .ref q7) (ty := (.array .int)) (C := RX0) (T := TX0) (N := 13) hx hb hts inU_X0 tyX0 tyX0_ok nmX0 hown hE.1 hP hD hS 0 rfl rfl 11 (by decide) (hts _ (fl_w1 145 (by decide +kernel) (by decide +kernel))) (fun _ h9 => h9) rfl hin rfl (by decide +kernel) rfl rfl (Nat.le_of_ble_eq_true rfl) dX0_init_62 (fun H locs hP hD hS => ?_)
  refine lv_aload_n hx hb dX0_init_65 rfl (lv_at hl 0 rfl) ?_
  refine va_new (ci := 7) (fs := [.int 0, .int 0, .int 0, .int 0]) (C := RX7) (T := TX7) (N := 4) hx hb hts inU_X7 tyX7 tyX7_ok hown (hts _ (fl_w1 (w := Cond.classLink RX0 36 RX7) 98 (by decide +kernel) (by decide +kernel))) (hts _ (fl_w1 (w := Cond.instantiable RX7 4) 99 (by decide +kernel) (by decide +kernel))) (hts _ (fl_w1 (w := Cond.initialized RX7) 48 (by decide +kernel) (by decide +kernel))) hE.1 hP hD hS hA rfl (fun j hj => by rcases (show j = 0 ∨ j = 1 ∨ j = 2 ∨ j = 3 by omega) with rfl | rfl | rfl | rfl <;> rfl) (Nat.le_of_ble_eq_true rfl) (Nat.le_of_ble_eq_true rfl) dX0_init_66 (fun q8 H hP hD hS => ?_)
  refine lv_dup hx hb dX0_init_69 rfl ?_
  refine fl_initc (av := []) (n := 0) (wn := wn_X7 ca q8) hx hb hml hown hts hE hP hD hS hA hl.1 (c_X7_init l D ca q8 _) ⟨List.mem_of_getElem? (i := 2) rfl, fl_goodc (fl_w1 (w := Cond.code yX7_init cX7_init 1 none) 102 (by decide +kernel) (by decide +kernel)) fl_goodU, fl_w1 (w := Cond.initialized RX7) 48 (by decide +kernel) (by decide +kernel), fl_w1 (w := Cond.instanceMethod yX7_init) 101 (by decide +kernel) (by decide +kernel), ⟨by decide +kernel, by decide +kernel, by decide +kernel⟩⟩ rfl ⟨Nat.le_of_ble_eq_true rfl, Nat.le_of_ble_eq_true rfl, Nat.le_of_ble_eq_true rfl, Nat.le_of_ble_eq_true rfl⟩ rfl (Nat.le_of_ble_eq_true rfl) dX0_init_70 rfl (fun z H locs hz hP hD hS => ?_)
  refine W.eq (g2 := F0 m 73 ls [.ref q8, .ref h0]) rfl ?_
  refine va_putF (D := D) (ci := 0) (v := .ref q8) (ty := (.object RX7)) (C := RX0) (T := TX0) (N := 13) hx hb hts inU_X0 tyX0 tyX0_ok nmX0 hown hE.1 hP hD hS 0 rfl rfl 12 (by decide) (hts _ (fl_w1 147 (by decide +kernel) (by decide +kernel))) (fun _ h9 => h9) rfl hin rfl (by decide +kernel) rfl rfl (Nat.le_of_ble_eq_true rfl) dX0_init_73 (fun H locs hP hD hS => ?_)
  exact W.vret hx hb hr (fun t ht hW => ⟨⟨[q0, q1, q2, q3, q4, q5, q6, q7, q8], rfl, rfl, by rw [ht]; exact hP, hD⟩, hS.F ht⟩) hS.2.2 dX0_init_76
