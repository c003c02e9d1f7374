/-! ===== the law from its entry ===== -/
theorem nest_at {s : State} {args : Array Value} (hts : ∀ w ∈ lw_tbl, w.before args s = true) : ∀ w ∈ fl_nest, va_Nw w s := by
  intro w hw
  refine va_Nw.of (List.all_eq_true.mp fl_nest_tab w hw) (hts w ?_)
  rw [fl_nest_in] at hw
  obtain ⟨i, -, hi⟩ := List.mem_filterMap.mp hw
  exact List.mem_of_getElem? hi
theorem known_at {s : State} {args : Array Value} (hts : ∀ w ∈ lw_tbl, w.before args s = true) : ∃ (D : va_G) (ca : Nat → ClassId), fl_E D ca s := by
  have htsU : ∀ w ∈ fl_U, w.before args s = true := fun w hw => hts w (List.mem_filter.mp hw).1
  obtain ⟨c0, i0, k0⟩ := u_known (C := RX0) (T := TX0) (N := 13) (n := 13) htsU inU_X0 (hts (.instantiable RX0 13) (List.mem_of_getElem? (i := 93) (by decide +kernel)))
  obtain ⟨c1, i1, k1⟩ := u_known (C := RX1) (T := TX1) (N := 6) (n := 6) htsU inU_X1 (hts (.instantiable RX1 6) (List.mem_of_getElem? (i := 287) (by decide +kernel)))
  obtain ⟨c2, i2, k2⟩ := u_known (C := RX2) (T := TX2) (N := 5) (n := 5) htsU inU_X2 (hts (.instantiable RX2 5) (List.mem_of_getElem? (i := 260) (by decide +kernel)))
  obtain ⟨c3, i3, k3⟩ := u_known (C := RX3) (T := TX3) (N := 4) (n := 4) htsU inU_X3 (hts (.instantiable RX3 4) (List.mem_of_getElem? (i := 237) (by decide +kernel)))
  obtain ⟨c4, i4, k4⟩ := u_known (C := RX4) (T := TX4) (N := 3) (n := 3) htsU inU_X4 (hts (.instantiable RX4 3) (List.mem_of_getElem? (i := 214) (by decide +kernel)))
  obtain ⟨c5, i5, k5⟩ := u_known (C := RX5) (T := TX5) (N := 6) (n := 6) htsU inU_X5 (hts (.instantiable RX5 6) (List.mem_of_getElem? (i := 177) (by decide +kernel)))
  obtain ⟨c6, i6, k6⟩ := u_known (C := RX6) (T := TX6) (N := 4) (n := 4) htsU inU_X6 (hts (.instantiable RX6 4) (List.mem_of_getElem? (i := 71) (by decide +kernel)))
  obtain ⟨c7, i7, k7⟩ := u_known (C := RX7) (T := TX7) (N := 4) (n := 4) htsU inU_X7 (hts (.instantiable RX7 4) (List.mem_of_getElem? (i := 99) (by decide +kernel)))
  obtain ⟨c8, i8, k8⟩ := u_known (C := RX8) (T := TX8) (N := 11) (n := 11) htsU inU_X8 (hts (.instantiable RX8 11) (List.mem_of_getElem? (i := 63) (by decide +kernel)))
  obtain ⟨c9, i9, k9⟩ := u_known (C := RX9) (T := TX9) (N := 32) (n := 32) htsU inU_X9 (hts (.instantiable RX9 32) (List.mem_of_getElem? (i := 729) (by decide +kernel)))
  obtain ⟨aI, bI, dI, nI, eI, fI⟩ := Cond.arrayClass_spec (hts (.arrayClass .int) (List.mem_of_getElem? (i := 91) (by decide +kernel)))
  obtain ⟨aC, bC, dC, nC, eC, fC⟩ := Cond.arrayClass_spec (hts (.arrayClass .char) (List.mem_of_getElem? (i := 90) (by decide +kernel)))
  obtain ⟨aJ, bJ, dJ, nJ, eJ, fJ⟩ := Cond.arrayClass_spec (hts (.arrayClass .long) (List.mem_of_getElem? (i := 456) (by decide +kernel)))
  obtain ⟨dS, aS, bS, fS, -, eS, hS, nS⟩ := Cond.arrayOver_spec (hts (.arrayOver (.object RX5)) (List.mem_of_getElem? (i := 223) (by decide +kernel)))
  refine ⟨(fun k => [c0, c1, c2, c3, c4, c5, c6, c7, c8, c9].getD k c0, fun k => [i0, i1, i2, i3, i4, i5, i6, i7, i8, i9].getD k i0), fun k => [aI, aI, aC, aJ, aS].getD k aI, ⟨fun c q hq => ?_, fun k q hq => ?_⟩, nest_at hts⟩
  · match c, hq with
    | 0, hq => cases hq; exact k0
    | 1, hq => cases hq; exact k1
    | 2, hq => cases hq; exact k2
    | 3, hq => cases hq; exact k3
    | 4, hq => cases hq; exact k4
    | 5, hq => cases hq; exact k5
    | 6, hq => cases hq; exact k6
    | 7, hq => cases hq; exact k7
    | 8, hq => cases hq; exact k8
    | 9, hq => cases hq; exact k9
    | k + 10, hq => simp [vwCl] at hq
  · match k, hq with
    | 0, hq => cases hq; exact ⟨fun n z => ⟨fun k h => (by cases h), bI, eI, dI, fI⟩, nI⟩
    | 1, hq => cases hq; exact ⟨fun n z => ⟨fun k h => (by cases h), bC, eC, dC, fC⟩, nC⟩
    | 2, hq => cases hq; exact ⟨fun n z => ⟨fun k h => (by cases h), bJ, eJ, dJ, fJ⟩, nJ⟩
    | 3, hq => cases hq; exact ⟨fun n z => ⟨fun k h => (by cases h), bS, eS, dS, hS⟩, bS, dS, eS, hS, fS, nS⟩
    | k + 4, hq => simp [fl_tys] at hq
abbrev GN : Cond := Jvm.Cond.and given_1 narrow_1
theorem gn_el : ∀ j, j < 103 → (flatC GN)[13 + j]? = some (Cond.eq (.elem (.field (.string "CabTears" 73) "java/lang/String" "value" "[B") (.int (Int32.ofNat j))) (.int (tx j))) := by decide +kernel
def tx0 : String := "g4,4;c0,0,10;c1,15,15;c2,5,2;f0,1,14,0,9;f1,4,7,2,20;f2,12,3,3,12;f3,9,2,5,15;f0,6,11,6,6;f1,13,0,9,30;"
/-- the text constant at the law's entry -/
theorem str_at {s : State} {args : Array Value} (hts : ∀ w ∈ lw_tbl, w.before args s = true) (hgv : GN.before args s = true) : ∃ ak av, vk_R RX8 73 tx0 ak s ∧ sc_X ak av 103 tx (fun q => s.heap.size ≤ q) s s.heap := by
  have hs := flat_of_before _ hgv
  have hA : ∀ a : Nat, a < s.heap.size → ¬ (fun q => s.heap.size ≤ q) a := fun a h => Nat.not_le.mpr h
  obtain ⟨adK, adV, hK, hT⟩ := vk_Sof (args := args) (s := s) (N := 1) (tm := fun _ => .string "CabTears" 73) (len := [103]) (byt := [txt]) (A := fun q => s.heap.size ≤ q)
    (fun i hi => by rw [show i = 0 by omega]; decide)
    (fun i hi => hs _ (List.mem_of_getElem? (i := 9) (by decide +kernel)))
    (fun i hi => hs _ (List.mem_of_getElem? (i := 10) (by decide +kernel)))
    (fun i hi => hs _ (List.mem_of_getElem? (i := 11) (by decide +kernel)))
    (fun i hi => by rw [show i = 0 by omega]; exact hs _ (List.mem_of_getElem? (i := 12) (by decide +kernel)))
    (fun i hi j hj => by rw [show i = 0 by omega] at hj ⊢; exact hs _ (List.mem_of_getElem? (gn_el j hj)))
    (fun i j hi hj h => absurd (show i = j by omega) h) hA
  have h0 := hK.1 0 (by omega)
  refine ⟨adK 0, adV 0, vk_R.of (A := args) (hts (.stringRef RX8 73 tx0) (List.mem_of_getElem? (i := 315) (by decide +kernel))) (hT 0 (by omega)), h0.1, h0.2.1, h0.2.2.1, h0.2.2.2, ?_, ?_⟩
  · exact va_Zof (args := args) (hts (.laysStatic RJ0 "COMPACT_STRINGS" "Z") (List.mem_of_getElem? (i := 325) (by decide +kernel))) (hts (.initialized RJ0) (List.mem_of_getElem? (i := 55) (by decide +kernel))) (va_eqi (hs _ (List.mem_of_getElem? (i := 4) (by decide +kernel)))) hA
  · exact va_Zqof (args := args) (hts (.laysStatic RJ3 "SIOOBE_FORMATTER" "Ljava/util/function/BiFunction;") (List.mem_of_getElem? (i := 341) (by decide +kernel))) (hts (.initialized RJ3) (List.mem_of_getElem? (i := 57) (by decide +kernel))) (hs _ (List.mem_of_getElem? (i := 5) (by decide +kernel))) hA
set_option maxHeartbeats 1000000 in
set_option maxRecDepth 100000 in
/-- YOUR PART: from the entry, for every script of at most 320 ints, the law comes to its end with true ('hflags': the launch's flags, for a law that throws: no stack traces) -/
theorem whole_start {p : Program} {e : Env} {s : State} {m : MethodId} {below : List Frame} {meth : Method} {c : Code} (l : Launch) (hflags : l.flags = flags0) {b L : Nat} {xs : Nat → Int32} (hL : L ≤ 320) (C0 : lw_At p s m meth c b L xs) : W p l e room_1 s m #[Value.ref b] below meth c s.heap [] 0 0 (lw_Z below #[Value.ref b] s) (entryFrame m ([Value.ref b] : List Value).toArray 4) := by
  obtain ⟨hx, hb, hr, hml, hown, hts, hX, hbl, hlocks, hgv⟩ := id C0
  obtain ⟨D, ca, hE⟩ := known_at hts
  obtain ⟨ak, av, hR, hSt⟩ := str_at hts hgv
  have hO : va_AO RX5 s := va_AO.of (hts (.arrayOver (.object RX5)) (List.mem_of_getElem? (i := 223) (by decide +kernel)))
  have htsU : ∀ w ∈ fl_U, w.before #[Value.ref b] s = true := fun w hw => hts w (List.mem_filter.mp hw).1
  have hown : s.vm.findClass RL = some m.cls := hown
  obtain ⟨N, hN⟩ : ∃ N : Nat, N = 300 := ⟨300, rfl⟩
  obtain ⟨w9, MM, hMM, hall⟩ := start_all (N := N) (by omega)
  have hA : ∀ q : Nat, s.heap.size ≤ q → (fun q : Nat => s.heap.size ≤ q) q := fun _ h => h
  have hS : va_S (fun q : Nat => s.heap.size ≤ q) s.heap s.heap [] := va_S.rf
  have hP : va_P D vwCl [] s.heap := fun k q h => by simp at h
  have hD : va_D (fun q : Nat => s.heap.size ≤ q) [] := ⟨fun i j p q h => by simp at h, fun k q h => by simp at h⟩
  have hl := lv_entry ([.ref b]) (n := 4) (Nat.le_of_ble_eq_true rfl)
  rw [lg_entry_eq]
  generalize (lg_sl ([.ref b]) ++ List.replicate (4 - (lg_sl ([.ref b])).length) Slot.unset).toArray = ls at hl ⊢
  have hl : lv_has ls 4 [(0, .ref b)] := hl
  refine va_new (ci := 8) (fs := [.null, .null, .null, .null, .null, .null, .null, .null, .null, .null, .null]) (C := RX8) (T := TX8) (N := 11) hx hb htsU inU_X8 tyX8 tyX8_ok hown (hts (.classLink RL 7 RX8) (List.mem_of_getElem? (i := 62) (by decide +kernel))) (hts (.instantiable RX8 11) (List.mem_of_getElem? (i := 63) (by decide +kernel))) (hts (.initialized RX8) (List.mem_of_getElem? (i := 45) (by decide +kernel))) hE.1 hP hD hS hA rfl (fun j hj => by rcases (show j = 0 ∨ j = 1 ∨ j = 2 ∨ j = 3 ∨ j = 4 ∨ j = 5 ∨ j = 6 ∨ j = 7 ∨ j = 8 ∨ j = 9 ∨ j = 10 by omega) with rfl | rfl | rfl | rfl | rfl | rfl | rfl | rfl | rfl | rfl | rfl <;> rfl) (Nat.le_of_ble_eq_true rfl) (Nat.le_of_ble_eq_true rfl) dL_law_0 (fun h1 H hP hD hS => ?_)
  refine lv_dup hx hb dL_law_3 rfl ?_
  have hA1 : s.heap.size ≤ h1 := hD.2 0 _ rfl
  refine fl_initcP (Xp := XS ak av tx0 h1 H.size) (ws := []) (av := []) (n := 0) (wn := fun q : (Nat → Nat) × Mem => fl_w L1 ca q.1 q.2) hx hb hml hown htsU hE
    (fun a U g mk h => ⟨va_AO.moved (u := U) (U := U.calling g mk a) (Vm.Alike.refl U.vm) h.1, vk_R.same (u := U) (U := U.calling g mk a) rfl h.2.1, sc_X.moved (u := U) (U := U.calling g mk a) (Vm.Alike.refl U.vm) h.2.2⟩)
    (fun U hU hW => ⟨va_AO.moved hW.alike hO, vk_R.warm hW hR, by rw [hU]; exact ((hSt.kept hS.2.1).moved hW.alike).narrow (fun q hq => by rcases hq with z | z; rw [z]; exact hA1; exact Nat.le_trans hS.1 z)⟩)
    hP hD hS hA hl.1 (c_X8_init l D ca h1 _ N ak av tx0 (fun m1 ht => by obtain ⟨v, m2, w, M, e1, e2, -⟩ := hall m1 ht; exact ⟨v, m2, w, M, e1, e2⟩)) ⟨fl_w1 (w := Cond.methodLink RL 9 yX8_init) 64 (by decide +kernel) (by decide +kernel), fl_goodc (fl_w1 (w := Cond.code yX8_init cX8_init 2 none) 66 (by decide +kernel) (by decide +kernel)) fl_goodU, fl_w1 (w := Cond.initialized RX8) 45 (by decide +kernel) (by decide +kernel), fl_w1 (w := Cond.instanceMethod yX8_init) 65 (by decide +kernel) (by decide +kernel), ⟨by decide +kernel, by decide +kernel, by decide +kernel⟩⟩ rfl ⟨Nat.le_of_ble_eq_true rfl, Nat.le_of_ble_eq_true rfl, Nat.le_of_ble_eq_true rfl, Nat.le_of_ble_eq_true rfl⟩ rfl (Nat.le_of_ble_eq_true rfl) dL_law_4 rfl (fun q1 H locs hq1 _ _ hP hD hS => ?_)
  obtain ⟨ad1, M1⟩ := q1
  obtain ⟨ea1, hi1, hXI⟩ := hq1
  have ea1 : ad1 0 = h1 := ea1
  have hRl : Rl 0 M1 MM := by
    obtain ⟨m1, v, m2, w, ht, e1, e2⟩ := hXI
    obtain ⟨v', m2', w', M', f1, f2, hR0⟩ := hall m1 ht
    rw [e1] at f1
    injection f1 with f1
    injection f1 with f11 f12
    subst f12
    rw [e2] at f2
    injection f2 with f2
    injection f2 with f21 f22
    subst f22
    exact hR0
  rw [List.nil_append] at hP hD
  have hP : va_P D vwCl (fl_w L1 ca ad1 M1) H := hP
  have hD : va_D (fun q : Nat => s.heap.size ≤ q) (fl_w L1 ca ad1 M1) := hD
  refine lv_astore_n (lv' := [(1, .ref h1), (0, .ref b)]) hx hb dL_law_7 rfl hl (by decide) rfl (fun ls hl => ?_)
  refine va_new (ci := 9) (fs := [.null, .int 0, .int 0, .int 0, .int 0, .int 0, .null, .int 0, .null, .null, .null, .null, .null, .int 0, .null, .null, .null, .null, .int 0, .int 0, .int 0, .int 0, .int 0, .int 0, .null, .int 0, .null, .null, .null, .null, .null, .null]) (C := RX9) (T := TX9) (N := 32) hx hb htsU inU_X9 tyX9 tyX9_ok hown (hts (.classLink RL 10 RX9) (List.mem_of_getElem? (i := 728) (by decide +kernel))) (hts (.instantiable RX9 32) (List.mem_of_getElem? (i := 729) (by decide +kernel))) (hts (.initialized RX9) (List.mem_of_getElem? (i := 60) (by decide +kernel))) hE.1 hP hD hS hA rfl (fun j hj => by rcases (show j = 0 ∨ j = 1 ∨ j = 2 ∨ j = 3 ∨ j = 4 ∨ j = 5 ∨ j = 6 ∨ j = 7 ∨ j = 8 ∨ j = 9 ∨ j = 10 ∨ j = 11 ∨ j = 12 ∨ j = 13 ∨ j = 14 ∨ j = 15 ∨ j = 16 ∨ j = 17 ∨ j = 18 ∨ j = 19 ∨ j = 20 ∨ j = 21 ∨ j = 22 ∨ j = 23 ∨ j = 24 ∨ j = 25 ∨ j = 26 ∨ j = 27 ∨ j = 28 ∨ j = 29 ∨ j = 30 ∨ j = 31 by omega) with rfl | rfl | rfl | rfl | rfl | rfl | rfl | rfl | rfl | rfl | rfl | rfl | rfl | rfl | rfl | rfl | rfl | rfl | rfl | rfl | rfl | rfl | rfl | rfl | rfl | rfl | rfl | rfl | rfl | rfl | rfl | rfl <;> rfl) (Nat.le_of_ble_eq_true rfl) (Nat.le_of_ble_eq_true rfl) dL_law_8 (fun h2 H hP hD hS => ?_)
  refine lv_dup hx hb dL_law_11 rfl ?_
  refine fl_initcP (Xp := fun _ => True) (ws := fl_w L1 ca ad1 M1) (av := []) (n := 0) (wn := fun q : Nat → Nat => fl_w L2 ca q MM) hx hb hml hown htsU hE (fun _ _ _ _ h => h) (fun _ _ _ => trivial)
    hP hD hS hA hl.1 (c_X9_init l D ca h2 _ N w9 MM hMM) ⟨fl_w1 (w := Cond.methodLink RL 12 yX9_init) 730 (by decide +kernel) (by decide +kernel), fl_goodc (fl_w1 (w := Cond.code yX9_init cX9_init 1 none) 732 (by decide +kernel) (by decide +kernel)) fl_goodU, fl_w1 (w := Cond.initialized RX9) 60 (by decide +kernel) (by decide +kernel), fl_w1 (w := Cond.instanceMethod yX9_init) 731 (by decide +kernel) (by decide +kernel), ⟨by decide +kernel, by decide +kernel, by decide +kernel⟩⟩ rfl ⟨Nat.le_of_ble_eq_true rfl, Nat.le_of_ble_eq_true rfl, Nat.le_of_ble_eq_true rfl, Nat.le_of_ble_eq_true rfl⟩ rfl (Nat.le_of_ble_eq_true rfl) dL_law_12 rfl (fun ad2 H locs hq2 _ _ hP hD hS => ?_)
  obtain ⟨ea2, hi2⟩ := hq2
  refine lv_astore_n (lv' := [(2, .ref h2), (1, .ref h1), (0, .ref b)]) hx hb dL_law_15 rfl hl (by decide) rfl (fun ls hl => ?_)
  refine lv_iconst (v := nI 0) hx hb dL_law_16 (by decide) ?_
  refine lv_istore_n (lv' := [(3, .int (nI 0)), (2, .ref h2), (1, .ref h1), (0, .ref b)]) hx hb dL_law_17 rfl hl (by decide) rfl (fun ls hl => ?_)
  have len1 : (fl_w L1 ca ad1 M1).length = L1.length := by simp [fl_w]
  have at1 : ∀ i, i < L1.length → ∃ x, (fl_w L1 ca ad1 M1 ++ fl_w L2 ca ad2 MM)[i]? = some (ad1 i, x) := fun i hi => by
    rw [List.getElem?_append_left (by rw [len1]; exact hi)]
    exact ⟨_, fl_at (List.getElem?_eq_getElem hi)⟩
  have at2 : ∀ j, j < L2.length → ∃ x, (fl_w L1 ca ad1 M1 ++ fl_w L2 ca ad2 MM)[L1.length + j]? = some (ad2 j, x) := fun j hj => by
    rw [List.getElem?_append_right (by rw [len1]; omega), len1, Nat.add_sub_cancel_left]
    exact ⟨_, fl_at (List.getElem?_eq_getElem hj)⟩
  have K : lwK p s m #[Value.ref b] c D ca ad1 ad2 b L xs := by
    refine ⟨⟨hx, hb, hml, hown, htsU, hE, hi1⟩, ⟨hx, hb, hml, hown, htsU, hE, hi2⟩, fun i hi => ?_, fun j hj => ?_, fun i j hi hj e => ?_, hX, hbl⟩
    · obtain ⟨x, hx9⟩ := at1 i hi
      exact hD.2 i _ hx9
    · obtain ⟨x, hx9⟩ := at2 j hj
      exact hD.2 _ _ hx9
    · obtain ⟨x, hx9⟩ := at1 i hi
      obtain ⟨y, hy9⟩ := at2 j hj
      have := hD.1 _ _ _ _ hx9 hy9 e
      omega
  have hI : lwI D ca ad1 ad2 s 0 H locs := by
    refine ⟨M1, MM, fun k q hk => hP k q ?_, fun k q hk => hP (L1.length + k) q ?_, hRl, hS⟩
    · rw [List.getElem?_append_left (List.getElem?_eq_some_iff.mp hk).1]
      exact hk
    · rw [List.getElem?_append_right (by rw [len1]; omega), len1, Nat.add_sub_cancel_left]
      exact hk
  have hl : lv_has ls 4 [(3, .int (nI 0)), (0, .ref b), (1, .ref (ad1 0)), (2, .ref (ad2 0))] := by
    rw [ea1, ea2]
    exact lv_sub hl [0, 3, 2, 1] rfl
  exact law_from18 l hL C0 K (Nat.le_of_ble_eq_true rfl) (Nat.le_of_ble_eq_true rfl) hl hI
