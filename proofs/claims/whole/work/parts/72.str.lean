/-! ===== the text constant: its length and its letters, over the JDK's own methods ===== -/
def sc_X (ak av n : Nat) (byt : Nat → Int32) (A : Nat → Prop) (U : State) (H : Heap) : Prop := va_O RJ0 ak A U H ∧ va_OF RJ0 "coder" "B" (.int 0) ak A U H ∧ va_OF RJ0 "value" "[B" (.ref av) ak A U H ∧ va_T .byte av n (fun j => .int (byt j)) A U H ∧ va_Z RJ0 "COMPACT_STRINGS" "Z" (.int 1) A U H ∧ va_Zq RJ3 "SIOOBE_FORMATTER" "Ljava/util/function/BiFunction;" A U H
theorem sc_X.moved {ak av n : Nat} {byt : Nat → Int32} {A : Nat → Prop} {u U : State} {H : Heap} (hvm : u.vm.Alike U.vm) (h : sc_X ak av n byt A u H) : sc_X ak av n byt A U H :=
  ⟨va_O.moved hvm h.1, va_OF.moved hvm h.2.1, va_OF.moved hvm h.2.2.1, va_T.moved hvm h.2.2.2.1, va_Z.moved hvm h.2.2.2.2.1, va_Zq.moved hvm h.2.2.2.2.2⟩
theorem sc_X.kept {ak av n : Nat} {byt : Nat → Int32} {A : Nat → Prop} {U : State} {H H1 : Heap} (h : sc_X ak av n byt A U H) (hq : ∀ a : Nat, a < H.size → ¬ A a → H1[a]? = H[a]?) : sc_X ak av n byt A U H1 :=
  ⟨h.1.kept hq, h.2.1.kept hq, h.2.2.1.kept hq, h.2.2.2.1.kept hq, h.2.2.2.2.1.kept hq, h.2.2.2.2.2.kept hq⟩
theorem sc_X.narrow {ak av n : Nat} {byt : Nat → Int32} {A B : Nat → Prop} {U : State} {H : Heap} (h : sc_X ak av n byt A U H) (hAB : ∀ q, B q → A q) : sc_X ak av n byt B U H :=
  ⟨h.1.narrow hAB, h.2.1.narrow hAB, h.2.2.1.narrow hAB, h.2.2.2.1.narrow hAB, h.2.2.2.2.1.narrow hAB, h.2.2.2.2.2.narrow hAB⟩
abbrev nA : Nat → Prop := fun _ => False
/-- as it stands when a method of the text is called -/
theorem sc_X.at {ak av n : Nat} {byt : Nat → Int32} {A : Nat → Prop} {s U : State} {H : Heap} {locs : List Loc} (h : sc_X ak av n byt A s s.heap) (hS : va_S A s.heap H locs) (hU : U.heap = H) (hW : s.WarmedH U.vm) : sc_X ak av n byt nA U U.heap := by
  rw [hU]
  exact ((h.kept hS.2.1).moved hW.alike).narrow (fun q z => z.elim)
section
variable {p : Program} {l : Launch} {e : Env} {R : Room} {s : State} {m : MethodId} {args : Array Value} {below : List Frame} {meth : Method} {c : Code} {cc : ByteArray} {H0 H : Heap} {locs : List Loc} {cells slots pc nL : Nat} {ls : Array Slot} {rest : List Value} {Q : State → Prop} {A : Nat → Prop} {own : String}
theorem sc_callS (hx : p.tables.exec = Jvm.exec) (hb : c.code = cc) (hml : c.maxLocals = nL) (hown : s.vm.findClass own = some m.cls) (hts : ∀ w ∈ fl_U, w.before args s = true) (hS : va_S A H0 H locs) (hsz : ls.size = nL) {index n nLc d : Nat} {y : MethodName} {cd : ByteArray} {ret : Option FieldType} {av : List Value} {v : Int32} {Bp : State → Prop}
    (hM : Met l y (Cond.code y cd nLc ret :: fl_U) (fl_rm d) (va_Pc av Bp) (va_Qi (fun r (_ : Unit) => r = v) (fun _ _ => True) nA) 0 0 nA) (hbl : ∀ (a : Array Value) (U : State) (g : _) (mk : _), Bp U → Bp (U.calling g mk a)) (hpre : ∀ U : State, U.heap = H → s.WarmedH U.vm → Bp U)
    (hm : fl_ms own index y cd nLc ret n) (hfit : fl_fit d nLc R cells slots) (hn : av.length = n) (hroom : (rest.map fun v => v.category).sum ≤ 8) (hdg : decode cc pc = .ok (.invokestatic index, 3)) {st : List Value} (hst : st = av.reverse ++ rest)
    (kk : ∀ (H1 : Heap) (locs1 : List Loc), H.size ≤ H1.size → (∀ q, q < H.size → H1[q]? = H[q]?) → va_S A H0 H1 locs1 → W p l e R s m args below meth c H1 locs1 cells slots Q (F0 m (pc + 3) ls (.int v :: rest))) : W p l e R s m args below meth c H locs cells slots Q (F0 m pc ls st) := by
  obtain ⟨hG, hy⟩ := hm
  refine va_calli (va_runS (Ts := fl_U) (As := av) (rest := rest) ⟨hx, hb, hml, hown, hts⟩ hM (va_cwS n hts hG rfl rfl rfl hy ⟨hfit.1, hfit.2.1⟩) ⟨fun a U g mk h => ⟨h.1, hbl a U g mk h.2⟩, fun U hU hW => ⟨rfl, hpre U hU hW⟩⟩ rfl hn hsz hst (lv_room hroom) hdg ⟨hfit.2.2.1, hfit.2.2.2⟩) hS (fun q _ h => h.elim) (fun q h => h.elim) (fun r u t H1 locs1 ht hvm hp hB hz hk hS1 => ?_)
  rw [hp]
  exact kk H1 locs1 hz (fun q hq => hk q hq (fun z => z)) hS1
theorem sc_callSv (hx : p.tables.exec = Jvm.exec) (hb : c.code = cc) (hml : c.maxLocals = nL) (hown : s.vm.findClass own = some m.cls) (hts : ∀ w ∈ fl_U, w.before args s = true) (hS : va_S A H0 H locs) (hsz : ls.size = nL) {index n nLc d : Nat} {y : MethodName} {cd : ByteArray} {ret : Option FieldType} {av : List Value} {Bp : State → Prop}
    (hM : Met l y (Cond.code y cd nLc ret :: fl_U) (fl_rm d) (va_Pc av Bp) (va_Qv (fun _ : Unit => True) (fun _ _ => True) nA) 0 0 nA) (hbl : ∀ (a : Array Value) (U : State) (g : _) (mk : _), Bp U → Bp (U.calling g mk a)) (hpre : ∀ U : State, U.heap = H → s.WarmedH U.vm → Bp U)
    (hm : fl_ms own index y cd nLc ret n) (hfit : fl_fit d nLc R cells slots) (hn : av.length = n) (hroom : (rest.map fun v => v.category).sum ≤ 8) (hdg : decode cc pc = .ok (.invokestatic index, 3)) {st : List Value} (hst : st = av.reverse ++ rest)
    (kk : ∀ (H1 : Heap) (locs1 : List Loc), H.size ≤ H1.size → (∀ q, q < H.size → H1[q]? = H[q]?) → va_S A H0 H1 locs1 → W p l e R s m args below meth c H1 locs1 cells slots Q (F0 m (pc + 3) ls rest)) : W p l e R s m args below meth c H locs cells slots Q (F0 m pc ls st) := by
  obtain ⟨hG, hy⟩ := hm
  refine va_callv (va_runS (Ts := fl_U) (As := av) (rest := rest) ⟨hx, hb, hml, hown, hts⟩ hM (va_cwS n hts hG rfl rfl rfl hy ⟨hfit.1, hfit.2.1⟩) ⟨fun a U g mk h => ⟨h.1, hbl a U g mk h.2⟩, fun U hU hW => ⟨rfl, hpre U hU hW⟩⟩ rfl hn hsz hst (lv_room hroom) hdg ⟨hfit.2.2.1, hfit.2.2.2⟩) hS (fun q _ h => h.elim) (fun q h => h.elim) (fun u t H1 locs1 ht hvm hp hB hz hk hS1 => ?_)
  exact kk H1 locs1 hz (fun q hq => hk q hq (fun z => z)) hS1
theorem sc_callV (hx : p.tables.exec = Jvm.exec) (hb : c.code = cc) (hml : c.maxLocals = nL) (hown : s.vm.findClass own = some m.cls) (hts : ∀ w ∈ fl_U, w.before args s = true) (hS : va_S A H0 H locs) (hsz : ls.size = nL) {index n nLc d b : Nat} {y : MethodName} {cd : ByteArray} {ret : Option FieldType} {av : List Value} {v : Int32} {Bp : State → Prop}
    (hM : Met l y (Cond.code y cd nLc ret :: fl_U) (fl_rm d) (va_Pc (.ref b :: av) Bp) (va_Qi (fun r (_ : Unit) => r = v) (fun _ _ => True) nA) 0 0 nA) (hbl : ∀ (a : Array Value) (U : State) (g : _) (mk : _), Bp U → Bp (U.calling g mk a)) (hpre : ∀ U : State, U.heap = H → s.WarmedH U.vm → Bp U)
    (hrecv : ∃ cellB : Cell, H[b]? = some cellB ∧ cellB.vm.isStatics = false ∧ s.vm.findClass y.cls = some cellB.cls)
    (hG : GoodIn fl_U (wsV own index y.cls y (Cond.code y cd nLc ret :: fl_U))) (hy : fl_nn y n) (hfit : fl_fit d nLc R cells slots) (hn : av.length = n) (hroom : (rest.map fun v => v.category).sum ≤ 8) (hdg : decode cc pc = .ok (.invokevirtual index, 3)) {st : List Value} (hst : st = av.reverse ++ .ref b :: rest)
    (kk : ∀ (H1 : Heap) (locs1 : List Loc), H.size ≤ H1.size → (∀ q, q < H.size → H1[q]? = H[q]?) → va_S A H0 H1 locs1 → W p l e R s m args below meth c H1 locs1 cells slots Q (F0 m (pc + 3) ls (.int v :: rest))) : W p l e R s m args below meth c H locs cells slots Q (F0 m pc ls st) := by
  refine va_calli (va_runV (Ts := fl_U) (As := av) (rest := rest) ⟨hx, hb, hml, hown, hts⟩ hM (cwV n hts hG rfl rfl rfl ⟨rfl, hy⟩ ⟨hfit.1, hfit.2.1⟩) ⟨fun a U g mk h => ⟨h.1, hbl a U g mk h.2⟩, hrecv, fun U hU hW => ⟨rfl, hpre U hU hW⟩⟩ rfl hn hsz hst (lv_room hroom) hdg ⟨hfit.2.2.1, hfit.2.2.2⟩) hS (fun q _ h => h.elim) (fun q h => h.elim) (fun r u t H1 locs1 ht hvm hp hB hz hk hS1 => ?_)
  rw [hp]
  exact kk H1 locs1 hz (fun q hq => hk q hq (fun z => z)) hS1
end
set_option maxHeartbeats 4000000 in
set_option maxRecDepth 100000 in
theorem c_J3_checkIndex (l : Launch) (i n : Int32) (v : Value) (hv9 : v = .null ∨ ∃ t, v = .ref t) (h1 : ¬ i < 0) (h2 : i < n) : Met l yJ3_checkIndex_8e157 (Cond.code yJ3_checkIndex_8e157 cJ3_checkIndex_8e157 3 (some .int) :: fl_U) (fl_rm 1) (va_Pc [.int i, .int n, v] (fun _ => True)) (va_Qi (fun r (_ : Unit) => r = i) (fun _ _ => True) nA) 0 0 nA := by
  refine Met.ofW (cc := cJ3_checkIndex_8e157) (maxL := 3) (ret := some .int) (by decide) rfl ?_
  intro p e s m args below meth c s₁ B hml hv
  obtain ⟨rfl, -⟩ := hv
  have hx := B.exec
  have hb := B.bytes
  have hr := B.returns
  have hlk := B.notSynchronized
  have hS : va_S nA s.heap s.heap [] := va_S.rf
  have hl : lv_has (lg_sl [.int i, .int n, v] ++ List.replicate (3 - (lg_sl [.int i, .int n, v]).length) Slot.unset).toArray 3 [(0, .int i), (1, .int n)] := by
    rcases hv9 with rfl | ⟨t, rfl⟩
    · exact lv_sub (lv_entry [.int i, .int n, .null] (n := 3) (Nat.le_of_ble_eq_true rfl)) [0, 1] rfl
    · exact lv_sub (lv_entry [.int i, .int n, .ref t] (n := 3) (Nat.le_of_ble_eq_true rfl)) [0, 1] rfl
  rw [lg_entry_eq]
  generalize (lg_sl [.int i, .int n, v] ++ List.replicate (3 - (lg_sl [.int i, .int n, v]).length) Slot.unset).toArray = ls at hl ⊢
  refine lv_iload_n hx hb dJ3_checkIndex_8e157_0 rfl (lv_at hl 0 rfl) ?_
  refine lv_if_lt (tgt := 9) hx hb dJ3_checkIndex_8e157_1 (by decide) (fun z => absurd z h1) (fun _ => ?_)
  refine lv_iload_n hx hb dJ3_checkIndex_8e157_4 rfl (lv_at hl 0 rfl) ?_
  refine lv_iload_n hx hb dJ3_checkIndex_8e157_5 rfl (lv_at hl 1 rfl) ?_
  refine lv_icmp_lt (tgt := 16) hx hb dJ3_checkIndex_8e157_6 (by decide) (fun _ => ?_) (fun z => absurd h2 z)
  refine lv_iload_n hx hb dJ3_checkIndex_8e157_16 rfl (lv_at hl 0 rfl) ?_
  exact W.iret (v := i) hx hb hr (fun t ht hW => ⟨⟨i, (), rfl, rfl, trivial⟩, hS.F ht⟩) hS.2.2 dJ3_checkIndex_8e157_17 hlk
set_option maxHeartbeats 4000000 in
set_option maxRecDepth 100000 in
theorem c_J0_checkIndex (l : Launch) (ak av n : Nat) (byt : Nat → Int32) (i k : Int32) (h1 : ¬ i < 0) (h2 : i < k) : Met l yJ0_checkIndex_df160 (Cond.code yJ0_checkIndex_df160 cJ0_checkIndex_df160 2 none :: fl_U) (fl_rm 2) (va_Pc [.int i, .int k] (fun U => sc_X ak av n byt nA U U.heap)) (va_Qv (fun _ : Unit => True) (fun _ _ => True) nA) 0 0 nA := by
  refine Met.ofW (cc := cJ0_checkIndex_df160) (maxL := 2) (ret := none) (by decide) rfl ?_
  intro p e s m args below meth c s₁ B hml hv
  obtain ⟨rfl, hX⟩ := hv
  have hx := B.exec
  have hb := B.bytes
  have hr := B.returns
  have hlk := B.notSynchronized
  have hts0 := atoms_spec (ws := Cond.code yJ0_checkIndex_df160 cJ0_checkIndex_df160 2 none :: fl_U) B.pre
  have hts : ∀ w ∈ fl_U, w.before _ s = true := fun w hw => hts0 w (List.mem_cons_of_mem _ hw)
  have hown : s.vm.findClass RJ0 = some m.cls := findClass_of_methodNamed B.named
  have hS : va_S nA s.heap s.heap [] := va_S.rf
  have hl := lv_entry [.int i, .int k] (n := 2) (Nat.le_of_ble_eq_true rfl)
  rw [lg_entry_eq]
  generalize (lg_sl [.int i, .int k] ++ List.replicate (2 - (lg_sl [.int i, .int k]).length) Slot.unset).toArray = ls at hl ⊢
  have hl : lv_has ls 2 [(0, .int i), (1, .int k)] := hl
  obtain ⟨v, hv9, hZ⟩ : ∃ v : Value, (v = .null ∨ ∃ t, v = .ref t) ∧ va_Z RJ3 "SIOOBE_FORMATTER" "Ljava/util/function/BiFunction;" v nA s s.heap := by
    rcases hX.2.2.2.2.2 with h | ⟨t, h⟩
    · exact ⟨_, Or.inl rfl, h⟩
    · exact ⟨_, Or.inr ⟨t, rfl⟩, h⟩
  refine lv_iload_n hx hb dJ0_checkIndex_df160_0 rfl (lv_at hl 0 rfl) ?_
  refine lv_iload_n hx hb dJ0_checkIndex_df160_1 rfl (lv_at hl 1 rfl) ?_
  refine va_gets (ref := RJ3) hx hb hZ hS hown (hts _ (fl_w1 340 (by decide +kernel) (by decide +kernel))) (fun _ h9 => h9) dJ0_checkIndex_df160_2 ?_
  refine sc_callS (n := 3) (av := [.int i, .int k, v]) (rest := []) hx hb hml hown hts hS hl.1 (c_J3_checkIndex l i k v hv9 h1 h2) (fun _ _ _ _ h => h) (fun _ _ _ => trivial) (fl_ms_of (fl_w1 342 (by decide +kernel) (by decide +kernel)) (fl_w1 343 (by decide +kernel) (by decide +kernel)) (fl_w1 57 (by decide +kernel) (by decide +kernel)) (fl_w1 344 (by decide +kernel) (by decide +kernel)) ⟨by decide +kernel, by decide +kernel, by decide +kernel⟩) (fl_fit_rm (by decide) (by decide)) rfl (Nat.le_of_ble_eq_true rfl) dJ0_checkIndex_df160_5 rfl (fun H locs hz hk hS => ?_)
  refine lv_pop hx hb dJ0_checkIndex_df160_8 rfl ?_
  exact W.vret hx hb hr (fun t ht hW => ⟨⟨(), rfl, trivial, trivial⟩, hS.F ht⟩) hS.2.2 dJ0_checkIndex_df160_9 hlk
set_option maxHeartbeats 4000000 in
set_option maxRecDepth 100000 in
theorem c_J1_charAt (l : Launch) (ak av n : Nat) (byt : Nat → Int32) (i v : Int32) (h1 : ¬ i < 0) (h2 : i < nI n) (hin : vp_in i n) (hv9 : ((byt i.toNatClampNeg &&& 255).toUInt32 % 65536).toInt32 = v) (hnar : narrow .char (.int v) = .int v) : Met l yJ1_charAt_3b067 (Cond.code yJ1_charAt_3b067 cJ1_charAt_3b067 2 (some .char) :: fl_U) (fl_rm 3) (va_Pc [.ref av, .int i] (fun U => sc_X ak av n byt nA U U.heap)) (va_Qi (fun r (_ : Unit) => r = v) (fun _ _ => True) nA) 0 0 nA := by
  refine Met.ofW (cc := cJ1_charAt_3b067) (maxL := 2) (ret := some .char) (by decide) rfl ?_
  intro p e s m args below meth c s₁ B hml hv
  obtain ⟨rfl, hX⟩ := hv
  have hx := B.exec
  have hb := B.bytes
  have hr := B.returns
  have hlk := B.notSynchronized
  have hts0 := atoms_spec (ws := Cond.code yJ1_charAt_3b067 cJ1_charAt_3b067 2 (some .char) :: fl_U) B.pre
  have hts : ∀ w ∈ fl_U, w.before _ s = true := fun w hw => hts0 w (List.mem_cons_of_mem _ hw)
  have hown : s.vm.findClass RJ1 = some m.cls := findClass_of_methodNamed B.named
  have hS : va_S nA s.heap s.heap [] := va_S.rf
  have hl := lv_entry [.ref av, .int i] (n := 2) (Nat.le_of_ble_eq_true rfl)
  rw [lg_entry_eq]
  generalize (lg_sl [.ref av, .int i] ++ List.replicate (2 - (lg_sl [.ref av, .int i]).length) Slot.unset).toArray = ls at hl ⊢
  have hl : lv_has ls 2 [(0, .ref av), (1, .int i)] := hl
  refine lv_iload_n hx hb dJ1_charAt_3b067_0 rfl (lv_at hl 1 rfl) ?_
  refine lv_aload_n hx hb dJ1_charAt_3b067_1 rfl (lv_at hl 0 rfl) ?_
  refine va_tlen (v := nI n) hx hb hX.2.2.2.1 hS rfl dJ1_charAt_3b067_2 ?_
  refine sc_callSv (n := 2) (av := [.int i, .int (nI n)]) (rest := []) hx hb hml hown hts hS hl.1 (c_J0_checkIndex l ak av n byt i (nI n) h1 h2) (fun _ U _ _ h => sc_X.moved (u := U) (Vm.Alike.refl _) h) (fun U hU hW => hX.at hS hU hW) (fl_ms_of (fl_w1 337 (by decide +kernel) (by decide +kernel)) (fl_w1 338 (by decide +kernel) (by decide +kernel)) (fl_w1 55 (by decide +kernel) (by decide +kernel)) (fl_w1 339 (by decide +kernel) (by decide +kernel)) ⟨by decide +kernel, by decide +kernel, by decide +kernel⟩) (fl_fit_rm (by decide) (by decide)) rfl (Nat.le_of_ble_eq_true rfl) dJ1_charAt_3b067_3 rfl (fun H locs hz hk hS => ?_)
  refine lv_aload_n hx hb dJ1_charAt_3b067_6 rfl (lv_at hl 0 rfl) ?_
  refine lv_iload_n hx hb dJ1_charAt_3b067_7 rfl (lv_at hl 1 rfl) ?_
  refine va_tb (v := .int (byt i.toNatClampNeg)) hx hb hX.2.2.2.1 hS hin rfl dJ1_charAt_3b067_8 ?_
  refine lv_sipush (v := (255 : Int32)) hx hb dJ1_charAt_3b067_9 (by decide) ?_
  refine lv_iand hx hb dJ1_charAt_3b067_12 ?_
  refine lv_i2c (v := v) hx hb dJ1_charAt_3b067_13 hv9 ?_
  exact W.zret (v := v) (ty := .char) hx hb hr hnar (fun t ht hW => ⟨⟨v, (), rfl, rfl, trivial⟩, hS.F ht⟩) hS.2.2 dJ1_charAt_3b067_14 hlk
set_option maxHeartbeats 4000000 in
set_option maxRecDepth 100000 in
theorem c_J0_coder (l : Launch) (ak av n : Nat) (byt : Nat → Int32) : Met l yJ0_coder_7d493 (Cond.code yJ0_coder_7d493 cJ0_coder_7d493 1 (some .byte) :: fl_U) (fl_rm 1) (va_Pc [.ref ak] (fun U => sc_X ak av n byt nA U U.heap)) (va_Qi (fun r (_ : Unit) => r = 0) (fun _ _ => True) nA) 0 0 nA := by
  refine Met.ofW (cc := cJ0_coder_7d493) (maxL := 1) (ret := some .byte) (by decide) rfl ?_
  intro p e s m args below meth c s₁ B hml hv
  obtain ⟨rfl, hX⟩ := hv
  have hx := B.exec
  have hb := B.bytes
  have hr := B.returns
  have hlk := B.notSynchronized
  have hts0 := atoms_spec (ws := Cond.code yJ0_coder_7d493 cJ0_coder_7d493 1 (some .byte) :: fl_U) B.pre
  have hts : ∀ w ∈ fl_U, w.before _ s = true := fun w hw => hts0 w (List.mem_cons_of_mem _ hw)
  have hown : s.vm.findClass RJ0 = some m.cls := findClass_of_methodNamed B.named
  have hS : va_S nA s.heap s.heap [] := va_S.rf
  have hl := lv_entry [.ref ak] (n := 1) (Nat.le_of_ble_eq_true rfl)
  rw [lg_entry_eq]
  generalize (lg_sl [.ref ak] ++ List.replicate (1 - (lg_sl [.ref ak]).length) Slot.unset).toArray = ls at hl ⊢
  have hl : lv_has ls 1 [(0, .ref ak)] := hl
  refine va_gets (ref := RJ0) hx hb hX.2.2.2.2.1 hS hown (hts _ (fl_w1 324 (by decide +kernel) (by decide +kernel))) (fun _ h9 => h9) dJ0_coder_7d493_0 ?_
  refine lv_if_eq (tgt := 13) hx hb dJ0_coder_7d493_3 (by decide) (fun z => absurd z (by decide)) (fun _ => ?_)
  refine lv_aload_n hx hb dJ0_coder_7d493_6 rfl (lv_at hl 0 rfl) ?_
  refine vk_getf (ref := RJ0) hx hb hX.2.1 hS hown (hts _ (fl_w1 1096 (by decide +kernel) (by decide +kernel))) (fun _ h9 => h9) dJ0_coder_7d493_7 ?_
  refine lv_goto (tgt := 14) hx hb dJ0_coder_7d493_10 (by decide) ?_
  exact W.zret (v := 0) (ty := .byte) hx hb hr rfl (fun t ht hW => ⟨⟨0, (), rfl, rfl, trivial⟩, hS.F ht⟩) hS.2.2 dJ0_coder_7d493_14 hlk
set_option maxHeartbeats 4000000 in
set_option maxRecDepth 100000 in
theorem c_J0_isLatin1 (l : Launch) (ak av n : Nat) (byt : Nat → Int32) : Met l yJ0_isLatin1_aae02 (Cond.code yJ0_isLatin1_aae02 cJ0_isLatin1_aae02 1 (some .boolean) :: fl_U) (fl_rm 1) (va_Pc [.ref ak] (fun U => sc_X ak av n byt nA U U.heap)) (va_Qi (fun r (_ : Unit) => r = 1) (fun _ _ => True) nA) 0 0 nA := by
  refine Met.ofW (cc := cJ0_isLatin1_aae02) (maxL := 1) (ret := some .boolean) (by decide) rfl ?_
  intro p e s m args below meth c s₁ B hml hv
  obtain ⟨rfl, hX⟩ := hv
  have hx := B.exec
  have hb := B.bytes
  have hr := B.returns
  have hlk := B.notSynchronized
  have hts0 := atoms_spec (ws := Cond.code yJ0_isLatin1_aae02 cJ0_isLatin1_aae02 1 (some .boolean) :: fl_U) B.pre
  have hts : ∀ w ∈ fl_U, w.before _ s = true := fun w hw => hts0 w (List.mem_cons_of_mem _ hw)
  have hown : s.vm.findClass RJ0 = some m.cls := findClass_of_methodNamed B.named
  have hS : va_S nA s.heap s.heap [] := va_S.rf
  have hl := lv_entry [.ref ak] (n := 1) (Nat.le_of_ble_eq_true rfl)
  rw [lg_entry_eq]
  generalize (lg_sl [.ref ak] ++ List.replicate (1 - (lg_sl [.ref ak]).length) Slot.unset).toArray = ls at hl ⊢
  have hl : lv_has ls 1 [(0, .ref ak)] := hl
  refine va_gets (ref := RJ0) hx hb hX.2.2.2.2.1 hS hown (hts _ (fl_w1 324 (by decide +kernel) (by decide +kernel))) (fun _ h9 => h9) dJ0_isLatin1_aae02_0 ?_
  refine lv_if_eq (tgt := 17) hx hb dJ0_isLatin1_aae02_3 (by decide) (fun z => absurd z (by decide)) (fun _ => ?_)
  refine lv_aload_n hx hb dJ0_isLatin1_aae02_6 rfl (lv_at hl 0 rfl) ?_
  refine vk_getf (ref := RJ0) hx hb hX.2.1 hS hown (hts _ (fl_w1 1096 (by decide +kernel) (by decide +kernel))) (fun _ h9 => h9) dJ0_isLatin1_aae02_7 ?_
  refine lv_if_ne (tgt := 17) hx hb dJ0_isLatin1_aae02_10 (by decide) (fun z => absurd rfl z) (fun _ => ?_)
  refine lv_iconst (v := (1 : Int32)) hx hb dJ0_isLatin1_aae02_13 (by decide) ?_
  refine lv_goto (tgt := 18) hx hb dJ0_isLatin1_aae02_14 (by decide) ?_
  exact W.zret (v := 1) (ty := .boolean) hx hb hr rfl (fun t ht hW => ⟨⟨1, (), rfl, rfl, trivial⟩, hS.F ht⟩) hS.2.2 dJ0_isLatin1_aae02_18 hlk
set_option maxHeartbeats 4000000 in
set_option maxRecDepth 100000 in
theorem c_J0_length (l : Launch) (ak av n : Nat) (byt : Nat → Int32) (h0 : nI n >>> ((0 : Int32) &&& 31) = nI n) : Met l yJ0_length_8abf5 (Cond.code yJ0_length_8abf5 cJ0_length_8abf5 1 (some .int) :: fl_U) (fl_rm 2) (va_Pc [.ref ak] (fun U => sc_X ak av n byt nA U U.heap)) (va_Qi (fun r (_ : Unit) => r = nI n) (fun _ _ => True) nA) 0 0 nA := by
  refine Met.ofW (cc := cJ0_length_8abf5) (maxL := 1) (ret := some .int) (by decide) rfl ?_
  intro p e s m args below meth c s₁ B hml hv
  obtain ⟨rfl, hX⟩ := hv
  have hx := B.exec
  have hb := B.bytes
  have hr := B.returns
  have hlk := B.notSynchronized
  have hts0 := atoms_spec (ws := Cond.code yJ0_length_8abf5 cJ0_length_8abf5 1 (some .int) :: fl_U) B.pre
  have hts : ∀ w ∈ fl_U, w.before _ s = true := fun w hw => hts0 w (List.mem_cons_of_mem _ hw)
  have hown : s.vm.findClass RJ0 = some m.cls := findClass_of_methodNamed B.named
  have hS : va_S nA s.heap s.heap [] := va_S.rf
  have hl := lv_entry [.ref ak] (n := 1) (Nat.le_of_ble_eq_true rfl)
  rw [lg_entry_eq]
  generalize (lg_sl [.ref ak] ++ List.replicate (1 - (lg_sl [.ref ak]).length) Slot.unset).toArray = ls at hl ⊢
  have hl : lv_has ls 1 [(0, .ref ak)] := hl
  refine lv_aload_n hx hb dJ0_length_8abf5_0 rfl (lv_at hl 0 rfl) ?_
  refine vk_getf (ref := RJ0) hx hb hX.2.2.1 hS hown (hts _ (fl_w1 1095 (by decide +kernel) (by decide +kernel))) (fun _ h9 => h9) dJ0_length_8abf5_1 ?_
  refine va_tlen (v := nI n) hx hb hX.2.2.2.1 hS rfl dJ0_length_8abf5_4 ?_
  refine lv_aload_n hx hb dJ0_length_8abf5_5 rfl (lv_at hl 0 rfl) ?_
  refine sc_callV (av := []) (rest := [.int (nI n)]) hx hb hml hown hts hS hl.1 (c_J0_coder l ak av n byt) (fun _ U _ _ h => sc_X.moved (u := U) (Vm.Alike.refl _) h) (fun U hU hW => hX.at hS hU hW) (by obtain ⟨cell, z1, z2, z3, -⟩ := hX.1; exact ⟨cell, z1, z2, z3⟩) (fl_goodc (fl_w1 320 (by decide +kernel) (by decide +kernel)) (fl_goodc (fl_w1 321 (by decide +kernel) (by decide +kernel)) (fl_goodc (fl_w1 322 (by decide +kernel) (by decide +kernel)) (fl_goodc (fl_w1 55 (by decide +kernel) (by decide +kernel)) (fl_goodc (fl_w1 323 (by decide +kernel) (by decide +kernel)) fl_goodU))))) ⟨by decide +kernel, by decide +kernel, by decide +kernel⟩ (fl_fit_rm (by decide) (by decide)) rfl (Nat.le_of_ble_eq_true rfl) dJ0_length_8abf5_6 rfl (fun H locs hz hk hS => ?_)
  refine lv_ishr hx hb dJ0_length_8abf5_9 ?_
  rw [h0]
  exact W.iret (v := nI n) hx hb hr (fun t ht hW => ⟨⟨nI n, (), rfl, rfl, trivial⟩, hS.F ht⟩) hS.2.2 dJ0_length_8abf5_10 hlk
set_option maxHeartbeats 4000000 in
set_option maxRecDepth 100000 in
theorem c_J0_charAt (l : Launch) (ak av n : Nat) (byt : Nat → Int32) (i v : Int32) (h1 : ¬ i < 0) (h2 : i < nI n) (hin : vp_in i n) (hv9 : ((byt i.toNatClampNeg &&& 255).toUInt32 % 65536).toInt32 = v) (hnar : narrow .char (.int v) = .int v) : Met l yJ0_charAt_5068e (Cond.code yJ0_charAt_5068e cJ0_charAt_5068e 2 (some .char) :: fl_U) (fl_rm 4) (va_Pc [.ref ak, .int i] (fun U => sc_X ak av n byt nA U U.heap)) (va_Qi (fun r (_ : Unit) => r = v) (fun _ _ => True) nA) 0 0 nA := by
  refine Met.ofW (cc := cJ0_charAt_5068e) (maxL := 2) (ret := some .char) (by decide) rfl ?_
  intro p e s m args below meth c s₁ B hml hv
  obtain ⟨rfl, hX⟩ := hv
  have hx := B.exec
  have hb := B.bytes
  have hr := B.returns
  have hlk := B.notSynchronized
  have hts0 := atoms_spec (ws := Cond.code yJ0_charAt_5068e cJ0_charAt_5068e 2 (some .char) :: fl_U) B.pre
  have hts : ∀ w ∈ fl_U, w.before _ s = true := fun w hw => hts0 w (List.mem_cons_of_mem _ hw)
  have hown : s.vm.findClass RJ0 = some m.cls := findClass_of_methodNamed B.named
  have hS : va_S nA s.heap s.heap [] := va_S.rf
  have hl := lv_entry [.ref ak, .int i] (n := 2) (Nat.le_of_ble_eq_true rfl)
  rw [lg_entry_eq]
  generalize (lg_sl [.ref ak, .int i] ++ List.replicate (2 - (lg_sl [.ref ak, .int i]).length) Slot.unset).toArray = ls at hl ⊢
  have hl : lv_has ls 2 [(0, .ref ak), (1, .int i)] := hl
  refine lv_aload_n hx hb dJ0_charAt_5068e_0 rfl (lv_at hl 0 rfl) ?_
  refine sc_callV (av := []) (rest := []) hx hb hml hown hts hS hl.1 (c_J0_isLatin1 l ak av n byt) (fun _ U _ _ h => sc_X.moved (u := U) (Vm.Alike.refl _) h) (fun U hU hW => hX.at hS hU hW) (by obtain ⟨cell, z1, z2, z3, -⟩ := hX.1; exact ⟨cell, z1, z2, z3⟩) (fl_goodc (fl_w1 330 (by decide +kernel) (by decide +kernel)) (fl_goodc (fl_w1 331 (by decide +kernel) (by decide +kernel)) (fl_goodc (fl_w1 332 (by decide +kernel) (by decide +kernel)) (fl_goodc (fl_w1 55 (by decide +kernel) (by decide +kernel)) (fl_goodc (fl_w1 333 (by decide +kernel) (by decide +kernel)) fl_goodU))))) ⟨by decide +kernel, by decide +kernel, by decide +kernel⟩ (fl_fit_rm (by decide) (by decide)) rfl (Nat.le_of_ble_eq_true rfl) dJ0_charAt_5068e_1 rfl (fun H locs hz hk hS => ?_)
  refine lv_if_eq (tgt := 16) hx hb dJ0_charAt_5068e_4 (by decide) (fun z => absurd z (by decide)) (fun _ => ?_)
  refine lv_aload_n hx hb dJ0_charAt_5068e_7 rfl (lv_at hl 0 rfl) ?_
  refine vk_getf (ref := RJ0) hx hb hX.2.2.1 hS hown (hts _ (fl_w1 1095 (by decide +kernel) (by decide +kernel))) (fun _ h9 => h9) dJ0_charAt_5068e_8 ?_
  refine lv_iload_n hx hb dJ0_charAt_5068e_11 rfl (lv_at hl 1 rfl) ?_
  refine sc_callS (n := 2) (av := [.ref av, .int i]) (rest := []) hx hb hml hown hts hS hl.1 (c_J1_charAt l ak av n byt i v h1 h2 hin hv9 hnar) (fun _ U _ _ h => sc_X.moved (u := U) (Vm.Alike.refl _) h) (fun U hU hW => hX.at hS hU hW) (fl_ms_of (fl_w1 334 (by decide +kernel) (by decide +kernel)) (fl_w1 335 (by decide +kernel) (by decide +kernel)) (fl_w1 56 (by decide +kernel) (by decide +kernel)) (fl_w1 336 (by decide +kernel) (by decide +kernel)) ⟨by decide +kernel, by decide +kernel, by decide +kernel⟩) (fl_fit_rm (by decide) (by decide)) rfl (Nat.le_of_ble_eq_true rfl) dJ0_charAt_5068e_12 rfl (fun H locs hz hk hS => ?_)
  exact W.zret (v := v) (ty := .char) hx hb hr hnar (fun t ht hW => ⟨⟨v, (), rfl, rfl, trivial⟩, hS.F ht⟩) hS.2.2 dJ0_charAt_5068e_15 hlk
