/-! ===== the flat memory: cells by their places, each holds ints by their slots; references stand in a fixed layout ===== -/
/-! the words that every method is given: the good ones of the tables -/
def fl_U : List Cond := lw_tbl.filter goodWord
theorem fl_w1 {w : Cond} (i : Nat) (h : lw_tbl[i]? = some w) (g : goodWord w = true) : w ∈ fl_U := List.mem_filter.mpr ⟨List.mem_of_getElem? h, g⟩
theorem fl_ws {ws : List Cond} (ps : List Nat) (hp : ws = ps.filterMap (fun i => lw_tbl[i]?)) (g : ws.all goodWord = true) : ∀ w ∈ ws, w ∈ fl_U := by
  intro w hw
  have h1 := List.all_eq_true.mp g w hw
  rw [hp] at hw
  obtain ⟨i, -, hi⟩ := List.mem_filterMap.mp hw
  exact fl_w1 i hi h1
theorem fl_good {ws : List Cond} (h : ∀ w ∈ ws, w ∈ fl_U) : GoodIn fl_U ws := fun w hw => ⟨h w hw, good_of_word (List.mem_filter.mp (h w hw)).2⟩
theorem fl_goodc {w : Cond} {ws : List Cond} (hw : w ∈ fl_U) (h : GoodIn fl_U ws) : GoodIn fl_U (w :: ws) := fun v hv => by
  rcases List.mem_cons.mp hv with rfl | hv
  · exact ⟨hw, good_of_word (List.mem_filter.mp hw).2⟩
  · exact h v hv
theorem fl_goodU : GoodIn fl_U fl_U := fl_good (fun _ h => h)
/-! memory -/
abbrev Mem : Type := (Nat → Nat → Int32) × (Nat → Int64)
def mI (m : Mem) (k j : Nat) (v : Int32) : Mem := (va_up m.1 k (upd (m.1 k) j v), m.2)
def mL (m : Mem) (j : Nat) (v : Int64) : Mem := (m.1, vp_updL m.2 j v)
def mC (m : Mem) (k k2 sp dp n : Nat) : Mem := (va_up m.1 k2 (va_cpy (m.1 k) (m.1 k2) sp dp n), m.2)
abbrev Kd : Type := Nat × Nat × List (Option Nat)
def fl_fs (ad : Nat → Nat) (f : Nat → Int32) : Nat → List (Option Nat) → List Value
  | _, [] => []
  | i, none :: l => .int (f i) :: fl_fs ad f (i + 1) l
  | i, some r :: l => .ref (ad r) :: fl_fs ad f (i + 1) l
def fl_base (kd : Kd) : Nat := (kd.2.2.getD 0 none).getD 0
def fl_ent (ca : Nat → ClassId) (ad : Nat → Nat) (m : Mem) (k : Nat) (kd : Kd) : va_E :=
  if kd.1 = 0 then .inr (kd.2.1, fl_fs ad (m.1 k) 0 kd.2.2)
  else if kd.1 = 3 then .inl (ca 3, (kd.2.1, .inr (.inl m.2)))
  else if kd.1 = 4 then .inl (ca 4, (kd.2.1, .inr (.inr (.inr (.inr (fun j => some (ad (fl_base kd + 6 * j))))))))
  else .inl (ca kd.1, (kd.2.1, .inl (m.1 k)))
def fl_w (L : List Kd) (ca : Nat → ClassId) (ad : Nat → Nat) (m : Mem) : va_W := L.mapIdx (fun k kd => (ad k, fl_ent ca ad m k kd))
theorem fl_at {L : List Kd} {ca : Nat → ClassId} {ad : Nat → Nat} {m : Mem} {k : Nat} {kd : Kd} (h : L[k]? = some kd) : (fl_w L ca ad m)[k]? = some (ad k, fl_ent ca ad m k kd) := by
  simp [fl_w, h]
theorem fl_fs_getI {ad : Nat → Nat} {f : Nat → Int32} : ∀ (l : List (Option Nat)) (i j : Nat), l[j]? = some none → (fl_fs ad f i l)[j]? = some (.int (f (i + j)))
  | [], _, _, h => by simp at h
  | none :: l, i, 0, _ => by simp [fl_fs]
  | some r :: l, i, 0, h => by simp at h
  | none :: l, i, j + 1, h => by
    simp only [fl_fs, List.getElem?_cons_succ] at h ⊢
    rw [fl_fs_getI l (i + 1) j h]; congr 3; omega
  | some r :: l, i, j + 1, h => by
    simp only [fl_fs, List.getElem?_cons_succ] at h ⊢
    rw [fl_fs_getI l (i + 1) j h]; congr 3; omega
theorem fl_fs_getR {ad : Nat → Nat} {f : Nat → Int32} {r : Nat} : ∀ (l : List (Option Nat)) (i j : Nat), l[j]? = some (some r) → (fl_fs ad f i l)[j]? = some (.ref (ad r))
  | [], _, _, h => by simp at h
  | none :: l, i, 0, h => by simp at h
  | some r :: l, i, 0, h => by simp at h; subst h; simp [fl_fs]
  | none :: l, i, j + 1, h => by
    simp only [fl_fs, List.getElem?_cons_succ] at h ⊢
    exact fl_fs_getR l (i + 1) j h
  | some r :: l, i, j + 1, h => by
    simp only [fl_fs, List.getElem?_cons_succ] at h ⊢
    exact fl_fs_getR l (i + 1) j h
theorem fl_fs_out {ad : Nat → Nat} {f : Nat → Int32} {p : Nat} {v : Int32} : ∀ (l : List (Option Nat)) (i : Nat), p < i → fl_fs ad (upd f p v) i l = fl_fs ad f i l
  | [], _, _ => rfl
  | none :: l, i, h => by
    simp only [fl_fs]
    rw [fl_fs_out l (i + 1) (by omega), show upd f p v i = f i by simp [upd]; intro e; omega]
  | some r :: l, i, h => by
    simp only [fl_fs]
    rw [fl_fs_out l (i + 1) (by omega)]
theorem fl_fs_set {ad : Nat → Nat} {f : Nat → Int32} {v : Int32} : ∀ (l : List (Option Nat)) (i j : Nat), l[j]? = some none → fl_fs ad (upd f (i + j) v) i l = (fl_fs ad f i l).set j (.int v)
  | [], _, _, h => by simp at h
  | none :: l, i, 0, _ => by
    simp only [fl_fs, List.set_cons_zero]
    rw [fl_fs_out l (i + 1) (by omega)]
    simp [upd]
  | some r :: l, i, 0, h => by simp at h
  | none :: l, i, j + 1, h => by
    simp only [fl_fs, List.getElem?_cons_succ, List.set_cons_succ] at h ⊢
    rw [show i + (j + 1) = (i + 1) + j by omega, fl_fs_set l (i + 1) j h, show upd f (i + 1 + j) v i = f i by simp [upd]; intro e; omega]
  | some r :: l, i, j + 1, h => by
    simp only [fl_fs, List.getElem?_cons_succ, List.set_cons_succ] at h ⊢
    rw [show i + (j + 1) = (i + 1) + j by omega, fl_fs_set l (i + 1) j h]
theorem fl_fs_len {ad : Nat → Nat} {f : Nat → Int32} : ∀ (l : List (Option Nat)) (i : Nat), (fl_fs ad f i l).length = l.length
  | [], _ => rfl
  | none :: l, i => by simp [fl_fs, fl_fs_len l (i + 1)]
  | some r :: l, i => by simp [fl_fs, fl_fs_len l (i + 1)]
theorem fl_set {L : List Kd} {ca : Nat → ClassId} {ad : Nat → Nat} {m m' : Mem} {k : Nat} {kd : Kd} (h : L[k]? = some kd) (h1 : ∀ i, i ≠ k → m'.1 i = m.1 i) (h2 : m'.2 = m.2) :
    fl_w L ca ad m' = (fl_w L ca ad m).set k (ad k, fl_ent ca ad m' k kd) := by
  apply List.ext_getElem?
  intro i
  by_cases hi : i = k
  · subst hi
    have hl : i < (fl_w L ca ad m).length := by simp only [fl_w, List.length_mapIdx]; exact (List.getElem?_eq_some_iff.mp h).1
    rw [List.getElem?_set_self hl, fl_at h]
  · rw [List.getElem?_set_ne (Ne.symm hi)]
    simp only [fl_w, List.getElem?_mapIdx]
    cases hL : L[i]? with
    | none => rfl
    | some q => simp only [Option.map_some, fl_ent, h1 i hi, h2]
theorem fl_setL {L : List Kd} {ca : Nat → ClassId} {ad : Nat → Nat} {m : Mem} {j : Nat} {v : Int64} {k : Nat} {kd : Kd} (h : L[k]? = some kd) (hu : ∀ i q, L[i]? = some q → q.1 = 3 → i = k) :
    fl_w L ca ad (mL m j v) = (fl_w L ca ad m).set k (ad k, fl_ent ca ad (mL m j v) k kd) := by
  apply List.ext_getElem?
  intro i
  by_cases hi : i = k
  · subst hi
    have hl : i < (fl_w L ca ad m).length := by simp only [fl_w, List.length_mapIdx]; exact (List.getElem?_eq_some_iff.mp h).1
    rw [List.getElem?_set_self hl, fl_at h]
  · rw [List.getElem?_set_ne (Ne.symm hi)]
    simp only [fl_w, List.getElem?_mapIdx]
    cases hL : L[i]? with
    | none => rfl
    | some q =>
      have h3 : ¬ q.1 = 3 := fun e => hi (hu i q hL e)
      simp only [Option.map_some, fl_ent, h3, if_false, mL]
theorem mI_ne {m : Mem} {k j : Nat} {v : Int32} (i : Nat) (h : i ≠ k) : (mI m k j v).1 i = m.1 i := by simp [mI, va_up, h]
theorem mI_eq {m : Mem} {k j : Nat} {v : Int32} : (mI m k j v).1 k = upd (m.1 k) j v := by simp [mI, va_up]
theorem mC_ne {m : Mem} {k k2 sp dp n : Nat} (i : Nat) (h : i ≠ k2) : (mC m k k2 sp dp n).1 i = m.1 i := by simp [mC, va_up, h]
theorem mC_eq {m : Mem} {k k2 sp dp n : Nat} : (mC m k k2 sp dp n).1 k2 = va_cpy (m.1 k) (m.1 k2) sp dp n := by simp [mC, va_up]
/-- which addresses a layout has -/
def fl_A (L : List Kd) (ad : Nat → Nat) : Nat → Prop := fun q => ∃ k, k < L.length ∧ q = ad k
def fl_inj (L : List Kd) (ad : Nat → Nat) : Prop := ∀ i j, i < L.length → j < L.length → ad i = ad j → i = j
theorem fl_D {L : List Kd} {ca : Nat → ClassId} {ad : Nat → Nat} {m : Mem} (h : fl_inj L ad) : va_D (fl_A L ad) (fl_w L ca ad m) := by
  have key : ∀ (i : Nat) (q : Nat × va_E), (fl_w L ca ad m)[i]? = some q → i < L.length ∧ q.1 = ad i := by
    intro i q hq
    simp only [fl_w, List.getElem?_mapIdx] at hq
    cases hL : L[i]? with
    | none => rw [hL] at hq; cases hq
    | some kd =>
      rw [hL] at hq
      cases hq
      exact ⟨(List.getElem?_eq_some_iff.mp hL).1, rfl⟩
  refine ⟨fun i j p q hi hj e => ?_, fun k q hq => ?_⟩
  · obtain ⟨a1, a2⟩ := key i p hi
    obtain ⟨b1, b2⟩ := key j q hj
    exact h i j a1 b1 (by rw [← a2, ← b2]; exact e)
  · obtain ⟨a1, a2⟩ := key k q hq
    exact ⟨k, a1, a2⟩
def fl_tys (ca : Nat → ClassId) : List (ClassId × FieldType) := [(ca 1, .int), (ca 2, .char), (ca 3, .long), (ca 4, .object RX5)]
/-- the private members of nest mates that are linked -/
def fl_nest : List Cond := [.methodLinkNest "CabTears" 11 ⟨"CabTears$Text", "<init>", "()V"⟩ "CabTears", .methodLinkNest "CabTears" 18 ⟨"CabTears$City", "<init>", "()V"⟩ "CabTears", .methodLinkNest "CabTears$City" 38 ⟨"CabTears$Trip", "<init>", "()V"⟩ "CabTears", .methodLinkNest "CabTears" 28 ⟨"CabTears$Stand", "<init>", "()V"⟩ "CabTears", .methodLinkNest "CabTears$Shelf" 21 ⟨"CabTears$Stand", "<init>", "()V"⟩ "CabTears", .methodLinkNest "CabTears" 50 ⟨"CabTears$Seen", "<init>", "()V"⟩ "CabTears", .methodLinkNest "CabTears$Orders" 24 ⟨"CabTears$Stand", "<init>", "()V"⟩ "CabTears", .methodLinkNest "CabTears$Duel" 17 ⟨"CabTears$Stand", "<init>", "()V"⟩ "CabTears", .methodLinkNest "CabTears$City" 56 ⟨"CabTears", "within", "(III)Z"⟩ "CabTears", .methodLinkNest "CabTears$Orders" 29 ⟨"CabTears", "restOf", "(LCabTears$City;LCabTears$Stand;)I"⟩ "CabTears", .methodLinkNest "CabTears$Duel" 35 ⟨"CabTears", "restOf", "(LCabTears$City;LCabTears$Stand;)I"⟩ "CabTears"]
theorem fl_nest_in : fl_nest = [72, 94, 100, 178, 224, 238, 266, 293, 388, 583, 648].filterMap (fun i => lw_tbl[i]?) := by decide +kernel
theorem fl_nest_warm : ∀ w ∈ fl_nest, ∀ s U : State, s.WarmedH U.vm → va_Nw w s → va_Nw w U := by
  simp only [fl_nest, List.forall_mem_cons]
  refine ⟨?_, ?_, ?_, ?_, ?_, ?_, ?_, ?_, ?_, ?_, ?_, fun _ h => absurd h List.not_mem_nil⟩
  all_goals exact fun s U hW h => va_Nw.warmM hW h
theorem fl_nest_tab : fl_nest.all (fun w => w.onTables) = true := by decide +kernel
def fl_E (D : va_G) (ca : Nat → ClassId) (U : State) : Prop := va_K D vwCl (fl_tys ca) U ∧ ∀ w ∈ fl_nest, va_Nw w U
theorem fl_E.warm {D : va_G} {ca : Nat → ClassId} {s U : State} (hW : s.WarmedH U.vm) (h : fl_E D ca s) : fl_E D ca U := ⟨va_K.moved hW.alike h.1, fun w hw => fl_nest_warm w hw s U hW (h.2 w hw)⟩
theorem fl_E.same {D : va_G} {ca : Nat → ClassId} {s U : State} (hv : s.vm = U.vm) (h : fl_E D ca s) : fl_E D ca U := ⟨va_K.moved (hv ▸ Vm.Alike.refl _) h.1, fun w hw => va_Nw.same (List.all_eq_true.mp fl_nest_tab w hw) hv (h.2 w hw)⟩
/-! what a walk stands on -/
def fl_X (p : Program) (s : State) (m : MethodId) (args : Array Value) (c : Code) (cc : ByteArray) (nL : Nat) (own : String) (L : List Kd) (D : va_G) (ca : Nat → ClassId) (ad : Nat → Nat) : Prop :=
  p.tables.exec = Jvm.exec ∧ c.code = cc ∧ c.maxLocals = nL ∧ s.vm.findClass own = some m.cls ∧ (∀ w ∈ fl_U, w.before args s = true) ∧ fl_E D ca s ∧ fl_inj L ad
def fl_Q (L : List Kd) (D : va_G) (ca : Nat → ClassId) (ad : Nat → Nat) (v : Option Value) (M : Mem) : Array Value → State → Outcome → State → Prop := fun _ st oc t => oc = .returned v ∧ va_P D vwCl (fl_w L ca ad M) t.heap ∧ va_F (fl_A L ad) st t
def fl_Pc (L : List Kd) (D : va_G) (ca : Nat → ClassId) (ad : Nat → Nat) (av : List Value) (m : Mem) : Array Value → State → Prop := va_Pc av (fun U => va_P D vwCl (fl_w L ca ad m) U.heap ∧ fl_E D ca U)
def fl_rm (d : Nat) : Room := { frames := d, cells := 0, slots := 0, locals := 64 * d }
/-- a method's contract: from the memory m it answers v and leaves the memory M -/
def fl_M (l : Launch) (L : List Kd) (D : va_G) (ca : Nat → ClassId) (ad : Nat → Nat) (y : MethodName) (cd : ByteArray) (nL : Nat) (ret : Option FieldType) (d : Nat) (av : List Value) (m : Mem) (v : Option Value) (M : Mem) : Prop :=
  Met l y (Cond.code y cd nL ret :: fl_U) (fl_rm d) (fl_Pc L D ca ad av m) (fl_Q L D ca ad v M) 0 0 (fl_A L ad)
theorem fl_blind {L : List Kd} {D : va_G} {ca : Nat → ClassId} {ad : Nat → Nat} {av : List Value} {m : Mem} : FrameBlind (fl_Pc L D ca ad av m) := fun a U g mk h => ⟨h.1, h.2.1, fl_E.same (s := U) (U := U.calling g mk a) rfl h.2.2⟩
theorem fl_ofW {l : Launch} {L : List Kd} {D : va_G} {ca : Nat → ClassId} {ad : Nat → Nat} {y : MethodName} {cd : ByteArray} {nL : Nat} {ret : Option FieldType} {d : Nat} {av : List Value} {m : Mem} {v : Option Value} {M : Mem} (hy : plainName y.cls = true) (hi : fl_inj L ad) (hn : (lg_sl av).length ≤ nL)
    (body : ∀ (p : Program) (e : Env) (s : State) (mm : MethodId) (args : Array Value) (below : List Frame) (meth : Method) (c : Code) (ls : Array Slot), fl_X p s mm args c cd nL y.cls L D ca ad → meth.sig.returnType = ret → meth.locks = false → va_P D vwCl (fl_w L ca ad m) s.heap → lv_has ls nL (lv_args 0 av) →
      W p l e (fl_rm d) s mm args below meth c s.heap [] 0 0 (MQ below (fl_Q L D ca ad v M) args s 0 0 (fl_A L ad)) (F0 mm 0 ls [])) : fl_M l L D ca ad y cd nL ret d av m v M := by
  refine Met.ofW (cc := cd) (maxL := nL) (ret := ret) hy rfl ?_
  intro p e s mm args below meth c s₁ B hml hv
  obtain ⟨rfl, hP, hE⟩ := hv
  have hts := atoms_spec (ws := Cond.code y cd nL ret :: fl_U) B.pre
  rw [lg_entry_eq]
  exact body p e s mm _ below meth c _ ⟨B.exec, B.bytes, hml, findClass_of_methodNamed B.named, fun w hw => hts w (List.mem_cons_of_mem _ hw), hE, hi⟩ B.returns B.notSynchronized hP (lv_entry av hn)
/-! links, a row each -/
def fl_fk (own : String) (index ci fi : Nat) : Prop := ∃ (C : String) (T : u_T) (N : Nat), vwCl[ci]? = some (C, T, N) ∧ (∀ w ∈ u_ws C T N, w ∈ fl_U) ∧ fi < N ∧ Cond.fieldLink own index (T fi).1 (T fi).2.1 (T fi).2.2.1 ∈ fl_U
def fl_pk (own : String) (index ci fi : Nat) (ty : FieldType) : Prop := ∃ (C : String) (T : u_T) (N : Nat) (ty0 : Nat → FieldType), vwCl[ci]? = some (C, T, N) ∧ (∀ w ∈ u_ws C T N, w ∈ fl_U) ∧ fi < N ∧ Cond.fieldLink own index (T fi).1 (T fi).2.1 (T fi).2.2.1 ∈ fl_U ∧ (∀ k, k < N → parseFieldDescriptor (T k).2.2.1 = some (ty0 k)) ∧ (∀ a, a < N → ∀ b, b < N → a ≠ b → (T a).2.1 ≠ (T b).2.1) ∧ (T fi).2.2.2 = false ∧ parseFieldDescriptor (T fi).2.2.1 = some ty
def fl_nn (y : MethodName) (n : Nat) : Prop := y.cls ≠ "java/lang/invoke/MethodHandle" ∧ y.cls ≠ "java/lang/invoke/VarHandle" ∧ (parseMethodDescriptor y.desc).map (fun d => d.parameters.length) = some n
def fl_mv (own : String) (index ci : Nat) (y : MethodName) (cd : ByteArray) (nL : Nat) (ret : Option FieldType) (n : Nat) : Prop := (∃ (T : u_T) (N : Nat), vwCl[ci]? = some (y.cls, T, N)) ∧ GoodIn fl_U (wsV own index y.cls y (Cond.code y cd nL ret :: fl_U)) ∧ fl_nn y n
def fl_ms (own : String) (index : Nat) (y : MethodName) (cd : ByteArray) (nL : Nat) (ret : Option FieldType) (n : Nat) : Prop := GoodIn fl_U (va_wsS own index y (Cond.code y cd nL ret :: fl_U)) ∧ fl_nn y n
def fl_mn (own : String) (index : Nat) (y : MethodName) (host : String) (cd : ByteArray) (nL : Nat) (ret : Option FieldType) (n : Nat) : Prop := Cond.methodLinkNest own index y host ∈ fl_nest ∧ GoodIn fl_U (Cond.code y cd nL ret :: fl_U) ∧ Cond.initialized y.cls ∈ fl_U ∧ Cond.static y ∈ fl_U ∧ fl_nn y n
theorem fl_mv_of {own : String} {index ci : Nat} {y : MethodName} {cd : ByteArray} {nL : Nat} {ret : Option FieldType} {n : Nat} {T : u_T} {N : Nat} (hc : vwCl[ci]? = some (y.cls, T, N)) (h1 : Cond.methodLink own index y ∈ fl_U) (h2 : Cond.instanceMethod y ∈ fl_U) (h3 : Cond.selects y.cls y y ∈ fl_U) (h4 : Cond.initialized y.cls ∈ fl_U) (h5 : Cond.code y cd nL ret ∈ fl_U) (hn : fl_nn y n) : fl_mv own index ci y cd nL ret n :=
  ⟨⟨T, N, hc⟩, fl_goodc h1 (fl_goodc h2 (fl_goodc h3 (fl_goodc h4 (fl_goodc h5 fl_goodU)))), hn⟩
theorem fl_ms_of {own : String} {index : Nat} {y : MethodName} {cd : ByteArray} {nL : Nat} {ret : Option FieldType} {n : Nat} (h1 : Cond.methodLink own index y ∈ fl_U) (h2 : Cond.static y ∈ fl_U) (h4 : Cond.initialized y.cls ∈ fl_U) (h5 : Cond.code y cd nL ret ∈ fl_U) (hn : fl_nn y n) : fl_ms own index y cd nL ret n :=
  ⟨fl_goodc h1 (fl_goodc h2 (fl_goodc h4 (fl_goodc h5 fl_goodU))), hn⟩
theorem fl_mn_of {own : String} {index : Nat} {y : MethodName} {host : String} {cd : ByteArray} {nL : Nat} {ret : Option FieldType} {n : Nat} (h1 : Cond.methodLinkNest own index y host ∈ fl_nest) (h2 : Cond.static y ∈ fl_U) (h4 : Cond.initialized y.cls ∈ fl_U) (h5 : Cond.code y cd nL ret ∈ fl_U) (hn : fl_nn y n) : fl_mn own index y host cd nL ret n :=
  ⟨h1, fl_goodc h5 fl_goodU, h4, h2, hn⟩
section FL
variable {p : Program} {l : Launch} {e : Env} {R : Room} {s : State} {mm : MethodId} {args : Array Value} {below : List Frame} {meth : Method} {c : Code} {H : Heap} {locs : List Loc} {cells slots : Nat} {Q : State → Prop}
variable {cc : ByteArray} {nL pc : Nat} {ls : Array Slot} {rest : List Value} {own : String} {L : List Kd} {D : va_G} {ca : Nat → ClassId} {ad : Nat → Nat} {m : Mem} {H0 : Heap}
theorem fl_geti (X : fl_X p s mm args c cc nL own L D ca ad) (hP : va_P D vwCl (fl_w L ca ad m) H) {k j ci index : Nat} {tm : List (Option Nat)} (hf : fl_fk own index ci j) (hk : L[k]? = some (0, ci, tm)) (ht : tm[j]? = some none) (hdg : decode cc pc = .ok (.getfield index, 3))
    (kk : W p l e R s mm args below meth c H locs cells slots Q (F0 mm (pc + 3) ls (.int (m.1 k j) :: rest))) : W p l e R s mm args below meth c H locs cells slots Q (F0 mm pc ls (.ref (ad k) :: rest)) := by
  obtain ⟨hx, hb, hml, hown, hts, hE, hi⟩ := X
  obtain ⟨C, T, N, hc, hin, hfi, hlink⟩ := hf
  have he : (fl_w L ca ad m)[k]? = some (ad k, .inr (ci, fl_fs ad (m.1 k) 0 tm)) := (fl_at hk).trans (by simp [fl_ent])
  exact va_get (D := D) (ci := ci) (v := .int (m.1 k j)) (C := C) (T := T) (N := N) hx hb hts hin hown hE.1 hP k he hc j hfi (hts _ hlink) (fun _ h9 => h9) ((fl_fs_getI tm 0 j ht).trans (by rw [Nat.zero_add])) hdg kk
theorem fl_getr (X : fl_X p s mm args c cc nL own L D ca ad) (hP : va_P D vwCl (fl_w L ca ad m) H) {k j ci index r : Nat} {tm : List (Option Nat)} (hf : fl_fk own index ci j) (hk : L[k]? = some (0, ci, tm)) (ht : tm[j]? = some (some r)) (hdg : decode cc pc = .ok (.getfield index, 3))
    (kk : W p l e R s mm args below meth c H locs cells slots Q (F0 mm (pc + 3) ls (.ref (ad r) :: rest))) : W p l e R s mm args below meth c H locs cells slots Q (F0 mm pc ls (.ref (ad k) :: rest)) := by
  obtain ⟨hx, hb, hml, hown, hts, hE, hi⟩ := X
  obtain ⟨C, T, N, hc, hin, hfi, hlink⟩ := hf
  have he : (fl_w L ca ad m)[k]? = some (ad k, .inr (ci, fl_fs ad (m.1 k) 0 tm)) := (fl_at hk).trans (by simp [fl_ent])
  exact va_get (D := D) (ci := ci) (v := .ref (ad r)) (C := C) (T := T) (N := N) hx hb hts hin hown hE.1 hP k he hc j hfi (hts _ hlink) (fun _ h9 => h9) (fl_fs_getR tm 0 j ht) hdg kk
theorem fl_puti (X : fl_X p s mm args c cc nL own L D ca ad) (hP : va_P D vwCl (fl_w L ca ad m) H) (hS : va_S (fl_A L ad) H0 H locs) {k j ci index : Nat} {tm : List (Option Nat)} {ty : FieldType} {v : Int32} (hf : fl_pk own index ci j ty) (hk : L[k]? = some (0, ci, tm)) (ht : tm[j]? = some none) (hn : narrow ty (.int v) = .int v) (hfit : fits ty (.int v) = true) (hdg : decode cc pc = .ok (.putfield index, 3))
    (kk : ∀ (H1 : Heap) (locs1 : List Loc), va_P D vwCl (fl_w L ca ad (mI m k j v)) H1 → va_S (fl_A L ad) H0 H1 locs1 → W p l e R s mm args below meth c H1 locs1 cells slots Q (F0 mm (pc + 3) ls rest)) : W p l e R s mm args below meth c H locs cells slots Q (F0 mm pc ls (.int v :: .ref (ad k) :: rest)) := by
  obtain ⟨hx, hb, hml, hown, hts, hE, hi⟩ := X
  obtain ⟨C, T, N, ty0, hc, hin, hfi, hlink, hty, hnm, hfin, hd⟩ := hf
  have he : (fl_w L ca ad m)[k]? = some (ad k, .inr (ci, fl_fs ad (m.1 k) 0 tm)) := (fl_at hk).trans (by simp [fl_ent])
  have hl : j < (fl_fs ad (m.1 k) 0 tm).length := by rw [fl_fs_len]; exact (List.getElem?_eq_some_iff.mp ht).1
  refine va_put (D := D) (ci := ci) (v := .int v) (ty := ty) (C := C) (T := T) (N := N) hx hb hts hin ty0 hty hnm hown hE.1 hP (fl_D hi) hS k he hc j hfi (hts _ hlink) (fun _ h9 => h9) hfin hd hn hfit hl hdg (fun H1 locs1 hP1 _ hS1 => kk H1 locs1 ?_ hS1)
  rw [fl_set (m := m) hk (fun i h => mI_ne i h) rfl, show fl_ent ca ad (mI m k j v) k (0, ci, tm) = .inr (ci, fl_fs ad ((mI m k j v).1 k) 0 tm) by simp [fl_ent], mI_eq]
  have := fl_fs_set (ad := ad) (f := m.1 k) (v := v) tm 0 j ht
  rw [Nat.zero_add] at this
  rw [this]
  exact hP1
theorem fl_iald (X : fl_X p s mm args c cc nL own L D ca ad) (hP : va_P D vwCl (fl_w L ca ad m) H) {k n : Nat} {tm : List (Option Nat)} (hk : L[k]? = some (1, n, tm)) {i : Int32} (hin : 0 ≤ i.toInt ∧ i.toInt < n) (hdg : decode cc pc = .ok (.iaload, 1))
    (kk : W p l e R s mm args below meth c H locs cells slots Q (F0 mm (pc + 1) ls (.int (m.1 k i.toNatClampNeg) :: rest))) : W p l e R s mm args below meth c H locs cells slots Q (F0 mm pc ls (.int i :: .ref (ad k) :: rest)) := by
  obtain ⟨hx, hb, hml, hown, hts, hE, hi⟩ := X
  have he : (fl_w L ca ad m)[k]? = some (ad k, .inl (ca 1, n, .inl (m.1 k))) := (fl_at hk).trans (by simp [fl_ent])
  exact va_iald hx hb hE.1 hP k 0 he rfl (vp_in_iff.mpr hin) hdg kk
theorem fl_cald (X : fl_X p s mm args c cc nL own L D ca ad) (hP : va_P D vwCl (fl_w L ca ad m) H) {k n : Nat} {tm : List (Option Nat)} (hk : L[k]? = some (2, n, tm)) {i : Int32} (hin : 0 ≤ i.toInt ∧ i.toInt < n) (hdg : decode cc pc = .ok (.caload, 1))
    (kk : W p l e R s mm args below meth c H locs cells slots Q (F0 mm (pc + 1) ls (.int (m.1 k i.toNatClampNeg) :: rest))) : W p l e R s mm args below meth c H locs cells slots Q (F0 mm pc ls (.int i :: .ref (ad k) :: rest)) := by
  obtain ⟨hx, hb, hml, hown, hts, hE, hi⟩ := X
  have he : (fl_w L ca ad m)[k]? = some (ad k, .inl (ca 2, n, .inl (m.1 k))) := (fl_at hk).trans (by simp [fl_ent])
  exact va_cald hx hb hE.1 hP k 1 he rfl (vp_in_iff.mpr hin) hdg kk
theorem fl_lald (X : fl_X p s mm args c cc nL own L D ca ad) (hP : va_P D vwCl (fl_w L ca ad m) H) {k n : Nat} {tm : List (Option Nat)} (hk : L[k]? = some (3, n, tm)) {i : Int32} (hin : 0 ≤ i.toInt ∧ i.toInt < n) (hdg : decode cc pc = .ok (.laload, 1))
    (kk : W p l e R s mm args below meth c H locs cells slots Q (F0 mm (pc + 1) ls (.long (m.2 i.toNatClampNeg) :: rest))) : W p l e R s mm args below meth c H locs cells slots Q (F0 mm pc ls (.int i :: .ref (ad k) :: rest)) := by
  obtain ⟨hx, hb, hml, hown, hts, hE, hi⟩ := X
  have he : (fl_w L ca ad m)[k]? = some (ad k, .inl (ca 3, n, .inr (.inl m.2))) := (fl_at hk).trans (by simp [fl_ent])
  exact va_lald hx hb hE.1 hP k 2 he rfl (vp_in_iff.mpr hin) hdg kk
theorem fl_aald (X : fl_X p s mm args c cc nL own L D ca ad) (hP : va_P D vwCl (fl_w L ca ad m) H) {k n b : Nat} (hk : L[k]? = some (4, n, [some b])) {i : Int32} (hin : 0 ≤ i.toInt ∧ i.toInt < n) (hdg : decode cc pc = .ok (.aaload, 1))
    (kk : W p l e R s mm args below meth c H locs cells slots Q (F0 mm (pc + 1) ls (.ref (ad (b + 6 * i.toNatClampNeg)) :: rest))) : W p l e R s mm args below meth c H locs cells slots Q (F0 mm pc ls (.int i :: .ref (ad k) :: rest)) := by
  obtain ⟨hx, hb, hml, hown, hts, hE, hi⟩ := X
  have he : (fl_w L ca ad m)[k]? = some (ad k, .inl (ca 4, n, .inr (.inr (.inr (.inr (fun j => some (ad (b + 6 * j)))))))) := (fl_at hk).trans (by simp [fl_ent, fl_base])
  exact va_aldq hx hb hE.1 hP k 3 he rfl (vp_in_iff.mpr hin) hdg kk
theorem fl_alen (X : fl_X p s mm args c cc nL own L D ca ad) (hP : va_P D vwCl (fl_w L ca ad m) H) {k t n : Nat} {tm : List (Option Nat)} (hk : L[k]? = some (t, n, tm)) (ht : t = 1 ∨ t = 2 ∨ t = 4) {v : Int32} (hv : Int32.ofNat n = v) (hdg : decode cc pc = .ok (.arraylength, 1))
    (kk : W p l e R s mm args below meth c H locs cells slots Q (F0 mm (pc + 1) ls (.int v :: rest))) : W p l e R s mm args below meth c H locs cells slots Q (F0 mm pc ls (.ref (ad k) :: rest)) := by
  obtain ⟨hx, hb, hml, hown, hts, hE, hi⟩ := X
  rcases ht with rfl | rfl | rfl
  · have he : (fl_w L ca ad m)[k]? = some (ad k, .inl (ca 1, n, .inl (m.1 k))) := (fl_at hk).trans (by simp [fl_ent])
    exact va_alen hx hb hE.1 hP k 0 he rfl hv hdg kk
  · have he : (fl_w L ca ad m)[k]? = some (ad k, .inl (ca 2, n, .inl (m.1 k))) := (fl_at hk).trans (by simp [fl_ent])
    exact va_alen hx hb hE.1 hP k 1 he rfl hv hdg kk
  · have he : (fl_w L ca ad m)[k]? = some (ad k, .inl (ca 4, n, .inr (.inr (.inr (.inr (fun j => some (ad (fl_base (4, n, tm) + 6 * j)))))))) := (fl_at hk).trans (by simp [fl_ent])
    exact va_alen hx hb hE.1 hP k 3 he rfl hv hdg kk
theorem fl_iast (X : fl_X p s mm args c cc nL own L D ca ad) (hP : va_P D vwCl (fl_w L ca ad m) H) (hS : va_S (fl_A L ad) H0 H locs) {k n : Nat} {tm : List (Option Nat)} (hk : L[k]? = some (1, n, tm)) {i x : Int32} (hin : 0 ≤ i.toInt ∧ i.toInt < n) (hdg : decode cc pc = .ok (.iastore, 1))
    (kk : ∀ (H1 : Heap) (locs1 : List Loc), va_P D vwCl (fl_w L ca ad (mI m k i.toNatClampNeg x)) H1 → va_S (fl_A L ad) H0 H1 locs1 → W p l e R s mm args below meth c H1 locs1 cells slots Q (F0 mm (pc + 1) ls rest)) : W p l e R s mm args below meth c H locs cells slots Q (F0 mm pc ls (.int x :: .int i :: .ref (ad k) :: rest)) := by
  obtain ⟨hx, hb, hml, hown, hts, hE, hi⟩ := X
  have he : (fl_w L ca ad m)[k]? = some (ad k, .inl (ca 1, n, .inl (m.1 k))) := (fl_at hk).trans (by simp [fl_ent])
  refine va_iast hx hb hE.1 hP (fl_D hi) hS k 0 he rfl (vp_in_iff.mpr hin) hdg (fun H1 locs1 hP1 _ hS1 => kk H1 locs1 ?_ hS1)
  rw [fl_set (m := m) hk (fun i h => mI_ne i h) rfl, show fl_ent ca ad (mI m k i.toNatClampNeg x) k (1, n, tm) = .inl (ca 1, n, .inl ((mI m k i.toNatClampNeg x).1 k)) by simp [fl_ent], mI_eq]
  exact hP1
theorem fl_cast (X : fl_X p s mm args c cc nL own L D ca ad) (hP : va_P D vwCl (fl_w L ca ad m) H) (hS : va_S (fl_A L ad) H0 H locs) {k n : Nat} {tm : List (Option Nat)} (hk : L[k]? = some (2, n, tm)) {i x : Int32} (hin : 0 ≤ i.toInt ∧ i.toInt < n) (hdg : decode cc pc = .ok (.castore, 1))
    (kk : ∀ (H1 : Heap) (locs1 : List Loc), va_P D vwCl (fl_w L ca ad (mI m k i.toNatClampNeg (vp_nar .char x))) H1 → va_S (fl_A L ad) H0 H1 locs1 → W p l e R s mm args below meth c H1 locs1 cells slots Q (F0 mm (pc + 1) ls rest)) : W p l e R s mm args below meth c H locs cells slots Q (F0 mm pc ls (.int x :: .int i :: .ref (ad k) :: rest)) := by
  obtain ⟨hx, hb, hml, hown, hts, hE, hi⟩ := X
  have he : (fl_w L ca ad m)[k]? = some (ad k, .inl (ca 2, n, .inl (m.1 k))) := (fl_at hk).trans (by simp [fl_ent])
  refine va_cast hx hb hE.1 hP (fl_D hi) hS k 1 he rfl (vp_in_iff.mpr hin) hdg (fun H1 locs1 hP1 _ hS1 => kk H1 locs1 ?_ hS1)
  rw [fl_set (m := m) hk (fun i h => mI_ne i h) rfl, show fl_ent ca ad (mI m k i.toNatClampNeg (vp_nar .char x)) k (2, n, tm) = .inl (ca 2, n, .inl ((mI m k i.toNatClampNeg (vp_nar .char x)).1 k)) by simp [fl_ent], mI_eq]
  exact hP1
theorem fl_last (X : fl_X p s mm args c cc nL own L D ca ad) (hP : va_P D vwCl (fl_w L ca ad m) H) (hS : va_S (fl_A L ad) H0 H locs) {k n : Nat} {tm : List (Option Nat)} (hk : L[k]? = some (3, n, tm)) (hu : ∀ i q, L[i]? = some q → q.1 = 3 → i = k) {i : Int32} {x : Int64} (hin : 0 ≤ i.toInt ∧ i.toInt < n) (hdg : decode cc pc = .ok (.lastore, 1))
    (kk : ∀ (H1 : Heap) (locs1 : List Loc), va_P D vwCl (fl_w L ca ad (mL m i.toNatClampNeg x)) H1 → va_S (fl_A L ad) H0 H1 locs1 → W p l e R s mm args below meth c H1 locs1 cells slots Q (F0 mm (pc + 1) ls rest)) : W p l e R s mm args below meth c H locs cells slots Q (F0 mm pc ls (.long x :: .int i :: .ref (ad k) :: rest)) := by
  obtain ⟨hx, hb, hml, hown, hts, hE, hi⟩ := X
  have he : (fl_w L ca ad m)[k]? = some (ad k, .inl (ca 3, n, .inr (.inl m.2))) := (fl_at hk).trans (by simp [fl_ent])
  refine va_last hx hb hE.1 hP (fl_D hi) hS k 2 he rfl (vp_in_iff.mpr hin) hdg (fun H1 locs1 hP1 _ hS1 => kk H1 locs1 ?_ hS1)
  rw [fl_setL (m := m) hk hu, show fl_ent ca ad (mL m i.toNatClampNeg x) k (3, n, tm) = .inl (ca 3, n, .inr (.inl (vp_updL m.2 i.toNatClampNeg x))) by simp [fl_ent, mL]]
  exact hP1
theorem fl_copy (X : fl_X p s mm args c cc nL own L D ca ad) (hP : va_P D vwCl (fl_w L ca ad m) H) (hS : va_S (fl_A L ad) H0 H locs) (hsz : ls.size = nL) {k k2 n0 n1 index : Nat} {tm tm2 : List (Option Nat)} (hk : L[k]? = some (1, n0, tm)) (hk2 : L[k2]? = some (1, n1, tm2)) {sp dp n : Int32} (h1 : ¬ sp < 0) (h2 : ¬ dp < 0) (h3 : ¬ n < 0) (h4 : sp.toNatClampNeg + n.toNatClampNeg ≤ n0) (h5 : dp.toNatClampNeg + n.toNatClampNeg ≤ n1)
    (w1 : Cond.methodLink own index arraycopyName ∈ fl_U) (w2 : Cond.native arraycopyName ∈ fl_U) (w3 : Cond.static arraycopyName ∈ fl_U) (w4 : Cond.initialized "java/lang/System" ∈ fl_U) (hframes : 1 ≤ R.frames) (hlocals : (rest.map fun v => v.category).sum + (nativeFrameWords "java/lang/System" "arraycopy" 5 + 11) ≤ R.locals) (hdg : decode cc pc = .ok (.invokestatic index, 3))
    (kk : ∀ (H1 : Heap) (locs1 : List Loc), va_P D vwCl (fl_w L ca ad (mC m k k2 sp.toNatClampNeg dp.toNatClampNeg n.toNatClampNeg)) H1 → va_S (fl_A L ad) H0 H1 locs1 → W p l e R s mm args below meth c H1 locs1 cells slots Q (F0 mm (pc + 3) ls rest)) : W p l e R s mm args below meth c H locs cells slots Q (F0 mm pc ls (.int n :: .int dp :: .ref (ad k2) :: .int sp :: .ref (ad k) :: rest)) := by
  obtain ⟨hx, hb, hml, hown, hts, hE, hi⟩ := X
  have he : (fl_w L ca ad m)[k]? = some (ad k, .inl (ca 1, n0, .inl (m.1 k))) := (fl_at hk).trans (by simp [fl_ent])
  have he2 : (fl_w L ca ad m)[k2]? = some (ad k2, .inl (ca 1, n1, .inl (m.1 k2))) := (fl_at hk2).trans (by simp [fl_ent])
  refine va_copyi (ty := .int) hx hb (hml.trans hsz.symm) hown (hts _ w1) (hts _ w2) (hts _ w3) (hts _ w4) hE.1 hP (fl_D hi) hS k k2 0 0 he he2 rfl rfl rfl h1 h2 h3 h4 h5 (fun _ _ => rfl) hframes hlocals hdg (fun H1 locs1 hP1 _ hS1 => kk H1 locs1 ?_ hS1)
  rw [fl_set (m := m) hk2 (fun i h => mC_ne i h) rfl, show fl_ent ca ad (mC m k k2 sp.toNatClampNeg dp.toNatClampNeg n.toNatClampNeg) k2 (1, n1, tm2) = .inl (ca 1, n1, .inl ((mC m k k2 sp.toNatClampNeg dp.toNatClampNeg n.toNatClampNeg).1 k2)) by simp [fl_ent], mC_eq]
  exact hP1
/-! calls -/
theorem fl_call {v : Option Value} {M : Mem} {st0 : List Value} {a : Array Value} (hr : va_Run p l e R s mm args below meth c H locs cells slots 0 0 (F0 mm pc ls st0) rest (fl_Q L D ca ad v M a) (fl_A L ad)) (hS : va_S (fl_A L ad) H0 H locs)
    (kk : ∀ (H1 : Heap) (locs1 : List Loc), va_P D vwCl (fl_w L ca ad M) H1 → va_S (fl_A L ad) H0 H1 locs1 → W p l e R s mm args below meth c H1 locs1 cells slots Q (F0 mm (pc + 3) ls (v.toList ++ rest))) : W p l e R s mm args below meth c H locs cells slots Q (F0 mm pc ls st0) := by
  intro T hT X
  obtain ⟨v', st₀, t, T', L', h0, X', hL, e1, e2, ⟨hv, hp, hz, hk⟩, st⟩ := hr T hT X
  cases hv
  rw [h0] at hz hk
  obtain ⟨t2, a1, b1⟩ := kk T'.heap (locs ++ L') (by rw [e1]; exact hp)
    ⟨Nat.le_trans hS.1 (by rw [e1]; exact hz), fun q h1 h2 => by rw [e1, hk q (Nat.lt_of_lt_of_le h1 hS.1) h2]; exact hS.2.1 q h1 h2, fun q hq => by
      rcases List.mem_append.mp hq with h | h
      · exact hS.2.2 q h
      · exact hL q h⟩ T' rfl X'
  exact ⟨t2, st t2 a1, b1⟩
def fl_fit (d nLc : Nat) (R : Room) (cells slots : Nat) : Prop := d + 1 ≤ R.frames ∧ 8 + (nLc + 11) + 64 * d ≤ R.locals ∧ cells ≤ R.cells ∧ slots ≤ R.slots
theorem fl_fit_rm {d d0 nLc : Nat} (h : d < d0) (h2 : nLc ≤ 45) : fl_fit d nLc (fl_rm d0) 0 0 := ⟨h, by show 8 + (nLc + 11) + 64 * d ≤ 64 * d0; omega, Nat.le_refl 0, Nat.le_refl 0⟩
theorem fl_callV (X : fl_X p s mm args c cc nL own L D ca ad) (hP : va_P D vwCl (fl_w L ca ad m) H) (hS : va_S (fl_A L ad) H0 H locs) (hsz : ls.size = nL) {index ci n nLc d k : Nat} {y : MethodName} {cd : ByteArray} {ret : Option FieldType} {av : List Value} {v : Option Value} {M : Mem} {tm : List (Option Nat)}
    (hm : fl_mv own index ci y cd nLc ret n) (hM : fl_M l L D ca ad y cd nLc ret d (.ref (ad k) :: av) m v M) (hk : L[k]? = some (0, ci, tm)) (hfit : fl_fit d nLc R cells slots) (hn : av.length = n) (hroom : (rest.map fun v => v.category).sum ≤ 8) (hdg : decode cc pc = .ok (.invokevirtual index, 3)) {st : List Value} (hst : st = av.reverse ++ .ref (ad k) :: rest)
    (kk : ∀ (H1 : Heap) (locs1 : List Loc), va_P D vwCl (fl_w L ca ad M) H1 → va_S (fl_A L ad) H0 H1 locs1 → W p l e R s mm args below meth c H1 locs1 cells slots Q (F0 mm (pc + 3) ls (v.toList ++ rest))) : W p l e R s mm args below meth c H locs cells slots Q (F0 mm pc ls st) := by
  obtain ⟨hx, hb, hml, hown, hts, hE, hi⟩ := X
  obtain ⟨⟨T, N, hc⟩, hG, hy⟩ := hm
  have he : (fl_w L ca ad m)[k]? = some (ad k, .inr (ci, fl_fs ad (m.1 k) 0 tm)) := (fl_at hk).trans (by simp [fl_ent])
  refine fl_call (v := v) (M := M) (va_runV (Ts := fl_U) (As := av) (rest := rest) ⟨hx, hb, hml, hown, hts⟩ hM (cwV n hts hG rfl rfl rfl ⟨rfl, hy⟩ ⟨hfit.1, hfit.2.1⟩) ⟨fl_blind, va_recv hE.1 hP hc he, fun U hU hW => ⟨rfl, by rw [hU]; exact hP, fl_E.warm hW hE⟩⟩ rfl hn hsz hst (lv_room hroom) hdg ⟨hfit.2.2.1, hfit.2.2.2⟩) hS kk
theorem fl_callS (X : fl_X p s mm args c cc nL own L D ca ad) (hP : va_P D vwCl (fl_w L ca ad m) H) (hS : va_S (fl_A L ad) H0 H locs) (hsz : ls.size = nL) {index n nLc d : Nat} {y : MethodName} {cd : ByteArray} {ret : Option FieldType} {av : List Value} {v : Option Value} {M : Mem}
    (hm : fl_ms own index y cd nLc ret n) (hM : fl_M l L D ca ad y cd nLc ret d av m v M) (hfit : fl_fit d nLc R cells slots) (hn : av.length = n) (hroom : (rest.map fun v => v.category).sum ≤ 8) (hdg : decode cc pc = .ok (.invokestatic index, 3)) {st : List Value} (hst : st = av.reverse ++ rest)
    (kk : ∀ (H1 : Heap) (locs1 : List Loc), va_P D vwCl (fl_w L ca ad M) H1 → va_S (fl_A L ad) H0 H1 locs1 → W p l e R s mm args below meth c H1 locs1 cells slots Q (F0 mm (pc + 3) ls (v.toList ++ rest))) : W p l e R s mm args below meth c H locs cells slots Q (F0 mm pc ls st) := by
  obtain ⟨hx, hb, hml, hown, hts, hE, hi⟩ := X
  obtain ⟨hG, hy⟩ := hm
  refine fl_call (v := v) (M := M) (va_runS (Ts := fl_U) (As := av) (rest := rest) ⟨hx, hb, hml, hown, hts⟩ hM (va_cwS n hts hG rfl rfl rfl hy ⟨hfit.1, hfit.2.1⟩) ⟨fl_blind, fun U hU hW => ⟨rfl, by rw [hU]; exact hP, fl_E.warm hW hE⟩⟩ rfl hn hsz hst (lv_room hroom) hdg ⟨hfit.2.2.1, hfit.2.2.2⟩) hS kk
theorem fl_callN (X : fl_X p s mm args c cc nL own L D ca ad) (hP : va_P D vwCl (fl_w L ca ad m) H) (hS : va_S (fl_A L ad) H0 H locs) (hsz : ls.size = nL) {index n nLc d : Nat} {y : MethodName} {host : String} {cd : ByteArray} {ret : Option FieldType} {av : List Value} {v : Option Value} {M : Mem}
    (hm : fl_mn own index y host cd nLc ret n) (hM : fl_M l L D ca ad y cd nLc ret d av m v M) (hfit : fl_fit d nLc R cells slots) (hn : av.length = n) (hroom : (rest.map fun v => v.category).sum ≤ 8) (hdg : decode cc pc = .ok (.invokestatic index, 3)) {st : List Value} (hst : st = av.reverse ++ rest)
    (kk : ∀ (H1 : Heap) (locs1 : List Loc), va_P D vwCl (fl_w L ca ad M) H1 → va_S (fl_A L ad) H0 H1 locs1 → W p l e R s mm args below meth c H1 locs1 cells slots Q (F0 mm (pc + 3) ls (v.toList ++ rest))) : W p l e R s mm args below meth c H locs cells slots Q (F0 mm pc ls st) := by
  obtain ⟨hx, hb, hml, hown, hts, hE, hi⟩ := X
  obtain ⟨hl, hG, hini, hstt, hy⟩ := hm
  refine fl_call (v := v) (M := M) (va_runSN (Ts := fl_U) (As := av) (rest := rest) ⟨hx, hb, hml, hown, hts⟩ hM ⟨va_cnB n hts hG rfl rfl rfl (hE.2 _ hl) (hts _ hini) hy ⟨hfit.1, hfit.2.1⟩, hts _ hstt, trivial⟩ ⟨fl_blind, fun U hU hW => ⟨rfl, by rw [hU]; exact hP, fl_E.warm hW hE⟩⟩ rfl hn hsz hst (lv_room hroom) hdg ⟨hfit.2.2.1, hfit.2.2.2⟩) hS kk
/-! ends -/
theorem fl_iret {v v' : Int32} {M : Mem} (X : fl_X p s mm args c cc nL own L D ca ad) (hr : meth.sig.returnType = some .int) (hlk : meth.locks = false) (hP : va_P D vwCl (fl_w L ca ad m) H) (hS : va_S (fl_A L ad) s.heap H locs) (hdg : decode cc pc = .ok (.ireturn, 1)) (h : some (v, m) = some (v', M)) :
    W p l e R s mm args below meth c H locs 0 0 (MQ below (fl_Q L D ca ad (some (.int v')) M) args s 0 0 (fl_A L ad)) (F0 mm pc ls [.int v]) := by
  cases h
  exact W.iret (v := v) X.1 X.2.1 hr (fun t ht hW => ⟨rfl, by rw [ht]; exact hP, hS.F ht⟩) hS.2.2 hdg hlk
theorem fl_zret {v v' : Int32} {M : Mem} (X : fl_X p s mm args c cc nL own L D ca ad) (hr : meth.sig.returnType = some .boolean) (hlk : meth.locks = false) (hv : v = 0 ∨ v = 1) (hP : va_P D vwCl (fl_w L ca ad m) H) (hS : va_S (fl_A L ad) s.heap H locs) (hdg : decode cc pc = .ok (.ireturn, 1)) (h : some (v, m) = some (v', M)) :
    W p l e R s mm args below meth c H locs 0 0 (MQ below (fl_Q L D ca ad (some (.int v')) M) args s 0 0 (fl_A L ad)) (F0 mm pc ls [.int v]) := by
  cases h
  exact W.zret (v := v) (ty := .boolean) X.1 X.2.1 hr (by rcases hv with rfl | rfl <;> rfl) (fun t ht hW => ⟨rfl, by rw [ht]; exact hP, hS.F ht⟩) hS.2.2 hdg hlk
theorem fl_lret {v v' : Int64} {M : Mem} (X : fl_X p s mm args c cc nL own L D ca ad) (hr : meth.sig.returnType = some .long) (hlk : meth.locks = false) (hP : va_P D vwCl (fl_w L ca ad m) H) (hS : va_S (fl_A L ad) s.heap H locs) (hdg : decode cc pc = .ok (.lreturn, 1)) (h : some (v, m) = some (v', M)) :
    W p l e R s mm args below meth c H locs 0 0 (MQ below (fl_Q L D ca ad (some (.long v')) M) args s 0 0 (fl_A L ad)) (F0 mm pc ls [.long v]) := by
  cases h
  exact W.lret (v := v) X.1 X.2.1 hr (fun t ht hW => ⟨rfl, by rw [ht]; exact hP, hS.F ht⟩) hS.2.2 hdg hlk
theorem fl_vret {v v' : Int32} {M : Mem} (X : fl_X p s mm args c cc nL own L D ca ad) (hr : meth.sig.returnType = none) (hlk : meth.locks = false) (hP : va_P D vwCl (fl_w L ca ad m) H) (hS : va_S (fl_A L ad) s.heap H locs) (hdg : decode cc pc = .ok (.return_, 1)) (h : some (v, m) = some (v', M)) :
    W p l e R s mm args below meth c H locs 0 0 (MQ below (fl_Q L D ca ad none M) args s 0 0 (fl_A L ad)) (F0 mm pc ls []) := by
  cases h
  exact W.vret X.1 X.2.1 hr (fun t ht hW => ⟨rfl, by rw [ht]; exact hP, hS.F ht⟩) hS.2.2 hdg hlk
end FL
/-! the pure side: answers that may be wanting -/
def fl_bd {α β : Type} (o : Option (α × Mem)) (f : α → Mem → Option β) : Option β := match o with
  | some q => f q.1 q.2
  | none => none
theorem fl_bd_e {α β : Type} {o : Option (α × Mem)} {f : α → Mem → Option β} {x : β} (h : fl_bd o f = some x) : ∃ (r : α) (m1 : Mem), o = some (r, m1) ∧ f r m1 = some x := by
  cases o with
  | none => cases h
  | some q => exact ⟨q.1, q.2, rfl, h⟩
theorem fl_bd_s {α β : Type} {f : α → Mem → Option β} {r : α} {m1 : Mem} : fl_bd (some (r, m1)) f = f r m1 := rfl
def fl_ck {α : Type} (c : Prop) [Decidable c] (o : Option α) : Option α := if c then o else none
theorem fl_ck_e {α : Type} {c : Prop} [Decidable c] {o : Option α} {x : α} (h : fl_ck c o = some x) : c ∧ o = some x := by
  unfold fl_ck at h
  split at h
  · exact ⟨by assumption, h⟩
  · cases h
theorem fl_ck_t {α : Type} {c : Prop} [Decidable c] {o : Option α} (h : c) : fl_ck c o = o := if_pos h
theorem fl_if_t {α : Type} {c : Prop} [Decidable c] {A B x : α} (h : (if c then A else B) = x) (hc : c) : A = x := (if_pos hc).symm.trans h
theorem fl_if_f {α : Type} {c : Prop} [Decidable c] {A B x : α} (h : (if c then A else B) = x) (hc : ¬ c) : B = x := (if_neg hc).symm.trans h
def fl_lm {β : Type} (a : Mem) (f : Mem → Option β) : Option β := f a
def fl_li {β : Type} (a : Int32) (f : Int32 → Option β) : Option β := f a
def fl_ll {β : Type} (a : Int64) (f : Int64 → Option β) : Option β := f a
theorem fl_lm_e {β : Type} {a : Mem} {f : Mem → Option β} {x : Option β} (h : fl_lm a f = x) : ∃ b, b = a ∧ f b = x := ⟨a, rfl, h⟩
theorem fl_li_e {β : Type} {a : Int32} {f : Int32 → Option β} {x : Option β} (h : fl_li a f = x) : ∃ b, b = a ∧ f b = x := ⟨a, rfl, h⟩
theorem fl_ll_e {β : Type} {a : Int64} {f : Int64 → Option β} {x : Option β} (h : fl_ll a f = x) : ∃ b, b = a ∧ f b = x := ⟨a, rfl, h⟩
def fl_rem (x y : Int32) : Int32 := x - x / y * y
def fl_remL (x y : Int64) : Int64 := x - x / y * y
def fl_max (x y : Int32) : Int32 := if x < y then y else x
def fl_min (x y : Int32) : Int32 := if y < x then y else x
def fl_abs (x : Int32) : Int32 := if 0 ≤ x then x else 0 - x
section FT
variable {p : Program} {l : Launch} {e : Env} {R : Room} {s : State} {mm : MethodId} {args : Array Value} {below : List Frame} {meth : Method} {c : Code} {H : Heap} {locs : List Loc} {cells slots : Nat} {Q : State → Prop} {pc : Nat} {ls : Array Slot} {rest : List Value}
theorem fl_topi {x y : Int32} (h : y = x) (k : W p l e R s mm args below meth c H locs cells slots Q (F0 mm pc ls (.int y :: rest))) : W p l e R s mm args below meth c H locs cells slots Q (F0 mm pc ls (.int x :: rest)) := h ▸ k
theorem fl_topl {x y : Int64} (h : y = x) (k : W p l e R s mm args below meth c H locs cells slots Q (F0 mm pc ls (.long y :: rest))) : W p l e R s mm args below meth c H locs cells slots Q (F0 mm pc ls (.long x :: rest)) := h ▸ k
end FT
