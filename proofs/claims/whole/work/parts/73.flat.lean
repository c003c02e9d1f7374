/-! ===== calls over the flat memory, in a frame that may hold more ===== -/
section
variable {p : Program} {l : Launch} {e : Env} {R : Room} {s : State} {mm : MethodId} {args : Array Value} {below : List Frame} {meth : Method} {c : Code} {H : Heap} {locs : List Loc} {cells slots : Nat} {Q : State → Prop}
variable {cc : ByteArray} {nL pc : Nat} {ls : Array Slot} {rest : List Value} {own : String} {L : List Kd} {D : va_G} {ca : Nat → ClassId} {ad : Nat → Nat} {m : Mem} {H0 : Heap} {A0 : Nat → Prop}
theorem fl_callA {v : Option Value} {M : Mem} {st0 : List Value} {a : Array Value} (hA0 : ∀ q, fl_A L ad q → A0 q) (hr : va_Run p l e R s mm args below meth c H locs cells slots 0 0 (F0 mm pc ls st0) rest (fl_Q L D ca ad v M a) (fl_A L ad)) (hS : va_S A0 H0 H locs)
    (kk : ∀ (H1 : Heap) (locs1 : List Loc), va_P D vwCl (fl_w L ca ad M) H1 → va_S A0 H0 H1 locs1 → W p l e R s mm args below meth c H1 locs1 cells slots Q (F0 mm (pc + 3) ls (v.toList ++ rest))) : W p l e R s mm args below meth c H locs cells slots Q (F0 mm pc ls st0) := by
  intro T hT X
  obtain ⟨v', st₀, t, T', L', h0, X', hL, e1, e2, ⟨hv, hp, hz, hk⟩, st⟩ := hr T hT X
  cases hv
  rw [h0] at hz hk
  obtain ⟨t2, a1, b1⟩ := kk T'.heap (locs ++ L') (by rw [e1]; exact hp)
    ⟨Nat.le_trans hS.1 (by rw [e1]; exact hz), fun q h1 h2 => by rw [e1, hk q (Nat.lt_of_lt_of_le h1 hS.1) (fun z => h2 (hA0 q z))]; exact hS.2.1 q h1 h2, fun q hq => by
      rcases List.mem_append.mp hq with h | h
      · exact hS.2.2 q h
      · exact hA0 _ (hL q h)⟩ T' rfl X'
  exact ⟨t2, st t2 a1, b1⟩
theorem fl_callVA (hA0 : ∀ q, fl_A L ad q → A0 q) (X : fl_X p s mm args c cc nL own L D ca ad) (hP : va_P D vwCl (fl_w L ca ad m) H) (hS : va_S A0 H0 H locs) (hsz : ls.size = nL) {index ci n nLc d k : Nat} {y : MethodName} {cd : ByteArray} {ret : Option FieldType} {av : List Value} {v : Option Value} {M : Mem} {tm : List (Option Nat)}
    (hm : fl_mv own index ci y cd nLc ret n) (hM : fl_M l L D ca ad y cd nLc ret d (.ref (ad k) :: av) m v M) (hk : L[k]? = some (0, ci, tm)) (hfit : fl_fit d nLc R cells slots) (hn : av.length = n) (hroom : (rest.map fun v => v.category).sum ≤ 8) (hdg : decode cc pc = .ok (.invokevirtual index, 3)) {st : List Value} (hst : st = av.reverse ++ .ref (ad k) :: rest)
    (kk : ∀ (H1 : Heap) (locs1 : List Loc), va_P D vwCl (fl_w L ca ad M) H1 → va_S A0 H0 H1 locs1 → W p l e R s mm args below meth c H1 locs1 cells slots Q (F0 mm (pc + 3) ls (v.toList ++ rest))) : W p l e R s mm args below meth c H locs cells slots Q (F0 mm pc ls st) := by
  obtain ⟨hx, hb, hml, hown, hts, hE, hi⟩ := X
  obtain ⟨⟨T, N, hc⟩, hG, hy⟩ := hm
  have he : (fl_w L ca ad m)[k]? = some (ad k, .inr (ci, fl_fs ad (m.1 k) 0 tm)) := (fl_at hk).trans (by simp [fl_ent])
  refine fl_callA hA0 (v := v) (M := M) (va_runV (Ts := fl_U) (As := av) (rest := rest) ⟨hx, hb, hml, hown, hts⟩ hM (cwV n hts hG rfl rfl rfl ⟨rfl, hy⟩ ⟨hfit.1, hfit.2.1⟩) ⟨fl_blind, va_recv hE.1 hP hc he, fun U hU hW => ⟨rfl, by rw [hU]; exact hP, fl_E.warm hW hE⟩⟩ rfl hn hsz hst (lv_room hroom) hdg ⟨hfit.2.2.1, hfit.2.2.2⟩) hS kk
theorem fl_putiA (hA0 : ∀ q, fl_A L ad q → A0 q) (X : fl_X p s mm args c cc nL own L D ca ad) (hP : va_P D vwCl (fl_w L ca ad m) H) (hS : va_S A0 H0 H locs) {k j ci index : Nat} {tm : List (Option Nat)} {ty : FieldType} {v : Int32} (hf : fl_pk own index ci j ty) (hk : L[k]? = some (0, ci, tm)) (ht : tm[j]? = some none) (hn : narrow ty (.int v) = .int v) (hfit : fits ty (.int v) = true) (hdg : decode cc pc = .ok (.putfield index, 3))
    (kk : ∀ (H1 : Heap) (locs1 : List Loc), va_P D vwCl (fl_w L ca ad (mI m k j v)) H1 → va_S A0 H0 H1 locs1 → W p l e R s mm args below meth c H1 locs1 cells slots Q (F0 mm (pc + 3) ls rest)) : W p l e R s mm args below meth c H locs cells slots Q (F0 mm pc ls (.int v :: .ref (ad k) :: rest)) := by
  obtain ⟨hx, hb, hml, hown, hts, hE, hi⟩ := X
  obtain ⟨C, T, N, ty0, hc, hin, hfi, hlink, hty, hnm, hfin, hd⟩ := hf
  have he : (fl_w L ca ad m)[k]? = some (ad k, .inr (ci, fl_fs ad (m.1 k) 0 tm)) := (fl_at hk).trans (by simp [fl_ent])
  have hl : j < (fl_fs ad (m.1 k) 0 tm).length := by rw [fl_fs_len]; exact (List.getElem?_eq_some_iff.mp ht).1
  refine va_put (D := D) (ci := ci) (v := .int v) (ty := ty) (C := C) (T := T) (N := N) hx hb hts hin ty0 hty hnm hown hE.1 hP ((fl_D hi).weaken (fun _ q _ h => hA0 q.1 h)) hS k he hc j hfi (hts _ hlink) (fun _ h9 => h9) hfin hd hn hfit hl hdg (fun H1 locs1 hP1 _ hS1 => kk H1 locs1 ?_ hS1)
  rw [fl_set (m := m) hk (fun i h => mI_ne i h) rfl, show fl_ent ca ad (mI m k j v) k (0, ci, tm) = .inr (ci, fl_fs ad ((mI m k j v).1 k) 0 tm) by simp [fl_ent], mI_eq]
  have := fl_fs_set (ad := ad) (f := m.1 k) (v := v) tm 0 j ht
  rw [Nat.zero_add] at this
  rw [this]
  exact hP1
end
/-! a constructor that is no private one, and may want more of the state -/
theorem fl_initcP {p : Program} {l : Launch} {e : Env} {R : Room} {s : State} {m : MethodId} {args : Array Value} {below : List Frame} {meth : Method} {c : Code} {cc : ByteArray} {nL : Nat} {own : String} {D : va_G} {ca : Nat → ClassId} {H0 H : Heap} {locs : List Loc} {cells slots pc : Nat} {ls : Array Slot} {rest : List Value} {Q : State → Prop} {A : Nat → Prop} {ws : va_W} {h0 : Nat} {x0 : va_E} {Xp : State → Prop}
    (hx : p.tables.exec = Jvm.exec) (hb : c.code = cc) (hml : c.maxLocals = nL) (hown : s.vm.findClass own = some m.cls) (hts : ∀ w ∈ fl_U, w.before args s = true) (hE : fl_E D ca s) (hXb : ∀ (a : Array Value) (U : State) (g : _) (mk : _), Xp U → Xp (U.calling g mk a)) (hXp : ∀ U : State, U.heap = H → s.WarmedH U.vm → Xp U)
    (hP : va_P D vwCl (ws ++ [(h0, x0)]) H) (hD : va_D A (ws ++ [(h0, x0)])) (hS : va_S A H0 H locs) (hA : ∀ q, H0.size ≤ q → A q) (hsz : ls.size = nL)
    {index n nLc d mc ms : Nat} {y : MethodName} {cd : ByteArray} {av : List Value} {S : Type} {post : S → Prop} {wn : S → va_W}
    (hM : Met l y (Cond.code y cd nLc none :: fl_U) { frames := d, cells := mc, slots := ms, locals := 64 * d } (va_Pc (.ref h0 :: av) (fun U => U.heap.size = H.size ∧ va_P D vwCl [(h0, x0)] U.heap ∧ fl_E D ca U ∧ Xp U)) (va_Qv post (fun q U => va_P D vwCl (wn q) U.heap ∧ va_D (fun a => a = h0 ∨ H.size ≤ a) (wn q)) (fun a => a = h0 ∨ H.size ≤ a)) mc ms (fun a => a = h0 ∨ H.size ≤ a))
    (hm : Cond.methodLink own index y ∈ fl_U ∧ GoodIn fl_U (Cond.code y cd nLc none :: fl_U) ∧ Cond.initialized y.cls ∈ fl_U ∧ Cond.instanceMethod y ∈ fl_U ∧ fl_nn y n) (hname : y.name = "<init>")
    (hfit : d + 1 ≤ R.frames ∧ 8 + (nLc + 11) + 64 * d ≤ R.locals ∧ cells + mc ≤ R.cells ∧ slots + ms ≤ R.slots) (hn : av.length = n) (hroom : (rest.map fun v => v.category).sum ≤ 8) (hdg : decode cc pc = .ok (.invokespecial index, 3)) {st : List Value} (hst : st = av.reverse ++ .ref h0 :: rest)
    (kk : ∀ (q : S) (H1 : Heap) (locs1 : List Loc), post q → H.size ≤ H1.size → (∀ q, q < H.size → ¬ (q = h0 ∨ H.size ≤ q) → H1[q]? = H[q]?) → va_P D vwCl (ws ++ wn q) H1 → va_D A (ws ++ wn q) → va_S A H0 H1 locs1 → W p l e R s m args below meth c H1 locs1 (cells + mc) (slots + ms) Q (F0 m (pc + 3) ls rest)) :
    W p l e R s m args below meth c H locs cells slots Q (F0 m pc ls st) := by
  obtain ⟨hl, hG, hini, hins, hy⟩ := hm
  have hlast : (ws ++ [(h0, x0)])[ws.length]? = some (h0, x0) := by simp
  have hPw : va_P D vwCl ws H := fun k q hk => hP k q (by rw [List.getElem?_append_left (List.getElem?_eq_some_iff.mp hk).1]; exact hk)
  have hP1 : va_P D vwCl [(h0, x0)] H := fun k q hk => by
    have hk1 : k < 1 := (List.getElem?_eq_some_iff.mp hk).1
    rw [show k = 0 by omega] at hk
    cases hk
    exact hP ws.length _ hlast
  have hA0 : A h0 := hD.2 ws.length _ hlast
  have hh0 : h0 < H.size := (hP ws.length _ hlast).lt
  have hAq : ∀ q, (q = h0 ∨ H.size ≤ q) → A q := fun q hq => by
    rcases hq with z | z
    · rw [z]; exact hA0
    · exact hA q (Nat.le_trans hS.1 z)
  have hne : ∀ (k : Nat) (q : Nat × va_E), ws[k]? = some q → q.1 < H.size ∧ q.1 ≠ h0 := fun k q hk => by
    refine ⟨(hPw k q hk).lt, fun z => ?_⟩
    have hkl := (List.getElem?_eq_some_iff.mp hk).1
    have := hD.1 k ws.length q (h0, x0) (by rw [List.getElem?_append_left hkl]; exact hk) hlast z
    omega
  refine va_callv (va_runI (Ts := fl_U) (As := av) (rest := rest) ⟨hx, hb, hml, hown, hts⟩ hM (cwI n hts hG rfl rfl rfl (hts _ hini) (hts _ hl) (hts _ hins) hname hy ⟨hfit.1, hfit.2.1⟩) ⟨fun a U g mk h => ⟨h.1, h.2.1, h.2.2.1, fl_E.same (s := U) (U := U.calling g mk a) rfl h.2.2.2.1, hXb a U g mk h.2.2.2.2⟩, fun U hU hW => ⟨rfl, by rw [hU], by rw [hU]; exact hP1, fl_E.warm hW hE, hXp U hU hW⟩⟩ rfl hn hsz hst (lv_room hroom) hdg ⟨hfit.2.2.1, hfit.2.2.2⟩) hS (fun q _ h => hAq q h) hAq (fun u t H1 locs1 ht hvm hp hB hz hk hS1 => ?_)
  obtain ⟨hP2, hD2⟩ := hB
  rw [ht] at hP2
  refine kk u H1 locs1 hp hz hk ((hPw.kept (fun k q hq => ?_)).app hP2) (va_D.app ⟨fun i j p q hi hj e => ?_, fun k q hq => ?_⟩ (hD2.weaken (fun k q _ h => hAq q.1 h)) (fun i j p q hi hj e => ?_)) hS1
  · obtain ⟨z1, z2⟩ := hne k q hq
    exact hk q.1 z1 (fun z => by rcases z with z | z <;> omega)
  · exact hD.1 i j p q (by rw [List.getElem?_append_left (List.getElem?_eq_some_iff.mp hi).1]; exact hi) (by rw [List.getElem?_append_left (List.getElem?_eq_some_iff.mp hj).1]; exact hj) e
  · exact hD.2 k q (by rw [List.getElem?_append_left (List.getElem?_eq_some_iff.mp hq).1]; exact hq)
  · obtain ⟨z1, z2⟩ := hne i p hi
    rcases hD2.2 j q hj with z | z
    · exact z2 (e.trans z)
    · rw [e] at z1; omega
/-! the cells in the order in which they are made -/
theorem ls8 {α : Type} (l : List α) (h : l.length = 8) : ∃ a b c d e f g i, l = [a, b, c, d, e, f, g, i] := match l, h with
  | [a, b, c, d, e, f, g, i], _ => ⟨a, b, c, d, e, f, g, i, rfl⟩
theorem ls2 {α : Type} (l : List α) (h : l.length = 2) : ∃ a b, l = [a, b] := match l, h with
  | [a, b], _ => ⟨a, b, rfl⟩
theorem ls5 {α : Type} (l : List α) (h : l.length = 5) : ∃ a b c d e, l = [a, b, c, d, e] := match l, h with
  | [a, b, c, d, e], _ => ⟨a, b, c, d, e, rfl⟩
theorem va_cong {cA : ClassId} {n : Nat} {f g : Nat → Option Nat} (h : ∀ j, j < n → f j = g j) : vp_cell cA (n, .inr (.inr (.inr (.inr f)))) = vp_cell cA (n, .inr (.inr (.inr (.inr g)))) := by
  show arrV cA n (fun j => va_rf (f j)) = arrV cA n (fun j => va_rf (g j))
  unfold arrV
  have e : (Array.ofFn (n := n) fun j => va_rf (f j.val)) = Array.ofFn (n := n) fun j => va_rf (g j.val) := by
    congr 1
    funext j
    rw [h j.val j.isLt]
  rw [e]
def allE (P : Nat → Kd → Prop) : Nat → List Kd → Prop
  | _, [] => True
  | k, kd :: l => P k kd ∧ allE P (k + 1) l
theorem allE_at {P : Nat → Kd → Prop} : ∀ (l : List Kd) (k : Nat), allE P k l → ∀ (i : Nat) (kd : Kd), l[i]? = some kd → P (k + i) kd
  | [], _, _, i, kd, h => by simp at h
  | kd0 :: l, k, ⟨h0, h1⟩, 0, kd, h => by
    simp at h
    subst h
    exact h0
  | kd0 :: l, k, ⟨h0, h1⟩, i + 1, kd, h => by
    rw [show k + (i + 1) = (k + 1) + i by omega]
    exact allE_at l (k + 1) h1 i kd (by simpa using h)
theorem fl_wk2 {L : List Kd} {ca : Nat → ClassId} {ad : Nat → Nat} {m : Mem} {k : Nat} {q : Nat × va_E} (hq : (fl_w L ca ad m)[k]? = some q) : ∃ kd, L[k]? = some kd ∧ q = (ad k, fl_ent ca ad m k kd) := by
  simp only [fl_w, List.getElem?_mapIdx] at hq
  cases hL : L[k]? with
  | none => rw [hL] at hq; cases hq
  | some kd =>
    rw [hL] at hq
    cases hq
    exact ⟨kd, rfl, rfl⟩
def wn_X3 (ca : Nat → ClassId) (h0 : Nat) (q : Nat × Nat × Nat) : va_W := [(h0, .inr (3, [.ref q.1, .ref q.2.1, .ref q.2.2, .int 0])), (q.1, .inl (ca 1, 6, .inl (fun _ => 0))), (q.2.1, .inl (ca 1, 6, .inl (fun _ => 0))), (q.2.2, .inl (ca 1, 6, .inl (fun _ => 0)))]
