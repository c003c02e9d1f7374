/-! ===== the same, for a constructor that makes an array of Stands ===== -/
theorem fl_initcA {p : Program} {l : Launch} {e : Env} {R : Room} {s : State} {m : MethodId} {args : Array Value} {below : List Frame} {meth : Method} {c : Code} {cc : ByteArray} {nL : Nat} {own : String} {D : va_G} {ca : Nat → ClassId} {H0 H : Heap} {locs : List Loc} {cells slots pc : Nat} {ls : Array Slot} {rest : List Value} {Q : State → Prop} {A : Nat → Prop} {ws : va_W} {h0 : Nat} {x0 : va_E}
    (hx : p.tables.exec = Jvm.exec) (hb : c.code = cc) (hml : c.maxLocals = nL) (hown : s.vm.findClass own = some m.cls) (hts : ∀ w ∈ fl_U, w.before args s = true) (hE : fl_E D ca s) (hO : va_AO RX5 s)
    (hP : va_P D vwCl (ws ++ [(h0, x0)]) H) (hD : va_D A (ws ++ [(h0, x0)])) (hS : va_S A H0 H locs) (hA : ∀ q, H0.size ≤ q → A q) (hsz : ls.size = nL)
    {index n nLc d mc ms : Nat} {y : MethodName} {host : String} {cd : ByteArray} {av : List Value} {S : Type} {post : S → Prop} {wn : S → va_W}
    (hM : Met l y (Cond.code y cd nLc none :: fl_U) { frames := d, cells := mc, slots := ms, locals := 64 * d } (va_Pc (.ref h0 :: av) (fun U => U.heap.size = H.size ∧ va_P D vwCl [(h0, x0)] U.heap ∧ fl_E D ca U ∧ va_AO RX5 U)) (va_Qv post (fun q U => va_P D vwCl (wn q) U.heap ∧ va_D (fun a => a = h0 ∨ H.size ≤ a) (wn q)) (fun a => a = h0 ∨ H.size ≤ a)) mc ms (fun a => a = h0 ∨ H.size ≤ a))
    (hm : Cond.methodLinkNest own index y host ∈ fl_nest ∧ GoodIn fl_U (Cond.code y cd nLc none :: fl_U) ∧ Cond.initialized y.cls ∈ fl_U ∧ Cond.instanceMethod y ∈ fl_U ∧ fl_nn y n) (hname : y.name = "<init>")
    (hfit : d + 1 ≤ R.frames ∧ 8 + (nLc + 11) + 64 * d ≤ R.locals ∧ cells + mc ≤ R.cells ∧ slots + ms ≤ R.slots) (hn : av.length = n) (hroom : (rest.map fun v => v.category).sum ≤ 8) (hdg : decode cc pc = .ok (.invokespecial index, 3)) {st : List Value} (hst : st = av.reverse ++ .ref h0 :: rest)
    (kk : ∀ (q : S) (H1 : Heap) (locs1 : List Loc), post q → va_P D vwCl (ws ++ wn q) H1 → va_D A (ws ++ wn q) → va_S A H0 H1 locs1 → W p l e R s m args below meth c H1 locs1 (cells + mc) (slots + ms) Q (F0 m (pc + 3) ls rest)) :
    W p l e R s m args below meth c H locs cells slots Q (F0 m pc ls st) := by
  obtain ⟨hl, hG, hini, hins, hy⟩ := hm
  have hlast : (ws ++ [(h0, x0)])[ws.length]? = some (h0, x0) := by simp
  have hPw : va_P D vwCl ws H := fun k q hk => hP k q (by rw [List.getElem?_append_left (List.getElem?_eq_some_iff.mp hk).1]; exact hk)
  have hP1 : va_P D vwCl [(h0, x0)] H := fun k q hk => by
    have hk1 : k < 1 := (List.getElem?_eq_some_iff.mp hk).1
    rw [show k = 0 by omega] at hk
    cases hk
    exact hP ws.length _ hlast
  have hA0 : A h0 := hD.2 ws.length _ hlast
  have hh0 : h0 < H.size := (hP ws.length _ hlast).lt
  have hAq : ∀ q, (q = h0 ∨ H.size ≤ q) → A q := fun q hq => by
    rcases hq with z | z
    · rw [z]; exact hA0
    · exact hA q (Nat.le_trans hS.1 z)
  have hne : ∀ (k : Nat) (q : Nat × va_E), ws[k]? = some q → q.1 < H.size ∧ q.1 ≠ h0 := fun k q hk => by
    refine ⟨(hPw k q hk).lt, fun z => ?_⟩
    have hkl := (List.getElem?_eq_some_iff.mp hk).1
    have := hD.1 k ws.length q (h0, x0) (by rw [List.getElem?_append_left hkl]; exact hk) hlast z
    omega
  refine va_callv (va_runIN (Ts := fl_U) (As := av) (rest := rest) ⟨hx, hb, hml, hown, hts⟩ hM ⟨va_cnB n hts hG rfl rfl rfl (hE.2 _ hl) (hts _ hini) hy ⟨hfit.1, hfit.2.1⟩, hname, hts _ hins⟩ ⟨fun a U g mk h => ⟨h.1, h.2.1, h.2.2.1, fl_E.same (s := U) (U := U.calling g mk a) rfl h.2.2.2.1, va_AO.moved (u := U) (U := U.calling g mk a) (Vm.Alike.refl U.vm) h.2.2.2.2⟩, fun U hU hW => ⟨rfl, by rw [hU], by rw [hU]; exact hP1, fl_E.warm hW hE, va_AO.moved hW.alike hO⟩⟩ rfl hn hsz hst (lv_room hroom) hdg ⟨hfit.2.2.1, hfit.2.2.2⟩) hS (fun q _ h => hAq q h) hAq (fun u t H1 locs1 ht hvm hp hB hz hk hS1 => ?_)
  obtain ⟨hP2, hD2⟩ := hB
  rw [ht] at hP2
  refine kk u H1 locs1 hp ((hPw.kept (fun k q hq => ?_)).app hP2) (va_D.app ⟨fun i j p q hi hj e => ?_, fun k q hq => ?_⟩ (hD2.weaken (fun k q _ h => hAq q.1 h)) (fun i j p q hi hj e => ?_)) hS1
  · obtain ⟨z1, z2⟩ := hne k q hq
    exact hk q.1 z1 (fun z => by rcases z with z | z <;> omega)
  · exact hD.1 i j p q (by rw [List.getElem?_append_left (List.getElem?_eq_some_iff.mp hi).1]; exact hi) (by rw [List.getElem?_append_left (List.getElem?_eq_some_iff.mp hj).1]; exact hj) e
  · exact hD.2 k q (by rw [List.getElem?_append_left (List.getElem?_eq_some_iff.mp hq).1]; exact hq)
  · obtain ⟨z1, z2⟩ := hne i p hi
    rcases hD2.2 j q hj with z | z
    · exact z2 (e.trans z)
    · rw [e] at z1; omega
section
variable {p : Program} {l : Launch} {e : Env} {R : Room} {s : State} {m : MethodId} {args : Array Value} {below : List Frame} {meth : Method} {c : Code} {cc : ByteArray} {D : va_G} {ca : Nat → ClassId} {H0 H : Heap} {locs : List Loc} {cells slots pc : Nat} {ls : Array Slot} {rest : List Value} {Q : State → Prop} {A : Nat → Prop} {ws : va_W}
theorem fl_newq (hx : p.tables.exec = Jvm.exec) (hb : c.code = cc) {own : String} {index : Nat} (hown : s.vm.findClass own = some m.cls) (hclink : (Cond.classLink own index RX5).before args s = true) (hO : va_AO RX5 s) (hE : fl_E D ca s) (hP : va_P D vwCl ws H) (hD : va_D A ws) (hS : va_S A H0 H locs) (hA : ∀ q, H0.size ≤ q → A q)
    {n : Int32} {N' : Nat} (hn : ¬ n < 0) (hN : n.toNatClampNeg = N') (hbytes : N' * 4 ≤ 536870912) (hcells : cells + 1 ≤ R.cells) (hslots : slots + N' ≤ R.slots) (hdg : decode cc pc = .ok (.anewarray index, 3))
    (kk : ∀ (q : Nat) (H1 : Heap), va_P D vwCl (ws ++ [(q, .inl (ca 4, N', .inr (.inr (.inr (.inr (fun _ => none))))))]) H1 → va_D A (ws ++ [(q, .inl (ca 4, N', .inr (.inr (.inr (.inr (fun _ => none))))))]) → va_S A H0 H1 locs →
      W p l e R s m args below meth c H1 locs (cells + 1) (slots + N') Q (F0 m (pc + 3) ls (.ref q :: rest))) : W p l e R s m args below meth c H locs cells slots Q (F0 m pc ls (.int n :: rest)) := by
  refine va_newq (C := RX5) (tys := fl_tys ca) hx hb hown hclink hO hE.1 hP hD hS hA hn hN hbytes hcells hslots hdg (fun q cA H1 hK hP1 hD1 hS1 => ?_)
  obtain ⟨k1, c1, a1, a2, a3, a4⟩ : va_RA s cA (.object RX5) := (hK.2 4 (cA, .object RX5) rfl).2
  obtain ⟨k2, c2, b1, b2, b3, b4⟩ : va_RA s (ca 4) (.object RX5) := (hK.2 3 (ca 4, .object RX5) rfl).2
  have e1 : cA = ca 4 := by
    rw [a4] at b4
    injection b4
  subst e1
  exact kk q H1 hP1 hD1 hS1
end
