/-! ===== what a constructor does: new arrays of the known kinds, over any world ===== -/
section
variable {p : Program} {l : Launch} {e : Env} {R : Room} {s : State} {m : MethodId} {args : Array Value} {below : List Frame} {meth : Method} {c : Code} {cc : ByteArray} {D : va_G} {ca : Nat → ClassId} {H0 H : Heap} {locs : List Loc} {cells slots pc : Nat} {ls : Array Slot} {rest : List Value} {Q : State → Prop} {A : Nat → Prop} {ws : va_W}
theorem fl_newi (hx : p.tables.exec = Jvm.exec) (hb : c.code = cc) (hE : fl_E D ca s) (harr : (Cond.arrayClass .int).before args s = true) (hP : va_P D vwCl ws H) (hD : va_D A ws) (hS : va_S A H0 H locs) (hA : ∀ q, H0.size ≤ q → A q)
    {n : Int32} {N' : Nat} (hn : ¬ n < 0) (hN : n.toNatClampNeg = N') (hbytes : N' * componentBytes .int ≤ 536870912) (hcells : cells + 1 ≤ R.cells) (hslots : slots + N' ≤ R.slots) (hdg : decode cc pc = .ok (.newarray .int, 2))
    (kk : ∀ (q : Nat) (H1 : Heap), va_P D vwCl (ws ++ [(q, .inl (ca 1, N', .inl (fun _ => 0)))]) H1 → va_D A (ws ++ [(q, .inl (ca 1, N', .inl (fun _ => 0)))]) → va_S A H0 H1 locs →
      W p l e R s m args below meth c H1 locs (cells + 1) (slots + N') Q (F0 m (pc + 2) ls (.ref q :: rest))) : W p l e R s m args below meth c H locs cells slots Q (F0 m pc ls (.int n :: rest)) := by
  refine va_newa (atype := .int) (ty := .int) (tys := fl_tys ca) (a0 := (N', .inl (fun _ => 0))) hx hb harr rfl hE.1 hP hD hS hA (fun _ => rfl) hn hN hbytes hcells hslots hdg (fun q cA H1 hK hP1 hD1 hS1 => ?_)
  have h1 : va_RA s cA .int := (hK.2 4 (cA, .int) rfl).2
  have h2 : va_RA s (ca 1) .int := (hK.2 0 (ca 1, .int) rfl).2
  have e1 : cA = ca 1 := by
    have h1 : s.vm.findClass ("[" ++ FieldType.int.toString) = some cA := h1
    have h2 : s.vm.findClass ("[" ++ FieldType.int.toString) = some (ca 1) := h2
    rw [h1] at h2
    injection h2
  subst e1
  exact kk q H1 hP1 hD1 hS1
theorem fl_newc (hx : p.tables.exec = Jvm.exec) (hb : c.code = cc) (hE : fl_E D ca s) (harr : (Cond.arrayClass .char).before args s = true) (hP : va_P D vwCl ws H) (hD : va_D A ws) (hS : va_S A H0 H locs) (hA : ∀ q, H0.size ≤ q → A q)
    {n : Int32} {N' : Nat} (hn : ¬ n < 0) (hN : n.toNatClampNeg = N') (hbytes : N' * componentBytes .char ≤ 536870912) (hcells : cells + 1 ≤ R.cells) (hslots : slots + N' ≤ R.slots) (hdg : decode cc pc = .ok (.newarray .char, 2))
    (kk : ∀ (q : Nat) (H1 : Heap), va_P D vwCl (ws ++ [(q, .inl (ca 2, N', .inl (fun _ => 0)))]) H1 → va_D A (ws ++ [(q, .inl (ca 2, N', .inl (fun _ => 0)))]) → va_S A H0 H1 locs →
      W p l e R s m args below meth c H1 locs (cells + 1) (slots + N') Q (F0 m (pc + 2) ls (.ref q :: rest))) : W p l e R s m args below meth c H locs cells slots Q (F0 m pc ls (.int n :: rest)) := by
  refine va_newa (atype := .char) (ty := .char) (tys := fl_tys ca) (a0 := (N', .inl (fun _ => 0))) hx hb harr rfl hE.1 hP hD hS hA (fun _ => rfl) hn hN hbytes hcells hslots hdg (fun q cA H1 hK hP1 hD1 hS1 => ?_)
  have h1 : va_RA s cA .char := (hK.2 4 (cA, .char) rfl).2
  have h2 : va_RA s (ca 2) .char := (hK.2 1 (ca 2, .char) rfl).2
  have e1 : cA = ca 2 := by
    have h1 : s.vm.findClass ("[" ++ FieldType.char.toString) = some cA := h1
    have h2 : s.vm.findClass ("[" ++ FieldType.char.toString) = some (ca 2) := h2
    rw [h1] at h2
    injection h2
  subst e1
  exact kk q H1 hP1 hD1 hS1
theorem fl_newl (hx : p.tables.exec = Jvm.exec) (hb : c.code = cc) (hE : fl_E D ca s) (harr : (Cond.arrayClass .long).before args s = true) (hP : va_P D vwCl ws H) (hD : va_D A ws) (hS : va_S A H0 H locs) (hA : ∀ q, H0.size ≤ q → A q)
    {n : Int32} {N' : Nat} (hn : ¬ n < 0) (hN : n.toNatClampNeg = N') (hbytes : N' * componentBytes .long ≤ 536870912) (hcells : cells + 1 ≤ R.cells) (hslots : slots + N' ≤ R.slots) (hdg : decode cc pc = .ok (.newarray .long, 2))
    (kk : ∀ (q : Nat) (H1 : Heap), va_P D vwCl (ws ++ [(q, .inl (ca 3, N', .inr (.inl (fun _ => 0))))]) H1 → va_D A (ws ++ [(q, .inl (ca 3, N', .inr (.inl (fun _ => 0))))]) → va_S A H0 H1 locs →
      W p l e R s m args below meth c H1 locs (cells + 1) (slots + N') Q (F0 m (pc + 2) ls (.ref q :: rest))) : W p l e R s m args below meth c H locs cells slots Q (F0 m pc ls (.int n :: rest)) := by
  refine va_newa (atype := .long) (ty := .long) (tys := fl_tys ca) (a0 := (N', .inr (.inl (fun _ => 0)))) hx hb harr rfl hE.1 hP hD hS hA (fun _ => rfl) hn hN hbytes hcells hslots hdg (fun q cA H1 hK hP1 hD1 hS1 => ?_)
  have h1 : va_RA s cA .long := (hK.2 4 (cA, .long) rfl).2
  have h2 : va_RA s (ca 3) .long := (hK.2 2 (ca 3, .long) rfl).2
  have e1 : cA = ca 3 := by
    have h1 : s.vm.findClass ("[" ++ FieldType.long.toString) = some cA := h1
    have h2 : s.vm.findClass ("[" ++ FieldType.long.toString) = some (ca 3) := h2
    rw [h1] at h2
    injection h2
  subst e1
  exact kk q H1 hP1 hD1 hS1
end
