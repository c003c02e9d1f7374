/-! ===== the pure side: what an answer is, numbers, the city's arithmetic ===== -/
def Ok {α : Type} (o : Option (α × Mem)) (Q : α → Mem → Prop) : Prop := ∃ r m', o = some (r, m') ∧ Q r m'
theorem ok_ret {α : Type} {Q : α → Mem → Prop} {r : α} {m : Mem} (h : Q r m) : Ok (some (r, m)) Q := ⟨r, m, rfl, h⟩
theorem ok_ck {α : Type} {Q : α → Mem → Prop} {c : Prop} [Decidable c] {o : Option (α × Mem)} (h : c) (k : Ok o Q) : Ok (fl_ck c o) Q := by rw [fl_ck_t h]; exact k
theorem ok_if {α : Type} {Q : α → Mem → Prop} {c : Prop} [Decidable c] {A B : Option (α × Mem)} (h1 : c → Ok A Q) (h2 : ¬ c → Ok B Q) : Ok (if c then A else B) Q := by
  by_cases h : c
  · rw [if_pos h]; exact h1 h
  · rw [if_neg h]; exact h2 h
theorem ok_t {α : Type} {Q : α → Mem → Prop} {c : Prop} [Decidable c] {A B : Option (α × Mem)} (h : c) (k : Ok A Q) : Ok (if c then A else B) Q := by rw [if_pos h]; exact k
theorem ok_f {α : Type} {Q : α → Mem → Prop} {c : Prop} [Decidable c] {A B : Option (α × Mem)} (h : ¬ c) (k : Ok B Q) : Ok (if c then A else B) Q := by rw [if_neg h]; exact k
theorem ok_bd {α β : Type} {P : α → Mem → Prop} {Q : β → Mem → Prop} {o : Option (α × Mem)} {f : α → Mem → Option (β × Mem)} (h : Ok o P) (k : ∀ r m1, P r m1 → Ok (f r m1) Q) : Ok (fl_bd o f) Q := by
  obtain ⟨r, m1, rfl, hp⟩ := h
  exact k r m1 hp
theorem ok_eq {α β : Type} {Q : β → Mem → Prop} {o : Option (α × Mem)} {f : α → Mem → Option (β × Mem)} {r : α} {m1 : Mem} (h : o = some (r, m1)) (k : Ok (f r m1) Q) : Ok (fl_bd o f) Q := by
  rw [h]; exact k
theorem ok_lm {α : Type} {Q : α → Mem → Prop} {a : Mem} {f : Mem → Option (α × Mem)} (k : ∀ b, b = a → Ok (f b) Q) : Ok (fl_lm a f) Q := k a rfl
theorem ok_li {α : Type} {Q : α → Mem → Prop} {a : Int32} {f : Int32 → Option (α × Mem)} (k : ∀ b, b = a → Ok (f b) Q) : Ok (fl_li a f) Q := k a rfl
theorem ok_ll {α : Type} {Q : α → Mem → Prop} {a : Int64} {f : Int64 → Option (α × Mem)} (k : ∀ b, b = a → Ok (f b) Q) : Ok (fl_ll a f) Q := k a rfl
theorem ok_mono {α : Type} {P Q : α → Mem → Prop} {o : Option (α × Mem)} (h : Ok o P) (k : ∀ r m, P r m → Q r m) : Ok o Q := by
  obtain ⟨r, m, e, hp⟩ := h
  exact ⟨r, m, e, k r m hp⟩
theorem ok_x {α : Type} {P : α → Mem → Prop} {o o' : Option (α × Mem)} (e : o = o') (h : Ok o' P) : Ok o P := e ▸ h
/-! memory -/
def eqOff (m m' : Mem) (S : Nat → Prop) : Prop := m'.2 = m.2 ∧ ∀ k, ¬ S k → m'.1 k = m.1 k
theorem eqOff.rf {m : Mem} {S : Nat → Prop} : eqOff m m S := ⟨rfl, fun _ _ => rfl⟩
theorem eqOff.tr {m m1 m2 : Mem} {S : Nat → Prop} (h : eqOff m m1 S) (h2 : eqOff m1 m2 S) : eqOff m m2 S := ⟨h2.1.trans h.1, fun k hk => (h2.2 k hk).trans (h.2 k hk)⟩
theorem eqOff.wk {m m1 : Mem} {S T : Nat → Prop} (h : eqOff m m1 S) (hS : ∀ k, S k → T k) : eqOff m m1 T := ⟨h.1, fun k hk => h.2 k (fun q => hk (hS k q))⟩
theorem eqOff.mI {m : Mem} {S : Nat → Prop} {k j : Nat} {v : Int32} (h : S k) : eqOff m (mI m k j v) S := ⟨rfl, fun i hi => mI_ne i (fun e => hi (e ▸ h))⟩
theorem eqOff.mC {m : Mem} {S : Nat → Prop} {k k2 sp dp n : Nat} (h : S k2) : eqOff m (mC m k k2 sp dp n) S := ⟨rfl, fun i hi => mC_ne i (fun e => hi (e ▸ h))⟩
theorem mI_g (m : Mem) (k j : Nat) (v : Int32) (a b : Nat) : (mI m k j v).1 a b = if a = k then (if b = j then v else m.1 k b) else m.1 a b := by
  by_cases h : a = k
  · subst h; rw [mI_eq, if_pos rfl]; rfl
  · rw [mI_ne a h, if_neg h]
theorem mI_s {m : Mem} {k j : Nat} {v : Int32} : (mI m k j v).1 k j = v := by rw [mI_g, if_pos rfl, if_pos rfl]
theorem mI_j {m : Mem} {k j b : Nat} {v : Int32} (h : b ≠ j) : (mI m k j v).1 k b = m.1 k b := by rw [mI_g, if_pos rfl, if_neg h]
theorem mI_2 {m : Mem} {k j : Nat} {v : Int32} : (mI m k j v).2 = m.2 := rfl
theorem upd_s {f : Nat → Int32} {k : Nat} {x : Int32} : upd f k x k = x := if_pos rfl
theorem upd_n {f : Nat → Int32} {k j : Nat} {x : Int32} (h : j ≠ k) : upd f k x j = f j := if_neg h
/-! numbers -/
theorem i_rng (x : Int32) : -2147483648 ≤ x.toInt ∧ x.toInt < 2147483648 := by
  have h1 := Int32.le_toInt x
  have h2 := Int32.toInt_lt x
  omega
theorem i_bmod {z : Int} (h1 : -2147483648 ≤ z) (h2 : z < 2147483648) : z.bmod (2 ^ 32) = z := by
  rw [Int.bmod_eq_of_le (by omega) (by omega)]
theorem i_add {x y : Int32} (h1 : -2147483648 ≤ x.toInt + y.toInt) (h2 : x.toInt + y.toInt < 2147483648) : (x + y).toInt = x.toInt + y.toInt := by
  rw [Int32.toInt_add, i_bmod h1 h2]
theorem i_sub {x y : Int32} (h1 : -2147483648 ≤ x.toInt - y.toInt) (h2 : x.toInt - y.toInt < 2147483648) : (x - y).toInt = x.toInt - y.toInt := by
  rw [Int32.toInt_sub, i_bmod h1 h2]
theorem i_mul {x y : Int32} (h1 : -2147483648 ≤ x.toInt * y.toInt) (h2 : x.toInt * y.toInt < 2147483648) : (x * y).toInt = x.toInt * y.toInt := by
  rw [Int32.toInt_mul, i_bmod h1 h2]
theorem i_lt (a b : Int32) : a < b ↔ a.toInt < b.toInt := Int32.lt_iff_toInt_lt
theorem i_le (a b : Int32) : a ≤ b ↔ a.toInt ≤ b.toInt := Int32.le_iff_toInt_le
theorem i_eq (a b : Int32) : a = b ↔ a.toInt = b.toInt := Int32.toInt_inj.symm
theorem i_nat {x : Int32} (h : 0 ≤ x.toInt) : x = nI x.toInt.toNat := by
  have h2 := i_rng x
  rw [i_eq, nI_toInt (by omega)]
  omega
theorem i_cl {x : Int32} : x.toNatClampNeg = x.toInt.toNat := rfl
theorem i_of {x : Int32} {n : Nat} (h0 : 0 ≤ x.toInt) (h : x.toInt < n) : ∃ j, j < n ∧ x = nI j := ⟨x.toInt.toNat, by omega, i_nat h0⟩
theorem i_ck {j n : Nat} (h : j < n) (hn : n < 2147483648) : 0 ≤ (nI j).toInt ∧ (nI j).toInt < n := by
  rw [nI_toInt (by omega)]; omega
theorem i_c {j : Nat} (h : j < 2147483648) : (nI j).toNatClampNeg = j := nI_clamp h
theorem i_max (a b : Int32) : (fl_max a b).toInt = max a.toInt b.toInt := by
  unfold fl_max
  by_cases h : a < b
  · rw [if_pos h]; rw [i_lt] at h; omega
  · rw [if_neg h]; rw [i_lt] at h; omega
theorem i_min (a b : Int32) : (fl_min a b).toInt = min a.toInt b.toInt := by
  unfold fl_min
  by_cases h : b < a
  · rw [if_pos h]; rw [i_lt] at h; omega
  · rw [if_neg h]; rw [i_lt] at h; omega
theorem fl_max_alt (a b : Int32) : (if a ≤ b then b else a) = fl_max a b := by
  unfold fl_max
  by_cases h : a < b
  · rw [if_pos h, if_pos (by rw [i_le]; rw [i_lt] at h; omega)]
  · rw [if_neg h]
    by_cases h2 : a ≤ b
    · rw [if_pos h2, i_eq]; rw [i_lt] at h; rw [i_le] at h2; omega
    · rw [if_neg h2]
def b2i (b : Bool) : Int32 := if b then 1 else 0
theorem b2i_01 (b : Bool) : b2i b = 0 ∨ b2i b = 1 := by cases b <;> simp [b2i]
theorem b2i_t : b2i true = 1 := rfl
theorem b2i_f : b2i false = 0 := rfl
theorem b2i_z (b : Bool) : b2i b = 0 ↔ b = false := by cases b <;> simp [b2i]
/-! steps between places -/
def dist (w a b : Int32) : Int32 := fl_abs (a / w - b / w) + fl_abs (fl_rem a w - fl_rem b w)
theorem dist_tab : ∀ w, w < 6 → ∀ a, a < 36 → ∀ b, b < 36 → (0 ≤ (dist (nI (w + 1)) (nI a) (nI b)).toInt ∧ (dist (nI (w + 1)) (nI a) (nI b)).toInt ≤ 40) ∧ dist (nI (w + 1)) (nI a) (nI b) = dist (nI (w + 1)) (nI b) (nI a) := by decide +kernel
def pl (x : Int32) : Prop := 0 ≤ x.toInt ∧ x.toInt < 36
def wdt (w : Int32) : Prop := 1 ≤ w.toInt ∧ w.toInt ≤ 6
theorem dist_all {w a b : Int32} (hw : wdt w) (ha : pl a) (hb : pl b) : (0 ≤ (dist w a b).toInt ∧ (dist w a b).toInt ≤ 40) ∧ dist w a b = dist w b a := by
  obtain ⟨ha1, ha2⟩ := ha
  obtain ⟨hb1, hb2⟩ := hb
  obtain ⟨hw1, hw2⟩ := hw
  have h := dist_tab (w.toInt.toNat - 1) (by omega) a.toInt.toNat (by omega) b.toInt.toNat (by omega)
  rw [show w.toInt.toNat - 1 + 1 = w.toInt.toNat by omega, ← i_nat (by omega), ← i_nat ha1, ← i_nat hb1] at h
  exact h
/-! one ride -/
def nowh (x : Int32) : Prop := x = -4 ∨ pl x
def g_by (w kind wept frm : Int32) : Bool := !(decide (wept = -4)) && !(decide (kind = 2) && decide (3 < dist w frm wept))
def g_way (w kind wept frm to : Int32) : Int32 := if g_by w kind wept frm = true then dist w frm wept + (if kind = 1 then 3 else 1) + dist w wept to else dist w frm to
def g_free (w now fr since place frm to kind wept : Int32) : Int32 := fl_max (fl_max now fr) since + dist w place frm + g_way w kind wept frm to
def g_weeps (fk late bears : Int32) : Bool := decide (fk = 1) || (decide (fk = 0) && decide (bears < late))
theorem g_way_b {w kind wept frm to : Int32} (hw : wdt w) (hf : pl frm) (ht : pl to) (hx : nowh wept) : 0 ≤ (g_way w kind wept frm to).toInt ∧ (g_way w kind wept frm to).toInt ≤ 83 := by
  unfold g_way
  by_cases h : g_by w kind wept frm = true
  · rw [if_pos h]
    have hp : pl wept := by
      rcases hx with h1 | h1
      · subst h1; simp [g_by] at h
      · exact h1
    have h1 := (dist_all hw hf hp).1
    have h2 := (dist_all hw hp ht).1
    have hs : (if kind = 1 then (3 : Int32) else 1).toInt = 3 ∨ (if kind = 1 then (3 : Int32) else 1).toInt = 1 := by
      by_cases hk : kind = 1
      · rw [if_pos hk]; exact Or.inl rfl
      · rw [if_neg hk]; exact Or.inr rfl
    have e1 := i_add (x := dist w frm wept) (y := if kind = 1 then (3 : Int32) else 1) (by omega) (by omega)
    have e2 := i_add (x := dist w frm wept + if kind = 1 then (3 : Int32) else 1) (y := dist w wept to) (by omega) (by omega)
    omega
  · rw [if_neg h]
    have := (dist_all hw hf ht).1
    omega
theorem g_free_b {w now fr since place frm to kind wept : Int32} {B : Int} (hB : 99 ≤ B ∧ B ≤ 1000000) (hw : wdt w) (hn : 0 ≤ now.toInt ∧ now.toInt ≤ B) (hr : 0 ≤ fr.toInt ∧ fr.toInt ≤ B) (hs : 0 ≤ since.toInt ∧ since.toInt ≤ 99) (hp : pl place) (hf : pl frm) (ht : pl to) (hx : nowh wept) :
    (since.toInt ≤ (g_free w now fr since place frm to kind wept).toInt ∧ (g_free w now fr since place frm to kind wept).toInt ≤ B + 123) ∧ (g_free w now fr since place frm to kind wept - since).toInt = (g_free w now fr since place frm to kind wept).toInt - since.toInt := by
  have h1 := (dist_all hw hp hf).1
  have h2 := g_way_b (kind := kind) hw hf ht hx
  have h3 := i_max (fl_max now fr) since
  have h4 := i_max now fr
  have e1 := i_add (x := fl_max (fl_max now fr) since) (y := dist w place frm) (by omega) (by omega)
  have e2 := i_add (x := fl_max (fl_max now fr) since + dist w place frm) (y := g_way w kind wept frm to) (by omega) (by omega)
  have e3 := i_sub (x := g_free w now fr since place frm to kind wept) (y := since) (by unfold g_free; omega) (by unfold g_free; omega)
  refine ⟨⟨?_, ?_⟩, e3⟩ <;> unfold g_free <;> omega
/-! a city, and how things stand, as numbers and rows of numbers -/
abbrev Cf : Type := Int32 × Nat × Nat × (Nat → Int32) × (Nat → Int32) × (Nat → Int32) × (Nat → Int32) × (Nat → Int32) × (Nat → Int32)
abbrev Ps : Type := Int32 × (Nat → Int32) × (Nat → Int32) × (Nat → Int32)
def cW (C : Cf) : Int32 := C.1
def cN (C : Cf) : Nat := C.2.1
def cM (C : Cf) : Nat := C.2.2.1
def cK (C : Cf) : Nat → Int32 := C.2.2.2.1
def qK (C : Cf) : Nat → Int32 := C.2.2.2.2.1
def qF (C : Cf) : Nat → Int32 := C.2.2.2.2.2.1
def qT (C : Cf) : Nat → Int32 := C.2.2.2.2.2.2.1
def qS (C : Cf) : Nat → Int32 := C.2.2.2.2.2.2.2.1
def qB (C : Cf) : Nat → Int32 := C.2.2.2.2.2.2.2.2
def okC (C : Cf) : Prop := wdt (cW C) ∧ (1 ≤ cN C ∧ cN C ≤ 3) ∧ (1 ≤ cM C ∧ cM C ≤ 7) ∧ ∀ f, f < cM C → pl (qF C f) ∧ pl (qT C f) ∧ (0 ≤ (qS C f).toInt ∧ (qS C f).toInt ≤ 99) ∧ (0 ≤ (qB C f).toInt ∧ (qB C f).toInt ≤ 60)
def okP (C : Cf) (P : Ps) (B : Int) : Prop := (0 ≤ P.1.toInt ∧ P.1.toInt ≤ B) ∧ ∀ c, c < cN C → pl (P.2.1 c) ∧ (0 ≤ (P.2.2.1 c).toInt ∧ (P.2.2.1 c).toInt ≤ B) ∧ nowh (P.2.2.2 c)
def a_by (C : Cf) (P : Ps) (c f : Nat) : Bool := g_by (cW C) (cK C c) (P.2.2.2 c) (qF C f)
def a_free (C : Cf) (P : Ps) (c f : Nat) : Int32 := g_free (cW C) P.1 (P.2.2.1 c) (qS C f) (P.2.1 c) (qF C f) (qT C f) (cK C c) (P.2.2.2 c)
def a_late (C : Cf) (P : Ps) (c f : Nat) : Int32 := a_free C P c f - qS C f
def a_weeps (C : Cf) (P : Ps) (c f : Nat) : Bool := g_weeps (qK C f) (a_late C P c f) (qB C f)
def a_ride (C : Cf) (P : Ps) (c f : Nat) (t : Bool) : Ps :=
  (P.1, upd P.2.1 c (qT C f), upd P.2.2.1 c (a_free C P c f), upd P.2.2.2 c (if qK C f = 3 ∧ a_by C P c f = true then -4 else if t = true then qT C f else P.2.2.2 c))
def a_drive (C : Cf) (P : Ps) (c f : Nat) : Ps := a_ride C P c f (a_weeps C P c f)
def a_nr (C : Cf) (P : Ps) (f : Nat) : Nat → Nat
  | 0 => 0
  | k + 1 => if a_late C P (k + 1) f < a_late C P (a_nr C P f k) f then k + 1 else a_nr C P f k
def a_near (C : Cf) (P : Ps) (f : Nat) : Nat := a_nr C P f (cN C - 1)
theorem a_nr_le (C : Cf) (P : Ps) (f : Nat) : ∀ k, a_nr C P f k ≤ k
  | 0 => Nat.le_refl 0
  | k + 1 => by
    have := a_nr_le C P f k
    unfold a_nr
    split <;> omega
theorem a_near_lt {C : Cf} (h : okC C) (P : Ps) (f : Nat) : a_near C P f < cN C := by
  have h1 := a_nr_le C P f (cN C - 1)
  have h2 := h.2.1
  unfold a_near
  omega
theorem a_free_b {C : Cf} {P : Ps} {B : Int} {c f : Nat} (hC : okC C) (hP : okP C P B) (hB : 99 ≤ B ∧ B ≤ 1000000) (hc : c < cN C) (hf : f < cM C) :
    ((qS C f).toInt ≤ (a_free C P c f).toInt ∧ (a_free C P c f).toInt ≤ B + 123) ∧ (a_late C P c f).toInt = (a_free C P c f).toInt - (qS C f).toInt := by
  obtain ⟨h1, h2, h3, -⟩ := hC.2.2.2 f hf
  obtain ⟨p1, p2, p3⟩ := hP.2 c hc
  exact g_free_b hB hC.1 hP.1 p2 h3 p1 h1 h2 p3
theorem a_late_b {C : Cf} {P : Ps} {B : Int} {c f : Nat} (hC : okC C) (hP : okP C P B) (hB : 99 ≤ B ∧ B ≤ 1000000) (hc : c < cN C) (hf : f < cM C) : 0 ≤ (a_late C P c f).toInt ∧ (a_late C P c f).toInt ≤ B + 123 := by
  obtain ⟨-, -, h3, -⟩ := hC.2.2.2 f hf
  have := a_free_b hC hP hB hc hf
  omega
theorem a_ride_ok {C : Cf} {P : Ps} {B : Int} {c f : Nat} (hC : okC C) (hP : okP C P B) (hB : 99 ≤ B ∧ B ≤ 1000000) (hc : c < cN C) (hf : f < cM C) (t : Bool) : okP C (a_ride C P c f t) (B + 123) := by
  obtain ⟨h1, h2, h3, -⟩ := hC.2.2.2 f hf
  have h4 := a_free_b hC hP hB hc hf
  refine ⟨⟨hP.1.1, by have := hP.1.2; show P.1.toInt ≤ _; omega⟩, fun d hd => ?_⟩
  obtain ⟨p1, p2, p3⟩ := hP.2 d hd
  show pl (upd P.2.1 c (qT C f) d) ∧ (0 ≤ (upd P.2.2.1 c (a_free C P c f) d).toInt ∧ (upd P.2.2.1 c (a_free C P c f) d).toInt ≤ B + 123) ∧ nowh (upd P.2.2.2 c _ d)
  by_cases e : d = c
  · subst e
    rw [upd_s, upd_s, upd_s]
    refine ⟨h2, by omega, ?_⟩
    split
    · exact Or.inl rfl
    · split
      · exact Or.inr h2
      · exact p3
  · rw [upd_n e, upd_n e, upd_n e]
    exact ⟨p1, by omega, p3⟩
theorem okP.wk {C : Cf} {P : Ps} {B B' : Int} (h : okP C P B) (hB : B ≤ B') : okP C P B' := by
  refine ⟨⟨h.1.1, by have := h.1.2; omega⟩, fun c hc => ?_⟩
  obtain ⟨p1, p2, p3⟩ := h.2 c hc
  exact ⟨p1, by omega, p3⟩
def rs (n : Nat) (g : Nat → Int32) : Nat → Int32 := fun c => if c < n then g c else 0
theorem rs_lt {n : Nat} {g : Nat → Int32} {c : Nat} (h : c < n) : rs n g c = g c := if_pos h
theorem rs_upd {n : Nat} {g : Nat → Int32} {c : Nat} {v : Int32} (h : c < n) : rs n (upd g c v) = upd (rs n g) c v := by
  funext d
  unfold rs upd
  by_cases e : d = c
  · subst e; simp [h]
  · simp [e]
theorem rs_cong {n : Nat} {g g' : Nat → Int32} (h : ∀ c, c < n → g c = g' c) : rs n g = rs n g' := by
  funext c
  unfold rs
  split
  · exact h c (by assumption)
  · rfl
