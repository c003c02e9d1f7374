/-! ===== the first city's text, letter by letter ===== -/
def txt : List Int32 := [103, 52, 44, 52, 59, 99, 48, 44, 48, 44, 49, 48, 59, 99, 49, 44, 49, 53, 44, 49, 53, 59, 99, 50, 44, 53, 44, 50, 59, 102, 48, 44, 49, 44, 49, 52, 44, 48, 44, 57, 59, 102, 49, 44, 52, 44, 55, 44, 50, 44, 50, 48, 59, 102, 50, 44, 49, 50, 44, 51, 44, 51, 44, 49, 50, 59, 102, 51, 44, 57, 44, 50, 44, 53, 44, 49, 53, 59, 102, 48, 44, 54, 44, 49, 49, 44, 54, 44, 54, 59, 102, 49, 44, 49, 51, 44, 48, 44, 57, 44, 51, 48, 59]
def tx (i : Nat) : Int32 := txt.getD i 0
def tfill (j : Nat) (m : Mem) : Prop := m.1 1 1 = nI j ∧ (∀ i, i < j → m.1 2 i = tx i) ∧ ∀ k, k ≠ 1 → k ≠ 2 → m.1 k = fun _ => 0
theorem tx_ok : ∀ j, j < 103 → vp_nar .char (tx j) = tx j ∧ ((tx j &&& 255).toUInt32 % 65536).toInt32 = tx j := by decide +kernel
theorem tx_nar (j : Nat) (hj : j < 103) : narrow .char (.int (tx j)) = .int (tx j) := congrArg Value.int (tx_ok j hj).1
theorem x_add_t {j : Nat} {m : Mem} (hj : j < 103) (h : tfill j m) : ∃ m', f_X6_add (tx j) m = some (1, m') ∧ tfill (j + 1) m' := by
  refine ⟨mI (mI m 2 j (tx j)) 1 1 (nI (j + 1)), ?_, mI_s, fun i hi => ?_, fun k h1 h2 => by rw [mI_ne k h1, mI_ne k h2]; exact h.2.2 k h1 h2⟩
  · unfold f_X6_add
    rw [h.1, if_pos (show nI j < 200 from nI_lt (a := j) (b := 200) (by omega) (by omega)), fl_ck_t (i_ckz (by omega) (by omega))]
    simp only [fl_lm]
    rw [i_c (by omega), (tx_ok j hj).1, mI_ne 1 (by omega), h.1, nI_1]
  · rw [mI_ne 2 (by omega)]
    by_cases hc : i = j
    · subst hc; exact mI_s
    · rw [mI_j hc]; exact h.2.1 i (by omega)
set_option maxHeartbeats 4000000 in
set_option maxRecDepth 100000 in
theorem lp_txt {p : Program} {l : Launch} {e : Env} {R : Room} {s : State} {mm : MethodId} {args : Array Value} {below : List Frame} {meth : Method} {c : Code} {D : va_G} {ca : Nat → ClassId} {ad : Nat → Nat} {Q : State → Prop} {A0 : Nat → Prop} {ak av cells slots : Nat} {tx0 : String}
    (hA0 : ∀ q, fl_A L1 ad q → A0 q) (X : fl_X p s mm args c cX8_init 2 RX8 L1 D ca ad) (hR : vk_R RX8 73 tx0 ak s) (hX : sc_X ak av 103 tx A0 s s.heap) (hfr : 5 ≤ R.frames ∧ 300 ≤ R.locals ∧ cells ≤ R.cells ∧ slots ≤ R.slots)
    (kk : ∀ (m : Mem) (H : Heap) (locs : List Loc) (ls : Array Slot), tfill 103 m → va_P D vwCl (fl_w L1 ca ad m) H → va_S A0 s.heap H locs → lv_has ls 2 [(0, .ref (ad 0))] → W p l e R s mm args below meth c H locs cells slots Q (F0 mm 156 ls [])) :
    ∀ (k j : Nat) (m : Mem) (H : Heap) (locs : List Loc) (ls : Array Slot), j + k = 103 → tfill j m → va_P D vwCl (fl_w L1 ca ad m) H → va_S A0 s.heap H locs → lv_has ls 2 [(1, .int (nI j)), (0, .ref (ad 0))] → W p l e R s mm args below meth c H locs cells slots Q (F0 mm 127 ls []) := by
  obtain ⟨hx, hb, hml, hown, hts, hE, hi⟩ := id X
  intro k
  induction k with
  | zero =>
    intro j m H locs ls hj ht hP hS hl
    refine lv_iload_n hx hb dX8_init_127 rfl (lv_at hl 0 rfl) ?_
    refine va_ldcS hx hb hown hR dX8_init_128 ?_
    refine sc_callV (n := 0) (av := []) (rest := [.int (nI j)]) hx hb hml hown hts hS hl.1 (c_J0_length l ak av 103 tx (by decide)) (fun _ U _ _ h => sc_X.moved (u := U) (Vm.Alike.refl _) h) (fun U hU hW => hX.at hS hU hW) (by obtain ⟨cell, z1, z2, z3, -⟩ := hX.1.kept hS.2.1; exact ⟨cell, z1, z2, z3⟩) (fl_goodc (fl_w1 316 (by decide +kernel) (by decide +kernel)) (fl_goodc (fl_w1 317 (by decide +kernel) (by decide +kernel)) (fl_goodc (fl_w1 318 (by decide +kernel) (by decide +kernel)) (fl_goodc (fl_w1 55 (by decide +kernel) (by decide +kernel)) (fl_goodc (fl_w1 319 (by decide +kernel) (by decide +kernel)) fl_goodU))))) ⟨by decide +kernel, by decide +kernel, by decide +kernel⟩ ⟨by omega, by omega, hfr.2.2.1, hfr.2.2.2⟩ rfl (Nat.le_of_ble_eq_true rfl) dX8_init_130 rfl (fun H1 locs1 hz hk hS => ?_)
    have hP : va_P D vwCl (fl_w L1 ca ad m) H1 := hP.kept (fun k q hq => hk q.1 (hP k q hq).lt)
    refine lv_icmp_ge (tgt := 156) hx hb dX8_init_133 (by decide) (fun _ => ?_) (fun q9 => absurd (nI_le (show 103 ≤ j by omega) (by omega)) q9)
    exact kk m H1 locs1 ls (by rw [show j = 103 by omega] at ht; exact ht) hP hS (lv_sub hl [1] rfl)
  | succ k ih =>
    intro j m H locs ls hj ht hP hS hl
    refine lv_iload_n hx hb dX8_init_127 rfl (lv_at hl 0 rfl) ?_
    refine va_ldcS hx hb hown hR dX8_init_128 ?_
    refine sc_callV (n := 0) (av := []) (rest := [.int (nI j)]) hx hb hml hown hts hS hl.1 (c_J0_length l ak av 103 tx (by decide)) (fun _ U _ _ h => sc_X.moved (u := U) (Vm.Alike.refl _) h) (fun U hU hW => hX.at hS hU hW) (by obtain ⟨cell, z1, z2, z3, -⟩ := hX.1.kept hS.2.1; exact ⟨cell, z1, z2, z3⟩) (fl_goodc (fl_w1 316 (by decide +kernel) (by decide +kernel)) (fl_goodc (fl_w1 317 (by decide +kernel) (by decide +kernel)) (fl_goodc (fl_w1 318 (by decide +kernel) (by decide +kernel)) (fl_goodc (fl_w1 55 (by decide +kernel) (by decide +kernel)) (fl_goodc (fl_w1 319 (by decide +kernel) (by decide +kernel)) fl_goodU))))) ⟨by decide +kernel, by decide +kernel, by decide +kernel⟩ ⟨by omega, by omega, hfr.2.2.1, hfr.2.2.2⟩ rfl (Nat.le_of_ble_eq_true rfl) dX8_init_130 rfl (fun H1 locs1 hz hk hS => ?_)
    have hP : va_P D vwCl (fl_w L1 ca ad m) H1 := hP.kept (fun k q hq => hk q.1 (hP k q hq).lt)
    refine lv_icmp_ge (tgt := 156) hx hb dX8_init_133 (by decide) (fun q9 => absurd q9 (nI_ge (show j < 103 by omega) (by omega))) (fun _ => ?_)
    refine lv_aload_n hx hb dX8_init_136 rfl (lv_at hl 1 rfl) ?_
    refine fl_getr X hP fk_X8_12 k1_0 rfl dX8_init_137 ?_
    refine va_ldcS hx hb hown hR dX8_init_140 ?_
    refine lv_iload_n hx hb dX8_init_142 rfl (lv_at hl 0 rfl) ?_
    refine sc_callV (n := 1) (av := [.int (nI j)]) (rest := [.ref (ad 1)]) hx hb hml hown hts hS hl.1 (c_J0_charAt l ak av 103 tx (nI j) (tx j) (nI_nlt (b := 0) (a := j) (Nat.zero_le _) (by omega)) (nI_lt (by omega) (by omega)) (vp_in_nI (by omega) (by omega)) (by rw [i_c (by omega)]; exact (tx_ok j (by omega)).2) (tx_nar j (by omega))) (fun _ U _ _ h => sc_X.moved (u := U) (Vm.Alike.refl _) h) (fun U hU hW => hX.at hS hU hW) (by obtain ⟨cell, z1, z2, z3, -⟩ := hX.1.kept hS.2.1; exact ⟨cell, z1, z2, z3⟩) (fl_goodc (fl_w1 326 (by decide +kernel) (by decide +kernel)) (fl_goodc (fl_w1 327 (by decide +kernel) (by decide +kernel)) (fl_goodc (fl_w1 328 (by decide +kernel) (by decide +kernel)) (fl_goodc (fl_w1 55 (by decide +kernel) (by decide +kernel)) (fl_goodc (fl_w1 329 (by decide +kernel) (by decide +kernel)) fl_goodU))))) ⟨by decide +kernel, by decide +kernel, by decide +kernel⟩ ⟨by omega, by omega, hfr.2.2.1, hfr.2.2.2⟩ rfl (Nat.le_of_ble_eq_true rfl) dX8_init_143 rfl (fun H2 locs2 hz hk hS => ?_)
    have hP : va_P D vwCl (fl_w L1 ca ad m) H2 := hP.kept (fun k q hq => hk q.1 (hP k q hq).lt)
    obtain ⟨m', e1, e2⟩ := x_add_t (show j < 103 by omega) ht
    refine fl_callVA (k := 1) (n := 1) (av := [.int (tx j)]) (rest := []) hA0 X hP hS hl.1 mv_X8_85 (c_X6_add l D ca ad hi (tx j) m 1 m' e1) k1_1 ⟨by omega, by omega, hfr.2.2.1, hfr.2.2.2⟩ rfl (Nat.le_of_ble_eq_true rfl) dX8_init_146 rfl (fun H locs hP hS => ?_)
    refine lv_pop hx hb dX8_init_149 rfl ?_
    refine lv_iinc (v := nI j + 1) (lv' := [(1, .int (nI j + 1)), (0, .ref (ad 0))]) hx hb dX8_init_150 hl (k := 0) rfl rfl (by decide) rfl (fun ls hl => ?_)
    refine lv_goto (tgt := 127) hx hb dX8_init_153 (by decide) ?_
    rw [nI_1] at hl
    exact ih (j + 1) m' H locs ls (by omega) e2 hP hS hl
