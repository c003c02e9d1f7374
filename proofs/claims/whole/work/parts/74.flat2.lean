def wX8 (ca : Nat → ClassId) (x : Nat → Nat) (f1 f2 f3 f4 : Nat → Option Nat) : va_W := [(x 0, .inr (8, [.ref (x 1), .ref (x 4), .ref (x 14), .ref (x 24), .ref (x 30), .ref (x 36), .ref (x 86), .ref (x 100), .ref (x 104), .ref (x 156), .ref (x 188)])),
  (x 1, .inr (6, [.ref (x 2), .int 0, .ref (x 3), .int 0])),
  (x 2, .inl (ca 2, 200, .inl (fun _ => 0))),
  (x 3, .inl (ca 1, 5, .inl (fun _ => 0))),
  (x 4, .inr (0, [.int 0, .int 0, .int 0, .int 0, .ref (x 5), .ref (x 6), .ref (x 7), .ref (x 8), .ref (x 9), .ref (x 10), .ref (x 11), .ref (x 12), .ref (x 13)])),
  (x 5, .inl (ca 1, 3, .inl (fun _ => 0))),
  (x 6, .inl (ca 1, 3, .inl (fun _ => 0))),
  (x 7, .inl (ca 1, 3, .inl (fun _ => 0))),
  (x 8, .inl (ca 1, 7, .inl (fun _ => 0))),
  (x 9, .inl (ca 1, 7, .inl (fun _ => 0))),
  (x 10, .inl (ca 1, 7, .inl (fun _ => 0))),
  (x 11, .inl (ca 1, 7, .inl (fun _ => 0))),
  (x 12, .inl (ca 1, 7, .inl (fun _ => 0))),
  (x 13, .inr (7, [.int 0, .int 0, .int 0, .int 0])),
  (x 14, .inr (0, [.int 0, .int 0, .int 0, .int 0, .ref (x 15), .ref (x 16), .ref (x 17), .ref (x 18), .ref (x 19), .ref (x 20), .ref (x 21), .ref (x 22), .ref (x 23)])),
  (x 15, .inl (ca 1, 3, .inl (fun _ => 0))),
  (x 16, .inl (ca 1, 3, .inl (fun _ => 0))),
  (x 17, .inl (ca 1, 3, .inl (fun _ => 0))),
  (x 18, .inl (ca 1, 7, .inl (fun _ => 0))),
  (x 19, .inl (ca 1, 7, .inl (fun _ => 0))),
  (x 20, .inl (ca 1, 7, .inl (fun _ => 0))),
  (x 21, .inl (ca 1, 7, .inl (fun _ => 0))),
  (x 22, .inl (ca 1, 7, .inl (fun _ => 0))),
  (x 23, .inr (7, [.int 0, .int 0, .int 0, .int 0])),
  (x 24, .inr (5, [.int 0, .ref (x 25), .ref (x 26), .ref (x 27), .ref (x 28), .ref (x 29)])),
  (x 25, .inl (ca 1, 3, .inl (fun _ => 0))),
  (x 26, .inl (ca 1, 3, .inl (fun _ => 0))),
  (x 27, .inl (ca 1, 3, .inl (fun _ => 0))),
  (x 28, .inl (ca 1, 7, .inl (fun _ => 0))),
  (x 29, .inl (ca 1, 7, .inl (fun _ => 0))),
  (x 30, .inr (5, [.int 0, .ref (x 31), .ref (x 32), .ref (x 33), .ref (x 34), .ref (x 35)])),
  (x 31, .inl (ca 1, 3, .inl (fun _ => 0))),
  (x 32, .inl (ca 1, 3, .inl (fun _ => 0))),
  (x 33, .inl (ca 1, 3, .inl (fun _ => 0))),
  (x 34, .inl (ca 1, 7, .inl (fun _ => 0))),
  (x 35, .inl (ca 1, 7, .inl (fun _ => 0))),
  (x 36, .inr (4, [.ref (x 37), .int 0, .int 0])),
  (x 37, .inl (ca 4, 8, .inr (.inr (.inr (.inr f1))))),
  (x 38, .inr (5, [.int 0, .ref (x 39), .ref (x 40), .ref (x 41), .ref (x 42), .ref (x 43)])),
  (x 39, .inl (ca 1, 3, .inl (fun _ => 0))),
  (x 40, .inl (ca 1, 3, .inl (fun _ => 0))),
  (x 41, .inl (ca 1, 3, .inl (fun _ => 0))),
  (x 42, .inl (ca 1, 7, .inl (fun _ => 0))),
  (x 43, .inl (ca 1, 7, .inl (fun _ => 0))),
  (x 44, .inr (5, [.int 0, .ref (x 45), .ref (x 46), .ref (x 47), .ref (x 48), .ref (x 49)])),
  (x 45, .inl (ca 1, 3, .inl (fun _ => 0))),
  (x 46, .inl (ca 1, 3, .inl (fun _ => 0))),
  (x 47, .inl (ca 1, 3, .inl (fun _ => 0))),
  (x 48, .inl (ca 1, 7, .inl (fun _ => 0))),
  (x 49, .inl (ca 1, 7, .inl (fun _ => 0))),
  (x 50, .inr (5, [.int 0, .ref (x 51), .ref (x 52), .ref (x 53), .ref (x 54), .ref (x 55)])),
  (x 51, .inl (ca 1, 3, .inl (fun _ => 0))),
  (x 52, .inl (ca 1, 3, .inl (fun _ => 0))),
  (x 53, .inl (ca 1, 3, .inl (fun _ => 0))),
  (x 54, .inl (ca 1, 7, .inl (fun _ => 0))),
  (x 55, .inl (ca 1, 7, .inl (fun _ => 0))),
  (x 56, .inr (5, [.int 0, .ref (x 57), .ref (x 58), .ref (x 59), .ref (x 60), .ref (x 61)])),
  (x 57, .inl (ca 1, 3, .inl (fun _ => 0))),
  (x 58, .inl (ca 1, 3, .inl (fun _ => 0))),
  (x 59, .inl (ca 1, 3, .inl (fun _ => 0))),
  (x 60, .inl (ca 1, 7, .inl (fun _ => 0))),
  (x 61, .inl (ca 1, 7, .inl (fun _ => 0))),
  (x 62, .inr (5, [.int 0, .ref (x 63), .ref (x 64), .ref (x 65), .ref (x 66), .ref (x 67)])),
  (x 63, .inl (ca 1, 3, .inl (fun _ => 0))),
  (x 64, .inl (ca 1, 3, .inl (fun _ => 0))),
  (x 65, .inl (ca 1, 3, .inl (fun _ => 0))),
  (x 66, .inl (ca 1, 7, .inl (fun _ => 0))),
  (x 67, .inl (ca 1, 7, .inl (fun _ => 0))),
  (x 68, .inr (5, [.int 0, .ref (x 69), .ref (x 70), .ref (x 71), .ref (x 72), .ref (x 73)])),
  (x 69, .inl (ca 1, 3, .inl (fun _ => 0))),
  (x 70, .inl (ca 1, 3, .inl (fun _ => 0))),
  (x 71, .inl (ca 1, 3, .inl (fun _ => 0))),
  (x 72, .inl (ca 1, 7, .inl (fun _ => 0))),
  (x 73, .inl (ca 1, 7, .inl (fun _ => 0))),
  (x 74, .inr (5, [.int 0, .ref (x 75), .ref (x 76), .ref (x 77), .ref (x 78), .ref (x 79)])),
  (x 75, .inl (ca 1, 3, .inl (fun _ => 0))),
  (x 76, .inl (ca 1, 3, .inl (fun _ => 0))),
  (x 77, .inl (ca 1, 3, .inl (fun _ => 0))),
  (x 78, .inl (ca 1, 7, .inl (fun _ => 0))),
  (x 79, .inl (ca 1, 7, .inl (fun _ => 0))),
  (x 80, .inr (5, [.int 0, .ref (x 81), .ref (x 82), .ref (x 83), .ref (x 84), .ref (x 85)])),
  (x 81, .inl (ca 1, 3, .inl (fun _ => 0))),
  (x 82, .inl (ca 1, 3, .inl (fun _ => 0))),
  (x 83, .inl (ca 1, 3, .inl (fun _ => 0))),
  (x 84, .inl (ca 1, 7, .inl (fun _ => 0))),
  (x 85, .inl (ca 1, 7, .inl (fun _ => 0))),
  (x 86, .inr (4, [.ref (x 87), .int 0, .int 0])),
  (x 87, .inl (ca 4, 2, .inr (.inr (.inr (.inr f2))))),
  (x 88, .inr (5, [.int 0, .ref (x 89), .ref (x 90), .ref (x 91), .ref (x 92), .ref (x 93)])),
  (x 89, .inl (ca 1, 3, .inl (fun _ => 0))),
  (x 90, .inl (ca 1, 3, .inl (fun _ => 0))),
  (x 91, .inl (ca 1, 3, .inl (fun _ => 0))),
  (x 92, .inl (ca 1, 7, .inl (fun _ => 0))),
  (x 93, .inl (ca 1, 7, .inl (fun _ => 0))),
  (x 94, .inr (5, [.int 0, .ref (x 95), .ref (x 96), .ref (x 97), .ref (x 98), .ref (x 99)])),
  (x 95, .inl (ca 1, 3, .inl (fun _ => 0))),
  (x 96, .inl (ca 1, 3, .inl (fun _ => 0))),
  (x 97, .inl (ca 1, 3, .inl (fun _ => 0))),
  (x 98, .inl (ca 1, 7, .inl (fun _ => 0))),
  (x 99, .inl (ca 1, 7, .inl (fun _ => 0))),
  (x 100, .inr (3, [.ref (x 101), .ref (x 102), .ref (x 103), .int 0])),
  (x 101, .inl (ca 1, 6, .inl (fun _ => 0))),
  (x 102, .inl (ca 1, 6, .inl (fun _ => 0))),
  (x 103, .inl (ca 1, 6, .inl (fun _ => 0))),
  (x 104, .inr (2, [.ref (x 105), .ref (x 106), .ref (x 107), .int 0, .int 0])),
  (x 105, .inl (ca 4, 8, .inr (.inr (.inr (.inr f3))))),
  (x 106, .inl (ca 1, 7, .inl (fun _ => 0))),
  (x 107, .inl (ca 1, 7, .inl (fun _ => 0))),
  (x 108, .inr (5, [.int 0, .ref (x 109), .ref (x 110), .ref (x 111), .ref (x 112), .ref (x 113)])),
  (x 109, .inl (ca 1, 3, .inl (fun _ => 0))),
  (x 110, .inl (ca 1, 3, .inl (fun _ => 0))),
  (x 111, .inl (ca 1, 3, .inl (fun _ => 0))),
  (x 112, .inl (ca 1, 7, .inl (fun _ => 0))),
  (x 113, .inl (ca 1, 7, .inl (fun _ => 0))),
  (x 114, .inr (5, [.int 0, .ref (x 115), .ref (x 116), .ref (x 117), .ref (x 118), .ref (x 119)])),
  (x 115, .inl (ca 1, 3, .inl (fun _ => 0))),
  (x 116, .inl (ca 1, 3, .inl (fun _ => 0))),
  (x 117, .inl (ca 1, 3, .inl (fun _ => 0))),
  (x 118, .inl (ca 1, 7, .inl (fun _ => 0))),
  (x 119, .inl (ca 1, 7, .inl (fun _ => 0))),
  (x 120, .inr (5, [.int 0, .ref (x 121), .ref (x 122), .ref (x 123), .ref (x 124), .ref (x 125)])),
  (x 121, .inl (ca 1, 3, .inl (fun _ => 0))),
  (x 122, .inl (ca 1, 3, .inl (fun _ => 0))),
  (x 123, .inl (ca 1, 3, .inl (fun _ => 0))),
  (x 124, .inl (ca 1, 7, .inl (fun _ => 0))),
  (x 125, .inl (ca 1, 7, .inl (fun _ => 0))),
  (x 126, .inr (5, [.int 0, .ref (x 127), .ref (x 128), .ref (x 129), .ref (x 130), .ref (x 131)])),
  (x 127, .inl (ca 1, 3, .inl (fun _ => 0))),
  (x 128, .inl (ca 1, 3, .inl (fun _ => 0))),
  (x 129, .inl (ca 1, 3, .inl (fun _ => 0))),
  (x 130, .inl (ca 1, 7, .inl (fun _ => 0))),
  (x 131, .inl (ca 1, 7, .inl (fun _ => 0))),
  (x 132, .inr (5, [.int 0, .ref (x 133), .ref (x 134), .ref (x 135), .ref (x 136), .ref (x 137)])),
  (x 133, .inl (ca 1, 3, .inl (fun _ => 0))),
  (x 134, .inl (ca 1, 3, .inl (fun _ => 0))),
  (x 135, .inl (ca 1, 3, .inl (fun _ => 0))),
  (x 136, .inl (ca 1, 7, .inl (fun _ => 0))),
  (x 137, .inl (ca 1, 7, .inl (fun _ => 0))),
  (x 138, .inr (5, [.int 0, .ref (x 139), .ref (x 140), .ref (x 141), .ref (x 142), .ref (x 143)])),
  (x 139, .inl (ca 1, 3, .inl (fun _ => 0))),
  (x 140, .inl (ca 1, 3, .inl (fun _ => 0))),
  (x 141, .inl (ca 1, 3, .inl (fun _ => 0))),
  (x 142, .inl (ca 1, 7, .inl (fun _ => 0))),
  (x 143, .inl (ca 1, 7, .inl (fun _ => 0))),
  (x 144, .inr (5, [.int 0, .ref (x 145), .ref (x 146), .ref (x 147), .ref (x 148), .ref (x 149)])),
  (x 145, .inl (ca 1, 3, .inl (fun _ => 0))),
  (x 146, .inl (ca 1, 3, .inl (fun _ => 0))),
  (x 147, .inl (ca 1, 3, .inl (fun _ => 0))),
  (x 148, .inl (ca 1, 7, .inl (fun _ => 0))),
  (x 149, .inl (ca 1, 7, .inl (fun _ => 0))),
  (x 150, .inr (5, [.int 0, .ref (x 151), .ref (x 152), .ref (x 153), .ref (x 154), .ref (x 155)])),
  (x 151, .inl (ca 1, 3, .inl (fun _ => 0))),
  (x 152, .inl (ca 1, 3, .inl (fun _ => 0))),
  (x 153, .inl (ca 1, 3, .inl (fun _ => 0))),
  (x 154, .inl (ca 1, 7, .inl (fun _ => 0))),
  (x 155, .inl (ca 1, 7, .inl (fun _ => 0))),
  (x 156, .inr (1, [.ref (x 157), .int 0, .int 0, .int 0, .int 0, .int 0])),
  (x 157, .inl (ca 4, 5, .inr (.inr (.inr (.inr f4))))),
  (x 158, .inr (5, [.int 0, .ref (x 159), .ref (x 160), .ref (x 161), .ref (x 162), .ref (x 163)])),
  (x 159, .inl (ca 1, 3, .inl (fun _ => 0))),
  (x 160, .inl (ca 1, 3, .inl (fun _ => 0))),
  (x 161, .inl (ca 1, 3, .inl (fun _ => 0))),
  (x 162, .inl (ca 1, 7, .inl (fun _ => 0))),
  (x 163, .inl (ca 1, 7, .inl (fun _ => 0))),
  (x 164, .inr (5, [.int 0, .ref (x 165), .ref (x 166), .ref (x 167), .ref (x 168), .ref (x 169)])),
  (x 165, .inl (ca 1, 3, .inl (fun _ => 0))),
  (x 166, .inl (ca 1, 3, .inl (fun _ => 0))),
  (x 167, .inl (ca 1, 3, .inl (fun _ => 0))),
  (x 168, .inl (ca 1, 7, .inl (fun _ => 0))),
  (x 169, .inl (ca 1, 7, .inl (fun _ => 0))),
  (x 170, .inr (5, [.int 0, .ref (x 171), .ref (x 172), .ref (x 173), .ref (x 174), .ref (x 175)])),
  (x 171, .inl (ca 1, 3, .inl (fun _ => 0))),
  (x 172, .inl (ca 1, 3, .inl (fun _ => 0))),
  (x 173, .inl (ca 1, 3, .inl (fun _ => 0))),
  (x 174, .inl (ca 1, 7, .inl (fun _ => 0))),
  (x 175, .inl (ca 1, 7, .inl (fun _ => 0))),
  (x 176, .inr (5, [.int 0, .ref (x 177), .ref (x 178), .ref (x 179), .ref (x 180), .ref (x 181)])),
  (x 177, .inl (ca 1, 3, .inl (fun _ => 0))),
  (x 178, .inl (ca 1, 3, .inl (fun _ => 0))),
  (x 179, .inl (ca 1, 3, .inl (fun _ => 0))),
  (x 180, .inl (ca 1, 7, .inl (fun _ => 0))),
  (x 181, .inl (ca 1, 7, .inl (fun _ => 0))),
  (x 182, .inr (5, [.int 0, .ref (x 183), .ref (x 184), .ref (x 185), .ref (x 186), .ref (x 187)])),
  (x 183, .inl (ca 1, 3, .inl (fun _ => 0))),
  (x 184, .inl (ca 1, 3, .inl (fun _ => 0))),
  (x 185, .inl (ca 1, 3, .inl (fun _ => 0))),
  (x 186, .inl (ca 1, 7, .inl (fun _ => 0))),
  (x 187, .inl (ca 1, 7, .inl (fun _ => 0))),
  (x 188, .inl (ca 3, 41, .inr (.inl (fun _ => 0))))]
def gX (k : Nat) : Nat := [0, 1, 2, 3, 4, 5, 6, 7, 8, 9, 10, 11, 12, 13, 14, 15, 16, 17, 18, 19, 20, 21, 22, 23, 36, 37, 86, 87, 100, 101, 102, 103, 104, 105, 106, 107, 156, 157, 188, 24, 25, 26, 27, 28, 29, 30, 31, 32, 33, 34, 35, 38, 39, 40, 41, 42, 43, 44, 45, 46, 47, 48, 49, 50, 51, 52, 53, 54, 55, 56, 57, 58, 59, 60, 61, 62, 63, 64, 65, 66, 67, 68, 69, 70, 71, 72, 73, 74, 75, 76, 77, 78, 79, 80, 81, 82, 83, 84, 85, 88, 89, 90, 91, 92, 93, 94, 95, 96, 97, 98, 99, 108, 109, 110, 111, 112, 113, 114, 115, 116, 117, 118, 119, 120, 121, 122, 123, 124, 125, 126, 127, 128, 129, 130, 131, 132, 133, 134, 135, 136, 137, 138, 139, 140, 141, 142, 143, 144, 145, 146, 147, 148, 149, 150, 151, 152, 153, 154, 155, 158, 159, 160, 161, 162, 163, 164, 165, 166, 167, 168, 169, 170, 171, 172, 173, 174, 175, 176, 177, 178, 179, 180, 181, 182, 183, 184, 185, 186, 187].getD k 0
def mZ : Mem := (fun _ _ => 0, fun _ => 0)
theorem gX_lt : ∀ k, k < 189 → gX k < 189 := by decide +kernel
theorem gX_inj : ∀ k, k < 189 → ∀ j, j < 189 → gX k = gX j → k = j := by decide +kernel
set_option maxHeartbeats 8000000 in
set_option maxRecDepth 100000 in
theorem flat_X8 {D : va_G} {ca : Nat → ClassId} {x : Nat → Nat} {f1 f2 f3 f4 : Nat → Option Nat} {H : Heap} (h1 : ∀ j, j < 8 → f1 j = some (x (38 + 6 * j))) (h2 : ∀ j, j < 2 → f2 j = some (x (88 + 6 * j))) (h3 : ∀ j, j < 8 → f3 j = some (x (108 + 6 * j))) (h4 : ∀ j, j < 5 → f4 j = some (x (158 + 6 * j))) (hP : va_P D vwCl (wX8 ca x f1 f2 f3 f4) H) : va_P D vwCl (fl_w L1 ca (fun k => x (gX k)) mZ) H := by
  have sp : ∀ (b n : Nat) (f : Nat → Option Nat) (i : Nat), va_at D vwCl (x i, .inl (ca 4, n, .inr (.inr (.inr (.inr f))))) H → (∀ j, j < n → f j = some (x (gX (b + 6 * j)))) → va_at D vwCl (x i, .inl (ca 4, n, .inr (.inr (.inr (.inr (fun j => some (x (gX (b + 6 * j))))))))) H := fun b n f i h hf => (show H[x i]? = _ from h).trans (congrArg some (va_cong hf))
  have all : allE (fun k kd => va_at D vwCl (x (gX k), fl_ent ca (fun k => x (gX k)) mZ k kd) H) 0 L1 := by
    refine ⟨hP 0 _ rfl, ?_⟩
    refine ⟨hP 1 _ rfl, ?_⟩
    refine ⟨hP 2 _ rfl, ?_⟩
    refine ⟨hP 3 _ rfl, ?_⟩
    refine ⟨hP 4 _ rfl, ?_⟩
    refine ⟨hP 5 _ rfl, ?_⟩
    refine ⟨hP 6 _ rfl, ?_⟩
    refine ⟨hP 7 _ rfl, ?_⟩
    refine ⟨hP 8 _ rfl, ?_⟩
    refine ⟨hP 9 _ rfl, ?_⟩
    refine ⟨hP 10 _ rfl, ?_⟩
    refine ⟨hP 11 _ rfl, ?_⟩
    refine ⟨hP 12 _ rfl, ?_⟩
    refine ⟨hP 13 _ rfl, ?_⟩
    refine ⟨hP 14 _ rfl, ?_⟩
    refine ⟨hP 15 _ rfl, ?_⟩
    refine ⟨hP 16 _ rfl, ?_⟩
    refine ⟨hP 17 _ rfl, ?_⟩
    refine ⟨hP 18 _ rfl, ?_⟩
    refine ⟨hP 19 _ rfl, ?_⟩
    refine ⟨hP 20 _ rfl, ?_⟩
    refine ⟨hP 21 _ rfl, ?_⟩
    refine ⟨hP 22 _ rfl, ?_⟩
    refine ⟨hP 23 _ rfl, ?_⟩
    refine ⟨hP 36 _ rfl, ?_⟩
    refine ⟨sp 51 8 _ 37 (hP 37 _ rfl) (fun j hj => (h1 j hj).trans (by rcases (show j = 0 ∨ j = 1 ∨ j = 2 ∨ j = 3 ∨ j = 4 ∨ j = 5 ∨ j = 6 ∨ j = 7 by omega) with rfl | rfl | rfl | rfl | rfl | rfl | rfl | rfl <;> rfl)), ?_⟩
    refine ⟨hP 86 _ rfl, ?_⟩
    refine ⟨sp 99 2 _ 87 (hP 87 _ rfl) (fun j hj => (h2 j hj).trans (by rcases (show j = 0 ∨ j = 1 by omega) with rfl | rfl <;> rfl)), ?_⟩
    refine ⟨hP 100 _ rfl, ?_⟩
    refine ⟨hP 101 _ rfl, ?_⟩
    refine ⟨hP 102 _ rfl, ?_⟩
    refine ⟨hP 103 _ rfl, ?_⟩
    refine ⟨hP 104 _ rfl, ?_⟩
    refine ⟨sp 111 8 _ 105 (hP 105 _ rfl) (fun j hj => (h3 j hj).trans (by rcases (show j = 0 ∨ j = 1 ∨ j = 2 ∨ j = 3 ∨ j = 4 ∨ j = 5 ∨ j = 6 ∨ j = 7 by omega) with rfl | rfl | rfl | rfl | rfl | rfl | rfl | rfl <;> rfl)), ?_⟩
    refine ⟨hP 106 _ rfl, ?_⟩
    refine ⟨hP 107 _ rfl, ?_⟩
    refine ⟨hP 156 _ rfl, ?_⟩
    refine ⟨sp 159 5 _ 157 (hP 157 _ rfl) (fun j hj => (h4 j hj).trans (by rcases (show j = 0 ∨ j = 1 ∨ j = 2 ∨ j = 3 ∨ j = 4 by omega) with rfl | rfl | rfl | rfl | rfl <;> rfl)), ?_⟩
    refine ⟨hP 188 _ rfl, ?_⟩
    refine ⟨hP 24 _ rfl, ?_⟩
    refine ⟨hP 25 _ rfl, ?_⟩
    refine ⟨hP 26 _ rfl, ?_⟩
    refine ⟨hP 27 _ rfl, ?_⟩
    refine ⟨hP 28 _ rfl, ?_⟩
    refine ⟨hP 29 _ rfl, ?_⟩
    refine ⟨hP 30 _ rfl, ?_⟩
    refine ⟨hP 31 _ rfl, ?_⟩
    refine ⟨hP 32 _ rfl, ?_⟩
    refine ⟨hP 33 _ rfl, ?_⟩
    refine ⟨hP 34 _ rfl, ?_⟩
    refine ⟨hP 35 _ rfl, ?_⟩
    refine ⟨hP 38 _ rfl, ?_⟩
    refine ⟨hP 39 _ rfl, ?_⟩
    refine ⟨hP 40 _ rfl, ?_⟩
    refine ⟨hP 41 _ rfl, ?_⟩
    refine ⟨hP 42 _ rfl, ?_⟩
    refine ⟨hP 43 _ rfl, ?_⟩
    refine ⟨hP 44 _ rfl, ?_⟩
    refine ⟨hP 45 _ rfl, ?_⟩
    refine ⟨hP 46 _ rfl, ?_⟩
    refine ⟨hP 47 _ rfl, ?_⟩
    refine ⟨hP 48 _ rfl, ?_⟩
    refine ⟨hP 49 _ rfl, ?_⟩
    refine ⟨hP 50 _ rfl, ?_⟩
    refine ⟨hP 51 _ rfl, ?_⟩
    refine ⟨hP 52 _ rfl, ?_⟩
    refine ⟨hP 53 _ rfl, ?_⟩
    refine ⟨hP 54 _ rfl, ?_⟩
    refine ⟨hP 55 _ rfl, ?_⟩
    refine ⟨hP 56 _ rfl, ?_⟩
    refine ⟨hP 57 _ rfl, ?_⟩
    refine ⟨hP 58 _ rfl, ?_⟩
    refine ⟨hP 59 _ rfl, ?_⟩
    refine ⟨hP 60 _ rfl, ?_⟩
    refine ⟨hP 61 _ rfl, ?_⟩
    refine ⟨hP 62 _ rfl, ?_⟩
    refine ⟨hP 63 _ rfl, ?_⟩
    refine ⟨hP 64 _ rfl, ?_⟩
    refine ⟨hP 65 _ rfl, ?_⟩
    refine ⟨hP 66 _ rfl, ?_⟩
    refine ⟨hP 67 _ rfl, ?_⟩
    refine ⟨hP 68 _ rfl, ?_⟩
    refine ⟨hP 69 _ rfl, ?_⟩
    refine ⟨hP 70 _ rfl, ?_⟩
    refine ⟨hP 71 _ rfl, ?_⟩
    refine ⟨hP 72 _ rfl, ?_⟩
    refine ⟨hP 73 _ rfl, ?_⟩
    refine ⟨hP 74 _ rfl, ?_⟩
    refine ⟨hP 75 _ rfl, ?_⟩
    refine ⟨hP 76 _ rfl, ?_⟩
    refine ⟨hP 77 _ rfl, ?_⟩
    refine ⟨hP 78 _ rfl, ?_⟩
    refine ⟨hP 79 _ rfl, ?_⟩
    refine ⟨hP 80 _ rfl, ?_⟩
    refine ⟨hP 81 _ rfl, ?_⟩
    refine ⟨hP 82 _ rfl, ?_⟩
    refine ⟨hP 83 _ rfl, ?_⟩
    refine ⟨hP 84 _ rfl, ?_⟩
    refine ⟨hP 85 _ rfl, ?_⟩
    refine ⟨hP 88 _ rfl, ?_⟩
    refine ⟨hP 89 _ rfl, ?_⟩
    refine ⟨hP 90 _ rfl, ?_⟩
    refine ⟨hP 91 _ rfl, ?_⟩
    refine ⟨hP 92 _ rfl, ?_⟩
    refine ⟨hP 93 _ rfl, ?_⟩
    refine ⟨hP 94 _ rfl, ?_⟩
    refine ⟨hP 95 _ rfl, ?_⟩
    refine ⟨hP 96 _ rfl, ?_⟩
    refine ⟨hP 97 _ rfl, ?_⟩
    refine ⟨hP 98 _ rfl, ?_⟩
    refine ⟨hP 99 _ rfl, ?_⟩
    refine ⟨hP 108 _ rfl, ?_⟩
    refine ⟨hP 109 _ rfl, ?_⟩
    refine ⟨hP 110 _ rfl, ?_⟩
    refine ⟨hP 111 _ rfl, ?_⟩
    refine ⟨hP 112 _ rfl, ?_⟩
    refine ⟨hP 113 _ rfl, ?_⟩
    refine ⟨hP 114 _ rfl, ?_⟩
    refine ⟨hP 115 _ rfl, ?_⟩
    refine ⟨hP 116 _ rfl, ?_⟩
    refine ⟨hP 117 _ rfl, ?_⟩
    refine ⟨hP 118 _ rfl, ?_⟩
    refine ⟨hP 119 _ rfl, ?_⟩
    refine ⟨hP 120 _ rfl, ?_⟩
    refine ⟨hP 121 _ rfl, ?_⟩
    refine ⟨hP 122 _ rfl, ?_⟩
    refine ⟨hP 123 _ rfl, ?_⟩
    refine ⟨hP 124 _ rfl, ?_⟩
    refine ⟨hP 125 _ rfl, ?_⟩
    refine ⟨hP 126 _ rfl, ?_⟩
    refine ⟨hP 127 _ rfl, ?_⟩
    refine ⟨hP 128 _ rfl, ?_⟩
    refine ⟨hP 129 _ rfl, ?_⟩
    refine ⟨hP 130 _ rfl, ?_⟩
    refine ⟨hP 131 _ rfl, ?_⟩
    refine ⟨hP 132 _ rfl, ?_⟩
    refine ⟨hP 133 _ rfl, ?_⟩
    refine ⟨hP 134 _ rfl, ?_⟩
    refine ⟨hP 135 _ rfl, ?_⟩
    refine ⟨hP 136 _ rfl, ?_⟩
    refine ⟨hP 137 _ rfl, ?_⟩
    refine ⟨hP 138 _ rfl, ?_⟩
    refine ⟨hP 139 _ rfl, ?_⟩
    refine ⟨hP 140 _ rfl, ?_⟩
    refine ⟨hP 141 _ rfl, ?_⟩
    refine ⟨hP 142 _ rfl, ?_⟩
    refine ⟨hP 143 _ rfl, ?_⟩
    refine ⟨hP 144 _ rfl, ?_⟩
    refine ⟨hP 145 _ rfl, ?_⟩
    refine ⟨hP 146 _ rfl, ?_⟩
    refine ⟨hP 147 _ rfl, ?_⟩
    refine ⟨hP 148 _ rfl, ?_⟩
    refine ⟨hP 149 _ rfl, ?_⟩
    refine ⟨hP 150 _ rfl, ?_⟩
    refine ⟨hP 151 _ rfl, ?_⟩
    refine ⟨hP 152 _ rfl, ?_⟩
    refine ⟨hP 153 _ rfl, ?_⟩
    refine ⟨hP 154 _ rfl, ?_⟩
    refine ⟨hP 155 _ rfl, ?_⟩
    refine ⟨hP 158 _ rfl, ?_⟩
    refine ⟨hP 159 _ rfl, ?_⟩
    refine ⟨hP 160 _ rfl, ?_⟩
    refine ⟨hP 161 _ rfl, ?_⟩
    refine ⟨hP 162 _ rfl, ?_⟩
    refine ⟨hP 163 _ rfl, ?_⟩
    refine ⟨hP 164 _ rfl, ?_⟩
    refine ⟨hP 165 _ rfl, ?_⟩
    refine ⟨hP 166 _ rfl, ?_⟩
    refine ⟨hP 167 _ rfl, ?_⟩
    refine ⟨hP 168 _ rfl, ?_⟩
    refine ⟨hP 169 _ rfl, ?_⟩
    refine ⟨hP 170 _ rfl, ?_⟩
    refine ⟨hP 171 _ rfl, ?_⟩
    refine ⟨hP 172 _ rfl, ?_⟩
    refine ⟨hP 173 _ rfl, ?_⟩
    refine ⟨hP 174 _ rfl, ?_⟩
    refine ⟨hP 175 _ rfl, ?_⟩
    refine ⟨hP 176 _ rfl, ?_⟩
    refine ⟨hP 177 _ rfl, ?_⟩
    refine ⟨hP 178 _ rfl, ?_⟩
    refine ⟨hP 179 _ rfl, ?_⟩
    refine ⟨hP 180 _ rfl, ?_⟩
    refine ⟨hP 181 _ rfl, ?_⟩
    refine ⟨hP 182 _ rfl, ?_⟩
    refine ⟨hP 183 _ rfl, ?_⟩
    refine ⟨hP 184 _ rfl, ?_⟩
    refine ⟨hP 185 _ rfl, ?_⟩
    refine ⟨hP 186 _ rfl, ?_⟩
    refine ⟨hP 187 _ rfl, ?_⟩
    exact trivial
  intro k q hq
  obtain ⟨kd, h5, rfl⟩ := fl_wk2 hq
  have := allE_at L1 0 all k kd h5
  rw [Nat.zero_add] at this
  exact this
set_option maxHeartbeats 8000000 in
set_option maxRecDepth 100000 in
theorem flat_X8_ad {ca : Nat → ClassId} {x : Nat → Nat} {f1 f2 f3 f4 : Nat → Option Nat} {A : Nat → Prop} (hD : va_D A (wX8 ca x f1 f2 f3 f4)) : fl_inj L1 (fun k => x (gX k)) ∧ ∀ q, fl_A L1 (fun k => x (gX k)) q → A q := by
  have key : ∀ i, i < 189 → ∃ e, (wX8 ca x f1 f2 f3 f4)[i]? = some (x i, e) := by
    intro i hi
    have h1 : (wX8 ca x f1 f2 f3 f4).map Prod.fst = (List.range 189).map x := rfl
    have h2 : ((wX8 ca x f1 f2 f3 f4).map Prod.fst)[i]? = some (x i) := by rw [h1]; simp [hi]
    rw [List.getElem?_map] at h2
    cases hw : (wX8 ca x f1 f2 f3 f4)[i]? with
    | none => rw [hw] at h2; cases h2
    | some q =>
      rw [hw] at h2
      injection h2 with h2
      exact ⟨q.2, by rw [← h2]⟩
  have hlen : L1.length = 189 := rfl
  refine ⟨fun i j hi hj e => ?_, fun q hq => ?_⟩
  · rw [hlen] at hi hj
    obtain ⟨e1, k1⟩ := key (gX i) (gX_lt i hi)
    obtain ⟨e2, k2⟩ := key (gX j) (gX_lt j hj)
    exact gX_inj i hi j hj (hD.1 _ _ _ _ k1 k2 e)
  · obtain ⟨k, hk, rfl⟩ := hq
    rw [hlen] at hk
    obtain ⟨e1, k1⟩ := key (gX k) (gX_lt k hk)
    exact hD.2 _ _ k1
