/-- the addresses: the cells one behind the other from B on, then the texts, their bytes, the row of factorials -/
abbrev mkZ (D : va_G) (B : Nat) (f : Nat → Nat) (cy : Nat → ClassId) : Zw := (D, fun k => if k < 91 then B + k else f (k - 91), cy)
def csX (Z : Zw) (B : Nat) : List va_E := [.inr (10, [.ref (B + 1), .ref (B + 5), .ref (B + 9), .ref (B + 14), .ref (B + 17), .ref (B + 27), .ref (B + 37), .ref (B + 40), .ref (B + 49), .ref (B + 50), .ref (B + 59), .ref (B + 61), .ref (B + 63), iv 0, iv 0, iv 0, iv (-1), iv 0]), .inr (1, [iv 0, iv 0, iv 0, .ref (B + 2), .ref (B + 3), .ref (B + 4)]), .inl (Z.2.2 1, 20, .inl fun _ => 0), .inl (Z.2.2 1, 6, .inl fun _ => 0), .inl (Z.2.2 1, 60, .inl fun _ => 0), .inr (1, [iv 0, iv 0, iv 0, .ref (B + 6), .ref (B + 7), .ref (B + 8)]), .inl (Z.2.2 1, 20, .inl fun _ => 0), .inl (Z.2.2 1, 6, .inl fun _ => 0), .inl (Z.2.2 1, 60, .inl fun _ => 0), .inr (6, [iv 0, iv 0, iv 0, iv (-1), .ref (B + 10), .ref (B + 11), .ref (B + 12), .ref (B + 13), iv 0, iv 0, iv 0, iv 0, iv 0, jv 0]), .inl (Z.2.2 1, 400, .inl fun _ => 0), .inl (Z.2.2 1, 400, .inl fun _ => 0), .inl (Z.2.2 3, 400, .inr (.inl fun _ => 0)), .inl (Z.2.2 2, 2000, .inl fun _ => 0), .inr (4, [iv 0, iv (-1), iv 0, iv 0, iv 0, .ref (B + 15), .ref (B + 16)]), .inl (Z.2.2 3, 6, .inr (.inl fun _ => 0)), .inl (Z.2.2 1, 20, .inl fun _ => 0), .inr (8, [iv 0, .ref (B + 18), .ref (B + 19), .ref (B + 20), .ref (B + 21), .ref (B + 22), .ref (B + 23), .ref (B + 24), iv 0, iv 0, jv 0]), .inl (Z.2.2 1, 16, .inl fun _ => 0), .inl (Z.2.2 1, 16, .inl fun _ => 0), .inl (Z.2.2 1, 20, .inl fun _ => 0), .inl (Z.2.2 1, 20, .inl fun _ => 0), .inl (Z.2.2 1, 16, .inl fun _ => 0), .inl (Z.2.2 1, 20, .inl fun _ => 0), .inr (9, [iv 0, iv 0, .ref (B + 25), .ref (B + 26)]), .inl (Z.2.2 1, 20, .inl fun _ => 0), .inl (Z.2.2 1, 20, .inl fun _ => 0), .inr (8, [iv 0, .ref (B + 28), .ref (B + 29), .ref (B + 30), .ref (B + 31), .ref (B + 32), .ref (B + 33), .ref (B + 34), iv 0, iv 0, jv 0]), .inl (Z.2.2 1, 16, .inl fun _ => 0), .inl (Z.2.2 1, 16, .inl fun _ => 0), .inl (Z.2.2 1, 20, .inl fun _ => 0), .inl (Z.2.2 1, 20, .inl fun _ => 0), .inl (Z.2.2 1, 16, .inl fun _ => 0), .inl (Z.2.2 1, 20, .inl fun _ => 0), .inr (9, [iv 0, iv 0, .ref (B + 35), .ref (B + 36)]), .inl (Z.2.2 1, 20, .inl fun _ => 0), .inl (Z.2.2 1, 20, .inl fun _ => 0), .inr (9, [iv 0, iv 0, .ref (B + 38), .ref (B + 39)]), .inl (Z.2.2 1, 20, .inl fun _ => 0), .inl (Z.2.2 1, 20, .inl fun _ => 0), .inr (3, [iv 0, iv 0, iv 0, .ref (B + 41), .ref (B + 42), .ref (B + 46), jv (-1), jv (-1), iv 0]), .inl (Z.2.2 1, 6, .inl fun _ => 0), .inr (1, [iv 0, iv 0, iv 0, .ref (B + 43), .ref (B + 44), .ref (B + 45)]), .inl (Z.2.2 1, 20, .inl fun _ => 0), .inl (Z.2.2 1, 6, .inl fun _ => 0), .inl (Z.2.2 1, 60, .inl fun _ => 0), .inr (9, [iv 0, iv 0, .ref (B + 47), .ref (B + 48)]), .inl (Z.2.2 1, 20, .inl fun _ => 0), .inl (Z.2.2 1, 20, .inl fun _ => 0), .inr (5, [iv 0, iv 0, iv 0]), .inr (2, [.ref (B + 51), .ref (B + 54), .ref (B + 57), .ref (B + 58), iv 0]), .inr (9, [iv 0, iv 0, .ref (B + 52), .ref (B + 53)]), .inl (Z.2.2 1, 20, .inl fun _ => 0), .inl (Z.2.2 1, 20, .inl fun _ => 0), .inr (9, [iv 0, iv 0, .ref (B + 55), .ref (B + 56)]), .inl (Z.2.2 1, 20, .inl fun _ => 0), .inl (Z.2.2 1, 20, .inl fun _ => 0), .inl (Z.2.2 1, 40, .inl fun _ => 0), .inl (Z.2.2 1, 40, .inl fun _ => 0), .inr (0, [.ref (B + 60)]), .inl (Z.2.2 1, 16, .inl fun _ => 0), .inr (7, [iv 40, .ref (B + 62)]), .inl (Z.2.2 1, 3560, .inl fun _ => 0), .inr (7, [iv 3, .ref (B + 64)]), .inl (Z.2.2 1, 267, .inl fun _ => 0)]
def csM (Z : Zw) (B : Nat) : List va_E := [.inr (11, [.int 0, .ref (B + 66), .int 0, .ref (B + 67), .int 0, .ref (B + 68), .ref (B + 69), .ref (B + 70), .ref (B + 71), .ref (B + 72), .int 0, .int 0, .int 0, .int 0, .int 0, .int 0, iv (-1), .ref (B + 73), .ref (B + 74), .ref (B + 75), .int 0, .int 0, .ref (B + 76), .int 0, .int 0, .ref (B + 77), .ref (B + 78), .ref (B + 79), .ref (B + 80), .ref (B + 81), .ref (B + 82), .ref (B + 83), .ref (B + 84), .int 0, .int 0, .int 0, .ref (B + 85), .ref (B + 86), .ref (B + 87), .ref (B + 88), .ref (B + 89), .ref (B + 90), .int 0]), .inl (Z.2.2 2, 2000, .inl fun _ => 0), .inl (Z.2.2 2, 2000, .inl fun _ => 0), .inl (Z.2.2 1, 403, .inl fun _ => 0), .inl (Z.2.2 1, 403, .inl fun _ => 0), .inl (Z.2.2 1, 403, .inl fun _ => 0), .inl (Z.2.2 3, 403, .inr (.inl fun _ => 0)), .inl (Z.2.2 3, 4, .inr (.inl fun _ => 0)), .inl (Z.2.2 1, 98, .inl fun _ => 0), .inl (Z.2.2 1, 98, .inl fun _ => 0), .inl (Z.2.2 3, 6, .inr (.inl fun _ => 0)), .inl (Z.2.2 1, 3920, .inl fun _ => 0), .inl (Z.2.2 1, 294, .inl fun _ => 0), .inl (Z.2.2 4, 3, .inl fun _ => 0), .inl (Z.2.2 1, 40, .inl fun _ => 0), .inl (Z.2.2 1, 30, .inl fun _ => 0), .inl (Z.2.2 1, 30, .inl fun _ => 0), .inl (Z.2.2 1, 6, .inl fun _ => 0), .inl (Z.2.2 1, 98, .inl fun _ => 0), .inl (Z.2.2 1, 20, .inl fun _ => 0), .inl (Z.2.2 1, 30, .inl fun _ => 0), .inl (Z.2.2 1, 30, .inl fun _ => 0), .inl (Z.2.2 1, 10, .inl fun _ => 0), .inl (Z.2.2 1, 40, .inl fun _ => 0), .inl (Z.2.2 1, 40, .inl fun _ => 0), .inl (Z.2.2 1, 40, .inl fun _ => 0)]
def w0L : List (List Int) := [[0, 0, 0, 0, 0, 0, 0, 0, 0, 0, 0, 0, 0, 0, 0, 0, -1], [], [], [], [], [], [], [], [], [0, 0, 0, -1], [], [], [], [], [0, -1], [], [], [], [], [], [], [], [], [], [], [], [], [], [], [], [], [], [], [], [], [], [], [], [], [], [0, 0, 0, 0, 0, 0, -1, -1], [], [], [], [], [], [], [], [], [], [], [], [], [], [], [], [], [], [], [], [], [40], [], [3], [], [0, 0, 0, 0, 0, 0, 0, 0, 0, 0, 0, 0, 0, 0, 0, 0, -1], [], [], [], [], [], [], [], [], [], [], [], [], [], [], [], [], [], [], [], [], [], [], [], [], []]
/-- the world behind the constructors, but for the four keys -/
def w0 : Wd := fun k j => (w0L.getD k []).getD j 0
theorem wz (k i : Nat) (h : w0L.getD k [] = []) : w0 k i = 0 := by unfold w0; rw [h]; rfl
theorem ce_0 (D : va_G) (B : Nat) (f : Nat → Nat) (cy : Nat → ClassId) : ceOf (mkZ D B f cy) w0 0 = .inr (10, [.ref (B + 1), .ref (B + 5), .ref (B + 9), .ref (B + 14), .ref (B + 17), .ref (B + 27), .ref (B + 37), .ref (B + 40), .ref (B + 49), .ref (B + 50), .ref (B + 59), .ref (B + 61), .ref (B + 63), iv 0, iv 0, iv 0, iv (-1), iv 0]) := rfl
theorem ce_1 (D : va_G) (B : Nat) (f : Nat → Nat) (cy : Nat → ClassId) : ceOf (mkZ D B f cy) w0 1 = .inr (1, [iv 0, iv 0, iv 0, .ref (B + 2), .ref (B + 3), .ref (B + 4)]) := rfl
theorem ce_2 (D : va_G) (B : Nat) (f : Nat → Nat) (cy : Nat → ClassId) : ceOf (mkZ D B f cy) w0 2 = .inl (cy 1, 20, .inl fun _ => 0) := by
  have e : ∀ i, w0 2 i = 0 := fun i => wz 2 i rfl
  unfold ceOf
  simp only [e]
  rfl
theorem ce_3 (D : va_G) (B : Nat) (f : Nat → Nat) (cy : Nat → ClassId) : ceOf (mkZ D B f cy) w0 3 = .inl (cy 1, 6, .inl fun _ => 0) := by
  have e : ∀ i, w0 3 i = 0 := fun i => wz 3 i rfl
  unfold ceOf
  simp only [e]
  rfl
theorem ce_4 (D : va_G) (B : Nat) (f : Nat → Nat) (cy : Nat → ClassId) : ceOf (mkZ D B f cy) w0 4 = .inl (cy 1, 60, .inl fun _ => 0) := by
  have e : ∀ i, w0 4 i = 0 := fun i => wz 4 i rfl
  unfold ceOf
  simp only [e]
  rfl
theorem ce_5 (D : va_G) (B : Nat) (f : Nat → Nat) (cy : Nat → ClassId) : ceOf (mkZ D B f cy) w0 5 = .inr (1, [iv 0, iv 0, iv 0, .ref (B + 6), .ref (B + 7), .ref (B + 8)]) := rfl
theorem ce_6 (D : va_G) (B : Nat) (f : Nat → Nat) (cy : Nat → ClassId) : ceOf (mkZ D B f cy) w0 6 = .inl (cy 1, 20, .inl fun _ => 0) := by
  have e : ∀ i, w0 6 i = 0 := fun i => wz 6 i rfl
  unfold ceOf
  simp only [e]
  rfl
theorem ce_7 (D : va_G) (B : Nat) (f : Nat → Nat) (cy : Nat → ClassId) : ceOf (mkZ D B f cy) w0 7 = .inl (cy 1, 6, .inl fun _ => 0) := by
  have e : ∀ i, w0 7 i = 0 := fun i => wz 7 i rfl
  unfold ceOf
  simp only [e]
  rfl
theorem ce_8 (D : va_G) (B : Nat) (f : Nat → Nat) (cy : Nat → ClassId) : ceOf (mkZ D B f cy) w0 8 = .inl (cy 1, 60, .inl fun _ => 0) := by
  have e : ∀ i, w0 8 i = 0 := fun i => wz 8 i rfl
  unfold ceOf
  simp only [e]
  rfl
theorem ce_9 (D : va_G) (B : Nat) (f : Nat → Nat) (cy : Nat → ClassId) : ceOf (mkZ D B f cy) w0 9 = .inr (6, [iv 0, iv 0, iv 0, iv (-1), .ref (B + 10), .ref (B + 11), .ref (B + 12), .ref (B + 13), iv 0, iv 0, iv 0, iv 0, iv 0, jv 0]) := rfl
theorem ce_10 (D : va_G) (B : Nat) (f : Nat → Nat) (cy : Nat → ClassId) : ceOf (mkZ D B f cy) w0 10 = .inl (cy 1, 400, .inl fun _ => 0) := by
  have e : ∀ i, w0 10 i = 0 := fun i => wz 10 i rfl
  unfold ceOf
  simp only [e]
  rfl
theorem ce_11 (D : va_G) (B : Nat) (f : Nat → Nat) (cy : Nat → ClassId) : ceOf (mkZ D B f cy) w0 11 = .inl (cy 1, 400, .inl fun _ => 0) := by
  have e : ∀ i, w0 11 i = 0 := fun i => wz 11 i rfl
  unfold ceOf
  simp only [e]
  rfl
theorem ce_12 (D : va_G) (B : Nat) (f : Nat → Nat) (cy : Nat → ClassId) : ceOf (mkZ D B f cy) w0 12 = .inl (cy 3, 400, .inr (.inl fun _ => 0)) := by
  have e : ∀ i, w0 12 i = 0 := fun i => wz 12 i rfl
  unfold ceOf
  simp only [e]
  rfl
theorem ce_13 (D : va_G) (B : Nat) (f : Nat → Nat) (cy : Nat → ClassId) : ceOf (mkZ D B f cy) w0 13 = .inl (cy 2, 2000, .inl fun _ => 0) := by
  have e : ∀ i, w0 13 i = 0 := fun i => wz 13 i rfl
  unfold ceOf
  simp only [e]
  rfl
theorem ce_14 (D : va_G) (B : Nat) (f : Nat → Nat) (cy : Nat → ClassId) : ceOf (mkZ D B f cy) w0 14 = .inr (4, [iv 0, iv (-1), iv 0, iv 0, iv 0, .ref (B + 15), .ref (B + 16)]) := rfl
theorem ce_15 (D : va_G) (B : Nat) (f : Nat → Nat) (cy : Nat → ClassId) : ceOf (mkZ D B f cy) w0 15 = .inl (cy 3, 6, .inr (.inl fun _ => 0)) := by
  have e : ∀ i, w0 15 i = 0 := fun i => wz 15 i rfl
  unfold ceOf
  simp only [e]
  rfl
theorem ce_16 (D : va_G) (B : Nat) (f : Nat → Nat) (cy : Nat → ClassId) : ceOf (mkZ D B f cy) w0 16 = .inl (cy 1, 20, .inl fun _ => 0) := by
  have e : ∀ i, w0 16 i = 0 := fun i => wz 16 i rfl
  unfold ceOf
  simp only [e]
  rfl
theorem ce_17 (D : va_G) (B : Nat) (f : Nat → Nat) (cy : Nat → ClassId) : ceOf (mkZ D B f cy) w0 17 = .inr (8, [iv 0, .ref (B + 18), .ref (B + 19), .ref (B + 20), .ref (B + 21), .ref (B + 22), .ref (B + 23), .ref (B + 24), iv 0, iv 0, jv 0]) := rfl
theorem ce_18 (D : va_G) (B : Nat) (f : Nat → Nat) (cy : Nat → ClassId) : ceOf (mkZ D B f cy) w0 18 = .inl (cy 1, 16, .inl fun _ => 0) := by
  have e : ∀ i, w0 18 i = 0 := fun i => wz 18 i rfl
  unfold ceOf
  simp only [e]
  rfl
theorem ce_19 (D : va_G) (B : Nat) (f : Nat → Nat) (cy : Nat → ClassId) : ceOf (mkZ D B f cy) w0 19 = .inl (cy 1, 16, .inl fun _ => 0) := by
  have e : ∀ i, w0 19 i = 0 := fun i => wz 19 i rfl
  unfold ceOf
  simp only [e]
  rfl
theorem ce_20 (D : va_G) (B : Nat) (f : Nat → Nat) (cy : Nat → ClassId) : ceOf (mkZ D B f cy) w0 20 = .inl (cy 1, 20, .inl fun _ => 0) := by
  have e : ∀ i, w0 20 i = 0 := fun i => wz 20 i rfl
  unfold ceOf
  simp only [e]
  rfl
theorem ce_21 (D : va_G) (B : Nat) (f : Nat → Nat) (cy : Nat → ClassId) : ceOf (mkZ D B f cy) w0 21 = .inl (cy 1, 20, .inl fun _ => 0) := by
  have e : ∀ i, w0 21 i = 0 := fun i => wz 21 i rfl
  unfold ceOf
  simp only [e]
  rfl
theorem ce_22 (D : va_G) (B : Nat) (f : Nat → Nat) (cy : Nat → ClassId) : ceOf (mkZ D B f cy) w0 22 = .inl (cy 1, 16, .inl fun _ => 0) := by
  have e : ∀ i, w0 22 i = 0 := fun i => wz 22 i rfl
  unfold ceOf
  simp only [e]
  rfl
theorem ce_23 (D : va_G) (B : Nat) (f : Nat → Nat) (cy : Nat → ClassId) : ceOf (mkZ D B f cy) w0 23 = .inl (cy 1, 20, .inl fun _ => 0) := by
  have e : ∀ i, w0 23 i = 0 := fun i => wz 23 i rfl
  unfold ceOf
  simp only [e]
  rfl
theorem ce_24 (D : va_G) (B : Nat) (f : Nat → Nat) (cy : Nat → ClassId) : ceOf (mkZ D B f cy) w0 24 = .inr (9, [iv 0, iv 0, .ref (B + 25), .ref (B + 26)]) := rfl
theorem ce_25 (D : va_G) (B : Nat) (f : Nat → Nat) (cy : Nat → ClassId) : ceOf (mkZ D B f cy) w0 25 = .inl (cy 1, 20, .inl fun _ => 0) := by
  have e : ∀ i, w0 25 i = 0 := fun i => wz 25 i rfl
  unfold ceOf
  simp only [e]
  rfl
theorem ce_26 (D : va_G) (B : Nat) (f : Nat → Nat) (cy : Nat → ClassId) : ceOf (mkZ D B f cy) w0 26 = .inl (cy 1, 20, .inl fun _ => 0) := by
  have e : ∀ i, w0 26 i = 0 := fun i => wz 26 i rfl
  unfold ceOf
  simp only [e]
  rfl
theorem ce_27 (D : va_G) (B : Nat) (f : Nat → Nat) (cy : Nat → ClassId) : ceOf (mkZ D B f cy) w0 27 = .inr (8, [iv 0, .ref (B + 28), .ref (B + 29), .ref (B + 30), .ref (B + 31), .ref (B + 32), .ref (B + 33), .ref (B + 34), iv 0, iv 0, jv 0]) := rfl
theorem ce_28 (D : va_G) (B : Nat) (f : Nat → Nat) (cy : Nat → ClassId) : ceOf (mkZ D B f cy) w0 28 = .inl (cy 1, 16, .inl fun _ => 0) := by
  have e : ∀ i, w0 28 i = 0 := fun i => wz 28 i rfl
  unfold ceOf
  simp only [e]
  rfl
theorem ce_29 (D : va_G) (B : Nat) (f : Nat → Nat) (cy : Nat → ClassId) : ceOf (mkZ D B f cy) w0 29 = .inl (cy 1, 16, .inl fun _ => 0) := by
  have e : ∀ i, w0 29 i = 0 := fun i => wz 29 i rfl
  unfold ceOf
  simp only [e]
  rfl
theorem ce_30 (D : va_G) (B : Nat) (f : Nat → Nat) (cy : Nat → ClassId) : ceOf (mkZ D B f cy) w0 30 = .inl (cy 1, 20, .inl fun _ => 0) := by
  have e : ∀ i, w0 30 i = 0 := fun i => wz 30 i rfl
  unfold ceOf
  simp only [e]
  rfl
theorem ce_31 (D : va_G) (B : Nat) (f : Nat → Nat) (cy : Nat → ClassId) : ceOf (mkZ D B f cy) w0 31 = .inl (cy 1, 20, .inl fun _ => 0) := by
  have e : ∀ i, w0 31 i = 0 := fun i => wz 31 i rfl
  unfold ceOf
  simp only [e]
  rfl
theorem ce_32 (D : va_G) (B : Nat) (f : Nat → Nat) (cy : Nat → ClassId) : ceOf (mkZ D B f cy) w0 32 = .inl (cy 1, 16, .inl fun _ => 0) := by
  have e : ∀ i, w0 32 i = 0 := fun i => wz 32 i rfl
  unfold ceOf
  simp only [e]
  rfl
theorem ce_33 (D : va_G) (B : Nat) (f : Nat → Nat) (cy : Nat → ClassId) : ceOf (mkZ D B f cy) w0 33 = .inl (cy 1, 20, .inl fun _ => 0) := by
  have e : ∀ i, w0 33 i = 0 := fun i => wz 33 i rfl
  unfold ceOf
  simp only [e]
  rfl
theorem ce_34 (D : va_G) (B : Nat) (f : Nat → Nat) (cy : Nat → ClassId) : ceOf (mkZ D B f cy) w0 34 = .inr (9, [iv 0, iv 0, .ref (B + 35), .ref (B + 36)]) := rfl
theorem ce_35 (D : va_G) (B : Nat) (f : Nat → Nat) (cy : Nat → ClassId) : ceOf (mkZ D B f cy) w0 35 = .inl (cy 1, 20, .inl fun _ => 0) := by
  have e : ∀ i, w0 35 i = 0 := fun i => wz 35 i rfl
  unfold ceOf
  simp only [e]
  rfl
theorem ce_36 (D : va_G) (B : Nat) (f : Nat → Nat) (cy : Nat → ClassId) : ceOf (mkZ D B f cy) w0 36 = .inl (cy 1, 20, .inl fun _ => 0) := by
  have e : ∀ i, w0 36 i = 0 := fun i => wz 36 i rfl
  unfold ceOf
  simp only [e]
  rfl
theorem ce_37 (D : va_G) (B : Nat) (f : Nat → Nat) (cy : Nat → ClassId) : ceOf (mkZ D B f cy) w0 37 = .inr (9, [iv 0, iv 0, .ref (B + 38), .ref (B + 39)]) := rfl
theorem ce_38 (D : va_G) (B : Nat) (f : Nat → Nat) (cy : Nat → ClassId) : ceOf (mkZ D B f cy) w0 38 = .inl (cy 1, 20, .inl fun _ => 0) := by
  have e : ∀ i, w0 38 i = 0 := fun i => wz 38 i rfl
  unfold ceOf
  simp only [e]
  rfl
theorem ce_39 (D : va_G) (B : Nat) (f : Nat → Nat) (cy : Nat → ClassId) : ceOf (mkZ D B f cy) w0 39 = .inl (cy 1, 20, .inl fun _ => 0) := by
  have e : ∀ i, w0 39 i = 0 := fun i => wz 39 i rfl
  unfold ceOf
  simp only [e]
  rfl
theorem ce_40 (D : va_G) (B : Nat) (f : Nat → Nat) (cy : Nat → ClassId) : ceOf (mkZ D B f cy) w0 40 = .inr (3, [iv 0, iv 0, iv 0, .ref (B + 41), .ref (B + 42), .ref (B + 46), jv (-1), jv (-1), iv 0]) := rfl
theorem ce_41 (D : va_G) (B : Nat) (f : Nat → Nat) (cy : Nat → ClassId) : ceOf (mkZ D B f cy) w0 41 = .inl (cy 1, 6, .inl fun _ => 0) := by
  have e : ∀ i, w0 41 i = 0 := fun i => wz 41 i rfl
  unfold ceOf
  simp only [e]
  rfl
theorem ce_42 (D : va_G) (B : Nat) (f : Nat → Nat) (cy : Nat → ClassId) : ceOf (mkZ D B f cy) w0 42 = .inr (1, [iv 0, iv 0, iv 0, .ref (B + 43), .ref (B + 44), .ref (B + 45)]) := rfl
theorem ce_43 (D : va_G) (B : Nat) (f : Nat → Nat) (cy : Nat → ClassId) : ceOf (mkZ D B f cy) w0 43 = .inl (cy 1, 20, .inl fun _ => 0) := by
  have e : ∀ i, w0 43 i = 0 := fun i => wz 43 i rfl
  unfold ceOf
  simp only [e]
  rfl
theorem ce_44 (D : va_G) (B : Nat) (f : Nat → Nat) (cy : Nat → ClassId) : ceOf (mkZ D B f cy) w0 44 = .inl (cy 1, 6, .inl fun _ => 0) := by
  have e : ∀ i, w0 44 i = 0 := fun i => wz 44 i rfl
  unfold ceOf
  simp only [e]
  rfl
theorem ce_45 (D : va_G) (B : Nat) (f : Nat → Nat) (cy : Nat → ClassId) : ceOf (mkZ D B f cy) w0 45 = .inl (cy 1, 60, .inl fun _ => 0) := by
  have e : ∀ i, w0 45 i = 0 := fun i => wz 45 i rfl
  unfold ceOf
  simp only [e]
  rfl
theorem ce_46 (D : va_G) (B : Nat) (f : Nat → Nat) (cy : Nat → ClassId) : ceOf (mkZ D B f cy) w0 46 = .inr (9, [iv 0, iv 0, .ref (B + 47), .ref (B + 48)]) := rfl
theorem ce_47 (D : va_G) (B : Nat) (f : Nat → Nat) (cy : Nat → ClassId) : ceOf (mkZ D B f cy) w0 47 = .inl (cy 1, 20, .inl fun _ => 0) := by
  have e : ∀ i, w0 47 i = 0 := fun i => wz 47 i rfl
  unfold ceOf
  simp only [e]
  rfl
theorem ce_48 (D : va_G) (B : Nat) (f : Nat → Nat) (cy : Nat → ClassId) : ceOf (mkZ D B f cy) w0 48 = .inl (cy 1, 20, .inl fun _ => 0) := by
  have e : ∀ i, w0 48 i = 0 := fun i => wz 48 i rfl
  unfold ceOf
  simp only [e]
  rfl
theorem ce_49 (D : va_G) (B : Nat) (f : Nat → Nat) (cy : Nat → ClassId) : ceOf (mkZ D B f cy) w0 49 = .inr (5, [iv 0, iv 0, iv 0]) := rfl
theorem ce_50 (D : va_G) (B : Nat) (f : Nat → Nat) (cy : Nat → ClassId) : ceOf (mkZ D B f cy) w0 50 = .inr (2, [.ref (B + 51), .ref (B + 54), .ref (B + 57), .ref (B + 58), iv 0]) := rfl
theorem ce_51 (D : va_G) (B : Nat) (f : Nat → Nat) (cy : Nat → ClassId) : ceOf (mkZ D B f cy) w0 51 = .inr (9, [iv 0, iv 0, .ref (B + 52), .ref (B + 53)]) := rfl
theorem ce_52 (D : va_G) (B : Nat) (f : Nat → Nat) (cy : Nat → ClassId) : ceOf (mkZ D B f cy) w0 52 = .inl (cy 1, 20, .inl fun _ => 0) := by
  have e : ∀ i, w0 52 i = 0 := fun i => wz 52 i rfl
  unfold ceOf
  simp only [e]
  rfl
theorem ce_53 (D : va_G) (B : Nat) (f : Nat → Nat) (cy : Nat → ClassId) : ceOf (mkZ D B f cy) w0 53 = .inl (cy 1, 20, .inl fun _ => 0) := by
  have e : ∀ i, w0 53 i = 0 := fun i => wz 53 i rfl
  unfold ceOf
  simp only [e]
  rfl
theorem ce_54 (D : va_G) (B : Nat) (f : Nat → Nat) (cy : Nat → ClassId) : ceOf (mkZ D B f cy) w0 54 = .inr (9, [iv 0, iv 0, .ref (B + 55), .ref (B + 56)]) := rfl
theorem ce_55 (D : va_G) (B : Nat) (f : Nat → Nat) (cy : Nat → ClassId) : ceOf (mkZ D B f cy) w0 55 = .inl (cy 1, 20, .inl fun _ => 0) := by
  have e : ∀ i, w0 55 i = 0 := fun i => wz 55 i rfl
  unfold ceOf
  simp only [e]
  rfl
theorem ce_56 (D : va_G) (B : Nat) (f : Nat → Nat) (cy : Nat → ClassId) : ceOf (mkZ D B f cy) w0 56 = .inl (cy 1, 20, .inl fun _ => 0) := by
  have e : ∀ i, w0 56 i = 0 := fun i => wz 56 i rfl
  unfold ceOf
  simp only [e]
  rfl
theorem ce_57 (D : va_G) (B : Nat) (f : Nat → Nat) (cy : Nat → ClassId) : ceOf (mkZ D B f cy) w0 57 = .inl (cy 1, 40, .inl fun _ => 0) := by
  have e : ∀ i, w0 57 i = 0 := fun i => wz 57 i rfl
  unfold ceOf
  simp only [e]
  rfl
theorem ce_58 (D : va_G) (B : Nat) (f : Nat → Nat) (cy : Nat → ClassId) : ceOf (mkZ D B f cy) w0 58 = .inl (cy 1, 40, .inl fun _ => 0) := by
  have e : ∀ i, w0 58 i = 0 := fun i => wz 58 i rfl
  unfold ceOf
  simp only [e]
  rfl
theorem ce_59 (D : va_G) (B : Nat) (f : Nat → Nat) (cy : Nat → ClassId) : ceOf (mkZ D B f cy) w0 59 = .inr (0, [.ref (B + 60)]) := rfl
theorem ce_60 (D : va_G) (B : Nat) (f : Nat → Nat) (cy : Nat → ClassId) : ceOf (mkZ D B f cy) w0 60 = .inl (cy 1, 16, .inl fun _ => 0) := by
  have e : ∀ i, w0 60 i = 0 := fun i => wz 60 i rfl
  unfold ceOf
  simp only [e]
  rfl
theorem ce_61 (D : va_G) (B : Nat) (f : Nat → Nat) (cy : Nat → ClassId) : ceOf (mkZ D B f cy) w0 61 = .inr (7, [iv 40, .ref (B + 62)]) := rfl
theorem ce_62 (D : va_G) (B : Nat) (f : Nat → Nat) (cy : Nat → ClassId) : ceOf (mkZ D B f cy) w0 62 = .inl (cy 1, 3560, .inl fun _ => 0) := by
  have e : ∀ i, w0 62 i = 0 := fun i => wz 62 i rfl
  unfold ceOf
  simp only [e]
  rfl
theorem ce_63 (D : va_G) (B : Nat) (f : Nat → Nat) (cy : Nat → ClassId) : ceOf (mkZ D B f cy) w0 63 = .inr (7, [iv 3, .ref (B + 64)]) := rfl
theorem ce_64 (D : va_G) (B : Nat) (f : Nat → Nat) (cy : Nat → ClassId) : ceOf (mkZ D B f cy) w0 64 = .inl (cy 1, 267, .inl fun _ => 0) := by
  have e : ∀ i, w0 64 i = 0 := fun i => wz 64 i rfl
  unfold ceOf
  simp only [e]
  rfl
theorem ce_65 (D : va_G) (B : Nat) (f : Nat → Nat) (cy : Nat → ClassId) : ceOf (mkZ D B f cy) w0 65 = .inr (11, [.int 0, .ref (B + 66), .int 0, .ref (B + 67), .int 0, .ref (B + 68), .ref (B + 69), .ref (B + 70), .ref (B + 71), .ref (B + 72), .int 0, .int 0, .int 0, .int 0, .int 0, .int 0, iv (-1), .ref (B + 73), .ref (B + 74), .ref (B + 75), .int 0, .int 0, .ref (B + 76), .int 0, .int 0, .ref (B + 77), .ref (B + 78), .ref (B + 79), .ref (B + 80), .ref (B + 81), .ref (B + 82), .ref (B + 83), .ref (B + 84), .int 0, .int 0, .int 0, .ref (B + 85), .ref (B + 86), .ref (B + 87), .ref (B + 88), .ref (B + 89), .ref (B + 90), .int 0]) := rfl
theorem ce_66 (D : va_G) (B : Nat) (f : Nat → Nat) (cy : Nat → ClassId) : ceOf (mkZ D B f cy) w0 66 = .inl (cy 2, 2000, .inl fun _ => 0) := by
  have e : ∀ i, w0 66 i = 0 := fun i => wz 66 i rfl
  unfold ceOf
  simp only [e]
  rfl
theorem ce_67 (D : va_G) (B : Nat) (f : Nat → Nat) (cy : Nat → ClassId) : ceOf (mkZ D B f cy) w0 67 = .inl (cy 2, 2000, .inl fun _ => 0) := by
  have e : ∀ i, w0 67 i = 0 := fun i => wz 67 i rfl
  unfold ceOf
  simp only [e]
  rfl
theorem ce_68 (D : va_G) (B : Nat) (f : Nat → Nat) (cy : Nat → ClassId) : ceOf (mkZ D B f cy) w0 68 = .inl (cy 1, 403, .inl fun _ => 0) := by
  have e : ∀ i, w0 68 i = 0 := fun i => wz 68 i rfl
  unfold ceOf
  simp only [e]
  rfl
theorem ce_69 (D : va_G) (B : Nat) (f : Nat → Nat) (cy : Nat → ClassId) : ceOf (mkZ D B f cy) w0 69 = .inl (cy 1, 403, .inl fun _ => 0) := by
  have e : ∀ i, w0 69 i = 0 := fun i => wz 69 i rfl
  unfold ceOf
  simp only [e]
  rfl
theorem ce_70 (D : va_G) (B : Nat) (f : Nat → Nat) (cy : Nat → ClassId) : ceOf (mkZ D B f cy) w0 70 = .inl (cy 1, 403, .inl fun _ => 0) := by
  have e : ∀ i, w0 70 i = 0 := fun i => wz 70 i rfl
  unfold ceOf
  simp only [e]
  rfl
theorem ce_71 (D : va_G) (B : Nat) (f : Nat → Nat) (cy : Nat → ClassId) : ceOf (mkZ D B f cy) w0 71 = .inl (cy 3, 403, .inr (.inl fun _ => 0)) := by
  have e : ∀ i, w0 71 i = 0 := fun i => wz 71 i rfl
  unfold ceOf
  simp only [e]
  rfl
theorem ce_72 (D : va_G) (B : Nat) (f : Nat → Nat) (cy : Nat → ClassId) : ceOf (mkZ D B f cy) w0 72 = .inl (cy 3, 4, .inr (.inl fun _ => 0)) := by
  have e : ∀ i, w0 72 i = 0 := fun i => wz 72 i rfl
  unfold ceOf
  simp only [e]
  rfl
theorem ce_73 (D : va_G) (B : Nat) (f : Nat → Nat) (cy : Nat → ClassId) : ceOf (mkZ D B f cy) w0 73 = .inl (cy 1, 98, .inl fun _ => 0) := by
  have e : ∀ i, w0 73 i = 0 := fun i => wz 73 i rfl
  unfold ceOf
  simp only [e]
  rfl
theorem ce_74 (D : va_G) (B : Nat) (f : Nat → Nat) (cy : Nat → ClassId) : ceOf (mkZ D B f cy) w0 74 = .inl (cy 1, 98, .inl fun _ => 0) := by
  have e : ∀ i, w0 74 i = 0 := fun i => wz 74 i rfl
  unfold ceOf
  simp only [e]
  rfl
theorem ce_75 (D : va_G) (B : Nat) (f : Nat → Nat) (cy : Nat → ClassId) : ceOf (mkZ D B f cy) w0 75 = .inl (cy 3, 6, .inr (.inl fun _ => 0)) := by
  have e : ∀ i, w0 75 i = 0 := fun i => wz 75 i rfl
  unfold ceOf
  simp only [e]
  rfl
theorem ce_76 (D : va_G) (B : Nat) (f : Nat → Nat) (cy : Nat → ClassId) : ceOf (mkZ D B f cy) w0 76 = .inl (cy 1, 3920, .inl fun _ => 0) := by
  have e : ∀ i, w0 76 i = 0 := fun i => wz 76 i rfl
  unfold ceOf
  simp only [e]
  rfl
theorem ce_77 (D : va_G) (B : Nat) (f : Nat → Nat) (cy : Nat → ClassId) : ceOf (mkZ D B f cy) w0 77 = .inl (cy 1, 294, .inl fun _ => 0) := by
  have e : ∀ i, w0 77 i = 0 := fun i => wz 77 i rfl
  unfold ceOf
  simp only [e]
  rfl
theorem ce_78 (D : va_G) (B : Nat) (f : Nat → Nat) (cy : Nat → ClassId) : ceOf (mkZ D B f cy) w0 78 = .inl (cy 4, 3, .inl fun _ => 0) := by
  have e : ∀ i, w0 78 i = 0 := fun i => wz 78 i rfl
  unfold ceOf
  simp only [e]
  rfl
theorem ce_79 (D : va_G) (B : Nat) (f : Nat → Nat) (cy : Nat → ClassId) : ceOf (mkZ D B f cy) w0 79 = .inl (cy 1, 40, .inl fun _ => 0) := by
  have e : ∀ i, w0 79 i = 0 := fun i => wz 79 i rfl
  unfold ceOf
  simp only [e]
  rfl
theorem ce_80 (D : va_G) (B : Nat) (f : Nat → Nat) (cy : Nat → ClassId) : ceOf (mkZ D B f cy) w0 80 = .inl (cy 1, 30, .inl fun _ => 0) := by
  have e : ∀ i, w0 80 i = 0 := fun i => wz 80 i rfl
  unfold ceOf
  simp only [e]
  rfl
theorem ce_81 (D : va_G) (B : Nat) (f : Nat → Nat) (cy : Nat → ClassId) : ceOf (mkZ D B f cy) w0 81 = .inl (cy 1, 30, .inl fun _ => 0) := by
  have e : ∀ i, w0 81 i = 0 := fun i => wz 81 i rfl
  unfold ceOf
  simp only [e]
  rfl
theorem ce_82 (D : va_G) (B : Nat) (f : Nat → Nat) (cy : Nat → ClassId) : ceOf (mkZ D B f cy) w0 82 = .inl (cy 1, 6, .inl fun _ => 0) := by
  have e : ∀ i, w0 82 i = 0 := fun i => wz 82 i rfl
  unfold ceOf
  simp only [e]
  rfl
theorem ce_83 (D : va_G) (B : Nat) (f : Nat → Nat) (cy : Nat → ClassId) : ceOf (mkZ D B f cy) w0 83 = .inl (cy 1, 98, .inl fun _ => 0) := by
  have e : ∀ i, w0 83 i = 0 := fun i => wz 83 i rfl
  unfold ceOf
  simp only [e]
  rfl
theorem ce_84 (D : va_G) (B : Nat) (f : Nat → Nat) (cy : Nat → ClassId) : ceOf (mkZ D B f cy) w0 84 = .inl (cy 1, 20, .inl fun _ => 0) := by
  have e : ∀ i, w0 84 i = 0 := fun i => wz 84 i rfl
  unfold ceOf
  simp only [e]
  rfl
theorem ce_85 (D : va_G) (B : Nat) (f : Nat → Nat) (cy : Nat → ClassId) : ceOf (mkZ D B f cy) w0 85 = .inl (cy 1, 30, .inl fun _ => 0) := by
  have e : ∀ i, w0 85 i = 0 := fun i => wz 85 i rfl
  unfold ceOf
  simp only [e]
  rfl
theorem ce_86 (D : va_G) (B : Nat) (f : Nat → Nat) (cy : Nat → ClassId) : ceOf (mkZ D B f cy) w0 86 = .inl (cy 1, 30, .inl fun _ => 0) := by
  have e : ∀ i, w0 86 i = 0 := fun i => wz 86 i rfl
  unfold ceOf
  simp only [e]
  rfl
theorem ce_87 (D : va_G) (B : Nat) (f : Nat → Nat) (cy : Nat → ClassId) : ceOf (mkZ D B f cy) w0 87 = .inl (cy 1, 10, .inl fun _ => 0) := by
  have e : ∀ i, w0 87 i = 0 := fun i => wz 87 i rfl
  unfold ceOf
  simp only [e]
  rfl
theorem ce_88 (D : va_G) (B : Nat) (f : Nat → Nat) (cy : Nat → ClassId) : ceOf (mkZ D B f cy) w0 88 = .inl (cy 1, 40, .inl fun _ => 0) := by
  have e : ∀ i, w0 88 i = 0 := fun i => wz 88 i rfl
  unfold ceOf
  simp only [e]
  rfl
theorem ce_89 (D : va_G) (B : Nat) (f : Nat → Nat) (cy : Nat → ClassId) : ceOf (mkZ D B f cy) w0 89 = .inl (cy 1, 40, .inl fun _ => 0) := by
  have e : ∀ i, w0 89 i = 0 := fun i => wz 89 i rfl
  unfold ceOf
  simp only [e]
  rfl
theorem ce_90 (D : va_G) (B : Nat) (f : Nat → Nat) (cy : Nat → ClassId) : ceOf (mkZ D B f cy) w0 90 = .inl (cy 1, 40, .inl fun _ => 0) := by
  have e : ∀ i, w0 90 i = 0 := fun i => wz 90 i rfl
  unfold ceOf
  simp only [e]
  rfl
theorem w0_ok (D : va_G) (B : Nat) (f : Nat → Nat) (cy : Nat → ClassId) : wsB B (csX (mkZ D B f cy) B ++ csM (mkZ D B f cy) B) = wsOf (mkZ D B f cy) w0 := by
  apply List.ext_getElem?
  intro k
  by_cases hk : k < 91
  · rw [ws_get _ _ hk]
    have hc : (csX (mkZ D B f cy) B ++ csM (mkZ D B f cy) B)[k]? = some (ceOf (mkZ D B f cy) w0 k) := by
      have : ∀ k : Fin 91, (csX (mkZ D B f cy) B ++ csM (mkZ D B f cy) B)[k.val]? = some (ceOf (mkZ D B f cy) w0 k.val) := by
        intro k
        match k with
        | ⟨0, _⟩ => exact congrArg some (ce_0 D B f cy).symm
        | ⟨1, _⟩ => exact congrArg some (ce_1 D B f cy).symm
        | ⟨2, _⟩ => exact congrArg some (ce_2 D B f cy).symm
        | ⟨3, _⟩ => exact congrArg some (ce_3 D B f cy).symm
        | ⟨4, _⟩ => exact congrArg some (ce_4 D B f cy).symm
        | ⟨5, _⟩ => exact congrArg some (ce_5 D B f cy).symm
        | ⟨6, _⟩ => exact congrArg some (ce_6 D B f cy).symm
        | ⟨7, _⟩ => exact congrArg some (ce_7 D B f cy).symm
        | ⟨8, _⟩ => exact congrArg some (ce_8 D B f cy).symm
        | ⟨9, _⟩ => exact congrArg some (ce_9 D B f cy).symm
        | ⟨10, _⟩ => exact congrArg some (ce_10 D B f cy).symm
        | ⟨11, _⟩ => exact congrArg some (ce_11 D B f cy).symm
        | ⟨12, _⟩ => exact congrArg some (ce_12 D B f cy).symm
        | ⟨13, _⟩ => exact congrArg some (ce_13 D B f cy).symm
        | ⟨14, _⟩ => exact congrArg some (ce_14 D B f cy).symm
        | ⟨15, _⟩ => exact congrArg some (ce_15 D B f cy).symm
        | ⟨16, _⟩ => exact congrArg some (ce_16 D B f cy).symm
        | ⟨17, _⟩ => exact congrArg some (ce_17 D B f cy).symm
        | ⟨18, _⟩ => exact congrArg some (ce_18 D B f cy).symm
        | ⟨19, _⟩ => exact congrArg some (ce_19 D B f cy).symm
        | ⟨20, _⟩ => exact congrArg some (ce_20 D B f cy).symm
        | ⟨21, _⟩ => exact congrArg some (ce_21 D B f cy).symm
        | ⟨22, _⟩ => exact congrArg some (ce_22 D B f cy).symm
        | ⟨23, _⟩ => exact congrArg some (ce_23 D B f cy).symm
        | ⟨24, _⟩ => exact congrArg some (ce_24 D B f cy).symm
        | ⟨25, _⟩ => exact congrArg some (ce_25 D B f cy).symm
        | ⟨26, _⟩ => exact congrArg some (ce_26 D B f cy).symm
        | ⟨27, _⟩ => exact congrArg some (ce_27 D B f cy).symm
        | ⟨28, _⟩ => exact congrArg some (ce_28 D B f cy).symm
        | ⟨29, _⟩ => exact congrArg some (ce_29 D B f cy).symm
        | ⟨30, _⟩ => exact congrArg some (ce_30 D B f cy).symm
        | ⟨31, _⟩ => exact congrArg some (ce_31 D B f cy).symm
        | ⟨32, _⟩ => exact congrArg some (ce_32 D B f cy).symm
        | ⟨33, _⟩ => exact congrArg some (ce_33 D B f cy).symm
        | ⟨34, _⟩ => exact congrArg some (ce_34 D B f cy).symm
        | ⟨35, _⟩ => exact congrArg some (ce_35 D B f cy).symm
        | ⟨36, _⟩ => exact congrArg some (ce_36 D B f cy).symm
        | ⟨37, _⟩ => exact congrArg some (ce_37 D B f cy).symm
        | ⟨38, _⟩ => exact congrArg some (ce_38 D B f cy).symm
        | ⟨39, _⟩ => exact congrArg some (ce_39 D B f cy).symm
        | ⟨40, _⟩ => exact congrArg some (ce_40 D B f cy).symm
        | ⟨41, _⟩ => exact congrArg some (ce_41 D B f cy).symm
        | ⟨42, _⟩ => exact congrArg some (ce_42 D B f cy).symm
        | ⟨43, _⟩ => exact congrArg some (ce_43 D B f cy).symm
        | ⟨44, _⟩ => exact congrArg some (ce_44 D B f cy).symm
        | ⟨45, _⟩ => exact congrArg some (ce_45 D B f cy).symm
        | ⟨46, _⟩ => exact congrArg some (ce_46 D B f cy).symm
        | ⟨47, _⟩ => exact congrArg some (ce_47 D B f cy).symm
        | ⟨48, _⟩ => exact congrArg some (ce_48 D B f cy).symm
        | ⟨49, _⟩ => exact congrArg some (ce_49 D B f cy).symm
        | ⟨50, _⟩ => exact congrArg some (ce_50 D B f cy).symm
        | ⟨51, _⟩ => exact congrArg some (ce_51 D B f cy).symm
        | ⟨52, _⟩ => exact congrArg some (ce_52 D B f cy).symm
        | ⟨53, _⟩ => exact congrArg some (ce_53 D B f cy).symm
        | ⟨54, _⟩ => exact congrArg some (ce_54 D B f cy).symm
        | ⟨55, _⟩ => exact congrArg some (ce_55 D B f cy).symm
        | ⟨56, _⟩ => exact congrArg some (ce_56 D B f cy).symm
        | ⟨57, _⟩ => exact congrArg some (ce_57 D B f cy).symm
        | ⟨58, _⟩ => exact congrArg some (ce_58 D B f cy).symm
        | ⟨59, _⟩ => exact congrArg some (ce_59 D B f cy).symm
        | ⟨60, _⟩ => exact congrArg some (ce_60 D B f cy).symm
        | ⟨61, _⟩ => exact congrArg some (ce_61 D B f cy).symm
        | ⟨62, _⟩ => exact congrArg some (ce_62 D B f cy).symm
        | ⟨63, _⟩ => exact congrArg some (ce_63 D B f cy).symm
        | ⟨64, _⟩ => exact congrArg some (ce_64 D B f cy).symm
        | ⟨65, _⟩ => exact congrArg some (ce_65 D B f cy).symm
        | ⟨66, _⟩ => exact congrArg some (ce_66 D B f cy).symm
        | ⟨67, _⟩ => exact congrArg some (ce_67 D B f cy).symm
        | ⟨68, _⟩ => exact congrArg some (ce_68 D B f cy).symm
        | ⟨69, _⟩ => exact congrArg some (ce_69 D B f cy).symm
        | ⟨70, _⟩ => exact congrArg some (ce_70 D B f cy).symm
        | ⟨71, _⟩ => exact congrArg some (ce_71 D B f cy).symm
        | ⟨72, _⟩ => exact congrArg some (ce_72 D B f cy).symm
        | ⟨73, _⟩ => exact congrArg some (ce_73 D B f cy).symm
        | ⟨74, _⟩ => exact congrArg some (ce_74 D B f cy).symm
        | ⟨75, _⟩ => exact congrArg some (ce_75 D B f cy).symm
        | ⟨76, _⟩ => exact congrArg some (ce_76 D B f cy).symm
        | ⟨77, _⟩ => exact congrArg some (ce_77 D B f cy).symm
        | ⟨78, _⟩ => exact congrArg some (ce_78 D B f cy).symm
        | ⟨79, _⟩ => exact congrArg some (ce_79 D B f cy).symm
        | ⟨80, _⟩ => exact congrArg some (ce_80 D B f cy).symm
        | ⟨81, _⟩ => exact congrArg some (ce_81 D B f cy).symm
        | ⟨82, _⟩ => exact congrArg some (ce_82 D B f cy).symm
        | ⟨83, _⟩ => exact congrArg some (ce_83 D B f cy).symm
        | ⟨84, _⟩ => exact congrArg some (ce_84 D B f cy).symm
        | ⟨85, _⟩ => exact congrArg some (ce_85 D B f cy).symm
        | ⟨86, _⟩ => exact congrArg some (ce_86 D B f cy).symm
        | ⟨87, _⟩ => exact congrArg some (ce_87 D B f cy).symm
        | ⟨88, _⟩ => exact congrArg some (ce_88 D B f cy).symm
        | ⟨89, _⟩ => exact congrArg some (ce_89 D B f cy).symm
        | ⟨90, _⟩ => exact congrArg some (ce_90 D B f cy).symm
        | ⟨n + 91, h⟩ => exact absurd h (by omega)
      exact this ⟨k, hk⟩
    rw [wsB_get _ B k _ hc]
    show some (B + k, _) = some (if k < 91 then B + k else f (k - 91), _)
    rw [if_pos hk]
  · rw [List.getElem?_eq_none, List.getElem?_eq_none]
    · have e : NC = 91 := rfl
      simp [wsOf]; omega
    · have : ∀ (cs : List va_E) (B : Nat), (wsB B cs).length = cs.length := by
        intro cs
        induction cs with
        | nil => intro B; rfl
        | cons a l ih => intro B; simp [wsB, ih]
      rw [this]
      show 91 ≤ k
      omega
abbrev eUp (E : Amb) (c k : Nat) : Amb := (eP E, eL E, eE E, eR E, eS E, eM E, eA E, eB E, eT E, eC E, eQ E, c, k)
theorem Cx.up {Z : Zw} {A : Nat → Prop} {E : Amb} {cc : ByteArray} {own : String} {nL : Nat} {rm : Room} (C : Cx Z A E cc own nL rm) {c k : Nat} (h1 : c ≤ rm.cells) (h2 : k ≤ rm.slots) : Cx Z A (eUp E c k) cc own nL rm := ⟨C.x, C.b, C.m, C.o, C.t, C.k, C.r, C.ap, C.in, C.s, h1, h2⟩
theorem u_to_v {Z : Zw} {B : Nat} {E : Amb} {nL c k : Nat} {cs : List va_E} {w : Wd} {pc : Nat} {lv : List (Nat × Value)} {st : List Value} (hw : wsB B cs = wsOf Z w) (kk : V Z (aB B) (eUp E c k) nL w pc lv st) : U Z B E nL c k cs pc lv st := fun H locs ls _ hP hS hl => kk H locs ls (by rw [← hw]; exact hP) hS hl
abbrev qM (Z : Zw) (B : Nat) (Q : Wd → Prop) : Array Value → State → Outcome → State → Prop := va_Qv (fun w : Wd => Q w) (bWd Z) (aB B)
abbrev CtM (Z : Zw) (l : Launch) (y : MethodName) (cc : ByteArray) (mL : Nat) (rm : Room) (vs : List Value) (B : Nat) (cs : List va_E) (Q : Wd → Prop) (mc ms : Nat) : Prop := Met l y (Cond.code y cc mL none :: uw) rm (va_Pc vs (Wac Z B cs)) (qM Z B Q) mc ms (aB B)
theorem cm_of {Z : Zw} {l : Launch} {y : MethodName} {cc : ByteArray} {mL mc ms B : Nat} {rm : Room} {vs : List Value} {cs : List va_E} {Q : Wd → Prop} (hy : plainName y.cls = true) (hn : y.name = "<init>") (hlen : (lg_sl vs).length ≤ mL)
    (body : ∀ E : Amb, eL E = l → Cx Z (aB B) E cc y.cls mL rm → Nws (eS E) → (eT E).name = "<init>" → ((eT E).sig.returnType = none ∧ (eT E).locks = false ∧ eQ E = MQ (eB E) (qM Z B Q) (eA E) (eS E) mc ms (aB B)) → U Z B E mL 0 0 cs 0 (lv_args 0 vs) []) : CtM Z l y cc mL rm vs B cs Q mc ms := by
  refine Met.ofW (cc := cc) (maxL := mL) (ret := none) hy rfl ?_
  intro p e s m args below meth c s₁ B0 hml hv
  obtain ⟨rfl, hz, hP, hK, hAp, hB, hSt, hN⟩ := hv
  have hts := atoms_spec (ws := Cond.code y cc mL none :: uw) B0.pre
  have h := body (p, l, e, rm, s, m, vs.toArray, below, meth, c, MQ below (qM Z B Q) vs.toArray s mc ms (aB B), 0, 0) rfl ⟨B0.exec, B0.bytes, hml, findClass_of_methodNamed B0.named, fun x hx => hts x (List.mem_cons_of_mem _ hx), hK, rfl, hAp, hB, hSt, Nat.zero_le _, Nat.zero_le _⟩ hN (by rw [(name_of_methodNamed B0.named B0.method).1]; exact hn) ⟨B0.returns, B0.notSynchronized, rfl⟩
  rw [lg_entry_eq]
  exact h s.heap [] _ hz hP va_S.rf (lv_entry vs hlen)
theorem v_mret {Z : Zw} {B : Nat} {E : Amb} {cc : ByteArray} {own : String} {nL pc c k : Nat} {rm : Room} {w : Wd} {lv : List (Nat × Value)} (C : Cx Z (aB B) (eUp E c k) cc own nL rm) {Q : Wd → Prop} (R : (eT E).sig.returnType = none ∧ (eT E).locks = false ∧ eQ E = MQ (eB E) (qM Z B Q) (eA E) (eS E) c k (aB B)) (h : Q w) (d : decode cc pc = .ok (.return_, 1)) : V Z (aB B) (eUp E c k) nL w pc lv [] := fun H locs ls hP hS hl => by
  show W (eP E) (eL E) (eE E) (eR E) (eS E) (eM E) (eA E) (eB E) (eT E) (eC E) H locs c k (eQ E) _
  rw [R.2.2]
  exact W.vret C.x C.b R.1 (fun t ht hW => ⟨⟨w, rfl, h, by show va_P _ _ _ t.heap; rw [ht]; exact hP⟩, hS.F ht⟩) hS.2.2 d R.2.1
def X11_keys (Q : Wd → Prop) : Prop := X11_letters 112 111 115 116 0 0 0 w0 (fun y1 w11 => (ix 0 4 ∧ ∀ w21, w21 = wt w11 72 0 y1 → X11_letters 108 105 110 101 0 0 0 w21 (fun y2 w12 => (ix 1 4 ∧ ∀ w22, w22 = wt w12 72 1 y2 → X11_letters 116 119 105 115 116 101 100 w22 (fun y3 w13 => (ix 2 4 ∧ ∀ w23, w23 = wt w13 72 2 y3 → X11_letters 114 111 117 110 100 0 0 w23 (fun y4 w14 => (ix 3 4 ∧ ∀ w24, w24 = wt w14 72 3 y4 → Q w24))))))))
abbrev rmc_X11 : Room := { frames := 3, cells := 25, slots := 10449, locals := 200 }
theorem mf_X11_init : MfB yX11_init cX11_init 1 none 0 := ⟨wd_1062, wd_13, by decide, by decide, by decide +kernel⟩
set_option maxRecDepth 100000 in
set_option maxHeartbeats 4000000 in
theorem n_X11 {D : va_G} {f : Nat → Nat} {cy : Nat → ClassId} {l : Launch} {B : Nat} {Q : Wd → Prop} (h : X11_keys Q) : CtM (mkZ D B f cy) l yX11_init cX11_init 1 rmc_X11 [.ref (B + 65)] B (csX (mkZ D B f cy) B ++ [.inr (11, [.int 0, .null, .int 0, .null, .int 0, .null, .null, .null, .null, .null, .int 0, .int 0, .int 0, .int 0, .int 0, .int 0, .int 0, .null, .null, .null, .int 0, .int 0, .null, .int 0, .int 0, .null, .null, .null, .null, .null, .null, .null, .null, .int 0, .int 0, .int 0, .null, .null, .null, .null, .null, .null, .int 0])]) Q 25 10449 := by
  refine cm_of (by decide) rfl (Nat.le_of_ble_eq_true rfl) (fun E eE C hN hI R => ?_)
  subst eE
  generalize hZ : mkZ D B f cy = Z at C R ⊢
  have C : Cx Z (aB B) E cX11_init "HandleFacesModel" 1 rmc_X11 := C
  show U Z B E 1 0 0 _ 0 [(0, .ref (B + 65))] []
  obtain ⟨cs, hcs⟩ : ∃ z, z = csX Z B ++ [.inr (11, [.int 0, .null, .int 0, .null, .int 0, .null, .null, .null, .null, .null, .int 0, .int 0, .int 0, .int 0, .int 0, .int 0, .int 0, .null, .null, .null, .int 0, .int 0, .null, .int 0, .int 0, .null, .null, .null, .null, .null, .null, .null, .null, .int 0, .int 0, .int 0, .null, .null, .null, .null, .null, .null, .int 0])] := ⟨_, rfl⟩
  have hn : cs.length = 66 := by rw [hcs]; rfl
  have hr : 65 < 66 := by decide
  have he : cs[65]? = some (.inr (11, [.int 0, .null, .int 0, .null, .int 0, .null, .null, .null, .null, .null, .int 0, .int 0, .int 0, .int 0, .int 0, .int 0, .int 0, .null, .null, .null, .int 0, .int 0, .null, .int 0, .int 0, .null, .null, .null, .null, .null, .null, .null, .null, .int 0, .int 0, .int 0, .null, .null, .null, .null, .null, .null, .int 0])) := by rw [hcs]; rfl
  rw [← hcs, nf0 he]
  refine u_aload_n C dX11_init_0 0 rfl ?_
  refine u_obj C wd_1063 wd_27 wd_28 (Nat.le_of_ble_eq_true rfl) (Nat.le_of_ble_eq_true rfl) dX11_init_1 ?_
  refine u_aload_n C dX11_init_4 0 rfl ?_
  refine u_sipush C dX11_init_5 (by decide) ?_
  refine w_newB C hn 0 rfl [.inl (Z.2.2 2, 2000, .inl fun _ => 0)] 2000 wd_144 (by decide) (by decide) (by decide) (Nat.le_of_ble_eq_true rfl) (Nat.le_of_ble_eq_true rfl) dX11_init_8 rfl ?_
  refine w_putF C hr hn hI [.int 0, .ref (B + (66 + 0)), .int 0, .null, .int 0, .null, .null, .null, .null, .null, .int 0, .int 0, .int 0, .int 0, .int 0, .int 0, .int 0, .null, .null, .null, .int 0, .int 0, .null, .int 0, .int 0, .null, .null, .null, .null, .null, .null, .null, .null, .int 0, .int 0, .int 0, .null, .null, .null, .null, .null, .null, .int 0] tyX11 rfl inX11 tyX11_ok nmX11 (j := 1) (by decide) rfl rfl (tyX11_ok 1 (by decide)) rfl rfl (Nat.le_of_ble_eq_true rfl) wd_1071 dX11_init_10 rfl ?_
  refine u_aload_n C dX11_init_13 0 rfl ?_
  refine u_sipush C dX11_init_14 (by decide) ?_
  refine w_newB C hn 1 rfl [.inl (Z.2.2 2, 2000, .inl fun _ => 0), .inl (Z.2.2 2, 2000, .inl fun _ => 0)] 2000 wd_144 (by decide) (by decide) (by decide) (Nat.le_of_ble_eq_true rfl) (Nat.le_of_ble_eq_true rfl) dX11_init_17 rfl ?_
  refine w_putF C hr hn hI [.int 0, .ref (B + (66 + 0)), .int 0, .ref (B + (66 + 1)), .int 0, .null, .null, .null, .null, .null, .int 0, .int 0, .int 0, .int 0, .int 0, .int 0, .int 0, .null, .null, .null, .int 0, .int 0, .null, .int 0, .int 0, .null, .null, .null, .null, .null, .null, .null, .null, .int 0, .int 0, .int 0, .null, .null, .null, .null, .null, .null, .int 0] tyX11 rfl inX11 tyX11_ok nmX11 (j := 3) (by decide) rfl rfl (tyX11_ok 3 (by decide)) rfl rfl (Nat.le_of_ble_eq_true rfl) wd_1073 dX11_init_19 rfl ?_
  refine u_aload_n C dX11_init_22 0 rfl ?_
  refine u_sipush C dX11_init_23 (by decide) ?_
  refine w_newI C hn 2 rfl [.inl (Z.2.2 2, 2000, .inl fun _ => 0), .inl (Z.2.2 2, 2000, .inl fun _ => 0), .inl (Z.2.2 1, 403, .inl fun _ => 0)] 403 wd_86 (by decide) (by decide) (by decide) (Nat.le_of_ble_eq_true rfl) (Nat.le_of_ble_eq_true rfl) dX11_init_26 rfl ?_
  refine w_putF C hr hn hI [.int 0, .ref (B + (66 + 0)), .int 0, .ref (B + (66 + 1)), .int 0, .ref (B + (66 + 2)), .null, .null, .null, .null, .int 0, .int 0, .int 0, .int 0, .int 0, .int 0, .int 0, .null, .null, .null, .int 0, .int 0, .null, .int 0, .int 0, .null, .null, .null, .null, .null, .null, .null, .null, .int 0, .int 0, .int 0, .null, .null, .null, .null, .null, .null, .int 0] tyX11 rfl inX11 tyX11_ok nmX11 (j := 5) (by decide) rfl rfl (tyX11_ok 5 (by decide)) rfl rfl (Nat.le_of_ble_eq_true rfl) wd_1075 dX11_init_28 rfl ?_
  refine u_aload_n C dX11_init_31 0 rfl ?_
  refine u_sipush C dX11_init_32 (by decide) ?_
  refine w_newI C hn 3 rfl [.inl (Z.2.2 2, 2000, .inl fun _ => 0), .inl (Z.2.2 2, 2000, .inl fun _ => 0), .inl (Z.2.2 1, 403, .inl fun _ => 0), .inl (Z.2.2 1, 403, .inl fun _ => 0)] 403 wd_86 (by decide) (by decide) (by decide) (Nat.le_of_ble_eq_true rfl) (Nat.le_of_ble_eq_true rfl) dX11_init_35 rfl ?_
  refine w_putF C hr hn hI [.int 0, .ref (B + (66 + 0)), .int 0, .ref (B + (66 + 1)), .int 0, .ref (B + (66 + 2)), .ref (B + (66 + 3)), .null, .null, .null, .int 0, .int 0, .int 0, .int 0, .int 0, .int 0, .int 0, .null, .null, .null, .int 0, .int 0, .null, .int 0, .int 0, .null, .null, .null, .null, .null, .null, .null, .null, .int 0, .int 0, .int 0, .null, .null, .null, .null, .null, .null, .int 0] tyX11 rfl inX11 tyX11_ok nmX11 (j := 6) (by decide) rfl rfl (tyX11_ok 6 (by decide)) rfl rfl (Nat.le_of_ble_eq_true rfl) wd_1076 dX11_init_37 rfl ?_
  refine u_aload_n C dX11_init_40 0 rfl ?_
  refine u_sipush C dX11_init_41 (by decide) ?_
  refine w_newI C hn 4 rfl [.inl (Z.2.2 2, 2000, .inl fun _ => 0), .inl (Z.2.2 2, 2000, .inl fun _ => 0), .inl (Z.2.2 1, 403, .inl fun _ => 0), .inl (Z.2.2 1, 403, .inl fun _ => 0), .inl (Z.2.2 1, 403, .inl fun _ => 0)] 403 wd_86 (by decide) (by decide) (by decide) (Nat.le_of_ble_eq_true rfl) (Nat.le_of_ble_eq_true rfl) dX11_init_44 rfl ?_
  refine w_putF C hr hn hI [.int 0, .ref (B + (66 + 0)), .int 0, .ref (B + (66 + 1)), .int 0, .ref (B + (66 + 2)), .ref (B + (66 + 3)), .ref (B + (66 + 4)), .null, .null, .int 0, .int 0, .int 0, .int 0, .int 0, .int 0, .int 0, .null, .null, .null, .int 0, .int 0, .null, .int 0, .int 0, .null, .null, .null, .null, .null, .null, .null, .null, .int 0, .int 0, .int 0, .null, .null, .null, .null, .null, .null, .int 0] tyX11 rfl inX11 tyX11_ok nmX11 (j := 7) (by decide) rfl rfl (tyX11_ok 7 (by decide)) rfl rfl (Nat.le_of_ble_eq_true rfl) wd_1077 dX11_init_46 rfl ?_
  refine u_aload_n C dX11_init_49 0 rfl ?_
  refine u_sipush C dX11_init_50 (by decide) ?_
  refine w_newJ C hn 5 rfl [.inl (Z.2.2 2, 2000, .inl fun _ => 0), .inl (Z.2.2 2, 2000, .inl fun _ => 0), .inl (Z.2.2 1, 403, .inl fun _ => 0), .inl (Z.2.2 1, 403, .inl fun _ => 0), .inl (Z.2.2 1, 403, .inl fun _ => 0), .inl (Z.2.2 3, 403, .inr (.inl fun _ => 0))] 403 wd_143 (by decide) (by decide) (by decide) (Nat.le_of_ble_eq_true rfl) (Nat.le_of_ble_eq_true rfl) dX11_init_53 rfl ?_
  refine w_putF C hr hn hI [.int 0, .ref (B + (66 + 0)), .int 0, .ref (B + (66 + 1)), .int 0, .ref (B + (66 + 2)), .ref (B + (66 + 3)), .ref (B + (66 + 4)), .ref (B + (66 + 5)), .null, .int 0, .int 0, .int 0, .int 0, .int 0, .int 0, .int 0, .null, .null, .null, .int 0, .int 0, .null, .int 0, .int 0, .null, .null, .null, .null, .null, .null, .null, .null, .int 0, .int 0, .int 0, .null, .null, .null, .null, .null, .null, .int 0] tyX11 rfl inX11 tyX11_ok nmX11 (j := 8) (by decide) rfl rfl (tyX11_ok 8 (by decide)) rfl rfl (Nat.le_of_ble_eq_true rfl) wd_1078 dX11_init_55 rfl ?_
  refine u_aload_n C dX11_init_58 0 rfl ?_
  refine u_iconst C dX11_init_59 ?_
  refine w_newJ C hn 6 rfl [.inl (Z.2.2 2, 2000, .inl fun _ => 0), .inl (Z.2.2 2, 2000, .inl fun _ => 0), .inl (Z.2.2 1, 403, .inl fun _ => 0), .inl (Z.2.2 1, 403, .inl fun _ => 0), .inl (Z.2.2 1, 403, .inl fun _ => 0), .inl (Z.2.2 3, 403, .inr (.inl fun _ => 0)), .inl (Z.2.2 3, 4, .inr (.inl fun _ => 0))] 4 wd_143 (by decide) (by decide) (by decide) (Nat.le_of_ble_eq_true rfl) (Nat.le_of_ble_eq_true rfl) dX11_init_60 rfl ?_
  refine w_putF C hr hn hI [.int 0, .ref (B + (66 + 0)), .int 0, .ref (B + (66 + 1)), .int 0, .ref (B + (66 + 2)), .ref (B + (66 + 3)), .ref (B + (66 + 4)), .ref (B + (66 + 5)), .ref (B + (66 + 6)), .int 0, .int 0, .int 0, .int 0, .int 0, .int 0, .int 0, .null, .null, .null, .int 0, .int 0, .null, .int 0, .int 0, .null, .null, .null, .null, .null, .null, .null, .null, .int 0, .int 0, .int 0, .null, .null, .null, .null, .null, .null, .int 0] tyX11 rfl inX11 tyX11_ok nmX11 (j := 9) (by decide) rfl rfl (tyX11_ok 9 (by decide)) rfl rfl (Nat.le_of_ble_eq_true rfl) wd_1079 dX11_init_62 rfl ?_
  refine u_aload_n C dX11_init_65 0 rfl ?_
  refine u_iconst C dX11_init_66 ?_
  refine w_put C hr hn [.int 0, .ref (B + (66 + 0)), .int 0, .ref (B + (66 + 1)), .int 0, .ref (B + (66 + 2)), .ref (B + (66 + 3)), .ref (B + (66 + 4)), .ref (B + (66 + 5)), .ref (B + (66 + 6)), .int 0, .int 0, .int 0, .int 0, .int 0, .int 0, iv (-1), .null, .null, .null, .int 0, .int 0, .null, .int 0, .int 0, .null, .null, .null, .null, .null, .null, .null, .null, .int 0, .int 0, .int 0, .null, .null, .null, .null, .null, .null, .int 0] tyX11 rfl inX11 tyX11_ok nmX11 (j := 16) (by decide) rfl rfl (tyX11_ok 16 (by decide)) (vp_nar_int _) rfl (Nat.le_of_ble_eq_true rfl) wd_1086 dX11_init_67 rfl ?_
  refine u_aload_n C dX11_init_70 0 rfl ?_
  refine u_bipush C dX11_init_71 (by decide) ?_
  refine w_newI C hn 7 rfl [.inl (Z.2.2 2, 2000, .inl fun _ => 0), .inl (Z.2.2 2, 2000, .inl fun _ => 0), .inl (Z.2.2 1, 403, .inl fun _ => 0), .inl (Z.2.2 1, 403, .inl fun _ => 0), .inl (Z.2.2 1, 403, .inl fun _ => 0), .inl (Z.2.2 3, 403, .inr (.inl fun _ => 0)), .inl (Z.2.2 3, 4, .inr (.inl fun _ => 0)), .inl (Z.2.2 1, 98, .inl fun _ => 0)] 98 wd_86 (by decide) (by decide) (by decide) (Nat.le_of_ble_eq_true rfl) (Nat.le_of_ble_eq_true rfl) dX11_init_73 rfl ?_
  refine w_putF C hr hn hI [.int 0, .ref (B + (66 + 0)), .int 0, .ref (B + (66 + 1)), .int 0, .ref (B + (66 + 2)), .ref (B + (66 + 3)), .ref (B + (66 + 4)), .ref (B + (66 + 5)), .ref (B + (66 + 6)), .int 0, .int 0, .int 0, .int 0, .int 0, .int 0, iv (-1), .ref (B + (66 + 7)), .null, .null, .int 0, .int 0, .null, .int 0, .int 0, .null, .null, .null, .null, .null, .null, .null, .null, .int 0, .int 0, .int 0, .null, .null, .null, .null, .null, .null, .int 0] tyX11 rfl inX11 tyX11_ok nmX11 (j := 17) (by decide) rfl rfl (tyX11_ok 17 (by decide)) rfl rfl (Nat.le_of_ble_eq_true rfl) wd_1087 dX11_init_75 rfl ?_
  refine u_aload_n C dX11_init_78 0 rfl ?_
  refine u_bipush C dX11_init_79 (by decide) ?_
  refine w_newI C hn 8 rfl [.inl (Z.2.2 2, 2000, .inl fun _ => 0), .inl (Z.2.2 2, 2000, .inl fun _ => 0), .inl (Z.2.2 1, 403, .inl fun _ => 0), .inl (Z.2.2 1, 403, .inl fun _ => 0), .inl (Z.2.2 1, 403, .inl fun _ => 0), .inl (Z.2.2 3, 403, .inr (.inl fun _ => 0)), .inl (Z.2.2 3, 4, .inr (.inl fun _ => 0)), .inl (Z.2.2 1, 98, .inl fun _ => 0), .inl (Z.2.2 1, 98, .inl fun _ => 0)] 98 wd_86 (by decide) (by decide) (by decide) (Nat.le_of_ble_eq_true rfl) (Nat.le_of_ble_eq_true rfl) dX11_init_81 rfl ?_
  refine w_putF C hr hn hI [.int 0, .ref (B + (66 + 0)), .int 0, .ref (B + (66 + 1)), .int 0, .ref (B + (66 + 2)), .ref (B + (66 + 3)), .ref (B + (66 + 4)), .ref (B + (66 + 5)), .ref (B + (66 + 6)), .int 0, .int 0, .int 0, .int 0, .int 0, .int 0, iv (-1), .ref (B + (66 + 7)), .ref (B + (66 + 8)), .null, .int 0, .int 0, .null, .int 0, .int 0, .null, .null, .null, .null, .null, .null, .null, .null, .int 0, .int 0, .int 0, .null, .null, .null, .null, .null, .null, .int 0] tyX11 rfl inX11 tyX11_ok nmX11 (j := 18) (by decide) rfl rfl (tyX11_ok 18 (by decide)) rfl rfl (Nat.le_of_ble_eq_true rfl) wd_1088 dX11_init_83 rfl ?_
  refine u_aload_n C dX11_init_86 0 rfl ?_
  refine u_bipush C dX11_init_87 (by decide) ?_
  refine w_newJ C hn 9 rfl [.inl (Z.2.2 2, 2000, .inl fun _ => 0), .inl (Z.2.2 2, 2000, .inl fun _ => 0), .inl (Z.2.2 1, 403, .inl fun _ => 0), .inl (Z.2.2 1, 403, .inl fun _ => 0), .inl (Z.2.2 1, 403, .inl fun _ => 0), .inl (Z.2.2 3, 403, .inr (.inl fun _ => 0)), .inl (Z.2.2 3, 4, .inr (.inl fun _ => 0)), .inl (Z.2.2 1, 98, .inl fun _ => 0), .inl (Z.2.2 1, 98, .inl fun _ => 0), .inl (Z.2.2 3, 6, .inr (.inl fun _ => 0))] 6 wd_143 (by decide) (by decide) (by decide) (Nat.le_of_ble_eq_true rfl) (Nat.le_of_ble_eq_true rfl) dX11_init_89 rfl ?_
  refine w_putF C hr hn hI [.int 0, .ref (B + (66 + 0)), .int 0, .ref (B + (66 + 1)), .int 0, .ref (B + (66 + 2)), .ref (B + (66 + 3)), .ref (B + (66 + 4)), .ref (B + (66 + 5)), .ref (B + (66 + 6)), .int 0, .int 0, .int 0, .int 0, .int 0, .int 0, iv (-1), .ref (B + (66 + 7)), .ref (B + (66 + 8)), .ref (B + (66 + 9)), .int 0, .int 0, .null, .int 0, .int 0, .null, .null, .null, .null, .null, .null, .null, .null, .int 0, .int 0, .int 0, .null, .null, .null, .null, .null, .null, .int 0] tyX11 rfl inX11 tyX11_ok nmX11 (j := 19) (by decide) rfl rfl (tyX11_ok 19 (by decide)) rfl rfl (Nat.le_of_ble_eq_true rfl) wd_1089 dX11_init_91 rfl ?_
  refine u_aload_n C dX11_init_94 0 rfl ?_
  refine u_sipush C dX11_init_95 (by decide) ?_
  refine w_newI C hn 10 rfl [.inl (Z.2.2 2, 2000, .inl fun _ => 0), .inl (Z.2.2 2, 2000, .inl fun _ => 0), .inl (Z.2.2 1, 403, .inl fun _ => 0), .inl (Z.2.2 1, 403, .inl fun _ => 0), .inl (Z.2.2 1, 403, .inl fun _ => 0), .inl (Z.2.2 3, 403, .inr (.inl fun _ => 0)), .inl (Z.2.2 3, 4, .inr (.inl fun _ => 0)), .inl (Z.2.2 1, 98, .inl fun _ => 0), .inl (Z.2.2 1, 98, .inl fun _ => 0), .inl (Z.2.2 3, 6, .inr (.inl fun _ => 0)), .inl (Z.2.2 1, 3920, .inl fun _ => 0)] 3920 wd_86 (by decide) (by decide) (by decide) (Nat.le_of_ble_eq_true rfl) (Nat.le_of_ble_eq_true rfl) dX11_init_98 rfl ?_
  refine w_putF C hr hn hI [.int 0, .ref (B + (66 + 0)), .int 0, .ref (B + (66 + 1)), .int 0, .ref (B + (66 + 2)), .ref (B + (66 + 3)), .ref (B + (66 + 4)), .ref (B + (66 + 5)), .ref (B + (66 + 6)), .int 0, .int 0, .int 0, .int 0, .int 0, .int 0, iv (-1), .ref (B + (66 + 7)), .ref (B + (66 + 8)), .ref (B + (66 + 9)), .int 0, .int 0, .ref (B + (66 + 10)), .int 0, .int 0, .null, .null, .null, .null, .null, .null, .null, .null, .int 0, .int 0, .int 0, .null, .null, .null, .null, .null, .null, .int 0] tyX11 rfl inX11 tyX11_ok nmX11 (j := 22) (by decide) rfl rfl (tyX11_ok 22 (by decide)) rfl rfl (Nat.le_of_ble_eq_true rfl) wd_1092 dX11_init_100 rfl ?_
  refine u_aload_n C dX11_init_103 0 rfl ?_
  refine u_sipush C dX11_init_104 (by decide) ?_
  refine w_newI C hn 11 rfl [.inl (Z.2.2 2, 2000, .inl fun _ => 0), .inl (Z.2.2 2, 2000, .inl fun _ => 0), .inl (Z.2.2 1, 403, .inl fun _ => 0), .inl (Z.2.2 1, 403, .inl fun _ => 0), .inl (Z.2.2 1, 403, .inl fun _ => 0), .inl (Z.2.2 3, 403, .inr (.inl fun _ => 0)), .inl (Z.2.2 3, 4, .inr (.inl fun _ => 0)), .inl (Z.2.2 1, 98, .inl fun _ => 0), .inl (Z.2.2 1, 98, .inl fun _ => 0), .inl (Z.2.2 3, 6, .inr (.inl fun _ => 0)), .inl (Z.2.2 1, 3920, .inl fun _ => 0), .inl (Z.2.2 1, 294, .inl fun _ => 0)] 294 wd_86 (by decide) (by decide) (by decide) (Nat.le_of_ble_eq_true rfl) (Nat.le_of_ble_eq_true rfl) dX11_init_107 rfl ?_
  refine w_putF C hr hn hI [.int 0, .ref (B + (66 + 0)), .int 0, .ref (B + (66 + 1)), .int 0, .ref (B + (66 + 2)), .ref (B + (66 + 3)), .ref (B + (66 + 4)), .ref (B + (66 + 5)), .ref (B + (66 + 6)), .int 0, .int 0, .int 0, .int 0, .int 0, .int 0, iv (-1), .ref (B + (66 + 7)), .ref (B + (66 + 8)), .ref (B + (66 + 9)), .int 0, .int 0, .ref (B + (66 + 10)), .int 0, .int 0, .ref (B + (66 + 11)), .null, .null, .null, .null, .null, .null, .null, .int 0, .int 0, .int 0, .null, .null, .null, .null, .null, .null, .int 0] tyX11 rfl inX11 tyX11_ok nmX11 (j := 25) (by decide) rfl rfl (tyX11_ok 25 (by decide)) rfl rfl (Nat.le_of_ble_eq_true rfl) wd_1095 dX11_init_109 rfl ?_
  refine u_aload_n C dX11_init_112 0 rfl ?_
  refine u_iconst C dX11_init_113 ?_
  refine w_newZ C hn 12 rfl [.inl (Z.2.2 2, 2000, .inl fun _ => 0), .inl (Z.2.2 2, 2000, .inl fun _ => 0), .inl (Z.2.2 1, 403, .inl fun _ => 0), .inl (Z.2.2 1, 403, .inl fun _ => 0), .inl (Z.2.2 1, 403, .inl fun _ => 0), .inl (Z.2.2 3, 403, .inr (.inl fun _ => 0)), .inl (Z.2.2 3, 4, .inr (.inl fun _ => 0)), .inl (Z.2.2 1, 98, .inl fun _ => 0), .inl (Z.2.2 1, 98, .inl fun _ => 0), .inl (Z.2.2 3, 6, .inr (.inl fun _ => 0)), .inl (Z.2.2 1, 3920, .inl fun _ => 0), .inl (Z.2.2 1, 294, .inl fun _ => 0), .inl (Z.2.2 4, 3, .inl fun _ => 0)] 3 wd_1200 (by decide) (by decide) (by decide) (Nat.le_of_ble_eq_true rfl) (Nat.le_of_ble_eq_true rfl) dX11_init_114 rfl ?_
  refine w_putF C hr hn hI [.int 0, .ref (B + (66 + 0)), .int 0, .ref (B + (66 + 1)), .int 0, .ref (B + (66 + 2)), .ref (B + (66 + 3)), .ref (B + (66 + 4)), .ref (B + (66 + 5)), .ref (B + (66 + 6)), .int 0, .int 0, .int 0, .int 0, .int 0, .int 0, iv (-1), .ref (B + (66 + 7)), .ref (B + (66 + 8)), .ref (B + (66 + 9)), .int 0, .int 0, .ref (B + (66 + 10)), .int 0, .int 0, .ref (B + (66 + 11)), .ref (B + (66 + 12)), .null, .null, .null, .null, .null, .null, .int 0, .int 0, .int 0, .null, .null, .null, .null, .null, .null, .int 0] tyX11 rfl inX11 tyX11_ok nmX11 (j := 26) (by decide) rfl rfl (tyX11_ok 26 (by decide)) rfl rfl (Nat.le_of_ble_eq_true rfl) wd_1096 dX11_init_116 rfl ?_
  refine u_aload_n C dX11_init_119 0 rfl ?_
  refine u_bipush C dX11_init_120 (by decide) ?_
  refine w_newI C hn 13 rfl [.inl (Z.2.2 2, 2000, .inl fun _ => 0), .inl (Z.2.2 2, 2000, .inl fun _ => 0), .inl (Z.2.2 1, 403, .inl fun _ => 0), .inl (Z.2.2 1, 403, .inl fun _ => 0), .inl (Z.2.2 1, 403, .inl fun _ => 0), .inl (Z.2.2 3, 403, .inr (.inl fun _ => 0)), .inl (Z.2.2 3, 4, .inr (.inl fun _ => 0)), .inl (Z.2.2 1, 98, .inl fun _ => 0), .inl (Z.2.2 1, 98, .inl fun _ => 0), .inl (Z.2.2 3, 6, .inr (.inl fun _ => 0)), .inl (Z.2.2 1, 3920, .inl fun _ => 0), .inl (Z.2.2 1, 294, .inl fun _ => 0), .inl (Z.2.2 4, 3, .inl fun _ => 0), .inl (Z.2.2 1, 40, .inl fun _ => 0)] 40 wd_86 (by decide) (by decide) (by decide) (Nat.le_of_ble_eq_true rfl) (Nat.le_of_ble_eq_true rfl) dX11_init_122 rfl ?_
  refine w_putF C hr hn hI [.int 0, .ref (B + (66 + 0)), .int 0, .ref (B + (66 + 1)), .int 0, .ref (B + (66 + 2)), .ref (B + (66 + 3)), .ref (B + (66 + 4)), .ref (B + (66 + 5)), .ref (B + (66 + 6)), .int 0, .int 0, .int 0, .int 0, .int 0, .int 0, iv (-1), .ref (B + (66 + 7)), .ref (B + (66 + 8)), .ref (B + (66 + 9)), .int 0, .int 0, .ref (B + (66 + 10)), .int 0, .int 0, .ref (B + (66 + 11)), .ref (B + (66 + 12)), .ref (B + (66 + 13)), .null, .null, .null, .null, .null, .int 0, .int 0, .int 0, .null, .null, .null, .null, .null, .null, .int 0] tyX11 rfl inX11 tyX11_ok nmX11 (j := 27) (by decide) rfl rfl (tyX11_ok 27 (by decide)) rfl rfl (Nat.le_of_ble_eq_true rfl) wd_1097 dX11_init_124 rfl ?_
  refine u_aload_n C dX11_init_127 0 rfl ?_
  refine u_bipush C dX11_init_128 (by decide) ?_
  refine w_newI C hn 14 rfl [.inl (Z.2.2 2, 2000, .inl fun _ => 0), .inl (Z.2.2 2, 2000, .inl fun _ => 0), .inl (Z.2.2 1, 403, .inl fun _ => 0), .inl (Z.2.2 1, 403, .inl fun _ => 0), .inl (Z.2.2 1, 403, .inl fun _ => 0), .inl (Z.2.2 3, 403, .inr (.inl fun _ => 0)), .inl (Z.2.2 3, 4, .inr (.inl fun _ => 0)), .inl (Z.2.2 1, 98, .inl fun _ => 0), .inl (Z.2.2 1, 98, .inl fun _ => 0), .inl (Z.2.2 3, 6, .inr (.inl fun _ => 0)), .inl (Z.2.2 1, 3920, .inl fun _ => 0), .inl (Z.2.2 1, 294, .inl fun _ => 0), .inl (Z.2.2 4, 3, .inl fun _ => 0), .inl (Z.2.2 1, 40, .inl fun _ => 0), .inl (Z.2.2 1, 30, .inl fun _ => 0)] 30 wd_86 (by decide) (by decide) (by decide) (Nat.le_of_ble_eq_true rfl) (Nat.le_of_ble_eq_true rfl) dX11_init_130 rfl ?_
  refine w_putF C hr hn hI [.int 0, .ref (B + (66 + 0)), .int 0, .ref (B + (66 + 1)), .int 0, .ref (B + (66 + 2)), .ref (B + (66 + 3)), .ref (B + (66 + 4)), .ref (B + (66 + 5)), .ref (B + (66 + 6)), .int 0, .int 0, .int 0, .int 0, .int 0, .int 0, iv (-1), .ref (B + (66 + 7)), .ref (B + (66 + 8)), .ref (B + (66 + 9)), .int 0, .int 0, .ref (B + (66 + 10)), .int 0, .int 0, .ref (B + (66 + 11)), .ref (B + (66 + 12)), .ref (B + (66 + 13)), .ref (B + (66 + 14)), .null, .null, .null, .null, .int 0, .int 0, .int 0, .null, .null, .null, .null, .null, .null, .int 0] tyX11 rfl inX11 tyX11_ok nmX11 (j := 28) (by decide) rfl rfl (tyX11_ok 28 (by decide)) rfl rfl (Nat.le_of_ble_eq_true rfl) wd_1098 dX11_init_132 rfl ?_
  refine u_aload_n C dX11_init_135 0 rfl ?_
  refine u_bipush C dX11_init_136 (by decide) ?_
  refine w_newI C hn 15 rfl [.inl (Z.2.2 2, 2000, .inl fun _ => 0), .inl (Z.2.2 2, 2000, .inl fun _ => 0), .inl (Z.2.2 1, 403, .inl fun _ => 0), .inl (Z.2.2 1, 403, .inl fun _ => 0), .inl (Z.2.2 1, 403, .inl fun _ => 0), .inl (Z.2.2 3, 403, .inr (.inl fun _ => 0)), .inl (Z.2.2 3, 4, .inr (.inl fun _ => 0)), .inl (Z.2.2 1, 98, .inl fun _ => 0), .inl (Z.2.2 1, 98, .inl fun _ => 0), .inl (Z.2.2 3, 6, .inr (.inl fun _ => 0)), .inl (Z.2.2 1, 3920, .inl fun _ => 0), .inl (Z.2.2 1, 294, .inl fun _ => 0), .inl (Z.2.2 4, 3, .inl fun _ => 0), .inl (Z.2.2 1, 40, .inl fun _ => 0), .inl (Z.2.2 1, 30, .inl fun _ => 0), .inl (Z.2.2 1, 30, .inl fun _ => 0)] 30 wd_86 (by decide) (by decide) (by decide) (Nat.le_of_ble_eq_true rfl) (Nat.le_of_ble_eq_true rfl) dX11_init_138 rfl ?_
  refine w_putF C hr hn hI [.int 0, .ref (B + (66 + 0)), .int 0, .ref (B + (66 + 1)), .int 0, .ref (B + (66 + 2)), .ref (B + (66 + 3)), .ref (B + (66 + 4)), .ref (B + (66 + 5)), .ref (B + (66 + 6)), .int 0, .int 0, .int 0, .int 0, .int 0, .int 0, iv (-1), .ref (B + (66 + 7)), .ref (B + (66 + 8)), .ref (B + (66 + 9)), .int 0, .int 0, .ref (B + (66 + 10)), .int 0, .int 0, .ref (B + (66 + 11)), .ref (B + (66 + 12)), .ref (B + (66 + 13)), .ref (B + (66 + 14)), .ref (B + (66 + 15)), .null, .null, .null, .int 0, .int 0, .int 0, .null, .null, .null, .null, .null, .null, .int 0] tyX11 rfl inX11 tyX11_ok nmX11 (j := 29) (by decide) rfl rfl (tyX11_ok 29 (by decide)) rfl rfl (Nat.le_of_ble_eq_true rfl) wd_1099 dX11_init_140 rfl ?_
  refine u_aload_n C dX11_init_143 0 rfl ?_
  refine u_bipush C dX11_init_144 (by decide) ?_
  refine w_newI C hn 16 rfl [.inl (Z.2.2 2, 2000, .inl fun _ => 0), .inl (Z.2.2 2, 2000, .inl fun _ => 0), .inl (Z.2.2 1, 403, .inl fun _ => 0), .inl (Z.2.2 1, 403, .inl fun _ => 0), .inl (Z.2.2 1, 403, .inl fun _ => 0), .inl (Z.2.2 3, 403, .inr (.inl fun _ => 0)), .inl (Z.2.2 3, 4, .inr (.inl fun _ => 0)), .inl (Z.2.2 1, 98, .inl fun _ => 0), .inl (Z.2.2 1, 98, .inl fun _ => 0), .inl (Z.2.2 3, 6, .inr (.inl fun _ => 0)), .inl (Z.2.2 1, 3920, .inl fun _ => 0), .inl (Z.2.2 1, 294, .inl fun _ => 0), .inl (Z.2.2 4, 3, .inl fun _ => 0), .inl (Z.2.2 1, 40, .inl fun _ => 0), .inl (Z.2.2 1, 30, .inl fun _ => 0), .inl (Z.2.2 1, 30, .inl fun _ => 0), .inl (Z.2.2 1, 6, .inl fun _ => 0)] 6 wd_86 (by decide) (by decide) (by decide) (Nat.le_of_ble_eq_true rfl) (Nat.le_of_ble_eq_true rfl) dX11_init_146 rfl ?_
  refine w_putF C hr hn hI [.int 0, .ref (B + (66 + 0)), .int 0, .ref (B + (66 + 1)), .int 0, .ref (B + (66 + 2)), .ref (B + (66 + 3)), .ref (B + (66 + 4)), .ref (B + (66 + 5)), .ref (B + (66 + 6)), .int 0, .int 0, .int 0, .int 0, .int 0, .int 0, iv (-1), .ref (B + (66 + 7)), .ref (B + (66 + 8)), .ref (B + (66 + 9)), .int 0, .int 0, .ref (B + (66 + 10)), .int 0, .int 0, .ref (B + (66 + 11)), .ref (B + (66 + 12)), .ref (B + (66 + 13)), .ref (B + (66 + 14)), .ref (B + (66 + 15)), .ref (B + (66 + 16)), .null, .null, .int 0, .int 0, .int 0, .null, .null, .null, .null, .null, .null, .int 0] tyX11 rfl inX11 tyX11_ok nmX11 (j := 30) (by decide) rfl rfl (tyX11_ok 30 (by decide)) rfl rfl (Nat.le_of_ble_eq_true rfl) wd_1100 dX11_init_148 rfl ?_
  refine u_aload_n C dX11_init_151 0 rfl ?_
  refine u_bipush C dX11_init_152 (by decide) ?_
  refine w_newI C hn 17 rfl [.inl (Z.2.2 2, 2000, .inl fun _ => 0), .inl (Z.2.2 2, 2000, .inl fun _ => 0), .inl (Z.2.2 1, 403, .inl fun _ => 0), .inl (Z.2.2 1, 403, .inl fun _ => 0), .inl (Z.2.2 1, 403, .inl fun _ => 0), .inl (Z.2.2 3, 403, .inr (.inl fun _ => 0)), .inl (Z.2.2 3, 4, .inr (.inl fun _ => 0)), .inl (Z.2.2 1, 98, .inl fun _ => 0), .inl (Z.2.2 1, 98, .inl fun _ => 0), .inl (Z.2.2 3, 6, .inr (.inl fun _ => 0)), .inl (Z.2.2 1, 3920, .inl fun _ => 0), .inl (Z.2.2 1, 294, .inl fun _ => 0), .inl (Z.2.2 4, 3, .inl fun _ => 0), .inl (Z.2.2 1, 40, .inl fun _ => 0), .inl (Z.2.2 1, 30, .inl fun _ => 0), .inl (Z.2.2 1, 30, .inl fun _ => 0), .inl (Z.2.2 1, 6, .inl fun _ => 0), .inl (Z.2.2 1, 98, .inl fun _ => 0)] 98 wd_86 (by decide) (by decide) (by decide) (Nat.le_of_ble_eq_true rfl) (Nat.le_of_ble_eq_true rfl) dX11_init_154 rfl ?_
  refine w_putF C hr hn hI [.int 0, .ref (B + (66 + 0)), .int 0, .ref (B + (66 + 1)), .int 0, .ref (B + (66 + 2)), .ref (B + (66 + 3)), .ref (B + (66 + 4)), .ref (B + (66 + 5)), .ref (B + (66 + 6)), .int 0, .int 0, .int 0, .int 0, .int 0, .int 0, iv (-1), .ref (B + (66 + 7)), .ref (B + (66 + 8)), .ref (B + (66 + 9)), .int 0, .int 0, .ref (B + (66 + 10)), .int 0, .int 0, .ref (B + (66 + 11)), .ref (B + (66 + 12)), .ref (B + (66 + 13)), .ref (B + (66 + 14)), .ref (B + (66 + 15)), .ref (B + (66 + 16)), .ref (B + (66 + 17)), .null, .int 0, .int 0, .int 0, .null, .null, .null, .null, .null, .null, .int 0] tyX11 rfl inX11 tyX11_ok nmX11 (j := 31) (by decide) rfl rfl (tyX11_ok 31 (by decide)) rfl rfl (Nat.le_of_ble_eq_true rfl) wd_1101 dX11_init_156 rfl ?_
  refine u_aload_n C dX11_init_159 0 rfl ?_
  refine u_bipush C dX11_init_160 (by decide) ?_
  refine w_newI C hn 18 rfl [.inl (Z.2.2 2, 2000, .inl fun _ => 0), .inl (Z.2.2 2, 2000, .inl fun _ => 0), .inl (Z.2.2 1, 403, .inl fun _ => 0), .inl (Z.2.2 1, 403, .inl fun _ => 0), .inl (Z.2.2 1, 403, .inl fun _ => 0), .inl (Z.2.2 3, 403, .inr (.inl fun _ => 0)), .inl (Z.2.2 3, 4, .inr (.inl fun _ => 0)), .inl (Z.2.2 1, 98, .inl fun _ => 0), .inl (Z.2.2 1, 98, .inl fun _ => 0), .inl (Z.2.2 3, 6, .inr (.inl fun _ => 0)), .inl (Z.2.2 1, 3920, .inl fun _ => 0), .inl (Z.2.2 1, 294, .inl fun _ => 0), .inl (Z.2.2 4, 3, .inl fun _ => 0), .inl (Z.2.2 1, 40, .inl fun _ => 0), .inl (Z.2.2 1, 30, .inl fun _ => 0), .inl (Z.2.2 1, 30, .inl fun _ => 0), .inl (Z.2.2 1, 6, .inl fun _ => 0), .inl (Z.2.2 1, 98, .inl fun _ => 0), .inl (Z.2.2 1, 20, .inl fun _ => 0)] 20 wd_86 (by decide) (by decide) (by decide) (Nat.le_of_ble_eq_true rfl) (Nat.le_of_ble_eq_true rfl) dX11_init_162 rfl ?_
  refine w_putF C hr hn hI [.int 0, .ref (B + (66 + 0)), .int 0, .ref (B + (66 + 1)), .int 0, .ref (B + (66 + 2)), .ref (B + (66 + 3)), .ref (B + (66 + 4)), .ref (B + (66 + 5)), .ref (B + (66 + 6)), .int 0, .int 0, .int 0, .int 0, .int 0, .int 0, iv (-1), .ref (B + (66 + 7)), .ref (B + (66 + 8)), .ref (B + (66 + 9)), .int 0, .int 0, .ref (B + (66 + 10)), .int 0, .int 0, .ref (B + (66 + 11)), .ref (B + (66 + 12)), .ref (B + (66 + 13)), .ref (B + (66 + 14)), .ref (B + (66 + 15)), .ref (B + (66 + 16)), .ref (B + (66 + 17)), .ref (B + (66 + 18)), .int 0, .int 0, .int 0, .null, .null, .null, .null, .null, .null, .int 0] tyX11 rfl inX11 tyX11_ok nmX11 (j := 32) (by decide) rfl rfl (tyX11_ok 32 (by decide)) rfl rfl (Nat.le_of_ble_eq_true rfl) wd_1102 dX11_init_164 rfl ?_
  refine u_aload_n C dX11_init_167 0 rfl ?_
  refine u_bipush C dX11_init_168 (by decide) ?_
  refine w_newI C hn 19 rfl [.inl (Z.2.2 2, 2000, .inl fun _ => 0), .inl (Z.2.2 2, 2000, .inl fun _ => 0), .inl (Z.2.2 1, 403, .inl fun _ => 0), .inl (Z.2.2 1, 403, .inl fun _ => 0), .inl (Z.2.2 1, 403, .inl fun _ => 0), .inl (Z.2.2 3, 403, .inr (.inl fun _ => 0)), .inl (Z.2.2 3, 4, .inr (.inl fun _ => 0)), .inl (Z.2.2 1, 98, .inl fun _ => 0), .inl (Z.2.2 1, 98, .inl fun _ => 0), .inl (Z.2.2 3, 6, .inr (.inl fun _ => 0)), .inl (Z.2.2 1, 3920, .inl fun _ => 0), .inl (Z.2.2 1, 294, .inl fun _ => 0), .inl (Z.2.2 4, 3, .inl fun _ => 0), .inl (Z.2.2 1, 40, .inl fun _ => 0), .inl (Z.2.2 1, 30, .inl fun _ => 0), .inl (Z.2.2 1, 30, .inl fun _ => 0), .inl (Z.2.2 1, 6, .inl fun _ => 0), .inl (Z.2.2 1, 98, .inl fun _ => 0), .inl (Z.2.2 1, 20, .inl fun _ => 0), .inl (Z.2.2 1, 30, .inl fun _ => 0)] 30 wd_86 (by decide) (by decide) (by decide) (Nat.le_of_ble_eq_true rfl) (Nat.le_of_ble_eq_true rfl) dX11_init_170 rfl ?_
  refine w_putF C hr hn hI [.int 0, .ref (B + (66 + 0)), .int 0, .ref (B + (66 + 1)), .int 0, .ref (B + (66 + 2)), .ref (B + (66 + 3)), .ref (B + (66 + 4)), .ref (B + (66 + 5)), .ref (B + (66 + 6)), .int 0, .int 0, .int 0, .int 0, .int 0, .int 0, iv (-1), .ref (B + (66 + 7)), .ref (B + (66 + 8)), .ref (B + (66 + 9)), .int 0, .int 0, .ref (B + (66 + 10)), .int 0, .int 0, .ref (B + (66 + 11)), .ref (B + (66 + 12)), .ref (B + (66 + 13)), .ref (B + (66 + 14)), .ref (B + (66 + 15)), .ref (B + (66 + 16)), .ref (B + (66 + 17)), .ref (B + (66 + 18)), .int 0, .int 0, .int 0, .ref (B + (66 + 19)), .null, .null, .null, .null, .null, .int 0] tyX11 rfl inX11 tyX11_ok nmX11 (j := 36) (by decide) rfl rfl (tyX11_ok 36 (by decide)) rfl rfl (Nat.le_of_ble_eq_true rfl) wd_1106 dX11_init_172 rfl ?_
  refine u_aload_n C dX11_init_175 0 rfl ?_
  refine u_bipush C dX11_init_176 (by decide) ?_
  refine w_newI C hn 20 rfl [.inl (Z.2.2 2, 2000, .inl fun _ => 0), .inl (Z.2.2 2, 2000, .inl fun _ => 0), .inl (Z.2.2 1, 403, .inl fun _ => 0), .inl (Z.2.2 1, 403, .inl fun _ => 0), .inl (Z.2.2 1, 403, .inl fun _ => 0), .inl (Z.2.2 3, 403, .inr (.inl fun _ => 0)), .inl (Z.2.2 3, 4, .inr (.inl fun _ => 0)), .inl (Z.2.2 1, 98, .inl fun _ => 0), .inl (Z.2.2 1, 98, .inl fun _ => 0), .inl (Z.2.2 3, 6, .inr (.inl fun _ => 0)), .inl (Z.2.2 1, 3920, .inl fun _ => 0), .inl (Z.2.2 1, 294, .inl fun _ => 0), .inl (Z.2.2 4, 3, .inl fun _ => 0), .inl (Z.2.2 1, 40, .inl fun _ => 0), .inl (Z.2.2 1, 30, .inl fun _ => 0), .inl (Z.2.2 1, 30, .inl fun _ => 0), .inl (Z.2.2 1, 6, .inl fun _ => 0), .inl (Z.2.2 1, 98, .inl fun _ => 0), .inl (Z.2.2 1, 20, .inl fun _ => 0), .inl (Z.2.2 1, 30, .inl fun _ => 0), .inl (Z.2.2 1, 30, .inl fun _ => 0)] 30 wd_86 (by decide) (by decide) (by decide) (Nat.le_of_ble_eq_true rfl) (Nat.le_of_ble_eq_true rfl) dX11_init_178 rfl ?_
  refine w_putF C hr hn hI [.int 0, .ref (B + (66 + 0)), .int 0, .ref (B + (66 + 1)), .int 0, .ref (B + (66 + 2)), .ref (B + (66 + 3)), .ref (B + (66 + 4)), .ref (B + (66 + 5)), .ref (B + (66 + 6)), .int 0, .int 0, .int 0, .int 0, .int 0, .int 0, iv (-1), .ref (B + (66 + 7)), .ref (B + (66 + 8)), .ref (B + (66 + 9)), .int 0, .int 0, .ref (B + (66 + 10)), .int 0, .int 0, .ref (B + (66 + 11)), .ref (B + (66 + 12)), .ref (B + (66 + 13)), .ref (B + (66 + 14)), .ref (B + (66 + 15)), .ref (B + (66 + 16)), .ref (B + (66 + 17)), .ref (B + (66 + 18)), .int 0, .int 0, .int 0, .ref (B + (66 + 19)), .ref (B + (66 + 20)), .null, .null, .null, .null, .int 0] tyX11 rfl inX11 tyX11_ok nmX11 (j := 37) (by decide) rfl rfl (tyX11_ok 37 (by decide)) rfl rfl (Nat.le_of_ble_eq_true rfl) wd_1107 dX11_init_180 rfl ?_
  refine u_aload_n C dX11_init_183 0 rfl ?_
  refine u_bipush C dX11_init_184 (by decide) ?_
  refine w_newI C hn 21 rfl [.inl (Z.2.2 2, 2000, .inl fun _ => 0), .inl (Z.2.2 2, 2000, .inl fun _ => 0), .inl (Z.2.2 1, 403, .inl fun _ => 0), .inl (Z.2.2 1, 403, .inl fun _ => 0), .inl (Z.2.2 1, 403, .inl fun _ => 0), .inl (Z.2.2 3, 403, .inr (.inl fun _ => 0)), .inl (Z.2.2 3, 4, .inr (.inl fun _ => 0)), .inl (Z.2.2 1, 98, .inl fun _ => 0), .inl (Z.2.2 1, 98, .inl fun _ => 0), .inl (Z.2.2 3, 6, .inr (.inl fun _ => 0)), .inl (Z.2.2 1, 3920, .inl fun _ => 0), .inl (Z.2.2 1, 294, .inl fun _ => 0), .inl (Z.2.2 4, 3, .inl fun _ => 0), .inl (Z.2.2 1, 40, .inl fun _ => 0), .inl (Z.2.2 1, 30, .inl fun _ => 0), .inl (Z.2.2 1, 30, .inl fun _ => 0), .inl (Z.2.2 1, 6, .inl fun _ => 0), .inl (Z.2.2 1, 98, .inl fun _ => 0), .inl (Z.2.2 1, 20, .inl fun _ => 0), .inl (Z.2.2 1, 30, .inl fun _ => 0), .inl (Z.2.2 1, 30, .inl fun _ => 0), .inl (Z.2.2 1, 10, .inl fun _ => 0)] 10 wd_86 (by decide) (by decide) (by decide) (Nat.le_of_ble_eq_true rfl) (Nat.le_of_ble_eq_true rfl) dX11_init_186 rfl ?_
  refine w_putF C hr hn hI [.int 0, .ref (B + (66 + 0)), .int 0, .ref (B + (66 + 1)), .int 0, .ref (B + (66 + 2)), .ref (B + (66 + 3)), .ref (B + (66 + 4)), .ref (B + (66 + 5)), .ref (B + (66 + 6)), .int 0, .int 0, .int 0, .int 0, .int 0, .int 0, iv (-1), .ref (B + (66 + 7)), .ref (B + (66 + 8)), .ref (B + (66 + 9)), .int 0, .int 0, .ref (B + (66 + 10)), .int 0, .int 0, .ref (B + (66 + 11)), .ref (B + (66 + 12)), .ref (B + (66 + 13)), .ref (B + (66 + 14)), .ref (B + (66 + 15)), .ref (B + (66 + 16)), .ref (B + (66 + 17)), .ref (B + (66 + 18)), .int 0, .int 0, .int 0, .ref (B + (66 + 19)), .ref (B + (66 + 20)), .ref (B + (66 + 21)), .null, .null, .null, .int 0] tyX11 rfl inX11 tyX11_ok nmX11 (j := 38) (by decide) rfl rfl (tyX11_ok 38 (by decide)) rfl rfl (Nat.le_of_ble_eq_true rfl) wd_1108 dX11_init_188 rfl ?_
  refine u_aload_n C dX11_init_191 0 rfl ?_
  refine u_bipush C dX11_init_192 (by decide) ?_
  refine w_newI C hn 22 rfl [.inl (Z.2.2 2, 2000, .inl fun _ => 0), .inl (Z.2.2 2, 2000, .inl fun _ => 0), .inl (Z.2.2 1, 403, .inl fun _ => 0), .inl (Z.2.2 1, 403, .inl fun _ => 0), .inl (Z.2.2 1, 403, .inl fun _ => 0), .inl (Z.2.2 3, 403, .inr (.inl fun _ => 0)), .inl (Z.2.2 3, 4, .inr (.inl fun _ => 0)), .inl (Z.2.2 1, 98, .inl fun _ => 0), .inl (Z.2.2 1, 98, .inl fun _ => 0), .inl (Z.2.2 3, 6, .inr (.inl fun _ => 0)), .inl (Z.2.2 1, 3920, .inl fun _ => 0), .inl (Z.2.2 1, 294, .inl fun _ => 0), .inl (Z.2.2 4, 3, .inl fun _ => 0), .inl (Z.2.2 1, 40, .inl fun _ => 0), .inl (Z.2.2 1, 30, .inl fun _ => 0), .inl (Z.2.2 1, 30, .inl fun _ => 0), .inl (Z.2.2 1, 6, .inl fun _ => 0), .inl (Z.2.2 1, 98, .inl fun _ => 0), .inl (Z.2.2 1, 20, .inl fun _ => 0), .inl (Z.2.2 1, 30, .inl fun _ => 0), .inl (Z.2.2 1, 30, .inl fun _ => 0), .inl (Z.2.2 1, 10, .inl fun _ => 0), .inl (Z.2.2 1, 40, .inl fun _ => 0)] 40 wd_86 (by decide) (by decide) (by decide) (Nat.le_of_ble_eq_true rfl) (Nat.le_of_ble_eq_true rfl) dX11_init_194 rfl ?_
  refine w_putF C hr hn hI [.int 0, .ref (B + (66 + 0)), .int 0, .ref (B + (66 + 1)), .int 0, .ref (B + (66 + 2)), .ref (B + (66 + 3)), .ref (B + (66 + 4)), .ref (B + (66 + 5)), .ref (B + (66 + 6)), .int 0, .int 0, .int 0, .int 0, .int 0, .int 0, iv (-1), .ref (B + (66 + 7)), .ref (B + (66 + 8)), .ref (B + (66 + 9)), .int 0, .int 0, .ref (B + (66 + 10)), .int 0, .int 0, .ref (B + (66 + 11)), .ref (B + (66 + 12)), .ref (B + (66 + 13)), .ref (B + (66 + 14)), .ref (B + (66 + 15)), .ref (B + (66 + 16)), .ref (B + (66 + 17)), .ref (B + (66 + 18)), .int 0, .int 0, .int 0, .ref (B + (66 + 19)), .ref (B + (66 + 20)), .ref (B + (66 + 21)), .ref (B + (66 + 22)), .null, .null, .int 0] tyX11 rfl inX11 tyX11_ok nmX11 (j := 39) (by decide) rfl rfl (tyX11_ok 39 (by decide)) rfl rfl (Nat.le_of_ble_eq_true rfl) wd_1109 dX11_init_196 rfl ?_
  refine u_aload_n C dX11_init_199 0 rfl ?_
  refine u_bipush C dX11_init_200 (by decide) ?_
  refine w_newI C hn 23 rfl [.inl (Z.2.2 2, 2000, .inl fun _ => 0), .inl (Z.2.2 2, 2000, .inl fun _ => 0), .inl (Z.2.2 1, 403, .inl fun _ => 0), .inl (Z.2.2 1, 403, .inl fun _ => 0), .inl (Z.2.2 1, 403, .inl fun _ => 0), .inl (Z.2.2 3, 403, .inr (.inl fun _ => 0)), .inl (Z.2.2 3, 4, .inr (.inl fun _ => 0)), .inl (Z.2.2 1, 98, .inl fun _ => 0), .inl (Z.2.2 1, 98, .inl fun _ => 0), .inl (Z.2.2 3, 6, .inr (.inl fun _ => 0)), .inl (Z.2.2 1, 3920, .inl fun _ => 0), .inl (Z.2.2 1, 294, .inl fun _ => 0), .inl (Z.2.2 4, 3, .inl fun _ => 0), .inl (Z.2.2 1, 40, .inl fun _ => 0), .inl (Z.2.2 1, 30, .inl fun _ => 0), .inl (Z.2.2 1, 30, .inl fun _ => 0), .inl (Z.2.2 1, 6, .inl fun _ => 0), .inl (Z.2.2 1, 98, .inl fun _ => 0), .inl (Z.2.2 1, 20, .inl fun _ => 0), .inl (Z.2.2 1, 30, .inl fun _ => 0), .inl (Z.2.2 1, 30, .inl fun _ => 0), .inl (Z.2.2 1, 10, .inl fun _ => 0), .inl (Z.2.2 1, 40, .inl fun _ => 0), .inl (Z.2.2 1, 40, .inl fun _ => 0)] 40 wd_86 (by decide) (by decide) (by decide) (Nat.le_of_ble_eq_true rfl) (Nat.le_of_ble_eq_true rfl) dX11_init_202 rfl ?_
  refine w_putF C hr hn hI [.int 0, .ref (B + (66 + 0)), .int 0, .ref (B + (66 + 1)), .int 0, .ref (B + (66 + 2)), .ref (B + (66 + 3)), .ref (B + (66 + 4)), .ref (B + (66 + 5)), .ref (B + (66 + 6)), .int 0, .int 0, .int 0, .int 0, .int 0, .int 0, iv (-1), .ref (B + (66 + 7)), .ref (B + (66 + 8)), .ref (B + (66 + 9)), .int 0, .int 0, .ref (B + (66 + 10)), .int 0, .int 0, .ref (B + (66 + 11)), .ref (B + (66 + 12)), .ref (B + (66 + 13)), .ref (B + (66 + 14)), .ref (B + (66 + 15)), .ref (B + (66 + 16)), .ref (B + (66 + 17)), .ref (B + (66 + 18)), .int 0, .int 0, .int 0, .ref (B + (66 + 19)), .ref (B + (66 + 20)), .ref (B + (66 + 21)), .ref (B + (66 + 22)), .ref (B + (66 + 23)), .null, .int 0] tyX11 rfl inX11 tyX11_ok nmX11 (j := 40) (by decide) rfl rfl (tyX11_ok 40 (by decide)) rfl rfl (Nat.le_of_ble_eq_true rfl) wd_1110 dX11_init_204 rfl ?_
  refine u_aload_n C dX11_init_207 0 rfl ?_
  refine u_bipush C dX11_init_208 (by decide) ?_
  refine w_newI C hn 24 rfl [.inl (Z.2.2 2, 2000, .inl fun _ => 0), .inl (Z.2.2 2, 2000, .inl fun _ => 0), .inl (Z.2.2 1, 403, .inl fun _ => 0), .inl (Z.2.2 1, 403, .inl fun _ => 0), .inl (Z.2.2 1, 403, .inl fun _ => 0), .inl (Z.2.2 3, 403, .inr (.inl fun _ => 0)), .inl (Z.2.2 3, 4, .inr (.inl fun _ => 0)), .inl (Z.2.2 1, 98, .inl fun _ => 0), .inl (Z.2.2 1, 98, .inl fun _ => 0), .inl (Z.2.2 3, 6, .inr (.inl fun _ => 0)), .inl (Z.2.2 1, 3920, .inl fun _ => 0), .inl (Z.2.2 1, 294, .inl fun _ => 0), .inl (Z.2.2 4, 3, .inl fun _ => 0), .inl (Z.2.2 1, 40, .inl fun _ => 0), .inl (Z.2.2 1, 30, .inl fun _ => 0), .inl (Z.2.2 1, 30, .inl fun _ => 0), .inl (Z.2.2 1, 6, .inl fun _ => 0), .inl (Z.2.2 1, 98, .inl fun _ => 0), .inl (Z.2.2 1, 20, .inl fun _ => 0), .inl (Z.2.2 1, 30, .inl fun _ => 0), .inl (Z.2.2 1, 30, .inl fun _ => 0), .inl (Z.2.2 1, 10, .inl fun _ => 0), .inl (Z.2.2 1, 40, .inl fun _ => 0), .inl (Z.2.2 1, 40, .inl fun _ => 0), .inl (Z.2.2 1, 40, .inl fun _ => 0)] 40 wd_86 (by decide) (by decide) (by decide) (Nat.le_of_ble_eq_true rfl) (Nat.le_of_ble_eq_true rfl) dX11_init_210 rfl ?_
  refine w_putF C hr hn hI [.int 0, .ref (B + (66 + 0)), .int 0, .ref (B + (66 + 1)), .int 0, .ref (B + (66 + 2)), .ref (B + (66 + 3)), .ref (B + (66 + 4)), .ref (B + (66 + 5)), .ref (B + (66 + 6)), .int 0, .int 0, .int 0, .int 0, .int 0, .int 0, iv (-1), .ref (B + (66 + 7)), .ref (B + (66 + 8)), .ref (B + (66 + 9)), .int 0, .int 0, .ref (B + (66 + 10)), .int 0, .int 0, .ref (B + (66 + 11)), .ref (B + (66 + 12)), .ref (B + (66 + 13)), .ref (B + (66 + 14)), .ref (B + (66 + 15)), .ref (B + (66 + 16)), .ref (B + (66 + 17)), .ref (B + (66 + 18)), .int 0, .int 0, .int 0, .ref (B + (66 + 19)), .ref (B + (66 + 20)), .ref (B + (66 + 21)), .ref (B + (66 + 22)), .ref (B + (66 + 23)), .ref (B + (66 + 24)), .int 0] tyX11 rfl inX11 tyX11_ok nmX11 (j := 41) (by decide) rfl rfl (tyX11_ok 41 (by decide)) rfl rfl (Nat.le_of_ble_eq_true rfl) wd_1111 dX11_init_212 rfl ?_
  subst hcs
  subst hZ
  refine u_to_v (w := w0) (w0_ok D B f cy) ?_
  have C := C.up (c := 25) (k := 10449) (Nat.le_of_ble_eq_true rfl) (Nat.le_of_ble_eq_true rfl)
  unfold X11_keys at h
  refine v_aload_n C dX11_init_215 0 rfl ?_
  refine g_X11_keys C wd_1079 dX11_init_216 ?_
  refine v_iconst C dX11_init_219 ?_
  refine v_bipush C dX11_init_220 (by decide) ?_
  refine v_bipush C dX11_init_222 (by decide) ?_
  refine v_bipush C dX11_init_224 (by decide) ?_
  refine v_bipush C dX11_init_226 (by decide) ?_
  refine v_iconst C dX11_init_228 ?_
  refine v_iconst C dX11_init_229 ?_
  refine v_iconst C dX11_init_230 ?_
  refine v_calll C (rn_S C _ (m_X11_letters h) mf_X11_letters wd_1065 wd_1064 rfl rfl ⟨(Nat.le_of_ble_eq_true rfl), (Nat.le_of_ble_eq_true rfl)⟩ rfl rfl (Nat.le_of_ble_eq_true rfl) dX11_init_231) (fun r w h => ?_)
  refine v_last (n := 4) C rfl h.1 dX11_init_234 ?_
  have h := h.2 _ rfl
  refine v_aload_n C dX11_init_235 0 rfl ?_
  refine g_X11_keys C wd_1079 dX11_init_236 ?_
  refine v_iconst C dX11_init_239 ?_
  refine v_bipush C dX11_init_240 (by decide) ?_
  refine v_bipush C dX11_init_242 (by decide) ?_
  refine v_bipush C dX11_init_244 (by decide) ?_
  refine v_bipush C dX11_init_246 (by decide) ?_
  refine v_iconst C dX11_init_248 ?_
  refine v_iconst C dX11_init_249 ?_
  refine v_iconst C dX11_init_250 ?_
  refine v_calll C (rn_S C _ (m_X11_letters h) mf_X11_letters wd_1065 wd_1064 rfl rfl ⟨(Nat.le_of_ble_eq_true rfl), (Nat.le_of_ble_eq_true rfl)⟩ rfl rfl (Nat.le_of_ble_eq_true rfl) dX11_init_251) (fun r w h => ?_)
  refine v_last (n := 4) C rfl h.1 dX11_init_254 ?_
  have h := h.2 _ rfl
  refine v_aload_n C dX11_init_255 0 rfl ?_
  refine g_X11_keys C wd_1079 dX11_init_256 ?_
  refine v_iconst C dX11_init_259 ?_
  refine v_bipush C dX11_init_260 (by decide) ?_
  refine v_bipush C dX11_init_262 (by decide) ?_
  refine v_bipush C dX11_init_264 (by decide) ?_
  refine v_bipush C dX11_init_266 (by decide) ?_
  refine v_bipush C dX11_init_268 (by decide) ?_
  refine v_bipush C dX11_init_270 (by decide) ?_
  refine v_bipush C dX11_init_272 (by decide) ?_
  refine v_calll C (rn_S C _ (m_X11_letters h) mf_X11_letters wd_1065 wd_1064 rfl rfl ⟨(Nat.le_of_ble_eq_true rfl), (Nat.le_of_ble_eq_true rfl)⟩ rfl rfl (Nat.le_of_ble_eq_true rfl) dX11_init_274) (fun r w h => ?_)
  refine v_last (n := 4) C rfl h.1 dX11_init_277 ?_
  have h := h.2 _ rfl
  refine v_aload_n C dX11_init_278 0 rfl ?_
  refine g_X11_keys C wd_1079 dX11_init_279 ?_
  refine v_iconst C dX11_init_282 ?_
  refine v_bipush C dX11_init_283 (by decide) ?_
  refine v_bipush C dX11_init_285 (by decide) ?_
  refine v_bipush C dX11_init_287 (by decide) ?_
  refine v_bipush C dX11_init_289 (by decide) ?_
  refine v_bipush C dX11_init_291 (by decide) ?_
  refine v_iconst C dX11_init_293 ?_
  refine v_iconst C dX11_init_294 ?_
  refine v_calll C (rn_S C _ (m_X11_letters h) mf_X11_letters wd_1065 wd_1064 rfl rfl ⟨(Nat.le_of_ble_eq_true rfl), (Nat.le_of_ble_eq_true rfl)⟩ rfl rfl (Nat.le_of_ble_eq_true rfl) dX11_init_295) (fun r w h => ?_)
  refine v_last (n := 4) C rfl h.1 dX11_init_298 ?_
  have h := h.2 _ rfl
  exact v_mret C R h dX11_init_299
