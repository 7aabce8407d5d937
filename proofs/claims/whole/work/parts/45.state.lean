/-! WHAT IS TO BE REMEMBERED: tape, place, drawing, things that can be undone, slots -/
abbrev Sg : Type := Nat × (Nat → Int) × Int × Dw × Nat × (Nat → Dw) × (Nat → Option Dw)
abbrev sL (S : Sg) : Nat := S.1
abbrev sB (S : Sg) : Nat → Int := S.2.1
abbrev sP (S : Sg) : Int := S.2.2.1
abbrev sD (S : Sg) : Dw := S.2.2.2.1
abbrev sH (S : Sg) : Nat := S.2.2.2.2.1
abbrev sF (S : Sg) : Nat → Dw := S.2.2.2.2.2.1
abbrev sS (S : Sg) : Nat → Option Dw := S.2.2.2.2.2.2
/-- a drawing on a shelf of the class; in a row of rows of the model -/
def RepS (w : Wd) (c b : Nat) (D : Dw) : Prop := RepX (fun k j => w c (b + (if k = 0 then j else if k = 1 then 3 + j else if k = 2 then 23 + j else 29 + j))) 0 D
def RepO (w : Wd) (c b : Nat) (D : Dw) : Prop := RepM (fun _ j => w c (b + j)) 0 D
theorem RepS.of {w w' : Wd} {c b : Nat} {D : Dw} (hW : WF D) (h : RepS w c b D) (he : ∀ j, b ≤ j → j < b + 89 → w' c j = w c j) : RepS w' c b D := by
  obtain ⟨r0, r1, ⟨t, rt, ht, htb⟩, r3, r4, r5⟩ := h
  have n6 := hW.1
  have m10 := hW.2.1
  refine ⟨?_, ?_, ⟨t, ?_, ht, htb⟩, fun i hi => ?_, fun p hp => ?_, fun p i hp hi => ?_⟩
  · rw [← r0]; exact he _ (by simp) (by simp)
  · rw [← r1]; exact he _ (by simp) (by simp)
  · rw [← rt]; exact he _ (by simp) (by simp)
  · rw [← r3 i hi]; exact he _ (by simp) (by simp; omega)
  · rw [← r4 p hp]; exact he _ (by simp) (by simp; omega)
  · have := hW.deg hp
    rw [← r5 p i hp hi]; exact he _ (by simp) (by simp; omega)
theorem RepO.of {w w' : Wd} {c b : Nat} {D : Dw} (hW : WF D) (h : RepO w c b D) (he : ∀ j, b ≤ j → j < b + 98 → w' c j = w c j) : RepO w' c b D := by
  obtain ⟨r0, r1, r3, rt, r4, r5⟩ := h
  have n6 := hW.1
  have m10 := hW.2.1
  refine ⟨?_, ?_, fun i hi => ?_, fun i hi => ?_, fun p hp => ?_, fun p i hp hi => ?_⟩
  · rw [← r0]; exact he _ (by omega) (by omega)
  · rw [← r1]; exact he _ (by omega) (by omega)
  · rw [← r3 i hi]; exact he _ (by omega) (by omega)
  · rw [← rt i hi]; exact he _ (by omega) (by omega)
  · rw [← r4 p hp]; exact he _ (by omega) (by omega)
  · have := hW.deg hp
    rw [← r5 p i hp hi]; exact he _ (by omega) (by omega)
theorem RepX.of {w w' : Wd} {k : Nat} {D : Dw} (h : RepX w k D) (he : ∀ c j, k ≤ c → c < k + 4 → w' c j = w c j) : RepX w' k D := by
  obtain ⟨r0, r1, ⟨t, rt, ht, htb⟩, r3, r4, r5⟩ := h
  refine ⟨?_, ?_, ⟨t, ?_, ht, htb⟩, fun i hi => ?_, fun p hp => ?_, fun p i hp hi => ?_⟩
  · rw [he _ _ (by omega) (by omega)]; exact r0
  · rw [he _ _ (by omega) (by omega)]; exact r1
  · rw [he _ _ (by omega) (by omega)]; exact rt
  · rw [he _ _ (by omega) (by omega)]; exact r3 i hi
  · rw [he _ _ (by omega) (by omega)]; exact r4 p hp
  · rw [he _ _ (by omega) (by omega)]; exact r5 p i hp hi
theorem RepM.of {w w' : Wd} {r : Nat} {D : Dw} (h : RepM w r D) (he : ∀ j, w' r j = w r j) : RepM w' r D := by
  obtain ⟨r0, r1, r3, rt, r4, r5⟩ := h
  refine ⟨?_, ?_, fun i hi => ?_, fun i hi => ?_, fun p hp => ?_, fun p i hp hi => ?_⟩
  · rw [he]; exact r0
  · rw [he]; exact r1
  · rw [he]; exact r3 i hi
  · rw [he]; exact rt i hi
  · rw [he]; exact r4 p hp
  · rw [he]; exact r5 p i hp hi
theorem cpy_ap (w : Wd) (a sp b dp n c i : Nat) : cpy w a sp b dp n c i = if c = b ∧ (dp ≤ i ∧ i < dp + n) then w a (sp + (i - dp)) else w c i := rfl
/-- a drawing is put on a shelf -/
theorem X7_store_ok {r0 r2 N : Nat} {Q : Wd → Prop} {w : Wd} {D : Dw} {x1 : Int} (i : Nat) (h1 : x1 = (i : Int)) (hi : i < N) (hN : w r0 0 = N) (hln : aln (r0 + 1) = 89 * N) (hN4 : N ≤ 40) (hr : r2 + 4 ≤ r0) (hW : WF D) (hR : RepX w r2 D) (hQ : ∀ w', RepS w' (r0 + 1) (89 * i) D → (∀ c j, ¬ (c = r0 + 1 ∧ 89 * i ≤ j ∧ j < 89 * i + 89) → w' c j = w c j) → Q w') : X7_store r0 r2 x1 w Q := by
  subst h1
  unfold X7_store
  rw [hN, wr_nat (n := i) (by omega), wr_nat (n := N) (by omega), hln]
  refine ⟨fun q => by omega, fun _ => ⟨fun _ => ?_, fun q => by omega⟩⟩
  intro y1 e1
  subst e1
  obtain ⟨b, hb⟩ : ∃ b, b = 89 * i := ⟨_, rfl⟩
  have hbi : (i : Int) * 89 = (b : Int) := by omega
  rw [hbi]
  refine ⟨ix_of rfl (by omega) (by omega), ?_⟩
  intro w2 e2
  rw [wt_of rfl (by omega)] at e2
  refine ⟨ix_of (n := b + 1) (by omega) (by omega) (by omega), ?_⟩
  intro w3 e3
  rw [wt_of (n := b + 1) (by omega) (by omega)] at e3
  refine ⟨ix_of (n := b + 2) (by omega) (by omega) (by omega), ?_⟩
  intro w4 e4
  rw [wt_of (n := b + 2) (by omega) (by omega)] at e4
  have k0 : wr 0 = 0 := by decide
  have k6 : wr 6 = 6 := by decide
  have k20 : wr 20 = 20 := by decide
  have k60 : wr 60 = 60 := by decide
  have z3 : wr ((b : Int) + 3) = (b : Int) + 3 := wr_id (by omega) (by omega)
  have z23 : wr ((b : Int) + 23) = (b : Int) + 23 := wr_id (by omega) (by omega)
  have z29 : wr ((b : Int) + 29) = (b : Int) + 29 := wr_id (by omega) (by omega)
  rw [k0, k6, k20, k60, z3, z23, z29]
  refine ⟨by unfold cpk; rw [k0, k20, z3]; omega, ?_⟩
  intro w5 e5
  refine ⟨by unfold cpk; rw [k0, k6, z23]; omega, ?_⟩
  intro w6 e6
  refine ⟨by unfold cpk; rw [k0, k60, z29]; omega, ?_⟩
  intro w7 e7
  rw [show (0 : Int).toNat = 0 from rfl, show (20 : Int).toNat = 20 from rfl, show ((b : Int) + 3).toNat = b + 3 by omega] at e5
  rw [show (0 : Int).toNat = 0 from rfl, show (6 : Int).toNat = 6 from rfl, show ((b : Int) + 23).toNat = b + 23 by omega] at e6
  rw [show (0 : Int).toNat = 0 from rfl, show (60 : Int).toNat = 60 from rfl, show ((b : Int) + 29).toNat = b + 29 by omega] at e7
  have off : ∀ c j, ¬ (c = r0 + 1 ∧ b ≤ j ∧ j < b + 89) → w7 c j = w c j := fun c j h => by
    rw [e7, cpy_ap, if_neg (by omega), e6, cpy_ap, if_neg (by omega), e5, cpy_ap, if_neg (by omega), e4, up_ap, if_neg (by omega), e3, up_ap, if_neg (by omega), e2, up_ap, if_neg (by omega)]
  have n6 := hW.1
  have m10 := hW.2.1
  obtain ⟨r0', r1, ⟨t, rt, ht, htb⟩, r3, r4, r5⟩ := hR
  refine hQ w7 ⟨?_, ?_, ⟨t, ?_, ht, htb⟩, fun k hk => ?_, fun p hp => ?_, fun p k hp hk => ?_⟩ (by rw [← hb]; exact off)
  · show w7 (r0 + 1) (89 * i + 0) = _
    rw [← hb, e7, cpy_ap, if_neg (by omega), e6, cpy_ap, if_neg (by omega), e5, cpy_ap, if_neg (by omega), e4, up_ap, if_neg (by omega), e3, up_ap, if_neg (by omega), e2, up_ap, if_pos ⟨rfl, by omega⟩]
    exact r0'
  · show w7 (r0 + 1) (89 * i + 1) = _
    rw [← hb, e7, cpy_ap, if_neg (by omega), e6, cpy_ap, if_neg (by omega), e5, cpy_ap, if_neg (by omega), e4, up_ap, if_neg (by omega), e3, up_ap, if_pos ⟨rfl, by omega⟩, e2, up_ap, if_neg (by omega)]
    exact r1
  · show w7 (r0 + 1) (89 * i + 2) = _
    rw [← hb, e7, cpy_ap, if_neg (by omega), e6, cpy_ap, if_neg (by omega), e5, cpy_ap, if_neg (by omega), e4, up_ap, if_pos ⟨rfl, by omega⟩, e3, up_ap, if_neg (by omega), e2, up_ap, if_neg (by omega)]
    exact rt
  · show w7 (r0 + 1) (89 * i + (3 + k)) = _
    rw [← hb, e7, cpy_ap, if_neg (by omega), e6, cpy_ap, if_neg (by omega), e5, cpy_ap, if_pos (by omega), e4, up_ap, if_neg (by omega), e3, up_ap, if_neg (by omega), e2, up_ap, if_neg (by omega), show 0 + (b + (3 + k) - (b + 3)) = k by omega]
    exact r3 k hk
  · show w7 (r0 + 1) (89 * i + (23 + p)) = _
    rw [← hb, e7, cpy_ap, if_neg (by omega), e6, cpy_ap, if_pos (by omega), e5, cpy_ap, if_neg (by omega), e4, up_ap, if_neg (by omega), e3, up_ap, if_neg (by omega), e2, up_ap, if_neg (by omega), show 0 + (b + (23 + p) - (b + 23)) = p by omega]
    exact r4 p hp
  · have := hW.deg hp
    show w7 (r0 + 1) (89 * i + (29 + (10 * p + k))) = _
    rw [← hb, e7, cpy_ap, if_pos (by omega), e6, cpy_ap, if_neg (by omega), e5, cpy_ap, if_neg (by omega), e4, up_ap, if_neg (by omega), e3, up_ap, if_neg (by omega), e2, up_ap, if_neg (by omega), show 0 + (b + (29 + (10 * p + k)) - (b + 29)) = 10 * p + k by omega]
    exact r5 p k hp hk
theorem X7_fetch_ok {r0 r2 N : Nat} {Q : Wd → Prop} {w : Wd} {D : Dw} {x1 : Int} (i : Nat) (h1 : x1 = (i : Int)) (hi : i < N) (hN : w r0 0 = N) (hln : aln (r0 + 1) = 89 * N) (hN4 : N ≤ 40) (hr : r2 + 4 ≤ r0) (hW : WF D) (hR : RepS w (r0 + 1) (89 * i) D) (hQ : ∀ w', RepX w' r2 D → offX r2 w w' → Q w') : X7_fetch r0 r2 x1 w Q := by
  subst h1
  unfold X7_fetch
  rw [hN, wr_nat (n := i) (by omega), wr_nat (n := N) (by omega), hln]
  refine ⟨fun q => by omega, fun _ => ⟨fun _ => ?_, fun q => by omega⟩⟩
  intro y1 e1
  subst e1
  obtain ⟨b, hb⟩ : ∃ b, b = 89 * i := ⟨_, rfl⟩
  have hbi : (i : Int) * 89 = (b : Int) := by omega
  rw [hbi]
  rw [← hb] at hR
  refine ⟨ix_of rfl (by omega) (by omega), ?_⟩
  intro w2 e2
  rw [rd_of rfl (by omega)] at e2
  refine ⟨ix_of (n := b + 1) (by omega) (by omega) (by omega), ?_⟩
  intro w3 e3
  rw [rd_of (n := b + 1) (by omega) (by omega)] at e3
  refine ⟨ix_of (n := b + 2) (by omega) (by omega) (by omega), ?_⟩
  intro w4 e4
  rw [rd_of (n := b + 2) (by omega) (by omega)] at e4
  have k0 : wr 0 = 0 := by decide
  have k6 : wr 6 = 6 := by decide
  have k20 : wr 20 = 20 := by decide
  have k60 : wr 60 = 60 := by decide
  have z3 : wr ((b : Int) + 3) = (b : Int) + 3 := wr_id (by omega) (by omega)
  have z23 : wr ((b : Int) + 23) = (b : Int) + 23 := wr_id (by omega) (by omega)
  have z29 : wr ((b : Int) + 29) = (b : Int) + 29 := wr_id (by omega) (by omega)
  rw [k0, k6, k20, k60, z3, z23, z29]
  refine ⟨by unfold cpk; rw [k0, k20, z3]; omega, ?_⟩
  intro w5 e5
  refine ⟨by unfold cpk; rw [k0, k6, z23]; omega, ?_⟩
  intro w6 e6
  refine ⟨by unfold cpk; rw [k0, k60, z29]; omega, ?_⟩
  intro w7 e7
  rw [show (0 : Int).toNat = 0 from rfl, show (20 : Int).toNat = 20 from rfl, show ((b : Int) + 3).toNat = b + 3 by omega] at e5
  rw [show (0 : Int).toNat = 0 from rfl, show (6 : Int).toNat = 6 from rfl, show ((b : Int) + 23).toNat = b + 23 by omega] at e6
  rw [show (0 : Int).toNat = 0 from rfl, show (60 : Int).toNat = 60 from rfl, show ((b : Int) + 29).toNat = b + 29 by omega] at e7
  have n6 := hW.1
  have m10 := hW.2.1
  obtain ⟨r0', r1, ⟨t, rt, ht, htb⟩, r3, r4, r5⟩ := hR
  have f0 : w (r0 + 1) b = dN D := r0'
  have f1 : w (r0 + 1) (b + 1) = dM D := r1
  have ft : w (r0 + 1) (b + 2) = t := rt
  refine hQ w7 ⟨?_, ?_, ⟨t, ?_, ht, htb⟩, fun k hk => ?_, fun p hp => ?_, fun p k hp hk => ?_⟩ (fun c j h => ?_)
  · rw [e7, cpy_ap, if_neg (by omega), e6, cpy_ap, if_neg (by omega), e5, cpy_ap, if_neg (by omega), e4, up_ap, if_neg (by omega), e3, up_ap, if_neg (by omega), e2, up_ap, if_pos ⟨rfl, by omega⟩]
    exact f0
  · rw [e7, cpy_ap, if_neg (by omega), e6, cpy_ap, if_neg (by omega), e5, cpy_ap, if_neg (by omega), e4, up_ap, if_neg (by omega), e3, up_ap, if_pos ⟨rfl, by omega⟩, e2, up_ap, if_neg (by omega)]
    exact f1
  · rw [e7, cpy_ap, if_neg (by omega), e6, cpy_ap, if_neg (by omega), e5, cpy_ap, if_neg (by omega), e4, up_ap, if_pos ⟨rfl, by omega⟩, e3, up_ap, if_neg (by omega), e2, up_ap, if_neg (by omega)]
    exact ft
  · have := r3 k hk
    dsimp only at this
    rw [e7, cpy_ap, if_neg (by omega), e6, cpy_ap, if_neg (by omega), e5, cpy_ap, if_pos (by omega), e4, up_ap, if_neg (by omega), e3, up_ap, if_neg (by omega), e2, up_ap, if_neg (by omega), show b + 3 + (k - 0) = b + (3 + k) by omega]
    exact this
  · have := r4 p hp
    dsimp only at this
    rw [e7, cpy_ap, if_neg (by omega), e6, cpy_ap, if_pos (by omega), e5, cpy_ap, if_neg (by omega), e4, up_ap, if_neg (by omega), e3, up_ap, if_neg (by omega), e2, up_ap, if_neg (by omega), show b + 23 + (p - 0) = b + (23 + p) by omega]
    exact this
  · have h10 := hW.deg hp
    have := r5 p k hp hk
    dsimp only at this
    rw [e7, cpy_ap, if_pos (by omega), e6, cpy_ap, if_neg (by omega), e5, cpy_ap, if_neg (by omega), e4, up_ap, if_neg (by omega), e3, up_ap, if_neg (by omega), e2, up_ap, if_neg (by omega), show b + 29 + (10 * p + k - 0) = b + (29 + (10 * p + k)) by omega]
    exact this
  · rw [e7, cpy_ap, if_neg (by omega), e6, cpy_ap, if_neg (by omega), e5, cpy_ap, if_neg (by omega), e4, up_ap, if_neg (by omega), e3, up_ap, if_neg (by omega), e2, up_ap, if_neg (by omega)]
theorem aln_62 : aln 62 = 89 * 40 := rfl
theorem aln_64 : aln 64 = 89 * 3 := rfl
theorem X1_become_ok {r0 r1 : Nat} {Q : Wd → Prop} {w : Wd} {D : Dw} (hr : r0 + 4 ≤ r1 ∨ r1 + 4 ≤ r0) (hW : WF D) (hR : RepX w r1 D) (hQ : ∀ w', RepX w' r0 D → offX r0 w w' → Q w') : X1_become r0 r1 w Q := by
  unfold X1_become
  have k0 : wr 0 = 0 := by decide
  have k6 : wr 6 = 6 := by decide
  have k20 : wr 20 = 20 := by decide
  have k60 : wr 60 = 60 := by decide
  rw [k0, k6, k20, k60]
  intro w1 e1 w2 e2 w3 e3
  refine ⟨by unfold cpk; rw [k0, k20]; omega, ?_⟩
  intro w4 e4
  refine ⟨by unfold cpk; rw [k0, k6]; omega, ?_⟩
  intro w5 e5
  refine ⟨by unfold cpk; rw [k0, k60]; omega, ?_⟩
  intro w6 e6
  rw [show (0 : Int).toNat = 0 from rfl, show (20 : Int).toNat = 20 from rfl] at e4
  rw [show (0 : Int).toNat = 0 from rfl, show (6 : Int).toNat = 6 from rfl] at e5
  rw [show (0 : Int).toNat = 0 from rfl, show (60 : Int).toNat = 60 from rfl] at e6
  have n6 := hW.1
  have m10 := hW.2.1
  obtain ⟨f0, f1, ⟨t, rt, ht, htb⟩, r3, r4, r5⟩ := hR
  refine hQ w6 ⟨?_, ?_, ⟨t, ?_, ht, htb⟩, fun k hk => ?_, fun p hp => ?_, fun p k hp hk => ?_⟩ (fun c j h => ?_)
  · rw [e6, cpy_ap, if_neg (by omega), e5, cpy_ap, if_neg (by omega), e4, cpy_ap, if_neg (by omega), e3, up_ap, if_neg (by omega), e2, up_ap, if_neg (by omega), e1, up_ap, if_pos ⟨rfl, rfl⟩]
    exact f0
  · rw [e6, cpy_ap, if_neg (by omega), e5, cpy_ap, if_neg (by omega), e4, cpy_ap, if_neg (by omega), e3, up_ap, if_neg (by omega), e2, up_ap, if_pos ⟨rfl, rfl⟩, e1, up_ap, if_neg (by omega)]
    exact f1
  · rw [e6, cpy_ap, if_neg (by omega), e5, cpy_ap, if_neg (by omega), e4, cpy_ap, if_neg (by omega), e3, up_ap, if_pos ⟨rfl, rfl⟩, e2, up_ap, if_neg (by omega), e1, up_ap, if_neg (by omega)]
    exact rt
  · have hk : k < 2 * dM D := hk
    rw [e6, cpy_ap, if_neg (by omega), e5, cpy_ap, if_neg (by omega), e4, cpy_ap, if_pos (by omega), e3, up_ap, if_neg (by omega), e2, up_ap, if_neg (by omega), e1, up_ap, if_neg (by omega), show 0 + (k - 0) = k by omega]
    exact r3 k hk
  · have hp : p < dN D := hp
    rw [e6, cpy_ap, if_neg (by omega), e5, cpy_ap, if_pos (by omega), e4, cpy_ap, if_neg (by omega), e3, up_ap, if_neg (by omega), e2, up_ap, if_neg (by omega), e1, up_ap, if_neg (by omega), show 0 + (p - 0) = p by omega]
    exact r4 p hp
  · have h10 := hW.deg hp
    have hp : p < dN D := hp
    rw [e6, cpy_ap, if_pos (by omega), e5, cpy_ap, if_neg (by omega), e4, cpy_ap, if_neg (by omega), e3, up_ap, if_neg (by omega), e2, up_ap, if_neg (by omega), e1, up_ap, if_neg (by omega), show 0 + (10 * p + k - 0) = 10 * p + k by omega]
    exact r5 p k hp hk
  · rw [e6, cpy_ap, if_neg (by omega), e5, cpy_ap, if_neg (by omega), e4, cpy_ap, if_neg (by omega), e3, up_ap, if_neg (by omega), e2, up_ap, if_neg (by omega), e1, up_ap, if_neg (by omega)]
