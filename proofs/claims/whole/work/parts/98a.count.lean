/-! COUNT as a whole -/
def slN (S : Sg) (s : Nat) : Int := if (sS S s).isSome then 1 else 0
def CntA (S : Sg) (t a : Int) : Prop := (t = 0 → a = wr (dN (sD S) : Int)) ∧ (t = 1 → a = wr (dM (sD S) : Int)) ∧ (t = 2 → a = wr (nFa (sD S) : Int)) ∧ (t = 3 → ∃ L : Nat, Bts L 10 (fun e => e < dM (sD S) ∧ dT (sD S) e = true) ∧ a = wr (L : Int)) ∧ (t = 4 → a = wr (glF (sD S) (nFa (sD S)) : Int)) ∧ (t = 5 → a = wr (llF (sD S) (nFa (sD S)) : Int)) ∧ (t = 6 → ∃ L : Nat, Bts L 10 (OneS (sD S)) ∧ a = wr (L : Int)) ∧ (t = 7 → a = wr (nRg (sD S) (2 ^ dM (sD S)) : Int)) ∧ (t = 8 → a = wr (likA (sD S) (sD S))) ∧ (t = 9 → a = wr (sL S : Int)) ∧ (t = 10 → a = wr (sH S : Int)) ∧ (t = 11 → a = wr (slN S 0 + slN S 1 + slN S 2)) ∧ (t = 12 → a = wr (strA (sD S))) ∧ (t < 0 ∨ 12 < t → a = wr (-1))
theorem Bts_uq {L M : Nat} {P : Nat → Prop} (h : Bts L 10 P) (g : Bts M 10 P) : L = M := by
  apply Nat.eq_of_testBit_eq
  intro i
  by_cases z : i < 10
  · cases q : M.testBit i
    · cases q' : L.testBit i
      · rfl
      · have := (g.2 i z).mpr ((h.2 i z).mp q')
        rw [q] at this
        exact absurd this (by decide)
    · exact (h.2 i z).mpr ((g.2 i z).mp q)
  · have p : 2 ^ 10 ≤ 2 ^ i := Nat.pow_le_pow_right (by decide) (by omega)
    rw [Nat.testBit_lt_two_pow (Nat.lt_of_lt_of_le h.1 p), Nat.testBit_lt_two_pow (Nat.lt_of_lt_of_le g.1 p)]
theorem CntA.uq {S : Sg} {t a b : Int} (h : CntA S t a) (g : CntA S t b) : a = b := by
  obtain ⟨h0, h1, h2, h3, h4, h5, h6, h7, h8, h9, h10, h11, h12, h13⟩ := h
  obtain ⟨g0, g1, g2, g3, g4, g5, g6, g7, g8, g9, g10, g11, g12, g13⟩ := g
  by_cases z : t < 0 ∨ 12 < t
  · rw [h13 z, g13 z]
  · have : t = 0 ∨ t = 1 ∨ t = 2 ∨ t = 3 ∨ t = 4 ∨ t = 5 ∨ t = 6 ∨ t = 7 ∨ t = 8 ∨ t = 9 ∨ t = 10 ∨ t = 11 ∨ t = 12 := by omega
    rcases this with e | e | e | e | e | e | e | e | e | e | e | e | e
    · rw [h0 e, g0 e]
    · rw [h1 e, g1 e]
    · rw [h2 e, g2 e]
    · obtain ⟨L, l1, l2⟩ := h3 e
      obtain ⟨M, m1, m2⟩ := g3 e
      rw [l2, m2, Bts_uq l1 m1]
    · rw [h4 e, g4 e]
    · rw [h5 e, g5 e]
    · obtain ⟨L, l1, l2⟩ := h6 e
      obtain ⟨M, m1, m2⟩ := g6 e
      rw [l2, m2, Bts_uq l1 m1]
    · rw [h7 e, g7 e]
    · rw [h8 e, g8 e]
    · rw [h9 e, g9 e]
    · rw [h10 e, g10 e]
    · rw [h11 e, g11 e]
    · rw [h12 e, g12 e]
theorem cntA_at {S : Sg} {t a : Int} (k : Int) (ht : t = k) (h : CntA S k a) : CntA S t a := by rw [ht]; exact h
section COUNT
variable {Q : Int → Wd → Prop} {w : Wd} {S : Sg} {x : Int}
theorem count_X (hS : SOK S) (h : HX w S) (hT : TrOK w S) (hQ : ∀ w' a, CntA S (wr x) a → HX w' S → TrOK w' S → offQ w w' → Q a w') : X10_count x w Q := by
  have hW := hS.1
  have R := h.2.2.2.1
  unfold X10_count
  intro t1 e1
  rw [← e1] at hQ
  have same : ∀ w' a, CntA S t1 a → (∀ c j, c < 37 ∨ 40 ≤ c ∧ c < 49 ∨ 59 ≤ c → w' c j = w c j) → Q a w' := fun w' a ha o => by
    refine hQ w' a ha (HX.same hS h (fun c j _ b => o c j (by omega))) ?_ (fun c j hc => o c j (by omega))
    rcases hT with k | k
    · exact Or.inl (by rw [o _ _ (by omega)]; exact k)
    · exact Or.inr (k.of (fun c j a b => o c j (by omega)))
  have tr : (∀ w' a, CntA S t1 a → RepT w' 17 (sD S) → HX w' S → (∀ c j, ¬ (c = 0 ∧ j = 17) → (c < 17 ∨ 27 ≤ c) → w' c j = w c j) → Q a w') := fun w' a ha r hx o => hQ w' a ha hx (Or.inr r) (fun c j hc => o c j (by omega) (by omega))
  refine ⟨fun z => ?_, fun z => ?_, fun z => ?_, fun z => ?_, fun z => ?_, fun z => ?_, fun z => ?_, fun z => ?_, fun z => ?_, fun z => ?_, fun z => ?_, fun z => ?_, fun z => ?_, fun z => ?_⟩
  · rw [R.1]; exact same w _ (by unfold CntA; omega) (fun _ _ _ => rfl)
  · rw [R.2.1]; exact same w _ (by unfold CntA; omega) (fun _ _ _ => rfl)
  · refine fresh_ok hS h hT (fun w' hx r o => ?_)
    have e : w' 17 0 = (nFa (sD S) : Int) := r.1
    rw [e]; exact tr w' _ (by unfold CntA; omega) r hx o
  · obtain ⟨t, g1, g2, g3⟩ := R.2.2.1
    rw [g1]
    refine same w _ ?_ (fun _ _ _ => rfl)
    refine cntA_at 3 z ⟨by omega, by omega, by omega, fun _ => ⟨t, ⟨by omega, fun i hi => ?_⟩, rfl⟩, by omega, by omega, by omega, by omega, by omega, by omega, by omega, by omega, by omega, by omega⟩
    rw [g3, Bool.and_eq_true, decide_eq_true_iff]
  · refine fresh_ok hS h hT (fun w' hx r o => X8_greatest_ok hW r (tr w' _ (by unfold CntA; omega) r hx o))
  · refine fresh_ok hS h hT (fun w' hx r o => X8_least_ok hW r (tr w' _ (by unfold CntA; omega) r hx o))
  · refine fresh_ok hS h hT (fun w' hx r o => X8_oneSided_ok hW r hx.2.2.2.1.2.1 (fun L hL => tr w' _ ?_ r hx o))
    exact cntA_at 6 z ⟨by omega, by omega, by omega, by omega, by omega, by omega, fun _ => ⟨L, hL, rfl⟩, by omega, by omega, by omega, by omega, by omega, by omega, by omega⟩
  · refine X5_search_ok hW R (fun w' g a1 a2 a3 o => ?_)
    rw [a1]
    exact same w' _ (by unfold CntA; omega) (fun c j hc => o c j (by omega))
  · exact X2_ways_ok (by decide) (by decide) hW hW R R (fun w' o => same w' _ (by unfold CntA; omega) (fun c j hc => o c j (by omega)))
  · rw [h.1]; exact same w _ (by unfold CntA; omega) (fun _ _ _ => rfl)
  · rw [h.2.2.2.2.2.2.1]; exact same w _ (by unfold CntA; omega) (fun _ _ _ => rfl)
  · obtain ⟨b, b1, b2, b3⟩ := h.2.2.2.2.2.2.2.2.1
    refine J6_bitCount_ok b b2 (by omega) ?_
    have c3 : (cnt b.testBit 10 : Int) = slN S 0 + slN S 1 + slN S 2 := by
      have : cnt b.testBit 10 = cnt b.testBit 3 := cnt_ext 10 (by decide) (fun i hi _ => Nat.testBit_lt_two_pow (Nat.lt_of_lt_of_le b1 (Nat.pow_le_pow_right (n := 2) (i := 3) (by decide) hi)))
      rw [this]
      unfold slN
      have e0 := b3 0 (by decide)
      have e1 := b3 1 (by decide)
      have e2 := b3 2 (by decide)
      rw [← e0, ← e1, ← e2]
      have f1 : cnt b.testBit 1 = if b.testBit 0 = true then 1 else 0 := by
        cases q : b.testBit 0
        · rw [cnt_n q]; rfl
        · rw [cnt_y q]; rfl
      have f2 : cnt b.testBit 2 = cnt b.testBit 1 + if b.testBit 1 = true then 1 else 0 := by
        cases q : b.testBit 1
        · rw [cnt_n q]; rfl
        · rw [cnt_y q]; rfl
      have f3 : cnt b.testBit 3 = cnt b.testBit 2 + if b.testBit 2 = true then 1 else 0 := by
        cases q : b.testBit 2
        · rw [cnt_n q]; rfl
        · rw [cnt_y q]; rfl
      rw [f3, f2, f1]
      split <;> split <;> split <;> rfl
    rw [c3]
    exact same w _ (by unfold CntA; omega) (fun _ _ _ => rfl)
  · exact X9_straight_ok hW R (fun w' o => same w' _ (by unfold CntA; omega) (fun c j hc => o c j (by omega)))
  · exact same w _ (by unfold CntA; omega) (fun _ _ _ => rfl)
theorem count_M (hS : SOK S) (h : HM w S) (hQ : ∀ w' a, CntA S (wr x) a → HM w' S → loM w w' → Q a w') : X11_count x w Q := by
  have hW := hS.1
  have R := h.2.2.2.1
  unfold X11_count
  intro t1 e1
  rw [← e1] at hQ
  have same : ∀ w' a, CntA S t1 a → (∀ c j, c < 79 ∧ ¬ (c = 65 ∧ j = 42) → w' c j = w c j) → Q a w' := fun w' a ha o => hQ w' a ha (HM.same hS h (fun c j hc => o c j (by omega))) (fun c j hc => o c j (by omega))
  refine ⟨fun z => ?_, fun z => ?_, fun z => ?_, fun z => ?_, fun z => ?_, fun z => ?_, fun z => ?_, fun z => ?_, fun z => ?_, fun z => ?_, fun z => ?_, fun z => ?_, fun z => ?_, fun z => ?_⟩
  · refine ⟨ix_of (n := 0) rfl (by omega) (by decide), ?_⟩
    rw [rd_of (x := 0) (n := 0) rfl (by omega), R.1]; exact same w _ (by unfold CntA; omega) (fun _ _ _ => rfl)
  · refine ⟨ix_of (n := 1) rfl (by omega) (by decide), ?_⟩
    rw [rd_of (x := 1) (n := 1) rfl (by omega), R.2.1]; exact same w _ (by unfold CntA; omega) (fun _ _ _ => rfl)
  · exact X11_traces_ok hW R (by decide) (fun w' _ o => same w' _ (by unfold CntA; omega) (fun c j hc => o c j (by omega)))
  · refine X11_twisted_ok hW R (fun L hL => same w _ ?_ (fun _ _ _ => rfl))
    exact cntA_at 3 z ⟨by omega, by omega, by omega, fun _ => ⟨L, hL, rfl⟩, by omega, by omega, by omega, by omega, by omega, by omega, by omega, by omega, by omega, by omega⟩
  · exact X11_longest1_ok hW R (fun w' o => same w' _ (by unfold CntA; omega) (fun c j hc => o c j (by omega)))
  · exact X11_longest0_ok hW R (fun w' o => same w' _ (by unfold CntA; omega) (fun c j hc => o c j (by omega)))
  · refine X11_oneSided_ok hW R (fun L w' hL o => same w' _ ?_ (fun c j hc => o c j (by omega)))
    exact cntA_at 6 z ⟨by omega, by omega, by omega, by omega, by omega, by omega, fun _ => ⟨L, hL, rfl⟩, by omega, by omega, by omega, by omega, by omega, by omega, by omega⟩
  · exact X11_rings_ok hW R (same w _ (by unfold CntA; omega) (fun _ _ _ => rfl))
  · refine X11_ownLikes_ok hW R (fun w' o => ?_)
    rw [wr_wr]
    exact same w' _ (by unfold CntA; omega) (fun c j hc => o c j (by omega) (by omega) (by omega) (by omega) (by omega) (by omega))
  · rw [h.1]; exact same w _ (by unfold CntA; omega) (fun _ _ _ => rfl)
  · rw [h.2.2.2.2.1]; exact same w _ (by unfold CntA; omega) (fun _ _ _ => rfl)
  · have g := h.2.2.2.2.2.2.1
    have g0 : w 78 0 = slN S 0 := g 0 (by decide)
    have g1 : w 78 1 = slN S 1 := g 1 (by decide)
    have g2 : w 78 2 = slN S 2 := g 2 (by decide)
    have b : ∀ s, slN S s = 0 ∨ slN S s = 1 := fun s => by unfold slN; split <;> omega
    have fin : ∀ a0 a1 : Int, a0 = slN S 0 → a1 = slN S 1 → X11_count_b161 Q a1 a0 w := fun a0 a1 q0 q1 => by
      unfold X11_count_b161
      rw [rd_of (x := 2) (n := 2) rfl (by omega), g2]
      refine ⟨ix_of (n := 2) rfl (by omega) (by decide), fun y => ?_, fun y => ?_⟩
      · have : slN S 2 = 0 := by
          rcases b 2 with k | k
          · exact k
          · rw [k] at y; exact absurd y (by decide)
        exact same w _ (cntA_at 11 z (by unfold CntA; rw [this, q0, q1]; omega)) (fun _ _ _ => rfl)
      · have : slN S 2 = 1 := by
          rcases b 2 with k | k
          · rw [k] at y; exact absurd (by decide) y
          · exact k
        exact same w _ (cntA_at 11 z (by unfold CntA; rw [this, q0, q1]; omega)) (fun _ _ _ => rfl)
    have fin1 : ∀ a0 : Int, a0 = slN S 0 → X11_count_b147 Q a0 w := fun a0 q0 => by
      unfold X11_count_b147
      rw [rd_of (x := 1) (n := 1) rfl (by omega), g1]
      refine ⟨ix_of (n := 1) rfl (by omega) (by decide), fun y => fin _ _ q0 ?_, fun y => fin _ _ q0 ?_⟩
      · rcases b 1 with k | k
        · exact k.symm
        · rw [k] at y; exact absurd y (by decide)
      · rcases b 1 with k | k
        · rw [k] at y; exact absurd (by decide) y
        · exact k.symm
    rw [rd_of (x := 0) (n := 0) rfl (by omega), g0]
    refine ⟨ix_of (n := 0) rfl (by omega) (by decide), fun y => fin1 _ ?_, fun y => fin1 _ ?_⟩
    · rcases b 0 with k | k
      · exact k.symm
      · rw [k] at y; exact absurd y (by decide)
    · rcases b 0 with k | k
      · rw [k] at y; exact absurd (by decide) y
      · exact k.symm
  · exact X11_straights_ok hW R (same w _ (by unfold CntA; omega) (fun _ _ _ => rfl))
  · exact same w _ (by unfold CntA; omega) (fun _ _ _ => rfl)
end COUNT
