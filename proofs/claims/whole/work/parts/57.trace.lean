/-! THE CLASS TRACES FACES -/
/-- what is told of the walks up to a step -/
def TT (w : Wd) (T : Nat) (D : Dw) (u : Nat) : Prop := w T 8 = (u : Int) ∧ (∃ L : Nat, w T 9 = (L : Int) ∧ Bts L 10 (fun e => ∃ v, v < u ∧ vL D v = e)) ∧ (∀ v, v < u → w (T + 6) v = (stA D (vs D v) : Int)) ∧
  (∀ v, v < u → (∀ t, t < v → vL D t ≠ vL D v) → w (T + 3) (2 * vL D v) = (fo D (vs D v) : Int) ∧ w (T + 4) (2 * vL D v) = ((stA D (vs D v) % 2 : Nat) : Int)) ∧
  (∀ v, v < u → (∃ t, t < v ∧ vL D t = vL D v) → w (T + 3) (2 * vL D v + 1) = (fo D (vs D v) : Int) ∧ w (T + 4) (2 * vL D v + 1) = ((stA D (vs D v) % 2 : Nat) : Int))
theorem TT.of {w w' : Wd} {T : Nat} {D : Dw} {u : Nat} (h : TT w T D u) (e : ∀ c j, (c = T ∧ (j = 8 ∨ j = 9)) ∨ c = T + 3 ∨ c = T + 4 ∨ c = T + 6 → w' c j = w c j) : TT w' T D u := by
  obtain ⟨h1, ⟨L, h2, h2'⟩, h3, h4, h5⟩ := h
  refine ⟨by rw [e _ _ (by omega)]; exact h1, ⟨L, by rw [e _ _ (by omega)]; exact h2, h2'⟩, fun v hv => by rw [e _ _ (by omega)]; exact h3 v hv, fun v hv hf => ?_, fun v hv hf => ?_⟩
  · rw [e _ _ (by omega), e _ _ (by omega)]; exact h4 v hv hf
  · rw [e _ _ (by omega), e _ _ (by omega)]; exact h5 v hv hf
theorem vL_lt {D : Dw} (hW : WF D) {u : Nat} (hu : u < tF D (4 * dM D)) : vL D u < dM D := by
  have := stA_lt (vs_uq hW hu hu).1
  unfold vL; omega
theorem X8_tell_ok {T : Nat} {Q : Wd → Prop} {w : Wd} {D : Dw} {x : Int} (u : Nat) (hW : WF D) (hu : u < tF D (4 * dM D)) (hx : x = (stA D (vs D u) : Int)) (h : TT w T D u) (hc : w T 0 = ((fo D (vs D u) + 1 : Nat) : Int))
    (hQ : ∀ w', TT w' T D (u + 1) → w' T 0 = w T 0 → w' T 10 = w T 10 → (∀ j, w' (T + 1) j = if j = fo D (vs D u) then w (T + 1) j + 1 else w (T + 1) j) → (∀ c j, (c < T ∨ T + 7 ≤ c ∨ c = T + 2 ∨ c = T + 5) → w' c j = w c j) → Q w') : X8_tell T x w Q := by
  subst hx
  have m10 := hW.2.1
  have hA := stA_lt (vs_uq hW hu hu).1
  have hl := vL_lt hW hu
  have htl := (nF_le hW (Nat.le_refl (4 * dM D))).2
  have hn := fo_lt hW (vs_uq hW hu hu).1
  have hn2 := (nF_le hW (Nat.le_refl (4 * dM D))).1
  obtain ⟨h1, ⟨L, h2, hB⟩, h3, h4, h5⟩ := h
  obtain ⟨l, hle⟩ : ∃ l, l = vL D u := ⟨_, rfl⟩
  obtain ⟨n, hne⟩ : ∃ n, n = fo D (vs D u) := ⟨_, rfl⟩
  obtain ⟨A, hAe⟩ : ∃ A, A = stA D (vs D u) := ⟨_, rfl⟩
  have hlA : l = A / 2 := by rw [hle, hAe]; rfl
  rw [← hne] at hc hn hQ
  rw [← hAe] at hA ⊢
  rw [← hle] at hl
  unfold X8_tell
  intro y1 e1
  rw [show (1 : Int) = ((1 : Nat) : Int) from rfl, isr_nat (by omega) (by omega), show A / 2 ^ 1 = l from by rw [hlA]] at e1
  subst e1
  have hL10 := hB.1
  have htu : tF D (4 * dM D) ≤ 2 * dM D := htl
  -- first or second time
  have fin : ∀ b : Nat, (b = 0 ∧ (∀ t, t < u → vL D t ≠ l) ∨ b = 1 ∧ (∃ t, t < u ∧ vL D t = l)) → ∀ y2, y2 = ((2 * l + b : Nat) : Int) → (∀ w3, w3 = up w T 9 (ior (w T 9) (isl 1 (l : Int))) → (ix y2 20 ∧ (∀ w4, w4 = wt w3 (T + 3) y2 ((w3 T 0) - 1) → (ix y2 20 ∧ (∀ w5, w5 = wt w4 (T + 4) y2 (ian (A : Int) 1) → (ix ((w5 T 0) - 1) 16 ∧ (ix ((w5 T 0) - 1) 16 ∧ (∀ w6, w6 = wt w5 (T + 1) ((w5 T 0) - 1) ((rd w5 (T + 1) ((w5 T 0) - 1)) + 1) → (ix (w6 T 8) 20 ∧ (∀ w7, w7 = wt w6 (T + 6) (w6 T 8) (A : Int) → (∀ w8, w8 = up w7 T 8 ((w7 T 8) + 1) → Q w8))))))))))) := by
    intro b hb y2 e2
    subst e2
    have hb2 : b ≤ 1 := by omega
    intro w3 e3
    have hp1 : 2 ^ l < 2 ^ 10 := Nat.pow_lt_pow_right (by decide) (by omega)
    rw [h2, isl1 (by omega), ior_nat (by omega) (by omega)] at e3
    refine ⟨ix_of rfl (by omega) (by decide), ?_⟩
    intro w4 e4
    have f3 : w3 T 0 = ((n + 1 : Nat) : Int) := by rw [e3, up_ap, if_neg (by omega)]; exact hc
    rw [wt_of rfl (by omega), f3, show ((n + 1 : Nat) : Int) - 1 = (n : Int) by omega] at e4
    refine ⟨ix_of rfl (by omega) (by decide), ?_⟩
    intro w5 e5
    rw [wt_of rfl (by omega), show (1 : Int) = ((1 : Nat) : Int) from rfl, ian_nat (by omega), Nat.and_one_is_mod] at e5
    have f5 : w5 T 0 = ((n + 1 : Nat) : Int) := by rw [e5, up_ap, if_neg (by omega), e4, up_ap, if_neg (by omega)]; exact f3
    rw [f5, show ((n + 1 : Nat) : Int) - 1 = (n : Int) by omega]
    refine ⟨ix_of rfl (by omega) (by decide), ix_of rfl (by omega) (by decide), ?_⟩
    intro w6 e6
    rw [wt_of rfl (by omega), rd_of rfl (by omega)] at e6
    have g1 : w5 (T + 1) n = w (T + 1) n := by rw [e5, up_ap, if_neg (by omega), e4, up_ap, if_neg (by omega), e3, up_ap, if_neg (by omega)]
    rw [g1] at e6
    have f6 : w6 T 8 = (u : Int) := by rw [e6, up_ap, if_neg (by omega), e5, up_ap, if_neg (by omega), e4, up_ap, if_neg (by omega), e3, up_ap, if_neg (by omega)]; exact h1
    rw [f6]
    refine ⟨ix_of rfl (by omega) (by decide), ?_⟩
    intro w7 e7
    rw [wt_of rfl (by omega)] at e7
    intro w8 e8
    have f7 : w7 T 8 = (u : Int) := by rw [e7, up_ap, if_neg (by omega)]; exact f6
    rw [f7] at e8
    have val : ∀ c j, w8 c j = if c = T ∧ j = 8 then (u : Int) + 1 else if c = T + 6 ∧ j = u then (A : Int) else if c = T + 1 ∧ j = n then w (T + 1) n + 1 else if c = T + 4 ∧ j = 2 * l + b then ((A % 2 : Nat) : Int) else if c = T + 3 ∧ j = 2 * l + b then (n : Int) else if c = T ∧ j = 9 then ((L ||| 2 ^ l : Nat) : Int) else w c j := fun c j => by
      rw [e8, up_ap, e7, up_ap, e6, up_ap, e5, up_ap, e4, up_ap, e3, up_ap]
    have off : ∀ c j, ¬ (c = T ∧ (j = 8 ∨ j = 9)) → ¬ (c = T + 6 ∧ j = u) → ¬ (c = T + 1 ∧ j = n) → ¬ ((c = T + 3 ∨ c = T + 4) ∧ j = 2 * l + b) → w8 c j = w c j := fun c j q1 q2 q3 q4 => by
      rw [val, if_neg (by omega), if_neg q2, if_neg q3, if_neg (by omega), if_neg (by omega), if_neg (by omega)]
    refine hQ w8 ⟨?_, ⟨L ||| 2 ^ l, ?_, (hB.set (by omega)).congr (fun e _ => ?_)⟩, fun v hv => ?_, fun v hv hf => ?_, fun v hv hf => ?_⟩ ?_ ?_ (fun j => ?_) (fun c j hcc => ?_)
    · rw [val, if_pos ⟨rfl, rfl⟩]; omega
    · rw [val, if_neg (by omega), if_neg (by omega), if_neg (by omega), if_neg (by omega), if_neg (by omega), if_pos ⟨rfl, rfl⟩]
    · constructor
      · rintro (⟨v, hv, he⟩ | he)
        · exact ⟨v, by omega, he⟩
        · exact ⟨u, by omega, by rw [he, hle]⟩
      · rintro ⟨v, hv, he⟩
        by_cases q : v = u
        · right; rw [← he, q, hle]
        · exact Or.inl ⟨v, by omega, he⟩
    · by_cases q : v = u
      · rw [q, val, if_neg (by omega), if_pos ⟨rfl, rfl⟩, hAe]
      · rw [off _ _ (by omega) (by omega) (by omega) (by omega)]; exact h3 v (by omega)
    · by_cases q : v = u
      · subst q
        have hb0 : b = 0 := by
          rcases hb with ⟨q, _⟩ | ⟨q, t, ht, he⟩
          · exact q
          · exact absurd (by rw [he, hle]) (hf t ht)
        subst hb0
        rw [← hle, ← hne, ← hAe]
        refine ⟨?_, ?_⟩
        · rw [val, if_neg (by omega), if_neg (by omega), if_neg (by omega), if_neg (by omega), if_pos ⟨rfl, rfl⟩]
        · rw [val, if_neg (by omega), if_neg (by omega), if_neg (by omega), if_pos ⟨rfl, rfl⟩]
      · have hne2 : ¬ (2 * vL D v = 2 * l + b) := fun y => by
          have hvl : vL D v = l := by omega
          rcases hb with ⟨q', hh⟩ | ⟨q', hh⟩
          · exact hh v (by omega) hvl
          · omega
        rw [off _ _ (by omega) (by omega) (by omega) (by omega), off _ _ (by omega) (by omega) (by omega) (by omega)]
        exact h4 v (by omega) hf
    · by_cases q : v = u
      · subst q
        obtain ⟨t, ht, he⟩ := hf
        have hb1 : b = 1 := by
          rcases hb with ⟨q, hh⟩ | ⟨q, _⟩
          · exact absurd (by rw [he, hle]) (hh t ht)
          · exact q
        subst hb1
        rw [← hle, ← hne, ← hAe]
        refine ⟨?_, ?_⟩
        · rw [val, if_neg (by omega), if_neg (by omega), if_neg (by omega), if_neg (by omega), if_pos ⟨rfl, rfl⟩]
        · rw [val, if_neg (by omega), if_neg (by omega), if_neg (by omega), if_pos ⟨rfl, rfl⟩]
      · have hne2 : ¬ (2 * vL D v + 1 = 2 * l + b) := fun y => by
          have hvl : vL D v = l := by omega
          obtain ⟨t, ht, he⟩ := hf
          have := vL_two hW hu (show v < tF D (4 * dM D) by omega) (show t < tF D (4 * dM D) by omega) (by rw [hvl, hle]) (by rw [he, hvl, hle]) (by omega) (by omega)
          omega
        rw [off _ _ (by omega) (by omega) (by omega) (by omega), off _ _ (by omega) (by omega) (by omega) (by omega)]
        exact h5 v (by omega) hf
    · exact off _ _ (by omega) (by omega) (by omega) (by omega)
    · exact off _ _ (by omega) (by omega) (by omega) (by omega)
    · by_cases q : j = n
      · rw [q, if_pos rfl, val, if_neg (by omega), if_neg (by omega), if_pos ⟨rfl, rfl⟩]
      · rw [if_neg q]; exact off _ _ (by omega) (by omega) (by omega) (by omega)
    · exact off _ _ (by omega) (by omega) (by omega) (by omega)
  have hbit := hB.2 l (by omega)
  intro y2 e2
  rw [h2, isr_bit (by omega) (by omega)] at e2
  cases hb : L.testBit l
  · rw [hb] at e2 hbit
    refine fin 0 (Or.inl ⟨rfl, fun t ht he => ?_⟩) y2 (by rw [e2]; simp)
    simp at hbit
    exact hbit t ht he
  · rw [hb] at e2 hbit
    refine fin 1 (Or.inr ⟨rfl, hbit.mp rfl⟩) y2 (by rw [e2]; simp)
