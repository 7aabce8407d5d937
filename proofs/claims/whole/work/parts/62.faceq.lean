/-! QUESTIONS about faces -/
theorem Bts.uq {L K N : Nat} {P : Nat → Prop} (h : Bts L N P) (g : Bts K N P) : L = K := by
  apply Nat.eq_of_testBit_eq
  intro i
  by_cases hi : i < N
  · have a := h.2 i hi
    have b := g.2 i hi
    have c : (L.testBit i = true ↔ K.testBit i = true) := a.trans b.symm
    cases h1 : L.testBit i <;> cases h2 : K.testBit i <;> simp_all
  · have p1 : 2 ^ N ≤ 2 ^ i := Nat.pow_le_pow_right (by decide) (by omega)
    rw [Nat.testBit_lt_two_pow (Nat.lt_of_lt_of_le h.1 p1), Nat.testBit_lt_two_pow (Nat.lt_of_lt_of_le g.1 p1)]
/-- the tracing is right, or known to be old -/
def TrOK (w : Wd) (S : Sg) : Prop := wr (w 0 17) = 0 ∨ RepT w 17 (sD S)
/-- what a question leaves alone at the class -/
def offQ (w w' : Wd) : Prop := ∀ c j, (c = 40 ∨ c = 41 ∨ 65 ≤ c) → w' c j = w c j
theorem fresh_ok {Q : Wd → Prop} {w : Wd} {S : Sg} (hS : SOK S) (h : HX w S) (hT : TrOK w S) (hQ : ∀ w', HX w' S → RepT w' 17 (sD S) → (∀ c j, ¬ (c = 0 ∧ j = 17) → (c < 17 ∨ 27 ≤ c) → w' c j = w c j) → Q w') : X10_freshTracing w Q := by
  unfold X10_freshTracing
  refine ⟨fun z => ?_, fun z => ?_⟩
  · refine X8_trace_ok hS.1 h.2.2.2.1 (by omega) rfl (fun w1 h1 o1 => ?_)
    intro w2 e2
    have val : ∀ c j, ¬ (c = 0 ∧ j = 17) → w2 c j = w1 c j := fun c j hc => by rw [e2, up_ap, if_neg hc]
    refine hQ w2 (HX.same hS h (fun c j q1 q2 => by rw [val c j q1, o1 c j (by omega)])) (RepT.of h1 (fun c j _ _ => val c j (by omega))) (fun c j q1 q2 => by rw [val c j q1, o1 c j (by omega)])
  · rcases hT with q | q
    · exact absurd q z
    · exact hQ w h q (fun _ _ _ _ => rfl)
/-- the first state of a face; its length -/
noncomputable def ldF (D : Dw) (f : Nat) : Nat := @dite Nat (∃ l, l < 4 * dM D ∧ ldr (Fc D) l ∧ ncl (Fc D) l = f) (Classical.propDecidable _) (fun h => h.choose) (fun _ => 0)
theorem ldF_ok {D : Dw} {f : Nat} (hf : f < nF D (4 * dM D)) : ldF D f < 4 * dM D ∧ ldr (Fc D) (ldF D f) ∧ ncl (Fc D) (ldF D f) = f := by
  have h : ∃ l, l < 4 * dM D ∧ ldr (Fc D) l ∧ ncl (Fc D) l = f := ncl_en (4 * dM D) f hf
  unfold ldF
  rw [dif_pos h]
  exact h.choose_spec
noncomputable def fl (D : Dw) (f : Nat) : Nat := if f < nF D (4 * dM D) then pF D (ldF D f) else 0
theorem RepT.len {w : Wd} {T : Nat} {D : Dw} (h : RepT w T D) {f : Nat} (hf : f < nFa D) : w (T + 1) f = (fl D f : Int) := by
  unfold fl
  by_cases q : f < nF D (4 * dM D)
  · rw [if_pos q]
    have := ldF_ok q
    have h2 := (h.2.2.1 _ this.1 this.2.1).1
    rw [this.2.2] at h2
    exact h2
  · rw [if_neg q]
    exact h.2.2.2.1 f (by omega) hf
theorem RepF.len {w : Wd} {D : Dw} (h : RepF w D) {f : Nat} (hf : f < nFa D) : w 81 f = (fl D f : Int) := by
  unfold fl
  by_cases q : f < nF D (4 * dM D)
  · rw [if_pos q]
    have := ldF_ok q
    have h2 := (h.2.1 _ this.1 this.2.1).2
    rw [this.2.2] at h2
    exact h2
  · rw [if_neg q]
    exact h.2.2 f (by omega) hf
theorem fl_le {D : Dw} (hW : WF D) (f : Nat) : fl D f ≤ 20 := by
  have m10 := hW.2.1
  unfold fl
  split
  · rename_i q
    have := ldF_ok q
    have h2 := per_le hW this.1 this.2.1
    have : pF D (ldF D f) = per (nx D) (4 * dM D) (ldF D f) := rfl
    omega
  · omega
theorem X8_hasFace_ok {T : Nat} {Q : Int → Wd → Prop} {w : Wd} {D : Dw} {x : Int} (hW : WF D) (h : RepT w T D) (hx : wr x = x) (h1 : ∀ f : Nat, x = f → f < nFa D → Q 1 w) (h0 : ¬ (∃ f : Nat, x = f ∧ f < nFa D) → Q 0 w) : X8_hasFace T x w Q := by
  have hn := nFa_lt hW
  unfold X8_hasFace X8_hasFace_b16
  rw [h.1, hx, wr_nat (by omega)]
  refine ⟨fun z => h0 (fun ⟨f, e, _⟩ => by omega), fun z => ⟨fun z2 => h0 (fun ⟨f, e, hf⟩ => by omega), fun z2 => h1 x.toNat (by omega) (by omega)⟩⟩
/-- the greatest and the least length -/
noncomputable def glF (D : Dw) : Nat → Nat
  | 0 => 0
  | n + 1 => max (glF D n) (fl D n)
noncomputable def llF (D : Dw) : Nat → Nat
  | 0 => 0
  | n + 1 => if n = 0 then fl D 0 else min (llF D n) (fl D n)
theorem glF_le {D : Dw} (hW : WF D) : ∀ n, glF D n ≤ 20
  | 0 => Nat.zero_le _
  | n + 1 => by
    have h1 := glF_le hW n
    have h2 := fl_le hW n
    show max _ _ ≤ 20
    omega
theorem llF_le {D : Dw} (hW : WF D) : ∀ n, llF D n ≤ 20
  | 0 => Nat.zero_le _
  | n + 1 => by
    have h1 := llF_le hW n
    have h2 := fl_le hW n
    have h3 := fl_le hW 0
    show (if n = 0 then fl D 0 else min _ _) ≤ 20
    split <;> omega
theorem X8_greatest_ok {T : Nat} {Q : Int → Wd → Prop} {w : Wd} {D : Dw} (hW : WF D) (h : RepT w T D) (hQ : Q (glF D (nFa D) : Int) w) : X8_greatestLength T w Q := by
  have hn := nFa_lt hW
  have key : ∀ (m f : Nat), f ≤ nFa D → nFa D - f < m → X8_greatestLength_l4 T Q (X8_greatestLength_b29 T Q) m (glF D f : Int) (f : Int) w := by
    intro m
    induction m with
    | zero => intro f a1 a2; omega
    | succ m ih =>
      intro f a1 a2
      have hg := glF_le hW f
      have hl := fl_le hW f
      unfold X8_greatestLength_l4
      rw [h.1, wr_nat (n := nFa D) (by omega), wr_nat (n := f) (by omega)]
      refine ⟨fun z => ?_, fun z => ⟨ix_of rfl (by omega) (by decide), ?_⟩⟩
      · have : f = nFa D := by omega
        subst this
        unfold X8_greatestLength_b29
        rw [wr_nat (by omega)]; exact hQ
      · intro y1 e1
        rw [rd_of rfl (by omega), h.len (by omega), imx_nat (by omega) (by omega)] at e1
        subst e1
        rw [show (f : Int) + 1 = ((f + 1 : Nat) : Int) by omega]
        exact ih (f + 1) (by omega) (by omega)
  exact ⟨nFa D + 1, key (nFa D + 1) 0 (by omega) (by omega)⟩
theorem X8_least_ok {T : Nat} {Q : Int → Wd → Prop} {w : Wd} {D : Dw} (hW : WF D) (h : RepT w T D) (hQ : Q (llF D (nFa D) : Int) w) : X8_leastLength T w Q := by
  have hn := nFa_lt hW
  have key : ∀ (m f : Nat), 1 ≤ f → f ≤ nFa D → nFa D - f < m → X8_leastLength_l20 T Q (X8_leastLength_b45 T Q) m (llF D f : Int) (f : Int) w := by
    intro m
    induction m with
    | zero => intro f a1 a2; omega
    | succ m ih =>
      intro f a0 a1 a2
      have hg := llF_le hW f
      have hl := fl_le hW f
      unfold X8_leastLength_l20
      rw [h.1, wr_nat (n := nFa D) (by omega), wr_nat (n := f) (by omega)]
      refine ⟨fun z => ?_, fun z => ⟨ix_of rfl (by omega) (by decide), ?_⟩⟩
      · have : f = nFa D := by omega
        subst this
        unfold X8_leastLength_b45
        rw [wr_nat (by omega)]; exact hQ
      · intro y1 e1
        rw [rd_of rfl (by omega), h.len (by omega), imn_nat (by omega) (by omega)] at e1
        subst e1
        rw [show (f : Int) + 1 = ((f + 1 : Nat) : Int) by omega]
        have : llF D (f + 1) = min (llF D f) (fl D f) := by
          show (if f = 0 then _ else _) = _
          rw [if_neg (by omega)]
        rw [← this]
        exact ih (f + 1) (by omega) (by omega) (by omega)
  unfold X8_leastLength X8_leastLength_b17
  rw [h.1, wr_nat (n := nFa D) (by omega)]
  refine ⟨fun z => ⟨1, ?_⟩, fun z => ⟨ix_of (n := 0) rfl (by decide) (by decide), ?_⟩⟩
  · unfold X8_leastLength_l20
    rw [h.1, wr_nat (n := nFa D) (by omega), show wr 1 = 1 by decide]
    refine ⟨fun _ => ?_, fun y => by omega⟩
    unfold X8_leastLength_b45
    have : nFa D = 0 := by omega
    rw [this] at hQ
    exact hQ
  · rw [rd0, h.len (by omega)]
    have : llF D 1 = fl D 0 := if_pos rfl
    rw [← this]
    exact ⟨nFa D + 1, key (nFa D + 1) 1 (by omega) (by omega) (by omega)⟩
/-- a line with one face on both sides -/
def OneS (D : Dw) (e : Nat) : Prop := e < dM D ∧ fo D (2 * e) = fo D (2 * dM D + 2 * e)
theorem X8_oneSided_ok {T : Nat} {Q : Int → Wd → Prop} {w : Wd} {D : Dw} {x : Int} (hW : WF D) (h : RepT w T D) (hx : x = (dM D : Int)) (hQ : ∀ L : Nat, Bts L 10 (OneS D) → Q (L : Int) w) : X8_oneSidedLines T x w Q := by
  subst hx
  have m10 := hW.2.1
  have key : ∀ (m e L : Nat), e ≤ dM D → dM D - e < m → Bts L 10 (fun i => i < e ∧ OneS D i) → X8_oneSidedLines_l4 T Q (X8_oneSidedLines_b42 T Q) m (dM D : Int) (L : Int) (e : Int) w := by
    intro m
    induction m with
    | zero => intro e L a1 a2; omega
    | succ m ih =>
      intro e L a1 a2 hB
      have hL : L < 1024 := hB.1
      unfold X8_oneSidedLines_l4
      rw [wr_nat (n := dM D) (by omega), wr_nat (n := e) (by omega), show (e : Int) + 1 = ((e + 1 : Nat) : Int) by omega]
      refine ⟨fun z => ?_, fun z => ⟨ix_of (n := 2 * e) (by omega) (by omega) (by decide), ix_of (n := 2 * e + 1) (by omega) (by omega) (by decide), ?_⟩⟩
      · unfold X8_oneSidedLines_b42
        rw [wr_nat (by omega)]
        exact hQ L (hB.congr (fun i _ => ⟨fun y => y.2, fun y => ⟨by have := y.1; omega, y⟩⟩))
      · have hs := h.2.1.sides hW (show e < dM D by omega)
        have f1 := fo_16 hW (show 2 * e < 4 * dM D by omega)
        have f2 := fo_16 hW (show 2 * dM D + 2 * e < 4 * dM D by omega)
        rw [rd_of (n := 2 * e) (by omega) (by omega), rd_of (n := 2 * e + 1) (by omega) (by omega), hs.1, hs.2, wr_nat (by omega), wr_nat (by omega)]
        refine ⟨fun z2 => ?_, fun z2 => ?_⟩
        · intro y1 e1
          have hp1 : 2 ^ e < 2 ^ 10 := Nat.pow_lt_pow_right (by decide) (by omega)
          rw [isl1 (by omega), ior_nat (by omega) (by omega)] at e1
          subst e1
          refine ih (e + 1) _ (by omega) (by omega) ((hB.set (by omega)).congr (fun i _ => ?_))
          constructor
          · rintro (y | y)
            · exact ⟨by omega, y.2⟩
            · subst y; exact ⟨by omega, by omega, by omega⟩
          · rintro ⟨y1, y2⟩
            by_cases q : i = e
            · exact Or.inr q
            · exact Or.inl ⟨by omega, y2⟩
        · refine ih (e + 1) L (by omega) (by omega) (hB.congr (fun i _ => ?_))
          constructor
          · exact fun y => ⟨by omega, y.2⟩
          · rintro ⟨y1, y2⟩
            refine ⟨?_, y2⟩
            have : i ≠ e := fun q => by
              subst q
              have := y2.2
              omega
            omega
  exact ⟨dM D + 1, key (dM D + 1) 0 0 (by omega) (by omega) ((Bts.none 10).congr (fun i _ => ⟨False.elim, fun y => by omega⟩))⟩
/-! the same at the model -/
theorem X11_oneSided_ok {Q : Int → Wd → Prop} {w : Wd} {D : Dw} (hW : WF D) (hR : RepM w 73 D) (hQ : ∀ (L : Nat) (w' : Wd), Bts L 10 (OneS D) → (∀ c j, c < 79 ∨ 81 < c → w' c j = w c j) → Q (L : Int) w') : X11_oneSided w Q := by
  have m10 := hW.2.1
  unfold X11_oneSided
  refine X11_traces_ok hW hR (by omega) (fun w1 h1 o1 => ?_)
  have R1 : RepM w1 73 D := RepM.of hR (fun j => o1 73 j (by omega))
  have key : ∀ (m e L : Nat), e ≤ dM D → dM D - e < m → Bts L 10 (fun i => i < e ∧ OneS D i) → X11_oneSided_l13 Q (X11_oneSided_b57 Q) m (L : Int) (e : Int) w1 := by
    intro m
    induction m with
    | zero => intro e L a1 a2; omega
    | succ m ih =>
      intro e L a1 a2 hB
      have hL : L < 1024 := hB.1
      unfold X11_oneSided_l13
      rw [rd1, R1.2.1, wr_nat (n := dM D) (by omega), wr_nat (n := e) (by omega), show (e : Int) + 1 = ((e + 1 : Nat) : Int) by omega]
      refine ⟨ix_of (n := 1) rfl (by decide) (by decide), fun z => ?_, fun z => ⟨ix_of (n := 2 * e) (by omega) (by omega) (by decide), ix_of (n := 2 * e + 20) (by omega) (by omega) (by decide), ?_⟩⟩
      · unfold X11_oneSided_b57
        rw [wr_nat (by omega)]
        exact hQ L w1 (hB.congr (fun i _ => ⟨fun y => y.2, fun y => ⟨by have := y.1; omega, y⟩⟩)) o1
      · have m1 : ms D (2 * e) = 2 * e := by
          have := ms_int (D := D) (2 * e)
          rw [if_neg (by omega)] at this; omega
        have m2 : ms D (2 * dM D + 2 * e) = 2 * e + 20 := by
          have := ms_int (D := D) (2 * dM D + 2 * e)
          rw [if_pos (by omega)] at this; omega
        have s1 := h1.1 (2 * e) (by omega)
        have s2 := h1.1 (2 * dM D + 2 * e) (by omega)
        rw [m1] at s1
        rw [m2] at s2
        have f1 := fo_16 hW (show 2 * e < 4 * dM D by omega)
        have f2 := fo_16 hW (show 2 * dM D + 2 * e < 4 * dM D by omega)
        rw [rd_of (n := 2 * e) (by omega) (by omega), rd_of (n := 2 * e + 20) (by omega) (by omega), s1, s2, wr_nat (by omega), wr_nat (by omega)]
        refine ⟨fun z2 => ?_, fun z2 => ?_⟩
        · intro y1 e1
          have hp1 : 2 ^ e < 2 ^ 10 := Nat.pow_lt_pow_right (by decide) (by omega)
          rw [isl1 (by omega), ior_nat (by omega) (by omega)] at e1
          subst e1
          refine ih (e + 1) _ (by omega) (by omega) ((hB.set (by omega)).congr (fun i _ => ?_))
          constructor
          · rintro (y | y)
            · exact ⟨by omega, y.2⟩
            · subst y; exact ⟨by omega, by omega, by omega⟩
          · rintro ⟨y1, y2⟩
            by_cases q : i = e
            · exact Or.inr q
            · exact Or.inl ⟨by omega, y2⟩
        · refine ih (e + 1) L (by omega) (by omega) (hB.congr (fun i _ => ?_))
          constructor
          · exact fun y => ⟨by omega, y.2⟩
          · rintro ⟨y1, y2⟩
            refine ⟨?_, y2⟩
            have : i ≠ e := fun q => by
              subst q
              have := y2.2
              omega
            omega
  exact ⟨dM D + 1, key (dM D + 1) 0 0 (by omega) (by omega) ((Bts.none 10).congr (fun i _ => ⟨False.elim, fun y => by omega⟩))⟩
theorem X11_longest1_ok {Q : Int → Wd → Prop} {w : Wd} {D : Dw} (hW : WF D) (hR : RepM w 73 D) (hQ : ∀ (w' : Wd), (∀ c j, c < 79 ∨ 81 < c → w' c j = w c j) → Q (glF D (nFa D) : Int) w') : X11_longest 1 w Q := by
  have hn := nFa_lt hW
  unfold X11_longest
  refine X11_traces_ok hW hR (by omega) (fun w1 h1 o1 => ?_)
  have key : ∀ (m f : Nat), f ≤ nFa D → nFa D - f < m → X11_longest_l27 Q (X11_longest_b76 Q) m 1 (nFa D : Int) (glF D f : Int) (f : Int) w1 := by
    intro m
    induction m with
    | zero => intro f a1 a2; omega
    | succ m ih =>
      intro f a1 a2
      have hg := glF_le hW f
      have hl := fl_le hW f
      unfold X11_longest_l27
      rw [wr_nat (n := nFa D) (by omega), wr_nat (n := f) (by omega), show wr 1 = 1 by decide, show (f : Int) + 1 = ((f + 1 : Nat) : Int) by omega]
      refine ⟨fun z => ?_, fun z => ⟨fun y => absurd y (by decide), fun _ => ⟨ix_of rfl (by omega) (by decide), ?_⟩⟩⟩
      · have : f = nFa D := by omega
        subst this
        unfold X11_longest_b76
        rw [wr_nat (by omega)]; exact hQ w1 o1
      · unfold X11_longest_b62
        rw [rd_of rfl (by omega), h1.len (by omega), wr_nat (n := fl D f) (by omega), wr_nat (n := glF D f) (by omega)]
        have hs : glF D (f + 1) = max (glF D f) (fl D f) := rfl
        have hi := ih (f + 1) (by omega) (by omega)
        refine ⟨fun y => ?_, fun y => ⟨ix_of rfl (by omega) (by decide), fun y3 e3 => ?_⟩⟩
        · rw [show glF D (f + 1) = glF D f by omega] at hi; exact hi
        · rw [show glF D (f + 1) = fl D f by omega] at hi
          rw [show (f : Int) + 1 = ((f + 1 : Nat) : Int) by omega, e3]; exact hi
  rw [wr_nat (n := nFa D) (by omega)]
  unfold X11_longest_b23
  refine ⟨fun z => ⟨1, ?_⟩, fun z => ⟨ix_of (n := 0) rfl (by decide) (by decide), ?_⟩⟩
  · unfold X11_longest_l27
    rw [wr_nat (n := nFa D) (by omega), show wr 1 = 1 by decide]
    refine ⟨fun _ => ?_, fun y => by omega⟩
    unfold X11_longest_b76
    have h0 := hQ w1 o1
    have : nFa D = 0 := by omega
    rw [this] at h0
    exact h0
  · rw [rd0, h1.len (by omega)]
    have : glF D 1 = fl D 0 := Nat.zero_max _
    rw [← this]
    exact ⟨nFa D + 1, key (nFa D + 1) 1 (by omega) (by omega)⟩
theorem X11_longest0_ok {Q : Int → Wd → Prop} {w : Wd} {D : Dw} (hW : WF D) (hR : RepM w 73 D) (hQ : ∀ (w' : Wd), (∀ c j, c < 79 ∨ 81 < c → w' c j = w c j) → Q (llF D (nFa D) : Int) w') : X11_longest 0 w Q := by
  have hn := nFa_lt hW
  unfold X11_longest
  refine X11_traces_ok hW hR (by omega) (fun w1 h1 o1 => ?_)
  have key : ∀ (m f : Nat), 1 ≤ f → f ≤ nFa D → nFa D - f < m → X11_longest_l27 Q (X11_longest_b76 Q) m 0 (nFa D : Int) (llF D f : Int) (f : Int) w1 := by
    intro m
    induction m with
    | zero => intro f a1 a2; omega
    | succ m ih =>
      intro f a0 a1 a2
      have hg := llF_le hW f
      have hl := fl_le hW f
      unfold X11_longest_l27
      rw [wr_nat (n := nFa D) (by omega), wr_nat (n := f) (by omega), show wr 0 = 0 by decide, show (f : Int) + 1 = ((f + 1 : Nat) : Int) by omega]
      refine ⟨fun z => ?_, fun z => ⟨fun _ => ⟨ix_of rfl (by omega) (by decide), ?_⟩, fun y => absurd rfl y⟩⟩
      · have : f = nFa D := by omega
        subst this
        unfold X11_longest_b76
        rw [wr_nat (by omega)]; exact hQ w1 o1
      · unfold X11_longest_b62
        rw [rd_of rfl (by omega), h1.len (by omega), wr_nat (n := fl D f) (by omega), wr_nat (n := llF D f) (by omega)]
        have hs : llF D (f + 1) = min (llF D f) (fl D f) := by
          show (if f = 0 then _ else _) = _
          rw [if_neg (by omega)]
        have hi := ih (f + 1) (by omega) (by omega) (by omega)
        refine ⟨fun y => ?_, fun y => ⟨ix_of rfl (by omega) (by decide), fun y3 e3 => ?_⟩⟩
        · rw [show llF D (f + 1) = llF D f by omega] at hi; exact hi
        · rw [show llF D (f + 1) = fl D f by omega] at hi
          rw [show (f : Int) + 1 = ((f + 1 : Nat) : Int) by omega, e3]; exact hi
  rw [wr_nat (n := nFa D) (by omega)]
  unfold X11_longest_b23
  refine ⟨fun z => ⟨1, ?_⟩, fun z => ⟨ix_of (n := 0) rfl (by decide) (by decide), ?_⟩⟩
  · unfold X11_longest_l27
    rw [wr_nat (n := nFa D) (by omega), show wr 1 = 1 by decide]
    refine ⟨fun _ => ?_, fun y => by omega⟩
    unfold X11_longest_b76
    have h0 := hQ w1 o1
    have : nFa D = 0 := by omega
    rw [this] at h0
    exact h0
  · rw [rd0, h1.len (by omega)]
    have : llF D 1 = fl D 0 := if_pos rfl
    rw [← this]
    exact ⟨nFa D + 1, key (nFa D + 1) 1 (by omega) (by omega) (by omega)⟩
theorem X11_twisted_ok {Q : Int → Wd → Prop} {w : Wd} {D : Dw} (hW : WF D) (hR : RepM w 73 D) (hQ : ∀ (L : Nat), Bts L 10 (fun e => e < dM D ∧ dT D e = true) → Q (L : Int) w) : X11_twisted w Q := by
  have m10 := hW.2.1
  have key : ∀ (m e L : Nat), e ≤ dM D → dM D - e < m → Bts L 10 (fun i => i < e ∧ dT D i = true) → X11_twisted_l4 Q (X11_twisted_b39 Q) m (L : Int) (e : Int) w := by
    intro m
    induction m with
    | zero => intro e L a1 a2; omega
    | succ m ih =>
      intro e L a1 a2 hB
      have hL : L < 1024 := hB.1
      unfold X11_twisted_l4
      rw [rd1, hR.2.1, wr_nat (n := dM D) (by omega), wr_nat (n := e) (by omega), show (e : Int) + 1 = ((e + 1 : Nat) : Int) by omega]
      refine ⟨ix_of (n := 1) rfl (by decide) (by decide), fun z => ?_, fun z => ⟨ix_of (n := 22 + e) (by omega) (by omega) (by decide), ?_⟩⟩
      · unfold X11_twisted_b39
        rw [wr_nat (by omega)]
        have : e = dM D := by omega
        subst this
        exact hQ L hB
      · rw [rd_of (n := 22 + e) (by omega) (by omega), hR.tw (by omega)]
        refine ⟨fun z2 => ?_, fun z2 => ?_⟩
        · intro y1 e1
          have hp1 : 2 ^ e < 2 ^ 10 := Nat.pow_lt_pow_right (by decide) (by omega)
          rw [isl1 (by omega), ior_nat (by omega) (by omega)] at e1
          subst e1
          have ht : dT D e = true := by
            cases q : dT D e
            · rw [q] at z2; exact absurd z2 (by decide)
            · rfl
          refine ih (e + 1) _ (by omega) (by omega) ((hB.set (by omega)).congr (fun i _ => ?_))
          constructor
          · rintro (y | y)
            · exact ⟨by omega, y.2⟩
            · subst y; exact ⟨by omega, ht⟩
          · rintro ⟨y1, y2⟩
            by_cases q : i = e
            · exact Or.inr q
            · exact Or.inl ⟨by omega, y2⟩
        · refine ih (e + 1) L (by omega) (by omega) (hB.congr (fun i _ => ?_))
          constructor
          · exact fun y => ⟨by omega, y.2⟩
          · rintro ⟨y1, y2⟩
            refine ⟨?_, y2⟩
            have : i ≠ e := fun q => by
              subst q
              rw [y2] at z2
              exact z2 rfl
            omega
  exact ⟨dM D + 1, key (dM D + 1) 0 0 (by omega) (by omega) ((Bts.none 10).congr (fun i _ => ⟨False.elim, fun y => by omega⟩))⟩
