/-! PARTS -/
/-- they hang together by the first k lines -/
def Con (D : Dw) : Nat → Nat → Nat → Prop
  | 0, a, b => a = b
  | k + 1, a, b => Con D k a b ∨ (Con D k a (dE D (2 * k)) ∧ Con D k (dE D (2 * k + 1)) b) ∨ (Con D k a (dE D (2 * k + 1)) ∧ Con D k (dE D (2 * k)) b)
theorem Con.refl (D : Dw) : ∀ k a, Con D k a a
  | 0, _ => rfl
  | k + 1, a => Or.inl (Con.refl D k a)
theorem Con.symm {D : Dw} : ∀ {k a b}, Con D k a b → Con D k b a
  | 0, _, _, h => Eq.symm h
  | k + 1, a, b, h => by
    rcases h with h | ⟨h1, h2⟩ | ⟨h1, h2⟩
    · exact Or.inl (Con.symm h)
    · exact Or.inr (Or.inr ⟨Con.symm h2, Con.symm h1⟩)
    · exact Or.inr (Or.inl ⟨Con.symm h2, Con.symm h1⟩)
theorem Con.trans {D : Dw} : ∀ {k a b c}, Con D k a b → Con D k b c → Con D k a c
  | 0, _, _, _, h, g => Eq.trans h g
  | k + 1, a, b, c, h, g => by
    have t := @Con.trans D k
    rcases h with h | ⟨h1, h2⟩ | ⟨h1, h2⟩ <;> rcases g with g | ⟨g1, g2⟩ | ⟨g1, g2⟩
    · exact Or.inl (t h g)
    · exact Or.inr (Or.inl ⟨t h g1, g2⟩)
    · exact Or.inr (Or.inr ⟨t h g1, g2⟩)
    · exact Or.inr (Or.inl ⟨h1, t h2 g⟩)
    · exact Or.inr (Or.inl ⟨h1, g2⟩)
    · exact Or.inl (t h1 g2)
    · exact Or.inr (Or.inr ⟨h1, t h2 g⟩)
    · exact Or.inl (t h1 g2)
    · exact Or.inr (Or.inr ⟨h1, g2⟩)
theorem Con.eqR (D : Dw) (k N : Nat) : EqR (Con D k) N := ⟨fun s _ => Con.refl D k s, fun _ _ _ _ h => h.symm, fun _ _ _ _ _ _ h g => h.trans g⟩
theorem Con.line (D : Dw) : ∀ {k e : Nat}, e < k → Con D k (dE D (2 * e)) (dE D (2 * e + 1))
  | 0, _, h => by omega
  | k + 1, e, h => by
    by_cases q : e = k
    · subst q
      exact Or.inr (Or.inl ⟨Con.refl D e _, Con.refl D e _⟩)
    · exact Or.inl (Con.line D (by omega))
theorem Con.closed {D : Dw} {P : Nat → Prop} : ∀ {k : Nat}, (∀ e, e < k → (P (dE D (2 * e)) ↔ P (dE D (2 * e + 1)))) → ∀ {a b : Nat}, Con D k a b → (P a ↔ P b)
  | 0, _, _, _, h => by
    have : _ = _ := h
    rw [this]
  | k + 1, hP, a, b, h => by
    have ih := @Con.closed D P k (fun e he => hP e (by omega))
    rcases h with h | ⟨h1, h2⟩ | ⟨h1, h2⟩
    · exact ih h
    · exact (ih h1).trans ((hP k (by omega)).trans (ih h2))
    · exact (ih h1).trans ((hP k (by omega)).symm.trans (ih h2))
/-- how many parts, by the first k lines -/
noncomputable def nPt (D : Dw) (k : Nat) : Nat := ncl (Con D k) (dN D)
theorem nPt_same {D : Dw} {k : Nat} (h : Con D k (dE D (2 * k)) (dE D (2 * k + 1))) : nPt D (k + 1) = nPt D k ∧ ∀ a b, Con D (k + 1) a b ↔ Con D k a b := by
  have e : ∀ a b, Con D (k + 1) a b ↔ Con D k a b := fun a b => by
    constructor
    · rintro (g | ⟨g1, g2⟩ | ⟨g1, g2⟩)
      · exact g
      · exact g1.trans (h.trans g2)
      · exact g1.trans (h.symm.trans g2)
    · exact Or.inl
  exact ⟨ncl_congr _ (fun a b _ _ => e a b), e⟩
theorem nPt_less {D : Dw} {k : Nat} (h1 : dE D (2 * k) < dN D) (h2 : dE D (2 * k + 1) < dN D) (h : ¬ Con D k (dE D (2 * k)) (dE D (2 * k + 1))) : nPt D (k + 1) + 1 = nPt D k := by
  refine ncl_merge (Con.eqR D k (dN D)) h1 h2 h (fun s t _ _ => Iff.rfl)
theorem ncl_eqn : ∀ (n : Nat), ncl (fun a b : Nat => a = b) n = n
  | 0 => rfl
  | n + 1 => by
    have hl : ldr (fun a b : Nat => a = b) n := fun j hj e => by omega
    rw [ncl_ld hl, ncl_eqn n]
theorem nPt_zero (D : Dw) : nPt D 0 = dN D := ncl_eqn (dN D)
theorem nPt_le (D : Dw) (k : Nat) : nPt D k ≤ dN D := ncl_le _
theorem nPt_congr {D D' : Dw} (hN : dN D = dN D') : ∀ {k : Nat}, (∀ i, i < 2 * k → dE D i = dE D' i) → ∀ a b, Con D k a b ↔ Con D' k a b
  | 0, _, _, _ => Iff.rfl
  | k + 1, h, a, b => by
    have ih := @nPt_congr D D' hN k (fun i hi => h i (by omega))
    show (Con D k a b ∨ _ ∨ _) ↔ (Con D' k a b ∨ _ ∨ _)
    rw [ih, ih, ih, ih, ih, h (2 * k) (by omega), h (2 * k + 1) (by omega)]
/-! how many bits -/
def cB (L : Nat) : Nat → Nat
  | 0 => 0
  | n + 1 => cB L n + (if L.testBit n then 1 else 0)
theorem cB_le (L : Nat) : ∀ n, cB L n ≤ n
  | 0 => Nat.le_refl _
  | n + 1 => by
    have := cB_le L n
    show cB L n + (if L.testBit n then 1 else 0) ≤ n + 1
    split <;> omega
theorem cB_mono {L K : Nat} : ∀ n, (∀ i, i < n → L.testBit i = true → K.testBit i = true) → cB L n ≤ cB K n
  | 0, _ => Nat.le_refl _
  | n + 1, h => by
    have ih := cB_mono n (fun i hi => h i (by omega))
    have h2 := h n (by omega)
    show cB L n + (if L.testBit n then 1 else 0) ≤ cB K n + (if K.testBit n then 1 else 0)
    split
    · rename_i q
      rw [if_pos (h2 q)]; omega
    · omega
theorem cB_lt {L K : Nat} : ∀ n, (∀ i, i < n → L.testBit i = true → K.testBit i = true) → (∃ i, i < n ∧ L.testBit i = false ∧ K.testBit i = true) → cB L n < cB K n
  | 0, _, ⟨i, hi, _⟩ => by omega
  | n + 1, h, ⟨i, hi, h1, h2⟩ => by
    have hm := cB_mono n (fun i hi => h i (by omega))
    show cB L n + (if L.testBit n then 1 else 0) < cB K n + (if K.testBit n then 1 else 0)
    by_cases q : i = n
    · subst q
      rw [h1, h2]
      simp; omega
    · have ih := cB_lt n (fun i hi => h i (by omega)) ⟨i, by omega, h1, h2⟩
      have h3 := h n (by omega)
      split
      · rename_i q
        rw [if_pos (h3 q)]; omega
      · omega
theorem cB_full {L : Nat} : ∀ n, n ≤ cB L n → ∀ i, i < n → L.testBit i = true
  | 0, _, i, hi => by omega
  | n + 1, h, i, hi => by
    have h1 := cB_le L n
    have h2 : n + 1 ≤ cB L n + (if L.testBit n then 1 else 0) := h
    by_cases q : i = n
    · subst q
      cases z : L.testBit i
      · rw [z] at h2; simp at h2; omega
      · rfl
    · refine cB_full n ?_ i (by omega)
      split at h2 <;> omega
theorem cB_pos {L : Nat} : ∀ n i, i < n → L.testBit i = true → 1 ≤ cB L n
  | 0, _, h, _ => by omega
  | n + 1, i, h, hb => by
    show 1 ≤ cB L n + (if L.testBit n then 1 else 0)
    by_cases q : i = n
    · subst q; rw [if_pos hb]; omega
    · have := cB_pos n i (by omega) hb
      omega
/-- the bits of two posts -/
theorem both_bit (a b i : Nat) : (2 ^ a ||| 2 ^ b).testBit i = (decide (i = a) || decide (i = b)) := by
  rw [Nat.testBit_or, Nat.testBit_two_pow, Nat.testBit_two_pow]
  by_cases h1 : a = i <;> by_cases h2 : b = i <;> simp [h1, h2, eq_comm]
theorem and_both {L a b : Nat} : L &&& (2 ^ a ||| 2 ^ b) = 0 ↔ L.testBit a = false ∧ L.testBit b = false := by
  constructor
  · intro h
    have h1 : (L &&& (2 ^ a ||| 2 ^ b)).testBit a = false := by rw [h]; simp
    have h2 : (L &&& (2 ^ a ||| 2 ^ b)).testBit b = false := by rw [h]; simp
    rw [Nat.testBit_and, both_bit] at h1 h2
    simp at h1 h2
    exact ⟨h1, h2⟩
  · rintro ⟨h1, h2⟩
    apply Nat.eq_of_testBit_eq
    intro i
    rw [Nat.testBit_and, both_bit]
    by_cases q1 : i = a
    · subst q1; simp [h1]
    · by_cases q2 : i = b
      · subst q2; simp [h2]
      · simp [q1, q2]
theorem RepX.en {w : Wd} {k : Nat} {D : Dw} (h : RepX w k D) {i : Nat} (hi : i < 2 * dM D) : w (k + 1) i = (dE D i : Int) := h.2.2.2.1 i hi
theorem X1_reach_ok {K : Nat} {Q : Int → Wd → Prop} {w : Wd} {D : Dw} {x1 x2 : Int} (p k : Nat) (h1 : x1 = (p : Int)) (h2 : x2 = (k : Int)) (hW : WF D) (hR : RepX w K D) (hp : p < dN D) (hk : k ≤ dM D) (hQ : ∀ L : Nat, Bts L 6 (fun q => q < dN D ∧ Con D k p q) → Q (L : Int) w) : X1_reach K x1 x2 w Q := by
  subst h1 h2
  have n6 := hW.1
  have m10 := hW.2.1
  -- one pass
  have pass : ∀ (e73 : Int → Int → Int → Int → Wd → Prop) (x4 : Int) (B : Nat), B < 64 → (∀ q, B.testBit q = true → q < dN D ∧ Con D k p q) → (∀ L : Nat, L < 64 → (∀ q, B.testBit q = true → L.testBit q = true) → (∀ q, L.testBit q = true → q < dN D ∧ Con D k p q) → (L = B → ∀ e, e < k → (B.testBit (dE D (2 * e)) = true ↔ B.testBit (dE D (2 * e + 1)) = true)) → e73 (k : Int) (L : Int) x4 (B : Int) w) → ∀ (m e L : Nat), e ≤ k → k - e < m → L < 64 → (∀ q, B.testBit q = true → L.testBit q = true) → (∀ q, L.testBit q = true → q < dN D ∧ Con D k p q) → (L = B → ∀ d, d < e → (B.testBit (dE D (2 * d)) = true ↔ B.testBit (dE D (2 * d + 1)) = true)) → X1_reach_l22 K Q e73 m (k : Int) (L : Int) x4 (B : Int) (e : Int) w := by
    intro e73 x4 B hB hBs hK m
    induction m with
    | zero => intro e L a1 a2; omega
    | succ m ih =>
      intro e L a1 a2 hL hsub hsound hcl
      unfold X1_reach_l22
      rw [wr_nat (n := k) (by omega), wr_nat (n := e) (by omega)]
      refine ⟨fun z => ?_, fun z => ⟨ix_of (n := 2 * e) (by omega) (by omega) (by decide), ix_of (n := 2 * e + 1) (by omega) (by omega) (by decide), ?_⟩⟩
      · have : e = k := by omega
        subst this
        exact hK L hL hsub hsound hcl
      · intro y2 e2
        have b1 := hW.2.2.1 (2 * e) (by omega)
        have b2 := hW.2.2.1 (2 * e + 1) (by omega)
        obtain ⟨a, hae⟩ : ∃ a, a = dE D (2 * e) := ⟨_, rfl⟩
        obtain ⟨b, hbe⟩ : ∃ b, b = dE D (2 * e + 1) := ⟨_, rfl⟩
        rw [← hae] at b1
        rw [← hbe] at b2
        have p1 : 2 ^ a < 2 ^ 6 := Nat.pow_lt_pow_right (by decide) (by omega)
        have p2 : 2 ^ b < 2 ^ 6 := Nat.pow_lt_pow_right (by decide) (by omega)
        have p3 : 2 ^ a ||| 2 ^ b < 2 ^ 6 := Nat.or_lt_two_pow p1 p2
        rw [rd_of (n := 2 * e) (by omega) (by omega), rd_of (n := 2 * e + 1) (by omega) (by omega), hR.en (by omega), hR.en (by omega), ← hae, ← hbe, isl1 (by omega), isl1 (by omega), ior_nat (by omega) (by omega)] at e2
        subst e2
        have p4 : L &&& (2 ^ a ||| 2 ^ b) < 64 := Nat.lt_of_le_of_lt Nat.and_le_left hL
        rw [ian_nat (by omega), wr_nat (by omega), show (e : Int) + 1 = ((e + 1 : Nat) : Int) by omega]
        refine ⟨fun z2 => ?_, fun z2 => ?_⟩
        · have z3 : L &&& (2 ^ a ||| 2 ^ b) = 0 := by omega
          have z4 := and_both.mp z3
          refine ih (e + 1) L (by omega) (by omega) hL hsub hsound (fun hLB d hd => ?_)
          by_cases q : d = e
          · subst q
            rw [← hae, ← hbe, ← hLB, z4.1, z4.2]
          · exact hcl hLB d (by omega)
        · intro y3 e3
          rw [ior_nat (by omega) (by omega)] at e3
          subst e3
          have hor : ∀ q, (L ||| (2 ^ a ||| 2 ^ b)).testBit q = true ↔ (L.testBit q = true ∨ q = a ∨ q = b) := fun q => by
            rw [Nat.testBit_or, both_bit]
            simp
          have hcab : Con D k a b := by rw [hae, hbe]; exact Con.line D (by omega)
          have hin : Con D k p a ∧ Con D k p b := by
            have : ¬ (L.testBit a = false ∧ L.testBit b = false) := fun y => z2 (by rw [and_both.mpr y]; rfl)
            cases q1 : L.testBit a
            · cases q2 : L.testBit b
              · exact absurd ⟨q1, q2⟩ this
              · have := (hsound b q2).2
                exact ⟨this.trans hcab.symm, this⟩
            · have := (hsound a q1).2
              exact ⟨this, this.trans hcab⟩
          refine ih (e + 1) _ (by omega) (by omega) (Nat.or_lt_two_pow (n := 6) hL p3) (fun q hq => (hor q).mpr (Or.inl (hsub q hq))) (fun q hq => ?_) (fun hLB d hd => ?_)
          · rcases (hor q).mp hq with y | y | y
            · exact hsound q y
            · rw [y]; exact ⟨b1, hin.1⟩
            · rw [y]; exact ⟨b2, hin.2⟩
          · have hLB2 : L = B := by
              apply Nat.eq_of_testBit_eq
              intro i
              cases q : L.testBit i
              · cases q2 : B.testBit i
                · rfl
                · rw [hsub i q2] at q; exact absurd q (by decide)
              · have := (hor i).mpr (Or.inl q)
                rw [hLB] at this
                rw [this]
            by_cases q : d = e
            · subst q
              have h1 := (hor a).mpr (Or.inr (Or.inl rfl))
              have h2 := (hor b).mpr (Or.inr (Or.inr rfl))
              rw [hLB] at h1 h2
              rw [← hae, ← hbe, h1, h2]
            · exact hcl hLB2 d (by omega)
  have fin : ∀ L : Nat, L < 64 → L.testBit p = true → (∀ q, L.testBit q = true → q < dN D ∧ Con D k p q) → (∀ q, q < dN D → Con D k p q → L.testBit q = true) → Q (L : Int) w := fun L hL _ hs hc => hQ L ⟨hL, fun q _ => ⟨hs q, fun y => hc q y.1 y.2⟩⟩
  have key : ∀ (m t L : Nat), 1 ≤ t → t ≤ dN D → dN D - t < m → L < 64 → L.testBit p = true → (∀ q, L.testBit q = true → q < dN D ∧ Con D k p q) → t ≤ cB L (dN D) → X1_reach_l7 K Q (X1_reach_b79 K Q) (X1_reach_b88 K Q) m (k : Int) (L : Int) (t : Int) w := by
    intro m
    induction m with
    | zero => intro t L a0 a1 a2; omega
    | succ m ih =>
      intro t L a0 a1 a2 hL hLp hsound hcard
      unfold X1_reach_l7
      rw [hR.1, wr_nat (n := dN D) (by omega), wr_nat (n := t) (by omega)]
      refine ⟨fun z => ?_, fun z => ⟨k + 1, ?_⟩⟩
      · unfold X1_reach_b88
        rw [wr_nat (by omega)]
        exact fin L hL hLp hsound (fun q hq _ => cB_full (dN D) (by omega) q hq)
      · refine pass _ _ L hL hsound (fun L' hL' hsub hs' hcl => ?_) (k + 1) 0 L (by omega) (by omega) hL (fun _ y => y) hsound (fun _ d hd => by omega)
        unfold X1_reach_b73
        rw [wr_nat (n := L') (by omega), wr_nat (n := L) (by omega)]
        refine ⟨fun z2 => ?_, fun z2 => ?_⟩
        · have : L' = L := by omega
          subst this
          have hc2 := hcl rfl
          unfold X1_reach_b79 X1_reach_b88
          rw [wr_nat (by omega)]
          exact fin L' hL' hLp hsound (fun q hq hcon => (Con.closed (P := fun x => L'.testBit x = true) hc2 hcon).mp hLp)
        · rw [show (t : Int) + 1 = ((t + 1 : Nat) : Int) by omega]
          refine ih (t + 1) L' (by omega) (by omega) (by omega) hL' (hsub p hLp) hs' ?_
          have hne : ∃ i, i < dN D ∧ L.testBit i = false ∧ L'.testBit i = true := by
            by_cases q : ∃ i, i < dN D ∧ L.testBit i = false ∧ L'.testBit i = true
            · exact q
            · exfalso
              refine z2 (congrArg _ (Nat.eq_of_testBit_eq (fun i => ?_)))
              cases h1 : L.testBit i
              · cases h2 : L'.testBit i
                · rfl
                · exact absurd ⟨i, (hs' i h2).1, h1, h2⟩ q
              · exact hsub i h1
          have := cB_lt (dN D) (fun i _ => hsub i) hne
          omega
  unfold X1_reach
  intro y1 e1
  rw [isl1 (by omega)] at e1
  subst e1
  have hp1 : 2 ^ p < 2 ^ 6 := Nat.pow_lt_pow_right (by decide) (by omega)
  have hbp : ∀ q, (2 ^ p).testBit q = true ↔ q = p := fun q => by
    rw [Nat.testBit_two_pow]
    simp [eq_comm]
  exact ⟨dN D + 1, key (dN D + 1) 1 (2 ^ p) (by omega) (by omega) (by omega) hp1 ((hbp p).mpr rfl) (fun q hq => by rw [(hbp q).mp hq]; exact ⟨hp, Con.refl D k p⟩) (cB_pos _ p hp ((hbp p).mpr rfl))⟩
theorem X1_countParts_ok {K : Nat} {Q : Int → Wd → Prop} {w : Wd} {D : Dw} (hW : WF D) (hR : RepX w K D) (hQ : Q (nPt D (dM D) : Int) w) : X1_countParts K w Q := by
  have n6 := hW.1
  have m10 := hW.2.1
  have ho := Con.eqR D (dM D) (dN D)
  have key : ∀ (m p L : Nat), p ≤ dN D → dN D - p < m → Bts L 6 (fun q => q < dN D ∧ ∃ j, j < p ∧ Con D (dM D) j q) → X1_countParts_l6 K Q (X1_countParts_b43 K Q) m (ncl (Con D (dM D)) p : Int) (L : Int) (p : Int) w := by
    intro m
    induction m with
    | zero => intro p L a1 a2; omega
    | succ m ih =>
      intro p L a1 a2 hB
      have hL : L < 64 := hB.1
      have hnc := ncl_le (R := Con D (dM D)) p
      unfold X1_countParts_l6
      rw [hR.1, wr_nat (n := dN D) (by omega), wr_nat (n := p) (by omega), show (p : Int) + 1 = ((p + 1 : Nat) : Int) by omega]
      refine ⟨fun z => ?_, fun z => ?_⟩
      · have : p = dN D := by omega
        subst this
        unfold X1_countParts_b43
        rw [wr_nat (by omega)]; exact hQ
      · have hpN : p < dN D := by omega
        rcases hB.bit (by omega) (show p < 6 by omega) (p : Int) rfl with ⟨b, e⟩ | ⟨b, e⟩
        · have hnl : ¬ ldr (Con D (dM D)) p := fun y => by
            obtain ⟨_, j, hj, y2⟩ := b
            exact y j hj y2
          rw [e]
          refine ⟨fun y => absurd y (by decide), fun _ => ?_⟩
          rw [← ncl_no hnl]
          refine ih (p + 1) L (by omega) (by omega) (hB.congr (fun q hq => ?_))
          constructor
          · rintro ⟨y, j, hj, y2⟩; exact ⟨y, j, by omega, y2⟩
          · rintro ⟨y, hy⟩
            refine ⟨y, ?_⟩
            by_cases g : ∃ j, j < p ∧ Con D (dM D) j q
            · exact g
            · obtain ⟨j, hj, y2⟩ := hy
              exact absurd y2 ((ldr_next ho hpN hnl q y).mp (fun i hi y3 => g ⟨i, hi, y3⟩) j hj)
        · have hld : ldr (Con D (dM D)) p := fun j hj y => b ⟨hpN, j, hj, y⟩
          rw [e]
          refine ⟨fun _ => ?_, fun y => absurd rfl y⟩
          refine X1_reach_ok p (dM D) rfl hR.2.1 hW hR hpN (Nat.le_refl _) (fun L2 hB2 => ?_)
          have hL2 : L2 < 64 := hB2.1
          intro y3 e3
          rw [ior_nat (by omega) (by omega)] at e3
          subst e3
          rw [show (ncl (Con D (dM D)) p : Int) + 1 = ((ncl (Con D (dM D)) (p + 1) : Nat) : Int) by rw [ncl_ld hld]; omega]
          refine ih (p + 1) _ (by omega) (by omega) ⟨Nat.or_lt_two_pow (n := 6) hL hL2, fun q hq => ?_⟩
          rw [Nat.testBit_or, Bool.or_eq_true, hB.2 q hq, hB2.2 q hq]
          constructor
          · rintro (⟨y, j, hj, y2⟩ | ⟨y, y2⟩)
            · exact ⟨y, j, by omega, y2⟩
            · exact ⟨y, p, by omega, y2⟩
          · rintro ⟨y, j, hj, y2⟩
            by_cases g : j = p
            · subst g; exact Or.inr ⟨y, y2⟩
            · exact Or.inl ⟨y, j, by omega, y2⟩
  exact ⟨dN D + 1, key (dN D + 1) 0 0 (by omega) (by omega) ((Bts.none 6).congr (fun q _ => ⟨False.elim, fun ⟨_, j, hj, _⟩ => by omega⟩))⟩
/-- lines that make a ring with lesser ones -/
def Loose (D : Dw) (e : Nat) : Prop := Con D e (dE D (2 * e)) (dE D (2 * e + 1))
theorem X1_looseLines_ok {K : Nat} {Q : Int → Wd → Prop} {w : Wd} {D : Dw} (hW : WF D) (hR : RepX w K D) (hQ : ∀ L : Nat, Bts L 10 (fun e => e < dM D ∧ Loose D e) → Q (L : Int) w) : X1_looseLines K w Q := by
  have n6 := hW.1
  have m10 := hW.2.1
  have key : ∀ (m e L : Nat), e ≤ dM D → dM D - e < m → Bts L 10 (fun d => d < e ∧ Loose D d) → X1_looseLines_l4 K Q (X1_looseLines_b53 K Q) m (L : Int) (e : Int) w := by
    intro m
    induction m with
    | zero => intro e L a1 a2; omega
    | succ m ih =>
      intro e L a1 a2 hB
      have hL : L < 1024 := hB.1
      unfold X1_looseLines_l4
      rw [hR.2.1, wr_nat (n := dM D) (by omega), wr_nat (n := e) (by omega)]
      refine ⟨fun z => ?_, fun z => ⟨ix_of (n := 2 * e) (by omega) (by omega) (by decide), ?_⟩⟩
      · have : e = dM D := by omega
        subst this
        unfold X1_looseLines_b53
        rw [wr_nat (by omega)]; exact hQ L hB
      · have b1 := hW.2.2.1 (2 * e) (by omega)
        have b2 := hW.2.2.1 (2 * e + 1) (by omega)
        rw [rd_of (n := 2 * e) (by omega) (by omega), hR.en (by omega)]
        refine X1_reach_ok _ e rfl rfl hW hR b1 (by omega) (fun L2 hB2 => ⟨ix_of (n := 2 * e + 1) (by omega) (by omega) (by decide), ?_⟩)
        rw [rd_of (n := 2 * e + 1) (by omega) (by omega), hR.en (by omega), show (e : Int) + 1 = ((e + 1 : Nat) : Int) by omega]
        rcases hB2.bit (by omega) (show dE D (2 * e + 1) < 6 by omega) (dE D (2 * e + 1) : Int) rfl with ⟨b, h⟩ | ⟨b, h⟩
        · rw [h]
          refine ⟨fun y => absurd y (by decide), fun _ => ?_⟩
          intro y3 e3
          have hp1 : 2 ^ e < 2 ^ 10 := Nat.pow_lt_pow_right (by decide) (by omega)
          rw [isl1 (by omega), ior_nat (by omega) (by omega)] at e3
          subst e3
          refine ih (e + 1) _ (by omega) (by omega) ((hB.set (by omega)).congr (fun d _ => ?_))
          constructor
          · rintro (y | y)
            · exact ⟨by omega, y.2⟩
            · subst y; exact ⟨by omega, b.2⟩
          · rintro ⟨y1, y2⟩
            by_cases q : d = e
            · exact Or.inr q
            · exact Or.inl ⟨by omega, y2⟩
        · rw [h]
          refine ⟨fun _ => ih (e + 1) L (by omega) (by omega) (hB.congr (fun d _ => ?_)), fun y => absurd rfl y⟩
          constructor
          · exact fun y => ⟨by omega, y.2⟩
          · rintro ⟨y1, y2⟩
            refine ⟨?_, y2⟩
            have : d ≠ e := fun q => by
              subst q
              exact b ⟨b2, y2⟩
            omega
  exact ⟨dM D + 1, key (dM D + 1) 0 0 (by omega) (by omega) ((Bts.none 10).congr (fun d _ => ⟨False.elim, fun y => by omega⟩))⟩
