/-! TURNS RIGHT -/
def TR (D : Dw) : Prop := ∃ f : Nat → Bool, ∀ e, e < dM D → (f (dE D (2 * e)) ^^ f (dE D (2 * e + 1))) = dT D e
theorem ixo_bit {a b : Nat} (ha : a < 2147483648) (hb : b < 2147483648) : ian (ixo (a : Int) (b : Int)) 1 = if (a.testBit 0 ^^ b.testBit 0) then 1 else 0 := by
  rw [ixo_nat ha hb, show (1 : Int) = ((1 : Nat) : Int) from rfl, ian_nat (Nat.xor_lt_two_pow (n := 31) ha hb), Nat.and_one_is_mod]
  have := Nat.testBit_zero (a ^^^ b)
  rw [Nat.testBit_xor] at this
  rw [this]
  rcases Nat.mod_two_eq_zero_or_one (a ^^^ b) with q | q <;> simp [q]
theorem shr_bit (a k : Nat) : (a / 2 ^ k).testBit 0 = a.testBit k := by
  rw [Nat.testBit_div_two_pow]
  simp
theorem X1_armOutOf_ok {K : Nat} {Q : Int → Wd → Prop} {w : Wd} {D : Dw} {x : Int} {P : Nat → Prop} (L : Nat) (hx : x = (L : Int)) (hB : Bts L 6 P) (hW : WF D) (hR : RepX w K D) (h1 : ∀ a, a < 2 * dM D → P (dE D a) → ¬ P (dE D (ox a)) → Q (a : Int) w) (h0 : (∀ a, a < 2 * dM D → P (dE D a) → P (dE D (ox a))) → Q (-1) w) : X1_armOutOf K x w Q := by
  subst hx
  have n6 := hW.1
  have m10 := hW.2.1
  have key : ∀ (m a : Nat), a ≤ 2 * dM D → 2 * dM D - a < m → (∀ b, b < a → P (dE D b) → P (dE D (ox b))) → X1_armOutOf_l2 K Q (X1_armOutOf_b40 K Q) (X1_armOutOf_b48 K Q) m (L : Int) (a : Int) w := by
    intro m
    induction m with
    | zero => intro a a1 a2; omega
    | succ m ih =>
      intro a a1 a2 hno
      unfold X1_armOutOf_l2
      rw [hR.2.1, wr_id (x := 2 * (dM D : Int)) (by omega) (by omega), wr_nat (n := a) (by omega), show (a : Int) + 1 = ((a + 1 : Nat) : Int) by omega]
      refine ⟨fun z => ?_, fun z => ⟨ix_of rfl (by omega) (by decide), ?_⟩⟩
      · have : a = 2 * dM D := by omega
        subst this
        exact h0 hno
      · have hx2 := ox_lt (show a < 2 * dM D by omega)
        have b1 := hW.2.2.1 a (by omega)
        have b2 := hW.2.2.1 (ox a) hx2
        rw [ixo1 (by omega), rd_of (n := a) rfl (by omega), rd_of (n := ox a) rfl (by omega), hR.en (by omega), hR.en hx2]
        rcases hB.bit (by omega) (show dE D a < 6 by omega) (dE D a : Int) rfl with ⟨c1, e1⟩ | ⟨c1, e1⟩
        · rw [e1]
          refine ⟨fun y => absurd y (by decide), fun _ => ⟨ix_of rfl (by omega) (by decide), ?_⟩⟩
          rcases hB.bit (by omega) (show dE D (ox a) < 6 by omega) (dE D (ox a) : Int) rfl with ⟨c2, e2⟩ | ⟨c2, e2⟩
          · rw [e2]
            refine ⟨fun y => absurd y (by decide), fun _ => ih (a + 1) (by omega) (by omega) (fun b hb hp => ?_)⟩
            by_cases q : b = a
            · rw [q]; exact c2
            · exact hno b (by omega) hp
          · rw [e2]
            refine ⟨fun _ => ?_, fun y => absurd rfl y⟩
            unfold X1_armOutOf_b40
            rw [wr_nat (by omega)]
            exact h1 a (by omega) c1 c2
        · rw [e1]
          refine ⟨fun _ => ih (a + 1) (by omega) (by omega) (fun b hb hp => ?_), fun y => absurd rfl y⟩
          by_cases q : b = a
          · rw [q] at hp; exact absurd hp c1
          · exact hno b (by omega) hp
  exact ⟨2 * dM D + 1, key (2 * dM D + 1) 0 (by omega) (by omega) (fun b hb => by omega)⟩
theorem arm_ends {D : Dw} {f : Nat → Bool} (h : ∀ e, e < dM D → (f (dE D (2 * e)) ^^ f (dE D (2 * e + 1))) = dT D e) {a : Nat} (ha : a < 2 * dM D) : f (dE D (ox a)) = (f (dE D a) ^^ dT D (a / 2)) := by
  have := h (a / 2) (by omega)
  rcases Nat.mod_two_eq_zero_or_one a with q | q
  · have e1 : ox a = 2 * (a / 2) + 1 := by unfold ox; rw [if_pos q]; omega
    have e2 : a = 2 * (a / 2) := by omega
    rw [e1, ← this]
    rw [← e2]
    cases f (dE D a) <;> cases f (dE D (a + 1)) <;> rfl
  · have e1 : ox a = 2 * (a / 2) := by unfold ox; rw [if_neg (by omega)]; omega
    have e2 : a = 2 * (a / 2) + 1 := by omega
    rw [e1, ← this, ← e2]
    cases f (dE D a) <;> cases f (dE D (2 * (a / 2))) <;> rfl
/-- what is settled so far: known posts, which are turned; all lines can still be made good, if they can be at all -/
def TrI (D : Dw) (L T : Nat) : Prop := L < 64 ∧ T < 64 ∧ (∀ q, L.testBit q = true → q < dN D) ∧ (∀ q, T.testBit q = true → L.testBit q = true) ∧ (TR D → ∃ g : Nat → Bool, (∀ e, e < dM D → (g (dE D (2 * e)) ^^ g (dE D (2 * e + 1))) = dT D e) ∧ ∀ q, L.testBit q = true → g q = T.testBit q)
theorem X1_turnsRight_ok {K : Nat} {Q : Int → Wd → Prop} {w : Wd} {D : Dw} (hW : WF D) (hR : RepX w K D) (h1 : TR D → Q 1 w) (h0 : ¬ TR D → Q 0 w) : X1_turnsRight K w Q := by
  have n6 := hW.1
  have m10 := hW.2.1
  obtain ⟨t, ht, ht2, ht3⟩ := hR.2.2.1
  have htw : ∀ e, e < dM D → t.testBit e = dT D e := fun e he => by rw [ht3]; simp [he]
  -- the last look
  have last : ∀ (T : Nat), T < 64 → (TR D → ∃ g : Nat → Bool, (∀ e, e < dM D → (g (dE D (2 * e)) ^^ g (dE D (2 * e + 1))) = dT D e) ∧ ∀ q, q < dN D → g q = T.testBit q) → ∀ (m e : Nat), e ≤ dM D → dM D - e < m → (∀ d, d < e → (T.testBit (dE D (2 * d)) ^^ T.testBit (dE D (2 * d + 1))) = dT D d) → X1_turnsRight_l126 K Q (X1_turnsRight_b169 K Q) (X1_turnsRight_b177 K Q) m (T : Int) (e : Int) w := by
    intro T hT hg m
    induction m with
    | zero => intro e a1 a2; omega
    | succ m ih =>
      intro e a1 a2 hok
      unfold X1_turnsRight_l126
      rw [hR.2.1, wr_nat (n := dM D) (by omega), wr_nat (n := e) (by omega), show (e : Int) + 1 = ((e + 1 : Nat) : Int) by omega]
      refine ⟨fun z => ?_, fun z => ⟨ix_of (n := 2 * e) (by omega) (by omega) (by decide), ix_of (n := 2 * e + 1) (by omega) (by omega) (by decide), ?_⟩⟩
      · have : e = dM D := by omega
        subst this
        exact h1 ⟨T.testBit, hok⟩
      · have he : e < dM D := by omega
        have b1 := hW.2.2.1 (2 * e) (by omega)
        have b2 := hW.2.2.1 (2 * e + 1) (by omega)
        obtain ⟨a, hae⟩ : ∃ a, a = dE D (2 * e) := ⟨_, rfl⟩
        obtain ⟨b, hbe⟩ : ∃ b, b = dE D (2 * e + 1) := ⟨_, rfl⟩
        have d1 : T / 2 ^ a < 2 ^ 31 := Nat.lt_of_le_of_lt (Nat.div_le_self _ _) (by omega)
        have d2 : T / 2 ^ b < 2 ^ 31 := Nat.lt_of_le_of_lt (Nat.div_le_self _ _) (by omega)
        have d3 : t / 2 ^ e < 2147483648 := Nat.lt_of_le_of_lt (Nat.div_le_self _ _) (by omega)
        rw [rd_of (n := 2 * e) (by omega) (by omega), rd_of (n := 2 * e + 1) (by omega) (by omega), hR.en (by omega), hR.en (by omega), ht, ← hae, ← hbe, isr_nat (by omega) (by omega), isr_nat (by omega) (by omega), isr_nat (by omega) (by omega), ixo_nat (by omega) (by omega), ixo_bit (Nat.xor_lt_two_pow (n := 31) d1 d2) d3, Nat.testBit_xor, shr_bit, shr_bit, shr_bit, htw e he]
        by_cases q : (T.testBit a ^^ T.testBit b) = dT D e
        · have : ((T.testBit a ^^ T.testBit b) ^^ dT D e) = false := by rw [q]; cases dT D e <;> rfl
          rw [this]
          refine ⟨fun _ => ih (e + 1) (by omega) (by omega) (fun d hd => ?_), fun y => absurd (by decide) y⟩
          by_cases z2 : d = e
          · subst z2; rw [← hae, ← hbe]; exact q
          · exact hok d (by omega)
        · have : ((T.testBit a ^^ T.testBit b) ^^ dT D e) = true := by
            cases h1 : (T.testBit a ^^ T.testBit b) <;> cases h2 : dT D e <;> simp_all
          rw [this]
          refine ⟨fun y => absurd y (by decide), fun _ => h0 (fun hTR => ?_)⟩
          obtain ⟨g, hg1, hg2⟩ := hg hTR
          have := hg1 e he
          rw [← hae, ← hbe, hg2 a (by omega), hg2 b (by omega)] at this
          exact q this
  -- posts from one on
  have grow : ∀ (c6 : Int → Int → Int → Wd → Prop) (e124 : Int → Wd → Prop) (p : Nat), p < dN D → (∀ L T : Nat, TrI D L T → (∀ j, j < p + 1 → L.testBit j = true) → (∀ a, a < 2 * dM D → L.testBit (dE D a) = true → L.testBit (dE D (ox a)) = true) → c6 (L : Int) (T : Int) ((p : Int) + 1) w) → ∀ (m s L T : Nat), s ≤ dN D * dM D → dN D * dM D - s < m → TrI D L T → (∀ j, j < p + 1 → L.testBit j = true) → s + 1 ≤ cB L (dN D) → X1_turnsRight_l34 K Q (X1_turnsRight_b61 K Q c6 e124) (X1_turnsRight_b118 K Q c6 e124) m (L : Int) (T : Int) (p : Int) (s : Int) w := by
    intro c6 e124 p hp hK m
    have hnm : dN D * dM D ≤ 60 := Nat.mul_le_mul n6 m10
    induction m with
    | zero => intro s L T a1 a2; omega
    | succ m ih =>
      intro s L T a1 a2 hI hj hcard
      obtain ⟨hL, hT, hLn, hTL, hg⟩ := id hI
      have hcle := cB_le L (dN D)
      unfold X1_turnsRight_l34
      rw [hR.1, hR.2.1, show (dN D : Int) * (dM D : Int) = ((dN D * dM D : Nat) : Int) by push_cast; rfl, wr_nat (n := dN D * dM D) (by omega), wr_nat (n := s) (by omega)]
      have done : (∀ a, a < 2 * dM D → L.testBit (dE D a) = true → L.testBit (dE D (ox a)) = true) → X1_turnsRight_b118 K Q c6 e124 (L : Int) (T : Int) (p : Int) w := fun hc => hK L T hI hj hc
      refine ⟨fun z => ?_, fun z => ?_⟩
      · refine done (fun a ha _ => ?_)
        have : dM D = 0 := by
          rcases Nat.eq_zero_or_pos (dM D) with q | q
          · exact q
          · have : dN D * 1 ≤ dN D * dM D := Nat.mul_le_mul_left _ q
            omega
        omega
      · have hB : Bts L 6 (fun q => L.testBit q = true) := ⟨hL, fun i _ => Iff.rfl⟩
        refine X1_armOutOf_ok L rfl hB hW hR (fun a ha ha1 ha2 => ⟨fun y => ?_, fun _ => ?_⟩) (fun hc => ⟨fun _ => ?_, fun y => absurd (by decide) y⟩)
        · rw [wr_nat (by omega), show wr (-1) = -1 by decide] at y
          omega
        · have hx2 := ox_lt ha
          have b1 := hW.2.2.1 a ha
          have b2 := hW.2.2.1 (ox a) hx2
          have ha2' : L.testBit (dE D (ox a)) = false := by
            cases q : L.testBit (dE D (ox a))
            · rfl
            · exact absurd q ha2
          obtain ⟨u, hue⟩ : ∃ u, u = dE D a := ⟨_, rfl⟩
          obtain ⟨v, hve⟩ : ∃ v, v = dE D (ox a) := ⟨_, rfl⟩
          have p2 : 2 ^ v < 2 ^ 6 := Nat.pow_lt_pow_right (by decide) (by omega)
          rw [ixo1 (by omega), rd_of (n := a) rfl (by omega), rd_of (n := ox a) rfl (by omega), hR.en ha, hR.en hx2, ← hue, ← hve, isl1 (by omega), ior_nat (by omega) (by omega), ht]
          refine ⟨ix_of rfl (by omega) (by decide), fun y4 e4 => ⟨ix_of rfl (by omega) (by decide), ix_of rfl (by omega) (by decide), fun y5 e5 => ?_⟩⟩
          subst e4
          have d1 : T / 2 ^ u < 2147483648 := Nat.lt_of_le_of_lt (Nat.div_le_self _ _) (by omega)
          have d3 : t / 2 ^ (a / 2) < 2147483648 := Nat.lt_of_le_of_lt (Nat.div_le_self _ _) (by omega)
          have e6 : isr (a : Int) 1 = ((a / 2 : Nat) : Int) := by
            rw [show (1 : Int) = ((1 : Nat) : Int) from rfl, isr_nat (by omega) (by omega)]
          obtain ⟨bt, hbt⟩ : ∃ bt : Bool, bt = (T.testBit u ^^ dT D (a / 2)) := ⟨_, rfl⟩
          have e7 : ior (T : Int) (isl (ian (ixo (isr (T : Int) (u : Int)) (isr (t : Int) (isr (a : Int) 1))) 1) (v : Int)) = ((if bt then T ||| 2 ^ v else T : Nat) : Int) := by
            rw [e6, isr_nat (by omega) (by omega), isr_nat (by omega) (by omega), ixo_bit d1 d3, shr_bit, shr_bit, htw (a / 2) (by omega), ← hbt]
            cases bt
            · have : isl 0 (v : Int) = ((0 : Nat) : Int) := by
                have := isl_nat (a := 0) (k := v) (by omega) (by omega)
                simpa using this
              simp only [Bool.false_eq_true, if_false, this]
              rw [ior_nat (by omega) (by omega), Nat.or_zero]
            · simp only [if_true]
              rw [isl1 (by omega), ior_nat (by omega) (by omega)]
          rw [e7] at e5
          subst e5
          have hLb : ∀ q, (L ||| 2 ^ v).testBit q = true ↔ (L.testBit q = true ∨ q = v) := fun q => by rw [bor_bit]; simp
          have hTv : T.testBit v = false := by
            cases q : T.testBit v
            · rfl
            · rw [hve] at q; rw [hTL _ q] at ha2'; exact absurd ha2' (by decide)
          have hTb : ∀ q, (if bt then T ||| 2 ^ v else T : Nat).testBit q = if q = v then bt else T.testBit q := fun q => by
            cases bt
            · by_cases z2 : q = v
              · rw [if_pos z2, z2]; exact hTv
              · rw [if_neg z2]; rfl
            · simp only [if_true]
              rw [bor_bit]
              by_cases z2 : q = v <;> simp [z2]
          rw [show (s : Int) + 1 = ((s + 1 : Nat) : Int) by omega]
          have hc2 := cB_lt (L := L) (K := L ||| 2 ^ v) (dN D) (fun i _ hi => (hLb i).mpr (Or.inl hi)) ⟨v, by omega, by rw [hve]; exact ha2', (hLb v).mpr (Or.inr rfl)⟩
          refine ih (s + 1) _ _ (by omega) (by omega) ⟨Nat.or_lt_two_pow (n := 6) hL p2, ?_, fun q hq => ?_, fun q hq => ?_, fun hTR => ?_⟩ (fun j hj2 => (hLb j).mpr (Or.inl (hj j hj2))) (by omega)
          · cases bt
            · exact hT
            · exact Nat.or_lt_two_pow (n := 6) hT p2
          · rcases (hLb q).mp hq with y | y
            · exact hLn q y
            · rw [y, hve]; exact b2
          · rw [hTb] at hq
            by_cases z2 : q = v
            · exact (hLb q).mpr (Or.inr z2)
            · rw [if_neg z2] at hq
              exact (hLb q).mpr (Or.inl (hTL q hq))
          · obtain ⟨g, hg1, hg2⟩ := hg hTR
            refine ⟨g, hg1, fun q hq => ?_⟩
            rw [hTb]
            by_cases z2 : q = v
            · rw [if_pos z2, z2, hve, arm_ends hg1 ha, hbt, hg2 _ ha1, hue]
            · rw [if_neg z2]
              rcases (hLb q).mp hq with y | y
              · exact hg2 q y
              · exact absurd y z2
        · exact done hc
  have key : ∀ (m p L T : Nat), p ≤ dN D → dN D - p < m → TrI D L T → (∀ j, j < p → L.testBit j = true) → (∀ a, a < 2 * dM D → L.testBit (dE D a) = true → L.testBit (dE D (ox a)) = true) → X1_turnsRight_l6 K Q (X1_turnsRight_b124 K Q) m (L : Int) (T : Int) (p : Int) w := by
    intro m
    induction m with
    | zero => intro p L T a1 a2; omega
    | succ m ih =>
      intro p L T a1 a2 hI hj hc
      obtain ⟨hL, hT, hLn, hTL, hg⟩ := id hI
      unfold X1_turnsRight_l6
      rw [hR.1, wr_nat (n := dN D) (by omega), wr_nat (n := p) (by omega)]
      refine ⟨fun z => ?_, fun z => ?_⟩
      · unfold X1_turnsRight_b124
        refine ⟨dM D + 1, last T hT (fun hTR => ?_) (dM D + 1) 0 (by omega) (by omega) (fun d hd => by omega)⟩
        obtain ⟨g, hg1, hg2⟩ := hg hTR
        exact ⟨g, hg1, fun q hq => hg2 q (hj q (by omega))⟩
      · have hp : p < dN D := by omega
        have hB : Bts L 6 (fun q => L.testBit q = true) := ⟨hL, fun i _ => Iff.rfl⟩
        rcases hB.bit (by omega) (show p < 6 by omega) (p : Int) rfl with ⟨c1, e1⟩ | ⟨c1, e1⟩
        · rw [e1]
          refine ⟨fun y => absurd y (by decide), fun _ => ?_⟩
          unfold X1_turnsRight_b118
          rw [show (p : Int) + 1 = ((p + 1 : Nat) : Int) by omega]
          refine ih (p + 1) L T (by omega) (by omega) hI (fun j hj2 => ?_) hc
          by_cases q : j = p
          · rw [q]; exact c1
          · exact hj j (by omega)
        · rw [e1]
          refine ⟨fun _ => ?_, fun y => absurd rfl y⟩
          intro y1 e2
          have c1' : L.testBit p = false := by
            cases q : L.testBit p
            · rfl
            · exact absurd q c1
          have p2 : 2 ^ p < 2 ^ 6 := Nat.pow_lt_pow_right (by decide) (by omega)
          rw [isl1 (by omega), ior_nat (by omega) (by omega)] at e2
          subst e2
          have hLb : ∀ q, (L ||| 2 ^ p).testBit q = true ↔ (L.testBit q = true ∨ q = p) := fun q => by rw [bor_bit]; simp
          have hTp : T.testBit p = false := by
            cases q : T.testBit p
            · rfl
            · rw [hTL _ q] at c1'; exact absurd c1' (by decide)
          have hj2 : ∀ j, j < p + 1 → (L ||| 2 ^ p).testBit j = true := fun j hj2 => by
            by_cases q : j = p
            · exact (hLb j).mpr (Or.inr q)
            · exact (hLb j).mpr (Or.inl (hj j (by omega)))
          refine ⟨dN D * dM D + 1, grow _ _ p hp (fun L2 T2 hI2 hj3 hc3 => ?_) (dN D * dM D + 1) 0 (L ||| 2 ^ p) T (by omega) (by omega) ⟨Nat.or_lt_two_pow (n := 6) hL p2, hT, fun q hq => ?_, fun q hq => (hLb q).mpr (Or.inl (hTL q hq)), fun hTR => ?_⟩ hj2 (cB_pos _ p hp (hj2 p (by omega)))⟩
          · rw [show (p : Int) + 1 = ((p + 1 : Nat) : Int) by omega]
            exact ih (p + 1) L2 T2 (by omega) (by omega) hI2 hj3 hc3
          · rcases (hLb q).mp hq with y | y
            · exact hLn q y
            · rw [y]; exact hp
          · obtain ⟨g, hg1, hg2⟩ := hg hTR
            -- posts that are not known are turned over all together, if need be
            refine ⟨fun q => if L.testBit q then g q else (g q ^^ g p), fun e he => ?_, fun q hq => ?_⟩
            · have hab : L.testBit (dE D (2 * e)) = L.testBit (dE D (2 * e + 1)) := by
                have o1 : ox (2 * e) = 2 * e + 1 := by unfold ox; rw [if_pos (by omega)]
                have o2 : ox (2 * e + 1) = 2 * e := by unfold ox; rw [if_neg (by omega)]; omega
                have k1 := hc (2 * e) (by omega)
                have k2 := hc (2 * e + 1) (by omega)
                rw [o1] at k1
                rw [o2] at k2
                cases z1 : L.testBit (dE D (2 * e)) <;> cases z2 : L.testBit (dE D (2 * e + 1)) <;> simp_all
              have := hg1 e he
              dsimp only
              rw [hab]
              cases L.testBit (dE D (2 * e + 1))
              · simp only [Bool.false_eq_true, if_false]
                rw [← this]
                cases g (dE D (2 * e)) <;> cases g (dE D (2 * e + 1)) <;> cases g p <;> rfl
              · simp only [if_true]; exact this
            · dsimp only
              rcases (hLb q).mp hq with y | y
              · rw [y]; simp only [if_true]; exact hg2 q y
              · rw [y, c1', hTp]; simp
  refine ⟨dN D + 1, key (dN D + 1) 0 0 0 (by omega) (by omega) ⟨by decide, by decide, fun q hq => by simp at hq, fun q hq => hq, fun ⟨g, hg⟩ => ⟨g, hg, fun q hq => by simp at hq⟩⟩ (fun j hj => by omega) (fun a _ h => by simp at h)⟩
