/-! RINGS at the model -/
theorem lowbit : ∀ T : Fin 64, T.val ≠ 0 → ∃ k : Fin 6, ian (T.val : Int) (-(T.val : Int)) = ((2 ^ k.val : Nat) : Int) ∧ T.val.testBit k.val = true := by decide +kernel
theorem X11_ringLong_ok {Q : Int → Wd → Prop} {w : Wd} {D : Dw} {x : Int} (S : Nat) (hx : x = (S : Int)) (hW : WF D) (hR : RepM w 73 D) (hS : S < 2 ^ dM D) (hS0 : S ≠ 0) (h1 : Ring D S → Q (rLen D S : Int) w) (h0 : ¬ Ring D S → Q 0 w) : X11_ringLong x w Q := by
  subst hx
  have n6 := hW.1
  have m10 := hW.2.1
  have hp10 : 2 ^ dM D ≤ 2 ^ 10 := Nat.pow_le_pow_right (by decide) m10
  have sb : ∀ e, S.testBit e = true → e < dM D := fun e he => by
    rcases Nat.lt_or_ge e (dM D) with z | z
    · exact z
    · rw [Nat.testBit_lt_two_pow (Nat.lt_of_lt_of_le hS (Nat.pow_le_pow_right (by decide) z))] at he
      exact absurd he (by decide)
  -- lines of the set at a post
  have inner : ∀ (e67 : Int → Int → Int → Int → Int → Wd → Prop) (x2 x3 : Int) (p : Nat), p < dN D → e67 (S : Int) x2 x3 (p : Int) (dgS D S p : Int) w → ∀ (m e : Nat), e ≤ dM D → dM D - e < m → X11_ringLong_l24 Q e67 m (S : Int) x2 x3 (p : Int) (cnt (inL D S p) e : Int) (e : Int) w := by
    intro e67 x2 x3 p hp hK m
    induction m with
    | zero => intro e a1 a2; omega
    | succ m ih =>
      intro e a1 a2
      unfold X11_ringLong_l24
      rw [rd1, hR.2.1, wr_nat (n := dM D) (by omega), wr_nat (n := e) (by omega), show (e : Int) + 1 = ((e + 1 : Nat) : Int) by omega]
      refine ⟨ix_of (n := 1) rfl (by decide) (by decide), fun z => ?_, fun z => ?_⟩
      · have : e = dM D := by omega
        subst this
        exact hK
      · refine X11_has_ok S e rfl rfl (by omega) (by omega) (fun q => ⟨fun y => absurd y (by decide), fun _ => ?_⟩) (fun q => ⟨fun _ => ?_, fun y => absurd (by decide) y⟩)
        · have b1 := hW.2.2.1 (2 * e) (by omega)
          have b2 := hW.2.2.1 (2 * e + 1) (by omega)
          refine X11_otherEnd_ok e p rfl rfl hW hR (by omega) (by omega) ?_
          have yes : atP D e p → X11_ringLong_l24 Q e67 m (S : Int) x2 x3 (p : Int) ((cnt (inL D S p) e : Int) + 1) ((e + 1 : Nat) : Int) w := fun y => by
            have := ih (e + 1) (by omega) (by omega)
            rw [cnt_y (inL_iff.mpr ⟨q, y⟩)] at this
            exact this
          have no : ¬ atP D e p → X11_ringLong_l24 Q e67 m (S : Int) x2 x3 (p : Int) (cnt (inL D S p) e : Int) ((e + 1 : Nat) : Int) w := fun y => by
            have := ih (e + 1) (by omega) (by omega)
            rw [cnt_n (Bool.eq_false_iff.mpr (fun k => y (inL_iff.mp k).2))] at this
            exact this
          by_cases z1 : dE D (2 * e) = p
          · rw [if_pos z1, wr_nat (n := dE D (2 * e + 1)) (by omega)]
            exact ⟨fun y => by omega, fun _ => yes (Or.inl z1)⟩
          · rw [if_neg z1]
            by_cases z2 : dE D (2 * e + 1) = p
            · rw [if_pos z2, wr_nat (n := dE D (2 * e)) (by omega)]
              exact ⟨fun y => by omega, fun _ => yes (Or.inr z2)⟩
            · rw [if_neg z2]
              exact ⟨fun _ => no (fun y => y.elim z1 z2), fun y => absurd (by decide) y⟩
        · have := ih (e + 1) (by omega) (by omega)
          rw [cnt_n (Bool.eq_false_iff.mpr (fun k => by have := (inL_iff.mp k).1; rw [q] at this; exact absurd this (by decide)))] at this
          exact this
  -- one pass
  have pass : ∀ (e204 : Int → Int → Int → Int → Int → Wd → Prop) (x2 x3 : Int) (p0 B : Nat), B < 64 → (∀ L : Nat, L < 64 → (∀ q, B.testBit q = true → L.testBit q = true) → (∀ q, L.testBit q = true → q < dN D ∧ ∀ A : Nat → Prop, Cld D S A → A p0 → A q) → (L = B → ∀ e, e < dM D → S.testBit e = true → (B.testBit (dE D (2 * e)) = true ↔ B.testBit (dE D (2 * e + 1)) = true)) → e204 (S : Int) x2 x3 (L : Int) (B : Int) w) → ∀ (m e L : Nat), e ≤ dM D → dM D - e < m → L < 64 → (∀ q, B.testBit q = true → L.testBit q = true) → (∀ q, L.testBit q = true → q < dN D ∧ ∀ A : Nat → Prop, Cld D S A → A p0 → A q) → (L = B → ∀ d, d < e → S.testBit d = true → (B.testBit (dE D (2 * d)) = true ↔ B.testBit (dE D (2 * d + 1)) = true)) → X11_ringLong_l129 Q e204 m (S : Int) x2 x3 (L : Int) (B : Int) (e : Int) w := by
    intro e204 x2 x3 p0 B hB hK m
    induction m with
    | zero => intro e L a1 a2; omega
    | succ m ih =>
      intro e L a1 a2 hL hsub hsound hcl
      unfold X11_ringLong_l129
      rw [rd1, hR.2.1, wr_nat (n := dM D) (by omega), wr_nat (n := e) (by omega), show (e : Int) + 1 = ((e + 1 : Nat) : Int) by omega]
      refine ⟨ix_of (n := 1) rfl (by decide) (by decide), fun z => ?_, fun z => ?_⟩
      · have : e = dM D := by omega
        subst this
        exact hK L hL hsub hsound hcl
      · refine X11_has_ok S e rfl rfl (by omega) (by omega) (fun q => ⟨fun y => absurd y (by decide), fun _ => ?_⟩) (fun q => ⟨fun _ => ?_, fun y => absurd (by decide) y⟩)
        · refine ⟨ix_of (n := 2 + 2 * e) (by omega) (by omega) (by decide), ix_of (n := 2 + 2 * e + 1) (by omega) (by omega) (by decide), fun y2 e2 => ?_⟩
          have b1 := hW.2.2.1 (2 * e) (by omega)
          have b2 := hW.2.2.1 (2 * e + 1) (by omega)
          obtain ⟨a, hae⟩ : ∃ a, a = dE D (2 * e) := ⟨_, rfl⟩
          obtain ⟨b, hbe⟩ : ∃ b, b = dE D (2 * e + 1) := ⟨_, rfl⟩
          have e1' : rd w 73 (2 + 2 * (e : Int)) = (a : Int) := by rw [rd_of (n := 2 + 2 * e) (by omega) (by omega), hae]; exact hR.2.2.1 _ (by omega)
          have e2' : rd w 73 (2 + 2 * (e : Int) + 1) = (b : Int) := by rw [rd_of (n := 2 + (2 * e + 1)) (by omega) (by omega), hbe]; exact hR.2.2.1 _ (by omega)
          rw [← hae] at b1
          rw [← hbe] at b2
          have p1 : 2 ^ a < 2 ^ 6 := Nat.pow_lt_pow_right (by decide) (by omega)
          have p2 : 2 ^ b < 2 ^ 6 := Nat.pow_lt_pow_right (by decide) (by omega)
          have p3 : 2 ^ a ||| 2 ^ b < 2 ^ 6 := Nat.or_lt_two_pow p1 p2
          rw [e1', e2', isl1 (by omega), isl1 (by omega), ior_nat (by omega) (by omega)] at e2
          subst e2
          have p4 : L &&& (2 ^ a ||| 2 ^ b) < 64 := Nat.lt_of_le_of_lt Nat.and_le_left hL
          rw [ian_nat (by omega), wr_nat (by omega)]
          refine ⟨fun z2 => ?_, fun z2 => ?_⟩
          · have z3 : L &&& (2 ^ a ||| 2 ^ b) = 0 := by omega
            have z4 := and_both.mp z3
            refine ih (e + 1) L (by omega) (by omega) hL hsub hsound (fun hLB d hd hdS => ?_)
            by_cases q : d = e
            · subst q
              rw [← hae, ← hbe, ← hLB, z4.1, z4.2]
            · exact hcl hLB d (by omega) hdS
          · intro y3 e3
            rw [ior_nat (by omega) (by omega)] at e3
            subst e3
            have hor : ∀ q, (L ||| (2 ^ a ||| 2 ^ b)).testBit q = true ↔ (L.testBit q = true ∨ q = a ∨ q = b) := fun q => by
              rw [Nat.testBit_or, both_bit]
              simp
            have hin : ∀ A : Nat → Prop, Cld D S A → A p0 → A a ∧ A b := fun A hA hp => by
              have hc := hA e (by omega) q
              rw [← hae, ← hbe] at hc
              have : ¬ (L.testBit a = false ∧ L.testBit b = false) := fun y => z2 (by rw [and_both.mpr y]; rfl)
              cases q1 : L.testBit a
              · cases q2 : L.testBit b
                · exact absurd ⟨q1, q2⟩ this
                · have := (hsound b q2).2 A hA hp
                  exact ⟨hc.mpr this, this⟩
              · have := (hsound a q1).2 A hA hp
                exact ⟨this, hc.mp this⟩
            refine ih (e + 1) _ (by omega) (by omega) (Nat.or_lt_two_pow (n := 6) hL p3) (fun q hq => (hor q).mpr (Or.inl (hsub q hq))) (fun q hq => ?_) (fun hLB d hd hdS => ?_)
            · rcases (hor q).mp hq with y | y | y
              · exact hsound q y
              · rw [y]; exact ⟨b1, fun A hA hp => (hin A hA hp).1⟩
              · rw [y]; exact ⟨b2, fun A hA hp => (hin A hA hp).2⟩
            · have hLB2 : L = B := by
                apply Nat.eq_of_testBit_eq
                intro i
                cases q : L.testBit i
                · cases q2 : B.testBit i
                  · rfl
                  · rw [hsub i q2] at q; exact absurd q (by decide)
                · have := (hor i).mpr (Or.inl q)
                  rw [hLB] at this
                  rw [this]
              by_cases q : d = e
              · subst q
                have h1 := (hor a).mpr (Or.inr (Or.inl rfl))
                have h2 := (hor b).mpr (Or.inr (Or.inr rfl))
                rw [hLB] at h1 h2
                rw [← hae, ← hbe, h1, h2]
              · exact hcl hLB2 d (by omega) hdS
        · refine ih (e + 1) L (by omega) (by omega) hL hsub hsound (fun hLB d hd hdS => ?_)
          by_cases y : d = e
          · rw [y, q] at hdS; exact absurd hdS (by decide)
          · exact hcl hLB d (by omega) hdS
  -- what stands behind the degrees
  have after : ∀ T : Nat, T < 64 → (∀ q, T.testBit q = true ↔ q < dN D ∧ dgS D S q = 2) → (∀ q, q < dN D → dgS D S q = 0 ∨ dgS D S q = 2) → X11_ringLong_b106 Q (S : Int) (rLen D S : Int) (T : Int) w := by
    intro T hT hTb hdg
    have hle := cnt_le (f := fun p => decide (dgS D S p = 2)) (dN D)
    have hle : rLen D S ≤ 6 := by unfold rLen; omega
    obtain ⟨e0, he0⟩ : ∃ e, S.testBit e = true := Nat.exists_testBit_of_ne_zero hS0
    have hT0 : T ≠ 0 := fun z => by
      have b1 := hW.2.2.1 (2 * e0) (by have := sb e0 he0; omega)
      have := (hTb (dE D (2 * e0))).mpr ⟨b1, (hdg _ b1).resolve_left (cnt_pos (sb e0 he0) (inL_iff.mpr ⟨he0, Or.inl rfl⟩))⟩
      rw [z] at this
      simp at this
    obtain ⟨k, hk1, hk2⟩ := lowbit ⟨T, hT⟩ hT0
    have hk1 : ian (T : Int) (-(T : Int)) = ((2 ^ k.val : Nat) : Int) := hk1
    have hk2 : T.testBit k.val = true := hk2
    obtain ⟨p0, hp0⟩ : ∃ p0, p0 = k.val := ⟨_, rfl⟩
    rw [← hp0] at hk1 hk2
    have hp0n := (hTb p0).mp hk2
    have fin : ∀ L : Nat, L < 64 → L.testBit p0 = true → (∀ q, L.testBit q = true → q < dN D ∧ ∀ A : Nat → Prop, Cld D S A → A p0 → A q) → (∀ e, e < dM D → S.testBit e = true → (L.testBit (dE D (2 * e)) = true ↔ L.testBit (dE D (2 * e + 1)) = true)) → X11_ringLong_b207 Q (rLen D S : Int) (T : Int) (L : Int) w := by
      intro L hL hLp hs hc
      unfold X11_ringLong_b207
      rw [wr_nat (n := L) (by omega), wr_nat (n := T) (by omega), wr_nat (n := rLen D S) (by omega)]
      have toT : ∀ q, L.testBit q = true → T.testBit q = true := fun q hq => by
        have := (hs q hq).2 (fun x => T.testBit x = true) (fun e he heS => by
          have b1 := hW.2.2.1 (2 * e) (by omega)
          have b2 := hW.2.2.1 (2 * e + 1) (by omega)
          have t1 := (hTb (dE D (2 * e))).mpr ⟨b1, (hdg _ b1).resolve_left (cnt_pos he (inL_iff.mpr ⟨heS, Or.inl rfl⟩))⟩
          have t2 := (hTb (dE D (2 * e + 1))).mpr ⟨b2, (hdg _ b2).resolve_left (cnt_pos he (inL_iff.mpr ⟨heS, Or.inr rfl⟩))⟩
          show (_ = true) ↔ (_ = true)
          rw [t1, t2]) hk2
        exact this
      refine ⟨fun z => h1 ⟨hdg, ⟨p0, hp0n⟩, fun A hA p q hp hq dp dq hAp => ?_⟩, fun z => h0 (fun hr => z (congrArg _ (Nat.eq_of_testBit_eq (fun i => ?_))))⟩
      · have hLT : L = T := by omega
        have hB : Cld D S (fun y => A y ↔ A p0) := fun d hd hdU => by
          have := hA d hd hdU
          show (_ ↔ _) ↔ (_ ↔ _)
          rw [this]
        have t1 := (hTb p).mpr ⟨hp, dp⟩
        have t2 := (hTb q).mpr ⟨hq, dq⟩
        rw [← hLT] at t1 t2
        exact ((hs q t2).2 _ hB Iff.rfl).mpr (((hs p t1).2 _ hB Iff.rfl).mp hAp)
      · cases q1 : T.testBit i
        · cases q2 : L.testBit i
          · rfl
          · rw [toT i q2] at q1; exact absurd q1 (by decide)
        · have hi := (hTb i).mp q1
          exact hr.2.2 (fun y => L.testBit y = true) hc p0 i hp0n.1 hi.1 hp0n.2 hi.2 hLp
    have key : ∀ (m L B : Nat), 8 - cB L (dN D) < m → L < 64 → B < 64 → L.testBit p0 = true → (∀ q, L.testBit q = true → q < dN D ∧ ∀ A : Nat → Prop, Cld D S A → A p0 → A q) → (L = B → ∀ e, e < dM D → S.testBit e = true → (L.testBit (dE D (2 * e)) = true ↔ L.testBit (dE D (2 * e + 1)) = true)) → X11_ringLong_l115 Q (X11_ringLong_b207 Q) m (S : Int) (rLen D S : Int) (T : Int) (L : Int) (B : Int) w := by
      intro m
      induction m with
      | zero => intro L B a1; omega
      | succ m ih =>
        intro L B a1 hL hB hLp hs hc
        unfold X11_ringLong_l115
        rw [wr_nat (n := L) (by omega), wr_nat (n := B) (by omega)]
        refine ⟨fun z => fin L hL hLp hs (hc (by omega)), fun z => ⟨dM D + 1, ?_⟩⟩
        refine pass _ _ _ p0 L hL (fun L' hL' hsub hs' hcl => ?_) (dM D + 1) 0 L (by omega) (by omega) hL (fun _ y => y) hs (fun _ d hd => by omega)
        unfold X11_ringLong_b204
        have hcB := cB_le L (dN D)
        by_cases q : L' = L
        · subst q
          obtain ⟨m, rfl⟩ : ∃ m', m = m' + 1 := ⟨m - 1, by omega⟩
          unfold X11_ringLong_l115
          exact ⟨fun _ => fin L' hL' hLp hs (hcl rfl), fun y => absurd rfl y⟩
        · have hne : ∃ i, i < dN D ∧ L.testBit i = false ∧ L'.testBit i = true := by
            by_cases y : ∃ i, i < dN D ∧ L.testBit i = false ∧ L'.testBit i = true
            · exact y
            · exfalso
              refine q (Nat.eq_of_testBit_eq (fun i => ?_))
              cases h1 : L.testBit i
              · cases h2 : L'.testBit i
                · rfl
                · exact absurd ⟨i, (hs' i h2).1, h1, h2⟩ y
              · exact hsub i h1
          have := cB_lt (dN D) (fun i _ => hsub i) hne
          have hcB' := cB_le L' (dN D)
          exact ih L' L (by omega) hL' hL (hsub p0 hLp) hs' (fun y => absurd y q)
    unfold X11_ringLong_b106
    intro y8 e8
    rw [hk1] at e8
    subst e8
    have hp1 : 2 ^ p0 < 2 ^ 6 := Nat.pow_lt_pow_right (by decide) (by omega)
    have hbp : ∀ q, (2 ^ p0).testBit q = true ↔ q = p0 := fun q => by
      rw [Nat.testBit_two_pow]
      simp [eq_comm]
    refine ⟨9, key 9 (2 ^ p0) 0 (by omega) hp1 (by omega) ((hbp p0).mpr rfl) (fun q hq => by rw [(hbp q).mp hq]; exact ⟨hp0n.1, fun A _ h => h⟩) (fun z => ?_)⟩
    have := Nat.two_pow_pos p0
    omega
  -- the posts
  have outer : ∀ (m p T : Nat), p ≤ dN D → dN D - p < m → T < 64 → (∀ q, T.testBit q = true ↔ q < p ∧ dgS D S q = 2) → (∀ q, q < p → dgS D S q = 0 ∨ dgS D S q = 2) → X11_ringLong_l7 Q (X11_ringLong_b78 Q) (X11_ringLong_b106 Q) m (S : Int) (cnt (fun p => decide (dgS D S p = 2)) p : Int) (T : Int) (p : Int) w := by
    intro m
    induction m with
    | zero => intro p T a1 a2; omega
    | succ m ih =>
      intro p T a1 a2 hT hTb hdg
      unfold X11_ringLong_l7
      rw [rd0, hR.1, wr_nat (n := dN D) (by omega), wr_nat (n := p) (by omega)]
      refine ⟨ix_of (n := 0) rfl (by decide) (by decide), fun z => ?_, fun z => ⟨dM D + 1, ?_⟩⟩
      · have : p = dN D := by omega
        subst this
        exact after T hT hTb hdg
      · have hle := cnt_le (f := inL D S p) (dM D)
        have hd10 : dgS D S p ≤ 10 := by unfold dgS; omega
        refine inner _ _ _ p (by omega) ?_ (dM D + 1) 0 (by omega) (by omega)
        unfold X11_ringLong_b67 X11_ringLong_b80
        rw [wr_nat (n := dgS D S p) (by omega), show wr 2 = 2 by decide, show (p : Int) + 1 = ((p + 1 : Nat) : Int) by omega]
        have c0 : dgS D S p = 0 → ∀ y, y = (cnt (fun p => decide (dgS D S p = 2)) p : Int) + idv (dgS D S p : Int) 2 → X11_ringLong_l7 Q (X11_ringLong_b78 Q) (X11_ringLong_b106 Q) m (S : Int) y (T : Int) ((p + 1 : Nat) : Int) w := fun hz y hy => by
          rw [hz, show idv ((0 : Nat) : Int) 2 = 0 by decide] at hy
          have k := ih (p + 1) T (by omega) (by omega) hT (fun q => (hTb q).trans ⟨fun y => ⟨by omega, y.2⟩, fun y => ⟨by
            rcases Nat.lt_or_ge q p with h | h
            · exact h
            · have : q = p := by omega
              rw [this] at y
              omega, y.2⟩⟩) (fun q hq => by
            by_cases h : q = p
            · rw [h]; exact Or.inl hz
            · exact hdg q (by omega))
          rw [cnt_n (decide_eq_false (by omega))] at k
          rw [hy, Int.add_zero]
          exact k
        have c2 : dgS D S p = 2 → ∀ t, t = ior (T : Int) (isl 1 (p : Int)) → ∀ y, y = (cnt (fun p => decide (dgS D S p = 2)) p : Int) + idv (dgS D S p : Int) 2 → X11_ringLong_l7 Q (X11_ringLong_b78 Q) (X11_ringLong_b106 Q) m (S : Int) y t ((p + 1 : Nat) : Int) w := fun hz t ht y hy => by
          have hp1 : 2 ^ p < 2 ^ 6 := Nat.pow_lt_pow_right (by decide) (by omega)
          rw [isl1 (by omega), ior_nat (by omega) (by omega)] at ht
          rw [hz, show idv ((2 : Nat) : Int) 2 = 1 by decide] at hy
          have k := ih (p + 1) (T ||| 2 ^ p) (by omega) (by omega) (Nat.or_lt_two_pow (n := 6) hT hp1) (fun q => by
            rw [bor_bit, Bool.or_eq_true, hTb q, decide_eq_true_eq]
            constructor
            · rintro (y | y)
              · exact ⟨by omega, y.2⟩
              · rw [y]; exact ⟨by omega, hz⟩
            · intro y
              by_cases h : q = p
              · exact Or.inr h
              · exact Or.inl ⟨by omega, y.2⟩) (fun q hq => by
            by_cases h : q = p
            · rw [h]; exact Or.inr hz
            · exact hdg q (by omega))
          rw [cnt_y (decide_eq_true hz)] at k
          rw [hy, ht]
          exact k
        have bad : ¬ dgS D S p = 0 → ¬ dgS D S p = 2 → Q (wr 0) w := fun z1 z2 => h0 (fun hr => (hr.1 p (by omega)).elim z1 z2)
        refine ⟨fun y => ⟨fun k => by omega, fun _ => c0 (by omega)⟩, fun y => ⟨fun y2 => ⟨fun _ => c2 (by omega), fun k => absurd y2 k⟩, fun y2 => bad (by omega) (by omega)⟩⟩
  exact ⟨dN D + 1, outer (dN D + 1) 0 0 (by omega) (by omega) (by omega) (fun q => by simp) (fun q hq => by omega)⟩
theorem ring_no0 {D : Dw} : ¬ Ring D 0 := fun h => by
  obtain ⟨p, _, h2⟩ := h.2.1
  rw [dgS_zero] at h2
  omega
theorem rLen_rg {D : Dw} (hW : WF D) {S : Nat} (h : Ring D S) : rLen D S ≠ 0 ∧ rLen D S ≤ 6 := by
  have n6 := hW.1
  have hle := cnt_le (f := fun p => decide (dgS D S p = 2)) (dN D)
  obtain ⟨p, h1, h2⟩ := h.2.1
  exact ⟨cnt_pos h1 (decide_eq_true h2), by unfold rLen; omega⟩
theorem X11_rings_ok {Q : Int → Wd → Prop} {w : Wd} {D : Dw} (hW : WF D) (hR : RepM w 73 D) (hQ : Q (nRg D (2 ^ dM D) : Int) w) : X11_rings w Q := by
  have m10 := hW.2.1
  have hp10 : 2 ^ dM D ≤ 2 ^ 10 := Nat.pow_le_pow_right (by decide) m10
  have hp0 := Nat.two_pow_pos (dM D)
  have loop : ∀ (m S : Nat), 1 ≤ S → S ≤ 2 ^ dM D → 2 ^ dM D - S < m → X11_rings_l4 Q (X11_rings_b33 Q) m (nRg D S : Int) (S : Int) w := by
    intro m
    induction m with
    | zero => intro S a0 a1 a2; omega
    | succ m ih =>
      intro S a0 a1 a2
      have hnr := nRg_le (D := D) S
      unfold X11_rings_l4
      rw [rd1, hR.2.1, isl1 (by omega), wr_nat (n := 2 ^ dM D) (by omega), wr_nat (n := S) (by omega), show (S : Int) + 1 = ((S + 1 : Nat) : Int) by omega]
      refine ⟨ix_of (n := 1) rfl (by decide) (by decide), fun z => ?_, fun z => ?_⟩
      · have : S = 2 ^ dM D := by omega
        rw [this]
        unfold X11_rings_b33
        rw [wr_nat (by rw [← this]; omega)]
        exact hQ
      · have nxt := ih (S + 1) (by omega) (by omega) (by omega)
        refine X11_ringLong_ok S rfl hW hR (by omega) (by omega) (fun hr => ?_) (fun hr => ⟨fun _ => ?_, fun y => absurd (by decide) y⟩)
        · have hl := rLen_rg hW hr
          rw [wr_nat (n := rLen D S) (by omega)]
          refine ⟨fun y => by omega, fun _ => ?_⟩
          rw [nRg_y hr] at nxt
          exact nxt
        · rw [nRg_n hr] at nxt
          exact nxt
  have := loop (2 ^ dM D + 1) 1 (by omega) (by omega) (by omega)
  rw [show nRg D 1 = 0 from by rw [nRg_n ring_no0]; rfl] at this
  exact ⟨2 ^ dM D + 1, this⟩
theorem X11_girth_ok {Q : Int → Wd → Prop} {w : Wd} {D : Dw} (hW : WF D) (hR : RepM w 73 D) (hQ : ∀ g, GirA D g → Q (if g = 0 then -2 else (g : Int)) w) : X11_girth w Q := by
  have m10 := hW.2.1
  have hp10 : 2 ^ dM D ≤ 2 ^ 10 := Nat.pow_le_pow_right (by decide) m10
  have hp0 := Nat.two_pow_pos (dM D)
  have loop : ∀ (m S b : Nat), 1 ≤ S → S ≤ 2 ^ dM D → 2 ^ dM D - S < m → ((b = 100 ∧ ∀ T, T < S → ¬ Ring D T) ∨ (b ≠ 0 ∧ b ≤ 6 ∧ (∃ T, T < S ∧ Ring D T ∧ rLen D T = b) ∧ ∀ T, T < S → Ring D T → b ≤ rLen D T)) → X11_girth_l5 Q (X11_girth_b46 Q) m (b : Int) (S : Int) w := by
    intro m
    induction m with
    | zero => intro S b a0 a1 a2; omega
    | succ m ih =>
      intro S b a0 a1 a2 hb
      have hb100 : b ≤ 100 := by rcases hb with y | y; omega; have := y.2.1; omega
      unfold X11_girth_l5
      rw [rd1, hR.2.1, isl1 (by omega), wr_nat (n := 2 ^ dM D) (by omega), wr_nat (n := S) (by omega), wr_nat (n := b) (by omega), show (S : Int) + 1 = ((S + 1 : Nat) : Int) by omega]
      refine ⟨ix_of (n := 1) rfl (by decide) (by decide), fun z => ?_, fun z => ?_⟩
      · have hS : S = 2 ^ dM D := by omega
        rw [hS] at hb
        unfold X11_girth_b46
        rw [wr_nat (n := b) (by omega), show wr 100 = 100 by decide]
        rcases hb with ⟨y1, y2⟩ | y
        · have := hQ 0 (Or.inl ⟨rfl, y2⟩)
          exact ⟨fun _ => this, fun k => absurd (by omega) k⟩
        · have := hQ b (Or.inr y)
          rw [if_neg y.1] at this
          exact ⟨fun k => absurd k (by have := y.2.1; omega), fun _ => this⟩
      · have keep : ∀ T, T < S + 1 → T ≠ S → T < S := fun T h1 h2 => by omega
        refine X11_ringLong_ok S rfl hW hR (by omega) (by omega) (fun hr => ?_) (fun hr => ⟨fun _ => ?_, fun y => absurd (by decide) y⟩)
        · have hl := rLen_rg hW hr
          rw [wr_nat (n := rLen D S) (by omega)]
          refine ⟨fun y => by omega, fun _ => X11_ringLong_ok S rfl hW hR (by omega) (by omega) (fun _ => ?_) (fun k => absurd hr k)⟩
          rw [wr_nat (n := rLen D S) (by omega)]
          refine ⟨fun y => ?_, fun y => X11_ringLong_ok S rfl hW hR (by omega) (by omega) (fun _ => ?_) (fun k => absurd hr k)⟩
          · refine ih (S + 1) b (by omega) (by omega) (by omega) ?_
            rcases hb with ⟨y1, y2⟩ | ⟨y1, y2, ⟨T, t1, t2, t3⟩, y4⟩
            · omega
            · refine Or.inr ⟨y1, y2, ⟨T, by omega, t2, t3⟩, fun U hU hUr => ?_⟩
              by_cases q : U = S
              · rw [q]; omega
              · exact y4 U (keep U hU q) hUr
          · refine ih (S + 1) (rLen D S) (by omega) (by omega) (by omega) (Or.inr ⟨hl.1, hl.2, ⟨S, by omega, hr, rfl⟩, fun U hU hUr => ?_⟩)
            by_cases q : U = S
            · rw [q]; omega
            · rcases hb with ⟨y1, y2⟩ | ⟨y1, y2, -, y4⟩
              · exact absurd hUr (y2 U (keep U hU q))
              · have := y4 U (keep U hU q) hUr
                omega
        · refine ih (S + 1) b (by omega) (by omega) (by omega) ?_
          rcases hb with ⟨y1, y2⟩ | ⟨y1, y2, ⟨T, t1, t2, t3⟩, y4⟩
          · refine Or.inl ⟨y1, fun U hU hUr => ?_⟩
            by_cases q : U = S
            · rw [q] at hUr; exact hr hUr
            · exact y2 U (keep U hU q) hUr
          · refine Or.inr ⟨y1, y2, ⟨T, by omega, t2, t3⟩, fun U hU hUr => ?_⟩
            by_cases q : U = S
            · rw [q] at hUr; exact absurd hUr hr
            · exact y4 U (keep U hU q) hUr
  refine ⟨2 ^ dM D + 1, loop (2 ^ dM D + 1) 1 100 (by omega) (by omega) (by omega) (Or.inl ⟨rfl, fun T hT => ?_⟩)⟩
  rw [show T = 0 by omega]
  exact ring_no0
theorem bound_M {Q : Int → Wd → Prop} {w : Wd} {S : Sg} {x : Int} (hS : SOK S) (h : HM w S) (hx : wr x = x) (hQ : ∀ w' g, GirA (sD S) g → HM w' S → loM w w' → Q (bouA (sD S) g x) w') (hno : ¬ (x = 0 ∨ x = 1) → Q (-1) w) : X11_bound x w Q := by
  have hW := hS.1
  have n6 := hW.1
  have m10 := hW.2.1
  have hR : RepM w 73 (sD S) := h.2.2.2.1
  have hp := nPt_le (sD S) (dM (sD S))
  unfold X11_bound
  refine X11_in_ok hx (by decide) (by decide) (fun z1 z2 => ⟨fun k => absurd k (by decide), fun _ => ?_⟩) (fun z => ⟨fun _ => hno (by omega), fun k => absurd (by decide) k⟩)
  refine X11_girth_ok hW hR (fun g hG => ?_)
  have g6 : g ≤ 6 := by rcases hG with k | k; omega; exact k.2.1
  have q1 := hQ w g hG h (fun _ _ _ => rfl)
  rw [hx, show wr 1 = 1 by decide]
  refine ⟨fun z => ?_, fun z => ?_⟩
  · unfold bouA at q1
    rw [if_pos z] at q1
    by_cases y : g = 0
    · rw [if_pos y] at q1 ⊢; exact q1
    · rw [if_neg y] at q1 ⊢
      rw [wr_nat (by omega)]; exact q1
  · by_cases y : g = 0
    · rw [if_pos y]
      refine ⟨fun _ => ?_, fun k => absurd (by decide) k⟩
      unfold bouA at q1
      rw [if_neg z, if_pos (by omega), if_pos y] at q1
      exact q1
    · rw [if_neg y, wr_nat (n := g) (by omega)]
      refine ⟨fun k => by omega, fun _ => ?_⟩
      refine X11_partsOf_ok hW hR (by decide) (fun w5 o5 => ?_)
      have R5 : RepM w5 73 (sD S) := RepM.of hR (fun j => o5 73 j (by decide))
      have q5 := hQ w5 g hG (HM.same hS h (fun c j hc => o5 c j (by omega))) (fun c j hc => o5 c j (by omega))
      unfold bouA at q5
      rw [if_neg z, if_pos (by omega), if_neg y] at q5
      rw [wr_nat (n := nPt (sD S) (dM (sD S))) (by omega), rd0, rd1, R5.1, R5.2.1]
      refine ⟨fun y2 => ⟨ix_of (n := 0) rfl (by decide) (by decide), ix_of (n := 1) rfl (by decide) (by decide), ix_of (n := 1) rfl (by decide) (by decide), by omega, fun y7 e7 => ?_⟩, fun y2 => ?_⟩
      · rw [if_pos (by omega)] at q5
        subst e7
        refine ⟨fun y3 => ?_, fun y3 => ?_⟩
        · rw [if_pos y3] at q5; exact q5
        · rw [if_neg y3] at q5; exact q5
      · rw [if_neg (by omega)] at q5; exact q5
