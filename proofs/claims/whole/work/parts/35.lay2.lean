theorem isl1 {k : Nat} (hk : k < 31) : isl 1 (k : Int) = ((2 ^ k : Nat) : Int) := by
  have h : 2 ^ k ≤ 2 ^ 30 := Nat.pow_le_pow_right (by decide) (by omega)
  have := isl_nat (a := 1) (k := k) (by omega) (by omega)
  rw [Nat.one_mul] at this
  exact this
theorem imn_nat {a b : Nat} (ha : a < 2147483648) (hb : b < 2147483648) : imn (a : Int) (b : Int) = ((min a b : Nat) : Int) := by
  unfold imn
  rw [wr_nat ha, wr_nat hb]
  split <;> omega
theorem imx_nat {a b : Nat} (ha : a < 2147483648) (hb : b < 2147483648) : imx (a : Int) (b : Int) = ((max a b : Nat) : Int) := by
  unfold imx
  rw [wr_nat ha, wr_nat hb]
  split <;> omega
theorem bor_bit {t m : Nat} (i : Nat) : (t ||| 2 ^ m).testBit i = (t.testBit i || decide (i = m)) := by
  rw [Nat.testBit_or, Nat.testBit_two_pow]
  congr 1
  exact decide_eq_decide.mpr ⟨Eq.symm, Eq.symm⟩
theorem bor_lt {t m : Nat} (ht : t < 1024) (hm : m < 10) : t ||| 2 ^ m < 1024 := by
  have h1 : 2 ^ m < 2 ^ 10 := Nat.pow_lt_pow_right (by decide) hm
  exact Nat.or_lt_two_pow (n := 10) ht h1
theorem X1_addLine_ok {k : Nat} {Q : Int → Wd → Prop} {w : Wd} {D : Dw} {x1 x2 x3 x4 x5 : Int} (a x b y : Nat) (h1 : x1 = (a : Int)) (h2 : x2 = (x : Int)) (h3 : x3 = (b : Int)) (h4 : x4 = (y : Int)) (hW : WF D) (hm : dM D < 10) (ha : a < dN D) (hb : b < dN D) (hab : a ≠ b) (hx : dG D a = 0 ∧ x = 0 ∨ x < dG D a) (hy : dG D b = 0 ∧ y = 0 ∨ y < dG D b) (hR : RepX w k D) (hQ : ∀ w', RepX w' k (dLay D a x b y (decide (wr x5 ≠ 0))) → offX k w w' → Q (dM D : Int) w') : X1_addLine k x1 x2 x3 x4 x5 w Q := by
  subst h1 h2 h3 h4
  obtain ⟨n6, m10, hen, hne, hrow, hinj, hsur⟩ := id hW
  obtain ⟨r0, r1, ⟨t, rt, ht, htb⟩, r3, r4, r5⟩ := hR
  have hda := hW.deg ha
  have hdb := hW.deg hb
  have tm : t.testBit (dM D) = false := by rw [htb, decide_eq_false (by omega : ¬ dM D < dM D)]; rfl
  have tail : ∀ (v : Wd) (t' : Nat), v k 0 = dN D → v k 1 = (dM D : Int) + 1 → v k 2 = t' → t' < 1024 → (∀ i, t'.testBit i = (t.testBit i || (decide (i = dM D) && decide (wr x5 ≠ 0)))) → (∀ i, v (k + 1) i = if i = 2 * dM D + 1 then (b : Int) else if i = 2 * dM D then (a : Int) else w (k + 1) i) → (∀ c j, c = k + 2 ∨ c = k + 3 ∨ c < k ∨ k + 4 ≤ c → v c j = w c j) → X1_addLine_b56 k Q (a : Int) (x : Int) (b : Int) (y : Int) (dM D : Int) v := by
    intro v t' v0 v1 v2 ht' htb' v3 voff
    unfold X1_addLine_b56
    have va : v (k + 2) a = dG D a := by rw [voff _ _ (by omega)]; exact r4 a ha
    have vb : v (k + 2) b = dG D b := by rw [voff _ _ (by omega)]; exact r4 b hb
    have hRR : RR v (k + 2) 0 (k + 3) 0 (dN D) (dG D) (dR D) := ⟨fun p hp => by rw [Nat.zero_add, voff _ _ (by omega)]; exact r4 p hp, fun p i hp hi => by rw [Nat.zero_add, voff _ _ (by omega)]; exact r5 p i hp hi⟩
    obtain ⟨ca, hca⟩ : ∃ c, c = if dG D a = 0 then 0 else x + 1 := ⟨_, rfl⟩
    obtain ⟨cb, hcb⟩ : ∃ c, c = if dG D b = 0 then 0 else y + 1 := ⟨_, rfl⟩
    have hca' : ca = min (x + 1) (dG D a) := by rw [hca]; split <;> omega
    have hcb' : cb = min (y + 1) (dG D b) := by rw [hcb]; split <;> omega
    have hv := rr_ins2 (x := dM D) (a := ca) (b := cb) (Or.inl (by omega)) hRR n6 (fun p hp => by have := hW.deg hp; omega) ha hb hab (by omega) (by omega)
    rw [Nat.zero_add, Nat.zero_add, Nat.zero_add, Nat.zero_add] at hv
    refine ⟨ix_of rfl (by omega) (by decide), ?_⟩
    rw [rd_of (n := a) rfl (by omega), va, show (x : Int) + 1 = ((x + 1 : Nat) : Int) by omega, imn_nat (by omega) (by omega), ← hca']
    refine X1_insertAt_ok a ca (dG D a) (dM D : Int) rfl rfl (by omega) (by omega) (by omega) va ?_
    have vb2 : insW v (k + 2) a (k + 3) (10 * a) ca (dM D : Int) (dG D a) (k + 2) b = dG D b := by rw [insW_off (by omega) (by omega) (by omega)]; exact vb
    refine ⟨ix_of rfl (by omega) (by decide), ?_⟩
    rw [rd_of (n := b) rfl (by omega), vb2, show (y : Int) + 1 = ((y + 1 : Nat) : Int) by omega, imn_nat (by omega) (by omega), ← hcb', wr_nat (n := dM D) (by omega)]
    refine X1_insertAt_ok b cb (dG D b) (dM D : Int) rfl rfl (by omega) (by omega) (by omega) vb2 ?_
    have off : ∀ c j, c ≠ k + 2 → c ≠ k + 3 → insW (insW v (k + 2) a (k + 3) (10 * a) ca (dM D : Int) (dG D a)) (k + 2) b (k + 3) (10 * b) cb (dM D : Int) (dG D b) c j = v c j := fun c j g1 g2 => by rw [insW_off (by omega) (by omega) (by omega), insW_off (by omega) (by omega) (by omega)]
    refine hQ _ ⟨?_, ?_, ⟨t', ?_, ht', fun i => ?_⟩, ?_, ?_, ?_⟩ ?_
    · rw [off _ _ (by omega) (by omega)]; exact v0
    · rw [off _ _ (by omega) (by omega), v1]; rfl
    · rw [off _ _ (by omega) (by omega)]; exact v2
    · rw [htb', htb]
      show _ = (decide (i < dM D + 1) && if i = dM D then decide (wr x5 ≠ 0) else dT D i)
      by_cases q : i = dM D
      · rw [if_pos q, decide_eq_false (by omega : ¬ i < dM D), decide_eq_true q, decide_eq_true (by omega : i < dM D + 1)]
        simp
      · rw [if_neg q, decide_eq_false q]
        by_cases q2 : i < dM D
        · rw [decide_eq_true q2, decide_eq_true (by omega : i < dM D + 1)]; simp
        · rw [decide_eq_false q2, decide_eq_false (by omega : ¬ i < dM D + 1)]; simp
    · intro i hi
      have hi : i < 2 * (dM D + 1) := hi
      rw [off _ _ (by omega) (by omega), v3]
      show _ = ((if i = 2 * dM D then a else if i = 2 * dM D + 1 then b else dE D i : Nat) : Int)
      by_cases q : i = 2 * dM D + 1
      · rw [if_pos q, if_neg (by omega), if_pos q]
      · by_cases q2 : i = 2 * dM D
        · rw [if_neg q, if_pos q2, if_pos q2]
        · rw [if_neg q, if_neg q2, if_neg q2, if_neg q]
          exact r3 i (by omega)
    · intro p hp
      have := hv.1 p hp
      rw [Nat.zero_add] at this
      exact this
    · intro p i hp hi
      have := hv.2 p i hp hi
      rw [Nat.zero_add] at this
      rw [this]
      show _ = ((if a = p then insR (dR D p) (if dG D a = 0 then 0 else x + 1) (dM D) i else if b = p then insR (dR D p) (if dG D b = 0 then 0 else y + 1) (dM D) i else dR D p i : Nat) : Int)
      rw [← hca, ← hcb]
    · intro c j hc
      rw [off _ _ (by omega) (by omega), voff _ _ (by omega)]
  unfold X1_addLine
  intro y1 e1 w2 e2
  rw [r1] at e1 e2
  subst e1
  refine ⟨ix_of (n := 2 * dM D) (by omega) (by omega) (by decide), ?_⟩
  intro w3 e3
  rw [wt_of (n := 2 * dM D) (by omega) (by omega)] at e3
  refine ⟨ix_of (n := 2 * dM D + 1) (by omega) (by omega) (by decide), ?_⟩
  intro w4 e4
  rw [wt_of (n := 2 * dM D + 1) (by omega) (by omega)] at e4
  have p4 : ∀ c j, w4 c j = if c = k + 1 ∧ j = 2 * dM D + 1 then (b : Int) else if c = k + 1 ∧ j = 2 * dM D then (a : Int) else if c = k ∧ j = 1 then (dM D : Int) + 1 else w c j := fun c j => by rw [e4, e3, e2]; rfl
  have q0 : w4 k 0 = dN D := by rw [p4, if_neg (by omega), if_neg (by omega), if_neg (by omega)]; exact r0
  have q1 : w4 k 1 = (dM D : Int) + 1 := by rw [p4, if_neg (by omega), if_neg (by omega), if_pos ⟨rfl, rfl⟩]
  have q2 : w4 k 2 = t := by rw [p4, if_neg (by omega), if_neg (by omega), if_neg (by omega)]; exact rt
  have q3 : ∀ i, w4 (k + 1) i = if i = 2 * dM D + 1 then (b : Int) else if i = 2 * dM D then (a : Int) else w (k + 1) i := fun i => by
    rw [p4]
    by_cases z : i = 2 * dM D + 1
    · rw [if_pos ⟨rfl, z⟩, if_pos z]
    · rw [if_neg (fun h => z h.2), if_neg z]
      by_cases z2 : i = 2 * dM D
      · rw [if_pos ⟨rfl, z2⟩, if_pos z2]
      · rw [if_neg (fun h => z2 h.2), if_neg z2, if_neg (by omega)]
  have q4 : ∀ c j, c = k + 2 ∨ c = k + 3 ∨ c < k ∨ k + 4 ≤ c → w4 c j = w c j := fun c j h => by rw [p4, if_neg (by omega), if_neg (by omega), if_neg (by omega)]
  refine ⟨fun z => ?_, fun z => ?_⟩
  · refine tail w4 t q0 q1 q2 ht (fun i => ?_) q3 q4
    rw [show decide (wr x5 ≠ 0) = false from decide_eq_false (fun n => n z)]
    simp
  · intro w7 e7
    rw [q2, isl1 (by omega), ior_nat (by omega) (by have := Nat.pow_lt_pow_right (a := 2) (by decide) hm; omega)] at e7
    refine tail w7 (t ||| 2 ^ dM D) ?_ ?_ ?_ (bor_lt ht hm) (fun i => ?_) (fun i => ?_) (fun c j h => ?_)
    · rw [e7, up_ap, if_neg (by omega)]; exact q0
    · rw [e7, up_ap, if_neg (by omega)]; exact q1
    · rw [e7, up_eq]
    · rw [bor_bit, show decide (wr x5 ≠ 0) = true from decide_eq_true z, Bool.and_true]
    · rw [e7, up_ap, if_neg (by omega)]; exact q3 i
    · rw [e7, up_ap, if_neg (by omega)]; exact q4 c j h
