/-- the model's lay, behind its tests and marks -/
def mLayB (Q : Int → Wd → Prop) (x1 x2 x3 x4 x5 : Int) (w5 : Wd) : Prop := (ix 1 98 ∧ (∀ y6, y6 = (rd w5 73 1) → (ix (2 + (2 * y6)) 98 ∧ (∀ w7, w7 = wt w5 73 (2 + (2 * y6)) x1 → (ix ((2 + (2 * y6)) + 1) 98 ∧ (∀ w8, w8 = wt w7 73 ((2 + (2 * y6)) + 1) x3 → ((wr x5 = 0 → X11_lay_b94 Q x1 x2 x3 x4 y6 0 (22 + y6) w8) ∧ (¬ wr x5 = 0 → X11_lay_b94 Q x1 x2 x3 x4 y6 1 (22 + y6) w8))))))))
theorem mLayB_ok {Q : Int → Wd → Prop} {w : Wd} {D : Dw} {x1 x2 x3 x4 x5 : Int} (a x b y : Nat) (h1 : x1 = (a : Int)) (h2 : x2 = (x : Int)) (h3 : x3 = (b : Int)) (h4 : x4 = (y : Int)) (hW : WF D) (hm : dM D < 10) (ha : a < dN D) (hb : b < dN D) (hab : a ≠ b) (hx : dG D a = 0 ∧ x = 0 ∨ x < dG D a) (hy : dG D b = 0 ∧ y = 0 ∨ y < dG D b) (hR : RepM w 73 D) (hQ : ∀ w', RepM w' 73 (dLay D a x b y (decide (wr x5 ≠ 0))) → offM 73 w w' → Q (dM D : Int) w') : mLayB Q x1 x2 x3 x4 x5 w := by
  subst h1 h2 h3 h4
  obtain ⟨n6, m10, hen, hne, hrow, hinj, hsur⟩ := id hW
  obtain ⟨r0, r1, r3, rt, r4, r5⟩ := hR
  have hda := hW.deg ha
  have hdb := hW.deg hb
  obtain ⟨ca, hca⟩ : ∃ c, c = if dG D a = 0 then 0 else x + 1 := ⟨_, rfl⟩
  obtain ⟨cb, hcb⟩ : ∃ c, c = if dG D b = 0 then 0 else y + 1 := ⟨_, rfl⟩
  have hca' : ca ≤ dG D a := by rw [hca]; split <;> omega
  have hcb' : cb ≤ dG D b := by rw [hcb]; split <;> omega
  unfold mLayB
  rw [rd1, r1]
  refine ⟨ix_of (n := 1) rfl (by omega) (by decide), ?_⟩
  intro y6 e6
  subst e6
  refine ⟨ix_of (n := 2 + 2 * dM D) (by omega) (by omega) (by decide), ?_⟩
  intro w7 e7
  rw [wt_of (n := 2 + 2 * dM D) (by omega) (by omega)] at e7
  refine ⟨ix_of (n := 2 + 2 * dM D + 1) (by omega) (by omega) (by decide), ?_⟩
  intro w8 e8
  rw [wt_of (n := 2 + 2 * dM D + 1) (by omega) (by omega)] at e8
  have tail : ∀ tv : Int, tv = (if decide (wr x5 ≠ 0) then 1 else 0) → X11_lay_b94 Q (a : Int) (x : Int) (b : Int) (y : Int) (dM D : Int) tv (22 + (dM D : Int)) w8 := by
    intro tv htv
    unfold X11_lay_b94
    refine ⟨ix_of (n := 22 + dM D) (by omega) (by omega) (by decide), ?_⟩
    intro w9 e9
    rw [wt_of (n := 22 + dM D) (by omega) (by omega)] at e9
    have p9 : ∀ c j, w9 c j = if c = 73 ∧ j = 22 + dM D then tv else if c = 73 ∧ j = 2 + 2 * dM D + 1 then (b : Int) else if c = 73 ∧ j = 2 + 2 * dM D then (a : Int) else w c j := fun c j => by rw [e9, e8, e7]; rfl
    have off9 : ∀ c j, c ≠ 73 ∨ 32 ≤ j ∨ j < 2 → w9 c j = w c j := fun c j h => by rw [p9, if_neg (by omega), if_neg (by omega), if_neg (by omega)]
    have va : w9 73 (32 + a) = dG D a := by rw [off9 _ _ (by omega)]; exact r4 a ha
    have vb : w9 73 (32 + b) = dG D b := by rw [off9 _ _ (by omega)]; exact r4 b hb
    have hRR : RR w9 73 32 73 38 (dN D) (dG D) (dR D) := ⟨fun p hp => by rw [off9 _ _ (by omega)]; exact r4 p hp, fun p i hp hi => by rw [off9 _ _ (by omega)]; exact r5 p i hp hi⟩
    have hv := rr_ins2 (x := dM D) (a := ca) (b := cb) (Or.inr (by omega)) hRR n6 (fun p hp => by have := hW.deg hp; omega) ha hb hab hca' hcb'
    refine ⟨ix_of (n := 32 + a) (by omega) (by omega) (by decide), ?_⟩
    rw [rd_of (n := 32 + a) (by omega) (by omega), va, wr_nat (n := dG D a) (by omega)]
    have step2 : X11_inserts 73 (a : Int) (ca : Int) (dM D : Int) w9 (fun w10 => (ix (32 + (b : Int)) 98 ∧ ((wr (rd w10 73 (32 + (b : Int))) = 0 → X11_lay_b149 Q (dM D : Int) 0 (b : Int) w10) ∧ (¬ wr (rd w10 73 (32 + (b : Int))) = 0 → X11_lay_b149 Q (dM D : Int) ((y : Int) + 1) (b : Int) w10)))) := by
      refine X11_inserts_ok a ca (dG D a) (dM D : Int) rfl rfl (by omega) (by omega) hca' va ?_
      have vb2 : insW w9 73 (32 + a) 73 (38 + 10 * a) ca (dM D : Int) (dG D a) 73 (32 + b) = dG D b := by rw [insW_off hca' (by omega) (by omega)]; exact vb
      refine ⟨ix_of (n := 32 + b) (by omega) (by omega) (by decide), ?_⟩
      rw [rd_of (n := 32 + b) (by omega) (by omega), vb2, wr_nat (n := dG D b) (by omega)]
      have step3 : X11_lay_b149 Q (dM D : Int) (cb : Int) (b : Int) (insW w9 73 (32 + a) 73 (38 + 10 * a) ca (dM D : Int) (dG D a)) := by
        unfold X11_lay_b149
        refine X11_inserts_ok b cb (dG D b) (dM D : Int) rfl rfl (by omega) (by omega) hcb' vb2 ?_
        have off : ∀ c j, c ≠ 73 ∨ j < 32 → insW (insW w9 73 (32 + a) 73 (38 + 10 * a) ca (dM D : Int) (dG D a)) 73 (32 + b) 73 (38 + 10 * b) cb (dM D : Int) (dG D b) c j = w9 c j := fun c j g => by rw [insW_off hcb' (by omega) (by omega), insW_off hca' (by omega) (by omega)]
        obtain ⟨v, hve⟩ : ∃ v, v = insW (insW w9 73 (32 + a) 73 (38 + 10 * a) ca (dM D : Int) (dG D a)) 73 (32 + b) 73 (38 + 10 * b) cb (dM D : Int) (dG D b) := ⟨_, rfl⟩
        rw [← hve] at off hv ⊢
        refine ⟨ix_of (n := 1) rfl (by omega) (by decide), ix_of (n := 1) rfl (by omega) (by decide), ?_⟩
        intro w12 e12
        rw [wt1, rd1, off _ _ (by omega), off9 _ _ (by omega), r1] at e12
        have p12 : ∀ c j, w12 c j = if c = 73 ∧ j = 1 then (dM D : Int) + 1 else v c j := fun c j => by rw [e12]; rfl
        rw [wr_nat (n := dM D) (by omega)]
        refine hQ w12 ⟨?_, ?_, ?_, ?_, ?_, ?_⟩ ?_
        · rw [p12, if_neg (by omega), off _ _ (by omega), off9 _ _ (by omega)]; exact r0
        · rw [p12, if_pos ⟨rfl, rfl⟩]; rfl
        · intro i hi
          have hi : i < 2 * (dM D + 1) := hi
          rw [p12, if_neg (by omega), off _ _ (by omega), p9, if_neg (by omega)]
          show _ = ((if i = 2 * dM D then a else if i = 2 * dM D + 1 then b else dE D i : Nat) : Int)
          by_cases q : i = 2 * dM D + 1
          · rw [if_pos (by omega), if_neg (by omega), if_pos q]
          · by_cases q2 : i = 2 * dM D
            · rw [if_neg (by omega), if_pos (by omega), if_pos q2]
            · rw [if_neg (by omega), if_neg (by omega), if_neg q2, if_neg q]
              exact r3 i (by omega)
        · intro i hi
          have hi : i < dM D + 1 := hi
          rw [p12, if_neg (by omega), off _ _ (by omega), p9]
          show _ = if (if i = dM D then decide (wr x5 ≠ 0) else dT D i) then (1 : Int) else 0
          by_cases q : i = dM D
          · rw [if_pos (by omega), if_pos q]; exact htv
          · rw [if_neg (by omega), if_neg (by omega), if_neg (by omega), if_neg q]
            exact rt i (by omega)
        · intro p hp
          have hp : p < dN D := hp
          rw [p12, if_neg (by omega)]
          exact hv.1 p hp
        · intro p i hp hi
          have hp : p < dN D := hp
          rw [p12, if_neg (by omega), hv.2 p i hp hi]
          show _ = ((if a = p then insR (dR D p) (if dG D a = 0 then 0 else x + 1) (dM D) i else if b = p then insR (dR D p) (if dG D b = 0 then 0 else y + 1) (dM D) i else dR D p i : Nat) : Int)
          rw [← hca, ← hcb]
        · intro c j hc
          rw [p12, if_neg (fun z => hc z.1), off _ _ (Or.inl hc), off9 _ _ (Or.inl hc)]
      refine ⟨fun z => ?_, fun z => ?_⟩
      · rw [hcb, if_pos (by omega)] at step3; exact step3
      · rw [hcb, if_neg (by omega)] at step3
        rw [show (y : Int) + 1 = ((y + 1 : Nat) : Int) by omega]
        exact step3
    unfold X11_lay_b119
    refine ⟨fun z => ?_, fun z => ?_⟩
    · rw [hca, if_pos (by omega)] at step2; exact step2
    · rw [hca, if_neg (by omega)] at step2
      rw [show (x : Int) + 1 = ((x + 1 : Nat) : Int) by omega]
      exact step2
  refine ⟨fun z => tail 0 ?_, fun z => tail 1 ?_⟩
  · rw [show decide (wr x5 ≠ 0) = false from decide_eq_false (fun n => n z)]; rfl
  · rw [show decide (wr x5 ≠ 0) = true from decide_eq_true z]; rfl
