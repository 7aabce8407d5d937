theorem RepT.arm {w : Wd} {T : Nat} {D : Dw} (hW : WF D) (h : RepT w T D) {f i : Nat} (hf : f < nF D (4 * dM D)) (hi : i < fl D f) : w (T + 5) f = (suF D f : Int) ∧ w (T + 6) (suF D f + i) = (stA D (vs D (suF D f + i)) : Int) := by
  have hl := ldF_ok hf
  have h2 := (h.2.2.1 _ hl.1 hl.2.1).2
  rw [hl.2.2, tF_suF _ (by omega), hl.2.2] at h2
  exact ⟨h2, h.2.1.2.2.1 _ (sF_st hW hf hi).1⟩
theorem TT.ways {w : Wd} {T : Nat} {D : Dw} (hW : WF D) (h : TT w T D (tF D (4 * dM D))) {e : Nat} (he : e < dM D) : ∃ a b : Nat, a < 2 ∧ b < 2 ∧ w (T + 4) (2 * e) = (a : Int) ∧ w (T + 4) (2 * e + 1) = (b : Int) ∧ (dTd D e = true ↔ a = b) := by
  obtain ⟨u, v, huv, hv, h1, h2, h3⟩ := vL_both hW he
  have hu : u < tF D (4 * dM D) := by omega
  have a1 := h.2.2.2.1 u hu (fun t ht hne => by
    have := vL_two hW hu hv (show t < tF D (4 * dM D) by omega) (by rw [h1, h2]) hne.symm (by omega) (by omega)
    omega)
  have a2 := h.2.2.2.2 v hv ⟨u, huv, by rw [h1, h2]⟩
  rw [h1] at a1
  rw [h2] at a2
  exact ⟨_, _, Nat.mod_lt _ (by decide), Nat.mod_lt _ (by decide), a1.2, a2.2, dTd_iff hW huv hv h1 h2⟩
theorem X10_buildDual_ok {Q : Wd → Prop} {w1 : Wd} {S : Sg} (hS : SOK S) (h1 : HX w1 S) (T1 : RepT w1 17 (sD S)) (hD : DOK (sD S)) (hQ : ∀ w', HX w' S → RepX w' 5 (dDual (sD S)) → (∀ c j, ¬ (c = 0 ∧ j = 17) → (c < 5 ∨ 9 ≤ c ∧ c < 17 ∨ 27 ≤ c) → w' c j = w1 c j) → Q w') : X10_buildDual 17 5 w1 Q := by
  have hW := hS.1
  have m10 := hW.2.1
  have n6 := hW.1
  have hn6 := hD.1
  have hWd := dDual_WF hW hD
  have hz : nFa (sD S) = nF (sD S) (4 * dM (sD S)) := by
    unfold nFa
    rw [nBr_zero _ hD.2.1]; rfl
  unfold X10_buildDual
  obtain ⟨D, hDe⟩ : ∃ D, D = sD S := ⟨_, rfl⟩
  have R1 : RepX w1 1 (sD S) := h1.2.2.2.1
  rw [← hDe] at hW m10 n6 hn6 hWd hz T1 R1 hD hQ
  intro w2 e2 w3 e3 w4 e4
  rw [T1.1, show (6 : Int) = ((6 : Nat) : Int) from rfl, imn_nat (by omega) (by omega), Nat.min_eq_left hn6] at e2
  have g2 : w2 1 1 = (dM D : Int) := by rw [e2, up_ap, if_neg (by omega)]; exact R1.2.1
  rw [g2] at e3
  have val4 : ∀ c j, w4 c j = if c = 5 ∧ j = 2 then 0 else if c = 5 ∧ j = 1 then (dM D : Int) else if c = 5 ∧ j = 0 then (nFa D : Int) else w1 c j := fun c j => by rw [e4, up_ap, e3, up_ap, e2, up_ap]
  have bs : ∀ f i, f < nFa D → i < fl D f → i < 10 := fun f i hf hi => by
    have h1 : dG (dDual D) f ≤ dM (dDual D) := hWd.deg hf
    have h2 : fl D f ≤ dM D := h1
    omega
  -- rows
  have row : ∀ (e170 : Int → Wd → Prop) (f : Nat) (u : Wd), f < nFa D → (∀ c j, ¬ (5 ≤ c ∧ c < 9) → u c j = w1 c j) → (∀ w', w' 7 f = (fl D f : Int) → (∀ i, i < fl D f → w' 8 (10 * f + i) = (vL D (suF D f + i) : Int)) → (∀ c j, ¬ (c = 7 ∧ j = f) → ¬ (c = 8 ∧ 10 * f ≤ j ∧ j < 10 * f + 10) → w' c j = u c j) → e170 (f : Int) w') → ∀ (m i : Nat) (v : Wd), i ≤ fl D f → fl D f - i < m → v 7 f = (i : Int) → (∀ k, k < i → v 8 (10 * f + k) = (vL D (suF D f + k) : Int)) → (∀ c j, ¬ (c = 7 ∧ j = f) → ¬ (c = 8 ∧ 10 * f ≤ j ∧ j < 10 * f + 10) → v c j = u c j) → X10_buildDual_l137 17 5 Q e170 m (f : Int) (i : Int) v := by
    intro e170 f u hf uoff hK m
    induction m with
    | zero => intro i v a1 a2; omega
    | succ m ih =>
      intro i v a1 a2 v7 v8 voff
      have hfl := fl_le hW f
      unfold X10_buildDual_l137
      have vT : RepT v 17 D := RepT.of T1 (fun c j _ _ => by rw [voff c j (by omega) (by omega), uoff c j (by omega)])
      have hlen : rd v 18 (f : Int) = (fl D f : Int) := by rw [rd_of rfl (by omega)]; exact vT.len hf
      rw [hlen, wr_nat (n := fl D f) (by omega), wr_nat (n := i) (by omega)]
      refine ⟨ix_of rfl (by omega) (by decide), fun z => ?_, fun z => ?_⟩
      · have : i = fl D f := by omega
        subst this
        exact hK v v7 v8 voff
      · have hi : i < fl D f := by omega
        have hi10 := bs f i hf hi
        have ha := vT.arm hW (by omega) hi
        have hst := sF_st hW (show f < nF D (4 * dM D) by omega) hi
        have hA := stA_lt (vs_uq hW hst.1 hst.1).1
        have htt : tF D (4 * dM D) ≤ 2 * dM D := (nF_le hW (Nat.le_refl _)).2
        unfold X8_armAt
        have e5 : rd v 22 (f : Int) = (suF D f : Int) := by rw [rd_of rfl (by omega)]; exact ha.1
        have e6 : rd v 23 ((suF D f : Int) + (i : Int)) = (stA D (vs D (suF D f + i)) : Int) := by rw [rd_of (n := suF D f + i) (by omega) (by omega)]; exact ha.2
        rw [e5, e6, wr_nat (by omega)]
        refine ⟨ix_of rfl (by omega) (by decide), ix_of (n := suF D f + i) (by omega) (by omega) (by decide), ?_⟩
        have e7 : isr (stA D (vs D (suF D f + i)) : Int) 1 = (vL D (suF D f + i) : Int) := by
          rw [show (1 : Int) = ((1 : Nat) : Int) from rfl, isr_nat (by omega) (by omega)]; rfl
        show X1_insertAt 5 (f : Int) (i : Int) (isr (stA D (vs D (suF D f + i)) : Int) 1) v _
        rw [e7]
        refine X1_insertAt_ok f i i _ rfl rfl (by omega) hi10 (Nat.le_refl _) v7 ?_
        rw [show (i : Int) + 1 = ((i + 1 : Nat) : Int) by omega]
        refine ih (i + 1) _ (by omega) (by omega) ?_ (fun k hk => ?_) (fun c j c1 c2 => ?_)
        · unfold insW
          rw [if_neg (by omega), if_neg (by omega), if_pos ⟨rfl, rfl⟩]; omega
        · unfold insW
          rw [if_neg (by omega)]
          by_cases q : k = i
          · rw [if_pos (by omega), q]
          · rw [if_neg (by omega), if_neg (by omega)]; exact v8 k (by omega)
        · unfold insW
          rw [if_neg (by omega), if_neg (by omega), if_neg (by omega)]; exact voff c j c1 c2
  have rows : ∀ (m f : Nat) (v : Wd), f ≤ nFa D → nFa D - f < m → v 5 0 = (nFa D : Int) → v 5 1 = (dM D : Int) → (∃ t : Nat, v 5 2 = (t : Int) ∧ Bts t 10 (fun d => d < dM D ∧ dTd D d = true)) → (∀ i, i < 2 * dM D → v 6 i = (dE (dDual D) i : Int)) → (∀ g, g < f → v 7 g = (fl D g : Int) ∧ ∀ i, i < fl D g → v 8 (10 * g + i) = (vL D (suF D g + i) : Int)) → (∀ c j, ¬ (5 ≤ c ∧ c < 9) → v c j = w1 c j) → X10_buildDual_l119 17 5 Q (X10_buildDual_b176 17 5 Q) m (f : Int) v := by
    intro m
    induction m with
    | zero => intro f v a1 a2; omega
    | succ m ih =>
      intro f v a1 a2 v50 v51 v52 v6 vr voff
      unfold X10_buildDual_l119
      rw [v50, wr_nat (n := nFa D) (by omega), wr_nat (n := f) (by omega)]
      refine ⟨fun z => ?_, fun z => ⟨ix_of rfl (by omega) (by decide), fun w8 e8 => ?_⟩⟩
      · unfold X10_buildDual_b176
        obtain ⟨t, ht, hB⟩ := v52
        refine hQ v (HX.same hS h1 (fun c j c1 c2 => voff c j (by omega))) ⟨v50, v51, ⟨t, ht, hB.1, fun e => ?_⟩, v6, fun p hp => (vr p (by have : p < nFa D := hp; omega)).1, fun p i hp hi => (vr p (by have : p < nFa D := hp; omega)).2 i hi⟩ (fun c j c1 c2 => voff c j (by omega))
        by_cases he : e < 10
        · have := hB.2 e he
          show t.testBit e = (decide (e < dM D) && dTd D e)
          cases q : t.testBit e
          · cases q2 : (decide (e < dM D) && dTd D e)
            · rfl
            · rw [Bool.and_eq_true, decide_eq_true_iff] at q2
              rw [this.mpr q2] at q; exact absurd q (by decide)
          · have := this.mp q
            rw [this.2]; simp [this.1]
        · have q1 : t.testBit e = false := Nat.testBit_lt_two_pow (Nat.lt_of_lt_of_le hB.1 (Nat.pow_le_pow_right (by decide) (by omega)))
          have q2 : ¬ e < dM (dDual D) := fun y => by have : e < dM D := y; omega
          rw [q1]; simp [q2]
      · rw [wt_of rfl (by omega)] at e8
        have o8 : ∀ c j, ¬ (c = 7 ∧ j = f) → w8 c j = v c j := fun c j hc => by rw [e8, up_ap, if_neg hc]
        refine ⟨fl D f + 1, row _ f w8 (by omega) (fun c j hc => by rw [o8 c j (by omega)]; exact voff c j hc) (fun w' g7 g8 goff => ?_) (fl D f + 1) 0 w8 (by omega) (by omega) (by rw [e8, up_eq]; rfl) (fun k hk => by omega) (fun _ _ _ _ => rfl)⟩
        unfold X10_buildDual_b170
        rw [show (f : Int) + 1 = ((f + 1 : Nat) : Int) by omega]
        have go : ∀ c j, ¬ (c = 7 ∧ j = f) → ¬ (c = 8 ∧ 10 * f ≤ j ∧ j < 10 * f + 10) → w' c j = v c j := fun c j c1 c2 => by rw [goff c j c1 c2, o8 c j c1]
        refine ih (f + 1) w' (by omega) (by omega) (by rw [go _ _ (by omega) (by omega)]; exact v50) (by rw [go _ _ (by omega) (by omega)]; exact v51) (by rw [go _ _ (by omega) (by omega)]; exact v52) (fun i hi => by rw [go _ _ (by omega) (by omega)]; exact v6 i hi) (fun g hg => ?_) (fun c j hc => by rw [go c j (by omega) (by omega)]; exact voff c j hc)
        by_cases q : g = f
        · subst q; exact ⟨g7, g8⟩
        · have := vr g (by omega)
          refine ⟨by rw [go _ _ (by omega) (by omega)]; exact this.1, fun i hi => ?_⟩
          have := bs g i (by omega) hi
          rw [go _ _ (by omega) (by omega)]; exact (vr g (by omega)).2 i hi
  have lines : ∀ (m e : Nat) (v : Wd), e ≤ dM D → dM D - e < m → (∃ t : Nat, v 5 2 = (t : Int) ∧ Bts t 10 (fun d => d < e ∧ dTd D d = true)) → (∀ i, i < 2 * e → v 6 i = (dE (dDual D) i : Int)) → (∀ c j, ¬ (c = 5 ∧ j = 2) → c ≠ 6 → v c j = w4 c j) → X10_buildDual_l31 17 5 Q (X10_buildDual_b117 17 5 Q) m (e : Int) v := by
    intro m
    induction m with
    | zero => intro e v a1 a2; omega
    | succ m ih =>
      intro e v a1 a2 v52 v6 voff
      have v11 : v 1 1 = (dM D : Int) := by rw [voff _ _ (by omega) (by omega), val4, if_neg (by omega), if_neg (by omega), if_neg (by omega)]; exact R1.2.1
      have vw : ∀ c j, c ≠ 5 → c ≠ 6 → v c j = w1 c j := fun c j c1 c2 => by rw [voff c j (by omega) c2, val4, if_neg (by omega), if_neg (by omega), if_neg (by omega)]
      unfold X10_buildDual_l31
      rw [v11, wr_nat (n := dM D) (by omega), wr_nat (n := e) (by omega)]
      refine ⟨fun z => ?_, fun z => ⟨ix_of (n := 2 * e) (by omega) (by omega) (by decide), ix_of (n := 2 * e) (by omega) (by omega) (by decide), fun w5 e5 => ⟨ix_of (n := 2 * e + 1) (by omega) (by omega) (by decide), ix_of (n := 2 * e + 1) (by omega) (by omega) (by decide), fun w6 e6 => ⟨ix_of (n := 2 * e) (by omega) (by omega) (by decide), ix_of (n := 2 * e + 1) (by omega) (by omega) (by decide), ?_⟩⟩⟩⟩
      · have : e = dM D := by omega
        subst this
        unfold X10_buildDual_b117
        refine ⟨nFa D + 1, rows (nFa D + 1) 0 v (by omega) (by omega) ?_ ?_ v52 v6 (fun g hg => by omega) (fun c j hc => vw c j (by omega) (by omega))⟩
        · rw [voff _ _ (by omega) (by omega), val4, if_neg (by omega), if_neg (by omega), if_pos ⟨rfl, rfl⟩]
        · rw [voff _ _ (by omega) (by omega), val4, if_neg (by omega), if_pos ⟨rfl, rfl⟩]
      · have he : e < dM D := by omega
        have hs := T1.2.1.sides hW he
        obtain ⟨a, b, ha2, hb2, hwa, hwb, hab⟩ := T1.2.1.ways hW he
        have hen := dDual_ends D e
        rw [wt_of (n := 2 * e) (by omega) (by omega), rd_of (n := 2 * e) (by omega) (by omega), vw 20 _ (by omega) (by omega), show w1 20 (2 * e) = _ from hs.1, ← hen.1] at e5
        have f5 : w5 20 (2 * e + 1) = (dE (dDual D) (2 * e + 1) : Int) := by rw [e5, up_ap, if_neg (by omega), vw 20 _ (by omega) (by omega), hen.2]; exact hs.2
        rw [wt_of (n := 2 * e + 1) (by omega) (by omega), rd_of (n := 2 * e + 1) (by omega) (by omega), f5] at e6
        have val6 : ∀ c j, w6 c j = if c = 6 ∧ j = 2 * e + 1 then (dE (dDual D) (2 * e + 1) : Int) else if c = 6 ∧ j = 2 * e then (dE (dDual D) (2 * e) : Int) else v c j := fun c j => by rw [e6, up_ap, e5, up_ap]
        have r1 : rd w6 21 (2 * (e : Int)) = (a : Int) := by rw [rd_of (n := 2 * e) (by omega) (by omega), val6, if_neg (by omega), if_neg (by omega), vw 21 _ (by omega) (by omega)]; exact hwa
        have r2 : rd w6 21 (2 * (e : Int) + 1) = (b : Int) := by rw [rd_of (n := 2 * e + 1) (by omega) (by omega), val6, if_neg (by omega), if_neg (by omega), vw 21 _ (by omega) (by omega)]; exact hwb
        rw [r1, r2, wr_nat (n := a) (by omega), wr_nat (n := b) (by omega), show (e : Int) + 1 = ((e + 1 : Nat) : Int) by omega]
        obtain ⟨t, ht, hB⟩ := v52
        have ht10 : t < 1024 := hB.1
        have h6 : ∀ v' : Wd, (∀ j, v' 6 j = w6 6 j) → ∀ i, i < 2 * (e + 1) → v' 6 i = (dE (dDual D) i : Int) := fun v' hv i hi => by
          rw [hv, val6]
          by_cases q1 : i = 2 * e + 1
          · rw [if_pos ⟨rfl, q1⟩, q1]
          · by_cases q2 : i = 2 * e
            · rw [if_neg (by omega), if_pos ⟨rfl, q2⟩, q2]
            · rw [if_neg (by omega), if_neg (by omega)]; exact v6 i (by omega)
        have t6 : w6 5 2 = (t : Int) := by rw [val6, if_neg (by omega), if_neg (by omega)]; exact ht
        refine ⟨fun z2 => fun w7 e7 => ?_, fun z2 => ?_⟩
        · have hp1 : 2 ^ e < 2 ^ 10 := Nat.pow_lt_pow_right (by decide) (by omega)
          rw [t6, isl1 (by omega), ior_nat (by omega) (by omega)] at e7
          refine ih (e + 1) w7 (by omega) (by omega) ⟨_, by rw [e7, up_eq], (hB.set (by omega)).congr (fun d _ => ?_)⟩ (h6 w7 (fun j => by rw [e7, up_ap, if_neg (by omega)])) (fun c j c1 c2 => by rw [e7, up_ap, if_neg c1, val6, if_neg (by omega), if_neg (by omega)]; exact voff c j c1 c2)
          constructor
          · rintro (y | y)
            · exact ⟨by omega, y.2⟩
            · subst y; exact ⟨by omega, hab.mpr (by omega)⟩
          · rintro ⟨y1, y2⟩
            by_cases q : d = e
            · exact Or.inr q
            · exact Or.inl ⟨by omega, y2⟩
        · refine ih (e + 1) w6 (by omega) (by omega) ⟨t, t6, hB.congr (fun d _ => ?_)⟩ (h6 w6 (fun j => rfl)) (fun c j c1 c2 => by rw [val6, if_neg (by omega), if_neg (by omega)]; exact voff c j c1 c2)
          constructor
          · exact fun y => ⟨by omega, y.2⟩
          · rintro ⟨y1, y2⟩
            refine ⟨?_, y2⟩
            have : d ≠ e := fun q => by
              subst q
              exact z2 (by rw [hab.mp y2])
            omega
  refine ⟨dM D + 1, lines (dM D + 1) 0 w4 (by omega) (by omega) ⟨0, by rw [val4, if_pos ⟨rfl, rfl⟩]; rfl, (Bts.none 10).congr (fun d _ => ⟨False.elim, fun y => by omega⟩)⟩ (fun i hi => by omega) (fun _ _ _ _ => rfl)⟩
theorem dual_X {Q : Int → Wd → Prop} {w : Wd} {S : Sg} (hS : SOK S) (h : HX w S) (hT : TrOK w S) (h0 : ¬ DOK (sD S) → ∀ w', HX w' S → TrOK w' S → offQ w w' → Q (-1) w') (h1 : DOK (sD S) → ∀ w', HX w' (pushS S (dDual (sD S))) → w' 0 17 = 0 → offQ w w' → Q (nFa (sD S) : Int) w') : X10_dual w Q := by
  have hW := hS.1
  have hn := nFa_lt hW
  unfold X10_dual
  refine fresh_ok hS h hT (fun w1 g1 T1 o1 => ?_)
  refine X10_hasDual_ok hS g1 T1 ⟨fun hD => ⟨fun k => absurd k (by decide), fun _ => ?_⟩, fun hD => ⟨fun _ => h0 hD w1 g1 (Or.inr T1) (fun c j hc => o1 c j (by omega) (by omega)), fun k => absurd (by decide) k⟩⟩
  refine X10_buildDual_ok hS g1 T1 hD (fun w3 g3 R3 o3 => ?_)
  refine X10_keepPast_ok hS g3 (fun w4 g4 f4 b4 => ?_)
  have R4 : RepX w4 5 (dDual (sD S)) := RepX.of R3 (fun c j _ _ => b4 c j (by omega))
  refine X1_become_ok (by omega) (dDual_WF hW hD) R4 (fun w5 R5 o5 => ?_)
  rw [R5.1]
  show Q (wr (nFa (sD S) : Int)) w5
  rw [wr_nat (by omega)]
  refine h1 hD w5 (g4.setD R5 o5) (by rw [o5 _ _ (by omega)]; exact f4) (fun c j hc => ?_)
  rw [o5 c j (by omega), b4 c j (by omega), o3 c j (by omega) (by omega), o1 c j (by omega) (by omega)]
