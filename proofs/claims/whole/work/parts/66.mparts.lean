/-! PARTS at the model -/
def Lab (w : Wd) (D : Dw) (k : Nat) (lb : Nat → Nat) : Prop := (∀ p, p < dN D → w 82 p = (lb p : Int) ∧ lb p < 6) ∧ ∀ p q, p < dN D → q < dN D → (lb p = lb q ↔ Con D k p q)
theorem lab_merge {D : Dw} {k : Nat} {lb : Nat → Nat} (h1 : dE D (2 * k) < dN D) (h2 : dE D (2 * k + 1) < dN D) (h : ∀ p q, p < dN D → q < dN D → (lb p = lb q ↔ Con D k p q)) (hne : lb (dE D (2 * k)) ≠ lb (dE D (2 * k + 1))) : ∀ p q, p < dN D → q < dN D → ((if lb p = lb (dE D (2 * k)) then lb (dE D (2 * k + 1)) else lb p) = (if lb q = lb (dE D (2 * k)) then lb (dE D (2 * k + 1)) else lb q) ↔ Con D (k + 1) p q) := by
  intro p q hp hq
  obtain ⟨a, ha⟩ : ∃ a, a = dE D (2 * k) := ⟨_, rfl⟩
  obtain ⟨b, hb⟩ : ∃ b, b = dE D (2 * k + 1) := ⟨_, rfl⟩
  have hC : Con D (k + 1) p q ↔ (lb p = lb q ∨ (lb p = lb a ∧ lb b = lb q) ∨ (lb p = lb b ∧ lb a = lb q)) := by
    rw [← ha] at h1
    rw [← hb] at h2
    rw [h p q hp hq, h p a hp h1, h b q h2 hq, h p b hp h2, h a q h1 hq]
    show (Con D k p q ∨ (Con D k p (dE D (2 * k)) ∧ Con D k (dE D (2 * k + 1)) q) ∨ (Con D k p (dE D (2 * k + 1)) ∧ Con D k (dE D (2 * k)) q)) ↔ _
    rw [← ha, ← hb]
  rw [hC, ← ha, ← hb]
  rw [← ha, ← hb] at hne
  by_cases q1 : lb p = lb a <;> by_cases q2 : lb q = lb a
  · rw [if_pos q1, if_pos q2]
    exact ⟨fun _ => Or.inl (q1.trans q2.symm), fun _ => rfl⟩
  · rw [if_pos q1, if_neg q2]
    constructor
    · intro y; exact Or.inr (Or.inl ⟨q1, y⟩)
    · rintro (y | y | y)
      · exact absurd (y.symm.trans q1) q2
      · exact y.2
      · exact absurd y.2.symm q2
  · rw [if_neg q1, if_pos q2]
    constructor
    · intro y; exact Or.inr (Or.inr ⟨y, q2.symm⟩)
    · rintro (y | y | y)
      · exact absurd (y.trans q2) q1
      · exact absurd y.1 q1
      · exact y.1
  · rw [if_neg q1, if_neg q2]
    constructor
    · intro y; exact Or.inl y
    · rintro (y | y | y)
      · exact y
      · exact absurd y.1 q1
      · exact absurd y.2.symm q2
theorem X11_partsOf_ok {r : Nat} {Q : Int → Wd → Prop} {w : Wd} {D : Dw} (hW : WF D) (hR : RepM w r D) (hr : r ≠ 82) (hQ : ∀ w', (∀ c j, c ≠ 82 → w' c j = w c j) → Q (nPt D (dM D) : Int) w') : X11_partsOf r w Q := by
  have n6 := hW.1
  have m10 := hW.2.1
  have rel : ∀ (e116 : Int → Int → Wd → Prop) (x2 x3 : Int) (a b : Nat) (lb : Nat → Nat), a < 6 → b < 6 → (∀ p, p < dN D → lb p < 6) → ∀ (m i : Nat) (v : Wd), i ≤ dN D → dN D - i < m → (∀ c j, c ≠ 82 → v c j = w c j) → (∀ p, p < dN D → v 82 p = ((if p < i ∧ lb p = a then b else lb p : Nat) : Int)) → (∀ w', (∀ c j, c ≠ 82 → w' c j = w c j) → (∀ p, p < dN D → w' 82 p = ((if lb p = a then b else lb p : Nat) : Int)) → e116 x2 x3 w') → X11_partsOf_l81 r Q e116 m x2 x3 (a : Int) (b : Int) (i : Int) v := by
    intro e116 x2 x3 a b lb ha hb hlb m
    induction m with
    | zero => intro i v a1 a2; omega
    | succ m ih =>
      intro i v a1 a2 voff vl hK
      have vR : RepM v r D := RepM.of hR (fun j => voff r j hr)
      unfold X11_partsOf_l81
      rw [rd0, vR.1, wr_nat (n := dN D) (by omega), wr_nat (n := i) (by omega), wr_nat (n := a) (by omega), show (i : Int) + 1 = ((i + 1 : Nat) : Int) by omega]
      refine ⟨ix_of (n := 0) rfl (by decide) (by decide), fun z => ?_, fun z => ⟨ix_of rfl (by omega) (by decide), ?_⟩⟩
      · refine hK v voff (fun p hp => ?_)
        rw [vl p hp]
        by_cases q : lb p = a
        · rw [if_pos ⟨by omega, q⟩, if_pos q]
        · rw [if_neg (fun y => q y.2), if_neg q]
      · have hl := vl i (by omega)
        rw [if_neg (by omega)] at hl
        have hl6 := hlb i (by omega)
        rw [rd_of rfl (by omega), hl, wr_nat (n := lb i) (by omega)]
        refine ⟨fun z2 => ⟨ix_of rfl (by omega) (by decide), fun w5 e5 => ?_⟩, fun z2 => ?_⟩
        · rw [wt_of rfl (by omega)] at e5
          refine ih (i + 1) w5 (by omega) (by omega) (fun c j hc => by rw [e5, up_ap, if_neg (by omega)]; exact voff c j hc) (fun p hp => ?_) hK
          rw [e5, up_ap]
          by_cases q : p = i
          · rw [if_pos ⟨rfl, q⟩, if_pos ⟨by omega, by rw [q]; omega⟩]
          · rw [if_neg (by omega), vl p hp]
            by_cases q2 : p < i ∧ lb p = a
            · rw [if_pos q2, if_pos (by omega)]
            · rw [if_neg q2, if_neg (by omega)]
        · refine ih (i + 1) v (by omega) (by omega) voff (fun p hp => ?_) hK
          rw [vl p hp]
          by_cases q2 : p < i ∧ lb p = a
          · rw [if_pos q2, if_pos (by omega)]
          · rw [if_neg q2, if_neg (fun y => by
              have : p = i := by omega
              subst this
              exact z2 (by omega))]
  have lines : ∀ (m e : Nat) (v : Wd), e ≤ dM D → dM D - e < m → (∀ c j, c ≠ 82 → v c j = w c j) → (∃ lb, Lab v D e lb) → X11_partsOf_l28 r Q (X11_partsOf_b122 r Q) m (nPt D e : Int) (e : Int) v := by
    intro m
    induction m with
    | zero => intro e v a1 a2; omega
    | succ m ih =>
      intro e v a1 a2 voff ⟨lb, hlb1, hlb2⟩
      have vR : RepM v r D := RepM.of hR (fun j => voff r j hr)
      have hn := nPt_le D e
      unfold X11_partsOf_l28
      rw [rd1, vR.2.1, wr_nat (n := dM D) (by omega), wr_nat (n := e) (by omega)]
      refine ⟨ix_of (n := 1) rfl (by decide) (by decide), fun z => ?_, fun z => ⟨ix_of (n := 2 + 2 * e) (by omega) (by omega) (by decide), ?_⟩⟩
      · have : e = dM D := by omega
        subst this
        unfold X11_partsOf_b122
        rw [wr_nat (by omega)]; exact hQ v voff
      · have b1 := hW.2.2.1 (2 * e) (by omega)
        have b2 := hW.2.2.1 (2 * e + 1) (by omega)
        have e1 : rd v r (2 + 2 * (e : Int)) = (dE D (2 * e) : Int) := by rw [rd_of (n := 2 + 2 * e) (by omega) (by omega)]; exact vR.2.2.1 _ (by omega)
        have e2 : rd v r (2 + 2 * (e : Int) + 1) = (dE D (2 * e + 1) : Int) := by rw [rd_of (n := 2 + (2 * e + 1)) (by omega) (by omega)]; exact vR.2.2.1 _ (by omega)
        have l1 := hlb1 _ b1
        have l2 := hlb1 _ b2
        rw [e1, e2]
        refine ⟨ix_of rfl (by omega) (by decide), fun y3 e3 => ⟨ix_of (n := 2 + 2 * e + 1) (by omega) (by omega) (by decide), ix_of rfl (by omega) (by decide), fun y4 e4 => ?_⟩⟩
        rw [rd_of rfl (by omega), l1.1] at e3
        rw [rd_of rfl (by omega), l2.1] at e4
        subst e3 e4
        rw [wr_nat (n := lb (dE D (2 * e))) (by omega), wr_nat (n := lb (dE D (2 * e + 1))) (by omega)]
        refine ⟨fun z2 => ?_, fun z2 => ⟨dN D + 1, ?_⟩⟩
        · have hc := (hlb2 _ _ b1 b2).mp (by omega)
          have hs := nPt_same hc
          unfold X11_partsOf_b116
          rw [show (e : Int) + 1 = ((e + 1 : Nat) : Int) by omega, ← hs.1]
          exact ih (e + 1) v (by omega) (by omega) voff ⟨lb, hlb1, fun p q hp hq => by rw [hs.2]; exact hlb2 p q hp hq⟩
        · have hne : lb (dE D (2 * e)) ≠ lb (dE D (2 * e + 1)) := by omega
          have hnc : ¬ Con D e (dE D (2 * e)) (dE D (2 * e + 1)) := fun y => hne ((hlb2 _ _ b1 b2).mpr y)
          have hl := nPt_less b1 b2 hnc
          refine rel _ _ _ _ _ lb l1.2 l2.2 (fun p hp => (hlb1 p hp).2) (dN D + 1) 0 v (by omega) (by omega) voff (fun p hp => by rw [if_neg (by omega)]; exact (hlb1 p hp).1) (fun w' o' l' => ?_)
          unfold X11_partsOf_b116
          rw [show (e : Int) + 1 = ((e + 1 : Nat) : Int) by omega, show (nPt D e : Int) + (-1) = ((nPt D (e + 1) : Nat) : Int) by omega]
          refine ih (e + 1) w' (by omega) (by omega) o' ⟨fun p => if lb p = lb (dE D (2 * e)) then lb (dE D (2 * e + 1)) else lb p, fun p hp => ⟨l' p hp, ?_⟩, lab_merge b1 b2 hlb2 hne⟩
          show (if lb p = _ then _ else lb p) < 6
          split
          · exact l2.2
          · exact (hlb1 p hp).2
  have init : ∀ (m i : Nat) (v : Wd), i ≤ dN D → dN D - i < m → (∀ c j, c ≠ 82 → v c j = w c j) → (∀ p, p < i → v 82 p = (p : Int)) → X11_partsOf_l6 r Q (X11_partsOf_b26 r Q) m (dN D : Int) (i : Int) v := by
    intro m
    induction m with
    | zero => intro i v a1 a2; omega
    | succ m ih =>
      intro i v a1 a2 voff vl
      have vR : RepM v r D := RepM.of hR (fun j => voff r j hr)
      unfold X11_partsOf_l6
      rw [rd0, vR.1, wr_nat (n := dN D) (by omega), wr_nat (n := i) (by omega)]
      refine ⟨ix_of (n := 0) rfl (by decide) (by decide), fun z => ?_, fun z => ⟨ix_of rfl (by omega) (by decide), fun w2 e2 => ?_⟩⟩
      · unfold X11_partsOf_b26
        rw [← nPt_zero D]
        exact ⟨dM D + 1, lines (dM D + 1) 0 v (by omega) (by omega) voff ⟨fun p => p, fun p hp => ⟨vl p (by omega), by show p < 6; omega⟩, fun p q _ _ => Iff.rfl⟩⟩
      · rw [wt_of rfl (by omega)] at e2
        rw [show (i : Int) + 1 = ((i + 1 : Nat) : Int) by omega]
        refine ih (i + 1) w2 (by omega) (by omega) (fun c j hc => by rw [e2, up_ap, if_neg (by omega)]; exact voff c j hc) (fun p hp => ?_)
        rw [e2, up_ap]
        by_cases q : p = i
        · rw [if_pos ⟨rfl, q⟩, q]
        · rw [if_neg (by omega)]; exact vl p (by omega)
  unfold X11_partsOf
  refine ⟨ix_of (n := 0) rfl (by decide) (by decide), fun y1 e1 => ?_⟩
  rw [rd0, hR.1] at e1
  subst e1
  exact ⟨dN D + 1, init (dN D + 1) 0 w (by omega) (by omega) (fun _ _ _ => rfl) (fun p hp => by omega)⟩
theorem X11_forest_ok {Q : Int → Wd → Prop} {w : Wd} {D : Dw} (hW : WF D) (hR : RepM w 73 D) (hQ : ∀ (w' : Wd) (L : Nat), Bts L 10 (fun e => e < dM D ∧ ¬ Loose D e) → (∀ c j, c ≠ 82 → w' c j = w c j) → Q (L : Int) w') : X11_forest w Q := by
  have n6 := hW.1
  have m10 := hW.2.1
  have rel : ∀ (e129 : Int → Int → Wd → Prop) (x1 x2 : Int) (a b : Nat) (lb : Nat → Nat), a < 6 → b < 6 → (∀ p, p < dN D → lb p < 6) → ∀ (m i : Nat) (v : Wd), i ≤ dN D → dN D - i < m → (∀ c j, c ≠ 82 → v c j = w c j) → (∀ p, p < dN D → v 82 p = ((if p < i ∧ lb p = a then b else lb p : Nat) : Int)) → (∀ w', (∀ c j, c ≠ 82 → w' c j = w c j) → (∀ p, p < dN D → w' 82 p = ((if lb p = a then b else lb p : Nat) : Int)) → e129 x1 x2 w') → X11_forest_l92 Q e129 m x1 x2 (a : Int) (b : Int) (i : Int) v := by
    intro e116 x2 x3 a b lb ha hb hlb m
    induction m with
    | zero => intro i v a1 a2; omega
    | succ m ih =>
      intro i v a1 a2 voff vl hK
      have vR : RepM v 73 D := RepM.of hR (fun j => voff 73 j (by omega))
      unfold X11_forest_l92
      rw [rd0, vR.1, wr_nat (n := dN D) (by omega), wr_nat (n := i) (by omega), wr_nat (n := a) (by omega), show (i : Int) + 1 = ((i + 1 : Nat) : Int) by omega]
      refine ⟨ix_of (n := 0) rfl (by decide) (by decide), fun z => ?_, fun z => ⟨ix_of rfl (by omega) (by decide), ?_⟩⟩
      · refine hK v voff (fun p hp => ?_)
        rw [vl p hp]
        by_cases q : lb p = a
        · rw [if_pos ⟨by omega, q⟩, if_pos q]
        · rw [if_neg (fun y => q y.2), if_neg q]
      · have hl := vl i (by omega)
        rw [if_neg (by omega)] at hl
        have hl6 := hlb i (by omega)
        rw [rd_of rfl (by omega), hl, wr_nat (n := lb i) (by omega)]
        refine ⟨fun z2 => ⟨ix_of rfl (by omega) (by decide), fun w5 e5 => ?_⟩, fun z2 => ?_⟩
        · rw [wt_of rfl (by omega)] at e5
          refine ih (i + 1) w5 (by omega) (by omega) (fun c j hc => by rw [e5, up_ap, if_neg (by omega)]; exact voff c j hc) (fun p hp => ?_) hK
          rw [e5, up_ap]
          by_cases q : p = i
          · rw [if_pos ⟨rfl, q⟩, if_pos ⟨by omega, by rw [q]; omega⟩]
          · rw [if_neg (by omega), vl p hp]
            by_cases q2 : p < i ∧ lb p = a
            · rw [if_pos q2, if_pos (by omega)]
            · rw [if_neg q2, if_neg (by omega)]
        · refine ih (i + 1) v (by omega) (by omega) voff (fun p hp => ?_) hK
          rw [vl p hp]
          by_cases q2 : p < i ∧ lb p = a
          · rw [if_pos q2, if_pos (by omega)]
          · rw [if_neg q2, if_neg (fun y => by
              have : p = i := by omega
              subst this
              exact z2 (by omega))]
  have lines : ∀ (m e L : Nat) (v : Wd), e ≤ dM D → dM D - e < m → (∀ c j, c ≠ 82 → v c j = w c j) → (∃ lb, Lab v D e lb) → Bts L 10 (fun d => d < e ∧ ¬ Loose D d) → X11_forest_l29 Q (X11_forest_b135 Q) m (L : Int) (e : Int) v := by
    intro m
    induction m with
    | zero => intro e L v a1 a2; omega
    | succ m ih =>
      intro e L v a1 a2 voff ⟨lb, hlb1, hlb2⟩ hB
      have vR : RepM v 73 D := RepM.of hR (fun j => voff 73 j (by omega))
      have hL : L < 1024 := hB.1
      unfold X11_forest_l29
      rw [rd1, vR.2.1, wr_nat (n := dM D) (by omega), wr_nat (n := e) (by omega)]
      refine ⟨ix_of (n := 1) rfl (by decide) (by decide), fun z => ?_, fun z => ⟨ix_of (n := 2 + 2 * e) (by omega) (by omega) (by decide), ?_⟩⟩
      · have : e = dM D := by omega
        subst this
        unfold X11_forest_b135
        rw [wr_nat (by omega)]; exact hQ v L hB voff
      · have b1 := hW.2.2.1 (2 * e) (by omega)
        have b2 := hW.2.2.1 (2 * e + 1) (by omega)
        have e1 : rd v 73 (2 + 2 * (e : Int)) = (dE D (2 * e) : Int) := by rw [rd_of (n := 2 + 2 * e) (by omega) (by omega)]; exact vR.2.2.1 _ (by omega)
        have e2 : rd v 73 (2 + 2 * (e : Int) + 1) = (dE D (2 * e + 1) : Int) := by rw [rd_of (n := 2 + (2 * e + 1)) (by omega) (by omega)]; exact vR.2.2.1 _ (by omega)
        have l1 := hlb1 _ b1
        have l2 := hlb1 _ b2
        rw [e1, e2]
        refine ⟨ix_of rfl (by omega) (by decide), fun y3 e3 => ⟨ix_of (n := 2 + 2 * e + 1) (by omega) (by omega) (by decide), ix_of rfl (by omega) (by decide), fun y4 e4 => ?_⟩⟩
        rw [rd_of rfl (by omega), l1.1] at e3
        rw [rd_of rfl (by omega), l2.1] at e4
        subst e3 e4
        rw [wr_nat (n := lb (dE D (2 * e))) (by omega), wr_nat (n := lb (dE D (2 * e + 1))) (by omega)]
        refine ⟨fun z2 => ?_, fun z2 => ?_⟩
        · have hc := (hlb2 _ _ b1 b2).mp (by omega)
          have hs := nPt_same hc
          unfold X11_forest_b129
          rw [show (e : Int) + 1 = ((e + 1 : Nat) : Int) by omega]
          refine ih (e + 1) L v (by omega) (by omega) voff ⟨lb, hlb1, fun p q hp hq => by rw [hs.2]; exact hlb2 p q hp hq⟩ (hB.congr (fun d _ => ?_))
          constructor
          · exact fun y => ⟨by omega, y.2⟩
          · rintro ⟨y1, y2⟩
            refine ⟨?_, y2⟩
            have : d ≠ e := fun q => by
              subst q
              exact y2 hc
            omega
        · have hne : lb (dE D (2 * e)) ≠ lb (dE D (2 * e + 1)) := by omega
          have hnc : ¬ Con D e (dE D (2 * e)) (dE D (2 * e + 1)) := fun y => hne ((hlb2 _ _ b1 b2).mpr y)
          intro y5 e5
          have hp1 : 2 ^ e < 2 ^ 10 := Nat.pow_lt_pow_right (by decide) (by omega)
          rw [isl1 (by omega), ior_nat (by omega) (by omega)] at e5
          subst e5
          refine ⟨dN D + 1, rel _ _ _ _ _ lb l1.2 l2.2 (fun p hp => (hlb1 p hp).2) (dN D + 1) 0 v (by omega) (by omega) voff (fun p hp => by rw [if_neg (by omega)]; exact (hlb1 p hp).1) (fun w' o' l' => ?_)⟩
          unfold X11_forest_b129
          rw [show (e : Int) + 1 = ((e + 1 : Nat) : Int) by omega]
          refine ih (e + 1) _ w' (by omega) (by omega) o' ⟨fun p => if lb p = lb (dE D (2 * e)) then lb (dE D (2 * e + 1)) else lb p, fun p hp => ⟨l' p hp, ?_⟩, lab_merge b1 b2 hlb2 hne⟩ ((hB.set (by omega)).congr (fun d _ => ?_))
          · show (if lb p = _ then _ else lb p) < 6
            split
            · exact l2.2
            · exact (hlb1 p hp).2
          · constructor
            · rintro (y | y)
              · exact ⟨by omega, y.2⟩
              · subst y; exact ⟨by omega, hnc⟩
            · rintro ⟨y1, y2⟩
              by_cases q : d = e
              · exact Or.inr q
              · exact Or.inl ⟨by omega, y2⟩
  have init : ∀ (m i : Nat) (v : Wd), i ≤ dN D → dN D - i < m → (∀ c j, c ≠ 82 → v c j = w c j) → (∀ p, p < i → v 82 p = (p : Int)) → X11_forest_l4 Q (X11_forest_b27 Q) m 0 (i : Int) v := by
    intro m
    induction m with
    | zero => intro i v a1 a2; omega
    | succ m ih =>
      intro i v a1 a2 voff vl
      have vR : RepM v 73 D := RepM.of hR (fun j => voff 73 j (by omega))
      unfold X11_forest_l4
      rw [rd0, vR.1, wr_nat (n := dN D) (by omega), wr_nat (n := i) (by omega)]
      refine ⟨ix_of (n := 0) rfl (by decide) (by decide), fun z => ?_, fun z => ⟨ix_of rfl (by omega) (by decide), fun w2 e2 => ?_⟩⟩
      · unfold X11_forest_b27
        exact ⟨dM D + 1, lines (dM D + 1) 0 0 v (by omega) (by omega) voff ⟨fun p => p, fun p hp => ⟨vl p (by omega), by show p < 6; omega⟩, fun p q _ _ => Iff.rfl⟩ ((Bts.none 10).congr (fun d _ => ⟨False.elim, fun y => by omega⟩))⟩
      · rw [wt_of rfl (by omega)] at e2
        rw [show (i : Int) + 1 = ((i + 1 : Nat) : Int) by omega]
        refine ih (i + 1) w2 (by omega) (by omega) (fun c j hc => by rw [e2, up_ap, if_neg (by omega)]; exact voff c j hc) (fun p hp => ?_)
        rw [e2, up_ap]
        by_cases q : p = i
        · rw [if_pos ⟨rfl, q⟩, q]
        · rw [if_neg (by omega)]; exact vl p (by omega)
  exact ⟨dN D + 1, init (dN D + 1) 0 w (by omega) (by omega) (fun _ _ _ => rfl) (fun p hp => by omega)⟩
