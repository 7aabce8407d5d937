/-! BESIDE -/
theorem X11_laysBesides_ok {Q : Int → Wd → Prop} {w : Wd} {D : Dw} (hW : WF D) (hR : RepM w 73 D) (hQ : ∀ w', (∀ f, f < nFa D → ∃ L : Nat, w' 85 f = (L : Int) ∧ Bts L 16 (BsR D f)) → RepF w' D → (∀ c j, c < 79 ∨ 81 < c ∧ c ≠ 85 → w' c j = w c j) → Q (nFa D : Int) w') : X11_laysBesides w Q := by
  have hm := hW.2.1
  have hn := nFa_lt hW
  unfold X11_laysBesides
  refine X11_traces_ok hW hR (by omega) (fun w1 h1 o1 => ?_)
  have R1 : RepM w1 73 D := RepM.of hR (fun j => o1 73 j (by omega))
  have key : ∀ (m e : Nat) (v : Wd), e ≤ dM D → dM D - e < m → (∀ f, f < nFa D → ∃ L : Nat, v 85 f = (L : Int) ∧ Bts L 16 (BsK D e f)) → (∀ c j, c ≠ 85 → v c j = w1 c j) → X11_laysBesides_l31 Q (X11_laysBesides_b95 Q) m (nFa D : Int) (e : Int) v := by
    intro m
    induction m with
    | zero => intro e v a1 a2; omega
    | succ m ih =>
      intro e v a1 a2 vB voff
      have vR : RepM v 73 D := RepM.of R1 (fun j => voff 73 j (by omega))
      unfold X11_laysBesides_l31
      rw [rd1, vR.2.1, wr_nat (n := dM D) (by omega), wr_nat (n := e) (by omega)]
      refine ⟨ix_of (n := 1) rfl (by decide) (by decide), fun z => ?_, fun z => ⟨ix_of (n := 2 * e) (by omega) (by omega) (by decide), ?_⟩⟩
      · have : e = dM D := by omega
        subst this
        unfold X11_laysBesides_b95
        rw [wr_nat (by omega)]
        refine hQ v vB ⟨fun s hs => by rw [voff _ _ (by omega)]; exact h1.1 s hs, fun l hl hd => by rw [voff _ _ (by omega), voff _ _ (by omega)]; exact h1.2.1 l hl hd, fun j b1 b2 => by rw [voff _ _ (by omega)]; exact h1.2.2 j b1 b2⟩ (fun c j hc => by rw [voff c j (by omega), o1 c j (by omega)])
      · have he : e < dM D := by omega
        have m1 : ms D (2 * e) = 2 * e := by
          have := ms_int (D := D) (2 * e)
          rw [if_neg (by omega)] at this; omega
        have m2 : ms D (2 * dM D + 2 * e) = 2 * e + 20 := by
          have := ms_int (D := D) (2 * dM D + 2 * e)
          rw [if_pos (by omega)] at this; omega
        have s1 := h1.1 (2 * e) (by omega)
        have s2 := h1.1 (2 * dM D + 2 * e) (by omega)
        rw [m1] at s1
        rw [m2] at s2
        have g1 := fo_lt hW (show 2 * e < 4 * dM D by omega)
        have g2 := fo_lt hW (show 2 * dM D + 2 * e < 4 * dM D by omega)
        have g3 : nF D (4 * dM D) ≤ nFa D := by unfold nFa; omega
        obtain ⟨p, hpe⟩ : ∃ a, a = fo D (2 * e) := ⟨_, rfl⟩
        obtain ⟨q, hqe⟩ : ∃ b, b = fo D (2 * dM D + 2 * e) := ⟨_, rfl⟩
        rw [← hpe] at s1 g1
        rw [← hqe] at s2 g2
        have hp : p < 16 := by omega
        have hq : q < 16 := by omega
        intro y4 e4
        rw [rd_of (n := 2 * e) (by omega) (by omega), voff _ _ (by omega), s1] at e4
        subst e4
        refine ⟨ix_of (n := 2 * e + 20) (by omega) (by omega) (by decide), ?_⟩
        intro y5 e5
        rw [rd_of (n := 2 * e + 20) (by omega) (by omega), voff _ _ (by omega), s2] at e5
        subst e5
        obtain ⟨L1, hL1, hB1⟩ := vB p (by omega)
        have b1 : L1 < 2 ^ 16 := hB1.1
        have b2 : 2 ^ q < 2 ^ 16 := Nat.pow_lt_pow_right (by decide) hq
        have b3 : 2 ^ p < 2 ^ 16 := Nat.pow_lt_pow_right (by decide) hp
        refine ⟨ix_of rfl (by omega) (by decide), ix_of rfl (by omega) (by decide), ?_⟩
        intro w2 e2
        rw [wt_of rfl (by omega), rd_of rfl (by omega), hL1, isl1 (by omega), ior_nat (by omega) (by omega)] at e2
        have hw2 : ∃ L2 : Nat, w2 85 q = (L2 : Int) ∧ Bts L2 16 (fun g => BsK D e q g ∨ (q = p ∧ g = q)) := by
          by_cases hqp : q = p
          · refine ⟨L1 ||| 2 ^ q, by rw [e2, hqp, up_eq], (hB1.set hq).congr (fun g _ => ?_)⟩
            rw [hqp]
            simp
          · obtain ⟨L2, hL2, hB2⟩ := vB q (by omega)
            exact ⟨L2, by rw [e2, up_ap, if_neg (by omega)]; exact hL2, hB2.congr (fun g _ => ⟨Or.inl, fun y => y.elim id (fun y => absurd y.1 hqp)⟩)⟩
        obtain ⟨L2, hL2, hB2⟩ := hw2
        have b4 : L2 < 2 ^ 16 := hB2.1
        refine ⟨ix_of rfl (by omega) (by decide), ix_of rfl (by omega) (by decide), ?_⟩
        intro w3 e3
        rw [wt_of rfl (by omega), rd_of rfl (by omega), hL2, isl1 (by omega), ior_nat (by omega) (by omega)] at e3
        rw [show (e : Int) + 1 = ((e + 1 : Nat) : Int) by omega]
        have hst : ∀ f g, BsK D (e + 1) f g ↔ (BsK D e f g ∨ (f = p ∧ g = q) ∨ (f = q ∧ g = p)) := by
          intro f g
          constructor
          · rintro ⟨d, hd, y⟩
            by_cases z2 : d = e
            · subst z2
              rw [← hpe, ← hqe] at y
              omega
            · exact Or.inl ⟨d, by omega, y⟩
          · rintro (⟨d, hd, y⟩ | y)
            · exact ⟨d, by omega, y⟩
            · refine ⟨e, by omega, ?_⟩
              rw [← hpe, ← hqe]
              omega
        refine ih (e + 1) w3 (by omega) (by omega) (fun f hf => ?_) (fun c j hc => ?_)
        · by_cases f1 : f = q
          · refine ⟨L2 ||| 2 ^ p, by rw [e3, f1, up_eq], (hB2.set hp).congr (fun g _ => ?_)⟩
            rw [hst, f1]
            constructor
            · rintro ((y | y) | y)
              · exact Or.inl y
              · exact Or.inr (Or.inl ⟨y.1, y.2⟩)
              · exact Or.inr (Or.inr ⟨rfl, y⟩)
            · rintro (y | y | y)
              · exact Or.inl (Or.inl y)
              · exact Or.inl (Or.inr ⟨y.1, y.2⟩)
              · exact Or.inr y.2
          · by_cases f2 : f = p
            · refine ⟨L1 ||| 2 ^ q, by rw [e3, up_ap, if_neg (by omega), e2, f2, up_eq], (hB1.set hq).congr (fun g _ => ?_)⟩
              rw [hst, f2]
              constructor
              · rintro (y | y)
                · exact Or.inl y
                · exact Or.inr (Or.inl ⟨rfl, y⟩)
              · rintro (y | y | y)
                · exact Or.inl y
                · exact Or.inr y.2
                · exact absurd (f2.trans y.1) f1
            · obtain ⟨L, hL, hB⟩ := vB f hf
              refine ⟨L, by rw [e3, up_ap, if_neg (by omega), e2, up_ap, if_neg (by omega)]; exact hL, hB.congr (fun g _ => ?_)⟩
              rw [hst]
              exact ⟨Or.inl, fun y => y.elim id (fun y => by omega)⟩
        · rw [e3, up_ap, if_neg (by omega), e2, up_ap, if_neg (by omega)]; exact voff c j hc
  have zero : ∀ (m f : Nat) (v : Wd), f ≤ nFa D → nFa D - f < m → (∀ j, j < f → v 85 j = 0) → (∀ c j, c ≠ 85 → v c j = w1 c j) → X11_laysBesides_l11 Q (X11_laysBesides_b29 Q) m (nFa D : Int) (f : Int) v := by
    intro m
    induction m with
    | zero => intro f v a1 a2; omega
    | succ m ih =>
      intro f v a1 a2 vz voff
      unfold X11_laysBesides_l11
      rw [wr_nat (n := nFa D) (by omega), wr_nat (n := f) (by omega)]
      refine ⟨fun z => ?_, fun z => ⟨ix_of rfl (by omega) (by decide), fun w3 e3 => ?_⟩⟩
      · unfold X11_laysBesides_b29
        exact ⟨dM D + 1, key (dM D + 1) 0 v (by omega) (by omega) (fun f hf => ⟨0, by rw [vz f (by omega)]; rfl, (Bts.none 16).congr (fun g _ => ⟨False.elim, fun ⟨d, hd, _⟩ => by omega⟩)⟩) voff⟩
      · rw [wt_of rfl (by omega)] at e3
        rw [show (f : Int) + 1 = ((f + 1 : Nat) : Int) by omega]
        refine ih (f + 1) w3 (by omega) (by omega) (fun j hj => ?_) (fun c j hc => by rw [e3, up_ap, if_neg (by omega)]; exact voff c j hc)
        rw [e3, up_ap]
        by_cases q : j = f
        · rw [if_pos ⟨rfl, q⟩]
        · rw [if_neg (by omega)]; exact vz j (by omega)
  exact ⟨nFa D + 1, zero (nFa D + 1) 0 w1 (by omega) (by omega) (fun j hj => by omega) (fun _ _ _ => rfl)⟩
/-- an answer of beside -/
def BesA (D : Dw) (x r : Int) : Prop := (∃ f L : Nat, x = f ∧ f < nFa D ∧ r = L ∧ Bts L 16 (BsR D f)) ∨ (¬ (∃ f : Nat, x = f ∧ f < nFa D) ∧ r = -1)
theorem BesA.uq {D : Dw} {x r s : Int} (h : BesA D x r) (g : BesA D x s) : r = s := by
  rcases h with ⟨f, L, h1, h2, h3, h4⟩ | ⟨h1, h2⟩ <;> rcases g with ⟨f', L', g1, g2, g3, g4⟩ | ⟨g1, g2⟩
  · have : f = f' := by omega
    subst this
    rw [h3, g3, Bts.uq h4 g4]
  · exact absurd ⟨f, h1, h2⟩ g1
  · exact absurd ⟨f', g1, g2⟩ h1
  · rw [h2, g2]
theorem beside_X {Q : Int → Wd → Prop} {w : Wd} {S : Sg} {x : Int} (hS : SOK S) (h : HX w S) (hT : TrOK w S) (hx : wr x = x) (hQ : ∀ w' r, BesA (sD S) x r → HX w' S → TrOK w' S → offQ w w' → Q r w') : X10_beside x w Q := by
  have hW := hS.1
  have hn := nFa_lt hW
  unfold X10_beside
  refine fresh_ok hS h hT (fun w1 h1 T1 o1 => ?_)
  have q0 := fun r hr => hQ w1 r hr h1 (Or.inr T1) (fun c j hc => o1 c j (by omega) (by omega))
  refine X8_hasFace_ok hW T1 hx (fun f hf hf2 => ⟨fun k => absurd k (by decide), fun _ => ?_⟩) (fun hno => ⟨fun _ => q0 _ (Or.inr ⟨hno, by decide⟩), fun k => absurd (by decide) k⟩)
  subst hf
  obtain ⟨L, hL, hB⟩ := T1.2.2.2.2 f (by omega)
  have hL2 : w1 19 f = (L : Int) := hL
  have b := hB.1
  rw [rd_of rfl (by omega), hL2, wr_nat (by omega)]
  exact ⟨ix_of rfl (by omega) (by decide), q0 _ (Or.inl ⟨f, L, rfl, hf2, rfl, hB⟩)⟩
theorem beside_M {Q : Int → Wd → Prop} {w : Wd} {S : Sg} {x : Int} (hS : SOK S) (h : HM w S) (hx : wr x = x) (hQ : ∀ w' r, BesA (sD S) x r → HM w' S → loM w w' → Q r w') : X11_beside x w Q := by
  have hW := hS.1
  have hn := nFa_lt hW
  have hR : RepM w 73 (sD S) := h.2.2.2.1
  unfold X11_beside
  refine X11_laysBesides_ok hW hR (fun w1 hB _ o1 => ?_)
  have q0 := fun r hr => hQ w1 r hr (HM.same hS h (fun c j hc => o1 c j (by omega))) (fun c j hc => o1 c j (by omega))
  refine X11_in_ok hx (by decide) (wr_id (by omega) (by omega)) (fun z1 z2 => ⟨fun k => absurd k (by decide), fun _ => ?_⟩) (fun hno => ⟨fun _ => q0 _ (Or.inr ⟨fun ⟨f, e, hf⟩ => hno (by omega), by decide⟩), fun k => absurd (by decide) k⟩)
  obtain ⟨f, hf⟩ : ∃ f : Nat, x = f := ⟨x.toNat, by omega⟩
  subst hf
  obtain ⟨L, hL, hB⟩ := hB f (by omega)
  have b := hB.1
  rw [rd_of rfl (by omega), hL, wr_nat (by omega)]
  exact ⟨ix_of rfl (by omega) (by decide), q0 _ (Or.inl ⟨f, L, rfl, by omega, rfl, hB⟩)⟩
