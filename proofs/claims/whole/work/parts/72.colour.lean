/-! COLOURS -/
def Good (D : Dw) (k n : Nat) (c : Nat → Nat) : Prop := ∀ f, f < n → c f < k ∧ ∀ g, g < f → BsR D f g → c g ≠ c f
def Ext (D : Dw) (k n j : Nat) (p : Nat → Nat) : Prop := ∃ c, Good D k n c ∧ ∀ f, f < j → c f = p f
theorem ext_swap {D : Dw} {k n j u : Nat} {p : Nat → Nat} (hp : ∀ f, f < j → p f < u) (hj : j < n) (h : Ext D k n j p) : ∃ c, Good D k n c ∧ (∀ f, f < j → c f = p f) ∧ c j ≤ u := by
  obtain ⟨c, hc, he⟩ := h
  rcases Nat.lt_or_ge u (c j) with q | q
  · have hx := (hc j hj).1
    refine ⟨fun f => if c f = c j then u else if c f = u then c j else c f, fun f hf => ⟨?_, fun g hg hb => ?_⟩, fun f hf => ?_, ?_⟩
    · have := (hc f hf).1
      dsimp only
      split
      · omega
      · split <;> omega
    · have := (hc f hf).2 g hg hb
      dsimp only
      split <;> split <;> (try split) <;> (try split) <;> omega
    · have h1 := he f hf
      have h2 := hp f hf
      dsimp only
      rw [if_neg (by omega), if_neg (by omega)]; exact h1
    · dsimp only
      rw [if_pos rfl]; exact Nat.le_refl _
  · exact ⟨c, hc, he, q⟩
theorem X0_isFree_ok {Q : Int → Wd → Prop} {w : Wd} {D : Dw} {x y : Int} (f c : Nat) (p : Nat → Nat) (hx : x = (f : Int)) (hy : y = (c : Int)) (hW : WF D) (hT : RepT w 17 D) (hf : f < nFa D) (hc : c < 100) (hp : ∀ g, g < f → w 60 g = (p g : Int) ∧ p g < 100) (h1 : (∀ g, g < f → BsR D f g → p g ≠ c) → Q 1 w) (h0 : ¬ (∀ g, g < f → BsR D f g → p g ≠ c) → Q 0 w) : X0_isFree 17 60 x y w Q := by
  subst hx hy
  have hn := nFa_lt hW
  obtain ⟨L, hL, hB⟩ := hT.2.2.2.2 f (by omega)
  have hL2 : w 19 f = (L : Int) := hL
  have key : ∀ (m g : Nat), g ≤ f → f - g < m → (∀ i, i < g → BsR D f i → p i ≠ c) → X0_isFree_l3 17 60 Q (X0_isFree_b31 17 60 Q) (X0_isFree_b39 17 60 Q) m (f : Int) (c : Int) (g : Int) w := by
    intro m
    induction m with
    | zero => intro g a1 a2; omega
    | succ m ih =>
      intro g a1 a2 hok
      unfold X0_isFree_l3
      rw [wr_nat (n := f) (by omega), wr_nat (n := g) (by omega), wr_nat (n := c) (by omega), show (g : Int) + 1 = ((g + 1 : Nat) : Int) by omega]
      refine ⟨fun z => ?_, fun z => ⟨ix_of rfl (by omega) (by decide), ?_⟩⟩
      · have : g = f := by omega
        subst this
        exact h1 hok
      · have hpg := hp g (by omega)
        have r1 : rd w 60 (g : Int) = (p g : Int) := by rw [rd_of rfl (by omega)]; exact hpg.1
        have r2 : rd w (17 + 2) (f : Int) = (L : Int) := by rw [rd_of rfl (by omega)]; exact hL2
        rw [r1, r2, wr_nat (n := p g) (by omega)]
        refine ⟨fun z2 => ⟨ix_of rfl (by omega) (by decide), ?_⟩, fun z2 => ih (g + 1) (by omega) (by omega) (fun i hi hb => ?_)⟩
        · rcases hB.bit (by omega) (show g < 16 by omega) (g : Int) rfl with ⟨b, e⟩ | ⟨b, e⟩
          · rw [e]
            exact ⟨fun y => absurd y (by decide), fun _ => h0 (fun y => y g (by omega) b (by omega))⟩
          · rw [e]
            refine ⟨fun _ => ih (g + 1) (by omega) (by omega) (fun i hi hb => ?_), fun y => absurd rfl y⟩
            by_cases q : i = g
            · rw [q] at hb; exact absurd hb b
            · exact hok i (by omega) hb
        · by_cases q : i = g
          · rw [q]; omega
          · exact hok i (by omega) hb
  exact ⟨f + 1, key (f + 1) 0 (by omega) (by omega) (fun i hi => by omega)⟩
theorem X0_paint_ok {D : Dw} (hW : WF D) {k : Nat} (hk : k ≤ 16) : ∀ (d j u : Nat) (p : Nat → Nat) (w : Wd) (Q : Int → Wd → Prop), j ≤ nFa D → nFa D - j < d → u ≤ k → RepT w 17 D → (∀ f, f < j → w 60 f = (p f : Int) ∧ p f < u) → Good D k j p → (∀ w', (∀ c i, c ≠ 60 → w' c i = w c i) → (∀ f, f < j → w' 60 f = w 60 f) → (Ext D k (nFa D) j p → Q 1 w') ∧ (¬ Ext D k (nFa D) j p → Q 0 w')) → X0_paint 17 60 d (j : Int) (u : Int) (k : Int) w Q := by
  have hn := nFa_lt hW
  intro d
  induction d with
  | zero => intro j u p w Q a1 a2; omega
  | succ d ihd =>
    intro j u p w Q a1 a2 hu hT hp hg hQ
    unfold X0_paint
    rw [hT.1, wr_nat (n := nFa D) (by omega), wr_nat (n := j) (by omega), show wr 16 = 16 by decide]
    refine ⟨fun z => ?_, fun z => ⟨fun z2 => ?_, fun z2 => by omega⟩⟩
    · have : j = nFa D := by omega
      subst this
      exact (hQ w (fun _ _ _ => rfl) (fun _ _ => rfl)).1 ⟨p, hg, fun _ _ => rfl⟩
    · have hj : j < nFa D := by omega
      have key : ∀ (m x : Nat) (v : Wd), x ≤ k + 1 → x ≤ u + 1 → k + 1 - x < m → (∀ c i, c ≠ 60 → v c i = w c i) → (∀ f, f < j → v 60 f = w 60 f) → (∀ y, y < x → ¬ ∃ c, Good D k (nFa D) c ∧ (∀ f, f < j → c f = p f) ∧ c j = y) → X0_paint_l19 17 60 Q (X0_paint 17 60 d) (X0_paint_b69 17 60 Q (X0_paint 17 60 d)) (X0_paint_b77 17 60 Q (X0_paint 17 60 d)) m (j : Int) (u : Int) (k : Int) (x : Int) v := by
        intro m
        induction m with
        | zero => intro x v b1 b1' b2; omega
        | succ m ih =>
          intro x v b1 b1' b2 voff vp hno
          have vT : RepT v 17 D := RepT.of hT (fun c i _ _ => voff c i (by omega))
          have hq := hQ v voff vp
          unfold X0_paint_l19
          rw [wr_nat (n := u) (by omega), wr_nat (n := x) (by omega), wr_nat (n := k) (by omega), show (x : Int) + 1 = ((x + 1 : Nat) : Int) by omega]
          refine ⟨fun z3 => hq.2 (fun he => ?_), fun z3 => ⟨fun z4 => hq.2 (fun he => ?_), fun z4 => ?_⟩⟩
          · obtain ⟨c, c1, c2, c3⟩ := ext_swap (fun f hf => (hp f hf).2) hj he
            exact hno (c j) (by omega) ⟨c, c1, c2, rfl⟩
          · obtain ⟨c, c1, c2⟩ := he
            exact hno (c j) (by have := (c1 j hj).1; omega) ⟨c, c1, c2, rfl⟩
          · refine X0_isFree_ok j x p rfl rfl hW vT hj (by omega) (fun g hg => ⟨by rw [vp g hg]; exact (hp g hg).1, by have := (hp g hg).2; omega⟩) (fun hfree => ⟨fun y => absurd y (by decide), fun _ => ⟨ix_of rfl (by omega) (by decide), fun w3 e3 => ?_⟩⟩) (fun hfree => ⟨fun _ => ?_, fun y => absurd (by decide) y⟩)
            · rw [wt_of rfl (by omega)] at e3
              have o3 : ∀ c i, ¬ (c = 60 ∧ i = j) → w3 c i = v c i := fun c i hc => by rw [e3, up_ap, if_neg hc]
              rw [imx_nat (by omega) (by omega), show (j : Int) + 1 = ((j + 1 : Nat) : Int) by omega]
              obtain ⟨p', hpe⟩ : ∃ p' : Nat → Nat, p' = fun f => if f = j then x else p f := ⟨_, rfl⟩
              have hpj : p' j = x := by rw [hpe]; exact if_pos rfl
              have hpn : ∀ f, f ≠ j → p' f = p f := fun f hf => by rw [hpe]; exact if_neg hf
              refine ihd (j + 1) (max u (x + 1)) p' w3 _ (by omega) (by omega) (by omega) (RepT.of vT (fun c i _ _ => o3 c i (by omega))) (fun f hf => ?_) (fun f hf => ?_) (fun w' w'off w'p => ?_)
              · by_cases q : f = j
                · rw [q, hpj, e3, up_eq]; exact ⟨rfl, by omega⟩
                · rw [hpn f q, o3 _ _ (by omega), vp f (by omega)]
                  exact ⟨(hp f (by omega)).1, by have := (hp f (by omega)).2; omega⟩
              · by_cases q : f = j
                · subst q
                  rw [hpj]
                  refine ⟨by omega, fun g hg hb => ?_⟩
                  rw [hpn g (by omega)]
                  exact hfree g hg hb
                · rw [hpn f q]
                  refine ⟨(hg f (by omega)).1, fun g hgf hb => ?_⟩
                  rw [hpn g (by omega)]
                  exact (hg f (by omega)).2 g hgf hb
              · have w'off2 : ∀ c i, c ≠ 60 → w' c i = w c i := fun c i hc => by rw [w'off c i hc, o3 c i (by omega), voff c i hc]
                have w'p2 : ∀ f, f < j → w' 60 f = w 60 f := fun f hf => by rw [w'p f (by omega), o3 _ _ (by omega), vp f hf]
                refine ⟨fun he => ⟨fun y => absurd y (by decide), fun _ => ?_⟩, fun he => ⟨fun _ => ?_, fun y => absurd (by decide) y⟩⟩
                · refine (hQ w' w'off2 w'p2).1 ?_
                  obtain ⟨c, c1, c2⟩ := he
                  exact ⟨c, c1, fun f hf => by rw [c2 f (by omega), hpn f (by omega)]⟩
                · refine ih (x + 1) w' (by omega) (by omega) (by omega) w'off2 w'p2 (fun y hy => ?_)
                  by_cases q : y = x
                  · rintro ⟨c, c1, c2, c3⟩
                    refine he ⟨c, c1, fun f hf => ?_⟩
                    by_cases q2 : f = j
                    · rw [q2, hpj, c3, q]
                    · rw [hpn f q2]; exact c2 f (by omega)
                  · exact hno y (by omega)
            · refine ih (x + 1) v (by omega) (by omega) (by omega) voff vp (fun y hy => ?_)
              by_cases q : y = x
              · rintro ⟨c, c1, c2, c3⟩
                refine hfree (fun g hg hb => ?_)
                rw [← c2 g hg, ← q, ← c3]
                exact (c1 j hj).2 g hg hb
              · exact hno y (by omega)
      exact ⟨k + 2, key (k + 2) 0 w (by omega) (by omega) (by omega) (fun _ _ _ => rfl) (fun _ _ => rfl) (fun y hy => by omega)⟩
/-- an answer of colours -/
def ColA (D : Dw) (r : Int) : Prop := ((∃ e, OneS D e) ∧ r = -2) ∨ ((∀ e, ¬ OneS D e) ∧ ∃ k : Nat, r = k ∧ (∃ c, Good D k (nFa D) c) ∧ ∀ j, j < k → ¬ ∃ c, Good D j (nFa D) c)
theorem ColA.uq {D : Dw} {r s : Int} (h : ColA D r) (g : ColA D s) : r = s := by
  rcases h with ⟨h1, h2⟩ | ⟨h1, k, h2, h3, h4⟩ <;> rcases g with ⟨g1, g2⟩ | ⟨g1, l, g2, g3, g4⟩
  · rw [h2, g2]
  · obtain ⟨e, he⟩ := h1; exact absurd he (g1 e)
  · obtain ⟨e, he⟩ := g1; exact absurd he (h1 e)
  · rw [h2, g2]
    congr 1
    rcases Nat.lt_trichotomy k l with q | q | q
    · exact absurd h3 (g4 k q)
    · exact q
    · exact absurd g3 (h4 l q)
theorem BsR_self {D : Dw} {f : Nat} (h : BsR D f f) : ∃ e, OneS D e := by
  obtain ⟨e, he, y⟩ := h
  exact ⟨e, he, by omega⟩
theorem good_all {D : Dw} (n : Nat) : Good D n n (fun f => f) := fun f hf => ⟨hf, fun g hg _ => by dsimp only; omega⟩
theorem Bts10_zero {L : Nat} {P : Nat → Prop} (hB : Bts L 10 P) : L = 0 ↔ ∀ i, i < 10 → ¬ P i := by
  constructor
  · intro h i hi y
    have := (hB.2 i hi).mpr y
    rw [h] at this
    simp at this
  · intro h
    apply Nat.eq_of_testBit_eq
    intro i
    rw [Nat.zero_testBit]
    by_cases hi : i < 10
    · cases q : L.testBit i
      · rfl
      · exact absurd ((hB.2 i hi).mp q) (h i hi)
    · exact Nat.testBit_lt_two_pow (Nat.lt_of_lt_of_le hB.1 (Nat.pow_le_pow_right (by decide) (by omega)))
theorem colours_X {Q : Int → Wd → Prop} {w : Wd} {S : Sg} (hS : SOK S) (h : HX w S) (hT : TrOK w S) (hQ : ∀ w' r, ColA (sD S) r → HX w' S → TrOK w' S → offQ w w' → Q r w') : X10_colours w Q := by
  have hW := hS.1
  have hn := nFa_lt hW
  have m10 := hW.2.1
  unfold X10_colours
  refine fresh_ok hS h hT (fun w1 h1 T1 o1 => ?_)
  have R1 : RepX w1 1 (sD S) := h1.2.2.2.1
  have q1 : ∀ w' r, (∀ c j, c ≠ 60 → w' c j = w1 c j) → ColA (sD S) r → Q r w' := fun w' r ho hr => hQ w' r hr (HX.same hS h1 (fun c j _ hc => ho c j (by omega))) (Or.inr (RepT.of T1 (fun c j _ _ => ho c j (by omega)))) (fun c j hc => by rw [ho c j (by omega), o1 c j (by omega) (by omega)])
  refine X8_oneSided_ok hW T1 R1.2.1 (fun L hB => ?_)
  have hL : L < 1024 := hB.1
  have hz := Bts10_zero hB
  rw [wr_nat (by omega)]
  refine ⟨fun z => ?_, fun z => q1 w1 _ (fun _ _ _ => rfl) (Or.inl ⟨?_, by decide⟩)⟩
  · have hno : ∀ e, ¬ OneS (sD S) e := fun e y => hz.mp (by omega) e (by have := y.1; omega) y
    have key : ∀ (m k : Nat) (v : Wd), k ≤ nFa (sD S) → nFa (sD S) - k < m → (∀ c j, c ≠ 60 → v c j = w1 c j) → (∀ j, j < k → ¬ ∃ c, Good (sD S) j (nFa (sD S)) c) → X0_fewest_l2 17 (fun y5 w4 => Q (wr y5) w4) (X0_fewest_b24 17 (fun y5 w4 => Q (wr y5) w4)) (X0_fewest_b32 17 (fun y5 w4 => Q (wr y5) w4)) m (k : Int) v := by
      intro m
      induction m with
      | zero => intro k v a1 a2; omega
      | succ m ih =>
        intro k v a1 a2 voff hlow
        have vT : RepT v 17 (sD S) := RepT.of T1 (fun c j _ _ => voff c j (by omega))
        unfold X0_fewest_l2
        rw [vT.1, wr_nat (n := nFa (sD S)) (by omega), wr_nat (n := k) (by omega)]
        refine ⟨fun z2 => ?_, fun z2 => ?_⟩
        · unfold X0_fewest_b32
          rw [vT.1, wr_nat (n := nFa (sD S)) (by omega)]
          dsimp only
          rw [wr_nat (n := nFa (sD S)) (by omega)]
          have : k = nFa (sD S) := by omega
          subst this
          exact q1 v _ voff (Or.inr ⟨hno, _, rfl, ⟨_, good_all _⟩, hlow⟩)
        · refine X0_paint_ok hW (k := k) (by omega) 17 0 0 (fun _ => 0) v _ (by omega) (by omega) (by omega) vT (fun f hf => by omega) (fun f hf => by omega) (fun w' ho _ => ⟨fun he => ⟨fun y => absurd y (by decide), fun _ => ?_⟩, fun he => ⟨fun _ => ?_, fun y => absurd (by decide) y⟩⟩)
          · unfold X0_fewest_b24
            rw [wr_nat (n := k) (by omega)]
            dsimp only
            rw [wr_nat (n := k) (by omega)]
            obtain ⟨c, c1, _⟩ := he
            exact q1 w' _ (fun c j hc => by rw [ho c j hc, voff c j hc]) (Or.inr ⟨hno, k, rfl, ⟨c, c1⟩, hlow⟩)
          · rw [show (k : Int) + 1 = ((k + 1 : Nat) : Int) by omega]
            refine ih (k + 1) w' (by omega) (by omega) (fun c j hc => by rw [ho c j hc, voff c j hc]) (fun j hj => ?_)
            by_cases q : j = k
            · rw [q]; rintro ⟨c, c1⟩; exact he ⟨c, c1, fun f hf => by omega⟩
            · exact hlow j (by omega)
    exact ⟨nFa (sD S) + 1, key (nFa (sD S) + 1) 0 w1 (by omega) (by omega) (fun _ _ _ => rfl) (fun j hj => by omega)⟩
  · by_cases q : ∃ e, OneS (sD S) e
    · exact q
    · exact absurd (by rw [hz.mpr (fun i _ y => q ⟨i, y⟩)]; rfl) z
