/-! STRAIGHT ones -/
def sg (D : Dw) (a : Nat) : Nat := rot D (dG D (dE D (ox a)) / 2) (ox a)
def Evn (D : Dw) : Prop := ∀ p, p < dN D → dG D p % 2 = 0
theorem sg_DH {D : Dw} (hW : WF D) (hE : Evn D) : DH (2 * dM D) (sg D) ox := by
  have ho : ∀ a, a < 2 * dM D → ox a < 2 * dM D := fun a ha => ox_lt ha
  have hd : ∀ a, a < 2 * dM D → dG D (dE D (ox a)) / 2 + dG D (dE D (ox a)) / 2 = dG D (dE D (ox a)) := fun a ha => by
    have := hE _ (hW.2.2.1 _ (ho a ha))
    omega
  have hr : ∀ a, a < 2 * dM D → sg D a < 2 * dM D ∧ dE D (sg D a) = dE D (ox a) := fun a ha => by
    have := rot_ok hW (ho a ha) (t := dG D (dE D (ox a)) / 2) (Nat.div_le_self _ _)
    exact ⟨this.1, this.2.1⟩
  refine ⟨fun a ha => (hr a ha).1, ho, fun a _ => ox_ox a, fun a ha => ?_, fun a _ => ox_ne a, fun a ha e => ?_⟩
  · have h1 := hr a ha
    unfold sg
    rw [ox_ox]
    show rot D (dG D (dE D (sg D a)) / 2) (sg D a) = ox a
    rw [h1.2]
    exact rot_rot hW (ho a ha) (hd a ha)
  · have h2 := psA_ok hW (ho a ha)
    have h3 := (rot_ok hW (ho a ha) (t := dG D (dE D (ox a)) / 2) (Nat.div_le_self _ _)).2.2
    have h4 : psA D (sg D a) = rnd (psA D (ox a)) (dG D (dE D (ox a)) / 2) (dG D (dE D (ox a))) := h3
    rw [e] at h4
    have h5 := hd a ha
    have := rnd_ne h2.2.1 (t := dG D (dE D (ox a)) / 2) (by omega) (by omega)
    exact this h4.symm
noncomputable def nSt (D : Dw) : Nat := ncl (Cl (sg D) ox) (2 * dM D)
noncomputable def strA (D : Dw) : Int := @ite Int (Evn D) (Classical.propDecidable _) (nSt D : Int) (-2)
theorem nSt_le (D : Dw) : nSt D ≤ 2 * dM D := ncl_le _
theorem X9_straight_ok {Q : Int → Wd → Prop} {w : Wd} {D : Dw} (hW : WF D) (hR : RepX w 1 D) (hQ : ∀ w', (∀ c j, c < 37 ∨ 40 ≤ c → w' c j = w c j) → Q (strA D) w') : X9_straightOnes 37 1 w Q := by
  have m10 := hW.2.1
  have n6 := hW.1
  unfold X9_straightOnes
  intro w1 e1
  rw [hR.2.1] at e1
  have o1 : ∀ c j, ¬ (c = 37 ∧ j = 0) → w1 c j = w c j := fun c j hc => by rw [e1, up_ap, if_neg hc]
  have f1 : w1 37 0 = ((2 * dM D : Nat) : Int) := by rw [e1, up_eq]; omega
  have key : ∀ (m p : Nat) (v : Wd), p ≤ dN D → dN D - p < m → v 37 0 = ((2 * dM D : Nat) : Int) → (∀ q, q < p → dG D q % 2 = 0) → (∀ a, a < 2 * dM D → dE D a < p → v 38 a = (rot D (dG D (dE D a) / 2) a : Int)) → (∀ c j, c < 37 ∨ 40 ≤ c → v c j = w c j) → X9_straightOnes_l12 37 1 Q (X9_straightOnes_b31 37 1 Q) (X9_straightOnes_b54 37 1 Q) m (p : Int) v := by
    intro m
    induction m with
    | zero => intro p v a1 a2; omega
    | succ m ih =>
      intro p v a1 a2 v0 hev vb voff
      have vR : RepX v 1 D := RepX.of hR (fun c j _ _ => voff c j (by omega))
      unfold X9_straightOnes_l12
      rw [vR.1, wr_nat (n := dN D) (by omega), wr_nat (n := p) (by omega)]
      refine ⟨fun z => ?_, fun z => ⟨ix_of rfl (by omega) (by decide), ?_⟩⟩
      · have hE : Evn D := fun q hq => hev q (by omega)
        have hDH := sg_DH hW hE
        unfold X9_straightOnes_b54
        refine X9_countForth_ok (N := 2 * dM D) (B := fun a => rot D (dG D (dE D a) / 2) a) (g := sg D) (by omega) v0 (fun a ha => ox_lt ha) (fun a ha => vb a ha (by have := hW.2.2.1 a ha; omega)) (fun a ha => rfl) hDH.pm ?_
        have hle := nSt_le D
        have h2 : ncl (On (sg D)) (2 * dM D) = 2 * nSt D := hDH.two
        have q0 := hQ v voff
        unfold strA at q0
        rw [if_pos hE] at q0
        rw [h2, show (2 : Int) = ((2 : Nat) : Int) from rfl, idv_nat (by omega) (by decide) (by decide), show 2 * nSt D / 2 = nSt D by omega, wr_nat (by omega)]
        exact q0
      · have hd10 := hW.deg (p := p) (by omega)
        have r1 : rd v 3 (p : Int) = (dG D p : Int) := by rw [rd_of rfl (by omega)]; exact vR.2.2.2.2.1 p (by omega)
        have r2 : rd v (1 + 2) (p : Int) = (dG D p : Int) := r1
        rw [r2]
        have r3 : ian (dG D p : Int) 1 = ((dG D p % 2 : Nat) : Int) := by rw [show (1 : Int) = ((1 : Nat) : Int) from rfl, ian_nat (by omega), Nat.and_one_is_mod]
        rw [r3, wr_nat (by omega)]
        refine ⟨fun z2 => ⟨ix_of rfl (by omega) (by decide), ?_⟩, fun z2 => ?_⟩
        · rw [show (2 : Int) = ((2 : Nat) : Int) from rfl, idv_nat (by omega) (by decide) (by decide)]
          refine X9_link_ok p (dG D p / 2) rfl rfl hW vR (by omega) (by omega) (Nat.div_le_self _ _) (fun w2 g1 g2 go => ?_)
          rw [show (p : Int) + 1 = ((p + 1 : Nat) : Int) by omega]
          refine ih (p + 1) w2 (by omega) (by omega) (by rw [go _ _ (by omega) (by omega)]; exact v0) (fun q hq => ?_) (fun a ha hp => ?_) (fun c j hc => by rw [go c j (by omega) (by omega)]; exact voff c j hc)
          · by_cases k : q = p
            · rw [k]; omega
            · exact hev q (by omega)
          · have g1a : w2 38 a = if dE D a = p then (rot D (dG D p / 2) a : Int) else v 38 a := g1 a ha
            rw [g1a]
            by_cases k : dE D a = p
            · rw [if_pos k, k]
            · rw [if_neg k]; exact vb a ha (by omega)
        · have hE : ¬ Evn D := fun y => z2 (by rw [y p (by omega)]; rfl)
          have q0 := hQ v voff
          unfold strA at q0
          rw [if_neg hE] at q0
          exact q0
  exact ⟨dN D + 1, key (dN D + 1) 0 w1 (by omega) (by omega) f1 (fun q hq => by omega) (fun a ha hp => by omega) (fun c j hc => o1 c j (by omega))⟩
theorem X11_straights_ok {Q : Int → Wd → Prop} {w : Wd} {D : Dw} (hW : WF D) (hR : RepM w 73 D) (hQ : Q (strA D) w) : X11_straights w Q := by
  have m10 := hW.2.1
  have n6 := hW.1
  -- all posts are even
  have walks : Evn D → ∃ m, X11_straights_l42 Q (X11_straights_b193 Q) m 0 0 0 w := by
    intro hE
    have hD := sg_DH hW hE
    have hp := hD.pm
    have ho : EqR (Cl (sg D) ox) (2 * dM D) := hD.eq
    have p2 : ∀ L, L < 2 ^ (2 * dM D) → L < 2147483648 := fun L hL => by
      have : 2 ^ (2 * dM D) ≤ 2 ^ 20 := Nat.pow_le_pow_right (by decide) (by omega)
      omega
    have inner : ∀ (e187 : Int → Int → Int → Wd → Prop) (s : Nat) (F : Int), s < 2 * dM D → ldr (Cl (sg D) ox) s → (∀ L, Bts L (2 * dM D) (fun a => ∃ j, j < s + 1 ∧ Cl (sg D) ox j a) → e187 (L : Int) F (s : Int) w) → ∀ (m i L : Nat), i ≤ per (sg D) (2 * dM D) s → per (sg D) (2 * dM D) s - i < m → Bts L (2 * dM D) (fun a => (∃ j, j < s ∧ Cl (sg D) ox j a) ∨ ∃ k, k < i ∧ (itr (sg D) k s = a ∨ ox (itr (sg D) k s) = a)) → X11_straights_l71 Q e187 m (L : Int) F (s : Int) (itr (sg D) i s : Int) w := by
      intro e187 s F hs hl hK m
      have hper := per_ok hp hs
      induction m with
      | zero => intro i L a1 a2; omega
      | succ m ih =>
        intro i L a1 a2 hL
        have hai := hp.lt i s hs
        obtain ⟨a, hae⟩ : ∃ a, a = itr (sg D) i s := ⟨_, rfl⟩
        have hoa := ox_lt (show a < 2 * dM D by omega)
        unfold X11_straights_l71
        have hbit := hL.2 _ hai
        refine X11_has_ok L _ rfl rfl (by omega) (p2 L hL.1) (fun b => ⟨fun y => absurd y (by decide), fun _ => ?_⟩) (fun b => ⟨fun _ => ?_, fun y => absurd (by decide) y⟩)
        · have hi : i = per (sg D) (2 * dM D) s := by
            rcases Nat.lt_or_ge i (per (sg D) (2 * dM D) s) with q | q
            · exfalso
              rcases hbit.mp b with ⟨j, hj, y⟩ | ⟨k, hk, y | y⟩
              · exact hl j hj (ho.2.2 j _ s (by omega) hai hs y (ho.2.1 s _ hs hai (Or.inl ⟨i, rfl⟩)))
              · have := per_dis hp hs (by omega) q y
                omega
              · exact hD.ne hs y.symm
            · omega
          refine hK L (hL.congr (fun x hx => ?_))
          constructor
          · rintro (⟨j, hj, y⟩ | ⟨k, hk, y⟩)
            · exact ⟨j, by omega, y⟩
            · exact ⟨s, by omega, (hD.cl hs).mpr ⟨k, by omega, y⟩⟩
          · rintro ⟨j, hj, y⟩
            by_cases z : j = s
            · subst z
              obtain ⟨k, hk, y2⟩ := (hD.cl hs).mp y
              exact Or.inr ⟨k, by omega, y2⟩
            · exact Or.inl ⟨j, by omega, y⟩
        · have hi : i < per (sg D) (2 * dM D) s := by
            rcases Nat.lt_or_ge i (per (sg D) (2 * dM D) s) with q | q
            · exact q
            · have : i = per (sg D) (2 * dM D) s := by omega
              have := hbit.mpr (Or.inr ⟨0, by omega, Or.inl (by rw [this, hper.2.2.1]; rfl)⟩)
              rw [this] at b; exact absurd b (by decide)
          rw [← hae] at hai hbit ⊢
          obtain ⟨p, hpe⟩ : ∃ p, p = dE D (ox a) := ⟨_, rfl⟩
          have hps := psA_ok hW hoa
          rw [← hpe] at hps
          have hdeg := hW.deg (p := p) hps.1
          obtain ⟨o, hoe⟩ : ∃ o, o = psA D (ox a) := ⟨_, rfl⟩
          rw [← hoe] at hps
          have hpos : pos (dR D p) (a / 2) (dG D p) = o := by rw [hoe]; unfold psA; rw [ox_half, ← hpe]
          rw [ox_half] at hps
          have hfst := pos_ok (dG D p) (dR D p) (a / 2) o hps.2.1 hps.2.2
          rw [hpos] at hfst
          have hEp : w 73 (2 + ox a) = (p : Int) := by rw [hR.2.2.1 _ hoa, hpe]
          have hGp : w 73 (32 + p) = (dG D p : Int) := hR.2.2.2.2.1 p hps.1
          have hRow : ∀ j, j < dG D p → w 73 (38 + 10 * p + j) = (dR D p j : Int) ∧ dR D p j < 100 := fun j hj => ⟨hR.2.2.2.2.2 p j hps.1 hj, by have := (hW.2.2.2.2.1 p j hps.1 hj).1; omega⟩
          have hsg : sg D a = armA D p (rnd o (dG D p / 2) (dG D p)) := by unfold sg rot; rw [← hpe, ← hoe]
          intro y5 e5
          have hp1 : 2 ^ a < 2 ^ (2 * dM D) := Nat.pow_lt_pow_right (by decide) hai
          have hp2 : 2 ^ ox a < 2 ^ (2 * dM D) := Nat.pow_lt_pow_right (by decide) hoa
          rw [ixo1 (by omega), isl1 (by omega), isl1 (by omega), ior_nat (p2 _ hp1) (p2 _ hp2), ior_nat (p2 _ hL.1) (p2 _ (Nat.or_lt_two_pow hp1 hp2))] at e5
          subst e5
          rw [ixo1 (by omega)]
          refine ⟨ix_of (n := 2 + ox a) (by omega) (by omega) (by decide), fun y6 e6 => ?_⟩
          rw [rd_of (n := 2 + ox a) (by omega) (by omega), hEp] at e6
          subst e6
          refine ⟨ix_of (n := 32 + p) (by omega) (by omega) (by decide), fun y7 e7 => ?_⟩
          rw [rd_of (n := 32 + p) (by omega) (by omega), hGp] at e7
          subst e7
          rw [show (2 : Int) = ((2 : Nat) : Int) from rfl, idv_nat (by omega) (by decide) (by decide), idv_nat (by omega) (by decide) (by decide)]
          refine X11_placeIn_ok p (dG D p) (dR D p) o (a / 2) rfl rfl (by omega) (by omega) hRow (by omega) hps.2.1 hps.2.2 hfst.2.2 ?_
          have htd : dG D p / 2 ≤ dG D p := Nat.div_le_self _ _
          have hrl := rnd_lt hps.2.1 htd
          have hrow := hRow _ hrl
          have harm := armA_ok hW hps.1 hrl
          rw [wr_nat (n := dG D p) (by omega), show (o : Int) + ((dG D p / 2 : Nat) : Int) = ((o + dG D p / 2 : Nat) : Int) by omega, irm_nat (by omega) (by omega) (by omega), rnd_mod hps.2.1 htd]
          refine ⟨by omega, ix_of (n := 38 + 10 * p + rnd o (dG D p / 2) (dG D p)) (by omega) (by omega) (by decide), fun y10 e10 => ?_⟩
          rw [rd_of (n := 38 + 10 * p + rnd o (dG D p / 2) (dG D p)) (by omega) (by omega), hrow.1] at e10
          subst e10
          obtain ⟨f, hfe⟩ : ∃ f, f = dR D p (rnd o (dG D p / 2) (dG D p)) := ⟨_, rfl⟩
          have hfM : f < dM D := by rw [hfe]; exact (hW.2.2.2.2.1 p _ hps.1 hrl).1
          have hEf : w 73 (2 + 2 * f) = (dE D (2 * f) : Int) := hR.2.2.1 _ (by omega)
          have hef := hW.2.2.1 (2 * f) (by omega)
          have harmE : sg D a = 2 * f + (if dE D (2 * f) = p then 0 else 1) := by rw [hsg]; unfold armA; rw [← hfe]
          have nxt := ih (i + 1) (L ||| (2 ^ a ||| 2 ^ ox a)) (by omega) (by omega) ((hL.set2 hai hoa).congr (fun x hx => by
            rw [hae]
            constructor
            · rintro ((y | ⟨k, hk, y⟩) | y | y)
              · exact Or.inl y
              · exact Or.inr ⟨k, by omega, y⟩
              · exact Or.inr ⟨i, by omega, Or.inl y.symm⟩
              · exact Or.inr ⟨i, by omega, Or.inr y.symm⟩
            · rintro (y | ⟨k, hk, y⟩)
              · exact Or.inl (Or.inl y)
              · by_cases q2 : k = i
                · subst q2
                  rcases y with y2 | y2
                  · exact Or.inr (Or.inl y2.symm)
                  · exact Or.inr (Or.inr y2.symm)
                · exact Or.inl (Or.inr ⟨k, by omega, y⟩)))
          rw [itr_succ (sg D) i s, ← hae, harmE] at nxt
          rw [← hfe, rd_of (n := 2 + 2 * f) (by omega) (by omega), hEf, wr_nat (n := dE D (2 * f)) (by omega), wr_nat (n := p) (by omega)]
          refine ⟨ix_of (n := 2 + 2 * f) (by omega) (by omega) (by decide), fun z y12 e12 => ?_, fun z y11 e11 => ?_⟩
          · rw [if_pos (show dE D (2 * f) = p by omega)] at nxt
            rw [e12, show ((2 : Nat) : Int) * (f : Int) + 0 = ((2 * f + 0 : Nat) : Int) by omega]; exact nxt
          · rw [if_neg (show ¬ dE D (2 * f) = p by omega)] at nxt
            rw [e11, show ((2 : Nat) : Int) * (f : Int) + 1 = ((2 * f + 1 : Nat) : Int) by omega]; exact nxt
    have outer : ∀ (m s L : Nat), s ≤ 2 * dM D → 2 * dM D - s < m → Bts L (2 * dM D) (fun a => ∃ j, j < s ∧ Cl (sg D) ox j a) → X11_straights_l42 Q (X11_straights_b193 Q) m (L : Int) (ncl (Cl (sg D) ox) s : Int) (s : Int) w := by
      intro m
      induction m with
      | zero => intro s L a1 a2; omega
      | succ m ih =>
        intro s L a1 a2 hL
        have hle := ncl_le (R := Cl (sg D) ox) s
        unfold X11_straights_l42
        rw [rd1, hR.2.1, wr_id (x := 2 * (dM D : Int)) (by omega) (by omega), wr_nat (n := s) (by omega)]
        refine ⟨ix_of (n := 1) rfl (by decide) (by decide), fun z => ?_, fun z => ?_⟩
        · have : s = 2 * dM D := by omega
          subst this
          unfold X11_straights_b193
          unfold strA at hQ
          rw [if_pos hE] at hQ
          rw [wr_nat (by omega)]; exact hQ
        · have hs : s < 2 * dM D := by omega
          have hbit := hL.2 s hs
          have k1 : s + 1 ≤ 2 * dM D := by omega
          have k2 : 2 * dM D - (s + 1) < m := by omega
          refine X11_has_ok L s rfl rfl (by omega) (p2 L hL.1) (fun b => ⟨fun y => absurd y (by decide), fun _ => ?_⟩) (fun b => ⟨fun _ => ?_, fun y => absurd (by decide) y⟩)
          · have hnl : ¬ ldr (Cl (sg D) ox) s := fun y => by
              obtain ⟨j, hj, y2⟩ := hbit.mp b
              exact y j hj y2
            unfold X11_straights_b187
            rw [show (s : Int) + 1 = ((s + 1 : Nat) : Int) by omega, ← ncl_no hnl]
            refine ih (s + 1) L k1 k2 (hL.congr (fun x hx => ?_))
            constructor
            · rintro ⟨j, hj, y⟩; exact ⟨j, by omega, y⟩
            · intro y
              by_cases q : ∃ j, j < s ∧ Cl (sg D) ox j x
              · exact q
              · obtain ⟨j, hj, y2⟩ := y
                exact absurd y2 ((ldr_next ho hs hnl x hx).mp (fun i hi y3 => q ⟨i, hi, y3⟩) j hj)
          · have hld : ldr (Cl (sg D) ox) s := fun j hj y => by
              rw [hbit.mpr ⟨j, hj, y⟩] at b; exact absurd b (by decide)
            refine ⟨per (sg D) (2 * dM D) s + 1, inner _ s _ hs hld (fun L' hL' => ?_) (per (sg D) (2 * dM D) s + 1) 0 L (by omega) (by omega) (hL.congr (fun x hx => ⟨Or.inl, fun y => y.elim id (fun ⟨k, hk, _⟩ => by omega)⟩))⟩
            unfold X11_straights_b187
            rw [show (s : Int) + 1 = ((s + 1 : Nat) : Int) by omega, show (ncl (Cl (sg D) ox) s : Int) + 1 = ((ncl (Cl (sg D) ox) (s + 1) : Nat) : Int) by rw [ncl_ld hld]; omega]
            exact ih (s + 1) L' k1 k2 hL'
    exact ⟨2 * dM D + 1, outer (2 * dM D + 1) 0 0 (by omega) (by omega) ((Bts.none _).congr (fun x _ => ⟨False.elim, fun ⟨j, hj, _⟩ => by omega⟩))⟩
  have posts : ∀ (m p : Nat), p ≤ dN D → dN D - p < m → (∀ q, q < p → dG D q % 2 = 0) → X11_straights_l2 Q (X11_straights_b27 Q) (X11_straights_b36 Q) m (p : Int) w := by
    intro m
    induction m with
    | zero => intro p a1 a2; omega
    | succ m ih =>
      intro p a1 a2 hev
      unfold X11_straights_l2
      rw [rd0, hR.1, wr_nat (n := dN D) (by omega), wr_nat (n := p) (by omega)]
      refine ⟨ix_of (n := 0) rfl (by decide) (by decide), fun z => walks (fun q hq => hev q (by omega)), fun z => ⟨ix_of (n := 32 + p) (by omega) (by omega) (by decide), ?_⟩⟩
      have hd10 := hW.deg (p := p) (by omega)
      have hg : w 73 (32 + p) = (dG D p : Int) := hR.2.2.2.2.1 p (by omega)
      rw [rd_of (n := 32 + p) (by omega) (by omega), hg, show (2 : Int) = ((2 : Nat) : Int) from rfl, irm_nat (by omega) (by decide) (by decide), wr_nat (by omega), show wr 1 = 1 by decide]
      refine ⟨fun z2 => ?_, fun z2 => ?_⟩
      · have hE : ¬ Evn D := fun y => by have := y p (by omega); omega
        unfold strA at hQ
        rw [if_neg hE] at hQ
        exact hQ
      · rw [show (p : Int) + 1 = ((p + 1 : Nat) : Int) by omega]
        refine ih (p + 1) (by omega) (by omega) (fun q hq => ?_)
        by_cases k : q = p
        · rw [k]; omega
        · exact hev q (by omega)
  exact ⟨dN D + 1, posts (dN D + 1) 0 (by omega) (by omega) (fun q hq => by omega)⟩
