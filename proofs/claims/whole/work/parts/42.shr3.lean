noncomputable def dShr1 (D : Dw) (e : Nat) : Dw := cpD (clD (mvK D (dE D (2 * e)) (dE D (2 * e + 1)) (pos (dR D (dE D (2 * e))) e (dG D (dE D (2 * e)))) (pos (dR D (dE D (2 * e + 1))) e (dG D (dE D (2 * e + 1)))) (dG D (dE D (2 * e + 1)) - 1)) e) (dE D (2 * e + 1))
noncomputable def dShr (D : Dw) (e : Nat) : Dw := dShr1 (if dT D e then dFlip D (dE D (2 * e + 1)) else D) e
theorem offX_trans {k : Nat} {a b c : Wd} (h : offX k a b) (g : offX k b c) : offX k a c := fun x j hx => by rw [g x j hx, h x j hx]
theorem offM_trans {k : Nat} {a b c : Wd} (h : offM k a b) (g : offM k b c) : offM k a c := fun x j hx => by rw [g x j hx, h x j hx]
theorem clD_Bd {D : Dw} {e : Nat} (h : Bd D) : Bd (clD D e) := by
  obtain ⟨n6, m10, hg, hr, hen⟩ := h
  refine ⟨n6, by show dM D - 1 ≤ 10; omega, hg, fun p i hp hi => ?_, fun i hi => ?_⟩
  · have := hr p i hp hi
    show low e (dR D p i) < 100
    unfold low; split <;> omega
  · have hi : i < 2 * (dM D - 1) := hi
    show (if i < 2 * e then dE D i else dE D (i + 2)) < 100
    split
    · exact hen i (by omega)
    · exact hen (i + 2) (by omega)
theorem X1_contract_b33_ok {K : Nat} {Q : Wd → Prop} {w : Wd} {D : Dw} {x1 x2 x3 : Int} {e a b c o : Nat} (S : Shk D e a b c o) (h1 : x1 = (e : Int)) (h2 : x2 = (a : Int)) (h3 : x3 = (b : Int)) (hR : RepX w K D) (hQ : ∀ w', RepX w' K (cpD (clD (mvK D a b c o (dG D b - 1)) e) b) → offX K w w' → Q w') : X1_contract_b33 K Q x1 x2 x3 w := by
  subst h1 h2 h3
  have hlen := shk_len S
  obtain ⟨hW, he, hL, ha, hb, hc, hce, hcf, ho, hoe, hof, hab, han, hbn⟩ := id S
  obtain ⟨n6, m10, hen, hne, hrow, hinj, hsur⟩ := id hW
  have hda := hW.deg han
  have hdb := hW.deg hbn
  have hBD : Bd D := ⟨n6, m10, fun p hp => by have := hW.deg hp; omega, fun p i hp hi => by have := (hrow p i hp hi).1; omega, fun i hi => by have := hen i hi; omega⟩
  have key : ∀ (m k : Nat) (v : Wd), k < dG D b → dG D b - k < m → RepX v K (mvK D a b c o k) → offX K w v → X1_contract_l60 K Q (X1_contract_b137 K Q) m (e : Int) (a : Int) (b : Int) (c : Int) (o : Int) (dG D b : Int) ((k + 1 : Nat) : Int) v := by
    intro m
    induction m with
    | zero => intro k v g1 g2; omega
    | succ m ih =>
      intro k v g1 g2 hv voff
      have hBk := (mvK_Bd S g1).1
      obtain ⟨v0, v1, v2, v3, v4, v5⟩ := id hv
      unfold X1_contract_l60
      rw [wr_nat (n := dG D b) (by omega), wr_nat (n := k + 1) (by omega), wr_id (x := (o : Int) + ((k + 1 : Nat) : Int)) (by omega) (by omega)]
      refine ⟨fun q => ?_, fun q => ?_⟩
      · have hk : k = dG D b - 1 := by omega
        unfold X1_contract_b137
        refine X1_closeLine_rep e rfl hBk he hv (fun w1 hw1 off1 => X1_closePost_rep b rfl (clD_Bd hBk) hbn hw1 (fun w2 hw2 off2 => hQ w2 ?_ (offX_trans voff (offX_trans off1 off2))))
        rw [← hk]; exact hw2
      · have hk : k + 1 < dG D b := by omega
        obtain ⟨s1, s2, s3⟩ := mvE_step S hk
        obtain ⟨l, hl⟩ : ∃ l, l = dR D b (rnd o (k + 1) (dG D b)) := ⟨_, rfl⟩
        rw [← hl] at s1 s2 s3
        have fin : X1_contract_b93 K Q (X1_contract_l60 K Q (X1_contract_b137 K Q) m) (X1_contract_b137 K Q) (e : Int) (a : Int) (b : Int) (c : Int) (o : Int) (dG D b : Int) ((k + 1 : Nat) : Int) ((rnd o (k + 1) (dG D b) : Nat) : Int) v := by
          obtain ⟨i, hi⟩ : ∃ i, i = rnd o (k + 1) (dG D b) := ⟨_, rfl⟩
          have hil : i < dG D b := by rw [hi]; exact rnd_lt ho (by omega)
          rw [← hi] at hl ⊢
          have hvi : v (K + 3) (10 * b + i) = (l : Int) := by
            have hgb : i < dG (mvK D a b c o k) b := by
              show i < if b = a then dG D b - 1 + k else dG D b
              rw [if_neg (Ne.symm hab)]; exact hil
            have := v5 b i hbn hgb
            rw [this, hl]
            show ((if b = a then rowC (dR D a) (dR D b) c o (dG D b) k i else dR D b i : Nat) : Int) = _
            rw [if_neg (Ne.symm hab)]
          have hE2 : v (K + 1) (2 * l) = (dE D (2 * l) : Int) := by
            have := v3 (2 * l) (by show 2 * l < 2 * dM D; omega)
            rw [this]
            exact congrArg _ s1
          have hel := hen (2 * l) (by omega)
          unfold X1_contract_b93 X1_armAt X1_lineAt
          dsimp only
          rw [rd_of (n := 10 * b + i) (by omega) (by omega), hvi, wr_nat (n := l) (by omega)]
          refine ⟨ix_of (n := 10 * b + i) (by omega) (by omega) (by decide), ix_of (n := 10 * b + i) (by omega) (by omega) (by decide), ?_⟩
          intro y3 e3
          subst e3
          rw [rd_of (n := 2 * l) (by omega) (by omega), hE2, wr_nat (n := dE D (2 * l)) (by omega), wr_nat (n := b) (by omega)]
          have fin2 : ∀ arm : Nat, arm = 2 * l + (if dE D (2 * l) = b then 0 else 1) → ix (arm : Int) 20 ∧ ∀ w14, w14 = wt v (K + 1) (arm : Int) (a : Int) → X1_insertAt K (a : Int) ((c : Int) + ((k + 1 : Nat) : Int) - 1) (l : Int) w14 (fun w15 => X1_contract_l60 K Q (X1_contract_b137 K Q) m (e : Int) (a : Int) (b : Int) (c : Int) (o : Int) (dG D b : Int) (((k + 1 : Nat) : Int) + 1) w15) := by
            intro arm harm
            have harml : arm < 2 * dM D := by rw [harm]; split <;> omega
            refine ⟨ix_of rfl (by omega) (by decide), ?_⟩
            intro w14 e14
            rw [wt_of (n := arm) rfl (by omega)] at e14
            have hs := repX_setE (i := arm) (x := a) hv
            rw [← e14] at hs
            have hBs : Bd (setE (mvK D a b c o k) arm a) := ⟨hBk.1, hBk.2.1, hBk.2.2.1, hBk.2.2.2.1, fun i hi => by
              show (if i = arm then a else mvE D a b o k i) < 100
              split
              · omega
              · exact hBk.2.2.2.2 i hi⟩
            have hga : dG (setE (mvK D a b c o k) arm a) a = dG D a - 1 + k := if_pos rfl
            have hins := repX_ins (p := a) (c := c + k) (x := l) hBs han (by rw [hga]; omega) (by rw [hga]; omega) hs.1
            refine X1_insertAt_ok a (c + k) (dG D a - 1 + k) (l : Int) rfl (by omega) (by omega) (by omega) (by omega) (by rw [← hga]; exact hs.1.2.2.2.2.1 a han) ?_
            rw [hga] at hins
            rw [show ((k + 1 : Nat) : Int) + 1 = ((k + 1 + 1 : Nat) : Int) by omega]
            refine ih (k + 1) _ hk (by omega) (RepX.congr hins.1 rfl rfl (fun j hj => ?_) (fun _ _ => rfl) (fun p hp => ?_) (fun p j hp hj => ?_)) (offX_trans voff (offX_trans hs.2 hins.2))
            · show (if j = arm then a else mvE D a b o k j) = mvE D a b o (k + 1) j
              rw [harm]; exact s2 j
            · show (if p = a then (if p = a then dG D p - 1 + k else dG D p) + 1 else if p = a then dG D p - 1 + k else dG D p) = if p = a then dG D p - 1 + (k + 1) else dG D p
              by_cases z : p = a
              · rw [if_pos z, if_pos z, if_pos z]; omega
              · rw [if_neg z, if_neg z, if_neg z]
            · show (if p = a then insR (fun j => if p = a then rowC (dR D a) (dR D b) c o (dG D b) k j else dR D p j) (c + k) l j else if p = a then rowC (dR D a) (dR D b) c o (dG D b) k j else dR D p j) = if p = a then rowC (dR D a) (dR D b) c o (dG D b) (k + 1) j else dR D p j
              by_cases z : p = a
              · simp only [if_pos z]
                unfold insR rowC
                dsimp only
                by_cases y1 : j < c
                · rw [if_pos (by omega), if_pos y1, if_pos y1]
                · by_cases y2 : j < c + k
                  · rw [if_pos y2, if_neg y1, if_pos y2, if_neg y1, if_pos (by omega)]
                  · by_cases y3 : j = c + k
                    · rw [if_neg y2, if_pos y3, if_neg y1, if_pos (by omega), hl, hi, show 1 + (j - c) = k + 1 by omega]
                    · rw [if_neg y2, if_neg y3, if_neg (by omega), if_neg (by omega), if_neg y1, if_neg (by omega)]
                      congr 1
                      omega
              · simp only [if_neg z]
          refine ⟨ix_of (n := 2 * l) (by omega) (by omega) (by decide), fun z => ?_, fun z => ?_⟩
          · rw [wr_id (x := 2 * (l : Int)) (by omega) (by omega), show 2 * (l : Int) = ((2 * l : Nat) : Int) by omega]
            exact fin2 (2 * l) (by rw [if_pos (by omega)]; rfl)
          · rw [wr_id (x := 2 * (l : Int) + 1) (by omega) (by omega), show 2 * (l : Int) + 1 = ((2 * l + 1 : Nat) : Int) by omega]
            exact fin2 (2 * l + 1) (by rw [if_neg (by omega)])
        refine ⟨fun z => ?_, fun z => ?_⟩
        · rw [show (o : Int) + ((k + 1 : Nat) : Int) - (dG D b : Int) = ((rnd o (k + 1) (dG D b) : Nat) : Int) by unfold rnd; rw [if_neg (by omega)]; omega]
          exact fin
        · rw [show (o : Int) + ((k + 1 : Nat) : Int) = ((rnd o (k + 1) (dG D b) : Nat) : Int) by unfold rnd; rw [if_pos (by omega)]; omega]
          exact fin
  obtain ⟨r0, r1, r2, r3, r4, r5⟩ := id hR
  unfold X1_contract_b33
  refine X1_takeOut_ok a (dG D a) (dR D a) c e rfl rfl (by omega) (by omega) (r4 a han) (fun j hj => ⟨r5 a j han hj, by have := (hrow a j han hj).1; omega⟩) (by omega) hc hce hcf ?_
  have hdl := repX_del (p := a) (c := c) hBD han hc hR
  obtain ⟨u0, u1, u2, u3, u4, u5⟩ := id hdl.1
  have ub : delW w (K + 2) a (K + 3) (10 * a) c (dG D a) (K + 2) b = dG D b := by
    rw [u4 b hbn]
    show ((if b = a then dG D b - 1 else dG D b : Nat) : Int) = _
    rw [if_neg (Ne.symm hab)]
  refine X1_placeOf_ok b (dG D b) (dR D b) o e rfl rfl (by omega) (by omega) ub (fun j hj => ⟨?_, by have := (hrow b j hbn hj).1; omega⟩) (by omega) ho hoe hof ?_
  · have hgb : j < dG (delD D a c) b := by
      show j < if b = a then dG D b - 1 else dG D b
      rw [if_neg (Ne.symm hab)]; exact hj
    rw [u5 b j hbn hgb]
    show ((if b = a then delR (dR D b) c j else dR D b j : Nat) : Int) = _
    rw [if_neg (Ne.symm hab)]
  · refine ⟨ix_of rfl (by omega) (by decide), ?_⟩
    intro y9 e9
    rw [rd_of (n := b) rfl (by omega), ub] at e9
    subst e9
    refine ⟨dG D b + 1, key (dG D b + 1) 0 _ (by omega) (by omega) (RepX.congr hdl.1 rfl rfl (fun j hj => ?_) (fun _ _ => rfl) (fun p hp => ?_) (fun p j hp hj => ?_)) hdl.2⟩
    · show dE D j = mvE D a b o 0 j
      exact mvE_zero.symm
    · show (if p = a then dG D p - 1 else dG D p) = if p = a then dG D p - 1 + 0 else dG D p
      rfl
    · show (if p = a then delR (dR D p) c j else dR D p j) = if p = a then rowC (dR D a) (dR D b) c o (dG D b) 0 j else dR D p j
      by_cases z : p = a
      · subst z
        rw [if_pos rfl, if_pos rfl]
        unfold delR rowC
        by_cases y1 : j < c
        · rw [if_pos y1, if_pos y1]
        · rw [if_neg y1, if_neg y1, if_neg (by omega)]; rfl
      · rw [if_neg z, if_neg z]
theorem flip_lone {D : Dw} {e p : Nat} (h : Lone D e) : Lone (dFlip D p) e := h
theorem X1_contract_ok {K : Nat} {Q : Wd → Prop} {w : Wd} {D : Dw} {x1 : Int} (e : Nat) (h1 : x1 = (e : Int)) (hW : WF D) (he : e < dM D) (hL : Lone D e) (hR : RepX w K D) (hQ : ∀ w', RepX w' K (dShr D e) → offX K w w' → Q w') : X1_contract K x1 w Q := by
  subst h1
  obtain ⟨n6, m10, hen, hne, hrow, hinj, hsur⟩ := id hW
  obtain ⟨r0, r1, ⟨t, rt, ht, htb⟩, r3, r4, r5⟩ := id hR
  unfold X1_contract
  refine ⟨ix_of (n := 2 * e) (by omega) (by omega) (by decide), ?_⟩
  intro y1 e1
  rw [rd_of (n := 2 * e) (by omega) (by omega), r3 _ (by omega)] at e1
  refine ⟨ix_of (n := 2 * e + 1) (by omega) (by omega) (by decide), ?_⟩
  intro y2 e2
  rw [rd_of (n := 2 * e + 1) (by omega) (by omega), r3 _ (by omega)] at e2
  unfold X1_isTwisted
  rw [rt, isr_bit (by omega) (by omega), htb, decide_eq_true he]
  have hbn : dE D (2 * e + 1) < dN D := hen _ (by omega)
  cases hT : dT D e
  · refine ⟨fun _ => ?_, fun z => absurd rfl z⟩
    refine ⟨fun _ => ?_, fun z => absurd rfl z⟩
    refine X1_contract_b33_ok (shk_of hW he hL) rfl e1 e2 hR (fun w' hw' off => hQ w' ?_ off)
    unfold dShr
    rw [hT]
    exact hw'
  · refine ⟨fun z => absurd z (by decide), fun _ => ?_⟩
    refine ⟨fun z => absurd z (by decide), fun _ => ?_⟩
    refine X1_turnOver_ok (dE D (2 * e + 1)) e2 hW hbn hR (fun w2 hw2 off2 => ?_)
    refine X1_contract_b33_ok (shk_of (dFlip_WF hW) he (flip_lone hL)) rfl e1 e2 hw2 (fun w' hw' off => hQ w' ?_ (offX_trans off2 off))
    unfold dShr
    rw [hT]
    exact hw'
