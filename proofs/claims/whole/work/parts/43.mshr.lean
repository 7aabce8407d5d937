/-! the model's shrink -/
def clrG (D : Dw) (b : Nat) : Dw := (dN D, dM D, dE D, dT D, (fun p => if p = b then 0 else dG D p), dR D)
theorem X11_post_rep {Q : Int → Wd → Prop} {w : Wd} {D : Dw} {x3 : Int} (b : Nat) (h1 : x3 = (b : Int)) (hB : Bd D) (hb : b < dN D) (hR : RepM w 73 D) (hQ : ∀ w', RepM w' 73 (cpD D b) → offM 73 w w' → Q 1 w') : ∃ m, X11_shrink_l228 Q (X11_shrink_b320 Q) m x3 x3 w := by
  subst h1
  obtain ⟨n6, m10, hg, hr, hen⟩ := hB
  obtain ⟨r0, r1, r3, rt, r4, r5⟩ := hR
  have key2 : ∀ (m j : Nat) (v : Wd), j ≤ 2 * dM D → 2 * dM D - j < m → v 73 0 = (dN D : Int) - 1 → v 73 1 = dM D → (∀ e, e < dM D → v 73 (22 + e) = if dT D e then 1 else 0) → (∀ i, i < 2 * dM D → v 73 (2 + i) = if i < j then (low b (dE D i) : Int) else (dE D i : Int)) → (∀ p, p < dN D - 1 → v 73 (32 + p) = dG D (if p < b then p else p + 1)) → (∀ p i, p < dN D - 1 → i < dG D (if p < b then p else p + 1) → v 73 (38 + 10 * p + i) = dR D (if p < b then p else p + 1) i) → offM 73 w v → X11_shrink_l348 Q (X11_shrink_b391 Q) m (b : Int) ((2 + j : Nat) : Int) v := by
    intro m
    induction m with
    | zero => intro j v g1 g2; omega
    | succ m ih =>
      intro j v g1 g2 v0 v1 v2 v3 v4 v5 voff
      unfold X11_shrink_l348
      rw [rd1, v1, wr_id (x := 2 + 2 * (dM D : Int)) (by omega) (by omega), wr_nat (n := 2 + j) (by omega), wr_nat (n := b) (by omega)]
      refine ⟨ix_of (n := 1) rfl (by omega) (by decide), fun q => ?_, fun q => ⟨ix_of rfl (by omega) (by decide), ?_⟩⟩
      · have hj : j = 2 * dM D := by omega
        unfold X11_shrink_b391
        refine hQ v ⟨?_, v1, fun i hi => ?_, v2, v4, v5⟩ voff
        · rw [v0]; show (dN D : Int) - 1 = ((dN D - 1 : Nat) : Int); omega
        · have hi : i < 2 * dM D := hi
          rw [v3 i hi, if_pos (by omega)]; rfl
      · have hj : j < 2 * dM D := by omega
        have hEj := hen j hj
        have hvj : v 73 (2 + j) = (dE D j : Int) := by rw [v3 j hj, if_neg (by omega)]
        rw [rd_of (n := 2 + j) rfl (by omega), hvj, wr_nat (n := dE D j) (by omega), show ((2 + j : Nat) : Int) + 1 = ((2 + (j + 1) : Nat) : Int) by omega]
        refine ⟨fun z => ?_, fun z => ⟨ix_of rfl (by omega) (by decide), ix_of rfl (by omega) (by decide), ?_⟩⟩
        · refine ih (j + 1) v (by omega) (by omega) v0 v1 v2 (fun i hi => ?_) v4 v5 voff
          rw [v3 i hi]
          by_cases y : i = j
          · subst y
            rw [if_neg (by omega), if_pos (by omega)]
            unfold low
            rw [if_neg (by omega)]
          · by_cases y2 : i < j
            · rw [if_pos y2, if_pos (by omega)]
            · rw [if_neg y2, if_neg (by omega)]
        · intro w4 e4
          rw [wt_of (n := 2 + j) rfl (by omega)] at e4
          refine ih (j + 1) w4 (by omega) (by omega) ?_ ?_ (fun i hi => ?_) (fun i hi => ?_) (fun p hp => ?_) (fun p i hp hi => ?_) (fun c i hc => ?_)
          · rw [e4, up_ap, if_neg (by omega)]; exact v0
          · rw [e4, up_ap, if_neg (by omega)]; exact v1
          · rw [e4, up_ap, if_neg (by omega)]; exact v2 i hi
          · rw [e4, up_ap]
            by_cases y : i = j
            · subst y
              rw [if_pos ⟨rfl, rfl⟩, if_pos (by omega)]
              unfold low
              rw [if_pos (by omega)]
              omega
            · rw [if_neg (by omega), v3 i hi]
              by_cases y2 : i < j
              · rw [if_pos y2, if_pos (by omega)]
              · rw [if_neg y2, if_neg (by omega)]
          · rw [e4, up_ap, if_neg (by omega)]; exact v4 p hp
          · rw [e4, up_ap, if_neg (by omega)]; exact v5 p i hp hi
          · rw [e4, up_ap, if_neg (by omega)]; exact voff c i hc
  have inner : ∀ (c314 : Int → Int → Wd → Prop) (p : Nat) (v : Wd), p < 5 → ∀ (m j : Nat) (u : Wd), j ≤ 10 → 10 - j < m → (∀ c i, u c i = if c = 73 ∧ 38 + 10 * p ≤ i ∧ i < 38 + 10 * p + j then v c (i + 10) else v c i) → (∀ u', (∀ c i, u' c i = if c = 73 ∧ 38 + 10 * p ≤ i ∧ i < 38 + 10 * p + 10 then v c (i + 10) else v c i) → c314 (b : Int) (p : Int) u') → X11_shrink_l266 Q c314 m (b : Int) (p : Int) (j : Int) u := by
    intro c314 p v hp m
    induction m with
    | zero => intro j u g1 g2; omega
    | succ m ih =>
      intro j u g1 g2 hu hK
      unfold X11_shrink_l266
      rw [wr_nat (n := j) (by omega), wr_id (x := 10) (by decide) (by decide)]
      refine ⟨fun q => hK u (fun c i => by rw [hu, show j = 10 by omega]), fun q => ⟨ix_of (n := 38 + 10 * p + 10 + j) (by omega) (by omega) (by decide), ix_of (n := 38 + 10 * p + j) (by omega) (by omega) (by decide), ?_⟩⟩
      intro w21 e21
      rw [wt_of (n := 38 + 10 * p + j) (by omega) (by omega), rd_of (n := 38 + 10 * p + 10 + j) (by omega) (by omega)] at e21
      rw [show (j : Int) + 1 = ((j + 1 : Nat) : Int) by omega]
      refine ih (j + 1) w21 (by omega) (by omega) (fun c i => ?_) hK
      rw [e21, up_ap]
      by_cases y : c = 73 ∧ i = 38 + 10 * p + j
      · rw [if_pos y, hu, if_neg (by omega), if_pos (by omega), y.1]
        congr 1
        omega
      · rw [if_neg y, hu]
        by_cases y2 : c = 73 ∧ 38 + 10 * p ≤ i ∧ i < 38 + 10 * p + j
        · rw [if_pos y2, if_pos (by omega)]
        · rw [if_neg y2, if_neg (by omega)]
  have key : ∀ (m p : Nat) (v : Wd), b ≤ p → p < dN D → dN D - p < m → (∀ c j, v c j = if c = 73 ∧ 32 + b ≤ j ∧ j < 32 + p then w c (j + 1) else if c = 73 ∧ 38 + 10 * b ≤ j ∧ j < 38 + 10 * p then w c (j + 10) else w c j) → X11_shrink_l228 Q (X11_shrink_b320 Q) m (b : Int) (p : Int) v := by
    intro m
    induction m with
    | zero => intro p v g1 g2; omega
    | succ m ih =>
      intro p v g0 g1 g2 hv
      unfold X11_shrink_l228
      have v0 : v 73 0 = dN D := by rw [hv, if_neg (by omega), if_neg (by omega)]; exact r0
      rw [rd0, v0, wr_nat (n := dN D) (by omega), wr_id (x := (p : Int) + 1) (by omega) (by omega)]
      refine ⟨ix_of (n := 0) rfl (by omega) (by decide), fun q => ?_, fun q => ⟨ix_of (n := 32 + (p + 1)) (by omega) (by omega) (by decide), ix_of (n := 32 + p) (by omega) (by omega) (by decide), ?_⟩⟩
      · have hp : p + 1 = dN D := by omega
        unfold X11_shrink_b320
        rw [rd0, v0, wt0]
        refine ⟨ix_of (n := 0) rfl (by omega) (by decide), ix_of (n := 0) rfl (by omega) (by decide), ?_⟩
        intro w22 e22
        have h22 : w22 73 0 = ((dN D - 1 : Nat) : Int) := by rw [e22, up_eq]; omega
        rw [rd0, h22]
        refine ⟨ix_of (n := 0) rfl (by omega) (by decide), ix_of (n := 32 + (dN D - 1)) (by omega) (by omega) (by decide), ?_⟩
        intro w23 e23
        rw [wt_of (n := 32 + (dN D - 1)) (by omega) (by omega)] at e23
        have h23 : ∀ c i, ¬ (c = 73 ∧ i = 32 + (dN D - 1)) → ¬ (c = 73 ∧ i = 0) → w23 c i = v c i := fun c i y1 y2 => by rw [e23, up_ap, if_neg y1, e22, up_ap, if_neg y2]
        refine ⟨2 * dM D + 1, key2 (2 * dM D + 1) 0 w23 (by omega) (by omega) ?_ ?_ (fun i hi => ?_) (fun i hi => ?_) (fun p' hp' => ?_) (fun p' i hp' hi => ?_) (fun c i hc => ?_)⟩
        · rw [e23, up_ap, if_neg (by omega), h22]; omega
        · rw [h23 _ _ (by omega) (by omega), hv, if_neg (by omega), if_neg (by omega)]; exact r1
        · rw [h23 _ _ (by omega) (by omega), hv, if_neg (by omega), if_neg (by omega)]; exact rt i hi
        · rw [h23 _ _ (by omega) (by omega), hv, if_neg (by omega), if_neg (by omega), if_neg (by omega)]; exact r3 i hi
        · rw [h23 _ _ (by omega) (by omega), hv]
          by_cases y : p' < b
          · rw [if_neg (by omega), if_neg (by omega), if_pos y]; exact r4 p' (by omega)
          · rw [if_pos (by omega), if_neg y, show 32 + p' + 1 = 32 + (p' + 1) by omega]; exact r4 (p' + 1) (by omega)
        · rw [h23 _ _ (by omega) (by omega), hv]
          by_cases y : p' < b
          · rw [if_pos y] at hi ⊢
            have := hg p' (by omega)
            rw [if_neg (by omega), if_neg (by omega)]; exact r5 p' i (by omega) hi
          · rw [if_neg y] at hi ⊢
            have := hg (p' + 1) (by omega)
            rw [if_neg (by omega), if_pos (by omega), show 38 + 10 * p' + i + 10 = 38 + 10 * (p' + 1) + i by omega]; exact r5 (p' + 1) i (by omega) hi
        · rw [h23 _ _ (by omega) (by omega), hv, if_neg (by omega), if_neg (by omega)]
      · intro w1 e1
        rw [wt_of (n := 32 + p) (by omega) (by omega), rd_of (n := 32 + (p + 1)) (by omega) (by omega)] at e1
        have hw1 : ∀ c j, w1 c j = if c = 73 ∧ j = 32 + p then v 73 (32 + (p + 1)) else v c j := fun c j => by rw [e1, up_ap]
        refine ⟨11, inner _ p w1 (by omega) 11 0 w1 (by omega) (by omega) (fun c i => by rw [if_neg (by omega)]) (fun w2 hw2 => ?_)⟩
        unfold X11_shrink_b314
        rw [show (p : Int) + 1 = ((p + 1 : Nat) : Int) by omega]
        refine ih (p + 1) w2 (by omega) (by omega) (by omega) (fun c j => ?_)
        rw [hw2]
        by_cases y : c = 73 ∧ 38 + 10 * p ≤ j ∧ j < 38 + 10 * p + 10
        · rw [if_pos y, hw1, if_neg (by omega), hv, if_neg (by omega), if_neg (by omega), if_neg (by omega), if_pos (by omega)]
        · rw [if_neg y, hw1]
          by_cases y2 : c = 73 ∧ j = 32 + p
          · rw [if_pos y2, hv, if_neg (by omega), if_neg (by omega), if_pos (by omega), y2.1, y2.2]
            congr 1
          · rw [if_neg y2, hv]
            by_cases y3 : c = 73 ∧ 32 + b ≤ j ∧ j < 32 + p
            · rw [if_pos y3, if_pos (by omega)]
            · rw [if_neg y3]
              by_cases y4 : c = 73 ∧ 38 + 10 * b ≤ j ∧ j < 38 + 10 * p
              · rw [if_pos y4, if_neg (by omega), if_pos (by omega)]
              · rw [if_neg y4, if_neg (by omega), if_neg (by omega)]
  exact ⟨dN D - b + 1, key (dN D - b + 1) b w (Nat.le_refl _) hb (by omega) (fun c j => by rw [if_neg (by omega), if_neg (by omega)])⟩
theorem X11_shrink_b67_ok {Q : Int → Wd → Prop} {w : Wd} {D : Dw} {x1 x2 x3 : Int} {e a b c o : Nat} (S : Shk D e a b c o) (h1 : x1 = (e : Int)) (h2 : x2 = (a : Int)) (h3 : x3 = (b : Int)) (hR : RepM w 73 D) (hQ : ∀ w', RepM w' 73 (cpD (clD (mvK D a b c o (dG D b - 1)) e) b) → offM 73 w w' → Q 1 w') : X11_shrink_b67 Q x1 x2 x3 w := by
  subst h1 h2 h3
  have hlen := shk_len S
  have hrN := rowN_ok S
  obtain ⟨hW, he, hL, ha, hb, hc, hce, hcf, ho, hoe, hof, hab, han, hbn⟩ := id S
  obtain ⟨n6, m10, hen, hne, hrow, hinj, hsur⟩ := id hW
  have hda := hW.deg han
  have hdb := hW.deg hbn
  have key : ∀ (m k : Nat) (v : Wd), k < dG D b → dG D b - k < m → RepM v 73 (mvN D a b c o k) → offM 73 w v → X11_shrink_l103 Q (X11_shrink_b198 Q) m (e : Int) (a : Int) (b : Int) (dG D b : Int) (c : Int) (o : Int) ((k + 1 : Nat) : Int) v := by
    intro m
    induction m with
    | zero => intro k v g1 g2; omega
    | succ m ih =>
      intro k v g1 g2 hv voff
      have hBk := (mvK_Bd S g1).2
      obtain ⟨v0, v1, v3, vt, v4, v5⟩ := id hv
      unfold X11_shrink_l103
      rw [wr_nat (n := dG D b) (by omega), wr_nat (n := k + 1) (by omega)]
      have hga : dG (mvN D a b c o k) a = dG D a + k := if_pos rfl
      refine ⟨fun q => ?_, fun q => ⟨by omega, ?_⟩⟩
      · have hk : k = dG D b - 1 := by omega
        subst hk
        unfold X11_shrink_b198
        refine X11_drops_ok a (dG D a + (dG D b - 1)) (rowN (dR D a) (dR D b) c o (dG D b) (dG D b - 1)) c e rfl rfl (by omega) (by omega) (by rw [v4 a han, hga]) (fun j hj => ⟨?_, ?_⟩) (by omega) (by omega) hrN.2.2.2 (fun j hj => ?_) ?_
        · rw [v5 a j han (by rw [hga]; exact hj)]
          exact congrArg _ (if_pos rfl)
        · have := (hrN.1 j (by omega)).1; omega
        · unfold rowN
          rw [if_pos (by omega)]; exact hcf j hj
        · have hdl := repM_del (p := a) (c := c) hBk han (by rw [hga]; omega) hv
          rw [hga] at hdl
          refine ⟨ix_of (n := 32 + b) (by omega) (by omega) (by decide), ?_⟩
          intro w18 e18
          rw [wt_of (n := 32 + b) (by omega) (by omega)] at e18
          obtain ⟨u0, u1, u3, ut, u4, u5⟩ := id hdl.1
          have h18 : RepM w18 73 (clrG (delD (mvN D a b c o (dG D b - 1)) a c) b) := by
            refine ⟨?_, ?_, ?_, ?_, ?_, ?_⟩
            · rw [e18, up_ap, if_neg (by omega)]; exact u0
            · rw [e18, up_ap, if_neg (by omega)]; exact u1
            · intro i hi
              have hi : i < 2 * dM D := hi
              rw [e18, up_ap, if_neg (by omega)]; exact u3 i hi
            · intro i hi
              have hi : i < dM D := hi
              rw [e18, up_ap, if_neg (by omega)]; exact ut i hi
            · intro p hp
              rw [e18, up_ap]
              show _ = ((if p = b then 0 else dG (delD (mvN D a b c o (dG D b - 1)) a c) p : Nat) : Int)
              by_cases z : p = b
              · rw [if_pos ⟨rfl, by omega⟩, if_pos z]; rfl
              · rw [if_neg (by omega), if_neg z]; exact u4 p hp
            · intro p i hp hi
              have hp : p < dN D := hp
              rw [e18, up_ap, if_neg (by omega)]
              refine u5 p i hp ?_
              have hi : i < if p = b then 0 else dG (delD (mvN D a b c o (dG D b - 1)) a c) p := hi
              split at hi
              · omega
              · exact hi
          have off18 : offM 73 v w18 := fun c' i hc' => by rw [e18, up_ap, if_neg (by omega)]; exact hdl.2 c' i hc'
          -- the same drawing, but for the second post's row, as the class has
          have hsame : RepM w18 73 (clrG (mvK D a b c o (dG D b - 1)) b) := by
            refine RepM.congr h18 rfl rfl (fun _ _ => rfl) (fun _ _ => rfl) (fun p hp => ?_) (fun p j hp hj => ?_)
            · show (if p = b then 0 else if p = a then (if p = a then dG D p + (dG D b - 1) else dG D p) - 1 else if p = a then dG D p + (dG D b - 1) else dG D p) = if p = b then 0 else if p = a then dG D p - 1 + (dG D b - 1) else dG D p
              by_cases z : p = b
              · rw [if_pos z, if_pos z]
              · by_cases z2 : p = a
                · subst z2
                  rw [if_neg z, if_pos rfl, if_pos rfl, if_neg z, if_pos rfl]; omega
                · rw [if_neg z, if_neg z2, if_neg z2, if_neg z, if_neg z2]
            · show (if p = a then delR (fun j => if p = a then rowN (dR D a) (dR D b) c o (dG D b) (dG D b - 1) j else dR D p j) c j else if p = a then rowN (dR D a) (dR D b) c o (dG D b) (dG D b - 1) j else dR D p j) = if p = a then rowC (dR D a) (dR D b) c o (dG D b) (dG D b - 1) j else dR D p j
              by_cases z : p = a
              · simp only [if_pos z]
                unfold delR rowN rowC
                dsimp only
                by_cases y1 : j < c
                · rw [if_pos y1, if_pos (by omega), if_pos y1]
                · rw [if_neg y1, if_neg (by omega), if_neg y1]
                  by_cases y2 : j < c + (dG D b - 1)
                  · rw [if_pos (by omega), if_pos y2, show j + 1 - c = 1 + (j - c) by omega]
                  · rw [if_neg (by omega), if_neg y2, show j + 1 - (dG D b - 1) = j - (dG D b - 1) + 1 by omega]
              · simp only [if_neg z]
          have hBc : Bd (clrG (mvK D a b c o (dG D b - 1)) b) := by
            obtain ⟨q1, q2, q3, q4, q5⟩ := (mvK_Bd S g1).1
            refine ⟨q1, q2, fun p hp => ?_, fun p i hp hi => ?_, q5⟩
            · show (if p = b then 0 else dG (mvK D a b c o (dG D b - 1)) p) ≤ 10
              split
              · omega
              · exact q3 p hp
            · have hi : i < if p = b then 0 else dG (mvK D a b c o (dG D b - 1)) p := hi
              split at hi
              · omega
              · exact q4 p i hp hi
          refine X11_closesUp_rep e rfl hBc he hsame (fun w19 hw19 off19 => ?_)
          refine X11_post_rep b rfl (clD_Bd hBc) hbn hw19 (fun w' hw' off' => hQ w' ?_ (offM_trans voff (offM_trans off18 (offM_trans off19 off'))))
          refine RepM.congr hw' rfl rfl (fun _ _ => rfl) (fun _ _ => rfl) (fun p hp => ?_) (fun p j hp hj => rfl)
          show (if (if p < b then p else p + 1) = b then 0 else dG (mvK D a b c o (dG D b - 1)) (if p < b then p else p + 1)) = dG (mvK D a b c o (dG D b - 1)) (if p < b then p else p + 1)
          rw [if_neg (by split <;> omega)]
      · have hk : k + 1 < dG D b := by omega
        obtain ⟨s1, s2, s3⟩ := mvE_step S hk
        obtain ⟨i, hi⟩ : ∃ i, i = rnd o (k + 1) (dG D b) := ⟨_, rfl⟩
        obtain ⟨l, hl⟩ : ∃ l, l = dR D b i := ⟨_, rfl⟩
        have hil : i < dG D b := by rw [hi]; exact rnd_lt ho (by omega)
        rw [← hi, ← hl] at s1 s2 s3
        rw [show (o : Int) + ((k + 1 : Nat) : Int) = ((o + (k + 1) : Nat) : Int) by omega, irm_nat (by omega) (by omega) (by omega), rnd_mod ho (by omega), ← hi]
        have hvi : v 73 (38 + 10 * b + i) = (l : Int) := by
          have hgb : i < dG (mvN D a b c o k) b := by
            show i < if b = a then dG D b + k else dG D b
            rw [if_neg (Ne.symm hab)]; exact hil
          rw [v5 b i hbn hgb, hl]
          show ((if b = a then rowN (dR D a) (dR D b) c o (dG D b) k i else dR D b i : Nat) : Int) = _
          rw [if_neg (Ne.symm hab)]
        refine ⟨ix_of (n := 38 + 10 * b + i) (by omega) (by omega) (by decide), ?_⟩
        intro y13 e13
        rw [rd_of (n := 38 + 10 * b + i) (by omega) (by omega), hvi] at e13
        subst e13
        have hins := repM_ins (p := a) (c := c + (k + 1)) (x := l) hBk han (by rw [hga]; omega) (by rw [hga]; omega) hv
        rw [hga] at hins
        refine X11_inserts_ok a (c + (k + 1)) (dG D a + k) (l : Int) rfl (by omega) (by omega) (by omega) (by omega) (by rw [← hga]; exact v4 a han) ?_
        obtain ⟨u0, u1, u3, ut, u4, u5⟩ := id hins.1
        have hel := hen (2 * l) (by omega)
        have hE2 : insW v 73 (32 + a) 73 (38 + 10 * a) (c + (k + 1)) (l : Int) (dG D a + k) 73 (2 + 2 * l) = (dE D (2 * l) : Int) := by
          rw [u3 (2 * l) (by show 2 * l < 2 * dM D; omega)]
          exact congrArg _ s1
        rw [rd_of (n := 2 + 2 * l) (by omega) (by omega), hE2, wr_nat (n := dE D (2 * l)) (by omega), wr_nat (n := b) (by omega)]
        have fin : ∀ arm : Nat, arm = 2 * l + (if dE D (2 * l) = b then 0 else 1) → ∀ w16, w16 = up (insW v 73 (32 + a) 73 (38 + 10 * a) (c + (k + 1)) (l : Int) (dG D a + k)) 73 (2 + arm) (a : Int) → X11_shrink_l103 Q (X11_shrink_b198 Q) m (e : Int) (a : Int) (b : Int) (dG D b : Int) (c : Int) (o : Int) (((k + 1 : Nat) : Int) + 1) w16 := by
          intro arm harm w16 e16
          have harml : arm < 2 * dM D := by rw [harm]; split <;> omega
          have hs := repM_setE (D := insD (mvN D a b c o k) a (c + (k + 1)) l) (i := arm) (x := a) m10 harml hins.1
          rw [← e16] at hs
          rw [show ((k + 1 : Nat) : Int) + 1 = ((k + 1 + 1 : Nat) : Int) by omega]
          refine ih (k + 1) _ hk (by omega) (RepM.congr hs.1 rfl rfl (fun j hj => ?_) (fun _ _ => rfl) (fun p hp => ?_) (fun p j hp hj => ?_)) (offM_trans voff (offM_trans hins.2 hs.2))
          · show (if j = arm then a else mvE D a b o k j) = mvE D a b o (k + 1) j
            rw [harm]; exact s2 j
          · show (if p = a then (if p = a then dG D p + k else dG D p) + 1 else if p = a then dG D p + k else dG D p) = if p = a then dG D p + (k + 1) else dG D p
            by_cases z : p = a
            · rw [if_pos z, if_pos z, if_pos z]; omega
            · rw [if_neg z, if_neg z, if_neg z]
          · show (if p = a then insR (fun j => if p = a then rowN (dR D a) (dR D b) c o (dG D b) k j else dR D p j) (c + (k + 1)) l j else if p = a then rowN (dR D a) (dR D b) c o (dG D b) k j else dR D p j) = if p = a then rowN (dR D a) (dR D b) c o (dG D b) (k + 1) j else dR D p j
            by_cases z : p = a
            · simp only [if_pos z]
              unfold insR rowN
              dsimp only
              by_cases y1 : j ≤ c
              · rw [if_pos (by omega), if_pos y1, if_pos y1]
              · by_cases y2 : j < c + (k + 1)
                · rw [if_pos y2, if_neg y1, if_pos (by omega), if_neg y1, if_pos (by omega)]
                · by_cases y3 : j = c + (k + 1)
                  · rw [if_neg y2, if_pos y3, if_neg y1, if_pos (by omega), hl, hi, show j - c = k + 1 by omega]
                  · rw [if_neg y2, if_neg y3, if_neg (by omega), if_neg (by omega), if_neg y1, if_neg (by omega)]
                    congr 1
                    omega
            · simp only [if_neg z]
        refine ⟨ix_of (n := 2 + 2 * l) (by omega) (by omega) (by decide), fun z => ⟨ix_of (n := 2 + 2 * l) (by omega) (by omega) (by decide), ?_⟩, fun z => ⟨ix_of (n := 2 + (2 * l + 1)) (by omega) (by omega) (by decide), ?_⟩⟩
        · intro w16 e16
          rw [wt_of (n := 2 + 2 * l) (by omega) (by omega)] at e16
          exact fin (2 * l) (by rw [if_pos (by omega)]; rfl) w16 e16
        · intro w15 e15
          rw [wt_of (n := 2 + (2 * l + 1)) (by omega) (by omega)] at e15
          exact fin (2 * l + 1) (by rw [if_neg (by omega)]) w15 e15
  obtain ⟨r0, r1, r3, rt, r4, r5⟩ := id hR
  unfold X11_shrink_b67
  refine ⟨ix_of (n := 32 + b) (by omega) (by omega) (by decide), ?_⟩
  intro y8 e8
  rw [rd_of (n := 32 + b) (by omega) (by omega), r4 b hbn] at e8
  subst e8
  refine X11_placeIn_ok a (dG D a) (dR D a) c e rfl rfl (by omega) (by omega) (fun j hj => ⟨r5 a j han hj, by have := (hrow a j han hj).1; omega⟩) (by omega) hc hce hcf ?_
  refine X11_placeIn_ok b (dG D b) (dR D b) o e rfl rfl (by omega) (by omega) (fun j hj => ⟨r5 b j hbn hj, by have := (hrow b j hbn hj).1; omega⟩) (by omega) ho hoe hof ?_
  refine ⟨dG D b + 1, key (dG D b + 1) 0 w (by omega) (by omega) (RepM.congr hR rfl rfl (fun j hj => ?_) (fun _ _ => rfl) (fun p hp => ?_) (fun p j hp hj => ?_)) (fun _ _ _ => rfl)⟩
  · exact mvE_zero.symm
  · show dG D p = if p = a then dG D p + 0 else dG D p
    split <;> rfl
  · show dR D p j = if p = a then rowN (dR D a) (dR D b) c o (dG D b) 0 j else dR D p j
    by_cases z : p = a
    · subst z
      rw [if_pos rfl]
      unfold rowN
      by_cases y1 : j ≤ c
      · rw [if_pos y1]
      · rw [if_neg y1, if_neg (by omega)]; rfl
    · rw [if_neg z]
