/-! ROWS of a drawing: insert, take out, at the class and at the model -/
theorem X1_insertAt_l36_ok {k : Nat} {Q : Wd → Prop} {e70 : Int → Int → Int → Int → Int → Wd → Prop} (p at_ d : Nat) (e : Int) (hp : p < 6) (hd : d < 10) : ∀ (m i : Nat) (w : Wd), at_ ≤ i → i ≤ d → i - at_ < m →
    (∀ w' : Wd, (∀ c j, w' c j = if c = k + 3 ∧ 10 * p + at_ < j ∧ j ≤ 10 * p + i then w c (j - 1) else w c j) → e70 p at_ e d ((p : Int) * 10) w') →
    X1_insertAt_l36 k Q e70 m p at_ e d ((p : Int) * 10) i w := by
  intro m
  induction m with
  | zero => intro i w h1 h2 h3; omega
  | succ m ih =>
    intro i w h1 h2 h3 hK
    unfold X1_insertAt_l36
    rw [wr_nat (n := i) (by omega), wr_nat (n := at_) (by omega)]
    refine ⟨fun q => ?_, fun q => ?_⟩
    · refine hK w (fun c j => ?_)
      rw [if_neg (by omega)]
    · refine ⟨ix_of (n := 10 * p + i - 1) (by omega) (by omega) (by decide), ix_of (n := 10 * p + i) (by omega) (by omega) (by decide), ?_⟩
      intro w3 e3
      rw [wt_of (n := 10 * p + i) (by omega) (by omega), rd_of (n := 10 * p + i - 1) (by omega) (by omega)] at e3
      subst e3
      rw [show (i : Int) + (-1) = ((i - 1 : Nat) : Int) by omega]
      refine ih (i - 1) _ (by omega) (by omega) (by omega) (fun w' hw' => hK w' (fun c j => ?_))
      rw [hw']
      simp only [up_ap]
      grind
def insW (w : Wd) (cD iD cR bR at_ : Nat) (e : Int) (d : Nat) : Wd := fun c j => if c = cR ∧ bR + at_ < j ∧ j ≤ bR + d then w c (j - 1) else if c = cR ∧ j = bR + at_ then e else if c = cD ∧ j = iD then (d : Int) + 1 else w c j
def delW (w : Wd) (cD iD cR bR at_ d : Nat) : Wd := fun c j => if c = cR ∧ bR + at_ ≤ j ∧ j + 1 < bR + d then w c (j + 1) else if c = cD ∧ j = iD then (d : Int) - 1 else w c j
theorem X1_insertAt_ok {k : Nat} {Q : Wd → Prop} {w : Wd} {x1 x2 : Int} (p at_ d : Nat) (e : Int) (h1 : x1 = (p : Int)) (h2 : x2 = (at_ : Int)) (hp : p < 6) (hd : d < 10) (hat : at_ ≤ d) (hD : w (k + 2) p = d) (hQ : Q (insW w (k + 2) p (k + 3) (10 * p) at_ e d)) : X1_insertAt k x1 x2 e w Q := by
  subst h1 h2
  unfold X1_insertAt
  refine ⟨ix_of rfl hp (by decide), ?_⟩
  intro y1 e1
  rw [rd_of rfl (by omega), hD] at e1
  subst e1
  rw [wr_nat (n := d) (by omega), wr_nat (n := at_) (by omega), wr_id (x := 10) (by decide) (by decide)]
  refine ⟨fun q => by omega, fun _ => ⟨fun q => by omega, fun _ => ⟨fun _ => ?_, fun q => by omega⟩⟩⟩
  intro y2 e2
  subst e2
  refine ⟨d + 1, X1_insertAt_l36_ok p at_ d e hp hd (d + 1) d w hat (Nat.le_refl _) (by omega) (fun w' hw' => ?_)⟩
  unfold X1_insertAt_b70
  refine ⟨ix_of (n := 10 * p + at_) (by omega) (by omega) (by decide), ?_⟩
  intro w4 e4
  rw [wt_of (n := 10 * p + at_) (by omega) (by omega)] at e4
  subst e4
  refine ⟨ix_of rfl hp (by decide), ?_⟩
  intro w5 e5
  rw [wt_of (n := p) rfl (by omega)] at e5
  have : w5 = insW w (k + 2) p (k + 3) (10 * p) at_ e d := by
    subst e5
    funext c j
    simp only [up_ap, hw', insW]
    grind
  rw [this]
  exact hQ
theorem X11_inserts_l17_ok {r : Nat} {Q : Wd → Prop} {e45 : Int → Int → Int → Int → Wd → Prop} (p at_ d : Nat) (e : Int) (hp : p < 6) (hd : d < 10) : ∀ (m i : Nat) (w : Wd), at_ ≤ i → i ≤ d → i - at_ < m →
    (∀ w' : Wd, (∀ c j, w' c j = if c = r ∧ 38 + 10 * p + at_ < j ∧ j ≤ 38 + 10 * p + i then w c (j - 1) else w c j) → e45 p at_ e (38 + 10 * (p : Int)) w') →
    X11_inserts_l17 r Q e45 m p at_ e (38 + 10 * (p : Int)) i w := by
  intro m
  induction m with
  | zero => intro i w h1 h2 h3; omega
  | succ m ih =>
    intro i w h1 h2 h3 hK
    unfold X11_inserts_l17
    rw [wr_nat (n := i) (by omega), wr_nat (n := at_) (by omega)]
    refine ⟨fun q => ?_, fun q => ?_⟩
    · refine hK w (fun c j => ?_)
      rw [if_neg (by omega)]
    · refine ⟨ix_of (n := 38 + 10 * p + i - 1) (by omega) (by omega) (by decide), ix_of (n := 38 + 10 * p + i) (by omega) (by omega) (by decide), ?_⟩
      intro w3 e3
      rw [wt_of (n := 38 + 10 * p + i) (by omega) (by omega), rd_of (n := 38 + 10 * p + i - 1) (by omega) (by omega)] at e3
      subst e3
      rw [show (i : Int) + (-1) = ((i - 1 : Nat) : Int) by omega]
      refine ih (i - 1) _ (by omega) (by omega) (by omega) (fun w' hw' => hK w' (fun c j => ?_))
      rw [hw']
      simp only [up_ap]
      grind
theorem X11_inserts_ok {r : Nat} {Q : Wd → Prop} {w : Wd} {x1 x2 : Int} (p at_ d : Nat) (e : Int) (h1 : x1 = (p : Int)) (h2 : x2 = (at_ : Int)) (hp : p < 6) (hd : d < 10) (hat : at_ ≤ d) (hD : w r (32 + p) = d) (hQ : Q (insW w r (32 + p) r (38 + 10 * p) at_ e d)) : X11_inserts r x1 x2 e w Q := by
  subst h1 h2
  unfold X11_inserts
  intro y1 e1
  subst e1
  refine ⟨ix_of (n := 32 + p) (by omega) (by omega) (by decide), ?_⟩
  intro y2 e2
  rw [rd_of (n := 32 + p) (by omega) (by omega), hD] at e2
  subst e2
  refine ⟨d + 1, X11_inserts_l17_ok p at_ d e hp hd (d + 1) d w hat (Nat.le_refl _) (by omega) (fun w' hw' => ?_)⟩
  unfold X11_inserts_b45
  refine ⟨ix_of (n := 38 + 10 * p + at_) (by omega) (by omega) (by decide), ?_⟩
  intro w4 e4
  rw [wt_of (n := 38 + 10 * p + at_) (by omega) (by omega)] at e4
  refine ⟨ix_of (n := 32 + p) (by omega) (by omega) (by decide), ix_of (n := 32 + p) (by omega) (by omega) (by decide), ?_⟩
  intro w5 e5
  rw [wt_of (n := 32 + p) (by omega) (by omega), rd_of (n := 32 + p) (by omega) (by omega)] at e5
  have : w5 = insW w r (32 + p) r (38 + 10 * p) at_ e d := by
    subst e5
    subst e4
    funext c j
    simp only [up_ap, hw', insW]
    grind
  rw [this]
  exact hQ
/-- where a line stands in a row -/
theorem X1_placeOf_ok {k : Nat} {Q : Int → Wd → Prop} {w : Wd} {x1 x2 : Int} (p d : Nat) (f : Nat → Nat) (i e : Nat) (h1 : x1 = (p : Int)) (h2 : x2 = (e : Int)) (hp : p < 6) (hd : d ≤ 10) (hD : w (k + 2) p = d) (hf : ∀ j, j < d → w (k + 3) (10 * p + j) = (f j : Int) ∧ f j < 100) (he : e < 100) (hi : i < d) (hfi : f i = e) (hj : ∀ j, j < i → f j ≠ e) (hQ : Q (i : Int) w) : X1_placeOf k x1 x2 w Q := by
  subst h1 h2
  have key : ∀ (m j : Nat), j ≤ i → i - j < m → X1_placeOf_l2 k Q (X1_placeOf_b22 k Q) (X1_placeOf_b30 k Q) m (p : Int) (e : Int) (j : Int) w := by
    intro m
    induction m with
    | zero => intro j h1 h2; omega
    | succ m ih =>
      intro j h1 h2
      have hfj := hf j (by omega)
      unfold X1_placeOf_l2 X1_lineAt
      dsimp only
      rw [rd_of (n := p) rfl (by omega), hD, wr_nat (n := d) (by omega), wr_nat (n := j) (by omega), rd_of (n := 10 * p + j) (by omega) (by omega), hfj.1, wr_nat (n := f j) (by omega), wr_nat (n := f j) (by omega), wr_nat (n := e) (by omega)]
      refine ⟨ix_of rfl hp (by decide), fun q => by omega, fun q => ⟨ix_of (n := 10 * p + j) (by omega) (by omega) (by decide), fun q => ?_, fun q => ?_⟩⟩
      · have : j = i := by
          rcases Nat.lt_or_ge j i with z | z
          · exact absurd (by omega) (hj j z)
          · omega
        subst this
        unfold X1_placeOf_b22
        rw [wr_nat (n := j) (by omega)]
        exact hQ
      · have hji : j < i := by
          rcases Nat.lt_or_ge j i with z | z
          · exact z
          · have : j = i := by omega
            subst this
            exact absurd (by rw [hfi]) q
        rw [show (j : Int) + 1 = ((j + 1 : Nat) : Int) by omega]
        exact ih (j + 1) hji (by omega)
  exact ⟨i + 1, key (i + 1) 0 (by omega) (by omega)⟩
theorem X11_placeIn_ok {r : Nat} {Q : Int → Wd → Prop} {w : Wd} {x1 x2 : Int} (p d : Nat) (f : Nat → Nat) (i e : Nat) (h1 : x1 = (p : Int)) (h2 : x2 = (e : Int)) (hp : p < 6) (hd : d ≤ 10) (hf : ∀ j, j < d → w r (38 + 10 * p + j) = (f j : Int) ∧ f j < 100) (he : e < 100) (hi : i < d) (hfi : f i = e) (hj : ∀ j, j < i → f j ≠ e) (hQ : Q (i : Int) w) : X11_placeIn r x1 x2 w Q := by
  subst h1 h2
  have key : ∀ (m j : Nat), j ≤ i → i - j < m → X11_placeIn_l2 r Q (X11_placeIn_b23 r Q) m (p : Int) (e : Int) (j : Int) w := by
    intro m
    induction m with
    | zero => intro j h1 h2; omega
    | succ m ih =>
      intro j h1 h2
      have hfj := hf j (by omega)
      unfold X11_placeIn_l2
      rw [rd_of (n := 38 + 10 * p + j) (by omega) (by omega), hfj.1, wr_nat (n := f j) (by omega), wr_nat (n := e) (by omega)]
      refine ⟨ix_of (n := 38 + 10 * p + j) (by omega) (by omega) (by decide), fun q => ?_, fun q => ?_⟩
      · have : j = i := by
          rcases Nat.lt_or_ge j i with z | z
          · exact absurd (by omega) (hj j z)
          · omega
        subst this
        unfold X11_placeIn_b23
        rw [wr_nat (n := j) (by omega)]
        exact hQ
      · have hji : j < i := by
          rcases Nat.lt_or_ge j i with z | z
          · exact z
          · have : j = i := by omega
            subst this
            exact absurd (by rw [hfi]) q
        rw [show (j : Int) + 1 = ((j + 1 : Nat) : Int) by omega]
        exact ih (j + 1) hji (by omega)
  exact ⟨i + 1, key (i + 1) 0 (by omega) (by omega)⟩
theorem X1_takeOut_ok {k : Nat} {Q : Int → Wd → Prop} {w : Wd} {x1 x2 : Int} (p d : Nat) (f : Nat → Nat) (i e : Nat) (h1 : x1 = (p : Int)) (h2 : x2 = (e : Int)) (hp : p < 6) (hd : d ≤ 10) (hD : w (k + 2) p = d) (hf : ∀ j, j < d → w (k + 3) (10 * p + j) = (f j : Int) ∧ f j < 100) (he : e < 100) (hi : i < d) (hfi : f i = e) (hj : ∀ j, j < i → f j ≠ e) (hQ : Q (i : Int) (delW w (k + 2) p (k + 3) (10 * p) i d)) : X1_takeOut k x1 x2 w Q := by
  subst h1
  unfold X1_takeOut
  refine X1_placeOf_ok p d f i e rfl h2 hp hd hD hf he hi hfi hj ?_
  intro y3 e3
  subst e3
  have key : ∀ (m j : Nat) (v : Wd), i ≤ j → j < d → d - j < m → v (k + 2) p = d → (∀ w' : Wd, (∀ c b, w' c b = if c = k + 3 ∧ 10 * p + j ≤ b ∧ b + 1 < 10 * p + d then v c (b + 1) else v c b) → X1_takeOut_b57 k Q (p : Int) (i : Int) w') → X1_takeOut_l16 k Q (X1_takeOut_b57 k Q) m (p : Int) (i : Int) ((p : Int) * 10) (j : Int) v := by
    intro m
    induction m with
    | zero => intro j v h1 h2 h3; omega
    | succ m ih =>
      intro j v h1 h2 h3 hv hK
      unfold X1_takeOut_l16
      rw [rd_of (n := p) rfl (by omega), hv, wr_nat (n := d) (by omega), wr_id (x := (j : Int) + 1) (by omega) (by omega)]
      refine ⟨ix_of rfl hp (by decide), fun q => ?_, fun q => ⟨ix_of (n := 10 * p + j + 1) (by omega) (by omega) (by decide), ix_of (n := 10 * p + j) (by omega) (by omega) (by decide), ?_⟩⟩
      · refine hK v (fun c b => ?_)
        rw [if_neg (by omega)]
      · intro w4 e4
        rw [wt_of (n := 10 * p + j) (by omega) (by omega), rd_of (n := 10 * p + j + 1) (by omega) (by omega)] at e4
        rw [show (j : Int) + 1 = ((j + 1 : Nat) : Int) by omega]
        refine ih (j + 1) w4 (by omega) (by omega) (by omega) ?_ (fun w' hw' => hK w' (fun c b => ?_))
        · subst e4
          simp only [up_ap]
          grind
        · rw [hw']
          subst e4
          simp only [up_ap]
          grind
  refine ⟨d + 1, key (d + 1) i w (Nat.le_refl _) hi (by omega) hD (fun w' hw' => ?_)⟩
  unfold X1_takeOut_b57
  have hD' : w' (k + 2) p = d := by rw [hw', if_neg (by omega), hD]
  rw [rd_of (n := p) rfl (by omega), hD', wr_nat (n := d) (by omega), wr_nat (n := i) (by omega)]
  refine ⟨ix_of rfl hp (by decide), fun q => by omega, fun _ => ⟨ix_of rfl hp (by decide), ix_of rfl hp (by decide), ?_⟩⟩
  intro w5 e5
  rw [wt_of (n := p) rfl (by omega)] at e5
  have : w5 = delW w (k + 2) p (k + 3) (10 * p) i d := by
    subst e5
    funext c b
    simp only [up_ap, hw', delW]
    grind
  rw [this]
  exact hQ
theorem X11_drops_ok {r : Nat} {Q : Wd → Prop} {w : Wd} {x1 x2 : Int} (p d : Nat) (f : Nat → Nat) (i e : Nat) (h1 : x1 = (p : Int)) (h2 : x2 = (e : Int)) (hp : p < 6) (hd : d ≤ 10) (hD : w r (32 + p) = d) (hf : ∀ j, j < d → w r (38 + 10 * p + j) = (f j : Int) ∧ f j < 100) (he : e < 100) (hi : i < d) (hfi : f i = e) (hj : ∀ j, j < i → f j ≠ e) (hQ : Q (delW w r (32 + p) r (38 + 10 * p) i d)) : X11_drops r x1 x2 w Q := by
  subst h1
  unfold X11_drops
  intro y1 e1
  subst e1
  refine X11_placeIn_ok p d f i e rfl h2 hp hd hf he hi hfi hj ?_
  have key : ∀ (m j : Nat) (v : Wd), i ≤ j → j < d → d - j < m → v r (32 + p) = d → (∀ w' : Wd, (∀ c b, w' c b = if c = r ∧ 38 + 10 * p + j ≤ b ∧ b + 1 < 38 + 10 * p + d then v c (b + 1) else v c b) → X11_drops_b49 r Q (p : Int) w') → X11_drops_l16 r Q (X11_drops_b49 r Q) m (p : Int) (38 + 10 * (p : Int)) (j : Int) v := by
    intro m
    induction m with
    | zero => intro j v h1 h2 h3; omega
    | succ m ih =>
      intro j v h1 h2 h3 hv hK
      unfold X11_drops_l16
      rw [rd_of (n := 32 + p) (by omega) (by omega), hv, wr_nat (n := d) (by omega), wr_id (x := (j : Int) + 1) (by omega) (by omega)]
      refine ⟨ix_of (n := 32 + p) (by omega) (by omega) (by decide), fun q => ?_, fun q => ⟨ix_of (n := 38 + 10 * p + j + 1) (by omega) (by omega) (by decide), ix_of (n := 38 + 10 * p + j) (by omega) (by omega) (by decide), ?_⟩⟩
      · refine hK v (fun c b => ?_)
        rw [if_neg (by omega)]
      · intro w4 e4
        rw [wt_of (n := 38 + 10 * p + j) (by omega) (by omega), rd_of (n := 38 + 10 * p + j + 1) (by omega) (by omega)] at e4
        rw [show (j : Int) + 1 = ((j + 1 : Nat) : Int) by omega]
        refine ih (j + 1) w4 (by omega) (by omega) (by omega) ?_ (fun w' hw' => hK w' (fun c b => ?_))
        · subst e4
          simp only [up_ap]
          grind
        · rw [hw']
          subst e4
          simp only [up_ap]
          grind
  refine ⟨d + 1, key (d + 1) i w (Nat.le_refl _) hi (by omega) hD (fun w' hw' => ?_)⟩
  unfold X11_drops_b49
  have hD' : w' r (32 + p) = d := by rw [hw', if_neg (by omega), hD]
  refine ⟨ix_of (n := 32 + p) (by omega) (by omega) (by decide), ix_of (n := 32 + p) (by omega) (by omega) (by decide), ?_⟩
  intro w5 e5
  rw [wt_of (n := 32 + p) (by omega) (by omega), rd_of (n := 32 + p) (by omega) (by omega), hD'] at e5
  have : w5 = delW w r (32 + p) r (38 + 10 * p) i d := by
    subst e5
    funext c b
    simp only [up_ap, hw', delW]
    grind
  rw [this]
  exact hQ
