/-! DRAWINGS: posts, lines, ends by arms, twists, degrees, rows; how the class and the model hold one -/
abbrev Dw : Type := Nat × Nat × (Nat → Nat) × (Nat → Bool) × (Nat → Nat) × (Nat → Nat → Nat)
abbrev dN (D : Dw) : Nat := D.1
abbrev dM (D : Dw) : Nat := D.2.1
abbrev dE (D : Dw) : Nat → Nat := D.2.2.1
abbrev dT (D : Dw) : Nat → Bool := D.2.2.2.1
abbrev dG (D : Dw) : Nat → Nat := D.2.2.2.2.1
abbrev dR (D : Dw) : Nat → Nat → Nat := D.2.2.2.2.2
/-- a line stands at a post -/
def atP (D : Dw) (e p : Nat) : Prop := dE D (2 * e) = p ∨ dE D (2 * e + 1) = p
def WF (D : Dw) : Prop := dN D ≤ 6 ∧ dM D ≤ 10 ∧ (∀ i, i < 2 * dM D → dE D i < dN D) ∧ (∀ e, e < dM D → dE D (2 * e) ≠ dE D (2 * e + 1)) ∧
  (∀ p i, p < dN D → i < dG D p → dR D p i < dM D ∧ atP D (dR D p i) p) ∧
  (∀ p i j, p < dN D → i < dG D p → j < dG D p → dR D p i = dR D p j → i = j) ∧
  (∀ p e, p < dN D → e < dM D → atP D e p → ∃ i, i < dG D p ∧ dR D p i = e)
def RepX (w : Wd) (k : Nat) (D : Dw) : Prop := w k 0 = dN D ∧ w k 1 = dM D ∧ (∃ t : Nat, w k 2 = t ∧ t < 1024 ∧ ∀ e, t.testBit e = (decide (e < dM D) && dT D e)) ∧
  (∀ i, i < 2 * dM D → w (k + 1) i = dE D i) ∧ (∀ p, p < dN D → w (k + 2) p = dG D p) ∧ (∀ p i, p < dN D → i < dG D p → w (k + 3) (10 * p + i) = dR D p i)
def RepM (w : Wd) (r : Nat) (D : Dw) : Prop := w r 0 = dN D ∧ w r 1 = dM D ∧ (∀ i, i < 2 * dM D → w r (2 + i) = dE D i) ∧ (∀ e, e < dM D → w r (22 + e) = if dT D e then 1 else 0) ∧
  (∀ p, p < dN D → w r (32 + p) = dG D p) ∧ (∀ p i, p < dN D → i < dG D p → w r (38 + 10 * p + i) = dR D p i)
theorem pigeon : ∀ (d m : Nat) (f : Nat → Nat), (∀ i, i < d → f i < m) → (∀ i j, i < d → j < d → f i = f j → i = j) → d ≤ m
  | 0, _, _, _, _ => Nat.zero_le _
  | d + 1, 0, f, h, _ => absurd (h 0 (by omega)) (by omega)
  | d + 1, m + 1, f, h, hi => by
    have := pigeon d m (fun i => if f i = m then f d else f i) (fun i hi' => by
      have h1 := h i (by omega)
      have h2 := h d (by omega)
      have h3 : f i = f d → i = d := hi i d (by omega) (by omega)
      show (if f i = m then f d else f i) < m
      split <;> omega) (fun i j hi' hj' e => by
      have h1 : f i = f d → i = d := hi i d (by omega) (by omega)
      have h2 : f j = f d → j = d := hi j d (by omega) (by omega)
      have h3 : f i = f j → i = j := hi i j (by omega) (by omega)
      have e : (if f i = m then f d else f i) = (if f j = m then f d else f j) := e
      split at e <;> split at e <;> omega)
    omega
theorem WF.deg {D : Dw} (h : WF D) {p : Nat} (hp : p < dN D) : dG D p ≤ dM D := pigeon _ _ (dR D p) (fun i hi => (h.2.2.2.2.1 p i hp hi).1) (fun i j hi hj e => h.2.2.2.2.2.1 p i j hp hi hj e)
/-- the first place of a number in a row -/
def pos (f : Nat → Nat) (e : Nat) : Nat → Nat
  | 0 => 0
  | d + 1 => if f 0 = e then 0 else pos (fun i => f (i + 1)) e d + 1
theorem pos_ok : ∀ (d : Nat) (f : Nat → Nat) (e i : Nat), i < d → f i = e → pos f e d < d ∧ f (pos f e d) = e ∧ ∀ j, j < pos f e d → f j ≠ e
  | 0, _, _, _, h, _ => by omega
  | d + 1, f, e, i, h, he => by
    unfold pos
    by_cases q : f 0 = e
    · rw [if_pos q]
      exact ⟨by omega, q, fun j hj => by omega⟩
    · rw [if_neg q]
      have hi : i ≠ 0 := fun z => q (z ▸ he)
      have := pos_ok d (fun i => f (i + 1)) e (i - 1) (by omega) (by show f (i - 1 + 1) = e; rw [show i - 1 + 1 = i by omega]; exact he)
      refine ⟨by omega, this.2.1, fun j hj => ?_⟩
      match j with
      | 0 => exact q
      | j + 1 => exact this.2.2 j (by omega)
theorem WF.pos {D : Dw} (h : WF D) {p e : Nat} (hp : p < dN D) (he : e < dM D) (ha : atP D e p) : pos (dR D p) e (dG D p) < dG D p ∧ dR D p (pos (dR D p) e (dG D p)) = e ∧ ∀ j, j < pos (dR D p) e (dG D p) → dR D p j ≠ e := by
  obtain ⟨i, hi, hie⟩ := h.2.2.2.2.2.2 p e hp he ha
  exact pos_ok _ _ _ i hi hie
/-- the world outside the four cells of a drawing; outside a row of the model -/
def offX (k : Nat) (w w' : Wd) : Prop := ∀ c j, (c < k ∨ k + 4 ≤ c) → w' c j = w c j
def offM (r : Nat) (w w' : Wd) : Prop := ∀ c j, c ≠ r → w' c j = w c j
def delR (f : Nat → Nat) (a : Nat) : Nat → Nat := fun j => if j < a then f j else f (j + 1)
def insR (f : Nat → Nat) (a e : Nat) : Nat → Nat := fun j => if j < a then f j else if j = a then e else f (j - 1)
def low (e x : Nat) : Nat := if e < x then x - 1 else x

/-- a line goes -/
def dDel (D : Dw) (e : Nat) : Dw := (dN D, dM D - 1, (fun i => if i < 2 * e then dE D i else dE D (i + 2)), (fun i => if i < e then dT D i else dT D (i + 1)), (fun p => if dE D (2 * e) = p ∨ dE D (2 * e + 1) = p then dG D p - 1 else dG D p), (fun p i => low e (if dE D (2 * e) = p ∨ dE D (2 * e + 1) = p then delR (dR D p) (pos (dR D p) e (dG D p)) i else dR D p i)))
/-- degrees and rows, wherever they lie -/
def RR (w : Wd) (cD bD cR bR n : Nat) (dg : Nat → Nat) (rw : Nat → Nat → Nat) : Prop := (∀ p, p < n → w cD (bD + p) = dg p) ∧ ∀ p i, p < n → i < dg p → w cR (bR + 10 * p + i) = rw p i
def apt (cD bD cR bR : Nat) : Prop := cD ≠ cR ∨ bD + 6 ≤ bR
theorem rr_del {w : Wd} {cD bD cR bR n p a : Nat} {dg : Nat → Nat} {rw_ : Nat → Nat → Nat} (hA : apt cD bD cR bR) (h : RR w cD bD cR bR n dg rw_) (hn : n ≤ 6) (hd : ∀ p, p < n → dg p ≤ 10) (hp : p < n) (ha : a < dg p) : RR (delW w cD (bD + p) cR (bR + 10 * p) a (dg p)) cD bD cR bR n (fun q => if q = p then dg q - 1 else dg q) (fun q i => if q = p then delR (rw_ q) a i else rw_ q i) := by
  obtain ⟨h1, h2⟩ := h
  unfold apt at hA
  have hdp := hd p hp
  refine ⟨fun q hq => ?_, fun q i hq hi => ?_⟩
  · dsimp only
    unfold delW
    rw [if_neg (by omega)]
    by_cases e : q = p
    · subst e
      rw [if_pos ⟨rfl, rfl⟩, if_pos rfl]
      omega
    · rw [if_neg (by omega), if_neg e]
      exact h1 q hq
  · have hdq := hd q hq
    dsimp only at hi ⊢
    unfold delW
    by_cases e : q = p
    · subst e
      rw [if_pos rfl] at hi
      rw [if_pos rfl]
      unfold delR
      by_cases z : i < a
      · rw [if_neg (by omega), if_neg (by omega), if_pos z]
        exact h2 q i hq (by omega)
      · rw [if_pos (by omega), if_neg z]
        exact h2 q (i + 1) hq (by omega)
    · rw [if_neg e] at hi
      rw [if_neg (by omega), if_neg (by omega), if_neg e]
      exact h2 q i hq hi
theorem rr_ins {w : Wd} {cD bD cR bR n p a x : Nat} {dg : Nat → Nat} {rw_ : Nat → Nat → Nat} (hA : apt cD bD cR bR) (h : RR w cD bD cR bR n dg rw_) (hn : n ≤ 6) (hd : ∀ p, p < n → dg p ≤ 10) (hp : p < n) (hd9 : dg p < 10) (ha : a ≤ dg p) : RR (insW w cD (bD + p) cR (bR + 10 * p) a (x : Int) (dg p)) cD bD cR bR n (fun q => if q = p then dg q + 1 else dg q) (fun q i => if q = p then insR (rw_ q) a x i else rw_ q i) := by
  obtain ⟨h1, h2⟩ := h
  unfold apt at hA
  have hdp := hd p hp
  refine ⟨fun q hq => ?_, fun q i hq hi => ?_⟩
  · dsimp only
    unfold insW
    rw [if_neg (by omega), if_neg (by omega)]
    by_cases e : q = p
    · subst e
      rw [if_pos ⟨rfl, rfl⟩, if_pos rfl]
      omega
    · rw [if_neg (by omega), if_neg e]
      exact h1 q hq
  · have hdq := hd q hq
    dsimp only at hi ⊢
    unfold insW
    by_cases e : q = p
    · subst e
      rw [if_pos rfl] at hi
      rw [if_pos rfl]
      unfold insR
      by_cases z : i < a
      · rw [if_neg (by omega), if_neg (by omega), if_neg (by omega), if_pos z]
        exact h2 q i hq (by omega)
      · by_cases y : i = a
        · rw [if_neg (by omega), if_pos (by omega), if_neg z, if_pos y]
        · rw [if_pos (by omega), if_neg z, if_neg y, show bR + 10 * q + i - 1 = bR + 10 * q + (i - 1) by omega]
          exact h2 q (i - 1) hq (by omega)
    · rw [if_neg e] at hi
      rw [if_neg (by omega), if_neg (by omega), if_neg (by omega), if_neg e]
      exact h2 q i hq hi
theorem delW_off {w : Wd} {cD iD cR bR a d c j : Nat} (h1 : ¬ (c = cR ∧ bR ≤ j ∧ j < bR + d)) (h2 : ¬ (c = cD ∧ j = iD)) : delW w cD iD cR bR a d c j = w c j := by
  unfold delW
  rw [if_neg (by omega), if_neg h2]
theorem insW_off {w : Wd} {cD iD cR bR a d c j : Nat} {e : Int} (ha : a ≤ d) (h1 : ¬ (c = cR ∧ bR ≤ j ∧ j ≤ bR + d)) (h2 : ¬ (c = cD ∧ j = iD)) : insW w cD iD cR bR a e d c j = w c j := by
  unfold insW
  rw [if_neg (by omega), if_neg (by omega), if_neg h2]
/-- two rows lose a line -/
theorem rr_del2 {w : Wd} {cD bD cR bR n p q a b : Nat} {dg : Nat → Nat} {rw_ : Nat → Nat → Nat} (hA : apt cD bD cR bR) (h : RR w cD bD cR bR n dg rw_) (hn : n ≤ 6) (hd : ∀ p, p < n → dg p ≤ 10) (hp : p < n) (hq : q < n) (hpq : p ≠ q) (ha : a < dg p) (hb : b < dg q) : RR (delW (delW w cD (bD + p) cR (bR + 10 * p) a (dg p)) cD (bD + q) cR (bR + 10 * q) b (dg q)) cD bD cR bR n (fun s => if p = s ∨ q = s then dg s - 1 else dg s) (fun s i => if p = s then delR (rw_ s) a i else if q = s then delR (rw_ s) b i else rw_ s i) := by
  have h1 := rr_del hA h hn hd hp ha
  have h2 := rr_del (p := q) (a := b) hA h1 hn (fun s hs => by have := hd s hs; show (if s = p then dg s - 1 else dg s) ≤ 10; split <;> omega) hq (by show b < if q = p then dg q - 1 else dg q; rw [if_neg (Ne.symm hpq)]; exact hb)
  rw [if_neg (Ne.symm hpq)] at h2
  refine ⟨fun s hs => ?_, fun s i hs hi => ?_⟩
  · rw [h2.1 s hs]
    dsimp only
    by_cases e1 : s = q
    · rw [if_pos e1, if_neg (by omega), if_pos (by omega)]
    · by_cases e2 : s = p
      · rw [if_neg e1, if_pos e2, if_pos (by omega)]
      · rw [if_neg e1, if_neg e2, if_neg (by omega)]
  · have hi' : i < if s = q then (if s = p then dg s - 1 else dg s) - 1 else (if s = p then dg s - 1 else dg s) := by
      dsimp only at hi
      by_cases e1 : s = q
      · rw [if_pos (by omega)] at hi
        rw [if_pos e1, if_neg (by omega)]
        exact hi
      · by_cases e2 : s = p
        · rw [if_pos (by omega)] at hi
          rw [if_neg e1, if_pos e2]
          exact hi
        · rw [if_neg (by omega)] at hi
          rw [if_neg e1, if_neg e2]
          exact hi
    rw [h2.2 s i hs hi']
    dsimp only
    by_cases e1 : s = q
    · subst e1
      rw [if_pos rfl, if_neg hpq, if_pos rfl]
      congr 1
      unfold delR
      simp only [if_neg (Ne.symm hpq)]
    · by_cases e2 : s = p
      · subst e2
        rw [if_neg e1, if_pos rfl, if_pos rfl]
      · rw [if_neg e1, if_neg e2, if_neg (Ne.symm e2), if_neg (Ne.symm e1)]
theorem low_int {e a : Nat} {x : Int} (h : x = (a : Int)) : (if (e : Int) < x then x - 1 else x) = (low e a : Nat) := by
  subst h
  unfold low
  by_cases q : e < a
  · rw [if_pos (by omega), if_pos q]; omega
  · rw [if_neg (by omega), if_neg q]
theorem dDel_deg {D : Dw} (hW : WF D) {e p : Nat} (hp : p < dN D) : dG (dDel D e) p ≤ 10 := by
  have h1 := hW.deg hp
  have h2 := hW.2.1
  have h3 : dG D p ≤ 10 := Nat.le_trans h1 h2
  show (if dE D (2 * e) = p ∨ dE D (2 * e + 1) = p then dG D p - 1 else dG D p) ≤ 10
  split
  · exact Nat.le_trans (Nat.sub_le _ _) h3
  · exact h3
theorem dDel_row {D : Dw} (hW : WF D) {e p i : Nat} (hp : p < dN D) (hi : i < dG (dDel D e) p) : (if dE D (2 * e) = p then delR (dR D p) (pos (dR D p) e (dG D p)) i else if dE D (2 * e + 1) = p then delR (dR D p) (pos (dR D p) e (dG D p)) i else dR D p i) < 10 ∧ dR (dDel D e) p i = low e (if dE D (2 * e) = p then delR (dR D p) (pos (dR D p) e (dG D p)) i else if dE D (2 * e + 1) = p then delR (dR D p) (pos (dR D p) e (dG D p)) i else dR D p i) := by
  have h1 := hW.2.1
  have h2 := hW.2.2.2.2.1 p i hp
  have h3 := hW.2.2.2.2.1 p (i + 1) hp
  have hi : i < if dE D (2 * e) = p ∨ dE D (2 * e + 1) = p then dG D p - 1 else dG D p := hi
  show _ ∧ low e (if dE D (2 * e) = p ∨ dE D (2 * e + 1) = p then delR (dR D p) (pos (dR D p) e (dG D p)) i else dR D p i) = _
  unfold delR
  by_cases a1 : dE D (2 * e) = p
  · rw [if_pos (Or.inl a1)] at hi
    rw [if_pos a1, if_pos (Or.inl a1)]
    refine ⟨?_, rfl⟩
    split <;> omega
  · by_cases a2 : dE D (2 * e + 1) = p
    · rw [if_pos (Or.inr a2)] at hi
      rw [if_neg a1, if_pos a2, if_pos (Or.inr a2)]
      refine ⟨?_, rfl⟩
      split <;> omega
    · rw [if_neg (fun z => z.elim a1 a2)] at hi
      rw [if_neg a1, if_neg a2, if_neg (fun z => z.elim a1 a2)]
      exact ⟨by omega, rfl⟩
theorem X1_dropLine_ok {k : Nat} {Q : Wd → Prop} {w : Wd} {D : Dw} {x1 : Int} (e : Nat) (h1 : x1 = (e : Int)) (hW : WF D) (he : e < dM D) (hR : RepX w k D) (hQ : ∀ w', RepX w' k (dDel D e) → offX k w w' → Q w') : X1_dropLine k x1 w Q := by
  subst h1
  obtain ⟨n6, m10, hen, hne, hrow, hinj, hsur⟩ := id hW
  obtain ⟨r0, r1, ⟨t, rt, ht, htb⟩, r3, r4, r5⟩ := hR
  obtain ⟨a, ha⟩ : ∃ a, a = dE D (2 * e) := ⟨_, rfl⟩
  obtain ⟨b, hb⟩ : ∃ b, b = dE D (2 * e + 1) := ⟨_, rfl⟩
  have hab : a ≠ b := by rw [ha, hb]; exact hne e he
  have han : a < dN D := by rw [ha]; exact hen _ (by omega)
  have hbn : b < dN D := by rw [hb]; exact hen _ (by omega)
  have hpa := hW.pos han he (Or.inl ha.symm)
  have hpb := hW.pos hbn he (Or.inr hb.symm)
  have hda := hW.deg han
  have hdb := hW.deg hbn
  have hRR : RR w (k + 2) 0 (k + 3) 0 (dN D) (dG D) (dR D) := ⟨fun p hp => by rw [Nat.zero_add]; exact r4 p hp, fun p i hp hi => by rw [Nat.zero_add]; exact r5 p i hp hi⟩
  have hv := rr_del2 (Or.inl (by omega)) hRR n6 (fun p hp => by have := hW.deg hp; omega) han hbn hab hpa.1 hpb.1
  rw [Nat.zero_add, Nat.zero_add, Nat.zero_add, Nat.zero_add] at hv
  unfold X1_dropLine
  refine ⟨ix_of (n := 2 * e) (by omega) (by omega) (by decide), ?_⟩
  rw [rd_of (n := 2 * e) (by omega) (by omega), r3 (2 * e) (by omega)]
  refine X1_takeOut_ok a (dG D a) (dR D a) (pos (dR D a) e (dG D a)) e (by rw [ha]) rfl (by omega) (by omega) (r4 a han) (fun j hj => ⟨r5 a j han hj, by have := (hrow a j han hj).1; omega⟩) (by omega) hpa.1 hpa.2.1 hpa.2.2 ?_
  refine ⟨ix_of (n := 2 * e + 1) (by omega) (by omega) (by decide), ?_⟩
  rw [rd_of (n := 2 * e + 1) (by omega) (by omega), delW_off (by omega) (by omega), r3 (2 * e + 1) (by omega)]
  refine X1_takeOut_ok b (dG D b) (dR D b) (pos (dR D b) e (dG D b)) e (by rw [hb]) rfl (by omega) (by omega) ?_ (fun j hj => ⟨?_, by have := (hrow b j hbn hj).1; omega⟩) (by omega) hpb.1 hpb.2.1 hpb.2.2 ?_
  · rw [delW_off (by omega) (by omega), r4 b hbn]
  · rw [delW_off (by omega) (by omega), r5 b j hbn hj]
  have off : ∀ c j, c ≠ k + 2 → c ≠ k + 3 → delW (delW w (k + 2) a (k + 3) (10 * a) (pos (dR D a) e (dG D a)) (dG D a)) (k + 2) b (k + 3) (10 * b) (pos (dR D b) e (dG D b)) (dG D b) c j = w c j := fun c j h1 h2 => by rw [delW_off (by omega) (by omega), delW_off (by omega) (by omega)]
  obtain ⟨v, hve⟩ : ∃ v, v = delW (delW w (k + 2) a (k + 3) (10 * a) (pos (dR D a) e (dG D a)) (dG D a)) (k + 2) b (k + 3) (10 * b) (pos (dR D b) e (dG D b)) (dG D b) := ⟨_, rfl⟩
  rw [← hve] at hv off ⊢
  obtain ⟨vg, vr⟩ := hv
  have vg' : ∀ q, q < dN D → v (k + 2) q = dG (dDel D e) q := fun q hq => by
    have := vg q hq
    rw [Nat.zero_add] at this
    rw [this, ha, hb]
    rfl
  have vr' : ∀ q i, q < dN D → i < dG (dDel D e) q → v (k + 3) (10 * q + i) = ((if dE D (2 * e) = q then delR (dR D q) (pos (dR D q) e (dG D q)) i else if dE D (2 * e + 1) = q then delR (dR D q) (pos (dR D q) e (dG D q)) i else dR D q i : Nat) : Int) := fun q i hq hi => by
    have := vr q i hq (by rw [ha, hb]; exact hi)
    rw [Nat.zero_add] at this
    rw [this, ha, hb]
    congr 1
    dsimp only
    by_cases z1 : dE D (2 * e) = q
    · subst z1; rw [if_pos rfl, if_pos rfl]
    · rw [if_neg z1, if_neg z1]
      by_cases z2 : dE D (2 * e + 1) = q
      · subst z2; rw [if_pos rfl]
      · rw [if_neg z2, if_neg z2]
  refine X1_closeLine_ok e (dN D) (dM D) t (dG (dDel D e)) rfl he n6 m10 ht (by rw [off _ _ (by omega) (by omega)]; exact r0) (by rw [off _ _ (by omega) (by omega)]; exact r1) (by rw [off _ _ (by omega) (by omega)]; exact rt) (fun q hq => ⟨vg' q hq, dDel_deg hW hq⟩) (fun q i hq hi => ⟨_, vr' q i hq hi, by have := (dDel_row hW hq hi).1; omega⟩) ?_
  refine hQ _ ⟨?_, ?_, ⟨bdel t e, ?_, bdel_lt ht, fun i => ?_⟩, ?_, ?_, ?_⟩ ?_
  · unfold clX
    rw [if_neg (by omega), if_neg (by omega), if_neg (by omega), if_neg (by omega), off _ _ (by omega) (by omega)]
    exact r0
  · unfold clX
    rw [if_pos ⟨rfl, rfl⟩]
    show (dM D : Int) - 1 = ((dM D - 1 : Nat) : Int)
    omega
  · unfold clX
    rw [if_neg (by omega), if_pos ⟨rfl, rfl⟩]
  · rw [bdel_bit ht (by omega), htb, htb]
    show _ = (decide (i < dM D - 1) && if i < e then dT D i else dT D (i + 1))
    by_cases q : i < e
    · rw [if_pos q, if_pos q, decide_eq_true (by omega : i < dM D), decide_eq_true (by omega : i < dM D - 1)]
    · rw [if_neg q, if_neg q]
      by_cases q2 : i < dM D - 1
      · rw [decide_eq_true q2, decide_eq_true (by omega : i + 1 < dM D)]
      · rw [decide_eq_false q2, decide_eq_false (by omega : ¬ i + 1 < dM D)]
  · intro i hi
    have hi : i < 2 * (dM D - 1) := hi
    unfold clX
    show _ = ((if i < 2 * e then dE D i else dE D (i + 2) : Nat) : Int)
    rw [if_neg (by omega), if_neg (by omega)]
    by_cases q : i < 2 * e
    · rw [if_neg (by omega), if_neg (by omega), if_pos q, off _ _ (by omega) (by omega)]
      exact r3 i (by omega)
    · rw [if_pos (by omega), if_neg q, off _ _ (by omega) (by omega)]
      exact r3 (i + 2) (by omega)
  · intro p hp
    unfold clX
    rw [if_neg (by omega), if_neg (by omega), if_neg (by omega), if_neg (by omega)]
    exact vg' p hp
  · intro p i hp hi
    have hp : p < dN D := hp
    have h2 := dDel_deg (e := e) hW hp
    have h3 : (10 * p + i) / 10 = p := by omega
    have h4 : (10 * p + i) % 10 = i := by omega
    rw [(dDel_row hW hp hi).2]
    unfold clX
    rw [if_neg (by omega), if_neg (by omega), if_neg (by omega), h3, h4, ← low_int (vr' p i hp hi)]
    by_cases q : (e : Int) < v (k + 3) (10 * p + i)
    · rw [if_pos ⟨rfl, hp, hi, q⟩, if_pos q]
    · rw [if_neg (fun z => q z.2.2.2), if_neg q]
  · intro c j hc
    unfold clX
    rw [if_neg (by omega), if_neg (by omega), if_neg (by omega), if_neg (by omega), off _ _ (by omega) (by omega)]
theorem X11_takesOut_ok {r : Nat} {Q : Wd → Prop} {w : Wd} {D : Dw} {x1 : Int} (e : Nat) (h1 : x1 = (e : Int)) (hW : WF D) (he : e < dM D) (hR : RepM w r D) (hQ : ∀ w', RepM w' r (dDel D e) → offM r w w' → Q w') : X11_takesOut r x1 w Q := by
  subst h1
  obtain ⟨n6, m10, hen, hne, hrow, hinj, hsur⟩ := id hW
  obtain ⟨r0, r1, r3, rt, r4, r5⟩ := hR
  obtain ⟨a, ha⟩ : ∃ a, a = dE D (2 * e) := ⟨_, rfl⟩
  obtain ⟨b, hb⟩ : ∃ b, b = dE D (2 * e + 1) := ⟨_, rfl⟩
  have hab : a ≠ b := by rw [ha, hb]; exact hne e he
  have han : a < dN D := by rw [ha]; exact hen _ (by omega)
  have hbn : b < dN D := by rw [hb]; exact hen _ (by omega)
  have hpa := hW.pos han he (Or.inl ha.symm)
  have hpb := hW.pos hbn he (Or.inr hb.symm)
  have hda := hW.deg han
  have hdb := hW.deg hbn
  have hRR : RR w r 32 r 38 (dN D) (dG D) (dR D) := ⟨r4, r5⟩
  have hv := rr_del2 (Or.inr (by omega)) hRR n6 (fun p hp => by have := hW.deg hp; omega) han hbn hab hpa.1 hpb.1
  unfold X11_takesOut
  refine ⟨ix_of (n := 2 + 2 * e) (by omega) (by omega) (by decide), ?_⟩
  rw [rd_of (n := 2 + 2 * e) (by omega) (by omega), r3 (2 * e) (by omega)]
  refine X11_drops_ok a (dG D a) (dR D a) (pos (dR D a) e (dG D a)) e (by rw [ha]) rfl (by omega) (by omega) (r4 a han) (fun j hj => ⟨r5 a j han hj, by have := (hrow a j han hj).1; omega⟩) (by omega) hpa.1 hpa.2.1 hpa.2.2 ?_
  refine ⟨ix_of (n := 2 + (2 * e + 1)) (by omega) (by omega) (by decide), ?_⟩
  rw [rd_of (n := 2 + (2 * e + 1)) (by omega) (by omega), delW_off (by omega) (by omega), r3 (2 * e + 1) (by omega)]
  refine X11_drops_ok b (dG D b) (dR D b) (pos (dR D b) e (dG D b)) e (by rw [hb]) rfl (by omega) (by omega) ?_ (fun j hj => ⟨?_, by have := (hrow b j hbn hj).1; omega⟩) (by omega) hpb.1 hpb.2.1 hpb.2.2 ?_
  · rw [delW_off (by omega) (by omega), r4 b hbn]
  · rw [delW_off (by omega) (by omega), r5 b j hbn hj]
  have off : ∀ c j, c ≠ r ∨ j < 32 → delW (delW w r (32 + a) r (38 + 10 * a) (pos (dR D a) e (dG D a)) (dG D a)) r (32 + b) r (38 + 10 * b) (pos (dR D b) e (dG D b)) (dG D b) c j = w c j := fun c j h1 => by rw [delW_off (by omega) (by omega), delW_off (by omega) (by omega)]
  obtain ⟨v, hve⟩ : ∃ v, v = delW (delW w r (32 + a) r (38 + 10 * a) (pos (dR D a) e (dG D a)) (dG D a)) r (32 + b) r (38 + 10 * b) (pos (dR D b) e (dG D b)) (dG D b) := ⟨_, rfl⟩
  rw [← hve] at hv off ⊢
  obtain ⟨vg, vr⟩ := hv
  have vg' : ∀ q, q < dN D → v r (32 + q) = dG (dDel D e) q := fun q hq => by
    have := vg q hq
    rw [this, ha, hb]
    rfl
  have vr' : ∀ q i, q < dN D → i < dG (dDel D e) q → v r (38 + 10 * q + i) = ((if dE D (2 * e) = q then delR (dR D q) (pos (dR D q) e (dG D q)) i else if dE D (2 * e + 1) = q then delR (dR D q) (pos (dR D q) e (dG D q)) i else dR D q i : Nat) : Int) := fun q i hq hi => by
    have := vr q i hq (by rw [ha, hb]; exact hi)
    rw [this, ha, hb]
    congr 1
    dsimp only
    by_cases z1 : dE D (2 * e) = q
    · subst z1; rw [if_pos rfl, if_pos rfl]
    · rw [if_neg z1, if_neg z1]
      by_cases z2 : dE D (2 * e + 1) = q
      · subst z2; rw [if_pos rfl]
      · rw [if_neg z2, if_neg z2]
  refine X11_closesUp_ok e (dN D) (dM D) (dG (dDel D e)) rfl he n6 m10 (by rw [off _ _ (by omega)]; exact r0) (by rw [off _ _ (by omega)]; exact r1) (fun q hq => ⟨vg' q hq, dDel_deg hW hq⟩) (fun q i hq hi => ⟨_, vr' q i hq hi, by have := (dDel_row hW hq hi).1; omega⟩) ?_
  refine hQ _ ⟨?_, ?_, ?_, ?_, ?_, ?_⟩ ?_
  · unfold clM
    rw [if_neg (by omega), if_neg (by omega), if_neg (by omega), if_neg (by omega), off _ _ (by omega)]
    exact r0
  · unfold clM
    rw [if_pos ⟨rfl, rfl⟩]
    show (dM D : Int) - 1 = ((dM D - 1 : Nat) : Int)
    omega
  · intro i hi
    have hi : i < 2 * (dM D - 1) := hi
    unfold clM
    show _ = ((if i < 2 * e then dE D i else dE D (i + 2) : Nat) : Int)
    rw [if_neg (by omega)]
    by_cases q : i < 2 * e
    · rw [if_neg (by omega), if_neg (by omega), if_neg (by omega), if_pos q, off _ _ (by omega)]
      exact r3 i (by omega)
    · rw [if_pos (by omega), if_neg q, off _ _ (by omega), show 2 + i + 2 = 2 + (i + 2) by omega]
      exact r3 (i + 2) (by omega)
  · intro i hi
    have hi : i < dM D - 1 := hi
    unfold clM
    show _ = if (if i < e then dT D i else dT D (i + 1)) then (1 : Int) else 0
    rw [if_neg (by omega), if_neg (by omega)]
    by_cases q : i < e
    · rw [if_neg (by omega), if_neg (by omega), if_pos q, off _ _ (by omega)]
      exact rt i (by omega)
    · rw [if_pos (by omega), if_neg q, off _ _ (by omega), show 22 + i + 1 = 22 + (i + 1) by omega]
      exact rt (i + 1) (by omega)
  · intro p hp
    have hp : p < dN D := hp
    unfold clM
    rw [if_neg (by omega), if_neg (by omega), if_neg (by omega), if_neg (by omega)]
    exact vg' p hp
  · intro p i hp hi
    have hp : p < dN D := hp
    have h2 := dDel_deg (e := e) hW hp
    have h3 : (38 + 10 * p + i - 38) / 10 = p := by omega
    have h4 : (38 + 10 * p + i - 38) % 10 = i := by omega
    rw [(dDel_row hW hp hi).2]
    unfold clM
    rw [if_neg (by omega), if_neg (by omega), if_neg (by omega), h3, h4, ← low_int (vr' p i hp hi)]
    by_cases q : (e : Int) < v r (38 + 10 * p + i)
    · rw [if_pos ⟨rfl, by omega, hp, hi, q⟩, if_pos q]
    · rw [if_neg (fun z => q z.2.2.2.2), if_neg q]
  · intro c j hc
    unfold clM
    rw [if_neg (fun z => hc z.1), if_neg (fun z => hc z.1), if_neg (fun z => hc z.1), if_neg (fun z => hc z.1), off _ _ (Or.inl hc)]
theorem dDel_WF {D : Dw} (hW : WF D) {e : Nat} (he : e < dM D) : WF (dDel D e) := by
  obtain ⟨n6, m10, hen, hne, hrow, hinj, hsur⟩ := id hW
  have hat : ∀ p, atP D e p ↔ (dE D (2 * e) = p ∨ dE D (2 * e + 1) = p) := fun p => Iff.rfl
  -- the row without the line, before the numbers are lowered
  obtain ⟨g, hg⟩ : ∃ g : Nat → Nat → Nat, g = fun p i => if dE D (2 * e) = p ∨ dE D (2 * e + 1) = p then delR (dR D p) (pos (dR D p) e (dG D p)) i else dR D p i := ⟨_, rfl⟩
  obtain ⟨d, hd⟩ : ∃ d : Nat → Nat, d = fun p => if dE D (2 * e) = p ∨ dE D (2 * e + 1) = p then dG D p - 1 else dG D p := ⟨_, rfl⟩
  have key : ∀ p, p < dN D → (∀ i, i < d p → g p i < dM D ∧ atP D (g p i) p ∧ g p i ≠ e) ∧ (∀ i j, i < d p → j < d p → g p i = g p j → i = j) ∧ (∀ x, x < dM D → x ≠ e → atP D x p → ∃ i, i < d p ∧ g p i = x) := by
    intro p hp
    by_cases c : dE D (2 * e) = p ∨ dE D (2 * e + 1) = p
    · have hpos := hW.pos hp he c
      have hdp : d p = dG D p - 1 := by rw [hd]; exact if_pos c
      have hgp : ∀ i, g p i = if i < pos (dR D p) e (dG D p) then dR D p i else dR D p (i + 1) := fun i => by
        rw [hg]
        show (if _ then _ else _) = _
        rw [if_pos c]
        rfl
      refine ⟨fun i hi => ?_, fun i j hi hj h => ?_, fun x hx hxe hxa => ?_⟩
      · rw [hgp]
        by_cases q : i < pos (dR D p) e (dG D p)
        · rw [if_pos q]
          have := hrow p i hp (by omega)
          exact ⟨this.1, this.2, hpos.2.2 i q⟩
        · rw [if_neg q]
          have := hrow p (i + 1) hp (by omega)
          refine ⟨this.1, this.2, fun z => ?_⟩
          have := hinj p (i + 1) (pos (dR D p) e (dG D p)) hp (by omega) hpos.1 (by rw [z, hpos.2.1])
          omega
      · rw [hgp, hgp] at h
        by_cases q : i < pos (dR D p) e (dG D p) <;> by_cases s : j < pos (dR D p) e (dG D p)
        · rw [if_pos q, if_pos s] at h
          exact hinj p i j hp (by omega) (by omega) h
        · rw [if_pos q, if_neg s] at h
          have := hinj p i (j + 1) hp (by omega) (by omega) h
          omega
        · rw [if_neg q, if_pos s] at h
          have := hinj p (i + 1) j hp (by omega) (by omega) h
          omega
        · rw [if_neg q, if_neg s] at h
          have := hinj p (i + 1) (j + 1) hp (by omega) (by omega) h
          omega
      · obtain ⟨i, hi, hix⟩ := hsur p x hp hx hxa
        have hne2 : i ≠ pos (dR D p) e (dG D p) := fun z => hxe (by rw [← hix, z, hpos.2.1])
        rcases Nat.lt_or_ge i (pos (dR D p) e (dG D p)) with q | q
        · exact ⟨i, by omega, by rw [hgp, if_pos q, hix]⟩
        · exact ⟨i - 1, by omega, by rw [hgp, if_neg (by omega), show i - 1 + 1 = i by omega, hix]⟩
    · have hdp : d p = dG D p := by rw [hd]; exact if_neg c
      have hgp : ∀ i, g p i = dR D p i := fun i => by rw [hg]; exact if_neg c
      refine ⟨fun i hi => ?_, fun i j hi hj h => ?_, fun x hx hxe hxa => ?_⟩
      · rw [hgp]
        have := hrow p i hp (by omega)
        exact ⟨this.1, this.2, fun z => c (by rw [z] at this; exact this.2)⟩
      · rw [hgp, hgp] at h
        exact hinj p i j hp (by omega) (by omega) h
      · obtain ⟨i, hi, hix⟩ := hsur p x hp hx hxa
        exact ⟨i, by omega, by rw [hgp, hix]⟩
  have hE : ∀ x, x ≠ e → dE (dDel D e) (2 * low e x) = dE D (2 * x) ∧ dE (dDel D e) (2 * low e x + 1) = dE D (2 * x + 1) := by
    intro x hx
    show (if 2 * low e x < 2 * e then dE D (2 * low e x) else dE D (2 * low e x + 2)) = _ ∧ (if 2 * low e x + 1 < 2 * e then dE D (2 * low e x + 1) else dE D (2 * low e x + 1 + 2)) = _
    unfold low
    by_cases q : e < x
    · rw [if_pos q, if_neg (by omega), if_neg (by omega), show 2 * (x - 1) + 2 = 2 * x by omega, show 2 * (x - 1) + 1 + 2 = 2 * x + 1 by omega]
      exact ⟨rfl, rfl⟩
    · rw [if_neg q, if_pos (by omega), if_pos (by omega)]
      exact ⟨rfl, rfl⟩
  have hAt : ∀ x p, x ≠ e → (atP (dDel D e) (low e x) p ↔ atP D x p) := by
    intro x p hx
    unfold atP
    rw [(hE x hx).1, (hE x hx).2]
  have hlow : ∀ x y, x ≠ e → y ≠ e → low e x = low e y → x = y := by
    intro x y hx hy h
    unfold low at h
    split at h <;> split at h <;> omega
  have hup : ∀ y, ∃ x, x ≠ e ∧ low e x = y ∧ (y < dM D - 1 → x < dM D) := by
    intro y
    by_cases q : y < e
    · exact ⟨y, by omega, by unfold low; rw [if_neg (by omega)], fun _ => by omega⟩
    · exact ⟨y + 1, by omega, by unfold low; rw [if_pos (by omega)]; omega, fun h => by omega⟩
  have hGd : ∀ p, dG (dDel D e) p = d p := fun p => by rw [hd]; rfl
  have hRg : ∀ p i, dR (dDel D e) p i = low e (g p i) := fun p i => by rw [hg]; rfl
  refine ⟨n6, by show dM D - 1 ≤ 10; omega, fun i hi => ?_, fun x hx => ?_, fun p i hp hi => ?_, fun p i j hp hi hj h => ?_, fun p y hp hy ha => ?_⟩
  · have hi : i < 2 * (dM D - 1) := hi
    show (if i < 2 * e then dE D i else dE D (i + 2)) < dN D
    split
    · exact hen i (by omega)
    · exact hen (i + 2) (by omega)
  · obtain ⟨z, hz, hzl, hzm⟩ := hup x
    have hx : x < dM D - 1 := hx
    rw [← hzl, (hE z hz).1, (hE z hz).2]
    exact hne z (hzm hx)
  · have hp : p < dN D := hp
    rw [hGd] at hi
    have := (key p hp).1 i hi
    rw [hRg]
    refine ⟨?_, (hAt _ _ this.2.2).mpr this.2.1⟩
    show low e (g p i) < dM D - 1
    unfold low
    split <;> omega
  · have hp : p < dN D := hp
    rw [hGd] at hi hj
    rw [hRg, hRg] at h
    exact (key p hp).2.1 i j hi hj (hlow _ _ ((key p hp).1 i hi).2.2 ((key p hp).1 j hj).2.2 h)
  · have hp : p < dN D := hp
    obtain ⟨z, hz, hzl, hzm⟩ := hup y
    rw [← hzl] at ha
    obtain ⟨i, hi, hiz⟩ := (key p hp).2.2 z (hzm hy) hz ((hAt z p hz).mp ha)
    exact ⟨i, by rw [hGd]; exact hi, by rw [hRg, hiz, hzl]⟩
