/-- faces beside each other -/
def BsR (D : Dw) (f g : Nat) : Prop := ∃ e, e < dM D ∧ ((fo D (2 * e) = f ∧ fo D (2 * dM D + 2 * e) = g) ∨ (fo D (2 * e) = g ∧ fo D (2 * dM D + 2 * e) = f))
def BsK (D : Dw) (k f g : Nat) : Prop := ∃ e, e < k ∧ ((fo D (2 * e) = f ∧ fo D (2 * dM D + 2 * e) = g) ∨ (fo D (2 * e) = g ∧ fo D (2 * dM D + 2 * e) = f))
/-- how many faces -/
noncomputable def nFa (D : Dw) : Nat := nF D (4 * dM D) + nBr D (dN D)
/-- the class's tracing holds a drawing's faces -/
def RepT (w : Wd) (T : Nat) (D : Dw) : Prop := w T 0 = (nFa D : Int) ∧ TT w T D (tF D (4 * dM D)) ∧
  (∀ l, l < 4 * dM D → ldr (Fc D) l → w (T + 1) (ncl (Fc D) l) = (pF D l : Int) ∧ w (T + 5) (ncl (Fc D) l) = (tF D l : Int)) ∧
  (∀ j, nF D (4 * dM D) ≤ j → j < nFa D → w (T + 1) j = 0) ∧
  (∀ f, f < 16 → ∃ L : Nat, w (T + 2) f = (L : Int) ∧ Bts L 16 (BsR D f))
theorem RepT.of {w w' : Wd} {T : Nat} {D : Dw} (h : RepT w T D) (e : ∀ c j, T ≤ c → c < T + 7 → w' c j = w c j) : RepT w' T D := by
  obtain ⟨h1, h2, h3, h4, h5⟩ := h
  refine ⟨by rw [e _ _ (by omega) (by omega)]; exact h1, TT.of h2 (fun c j hc => e c j (by omega) (by omega)), fun l hl hd => ?_, fun j a b => ?_, fun f hf => ?_⟩
  · rw [e _ _ (by omega) (by omega), e _ _ (by omega) (by omega)]; exact h3 l hl hd
  · rw [e _ _ (by omega) (by omega)]; exact h4 j a b
  · rw [e _ _ (by omega) (by omega)]; exact h5 f hf
theorem nFa_lt {D : Dw} (hW : WF D) : nFa D ≤ 16 := by
  have h1 := (nF_le hW (Nat.le_refl (4 * dM D))).1
  have h2 := nBr_le D (dN D)
  have h3 := hW.1
  have h4 := hW.2.1
  unfold nFa; omega
/-- the sides of a line -/
theorem TT.sides {w : Wd} {T : Nat} {D : Dw} (hW : WF D) (h : TT w T D (tF D (4 * dM D))) {e : Nat} (he : e < dM D) : w (T + 3) (2 * e) = ((min (fo D (2 * e)) (fo D (2 * dM D + 2 * e)) : Nat) : Int) ∧ w (T + 3) (2 * e + 1) = ((max (fo D (2 * e)) (fo D (2 * dM D + 2 * e)) : Nat) : Int) := by
  obtain ⟨u, v, huv, hv, h1, h2, h3⟩ := vL_both hW he
  have hmono := fo_mono hW (Nat.le_of_lt huv) hv
  have hu : u < tF D (4 * dM D) := by omega
  have a1 := h.2.2.2.1 u hu (fun t ht hne => by
    have := vL_two hW hu hv (show t < tF D (4 * dM D) by omega) (by rw [h1, h2]) hne.symm (by omega) (by omega)
    omega)
  have a2 := h.2.2.2.2 v hv ⟨u, huv, by rw [h1, h2]⟩
  rw [h1] at a1
  rw [h2] at a2
  rw [a1.1, a2.1]
  rcases h3 with ⟨b1, b2⟩ | ⟨b1, b2⟩
  · rw [b1, b2] at hmono ⊢
    exact ⟨by rw [Nat.min_eq_left hmono], by rw [Nat.max_eq_right hmono]⟩
  · rw [b1, b2] at hmono ⊢
    exact ⟨by rw [Nat.min_eq_right hmono], by rw [Nat.max_eq_left hmono]⟩
theorem fo_16 {D : Dw} (hW : WF D) {s : Nat} (hs : s < 4 * dM D) : fo D s < 10 := by
  have h1 := (nF_le hW (Nat.le_refl (4 * dM D))).1
  have h2 := fo_lt hW hs
  have h4 := hW.2.1
  omega
theorem X8_setNeighbours_ok {T : Nat} {Q : Wd → Prop} {w : Wd} {D : Dw} {x : Int} (hW : WF D) (hx : x = (dM D : Int)) (hT : TT w T D (tF D (4 * dM D))) (ha : aln (T + 2) = 16)
    (hQ : ∀ w', (∀ f, f < 16 → ∃ L : Nat, w' (T + 2) f = (L : Int) ∧ Bts L 16 (BsR D f)) → (∀ c j, c ≠ T + 2 → w' c j = w c j) → Q w') : X8_setNeighbours T x w Q := by
  subst hx
  have m10 := hW.2.1
  unfold X8_setNeighbours
  refine fill_ok (by rw [ha]; decide) (fun w1 hw1 => ?_)
  rw [ha] at hw1
  have key : ∀ (m e : Nat) (v : Wd), e ≤ dM D → dM D - e < m → (∀ f, f < 16 → ∃ L : Nat, v (T + 2) f = (L : Int) ∧ Bts L 16 (BsK D e f)) → (∀ c j, c ≠ T + 2 → v c j = w c j) → X8_setNeighbours_l10 T Q (X8_setNeighbours_b77 T Q) m (dM D : Int) (e : Int) v := by
    intro m
    induction m with
    | zero => intro e v a1 a2; omega
    | succ m ih =>
      intro e v a1 a2 vB voff
      unfold X8_setNeighbours_l10
      rw [wr_nat (n := dM D) (by omega), wr_nat (n := e) (by omega)]
      refine ⟨fun z => ?_, fun z => ?_⟩
      · have : e = dM D := by omega
        subst this
        exact hQ v vB voff
      · have he : e < dM D := by omega
        have hs := hT.sides hW he
        obtain ⟨a, hae⟩ : ∃ a, a = fo D (2 * e) := ⟨_, rfl⟩
        obtain ⟨b, hbe⟩ : ∃ b, b = fo D (2 * dM D + 2 * e) := ⟨_, rfl⟩
        have ha' : a < 10 := by rw [hae]; exact fo_16 hW (by omega)
        have hb' : b < 10 := by rw [hbe]; exact fo_16 hW (by omega)
        rw [← hae, ← hbe] at hs
        obtain ⟨p, hpe⟩ : ∃ p, p = min a b := ⟨_, rfl⟩
        obtain ⟨q, hqe⟩ : ∃ q, q = max a b := ⟨_, rfl⟩
        rw [← hpe, ← hqe] at hs
        have hp : p < 16 := by omega
        have hq : q < 16 := by omega
        have v1 : v (T + 3) (2 * e) = (p : Int) := by rw [voff _ _ (by omega)]; exact hs.1
        have v2 : v (T + 3) (2 * e + 1) = (q : Int) := by rw [voff _ _ (by omega)]; exact hs.2
        have r1 : rd v (T + 3) (2 * (e : Int)) = (p : Int) := by rw [rd_of (n := 2 * e) (by omega) (by omega)]; exact v1
        have r2 : rd v (T + 3) (2 * (e : Int) + 1) = (q : Int) := by rw [rd_of (n := 2 * e + 1) (by omega) (by omega)]; exact v2
        rw [r1, r2]
        obtain ⟨L1, hL1, hB1⟩ := vB p hp
        have b1 : L1 < 2 ^ 16 := hB1.1
        have b2 : 2 ^ q < 2 ^ 16 := Nat.pow_lt_pow_right (by decide) hq
        have b3 : 2 ^ p < 2 ^ 16 := Nat.pow_lt_pow_right (by decide) hp
        refine ⟨ix_of (n := 2 * e) (by omega) (by omega) (by decide), ix_of rfl hp (by decide), ix_of (n := 2 * e + 1) (by omega) (by omega) (by decide), ix_of rfl hp (by decide), ?_⟩
        intro w2 e2
        rw [wt_of rfl (by omega), rd_of rfl (by omega), hL1, isl1 (by omega), ior_nat (by omega) (by omega)] at e2
        have w21 : w2 (T + 3) (2 * e) = (p : Int) := by rw [e2, up_ap, if_neg (by omega)]; exact v1
        have w22 : w2 (T + 3) (2 * e + 1) = (q : Int) := by rw [e2, up_ap, if_neg (by omega)]; exact v2
        have r3 : rd w2 (T + 3) (2 * (e : Int)) = (p : Int) := by rw [rd_of (n := 2 * e) (by omega) (by omega)]; exact w21
        have r4 : rd w2 (T + 3) (2 * (e : Int) + 1) = (q : Int) := by rw [rd_of (n := 2 * e + 1) (by omega) (by omega)]; exact w22
        rw [r3, r4]
        have hw2 : ∃ L2 : Nat, w2 (T + 2) q = (L2 : Int) ∧ Bts L2 16 (fun g => BsK D e q g ∨ (q = p ∧ g = q)) := by
          by_cases hqp : q = p
          · refine ⟨L1 ||| 2 ^ q, by rw [e2, hqp, up_eq], (hB1.set hq).congr (fun g _ => ?_)⟩
            rw [hqp]
            simp
          · obtain ⟨L2, hL2, hB2⟩ := vB q hq
            exact ⟨L2, by rw [e2, up_ap, if_neg (by omega)]; exact hL2, hB2.congr (fun g _ => ⟨Or.inl, fun y => y.elim id (fun y => absurd y.1 hqp)⟩)⟩
        obtain ⟨L2, hL2, hB2⟩ := hw2
        have b4 : L2 < 2 ^ 16 := hB2.1
        refine ⟨ix_of (n := 2 * e + 1) (by omega) (by omega) (by decide), ix_of rfl hq (by decide), ix_of (n := 2 * e) (by omega) (by omega) (by decide), ix_of rfl hq (by decide), ?_⟩
        intro w3 e3
        rw [wt_of rfl (by omega), rd_of rfl (by omega), hL2, isl1 (by omega), ior_nat (by omega) (by omega)] at e3
        rw [show (e : Int) + 1 = ((e + 1 : Nat) : Int) by omega]
        -- what a line adds
        have hst : ∀ f g, BsK D (e + 1) f g ↔ (BsK D e f g ∨ (f = p ∧ g = q) ∨ (f = q ∧ g = p)) := by
          intro f g
          constructor
          · rintro ⟨d, hd, y⟩
            by_cases z2 : d = e
            · subst z2
              rw [← hae, ← hbe] at y
              omega
            · exact Or.inl ⟨d, by omega, y⟩
          · rintro (⟨d, hd, y⟩ | y)
            · exact ⟨d, by omega, y⟩
            · refine ⟨e, by omega, ?_⟩
              rw [← hae, ← hbe]
              omega
        refine ih (e + 1) w3 (by omega) (by omega) (fun f hf => ?_) (fun c j hc => ?_)
        · by_cases f1 : f = q
          · refine ⟨L2 ||| 2 ^ p, by rw [e3, f1, up_eq], (hB2.set hp).congr (fun g _ => ?_)⟩
            rw [hst, f1]
            constructor
            · rintro ((y | y) | y)
              · exact Or.inl y
              · exact Or.inr (Or.inl ⟨y.1, y.2⟩)
              · exact Or.inr (Or.inr ⟨rfl, y⟩)
            · rintro (y | y | y)
              · exact Or.inl (Or.inl y)
              · exact Or.inl (Or.inr ⟨y.1, y.2⟩)
              · exact Or.inr y.2
          · by_cases f2 : f = p
            · refine ⟨L1 ||| 2 ^ q, by rw [e3, up_ap, if_neg (by omega), e2, f2, up_eq], (hB1.set hq).congr (fun g _ => ?_)⟩
              rw [hst, f2]
              constructor
              · rintro (y | y)
                · exact Or.inl y
                · exact Or.inr (Or.inl ⟨rfl, y⟩)
              · rintro (y | y | y)
                · exact Or.inl y
                · exact Or.inr y.2
                · exact absurd (f2.trans y.1) f1
            · obtain ⟨L, hL, hB⟩ := vB f hf
              refine ⟨L, by rw [e3, up_ap, if_neg (by omega), e2, up_ap, if_neg (by omega)]; exact hL, hB.congr (fun g _ => ?_)⟩
              rw [hst]
              exact ⟨Or.inl, fun y => y.elim id (fun y => by omega)⟩
        · rw [e3, up_ap, if_neg (by omega), e2, up_ap, if_neg (by omega)]; exact voff c j hc
  refine ⟨dM D + 1, key (dM D + 1) 0 w1 (by omega) (by omega) (fun f hf => ⟨0, by rw [hw1, if_pos ⟨rfl, hf⟩]; rfl, (Bts.none 16).congr (fun g _ => ⟨False.elim, fun ⟨d, hd, _⟩ => by omega⟩)⟩) (fun c j hc => by rw [hw1, if_neg (fun y => hc y.1)])⟩
theorem X8_trace_ok {T K : Nat} {Q : Wd → Prop} {w : Wd} {D : Dw} (hW : WF D) (hR : RepX w K D) (hk : K + 4 ≤ T ∨ T + 10 ≤ K) (ha : aln (T + 2) = 16) (hQ : ∀ w', RepT w' T D → offT T w w' → Q w') : X8_trace T K w Q := by
  have m10 := hW.2.1
  have n6 := hW.1
  have hD := face_DH hW
  have ho : EqR (Fc D) (4 * dM D) := hD.eq
  have hnF := (nF_le hW (Nat.le_refl (4 * dM D))).1
  unfold X8_trace
  refine X9_enter_ok hW hR (by omega) (fun w1 R1 o1 => ?_)
  intro w2 e2 w3 e3 w4 e4 w5 e5
  have val5 : ∀ c j, w5 c j = if c = T ∧ (j = 0 ∨ j = 8 ∨ j = 9 ∨ j = 10) then 0 else w1 c j := fun c j => by
    rw [e5, up_ap, e4, up_ap, e3, up_ap, e2, up_ap]
    by_cases q : c = T ∧ (j = 0 ∨ j = 8 ∨ j = 9 ∨ j = 10)
    · rw [if_pos q]
      split
      · rfl
      · split
        · rfl
        · split
          · rfl
          · rw [if_pos (by omega)]
    · rw [if_neg q, if_neg (by omega), if_neg (by omega), if_neg (by omega), if_neg (by omega)]
  have o1' : ∀ c j, (c < T ∨ T + 10 ≤ c) → w1 c j = w c j := fun c j hc => o1 c j (by omega)
  -- posts with no line
  have posts : ∀ (m p : Nat) (v : Wd), p ≤ dN D → dN D - p < m → v T 0 = ((nF D (4 * dM D) + nBr D p : Nat) : Int) → TT v T D (tF D (4 * dM D)) → (∀ l, l < 4 * dM D → ldr (Fc D) l → v (T + 1) (ncl (Fc D) l) = (pF D l : Int) ∧ v (T + 5) (ncl (Fc D) l) = (tF D l : Int)) → (∀ j, nF D (4 * dM D) ≤ j → j < nF D (4 * dM D) + nBr D p → v (T + 1) j = 0) → (∀ c j, (c < T ∨ T + 10 ≤ c) → v c j = w c j) → X8_trace_l73 T K Q (X8_trace_b100 T K Q) m (p : Int) v := by
    intro m
    induction m with
    | zero => intro p v a1 a2; omega
    | succ m ih =>
      intro p v a1 a2 v0 vT vl vz voff
      have vR : RepX v K D := RepX.of hR (fun c j _ _ => voff c j (by omega))
      unfold X8_trace_l73
      rw [vR.1, wr_nat (n := dN D) (by omega), wr_nat (n := p) (by omega), show (p : Int) + 1 = ((p + 1 : Nat) : Int) by omega]
      refine ⟨fun z => ?_, fun z => ⟨ix_of rfl (by omega) (by decide), ?_⟩⟩
      · have : p = dN D := by omega
        subst this
        unfold X8_trace_b100
        rw [vR.2.1]
        refine X8_setNeighbours_ok hW rfl vT ha (fun w9 hB ho9 => hQ w9 ⟨?_, TT.of vT (fun c j hc => ho9 c j (by omega)), fun l hl hd => ?_, fun j b1 b2 => ?_, hB⟩ (fun c j hc => by rw [ho9 c j (by omega)]; exact voff c j hc))
        · rw [ho9 _ _ (by omega)]; exact v0
        · rw [ho9 _ _ (by omega), ho9 _ _ (by omega)]; exact vl l hl hd
        · rw [ho9 _ _ (by omega)]; exact vz j b1 b2
      · have hg : v (K + 2) p = (dG D p : Int) := vR.2.2.2.2.1 p (by omega)
        have hd10 := hW.deg (p := p) (by omega)
        have hnb := nBr_le D p
        rw [rd_of rfl (by omega), hg, wr_nat (n := dG D p) (by omega)]
        have hn : nBr D (p + 1) = nBr D p + (if dG D p = 0 then 1 else 0) := rfl
        refine ⟨fun z2 => ?_, fun z2 => ?_⟩
        · rw [if_pos (by omega)] at hn
          refine X8_beginFace_ok (nF D (4 * dM D) + nBr D p) (tF D (4 * dM D)) (by omega) v0 vT.1 (fun w8 h8 => ?_)
          have off8 : ∀ c j, ¬ (c = T ∧ j = 0) → c ≠ T + 1 → c ≠ T + 5 → w8 c j = v c j := fun c j q1 q2 q3 => by rw [h8, if_neg q1, if_neg (by omega), if_neg (by omega)]
          refine ih (p + 1) w8 (by omega) (by omega) ?_ (TT.of vT (fun c j hc => off8 c j (by omega) (by omega) (by omega))) (fun l hl hd => ?_) (fun j b1 b2 => ?_) (fun c j hc => by rw [off8 c j (by omega) (by omega) (by omega)]; exact voff c j hc)
          · rw [h8, if_pos ⟨rfl, rfl⟩, hn]
            congr 1
          · have hlt : ncl (Fc D) l < nF D (4 * dM D) := ncl_lt hl hd
            rw [h8, if_neg (by omega), if_neg (by omega), if_neg (by omega), h8, if_neg (by omega), if_neg (by omega), if_neg (by omega)]
            exact vl l hl hd
          · rw [h8, if_neg (by omega)]
            by_cases z3 : j = nF D (4 * dM D) + nBr D p
            · rw [if_pos ⟨rfl, z3⟩]
            · rw [if_neg (by omega), if_neg (by omega)]; exact vz j b1 (by omega)
        · rw [if_neg (by omega)] at hn
          exact ih (p + 1) v (by omega) (by omega) (by rw [hn]; exact v0) vT vl (fun j b1 b2 => vz j b1 (by omega)) voff
  have walks : ∀ (m k : Nat) (v : Wd), k ≤ 4 * dM D → 4 * dM D - k < m → RepW v (T + 7) D → v T 0 = (ncl (Fc D) k : Int) → TT v T D (tF D k) → (∀ l, l < k → ldr (Fc D) l → v (T + 1) (ncl (Fc D) l) = (pF D l : Int) ∧ v (T + 5) (ncl (Fc D) l) = (tF D l : Int)) → (∃ L : Nat, v T 10 = (L : Int) ∧ Bts L (4 * dM D) (fun s => ∃ j, j < k ∧ Fc D j s)) → (∀ c j, (c < T ∨ T + 10 ≤ c) → v c j = w c j) → X8_trace_l30 T K Q (X8_trace_b71 T K Q) m (k : Int) v := by
    intro m
    induction m with
    | zero => intro k v a1 a2; omega
    | succ m ih =>
      intro k v a1 a2 vR v0 vT vl vs10 voff
      unfold X8_trace_l30
      rw [vR.1, wr_id (x := 2 * ((2 * dM D : Nat) : Int)) (by omega) (by omega), wr_nat (n := k) (by omega), show (k : Int) + 1 = ((k + 1 : Nat) : Int) by omega]
      refine ⟨fun z => ?_, fun z => ?_⟩
      · have : k = 4 * dM D := by omega
        subst this
        unfold X8_trace_b71
        exact ⟨dN D + 1, posts (dN D + 1) 0 v (by omega) (by omega) (by rw [v0]; rfl) vT vl (fun j b1 b2 => by have : nBr D 0 = 0 := rfl; omega) voff⟩
      · have hk4 : k < 4 * dM D := by omega
        obtain ⟨L, hL, hB⟩ := vs10
        rw [hL]
        rcases hB.lbit (by omega) hk4 (k : Int) rfl with ⟨b, e⟩ | ⟨b, e⟩
        · have hnl : ¬ ldr (Fc D) k := fun y => by
            obtain ⟨j, hj, y2⟩ := b
            exact y j hj y2
          rw [e]
          refine ⟨fun y => absurd y (by decide), fun _ => ih (k + 1) v (by omega) (by omega) vR (by rw [ncl_no hnl]; exact v0) ?_ (fun l hl hd => ?_) ⟨L, hL, hB.congr (fun s hs => ?_)⟩ voff⟩
          · have : tF D (k + 1) = tF D k := tl_no hnl
            rw [this]; exact vT
          · refine vl l ?_ hd
            have : l ≠ k := fun y => hnl (y ▸ hd)
            omega
          · have := ldr_next ho hk4 hnl s hs
            constructor
            · rintro ⟨j, hj, y⟩; exact ⟨j, by omega, y⟩
            · intro y
              by_cases q : ∃ j, j < k ∧ Fc D j s
              · exact q
              · obtain ⟨j, hj, y2⟩ := y
                exact absurd y2 (this.mp (fun i hi y3 => q ⟨i, hi, y3⟩) j hj)
        · have hld : ldr (Fc D) k := fun j hj y => b ⟨j, hj, y⟩
          have hnk : ncl (Fc D) k < nF D (4 * dM D) := ncl_lt hk4 hld
          rw [e]
          refine ⟨fun _ => ?_, fun y => absurd rfl y⟩
          refine X8_beginFace_ok (ncl (Fc D) k) (tF D k) (by omega) v0 vT.1 (fun w6 h6 => ?_)
          have off6 : ∀ c j, ¬ (c = T ∧ j = 0) → c ≠ T + 1 → c ≠ T + 5 → w6 c j = v c j := fun c j q1 q2 q3 => by rw [h6, if_neg q1, if_neg (by omega), if_neg (by omega)]
          refine X8_follow_ok k hW rfl hk4 hld (RepW.of vR (fun c j _ _ => off6 c j (by omega) (by omega) (by omega))) (TT.of vT (fun c j hc => off6 c j (by omega) (by omega) (by omega))) (by rw [h6, if_pos ⟨rfl, rfl⟩]) (by rw [h6, if_neg (by omega), if_pos ⟨rfl, rfl⟩]) ⟨L, by rw [off6 _ _ (by omega) (by omega) (by omega)]; exact hL, hB⟩ (fun w7 R7 T7 g0 g1 g10 goff => ?_)
          refine ih (k + 1) w7 (by omega) (by omega) R7 (by rw [g0, ncl_ld hld]) T7 (fun l hl hd => ?_) g10 (fun c j hc => by rw [goff c j (by omega), off6 c j (by omega) (by omega) (by omega)]; exact voff c j hc)
          rw [g1, goff (T + 5) _ (by omega), h6, h6]
          by_cases q : l = k
          · subst q
            rw [if_pos rfl, if_neg (by omega), if_neg (by omega), if_pos ⟨rfl, rfl⟩]
            exact ⟨rfl, rfl⟩
          · have hne : ncl (Fc D) l ≠ ncl (Fc D) k := fun y => q (ncl_eq_inj hd hld y)
            rw [if_neg hne, if_neg (by omega), if_neg (by omega), if_neg (by omega), if_neg (by omega), if_neg (by omega), if_neg (by omega)]
            exact vl l (by omega) hd
  have t0 : tF D 0 = 0 := rfl
  refine ⟨4 * dM D + 1, walks (4 * dM D + 1) 0 w5 (by omega) (by omega) (RepW.of R1 (fun c j _ _ => by rw [val5, if_neg (by omega)])) (by rw [val5, if_pos (by omega)]; rfl) ?_ (fun l hl _ => by omega) ⟨0, by rw [val5, if_pos (by omega)]; rfl, (Bts.none _).congr (fun s _ => ⟨False.elim, fun ⟨j, hj, _⟩ => by omega⟩)⟩ (fun c j hc => by rw [val5, if_neg (by omega)]; exact o1' c j hc)⟩
  rw [t0]
  refine ⟨by rw [val5, if_pos (by omega)]; rfl, ⟨0, by rw [val5, if_pos (by omega)]; rfl, (Bts.none 10).congr (fun s _ => ⟨False.elim, fun ⟨j, hj, _⟩ => by omega⟩)⟩, fun v hv => by omega, fun v hv => by omega, fun v hv => by omega⟩
