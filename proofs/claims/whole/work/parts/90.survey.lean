/-! ORDERS at the class: all of them gone through -/
def kyK (D : Dw) : Nat → Nat
  | 0 => dN D
  | j + 1 => kyK D j * 8 + (if j < 2 * dM D then dE D j else 7)
def netK (D : Dw) : Nat := kyK D 20
theorem kyK_d {D : Dw} (hW : WF D) (j : Nat) : (if j < 2 * dM D then dE D j else 7) < 8 := by
  have n6 := hW.1
  split
  · rename_i z
    have := hW.2.2.1 j z
    omega
  · omega
theorem kyK_lt {D : Dw} (hW : WF D) : ∀ j, kyK D j < 7 * 8 ^ j
  | 0 => by have := hW.1; show dN D < 7 * 1; omega
  | j + 1 => by
    have h1 := kyK_lt hW j
    have h2 := kyK_d hW j
    show kyK D j * 8 + _ < 7 * 8 ^ (j + 1)
    rw [Nat.pow_succ]
    omega
theorem netK_lt {D : Dw} (hW : WF D) : netK D < 9223372036854775808 := by
  have := kyK_lt hW 20
  have e : 7 * 8 ^ 20 = 8070450532247928832 := by decide
  unfold netK
  omega
theorem kyK_inj {D D' : Dw} (hW : WF D) (hW' : WF D') : ∀ j, kyK D j = kyK D' j → dN D = dN D' ∧ ∀ i, i < j → (if i < 2 * dM D then dE D i else 7) = (if i < 2 * dM D' then dE D' i else 7)
  | 0, h => ⟨h, fun i hi => by omega⟩
  | j + 1, h => by
    have h1 := kyK_d hW j
    have h2 := kyK_d hW' j
    have h : kyK D j * 8 + (if j < 2 * dM D then dE D j else 7) = kyK D' j * 8 + (if j < 2 * dM D' then dE D' j else 7) := h
    obtain ⟨g1, g2⟩ := kyK_inj hW hW' j (by omega)
    refine ⟨g1, fun i hi => ?_⟩
    by_cases z : i = j
    · rw [z]; omega
    · exact g2 i (by omega)
theorem netK_inj {D D' : Dw} (hW : WF D) (hW' : WF D') (h : netK D = netK D') : Nw D D' := by
  obtain ⟨h1, h2⟩ := kyK_inj hW hW' 20 h
  have n6 := hW.1
  have n6' := hW'.1
  have m10 := hW.2.1
  have m10' := hW'.2.1
  have hm : dM D = dM D' := by
    rcases Nat.lt_trichotomy (dM D) (dM D') with z | z | z
    · have := h2 (2 * dM D) (by omega)
      rw [if_neg (by omega), if_pos (by omega)] at this
      have := hW'.2.2.1 (2 * dM D) (by omega)
      omega
    · exact z
    · have := h2 (2 * dM D') (by omega)
      rw [if_pos (by omega), if_neg (by omega)] at this
      have := hW.2.2.1 (2 * dM D') (by omega)
      omega
  refine ⟨h1, hm, fun i hi => ?_⟩
  have := h2 i (by omega)
  rw [if_pos hi, if_pos (by omega)] at this
  exact this
theorem or_8 {a b : Nat} (h : b < 8) : a * 8 ||| b = a * 8 + b := by
  have := Nat.two_pow_add_eq_or_of_lt (i := 3) (b := b) h a
  rw [show (2 : Nat) ^ 3 = 8 from rfl] at this
  rw [Nat.mul_comm a 8, this]
theorem X1_networkKey_ok {K : Nat} {Q : Int → Wd → Prop} {w : Wd} {D : Dw} (hW : WF D) (hR : RepX w K D) (hQ : Q (netK D : Int) w) : X1_networkKey K w Q := by
  have n6 := hW.1
  have m10 := hW.2.1
  have hnl := netK_lt hW
  have loop : ∀ (m j : Nat), j ≤ 20 → 20 - j < m → X1_networkKey_l8 K Q (X1_networkKey_b47 K Q) m (kyK D j : Int) (j : Int) w := by
    intro m
    induction m with
    | zero => intro j a1 a2; omega
    | succ m ih =>
      intro j a1 a2
      unfold X1_networkKey_l8
      rw [hR.2.1, show 2 * ((dM D : Nat) : Int) = ((2 * dM D : Nat) : Int) by omega, wr_nat (n := 2 * dM D) (by omega), wr_nat (n := j) (by omega), show wr 20 = 20 by decide, show wr 7 = 7 by decide]
      refine ⟨fun z => ?_, fun z => ?_⟩
      · have : j = 20 := by omega
        subst this
        unfold X1_networkKey_b47
        have hnl : kyK D 20 < 9223372036854775808 := hnl
        rw [wl_nat hnl]
        exact hQ
      · have h1 := kyK_lt hW j
        have h2 : 8 ^ j ≤ 8 ^ 19 := Nat.pow_le_pow_right (by decide) (by omega)
        have h3 : (8 : Nat) ^ 19 = 144115188075855872 := by decide
        have h4 := kyK_d hW j
        have sh : lsl (kyK D j : Int) 3 = ((kyK D j * 8 : Nat) : Int) := by
          have := lsl_nat (a := kyK D j) (k := 3) (by omega) (by rw [show (2 : Nat) ^ 3 = 8 from rfl]; omega)
          exact this
        rw [sh, show (j : Int) + 1 = ((j + 1 : Nat) : Int) by omega]
        refine ⟨fun y y2 e2 => ?_, fun y => ⟨ix_of rfl (by omega) (by decide), fun y2 e2 => ?_⟩⟩
        · rw [show (7 : Int) = ((7 : Nat) : Int) from rfl, lor_nat (by omega) (by omega), or_8 (by omega)] at e2
          have e3 : y2 = (kyK D (j + 1) : Int) := by
            rw [e2]
            show _ = ((kyK D j * 8 + (if j < 2 * dM D then dE D j else 7) : Nat) : Int)
            rw [if_neg (by omega)]
          rw [e3]
          exact ih (j + 1) (by omega) (by omega)
        · have hE := hW.2.2.1 j (by omega)
          rw [rd_of rfl (by omega), hR.en (by omega), wr_nat (n := dE D j) (by omega), lor_nat (by omega) (by omega), or_8 (by omega)] at e2
          have e3 : y2 = (kyK D (j + 1) : Int) := by
            rw [e2]
            show _ = ((kyK D j * 8 + (if j < 2 * dM D then dE D j else 7) : Nat) : Int)
            rw [if_pos (by omega)]
          rw [e3]
          exact ih (j + 1) (by omega) (by omega)
  unfold X1_networkKey
  intro y1 e1
  rw [hR.1, wr_nat (by omega)] at e1
  subst e1
  exact ⟨21, loop 21 0 (by omega) (by omega)⟩
/-- what a survey leaves -/
def SurA (w : Wd) (D : Dw) : Prop := w 40 0 = ((lsK D (totO D)).1 : Int) ∧ w 40 1 = (mxK D (totO D) : Int) ∧ w 40 2 = ((lsK D (totO D)).2 : Int) ∧ ∀ h, h < 6 → w 41 h = (neK D h (totO D) : Int)
theorem SurA.nw {w : Wd} {D D' : Dw} (h : Nw D D') (hs : SurA w D') : SurA w D := by
  obtain ⟨e1, e2, e3⟩ := h.ans
  have e4 := h.ord.2.2.2.1
  unfold SurA
  rw [e1, e2, e3, e4]
  exact hs
theorem SurA.of {w w' : Wd} {D : Dw} (h : SurA w D) (e : ∀ c j, (c = 40 ∧ j < 3) ∨ c = 41 → w' c j = w c j) : SurA w' D := by
  obtain ⟨h1, h2, h3, h4⟩ := h
  exact ⟨by rw [e _ _ (by omega)]; exact h1, by rw [e _ _ (by omega)]; exact h2, by rw [e _ _ (by omega)]; exact h3, fun i hi => by rw [e _ _ (by omega)]; exact h4 i hi⟩
def SurOK (w : Wd) : Prop := w 40 6 = -1 ∨ ∃ D, WF D ∧ w 40 6 = (netK D : Int) ∧ SurA w D
theorem nBr_congr {D D' : Dw} : ∀ n, (∀ p, p < n → dG D p = dG D' p) → nBr D n = nBr D' n
  | 0, _ => rfl
  | n + 1, h => by
    show nBr D n + (if dG D n = 0 then 1 else 0) = nBr D' n + (if dG D' n = 0 then 1 else 0)
    rw [nBr_congr n (fun p hp => h p (by omega)), h n (by omega)]
theorem X3_eulerW_ok {Q : Int → Wd → Prop} {w : Wd} {D : Dw} (hW : WF D) (hR : RepX w 1 D) (hQ : Q ((dN D : Int) - (dM D : Int) + (nBr D (dN D) : Int)) w) : X3_eulerWithoutWalks 1 w Q := by
  have n6 := hW.1
  have m10 := hW.2.1
  have hb := nBr_le D (dN D)
  unfold X3_eulerWithoutWalks
  refine X1_barePosts_ok hW hR ?_
  rw [hR.1, hR.2.1, wr_id (by omega) (by omega)]
  exact hQ
/-- faces of the order in hand -/
theorem X9_forth_ok {Q : Int → Wd → Prop} {w : Wd} {D : Dw} (n : Nat) (hW : WF D) (hV : RepW w 46 (dOrd D n)) (hQ : Q (nF (dOrd D n) (4 * dM D) : Int) w) : X9_countForth 46 w Q := by
  have hWO := dOrd_WF hW n
  have m10 := hW.2.1
  have e := ut_nF hWO (fun e _ => rfl)
  have e : nF (dOrd D n) (4 * dM D) = ncl (On (fun a => bh (dOrd D n) (ox a))) (2 * dM D) := e
  rw [e] at hQ
  exact X9_countForth_ok (N := 2 * dM D) (B := bh (dOrd D n)) (g := fun a => bh (dOrd D n) (ox a)) (by omega) hV.1 (fun a ha => ox_lt ha) (fun a ha => hV.2.2.1 a ha) (fun a _ => rfl) (ut_pm hWO) hQ
theorem bare_ord {D : Dw} (hW : WF D) (f : Nat → Nat) (t : Nat → Bool) : nFa (dMx D f t) = nF (dMx D f t) (4 * dM D) + nBr D (dN D) := by
  unfold nFa
  show nF (dMx D f t) (4 * dM D) + nBr (dMx D f t) (dN D) = _
  rw [nBr_congr (D := dMx D f t) (D' := D) (dN D) (fun p hp => (deg_dgc hW hp).symm)]
/-- how far a survey has come -/
def SuI (w : Wd) (D : Dw) (n : Nat) : Prop := (∀ h, h < 6 → w 41 h = (neK D h n : Int)) ∧ (n = 0 → w 40 0 = 6 ∧ w 40 1 = -1) ∧ (0 < n → w 40 0 = ((lsK D n).1 : Int) ∧ w 40 1 = (mxK D n : Int) ∧ w 40 2 = ((lsK D n).2 : Int))
theorem X3_countNeed_ok {Q : Wd → Prop} {w : Wd} {D : Dw} {x y : Int} (n : Nat) (hx : x = (n : Int)) (hy : y = (hd D n : Int)) (hW : WF D) (hn : n < 20000) (h : SuI w D n) (hQ : ∀ w', SuI w' D (n + 1) → (∀ c j, ¬ (c = 40 ∧ j < 3) → c ≠ 41 → w' c j = w c j) → Q w') : X3_countNeed x y w Q := by
  subst hx hy
  have h5 := (hd_ok hW n).2.1
  obtain ⟨k, hk⟩ : ∃ k, k = hd D n := ⟨_, rfl⟩
  rw [← hk] at h5 ⊢
  obtain ⟨s1, s2, s3⟩ := h
  have nek : ∀ g, neK D g (n + 1) = neK D g n + (if k = g then 1 else 0) := fun g => by
    unfold neK
    by_cases z : k = g
    · rw [cnt_y (f := fun n => decide (hd D n = g)) (decide_eq_true (by rw [← hk]; exact z)), if_pos z]
    · rw [cnt_n (f := fun n => decide (hd D n = g)) (decide_eq_false (by rw [← hk]; exact z)), if_neg z]; rfl
  have hne := neK_le (D := D) k n
  unfold X3_countNeed
  rw [wr_nat (n := k) (by omega), show wr 5 = 5 by decide]
  refine ⟨fun z => by omega, fun _ => ⟨fun _ => ⟨ix_of rfl (by omega) (by decide), ix_of rfl (by omega) (by decide), fun w1 e1 w2 e2 => ?_⟩, fun z => by omega⟩⟩
  rw [wt_of rfl (by omega), rd_of rfl (by omega), s1 k (by omega)] at e1
  have w1v : ∀ c j, ¬ (c = 41 ∧ j = k) → w1 c j = w c j := fun c j hc => by rw [e1, up_ap, if_neg hc]
  rw [w1v 40 1 (by omega)] at e2
  have e41 : ∀ g, g < 6 → w1 41 g = (neK D g (n + 1) : Int) := fun g hg => by
    rw [nek g]
    by_cases z : k = g
    · rw [if_pos z, e1, up_ap, if_pos ⟨rfl, z.symm⟩, ← z]; rfl
    · rw [if_neg z, w1v 41 g (by omega)]; exact s1 g hg
  have mval : imx (w 40 1) (k : Int) = (mxK D (n + 1) : Int) := by
    have hm : mxK D (n + 1) = max (mxK D n) k := by rw [hk]; rfl
    rw [hm]
    by_cases z : n = 0
    · rw [(s2 z).2, z]
      have : mxK D 0 = 0 := rfl
      rw [this, show max 0 k = k by omega]
      unfold imx
      rw [wr_nat (n := k) (by omega), show wr (-1) = -1 by decide, if_pos (by omega)]
    · have := mxK_le hW n
      rw [(s3 (by omega)).2.1, imx_nat (by omega) (by omega)]
  rw [mval] at e2
  have w2v : ∀ c j, ¬ (c = 40 ∧ j = 1) → w2 c j = w1 c j := fun c j hc => by rw [e2, up_ap, if_neg hc]
  rw [w2v 40 0 (by omega), w1v 40 0 (by omega)]
  have off2 : ∀ c j, ¬ (c = 40 ∧ j < 3) → c ≠ 41 → w2 c j = w c j := fun c j c1 c2 => by rw [w2v c j (by omega), w1v c j (by omega)]
  have lsn : lsK D (n + 1) = if k < (lsK D n).1 then (k, n) else lsK D n := by rw [hk]; rfl
  have set : (k < (lsK D n).1) → ∀ w3, w3 = up w2 40 0 (k : Int) → ∀ w4, w4 = up w3 40 2 (n : Int) → Q w4 := fun hlt w3 e3 w4 e4 => by
    refine hQ w4 ⟨fun g hg => ?_, fun z => by omega, fun _ => ⟨?_, ?_, ?_⟩⟩ (fun c j c1 c2 => ?_)
    · rw [e4, up_ap, if_neg (by omega), e3, up_ap, if_neg (by omega), w2v 41 g (by omega)]; exact e41 g hg
    · rw [lsn, if_pos hlt, e4, up_ap, if_neg (by omega), e3, up_eq]
    · rw [e4, up_ap, if_neg (by omega), e3, up_ap, if_neg (by omega), e2, up_eq]
    · rw [lsn, if_pos hlt, e4, up_eq]
    · rw [e4, up_ap, if_neg (by omega), e3, up_ap, if_neg (by omega)]; exact off2 c j c1 c2
  by_cases z : n = 0
  · rw [(s2 z).1, show wr 6 = 6 by decide]
    refine ⟨fun y => by omega, fun _ => set ?_⟩
    rw [z]
    show k < 100
    omega
  · obtain ⟨b1, b2, b3, b4⟩ := lsK_ok hW n (by omega)
    have s := s3 (by omega)
    rw [s.1, wr_nat (n := (lsK D n).1) (by omega)]
    refine ⟨fun y => ?_, fun y => set (by omega)⟩
    refine hQ w2 ⟨fun g hg => by rw [w2v 41 g (by omega)]; exact e41 g hg, fun z => by omega, fun _ => ⟨?_, ?_, ?_⟩⟩ off2
    · rw [lsn, if_neg (by omega), w2v 40 0 (by omega), w1v 40 0 (by omega)]; exact s.1
    · rw [e2, up_eq]
    · rw [lsn, if_neg (by omega), w2v 40 2 (by omega), w1v 40 2 (by omega)]; exact s.2.2
theorem X3_survey_ok {Q : Wd → Prop} {w : Wd} {D : Dw} (hW : WF D) (hR : RepX w 1 D) (hT : totO D ≤ 20000) (hC : SurOK w) (hQ : ∀ w', SurA w' D → SurOK w' → (∀ c j, (c < 40 ∨ (c = 40 ∧ (j = 7 ∨ j = 8)) ∨ 49 ≤ c) → w' c j = w c j) → Q w') : X3_survey 1 w Q := by
  have n6 := hW.1
  have m10 := hW.2.1
  have hkl := netK_lt hW
  have htp := totO_pos D
  unfold X3_survey
  refine X1_networkKey_ok hW hR ?_
  have hw6 : wl (w 40 6) = w 40 6 := by
    rcases hC with h | ⟨D', h1, h2, h3⟩
    · rw [h]; decide
    · rw [h2]; exact wl_nat (netK_lt h1)
  have hcmp := (lcm_i (a := (netK D : Int)) (b := w 40 6) (wl_nat hkl) hw6).2.2.1
  refine ⟨fun z => ?_, fun z => ?_⟩
  · have e := hcmp.mp z
    rcases id hC with h | ⟨D', h1, h2, h3⟩
    · rw [h] at e; omega
    · have : netK D = netK D' := by rw [h2] at e; omega
      exact hQ w (SurA.nw (netK_inj hW h1 this) h3) hC (fun _ _ _ => rfl)
  · intro w3 e3
    have v3 : ∀ c j, ¬ (c = 40 ∧ j = 6) → w3 c j = w c j := fun c j hc => by rw [e3, up_ap, if_neg hc]
    have R3 : RepX w3 1 D := RepX.of hR (fun c j _ _ => v3 c j (by omega))
    refine X3_beginOrders_ok hW R3 (fun w4 R4 V4 o4 => ?_)
    refine fill_ok (by decide) (fun w5 hw5 => ?_)
    intro w6 e6 w7 e7
    have v7 : ∀ c j, ¬ (c = 40 ∧ j < 2) → c ≠ 41 → w7 c j = w4 c j := fun c j c1 c2 => by
      rw [e7, up_ap, if_neg (by omega), e6, up_ap, if_neg (by omega), hw5, if_neg (by omega)]
    have R7 : RepX w7 1 D := RepX.of R3 (fun c j _ _ => by rw [v7 c j (by omega) (by omega), o4 c j (by omega)])
    refine X3_eulerW_ok hW R7 ?_
    refine X1_countParts_ok hW R7 ?_
    refine X3_howMany_ok hW R7 ?_
    intro y14 e14
    have e14 : y14 = (totO D : Int) := by
      rw [e14]
      unfold lmn
      rw [wl_nat (by omega), show wl 20000 = 20000 by decide, if_neg (by omega)]
    subst e14
    have loop : ∀ (m n : Nat) (v : Wd), n ≤ totO D → totO D - n < m → RepX v 42 (dOrd D n) → RepW v 46 (dOrd D n) → SuI v D n → (∀ c j, ¬ (c = 40 ∧ j < 3) → c ≠ 41 → c ≠ 45 → c ≠ 47 → c ≠ 48 → v c j = w7 c j) → X3_survey_l71 1 Q (X3_survey_b111 1 Q) m ((dN D : Int) - (dM D : Int) + (nBr D (dN D) : Int)) (nPt D (dM D) : Int) (totO D : Int) (n : Int) v := by
      intro m
      induction m with
      | zero => intro n v a1 a2; omega
      | succ m ih =>
        intro n v a1 a2 hRv hVv hS ov
        have hc2 := (lcm_i (a := (n : Int)) (b := (totO D : Int)) (wl_nat (by omega)) (wl_nat (by omega))).2.1
        unfold X3_survey_l71
        rw [wr_nat (n := n) (by omega)]
        refine ⟨fun y => ?_, fun y => ?_⟩
        · have hn : n = totO D := by have := hc2.mp y; omega
          subst hn
          obtain ⟨s1, s2, s3⟩ := hS
          have s3 := s3 (by omega)
          have hSA : SurA v D := ⟨s3.1, s3.2.1, s3.2.2, s1⟩
          have vo : ∀ c j, (c < 40 ∨ (c = 40 ∧ 3 ≤ j) ∨ 49 ≤ c) → v c j = w3 c j := fun c j hc => by
            rw [ov c j (by omega) (by omega) (by omega) (by omega) (by omega), v7 c j (by omega) (by omega), o4 c j (by omega)]
          exact hQ v hSA (Or.inr ⟨D, hW, by rw [vo 40 6 (by omega), e3, up_eq], hSA⟩) (fun c j hc => by rw [vo c j (by omega), v3 c j (by omega)])
        · have hn : n < totO D := by
            rcases Nat.lt_or_ge n (totO D) with k | k
            · exact k
            · exact absurd (hc2.mpr (by omega)) y
          refine X9_forth_ok n hW hVv ?_
          have eh : (nPt D (dM D) : Int) - idv ((dN D : Int) - (dM D : Int) + (nBr D (dN D) : Int) + (nF (dOrd D n) (4 * dM D) : Int)) 2 = (hd D n : Int) := by
            rw [← (hd_ok hW n).1]
            congr 2
            show _ = (dN D : Int) - (dM D : Int) + (nFa (dOrd D n) : Int)
            have := bare_ord hW (numP D n) (fun _ => false)
            have this : nFa (dOrd D n) = nF (dOrd D n) (4 * dM D) + nBr D (dN D) := this
            omega
          rw [eh]
          refine X3_countNeed_ok n rfl rfl hW (by omega) hS (fun v1 hS1 ov1 => ?_)
          refine X3_advance_ok n hW (RepX.of hRv (fun c j _ _ => ov1 c j (by omega) (by omega))) (RepW.of hVv (fun c j _ _ => ov1 c j (by omega) (by omega))) (fun v2 hR2 hV2 ov2 => ?_)
          rw [show (n : Int) + 1 = ((n + 1 : Nat) : Int) by omega]
          refine ih (n + 1) v2 (by omega) (by omega) hR2 hV2 ?_ (fun c j c1 c2 c3 c4 c5 => by rw [ov2 c j c3 c4 c5, ov1 c j c1 c2]; exact ov c j c1 c2 c3 c4 c5)
          obtain ⟨s1, s2, s3⟩ := hS1
          exact ⟨fun g hg => by rw [ov2 _ _ (by omega) (by omega) (by omega)]; exact s1 g hg, fun z => by omega, fun z => by rw [ov2 _ _ (by omega) (by omega) (by omega), ov2 _ _ (by omega) (by omega) (by omega), ov2 _ _ (by omega) (by omega) (by omega)]; exact s3 z⟩
    refine ⟨totO D + 1, loop (totO D + 1) 0 w7 (by omega) (by omega) (RepX.of R4 (fun c j _ _ => v7 c j (by omega) (by omega))) (RepW.of V4 (fun c j _ _ => v7 c j (by omega) (by omega))) ⟨fun g hg => ?_, fun _ => ⟨?_, ?_⟩, fun z => by omega⟩ (fun _ _ _ _ _ _ _ => rfl)⟩
    · rw [e7, up_ap, if_neg (by omega), e6, up_ap, if_neg (by omega), hw5, if_pos ⟨rfl, hg⟩]; rfl
    · rw [e7, up_ap, if_neg (by omega), e6, up_eq]
    · rw [e7, up_eq]
