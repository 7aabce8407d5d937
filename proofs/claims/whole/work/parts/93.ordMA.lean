/-! ORDERS: what the model answers -/
def SuM (w : Wd) (D : Dw) (n : Nat) : Prop := (∀ h, h < 20 → w 84 h = (neK D h n : Int)) ∧ w 65 33 = ((lsK D n).1 : Int) ∧ w 65 34 = (mxK D n : Int) ∧ (0 < n → w 65 35 = ((lsK D n).2 : Int))
def offA (w w' : Wd) : Prop := ∀ c j, ¬ (c = 65 ∧ (j = 33 ∨ j = 34 ∨ j = 35)) → c ≠ 84 → c ≠ 83 → c ≠ 82 → (c < 79 ∨ 81 < c) → w' c j = w c j
theorem lsK_100 {D : Dw} (hW : WF D) (n : Nat) : (lsK D n).1 ≤ 100 := by
  rcases Nat.eq_zero_or_pos n with z | z
  · rw [z]; exact Nat.le_refl _
  · have := (lsK_ok hW n z).1; omega
theorem X11_triesAll_ok {Q : Int → Wd → Prop} {w : Wd} {D : Dw} (hW : WF D) (hR : RepM w 73 D) (h0 : ¬ totO D ≤ 20000 → Q 0 w) (h1 : totO D ≤ 20000 → ∀ w', SuM w' D (totO D) → offA w w' → Q 1 w') : X11_triesAll w Q := by
  have n6 := hW.1
  have m10 := hW.2.1
  have htp := totO_pos D
  unfold X11_triesAll
  refine X11_allRounds_ok hW hR ⟨fun z => ?_, fun z => h0 (fun k => z ((tot_cmp D).mpr k))⟩
  have hT := (tot_cmp D).mp z
  have hp := nPt_le D (dM D)
  have loop : ∀ (m n : Nat) (v : Wd), n ≤ totO D → totO D - n < m → SuM v D n → offA w v → X11_triesAll_l59 Q (X11_triesAll_b144 Q) m (totO D : Int) (nPt D (dM D) : Int) (n : Int) v := by
    intro m
    induction m with
    | zero => intro n v a1 a2; omega
    | succ m ih =>
      intro n v a1 a2 hS ov
      have hc2 := (lcm_i (a := (n : Int)) (b := (totO D : Int)) (wl_nat (by omega)) (wl_nat (by omega))).2.1
      unfold X11_triesAll_l59
      rw [wr_nat (n := n) (by omega)]
      refine ⟨fun y => ?_, fun y => ?_⟩
      · have hn : n = totO D := by have := hc2.mp y; omega
        subst hn
        exact h1 hT v hS ov
      · have hn : n < totO D := by
          rcases Nat.lt_or_ge n (totO D) with k | k
          · exact k
          · exact absurd (hc2.mpr (by omega)) y
        have Rv : RepM v 73 D := RepM.of hR (fun j => ov 73 j (by omega) (by omega) (by omega) (by omega) (by omega))
        refine X11_triesOrder_ok n rfl (by omega) hW Rv (fun w8 R8 o8 => ?_)
        refine X11_euler_ok (dOrd_WF hW n) R8 (by omega) (fun w9 _ o9 => ?_)
        obtain ⟨eh, h5, -, -⟩ := hd_ok hW n
        intro y11 e11
        rw [eh] at e11
        subst e11
        obtain ⟨k, hk⟩ : ∃ k, k = hd D n := ⟨_, rfl⟩
        rw [← hk] at h5 ⊢
        have o89 : ∀ c j, c ≠ 83 → (c < 79 ∨ 81 < c) → w9 c j = v c j := fun c j c1 c2 => by rw [o9 c j c2, o8 c j c1]
        obtain ⟨s1, s2, s3, s4⟩ := hS
        have hne := neK_le (D := D) k n
        refine ⟨ix_of rfl (by omega) (by decide), ix_of rfl (by omega) (by decide), fun w12 e12 => ?_⟩
        rw [wt_of rfl (by omega), rd_of rfl (by omega), o89 84 k (by omega) (by omega), s1 k (by omega)] at e12
        have v12 : ∀ c j, ¬ (c = 84 ∧ j = k) → w12 c j = w9 c j := fun c j hc => by rw [e12, up_ap, if_neg hc]
        have e84 : ∀ g, g < 20 → w12 84 g = (neK D g (n + 1) : Int) := fun g hg => by
          unfold neK
          by_cases z : k = g
          · rw [cnt_y (f := fun n => decide (hd D n = g)) (decide_eq_true (by rw [← hk]; exact z)), e12, up_ap, if_pos ⟨rfl, z.symm⟩, ← z]; rfl
          · rw [cnt_n (f := fun n => decide (hd D n = g)) (decide_eq_false (by rw [← hk]; exact z)), v12 84 g (by omega), o89 84 g (by omega) (by omega)]; exact s1 g hg
        have m34 : w12 65 34 = (mxK D n : Int) := by rw [v12 _ _ (by omega), o89 _ _ (by omega) (by omega)]; exact s3
        have m33 : w12 65 33 = ((lsK D n).1 : Int) := by rw [v12 _ _ (by omega), o89 _ _ (by omega) (by omega)]; exact s2
        have m35 : w12 65 35 = v 65 35 := by rw [v12 _ _ (by omega), o89 _ _ (by omega) (by omega)]
        have hmx := mxK_le hW n
        have hls := lsK_100 hW n
        have lsn : lsK D (n + 1) = if k < (lsK D n).1 then (k, n) else lsK D n := by rw [hk]; rfl
        have mxn : mxK D (n + 1) = max (mxK D n) k := by rw [hk]; rfl
        have b114 : ∀ u : Wd, u 65 34 = (mxK D (n + 1) : Int) → (∀ c j, ¬ (c = 65 ∧ j = 34) → u c j = w12 c j) → X11_triesAll_b114 Q (X11_triesAll_l59 Q (X11_triesAll_b144 Q) m) (X11_triesAll_b144 Q) (totO D : Int) (nPt D (dM D) : Int) (n : Int) (k : Int) u := by
          intro u u34 uo
          have ou : ∀ u' : Wd, (∀ c j, ¬ (c = 65 ∧ (j = 33 ∨ j = 35)) → u' c j = u c j) → offA w u' := fun u' ho c j c1 c2 c3 c4 c5 => by rw [ho c j (by omega), uo c j (by omega), v12 c j (by omega), o89 c j c3 c5]; exact ov c j c1 c2 c3 c4 c5
          unfold X11_triesAll_b114
          rw [uo 65 33 (by omega), m33, wr_nat (n := k) (by omega), wr_nat (n := (lsK D n).1) (by omega), show (n : Int) + 1 = ((n + 1 : Nat) : Int) by omega]
          refine ⟨fun y w13 e13 w14 e14 => ?_, fun y => ?_⟩
          · have hlt : k < (lsK D n).1 := by omega
            have vv : ∀ c j, ¬ (c = 65 ∧ (j = 33 ∨ j = 35)) → w14 c j = u c j := fun c j hc => by rw [e14, up_ap, if_neg (by omega), e13, up_ap, if_neg (by omega)]
            refine ih (n + 1) w14 (by omega) (by omega) ⟨fun g hg => by rw [vv _ _ (by omega), uo _ _ (by omega)]; exact e84 g hg, ?_, by rw [vv _ _ (by omega)]; exact u34, fun _ => ?_⟩ (ou w14 vv)
            · rw [lsn, if_pos hlt, e14, up_ap, if_neg (by omega), e13, up_eq]
            · rw [lsn, if_pos hlt, e14, up_eq]
          · have hge : ¬ k < (lsK D n).1 := by omega
            refine ih (n + 1) u (by omega) (by omega) ⟨fun g hg => by rw [uo _ _ (by omega)]; exact e84 g hg, ?_, u34, fun _ => ?_⟩ (ou u (fun _ _ _ => rfl))
            · rw [lsn, if_neg hge, uo _ _ (by omega)]; exact m33
            · have hn0 : 0 < n := by
                rcases Nat.eq_zero_or_pos n with q | q
                · rw [q] at hge
                  exact absurd (show k < 100 by omega) hge
                · exact q
              rw [lsn, if_neg hge, uo _ _ (by omega), m35]; exact s4 hn0
        rw [m34, wr_nat (n := k) (by omega), wr_nat (n := mxK D n) (by omega)]
        refine ⟨fun y => b114 w12 (by rw [m34, mxn, show max (mxK D n) k = mxK D n by omega]) (fun _ _ _ => rfl), fun y w15 e15 => b114 w15 (by rw [e15, up_eq, mxn, show max (mxK D n) k = k by omega]) (fun c j hc => by rw [e15, up_ap, if_neg hc])⟩
  have clr : ∀ (m j : Nat) (v : Wd), j ≤ 20 → 20 - j < m → (∀ c i, v c i = if c = 84 ∧ i < j then 0 else w c i) → X11_triesAll_l17 Q (X11_triesAll_b36 Q) m (totO D : Int) (j : Int) v := by
    intro m
    induction m with
    | zero => intro j v a1 a2; omega
    | succ m ih =>
      intro j v a1 a2 hv
      unfold X11_triesAll_l17
      rw [wr_nat (n := j) (by omega), show wr 20 = 20 by decide]
      refine ⟨fun z => ?_, fun z => ⟨ix_of rfl (by omega) (by decide), fun w3 e3 => ?_⟩⟩
      · have hj : j = 20 := by omega
        subst hj
        unfold X11_triesAll_b36
        refine X11_partsOf_ok hW (RepM.of hR (fun i => by rw [hv, if_neg (by omega)])) (by decide) (fun w4 o4 => ?_)
        intro w6 e6 w7 e7
        have v7 : ∀ c i, ¬ (c = 65 ∧ (i = 33 ∨ i = 34)) → c ≠ 82 → w7 c i = v c i := fun c i c1 c2 => by rw [e7, up_ap, if_neg (by omega), e6, up_ap, if_neg (by omega), o4 c i c2]
        refine ⟨totO D + 1, loop (totO D + 1) 0 w7 (by omega) (by omega) ⟨fun g hg => ?_, ?_, ?_, fun y => by omega⟩ (fun c i c1 c2 c3 c4 c5 => by rw [v7 c i (by omega) c4, hv, if_neg (by omega)])⟩
        · rw [v7 _ _ (by omega) (by omega), hv, if_pos ⟨rfl, hg⟩]; rfl
        · rw [e7, up_ap, if_neg (by omega), e6, up_eq]; rfl
        · rw [e7, up_eq]; rfl
      · rw [wt_of rfl (by omega)] at e3
        rw [show (j : Int) + 1 = ((j + 1 : Nat) : Int) by omega]
        refine ih (j + 1) w3 (by omega) (by omega) (fun c i => ?_)
        rw [e3, up_ap, hv]
        grind
  exact ⟨21, clr 21 0 w (by omega) (by omega) (fun c i => by rw [if_neg (by omega)])⟩
theorem HM.offA {w w' : Wd} {S : Sg} (hS : SOK S) (h : HM w S) (o : offA w w') : HM w' S := HM.same hS h (fun c j hc => o c j (by omega) (by omega) (by omega) (by omega) (by omega))
section ORDM
variable {Q : Int → Wd → Prop} {w : Wd} {S : Sg}
theorem all_M {x : Int} (hS : SOK S) (h : HM w S) (hx : wr x = x) (hQ : ∀ w', HM w' S → loM w w' → Q (allA (sD S) x) w') : X11_all x w Q := by
  have hW := hS.1
  have hR : RepM w 73 (sD S) := h.2.2.2.1
  have hb := totO_bd (sD S)
  have q0 := hQ w h (fun _ _ _ => rfl)
  have hno : ¬ (0 ≤ x ∧ x ≤ 3) → Q (-1) w := fun z => by
    unfold allA at q0
    rw [if_neg (by omega), if_neg (by omega)] at q0
    exact q0
  unfold X11_all
  rw [hx, show wr 1 = 1 by decide, show wr 2 = 2 by decide, show wl (-1) = -1 by decide, show wl (-2) = -2 by decide]
  refine X11_in_ok hx (by decide) (by decide) (fun z1 z2 => ⟨fun k => absurd k (by decide), fun _ => ⟨fun y => ?_, fun y => ?_⟩⟩) (fun z => ⟨fun _ => hno (by omega), fun k => absurd (by decide) k⟩)
  · refine X11_allRounds_ok hW hR ?_
    unfold allA at q0
    rw [if_pos y] at q0
    rw [wl_nat (by omega)]; exact q0
  · refine X11_triesAll_ok hW hR (fun y2 => ⟨fun _ => ?_, fun k => absurd (by decide) k⟩) (fun y2 w3 s3 o3 => ⟨fun k => absurd k (by decide), fun _ => ?_⟩)
    · unfold allA at q0
      rw [if_neg y, if_pos (by omega), if_neg y2] at q0
      exact q0
    · have q3 := hQ w3 (HM.offA hS h o3) (fun c j hc => o3 c j (by omega) (by omega) (by omega) (by omega) (by omega))
      obtain ⟨b1, b2, -, -⟩ := lsK_ok hW (totO (sD S)) (totO_pos _)
      have b3 := mxK_le hW (totO (sD S))
      unfold allA at q3
      rw [if_neg y, if_pos (by omega), if_pos y2] at q3
      rw [s3.2.1, s3.2.2.1, s3.2.2.2 (totO_pos _), wr_nat (n := (lsK (sD S) (totO (sD S))).1) (by omega), wr_nat (n := (lsK (sD S) (totO (sD S))).2) (by omega), wr_nat (n := mxK (sD S) (totO (sD S))) (by omega), wl_nat (n := (lsK (sD S) (totO (sD S))).1) (by omega), wl_nat (n := (lsK (sD S) (totO (sD S))).2) (by omega), wl_nat (n := mxK (sD S) (totO (sD S))) (by omega)]
      refine ⟨fun k => ?_, fun k => ⟨fun k2 => ?_, fun k2 => ?_⟩⟩
      · rw [if_pos k] at q3; exact q3
      · rw [if_neg k, if_pos k2] at q3; exact q3
      · rw [if_neg k, if_neg k2] at q3; exact q3
theorem needing_M {x : Int} (hS : SOK S) (h : HM w S) (hx : wr x = x) (hQ : ∀ w', HM w' S → loM w w' → Q (neeA (sD S) x) w') : X11_needing x w Q := by
  have hW := hS.1
  have hR : RepM w 73 (sD S) := h.2.2.2.1
  have q0 := hQ w h (fun _ _ _ => rfl)
  unfold X11_needing
  rw [show wr 0 = 0 by decide, show wr (-2) = -2 by decide]
  refine X11_triesAll_ok hW hR (fun y2 => ⟨fun _ => ?_, fun k => absurd (by decide) k⟩) (fun y2 w3 s3 o3 => ⟨fun k => absurd k (by decide), fun _ => ?_⟩)
  · unfold neeA at q0
    rw [if_neg y2] at q0
    exact q0
  · have q3 := hQ w3 (HM.offA hS h o3) (fun c j hc => o3 c j (by omega) (by omega) (by omega) (by omega) (by omega))
    unfold neeA at q3
    rw [if_pos y2] at q3
    refine X11_in_ok hx (by decide) (by decide) (fun z1 z2 => ⟨fun k => absurd k (by decide), fun _ => ?_⟩) (fun z => ⟨fun _ => ?_, fun k => absurd (by decide) k⟩)
    · have hn := neK_le (D := sD S) x.toNat (totO (sD S))
      rw [rd_of (n := x.toNat) (by omega) (by omega), s3.1 _ (by omega), wr_nat (by omega)]
      refine ⟨ix_of (n := x.toNat) (by omega) (by omega) (by decide), ?_⟩
      by_cases y : 0 ≤ x ∧ x ≤ 5
      · rw [if_pos y] at q3; exact q3
      · rw [if_neg y] at q3
        rw [neK_6 hW (by omega)]; exact q3
    · rw [if_neg (by omega)] at q3; exact q3
theorem ordered_M {x y z : Int} (hS : SOK S) (h : HM w S) (hx : wr x = x) (hy : wr y = y) (hz : wr z = z) (hQ : ∀ w', HM w' S → loM w w' → Q (ordA (sD S) x y z) w') : X11_ordered x y z w Q := by
  have hW := hS.1
  have n6 := hW.1
  have m10 := hW.2.1
  have hR : RepM w 73 (sD S) := h.2.2.2.1
  have hb := totO_bd (sD S)
  have hxr := wr_rg x
  rw [hx] at hxr
  have q0 := hQ w h (fun _ _ _ => rfl)
  have hno : ¬ ((0 ≤ x ∧ x < totO (sD S)) ∧ (0 ≤ y ∧ y < dN (sD S)) ∧ (0 ≤ z ∧ z < dG (sD S) y.toNat)) → Q (-1) w := fun k => by
    unfold ordA at q0
    rw [if_neg k] at q0
    exact q0
  unfold X11_ordered
  rw [hx, show wr (-1) = -1 by decide]
  refine X11_isPost_ok hy hR.1 n6 (fun p hp hpn => ⟨fun k => absurd k (by decide), fun _ => ⟨fun k4 => hno (by omega), fun k4 => ?_⟩⟩) (fun hn => ⟨fun _ => hno (fun k5 => hn ⟨y.toNat, by omega, by omega⟩), fun k => absurd (by decide) k⟩)
  have hc := (lcm_i (a := x) (b := (totO (sD S) : Int)) (wl_id (by omega) (by omega)) (wl_nat (by omega))).2.1
  refine X11_allRounds_ok hW hR ⟨fun k2 => hno (by have := hc.mp k2; omega), fun k2 => ?_⟩
  have k3 : ¬ (totO (sD S) : Int) ≤ x := fun k3 => k2 (hc.mpr k3)
  have hdp := hW.deg hpn
  subst hp
  rw [rd_of (n := 32 + p) (by omega) (by omega), hR.2.2.2.2.1 p hpn]
  refine ⟨ix_of (n := 32 + p) (by omega) (by omega) (by decide), X11_in_ok hz (by decide) (wr_id (by omega) (by omega)) (fun z1 z2 => ⟨fun k => absurd k (by decide), fun _ => ?_⟩) (fun z1 => ⟨fun _ => hno (fun k6 => by have := k6.2.2; rw [show ((p : Int)).toNat = p by omega] at this; omega), fun k => absurd (by decide) k⟩)⟩
  refine X11_triesOrder_ok x.toNat (by omega) (by omega) hW hR (fun w7 R7 o7 => ?_)
  have q7 := hQ w7 (HM.same hS h (fun c j hc => o7 c j (by omega))) (fun c j hc => o7 c j (by omega))
  unfold ordA at q7
  rw [if_pos (by rw [show ((p : Int)).toNat = p by omega]; omega), show ((p : Int)).toNat = p by omega] at q7
  have hi : z.toNat < dgc (sD S) p := by rw [← deg_dgc hW hpn]; omega
  have hrow := ((dOrd_WF hW x.toNat).2.2.2.2.1 p z.toNat hpn hi).1
  have hrow : dR (dOrd (sD S) x.toNat) p z.toNat < dM (sD S) := hrow
  rw [rd_of (n := 38 + 10 * p + z.toNat) (by omega) (by omega), R7.2.2.2.2.2 p z.toNat hpn hi, wr_nat (by omega)]
  exact ⟨ix_of (n := 38 + 10 * p + z.toNat) (by omega) (by omega) (by decide), q7⟩
theorem lessen_M (hS : SOK S) (h : HM w S) (h0 : ¬ totO (sD S) ≤ 20000 → Q (-1) w) (h1 : totO (sD S) ≤ 20000 → ∀ w', HM w' (pushS S (dOrd (sD S) (lsK (sD S) (totO (sD S))).2)) → loM w w' → Q ((lsK (sD S) (totO (sD S))).1 : Int) w') : X11_lessen w Q := by
  have hW := hS.1
  have hR : RepM w 73 (sD S) := h.2.2.2.1
  unfold X11_lessen
  rw [show wr (-1) = -1 by decide]
  refine X11_triesAll_ok hW hR (fun y2 => ⟨fun _ => h0 y2, fun k => absurd (by decide) k⟩) (fun y2 w3 s3 o3 => ⟨fun k => absurd k (by decide), fun _ => ?_⟩)
  intro y3 e3
  obtain ⟨b1, b2, -, -⟩ := lsK_ok hW (totO (sD S)) (totO_pos _)
  rw [s3.2.1] at e3
  subst e3
  rw [s3.2.2.2 (totO_pos _), wr_nat (n := (lsK (sD S) (totO (sD S))).2) (by omega)]
  have h3 := HM.offA hS h o3
  refine X11_triesOrder_ok _ rfl (by omega) hW h3.2.2.2.1 (fun w4 R4 o4 => ?_)
  have h4 : HM w4 S := HM.same hS h3 (fun c j hc => o4 c j (by omega))
  refine X11_marks_ok hS h4 (fun w5 h5 lo5 o5 => ?_)
  have R5 : RepM w5 83 (dOrd (sD S) (lsK (sD S) (totO (sD S))).2) := RepM.of R4 (fun j => o5 83 j (by decide) (by decide))
  have loop : ∀ (m j : Nat) (v : Wd), j ≤ 98 → 98 - j < m → (∀ c i, v c i = if c = 73 ∧ i < j then w5 83 i else w5 c i) → X11_lessen_l29 Q (X11_lessen_b53 Q) m ((lsK (sD S) (totO (sD S))).1 : Int) (j : Int) v := by
    intro m
    induction m with
    | zero => intro j v a1 a2; omega
    | succ m ih =>
      intro j v a1 a2 hv
      unfold X11_lessen_l29
      rw [wr_nat (n := j) (by omega), show wr 98 = 98 by decide]
      refine ⟨fun z => ?_, fun z => ⟨ix_of rfl (by omega) (by decide), ix_of rfl (by omega) (by decide), fun w6 e6 => ?_⟩⟩
      · have hj : j = 98 := by omega
        subst hj
        have hWO := dOrd_WF hW (lsK (sD S) (totO (sD S))).2
        have h6 : HM v (pushS S (dOrd (sD S) (lsK (sD S) (totO (sD S))).2)) := HM.setD h5 (RepM.cp hWO R5 (fun i hi => by rw [hv, if_pos ⟨rfl, hi⟩])) (fun c i hc => by rw [hv, if_neg (by omega)])
        unfold X11_lessen_b53
        rw [wr_nat (by omega)]
        exact h1 y2 v h6 (fun c i hc => by rw [hv, if_neg (by omega), lo5 c i hc, o4 c i (by omega), o3 c i (by omega) (by omega) (by omega) (by omega) (by omega)])
      · rw [wt_of rfl (by omega), rd_of rfl (by omega), hv, if_neg (by omega)] at e6
        rw [show (j : Int) + 1 = ((j + 1 : Nat) : Int) by omega]
        refine ih (j + 1) w6 (by omega) (by omega) (fun c i => ?_)
        rw [e6, up_ap, hv]
        grind
  exact ⟨99, loop 99 0 w5 (by omega) (by omega) (fun c i => by rw [if_neg (by omega)])⟩
end ORDM
