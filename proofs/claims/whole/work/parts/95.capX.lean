/-! CAPPED at the class -/
noncomputable def mfK (D : Dw) (n : Nat) : Nat → Nat
  | 0 => 0
  | k + 1 => max (mfK D n k) (nF (dMx D (numP D n) (tK D k)) (4 * dM D))
theorem mf_cn {D : Dw} (hW : WF D) (n : Nat) : ∀ k, 1 ≤ k → dN D + nBr D (dN D) + mfK D n k + cnK D n k = dM D + 2 * nPt D (dM D)
  | 0, h => by omega
  | k + 1, _ => by
    have hc := cpv_ok hW n (tK D k)
    have hb := bare_ord hW (numP D n) (tK D k)
    have e1 : mfK D n (k + 1) = max (mfK D n k) (nF (dMx D (numP D n) (tK D k)) (4 * dM D)) := rfl
    have e2 : cnK D n (k + 1) = min (cnK D n k) (cpv D n (tK D k)) := rfl
    rw [e1, e2]
    rcases Nat.eq_zero_or_pos k with z | z
    · have e3 : mfK D n k = 0 := by rw [z]; rfl
      have e4 : cnK D n k = 1000 := by rw [z]; rfl
      rw [e3, e4]
      omega
    · have := mf_cn hW n k z
      omega
theorem X3_mostFaces_ok {Q : Int → Wd → Prop} {w : Wd} {D : Dw} {t : Nat → Bool} {x1 x2 : Int} (n : Nat) (h1 : x1 = (lmk D : Int)) (h2 : x2 = ((2 ^ fre D : Nat) : Int)) (hW : WF D) (hV : RepW w 46 (dMx D (numP D n) t)) (hQ : ∀ w' u, RepW w' 46 (dMx D (numP D n) u) → (∀ c j, ¬ (c = 46 ∧ j = 1) → w' c j = w c j) → Q (mfK D n (2 ^ fre D) : Int) w') : X3_mostFacesTwisted x1 x2 w Q := by
  subst h1 h2
  have m10 := hW.2.1
  have hL := lmk_lt D
  have hf10 := (fre_cnt hW).2.2
  have hp10 : 2 ^ fre D ≤ 2 ^ 10 := Nat.pow_le_pow_right (by decide) hf10
  have hWt : ∀ u, WF (dMx D (numP D n) u) := fun u => dMx_WF hW (fun p _ => numP_lt D n p)
  have mf10 : ∀ k, mfK D n k ≤ 10 := by
    intro k
    induction k with
    | zero => show 0 ≤ 10; omega
    | succ k ih =>
      have := (nF_le (hWt (tK D k)) (k := 4 * dM D) (Nat.le_refl _)).1
      have this : nF (dMx D (numP D n) (tK D k)) (4 * dM D) ≤ dM D := this
      show max (mfK D n k) _ ≤ 10
      omega
  have rep : ∀ (v : Wd) (k : Nat), (∀ c j, ¬ (c = 46 ∧ j = 1) → v c j = w c j) → v 46 1 = (pdp 10 (lmk D) k : Int) → RepW v 46 (dMx D (numP D n) (tK D k)) := fun v k vo v1 => by
    obtain ⟨r0, -, r2, r3⟩ := hV
    refine ⟨by rw [vo _ _ (by omega)]; exact r0, ⟨pdp 10 (lmk D) k, v1, pdp_lt 10 _ _, fun e => ?_⟩, fun a ha => ?_, fun a ha => ?_⟩
    · show (pdp 10 (lmk D) k).testBit e = (decide (e < dM D) && tK D k e)
      cases q : tK D k e
      · rw [Bool.and_false]; exact q
      · rw [decide_eq_true (tK_m hW q).1]; exact q
    · rw [vo _ _ (by omega), r2 a ha, (bh_mx (D := D) (f := numP D n) (g := numP D n) (t := t) (u := tK D k) (a := a) rfl).1]
    · rw [vo _ _ (by omega), r3 a ha, (bh_mx (D := D) (f := numP D n) (g := numP D n) (t := t) (u := tK D k) (a := a) rfl).2]
  have loop : ∀ (m k : Nat) (v : Wd) (u : Nat → Bool), k ≤ 2 ^ fre D → 2 ^ fre D - k < m → RepW v 46 (dMx D (numP D n) u) → (∀ c j, ¬ (c = 46 ∧ j = 1) → v c j = w c j) → X3_mostFacesTwisted_l8 Q (X3_mostFacesTwisted_b49 Q) m (lmk D : Int) ((2 ^ fre D : Nat) : Int) (mfK D n k : Int) (pdp 10 (lmk D) k : Int) (k : Int) v := by
    intro m
    induction m with
    | zero => intro k v u a1 a2; omega
    | succ m ih =>
      intro k v u a1 a2 hVv vo
      have hm10 := mf10 k
      unfold X3_mostFacesTwisted_l8
      rw [wr_nat (n := 2 ^ fre D) (by omega), wr_nat (n := k) (by omega)]
      refine ⟨fun z => ?_, fun z w1 e1 => ?_⟩
      · have hk : k = 2 ^ fre D := by omega
        rw [hk] at hm10 ⊢
        unfold X3_mostFacesTwisted_b49
        rw [wr_nat (by omega)]
        exact hQ v u hVv vo
      · have o1 : ∀ c j, ¬ (c = 46 ∧ j = 1) → w1 c j = w c j := fun c j hc => by rw [e1, up_ap, if_neg hc]; exact vo c j hc
        have V1 := rep w1 k o1 (by rw [e1, up_eq])
        refine X9_countAll_ok (hWt (tK D k)) V1 ?_
        have e4 : nF (dMx D (numP D n) (tK D k)) (4 * dM (dMx D (numP D n) (tK D k))) = nF (dMx D (numP D n) (tK D k)) (4 * dM D) := rfl
        have hn := (nF_le (hWt (tK D k)) (k := 4 * dM D) (Nat.le_refl _)).1
        have hn : nF (dMx D (numP D n) (tK D k)) (4 * dM D) ≤ dM D := hn
        rw [e4]
        intro y4 e4 y5 e5
        rw [imx_nat (by omega) (by omega)] at e4
        have e4 : y4 = (mfK D n (k + 1) : Int) := e4
        have hpl := pdp_lt 10 (lmk D) k
        rw [ian_next (by omega) (by omega)] at e5
        have hst := pdp_step 10 (lmk D) k hL
        rw [show (2 : Nat) ^ 10 = 1024 from rfl] at hst
        rw [hst] at e5
        rw [e4, e5, show (k : Int) + 1 = ((k + 1 : Nat) : Int) by omega]
        exact ih (k + 1) w1 (tK D k) (by omega) (by omega) V1 o1
  have hz : pdp 10 (lmk D) 0 = 0 := by
    apply Nat.eq_of_testBit_eq
    intro i
    have := congrFun (tK_zero D) i
    rw [Nat.zero_testBit]
    exact this
  have hpp := Nat.two_pow_pos (fre D)
  have := loop (2 ^ fre D + 1) 0 w t (by omega) (by omega) hV (fun _ _ _ => rfl)
  rw [hz] at this
  exact ⟨2 ^ fre D + 1, this⟩
def bcV (x : Int) : Int :=
  let y1 := x - (ian (ius x 1) 1431655765)
  let y2 := (ian y1 858993459) + (ian (ius y1 2) 858993459)
  let y3 := ian (y2 + (ius y2 4)) 252645135
  let y4 := y3 + (ius y3 8)
  let y5 := y4 + (ius y4 16)
  wr (ian y5 63)
theorem bcV_v : ∀ L : Fin 1024, bcV (L.val : Int) = (cnt L.val.testBit 10 : Int) := by decide +kernel
theorem J6_bitCount_ok {Q : Int → Wd → Prop} {w : Wd} {x : Int} (L : Nat) (hx : x = (L : Int)) (hL : L < 1024) (hQ : Q (cnt L.testBit 10 : Int) w) : J6_bitCount_0f7a4 x w Q := by
  subst hx
  have h := bcV_v ⟨L, hL⟩
  have h : bcV (L : Int) = (cnt L.testBit 10 : Int) := h
  rw [← h] at hQ
  unfold J6_bitCount_0f7a4
  intro y1 e1 y2 e2 y3 e3 y4 e4 y5 e5
  subst e1
  subst e2
  subst e3
  subst e4
  subst e5
  exact hQ
def CapOK (w : Wd) : Prop := w 40 7 = -1 ∨ ∃ D, WF D ∧ w 40 7 = (netK D : Int) ∧ w 40 8 = (mmK D (totO D) : Int)
theorem mmK_bd {D : Dw} (hW : WF D) : mmK D (totO D) ≤ 10 := by
  have h1 := mmK_two hW (k := totO D) (n := 0) (totO_pos D)
  have h2 := (hd_ok hW 0).2.1
  omega
theorem capped_X {Q : Int → Wd → Prop} {w : Wd} {S : Sg} (hS : SOK S) (h : HX w S) (hT : TrOK w S) (hC : SurOK w) (hK : CapOK w) (hQ : ∀ w', HX w' S → TrOK w' S → SurOK w' → CapOK w' → (∀ c j, 65 ≤ c → w' c j = w c j) → Q (capA (sD S)) w') : X10_capped w Q := by
  have hW := hS.1
  have n6 := hW.1
  have m10 := hW.2.1
  have hR : RepX w 1 (sD S) := h.2.2.2.1
  obtain ⟨f1, f2, f3⟩ := fre_cnt hW
  have hp10 : 2 ^ fre (sD S) ≤ 2 ^ 10 := Nat.pow_le_pow_right (by decide) f3
  have hb := totO_bd (sD S)
  have htp := totO_pos (sD S)
  have hkl := netK_lt hW
  have hmb := mmK_bd hW
  have q0 := hQ w h hT hC hK (fun _ _ _ => rfl)
  unfold X10_capped X3_fewestCaps
  refine X1_looseLines_ok hW hR (fun L hL => ?_)
  have eL : L = lmk (sD S) := Bts.uq hL (lmk_ok _)
  subst eL
  refine X3_howMany_ok hW hR ?_
  refine J6_bitCount_ok (lmk (sD S)) rfl (lmk_lt _) ?_
  rw [f1]
  intro y7 e7
  rw [isl1 (by omega)] at e7
  subst e7
  have hmul : totO (sD S) * 2 ^ fre (sD S) ≤ 1099511627776 * 1024 := Nat.mul_le_mul hb hp10
  have emul : (totO (sD S) : Int) * wr ((2 ^ fre (sD S) : Nat) : Int) = ((totO (sD S) * 2 ^ fre (sD S) : Nat) : Int) := by
    rw [wr_nat (n := 2 ^ fre (sD S)) (by omega)]
    exact (Int.natCast_mul _ _).symm
  have hcm := (lcm_i (a := ((totO (sD S) * 2 ^ fre (sD S) : Nat) : Int)) (b := 20000) (wl_nat (by omega)) (by decide)).1
  rw [emul]
  refine ⟨fun z => ?_, fun z => ?_⟩
  · have hT2 : totO (sD S) * 2 ^ fre (sD S) ≤ 20000 := by have := hcm.mp z; omega
    have hT1 : totO (sD S) ≤ 20000 := Nat.le_trans (Nat.le_mul_of_pos_right _ (Nat.two_pow_pos _)) hT2
    have eA : capA (sD S) = (mmK (sD S) (totO (sD S)) : Int) := by unfold capA; rw [if_pos hT2]
    rw [eA] at hQ q0
    have hw7 : wl (w 40 7) = w 40 7 := by
      rcases hK with k | ⟨D', k1, k2, k3⟩
      · rw [k]; decide
      · rw [k2]; exact wl_nat (netK_lt k1)
    refine X1_networkKey_ok hW hR ?_
    have hc7 := (lcm_i (a := (netK (sD S) : Int)) (b := w 40 7) (wl_nat hkl) hw7).2.2.1
    refine ⟨fun y => ?_, fun y => ?_⟩
    · have e := hc7.mp y
      rcases id hK with k | ⟨D', k1, k2, k3⟩
      · rw [k] at e; omega
      · have en : netK (sD S) = netK D' := by rw [k2] at e; omega
        have hN := netK_inj hW k1 en
        have e2 := (hN.ecap hW k1).2
        have e3 := hN.ord.2.2.2.1
        rw [k3, ← e2, ← e3, wr_nat (n := mmK (sD S) (totO (sD S))) (by omega)]
        show Q (wr (mmK (sD S) (totO (sD S)) : Int)) w
        rw [wr_nat (n := mmK (sD S) (totO (sD S))) (by omega)]
        exact q0
    · intro w10 e10
      have v10 : ∀ c j, ¬ (c = 40 ∧ j = 7) → w10 c j = w c j := fun c j hc => by rw [e10, up_ap, if_neg hc]
      have R10 : RepX w10 1 (sD S) := RepX.of hR (fun c j _ _ => v10 c j (by omega))
      have C10 : SurOK w10 := hC.imp (fun k => by rw [v10 _ _ (by omega)]; exact k) (fun ⟨D, k1, k2, k3⟩ => ⟨D, k1, by rw [v10 _ _ (by omega)]; exact k2, SurA.of k3 (fun c j hc => v10 c j (by omega))⟩)
      refine X3_survey_ok hW R10 hT1 C10 (fun w11 s11 c11 o11 => ?_)
      obtain ⟨l1, l2, l3, l4⟩ := lsK_ok hW (totO (sD S)) htp
      intro w12 e12
      rw [s11.1] at e12
      have v12 : ∀ c j, ¬ (c = 40 ∧ j = 8) → w12 c j = w11 c j := fun c j hc => by rw [e12, up_ap, if_neg hc]
      have R12 : RepX w12 1 (sD S) := RepX.of R10 (fun c j _ _ => by rw [v12 c j (by omega), o11 c j (by omega)])
      refine X3_beginOrders_ok hW R12 (fun w13 R13 V13 o13 => ?_)
      have R13' : RepX w13 1 (sD S) := RepX.of R12 (fun c j _ _ => o13 c j (by omega))
      refine X1_countParts_ok hW R13' ?_
      refine X3_eulerW_ok hW R13' ?_
      intro y18 e18
      -- what stands at the end
      have fin : ∀ v : Wd, v 40 8 = (mmK (sD S) (totO (sD S)) : Int) → (∀ c j, (c < 40 ∨ (c = 40 ∧ j ≠ 8) ∨ c = 41 ∨ 49 ≤ c) → v c j = w13 c j) → X3_fewestCaps_b143 1 (fun y2 w1 => Q (wr y2) w1) v := fun v v8 vo => by
        have v11 : ∀ c j, (c < 40 ∨ (c = 40 ∧ j ≠ 8) ∨ c = 41 ∨ 49 ≤ c) → v c j = w11 c j := fun c j hc => by rw [vo c j hc, o13 c j (by omega), v12 c j (by omega)]
        have vw : ∀ c j, (c < 40 ∨ 49 ≤ c) → v c j = w c j := fun c j hc => by rw [v11 c j (by omega), o11 c j (by omega), v10 c j (by omega)]
        unfold X3_fewestCaps_b143
        rw [v8, wr_nat (n := mmK (sD S) (totO (sD S))) (by omega)]
        show Q (wr (mmK (sD S) (totO (sD S)) : Int)) v
        rw [wr_nat (n := mmK (sD S) (totO (sD S))) (by omega)]
        refine hQ v (HX.same hS h (fun c j _ hc => vw c j (by omega))) (hT.imp (fun k => by rw [vw _ _ (by omega)]; exact k) (fun k => RepT.of k (fun c j _ _ => vw c j (by omega)))) ?_ (Or.inr ⟨sD S, hW, ?_, v8⟩) (fun c j hc => vw c j (by omega))
        · exact c11.imp (fun k => by rw [v11 _ _ (by omega)]; exact k) (fun ⟨D, k1, k2, k3⟩ => ⟨D, k1, by rw [v11 _ _ (by omega)]; exact k2, SurA.of k3 (fun c j hc => v11 c j (by omega))⟩)
        · rw [v11 _ _ (by omega), o11 _ _ (by omega), e10, up_eq]
      have early : ∀ (n : Nat), n ≤ totO (sD S) → min (2 * (lsK (sD S) (totO (sD S))).1) (mmK (sD S) n) ≤ 1 → min (2 * (lsK (sD S) (totO (sD S))).1) (mmK (sD S) n) = mmK (sD S) (totO (sD S)) := fun n hn hle => by
        have g1 : mmK (sD S) (totO (sD S)) ≤ 2 * (lsK (sD S) (totO (sD S))).1 := by rw [← l3]; exact mmK_two hW l2
        have g2 : mmK (sD S) (totO (sD S)) ≤ mmK (sD S) n := by
          rcases mmK_ex (D := sD S) n with k | ⟨n', j, k1, k2, k3⟩
          · rw [k]; omega
          · rw [k3]
            exact Nat.le_trans (mmK_le _ n' (by omega)) (cnK_le n' _ j k2)
        by_cases q : mmK (sD S) (totO (sD S)) = 0
        · obtain ⟨n', k1, k2⟩ := mmK_zero hW q
          have := l4 n' k1
          omega
        · omega
      have loop : ∀ (m n : Nat) (v : Wd) (u : Nat → Bool), n ≤ totO (sD S) → totO (sD S) - n < m → RepX v 42 (dOrd (sD S) n) → RepW v 46 (dMx (sD S) (numP (sD S) n) u) → v 40 8 = (min (2 * (lsK (sD S) (totO (sD S))).1) (mmK (sD S) n) : Nat) → (∀ c j, (c < 40 ∨ (c = 40 ∧ j ≠ 8) ∨ c = 41 ∨ 49 ≤ c) → v c j = w13 c j) → X3_fewestCaps_l96 1 (fun y2 w1 => Q (wr y2) w1) (X3_fewestCaps_b143 1 (fun y2 w1 => Q (wr y2) w1)) m (lmk (sD S) : Int) (totO (sD S) : Int) ((2 ^ fre (sD S) : Nat) : Int) y18 (n : Int) v := by
        intro m
        induction m with
        | zero => intro n v u a1 a2; omega
        | succ m ih =>
          intro n v u a1 a2 hRv hVv v8 vo
          have hc2 := (lcm_i (a := (n : Int)) (b := (totO (sD S) : Int)) (wl_nat (by omega)) (wl_nat (by omega))).2.1
          unfold X3_fewestCaps_l96
          rw [wr_nat (n := n) (by omega), v8, wr_nat (n := min (2 * (lsK (sD S) (totO (sD S))).1) (mmK (sD S) n)) (by omega), show wr 1 = 1 by decide]
          refine ⟨fun y2 => ?_, fun y2 => ⟨fun y3 => ?_, fun y3 => ?_⟩⟩
          · have hn : n = totO (sD S) := by have := hc2.mp y2; omega
            subst hn
            have g1 : mmK (sD S) (totO (sD S)) ≤ 2 * (lsK (sD S) (totO (sD S))).1 := by rw [← l3]; exact mmK_two hW l2
            exact fin v (by rw [v8, Nat.min_eq_right g1]) vo
          · exact fin v (by rw [v8, early n a1 (by omega)]) vo
          · have hn : n < totO (sD S) := by
              rcases Nat.lt_or_ge n (totO (sD S)) with k | k
              · exact k
              · exact absurd (hc2.mpr (by omega)) y2
            refine X3_mostFaces_ok n rfl rfl hW hVv (fun w19 u' V19 o19 => ?_)
            have hmf := mf_cn hW n (2 ^ fre (sD S)) (Nat.two_pow_pos _)
            have eC : y18 - (mfK (sD S) n (2 ^ fre (sD S)) : Int) = (cnK (sD S) n (2 ^ fre (sD S)) : Int) := by rw [e18]; omega
            have hcb := cnK_le (D := sD S) n (2 ^ fre (sD S)) 0 (Nat.two_pow_pos _)
            have hcb2 := (cpv_ok hW n (tK (sD S) 0)).2.2
            intro w21 e21
            rw [eC, imn_nat (by omega) (by omega)] at e21
            have v21 : ∀ c j, ¬ (c = 40 ∧ j = 8) → w21 c j = w19 c j := fun c j hc => by rw [e21, up_ap, if_neg hc]
            refine X3_advance_okt n hW (RepX.of hRv (fun c j _ _ => by rw [v21 c j (by omega), o19 c j (by omega)])) (RepW.of V19 (fun c j _ _ => v21 c j (by omega))) (fun w22 R22 V22 o22 => ?_)
            rw [show (n : Int) + 1 = ((n + 1 : Nat) : Int) by omega]
            refine ih (n + 1) w22 u' (by omega) (by omega) R22 V22 ?_ (fun c j hc => by rw [o22 c j (by omega) (by omega) (by omega), v21 c j (by omega), o19 c j (by omega)]; exact vo c j hc)
            rw [o22 _ _ (by decide) (by decide) (by decide), e21, up_eq]
            have em : mmK (sD S) (n + 1) = min (mmK (sD S) n) (cnK (sD S) n (2 ^ fre (sD S))) := rfl
            rw [em]
            congr 1
            omega
      have em0 : mmK (sD S) 0 = 1000 := rfl
      refine ⟨totO (sD S) + 1, loop (totO (sD S) + 1) 0 w13 (fun _ => false) (by omega) (by omega) R13 V13 ?_ (fun _ _ _ => rfl)⟩
      rw [o13 _ _ (by omega), e12, up_eq, em0, Nat.min_eq_left (by omega)]
      omega
  · have hT2 : ¬ totO (sD S) * 2 ^ fre (sD S) ≤ 20000 := fun k => z (hcm.mpr (by omega))
    unfold capA at q0
    rw [if_neg hT2] at q0
    exact q0
