/-! CAPPED at the model -/
theorem cpv_eul {D : Dw} (hW : WF D) (n : Nat) (t : Nat → Bool) : 2 * (nPt D (dM D) : Int) - eul (dMx D (numP D n) t) = (cpv D n t : Int) := by
  have h := (cpv_ok hW n t).1
  show 2 * (nPt D (dM D) : Int) - ((dN D : Int) - (dM D : Int) + (nFa (dMx D (numP D n) t) : Int)) = _
  omega
theorem cnK_bd {D : Dw} (hW : WF D) (n k : Nat) : cnK D n k ≤ 1000 := by
  induction k with
  | zero => exact Nat.le_refl _
  | succ k ih => show min (cnK D n k) _ ≤ 1000; omega
theorem mmK_1000 {D : Dw} (k : Nat) : mmK D k ≤ 1000 := by
  induction k with
  | zero => exact Nat.le_refl _
  | succ k ih => show min (mmK D k) _ ≤ 1000; omega
theorem capped_M {Q : Int → Wd → Prop} {w : Wd} {S : Sg} (hS : SOK S) (h : HM w S) (hQ : ∀ w', HM w' S → loM w w' → Q (capA (sD S)) w') : X11_capped w Q := by
  have hW := hS.1
  obtain ⟨D, hD⟩ : ∃ D, D = sD S := ⟨_, rfl⟩
  have hR : RepM w 73 (sD S) := h.2.2.2.1
  rw [← hD] at hW hR hQ
  have n6 := hW.1
  have m10 := hW.2.1
  obtain ⟨f1, f2, f3⟩ := fre_cnt hW
  have hp10 : 2 ^ fre D ≤ 2 ^ 10 := Nat.pow_le_pow_right (by decide) f3
  have hpp := Nat.two_pow_pos (fre D)
  have hb := totO_bd D
  have htp := totO_pos D
  have hpl := nPt_le D (dM D)
  have hQ' : ∀ w', (∀ c j, c ≠ 83 → c ≠ 82 → (c < 79 ∨ 81 < c) → w' c j = w c j) → Q (capA D) w' := fun w' o => hQ w' (HM.same hS h (fun c j hc => o c j (by omega) (by omega) (by omega))) (fun c j hc => o c j (by omega) (by omega) (by omega))
  unfold X11_capped
  refine X11_partsOf_ok hW hR (by decide) (fun w1 o1 => ?_)
  have R1 : RepM w1 73 D := RepM.of hR (fun j => o1 73 j (by decide))
  refine ⟨ix_of (n := 1) rfl (by decide) (by decide), ix_of (n := 0) rfl (by decide) (by decide), fun y3 e3 => ?_⟩
  rw [rd0, rd1, R1.1, R1.2.1] at e3
  have e3 : y3 = (fre D : Int) := by rw [e3]; omega
  subst e3
  have q1 := hQ' w1 (fun c j _ c2 _ => o1 c j c2)
  refine X11_allRounds_ok hW R1 ?_
  have hc1 := (lcm_i (a := (totO D : Int)) (b := 20000) (wl_nat (by omega)) (by decide)).2.2.2
  refine ⟨fun z => ?_, fun z => ?_⟩
  · have hgt := hc1.mp z
    have hT2 : ¬ totO D * 2 ^ fre D ≤ 20000 := fun k => by
      have := Nat.le_mul_of_pos_right (totO D) hpp
      omega
    unfold capA at q1
    rw [if_neg hT2] at q1
    exact q1
  · have hT1 : totO D ≤ 20000 := by
      rcases Nat.lt_or_ge 20000 (totO D) with k | k
      · exact absurd (hc1.mpr (by omega)) z
      · exact k
    have hmul : totO D * 2 ^ fre D ≤ 20000 * 1024 := Nat.mul_le_mul hT1 hp10
    rw [lsl_nat (by omega) (by omega)]
    have hcm := (lcm_i (a := ((totO D * 2 ^ fre D : Nat) : Int)) (b := 20000) (wl_nat (by omega)) (by decide)).1
    refine ⟨fun z2 => ?_, fun z2 => ?_⟩
    · have hT2 : totO D * 2 ^ fre D ≤ 20000 := by have := hcm.mp z2; omega
      have eA : capA D = (mmK D (totO D) : Int) := by unfold capA; rw [if_pos hT2]
      rw [eA] at hQ'
      refine X11_forest_ok hW R1 (fun w6 F hF o6 => ?_)
      have hF1 := hF.1
      have o16 : ∀ c j, c ≠ 82 → w6 c j = w c j := fun c j hc => by rw [o6 c j hc, o1 c j hc]
      -- lines of one way
      have lines : ∀ (e147 : Int → Int → Int → Int → Int → Int → Int → Wd → Prop) (n k : Nat) (x6 : Int), k < 2 ^ fre D → (∀ v, RepM v 83 (dMx D (numP D n) (tK D k)) → (∀ e, e < dM D → ¬ Loose D e → v 83 (22 + e) = 0) → (∀ c j, c ≠ 83 → c ≠ 82 → (c < 79 ∨ 81 < c) → v c j = w c j) → e147 (nPt D (dM D) : Int) (fre D : Int) (totO D : Int) (F : Int) x6 (n : Int) (k : Int) v) → ∀ (m e : Nat) (v : Wd) (u : Nat → Bool), e ≤ dM D → dM D - e < m → RepM v 83 (dMx D (numP D n) u) → (∀ d, d < dM D → ¬ Loose D d → u d = false) → (∀ d, d < e → u d = tK D k d) → (∀ c j, c ≠ 83 → c ≠ 82 → (c < 79 ∨ 81 < c) → v c j = w c j) → X11_capped_l97 Q e147 m (nPt D (dM D) : Int) (fre D : Int) (totO D : Int) (F : Int) x6 (n : Int) (k : Int) (cnt (lmk D).testBit e : Int) (e : Int) v := by
        intro e147 n k x6 hk hK m
        induction m with
        | zero => intro e v u a1 a2; omega
        | succ m ih =>
          intro e v u a1 a2 hRv hfor hu vo
          have R73 : RepM v 73 D := RepM.of hR (fun j => vo 73 j (by decide) (by decide) (by decide))
          unfold X11_capped_l97
          rw [rd1, R73.2.1, wr_nat (n := dM D) (by omega), wr_nat (n := e) (by omega), show (e : Int) + 1 = ((e + 1 : Nat) : Int) by omega]
          refine ⟨ix_of (n := 1) rfl (by decide) (by decide), fun y => ?_, fun y => ?_⟩
          · have he : e = dM D := by omega
            subst he
            obtain ⟨r0, r1, r2, r3, r4, r5⟩ := hRv
            have r3' : ∀ e, e < dM D → v 83 (22 + e) = if tK D k e then 1 else 0 := fun e he => by
              have := r3 e he
              rw [← hu e he]; exact this
            refine hK v ⟨r0, r1, r2, r3', r4, r5⟩ (fun e he hl => ?_) vo
            have := r3 e he
            have this : v 83 (22 + e) = if u e then 1 else 0 := this
            rw [hfor e he hl] at this
            exact this
          · have he : e < dM D := by omega
            have hfb := hF.2 e (by omega)
            have hlb := lmk_bit hW e
            have hcl := cnt_le (f := (lmk D).testBit) e
            refine X11_has_ok F e rfl rfl (by omega) (by omega) (fun q => ⟨fun k => absurd k (by decide), fun _ => ?_⟩) (fun q => ⟨fun _ => ?_, fun k => absurd (by decide) k⟩)
            · have hnl := (hfb.mp q).2
              have hb0 : (lmk D).testBit e = false := Bool.eq_false_iff.mpr (fun k => hnl (hlb.mp k).2)
              have := ih (e + 1) v u (by omega) (by omega) hRv hfor (fun d hd => ?_) vo
              · rw [cnt_n hb0] at this; exact this
              · by_cases y2 : d = e
                · rw [y2, hfor e he hnl]
                  cases q2 : tK D k e
                  · rfl
                  · exact absurd (tK_m hW q2).2 hnl
                · exact hu d (by omega)
            · have hl : Loose D e := Classical.byContradiction (fun y2 => by rw [hfb.mpr ⟨he, y2⟩] at q; exact absurd q (by decide))
              have hb1 : (lmk D).testBit e = true := hlb.mpr ⟨he, hl⟩
              refine ⟨ix_of (n := 22 + e) (by omega) (by omega) (by decide), fun w11 e11 => ?_⟩
              rw [wt_of (n := 22 + e) (by omega) (by omega), isr_bit (by omega) (by omega)] at e11
              have hbit : tK D k e = k.testBit (cnt (lmk D).testBit e) := by
                unfold tK
                rw [pdp_bit 10 _ _ e (by omega), hb1, Bool.true_and]
              have v11 : ∀ c j, ¬ (c = 83 ∧ j = 22 + e) → w11 c j = v c j := fun c j hc => by rw [e11, up_ap, if_neg hc]
              have := ih (e + 1) w11 (fun d => if d = e then tK D k e else u d) (by omega) (by omega) ?_ (fun d hd hnl => ?_) (fun d hd => ?_) (fun c j c1 c2 c3 => by rw [v11 c j (by omega)]; exact vo c j c1 c2 c3)
              · rw [cnt_y hb1] at this
                rw [show (cnt (lmk D).testBit e : Int) + 1 = ((cnt (lmk D).testBit e + 1 : Nat) : Int) by omega]
                exact this
              · obtain ⟨r0, r1, r2, r3, r4, r5⟩ := hRv
                refine ⟨by rw [v11 _ _ (by omega)]; exact r0, by rw [v11 _ _ (by omega)]; exact r1, fun i hi => ?_, fun d hd => ?_, fun p hp => ?_, fun p i hp hi => ?_⟩
                · have hi : i < 2 * dM D := hi
                  rw [v11 _ _ (by omega)]; exact r2 i hi
                · have hd : d < dM D := hd
                  show w11 83 (22 + d) = if (if d = e then tK D k e else u d) then 1 else 0
                  by_cases y2 : d = e
                  · rw [if_pos y2, y2, e11, up_eq, hbit]
                  · rw [if_neg y2, v11 _ _ (by omega)]; exact r3 d hd
                · have hp : p < dN D := hp
                  rw [v11 _ _ (by omega)]; exact r4 p hp
                · have hp : p < dN D := hp
                  rw [v11 _ _ (by omega)]; exact r5 p i hp hi
              · by_cases y2 : d = e
                · exact absurd (by rw [y2]; exact hl) hnl
                · rw [if_neg y2]; exact hfor d hd hnl
              · by_cases y2 : d = e
                · rw [if_pos y2, y2]
                · rw [if_neg y2]; exact hu d (by omega)
      -- ways of one order
      have ways : ∀ (e178 : Int → Int → Int → Int → Int → Int → Wd → Prop) (n b : Nat), b ≤ 1000 → (∀ v, (∀ c j, c ≠ 83 → c ≠ 82 → (c < 79 ∨ 81 < c) → v c j = w c j) → e178 (nPt D (dM D) : Int) (fre D : Int) (totO D : Int) (F : Int) ((min b (cnK D n (2 ^ fre D)) : Nat) : Int) (n : Int) v) → ∀ (m k : Nat) (v : Wd) (u : Nat → Bool), k ≤ 2 ^ fre D → 2 ^ fre D - k < m → RepM v 83 (dMx D (numP D n) u) → (∀ d, d < dM D → ¬ Loose D d → u d = false) → (∀ c j, c ≠ 83 → c ≠ 82 → (c < 79 ∨ 81 < c) → v c j = w c j) → X11_capped_l83 Q e178 m (nPt D (dM D) : Int) (fre D : Int) (totO D : Int) (F : Int) ((min b (cnK D n k) : Nat) : Int) (n : Int) (k : Int) v := by
        intro e178 n b hb1000 hK m
        induction m with
        | zero => intro k v u a1 a2; omega
        | succ m ih =>
          intro k v u a1 a2 hRv hfor vo
          unfold X11_capped_l83
          rw [isl1 (by omega), wr_nat (n := 2 ^ fre D) (by omega), wr_nat (n := k) (by omega)]
          refine ⟨fun y => ?_, fun y => ⟨dM D + 1, ?_⟩⟩
          · have hk : k = 2 ^ fre D := by omega
            subst hk
            exact hK v vo
          · refine lines _ n k _ (by omega) (fun v' R' for' vo' => ?_) (dM D + 1) 0 v u (by omega) (by omega) hRv hfor (fun d hd => by omega) vo
            unfold X11_capped_b147
            refine X11_euler_ok (dMx_WF hW (fun p _ => numP_lt D n p)) R' (by omega) (fun w12 _ o12 => ?_)
            intro y14 e14
            rw [cpv_eul hW n (tK D k)] at e14
            subst e14
            have hcv := (cpv_ok hW n (tK D k)).2.2
            have R12 : RepM w12 83 (dMx D (numP D n) (tK D k)) := RepM.of R' (fun j => o12 83 j (by omega))
            have vo12 : ∀ c j, c ≠ 83 → c ≠ 82 → (c < 79 ∨ 81 < c) → w12 c j = w c j := fun c j c1 c2 c3 => by rw [o12 c j c3]; exact vo' c j c1 c2 c3
            have hfor' : ∀ d, d < dM D → ¬ Loose D d → tK D k d = false := fun d hd hnl => by
              cases q2 : tK D k d
              · rfl
              · exact absurd (tK_m hW q2).2 hnl
            have ec : cnK D n (k + 1) = min (cnK D n k) (cpv D n (tK D k)) := rfl
            have nxt := ih (k + 1) w12 (tK D k) (by omega) (by omega) R12 hfor' vo12
            rw [wr_nat (n := min b (cnK D n k)) (by omega), wr_nat (n := cpv D n (tK D k)) (by omega), show (k : Int) + 1 = ((k + 1 : Nat) : Int) by omega]
            refine ⟨fun y2 => ?_, fun y2 => ?_⟩
            · rw [show min b (cnK D n (k + 1)) = min b (cnK D n k) by rw [ec]; omega] at nxt
              exact nxt
            · rw [show min b (cnK D n (k + 1)) = cpv D n (tK D k) by rw [ec]; omega] at nxt
              exact nxt
      have loop : ∀ (m n : Nat) (v : Wd), n ≤ totO D → totO D - n < m → (∀ c j, c ≠ 83 → c ≠ 82 → (c < 79 ∨ 81 < c) → v c j = w c j) → X11_capped_l65 Q (X11_capped_b184 Q) m (nPt D (dM D) : Int) (fre D : Int) (totO D : Int) (F : Int) (mmK D n : Int) (n : Int) v := by
        intro m
        induction m with
        | zero => intro n v a1 a2; omega
        | succ m ih =>
          intro n v a1 a2 vo
          have hc2 := (lcm_i (a := (n : Int)) (b := (totO D : Int)) (wl_nat (by omega)) (wl_nat (by omega))).2.1
          have hmk := mmK_1000 (D := D) n
          unfold X11_capped_l65
          rw [wr_nat (n := n) (by omega)]
          refine ⟨fun y => ?_, fun y => ?_⟩
          · have hn : n = totO D := by have := hc2.mp y; omega
            subst hn
            unfold X11_capped_b184
            rw [wr_nat (by omega)]
            exact hQ' v vo
          · have hn : n < totO D := by
              rcases Nat.lt_or_ge n (totO D) with k | k
              · exact k
              · exact absurd (hc2.mpr (by omega)) y
            refine X11_triesOrder_ok n rfl (by omega) hW (RepM.of hR (fun j => vo 73 j (by decide) (by decide) (by decide))) (fun w8 R8 o8 => ⟨2 ^ fre D + 1, ?_⟩)
            have := ways (X11_capped_b178 Q (X11_capped_l65 Q (X11_capped_b184 Q) m) (X11_capped_b184 Q)) n (mmK D n) hmk (fun v' vo' => by
              unfold X11_capped_b178
              rw [show (n : Int) + 1 = ((n + 1 : Nat) : Int) by omega]
              exact ih (n + 1) v' (by omega) (by omega) vo') (2 ^ fre D + 1) 0 w8 (fun _ => false) (by omega) (by omega) R8 (fun _ _ _ => rfl) (fun c j c1 c2 c3 => by rw [o8 c j c1]; exact vo c j c1 c2 c3)
            have e0 : min (mmK D n) (cnK D n 0) = mmK D n := Nat.min_eq_left hmk
            rw [e0] at this
            exact this
      exact ⟨totO D + 1, loop (totO D + 1) 0 w6 (by omega) (by omega) (fun c j _ c2 _ => o16 c j c2)⟩
    · have hT2 : ¬ totO D * 2 ^ fre D ≤ 20000 := fun k => z2 (hcm.mpr (by omega))
      unfold capA at q1
      rw [if_neg hT2] at q1
      exact q1
