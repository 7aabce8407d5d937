/-! READ at the model -/
theorem RepM_cp {w v : Wd} {a b : Nat} {D : Dw} (hW : WF D) (h : RepM w a D) (e : ∀ j, j < 98 → v b j = w a j) : RepM v b D := by
  obtain ⟨g1, g2, g3, g4, g5, g6⟩ := h
  have m10 := hW.2.1
  have n6 := hW.1
  refine ⟨by rw [e _ (by decide)]; exact g1, by rw [e _ (by decide)]; exact g2, fun i hi => by rw [e _ (by omega)]; exact g3 i hi, fun i hi => by rw [e _ (by omega)]; exact g4 i hi, fun p hp => by rw [e _ (by omega)]; exact g5 p hp, fun p i hp hi => ?_⟩
  have := hW.deg hp
  rw [e _ (by omega)]; exact g6 p i hp hi
theorem read_M {Q : Int → Wd → Prop} {w : Wd} {S : Sg} (hS : SOK S) (h : HM w S) (hQ : ∀ w' f p D, RdA (sB S) (sL S) f p D → HM w' (rdS S f p D) → loM w w' → Q (f : Int) w') : X11_read w Q := by
  obtain ⟨s1, s2, s3, s4, s5, s6, s7, s8⟩ := id hS
  obtain ⟨h1, h2, h3, h4, h5, ⟨ea, h6, h7, h8⟩, h9, h10, h11⟩ := id h
  unfold X11_read
  intro w1 e1
  rw [h1] at e1
  have cp : ∀ (m i : Nat) (u : Wd), i ≤ sL S → sL S - i < m → (∀ j, j < i → u 67 j = sB S j) → (∀ c j, c ≠ 67 → u c j = w1 c j) → X11_read_l10 Q (X11_read_b36 Q) m (i : Int) u := by
    intro m
    induction m with
    | zero => intro i u _ q; omega
    | succ m ih =>
      intro i u hi hm hz ho
      have l4 : u 65 4 = (sL S : Int) := by rw [ho _ _ (by decide), e1, up_eq]
      have ow : ∀ c j, c ≠ 67 → ¬ (c = 65 ∧ j = 4) → u c j = w c j := fun c j a b => by rw [ho c j a, e1, up_ap, if_neg b]
      unfold X11_read_l10
      rw [l4, wr_nat (n := sL S) (by omega), wr_nat (n := i) (by omega)]
      refine ⟨fun z => ?_, fun z => ?_⟩
      · have ei : i = sL S := by omega
        subst ei
        unfold X11_read_b36
        intro w3 e3
        have o3 : ∀ c j, c ≠ 67 → ¬ (c = 65 ∧ (j = 4 ∨ j = 2)) → w3 c j = w c j := fun c j a b => by rw [e3, up_ap, if_neg (by omega)]; exact ow c j a (by omega)
        refine X11_cutsText_ok (B := sB S) (L := sL S) ⟨s5, by rw [e3, up_ap, if_neg (by omega)]; exact l4, fun i hi => ⟨by rw [e3, up_ap, if_neg (by omega)]; exact hz i hi, s6 i hi⟩, by rw [o3 _ _ (by decide) (by omega), o3 _ _ (by decide) (by omega), o3 _ _ (by decide) (by omega), o3 _ _ (by decide) (by omega)]; exact h11⟩ (fun w4 n hTn t4 x4 c4 o4 => ?_)
        intro w5 e5 w6 e6 w7 e7 w8 e8 w9 e9
        have o9 : ∀ c j, ¬ (c = 65 ∧ (j = 11 ∨ j = 12 ∨ j = 14 ∨ j = 20 ∨ j = 21)) → w9 c j = w4 c j := fun c j a => by rw [e9, up_ap, if_neg (by omega), e8, up_ap, if_neg (by omega), e7, up_ap, if_neg (by omega), e6, up_ap, if_neg (by omega), e5, up_ap, if_neg (by omega)]
        have w9_14 : w9 65 14 = 0 := by rw [e9, up_ap, if_neg (by omega), e8, up_ap, if_neg (by omega), e7, up_eq]
        have K9 : TkN w9 (sB S) (sL S) n := by
          refine ⟨s5, hTn, fun j a b => ?_, fun k => ?_⟩
          · unfold TkM1
            rw [o9 _ _ (by omega), o9 _ _ (by omega), o9 _ _ (by omega), o9 _ _ (by omega)]
            exact t4 j a b
          · rw [o9 _ _ (by omega), o9 _ _ (by omega)]; exact x4 k
        have M9 : MsI w9 (sB S) (sL S) n 0 := by
          refine ⟨K9, ?_, ?_, ?_, ?_, fun j hj => absurd hj (Nat.not_lt_zero j), by omega⟩
          · rw [e9, up_ap, if_neg (by omega), e8, up_ap, if_neg (by omega), e7, up_ap, if_neg (by omega), e6, up_ap, if_neg (by omega), e5, up_eq]; rfl
          · rw [e9, up_ap, if_neg (by omega), e8, up_ap, if_neg (by omega), e7, up_ap, if_neg (by omega), e6, up_eq]
          · rw [e9, up_ap, if_neg (by omega), e8, up_eq]; rfl
          · rw [e9, up_eq]; rfl
        have ow9 : ∀ c j, ¬ (67 ≤ c ∧ c ≤ 71) → ¬ (c = 65 ∧ (j = 2 ∨ j = 4 ∨ j = 10 ∨ j = 11 ∨ j = 12 ∨ j = 14 ∨ j = 20 ∨ j = 21)) → w9 c j = w c j := fun c j a b => by rw [o9 c j (by omega), o4 c j (by omega) (by omega)]; exact o3 c j (by omega) (by omega)
        have z2 : w9 65 2 = 0 := by rw [o9 _ _ (by omega), o4 _ _ (by omega) (by omega), e3, up_eq]
        refine X11_tells_ok M9 (fun w10 t f p hsy f12 p13 o10 => ?_)
        have ow10 : ∀ c j, ¬ (67 ≤ c ∧ c ≤ 71) → ¬ (c = 65 ∧ (j = 2 ∨ j = 4 ∨ 10 ≤ j ∧ j ≤ 15 ∨ j = 20 ∨ j = 21)) → w10 c j = w c j := fun c j a b => by rw [o10 c j (by omega)]; exact ow9 c j a (by omega)
        have z10 : w10 65 2 = 0 := by rw [o10 _ _ (by omega)]; exact z2
        have f2 := hsy.f2
        -- what is left when there is a fault
        have bad : ∀ (u u' : Wd) (f : Nat) (p : Int), f ≠ 0 → RdA (sB S) (sL S) f p (sD S) → u 65 2 = 0 → (∀ c j, ¬ (67 ≤ c ∧ c ≤ 71) → c ≠ 74 → c ≠ 75 → ¬ (c = 65 ∧ (j = 2 ∨ j = 4 ∨ 10 ≤ j ∧ j ≤ 15 ∨ j = 20 ∨ j = 21)) → u c j = w c j) → u' = up u 65 16 p → Q (f : Int) u' := fun u u' f p hf hR u2 ou eu => by
          have er : rdS S f p (sD S) = (0, sB S, p, sD S, sH S, sF S, sS S) := by unfold rdS; rw [if_neg hf]
          have ou' : ∀ c j, ¬ (67 ≤ c ∧ c ≤ 71) → c ≠ 74 → c ≠ 75 → ¬ (c = 65 ∧ (j = 2 ∨ j = 4 ∨ 10 ≤ j ∧ j ≤ 16 ∨ j = 20 ∨ j = 21)) → u' c j = w c j := fun c j a b d e => by rw [eu, up_ap, if_neg (by omega)]; exact ou c j a b d (by omega)
          refine hQ u' f p (sD S) hR ?_ (fun c j hc => ou' c j (by omega) (by omega) (by omega) (by omega))
          rw [er]
          exact HM.gen hS h (fun c j hc => ou' c j (by omega) (by omega) (by omega) (by omega)) (by rw [eu, up_ap, if_neg (by omega)]; exact u2) (fun i hi => absurd hi (Nat.not_lt_zero i)) (by rw [eu, up_eq])
        unfold X11_read_b92
        rw [f12, wr_nat (n := f) (by omega)]
        refine ⟨fun z => ?_, fun z => ?_⟩
        · have z : f = 0 := by omega
          subst z
          obtain ⟨hs0, -, -⟩ := syn_0 hsy
          obtain ⟨hO, -⟩ := syn_tok hs0
          have n4 : n ≤ 400 := hO.le.1
          have K10 := K9.of (w' := w10) (fun c j a b => o10 c j (by omega))
          have hC : TCm w10 (txT (sB S) (sL S) n) (fun j => nmv 27 (sB S) (sL S) (tsq (sB S) (sL S) j)) (tsq (sB S) (sL S)) := by
            refine ⟨hO, ?_, f12, (K10.2.2.2 n4).1, fun j hj => ?_, fun i j hi hj _ _ => ?_, fun i j hij hj => tsq_inc hTn j hij hj⟩
            · rw [o10 _ _ (by omega), o9 _ _ (by omega), c4, show min (n + 1) 401 = n + 1 by omega]; rfl
            · have hj : j < n := hj
              obtain ⟨k1, k2, k3, k4⟩ := K10.2.2.1 j hj (by omega)
              have tb := tok_bd hTn hj
              have tl := hTn.1 j hj
              exact ⟨k1, tkd_lt _ _ _, k2, by omega, fun q => ⟨k4 q, (tb.1 q).2⟩, fun q => ⟨k3 q, tb.2 q⟩⟩
            · have a := hTn.1 i hi
              have b := hTn.1 j hj
              exact nm_same (by omega) (by omega)
          refine X11_means_ok hC (by rw [o10 _ _ (by omega)]; exact w9_14) (fun w17 f p hse f6 v14 v15 hR o17 => ?_)
          have z17 : w17 65 2 = 0 := by rw [o17 _ _ (by omega) (by decide) (by decide)]; exact z10
          have ow17 : ∀ c j, ¬ (67 ≤ c ∧ c ≤ 71) → c ≠ 74 → c ≠ 75 → ¬ (c = 65 ∧ (j = 2 ∨ j = 4 ∨ 10 ≤ j ∧ j ≤ 15 ∨ j = 20 ∨ j = 21)) → w17 c j = w c j := fun c j a b d e => by rw [o17 c j (by omega) b d]; exact ow10 c j a e
          have v12 : w17 65 12 = 0 := by rw [o17 _ _ (by omega) (by decide) (by decide)]; exact f12
          unfold X11_read_b103
          rw [v12, v14, wr_nat (n := f) (by omega)]
          refine ⟨fun _ => ⟨fun y => ?_, fun y => ?_⟩, fun k => absurd (by decide) k⟩
          · have y : f = 0 := by omega
            subst y
            obtain ⟨hNo, R74⟩ := hR rfl
            have pe : p = -1 := by
              rcases hse with ⟨-, k2, k3⟩ | ⟨j, k1, -⟩
              · exact k2
              · obtain ⟨t', ht', hF'⟩ := k1.1
                have := (hF'.sp hO ht').2.2.1
                omega
            unfold X11_read_b133
            intro w13 e13
            have o13 : ∀ c j, ¬ (c = 65 ∧ j = 16) → w13 c j = w17 c j := fun c j a => by rw [e13, up_ap, if_neg a]
            rw [o13 65 12 (by omega), v12, o13 65 14 (by omega), v14]
            refine ⟨fun _ => ⟨fun _ => ?_, fun k => absurd (by decide) k⟩, fun k => absurd (by decide) k⟩
            have er : rdS S 0 p (dTx (txT (sB S) (sL S) n) n) = (0, sB S, p, dTx (txT (sB S) (sL S) n) n, 0, sF S, (fun _ => none)) := by unfold rdS; rw [if_pos rfl]
            have c2 : ∀ (m i : Nat) (u : Wd), i ≤ 98 → 98 - i < m → (∀ j, j < i → u 73 j = w17 74 j) → (∀ c j, c ≠ 73 → u c j = w13 c j) → X11_read_l162 Q (X11_read_b186 Q) m (i : Int) u := by
              intro m
              induction m with
              | zero => intro i u _ q; omega
              | succ m ih =>
                intro i u hi hm hz ho
                unfold X11_read_l162
                rw [wr_nat (n := i) (by omega), show wr 98 = 98 by decide]
                refine ⟨fun q => ?_, fun q => ⟨ix_of rfl (by omega) (by decide), ix_of rfl (by omega) (by decide), fun w14 e14 => ?_⟩⟩
                · have ei : i = 98 := by omega
                  subst ei
                  unfold X11_read_b186
                  intro w15 e15
                  have o15 : ∀ c j, ¬ (c = 65 ∧ j = 24) → w15 c j = u c j := fun c j a => by rw [e15, up_ap, if_neg a]
                  have c3 : ∀ (m i : Nat) (v : Wd), i ≤ 3 → 3 - i < m → (∀ j, j < i → v 78 j = 0) → (∀ c j, c ≠ 78 → v c j = w15 c j) → X11_read_l193 Q (X11_read_b211 Q) m (i : Int) v := by
                    intro m
                    induction m with
                    | zero => intro i v _ q; omega
                    | succ m ih =>
                      intro i v hi hm hz3 ho3
                      unfold X11_read_l193
                      rw [wr_nat (n := i) (by omega), show wr 3 = 3 by decide]
                      refine ⟨fun q => ?_, fun q => ⟨ix_of rfl (by omega) (by decide), fun w16 e16 => ?_⟩⟩
                      · have ei : i = 3 := by omega
                        subst ei
                        unfold X11_read_b211
                        have fo : ∀ c j, c ≠ 78 → c ≠ 73 → ¬ (c = 65 ∧ (j = 24 ∨ j = 16)) → v c j = w17 c j := fun c j a b d => by rw [ho3 c j a, o15 c j (by omega), ho c j b, o13 c j (by omega)]
                        refine hQ v 0 p _ (Or.inr ⟨n, hs0, hse, fun _ => ⟨hNo, rfl⟩⟩) ?_ (fun c j hc => by rw [fo c j (by omega) (by omega) (by omega)]; exact ow17 c j (by omega) (by omega) (by omega) (by omega))
                        rw [er]
                        have e73 : ∀ j, j < 98 → v 73 j = w17 74 j := fun j hj => by rw [ho3 _ _ (by decide), o15 _ _ (by omega)]; exact hz j hj
                        refine ⟨by rw [fo _ _ (by decide) (by decide) (by omega)]; exact z17, fun i hi => absurd hi (Nat.not_lt_zero i), ?_, ?_, ?_, ⟨ea, h6, ?_, fun i hi => absurd hi (Nat.not_lt_zero i)⟩, fun s hs => ?_, fun s _ D' k => by exact absurd k (by show ¬ (none : Option Dw) = some D'; exact fun q => by cases q), ?_⟩
                        · rw [ho3 _ _ (by decide), o15 _ _ (by omega), ho _ _ (by decide), e13, up_eq]; exact pe.symm
                        · exact RepM_cp (dTx_WF hO hNo (u := n) (Nat.le_refl _)) R74 e73
                        · rw [ho3 _ _ (by decide), e15, up_eq]; rfl
                        · rw [fo _ _ (by decide) (by decide) (by omega), ow17 _ _ (by omega) (by decide) (by decide) (by omega)]; exact h7
                        · exact hz3 s hs
                        · rw [fo _ _ (by decide) (by decide) (by omega), fo _ _ (by decide) (by decide) (by omega), fo _ _ (by decide) (by decide) (by omega), fo _ _ (by decide) (by decide) (by omega), ow17 _ _ (by omega) (by decide) (by decide) (by omega), ow17 _ _ (by omega) (by decide) (by decide) (by omega), ow17 _ _ (by omega) (by decide) (by decide) (by omega), ow17 _ _ (by omega) (by decide) (by decide) (by omega)]
                          exact h11
                      · rw [wt_of rfl (by omega)] at e16
                        rw [show (i : Int) + 1 = ((i + 1 : Nat) : Int) by omega]
                        refine ih (i + 1) w16 (by omega) (by omega) (fun j hj => ?_) (fun c j a => by rw [e16, up_ap, if_neg (by omega)]; exact ho3 c j a)
                        rw [e16, up_ap]
                        by_cases qq : j = i
                        · rw [if_pos ⟨rfl, qq⟩]
                        · rw [if_neg (by omega)]; exact hz3 j (by omega)
                  exact ⟨4, c3 4 0 w15 (by omega) (by omega) (fun j hj => absurd hj (Nat.not_lt_zero j)) (fun _ _ _ => rfl)⟩
                · rw [wt_of rfl (by omega), rd_of rfl (by omega), ho 74 i (by decide), o13 74 i (by omega)] at e14
                  rw [show (i : Int) + 1 = ((i + 1 : Nat) : Int) by omega]
                  refine ih (i + 1) w14 (by omega) (by omega) (fun j hj => ?_) (fun c j a => by rw [e14, up_ap, if_neg (by omega)]; exact ho c j a)
                  rw [e14, up_ap]
                  by_cases qq : j = i
                  · rw [if_pos ⟨rfl, qq⟩, qq]
                  · rw [if_neg (by omega)]; exact hz j (by omega)
            exact ⟨99, c2 99 0 w13 (by omega) (by omega) (fun j hj => absurd hj (Nat.not_lt_zero j)) (fun _ _ _ => rfl)⟩
          · unfold X11_read_b133
            intro w13 e13
            have o13 : ∀ c j, ¬ (c = 65 ∧ j = 16) → w13 c j = w17 c j := fun c j a => by rw [e13, up_ap, if_neg a]
            rw [o13 65 12 (by omega), v12, o13 65 14 (by omega), v14, wr_nat (n := f) (by omega)]
            rw [v15 (by omega)] at e13
            refine ⟨fun _ => ⟨fun k => by omega, fun _ => bad w17 w13 f p (by omega) (Or.inr ⟨n, hs0, hse, fun k => by omega⟩) z17 ow17 e13⟩, fun k => absurd (by decide) k⟩
        · unfold X11_read_b103
          rw [f12, wr_nat (n := f) (by omega)]
          refine ⟨fun k => by omega, fun _ => ?_⟩
          unfold X11_read_b133
          intro w13 e13
          have o13 : ∀ c j, ¬ (c = 65 ∧ j = 16) → w13 c j = w10 c j := fun c j a => by rw [e13, up_ap, if_neg a]
          rw [o13 65 12 (by omega), f12, wr_nat (n := f) (by omega)]
          rw [p13 (by omega)] at e13
          exact ⟨fun k => by omega, fun _ => bad w10 w13 f p (by omega) (Or.inl ⟨n, t, hsy, by omega⟩) z10 (fun c j a _ _ d => ow10 c j a d) e13⟩
      · have i2 : i < sL S := by omega
        have sb := s6 i i2
        rw [rd_of rfl (by omega), ow 66 i (by decide) (by omega), h2 i i2]
        refine ⟨ix_of rfl (by omega) (by decide), ix_of rfl (by omega) (by decide), byt_rg sb.1 sb.2, fun w2 e2 => ?_⟩
        rw [wt_of rfl (by omega)] at e2
        rw [show (i : Int) + 1 = ((i + 1 : Nat) : Int) by omega]
        refine ih (i + 1) w2 (by omega) (by omega) (fun j hj => ?_) (fun c j a => by rw [e2, up_ap, if_neg (by omega)]; exact ho c j a)
        rw [e2, up_ap]
        by_cases qq : j = i
        · rw [if_pos ⟨rfl, qq⟩, qq]
        · rw [if_neg (by omega)]; exact hz j (by omega)
  exact ⟨sL S + 1, cp (sL S + 1) 0 w1 (by omega) (by omega) (fun j hj => absurd hj (Nat.not_lt_zero j)) (fun _ _ _ => rfl)⟩
