/-! TEXTS: the model's meaning as a whole -/
section MEANS
variable {w : Wd} {T : Tx} {nv ql : Nat → Nat} {Q : Wd → Prop}
theorem HdM.of {w w' : Wd} (h : HdM w T) (p6 : nP T ≤ 6) (l10 : nL T ≤ 10) (e0 : w' 65 21 = w 65 21) (e : ∀ j, j < 38 → w' 74 j = w 74 j) : HdM w' T := by
  obtain ⟨h1, h2, h3, h4, h5, h6⟩ := h
  exact ⟨by rw [e0]; exact h1, by rw [e _ (by decide)]; exact h2, by rw [e _ (by decide)]; exact h3, fun i hi => by rw [e _ (by omega)]; exact h4 i hi, fun i hi => by rw [e _ (by omega)]; exact h5 i hi, fun i hi => by rw [e _ (by omega)]; exact h6 i hi⟩
theorem X11_rounds_ok {e266 : Wd → Prop} {S : Nat → Nat → Prop} (h : TCm w T nv ql) (hN : NmM w T nv (nP T)) (hH : HdM w T) (hR : RwM w T 0) (hS : Wst w ql (xN T) S) (hK : ∀ w', HdM w' T → Wst w' ql (xN T) (fun a b => S a b ∨ SK T 3 (xN T) a b) → (w' 65 14 = 0 → RwM w' T (xN T)) → (∀ c j, ¬ (c = 65 ∧ (j = 14 ∨ j = 15)) → ¬ (c = 74 ∧ 38 ≤ j) → w' c j = w c j) → e266 w') : ∃ m, X11_means_l236 Q e266 m 0 w := by
  have hO := h.1
  obtain ⟨n4, p6, l10⟩ := hO.le
  have p6 : nP T ≤ 6 := p6
  have l10 : nL T ≤ 10 := l10
  have loop : ∀ (m t : Nat) (u : Wd), t ≤ xN T + 1 → xN T + 1 - t < m → Wst u ql (xN T) (fun a b => S a b ∨ SK T 3 t a b) → (u 65 14 = 0 → RwM u T (min t (xN T))) → (∀ c j, ¬ (c = 65 ∧ (j = 14 ∨ j = 15)) → ¬ (c = 74 ∧ 38 ≤ j) → u c j = w c j) → X11_means_l236 Q e266 m (t : Int) u := by
    intro m
    induction m with
    | zero => intro t u _ q; omega
    | succ m ih =>
      intro t u ht hm hS hR ho
      have hu : TCm u T nv ql := h.of (fun c j a b d => ho c j (by omega) (by omega))
      have hNu : NmM u T nv (nP T) := ⟨by rw [ho _ _ (by omega) (by omega)]; exact hN.1, hN.2.1, fun i hi => by rw [ho _ _ (by omega) (by omega)]; exact hN.2.2 i hi⟩
      have hHu : HdM u T := hH.of p6 l10 (ho _ _ (by omega) (by omega)) (fun j hj => ho _ _ (by omega) (by omega))
      unfold X11_means_l236
      rw [hu.2.1, wr_nat (n := xN T + 1) (by omega), wr_nat (n := t) (by omega), show (t : Int) + 1 = ((t + 1 : Nat) : Int) by omega]
      refine ⟨fun z => ?_, fun z => ⟨ix_of rfl (by omega) (by decide), ?_⟩⟩
      · have e : t = xN T + 1 := by omega
        subst e
        rw [show min (xN T + 1) (xN T) = xN T by omega] at hR
        exact hK u hHu (hS.congr (fun j k => or_congr_right SK_e)) hR ho
      · rw [rd_of rfl (by omega), show wr 23 = 23 by decide]
        by_cases y : t = xN T
        · subst y
          rw [hu.2.2.2.1, show wr 0 = 0 by decide]
          refine ⟨fun k => absurd k (by decide), fun _ => ih (xN T + 1) u (by omega) (by omega) (hS.congr (fun j k => or_congr_right SK_e.symm)) (by rw [show min (xN T + 1) (xN T) = min (xN T) (xN T) by omega]; exact hR) ho⟩
        · have ht' : t < xN T := by omega
          rw [show min t (xN T) = t by omega] at hR
          have mn : min (t + 1) (xN T) = t + 1 := by omega
          obtain ⟨k1, k2, k3, k4, k5, k6⟩ := hu.2.2.2.2.1 t ht'
          have mi := mk_iff (T := T) (t := t) k2
          rw [k1, wr_nat (n := mkd (xK T t)) (by omega)]
          refine ⟨fun z => ?_, fun z => ih (t + 1) u (by omega) (by omega) (hS.congr (fun j k => or_congr_right (SK_n ht' (fun k => z (mi.2.2.1.mpr k))).symm)) (fun q => ?_) ho⟩
          · have z := mi.2.2.1.mp z
            refine X11_meansRound_ok rfl hu hNu hHu ht' z hS hR (fun w' S' R' o' => ih (t + 1) w' (by omega) (by omega) (S'.congr (fun a b => ?_)) (by rw [mn]; exact R') (fun c j a b => by rw [o' c j a b, ho c j a b]))
            rw [SK_s ht']
            constructor
            · rintro ((q | q) | q)
              · exact Or.inl q
              · exact Or.inr (Or.inl q)
              · exact Or.inr (Or.inr ⟨z, q⟩)
            · rintro (q | q | q)
              · exact Or.inl (Or.inl q)
              · exact Or.inl (Or.inr q)
              · exact Or.inr q.2
          · rw [mn]
            intro p i hp hi
            show _ = (((if xK T t = 3 ∧ nam T (xA T (t + 1)) = (p : Int) then xI T (t + 2 + i) else rw1 T t p i) : Nat) : Int)
            rw [if_neg (fun k => z (mi.2.2.1.mpr k.1))]
            exact hR q p i hp hi
  refine ⟨xN T + 2, loop (xN T + 2) 0 w (by omega) (by omega) (hS.congr (fun j k => ⟨Or.inl, fun y => y.resolve_right (fun y => ?_)⟩)) (fun _ => by rw [show min 0 (xN T) = 0 by omega]; exact hR) (fun _ _ _ _ => rfl)⟩
  obtain ⟨t', a, -⟩ := y
  omega
theorem pl_same (hO : TOK T) (h : NoF T) (p : Nat) : pl (d1 T) (p + 1) = pl (dT0 T) p := by
  funext e
  cases q : pl (dT0 T) p e
  · cases q' : pl (d1 T) (p + 1) e
    · rfl
    · have := (onL_pl hO h).mp (onL_d1.mpr q')
      rw [q] at this
      exact absurd this (by decide)
  · exact onL_d1.mp ((onL_pl hO h).mpr q)
theorem rw_same (hO : TOK T) (h : NoF T) (p i : Nat) : ∀ t, rw1 T t p i = rwT T t p i
  | 0 => by
    show nth (pl (d1 T) (p + 1)) 10 i = nth (pl (dT0 T) p) 10 i
    rw [pl_same hO h]
  | t + 1 => by
    show (if xK T t = 3 ∧ nam T (xA T (t + 1)) = (p : Int) then xI T (t + 2 + i) else rw1 T t p i) = (if xK T t = 3 ∧ nam T (xA T (t + 1)) = (p : Int) then xI T (t + 2 + i) else rwT T t p i)
    rw [rw_same hO h p i t]
theorem rep_74 (hO : TOK T) (h : NoF T) (hH : HdM w T) (hR : RwM w T (xN T)) : RepM w 74 (dTx T (xN T)) := by
  have dg : ∀ p, dg1 T p = dgc (dT0 T) p := fun p => by
    show cnt (pl (d1 T) (p + 1)) 10 = cnt (pl (dT0 T) p) 10
    rw [pl_same hO h]
  obtain ⟨h1, h2, h3, h4, h5, h6⟩ := hH
  refine ⟨h2, h3, fun i hi => ?_, fun e he => ?_, fun p hp => ?_, fun p i hp hi => ?_⟩
  · obtain ⟨v, a1, a2, -⟩ := h.en hO hi
    rw [h4 i hi]
    show enA T i = (((enA T i).toNat : Nat) : Int)
    omega
  · rw [h5 e he]
    show _ = if decide (xK T (lT T e + 3) = 4) = true then 1 else 0
    by_cases z : xK T (lT T e + 3) = 4
    · rw [if_pos z, if_pos (decide_eq_true z)]
    · rw [if_neg z, if_neg (by rw [decide_eq_false z]; decide)]
  · rw [h6 p hp, dg]; rfl
  · have hi : i < dgc (dT0 T) p := hi
    rw [hR p i hp (by rw [dg]; exact hi), rw_same hO h]; rfl
theorem SK_any {j k : Nat} (hO : TOK T) : ((SK T 1 (xN T) j k ∨ SK T 2 (xN T) j k) ∨ SK T 3 (xN T) j k) ↔ AnyF T j k := by
  constructor
  · rintro ((⟨t, a, b, c, d⟩ | ⟨t, a, b, c, d⟩) | ⟨t, a, b, c, d⟩) <;> exact ⟨t, b, d⟩
  · rintro ⟨t, a, b⟩
    obtain ⟨-, -, -, -, c, -⟩ := b.sp hO a
    rcases c with c | c | c
    · exact Or.inl (Or.inl ⟨t, a, a, c, b⟩)
    · exact Or.inl (Or.inr ⟨t, a, a, c, b⟩)
    · exact Or.inr ⟨t, a, a, c, b⟩
theorem X11_means_ok (h : TCm w T nv ql) (h14 : w 65 14 = 0) (hQ : ∀ w' f p, SemA T ql f p → f ≤ 6 → w' 65 14 = (f : Int) → (f ≠ 0 → w' 65 15 = p) → (f = 0 → NoF T ∧ RepM w' 74 (dTx T (xN T))) → offNm w w' → Q w') : X11_means w Q := by
  have hO := h.1
  obtain ⟨n4, p6, l10⟩ := hO.le
  have p6 : nP T ≤ 6 := p6
  have l10 : nL T ≤ 10 := l10
  unfold X11_means
  have clr : ∀ (m i : Nat) (u : Wd), i ≤ 98 → 98 - i < m → (∀ j, j < i → u 74 j = 0) → (∀ c j, c ≠ 74 → u c j = w c j) → X11_means_l2 Q (X11_means_b21 Q) m (i : Int) u := by
    intro m
    induction m with
    | zero => intro i u _ q; omega
    | succ m ih =>
      intro i u hi hm hz ho
      unfold X11_means_l2
      rw [wr_nat (n := i) (by omega), show wr 98 = 98 by decide]
      refine ⟨fun z => ?_, fun z => ⟨ix_of rfl (by omega) (by decide), fun w1 e1 => ?_⟩⟩
      · have i98 : i = 98 := by omega
        subst i98
        unfold X11_means_b21
        intro w2 e2 w3 e3
        have o3 : ∀ c j, ¬ (c = 65 ∧ (j = 20 ∨ j = 21)) → w3 c j = u c j := fun c j hc => by rw [e3, up_ap, if_neg (by omega), e2, up_ap, if_neg (by omega)]
        have n3 : offNm w w3 := fun c j a b d => by rw [o3 c j (by omega), ho c j b]
        have h3 : TCm w3 T nv ql := h.of n3
        refine X11_posts_ok h3 ⟨by rw [e3, up_ap, if_neg (by omega), e2, up_eq]; rfl, by omega, fun i hi => absurd hi (Nat.not_lt_zero i)⟩ (Or.inl ⟨by rw [o3 _ _ (by omega), ho _ _ (by decide)]; exact h14, fun _ _ k => k⟩) (fun w4 N4 S4 o4 => ?_)
        unfold X11_means_b111
        have n4' : offNm w w4 := offNm_trans n3 (fun c j a b d => o4 c j (by omega) d)
        have h4 : TCm w4 T nv ql := h.of n4'
        have z4 : ∀ j, j < 98 → w4 74 j = 0 := fun j hj => by rw [o4 _ _ (by omega) (by decide), o3 _ _ (by omega)]; exact hz j hj
        refine X11_lines_ok h4 N4 ⟨by rw [o4 _ _ (by omega) (by decide), e3, up_eq]; rfl, by omega, fun i hi => absurd hi (Nat.not_lt_zero i), fun i hi => absurd hi (Nat.not_lt_zero i), fun i _ hi => z4 i hi⟩ S4 (fun w5 L5 S5 o5 => ?_)
        have n5 : offNm w w5 := offNm_trans n4' (fun c j a b d => o5 c j (by omega) b)
        have N5 : NmM w5 T nv (nP T) := ⟨by rw [o5 _ _ (by omega) (by decide)]; exact N4.1, N4.2.1, fun i hi => by rw [o5 _ _ (by omega) (by decide)]; exact N4.2.2 i hi⟩
        obtain ⟨l1, l2, l3, l4, l5⟩ := L5
        unfold X11_means_b143
        refine ⟨ix_of (n := 0) rfl (by omega) (by decide), fun w10 e10 => ⟨ix_of (n := 1) rfl (by omega) (by decide), fun w11 e11 => ?_⟩⟩
        rw [wt_of (x := 0) (n := 0) rfl (by omega), N5.1] at e10
        have c21 : w10 65 21 = (nL T : Int) := by rw [e10, up_ap, if_neg (by omega)]; exact l1
        rw [wt_of (x := 1) (n := 1) rfl (by omega), c21] at e11
        have o11 : ∀ c j, ¬ (c = 74 ∧ j ≤ 1) → w11 c j = w5 c j := fun c j hc => by rw [e11, up_ap, if_neg (by omega), e10, up_ap, if_neg (by omega)]
        refine mdeg_ok p6 l10 (by rw [o11 _ _ (by omega)]; exact N5.1) (by rw [o11 _ _ (by omega)]; exact l1) (fun i hi => by rw [o11 _ _ (by omega)]; exact l3 i hi) (fun p hp => by rw [o11 _ _ (by omega)]; exact l5 _ (by omega) (by omega)) (fun w12 D12 R12 o12 => ?_)
        have o12' : ∀ c j, c ≠ 74 → w12 c j = w5 c j := fun c j hc => by rw [o12 c j (by omega), o11 c j (by omega)]
        have n12 : offNm w w12 := offNm_trans n5 (fun c j a b d => o12' c j b)
        have H12 : HdM w12 T := by
          refine ⟨by rw [o12' _ _ (by decide)]; exact l1, ?_, ?_, fun i hi => by rw [o12 _ _ (by omega), o11 _ _ (by omega)]; exact l3 i hi, fun e he => by rw [o12 _ _ (by omega), o11 _ _ (by omega)]; exact l4 e he, D12⟩
          · rw [o12 _ _ (by omega), e11, up_ap, if_neg (by omega), e10, up_eq]
          · rw [o12 _ _ (by omega), e11, up_eq]
        unfold X11_means_b234
        refine X11_rounds_ok (h.of n12) ⟨by rw [o12' _ _ (by decide)]; exact N5.1, N5.2.1, fun i hi => by rw [o12' _ _ (by decide)]; exact N5.2.2 i hi⟩ H12 R12 (S5.of (o12' _ _ (by decide)) (o12' _ _ (by decide))) (fun w13 H13 S13 R13 o13 => ?_)
        unfold X11_means_b266
        have n13 : offNm w w13 := offNm_trans n12 (fun c j a b d => o13 c j (by omega) (by omega))
        have S13 := S13.congr (fun j k => SK_any hO)
        rcases id S13 with ⟨r1, r2⟩ | ⟨j, k, r1, r2, r3, r4, r5, r6, r7⟩
        · exact hQ w13 0 (-1) (Or.inl ⟨rfl, rfl, r2⟩) (by omega) r1 (fun k => absurd rfl k) (fun _ => ⟨r2, rep_74 hO r2 H13 (R13 r1)⟩) n13
        · exact hQ w13 k _ (Or.inr ⟨j, ⟨r1, r2⟩, rfl⟩) r6 r3 (fun _ => r4) (fun q => by omega) n13
      · rw [wt_of rfl (by omega)] at e1
        rw [show (i : Int) + 1 = ((i + 1 : Nat) : Int) by omega]
        refine ih (i + 1) w1 (by omega) (by omega) (fun j hj => ?_) (fun c j hc => by rw [e1, up_ap, if_neg (by omega)]; exact ho c j hc)
        rw [e1, up_ap]
        by_cases y : j = i
        · rw [if_pos ⟨rfl, y⟩]
        · rw [if_neg (by omega)]; exact hz j (by omega)
  exact ⟨99, clr 99 0 w (by omega) (by omega) (fun j hj => absurd hj (Nat.not_lt_zero j)) (fun _ _ _ => rfl)⟩
end MEANS
