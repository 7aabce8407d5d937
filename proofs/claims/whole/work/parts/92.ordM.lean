/-! ORDERS at the model -/
theorem X11_orders_ok {Q : Int → Wd → Prop} {w : Wd} {x : Int} (d : Nat) (hx : x = (d : Int)) (hd : d ≤ 10) (hQ : Q (fac (d - 1) : Int) w) : X11_orders x w Q := by
  subst hx
  have hfb := fac_le9 d hd
  have loop : ∀ (m k : Nat), 2 ≤ k → (k ≤ d ∨ k = 2) → 12 - k < m → X11_orders_l4 Q (X11_orders_b20 Q) m (d : Int) (fac (k - 1) : Int) (k : Int) w := by
    intro m
    induction m with
    | zero => intro k a0 a1 a2; omega
    | succ m ih =>
      intro k a0 a1 a2
      unfold X11_orders_l4
      rw [wr_nat (n := d) (by omega), wr_nat (n := k) (by omega)]
      refine ⟨fun z => ?_, fun z => ?_⟩
      · have e : fac (k - 1) = fac (d - 1) := by
          by_cases y : d = k
          · rw [y]
          · have hk : k = 2 := by omega
            have : d = 0 ∨ d = 1 := by omega
            rw [hk]
            rcases this with q | q <;> rw [q] <;> rfl
        unfold X11_orders_b20
        rw [e, wl_nat (by omega)]
        exact hQ
      · intro y1 e1
        have e2 : y1 = (fac (k + 1 - 1) : Int) := by
          obtain ⟨j, rfl⟩ : ∃ j, k = j + 1 := ⟨k - 1, by omega⟩
          rw [e1]
          show (fac j : Int) * ((j + 1 : Nat) : Int) = (((j + 1) * fac j : Nat) : Int)
          push_cast
          rw [Int.mul_comm]
        rw [e2, show (k : Int) + 1 = ((k + 1 : Nat) : Int) by omega]
        exact ih (k + 1) (by omega) (by omega) (by omega)
  exact ⟨11, loop 11 2 (by omega) (Or.inr rfl) (by omega)⟩
theorem RepM.dg {w : Wd} {D : Dw} {r : Nat} (hW : WF D) (h : RepM w r D) {p : Nat} (hp : p < dN D) : w r (32 + p) = (dgc D p : Int) := by rw [h.2.2.2.2.1 p hp, deg_dgc hW hp]
theorem X11_allRounds_ok {Q : Int → Wd → Prop} {w : Wd} {D : Dw} (hW : WF D) (hR : RepM w 73 D) (hQ : Q (totO D : Int) w) : X11_allRounds w Q := by
  have n6 := hW.1
  have hb := totO_bd D
  have loop : ∀ (m p : Nat), p ≤ dN D → dN D - p < m → X11_allRounds_l4 Q (X11_allRounds_b35 Q) m (prd (ordP D) 0 p : Int) (p : Int) w := by
    intro m
    induction m with
    | zero => intro p a1 a2; omega
    | succ m ih =>
      intro p a1 a2
      unfold X11_allRounds_l4
      rw [rd0, hR.1, wr_nat (n := dN D) (by omega), wr_nat (n := p) (by omega)]
      refine ⟨ix_of (n := 0) rfl (by decide) (by decide), fun z => ?_, fun z => ⟨ix_of (n := 32 + p) (by omega) (by omega) (by decide), ?_⟩⟩
      · have : p = dN D := by omega
        subst this
        unfold X11_allRounds_b35
        have hb : prd (ordP D) 0 (dN D) ≤ 1099511627776 := hb
        rw [wl_nat (by omega)]
        exact hQ
      · rw [rd_of (n := 32 + p) (by omega) (by omega), hR.dg hW (by omega)]
        refine X11_orders_ok (dgc D p) rfl (dgc_le D p) ?_
        intro y3 e3
        have e4 : y3 = ((prd (ordP D) 0 (p + 1) : Nat) : Int) := by
          rw [e3]
          show _ = ((prd (ordP D) 0 p * ordP D (0 + p) : Nat) : Int)
          rw [Nat.zero_add]
          push_cast
          rfl
        rw [e4, show (p : Int) + 1 = ((p + 1 : Nat) : Int) by omega]
        exact ih (p + 1) (by omega) (by omega)
  exact ⟨dN D + 1, loop (dN D + 1) 0 (by omega) (by omega)⟩
theorem X11_ordersPost_ok {Q : Wd → Prop} {w : Wd} {D : Dw} {x1 x2 : Int} (p K0 : Nat) (h1 : x1 = (p : Int)) (h2 : x2 = (K0 : Int)) (hW : WF D) (hR : RepM w 73 D) (hp : p < dN D) (hK0 : K0 < ordP D p) (hQ : ∀ w', w' 83 (32 + p) = (dgc D p : Int) → (∀ i, i < dgc D p → w' 83 (38 + 10 * p + i) = (decF (dgc D p) (srt D p) K0 i : Int)) → (∀ c j, ¬ (c = 83 ∧ (j = 32 + p ∨ (38 + 10 * p ≤ j ∧ j < 48 + 10 * p))) → w' c j = w c j) → Q w') : X11_ordersPost x1 x2 w Q := by
  subst h1 h2
  have n6 := hW.1
  have m10 := hW.2.1
  have hd10 := dgc_le D p
  have hob := ordP_bd D p
  have edg : ∀ v : Wd, (∀ c j, c ≠ 83 → v c j = w c j) → v 73 (32 + p) = (dgc D p : Int) := fun v o => by rw [o _ _ (by decide)]; exact hR.dg hW hp
  -- one by one
  have rows : ∀ (m i M K : Nat) (f : Nat → Bool) (v : Wd), i ≤ dgc D p → dgc D p - i < m → Msk M f → cnt f 10 = dgc D p - i → K < fac (dgc D p - i) → (i = 0 → K < fac (dgc D p - 1)) → (∀ s, s < dgc D p - i → decF (dgc D p) (srt D p) K0 (i + s) = decF (dgc D p - i) (nth f 10) K s) → v 83 (32 + p) = (i : Int) → (∀ j, j < i → v 83 (38 + 10 * p + j) = (decF (dgc D p) (srt D p) K0 j : Int)) → (∀ c j, ¬ (c = 83 ∧ (j = 32 + p ∨ (38 + 10 * p ≤ j ∧ j < 48 + 10 * p))) → v c j = w c j) → X11_ordersPost_l64 Q (X11_ordersPost_b188 Q) m (p : Int) (M : Int) (K : Int) (i : Int) v := by
    intro m
    induction m with
    | zero => intro i M K f v a1 a2; omega
    | succ m ih =>
      intro i M K f v a1 a2 hM hc hK hK1 hdec v83 vrow vo
      have vdg := edg v (fun c j hc => vo c j (by omega))
      unfold X11_ordersPost_l64
      rw [rd_of (n := 32 + p) (by omega) (by omega), vdg, wr_nat (n := dgc D p) (by omega), wr_nat (n := i) (by omega)]
      refine ⟨ix_of (n := 32 + p) (by omega) (by omega) (by decide), fun z => ?_, fun z => ⟨ix_of (n := 32 + p) (by omega) (by omega) (by decide), ?_⟩⟩
      · have : i = dgc D p := by omega
        subst this
        exact hQ v v83 vrow vo
      · obtain ⟨c, hce⟩ : ∃ c, dgc D p - i = c + 1 := ⟨dgc D p - i - 1, by omega⟩
        have hfb := fac_bd ⟨c, by omega⟩
        have hfb : fac c ≤ 362880 := hfb
        have hfp := fac_pos c
        have hfb2 : fac (c + 1) ≤ 10 * 362880 := by
          show (c + 1) * fac c ≤ _
          exact Nat.mul_le_mul (by omega) hfb
        rw [hce] at hK hdec hc
        have hj := fac_split hK
        have hM1 := hM.1
        refine X11_orders_ok (dgc D p - i) (by omega) (by omega) ?_
        rw [hce, show c + 1 - 1 = c by omega]
        -- with the place and what is left
        have pick : X11_ordersPost_b124 Q (X11_ordersPost_l64 Q (X11_ordersPost_b188 Q) m) (X11_ordersPost_b188 Q) (p : Int) (M : Int) ((K % fac c : Nat) : Int) (i : Int) ((K / fac c : Nat) : Int) v := by
          have hjc : K / fac c < cnt f 10 := by rw [hc]; exact hj
          obtain ⟨q1, q2, q3⟩ := nth_ok (f := f) 10 (K / fac c) hjc
          have fin : X11_ordersPost_b161 Q (X11_ordersPost_l64 Q (X11_ordersPost_b188 Q) m) (X11_ordersPost_b188 Q) (p : Int) (M : Int) ((K % fac c : Nat) : Int) (i : Int) (nth f 10 (K / fac c) : Int) v := by
            have hpw : 2 ^ nth f 10 (K / fac c) < 2 ^ 10 := Nat.pow_lt_pow_right (by decide) q1
            unfold X11_ordersPost_b161
            intro y9 e9
            rw [isl1 (by omega), ian_not (by omega) (by omega)] at e9
            subst e9
            have hM' := hM.clr q1
            obtain ⟨nd1, nd2⟩ := nth_del (f := f) (g := fun e => f e && decide (e ≠ nth f 10 (K / fac c))) (m := 10) hjc (fun e _ => rfl)
            have h0 := hdec 0 (by omega)
            have h0 : decF (dgc D p) (srt D p) K0 i = nth f 10 (K / fac c) := h0
            refine X11_adds_ok p i _ rfl rfl (by omega) (by omega) v83 (fun w10 hw10 => ?_)
            rw [show (i : Int) + 1 = ((i + 1 : Nat) : Int) by omega]
            refine ih (i + 1) _ (K % fac c) _ w10 (by omega) (by omega) hM' (by omega) (by rw [show dgc D p - (i + 1) = c by omega]; exact Nat.mod_lt _ hfp) (fun k => by omega) (fun s hs => ?_) ?_ (fun j hj' => ?_) (fun cc j hcc => ?_)
            · have h4 := hdec (s + 1) (by omega)
              rw [decF_s] at h4
              rw [show i + 1 + s = i + (s + 1) by omega, h4, show dgc D p - (i + 1) = c by omega]
              exact decF_congr c (Nat.mod_lt _ hfp) (by omega) (fun u hu => (nd2 u (by omega)).symm)
            · rw [hw10, if_pos ⟨rfl, rfl⟩]
            · rw [hw10, if_neg (by omega)]
              by_cases y : j = i
              · rw [if_pos ⟨rfl, by omega⟩, y, h0]
              · rw [if_neg (by omega)]; exact vrow j (by omega)
            · rw [hw10, if_neg (by omega), if_neg (by omega)]
              exact vo cc j hcc
          have scan : ∀ (m' e r : Nat), e ≤ nth f 10 (K / fac c) → nth f 10 (K / fac c) - e < m' → cnt f e + r = K / fac c → X11_ordersPost_l127 Q (X11_ordersPost_b161 Q (X11_ordersPost_l64 Q (X11_ordersPost_b188 Q) m) (X11_ordersPost_b188 Q)) m' (p : Int) (M : Int) ((K % fac c : Nat) : Int) (i : Int) (r : Int) (e : Int) v := by
            intro m'
            induction m' with
            | zero => intro e r b1 b2; omega
            | succ m' ihs =>
              intro e r b1 b2 hr
              have hne : ∀ y : ¬ (f e = true ∧ r = 0), e ≠ nth f 10 (K / fac c) := fun y k => y (by rw [k] at hr ⊢; exact ⟨q2, by omega⟩)
              have mb : M.testBit e = f e := hM.2 e (by omega)
              have hr10 : r ≤ 10 := by omega
              unfold X11_ordersPost_l127
              refine X11_has_ok M e rfl rfl (by omega) (by omega) (fun k1 => ⟨fun y => absurd y (by decide), fun _ => ?_⟩) (fun k1 => ⟨fun _ => ?_, fun y => absurd (by decide) y⟩)
              · rw [mb] at k1
                rw [wr_nat (n := r) (by omega)]
                refine ⟨fun y => ?_, fun y => ?_⟩
                · have : e = nth f 10 (K / fac c) := (nth_uq (f := f) (m := 10) (e := e) (i := K / fac c) (by omega) k1 (by omega)).symm
                  rw [this]; exact fin
                · have hlt := hne (fun k => by omega)
                  unfold X11_ordersPost_b142
                  refine X11_has_ok M e rfl rfl (by omega) (by omega) (fun _ => ⟨fun y => absurd y (by decide), fun _ => ?_⟩) (fun k2 => by rw [mb, k1] at k2; exact absurd k2 (by decide))
                  rw [show (r : Int) + (-1) = ((r - 1 : Nat) : Int) by omega, show (e : Int) + 1 = ((e + 1 : Nat) : Int) by omega]
                  exact ihs (e + 1) (r - 1) (by omega) (by omega) (by rw [cnt_y k1]; omega)
              · rw [mb] at k1
                have hlt := hne (fun k => by rw [k1] at k; exact absurd k.1 (by decide))
                unfold X11_ordersPost_b142
                refine X11_has_ok M e rfl rfl (by omega) (by omega) (fun k2 => by rw [mb, k1] at k2; exact absurd k2 (by decide)) (fun _ => ⟨fun _ => ?_, fun y => absurd (by decide) y⟩)
                rw [show (e : Int) + 1 = ((e + 1 : Nat) : Int) by omega]
                exact ihs (e + 1) r (by omega) (by omega) (by rw [cnt_n k1]; exact hr)
          exact ⟨nth f 10 (K / fac c) + 1, scan _ 0 (K / fac c) (by omega) (by omega) (by show 0 + _ = _; omega)⟩
        refine ⟨fun y => ?_, fun y => ⟨by rw [wl_nat (by omega)]; omega, ?_⟩⟩
        · have hi0 : i = 0 := by omega
          have hk := hK1 hi0
          rw [show dgc D p - 1 = c by omega] at hk
          rw [Nat.div_eq_of_lt hk, Nat.mod_eq_of_lt hk] at pick
          unfold X11_ordersPost_b110
          rw [wr_nat (n := i) (by omega)]
          exact ⟨fun _ => pick, fun k => absurd (by omega) k⟩
        · unfold X11_ordersPost_b110
          rw [wr_nat (n := i) (by omega), ldv_nat (by omega) hfp (by omega), lrm_nat (by omega) hfp (by omega), wl_nat (n := fac c) (by omega)]
          refine ⟨fun k => absurd k (by omega), fun _ => ⟨by omega, fun y11 e11 => ?_⟩⟩
          rw [e11]
          exact pick
  have lines : ∀ (m k M : Nat) (f : Nat → Bool), k ≤ dG D p → dG D p - k < m → Msk M f → (∀ e, f e = true ↔ ∃ j, j < k ∧ dR D p j = e) → X11_ordersPost_l6 Q (X11_ordersPost_b48 Q) m (p : Int) (K0 : Int) (M : Int) (k : Int) w := by
    have hdp := hW.deg hp
    intro m
    induction m with
    | zero => intro k M f a1 a2; omega
    | succ m ih =>
      intro k M f a1 a2 hM hf
      unfold X11_ordersPost_l6
      rw [rd_of (n := 32 + p) (by omega) (by omega), hR.2.2.2.2.1 p hp, wr_nat (n := dG D p) (by omega), wr_nat (n := k) (by omega)]
      refine ⟨ix_of (n := 32 + p) (by omega) (by omega) (by decide), fun z => ?_, fun z => ⟨ix_of (n := 38 + 10 * p + k) (by omega) (by omega) (by decide), fun y10 e10 => ?_⟩⟩
      · have hk : k = dG D p := by omega
        subst hk
        have hM' : Msk M (pl D p) := hM.ext (fun e _ => by
          rw [Bool.eq_iff_iff, hf e, pl_iff]
          exact ⟨fun ⟨j, j1, j2⟩ => by rw [← j2]; exact hW.2.2.2.2.1 p j hp j1, fun k => hW.2.2.2.2.2.2 p e hp k.1 k.2⟩)
        unfold X11_ordersPost_b48
        refine ⟨ix_of (n := 32 + p) (by omega) (by omega) (by decide), fun w2 e2 => ⟨dgc D p + 1, ?_⟩⟩
        rw [wt_of (n := 32 + p) (by omega) (by omega)] at e2
        refine rows (dgc D p + 1) 0 M K0 (pl D p) w2 (by omega) (by omega) hM' rfl (Nat.lt_of_lt_of_le hK0 (by unfold ordP; exact fac_pred _)) (fun _ => hK0) (fun s hs => by rw [Nat.zero_add]; rfl) (by rw [e2, up_eq]; rfl) (fun j hj => by omega) (fun c j hc => by rw [e2, up_ap, if_neg (by omega)])
      · have hrow := (hW.2.2.2.2.1 p k hp (by omega)).1
        have hpw : 2 ^ dR D p k < 2 ^ 10 := Nat.pow_lt_pow_right (by decide) (by omega)
        have hM1 := hM.1
        rw [rd_of (n := 38 + 10 * p + k) (by omega) (by omega), hR.2.2.2.2.2 p k hp (by omega), isl1 (by omega), ior_nat (by omega) (by omega)] at e10
        subst e10
        rw [show (k : Int) + 1 = ((k + 1 : Nat) : Int) by omega]
        refine ih (k + 1) _ _ (by omega) (by omega) (hM.set (by omega)) (fun e => ?_)
        rw [Bool.or_eq_true, hf e, decide_eq_true_eq]
        constructor
        · rintro (⟨j, j1, j2⟩ | y)
          · exact ⟨j, by omega, j2⟩
          · exact ⟨k, by omega, y.symm⟩
        · rintro ⟨j, j1, j2⟩
          by_cases y : j = k
          · right; rw [← j2, y]
          · left; exact ⟨j, by omega, j2⟩
  exact ⟨dG D p + 1, lines (dG D p + 1) 0 0 (fun _ => false) (by omega) (by omega) ⟨by omega, fun e _ => by simp⟩ (fun e => ⟨fun k => absurd k (by decide), fun ⟨j, j1, _⟩ => by omega⟩)⟩
theorem X11_triesOrder_ok {Q : Wd → Prop} {w : Wd} {D : Dw} {x : Int} (n : Nat) (hx : x = (n : Int)) (hn : n < 2147483648) (hW : WF D) (hR : RepM w 73 D) (hQ : ∀ w', RepM w' 83 (dOrd D n) → (∀ c j, c ≠ 83 → w' c j = w c j) → Q w') : X11_triesOrder x w Q := by
  subst hx
  have n6 := hW.1
  have m10 := hW.2.1
  -- posts, from the last on
  have posts : ∀ (m k : Nat) (v : Wd), k ≤ dN D → k < m → v 83 0 = (dN D : Int) → v 83 1 = (dM D : Int) → (∀ i, i < 2 * dM D → v 83 (2 + i) = (dE D i : Int)) → (∀ e, e < dM D → v 83 (22 + e) = 0) → (∀ q, k ≤ q → q < dN D → v 83 (32 + q) = (dgc D q : Int) ∧ ∀ i, i < dgc D q → v 83 (38 + 10 * q + i) = (decF (dgc D q) (srt D q) (numP D n q) i : Int)) → (∀ c j, c ≠ 83 → v c j = w c j) → X11_triesOrder_l66 Q (X11_triesOrder_b107 Q) m ((n / ltt D k : Nat) : Int) ((k : Int) - 1) v := by
    intro m
    induction m with
    | zero => intro k v a1 a2; omega
    | succ m ih =>
      intro k v a1 a2 v0 v1 v2 v3 v4 vo
      unfold X11_triesOrder_l66
      rw [wr_id (x := (k : Int) - 1) (by omega) (by omega)]
      refine ⟨fun z => ?_, fun z => ?_⟩
      · have hk : k = 0 := by omega
        subst hk
        refine hQ v ⟨v0, v1, fun i hi => ?_, fun e he => ?_, fun q hq => (v4 q (by omega) hq).1, fun q i hq hi => (v4 q (by omega) hq).2 i hi⟩ vo
        · have hi : i < 2 * dM D := hi
          have e : dE (dOrd D n) i = dE D i := dMx_E hi
          rw [e]; exact v2 i hi
        · exact v3 e he
      · obtain ⟨p, rfl⟩ : ∃ p, k = p + 1 := ⟨k - 1, by omega⟩
        have hp : p < dN D := by omega
        have hop := ordP_pos D p
        have hob := ordP_bd D p
        have Rv : RepM v 73 D := RepM.of hR (fun j => vo 73 j (by decide))
        have hle := Nat.div_le_self n (ltt D (p + 1))
        rw [show ((p + 1 : Nat) : Int) - 1 = (p : Int) by omega, rd_of (n := 32 + p) (by omega) (by omega), Rv.dg hW hp]
        refine ⟨ix_of (n := 32 + p) (by omega) (by omega) (by decide), X11_orders_ok (dgc D p) rfl (dgc_le D p) ?_⟩
        have eo : fac (dgc D p - 1) = ordP D p := rfl
        rw [eo, wl_nat (by omega), lrm_nat (by omega) hop (by omega), ldv_nat (by omega) hop (by omega), ← num_ltt hp n]
        refine ⟨by omega, X11_ordersPost_ok p (numP D n p) rfl rfl hW Rv hp (numP_lt D n p) (fun w6 g1 g2 g3 => ⟨by omega, fun y7 e7 => ?_⟩)⟩
        rw [e7, show (p : Int) + (-1) = (p : Int) - 1 by omega, Nat.div_div_eq_div_mul, Nat.mul_comm, ← (ltt_s hp).1]
        refine ih p w6 (by omega) (by omega) (by rw [g3 _ _ (by omega)]; exact v0) (by rw [g3 _ _ (by omega)]; exact v1) (fun i hi => by rw [g3 _ _ (by omega)]; exact v2 i hi) (fun e he => by rw [g3 _ _ (by omega)]; exact v3 e he) (fun q hq hqn => ?_) (fun c j hc => by rw [g3 _ _ (by omega)]; exact vo c j hc)
        by_cases y : q = p
        · rw [y]; exact ⟨g1, g2⟩
        · have hq10 := dgc_le D q
          have := v4 q (by omega) hqn
          exact ⟨by rw [g3 _ _ (by omega)]; exact this.1, fun i hi => by rw [g3 _ _ (by omega)]; exact this.2 i hi⟩
  have twists : ∀ (m e : Nat) (v : Wd), e ≤ dM D → dM D - e < m → v 83 0 = (dN D : Int) → v 83 1 = (dM D : Int) → (∀ i, i < 2 * dM D → v 83 (2 + i) = (dE D i : Int)) → (∀ d, d < e → v 83 (22 + d) = 0) → (∀ c j, c ≠ 83 → v c j = w c j) → X11_triesOrder_l28 Q (X11_triesOrder_b54 Q) m (n : Int) (e : Int) v := by
    intro m
    induction m with
    | zero => intro e v a1 a2; omega
    | succ m ih =>
      intro e v a1 a2 v0 v1 v2 v3 vo
      have Rv : RepM v 73 D := RepM.of hR (fun j => vo 73 j (by decide))
      unfold X11_triesOrder_l28
      rw [rd1, Rv.2.1, wr_nat (n := dM D) (by omega), wr_nat (n := e) (by omega)]
      refine ⟨ix_of (n := 1) rfl (by decide) (by decide), fun z => ?_, fun z => ⟨ix_of (n := 22 + e) (by omega) (by omega) (by decide), fun w2 e2 => ?_⟩⟩
      · have : e = dM D := by omega
        subst this
        unfold X11_triesOrder_b54
        refine ⟨ix_of (n := 0) rfl (by decide) (by decide), fun y3 e3 => ⟨dN D + 1, ?_⟩⟩
        rw [rd0, Rv.1] at e3
        subst e3
        have hl : ltt D (dN D) = 1 := by unfold ltt; rw [Nat.sub_self]; rfl
        have := posts (dN D + 1) (dN D) v (by omega) (by omega) v0 v1 v2 v3 (fun q h1 h2 => by omega) vo
        rw [hl, Nat.div_one] at this
        exact this
      · rw [wt_of (n := 22 + e) (by omega) (by omega)] at e2
        rw [show (e : Int) + 1 = ((e + 1 : Nat) : Int) by omega]
        have w2v : ∀ c j, ¬ (c = 83 ∧ j = 22 + e) → w2 c j = v c j := fun c j hc => by rw [e2, up_ap, if_neg hc]
        refine ih (e + 1) w2 (by omega) (by omega) (by rw [w2v _ _ (by omega)]; exact v0) (by rw [w2v _ _ (by omega)]; exact v1) (fun i hi => by rw [w2v _ _ (by omega)]; exact v2 i hi) (fun d hd => ?_) (fun c j hc => by rw [w2v _ _ (by omega)]; exact vo c j hc)
        by_cases y : d = e
        · rw [y, e2, up_eq]
        · rw [w2v _ _ (by omega)]; exact v3 d (by omega)
  have copy : ∀ (m j : Nat) (v : Wd), j ≤ 98 → 98 - j < m → (∀ c i, v c i = if c = 83 ∧ i < j then w 73 i else w c i) → X11_triesOrder_l2 Q (X11_triesOrder_b26 Q) m (n : Int) (j : Int) v := by
    intro m
    induction m with
    | zero => intro j v a1 a2; omega
    | succ m ih =>
      intro j v a1 a2 hv
      unfold X11_triesOrder_l2
      rw [wr_nat (n := j) (by omega), show wr 98 = 98 by decide]
      refine ⟨fun z => ?_, fun z => ⟨ix_of rfl (by omega) (by decide), ix_of rfl (by omega) (by decide), fun w1 e1 => ?_⟩⟩
      · have hj : j = 98 := by omega
        subst hj
        have vv : ∀ i, i < 98 → v 83 i = w 73 i := fun i hi => by rw [hv, if_pos ⟨rfl, hi⟩]
        unfold X11_triesOrder_b26
        exact ⟨dM D + 1, twists (dM D + 1) 0 v (by omega) (by omega) (by rw [vv _ (by omega)]; exact hR.1) (by rw [vv _ (by omega)]; exact hR.2.1) (fun i hi => by rw [vv _ (by omega)]; exact hR.2.2.1 i hi) (fun d hd => by omega) (fun c i hc => by rw [hv, if_neg (by omega)])⟩
      · rw [wt_of rfl (by omega), rd_of rfl (by omega), hv, if_neg (by omega)] at e1
        rw [show (j : Int) + 1 = ((j + 1 : Nat) : Int) by omega]
        refine ih (j + 1) w1 (by omega) (by omega) (fun c i => ?_)
        rw [e1, up_ap, hv]
        grind
  exact ⟨99, copy 99 0 w (by omega) (by omega) (fun c i => by rw [if_neg (by omega)])⟩
