/-! ORDERS at the class: rows by number; all becomes an order -/
theorem cnt_ext {f : Nat → Bool} {m : Nat} : ∀ k, m ≤ k → (∀ i, m ≤ i → i < k → f i = false) → cnt f k = cnt f m
  | 0, h, _ => by rw [show m = 0 by omega]
  | k + 1, h, hf => by
    by_cases z : m = k + 1
    · rw [z]
    · rw [cnt_n (hf k (by omega) (by omega)), cnt_ext k (by omega) (fun i h1 h2 => hf i h1 (by omega))]
theorem arm_cnt {D : Dw} (hne : ∀ e, e < dM D → dE D (2 * e) ≠ dE D (2 * e + 1)) (p : Nat) : ∀ e, e ≤ dM D → cnt (fun a => decide (dE D a = p)) (2 * e) = cnt (pl D p) e
  | 0, _ => rfl
  | e + 1, h => by
    have ih := arm_cnt hne p e (by omega)
    have hn := hne e (by omega)
    rw [show 2 * (e + 1) = (2 * e + 1) + 1 by omega]
    have hpl : pl D p e = (decide (dE D (2 * e) = p) || decide (dE D (2 * e + 1) = p)) := by
      unfold pl
      rw [decide_eq_true (show e < dM D by omega)]; rfl
    by_cases z1 : dE D (2 * e) = p
    · have z2 : dE D (2 * e + 1) ≠ p := fun y => hn (by rw [z1, y])
      rw [cnt_n (f := fun a => decide (dE D a = p)) (decide_eq_false z2), cnt_y (f := fun a => decide (dE D a = p)) (decide_eq_true z1), cnt_y (by rw [hpl, decide_eq_true z1]; rfl), ih]
    · by_cases z2 : dE D (2 * e + 1) = p
      · rw [cnt_y (f := fun a => decide (dE D a = p)) (decide_eq_true z2), cnt_n (f := fun a => decide (dE D a = p)) (decide_eq_false z1), cnt_y (by rw [hpl, decide_eq_true z2]; simp), ih]
      · rw [cnt_n (f := fun a => decide (dE D a = p)) (decide_eq_false z2), cnt_n (f := fun a => decide (dE D a = p)) (decide_eq_false z1), cnt_n (by rw [hpl, decide_eq_false z1, decide_eq_false z2]; rfl), ih]
theorem dgc_m {D : Dw} (hm : dM D ≤ 10) (p : Nat) : dgc D p = cnt (pl D p) (dM D) := cnt_ext 10 hm (fun i h1 _ => by
  unfold pl
  rw [decide_eq_false (by omega)]; rfl)
theorem arm_dgc {D : Dw} (hm : dM D ≤ 10) (hne : ∀ e, e < dM D → dE D (2 * e) ≠ dE D (2 * e + 1)) (p : Nat) : cnt (fun a => decide (dE D a = p)) (2 * dM D) = dgc D p := by rw [arm_cnt hne p _ (Nat.le_refl _), dgc_m hm]
theorem arm_srt {D : Dw} (hm : dM D ≤ 10) (hne : ∀ e, e < dM D → dE D (2 * e) ≠ dE D (2 * e + 1)) {p i : Nat} (hi : i < dgc D p) : nth (fun a => decide (dE D a = p)) (2 * dM D) i / 2 = srt D p i := by
  obtain ⟨h1, h2, h3⟩ := nth_ok (f := fun a => decide (dE D a = p)) (2 * dM D) i (by rw [arm_dgc hm hne]; exact hi)
  obtain ⟨b, hb⟩ : ∃ b, b = nth (fun a => decide (dE D a = p)) (2 * dM D) i := ⟨_, rfl⟩
  rw [← hb] at h1 h2 h3 ⊢
  have h2 : dE D b = p := of_decide_eq_true h2
  have hbb : b = 2 * (b / 2) ∨ b = 2 * (b / 2) + 1 := by omega
  have hc := arm_cnt hne p (b / 2) (by omega)
  have hn := hne (b / 2) (by omega)
  symm
  refine nth_uq (f := pl D p) (m := 10) (by omega) (pl_iff.mpr ⟨by omega, ?_⟩) ?_
  · rcases hbb with y | y
    · left; rw [← y]; exact h2
    · right; rw [← y]; exact h2
  · rw [← hc, ← h3]
    rcases hbb with y | y
    · rw [← y]
    · rw [← y, h2] at hn
      have hx : cnt (fun a => decide (dE D a = p)) (2 * (b / 2) + 1) = cnt (fun a => decide (dE D a = p)) (2 * (b / 2)) := cnt_n (f := fun a => decide (dE D a = p)) (decide_eq_false hn)
      rw [← y] at hx
      exact hx.symm
theorem X1_orderByNumber_ok {K : Nat} {Q : Wd → Prop} {w : Wd} {D : Dw} (hm : dM D ≤ 10) (hE6 : ∀ i, i < 2 * dM D → dE D i < 6) (hne : ∀ e, e < dM D → dE D (2 * e) ≠ dE D (2 * e + 1)) (ha : aln (K + 2) = 6) (h1 : w K 1 = (dM D : Int)) (hE : ∀ i, i < 2 * dM D → w (K + 1) i = (dE D i : Int)) (hQ : ∀ w', (∀ p, p < 6 → w' (K + 2) p = (dgc D p : Int)) → (∀ p i, p < 6 → i < dgc D p → w' (K + 3) (10 * p + i) = (srt D p i : Int)) → (∀ c j, c ≠ K + 2 → c ≠ K + 3 → w' c j = w c j) → Q w') : X1_orderByNumber K w Q := by
  unfold X1_orderByNumber
  refine fill_ok (by rw [ha]; decide) (fun w1 hw1 => ?_)
  rw [ha] at hw1
  have cle : ∀ p a, a ≤ 2 * dM D → cnt (fun a => decide (dE D a = p)) a ≤ 10 := fun p a h => by
    have h1 := cnt_step (f := fun a => decide (dE D a = p)) h
    rw [arm_dgc hm hne] at h1
    have := dgc_le D p
    omega
  have loop : ∀ (m a : Nat) (v : Wd), a ≤ 2 * dM D → 2 * dM D - a < m → (∀ p, p < 6 → v (K + 2) p = (cnt (fun a => decide (dE D a = p)) a : Int)) → (∀ p i, p < 6 → i < cnt (fun a => decide (dE D a = p)) a → v (K + 3) (10 * p + i) = ((nth (fun a => decide (dE D a = p)) (2 * dM D) i / 2 : Nat) : Int)) → (∀ c j, c ≠ K + 2 → c ≠ K + 3 → v c j = w c j) → X1_orderByNumber_l10 K Q (X1_orderByNumber_b50 K Q) m (a : Int) v := by
    intro m
    induction m with
    | zero => intro a v a1 a2; omega
    | succ m ih =>
      intro a v a1 a2 hg hr ho
      unfold X1_orderByNumber_l10
      rw [ho K 1 (by omega) (by omega), h1, show 2 * ((dM D : Nat) : Int) = ((2 * dM D : Nat) : Int) by omega, wr_nat (n := 2 * dM D) (by omega), wr_nat (n := a) (by omega)]
      refine ⟨fun z => ?_, fun z => ?_⟩
      · have : a = 2 * dM D := by omega
        subst this
        refine hQ v (fun p hp => by rw [hg p hp, arm_dgc hm hne]) (fun p i hp hi => ?_) ho
        rw [hr p i hp (by rw [arm_dgc hm hne]; exact hi), arm_srt hm hne hi]
      · have ha2 : a < 2 * dM D := by omega
        have hEa := hE6 a ha2
        obtain ⟨p, hp⟩ : ∃ p, p = dE D a := ⟨_, rfl⟩
        have ea : rd v (K + 1) (a : Int) = (p : Int) := by rw [rd_of rfl (by omega), ho (K + 1) a (by omega) (by omega), hE a ha2, hp]
        rw [ea, rd_of rfl (by omega), hg p (by omega), show (1 : Int) = ((1 : Nat) : Int) from rfl, isr_nat (by omega) (by omega)]
        have fa : decide (dE D a = p) = true := decide_eq_true hp.symm
        have c10 := cle p (a + 1) (by omega)
        rw [cnt_y (f := fun a => decide (dE D a = p)) fa] at c10
        refine ⟨ix_of rfl (by omega) (by decide), ix_of rfl (by omega) (by decide), ix_of rfl (by omega) (by decide), ?_⟩
        refine X1_insertAt_ok p (cnt (fun a => decide (dE D a = p)) a) (cnt (fun a => decide (dE D a = p)) a) _ rfl rfl (by omega) (by omega) (Nat.le_refl _) (hg p (by omega)) ?_
        rw [show (a : Int) + ((1 : Nat) : Int) = ((a + 1 : Nat) : Int) by omega]
        refine ih (a + 1) _ (by omega) (by omega) (fun q hq => ?_) (fun q i hq hi => ?_) (fun c j c1 c2 => ?_)
        · unfold insW
          rw [if_neg (by omega), if_neg (by omega)]
          by_cases y : q = p
          · rw [if_pos ⟨rfl, y⟩, y, cnt_y (f := fun a => decide (dE D a = p)) fa]; omega
          · rw [if_neg (by omega), hg q hq, cnt_n (f := fun a => decide (dE D a = q)) (decide_eq_false (by omega))]
        · have c10q := cle q (a + 1) (by omega)
          have c10r := cle q a (by omega)
          unfold insW
          rw [if_neg (by omega)]
          by_cases y : q = p
          · subst y
            rw [cnt_y (f := fun a => decide (dE D a = q)) fa] at hi
            by_cases y2 : i = cnt (fun a => decide (dE D a = q)) a
            · rw [if_pos ⟨rfl, by omega⟩, y2, nth_uq (f := fun a => decide (dE D a = q)) (m := 2 * dM D) ha2 fa rfl]
            · rw [if_neg (by omega), if_neg (by omega)]
              exact hr q i hq (by omega)
          · rw [cnt_n (f := fun a => decide (dE D a = q)) (decide_eq_false (by omega))] at hi
            rw [if_neg (by omega), if_neg (by omega)]
            exact hr q i hq hi
        · rw [insW_off (Nat.le_refl _) (by omega) (by omega)]
          exact ho c j c1 c2
  refine ⟨2 * dM D + 1, loop (2 * dM D + 1) 0 w1 (by omega) (by omega) (fun p hp => by rw [hw1, if_pos ⟨rfl, hp⟩]; rfl) (fun p i _ hi => absurd hi (Nat.not_lt_zero i)) (fun c j c1 c2 => by rw [hw1, if_neg (by omega)])⟩
theorem num_zero (D : Dw) (p : Nat) : numP D 0 p = 0 := by
  unfold numP
  rw [Nat.zero_div, Nat.zero_mod]
theorem X3_beginOrders_ok {Q : Wd → Prop} {w : Wd} {D : Dw} (hW : WF D) (hR : RepX w 1 D) (hQ : ∀ w', RepX w' 42 (dOrd D 0) → RepW w' 46 (dOrd D 0) → (∀ c j, c < 42 ∨ 49 ≤ c → w' c j = w c j) → Q w') : X3_beginOrders 1 w Q := by
  obtain ⟨n6, m10, hen, hne, -, -, -⟩ := id hW
  unfold X3_beginOrders
  refine X1_become_ok (by omega) hW hR (fun w1 R1 o1 => ?_)
  intro w2 e2
  have v2 : ∀ c j, ¬ (c = 42 ∧ j = 2) → w2 c j = w1 c j := fun c j hc => by rw [e2, up_ap, if_neg hc]
  refine X1_orderByNumber_ok (D := D) m10 (fun i hi => by have := hen i hi; omega) hne rfl (by rw [v2 _ _ (by omega)]; exact R1.2.1) (fun i hi => by rw [v2 _ _ (by omega)]; exact R1.2.2.2.1 i hi) (fun w3 g3 r3 o3 => ?_)
  have R3 : RepX w3 42 (dOrd D 0) := by
    refine ⟨by rw [o3 _ _ (by decide) (by decide), v2 _ _ (by omega)]; exact R1.1, by rw [o3 _ _ (by decide) (by decide), v2 _ _ (by omega)]; exact R1.2.1, ⟨0, by rw [o3 _ _ (by decide) (by decide), e2, up_eq]; rfl, by decide, fun e => by show _ = (_ && false); simp⟩, fun i hi => ?_, fun p hp => ?_, fun p i hp hi => ?_⟩
    · have hi : i < 2 * dM D := hi
      have e : dE (dOrd D 0) i = dE D i := dMx_E hi
      rw [e, o3 _ _ (by decide) (by decide), v2 _ _ (by omega)]; exact R1.2.2.2.1 i hi
    · have hp : p < dN D := hp
      exact g3 p (by omega)
    · have hp : p < dN D := hp
      have hi : i < dgc D p := hi
      show _ = ((decF (dgc D p) (srt D p) (numP D 0 p) i : Nat) : Int)
      rw [num_zero, dec_zero _ _ _ hi]
      exact r3 p i (by omega) hi
  refine X9_enter_ok (dOrd_WF hW 0) R3 (by omega) (fun w4 V4 o4 => hQ w4 (RepX.of R3 (fun c j _ _ => o4 c j (by omega))) V4 (fun c j hc => ?_))
  rw [o4 c j (by omega), o3 c j (by omega) (by omega), v2 c j (by omega), o1 c j (by omega)]
theorem X3_setOrder_ok {Q : Wd → Prop} {w : Wd} {D : Dw} {x : Int} (n : Nat) (hx : x = (n : Int)) (hn : n < 2147483648) (hW : WF D) (hR : RepX w 1 D) (hQ : ∀ w', RepX w' 1 (dOrd D n) → (∀ c j, (c < 1 ∨ 5 ≤ c ∧ c < 42 ∨ 46 ≤ c) → w' c j = w c j) → Q w') : X3_setOrder 1 x w Q := by
  subst hx
  obtain ⟨n6, m10, hen, hne, -, -, -⟩ := id hW
  obtain ⟨D0, hD0⟩ : ∃ D0 : Dw, D0 = (dN D, dM D, dE D, (fun _ => false), dG D, dR D) := ⟨_, rfl⟩
  have hW0 : WF D0 := by rw [hD0]; exact hW
  have eO : dOrd D0 n = dOrd D n := by rw [hD0]; rfl
  have eN : dN D0 = dN D := by rw [hD0]
  have eM : dM D0 = dM D := by rw [hD0]
  have eG : dG D0 = dG D := by rw [hD0]
  unfold X3_setOrder
  intro w1 e1
  have v1 : ∀ c j, ¬ (c = 1 ∧ j = 2) → w1 c j = w c j := fun c j hc => by rw [e1, up_ap, if_neg hc]
  have R1 : RepX w1 1 D0 := by
    rw [hD0]
    obtain ⟨r0, r1, -, r3, r4, r5⟩ := hR
    exact ⟨by rw [v1 _ _ (by omega)]; exact r0, by rw [v1 _ _ (by omega)]; exact r1, ⟨0, by rw [e1, up_eq]; rfl, by decide, fun e => by show _ = (_ && false); simp⟩, fun i hi => by rw [v1 _ _ (by omega)]; exact r3 i hi, fun p hp => by rw [v1 _ _ (by omega)]; exact r4 p hp, fun p i hp hi => by rw [v1 _ _ (by omega)]; exact r5 p i hp hi⟩
  refine X1_become_ok (by omega) hW0 R1 (fun w2 R2 o2 => ?_)
  have R21 : RepX w2 1 D0 := RepX.of R1 (fun c j _ _ => o2 c j (by omega))
  have fin : ∀ v : Wd, (∀ q i, q < dN D → i < dG D q → v 4 (10 * q + i) = (dR (dOrd D n) q i : Int)) → (∀ c j, c ≠ 4 → v c j = w2 c j) → Q v := fun v hv vo => by
    obtain ⟨r0, r1, ⟨t, r2, r2', r2''⟩, r3, r4, r5⟩ := R21
    refine hQ v ⟨by rw [vo _ _ (by decide), r0, eN]; rfl, by rw [vo _ _ (by decide), r1, eM]; rfl, ⟨t, by rw [vo _ _ (by decide)]; exact r2, r2', fun e => by rw [r2'' e, eM]; rw [hD0]; rfl⟩, fun i hi => ?_, fun p hp => ?_, fun p i hp hi => ?_⟩ (fun c j hc => by rw [vo c j (by omega), o2 c j (by omega), v1 c j (by omega)])
    · have hi : i < 2 * dM D := hi
      have e : dE (dOrd D n) i = dE D i := dMx_E hi
      rw [e, vo _ _ (by decide), r3 i (by rw [eM]; exact hi), hD0]
    · have hp : p < dN D := hp
      show _ = (dgc D p : Int)
      rw [vo _ _ (by decide), r4 p (by rw [eN]; exact hp), eG, deg_dgc hW hp]
    · have hp : p < dN D := hp
      have hi : i < dgc D p := hi
      rw [← deg_dgc hW hp] at hi
      exact hv p i hp hi
  have loopP : ∀ (m p : Nat) (v : Wd), p ≤ dN D → dN D - p < m → (∀ q i, q < p → i < dG D q → v 4 (10 * q + i) = (dR (dOrd D n) q i : Int)) → (∀ c j, c ≠ 4 → v c j = w2 c j) → X3_setOrder_l15 1 Q (X3_setOrder_b72 1 Q) m (n : Int) (p : Int) v := by
    intro m
    induction m with
    | zero => intro p v a1 a2; omega
    | succ m ih =>
      intro p v a1 a2 hv vo
      unfold X3_setOrder_l15
      rw [vo 1 0 (by decide), R21.1, eN, wr_nat (n := dN D) (by omega), wr_nat (n := p) (by omega)]
      refine ⟨fun z => ?_, fun z => ⟨dG D p + 1, ?_⟩⟩
      · have : p = dN D := by omega
        subst this
        exact fin v hv vo
      · have hp : p < dN D := by omega
        have hdp := hW.deg hp
        have loopI : ∀ (m' i : Nat) (u : Wd), i ≤ dG D p → dG D p - i < m' → (∀ q j, q < p → j < dG D q → u 4 (10 * q + j) = (dR (dOrd D n) q j : Int)) → (∀ j, j < i → u 4 (10 * p + j) = (dR (dOrd D n) p j : Int)) → (∀ c j, c ≠ 4 → u c j = w2 c j) → X3_setOrder_l26 1 Q (X3_setOrder_b66 1 Q (X3_setOrder_l15 1 Q (X3_setOrder_b72 1 Q) m) (X3_setOrder_b72 1 Q)) m' (n : Int) (p : Int) (i : Int) u := by
          intro m'
          induction m' with
          | zero => intro i u b1 b2; omega
          | succ m' ihI =>
            intro i u b1 b2 hu hui uo
            have e3 : u 3 p = (dG D p : Int) := by rw [uo 3 p (by decide), R21.2.2.2.2.1 p (by rw [eN]; exact hp), eG]
            unfold X3_setOrder_l26
            rw [show 1 + 2 = 3 from rfl, rd_of rfl (by omega), e3, wr_nat (n := dG D p) (by omega), wr_nat (n := i) (by omega)]
            refine ⟨ix_of rfl (by omega) (by decide), fun y => ?_, fun y => ?_⟩
            · have hi : i = dG D p := by omega
              unfold X3_setOrder_b66
              rw [show (p : Int) + 1 = ((p + 1 : Nat) : Int) by omega]
              refine ih (p + 1) u (by omega) (by omega) (fun q j hq hj => ?_) uo
              by_cases k : q = p
              · rw [k] at hj ⊢; exact hui j (by omega)
              · exact hu q j (by omega) hj
            · have hi : i < dG D p := by omega
              refine X3_lineInOrder_ok n p i rfl rfl rfl hn hW0 (RepX.of R2 (fun c j _ _ => uo c j (by omega))) (by rw [eN]; exact hp) (by rw [eG]; exact hi) ?_
              rw [eO]
              refine ⟨ix_of (n := 10 * p + i) (by omega) (by omega) (by decide), fun w5 e5 => ?_⟩
              rw [show 1 + 3 = 4 from rfl, wt_of (n := 10 * p + i) (by omega) (by omega)] at e5
              rw [show (i : Int) + 1 = ((i + 1 : Nat) : Int) by omega]
              refine ihI (i + 1) w5 (by omega) (by omega) (fun q j hq hj => ?_) (fun j hj => ?_) (fun c j hc => by rw [e5, up_ap, if_neg (by omega)]; exact uo c j hc)
              · have hdq := hW.deg (p := q) (by omega)
                rw [e5, up_ap, if_neg (by omega)]; exact hu q j hq hj
              · rw [e5, up_ap]
                by_cases k : j = i
                · rw [if_pos ⟨rfl, by omega⟩, k]
                · rw [if_neg (by omega)]; exact hui j (by omega)
        exact loopI (dG D p + 1) 0 v (by omega) (by omega) hv (fun j hj => by omega) vo
  exact ⟨dN D + 1, loopP (dN D + 1) 0 w2 (by omega) (by omega) (fun q i hq => by omega) (fun _ _ _ => rfl)⟩
