/-! LIKE at the class -/
theorem X9_otherSense_ok {K : Nat} {Q : Int → Wd → Prop} {w : Wd} {D : Dw} {x : Int} (hm : dM D ≤ 10) (hR : RepW w K D) (s : Nat) (hx : x = (s : Int)) (hs : s < 4 * dM D) (hQ : Q (os D s : Int) w) : X9_otherSense K x w Q := by
  subst hx
  unfold X9_otherSense
  rw [hR.1, wr_nat (n := 2 * dM D) (by omega), wr_nat (n := s) (by omega)]
  have hv := os_val hs
  refine ⟨fun z => ?_, fun z => ?_⟩
  · rw [hv.1 (by omega)] at hQ
    rw [show (s : Int) - ((2 * dM D : Nat) : Int) = ((s - 2 * dM D : Nat) : Int) by omega, wr_nat (by omega)]
    exact hQ
  · rw [hv.2 (by omega)] at hQ
    rw [show (s : Int) + ((2 * dM D : Nat) : Int) = ((2 * dM D + s : Nat) : Int) by omega, wr_nat (by omega)]
    exact hQ
def LX (w : Wd) (N : Nat) (q p : Nat → Nat) (n : Nat) : Prop := w 50 4 = (n : Int) ∧ (∀ i, i < n → w 58 i = (q i : Int) ∧ w 57 (q i) = (p (q i) : Int)) ∧ (∀ s, s < N → (∀ i, i < n → q i ≠ s) → w 57 s = -1)
def offL (w w' : Wd) : Prop := ∀ c j, c ≠ 57 → c ≠ 58 → ¬ (c = 50 ∧ j = 4) → w' c j = w c j
theorem offL_trans {a b c : Wd} (h : offL a b) (g : offL b c) : offL a c := fun x j h1 h2 h3 => by rw [g x j h1 h2 h3, h x j h1 h2 h3]
theorem Snd.more {N : Nat} {q p : Nat → Nat} {n s t : Nat} (h : Snd N q p n) (hs : s < N) (ht : t < N) (hn : ¬ ∃ i, i < n ∧ q i = s) : Snd N (fun i => if i = n then s else q i) (fun u => if u = s then t else p u) (n + 1) := by
  refine ⟨fun i hi => ?_, fun i j hi hj e => ?_⟩
  · by_cases z : i = n
    · simp only [if_pos z, if_true]
      exact ⟨hs, ht⟩
    · have h1 := h.1 i (by omega)
      have h2 : q i ≠ s := fun e => hn ⟨i, by omega, e⟩
      simp only [if_neg z, if_neg h2]
      exact h1
  · by_cases z : i = n <;> by_cases y : j = n
    · omega
    · simp only [if_pos z, if_neg y] at e
      exact absurd ⟨j, by omega, e.symm⟩ hn
    · simp only [if_neg z, if_pos y] at e
      exact absurd ⟨i, by omega, e⟩ hn
    · simp only [if_neg z, if_neg y] at e
      exact h.2 i j (by omega) (by omega) e
theorem Xt.one {q p : Nat → Nat} {n s t : Nat} (hn : ¬ ∃ i, i < n ∧ q i = s) : Xt q p n (fun i => if i = n then s else q i) (fun u => if u = s then t else p u) (n + 1) s t := by
  refine ⟨by omega, fun i hi => ?_, ⟨n, by omega, by simp, by simp⟩, fun j hj => ?_⟩
  · have h2 : q i ≠ s := fun e => hn ⟨i, by omega, e⟩
    simp only [if_neg (show i ≠ n by omega), if_neg h2]
    exact ⟨trivial, trivial⟩
  · by_cases z : j = n
    · right
      simp [z]
    · left; omega
theorem X2_send_ok {Q : Int → Wd → Prop} {w : Wd} {x1 x2 : Int} {N : Nat} {q p : Nat → Nat} {n : Nat} (s t : Nat) (h1 : x1 = (s : Int)) (h2 : x2 = (t : Int)) (hN : N ≤ 40) (hs : s < N) (ht : t < N) (hS : Snd N q p n) (hL : LX w N q p n) (k1 : ∀ w' q' p' n', Snd N q' p' n' → LX w' N q' p' n' → Xt q p n q' p' n' s t → offL w w' → Q 1 w') (k0 : (∃ i, i < n ∧ q i = s ∧ p s ≠ t) → Q 0 w) : X2_send x1 x2 w Q := by
  subst h1 h2
  have hn0 := hS.le
  unfold X2_send
  rw [rd_of rfl (by omega), hL.1, wr_nat (n := n) (by omega), show wr 40 = 40 by decide, show wr (-1) = -1 by decide]
  by_cases hd : ∃ i, i < n ∧ q i = s
  · obtain ⟨i, hi, e⟩ := hd
    have e1 : w 57 s = (p s : Int) := by rw [← e]; exact (hL.2.1 i hi).2
    have hp := (hS.1 i hi).2
    rw [e] at hp
    rw [e1, wr_nat (n := p s) (by omega)]
    refine ⟨ix_of rfl (by omega) (by decide), fun z => by omega, fun _ => ?_⟩
    unfold X2_send_b19
    rw [rd_of rfl (by omega), e1, wr_nat (n := p s) (by omega), wr_nat (n := t) (by omega)]
    exact ⟨ix_of rfl (by omega) (by decide), fun z => k1 w q p n hS hL ⟨Nat.le_refl _, fun _ _ => ⟨rfl, rfl⟩, ⟨i, hi, e, by omega⟩, fun j hj => Or.inl hj⟩ (fun _ _ _ _ _ => rfl), fun z => k0 ⟨i, hi, e, fun y => z (by rw [y])⟩⟩
  · have hS' := hS.more hs ht hd
    have hn := hS'.le
    have e1 : w 57 s = -1 := hL.2.2 s hs (fun i hi e => hd ⟨i, hi, e⟩)
    rw [e1]
    refine ⟨ix_of rfl (by omega) (by decide), fun _ => ⟨fun _ => ⟨ix_of rfl (by omega) (by decide), fun w1 g1 => ?_⟩, fun z => absurd (by omega) z⟩, fun z => absurd (by decide) z⟩
    rw [wt_of rfl (by omega)] at g1
    have a1 : w1 50 4 = (n : Int) := by rw [g1, up_ap, if_neg (by omega)]; exact hL.1
    rw [a1]
    refine ⟨ix_of rfl (by omega) (by decide), fun w2 g2 => ?_⟩
    rw [wt_of rfl (by omega)] at g2
    have a2 : w2 50 4 = (n : Int) := by rw [g2, up_ap, if_neg (by omega)]; exact a1
    intro w3 g3
    rw [a2] at g3
    have hw : ∀ c j, w3 c j = if c = 50 ∧ j = 4 then ((n + 1 : Nat) : Int) else if c = 58 ∧ j = n then (s : Int) else if c = 57 ∧ j = s then (t : Int) else w c j := fun c j => by
      rw [g3, up_ap, g2, up_ap, g1, up_ap]
      rfl
    refine k1 w3 _ _ (n + 1) hS' ⟨?_, fun i hi => ?_, fun u hu hno => ?_⟩ (Xt.one hd) (fun c j c1 c2 c3 => ?_)
    · rw [hw, if_pos ⟨rfl, rfl⟩]
    · by_cases z : i = n
      · simp only [if_pos z, if_true]
        rw [hw, hw, if_neg (by omega), if_pos (by omega), if_neg (by omega), if_neg (by omega), if_pos ⟨rfl, rfl⟩]
        exact ⟨rfl, rfl⟩
      · have y : q i ≠ s := fun e => hd ⟨i, by omega, e⟩
        have h3 := hL.2.1 i (by omega)
        simp only [if_neg z, if_neg y]
        rw [hw, hw, if_neg (by omega), if_neg (by omega), if_neg (by omega), if_neg (by omega), if_neg (by omega), if_neg (by omega)]
        exact h3
    · have y : s ≠ u := fun e => hno n (by omega) (by simp [e])
      rw [hw, if_neg (by omega), if_neg (by omega), if_neg (by omega)]
      refine hL.2.2 u hu (fun i hi e => hno i (by omega) ?_)
      simp only [if_neg (show i ≠ n by omega)]
      exact e
    · rw [hw, if_neg c3, if_neg (by omega), if_neg (by omega)]
theorem X2_fits_ok {Q : Int → Wd → Prop} {w : Wd} {D D' : Dw} {x : Int} (g : Nat) (hx : x = (g : Int)) (hW : WF D) (hW' : WF D') (hm : dM D = dM D') (h0 : 0 < dM D) (hO : nPt D (dM D) = 1) (hR : RepW w 51 D) (hR' : RepW w 54 D') (hg : g < 4 * dM D) (hQ : ∀ w', offL w w' → (Fit D D' g → Q 1 w') ∧ (¬ Fit D D' g → Q 0 w')) : X2_fits x w Q := by
  subst hx
  have m10 := hW.2.1
  have hF := face_DH hW
  have hF' := face_DH hW'
  have zero : ∀ (m : Nat) (k : Int) (v : Wd), offL w v → ¬ Fit D D' g → X2_fits_l22 Q (X2_fits_b144 Q) (m + 1) 0 k v := fun m k v ov hn => by
    have q0 : X2_fits_b144 Q 0 v := ⟨Or.inl rfl, (hQ v ov).2 hn⟩
    unfold X2_fits_l22
    exact ⟨fun _ => q0, fun _ => ⟨fun _ => q0, fun _ => ⟨fun _ => q0, fun z => absurd (by decide) z⟩⟩⟩
  have loop : ∀ (m k : Nat) (v : Wd) (q p : Nat → Nat) (n : Nat), 42 - k < m → k ≤ n → offL w v → LX v (4 * dM D) q p n → LI D D' g q p n → Cls D D' q p n k → X2_fits_l22 Q (X2_fits_b144 Q) m 1 (k : Int) v := by
    intro m
    induction m with
    | zero => intro k v q p n a1; omega
    | succ m ih =>
      intro k v q p n a1 a2 ov hL hI hC
      have hS := hI.1
      have hn := hS.le
      have done : n ≤ k → X2_fits_b144 Q 1 v := fun z => by
        have : k = n := by omega
        subst this
        exact ⟨Or.inr rfl, (hQ v ov).1 (hC.fit hW h0 hO hI.2.2.2.1 hI.2.1 hI.2.2.1 hS)⟩
      unfold X2_fits_l22
      rw [hL.1, wr_nat (n := n) (by omega), wr_nat (n := k) (by omega), show wr 40 = 40 by decide]
      refine ⟨fun z => done (by omega), fun _ => ⟨fun z => done (by omega), fun z => ⟨fun y => absurd y (by decide), fun _ => ?_⟩⟩⟩
      have hk : k < n := by omega
      obtain ⟨s, hs⟩ : ∃ s, q k = s := ⟨_, rfl⟩
      obtain ⟨t, ht⟩ : ∃ t, p s = t := ⟨_, rfl⟩
      have h1 := hL.2.1 k hk
      have h2 := hS.1 k hk
      rw [hs, ht] at h1 h2
      have hst : Has q p n s t := ⟨k, hk, hs, ht⟩
      have op := fit_op (D := D) (D' := D') (g := g) (s := s) (t := t) h2.1
      refine ⟨ix_of rfl (by omega) (by decide), fun y5 e5 => ?_⟩
      rw [rd_of rfl (by omega), h1.1] at e5
      subst e5
      refine ⟨ix_of rfl (by omega) (by decide), fun y6 e6 => ?_⟩
      rw [rd_of rfl (by omega), h1.2] at e6
      subst e6
      have rep : ∀ v', offL w v' → RepW v' 51 D ∧ RepW v' 54 D' := fun v' o => ⟨RepW.of hR (fun c j _ _ => o c j (by omega) (by omega) (by omega)), RepW.of hR' (fun c j _ _ => o c j (by omega) (by omega) (by omega))⟩
      have ht' : t < 4 * dM D' := by rw [← hm]; exact h2.2
      refine X9_otherSense_ok m10 (rep v ov).1 s rfl h2.1 (X9_otherSense_ok (by omega) (rep v ov).2 t rfl ht' ?_)
      obtain ⟨m, rfl⟩ : ∃ m', m = m' + 1 := ⟨m - 1, by omega⟩
      refine X2_send_ok _ _ rfl rfl (by omega) (os_lt h2.1) (by rw [hm]; exact os_lt ht') hS hL (fun v1 q1 p1 n1 S1 L1 X1 o1 => ⟨fun y => absurd y (by decide), fun _ => ?_⟩) (fun hno => ⟨fun _ => zero _ _ _ ov (hI.nof hst op.1 hno), fun y => absurd (by decide) y⟩)
      have I1 := hI.xt S1 X1 hst op.1
      have st1 := X1.has hst
      have ov1 := offL_trans ov o1
      refine X9_next_ok hW (rep v1 ov1).1 s rfl h2.1 (X9_next_ok hW' (rep v1 ov1).2 t rfl ht' ?_)
      refine X2_send_ok _ _ rfl rfl (by omega) (hF.1 s h2.1) (by rw [hm]; exact hF'.1 t ht') S1 L1 (fun v2 q2 p2 n2 S2 L2 X2 o2 => ⟨fun y => absurd y (by decide), fun _ => ?_⟩) (fun hno => ⟨fun _ => zero _ _ _ ov1 (I1.nof st1 op.2.1 hno), fun y => absurd (by decide) y⟩)
      have I2 := I1.xt S2 X2 st1 op.2.1
      have st2 := X2.has st1
      have ov2 := offL_trans ov1 o2
      refine X9_opposite_ok hW (rep v2 ov2).1 s rfl h2.1 (X9_opposite_ok hW' (rep v2 ov2).2 t rfl ht' ?_)
      refine X2_send_ok _ _ rfl rfl (by omega) (hF.2.1 s h2.1) (by rw [hm]; exact hF'.2.1 t ht') S2 L2 (fun v3 q3 p3 n3 S3 L3 X3 o3 => ⟨fun y => absurd y (by decide), fun _ => ?_⟩) (fun hno => ⟨fun _ => zero _ _ _ ov2 (I2.nof st2 op.2.2 hno), fun y => absurd (by decide) y⟩)
      have I3 := I2.xt S3 X3 st2 op.2.2
      rw [show (k : Int) + 1 = ((k + 1 : Nat) : Int) by omega]
      have l1 := X1.1
      have l2 := X2.1
      have l3 := X3.1
      have c3 := X3.cls (by omega) (X2.cls (by omega) (X1.cls a2 hC))
      have e1 := X1.2.1 k hk
      have e2 := X2.2.1 k (by omega)
      have e3 := X3.2.1 k (by omega)
      rw [hs, ht] at e1
      rw [e1.1, e1.2] at e2
      rw [e2.1, e2.2] at e3
      exact ih (k + 1) v3 q3 p3 n3 (by omega) (by omega) (offL_trans ov2 o3) L3 I3 (c3.more s t e3.1 e3.2 (X3.has (X2.has X1.2.2.1)) (X3.has X2.2.2.1) X3.2.2.1)
  unfold X2_fits
  refine fill_ok (by decide) (fun w1 hw1 => ?_)
  intro w2 e2
  have hw2 : ∀ c j, w2 c j = if c = 50 ∧ j = 4 then 0 else if c = 57 ∧ j < aln 57 then -1 else w c j := fun c j => by
    rw [e2, up_ap, hw1]
  have ov : offL w w2 := fun c j c1 c2 c3 => by rw [hw2, if_neg c3, if_neg (by omega)]
  have hS : Snd (4 * dM D) (fun _ => 0) (fun _ => 0) 0 := ⟨fun i hi => by omega, fun i j hi => by omega⟩
  have hL : LX w2 (4 * dM D) (fun _ => 0) (fun _ => 0) 0 := by
    refine ⟨by rw [hw2, if_pos ⟨rfl, rfl⟩]; rfl, fun i hi => by omega, fun s hs _ => ?_⟩
    rw [hw2, if_neg (by omega), if_pos ⟨rfl, by show s < 40; omega⟩]
  refine X2_send_ok 0 g rfl rfl (by omega) (by omega) hg hS hL (fun v q p n S L X o => ⟨44, ?_⟩) (fun ⟨i, hi, _⟩ => by omega)
  obtain ⟨x1, -, ⟨j, j1, j2, j3⟩, x4⟩ := X
  have z0 : q 0 = 0 ∧ p 0 = g := (x4 0 (by omega)).resolve_left (by omega)
  refine loop 44 0 v q p n (by omega) (by omega) (offL_trans ov o) L ⟨S, z0.1, z0.2, by omega, fun f hf i hi => ?_⟩ (fun i hi => by omega)
  have := (x4 i hi).resolve_left (by omega)
  rw [this.1, this.2]
  exact hf.1
theorem X2_isWhole_ok {K : Nat} {Q : Int → Wd → Prop} {w : Wd} {D : Dw} (hW : WF D) (hR : RepX w K D) (h1 : Whl D → Q 1 w) (h0 : ¬ Whl D → Q 0 w) : X2_isWhole K w Q := by
  have n6 := hW.1
  have m10 := hW.2.1
  have hp := nPt_le D (dM D)
  unfold X2_isWhole X2_isWhole_b19
  rw [hR.2.1, wr_nat (n := dM D) (by omega)]
  refine ⟨fun z => h0 (fun y => by have := y.1; omega), fun z => X1_countParts_ok hW hR ?_⟩
  rw [wr_nat (n := nPt D (dM D)) (by omega), show wr 1 = 1 by decide]
  exact ⟨fun y => h1 ⟨by omega, by omega⟩, fun y => h0 (fun k => y (by have := k.2; omega))⟩
theorem X2_ways_ok {r1 r2 : Nat} {Q : Int → Wd → Prop} {w : Wd} {D D' : Dw} (hr1 : r1 + 4 ≤ 50) (hr2 : r2 + 4 ≤ 50) (hW : WF D) (hW' : WF D') (hR : RepX w r1 D) (hR' : RepX w r2 D') (hQ : ∀ w', (∀ c j, c < 50 ∨ 59 ≤ c → w' c j = w c j) → Q (likA D D') w') : X2_waysBetween r1 r2 w Q := by
  have m10 := hW.2.1
  have m10' := hW'.2.1
  have no : ¬ (Whl D ∧ Whl D') → Q (-2) w := fun z => by
    have := hQ w (fun _ _ _ => rfl)
    unfold likA at this
    rw [if_neg z] at this
    exact this
  unfold X2_waysBetween
  refine X2_isWhole_ok hW hR (fun o1 => ⟨fun y => absurd y (by decide), fun _ => ?_⟩) (fun o1 => ⟨fun _ => no (fun z => o1 z.1), fun y => absurd (by decide) y⟩)
  refine X2_isWhole_ok hW' hR' (fun o2 => ⟨fun y => absurd y (by decide), fun _ => ?_⟩) (fun o2 => ⟨fun _ => no (fun z => o2 z.2), fun y => absurd (by decide) y⟩)
  unfold likA at hQ
  rw [if_pos ⟨o1, o2⟩] at hQ
  rw [hR.2.1, hR'.2.1, wr_nat (n := dM D) (by omega), wr_nat (n := dM D') (by omega)]
  refine ⟨fun z => ?_, fun z => ?_⟩
  · have hm : dM D = dM D' := by omega
    rw [if_pos hm] at hQ
    refine X9_enter_ok hW hR (by omega) (fun w5 R5 off5 => ?_)
    refine X9_enter_ok hW' (RepX.of hR' (fun c j _ _ => off5 c j (by omega))) (by omega) (fun w6 R6 off6 => ⟨4 * dM D + 1, ?_⟩)
    have R5' : RepW w6 51 D := RepW.of R5 (fun c j _ _ => off6 c j (by omega))
    have key : ∀ (m k : Nat) (v : Wd), k ≤ 4 * dM D → 4 * dM D - k < m → offL w6 v → X2_waysBetween_l51 r1 r2 Q (X2_waysBetween_b83 r1 r2 Q) m (nFit D D' k : Int) (k : Int) v := by
      intro m
      induction m with
      | zero => intro k v a1 a2; omega
      | succ m ih =>
        intro k v a1 a2 ov
        have RA : RepW v 51 D := RepW.of R5' (fun c j _ _ => ov c j (by omega) (by omega) (by omega))
        have RB : RepW v 54 D' := RepW.of R6 (fun c j _ _ => ov c j (by omega) (by omega) (by omega))
        have hl := nFit_le (D := D) (D' := D') k
        unfold X2_waysBetween_l51
        rw [RB.1, show 2 * ((2 * dM D' : Nat) : Int) = ((4 * dM D : Nat) : Int) by omega, wr_nat (n := 4 * dM D) (by omega), wr_nat (n := k) (by omega)]
        refine ⟨fun y => ?_, fun y => ?_⟩
        · have : k = 4 * dM D := by omega
          unfold X2_waysBetween_b83
          rw [wr_nat (by omega), this]
          exact hQ v (fun c j hc => by rw [ov c j (by omega) (by omega) (by omega), off6 c j (by omega), off5 c j (by omega)])
        · refine X2_fits_ok k rfl hW hW' hm o1.1 o1.2 RA RB (by omega) (fun v' o' => ⟨fun f => ⟨fun k => absurd k (by decide), fun _ => ?_⟩, fun f => ⟨fun _ => ?_, fun k => absurd (by decide) k⟩⟩)
          · rw [show (k : Int) + 1 = ((k + 1 : Nat) : Int) by omega, show (nFit D D' k : Int) + 1 = ((nFit D D' (k + 1) : Nat) : Int) by rw [nFit_y f]; omega]
            exact ih (k + 1) v' (by omega) (by omega) (offL_trans ov o')
          · rw [show (k : Int) + 1 = ((k + 1 : Nat) : Int) by omega, ← nFit_n f]
            exact ih (k + 1) v' (by omega) (by omega) (offL_trans ov o')
    exact key (4 * dM D + 1) 0 w6 (by omega) (by omega) (fun _ _ _ _ _ => rfl)
  · rw [if_neg (by omega)] at hQ
    exact hQ w (fun _ _ _ => rfl)
theorem like_X {Q : Int → Wd → Prop} {w : Wd} {S : Sg} {x : Int} (hS : SOK S) (h : HX w S) (hT : TrOK w S) (hx : wr x = x) (h0 : (∀ D, ¬ Hok S x D) → Q (-1) w) (h1 : ∀ D, Hok S x D → ∀ w', HX w' S → TrOK w' S → offQ w w' → Q (wr (likA (sD S) D)) w') : X10_like x w Q := by
  have hW := hS.1
  have hR : RepX w 1 (sD S) := h.2.2.2.1
  unfold X10_like
  refine X10_holdsSlot_ok h hx (fun hn => ⟨fun _ => h0 hn, fun z => absurd rfl z⟩) (fun s D hs hs3 hD => ⟨fun z => absurd z (by decide), fun _ => ?_⟩)
  have hWD : WF D := hS.2.2.2.1 s hs3 D hD
  obtain ⟨g1, g2, g3, g4, g5, g6, g7, ⟨pn, g8, g9, g10⟩, ⟨b, g11, g12, g13⟩, g14⟩ := id h
  refine X7_fetch_ok (N := 3) s hs hs3 g6 aln_64 (by decide) (by decide) hWD (g14 s hs3 D hD) (fun w3 hw3 off3 => ?_)
  refine X2_ways_ok (by decide) (by decide) hW hWD (RepX.of hR (fun c j _ _ => off3 c j (by omega))) hw3 (fun w4 o4 => ?_)
  have off : ∀ c j, (c < 5 ∨ 9 ≤ c ∧ c < 50 ∨ 59 ≤ c) → w4 c j = w c j := fun c j hc => by rw [o4 c j (by omega), off3 c j (by omega)]
  exact h1 D ⟨s, hs, hs3, hD⟩ w4 (HX.same hS h (fun c j _ hc => off c j (by omega))) (hT.imp (fun k => by rw [off _ _ (by omega)]; exact k) (fun k => RepT.of k (fun c j _ _ => off c j (by omega)))) (fun c j hc => off c j (by omega))
