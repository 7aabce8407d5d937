/-! LIKE at the model -/
theorem ms_eq {D D' : Dw} (hm : dM D = dM D') (s : Nat) : ms D' s = ms D s := by
  unfold ms stA stB
  rw [hm]
theorem X11_turnedAt_ok {Q : Int → Wd → Prop} {w : Wd} {D : Dw} {x : Int} (hm : dM D ≤ 10) (s : Nat) (hx : x = (ms D s : Int)) (hs : s < 4 * dM D) (hQ : Q (ms D (os D s) : Int) w) : X11_turnedAt x w Q := by
  subst hx
  have h := ms_ok hm hs
  have e : ms D (os D s) = if (!stB D s) then stA D s + 20 else stA D s := ms_enc (stA_lt hs)
  have e2 : ms D s = if stB D s then stA D s + 20 else stA D s := rfl
  unfold X11_turnedAt
  rw [wr_nat (n := ms D s) (by omega), show wr 20 = 20 by decide]
  cases q : stB D s
  · rw [q] at e e2
    simp only [Bool.not_false, if_true] at e
    simp only [Bool.false_eq_true, if_false] at e2
    refine ⟨fun _ => ?_, fun z => absurd (by omega) z⟩
    rw [show ((ms D s : Nat) : Int) + 20 = ((ms D (os D s) : Nat) : Int) by omega, wr_nat (by omega)]
    exact hQ
  · rw [q] at e e2
    simp only [Bool.not_true, Bool.false_eq_true, if_false] at e
    simp only [if_true] at e2
    refine ⟨fun z => absurd z (by omega), fun _ => ?_⟩
    rw [show ((ms D s : Nat) : Int) - 20 = ((ms D (os D s) : Nat) : Int) by omega, wr_nat (by omega)]
    exact hQ
def LM (w : Wd) (D : Dw) (q p : Nat → Nat) (n : Nat) : Prop := w 65 42 = (n : Int) ∧ (∀ i, i < n → w 90 i = (ms D (q i) : Int) ∧ w 88 (ms D (q i)) = (ms D (p (q i)) : Int) ∧ w 89 (ms D (p (q i))) = (ms D (q i) : Int)) ∧ (∀ s, s < 4 * dM D → (∀ i, i < n → q i ≠ s) → w 88 (ms D s) = -1) ∧ (∀ t, t < 4 * dM D → (∀ i, i < n → p (q i) ≠ t) → w 89 (ms D t) = -1)
def offN (w w' : Wd) : Prop := ∀ c j, c ≠ 88 → c ≠ 89 → c ≠ 90 → ¬ (c = 65 ∧ j = 42) → w' c j = w c j
theorem offN_trans {a b c : Wd} (h : offN a b) (g : offN b c) : offN a c := fun x j h1 h2 h3 h4 => by rw [g x j h1 h2 h3 h4, h x j h1 h2 h3 h4]
theorem X11_sends_ok {Q : Int → Wd → Prop} {w : Wd} {x1 x2 : Int} {D : Dw} {q p : Nat → Nat} {n : Nat} (s t : Nat) (hm : dM D ≤ 10) (h1 : x1 = (ms D s : Int)) (h2 : x2 = (ms D t : Int)) (hs : s < 4 * dM D) (ht : t < 4 * dM D) (hS : Snd (4 * dM D) q p n) (hL : LM w D q p n) (k1 : ∀ w' q' p' n', Snd (4 * dM D) q' p' n' → LM w' D q' p' n' → Xt q p n q' p' n' s t → offN w w' → Q 1 w') (k0 : ((∃ i, i < n ∧ q i = s ∧ p s ≠ t) ∨ ((∀ i, i < n → q i ≠ s) ∧ ∃ i, i < n ∧ p (q i) = t)) → Q 0 w) : X11_sends x1 x2 w Q := by
  subst h1 h2
  have hn0 := hS.le
  have ms1 := ms_ok hm hs
  have ms2 := ms_ok hm ht
  unfold X11_sends
  rw [rd_of (n := ms D s) rfl (by omega), rd_of (n := ms D t) rfl (by omega)]
  by_cases hd : ∃ i, i < n ∧ q i = s
  · obtain ⟨i, hi, e⟩ := hd
    have e1 : w 88 (ms D s) = (ms D (p s) : Int) := by rw [← e]; exact (hL.2.1 i hi).2.1
    have hp := (hS.1 i hi).2
    rw [e] at hp
    have ms3 := ms_ok hm hp
    rw [e1, wr_nat (n := ms D (p s)) (by omega)]
    refine ⟨ix_of rfl (by omega) (by decide), fun _ => ?_, fun z => absurd (by omega) z⟩
    unfold X11_sends_b18
    rw [rd_of (n := ms D s) rfl (by omega), e1, wr_nat (n := ms D (p s)) (by omega), wr_nat (n := ms D t) (by omega)]
    refine ⟨ix_of rfl (by omega) (by decide), fun z => ?_, fun z => k0 (Or.inl ⟨i, hi, e, fun y => z (by rw [y])⟩)⟩
    have : p s = t := ms_inj hm hp ht (by omega)
    exact k1 w q p n hS hL ⟨Nat.le_refl _, fun _ _ => ⟨rfl, rfl⟩, ⟨i, hi, e, this⟩, fun j hj => Or.inl hj⟩ (fun _ _ _ _ _ _ => rfl)
  · have hd' : ∀ i, i < n → q i ≠ s := fun i hi e => hd ⟨i, hi, e⟩
    have e1 : w 88 (ms D s) = -1 := hL.2.2.1 s hs hd'
    rw [e1]
    refine ⟨ix_of rfl (by omega) (by decide), fun z => absurd z (by decide), fun _ => ⟨ix_of rfl (by omega) (by decide), ?_⟩⟩
    by_cases ht2 : ∃ i, i < n ∧ p (q i) = t
    · obtain ⟨i, hi, e⟩ := ht2
      have e2 : w 89 (ms D t) = (ms D (q i) : Int) := by rw [← e]; exact (hL.2.1 i hi).2.2
      have ms3 := ms_ok hm (hS.1 i hi).1
      rw [e2, wr_nat (n := ms D (q i)) (by omega)]
      refine ⟨fun z => by omega, fun _ => ?_⟩
      unfold X11_sends_b18
      rw [rd_of (n := ms D s) rfl (by omega), e1, wr_nat (n := ms D t) (by omega)]
      refine ⟨ix_of rfl (by omega) (by decide), fun z => ?_, fun _ => k0 (Or.inr ⟨hd', i, hi, e⟩)⟩
      rw [show wr (-1) = -1 by decide] at z
      omega
    · have e2 : w 89 (ms D t) = -1 := hL.2.2.2 t ht (fun i hi e => ht2 ⟨i, hi, e⟩)
      rw [e2]
      have hS' := hS.more hs ht hd
      have hn := hS'.le
      refine ⟨fun _ => ⟨ix_of rfl (by omega) (by decide), fun w1 g1 => ⟨ix_of rfl (by omega) (by decide), fun w2 g2 => ?_⟩⟩, fun z => absurd (by decide) z⟩
      rw [wt_of rfl (by omega)] at g1 g2
      have a2 : w2 65 42 = (n : Int) := by rw [g2, up_ap, if_neg (by omega), g1, up_ap, if_neg (by omega)]; exact hL.1
      rw [a2]
      refine ⟨ix_of rfl (by omega) (by decide), fun w3 g3 => ?_⟩
      rw [wt_of rfl (by omega)] at g3
      have a3 : w3 65 42 = (n : Int) := by rw [g3, up_ap, if_neg (by omega)]; exact a2
      intro w4 g4
      rw [a3] at g4
      have hw : ∀ c j, w4 c j = if c = 65 ∧ j = 42 then ((n + 1 : Nat) : Int) else if c = 90 ∧ j = n then (ms D s : Int) else if c = 89 ∧ j = ms D t then (ms D s : Int) else if c = 88 ∧ j = ms D s then (ms D t : Int) else w c j := fun c j => by
        rw [g4, up_ap, g3, up_ap, g2, up_ap, g1, up_ap]
        rfl
      refine k1 w4 _ _ (n + 1) hS' ⟨?_, fun i hi => ?_, fun u hu hno => ?_, fun u hu hno => ?_⟩ (Xt.one hd) (fun c j c1 c2 c3 c4 => ?_)
      · rw [hw, if_pos ⟨rfl, rfl⟩]
      · by_cases z : i = n
        · simp only [if_pos z, if_true]
          rw [hw, hw, hw, if_neg (by omega), if_pos (by omega), if_neg (by omega), if_neg (by omega), if_neg (by omega), if_pos ⟨rfl, rfl⟩, if_neg (by omega), if_neg (by omega), if_pos ⟨rfl, rfl⟩]
          exact ⟨rfl, rfl, rfl⟩
        · have y : q i ≠ s := hd' i (by omega)
          have h3 := hL.2.1 i (by omega)
          have h4 := hS.1 i (by omega)
          have y2 : ms D (q i) ≠ ms D s := fun e => y (ms_inj hm h4.1 hs e)
          have y3 : ms D (p (q i)) ≠ ms D t := fun e => ht2 ⟨i, by omega, ms_inj hm h4.2 ht e⟩
          simp only [if_neg z, if_neg y]
          rw [hw, hw, hw, if_neg (by omega), if_neg (by omega), if_neg (by omega), if_neg (by omega), if_neg (by omega), if_neg (by omega), if_neg (by omega), if_neg (by omega), if_neg (by omega), if_neg (by omega), if_neg (by omega), if_neg (by omega)]
          exact h3
      · have y : u ≠ s := fun e => hno n (by omega) (by simp [e])
        have y2 : ms D u ≠ ms D s := fun e => y (ms_inj hm hu hs e)
        rw [hw, if_neg (by omega), if_neg (by omega), if_neg (by omega), if_neg (by omega)]
        refine hL.2.2.1 u hu (fun i hi e => hno i (by omega) ?_)
        simp only [if_neg (show i ≠ n by omega)]
        exact e
      · have y : u ≠ t := fun e => hno n (by omega) (by simp [e])
        have y2 : ms D u ≠ ms D t := fun e => y (ms_inj hm hu ht e)
        rw [hw, if_neg (by omega), if_neg (by omega), if_neg (by omega), if_neg (by omega)]
        refine hL.2.2.2 u hu (fun i hi e => hno i (by omega) ?_)
        simp only [if_neg (show i ≠ n by omega), if_neg (hd' i hi)]
        exact e
      · rw [hw, if_neg c4, if_neg (by omega), if_neg (by omega), if_neg (by omega)]
theorem LI.nof2 {D D' : Dw} (hW : WF D) (hW' : WF D') (hm : dM D = dM D') (h0 : 0 < dM D) (hO' : nPt D' (dM D') = 1) {g : Nat} {q p : Nat → Nat} {n s t a b : Nat} (h : LI D D' g q p n) (ha : a < 4 * dM D) (hst : Has q p n s t) (hf : ∀ f, FitF D D' g f → f s = t → f a = b) (hn : (∃ i, i < n ∧ q i = a ∧ p a ≠ b) ∨ ((∀ i, i < n → q i ≠ a) ∧ ∃ i, i < n ∧ p (q i) = b)) : ¬ Fit D D' g := by
  rcases hn with hn | ⟨hn1, i, i1, i2⟩
  · exact h.nof hst hf hn
  · rintro ⟨f, hF⟩
    obtain ⟨j, j1, j2, j3⟩ := hst
    have e1 := h.2.2.2.2 f hF j j1
    rw [j2, j3] at e1
    have e2 := h.2.2.2.2 f hF i i1
    rw [i2, ← hf f hF e1] at e2
    exact hn1 i i1 (surj_inj (fit_sur hW hW' hm h0 hO' hF) _ _ (h.1.1 i i1).1 ha e2)
theorem X11_canSend_ok {Q : Int → Wd → Prop} {w : Wd} {D D' : Dw} {x : Int} (g : Nat) (hx : x = (ms D g : Int)) (hW : WF D) (hW' : WF D') (hm : dM D = dM D') (h0 : 0 < dM D) (hO : nPt D (dM D) = 1) (hO' : nPt D' (dM D') = 1) (hR : RepM w 73 D) (hR' : RepM w 83 D') (hg : g < 4 * dM D) (hQ : ∀ w', offN w w' → (Fit D D' g → Q 1 w') ∧ (¬ Fit D D' g → Q 0 w')) : X11_canSend 83 x w Q := by
  subst hx
  have m10 := hW.2.1
  have hF := face_DH hW
  have hF' := face_DH hW'
  have zero : ∀ (m : Nat) (k : Int) (v : Wd), offN w v → ¬ Fit D D' g → X11_canSend_l43 83 Q (X11_canSend_b147 83 Q) (m + 1) 0 k v := fun m k v ov hn => by
    have q0 : X11_canSend_b147 83 Q 0 v := ⟨Or.inl rfl, (hQ v ov).2 hn⟩
    unfold X11_canSend_l43
    exact ⟨fun _ => q0, fun _ => ⟨fun _ => q0, fun z => absurd (by decide) z⟩⟩
  have loop : ∀ (m k : Nat) (v : Wd) (q p : Nat → Nat) (n : Nat), 42 - k < m → k ≤ n → offN w v → LM v D q p n → LI D D' g q p n → Cls D D' q p n k → X11_canSend_l43 83 Q (X11_canSend_b147 83 Q) m 1 (k : Int) v := by
    intro m
    induction m with
    | zero => intro k v q p n a1; omega
    | succ m ih =>
      intro k v q p n a1 a2 ov hL hI hC
      have hS := hI.1
      have hn := hS.le
      have done : n ≤ k → X11_canSend_b147 83 Q 1 v := fun z => by
        have : k = n := by omega
        subst this
        exact ⟨Or.inr rfl, (hQ v ov).1 (hC.fit hW h0 hO hI.2.2.2.1 hI.2.1 hI.2.2.1 hS)⟩
      unfold X11_canSend_l43
      rw [hL.1, wr_nat (n := n) (by omega), wr_nat (n := k) (by omega)]
      refine ⟨fun z => done (by omega), fun z => ⟨fun y => absurd y (by decide), fun _ => ?_⟩⟩
      have hk : k < n := by omega
      obtain ⟨s, hs⟩ : ∃ s, q k = s := ⟨_, rfl⟩
      obtain ⟨t, ht⟩ : ∃ t, p s = t := ⟨_, rfl⟩
      have h1 := hL.2.1 k hk
      have h2 := hS.1 k hk
      rw [hs, ht] at h1 h2
      have hst : Has q p n s t := ⟨k, hk, hs, ht⟩
      have op := fit_op (D := D) (D' := D') (g := g) (s := s) (t := t) h2.1
      have mss := ms_ok m10 h2.1
      refine ⟨ix_of rfl (by omega) (by decide), fun y5 e5 => ?_⟩
      rw [rd_of rfl (by omega), h1.1] at e5
      subst e5
      refine ⟨ix_of rfl (by omega) (by decide), fun y6 e6 => ?_⟩
      rw [rd_of rfl (by omega), h1.2.1] at e6
      subst e6
      have rep : ∀ v', offN w v' → RepM v' 73 D ∧ RepM v' 83 D' := fun v' o => ⟨RepM.of hR (fun j => o 73 j (by omega) (by omega) (by omega) (by omega)), RepM.of hR' (fun j => o 83 j (by omega) (by omega) (by omega) (by omega))⟩
      have ht' : t < 4 * dM D' := by rw [← hm]; exact h2.2
      have mt : (ms D t : Int) = (ms D' t : Int) := by rw [ms_eq hm]
      refine X11_turnedAt_ok m10 s rfl h2.1 (X11_turnedAt_ok (D := D') (by omega) t mt ht' ?_)
      obtain ⟨m, rfl⟩ : ∃ m', m = m' + 1 := ⟨m - 1, by omega⟩
      refine X11_sends_ok _ (os D' t) m10 rfl (by rw [ms_eq hm]) (os_lt h2.1) (by rw [hm]; exact os_lt ht') hS hL (fun v1 q1 p1 n1 S1 L1 X1 o1 => ⟨fun y => absurd y (by decide), fun _ => ?_⟩) (fun hno => ⟨fun _ => zero _ _ _ ov (hI.nof2 hW hW' hm h0 hO' (os_lt h2.1) hst op.1 hno), fun y => absurd (by decide) y⟩)
      have I1 := hI.xt S1 X1 hst op.1
      have st1 := X1.has hst
      have ov1 := offN_trans ov o1
      refine X11_nextOf_ok hW (rep v1 ov1).1 s rfl h2.1 (X11_nextOf_ok hW' (rep v1 ov1).2 t mt ht' ?_)
      refine X11_sends_ok _ (nx D' t) m10 rfl (by rw [ms_eq hm]) (hF.1 s h2.1) (by rw [hm]; exact hF'.1 t ht') S1 L1 (fun v2 q2 p2 n2 S2 L2 X2 o2 => ⟨fun y => absurd y (by decide), fun _ => ?_⟩) (fun hno => ⟨fun _ => zero _ _ _ ov1 (I1.nof2 hW hW' hm h0 hO' (hF.1 s h2.1) st1 op.2.1 hno), fun y => absurd (by decide) y⟩)
      have I2 := I1.xt S2 X2 st1 op.2.1
      have st2 := X2.has st1
      have ov2 := offN_trans ov1 o2
      refine X11_mirrorOf_ok hW (rep v2 ov2).1 s rfl h2.1 (X11_mirrorOf_ok hW' (rep v2 ov2).2 t mt ht' ?_)
      refine X11_sends_ok _ (mi D' t) m10 rfl (by rw [ms_eq hm]) (hF.2.1 s h2.1) (by rw [hm]; exact hF'.2.1 t ht') S2 L2 (fun v3 q3 p3 n3 S3 L3 X3 o3 => ⟨fun y => absurd y (by decide), fun _ => ?_⟩) (fun hno => ⟨fun _ => zero _ _ _ ov2 (I2.nof2 hW hW' hm h0 hO' (hF.2.1 s h2.1) st2 op.2.2 hno), fun y => absurd (by decide) y⟩)
      have I3 := I2.xt S3 X3 st2 op.2.2
      rw [show (k : Int) + 1 = ((k + 1 : Nat) : Int) by omega]
      have l1 := X1.1
      have l2 := X2.1
      have l3 := X3.1
      have c3 := X3.cls (by omega) (X2.cls (by omega) (X1.cls a2 hC))
      have e1 := X1.2.1 k hk
      have e2 := X2.2.1 k (by omega)
      have e3 := X3.2.1 k (by omega)
      rw [hs, ht] at e1
      rw [e1.1, e1.2] at e2
      rw [e2.1, e2.2] at e3
      exact ih (k + 1) v3 q3 p3 n3 (by omega) (by omega) (offN_trans ov2 o3) L3 I3 (c3.more s t e3.1 e3.2 (X3.has (X2.has X1.2.2.1)) (X3.has X2.2.2.1) X3.2.2.1)
  have clr : ∀ (m k : Nat) (v : Wd), k ≤ 40 → 40 - k < m → (∀ c j, v c j = if (c = 88 ∨ c = 89) ∧ j < k then -1 else w c j) → X11_canSend_l2 83 Q (X11_canSend_b28 83 Q) m (ms D g : Int) (k : Int) v := by
    intro m
    induction m with
    | zero => intro k v a1 a2; omega
    | succ m ih =>
      intro k v a1 a2 hv
      unfold X11_canSend_l2
      rw [wr_nat (n := k) (by omega), show wr 40 = 40 by decide]
      refine ⟨fun z => ?_, fun z => ⟨ix_of rfl (by omega) (by decide), fun w1 e1 => ⟨ix_of rfl (by omega) (by decide), fun w2 e2 => ?_⟩⟩⟩
      · have hk : k = 40 := by omega
        subst hk
        unfold X11_canSend_b28
        intro w3 e3
        have hw : ∀ c j, w3 c j = if c = 65 ∧ j = 42 then 0 else if (c = 88 ∨ c = 89) ∧ j < 40 then -1 else w c j := fun c j => by rw [e3, up_ap, hv]
        have ov : offN w w3 := fun c j c1 c2 c3 c4 => by rw [hw, if_neg c4, if_neg (by omega)]
        have hS : Snd (4 * dM D) (fun _ => 0) (fun _ => 0) 0 := ⟨fun i hi => by omega, fun i j hi => by omega⟩
        have hL : LM w3 D (fun _ => 0) (fun _ => 0) 0 := by
          refine ⟨by rw [hw, if_pos ⟨rfl, rfl⟩]; rfl, fun i hi => by omega, fun s hs _ => ?_, fun s hs _ => ?_⟩
          · have := ms_ok m10 hs
            rw [hw, if_neg (by omega), if_pos (by omega)]
          · have := ms_ok m10 hs
            rw [hw, if_neg (by omega), if_pos (by omega)]
        have z0 : ms D 0 = 0 := by
          unfold ms stB stA
          rw [decide_eq_false (by omega), if_neg (by decide), if_pos (by omega)]
        refine X11_sends_ok 0 g m10 (by rw [z0]; rfl) rfl (by omega) hg hS hL (fun v q p n S L X o => ⟨44, ?_⟩) (fun hno => by
          rcases hno with ⟨i, hi, _⟩ | ⟨_, i, hi, _⟩ <;> omega)
        obtain ⟨x1, -, ⟨j, j1, j2, j3⟩, x4⟩ := X
        have z0 : q 0 = 0 ∧ p 0 = g := (x4 0 (by omega)).resolve_left (by omega)
        refine loop 44 0 v q p n (by omega) (by omega) (offN_trans ov o) L ⟨S, z0.1, z0.2, by omega, fun f hf i hi => ?_⟩ (fun i hi => by omega)
        have := (x4 i hi).resolve_left (by omega)
        rw [this.1, this.2]
        exact hf.1
      · rw [wt_of rfl (by omega)] at e1 e2
        rw [show (k : Int) + 1 = ((k + 1 : Nat) : Int) by omega]
        refine ih (k + 1) w2 (by omega) (by omega) (fun c j => ?_)
        rw [e2, up_ap, e1, up_ap, hv]
        grind
  exact ⟨41, clr 41 0 w (by omega) (by omega) (fun c j => by rw [if_neg (by omega)])⟩
theorem X11_likes_ok {Q : Int → Wd → Prop} {w : Wd} {D D' : Dw} (hW : WF D) (hW' : WF D') (hR : RepM w 73 D) (hR' : RepM w 83 D') (hQ : ∀ w', (∀ c j, c ≠ 82 → c ≠ 88 → c ≠ 89 → c ≠ 90 → ¬ (c = 65 ∧ j = 42) → w' c j = w c j) → Q (likA D D') w') : X11_likes 83 w Q := by
  have n6 := hW.1
  have n6' := hW'.1
  have m10 := hW.2.1
  have m10' := hW'.2.1
  have hp := nPt_le D (dM D)
  have hp' := nPt_le D' (dM D')
  have no : ¬ (Whl D ∧ Whl D') → ∀ w', (∀ c j, c ≠ 82 → c ≠ 88 → c ≠ 89 → c ≠ 90 → ¬ (c = 65 ∧ j = 42) → w' c j = w c j) → Q (-2) w' := fun z w' o => by
    have := hQ w' o
    unfold likA at this
    rw [if_neg z] at this
    exact this
  unfold X11_likes
  rw [rd1, rd1, hR.2.1, hR'.2.1, wr_nat (n := dM D) (by omega), wr_nat (n := dM D') (by omega), show wr (-2) = -2 by decide, show wr 1 = 1 by decide, show wr 0 = 0 by decide]
  refine ⟨ix_of (n := 1) rfl (by decide) (by decide), fun z => no (fun y => by have := y.1.1; omega) w (fun _ _ _ _ _ _ _ => rfl), fun z1 => ⟨ix_of (n := 1) rfl (by decide) (by decide), fun z => no (fun y => by have := y.2.1; omega) w (fun _ _ _ _ _ _ _ => rfl), fun z2 => ?_⟩⟩
  refine X11_partsOf_ok hW hR (by decide) (fun w1 o1 => ?_)
  rw [wr_nat (n := nPt D (dM D)) (by omega)]
  refine ⟨fun z3 => ?_, fun z3 => no (fun y => by have := y.1.2; omega) w1 (fun c j hc _ _ _ _ => o1 c j hc)⟩
  refine X11_partsOf_ok hW' (RepM.of hR' (fun j => o1 83 j (by decide))) (by decide) (fun w3 o3 => ?_)
  have o13 : ∀ c j, c ≠ 82 → w3 c j = w c j := fun c j hc => by rw [o3 c j hc, o1 c j hc]
  rw [wr_nat (n := nPt D' (dM D')) (by omega)]
  refine ⟨fun z4 => ?_, fun z4 => no (fun y => by have := y.2.2; omega) w3 (fun c j hc _ _ _ _ => o13 c j hc)⟩
  have R3 : RepM w3 73 D := RepM.of hR (fun j => o13 73 j (by decide))
  have R3' : RepM w3 83 D' := RepM.of hR' (fun j => o13 83 j (by decide))
  have o1 : Whl D := ⟨by omega, by omega⟩
  have o2 : Whl D' := ⟨by omega, by omega⟩
  unfold likA at hQ
  rw [if_pos ⟨o1, o2⟩] at hQ
  rw [rd1, rd1, rd0, rd0, R3.2.1, R3'.2.1, R3.1, R3'.1, wr_nat (n := dM D) (by omega), wr_nat (n := dM D') (by omega), wr_nat (n := dN D) (by omega), wr_nat (n := dN D') (by omega)]
  refine ⟨ix_of (n := 1) rfl (by decide) (by decide), ix_of (n := 1) rfl (by decide) (by decide), fun z5 => ⟨ix_of (n := 0) rfl (by decide) (by decide), ix_of (n := 0) rfl (by decide) (by decide), fun z6 => ?_, fun z6 => ?_⟩, fun z5 => ?_⟩
  · have hm : dM D = dM D' := by omega
    rw [if_pos hm] at hQ
    have key : ∀ (m k c : Nat) (v : Wd), k ≤ 2 * dM D → 2 * dM D - k < m → c + nFit D D' (2 * dM D) = nFit D D' k + nFit D D' (2 * dM D + k) → offN w3 v → X11_likes_l69 83 Q (X11_likes_b114 83 Q) m (c : Int) (k : Int) v := by
      intro m
      induction m with
      | zero => intro k c v a1 a2; omega
      | succ m ih =>
        intro k c v a1 a2 hc ov
        have RA : ∀ v', offN w3 v' → RepM v' 73 D ∧ RepM v' 83 D' := fun v' o => ⟨RepM.of R3 (fun j => o 73 j (by omega) (by omega) (by omega) (by omega)), RepM.of R3' (fun j => o 83 j (by omega) (by omega) (by omega) (by omega))⟩
        have hl := nFit_le (D := D) (D' := D') k
        have hl2 := nFit_le (D := D) (D' := D') (2 * dM D + k)
        unfold X11_likes_l69
        rw [rd1, (RA v ov).1.2.1, show 2 * ((dM D : Nat) : Int) = ((2 * dM D : Nat) : Int) by omega, wr_nat (n := 2 * dM D) (by omega), wr_nat (n := k) (by omega)]
        refine ⟨ix_of (n := 1) rfl (by decide) (by decide), fun y => ?_, fun y => ?_⟩
        · have hk : k = 2 * dM D := by omega
          rw [hk, show 2 * dM D + 2 * dM D = 4 * dM D by omega] at hc
          have hl4 := nFit_le (D := D) (D' := D') (4 * dM D)
          unfold X11_likes_b114
          rw [wr_nat (by omega), show c = nFit D D' (4 * dM D) by omega]
          exact hQ v (fun c j c1 c2 c3 c4 c5 => by rw [ov c j c2 c3 c4 c5, o13 c j c1])
        · have hk : k < 2 * dM D := by omega
          have e1 : ms D k = k := by
            unfold ms stB stA
            rw [decide_eq_false (by omega), if_neg (by decide), if_pos (by omega)]
          have e2 : ms D (2 * dM D + k) = k + 20 := by
            unfold ms stB stA
            rw [decide_eq_true (by omega), if_pos rfl, if_neg (by omega)]
            omega
          have b93 : ∀ (c1 : Nat) (v' : Wd), offN w3 v' → c1 + nFit D D' (2 * dM D) = nFit D D' (k + 1) + nFit D D' (2 * dM D + k) → X11_likes_b93 83 Q (X11_likes_l69 83 Q (X11_likes_b114 83 Q) m) (X11_likes_b114 83 Q) (c1 : Int) (k : Int) v' := by
            intro c1 v' ov' hc1
            unfold X11_likes_b93
            refine X11_canSend_ok (2 * dM D + k) (by rw [e2]; omega) hW hW' hm o1.1 o1.2 o2.2 (RA v' ov').1 (RA v' ov').2 (by omega) (fun v2 o' => ⟨fun f => ⟨fun y => absurd y (by decide), fun _ => ?_⟩, fun f => ⟨fun _ => ?_, fun y => absurd (by decide) y⟩⟩)
            · rw [show (k : Int) + 1 = ((k + 1 : Nat) : Int) by omega, show (c1 : Int) + 1 = ((c1 + 1 : Nat) : Int) by omega]
              refine ih (k + 1) (c1 + 1) v2 (by omega) (by omega) ?_ (offN_trans ov' o')
              rw [show 2 * dM D + (k + 1) = (2 * dM D + k) + 1 by omega, nFit_y f]
              omega
            · rw [show (k : Int) + 1 = ((k + 1 : Nat) : Int) by omega]
              refine ih (k + 1) c1 v2 (by omega) (by omega) ?_ (offN_trans ov' o')
              rw [show 2 * dM D + (k + 1) = (2 * dM D + k) + 1 by omega, nFit_n f]
              omega
          refine X11_canSend_ok k (by rw [e1]) hW hW' hm o1.1 o1.2 o2.2 (RA v ov).1 (RA v ov).2 (by omega) (fun v' o' => ⟨fun f => ⟨fun y => absurd y (by decide), fun _ => ?_⟩, fun f => ⟨fun _ => ?_, fun y => absurd (by decide) y⟩⟩)
          · rw [show (c : Int) + 1 = ((c + 1 : Nat) : Int) by omega]
            exact b93 (c + 1) v' (offN_trans ov o') (by rw [nFit_y f]; omega)
          · exact b93 c v' (offN_trans ov o') (by rw [nFit_n f]; omega)
    exact ⟨2 * dM D + 1, key (2 * dM D + 1) 0 0 w3 (by omega) (by omega) (by show 0 + nFit D D' (2 * dM D) = 0 + nFit D D' (2 * dM D + 0); rfl) (fun _ _ _ _ _ _ => rfl)⟩
  · have hm : dM D = dM D' := by omega
    rw [if_pos hm, nFit_zero (fun k ⟨f, hF⟩ => z6 (by rw [fit_posts hW hW' hm o1.1 o1.2 o2.2 hF]))] at hQ
    exact hQ w3 (fun c j c1 _ _ _ _ => o13 c j c1)
  · rw [if_neg (by omega)] at hQ
    exact hQ w3 (fun c j c1 _ _ _ _ => o13 c j c1)
theorem X11_ownLikes_ok {Q : Int → Wd → Prop} {w : Wd} {D : Dw} (hW : WF D) (hR : RepM w 73 D) (hQ : ∀ w', (∀ c j, c ≠ 82 → c ≠ 83 → c ≠ 88 → c ≠ 89 → c ≠ 90 → ¬ (c = 65 ∧ j = 42) → w' c j = w c j) → Q (wr (likA D D)) w') : X11_ownLikes w Q := by
  have loop : ∀ (m k : Nat) (v : Wd), k ≤ 98 → 98 - k < m → (∀ c j, v c j = if c = 83 ∧ j < k then w 73 j else w c j) → X11_ownLikes_l2 Q (X11_ownLikes_b26 Q) m (k : Int) v := by
    intro m
    induction m with
    | zero => intro k v a1 a2; omega
    | succ m ih =>
      intro k v a1 a2 hv
      unfold X11_ownLikes_l2
      rw [wr_nat (n := k) (by omega), show wr 98 = 98 by decide]
      refine ⟨fun z => ?_, fun z => ⟨ix_of rfl (by omega) (by decide), ix_of rfl (by omega) (by decide), fun w1 e1 => ?_⟩⟩
      · have hk : k = 98 := by omega
        subst hk
        unfold X11_ownLikes_b26
        refine X11_likes_ok hW hW (RepM.of hR (fun j => by rw [hv, if_neg (by omega)])) (RepM.cp hW hR (fun j hj => by rw [hv, if_pos ⟨rfl, hj⟩])) (fun w' o' => hQ w' (fun c j c1 c2 c3 c4 c5 c6 => by rw [o' c j c1 c3 c4 c5 c6, hv, if_neg (by omega)]))
      · rw [wt_of rfl (by omega), rd_of rfl (by omega), hv, if_neg (by omega)] at e1
        rw [show (k : Int) + 1 = ((k + 1 : Nat) : Int) by omega]
        refine ih (k + 1) w1 (by omega) (by omega) (fun c j => ?_)
        rw [e1, up_ap, hv]
        grind
  exact ⟨99, loop 99 0 w (by omega) (by omega) (fun c j => by rw [if_neg (by omega)])⟩
theorem like_M {Q : Int → Wd → Prop} {w : Wd} {S : Sg} {x : Int} (hS : SOK S) (h : HM w S) (hx : wr x = x) (h0 : (∀ D, ¬ Hok S x D) → Q (-1) w) (h1 : ∀ D, Hok S x D → ∀ w', HM w' S → loM w w' → Q (wr (likA (sD S) D)) w') : X11_like x w Q := by
  obtain ⟨o1, o2, o3, o4, o5⟩ := id hS
  obtain ⟨g1, g2, g3, g4, g5, ⟨ea, g8, g9, g10⟩, g11, g12, g13⟩ := id h
  unfold X11_like
  refine X11_in_ok hx (by decide) (by decide) (fun z1 z2 => ⟨fun z => absurd z (by decide), fun _ => ?_⟩) (fun z => ⟨fun _ => h0 (fun D ⟨s, e, _⟩ => by omega), fun z => absurd rfl z⟩)
  obtain ⟨s, hs⟩ : ∃ s : Nat, x = s := ⟨x.toNat, by omega⟩
  have hs3 : s < 3 := by omega
  subst hs
  rw [rd_of rfl (by omega), g11 s hs3]
  refine ⟨ix_of rfl hs3 (by decide), ?_⟩
  cases hD : sS S s with
  | none =>
    refine ⟨fun _ => h0 (fun D ⟨s', e1, e2, e3⟩ => ?_), fun z => absurd rfl z⟩
    have : s' = s := by omega
    subst this
    rw [hD] at e3
    cases e3
  | some D =>
    refine ⟨fun z => absurd z (show ¬ wr 1 = 0 by decide), fun _ => ?_⟩
    have hWD := o4 s hs3 D hD
    have loop : ∀ (m k : Nat) (v : Wd), k ≤ 98 → 98 - k < m → (∀ c j, v c j = if c = 83 ∧ j < k then w 77 (98 * s + j) else w c j) → X11_like_l22 Q (X11_like_b51 Q) m (s : Int) (k : Int) v := by
      intro m
      induction m with
      | zero => intro k v a1 a2; omega
      | succ m ih =>
        intro k v a1 a2 hv
        unfold X11_like_l22
        rw [wr_nat (n := k) (by omega), show wr 98 = 98 by decide]
        refine ⟨fun z => ?_, fun z => ⟨ix_of (n := 98 * s + k) (by omega) (by omega) (by decide), ix_of rfl (by omega) (by decide), fun w1 e1 => ?_⟩⟩
        · have hk : k = 98 := by omega
          subst hk
          unfold X11_like_b51
          have hO : RepM (fun _ j => w 77 (98 * s + j)) 0 D := g12 s hs3 D hD
          refine X11_likes_ok o1 hWD (RepM.of g4 (fun j => by rw [hv, if_neg (by omega)])) (RepM.cp hWD hO (fun j hj => by rw [hv, if_pos ⟨rfl, hj⟩])) (fun w' o' => ?_)
          have off : ∀ c j, c ≠ 82 → c ≠ 83 → c ≠ 88 → c ≠ 89 → c ≠ 90 → ¬ (c = 65 ∧ j = 42) → w' c j = w c j := fun c j c1 c2 c3 c4 c5 c6 => by rw [o' c j c1 c3 c4 c5 c6, hv, if_neg (by omega)]
          exact h1 D ⟨s, rfl, hs3, hD⟩ w' (HM.same hS h (fun c j hc => off c j (by omega) (by omega) (by omega) (by omega) (by omega) (by omega))) (fun c j hc => off c j (by omega) (by omega) (by omega) (by omega) (by omega) (by omega))
        · rw [wt_of rfl (by omega), rd_of (n := 98 * s + k) (by omega) (by omega), hv, if_neg (by omega)] at e1
          rw [show (k : Int) + 1 = ((k + 1 : Nat) : Int) by omega]
          refine ih (k + 1) w1 (by omega) (by omega) (fun c j => ?_)
          rw [e1, up_ap, hv]
          grind
    exact ⟨99, loop 99 0 w (by omega) (by omega) (fun c j => by rw [if_neg (by omega)])⟩
