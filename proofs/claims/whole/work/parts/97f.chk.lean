/-! TEXTS: the class gathers posts and lines -/
def TCx (w : Wd) (T : Tx) (pl : Nat → Nat) : Prop := TOK T ∧ w 9 1 = (xN T : Int) ∧ ∀ j, j < xN T → w 10 j = (xK T j : Int) ∧ xK T j < 8 ∧ w 11 j = (pl j : Int) ∧ pl j ≤ 2000 ∧ (xK T j = 5 → w 12 j = (xA T j : Int) ∧ xA T j < 1099511627776) ∧ (xK T j = 6 → w 12 j = (xI T j : Int) ∧ xI T j < 10000)
theorem TCx.of {w w' : Wd} {T : Tx} {pl : Nat → Nat} (h : TCx w T pl) (e : ∀ c j, 9 ≤ c → c ≤ 12 → w' c j = w c j) : TCx w' T pl := by
  refine ⟨h.1, by rw [e _ _ (by decide) (by decide)]; exact h.2.1, fun j hj => ?_⟩
  rw [e _ _ (by decide) (by decide), e _ _ (by decide) (by decide), e _ _ (by decide) (by decide)]
  exact h.2.2 j hj
def PnX (w : Wd) (T : Tx) : Prop := w 14 2 = (nP T : Int) ∧ ∀ i, i < nP T → w 15 i = (pA T i : Int)
def LnX (w : Wd) (T : Tx) : Prop := w 14 3 = (nL T : Int) ∧ ∀ i, i < 2 * nL T → w 16 i = enA T i
section GATH
variable {w : Wd} {T : Tx} {pl : Nat → Nat}
theorem X4_gatherPosts_ok {Q : Wd → Prop} (h : TCx w T pl) (hQ : ∀ w', PnX w' T → (∀ c j, c ≠ 15 → ¬ (c = 14 ∧ j = 2) → w' c j = w c j) → Q w') : X4_gatherPosts w Q := by
  have hO := h.1
  obtain ⟨n4, p6, l10⟩ := hO.le
  unfold X4_gatherPosts
  intro w1 e1
  have loop : ∀ (m t : Nat) (v : Wd), t ≤ xN T → xN T - t < m → v 14 2 = (npc (xK T) t : Int) → (∀ i, i < npc (xK T) t → v 15 i = (pA T i : Int)) → (∀ c j, c ≠ 15 → ¬ (c = 14 ∧ j = 2) → v c j = w c j) → X4_gatherPosts_l7 Q (X4_gatherPosts_b69 Q) m (t : Int) v := by
    intro m
    induction m with
    | zero => intro t v _ q; omega
    | succ m ih =>
      intro t v ht hm h2 h15 o
      have hv : TCx v T pl := h.of (fun c j _ _ => o c j (by omega) (by omega))
      unfold X4_gatherPosts_l7
      rw [hv.2.1, show (t : Int) + 1 = ((t + 1 : Nat) : Int) by omega, wr_nat (n := xN T) (by omega), wr_nat (n := t + 1) (by omega)]
      refine ⟨fun z => ?_, fun z => ⟨ix_of rfl (by omega) (by decide), ?_⟩⟩
      · unfold X4_gatherPosts_b69
        have : nP T = npc (xK T) t := by
          unfold nP
          by_cases y : t = xN T
          · rw [y]
          · rw [show xN T = t + 1 by omega, npc_s, if_neg (fun k => by have := hO.post (t := t) (by omega) k; omega)]
            omega
        exact hQ v ⟨by rw [this]; exact h2, by rw [this]; exact h15⟩ o
      · obtain ⟨k1, k2, k3, k4, k5, k6⟩ := hv.2.2 t (by omega)
        have hb := ok_bd (t := t) (fun j hj => hO.1 j (by omega))
        rw [rd_of rfl (by omega), k1, wr_nat (n := xK T t) (by omega), show wr 1 = 1 by decide]
        refine ⟨fun y => ?_, fun y => ?_⟩
        · have y : xK T t = 1 := by omega
          have h6 := (hO.1 t (by omega)).2.2.1
          obtain ⟨q1, q2, q3⟩ := hO.post (t := t) (by omega) y
          rw [h2, wr_nat (n := npc (xK T) t) (by omega), show wr 6 = 6 by decide]
          refine ⟨fun k => absurd ⟨y, by omega⟩ h6, fun k => ⟨ix_of rfl (by omega) (by decide), ix_of rfl (by omega) (by decide), fun v2 e2 v3 e3 => ?_⟩⟩
          rw [wt_of rfl (by omega), rd_of rfl (by omega), ((hv.2.2 (t + 1) (by omega)).2.2.2.2.1 q2).1] at e2
          have h142 : v2 14 2 = (npc (xK T) t : Int) := by rw [e2, up_ap, if_neg (by omega)]; exact h2
          rw [h142] at e3
          have o3 : ∀ c j, c ≠ 15 → ¬ (c = 14 ∧ j = 2) → v3 c j = v c j := fun c j a b => by rw [e3, up_ap, if_neg b, e2, up_ap, if_neg (by omega)]
          have es : npc (xK T) (t + 1) = npc (xK T) t + 1 := by rw [npc_s, if_pos y]
          refine ih (t + 1) v3 (by omega) (by omega) (by rw [es, e3, up_eq]; omega) (fun i hi => ?_) (fun c j a b => by rw [o3 c j a b, o c j a b])
          rw [e3, up_ap, if_neg (by omega), e2, up_ap]
          by_cases yi : i = npc (xK T) t
          · rw [if_pos ⟨rfl, yi⟩, yi]
            unfold pA
            rw [(pT_at (T := T) (by omega) y).1]
          · rw [if_neg (by omega)]; exact h15 i (by omega)
        · have es : npc (xK T) (t + 1) = npc (xK T) t := by rw [npc_s, if_neg (by omega)]; omega
          exact ih (t + 1) v (by omega) (by omega) (by rw [es]; exact h2) (by rw [es]; exact h15) o
  refine ⟨xN T + 1, loop (xN T + 1) 0 w1 (by omega) (by omega) (by rw [e1, up_eq]; rfl) (fun i hi => absurd hi (Nat.not_lt_zero i)) (fun c j a b => by rw [e1, up_ap, if_neg b])⟩
theorem pA_lt (h : TCx w T pl) {i : Nat} (hi : i < nP T) : pA T i < 1099511627776 := by
  obtain ⟨q1, q2, q3⟩ := pT_ok hi
  obtain ⟨p1, p2, p3⟩ := h.1.post q1 q2
  exact ((h.2.2 (pT T i + 1) (by omega)).2.2.2.2.1 p2).2
theorem X4_postNamed_ok {Q : Int → Wd → Prop} {x : Int} (a : Nat) (hx : x = (a : Int)) (ha : a < 1099511627776) (h : TCx w T pl) (hP : PnX w T) (hQ : Q (nam T a) w) : X4_postNamed x w Q := by
  subst hx
  have hO := h.1
  obtain ⟨n4, p6, l10⟩ := hO.le
  have p6 : nP T ≤ 6 := p6
  unfold X4_postNamed
  have loop : ∀ (m i : Nat), i ≤ nP T → nP T - i < m → (∀ j, j < i → pA T j ≠ a) → X4_postNamed_l2 Q (X4_postNamed_b21 Q) (X4_postNamed_b29 Q) m (a : Int) (i : Int) w := by
    intro m
    induction m with
    | zero => intro i _ q; omega
    | succ m ih =>
      intro i hi hm hj
      unfold X4_postNamed_l2
      rw [hP.1, wr_nat (n := nP T) (by omega), wr_nat (n := i) (by omega)]
      refine ⟨fun z => ?_, fun z => ⟨ix_of rfl (by omega) (by decide), ?_⟩⟩
      · unfold X4_postNamed_b29
        have : nam T a = -1 := fst_no (fun q hq => hj q (by omega))
        rw [this] at hQ
        exact hQ
      · have hb := pA_lt h (i := i) (by omega)
        rw [rd_of rfl (by omega), hP.2 i (by omega)]
        have hc := (lcm_i (a := (pA T i : Int)) (b := (a : Int)) (wl_nat (by omega)) (wl_nat (by omega))).2.2.1
        rw [hc]
        refine ⟨fun y => ?_, fun y => ih (i + 1) (by omega) (by omega) (fun q hq => ?_)⟩
        · unfold X4_postNamed_b21
          have : nam T a = (i : Int) := fst_at (by omega) (by omega) hj
          rw [wr_nat (n := i) (by omega), ← this]
          exact hQ
        · by_cases e : q = i
          · rw [e]; omega
          · exact hj q (by omega)
  exact ⟨nP T + 1, loop (nP T + 1) 0 (by omega) (by omega) (fun j hj => absurd hj (Nat.not_lt_zero j))⟩
theorem dl_r4 : ∀ s : Fin 9, ∀ k : Fin 8, dlt s.val k.val ≠ 4 ∨ (s.val = 3 ∧ k.val = 5) := by decide
theorem dl_r3 : ∀ s : Fin 9, ∀ k : Fin 8, dlt s.val k.val ≠ 3 ∨ (s.val = 2 ∧ k.val = 5) := by decide
theorem dl_r2 : ∀ s : Fin 9, ∀ k : Fin 8, dlt s.val k.val ≠ 2 ∨ (s.val = 0 ∧ k.val = 2) := by decide
theorem dl_k4 : ∀ s : Fin 9, dlt s.val 4 = 9 ∨ s.val = 4 := by decide
/-- the word twisted stands three tokens behind its line -/
theorem TOK.tw (h : TOK T) (hk8 : ∀ j, j < xN T → xK T j < 8) {t : Nat} (ht : t < xN T) (hk : xK T t = 4) : 3 ≤ t ∧ xK T (t - 3) = 2 ∧ nlc (xK T) t = nlc (xK T) (t - 3) + 1 := by
  have s8 : ∀ j, j ≤ xN T → stg (xK T) j ≤ 8 := fun j hj => (ok_bd (t := j) (fun q hq => h.1 q (by omega))).2.1
  have e4 : stg (xK T) t = 4 := by
    have := (h.1 t ht).1
    rw [hk] at this
    rcases dl_k4 ⟨stg (xK T) t, by have := s8 t (by omega); omega⟩ with e | e
    · exact absurd e this
    · exact e
  match t, ht, e4 with
  | 0, _, e4 => exact absurd e4 (by show ¬ (0 : Nat) = 4; decide)
  | 1, ht, e4 =>
    have e4 : dlt 0 (xK T 0) = 4 := e4
    rcases dl_r4 ⟨0, by omega⟩ ⟨xK T 0, hk8 0 (by omega)⟩ with e | e
    · exact absurd e4 e
    · exact absurd e.1 (by show ¬ (0 : Nat) = 3; decide)
  | t + 2, ht, e4 =>
    have a1 : stg (xK T) (t + 1) = 3 ∧ xK T (t + 1) = 5 := by
      rcases dl_r4 ⟨stg (xK T) (t + 1), by have := s8 (t + 1) (by omega); omega⟩ ⟨xK T (t + 1), hk8 (t + 1) (by omega)⟩ with e | e
      · exact absurd e4 e
      · exact e
    have a2 : stg (xK T) t = 2 ∧ xK T t = 5 := by
      rcases dl_r3 ⟨stg (xK T) t, by have := s8 t (by omega); omega⟩ ⟨xK T t, hk8 t (by omega)⟩ with e | e
      · exact absurd a1.1 e
      · exact e
    match t, ht, a1, a2 with
    | 0, _, _, a2 => exact absurd a2.1 (by show ¬ (0 : Nat) = 2; decide)
    | t + 1, ht, a1, a2 =>
      have a3 : stg (xK T) t = 0 ∧ xK T t = 2 := by
        rcases dl_r2 ⟨stg (xK T) t, by have := s8 t (by omega); omega⟩ ⟨xK T t, hk8 t (by omega)⟩ with e | e
        · exact absurd a2.1 e
        · exact e
      rw [show t + 1 + 2 - 3 = t by omega]
      refine ⟨by omega, a3.2, ?_⟩
      show nlc (xK T) (t + 1 + 1 + 1) = _
      rw [nlc_s, nlc_s, nlc_s, a3.2, a2.2, a1.2]
      simp
theorem enA_bd (T : Tx) (h6 : nP T ≤ 6) (i : Nat) : -1 ≤ enA T i ∧ enA T i < 6 := by
  unfold enA
  rcases nam_ok (T := T) (xA T (lT T (i / 2) + 1 + i % 2)) with e | ⟨v, e1, e2, -⟩
  · omega
  · omega
/-- which lines are twisted -/
def TwX (w : Wd) (T : Tx) (u : Nat) : Prop := ∃ t : Nat, w 14 4 = (t : Int) ∧ t < 1024 ∧ ∀ e, t.testBit e = decide (e < nL T ∧ lT T e + 3 < u ∧ xK T (lT T e + 3) = 4)
def offG (w w' : Wd) : Prop := ∀ c j, c ≠ 16 → ¬ (c = 14 ∧ (j = 3 ∨ j = 4)) → w' c j = w c j
theorem X4_gatherLines_ok {Q : Wd → Prop} (h : TCx w T pl) (hP : PnX w T) (hQ : ∀ w', LnX w' T → TwX w' T (xN T) → offG w w' → Q w') : X4_gatherLines w Q := by
  have hO := h.1
  obtain ⟨n4, p6, l10⟩ := hO.le
  have p6 : nP T ≤ 6 := p6
  have l10 : nL T ≤ 10 := l10
  have hk8 : ∀ j, j < xN T → xK T j < 8 := fun j hj => (h.2.2 j hj).2.1
  unfold X4_gatherLines
  intro w1 e1 w2 e2
  have loop : ∀ (m t : Nat) (v : Wd), t ≤ xN T → xN T - t < m → v 14 3 = (nlc (xK T) t : Int) → (∀ i, i < 2 * nlc (xK T) t → v 16 i = enA T i) → TwX v T t → offG w v → X4_gatherLines_l12 Q (X4_gatherLines_b150 Q) m (t : Int) v := by
    intro m
    induction m with
    | zero => intro t v _ q; omega
    | succ m ih =>
      intro t v ht hm h3 h16 hT o
      have hv : TCx v T pl := h.of (fun c j _ _ => o c j (by omega) (by omega))
      have hvP : PnX v T := ⟨by rw [o _ _ (by decide) (by omega)]; exact hP.1, fun i hi => by rw [o _ _ (by decide) (by omega)]; exact hP.2 i hi⟩
      unfold X4_gatherLines_l12
      rw [hv.2.1, wr_nat (n := xN T) (by omega), wr_nat (n := t) (by omega)]
      refine ⟨fun z => ?_, fun z => ⟨ix_of rfl (by omega) (by decide), ?_⟩⟩
      · have e : t = xN T := by omega
        unfold X4_gatherLines_b150
        rw [e] at hT h3 h16
        exact hQ v ⟨h3, h16⟩ hT o
      · have ht' : t < xN T := by omega
        obtain ⟨k1, k2, k3, k4, k5, k6⟩ := hv.2.2 t ht'
        have hb := ok_bd (t := t) (fun j hj => hO.1 j (by omega))
        have tail : xK T t ≠ 2 → X4_gatherLines_b110 Q (X4_gatherLines_l12 Q (X4_gatherLines_b150 Q) m) (X4_gatherLines_b150 Q) (t : Int) v := fun y => by
          have es : nlc (xK T) (t + 1) = nlc (xK T) t := by rw [nlc_s, if_neg y]; omega
          unfold X4_gatherLines_b110
          rw [rd_of rfl (by omega), k1, wr_nat (n := xK T t) (by omega), show wr 4 = 4 by decide, h3, wr_nat (n := nlc (xK T) t) (by omega), show (t : Int) + 1 = ((t + 1 : Nat) : Int) by omega]
          refine ⟨ix_of rfl (by omega) (by decide), fun y4 => ?_, fun y4 => ?_⟩
          · have y4 : xK T t = 4 := by omega
            obtain ⟨q1, q2, q3⟩ := hO.tw hk8 ht' y4
            obtain ⟨r1, r2⟩ := lT_at (T := T) (t := t - 3) (by omega) q2
            refine ⟨fun k => by omega, fun _ v3 e3 => ?_⟩
            obtain ⟨tw, w1, w2, w3⟩ := hT
            rw [w1, show (nlc (xK T) t : Int) - 1 = ((nlc (xK T) (t - 3) : Nat) : Int) by omega, isl1 (by omega), ior_nat (by omega) (by have : 2 ^ nlc (xK T) (t - 3) ≤ 2 ^ 10 := Nat.pow_le_pow_right (by decide) (by omega); omega)] at e3
            have o3 : ∀ c j, ¬ (c = 14 ∧ j = 4) → v3 c j = v c j := fun c j a => by rw [e3, up_ap, if_neg a]
            have hp : 2 ^ nlc (xK T) (t - 3) < 2 ^ 10 := Nat.pow_lt_pow_right (by decide) (by omega)
            refine ih (t + 1) v3 (by omega) (by omega) (by rw [es, o3 _ _ (by omega)]; exact h3) (fun i hi => by rw [o3 _ _ (by omega)]; exact h16 i (by omega)) ⟨_, by rw [e3, up_eq], Nat.or_lt_two_pow (n := 10) w2 hp, fun e => ?_⟩ (fun c j a b => by rw [o3 c j (by omega), o c j a b])
            rw [Nat.testBit_or, w3, Nat.testBit_two_pow]
            by_cases ye : nlc (xK T) (t - 3) = e
            · rw [← ye]
              simp only [decide_true, Bool.or_true]
              symm
              refine decide_eq_true ⟨r2, by rw [r1]; omega, by rw [r1, show t - 3 + 3 = t by omega]; exact y4⟩
            · rw [decide_eq_false ye, Bool.or_false]
              refine decide_eq_decide.mpr ⟨fun a => ⟨a.1, by omega, a.2.2⟩, fun a => ⟨a.1, ?_, a.2.2⟩⟩
              have : lT T e + 3 ≠ t := fun k => by
                have := (lT_ok a.1).2.2
                rw [show lT T e = t - 3 by omega] at this
                exact ye this
              omega
          · refine ih (t + 1) v (by omega) (by omega) (by rw [es]; exact h3) (by rw [es]; exact h16) ?_ o
            obtain ⟨tw, w1, w2, w3⟩ := hT
            refine ⟨tw, w1, w2, fun e => ?_⟩
            rw [w3]
            refine decide_eq_decide.mpr ⟨fun a => ⟨a.1, by omega, a.2.2⟩, fun a => ⟨a.1, ?_, a.2.2⟩⟩
            have : lT T e + 3 ≠ t := fun k => by have := a.2.2; rw [k] at this; omega
            omega
        rw [rd_of rfl (by omega), k1, wr_nat (n := xK T t) (by omega), show wr 2 = 2 by decide]
        refine ⟨fun y => ?_, fun y => tail (by omega)⟩
        have y : xK T t = 2 := by omega
        have h6 := (hO.1 t ht').2.2.2
        obtain ⟨q1, q2, q3, q4⟩ := hO.line ht' y
        obtain ⟨r1, r2⟩ := lT_at (T := T) ht' y
        rw [show (t : Int) + 2 = ((t + 2 : Nat) : Int) by omega, show (t : Int) + 1 = ((t + 1 : Nat) : Int) by omega, wr_nat (n := t + 2) (by omega)]
        refine ⟨fun k => by omega, fun _ => ?_⟩
        rw [h3, wr_nat (n := nlc (xK T) t) (by omega), show wr 10 = 10 by decide]
        refine ⟨fun k => absurd ⟨y, by omega⟩ h6, fun k => ⟨ix_of rfl (by omega) (by decide), ?_⟩⟩
        have a1 := (hv.2.2 (t + 1) (by omega)).2.2.2.2.1 q2
        have a2 := (hv.2.2 (t + 2) (by omega)).2.2.2.2.1 q3
        rw [rd_of rfl (by omega)]
        have m0 : (2 * nlc (xK T) t) / 2 = nlc (xK T) t := by omega
        have m1 : (2 * nlc (xK T) t) % 2 = 0 := by omega
        have m2 : (2 * nlc (xK T) t + 1) / 2 = nlc (xK T) t := by omega
        have m3 : (2 * nlc (xK T) t + 1) % 2 = 1 := by omega
        have en0 : enA T (2 * nlc (xK T) t) = nam T (xA T (t + 1)) := by unfold enA; rw [m0, m1, r1]
        have en1 : enA T (2 * nlc (xK T) t + 1) = nam T (xA T (t + 2)) := by unfold enA; rw [m2, m3, r1]
        refine X4_postNamed_ok (xA T (t + 1)) a1.1 a1.2 hv hvP ⟨ix_of (n := 2 * nlc (xK T) t) (by omega) (by omega) (by decide), fun v6 e6 => ?_⟩
        rw [wt_of (n := 2 * nlc (xK T) t) (by omega) (by omega)] at e6
        have o6 : ∀ c j, c ≠ 16 → v6 c j = v c j := fun c j a => by rw [e6, up_ap, if_neg (by omega)]
        have hv6 : TCx v6 T pl := hv.of (fun c j _ _ => o6 c j (by omega))
        have hP6 : PnX v6 T := ⟨by rw [o6 _ _ (by decide)]; exact hvP.1, fun i hi => by rw [o6 _ _ (by decide)]; exact hvP.2 i hi⟩
        rw [rd_of rfl (by omega), o6 12 _ (by decide), o6 14 3 (by decide), h3]
        refine ⟨ix_of rfl (by omega) (by decide), X4_postNamed_ok (xA T (t + 2)) a2.1 a2.2 hv6 hP6 ⟨ix_of (n := 2 * nlc (xK T) t + 1) (by omega) (by omega) (by decide), fun v9 e9 v10 e10 => ?_⟩⟩
        rw [wt_of (n := 2 * nlc (xK T) t + 1) (by omega) (by omega)] at e9
        have h93 : v9 14 3 = (nlc (xK T) t : Int) := by rw [e9, up_ap, if_neg (by omega), o6 _ _ (by decide)]; exact h3
        rw [h93] at e10
        have o10 : ∀ c j, c ≠ 16 → ¬ (c = 14 ∧ j = 3) → v10 c j = v c j := fun c j a b => by rw [e10, up_ap, if_neg b, e9, up_ap, if_neg (by omega), o6 c j a]
        have es : nlc (xK T) (t + 1) = nlc (xK T) t + 1 := by rw [nlc_s, if_pos y]
        refine ih (t + 1) v10 (by omega) (by omega) (by rw [es, e10, up_eq]; omega) (fun i hi => ?_) ?_ (fun c j a b => by rw [o10 c j a (by omega), o c j a b])
        · rw [e10, up_ap, if_neg (by omega), e9, up_ap]
          by_cases y1 : i = 2 * nlc (xK T) t + 1
          · rw [if_pos ⟨rfl, y1⟩, y1, en1]
          · rw [if_neg (by omega), e6, up_ap]
            by_cases y0 : i = 2 * nlc (xK T) t
            · rw [if_pos ⟨rfl, y0⟩, y0, en0]
            · rw [if_neg (by omega)]; exact h16 i (by omega)
        · obtain ⟨tw, w1, w2, w3⟩ := hT
          refine ⟨tw, by rw [o10 _ _ (by decide) (by decide)]; exact w1, w2, fun e => ?_⟩
          rw [w3]
          refine decide_eq_decide.mpr ⟨fun a => ⟨a.1, by omega, a.2.2⟩, fun a => ⟨a.1, ?_, a.2.2⟩⟩
          have : lT T e + 3 ≠ t := fun k => by have := a.2.2; rw [k] at this; omega
          omega
  refine ⟨xN T + 1, loop (xN T + 1) 0 w2 (by omega) (by omega) ?_ (fun i hi => absurd hi (Nat.not_lt_zero i)) ⟨0, by rw [e2, up_eq]; rfl, by decide, fun e => ?_⟩ (fun c j a b => by rw [e2, up_ap, if_neg (by omega), e1, up_ap, if_neg (by omega)])⟩
  · rw [e2, up_ap, if_neg (by omega), e1, up_eq]; rfl
  · rw [Nat.zero_testBit]
    symm
    exact decide_eq_false (fun k => by omega)
/-- the lines of a post -/
theorem X4_linesOf_ok {Q : Int → Wd → Prop} {x : Int} (v : Nat) (hx : x = (v : Int)) (hv : v < 6) (h6 : nP T ≤ 6) (l10 : nL T ≤ 10) (h : LnX w T) (hQ : ∀ M : Nat, M < 1024 → (∀ e, M.testBit e = true ↔ onL T v e) → Q (M : Int) w) : X4_linesOf x w Q := by
  subst hx
  unfold X4_linesOf
  have loop : ∀ (m i M : Nat), i ≤ 2 * nL T → 2 * nL T - i < m → M < 1024 → (∀ e, M.testBit e = true ↔ e < nL T ∧ (2 * e < i ∧ enA T (2 * e) = (v : Int) ∨ 2 * e + 1 < i ∧ enA T (2 * e + 1) = (v : Int))) → X4_linesOf_l4 Q (X4_linesOf_b38 Q) m (v : Int) (M : Int) (i : Int) w := by
    intro m
    induction m with
    | zero => intro i M _ q; omega
    | succ m ih =>
      intro i M hi hm hM hb
      unfold X4_linesOf_l4
      rw [h.1, show (2 : Int) * (nL T : Int) = ((2 * nL T : Nat) : Int) by omega, wr_nat (n := 2 * nL T) (by omega), wr_nat (n := i) (by omega)]
      refine ⟨fun z => ?_, fun z => ⟨ix_of rfl (by omega) (by decide), ?_⟩⟩
      · unfold X4_linesOf_b38
        rw [wr_nat (n := M) (by omega)]
        refine hQ M hM (fun e => ?_)
        rw [hb]
        unfold onL
        constructor
        · intro a; exact ⟨a.1, by omega⟩
        · intro a; exact ⟨a.1, by omega⟩
      · have eb := enA_bd T h6 i
        rw [rd_of rfl (by omega), h.2 i (by omega), wr_id (x := enA T i) (by omega) (by omega), wr_nat (n := v) (by omega), show (i : Int) + 1 = ((i + 1 : Nat) : Int) by omega]
        refine ⟨fun y y1 e1 => ?_, fun y => ih (i + 1) M (by omega) (by omega) hM (fun e => ?_)⟩
        · have : isr (i : Int) 1 = ((i / 2 : Nat) : Int) := isr_nat (a := i) (k := 1) (by decide) (by omega)
          have hp : 2 ^ (i / 2) < 2 ^ 10 := Nat.pow_lt_pow_right (by decide) (by omega)
          rw [this, isl1 (by omega), ior_nat (by omega) (by omega)] at e1
          rw [e1]
          refine ih (i + 1) _ (by omega) (by omega) (Nat.or_lt_two_pow (n := 10) hM hp) (fun e => ?_)
          rw [Nat.testBit_or, Bool.or_eq_true, hb, Nat.testBit_two_pow, decide_eq_true_iff]
          constructor
          · rintro (⟨a, b⟩ | a)
            · exact ⟨a, by omega⟩
            · subst a
              refine ⟨by omega, ?_⟩
              by_cases q : i % 2 = 0
              · exact Or.inl ⟨by omega, by rw [show 2 * (i / 2) = i by omega]; exact y⟩
              · exact Or.inr ⟨by omega, by rw [show 2 * (i / 2) + 1 = i by omega]; exact y⟩
          · rintro ⟨a, b⟩
            by_cases q : i / 2 = e
            · exact Or.inr q
            · exact Or.inl ⟨a, by omega⟩
        · rw [hb]
          constructor
          · rintro ⟨a, b⟩; exact ⟨a, by omega⟩
          · rintro ⟨a, b | b⟩
            · refine ⟨a, Or.inl ⟨?_, b.2⟩⟩
              have : 2 * e ≠ i := fun k => y (by rw [← k]; exact b.2)
              omega
            · refine ⟨a, Or.inr ⟨?_, b.2⟩⟩
              have : 2 * e + 1 ≠ i := fun k => y (by rw [← k]; exact b.2)
              omega
  exact ⟨2 * nL T + 1, loop (2 * nL T + 1) 0 0 (by omega) (by omega) (by decide) (fun e => by rw [Nat.zero_testBit]; constructor <;> intro a <;> first | exact absurd a (by decide) | omega)⟩
end GATH
