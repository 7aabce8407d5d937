/-! TEXTS: the model's meaning: posts and lines -/
def TCm (w : Wd) (T : Tx) (nv pl : Nat → Nat) : Prop := TOK T ∧ w 65 10 = ((xN T + 1 : Nat) : Int) ∧ w 65 12 = 0 ∧ w 68 (xN T) = 0 ∧ (∀ j, j < xN T → w 68 j = (mkd (xK T j) : Int) ∧ xK T j < 8 ∧ w 69 j = (pl j : Int) ∧ pl j ≤ 2000 ∧ (xK T j = 5 → w 71 j = (nv j : Int) ∧ nv j < 1099511627776) ∧ (xK T j = 6 → w 70 j = (xI T j : Int) ∧ xI T j < 10000)) ∧ (∀ i j, i < xN T → j < xN T → xK T i = 5 → xK T j = 5 → (nv i = nv j ↔ xA T i = xA T j)) ∧ (∀ i j, i < j → j < xN T → pl i < pl j)
def offNm (w w' : Wd) : Prop := ∀ c j, ¬ (c = 65 ∧ (j = 14 ∨ j = 15 ∨ j = 20 ∨ j = 21)) → c ≠ 74 → c ≠ 75 → w' c j = w c j
theorem offNm_trans {a b c : Wd} (h : offNm a b) (g : offNm b c) : offNm a c := fun x j h1 h2 h3 => by rw [g x j h1 h2 h3, h x j h1 h2 h3]
theorem TCm.of {w w' : Wd} {T : Tx} {nv pl : Nat → Nat} (h : TCm w T nv pl) (e : offNm w w') : TCm w' T nv pl := by
  obtain ⟨h1, h2, h3, h4, h5, h6⟩ := h
  refine ⟨h1, by rw [e _ _ (by decide) (by decide) (by decide)]; exact h2, by rw [e _ _ (by decide) (by decide) (by decide)]; exact h3, by rw [e _ _ (by omega) (by decide) (by decide)]; exact h4, fun j hj => ?_, h6⟩
  rw [e _ _ (by omega) (by decide) (by decide), e _ _ (by omega) (by decide) (by decide), e _ _ (by omega) (by decide) (by decide), e _ _ (by omega) (by decide) (by decide)]
  exact h5 j hj
/-- the worst fault of a set -/
def Wst (w : Wd) (pl : Nat → Nat) (n : Nat) (S : Nat → Nat → Prop) : Prop := (w 65 14 = 0 ∧ ∀ j k, ¬ S j k) ∨ ∃ j k, S j k ∧ (∀ j' k', S j' k' → j < j' ∨ (j = j' ∧ k ≤ k')) ∧ w 65 14 = (k : Int) ∧ w 65 15 = (pl j : Int) ∧ 3 ≤ k ∧ k ≤ 6 ∧ j < n
theorem Wst.congr {w : Wd} {pl : Nat → Nat} {n : Nat} {S S' : Nat → Nat → Prop} (h : Wst w pl n S) (e : ∀ j k, S j k ↔ S' j k) : Wst w pl n S' := by
  rcases h with ⟨h1, h2⟩ | ⟨j, k, h1, h2, h3⟩
  · exact Or.inl ⟨h1, fun j k y => h2 j k ((e j k).mpr y)⟩
  · exact Or.inr ⟨j, k, (e j k).mp h1, fun j' k' y => h2 j' k' ((e j' k').mpr y), h3⟩
theorem Wst.of {w w' : Wd} {pl : Nat → Nat} {n : Nat} {S : Nat → Nat → Prop} (h : Wst w pl n S) (e : w' 65 14 = w 65 14) (e' : w' 65 15 = w 65 15) : Wst w' pl n S := by
  unfold Wst
  rw [e, e']
  exact h
theorem Wst.wr {w : Wd} {pl : Nat → Nat} {n : Nat} {S : Nat → Nat → Prop} (h : Wst w pl n S) : wr (w 65 14) = w 65 14 ∧ 0 ≤ w 65 14 := by
  rcases h with ⟨h1, -⟩ | ⟨j, k, -, -, h3, -, -, h4, -⟩
  · rw [h1]; decide
  · rw [h3]; exact ⟨wr_nat (by omega), by omega⟩
theorem Wst.z {w : Wd} {pl : Nat → Nat} {n : Nat} {S : Nat → Nat → Prop} (h : Wst w pl n S) : w 65 14 = 0 ↔ ∀ j k, ¬ S j k := by
  rcases h with ⟨h1, h2⟩ | ⟨j, k, h1, -, h3, -, h4, -⟩
  · exact ⟨fun _ => h2, fun _ => h1⟩
  · exact ⟨fun y => by omega, fun y => absurd h1 (y j k)⟩
section MEAN
variable {w : Wd} {T : Tx} {nv pl : Nat → Nat} {t : Nat} {Q : Wd → Prop} {S : Nat → Nat → Prop}
theorem X11_wrong_ok {x y : Int} (k j : Nat) (hx : x = (k : Int)) (hy : y = (j : Int)) (h : TCm w T nv pl) (hk : 3 ≤ k ∧ k ≤ 6) (hj : j < xN T) (hS : Wst w pl (xN T) S) (hQ : ∀ w', Wst w' pl (xN T) (fun a b => S a b ∨ (a = j ∧ b = k)) → (∀ c i, ¬ (c = 65 ∧ (i = 14 ∨ i = 15)) → w' c i = w c i) → Q w') : X11_wrong x y w Q := by
  subst hx; subst hy
  obtain ⟨h1, h2, h3, h4, h5, h6, h7⟩ := h
  have n4 := h1.le.1
  obtain ⟨k1, k2, k3, k4, -⟩ := h5 j hj
  unfold X11_wrong
  refine ⟨ix_of rfl (by omega) (by decide), fun y1 e1 => ?_⟩
  rw [rd_of rfl (by omega), k3] at e1
  subst e1
  rw [h3]
  have set : ∀ (w2 w3 : Wd), w2 = up w 65 14 (k : Int) → w3 = up w2 65 15 (pl j : Int) → (∀ a b, S a b → j < a ∨ (j = a ∧ k ≤ b)) → Q w3 := fun w2 w3 e2 e3 hm => by
    refine hQ w3 (Or.inr ⟨j, k, Or.inr ⟨rfl, rfl⟩, fun a b y => ?_, by rw [e3, up_ap, if_neg (by omega), e2, up_eq], by rw [e3, up_eq], hk.1, hk.2, hj⟩) (fun c i hc => by rw [e3, up_ap, if_neg (by omega), e2, up_ap, if_neg (by omega)])
    rcases y with y | y
    · exact hm a b y
    · omega
  refine ⟨fun k => absurd k (by decide), fun _ => ?_⟩
  have hw := hS.wr
  rw [hw.1]
  rcases hS with ⟨g1, g2⟩ | ⟨j0, k0, g1, g2, g3, g4, g5, g6, g7⟩
  · refine ⟨fun _ w2 e2 w3 e3 => set w2 w3 e2 e3 (fun a b y => absurd y (g2 a b)), fun y => absurd g1 y⟩
  · obtain ⟨-, -, -, m4, -⟩ := h5 j0 g7
    have mono : (pl j0 < pl j ↔ j0 < j) ∧ (pl j = pl j0 ↔ j = j0) := by
      by_cases a : j0 < j
      · have := h7 j0 j a hj; omega
      · by_cases b : j < j0
        · have := h7 j j0 b g7; omega
        · rw [show j0 = j by omega]; omega
    have keep : (j0 < j ∨ (j0 = j ∧ k0 ≤ k)) → Q w := fun y => by
      refine hQ w (Or.inr ⟨j0, k0, Or.inl g1, fun a b z => ?_, g3, g4, g5, g6, g7⟩) (fun c i _ => rfl)
      rcases z with z | z
      · exact g2 a b z
      · omega
    rw [g3, g4, wr_nat (n := pl j) (by omega), wr_nat (n := pl j0) (by omega), wr_nat (n := k) (by omega)]
    refine ⟨fun y => by omega, fun _ => ⟨fun y => keep (by omega), fun y => ⟨fun z => ⟨fun q w2 e2 w3 e3 => set w2 w3 e2 e3 (fun a b r => ?_), fun q => keep (by omega)⟩, fun z w2 e2 w3 e3 => set w2 w3 e2 e3 (fun a b r => ?_)⟩⟩⟩
    · have := g2 a b r; omega
    · have := g2 a b r; omega
/-- names so far -/
def NmM (w : Wd) (T : Tx) (nv : Nat → Nat) (c : Nat) : Prop := w 65 20 = (c : Int) ∧ c ≤ nP T ∧ ∀ i, i < c → w 75 i = (nv (pT T i + 1) : Int)
theorem X11_named_ok {Q : Int → Wd → Prop} {x : Int} {c : Nat} (j : Nat) (hx : x = (nv j : Int)) (hj : j < xN T) (hk : xK T j = 5) (h : TCm w T nv pl) (hN : NmM w T nv c) (hQ : Q (fst (pA T) (xA T j) c) w) : X11_named x w Q := by
  subst hx
  obtain ⟨h1, h2, h3, h4, h5, h6, h7⟩ := h
  obtain ⟨n4, p6, l10⟩ := h1.le
  have p6 : nP T ≤ 6 := p6
  obtain ⟨m1, m2, m3⟩ := hN
  have hb := ((h5 j hj).2.2.2.2.1 hk).2
  have eqv : ∀ i, i < c → (nv (pT T i + 1) < 1099511627776) ∧ (nv (pT T i + 1) = nv j ↔ pA T i = xA T j) := fun i hi => by
    obtain ⟨q1, q2, -⟩ := pT_ok (T := T) (i := i) (by omega)
    obtain ⟨r1, r2, -⟩ := h1.post q1 q2
    exact ⟨((h5 (pT T i + 1) (by omega)).2.2.2.2.1 r2).2, h6 _ _ (by omega) hj r2 hk⟩
  unfold X11_named
  have loop : ∀ (m i : Nat), i ≤ c → c - i < m → (∀ q, q < i → pA T q ≠ xA T j) → X11_named_l2 Q (X11_named_b21 Q) (X11_named_b29 Q) m (nv j : Int) (i : Int) w := by
    intro m
    induction m with
    | zero => intro i _ q; omega
    | succ m ih =>
      intro i hi hm hq
      unfold X11_named_l2
      rw [m1, wr_nat (n := c) (by omega), wr_nat (n := i) (by omega)]
      refine ⟨fun z => ?_, fun z => ⟨ix_of rfl (by omega) (by decide), ?_⟩⟩
      · unfold X11_named_b29
        have : fst (pA T) (xA T j) c = -1 := fst_no (fun q h => hq q (by omega))
        rw [this] at hQ
        exact hQ
      · obtain ⟨b1, b2⟩ := eqv i (by omega)
        rw [rd_of rfl (by omega), m3 i (by omega)]
        have hc := (lcm_i (a := (nv (pT T i + 1) : Int)) (b := (nv j : Int)) (wl_nat (by omega)) (wl_nat (by omega))).2.2.1
        rw [hc]
        refine ⟨fun y => ?_, fun y => ih (i + 1) (by omega) (by omega) (fun q h => ?_)⟩
        · unfold X11_named_b21
          have : fst (pA T) (xA T j) c = (i : Int) := fst_at (by omega) (b2.mp (by omega)) hq
          rw [wr_nat (n := i) (by omega), ← this]
          exact hQ
        · by_cases e : q = i
          · rw [e]; exact fun k => y (by rw [b2.mpr k])
          · exact hq q (by omega)
  exact ⟨c + 1, loop (c + 1) 0 (by omega) (by omega) (fun q h => absurd h (Nat.not_lt_zero q))⟩
theorem mk_iff (hk : xK T t < 8) : ((mkd (xK T t) : Int) = 20 ↔ xK T t = 1) ∧ ((mkd (xK T t) : Int) = 21 ↔ xK T t = 2) ∧ ((mkd (xK T t) : Int) = 23 ↔ xK T t = 3) ∧ ((mkd (xK T t) : Int) = 22 ↔ xK T t = 4) ∧ ((mkd (xK T t) : Int) = 2 ↔ xK T t = 6) ∧ mkd (xK T t) < 100 := by
  have a1 := mkd_inj ⟨xK T t, hk⟩
  have e : ∀ c : Fin 8, mkd (xK T t) = mkd c.val → xK T t = c.val := fun c => a1 c
  have a2 : mkd (xK T t) < 100 := (mkd_nz ⟨xK T t, hk⟩).2
  have m1 : mkd 1 = 20 := rfl
  have m2 : mkd 2 = 21 := rfl
  have m3 : mkd 3 = 23 := rfl
  have m4 : mkd 4 = 22 := rfl
  have m6 : mkd 6 = 2 := rfl
  refine ⟨⟨fun h => e 1 (by show _ = mkd 1; omega), fun h => by rw [h]; rfl⟩, ⟨fun h => e 2 (by show _ = mkd 2; omega), fun h => by rw [h]; rfl⟩, ⟨fun h => e 3 (by show _ = mkd 3; omega), fun h => by rw [h]; rfl⟩, ⟨fun h => e 4 (by show _ = mkd 4; omega), fun h => by rw [h]; rfl⟩, ⟨fun h => e 6 (by show _ = mkd 6; omega), fun h => by rw [h]; rfl⟩, a2⟩
/-- faults of the tellings of a kind, up to a token -/
def SK (T : Tx) (k0 t j k : Nat) : Prop := ∃ t', t' < t ∧ t' < xN T ∧ xK T t' = k0 ∧ Flt T t' j k
theorem SK_s {k0 j k : Nat} (ht : t < xN T) : SK T k0 (t + 1) j k ↔ SK T k0 t j k ∨ (xK T t = k0 ∧ Flt T t j k) := by
  constructor
  · rintro ⟨t', a, b, c, d⟩
    by_cases e : t' = t
    · subst e; exact Or.inr ⟨c, d⟩
    · exact Or.inl ⟨t', by omega, b, c, d⟩
  · rintro (⟨t', a, b, c, d⟩ | ⟨c, d⟩)
    · exact ⟨t', by omega, b, c, d⟩
    · exact ⟨t, by omega, ht, c, d⟩
theorem SK_n {k0 j k : Nat} (ht : t < xN T) (hk : xK T t ≠ k0) : SK T k0 (t + 1) j k ↔ SK T k0 t j k := by
  rw [SK_s ht]
  exact ⟨fun y => y.resolve_right (fun z => hk z.1), Or.inl⟩
theorem SK_e {k0 j k : Nat} : SK T k0 (xN T + 1) j k ↔ SK T k0 (xN T) j k := by
  constructor
  · rintro ⟨t', a, b, c, d⟩; exact ⟨t', b, b, c, d⟩
  · rintro ⟨t', a, b, c, d⟩; exact ⟨t', by omega, b, c, d⟩
/-- the posts -/
theorem X11_posts_ok {e111 : Wd → Prop} (h : TCm w T nv pl) (hN : NmM w T nv 0) (hS : Wst w pl (xN T) (fun _ _ => False)) (hK : ∀ w', NmM w' T nv (nP T) → Wst w' pl (xN T) (SK T 1 (xN T)) → (∀ c j, ¬ (c = 65 ∧ (j = 14 ∨ j = 15 ∨ j = 20)) → c ≠ 75 → w' c j = w c j) → e111 w') : ∃ m, X11_means_l33 Q e111 m 0 w := by
  have hO := h.1
  obtain ⟨n4, p6, l10⟩ := hO.le
  have loop : ∀ (m t : Nat) (u : Wd), t ≤ xN T + 1 → xN T + 1 - t < m → NmM u T nv (npc (xK T) (min t (xN T))) → Wst u pl (xN T) (SK T 1 t) → (∀ c j, ¬ (c = 65 ∧ (j = 14 ∨ j = 15 ∨ j = 20)) → c ≠ 75 → u c j = w c j) → X11_means_l33 Q e111 m (t : Int) u := by
    intro m
    induction m with
    | zero => intro t u _ q; omega
    | succ m ih =>
      intro t u ht hm hN hS ho
      have hu : TCm u T nv pl := h.of (fun c j a b d => ho c j (by omega) d)
      unfold X11_means_l33
      rw [hu.2.1, wr_nat (n := xN T + 1) (by omega), wr_nat (n := t) (by omega), show (t : Int) + 1 = ((t + 1 : Nat) : Int) by omega]
      refine ⟨fun z => ?_, fun z => ⟨ix_of rfl (by omega) (by decide), ?_⟩⟩
      · have e : t = xN T + 1 := by omega
        subst e
        rw [show min (xN T + 1) (xN T) = xN T by omega] at hN
        exact hK u hN (hS.congr (fun j k => SK_e)) ho
      · rw [rd_of rfl (by omega), show wr 20 = 20 by decide]
        by_cases y : t = xN T
        · subst y
          rw [hu.2.2.2.1, show wr 0 = 0 by decide]
          refine ⟨fun k => absurd k (by decide), fun _ => ih (xN T + 1) u (by omega) (by omega) (by rw [show min (xN T + 1) (xN T) = min (xN T) (xN T) by omega]; exact hN) (hS.congr (fun j k => SK_e.symm)) ho⟩
        · have ht' : t < xN T := by omega
          rw [show min t (xN T) = t by omega] at hN
          have mn : min (t + 1) (xN T) = t + 1 := by omega
          obtain ⟨k1, k2, k3, k4, k5, k6⟩ := hu.2.2.2.2.1 t ht'
          have mi := mk_iff (T := T) (t := t) k2
          rw [k1, wr_nat (n := mkd (xK T t)) (by omega)]
          refine ⟨fun z => ?_, fun z => ih (t + 1) u (by omega) (by omega) (by rw [mn, npc_s, if_neg (fun k => z (mi.1.mpr k))]; exact hN) (hS.congr (fun j k => (SK_n ht' (fun k => z (mi.1.mpr k))).symm)) ho⟩
          have z := mi.1.mp z
          obtain ⟨q1, q2, q3⟩ := hO.post ht' z
          obtain ⟨r1, r2⟩ := pT_at (T := T) ht' z
          have a1 := (hu.2.2.2.2.1 (t + 1) (by omega)).2.2.2.2.1 q2
          have p6 : nP T ≤ 6 := p6
          rw [rd_of rfl (by omega)]
          refine ⟨ix_of rfl (by omega) (by decide), X11_named_ok (t + 1) a1.1 (by omega) q2 hu hN ?_⟩
          have nx : ∀ u2, Wst u2 pl (xN T) (SK T 1 (t + 1)) → (∀ c i, ¬ (c = 65 ∧ (i = 14 ∨ i = 15)) → u2 c i = u c i) → X11_means_b78 Q (X11_means_l33 Q e111 m) e111 (t : Int) u2 := fun u2 hS2 o2 => by
            unfold X11_means_b78
            rw [show (t : Int) + 1 = ((t + 1 : Nat) : Int) by omega, o2 65 20 (by decide), hN.1, rd_of rfl (by omega), o2 71 _ (by omega), a1.1]
            refine ⟨ix_of rfl (by omega) (by decide), ix_of rfl (by omega) (by decide), fun w6 e6 w7 e7 => ?_⟩
            rw [wt_of rfl (by omega)] at e6
            have c20 : w6 65 20 = (npc (xK T) t : Int) := by rw [e6, up_ap, if_neg (by omega), o2 65 20 (by decide)]; exact hN.1
            rw [c20] at e7
            have o7 : ∀ c i, c ≠ 75 → ¬ (c = 65 ∧ i = 20) → w7 c i = u2 c i := fun c i a b => by rw [e7, up_ap, if_neg b, e6, up_ap, if_neg (by omega)]
            refine ih (t + 1) w7 (by omega) (by omega) ?_ (hS2.of (o7 _ _ (by decide) (by decide)) (o7 _ _ (by decide) (by decide))) (fun c j a b => by rw [o7 c j b (by omega), o2 c j (by omega), ho c j a b])
            rw [mn, npc_s, if_pos z]
            refine ⟨by rw [e7, up_eq]; omega, by omega, fun i hi => ?_⟩
            rw [e7, up_ap, if_neg (by omega), e6, up_ap]
            by_cases yi : i = npc (xK T) t
            · rw [if_pos ⟨rfl, yi⟩, yi, r1]
            · rw [if_neg (by omega), o2 _ _ (by omega)]; exact hN.2.2 i (by omega)
          rcases fst_ok (pA T) (xA T (t + 1)) (npc (xK T) t) with ⟨f1, f2⟩ | ⟨i, f1, f2, f3, f4⟩
          · rw [f1, show wr (-1) = -1 by decide]
            refine ⟨fun _ => nx u (hS.congr (fun j k => ?_)) (fun _ _ _ => rfl), fun k => absurd (by decide) k⟩
            rw [SK_s ht']
            refine ⟨Or.inl, fun y => y.resolve_right (fun y => ?_)⟩
            rcases y.2 with ⟨-, -, -, i, g1, g2⟩ | ⟨g, -⟩ | ⟨g, -⟩
            · exact f2 i g1 g2
            · omega
            · omega
          · have : i < 6 := by omega
            rw [f2, wr_nat (n := i) (by omega)]
            refine ⟨fun k => by omega, fun _ => X11_wrong_ok 3 (t + 1) rfl rfl hu (by decide) (by omega) hS (fun u2 hS2 o2 => nx u2 (hS2.congr (fun j k => ?_)) o2)⟩
            rw [SK_s ht']
            constructor
            · rintro (y | y)
              · exact Or.inl y
              · exact Or.inr ⟨z, Or.inl ⟨z, y.1, y.2, i, f1, f3⟩⟩
            · rintro (y | y)
              · exact Or.inl y
              · rcases y.2 with ⟨-, g1, g2, -⟩ | ⟨g, -⟩ | ⟨g, -⟩
                · exact Or.inr ⟨g1, g2⟩
                · omega
                · omega
  refine ⟨xN T + 2, loop (xN T + 2) 0 w (by omega) (by omega) (by rw [show min 0 (xN T) = 0 by omega]; exact hN) (hS.congr (fun j k => ⟨False.elim, fun y => ?_⟩)) (fun _ _ _ _ => rfl)⟩
  obtain ⟨t', a, -⟩ := y
  omega
end MEAN
