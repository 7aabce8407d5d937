/-! TEXTS: the class checks -/
def offKx (w w' : Wd) : Prop := ∀ c j, ¬ (c = 14 ∧ (j = 0 ∨ j = 1)) → w' c j = w c j
def LeF (T : Tx) (t j k : Nat) : Prop := Flt T t j k ∧ ∀ j' k', Flt T t j' k' → j < j' ∨ (j = j' ∧ k ≤ k')
section CHK
variable {w : Wd} {T : Tx} {pl : Nat → Nat} {t : Nat} {Q : Wd → Prop}
theorem X4_fail_ok {x y : Int} (j k : Nat) (hx : x = (k : Int)) (hy : y = (pl j : Int)) (hL : LeF T t j k) (hF : ∀ w' j k, LeF T t j k → w' 14 0 = (k : Int) → w' 14 1 = (pl j : Int) → offKx w w' → Q w') : X4_fail x y w Q := by
  unfold X4_fail
  intro w1 e1 w2 e2
  refine hF w2 j k hL ?_ ?_ (fun c j hc => by rw [e2, up_ap, if_neg (by omega), e1, up_ap, if_neg (by omega)])
  · rw [e2, up_ap, if_neg (by omega), e1, up_eq, hx]
  · rw [e2, up_eq, hy]
theorem X4_checkPost_ok {x y : Int} (h : TCx w T pl) (hP : PnX w T) (ht : t < xN T) (hk : xK T t = 1) (hx : x = ((t + 1 : Nat) : Int)) (hy : y = (npc (xK T) t : Int)) (hN : (∀ j k, ¬ Flt T t j k) → Q w) (hF : ∀ w' j k, LeF T t j k → w' 14 0 = (k : Int) → w' 14 1 = (pl j : Int) → offKx w w' → Q w') : X4_checkPost x y w Q := by
  subst hx; subst hy
  obtain ⟨n4, p6, l10⟩ := h.1.le
  have p6 : nP T ≤ 6 := p6
  obtain ⟨q1, q2, q3⟩ := h.1.post ht hk
  obtain ⟨r1, r2⟩ := pT_at (T := T) ht hk
  have a1 := (h.2.2 (t + 1) (by omega)).2.2.2.2.1 q2
  unfold X4_checkPost
  rw [rd_of rfl (by omega)]
  refine ⟨ix_of rfl (by omega) (by decide), X4_postNamed_ok (xA T (t + 1)) a1.1 a1.2 h hP ?_⟩
  have ps : pA T (npc (xK T) t) = xA T (t + 1) := by unfold pA; rw [r1]
  rcases fst_ok (pA T) (xA T (t + 1)) (nP T) with ⟨h1, h2⟩ | ⟨i, h1, h2, h3, h4⟩
  · exact absurd ps (h2 _ r2)
  · have e : nam T (xA T (t + 1)) = (i : Int) := h2
    have i6 : i < 6 := by omega
    rw [e, wr_nat (n := npc (xK T) t) (by omega), wr_nat (n := i) (by omega), rd_of rfl (by omega), (h.2.2 (t + 1) (by omega)).2.2.1]
    refine ⟨fun z => hN (fun j k f => ?_), fun z => ⟨ix_of rfl (by omega) (by decide), X4_fail_ok (t + 1) 3 rfl rfl ⟨Or.inl ⟨hk, rfl, rfl, i, by omega, h3⟩, fun j' k' f => ?_⟩ hF⟩⟩
    · rcases f with ⟨-, -, -, i', f1, f2⟩ | ⟨f, -⟩ | ⟨f, -⟩
      · exact h4 i' (by omega) f2
      · omega
      · omega
    · rcases f with ⟨-, f1, f2, -⟩ | ⟨f, -⟩ | ⟨f, -⟩
      · omega
      · omega
      · omega
theorem X4_checkLine_ok {x : Int} (h : TCx w T pl) (hP : PnX w T) (ht : t < xN T) (hk : xK T t = 2) (hx : x = ((t + 1 : Nat) : Int)) (hN : (∀ j k, ¬ Flt T t j k) → Q w) (hF : ∀ w' j k, LeF T t j k → w' 14 0 = (k : Int) → w' 14 1 = (pl j : Int) → offKx w w' → Q w') : X4_checkLine x w Q := by
  subst hx
  obtain ⟨n4, p6, l10⟩ := h.1.le
  have p6 : nP T ≤ 6 := p6
  obtain ⟨q1, q2, q3, q4⟩ := h.1.line ht hk
  have a1 := (h.2.2 (t + 1) (by omega)).2.2.2.2.1 q2
  have a2 := (h.2.2 (t + 2) (by omega)).2.2.2.2.1 q3
  unfold X4_checkLine
  rw [rd_of rfl (by omega), show ((t + 1 : Nat) : Int) + 1 = ((t + 2 : Nat) : Int) by omega, show wr (-1) = -1 by decide]
  refine ⟨ix_of rfl (by omega) (by decide), X4_postNamed_ok (xA T (t + 1)) a1.1 a1.2 h hP ?_⟩
  rw [rd_of rfl (by omega), rd_of rfl (by omega), rd_of rfl (by omega), rd_of rfl (by omega), (h.2.2 (t + 1) (by omega)).2.2.1, (h.2.2 (t + 2) (by omega)).2.2.1, a1.1, a2.1]
  have b1 : wr (nam T (xA T (t + 1))) = nam T (xA T (t + 1)) := by
    rcases nam_ok (T := T) (xA T (t + 1)) with e | ⟨v, e1, e2, -⟩
    · rw [e]; decide
    · rw [e2]; exact wr_nat (by omega)
  have b2 : wr (nam T (xA T (t + 2))) = nam T (xA T (t + 2)) := by
    rcases nam_ok (T := T) (xA T (t + 2)) with e | ⟨v, e1, e2, -⟩
    · rw [e]; decide
    · rw [e2]; exact wr_nat (by omega)
  rw [b1]
  refine ⟨fun z => ⟨ix_of rfl (by omega) (by decide), X4_fail_ok (t + 1) 4 rfl rfl ⟨Or.inr (Or.inl ⟨hk, Or.inl ⟨rfl, rfl, z⟩⟩), fun j' k' f => ?_⟩ hF⟩, fun z => ⟨ix_of rfl (by omega) (by decide), ix_of rfl (by omega) (by decide), ?_⟩⟩
  · rcases f with ⟨f, -⟩ | ⟨-, f | f | f⟩ | ⟨f, -⟩
    · omega
    · omega
    · omega
    · omega
    · omega
  · have hc := (lcm_i (a := (xA T (t + 1) : Int)) (b := (xA T (t + 2) : Int)) (wl_nat (by omega)) (wl_nat (by omega))).2.2.1
    rw [hc]
    refine ⟨fun y => ⟨ix_of rfl (by omega) (by decide), X4_fail_ok (t + 2) 3 rfl rfl ⟨Or.inr (Or.inl ⟨hk, Or.inr (Or.inr ⟨rfl, rfl, by omega⟩)⟩), fun j' k' f => ?_⟩ hF⟩, fun y => ⟨ix_of rfl (by omega) (by decide), X4_postNamed_ok (xA T (t + 2)) rfl a2.2 h hP ?_⟩⟩
    · rcases f with ⟨f, -⟩ | ⟨-, f | f | f⟩ | ⟨f, -⟩
      · omega
      · exact absurd f.2.2 z
      · omega
      · omega
      · omega
    · rw [b2, rd_of rfl (by omega), (h.2.2 (t + 2) (by omega)).2.2.1]
      refine ⟨fun x => ⟨ix_of rfl (by omega) (by decide), X4_fail_ok (t + 2) 4 rfl rfl ⟨Or.inr (Or.inl ⟨hk, Or.inr (Or.inl ⟨rfl, rfl, x⟩)⟩), fun j' k' f => ?_⟩ hF⟩, fun x => hN (fun j' k' f => ?_)⟩
      · rcases f with ⟨f, -⟩ | ⟨-, f | f | f⟩ | ⟨f, -⟩
        · omega
        · exact absurd f.2.2 z
        · omega
        · have := f.2.2; omega
        · omega
      · rcases f with ⟨f, -⟩ | ⟨-, f | f | f⟩ | ⟨f, -⟩
        · omega
        · exact z f.2.2
        · exact x f.2.2
        · have := f.2.2; omega
        · omega
theorem bit_ex {M : Nat} (h : M ≠ 0) : ∃ e, M.testBit e = true := by
  by_cases z : ∃ e, M.testBit e = true
  · exact z
  · refine absurd (Nat.eq_of_testBit_eq (fun e => ?_)) h
    rw [Nat.zero_testBit]
    cases q : M.testBit e
    · rfl
    · exact absurd ⟨e, q⟩ z
theorem X4_checkRound_ok {x : Int} (h : TCx w T pl) (hP : PnX w T) (hL : LnX w T) (ht : t < xN T) (hk : xK T t = 3) (hx : x = ((t + 1 : Nat) : Int)) (hN : (∀ j k, ¬ Flt T t j k) → Q w) (hF : ∀ w' j k, LeF T t j k → w' 14 0 = (k : Int) → w' 14 1 = (pl j : Int) → offKx w w' → Q w') : X4_checkRound x w Q := by
  subst hx
  obtain ⟨n4, p6, l10⟩ := h.1.le
  have p6 : nP T ≤ 6 := p6
  have l10 : nL T ≤ 10 := l10
  obtain ⟨q1, q2, q3, q4, q5⟩ := h.1.round ht hk
  have a1 := (h.2.2 (t + 1) (by omega)).2.2.2.2.1 q2
  unfold X4_checkRound
  rw [rd_of rfl (by omega), show ((t + 1 : Nat) : Int) + 1 = ((t + 2 : Nat) : Int) by omega, show wr (-1) = -1 by decide]
  refine ⟨ix_of rfl (by omega) (by decide), X4_postNamed_ok (xA T (t + 1)) a1.1 a1.2 h hP ?_⟩
  rw [rd_of rfl (by omega), (h.2.2 (t + 1) (by omega)).2.2.1]
  rcases nam_ok (T := T) (xA T (t + 1)) with e | ⟨v, v6, e, -⟩
  · rw [e]
    refine ⟨fun _ => ⟨ix_of rfl (by omega) (by decide), X4_fail_ok (t + 1) 4 rfl rfl ⟨Or.inr (Or.inr ⟨hk, Or.inl ⟨rfl, rfl, e⟩⟩), fun j' k' f => ?_⟩ hF⟩, fun k => absurd (by decide) k⟩
    rcases f with ⟨f, -⟩ | ⟨f, -⟩ | ⟨-, f | ⟨u, f1, f | f⟩⟩
    · omega
    · omega
    · omega
    · omega
    · omega
  · rw [e, wr_nat (n := v) (by omega)]
    refine ⟨fun k => by omega, fun _ => X4_linesOf_ok v rfl (by omega) p6 l10 hL (fun M0 hM0 hb0 => fun y5 e5 => ?_)⟩
    subst e5
    have fl : ∀ {j k : Nat}, Flt T t j k → (∃ i, i < rln T t ∧ j = t + 2 + i ∧ k = 5 ∧ Bad T t v i) ∨ (j = t + 2 + rln T t ∧ k = 6 ∧ (∀ i, i < rln T t → ¬ Bad T t v i) ∧ ∃ e, onL T v e ∧ ∀ i, i < rln T t → xI T (t + 2 + i) ≠ e) := fun {j k} f => by
      rcases f with ⟨f, -⟩ | ⟨f, -⟩ | ⟨-, f | ⟨u, f1, f⟩⟩
      · omega
      · omega
      · omega
      · rw [show u = v by omega] at f; exact f
    have bad : ∀ i, i < rln T t → (∀ i', i' < i → ¬ Bad T t v i') → Bad T t v i → X4_checkRound_b95 Q ((t + 2 + i : Nat) : Int) w := fun i hi hg hb => by
      unfold X4_checkRound_b95
      rw [rd_of rfl (by omega), (h.2.2 (t + 2 + i) (by omega)).2.2.1]
      refine ⟨ix_of rfl (by omega) (by decide), X4_fail_ok (t + 2 + i) 5 rfl rfl ⟨Or.inr (Or.inr ⟨hk, Or.inr ⟨v, e, Or.inl ⟨i, hi, rfl, rfl, hb⟩⟩⟩), fun j' k' f => ?_⟩ hF⟩
      rcases fl f with ⟨i', f1, f2, f3, f4⟩ | ⟨f1, f2, f3, -⟩
      · have : ¬ i' < i := fun k => hg i' k f4
        omega
      · exact absurd hb (f3 i hi)
    have loop : ∀ (m i M : Nat), i ≤ rln T t → rln T t - i < m → M < 1024 → (∀ e, M.testBit e = true ↔ onL T v e ∧ ∀ i', i' < i → xI T (t + 2 + i') ≠ e) → (∀ i', i' < i → ¬ Bad T t v i') → X4_checkRound_l40 Q (X4_checkRound_b95 Q) (X4_checkRound_b125 Q) m (M : Int) ((t + 2 + i : Nat) : Int) w := by
      intro m
      induction m with
      | zero => intro i M _ q; omega
      | succ m ih =>
        intro i M hi hm hM hb hg
        unfold X4_checkRound_l40
        rw [h.2.1, wr_nat (n := xN T) (by omega), wr_nat (n := t + 2 + i) (by omega)]
        refine ⟨fun z => by omega, fun _ => ⟨ix_of rfl (by omega) (by decide), ?_⟩⟩
        obtain ⟨k1, k2, -⟩ := h.2.2 (t + 2 + i) (by omega)
        rw [rd_of rfl (by omega), k1, wr_nat (n := xK T (t + 2 + i)) (by omega), show wr 6 = 6 by decide]
        refine ⟨fun z => ⟨ix_of rfl (by omega) (by decide), fun y6 e6 => ?_⟩, fun z => ?_⟩
        · have z : xK T (t + 2 + i) = 6 := by omega
          have hi' : i < rln T t := by
            by_cases y : i = rln T t
            · rw [y, q4] at z; omega
            · omega
          obtain ⟨a2, a3⟩ := (h.2.2 (t + 2 + i) (by omega)).2.2.2.2.2 z
          rw [rd_of rfl (by omega), a2] at e6
          subst e6
          rw [hL.1, wr_nat (n := nL T) (by omega), wr_nat (n := xI T (t + 2 + i)) (by omega)]
          refine ⟨fun k => by omega, fun _ => ⟨fun k => bad i hi' hg (fun g => by have := g.1.1; omega), fun k => ?_⟩⟩
          rw [isr_bit (k := xI T (t + 2 + i)) (by omega) (by omega)]
          cases qb : M.testBit (xI T (t + 2 + i))
          · refine ⟨fun _ => bad i hi' hg (fun g => ?_), fun k => absurd (by decide) k⟩
            have := (hb (xI T (t + 2 + i))).mpr g
            rw [qb] at this
            exact absurd this (by decide)
          · refine ⟨fun k => absurd k (by decide), fun _ y7 e7 => ?_⟩
            have hp : 2 ^ xI T (t + 2 + i) < 2 ^ 10 := Nat.pow_lt_pow_right (by decide) (by omega)
            rw [isl1 (by omega), ian_not (by omega) (by omega)] at e7
            rw [e7, show ((t + 2 + i : Nat) : Int) + 1 = ((t + 2 + (i + 1) : Nat) : Int) by omega]
            refine ih (i + 1) _ (by omega) (by omega) (Nat.lt_of_le_of_lt Nat.and_le_left hM) (fun e => ?_) (fun i' hi2 => ?_)
            · rw [Nat.testBit_and, Bool.and_eq_true, hb, tb_not (by omega), Nat.testBit_two_pow]
              constructor
              · rintro ⟨⟨b1, b2⟩, b3⟩
                refine ⟨b1, fun i' hi2 => ?_⟩
                by_cases y : i' = i
                · rw [y]
                  intro k
                  rw [decide_eq_true k] at b3
                  simp at b3
                · exact b2 i' (by omega)
              · rintro ⟨b1, b2⟩
                refine ⟨⟨b1, fun i' hi2 => b2 i' (by omega)⟩, ?_⟩
                have e10 : e < 32 := by have := b1.1; omega
                rw [decide_eq_true e10, decide_eq_false (b2 i (by omega))]
                rfl
            · by_cases y : i' = i
              · rw [y]; exact fun k => k ((hb _).mp qb)
              · exact hg i' (by omega)
        · have hi' : i = rln T t := by
            by_cases y : i = rln T t
            · exact y
            · exact absurd (by rw [q3 i (by omega)]; rfl) z
          subst hi'
          unfold X4_checkRound_b125
          rw [wr_nat (n := M) (by omega), h.2.1, wr_nat (n := xN T) (by omega), wr_nat (n := t + 2 + rln T t) (by omega), rd_of rfl (by omega), (h.2.2 (t + 2 + rln T t) (by omega)).2.2.1]
          refine ⟨fun y => hN (fun j k f => ?_), fun y => ⟨fun k => by omega, fun _ => ⟨ix_of rfl (by omega) (by decide), ?_⟩⟩⟩
          · rcases fl f with ⟨i', f1, f2, f3, f4⟩ | ⟨f1, f2, f3, e, f4, f5⟩
            · exact hg i' f1 f4
            · have := (hb e).mpr ⟨f4, f5⟩
              rw [show M = 0 by omega, Nat.zero_testBit] at this
              exact absurd this (by decide)
          · obtain ⟨e0, he0⟩ := bit_ex (M := M) (by omega)
            have he1 := (hb e0).mp he0
            refine X4_fail_ok (t + 2 + rln T t) 6 rfl rfl ⟨Or.inr (Or.inr ⟨hk, Or.inr ⟨v, e, Or.inr ⟨rfl, rfl, hg, e0, he1.1, he1.2⟩⟩⟩), fun j' k' f => ?_⟩ hF
            rcases fl f with ⟨i', f1, f2, f3, f4⟩ | ⟨f1, f2, f3, -⟩
            · exact absurd f4 (hg i' f1)
            · omega
    exact ⟨rln T t + 1, loop (rln T t + 1) 0 M0 (by omega) (by omega) hM0 (fun e => by rw [hb0]; exact ⟨fun a => ⟨a, fun i' hi' => absurd hi' (Nat.not_lt_zero i')⟩, fun a => a.1⟩) (fun i' hi' => absurd hi' (Nat.not_lt_zero i'))⟩
end CHK
def offH (w w' : Wd) : Prop := ∀ c j, c ≠ 14 → c ≠ 15 → c ≠ 16 → w' c j = w c j
theorem X4_check_ok {w : Wd} {T : Tx} {pl : Nat → Nat} {Q : Int → Wd → Prop} (h : TCx w T pl) (hQ : ∀ w' f p, SemA T pl f p → f ≤ 6 → w' 14 0 = (f : Int) → w' 14 1 = p → PnX w' T → LnX w' T → TwX w' T (xN T) → offH w w' → Q (f : Int) w') : X4_check w Q := by
  have hO := h.1
  obtain ⟨n4, p6, l10⟩ := hO.le
  have hk8 : ∀ j, j < xN T → xK T j < 8 := fun j hj => (h.2.2 j hj).2.1
  unfold X4_check
  intro w1 e1 w2 e2
  have o2 : ∀ c j, ¬ (c = 14 ∧ (j = 0 ∨ j = 1)) → w2 c j = w c j := fun c j hc => by rw [e2, up_ap, if_neg (by omega), e1, up_ap, if_neg (by omega)]
  refine X4_gatherPosts_ok (h.of (fun c j _ _ => o2 c j (by omega))) (fun w3 P3 o3 => ?_)
  have h3 : TCx w3 T pl := h.of (fun c j _ _ => by rw [o3 c j (by omega) (by omega), o2 c j (by omega)])
  refine X4_gatherLines_ok h3 P3 (fun w4 L4 T4 o4 => ?_)
  have h4 : TCx w4 T pl := h3.of (fun c j _ _ => o4 c j (by omega) (by omega))
  have P4 : PnX w4 T := ⟨by rw [o4 _ _ (by decide) (by omega)]; exact P3.1, fun i hi => by rw [o4 _ _ (by decide) (by omega)]; exact P3.2 i hi⟩
  have oh4 : offH w w4 := fun c j a b d => by rw [o4 c j d (by omega), o3 c j b (by omega), o2 c j (by omega)]
  have f4 : w4 14 0 = 0 ∧ w4 14 1 = -1 := by
    rw [o4 _ _ (by decide) (by omega), o4 _ _ (by decide) (by omega), o3 _ _ (by decide) (by omega), o3 _ _ (by decide) (by omega)]
    exact ⟨by rw [e2, up_ap, if_neg (by omega), e1, up_eq], by rw [e2, up_eq]⟩
  have fin : ∀ (m x2 x3 j k : Nat) (v : Wd), MinF T j k → v 14 0 = (k : Int) → v 14 1 = (pl j : Int) → offKx w4 v → X4_check_l24 Q (X4_check_b111 Q) (m + 1) (x2 : Int) (x3 : Int) v := by
    intro m x2 x3 j k v hM v0 v1 o
    obtain ⟨t0, ht0, hF0⟩ := hM.1
    obtain ⟨-, -, k3, k6, -⟩ := hF0.sp hO ht0
    have fn : X4_check_b111 Q v := by
      unfold X4_check_b111
      rw [v0, wr_nat (n := k) (by omega)]
      refine hQ v k _ (Or.inr ⟨j, hM, rfl⟩) k6 v0 v1 ⟨by rw [o _ _ (by omega)]; exact P4.1, fun i hi => by rw [o _ _ (by omega)]; exact P4.2 i hi⟩ ⟨by rw [o _ _ (by omega)]; exact L4.1, fun i hi => by rw [o _ _ (by omega)]; exact L4.2 i hi⟩ ?_ (fun c j a b d => by rw [o c j (by omega), oh4 c j a b d])
      obtain ⟨tw, g1, g2, g3⟩ := T4
      exact ⟨tw, by rw [o _ _ (by omega)]; exact g1, g2, g3⟩
    unfold X4_check_l24
    refine ⟨fun _ => fn, fun _ => ⟨fun y => ?_, fun _ => fn⟩⟩
    rw [v0, wr_nat (n := k) (by omega)] at y
    omega
  have loop : ∀ (m t : Nat), t ≤ xN T → xN T - t + 1 < m → (∀ t', t' < t → ∀ j k, ¬ Flt T t' j k) → X4_check_l24 Q (X4_check_b111 Q) m (npc (xK T) t : Int) (t : Int) w4 := by
    intro m
    induction m with
    | zero => intro t _ q; omega
    | succ m ih =>
      intro t ht hm hn
      unfold X4_check_l24
      rw [h4.2.1, show (t : Int) + 2 = ((t + 2 : Nat) : Int) by omega, wr_nat (n := xN T) (by omega), wr_nat (n := t + 2) (by omega), f4.1]
      refine ⟨fun z => ?_, fun z => ⟨fun _ => ⟨ix_of rfl (by omega) (by decide), ?_⟩, fun k => absurd (by decide) k⟩⟩
      · unfold X4_check_b111
        rw [f4.1]
        refine hQ w4 0 (-1) (Or.inl ⟨rfl, rfl, fun j k hA => ?_⟩) (by decide) f4.1 f4.2 P4 L4 T4 oh4
        obtain ⟨t', ht', hF'⟩ := hA
        by_cases y : t' < t
        · exact hn t' y j k hF'
        · obtain ⟨-, -, -, -, k5, -⟩ := hF'.sp hO ht'
          rcases k5 with k5 | k5 | k5
          · have := (hO.post ht' k5).1; omega
          · have := (hO.line ht' k5).1; omega
          · have := hO.round ht' k5; omega
      · obtain ⟨k1, k2, -⟩ := h4.2.2 t (by omega)
        rw [rd_of rfl (by omega), k1, wr_nat (n := xK T t) (by omega), show wr 1 = 1 by decide, show wr 2 = 2 by decide, show wr 3 = 3 by decide, show (t : Int) + 1 = ((t + 1 : Nat) : Int) by omega]
        obtain ⟨m, rfl⟩ : ∃ m', m = m' + 1 := ⟨m - 1, by omega⟩
        have hb : ∀ (x2 : Nat) (w' : Wd) (j k : Nat), LeF T t j k → w' 14 0 = (k : Int) → w' 14 1 = (pl j : Int) → offKx w4 w' → X4_check_l24 Q (X4_check_b111 Q) (m + 1) (x2 : Int) ((t + 1 : Nat) : Int) w' := fun x2 w' j k hf v0 v1 o => fin m x2 (t + 1) j k w' (min_of hO (by omega) hf.1 hf.2 hn) v0 v1 o
        have nx : (∀ j k, ¬ Flt T t j k) → X4_check_l24 Q (X4_check_b111 Q) (m + 1) (npc (xK T) (t + 1) : Int) ((t + 1 : Nat) : Int) w4 := fun hf => ih (t + 1) (by omega) (by omega) (fun t' ht' => by
          by_cases y : t' = t
          · rw [y]; exact hf
          · exact hn t' (by omega))
        refine ⟨fun y => ?_, fun y => ⟨ix_of rfl (by omega) (by decide), fun y2 => ?_, fun y2 => ⟨ix_of rfl (by omega) (by decide), fun y3 => ?_, fun y3 => ?_⟩⟩⟩
        · have y : xK T t = 1 := by omega
          have es : npc (xK T) (t + 1) = npc (xK T) t + 1 := by rw [npc_s, if_pos y]
          rw [es] at nx
          exact X4_checkPost_ok h4 P4 (by omega) y rfl rfl (fun f => by rw [show (npc (xK T) t : Int) + 1 = ((npc (xK T) t + 1 : Nat) : Int) by omega]; exact nx f) (fun w' j k hf v0 v1 o => by rw [show (npc (xK T) t : Int) + 1 = ((npc (xK T) t + 1 : Nat) : Int) by omega]; exact hb _ w' j k hf v0 v1 o)
        · have es : npc (xK T) (t + 1) = npc (xK T) t := by rw [npc_s, if_neg (by omega)]; omega
          rw [es] at nx
          exact X4_checkLine_ok h4 P4 (by omega) (by omega) rfl nx (hb _)
        · have es : npc (xK T) (t + 1) = npc (xK T) t := by rw [npc_s, if_neg (by omega)]; omega
          rw [es] at nx
          exact X4_checkRound_ok h4 P4 L4 (by omega) (by omega) rfl nx (hb _)
        · have es : npc (xK T) (t + 1) = npc (xK T) t := by rw [npc_s, if_neg (by omega)]; omega
          rw [es] at nx
          refine nx (fun j k f => ?_)
          rcases f with ⟨f, -⟩ | ⟨f, -⟩ | ⟨f, -⟩
          · omega
          · omega
          · omega
  exact ⟨xN T + 2, loop (xN T + 2) 0 (by omega) (by omega) (fun t' ht' => absurd ht' (Nat.not_lt_zero t'))⟩
