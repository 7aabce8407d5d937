theorem fill_ok {r : Nat} {Q : Wd → Prop} {w : Wd} {x : Int} (hn : aln r ≤ 1000) (hQ : ∀ w', (∀ c j, w' c j = if c = r ∧ j < aln r then x else w c j) → Q w') : J7_fill_53178 r x w Q := by
  obtain ⟨n, hne⟩ : ∃ n, n = aln r := ⟨_, rfl⟩
  rw [← hne] at hn hQ
  have key : ∀ (m i : Nat) (v : Wd), i ≤ n → n - i < m → (∀ c j, v c j = if c = r ∧ j < i then x else w c j) → J7_fill_53178_l5 r Q (J7_fill_53178_b20 r Q) m x (i : Int) (n : Int) v := by
    intro m
    induction m with
    | zero => intro i v a1 a2; omega
    | succ m ih =>
      intro i v a1 a2 hv
      unfold J7_fill_53178_l5
      rw [wr_nat (n := n) (by omega), wr_nat (n := i) (by omega)]
      refine ⟨fun z => ?_, fun z => ⟨ix_of rfl (by omega) (by omega), ?_⟩⟩
      · unfold J7_fill_53178_b20
        exact hQ v (fun c j => by rw [hv, show i = n by omega])
      · intro w2 e2
        rw [wt_of rfl (by omega)] at e2
        rw [show (i : Int) + 1 = ((i + 1 : Nat) : Int) by omega]
        refine ih (i + 1) w2 (by omega) (by omega) (fun c j => ?_)
        rw [e2, up_ap]
        by_cases q : c = r ∧ j = i
        · rw [if_pos q, if_pos (by omega)]
        · rw [if_neg q, hv]
          by_cases q2 : c = r ∧ j < i
          · rw [if_pos q2, if_pos (by omega)]
          · rw [if_neg q2, if_neg (by omega)]
  unfold J7_fill_53178
  intro y1 e1
  rw [← hne] at e1
  rw [e1]
  exact ⟨n + 1, key (n + 1) 0 w (by omega) (by omega) (fun c j => by rw [if_neg (by omega)])⟩
theorem X8_beginFace_ok {T : Nat} {Q : Wd → Prop} {w : Wd} (n u : Nat) (hn : n < 16) (h0 : w T 0 = (n : Int)) (h8 : w T 8 = (u : Int)) (hQ : ∀ w', (∀ c j, w' c j = if c = T ∧ j = 0 then ((n + 1 : Nat) : Int) else if c = T + 1 ∧ j = n then 0 else if c = T + 5 ∧ j = n then (u : Int) else w c j) → Q w') : X8_beginFace T w Q := by
  unfold X8_beginFace
  rw [h0, wr_nat (n := n) (by omega), show wr 16 = 16 by decide]
  refine ⟨fun z => by omega, fun _ => ⟨ix_of rfl hn (by decide), ?_⟩⟩
  intro w1 e1
  rw [wt_of rfl (by omega), h8] at e1
  have f1 : w1 T 0 = (n : Int) := by rw [e1, up_ap, if_neg (by omega)]; exact h0
  rw [f1]
  refine ⟨ix_of rfl hn (by decide), ?_⟩
  intro w2 e2
  rw [wt_of rfl (by omega)] at e2
  intro w3 e3
  have f2 : w2 T 0 = (n : Int) := by rw [e2, up_ap, if_neg (by omega)]; exact f1
  rw [f2] at e3
  refine hQ w3 (fun c j => ?_)
  rw [e3, up_ap, e2, up_ap, e1, up_ap]
  by_cases q : c = T ∧ j = 0
  · rw [if_pos q, if_pos q]; omega
  · rw [if_neg q, if_neg q]
/-- the class's cells of a tracing, ten of them -/
def offT (T : Nat) (w w' : Wd) : Prop := ∀ c j, (c < T ∨ T + 10 ≤ c) → w' c j = w c j
theorem X8_follow_ok {T : Nat} {Q : Wd → Prop} {w : Wd} {D : Dw} {x : Int} (l : Nat) (hW : WF D) (hx : x = (l : Int)) (hl : l < 4 * dM D) (hd : ldr (Fc D) l) (hR : RepW w (T + 7) D) (hT : TT w T D (tF D l)) (h0 : w T 0 = ((ncl (Fc D) l + 1 : Nat) : Int)) (h1 : w (T + 1) (ncl (Fc D) l) = 0) (hs : ∃ L : Nat, w T 10 = (L : Int) ∧ Bts L (4 * dM D) (fun s => ∃ j, j < l ∧ Fc D j s))
    (hQ : ∀ w', RepW w' (T + 7) D → TT w' T D (tF D (l + 1)) → w' T 0 = ((ncl (Fc D) l + 1 : Nat) : Int) → (∀ j, w' (T + 1) j = if j = ncl (Fc D) l then (pF D l : Int) else w (T + 1) j) → (∃ L : Nat, w' T 10 = (L : Int) ∧ Bts L (4 * dM D) (fun s => ∃ j, j < l + 1 ∧ Fc D j s)) → (∀ c j, (c < T ∨ T + 7 ≤ c ∨ c = T + 2 ∨ c = T + 5) → w' c j = w c j) → Q w') : X8_follow T x w Q := by
  subst hx
  have hD := face_DH hW
  have hp := hD.pm
  have m10 := hW.2.1
  have hper := per_ok hp hl
  have hple := per_le hW hl hd
  have htl : tF D (l + 1) = tF D l + pF D l := tl_ld hd
  have p2 : ∀ L, L < 2 ^ (4 * dM D) → L < 9223372036854775808 := fun L hL => by
    have : 2 ^ (4 * dM D) ≤ 2 ^ 40 := Nat.pow_le_pow_right (by decide) (by omega)
    omega
  have key : ∀ (m i : Nat) (v : Wd), i < pF D l → pF D l - i < m → RepW v (T + 7) D → TT v T D (tF D l + i) → v T 0 = ((ncl (Fc D) l + 1 : Nat) : Int) → (∀ j, v (T + 1) j = if j = ncl (Fc D) l then (i : Int) else w (T + 1) j) → (∃ L : Nat, v T 10 = (L : Int) ∧ Bts L (4 * dM D) (fun s => (∃ j, j < l ∧ Fc D j s) ∨ ∃ k, k < i ∧ (itr (nx D) k l = s ∨ mi D (itr (nx D) k l) = s))) → (∀ c j, (c < T ∨ T + 7 ≤ c ∨ c = T + 2 ∨ c = T + 5) → v c j = w c j) → X8_follow_l4 T Q (X8_follow_b89 T Q) (X8_follow_b98 T Q) m (l : Int) (itr (nx D) i l : Int) (i : Int) v := by
    intro m
    induction m with
    | zero => intro i v a1 a2; omega
    | succ m ih =>
      intro i v a1 a2 vR vT v0 v1 ⟨L, vL10, vB⟩ voff
      have hai := hp.lt i l hl
      have hmi := hD.2.1 _ hai
      have hun : tF D l + i < tF D (4 * dM D) := tF_lt hd hl a1
      have hvs : vs D (tF D l + i) = itr (nx D) i l := (vs_ok hW).1 l hl hd i a1
      have hfo : fo D (vs D (tF D l + i)) = ncl (Fc D) l := fo_vs hW hl hd a1
      have hsum : tF D l + pF D l ≤ 2 * dM D := hple
      unfold X8_follow_l4
      rw [vR.1, vT.1, wr_nat (n := 2 * dM D) (by omega), wr_nat (n := i) (by omega), wr_nat (n := tF D l + i) (by omega), show wr 20 = 20 by decide]
      refine ⟨fun z => by omega, fun _ => ⟨fun z => by omega, fun _ => ?_⟩⟩
      refine X9_opposite_ok hW vR _ rfl hai ?_
      intro w3 e3
      have hp1 : 2 ^ itr (nx D) i l < 2 ^ (4 * dM D) := Nat.pow_lt_pow_right (by decide) hai
      have hp2 : 2 ^ mi D (itr (nx D) i l) < 2 ^ (4 * dM D) := Nat.pow_lt_pow_right (by decide) hmi
      rw [vL10, lsl1 (by omega), lsl1 (by omega), lor_nat (p2 _ hp1) (p2 _ hp2), lor_nat (p2 L vB.1) (p2 _ (Nat.or_lt_two_pow hp1 hp2))] at e3
      have off3 : ∀ c j, ¬ (c = T ∧ j = 10) → w3 c j = v c j := fun c j hc => by rw [e3, up_ap, if_neg hc]
      have R3 : RepW w3 (T + 7) D := RepW.of vR (fun c j _ _ => off3 c j (by omega))
      have T3 : TT w3 T D (tF D l + i) := TT.of vT (fun c j _ => off3 c j (by omega))
      have B3 := (vB.set2 hai hmi)
      have fin : X8_follow_b72 T Q (X8_follow_l4 T Q (X8_follow_b89 T Q) (X8_follow_b98 T Q) m) (X8_follow_b89 T Q) (X8_follow_b98 T Q) (l : Int) (itr (nx D) i l : Int) (i : Int) ((stA D (itr (nx D) i l) : Nat) : Int) w3 := by
        unfold X8_follow_b72
        refine X8_tell_ok (tF D l + i) hW hun (by rw [hvs]) T3 (by rw [hfo, off3 _ _ (by omega)]; exact v0) (fun w4 T4 g0 g10 g1 goff => ?_)
        rw [hfo] at g1
        have R4 : RepW w4 (T + 7) D := RepW.of R3 (fun c j _ _ => goff c j (by omega))
        refine X9_next_ok hW R4 _ rfl hai ?_
        rw [← itr_succ (nx D) i l]
        have hai2 := hp.lt (i + 1) l hl
        have g1' : ∀ j, w4 (T + 1) j = if j = ncl (Fc D) l then ((i + 1 : Nat) : Int) else w (T + 1) j := fun j => by
          rw [g1]
          by_cases q : j = ncl (Fc D) l
          · rw [if_pos q, if_pos q, off3 _ _ (by omega), v1, if_pos q]; omega
          · rw [if_neg q, if_neg q, off3 _ _ (by omega), v1, if_neg q]
        have g10' : w4 T 10 = ((L ||| (2 ^ itr (nx D) i l ||| 2 ^ mi D (itr (nx D) i l)) : Nat) : Int) := by rw [g10, e3, up_eq]
        have goff' : ∀ c j, (c < T ∨ T + 7 ≤ c ∨ c = T + 2 ∨ c = T + 5) → w4 c j = w c j := fun c j hc => by rw [goff c j hc, off3 _ _ (by omega), voff c j hc]
        have g0' : w4 T 0 = ((ncl (Fc D) l + 1 : Nat) : Int) := by rw [g0, off3 _ _ (by omega)]; exact v0
        rw [wr_nat (n := itr (nx D) (i + 1) l) (by omega), wr_nat (n := l) (by omega)]
        refine ⟨fun z => ?_, fun z => ?_⟩
        · have hi : i + 1 = pF D l := by
            rcases Nat.lt_or_ge (i + 1) (pF D l) with q | q
            · exact absurd (by omega) (hper.2.2.2 (i + 1) (by omega) q)
            · omega
          unfold X8_follow_b89 X8_follow_b98
          refine hQ w4 R4 (by rw [htl, ← hi]; exact T4) g0' (fun j => by rw [g1', hi]) ⟨_, g10', B3.congr (fun s hs => ?_)⟩ goff'
          constructor
          · rintro ((⟨j, hj, y⟩ | ⟨k, hk, y⟩) | y | y)
            · exact ⟨j, by omega, y⟩
            · exact ⟨l, by omega, (hD.cl hl).mpr ⟨k, by show k < pF D l; omega, y⟩⟩
            · exact ⟨l, by omega, (hD.cl hl).mpr ⟨i, a1, Or.inl y.symm⟩⟩
            · exact ⟨l, by omega, (hD.cl hl).mpr ⟨i, a1, Or.inr y.symm⟩⟩
          · rintro ⟨j, hj, y⟩
            by_cases q : j = l
            · subst q
              obtain ⟨k, hk, y2⟩ := (hD.cl hl).mp y
              have hk : k < pF D j := hk
              by_cases q2 : k = i
              · subst q2
                rcases y2 with y2 | y2
                · exact Or.inr (Or.inl y2.symm)
                · exact Or.inr (Or.inr y2.symm)
              · exact Or.inl (Or.inr ⟨k, by omega, y2⟩)
            · exact Or.inl (Or.inl ⟨j, by omega, y⟩)
        · have hi : i + 1 < pF D l := by
            rcases Nat.lt_or_ge (i + 1) (pF D l) with q | q
            · exact q
            · have : i + 1 = pF D l := by omega
              exact absurd (by rw [this]; exact congrArg _ hper.2.2.1) z
          rw [show (i : Int) + 1 = ((i + 1 : Nat) : Int) by omega]
          refine ih (i + 1) w4 hi (by omega) R4 T4 g0' g1' ⟨_, g10', B3.congr (fun s hs => ?_)⟩ goff'
          constructor
          · rintro ((y | ⟨k, hk, y⟩) | y | y)
            · exact Or.inl y
            · exact Or.inr ⟨k, by omega, y⟩
            · exact Or.inr ⟨i, by omega, Or.inl y.symm⟩
            · exact Or.inr ⟨i, by omega, Or.inr y.symm⟩
          · rintro (y | ⟨k, hk, y⟩)
            · exact Or.inl (Or.inl y)
            · by_cases q2 : k = i
              · subst q2
                rcases y with y2 | y2
                · exact Or.inr (Or.inl y2.symm)
                · exact Or.inr (Or.inr y2.symm)
              · exact Or.inl (Or.inr ⟨k, by omega, y⟩)
      have hi := stA_int (D := D) (itr (nx D) i l)
      rw [R3.1, wr_nat (n := 2 * dM D) (by omega), wr_nat (n := itr (nx D) i l) (by omega)]
      refine ⟨fun z => ?_, fun z => ?_⟩
      · rw [if_pos z] at hi
        rw [hi]; exact fin
      · rw [if_neg z] at hi
        rw [← hi] at fin; exact fin
  unfold X8_follow
  obtain ⟨L, hL, hB⟩ := hs
  have hpp : 0 < pF D l := hper.1
  refine ⟨pF D l + 1, key (pF D l + 1) 0 w hpp (by omega) hR hT h0 (fun j => ?_) ⟨L, hL, hB.congr (fun s _ => ⟨Or.inl, fun y => y.elim id (fun ⟨k, hk, _⟩ => by omega)⟩)⟩ (fun _ _ _ => rfl)⟩
  by_cases q : j = ncl (Fc D) l
  · rw [if_pos q, q, h1]; rfl
  · rw [if_neg q]
