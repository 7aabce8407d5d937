/-! THE WALKER -/
theorem X1_armAt_ok {K : Nat} {Q : Int → Wd → Prop} {w : Wd} {D : Dw} {x1 x2 : Int} (p i : Nat) (h1 : x1 = (p : Int)) (h2 : x2 = (i : Int)) (hW : WF D) (hR : RepX w K D) (hp : p < dN D) (hi : i < dG D p) (hQ : Q (armA D p i : Int) w) : X1_armAt K x1 x2 w Q := by
  subst h1 h2
  obtain ⟨n6, m10, hen, hne, hrow, hinj, hsur⟩ := id hW
  obtain ⟨r0, r1, r2, r3, r4, r5⟩ := hR
  have hl := hrow p i hp hi
  have hd := hW.deg hp
  have he := hen (2 * dR D p i) (by omega)
  unfold X1_armAt
  rw [rd_of (n := 10 * p + i) (by omega) (by omega), r5 p i hp hi]
  refine ⟨ix_of (n := 10 * p + i) (by omega) (by omega) (by decide), ?_⟩
  intro y3 e3
  subst e3
  rw [rd_of (n := 2 * dR D p i) (by omega) (by omega), r3 _ (by omega), wr_nat (n := dE D (2 * dR D p i)) (by omega), wr_nat (n := p) (by omega), wr_id (x := 2 * (dR D p i : Int)) (by omega) (by omega), wr_id (x := 2 * (dR D p i : Int) + 1) (by omega) (by omega)]
  unfold armA at hQ
  refine ⟨ix_of (n := 2 * dR D p i) (by omega) (by omega) (by decide), fun z => ?_, fun z => ?_⟩
  · rw [if_pos (by omega)] at hQ
    rw [show (2 * (dR D p i : Int)) = ((2 * dR D p i + 0 : Nat) : Int) by omega]; exact hQ
  · rw [if_neg (by omega)] at hQ
    rw [show (2 * (dR D p i : Int) + 1) = ((2 * dR D p i + 1 : Nat) : Int) by omega]; exact hQ
/-- three cells of a walker -/
def offW (k : Nat) (w w' : Wd) : Prop := ∀ c j, (c < k ∨ k + 3 ≤ c) → w' c j = w c j
theorem offW_trans {k : Nat} {a b c : Wd} (h : offW k a b) (g : offW k b c) : offW k a c := fun x j hx => by rw [g x j hx, h x j hx]
theorem X9_link_ok {r0 r1 : Nat} {Q : Wd → Prop} {w : Wd} {D : Dw} {x2 x3 : Int} (p t : Nat) (h2 : x2 = (p : Int)) (h3 : x3 = (t : Int)) (hW : WF D) (hR : RepX w r1 D) (hr : r0 + 3 ≤ r1 ∨ r1 + 4 ≤ r0) (hp : p < dN D) (ht : t ≤ dG D p)
    (hQ : ∀ w', (∀ a, a < 2 * dM D → w' (r0 + 1) a = if dE D a = p then (rot D t a : Int) else w (r0 + 1) a) → (∀ a, a < 2 * dM D → w' (r0 + 2) a = if dE D a = p then (rot D (dG D p - t) a : Int) else w (r0 + 2) a) → (∀ c j, c ≠ r0 + 1 → c ≠ r0 + 2 → w' c j = w c j) → Q w') : X9_link r0 r1 x2 x3 w Q := by
  subst h2 h3
  obtain ⟨n6, m10, hen, hne, hrow, hinj, hsur⟩ := id hW
  obtain ⟨g0, g1, g2, g3, g4, g5⟩ := id hR
  have hd := hW.deg hp
  have key : ∀ (m i : Nat) (v : Wd), i ≤ dG D p → dG D p - i < m → (∀ a, a < 2 * dM D → v (r0 + 1) a = if dE D a = p ∧ psA D a < i then (rot D t a : Int) else w (r0 + 1) a) → (∀ a, a < 2 * dM D → v (r0 + 2) a = if dE D a = p ∧ psA D (rot D (dG D p - t) a) < i then (rot D (dG D p - t) a : Int) else w (r0 + 2) a) → (∀ c j, c ≠ r0 + 1 → c ≠ r0 + 2 → v c j = w c j) → X9_link_l11 r0 r1 Q (X9_link_b81 r0 r1 Q) m (p : Int) (t : Int) (dG D p : Int) (i : Int) v := by
    intro m
    induction m with
    | zero => intro i v a1 a2; omega
    | succ m ih =>
      intro i v a1 a2 hb ha ho
      have hRv : RepX v r1 D := RepX.of hR (fun c j _ _ => ho c j (by omega) (by omega))
      unfold X9_link_l11
      rw [wr_nat (n := dG D p) (by omega), wr_nat (n := i) (by omega), wr_id (x := (i : Int) + (t : Int)) (by omega) (by omega)]
      refine ⟨fun z => ?_, fun z => ?_⟩
      · have hi : i = dG D p := by omega
        unfold X9_link_b81
        refine hQ v (fun a hal => ?_) (fun a hal => ?_) ho
        · rw [hb a hal]
          by_cases q : dE D a = p
          · have := (psA_ok hW hal).2.1
            rw [q] at this
            rw [if_pos ⟨q, by omega⟩, if_pos q]
          · rw [if_neg (fun y => q y.1), if_neg q]
        · rw [ha a hal]
          by_cases q : dE D a = p
          · have h1 := rot_ok hW hal (show dG D p - t ≤ dG D (dE D a) by rw [q]; omega)
            have := (psA_ok hW h1.1).2.1
            rw [h1.2.1, q] at this
            rw [if_pos ⟨q, by omega⟩, if_pos q]
          · rw [if_neg (fun y => q y.1), if_neg q]
      · have hi : i < dG D p := by omega
        have hA := armA_ok hW hp hi
        refine X1_armAt_ok p i rfl rfl hW hRv hp hi ?_
        have hj := rnd_lt hi ht
        have hB := armA_ok hW hp hj
        have fin : X9_link_b52 r0 r1 Q (X9_link_l11 r0 r1 Q (X9_link_b81 r0 r1 Q) m) (X9_link_b81 r0 r1 Q) (p : Int) (t : Int) (dG D p : Int) (i : Int) (armA D p i : Int) ((rnd i t (dG D p) : Nat) : Int) (p : Int) v := by
          unfold X9_link_b52
          refine X1_armAt_ok p (rnd i t (dG D p)) rfl rfl hW hRv hp hj ?_
          obtain ⟨A, eA⟩ : ∃ A, A = armA D p i := ⟨_, rfl⟩
          obtain ⟨B, eB⟩ : ∃ B, B = armA D p (rnd i t (dG D p)) := ⟨_, rfl⟩
          rw [← eA] at hA ⊢
          rw [← eB] at hB ⊢
          have pA : psA D A = i := by rw [eA]; exact psA_arm hW hp hi
          have pB : psA D B = rnd i t (dG D p) := by rw [eB]; exact psA_arm hW hp hj
          have rAB : rot D t A = B := by unfold rot; rw [hA.2.1, pA, eB]
          have rBA : rot D (dG D p - t) B = A := by rw [← rAB]; exact rot_rot hW hA.1 (by rw [hA.2.1]; omega)
          refine ⟨ix_of rfl (by omega) (by decide), ?_⟩
          intro w6 e6
          rw [wt_of rfl (by omega)] at e6
          refine ⟨ix_of rfl (by omega) (by decide), ?_⟩
          intro w7 e7
          rw [wt_of rfl (by omega)] at e7
          rw [show (i : Int) + 1 = ((i + 1 : Nat) : Int) by omega]
          refine ih (i + 1) w7 (by omega) (by omega) (fun a hal => ?_) (fun a hal => ?_) (fun c j hc1 hc2 => ?_)
          · rw [e7, up_ap, if_neg (by omega), e6, up_ap]
            by_cases q : a = A
            · rw [if_pos ⟨rfl, q⟩, q, if_pos ⟨hA.2.1, by omega⟩, rAB]
            · rw [if_neg (fun y => q y.2), hb a hal]
              by_cases q2 : dE D a = p ∧ psA D a < i
              · rw [if_pos q2, if_pos ⟨q2.1, by omega⟩]
              · rw [if_neg q2, if_neg]
                rintro ⟨y1, y2⟩
                have : psA D a = i := by
                  rcases Nat.lt_or_ge (psA D a) i with s | s
                  · exact absurd ⟨y1, s⟩ q2
                  · omega
                exact q (by rw [eA, ← this, ← y1]; exact (armA_ps hW hal).symm)
          · rw [e7, up_ap]
            by_cases q : a = B
            · rw [if_pos ⟨rfl, q⟩, q, rBA, if_pos ⟨hB.2.1, by omega⟩]
            · rw [if_neg (fun y => q y.2), e6, up_ap, if_neg (by omega), ha a hal]
              by_cases q2 : dE D a = p ∧ psA D (rot D (dG D p - t) a) < i
              · rw [if_pos q2, if_pos ⟨q2.1, by omega⟩]
              · rw [if_neg q2, if_neg]
                rintro ⟨y1, y2⟩
                have h1 := rot_ok hW hal (show dG D p - t ≤ dG D (dE D a) by rw [y1]; omega)
                have hps : psA D (rot D (dG D p - t) a) = i := by
                  rcases Nat.lt_or_ge (psA D (rot D (dG D p - t) a)) i with s | s
                  · exact absurd ⟨y1, s⟩ q2
                  · omega
                have : rot D (dG D p - t) a = A := by
                  rw [eA, ← hps]
                  have := armA_ps hW h1.1
                  rw [h1.2.1, y1] at this
                  exact this.symm
                refine q ?_
                rw [← rAB, ← this]
                exact (rot_rot hW hal (by rw [y1]; omega)).symm
          · rw [e7, up_ap, if_neg (by omega), e6, up_ap, if_neg (by omega)]; exact ho c j hc1 hc2
        refine ⟨fun y => ?_, fun y => ?_⟩
        · rw [show (i : Int) + (t : Int) - (dG D p : Int) = ((rnd i t (dG D p) : Nat) : Int) by unfold rnd; rw [if_neg (by omega)]; omega]
          exact fin
        · rw [show (i : Int) + (t : Int) = ((rnd i t (dG D p) : Nat) : Int) by unfold rnd; rw [if_pos (by omega)]; omega]
          exact fin
  unfold X9_link
  refine ⟨ix_of rfl (by omega) (by decide), ?_⟩
  intro y1 e1
  rw [rd_of rfl (by omega), g4 p hp] at e1
  subst e1
  exact ⟨dG D p + 1, key (dG D p + 1) 0 w (by omega) (by omega) (fun a _ => by rw [if_neg (by omega)]) (fun a _ => by rw [if_neg (by omega)]) (fun _ _ _ _ => rfl)⟩
/-- the walker holds a drawing -/
def RepW (w : Wd) (k : Nat) (D : Dw) : Prop := w k 0 = ((2 * dM D : Nat) : Int) ∧ (∃ t : Nat, w k 1 = t ∧ t < 1024 ∧ ∀ e, t.testBit e = (decide (e < dM D) && dT D e)) ∧ (∀ a, a < 2 * dM D → w (k + 1) a = bh D a) ∧ (∀ a, a < 2 * dM D → w (k + 2) a = ah D a)
theorem RepW.of {w w' : Wd} {k : Nat} {D : Dw} (h : RepW w k D) (he : ∀ c j, k ≤ c → c < k + 3 → w' c j = w c j) : RepW w' k D := by
  obtain ⟨r0, ⟨t, rt, ht⟩, r2, r3⟩ := h
  exact ⟨by rw [he _ _ (by omega) (by omega)]; exact r0, ⟨t, by rw [he _ _ (by omega) (by omega)]; exact rt, ht⟩, fun a ha => by rw [he _ _ (by omega) (by omega)]; exact r2 a ha, fun a ha => by rw [he _ _ (by omega) (by omega)]; exact r3 a ha⟩
theorem X9_enter_ok {r0 r1 : Nat} {Q : Wd → Prop} {w : Wd} {D : Dw} (hW : WF D) (hR : RepX w r1 D) (hr : r0 + 3 ≤ r1 ∨ r1 + 4 ≤ r0) (hQ : ∀ w', RepW w' r0 D → offW r0 w w' → Q w') : X9_enter r0 r1 w Q := by
  obtain ⟨n6, m10, hen, hne, hrow, hinj, hsur⟩ := id hW
  obtain ⟨g0, g1, ⟨t, gt, ht, htb⟩, g3, g4, g5⟩ := id hR
  have key : ∀ (m p : Nat) (v : Wd), p ≤ dN D → dN D - p < m → v r0 0 = ((2 * dM D : Nat) : Int) → v r0 1 = t → (∀ a, a < 2 * dM D → dE D a < p → v (r0 + 1) a = bh D a ∧ v (r0 + 2) a = ah D a) → offW r0 w v → X9_enter_l20 r0 r1 Q (X9_enter_b41 r0 r1 Q) m (p : Int) v := by
    intro m
    induction m with
    | zero => intro p v a1 a2; omega
    | succ m ih =>
      intro p v a1 a2 v0 v1 hv ho
      have hRv : RepX v r1 D := RepX.of hR (fun c j _ _ => ho c j (by omega))
      unfold X9_enter_l20
      rw [hRv.1, wr_nat (n := dN D) (by omega), wr_nat (n := p) (by omega)]
      refine ⟨fun z => ?_, fun z => ?_⟩
      · unfold X9_enter_b41
        exact hQ v ⟨v0, ⟨t, v1, ht, htb⟩, fun a ha => (hv a ha (by have := hen a ha; omega)).1, fun a ha => (hv a ha (by have := hen a ha; omega)).2⟩ ho
      · have hp : p < dN D := by omega
        by_cases hg : dG D p = 0
        · -- a post with no line
          unfold X9_link
          refine ⟨ix_of rfl (by omega) (by decide), ?_⟩
          intro y1 e1
          rw [rd_of rfl (by omega), hRv.2.2.2.2.1 p hp, hg] at e1
          subst e1
          refine ⟨1, ?_⟩
          unfold X9_link_l11
          refine ⟨fun _ => ?_, fun y => absurd (by decide) y⟩
          unfold X9_link_b81
          rw [show (p : Int) + 1 = ((p + 1 : Nat) : Int) by omega]
          refine ih (p + 1) v (by omega) (by omega) v0 v1 (fun a ha hap => hv a ha ?_) ho
          rcases Nat.lt_or_ge (dE D a) p with s | s
          · exact s
          · have h1 := (psA_ok hW ha).2.1
            rw [show dE D a = p by omega, hg] at h1
            omega
        · refine X9_link_ok p 1 rfl rfl hW hRv hr hp (by omega) (fun w3 hb ha ho3 => ?_)
          rw [show (p : Int) + 1 = ((p + 1 : Nat) : Int) by omega]
          refine ih (p + 1) w3 (by omega) (by omega) (by rw [ho3 _ _ (by omega) (by omega)]; exact v0) (by rw [ho3 _ _ (by omega) (by omega)]; exact v1) (fun a hal hap => ?_) (fun c j hc => by rw [ho3 _ _ (by omega) (by omega)]; exact ho c j hc)
          rw [hb a hal, ha a hal]
          by_cases q : dE D a = p
          · rw [if_pos q, if_pos q]
            refine ⟨rfl, ?_⟩
            unfold ah
            rw [q]
          · rw [if_neg q, if_neg q]
            exact hv a hal (by omega)
  unfold X9_enter
  intro w1 e1 w2 e2
  rw [g1] at e1
  have f2 : w1 r1 2 = t := by rw [e1, up_ap, if_neg (by omega)]; exact gt
  rw [f2] at e2
  refine ⟨dN D + 1, key (dN D + 1) 0 w2 (by omega) (by omega) ?_ (by rw [e2, up_eq]) (fun a _ h => absurd h (Nat.not_lt_zero _)) (fun c j hc => by rw [e2, up_ap, if_neg (by omega), e1, up_ap, if_neg (by omega)])⟩
  rw [e2, up_ap, if_neg (by omega), e1, up_eq]
  omega
section STEP
variable {K : Nat} {Q : Int → Wd → Prop} {w : Wd} {D : Dw} {x : Int}
theorem stA_int {D : Dw} (s : Nat) : (if ((2 * dM D : Nat) : Int) ≤ (s : Int) then (s : Int) - ((2 * dM D : Nat) : Int) else (s : Int)) = ((stA D s : Nat) : Int) := by
  unfold stA
  by_cases z : s < 2 * dM D
  · rw [if_neg (by omega), if_pos z]
  · rw [if_pos (by omega), if_neg z]; omega
theorem X9_otherEnd_ok (hm : dM D ≤ 10) (hR : RepW w K D) (s : Nat) (hx : x = (s : Int)) (hs : s < 4 * dM D) (hQ : Q (ox (stA D s) : Int) w) : X9_otherEnd K x w Q := by
  subst hx
  have hA := stA_lt hs
  have ho := ox_lt hA
  have e : ∀ y : Int, y = (stA D s : Int) → wr (ixo y 1) = (ox (stA D s) : Int) := fun y hy => by
    rw [hy, show (1 : Int) = ((1 : Nat) : Int) from rfl, ixo_nat (by omega) (by omega), ox_xor (by omega), wr_nat (by omega)]
  unfold X9_otherEnd
  rw [hR.1, wr_nat (n := 2 * dM D) (by omega), wr_nat (n := s) (by omega)]
  have hi := stA_int (D := D) s
  refine ⟨fun z => ?_, fun z => ?_⟩
  · rw [if_pos z] at hi
    rw [e _ hi]; exact hQ
  · rw [if_neg z] at hi
    rw [e _ hi]; exact hQ
theorem X9_comesBack_ok (hm : dM D ≤ 10) (hR : RepW w K D) (s : Nat) (hx : x = (s : Int)) (hs : s < 4 * dM D) (h1 : cbk D s = true → Q 1 w) (h0 : cbk D s = false → Q 0 w) : X9_comesBack K x w Q := by
  subst hx
  have hA := stA_lt hs
  obtain ⟨r0, ⟨t, rt, ht, htb⟩, r2, r3⟩ := hR
  have hi := stA_int (D := D) s
  have fin : X9_comesBack_b18 K Q (s : Int) ((stA D s : Nat) : Int) w := by
    unfold X9_comesBack_b18
    rw [r0, wr_nat (n := 2 * dM D) (by omega), wr_nat (n := s) (by omega)]
    have tail : ∀ b : Bool, b = stB D s → X9_comesBack_b32 K Q ((stA D s : Nat) : Int) (if b then 1 else 0) w := by
      intro b hb
      unfold X9_comesBack_b32
      rw [rt, show (1 : Int) = ((1 : Nat) : Int) from rfl, isr_nat (k := 1) (by omega) (by omega), show (stA D s / 2 ^ 1) = stA D s / 2 from rfl, show ((1 : Nat) : Int) = (1 : Int) from rfl, isr_bit (by omega) (by omega), htb, decide_eq_true (by omega : stA D s / 2 < dM D)]
      have hc : cbk D s = (b ^^ dT D (stA D s / 2)) := by rw [hb]; rfl
      unfold X9_comesBack_b50
      cases b <;> cases hT : dT D (stA D s / 2) <;> rw [hT] at hc
      · exact ⟨fun _ => ⟨fun _ => h0 hc, fun y => absurd rfl y⟩, fun y => absurd rfl y⟩
      · exact ⟨fun y => absurd y (by decide), fun _ => ⟨fun y => absurd y (by decide), fun _ => h1 hc⟩⟩
      · exact ⟨fun _ => ⟨fun y => absurd y (by decide), fun _ => h1 hc⟩, fun y => absurd rfl y⟩
      · exact ⟨fun y => absurd y (by decide), fun _ => ⟨fun _ => h0 hc, fun y => absurd rfl y⟩⟩
    refine ⟨fun z => tail false ?_, fun z => tail true ?_⟩
    · unfold stB; exact (decide_eq_false (by omega)).symm
    · unfold stB; exact (decide_eq_true (by omega)).symm
  unfold X9_comesBack
  rw [r0, wr_nat (n := 2 * dM D) (by omega), wr_nat (n := s) (by omega)]
  refine ⟨fun z => ?_, fun z => ?_⟩
  · rw [if_pos z] at hi
    rw [hi]; exact fin
  · rw [if_neg z] at hi
    rw [← hi] at fin; exact fin
theorem X9_next_ok (hW : WF D) (hR : RepW w K D) (s : Nat) (hx : x = (s : Int)) (hs : s < 4 * dM D) (hQ : Q (nx D s : Int) w) : X9_next K x w Q := by
  have hm := hW.2.1
  have hA := stA_lt hs
  have ho := ox_lt hA
  have hn := nx_arm hW hs
  unfold X9_next
  refine X9_otherEnd_ok hm hR s hx hs (X9_comesBack_ok hm hR s hx hs (fun hc => ?_) (fun hc => ?_))
  · refine ⟨fun z => absurd z (by decide), fun _ => ⟨ix_of rfl (by omega) (by decide), ?_⟩⟩
    rw [rd_of rfl (by omega), hR.1, hR.2.2.2 _ ho]
    rw [if_pos hc] at hn
    have e : nx D s = 2 * dM D + ah D (ox (stA D s)) := by unfold nx enc; rw [hc]; rfl
    rw [e] at hQ
    rw [show ((2 * dM D : Nat) : Int) + (ah D (ox (stA D s)) : Int) = ((2 * dM D + ah D (ox (stA D s)) : Nat) : Int) by omega, wr_nat (by omega)]
    exact hQ
  · refine ⟨fun _ => ⟨ix_of rfl (by omega) (by decide), ?_⟩, fun z => absurd rfl z⟩
    rw [rd_of rfl (by omega), hR.2.2.1 _ ho]
    rw [hc] at hn
    have e : nx D s = bh D (ox (stA D s)) := by unfold nx enc; rw [hc]; rfl
    rw [e] at hQ
    have := hn.1
    simp only [Bool.false_eq_true, if_false] at this
    rw [wr_nat (by omega)]
    exact hQ
theorem X9_opposite_ok (hW : WF D) (hR : RepW w K D) (s : Nat) (hx : x = (s : Int)) (hs : s < 4 * dM D) (hQ : Q (mi D s : Int) w) : X9_opposite K x w Q := by
  have hm := hW.2.1
  have hA := stA_lt hs
  have ho := ox_lt hA
  unfold X9_opposite
  refine X9_otherEnd_ok hm hR s hx hs (X9_comesBack_ok hm hR s hx hs (fun hc => ?_) (fun hc => ?_))
  · refine ⟨fun z => absurd z (by decide), fun _ => ?_⟩
    have e : mi D s = ox (stA D s) := by unfold mi enc; rw [hc]; rfl
    rw [e] at hQ
    rw [wr_nat (by omega)]
    exact hQ
  · refine ⟨fun _ => ?_, fun z => absurd rfl z⟩
    have e : mi D s = 2 * dM D + ox (stA D s) := by unfold mi enc; rw [hc]; rfl
    rw [e] at hQ
    rw [hR.1, show ((2 * dM D : Nat) : Int) + (ox (stA D s) : Int) = ((2 * dM D + ox (stA D s) : Nat) : Int) by omega, wr_nat (by omega)]
    exact hQ
end STEP
