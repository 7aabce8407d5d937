/-! EXCHANGE; a line's number, a post's number goes: drawings as they lie, whatever they are -/
theorem X1_swap_ok {k : Nat} {Q : Wd → Prop} {w : Wd} {x1 x2 : Int} (a b : Nat) (h1 : x1 = (a : Int)) (h2 : x2 = (b : Int)) (ha : a < 60) (hb : b < 60) (hQ : Q (up (up w (k + 3) a (w (k + 3) b)) (k + 3) b (w (k + 3) a))) : X1_swap k x1 x2 w Q := by
  subst h1 h2
  unfold X1_swap
  refine ⟨ix_of rfl ha (by decide), ?_⟩
  intro y1 e1
  rw [rd_of (n := a) rfl (by omega)] at e1
  refine ⟨ix_of rfl hb (by decide), ix_of rfl ha (by decide), ?_⟩
  intro w2 e2
  rw [wt_of (n := a) rfl (by omega), rd_of (n := b) rfl (by omega)] at e2
  refine ⟨ix_of rfl hb (by decide), ?_⟩
  intro w3 e3
  rw [wt_of (n := b) rfl (by omega)] at e3
  subst e1 e2 e3
  exact hQ
theorem xch_next {i d : Nat} (hi : i < d) : (i + 1) % d = if i + 1 = d then 0 else i + 1 := by
  split
  · rename_i h; rw [h, Nat.mod_self]
  · exact Nat.mod_eq_of_lt (by omega)
theorem X1_swapWithNext_ok {k : Nat} {Q : Wd → Prop} {w : Wd} {D : Dw} {x1 x2 : Int} (p i : Nat) (h1 : x1 = (p : Int)) (h2 : x2 = (i : Int)) (hW : WF D) (hp : p < dN D) (hi : i < dG D p) (hR : RepX w k D) (hQ : ∀ w', RepX w' k (dXch D p i) → offX k w w' → Q w') : X1_swapWithNext k x1 x2 w Q := by
  subst h1 h2
  obtain ⟨n6, m10, hen, hne, hrow, hinj, hsur⟩ := id hW
  obtain ⟨r0, r1, r2, r3, r4, r5⟩ := hR
  have hdp := hW.deg hp
  obtain ⟨n, hn⟩ : ∃ n, n = (i + 1) % dG D p := ⟨_, rfl⟩
  have hnl : n < dG D p := by rw [hn]; exact Nat.mod_lt _ (by omega)
  have hnx := xch_next hi
  rw [← hn] at hnx
  have fin : X1_swap k (((10 * p + i : Nat)) : Int) (((10 * p + n : Nat)) : Int) w Q := by
    refine X1_swap_ok _ _ rfl rfl (by omega) (by omega) (hQ _ ⟨?_, ?_, ?_, ?_, ?_, ?_⟩ ?_)
    · rw [up_ap, if_neg (by omega), up_ap, if_neg (by omega)]; exact r0
    · rw [up_ap, if_neg (by omega), up_ap, if_neg (by omega)]; exact r1
    · obtain ⟨t, ht, h⟩ := r2
      exact ⟨t, by rw [up_ap, if_neg (by omega), up_ap, if_neg (by omega)]; exact ht, h⟩
    · intro j hj; rw [up_ap, if_neg (by omega), up_ap, if_neg (by omega)]; exact r3 j hj
    · intro q hq; rw [up_ap, if_neg (by omega), up_ap, if_neg (by omega)]; exact r4 q hq
    · intro q j hq hj
      have hq : q < dN D := hq
      have hj : j < dG D q := hj
      have hdq := hW.deg hq
      show _ = ((if q = p then (if j = i then dR D q ((i + 1) % dG D q) else if j = (i + 1) % dG D q then dR D q i else dR D q j) else dR D q j : Nat) : Int)
      rw [up_ap, up_ap]
      by_cases z : q = p
      · subst z
        rw [if_pos rfl, ← hn]
        by_cases z2 : j = n
        · rw [if_pos ⟨rfl, by omega⟩]
          by_cases z3 : j = i
          · rw [if_pos z3, show i = n by omega]; exact r5 q n hq hnl
          · rw [if_neg z3, if_pos z2]; exact r5 q i hq hi
        · rw [if_neg (by omega)]
          by_cases z3 : j = i
          · rw [if_pos ⟨rfl, by omega⟩, if_pos z3]; exact r5 q n hq hnl
          · rw [if_neg (by omega), if_neg z3, if_neg z2]; exact r5 q j hq hj
      · rw [if_neg (by omega), if_neg (by omega), if_neg z]; exact r5 q j hq hj
    · intro c j hc; rw [up_ap, if_neg (by omega), up_ap, if_neg (by omega)]
  unfold X1_swapWithNext
  intro y1 e1
  subst e1
  rw [rd_of (n := p) rfl (by omega), r4 p hp, wr_nat (n := dG D p) (by omega), wr_id (x := (i : Int) + 1) (by omega) (by omega)]
  refine ⟨ix_of rfl (by omega) (by decide), fun q => ?_, fun q => ?_⟩
  · unfold X1_swapWithNext_b30
    rw [if_pos (by omega)] at hnx
    rw [show (p : Int) * 10 + i = ((10 * p + i : Nat) : Int) by omega, show (p : Int) * 10 = ((10 * p + n : Nat) : Int) by omega]
    exact fin
  · unfold X1_swapWithNext_b30
    rw [if_neg (by omega)] at hnx
    rw [show (p : Int) * 10 + i + 1 = ((10 * p + n : Nat) : Int) by omega, show (p : Int) * 10 + i = ((10 * p + i : Nat) : Int) by omega]
    exact fin
def mXchB (Q : Int → Wd → Prop) (x1 x2 : Int) (w5 : Wd) : Prop := (∀ y6, y6 = (38 + (10 * x1)) → (ix (32 + x1) 98 ∧ (¬ wr (rd w5 73 (32 + x1)) = 0 ∧ (∀ y7, y7 = (irm (x2 + 1) (rd w5 73 (32 + x1))) → (ix (y6 + x2) 98 ∧ (∀ y8, y8 = (rd w5 73 (y6 + x2)) → (ix (y6 + y7) 98 ∧ (ix (y6 + x2) 98 ∧ (∀ w9, w9 = wt w5 73 (y6 + x2) (rd w5 73 (y6 + y7)) → (ix (y6 + y7) 98 ∧ (∀ w10, w10 = wt w9 73 (y6 + y7) y8 → Q 1 w10)))))))))))
theorem mXchB_ok {Q : Int → Wd → Prop} {w : Wd} {D : Dw} {x1 x2 : Int} (p i : Nat) (h1 : x1 = (p : Int)) (h2 : x2 = (i : Int)) (hW : WF D) (hp : p < dN D) (hi : i < dG D p) (hR : RepM w 73 D) (hQ : ∀ w', RepM w' 73 (dXch D p i) → offM 73 w w' → Q 1 w') : mXchB Q x1 x2 w := by
  subst h1 h2
  obtain ⟨n6, m10, hen, hne, hrow, hinj, hsur⟩ := id hW
  obtain ⟨r0, r1, r3, rt, r4, r5⟩ := hR
  have hdp := hW.deg hp
  obtain ⟨n, hn⟩ : ∃ n, n = (i + 1) % dG D p := ⟨_, rfl⟩
  have hnl : n < dG D p := by rw [hn]; exact Nat.mod_lt _ (by omega)
  unfold mXchB
  intro y6 e6
  subst e6
  rw [rd_of (n := 32 + p) (by omega) (by omega), r4 p hp]
  refine ⟨ix_of (n := 32 + p) (by omega) (by omega) (by decide), ?_, ?_⟩
  · rw [wr_nat (n := dG D p) (by omega)]; omega
  intro y7 e7
  rw [show (i : Int) + 1 = ((i + 1 : Nat) : Int) by omega, irm_nat (by omega) (by omega) (by omega), ← hn] at e7
  subst e7
  refine ⟨ix_of (n := 38 + 10 * p + i) (by omega) (by omega) (by decide), ?_⟩
  intro y8 e8
  rw [rd_of (n := 38 + 10 * p + i) (by omega) (by omega), r5 p i hp hi] at e8
  refine ⟨ix_of (n := 38 + 10 * p + n) (by omega) (by omega) (by decide), ix_of (n := 38 + 10 * p + i) (by omega) (by omega) (by decide), ?_⟩
  intro w9 e9
  rw [wt_of (n := 38 + 10 * p + i) (by omega) (by omega), rd_of (n := 38 + 10 * p + n) (by omega) (by omega), r5 p n hp hnl] at e9
  refine ⟨ix_of (n := 38 + 10 * p + n) (by omega) (by omega) (by decide), ?_⟩
  intro w10 e10
  rw [wt_of (n := 38 + 10 * p + n) (by omega) (by omega)] at e10
  subst e8 e9 e10
  refine hQ _ ⟨?_, ?_, ?_, ?_, ?_, ?_⟩ ?_
  · rw [up_ap, if_neg (by omega), up_ap, if_neg (by omega)]; exact r0
  · rw [up_ap, if_neg (by omega), up_ap, if_neg (by omega)]; exact r1
  · intro j hj
    have hj : j < 2 * dM D := hj
    rw [up_ap, if_neg (by omega), up_ap, if_neg (by omega)]; exact r3 j hj
  · intro j hj
    have hj : j < dM D := hj
    rw [up_ap, if_neg (by omega), up_ap, if_neg (by omega)]; exact rt j hj
  · intro q hq
    have hq : q < dN D := hq
    rw [up_ap, if_neg (by omega), up_ap, if_neg (by omega)]; exact r4 q hq
  · intro q j hq hj
    have hq : q < dN D := hq
    have hj : j < dG D q := hj
    have hdq := hW.deg hq
    show _ = ((if q = p then (if j = i then dR D q ((i + 1) % dG D q) else if j = (i + 1) % dG D q then dR D q i else dR D q j) else dR D q j : Nat) : Int)
    rw [up_ap, up_ap]
    by_cases z : q = p
    · subst z
      rw [if_pos rfl, ← hn]
      by_cases z2 : j = n
      · rw [if_pos ⟨rfl, by omega⟩]
        by_cases z3 : j = i
        · rw [if_pos z3, show i = n by omega]
        · rw [if_neg z3, if_pos z2]
      · rw [if_neg (by omega)]
        by_cases z3 : j = i
        · rw [if_pos ⟨rfl, by omega⟩, if_pos z3]
        · rw [if_neg (by omega), if_neg z3, if_neg z2]; exact r5 q j hq hj
    · rw [if_neg (by omega), if_neg (by omega), if_neg z]; exact r5 q j hq hj
  · intro c j hc; rw [up_ap, if_neg (by omega), up_ap, if_neg (by omega)]
/-- a line's number goes; a post's number goes -/
def clD (D : Dw) (e : Nat) : Dw := (dN D, dM D - 1, (fun i => if i < 2 * e then dE D i else dE D (i + 2)), (fun i => if i < e then dT D i else dT D (i + 1)), dG D, (fun p i => low e (dR D p i)))
def cpD (D : Dw) (b : Nat) : Dw := (dN D - 1, dM D, (fun i => low b (dE D i)), dT D, (fun p => dG D (if p < b then p else p + 1)), (fun p i => dR D (if p < b then p else p + 1) i))
/-- bounds alone -/
def Bd (D : Dw) : Prop := dN D ≤ 6 ∧ dM D ≤ 10 ∧ (∀ p, p < dN D → dG D p ≤ 10) ∧ (∀ p i, p < dN D → i < dG D p → dR D p i < 100) ∧ ∀ i, i < 2 * dM D → dE D i < 100
theorem X1_closeLine_rep {k : Nat} {Q : Wd → Prop} {w : Wd} {D : Dw} {x1 : Int} (e : Nat) (h1 : x1 = (e : Int)) (hB : Bd D) (he : e < dM D) (hR : RepX w k D) (hQ : ∀ w', RepX w' k (clD D e) → offX k w w' → Q w') : X1_closeLineNumber k x1 w Q := by
  obtain ⟨n6, m10, hg, hr, hen⟩ := hB
  obtain ⟨r0, r1, ⟨t, rt, ht, htb⟩, r3, r4, r5⟩ := hR
  refine X1_closeLine_ok e (dN D) (dM D) t (dG D) h1 he n6 m10 ht r0 r1 rt (fun q hq => ⟨r4 q hq, hg q hq⟩) (fun q i hq hi => ⟨_, r5 q i hq hi, hr q i hq hi⟩) ?_
  refine hQ _ ⟨?_, ?_, ⟨bdel t e, ?_, bdel_lt ht, fun i => ?_⟩, ?_, ?_, ?_⟩ ?_
  · unfold clX
    rw [if_neg (by omega), if_neg (by omega), if_neg (by omega), if_neg (by omega)]
    exact r0
  · unfold clX
    rw [if_pos ⟨rfl, rfl⟩]
    show (dM D : Int) - 1 = ((dM D - 1 : Nat) : Int)
    omega
  · unfold clX
    rw [if_neg (by omega), if_pos ⟨rfl, rfl⟩]
  · rw [bdel_bit ht (by omega), htb, htb]
    show _ = (decide (i < dM D - 1) && if i < e then dT D i else dT D (i + 1))
    by_cases q : i < e
    · rw [if_pos q, if_pos q, decide_eq_true (by omega : i < dM D), decide_eq_true (by omega : i < dM D - 1)]
    · rw [if_neg q, if_neg q]
      by_cases q2 : i < dM D - 1
      · rw [decide_eq_true q2, decide_eq_true (by omega : i + 1 < dM D)]
      · rw [decide_eq_false q2, decide_eq_false (by omega : ¬ i + 1 < dM D)]
  · intro i hi
    have hi : i < 2 * (dM D - 1) := hi
    unfold clX
    show _ = ((if i < 2 * e then dE D i else dE D (i + 2) : Nat) : Int)
    rw [if_neg (by omega), if_neg (by omega)]
    by_cases q : i < 2 * e
    · rw [if_neg (by omega), if_neg (by omega), if_pos q]
      exact r3 i (by omega)
    · rw [if_pos (by omega), if_neg q]
      exact r3 (i + 2) (by omega)
  · intro p hp
    unfold clX
    rw [if_neg (by omega), if_neg (by omega), if_neg (by omega), if_neg (by omega)]
    exact r4 p hp
  · intro p i hp hi
    have hp : p < dN D := hp
    have hi : i < dG D p := hi
    have h2 := hg p hp
    have h3 : (10 * p + i) / 10 = p := by omega
    have h4 : (10 * p + i) % 10 = i := by omega
    show _ = ((low e (dR D p i) : Nat) : Int)
    unfold clX
    rw [if_neg (by omega), if_neg (by omega), if_neg (by omega), h3, h4, ← low_int (r5 p i hp hi)]
    by_cases q : (e : Int) < w (k + 3) (10 * p + i)
    · rw [if_pos ⟨rfl, hp, hi, q⟩, if_pos q]
    · rw [if_neg (fun z => q z.2.2.2), if_neg q]
  · intro c j hc
    unfold clX
    rw [if_neg (by omega), if_neg (by omega), if_neg (by omega), if_neg (by omega)]
theorem X11_closesUp_rep {r : Nat} {Q : Wd → Prop} {w : Wd} {D : Dw} {x1 : Int} (e : Nat) (h1 : x1 = (e : Int)) (hB : Bd D) (he : e < dM D) (hR : RepM w r D) (hQ : ∀ w', RepM w' r (clD D e) → offM r w w' → Q w') : X11_closesUp r x1 w Q := by
  obtain ⟨n6, m10, hg, hr, hen⟩ := hB
  obtain ⟨r0, r1, r3, rt, r4, r5⟩ := hR
  refine X11_closesUp_ok e (dN D) (dM D) (dG D) h1 he n6 m10 r0 r1 (fun q hq => ⟨r4 q hq, hg q hq⟩) (fun q i hq hi => ⟨_, r5 q i hq hi, hr q i hq hi⟩) ?_
  refine hQ _ ⟨?_, ?_, ?_, ?_, ?_, ?_⟩ ?_
  · unfold clM
    rw [if_neg (by omega), if_neg (by omega), if_neg (by omega), if_neg (by omega)]
    exact r0
  · unfold clM
    rw [if_pos ⟨rfl, rfl⟩]
    show (dM D : Int) - 1 = ((dM D - 1 : Nat) : Int)
    omega
  · intro i hi
    have hi : i < 2 * (dM D - 1) := hi
    unfold clM
    show _ = ((if i < 2 * e then dE D i else dE D (i + 2) : Nat) : Int)
    rw [if_neg (by omega)]
    by_cases q : i < 2 * e
    · rw [if_neg (by omega), if_neg (by omega), if_neg (by omega), if_pos q]
      exact r3 i (by omega)
    · rw [if_pos (by omega), if_neg q, show 2 + i + 2 = 2 + (i + 2) by omega]
      exact r3 (i + 2) (by omega)
  · intro i hi
    have hi : i < dM D - 1 := hi
    unfold clM
    show _ = if (if i < e then dT D i else dT D (i + 1)) then (1 : Int) else 0
    rw [if_neg (by omega), if_neg (by omega)]
    by_cases q : i < e
    · rw [if_neg (by omega), if_neg (by omega), if_pos q]
      exact rt i (by omega)
    · rw [if_pos (by omega), if_neg q, show 22 + i + 1 = 22 + (i + 1) by omega]
      exact rt (i + 1) (by omega)
  · intro p hp
    have hp : p < dN D := hp
    unfold clM
    rw [if_neg (by omega), if_neg (by omega), if_neg (by omega), if_neg (by omega)]
    exact r4 p hp
  · intro p i hp hi
    have hp : p < dN D := hp
    have hi : i < dG D p := hi
    have h2 := hg p hp
    have h3 : (38 + 10 * p + i - 38) / 10 = p := by omega
    have h4 : (38 + 10 * p + i - 38) % 10 = i := by omega
    show _ = ((low e (dR D p i) : Nat) : Int)
    unfold clM
    rw [if_neg (by omega), if_neg (by omega), if_neg (by omega), h3, h4, ← low_int (r5 p i hp hi)]
    by_cases q : (e : Int) < w r (38 + 10 * p + i)
    · rw [if_pos ⟨rfl, by omega, hp, hi, q⟩, if_pos q]
    · rw [if_neg (fun z => q z.2.2.2.2), if_neg q]
  · intro c j hc
    unfold clM
    rw [if_neg (fun z => hc z.1), if_neg (fun z => hc z.1), if_neg (fun z => hc z.1), if_neg (fun z => hc z.1)]
theorem X1_closePost_rep {k : Nat} {Q : Wd → Prop} {w : Wd} {D : Dw} {x1 : Int} (b : Nat) (h1 : x1 = (b : Int)) (hB : Bd D) (hb : b < dN D) (hR : RepX w k D) (hQ : ∀ w', RepX w' k (cpD D b) → offX k w w' → Q w') : X1_closePostNumber k x1 w Q := by
  subst h1
  obtain ⟨n6, m10, hg, hr, hen⟩ := hB
  obtain ⟨r0, r1, ⟨t, rt, ht, htb⟩, r3, r4, r5⟩ := hR
  have key2 : ∀ (m j : Nat) (v : Wd), j ≤ 2 * dM D → 2 * dM D - j < m → v k 0 = (dN D : Int) - 1 → v k 1 = dM D → v k 2 = t → (∀ i, i < 2 * dM D → v (k + 1) i = if i < j then (low b (dE D i) : Int) else (dE D i : Int)) → (∀ p, p < dN D - 1 → v (k + 2) p = dG D (if p < b then p else p + 1)) → (∀ p i, p < dN D - 1 → i < dG D (if p < b then p else p + 1) → v (k + 3) (10 * p + i) = dR D (if p < b then p else p + 1) i) → offX k w v → X1_closePostNumber_l67 k Q (X1_closePostNumber_b103 k Q) m (b : Int) (j : Int) v := by
    intro m
    induction m with
    | zero => intro j v g1 g2; omega
    | succ m ih =>
      intro j v g1 g2 v0 v1 v2 v3 v4 v5 voff
      unfold X1_closePostNumber_l67
      rw [v1, wr_id (x := 2 * (dM D : Int)) (by omega) (by omega), wr_nat (n := j) (by omega), wr_nat (n := b) (by omega)]
      refine ⟨fun q => ?_, fun q => ⟨ix_of rfl (by omega) (by decide), ?_⟩⟩
      · have hj : j = 2 * dM D := by omega
        unfold X1_closePostNumber_b103
        refine hQ v ⟨?_, v1, ⟨t, v2, ht, htb⟩, fun i hi => ?_, v4, v5⟩ voff
        · rw [v0]; show (dN D : Int) - 1 = ((dN D - 1 : Nat) : Int); omega
        · have hi : i < 2 * dM D := hi
          rw [v3 i hi, if_pos (by omega)]; rfl
      · have hj : j < 2 * dM D := by omega
        have hEj := hen j hj
        have hvj : v (k + 1) j = (dE D j : Int) := by rw [v3 j hj, if_neg (by omega)]
        rw [rd_of (n := j) rfl (by omega), hvj, wr_nat (n := dE D j) (by omega), show (j : Int) + 1 = ((j + 1 : Nat) : Int) by omega]
        refine ⟨fun z => ?_, fun z => ⟨ix_of rfl (by omega) (by decide), ix_of rfl (by omega) (by decide), ?_⟩⟩
        · refine ih (j + 1) v (by omega) (by omega) v0 v1 v2 (fun i hi => ?_) v4 v5 voff
          rw [v3 i hi]
          by_cases y : i = j
          · subst y
            rw [if_neg (by omega), if_pos (by omega)]
            unfold low
            rw [if_neg (by omega)]
          · by_cases y2 : i < j
            · rw [if_pos y2, if_pos (by omega)]
            · rw [if_neg y2, if_neg (by omega)]
        · intro w4 e4
          rw [wt_of (n := j) rfl (by omega)] at e4
          refine ih (j + 1) w4 (by omega) (by omega) ?_ ?_ ?_ (fun i hi => ?_) (fun p hp => ?_) (fun p i hp hi => ?_) (fun c i hc => ?_)
          · rw [e4, up_ap, if_neg (by omega)]; exact v0
          · rw [e4, up_ap, if_neg (by omega)]; exact v1
          · rw [e4, up_ap, if_neg (by omega)]; exact v2
          · rw [e4, up_ap]
            by_cases y : i = j
            · subst y
              rw [if_pos ⟨rfl, rfl⟩, if_pos (by omega)]
              unfold low
              rw [if_pos (by omega)]
              omega
            · rw [if_neg (by omega), v3 i hi]
              by_cases y2 : i < j
              · rw [if_pos y2, if_pos (by omega)]
              · rw [if_neg y2, if_neg (by omega)]
          · rw [e4, up_ap, if_neg (by omega)]; exact v4 p hp
          · rw [e4, up_ap, if_neg (by omega)]; exact v5 p i hp hi
          · rw [e4, up_ap, if_neg (by omega)]; exact voff c i hc
  have key : ∀ (m p : Nat) (v : Wd), b ≤ p → p < dN D → dN D - p < m → (∀ c j, v c j = if c = k + 2 ∧ b ≤ j ∧ j < p then w c (j + 1) else if c = k + 3 ∧ 10 * b ≤ j ∧ j < 10 * p then w c (j + 10) else w c j) → X1_closePostNumber_l2 k Q (X1_closePostNumber_b55 k Q) m (b : Int) (p : Int) v := by
    intro m
    induction m with
    | zero => intro p v g1 g2; omega
    | succ m ih =>
      intro p v g0 g1 g2 hv
      unfold X1_closePostNumber_l2
      have v0 : v k 0 = dN D := by rw [hv, if_neg (by omega), if_neg (by omega)]; exact r0
      rw [v0, wr_nat (n := dN D) (by omega), wr_id (x := (p : Int) + 1) (by omega) (by omega)]
      refine ⟨fun q => ?_, fun q => ⟨ix_of (n := p + 1) (by omega) (by omega) (by decide), ix_of (n := p) rfl (by omega) (by decide), ?_⟩⟩
      · have hp : p + 1 = dN D := by omega
        unfold X1_closePostNumber_b55
        intro w3 e3
        rw [v0] at e3
        refine ⟨2 * dM D + 1, key2 (2 * dM D + 1) 0 w3 (by omega) (by omega) (by rw [e3, up_eq]) ?_ ?_ (fun i hi => ?_) (fun p' hp' => ?_) (fun p' i hp' hi => ?_) (fun c i hc => ?_)⟩
        · rw [e3, up_ap, if_neg (by omega), hv, if_neg (by omega), if_neg (by omega)]; exact r1
        · rw [e3, up_ap, if_neg (by omega), hv, if_neg (by omega), if_neg (by omega)]; exact rt
        · rw [e3, up_ap, if_neg (by omega), hv, if_neg (by omega), if_neg (by omega), if_neg (by omega)]; exact r3 i hi
        · rw [e3, up_ap, if_neg (by omega), hv]
          by_cases y : p' < b
          · rw [if_neg (by omega), if_neg (by omega), if_pos y]; exact r4 p' (by omega)
          · rw [if_pos (by omega), if_neg y]; exact r4 (p' + 1) (by omega)
        · rw [e3, up_ap, if_neg (by omega), hv]
          by_cases y : p' < b
          · rw [if_pos y] at hi ⊢
            have := hg p' (by omega)
            rw [if_neg (by omega), if_neg (by omega)]; exact r5 p' i (by omega) hi
          · rw [if_neg y] at hi ⊢
            have := hg (p' + 1) (by omega)
            rw [if_neg (by omega), if_pos (by omega), show 10 * p' + i + 10 = 10 * (p' + 1) + i by omega]; exact r5 (p' + 1) i (by omega) hi
        · rw [e3, up_ap, if_neg (by omega), hv, if_neg (by omega), if_neg (by omega)]
      · intro w1 e1
        rw [wt_of (n := p) rfl (by omega), rd_of (n := p + 1) (by omega) (by omega)] at e1
        rw [wr_id (x := ((p : Int) + 1) * 10) (by omega) (by omega), wr_id (x := (p : Int) * 10) (by omega) (by omega), wr_id (x := 10) (by decide) (by decide)]
        refine ⟨?_, ?_⟩
        · unfold cpk
          rw [wr_id (x := ((p : Int) + 1) * 10) (by omega) (by omega), wr_id (x := (p : Int) * 10) (by omega) (by omega), wr_id (x := 10) (by decide) (by decide)]
          omega
        intro w2 e2
        rw [show (((p : Int) + 1) * 10).toNat = 10 * (p + 1) by omega, show ((p : Int) * 10).toNat = 10 * p by omega, show (10 : Int).toNat = 10 from rfl] at e2
        rw [show (p : Int) + 1 = ((p + 1 : Nat) : Int) by omega]
        refine ih (p + 1) w2 (by omega) (by omega) (by omega) (fun c j => ?_)
        have hw1 : ∀ c j, w1 c j = if c = k + 2 ∧ j = p then v (k + 2) (p + 1) else v c j := fun c j => by rw [e1, up_ap]
        rw [e2]
        unfold cpy
        by_cases y : c = k + 3 ∧ 10 * p ≤ j ∧ j < 10 * p + 10
        · rw [if_pos y, hw1, if_neg (by omega), hv, if_neg (by omega), if_neg (by omega), if_neg (by omega), if_pos (by omega), y.1]
          congr 1
          omega
        · rw [if_neg y, hw1]
          by_cases y2 : c = k + 2 ∧ j = p
          · rw [if_pos y2, hv, if_neg (by omega), if_neg (by omega), if_pos (by omega), y2.1, y2.2]
          · rw [if_neg y2, hv]
            by_cases y3 : c = k + 2 ∧ b ≤ j ∧ j < p
            · rw [if_pos y3, if_pos (by omega)]
            · rw [if_neg y3]
              by_cases y4 : c = k + 3 ∧ 10 * b ≤ j ∧ j < 10 * p
              · rw [if_pos y4, if_neg (by omega), if_pos (by omega)]
              · rw [if_neg y4, if_neg (by omega), if_neg (by omega)]
  unfold X1_closePostNumber
  exact ⟨dN D - b + 1, key (dN D - b + 1) b w (Nat.le_refl _) hb (by omega) (fun c j => by rw [if_neg (by omega), if_neg (by omega)])⟩
