/-! TWIST, FLIP, EXCHANGE -/
def dTw (D : Dw) (e : Nat) : Dw := (dN D, dM D, dE D, (fun i => if i = e then !(dT D i) else dT D i), dG D, dR D)
theorem dTw_WF {D : Dw} (hW : WF D) (e : Nat) : WF (dTw D e) := hW
theorem bxo_bit {t m : Nat} (i : Nat) : (t ^^^ 2 ^ m).testBit i = (t.testBit i ^^ decide (i = m)) := by
  rw [Nat.testBit_xor, Nat.testBit_two_pow]
  congr 1
  exact decide_eq_decide.mpr ⟨Eq.symm, Eq.symm⟩
theorem bxo_lt {t m : Nat} (ht : t < 1024) (hm : m < 10) : t ^^^ 2 ^ m < 1024 := by
  have h1 : 2 ^ m < 2 ^ 10 := Nat.pow_lt_pow_right (by decide) hm
  exact Nat.xor_lt_two_pow (n := 10) ht h1
theorem ixo_1 {t m : Nat} (ht : t < 1024) (hm : m < 10) : ixo (t : Int) (isl 1 (m : Int)) = ((t ^^^ 2 ^ m : Nat) : Int) := by
  have h1 : 2 ^ m < 2 ^ 10 := Nat.pow_lt_pow_right (by decide) hm
  rw [isl1 (by omega), ixo_nat (by omega) (by omega)]
theorem tw_X {w : Wd} {k : Nat} {D : Dw} {e : Nat} (hW : WF D) (he : e < dM D) (hR : RepX w k D) : RepX (up w k 2 (ixo (w k 2) (isl 1 (e : Int)))) k (dTw D e) ∧ offX k w (up w k 2 (ixo (w k 2) (isl 1 (e : Int)))) := by
  obtain ⟨r0, r1, ⟨t, rt, ht, htb⟩, r3, r4, r5⟩ := hR
  have m10 := hW.2.1
  rw [rt, ixo_1 ht (by omega)]
  refine ⟨⟨?_, ?_, ⟨t ^^^ 2 ^ e, up_eq _ _ _ _, bxo_lt ht (by omega), fun i => ?_⟩, ?_, ?_, ?_⟩, ?_⟩
  · rw [up_ap, if_neg (by omega)]; exact r0
  · rw [up_ap, if_neg (by omega)]; exact r1
  · rw [bxo_bit, htb]
    show _ = (decide (i < dM D) && if i = e then !(dT D i) else dT D i)
    by_cases q : i = e
    · subst q
      rw [if_pos rfl, decide_eq_true he, decide_eq_true rfl]
      cases dT D i <;> rfl
    · rw [if_neg q, decide_eq_false q]
      simp
  · intro i hi; rw [up_ap, if_neg (by omega)]; exact r3 i hi
  · intro p hp; rw [up_ap, if_neg (by omega)]; exact r4 p hp
  · intro p i hp hi; rw [up_ap, if_neg (by omega)]; exact r5 p i hp hi
  · intro c j hc; rw [up_ap, if_neg (by omega)]
theorem tw_M {w : Wd} {r : Nat} {D : Dw} {e : Nat} (hW : WF D) (he : e < dM D) (hR : RepM w r D) : RepM (up w r (22 + e) (1 - w r (22 + e))) r (dTw D e) ∧ offM r w (up w r (22 + e) (1 - w r (22 + e))) := by
  obtain ⟨r0, r1, r3, rt, r4, r5⟩ := hR
  have m10 := hW.2.1
  have n6 := hW.1
  refine ⟨⟨?_, ?_, ?_, ?_, ?_, ?_⟩, ?_⟩
  · rw [up_ap, if_neg (by omega)]; exact r0
  · rw [up_ap, if_neg (by omega)]; exact r1
  · intro i hi
    have hi : i < 2 * dM D := hi
    rw [up_ap, if_neg (by omega)]; exact r3 i hi
  · intro i hi
    show _ = if (if i = e then !(dT D i) else dT D i) then (1 : Int) else 0
    rw [up_ap]
    by_cases q : i = e
    · subst q
      rw [if_pos ⟨rfl, rfl⟩, rt i he, if_pos rfl]
      cases dT D i <;> rfl
    · rw [if_neg (by omega), if_neg q]; exact rt i hi
  · intro p hp
    have hp : p < dN D := hp
    rw [up_ap, if_neg (by omega)]; exact r4 p hp
  · intro p i hp hi; rw [up_ap, if_neg (by omega)]; exact r5 p i hp hi
  · intro c j hc; rw [up_ap, if_neg (fun z => hc z.1)]
/-- a row the other way round -/
def revW (w : Wd) (cR bR d : Nat) : Wd := fun c b => if c = cR ∧ bR ≤ b ∧ b < bR + d then w c (bR + (d - 1 - (b - bR))) else w c b
theorem X1_reverse_ok {k : Nat} {Q : Wd → Prop} {w : Wd} {x1 x2 : Int} (b0 d : Nat) (h1 : x1 = (b0 : Int)) (h2 : x2 = (b0 : Int) + d - 1) (hb : b0 + d ≤ 60) (hQ : Q (revW w (k + 3) b0 d)) : X1_reverseRow k x1 x2 w Q := by
  subst h1 h2
  have key : ∀ (m i : Nat) (v : Wd), 2 * i ≤ d + 1 → d + 1 - 2 * i < m → (∀ c b, v c b = if c = k + 3 ∧ b0 ≤ b ∧ b < b0 + d ∧ (b < b0 + i ∨ b0 + d ≤ b + i) then w c (b0 + (d - 1 - (b - b0))) else w c b) → X1_reverseRow_l5 k Q (X1_reverseRow_b27 k Q) m ((b0 : Int) + d - 1 - i) ((b0 : Int) + i) v := by
    intro m
    induction m with
    | zero => intro i v g1 g2; omega
    | succ m ih =>
      intro i v g1 g2 hv
      unfold X1_reverseRow_l5
      rw [wr_id (x := (b0 : Int) + d - 1 - i) (by omega) (by omega), wr_id (x := (b0 : Int) + i) (by omega) (by omega)]
      refine ⟨fun q => ?_, fun q => ?_⟩
      · unfold X1_reverseRow_b27
        have : v = revW w (k + 3) b0 d := by
          funext c b
          rw [hv]
          unfold revW
          by_cases z : c = k + 3 ∧ b0 ≤ b ∧ b < b0 + d
          · rw [if_pos z]
            by_cases z2 : b < b0 + i ∨ b0 + d ≤ b + i
            · rw [if_pos ⟨z.1, z.2.1, z.2.2, z2⟩]
            · rw [if_neg (fun h => z2 h.2.2.2)]
              have : b0 + (d - 1 - (b - b0)) = b := by omega
              rw [this]
          · rw [if_neg z, if_neg (fun h => z ⟨h.1, h.2.1, h.2.2.1⟩)]
        rw [this]
        exact hQ
      · unfold X1_swap
        refine ⟨ix_of (n := b0 + i) (by omega) (by omega) (by decide), ?_⟩
        intro y1 e1
        rw [rd_of (n := b0 + i) (by omega) (by omega)] at e1
        refine ⟨ix_of (n := b0 + d - 1 - i) (by omega) (by omega) (by decide), ix_of (n := b0 + i) (by omega) (by omega) (by decide), ?_⟩
        intro w2 e2
        rw [wt_of (n := b0 + i) (by omega) (by omega), rd_of (n := b0 + d - 1 - i) (by omega) (by omega)] at e2
        refine ⟨ix_of (n := b0 + d - 1 - i) (by omega) (by omega) (by decide), ?_⟩
        intro w3 e3
        rw [wt_of (n := b0 + d - 1 - i) (by omega) (by omega)] at e3
        rw [show (b0 : Int) + d - 1 - i + (-1) = (b0 : Int) + d - 1 - ((i + 1 : Nat) : Int) by omega, show (b0 : Int) + i + 1 = (b0 : Int) + ((i + 1 : Nat) : Int) by omega]
        refine ih (i + 1) w3 (by omega) (by omega) (fun c b => ?_)
        have f1 : v (k + 3) (b0 + i) = w (k + 3) (b0 + i) := by rw [hv, if_neg (by omega)]
        have f2 : v (k + 3) (b0 + d - 1 - i) = w (k + 3) (b0 + d - 1 - i) := by rw [hv, if_neg (by omega)]
        rw [e3, up_ap, e2, up_ap, e1, f1, f2]
        by_cases z1 : c = k + 3 ∧ b = b0 + d - 1 - i
        · obtain ⟨rfl, rfl⟩ := z1
          rw [if_pos ⟨rfl, rfl⟩, if_pos (by omega)]
          congr 1
          omega
        · rw [if_neg z1]
          by_cases z2 : c = k + 3 ∧ b = b0 + i
          · obtain ⟨rfl, rfl⟩ := z2
            rw [if_pos ⟨rfl, rfl⟩, if_pos (by omega)]
            congr 1
            omega
          · rw [if_neg z2, hv]
            by_cases z3 : c = k + 3 ∧ b0 ≤ b ∧ b < b0 + d ∧ (b < b0 + i ∨ b0 + d ≤ b + i)
            · rw [if_pos z3, if_pos (by omega)]
            · rw [if_neg z3, if_neg (by omega)]
  have := key (d + 2) 0 w (by omega) (by omega) (fun c b => by rw [if_neg (by omega)])
  unfold X1_reverseRow
  refine ⟨d + 2, ?_⟩
  rw [show (b0 : Int) + d - 1 - ((0 : Nat) : Int) = (b0 : Int) + d - 1 by omega, show (b0 : Int) + ((0 : Nat) : Int) = (b0 : Int) by omega] at this
  exact this
/-- a post is turned over -/
def dFlip (D : Dw) (p : Nat) : Dw := (dN D, dM D, dE D, (fun e => if dE D (2 * e) = p ∨ dE D (2 * e + 1) = p then !(dT D e) else dT D e), dG D, (fun q i => if q = p then dR D q (dG D q - 1 - i) else dR D q i))
theorem dFlip_WF {D : Dw} (hW : WF D) {p : Nat} : WF (dFlip D p) := by
  obtain ⟨n6, m10, hen, hne, hrow, hinj, hsur⟩ := id hW
  refine ⟨n6, m10, hen, hne, fun q i hq hi => ?_, fun q i j hq hi hj h => ?_, fun q e hq he ha => ?_⟩
  · have hi : i < dG D q := hi
    show (if q = p then dR D q (dG D q - 1 - i) else dR D q i) < dM D ∧ atP D (if q = p then dR D q (dG D q - 1 - i) else dR D q i) q
    split
    · exact hrow q _ hq (by omega)
    · exact hrow q i hq hi
  · have hi : i < dG D q := hi
    have hj : j < dG D q := hj
    have h : (if q = p then dR D q (dG D q - 1 - i) else dR D q i) = (if q = p then dR D q (dG D q - 1 - j) else dR D q j) := h
    split at h
    · have := hinj q _ _ hq (by omega) (by omega) h
      omega
    · exact hinj q i j hq hi hj h
  · obtain ⟨i, hi, hie⟩ := hsur q e hq he ha
    by_cases z : q = p
    · refine ⟨dG D q - 1 - i, by show _ < dG D q; omega, ?_⟩
      show (if q = p then dR D q (dG D q - 1 - (dG D q - 1 - i)) else _) = e
      rw [if_pos z, show dG D q - 1 - (dG D q - 1 - i) = i by omega, hie]
    · exact ⟨i, hi, by show (if q = p then _ else dR D q i) = e; rw [if_neg z, hie]⟩
theorem X1_turnOver_ok {k : Nat} {Q : Wd → Prop} {w : Wd} {D : Dw} {x1 : Int} (p : Nat) (h1 : x1 = (p : Int)) (hW : WF D) (hp : p < dN D) (hR : RepX w k D) (hQ : ∀ w', RepX w' k (dFlip D p) → offX k w w' → Q w') : X1_turnOver k x1 w Q := by
  subst h1
  obtain ⟨n6, m10, hen, hne, hrow, hinj, hsur⟩ := id hW
  obtain ⟨r0, r1, ⟨t, rt, ht, htb⟩, r3, r4, r5⟩ := hR
  have hdp := hW.deg hp
  have key : ∀ (m j s : Nat) (v : Wd), j ≤ dG D p → dG D p - j < m → v k 2 = s → s < 1024 → (∀ e, ((∃ i, i < j ∧ dR D p i = e) → s.testBit e = !(t.testBit e)) ∧ (¬ (∃ i, i < j ∧ dR D p i = e) → s.testBit e = t.testBit e)) → (∀ c b, ¬ (c = k ∧ b = 2) → v c b = w c b) → X1_turnOver_l19 k Q (X1_turnOver_b49 k Q) m (((10 * p : Nat) : Int)) (((10 * p : Nat) : Int) + dG D p - 1) (((10 * p + j : Nat)) : Int) v := by
    intro m
    induction m with
    | zero => intro j s v g1 g2; omega
    | succ m ih =>
      intro j s v g1 g2 hv2 hs hsb hoff
      unfold X1_turnOver_l19
      rw [wr_id (x := ((10 * p : Nat) : Int) + dG D p - 1) (by omega) (by omega), wr_nat (n := 10 * p + j) (by omega)]
      refine ⟨fun q => ?_, fun q => ⟨ix_of rfl (by omega) (by decide), ?_⟩⟩
      · have hj : j = dG D p := by omega
        unfold X1_turnOver_b49
        refine X1_reverse_ok (10 * p) (dG D p) rfl rfl (by omega) ?_
        have off : ∀ c b, c ≠ k + 3 → revW v (k + 3) (10 * p) (dG D p) c b = v c b := fun c b h => by unfold revW; rw [if_neg (fun z => h z.1)]
        refine hQ _ ⟨?_, ?_, ⟨s, ?_, hs, fun e => ?_⟩, ?_, ?_, ?_⟩ ?_
        · rw [off _ _ (by omega), hoff _ _ (by omega)]; exact r0
        · rw [off _ _ (by omega), hoff _ _ (by omega)]; exact r1
        · rw [off _ _ (by omega)]; exact hv2
        · show _ = (decide (e < dM D) && if dE D (2 * e) = p ∨ dE D (2 * e + 1) = p then !(dT D e) else dT D e)
          by_cases he : e < dM D
          · by_cases ha : dE D (2 * e) = p ∨ dE D (2 * e + 1) = p
            · obtain ⟨i, hi, hie⟩ := hsur p e hp he ha
              rw [(hsb e).1 ⟨i, by omega, hie⟩, htb, if_pos ha, decide_eq_true he]
              cases dT D e <;> rfl
            · rw [(hsb e).2 (fun ⟨i, hi, hie⟩ => ha (by have := (hrow p i hp (by omega)).2; rw [hie] at this; exact this)), htb, if_neg ha]
          · rw [(hsb e).2 (fun ⟨i, hi, hie⟩ => he (by have := (hrow p i hp (by omega)).1; omega)), htb, decide_eq_false he]
            rfl
        · intro i hi; rw [off _ _ (by omega), hoff _ _ (by omega)]; exact r3 i hi
        · intro q' hq'; rw [off _ _ (by omega), hoff _ _ (by omega)]; exact r4 q' hq'
        · intro q' i hq' hi
          have hq' : q' < dN D := hq'
          have hi : i < dG D q' := hi
          have hdq := hW.deg hq'
          show _ = ((if q' = p then dR D q' (dG D q' - 1 - i) else dR D q' i : Nat) : Int)
          unfold revW
          by_cases z : q' = p
          · subst z
            rw [if_pos (by omega), if_pos rfl, hoff _ _ (by omega), show 10 * q' + (dG D q' - 1 - (10 * q' + i - 10 * q')) = 10 * q' + (dG D q' - 1 - i) by omega]
            exact r5 q' _ hq' (by omega)
          · rw [if_neg (by omega), if_neg z, hoff _ _ (by omega)]
            exact r5 q' i hq' hi
        · intro c b hc; rw [off _ _ (by omega), hoff _ _ (by omega)]
      · intro w3 e3
        have hj : j < dG D p := by omega
        have hrj := hrow p j hp hj
        rw [hv2, rd_of (n := 10 * p + j) rfl (by omega), hoff _ _ (by omega), r5 p j hp hj, ixo_1 hs (by omega)] at e3
        rw [show ((10 * p + j : Nat) : Int) + 1 = ((10 * p + (j + 1) : Nat) : Int) by omega]
        refine ih (j + 1) (s ^^^ 2 ^ dR D p j) w3 (by omega) (by omega) (by rw [e3, up_eq]) (bxo_lt hs (by omega)) (fun e => ⟨fun ⟨i, hi, hie⟩ => ?_, fun hn => ?_⟩) (fun c b h => by rw [e3, up_ap, if_neg h]; exact hoff c b h)
        · rw [bxo_bit]
          by_cases z : i = j
          · subst z
            rw [(hsb e).2 (fun ⟨i', hi', hie'⟩ => by have := hinj p i' i hp (by omega) hj (by rw [hie, hie']); omega), decide_eq_true hie.symm]
            cases t.testBit e <;> rfl
          · have hne : e ≠ dR D p j := fun y => by have := hinj p i j hp (by omega) hj (by rw [hie, y]); omega
            rw [(hsb e).1 ⟨i, by omega, hie⟩, decide_eq_false hne, Bool.xor_false]
        · rw [bxo_bit, (hsb e).2 (fun ⟨i, hi, hie⟩ => hn ⟨i, by omega, hie⟩), decide_eq_false (fun y => hn ⟨j, by omega, y.symm⟩), Bool.xor_false]
  unfold X1_turnOver
  intro y1 e1
  rw [show (p : Int) * 10 = ((10 * p : Nat) : Int) by omega] at e1
  subst e1
  refine ⟨ix_of rfl (by omega) (by decide), ?_⟩
  intro y2 e2
  rw [rd_of (n := p) rfl (by omega), r4 p hp] at e2
  subst e2
  refine ⟨dG D p + 1, ?_⟩
  have := key (dG D p + 1) 0 t w (by omega) (by omega) rt ht (fun e => ⟨fun ⟨i, hi, _⟩ => by omega, fun _ => rfl⟩) (fun c b _ => rfl)
  exact this
