theorem X1_isLineOf_ok {K : Nat} {Q : Int → Wd → Prop} {w : Wd} {D : Dw} {x1 x2 : Int} (e p : Nat) (h1 : x1 = (e : Int)) (h2 : x2 = (p : Int)) (hW : WF D) (hR : RepX w K D) (he : e < dM D) (hp : p < 100) (q1 : atP D e p → Q 1 w) (q0 : ¬ atP D e p → Q 0 w) : X1_isLineOf K x1 x2 w Q := by
  subst h1 h2
  obtain ⟨n6, m10, hen, _⟩ := id hW
  obtain ⟨r0, r1, r2, r3, r4, r5⟩ := hR
  have a0 := hen (2 * e) (by omega)
  have a1 := hen (2 * e + 1) (by omega)
  unfold X1_isLineOf X1_isLineOf_b26
  rw [rd_of (n := 2 * e) (by omega) (by omega), r3 _ (by omega), rd_of (n := 2 * e + 1) (by omega) (by omega), r3 _ (by omega), wr_nat (n := dE D (2 * e)) (by omega), wr_nat (n := dE D (2 * e + 1)) (by omega), wr_nat (n := p) (by omega)]
  refine ⟨ix_of (n := 2 * e) (by omega) (by omega) (by decide), fun z => q1 (Or.inl (by omega)), fun z => ⟨ix_of (n := 2 * e + 1) (by omega) (by omega) (by decide), fun y => q1 (Or.inr (by omega)), fun y => q0 ?_⟩⟩
  rintro (g | g)
  · exact z (by rw [g])
  · exact y (by rw [g])
theorem X1_hasTwin_ok {K : Nat} {Q : Int → Wd → Prop} {w : Wd} {D : Dw} {x1 : Int} (e : Nat) (h1 : x1 = (e : Int)) (hW : WF D) (hR : RepX w K D) (he : e < dM D) (q1 : ¬ Lone D e → Q 1 w) (q0 : Lone D e → Q 0 w) : X1_hasTwin K x1 w Q := by
  subst h1
  obtain ⟨n6, m10, hen, _⟩ := id hW
  obtain ⟨r0, r1, r2, r3, r4, r5⟩ := id hR
  have a0 := hen (2 * e) (by omega)
  have a1 := hen (2 * e + 1) (by omega)
  have key : ∀ (m j : Nat), j ≤ dM D → dM D - j < m → (∀ x, x < j → x ≠ e → ¬ (atP D x (dE D (2 * e)) ∧ atP D x (dE D (2 * e + 1)))) → X1_hasTwin_l2 K Q (X1_hasTwin_b49 K Q) (X1_hasTwin_b57 K Q) m (e : Int) (j : Int) w := by
    intro m
    induction m with
    | zero => intro j g1 g2; omega
    | succ m ih =>
      intro j g1 g2 hj
      unfold X1_hasTwin_l2
      rw [r1, wr_nat (n := dM D) (by omega), wr_nat (n := j) (by omega), wr_nat (n := e) (by omega), show (j : Int) + 1 = ((j + 1 : Nat) : Int) by omega]
      refine ⟨fun z => q0 (fun x hx => hj x (by omega)), fun z => ⟨fun y => ih (j + 1) (by omega) (by omega) (fun x hx hxe => hj x (by omega) hxe), fun y => ⟨ix_of (n := 2 * e) (by omega) (by omega) (by decide), ?_⟩⟩⟩
      rw [rd_of (n := 2 * e) (by omega) (by omega), r3 (2 * e) (by omega)]
      have step : ¬ (atP D j (dE D (2 * e)) ∧ atP D j (dE D (2 * e + 1))) → X1_hasTwin_l2 K Q (X1_hasTwin_b49 K Q) (X1_hasTwin_b57 K Q) m (e : Int) ((j + 1 : Nat) : Int) w := fun hn => ih (j + 1) (by omega) (by omega) (fun x hx hxe => by
        by_cases s : x = j
        · subst s; exact hn
        · exact hj x (by omega) hxe)
      refine X1_isLineOf_ok j _ rfl rfl hW hR (by omega) (by omega) (fun s => ⟨fun z => absurd z (by decide), fun _ => ⟨ix_of (n := 2 * e + 1) (by omega) (by omega) (by decide), ?_⟩⟩) (fun s => ⟨fun _ => step (fun g => s g.1), fun z => absurd rfl z⟩)
      rw [rd_of (n := 2 * e + 1) (by omega) (by omega), r3 (2 * e + 1) (by omega)]
      refine X1_isLineOf_ok j _ rfl rfl hW hR (by omega) (by omega) (fun s2 => ⟨fun z => absurd z (by decide), fun _ => ?_⟩) (fun s2 => ⟨fun _ => step (fun g => s2 g.2), fun z => absurd rfl z⟩)
      exact q1 (fun g => g j (by omega) (by omega) ⟨s, s2⟩)
  exact ⟨dM D + 1, key (dM D + 1) 0 (by omega) (by omega) (fun x hx => by omega)⟩
theorem X11_otherEnd_ok {r : Nat} {Q : Int → Wd → Prop} {w : Wd} {D : Dw} {x1 x2 : Int} (e p : Nat) (h1 : x1 = (e : Int)) (h2 : x2 = (p : Int)) (hW : WF D) (hR : RepM w r D) (he : e < dM D) (hp : p < 100) (q : Q (if dE D (2 * e) = p then (dE D (2 * e + 1) : Int) else if dE D (2 * e + 1) = p then (dE D (2 * e) : Int) else -1) w) : X11_otherEnd r x1 x2 w Q := by
  subst h1 h2
  obtain ⟨n6, m10, hen, _⟩ := id hW
  obtain ⟨r0, r1, r3, r2, r4, r5⟩ := hR
  have a0 := hen (2 * e) (by omega)
  have a1 := hen (2 * e + 1) (by omega)
  unfold X11_otherEnd
  rw [rd_of (n := 2 + 2 * e) (by omega) (by omega), r3 _ (by omega), rd_of (n := 2 + (2 * e + 1)) (by omega) (by omega), r3 _ (by omega), wr_nat (n := dE D (2 * e)) (by omega), wr_nat (n := dE D (2 * e + 1)) (by omega), wr_nat (n := p) (by omega), show wr (-1) = -1 by decide]
  have i0 : ix (2 + 2 * (e : Int)) 98 := ix_of (n := 2 + 2 * e) (by omega) (by omega) (by decide)
  have i1 : ix (2 + 2 * (e : Int) + 1) 98 := ix_of (n := 2 + (2 * e + 1)) (by omega) (by omega) (by decide)
  refine ⟨i0, fun z => ⟨i1, ?_⟩, fun z => ⟨i1, fun y => ⟨i0, ?_⟩, fun y => ?_⟩⟩
  · rw [if_pos (by omega)] at q; exact q
  · rw [if_neg (by omega), if_pos (by omega)] at q; exact q
  · rw [if_neg (by omega), if_neg (by omega)] at q; exact q
theorem X11_isLone_ok {Q : Int → Wd → Prop} {w : Wd} {D : Dw} {x1 : Int} (e : Nat) (h1 : x1 = (e : Int)) (hW : WF D) (hR : RepM w 73 D) (he : e < dM D) (q1 : Lone D e → Q 1 w) (q0 : ¬ Lone D e → Q 0 w) : X11_isLone x1 w Q := by
  subst h1
  obtain ⟨n6, m10, hen, hne, _⟩ := id hW
  obtain ⟨r0, r1, r3, r2, r4, r5⟩ := id hR
  have a0 := hen (2 * e) (by omega)
  have a1 := hen (2 * e + 1) (by omega)
  have hab := hne e he
  have key : ∀ (m j : Nat), j ≤ dM D → dM D - j < m → (∀ x, x < j → x ≠ e → ¬ (atP D x (dE D (2 * e)) ∧ atP D x (dE D (2 * e + 1)))) → X11_isLone_l27 Q (X11_isLone_b58 Q) (X11_isLone_b66 Q) m (e : Int) (dE D (2 * e) : Int) (dE D (2 * e + 1) : Int) (j : Int) w := by
    intro m
    induction m with
    | zero => intro j g1 g2; omega
    | succ m ih =>
      intro j g1 g2 hj
      unfold X11_isLone_l27
      rw [rd1, r1, wr_nat (n := dM D) (by omega), wr_nat (n := j) (by omega), wr_nat (n := e) (by omega), show (j : Int) + 1 = ((j + 1 : Nat) : Int) by omega]
      refine ⟨ix_of (n := 1) rfl (by omega) (by decide), fun z => q1 (fun x hx => hj x (by omega)), fun z => ⟨fun y => ih (j + 1) (by omega) (by omega) (fun x hx hxe => hj x (by omega) hxe), fun y => ?_⟩⟩
      have b0 := hen (2 * j) (by omega)
      have b1 := hen (2 * j + 1) (by omega)
      have bne := hne j (by omega)
      refine X11_otherEnd_ok j _ rfl rfl hW hR (by omega) (by omega) ?_
      have hw : wr (if dE D (2 * j) = dE D (2 * e) then (dE D (2 * j + 1) : Int) else if dE D (2 * j + 1) = dE D (2 * e) then (dE D (2 * j) : Int) else -1) = (if dE D (2 * j) = dE D (2 * e) then (dE D (2 * j + 1) : Int) else if dE D (2 * j + 1) = dE D (2 * e) then (dE D (2 * j) : Int) else -1) := wr_id (by split <;> (try split) <;> omega) (by split <;> (try split) <;> omega)
      rw [hw, wr_nat (n := dE D (2 * e + 1)) (by omega)]
      refine ⟨fun s => q0 (fun g => g j (by omega) (by omega) ?_), fun s => ih (j + 1) (by omega) (by omega) (fun x hx hxe => ?_)⟩
      · unfold atP
        split at s
        · exact ⟨Or.inl (by assumption), Or.inr (by omega)⟩
        · split at s
          · exact ⟨Or.inr (by assumption), Or.inl (by omega)⟩
          · omega
      · by_cases t : x = j
        · subst t
          rintro ⟨f1, f2⟩
          apply s
          unfold atP at f1 f2
          split
          · omega
          · split <;> omega
        · exact hj x (by omega) hxe
  unfold X11_isLone
  refine ⟨ix_of (n := 2 + 2 * e) (by omega) (by omega) (by decide), ?_⟩
  intro y1 e1
  rw [rd_of (n := 2 + 2 * e) (by omega) (by omega), r3 _ (by omega)] at e1
  refine ⟨ix_of (n := 2 + (2 * e + 1)) (by omega) (by omega) (by decide), ?_⟩
  intro y2 e2
  rw [rd_of (n := 2 + (2 * e + 1)) (by omega) (by omega), r3 _ (by omega)] at e2
  subst e1 e2
  exact ⟨dM D + 1, key (dM D + 1) 0 (by omega) (by omega) (fun x hx => by omega)⟩
def Sok (D : Dw) (x : Int) : Prop := ∃ e : Nat, x = e ∧ e < dM D ∧ Lone D e
def popS (S : Sg) : Sg := (sL S, sB S, sP S, sF S 0, sH S - 1, (fun i => sF S (i + 1)), sS S)
def holdS (S : Sg) (s : Nat) : Sg := (sL S, sB S, sP S, sD S, sH S, sF S, (fun i => if i = s then some (sD S) else sS S i))
def backS (S : Sg) (D : Dw) : Sg := (sL S, sB S, sP S, D, 0, sF S, sS S)
theorem SOK.pop {S : Sg} (h : SOK S) (hp : sH S ≠ 0) : SOK (popS S) := by
  obtain ⟨h1, h2, h3, h4, h5⟩ := h
  refine ⟨h3 0 (by omega), by show sH S - 1 ≤ 40; omega, fun i hi => ?_, h4, h5⟩
  have hi : i < sH S - 1 := hi
  exact h3 (i + 1) (by omega)
theorem SOK.hold {S : Sg} (h : SOK S) (s : Nat) : SOK (holdS S s) := by
  obtain ⟨h1, h2, h3, h4, h5⟩ := h
  refine ⟨h1, h2, h3, fun i hi D hD => ?_, h5⟩
  have hD : (if i = s then some (sD S) else sS S i) = some D := hD
  split at hD
  · cases hD; exact h1
  · exact h4 i hi D hD
theorem SOK.back {S : Sg} {D : Dw} (h : SOK S) (hD : WF D) : SOK (backS S D) := by
  obtain ⟨h1, h2, h3, h4, h5⟩ := h
  exact ⟨hD, by show 0 ≤ 40; omega, fun i hi => absurd hi (by show ¬ i < 0; omega), h4, h5⟩
theorem tb3 (b s : Nat) (hb : b < 8) (hs : s < 3) (i : Nat) : (b ||| 2 ^ s) < 8 ∧ (b ||| 2 ^ s).testBit i = (b.testBit i || decide (i = s)) := by
  refine ⟨Nat.or_lt_two_pow (n := 3) hb (Nat.pow_lt_pow_right (by decide) hs), bor_bit i⟩
section UNDO
variable {Q : Int → Wd → Prop} {w : Wd} {S : Sg} {x : Int}
theorem shr_X (hS : SOK S) (h : HX w S) (hx : wr x = x) (h0 : ¬ Sok (sD S) x → Q 0 w) (h1 : ∀ e : Nat, x = e → e < dM (sD S) → Lone (sD S) e → ∀ w', HX w' (pushS S (dShr (sD S) e)) → w' 0 17 = 0 → byX w w' → Q 1 w') : X10_shrink x w Q := by
  unfold X10_shrink
  refine X1_hasLine_ok hx h.2.2.2.1.2.1 hS.1.2.1 (fun e he hem => ⟨fun z => absurd z (by decide), fun _ => ?_⟩) (fun hn => ⟨fun _ => h0 (fun ⟨e, g1, g2, _⟩ => hn ⟨e, g1, g2⟩), fun z => absurd rfl z⟩)
  refine X1_hasTwin_ok e he hS.1 h.2.2.2.1 hem (fun hl => ⟨fun z => absurd z (by decide), fun _ => h0 (fun ⟨e', g1, g2, g3⟩ => by
    have : e' = e := by omega
    subst this
    exact hl g3)⟩) (fun hl => ⟨fun _ => ?_, fun z => absurd rfl z⟩)
  refine X10_keepPast_ok hS h (fun v hv v17 hby => ?_)
  refine X1_contract_ok e he hS.1 hem hl hv.2.2.2.1 (fun w' hw' off => h1 e he hem hl w' (hv.setD hw' off) (by rw [off _ _ (by omega)]; exact v17) (byX_off hby off))
theorem shr_M (hS : SOK S) (h : HM w S) (hx : wr x = x) (h0 : ¬ Sok (sD S) x → Q 0 w) (h1 : ∀ e : Nat, x = e → e < dM (sD S) → Lone (sD S) e → ∀ w', HM w' (pushS S (dShr (sD S) e)) → loM w w' → Q 1 w') : X11_shrink x w Q := by
  unfold X11_shrink
  refine X11_isLine_ok hx h.2.2.2.1.2.1 hS.1.2.1 (fun e he hem => ⟨fun z => absurd z (by decide), fun _ => ?_⟩) (fun hn => ⟨fun _ => h0 (fun ⟨e, g1, g2, _⟩ => hn ⟨e, g1, g2⟩), fun z => absurd rfl z⟩)
  refine X11_isLone_ok e he hS.1 h.2.2.2.1 hem (fun hl => ⟨fun z => absurd z (by decide), fun _ => ?_⟩) (fun hl => ⟨fun _ => h0 (fun ⟨e', g1, g2, g3⟩ => by
    have : e' = e := by omega
    subst this
    exact hl g3), fun z => absurd rfl z⟩)
  refine X11_marks_ok hS h (fun v hv hlo _ => ?_)
  exact mShrB_ok e he hS.1 hem hl hv.2.2.2.1 (fun w' hw' off => h1 e he hem hl w' (hv.setD hw' off) (loM_off hlo off))
theorem undo_X (hS : SOK S) (h : HX w S) (h0 : sH S = 0 → Q 0 w) (h1 : sH S ≠ 0 → ∀ w', HX w' (popS S) → w' 0 17 = 0 → byX w w' → Q 1 w') : X10_undo w Q := by
  obtain ⟨o1, o2, o3, o4, o5⟩ := id hS
  obtain ⟨g1, g2, g3, g4, g5, g6, g7, ⟨pn, g8, g9, g10⟩, ⟨b, g11, g12, g13⟩, g14⟩ := h
  have fin : sH S ≠ 0 → ∀ pn' : Nat, pn' = (pn + 39) % 40 → ∀ z : Int, z = pn' → X10_undo_b28 Q z w := by
    intro hne pn' hp z hz
    subst hz
    unfold X10_undo_b28
    intro w1 e1 w2 e2
    have f1 : w1 0 14 = sH S := by rw [e1, up_ap, if_neg (by omega)]; exact g7
    rw [f1] at e2
    have off2 : ∀ c j, ¬ (c = 0 ∧ (j = 13 ∨ j = 14)) → w2 c j = w c j := fun c j hc => by rw [e2, up_ap, if_neg (by omega), e1, up_ap, if_neg (by omega)]
    have f13 : w2 0 13 = pn' := by rw [e2, up_ap, if_neg (by omega), e1, up_eq]
    have hsrc : RepS w2 62 (89 * pn') (sF S 0) := by
      have := g10 0 (by omega)
      rw [Nat.sub_zero, ← hp] at this
      exact RepS.of (o3 0 (by omega)) this (fun j _ _ => off2 _ _ (by omega))
    refine X7_fetch_ok (N := 40) pn' f13 (by omega) (by rw [off2 _ _ (by omega)]; exact g5) aln_62 (by decide) (by decide) (o3 0 (by omega)) hsrc (fun w3 hw3 off3 => ?_)
    intro w4 e4
    have off4 : ∀ c j, ¬ (c = 0 ∧ (j = 13 ∨ j = 14 ∨ j = 17)) → (c < 1 ∨ 5 ≤ c) → w4 c j = w c j := fun c j hc hc2 => by rw [e4, up_ap, if_neg (by omega), off3 _ _ hc2, off2 _ _ (by omega)]
    refine h1 hne w4 ⟨by rw [off4 _ _ (by omega) (by omega)]; exact g1, fun i hi => by rw [off4 _ _ (by omega) (by omega)]; exact g2 i hi, by rw [off4 _ _ (by omega) (by omega)]; exact g3, RepX.of hw3 (fun c j hc1 hc2 => by rw [e4, up_ap, if_neg (by omega)]), by rw [off4 _ _ (by omega) (by omega)]; exact g5, by rw [off4 _ _ (by omega) (by omega)]; exact g6, ?_, ⟨pn', by omega, ?_, fun i hi => ?_⟩, ⟨b, g11, by rw [off4 _ _ (by omega) (by omega)]; exact g12, g13⟩, fun s hs D' hD' => RepS.of (o4 s hs D' hD') (g14 s hs D' hD') (fun j _ _ => off4 _ _ (by omega) (by omega))⟩ (by rw [e4, up_eq]) (fun c j hc => off4 c j (by omega) (by omega))
    · rw [e4, up_ap, if_neg (by omega), off3 _ _ (by omega), e2, up_eq]
      show (sH S : Int) - 1 = ((sH S - 1 : Nat) : Int)
      omega
    · rw [e4, up_ap, if_neg (by omega), off3 _ _ (by omega)]; exact f13
    · have hi : i < sH S - 1 := hi
      show RepS w4 62 _ (sF S (i + 1))
      have : (pn' + 39 - i) % 40 = (pn + 39 - (i + 1)) % 40 := by omega
      rw [this]
      exact RepS.of (o3 _ (by omega)) (g10 (i + 1) (by omega)) (fun j _ _ => off4 _ _ (by omega) (by omega))
  unfold X10_undo
  rw [g7, g9, wr_nat (n := sH S) (by omega), wr_nat (n := pn) (by omega)]
  refine ⟨fun z => h0 (by omega), fun z => ⟨fun y => fin (by omega) 39 (by omega) 39 rfl, fun y => fin (by omega) (pn - 1) (by omega) _ (by omega)⟩⟩
theorem RepO.toM {w w' : Wd} {c b : Nat} {D : Dw} (hW : WF D) (h : RepO w c b D) (he : ∀ j, j < 98 → w' 73 j = w c (b + j)) : RepM w' 73 D := by
  obtain ⟨r0, r1, r3, rt, r4, r5⟩ := h
  have n6 := hW.1
  have m10 := hW.2.1
  refine ⟨?_, ?_, fun i hi => ?_, fun i hi => ?_, fun p hp => ?_, fun p i hp hi => ?_⟩
  · rw [he _ (by omega)]; exact r0
  · rw [he _ (by omega)]; exact r1
  · rw [he _ (by omega)]; exact r3 i hi
  · rw [he _ (by omega)]; exact rt i hi
  · rw [he _ (by omega)]; exact r4 p hp
  · have := hW.deg hp
    rw [he _ (by omega)]; exact r5 p i hp hi
theorem RepM.toO {w w' : Wd} {c b : Nat} {D : Dw} (hW : WF D) (h : RepM w 73 D) (he : ∀ j, j < 98 → w' c (b + j) = w 73 j) : RepO w' c b D := by
  obtain ⟨r0, r1, r3, rt, r4, r5⟩ := h
  have n6 := hW.1
  have m10 := hW.2.1
  refine ⟨?_, ?_, fun i hi => ?_, fun i hi => ?_, fun p hp => ?_, fun p i hp hi => ?_⟩
  · rw [← r0]; exact he 0 (by omega)
  · rw [← r1]; exact he 1 (by omega)
  · rw [← r3 i hi]; exact he _ (by omega)
  · rw [← rt i hi]; exact he _ (by omega)
  · rw [← r4 p hp]; exact he _ (by omega)
  · have := hW.deg hp
    rw [← r5 p i hp hi]; exact he _ (by omega)
theorem undo_M (hS : SOK S) (h : HM w S) (h0 : sH S = 0 → Q 0 w) (h1 : sH S ≠ 0 → ∀ w', HM w' (popS S) → loM w w' → Q 1 w') : X11_undo w Q := by
  obtain ⟨o1, o2, o3, o4, o5⟩ := id hS
  obtain ⟨g1, g2, g3, g4, g5, ⟨ea, g8, g9, g10⟩, g11, g12, g13⟩ := h
  have loop : ∀ (b : Nat), b + 98 ≤ 3920 → ∀ (e63 : Wd → Prop) (v : Wd) (m j : Nat) (u : Wd), j ≤ 98 → 98 - j < m → (∀ c i, u c i = if c = 73 ∧ i < j then v 76 (b + i) else v c i) → (∀ u', (∀ c i, u' c i = if c = 73 ∧ i < 98 then v 76 (b + i) else v c i) → e63 u') → X11_undo_l37 Q e63 m (b : Int) (j : Int) u := by
    intro b hb e63 v m
    induction m with
    | zero => intro j u g1 g2; omega
    | succ m ih =>
      intro j u g1 g2 hu hK
      unfold X11_undo_l37
      rw [wr_nat (n := j) (by omega), show wr 98 = 98 by decide]
      refine ⟨fun q => hK u (fun c i => by rw [hu, show j = 98 by omega]), fun q => ⟨ix_of (n := b + j) (by omega) (by omega) (by decide), ix_of rfl (by omega) (by decide), ?_⟩⟩
      intro w2 e2
      rw [wt_of (n := j) rfl (by omega), rd_of (n := b + j) (by omega) (by omega)] at e2
      rw [show (j : Int) + 1 = ((j + 1 : Nat) : Int) by omega]
      refine ih (j + 1) w2 (by omega) (by omega) (fun c i => ?_) hK
      rw [e2, up_ap]
      by_cases y : c = 73 ∧ i = j
      · rw [if_pos y, hu, if_neg (by omega), if_pos (by omega), y.2]
      · rw [if_neg y, hu]
        by_cases y2 : c = 73 ∧ i < j
        · rw [if_pos y2, if_pos (by omega)]
        · rw [if_neg y2, if_neg (by omega)]
  unfold X11_undo
  rw [g5, wr_nat (n := sH S) (by omega)]
  refine ⟨fun z => h0 (by omega), fun z => ?_⟩
  intro w1 e1 y2 e2
  have hne : sH S ≠ 0 := by omega
  have off1 : ∀ c j, ¬ (c = 65 ∧ j = 24) → w1 c j = w c j := fun c j hc => by rw [e1, up_ap, if_neg hc]
  have f24 : w1 65 24 = ((sH S - 1 : Nat) : Int) := by rw [e1, up_eq]; omega
  rw [off1 _ _ (by omega), g9, f24, show (ea : Int) + ((sH S - 1 : Nat) : Int) = ((ea + (sH S - 1) : Nat) : Int) by omega, show (40 : Int) = ((40 : Nat) : Int) from rfl, irm_nat (by omega) (by omega) (by omega)] at e2
  obtain ⟨b, hb⟩ : ∃ b, b = 98 * ((ea + (sH S - 1)) % 40) := ⟨_, rfl⟩
  rw [show (98 : Int) * (((ea + (sH S - 1)) % 40 : Nat) : Int) = (b : Int) by omega] at e2
  subst e2
  refine ⟨99, loop b (by omega) _ w1 99 0 w1 (by omega) (by omega) (fun c i => by rw [if_neg (by omega)]) (fun u hu => ?_)⟩
  unfold X11_undo_b63
  have hsrc : RepO w 76 b (sF S 0) := by
    have := g10 0 (by omega)
    rw [Nat.sub_zero, show (ea + sH S + 39) % 40 = (ea + (sH S - 1)) % 40 by omega, ← hb] at this
    exact this
  have offu : ∀ c j, c ≠ 73 → ¬ (c = 65 ∧ j = 24) → u c j = w c j := fun c j hc hc2 => by rw [hu, if_neg (by omega), off1 _ _ hc2]
  refine h1 hne u ⟨by rw [offu _ _ (by omega) (by omega)]; exact g1, fun i hi => by rw [offu _ _ (by omega) (by omega)]; exact g2 i hi, by rw [offu _ _ (by omega) (by omega)]; exact g3, RepO.toM (o3 0 (by omega)) hsrc (fun j hj => by rw [hu, if_pos ⟨rfl, hj⟩, off1 _ _ (by omega)]), ?_, ⟨ea, g8, by rw [offu _ _ (by omega) (by omega)]; exact g9, fun i hi => ?_⟩, fun s hs => by rw [offu _ _ (by omega) (by omega)]; exact g11 s hs, fun s hs D' hD' => RepO.of (o4 s hs D' hD') (g12 s hs D' hD') (fun j _ _ => offu _ _ (by omega) (by omega)), by rw [offu _ _ (by omega) (by omega), offu _ _ (by omega) (by omega), offu _ _ (by omega) (by omega), offu _ _ (by omega) (by omega)]; exact g13⟩ (fun c j hc => offu c j (by omega) (by omega))
  · rw [hu, if_neg (by omega), f24]; rfl
  · have hi : i < sH S - 1 := hi
    show RepO u 76 (98 * ((ea + (sH S - 1) + 39 - i) % 40)) (sF S (i + 1))
    have : (ea + (sH S - 1) + 39 - i) % 40 = (ea + sH S + 39 - (i + 1)) % 40 := by omega
    rw [this]
    exact RepO.of (o3 _ (by omega)) (g10 (i + 1) (by omega)) (fun j _ _ => offu _ _ (by omega) (by omega))
theorem hold_X (hS : SOK S) (h : HX w S) (hx : wr x = x) (h0 : ¬ (∃ s : Nat, x = s ∧ s < 3) → Q 0 w) (h1 : ∀ s : Nat, x = s → s < 3 → ∀ w', HX w' (holdS S s) → w' 0 17 = w 0 17 → (∀ c j, 1 ≤ c → c < 64 ∨ 65 ≤ c → w' c j = w c j) → Q 1 w') : X10_hold x w Q := by
  obtain ⟨o1, o2, o3, o4, o5⟩ := id hS
  obtain ⟨g1, g2, g3, g4, g5, g6, g7, ⟨pn, g8, g9, g10⟩, ⟨b, g11, g12, g13⟩, g14⟩ := h
  unfold X10_hold
  rw [hx, show wr 3 = 3 by decide]
  refine ⟨fun z => h0 (fun ⟨s, e, _⟩ => by omega), fun z => ⟨fun y => ?_, fun y => h0 (fun ⟨s, e, _⟩ => by omega)⟩⟩
  obtain ⟨s, hs⟩ : ∃ s : Nat, x = s := ⟨x.toNat, by omega⟩
  have hs3 : s < 3 := by omega
  refine X7_store_ok (N := 3) s hs hs3 g6 aln_64 (by decide) (by decide) o1 g4 (fun w1 hw1 off1 => ?_)
  intro w2 e2
  have hp : 2 ^ s < 2 ^ 3 := Nat.pow_lt_pow_right (by decide) hs3
  rw [off1 _ _ (by omega), g12, hs, isl1 (by omega), ior_nat (by omega) (by omega)] at e2
  have off2 : ∀ c j, ¬ (c = 0 ∧ j = 15) → ¬ (c = 64 ∧ 89 * s ≤ j ∧ j < 89 * s + 89) → w2 c j = w c j := fun c j hc hc2 => by rw [e2, up_ap, if_neg hc, off1 _ _ hc2]
  have t3 := tb3 b s g11 hs3
  refine h1 s hs hs3 w2 ⟨by rw [off2 _ _ (by omega) (by omega)]; exact g1, fun i hi => by rw [off2 _ _ (by omega) (by omega)]; exact g2 i hi, by rw [off2 _ _ (by omega) (by omega)]; exact g3, RepX.of g4 (fun c j hc1 hc2 => off2 c j (by omega) (by omega)), by rw [off2 _ _ (by omega) (by omega)]; exact g5, by rw [off2 _ _ (by omega) (by omega)]; exact g6, by rw [off2 _ _ (by omega) (by omega)]; exact g7, ⟨pn, g8, by rw [off2 _ _ (by omega) (by omega)]; exact g9, fun i hi => RepS.of (o3 i hi) (g10 i hi) (fun j _ _ => off2 _ _ (by omega) (by omega))⟩, ⟨b ||| 2 ^ s, (t3 0).1, by rw [e2, up_eq], fun i hi => ?_⟩, fun i hi D' hD' => ?_⟩ (off2 _ _ (by omega) (by omega)) (fun c j hc1 hc2 => off2 c j (by omega) (by omega))
  · rw [(t3 i).2, g13 i hi]
    show _ = (if i = s then some (sD S) else sS S i).isSome
    by_cases q : i = s
    · rw [if_pos q, decide_eq_true q]; simp
    · rw [if_neg q, decide_eq_false q]; simp
  · have hD' : (if i = s then some (sD S) else sS S i) = some D' := hD'
    by_cases q : i = s
    · rw [if_pos q] at hD'
      cases hD'
      rw [q]
      exact RepS.of o1 hw1 (fun j _ _ => by rw [e2, up_ap, if_neg (by omega)])
    · rw [if_neg q] at hD'
      exact RepS.of (o4 i hi D' hD') (g14 i hi D' hD') (fun j _ _ => off2 _ _ (by omega) (by omega))
theorem hold_M (hS : SOK S) (h : HM w S) (hx : wr x = x) (h0 : ¬ (∃ s : Nat, x = s ∧ s < 3) → Q 0 w) (h1 : ∀ s : Nat, x = s → s < 3 → ∀ w', HM w' (holdS S s) → loM w w' → Q 1 w') : X11_hold x w Q := by
  obtain ⟨o1, o2, o3, o4, o5⟩ := id hS
  obtain ⟨g1, g2, g3, g4, g5, ⟨ea, g8, g9, g10⟩, g11, g12, g13⟩ := h
  have loop : ∀ (s : Nat), s < 3 → ∀ (e42 : Int → Wd → Prop) (v : Wd) (m j : Nat) (u : Wd), j ≤ 98 → 98 - j < m → (∀ c i, u c i = if c = 77 ∧ 98 * s ≤ i ∧ i < 98 * s + j then v 73 (i - 98 * s) else v c i) → (∀ u', (∀ c i, u' c i = if c = 77 ∧ 98 * s ≤ i ∧ i < 98 * s + 98 then v 73 (i - 98 * s) else v c i) → e42 (s : Int) u') → X11_hold_l13 Q e42 m (s : Int) (j : Int) u := by
    intro s hs3 e42 v m
    induction m with
    | zero => intro j u g1 g2; omega
    | succ m ih =>
      intro j u g1 g2 hu hK
      unfold X11_hold_l13
      rw [wr_nat (n := j) (by omega), show wr 98 = 98 by decide]
      refine ⟨fun q => hK u (fun c i => by rw [hu, show j = 98 by omega]), fun q => ⟨ix_of rfl (by omega) (by decide), ix_of (n := 98 * s + j) (by omega) (by omega) (by decide), ?_⟩⟩
      intro w2 e2
      rw [wt_of (n := 98 * s + j) (by omega) (by omega), rd_of (n := j) rfl (by omega)] at e2
      rw [show (j : Int) + 1 = ((j + 1 : Nat) : Int) by omega]
      refine ih (j + 1) w2 (by omega) (by omega) (fun c i => ?_) hK
      rw [e2, up_ap]
      by_cases y : c = 77 ∧ i = 98 * s + j
      · rw [if_pos y, hu, if_neg (by omega), if_pos (by omega)]
        congr 1
        omega
      · rw [if_neg y, hu]
        by_cases y2 : c = 77 ∧ 98 * s ≤ i ∧ i < 98 * s + j
        · rw [if_pos y2, if_pos (by omega)]
        · rw [if_neg y2, if_neg (by omega)]
  unfold X11_hold
  refine X11_in_ok hx (by decide) (by decide) (fun z1 z2 => ⟨fun z => absurd z (by decide), fun _ => ?_⟩) (fun z => ⟨fun _ => h0 (fun ⟨s, e, _⟩ => by omega), fun z => absurd rfl z⟩)
  obtain ⟨s, hs⟩ : ∃ s : Nat, x = s := ⟨x.toNat, by omega⟩
  have hs3 : s < 3 := by omega
  subst hs
  refine ⟨99, loop s hs3 _ w 99 0 w (by omega) (by omega) (fun c i => by rw [if_neg (by omega)]) (fun u hu => ?_)⟩
  unfold X11_hold_b42
  refine ⟨ix_of rfl hs3 (by decide), ?_⟩
  intro w4 e4
  rw [wt_of rfl (by omega)] at e4
  have off : ∀ c j, ¬ (c = 78 ∧ j = s) → ¬ (c = 77 ∧ 98 * s ≤ j ∧ j < 98 * s + 98) → w4 c j = w c j := fun c j hc hc2 => by rw [e4, up_ap, if_neg hc, hu, if_neg hc2]
  refine h1 s rfl hs3 w4 ⟨by rw [off _ _ (by omega) (by omega)]; exact g1, fun i hi => by rw [off _ _ (by omega) (by omega)]; exact g2 i hi, by rw [off _ _ (by omega) (by omega)]; exact g3, RepM.of g4 (fun j => off _ _ (by omega) (by omega)), by rw [off _ _ (by omega) (by omega)]; exact g5, ⟨ea, g8, by rw [off _ _ (by omega) (by omega)]; exact g9, fun i hi => RepO.of (o3 i hi) (g10 i hi) (fun j _ _ => off _ _ (by omega) (by omega))⟩, fun i hi => ?_, fun i hi D' hD' => ?_, by rw [off _ _ (by omega) (by omega), off _ _ (by omega) (by omega), off _ _ (by omega) (by omega), off _ _ (by omega) (by omega)]; exact g13⟩ (fun c j hc => off c j (by omega) (by omega))
  · show _ = if (if i = s then some (sD S) else sS S i).isSome then (1 : Int) else 0
    by_cases q : i = s
    · rw [if_pos q, e4, up_ap, if_pos ⟨rfl, q⟩]; rfl
    · rw [if_neg q, off _ _ (by omega) (by omega)]; exact g11 i hi
  · have hD' : (if i = s then some (sD S) else sS S i) = some D' := hD'
    by_cases q : i = s
    · rw [if_pos q] at hD'
      cases hD'
      rw [q]
      exact RepM.toO o1 g4 (fun j hj => by rw [e4, up_ap, if_neg (by omega), hu, if_pos (by omega), show 98 * s + j - 98 * s = j by omega])
    · rw [if_neg q] at hD'
      exact RepO.of (o4 i hi D' hD') (g12 i hi D' hD') (fun j _ _ => off _ _ (by omega) (by omega))
/-- a slot that holds a drawing -/
def Hok (S : Sg) (x : Int) (D : Dw) : Prop := ∃ s : Nat, x = s ∧ s < 3 ∧ sS S s = some D
theorem X10_holdsSlot_ok (h : HX w S) (hx : wr x = x) (h0 : (∀ D, ¬ Hok S x D) → Q 0 w) (h1 : ∀ s : Nat, ∀ D, x = s → s < 3 → sS S s = some D → Q 1 w) : X10_holdsSlot x w Q := by
  obtain ⟨g1, g2, g3, g4, g5, g6, g7, ⟨pn, g8, g9, g10⟩, ⟨b, g11, g12, g13⟩, g14⟩ := h
  unfold X10_holdsSlot X10_holdsSlot_b24
  rw [hx, show wr 3 = 3 by decide]
  refine ⟨fun z => h0 (fun D ⟨s, e, _⟩ => by omega), fun z => ⟨fun y => h0 (fun D ⟨s, e, _⟩ => by omega), fun y => ?_⟩⟩
  obtain ⟨s, hs⟩ : ∃ s : Nat, x = s := ⟨x.toNat, by omega⟩
  have hs3 : s < 3 := by omega
  rw [g12, hs, isr_bit (by omega) (by omega), g13 s hs3]
  cases hD : sS S s with
  | none =>
    refine ⟨fun _ => h0 (fun D ⟨s', e1, e2, e3⟩ => ?_), fun z => absurd rfl z⟩
    have : s' = s := by omega
    subst this
    rw [hD] at e3
    cases e3
  | some D => exact ⟨fun z => absurd z (show ¬ wr 1 = 0 by decide), fun _ => h1 s D hs hs3 hD⟩
theorem restore_X (hS : SOK S) (h : HX w S) (hx : wr x = x) (h0 : (∀ D, ¬ Hok S x D) → Q 0 w) (h1 : ∀ D, Hok S x D → WF D → ∀ w', HX w' (backS S D) → w' 0 17 = 0 → byX w w' → Q 1 w') : X10_restore x w Q := by
  obtain ⟨o1, o2, o3, o4, o5⟩ := id hS
  unfold X10_restore
  refine X10_holdsSlot_ok h hx (fun hn => ⟨fun _ => h0 hn, fun z => absurd rfl z⟩) (fun s D hs hs3 hD => ⟨fun z => absurd z (by decide), fun _ => ?_⟩)
  obtain ⟨g1, g2, g3, g4, g5, g6, g7, ⟨pn, g8, g9, g10⟩, ⟨b, g11, g12, g13⟩, g14⟩ := h
  refine X7_fetch_ok (N := 3) s hs hs3 g6 aln_64 (by decide) (by decide) (o4 s hs3 D hD) (g14 s hs3 D hD) (fun w3 hw3 off3 => ?_)
  unfold X10_forgetPast
  intro w4 e4 w5 e5 w6 e6
  have off : ∀ c j, ¬ (c = 0 ∧ (j = 13 ∨ j = 14 ∨ j = 17)) → (c < 1 ∨ 5 ≤ c) → w6 c j = w c j := fun c j hc hc2 => by rw [e6, up_ap, if_neg (by omega), e5, up_ap, if_neg (by omega), e4, up_ap, if_neg (by omega), off3 _ _ hc2]
  refine h1 D ⟨s, hs, hs3, hD⟩ (o4 s hs3 D hD) w6 ⟨by rw [off _ _ (by omega) (by omega)]; exact g1, fun i hi => by rw [off _ _ (by omega) (by omega)]; exact g2 i hi, by rw [off _ _ (by omega) (by omega)]; exact g3, RepX.of hw3 (fun c j hc1 hc2 => by rw [e6, up_ap, if_neg (by omega), e5, up_ap, if_neg (by omega), e4, up_ap, if_neg (by omega)]), by rw [off _ _ (by omega) (by omega)]; exact g5, by rw [off _ _ (by omega) (by omega)]; exact g6, by rw [e6, up_ap, if_neg (by omega), e5, up_eq]; rfl, ⟨0, by omega, by rw [e6, up_ap, if_neg (by omega), e5, up_ap, if_neg (by omega), e4, up_eq]; rfl, fun i hi => absurd hi (by show ¬ i < 0; omega)⟩, ⟨b, g11, by rw [off _ _ (by omega) (by omega)]; exact g12, g13⟩, fun i hi D' hD' => RepS.of (o4 i hi D' hD') (g14 i hi D' hD') (fun j _ _ => off _ _ (by omega) (by omega))⟩ (by rw [e6, up_eq]) (fun c j hc => off c j (by omega) (by omega))
theorem restore_M (hS : SOK S) (h : HM w S) (hx : wr x = x) (h0 : (∀ D, ¬ Hok S x D) → Q 0 w) (h1 : ∀ D, Hok S x D → WF D → ∀ w', HM w' (backS S D) → loM w w' → Q 1 w') : X11_restore x w Q := by
  obtain ⟨o1, o2, o3, o4, o5⟩ := id hS
  obtain ⟨g1, g2, g3, g4, g5, ⟨ea, g8, g9, g10⟩, g11, g12, g13⟩ := h
  have loop : ∀ (s : Nat), s < 3 → ∀ (e51 : Wd → Prop) (v : Wd) (m j : Nat) (u : Wd), j ≤ 98 → 98 - j < m → (∀ c i, u c i = if c = 73 ∧ i < j then v 77 (98 * s + i) else v c i) → (∀ u', (∀ c i, u' c i = if c = 73 ∧ i < 98 then v 77 (98 * s + i) else v c i) → e51 u') → X11_restore_l22 Q e51 m (s : Int) (j : Int) u := by
    intro s hs3 e51 v m
    induction m with
    | zero => intro j u g1 g2; omega
    | succ m ih =>
      intro j u g1 g2 hu hK
      unfold X11_restore_l22
      rw [wr_nat (n := j) (by omega), show wr 98 = 98 by decide]
      refine ⟨fun q => hK u (fun c i => by rw [hu, show j = 98 by omega]), fun q => ⟨ix_of (n := 98 * s + j) (by omega) (by omega) (by decide), ix_of rfl (by omega) (by decide), ?_⟩⟩
      intro w2 e2
      rw [wt_of (n := j) rfl (by omega), rd_of (n := 98 * s + j) (by omega) (by omega)] at e2
      rw [show (j : Int) + 1 = ((j + 1 : Nat) : Int) by omega]
      refine ih (j + 1) w2 (by omega) (by omega) (fun c i => ?_) hK
      rw [e2, up_ap]
      by_cases y : c = 73 ∧ i = j
      · rw [if_pos y, hu, if_neg (by omega), if_pos (by omega), y.2]
      · rw [if_neg y, hu]
        by_cases y2 : c = 73 ∧ i < j
        · rw [if_pos y2, if_pos (by omega)]
        · rw [if_neg y2, if_neg (by omega)]
  unfold X11_restore
  refine X11_in_ok hx (by decide) (by decide) (fun z1 z2 => ⟨fun z => absurd z (by decide), fun _ => ?_⟩) (fun z => ⟨fun _ => h0 (fun D ⟨s, e, _⟩ => by omega), fun z => absurd rfl z⟩)
  obtain ⟨s, hs⟩ : ∃ s : Nat, x = s := ⟨x.toNat, by omega⟩
  have hs3 : s < 3 := by omega
  subst hs
  rw [rd_of rfl (by omega), g11 s hs3]
  refine ⟨ix_of rfl hs3 (by decide), ?_⟩
  cases hD : sS S s with
  | none =>
    refine ⟨fun _ => h0 (fun D ⟨s', e1, e2, e3⟩ => ?_), fun z => absurd rfl z⟩
    have : s' = s := by omega
    subst this
    rw [hD] at e3
    cases e3
  | some D =>
    refine ⟨fun z => absurd z (show ¬ wr 1 = 0 by decide), fun _ => ?_⟩
    have hWD := o4 s hs3 D hD
    refine ⟨99, loop s hs3 _ w 99 0 w (by omega) (by omega) (fun c i => by rw [if_neg (by omega)]) (fun u hu => ?_)⟩
    unfold X11_restore_b51
    intro w4 e4
    have off : ∀ c j, c ≠ 73 → ¬ (c = 65 ∧ j = 24) → w4 c j = w c j := fun c j hc hc2 => by rw [e4, up_ap, if_neg hc2, hu, if_neg (by omega)]
    refine h1 D ⟨s, rfl, hs3, hD⟩ hWD w4 ⟨by rw [off _ _ (by omega) (by omega)]; exact g1, fun i hi => by rw [off _ _ (by omega) (by omega)]; exact g2 i hi, by rw [off _ _ (by omega) (by omega)]; exact g3, RepO.toM hWD (g12 s hs3 D hD) (fun j hj => by rw [e4, up_ap, if_neg (by omega), hu, if_pos ⟨rfl, hj⟩]), by rw [e4, up_eq]; rfl, ⟨ea, g8, by rw [off _ _ (by omega) (by omega)]; exact g9, fun i hi => absurd hi (by show ¬ i < 0; omega)⟩, fun i hi => by rw [off _ _ (by omega) (by omega)]; exact g11 i hi, fun i hi D' hD' => RepO.of (o4 i hi D' hD') (g12 i hi D' hD') (fun j _ _ => off _ _ (by omega) (by omega)), by rw [off _ _ (by omega) (by omega), off _ _ (by omega) (by omega), off _ _ (by omega) (by omega), off _ _ (by omega) (by omega)]; exact g13⟩ (fun c j hc => off c j (by omega) (by omega))
end UNDO
