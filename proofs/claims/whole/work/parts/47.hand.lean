/-! THINGS DONE BY HAND, at the class and at the model -/
theorem X1_hasLine_ok {k m : Nat} {Q : Int → Wd → Prop} {w : Wd} {x : Int} (hx : wr x = x) (hm : w k 1 = m) (hm2 : m ≤ 10) (h1 : ∀ e : Nat, x = e → e < m → Q 1 w) (h0 : ¬ (∃ e : Nat, x = e ∧ e < m) → Q 0 w) : X1_hasLine k x w Q := by
  unfold X1_hasLine
  rw [hx, hm, wr_nat (n := m) (by omega)]
  refine ⟨fun q => h0 (fun ⟨e, h, _⟩ => by omega), fun q => ⟨fun z => h0 (fun ⟨e, h, _⟩ => by omega), fun z => h1 x.toNat (by omega) (by omega)⟩⟩
theorem X1_hasPost_ok {k n : Nat} {Q : Int → Wd → Prop} {w : Wd} {x : Int} (hx : wr x = x) (hn : w k 0 = n) (hn2 : n ≤ 6) (h1 : ∀ p : Nat, x = p → p < n → Q 1 w) (h0 : ¬ (∃ p : Nat, x = p ∧ p < n) → Q 0 w) : X1_hasPost k x w Q := by
  unfold X1_hasPost
  rw [hx, hn, wr_nat (n := n) (by omega)]
  refine ⟨fun q => h0 (fun ⟨e, h, _⟩ => by omega), fun q => ⟨fun z => h0 (fun ⟨e, h, _⟩ => by omega), fun z => h1 x.toNat (by omega) (by omega)⟩⟩
theorem X11_in_ok {Q : Int → Wd → Prop} {w : Wd} {x a b : Int} (hx : wr x = x) (ha : wr a = a) (hb : wr b = b) (h1 : a ≤ x → x ≤ b → Q 1 w) (h0 : ¬ (a ≤ x ∧ x ≤ b) → Q 0 w) : X11_in x a b w Q := by
  unfold X11_in X11_in_b14
  rw [hx, ha, hb]
  exact ⟨fun q => h0 (by omega), fun q => ⟨fun z => h0 (by omega), fun z => h1 (by omega) (by omega)⟩⟩
theorem X11_isLine_ok {m : Nat} {Q : Int → Wd → Prop} {w : Wd} {x : Int} (hx : wr x = x) (hm : w 73 1 = m) (hm2 : m ≤ 10) (h1 : ∀ e : Nat, x = e → e < m → Q 1 w) (h0 : ¬ (∃ e : Nat, x = e ∧ e < m) → Q 0 w) : X11_isLine x w Q := by
  unfold X11_isLine
  rw [rd1, hm]
  refine ⟨ix_of (n := 1) rfl (by omega) (by decide), X11_in_ok hx (by decide) (wr_id (by omega) (by omega)) (fun q z => ⟨Or.inr rfl, h1 x.toNat (by omega) (by omega)⟩) (fun q => ⟨Or.inl rfl, h0 (fun ⟨e, h, _⟩ => by omega)⟩)⟩
theorem X11_isPost_ok {n : Nat} {Q : Int → Wd → Prop} {w : Wd} {x : Int} (hx : wr x = x) (hn : w 73 0 = n) (hn2 : n ≤ 6) (h1 : ∀ e : Nat, x = e → e < n → Q 1 w) (h0 : ¬ (∃ e : Nat, x = e ∧ e < n) → Q 0 w) : X11_isPost x w Q := by
  unfold X11_isPost
  rw [rd0, hn]
  refine ⟨ix_of (n := 0) rfl (by omega) (by decide), X11_in_ok hx (by decide) (wr_id (by omega) (by omega)) (fun q z => ⟨Or.inr rfl, h1 x.toNat (by omega) (by omega)⟩) (fun q => ⟨Or.inl rfl, h0 (fun ⟨e, h, _⟩ => by omega)⟩)⟩
/-- a corner of a post -/
def Cor (D : Dw) (x i : Int) : Prop := ∃ p k : Nat, x = p ∧ i = k ∧ p < dN D ∧ (dG D p = 0 ∧ k = 0 ∨ k < dG D p)
theorem X1_hasCorner_ok {K : Nat} {Q : Int → Wd → Prop} {w : Wd} {D : Dw} {x i : Int} (hW : WF D) (hR : RepX w K D) (hx : wr x = x) (hi : wr i = i) (h1 : Cor D x i → Q 1 w) (h0 : ¬ Cor D x i → Q 0 w) : X1_hasCorner K x i w Q := by
  unfold X1_hasCorner X1_hasCorner_b30
  refine X1_hasPost_ok hx hR.1 hW.1 (fun p hp hpn => ?_) (fun hn => ?_)
  · refine ⟨fun z => absurd z (by decide), fun _ => ?_⟩
    subst hp
    have hd := hW.deg hpn
    have n6 := hW.1
    have m10 := hW.2.1
    rw [rd_of (n := p) rfl (by omega), hR.2.2.2.2.1 p hpn, show (1 : Int) = ((1 : Nat) : Int) from rfl, imx_nat (by omega) (by omega), wr_nat (n := max 1 (dG D p)) (by omega), hi]
    refine ⟨fun q => h0 ?_, fun q => ⟨ix_of rfl (by omega) (by decide), fun z => h0 ?_, fun z => h1 ⟨p, i.toNat, rfl, by omega, hpn, by omega⟩⟩⟩
    · rintro ⟨p', k, h2, h3, h4, h5⟩; omega
    · rintro ⟨p', k, h2, h3, h4, h5⟩
      have : p' = p := by omega
      subst this
      omega
  · refine ⟨fun _ => h0 ?_, fun z => absurd rfl z⟩
    rintro ⟨p, k, h2, h3, h4, h5⟩
    exact hn ⟨p, h2, h4⟩
theorem X11_isCorner_ok {Q : Int → Wd → Prop} {w : Wd} {D : Dw} {x i : Int} (hW : WF D) (hR : RepM w 73 D) (hx : wr x = x) (hi : wr i = i) (h1 : Cor D x i → Q 1 w) (h0 : ¬ Cor D x i → Q 0 w) : X11_isCorner x i w Q := by
  unfold X11_isCorner X11_isCorner_b35 X11_isCorner_b31
  refine X11_isPost_ok hx hR.1 hW.1 (fun p hp hpn => ?_) (fun hn => ?_)
  · refine ⟨fun z => absurd z (by decide), fun _ => ?_⟩
    subst hp
    have hd := hW.deg hpn
    have n6 := hW.1
    have m10 := hW.2.1
    rw [rd_of (n := 32 + p) (by omega) (by omega), hR.2.2.2.2.1 p hpn, hi]
    refine ⟨fun q => h1 ⟨p, 0, rfl, q, hpn, by omega⟩, fun q => ⟨ix_of (n := 32 + p) (by omega) (by omega) (by decide), X11_in_ok hi (by decide) (wr_id (by omega) (by omega)) (fun z1 z2 => ⟨fun z => absurd z (by decide), fun _ => h1 ⟨p, i.toNat, rfl, by omega, hpn, by omega⟩⟩) (fun z1 => ⟨fun _ => h0 ?_, fun z => absurd rfl z⟩)⟩⟩
    rintro ⟨p', k, h2, h3, h4, h5⟩
    have : p' = p := by omega
    subst this
    omega
  · refine ⟨fun _ => h0 ?_, fun z => absurd rfl z⟩
    rintro ⟨p, k, h2, h3, h4, h5⟩
    exact hn ⟨p, h2, h4⟩
theorem byX_off {w v w' : Wd} (h : byX w v) (g : offX 1 v w') : byX w w' := fun c j hc => by rw [g c j (by omega), h c j hc]
theorem loM_off {w v w' : Wd} (h : loM w v) (g : offM 73 v w') : loM w w' := fun c j hc => by rw [g c j (by omega), h c j hc]
section HAND
variable {Q : Int → Wd → Prop} {w : Wd} {S : Sg} {x y : Int}
theorem goes_X (hS : SOK S) (h : HX w S) (hx : wr x = x) (h0 : ¬ (∃ e : Nat, x = e ∧ e < dM (sD S)) → Q 0 w) (h1 : ∀ e : Nat, x = e → e < dM (sD S) → ∀ w', HX w' (pushS S (dDel (sD S) e)) → w' 0 17 = 0 → byX w w' → Q 1 w') : X10_goes x w Q := by
  unfold X10_goes
  refine X1_hasLine_ok hx h.2.2.2.1.2.1 hS.1.2.1 (fun e he hem => ⟨fun z => absurd z (by decide), fun _ => ?_⟩) (fun hn => ⟨fun _ => h0 hn, fun z => absurd rfl z⟩)
  refine X10_keepPast_ok hS h (fun v hv v17 hby => ?_)
  refine X1_dropLine_ok e he hS.1 hem hv.2.2.2.1 (fun w' hw' off => h1 e he hem w' (hv.setD hw' off) (by rw [off _ _ (by omega)]; exact v17) (byX_off hby off))
theorem goes_M (hS : SOK S) (h : HM w S) (hx : wr x = x) (h0 : ¬ (∃ e : Nat, x = e ∧ e < dM (sD S)) → Q 0 w) (h1 : ∀ e : Nat, x = e → e < dM (sD S) → ∀ w', HM w' (pushS S (dDel (sD S) e)) → loM w w' → Q 1 w') : X11_goes x w Q := by
  unfold X11_goes
  refine X11_isLine_ok hx h.2.2.2.1.2.1 hS.1.2.1 (fun e he hem => ⟨fun z => absurd z (by decide), fun _ => ?_⟩) (fun hn => ⟨fun _ => h0 hn, fun z => absurd rfl z⟩)
  refine X11_marks_ok hS h (fun v hv hlo _ => ?_)
  refine X11_takesOut_ok e he hS.1 hem hv.2.2.2.1 (fun w' hw' off => h1 e he hem w' (hv.setD hw' off) (loM_off hlo off))
theorem twist_X (hS : SOK S) (h : HX w S) (hx : wr x = x) (h0 : ¬ (∃ e : Nat, x = e ∧ e < dM (sD S)) → Q 0 w) (h1 : ∀ e : Nat, x = e → e < dM (sD S) → ∀ w', HX w' (pushS S (dTw (sD S) e)) → w' 0 17 = 0 → byX w w' → Q 1 w') : X10_twist x w Q := by
  unfold X10_twist
  refine X1_hasLine_ok hx h.2.2.2.1.2.1 hS.1.2.1 (fun e he hem => ⟨fun z => absurd z (by decide), fun _ => ?_⟩) (fun hn => ⟨fun _ => h0 hn, fun z => absurd rfl z⟩)
  refine X10_keepPast_ok hS h (fun v hv v17 hby => ?_)
  intro w4 e4
  have := tw_X hS.1 hem hv.2.2.2.1
  rw [he] at e4
  rw [← e4] at this
  exact h1 e he hem w4 (hv.setD this.1 this.2) (by rw [this.2 _ _ (by omega)]; exact v17) (byX_off hby this.2)
theorem twist_M (hS : SOK S) (h : HM w S) (hx : wr x = x) (h0 : ¬ (∃ e : Nat, x = e ∧ e < dM (sD S)) → Q 0 w) (h1 : ∀ e : Nat, x = e → e < dM (sD S) → ∀ w', HM w' (pushS S (dTw (sD S) e)) → loM w w' → Q 1 w') : X11_twist x w Q := by
  unfold X11_twist
  have m10 := hS.1.2.1
  refine X11_isLine_ok hx h.2.2.2.1.2.1 m10 (fun e he hem => ⟨fun z => absurd z (by decide), fun _ => ?_⟩) (fun hn => ⟨fun _ => h0 hn, fun z => absurd rfl z⟩)
  refine X11_marks_ok hS h (fun v hv hlo _ => ?_)
  subst he
  refine ⟨ix_of (n := 22 + e) (by omega) (by omega) (by decide), ix_of (n := 22 + e) (by omega) (by omega) (by decide), ?_⟩
  intro w4 e4
  rw [wt_of (n := 22 + e) (by omega) (by omega), rd_of (n := 22 + e) (by omega) (by omega)] at e4
  have := tw_M hS.1 hem hv.2.2.2.1
  rw [← e4] at this
  exact h1 e rfl hem w4 (hv.setD this.1 this.2) (loM_off hlo this.2)
theorem flip_X (hS : SOK S) (h : HX w S) (hx : wr x = x) (h0 : ¬ (∃ e : Nat, x = e ∧ e < dN (sD S)) → Q 0 w) (h1 : ∀ e : Nat, x = e → e < dN (sD S) → ∀ w', HX w' (pushS S (dFlip (sD S) e)) → w' 0 17 = 0 → byX w w' → Q 1 w') : X10_flip x w Q := by
  unfold X10_flip
  refine X1_hasPost_ok hx h.2.2.2.1.1 hS.1.1 (fun e he hem => ⟨fun z => absurd z (by decide), fun _ => ?_⟩) (fun hn => ⟨fun _ => h0 hn, fun z => absurd rfl z⟩)
  refine X10_keepPast_ok hS h (fun v hv v17 hby => ?_)
  refine X1_turnOver_ok e he hS.1 hem hv.2.2.2.1 (fun w' hw' off => h1 e he hem w' (hv.setD hw' off) (by rw [off _ _ (by omega)]; exact v17) (byX_off hby off))
theorem flip_M (hS : SOK S) (h : HM w S) (hx : wr x = x) (h0 : ¬ (∃ e : Nat, x = e ∧ e < dN (sD S)) → Q 0 w) (h1 : ∀ e : Nat, x = e → e < dN (sD S) → ∀ w', HM w' (pushS S (dFlip (sD S) e)) → loM w w' → Q 1 w') : X11_flip x w Q := by
  unfold X11_flip
  refine X11_isPost_ok hx h.2.2.2.1.1 hS.1.1 (fun e he hem => ⟨fun z => absurd z (by decide), fun _ => ?_⟩) (fun hn => ⟨fun _ => h0 hn, fun z => absurd rfl z⟩)
  refine X11_marks_ok hS h (fun v hv hlo _ => ?_)
  refine X11_turnsOver_ok e he hS.1 hem hv.2.2.2.1 (fun w' hw' off => h1 e he hem w' (hv.setD hw' off) (loM_off hlo off))
/-- a place where two lines can be exchanged -/
def Xok (D : Dw) (x y : Int) : Prop := ∃ p i : Nat, x = p ∧ y = i ∧ p < dN D ∧ 3 ≤ dG D p ∧ i < dG D p
theorem xch_X (hS : SOK S) (h : HX w S) (hx : wr x = x) (hy : wr y = y) (h0 : ¬ Xok (sD S) x y → Q 0 w) (h1 : ∀ p i : Nat, x = p → y = i → p < dN (sD S) → i < dG (sD S) p → Xok (sD S) x y → ∀ w', HX w' (pushS S (dXch (sD S) p i)) → w' 0 17 = 0 → byX w w' → Q 1 w') : X10_exchange x y w Q := by
  unfold X10_exchange
  have n6 := hS.1.1
  have m10 := hS.1.2.1
  refine X1_hasPost_ok hx h.2.2.2.1.1 n6 (fun p hp hpn => ⟨fun z => absurd z (by decide), fun _ => ?_⟩) (fun hn => ⟨fun _ => h0 (fun ⟨p, i, g1, g2, g3, _⟩ => hn ⟨p, g1, g3⟩), fun z => absurd rfl z⟩)
  have hd := hS.1.deg hpn
  subst hp
  rw [rd_of (n := p) rfl (by omega), h.2.2.2.1.2.2.2.2.1 p hpn, wr_nat (n := dG (sD S) p) (by omega), hy, show wr 3 = 3 by decide]
  have un : ∀ p' : Nat, (p : Int) = (p' : Int) → p' = p := fun p' h => by omega
  refine ⟨ix_of rfl (by omega) (by decide), fun q => h0 ?_, fun q => ⟨fun z => h0 ?_, fun z => ⟨ix_of rfl (by omega) (by decide), fun s => ?_, fun s => h0 ?_⟩⟩⟩
  · rintro ⟨p', i, g1, g2, g3, g4, g5⟩; obtain rfl := un p' g1; omega
  · rintro ⟨p', i, g1, g2, g3, g4, g5⟩; omega
  · refine X10_keepPast_ok hS h (fun v hv v17 hby => ?_)
    have hyi : y = (y.toNat : Int) := by omega
    refine X1_swapWithNext_ok p y.toNat rfl hyi hS.1 hpn (by omega) hv.2.2.2.1 (fun w' hw' off => h1 p y.toNat rfl hyi hpn (by omega) ⟨p, y.toNat, rfl, hyi, hpn, by omega, by omega⟩ w' (hv.setD hw' off) (by rw [off _ _ (by omega)]; exact v17) (byX_off hby off))
  · rintro ⟨p', i, g1, g2, g3, g4, g5⟩; obtain rfl := un p' g1; omega
theorem xch_M (hS : SOK S) (h : HM w S) (hx : wr x = x) (hy : wr y = y) (h0 : ¬ Xok (sD S) x y → Q 0 w) (h1 : ∀ p i : Nat, x = p → y = i → p < dN (sD S) → i < dG (sD S) p → Xok (sD S) x y → ∀ w', HM w' (pushS S (dXch (sD S) p i)) → loM w w' → Q 1 w') : X11_exchange x y w Q := by
  unfold X11_exchange
  have n6 := hS.1.1
  have m10 := hS.1.2.1
  refine X11_isPost_ok hx h.2.2.2.1.1 n6 (fun p hp hpn => ⟨fun z => absurd z (by decide), fun _ => ?_⟩) (fun hn => ⟨fun _ => h0 (fun ⟨p, i, g1, g2, g3, _⟩ => hn ⟨p, g1, g3⟩), fun z => absurd rfl z⟩)
  have hd := hS.1.deg hpn
  subst hp
  rw [rd_of (n := 32 + p) (by omega) (by omega), h.2.2.2.1.2.2.2.2.1 p hpn, wr_nat (n := dG (sD S) p) (by omega), show wr 3 = 3 by decide]
  have un : ∀ p' : Nat, (p : Int) = (p' : Int) → p' = p := fun p' h => by omega
  refine ⟨ix_of (n := 32 + p) (by omega) (by omega) (by decide), fun q => h0 ?_, fun q => ⟨ix_of (n := 32 + p) (by omega) (by omega) (by decide), X11_in_ok hy (by decide) (wr_id (by omega) (by omega)) (fun z1 z2 => ⟨fun z => absurd z (by decide), fun _ => ?_⟩) (fun z1 => ⟨fun _ => h0 ?_, fun z => absurd rfl z⟩)⟩⟩
  · rintro ⟨p', i, g1, g2, g3, g4, g5⟩; obtain rfl := un p' g1; omega
  · refine X11_marks_ok hS h (fun v hv hlo _ => ?_)
    have hyi : y = (y.toNat : Int) := by omega
    exact mXchB_ok p y.toNat rfl hyi hS.1 hpn (by omega) hv.2.2.2.1 (fun w' hw' off => h1 p y.toNat rfl hyi hpn (by omega) ⟨p, y.toNat, rfl, hyi, hpn, by omega, by omega⟩ w' (hv.setD hw' off) (loM_off hlo off))
  · rintro ⟨p', i, g1, g2, g3, g4, g5⟩; obtain rfl := un p' g1; omega
def Lok (D : Dw) (a i b j : Int) : Prop := dM D < 10 ∧ a ≠ b ∧ Cor D a i ∧ Cor D b j
theorem lay_X {a i b j t : Int} (hS : SOK S) (h : HX w S) (ha : wr a = a) (hi : wr i = i) (hb : wr b = b) (hj : wr j = j) (h0 : ¬ Lok (sD S) a i b j → Q (-1) w) (h1 : ∀ p k q l : Nat, a = p → i = k → b = q → j = l → Lok (sD S) a i b j → ∀ w', HX w' (pushS S (dLay (sD S) p k q l (decide (wr t ≠ 0)))) → WF (dLay (sD S) p k q l (decide (wr t ≠ 0))) → w' 0 17 = 0 → byX w w' → Q (dM (sD S) : Int) w') : X10_lay a i b j t w Q := by
  unfold X10_lay
  have n6 := hS.1.1
  have m10 := hS.1.2.1
  rw [h.2.2.2.1.2.1, wr_nat (n := dM (sD S)) (by omega), ha, hb, show wr 10 = 10 by decide, show wr (-1) = -1 by decide]
  refine ⟨fun q => h0 (fun g => by have := g.1; omega), fun q => ⟨fun z => h0 (fun g => g.2.1 z), fun z => ?_⟩⟩
  refine X1_hasCorner_ok hS.1 h.2.2.2.1 ha hi (fun c1 => ⟨fun z => absurd z (by decide), fun _ => ?_⟩) (fun c1 => ⟨fun _ => h0 (fun g => c1 g.2.2.1), fun z => absurd rfl z⟩)
  refine X1_hasCorner_ok hS.1 h.2.2.2.1 hb hj (fun c2 => ⟨fun z => absurd z (by decide), fun _ => ?_⟩) (fun c2 => ⟨fun _ => h0 (fun g => c2 g.2.2.2), fun z => absurd rfl z⟩)
  obtain ⟨p, k, e1, e2, e3, e4⟩ := id c1
  obtain ⟨q', l, f1, f2, f3, f4⟩ := id c2
  refine X10_keepPast_ok hS h (fun v hv v17 hby => ?_)
  have hpq : p ≠ q' := fun y => z (by rw [e1, f1, y])
  have hm : dM (sD S) < 10 := by omega
  refine X1_addLine_ok p k q' l e1 e2 f1 f2 hS.1 hm e3 f3 hpq e4 f4 hv.2.2.2.1 (fun w' hw' off => ?_)
  rw [wr_nat (n := dM (sD S)) (by omega)]
  exact h1 p k q' l e1 e2 f1 f2 ⟨hm, z, c1, c2⟩ w' (hv.setD hw' off) (dLay_WF hS.1 hm e3 f3 hpq (by omega) (by omega)) (by rw [off _ _ (by omega)]; exact v17) (byX_off hby off)
theorem lay_M {a i b j t : Int} (hS : SOK S) (h : HM w S) (ha : wr a = a) (hi : wr i = i) (hb : wr b = b) (hj : wr j = j) (h0 : ¬ Lok (sD S) a i b j → Q (-1) w) (h1 : ∀ p k q l : Nat, a = p → i = k → b = q → j = l → Lok (sD S) a i b j → ∀ w', HM w' (pushS S (dLay (sD S) p k q l (decide (wr t ≠ 0)))) → loM w w' → Q (dM (sD S) : Int) w') : X11_lay a i b j t w Q := by
  unfold X11_lay
  have n6 := hS.1.1
  have m10 := hS.1.2.1
  rw [rd1, h.2.2.2.1.2.1, wr_nat (n := dM (sD S)) (by omega), ha, hb, show wr 10 = 10 by decide, show wr (-1) = -1 by decide]
  refine ⟨ix_of (n := 1) rfl (by omega) (by decide), fun q => h0 (fun g => by have := g.1; omega), fun q => ?_⟩
  refine X11_isCorner_ok hS.1 h.2.2.2.1 ha hi (fun c1 => ⟨fun z => absurd z (by decide), fun _ => ?_⟩) (fun c1 => ⟨fun _ => h0 (fun g => c1 g.2.2.1), fun z => absurd rfl z⟩)
  refine X11_isCorner_ok hS.1 h.2.2.2.1 hb hj (fun c2 => ⟨fun z => absurd z (by decide), fun _ => ?_⟩) (fun c2 => ⟨fun _ => h0 (fun g => c2 g.2.2.2), fun z => absurd rfl z⟩)
  refine ⟨fun z => h0 (fun g => g.2.1 z), fun z => ?_⟩
  obtain ⟨p, k, e1, e2, e3, e4⟩ := id c1
  obtain ⟨q', l, f1, f2, f3, f4⟩ := id c2
  refine X11_marks_ok hS h (fun v hv hlo _ => ?_)
  have hpq : p ≠ q' := fun y => z (by rw [e1, f1, y])
  have hm : dM (sD S) < 10 := by omega
  exact mLayB_ok p k q' l e1 e2 f1 f2 hS.1 hm e3 f3 hpq e4 f4 hv.2.2.2.1 (fun w' hw' off => h1 p k q' l e1 e2 f1 f2 ⟨hm, z, c1, c2⟩ w' (hv.setD hw' off) (loM_off hlo off))
end HAND
