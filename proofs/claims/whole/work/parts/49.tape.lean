/-! THE TAPE -/
theorem HX.gen {w w' : Wd} {S : Sg} (hS : SOK S) (h : HX w S) (off : ∀ c j, ¬ (c = 0 ∧ (j = 16 ∨ j = 17)) → (c < 5 ∨ 61 ≤ c ∧ c < 65) → w' c j = w c j) {L : Nat} {B : Nat → Int} {P : Int} (h1 : w' 9 0 = L) (h2 : ∀ i, i < L → w' 13 i = B i) (h3 : w' 0 16 = P) : HX w' (L, B, P, sD S, sH S, sF S, sS S) := by
  obtain ⟨o1, o2, o3, o4, o5⟩ := hS
  obtain ⟨g1, g2, g3, g4, g5, g6, g7, ⟨pn, g8, g9, g10⟩, ⟨b, g11, g12, g13⟩, g14⟩ := h
  refine ⟨h1, h2, h3, RepX.of g4 (fun c j _ _ => off _ _ (by omega) (by omega)), by rw [off _ _ (by omega) (by omega)]; exact g5, by rw [off _ _ (by omega) (by omega)]; exact g6, by rw [off _ _ (by omega) (by omega)]; exact g7, ⟨pn, g8, by rw [off _ _ (by omega) (by omega)]; exact g9, fun i hi => RepS.of (o3 i hi) (g10 i hi) (fun j _ _ => off _ _ (by omega) (by omega))⟩, ⟨b, g11, by rw [off _ _ (by omega) (by omega)]; exact g12, g13⟩, fun i hi D' hD' => RepS.of (o4 i hi D' hD') (g14 i hi D' hD') (fun j _ _ => off _ _ (by omega) (by omega))⟩
theorem HM.gen {w w' : Wd} {S : Sg} (hS : SOK S) (h : HM w S) (off : ∀ c j, (c = 65 ∧ (j = 23 ∨ j = 24) ∨ c = 72 ∨ c = 73 ∨ c = 76 ∨ c = 77 ∨ c = 78) → w' c j = w c j) {L : Nat} {B : Nat → Int} {P : Int} (h1 : w' 65 2 = L) (h2 : ∀ i, i < L → w' 66 i = B i) (h3 : w' 65 16 = P) : HM w' (L, B, P, sD S, sH S, sF S, sS S) := by
  obtain ⟨o1, o2, o3, o4, o5⟩ := hS
  obtain ⟨g1, g2, g3, g4, g5, ⟨ea, g8, g9, g10⟩, g11, g12, g13⟩ := h
  refine ⟨h1, h2, h3, RepM.of g4 (fun j => off _ _ (by omega)), by rw [off _ _ (by omega)]; exact g5, ⟨ea, g8, by rw [off _ _ (by omega)]; exact g9, fun i hi => RepO.of (o3 i hi) (g10 i hi) (fun j _ _ => off _ _ (by omega))⟩, fun i hi => by rw [off _ _ (by omega)]; exact g11 i hi, fun i hi D' hD' => RepO.of (o4 i hi D' hD') (g12 i hi D' hD') (fun j _ _ => off _ _ (by omega)), by rw [off _ _ (by omega), off _ _ (by omega), off _ _ (by omega), off _ _ (by omega)]; exact g13⟩
theorem HX.same {w w' : Wd} {S : Sg} (hS : SOK S) (h : HX w S) (off : ∀ c j, ¬ (c = 0 ∧ j = 17) → (c < 5 ∨ (c = 9 ∧ j = 0) ∨ c = 13 ∨ 61 ≤ c ∧ c < 65) → w' c j = w c j) : HX w' S :=
  HX.gen (L := sL S) (B := sB S) (P := sP S) hS h (fun c j h1 h2 => off c j (by omega) (by omega)) (by rw [off _ _ (by omega) (by omega)]; exact h.1) (fun i hi => by rw [off _ _ (by omega) (by omega)]; exact h.2.1 i hi) (by rw [off _ _ (by omega) (by omega)]; exact h.2.2.1)
theorem HM.same {w w' : Wd} {S : Sg} (hS : SOK S) (h : HM w S) (off : ∀ c j, (c = 65 ∧ (j = 2 ∨ j = 16 ∨ j = 23 ∨ j = 24) ∨ c = 66 ∨ c = 72 ∨ c = 73 ∨ c = 76 ∨ c = 77 ∨ c = 78) → w' c j = w c j) : HM w' S :=
  HM.gen (L := sL S) (B := sB S) (P := sP S) hS h (fun c j h2 => off c j (by omega)) (by rw [off _ _ (by omega)]; exact h.1) (fun i hi => by rw [off _ _ (by omega)]; exact h.2.1 i hi) (by rw [off _ _ (by omega)]; exact h.2.2.1)
def bytK (x : Int) (k : Nat) : Int := iby (isr x (24 - 8 * (k : Int)))
theorem iby_rg (a : Int) : -128 ≤ iby a ∧ iby a ≤ 127 := by
  unfold iby
  rw [Int8.toInt_toInt32]
  exact ⟨Int8.le_toInt _, by have := Int8.toInt_lt (Int32.ofInt a).toInt8; omega⟩
theorem bytK_rg (x : Int) (k : Nat) : -128 ≤ bytK x k ∧ bytK x k ≤ 127 := iby_rg _
def appB (L : Nat) (B : Nat → Int) (x : Int) : Nat → Int := fun i => if L ≤ i ∧ i < L + 4 then bytK x (i - L) else B i
theorem X6_append_ok {Q : Wd → Prop} {w : Wd} {x : Int} {L : Nat} (hL : L + 4 ≤ 2000) (h1 : w 9 0 = L) (hQ : ∀ w', w' 9 0 = ((L + 4 : Nat) : Int) → (∀ c j, ¬ (c = 9 ∧ j = 0) → w' c j = if c = 13 ∧ L ≤ j ∧ j < L + 4 then bytK x (j - L) else w c j) → Q w') : X6_append x w Q := by
  have key : ∀ (m k : Nat) (v : Wd), k ≤ 4 → 4 - k < m → v 9 0 = ((L + k : Nat) : Int) → (∀ c j, ¬ (c = 9 ∧ j = 0) → v c j = if c = 13 ∧ L ≤ j ∧ j < L + k then bytK x (j - L) else w c j) → X6_append_l3 Q (X6_append_b46 Q) m x (24 - 8 * (k : Int)) v := by
    intro m
    induction m with
    | zero => intro k v g1 g2; omega
    | succ m ih =>
      intro k v g1 g2 hv ho
      unfold X6_append_l3
      rw [hv, wr_id (x := 24 - 8 * (k : Int)) (by omega) (by omega), wr_nat (n := L + k) (by omega), show wr 2000 = 2000 by decide]
      refine ⟨fun z => ?_, fun z => ⟨fun y => by omega, fun y => ⟨ix_of rfl (by omega) (by decide), ?_⟩⟩⟩
      · have : k = 4 := by omega
        subst this
        exact hQ v hv ho
      · intro w1 e1 w2 e2
        rw [wt_of rfl (by omega)] at e1
        have f1 : w1 9 0 = ((L + k : Nat) : Int) := by rw [e1, up_ap, if_neg (by omega)]; exact hv
        rw [f1] at e2
        rw [show (24 : Int) - 8 * (k : Int) + (-8) = 24 - 8 * ((k + 1 : Nat) : Int) by omega]
        refine ih (k + 1) w2 (by omega) (by omega) (by rw [e2, up_eq]; omega) (fun c j hc => ?_)
        rw [e2, up_ap, if_neg hc, e1, up_ap]
        by_cases q : c = 13 ∧ j = L + k
        · rw [if_pos q, if_pos (by omega)]
          unfold bytK
          rw [show j - L = k by omega]
        · rw [if_neg q, ho c j hc]
          by_cases q2 : c = 13 ∧ L ≤ j ∧ j < L + k
          · rw [if_pos q2, if_pos (by omega)]
          · rw [if_neg q2, if_neg (by omega)]
  exact ⟨5, key 5 0 w (by omega) (by omega) (by rw [h1]; rfl) (fun c j hc => by rw [if_neg (by omega)])⟩
theorem X11_lays_ok {Q : Wd → Prop} {w : Wd} {x : Int} {L : Nat} (hL : L + 4 ≤ 2000) (h1 : w 65 2 = L) (hQ : ∀ w', w' 65 2 = ((L + 4 : Nat) : Int) → (∀ c j, ¬ (c = 65 ∧ j = 2) → w' c j = if c = 66 ∧ L ≤ j ∧ j < L + 4 then bytK x (j - L) else w c j) → Q w') : X11_lays x w Q := by
  have key : ∀ (m k : Nat) (v : Wd), k ≤ 4 → 4 - k < m → v 65 2 = ((L + k : Nat) : Int) → (∀ c j, ¬ (c = 65 ∧ j = 2) → v c j = if c = 66 ∧ L ≤ j ∧ j < L + k then bytK x (j - L) else w c j) → X11_lays_l3 Q (X11_lays_b36 Q) m x (24 - 8 * (k : Int)) v := by
    intro m
    induction m with
    | zero => intro k v g1 g2; omega
    | succ m ih =>
      intro k v g1 g2 hv ho
      unfold X11_lays_l3
      rw [hv, wr_id (x := 24 - 8 * (k : Int)) (by omega) (by omega)]
      refine ⟨fun z => ?_, fun z => ⟨ix_of rfl (by omega) (by decide), ?_⟩⟩
      · have : k = 4 := by omega
        subst this
        exact hQ v hv ho
      · intro w1 e1 w2 e2
        rw [wt_of rfl (by omega)] at e1
        have f1 : w1 65 2 = ((L + k : Nat) : Int) := by rw [e1, up_ap, if_neg (by omega)]; exact hv
        rw [f1] at e2
        rw [show (24 : Int) - 8 * (k : Int) + (-8) = 24 - 8 * ((k + 1 : Nat) : Int) by omega]
        refine ih (k + 1) w2 (by omega) (by omega) (by rw [e2, up_eq]; omega) (fun c j hc => ?_)
        rw [e2, up_ap, if_neg hc, e1, up_ap]
        by_cases q : c = 66 ∧ j = L + k
        · rw [if_pos q, if_pos (by omega)]
          unfold bytK
          rw [show j - L = k by omega]
        · rw [if_neg q, ho c j hc]
          by_cases q2 : c = 66 ∧ L ≤ j ∧ j < L + k
          · rw [if_pos q2, if_pos (by omega)]
          · rw [if_neg q2, if_neg (by omega)]
  exact ⟨5, key 5 0 w (by omega) (by omega) (by rw [h1]; rfl) (fun c j hc => by rw [if_neg (by omega)])⟩
def appS (S : Sg) (x : Int) : Sg := (sL S + 4, appB (sL S) (sB S) x, sP S, sD S, sH S, sF S, sS S)
def cutS (S : Sg) (n : Nat) : Sg := (sL S - n, sB S, sP S, sD S, sH S, sF S, sS S)
theorem SOK.app {S : Sg} {x : Int} (h : SOK S) (hL : sL S + 4 ≤ 2000) : SOK (appS S x) := by
  obtain ⟨h1, h2, h3, h4, h5, h6, h7⟩ := h
  refine ⟨h1, h2, h3, h4, hL, fun i hi => ?_, h7⟩
  have hi : i < sL S + 4 := hi
  show -128 ≤ appB (sL S) (sB S) x i ∧ appB (sL S) (sB S) x i ≤ 127
  unfold appB
  by_cases q : sL S ≤ i ∧ i < sL S + 4
  · rw [if_pos q]; exact bytK_rg _ _
  · rw [if_neg q]; exact h6 i (by omega)
theorem SOK.cut {S : Sg} (h : SOK S) (n : Nat) : SOK (cutS S n) := by
  obtain ⟨h1, h2, h3, h4, h5, h6, h7⟩ := h
  exact ⟨h1, h2, h3, h4, by show sL S - n ≤ 2000; omega, fun i hi => h6 i (by have hi : i < sL S - n := hi; omega), h7⟩
theorem app_X {Q : Wd → Prop} {w : Wd} {S : Sg} {x : Int} (hS : SOK S) (h : HX w S) (hL : sL S + 4 ≤ 2000) (hQ : ∀ w', HX w' (appS S x) → (∀ c j, ¬ (c = 9 ∧ j = 0) → c ≠ 13 → w' c j = w c j) → Q w') : X6_append x w Q := by
  refine X6_append_ok hL h.1 (fun w' h1 h2 => hQ w' (HX.gen hS h (fun c j _ _ => ?_) h1 (fun i hi => ?_) ?_) (fun c j hc hc2 => ?_))
  · rw [h2 c j (by omega), if_neg (by omega)]
  · rw [h2 13 i (by omega)]
    unfold appB
    by_cases q : sL S ≤ i ∧ i < sL S + 4
    · rw [if_pos ⟨rfl, q⟩, if_pos q]
    · rw [if_neg (fun z => q z.2), if_neg q]; exact h.2.1 i (by omega)
  · rw [h2 0 16 (by omega), if_neg (by omega)]; exact h.2.2.1
  · rw [h2 c j hc, if_neg (by omega)]
theorem app_M {Q : Wd → Prop} {w : Wd} {S : Sg} {x : Int} (hS : SOK S) (h : HM w S) (hL : sL S + 4 ≤ 2000) (hQ : ∀ w', HM w' (appS S x) → (∀ c j, ¬ (c = 65 ∧ j = 2) → c ≠ 66 → w' c j = w c j) → Q w') : X11_lays x w Q := by
  refine X11_lays_ok hL h.1 (fun w' h1 h2 => hQ w' (HM.gen hS h (fun c j _ => ?_) h1 (fun i hi => ?_) ?_) (fun c j hc hc2 => ?_))
  · rw [h2 c j (by omega), if_neg (by omega)]
  · rw [h2 66 i (by omega)]
    unfold appB
    by_cases q : sL S ≤ i ∧ i < sL S + 4
    · rw [if_pos ⟨rfl, q⟩, if_pos q]
    · rw [if_neg (fun z => q z.2), if_neg q]; exact h.2.1 i (by omega)
  · rw [h2 65 16 (by omega), if_neg (by omega)]; exact h.2.2.1
  · rw [h2 c j hc, if_neg (by omega)]
def fedS (S : Sg) (a b c d e : Int) : Sg := appS (appS (appS (appS (appS S a) b) c) d) e
theorem SOK.fed {S : Sg} {a b c d e : Int} (h : SOK S) (hL : sL S + 20 ≤ 2000) : SOK (fedS S a b c d e) :=
  ((((h.app (by omega)).app (by show sL S + 4 + 4 ≤ 2000; omega)).app (by show sL S + 4 + 4 + 4 ≤ 2000; omega)).app (by show sL S + 4 + 4 + 4 + 4 ≤ 2000; omega)).app (by show sL S + 4 + 4 + 4 + 4 + 4 ≤ 2000; omega)
section TAPE
variable {Q : Int → Wd → Prop} {w : Wd} {S : Sg}
theorem feed_X {a b c d e : Int} (hS : SOK S) (h : HX w S) (h0 : ¬ sL S + 20 ≤ 2000 → Q (-1) w) (h1 : sL S + 20 ≤ 2000 → ∀ w', HX w' (fedS S a b c d e) → (∀ c j, ¬ (c = 9 ∧ j = 0) → c ≠ 13 → w' c j = w c j) → Q ((sL S + 20 : Nat) : Int) w') : X10_feed a b c d e w Q := by
  unfold X10_feed
  have hl := hS.2.2.2.2.1
  rw [h.1, wr_id (x := (sL S : Int) + 20) (by omega) (by omega), show wr 2000 = 2000 by decide, show wr (-1) = -1 by decide]
  refine ⟨fun z => ?_, fun z => h0 (by omega)⟩
  have hL : sL S + 20 ≤ 2000 := by omega
  refine app_X hS h (by omega) (fun w1 g1 f1 => app_X (hS.app (by omega)) g1 (by show sL S + 4 + 4 ≤ 2000; omega) (fun w2 g2 f2 => ?_))
  have S2 : SOK (appS (appS S a) b) := (hS.app (by omega)).app (by show sL S + 4 + 4 ≤ 2000; omega)
  refine app_X S2 g2 (by show sL S + 4 + 4 + 4 ≤ 2000; omega) (fun w3 g3 f3 => ?_)
  have S3 : SOK (appS (appS (appS S a) b) c) := S2.app (by show sL S + 4 + 4 + 4 ≤ 2000; omega)
  refine app_X S3 g3 (by show sL S + 4 + 4 + 4 + 4 ≤ 2000; omega) (fun w4 g4 f4 => ?_)
  have S4 : SOK (appS (appS (appS (appS S a) b) c) d) := S3.app (by show sL S + 4 + 4 + 4 + 4 ≤ 2000; omega)
  refine app_X S4 g4 (by show sL S + 4 + 4 + 4 + 4 + 4 ≤ 2000; omega) (fun w5 g5 f5 => ?_)
  have e5 : w5 9 0 = ((sL S + 20 : Nat) : Int) := g5.1
  rw [e5, wr_nat (n := sL S + 20) (by omega)]
  exact h1 hL w5 g5 (fun c j hc hc2 => by rw [f5 c j hc hc2, f4 c j hc hc2, f3 c j hc hc2, f2 c j hc hc2, f1 c j hc hc2])
theorem feed_M {a b c d e : Int} (hS : SOK S) (h : HM w S) (h0 : ¬ sL S + 20 ≤ 2000 → Q (-1) w) (h1 : sL S + 20 ≤ 2000 → ∀ w', HM w' (fedS S a b c d e) → loM w w' → Q ((sL S + 20 : Nat) : Int) w') : X11_feed a b c d e w Q := by
  unfold X11_feed
  have hl := hS.2.2.2.2.1
  rw [h.1, wr_id (x := (sL S : Int) + 20) (by omega) (by omega), show wr 2000 = 2000 by decide, show wr (-1) = -1 by decide]
  refine ⟨fun z => ?_, fun z => h0 (by omega)⟩
  have hL : sL S + 20 ≤ 2000 := by omega
  refine app_M hS h (by omega) (fun w1 g1 f1 => app_M (hS.app (by omega)) g1 (by show sL S + 4 + 4 ≤ 2000; omega) (fun w2 g2 f2 => ?_))
  have S2 : SOK (appS (appS S a) b) := (hS.app (by omega)).app (by show sL S + 4 + 4 ≤ 2000; omega)
  refine app_M S2 g2 (by show sL S + 4 + 4 + 4 ≤ 2000; omega) (fun w3 g3 f3 => ?_)
  have S3 : SOK (appS (appS (appS S a) b) c) := S2.app (by show sL S + 4 + 4 + 4 ≤ 2000; omega)
  refine app_M S3 g3 (by show sL S + 4 + 4 + 4 + 4 ≤ 2000; omega) (fun w4 g4 f4 => ?_)
  have S4 : SOK (appS (appS (appS (appS S a) b) c) d) := S3.app (by show sL S + 4 + 4 + 4 + 4 ≤ 2000; omega)
  refine app_M S4 g4 (by show sL S + 4 + 4 + 4 + 4 + 4 ≤ 2000; omega) (fun w5 g5 f5 => ?_)
  have e5 : w5 65 2 = ((sL S + 20 : Nat) : Int) := g5.1
  rw [e5, wr_nat (n := sL S + 20) (by omega)]
  exact h1 hL w5 g5 (fun c j hc => by rw [f5 c j (by omega) (by omega), f4 c j (by omega) (by omega), f3 c j (by omega) (by omega), f2 c j (by omega) (by omega), f1 c j (by omega) (by omega)])
theorem back_X {x : Int} (hS : SOK S) (h : HX w S) (hx : wr x = x) (h0 : ¬ (∃ n : Nat, x = n ∧ n ≤ sL S) → Q (-1) w) (h1 : ∀ n : Nat, x = n → n ≤ sL S → ∀ w', HX w' (cutS S n) → (∀ c j, ¬ (c = 9 ∧ j = 0) → w' c j = w c j) → Q ((sL S - n : Nat) : Int) w') : X10_back x w Q := by
  unfold X10_back
  have hl := hS.2.2.2.2.1
  rw [h.1, hx, wr_nat (n := sL S) (by omega), show wr (-1) = -1 by decide]
  refine ⟨fun z => h0 (fun ⟨n, e, _⟩ => by omega), fun z => ⟨fun y => ?_, fun y => h0 (fun ⟨n, e, _⟩ => by omega)⟩⟩
  obtain ⟨n, hn⟩ : ∃ n : Nat, x = n := ⟨x.toNat, by omega⟩
  subst hn
  intro w1 e1
  have f1 : w1 9 0 = ((sL S - n : Nat) : Int) := by rw [e1, up_eq]; omega
  have off : ∀ c j, ¬ (c = 9 ∧ j = 0) → w1 c j = w c j := fun c j hc => by rw [e1, up_ap, if_neg hc]
  rw [f1, wr_nat (n := sL S - n) (by omega)]
  exact h1 n rfl (by omega) w1 (HX.gen hS h (fun c j _ _ => off c j (by omega)) f1 (fun i hi => by rw [off _ _ (by omega)]; exact h.2.1 i (by omega)) (by rw [off _ _ (by omega)]; exact h.2.2.1)) off
theorem back_M {x : Int} (hS : SOK S) (h : HM w S) (hx : wr x = x) (h0 : ¬ (∃ n : Nat, x = n ∧ n ≤ sL S) → Q (-1) w) (h1 : ∀ n : Nat, x = n → n ≤ sL S → ∀ w', HM w' (cutS S n) → loM w w' → Q ((sL S - n : Nat) : Int) w') : X11_back x w Q := by
  unfold X11_back
  have hl := hS.2.2.2.2.1
  rw [h.1, hx, wr_nat (n := sL S) (by omega), show wr (-1) = -1 by decide]
  refine ⟨fun z => h0 (fun ⟨n, e, _⟩ => by omega), fun z => ⟨fun y => ?_, fun y => h0 (fun ⟨n, e, _⟩ => by omega)⟩⟩
  obtain ⟨n, hn⟩ : ∃ n : Nat, x = n := ⟨x.toNat, by omega⟩
  subst hn
  intro w1 e1
  have f1 : w1 65 2 = ((sL S - n : Nat) : Int) := by rw [e1, up_eq]; omega
  have off : ∀ c j, ¬ (c = 65 ∧ j = 2) → w1 c j = w c j := fun c j hc => by rw [e1, up_ap, if_neg hc]
  rw [f1, wr_nat (n := sL S - n) (by omega)]
  exact h1 n rfl (by omega) w1 (HM.gen hS h (fun c j _ => off c j (by omega)) f1 (fun i hi => by rw [off _ _ (by omega)]; exact h.2.1 i (by omega)) (by rw [off _ _ (by omega)]; exact h.2.2.1)) (fun c j hc => off c j (by omega))
theorem place_X (hS : SOK S) (h : HX w S) (h1 : Q (sP S) w) : X10_place w Q := by
  unfold X10_place
  have := hS.2.2.2.2.2.2
  rw [h.2.2.1, wr_id (by omega) (by omega)]
  exact h1
theorem place_M (hS : SOK S) (h : HM w S) (h1 : Q (sP S) w) : X11_place w Q := by
  unfold X11_place
  have := hS.2.2.2.2.2.2
  rw [h.2.2.1, wr_id (by omega) (by omega)]
  exact h1
/-- what round answers -/
def rndA (D : Dw) (x y : Int) : Int := if 0 ≤ x ∧ x < dN D then (if y = -1 then (dG D x.toNat : Int) else if 0 ≤ y ∧ y < dG D x.toNat then (dR D x.toNat y.toNat : Int) else -1) else -1
theorem round_X {x y : Int} (hS : SOK S) (h : HX w S) (hx : wr x = x) (hy : wr y = y) (h1 : Q (rndA (sD S) x y) w) : X10_round x y w Q := by
  unfold X10_round X10_round_b51
  have n6 := hS.1.1
  have m10 := hS.1.2.1
  unfold rndA at h1
  rw [show wr (-1) = -1 by decide]
  refine X1_hasPost_ok hx h.2.2.2.1.1 n6 (fun p hp hpn => ⟨fun z => absurd z (by decide), fun _ => ?_⟩) (fun hn => ⟨fun _ => ?_, fun z => absurd rfl z⟩)
  · subst hp
    have hd := hS.1.deg hpn
    refine ⟨ix_of rfl (by omega) (by decide), ?_⟩
    intro y3 e3
    rw [rd_of rfl (by omega), h.2.2.2.1.2.2.2.2.1 p hpn] at e3
    subst e3
    rw [if_pos (by omega), Int.toNat_natCast] at h1
    rw [hy, wr_nat (n := dG (sD S) p) (by omega)]
    refine ⟨fun z => ?_, fun z => ⟨fun s => ?_, fun s => ⟨fun t => ?_, fun t => ?_⟩⟩⟩
    · rw [if_pos z] at h1; exact h1
    · rw [if_neg z, if_neg (by omega)] at h1; exact h1
    · rw [if_neg z, if_neg (by omega)] at h1; exact h1
    · obtain ⟨i, hi⟩ : ∃ i : Nat, y = i := ⟨y.toNat, by omega⟩
      subst hi
      rw [if_neg z, if_pos (by omega), Int.toNat_natCast] at h1
      have hr := hS.1.2.2.2.2.1 p i hpn (by omega)
      unfold X1_lineAt
      dsimp only
      rw [rd_of (n := 10 * p + i) (by omega) (by omega), h.2.2.2.1.2.2.2.2.2 p i hpn (by omega), wr_nat (n := dR (sD S) p i) (by omega), wr_nat (n := dR (sD S) p i) (by omega)]
      exact ⟨ix_of (n := 10 * p + i) (by omega) (by omega) (by decide), h1⟩
  · rw [if_neg (fun z => hn ⟨x.toNat, by omega, by omega⟩)] at h1
    exact h1
theorem round_M {x y : Int} (hS : SOK S) (h : HM w S) (hx : wr x = x) (hy : wr y = y) (h1 : Q (rndA (sD S) x y) w) : X11_round x y w Q := by
  unfold X11_round
  have n6 := hS.1.1
  have m10 := hS.1.2.1
  unfold rndA at h1
  rw [show wr (-1) = -1 by decide]
  refine X11_isPost_ok hx h.2.2.2.1.1 n6 (fun p hp hpn => ⟨fun z => absurd z (by decide), fun _ => ?_⟩) (fun hn => ⟨fun _ => ?_, fun z => absurd rfl z⟩)
  · subst hp
    have hd := hS.1.deg hpn
    rw [if_pos (by omega), Int.toNat_natCast] at h1
    rw [hy, rd_of (n := 32 + p) (by omega) (by omega), h.2.2.2.1.2.2.2.2.1 p hpn, wr_nat (n := dG (sD S) p) (by omega)]
    have i0 : ix (32 + (p : Int)) 98 := ix_of (n := 32 + p) (by omega) (by omega) (by decide)
    refine ⟨fun z => ⟨i0, ?_⟩, fun z => ⟨i0, X11_in_ok hy (by decide) (wr_id (by omega) (by omega)) (fun s t => ⟨fun z => absurd z (by decide), fun _ => ?_⟩) (fun s => ⟨fun _ => ?_, fun z => absurd rfl z⟩)⟩⟩
    · rw [if_pos z] at h1; exact h1
    · obtain ⟨i, hi⟩ : ∃ i : Nat, y = i := ⟨y.toNat, by omega⟩
      subst hi
      rw [if_neg z, if_pos (by omega), Int.toNat_natCast] at h1
      have hr := hS.1.2.2.2.2.1 p i hpn (by omega)
      rw [rd_of (n := 38 + 10 * p + i) (by omega) (by omega), h.2.2.2.1.2.2.2.2.2 p i hpn (by omega), wr_nat (n := dR (sD S) p i) (by omega)]
      exact ⟨ix_of (n := 38 + 10 * p + i) (by omega) (by omega) (by decide), h1⟩
    · rw [if_neg z, if_neg (by omega)] at h1; exact h1
  · rw [if_neg (fun z => hn ⟨x.toNat, by omega, by omega⟩)] at h1
    exact h1
end TAPE
