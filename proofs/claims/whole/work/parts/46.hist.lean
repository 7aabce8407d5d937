/-- what stands in the class's cells; in the model's -/
def SOK (S : Sg) : Prop := WF (sD S) ∧ sH S ≤ 40 ∧ (∀ i, i < sH S → WF (sF S i)) ∧ (∀ s, s < 3 → ∀ D, sS S s = some D → WF D) ∧ sL S ≤ 2000 ∧ (∀ i, i < sL S → -128 ≤ sB S i ∧ sB S i ≤ 127) ∧ -1 ≤ sP S ∧ sP S ≤ 2000
def HX (w : Wd) (S : Sg) : Prop := w 9 0 = sL S ∧ (∀ i, i < sL S → w 13 i = sB S i) ∧ w 0 16 = sP S ∧ RepX w 1 (sD S) ∧ w 61 0 = 40 ∧ w 63 0 = 3 ∧ w 0 14 = sH S ∧
  (∃ pn : Nat, pn < 40 ∧ w 0 13 = pn ∧ ∀ i, i < sH S → RepS w 62 (89 * ((pn + 39 - i) % 40)) (sF S i)) ∧
  (∃ b : Nat, b < 8 ∧ w 0 15 = b ∧ ∀ s, s < 3 → b.testBit s = (sS S s).isSome) ∧ (∀ s, s < 3 → ∀ D, sS S s = some D → RepS w 64 (89 * s) D)
def HM (w : Wd) (S : Sg) : Prop := w 65 2 = sL S ∧ (∀ i, i < sL S → w 66 i = sB S i) ∧ w 65 16 = sP S ∧ RepM w 73 (sD S) ∧ w 65 24 = sH S ∧
  (∃ ea : Nat, ea < 40 ∧ w 65 23 = ea ∧ ∀ i, i < sH S → RepO w 76 (98 * ((ea + sH S + 39 - i) % 40)) (sF S i)) ∧
  (∀ s, s < 3 → w 78 s = if (sS S s).isSome then 1 else 0) ∧ (∀ s, s < 3 → ∀ D, sS S s = some D → RepO w 77 (98 * s) D) ∧
  (w 72 0 = 326396 ∧ w 72 1 = 243140 ∧ w 72 2 = 8083606306 ∧ w 72 3 = 9876874)
def setD (S : Sg) (D : Dw) : Sg := (sL S, sB S, sP S, D, sH S, sF S, sS S)
def pushS (S : Sg) (D : Dw) : Sg := (sL S, sB S, sP S, D, min (sH S + 1) 40, (fun i => if i = 0 then sD S else sF S (i - 1)), sS S)
/-- what a thing done by hand leaves alone -/
def byX (w w' : Wd) : Prop := ∀ c j, (5 ≤ c ∧ c < 61 ∨ 65 ≤ c) → w' c j = w c j
def loM (w w' : Wd) : Prop := ∀ c j, c < 65 → w' c j = w c j
theorem SOK.push {S : Sg} {D : Dw} (h : SOK S) (hD : WF D) : SOK (pushS S D) := by
  obtain ⟨h1, h2, h3, h4, h5⟩ := h
  refine ⟨hD, by show min (sH S + 1) 40 ≤ 40; omega, fun i hi => ?_, h4, h5⟩
  have hi : i < min (sH S + 1) 40 := hi
  show WF (if i = 0 then sD S else sF S (i - 1))
  split
  · exact h1
  · exact h3 _ (by omega)
theorem HX.setD {w w' : Wd} {S : Sg} {D : Dw} (h : HX w S) (hR : RepX w' 1 D) (ho : offX 1 w w') : HX w' (setD S D) := by
  obtain ⟨h1, h2, h3, h4, h5, h6, h7, ⟨pn, h8, h9, h10⟩, ⟨b, h11, h12, h13⟩, h14⟩ := h
  have e : ∀ c j, c = 0 ∨ 5 ≤ c → w' c j = w c j := fun c j hc => ho c j (by omega)
  refine ⟨by rw [e _ _ (by omega)]; exact h1, fun i hi => by rw [e _ _ (by omega)]; exact h2 i hi, by rw [e _ _ (by omega)]; exact h3, hR, by rw [e _ _ (by omega)]; exact h5, by rw [e _ _ (by omega)]; exact h6, by rw [e _ _ (by omega)]; exact h7, ⟨pn, h8, by rw [e _ _ (by omega)]; exact h9, fun i hi => ?_⟩, ⟨b, h11, by rw [e _ _ (by omega)]; exact h12, h13⟩, fun s hs D' hD' => ?_⟩
  · have : (fun k j => w' 62 (89 * ((pn + 39 - i) % 40) + (if k = 0 then j else if k = 1 then 3 + j else if k = 2 then 23 + j else 29 + j))) = (fun k j => w 62 (89 * ((pn + 39 - i) % 40) + (if k = 0 then j else if k = 1 then 3 + j else if k = 2 then 23 + j else 29 + j)) : Wd) := by funext k j; exact e _ _ (by omega)
    unfold RepS
    rw [this]; exact h10 i hi
  · have : (fun k j => w' 64 (89 * s + (if k = 0 then j else if k = 1 then 3 + j else if k = 2 then 23 + j else 29 + j))) = (fun k j => w 64 (89 * s + (if k = 0 then j else if k = 1 then 3 + j else if k = 2 then 23 + j else 29 + j)) : Wd) := by funext k j; exact e _ _ (by omega)
    unfold RepS
    rw [this]; exact h14 s hs D' hD'
theorem HM.setD {w w' : Wd} {S : Sg} {D : Dw} (h : HM w S) (hR : RepM w' 73 D) (ho : offM 73 w w') : HM w' (setD S D) := by
  obtain ⟨h1, h2, h3, h4, h5, ⟨ea, h8, h9, h10⟩, h11, h12, h13⟩ := h
  have e : ∀ c j, c ≠ 73 → w' c j = w c j := ho
  refine ⟨by rw [e _ _ (by omega)]; exact h1, fun i hi => by rw [e _ _ (by omega)]; exact h2 i hi, by rw [e _ _ (by omega)]; exact h3, hR, by rw [e _ _ (by omega)]; exact h5, ⟨ea, h8, by rw [e _ _ (by omega)]; exact h9, fun i hi => ?_⟩, fun s hs => by rw [e _ _ (by omega)]; exact h11 s hs, fun s hs D' hD' => ?_, by rw [e _ _ (by omega), e _ _ (by omega), e _ _ (by omega), e _ _ (by omega)]; exact h13⟩
  · have : (fun _ j => w' 76 (98 * ((ea + sH S + 39 - i) % 40) + j)) = (fun _ j => w 76 (98 * ((ea + sH S + 39 - i) % 40) + j) : Wd) := by funext k j; exact e _ _ (by omega)
    show RepM (fun _ j => w' 76 (98 * ((ea + sH S + 39 - i) % 40) + j)) 0 (sF S i)
    rw [this]; exact h10 i hi
  · have : (fun _ j => w' 77 (98 * s + j)) = (fun _ j => w 77 (98 * s + j) : Wd) := by funext k j; exact e _ _ (by omega)
    unfold RepO
    rw [this]; exact h12 s hs D' hD'
theorem X10_keepPast_ok {Q : Wd → Prop} {w : Wd} {S : Sg} (hS : SOK S) (h : HX w S) (hQ : ∀ w', HX w' (pushS S (sD S)) → w' 0 17 = 0 → byX w w' → Q w') : X10_keepPast w Q := by
  obtain ⟨o1, o2, o3, o4, o5⟩ := hS
  obtain ⟨h1, h2, h3, h4, h5, h6, h7, ⟨pn, h8, h9, h10⟩, ⟨b, h11, h12, h13⟩, h14⟩ := h
  unfold X10_keepPast
  refine X7_store_ok (N := 40) pn h9 h8 h5 aln_62 (by decide) (by decide) o1 h4 (fun w1 hs hoff => ?_)
  have e1 : w1 0 13 = pn := by rw [hoff _ _ (by omega)]; exact h9
  have e2 : w1 0 14 = sH S := by rw [hoff _ _ (by omega)]; exact h7
  have fin : ∀ pn' : Nat, pn' < 40 → pn' = (pn + 1) % 40 → ∀ x : Int, x = pn' → X10_keepPast_b37 Q x w1 := by
    intro pn' hp1 hp2 x hx
    subst hx
    unfold X10_keepPast_b37
    intro w2 g2 w3 g3 w4 g4
    have e3 : w2 0 14 = sH S := by rw [g2, up_ap, if_neg (by omega)]; exact e2
    rw [e3, show (sH S : Int) + 1 = ((sH S + 1 : Nat) : Int) by omega, show (40 : Int) = ((40 : Nat) : Int) from rfl, imn_nat (by omega) (by omega)] at g3
    have off : ∀ c j, ¬ (c = 0 ∧ (j = 13 ∨ j = 14 ∨ j = 17)) → w4 c j = w1 c j := fun c j hc => by
      rw [g4, up_ap, if_neg (by omega), g3, up_ap, if_neg (by omega), g2, up_ap, if_neg (by omega)]
    have off2 : ∀ c j, ¬ (c = 0 ∧ (j = 13 ∨ j = 14 ∨ j = 17)) → c ≠ 62 → w4 c j = w c j := fun c j hc hc2 => by rw [off c j hc, hoff _ _ (by omega)]
    refine hQ w4 ⟨by rw [off2 _ _ (by omega) (by omega)]; exact h1, fun i hi => by rw [off2 _ _ (by omega) (by omega)]; exact h2 i hi, by rw [off2 _ _ (by omega) (by omega)]; exact h3, RepX.of h4 (fun c j hc1 hc2 => off2 c j (by omega) (by omega)), by rw [off2 _ _ (by omega) (by omega)]; exact h5, by rw [off2 _ _ (by omega) (by omega)]; exact h6, ?_, ⟨pn', hp1, ?_, fun i hi => ?_⟩, ⟨b, h11, by rw [off2 _ _ (by omega) (by omega)]; exact h12, h13⟩, fun s hs D' hD' => ?_⟩ (by rw [g4, up_eq]) (fun c j hc => off2 c j (by omega) (by omega))
    · rw [g4, up_ap, if_neg (by omega), g3, up_eq]
      rfl
    · rw [g4, up_ap, if_neg (by omega), g3, up_ap, if_neg (by omega), g2, up_eq]
    · have hi : i < min (sH S + 1) 40 := hi
      show RepS w4 62 _ (if i = 0 then sD S else sF S (i - 1))
      by_cases z : i = 0
      · rw [if_pos z]
        have : (pn' + 39 - i) % 40 = pn := by omega
        rw [this]
        exact RepS.of o1 hs (fun j _ _ => off _ _ (by omega))
      · rw [if_neg z]
        have : (pn' + 39 - i) % 40 = (pn + 39 - (i - 1)) % 40 := by omega
        rw [this]
        refine RepS.of (o3 _ (by omega)) (h10 (i - 1) (by omega)) (fun j hj1 hj2 => ?_)
        rw [off _ _ (by omega), hoff _ _ (by omega)]
    · exact RepS.of (o4 s hs D' hD') (h14 s hs D' hD') (fun j _ _ => off2 _ _ (by omega) (by omega))
  rw [e1, show wr 40 = 40 by decide, wr_id (x := (pn : Int) + 1) (by omega) (by omega)]
  refine ⟨fun q => fin 0 (by omega) (by omega) 0 rfl, fun q => fin (pn + 1) (by omega) (by omega) _ (by omega)⟩
/-- the model's rows are copied so -/
theorem X11_marks_ok {Q : Wd → Prop} {w : Wd} {S : Sg} (hS : SOK S) (h : HM w S) (hQ : ∀ w', HM w' (pushS S (sD S)) → loM w w' → (∀ c j, c ≠ 65 → c ≠ 76 → w' c j = w c j) → Q w') : X11_marks w Q := by
  obtain ⟨o1, o2, o3, o4, o5⟩ := hS
  obtain ⟨h1, h2, h3, h4, h5, ⟨ea, h8, h9, h10⟩, h11, h12, h13⟩ := h
  have loop : ∀ (b : Nat), b + 98 ≤ 3920 → ∀ (e76 : Wd → Prop) (v : Wd) (m j : Nat) (u : Wd), j ≤ 98 → 98 - j < m → (∀ c i, u c i = if c = 76 ∧ b ≤ i ∧ i < b + j then v 73 (i - b) else v c i) → (∀ u', (∀ c i, u' c i = if c = 76 ∧ b ≤ i ∧ i < b + 98 then v 73 (i - b) else v c i) → e76 u') → X11_marks_l50 Q e76 m (b : Int) (j : Int) u := by
    intro b hb e76 v m
    induction m with
    | zero => intro j u g1 g2; omega
    | succ m ih =>
      intro j u g1 g2 hu hK
      unfold X11_marks_l50
      rw [wr_nat (n := j) (by omega), show wr 98 = 98 by decide]
      refine ⟨fun q => hK u (fun c i => by rw [hu, show j = 98 by omega]), fun q => ⟨ix_of rfl (by omega) (by decide), ix_of (n := b + j) (by omega) (by omega) (by decide), ?_⟩⟩
      intro w2 e2
      rw [wt_of (n := b + j) (by omega) (by omega), rd_of (n := j) rfl (by omega)] at e2
      rw [show (j : Int) + 1 = ((j + 1 : Nat) : Int) by omega]
      refine ih (j + 1) w2 (by omega) (by omega) (fun c i => ?_) hK
      rw [e2, up_ap]
      by_cases y : c = 76 ∧ i = b + j
      · rw [if_pos y, hu, if_neg (by omega), if_pos (by omega)]
        congr 1
        omega
      · rw [if_neg y, hu]
        by_cases y2 : c = 76 ∧ b ≤ i ∧ i < b + j
        · rw [if_pos y2, if_pos (by omega)]
        · rw [if_neg y2, if_neg (by omega)]
  -- behind the test whether all places are taken
  have fin : ∀ (v : Wd) (ea' k : Nat), ea' < 40 → k < 40 → v 65 23 = ea' → v 65 24 = k → min (sH S + 1) 40 = k + 1 → (∀ i, i < k → (ea' + k + 39 - i) % 40 = (ea + sH S + 39 - i) % 40) → k ≤ sH S → (∀ c j, ¬ (c = 65 ∧ (j = 23 ∨ j = 24)) → v c j = w c j) → X11_marks_b32 Q v := by
    intro v ea' k g1 g2 g3 g4 g5 g6 g7 g8
    unfold X11_marks_b32
    intro y1 e1
    rw [g3, g4, show (ea' : Int) + k = ((ea' + k : Nat) : Int) by omega, show (40 : Int) = ((40 : Nat) : Int) from rfl, irm_nat (by omega) (by omega) (by omega)] at e1
    obtain ⟨b, hb⟩ : ∃ b, b = 98 * ((ea' + k) % 40) := ⟨_, rfl⟩
    rw [show (98 : Int) * (((ea' + k) % 40 : Nat) : Int) = (b : Int) by omega] at e1
    subst e1
    have hb2 : b + 98 ≤ 3920 := by omega
    refine ⟨99, loop b hb2 _ v 99 0 v (by omega) (by omega) (fun c i => by rw [if_neg (by omega)]) (fun u hu => ?_)⟩
    unfold X11_marks_b76
    intro w3 e3
    have hu65 : u 65 24 = k := by rw [hu, if_neg (by omega)]; exact g4
    rw [hu65] at e3
    have f1 : ∀ c j, ¬ (c = 65 ∧ j = 24) → w3 c j = u c j := fun c j hc => by rw [e3, up_ap, if_neg hc]
    have f2 : ∀ c j, ¬ (c = 65 ∧ (j = 23 ∨ j = 24)) → c ≠ 76 → w3 c j = w c j := fun c j hc hc2 => by rw [f1 c j (by omega), hu, if_neg (by omega), g8 c j hc]
    refine hQ w3 ⟨by rw [f2 _ _ (by omega) (by omega)]; exact h1, fun i hi => by rw [f2 _ _ (by omega) (by omega)]; exact h2 i hi, by rw [f2 _ _ (by omega) (by omega)]; exact h3, RepM.of h4 (fun j => f2 _ _ (by omega) (by omega)), ?_, ⟨ea', g1, ?_, fun i hi => ?_⟩, fun s hs => by rw [f2 _ _ (by omega) (by omega)]; exact h11 s hs, fun s hs D' hD' => RepO.of (o4 s hs D' hD') (h12 s hs D' hD') (fun j _ _ => f2 _ _ (by omega) (by omega)), by rw [f2 _ _ (by omega) (by omega), f2 _ _ (by omega) (by omega), f2 _ _ (by omega) (by omega), f2 _ _ (by omega) (by omega)]; exact h13⟩ (fun c j hc => f2 c j (by omega) (by omega)) (fun c j hc hc2 => f2 c j (by omega) hc2)
    · rw [e3, up_eq]
      show (k : Int) + 1 = ((min (sH S + 1) 40 : Nat) : Int)
      omega
    · rw [f1 _ _ (by omega), hu, if_neg (by omega)]; exact g3
    · have hi : i < min (sH S + 1) 40 := hi
      show RepO w3 76 (98 * ((ea' + min (sH S + 1) 40 + 39 - i) % 40)) (if i = 0 then sD S else sF S (i - 1))
      by_cases z : i = 0
      · rw [if_pos z, show 98 * ((ea' + min (sH S + 1) 40 + 39 - i) % 40) = b by omega]
        have : RepM (fun _ j => w 73 j) 0 (sD S) := h4
        obtain ⟨q0, q1, q3, qt, q4, q5⟩ := this
        have n6 := o1.1
        have m10 := o1.2.1
        have hw : ∀ j, j < 98 → w3 76 (b + j) = w 73 j := fun j hj => by
          rw [f1 _ _ (by omega), hu, if_pos (by omega), show b + j - b = j by omega, g8 _ _ (by omega)]
        refine ⟨?_, ?_, fun i hi => ?_, fun i hi => ?_, fun p hp => ?_, fun p i hp hi => ?_⟩
        · rw [← q0]; exact hw 0 (by omega)
        · rw [← q1]; exact hw 1 (by omega)
        · rw [← q3 i hi]; exact hw _ (by omega)
        · rw [← qt i hi]; exact hw _ (by omega)
        · rw [← q4 p hp]; exact hw _ (by omega)
        · have := o1.deg hp
          rw [← q5 p i hp hi]; exact hw _ (by omega)
      · rw [if_neg z]
        have : (ea' + min (sH S + 1) 40 + 39 - i) % 40 = (ea + sH S + 39 - (i - 1)) % 40 := by
          rw [← g6 (i - 1) (by omega)]
          congr 1
          omega
        rw [this]
        refine RepO.of (o3 _ (by omega)) (h10 (i - 1) (by omega)) (fun j hj1 hj2 => ?_)
        have g6' := g6 (i - 1) (by omega)
        have hne : (ea' + k + 39 - (i - 1)) % 40 ≠ (ea' + k) % 40 := by omega
        rw [f1 _ _ (by omega), hu, if_neg (by omega), g8 _ _ (by omega)]
  unfold X11_marks
  rw [h5, wr_nat (n := sH S) (by omega), show wr 40 = 40 by decide]
  refine ⟨fun q => ?_, fun q => ?_⟩
  · intro w4 e4 w5 e5
    rw [h9, show (ea : Int) + 1 = ((ea + 1 : Nat) : Int) by omega, show (40 : Int) = ((40 : Nat) : Int) from rfl, irm_nat (by omega) (by omega) (by omega)] at e4
    have h24 : w4 65 24 = sH S := by rw [e4, up_ap, if_neg (by omega)]; exact h5
    rw [h24] at e5
    refine fin w5 ((ea + 1) % 40) 39 (by omega) (by omega) ?_ ?_ (by omega) (fun i hi => by omega) (by omega) (fun c j hc => by rw [e5, up_ap, if_neg (by omega), e4, up_ap, if_neg (by omega)])
    · rw [e5, up_ap, if_neg (by omega), e4, up_eq]
    · rw [e5, up_eq]; omega
  · exact fin w ea (sH S) h8 (by omega) h9 h5 (by omega) (fun i hi => rfl) (by omega) (fun c j _ => rfl)
