/-! SURFACE, WITHOUT -/
theorem X11_has_ok {Q : Int → Wd → Prop} {w : Wd} {x y : Int} (L k : Nat) (hx : x = (L : Int)) (hy : y = (k : Int)) (hk : k < 32) (hL : L < 2147483648) (h1 : L.testBit k = true → Q 1 w) (h0 : L.testBit k = false → Q 0 w) : X11_has x y w Q := by
  subst hx hy
  unfold X11_has
  rw [isr_bit hk hL]
  cases q : L.testBit k
  · exact ⟨fun y => absurd y (by decide), fun _ => h0 q⟩
  · exact ⟨fun _ => h1 q, fun y => absurd (by decide) y⟩
theorem bits_ex (f : Nat → Bool) : ∀ N, ∃ s, s < 2 ^ N ∧ ∀ i, i < N → s.testBit i = f i
  | 0 => ⟨0, by decide, fun i hi => by omega⟩
  | N + 1 => by
    obtain ⟨s, hs, hb⟩ := bits_ex f N
    have hp : 2 ^ N < 2 ^ (N + 1) := Nat.pow_lt_pow_right (by decide) (by omega)
    have hsN : s.testBit N = false := Nat.testBit_lt_two_pow hs
    cases q : f N
    · refine ⟨s, by omega, fun i hi => ?_⟩
      by_cases z : i = N
      · rw [z, hsN, q]
      · exact hb i (by omega)
    · refine ⟨s ||| 2 ^ N, Nat.or_lt_two_pow (by omega) hp, fun i hi => ?_⟩
      rw [bor_bit]
      by_cases z : i = N
      · rw [z, q]; simp
      · rw [hb i (by omega)]; simp [z]
theorem X11_turnsRight_ok {Q : Int → Wd → Prop} {w : Wd} {D : Dw} (hW : WF D) (hR : RepM w 73 D) (h1 : TR D → Q 1 w) (h0 : ¬ TR D → Q 0 w) : X11_turnsRight w Q := by
  have n6 := hW.1
  have m10 := hW.2.1
  have p6 : 2 ^ dN D ≤ 2 ^ 6 := Nat.pow_le_pow_right (by decide) n6
  have inner : ∀ (e99 : Int → Int → Wd → Prop) (s : Nat), s < 64 → (∀ b : Bool, (b = true ↔ ∀ d, d < dM D → (s.testBit (dE D (2 * d)) ^^ s.testBit (dE D (2 * d + 1))) = dT D d) → e99 (s : Int) (if b then 1 else 0) w) → ∀ (m e : Nat) (b : Bool), e ≤ dM D → dM D - e < m → (b = true ↔ ∀ d, d < e → (s.testBit (dE D (2 * d)) ^^ s.testBit (dE D (2 * d + 1))) = dT D d) → X11_turnsRight_l18 Q e99 m (s : Int) (if b then 1 else 0) (e : Int) w := by
    intro e99 s hs hK m
    induction m with
    | zero => intro e b a1 a2; omega
    | succ m ih =>
      intro e b a1 a2 hb
      unfold X11_turnsRight_l18
      rw [rd1, hR.2.1, wr_nat (n := dM D) (by omega), wr_nat (n := e) (by omega)]
      refine ⟨ix_of (n := 1) rfl (by decide) (by decide), fun z => ?_, fun z => ⟨ix_of (n := 2 + 2 * e) (by omega) (by omega) (by decide), ?_⟩⟩
      · have : e = dM D := by omega
        subst this
        exact hK b hb
      · have he : e < dM D := by omega
        have b1 := hW.2.2.1 (2 * e) (by omega)
        have b2 := hW.2.2.1 (2 * e + 1) (by omega)
        have e1 : rd w 73 (2 + 2 * (e : Int)) = (dE D (2 * e) : Int) := by rw [rd_of (n := 2 + 2 * e) (by omega) (by omega)]; exact hR.2.2.1 _ (by omega)
        have e2 : rd w 73 (2 + 2 * (e : Int) + 1) = (dE D (2 * e + 1) : Int) := by rw [rd_of (n := 2 + (2 * e + 1)) (by omega) (by omega)]; exact hR.2.2.1 _ (by omega)
        rw [e1]
        have fin : ∀ c : Bool, c = (s.testBit (dE D (2 * e)) ^^ s.testBit (dE D (2 * e + 1))) → X11_turnsRight_b66 Q (X11_turnsRight_l18 Q e99 m) e99 (s : Int) (if b then 1 else 0) (e : Int) (if c then 1 else 0) w := by
          intro c hc
          unfold X11_turnsRight_b66 X11_turnsRight_b88
          rw [rd_of (n := 22 + e) (by omega) (by omega), hR.tw he, show (e : Int) + 1 = ((e + 1 : Nat) : Int) by omega]
          refine ⟨ix_of (n := 22 + e) (by omega) (by omega) (by decide), ?_⟩
          have hy : c = dT D e → X11_turnsRight_l18 Q e99 m (s : Int) (if b then 1 else 0) ((e + 1 : Nat) : Int) w := fun y => ih (e + 1) b (by omega) (by omega) (hb.trans ⟨fun k d hd => by
            by_cases q : d = e
            · rw [q, ← hc, y]
            · exact k d (by omega), fun k d hd => k d (by omega)⟩)
          have hn : c ≠ dT D e → X11_turnsRight_l18 Q e99 m (s : Int) 0 ((e + 1 : Nat) : Int) w := fun y => ih (e + 1) false (by omega) (by omega) ⟨fun k => absurd k (by decide), fun k => absurd ((hc.trans (k e (by omega)))) y⟩
          cases c <;> cases hd : dT D e
          · exact ⟨fun k => absurd k (by simp [hd]; decide), fun _ => ⟨fun _ => hy hd.symm, fun k => absurd (by decide) k⟩⟩
          · exact ⟨fun _ => ⟨fun k => absurd k (by decide), fun _ => hn (by rw [hd]; decide)⟩, fun k => absurd (by simp [hd]) k⟩
          · exact ⟨fun k => absurd k (by simp [hd]; decide), fun _ => ⟨fun k => absurd k (by decide), fun _ => hn (by rw [hd]; decide)⟩⟩
          · exact ⟨fun _ => ⟨fun _ => hy hd.symm, fun k => absurd (by decide) k⟩, fun k => absurd (by simp [hd]) k⟩
        refine X11_has_ok s _ rfl rfl (by omega) (by omega) (fun q1 => ⟨ix_of (n := 2 + 2 * e + 1) (by omega) (by omega) (by decide), ?_⟩) (fun q1 => ⟨ix_of (n := 2 + 2 * e + 1) (by omega) (by omega) (by decide), ?_⟩)
        · rw [e2]
          refine X11_has_ok s _ rfl rfl (by omega) (by omega) (fun q2 => ⟨fun _ => ?_, fun k => absurd (by decide) k⟩) (fun q2 => ⟨fun k => absurd k (by decide), fun _ => ?_⟩)
          · exact fin false (by rw [q1, q2]; rfl)
          · exact fin true (by rw [q1, q2]; rfl)
        · rw [e2]
          refine X11_has_ok s _ rfl rfl (by omega) (by omega) (fun q2 => ⟨fun k => absurd k (by decide), fun _ => ?_⟩) (fun q2 => ⟨fun _ => ?_, fun k => absurd (by decide) k⟩)
          · exact fin true (by rw [q1, q2]; rfl)
          · exact fin false (by rw [q1, q2]; rfl)
  have outer : ∀ (m s : Nat), s ≤ 2 ^ dN D → 2 ^ dN D - s < m → (∀ u, u < s → ¬ ∀ d, d < dM D → (u.testBit (dE D (2 * d)) ^^ u.testBit (dE D (2 * d + 1))) = dT D d) → X11_turnsRight_l2 Q (X11_turnsRight_b103 Q) (X11_turnsRight_b111 Q) m (s : Int) w := by
    intro m
    induction m with
    | zero => intro s a1 a2; omega
    | succ m ih =>
      intro s a1 a2 hno
      unfold X11_turnsRight_l2
      rw [rd0, hR.1, isl1 (by omega), wr_nat (n := 2 ^ dN D) (by omega), wr_nat (n := s) (by omega)]
      refine ⟨ix_of (n := 0) rfl (by decide) (by decide), fun z => ?_, fun z => ⟨dM D + 1, ?_⟩⟩
      · refine h0 (fun ⟨f, hf⟩ => ?_)
        obtain ⟨u, hu, hub⟩ := bits_ex f (dN D)
        refine hno u (by omega) (fun d hd => ?_)
        rw [hub _ (hW.2.2.1 _ (by omega)), hub _ (hW.2.2.1 _ (by omega))]
        exact hf d hd
      · refine inner _ s (by omega) (fun b hb => ?_) (dM D + 1) 0 true (by omega) (by omega) ⟨fun _ d hd => by omega, fun _ => rfl⟩
        unfold X11_turnsRight_b99
        cases b
        · refine ⟨fun _ => ?_, fun k => absurd (by decide) k⟩
          rw [show (s : Int) + 1 = ((s + 1 : Nat) : Int) by omega]
          refine ih (s + 1) (by omega) (by omega) (fun u hu k => ?_)
          by_cases q : u = s
          · rw [q] at k; exact absurd (hb.mpr k) (by decide)
          · exact hno u (by omega) k
        · exact ⟨fun k => absurd k (by decide), fun _ => h1 ⟨s.testBit, hb.mp rfl⟩⟩
  exact ⟨2 ^ dN D + 1, outer (2 ^ dN D + 1) 0 (Nat.zero_le _) (Nat.lt_succ_of_le (Nat.sub_le _ _)) (fun u hu => by omega)⟩
/-- posts less lines and faces -/
noncomputable def eul (D : Dw) : Int := (dN D : Int) - (dM D : Int) + (nFa D : Int)
noncomputable def surA (D : Dw) (x : Int) : Int := if x = 0 then @ite Int (TR D) (Classical.propDecidable _) 1 0 else if x = 1 then wr (@ite Int (TR D) (Classical.propDecidable _) ((nPt D (dM D) : Int) - idv (eul D) 2) (2 * (nPt D (dM D) : Int) - eul D)) else if x = 2 then eul D else if x = 3 then (nPt D (dM D) : Int) else -100000
theorem eul_rg {D : Dw} (hW : WF D) : -10 ≤ eul D ∧ eul D ≤ 22 := by
  have := nFa_lt hW
  have := hW.1
  have := hW.2.1
  unfold eul; omega
theorem surface_X {Q : Int → Wd → Prop} {w : Wd} {S : Sg} {x : Int} (hS : SOK S) (h : HX w S) (hT : TrOK w S) (hx : wr x = x) (hQ : ∀ w', HX w' S → TrOK w' S → offQ w w' → Q (surA (sD S) x) w') : X10_surface x w Q := by
  have hW := hS.1
  have n6 := hW.1
  have m10 := hW.2.1
  have hR : RepX w 1 (sD S) := h.2.2.2.1
  have hp := nPt_le (sD S) (dM (sD S))
  have her := eul_rg hW
  unfold X10_surface
  refine fresh_ok hS h hT (fun w1 h1 T1 o1 => ?_)
  have q0 := hQ w1 h1 (Or.inr T1) (fun c j hc => o1 c j (by omega) (by omega))
  have R1 : RepX w1 1 (sD S) := h1.2.2.2.1
  intro y2 e2
  rw [hR.1, hR.2.1, T1.1] at e2
  have e2 : y2 = eul (sD S) := e2
  subst e2
  intro t3 e3
  rw [hx] at e3
  subst e3
  unfold surA at q0
  refine ⟨fun z => ?_, fun z => ?_, fun z => ?_, fun z => ?_, fun z => ?_⟩
  · rw [if_pos z] at q0
    refine X1_turnsRight_ok hW R1 (fun k => ⟨fun y => absurd y (by decide), fun _ => ?_⟩) (fun k => ⟨fun _ => ?_, fun y => absurd (by decide) y⟩)
    · rw [if_pos k] at q0; exact q0
    · rw [if_neg k] at q0; exact q0
  · rw [if_neg (by omega), if_pos z] at q0
    refine X1_turnsRight_ok hW R1 (fun k => ⟨fun y => absurd y (by decide), fun _ => ?_⟩) (fun k => ⟨fun _ => ?_, fun y => absurd (by decide) y⟩)
    · rw [if_pos k] at q0
      exact X1_countParts_ok hW R1 q0
    · rw [if_neg k] at q0
      exact X1_countParts_ok hW R1 q0
  · rw [if_neg (by omega), if_neg (by omega), if_pos z] at q0
    rw [wr_id (by omega) (by omega)]; exact q0
  · rw [if_neg (by omega), if_neg (by omega), if_neg (by omega), if_pos z] at q0
    refine X1_countParts_ok hW R1 ?_
    rw [wr_nat (by omega)]; exact q0
  · rw [if_neg (by omega), if_neg (by omega), if_neg (by omega), if_neg (by omega)] at q0
    exact q0
theorem X11_euler_ok {r : Nat} {Q : Int → Wd → Prop} {w : Wd} {D : Dw} (hW : WF D) (hR : RepM w r D) (hr : r < 79 ∨ 81 < r) (hQ : ∀ w', RepF w' D → (∀ c j, c < 79 ∨ 81 < c → w' c j = w c j) → Q (eul D) w') : X11_euler r w Q := by
  have her := eul_rg hW
  unfold X11_euler
  refine ⟨ix_of (n := 0) rfl (by decide) (by decide), ix_of (n := 1) rfl (by decide) (by decide), X11_traces_ok hW hR hr (fun w1 h1 o1 => ?_)⟩
  rw [rd0, rd1, hR.1, hR.2.1]
  show Q (wr (eul D)) w1
  rw [wr_id (by omega) (by omega)]
  exact hQ w1 h1 o1
theorem surface_M {Q : Int → Wd → Prop} {w : Wd} {S : Sg} {x : Int} (hS : SOK S) (h : HM w S) (hx : wr x = x) (hQ : ∀ w', HM w' S → loM w w' → Q (surA (sD S) x) w') : X11_surface x w Q := by
  have hW := hS.1
  have n6 := hW.1
  have m10 := hW.2.1
  have hR : RepM w 73 (sD S) := h.2.2.2.1
  have hp := nPt_le (sD S) (dM (sD S))
  have her := eul_rg hW
  unfold X11_surface
  refine X11_in_ok hx (by decide) (by decide) (fun z1 z2 => ⟨fun k => absurd k (by decide), fun _ => ?_⟩) (fun z => ⟨fun _ => ?_, fun k => absurd (by decide) k⟩)
  · refine X11_partsOf_ok hW hR (by omega) (fun w3 o3 => ?_)
    have R3 : RepM w3 73 (sD S) := RepM.of hR (fun j => o3 73 j (by omega))
    refine X11_euler_ok hW R3 (by omega) (fun w5 _ o5 => ?_)
    have R5 : RepM w5 73 (sD S) := RepM.of R3 (fun j => o5 73 j (by omega))
    have q0 := hQ w5 (HM.same hS h (fun c j hc => by rw [o5 c j (by omega), o3 c j (by omega)])) (fun c j hc => by rw [o5 c j (by omega), o3 c j (by omega)])
    unfold surA at q0
    rw [hx, show wr 1 = 1 by decide, show wr 2 = 2 by decide]
    have both : ∀ b : Bool, (b = true ↔ TR (sD S)) → ((x = 0 → ((wr (if b then 1 else 0) = 0 → Q (wr 0) w5) ∧ (¬ wr (if b then 1 else 0) = 0 → Q 1 w5))) ∧ (¬ x = 0 → ((x = 1 → ((wr (if b then 1 else 0) = 0 → Q (wr ((2 * (nPt (sD S) (dM (sD S)) : Int)) - eul (sD S))) w5) ∧ (¬ wr (if b then 1 else 0) = 0 → Q (wr ((nPt (sD S) (dM (sD S)) : Int) - (idv (eul (sD S)) 2))) w5))) ∧ (¬ x = 1 → ((x = 2 → Q (wr (eul (sD S))) w5) ∧ (¬ x = 2 → Q (wr (nPt (sD S) (dM (sD S)) : Int)) w5)))))) := by
      intro b hb
      refine ⟨fun z => ⟨fun k => ?_, fun k => ?_⟩, fun z => ⟨fun z2 => ⟨fun k => ?_, fun k => ?_⟩, fun z2 => ⟨fun z3 => ?_, fun z3 => ?_⟩⟩⟩
      · rw [if_pos z] at q0
        have : ¬ TR (sD S) := fun y => by rw [hb.mpr y] at k; exact absurd k (by decide)
        rw [if_neg this] at q0; exact q0
      · rw [if_pos z] at q0
        have : TR (sD S) := hb.mp (by cases b; exact absurd (by decide) k; rfl)
        rw [if_pos this] at q0; exact q0
      · rw [if_neg z, if_pos z2] at q0
        have : ¬ TR (sD S) := fun y => by rw [hb.mpr y] at k; exact absurd k (by decide)
        rw [if_neg this] at q0; exact q0
      · rw [if_neg z, if_pos z2] at q0
        have : TR (sD S) := hb.mp (by cases b; exact absurd (by decide) k; rfl)
        rw [if_pos this] at q0; exact q0
      · rw [if_neg z, if_neg z2, if_pos z3] at q0
        rw [wr_id (by omega) (by omega)]; exact q0
      · rw [if_neg z, if_neg z2, if_neg z3, if_pos (by omega)] at q0
        rw [wr_nat (by omega)]; exact q0
    exact X11_turnsRight_ok hW R5 (fun k => both true ⟨fun _ => k, fun _ => rfl⟩) (fun k => both false ⟨fun y => absurd y (by decide), fun y => absurd y k⟩)
  · have q0 := hQ w h (fun _ _ _ => rfl)
    unfold surA at q0
    rw [if_neg (by omega), if_neg (by omega), if_neg (by omega), if_neg (by omega)] at q0
    exact q0
theorem RepM.cp {w w' : Wd} {r r' : Nat} {D : Dw} (hW : WF D) (h : RepM w r D) (he : ∀ j, j < 98 → w' r' j = w r j) : RepM w' r' D := by
  obtain ⟨h1, h2, h3, h4, h5, h6⟩ := h
  have n6 := hW.1
  have m10 := hW.2.1
  refine ⟨by rw [he _ (by omega)]; exact h1, by rw [he _ (by omega)]; exact h2, fun i hi => by rw [he _ (by omega)]; exact h3 i hi, fun e hi => by rw [he _ (by omega)]; exact h4 e hi, fun p hp => by rw [he _ (by omega)]; exact h5 p hp, fun p i hp hi => ?_⟩
  have := hW.deg hp
  rw [he _ (by omega)]; exact h6 p i hp hi
noncomputable def witA (D : Dw) (x y : Int) : Int := if 0 ≤ x ∧ x < dM D ∧ 0 ≤ y ∧ y ≤ 2 then (if y = 0 then (nFa (dDel D x.toNat) : Int) else if y = 1 then (nPt (dDel D x.toNat) (dM (dDel D x.toNat)) : Int) else eul (dDel D x.toNat)) else -100000
theorem without_X {Q : Int → Wd → Prop} {w : Wd} {S : Sg} {x y : Int} (hS : SOK S) (h : HX w S) (hT : TrOK w S) (hx : wr x = x) (hy : wr y = y) (hQ : ∀ w', HX w' S → TrOK w' S → offQ w w' → Q (witA (sD S) x y) w') : X10_without x y w Q := by
  have hW := hS.1
  have n6 := hW.1
  have m10 := hW.2.1
  have hR : RepX w 1 (sD S) := h.2.2.2.1
  have q0 := hQ w h hT (fun _ _ _ => rfl)
  have hno : ¬ (0 ≤ x ∧ x < dM (sD S) ∧ 0 ≤ y ∧ y ≤ 2) → Q (-100000) w := fun k => by
    unfold witA at q0
    rw [if_neg k] at q0; exact q0
  unfold X10_without
  rw [hy, show wr 2 = 2 by decide, show wr 1 = 1 by decide]
  refine X1_hasLine_ok hx hR.2.1 m10 (fun e hxe he => ⟨fun k => absurd k (by decide), fun _ => ⟨fun z => hno (by omega), fun z => ⟨fun z2 => ?_, fun z2 => hno (by omega)⟩⟩⟩) (fun k => ⟨fun _ => hno (fun y => k ⟨x.toNat, by omega, by omega⟩), fun k => absurd (by decide) k⟩)
  subst hxe
  have hW' := dDel_WF hW he
  have hp := nPt_le (dDel (sD S) e) (dM (dDel (sD S) e))
  have hn' := nFa_lt hW'
  have her := eul_rg hW'
  have n6' := hW'.1
  have hA : witA (sD S) (e : Int) y = (if y = 0 then (nFa (dDel (sD S) e) : Int) else if y = 1 then (nPt (dDel (sD S) e) (dM (dDel (sD S) e)) : Int) else eul (dDel (sD S) e)) := by
    unfold witA
    rw [if_pos (by omega)]; rfl
  rw [hA] at hQ
  refine X1_become_ok (by omega) hW hR (fun w3 R3 o3 => ?_)
  refine X1_dropLine_ok e rfl hW he R3 (fun w4 R4 o4 => ?_)
  have o34 : ∀ c j, (c < 5 ∨ 9 ≤ c) → w4 c j = w c j := fun c j hc => by rw [o4 c j (by omega), o3 c j (by omega)]
  have hT4 : TrOK w4 S := hT.imp (fun k => by rw [o34 _ _ (by omega)]; exact k) (fun k => RepT.of k (fun c j _ _ => o34 c j (by omega)))
  refine ⟨fun z3 => ?_, fun z3 => ?_⟩
  · have q4 := hQ w4 (HX.same hS h (fun c j _ hc => o34 c j (by omega))) hT4 (fun c j hc => o34 c j (by omega))
    rw [if_neg (by omega), if_pos z3] at q4
    refine X1_countParts_ok hW' R4 ?_
    rw [wr_nat (by omega)]; exact q4
  · refine X8_trace_ok hW' R4 (by omega) rfl (fun w5 T5 o5 => ?_)
    have o5' : ∀ c j, (c < 5 ∨ 9 ≤ c ∧ c < 27 ∨ 37 ≤ c) → w5 c j = w c j := fun c j hc => by rw [o5 c j (by omega), o34 c j (by omega)]
    have q5 := hQ w5 (HX.same hS h (fun c j _ hc => o5' c j (by omega))) (hT.imp (fun k => by rw [o5' _ _ (by omega)]; exact k) (fun k => RepT.of k (fun c j _ _ => o5' c j (by omega)))) (fun c j hc => o5' c j (by omega))
    have R5 : RepX w5 5 (dDel (sD S) e) := RepX.of R4 (fun c j _ _ => o5 c j (by omega))
    refine ⟨fun z4 => ?_, fun z4 => ?_⟩
    · rw [if_pos z4] at q5
      rw [T5.1, wr_nat (by omega)]; exact q5
    · rw [if_neg z4, if_neg z3] at q5
      rw [T5.1, R5.1, R5.2.1]
      show Q (wr (eul (dDel (sD S) e))) w5
      rw [wr_id (by omega) (by omega)]; exact q5
theorem without_M {Q : Int → Wd → Prop} {w : Wd} {S : Sg} {x y : Int} (hS : SOK S) (h : HM w S) (hx : wr x = x) (hy : wr y = y) (hQ : ∀ w', HM w' S → loM w w' → Q (witA (sD S) x y) w') : X11_without x y w Q := by
  have hW := hS.1
  have n6 := hW.1
  have m10 := hW.2.1
  have hR : RepM w 73 (sD S) := h.2.2.2.1
  have q0 := hQ w h (fun _ _ _ => rfl)
  have hno : ¬ (0 ≤ x ∧ x < dM (sD S) ∧ 0 ≤ y ∧ y ≤ 2) → Q (-100000) w := fun k => by
    unfold witA at q0
    rw [if_neg k] at q0; exact q0
  unfold X11_without
  refine X11_isLine_ok hx hR.2.1 m10 (fun e hxe he => ⟨fun k => absurd k (by decide), fun _ => ?_⟩) (fun k => ⟨fun _ => hno (fun y => k ⟨x.toNat, by omega, by omega⟩), fun k => absurd (by decide) k⟩)
  refine X11_in_ok hy (by decide) (by decide) (fun z1 z2 => ⟨fun k => absurd k (by decide), fun _ => ?_⟩) (fun z => ⟨fun _ => hno (by omega), fun k => absurd (by decide) k⟩)
  subst hxe
  have hW' := dDel_WF hW he
  have hp := nPt_le (dDel (sD S) e) (dM (dDel (sD S) e))
  have hn' := nFa_lt hW'
  have her := eul_rg hW'
  have n6' := hW'.1
  have hA : witA (sD S) (e : Int) y = (if y = 0 then (nFa (dDel (sD S) e) : Int) else if y = 1 then (nPt (dDel (sD S) e) (dM (dDel (sD S) e)) : Int) else eul (dDel (sD S) e)) := by
    unfold witA
    rw [if_pos (by omega)]; rfl
  rw [hA] at hQ
  have key : ∀ (m i : Nat) (v : Wd), i ≤ 98 → 98 - i < m → (∀ j, j < i → v 83 j = w 73 j) → (∀ c j, c ≠ 83 → v c j = w c j) → X11_without_l23 Q (X11_without_b47 Q) m (e : Int) y (i : Int) v := by
    intro m
    induction m with
    | zero => intro i v a1 a2; omega
    | succ m ih =>
      intro i v a1 a2 vc voff
      unfold X11_without_l23
      rw [wr_nat (n := i) (by omega), show wr 98 = 98 by decide]
      refine ⟨fun z => ?_, fun z => ⟨ix_of rfl (by omega) (by decide), ix_of rfl (by omega) (by decide), fun w5 e5 => ?_⟩⟩
      · have R : RepM v 83 (sD S) := RepM.cp hW hR (fun j hj => vc j (by omega))
        unfold X11_without_b47
        refine X11_takesOut_ok e rfl hW he R (fun w6 R6 o6 => ?_)
        have o6' : ∀ c j, c ≠ 83 → w6 c j = w c j := fun c j hc => by rw [o6 c j hc, voff c j hc]
        rw [hy, show wr 1 = 1 by decide]
        have qq : ∀ w', (∀ c j, c < 79 ∨ 81 < c ∧ c ≠ 82 → w' c j = w6 c j) → Q (if y = 0 then (nFa (dDel (sD S) e) : Int) else if y = 1 then (nPt (dDel (sD S) e) (dM (dDel (sD S) e)) : Int) else eul (dDel (sD S) e)) w' := fun w' o' => hQ w' (HM.same hS h (fun c j hc => by rw [o' c j (by omega), o6' c j (by omega)])) (fun c j hc => by rw [o' c j (by omega), o6' c j (by omega)])
        refine ⟨fun k => ?_, fun k => ⟨fun k2 => ?_, fun k2 => ?_⟩⟩
        · refine X11_traces_ok hW' R6 (by omega) (fun w11 _ o11 => ?_)
          have q1 := qq w11 (fun c j hc => o11 c j (by omega))
          rw [if_pos k] at q1
          rw [wr_nat (by omega)]; exact q1
        · refine X11_partsOf_ok hW' R6 (by omega) (fun w9 o9 => ?_)
          have q1 := qq w9 (fun c j hc => o9 c j (by omega))
          rw [if_neg k, if_pos k2] at q1
          rw [wr_nat (by omega)]; exact q1
        · refine X11_euler_ok hW' R6 (by omega) (fun w7 _ o7 => ?_)
          have q1 := qq w7 (fun c j hc => o7 c j (by omega))
          rw [if_neg k, if_neg k2] at q1
          rw [wr_id (by omega) (by omega)]; exact q1
      · rw [wt_of rfl (by omega), rd_of rfl (by omega), voff 73 i (by omega)] at e5
        rw [show (i : Int) + 1 = ((i + 1 : Nat) : Int) by omega]
        refine ih (i + 1) w5 (by omega) (by omega) (fun j hj => ?_) (fun c j hc => by rw [e5, up_ap, if_neg (by omega)]; exact voff c j hc)
        rw [e5, up_ap]
        by_cases q : j = i
        · rw [if_pos ⟨rfl, q⟩, q]
        · rw [if_neg (by omega)]; exact vc j (by omega)
  exact ⟨99, key 99 0 w (by omega) (by omega) (fun j hj => by omega) (fun _ _ _ => rfl)⟩
