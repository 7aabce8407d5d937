/-! LINE, FACE, BESIDE -/
theorem HM.tr {w w' : Wd} {S : Sg} (hS : SOK S) (h : HM w S) (o : ∀ c j, c < 79 ∨ (81 < c ∧ c ≠ 83) → w' c j = w c j) : HM w' S := HM.same hS h (fun c j hc => o c j (by omega))
noncomputable def linA (D : Dw) (x y : Int) : Int := if 0 ≤ x ∧ x < dM D then (if y = 0 then (dE D (2 * x.toNat) : Int) else if y = 1 then (dE D (2 * x.toNat + 1) : Int) else if y = 2 then (if dT D x.toNat then 1 else 0) else if y = 3 then ((min (fo D (2 * x.toNat)) (fo D (2 * dM D + 2 * x.toNat)) : Nat) : Int) else if y = 4 then ((max (fo D (2 * x.toNat)) (fo D (2 * dM D + 2 * x.toNat)) : Nat) : Int) else -1) else -1
theorem line_X {Q : Int → Wd → Prop} {w : Wd} {S : Sg} {x y : Int} (hS : SOK S) (h : HX w S) (hT : TrOK w S) (hx : wr x = x) (hy : wr y = y) (hQ : ∀ w', HX w' S → TrOK w' S → offQ w w' → Q (linA (sD S) x y) w') : X10_line x y w Q := by
  have hW := hS.1
  have m10 := hW.2.1
  have n6 := hW.1
  have hR : RepX w 1 (sD S) := h.2.2.2.1
  have q0 := hQ w h hT (fun _ _ _ => rfl)
  unfold X10_line
  refine X1_hasLine_ok hx hR.2.1 m10 (fun e hxe he => ?_) (fun hno => ?_)
  · subst hxe
    refine ⟨fun z => absurd z (by decide), fun _ => ?_⟩
    intro t3 e3
    rw [hy] at e3
    subst e3
    have hA : ∀ b : Int, linA (sD S) (e : Int) b = if b = 0 then (dE (sD S) (2 * e) : Int) else if b = 1 then (dE (sD S) (2 * e + 1) : Int) else if b = 2 then (if dT (sD S) e then 1 else 0) else if b = 3 then ((min (fo (sD S) (2 * e)) (fo (sD S) (2 * dM (sD S) + 2 * e)) : Nat) : Int) else if b = 4 then ((max (fo (sD S) (2 * e)) (fo (sD S) (2 * dM (sD S) + 2 * e)) : Nat) : Int) else -1 := fun b => by
      unfold linA
      rw [if_pos (by omega)]
      rfl
    rw [hA] at hQ q0
    have b1 := hW.2.2.1 (2 * e) (by omega)
    have b2 := hW.2.2.1 (2 * e + 1) (by omega)
    have f1 := fo_16 hW (show 2 * e < 4 * dM (sD S) by omega)
    have f2 := fo_16 hW (show 2 * dM (sD S) + 2 * e < 4 * dM (sD S) by omega)
    refine ⟨fun z => ?_, fun z => ?_, fun z => ?_, fun z => ?_, fun z => ?_, fun z => ?_⟩
    · rw [if_pos z] at q0
      rw [rd_of (n := 2 * e) (by omega) (by omega)]
      have : w 2 (2 * e) = (dE (sD S) (2 * e) : Int) := hR.2.2.2.1 _ (by omega)
      rw [this, wr_nat (by omega)]
      exact ⟨ix_of (n := 2 * e) (by omega) (by omega) (by decide), q0⟩
    · rw [if_neg (by omega), if_pos z] at q0
      rw [rd_of (n := 2 * e + 1) (by omega) (by omega)]
      have : w 2 (2 * e + 1) = (dE (sD S) (2 * e + 1) : Int) := hR.2.2.2.1 _ (by omega)
      rw [this, wr_nat (by omega)]
      exact ⟨ix_of (n := 2 * e + 1) (by omega) (by omega) (by decide), q0⟩
    · rw [if_neg (by omega), if_neg (by omega), if_pos z] at q0
      obtain ⟨t, ht, ht2, ht3⟩ := hR.2.2.1
      unfold X1_isTwisted
      have hb := ht3 e
      rw [ht, isr_bit (by omega) (by omega), hb]
      have hd : decide (e < dM (sD S)) = true := by simp [he]
      rw [hd]
      cases q : dT (sD S) e
      · rw [q] at q0
        exact ⟨fun _ => ⟨fun _ => q0, fun y => absurd (by decide) y⟩, fun y => absurd (by simp; decide) y⟩
      · rw [q] at q0
        exact ⟨fun y => absurd y (by simp; decide), fun _ => ⟨fun y => absurd y (by decide), fun _ => q0⟩⟩
    · refine fresh_ok hS h hT (fun w6 h6 T6 o6 => ?_)
      have q6 := hQ w6 h6 (Or.inr T6) (fun c j hc => o6 c j (by omega) (by omega))
      rw [if_neg (by omega), if_neg (by omega), if_neg (by omega), if_pos z] at q6
      rw [rd_of (n := 2 * e) (by omega) (by omega), (T6.2.1.sides hW he).1, wr_nat (by omega)]
      exact ⟨ix_of (n := 2 * e) (by omega) (by omega) (by decide), q6⟩
    · refine fresh_ok hS h hT (fun w6 h6 T6 o6 => ?_)
      have q6 := hQ w6 h6 (Or.inr T6) (fun c j hc => o6 c j (by omega) (by omega))
      rw [if_neg (by omega), if_neg (by omega), if_neg (by omega), if_neg (by omega), if_pos z] at q6
      rw [rd_of (n := 2 * e + 1) (by omega) (by omega), (T6.2.1.sides hW he).2, wr_nat (by omega)]
      exact ⟨ix_of (n := 2 * e + 1) (by omega) (by omega) (by decide), q6⟩
    · rw [if_neg (by omega), if_neg (by omega), if_neg (by omega), if_neg (by omega), if_neg (by omega)] at q0
      exact q0
  · have : linA (sD S) x y = -1 := by
      unfold linA
      rw [if_neg (fun z => hno ⟨x.toNat, by omega, by omega⟩)]
    rw [this] at q0
    exact ⟨fun _ => q0, fun y => absurd (by decide) y⟩
theorem line_M {Q : Int → Wd → Prop} {w : Wd} {S : Sg} {x y : Int} (hS : SOK S) (h : HM w S) (hx : wr x = x) (hy : wr y = y) (hQ : ∀ w', HM w' S → loM w w' → Q (linA (sD S) x y) w') : X11_line x y w Q := by
  have hW := hS.1
  have m10 := hW.2.1
  have n6 := hW.1
  have hR : RepM w 73 (sD S) := h.2.2.2.1
  have q0 := hQ w h (fun _ _ _ => rfl)
  unfold X11_line
  refine X11_isLine_ok hx hR.2.1 m10 (fun e hxe he => ?_) (fun hno => ?_)
  · subst hxe
    refine ⟨fun z => absurd z (by decide), fun _ => ?_⟩
    have hA : ∀ b : Int, linA (sD S) (e : Int) b = if b = 0 then (dE (sD S) (2 * e) : Int) else if b = 1 then (dE (sD S) (2 * e + 1) : Int) else if b = 2 then (if dT (sD S) e then 1 else 0) else if b = 3 then ((min (fo (sD S) (2 * e)) (fo (sD S) (2 * dM (sD S) + 2 * e)) : Nat) : Int) else if b = 4 then ((max (fo (sD S) (2 * e)) (fo (sD S) (2 * dM (sD S) + 2 * e)) : Nat) : Int) else -1 := fun b => by
      unfold linA
      rw [if_pos (by omega)]
      rfl
    rw [hA] at hQ q0
    have b1 := hW.2.2.1 (2 * e) (by omega)
    have b2 := hW.2.2.1 (2 * e + 1) (by omega)
    have f1 := fo_16 hW (show 2 * e < 4 * dM (sD S) by omega)
    have f2 := fo_16 hW (show 2 * dM (sD S) + 2 * e < 4 * dM (sD S) by omega)
    refine X11_in_ok hy (by decide) (by decide) (fun z1 z2 => ⟨fun z => absurd z (by decide), fun _ => ?_⟩) (fun z => ⟨fun _ => ?_, fun y => absurd (by decide) y⟩)
    · rw [hy, show wr 2 = 2 by decide, show wr 3 = 3 by decide]
      refine ⟨fun z => ⟨fun z3 => ⟨ix_of (n := 22 + e) (by omega) (by omega) (by decide), ?_⟩, fun z3 => ?_⟩, fun z => ⟨ix_of (n := 2 + 2 * e + y.toNat) (by omega) (by omega) (by decide), ?_⟩⟩
      · rw [if_neg (by omega), if_neg (by omega), if_pos z3] at q0
        rw [rd_of (n := 22 + e) (by omega) (by omega), hR.tw he]
        cases q : dT (sD S) e
        · rw [q] at q0; exact q0
        · rw [q] at q0; exact q0
      · refine X11_traces_ok hW hR (by omega) (fun w5 h5 o5 => ?_)
        have q5 := hQ w5 (HM.tr hS h (fun c j hc => o5 c j (by omega))) (fun c j hc => o5 c j (by omega))
        have m1 : ms (sD S) (2 * e) = 2 * e := by
          have := ms_int (D := sD S) (2 * e)
          rw [if_neg (by omega)] at this; omega
        have m2 : ms (sD S) (2 * dM (sD S) + 2 * e) = 2 * e + 20 := by
          have := ms_int (D := sD S) (2 * dM (sD S) + 2 * e)
          rw [if_pos (by omega)] at this; omega
        have s1 := h5.1 (2 * e) (by omega)
        have s2 := h5.1 (2 * dM (sD S) + 2 * e) (by omega)
        rw [m1] at s1
        rw [m2] at s2
        refine ⟨ix_of (n := 2 * e) (by omega) (by omega) (by decide), fun y7 e7 => ⟨ix_of (n := 2 * e + 20) (by omega) (by omega) (by decide), fun y8 e8 => ?_⟩⟩
        rw [rd_of (n := 2 * e) (by omega) (by omega), s1] at e7
        rw [rd_of (n := 2 * e + 20) (by omega) (by omega), s2] at e8
        subst e7 e8
        rw [if_neg (by omega), if_neg (by omega), if_neg z3] at q5
        unfold X11_line_b94 X11_line_b106
        rw [wr_nat (n := fo (sD S) (2 * e)) (by omega), wr_nat (n := fo (sD S) (2 * dM (sD S) + 2 * e)) (by omega)]
        obtain ⟨a, hae⟩ : ∃ a, a = fo (sD S) (2 * e) := ⟨_, rfl⟩
        obtain ⟨b, hbe⟩ : ∃ b, b = fo (sD S) (2 * dM (sD S) + 2 * e) := ⟨_, rfl⟩
        rw [← hae, ← hbe] at q5 ⊢
        refine ⟨fun y3 => ⟨fun g => ⟨fun k => absurd k (by decide), fun _ => ?_⟩, fun g => ⟨fun _ => ?_, fun k => absurd rfl k⟩⟩, fun y3 => ⟨fun g => ⟨fun _ => ?_, fun k => absurd rfl k⟩, fun g => ⟨fun k => absurd k (by decide), fun _ => ?_⟩⟩⟩
        · rw [if_pos y3, show min a b = b by omega] at q5; exact q5
        · rw [if_pos y3, show min a b = a by omega] at q5; exact q5
        · rw [if_neg y3, if_pos (by omega), show max a b = a by omega] at q5; exact q5
        · rw [if_neg y3, if_pos (by omega), show max a b = b by omega] at q5; exact q5
      · have e1 : w 73 (2 + (2 * e + y.toNat)) = (dE (sD S) (2 * e + y.toNat) : Int) := hR.2.2.1 _ (by omega)
        rw [rd_of (n := 2 + (2 * e + y.toNat)) (by omega) (by omega), e1]
        by_cases g : y = 0
        · subst g
          rw [if_pos rfl] at q0
          rw [show 2 * e + (0 : Int).toNat = 2 * e from rfl, wr_nat (by omega)]; exact q0
        · have g2 : y = 1 := by omega
          subst g2
          rw [if_neg g, if_pos rfl] at q0
          rw [show 2 * e + (1 : Int).toNat = 2 * e + 1 from rfl, wr_nat (by omega)]; exact q0
    · rw [if_neg (by omega), if_neg (by omega), if_neg (by omega), if_neg (by omega), if_neg (by omega)] at q0
      exact q0
  · have : linA (sD S) x y = -1 := by
      unfold linA
      rw [if_neg (fun z => hno ⟨x.toNat, by omega, by omega⟩)]
    rw [this] at q0
    exact ⟨fun _ => q0, fun y => absurd (by decide) y⟩
noncomputable def facA (D : Dw) (x y : Int) : Int := if x = -1 then (nFa D : Int) else if 0 ≤ x ∧ x < nFa D then (if y = -1 then (fl D x.toNat : Int) else if 0 ≤ y ∧ y < fl D x.toNat then ((stA D (itr (nx D) y.toNat (ldF D x.toNat)) / 2 : Nat) : Int) else -1) else -1
theorem face_X {Q : Int → Wd → Prop} {w : Wd} {S : Sg} {x y : Int} (hS : SOK S) (h : HX w S) (hT : TrOK w S) (hx : wr x = x) (hy : wr y = y) (hQ : ∀ w', HX w' S → TrOK w' S → offQ w w' → Q (facA (sD S) x y) w') : X10_face x y w Q := by
  have hW := hS.1
  have m10 := hW.2.1
  have hn := nFa_lt hW
  unfold X10_face
  refine fresh_ok hS h hT (fun w1 h1 T1 o1 => ?_)
  have q0 := hQ w1 h1 (Or.inr T1) (fun c j hc => o1 c j (by omega) (by omega))
  unfold facA at q0
  rw [hx, hy, show wr (-1) = -1 by decide]
  refine ⟨fun z => ?_, fun z => ?_⟩
  · rw [if_pos z] at q0
    rw [T1.1, wr_nat (by omega)]; exact q0
  · rw [if_neg z] at q0
    refine X8_hasFace_ok hW T1 hx (fun f hf hf2 => ⟨fun k => absurd k (by decide), fun _ => ?_⟩) (fun hno => ⟨fun _ => ?_, fun k => absurd (by decide) k⟩)
    · subst hf
      rw [if_pos (by omega), show (f : Int).toNat = f from rfl] at q0
      have hl := fl_le hW f
      refine ⟨ix_of rfl (by omega) (by decide), fun y4 e4 => ?_⟩
      have hlen : w1 18 f = (fl (sD S) f : Int) := T1.len hf2
      rw [rd_of rfl (by omega), hlen] at e4
      subst e4
      rw [wr_nat (n := fl (sD S) f) (by omega)]
      refine ⟨fun z2 => ?_, fun z2 => ?_⟩
      · rw [if_pos z2] at q0; exact q0
      · rw [if_neg z2] at q0
        unfold X10_face_b62
        refine ⟨fun z3 => ?_, fun z3 => ⟨fun z4 => ?_, fun z4 => ?_⟩⟩
        · rw [if_neg (by omega)] at q0; exact q0
        · rw [if_neg (by omega)] at q0; exact q0
        · rw [if_pos (by omega)] at q0
          have hfn : f < nF (sD S) (4 * dM (sD S)) := by
            rcases Nat.lt_or_ge f (nF (sD S) (4 * dM (sD S))) with k | k
            · exact k
            · have : fl (sD S) f = 0 := by unfold fl; rw [if_neg (by omega)]
              omega
          have hld := ldF_ok hfn
          have hfl : fl (sD S) f = pF (sD S) (ldF (sD S) f) := by unfold fl; rw [if_pos hfn]
          have hb := (T1.2.2.1 _ hld.1 hld.2.1).2
          rw [hld.2.2] at hb
          have hi : y.toNat < pF (sD S) (ldF (sD S) f) := by omega
          have hlt := tF_lt hld.2.1 hld.1 hi
          have htt : tF (sD S) (4 * dM (sD S)) ≤ 2 * dM (sD S) := (nF_le hW (Nat.le_refl _)).2
          have hwk := T1.2.1.2.2.1 _ hlt
          rw [(vs_ok hW).1 _ hld.1 hld.2.1 _ hi] at hwk
          have hst := stA_lt ((face_DH hW).pm.lt y.toNat _ hld.1)
          unfold X8_armAt
          have e5 : rd w1 22 (f : Int) = (tF (sD S) (ldF (sD S) f) : Int) := by rw [rd_of rfl (by omega)]; exact hb
          rw [e5, rd_of (n := tF (sD S) (ldF (sD S) f) + y.toNat) (by omega) (by omega)]
          have e6 : w1 23 (tF (sD S) (ldF (sD S) f) + y.toNat) = (stA (sD S) (itr (nx (sD S)) y.toNat (ldF (sD S) f)) : Int) := hwk
          rw [e6, wr_nat (n := stA (sD S) (itr (nx (sD S)) y.toNat (ldF (sD S) f))) (by omega)]
          refine ⟨ix_of rfl (by omega) (by decide), ix_of (n := tF (sD S) (ldF (sD S) f) + y.toNat) (by omega) (by omega) (by decide), ?_⟩
          show Q (wr (isr ((stA (sD S) (itr (nx (sD S)) y.toNat (ldF (sD S) f)) : Nat) : Int) ((1 : Nat) : Int))) w1
          rw [isr_nat (by omega) (by omega), wr_nat (by have := Nat.div_le_self (stA (sD S) (itr (nx (sD S)) y.toNat (ldF (sD S) f))) (2 ^ 1); omega)]
          exact q0
    · rw [if_neg (fun k => hno ⟨x.toNat, by omega, by omega⟩)] at q0
      exact q0
theorem face_M {Q : Int → Wd → Prop} {w : Wd} {S : Sg} {x y : Int} (hS : SOK S) (h : HM w S) (hx : wr x = x) (hy : wr y = y) (hQ : ∀ w', HM w' S → loM w w' → Q (facA (sD S) x y) w') : X11_face x y w Q := by
  have hW := hS.1
  have m10 := hW.2.1
  have hn := nFa_lt hW
  have hR : RepM w 73 (sD S) := h.2.2.2.1
  unfold X11_face
  refine X11_traces_ok hW hR (by omega) (fun w1 h1 o1 => ?_)
  have R1 : RepM w1 73 (sD S) := RepM.of hR (fun j => o1 73 j (by omega))
  have q0 := hQ w1 (HM.tr hS h (fun c j hc => o1 c j (by omega))) (fun c j hc => o1 c j (by omega))
  unfold facA at q0
  rw [hx, hy, show wr (-1) = -1 by decide]
  refine ⟨fun z => ?_, fun z => ?_⟩
  · rw [if_pos z] at q0
    rw [wr_nat (by omega)]; exact q0
  · rw [if_neg z] at q0
    refine X11_in_ok hx (by decide) (wr_id (by omega) (by omega)) (fun z1 z2 => ⟨fun k => absurd k (by decide), fun _ => ?_⟩) (fun hno => ⟨fun _ => ?_, fun k => absurd (by decide) k⟩)
    · obtain ⟨f, hf⟩ : ∃ f : Nat, x = f := ⟨x.toNat, by omega⟩
      subst hf
      rw [if_pos (by omega), show (f : Int).toNat = f from rfl] at q0
      have hl := fl_le hW f
      have hlen : w1 81 f = (fl (sD S) f : Int) := h1.len (by omega)
      rw [rd_of (w := w1) (k := 81) (n := f) rfl (by omega), hlen, wr_nat (n := fl (sD S) f) (by omega)]
      refine ⟨fun z3 => ⟨ix_of rfl (by omega) (by decide), ?_⟩, fun z3 => ⟨ix_of rfl (by omega) (by decide), ?_⟩⟩
      · rw [if_pos z3] at q0; exact q0
      · rw [if_neg z3] at q0
        refine X11_in_ok hy (by decide) (wr_id (by omega) (by omega)) (fun z4 z5 => ⟨fun k => absurd k (by decide), fun _ => ⟨ix_of rfl (by omega) (by decide), ?_⟩⟩) (fun hno => ⟨fun _ => ?_, fun k => absurd (by decide) k⟩)
        · rw [if_pos (by omega)] at q0
          intro y7 e7
          have hfn : f < nF (sD S) (4 * dM (sD S)) := by
            rcases Nat.lt_or_ge f (nF (sD S) (4 * dM (sD S))) with k | k
            · exact k
            · have : fl (sD S) f = 0 := by unfold fl; rw [if_neg (by omega)]
              omega
          have hld := ldF_ok hfn
          have hb := (h1.2.1 _ hld.1 hld.2.1).1
          rw [hld.2.2] at hb
          rw [rd_of rfl (by omega), hb] at e7
          subst e7
          obtain ⟨i, hi⟩ : ∃ i : Nat, y = i := ⟨y.toNat, by omega⟩
          subst hi
          have key : ∀ (m k : Nat), k ≤ i → i - k < m → X11_face_l70 Q (X11_face_b93 Q) m (i : Int) (ms (sD S) (itr (nx (sD S)) k (ldF (sD S) f)) : Int) (k : Int) w1 := by
            intro m
            induction m with
            | zero => intro k a1 a2; omega
            | succ m ih =>
              intro k a1 a2
              have hlt := (face_DH hW).pm.lt k _ hld.1
              unfold X11_face_l70
              rw [wr_nat (n := i) (by omega), wr_nat (n := k) (by omega)]
              refine ⟨fun z6 => ?_, fun z6 => ?_⟩
              · have : k = i := by omega
                subst this
                have hmk := ms_ok m10 hlt
                unfold X11_face_b93
                rw [show (20 : Int) = ((20 : Nat) : Int) from rfl, irm_nat (by omega) (by decide) (by decide), hmk.2.1, show (2 : Int) = ((2 : Nat) : Int) from rfl, idv_nat (by omega) (by decide) (by decide), wr_nat (by omega)]
                exact q0
              · refine X11_nextOf_ok hW R1 _ rfl hlt ?_
                rw [← itr_succ (nx (sD S)) k, show (k : Int) + 1 = ((k + 1 : Nat) : Int) by omega]
                exact ih (k + 1) (by omega) (by omega)
          exact ⟨i + 1, key (i + 1) 0 (by omega) (by omega)⟩
        · rw [if_neg (by omega)] at q0; exact q0
    · rw [if_neg (by omega)] at q0
      exact q0
