/-! RINGS at the class -/
def GI (D : Dw) (g : Nat) (l : List Nat) : Prop := (l = [] → g = 0) ∧ (g ≠ 0 → ∃ x, x ∈ l ∧ rLen D x = g) ∧ (∀ x, x ∈ l → g ≠ 0 ∧ g ≤ rLen D x)
def RgW (w : Wd) (D : Dw) (l : List Nat) : Prop := w 49 0 = (l.length : Int) ∧ ∃ g : Nat, w 49 1 = (g : Int) ∧ g ≤ 6 ∧ GI D g l
def offR (w w' : Wd) : Prop := ∀ c j, ¬ (c = 49 ∧ (j = 0 ∨ j = 1)) → w' c j = w c j
theorem offR_trans {a b c : Wd} (h : offR a b) (g : offR b c) : offR a c := fun x j h1 => by rw [g x j h1, h x j h1]
theorem X5_addRing_ok {Q : Wd → Prop} {w : Wd} {D : Dw} {l : List Nat} {x : Int} (R k : Nat) (hx : x = (k : Int)) (hk : rLen D R = k) (h1 : 1 ≤ k) (h6 : k ≤ 6) (h : RgW w D l) (hQ : ∀ w', RgW w' D (l ++ [R]) → offR w w' → Q w') : X5_addRing x w Q := by
  subst hx
  obtain ⟨a1, g, a2, a3, b1, b2, b3⟩ := h
  unfold X5_addRing
  intro w1 e1
  have c1 : w1 49 1 = (g : Int) := by rw [e1, up_ap, if_neg (by omega)]; exact a2
  have len : ∀ v : Int, up w1 49 1 v 49 0 = ((l ++ [R]).length : Int) := fun v => by
    rw [up_ap, if_neg (by omega), e1, up_eq, a1, List.length_append]
    rfl
  have off : ∀ v : Int, offR w (up w1 49 1 v) := fun v c j hc => by rw [up_ap, if_neg (by omega), e1, up_ap, if_neg (by omega)]
  rw [c1, wr_nat (n := g) (by omega)]
  refine ⟨fun z w3 e3 => ?_, fun z w3 e3 => ?_⟩
  · have hl : l = [] := by
      cases hl : l with
      | nil => rfl
      | cons y l' => exact absurd (by omega) (b3 y (by rw [hl]; exact List.mem_cons_self)).1
    subst e3
    refine hQ _ ⟨len _, k, by rw [up_eq], h6, fun y => ?_, fun _ => ⟨R, ?_, hk⟩, fun y hy => ?_⟩ (off _)
    · exact absurd y (by simp)
    · simp
    · rw [hl] at hy
      have : y = R := by simpa using hy
      rw [this, hk]; omega
  · rw [imn_nat (by omega) (by omega)] at e3
    subst e3
    refine hQ _ ⟨len _, min g k, by rw [up_eq], by omega, fun y => ?_, fun _ => ?_, fun y hy => ?_⟩ (off _)
    · exact absurd y (by simp)
    · rcases Nat.le_total g k with y | y
      · obtain ⟨u, u1, u2⟩ := b2 (by omega)
        exact ⟨u, List.mem_append_left _ u1, by rw [u2]; omega⟩
      · exact ⟨R, by simp, by rw [hk]; omega⟩
    · rw [List.mem_append] at hy
      rcases hy with hy | hy
      · have := b3 y hy
        omega
      · have : y = R := by simpa using hy
        rw [this, hk]; omega
theorem PI.rg {D : Dw} (hW : WF D) {st v : Nat} {last : Int} {seen U len : Nat} (h : PI D st v last seen U len) : len + 1 ≤ dN D ∧ seen < 64 ∧ wr last = last := by
  obtain ⟨a1, a2, a3, a4, a5, a6, a7, a8, a9, a10⟩ := h
  have n6 := hW.1
  have m10 := hW.2.1
  refine ⟨by have := cnt_le (f := seen.testBit) (dN D); omega, Nat.lt_pow_two_of_testBit (n := 6) seen (fun i hi => ?_), ?_⟩
  · cases q : seen.testBit i
    · rfl
    · have := (a5 i q).2
      omega
  · rcases a10 with ⟨-, -, b, -⟩ | ⟨-, -, -, -, ⟨l, b1, b2, -⟩, -⟩
    · rw [b]; decide
    · rw [b1]; exact wr_nat (by omega)
theorem X5_goOn_ok {D : Dw} (hW : WF D) {st : Nat} : ∀ (d v : Nat) (last : Int) (seen U len : Nat) (w : Wd) (L : List Nat) (Q : Wd → Prop), PI D st v last seen U len → len + d = 7 → RepX w 1 D → w 49 2 = (st : Int) → RgW w D L → (∀ w', RgW w' D (L ++ dfs D st d v last seen U) → offR w w' → Q w') → X5_goOn 1 d (v : Int) last (seen : Int) (len : Int) w Q := by
  have n6 := hW.1
  have m10 := hW.2.1
  intro d
  induction d with
  | zero =>
    intro v last seen U len w L Q h hd
    have := (h.rg hW).1
    omega
  | succ d ihd =>
    intro v last seen U len w L Q h hd hR hst hL hQ
    obtain ⟨r1, r2, r3⟩ := h.rg hW
    have hv := h.2.1
    have hs := h.1
    have hdv := hW.deg hv
    unfold X5_goOn
    rw [wr_nat (n := len) (by omega), show wr 6 = 6 by decide]
    refine ⟨fun _ => ⟨dG D v + 1, ?_⟩, fun z => absurd (by omega) z⟩
    obtain ⟨f, hf⟩ : ∃ f, f = dfsS D st v last seen U (dfs D st d) := ⟨_, rfl⟩
    have hdf : dfs D st (d + 1) v last seen U = cat f (dG D v) := by rw [hf]; rfl
    rw [hdf] at hQ
    have loop : ∀ (m i : Nat) (u : Wd), i ≤ dG D v → dG D v - i < m → RgW u D (L ++ cat f i) → offR w u → X5_goOn_l11 1 Q (X5_goOn 1 d) (X5_goOn_b120 1 Q (X5_goOn 1 d)) m (v : Int) last (seen : Int) (len : Int) (i : Int) u := by
      intro m
      induction m with
      | zero => intro i u a1 a2; omega
      | succ m ih =>
        intro i u a1 a2 hu ou
        have Ru : RepX u 1 D := RepX.of hR (fun c j _ _ => ou c j (by omega))
        have su : u 49 2 = (st : Int) := by rw [ou _ _ (by omega)]; exact hst
        unfold X5_goOn_l11
        rw [rd_of (n := v) rfl (by omega), Ru.2.2.2.2.1 v hv, wr_nat (n := dG D v) (by omega), wr_nat (n := i) (by omega)]
        refine ⟨ix_of rfl (by omega) (by decide), fun z => ?_, fun z => ?_⟩
        · have : i = dG D v := by omega
          subst this
          exact hQ u hu ou
        · have hi : i < dG D v := by omega
          have ha := armA_ok hW hv hi
          have hr := row_ends hW hv hi
          have hox := ox_lt ha.1
          refine X1_armAt_ok v i rfl rfl hW Ru hv hi ?_
          rw [ixo1 (by omega)]
          refine ⟨ix_of rfl (by omega) (by decide), fun y3 e3 => ?_⟩
          rw [rd_of (n := ox (armA D v i)) rfl (by omega), Ru.en hox] at e3
          have e5 : isr (armA D v i : Int) 1 = (dR D v i : Int) := by
            rw [show (1 : Int) = ((1 : Nat) : Int) from rfl, isr_nat (by omega) (by omega), ← ha.2.2]
          rw [e5, r3, wr_nat (n := dR D v i) (by omega), su, wr_nat (n := st) (by omega)]
          obtain ⟨y, hy⟩ : ∃ y, y = dE D (ox (armA D v i)) := ⟨_, rfl⟩
          rw [← hy] at e3 hr
          subst e3
          rw [wr_nat (n := y) (by omega), show (i : Int) + 1 = ((i + 1 : Nat) : Int) by omega]
          have hcat : L ++ cat f (i + 1) = (L ++ cat f i) ++ f i := (List.append_assoc _ _ _).symm
          have nil : f i = [] → ∀ u', RgW u' D (L ++ cat f i) → RgW u' D (L ++ cat f (i + 1)) := fun e u' h' => by rw [hcat, e, List.append_nil]; exact h'
          have fi : f i = if (dR D v i : Int) = last then [] else if y = st then [U ||| 2 ^ dR D v i] else if st < y ∧ seen.testBit y = false then dfs D st d y (dR D v i : Int) (seen ||| 2 ^ y) (U ||| 2 ^ dR D v i) else [] := by rw [hf, hy]; rfl
          refine ⟨fun q1 => ?_, fun q1 => ?_⟩
          · rw [if_pos q1] at fi
            exact ih (i + 1) u (by omega) (by omega) (nil fi u hu) ou
          · rw [if_neg q1] at fi
            refine ⟨fun q2 => ?_, fun q2 => ?_⟩
            · have q2 : y = st := by omega
              rw [if_pos q2] at fi
              have hE := hr.2.1
              have hne := hr.2.2.1
              rw [q2] at hE hne
              have hc := h.close hr.1 hE q1 hne
              refine X5_addRing_ok (U ||| 2 ^ dR D v i) (len + 1) rfl hc.2.2.1 (by omega) (by omega) hu (fun u' h' o' => ?_)
              exact ih (i + 1) u' (by omega) (by omega) (by rw [hcat, fi]; exact h') (offR_trans ou o')
            · rw [if_neg (by omega)] at fi
              refine ⟨fun q3 => ?_, fun q3 => ?_⟩
              · rw [if_neg (by omega)] at fi
                exact ih (i + 1) u (by omega) (by omega) (nil fi u hu) ou
              · rw [isr_bit (by omega) (by omega)]
                cases q4 : seen.testBit y
                · rw [if_pos ⟨by omega, q4⟩] at fi
                  refine ⟨fun _ => ?_, fun k => absurd (by decide) k⟩
                  have hp : 2 ^ y < 2 ^ 6 := Nat.pow_lt_pow_right (by decide) (by omega)
                  rw [isl1 (by omega), ior_nat (by omega) (by omega), show (len : Int) + 1 = ((len + 1 : Nat) : Int) by omega]
                  refine ihd y (dR D v i : Int) (seen ||| 2 ^ y) (U ||| 2 ^ dR D v i) (len + 1) u (L ++ cat f i) _ (h.step hr.1 hr.2.1 q1 hr.2.2.1 (by omega) hr.2.2.2 q4) (by omega) Ru su hu (fun u' h' o' => ?_)
                  exact ih (i + 1) u' (by omega) (by omega) (by rw [hcat, fi]; exact h') (offR_trans ou o')
                · rw [if_neg (fun k => by rw [q4] at k; exact absurd k.2 (by decide))] at fi
                  refine ⟨fun k => absurd k (by decide), fun _ => ?_⟩
                  exact ih (i + 1) u (by omega) (by omega) (nil fi u hu) ou
    exact loop (dG D v + 1) 0 w (by omega) (by omega) (by show RgW w D (L ++ []); rw [List.append_nil]; exact hL) (fun _ _ _ => rfl)
/-- the girth, 0 without a ring -/
def GirA (D : Dw) (g : Nat) : Prop := (g = 0 ∧ ∀ S, S < 2 ^ dM D → ¬ Ring D S) ∨ (g ≠ 0 ∧ g ≤ 6 ∧ (∃ S, S < 2 ^ dM D ∧ Ring D S ∧ rLen D S = g) ∧ ∀ S, S < 2 ^ dM D → Ring D S → g ≤ rLen D S)
theorem GirA.uq {D : Dw} {g k : Nat} (h : GirA D g) (j : GirA D k) : g = k := by
  rcases h with ⟨h1, h2⟩ | ⟨h1, h2, ⟨S, h3, h4, h5⟩, h6⟩ <;> rcases j with ⟨j1, j2⟩ | ⟨j1, j2, ⟨T, j3, j4, j5⟩, j6⟩
  · omega
  · exact absurd j4 (h2 T j3)
  · exact absurd h4 (j2 S h3)
  · have := h6 T j3 j4
    have := j6 S h3 h4
    omega
theorem X5_search_ok {Q : Wd → Prop} {w : Wd} {D : Dw} (hW : WF D) (hR : RepX w 1 D) (hQ : ∀ (w' : Wd) (g : Nat), w' 49 0 = (nRg D (2 ^ dM D) : Int) → w' 49 1 = (g : Int) → GirA D g → (∀ c j, c ≠ 49 → w' c j = w c j) → Q w') : X5_search 1 w Q := by
  have n6 := hW.1
  have m10 := hW.2.1
  have hp : 2 ^ dM D ≤ 2 ^ 10 := Nat.pow_le_pow_right (by decide) m10
  have hnr := nRg_le (D := D) (2 ^ dM D)
  unfold X5_search
  intro w1 e1 w2 e2
  have loop : ∀ (m st : Nat) (u : Wd), st ≤ dN D → dN D - st < m → RgW u D (allR D st) → (∀ c j, c ≠ 49 → u c j = w c j) → X5_search_l12 1 Q (X5_search_b42 1 Q) m (st : Int) u := by
    intro m
    induction m with
    | zero => intro st u a1 a2; omega
    | succ m ih =>
      intro st u a1 a2 hu ou
      have Ru : RepX u 1 D := RepX.of hR (fun c j _ _ => ou c j (by omega))
      unfold X5_search_l12
      rw [Ru.1, wr_nat (n := dN D) (by omega), wr_nat (n := st) (by omega)]
      refine ⟨fun z => ?_, fun z => ?_⟩
      · have : st = dN D := by omega
        subst this
        obtain ⟨h1, g, h2, h3, h4⟩ := hu
        unfold X5_search_b42
        intro w6 e6
        rw [h1, allR_len hW, show (2 : Int) = ((2 : Nat) : Int) from rfl, idv_nat (by omega) (by decide) (by decide), show 2 * nRg D (2 ^ dM D) / 2 = nRg D (2 ^ dM D) by omega] at e6
        refine hQ w6 g (by rw [e6, up_eq]) (by rw [e6, up_ap, if_neg (by omega)]; exact h2) ?_ (fun c j hc => by rw [e6, up_ap, if_neg (by omega)]; exact ou c j hc)
        by_cases q : g = 0
        · refine Or.inl ⟨q, fun S hS hr => ?_⟩
          have hc := allR_two hW hr hS
          have hm : S ∈ allR D (dN D) := List.count_pos_iff.mp (by omega)
          exact (h4.2.2 S hm).1 q
        · obtain ⟨S, s1, s2⟩ := h4.2.1 q
          have hm := allR_mem hW (Nat.le_refl _) s1
          refine Or.inr ⟨q, h3, ⟨S, hm.2, hm.1, s2⟩, fun T hT hr => ?_⟩
          have hc := allR_two hW hr hT
          have hmT : T ∈ allR D (dN D) := List.count_pos_iff.mp (by omega)
          exact (h4.2.2 T hmT).2
      · intro w3 e3
        rw [isl1 (by omega)]
        have o3 : ∀ c j, ¬ (c = 49 ∧ j = 2) → w3 c j = u c j := fun c j hc => by rw [e3, up_ap, if_neg hc]
        have Rv : RepX w3 1 D := RepX.of Ru (fun c j _ _ => o3 c j (by omega))
        obtain ⟨h1, g, h2, h3, h4⟩ := hu
        refine X5_goOn_ok hW 7 st (-1) (2 ^ st) 0 0 w3 (allR D st) _ (PI.start (by omega)) (by omega) Rv (by rw [e3, up_eq]) ⟨by rw [o3 _ _ (by omega)]; exact h1, g, by rw [o3 _ _ (by omega)]; exact h2, h3, h4⟩ (fun u' h' o' => ?_)
        rw [show (st : Int) + 1 = ((st + 1 : Nat) : Int) by omega]
        exact ih (st + 1) u' (by omega) (by omega) h' (fun c j hc => by rw [o' c j (by omega), o3 c j (by omega)]; exact ou c j hc)
  refine ⟨dN D + 1, loop (dN D + 1) 0 w2 (by omega) (by omega) ⟨?_, 0, ?_, by omega, fun _ => rfl, fun z => absurd rfl z, fun x hx => absurd hx List.not_mem_nil⟩ (fun c j hc => by rw [e2, up_ap, if_neg (by omega), e1, up_ap, if_neg (by omega)])⟩
  · rw [e2, up_ap, if_neg (by omega), e1, up_eq]; rfl
  · rw [e2, up_eq]; rfl
/-- what bound answers -/
noncomputable def bouA (D : Dw) (g : Nat) (x : Int) : Int := if x = 1 then (if g = 0 then -2 else (g : Int)) else if x = 0 then (if g = 0 then 0 else if nPt D (dM D) = 1 then (if 0 < wr (((2 - (dN D : Int)) + (dM D : Int)) - idv (2 * (dM D : Int)) (g : Int)) then wr (idv ((((2 - (dN D : Int)) + (dM D : Int)) - idv (2 * (dM D : Int)) (g : Int)) + 1) 2) else 0) else 0) else -1
theorem bound_X {Q : Int → Wd → Prop} {w : Wd} {S : Sg} {x : Int} (hS : SOK S) (h : HX w S) (hT : TrOK w S) (hx : wr x = x) (hQ : ∀ w' g, GirA (sD S) g → HX w' S → TrOK w' S → offQ w w' → Q (bouA (sD S) g x) w') (hno : ¬ (x = 0 ∨ x = 1) → Q (-1) w) : X10_bound x w Q := by
  have hW := hS.1
  have n6 := hW.1
  have m10 := hW.2.1
  have hR : RepX w 1 (sD S) := h.2.2.2.1
  have hp := nPt_le (sD S) (dM (sD S))
  have b11 : (x = 0 ∨ x = 1) → X10_bound_b11 Q x w := fun hx01 => by
    unfold X10_bound_b11
    refine X5_search_ok hW hR (fun w1 g g0 g1 hG o1 => ?_)
    have q1 := hQ w1 g hG (HX.same hS h (fun c j _ hc => o1 c j (by omega))) (hT.imp (fun k => by rw [o1 _ _ (by omega)]; exact k) (fun k => RepT.of k (fun c j _ _ => o1 c j (by omega)))) (fun c j hc => o1 c j (by omega))
    have g6 : g ≤ 6 := by rcases hG with k | k; omega; exact k.2.1
    have R1 : RepX w1 1 (sD S) := RepX.of hR (fun c j _ _ => o1 c j (by omega))
    rw [g1, hx, wr_nat (n := g) (by omega), show wr 1 = 1 by decide]
    unfold bouA at q1
    refine ⟨fun z => ?_, fun z => ?_⟩
    · rw [if_pos z] at q1
      refine ⟨fun y => ?_, fun y => ?_⟩
      · rw [if_pos (by omega)] at q1; exact q1
      · rw [if_neg (by omega)] at q1; exact q1
    · rw [if_neg z, if_pos (by omega)] at q1
      refine ⟨fun y => ?_, fun y => ?_⟩
      · rw [if_pos (by omega)] at q1; exact q1
      · rw [if_neg (by omega)] at q1
        refine X1_countParts_ok hW R1 ?_
        rw [wr_nat (n := nPt (sD S) (dM (sD S))) (by omega), g1, wr_nat (n := g) (by omega), R1.1, R1.2.1]
        refine ⟨fun y2 => ⟨y, fun y4 e4 => ?_⟩, fun y2 => ?_⟩
        · rw [if_pos (by omega)] at q1
          subst e4
          refine ⟨fun y3 => ?_, fun y3 => ?_⟩
          · rw [if_pos y3] at q1; exact q1
          · rw [if_neg y3] at q1; exact q1
        · rw [if_neg (by omega)] at q1; exact q1
  unfold X10_bound
  rw [hx, show wr 1 = 1 by decide]
  exact ⟨fun z => b11 (Or.inl z), fun z => ⟨fun y => b11 (Or.inr y), fun y => hno (by omega)⟩⟩
