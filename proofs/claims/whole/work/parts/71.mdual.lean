/-! THE DUAL at the model -/
theorem X11_adds_ok {r : Nat} {Q : Wd → Prop} {w : Wd} {x1 x2 : Int} (p d : Nat) (e : Int) (h1 : x1 = (p : Int)) (h2 : x2 = e) (hp : p < 6) (hd : d < 10) (hD : w r (32 + p) = (d : Int)) (hQ : ∀ w', (∀ c j, w' c j = if c = r ∧ j = 32 + p then ((d + 1 : Nat) : Int) else if c = r ∧ j = 38 + 10 * p + d then e else w c j) → Q w') : X11_adds r x1 x2 w Q := by
  subst h1 h2
  unfold X11_adds
  have r1 : rd w r (32 + (p : Int)) = (d : Int) := by rw [rd_of (n := 32 + p) (by omega) (by omega)]; exact hD
  rw [r1]
  refine ⟨ix_of (n := 32 + p) (by omega) (by omega) (by decide), ix_of (n := 38 + 10 * p + d) (by omega) (by omega) (by decide), fun w1 e1 => ?_⟩
  rw [wt_of (n := 38 + 10 * p + d) (by omega) (by omega)] at e1
  have r2 : rd w1 r (32 + (p : Int)) = (d : Int) := by rw [rd_of (n := 32 + p) (by omega) (by omega), e1, up_ap, if_neg (by omega)]; exact hD
  rw [r2]
  refine ⟨ix_of (n := 32 + p) (by omega) (by omega) (by decide), ix_of (n := 32 + p) (by omega) (by omega) (by decide), fun w2 e2 => ?_⟩
  rw [wt_of (n := 32 + p) (by omega) (by omega)] at e2
  refine hQ w2 (fun c j => ?_)
  rw [e2, up_ap, e1, up_ap]
  by_cases q : c = r ∧ j = 32 + p
  · rw [if_pos q, if_pos q]; omega
  · rw [if_neg q, if_neg q]
theorem X11_hasDual_ok {Q : Int → Wd → Prop} {w : Wd} {D : Dw} {x : Int} (hW : WF D) (hR : RepM w 73 D) (hF : RepF w D) (hx : x = (nFa D : Int)) (h1 : DOK D → Q 1 w) (h0 : ¬ DOK D → Q 0 w) : X11_hasDual x w Q := by
  subst hx
  have m10 := hW.2.1
  have n6 := hW.1
  have hn := nFa_lt hW
  unfold X11_hasDual
  rw [wr_nat (n := nFa D) (by omega), show wr 6 = 6 by decide]
  refine ⟨fun z => ?_, fun z => h0 (fun y => by have := y.1; omega)⟩
  have lines : (∀ p, p < dN D → dG D p ≠ 0) → ∀ (m e : Nat), e ≤ dM D → dM D - e < m → (∀ d, d < e → ¬ OneS D d) → X11_hasDual_l42 Q (X11_hasDual_b74 Q) (X11_hasDual_b82 Q) m (e : Int) w := by
    intro hg m
    induction m with
    | zero => intro e a1 a2; omega
    | succ m ih =>
      intro e a1 a2 hno
      unfold X11_hasDual_l42
      rw [rd1, hR.2.1, wr_nat (n := dM D) (by omega), wr_nat (n := e) (by omega), show (e : Int) + 1 = ((e + 1 : Nat) : Int) by omega]
      refine ⟨ix_of (n := 1) rfl (by decide) (by decide), fun z2 => ?_, fun z2 => ⟨ix_of (n := 2 * e) (by omega) (by omega) (by decide), ix_of (n := 2 * e + 20) (by omega) (by omega) (by decide), ?_⟩⟩
      · have : e = dM D := by omega
        subst this
        exact h1 ⟨by omega, hg, hno⟩
      · have m1 : ms D (2 * e) = 2 * e := by
          have := ms_int (D := D) (2 * e)
          rw [if_neg (by omega)] at this; omega
        have m2 : ms D (2 * dM D + 2 * e) = 2 * e + 20 := by
          have := ms_int (D := D) (2 * dM D + 2 * e)
          rw [if_pos (by omega)] at this; omega
        have s1 := hF.1 (2 * e) (by omega)
        have s2 := hF.1 (2 * dM D + 2 * e) (by omega)
        rw [m1] at s1
        rw [m2] at s2
        have f1 := fo_16 hW (show 2 * e < 4 * dM D by omega)
        have f2 := fo_16 hW (show 2 * dM D + 2 * e < 4 * dM D by omega)
        rw [rd_of (n := 2 * e) (by omega) (by omega), rd_of (n := 2 * e + 20) (by omega) (by omega), s1, s2, wr_nat (by omega), wr_nat (by omega)]
        refine ⟨fun z3 => h0 (fun y => y.2.2 e (by omega) ⟨by omega, by omega⟩), fun z3 => ih (e + 1) (by omega) (by omega) (fun d hd y => ?_)⟩
        by_cases q : d = e
        · subst q; exact z3 (by rw [y.2])
        · exact hno d (by omega) y
  have posts : ∀ (m p : Nat), p ≤ dN D → dN D - p < m → (∀ q, q < p → dG D q ≠ 0) → X11_hasDual_l10 Q (X11_hasDual_b32 Q) (X11_hasDual_b40 Q) m (p : Int) w := by
    intro m
    induction m with
    | zero => intro p a1 a2; omega
    | succ m ih =>
      intro p a1 a2 hno
      unfold X11_hasDual_l10
      rw [rd0, hR.1, wr_nat (n := dN D) (by omega), wr_nat (n := p) (by omega), show (p : Int) + 1 = ((p + 1 : Nat) : Int) by omega]
      refine ⟨ix_of (n := 0) rfl (by decide) (by decide), fun z2 => ?_, fun z2 => ⟨ix_of (n := 32 + p) (by omega) (by omega) (by decide), ?_⟩⟩
      · unfold X11_hasDual_b40
        exact ⟨dM D + 1, lines (fun q hq => hno q (by omega)) (dM D + 1) 0 (by omega) (by omega) (fun d hd => by omega)⟩
      · have hg : w 73 (32 + p) = (dG D p : Int) := hR.2.2.2.2.1 p (by omega)
        have hd10 := hW.deg (p := p) (by omega)
        rw [rd_of (n := 32 + p) (by omega) (by omega), hg, wr_nat (n := dG D p) (by omega)]
        refine ⟨fun z3 => h0 (fun y => y.2.1 p (by omega) (by omega)), fun z3 => ih (p + 1) (by omega) (by omega) (fun q hq => ?_)⟩
        by_cases k : q = p
        · rw [k]; omega
        · exact hno q (by omega)
  exact ⟨dN D + 1, posts (dN D + 1) 0 (by omega) (by omega) (fun q hq => by omega)⟩
/-- what is told of the dual's lines up to a step -/
def DI (w : Wd) (D : Dw) (u : Nat) : Prop := (∀ e, e < dM D → (∀ v, v < u → vL D v ≠ e) → w 87 e = -1 ∧ w 83 (22 + e) = 0) ∧
  (∀ v, v < u → (∀ t, t < u → vL D t = vL D v → t = v) → w 87 (vL D v) = ((stA D (vs D v) % 2 : Nat) : Int) ∧ w 83 (22 + vL D v) = 0 ∧ w 83 (2 + 2 * vL D v) = (fo D (vs D v) : Int)) ∧
  (∀ v t, v < t → t < u → vL D v = vL D t → w 83 (2 + 2 * vL D t) = (fo D (vs D v) : Int) ∧ w 83 (2 + (2 * vL D t + 1)) = (fo D (vs D t) : Int) ∧ w 83 (22 + vL D t) = if dTd D (vL D t) then 1 else 0)
theorem DI.of {w w' : Wd} {D : Dw} (hW : WF D) {u : Nat} (hu : u ≤ tF D (4 * dM D)) (h : DI w D u) (e : ∀ c j, (c = 83 ∧ 2 ≤ j ∧ j < 32) ∨ c = 87 → w' c j = w c j) : DI w' D u := by
  have m10 := hW.2.1
  refine ⟨fun a ha hn => ?_, fun v hv hn => ?_, fun v t hvt ht hn => ?_⟩
  · rw [e _ _ (by omega), e _ _ (by omega)]; exact h.1 a ha hn
  · have := vL_lt hW (show v < tF D (4 * dM D) by omega)
    rw [e _ _ (by omega), e _ _ (by omega), e _ _ (by omega)]; exact h.2.1 v hv hn
  · have := vL_lt hW (show t < tF D (4 * dM D) by omega)
    rw [e _ _ (by omega), e _ _ (by omega), e _ _ (by omega)]; exact h.2.2 v t hvt ht hn
theorem DI.stepA {w w' : Wd} {D : Dw} (hW : WF D) {u : Nat} (hu : u < tF D (4 * dM D)) (h : DI w D u) (hno : ∀ v, v < u → vL D v ≠ vL D u) (e : ∀ c j, (c = 83 ∧ 2 ≤ j ∧ j < 32) ∨ c = 87 → w' c j = if c = 87 ∧ j = vL D u then ((stA D (vs D u) % 2 : Nat) : Int) else if c = 83 ∧ j = 2 + 2 * vL D u then (fo D (vs D u) : Int) else w c j) : DI w' D (u + 1) := by
  have m10 := hW.2.1
  have hl := vL_lt hW hu
  refine ⟨fun a ha hn => ?_, fun v hv hn => ?_, fun v t hvt ht hn => ?_⟩
  · have ha2 : a ≠ vL D u := fun y => hn u (by omega) y.symm
    rw [e _ _ (by omega), e _ _ (by omega), if_neg (by omega), if_neg (by omega), if_neg (by omega), if_neg (by omega)]
    exact h.1 a ha (fun v hv => hn v (by omega))
  · have hlv := vL_lt hW (show v < tF D (4 * dM D) by omega)
    rw [e _ _ (by omega), e _ _ (by omega), e _ _ (by omega)]
    by_cases q : v = u
    · subst q
      rw [if_pos ⟨rfl, rfl⟩, if_neg (by omega), if_neg (by omega), if_neg (by omega), if_pos ⟨rfl, rfl⟩]
      exact ⟨rfl, (h.1 _ hl hno).2, rfl⟩
    · have hne := hno v (by omega)
      rw [if_neg (by omega), if_neg (by omega), if_neg (by omega), if_neg (by omega), if_neg (by omega), if_neg (by omega)]
      exact h.2.1 v (by omega) (fun t ht y => hn t (by omega) y)
  · have hlt := vL_lt hW (show t < tF D (4 * dM D) by omega)
    have q : t ≠ u := fun y => by subst y; exact hno v hvt hn
    have hne := hno t (by omega)
    rw [e _ _ (by omega), e _ _ (by omega), e _ _ (by omega), if_neg (by omega), if_neg (by omega), if_neg (by omega), if_neg (by omega), if_neg (by omega), if_neg (by omega)]
    exact h.2.2 v t hvt (by omega) hn
theorem DI.stepB {w w' : Wd} {D : Dw} (hW : WF D) {u v0 : Nat} (hu : u < tF D (4 * dM D)) (h : DI w D u) (hv0 : v0 < u) (hve : vL D v0 = vL D u) (e : ∀ c j, (c = 83 ∧ 2 ≤ j ∧ j < 32) ∨ c = 87 → w' c j = if c = 87 ∧ j = vL D u then ((stA D (vs D u) % 2 : Nat) : Int) else if c = 83 ∧ j = 2 + (2 * vL D u + 1) then (fo D (vs D u) : Int) else if c = 83 ∧ j = 22 + vL D u then (if dTd D (vL D u) then 1 else 0) else w c j) : DI w' D (u + 1) := by
  have m10 := hW.2.1
  have hl := vL_lt hW hu
  have huq : ∀ t, t < u → vL D t = vL D u → t = v0 := fun t ht y => by
    by_cases q : t = v0
    · exact q
    · have := vL_two hW hu (show t < tF D (4 * dM D) by omega) (show v0 < tF D (4 * dM D) by omega) y.symm hve.symm (by omega) (by omega)
      exact this
  refine ⟨fun a ha hn => ?_, fun v hv hn => ?_, fun v t hvt ht hn => ?_⟩
  · have ha2 : a ≠ vL D u := fun y => hn u (by omega) y.symm
    rw [e _ _ (by omega), e _ _ (by omega), if_neg (by omega), if_neg (by omega), if_neg (by omega), if_neg (by omega), if_neg (by omega), if_neg (by omega)]
    exact h.1 a ha (fun v hv => hn v (by omega))
  · have hlv := vL_lt hW (show v < tF D (4 * dM D) by omega)
    have hne : vL D v ≠ vL D u := fun y => by
      have k1 := hn u (by omega) y.symm
      have k2 := hn v0 (by omega) (by rw [hve, y])
      omega
    rw [e _ _ (by omega), e _ _ (by omega), e _ _ (by omega), if_neg (by omega), if_neg (by omega), if_neg (by omega), if_neg (by omega), if_neg (by omega), if_neg (by omega), if_neg (by omega), if_neg (by omega), if_neg (by omega)]
    have hvu : v ≠ u := fun y => hne (by rw [y])
    exact h.2.1 v (by omega) (fun t ht y => hn t (by omega) y)
  · have hlt := vL_lt hW (show t < tF D (4 * dM D) by omega)
    rw [e _ _ (by omega), e _ _ (by omega), e _ _ (by omega)]
    by_cases q : t = u
    · subst q
      have hv : v = v0 := huq v hvt hn
      subst hv
      have h2 := h.2.1 v hvt (fun s hs y => huq s hs (by rw [y, hn]))
      rw [hn] at h2
      rw [if_neg (by omega), if_neg (by omega), if_neg (by omega), if_neg (by omega), if_pos ⟨rfl, rfl⟩, if_neg (by omega), if_neg (by omega), if_pos ⟨rfl, rfl⟩]
      exact ⟨h2.2.2, rfl, rfl⟩
    · have hne : vL D t ≠ vL D u := fun y => by
        have k1 := huq t (by omega) y
        have k2 := huq v (by omega) (by rw [hn, y])
        omega
      rw [if_neg (by omega), if_neg (by omega), if_neg (by omega), if_neg (by omega), if_neg (by omega), if_neg (by omega), if_neg (by omega), if_neg (by omega), if_neg (by omega)]
      exact h.2.2 v t hvt (by omega) hn
theorem dual_M {Q : Int → Wd → Prop} {w : Wd} {S : Sg} (hS : SOK S) (h : HM w S) (h0 : ¬ DOK (sD S) → ∀ w', HM w' S → loM w w' → Q (-1) w') (h1 : DOK (sD S) → ∀ w', HM w' (pushS S (dDual (sD S))) → loM w w' → Q (nFa (sD S) : Int) w') : X11_dual w Q := by
  have hW := hS.1
  have m10 := hW.2.1
  have n6 := hW.1
  have hn := nFa_lt hW
  have hR : RepM w 73 (sD S) := h.2.2.2.1
  obtain ⟨D, hDe⟩ : ∃ D, D = sD S := ⟨_, rfl⟩
  rw [← hDe] at hW m10 n6 hn hR h0 h1
  unfold X11_dual
  refine X11_traces_ok hW hR (by omega) (fun w1 F1 o1 => ?_)
  have R1 : RepM w1 73 D := RepM.of hR (fun j => o1 73 j (by omega))
  refine X11_hasDual_ok hW R1 F1 rfl (fun hD => ⟨fun k => absurd k (by decide), fun _ => ?_⟩) (fun hD => ⟨fun _ => h0 hD w1 (HM.tr hS h (fun c j hc => o1 c j (by omega))) (fun c j hc => o1 c j (by omega)), fun k => absurd (by decide) k⟩)
  have hn6 := hD.1
  have hWd := dDual_WF hW hD
  have hz : nFa D = nF D (4 * dM D) := by
    unfold nFa
    rw [nBr_zero _ hD.2.1]; rfl
  have bs : ∀ f i, f < nFa D → i < fl D f → i < 10 := fun f i hf hi => by
    have h1 : dG (dDual D) f ≤ dM (dDual D) := hWd.deg hf
    have h2 : fl D f ≤ dM D := h1
    omega
  -- behind the rows: marked, and copied
  have copy : ∀ (x : Int) (u : Wd), RepM u 83 (dDual D) → HM u (pushS S (sD S)) → (∀ c j, c < 65 → u c j = w c j) → x = (nFa D : Int) → ∀ (m i : Nat) (v : Wd), i ≤ 98 → 98 - i < m → (∀ j, j < i → v 73 j = u 83 j) → (∀ c j, c ≠ 73 → v c j = u c j) → X11_dual_l230 Q (X11_dual_b254 Q) m x (i : Int) v := by
    intro x u uR uH ulo hx m
    induction m with
    | zero => intro i v a1 a2; omega
    | succ m ih =>
      intro i v a1 a2 vc voff
      unfold X11_dual_l230
      rw [wr_nat (n := i) (by omega), show wr 98 = 98 by decide]
      refine ⟨fun z => ?_, fun z => ⟨ix_of rfl (by omega) (by decide), ix_of rfl (by omega) (by decide), fun w5 e5 => ?_⟩⟩
      · have R : RepM v 73 (dDual D) := RepM.cp hWd uR (fun j hj => vc j (by omega))
        unfold X11_dual_b254
        rw [hx, wr_nat (by omega)]
        exact h1 hD v (uH.setD R (fun c j hc => voff c j hc)) (fun c j hc => by rw [voff c j (by omega)]; exact ulo c j hc)
      · rw [wt_of rfl (by omega), rd_of rfl (by omega), voff 83 i (by omega)] at e5
        rw [show (i : Int) + 1 = ((i + 1 : Nat) : Int) by omega]
        refine ih (i + 1) w5 (by omega) (by omega) (fun j hj => ?_) (fun c j hc => by rw [e5, up_ap, if_neg (by omega)]; exact voff c j hc)
        rw [e5, up_ap]
        by_cases q : j = i
        · rw [if_pos ⟨rfl, q⟩, q]
        · rw [if_neg (by omega)]; exact vc j (by omega)
  -- one face
  have face : ∀ (e218 : Int → Int → Wd → Prop) (f : Nat), f < nFa D → (∀ v : Wd, DI v D (suF D (f + 1)) → v 83 0 = (nFa D : Int) → v 83 1 = (dM D : Int) → (∀ g, g < f + 1 → v 83 (32 + g) = (fl D g : Int) ∧ ∀ i, i < fl D g → v 83 (38 + 10 * g + i) = (vL D (suF D g + i) : Int)) → (∀ g, f < g → g < 6 → v 83 (32 + g) = 0) → (∀ c j, c ≠ 83 → c ≠ 87 → v c j = w1 c j) → e218 (nFa D : Int) (f : Int) v) → ∀ (m k : Nat) (v : Wd), k ≤ fl D f → fl D f - k < m → DI v D (suF D f + k) → v 83 0 = (nFa D : Int) → v 83 1 = (dM D : Int) → (∀ g, g < f → v 83 (32 + g) = (fl D g : Int) ∧ ∀ i, i < fl D g → v 83 (38 + 10 * g + i) = (vL D (suF D g + i) : Int)) → v 83 (32 + f) = (k : Int) → (∀ i, i < k → v 83 (38 + 10 * f + i) = (vL D (suF D f + i) : Int)) → (∀ g, f < g → g < 6 → v 83 (32 + g) = 0) → (∀ c j, c ≠ 83 → c ≠ 87 → v c j = w1 c j) → X11_dual_l101 Q e218 m (nFa D : Int) (f : Int) (ms D (itr (nx D) k (ldF D f)) : Int) (k : Int) v := by
    intro e218 f hf hK m
    have hfl := fl_le hW f
    have hld := ldF_ok (D := D) (f := f) (by omega)
    induction m with
    | zero => intro k v a1 a2; omega
    | succ m ih =>
      intro k v a1 a2 vD v0 v1 vg vk vi vz voff
      unfold X11_dual_l101
      have hlen : rd v 81 (f : Int) = (fl D f : Int) := by rw [rd_of rfl (by omega), voff _ _ (by omega) (by omega)]; exact F1.len hf
      rw [hlen, wr_nat (n := fl D f) (by omega), wr_nat (n := k) (by omega)]
      refine ⟨ix_of rfl (by omega) (by decide), fun z => ?_, fun z => ?_⟩
      · have hk : k = fl D f := by omega
        have e1 : suF D (f + 1) = suF D f + k := by rw [hk]; rfl
        refine hK v (by rw [e1]; exact vD) v0 v1 (fun g hg => ?_) vz voff
        by_cases q : g = f
        · rw [q]; exact ⟨by rw [vk, hk], fun i hi => vi i (by omega)⟩
        · exact vg g (by omega)
      · have hk : k < fl D f := by omega
        have hk10 := bs f k hf hk
        have hst := sF_st hW (show f < nF D (4 * dM D) by omega) hk
        have hai := (face_DH hW).pm.lt k _ hld.1
        obtain ⟨u, hue⟩ : ∃ u, u = suF D f + k := ⟨_, rfl⟩
        obtain ⟨s, hse⟩ : ∃ s, s = itr (nx D) k (ldF D f) := ⟨_, rfl⟩
        rw [← hue, ← hse] at hst
        rw [← hse] at hai ⊢
        rw [← hue] at vD
        have hm1 := ms_ok m10 hai
        have hel : stA D s / 2 = vL D u := by unfold vL; rw [hst.2.1]
        have hl := vL_lt hW hst.1
        have hpar : ms D s % 2 = stA D s % 2 := by omega
        intro y10 e10
        rw [show (20 : Int) = ((20 : Nat) : Int) from rfl, irm_nat (by omega) (by decide) (by decide), hm1.2.1, show (2 : Int) = ((2 : Nat) : Int) from rfl, idv_nat (by omega) (by decide) (by decide), hel] at e10
        subst e10
        refine X11_adds_ok f k _ rfl rfl (by omega) hk10 vk (fun w11 h11 => ⟨ix_of rfl (by omega) (by decide), ?_⟩)
        have o11 : ∀ c j, ¬ (c = 83 ∧ 32 ≤ j) → w11 c j = v c j := fun c j hc => by rw [h11, if_neg (by omega), if_neg (by omega)]
        have D11 : DI w11 D u := DI.of hW (by omega) vD (fun c j hc => o11 c j (by omega))
        have hirm : irm (ms D s : Int) 2 = ((stA D s % 2 : Nat) : Int) := by rw [show (2 : Int) = ((2 : Nat) : Int) from rfl, irm_nat (by omega) (by decide) (by decide), hpar]
        have hpl : stA D s % 2 < 2 := Nat.mod_lt _ (by decide)
        -- behind the line's ends
        have fin : ∀ v5 : Wd, DI v5 D (u + 1) → (∀ c j, ¬ (c = 83 ∧ 2 ≤ j ∧ j < 32) → c ≠ 87 → v5 c j = w11 c j) → X11_nextOf 73 (ms D s : Int) v5 (fun y15 w14 => X11_dual_l101 Q e218 m (nFa D : Int) (f : Int) y15 ((k : Int) + 1) w14) := by
          intro v5 D5 o5
          have g5 : ∀ c j, ¬ (c = 83 ∧ 2 ≤ j) → c ≠ 87 → v5 c j = v c j := fun c j c1 c2 => by rw [o5 c j (by omega) c2, o11 c j (by omega)]
          have R5 : RepM v5 73 D := RepM.of R1 (fun j => by rw [g5 73 j (by omega) (by omega), voff 73 j (by omega) (by omega)])
          refine X11_nextOf_ok hW R5 s rfl hai ?_
          rw [hse, ← itr_succ (nx D) k, show (k : Int) + 1 = ((k + 1 : Nat) : Int) by omega]
          have r5 : ∀ j, 32 ≤ j → v5 83 j = w11 83 j := fun j hj => o5 83 j (by omega) (by omega)
          refine ih (k + 1) v5 (by omega) (by omega) (by rw [← Nat.add_assoc, ← hue]; exact D5) (by rw [g5 _ _ (by omega) (by omega)]; exact v0) (by rw [g5 _ _ (by omega) (by omega)]; exact v1) (fun g hg => ?_) ?_ (fun i hi => ?_) (fun g hg1 hg2 => ?_) (fun c j c1 c2 => by rw [g5 c j (by omega) c2]; exact voff c j c1 c2)
          · refine ⟨?_, fun i hi => ?_⟩
            · rw [r5 _ (by omega), h11, if_neg (by omega), if_neg (by omega)]; exact (vg g hg).1
            · have := bs g i (by omega) hi
              rw [r5 _ (by omega), h11, if_neg (by omega), if_neg (by omega)]; exact (vg g hg).2 i hi
          · rw [r5 _ (by omega), h11, if_pos ⟨rfl, rfl⟩]
          · have := bs f i hf (by omega)
            rw [r5 _ (by omega), h11, if_neg (by omega)]
            by_cases q : i = k
            · rw [if_pos ⟨rfl, by omega⟩, q, hue]
            · rw [if_neg (by omega)]; exact vi i (by omega)
          · rw [r5 _ (by omega), h11, if_neg (by omega), if_neg (by omega)]; exact vz g hg1 hg2
        by_cases hex : ∃ v0, v0 < u ∧ vL D v0 = vL D u
        · obtain ⟨v0', hv0, hve⟩ := hex
          have huq : ∀ t, t < u → vL D t = vL D v0' → t = v0' := fun t ht y => by
            by_cases q : t = v0'
            · exact q
            · exact vL_two hW hst.1 (show t < tF D (4 * dM D) by omega) (show v0' < tF D (4 * dM D) by omega) (by rw [y, hve]) hve.symm (by omega) (by omega)
          have hd2 := D11.2.1 v0' hv0 huq
          rw [hve] at hd2
          have hdt := dTd_iff hW hv0 hst.1 hve rfl
          have hpl2 : stA D (vs D v0') % 2 < 2 := Nat.mod_lt _ (by decide)
          rw [rd_of rfl (by omega), hd2.1, wr_nat (by omega)]
          refine ⟨fun _ => ⟨ix_of (n := 2 + (2 * vL D u + 1)) (by omega) (by omega) (by decide), fun w12 e12 => ?_⟩, fun y => by omega⟩
          rw [wt_of (n := 2 + (2 * vL D u + 1)) (by omega) (by omega)] at e12
          unfold X11_dual_b169 X11_dual_b193
          have f12 : rd w12 87 (vL D u : Int) = ((stA D (vs D v0') % 2 : Nat) : Int) := by rw [rd_of rfl (by omega), e12, up_ap, if_neg (by omega)]; exact hd2.1
          rw [f12, hirm, wr_nat (by omega), wr_nat (by omega)]
          have hfo : fo D (vs D u) = f := hst.2.2
          refine ⟨ix_of rfl (by omega) (by decide), fun z2 => ⟨ix_of (n := 22 + vL D u) (by omega) (by omega) (by decide), fun w16 e16 => ⟨ix_of rfl (by omega) (by decide), fun w13 e13 => ?_⟩⟩, fun z2 => ⟨ix_of rfl (by omega) (by decide), fun w13 e13 => ?_⟩⟩
          · rw [wt_of (n := 22 + vL D u) (by omega) (by omega)] at e16
            rw [wt_of rfl (by omega)] at e13
            have ht : dTd D (vL D u) = true := hdt.mpr (by rw [hst.2.1]; omega)
            refine fin w13 (D11.stepB hW hst.1 hv0 hve (fun c j hc => ?_)) (fun c j c1 c2 => ?_)
            · rw [e13, up_ap, e16, up_ap, e12, up_ap, ht, hfo, hst.2.1]
              by_cases q1 : c = 87 ∧ j = vL D u
              · rw [if_pos q1, if_pos q1]
              · rw [if_neg q1, if_neg q1]
                by_cases q2 : c = 83 ∧ j = 22 + vL D u
                · rw [if_pos q2, if_neg (by omega), if_pos q2]; rfl
                · rw [if_neg q2, if_neg q2]
            · rw [e13, up_ap, if_neg (by omega), e16, up_ap, if_neg (by omega), e12, up_ap, if_neg (by omega)]
          · rw [wt_of rfl (by omega)] at e13
            have ht : dTd D (vL D u) = false := by
              cases q : dTd D (vL D u)
              · rfl
              · have := hdt.mp q
                rw [hst.2.1] at this
                exact absurd (by rw [this]) z2
            refine fin w13 (D11.stepB hW hst.1 hv0 hve (fun c j hc => ?_)) (fun c j c1 c2 => ?_)
            · rw [e13, up_ap, e12, up_ap, ht, hfo, hst.2.1]
              by_cases q1 : c = 87 ∧ j = vL D u
              · rw [if_pos q1, if_pos q1]
              · rw [if_neg q1, if_neg q1]
                by_cases q2 : c = 83 ∧ j = 2 + (2 * vL D u + 1)
                · rw [if_pos q2, if_pos q2]
                · rw [if_neg q2, if_neg q2]
                  by_cases q3 : c = 83 ∧ j = 22 + vL D u
                  · rw [if_pos q3, q3.1, q3.2]; exact hd2.2.1
                  · rw [if_neg q3]
            · rw [e13, up_ap, if_neg (by omega), e12, up_ap, if_neg (by omega)]
        · have hno : ∀ v, v < u → vL D v ≠ vL D u := fun v hv y => hex ⟨v, hv, y⟩
          have hd1 := D11.1 _ hl hno
          rw [rd_of rfl (by omega), hd1.1, show wr (-1) = -1 by decide]
          refine ⟨fun y => by omega, fun _ => ⟨ix_of (n := 2 + 2 * vL D u) (by omega) (by omega) (by decide), fun w17 e17 => ?_⟩⟩
          rw [wt_of (n := 2 + 2 * vL D u) (by omega) (by omega)] at e17
          unfold X11_dual_b169 X11_dual_b193
          have f12 : rd w17 87 (vL D u : Int) = -1 := by rw [rd_of rfl (by omega), e17, up_ap, if_neg (by omega)]; exact hd1.1
          have hfo : fo D (vs D u) = f := hst.2.2
          rw [f12, hirm, wr_nat (by omega), show wr (-1) = -1 by decide]
          refine ⟨ix_of rfl (by omega) (by decide), fun z2 => by omega, fun z2 => ⟨ix_of rfl (by omega) (by decide), fun w13 e13 => ?_⟩⟩
          rw [wt_of rfl (by omega)] at e13
          refine fin w13 (D11.stepA hW hst.1 hno (fun c j hc => ?_)) (fun c j c1 c2 => ?_)
          · rw [e13, up_ap, e17, up_ap, hfo, hst.2.1]
          · rw [e13, up_ap, if_neg (by omega), e17, up_ap, if_neg (by omega)]
  have faces : ∀ (m f : Nat) (v : Wd), f ≤ nFa D → nFa D - f < m → DI v D (suF D f) → v 83 0 = (nFa D : Int) → v 83 1 = (dM D : Int) → (∀ g, g < f → v 83 (32 + g) = (fl D g : Int) ∧ ∀ i, i < fl D g → v 83 (38 + 10 * g + i) = (vL D (suF D g + i) : Int)) → (∀ g, f ≤ g → g < 6 → v 83 (32 + g) = 0) → (∀ c j, c ≠ 83 → c ≠ 87 → v c j = w1 c j) → X11_dual_l86 Q (X11_dual_b224 Q) m (nFa D : Int) (f : Int) v := by
    intro m
    induction m with
    | zero => intro f v a1 a2; omega
    | succ m ih =>
      intro f v a1 a2 vD v0 v1 vg vz voff
      unfold X11_dual_l86
      rw [wr_nat (n := nFa D) (by omega), wr_nat (n := f) (by omega)]
      refine ⟨fun z => ?_, fun z => ⟨ix_of rfl (by omega) (by decide), fun y9 e9 => ?_⟩⟩
      · have hff : f = nFa D := by omega
        subst hff
        have vD2 : DI v D (tF D (4 * dM D)) := by rw [← sF_all, ← hz]; exact vD
        have R : RepM v 83 (dDual D) := by
          refine ⟨v0, v1, fun i hi => ?_, fun e he => ?_, fun p hp => (vg p hp).1, fun p i hp hi => (vg p hp).2 i hi⟩
          · have hi : i < 2 * dM D := hi
            have he : i / 2 < dM D := by omega
            obtain ⟨a, b, hab, hb, g1, g2, g3⟩ := vL_both hW he
            have hmono := fo_mono hW (Nat.le_of_lt hab) hb
            have h3 := vD2.2.2 a b hab hb (by rw [g1, g2])
            rw [g2] at h3
            have hen := dDual_ends D (i / 2)
            rcases Nat.mod_two_eq_zero_or_one i with q | q
            · rw [show i = 2 * (i / 2) by omega, hen.1, h3.1]
              congr 1
              omega
            · rw [show i = 2 * (i / 2) + 1 by omega, hen.2, show 2 * (i / 2) + 1 = 2 * (i / 2) + 1 from rfl, h3.2.1]
              congr 1
              omega
          · have he : e < dM D := he
            obtain ⟨a, b, hab, hb, g1, g2, g3⟩ := vL_both hW he
            have h3 := vD2.2.2 a b hab hb (by rw [g1, g2])
            rw [g2] at h3
            exact h3.2.2
        have vH : HM v S := HM.same hS h (fun c j hc => by rw [voff c j (by omega) (by omega), o1 c j (by omega)])
        unfold X11_dual_b224
        refine X11_marks_ok hS vH (fun w18 H18 lo18 o18 => ⟨99, ?_⟩)
        exact copy _ w18 (RepM.of R (fun j => o18 83 j (by omega) (by omega))) H18 (fun c j hc => by rw [lo18 c j hc, voff c j (by omega) (by omega), o1 c j (by omega)]) rfl 99 0 w18 (by omega) (by omega) (fun j hj => by omega) (fun _ _ _ => rfl)
      · have hld := ldF_ok (D := D) (f := f) (by omega)
        have h80 := (F1.2.1 _ hld.1 hld.2.1).1
        rw [hld.2.2] at h80
        rw [rd_of rfl (by omega), voff _ _ (by omega) (by omega), h80] at e9
        subst e9
        refine ⟨fl D f + 1, face _ f (by omega) (fun v' D' g0 g1 gg gz go => ?_) (fl D f + 1) 0 v (by omega) (by omega) vD v0 v1 vg (by rw [vz f (by omega) (by omega)]; rfl) (fun i hi => by omega) (fun g hg1 hg2 => vz g (by omega) hg2) voff⟩
        unfold X11_dual_b218
        rw [show (f : Int) + 1 = ((f + 1 : Nat) : Int) by omega]
        exact ih (f + 1) v' (by omega) (by omega) D' g0 g1 gg (fun g hg1 hg2 => gz g (by omega) hg2) go
  have ways : ∀ (m e : Nat) (v : Wd), e ≤ dM D → dM D - e < m → (∀ d, d < e → v 87 d = -1) → v 83 0 = (nFa D : Int) → v 83 1 = (dM D : Int) → (∀ j, 2 ≤ j → j < 98 → v 83 j = 0) → (∀ c j, c ≠ 83 → c ≠ 87 → v c j = w1 c j) → X11_dual_l61 Q (X11_dual_b84 Q) m (nFa D : Int) (e : Int) v := by
    intro m
    induction m with
    | zero => intro e v a1 a2; omega
    | succ m ih =>
      intro e v a1 a2 vw v0 v1 vz voff
      have vR : RepM v 73 D := RepM.of R1 (fun j => voff 73 j (by omega) (by omega))
      unfold X11_dual_l61
      rw [rd1, vR.2.1, wr_nat (n := dM D) (by omega), wr_nat (n := e) (by omega)]
      refine ⟨ix_of (n := 1) rfl (by decide) (by decide), fun z => ?_, fun z => ⟨ix_of rfl (by omega) (by decide), fun w8 e8 => ?_⟩⟩
      · unfold X11_dual_b84
        have s0 : suF D 0 = 0 := rfl
        refine ⟨nFa D + 1, faces (nFa D + 1) 0 v (by omega) (by omega) ⟨fun e he _ => ⟨vw e (by omega), vz _ (by omega) (by omega)⟩, fun v hv => by omega, fun v t _ ht => by omega⟩ v0 v1 (fun g hg => by omega) (fun g _ hg => vz _ (by omega) (by omega)) voff⟩
      · rw [wt_of rfl (by omega)] at e8
        rw [show (e : Int) + 1 = ((e + 1 : Nat) : Int) by omega]
        have o8 : ∀ c j, ¬ (c = 87 ∧ j = e) → w8 c j = v c j := fun c j hc => by rw [e8, up_ap, if_neg hc]
        refine ih (e + 1) w8 (by omega) (by omega) (fun d hd => ?_) (by rw [o8 _ _ (by omega)]; exact v0) (by rw [o8 _ _ (by omega)]; exact v1) (fun j j1 j2 => by rw [o8 _ _ (by omega)]; exact vz j j1 j2) (fun c j c1 c2 => by rw [o8 _ _ (by omega)]; exact voff c j c1 c2)
        by_cases q : d = e
        · rw [e8, q, up_eq]
        · rw [o8 _ _ (by omega)]; exact vw d (by omega)
  have zero : ∀ (m i : Nat) (v : Wd), i ≤ 98 → 98 - i < m → (∀ j, j < i → v 83 j = 0) → (∀ c j, c ≠ 83 → v c j = w1 c j) → X11_dual_l21 Q (X11_dual_b40 Q) m (nFa D : Int) (i : Int) v := by
    intro m
    induction m with
    | zero => intro i v a1 a2; omega
    | succ m ih =>
      intro i v a1 a2 vz voff
      unfold X11_dual_l21
      rw [wr_nat (n := i) (by omega), show wr 98 = 98 by decide]
      refine ⟨fun z => ?_, fun z => ⟨ix_of rfl (by omega) (by decide), fun w5 e5 => ?_⟩⟩
      · unfold X11_dual_b40
        refine ⟨ix_of (n := 0) rfl (by decide) (by decide), fun w6 e6 => ⟨ix_of (n := 1) rfl (by decide) (by decide), ix_of (n := 1) rfl (by decide) (by decide), fun w7 e7 => ?_⟩⟩
        rw [wt0] at e6
        have f6 : w6 73 1 = (dM D : Int) := by rw [e6, up_ap, if_neg (by omega), voff 73 1 (by omega)]; exact R1.2.1
        rw [wt1, rd1, f6] at e7
        have val : ∀ c j, w7 c j = if c = 83 ∧ j = 1 then (dM D : Int) else if c = 83 ∧ j = 0 then (nFa D : Int) else v c j := fun c j => by rw [e7, up_ap, e6, up_ap]
        exact ⟨dM D + 1, ways (dM D + 1) 0 w7 (by omega) (by omega) (fun d hd => by omega) (by rw [val, if_neg (by omega), if_pos ⟨rfl, rfl⟩]) (by rw [val, if_pos ⟨rfl, rfl⟩]) (fun j j1 j2 => by rw [val, if_neg (by omega), if_neg (by omega)]; exact vz j (by omega)) (fun c j c1 c2 => by rw [val, if_neg (by omega), if_neg (by omega)]; exact voff c j c1)⟩
      · rw [wt_of rfl (by omega)] at e5
        rw [show (i : Int) + 1 = ((i + 1 : Nat) : Int) by omega]
        refine ih (i + 1) w5 (by omega) (by omega) (fun j hj => ?_) (fun c j hc => by rw [e5, up_ap, if_neg (by omega)]; exact voff c j hc)
        rw [e5, up_ap]
        by_cases q : j = i
        · rw [if_pos ⟨rfl, q⟩]
        · rw [if_neg (by omega)]; exact vz j (by omega)
  exact ⟨99, zero 99 0 w1 (by omega) (by omega) (fun j hj => by omega) (fun _ _ _ => rfl)⟩
