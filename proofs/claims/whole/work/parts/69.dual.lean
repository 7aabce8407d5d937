/-! THE DUAL -/
/-- how many steps are told ahead of a face -/
noncomputable def suF (D : Dw) : Nat → Nat
  | 0 => 0
  | f + 1 => suF D f + fl D f
theorem ldF_ncl {D : Dw} {k : Nat} (hk : k < 4 * dM D) (hd : ldr (Fc D) k) : ldF D (ncl (Fc D) k) = k := by
  have := ldF_ok (D := D) (f := ncl (Fc D) k) (ncl_lt hk hd)
  exact ncl_eq_inj this.2.1 hd this.2.2
theorem fl_ncl {D : Dw} {k : Nat} (hk : k < 4 * dM D) (hd : ldr (Fc D) k) : fl D (ncl (Fc D) k) = pF D k := by
  unfold fl
  rw [if_pos (show ncl (Fc D) k < nF D (4 * dM D) from ncl_lt hk hd), ldF_ncl hk hd]
theorem tF_suF {D : Dw} : ∀ k, k ≤ 4 * dM D → tF D k = suF D (ncl (Fc D) k)
  | 0, _ => rfl
  | k + 1, h => by
    have ih := tF_suF (D := D) k (by omega)
    by_cases hd : ldr (Fc D) k
    · have e1 : tF D (k + 1) = tF D k + pF D k := tl_ld hd
      rw [e1, ncl_ld hd, ih]
      show _ = suF D (ncl (Fc D) k) + fl D (ncl (Fc D) k)
      rw [fl_ncl (by omega) hd]
    · have e1 : tF D (k + 1) = tF D k := tl_no hd
      rw [e1, ncl_no hd, ih]
theorem sF_all {D : Dw} : suF D (nF D (4 * dM D)) = tF D (4 * dM D) := (tF_suF (4 * dM D) (Nat.le_refl _)).symm
theorem sF_mono {D : Dw} : ∀ {g f : Nat}, f ≤ g → suF D f ≤ suF D g
  | 0, f, h => by
    have : f = 0 := by omega
    rw [this]; exact Nat.le_refl _
  | g + 1, f, h => by
    by_cases q : f = g + 1
    · rw [q]; exact Nat.le_refl _
    · have := @sF_mono D g f (by omega)
      show _ ≤ suF D g + fl D g
      omega
/-- a step of a face -/
theorem sF_st {D : Dw} (hW : WF D) {f i : Nat} (hf : f < nF D (4 * dM D)) (hi : i < fl D f) : suF D f + i < tF D (4 * dM D) ∧ vs D (suF D f + i) = itr (nx D) i (ldF D f) ∧ fo D (vs D (suF D f + i)) = f := by
  have hl := ldF_ok hf
  have e1 : tF D (ldF D f) = suF D f := by rw [tF_suF _ (by omega), hl.2.2]
  have e2 : fl D f = pF D (ldF D f) := by unfold fl; rw [if_pos hf]
  rw [e2] at hi
  rw [← e1]
  refine ⟨tF_lt hl.2.1 hl.1 hi, (vs_ok hW).1 _ hl.1 hl.2.1 i hi, ?_⟩
  rw [fo_vs hW hl.1 hl.2.1 hi, hl.2.2]
theorem sF_sur {D : Dw} (hW : WF D) {u : Nat} (hu : u < tF D (4 * dM D)) : ∃ f i, f < nF D (4 * dM D) ∧ i < fl D f ∧ u = suF D f + i := by
  obtain ⟨l, i, hl, hd, hi, he⟩ := (vs_ok hW).2 u hu
  refine ⟨ncl (Fc D) l, i, ncl_lt hl hd, by rw [fl_ncl hl hd]; exact hi, ?_⟩
  rw [he, tF_suF _ (by omega)]
/-- the two walks go along a line the same way -/
noncomputable def dTd (D : Dw) (e : Nat) : Bool := @decide (∃ u v, u < v ∧ v < tF D (4 * dM D) ∧ vL D u = e ∧ vL D v = e ∧ stA D (vs D u) % 2 = stA D (vs D v) % 2) (Classical.propDecidable _)
theorem dTd_iff {D : Dw} (hW : WF D) {u v e : Nat} (huv : u < v) (hv : v < tF D (4 * dM D)) (h1 : vL D u = e) (h2 : vL D v = e) : dTd D e = true ↔ stA D (vs D u) % 2 = stA D (vs D v) % 2 := by
  unfold dTd
  refine (@decide_eq_true_iff _ (Classical.propDecidable _)).trans ?_
  constructor
  · rintro ⟨a, b, hab, hb, ha1, hb1, hp⟩
    have k1 : a = u ∨ a = v := by
      by_cases q : a = u
      · exact Or.inl q
      · right
        exact (vL_two hW (show u < tF D (4 * dM D) by omega) (show a < tF D (4 * dM D) by omega) hv (by rw [h1, ha1]) (by rw [h1, h2]) (Ne.symm q) (by omega))
    have k2 : b = u ∨ b = v := by
      by_cases q : b = u
      · exact Or.inl q
      · right
        exact (vL_two hW (show u < tF D (4 * dM D) by omega) hb hv (by rw [h1, hb1]) (by rw [h1, h2]) (Ne.symm q) (by omega))
    rcases k1 with k1 | k1 <;> rcases k2 with k2 | k2
    · omega
    · rw [k1, k2] at hp; exact hp
    · omega
    · omega
  · intro h
    exact ⟨u, v, huv, hv, h1, h2, h⟩
noncomputable def dDual (D : Dw) : Dw := (nFa D, dM D, (fun i => if i % 2 = 0 then min (fo D (2 * (i / 2))) (fo D (2 * dM D + 2 * (i / 2))) else max (fo D (2 * (i / 2))) (fo D (2 * dM D + 2 * (i / 2)))), dTd D, fl D, (fun f i => vL D (suF D f + i)))
/-- there is a dual -/
def DOK (D : Dw) : Prop := nFa D ≤ 6 ∧ (∀ p, p < dN D → dG D p ≠ 0) ∧ ∀ e, e < dM D → ¬ OneS D e
theorem nBr_zero {D : Dw} : ∀ n, (∀ p, p < n → dG D p ≠ 0) → nBr D n = 0
  | 0, _ => rfl
  | n + 1, h => by
    show nBr D n + (if dG D n = 0 then 1 else 0) = 0
    rw [nBr_zero n (fun p hp => h p (by omega)), if_neg (h n (by omega))]
theorem dDual_ends (D : Dw) (e : Nat) : dE (dDual D) (2 * e) = min (fo D (2 * e)) (fo D (2 * dM D + 2 * e)) ∧ dE (dDual D) (2 * e + 1) = max (fo D (2 * e)) (fo D (2 * dM D + 2 * e)) := by
  constructor
  · show (if 2 * e % 2 = 0 then min (fo D (2 * (2 * e / 2))) (fo D (2 * dM D + 2 * (2 * e / 2))) else _) = _
    rw [if_pos (by omega), show 2 * e / 2 = e by omega]
  · show (if (2 * e + 1) % 2 = 0 then _ else max (fo D (2 * ((2 * e + 1) / 2))) (fo D (2 * dM D + 2 * ((2 * e + 1) / 2)))) = _
    rw [if_neg (by omega), show (2 * e + 1) / 2 = e by omega]
/-- a step of a line is on one of its two faces; two steps of a line are all -/
theorem vL_face {D : Dw} (hW : WF D) {u e : Nat} (hu : u < tF D (4 * dM D)) (he : vL D u = e) : fo D (vs D u) = fo D (2 * e) ∨ fo D (vs D u) = fo D (2 * dM D + 2 * e) := by
  have hl := vL_lt hW hu
  rw [he] at hl
  obtain ⟨a, b, hab, hb, h1, h2, h3⟩ := vL_both hW hl
  have : u = a ∨ u = b := by
    by_cases q : u = a
    · exact Or.inl q
    · right
      exact (vL_two hW (show a < tF D (4 * dM D) by omega) hu hb (by rw [h1, he]) (by rw [h1, h2]) (Ne.symm q) (by omega))
  rcases this with q | q <;> rw [q] <;> omega
theorem dDual_WF {D : Dw} (hW : WF D) (hD : DOK D) : WF (dDual D) := by
  have hz : nFa D = nF D (4 * dM D) := by
    unfold nFa
    rw [nBr_zero _ hD.2.1]; rfl
  have htl := (nF_le hW (Nat.le_refl (4 * dM D))).2
  refine ⟨hD.1, hW.2.1, fun i hi => ?_, fun e he => ?_, fun f i hf hi => ?_, fun f i j hf hi hj h => ?_, fun f e hf he ha => ?_⟩
  · have hi : i < 2 * dM D := hi
    have f1 := fo_lt hW (show 2 * (i / 2) < 4 * dM D by omega)
    have f2 := fo_lt hW (show 2 * dM D + 2 * (i / 2) < 4 * dM D by omega)
    show (if i % 2 = 0 then min (fo D (2 * (i / 2))) (fo D (2 * dM D + 2 * (i / 2))) else max (fo D (2 * (i / 2))) (fo D (2 * dM D + 2 * (i / 2)))) < nFa D
    rw [hz]
    split <;> omega
  · have he : e < dM D := he
    rw [(dDual_ends D e).1, (dDual_ends D e).2]
    have := hD.2.2 e he
    have h2 : fo D (2 * e) ≠ fo D (2 * dM D + 2 * e) := fun y => this ⟨he, y⟩
    omega
  · have hf : f < nFa D := hf
    have hi : i < fl D f := hi
    have hs := sF_st hW (by omega) hi
    show vL D (suF D f + i) < dM D ∧ atP (dDual D) (vL D (suF D f + i)) f
    refine ⟨vL_lt hW hs.1, ?_⟩
    unfold atP
    rw [(dDual_ends D _).1, (dDual_ends D _).2]
    have := vL_face hW hs.1 rfl
    rw [hs.2.2] at this
    omega
  · have hf : f < nFa D := hf
    have hi : i < fl D f := hi
    have hj : j < fl D f := hj
    have h : vL D (suF D f + i) = vL D (suF D f + j) := h
    have hs := sF_st hW (by omega) hi
    have ht := sF_st hW (by omega) hj
    by_cases q : i = j
    · exact q
    · exfalso
      have hl := vL_lt hW hs.1
      refine hD.2.2 _ hl ⟨hl, ?_⟩
      obtain ⟨a, b, hab, hb, h1, h2, h3⟩ := vL_both hW hl
      have k : ∀ u, u < tF D (4 * dM D) → vL D u = vL D (suF D f + i) → u = a ∨ u = b := fun u hu he => by
        by_cases q : u = a
        · exact Or.inl q
        · right
          exact (vL_two hW (show a < tF D (4 * dM D) by omega) hu hb (by rw [h1, he]) (by rw [h1, h2]) (Ne.symm q) (by omega))
      have k1 := k _ hs.1 rfl
      have k2 := k _ ht.1 h.symm
      have g1 := hs.2.2
      have g2 := ht.2.2
      rcases k1 with k1 | k1 <;> rcases k2 with k2 | k2
      · omega
      · rw [k1] at g1; rw [k2] at g2; omega
      · rw [k1] at g1; rw [k2] at g2; omega
      · omega
  · have hf : f < nFa D := hf
    have he : e < dM D := he
    unfold atP at ha
    rw [(dDual_ends D _).1, (dDual_ends D _).2] at ha
    obtain ⟨a, b, hab, hb, h1, h2, h3⟩ := vL_both hW he
    have : ∃ u, u < tF D (4 * dM D) ∧ vL D u = e ∧ fo D (vs D u) = f := by
      have : fo D (vs D a) = f ∨ fo D (vs D b) = f := by omega
      rcases this with y | y
      · exact ⟨a, by omega, h1, y⟩
      · exact ⟨b, hb, h2, y⟩
    obtain ⟨u, hu, hue, huf⟩ := this
    obtain ⟨g, i, hg, hi, hui⟩ := sF_sur hW hu
    have hs := sF_st hW hg hi
    rw [← hui, huf] at hs
    have hgf : f = g := hs.2.2
    subst hgf
    refine ⟨i, hi, ?_⟩
    show vL D (suF D f + i) = e
    rw [← hui, hue]
theorem X1_barePosts_ok {K : Nat} {Q : Int → Wd → Prop} {w : Wd} {D : Dw} (hW : WF D) (hR : RepX w K D) (hQ : Q (nBr D (dN D) : Int) w) : X1_barePosts K w Q := by
  have n6 := hW.1
  have m10 := hW.2.1
  have key : ∀ (m p : Nat), p ≤ dN D → dN D - p < m → X1_barePosts_l4 K Q (X1_barePosts_b30 K Q) m (nBr D p : Int) (p : Int) w := by
    intro m
    induction m with
    | zero => intro p a1 a2; omega
    | succ m ih =>
      intro p a1 a2
      have hb := nBr_le D p
      unfold X1_barePosts_l4
      rw [hR.1, wr_nat (n := dN D) (by omega), wr_nat (n := p) (by omega), show (p : Int) + 1 = ((p + 1 : Nat) : Int) by omega]
      refine ⟨fun z => ?_, fun z => ⟨ix_of rfl (by omega) (by decide), ?_⟩⟩
      · have : p = dN D := by omega
        subst this
        unfold X1_barePosts_b30
        rw [wr_nat (by omega)]; exact hQ
      · have hg : w (K + 2) p = (dG D p : Int) := hR.2.2.2.2.1 p (by omega)
        have hd10 := hW.deg (p := p) (by omega)
        rw [rd_of rfl (by omega), hg, wr_nat (n := dG D p) (by omega)]
        have hn : nBr D (p + 1) = nBr D p + (if dG D p = 0 then 1 else 0) := rfl
        have hi := ih (p + 1) (by omega) (by omega)
        refine ⟨fun z2 => ?_, fun z2 => ?_⟩
        · rw [if_pos (by omega)] at hn
          rw [show (nBr D p : Int) + 1 = ((nBr D (p + 1) : Nat) : Int) by omega]; exact hi
        · rw [if_neg (by omega)] at hn
          rw [show nBr D p = nBr D (p + 1) by omega]; exact hi
  exact ⟨dN D + 1, key (dN D + 1) 0 (by omega) (by omega)⟩
theorem nBr_pos {D : Dw} : ∀ n p, p < n → dG D p = 0 → nBr D n ≠ 0
  | 0, _, h, _ => by omega
  | n + 1, p, h, hz => by
    show nBr D n + (if dG D n = 0 then 1 else 0) ≠ 0
    by_cases q : p = n
    · rw [← q, if_pos hz]; omega
    · have := nBr_pos n p (by omega) hz
      omega
theorem X10_hasDual_ok {Q : Int → Wd → Prop} {w : Wd} {S : Sg} (hS : SOK S) (h1 : HX w S) (T1 : RepT w 17 (sD S)) (q0 : (DOK (sD S) → Q 1 w) ∧ (¬ DOK (sD S) → Q 0 w)) : X10_hasDual 17 w Q := by
  have hW := hS.1
  have m10 := hW.2.1
  have n6 := hW.1
  have hn := nFa_lt hW
  unfold X10_hasDual X10_hasDual_b37
  have R1 : RepX w 1 (sD S) := h1.2.2.2.1
  rw [T1.1, wr_nat (n := nFa (sD S)) (by omega), show wr 6 = 6 by decide]
  refine ⟨fun z => q0.2 (fun y => by have := y.1; omega), fun z => ?_⟩
  refine X1_barePosts_ok hW R1 ?_
  have hb := nBr_le (sD S) (dN (sD S))
  rw [wr_nat (by omega)]
  refine ⟨fun z2 => ?_, fun z2 => q0.2 (fun y => z2 (by rw [nBr_zero _ y.2.1]; rfl))⟩
  refine X8_oneSided_ok hW T1 R1.2.1 (fun L hB => ?_)
  have hL : L < 1024 := hB.1
  rw [wr_nat (by omega)]
  refine ⟨fun z3 => q0.1 ⟨by omega, fun p hp y => nBr_pos _ p hp y (by omega), fun e he y => ?_⟩, fun z3 => q0.2 (fun y => z3 ?_)⟩
  · have := (hB.2 e (by omega)).mpr y
    have hL0 : L = 0 := by omega
    rw [hL0] at this
    simp at this
  · have : L = 0 := by
      apply Nat.eq_of_testBit_eq
      intro i
      rw [Nat.zero_testBit]
      by_cases hi : i < 10
      · cases q : L.testBit i
        · rfl
        · have := (hB.2 i hi).mp q
          exact absurd this (y.2.2 i this.1)
      · exact Nat.testBit_lt_two_pow (Nat.lt_of_lt_of_le hB.1 (Nat.pow_le_pow_right (by decide) (by omega)))
    rw [this]; rfl
