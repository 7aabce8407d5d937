/-! SHRUNK -/
theorem RepX.congr {w : Wd} {k : Nat} {D D' : Dw} (h : RepX w k D) (hN : dN D = dN D') (hM : dM D = dM D') (hE : ∀ i, i < 2 * dM D → dE D i = dE D' i) (hT : ∀ e, e < dM D → dT D e = dT D' e) (hG : ∀ p, p < dN D → dG D p = dG D' p) (hR : ∀ p i, p < dN D → i < dG D p → dR D p i = dR D' p i) : RepX w k D' := by
  obtain ⟨r0, r1, ⟨t, rt, ht, htb⟩, r3, r4, r5⟩ := h
  refine ⟨by rw [r0, hN], by rw [r1, hM], ⟨t, rt, ht, fun e => ?_⟩, fun i hi => ?_, fun p hp => ?_, fun p i hp hi => ?_⟩
  · rw [htb, hM]
    by_cases q : e < dM D'
    · rw [hT e (by omega)]
    · simp [q]
  · rw [← hE i (by omega)]; exact r3 i (by omega)
  · rw [← hG p (by omega)]; exact r4 p (by omega)
  · rw [← hG p (by omega)] at hi
    rw [← hR p i (by omega) hi]; exact r5 p i (by omega) hi
theorem RepM.congr {w : Wd} {k : Nat} {D D' : Dw} (h : RepM w k D) (hN : dN D = dN D') (hM : dM D = dM D') (hE : ∀ i, i < 2 * dM D → dE D i = dE D' i) (hT : ∀ e, e < dM D → dT D e = dT D' e) (hG : ∀ p, p < dN D → dG D p = dG D' p) (hR : ∀ p i, p < dN D → i < dG D p → dR D p i = dR D' p i) : RepM w k D' := by
  obtain ⟨r0, r1, r3, rt, r4, r5⟩ := h
  refine ⟨by rw [r0, hN], by rw [r1, hM], fun i hi => ?_, fun e he => ?_, fun p hp => ?_, fun p i hp hi => ?_⟩
  · rw [← hE i (by omega)]; exact r3 i (by omega)
  · rw [← hT e (by omega)]; exact rt e (by omega)
  · rw [← hG p (by omega)]; exact r4 p (by omega)
  · rw [← hG p (by omega)] at hi
    rw [← hR p i (by omega) hi]; exact r5 p i (by omega) hi
def insD (D : Dw) (p c x : Nat) : Dw := (dN D, dM D, dE D, dT D, (fun q => if q = p then dG D q + 1 else dG D q), (fun q i => if q = p then insR (dR D q) c x i else dR D q i))
def delD (D : Dw) (p c : Nat) : Dw := (dN D, dM D, dE D, dT D, (fun q => if q = p then dG D q - 1 else dG D q), (fun q i => if q = p then delR (dR D q) c i else dR D q i))
def setE (D : Dw) (i x : Nat) : Dw := (dN D, dM D, (fun j => if j = i then x else dE D j), dT D, dG D, dR D)
theorem repX_ins {w : Wd} {k : Nat} {D : Dw} {p c x : Nat} (hB : Bd D) (hp : p < dN D) (hg : dG D p < 10) (hc : c ≤ dG D p) (h : RepX w k D) : RepX (insW w (k + 2) p (k + 3) (10 * p) c (x : Int) (dG D p)) k (insD D p c x) ∧ offX k w (insW w (k + 2) p (k + 3) (10 * p) c (x : Int) (dG D p)) := by
  obtain ⟨n6, m10, hgb, hr, hen⟩ := hB
  obtain ⟨r0, r1, ⟨t, rt, ht, htb⟩, r3, r4, r5⟩ := h
  have hv := rr_ins (x := x) (a := c) (w := w) (cD := k + 2) (bD := 0) (cR := k + 3) (bR := 0) (Or.inl (by omega)) ⟨fun p hp => by rw [Nat.zero_add]; exact r4 p hp, fun p i hp hi => by rw [Nat.zero_add]; exact r5 p i hp hi⟩ n6 hgb hp hg hc
  rw [Nat.zero_add, Nat.zero_add] at hv
  refine ⟨⟨?_, ?_, ⟨t, ?_, ht, htb⟩, ?_, ?_, ?_⟩, ?_⟩
  · rw [insW_off hc (by omega) (by omega)]; exact r0
  · rw [insW_off hc (by omega) (by omega)]; exact r1
  · rw [insW_off hc (by omega) (by omega)]; exact rt
  · intro i hi; rw [insW_off hc (by omega) (by omega)]; exact r3 i hi
  · intro q hq; have := hv.1 q hq; rw [Nat.zero_add] at this; exact this
  · intro q i hq hi; have := hv.2 q i hq hi; rw [Nat.zero_add] at this; exact this
  · intro c' j hc'; rw [insW_off hc (by omega) (by omega)]
theorem repM_ins {w : Wd} {r : Nat} {D : Dw} {p c x : Nat} (hB : Bd D) (hp : p < dN D) (hg : dG D p < 10) (hc : c ≤ dG D p) (h : RepM w r D) : RepM (insW w r (32 + p) r (38 + 10 * p) c (x : Int) (dG D p)) r (insD D p c x) ∧ offM r w (insW w r (32 + p) r (38 + 10 * p) c (x : Int) (dG D p)) := by
  obtain ⟨n6, m10, hgb, hr, hen⟩ := hB
  obtain ⟨r0, r1, r3, rt, r4, r5⟩ := h
  have hv := rr_ins (x := x) (a := c) (w := w) (cD := r) (bD := 32) (cR := r) (bR := 38) (Or.inr (by omega)) ⟨r4, r5⟩ n6 hgb hp hg hc
  refine ⟨⟨?_, ?_, ?_, ?_, hv.1, hv.2⟩, ?_⟩
  · rw [insW_off hc (by omega) (by omega)]; exact r0
  · rw [insW_off hc (by omega) (by omega)]; exact r1
  · intro i hi
    have hi : i < 2 * dM D := hi
    rw [insW_off hc (by omega) (by omega)]; exact r3 i hi
  · intro i hi
    have hi : i < dM D := hi
    rw [insW_off hc (by omega) (by omega)]; exact rt i hi
  · intro c' j hc'; rw [insW_off hc (by omega) (by omega)]
theorem repX_del {w : Wd} {k : Nat} {D : Dw} {p c : Nat} (hB : Bd D) (hp : p < dN D) (hc : c < dG D p) (h : RepX w k D) : RepX (delW w (k + 2) p (k + 3) (10 * p) c (dG D p)) k (delD D p c) ∧ offX k w (delW w (k + 2) p (k + 3) (10 * p) c (dG D p)) := by
  obtain ⟨n6, m10, hgb, hr, hen⟩ := hB
  obtain ⟨r0, r1, ⟨t, rt, ht, htb⟩, r3, r4, r5⟩ := h
  have hv := rr_del (a := c) (w := w) (cD := k + 2) (bD := 0) (cR := k + 3) (bR := 0) (Or.inl (by omega)) ⟨fun p hp => by rw [Nat.zero_add]; exact r4 p hp, fun p i hp hi => by rw [Nat.zero_add]; exact r5 p i hp hi⟩ n6 hgb hp hc
  rw [Nat.zero_add, Nat.zero_add] at hv
  refine ⟨⟨?_, ?_, ⟨t, ?_, ht, htb⟩, ?_, ?_, ?_⟩, ?_⟩
  · rw [delW_off (by omega) (by omega)]; exact r0
  · rw [delW_off (by omega) (by omega)]; exact r1
  · rw [delW_off (by omega) (by omega)]; exact rt
  · intro i hi; rw [delW_off (by omega) (by omega)]; exact r3 i hi
  · intro q hq; have := hv.1 q hq; rw [Nat.zero_add] at this; exact this
  · intro q i hq hi; have := hv.2 q i hq hi; rw [Nat.zero_add] at this; exact this
  · intro c' j hc'; rw [delW_off (by omega) (by omega)]
theorem repM_del {w : Wd} {r : Nat} {D : Dw} {p c : Nat} (hB : Bd D) (hp : p < dN D) (hc : c < dG D p) (h : RepM w r D) : RepM (delW w r (32 + p) r (38 + 10 * p) c (dG D p)) r (delD D p c) ∧ offM r w (delW w r (32 + p) r (38 + 10 * p) c (dG D p)) := by
  obtain ⟨n6, m10, hgb, hr, hen⟩ := hB
  obtain ⟨r0, r1, r3, rt, r4, r5⟩ := h
  have hv := rr_del (a := c) (w := w) (cD := r) (bD := 32) (cR := r) (bR := 38) (Or.inr (by omega)) ⟨r4, r5⟩ n6 hgb hp hc
  refine ⟨⟨?_, ?_, ?_, ?_, hv.1, hv.2⟩, ?_⟩
  · rw [delW_off (by omega) (by omega)]; exact r0
  · rw [delW_off (by omega) (by omega)]; exact r1
  · intro i hi
    have hi : i < 2 * dM D := hi
    rw [delW_off (by omega) (by omega)]; exact r3 i hi
  · intro i hi
    have hi : i < dM D := hi
    rw [delW_off (by omega) (by omega)]; exact rt i hi
  · intro c' j hc'; rw [delW_off (by omega) (by omega)]
theorem repX_setE {w : Wd} {k : Nat} {D : Dw} {i x : Nat} (h : RepX w k D) : RepX (up w (k + 1) i (x : Int)) k (setE D i x) ∧ offX k w (up w (k + 1) i (x : Int)) := by
  obtain ⟨r0, r1, ⟨t, rt, ht, htb⟩, r3, r4, r5⟩ := h
  refine ⟨⟨?_, ?_, ⟨t, ?_, ht, htb⟩, ?_, ?_, ?_⟩, ?_⟩
  · rw [up_ap, if_neg (by omega)]; exact r0
  · rw [up_ap, if_neg (by omega)]; exact r1
  · rw [up_ap, if_neg (by omega)]; exact rt
  · intro j hj
    show _ = ((if j = i then x else dE D j : Nat) : Int)
    rw [up_ap]
    by_cases z : j = i
    · rw [if_pos ⟨rfl, z⟩, if_pos z]
    · rw [if_neg (by omega), if_neg z]; exact r3 j hj
  · intro p hp; rw [up_ap, if_neg (by omega)]; exact r4 p hp
  · intro p j hp hj; rw [up_ap, if_neg (by omega)]; exact r5 p j hp hj
  · intro c j hc; rw [up_ap, if_neg (by omega)]
theorem repM_setE {w : Wd} {r : Nat} {D : Dw} {i x : Nat} (hM : dM D ≤ 10) (hi : i < 2 * dM D) (h : RepM w r D) : RepM (up w r (2 + i) (x : Int)) r (setE D i x) ∧ offM r w (up w r (2 + i) (x : Int)) := by
  obtain ⟨r0, r1, r3, rt, r4, r5⟩ := h
  refine ⟨⟨?_, ?_, ?_, ?_, ?_, ?_⟩, ?_⟩
  · rw [up_ap, if_neg (by omega)]; exact r0
  · rw [up_ap, if_neg (by omega)]; exact r1
  · intro j hj
    show _ = ((if j = i then x else dE D j : Nat) : Int)
    rw [up_ap]
    by_cases z : j = i
    · rw [if_pos ⟨rfl, by omega⟩, if_pos z]
    · rw [if_neg (by omega), if_neg z]; exact r3 j hj
  · intro j hj; rw [up_ap, if_neg (by omega)]; exact rt j hj
  · intro p hp; rw [up_ap, if_neg (by omega)]; exact r4 p hp
  · intro p j hp hj; rw [up_ap, if_neg (by omega)]; exact r5 p j hp hj
  · intro c j hc; rw [up_ap, if_neg (by omega)]
/-- so many places on, round a row -/
def rnd (o t d : Nat) : Nat := if o + t < d then o + t else o + t - d
theorem rnd_mod {o t d : Nat} (ho : o < d) (ht : t ≤ d) : (o + t) % d = rnd o t d := by
  unfold rnd
  split
  · exact Nat.mod_eq_of_lt (by assumption)
  · rw [Nat.mod_eq_sub_mod (by omega)]; exact Nat.mod_eq_of_lt (by omega)
theorem rnd_lt {o t d : Nat} (ho : o < d) (ht : t ≤ d) : rnd o t d < d := by unfold rnd; split <;> omega
def rowC (A B : Nat → Nat) (at_ o db k j : Nat) : Nat := if j < at_ then A j else if j < at_ + k then B (rnd o (1 + (j - at_)) db) else A (j - k + 1)
def rowN (A B : Nat → Nat) (at_ o db k j : Nat) : Nat := if j ≤ at_ then A j else if j ≤ at_ + k then B (rnd o (j - at_) db) else A (j - k)
/-- k lines of the second post are moved -/
noncomputable def mvE (D : Dw) (a b o k : Nat) : Nat → Nat := fun i => @ite _ (dE D i = b ∧ (∃ t, 1 ≤ t ∧ t ≤ k ∧ dR D b (rnd o t (dG D b)) = i / 2)) (Classical.propDecidable _) a (dE D i)
