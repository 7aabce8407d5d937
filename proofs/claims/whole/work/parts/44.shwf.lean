theorem low_ne {e x y : Nat} (hx : x ≠ e) (hy : y ≠ e) (h : low e x = low e y) : x = y := by
  unfold low at h
  split at h <;> split at h <;> omega
theorem low_up {e : Nat} (y : Nat) : ∃ x, x ≠ e ∧ low e x = y ∧ (x = if y < e then y else y + 1) := by
  by_cases q : y < e
  · exact ⟨y, by omega, by unfold low; rw [if_neg (by omega)], by rw [if_pos q]⟩
  · exact ⟨y + 1, by omega, by unfold low; rw [if_pos (by omega)]; omega, by rw [if_neg q]⟩
theorem shr1_WF {D : Dw} {e a b c o : Nat} (S : Shk D e a b c o) : WF (cpD (clD (mvK D a b c o (dG D b - 1)) e) b) := by
  have hlen := shk_len S
  have hrN := rowN_ok S
  have hEf := fun i (hi : i < 2 * dM D) => mvE_full S hi
  obtain ⟨hW, he, hL, ha, hb, hc, hce, hcf, ho, hoe, hof, hab, han, hbn⟩ := id S
  obtain ⟨n6, m10, hen, hne, hrow, hinj, hsur⟩ := id hW
  -- the new ends of the lines that stay
  obtain ⟨E, hE⟩ : ∃ E : Nat → Nat, E = fun i => if dE D i = b then a else dE D i := ⟨_, rfl⟩
  have hEa : ∀ i, E i = if dE D i = b then a else dE D i := fun i => by rw [hE]
  have hEs : ∀ i, i < 2 * dM D → i / 2 ≠ e → mvE D a b o (dG D b - 1) i = E i := fun i hi h => by
    rw [hEf i hi, hEa]
    by_cases z : dE D i = b
    · rw [if_pos ⟨z, h⟩, if_pos z]
    · rw [if_neg (fun y => z y.1), if_neg z]
  have hEb : ∀ i, E i ≠ b := fun i => by rw [hEa]; split <;> omega
  have hEl : ∀ i, i < 2 * dM D → E i < dN D := fun i hi => by rw [hEa]; split; · exact han
                                                              · exact hen i hi
  have atE : ∀ x p, x < dM D → p ≠ b → ((E (2 * x) = p ∨ E (2 * x + 1) = p) ↔ (atP D x p ∨ (p = a ∧ atP D x b))) := fun x p hx hp => by
    unfold atP
    rw [hEa, hEa]
    by_cases z1 : dE D (2 * x) = b <;> by_cases z2 : dE D (2 * x + 1) = b
    · exact absurd (by rw [z1, z2]) (hne x hx)
    · rw [if_pos z1, if_neg z2]
      constructor
      · rintro (y | y)
        · exact Or.inr ⟨y.symm, Or.inl z1⟩
        · exact Or.inl (Or.inr y)
      · rintro ((y | y) | ⟨y, -⟩)
        · exact absurd (by rw [← y, z1]) hp
        · exact Or.inr y
        · exact Or.inl y.symm
    · rw [if_neg z1, if_pos z2]
      constructor
      · rintro (y | y)
        · exact Or.inl (Or.inl y)
        · exact Or.inr ⟨y.symm, Or.inr z2⟩
      · rintro ((y | y) | ⟨y, -⟩)
        · exact Or.inl y
        · exact absurd (by rw [← y, z2]) hp
        · exact Or.inr y.symm
    · rw [if_neg z1, if_neg z2]
      constructor
      · exact fun y => Or.inl y
      · rintro (y | ⟨-, y | y⟩)
        · exact y
        · exact absurd y z1
        · exact absurd y z2
  -- rows of the posts that stay
  obtain ⟨g, hg⟩ : ∃ g : Nat → Nat, g = fun p => if p = a then dG D p - 1 + (dG D b - 1) else dG D p := ⟨_, rfl⟩
  obtain ⟨R, hR⟩ : ∃ R : Nat → Nat → Nat, R = fun p j => if p = a then rowC (dR D a) (dR D b) c o (dG D b) (dG D b - 1) j else dR D p j := ⟨_, rfl⟩
  have rCN : ∀ j, rowC (dR D a) (dR D b) c o (dG D b) (dG D b - 1) j = rowN (dR D a) (dR D b) c o (dG D b) (dG D b - 1) (if j < c then j else j + 1) := fun j => by
    by_cases y1 : j < c
    · rw [if_pos y1]
      unfold rowC rowN
      rw [if_pos y1, if_pos (by omega)]
    · rw [if_neg y1]
      unfold rowC rowN
      rw [if_neg y1]
      by_cases y2 : j < c + (dG D b - 1)
      · rw [if_pos y2, if_neg (by omega), if_pos (by omega), show j + 1 - c = 1 + (j - c) by omega]
      · rw [if_neg y2, if_neg (by omega), if_neg (by omega), show j + 1 - (dG D b - 1) = j - (dG D b - 1) + 1 by omega]
  have rows : ∀ p, p < dN D → p ≠ b → (∀ i, i < g p → R p i < dM D ∧ R p i ≠ e ∧ (E (2 * R p i) = p ∨ E (2 * R p i + 1) = p)) ∧ (∀ i j, i < g p → j < g p → R p i = R p j → i = j) ∧ (∀ x, x < dM D → x ≠ e → (E (2 * x) = p ∨ E (2 * x + 1) = p) → ∃ i, i < g p ∧ R p i = x) := by
    intro p hp hpb
    by_cases z : p = a
    · subst z
      have hgp : g p = dG D p - 1 + (dG D b - 1) := by rw [hg]; exact if_pos rfl
      have hRp : ∀ j, R p j = rowN (dR D p) (dR D b) c o (dG D b) (dG D b - 1) (if j < c then j else j + 1) := fun j => by rw [hR]; show (if p = p then _ else _) = _; rw [if_pos rfl, rCN]
      have hix : ∀ j, j < g p → (if j < c then j else j + 1) < dG D p + dG D b - 1 := fun j hj => by rw [hgp] at hj; split <;> omega
      refine ⟨fun i hi => ?_, fun i j hi hj h => ?_, fun x hx hxe hxa => ?_⟩
      · have h1 := hrN.1 _ (hix i hi)
        rw [hRp]
        refine ⟨h1.1, fun y => ?_, (atE _ p h1.1 hpb).mpr ?_⟩
        · have := hrN.2.1 _ c (hix i hi) (by omega) (by rw [y, hrN.2.2.2])
          split at this <;> omega
        · rcases h1.2 with y | y
          · exact Or.inl y
          · exact Or.inr ⟨rfl, y⟩
      · rw [hRp, hRp] at h
        have := hrN.2.1 _ _ (hix i hi) (hix j hj) h
        split at this <;> split at this <;> omega
      · obtain ⟨j, hj, hjx⟩ := hrN.2.2.1 x hx (by
          rcases (atE x p hx hpb).mp hxa with y | y
          · exact Or.inl y
          · exact Or.inr y.2)
        have hjc : j ≠ c := fun y => hxe (by rw [← hjx, y, hrN.2.2.2])
        rcases Nat.lt_or_ge j c with q | q
        · exact ⟨j, by rw [hgp]; omega, by rw [hRp, if_pos q, hjx]⟩
        · exact ⟨j - 1, by rw [hgp]; omega, by rw [hRp, if_neg (by omega), show j - 1 + 1 = j by omega, hjx]⟩
    · have hgp : g p = dG D p := by rw [hg]; exact if_neg z
      have hRp : ∀ j, R p j = dR D p j := fun j => by rw [hR]; exact if_neg z
      have hat : ∀ x, x < dM D → ((E (2 * x) = p ∨ E (2 * x + 1) = p) ↔ atP D x p) := fun x hx => by
        rw [atE x p hx hpb]
        exact ⟨fun y => y.elim id (fun q => absurd q.1 z), Or.inl⟩
      refine ⟨fun i hi => ?_, fun i j hi hj h => ?_, fun x hx hxe hxa => ?_⟩
      · rw [hgp] at hi
        have h1 := hrow p i hp hi
        rw [hRp]
        refine ⟨h1.1, fun y => ?_, (hat _ h1.1).mpr h1.2⟩
        rw [y] at h1
        rcases h1.2 with q | q
        · exact z (by rw [← q, ha])
        · exact hpb (by rw [← q, hb])
      · rw [hgp] at hi hj
        rw [hRp, hRp] at h
        exact hinj p i j hp hi hj h
      · obtain ⟨i, hi, hix⟩ := hsur p x hp hx ((hat x hx).mp hxa)
        exact ⟨i, by rw [hgp]; exact hi, by rw [hRp]; exact hix⟩
  -- numbers go
  have hE' : ∀ x, x ≠ e → x < dM D → dE (cpD (clD (mvK D a b c o (dG D b - 1)) e) b) (2 * low e x) = low b (E (2 * x)) ∧ dE (cpD (clD (mvK D a b c o (dG D b - 1)) e) b) (2 * low e x + 1) = low b (E (2 * x + 1)) := by
    intro x hx hxm
    show low b (if 2 * low e x < 2 * e then mvE D a b o (dG D b - 1) (2 * low e x) else mvE D a b o (dG D b - 1) (2 * low e x + 2)) = _ ∧ low b (if 2 * low e x + 1 < 2 * e then mvE D a b o (dG D b - 1) (2 * low e x + 1) else mvE D a b o (dG D b - 1) (2 * low e x + 1 + 2)) = _
    by_cases q : e < x
    · have hl : low e x = x - 1 := by unfold low; rw [if_pos q]
      rw [hl, if_neg (by omega), if_neg (by omega), show 2 * (x - 1) + 2 = 2 * x by omega, show 2 * (x - 1) + 1 + 2 = 2 * x + 1 by omega, hEs _ (by omega) (by omega), hEs _ (by omega) (by omega)]
      exact ⟨rfl, rfl⟩
    · have hl : low e x = x := by unfold low; rw [if_neg q]
      rw [hl, if_pos (by omega), if_pos (by omega), hEs _ (by omega) (by omega), hEs _ (by omega) (by omega)]
      exact ⟨rfl, rfl⟩
  have hat' : ∀ x p, x ≠ e → x < dM D → p ≠ b → (atP (cpD (clD (mvK D a b c o (dG D b - 1)) e) b) (low e x) (low b p) ↔ (E (2 * x) = p ∨ E (2 * x + 1) = p)) := fun x p hx hxm hp => by
    unfold atP
    rw [(hE' x hx hxm).1, (hE' x hx hxm).2]
    constructor
    · rintro (y | y)
      · exact Or.inl (low_ne (hEb _) hp y)
      · exact Or.inr (low_ne (hEb _) hp y)
    · rintro (y | y)
      · exact Or.inl (by rw [y])
      · exact Or.inr (by rw [y])
  have hmm : ∀ y, y < dM D - 1 → ∃ x, x ≠ e ∧ low e x = y ∧ x < dM D := fun y hy => by
    obtain ⟨x, h1, h2, h3⟩ := low_up (e := e) y
    exact ⟨x, h1, h2, by rw [h3]; split <;> omega⟩
  have hpp : ∀ q, q < dN D - 1 → ∃ p, p ≠ b ∧ low b p = q ∧ p < dN D ∧ (if q < b then q else q + 1) = p := fun q hq => by
    obtain ⟨x, h1, h2, h3⟩ := low_up (e := b) q
    exact ⟨x, h1, h2, by rw [h3]; split <;> omega, h3.symm⟩
  have hG' : ∀ q, dG (cpD (clD (mvK D a b c o (dG D b - 1)) e) b) q = g (if q < b then q else q + 1) := fun q => by rw [hg]; rfl
  have hR' : ∀ q i, dR (cpD (clD (mvK D a b c o (dG D b - 1)) e) b) q i = low e (R (if q < b then q else q + 1) i) := fun q i => by rw [hR]; rfl
  refine ⟨by show dN D - 1 ≤ 6; omega, by show dM D - 1 ≤ 10; omega, fun i hi => ?_, fun y hy => ?_, fun q i hq hi => ?_, fun q i j hq hi hj h => ?_, fun q y hq hy hay => ?_⟩
  · have hi : i < 2 * (dM D - 1) := hi
    obtain ⟨x, h1, h2, h3⟩ := hmm (i / 2) (by omega)
    have h4 := hE' x h1 h3
    rw [h2] at h4
    show dE (cpD (clD (mvK D a b c o (dG D b - 1)) e) b) i < dN D - 1
    have hlow : ∀ k, k < 2 * dM D → low b (E k) < dN D - 1 := fun k hk => by
      have h5 := hEb k
      have h6 := hEl k hk
      unfold low
      split <;> omega
    have : i = 2 * (i / 2) ∨ i = 2 * (i / 2) + 1 := by omega
    rcases this with q | q
    · rw [q, h4.1]; exact hlow _ (by omega)
    · rw [q, h4.2]; exact hlow _ (by omega)
  · obtain ⟨x, h1, h2, h3⟩ := hmm y hy
    rw [← h2, (hE' x h1 h3).1, (hE' x h1 h3).2]
    intro h
    have h5 := low_ne (hEb _) (hEb _) h
    rw [hEa, hEa] at h5
    have h6 := hne x h3
    have h7 := hL x h3 h1
    rw [← ha, ← hb] at h7
    unfold atP at h7
    by_cases z1 : dE D (2 * x) = b <;> by_cases z2 : dE D (2 * x + 1) = b
    · exact h6 (by rw [z1, z2])
    · rw [if_pos z1, if_neg z2] at h5; exact h7 ⟨Or.inr h5.symm, Or.inl z1⟩
    · rw [if_neg z1, if_pos z2] at h5; exact h7 ⟨Or.inl h5, Or.inr z2⟩
    · rw [if_neg z1, if_neg z2] at h5; exact h6 h5
  · obtain ⟨p, h1, h2, h3, h4⟩ := hpp q hq
    rw [hG', h4] at hi
    rw [hR', h4]
    have h5 := (rows p h3 h1).1 i hi
    refine ⟨?_, ?_⟩
    · show low e (R p i) < dM D - 1
      unfold low
      split <;> omega
    · rw [← h2]; exact (hat' _ _ h5.2.1 h5.1 h1).mpr h5.2.2
  · obtain ⟨p, h1, h2, h3, h4⟩ := hpp q hq
    rw [hG', h4] at hi hj
    rw [hR', hR', h4] at h
    exact (rows p h3 h1).2.1 i j hi hj (low_ne ((rows p h3 h1).1 i hi).2.1 ((rows p h3 h1).1 j hj).2.1 h)
  · obtain ⟨p, h1, h2, h3, h4⟩ := hpp q hq
    obtain ⟨x, g1, g2, g3⟩ := hmm y hy
    rw [← g2, ← h2] at hay
    obtain ⟨i, hi, hix⟩ := (rows p h3 h1).2.2 x g3 g1 ((hat' x p g1 g3 h1).mp hay)
    exact ⟨i, by rw [hG', h4]; exact hi, by rw [hR', h4, hix, g2]⟩
theorem dShr_WF {D : Dw} {e : Nat} (hW : WF D) (he : e < dM D) (hL : Lone D e) : WF (dShr D e) := by
  unfold dShr
  cases dT D e
  · exact shr1_WF (shk_of hW he hL)
  · exact shr1_WF (shk_of (dFlip_WF hW) he (flip_lone hL))
/-- the model's shrink, behind its tests and marks -/
def mShrB (Q : Int → Wd → Prop) (x1 : Int) (w5 : Wd) : Prop := (ix (2 + (2 * x1)) 98 ∧ (∀ y6, y6 = (rd w5 73 (2 + (2 * x1))) → (ix ((2 + (2 * x1)) + 1) 98 ∧ (∀ y7, y7 = (rd w5 73 ((2 + (2 * x1)) + 1)) → (ix (22 + x1) 98 ∧ ((wr (rd w5 73 (22 + x1)) = wr 1 → X11_turnsOver 73 y7 w5 (fun w25 => X11_shrink_b67 Q x1 y6 y7 w25)) ∧ (¬ wr (rd w5 73 (22 + x1)) = wr 1 → X11_shrink_b67 Q x1 y6 y7 w5)))))))
theorem mShrB_ok {Q : Int → Wd → Prop} {w : Wd} {D : Dw} {x1 : Int} (e : Nat) (h1 : x1 = (e : Int)) (hW : WF D) (he : e < dM D) (hL : Lone D e) (hR : RepM w 73 D) (hQ : ∀ w', RepM w' 73 (dShr D e) → offM 73 w w' → Q 1 w') : mShrB Q x1 w := by
  subst h1
  obtain ⟨n6, m10, hen, hne, hrow, hinj, hsur⟩ := id hW
  obtain ⟨r0, r1, r3, rt, r4, r5⟩ := id hR
  have hbn : dE D (2 * e + 1) < dN D := hen _ (by omega)
  unfold mShrB
  refine ⟨ix_of (n := 2 + 2 * e) (by omega) (by omega) (by decide), ?_⟩
  intro y6 e6
  rw [rd_of (n := 2 + 2 * e) (by omega) (by omega), r3 _ (by omega)] at e6
  refine ⟨ix_of (n := 2 + (2 * e + 1)) (by omega) (by omega) (by decide), ?_⟩
  intro y7 e7
  rw [rd_of (n := 2 + (2 * e + 1)) (by omega) (by omega), r3 _ (by omega)] at e7
  refine ⟨ix_of (n := 22 + e) (by omega) (by omega) (by decide), ?_⟩
  rw [rd_of (n := 22 + e) (by omega) (by omega), rt e he]
  cases hT : dT D e
  · refine ⟨fun z => absurd z (by decide), fun _ => ?_⟩
    refine X11_shrink_b67_ok (shk_of hW he hL) rfl e6 e7 hR (fun w' hw' off => hQ w' ?_ off)
    unfold dShr
    rw [hT]
    exact hw'
  · refine ⟨fun _ => ?_, fun z => absurd rfl z⟩
    refine X11_turnsOver_ok (dE D (2 * e + 1)) e7 hW hbn hR (fun w2 hw2 off2 => ?_)
    refine X11_shrink_b67_ok (shk_of (dFlip_WF hW) he (flip_lone hL)) rfl e6 e7 hw2 (fun w' hw' off => hQ w' ?_ (offM_trans off2 off))
    unfold dShr
    rw [hT]
    exact hw'
