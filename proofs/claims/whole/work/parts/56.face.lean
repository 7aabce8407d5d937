/-! THE FACES, numbered; the walks, told one behind the other -/
theorem lof_ex {D : Dw} (hW : WF D) (s : Nat) (hs : s < 4 * dM D) : ∃ l, l < 4 * dM D ∧ ldr (Fc D) l ∧ Fc D l s := by
  obtain ⟨l, h1, h2, h3⟩ := (face_DH hW).eq.ld (s + 1) s (by omega) hs
  exact ⟨l, by omega, h2, h3⟩
/-- the face of a state -/
noncomputable def fo (D : Dw) (s : Nat) : Nat := @dite Nat (∃ l, l < 4 * dM D ∧ ldr (Fc D) l ∧ Fc D l s) (Classical.propDecidable _) (fun h => ncl (Fc D) h.choose) (fun _ => 0)
theorem fo_ld {D : Dw} (hW : WF D) {l s : Nat} (hl : l < 4 * dM D) (hs : s < 4 * dM D) (hd : ldr (Fc D) l) (h : Fc D l s) : fo D s = ncl (Fc D) l := by
  have he : EqR (Fc D) (4 * dM D) := (face_DH hW).eq
  have hx : ∃ l, l < 4 * dM D ∧ ldr (Fc D) l ∧ Fc D l s := ⟨l, hl, hd, h⟩
  unfold fo
  rw [dif_pos hx]
  obtain ⟨a, b, c⟩ := hx.choose_spec
  rw [he.un a hl b hd (he.2.2 _ s l a hs hl c (he.2.1 l s hl hs h))]
theorem fo_lt {D : Dw} (hW : WF D) {s : Nat} (hs : s < 4 * dM D) : fo D s < nF D (4 * dM D) := by
  obtain ⟨l, h1, h2, h3⟩ := lof_ex hW s hs
  rw [fo_ld hW h1 hs h2 h3]
  exact ncl_lt h1 h2
theorem fo_eq {D : Dw} (hW : WF D) {s t : Nat} (hs : s < 4 * dM D) (ht : t < 4 * dM D) : fo D s = fo D t ↔ Fc D s t := by
  have he : EqR (Fc D) (4 * dM D) := (face_DH hW).eq
  obtain ⟨l, h1, h2, h3⟩ := lof_ex hW s hs
  obtain ⟨k, g1, g2, g3⟩ := lof_ex hW t ht
  rw [fo_ld hW h1 hs h2 h3, fo_ld hW g1 ht g2 g3]
  constructor
  · intro h
    have := ncl_eq_inj h2 g2 h
    subst this
    exact he.2.2 s l t hs h1 ht (he.2.1 l s h1 hs h3) g3
  · intro h
    have := he.un h1 g1 h2 g2 (he.2.2 l t k h1 ht g1 (he.2.2 l s t h1 hs ht h3 h) (he.2.1 k t g1 ht g3))
    rw [this]
theorem fo_nx {D : Dw} (hW : WF D) {s : Nat} (hs : s < 4 * dM D) : fo D (nx D s) = fo D s := by
  have h := face_DH hW
  exact ((fo_eq hW hs (h.1 s hs)).mpr (Or.inl ⟨1, rfl⟩)).symm
theorem fo_mi {D : Dw} (hW : WF D) {s : Nat} (hs : s < 4 * dM D) : fo D (mi D s) = fo D s := by
  have h := face_DH hW
  exact ((fo_eq hW hs (h.2.1 s hs)).mpr (Or.inr ⟨0, rfl⟩)).symm
theorem DH.vis2 {N : Nat} {g x : Nat → Nat} (h : DH N g x) : ∀ k, k ≤ N → ∃ v : Nat → Nat, (∀ l, l < k → ldr (Cl g x) l → ∀ i, i < per g N l → v (tl g N (Cl g x) l + i) = itr g i l) ∧ (∀ u, u < tl g N (Cl g x) k → ∃ l i, l < k ∧ ldr (Cl g x) l ∧ i < per g N l ∧ u = tl g N (Cl g x) l + i)
  | 0, _ => ⟨fun _ => 0, fun l hl => absurd hl (Nat.not_lt_zero l), fun u hu => absurd hu (Nat.not_lt_zero u)⟩
  | k + 1, hk => by
    obtain ⟨v, h1, h2⟩ := DH.vis2 h k (by omega)
    by_cases z : ldr (Cl g x) k
    · refine ⟨fun u => if u < tl g N (Cl g x) k then v u else itr g (u - tl g N (Cl g x) k) k, fun l hl hd i hi => ?_, fun u hu => ?_⟩
      · by_cases q : l = k
        · subst q
          simp only [if_neg (show ¬ tl g N (Cl g x) l + i < tl g N (Cl g x) l by omega), Nat.add_sub_cancel_left]
        · have : tl g N (Cl g x) l + i < tl g N (Cl g x) k := by
            have := tl_mono (g := g) (N := N) (R := Cl g x) k (l + 1) (by omega)
            rw [tl_ld hd] at this
            omega
          simp only [if_pos this]
          exact h1 l (by omega) hd i hi
      · rw [tl_ld z] at hu
        rcases Nat.lt_or_ge u (tl g N (Cl g x) k) with q | q
        · obtain ⟨l, i, a, b, c, d⟩ := h2 u q
          exact ⟨l, i, by omega, b, c, d⟩
        · exact ⟨k, u - tl g N (Cl g x) k, by omega, z, by omega, by omega⟩
    · refine ⟨v, fun l hl hd i hi => h1 l ?_ hd i hi, fun u hu => ?_⟩
      · rcases Nat.lt_or_ge l k with q | q
        · exact q
        · exact absurd (by rw [show k = l by omega]; exact hd) z
      · rw [tl_no z] at hu
        obtain ⟨l, i, a, b, c, d⟩ := h2 u hu
        exact ⟨l, i, by omega, b, c, d⟩
/-- as many steps as there are ahead of the face that begins at k; the state at a step -/
noncomputable def tF (D : Dw) (k : Nat) : Nat := tl (nx D) (4 * dM D) (Fc D) k
abbrev pF (D : Dw) (k : Nat) : Nat := per (nx D) (4 * dM D) k
noncomputable def vs (D : Dw) : Nat → Nat := @dite (Nat → Nat) (WF D) (Classical.propDecidable _) (fun h => ((face_DH h).vis2 (4 * dM D) (Nat.le_refl _)).choose) (fun _ _ => 0)
theorem vs_ok {D : Dw} (hW : WF D) : (∀ l, l < 4 * dM D → ldr (Fc D) l → ∀ i, i < pF D l → vs D (tF D l + i) = itr (nx D) i l) ∧ (∀ u, u < tF D (4 * dM D) → ∃ l i, l < 4 * dM D ∧ ldr (Fc D) l ∧ i < pF D l ∧ u = tF D l + i) := by
  unfold vs
  rw [dif_pos hW]
  exact ((face_DH hW).vis2 (4 * dM D) (Nat.le_refl _)).choose_spec
theorem tF_lt {D : Dw} {l k i : Nat} (hl : ldr (Fc D) l) (hk : l < k) (hi : i < pF D l) : tF D l + i < tF D k := by
  have := tl_mono (g := nx D) (N := 4 * dM D) (R := Fc D) k (l + 1) hk
  rw [tl_ld hl] at this
  unfold tF
  unfold pF at hi
  omega
/-- told once, and not from the other side -/
theorem vs_uq {D : Dw} (hW : WF D) {u v : Nat} (hu : u < tF D (4 * dM D)) (hv : v < tF D (4 * dM D)) : vs D u < 4 * dM D ∧ (vs D u = vs D v → u = v) ∧ vs D u ≠ mi D (vs D v) := by
  have hD := face_DH hW
  have hp := hD.pm
  have he : EqR (Fc D) (4 * dM D) := hD.eq
  obtain ⟨l, i, a1, a2, a3, a4⟩ := (vs_ok hW).2 u hu
  obtain ⟨k, j, b1, b2, b3, b4⟩ := (vs_ok hW).2 v hv
  have e1 : vs D u = itr (nx D) i l := by rw [a4]; exact (vs_ok hW).1 l a1 a2 i a3
  have e2 : vs D v = itr (nx D) j k := by rw [b4]; exact (vs_ok hW).1 k b1 b2 j b3
  have n1 := hp.lt i l a1
  have n2 := hp.lt j k b1
  have f1 : Fc D l (itr (nx D) i l) := Or.inl ⟨i, rfl⟩
  have f2 : Fc D k (itr (nx D) j k) := Or.inl ⟨j, rfl⟩
  rw [e1, e2]
  refine ⟨n1, fun e => ?_, fun e => ?_⟩
  · have : l = k := he.un a1 b1 a2 b2 (he.2.2 l _ k a1 n1 b1 f1 (by rw [e]; exact he.2.1 k _ b1 n2 f2))
    subst this
    have := per_dis hp a1 a3 b3 e
    omega
  · have hm : Fc D (itr (nx D) j k) (mi D (itr (nx D) j k)) := Or.inr ⟨0, rfl⟩
    have hml := hD.2.1 _ n2
    have : l = k := he.un a1 b1 a2 b2 (he.2.2 l _ k a1 n1 b1 f1 (by rw [e]; exact he.2.1 k _ b1 hml (he.2.2 k _ _ b1 n2 hml f2 hm)))
    subst this
    exact hD.ne a1 e
theorem vs_sur {D : Dw} (hW : WF D) {s : Nat} (hs : s < 4 * dM D) : ∃ u, u < tF D (4 * dM D) ∧ (vs D u = s ∨ vs D u = mi D s) := by
  have hD := face_DH hW
  obtain ⟨l, h1, h2, h3⟩ := lof_ex hW s hs
  obtain ⟨i, hi, h⟩ := (hD.cl h1).mp h3
  refine ⟨tF D l + i, tF_lt h2 h1 hi, ?_⟩
  rw [(vs_ok hW).1 l h1 h2 i hi]
  rcases h with h | h
  · exact Or.inl h
  · right
    rw [← h, hD.2.2.1 _ (hD.pm.lt i l h1)]
/-- the line told at a step -/
noncomputable def vL (D : Dw) (u : Nat) : Nat := stA D (vs D u) / 2
theorem fo_vs {D : Dw} (hW : WF D) {l i : Nat} (hl : l < 4 * dM D) (hd : ldr (Fc D) l) (hi : i < pF D l) : fo D (vs D (tF D l + i)) = ncl (Fc D) l := by
  rw [(vs_ok hW).1 l hl hd i hi]
  exact fo_ld hW hl ((face_DH hW).pm.lt i l hl) hd (Or.inl ⟨i, rfl⟩)
theorem fo_mono {D : Dw} (hW : WF D) {u v : Nat} (huv : u ≤ v) (hv : v < tF D (4 * dM D)) : fo D (vs D u) ≤ fo D (vs D v) := by
  obtain ⟨l, i, a1, a2, a3, a4⟩ := (vs_ok hW).2 u (by omega)
  obtain ⟨k, j, b1, b2, b3, b4⟩ := (vs_ok hW).2 v hv
  rw [a4, b4, fo_vs hW a1 a2 a3, fo_vs hW b1 b2 b3]
  rcases Nat.lt_or_ge k l with q | q
  · have := tF_lt b2 q b3
    omega
  · exact ncl_mono k l q
/-- a line has two sides: what one can stand on of it -/
theorem side_of {D : Dw} {s : Nat} (hs : s < 4 * dM D) : s = 2 * (stA D s / 2) ∨ s = mi D (2 * (stA D s / 2)) ∨ s = 2 * dM D + 2 * (stA D s / 2) ∨ s = mi D (2 * dM D + 2 * (stA D s / 2)) := by
  obtain ⟨e, he⟩ : ∃ e, e = stA D s / 2 := ⟨_, rfl⟩
  have hA := stA_lt hs
  have hem : e < dM D := by omega
  rw [← he]
  have a0 : stA D (2 * e) = 2 * e := by unfold stA; rw [if_pos (by omega)]
  have b0 : stB D (2 * e) = false := by unfold stB; exact decide_eq_false (by omega)
  have a1 : stA D (2 * dM D + 2 * e) = 2 * e := by unfold stA; rw [if_neg (by omega)]; omega
  have b1 : stB D (2 * dM D + 2 * e) = true := by unfold stB; exact decide_eq_true (by omega)
  have o : ox (2 * e) = 2 * e + 1 := by unfold ox; rw [if_pos (by omega)]
  have h2 : 2 * e / 2 = e := by omega
  have m0 : mi D (2 * e) = enc D (2 * e + 1) (!dT D e) := by unfold mi cbk; rw [a0, b0, o, h2]; simp
  have m1 : mi D (2 * dM D + 2 * e) = enc D (2 * e + 1) (dT D e) := by unfold mi cbk; rw [a1, b1, o, h2]; simp
  rw [m0, m1]
  have hs2 := enc_st (D := D) s
  have hc : stA D s = 2 * e ∨ stA D s = 2 * e + 1 := by omega
  rcases hc with q | q
  · rw [q] at hs2
    cases hb : stB D s
    · rw [hb] at hs2; left; rw [← hs2]; rfl
    · rw [hb] at hs2; right; right; left; rw [← hs2]; rfl
  · rw [q] at hs2
    by_cases hb : stB D s = dT D e
    · right; right; right; rw [← hs2, hb]
    · right; left
      rw [← hs2]
      congr 1
      revert hb
      cases stB D s <;> cases dT D e <;> simp
/-- no line is told three times -/
theorem vL_two {D : Dw} (hW : WF D) {u v t : Nat} (hu : u < tF D (4 * dM D)) (hv : v < tF D (4 * dM D)) (ht : t < tF D (4 * dM D)) (h1 : vL D u = vL D v) (h2 : vL D u = vL D t) (huv : u ≠ v) (hut : u ≠ t) : v = t := by
  have hD := face_DH hW
  have key : ∀ a b, a < tF D (4 * dM D) → b < tF D (4 * dM D) → ∀ s, s < 4 * dM D → (vs D a = s ∨ vs D a = mi D s) → (vs D b = s ∨ vs D b = mi D s) → a = b := by
    intro a b ha hb s hs p q
    have x1 := vs_uq hW ha hb
    have x2 := vs_uq hW hb ha
    rcases p with p | p <;> rcases q with q | q
    · exact x1.2.1 (by rw [p, q])
    · exact absurd (by rw [q, p]) x2.2.2
    · exact absurd (by rw [p, q]) x1.2.2
    · exact x1.2.1 (by rw [p, q])
  have pr : ∀ a, a < tF D (4 * dM D) → (vs D a = 2 * vL D a ∨ vs D a = mi D (2 * vL D a)) ∨ (vs D a = 2 * dM D + 2 * vL D a ∨ vs D a = mi D (2 * dM D + 2 * vL D a)) := by
    intro a ha
    rcases side_of (vs_uq hW ha ha).1 with q | q | q | q
    · exact Or.inl (Or.inl q)
    · exact Or.inl (Or.inr q)
    · exact Or.inr (Or.inl q)
    · exact Or.inr (Or.inr q)
  have hlt : vL D u < dM D := by
    have := stA_lt (vs_uq hW hu hu).1
    unfold vL; omega
  have pu := pr u hu
  have pv := pr v hv
  have pt := pr t ht
  rw [← h1] at pv
  rw [← h2] at pt
  have s0 : 2 * vL D u < 4 * dM D := by omega
  have s1 : 2 * dM D + 2 * vL D u < 4 * dM D := by omega
  rcases pu with pu | pu
  · have pv' := pv.resolve_left (fun y => huv (key u v hu hv _ s0 pu y))
    have pt' := pt.resolve_left (fun y => hut (key u t hu ht _ s0 pu y))
    exact key v t hv ht _ s1 pv' pt'
  · have pv' := pv.resolve_right (fun y => huv (key u v hu hv _ s1 pu y))
    have pt' := pt.resolve_right (fun y => hut (key u t hu ht _ s1 pu y))
    exact key v t hv ht _ s0 pv' pt'
/-- a line's two steps -/
theorem vL_both {D : Dw} (hW : WF D) {e : Nat} (he : e < dM D) : ∃ u v, u < v ∧ v < tF D (4 * dM D) ∧ vL D u = e ∧ vL D v = e ∧ ((fo D (vs D u) = fo D (2 * e) ∧ fo D (vs D v) = fo D (2 * dM D + 2 * e)) ∨ (fo D (vs D v) = fo D (2 * e) ∧ fo D (vs D u) = fo D (2 * dM D + 2 * e))) := by
  have hD := face_DH hW
  have s0 : 2 * e < 4 * dM D := by omega
  have s1 : 2 * dM D + 2 * e < 4 * dM D := by omega
  obtain ⟨a, ha, pa⟩ := vs_sur hW s0
  obtain ⟨b, hb, pb⟩ := vs_sur hW s1
  have a0 : stA D (2 * e) = 2 * e := by unfold stA; rw [if_pos (by omega)]
  have a1 : stA D (2 * dM D + 2 * e) = 2 * e := by unfold stA; rw [if_neg (by omega)]; omega
  have am : ∀ s, s < 4 * dM D → stA D (mi D s) / 2 = stA D s / 2 := fun s hs => by
    unfold mi
    rw [stA_enc (ox_lt (stA_lt hs)), ox_half]
  have la : vL D a = e := by
    unfold vL
    rcases pa with q | q
    · rw [q, a0]; omega
    · rw [q, am _ s0, a0]; omega
  have lb : vL D b = e := by
    unfold vL
    rcases pb with q | q
    · rw [q, a1]; omega
    · rw [q, am _ s1, a1]; omega
  have fa : fo D (vs D a) = fo D (2 * e) := by
    rcases pa with q | q
    · rw [q]
    · rw [q, fo_mi hW s0]
  have fb : fo D (vs D b) = fo D (2 * dM D + 2 * e) := by
    rcases pb with q | q
    · rw [q]
    · rw [q, fo_mi hW s1]
  have ne1 : mi D (2 * e) ≠ 2 * dM D + 2 * e := fun y => by
    have h1 : stA D (mi D (2 * e)) = ox (2 * e) := by unfold mi; rw [stA_enc (ox_lt (stA_lt s0)), a0]
    rw [y, a1] at h1
    exact ox_ne _ h1.symm
  have hab : a ≠ b := fun y => by
    subst y
    rcases pa with q | q <;> rcases pb with r | r
    · rw [q] at r; omega
    · rw [q] at r
      have := congrArg (mi D) r
      rw [hD.2.2.1 _ s1] at this
      exact ne1 this
    · rw [q] at r; exact ne1 r
    · rw [q] at r
      have := congrArg (mi D) r
      rw [hD.2.2.1 _ s0, hD.2.2.1 _ s1] at this
      omega
  rcases Nat.lt_or_ge a b with q | q
  · exact ⟨a, b, q, hb, la, lb, Or.inl ⟨fa, fb⟩⟩
  · exact ⟨b, a, by omega, ha, lb, la, Or.inr ⟨fa, fb⟩⟩
