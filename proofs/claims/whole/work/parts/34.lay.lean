/-! LAY, TWIST, FLIP, EXCHANGE -/
def dLay (D : Dw) (a x b y : Nat) (tw : Bool) : Dw := (dN D, dM D + 1, (fun i => if i = 2 * dM D then a else if i = 2 * dM D + 1 then b else dE D i), (fun i => if i = dM D then tw else dT D i), (fun p => if a = p ∨ b = p then dG D p + 1 else dG D p), (fun p i => if a = p then insR (dR D p) (if dG D a = 0 then 0 else x + 1) (dM D) i else if b = p then insR (dR D p) (if dG D b = 0 then 0 else y + 1) (dM D) i else dR D p i))
/-- two rows get a line -/
theorem rr_ins2 {w : Wd} {cD bD cR bR n p q a b x : Nat} {dg : Nat → Nat} {rw_ : Nat → Nat → Nat} (hA : apt cD bD cR bR) (h : RR w cD bD cR bR n dg rw_) (hn : n ≤ 6) (hd : ∀ p, p < n → dg p < 10) (hp : p < n) (hq : q < n) (hpq : p ≠ q) (ha : a ≤ dg p) (hb : b ≤ dg q) : RR (insW (insW w cD (bD + p) cR (bR + 10 * p) a (x : Int) (dg p)) cD (bD + q) cR (bR + 10 * q) b (x : Int) (dg q)) cD bD cR bR n (fun s => if p = s ∨ q = s then dg s + 1 else dg s) (fun s i => if p = s then insR (rw_ s) a x i else if q = s then insR (rw_ s) b x i else rw_ s i) := by
  have h1 := rr_ins (x := x) hA h hn (fun s hs => by have := hd s hs; omega) hp (hd p hp) ha
  have h2 := rr_ins (p := q) (a := b) (x := x) hA h1 hn (fun s hs => by have := hd s hs; show (if s = p then dg s + 1 else dg s) ≤ 10; split <;> omega) hq (by show (if q = p then dg q + 1 else dg q) < 10; rw [if_neg (Ne.symm hpq)]; exact hd q hq) (by show b ≤ if q = p then dg q + 1 else dg q; rw [if_neg (Ne.symm hpq)]; exact hb)
  rw [if_neg (Ne.symm hpq)] at h2
  refine ⟨fun s hs => ?_, fun s i hs hi => ?_⟩
  · rw [h2.1 s hs]
    dsimp only
    by_cases e1 : s = q
    · rw [if_pos e1, if_neg (by omega), if_pos (by omega)]
    · by_cases e2 : s = p
      · rw [if_neg e1, if_pos e2, if_pos (by omega)]
      · rw [if_neg e1, if_neg e2, if_neg (by omega)]
  · have hi' : i < if s = q then (if s = p then dg s + 1 else dg s) + 1 else (if s = p then dg s + 1 else dg s) := by
      dsimp only at hi
      by_cases e1 : s = q
      · rw [if_pos (by omega)] at hi
        rw [if_pos e1, if_neg (by omega)]
        exact hi
      · by_cases e2 : s = p
        · rw [if_pos (by omega)] at hi
          rw [if_neg e1, if_pos e2]
          exact hi
        · rw [if_neg (by omega)] at hi
          rw [if_neg e1, if_neg e2]
          exact hi
    rw [h2.2 s i hs hi']
    dsimp only
    by_cases e1 : s = q
    · subst e1
      rw [if_pos rfl, if_neg hpq, if_pos rfl]
      congr 1
      unfold insR
      simp only [if_neg (Ne.symm hpq)]
    · by_cases e2 : s = p
      · subst e2
        rw [if_neg e1, if_pos rfl, if_pos rfl]
      · rw [if_neg e1, if_neg e2, if_neg (Ne.symm e2), if_neg (Ne.symm e1)]
theorem dLay_WF {D : Dw} (hW : WF D) {a x b y : Nat} {tw : Bool} (hm : dM D < 10) (ha : a < dN D) (hb : b < dN D) (hab : a ≠ b) (hx : dG D a = 0 ∨ x < dG D a) (hy : dG D b = 0 ∨ y < dG D b) : WF (dLay D a x b y tw) := by
  obtain ⟨n6, m10, hen, hne, hrow, hinj, hsur⟩ := id hW
  have hE : ∀ e, e < dM D → dE (dLay D a x b y tw) (2 * e) = dE D (2 * e) ∧ dE (dLay D a x b y tw) (2 * e + 1) = dE D (2 * e + 1) := fun e he => by
    show (if 2 * e = 2 * dM D then a else if 2 * e = 2 * dM D + 1 then b else dE D (2 * e)) = _ ∧ (if 2 * e + 1 = 2 * dM D then a else if 2 * e + 1 = 2 * dM D + 1 then b else dE D (2 * e + 1)) = _
    rw [if_neg (by omega), if_neg (by omega), if_neg (by omega), if_neg (by omega)]
    exact ⟨rfl, rfl⟩
  have hE0 : dE (dLay D a x b y tw) (2 * dM D) = a := if_pos rfl
  have hE1 : dE (dLay D a x b y tw) (2 * dM D + 1) = b := by
    show (if 2 * dM D + 1 = 2 * dM D then a else if 2 * dM D + 1 = 2 * dM D + 1 then b else _) = b
    rw [if_neg (by omega), if_pos rfl]
  have hAt : ∀ e p, e < dM D → (atP (dLay D a x b y tw) e p ↔ atP D e p) := fun e p he => by unfold atP; rw [(hE e he).1, (hE e he).2]
  -- a row into which the new line came
  have ins : ∀ p c, p < dN D → c ≤ dG D p → (∀ i, i < dG D p + 1 → insR (dR D p) c (dM D) i = dM D ∨ (insR (dR D p) c (dM D) i < dM D ∧ atP D (insR (dR D p) c (dM D) i) p)) ∧ (∀ i j, i < dG D p + 1 → j < dG D p + 1 → insR (dR D p) c (dM D) i = insR (dR D p) c (dM D) j → i = j) ∧ (∀ e, e < dM D → atP D e p → ∃ i, i < dG D p + 1 ∧ insR (dR D p) c (dM D) i = e) ∧ insR (dR D p) c (dM D) c = dM D := by
    intro p c hp hc
    have hr : ∀ i, i < dG D p → dR D p i < dM D := fun i hi => (hrow p i hp hi).1
    refine ⟨fun i hi => ?_, fun i j hi hj h => ?_, fun e he hea => ?_, ?_⟩
    · unfold insR
      by_cases q : i < c
      · rw [if_pos q]; exact Or.inr (hrow p i hp (by omega))
      · by_cases s : i = c
        · rw [if_neg q, if_pos s]; exact Or.inl rfl
        · rw [if_neg q, if_neg s]; exact Or.inr (hrow p (i - 1) hp (by omega))
    · unfold insR at h
      have h1 := hr i
      have h2 := hr j
      have h3 := hr (i - 1)
      have h4 := hr (j - 1)
      have g1 := hinj p i j hp
      have g2 := hinj p i (j - 1) hp
      have g3 := hinj p (i - 1) j hp
      have g4 := hinj p (i - 1) (j - 1) hp
      by_cases q : i < c <;> by_cases s : j < c
      · rw [if_pos q, if_pos s] at h; exact g1 (by omega) (by omega) h
      · rw [if_pos q, if_neg s] at h
        by_cases z : j = c
        · rw [if_pos z] at h; omega
        · rw [if_neg z] at h; have := g2 (by omega) (by omega) h; omega
      · rw [if_neg q, if_pos s] at h
        by_cases z : i = c
        · rw [if_pos z] at h; omega
        · rw [if_neg z] at h; have := g3 (by omega) (by omega) h; omega
      · rw [if_neg q, if_neg s] at h
        by_cases z : i = c <;> by_cases z2 : j = c
        · omega
        · rw [if_pos z, if_neg z2] at h; omega
        · rw [if_neg z, if_pos z2] at h; omega
        · rw [if_neg z, if_neg z2] at h; have := g4 (by omega) (by omega) h; omega
    · obtain ⟨i, hi, hie⟩ := hsur p e hp he hea
      rcases Nat.lt_or_ge i c with q | q
      · exact ⟨i, by omega, by unfold insR; rw [if_pos q, hie]⟩
      · exact ⟨i + 1, by omega, by unfold insR; rw [if_neg (by omega), if_neg (by omega), Nat.add_sub_cancel, hie]⟩
    · unfold insR
      rw [if_neg (by omega), if_pos rfl]
  have rowA : ∀ p, p < dN D → (a = p ∨ b = p) → ∃ c, c ≤ dG D p ∧ dG (dLay D a x b y tw) p = dG D p + 1 ∧ ∀ i, dR (dLay D a x b y tw) p i = insR (dR D p) c (dM D) i := by
    intro p hp h
    by_cases q : a = p
    · subst q
      exact ⟨_, by split <;> omega, if_pos (Or.inl rfl), fun i => if_pos rfl⟩
    · have q2 : b = p := h.resolve_left q
      subst q2
      refine ⟨if dG D b = 0 then 0 else y + 1, by split <;> omega, if_pos (Or.inr rfl), fun i => ?_⟩
      show (if a = b then _ else if b = b then _ else _) = _
      rw [if_neg q, if_pos rfl]
  have rowB : ∀ p, ¬ (a = p ∨ b = p) → dG (dLay D a x b y tw) p = dG D p ∧ ∀ i, dR (dLay D a x b y tw) p i = dR D p i := by
    intro p h
    refine ⟨if_neg h, fun i => ?_⟩
    show (if a = p then _ else if b = p then _ else _) = _
    rw [if_neg (fun z => h (Or.inl z)), if_neg (fun z => h (Or.inr z))]
  refine ⟨n6, by show dM D + 1 ≤ 10; omega, fun i hi => ?_, fun e he => ?_, fun p i hp hi => ?_, fun p i j hp hi hj h => ?_, fun p e hp he hea => ?_⟩
  · have hi : i < 2 * (dM D + 1) := hi
    show (if i = 2 * dM D then a else if i = 2 * dM D + 1 then b else dE D i) < dN D
    split
    · exact ha
    · split
      · exact hb
      · exact hen i (by omega)
  · have he : e < dM D + 1 := he
    by_cases q : e = dM D
    · subst q
      rw [hE0, hE1]
      exact hab
    · rw [(hE e (by omega)).1, (hE e (by omega)).2]
      exact hne e (by omega)
  · have hp : p < dN D := hp
    by_cases q : a = p ∨ b = p
    · obtain ⟨c, hc, hg, hr⟩ := rowA p hp q
      rw [hg] at hi
      rw [hr]
      rcases (ins p c hp hc).1 i hi with z | z
      · rw [z]
        refine ⟨Nat.lt_succ_self _, ?_⟩
        unfold atP
        rw [hE0, hE1]
        exact q
      · exact ⟨Nat.lt_succ_of_lt z.1, (hAt _ _ z.1).mpr z.2⟩
    · obtain ⟨hg, hr⟩ := rowB p q
      rw [hg] at hi
      rw [hr]
      have := hrow p i hp hi
      exact ⟨Nat.lt_succ_of_lt this.1, (hAt _ _ this.1).mpr this.2⟩
  · have hp : p < dN D := hp
    by_cases q : a = p ∨ b = p
    · obtain ⟨c, hc, hg, hr⟩ := rowA p hp q
      rw [hg] at hi hj
      rw [hr, hr] at h
      exact (ins p c hp hc).2.1 i j hi hj h
    · obtain ⟨hg, hr⟩ := rowB p q
      rw [hg] at hi hj
      rw [hr, hr] at h
      exact hinj p i j hp hi hj h
  · have hp : p < dN D := hp
    have he : e < dM D + 1 := he
    by_cases q : a = p ∨ b = p
    · obtain ⟨c, hc, hg, hr⟩ := rowA p hp q
      by_cases z : e = dM D
      · exact ⟨c, by rw [hg]; omega, by rw [hr, (ins p c hp hc).2.2.2, z]⟩
      · obtain ⟨i, hi, hie⟩ := (ins p c hp hc).2.2.1 e (by omega) ((hAt e p (by omega)).mp hea)
        exact ⟨i, by rw [hg]; exact hi, by rw [hr, hie]⟩
    · obtain ⟨hg, hr⟩ := rowB p q
      have z : e ≠ dM D := fun z => by
        subst z
        unfold atP at hea
        rw [hE0, hE1] at hea
        exact q hea
      obtain ⟨i, hi, hie⟩ := hsur p e hp (by omega) ((hAt e p (by omega)).mp hea)
      exact ⟨i, by rw [hg]; exact hi, by rw [hr, hie]⟩
