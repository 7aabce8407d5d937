/-! THE MODEL TRACES FACES -/
/-- a state as the model numbers it -/
def ms (D : Dw) (s : Nat) : Nat := if stB D s then stA D s + 20 else stA D s
theorem ms_ok {D : Dw} (hm : dM D ≤ 10) {s : Nat} (hs : s < 4 * dM D) : ms D s < 40 ∧ ms D s % 20 = stA D s ∧ (20 ≤ ms D s ↔ stB D s = true) ∧ stA D s < 20 := by
  have := stA_lt hs
  unfold ms
  cases stB D s
  · refine ⟨by simp; omega, by simp; omega, by simp; omega, by omega⟩
  · refine ⟨by simp; omega, by simp; omega, by simp, by omega⟩
theorem ms_inj {D : Dw} (hm : dM D ≤ 10) {s t : Nat} (hs : s < 4 * dM D) (ht : t < 4 * dM D) (h : ms D s = ms D t) : s = t := by
  obtain ⟨a1, a2, a3, a4⟩ := ms_ok hm hs
  obtain ⟨b1, b2, b3, b4⟩ := ms_ok hm ht
  have e1 : stA D s = stA D t := by omega
  have e2 : stB D s = stB D t := by
    have : (stB D s = true ↔ stB D t = true) := by rw [← a3, ← b3, h]
    cases h1 : stB D s <;> cases h2 : stB D t <;> simp_all
  rw [← enc_st (D := D) s, ← enc_st (D := D) t, e1, e2]
theorem ms_enc {D : Dw} {a : Nat} {b : Bool} (h : a < 2 * dM D) : ms D (enc D a b) = if b then a + 20 else a := by
  unfold ms
  rw [stA_enc h, stB_enc h]
theorem RepM.tw {w : Wd} {r : Nat} {D : Dw} (h : RepM w r D) {e : Nat} (he : e < dM D) : w r (22 + e) = if dT D e then 1 else 0 := h.2.2.2.1 e he
section
variable {r : Nat} {Q : Int → Wd → Prop} {w : Wd} {D : Dw} {x : Int}
theorem X11_mirrorOf_ok (hW : WF D) (hR : RepM w r D) (s : Nat) (hx : x = (ms D s : Int)) (hs : s < 4 * dM D) (hQ : Q (ms D (mi D s) : Int) w) : X11_mirrorOf r x w Q := by
  subst hx
  have hm := hW.2.1
  obtain ⟨a1, a2, a3, a4⟩ := ms_ok hm hs
  have hA := stA_lt hs
  have hox := ox_lt hA
  have hmi : ms D (mi D s) = if !cbk D s then ox (stA D s) + 20 else ox (stA D s) := ms_enc hox
  rw [hmi] at hQ
  unfold X11_mirrorOf
  intro y1 e1
  rw [show (20 : Int) = ((20 : Nat) : Int) from rfl, irm_nat (by omega) (by decide) (by decide), a2] at e1
  subst e1
  have ht := hR.tw (e := stA D s / 2) (by omega)
  have key : ∀ b : Bool, b = stB D s → X11_mirrorOf_b16 r Q (stA D s : Int) (if b then 1 else 0) w := by
    intro b hb
    unfold X11_mirrorOf_b16
    rw [show (2 : Int) = ((2 : Nat) : Int) from rfl, idv_nat (by omega) (by decide) (by decide), rd_of (n := 22 + stA D s / 2) (by omega) (by omega), ht]
    refine ⟨ix_of (n := 22 + stA D s / 2) (by omega) (by omega) (by decide), ?_⟩
    unfold X11_mirrorOf_b35 X11_mirrorOf_b43
    rw [ixo1 (by omega)]
    have hc : cbk D s = (b ^^ dT D (stA D s / 2)) := by unfold cbk; rw [hb]
    rw [hc] at hQ
    have z1 : wr 0 = 0 := by decide
    have z2 : wr 1 = 1 := by decide
    have q1 : wr ((ox (stA D s) : Int) + 20) = ((ox (stA D s) + 20 : Nat) : Int) := by rw [wr_id (by omega) (by omega)]; omega
    have q2 : wr ((ox (stA D s) : Int) + 0) = ((ox (stA D s) : Nat) : Int) := by rw [wr_id (by omega) (by omega)]; omega
    have q3 : wr (ox (stA D s) : Int) = ((ox (stA D s) : Nat) : Int) := wr_nat (by omega)
    cases b <;> cases hd : dT D (stA D s / 2) <;> simp [z1, z2, q1, q2, q3, hd] at hQ ⊢ <;> exact hQ
  rw [wr_nat (n := ms D s) (by omega), show wr 20 = 20 by decide]
  refine ⟨fun z => ?_, fun z => ?_⟩
  · refine key false ?_
    cases hb : stB D s
    · rfl
    · have := a3.mpr hb; omega
  · refine key true ?_
    exact (a3.mp (by omega)).symm
theorem X11_nextOf_ok (hW : WF D) (hR : RepM w r D) (s : Nat) (hx : x = (ms D s : Int)) (hs : s < 4 * dM D) (hQ : Q (ms D (nx D s) : Int) w) : X11_nextOf r x w Q := by
  subst hx
  have hm := hW.2.1
  have n6 := hW.1
  obtain ⟨a1, a2, a3, a4⟩ := ms_ok hm hs
  have hA := stA_lt hs
  have hox := ox_lt hA
  obtain ⟨p, hpe⟩ : ∃ p, p = dE D (ox (stA D s)) := ⟨_, rfl⟩
  have hps := psA_ok hW hox
  rw [← hpe] at hps
  have hdeg := hW.deg (p := p) hps.1
  obtain ⟨o, hoe⟩ : ∃ o, o = psA D (ox (stA D s)) := ⟨_, rfl⟩
  rw [← hoe] at hps
  have hpos : pos (dR D p) (stA D s / 2) (dG D p) = o := by rw [hoe]; unfold psA; rw [ox_half, ← hpe]
  rw [ox_half] at hps
  have hfst := pos_ok (dG D p) (dR D p) (stA D s / 2) o hps.2.1 hps.2.2
  rw [hpos] at hfst
  have hnx : ms D (nx D s) = if cbk D s then armA D p (rnd o (dG D p - 1) (dG D p)) + 20 else armA D p (rnd o 1 (dG D p)) := by
    have h1 := (nx_arm hW hs).1
    have : ms D (nx D s) = if cbk D s then (if cbk D s then ah D (ox (stA D s)) else bh D (ox (stA D s))) + 20 else (if cbk D s then ah D (ox (stA D s)) else bh D (ox (stA D s))) := ms_enc h1
    rw [this]
    unfold ah bh rot
    rw [← hpe, ← hoe]
    cases cbk D s <;> rfl
  rw [hnx] at hQ
  unfold X11_nextOf
  intro y1 e1
  rw [show (20 : Int) = ((20 : Nat) : Int) from rfl, irm_nat (by omega) (by decide) (by decide), a2] at e1
  subst e1
  intro y2 e2
  rw [show (2 : Int) = ((2 : Nat) : Int) from rfl, idv_nat (by omega) (by decide) (by decide)] at e2
  subst e2
  have ht := hR.tw (e := stA D s / 2) (by omega)
  have hEp : w r (2 + ox (stA D s)) = (p : Int) := by rw [hR.2.2.1 _ hox, hpe]
  have hGp : w r (32 + p) = (dG D p : Int) := hR.2.2.2.2.1 p hps.1
  have hRow : ∀ j, j < dG D p → w r (38 + 10 * p + j) = (dR D p j : Int) ∧ dR D p j < 100 := fun j hj => ⟨hR.2.2.2.2.2 p j hps.1 hj, by have := (hW.2.2.2.2.1 p j hps.1 hj).1; omega⟩
  have z1 : wr 0 = 0 := by decide
  have z2 : wr 1 = 1 := by decide
  have last : ∀ (c : Bool) (t : Nat), t ≤ dG D p → Q ((if c then armA D p (rnd o t (dG D p)) + 20 else armA D p (rnd o t (dG D p)) : Nat) : Int) w → X11_nextOf_b83 r Q (if c then 1 else 0) (p : Int) (dG D p : Int) (t : Int) (o : Int) w := by
    intro c t htd hq
    unfold X11_nextOf_b83
    have hrl := rnd_lt hps.2.1 htd
    have hrow := hRow _ hrl
    have harm := armA_ok hW hps.1 hrl
    refine ⟨by rw [wr_nat (by omega)]; omega, ?_⟩
    intro y7 e7
    rw [show (o : Int) + (t : Int) = ((o + t : Nat) : Int) by omega, irm_nat (by omega) (by omega) (by omega), rnd_mod hps.2.1 htd] at e7
    subst e7
    refine ⟨ix_of (n := 38 + 10 * p + rnd o t (dG D p)) (by omega) (by omega) (by decide), ?_⟩
    intro y8 e8
    rw [rd_of (n := 38 + 10 * p + rnd o t (dG D p)) (by omega) (by omega), hrow.1] at e8
    subst e8
    obtain ⟨f, hfe⟩ : ∃ f, f = dR D p (rnd o t (dG D p)) := ⟨_, rfl⟩
    have hfM : f < dM D := by rw [hfe]; exact (hW.2.2.2.2.1 p _ hps.1 hrl).1
    have hEf : w r (2 + 2 * f) = (dE D (2 * f) : Int) := hR.2.2.1 _ (by omega)
    have hef := hW.2.2.1 (2 * f) (by omega)
    have harmE : armA D p (rnd o t (dG D p)) = 2 * f + (if dE D (2 * f) = p then 0 else 1) := by unfold armA; rw [← hfe]
    rw [harmE] at hq
    rw [← hfe, rd_of (n := 2 + 2 * f) (by omega) (by omega), hEf, wr_nat (n := dE D (2 * f)) (by omega), wr_nat (n := p) (by omega)]
    refine ⟨ix_of (n := 2 + 2 * f) (by omega) (by omega) (by decide), fun z => ?_, fun z => ?_⟩
    · unfold X11_nextOf_b126
      rw [if_pos (show dE D (2 * f) = p by omega)] at hq
      cases c
      · refine ⟨fun _ => ?_, fun y => absurd z1 y⟩
        rw [wr_id (by omega) (by omega)]
        have : (2 * (f : Int) + 0 + 0) = ((2 * f + 0 : Nat) : Int) := by omega
        rw [this]; exact hq
      · refine ⟨fun y => absurd y (by decide), fun _ => ?_⟩
        rw [wr_id (by omega) (by omega)]
        have : (2 * (f : Int) + 0 + 20) = ((2 * f + 0 + 20 : Nat) : Int) := by omega
        rw [this]; exact hq
    · unfold X11_nextOf_b126
      rw [if_neg (show ¬ dE D (2 * f) = p by omega)] at hq
      cases c
      · refine ⟨fun _ => ?_, fun y => absurd z1 y⟩
        rw [wr_id (by omega) (by omega)]
        have : (2 * (f : Int) + 1 + 0) = ((2 * f + 1 : Nat) : Int) := by omega
        rw [this]; exact hq
      · refine ⟨fun y => absurd y (by decide), fun _ => ?_⟩
        rw [wr_id (by omega) (by omega)]
        have : (2 * (f : Int) + 1 + 20) = ((2 * f + 1 + 20 : Nat) : Int) := by omega
        rw [this]; exact hq
  have mid : X11_nextOf_b43 r Q (stA D s : Int) ((stA D s / 2 : Nat) : Int) (if cbk D s then 1 else 0) w := by
    unfold X11_nextOf_b43
    rw [ixo1 (by omega)]
    refine ⟨ix_of (n := 2 + ox (stA D s)) (by omega) (by omega) (by decide), ?_⟩
    intro y3 e3
    rw [rd_of (n := 2 + ox (stA D s)) (by omega) (by omega), hEp] at e3
    subst e3
    refine ⟨ix_of (n := 32 + p) (by omega) (by omega) (by decide), ?_⟩
    intro y4 e4
    rw [rd_of (n := 32 + p) (by omega) (by omega), hGp] at e4
    subst e4
    refine X11_placeIn_ok p (dG D p) (dR D p) o (stA D s / 2) rfl rfl (by omega) (by omega) hRow (by omega) hps.2.1 hps.2.2 hfst.2.2 ?_
    have h1 := last true (dG D p - 1) (by omega)
    have h0 := last false 1 (by omega)
    rw [show ((dG D p - 1 : Nat) : Int) = (dG D p : Int) - 1 by omega] at h1
    cases hc : cbk D s
    · rw [hc] at hQ
      exact ⟨fun _ => h0 hQ, fun y => absurd z1 y⟩
    · rw [hc] at hQ
      exact ⟨fun y => absurd y (by decide), fun _ => h1 hQ⟩
  have key : ∀ b : Bool, b = stB D s → X11_nextOf_b20 r Q (stA D s : Int) ((stA D s / 2 : Nat) : Int) (if b then 1 else 0) w := by
    intro b hb
    have hc : cbk D s = (b ^^ dT D (stA D s / 2)) := by unfold cbk; rw [hb]
    rw [hc] at mid
    unfold X11_nextOf_b20 X11_nextOf_b35
    rw [rd_of (n := 22 + stA D s / 2) (by omega) (by omega), ht]
    refine ⟨ix_of (n := 22 + stA D s / 2) (by omega) (by omega) (by decide), ?_⟩
    cases b <;> cases hd : dT D (stA D s / 2) <;> simp [z1, z2, hd] at mid ⊢ <;> exact mid
  rw [wr_nat (n := ms D s) (by omega), show wr 20 = 20 by decide]
  refine ⟨fun z => ?_, fun z => ?_⟩
  · refine key false ?_
    cases hb : stB D s
    · rfl
    · have := a3.mpr hb; omega
  · refine key true ?_
    exact (a3.mp (by omega)).symm
end
