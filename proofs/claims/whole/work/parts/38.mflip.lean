theorem X11_turnsOver_ok {r : Nat} {Q : Wd → Prop} {w : Wd} {D : Dw} {x1 : Int} (p : Nat) (h1 : x1 = (p : Int)) (hW : WF D) (hp : p < dN D) (hR : RepM w r D) (hQ : ∀ w', RepM w' r (dFlip D p) → offM r w w' → Q w') : X11_turnsOver r x1 w Q := by
  subst h1
  obtain ⟨n6, m10, hen, hne, hrow, hinj, hsur⟩ := id hW
  obtain ⟨r0, r1, r3, rt, r4, r5⟩ := hR
  have hdp := hW.deg hp
  obtain ⟨b0, hb0⟩ : ∃ b0, b0 = 38 + 10 * p := ⟨_, rfl⟩
  obtain ⟨d, hd⟩ : ∃ d, d = dG D p := ⟨_, rfl⟩
  rw [← hd] at hdp
  -- the second loop: the twists
  have key2 : ∀ (m j : Nat) (v : Wd), j ≤ d → d - j < m → (∀ c b, ¬ (c = r ∧ 22 ≤ b ∧ b < 32) → v c b = revW w r b0 d c b) → (∀ e, e < dM D → v r (22 + e) = if ((∃ i, i < j ∧ dR D p (d - 1 - i) = e) ∧ dT D e = false) ∨ (¬ (∃ i, i < j ∧ dR D p (d - 1 - i) = e) ∧ dT D e = true) then 1 else 0) → X11_turnsOver_l74 r Q (X11_turnsOver_b110 r Q) m (b0 : Int) (d : Int) (j : Int) v := by
    intro m
    induction m with
    | zero => intro j v g1 g2; omega
    | succ m ih =>
      intro j v g1 g2 hoff ht
      unfold X11_turnsOver_l74
      rw [wr_nat (n := d) (by omega), wr_nat (n := j) (by omega)]
      refine ⟨fun q => ?_, fun q => ?_⟩
      · have hj : j = d := by omega
        unfold X11_turnsOver_b110
        refine hQ _ ⟨?_, ?_, ?_, ?_, ?_, ?_⟩ ?_
        · rw [hoff _ _ (by omega)]; unfold revW; rw [if_neg (by omega)]; exact r0
        · rw [hoff _ _ (by omega)]; unfold revW; rw [if_neg (by omega)]; exact r1
        · intro i hi
          have hi : i < 2 * dM D := hi
          rw [hoff _ _ (by omega)]; unfold revW; rw [if_neg (by omega)]; exact r3 i hi
        · intro e he
          have he : e < dM D := he
          rw [ht e he]
          show _ = if (if dE D (2 * e) = p ∨ dE D (2 * e + 1) = p then !(dT D e) else dT D e) then (1 : Int) else 0
          by_cases ha : dE D (2 * e) = p ∨ dE D (2 * e + 1) = p
          · obtain ⟨i, hi, hie⟩ := hsur p e hp he ha
            have hx : ∃ i, i < j ∧ dR D p (d - 1 - i) = e := ⟨d - 1 - i, by omega, by rw [show d - 1 - (d - 1 - i) = i by omega, hie]⟩
            rw [if_pos ha]
            cases hT : dT D e <;> simp [hx]
          · have hx : ¬ ∃ i, i < j ∧ dR D p (d - 1 - i) = e := fun ⟨i, hi, hie⟩ => ha (by have := (hrow p (d - 1 - i) hp (by omega)).2; rw [hie] at this; exact this)
            rw [if_neg ha]
            cases hT : dT D e <;> simp [hx]
        · intro q' hq'
          have hq' : q' < dN D := hq'
          rw [hoff _ _ (by omega)]; unfold revW; rw [if_neg (by omega)]; exact r4 q' hq'
        · intro q' i hq' hi
          have hq' : q' < dN D := hq'
          have hi : i < dG D q' := hi
          have hdq := hW.deg hq'
          show _ = ((if q' = p then dR D q' (dG D q' - 1 - i) else dR D q' i : Nat) : Int)
          rw [hoff _ _ (by omega)]
          unfold revW
          by_cases z : q' = p
          · subst z
            rw [if_pos (by omega), if_pos rfl, show b0 + (d - 1 - (38 + 10 * q' + i - b0)) = 38 + 10 * q' + (dG D q' - 1 - i) by omega]
            exact r5 q' _ hq' (by omega)
          · rw [if_neg (by omega), if_neg z]
            exact r5 q' i hq' hi
        · intro c b hc; rw [hoff _ _ (by omega)]; unfold revW; rw [if_neg (by omega)]
      · have hj : j < d := by omega
        have hrj := hrow p (d - 1 - j) hp (by omega)
        have hv : v r (b0 + j) = dR D p (d - 1 - j) := by
          rw [hoff _ _ (by omega)]
          unfold revW
          rw [if_pos (by omega), show b0 + (d - 1 - (b0 + j - b0)) = 38 + 10 * p + (d - 1 - j) by omega]
          exact r5 p _ hp (by omega)
        rw [rd_of (n := b0 + j) (by omega) (by omega), hv]
        refine ⟨ix_of (n := b0 + j) (by omega) (by omega) (by decide), ix_of (n := b0 + j) (by omega) (by omega) (by decide), ix_of (n := 22 + dR D p (d - 1 - j)) (by omega) (by omega) (by decide), ix_of (n := 22 + dR D p (d - 1 - j)) (by omega) (by omega) (by decide), ?_⟩
        intro w6 e6
        rw [wt_of (n := 22 + dR D p (d - 1 - j)) (by omega) (by omega), rd_of (n := 22 + dR D p (d - 1 - j)) (by omega) (by omega), ht _ hrj.1] at e6
        rw [show (j : Int) + 1 = ((j + 1 : Nat) : Int) by omega]
        refine ih (j + 1) w6 (by omega) (by omega) (fun c b h => by rw [e6, up_ap, if_neg (by omega)]; exact hoff c b h) (fun e he => ?_)
        have hnot : ¬ ∃ i, i < j ∧ dR D p (d - 1 - i) = dR D p (d - 1 - j) := fun ⟨i, hi, hie⟩ => by
          have := hinj p (d - 1 - i) (d - 1 - j) hp (by omega) (by omega) hie
          omega
        rw [e6, up_ap]
        by_cases z : e = dR D p (d - 1 - j)
        · rw [if_pos ⟨rfl, by omega⟩]
          have hx : ∃ i, i < j + 1 ∧ dR D p (d - 1 - i) = e := ⟨j, by omega, z.symm⟩
          rw [z] at hx ⊢
          cases hT : dT D (dR D p (d - 1 - j)) <;> simp only [hx, hnot] <;> simp
        · rw [if_neg (by omega), ht e he]
          have hiff : (∃ i, i < j + 1 ∧ dR D p (d - 1 - i) = e) ↔ (∃ i, i < j ∧ dR D p (d - 1 - i) = e) := ⟨fun ⟨i, hi, hie⟩ => ⟨i, by
            rcases Nat.lt_or_ge i j with y | y
            · exact y
            · have : i = j := by omega
              subst this
              exact absurd hie.symm z, hie⟩, fun ⟨i, hi, hie⟩ => ⟨i, by omega, hie⟩⟩
          simp only [hiff]
  have key : ∀ (m i : Nat) (v : Wd), 2 * i ≤ d + 1 → d + 1 - 2 * i < m → (∀ c b, v c b = if c = r ∧ b0 ≤ b ∧ b < b0 + d ∧ (b < b0 + i ∨ b0 + d ≤ b + i) then w c (b0 + (d - 1 - (b - b0))) else w c b) → X11_turnsOver_l18 r Q (X11_turnsOver_b71 r Q) m (b0 : Int) (d : Int) (i : Int) v := by
    intro m
    induction m with
    | zero => intro i v g1 g2; omega
    | succ m ih =>
      intro i v g1 g2 hv
      unfold X11_turnsOver_l18
      rw [wr_id (x := (d : Int) - 1 - i) (by omega) (by omega), wr_nat (n := i) (by omega)]
      refine ⟨fun q => ?_, fun q => ?_⟩
      · unfold X11_turnsOver_b71
        have : v = revW w r b0 d := by
          funext c b
          rw [hv]
          unfold revW
          by_cases z : c = r ∧ b0 ≤ b ∧ b < b0 + d
          · rw [if_pos z]
            by_cases z2 : b < b0 + i ∨ b0 + d ≤ b + i
            · rw [if_pos ⟨z.1, z.2.1, z.2.2, z2⟩]
            · rw [if_neg (fun h => z2 h.2.2.2)]
              have : b0 + (d - 1 - (b - b0)) = b := by omega
              rw [this]
          · rw [if_neg z, if_neg (fun h => z ⟨h.1, h.2.1, h.2.2.1⟩)]
        rw [this]
        refine ⟨d + 1, key2 (d + 1) 0 _ (by omega) (by omega) (fun c b _ => rfl) (fun e he => ?_)⟩
        unfold revW
        rw [if_neg (by omega), rt e he]
        cases hT : dT D e <;> simp
      · refine ⟨ix_of (n := b0 + i) (by omega) (by omega) (by decide), ?_⟩
        intro y1 e1
        rw [rd_of (n := b0 + i) (by omega) (by omega)] at e1
        refine ⟨ix_of (n := b0 + d - 1 - i) (by omega) (by omega) (by decide), ix_of (n := b0 + i) (by omega) (by omega) (by decide), ?_⟩
        intro w2 e2
        rw [wt_of (n := b0 + i) (by omega) (by omega), rd_of (n := b0 + d - 1 - i) (by omega) (by omega)] at e2
        refine ⟨ix_of (n := b0 + d - 1 - i) (by omega) (by omega) (by decide), ?_⟩
        intro w3 e3
        rw [wt_of (n := b0 + d - 1 - i) (by omega) (by omega)] at e3
        rw [show (i : Int) + 1 = ((i + 1 : Nat) : Int) by omega]
        refine ih (i + 1) w3 (by omega) (by omega) (fun c b => ?_)
        have f1 : v r (b0 + i) = w r (b0 + i) := by rw [hv, if_neg (by omega)]
        have f2 : v r (b0 + d - 1 - i) = w r (b0 + d - 1 - i) := by rw [hv, if_neg (by omega)]
        rw [e3, up_ap, e2, up_ap, e1, f1, f2]
        by_cases z1 : c = r ∧ b = b0 + d - 1 - i
        · obtain ⟨rfl, rfl⟩ := z1
          rw [if_pos ⟨rfl, rfl⟩, if_pos (by omega)]
          congr 1
          omega
        · rw [if_neg z1]
          by_cases z2 : c = r ∧ b = b0 + i
          · obtain ⟨rfl, rfl⟩ := z2
            rw [if_pos ⟨rfl, rfl⟩, if_pos (by omega)]
            congr 1
            omega
          · rw [if_neg z2, hv]
            by_cases z3 : c = r ∧ b0 ≤ b ∧ b < b0 + d ∧ (b < b0 + i ∨ b0 + d ≤ b + i)
            · rw [if_pos z3, if_pos (by omega)]
            · rw [if_neg z3, if_neg (by omega)]
  unfold X11_turnsOver
  intro y1 e1
  rw [show (38 : Int) + 10 * (p : Int) = (b0 : Int) by omega] at e1
  subst e1
  refine ⟨ix_of (n := 32 + p) (by omega) (by omega) (by decide), ?_⟩
  intro y2 e2
  rw [rd_of (n := 32 + p) (by omega) (by omega), r4 p hp, ← hd] at e2
  subst e2
  exact ⟨d + 2, key (d + 2) 0 w (by omega) (by omega) (fun c b => by rw [if_neg (by omega)])⟩
/-- two neighbours of a row change places -/
def dXch (D : Dw) (p i : Nat) : Dw := (dN D, dM D, dE D, dT D, dG D, (fun q k => if q = p then (if k = i then dR D q ((i + 1) % dG D q) else if k = (i + 1) % dG D q then dR D q i else dR D q k) else dR D q k))
theorem dXch_WF {D : Dw} (hW : WF D) {p i : Nat} (hi : i < dG D p) : WF (dXch D p i) := by
  obtain ⟨n6, m10, hen, hne, hrow, hinj, hsur⟩ := id hW
  obtain ⟨n, hn⟩ : ∃ n, n = (i + 1) % dG D p := ⟨_, rfl⟩
  have hnl : n < dG D p := by rw [hn]; exact Nat.mod_lt _ (by omega)
  have hrw : ∀ k, dR (dXch D p i) p k = dR D p (if k = i then n else if k = n then i else k) := fun k => by
    show (if p = p then (if k = i then dR D p ((i + 1) % dG D p) else if k = (i + 1) % dG D p then dR D p i else dR D p k) else dR D p k) = _
    rw [if_pos rfl, ← hn]
    split
    · rfl
    · split <;> rfl
  have hro : ∀ q k, q ≠ p → dR (dXch D p i) q k = dR D q k := fun q k h => if_neg h
  refine ⟨n6, m10, hen, hne, fun q k hq hk => ?_, fun q k j hq hk hj h => ?_, fun q e hq he ha => ?_⟩
  · have hk : k < dG D q := hk
    have hq : q < dN D := hq
    by_cases z : q = p
    · subst z
      rw [hrw]
      exact hrow q _ hq (by split; · exact hnl
                            · split; · exact hi
                              · exact hk)
    · rw [hro q k z]; exact hrow q k hq hk
  · have hk : k < dG D q := hk
    have hj : j < dG D q := hj
    have hq : q < dN D := hq
    by_cases z : q = p
    · subst z
      rw [hrw, hrw] at h
      have := hinj q _ _ hq (by split; · exact hnl
                                · split; · exact hi
                                  · exact hk) (by split; · exact hnl
                                                  · split; · exact hi
                                                    · exact hj) h
      split at this <;> split at this <;> (try split at this) <;> (try split at this) <;> omega
    · rw [hro q k z, hro q j z] at h; exact hinj q k j hq hk hj h
  · have hq : q < dN D := hq
    obtain ⟨k, hk, hke⟩ := hsur q e hq he ha
    by_cases z : q = p
    · subst z
      refine ⟨if k = i then n else if k = n then i else k, ?_, ?_⟩
      · show _ < dG D q
        split
        · exact hnl
        · split
          · exact hi
          · exact hk
      · rw [hrw]
        have : (if (if k = i then n else if k = n then i else k) = i then n else if (if k = i then n else if k = n then i else k) = n then i else (if k = i then n else if k = n then i else k)) = k := by
          split <;> split <;> (try split) <;> omega
        rw [this, hke]
    · exact ⟨k, hk, by rw [hro q k z]; exact hke⟩
