/-! ORDERS at the class: the next one -/
theorem dgc_out {D : Dw} (hW : WF D) {p : Nat} (hp : dN D ≤ p) : dgc D p = 0 := cnt_none 10 (fun e _ => Bool.eq_false_iff.mpr (fun k => by
  obtain ⟨h1, h2⟩ := pl_iff.mp k
  have b1 := hW.2.2.1 (2 * e) (by omega)
  have b2 := hW.2.2.1 (2 * e + 1) (by omega)
  unfold atP at h2
  omega))
theorem dMx_congr {D : Dw} (hW : WF D) {f g : Nat → Nat} {t : Nat → Bool} (h : ∀ p, p < dN D → f p = g p) : dMx D f t = dMx D g t := by
  have : (fun p i => decF (dgc D p) (srt D p) (f p) i) = (fun p i => decF (dgc D p) (srt D p) (g p) i) := by
    funext p i
    rcases Nat.lt_or_ge p (dN D) with z | z
    · rw [h p z]
    · rw [dgc_out hW z]; rfl
  unfold dMx
  rw [this]
theorem rep_row {w w' : Wd} {D : Dw} {f : Nat → Nat} {t : Nat → Bool} {p k : Nat} (hW : WF D) (hR : RepX w 42 (dMx D f t)) (off : ∀ c j, c ≠ 45 → w' c j = w c j) (ho : ∀ q i, q < dN D → q ≠ p → i < dgc D q → w' 45 (10 * q + i) = w 45 (10 * q + i)) (hp : ∀ i, i < dgc D p → w' 45 (10 * p + i) = (decF (dgc D p) (srt D p) k i : Int)) : RepX w' 42 (dMx D (fun q => if q = p then k else f q) t) := by
  obtain ⟨r0, r1, ⟨s, r2, r3, r4⟩, r5, r6, r7⟩ := hR
  refine ⟨by rw [off _ _ (by decide)]; exact r0, by rw [off _ _ (by decide)]; exact r1, ⟨s, by rw [off _ _ (by decide)]; exact r2, r3, r4⟩, fun i hi => by rw [off _ _ (by decide)]; exact r5 i hi, fun q hq => by rw [off _ _ (by decide)]; exact r6 q hq, fun q i hq hi => ?_⟩
  have hi : i < dgc D q := hi
  show w' 45 (10 * q + i) = ((decF (dgc D q) (srt D q) (if q = p then k else f q) i : Nat) : Int)
  by_cases z : q = p
  · rw [if_pos z, z]
    rw [z] at hi
    exact hp i hi
  · rw [if_neg z, ho q i hq z hi]
    exact r7 q i hq hi
theorem X3_nextRow_ok {Q : Int → Wd → Prop} {w : Wd} {D : Dw} {x : Int} {f : Nat → Nat} {t : Nat → Bool} (p : Nat) (hx : x = (p : Int)) (hW : WF D) (hp : p < dN D) (hfp : f p < ordP D p) (hd : 3 ≤ dgc D p) (hR : RepX w 42 (dMx D f t))
    (h1 : f p + 1 < ordP D p → ∀ w', RepX w' 42 (dMx D (fun q => if q = p then f p + 1 else f q) t) → (∀ c j, c ≠ 45 → w' c j = w c j) → Q 1 w')
    (h0 : f p + 1 = ordP D p → ∀ w', RepX w' 42 (dMx D (fun q => if q = p then 0 else f q) t) → (∀ c j, c ≠ 45 → w' c j = w c j) → Q 0 w') : X3_nextRow x w Q := by
  subst hx
  have n6 := hW.1
  have m10 := hW.2.1
  have hd10 := dgc_le D p
  have r7 : ∀ q i, q < dN D → i < dgc D q → w 45 (10 * q + i) = (decF (dgc D q) (srt D q) (f q) i : Int) := hR.2.2.2.2.2
  have r6 : w 44 p = (dgc D p : Int) := hR.2.2.2.2.1 p hp
  have hinc : Inc (srt D p) (dgc D p) := nth_inc (f := pl D p) (m := 10)
  have hval : ∀ j, j < dgc D p → srt D p j < 10 := fun j hj => by have := (srt_ok hj).1; omega
  obtain ⟨n1, hn1⟩ : ∃ n1, dgc D p = n1 + 1 := ⟨dgc D p - 1, by omega⟩
  have eo : ordP D p = fac n1 := by unfold ordP; rw [hn1]; rfl
  rw [eo] at hfp h1 h0
  obtain ⟨K, hK⟩ : ∃ K, K = f p := ⟨_, rfl⟩
  rw [← hK] at hfp h1 h0
  obtain ⟨L1, hL1⟩ : ∃ L1, L1 = delR (srt D p) 0 := ⟨_, rfl⟩
  rw [hn1] at hinc hval
  have inc1 : Inc L1 n1 := by rw [hL1]; exact hinc.del (by omega)
  have row0 : ∀ k, k < fac n1 → decF (n1 + 1) (srt D p) k 0 = srt D p 0 := fun k hk => by rw [decF_0, Nat.div_eq_of_lt hk]
  have rowS : ∀ k i, k < fac n1 → decF (n1 + 1) (srt D p) k (i + 1) = decF n1 L1 k i := fun k i hk => by rw [decF_s, Nat.div_eq_of_lt hk, Nat.mod_eq_of_lt hk, hL1]
  have val : ∀ i, i < n1 → w 45 (10 * p + (i + 1)) = (decF n1 L1 K i : Int) := fun i hi => by
    rw [r7 p (i + 1) hp (by omega), hn1, ← hK, rowS K i hfp]
  have small : ∀ i, i < n1 → decF n1 L1 K i < 10 := fun i hi => by
    obtain ⟨j, j1, j2⟩ := dec_in (n1 + 1) (srt D p) K (i + 1) (Nat.lt_of_lt_of_le hfp (fac_pred (n1 + 1))) (by omega)
    rw [← rowS K i hfp, j2]
    exact hval j j1
  unfold X3_nextRow
  intro y1 e1
  refine ⟨ix_of rfl (by omega) (by decide), fun y2 e2 y3 e3 => ?_⟩
  rw [rd_of rfl (by omega), r6] at e2
  rw [show (p : Int) * 10 = ((10 * p : Nat) : Int) by omega] at e1
  have e2 : y2 = ((10 * p + n1 : Nat) : Int) := by rw [e2, e1]; omega
  have e3 : y3 = ((10 * p + (n1 - 1) : Nat) : Int) := by rw [e3, e2]; omega
  rw [e1, e2, e3]
  by_cases hlast : K + 1 < fac n1
  · obtain ⟨c, a, u, U, g1, g2, g3, g4, g5, g6, g7, g8, g9, g10⟩ := dec_step n1 L1 K inc1 hlast
    obtain ⟨r, hr⟩ : ∃ r, r = n1 - 1 - c := ⟨_, rfl⟩
    rw [← hr] at g2 g3 g6 g8
    have hu : u < 10 := by rw [← g5]; exact small c g1
    have hU : ∀ b, b < r → U b < 10 := fun b hb => by
      have := g6 (r - 1 - b) (by omega)
      rw [show r - 1 - (r - 1 - b) = b by omega] at this
      rw [← this]; exact small _ (by omega)
    have vpiv : w 45 (10 * p + (c + 1)) = (u : Int) := by rw [val c g1, g5]
    have vsuf : ∀ s, s < r → w 45 (10 * p + (c + 2 + s)) = (U (r - 1 - s) : Int) := fun s hs => by
      have := val (c + 1 + s) (by omega)
      rw [show c + 1 + s + 1 = c + 2 + s by omega] at this
      rw [this, g6 s hs]
    have gmax : U a ≤ U (r - 1) := by
      by_cases z : a = r - 1
      · rw [z]; exact Nat.le_refl _
      · exact Nat.le_of_lt (g3 a (r - 1) (by omega) (by omega))
    have fin : X3_nextRow_b95 Q ((10 * p : Nat) : Int) ((10 * p + n1 : Nat) : Int) ((10 * p + (c + 1) : Nat) : Int) ((10 * p + (n1 - a) : Nat) : Int) w := by
      unfold X3_nextRow_b95 X3_nextRow_b106
      refine X1_swap_ok (10 * p + (c + 1)) (10 * p + (n1 - a)) rfl rfl (by omega) (by omega) ?_
      refine X1_reverse_ok (10 * p + (c + 2)) r (by omega) (by omega) (by omega) ?_
      rw [wr_nat (n := 10 * p + (c + 1)) (by omega), wr_nat (n := 10 * p) (by omega)]
      refine ⟨fun z => by omega, fun _ => h1 hlast _ (rep_row hW hR (fun cc j hc => ?_) (fun q i hq hne hi => ?_) (fun i hi => ?_)) (fun cc j hc => ?_)⟩
      · unfold revW
        rw [if_neg (by omega), up_ap, if_neg (by omega), up_ap, if_neg (by omega)]
      · have hq10 := dgc_le D q
        unfold revW
        rw [if_neg (by omega), up_ap, if_neg (by omega), up_ap, if_neg (by omega)]
      · rw [hn1]
        by_cases z0 : i = 0
        · unfold revW
          rw [if_neg (by omega), up_ap, if_neg (by omega), up_ap, if_neg (by omega), r7 p i hp hi, hn1, ← hK, z0, row0 K hfp, row0 (K + 1) hlast]
        · obtain ⟨i, rfl⟩ : ∃ i', i = i' + 1 := ⟨i - 1, by omega⟩
          rw [rowS (K + 1) i hlast]
          by_cases z1 : i < c
          · unfold revW
            rw [if_neg (by omega), up_ap, if_neg (by omega), up_ap, if_neg (by omega), val i (by omega), g4 i z1]
          · by_cases z2 : i = c
            · unfold revW
              rw [if_neg (by omega), up_ap, if_neg (by omega), up_ap, if_pos ⟨rfl, by omega⟩, z2, g7, show 42 + 3 = 45 from rfl, show n1 - a = c + 2 + (r - 1 - a) by omega, vsuf (r - 1 - a) (by omega), show r - 1 - (r - 1 - a) = a by omega]
            · obtain ⟨s, rfl⟩ : ∃ s, i = c + 1 + s := ⟨i - (c + 1), by omega⟩
              rw [g8 s (by omega)]
              unfold revW
              rw [if_pos ⟨rfl, by omega, by omega⟩]
              by_cases z3 : s = a
              · rw [if_pos z3, up_ap, if_pos ⟨rfl, by omega⟩]
                exact vpiv
              · rw [if_neg z3, up_ap, if_neg (by omega), up_ap, if_neg (by omega)]
                have := vsuf (r - 1 - s) (by omega)
                rw [show r - 1 - (r - 1 - s) = s by omega] at this
                rw [← this]
                congr 1
                omega
      · unfold revW
        rw [if_neg (by omega), up_ap, if_neg (by omega), up_ap, if_neg (by omega)]
    have loop2 : ∀ (m b : Nat), b ≤ a → a - b < m → X3_nextRow_l69 Q (X3_nextRow_b95 Q) m ((10 * p : Nat) : Int) ((10 * p + n1 : Nat) : Int) ((10 * p + (c + 1) : Nat) : Int) ((10 * p + (n1 - b) : Nat) : Int) w := by
      intro m
      induction m with
      | zero => intro b a1 a2; omega
      | succ m ih =>
        intro b a1 a2
        have vb := vsuf (r - 1 - b) (by omega)
        rw [show r - 1 - (r - 1 - b) = b by omega, show c + 2 + (r - 1 - b) = n1 - b by omega] at vb
        have hUb := hU b (by omega)
        unfold X3_nextRow_l69
        rw [wr_nat (n := 10 * p + (n1 - b)) (by omega), wr_nat (n := 10 * p + (c + 1)) (by omega), rd_of rfl (by omega), rd_of rfl (by omega), vpiv, vb, wr_nat (n := u) (by omega), wr_nat (n := U b) (by omega)]
        refine ⟨fun z => by omega, fun _ => ⟨ix_of rfl (by omega) (by decide), ix_of rfl (by omega) (by decide), fun z => ?_, fun z => ?_⟩⟩
        · have : b = a := by
            rcases Nat.lt_or_ge b a with y | y
            · have := g10 b y; omega
            · omega
          rw [this]; exact fin
        · have hba : b ≠ a := fun y => by rw [y] at z; omega
          rw [show ((10 * p + (n1 - b) : Nat) : Int) + (-1) = ((10 * p + (n1 - (b + 1)) : Nat) : Int) by omega]
          exact ih (b + 1) (by omega) (by omega)
    have loop1 : ∀ (m j : Nat), c + 1 ≤ j → j ≤ n1 - 1 → j - c < m → X3_nextRow_l33 Q (X3_nextRow_b60 Q) m ((10 * p : Nat) : Int) ((10 * p + n1 : Nat) : Int) ((10 * p + j : Nat) : Int) w := by
      intro m
      induction m with
      | zero => intro j a0 a1 a2; omega
      | succ m ih =>
        intro j a0 a1 a2
        unfold X3_nextRow_l33
        rw [wr_nat (n := 10 * p + j) (by omega), wr_nat (n := 10 * p) (by omega), show ((10 * p + j : Nat) : Int) + 1 = ((10 * p + (j + 1) : Nat) : Int) by omega, rd_of rfl (by omega), rd_of rfl (by omega)]
        refine ⟨fun z => by omega, fun _ => ⟨ix_of rfl (by omega) (by decide), ix_of rfl (by omega) (by decide), ?_⟩⟩
        by_cases z : j = c + 1
        · subst z
          have v2 := vsuf 0 (by omega)
          rw [show r - 1 - 0 = r - 1 by omega] at v2
          have hUr := hU (r - 1) (by omega)
          rw [show c + 1 + 1 = c + 2 + 0 by omega, v2, vpiv, wr_nat (n := u) (by omega), wr_nat (n := U (r - 1)) (by omega)]
          refine ⟨fun _ => ?_, fun y => absurd (by omega) y⟩
          unfold X3_nextRow_b60
          rw [wr_nat (n := 10 * p + (c + 1)) (by omega), wr_nat (n := 10 * p) (by omega)]
          refine ⟨fun y => by omega, fun _ => ⟨a + 1, ?_⟩⟩
          exact loop2 (a + 1) 0 (by omega) (by omega)
        · obtain ⟨s, rfl⟩ : ∃ s, j = c + 2 + s := ⟨j - (c + 2), by omega⟩
          have va := vsuf s (by omega)
          have vb := vsuf (s + 1) (by omega)
          have h1' := hU (r - 1 - s) (by omega)
          have h2' := hU (r - 1 - (s + 1)) (by omega)
          have lt := g3 (r - 1 - (s + 1)) (r - 1 - s) (by omega) (by omega)
          rw [show c + 2 + s + 1 = c + 2 + (s + 1) by omega, va, vb, wr_nat (n := U (r - 1 - s)) (by omega), wr_nat (n := U (r - 1 - (s + 1))) (by omega)]
          refine ⟨fun y => by omega, fun _ => ?_⟩
          rw [show ((10 * p + (c + 2 + s) : Nat) : Int) + (-1) = ((10 * p + (c + 1 + s) : Nat) : Int) by omega]
          exact ih (c + 1 + s) (by omega) (by omega) (by omega)
    exact ⟨n1 + 1, loop1 (n1 + 1) (n1 - 1) (by omega) (by omega) (by omega)⟩
  · have hKe : K = fac n1 - 1 := by omega
    have hL : ∀ i, i < n1 → w 45 (10 * p + (i + 1)) = (L1 (n1 - 1 - i) : Int) ∧ L1 (n1 - 1 - i) < 10 := fun i hi => by
      have e := dec_last n1 L1 i hi
      rw [← hKe] at e
      have := small i hi
      rw [e] at this
      exact ⟨by rw [val i hi, e], this⟩
    have hfp1 := fac_pos n1
    have fin : X3_nextRow_b60 Q ((10 * p : Nat) : Int) ((10 * p + n1 : Nat) : Int) ((10 * p : Nat) : Int) w := by
      unfold X3_nextRow_b60 X3_nextRow_b106
      refine ⟨fun _ => ?_, fun y => absurd (Int.le_refl _) y⟩
      refine X1_reverse_ok (10 * p + 1) n1 (by omega) (by omega) (by omega) ?_
      refine ⟨fun _ => h0 (by omega) _ (rep_row hW hR (fun cc j hc => ?_) (fun q i hq hne hi => ?_) (fun i hi => ?_)) (fun cc j hc => ?_), fun y => absurd (Int.le_refl _) y⟩
      · unfold revW; rw [if_neg (by omega)]
      · have hq10 := dgc_le D q
        unfold revW; rw [if_neg (by omega)]
      · rw [hn1]
        by_cases z0 : i = 0
        · unfold revW
          rw [if_neg (by omega), r7 p i hp hi, hn1, ← hK, z0, row0 K hfp, row0 0 hfp1]
        · obtain ⟨i, rfl⟩ : ∃ i', i = i' + 1 := ⟨i - 1, by omega⟩
          rw [rowS 0 i hfp1, dec_zero n1 L1 i (by omega)]
          unfold revW
          rw [if_pos ⟨rfl, by omega, by omega⟩]
          have := (hL (n1 - 1 - i) (by omega)).1
          rw [show n1 - 1 - (n1 - 1 - i) = i by omega] at this
          rw [← this]
          congr 1
          omega
      · unfold revW; rw [if_neg (by omega)]
    have loop1 : ∀ (m j : Nat), j ≤ n1 - 1 → j < m → X3_nextRow_l33 Q (X3_nextRow_b60 Q) m ((10 * p : Nat) : Int) ((10 * p + n1 : Nat) : Int) ((10 * p + j : Nat) : Int) w := by
      intro m
      induction m with
      | zero => intro j a1 a2; omega
      | succ m ih =>
        intro j a1 a2
        unfold X3_nextRow_l33
        rw [wr_nat (n := 10 * p + j) (by omega), wr_nat (n := 10 * p) (by omega), show ((10 * p + j : Nat) : Int) + 1 = ((10 * p + (j + 1) : Nat) : Int) by omega, rd_of rfl (by omega), rd_of rfl (by omega)]
        refine ⟨fun z => ?_, fun z => ⟨ix_of rfl (by omega) (by decide), ix_of rfl (by omega) (by decide), ?_⟩⟩
        · have : j = 0 := by omega
          subst this
          exact fin
        · obtain ⟨i, rfl⟩ : ∃ i, j = i + 1 := ⟨j - 1, by omega⟩
          have va := hL i (by omega)
          have vb := hL (i + 1) (by omega)
          have lt := inc1 (n1 - 1 - (i + 1)) (n1 - 1 - i) (by omega) (by omega)
          rw [va.1, vb.1, wr_nat (n := L1 (n1 - 1 - i)) (by omega), wr_nat (n := L1 (n1 - 1 - (i + 1))) (by omega)]
          refine ⟨fun y => by omega, fun _ => ?_⟩
          rw [show ((10 * p + (i + 1) : Nat) : Int) + (-1) = ((10 * p + i : Nat) : Int) by omega]
          exact ih i (by omega) (by omega)
    exact ⟨n1 + 1, loop1 (n1 + 1) (n1 - 1) (by omega) (by omega)⟩
