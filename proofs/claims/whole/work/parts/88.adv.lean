/-! ORDERS at the class: one on, from the first -/
theorem prd_app (f : Nat → Nat) (a m : Nat) : ∀ n, prd f a (m + n) = prd f a m * prd f (a + m) n
  | 0 => by show prd f a m = prd f a m * 1; rw [Nat.mul_one]
  | n + 1 => by
    show prd f a (m + n) * f (a + (m + n)) = prd f a m * (prd f (a + m) n * f (a + m + n))
    rw [prd_app f a m n, Nat.mul_assoc, show a + m + n = a + (m + n) by omega]
def ltt (D : Dw) (k : Nat) : Nat := prd (ordP D) k (dN D - k)
theorem ltt_pos (D : Dw) (k : Nat) : 0 < ltt D k := prd_pos (ordP_pos D) _ _
theorem ltt_s {D : Dw} {k : Nat} (hk : k < dN D) : ltt D k = ordP D k * ltt D (k + 1) ∧ ltt D (k + 1) = latP D k := by
  unfold ltt latP
  rw [show dN D - k = (dN D - (k + 1)) + 1 by omega, prd_front, show dN D - 1 - k = dN D - (k + 1) by omega]
  exact ⟨rfl, rfl⟩
theorem ltt_app {D : Dw} {k q : Nat} (hk : k ≤ q) (hq : q ≤ dN D) : ltt D k = prd (ordP D) k (q - k) * ltt D q := by
  unfold ltt
  have := prd_app (ordP D) k (q - k) (dN D - q)
  rw [show q - k + (dN D - q) = dN D - k by omega, show k + (q - k) = q by omega] at this
  exact this
theorem num_ltt {D : Dw} {q : Nat} (hq : q < dN D) (n : Nat) : numP D n q = n / ltt D (q + 1) % ordP D q := by
  unfold numP
  rw [(ltt_s hq).2]
/-- all behind are at their last: the next one -/
theorem adv_num {D : Dw} {k n : Nat} (hk : k < dN D) (hn : n % ltt D (k + 1) = ltt D (k + 1) - 1) (ho : numP D n k + 1 < ordP D k) (q : Nat) (hq : q < dN D) : numP D (n + 1) q = if q = k then numP D n k + 1 else if q < k then numP D n q else 0 := by
  have hlp := ltt_pos D (k + 1)
  obtain ⟨l, hl⟩ : ∃ l, l = ltt D (k + 1) := ⟨_, rfl⟩
  obtain ⟨o, hoe⟩ : ∃ o, o = ordP D k := ⟨_, rfl⟩
  have hnk := num_ltt hk n
  rw [← hl] at hn hlp hnk
  rw [← hoe] at ho hnk
  have hd := Nat.div_add_mod n l
  have en : n + 1 = l * (n / l + 1) := by rw [Nat.mul_add]; omega
  have ed : (n + 1) / l = n / l + 1 := by rw [en, Nat.mul_div_cancel_left _ hlp]
  by_cases z : q = k
  · rw [if_pos z, z, num_ltt hk (n + 1), ← hl, ← hoe, ed, hnk]
    rw [hnk] at ho
    rw [Nat.add_mod, Nat.mod_eq_of_lt (show 1 < o by omega), Nat.mod_eq_of_lt ho]
  · rw [if_neg z]
    by_cases y : q < k
    · rw [if_pos y, num_ltt hq (n + 1), num_ltt hq n]
      have e1 := ltt_app (D := D) (k := q + 1) (q := k) (by omega) (by omega)
      rw [(ltt_s hk).1, ← hl, ← hoe] at e1
      rw [e1, Nat.mul_comm (prd _ _ _), ← Nat.div_div_eq_div_mul (n + 1) (o * l) _, ← Nat.div_div_eq_div_mul n (o * l) _]
      have e2 : (n + 1) / (o * l) = n / (o * l) := by
        have hm : n % (l * o) = n % l + l * (n / l % o) := Nat.mod_mul
        have hop : 0 < o := by omega
        have hB : 0 < o * l := Nat.mul_pos hop hlp
        have hle : l * (n / l % o + 2) ≤ l * o := Nat.mul_le_mul_left l (by omega)
        have hlt : n % (o * l) + 1 < o * l := by
          rw [Nat.mul_comm o l, hm, hn]
          rw [Nat.mul_add] at hle
          omega
        have hdm := Nat.div_add_mod n (o * l)
        have : n + 1 = o * l * (n / (o * l)) + (n % (o * l) + 1) := by omega
        rw [this, Nat.mul_add_div hB, Nat.div_eq_of_lt hlt]
        rfl
      rw [e2]
    · rw [if_neg y, num_ltt hq (n + 1)]
      have e1 := ltt_app (D := D) (k := k + 1) (q := q) (by omega) (by omega)
      rw [(ltt_s hq).1, ← hl] at e1
      have hqp := ltt_pos D (q + 1)
      have e2 : n + 1 = ltt D (q + 1) * (ordP D q * (prd (ordP D) (k + 1) (q - (k + 1)) * (n / l + 1))) := by
        rw [en, e1]
        ac_rfl
      rw [e2, Nat.mul_div_cancel_left _ hqp, Nat.mul_mod_right]
theorem adv_wrap {D : Dw} {k n : Nat} (hk : k < dN D) (hn : n % ltt D (k + 1) = ltt D (k + 1) - 1) (ho : numP D n k + 1 = ordP D k) : n % ltt D k = ltt D k - 1 := by
  have hlp := ltt_pos D (k + 1)
  rw [(ltt_s hk).1]
  rw [num_ltt hk n] at ho
  have hm : n % (ltt D (k + 1) * ordP D k) = n % ltt D (k + 1) + ltt D (k + 1) * (n / ltt D (k + 1) % ordP D k) := Nat.mod_mul
  rw [Nat.mul_comm (ordP D k), hm, hn]
  obtain ⟨r, hr⟩ : ∃ r, r = n / ltt D (k + 1) % ordP D k := ⟨_, rfl⟩
  rw [← hr] at ho ⊢
  have e : ltt D (k + 1) * ordP D k = ltt D (k + 1) * r + ltt D (k + 1) := by rw [← ho, Nat.mul_add, Nat.mul_one]
  omega
theorem adv_all {D : Dw} {n : Nat} (hn : n % ltt D 0 = ltt D 0 - 1) (q : Nat) (hq : q < dN D) : numP D (n + 1) q = 0 := by
  have hlp := ltt_pos D 0
  have hd := Nat.div_add_mod n (ltt D 0)
  have en : n + 1 = ltt D 0 * (n / ltt D 0 + 1) := by rw [Nat.mul_add]; omega
  have e1 := ltt_app (D := D) (k := 0) (q := q) (by omega) (by omega)
  rw [(ltt_s hq).1] at e1
  have hqp := ltt_pos D (q + 1)
  rw [num_ltt hq (n + 1)]
  obtain ⟨T, hT⟩ : ∃ T, T = n / ltt D 0 + 1 := ⟨_, rfl⟩
  rw [← hT] at en
  have e2 : n + 1 = ltt D (q + 1) * (ordP D q * (prd (ordP D) 0 (q - 0) * T)) := by
    rw [en, e1]
    ac_rfl
  rw [e2, Nat.mul_div_cancel_left _ hqp, Nat.mul_mod_right]
/-- what stands behind an arm hangs on its post's row alone -/
theorem bh_mx {D : Dw} {f g : Nat → Nat} {t u : Nat → Bool} {a : Nat} (h : f (dE (dMx D f t) a) = g (dE (dMx D f t) a)) : bh (dMx D f t) a = bh (dMx D g u) a ∧ ah (dMx D f t) a = ah (dMx D g u) a := by
  have hE : dE (dMx D f t) = dE (dMx D g u) := rfl
  have hG : dG (dMx D f t) = dG (dMx D g u) := rfl
  have hr : dR (dMx D f t) (dE (dMx D f t) a) = dR (dMx D g u) (dE (dMx D f t) a) := by
    show (fun i => decF _ _ (f (dE (dMx D f t) a)) i) = (fun i => decF _ _ (g (dE (dMx D f t) a)) i)
    rw [h]
  have hps : psA (dMx D f t) a = psA (dMx D g u) a := by
    unfold psA
    rw [hr, hE, hG]
  have harm : ∀ i, armA (dMx D f t) (dE (dMx D f t) a) i = armA (dMx D g u) (dE (dMx D f t) a) i := fun i => by
    unfold armA
    rw [hr, hE]
  unfold ah bh rot
  rw [harm, harm, hps, hE, hG]
  exact ⟨rfl, rfl⟩
theorem X3_advance_okt {Q : Wd → Prop} {w : Wd} {D : Dw} {t : Nat → Bool} (n : Nat) (hW : WF D) (hR : RepX w 42 (dOrd D n)) (hV : RepW w 46 (dMx D (numP D n) t)) (hQ : ∀ w', RepX w' 42 (dOrd D (n + 1)) → RepW w' 46 (dMx D (numP D (n + 1)) t) → (∀ c j, c ≠ 45 → c ≠ 47 → c ≠ 48 → w' c j = w c j) → Q w') : X3_advance w Q := by
  have n6 := hW.1
  have m10 := hW.2.1
  have hN : w 42 0 = (dN D : Int) := hR.1
  -- posts from k on are at their first
  have loop : ∀ (m k : Nat) (v : Wd), k ≤ dN D → k < m → RepX v 42 (dMx D (fun q => if q < k then numP D n q else 0) (fun _ => false)) → RepW v 46 (dMx D (fun q => if q < k then numP D n q else 0) t) → n % ltt D k = ltt D k - 1 → (∀ c j, c ≠ 45 → c ≠ 47 → c ≠ 48 → v c j = w c j) → X3_advance_l10 Q (X3_advance_b50 Q) (X3_advance_b57 Q) m ((k : Int) - 1) v := by
    intro m
    induction m with
    | zero => intro k v a1 a2; omega
    | succ m ih =>
      intro k v a1 a2 hRv hVv hmod ov
      unfold X3_advance_l10
      rw [wr_id (x := (k : Int) - 1) (by omega) (by omega)]
      refine ⟨fun z => ?_, fun z => ?_⟩
      · have hk : k = 0 := by omega
        subst hk
        have e : dMx D (fun q => if q < 0 then numP D n q else 0) (fun _ => false) = dOrd D (n + 1) := dMx_congr hW (fun p hp => by rw [adv_all hmod p hp]; rfl)
        have e' : dMx D (fun q => if q < 0 then numP D n q else 0) t = dMx D (numP D (n + 1)) t := dMx_congr hW (fun p hp => by rw [adv_all hmod p hp]; rfl)
        rw [e] at hRv
        rw [e'] at hVv
        exact hQ v hRv hVv ov
      · obtain ⟨p, rfl⟩ : ∃ p, k = p + 1 := ⟨k - 1, by omega⟩
        have hp : p < dN D := by omega
        have ed : v 44 p = (dgc D p : Int) := hRv.2.2.2.2.1 p hp
        have hd10 := dgc_le D p
        rw [show ((p + 1 : Nat) : Int) - 1 = (p : Int) by omega, rd_of rfl (by omega), ed, wr_nat (n := dgc D p) (by omega), show wr 2 = 2 by decide]
        have same : ∀ q, q < dN D → numP D n p = 0 → (if q < p + 1 then numP D n q else 0) = (if q < p then numP D n q else 0) := fun q hq h0 => by
          by_cases y : q < p
          · rw [if_pos (by omega), if_pos y]
          · by_cases y2 : q = p
            · rw [if_pos (by omega), if_neg y, y2, h0]
            · rw [if_neg (by omega), if_neg y]
        refine ⟨ix_of rfl (by omega) (by decide), fun y => ?_, fun y => ?_⟩
        · have ho : ordP D p = 1 := by
            have : dgc D p = 0 ∨ dgc D p = 1 ∨ dgc D p = 2 := by omega
            unfold ordP
            rcases this with q | q | q <;> rw [q] <;> rfl
          have hz : numP D n p = 0 := by have := numP_lt D n p; omega
          have e : dMx D (fun q => if q < p + 1 then numP D n q else 0) (fun _ => false) = dMx D (fun q => if q < p then numP D n q else 0) (fun _ => false) := dMx_congr hW (fun q hq => same q hq hz)
          have e' : dMx D (fun q => if q < p + 1 then numP D n q else 0) t = dMx D (fun q => if q < p then numP D n q else 0) t := dMx_congr hW (fun q hq => same q hq hz)
          rw [e] at hRv
          rw [e'] at hVv
          rw [show (p : Int) + (-1) = (p : Int) - 1 by omega]
          refine ih p v (by omega) (by omega) hRv hVv ?_ ov
          rw [(ltt_s hp).1, ho, Nat.one_mul]
          exact hmod
        · have fpp : (if p < p + 1 then numP D n p else 0) = numP D n p := if_pos (by omega)
          have hWf : ∀ g : Nat → Nat, (∀ q, q < dN D → g q < ordP D q) → WF (dMx D g (fun _ => false)) := fun g hg => dMx_WF hW hg
          have after : ∀ (g : Nat → Nat) (y3 : Int) (w2 : Wd), (∀ q, q < dN D → g q < ordP D q) → (∀ q, q ≠ p → g q = (if q < p + 1 then numP D n q else 0)) → RepX w2 42 (dMx D g (fun _ => false)) → (∀ c j, c ≠ 45 → w2 c j = v c j) → (∀ w4, RepX w4 42 (dMx D g (fun _ => false)) → RepW w4 46 (dMx D g t) → (∀ c j, c ≠ 45 → c ≠ 47 → c ≠ 48 → w4 c j = w c j) → ((wr y3 = 0 → X3_advance_l10 Q (X3_advance_b50 Q) (X3_advance_b57 Q) m ((p : Int) + (-1)) w4) ∧ (¬ wr y3 = 0 → X3_advance_b50 Q w4))) → X9_link 46 42 (p : Int) 1 w2 (fun w4 => ((wr y3 = 0 → X3_advance_l10 Q (X3_advance_b50 Q) (X3_advance_b57 Q) m ((p : Int) + (-1)) w4) ∧ (¬ wr y3 = 0 → X3_advance_b50 Q w4))) := by
            intro g y3 w2 hg hge hR2 o2 hK
            have hd2 : 1 ≤ dG (dMx D g (fun _ => false)) p := by show 1 ≤ dgc D p; omega
            refine X9_link_ok p 1 rfl rfl (hWf g hg) hR2 (by omega) hp hd2 (fun w4 hb ha o4 => hK w4 (RepX.of hR2 (fun c j _ _ => o4 c j (by omega) (by omega))) ?_ (fun c j c1 c2 c3 => by rw [o4 c j c2 c3, o2 c j c1]; exact ov c j c1 c2 c3))
            obtain ⟨v0, ⟨s, v1, v2, v3⟩, v4, v5⟩ := hVv
            refine ⟨by rw [o4 _ _ (by decide) (by decide), o2 _ _ (by decide)]; exact v0, ⟨s, by rw [o4 _ _ (by decide) (by decide), o2 _ _ (by decide)]; exact v1, v2, v3⟩, fun a hal => ?_, fun a hal => ?_⟩
            · rw [hb a hal]
              by_cases q : dE (dMx D g (fun _ => false)) a = p
              · have this := (bh_mx (D := D) (f := g) (g := g) (t := fun _ => false) (u := t) (a := a) rfl).1
                rw [if_pos q, ← this]; rfl
              · rw [if_neg q, o2 _ _ (by decide)]
                have := (bh_mx (D := D) (f := g) (g := fun q => if q < p + 1 then numP D n q else 0) (t := t) (u := t) (a := a) (hge _ q)).1
                rw [this]
                exact v4 a hal
            · rw [ha a hal]
              by_cases q : dE (dMx D g (fun _ => false)) a = p
              · have this := (bh_mx (D := D) (f := g) (g := g) (t := fun _ => false) (u := t) (a := a) rfl).2
                rw [if_pos q, ← this]
                unfold ah
                rw [q]
              · rw [if_neg q, o2 _ _ (by decide)]
                have := (bh_mx (D := D) (f := g) (g := fun q => if q < p + 1 then numP D n q else 0) (t := t) (u := t) (a := a) (hge _ q)).2
                rw [this]
                exact v5 a hal
          have hlt : ∀ q, (if q < p + 1 then numP D n q else 0) < ordP D q := fun q => by
            have h1 := numP_lt D n q
            have h2 := ordP_pos D q
            split <;> omega
          refine X3_nextRow_ok p rfl hW hp (by rw [fpp]; exact numP_lt D n p) (by omega) hRv (fun hmore w2 hR2 o2 => ?_) (fun hlast w2 hR2 o2 => ?_)
          · rw [fpp] at hmore hR2
            refine after _ 1 w2 (fun q hq => ?_) (fun q hq => if_neg hq) hR2 o2 (fun w4 hR4 hV4 o4 => ⟨fun k => absurd k (by decide), fun _ => ?_⟩)
            · by_cases y2 : q = p
              · rw [if_pos y2, y2]; exact hmore
              · rw [if_neg y2]; exact hlt q
            · have ev : ∀ q, q < dN D → (if q = p then numP D n p + 1 else (if q < p + 1 then numP D n q else 0)) = numP D (n + 1) q := (fun q hq => by
                rw [adv_num hp hmod hmore q hq]
                by_cases y2 : q = p
                · rw [if_pos y2, if_pos y2]
                · rw [if_neg y2, if_neg y2]
                  by_cases y3 : q < p
                  · rw [if_pos (by omega), if_pos y3]
                  · rw [if_neg (by omega), if_neg y3])
              have e : dMx D (fun q => if q = p then numP D n p + 1 else (if q < p + 1 then numP D n q else 0)) (fun _ => false) = dOrd D (n + 1) := dMx_congr hW ev
              have e' : dMx D (fun q => if q = p then numP D n p + 1 else (if q < p + 1 then numP D n q else 0)) t = dMx D (numP D (n + 1)) t := dMx_congr hW ev
              rw [e] at hR4
              rw [e'] at hV4
              exact hQ w4 hR4 hV4 o4
          · rw [fpp] at hlast
            refine after _ 0 w2 (fun q hq => ?_) (fun q hq => if_neg hq) hR2 o2 (fun w4 hR4 hV4 o4 => ⟨fun _ => ?_, fun k => absurd (by decide) k⟩)
            · by_cases y2 : q = p
              · rw [if_pos y2]; exact ordP_pos D q
              · rw [if_neg y2]; exact hlt q
            · have ev : ∀ q, q < dN D → (if q = p then 0 else (if q < p + 1 then numP D n q else 0)) = (if q < p then numP D n q else 0) := (fun q hq => by
                by_cases y2 : q = p
                · rw [if_pos y2, if_neg (by omega)]
                · rw [if_neg y2]
                  by_cases y3 : q < p
                  · rw [if_pos (by omega), if_pos y3]
                  · rw [if_neg (by omega), if_neg y3])
              have e : dMx D (fun q => if q = p then 0 else (if q < p + 1 then numP D n q else 0)) (fun _ => false) = dMx D (fun q => if q < p then numP D n q else 0) (fun _ => false) := dMx_congr hW ev
              have e' : dMx D (fun q => if q = p then 0 else (if q < p + 1 then numP D n q else 0)) t = dMx D (fun q => if q < p then numP D n q else 0) t := dMx_congr hW ev
              rw [e] at hR4
              rw [e'] at hV4
              rw [show (p : Int) + (-1) = (p : Int) - 1 by omega]
              exact ih p w4 (by omega) (by omega) hR4 hV4 (adv_wrap hp hmod hlast) o4
  unfold X3_advance
  intro y1 e1
  rw [hN] at e1
  subst e1
  have e : dOrd D n = dMx D (fun q => if q < dN D then numP D n q else 0) (fun _ => false) := dMx_congr hW (fun q hq => by rw [if_pos hq])
  have e' : dMx D (numP D n) t = dMx D (fun q => if q < dN D then numP D n q else 0) t := dMx_congr hW (fun q hq => by rw [if_pos hq])
  rw [e] at hR
  rw [e'] at hV
  refine ⟨dN D + 1, loop (dN D + 1) (dN D) w (by omega) (by omega) hR hV ?_ (fun _ _ _ _ _ => rfl)⟩
  have : ltt D (dN D) = 1 := by unfold ltt; rw [Nat.sub_self]; rfl
  rw [this, Nat.mod_one]
theorem X3_advance_ok {Q : Wd → Prop} {w : Wd} {D : Dw} (n : Nat) (hW : WF D) (hR : RepX w 42 (dOrd D n)) (hV : RepW w 46 (dOrd D n)) (hQ : ∀ w', RepX w' 42 (dOrd D (n + 1)) → RepW w' 46 (dOrd D (n + 1)) → (∀ c j, c ≠ 45 → c ≠ 47 → c ≠ 48 → w' c j = w c j) → Q w') : X3_advance w Q := X3_advance_okt n hW hR hV hQ
