/-! ORDERS at the class: how many, and one by its number -/
theorem lcm_v (a b : Int) : wr (lcm a b) = if wl b < wl a then 1 else if wl a = wl b then 0 else -1 := by
  unfold lcm lg_cmp
  have h1 : (Int64.ofInt a > Int64.ofInt b) ↔ wl b < wl a := Int64.lt_iff_toInt_lt
  have h2 : (Int64.ofInt a = Int64.ofInt b) ↔ wl a = wl b := Int64.toInt_inj.symm
  by_cases z : wl b < wl a
  · rw [if_pos (h1.mpr z), if_pos z]; decide
  · rw [if_neg (fun y => z (h1.mp y)), if_neg z]
    by_cases y : wl a = wl b
    · rw [if_pos (h2.mpr y), if_pos y]; decide
    · rw [if_neg (fun q => y (h2.mp q)), if_neg y]; decide
theorem lcm_i {a b : Int} (ha : wl a = a) (hb : wl b = b) : (wr (lcm a b) ≤ 0 ↔ a ≤ b) ∧ (0 ≤ wr (lcm a b) ↔ b ≤ a) ∧ (wr (lcm a b) = 0 ↔ a = b) ∧ (0 < wr (lcm a b) ↔ b < a) := by
  rw [lcm_v, ha, hb]
  by_cases z : b < a
  · rw [if_pos z]; omega
  · rw [if_neg z]
    by_cases y : a = b
    · rw [if_pos y]; omega
    · rw [if_neg y]; omega
theorem ldv_nat {a b : Nat} (ha : a < 9223372036854775808) (h0 : 0 < b) (hb : b < 9223372036854775808) : ldv (a : Int) (b : Int) = ((a / b : Nat) : Int) := by
  unfold ldv
  rw [nlo, nlo, pk_lDiv ha h0 hb, lN_int (by have := Nat.div_le_self a b; omega)]
theorem lrm_nat {a b : Nat} (ha : a < 9223372036854775808) (h0 : 0 < b) (hb : b < 9223372036854775808) : lrm (a : Int) (b : Int) = ((a % b : Nat) : Int) := by
  unfold lrm
  rw [ldv_nat ha h0 hb]
  have := Nat.div_add_mod a b
  have h2 : ((a / b : Nat) : Int) * (b : Int) = ((b * (a / b) : Nat) : Int) := by rw [Nat.mul_comm]; push_cast; rfl
  rw [h2]
  omega
theorem facs_v : ∀ i : Fin 10, facs.getD i.val 0 = (fac i.val : Int) := by decide
theorem fac_bd : ∀ i : Fin 10, fac i.val ≤ 362880 := by decide
theorem X3_factorial_ok {Q : Int → Wd → Prop} {w : Wd} {x : Int} (i : Nat) (hx : x = (i : Int)) (hi : i < 10) (hQ : Q (fac i : Int) w) : X3_factorial x w Q := by
  subst hx
  have hb := fac_bd ⟨i, hi⟩
  have hb : fac i ≤ 362880 := hb
  unfold X3_factorial
  rw [wr_nat (n := i) (by omega), show wr 10 = 10 by decide, show ((i : Int)).toNat = i by omega, facs_v ⟨i, hi⟩]
  show ((i : Int) < 0 → _) ∧ (¬ (i : Int) < 0 → (((i : Int) < 10 → (ix (i : Int) 10 ∧ Q (wr (fac i : Int)) w)) ∧ _))
  rw [wr_nat (n := fac i) (by omega)]
  exact ⟨fun z => by omega, fun _ => ⟨fun _ => ⟨ix_of rfl hi (by decide), hQ⟩, fun z => by omega⟩⟩
theorem X3_ordersOf_ok {r : Nat} {Q : Int → Wd → Prop} {w : Wd} {D : Dw} {x : Int} (p : Nat) (hx : x = (p : Int)) (hW : WF D) (hR : RepX w r D) (hp : p < dN D) (hQ : Q (ordP D p : Int) w) : X3_ordersOf r x w Q := by
  subst hx
  have n6 := hW.1
  have m10 := hW.2.1
  have hd := hW.deg hp
  have ho := ordP_bd D p
  unfold X3_ordersOf
  rw [rd_of rfl (by omega), hR.2.2.2.2.1 p hp]
  refine ⟨ix_of rfl (by omega) (by decide), ?_⟩
  have eo : ordP D p = fac (dG D p - 1) := by unfold ordP; rw [deg_dgc hW hp]
  by_cases z : dG D p = 0
  · have e1 : ordP D p = 1 := by rw [eo, z]; rfl
    rw [e1] at hQ
    rw [z]
    unfold X3_factorial X3_factorial_b12
    exact ⟨fun _ => hQ, fun y => absurd (by decide) y⟩
  · refine X3_factorial_ok (dG D p - 1) (by omega) (by omega) ?_
    rw [← eo, wr_nat (by omega)]
    exact hQ
theorem X3_howMany_ok {r : Nat} {Q : Int → Wd → Prop} {w : Wd} {D : Dw} (hW : WF D) (hR : RepX w r D) (hQ : Q (totO D : Int) w) : X3_howMany r w Q := by
  have n6 := hW.1
  have hb := totO_bd D
  have loop : ∀ (m p : Nat), p ≤ dN D → dN D - p < m → X3_howMany_l4 r Q (X3_howMany_b27 r Q) m (prd (ordP D) 0 p : Int) (p : Int) w := by
    intro m
    induction m with
    | zero => intro p a1 a2; omega
    | succ m ih =>
      intro p a1 a2
      unfold X3_howMany_l4
      rw [hR.1, wr_nat (n := dN D) (by omega), wr_nat (n := p) (by omega)]
      refine ⟨fun z => ?_, fun z => ?_⟩
      · have : p = dN D := by omega
        subst this
        unfold X3_howMany_b27
        have hb : prd (ordP D) 0 (dN D) ≤ 1099511627776 := hb
        rw [wl_nat (by omega)]
        exact hQ
      · have ho := ordP_bd D p
        refine X3_ordersOf_ok p rfl hW hR (by omega) ?_
        intro y3 e3
        rw [wr_nat (n := ordP D p) (by omega)] at e3
        have e4 : y3 = ((prd (ordP D) 0 (p + 1) : Nat) : Int) := by
          rw [e3]
          show _ = ((prd (ordP D) 0 p * ordP D (0 + p) : Nat) : Int)
          rw [Nat.zero_add]
          push_cast
          rfl
        rw [e4, show (p : Int) + 1 = ((p + 1 : Nat) : Int) by omega]
        exact ih (p + 1) (by omega) (by omega)
  exact ⟨dN D + 1, loop (dN D + 1) 0 (by omega) (by omega)⟩
/-- a set of lines as bits -/
def Msk (L : Nat) (f : Nat → Bool) : Prop := L < 1024 ∧ ∀ e, e < 10 → L.testBit e = f e
theorem Msk.set {L x : Nat} {f : Nat → Bool} (h : Msk L f) (hx : x < 10) : Msk (L ||| 2 ^ x) (fun e => f e || decide (e = x)) := by
  refine ⟨Nat.or_lt_two_pow (n := 10) h.1 (Nat.pow_lt_pow_right (by decide) hx), fun e he => ?_⟩
  rw [bor_bit, h.2 e he]
theorem Msk.clr {L x : Nat} {f : Nat → Bool} (h : Msk L f) (hx : x < 10) : Msk (L &&& (4294967295 - 2 ^ x)) (fun e => f e && decide (e ≠ x)) := by
  have hp : 2 ^ x < 2 ^ 10 := Nat.pow_lt_pow_right (by decide) hx
  refine ⟨Nat.lt_of_le_of_lt Nat.and_le_left h.1, fun e he => ?_⟩
  rw [Nat.testBit_and, tb_not (by omega), Nat.testBit_two_pow, h.2 e he, decide_eq_true (show e < 32 by omega)]
  by_cases z : e = x
  · rw [z]; simp
  · have : x ≠ e := fun y => z y.symm
    simp [z, this]
theorem Msk.ext {L : Nat} {f g : Nat → Bool} (h : Msk L f) (e : ∀ i, i < 10 → f i = g i) : Msk L g := ⟨h.1, fun i hi => by rw [h.2 i hi, e i hi]⟩
theorem X3_lowestBut_ok {Q : Int → Wd → Prop} {w : Wd} {x y : Int} {f : Nat → Bool} (L j : Nat) (hx : x = (L : Int)) (hy : y = (j : Int)) (hL : Msk L f) (hj : j < cnt f 10) (hQ : Q (nth f 10 j : Int) w) : X3_lowestBut x y w Q := by
  subst hx hy
  have hc := cnt_le (f := f) 10
  have h1024 := hL.1
  have loop : ∀ (m e r : Nat), e ≤ 10 → 10 - e < m → cnt f e + r = j → X3_lowestBut_l4 Q (X3_lowestBut_b22 Q) (X3_lowestBut_b33 Q) m (L : Int) (r : Int) (e : Int) w := by
    intro m
    induction m with
    | zero => intro e r a1 a2; omega
    | succ m ih =>
      intro e r a1 a2 hr
      unfold X3_lowestBut_l4
      rw [wr_nat (n := e) (by omega), wr_nat (n := r) (by omega), show wr 10 = 10 by decide, show (e : Int) + 1 = ((e + 1 : Nat) : Int) by omega]
      refine ⟨fun z => ?_, fun z => ?_⟩
      · have : e = 10 := by omega
        subst this
        omega
      · rw [isr_bit (by omega) (by omega), hL.2 e (by omega)]
        cases q : f e
        · refine ⟨fun _ => ih (e + 1) r (by omega) (by omega) (by rw [cnt_n q]; exact hr), fun y => absurd (by decide) y⟩
        · refine ⟨fun y => absurd y (by decide), fun _ => ⟨fun y => ?_, fun y => ?_⟩⟩
          · have e1 := nth_uq (f := f) (m := 10) (e := e) (i := j) (by omega) q (by omega)
            unfold X3_lowestBut_b22
            rw [wr_nat (n := e) (by omega), ← e1]
            exact hQ
          · rw [show (r : Int) + (-1) = ((r - 1 : Nat) : Int) by omega]
            exact ih (e + 1) (r - 1) (by omega) (by omega) (by rw [cnt_y q]; omega)
  exact ⟨11, loop 11 0 j (by omega) (by omega) (by show 0 + j = j; omega)⟩
theorem fac_split {c K : Nat} (hK : K < fac (c + 1)) : K / fac c < c + 1 := Nat.div_lt_of_lt_mul (by rw [Nat.mul_comm]; exact hK)
theorem delR_congr {L M : Nat → Nat} {n j : Nat} (h : ∀ i, i < n + 1 → L i = M i) : ∀ i, i < n → delR L j i = delR M j i := fun i hi => by
  unfold delR
  split
  · exact h i (by omega)
  · exact h (i + 1) (by omega)
theorem X3_lineInOrder_ok {r : Nat} {Q : Int → Wd → Prop} {w : Wd} {D : Dw} {x1 x2 x3 : Int} (n p i : Nat) (h1 : x1 = (n : Int)) (h2 : x2 = (p : Int)) (h3 : x3 = (i : Int)) (hn : n < 2147483648) (hW : WF D) (hR : RepX w r D) (hp : p < dN D) (hi : i < dG D p) (hQ : Q (dR (dOrd D n) p i : Int) w) : X3_lineInOrder r x1 x2 x3 w Q := by
  subst h1 h2 h3
  have n6 := hW.1
  have m10 := hW.2.1
  have hdg := hW.deg hp
  have hdc := deg_dgc hW hp
  have hlb := latP_bd D p
  have hlp := latP_pos D p
  have hob := ordP_bd D p
  have hop := ordP_pos D p
  have hK0 := numP_lt D n p
  obtain ⟨d, hd⟩ : ∃ d, dgc D p = d + 1 := ⟨dgc D p - 1, by omega⟩
  have hi' : i < d + 1 := by omega
  have hQ : Q (decF (d + 1) (srt D p) (numP D n p) i : Int) w := by rw [← hd]; exact hQ
  have eo : ordP D p = fac d := by unfold ordP; rw [hd]; rfl
  rw [eo] at hK0
  -- the row itself
  have rows : ∀ (m t M : Nat) (f : Nat → Bool) (j K : Nat), 1 ≤ t → t ≤ i + 1 → i + 1 - t < m → Msk M f → cnt f 10 = d + 2 - t → j < cnt f 10 → K < fac (d + 1 - t) → nth f 10 j = decF (d + 1) (srt D p) (numP D n p) (t - 1) → (∀ s, s < d + 1 - t → decF (d + 1) (srt D p) (numP D n p) (t + s) = decF (d + 1 - t) (delR (nth f 10) j) K s) → X3_lineInOrder_l116 r Q (X3_lineInOrder_b178 r Q) m (p : Int) (i : Int) (K : Int) (M : Int) (nth f 10 j : Int) (t : Int) w := by
    intro m
    induction m with
    | zero => intro t M f j K a0 a1 a2; omega
    | succ m ih =>
      intro t M f j K a0 a1 a2 hM hc hj hK hln hrest
      obtain ⟨q1, q2, q3⟩ := nth_ok (f := f) 10 j hj
      have hcl := cnt_le (f := f) 10
      unfold X3_lineInOrder_l116
      rw [wr_nat (n := i) (by omega), wr_nat (n := t) (by omega), rd_of rfl (by omega), hR.2.2.2.2.1 p hp]
      refine ⟨fun z => ?_, fun z => ?_⟩
      · have : t = i + 1 := by omega
        subst this
        unfold X3_lineInOrder_b178
        rw [wr_nat (n := nth f 10 j) (by omega), hln]
        exact hQ
      · intro y13 e13
        obtain ⟨c, hce⟩ : ∃ c, d + 1 - t = c + 1 := ⟨d - t, by omega⟩
        have hpw : 2 ^ nth f 10 j < 2 ^ 10 := Nat.pow_lt_pow_right (by decide) q1
        have hM1 := hM.1
        rw [isl1 (by omega), ian_not (by omega) (by omega)] at e13
        subst e13
        have hM' := hM.clr q1
        obtain ⟨nd1, nd2⟩ := nth_del (f := f) (g := fun e => f e && decide (e ≠ nth f 10 j)) (m := 10) hj (fun e _ => rfl)
        have hc' : cnt (fun e => f e && decide (e ≠ nth f 10 j)) 10 = c + 1 := by omega
        refine ⟨ix_of rfl (by omega) (by decide), X3_factorial_ok c (by omega) (by omega) ?_⟩
        have hfb := fac_bd ⟨c, by omega⟩
        have hfb : fac c ≤ 362880 := hfb
        have hfp := fac_pos c
        intro y16 e16
        rw [show (1 : Int) = ((1 : Nat) : Int) from rfl, imx_nat (by omega) (by omega), show max 1 (fac c) = fac c by omega] at e16
        subst e16
        rw [hce] at hK
        have hfb2 : fac (c + 1) ≤ 10 * 362880 := by
          show (c + 1) * fac c ≤ _
          exact Nat.mul_le_mul (by omega) hfb
        have hj' := fac_split hK
        rw [wr_nat (n := fac c) (by omega), idv_nat (by omega) hfp (by omega), irm_nat (by omega) hfp (by omega)]
        refine ⟨by omega, X3_lowestBut_ok _ (K / fac c) rfl rfl hM' (by rw [hc']; exact hj') ⟨by omega, fun y19 e19 => ?_⟩⟩
        subst e19
        rw [show (t : Int) + 1 = ((t + 1 : Nat) : Int) by omega]
        have hrest' := hrest
        rw [hce] at hrest'
        refine ih (t + 1) _ _ (K / fac c) (K % fac c) (by omega) (by omega) (by omega) hM' (by omega) (by rw [hc']; exact hj') (by rw [show d + 1 - (t + 1) = c by omega]; exact Nat.mod_lt _ hfp) ?_ (fun s hs => ?_)
        · have h4 : decF (d + 1) (srt D p) (numP D n p) t = delR (nth f 10) j (K / fac c) := hrest' 0 (by omega)
          rw [show t + 1 - 1 = t by omega, h4, nd2 _ (by rw [hc']; exact hj')]
        · have h4 := hrest' (s + 1) (by omega)
          rw [decF_s] at h4
          rw [show t + 1 + s = t + (s + 1) by omega, h4, show d + 1 - (t + 1) = c by omega]
          exact decF_congr c (Nat.mod_lt _ hfp) (by omega) (delR_congr (fun u hu => (nd2 u (by omega)).symm))
  -- its lines
  have lines : ∀ (m k M : Nat) (f : Nat → Bool), k ≤ dG D p → dG D p - k < m → Msk M f → (∀ e, f e = true ↔ ∃ j, j < k ∧ dR D p j = e) → X3_lineInOrder_l74 r Q (X3_lineInOrder_b105 r Q) m (p : Int) (i : Int) (numP D n p : Int) (M : Int) (k : Int) w := by
    intro m
    induction m with
    | zero => intro k M f a1 a2; omega
    | succ m ih =>
      intro k M f a1 a2 hM hf
      unfold X3_lineInOrder_l74
      rw [rd_of rfl (by omega), hR.2.2.2.2.1 p hp, wr_nat (n := dG D p) (by omega), wr_nat (n := k) (by omega)]
      refine ⟨ix_of rfl (by omega) (by decide), fun z => ?_, fun z => ?_⟩
      · have hk : k = dG D p := by omega
        subst hk
        have hM' : Msk M (pl D p) := hM.ext (fun e _ => by
          rw [Bool.eq_iff_iff, hf e, pl_iff]
          exact ⟨fun ⟨j, j1, j2⟩ => by rw [← j2]; exact hW.2.2.2.2.1 p j hp j1, fun k => hW.2.2.2.2.2.2 p e hp k.1 k.2⟩)
        unfold X3_lineInOrder_b105
        refine X3_lowestBut_ok M 0 rfl rfl hM' (by show 0 < dgc D p; omega) ⟨i + 1, ?_⟩
        have hz : numP D n p / fac d = 0 := Nat.div_eq_of_lt hK0
        refine rows (i + 1) 1 M (pl D p) 0 (numP D n p) (by omega) (by omega) (by omega) hM' (by show dgc D p = _; omega) (by show 0 < dgc D p; omega) (by rw [show d + 1 - 1 = d by omega]; exact hK0) ?_ (fun s hs => ?_)
        · rw [show 1 - 1 = 0 from rfl, decF_0, hz]; rfl
        · rw [show 1 + s = s + 1 by omega, decF_s, hz, Nat.mod_eq_of_lt hK0, show d + 1 - 1 = d by omega]; rfl
      · have hrow := (hW.2.2.2.2.1 p k hp (by omega)).1
        unfold X1_lineAt
        rw [rd_of (n := 10 * p + k) (by omega) (by omega), hR.2.2.2.2.2 p k hp (by omega), wr_nat (n := dR D p k) (by omega)]
        refine ⟨ix_of (n := 10 * p + k) (by omega) (by omega) (by decide), fun y10 e10 => ?_⟩
        have hpw : 2 ^ dR D p k < 2 ^ 10 := Nat.pow_lt_pow_right (by decide) (by omega)
        have hM1 := hM.1
        rw [isl1 (by omega), ior_nat (by omega) (by omega)] at e10
        subst e10
        rw [show (k : Int) + 1 = ((k + 1 : Nat) : Int) by omega]
        refine ih (k + 1) _ _ (by omega) (by omega) (hM.set (by omega)) (fun e => ?_)
        rw [Bool.or_eq_true, hf e, decide_eq_true_eq]
        constructor
        · rintro (⟨j, j1, j2⟩ | y)
          · exact ⟨j, by omega, j2⟩
          · exact ⟨k, by omega, y.symm⟩
        · rintro ⟨j, j1, j2⟩
          by_cases y : j = k
          · right; rw [← j2, y]
          · left; exact ⟨j, by omega, j2⟩
  -- the posts behind
  have posts : ∀ (m q : Nat), p + 1 ≤ q → q ≤ dN D → dN D - q < m → X3_lineInOrder_l8 r Q (X3_lineInOrder_b35 r Q) m (n : Int) (p : Int) (i : Int) (prd (ordP D) (p + 1) (q - (p + 1)) : Int) (q : Int) w := by
    intro m
    induction m with
    | zero => intro q a0 a1 a2; omega
    | succ m ih =>
      intro q a0 a1 a2
      unfold X3_lineInOrder_l8
      rw [hR.1, wr_nat (n := dN D) (by omega), wr_nat (n := q) (by omega)]
      refine ⟨fun z => ?_, fun z => ?_⟩
      · have hq : q = dN D := by omega
        have el : prd (ordP D) (p + 1) (q - (p + 1)) = latP D p := by unfold latP; rw [hq, show dN D - (p + 1) = dN D - 1 - p by omega]
        rw [el]
        unfold X3_lineInOrder_b35
        refine X3_ordersOf_ok p rfl hW hR hp ?_
        have hz : wl 0 = 0 := by decide
        have hl := lcm_i (a := (latP D p : Int)) (b := 0) (wl_nat (by omega)) hz
        rw [wr_nat (n := ordP D p) (by omega), wr_nat (n := n) hn, wl_nat (n := latP D p) (by omega), wl_nat (n := ordP D p) (by omega), ldv_nat (by omega) hlp (by omega), lrm_nat (by have := Nat.div_le_self n (latP D p); omega) hop (by omega)]
        refine ⟨fun y => by have := hl.1.mp y; omega, fun _ => ⟨fun _ => ⟨by omega, by omega, fun y7 e7 => ⟨dG D p + 1, ?_⟩⟩, fun y => by omega⟩⟩
        rw [e7]
        refine lines (dG D p + 1) 0 0 (fun _ => false) (by omega) (by omega) ⟨by omega, fun e _ => by simp⟩ (fun e => ⟨fun k => absurd k (by decide), fun ⟨j, j1, _⟩ => by omega⟩)
      · have ho := ordP_bd D q
        refine X3_ordersOf_ok q rfl hW hR (by omega) ?_
        intro y4 e4
        rw [wr_nat (n := ordP D q) (by omega)] at e4
        have e5 : y4 = ((prd (ordP D) (p + 1) (q + 1 - (p + 1)) : Nat) : Int) := by
          rw [e4, show q + 1 - (p + 1) = (q - (p + 1)) + 1 by omega]
          show _ = ((prd (ordP D) (p + 1) (q - (p + 1)) * ordP D (p + 1 + (q - (p + 1))) : Nat) : Int)
          rw [show p + 1 + (q - (p + 1)) = q by omega]
          push_cast
          rfl
        rw [e5, show (q : Int) + 1 = ((q + 1 : Nat) : Int) by omega]
        exact ih (q + 1) (by omega) (by omega) (by omega)
  unfold X3_lineInOrder
  intro y1 e1
  rw [show (p : Int) + 1 = ((p + 1 : Nat) : Int) by omega] at e1
  subst e1
  have := posts (dN D + 1) (p + 1) (by omega) (by omega) (by omega)
  rw [show p + 1 - (p + 1) = 0 by omega] at this
  exact ⟨dN D + 1, this⟩
