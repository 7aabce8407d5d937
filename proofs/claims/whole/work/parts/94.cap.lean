/-! CAPPED: lines that may be twisted, in all ways -/
def pdp : Nat → Nat → Nat → Nat
  | 0, _, _ => 0
  | w + 1, L, k => if L % 2 = 1 then 2 * pdp w (L / 2) (k / 2) + k % 2 else 2 * pdp w (L / 2) k
theorem pdp_lt : ∀ (w L k : Nat), pdp w L k < 2 ^ w
  | 0, _, _ => by show 0 < 1; omega
  | w + 1, L, k => by
    have h1 := pdp_lt w (L / 2) (k / 2)
    have h2 := pdp_lt w (L / 2) k
    unfold pdp
    rw [Nat.pow_succ]
    split <;> omega
theorem tb_s (x i : Nat) : x.testBit (i + 1) = (x / 2).testBit i := Nat.testBit_succ x i
theorem tb_0 (x : Nat) : x.testBit 0 = decide (x % 2 = 1) := Nat.testBit_zero x
theorem pdp_sub : ∀ (w L k i : Nat), (pdp w L k).testBit i = true → L.testBit i = true
  | 0, L, k, i, h => by
    have h : (0 : Nat).testBit i = true := h
    simp at h
  | w + 1, L, k, i, h => by
    unfold pdp at h
    match i with
    | 0 =>
      rw [tb_0] at h ⊢
      split at h
      · rename_i z; exact decide_eq_true z
      · have := of_decide_eq_true h; omega
    | i + 1 =>
      rw [tb_s] at h ⊢
      split at h
      · rw [show (2 * pdp w (L / 2) (k / 2) + k % 2) / 2 = pdp w (L / 2) (k / 2) by omega] at h
        exact pdp_sub w _ _ i h
      · rw [show 2 * pdp w (L / 2) k / 2 = pdp w (L / 2) k by omega] at h
        exact pdp_sub w _ _ i h
theorem cnt_shift (L : Nat) : ∀ e, cnt L.testBit (e + 1) = L % 2 + cnt (L / 2).testBit e
  | 0 => by
    show 0 + (if L.testBit 0 then 1 else 0) = L % 2 + 0
    rw [tb_0]
    by_cases z : L % 2 = 1
    · rw [decide_eq_true z, z]; rfl
    · rw [decide_eq_false z]
      have : L % 2 = 0 := by omega
      rw [this]; rfl
  | e + 1 => by
    show cnt L.testBit (e + 1) + (if L.testBit (e + 1) then 1 else 0) = L % 2 + (cnt (L / 2).testBit e + (if (L / 2).testBit e then 1 else 0))
    rw [cnt_shift L e, tb_s]
    omega
theorem pdp_bit : ∀ (w L k e : Nat), e < w → (pdp w L k).testBit e = (L.testBit e && k.testBit (cnt L.testBit e))
  | 0, _, _, _, h => by omega
  | w + 1, L, k, 0, _ => by
    have e0 : cnt L.testBit 0 = 0 := rfl
    unfold pdp
    rw [e0, tb_0, tb_0, tb_0]
    by_cases z : L % 2 = 1
    · rw [if_pos z, decide_eq_true z, Bool.true_and]
      congr 1
      rw [show (2 * pdp w (L / 2) (k / 2) + k % 2) % 2 = k % 2 by omega]
    · rw [if_neg z, decide_eq_false z, Bool.false_and]
      exact decide_eq_false (by omega)
  | w + 1, L, k, e + 1, h => by
    unfold pdp
    rw [cnt_shift, tb_s, tb_s L]
    by_cases z : L % 2 = 1
    · rw [if_pos z, show (2 * pdp w (L / 2) (k / 2) + k % 2) / 2 = pdp w (L / 2) (k / 2) by omega, pdp_bit w _ _ e (by omega), z, Nat.add_comm 1, tb_s k]
    · rw [if_neg z, show 2 * pdp w (L / 2) k / 2 = pdp w (L / 2) k by omega, pdp_bit w _ _ e (by omega), show L % 2 = 0 by omega, Nat.zero_add]
theorem and_2 (a b i j : Nat) (hi : i < 2) (hj : j < 2) : (2 * a + i) &&& (2 * b + j) = 2 * (a &&& b) + (if i = 1 ∧ j = 1 then 1 else 0) := by
  apply Nat.eq_of_testBit_eq
  intro n
  rw [Nat.testBit_and]
  match n with
  | 0 =>
    rw [tb_0, tb_0, tb_0]
    by_cases z : i = 1 ∧ j = 1
    · rw [if_pos z, decide_eq_true (by omega), decide_eq_true (by omega), decide_eq_true (by omega)]; rfl
    · rw [if_neg z, decide_eq_false (show ¬ (2 * (a &&& b) + 0) % 2 = 1 by omega)]
      by_cases y : i = 1
      · rw [decide_eq_false (show ¬ (2 * b + j) % 2 = 1 by omega), Bool.and_false]
      · rw [decide_eq_false (show ¬ (2 * a + i) % 2 = 1 by omega), Bool.false_and]
  | n + 1 =>
    rw [tb_s, tb_s, tb_s, show (2 * a + i) / 2 = a by omega, show (2 * b + j) / 2 = b by omega, ← Nat.testBit_and]
    congr 1
    split <;> omega
theorem or_2 (a b i j : Nat) (hi : i < 2) (hj : j < 2) : (2 * a + i) ||| (2 * b + j) = 2 * (a ||| b) + (if i = 1 ∨ j = 1 then 1 else 0) := by
  apply Nat.eq_of_testBit_eq
  intro n
  rw [Nat.testBit_or]
  match n with
  | 0 =>
    rw [tb_0, tb_0, tb_0]
    by_cases z : i = 1 ∨ j = 1
    · rw [if_pos z, decide_eq_true (show (2 * (a ||| b) + 1) % 2 = 1 by omega)]
      rcases z with y | y
      · rw [decide_eq_true (show (2 * a + i) % 2 = 1 by omega), Bool.true_or]
      · rw [decide_eq_true (show (2 * b + j) % 2 = 1 by omega), Bool.or_true]
    · rw [if_neg z, decide_eq_false (show ¬ (2 * (a ||| b) + 0) % 2 = 1 by omega), decide_eq_false (show ¬ (2 * a + i) % 2 = 1 by omega), decide_eq_false (show ¬ (2 * b + j) % 2 = 1 by omega)]
      rfl
  | n + 1 =>
    rw [tb_s, tb_s, tb_s, show (2 * a + i) / 2 = a by omega, show (2 * b + j) / 2 = b by omega, ← Nat.testBit_or]
    congr 1
    split <;> omega
theorem dj_add : ∀ (w a b : Nat), a < 2 ^ w → a &&& b = 0 → a + b = a ||| b
  | 0, a, b, h, _ => by
    have : a = 0 := by rw [Nat.pow_zero] at h; omega
    rw [this, Nat.zero_or, Nat.zero_add]
  | w + 1, a, b, h, h0 => by
    rw [Nat.pow_succ] at h
    have ea : a = 2 * (a / 2) + a % 2 := by omega
    have eb : b = 2 * (b / 2) + b % 2 := by omega
    rw [ea, eb, and_2 _ _ _ _ (by omega) (by omega)] at h0
    have h1 : a / 2 &&& b / 2 = 0 := by omega
    have ih := dj_add w (a / 2) (b / 2) (by omega) h1
    have h2 : ¬ (a % 2 = 1 ∧ b % 2 = 1) := fun y => by rw [if_pos y] at h0; omega
    conv => rhs; rw [ea, eb]
    rw [or_2 _ _ _ _ (by omega) (by omega), ← ih]
    split <;> omega
theorem sub_and {T L w : Nat} (hL : L < 2 ^ w) (h : ∀ i, T.testBit i = true → L.testBit i = true) : (T + (2 ^ w - 1 - L)) &&& L = T ∧ T + (2 ^ w - 1 - L) < 2 ^ w := by
  have hT : T < 2 ^ w := Nat.lt_pow_two_of_testBit T (fun i hi => by
    cases q : T.testBit i
    · rfl
    · have := h i q
      rw [Nat.testBit_lt_two_pow (Nat.lt_of_lt_of_le hL (Nat.pow_le_pow_right (by decide) hi))] at this
      exact absurd this (by decide))
  have hc : ∀ i, (2 ^ w - 1 - L).testBit i = (decide (i < w) && !L.testBit i) := fun i => by
    rw [Nat.sub_sub, Nat.add_comm 1 L]
    exact Nat.testBit_two_pow_sub_succ hL i
  have hd : T &&& (2 ^ w - 1 - L) = 0 := by
    apply Nat.eq_of_testBit_eq
    intro i
    rw [Nat.testBit_and, hc, Nat.zero_testBit]
    cases q : T.testBit i
    · rfl
    · rw [h i q]; simp
  have ho : T + (2 ^ w - 1 - L) = T ||| (2 ^ w - 1 - L) := dj_add w _ _ hT hd
  rw [ho]
  refine ⟨?_, Nat.or_lt_two_pow hT (by omega)⟩
  apply Nat.eq_of_testBit_eq
  intro i
  rw [Nat.testBit_and, Nat.testBit_or, hc]
  cases q : T.testBit i
  · cases q2 : L.testBit i
    · simp
    · simp
  · rw [h i q]; simp
theorem pdp_step : ∀ (w L k : Nat), L < 2 ^ w → (pdp w L k + 2 ^ w - L) % 2 ^ w &&& L = pdp w L (k + 1)
  | 0, L, k, h => by
    have : L = 0 := by rw [Nat.pow_zero] at h; omega
    rw [this, Nat.and_zero]
    rfl
  | w + 1, L, k, h => by
    have hp := Nat.two_pow_pos w
    rw [Nat.pow_succ] at h ⊢
    have hL' : L / 2 < 2 ^ w := by omega
    unfold pdp
    by_cases z : L % 2 = 1
    · rw [if_pos z, if_pos z]
      have hb := pdp_lt w (L / 2) (k / 2)
      have ih := pdp_step w (L / 2) (k / 2) hL'
      have eL : L = 2 * (L / 2) + 1 := by omega
      by_cases y : k % 2 = 1
      · have e1 : (2 * pdp w (L / 2) (k / 2) + k % 2 + 2 ^ w * 2 - L) % (2 ^ w * 2) = 2 * ((pdp w (L / 2) (k / 2) + 2 ^ w - L / 2) % 2 ^ w) + 0 := by
          rw [show 2 * pdp w (L / 2) (k / 2) + k % 2 + 2 ^ w * 2 - L = 2 * (pdp w (L / 2) (k / 2) + 2 ^ w - L / 2) by omega, Nat.mul_comm (2 ^ w) 2, Nat.mul_mod_mul_left]
          rfl
        rw [e1]
        conv => lhs; rw [eL]
        rw [show (2 * (L / 2) + 1) / 2 = L / 2 by omega, and_2 _ _ 0 1 (by omega) (by omega), if_neg (by omega), ih, show (k + 1) % 2 = 0 by omega, show (k + 1) / 2 = k / 2 + 1 by omega]
      · have hs := sub_and (T := pdp w (L / 2) (k / 2)) (L := L / 2) (w := w) hL' (fun i hi => pdp_sub w _ _ i hi)
        have e1 : (2 * pdp w (L / 2) (k / 2) + k % 2 + 2 ^ w * 2 - L) % (2 ^ w * 2) = 2 * (pdp w (L / 2) (k / 2) + (2 ^ w - 1 - L / 2)) + 1 := by
          rw [show 2 * pdp w (L / 2) (k / 2) + k % 2 + 2 ^ w * 2 - L = 2 * (pdp w (L / 2) (k / 2) + (2 ^ w - 1 - L / 2)) + 1 by omega]
          exact Nat.mod_eq_of_lt (by omega)
        rw [e1]
        conv => lhs; rw [eL]
        rw [show (2 * (L / 2) + 1) / 2 = L / 2 by omega, and_2 _ _ 1 1 (by omega) (by omega), if_pos ⟨rfl, rfl⟩, hs.1, show (k + 1) % 2 = 1 by omega, show (k + 1) / 2 = k / 2 by omega]
    · rw [if_neg z, if_neg z]
      have hb := pdp_lt w (L / 2) k
      have ih := pdp_step w (L / 2) k hL'
      have eL : L = 2 * (L / 2) + 0 := by omega
      have e1 : (2 * pdp w (L / 2) k + 2 ^ w * 2 - L) % (2 ^ w * 2) = 2 * ((pdp w (L / 2) k + 2 ^ w - L / 2) % 2 ^ w) + 0 := by
        rw [show 2 * pdp w (L / 2) k + 2 ^ w * 2 - L = 2 * (pdp w (L / 2) k + 2 ^ w - L / 2) by omega, Nat.mul_comm (2 ^ w) 2, Nat.mul_mod_mul_left]
        rfl
      rw [e1]
      conv => lhs; rw [eL]
      rw [show (2 * (L / 2) + 0) / 2 = L / 2 by omega, and_2 _ _ 0 0 (by omega) (by omega), if_neg (by omega), ih]
      rfl
theorem ofInt_shift (x : Int) : Int32.ofInt x = Int32.ofInt (x + 4294967296) := by
  apply Int32.toBitVec_inj.mp
  show BitVec.ofInt 32 x = BitVec.ofInt 32 (x + 4294967296)
  apply BitVec.eq_of_toInt_eq
  rw [BitVec.toInt_ofInt, BitVec.toInt_ofInt]
  have : (4294967296 : Int) = ((2 ^ 32 : Nat) : Int) := by decide
  rw [this, Int.add_bmod_right]
theorem ian_next {T L : Nat} (hT : T < 1024) (hL : L < 1024) : ian ((T : Int) - (L : Int)) (L : Int) = (((T + 1024 - L) % 1024 &&& L : Nat) : Int) := by
  have e1 : Int32.ofInt ((T : Int) - (L : Int)) = nI (T + 4294967296 - L) := by
    rw [ofInt_shift, show (T : Int) - (L : Int) + 4294967296 = ((T + 4294967296 - L : Nat) : Int) by omega, nio]
  have e2 : nI (T + 4294967296 - L) &&& nI L = nI ((T + 4294967296 - L) &&& L) := by
    apply Int32.toBitVec_inj.mp
    simp [nbv, Int32.toBitVec_and, BitVec.ofNat_and]
  have hle : (T + 4294967296 - L) &&& L ≤ L := Nat.and_le_right
  have e3 : (T + 4294967296 - L) &&& L = (T + 1024 - L) % 1024 &&& L := by
    have h1 : ((T + 4294967296 - L) &&& L) % 2 ^ 10 = ((T + 4294967296 - L) % 2 ^ 10) &&& (L % 2 ^ 10) := Nat.and_mod_two_pow
    rw [Nat.mod_eq_of_lt (show (T + 4294967296 - L) &&& L < 2 ^ 10 by omega), Nat.mod_eq_of_lt (show L < 2 ^ 10 by omega)] at h1
    rw [h1]
    congr 1
    omega
  unfold ian
  rw [e1, nio, e2, nI_toInt (by omega), e3]
/-- how many lines are loose -/
theorem loose_cnt {D : Dw} (hW : WF D) : ∀ k, k ≤ dM D → nPt D k + k = dN D + ccn (Loose D) k
  | 0, _ => by rw [nPt_zero]; rfl
  | k + 1, h => by
    have ih := loose_cnt hW k (by omega)
    by_cases z : Loose D k
    · rw [(nPt_same z).1, ccn_y z]; omega
    · have := nPt_less (D := D) (k := k) (hW.2.2.1 _ (by omega)) (hW.2.2.1 _ (by omega)) z
      rw [ccn_n z]; omega
noncomputable def lmk (D : Dw) : Nat := (bits_ex (fun e => @decide (e < dM D ∧ Loose D e) (Classical.propDecidable _)) 10).choose
theorem lmk_ok (D : Dw) : Bts (lmk D) 10 (fun e => e < dM D ∧ Loose D e) := by
  have h := (bits_ex (fun e => @decide (e < dM D ∧ Loose D e) (Classical.propDecidable _)) 10).choose_spec
  refine ⟨h.1, fun i hi => ?_⟩
  have := h.2 i hi
  show (lmk D).testBit i = true ↔ _
  unfold lmk
  rw [this]
  exact ⟨fun k => @of_decide_eq_true _ (Classical.propDecidable _) k, fun k => @decide_eq_true _ (Classical.propDecidable _) k⟩
theorem lmk_lt (D : Dw) : lmk D < 1024 := (lmk_ok D).1
theorem lmk_bit {D : Dw} (hW : WF D) (e : Nat) : (lmk D).testBit e = true ↔ e < dM D ∧ Loose D e := by
  have m10 := hW.2.1
  rcases Nat.lt_or_ge e 10 with z | z
  · exact (lmk_ok D).2 e z
  · rw [Nat.testBit_lt_two_pow (Nat.lt_of_lt_of_le (lmk_lt D) (show 1024 ≤ 2 ^ e from Nat.pow_le_pow_right (show 0 < 2 by decide) z))]
    exact ⟨fun k => absurd k (by decide), fun k => by omega⟩
theorem cnt_ccn {f : Nat → Bool} {P : Nat → Prop} : ∀ k, (∀ i, i < k → (f i = true ↔ P i)) → cnt f k = ccn P k
  | 0, _ => rfl
  | k + 1, h => by
    have ih := cnt_ccn k (fun i hi => h i (by omega))
    by_cases z : P k
    · rw [cnt_y ((h k (by omega)).mpr z), ccn_y z, ih]
    · rw [cnt_n (Bool.eq_false_iff.mpr (fun y => z ((h k (by omega)).mp y))), ccn_n z, ih]
def frD (D : Dw) : Nat := dM D - dN D
noncomputable def fre (D : Dw) : Nat := ccn (Loose D) (dM D)
theorem fre_cnt {D : Dw} (hW : WF D) : cnt (lmk D).testBit 10 = fre D ∧ fre D + dN D = dM D + nPt D (dM D) ∧ fre D ≤ 10 := by
  have m10 := hW.2.1
  have h1 : cnt (lmk D).testBit 10 = cnt (lmk D).testBit (dM D) := cnt_ext 10 m10 (fun i h1 _ => Bool.eq_false_iff.mpr (fun y => by have := ((lmk_bit hW i).mp y).1; omega))
  have h2 : cnt (lmk D).testBit (dM D) = fre D := cnt_ccn _ (fun i hi => ⟨fun y => ((lmk_bit hW i).mp y).2, fun y => (lmk_bit hW i).mpr ⟨hi, y⟩⟩)
  have h3 := loose_cnt hW (dM D) (Nat.le_refl _)
  have h4 := cnt_le (f := (lmk D).testBit) 10
  refine ⟨by rw [h1, h2], ?_, by omega⟩
  show ccn (Loose D) (dM D) + dN D = _
  omega
/-- the k-th way to twist loose lines -/
noncomputable def tK (D : Dw) (k : Nat) : Nat → Bool := (pdp 10 (lmk D) k).testBit
theorem tK_m {D : Dw} (hW : WF D) {k e : Nat} (h : tK D k e = true) : e < dM D ∧ Loose D e := (lmk_bit hW e).mp (pdp_sub 10 _ _ e h)
theorem tK_zero (D : Dw) : tK D 0 = fun _ => false := by
  have : ∀ w L, pdp w L 0 = 0 := by
    intro w
    induction w with
    | zero => intro L; rfl
    | succ w ih => intro L; unfold pdp; rw [Nat.zero_div, ih]; split <;> rfl
  funext e
  unfold tK
  rw [this, Nat.zero_testBit]
noncomputable def cnK (D : Dw) (n : Nat) : Nat → Nat
  | 0 => 1000
  | k + 1 => min (cnK D n k) (cpv D n (tK D k))
noncomputable def mmK (D : Dw) : Nat → Nat
  | 0 => 1000
  | n + 1 => min (mmK D n) (cnK D n (2 ^ fre D))
theorem cnK_le {D : Dw} (n : Nat) : ∀ k j, j < k → cnK D n k ≤ cpv D n (tK D j)
  | 0, j, h => by omega
  | k + 1, j, h => by
    show min (cnK D n k) (cpv D n (tK D k)) ≤ _
    by_cases z : j = k
    · rw [z]; omega
    · have := cnK_le (D := D) n k j (by omega)
      omega
theorem cnK_ex {D : Dw} (n : Nat) : ∀ k, cnK D n k = 1000 ∨ ∃ j, j < k ∧ cnK D n k = cpv D n (tK D j)
  | 0 => Or.inl rfl
  | k + 1 => by
    have e : cnK D n (k + 1) = min (cnK D n k) (cpv D n (tK D k)) := rfl
    rw [e]
    rcases Nat.le_total (cnK D n k) (cpv D n (tK D k)) with z | z
    · rw [Nat.min_eq_left z]
      rcases cnK_ex n k with h | ⟨j, h1, h2⟩
      · exact Or.inl h
      · exact Or.inr ⟨j, by omega, h2⟩
    · rw [Nat.min_eq_right z]
      exact Or.inr ⟨k, by omega, rfl⟩
theorem mmK_le {D : Dw} : ∀ k n, n < k → mmK D k ≤ cnK D n (2 ^ fre D)
  | 0, n, h => by omega
  | k + 1, n, h => by
    show min (mmK D k) (cnK D k (2 ^ fre D)) ≤ _
    by_cases z : n = k
    · rw [z]; omega
    · have := mmK_le (D := D) k n (by omega)
      omega
theorem mmK_ex {D : Dw} : ∀ k, mmK D k = 1000 ∨ ∃ n j, n < k ∧ j < 2 ^ fre D ∧ mmK D k = cpv D n (tK D j)
  | 0 => Or.inl rfl
  | k + 1 => by
    have e : mmK D (k + 1) = min (mmK D k) (cnK D k (2 ^ fre D)) := rfl
    rw [e]
    rcases Nat.le_total (mmK D k) (cnK D k (2 ^ fre D)) with z | z
    · rw [Nat.min_eq_left z]
      rcases mmK_ex k with h | ⟨n, j, h1, h2, h3⟩
      · exact Or.inl h
      · exact Or.inr ⟨n, j, by omega, h2, h3⟩
    · rw [Nat.min_eq_right z]
      rcases cnK_ex (D := D) k (2 ^ fre D) with h | ⟨j, h1, h2⟩
      · exact Or.inl h
      · exact Or.inr ⟨k, j, by omega, h1, h2⟩
/-- none at all just if no handle is needed -/
theorem mmK_zero {D : Dw} (hW : WF D) {k : Nat} (h : mmK D k = 0) : ∃ n, n < k ∧ hd D n = 0 := by
  rcases mmK_ex (D := D) k with y | ⟨n, j, h1, h2, h3⟩
  · omega
  · rw [h] at h3
    refine ⟨n, h1, ?_⟩
    have hc := (cpv_ok hW n (tK D j)).2.1
    have all : ∀ e, tK D j e = false := fun e => by
      cases q : tK D j e
      · rfl
      · exfalso
        have := hc ⟨e, (tK_m hW q).1, q⟩ (fun d _ hd => by
          cases q2 : tK D j d
          · rfl
          · exact absurd (tK_m hW q2).2 hd)
        omega
    have e : tK D j = fun _ => false := by funext e; exact all e
    rw [e, (hd_ok hW n).2.2.1] at h3
    omega
theorem mmK_two {D : Dw} (hW : WF D) {k n : Nat} (h : n < k) : mmK D k ≤ 2 * hd D n := by
  have h1 := mmK_le (D := D) k n h
  have h2 := cnK_le (D := D) n (2 ^ fre D) 0 (Nat.two_pow_pos _)
  rw [tK_zero, (hd_ok hW n).2.2.1] at h2
  omega
noncomputable def capA (D : Dw) : Int := if totO D * 2 ^ fre D ≤ 20000 then (mmK D (totO D) : Int) else -2
theorem Nw.ecap {D D' : Dw} (h : Nw D D') (hW : WF D) (hW' : WF D') : fre D = fre D' ∧ mmK D = mmK D' := by
  have eL : lmk D = lmk D' := Bts.uq (lmk_ok D) (Bts.congr (lmk_ok D') (fun i _ => by
    rw [← h.2.1]
    exact ⟨fun k => ⟨k.1, (h.elo k.1).mpr k.2⟩, fun k => ⟨k.1, (h.elo k.1).mp k.2⟩⟩))
  have eT : tK D = tK D' := by funext k; unfold tK; rw [eL]
  have eF : fre D = fre D' := by rw [← (fre_cnt hW).1, ← (fre_cnt hW').1, eL]
  have eC : cnK D = cnK D' := by
    funext n k
    induction k with
    | zero => rfl
    | succ k ih => unfold cnK; rw [ih, h.ecp, eT]
  refine ⟨eF, ?_⟩
  funext k
  induction k with
  | zero => rfl
  | succ k ih => unfold mmK; rw [ih, eC, eF]
