/-! LONGS as sets of numbers -/
theorem lN_int {n : Nat} (h : n < 9223372036854775808) : (lN n).toInt = (n : Int) := by
  rw [← nlo]
  exact wl_nat h
theorem lnbv (n : Nat) : (lN n).toBitVec = BitVec.ofNat 64 n := rfl
theorem lan_nat {a b : Nat} (ha : a < 9223372036854775808) : lan (a : Int) (b : Int) = ((a &&& b : Nat) : Int) := by
  have e : lN a &&& lN b = lN (a &&& b) := by
    apply Int64.toBitVec_inj.mp
    simp [lnbv, Int64.toBitVec_and, BitVec.ofNat_and]
  unfold lan
  rw [nlo, nlo, e, lN_int]
  exact Nat.lt_of_le_of_lt Nat.and_le_left ha
theorem lor_nat {a b : Nat} (ha : a < 9223372036854775808) (hb : b < 9223372036854775808) : lor (a : Int) (b : Int) = ((a ||| b : Nat) : Int) := by
  have e : lN a ||| lN b = lN (a ||| b) := by
    apply Int64.toBitVec_inj.mp
    simp [lnbv, Int64.toBitVec_or, BitVec.ofNat_or]
  unfold lor
  rw [nlo, nlo, e, lN_int]
  exact Nat.or_lt_two_pow (n := 63) ha hb
theorem lsh_ct {k : Nat} (hk : k < 64) : (((Int32.ofInt (k : Int)).toInt64 &&& 63).toBitVec.smod 64).toNat = k := by
  have : ∀ k : Fin 64, (((Int32.ofInt (k.val : Int)).toInt64 &&& 63).toBitVec.smod 64).toNat = k.val := by decide
  exact this ⟨k, hk⟩
theorem lsl_nat {a k : Nat} (hk : k < 63) (h : a * 2 ^ k < 9223372036854775808) : lsl (a : Int) (k : Int) = ((a * 2 ^ k : Nat) : Int) := by
  have h0 : 0 < 2 ^ k := Nat.two_pow_pos k
  have ha : a < 9223372036854775808 := by
    have : a * 1 ≤ a * 2 ^ k := Nat.mul_le_mul_left a h0
    omega
  have e : (lN a).toInt = (a : Int) := lN_int ha
  have e2 : (a : Int) * 2 ^ k = ((a * 2 ^ k : Nat) : Int) := by push_cast; rfl
  have hs := lsh_ct (k := k) (by omega)
  have h1 : lN a <<< ((Int32.ofInt (k : Int)).toInt64 &&& 63) = lN (a * 2 ^ k) := by
    apply Int64.toBitVec_inj.mp
    apply BitVec.eq_of_toNat_eq
    show ((lN a).toBitVec <<< (((Int32.ofInt (k : Int)).toInt64 &&& 63).toBitVec.smod 64).toNat).toNat = _
    rw [hs, BitVec.toNat_shiftLeft, Nat.shiftLeft_eq, lnbv, lnbv, BitVec.toNat_ofNat, BitVec.toNat_ofNat, Nat.mod_eq_of_lt (show a < 2 ^ 64 by omega)]
  unfold lsl
  rw [nlo, h1, lN_int h]
theorem lsl1 {k : Nat} (hk : k < 63) : lsl 1 (k : Int) = ((2 ^ k : Nat) : Int) := by
  have h : 2 ^ k ≤ 2 ^ 62 := Nat.pow_le_pow_right (by decide) (by omega)
  have := lsl_nat (a := 1) (k := k) hk (by omega)
  rw [Nat.one_mul] at this
  exact this
theorem lsr_nat {a k : Nat} (hk : k < 64) (h : a < 9223372036854775808) : lsr (a : Int) (k : Int) = ((a / 2 ^ k : Nat) : Int) := by
  have e : (lN a).toInt = (a : Int) := lN_int h
  unfold lsr
  rw [nlo]
  show ((lN a).toBitVec.sshiftRight (((Int32.ofInt (k : Int)).toInt64 &&& 63).toBitVec.smod 64).toNat).toInt = _
  rw [lsh_ct hk, BitVec.toInt_sshiftRight]
  show (lN a).toInt >>> k = _
  rw [e, Int.shiftRight_eq_div_pow]
  push_cast
  rfl
theorem lsr_bit {a k : Nat} (hk : k < 64) (h : a < 9223372036854775808) : lan (lsr (a : Int) (k : Int)) 1 = if a.testBit k then 1 else 0 := by
  rw [lsr_nat hk h]
  have e : (1 : Int) = ((1 : Nat) : Int) := rfl
  rw [e, lan_nat (by have := Nat.div_le_self a (2 ^ k); omega), Nat.and_one_is_mod, Nat.testBit_eq_decide_div_mod_eq]
  by_cases q : a / 2 ^ k % 2 = 1
  · simp [q]
  · have : a / 2 ^ k % 2 = 0 := by omega
    simp [this]
theorem lbitN {a k : Nat} (hk : k < 64) (h : a < 9223372036854775808) : wr (lcm (lan (lsr (a : Int) (k : Int)) 1) 0) = if a.testBit k then 1 else 0 := by
  rw [lsr_bit hk h]
  cases a.testBit k
  · decide
  · decide
theorem lan_not {a b : Nat} (ha : a < 9223372036854775808) (hb : b < 9223372036854775808) : lan (a : Int) (lxo (b : Int) (-1)) = ((a &&& (18446744073709551615 - b) : Nat) : Int) := by
  have e1 : Int64.ofInt (lxo (b : Int) (-1)) = lN (18446744073709551615 - b) := by
    unfold lxo
    rw [Int64.ofInt_toInt, nlo]
    apply Int64.toBitVec_inj.mp
    rw [Int64.toBitVec_xor, lnbv, lnbv]
    have : (Int64.ofInt (-1)).toBitVec = BitVec.allOnes 64 := by decide
    rw [this]
    apply BitVec.eq_of_getLsbD_eq
    intro i hi
    have h2 : (18446744073709551615 - b).testBit i = (decide (i < 64) && !b.testBit i) := by
      have := Nat.testBit_two_pow_sub_succ (n := 64) (x := b) (by omega) i
      rw [show 18446744073709551615 - b = 2 ^ 64 - (b + 1) by omega]
      exact this
    rw [BitVec.getLsbD_xor, BitVec.getLsbD_ofNat, BitVec.getLsbD_ofNat, BitVec.getLsbD_allOnes, h2]
    simp [hi]
  have e : lN a &&& lN (18446744073709551615 - b) = lN (a &&& (18446744073709551615 - b)) := by
    apply Int64.toBitVec_inj.mp
    simp [lnbv, Int64.toBitVec_and, BitVec.ofNat_and]
  unfold lan
  rw [e1, nlo, e, lN_int]
  exact Nat.lt_of_le_of_lt Nat.and_le_left ha
theorem ltb_not {b : Nat} (hb : b < 9223372036854775808) (i : Nat) : (18446744073709551615 - b).testBit i = (decide (i < 64) && !b.testBit i) := by
  have := Nat.testBit_two_pow_sub_succ (n := 64) (x := b) (by omega) i
  rw [show 18446744073709551615 - b = 2 ^ 64 - (b + 1) by omega]
  exact this
/-- sets of numbers below N as bits -/
def Bts (L N : Nat) (P : Nat → Prop) : Prop := L < 2 ^ N ∧ ∀ i, i < N → (L.testBit i = true ↔ P i)
theorem Bts.all (N : Nat) : Bts (2 ^ N - 1) N (fun _ => True) := by
  have := Nat.two_pow_pos N
  exact ⟨by omega, fun i hi => by rw [Nat.testBit_two_pow_sub_one]; simp [hi]⟩
theorem Bts.none (N : Nat) : Bts 0 N (fun _ => False) := ⟨Nat.two_pow_pos N, fun i _ => by simp⟩
theorem Bts.congr {L N : Nat} {P T : Nat → Prop} (h : Bts L N P) (e : ∀ i, i < N → (P i ↔ T i)) : Bts L N T := ⟨h.1, fun i hi => (h.2 i hi).trans (e i hi)⟩
theorem Bts.clr {L N a : Nat} {P : Nat → Prop} (h : Bts L N P) (hN : N ≤ 31) (ha : a < N) : Bts (L &&& (4294967295 - 2 ^ a)) N (fun i => P i ∧ i ≠ a) := by
  have hp : 2 ^ a < 2 ^ N := Nat.pow_lt_pow_right (by decide) ha
  have hp2 : 2 ^ N ≤ 2 ^ 31 := Nat.pow_le_pow_right (by decide) hN
  refine ⟨Nat.lt_of_le_of_lt Nat.and_le_left h.1, fun i hi => ?_⟩
  rw [Nat.testBit_and, tb_not (by omega), Nat.testBit_two_pow, Bool.and_eq_true, Bool.and_eq_true, h.2 i hi]
  simp
  omega
theorem Bts.set {L N a : Nat} {P : Nat → Prop} (h : Bts L N P) (ha : a < N) : Bts (L ||| 2 ^ a) N (fun i => P i ∨ i = a) := by
  have hp : 2 ^ a < 2 ^ N := Nat.pow_lt_pow_right (by decide) ha
  refine ⟨Nat.or_lt_two_pow h.1 hp, fun i hi => ?_⟩
  rw [bor_bit, Bool.or_eq_true, h.2 i hi]
  simp
theorem Bts.clr2 {L N a b : Nat} {P : Nat → Prop} (h : Bts L N P) (hN : N ≤ 62) (ha : a < N) (hb : b < N) : Bts (L &&& (18446744073709551615 - (2 ^ a ||| 2 ^ b))) N (fun i => P i ∧ i ≠ a ∧ i ≠ b) := by
  have hp : 2 ^ a < 2 ^ N := Nat.pow_lt_pow_right (by decide) ha
  have hp' : 2 ^ b < 2 ^ N := Nat.pow_lt_pow_right (by decide) hb
  have hp2 : 2 ^ N ≤ 2 ^ 62 := Nat.pow_le_pow_right (by decide) hN
  have ho : 2 ^ a ||| 2 ^ b < 2 ^ N := Nat.or_lt_two_pow hp hp'
  refine ⟨Nat.lt_of_le_of_lt Nat.and_le_left h.1, fun i hi => ?_⟩
  rw [Nat.testBit_and, ltb_not (by omega), bor_bit, Nat.testBit_two_pow, Bool.and_eq_true, Bool.and_eq_true, h.2 i hi]
  simp
  omega
theorem Bts.set2 {L N a b : Nat} {P : Nat → Prop} (h : Bts L N P) (ha : a < N) (hb : b < N) : Bts (L ||| (2 ^ a ||| 2 ^ b)) N (fun i => P i ∨ i = a ∨ i = b) := by
  have hp : 2 ^ a < 2 ^ N := Nat.pow_lt_pow_right (by decide) ha
  have hp' : 2 ^ b < 2 ^ N := Nat.pow_lt_pow_right (by decide) hb
  refine ⟨Nat.or_lt_two_pow h.1 (Nat.or_lt_two_pow hp hp'), fun i hi => ?_⟩
  rw [Nat.testBit_or, bor_bit, Nat.testBit_two_pow, Bool.or_eq_true, Bool.or_eq_true, h.2 i hi, decide_eq_true_eq, decide_eq_true_eq]
  constructor
  · rintro (y | y | y)
    · exact Or.inl y
    · exact Or.inr (Or.inl y.symm)
    · exact Or.inr (Or.inr y)
  · rintro (y | y | y)
    · exact Or.inl y
    · exact Or.inr (Or.inl y.symm)
    · exact Or.inr (Or.inr y)
theorem Bts.bit {L N a : Nat} {P : Nat → Prop} (h : Bts L N P) (hN : N ≤ 31) (ha : a < N) (x : Int) (hx : x = (a : Int)) : (P a ∧ wr (ian (isr (L : Int) x) 1) = 1) ∨ (¬ P a ∧ wr (ian (isr (L : Int) x) 1) = 0) := by
  have hp2 : 2 ^ N ≤ 2 ^ 31 := Nat.pow_le_pow_right (by decide) hN
  have hL := h.1
  subst hx
  rw [isr_bit (by omega) (by omega)]
  have := h.2 a ha
  cases hb : L.testBit a
  · exact Or.inr ⟨fun y => by rw [hb] at this; simp at this; exact this y, by decide⟩
  · exact Or.inl ⟨this.mp hb, by decide⟩
theorem Bts.lbit {L N a : Nat} {P : Nat → Prop} (h : Bts L N P) (hN : N ≤ 62) (ha : a < N) (x : Int) (hx : x = (a : Int)) : (P a ∧ wr (lcm (lan (lsr (L : Int) x) 1) 0) = 1) ∨ (¬ P a ∧ wr (lcm (lan (lsr (L : Int) x) 1) 0) = 0) := by
  have hp2 : 2 ^ N ≤ 2 ^ 62 := Nat.pow_le_pow_right (by decide) hN
  have hL := h.1
  subst hx
  rw [lbitN (by omega) (by omega)]
  have := h.2 a ha
  cases hb : L.testBit a
  · exact Or.inr ⟨fun y => by rw [hb] at this; simp at this; exact this y, rfl⟩
  · exact Or.inl ⟨this.mp hb, rfl⟩
