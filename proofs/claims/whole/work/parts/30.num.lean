/-! NUMBERS: the machine's ints and longs as whole numbers -/
theorem wr_id {x : Int} (h1 : -2147483648 ≤ x) (h2 : x < 2147483648) : wr x = x := Int32.toInt_ofInt_of_le h1 h2
theorem wr_rg (x : Int) : -2147483648 ≤ wr x ∧ wr x < 2147483648 := ⟨Int32.le_toInt _, Int32.toInt_lt _⟩
theorem wl_id {x : Int} (h1 : -9223372036854775808 ≤ x) (h2 : x < 9223372036854775808) : wl x = x := Int64.toInt_ofInt_of_le h1 h2
theorem wl_rg (x : Int) : -9223372036854775808 ≤ wl x ∧ wl x < 9223372036854775808 := ⟨Int64.le_toInt _, Int64.toInt_lt _⟩
theorem wr_nat {n : Nat} (h : n < 2147483648) : wr (n : Int) = n := wr_id (by omega) (by omega)
theorem wl_nat {n : Nat} (h : n < 9223372036854775808) : wl (n : Int) = n := wl_id (by omega) (by omega)
theorem wr_wr (x : Int) : wr (wr x) = wr x := wr_id (wr_rg x).1 (wr_rg x).2
theorem wl_wr (x : Int) : wl (wr x) = wr x := wl_id (by have := wr_rg x; omega) (by have := wr_rg x; omega)
theorem ix_of {x : Int} {n len : Nat} (h : x = (n : Int)) (hn : n < len) (hl : len ≤ 2147483648) : ix x len := by
  subst h
  unfold ix
  rw [wr_nat (by omega)]
  omega
theorem rd_of {w : Wd} {k : Nat} {x : Int} {n : Nat} (h : x = (n : Int)) (hn : n < 2147483648) : rd w k x = w k n := by
  subst h
  unfold rd
  rw [wr_nat hn]
  rfl
theorem wt_of {w : Wd} {k : Nat} {x v : Int} {n : Nat} (h : x = (n : Int)) (hn : n < 2147483648) : wt w k x v = up w k n v := by
  subst h
  unfold wt
  rw [wr_nat hn]
  rfl
theorem up_ap (w : Wd) (k i : Nat) (v : Int) (a b : Nat) : up w k i v a b = if a = k ∧ b = i then v else w a b := rfl
theorem nio (n : Nat) : Int32.ofInt (n : Int) = nI n := Int32.ofInt_eq_ofNat
theorem nlo (n : Nat) : Int64.ofInt (n : Int) = lN n := Int64.ofInt_eq_ofNat
theorem nbv (n : Nat) : (nI n).toBitVec = BitVec.ofNat 32 n := rfl
theorem idv_nat {a b : Nat} (ha : a < 2147483648) (h0 : 0 < b) (hb : b < 2147483648) : idv (a : Int) (b : Int) = ((a / b : Nat) : Int) := by
  unfold idv
  rw [nio, nio, pk_div ha h0 hb, nI_toInt (by have := Nat.div_le_self a b; omega)]
theorem irm_nat {a b : Nat} (ha : a < 2147483648) (h0 : 0 < b) (hb : b < 2147483648) : irm (a : Int) (b : Int) = ((a % b : Nat) : Int) := by
  unfold irm
  rw [idv_nat ha h0 hb]
  have := Nat.div_add_mod a b
  have h2 : ((a / b : Nat) : Int) * (b : Int) = ((b * (a / b) : Nat) : Int) := by rw [Nat.mul_comm]; push_cast; rfl
  rw [h2]
  omega
theorem ian_nat {a b : Nat} (ha : a < 2147483648) : ian (a : Int) (b : Int) = ((a &&& b : Nat) : Int) := by
  have e : nI a &&& nI b = nI (a &&& b) := by
    apply Int32.toBitVec_inj.mp
    simp [nbv, Int32.toBitVec_and, BitVec.ofNat_and]
  unfold ian
  rw [nio, nio, e, nI_toInt]
  exact Nat.lt_of_le_of_lt Nat.and_le_left ha
theorem ior_nat {a b : Nat} (ha : a < 2147483648) (hb : b < 2147483648) : ior (a : Int) (b : Int) = ((a ||| b : Nat) : Int) := by
  have e : nI a ||| nI b = nI (a ||| b) := by
    apply Int32.toBitVec_inj.mp
    simp [nbv, Int32.toBitVec_or, BitVec.ofNat_or]
  unfold ior
  rw [nio, nio, e, nI_toInt]
  exact Nat.or_lt_two_pow (n := 31) ha hb
theorem ixo_nat {a b : Nat} (ha : a < 2147483648) (hb : b < 2147483648) : ixo (a : Int) (b : Int) = ((a ^^^ b : Nat) : Int) := by
  have e : nI a ^^^ nI b = nI (a ^^^ b) := by
    apply Int32.toBitVec_inj.mp
    simp [nbv, Int32.toBitVec_xor, BitVec.ofNat_xor]
  unfold ixo
  rw [nio, nio, e, nI_toInt]
  exact Nat.xor_lt_two_pow (n := 31) ha hb
theorem isl_nat {a k : Nat} (hk : k < 32) (h : a * 2 ^ k < 2147483648) : isl (a : Int) (k : Int) = ((a * 2 ^ k : Nat) : Int) := by
  unfold isl
  have hs : ((nI k &&& 31).toBitVec.smod 32).toNat = k := by
    have : ∀ k : Fin 32, ((nI k.val &&& 31).toBitVec.smod 32).toNat = k.val := by decide
    exact this ⟨k, hk⟩
  rw [nio, nio, pk_shlN _ k hs (by omega), nI_toInt h]
theorem isr_nat {a k : Nat} (hk : k < 32) (h : a < 2147483648) : isr (a : Int) (k : Int) = ((a / 2 ^ k : Nat) : Int) := by
  unfold isr
  have hs : ((nI k &&& 31).toBitVec.smod 32).toNat = k := by
    have : ∀ k : Fin 32, ((nI k.val &&& 31).toBitVec.smod 32).toNat = k.val := by decide
    exact this ⟨k, hk⟩
  rw [nio, nio, pk_shrN h _ k hs, nI_toInt (by have := Nat.div_le_self a (2 ^ k); omega)]
/-- a bit of a set of numbers -/
theorem isr_bit {a k : Nat} (hk : k < 32) (h : a < 2147483648) : ian (isr (a : Int) (k : Int)) 1 = if a.testBit k then 1 else 0 := by
  rw [isr_nat hk h]
  have e : (1 : Int) = ((1 : Nat) : Int) := rfl
  rw [e, ian_nat (by have := Nat.div_le_self a (2 ^ k); omega), Nat.and_one_is_mod, Nat.testBit_eq_decide_div_mod_eq]
  by_cases q : a / 2 ^ k % 2 = 1
  · simp [q]
  · have : a / 2 ^ k % 2 = 0 := by omega
    simp [this]
