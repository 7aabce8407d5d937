/-! ORDERS: rows by their numbers -/
def fac : Nat → Nat
  | 0 => 1
  | n + 1 => (n + 1) * fac n
theorem fac_pos : ∀ n, 0 < fac n
  | 0 => by decide
  | n + 1 => Nat.mul_pos (by omega) (fac_pos n)
def decF : Nat → (Nat → Nat) → Nat → Nat → Nat
  | 0, _, _, _ => 0
  | n + 1, L, k, i => if i = 0 then L (k / fac n) else decF n (delR L (k / fac n)) (k % fac n) (i - 1)
theorem decF_0 (n : Nat) (L : Nat → Nat) (k : Nat) : decF (n + 1) L k 0 = L (k / fac n) := rfl
theorem decF_s (n : Nat) (L : Nat → Nat) (k i : Nat) : decF (n + 1) L k (i + 1) = decF n (delR L (k / fac n)) (k % fac n) i := rfl
theorem decF_congr : ∀ (n : Nat) {L M : Nat → Nat} {k i : Nat}, k < fac n → i < n → (∀ j, j < n → L j = M j) → decF n L k i = decF n M k i
  | 0, _, _, _, _, _, h, _ => by omega
  | n + 1, L, M, k, i, hk, hi, h => by
    have hj : k / fac n < n + 1 := Nat.div_lt_of_lt_mul (by rw [Nat.mul_comm]; exact hk)
    match i with
    | 0 => rw [decF_0, decF_0]; exact h _ hj
    | i + 1 =>
      rw [decF_s, decF_s]
      refine decF_congr n (Nat.mod_lt _ (fac_pos n)) (by omega) (fun j hj' => ?_)
      unfold delR
      split
      · exact h j (by omega)
      · exact h (j + 1) (by omega)
theorem dec_zero : ∀ (n : Nat) (L : Nat → Nat) (i : Nat), i < n → decF n L 0 i = L i
  | 0, _, _, h => by omega
  | n + 1, L, 0, _ => by rw [decF_0, Nat.zero_div]
  | n + 1, L, i + 1, h => by
    rw [decF_s, Nat.zero_div, Nat.zero_mod, dec_zero n _ i (by omega)]
    unfold delR
    rw [if_neg (by omega)]
theorem dec_last : ∀ (n : Nat) (L : Nat → Nat) (i : Nat), i < n → decF n L (fac n - 1) i = L (n - 1 - i)
  | 0, _, _, h => by omega
  | n + 1, L, i, h => by
    have hp := fac_pos n
    have e : fac (n + 1) - 1 = n * fac n + (fac n - 1) := by
      show (n + 1) * fac n - 1 = _
      rw [Nat.add_mul]; omega
    have e1 : (fac (n + 1) - 1) / fac n = n := by
      rw [e, Nat.mul_comm, Nat.mul_add_div hp, Nat.div_eq_of_lt (by omega)]; rfl
    have e2 : (fac (n + 1) - 1) % fac n = fac n - 1 := by
      rw [e, Nat.mul_comm, Nat.mul_add_mod, Nat.mod_eq_of_lt (by omega)]
    match i with
    | 0 => rw [decF_0, e1]; rfl
    | i + 1 =>
      rw [decF_s, e1, e2, dec_last n _ i (by omega)]
      unfold delR
      rw [if_pos (by omega)]
      congr 1
      omega
/-- strictly rising below n -/
def Inc (L : Nat → Nat) (n : Nat) : Prop := ∀ i j, i < j → j < n → L i < L j
theorem Inc.del {L : Nat → Nat} {n j : Nat} (h : Inc L (n + 1)) (hj : j < n + 1) : Inc (delR L j) n := fun a b hab hb => by
  unfold delR
  split <;> split <;> first | exact h _ _ (by omega) (by omega) | omega
/-- one number on: a row falls behind its turning place, there the next greater one comes, behind it all rises -/
theorem dec_step : ∀ (n : Nat) (L : Nat → Nat) (k : Nat), Inc L n → k + 1 < fac n → ∃ (c a x : Nat) (U : Nat → Nat), c < n ∧ a < n - 1 - c ∧ Inc U (n - 1 - c) ∧ (∀ i, i < c → decF n L k i = decF n L (k + 1) i) ∧ decF n L k c = x ∧ (∀ s, s < n - 1 - c → decF n L k (c + 1 + s) = U (n - 1 - c - 1 - s)) ∧ decF n L (k + 1) c = U a ∧ (∀ s, s < n - 1 - c → decF n L (k + 1) (c + 1 + s) = if s = a then x else U s) ∧ x < U a ∧ ∀ b, b < a → U b < x
  | 0, L, k, _, h => by
    have : fac 0 = 1 := rfl
    omega
  | n + 1, L, k, hL, hk => by
    have hp := fac_pos n
    have hk' : k + 1 < fac n * (n + 1) := by rw [Nat.mul_comm]; exact hk
    have hj : k / fac n < n + 1 := Nat.div_lt_of_lt_mul (by omega)
    have hm := Nat.mod_lt k hp
    have hd := Nat.div_add_mod k (fac n)
    by_cases q : k % fac n + 1 < fac n
    · have e : k + 1 = fac n * (k / fac n) + (k % fac n + 1) := by omega
      have e1 : (k + 1) / fac n = k / fac n := by rw [e, Nat.mul_add_div hp, Nat.div_eq_of_lt q]; rfl
      have e2 : (k + 1) % fac n = k % fac n + 1 := by rw [e, Nat.mul_add_mod, Nat.mod_eq_of_lt q]
      obtain ⟨c, a, x, U, h1, h2, h3, h4, h5, h6, h7, h8, h9, h10⟩ := dec_step n (delR L (k / fac n)) (k % fac n) (hL.del hj) q
      have en : n + 1 - 1 - (c + 1) = n - 1 - c := by omega
      refine ⟨c + 1, a, x, U, by omega, by rw [en]; exact h2, by rw [en]; exact h3, fun i hi => ?_, ?_, fun s hs => ?_, ?_, fun s hs => ?_, h9, h10⟩
      · match i with
        | 0 => rw [decF_0, decF_0, e1]
        | i + 1 => rw [decF_s, decF_s, e1, e2]; exact h4 i (by omega)
      · rw [decF_s]; exact h5
      · rw [show c + 1 + 1 + s = (c + 1 + s) + 1 by omega, decF_s, en]
        exact h6 s (by omega)
      · rw [decF_s, e1, e2]; exact h7
      · rw [show c + 1 + 1 + s = (c + 1 + s) + 1 by omega, decF_s, e1, e2]
        exact h8 s (by omega)
    · have e0 : k % fac n = fac n - 1 := by omega
      have e : k + 1 = fac n * (k / fac n + 1) := by rw [Nat.mul_add]; omega
      have e1 : (k + 1) / fac n = k / fac n + 1 := by rw [e, Nat.mul_div_cancel_left _ hp]
      have e2 : (k + 1) % fac n = 0 := by rw [e, Nat.mul_mod_right]
      have hj2 : k / fac n + 1 < n + 1 := by
        have : fac n * (k / fac n + 1) < fac n * (n + 1) := by omega
        exact Nat.lt_of_mul_lt_mul_left this
      obtain ⟨j, hje⟩ : ∃ j, j = k / fac n := ⟨_, rfl⟩
      rw [← hje] at e1 hj2 hj
      have dU : ∀ b, delR L j b = if b < j then L b else L (b + 1) := fun b => rfl
      refine ⟨0, j, L j, delR L j, by omega, by omega, hL.del hj, fun i hi => by omega, ?_, fun s hs => ?_, ?_, fun s hs => ?_, ?_, fun b hb => ?_⟩
      · rw [decF_0, ← hje]
      · rw [show 0 + 1 + s = s + 1 by omega, decF_s, e0, ← hje, dec_last n _ s (by omega)]
        rfl
      · rw [decF_0, e1, dU, if_neg (by omega)]
      · rw [show 0 + 1 + s = s + 1 by omega, decF_s, e1, e2, dec_zero n _ s (by omega), dU]
        unfold delR
        by_cases z : s = j
        · rw [if_pos z, if_pos (by omega), z]
        · rw [if_neg z]
          by_cases y : s < j
          · rw [if_pos (by omega), if_pos y]
          · rw [if_neg (by omega), if_neg y]
      · rw [dU, if_neg (by omega)]; exact hL _ _ (by omega) (by omega)
      · rw [dU, if_pos hb]; exact hL _ _ hb (by omega)
/-- each of the row once -/
theorem dec_in : ∀ (n : Nat) (L : Nat → Nat) (k i : Nat), k < fac n → i < n → ∃ j, j < n ∧ decF n L k i = L j
  | 0, _, _, _, _, h => by omega
  | n + 1, L, k, i, hk, hi => by
    have hj : k / fac n < n + 1 := Nat.div_lt_of_lt_mul (by rw [Nat.mul_comm]; exact hk)
    match i with
    | 0 => exact ⟨_, hj, rfl⟩
    | i + 1 =>
      obtain ⟨j, h1, h2⟩ := dec_in n (delR L (k / fac n)) (k % fac n) i (Nat.mod_lt _ (fac_pos n)) (by omega)
      rw [decF_s, h2]
      unfold delR
      by_cases q : j < k / fac n
      · exact ⟨j, by omega, by rw [if_pos q]⟩
      · exact ⟨j + 1, by omega, by rw [if_neg q]⟩
theorem dec_sur : ∀ (n : Nat) (L : Nat → Nat) (k j : Nat), k < fac n → j < n → ∃ i, i < n ∧ decF n L k i = L j
  | 0, _, _, _, _, h => by omega
  | n + 1, L, k, j, hk, hj => by
    have hq : k / fac n < n + 1 := Nat.div_lt_of_lt_mul (by rw [Nat.mul_comm]; exact hk)
    by_cases z : j = k / fac n
    · exact ⟨0, by omega, by rw [decF_0, z]⟩
    · have hmod := Nat.mod_lt k (fac_pos n)
      have hz := Nat.zero_le (k / fac n)
      by_cases y : j < k / fac n
      · obtain ⟨i, h1, h2⟩ := dec_sur n (delR L (k / fac n)) (k % fac n) j hmod (by omega)
        refine ⟨i + 1, by omega, ?_⟩
        rw [decF_s, h2]
        unfold delR
        rw [if_pos y]
      · obtain ⟨i, h1, h2⟩ := dec_sur n (delR L (k / fac n)) (k % fac n) (j - 1) hmod (by generalize k / fac n = t at *; omega)
        refine ⟨i + 1, by omega, ?_⟩
        rw [decF_s, h2]
        unfold delR
        rw [if_neg (by generalize k / fac n = t at *; omega)]
        congr 1
        generalize k / fac n = t at *
        omega
theorem Inc.inj {L : Nat → Nat} {n i j : Nat} (h : Inc L n) (hi : i < n) (hj : j < n) (e : L i = L j) : i = j := by
  rcases Nat.lt_trichotomy i j with z | z | z
  · have := h i j z hj; omega
  · exact z
  · have := h j i z hi; omega
theorem dec_inj : ∀ (n : Nat) (L : Nat → Nat) (k i i' : Nat), Inc L n → k < fac n → i < n → i' < n → decF n L k i = decF n L k i' → i = i'
  | 0, _, _, _, _, _, _, h, _, _ => by omega
  | n + 1, L, k, i, i', hL, hk, hi, hi', e => by
    have hq : k / fac n < n + 1 := Nat.div_lt_of_lt_mul (by rw [Nat.mul_comm]; exact hk)
    have hmod := Nat.mod_lt k (fac_pos n)
    have no : ∀ i, i < n → L (k / fac n) ≠ decF n (delR L (k / fac n)) (k % fac n) i := fun i hi e => by
      obtain ⟨j, h1, h2⟩ := dec_in n (delR L (k / fac n)) (k % fac n) i hmod hi
      rw [h2] at e
      unfold delR at e
      split at e
      · have := hL.inj hq (show j < n + 1 by omega) e; omega
      · have := hL.inj hq (show j + 1 < n + 1 by omega) e; omega
    match i, i' with
    | 0, 0 => rfl
    | 0, i' + 1 => rw [decF_0, decF_s] at e; exact absurd e (no i' (by omega))
    | i + 1, 0 => rw [decF_0, decF_s] at e; exact absurd e.symm (no i (by omega))
    | i + 1, i' + 1 =>
      rw [decF_s, decF_s] at e
      have := dec_inj n _ _ i i' (hL.del hq) hmod (by omega) (by omega) e
      omega
/-! the i-th of a set -/
def nth (f : Nat → Bool) : Nat → Nat → Nat
  | 0, _ => 0
  | m + 1, i => if f m = true ∧ cnt f m = i then m else nth f m i
theorem cnt_step {f : Nat → Bool} : ∀ {m k : Nat}, k ≤ m → cnt f k ≤ cnt f m
  | 0, k, h => by rw [show k = 0 by omega]; exact Nat.le_refl _
  | m + 1, k, h => by
    by_cases z : k = m + 1
    · rw [z]; exact Nat.le_refl _
    · have := cnt_step (f := f) (m := m) (k := k) (by omega)
      cases q : f m
      · rw [cnt_n q]; exact this
      · rw [cnt_y q]; omega
theorem cnt_lt_of {f : Nat → Bool} {m k : Nat} (h : k < m) (hf : f k = true) : cnt f k < cnt f m := by
  have := cnt_step (f := f) (m := m) (k := k + 1) h
  rw [cnt_y hf] at this
  omega
theorem cnt_uq {f : Nat → Bool} {a b : Nat} (ha : f a = true) (hb : f b = true) (h : cnt f a = cnt f b) : a = b := by
  rcases Nat.lt_trichotomy a b with z | z | z
  · have := cnt_lt_of z ha; omega
  · exact z
  · have := cnt_lt_of z hb; omega
theorem nth_ok {f : Nat → Bool} : ∀ (m i : Nat), i < cnt f m → nth f m i < m ∧ f (nth f m i) = true ∧ cnt f (nth f m i) = i
  | 0, i, h => absurd h (Nat.not_lt_zero i)
  | m + 1, i, h => by
    unfold nth
    by_cases z : f m = true ∧ cnt f m = i
    · rw [if_pos z]; exact ⟨by omega, z.1, z.2⟩
    · rw [if_neg z]
      have : i < cnt f m := by
        cases q : f m
        · rw [cnt_n q] at h; exact h
        · rw [cnt_y q] at h
          have : cnt f m ≠ i := fun y => z ⟨q, y⟩
          omega
      obtain ⟨h1, h2, h3⟩ := nth_ok m i this
      exact ⟨by omega, h2, h3⟩
theorem nth_uq {f : Nat → Bool} {m e i : Nat} (he : e < m) (hf : f e = true) (hc : cnt f e = i) : nth f m i = e := by
  have hl := cnt_lt_of he hf
  obtain ⟨h1, h2, h3⟩ := nth_ok (f := f) m i (by omega)
  exact cnt_uq h2 hf (by omega)
theorem nth_inc {f : Nat → Bool} {m : Nat} : Inc (nth f m) (cnt f m) := fun i j hij hj => by
  obtain ⟨h1, h2, h3⟩ := nth_ok (f := f) m i (by omega)
  obtain ⟨k1, k2, k3⟩ := nth_ok m j hj
  rcases Nat.lt_or_ge (nth f m i) (nth f m j) with z | z
  · exact z
  · have := cnt_step (f := f) z
    omega
/-- one goes -/
theorem nth_del {f g : Nat → Bool} {m j : Nat} (hj : j < cnt f m) (hg : ∀ e, e < m → g e = (f e && decide (e ≠ nth f m j))) : cnt f m = cnt g m + 1 ∧ ∀ i, i < cnt g m → nth g m i = delR (nth f m) j i := by
  obtain ⟨h1, h2, h3⟩ := nth_ok m j hj
  have gx : g (nth f m j) = false := by rw [hg _ h1]; simp
  have go : ∀ e, e < m → e ≠ nth f m j → f e = g e := fun e he hne => by rw [hg e he]; simp [hne]
  have e1 := cnt_add m h1 gx h2 go
  refine ⟨e1, fun i hi => ?_⟩
  unfold delR
  by_cases z : i < j
  · rw [if_pos z]
    obtain ⟨k1, k2, k3⟩ := nth_ok m i (show i < cnt f m by omega)
    have lt := nth_inc (f := f) (m := m) i j z hj
    refine nth_uq k1 (by rw [← go _ k1 (by omega)]; exact k2) ?_
    have := cnt_congr (f := f) (g := g) (nth f m i) (fun e he => go e (by omega) (by omega))
    omega
  · rw [if_neg z]
    obtain ⟨k1, k2, k3⟩ := nth_ok (f := f) m (i + 1) (by omega)
    have lt := nth_inc (f := f) (m := m) j (i + 1) (by omega) (by omega)
    refine nth_uq k1 (by rw [← go _ k1 (by omega)]; exact k2) ?_
    have := cnt_add (nth f m (i + 1)) lt gx h2 (fun e he hne => go e (by omega) hne)
    omega
