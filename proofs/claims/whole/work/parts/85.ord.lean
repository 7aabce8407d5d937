/-! ALL ROUNDS of a network -/
def pl (D : Dw) (p e : Nat) : Bool := decide (e < dM D) && (decide (dE D (2 * e) = p) || decide (dE D (2 * e + 1) = p))
theorem pl_iff {D : Dw} {p e : Nat} : pl D p e = true ↔ e < dM D ∧ atP D e p := by
  unfold pl atP
  simp
def dgc (D : Dw) (p : Nat) : Nat := cnt (pl D p) 10
def srt (D : Dw) (p : Nat) : Nat → Nat := nth (pl D p) 10
def ordP (D : Dw) (p : Nat) : Nat := fac (dgc D p - 1)
def prd (f : Nat → Nat) (a : Nat) : Nat → Nat
  | 0 => 1
  | n + 1 => prd f a n * f (a + n)
def latP (D : Dw) (p : Nat) : Nat := prd (ordP D) (p + 1) (dN D - 1 - p)
def totO (D : Dw) : Nat := prd (ordP D) 0 (dN D)
def numP (D : Dw) (n p : Nat) : Nat := n / latP D p % ordP D p
def dMx (D : Dw) (f : Nat → Nat) (t : Nat → Bool) : Dw := (dN D, dM D, (fun i => if i < 2 * dM D then dE D i else 0), t, dgc D, (fun p i => decF (dgc D p) (srt D p) (f p) i))
def dOrd (D : Dw) (n : Nat) : Dw := dMx D (numP D n) (fun _ => false)
theorem dgc_le (D : Dw) (p : Nat) : dgc D p ≤ 10 := cnt_le 10
theorem deg_dgc {D : Dw} (hW : WF D) {p : Nat} (hp : p < dN D) : dG D p = dgc D p := by
  have m10 := hW.2.1
  have row : ∀ i, i < dG D p → dR D p i < dM D ∧ pl D p (dR D p i) = true := fun i hi => by
    have := hW.2.2.2.2.1 p i hp hi
    exact ⟨this.1, pl_iff.mpr this⟩
  apply Nat.le_antisymm
  · refine pigeon _ _ (fun i => cnt (pl D p) (dR D p i)) (fun i hi => ?_) (fun i j hi hj e => ?_)
    · have := row i hi
      exact cnt_lt_of (by omega) this.2
    · exact hW.2.2.2.2.2.1 p i j hp hi hj (cnt_uq (row i hi).2 (row j hj).2 e)
  · have ln : ∀ j, j < dgc D p → srt D p j < dM D ∧ atP D (srt D p j) p := fun j hj => pl_iff.mp (nth_ok (f := pl D p) 10 j hj).2.1
    refine pigeon _ _ (fun j => pos (dR D p) (srt D p j) (dG D p)) (fun j hj => (hW.pos hp (ln j hj).1 (ln j hj).2).1) (fun i j hi hj e => ?_)
    have h1 := (hW.pos hp (ln i hi).1 (ln i hi).2).2.1
    have h2 := (hW.pos hp (ln j hj).1 (ln j hj).2).2.1
    have e : pos (dR D p) (srt D p i) (dG D p) = pos (dR D p) (srt D p j) (dG D p) := e
    rw [e, h2] at h1
    exact (nth_inc (f := pl D p) (m := 10)).inj hi hj h1.symm
theorem prd_pos {f : Nat → Nat} (h : ∀ q, 0 < f q) (a : Nat) : ∀ n, 0 < prd f a n
  | 0 => by show 0 < 1; omega
  | n + 1 => Nat.mul_pos (prd_pos h a n) (h _)
theorem prd_front (f : Nat → Nat) : ∀ (n a : Nat), prd f a (n + 1) = f a * prd f (a + 1) n
  | 0, a => by show 1 * f (a + 0) = f a * 1; rw [Nat.one_mul, Nat.mul_one]; rfl
  | n + 1, a => by
    show prd f a (n + 1) * f (a + (n + 1)) = f a * (prd f (a + 1) n * f (a + 1 + n))
    rw [prd_front f n a, Nat.mul_assoc, show a + 1 + n = a + (n + 1) by omega]
theorem prd_split (f : Nat → Nat) (a : Nat) : ∀ n, prd f 0 (a + n) = prd f 0 a * prd f a n
  | 0 => by show prd f 0 a = prd f 0 a * 1; rw [Nat.mul_one]
  | n + 1 => by
    show prd f 0 (a + n) * f (0 + (a + n)) = prd f 0 a * (prd f a n * f (a + n))
    rw [prd_split f a n, Nat.mul_assoc, Nat.zero_add]
theorem ordP_pos (D : Dw) (p : Nat) : 0 < ordP D p := fac_pos _
theorem latP_pos (D : Dw) (p : Nat) : 0 < latP D p := prd_pos (ordP_pos D) _ _
theorem totO_pos (D : Dw) : 0 < totO D := prd_pos (ordP_pos D) _ _
def smd (f : Nat → Nat) : Nat → Nat
  | 0 => 0
  | k + 1 => smd f k + f k
theorem smd_cnt (D : Dw) (k : Nat) : ∀ M, smd (fun p => cnt (pl D p) (M + 1)) k = smd (fun p => cnt (pl D p) M) k + cnt (fun p => pl D p M) k := by
  intro M
  induction k with
  | zero => rfl
  | succ k ih =>
    show smd (fun p => cnt (pl D p) (M + 1)) k + cnt (pl D k) (M + 1) = smd (fun p => cnt (pl D p) M) k + cnt (pl D k) M + cnt (fun p => pl D p M) (k + 1)
    rw [ih]
    cases q : pl D k M
    · rw [cnt_n q, cnt_n (f := fun p => pl D p M) q]; omega
    · rw [cnt_y q, cnt_y (f := fun p => pl D p M) q]; omega
theorem cnt_two_le {f : Nat → Bool} {a b : Nat} (h : ∀ p, f p = true → p = a ∨ p = b) : ∀ k, cnt f k ≤ (if a < k then 1 else 0) + (if b < k then 1 else 0)
  | 0 => by show 0 ≤ _; omega
  | k + 1 => by
    have ih := cnt_two_le h k
    cases q : f k
    · rw [cnt_n q]
      split at ih <;> split at ih <;> split <;> split <;> omega
    · rw [cnt_y q]
      have := h k q
      split at ih <;> split at ih <;> split <;> split <;> omega
theorem smd_le (D : Dw) (k : Nat) : ∀ M, smd (fun p => cnt (pl D p) M) k ≤ 2 * M
  | 0 => by
    have : ∀ k, smd (fun p => cnt (pl D p) 0) k = 0 := by
      intro k
      induction k with
      | zero => rfl
      | succ k ih => show smd (fun p => cnt (pl D p) 0) k + 0 = 0; rw [ih]
    rw [this]; omega
  | M + 1 => by
    have h1 := smd_le D k M
    have h2 := cnt_two_le (f := fun p => pl D p M) (a := dE D (2 * M)) (b := dE D (2 * M + 1)) (fun p hp => by
      have := (pl_iff.mp hp).2
      unfold atP at this
      omega) k
    rw [smd_cnt]
    split at h2 <;> split at h2 <;> omega
theorem fac_4 : ∀ d, d ≤ 10 → fac (d - 1) ≤ 4 ^ d := by
  have : ∀ d : Fin 11, fac (d.val - 1) ≤ 4 ^ d.val := by decide
  intro d hd
  exact this ⟨d, by omega⟩
theorem prd_4 {f g : Nat → Nat} (h : ∀ p, f p ≤ 4 ^ g p) : ∀ k, prd f 0 k ≤ 4 ^ smd g k
  | 0 => by show 1 ≤ 4 ^ 0; omega
  | k + 1 => by
    show prd f 0 k * f (0 + k) ≤ 4 ^ (smd g k + g k)
    rw [Nat.pow_add, Nat.zero_add]
    exact Nat.mul_le_mul (prd_4 h k) (h k)
theorem prd_bd (D : Dw) (a n : Nat) : prd (ordP D) a n ≤ 1099511627776 := by
  have h1 := prd_4 (f := ordP D) (g := dgc D) (fun p => fac_4 _ (dgc_le D p)) (a + n)
  have h2 : smd (dgc D) (a + n) ≤ 2 * 10 := smd_le D (a + n) 10
  have h3 : 4 ^ smd (dgc D) (a + n) ≤ 4 ^ 20 := Nat.pow_le_pow_right (by decide) h2
  have h4 := prd_split (ordP D) a n
  have h5 := prd_pos (ordP_pos D) 0 a
  have h6 : prd (ordP D) a n ≤ prd (ordP D) 0 a * prd (ordP D) a n := Nat.le_mul_of_pos_left _ h5
  have h7 : (4 : Nat) ^ 20 = 1099511627776 := by decide
  omega
theorem totO_bd (D : Dw) : totO D ≤ 1099511627776 := prd_bd D 0 _
theorem latP_bd (D : Dw) (p : Nat) : latP D p ≤ 1099511627776 := prd_bd D _ _
theorem fac_le9 : ∀ d, d ≤ 10 → fac (d - 1) ≤ 362880 := by
  have : ∀ d : Fin 11, fac (d.val - 1) ≤ 362880 := by decide
  intro d hd
  exact this ⟨d, by omega⟩
theorem ordP_bd (D : Dw) (p : Nat) : ordP D p ≤ 362880 := fac_le9 _ (dgc_le D p)
theorem fac_pred (d : Nat) : fac (d - 1) ≤ fac d := by
  match d with
  | 0 => exact Nat.le_refl _
  | d + 1 => show fac d ≤ (d + 1) * fac d; exact Nat.le_mul_of_pos_left _ (by omega)
theorem dMx_at {D : Dw} {f : Nat → Nat} {t : Nat → Bool} {e p : Nat} (he : e < dM D) : atP (dMx D f t) e p ↔ atP D e p := by
  show ((if 2 * e < 2 * dM D then dE D (2 * e) else 0) = p ∨ (if 2 * e + 1 < 2 * dM D then dE D (2 * e + 1) else 0) = p) ↔ _
  rw [if_pos (by omega), if_pos (by omega)]
  exact Iff.rfl
theorem dMx_E {D : Dw} {f : Nat → Nat} {t : Nat → Bool} {i : Nat} (hi : i < 2 * dM D) : dE (dMx D f t) i = dE D i := if_pos hi
theorem srt_ok {D : Dw} {p j : Nat} (hj : j < dgc D p) : srt D p j < dM D ∧ atP D (srt D p j) p := pl_iff.mp (nth_ok (f := pl D p) 10 j hj).2.1
theorem srt_sur {D : Dw} (hm : dM D ≤ 10) {p e : Nat} (he : e < dM D) (ha : atP D e p) : ∃ j, j < dgc D p ∧ srt D p j = e := by
  have hp := pl_iff.mpr ⟨he, ha⟩
  exact ⟨cnt (pl D p) e, cnt_lt_of (by omega) hp, nth_uq (by omega) hp rfl⟩
theorem dMx_WF {D : Dw} (hW : WF D) {f : Nat → Nat} {t : Nat → Bool} (hf : ∀ p, p < dN D → f p < ordP D p) : WF (dMx D f t) := by
  obtain ⟨n6, m10, hen, hne, -, -, -⟩ := id hW
  have hk : ∀ p, p < dN D → f p < fac (dgc D p) := fun p hp => Nat.lt_of_lt_of_le (hf p hp) (fac_pred _)
  refine ⟨n6, m10, fun i hi => ?_, fun e he => ?_, fun p i hp hi => ?_, fun p i j hp hi hj e => ?_, fun p e hp he ha => ?_⟩
  · have hi : i < 2 * dM D := hi
    rw [dMx_E hi]; exact hen i hi
  · have he : e < dM D := he
    rw [dMx_E (by omega), dMx_E (by omega)]; exact hne e he
  · have hi : i < dgc D p := hi
    obtain ⟨j, h1, h2⟩ := dec_in (dgc D p) (srt D p) (f p) i (hk p hp) hi
    have h3 := srt_ok h1
    show decF (dgc D p) (srt D p) (f p) i < dM D ∧ atP (dMx D f t) (decF (dgc D p) (srt D p) (f p) i) p
    rw [h2]
    exact ⟨h3.1, (dMx_at h3.1).mpr h3.2⟩
  · exact dec_inj (dgc D p) (srt D p) (f p) i j (nth_inc (f := pl D p) (m := 10)) (hk p hp) hi hj e
  · have he : e < dM D := he
    obtain ⟨j, h1, h2⟩ := srt_sur m10 he ((dMx_at he).mp ha)
    obtain ⟨i, h3, h4⟩ := dec_sur (dgc D p) (srt D p) (f p) j (hk p hp) h1
    exact ⟨i, h3, by show decF (dgc D p) (srt D p) (f p) i = e; rw [h4, h2]⟩
theorem numP_lt (D : Dw) (n p : Nat) : numP D n p < ordP D p := Nat.mod_lt _ (ordP_pos D p)
theorem dOrd_WF {D : Dw} (hW : WF D) (n : Nat) : WF (dOrd D n) := dMx_WF hW (fun p _ => numP_lt D n p)
theorem dMx_con {D : Dw} (f : Nat → Nat) (t : Nat → Bool) {k : Nat} (hk : k ≤ dM D) (a b : Nat) : Con (dMx D f t) k a b ↔ Con D k a b := nPt_congr (D := dMx D f t) (D' := D) rfl (fun i hi => dMx_E (by omega)) a b
theorem dMx_nPt (D : Dw) (f : Nat → Nat) (t : Nat → Bool) : nPt (dMx D f t) (dM D) = nPt D (dM D) := ncl_congr _ (fun j k _ _ => dMx_con f t (Nat.le_refl _) j k)
theorem dMx_loose {D : Dw} {f : Nat → Nat} {t : Nat → Bool} {e : Nat} (he : e < dM D) : Loose (dMx D f t) e ↔ Loose D e := by
  unfold Loose
  rw [dMx_E (by omega), dMx_E (by omega)]
  exact dMx_con f t (by omega) _ _
/-- how many handles; how many caps -/
noncomputable def hd (D : Dw) (n : Nat) : Nat := (dM D + 2 * nPt D (dM D) - (dN D + nFa (dOrd D n))) / 2
noncomputable def cpv (D : Dw) (n : Nat) (t : Nat → Bool) : Nat := dM D + 2 * nPt D (dM D) - (dN D + nFa (dMx D (numP D n) t))
theorem idv_two : ∀ x : Fin 41, idv (2 * ((x.val : Int) - 20)) 2 = (x.val : Int) - 20 := by decide +kernel
theorem hd_ok {D : Dw} (hW : WF D) (n : Nat) : (nPt D (dM D) : Int) - idv (eul (dOrd D n)) 2 = (hd D n : Int) ∧ hd D n ≤ 5 ∧ cpv D n (fun _ => false) = 2 * hd D n ∧ dN D + nFa (dOrd D n) + 2 * hd D n = dM D + 2 * nPt D (dM D) := by
  have hWO := dOrd_WF hW n
  have h := euler_ut hWO (fun e _ => rfl)
  have hP : nPt (dOrd D n) (dM (dOrd D n)) = nPt D (dM D) := dMx_nPt D _ _
  have hle := nPt_le D (dM D)
  have hF := nFa_lt hWO
  have n6 := hW.1
  have m10 := hW.2.1
  rw [hP] at h
  have h1 : dN (dOrd D n) = dN D := rfl
  have h2 : dM (dOrd D n) = dM D := rfl
  rw [h1, h2] at h
  have e2 : dN D + nFa (dOrd D n) + 2 * hd D n = dM D + 2 * nPt D (dM D) := by unfold hd; omega
  have hc : cpv D n (fun _ => false) = dM D + 2 * nPt D (dM D) - (dN D + nFa (dOrd D n)) := rfl
  have hh : hd D n ≤ 5 := by omega
  refine ⟨?_, hh, by rw [hc]; omega, e2⟩
  have e3 : eul (dOrd D n) = 2 * ((nPt D (dM D) : Int) - (hd D n : Int)) := by
    show (dN D : Int) - (dM D : Int) + (nFa (dOrd D n) : Int) = _
    omega
  obtain ⟨x, hx⟩ : ∃ x : Nat, (x : Int) = (nPt D (dM D) : Int) - (hd D n : Int) + 20 := ⟨((nPt D (dM D) : Int) - (hd D n : Int) + 20).toNat, by omega⟩
  have e4 := idv_two ⟨x, by omega⟩
  have e4 : idv (2 * ((x : Int) - 20)) 2 = (x : Int) - 20 := e4
  rw [e3, show (nPt D (dM D) : Int) - (hd D n : Int) = (x : Int) - 20 by omega, e4]
  omega
theorem cpv_ok {D : Dw} (hW : WF D) (n : Nat) (t : Nat → Bool) : dN D + nFa (dMx D (numP D n) t) + cpv D n t = dM D + 2 * nPt D (dM D) ∧ ((∃ e, e < dM D ∧ t e = true) → (∀ e, e < dM D → ¬ Loose D e → t e = false) → 1 ≤ cpv D n t) ∧ cpv D n t ≤ 22 := by
  have hWO : WF (dMx D (numP D n) t) := dMx_WF hW (fun p _ => numP_lt D n p)
  obtain ⟨h, h'⟩ := euler_tw hWO
  have hP : nPt (dMx D (numP D n) t) (dM (dMx D (numP D n) t)) = nPt D (dM D) := dMx_nPt D _ _
  rw [hP] at h h'
  have hle := nPt_le D (dM D)
  have n6 := hW.1
  have m10 := hW.2.1
  have h1 : dN (dMx D (numP D n) t) = dN D := rfl
  have h2 : dM (dMx D (numP D n) t) = dM D := rfl
  have h3 : dT (dMx D (numP D n) t) = t := rfl
  rw [h1, h2] at h h'
  rw [h3] at h'
  unfold cpv
  refine ⟨by omega, fun a b => ?_, by omega⟩
  have := h' a (fun e he hl => b e he (fun k => hl ((dMx_loose he).mpr k)))
  omega
/-- the same network -/
def Nw (D D' : Dw) : Prop := dN D = dN D' ∧ dM D = dM D' ∧ ∀ i, i < 2 * dM D → dE D i = dE D' i
theorem Nw.epl {D D' : Dw} (h : Nw D D') : pl D = pl D' := by
  funext p e
  unfold pl
  rw [← h.2.1]
  by_cases z : e < dM D
  · rw [h.2.2 _ (by omega), h.2.2 _ (by omega)]
  · rw [decide_eq_false z]; rfl
theorem Nw.ord {D D' : Dw} (h : Nw D D') : dgc D = dgc D' ∧ srt D = srt D' ∧ ordP D = ordP D' ∧ totO D = totO D' ∧ latP D = latP D' ∧ numP D = numP D' := by
  have e1 := h.epl
  have e2 : dgc D = dgc D' := by funext p; unfold dgc; rw [e1]
  have e3 : srt D = srt D' := by funext p; unfold srt; rw [e1]
  have e4 : ordP D = ordP D' := by funext p; unfold ordP; rw [e2]
  have e5 : totO D = totO D' := by unfold totO; rw [e4, h.1]
  have e6 : latP D = latP D' := by funext p; unfold latP; rw [e4, h.1]
  exact ⟨e2, e3, e4, e5, e6, by funext n p; unfold numP; rw [e4, e6]⟩
theorem Nw.mx {D D' : Dw} (h : Nw D D') (f : Nat → Nat) (t : Nat → Bool) : dMx D f t = dMx D' f t := by
  obtain ⟨e2, e3, -, -, -, -⟩ := h.ord
  have e : (fun i => if i < 2 * dM D then dE D i else 0) = (fun i => if i < 2 * dM D' then dE D' i else 0) := by
    funext i
    rw [← h.2.1]
    by_cases z : i < 2 * dM D
    · rw [if_pos z, if_pos z]; exact h.2.2 i z
    · rw [if_neg z, if_neg z]
  unfold dMx
  rw [e, e2, e3, h.1, h.2.1]
theorem Nw.eco {D D' : Dw} (h : Nw D D') {k : Nat} (hk : k ≤ dM D) (a b : Nat) : Con D k a b ↔ Con D' k a b := nPt_congr h.1 (fun i hi => h.2.2 i (by omega)) a b
theorem Nw.ept {D D' : Dw} (h : Nw D D') : nPt D (dM D) = nPt D' (dM D') := by
  unfold nPt
  rw [h.1, ← h.2.1]
  exact ncl_congr _ (fun j k _ _ => h.eco (Nat.le_refl _) j k)
theorem Nw.ehd {D D' : Dw} (h : Nw D D') : hd D = hd D' := by
  funext n
  unfold hd dOrd
  rw [h.mx, h.ord.2.2.2.2.2, h.ept, h.1, h.2.1]
theorem Nw.ecp {D D' : Dw} (h : Nw D D') : cpv D = cpv D' := by
  funext n t
  unfold cpv
  rw [h.mx, h.ord.2.2.2.2.2, h.ept, h.1, h.2.1]
theorem Nw.elo {D D' : Dw} (h : Nw D D') {e : Nat} (he : e < dM D) : Loose D e ↔ Loose D' e := by
  unfold Loose
  rw [h.2.2 _ (by omega), h.2.2 _ (by omega)]
  exact h.eco (by omega) _ _
/-- the least, and the first that has it; the most; how many -/
noncomputable def lsK (D : Dw) : Nat → Nat × Nat
  | 0 => (100, 0)
  | k + 1 => if hd D k < (lsK D k).1 then (hd D k, k) else lsK D k
noncomputable def mxK (D : Dw) : Nat → Nat
  | 0 => 0
  | k + 1 => max (mxK D k) (hd D k)
noncomputable def neK (D : Dw) (h : Nat) (k : Nat) : Nat := cnt (fun n => decide (hd D n = h)) k
theorem Nw.ans {D D' : Dw} (h : Nw D D') : lsK D = lsK D' ∧ mxK D = mxK D' ∧ neK D = neK D' := by
  have e := h.ehd
  refine ⟨?_, ?_, ?_⟩
  · funext k
    induction k with
    | zero => rfl
    | succ k ih => unfold lsK; rw [e, ih]
  · funext k
    induction k with
    | zero => rfl
    | succ k ih => unfold mxK; rw [e, ih]
  · funext k l
    unfold neK
    rw [e]
theorem lsK_ok {D : Dw} (hW : WF D) : ∀ k, 1 ≤ k → (lsK D k).1 ≤ 5 ∧ (lsK D k).2 < k ∧ hd D (lsK D k).2 = (lsK D k).1 ∧ ∀ n, n < k → (lsK D k).1 ≤ hd D n
  | 0, h => by omega
  | k + 1, _ => by
    have hk := (hd_ok hW k).2.1
    unfold lsK
    by_cases z : hd D k < (lsK D k).1
    · rw [if_pos z]
      refine ⟨hk, by show k < k + 1; omega, rfl, fun n hn => ?_⟩
      show hd D k ≤ hd D n
      by_cases y : n = k
      · rw [y]; exact Nat.le_refl _
      · have := (lsK_ok hW k (by omega)).2.2.2 n (by omega)
        omega
    · rw [if_neg z]
      have hk1 : 1 ≤ k := by
        rcases Nat.eq_zero_or_pos k with y | y
        · rw [y] at z hk
          exact absurd (show hd D 0 < 100 by omega) z
        · exact y
      obtain ⟨h1, h2, h3, h4⟩ := lsK_ok hW k hk1
      refine ⟨h1, by omega, h3, fun n hn => ?_⟩
      by_cases y : n = k
      · rw [y]; omega
      · exact h4 n (by omega)
theorem mxK_le {D : Dw} (hW : WF D) : ∀ k, mxK D k ≤ 5
  | 0 => by show 0 ≤ 5; omega
  | k + 1 => by
    have h1 := mxK_le hW k
    have h2 := (hd_ok hW k).2.1
    show max (mxK D k) (hd D k) ≤ 5
    omega
theorem neK_le {D : Dw} (h k : Nat) : neK D h k ≤ k := cnt_le k
theorem neK_6 {D : Dw} (hW : WF D) {h k : Nat} (hh : 6 ≤ h) : neK D h k = 0 := cnt_none k (fun i _ => decide_eq_false (by have := (hd_ok hW i).2.1; omega))
