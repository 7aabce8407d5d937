/-! TEXTS: tokens -/
def isLt (c : Int) : Bool := decide (97 ≤ c ∧ c ≤ 122)
def isDg (c : Int) : Bool := decide (48 ≤ c ∧ c ≤ 57)
def isBl (c : Int) : Bool := decide (c = 9 ∨ c = 10 ∨ c = 13 ∨ c = 32)
def rlg (P : Nat → Bool) (L : Nat) : Nat → Nat → Nat
  | 0, _ => 0
  | f + 1, i => if i < L ∧ P i = true then rlg P L f (i + 1) + 1 else 0
/-- how far it goes on so -/
def rl (P : Nat → Bool) (L i : Nat) : Nat := rlg P L (L - i) i
theorem rlg_ok (P : Nat → Bool) (L : Nat) : ∀ (f i : Nat), L - i ≤ f → i ≤ L → i + rlg P L f i ≤ L ∧ (∀ j, j < rlg P L f i → P (i + j) = true) ∧ (i + rlg P L f i < L → P (i + rlg P L f i) = false)
  | 0, i, h, hi => ⟨by show i + 0 ≤ L; omega, fun j hj => absurd hj (Nat.not_lt_zero j), fun k => by have k : i + 0 < L := k; omega⟩
  | f + 1, i, h, hi => by
    unfold rlg
    by_cases z : i < L ∧ P i = true
    · rw [if_pos z]
      obtain ⟨h1, h2, h3⟩ := rlg_ok P L f (i + 1) (by omega) (by omega)
      refine ⟨by omega, fun j hj => ?_, fun k => ?_⟩
      · match j with
        | 0 => exact z.2
        | j + 1 =>
          have := h2 j (by omega)
          rw [show i + 1 + j = i + (j + 1) by omega] at this
          exact this
      · have := h3 (by omega)
        rw [show i + 1 + rlg P L f (i + 1) = i + (rlg P L f (i + 1) + 1) by omega] at this
        exact this
    · rw [if_neg z]
      refine ⟨by omega, fun j hj => by omega, fun k => ?_⟩
      cases q : P (i + 0)
      · rfl
      · exact absurd ⟨by omega, q⟩ z
theorem rl_ok (P : Nat → Bool) {L i : Nat} (hi : i ≤ L) : i + rl P L i ≤ L ∧ (∀ j, j < rl P L i → P (i + j) = true) ∧ (i + rl P L i < L → P (i + rl P L i) = false) := rlg_ok P L (L - i) i (Nat.le_refl _) hi
theorem rl_pos {P : Nat → Bool} {L i : Nat} (hi : i < L) (h : P i = true) : rl P L i = rl P L (i + 1) + 1 := by
  unfold rl
  rw [show L - i = (L - (i + 1)) + 1 by omega]
  show (if i < L ∧ P i = true then rlg P L (L - (i + 1)) (i + 1) + 1 else 0) = _
  rw [if_pos ⟨hi, h⟩]
theorem rl_zero {P : Nat → Bool} {L i : Nat} (h : i < L → P i = false) : rl P L i = 0 := by
  unfold rl
  match hf : L - i with
  | 0 => rfl
  | f + 1 =>
    show (if i < L ∧ P i = true then rlg P L f (i + 1) + 1 else 0) = 0
    rw [if_neg (fun k => by rw [h k.1] at k; exact absurd k.2 (by decide))]
/-- numbers by digits -/
def vb (b : Nat) (d : Nat → Nat) : Nat → Nat
  | 0 => 0
  | n + 1 => b * vb b d n + d n
theorem vb_congr {b : Nat} {d e : Nat → Nat} : ∀ n, (∀ i, i < n → d i = e i) → vb b d n = vb b e n
  | 0, _ => rfl
  | n + 1, h => by
    show b * vb b d n + d n = b * vb b e n + e n
    rw [vb_congr n (fun i hi => h i (by omega)), h n (by omega)]
theorem vb_inj {b : Nat} (hb : 27 ≤ b) {d e : Nat → Nat} : ∀ (n m : Nat), (∀ i, i < n → 1 ≤ d i ∧ d i ≤ 26) → (∀ i, i < m → 1 ≤ e i ∧ e i ≤ 26) → vb b d n = vb b e m → n = m ∧ ∀ i, i < n → d i = e i
  | 0, 0, _, _, _ => ⟨rfl, fun i hi => by omega⟩
  | 0, m + 1, _, he, h => by
    have := he m (by omega)
    have h : 0 = b * vb b e m + e m := h
    omega
  | n + 1, 0, hd, _, h => by
    have := hd n (by omega)
    have h : b * vb b d n + d n = 0 := h
    omega
  | n + 1, m + 1, hd, he, h => by
    have h1 := hd n (by omega)
    have h2 := he m (by omega)
    have h : b * vb b d n + d n = b * vb b e m + e m := h
    have e1 : d n = e m := by
      have a1 : (b * vb b d n + d n) % b = d n := by rw [Nat.mul_add_mod, Nat.mod_eq_of_lt (by omega)]
      have a2 : (b * vb b e m + e m) % b = e m := by rw [Nat.mul_add_mod, Nat.mod_eq_of_lt (by omega)]
      rw [← a1, ← a2, h]
    have e2 : vb b d n = vb b e m := by
      have : b * vb b d n = b * vb b e m := by omega
      exact Nat.eq_of_mul_eq_mul_left (by omega) this
    obtain ⟨g1, g2⟩ := vb_inj hb n m (fun i hi => hd i (by omega)) (fun i hi => he i (by omega)) e2
    refine ⟨by omega, fun i hi => ?_⟩
    by_cases z : i = n
    · rw [z, e1]
      congr 1
      exact g1.symm
    · exact g2 i (by omega)
theorem vb_lt {b : Nat} (hb : 1 ≤ b) {d : Nat → Nat} : ∀ n, (∀ i, i < n → d i < b) → vb b d n < b ^ n
  | 0, _ => by show 0 < 1; omega
  | n + 1, h => by
    have ih := vb_lt hb n (fun i hi => h i (by omega))
    have h1 := h n (by omega)
    show b * vb b d n + d n < b ^ (n + 1)
    rw [Nat.pow_succ, Nat.mul_comm (b ^ n) b]
    have : b * (vb b d n + 1) ≤ b * b ^ n := Nat.mul_le_mul_left b ih
    rw [Nat.mul_add] at this
    omega
/-- the four words: post, line, round, twisted -/
def kwL : List (List Nat) := [[], [16, 15, 19, 20], [12, 9, 14, 5], [18, 15, 21, 14, 4], [20, 23, 9, 19, 20, 5, 4]]
def kw (k i : Nat) : Nat := (kwL.getD k []).getD i 0
def kln (k : Nat) : Nat := (kwL.getD k []).length
def lLt (B : Nat → Int) (L i : Nat) : Nat := rl (fun j => isLt (B j)) L i
def lDg (B : Nat → Int) (L i : Nat) : Nat := rl (fun j => isDg (B j)) L i
def dgl (B : Nat → Int) (i j : Nat) : Nat := (B (i + j) - 96).toNat
def dgd (B : Nat → Int) (i j : Nat) : Nat := (B (i + j) - 48).toNat
def spl (B : Nat → Int) (L i k : Nat) : Prop := lLt B L i = kln k ∧ ∀ j, j < kln k → dgl B i j = kw k j
/-- kind, place behind, value of the token that begins at a place -/
noncomputable def tkd (B : Nat → Int) (L i : Nat) : Nat := if isLt (B i) = true then (if 8 < lLt B L i then 0 else @ite Nat (spl B L i 1) (Classical.propDecidable _) 1 (@ite Nat (spl B L i 2) (Classical.propDecidable _) 2 (@ite Nat (spl B L i 3) (Classical.propDecidable _) 3 (@ite Nat (spl B L i 4) (Classical.propDecidable _) 4 5)))) else if isDg (B i) = true then (if 4 < lDg B L i then 0 else 6) else if B i = 59 then 7 else 0
def tnd (B : Nat → Int) (L i : Nat) : Nat := if isLt (B i) = true then i + lLt B L i else if isDg (B i) = true then i + lDg B L i else i + 1
def nmv (b : Nat) (B : Nat → Int) (L i : Nat) : Nat := vb b (dgl B i) (lLt B L i)
def ivl (B : Nat → Int) (L i : Nat) : Nat := vb 10 (dgd B i) (lDg B L i)
theorem lLt_ok {B : Nat → Int} {L i : Nat} (hi : i ≤ L) : i + lLt B L i ≤ L ∧ (∀ j, j < lLt B L i → 97 ≤ B (i + j) ∧ B (i + j) ≤ 122) ∧ (i + lLt B L i < L → isLt (B (i + lLt B L i)) = false) := by
  obtain ⟨h1, h2, h3⟩ := rl_ok (fun j => isLt (B j)) hi
  exact ⟨h1, fun j hj => of_decide_eq_true (h2 j hj), h3⟩
theorem lDg_ok {B : Nat → Int} {L i : Nat} (hi : i ≤ L) : i + lDg B L i ≤ L ∧ (∀ j, j < lDg B L i → 48 ≤ B (i + j) ∧ B (i + j) ≤ 57) ∧ (i + lDg B L i < L → isDg (B (i + lDg B L i)) = false) := by
  obtain ⟨h1, h2, h3⟩ := rl_ok (fun j => isDg (B j)) hi
  exact ⟨h1, fun j hj => of_decide_eq_true (h2 j hj), h3⟩
theorem lLt_pos {B : Nat → Int} {L i : Nat} (hi : i < L) (h : isLt (B i) = true) : 1 ≤ lLt B L i := by
  unfold lLt
  rw [rl_pos (P := fun j => isLt (B j)) hi h]
  omega
theorem lDg_pos {B : Nat → Int} {L i : Nat} (hi : i < L) (h : isDg (B i) = true) : 1 ≤ lDg B L i := by
  unfold lDg
  rw [rl_pos (P := fun j => isDg (B j)) hi h]
  omega
theorem dgl_ok {B : Nat → Int} {L i j : Nat} (hi : i ≤ L) (hj : j < lLt B L i) : 1 ≤ dgl B i j ∧ dgl B i j ≤ 26 ∧ B (i + j) = ((dgl B i j + 96 : Nat) : Int) := by
  have := (lLt_ok hi).2.1 j hj
  unfold dgl
  omega
theorem dgd_ok {B : Nat → Int} {L i j : Nat} (hi : i ≤ L) (hj : j < lDg B L i) : dgd B i j < 10 ∧ B (i + j) = ((dgd B i j + 48 : Nat) : Int) := by
  have := (lDg_ok hi).2.1 j hj
  unfold dgd
  omega
theorem tnd_ok {B : Nat → Int} {L i : Nat} (hi : i < L) : i < tnd B L i ∧ tnd B L i ≤ L := by
  unfold tnd
  by_cases z : isLt (B i) = true
  · rw [if_pos z]
    have h1 := lLt_pos hi z
    have h2 := (lLt_ok (B := B) (Nat.le_of_lt hi)).1
    omega
  · rw [if_neg z]
    by_cases y : isDg (B i) = true
    · rw [if_pos y]
      have h1 := lDg_pos hi y
      have h2 := (lDg_ok (B := B) (Nat.le_of_lt hi)).1
      omega
    · rw [if_neg y]; omega
theorem vb32_8 {B : Nat → Int} {L i j : Nat} (hi : i ≤ L) (hj : j ≤ lLt B L i) (h8 : j ≤ 8) : vb 32 (dgl B i) j < 1099511627776 ∧ vb 27 (dgl B i) j < 282429536481 := by
  have h1 := vb_lt (b := 32) (by decide) (d := dgl B i) j (fun q hq => by have := (dgl_ok (B := B) (j := q) hi (by omega)).2.1; omega)
  have h2 := vb_lt (b := 27) (by decide) (d := dgl B i) j (fun q hq => by have := (dgl_ok (B := B) (j := q) hi (by omega)).2.1; omega)
  have h3 : 32 ^ j ≤ 32 ^ 8 := Nat.pow_le_pow_right (by decide) h8
  have h4 : 27 ^ j ≤ 27 ^ 8 := Nat.pow_le_pow_right (by decide) h8
  have h5 : (32 : Nat) ^ 8 = 1099511627776 := by decide
  have h6 : (27 : Nat) ^ 8 = 282429536481 := by decide
  omega
theorem vb10_4 {B : Nat → Int} {L i j : Nat} (hi : i ≤ L) (hj : j ≤ lDg B L i) (h4 : j ≤ 4) : vb 10 (dgd B i) j < 10000 := by
  have h1 := vb_lt (b := 10) (by decide) (d := dgd B i) j (fun q hq => (dgd_ok (B := B) (j := q) hi (by omega)).1)
  have h3 : 10 ^ j ≤ 10 ^ 4 := Nat.pow_le_pow_right (by decide) h4
  omega
/-! tokens at the class -/
/-- the tape as the class holds it -/
def TpX (w : Wd) (B : Nat → Int) (L : Nat) : Prop := L ≤ 2000 ∧ w 9 0 = (L : Int) ∧ (∀ i, i < L → w 13 i = B i ∧ -128 ≤ B i ∧ B i ≤ 127)
theorem TpX.of {w w' : Wd} {B : Nat → Int} {L : Nat} (h : TpX w B L) (h0 : w' 9 0 = w 9 0) (h1 : ∀ j, w' 13 j = w 13 j) : TpX w' B L := ⟨h.1, by rw [h0]; exact h.2.1, fun i hi => by rw [h1]; exact h.2.2 i hi⟩
theorem TpX.b {w : Wd} {B : Nat → Int} {L : Nat} (h : TpX w B L) {x : Int} (i : Nat) (hx : x = (i : Int)) (hi : i < L) : rd w 13 x = B i ∧ wr (B i) = B i ∧ ix x 2000 := by
  obtain ⟨h1, h2, h3⟩ := h
  obtain ⟨h4, h5, h6⟩ := h3 i hi
  exact ⟨by rw [rd_of hx (by omega)]; exact h4, wr_id (by omega) (by omega), ix_of hx (by omega) (by decide)⟩
section CTOK
variable {w : Wd} {x : Int}
theorem X6_isLetter_ok {Q : Int → Wd → Prop} (hx : wr x = x) (h1 : isLt x = true → Q 1 w) (h0 : isLt x = false → Q 0 w) : X6_isLetter x w Q := by
  unfold X6_isLetter X6_isLetter_b16
  rw [hx, show wr 97 = 97 by decide, show wr 122 = 122 by decide]
  exact ⟨fun z => h0 (decide_eq_false (by omega)), fun z => ⟨fun y => h0 (decide_eq_false (by omega)), fun y => h1 (decide_eq_true (by omega))⟩⟩
theorem X6_isDigit_ok {Q : Int → Wd → Prop} (hx : wr x = x) (h1 : isDg x = true → Q 1 w) (h0 : isDg x = false → Q 0 w) : X6_isDigit x w Q := by
  unfold X6_isDigit X6_isDigit_b16
  rw [hx, show wr 48 = 48 by decide, show wr 57 = 57 by decide]
  exact ⟨fun z => h0 (decide_eq_false (by omega)), fun z => ⟨fun y => h0 (decide_eq_false (by omega)), fun y => h1 (decide_eq_true (by omega))⟩⟩
theorem X6_isBlank_ok {Q : Int → Wd → Prop} (hx : wr x = x) (h1 : isBl x = true → Q 1 w) (h0 : isBl x = false → Q 0 w) : X6_isBlank x w Q := by
  unfold X6_isBlank X6_isBlank_b24
  rw [hx, show wr 9 = 9 by decide, show wr 10 = 10 by decide, show wr 13 = 13 by decide, show wr 32 = 32 by decide]
  exact ⟨fun z => h1 (decide_eq_true (by omega)), fun z => ⟨fun y => h1 (decide_eq_true (by omega)), fun y => ⟨fun u => h1 (decide_eq_true (by omega)), fun u => ⟨fun t => h1 (decide_eq_true (by omega)), fun t => h0 (decide_eq_false (by omega))⟩⟩⟩⟩
theorem strC_v : ∀ r : Fin 4, ∀ j : Fin 7, j.val < strL.getD r.val 0 → strC r.val (j.val : Int) = ((kw (r.val + 1) j.val + 96 : Nat) : Int) := by decide
theorem strL_v : ∀ r : Fin 4, strL.getD r.val 0 = kln (r.val + 1) ∧ kln (r.val + 1) ≤ 7 := by decide
theorem kw_le : ∀ r : Fin 4, ∀ j : Fin 7, kw (r.val + 1) j.val ≤ 26 ∧ (j.val < kln (r.val + 1) → 1 ≤ kw (r.val + 1) j.val) := by decide
theorem X6_spells_ok {Q : Int → Wd → Prop} {B : Nat → Int} {L r : Nat} {x3 : Int} (i n : Nat) (hr : r < 4) (hx : x = (i : Int)) (hx3 : x3 = ((i + n : Nat) : Int)) (hn : n = lLt B L i) (hi : i ≤ L) (hT : TpX w B L) (h1 : spl B L i (r + 1) → Q 1 w) (h0 : ¬ spl B L i (r + 1) → Q 0 w) : X6_spells r x x3 w Q := by
  subst hx hx3
  have hL := hT.1
  have hle := (lLt_ok (B := B) hi).1
  have hk := strL_v ⟨r, hr⟩
  have hk1 : strL.getD r 0 = kln (r + 1) := hk.1
  have hk2 : kln (r + 1) ≤ 7 := hk.2
  unfold X6_spells
  rw [hk1, wr_nat (n := kln (r + 1)) (by omega), show ((i + n : Nat) : Int) - (i : Int) = (n : Int) by omega, wr_nat (n := n) (by omega)]
  refine ⟨fun z => ?_, fun z => h0 (fun k => z (by have := k.1; omega))⟩
  have hnk : n = kln (r + 1) := by omega
  have loop : ∀ (m j : Nat), j ≤ kln (r + 1) → kln (r + 1) - j < m → (∀ q, q < j → dgl B i q = kw (r + 1) q) → X6_spells_l15 r Q (X6_spells_b42 r Q) (X6_spells_b50 r Q) m (i : Int) (j : Int) w := by
    intro m
    induction m with
    | zero => intro j a1 a2; omega
    | succ m ih =>
      intro j a1 a2 hj
      unfold X6_spells_l15
      rw [hk1, wr_nat (n := kln (r + 1)) (by omega), wr_nat (n := j) (by omega)]
      refine ⟨fun y => ?_, fun y => ?_⟩
      · have : j = kln (r + 1) := by omega
        subst this
        exact h1 ⟨by omega, hj⟩
      · have hjn : j < lLt B L i := by omega
        obtain ⟨d1, d2, d3⟩ := dgl_ok hi hjn
        obtain ⟨b1, b2, b3⟩ := hT.b (x := (i : Int) + (j : Int)) (i + j) (by omega) (by omega)
        have hc := strC_v ⟨r, hr⟩ ⟨j, by omega⟩ (by show j < strL.getD r 0; rw [hk1]; omega)
        have hc : strC r (j : Int) = ((kw (r + 1) j + 96 : Nat) : Int) := hc
        have hkw := (kw_le ⟨r, hr⟩ ⟨j, by omega⟩).1
        have hkw : kw (r + 1) j ≤ 26 := hkw
        rw [b1, b2, hc, wr_nat (n := kw (r + 1) j + 96) (by omega), d3]
        refine ⟨b3, ix_of rfl (by omega) (by omega), fun e => ?_, fun e => h0 (fun k => e (by rw [k.2 j (by omega)]))⟩
        rw [show (j : Int) + 1 = ((j + 1 : Nat) : Int) by omega]
        refine ih (j + 1) (by omega) (by omega) (fun q hq => ?_)
        by_cases u : q = j
        · rw [u]; omega
        · exact hj q (by omega)
  exact ⟨kln (r + 1) + 1, loop (kln (r + 1) + 1) 0 (by omega) (by omega) (fun q hq => by omega)⟩
theorem or_32 {a b : Nat} (h : b < 32) : a * 32 ||| b = 32 * a + b := by
  have := Nat.two_pow_add_eq_or_of_lt (i := 5) (b := b) h a
  rw [show (2 : Nat) ^ 5 = 32 from rfl] at this
  rw [Nat.mul_comm a 32, this]
/-- what a look leaves -/
def LkX (w : Wd) (B : Nat → Int) (L i : Nat) : Prop := w 9 11 = (tkd B L i : Int) ∧ w 9 12 = (tnd B L i : Int) ∧ (tkd B L i = 5 → w 9 13 = (nmv 32 B L i : Int)) ∧ (tkd B L i = 6 → w 9 13 = (ivl B L i : Int))
def offK (w w' : Wd) : Prop := ∀ c j, ¬ (c = 9 ∧ (j = 11 ∨ j = 12 ∨ j = 13)) → w' c j = w c j
theorem X6_letters_ok {Q : Wd → Prop} {B : Nat → Int} {L : Nat} (i : Nat) (hx : x = (i : Int)) (hi : i < L) (hl : isLt (B i) = true) (h0 : w 9 13 = 0) (hT : TpX w B L) (hQ : ∀ w', LkX w' B L i → offK w w' → Q w') : X6_lookAtLetters x w Q := by
  subst hx
  have hL := hT.1
  obtain ⟨l1, l2, l3⟩ := lLt_ok (B := B) (Nat.le_of_lt hi)
  have ek : tkd B L i = if 8 < lLt B L i then 0 else @ite Nat (spl B L i 1) (Classical.propDecidable _) 1 (@ite Nat (spl B L i 2) (Classical.propDecidable _) 2 (@ite Nat (spl B L i 3) (Classical.propDecidable _) 3 (@ite Nat (spl B L i 4) (Classical.propDecidable _) 4 5))) := by unfold tkd; rw [if_pos hl]
  have en : tnd B L i = i + lLt B L i := by unfold tnd; rw [if_pos hl]
  have fin : ∀ v : Wd, (∀ c q, ¬ (c = 9 ∧ q = 13) → v c q = w c q) → (lLt B L i ≤ 8 → v 9 13 = (nmv 32 B L i : Int)) → X6_lookAtLetters_b51 Q (i : Int) ((i + lLt B L i : Nat) : Int) v := fun v vo v13 => by
    unfold X6_lookAtLetters_b51
    intro w4 e4
    have v4 : ∀ c q, ¬ (c = 9 ∧ q = 12) → w4 c q = v c q := fun c q hc => by rw [e4, up_ap, if_neg hc]
    have T4 : TpX w4 B L := hT.of (by rw [v4 _ _ (by omega), vo _ _ (by omega)]) (fun j => by rw [v4 _ _ (by omega), vo _ _ (by omega)])
    have done : ∀ (k : Nat), tkd B L i = k → (k = 5 → lLt B L i ≤ 8) → k ≠ 6 → ∀ w5, w5 = up w4 9 11 (k : Int) → Q w5 := fun k hk h5 h6 w5 e5 => by
      have v5 : ∀ c q, ¬ (c = 9 ∧ q = 11) → w5 c q = w4 c q := fun c q hc => by rw [e5, up_ap, if_neg hc]
      refine hQ w5 ⟨by rw [hk, e5, up_eq], by rw [v5 _ _ (by omega), e4, up_eq, en], fun q => ?_, fun q => by omega⟩ (fun c j hc => by rw [v5 c j (by omega), v4 c j (by omega), vo c j (by omega)])
      rw [v5 _ _ (by omega), v4 _ _ (by omega)]
      exact v13 (h5 (by omega))
    rw [show ((i + lLt B L i : Nat) : Int) - (i : Int) = (lLt B L i : Int) by omega, wr_nat (n := lLt B L i) (by omega), show wr 8 = 8 by decide]
    refine ⟨fun z => ?_, fun z => ?_⟩
    · rw [if_neg (by omega)] at ek
      refine X6_spells_ok i _ (by decide) rfl rfl rfl (Nat.le_of_lt hi) T4 (fun s => ⟨fun y => absurd y (by decide), fun _ => ?_⟩) (fun s => ⟨fun _ => ?_, fun y => absurd (by decide) y⟩)
      · rw [if_pos s] at ek
        exact done 1 ek (fun q => absurd q (by decide)) (by decide)
      rw [if_neg s] at ek
      refine X6_spells_ok i _ (by decide) rfl rfl rfl (Nat.le_of_lt hi) T4 (fun s => ⟨fun y => absurd y (by decide), fun _ => ?_⟩) (fun s => ⟨fun _ => ?_, fun y => absurd (by decide) y⟩)
      · rw [if_pos s] at ek
        exact done 2 ek (fun q => absurd q (by decide)) (by decide)
      rw [if_neg s] at ek
      refine X6_spells_ok i _ (by decide) rfl rfl rfl (Nat.le_of_lt hi) T4 (fun s => ⟨fun y => absurd y (by decide), fun _ => ?_⟩) (fun s => ⟨fun _ => ?_, fun y => absurd (by decide) y⟩)
      · rw [if_pos s] at ek
        exact done 3 ek (fun q => absurd q (by decide)) (by decide)
      rw [if_neg s] at ek
      unfold X6_lookAtLetters_b146
      refine X6_spells_ok i _ (by decide) rfl rfl rfl (Nat.le_of_lt hi) T4 (fun s => ⟨fun y => absurd y (by decide), fun _ => ?_⟩) (fun s => ⟨fun _ => ?_, fun y => absurd (by decide) y⟩)
      · rw [if_pos s] at ek
        exact done 4 ek (fun q => absurd q (by decide)) (by decide)
      · rw [if_neg s] at ek
        exact done 5 ek (fun _ => by omega) (by decide)
    · rw [if_pos (by omega)] at ek
      exact done 0 ek (fun q => absurd q (by decide)) (by decide)
  have loop : ∀ (m j : Nat) (v : Wd), j ≤ lLt B L i → lLt B L i - j < m → (∀ c q, ¬ (c = 9 ∧ q = 13) → v c q = w c q) → (j ≤ 8 → v 9 13 = (vb 32 (dgl B i) j : Int)) → X6_lookAtLetters_l2 Q (X6_lookAtLetters_b51 Q) m (i : Int) ((i + j : Nat) : Int) v := by
    intro m
    induction m with
    | zero => intro j v a1 a2; omega
    | succ m ih =>
      intro j v a1 a2 vo v13
      have Tv : TpX v B L := hT.of (vo _ _ (by omega)) (fun j => vo _ _ (by omega))
      unfold X6_lookAtLetters_l2
      rw [Tv.2.1, wr_nat (n := L) (by omega), wr_nat (n := i + j) (by omega)]
      refine ⟨fun z => ?_, fun z => ?_⟩
      · have : j = lLt B L i := by omega
        subst this
        exact fin v vo (fun h8 => v13 h8)
      · obtain ⟨b1, b2, b3⟩ := Tv.b (x := ((i + j : Nat) : Int)) (i + j) rfl (by omega)
        refine ⟨b3, ?_⟩
        rw [b1]
        refine X6_isLetter_ok b2 (fun y => ⟨fun k => absurd k (by decide), fun _ => ⟨b3, fun w3 e3 => ?_⟩⟩) (fun y => ⟨fun _ => ?_, fun k => absurd (by decide) k⟩)
        · have hjn : j < lLt B L i := by
            rcases Nat.lt_or_ge j (lLt B L i) with u | u
            · exact u
            · have e : j = lLt B L i := by omega
              rw [e] at y
              rw [l3 (by omega)] at y
              exact absurd y (by decide)
          obtain ⟨d1, d2, d3⟩ := dgl_ok (Nat.le_of_lt hi) hjn
          have v3 : ∀ c q, ¬ (c = 9 ∧ q = 13) → w3 c q = w c q := fun c q hc => by rw [e3, up_ap, if_neg hc]; exact vo c q hc
          rw [show ((i + j : Nat) : Int) + 1 = ((i + (j + 1) : Nat) : Int) by omega]
          refine ih (j + 1) w3 (by omega) (by omega) v3 (fun h8 => ?_)
          have hb := vb32_8 (Nat.le_of_lt hi) (show j ≤ lLt B L i by omega) (show j ≤ 8 by omega)
          have hw : wr (B (i + j) - 97 + 1) = (dgl B i j : Int) := by
            rw [d3, show ((dgl B i j + 96 : Nat) : Int) - 97 + 1 = (dgl B i j : Int) by omega]
            exact wr_nat (by omega)
          have hs : lsl (vb 32 (dgl B i) j : Int) 5 = ((vb 32 (dgl B i) j * 32 : Nat) : Int) := lsl_nat (a := vb 32 (dgl B i) j) (k := 5) (by omega) (by rw [show (2 : Nat) ^ 5 = 32 from rfl]; omega)
          rw [e3, up_eq, b1, v13 (by omega), hw, hs, lor_nat (by omega) (by omega), or_32 (by omega)]
          rfl
        · have e : j = lLt B L i := by
            rcases Nat.lt_or_ge j (lLt B L i) with u | u
            · have := l2 j u
              have k : isLt (B (i + j)) = true := decide_eq_true this
              rw [k] at y
              exact absurd y (by decide)
            · omega
          subst e
          exact fin v vo (fun h8 => v13 h8)
  exact ⟨lLt B L i + 1, loop (lLt B L i + 1) 0 w (by omega) (by omega) (fun _ _ _ => rfl) (fun _ => h0)⟩
theorem X6_digits_ok {Q : Wd → Prop} {B : Nat → Int} {L : Nat} (i : Nat) (hx : x = (i : Int)) (hi : i < L) (hn : isLt (B i) = false) (hl : isDg (B i) = true) (h0 : w 9 13 = 0) (hT : TpX w B L) (hQ : ∀ w', LkX w' B L i → offK w w' → Q w') : X6_lookAtDigits x w Q := by
  subst hx
  have hL := hT.1
  obtain ⟨l1, l2, l3⟩ := lDg_ok (B := B) (Nat.le_of_lt hi)
  have hn' : ¬ isLt (B i) = true := by rw [hn]; decide
  have ek : tkd B L i = if 4 < lDg B L i then 0 else 6 := by unfold tkd; rw [if_neg hn', if_pos hl]
  have en : tnd B L i = i + lDg B L i := by unfold tnd; rw [if_neg hn', if_pos hl]
  have fin : ∀ v : Wd, (∀ c q, ¬ (c = 9 ∧ q = 13) → v c q = w c q) → (lDg B L i ≤ 4 → v 9 13 = (ivl B L i : Int)) → X6_lookAtDigits_b52 Q (i : Int) ((i + lDg B L i : Nat) : Int) v := fun v vo v13 => by
    unfold X6_lookAtDigits_b52
    intro w4 e4
    have v4 : ∀ c q, ¬ (c = 9 ∧ q = 12) → w4 c q = v c q := fun c q hc => by rw [e4, up_ap, if_neg hc]
    have done : ∀ (k : Nat), tkd B L i = k → (k = 6 → lDg B L i ≤ 4) → k ≠ 5 → ∀ w5, w5 = up w4 9 11 (k : Int) → Q w5 := fun k hk h5 h6 w5 e5 => by
      have v5 : ∀ c q, ¬ (c = 9 ∧ q = 11) → w5 c q = w4 c q := fun c q hc => by rw [e5, up_ap, if_neg hc]
      refine hQ w5 ⟨by rw [hk, e5, up_eq], by rw [v5 _ _ (by omega), e4, up_eq, en], fun q => by omega, fun q => ?_⟩ (fun c j hc => by rw [v5 c j (by omega), v4 c j (by omega), vo c j (by omega)])
      rw [v5 _ _ (by omega), v4 _ _ (by omega)]
      exact v13 (h5 (by omega))
    rw [show ((i + lDg B L i : Nat) : Int) - (i : Int) = (lDg B L i : Int) by omega, wr_nat (n := lDg B L i) (by omega), show wr 4 = 4 by decide]
    refine ⟨fun z => ?_, fun z => ?_⟩
    · rw [if_neg (by omega)] at ek
      exact done 6 ek (fun _ => by omega) (by decide)
    · rw [if_pos (by omega)] at ek
      exact done 0 ek (fun q => absurd q (by decide)) (by decide)
  have loop : ∀ (m j : Nat) (v : Wd), j ≤ lDg B L i → lDg B L i - j < m → (∀ c q, ¬ (c = 9 ∧ q = 13) → v c q = w c q) → (j ≤ 4 → v 9 13 = (vb 10 (dgd B i) j : Int)) → X6_lookAtDigits_l2 Q (X6_lookAtDigits_b52 Q) m (i : Int) ((i + j : Nat) : Int) v := by
    intro m
    induction m with
    | zero => intro j v a1 a2; omega
    | succ m ih =>
      intro j v a1 a2 vo v13
      have Tv : TpX v B L := hT.of (vo _ _ (by omega)) (fun j => vo _ _ (by omega))
      unfold X6_lookAtDigits_l2
      rw [Tv.2.1, wr_nat (n := L) (by omega), wr_nat (n := i + j) (by omega)]
      refine ⟨fun z => ?_, fun z => ?_⟩
      · have : j = lDg B L i := by omega
        subst this
        exact fin v vo (fun h8 => v13 h8)
      · obtain ⟨b1, b2, b3⟩ := Tv.b (x := ((i + j : Nat) : Int)) (i + j) rfl (by omega)
        refine ⟨b3, ?_⟩
        rw [b1]
        refine X6_isDigit_ok b2 (fun y => ⟨fun k => absurd k (by decide), fun _ => ⟨b3, fun w3 e3 => ?_⟩⟩) (fun y => ⟨fun _ => ?_, fun k => absurd (by decide) k⟩)
        · have hjn : j < lDg B L i := by
            rcases Nat.lt_or_ge j (lDg B L i) with u | u
            · exact u
            · have e : j = lDg B L i := by omega
              rw [e] at y
              rw [l3 (by omega)] at y
              exact absurd y (by decide)
          obtain ⟨d1, d3⟩ := dgd_ok (Nat.le_of_lt hi) hjn
          have v3 : ∀ c q, ¬ (c = 9 ∧ q = 13) → w3 c q = w c q := fun c q hc => by rw [e3, up_ap, if_neg hc]; exact vo c q hc
          rw [show ((i + j : Nat) : Int) + 1 = ((i + (j + 1) : Nat) : Int) by omega]
          refine ih (j + 1) w3 (by omega) (by omega) v3 (fun h8 => ?_)
          rw [e3, up_eq, b1, b2, v13 (by omega), d3]
          show _ = ((10 * vb 10 (dgd B i) j + dgd B i j : Nat) : Int)
          omega
        · have e : j = lDg B L i := by
            rcases Nat.lt_or_ge j (lDg B L i) with u | u
            · have := l2 j u
              have k : isDg (B (i + j)) = true := decide_eq_true this
              rw [k] at y
              exact absurd y (by decide)
            · omega
          subst e
          exact fin v vo (fun h8 => v13 h8)
  exact ⟨lDg B L i + 1, loop (lDg B L i + 1) 0 w (by omega) (by omega) (fun _ _ _ => rfl) (fun _ => h0)⟩
theorem X6_lookAt_ok {Q : Wd → Prop} {B : Nat → Int} {L : Nat} (i : Nat) (hx : x = (i : Int)) (hi : i < L) (hT : TpX w B L) (hQ : ∀ w', LkX w' B L i → offK w w' → Q w') : X6_lookAt x w Q := by
  have hx' := hx
  subst hx
  have hL := hT.1
  unfold X6_lookAt
  intro w1 e1 w2 e2 w3 e3
  have v3 : offK w w3 := fun c j hc => by rw [e3, up_ap, if_neg (by omega), e2, up_ap, if_neg (by omega), e1, up_ap, if_neg (by omega)]
  have T3 : TpX w3 B L := hT.of (v3 _ _ (by omega)) (fun j => v3 _ _ (by omega))
  have z13 : w3 9 13 = 0 := by rw [e3, up_ap, if_neg (by omega), e2, up_ap, if_neg (by omega), e1, up_eq]
  have z12 : w3 9 12 = (i : Int) + 1 := by rw [e3, up_ap, if_neg (by omega), e2, up_eq]
  have z11 : w3 9 11 = 0 := by rw [e3, up_eq]
  obtain ⟨b1, b2, b3⟩ := T3.b (x := (i : Int)) i rfl hi
  refine ⟨b3, ?_⟩
  rw [b1]
  refine X6_isLetter_ok b2 (fun y => ⟨fun k => absurd k (by decide), fun _ => ?_⟩) (fun y => ⟨fun _ => ⟨b3, ?_⟩, fun k => absurd (by decide) k⟩)
  · exact X6_letters_ok i rfl hi y z13 T3 (fun w' h o => hQ w' h (fun c j hc => by rw [o c j hc, v3 c j hc]))
  · have y' : ¬ isLt (B i) = true := by rw [y]; decide
    rw [b1]
    refine X6_isDigit_ok b2 (fun u => ⟨fun k => absurd k (by decide), fun _ => ?_⟩) (fun u => ⟨fun _ => ⟨b3, ?_⟩, fun k => absurd (by decide) k⟩)
    · exact X6_digits_ok i rfl hi y u z13 T3 (fun w' h o => hQ w' h (fun c j hc => by rw [o c j hc, v3 c j hc]))
    · have u' : ¬ isDg (B i) = true := by rw [u]; decide
      have en : tnd B L i = i + 1 := by unfold tnd; rw [if_neg y', if_neg u']
      have ek : tkd B L i = if B i = 59 then 7 else 0 := by unfold tkd; rw [if_neg y', if_neg u']
      rw [b1, b2, show wr 59 = 59 by decide]
      refine ⟨fun k w8 e8 => ?_, fun k => ?_⟩
      · rw [if_pos k] at ek
        have v8 : ∀ c q, ¬ (c = 9 ∧ q = 11) → w8 c q = w3 c q := fun c q hc => by rw [e8, up_ap, if_neg hc]
        exact hQ w8 ⟨by rw [ek, e8, up_eq]; rfl, by rw [v8 _ _ (by omega), z12, en]; rfl, fun q => by omega, fun q => by omega⟩ (fun c j hc => by rw [v8 c j (by omega), v3 c j hc])
      · rw [if_neg k] at ek
        exact hQ w3 ⟨by rw [ek, z11]; rfl, by rw [z12, en]; rfl, fun q => by omega, fun q => by omega⟩ v3
end CTOK
