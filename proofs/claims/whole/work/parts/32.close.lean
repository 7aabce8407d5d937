theorem rd0 {w : Wd} {k : Nat} : rd w k 0 = w k 0 := rd_of (x := 0) (n := 0) rfl (by decide)
theorem rd1 {w : Wd} {k : Nat} : rd w k 1 = w k 1 := rd_of (x := 1) (n := 1) rfl (by decide)
theorem wt0 {w : Wd} {k : Nat} {v : Int} : wt w k 0 v = up w k 0 v := wt_of (x := 0) (n := 0) rfl (by decide)
theorem wt1 {w : Wd} {k : Nat} {v : Int} : wt w k 1 v = up w k 1 v := wt_of (x := 1) (n := 1) rfl (by decide)
/-! a line's number goes: the class, the model -/
def clE (w : Wd) (c0 b0 line m : Nat) : Wd := fun c j => if c = c0 ∧ b0 + 2 * line ≤ j ∧ j + 2 < b0 + 2 * m then w c (j + 2) else w c j
def clR (w : Wd) (cD bD cR bR n line : Nat) : Wd := fun c j => if c = cR ∧ bR ≤ j ∧ (j - bR) / 10 < n ∧ ((j - bR) % 10 : Int) < w cD (bD + (j - bR) / 10) ∧ (line : Int) < w c j then w c j - 1 else w c j
theorem X1_close_l4_ok {k : Nat} {Q : Wd → Prop} {e36 : Int → Wd → Prop} (line m : Nat) (hm : m ≤ 10) (x1 : Int) : ∀ (f j : Nat) (v : Wd), 2 * line ≤ j → 2 * m - j < f → v k 1 = m → (∀ w' : Wd, (∀ c b, w' c b = if c = k + 1 ∧ j ≤ b ∧ b + 2 < 2 * m then v c (b + 2) else v c b) → e36 x1 w') → j < 100 → X1_closeLineNumber_l4 k Q e36 f x1 (j : Int) v := by
  intro f
  induction f with
  | zero => intro j v h1 h2; omega
  | succ f ih =>
    intro j v h1 h2 hv hK hj
    unfold X1_closeLineNumber_l4
    rw [hv, wr_id (x := 2 * (m : Int)) (by omega) (by omega), wr_id (x := (j : Int) + 2) (by omega) (by omega)]
    refine ⟨fun q => hK v (fun c b => by rw [if_neg (by omega)]), fun q => ⟨ix_of (n := j + 2) (by omega) (by omega) (by decide), ix_of (n := j) rfl (by omega) (by decide), ?_⟩⟩
    intro w2 e2
    rw [wt_of (n := j) rfl (by omega), rd_of (n := j + 2) (by omega) (by omega)] at e2
    rw [show (j : Int) + 1 = ((j + 1 : Nat) : Int) by omega]
    refine ih (j + 1) w2 (by omega) (by omega) ?_ (fun w' hw' => hK w' (fun c b => ?_)) (by omega)
    · subst e2; simp only [up_ap]; grind
    · rw [hw']; subst e2; simp only [up_ap]; grind
theorem X1_close_l86_ok {k : Nat} {Q : Wd → Prop} {e130 : Int → Int → Wd → Prop} (line p d : Nat) (hp : p < 6) (hd : d ≤ 10) (hl : line < 10) : ∀ (f j : Nat) (v : Wd), j ≤ d → d - j < f → v (k + 2) p = d → (∀ i, i < d → ∃ a : Nat, v (k + 3) (10 * p + i) = a ∧ a < 100) → (∀ w' : Wd, (∀ c b, w' c b = if c = k + 3 ∧ 10 * p + j ≤ b ∧ b < 10 * p + d ∧ (line : Int) < v c b then v c b - 1 else v c b) → e130 (line : Int) (p : Int) w') → X1_closeLineNumber_l86 k Q e130 f (line : Int) (p : Int) (j : Int) v := by
  intro f
  induction f with
  | zero => intro j v h1 h2; omega
  | succ f ih =>
    intro j v h1 h2 hv hr hK
    unfold X1_closeLineNumber_l86 X1_lineAt
    dsimp only
    rw [rd_of (n := p) rfl (by omega), hv, wr_nat (n := d) (by omega), wr_nat (n := j) (by omega)]
    refine ⟨ix_of rfl hp (by decide), fun q => hK v (fun c b => by rw [if_neg (by omega)]), fun q => ⟨ix_of (n := 10 * p + j) (by omega) (by omega) (by decide), ?_⟩⟩
    obtain ⟨a, ha, ha2⟩ := hr j (by omega)
    rw [rd_of (n := 10 * p + j) (by omega) (by omega), ha, wr_nat (n := a) (by omega), wr_nat (n := a) (by omega), wr_nat (n := line) (by omega)]
    rw [show (j : Int) + 1 = ((j + 1 : Nat) : Int) by omega]
    refine ⟨fun z => ?_, fun z => ⟨ix_of (n := 10 * p + j) (by omega) (by omega) (by decide), ix_of (n := 10 * p + j) (by omega) (by omega) (by decide), ?_⟩⟩
    · refine ih (j + 1) v (by omega) (by omega) hv hr (fun w' hw' => hK w' (fun c b => ?_))
      rw [hw']
      grind
    · intro w8 e8
      rw [wt_of (n := 10 * p + j) (by omega) (by omega)] at e8
      refine ih (j + 1) w8 (by omega) (by omega) ?_ ?_ (fun w' hw' => hK w' (fun c b => ?_))
      · subst e8; simp only [up_ap]; grind
      · intro i hi
        subst e8
        simp only [up_ap]
        by_cases hij : i = j
        · subst hij
          rw [if_pos (by exact ⟨trivial, rfl⟩)]
          exact ⟨a - 1, by omega, by omega⟩
        · rw [if_neg (by omega)]
          exact hr i hi
      · rw [hw']; subst e8; simp only [up_ap]; grind
theorem X1_close_l75_ok {k : Nat} {Q : Wd → Prop} {e136 : Wd → Prop} (line n : Nat) (dg : Nat → Nat) (hn : n ≤ 6) (hl : line < 10) : ∀ (f p : Nat) (v : Wd), p ≤ n → n - p < f → v k 0 = n → (∀ q, q < n → v (k + 2) q = dg q ∧ dg q ≤ 10) → (∀ q i, q < n → i < dg q → ∃ a : Nat, v (k + 3) (10 * q + i) = a ∧ a < 100) → (∀ w' : Wd, (∀ c b, w' c b = if c = k + 3 ∧ 10 * p ≤ b ∧ b / 10 < n ∧ b % 10 < dg (b / 10) ∧ (line : Int) < v c b then v c b - 1 else v c b) → e136 w') → X1_closeLineNumber_l75 k Q e136 f (line : Int) (p : Int) v := by
  intro f
  induction f with
  | zero => intro j v h1 h2; omega
  | succ f ih =>
    intro p v h1 h2 hv hg hr hK
    unfold X1_closeLineNumber_l75
    rw [hv, wr_nat (n := n) (by omega), wr_nat (n := p) (by omega)]
    refine ⟨fun q => hK v (fun c b => by rw [if_neg (by omega)]), fun q => ⟨dg p + 1, ?_⟩⟩
    have hgp := hg p (by omega)
    refine X1_close_l86_ok line p (dg p) (by omega) hgp.2 hl (dg p + 1) 0 v (by omega) (by omega) hgp.1 (fun i hi => hr p i (by omega) hi) (fun w' hw' => ?_)
    unfold X1_closeLineNumber_b130
    rw [show (p : Int) + 1 = ((p + 1 : Nat) : Int) by omega]
    refine ih (p + 1) w' (by omega) (by omega) ?_ ?_ ?_ (fun w2 hw2 => hK w2 (fun c b => ?_))
    · rw [hw', if_neg (by omega), hv]
    · intro q hq
      rw [hw', if_neg (by omega)]
      exact hg q hq
    · intro q i hq hi
      rw [hw']
      obtain ⟨a, ha, ha2⟩ := hr q i hq hi
      rw [ha]
      by_cases z : k + 3 = k + 3 ∧ 10 * p + 0 ≤ 10 * q + i ∧ 10 * q + i < 10 * p + dg p ∧ (line : Int) < a
      · rw [if_pos z]
        exact ⟨a - 1, by omega, by omega⟩
      · rw [if_neg z]
        exact ⟨a, rfl, ha2⟩
    · rw [hw2, hw']
      have h10 : dg p ≤ 10 := hgp.2
      by_cases hb : b / 10 = p
      · rw [hb]
        grind
      · grind
theorem ian_not {a b : Nat} (ha : a < 2147483648) (hb : b < 2147483648) : ian (a : Int) (ixo (b : Int) (-1)) = ((a &&& (4294967295 - b) : Nat) : Int) := by
  have e1 : Int32.ofInt (ixo (b : Int) (-1)) = nI (4294967295 - b) := by
    unfold ixo
    rw [oi, nio]
    apply Int32.toBitVec_inj.mp
    rw [Int32.toBitVec_xor, nbv, nbv]
    have : (Int32.ofInt (-1)).toBitVec = BitVec.allOnes 32 := by decide
    rw [this]
    apply BitVec.eq_of_getLsbD_eq
    intro i hi
    have h2 : (4294967295 - b).testBit i = (decide (i < 32) && !b.testBit i) := by
      have := Nat.testBit_two_pow_sub_succ (n := 32) (x := b) (by omega) i
      rw [show 4294967295 - b = 2 ^ 32 - (b + 1) by omega]
      exact this
    rw [BitVec.getLsbD_xor, BitVec.getLsbD_ofNat, BitVec.getLsbD_ofNat, BitVec.getLsbD_allOnes, h2]
    simp [hi]
  have e : nI a &&& nI (4294967295 - b) = nI (a &&& (4294967295 - b)) := by
    apply Int32.toBitVec_inj.mp
    simp [nbv, Int32.toBitVec_and, BitVec.ofNat_and]
  unfold ian
  rw [e1, nio, e, nI_toInt]
  exact Nat.lt_of_le_of_lt Nat.and_le_left ha
theorem tb_not {b : Nat} (hb : b < 2147483648) (i : Nat) : (4294967295 - b).testBit i = (decide (i < 32) && !b.testBit i) := by
  have := Nat.testBit_two_pow_sub_succ (n := 32) (x := b) (by omega) i
  rw [show 4294967295 - b = 2 ^ 32 - (b + 1) by omega]
  exact this
/-- a bit goes, those behind it move up -/
def bdel (t line : Nat) : Nat := (t &&& (2 ^ line - 1)) ||| (t / 2 &&& (4294967295 - (2 ^ line - 1)))
theorem bdel_bit {t line : Nat} (ht : t < 1024) (hl : line < 10) (i : Nat) : (bdel t line).testBit i = if i < line then t.testBit i else t.testBit (i + 1) := by
  have h1 : 2 ^ line ≤ 2 ^ 10 := Nat.pow_le_pow_right (by decide) (by omega)
  have h0 : 0 < 2 ^ line := Nat.two_pow_pos line
  unfold bdel
  rw [Nat.testBit_or, Nat.testBit_and, Nat.testBit_and, tb_not (by omega), Nat.testBit_two_pow_sub_one, Nat.testBit_div_two]
  by_cases h : i < line
  · simp [h]
  · simp only [h, decide_false, Bool.and_false, Bool.not_false, Bool.and_true, Bool.false_or, if_false]
    by_cases h2 : i < 32
    · simp [h2]
    · have h3 : t.testBit (i + 1) = false := Nat.testBit_lt_two_pow (Nat.lt_of_lt_of_le ht (by
        have : 2 ^ 10 ≤ 2 ^ (i + 1) := Nat.pow_le_pow_right (by decide) (by omega)
        exact this))
      simp [h2, h3]
theorem bdel_lt {t line : Nat} (ht : t < 1024) : bdel t line < 1024 := by
  unfold bdel
  have h1 : t &&& (2 ^ line - 1) < 2 ^ 10 := Nat.lt_of_le_of_lt Nat.and_le_left ht
  have h2 : t / 2 &&& (4294967295 - (2 ^ line - 1)) < 2 ^ 10 := Nat.lt_of_le_of_lt Nat.and_le_left (by omega)
  exact Nat.or_lt_two_pow h1 h2
theorem bdel_eq {t line : Nat} (ht : t < 1024) (hl : line < 10) : ior (ian (t : Int) ((isl 1 (line : Int)) - 1)) (ian (isr (t : Int) 1) (ixo ((isl 1 (line : Int)) - 1) (-1))) = (bdel t line : Nat) := by
  have h1 : 2 ^ line ≤ 2 ^ 10 := Nat.pow_le_pow_right (by decide) (by omega)
  have h0 : 0 < 2 ^ line := Nat.two_pow_pos line
  have e1 : isl 1 (line : Int) - 1 = ((2 ^ line - 1 : Nat) : Int) := by
    have := isl_nat (a := 1) (k := line) (by omega) (by omega)
    rw [show (1 : Int) = ((1 : Nat) : Int) from rfl, this]
    omega
  have e2 : isr (t : Int) 1 = ((t / 2 : Nat) : Int) := by
    have := isr_nat (a := t) (k := 1) (by omega) (by omega)
    simpa using this
  rw [e1, e2, ian_nat (by omega), ian_not (by omega) (by omega), ior_nat]
  · rfl
  · exact Nat.lt_of_le_of_lt Nat.and_le_left (by omega)
  · exact Nat.lt_of_le_of_lt Nat.and_le_left (by omega)
/-- the class's closeLineNumber, as it changes the world -/
def clX (w : Wd) (k line n m t : Nat) (dg : Nat → Nat) : Wd := fun c b => if c = k ∧ b = 1 then (m : Int) - 1 else if c = k ∧ b = 2 then (bdel t line : Nat) else if c = k + 1 ∧ 2 * line ≤ b ∧ b + 2 < 2 * m then w c (b + 2) else if c = k + 3 ∧ b / 10 < n ∧ b % 10 < dg (b / 10) ∧ (line : Int) < w c b then w c b - 1 else w c b
theorem X1_closeLine_ok {k : Nat} {Q : Wd → Prop} {w : Wd} {x1 : Int} (line n m t : Nat) (dg : Nat → Nat) (h1 : x1 = (line : Int)) (hl : line < m) (hn : n ≤ 6) (hm : m ≤ 10) (ht : t < 1024) (w0' : w k 0 = n) (w1 : w k 1 = m) (w2 : w k 2 = t) (hg : ∀ q, q < n → w (k + 2) q = dg q ∧ dg q ≤ 10) (hr : ∀ q i, q < n → i < dg q → ∃ a : Nat, w (k + 3) (10 * q + i) = a ∧ a < 100) (hQ : Q (clX w k line n m t dg)) : X1_closeLineNumber k x1 w Q := by
  subst h1
  unfold X1_closeLineNumber
  intro y1 e1
  rw [show 2 * (line : Int) = ((2 * line : Nat) : Int) by omega] at e1
  subst e1
  refine ⟨2 * m + 1, X1_close_l4_ok line m hm _ (2 * m + 1) (2 * line) w (Nat.le_refl _) (by omega) w1 (fun v hv => ?_) (by omega)⟩
  unfold X1_closeLineNumber_b36
  intro w3 e3 y4 e4 w5 e5
  have f2 : w3 k 2 = t := by subst e3; simp only [up_ap]; rw [if_neg (by omega), hv, if_neg (by omega), w2]
  rw [f2, e4, bdel_eq ht (by omega)] at e5
  refine ⟨n + 1, X1_close_l75_ok line n dg hn (by omega) (n + 1) 0 w5 (by omega) (by omega) ?_ ?_ ?_ (fun w' hw' => ?_)⟩
  · subst e5 e3; simp only [up_ap]; rw [if_neg (by omega), if_neg (by omega), hv, if_neg (by omega), w0']
  · intro q hq
    subst e5 e3; simp only [up_ap]; rw [if_neg (by omega), if_neg (by omega), hv, if_neg (by omega)]
    exact hg q hq
  · intro q i hq hi
    subst e5 e3; simp only [up_ap]; rw [if_neg (by omega), if_neg (by omega), hv, if_neg (by omega)]
    exact hr q i hq hi
  · unfold X1_closeLineNumber_b136
    have : w' = clX w k line n m t dg := by
      funext c b
      rw [hw']
      subst e5 e3
      simp only [up_ap, hv, clX]
      have := w1
      grind
    rw [this]
    exact hQ
/-- the model's closesUp -/
def clM (w : Wd) (r line n m : Nat) (dg : Nat → Nat) : Wd := fun c b => if c = r ∧ b = 1 then (m : Int) - 1 else if c = r ∧ 2 + 2 * line ≤ b ∧ b + 2 < 2 + 2 * m then w c (b + 2) else if c = r ∧ 22 + line ≤ b ∧ b + 1 < 22 + m then w c (b + 1) else if c = r ∧ 38 ≤ b ∧ (b - 38) / 10 < n ∧ (b - 38) % 10 < dg ((b - 38) / 10) ∧ (line : Int) < w c b then w c b - 1 else w c b
theorem X11_close_l2_ok {r : Nat} {Q : Wd → Prop} {e65 : Int → Wd → Prop} (m : Nat) (hm : m ≤ 10) (x1 : Int) : ∀ (f j : Nat) (v : Wd), j < m → m - j < f → v r 1 = m → (∀ w' : Wd, (∀ c b, w' c b = if c = r ∧ 2 + 2 * j ≤ b ∧ b + 2 < 2 + 2 * m then v c (b + 2) else if c = r ∧ 22 + j ≤ b ∧ b + 1 < 22 + m then v c (b + 1) else v c b) → e65 x1 w') → X11_closesUp_l2 r Q e65 f x1 (j : Int) v := by
  intro f
  induction f with
  | zero => intro j v h1 h2; omega
  | succ f ih =>
    intro j v h1 h2 hv hK
    unfold X11_closesUp_l2
    rw [rd1, hv, wr_nat (n := m) (by omega), wr_id (x := (j : Int) + 1) (by omega) (by omega)]
    refine ⟨ix_of (n := 1) rfl (by omega) (by decide), fun q => hK v (fun c b => by rw [if_neg (by omega), if_neg (by omega)]), fun q => ⟨ix_of (n := 2 + 2 * j + 2) (by omega) (by omega) (by decide), ix_of (n := 2 + 2 * j) (by omega) (by omega) (by decide), ?_⟩⟩
    intro w1 e1
    rw [wt_of (n := 2 + 2 * j) (by omega) (by omega), rd_of (n := 2 + 2 * j + 2) (by omega) (by omega)] at e1
    refine ⟨ix_of (n := 2 + 2 * j + 3) (by omega) (by omega) (by decide), ix_of (n := 2 + 2 * j + 1) (by omega) (by omega) (by decide), ?_⟩
    intro w2 e2
    rw [wt_of (n := 2 + 2 * j + 1) (by omega) (by omega), rd_of (n := 2 + 2 * j + 3) (by omega) (by omega)] at e2
    refine ⟨ix_of (n := 22 + j + 1) (by omega) (by omega) (by decide), ix_of (n := 22 + j) (by omega) (by omega) (by decide), ?_⟩
    intro w3 e3
    rw [wt_of (n := 22 + j) (by omega) (by omega), rd_of (n := 22 + j + 1) (by omega) (by omega)] at e3
    rw [show (j : Int) + 1 = ((j + 1 : Nat) : Int) by omega]
    refine ih (j + 1) w3 (by omega) (by omega) ?_ (fun w' hw' => hK w' (fun c b => ?_))
    · subst e3 e2 e1; simp only [up_ap]; grind
    · rw [hw']; subst e3 e2 e1; simp only [up_ap]; grind
theorem X11_close_l83_ok {r : Nat} {Q : Wd → Prop} {e129 : Int → Int → Wd → Prop} (line p d : Nat) (hp : p < 6) (hd : d ≤ 10) (hl : line < 10) : ∀ (f j : Nat) (v : Wd), j ≤ d → d - j < f → v r (32 + p) = d → (∀ i, i < d → ∃ a : Nat, v r (38 + 10 * p + i) = a ∧ a < 100) → (∀ w' : Wd, (∀ c b, w' c b = if c = r ∧ 38 + 10 * p + j ≤ b ∧ b < 38 + 10 * p + d ∧ (line : Int) < v c b then v c b - 1 else v c b) → e129 (line : Int) (p : Int) w') → X11_closesUp_l83 r Q e129 f (line : Int) (p : Int) (j : Int) v := by
  intro f
  induction f with
  | zero => intro j v h1 h2; omega
  | succ f ih =>
    intro j v h1 h2 hv hr hK
    unfold X11_closesUp_l83
    rw [rd_of (n := 32 + p) (by omega) (by omega), hv, wr_nat (n := d) (by omega), wr_nat (n := j) (by omega)]
    refine ⟨ix_of (n := 32 + p) (by omega) (by omega) (by decide), fun q => hK v (fun c b => by rw [if_neg (by omega)]), fun q => ⟨ix_of (n := 38 + 10 * p + j) (by omega) (by omega) (by decide), ?_⟩⟩
    obtain ⟨a, ha, ha2⟩ := hr j (by omega)
    rw [rd_of (n := 38 + 10 * p + j) (by omega) (by omega), ha, wr_nat (n := a) (by omega), wr_nat (n := line) (by omega)]
    rw [show (j : Int) + 1 = ((j + 1 : Nat) : Int) by omega]
    refine ⟨fun z => ?_, fun z => ⟨ix_of (n := 38 + 10 * p + j) (by omega) (by omega) (by decide), ix_of (n := 38 + 10 * p + j) (by omega) (by omega) (by decide), ?_⟩⟩
    · refine ih (j + 1) v (by omega) (by omega) hv hr (fun w' hw' => hK w' (fun c b => ?_))
      rw [hw']
      grind
    · intro w8 e8
      rw [wt_of (n := 38 + 10 * p + j) (by omega) (by omega)] at e8
      refine ih (j + 1) w8 (by omega) (by omega) ?_ ?_ (fun w' hw' => hK w' (fun c b => ?_))
      · subst e8; simp only [up_ap]; grind
      · intro i hi
        subst e8
        simp only [up_ap]
        by_cases hij : i = j
        · subst hij
          rw [if_pos (by exact ⟨trivial, rfl⟩)]
          exact ⟨a - 1, by omega, by omega⟩
        · rw [if_neg (by omega)]
          exact hr i hi
      · rw [hw']; subst e8; simp only [up_ap]; grind
theorem X11_close_l74_ok {r : Nat} {Q : Wd → Prop} {e135 : Wd → Prop} (line n : Nat) (dg : Nat → Nat) (hn : n ≤ 6) (hl : line < 10) : ∀ (f p : Nat) (v : Wd), p ≤ n → n - p < f → v r 0 = n → (∀ q, q < n → v r (32 + q) = dg q ∧ dg q ≤ 10) → (∀ q i, q < n → i < dg q → ∃ a : Nat, v r (38 + 10 * q + i) = a ∧ a < 100) → (∀ w' : Wd, (∀ c b, w' c b = if c = r ∧ 38 + 10 * p ≤ b ∧ (b - 38) / 10 < n ∧ (b - 38) % 10 < dg ((b - 38) / 10) ∧ (line : Int) < v c b then v c b - 1 else v c b) → e135 w') → X11_closesUp_l74 r Q e135 f (line : Int) (p : Int) v := by
  intro f
  induction f with
  | zero => intro j v h1 h2; omega
  | succ f ih =>
    intro p v h1 h2 hv hg hr hK
    unfold X11_closesUp_l74
    rw [rd0, hv, wr_nat (n := n) (by omega), wr_nat (n := p) (by omega)]
    refine ⟨ix_of (n := 0) rfl (by omega) (by decide), fun q => hK v (fun c b => by rw [if_neg (by omega)]), fun q => ⟨dg p + 1, ?_⟩⟩
    have hgp := hg p (by omega)
    refine X11_close_l83_ok line p (dg p) (by omega) hgp.2 hl (dg p + 1) 0 v (by omega) (by omega) hgp.1 (fun i hi => hr p i (by omega) hi) (fun w' hw' => ?_)
    unfold X11_closesUp_b129
    rw [show (p : Int) + 1 = ((p + 1 : Nat) : Int) by omega]
    refine ih (p + 1) w' (by omega) (by omega) ?_ ?_ ?_ (fun w2 hw2 => hK w2 (fun c b => ?_))
    · rw [hw', if_neg (by omega), hv]
    · intro q hq
      rw [hw', if_neg (by omega)]
      exact hg q hq
    · intro q i hq hi
      rw [hw']
      obtain ⟨a, ha, ha2⟩ := hr q i hq hi
      rw [ha]
      by_cases z : r = r ∧ 38 + 10 * p + 0 ≤ 38 + 10 * q + i ∧ 38 + 10 * q + i < 38 + 10 * p + dg p ∧ (line : Int) < a
      · rw [if_pos z]
        exact ⟨a - 1, by omega, by omega⟩
      · rw [if_neg z]
        exact ⟨a, rfl, ha2⟩
    · rw [hw2, hw']
      have h10 : dg p ≤ 10 := hgp.2
      by_cases hb : (b - 38) / 10 = p
      · rw [hb]
        grind
      · grind
theorem X11_closesUp_ok {r : Nat} {Q : Wd → Prop} {w : Wd} {x1 : Int} (line n m : Nat) (dg : Nat → Nat) (h1 : x1 = (line : Int)) (hl : line < m) (hn : n ≤ 6) (hm : m ≤ 10) (w0' : w r 0 = n) (w1 : w r 1 = m) (hg : ∀ q, q < n → w r (32 + q) = dg q ∧ dg q ≤ 10) (hr : ∀ q i, q < n → i < dg q → ∃ a : Nat, w r (38 + 10 * q + i) = a ∧ a < 100) (hQ : Q (clM w r line n m dg)) : X11_closesUp r x1 w Q := by
  subst h1
  unfold X11_closesUp
  refine ⟨m + 1, X11_close_l2_ok m hm _ (m + 1) line w hl (by omega) w1 (fun v hv => ?_)⟩
  unfold X11_closesUp_b65
  refine ⟨ix_of (n := 1) rfl (by omega) (by decide), ix_of (n := 1) rfl (by omega) (by decide), ?_⟩
  intro w4 e4
  have f1 : v r 1 = m := by rw [hv, if_neg (by omega), if_neg (by omega), w1]
  rw [wt1, rd1, f1] at e4
  refine ⟨n + 1, X11_close_l74_ok line n dg hn (by omega) (n + 1) 0 w4 (by omega) (by omega) ?_ ?_ ?_ (fun w' hw' => ?_)⟩
  · subst e4; simp only [up_ap]; rw [if_neg (by omega), hv, if_neg (by omega), if_neg (by omega), w0']
  · intro q hq
    subst e4; simp only [up_ap]; rw [if_neg (by omega), hv, if_neg (by omega), if_neg (by omega)]
    exact hg q hq
  · intro q i hq hi
    subst e4; simp only [up_ap]; rw [if_neg (by omega), hv, if_neg (by omega), if_neg (by omega)]
    exact hr q i hq hi
  · unfold X11_closesUp_b135
    have : w' = clM w r line n m dg := by
      funext c b
      rw [hw']
      subst e4
      simp only [up_ap, hv, clM]
      grind
    rw [this]
    exact hQ
