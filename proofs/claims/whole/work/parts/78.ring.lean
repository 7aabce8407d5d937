/-! RINGS: sets of lines, and ways round -/
def cnt (f : Nat → Bool) : Nat → Nat
  | 0 => 0
  | k + 1 => cnt f k + (if f k then 1 else 0)
theorem cnt_y {f : Nat → Bool} {k : Nat} (h : f k = true) : cnt f (k + 1) = cnt f k + 1 := by
  show cnt f k + (if f k then 1 else 0) = _
  rw [h]; rfl
theorem cnt_n {f : Nat → Bool} {k : Nat} (h : f k = false) : cnt f (k + 1) = cnt f k := by
  show cnt f k + (if f k then 1 else 0) = _
  rw [h]; rfl
theorem cnt_le {f : Nat → Bool} : ∀ k, cnt f k ≤ k
  | 0 => Nat.le_refl _
  | k + 1 => by
    have := cnt_le (f := f) k
    cases q : f k
    · rw [cnt_n q]; omega
    · rw [cnt_y q]; omega
theorem cnt_congr {f g : Nat → Bool} : ∀ k, (∀ i, i < k → f i = g i) → cnt f k = cnt g k
  | 0, _ => rfl
  | k + 1, h => by
    have := cnt_congr k (fun i hi => h i (by omega))
    have e := h k (by omega)
    cases q : f k
    · rw [cnt_n q, cnt_n (by rw [← e]; exact q), this]
    · rw [cnt_y q, cnt_y (by rw [← e]; exact q), this]
theorem cnt_mono {f g : Nat → Bool} : ∀ k, (∀ i, i < k → f i = true → g i = true) → cnt f k ≤ cnt g k
  | 0, _ => Nat.le_refl _
  | k + 1, h => by
    have := cnt_mono k (fun i hi => h i (by omega))
    cases q : f k
    · rw [cnt_n q]
      cases q2 : g k
      · rw [cnt_n q2]; exact this
      · rw [cnt_y q2]; omega
    · rw [cnt_y q, cnt_y (h k (by omega) q)]; omega
theorem cnt_add {f g : Nat → Bool} {a : Nat} : ∀ k, a < k → f a = false → g a = true → (∀ i, i < k → i ≠ a → g i = f i) → cnt g k = cnt f k + 1
  | 0, h, _, _, _ => by omega
  | k + 1, h, h1, h2, h3 => by
    by_cases z : a = k
    · subst z
      rw [cnt_n h1, cnt_y h2, cnt_congr a (fun i hi => h3 i (by omega) (by omega))]
    · have := cnt_add k (by omega) h1 h2 (fun i hi => h3 i (by omega))
      have e := h3 k (by omega) (fun y => z y.symm)
      cases q : f k
      · rw [cnt_n q, cnt_n (by rw [e]; exact q), this]
      · rw [cnt_y q, cnt_y (by rw [e]; exact q), this]
theorem cnt_zero {f : Nat → Bool} : ∀ k, cnt f k = 0 → ∀ i, i < k → f i = false
  | 0, _, i, hi => by omega
  | k + 1, h, i, hi => by
    cases q : f k
    · rw [cnt_n q] at h
      by_cases z : i = k
      · rw [z]; exact q
      · exact cnt_zero k h i (by omega)
    · rw [cnt_y q] at h; omega
theorem cnt_none {f : Nat → Bool} : ∀ k, (∀ i, i < k → f i = false) → cnt f k = 0
  | 0, _ => rfl
  | k + 1, h => by rw [cnt_n (h k (by omega)), cnt_none k (fun i hi => h i (by omega))]
theorem cnt_one {f : Nat → Bool} : ∀ k, cnt f k = 1 → ∃ a, a < k ∧ f a = true ∧ ∀ i, i < k → f i = true → i = a
  | 0, h => by have h : 0 = 1 := h; omega
  | k + 1, h => by
    cases q : f k
    · rw [cnt_n q] at h
      obtain ⟨a, h1, h2, h3⟩ := cnt_one k h
      refine ⟨a, by omega, h2, fun i hi hf => ?_⟩
      by_cases z : i = k
      · rw [z, q] at hf; exact absurd hf (by decide)
      · exact h3 i (by omega) hf
    · rw [cnt_y q] at h
      have h0 := cnt_zero (f := f) k (by omega)
      refine ⟨k, by omega, q, fun i hi hf => ?_⟩
      by_cases z : i = k
      · exact z
      · rw [h0 i (by omega)] at hf; exact absurd hf (by decide)
theorem cnt_two {f : Nat → Bool} : ∀ k, cnt f k = 2 → ∃ a b, a < b ∧ b < k ∧ f a = true ∧ f b = true ∧ ∀ i, i < k → f i = true → i = a ∨ i = b
  | 0, h => by have h : 0 = 2 := h; omega
  | k + 1, h => by
    cases q : f k
    · rw [cnt_n q] at h
      obtain ⟨a, b, h1, h2, h3, h4, h5⟩ := cnt_two k h
      refine ⟨a, b, h1, by omega, h3, h4, fun i hi hf => ?_⟩
      by_cases z : i = k
      · rw [z, q] at hf; exact absurd hf (by decide)
      · exact h5 i (by omega) hf
    · rw [cnt_y q] at h
      obtain ⟨a, h1, h2, h3⟩ := cnt_one (f := f) k (by omega)
      refine ⟨a, k, h1, by omega, h2, q, fun i hi hf => ?_⟩
      by_cases z : i = k
      · exact Or.inr z
      · exact Or.inl (h3 i (by omega) hf)
theorem cnt_pos {f : Nat → Bool} {k i : Nat} (hi : i < k) (h : f i = true) : cnt f k ≠ 0 := fun e => by
  rw [cnt_zero k e i hi] at h
  exact absurd h (by decide)
/-- lines of a set at a post -/
def inL (D : Dw) (S p e : Nat) : Bool := S.testBit e && (decide (dE D (2 * e) = p) || decide (dE D (2 * e + 1) = p))
theorem inL_iff {D : Dw} {S p e : Nat} : inL D S p e = true ↔ S.testBit e = true ∧ atP D e p := by
  unfold inL atP
  simp
def dgS (D : Dw) (S p : Nat) : Nat := cnt (inL D S p) (dM D)
def Sub (U S : Nat) : Prop := ∀ e, U.testBit e = true → S.testBit e = true
theorem dgS_mono {D : Dw} {U S p : Nat} (h : Sub U S) : dgS D U p ≤ dgS D S p := cnt_mono _ (fun i _ hf => by
  rw [inL_iff] at hf ⊢
  exact ⟨h i hf.1, hf.2⟩)
theorem dgS_zero {D : Dw} {p : Nat} : dgS D 0 p = 0 := cnt_none _ (fun i _ => by unfold inL; simp)
theorem dgS_add {D : Dw} {U p e : Nat} (he : e < dM D) (hU : U.testBit e = false) : (atP D e p → dgS D (U ||| 2 ^ e) p = dgS D U p + 1) ∧ (¬ atP D e p → dgS D (U ||| 2 ^ e) p = dgS D U p) := by
  refine ⟨fun h => cnt_add (a := e) _ he ?_ ?_ (fun i _ hi => ?_), fun h => cnt_congr _ (fun i _ => ?_)⟩
  · unfold inL; rw [hU]; rfl
  · rw [inL_iff, bor_bit]
    exact ⟨by simp, h⟩
  · unfold inL
    rw [bor_bit]
    simp [hi]
  · by_cases z : i = e
    · have a1 : ¬ inL D (U ||| 2 ^ e) p i = true := fun y => h (by rw [inL_iff] at y; rw [← z]; exact y.2)
      have a2 : ¬ inL D U p i = true := fun y => h (by rw [inL_iff] at y; rw [← z]; exact y.2)
      rw [Bool.eq_false_iff.mpr a1, Bool.eq_false_iff.mpr a2]
    · unfold inL
      rw [bor_bit]
      simp [z]
/-- a set closed under the lines of another; a ring; its first post; how long it is -/
def Cld (D : Dw) (S : Nat) (A : Nat → Prop) : Prop := ∀ e, e < dM D → S.testBit e = true → (A (dE D (2 * e)) ↔ A (dE D (2 * e + 1)))
def Ring (D : Dw) (S : Nat) : Prop := (∀ p, p < dN D → dgS D S p = 0 ∨ dgS D S p = 2) ∧ (∃ p, p < dN D ∧ dgS D S p = 2) ∧ ∀ A : Nat → Prop, Cld D S A → ∀ p q, p < dN D → q < dN D → dgS D S p = 2 → dgS D S q = 2 → A p → A q
def Fst (D : Dw) (S st : Nat) : Prop := dgS D S st ≠ 0 ∧ ∀ p, p < st → dgS D S p = 0
def rLen (D : Dw) (S : Nat) : Nat := cnt (fun p => decide (dgS D S p = 2)) (dN D)
/-- how far one has gone round -/
def PI (D : Dw) (st v : Nat) (last : Int) (seen U len : Nat) : Prop :=
  st < dN D ∧ v < dN D ∧ seen.testBit st = true ∧ seen.testBit v = true ∧ (∀ p, seen.testBit p = true → st ≤ p ∧ p < dN D) ∧ U < 2 ^ dM D ∧
  (∀ p, p < dN D → seen.testBit p = false → dgS D U p = 0) ∧ (∀ A : Nat → Prop, Cld D U A → A st → ∀ p, seen.testBit p = true → A p) ∧ cnt seen.testBit (dN D) = len + 1 ∧
  ((len = 0 ∧ v = st ∧ last = -1 ∧ U = 0) ∨ (0 < len ∧ v ≠ st ∧ dgS D U st = 1 ∧ dgS D U v = 1 ∧ (∃ l : Nat, last = (l : Int) ∧ l < dM D ∧ U.testBit l = true ∧ atP D l v) ∧ ∀ p, seen.testBit p = true → p ≠ st → p ≠ v → dgS D U p = 2))
theorem PI.start {D : Dw} {st : Nat} (h : st < dN D) : PI D st st (-1) (2 ^ st) 0 0 := by
  have hb : ∀ p, (2 ^ st).testBit p = true → p = st := fun p hp => by
    rw [Nat.testBit_two_pow] at hp
    exact (of_decide_eq_true hp).symm
  have h1 : (2 ^ st).testBit st = true := by rw [Nat.testBit_two_pow]; exact decide_eq_true rfl
  refine ⟨h, h, h1, h1, fun p hp => by have := hb p hp; omega, Nat.two_pow_pos _, fun p _ _ => dgS_zero, fun A _ hA p hp => by rw [hb p hp]; exact hA, ?_, Or.inl ⟨rfl, rfl, rfl, rfl⟩⟩
  rw [cnt_add (f := fun _ => false) (a := st) _ h rfl h1 (fun i _ hi => by
    cases q : (2 ^ st).testBit i
    · rfl
    · exact absurd (hb i q) hi), cnt_none _ (fun i _ => rfl)]
theorem PI.fresh {D : Dw} {st v : Nat} {last : Int} {seen U len : Nat} (h : PI D st v last seen U len) {e : Nat} (he : e < dM D) (hv : atP D e v) (hl : (e : Int) ≠ last) : U.testBit e = false := by
  obtain ⟨-, -, -, -, -, -, -, -, -, h | ⟨-, -, -, h1, ⟨l, h2, h3, h4, h5⟩, -⟩⟩ := h
  · rw [h.2.2.2]; simp
  · cases q : U.testBit e
    · rfl
    · obtain ⟨a, -, -, h6⟩ := cnt_one _ h1
      have e1 := h6 e he (inL_iff.mpr ⟨q, hv⟩)
      have e2 := h6 l h3 (inL_iff.mpr ⟨h4, h5⟩)
      exact absurd (by rw [h2, e2, e1]) hl
/-- the two ends of a line at a post -/
def Ends (D : Dw) (e v u : Nat) : Prop := (dE D (2 * e) = v ∧ dE D (2 * e + 1) = u) ∨ (dE D (2 * e) = u ∧ dE D (2 * e + 1) = v)
theorem Ends.at {D : Dw} {e v u : Nat} (h : Ends D e v u) (p : Nat) : atP D e p ↔ p = v ∨ p = u := by
  unfold atP
  rcases h with ⟨h1, h2⟩ | ⟨h1, h2⟩ <;> rw [h1, h2] <;> omega
theorem PI.step {D : Dw} {st v : Nat} {last : Int} {seen U len : Nat} (h : PI D st v last seen U len) {e u : Nat} (he : e < dM D) (hE : Ends D e v u) (hl : (e : Int) ≠ last) (hvu : v ≠ u) (hst : st < u) (hu : u < dN D) (hs : seen.testBit u = false) : PI D st u (e : Int) (seen ||| 2 ^ u) (U ||| 2 ^ e) (len + 1) := by
  have hf := h.fresh he ((hE.at v).mpr (Or.inl rfl)) hl
  have dg : ∀ p, (p = v ∨ p = u → dgS D (U ||| 2 ^ e) p = dgS D U p + 1) ∧ (¬ (p = v ∨ p = u) → dgS D (U ||| 2 ^ e) p = dgS D U p) := fun p => by
    have := dgS_add (D := D) (p := p) he hf
    rw [hE.at p] at this
    exact this
  obtain ⟨a1, a2, a3, a4, a5, a6, a7, a8, a9, a10⟩ := h
  have vne : ∀ p, seen.testBit p = false → p ≠ v := fun p hp z => by rw [z, a4] at hp; exact absurd hp (by decide)
  refine ⟨a1, hu, by rw [bor_bit, a3]; rfl, by rw [bor_bit]; simp, fun p hp => ?_, Nat.or_lt_two_pow a6 (Nat.pow_lt_pow_right (by decide) he), fun p hp hp2 => ?_, fun A hA hAs p hp => ?_, ?_, Or.inr ⟨by omega, by omega, ?_, ?_, ⟨e, rfl, he, by rw [bor_bit]; simp, (hE.at u).mpr (Or.inr rfl)⟩, fun p hp h1 h2 => ?_⟩⟩
  · rw [bor_bit, Bool.or_eq_true] at hp
    rcases hp with hp | hp
    · exact a5 p hp
    · have := of_decide_eq_true hp
      omega
  · rw [bor_bit, Bool.or_eq_false_iff] at hp2
    have z := of_decide_eq_false hp2.2
    rw [(dg p).2 (by have := vne p hp2.1; omega)]
    exact a7 p hp hp2.1
  · have hA' : Cld D U A := fun d hd hdU => hA d hd (by rw [bor_bit, hdU]; rfl)
    have all := a8 A hA' hAs
    rw [bor_bit, Bool.or_eq_true] at hp
    rcases hp with hp | hp
    · exact all p hp
    · have z := of_decide_eq_true hp
      have k := hA e he (by rw [bor_bit]; simp)
      have hv := all v a4
      rw [z]
      rcases hE with ⟨e1, e2⟩ | ⟨e1, e2⟩
      · rw [e1, e2] at k; exact k.mp hv
      · rw [e1, e2] at k; exact k.mpr hv
  · rw [cnt_add (f := seen.testBit) (a := u) _ hu hs (by rw [bor_bit]; simp) (fun i _ hi => by rw [bor_bit]; simp [hi]), a9]
  · rcases a10 with ⟨-, b2, -, b4⟩ | ⟨-, b2, b3, -, -, -⟩
    · rw [(dg st).1 (by omega), b4, dgS_zero]
    · rw [(dg st).2 (by omega), b3]
  · rw [(dg u).1 (by omega), a7 u hu hs]
  · rw [bor_bit, Bool.or_eq_true] at hp
    have hp : seen.testBit p = true := hp.resolve_right (fun z => h2 (of_decide_eq_true z))
    by_cases z : p = v
    · rcases a10 with ⟨-, b2, -, b4⟩ | ⟨-, b2, b3, b4, -, -⟩
      · exact absurd (by omega) h1
      · rw [(dg p).1 (by omega), z, b4]
    · rcases a10 with ⟨b1, b2, b3, b4⟩ | ⟨-, b2, b3, -, -, b6⟩
      · exfalso
        have h3 : cnt seen.testBit (dN D) = 1 := by rw [a9, b1]
        obtain ⟨a, -, -, h4⟩ := cnt_one _ h3
        have e1 := h4 p (a5 p hp).2 hp
        have e2 := h4 st a1 a3
        omega
      · rw [(dg p).2 (by omega)]
        exact b6 p hp h1 z
theorem PI.close {D : Dw} {st v : Nat} {last : Int} {seen U len : Nat} (h : PI D st v last seen U len) {e : Nat} (he : e < dM D) (hE : Ends D e v st) (hl : (e : Int) ≠ last) (hvu : v ≠ st) : Ring D (U ||| 2 ^ e) ∧ Fst D (U ||| 2 ^ e) st ∧ rLen D (U ||| 2 ^ e) = len + 1 ∧ (U ||| 2 ^ e) < 2 ^ dM D ∧ ∀ p, p < dN D → (dgS D (U ||| 2 ^ e) p = 2 ↔ seen.testBit p = true) := by
  have hf := h.fresh he ((hE.at v).mpr (Or.inl rfl)) hl
  have dg : ∀ p, (p = v ∨ p = st → dgS D (U ||| 2 ^ e) p = dgS D U p + 1) ∧ (¬ (p = v ∨ p = st) → dgS D (U ||| 2 ^ e) p = dgS D U p) := fun p => by
    have := dgS_add (D := D) (p := p) he hf
    rw [hE.at p] at this
    exact this
  obtain ⟨a1, a2, a3, a4, a5, a6, a7, a8, a9, a10⟩ := h
  rcases a10 with ⟨-, b2, -, -⟩ | ⟨b1, b2, b3, b4, b5, b6⟩
  · exact absurd b2 hvu
  have two : ∀ p, seen.testBit p = true → dgS D (U ||| 2 ^ e) p = 2 := fun p hp => by
    by_cases z1 : p = v
    · rw [(dg p).1 (Or.inl z1), z1, b4]
    · by_cases z2 : p = st
      · rw [(dg p).1 (Or.inr z2), z2, b3]
      · rw [(dg p).2 (by omega)]; exact b6 p hp z2 z1
  have nul : ∀ p, p < dN D → seen.testBit p = false → dgS D (U ||| 2 ^ e) p = 0 := fun p hp hs => by
    have z1 : p ≠ v := fun z => by rw [z, a4] at hs; exact absurd hs (by decide)
    have z2 : p ≠ st := fun z => by rw [z, a3] at hs; exact absurd hs (by decide)
    rw [(dg p).2 (by omega)]; exact a7 p hp hs
  have iff2 : ∀ p, p < dN D → (dgS D (U ||| 2 ^ e) p = 2 ↔ seen.testBit p = true) := fun p hp => by
    cases q : seen.testBit p
    · rw [nul p hp q]; decide
    · rw [two p q]; decide
  refine ⟨⟨fun p hp => ?_, ⟨st, a1, two st a3⟩, fun A hA p q hp hq dp dq hAp => ?_⟩, ⟨by rw [two st a3]; decide, fun p hp => ?_⟩, ?_, Nat.or_lt_two_pow a6 (Nat.pow_lt_pow_right (by decide) he), iff2⟩
  · cases q : seen.testBit p
    · exact Or.inl (nul p hp q)
    · exact Or.inr (two p q)
  · have hB : Cld D U (fun x => A x ↔ A st) := fun d hd hdU => by
      have := hA d hd (by rw [bor_bit, hdU]; rfl)
      show (_ ↔ _) ↔ (_ ↔ _)
      rw [this]
    have all := a8 _ hB Iff.rfl
    exact (all q ((iff2 q hq).mp dq)).mpr ((all p ((iff2 p hp).mp dp)).mp hAp)
  · cases q : seen.testBit p
    · exact nul p (by omega) q
    · have := a5 p q
      omega
  · rw [← a9]
    exact cnt_congr _ (fun p hp => by
      cases q : seen.testBit p
      · rw [decide_eq_false]
        rw [nul p hp q]; decide
      · rw [decide_eq_true (two p q)])
