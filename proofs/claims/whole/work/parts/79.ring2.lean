/-! RINGS: all ways round, one behind the other -/
def cat (f : Nat → List Nat) : Nat → List Nat
  | 0 => []
  | i + 1 => cat f i ++ f i
theorem cat_mem {f : Nat → List Nat} {x : Nat} : ∀ k, x ∈ cat f k → ∃ i, i < k ∧ x ∈ f i
  | 0, h => by exact absurd h List.not_mem_nil
  | k + 1, h => by
    have h : x ∈ cat f k ++ f k := h
    rw [List.mem_append] at h
    rcases h with h | h
    · obtain ⟨i, hi, hx⟩ := cat_mem k h
      exact ⟨i, by omega, hx⟩
    · exact ⟨k, by omega, h⟩
theorem cat_c0 {f : Nat → List Nat} {x : Nat} : ∀ k, (∀ i, i < k → (f i).count x = 0) → (cat f k).count x = 0
  | 0, _ => rfl
  | k + 1, h => by
    show (cat f k ++ f k).count x = 0
    rw [List.count_append, cat_c0 k (fun i hi => h i (by omega)), h k (by omega)]
theorem cat_c1 {f : Nat → List Nat} {x a c : Nat} : ∀ k, a < k → (f a).count x = c → (∀ i, i < k → i ≠ a → (f i).count x = 0) → (cat f k).count x = c
  | 0, h, _, _ => by omega
  | k + 1, h, h1, h2 => by
    show (cat f k ++ f k).count x = c
    rw [List.count_append]
    by_cases z : a = k
    · rw [cat_c0 k (fun i hi => h2 i (by omega) (by omega)), ← z, h1]; omega
    · rw [cat_c1 k (by omega) h1 (fun i hi => h2 i (by omega)), h2 k (by omega) (by omega), Nat.add_zero]
theorem cat_c2 {f : Nat → List Nat} {x a b : Nat} : ∀ k, a < k → b < k → a ≠ b → (f a).count x = 1 → (f b).count x = 1 → (∀ i, i < k → i ≠ a → i ≠ b → (f i).count x = 0) → (cat f k).count x = 2
  | 0, h, _, _, _, _, _ => by omega
  | k + 1, ha, hb, hab, h1, h2, h3 => by
    show (cat f k ++ f k).count x = 2
    rw [List.count_append]
    by_cases z : a = k
    · rw [cat_c1 (a := b) k (by omega) h2 (fun i hi hi2 => h3 i (by omega) (by omega) hi2), ← z, h1]
    · by_cases y : b = k
      · rw [cat_c1 (a := a) k (by omega) h1 (fun i hi hi2 => h3 i (by omega) hi2 (by omega)), ← y, h2]
      · rw [cat_c2 k (by omega) (by omega) hab h1 h2 (fun i hi => h3 i (by omega)), h3 k (by omega) (by omega) (by omega)]
def dfsS (D : Dw) (st v : Nat) (last : Int) (seen U : Nat) (rc : Nat → Int → Nat → Nat → List Nat) (i : Nat) : List Nat :=
  if (dR D v i : Int) = last then [] else if dE D (ox (armA D v i)) = st then [U ||| 2 ^ dR D v i] else if st < dE D (ox (armA D v i)) ∧ seen.testBit (dE D (ox (armA D v i))) = false then rc (dE D (ox (armA D v i))) (dR D v i : Int) (seen ||| 2 ^ dE D (ox (armA D v i))) (U ||| 2 ^ dR D v i) else []
def dfs (D : Dw) (st : Nat) : Nat → Nat → Int → Nat → Nat → List Nat
  | 0 => fun _ _ _ _ => []
  | d + 1 => fun v last seen U => cat (dfsS D st v last seen U (dfs D st d)) (dG D v)
theorem row_ends {D : Dw} (hW : WF D) {v i : Nat} (hv : v < dN D) (hi : i < dG D v) : dR D v i < dM D ∧ Ends D (dR D v i) v (dE D (ox (armA D v i))) ∧ v ≠ dE D (ox (armA D v i)) ∧ dE D (ox (armA D v i)) < dN D := by
  have h := armA_ok hW hv hi
  have h1 := ox_end hW h.1
  have h2 := hW.2.2.1 _ (ox_lt h.1)
  rw [h.2.1] at h1
  refine ⟨by omega, ?_, fun z => h1 z.symm, h2⟩
  have h3 := h.2.1
  have h4 := h.2.2
  rw [← h4]
  generalize armA D v i = a at *
  unfold Ends
  have : a = 2 * (a / 2) ∨ a = 2 * (a / 2) + 1 := by omega
  rcases this with y | y
  · left
    have e : ox a = 2 * (a / 2) + 1 := by unfold ox; rw [if_pos (by omega)]; omega
    rw [e, ← y]
    exact ⟨h3, rfl⟩
  · right
    have e : ox a = 2 * (a / 2) := by unfold ox; rw [if_neg (by omega)]; omega
    rw [e, ← y]
    exact ⟨rfl, h3⟩
/-- what is found is a ring -/
theorem dfs_ring {D : Dw} (hW : WF D) {st : Nat} : ∀ (d v : Nat) (last : Int) (seen U len : Nat), PI D st v last seen U len → ∀ R, R ∈ dfs D st d v last seen U → Ring D R ∧ Fst D R st ∧ R < 2 ^ dM D ∧ Sub U R ∧ (∃ i, i < dG D v ∧ (dR D v i : Int) ≠ last ∧ R ∈ dfsS D st v last seen U (dfs D st (d - 1)) i ∧ R.testBit (dR D v i) = true)
  | 0, _, _, _, _, _, _, R, hR => by exact absurd hR List.not_mem_nil
  | d + 1, v, last, seen, U, len, h, R, hR => by
    obtain ⟨i, hi, hx⟩ := cat_mem _ hR
    have hx' := hx
    have hv := h.2.1
    have hr := row_ends hW hv hi
    have hsub : Sub U (U ||| 2 ^ dR D v i) := fun e he => by rw [bor_bit, he]; rfl
    unfold dfsS at hx
    by_cases z1 : (dR D v i : Int) = last
    · rw [if_pos z1] at hx; exact absurd hx List.not_mem_nil
    · rw [if_neg z1] at hx
      by_cases z2 : dE D (ox (armA D v i)) = st
      · rw [if_pos z2] at hx
        have e := List.mem_singleton.mp hx
        have hE := hr.2.1
        rw [z2] at hE
        have hc := h.close hr.1 hE z1 (by rw [← z2]; exact hr.2.2.1)
        rw [← e] at hc hsub
        exact ⟨hc.1, hc.2.1, hc.2.2.2.1, hsub, i, hi, z1, hx', by rw [e, bor_bit]; simp⟩
      · rw [if_neg z2] at hx
        by_cases z3 : st < dE D (ox (armA D v i)) ∧ seen.testBit (dE D (ox (armA D v i))) = false
        · rw [if_pos z3] at hx
          have hs := h.step hr.1 hr.2.1 z1 hr.2.2.1 z3.1 hr.2.2.2 z3.2
          obtain ⟨b1, b2, b3, b4, -⟩ := dfs_ring hW d _ _ _ _ _ hs R hx
          exact ⟨b1, b2, b3, fun e he => b4 e (hsub e he), i, hi, z1, hx', b4 _ (by rw [bor_bit]; simp)⟩
        · rw [if_neg z3] at hx; exact absurd hx List.not_mem_nil
theorem dfsS_bit {D : Dw} (hW : WF D) {st d v : Nat} {last : Int} {seen U len : Nat} (h : PI D st v last seen U len) {i R : Nat} (hi : i < dG D v) (hR : R ∈ dfsS D st v last seen U (dfs D st d) i) : R.testBit (dR D v i) = true := by
  have hr := row_ends hW h.2.1 hi
  unfold dfsS at hR
  by_cases z1 : (dR D v i : Int) = last
  · rw [if_pos z1] at hR; exact absurd hR List.not_mem_nil
  · rw [if_neg z1] at hR
    by_cases z2 : dE D (ox (armA D v i)) = st
    · rw [if_pos z2] at hR
      rw [List.mem_singleton.mp hR, bor_bit]; simp
    · rw [if_neg z2] at hR
      by_cases z3 : st < dE D (ox (armA D v i)) ∧ seen.testBit (dE D (ox (armA D v i))) = false
      · rw [if_pos z3] at hR
        have hs := h.step hr.1 hr.2.1 z1 hr.2.2.1 z3.1 hr.2.2.2 z3.2
        exact (dfs_ring hW d _ _ _ _ _ hs R hR).2.2.2.1 _ (by rw [bor_bit]; simp)
      · rw [if_neg z3] at hR; exact absurd hR List.not_mem_nil
/-- a set of lines within another that closes a ring of it is all of it -/
theorem ring_all {D : Dw} (hW : WF D) {S R : Nat} (hS : Ring D S) (hR : Ring D R) (hS2 : S < 2 ^ dM D) (hR2 : R < 2 ^ dM D) (h : Sub R S) : R = S := by
  have eqd : ∀ p, p < dN D → dgS D R p = 2 → ∀ e, e < dM D → S.testBit e = true → atP D e p → R.testBit e = true := fun p hp h2 e he hes hat => by
    cases q : R.testBit e
    · have h3 := (dgS_add (D := D) (p := p) he q).1 hat
      have h4 : Sub (R ||| 2 ^ e) S := fun d hd => by
        rw [bor_bit, Bool.or_eq_true] at hd
        rcases hd with hd | hd
        · exact h d hd
        · rw [of_decide_eq_true hd]; exact hes
      have h5 := dgS_mono (D := D) (p := p) h4
      have h6 := hS.1 p hp
      omega
    · rfl
  have cl : Cld D S (fun p => dgS D R p = 2) := fun e he hes => by
    have b1 := hW.2.2.1 (2 * e) (by omega)
    have b2 := hW.2.2.1 (2 * e + 1) (by omega)
    have t1 : R.testBit e = true → dgS D R (dE D (2 * e)) = 2 := fun hr => (hR.1 _ b1).resolve_left (cnt_pos he (inL_iff.mpr ⟨hr, Or.inl rfl⟩))
    have t2 : R.testBit e = true → dgS D R (dE D (2 * e + 1)) = 2 := fun hr => (hR.1 _ b2).resolve_left (cnt_pos he (inL_iff.mpr ⟨hr, Or.inr rfl⟩))
    exact ⟨fun k => t2 (eqd _ b1 k e he hes (Or.inl rfl)), fun k => t1 (eqd _ b2 k e he hes (Or.inr rfl))⟩
  obtain ⟨p, hp, dp⟩ := hR.2.1
  have sp : dgS D S p = 2 := by
    have := dgS_mono (D := D) (p := p) h
    have := hS.1 p hp
    omega
  apply Nat.eq_of_testBit_eq
  intro e
  cases q : S.testBit e
  · cases q2 : R.testBit e
    · rfl
    · rw [h e q2] at q; exact absurd q (by decide)
  · have he : e < dM D := by
      rcases Nat.lt_or_ge e (dM D) with z | z
      · exact z
      · rw [Nat.testBit_lt_two_pow (Nat.lt_of_lt_of_le hS2 (Nat.pow_le_pow_right (by decide) z))] at q
        exact absurd q (by decide)
    have b1 := hW.2.2.1 (2 * e) (by omega)
    have s1 : dgS D S (dE D (2 * e)) = 2 := (hS.1 _ b1).resolve_left (cnt_pos he (inL_iff.mpr ⟨q, Or.inl rfl⟩))
    exact eqd _ b1 (hS.2.2 _ cl p _ hp b1 sp s1 dp) e he q (Or.inl rfl)
theorem cnt0 {l : List Nat} {x : Nat} (h : x ∉ l) : l.count x = 0 := List.count_eq_zero.mpr h
/-- a ring is found once, if one has begun it -/
theorem dfs_once {D : Dw} (hW : WF D) {st S : Nat} (hS : Ring D S) (hF : Fst D S st) (hS2 : S < 2 ^ dM D) : ∀ (d v : Nat) (last : Int) (seen U len : Nat), PI D st v last seen U len → len + d = 7 → Sub U S → 0 < len → (dfs D st d v last seen U).count S = 1
  | 0, v, last, seen, U, len, h, hd, _, _ => by
    have h9 := h.2.2.2.2.2.2.2.2.1
    have := cnt_le (f := seen.testBit) (dN D)
    have := hW.1
    omega
  | d + 1, v, last, seen, U, len, h, hd, hU, hl => by
    obtain ⟨a1, a2, a3, a4, a5, a6, a7, a8, a9, a10⟩ := id h
    rcases a10 with ⟨b0, -⟩ | ⟨-, b2, b3, b4, ⟨l, b5, b6, b7, b8⟩, b9⟩
    · omega
    have lS := hU l b7
    have dv : dgS D S v = 2 := (hS.1 v a2).resolve_left (cnt_pos b6 (inL_iff.mpr ⟨lS, b8⟩))
    obtain ⟨x1, x2, hx, hx2, fx1, fx2, fall⟩ := cnt_two _ dv
    have uq : ∀ e, e < dM D → U.testBit e = true → atP D e v → e = l := fun e he heU hat => by
      obtain ⟨a, -, -, h6⟩ := cnt_one _ b4
      rw [h6 e he (inL_iff.mpr ⟨heU, hat⟩), h6 l b6 (inL_iff.mpr ⟨b7, b8⟩)]
    -- the line on which one goes on
    obtain ⟨e', he', heS, hat, hne, hall⟩ : ∃ e', e' < dM D ∧ S.testBit e' = true ∧ atP D e' v ∧ e' ≠ l ∧ ∀ e, e < dM D → S.testBit e = true → atP D e v → e = l ∨ e = e' := by
      rcases fall l b6 (inL_iff.mpr ⟨lS, b8⟩) with z | z
      · have k := inL_iff.mp fx2
        exact ⟨x2, hx2, k.1, k.2, by omega, fun e he h1 h2 => by have := fall e he (inL_iff.mpr ⟨h1, h2⟩); omega⟩
      · have k := inL_iff.mp fx1
        exact ⟨x1, by omega, k.1, k.2, by omega, fun e he h1 h2 => by have := fall e he (inL_iff.mpr ⟨h1, h2⟩); omega⟩
    obtain ⟨i0, hi0, ei0⟩ := hW.2.2.2.2.2.2 v e' a2 he' hat
    have hr := row_ends hW a2 hi0
    have hel : (dR D v i0 : Int) ≠ last := by rw [b5]; omega
    refine cat_c1 (a := i0) (dG D v) hi0 ?_ (fun i hi hii => ?_)
    · unfold dfsS
      rw [if_neg hel]
      have hUe : U.testBit (dR D v i0) = false := h.fresh hr.1 ((hr.2.1.at v).mpr (Or.inl rfl)) hel
      have hsub : Sub (U ||| 2 ^ dR D v i0) S := fun d hd => by
        rw [bor_bit, Bool.or_eq_true] at hd
        rcases hd with hd | hd
        · exact hU d hd
        · rw [of_decide_eq_true hd, ei0]; exact heS
      by_cases z2 : dE D (ox (armA D v i0)) = st
      · rw [if_pos z2]
        have hE := hr.2.1
        rw [z2] at hE
        have hc := h.close hr.1 hE hel b2
        rw [ring_all hW hS hc.1 hS2 hc.2.2.2.1 hsub]
        simp
      · rw [if_neg z2]
        have du : dgS D S (dE D (ox (armA D v i0))) = 2 := (hS.1 _ hr.2.2.2).resolve_left (cnt_pos he' (inL_iff.mpr ⟨heS, by rw [← ei0]; exact (hr.2.1.at _).mpr (Or.inr rfl)⟩))
        have hst : st < dE D (ox (armA D v i0)) := by
          rcases Nat.lt_or_ge st (dE D (ox (armA D v i0))) with y | y
          · exact y
          · have := hF.2 (dE D (ox (armA D v i0))) (by omega)
            omega
        have hse : seen.testBit (dE D (ox (armA D v i0))) = false := by
          cases q : seen.testBit (dE D (ox (armA D v i0)))
          · rfl
          · have k1 := b9 _ q z2 (fun y => hr.2.2.1 y.symm)
            have k2 := (dgS_add (D := D) (p := dE D (ox (armA D v i0))) hr.1 hUe).1 ((hr.2.1.at _).mpr (Or.inr rfl))
            have k3 := dgS_mono (D := D) (p := dE D (ox (armA D v i0))) hsub
            omega
        rw [if_pos ⟨hst, hse⟩]
        exact dfs_once hW hS hF hS2 d _ _ _ _ (len + 1) (h.step hr.1 hr.2.1 hel hr.2.2.1 hst hr.2.2.2 hse) (by omega) hsub (by omega)
    · refine cnt0 (fun hR => ?_)
      have hb := dfsS_bit hW h hi hR
      have hri := row_ends hW a2 hi
      rcases hall _ hri.1 hb ((hri.2.1.at v).mpr (Or.inl rfl)) with y | y
      · unfold dfsS at hR
        rw [if_pos (by rw [y, b5])] at hR
        exact absurd hR List.not_mem_nil
      · exact hii (hW.2.2.2.2.2.1 v i i0 a2 hi hi0 (by rw [y, ei0]))
/-- and twice in all -/
theorem dfs_twice {D : Dw} (hW : WF D) {st S : Nat} (hst : st < dN D) (hS : Ring D S) (hF : Fst D S st) (hS2 : S < 2 ^ dM D) : (dfs D st 7 st (-1) (2 ^ st) 0).count S = 2 := by
  have h := PI.start hst
  have dv : dgS D S st = 2 := (hS.1 st hst).resolve_left hF.1
  obtain ⟨x1, x2, hx, hx2, fx1, fx2, fall⟩ := cnt_two _ dv
  have k1 := inL_iff.mp fx1
  have k2 := inL_iff.mp fx2
  obtain ⟨i1, hi1, ei1⟩ := hW.2.2.2.2.2.2 st x1 hst (by omega) k1.2
  obtain ⟨i2, hi2, ei2⟩ := hW.2.2.2.2.2.2 st x2 hst hx2 k2.2
  have one : ∀ i e, i < dG D st → dR D st i = e → S.testBit e = true → (dfsS D st st (-1) (2 ^ st) 0 (dfs D st 6) i).count S = 1 := fun i e hi ei heS => by
    have hr := row_ends hW hst hi
    have z1 : (dR D st i : Int) ≠ -1 := by omega
    unfold dfsS
    rw [if_neg z1, if_neg (fun y => hr.2.2.1 y.symm)]
    have du : dgS D S (dE D (ox (armA D st i))) = 2 := (hS.1 _ hr.2.2.2).resolve_left (cnt_pos hr.1 (inL_iff.mpr ⟨by rw [ei]; exact heS, (hr.2.1.at _).mpr (Or.inr rfl)⟩))
    have hlt : st < dE D (ox (armA D st i)) := by
      rcases Nat.lt_or_ge st (dE D (ox (armA D st i))) with y | y
      · exact y
      · have := hF.2 (dE D (ox (armA D st i))) (by have := hr.2.2.1; omega)
        omega
    have hse : (2 ^ st).testBit (dE D (ox (armA D st i))) = false := by rw [Nat.testBit_two_pow]; exact decide_eq_false hr.2.2.1
    rw [if_pos ⟨hlt, hse⟩]
    refine dfs_once hW hS hF hS2 6 _ _ _ _ 1 (h.step hr.1 hr.2.1 z1 hr.2.2.1 hlt hr.2.2.2 hse) (by omega) (fun d hd => ?_) (by omega)
    rw [bor_bit, Bool.or_eq_true] at hd
    rcases hd with hd | hd
    · simp at hd
    · rw [of_decide_eq_true hd, ei]; exact heS
  refine cat_c2 (a := i1) (b := i2) (dG D st) hi1 hi2 (fun y => by rw [y, ei2] at ei1; omega) (one i1 x1 hi1 ei1 k1.1) (one i2 x2 hi2 ei2 k2.1) (fun i hi n1 n2 => cnt0 (fun hR => ?_))
  have hb := dfsS_bit hW h hi hR
  have hri := row_ends hW hst hi
  rcases fall _ hri.1 (inL_iff.mpr ⟨hb, (hri.2.1.at st).mpr (Or.inl rfl)⟩) with y | y
  · exact n1 (hW.2.2.2.2.2.1 st i i1 hst hi hi1 (by rw [y, ei1]))
  · exact n2 (hW.2.2.2.2.2.1 st i i2 hst hi hi2 (by rw [y, ei2]))
/-- all rings, from all posts -/
def allR (D : Dw) (k : Nat) : List Nat := cat (fun st => dfs D st 7 st (-1) (2 ^ st) 0) k
theorem fst_ex {D : Dw} {S : Nat} : ∀ k, (∃ p, p < k ∧ dgS D S p ≠ 0) → ∃ st, st < k ∧ Fst D S st
  | 0, ⟨p, hp, _⟩ => by omega
  | k + 1, ⟨p, hp, h⟩ => by
    by_cases z : ∃ p, p < k ∧ dgS D S p ≠ 0
    · obtain ⟨st, h1, h2⟩ := fst_ex k z
      exact ⟨st, by omega, h2⟩
    · have hz : ∀ q, q < k → dgS D S q = 0 := fun q hq => Classical.byContradiction (fun y => z ⟨q, hq, y⟩)
      have : p = k := by
        rcases Nat.lt_or_ge p k with y | y
        · exact absurd (hz p y) h
        · omega
      exact ⟨k, by omega, by rw [← this]; exact h, hz⟩
theorem fst_uq {D : Dw} {S a b : Nat} (h : Fst D S a) (g : Fst D S b) : a = b := by
  rcases Nat.lt_trichotomy a b with z | z | z
  · exact absurd (g.2 a z) h.1
  · exact z
  · exact absurd (h.2 b z) g.1
theorem allR_mem {D : Dw} (hW : WF D) {k S : Nat} (hk : k ≤ dN D) (h : S ∈ allR D k) : Ring D S ∧ S < 2 ^ dM D := by
  obtain ⟨st, h1, h2⟩ := cat_mem k h
  have := dfs_ring hW _ _ _ _ _ _ (PI.start (D := D) (show st < dN D by omega)) S h2
  exact ⟨this.1, this.2.2.1⟩
theorem allR_two {D : Dw} (hW : WF D) {S : Nat} (hS : Ring D S) (hS2 : S < 2 ^ dM D) : (allR D (dN D)).count S = 2 := by
  obtain ⟨p, hp, dp⟩ := hS.2.1
  obtain ⟨st, h1, h2⟩ := fst_ex (D := D) (S := S) (dN D) ⟨p, hp, by omega⟩
  refine cat_c1 (a := st) (dN D) h1 (dfs_twice hW h1 hS h2 hS2) (fun i hi hii => cnt0 (fun hR => ?_))
  have := dfs_ring hW _ _ _ _ _ _ (PI.start (D := D) hi) S hR
  exact hii (fst_uq this.2.1 h2)
/-- how many rings -/
noncomputable def nRg (D : Dw) : Nat → Nat
  | 0 => 0
  | k + 1 => nRg D k + @ite Nat (Ring D k) (Classical.propDecidable _) 1 0
theorem nRg_y {D : Dw} {k : Nat} (h : Ring D k) : nRg D (k + 1) = nRg D k + 1 := by
  show nRg D k + @ite Nat (Ring D k) (Classical.propDecidable _) 1 0 = _
  rw [if_pos h]
theorem nRg_n {D : Dw} {k : Nat} (h : ¬ Ring D k) : nRg D (k + 1) = nRg D k := by
  show nRg D k + @ite Nat (Ring D k) (Classical.propDecidable _) 1 0 = _
  rw [if_neg h]
  rfl
theorem nRg_le {D : Dw} : ∀ k, nRg D k ≤ k
  | 0 => Nat.le_refl _
  | k + 1 => by
    have := nRg_le (D := D) k
    by_cases z : Ring D k
    · rw [nRg_y z]; omega
    · rw [nRg_n z]; omega
def sumC (l : List Nat) : Nat → Nat
  | 0 => 0
  | k + 1 => sumC l k + l.count k
theorem sumC_nil : ∀ k, sumC [] k = 0
  | 0 => rfl
  | k + 1 => by
    show sumC [] k + ([] : List Nat).count k = 0
    rw [sumC_nil k]; rfl
theorem sumC_cons (a : Nat) (l : List Nat) : ∀ k, sumC (a :: l) k = sumC l k + (if a < k then 1 else 0)
  | 0 => by simp [sumC]
  | k + 1 => by
    show sumC (a :: l) k + (a :: l).count k = sumC l k + l.count k + _
    rw [sumC_cons a l k, List.count_cons]
    by_cases z : a = k
    · subst z
      simp
      omega
    · have h1 : (a == k) = false := by simpa using z
      rw [h1]
      simp only [Bool.false_eq_true, if_false]
      split <;> split <;> omega
theorem sumC_len : ∀ (l : List Nat) (k : Nat), (∀ x, x ∈ l → x < k) → sumC l k = l.length
  | [], k, _ => sumC_nil k
  | a :: l, k, h => by
    rw [sumC_cons, sumC_len l k (fun x hx => h x (List.mem_cons_of_mem _ hx)), if_pos (h a List.mem_cons_self)]
    rfl
theorem allR_len {D : Dw} (hW : WF D) : (allR D (dN D)).length = 2 * nRg D (2 ^ dM D) := by
  rw [← sumC_len _ (2 ^ dM D) (fun x hx => (allR_mem hW (Nat.le_refl _) hx).2)]
  have key : ∀ k, k ≤ 2 ^ dM D → sumC (allR D (dN D)) k = 2 * nRg D k := by
    intro k
    induction k with
    | zero => intro _; rfl
    | succ k ih =>
      intro hk
      show sumC _ k + (allR D (dN D)).count k = _
      rw [ih (by omega)]
      by_cases z : Ring D k
      · rw [allR_two hW z (by omega), nRg_y z]; omega
      · rw [nRg_n z, cnt0 (fun y => z (allR_mem hW (Nat.le_refl _) y).1)]; omega
  exact key _ (Nat.le_refl _)
