/-! TEXTS: what they mean; a text = how many tokens, kinds, names, numbers -/
abbrev Tx : Type := Nat × (Nat → Nat) × (Nat → Nat) × (Nat → Nat)
abbrev xN (T : Tx) : Nat := T.1
abbrev xK (T : Tx) : Nat → Nat := T.2.1
abbrev xA (T : Tx) : Nat → Nat := T.2.2.1
abbrev xI (T : Tx) : Nat → Nat := T.2.2.2
def TOK (T : Tx) : Prop := (∀ j, j < xN T → Okt (xK T) j) ∧ stg (xK T) (xN T) = 0
theorem dl_hd : ∀ s : Fin 9, ∀ k : Fin 4, k.val = 0 ∨ s.val = 0 ∨ dlt s.val k.val = 9 := by decide
theorem dl_1 : ∀ k : Nat, dlt 1 k ≠ 9 → k = 5 := fun k h => by
  by_cases z : k = 5
  · exact z
  · exact absurd (by unfold dlt; simp [z]) h
theorem dl_2 : ∀ k : Nat, dlt 2 k ≠ 9 → k = 5 := fun k h => by
  by_cases z : k = 5
  · exact z
  · exact absurd (by unfold dlt; simp [z]) h
theorem dl_3 : ∀ k : Nat, dlt 3 k ≠ 9 → k = 5 := fun k h => by
  by_cases z : k = 5
  · exact z
  · exact absurd (by unfold dlt; simp [z]) h
theorem dl_4 : ∀ k : Nat, dlt 4 k ≠ 9 → k = 4 ∨ k = 7 := fun k h => by
  by_cases z : k = 4 ∨ k = 7
  · exact z
  · exact absurd (by unfold dlt; rw [if_neg (by decide), if_neg (by decide), if_neg (by decide), if_neg (by decide), if_pos rfl, if_neg (by omega), if_neg (by omega)]) h
theorem dl_5 : ∀ k : Nat, dlt 5 k ≠ 9 → k = 5 := fun k h => by
  by_cases z : k = 5
  · exact z
  · exact absurd (by unfold dlt; simp [z]) h
theorem dl_6 : ∀ k : Nat, dlt 6 k ≠ 9 → k = 6 := fun k h => by
  by_cases z : k = 6
  · exact z
  · exact absurd (by unfold dlt; simp [z]) h
theorem dl_7 : ∀ k : Nat, dlt 7 k ≠ 9 → k = 6 ∨ k = 7 := fun k h => by
  by_cases z : k = 6 ∨ k = 7
  · exact z
  · have z1 : ¬ k = 6 := fun e => z (Or.inl e)
    have z2 : ¬ k = 7 := fun e => z (Or.inr e)
    exact absurd (by unfold dlt; simp [z1, z2]) h
theorem dl_8 : ∀ k : Nat, dlt 8 k ≠ 9 → k = 7 := fun k h => by
  by_cases z : k = 7
  · exact z
  · exact absurd (by unfold dlt; simp [z]) h
section SEM
variable {T : Tx}
theorem TOK.hd (h : TOK T) {t : Nat} (ht : t < xN T) (hk : xK T t = 1 ∨ xK T t = 2 ∨ xK T t = 3) : stg (xK T) t = 0 := by
  have h8 := (ok_bd (t := t) (fun j hj => h.1 j (by omega))).2.1
  have h9 := (h.1 t ht).1
  rcases dl_hd ⟨stg (xK T) t, by omega⟩ ⟨xK T t, by omega⟩ with e | e | e
  · have e : xK T t = 0 := e
    omega
  · exact e
  · exact absurd e h9
theorem TOK.nx (h : TOK T) {t : Nat} (ht : t ≤ xN T) (hs : stg (xK T) t ≠ 0) : t < xN T ∧ dlt (stg (xK T) t) (xK T t) ≠ 9 ∧ stg (xK T) (t + 1) = dlt (stg (xK T) t) (xK T t) := by
  have h1 : t ≠ xN T := fun e => hs (by rw [e]; exact h.2)
  have h2 : t < xN T := by omega
  exact ⟨h2, (h.1 t h2).1, rfl⟩
theorem TOK.le (h : TOK T) : xN T ≤ 400 ∧ npc (xK T) (xN T) ≤ 6 ∧ nlc (xK T) (xN T) ≤ 10 := by
  have := ok_bd (t := xN T) h.1
  exact ⟨this.1, this.2.2.1, this.2.2.2⟩
theorem TOK.post (h : TOK T) {t : Nat} (ht : t < xN T) (hk : xK T t = 1) : t + 2 < xN T ∧ xK T (t + 1) = 5 ∧ xK T (t + 2) = 7 := by
  have h0 := h.hd ht (Or.inl hk)
  have h1 : stg (xK T) (t + 1) = 1 := by show dlt (stg (xK T) t) (xK T t) = 1; rw [h0, hk]; rfl
  obtain ⟨a1, a2, a3⟩ := h.nx (t := t + 1) (by omega) (by omega)
  rw [h1] at a2 a3
  have k1 := dl_1 _ a2
  rw [k1] at a3
  have h2 : stg (xK T) (t + 1 + 1) = 8 := a3
  obtain ⟨b1, b2, b3⟩ := h.nx (t := t + 1 + 1) (by omega) (by omega)
  rw [h2] at b2
  exact ⟨b1, k1, dl_8 _ b2⟩
theorem TOK.line (h : TOK T) {t : Nat} (ht : t < xN T) (hk : xK T t = 2) : t + 3 < xN T ∧ xK T (t + 1) = 5 ∧ xK T (t + 2) = 5 ∧ (xK T (t + 3) = 4 ∨ xK T (t + 3) = 7) := by
  have h0 := h.hd ht (Or.inr (Or.inl hk))
  have h1 : stg (xK T) (t + 1) = 2 := by show dlt (stg (xK T) t) (xK T t) = 2; rw [h0, hk]; rfl
  obtain ⟨a1, a2, a3⟩ := h.nx (t := t + 1) (by omega) (by omega)
  rw [h1] at a2 a3
  have k1 := dl_2 _ a2
  rw [k1] at a3
  have h2 : stg (xK T) (t + 1 + 1) = 3 := a3
  obtain ⟨b1, b2, b3⟩ := h.nx (t := t + 1 + 1) (by omega) (by omega)
  rw [h2] at b2 b3
  have k2 := dl_3 _ b2
  rw [k2] at b3
  have h3 : stg (xK T) (t + 1 + 1 + 1) = 4 := b3
  obtain ⟨c1, c2, c3⟩ := h.nx (t := t + 1 + 1 + 1) (by omega) (by omega)
  rw [h3] at c2
  exact ⟨c1, k1, k2, dl_4 _ c2⟩
/-- how many numbers follow -/
def rln (T : Tx) (t : Nat) : Nat := rl (fun j => decide (xK T j = 6)) (xN T) (t + 2)
theorem TOK.round (h : TOK T) {t : Nat} (ht : t < xN T) (hk : xK T t = 3) : t + 2 + rln T t < xN T ∧ xK T (t + 1) = 5 ∧ (∀ i, i < rln T t → xK T (t + 2 + i) = 6) ∧ xK T (t + 2 + rln T t) = 7 ∧ 1 ≤ rln T t := by
  have h0 := h.hd ht (Or.inr (Or.inr hk))
  have h1 : stg (xK T) (t + 1) = 5 := by show dlt (stg (xK T) t) (xK T t) = 5; rw [h0, hk]; rfl
  obtain ⟨a1, a2, a3⟩ := h.nx (t := t + 1) (by omega) (by omega)
  rw [h1] at a2 a3
  have k1 := dl_5 _ a2
  rw [k1] at a3
  have h2 : stg (xK T) (t + 2) = 6 := a3
  obtain ⟨b1, b2, b3⟩ := h.nx (t := t + 2) (by omega) (by omega)
  rw [h2] at b2 b3
  have k2 := dl_6 _ b2
  rw [k2] at b3
  have h3 : stg (xK T) (t + 2 + 1) = 7 := b3
  obtain ⟨r1, r2, r3⟩ := rl_ok (fun j => decide (xK T j = 6)) (L := xN T) (i := t + 2) (by omega)
  have r2 : ∀ i, i < rln T t → xK T (t + 2 + i) = 6 := fun i hi => of_decide_eq_true (r2 i hi)
  have rp : 1 ≤ rln T t := by
    unfold rln
    rw [rl_pos (P := fun j => decide (xK T j = 6)) b1 (decide_eq_true k2)]
    omega
  have st : ∀ i, 1 ≤ i → i ≤ rln T t → stg (xK T) (t + 2 + i) = 7 := by
    intro i
    induction i with
    | zero => intro q; omega
    | succ i ih =>
      intro _ hi
      by_cases z : i = 0
      · rw [z]; exact h3
      · show dlt (stg (xK T) (t + 2 + i)) (xK T (t + 2 + i)) = 7
        rw [ih (by omega) (by omega), r2 i (by omega)]
        rfl
  have se := st (rln T t) rp (Nat.le_refl _)
  have r1 : t + 2 + rln T t ≤ xN T := r1
  obtain ⟨c1, c2, c3⟩ := h.nx (t := t + 2 + rln T t) r1 (by omega)
  rw [se] at c2
  have r3 := of_decide_eq_false (r3 c1)
  exact ⟨c1, k1, r2, (dl_7 _ c2).resolve_left r3, rp⟩
/-- the first place of a name -/
def fst (f : Nat → Nat) (x : Nat) : Nat → Int
  | 0 => -1
  | c + 1 => if 0 ≤ fst f x c then fst f x c else if f c = x then (c : Int) else -1
theorem fst_ok (f : Nat → Nat) (x : Nat) : ∀ c, (fst f x c = -1 ∧ ∀ i, i < c → f i ≠ x) ∨ ∃ i, i < c ∧ fst f x c = (i : Int) ∧ f i = x ∧ ∀ j, j < i → f j ≠ x
  | 0 => Or.inl ⟨rfl, fun i hi => by omega⟩
  | c + 1 => by
    have e : fst f x (c + 1) = if 0 ≤ fst f x c then fst f x c else if f c = x then (c : Int) else -1 := rfl
    rcases fst_ok f x c with ⟨h1, h2⟩ | ⟨i, h1, h2, h3, h4⟩
    · rw [e, h1, if_neg (by decide)]
      by_cases z : f c = x
      · rw [if_pos z]; exact Or.inr ⟨c, by omega, rfl, z, h2⟩
      · rw [if_neg z]
        refine Or.inl ⟨rfl, fun i hi => ?_⟩
        by_cases y : i = c
        · rw [y]; exact z
        · exact h2 i (by omega)
    · rw [e, h2, if_pos (by omega)]
      exact Or.inr ⟨i, by omega, rfl, h3, h4⟩
theorem fst_at {f : Nat → Nat} {x c i : Nat} (hi : i < c) (h : f i = x) (hj : ∀ j, j < i → f j ≠ x) : fst f x c = (i : Int) := by
  rcases fst_ok f x c with ⟨h1, h2⟩ | ⟨k, h1, h2, h3, h4⟩
  · exact absurd h (h2 i hi)
  · have : ¬ k < i := fun y => hj k y h3
    have : ¬ i < k := fun y => h4 i y h
    rw [h2]; omega
theorem fst_no {f : Nat → Nat} {x c : Nat} (h : ∀ i, i < c → f i ≠ x) : fst f x c = -1 := by
  rcases fst_ok f x c with ⟨h1, h2⟩ | ⟨k, h1, h2, h3, h4⟩
  · exact h1
  · exact absurd h3 (h k h1)
/-- equality is all that counts -/
theorem fst_eq {f g : Nat → Nat} {x y c : Nat} (h : ∀ i, i < c → (f i = x ↔ g i = y)) : fst f x c = fst g y c := by
  rcases fst_ok g y c with ⟨h1, h2⟩ | ⟨k, h1, h2, h3, h4⟩
  · rw [h1]; exact fst_no (fun i hi e => h2 i hi ((h i hi).mp e))
  · rw [h2]; exact fst_at h1 ((h k h1).mpr h3) (fun j hj e => h4 j hj ((h j (by omega)).mp e))
def pT (T : Tx) : Nat → Nat := nth (fun j => decide (xK T j = 1)) (xN T)
def lT (T : Tx) : Nat → Nat := nth (fun j => decide (xK T j = 2)) (xN T)
def nP (T : Tx) : Nat := npc (xK T) (xN T)
def nL (T : Tx) : Nat := nlc (xK T) (xN T)
def pA (T : Tx) (i : Nat) : Nat := xA T (pT T i + 1)
def nam (T : Tx) (x : Nat) : Int := fst (pA T) x (nP T)
def enA (T : Tx) (i : Nat) : Int := nam T (xA T (lT T (i / 2) + 1 + i % 2))
def onL (T : Tx) (v e : Nat) : Prop := e < nL T ∧ (enA T (2 * e) = (v : Int) ∨ enA T (2 * e + 1) = (v : Int))
theorem pT_ok {i : Nat} (h : i < nP T) : pT T i < xN T ∧ xK T (pT T i) = 1 ∧ npc (xK T) (pT T i) = i := by
  have := nth_ok (f := fun j => decide (xK T j = 1)) (xN T) i h
  exact ⟨this.1, of_decide_eq_true this.2.1, this.2.2⟩
theorem lT_ok {i : Nat} (h : i < nL T) : lT T i < xN T ∧ xK T (lT T i) = 2 ∧ nlc (xK T) (lT T i) = i := by
  have := nth_ok (f := fun j => decide (xK T j = 2)) (xN T) i h
  exact ⟨this.1, of_decide_eq_true this.2.1, this.2.2⟩
theorem pT_at {t : Nat} (ht : t < xN T) (h : xK T t = 1) : pT T (npc (xK T) t) = t ∧ npc (xK T) t < nP T := ⟨nth_uq ht (decide_eq_true h) rfl, cnt_lt_of ht (decide_eq_true h)⟩
theorem lT_at {t : Nat} (ht : t < xN T) (h : xK T t = 2) : lT T (nlc (xK T) t) = t ∧ nlc (xK T) t < nL T := ⟨nth_uq ht (decide_eq_true h) rfl, cnt_lt_of ht (decide_eq_true h)⟩
theorem nam_ok (x : Nat) : nam T x = -1 ∨ ∃ v : Nat, v < nP T ∧ nam T x = (v : Int) ∧ pA T v = x := by
  rcases fst_ok (pA T) x (nP T) with h | ⟨i, h1, h2, h3, h4⟩
  · exact Or.inl h.1
  · exact Or.inr ⟨i, h1, h2, h3⟩
/-- a number in a round that may not stand there -/
def Bad (T : Tx) (t v i : Nat) : Prop := ¬ (onL T v (xI T (t + 2 + i)) ∧ ∀ i', i' < i → xI T (t + 2 + i') ≠ xI T (t + 2 + i))
/-- the faults of the telling that begins at t: token, number -/
def Flt (T : Tx) (t j k : Nat) : Prop :=
  (xK T t = 1 ∧ j = t + 1 ∧ k = 3 ∧ ∃ i, i < npc (xK T) t ∧ pA T i = xA T (t + 1)) ∨
  (xK T t = 2 ∧ ((j = t + 1 ∧ k = 4 ∧ nam T (xA T (t + 1)) = -1) ∨ (j = t + 2 ∧ k = 4 ∧ nam T (xA T (t + 2)) = -1) ∨ (j = t + 2 ∧ k = 3 ∧ xA T (t + 1) = xA T (t + 2)))) ∨
  (xK T t = 3 ∧ ((j = t + 1 ∧ k = 4 ∧ nam T (xA T (t + 1)) = -1) ∨ ∃ v : Nat, nam T (xA T (t + 1)) = (v : Int) ∧ ((∃ i, i < rln T t ∧ j = t + 2 + i ∧ k = 5 ∧ Bad T t v i) ∨ (j = t + 2 + rln T t ∧ k = 6 ∧ (∀ i, i < rln T t → ¬ Bad T t v i) ∧ ∃ e, onL T v e ∧ ∀ i, i < rln T t → xI T (t + 2 + i) ≠ e))))
def AnyF (T : Tx) (j k : Nat) : Prop := ∃ t, t < xN T ∧ Flt T t j k
def MinF (T : Tx) (j k : Nat) : Prop := AnyF T j k ∧ ∀ j' k', AnyF T j' k' → j < j' ∨ (j = j' ∧ k ≤ k')
theorem Flt.sp (h : TOK T) {t j k : Nat} (ht : t < xN T) (hF : Flt T t j k) : t < j ∧ j < xN T ∧ 3 ≤ k ∧ k ≤ 6 ∧ (xK T t = 1 ∨ xK T t = 2 ∨ xK T t = 3) ∧ ∀ q, t < q → q ≤ j → ¬ (xK T q = 1 ∨ xK T q = 2 ∨ xK T q = 3) := by
  rcases hF with ⟨z, h1, h2, -⟩ | ⟨z, hF⟩ | ⟨z, hF⟩
  · obtain ⟨p1, p2, p3⟩ := h.post ht z
    refine ⟨by omega, by omega, by omega, by omega, by omega, fun q a b => ?_⟩
    rw [show q = t + 1 by omega]; omega
  · obtain ⟨p1, p2, p3, p4⟩ := h.line ht z
    have : (j = t + 1 ∨ j = t + 2) ∧ 3 ≤ k ∧ k ≤ 6 := by rcases hF with k | k | k <;> omega
    refine ⟨by omega, by omega, by omega, by omega, by omega, fun q a b => ?_⟩
    have : q = t + 1 ∨ q = t + 2 := by omega
    rcases this with e | e <;> rw [e] <;> omega
  · obtain ⟨p1, p2, p3, p4, p5⟩ := h.round ht z
    have : (t < j ∧ j ≤ t + 2 + rln T t) ∧ 3 ≤ k ∧ k ≤ 6 := by
      rcases hF with k | ⟨v, -, ⟨i, k⟩ | k⟩ <;> omega
    refine ⟨by omega, by omega, by omega, by omega, by omega, fun q a b => ?_⟩
    by_cases y : q = t + 1
    · rw [y]; omega
    · by_cases y2 : q = t + 2 + rln T t
      · rw [y2]; omega
      · have := p3 (q - (t + 2)) (by omega)
        rw [show t + 2 + (q - (t + 2)) = q by omega] at this
        omega
theorem MinF.uq {j k j' k' : Nat} (h : MinF T j k) (g : MinF T j' k') : j = j' ∧ k = k' := by
  have a := h.2 _ _ g.1
  have b := g.2 _ _ h.1
  omega
theorem min_of (h : TOK T) {t j k : Nat} (ht : t < xN T) (hF : Flt T t j k) (hm : ∀ j' k', Flt T t j' k' → j < j' ∨ (j = j' ∧ k ≤ k')) (hb : ∀ t', t' < t → ∀ j' k', ¬ Flt T t' j' k') : MinF T j k := by
  refine ⟨⟨t, ht, hF⟩, fun j' k' hA => ?_⟩
  obtain ⟨t', ht', hF'⟩ := hA
  by_cases z : t' < t
  · exact absurd hF' (hb t' z j' k')
  · by_cases y : t' = t
    · rw [y] at hF'; exact hm j' k' hF'
    · obtain ⟨a1, a2, a3, a4, a5, a6⟩ := hF.sp h ht
      obtain ⟨b1, b2, b3, b4, b5, b6⟩ := hF'.sp h ht'
      have : ¬ t' ≤ j := fun q => a6 t' (by omega) q b5
      omega
/-- what a text is answered with: number of the fault, place -/
def SemA (T : Tx) (pl : Nat → Nat) (f : Nat) (p : Int) : Prop := (f = 0 ∧ p = -1 ∧ ∀ j k, ¬ AnyF T j k) ∨ ∃ j, MinF T j f ∧ p = (pl j : Int)
theorem SemA.uq {pl : Nat → Nat} {f f' : Nat} {p p' : Int} (h : SemA T pl f p) (g : SemA T pl f' p') : f = f' ∧ p = p' := by
  rcases h with ⟨h1, h2, h3⟩ | ⟨j, h1, h2⟩
  · rcases g with ⟨g1, g2, g3⟩ | ⟨j', g1, g2⟩
    · exact ⟨by omega, by omega⟩
    · exact absurd g1.1 (h3 _ _)
  · rcases g with ⟨g1, g2, g3⟩ | ⟨j', g1, g2⟩
    · exact absurd h1.1 (g3 _ _)
    · obtain ⟨e1, e2⟩ := h1.uq g1
      subst e1
      exact ⟨e2, by rw [h2, g2]⟩
end SEM
