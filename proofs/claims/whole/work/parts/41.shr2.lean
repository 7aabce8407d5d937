/-- a line that can be shrunk -/
def Lone (D : Dw) (e : Nat) : Prop := ∀ x, x < dM D → x ≠ e → ¬ (atP D x (dE D (2 * e)) ∧ atP D x (dE D (2 * e + 1)))
def Shk (D : Dw) (e a b c o : Nat) : Prop := WF D ∧ e < dM D ∧ Lone D e ∧ a = dE D (2 * e) ∧ b = dE D (2 * e + 1) ∧ c < dG D a ∧ dR D a c = e ∧ (∀ j, j < c → dR D a j ≠ e) ∧ o < dG D b ∧ dR D b o = e ∧ (∀ j, j < o → dR D b j ≠ e) ∧ a ≠ b ∧ a < dN D ∧ b < dN D
theorem shk_of {D : Dw} {e : Nat} (hW : WF D) (he : e < dM D) (hL : Lone D e) : Shk D e (dE D (2 * e)) (dE D (2 * e + 1)) (pos (dR D (dE D (2 * e))) e (dG D (dE D (2 * e)))) (pos (dR D (dE D (2 * e + 1))) e (dG D (dE D (2 * e + 1)))) := by
  have ha : dE D (2 * e) < dN D := hW.2.2.1 _ (by omega)
  have hb : dE D (2 * e + 1) < dN D := hW.2.2.1 _ (by omega)
  have h1 := hW.pos ha he (Or.inl rfl)
  have h2 := hW.pos hb he (Or.inr rfl)
  exact ⟨hW, he, hL, rfl, rfl, h1.1, h1.2.1, h1.2.2, h2.1, h2.2.1, h2.2.2, hW.2.2.2.1 e he, ha, hb⟩
theorem rnd_ne {o t d : Nat} (ho : o < d) (h1 : 1 ≤ t) (h2 : t < d) : rnd o t d ≠ o := by unfold rnd; split <;> omega
theorem rnd_inj {o s t d : Nat} (ho : o < d) (h1 : s < d) (h2 : t < d) (h : rnd o s d = rnd o t d) : s = t := by unfold rnd at h; split at h <;> split at h <;> omega
theorem rnd_sur {o i d : Nat} (ho : o < d) (hi : i < d) (hne : i ≠ o) : ∃ t, 1 ≤ t ∧ t < d ∧ rnd o t d = i := by
  rcases Nat.lt_or_ge o i with h | h
  · exact ⟨i - o, by omega, by omega, by unfold rnd; rw [if_pos (by omega)]; omega⟩
  · exact ⟨i + d - o, by omega, by omega, by unfold rnd; rw [if_neg (by omega)]; omega⟩
theorem rowN_ok {D : Dw} {e a b c o : Nat} (S : Shk D e a b c o) :
    (∀ j, j < dG D a + dG D b - 1 → rowN (dR D a) (dR D b) c o (dG D b) (dG D b - 1) j < dM D ∧ (atP D (rowN (dR D a) (dR D b) c o (dG D b) (dG D b - 1) j) a ∨ atP D (rowN (dR D a) (dR D b) c o (dG D b) (dG D b - 1) j) b)) ∧
    (∀ i j, i < dG D a + dG D b - 1 → j < dG D a + dG D b - 1 → rowN (dR D a) (dR D b) c o (dG D b) (dG D b - 1) i = rowN (dR D a) (dR D b) c o (dG D b) (dG D b - 1) j → i = j) ∧
    (∀ x, x < dM D → (atP D x a ∨ atP D x b) → ∃ j, j < dG D a + dG D b - 1 ∧ rowN (dR D a) (dR D b) c o (dG D b) (dG D b - 1) j = x) ∧
    rowN (dR D a) (dR D b) c o (dG D b) (dG D b - 1) c = e := by
  obtain ⟨hW, he, hL, ha, hb, hc, hce, hcf, ho, hoe, hof, hab, han, hbn⟩ := S
  obtain ⟨n6, m10, hen, hne, hrow, hinj, hsur⟩ := id hW
  obtain ⟨A, hA⟩ : ∃ A, A = dR D a := ⟨_, rfl⟩
  obtain ⟨B, hB⟩ : ∃ B, B = dR D b := ⟨_, rfl⟩
  obtain ⟨da, hda⟩ : ∃ d, d = dG D a := ⟨_, rfl⟩
  obtain ⟨db, hdb⟩ : ∃ d, d = dG D b := ⟨_, rfl⟩
  have rA : ∀ i, i < da → A i < dM D ∧ atP D (A i) a := fun i hi => by rw [hA]; exact hrow a i han (by omega)
  have rB : ∀ i, i < db → B i < dM D ∧ atP D (B i) b := fun i hi => by rw [hB]; exact hrow b i hbn (by omega)
  have iA : ∀ i j, i < da → j < da → A i = A j → i = j := fun i j hi hj h => by rw [hA] at h; exact hinj a i j han (by omega) (by omega) h
  have iB : ∀ i j, i < db → j < db → B i = B j → i = j := fun i j hi hj h => by rw [hB] at h; exact hinj b i j hbn (by omega) (by omega) h
  have sA : ∀ x, x < dM D → atP D x a → ∃ i, i < da ∧ A i = x := fun x hx h => by obtain ⟨i, hi, h2⟩ := hsur a x han hx h; exact ⟨i, by omega, by rw [hA]; exact h2⟩
  have sB : ∀ x, x < dM D → atP D x b → ∃ i, i < db ∧ B i = x := fun x hx h => by obtain ⟨i, hi, h2⟩ := hsur b x hbn hx h; exact ⟨i, by omega, by rw [hB]; exact h2⟩
  have hAc : A c = e := by rw [hA]; exact hce
  have hBo : B o = e := by rw [hB]; exact hoe
  rw [← hda] at hc
  rw [← hdb] at ho
  have dis : ∀ i j, i < da → j < db → A i = B j → j = o := fun i j hi hj h => by
    rcases Nat.decEq (A i) e with z | z
    · exfalso
      refine hL (A i) (rA i hi).1 z ⟨?_, ?_⟩
      · rw [← ha]; exact (rA i hi).2
      · rw [← hb, h]; exact (rB j hj).2
    · exact iB j o hj ho (by rw [← h, z, hBo])
  have disN : ∀ i t, i < da → 1 ≤ t → t < db → A i ≠ B (rnd o t db) := fun i t hi h1 h2 h => rnd_ne ho h1 h2 (dis i _ hi (rnd_lt ho (by omega)) h)
  rw [← hA, ← hB, ← hda, ← hdb]
  have val : ∀ j, j < da + db - 1 → (j ≤ c ∧ rowN A B c o db (db - 1) j = A j) ∨ (c < j ∧ j ≤ c + (db - 1) ∧ rowN A B c o db (db - 1) j = B (rnd o (j - c) db)) ∨ (c + (db - 1) < j ∧ rowN A B c o db (db - 1) j = A (j - (db - 1))) := by
    intro j hj
    unfold rowN
    by_cases q1 : j ≤ c
    · exact Or.inl ⟨q1, if_pos q1⟩
    · by_cases q2 : j ≤ c + (db - 1)
      · exact Or.inr (Or.inl ⟨by omega, q2, by rw [if_neg q1, if_pos q2]⟩)
      · exact Or.inr (Or.inr ⟨by omega, by rw [if_neg q1, if_neg q2]⟩)
  refine ⟨fun j hj => ?_, fun i j hi hj h => ?_, fun x hx hxa => ?_, ?_⟩
  · rcases val j hj with ⟨q, v⟩ | ⟨q, q2, v⟩ | ⟨q, v⟩
    · rw [v]; have := rA j (by omega); exact ⟨this.1, Or.inl this.2⟩
    · rw [v]; have := rB (rnd o (j - c) db) (rnd_lt ho (by omega)); exact ⟨this.1, Or.inr this.2⟩
    · rw [v]; have := rA (j - (db - 1)) (by omega); exact ⟨this.1, Or.inl this.2⟩
  · rcases val i hi with ⟨q, v⟩ | ⟨q, q2, v⟩ | ⟨q, v⟩ <;> rcases val j hj with ⟨s, u⟩ | ⟨s, s2, u⟩ | ⟨s, u⟩ <;> rw [v, u] at h
    · exact iA i j (by omega) (by omega) h
    · exact absurd h (disN _ _ (by omega) (by omega) (by omega))
    · have := iA _ _ (by omega) (by omega) h; omega
    · exact absurd h.symm (disN _ _ (by omega) (by omega) (by omega))
    · have := rnd_inj ho (by omega) (by omega) (iB _ _ (rnd_lt ho (by omega)) (rnd_lt ho (by omega)) h); omega
    · exact absurd h.symm (disN _ _ (by omega) (by omega) (by omega))
    · have := iA _ _ (by omega) (by omega) h; omega
    · exact absurd h (disN _ _ (by omega) (by omega) (by omega))
    · have := iA _ _ (by omega) (by omega) h; omega
  · have inA : ∀ i, i < da → ∃ j, j < da + db - 1 ∧ rowN A B c o db (db - 1) j = A i := fun i hi => by
      rcases Nat.lt_or_ge c i with q | q
      · refine ⟨i + (db - 1), by omega, ?_⟩
        unfold rowN
        rw [if_neg (by omega), if_neg (by omega), Nat.add_sub_cancel]
      · refine ⟨i, by omega, ?_⟩
        unfold rowN
        rw [if_pos q]
    rcases hxa with z | z
    · obtain ⟨i, hi, hix⟩ := sA x hx z
      obtain ⟨j, hj, h⟩ := inA i hi
      exact ⟨j, hj, by rw [h, hix]⟩
    · obtain ⟨i, hi, hix⟩ := sB x hx z
      by_cases q : i = o
      · obtain ⟨j, hj, h⟩ := inA c hc
        exact ⟨j, hj, by rw [h, hAc, ← hix, q, hBo]⟩
      · obtain ⟨t, h1, h2, h3⟩ := rnd_sur ho hi q
        refine ⟨c + t, by omega, ?_⟩
        unfold rowN
        rw [if_neg (by omega), if_pos (by omega), show c + t - c = t by omega, h3, hix]
  · unfold rowN
    rw [if_pos (Nat.le_refl _), hAc]
theorem shk_len {D : Dw} {e a b c o : Nat} (S : Shk D e a b c o) : dG D a + dG D b ≤ dM D + 1 := by
  have h := rowN_ok S
  have := pigeon _ _ _ (fun j hj => (h.1 j hj).1) h.2.1
  omega
theorem mvE_step {D : Dw} {e a b c o k : Nat} (S : Shk D e a b c o) (hk : k + 1 < dG D b) :
    mvE D a b o k (2 * dR D b (rnd o (k + 1) (dG D b))) = dE D (2 * dR D b (rnd o (k + 1) (dG D b))) ∧
    (∀ i, (if i = 2 * dR D b (rnd o (k + 1) (dG D b)) + (if dE D (2 * dR D b (rnd o (k + 1) (dG D b))) = b then 0 else 1) then a else mvE D a b o k i) = mvE D a b o (k + 1) i) ∧ dR D b (rnd o (k + 1) (dG D b)) < dM D := by
  obtain ⟨hW, he, hL, ha, hb, hc, hce, hcf, ho, hoe, hof, hab, han, hbn⟩ := S
  obtain ⟨n6, m10, hen, hne, hrow, hinj, hsur⟩ := id hW
  obtain ⟨l, hl⟩ : ∃ l, l = dR D b (rnd o (k + 1) (dG D b)) := ⟨_, rfl⟩
  have hlr := hrow b (rnd o (k + 1) (dG D b)) hbn (rnd_lt ho (by omega))
  rw [← hl] at hlr ⊢
  have hnew : ∀ t, 1 ≤ t → t ≤ k → dR D b (rnd o t (dG D b)) ≠ l := fun t h1 h2 h => by
    rw [hl] at h
    have := rnd_inj ho (by omega) (by omega) (hinj b _ _ hbn (rnd_lt ho (by omega)) (rnd_lt ho (by omega)) h)
    omega
  obtain ⟨arm, harm⟩ : ∃ x, x = 2 * l + (if dE D (2 * l) = b then 0 else 1) := ⟨_, rfl⟩
  have hab2 : dE D arm = b := by
    rw [harm]
    by_cases z : dE D (2 * l) = b
    · rw [if_pos z]; exact z
    · rw [if_neg z]; exact hlr.2.resolve_left z
  have harm2 : arm / 2 = l := by rw [harm]; split <;> omega
  have honly : ∀ i, i / 2 = l → dE D i = b → i = arm := fun i h1 h2 => by
    have hd := hne l hlr.1
    have hi : i = 2 * l ∨ i = 2 * l + 1 := by omega
    rw [harm]
    rcases hi with z | z
    · rw [z] at h2; rw [if_pos h2, z, Nat.add_zero]
    · rw [z] at h2
      rw [if_neg (fun y => hd (by rw [y, h2])), z]
  rw [← harm]
  refine ⟨?_, fun i => ?_, hlr.1⟩
  · unfold mvE
    rw [if_neg]
    rintro ⟨h1, t, h2, h3, h4⟩
    exact hnew t h2 h3 (by rw [h4]; omega)
  · unfold mvE
    by_cases z : i = arm
    · rw [if_pos z, if_pos ⟨by rw [z]; exact hab2, k + 1, by omega, by omega, by rw [z, harm2, hl]⟩]
    · rw [if_neg z]
      by_cases z2 : dE D i = b ∧ ∃ t, 1 ≤ t ∧ t ≤ k ∧ dR D b (rnd o t (dG D b)) = i / 2
      · obtain ⟨y1, t, y2, y3, y4⟩ := z2
        rw [if_pos ⟨y1, t, y2, y3, y4⟩, if_pos ⟨y1, t, y2, by omega, y4⟩]
      · rw [if_neg z2, if_neg]
        rintro ⟨y1, t, y2, y3, y4⟩
        by_cases q : t = k + 1
        · exact z (honly i (by rw [← y4, q, hl]) y1)
        · exact z2 ⟨y1, t, y2, by omega, y4⟩
theorem mvE_zero {D : Dw} {a b o i : Nat} : mvE D a b o 0 i = dE D i := by
  unfold mvE
  rw [if_neg]
  rintro ⟨h1, t, h2, h3, h4⟩
  omega
theorem mvE_full {D : Dw} {e a b c o : Nat} (S : Shk D e a b c o) {i : Nat} (hi : i < 2 * dM D) : mvE D a b o (dG D b - 1) i = if dE D i = b ∧ i / 2 ≠ e then a else dE D i := by
  obtain ⟨hW, he, hL, ha, hb, hc, hce, hcf, ho, hoe, hof, hab, han, hbn⟩ := S
  obtain ⟨n6, m10, hen, hne, hrow, hinj, hsur⟩ := id hW
  unfold mvE
  by_cases z : dE D i = b ∧ i / 2 ≠ e
  · rw [if_pos z]
    have hat : atP D (i / 2) b := by
      unfold atP
      have : i = 2 * (i / 2) ∨ i = 2 * (i / 2) + 1 := by omega
      rcases this with y | y
      · left; rw [← y]; exact z.1
      · right; rw [← y]; exact z.1
    obtain ⟨j, hj, hje⟩ := hsur b (i / 2) hbn (by omega) hat
    obtain ⟨t, h1, h2, h3⟩ := rnd_sur ho hj (fun y => z.2 (by rw [← hje, y, hoe]))
    rw [if_pos ⟨z.1, t, h1, by omega, by rw [h3, hje]⟩]
  · rw [if_neg z, if_neg]
    rintro ⟨h1, t, h2, h3, h4⟩
    refine z ⟨h1, fun y => rnd_ne ho h2 (by omega) (hinj b (rnd o t (dG D b)) o hbn (rnd_lt ho (by omega)) ho (by rw [h4, y, hoe]))⟩
noncomputable def mvK (D : Dw) (a b c o k : Nat) : Dw := (dN D, dM D, mvE D a b o k, dT D, (fun p => if p = a then dG D p - 1 + k else dG D p), (fun p j => if p = a then rowC (dR D a) (dR D b) c o (dG D b) k j else dR D p j))
noncomputable def mvN (D : Dw) (a b c o k : Nat) : Dw := (dN D, dM D, mvE D a b o k, dT D, (fun p => if p = a then dG D p + k else dG D p), (fun p j => if p = a then rowN (dR D a) (dR D b) c o (dG D b) k j else dR D p j))
theorem mvE_bd {D : Dw} {e a b c o k i : Nat} (S : Shk D e a b c o) (hi : i < 2 * dM D) : mvE D a b o k i < 100 := by
  obtain ⟨hW, he, hL, ha, hb, hc, hce, hcf, ho, hoe, hof, hab, han, hbn⟩ := S
  have := hW.1
  have := hW.2.2.1 i hi
  unfold mvE
  split <;> omega
theorem mvK_Bd {D : Dw} {e a b c o k : Nat} (S : Shk D e a b c o) (hk : k < dG D b) : Bd (mvK D a b c o k) ∧ Bd (mvN D a b c o k) := by
  have hlen := shk_len S
  have hE := fun i (hi : i < 2 * dM D) => mvE_bd (k := k) S hi
  obtain ⟨hW, he, hL, ha, hb, hc, hce, hcf, ho, hoe, hof, hab, han, hbn⟩ := S
  obtain ⟨n6, m10, hen, hne, hrow, hinj, hsur⟩ := id hW
  refine ⟨⟨n6, m10, fun p hp => ?_, fun p i hp hi => ?_, hE⟩, ⟨n6, m10, fun p hp => ?_, fun p i hp hi => ?_, hE⟩⟩
  · have := hW.deg hp
    show (if p = a then dG D p - 1 + k else dG D p) ≤ 10
    by_cases z : p = a
    · subst z; rw [if_pos rfl]; omega
    · rw [if_neg z]; omega
  · have hi : i < if p = a then dG D p - 1 + k else dG D p := hi
    show (if p = a then rowC (dR D a) (dR D b) c o (dG D b) k i else dR D p i) < 100
    by_cases z : p = a
    · subst z
      rw [if_pos rfl] at hi ⊢
      unfold rowC
      split
      · have := (hrow p i han (by omega)).1; omega
      · split
        · have := (hrow b (rnd o (1 + (i - c)) (dG D b)) hbn (rnd_lt ho (by omega))).1; omega
        · have := (hrow p (i - k + 1) han (by omega)).1; omega
    · rw [if_neg z] at hi ⊢
      have := (hrow p i hp hi).1; omega
  · have := hW.deg hp
    show (if p = a then dG D p + k else dG D p) ≤ 10
    by_cases z : p = a
    · subst z; rw [if_pos rfl]; omega
    · rw [if_neg z]; omega
  · have hi : i < if p = a then dG D p + k else dG D p := hi
    show (if p = a then rowN (dR D a) (dR D b) c o (dG D b) k i else dR D p i) < 100
    by_cases z : p = a
    · subst z
      rw [if_pos rfl] at hi ⊢
      unfold rowN
      split
      · have := (hrow p i han (by omega)).1; omega
      · split
        · have := (hrow b (rnd o (i - c) (dG D b)) hbn (rnd_lt ho (by omega))).1; omega
        · have := (hrow p (i - k) han (by omega)).1; omega
    · rw [if_neg z] at hi ⊢
      have := (hrow p i hp hi).1; omega
