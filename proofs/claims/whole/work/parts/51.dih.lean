/-! WALKS: one goes on (g), one looks from the other side (x) -/
def DH (N : Nat) (g x : Nat → Nat) : Prop := (∀ s, s < N → g s < N) ∧ (∀ s, s < N → x s < N) ∧ (∀ s, s < N → x (x s) = s) ∧ (∀ s, s < N → g (x (g s)) = x s) ∧ (∀ s, s < N → x s ≠ s) ∧ (∀ s, s < N → g s ≠ x s)
theorem DH.pm {N : Nat} {g x : Nat → Nat} (h : DH N g x) : PM g N := by
  obtain ⟨h1, h2, h3, h4, h5, h6⟩ := h
  refine ⟨h1, fun s t hs ht e => ?_⟩
  have : x s = x t := by rw [← h4 s hs, ← h4 t ht, e]
  rw [← h3 s hs, ← h3 t ht, this]
theorem DH.rev {N : Nat} {g x : Nat → Nat} (h : DH N g x) : ∀ (i s : Nat), s < N → itr g i (x (itr g i s)) = x s
  | 0, _, _ => rfl
  | i + 1, s, hs => by
    have hp := h.pm
    show itr g (i + 1) (x (itr g i (g s))) = x s
    rw [itr_succ, h.rev i (g s) (h.1 s hs)]
    exact h.2.2.2.1 s hs
theorem DH.on {N : Nat} {g x : Nat → Nat} (h : DH N g x) {s t : Nat} (hs : s < N) : On g s t → On g (x t) (x s) := fun ⟨i, hi⟩ => ⟨i, by rw [← hi]; exact h.rev i s hs⟩
theorem DH.no {N : Nat} {g x : Nat → Nat} (h : DH N g x) : ∀ (f i s : Nat), i < f → s < N → itr g i s ≠ x s
  | 0, i, _, hf, _ => by omega
  | f + 1, 0, s, _, hs => fun e => h.2.2.2.2.1 s hs e.symm
  | f + 1, 1, s, _, hs => h.2.2.2.2.2 s hs
  | f + 1, i + 2, s, hf, hs => fun e => by
    have hp := h.pm
    have e1 : itr g (i + 2) s = g (itr g i (g s)) := itr_succ g i (g s)
    rw [e1, ← h.2.2.2.1 s hs] at e
    exact h.no f i (g s) (by omega) (h.1 s hs) (hp.2 _ _ (hp.lt _ _ (h.1 s hs)) (h.2.1 _ (h.1 s hs)) e)
theorem DH.ne {N : Nat} {g x : Nat → Nat} (h : DH N g x) {i j s : Nat} (hs : s < N) : itr g i s ≠ x (itr g j s) := fun e => by
  have hp := h.pm
  have h1 : On g (itr g j s) (itr g i s) := (On.symm hp hs ⟨j, rfl⟩).trans ⟨i, rfl⟩
  rw [e] at h1
  obtain ⟨k, hk⟩ := h1
  exact h.no (k + 1) k (itr g j s) (by omega) (hp.lt j s hs) hk
/-- on one face -/
def Cl (g x : Nat → Nat) (s t : Nat) : Prop := On g s t ∨ On g (x s) t
theorem DH.eq {N : Nat} {g x : Nat → Nat} (h : DH N g x) : EqR (Cl g x) N := by
  have hp := h.pm
  have hx := h.2.1
  have hxx := h.2.2.1
  refine ⟨fun s _ => Or.inl (On.refl g s), fun s t hs ht => ?_, fun s t u hs ht hu => ?_⟩
  · rintro (y | y)
    · exact Or.inl (y.symm hp hs)
    · have h1 : On g t (x s) := y.symm hp (hx s hs)
      have h2 := h.on ht h1
      rw [hxx s hs] at h2
      exact Or.inr (h2.symm hp hs)
  · rintro (y | y) (z | z)
    · exact Or.inl (y.trans z)
    · have h1 := h.on hs y
      exact Or.inr ((h1.symm hp (hx t ht)).trans z)
    · exact Or.inr (y.trans z)
    · have h1 := h.on (hx s hs) y
      rw [hxx s hs] at h1
      exact Or.inl ((h1.symm hp (hx t ht)).trans z)
/-- what stands on the face of a state: steps from it, or the other side of such -/
theorem DH.cl {N : Nat} {g x : Nat → Nat} (h : DH N g x) {s t : Nat} (hs : s < N) : Cl g x s t ↔ ∃ i, i < per g N s ∧ (itr g i s = t ∨ x (itr g i s) = t) := by
  have hp := h.pm
  constructor
  · rintro (y | y)
    · obtain ⟨i, h1, h2⟩ := y.pre hp hs
      exact ⟨i, h1, Or.inl h2⟩
    · have ht := y.lt hp (h.2.1 s hs)
      have h1 := h.on (h.2.1 s hs) y
      rw [h.2.2.1 s hs] at h1
      obtain ⟨i, h2, h3⟩ := (h1.symm hp (h.2.1 t ht)).pre hp hs
      exact ⟨i, h2, Or.inr (by rw [h3, h.2.2.1 t ht])⟩
  · rintro ⟨i, -, y | y⟩
    · exact Or.inl ⟨i, y⟩
    · rw [← y]
      have h1 := h.on hs ⟨i, rfl⟩
      exact Or.inr (h1.symm hp (h.2.1 _ (hp.lt i s hs)))
/-- how many steps there are on the faces that begin below k -/
noncomputable def tl (g : Nat → Nat) (N : Nat) (R : Nat → Nat → Prop) : Nat → Nat
  | 0 => 0
  | k + 1 => tl g N R k + @ite Nat (ldr R k) (Classical.propDecidable _) (per g N k) 0
theorem tl_ld {g : Nat → Nat} {N : Nat} {R : Nat → Nat → Prop} {k : Nat} (h : ldr R k) : tl g N R (k + 1) = tl g N R k + per g N k := by
  show tl g N R k + @ite Nat (ldr R k) (Classical.propDecidable _) (per g N k) 0 = _
  rw [if_pos h]
theorem tl_no {g : Nat → Nat} {N : Nat} {R : Nat → Nat → Prop} {k : Nat} (h : ¬ ldr R k) : tl g N R (k + 1) = tl g N R k := by
  show tl g N R k + @ite Nat (ldr R k) (Classical.propDecidable _) (per g N k) 0 = _
  rw [if_neg h]
  rfl
theorem tl_mono {g : Nat → Nat} {N : Nat} {R : Nat → Nat → Prop} : ∀ (n k : Nat), k ≤ n → tl g N R k ≤ tl g N R n
  | 0, k, h => by rw [show k = 0 by omega]; exact Nat.le_refl _
  | n + 1, k, h => by
    by_cases q : k = n + 1
    · rw [q]; exact Nat.le_refl _
    · have := tl_mono (g := g) (N := N) (R := R) n k (by omega)
      by_cases z : ldr R n
      · rw [tl_ld z]; omega
      · rw [tl_no z]; omega
theorem DH.vis {N : Nat} {g x : Nat → Nat} (h : DH N g x) : ∀ k, k ≤ N → ∃ v : Nat → Nat, (∀ u, u < tl g N (Cl g x) k → v u < N ∧ ∃ j, j < k ∧ Cl g x j (v u)) ∧ (∀ u u', u < tl g N (Cl g x) k → u' < tl g N (Cl g x) k → v u = v u' → u = u') ∧ (∀ u u', u < tl g N (Cl g x) k → u' < tl g N (Cl g x) k → v u ≠ x (v u'))
  | 0, _ => ⟨fun _ => 0, fun u hu => absurd hu (Nat.not_lt_zero u), fun u _ hu => absurd hu (Nat.not_lt_zero u), fun u _ hu => absurd hu (Nat.not_lt_zero u)⟩
  | k + 1, hk => by
    have hp := h.pm
    have he := h.eq
    obtain ⟨v, h1, h2, h3⟩ := DH.vis h k (by omega)
    by_cases z : ldr (Cl g x) k
    · rw [tl_ld z]
      obtain ⟨T, hT⟩ : ∃ T, T = tl g N (Cl g x) k := ⟨_, rfl⟩
      rw [← hT] at h1 h2 h3 ⊢
      have hkN : k < N := by omega
      have inK : ∀ i, Cl g x k (itr g i k) := fun i => Or.inl ⟨i, rfl⟩
      have apart : ∀ u i, u < T → v u ≠ itr g i k ∧ v u ≠ x (itr g i k) := fun u i hu => by
        obtain ⟨hv, j, hj, hc⟩ := h1 u hu
        have hi := hp.lt i k hkN
        refine ⟨fun e => z j hj (he.2.2 j (v u) k (by omega) hv hkN hc (he.2.1 k (v u) hkN hv (by rw [e]; exact inK i))), fun e => z j hj (he.2.2 j (v u) k (by omega) hv hkN hc ?_)⟩
        refine he.2.2 (v u) (itr g i k) k hv hi hkN (Or.inr ?_) (he.2.1 k _ hkN hi (inK i))
        rw [e, h.2.2.1 _ hi]
        exact On.refl _ _
      refine ⟨fun u => if u < T then v u else itr g (u - T) k, fun u hu => ?_, fun u u' hu hu' e => ?_, fun u u' hu hu' => ?_⟩
      · by_cases q : u < T
        · simp only [if_pos q]
          obtain ⟨a, j, b, c⟩ := h1 u q
          exact ⟨a, j, by omega, c⟩
        · simp only [if_neg q]
          exact ⟨hp.lt _ _ hkN, k, by omega, inK _⟩
      · by_cases q : u < T <;> by_cases q' : u' < T
        · simp only [if_pos q, if_pos q'] at e; exact h2 u u' q q' e
        · simp only [if_pos q, if_neg q'] at e; exact absurd e (apart u _ q).1
        · simp only [if_neg q, if_pos q'] at e; exact absurd e.symm (apart u' _ q').1
        · simp only [if_neg q, if_neg q'] at e
          have := per_dis hp hkN (by omega) (by omega) e
          omega
      · by_cases q : u < T <;> by_cases q' : u' < T
        · simp only [if_pos q, if_pos q']; exact h3 u u' q q'
        · simp only [if_pos q, if_neg q']; exact (apart u _ q).2
        · simp only [if_neg q, if_pos q']
          intro e
          refine (apart u' (u - T) q').2 ?_
          rw [e, h.2.2.1 _ (h1 u' q').1]
        · simp only [if_neg q, if_neg q']; exact h.ne hkN
    · rw [tl_no z]
      exact ⟨v, fun u hu => by obtain ⟨a, j, b, c⟩ := h1 u hu; exact ⟨a, j, by omega, c⟩, h2, h3⟩
theorem DH.tl_le {N : Nat} {g x : Nat → Nat} (h : DH N g x) {k : Nat} (hk : k ≤ N) : 2 * tl g N (Cl g x) k ≤ N := by
  obtain ⟨v, h1, h2, h3⟩ := h.vis k hk
  obtain ⟨T, hT⟩ : ∃ T, T = tl g N (Cl g x) k := ⟨_, rfl⟩
  rw [← hT] at h1 h2 h3 ⊢
  refine pigeon (2 * T) N (fun u => if u < T then v u else x (v (u - T))) (fun u hu => ?_) (fun u u' hu hu' e => ?_)
  · by_cases q : u < T
    · simp only [if_pos q]; exact (h1 u q).1
    · simp only [if_neg q]; exact h.2.1 _ (h1 _ (by omega)).1
  · by_cases q : u < T <;> by_cases q' : u' < T
    · simp only [if_pos q, if_pos q'] at e; exact h2 u u' q q' e
    · simp only [if_pos q, if_neg q'] at e; exact absurd e (h3 u _ q (by omega))
    · simp only [if_neg q, if_pos q'] at e; exact absurd e.symm (h3 u' _ q' (by omega))
    · simp only [if_neg q, if_neg q'] at e
      have a1 := (h1 (u - T) (by omega)).1
      have a2 := (h1 (u' - T) (by omega)).1
      have := h2 (u - T) (u' - T) (by omega) (by omega) (by rw [← h.2.2.1 _ a1, ← h.2.2.1 _ a2, e])
      omega
theorem ncl_tl {g : Nat → Nat} {N : Nat} {R : Nat → Nat → Prop} (hp : PM g N) (h2 : ∀ s, s < N → g s ≠ s) : ∀ k, k ≤ N → 2 * ncl R k ≤ tl g N R k
  | 0, _ => Nat.le_refl _
  | k + 1, hk => by
    have := ncl_tl (R := R) hp h2 k (by omega)
    by_cases z : ldr R k
    · rw [ncl_ld z, tl_ld z]
      have hq := per_ok hp (show k < N by omega)
      have : per g N k ≠ 1 := fun e => h2 k (by omega) (by have := hq.2.2.1; rw [e] at this; exact this)
      omega
    · rw [ncl_no z, tl_no z]; exact this
/-- orbits come in twos -/
theorem DH.two {N : Nat} {g x : Nat → Nat} (h : DH N g x) : ncl (On g) N = 2 * ncl (Cl g x) N := by
  have hp := h.pm
  have he := h.eq
  have ho : EqR (On g) N := ⟨fun s _ => On.refl g s, fun s t hs _ y => y.symm hp hs, fun s t u _ _ _ y z => y.trans z⟩
  -- first ones of orbits that are no first ones of faces
  obtain ⟨P, hP⟩ : ∃ P : Nat → Nat → Prop, P = fun j k => On g j k ∨ (ldr (Cl g x) k ∧ j = 0 ∧ False) := ⟨_, rfl⟩
  have cl_on : ∀ k, ldr (Cl g x) k → ldr (On g) k := fun k hk j hj y => hk j hj (Or.inl y)
  -- the other orbit of a face
  have oth : ∀ k, k < N → ∃ l, l < N ∧ ldr (On g) l ∧ On g (x k) l := fun k hk => by
    obtain ⟨l, h1, h2, h3⟩ := ho.ld (x k + 1) (x k) (by omega) (h.2.1 k hk)
    exact ⟨l, by have := h.2.1 k hk; omega, h2, h3.symm hp (by have := h.2.1 k hk; omega)⟩
  obtain ⟨o, hoth⟩ : ∃ o : Nat → Nat, ∀ k, k < N → o k < N ∧ ldr (On g) (o k) ∧ On g (x k) (o k) := ⟨fun k => @dite Nat (k < N) (Nat.decLt _ _) (fun hk => (oth k hk).choose) (fun _ => 0), fun k hk => by simp only [dif_pos hk]; exact (oth k hk).choose_spec⟩
  have oo : ∀ k, k < N → ldr (On g) k → o (o k) = k := fun k hk hl => by
    have h1 := hoth k hk
    have h2 := hoth (o k) h1.1
    refine ho.un h2.1 hk h2.2.1 hl ?_
    have h3 := h.on (h.2.1 k hk) h1.2.2
    rw [h.2.2.1 k hk] at h3
    exact (h2.2.2.symm hp (h.2.1 _ h1.1)).trans h3
  have one : ∀ k, k < N → ldr (On g) k → o k ≠ k := fun k hk hl e => by
    have h1 := (hoth k hk).2.2
    rw [e] at h1
    obtain ⟨i, hi⟩ := h1.symm hp (h.2.1 k hk)
    exact h.no (i + 1) i k (by omega) hk hi
  have lead : ∀ k, k < N → ldr (On g) k → (ldr (Cl g x) k ↔ k < o k) := fun k hk hl => by
    have h1 := hoth k hk
    constructor
    · intro z
      rcases Nat.lt_or_ge k (o k) with q | q
      · exact q
      · have hne := one k hk hl
        exact absurd (he.2.1 k (o k) hk h1.1 (Or.inr h1.2.2)) (z (o k) (by omega))
    · intro z j hj y
      rcases y with y | y
      · exact hl j hj y
      · -- j stands in the other orbit
        have h2 : On g (x k) j := by
          have := h.on (h.2.1 j (by omega)) y
          rw [h.2.2.1 j (by omega)] at this
          exact this
        have h3 : On g j (o k) := (h2.symm hp (h.2.1 k hk)).trans h1.2.2
        exact h1.2.1 j (by omega) h3
  -- count both kinds up to n: below n, orbits = faces + those whose other orbit begins earlier
  have key : ∀ (n : Nat), n ≤ N → ∃ c : Nat, ncl (On g) n = ncl (Cl g x) n + c ∧ (∃ en : Nat → Nat, (∀ i, i < c → en i < n ∧ ldr (On g) (en i) ∧ ¬ ldr (Cl g x) (en i)) ∧ (∀ i j, i < c → j < c → en i = en j → i = j) ∧ (∀ k, k < n → ldr (On g) k → ¬ ldr (Cl g x) k → ∃ i, i < c ∧ en i = k)) := by
    intro n
    induction n with
    | zero => exact fun _ => ⟨0, rfl, fun _ => 0, fun i hi => absurd hi (Nat.not_lt_zero i), fun i _ hi => absurd hi (Nat.not_lt_zero i), fun k hk => absurd hk (Nat.not_lt_zero k)⟩
    | succ n ih =>
      intro hn
      obtain ⟨c, h1, en, h2, h3, h4⟩ := ih (by omega)
      by_cases q : ldr (Cl g x) n
      · refine ⟨c, by rw [ncl_ld q, ncl_ld (cl_on n q), h1]; omega, en, fun i hi => ⟨by have := (h2 i hi).1; omega, (h2 i hi).2⟩, h3, fun k hk hl hc => h4 k ?_ hl hc⟩
        rcases Nat.lt_or_ge k n with z | z
        · exact z
        · exact absurd (by rw [show k = n by omega]; exact q) hc
      · by_cases q2 : ldr (On g) n
        · refine ⟨c + 1, by rw [ncl_no q, ncl_ld q2, h1]; omega, fun i => if i = c then n else en i, fun i hi => ?_, fun i j hi hj e => ?_, fun k hk hl hc => ?_⟩
          · by_cases z : i = c
            · simp only [if_pos z]; exact ⟨by omega, q2, q⟩
            · simp only [if_neg z]; exact ⟨by have := (h2 i (by omega)).1; omega, (h2 i (by omega)).2⟩
          · by_cases z : i = c <;> by_cases z' : j = c
            · omega
            · simp only [if_pos z, if_neg z'] at e; have := (h2 j (by omega)).1; omega
            · simp only [if_neg z, if_pos z'] at e; have := (h2 i (by omega)).1; omega
            · simp only [if_neg z, if_neg z'] at e; exact h3 i j (by omega) (by omega) e
          · by_cases z : k = n
            · exact ⟨c, by omega, by simp only [if_pos trivial]; exact z.symm⟩
            · obtain ⟨i, hi, he'⟩ := h4 k (by omega) hl hc
              exact ⟨i, by omega, by simp only [if_neg (show i ≠ c by omega)]; exact he'⟩
        · refine ⟨c, by rw [ncl_no q, ncl_no q2, h1], en, fun i hi => ⟨by have := (h2 i hi).1; omega, (h2 i hi).2⟩, h3, fun k hk hl hc => h4 k ?_ hl hc⟩
          rcases Nat.lt_or_ge k n with z | z
          · exact z
          · exact absurd (by rw [show k = n by omega] at hl; exact hl) q2
  obtain ⟨c, h1, en, h2, h3, h4⟩ := key N (Nat.le_refl _)
  -- the other orbit is one to one between the two kinds
  have le1 : c ≤ ncl (Cl g x) N := by
    refine pigeon c (ncl (Cl g x) N) (fun i => ncl (Cl g x) (o (en i))) (fun i hi => ?_) (fun i j hi hj e => ?_)
    · have a := h2 i hi
      have b := hoth (en i) a.1
      refine ncl_lt b.1 ((lead _ b.1 b.2.1).mpr ?_)
      rw [oo _ a.1 a.2.1]
      have := one _ a.1 a.2.1
      have : ¬ en i < o (en i) := fun y => a.2.2 ((lead _ a.1 a.2.1).mpr y)
      omega
    · have a := h2 i hi
      have a' := h2 j hj
      have b := hoth (en i) a.1
      have b' := hoth (en j) a'.1
      have l1 : ldr (Cl g x) (o (en i)) := (lead _ b.1 b.2.1).mpr (by
        rw [oo _ a.1 a.2.1]
        have := one _ a.1 a.2.1
        have : ¬ en i < o (en i) := fun y => a.2.2 ((lead _ a.1 a.2.1).mpr y)
        omega)
      have l2 : ldr (Cl g x) (o (en j)) := (lead _ b'.1 b'.2.1).mpr (by
        rw [oo _ a'.1 a'.2.1]
        have := one _ a'.1 a'.2.1
        have : ¬ en j < o (en j) := fun y => a'.2.2 ((lead _ a'.1 a'.2.1).mpr y)
        omega)
      have e2 := ncl_eq_inj l1 l2 e
      exact h3 i j hi hj (by rw [← oo _ a.1 a.2.1, ← oo _ a'.1 a'.2.1, e2])
  have le2 : ncl (Cl g x) N ≤ c := by
    have hen : ∀ f, f < ncl (Cl g x) N → ∃ i, i < c ∧ ∃ k, k < N ∧ ldr (Cl g x) k ∧ ncl (Cl g x) k = f ∧ en i = o k := fun f hf => by
      obtain ⟨k, a1, a2, a3⟩ := ncl_en N f hf
      have b := hoth k a1
      have l0 := cl_on k a2
      have hlt := (lead k a1 l0).mp a2
      obtain ⟨i, hi, hie⟩ := h4 (o k) b.1 b.2.1 (fun y => by
        have := (lead _ b.1 b.2.1).mp y
        rw [oo k a1 l0] at this
        omega)
      exact ⟨i, hi, k, a1, a2, a3, hie⟩
    refine pigeon (ncl (Cl g x) N) c (fun f => @dite Nat (f < ncl (Cl g x) N) (Nat.decLt _ _) (fun hf => (hen f hf).choose) (fun _ => 0)) (fun f hf => ?_) (fun f f' hf hf' e => ?_)
    · rw [dif_pos hf]
      exact (hen f hf).choose_spec.1
    · rw [dif_pos hf, dif_pos hf'] at e
      obtain ⟨-, k, a1, a2, a3, a4⟩ := (hen f hf).choose_spec
      obtain ⟨-, k', b1, b2, b3, b4⟩ := (hen f' hf').choose_spec
      rw [e, b4] at a4
      have : k' = k := by rw [← oo k' b1 (cl_on k' b2), ← oo k a1 (cl_on k a2), a4]
      rw [← a3, ← b3, this]
  omega
