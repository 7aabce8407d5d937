/-! ORBITS, and numbers of classes -/
def itr (g : Nat → Nat) : Nat → Nat → Nat
  | 0, s => s
  | k + 1, s => itr g k (g s)
theorem itr_succ (g : Nat → Nat) : ∀ (k s : Nat), itr g (k + 1) s = g (itr g k s)
  | 0, _ => rfl
  | k + 1, s => itr_succ g k (g s)
theorem itr_add (g : Nat → Nat) : ∀ (a b s : Nat), itr g (a + b) s = itr g b (itr g a s)
  | 0, b, s => by rw [Nat.zero_add]; rfl
  | a + 1, b, s => by rw [show a + 1 + b = (a + b) + 1 by omega]; exact itr_add g a b (g s)
/-- one to one on the numbers below N -/
def PM (g : Nat → Nat) (N : Nat) : Prop := (∀ s, s < N → g s < N) ∧ (∀ s t, s < N → t < N → g s = g t → s = t)
theorem PM.lt {g : Nat → Nat} {N : Nat} (h : PM g N) : ∀ (k s : Nat), s < N → itr g k s < N
  | 0, _, hs => hs
  | k + 1, s, hs => PM.lt h k (g s) (h.1 s hs)
theorem PM.inj {g : Nat → Nat} {N : Nat} (h : PM g N) : ∀ (k s t : Nat), s < N → t < N → itr g k s = itr g k t → s = t
  | 0, _, _, _, _, e => e
  | k + 1, s, t, hs, ht, e => h.2 s t hs ht (PM.inj h k (g s) (g t) (h.1 s hs) (h.1 t ht) e)
theorem PM.back {g : Nat → Nat} {N : Nat} (h : PM g N) {s : Nat} (hs : s < N) : ∃ k, 1 ≤ k ∧ k ≤ N ∧ itr g k s = s := by
  apply Classical.byContradiction
  intro hn
  have := pigeon (N + 1) N (fun i => itr g i s) (fun i _ => h.lt i s hs) (fun i j hi hj e => by
    rcases Nat.lt_trichotomy i j with q | q | q
    · exfalso
      refine hn ⟨j - i, by omega, by omega, ?_⟩
      have e2 : itr g j s = itr g i (itr g (j - i) s) := by rw [← itr_add]; congr 1; omega
      exact (h.inj i s _ hs (h.lt _ s hs) (by rw [← e2]; exact e)).symm
    · exact q
    · exfalso
      refine hn ⟨i - j, by omega, by omega, ?_⟩
      have e2 : itr g i s = itr g j (itr g (i - j) s) := by rw [← itr_add]; congr 1; omega
      exact (h.inj j s _ hs (h.lt _ s hs) (by rw [← e2]; exact e.symm)).symm)
  omega
def perA (g : Nat → Nat) (s : Nat) : Nat → Nat → Nat
  | 0, k => k
  | f + 1, k => if itr g k s = s then k else perA g s f (k + 1)
/-- how long it takes till one comes back -/
def per (g : Nat → Nat) (N s : Nat) : Nat := perA g s N 1
theorem perA_ok {g : Nat → Nat} {s n : Nat} (hn : itr g n s = s) : ∀ (f k : Nat), k ≤ n → n < k + f → k ≤ perA g s f k ∧ perA g s f k ≤ n ∧ itr g (perA g s f k) s = s ∧ ∀ i, k ≤ i → i < perA g s f k → itr g i s ≠ s
  | 0, k, h1, h2 => by omega
  | f + 1, k, h1, h2 => by
    unfold perA
    by_cases q : itr g k s = s
    · rw [if_pos q]
      exact ⟨Nat.le_refl _, h1, q, fun i hi hi2 => by omega⟩
    · rw [if_neg q]
      have hk : k ≠ n := fun z => q (by rw [z]; exact hn)
      have := perA_ok hn f (k + 1) (by omega) (by omega)
      refine ⟨by omega, this.2.1, this.2.2.1, fun i hi hi2 => ?_⟩
      by_cases z : i = k
      · rw [z]; exact q
      · exact this.2.2.2 i (by omega) hi2
theorem per_ok {g : Nat → Nat} {N s : Nat} (h : PM g N) (hs : s < N) : 1 ≤ per g N s ∧ per g N s ≤ N ∧ itr g (per g N s) s = s ∧ ∀ i, 1 ≤ i → i < per g N s → itr g i s ≠ s := by
  obtain ⟨k, h1, h2, h3⟩ := h.back hs
  have := perA_ok h3 N 1 h1 (by omega)
  exact ⟨this.1, by unfold per; omega, this.2.2⟩
theorem per_dis {g : Nat → Nat} {N s : Nat} (h : PM g N) (hs : s < N) {i j : Nat} (hi : i < per g N s) (hj : j < per g N s) (e : itr g i s = itr g j s) : i = j := by
  have hp := per_ok h hs
  rcases Nat.lt_trichotomy i j with q | q | q
  · exfalso
    have e2 : itr g j s = itr g i (itr g (j - i) s) := by rw [← itr_add]; congr 1; omega
    exact hp.2.2.2 (j - i) (by omega) (by omega) (h.inj i s _ hs (h.lt _ s hs) (by rw [← e2]; exact e)).symm
  · exact q
  · exfalso
    have e2 : itr g i s = itr g j (itr g (i - j) s) := by rw [← itr_add]; congr 1; omega
    exact hp.2.2.2 (i - j) (by omega) (by omega) (h.inj j s _ hs (h.lt _ s hs) (by rw [← e2]; exact e.symm)).symm
/-- on one orbit -/
def On (g : Nat → Nat) (s t : Nat) : Prop := ∃ i, itr g i s = t
theorem On.refl (g : Nat → Nat) (s : Nat) : On g s s := ⟨0, rfl⟩
theorem On.trans {g : Nat → Nat} {s t u : Nat} : On g s t → On g t u → On g s u := fun ⟨i, hi⟩ ⟨j, hj⟩ => ⟨i + j, by rw [itr_add, hi, hj]⟩
theorem On.lt {g : Nat → Nat} {N s t : Nat} (h : PM g N) (hs : s < N) : On g s t → t < N := fun ⟨i, hi⟩ => by rw [← hi]; exact h.lt i s hs
theorem itr_mul {g : Nat → Nat} {s p : Nat} (h : itr g p s = s) : ∀ n, itr g (p * n) s = s
  | 0 => rfl
  | n + 1 => by rw [show p * (n + 1) = p + p * n by rw [Nat.mul_succ, Nat.add_comm], itr_add, h]; exact itr_mul h n
theorem On.symm {g : Nat → Nat} {N s t : Nat} (h : PM g N) (hs : s < N) : On g s t → On g t s := fun ⟨i, hi⟩ => by
  obtain ⟨p, h1, h2, h3⟩ := h.back hs
  refine ⟨p * i - i, ?_⟩
  have hle : i ≤ p * i := Nat.le_mul_of_pos_left i h1
  rw [← hi, ← itr_add, show i + (p * i - i) = p * i by omega]
  exact itr_mul h3 i
theorem On.pre {g : Nat → Nat} {N s t : Nat} (h : PM g N) (hs : s < N) : On g s t → ∃ i, i < per g N s ∧ itr g i s = t := fun ⟨i, hi⟩ => by
  have hp := per_ok h hs
  refine ⟨i % per g N s, Nat.mod_lt _ (by omega), ?_⟩
  rw [← hi]
  have e : i = per g N s * (i / per g N s) + i % per g N s := (Nat.div_add_mod i (per g N s)).symm
  have e2 : itr g i s = itr g (i % per g N s) (itr g (per g N s * (i / per g N s)) s) := by rw [← itr_add, ← e]
  rw [e2, itr_mul hp.2.2.1]
/-- the first of its class; how many there are below a number -/
def ldr (R : Nat → Nat → Prop) (k : Nat) : Prop := ∀ j, j < k → ¬ R j k
noncomputable def ncl (R : Nat → Nat → Prop) : Nat → Nat
  | 0 => 0
  | k + 1 => ncl R k + @ite Nat (ldr R k) (Classical.propDecidable _) 1 0
theorem ncl_ld {R : Nat → Nat → Prop} {k : Nat} (h : ldr R k) : ncl R (k + 1) = ncl R k + 1 := by
  show ncl R k + @ite Nat (ldr R k) (Classical.propDecidable _) 1 0 = _
  rw [if_pos h]
theorem ncl_no {R : Nat → Nat → Prop} {k : Nat} (h : ¬ ldr R k) : ncl R (k + 1) = ncl R k := by
  show ncl R k + @ite Nat (ldr R k) (Classical.propDecidable _) 1 0 = _
  rw [if_neg h]
  rfl
theorem ncl_mono {R : Nat → Nat → Prop} : ∀ (n k : Nat), k ≤ n → ncl R k ≤ ncl R n
  | 0, k, h => by rw [show k = 0 by omega]; exact Nat.le_refl _
  | n + 1, k, h => by
    by_cases q : k = n + 1
    · rw [q]; exact Nat.le_refl _
    · have := ncl_mono (R := R) n k (by omega)
      by_cases z : ldr R n
      · rw [ncl_ld z]; omega
      · rw [ncl_no z]; omega
theorem ncl_lt {R : Nat → Nat → Prop} {n k : Nat} (h : k < n) (hl : ldr R k) : ncl R k < ncl R n := by
  have := ncl_mono (R := R) n (k + 1) h
  rw [ncl_ld hl] at this
  omega
theorem ncl_le {R : Nat → Nat → Prop} : ∀ n, ncl R n ≤ n
  | 0 => Nat.le_refl _
  | n + 1 => by
    have := ncl_le (R := R) n
    by_cases z : ldr R n
    · rw [ncl_ld z]; omega
    · rw [ncl_no z]; omega
theorem ncl_congr {R T : Nat → Nat → Prop} : ∀ (n : Nat), (∀ j k, j < k → k < n → (R j k ↔ T j k)) → ncl R n = ncl T n
  | 0, _ => rfl
  | n + 1, h => by
    have hl : ldr R n ↔ ldr T n := ⟨fun z j hj y => z j hj ((h j n hj (by omega)).mpr y), fun z j hj y => z j hj ((h j n hj (by omega)).mp y)⟩
    have := ncl_congr n (fun j k hj hk => h j k hj (by omega))
    by_cases z : ldr R n
    · rw [ncl_ld z, ncl_ld (hl.mp z), this]
    · rw [ncl_no z, ncl_no (fun y => z (hl.mpr y)), this]
theorem ncl_eq_inj {R : Nat → Nat → Prop} {i j : Nat} (hi : ldr R i) (hj : ldr R j) (h : ncl R i = ncl R j) : i = j := by
  rcases Nat.lt_trichotomy i j with q | q | q
  · have := ncl_lt q hi; omega
  · exact q
  · have := ncl_lt q hj; omega
/-- the f-th first one -/
theorem ncl_en {R : Nat → Nat → Prop} : ∀ (n f : Nat), f < ncl R n → ∃ k, k < n ∧ ldr R k ∧ ncl R k = f
  | 0, f, h => absurd h (Nat.not_lt_zero f)
  | n + 1, f, h => by
    by_cases z : ldr R n
    · rw [ncl_ld z] at h
      by_cases q : f = ncl R n
      · exact ⟨n, by omega, z, q.symm⟩
      · obtain ⟨k, h1, h2, h3⟩ := ncl_en (R := R) n f (by omega)
        exact ⟨k, by omega, h2, h3⟩
    · rw [ncl_no z] at h
      obtain ⟨k, h1, h2, h3⟩ := ncl_en (R := R) n f h
      exact ⟨k, by omega, h2, h3⟩
/-- an equivalence on the numbers below N -/
def EqR (R : Nat → Nat → Prop) (N : Nat) : Prop := (∀ s, s < N → R s s) ∧ (∀ s t, s < N → t < N → R s t → R t s) ∧ (∀ s t u, s < N → t < N → u < N → R s t → R t u → R s u)
theorem EqR.ld {R : Nat → Nat → Prop} {N : Nat} (h : EqR R N) : ∀ (f s : Nat), s < f → s < N → ∃ l, l ≤ s ∧ ldr R l ∧ R l s
  | 0, s, h1, _ => by omega
  | f + 1, s, h1, hs => by
    by_cases q : ldr R s
    · exact ⟨s, Nat.le_refl _, q, h.1 s hs⟩
    · have : ∃ j, j < s ∧ R j s := Classical.byContradiction (fun n => q (fun j hj y => n ⟨j, hj, y⟩))
      obtain ⟨j, hj, hR⟩ := this
      obtain ⟨l, h2, h3, h4⟩ := EqR.ld h f j (by omega) (by omega)
      exact ⟨l, by omega, h3, h.2.2 l j s (by omega) (by omega) hs h4 hR⟩
theorem EqR.un {R : Nat → Nat → Prop} {N : Nat} (h : EqR R N) {a b : Nat} (ha : a < N) (hb : b < N) (la : ldr R a) (lb : ldr R b) (hR : R a b) : a = b := by
  rcases Nat.lt_trichotomy a b with q | q | q
  · exact absurd hR (lb a q)
  · exact q
  · exact absurd (h.2.1 a b ha hb hR) (la b q)
/-- as many, if they can be told apart within -/
theorem ncl_inj {R T : Nat → Nat → Prop} {N M : Nat} (f : Nat → Nat) (hf : ∀ k, k < N → ldr R k → f k < M ∧ ldr T (f k)) (hi : ∀ a b, a < N → b < N → ldr R a → ldr R b → f a = f b → a = b) : ncl R N ≤ ncl T M := by
  have hen : ∀ i, i < ncl R N → ∃ k, k < N ∧ ldr R k ∧ ncl R k = i := fun i hi => ncl_en N i hi
  refine pigeon (ncl R N) (ncl T M) (fun i => @dite Nat (i < ncl R N) (Nat.decLt _ _) (fun h => ncl T (f (hen i h).choose)) (fun _ => 0)) (fun i hi' => ?_) (fun i j hi' hj' e => ?_)
  · rw [dif_pos hi']
    have hk := (hen i hi').choose_spec
    have := hf _ hk.1 hk.2.1
    exact ncl_lt this.1 this.2
  · rw [dif_pos hi', dif_pos hj'] at e
    have hk := (hen i hi').choose_spec
    have hk2 := (hen j hj').choose_spec
    have h1 := hf _ hk.1 hk.2.1
    have h2 := hf _ hk2.1 hk2.2.1
    have h3 := hi _ _ hk.1 hk2.1 hk.2.1 hk2.2.1 (ncl_eq_inj h1.2 h2.2 e)
    have h4 := hk.2.2
    rw [h3, hk2.2.2] at h4
    exact h4.symm
/-- two classes become one -/
theorem ncl_merge {R T : Nat → Nat → Prop} {N a b : Nat} (hR : EqR R N) (ha : a < N) (hb : b < N) (hab : ¬ R a b) (hT : ∀ s t, s < N → t < N → (T s t ↔ R s t ∨ (R s a ∧ R b t) ∨ (R s b ∧ R a t))) : ncl T N + 1 = ncl R N := by
  obtain ⟨la, a1, a2, a3⟩ := hR.ld (a + 1) a (by omega) ha
  obtain ⟨lb, b1, b2, b3⟩ := hR.ld (b + 1) b (by omega) hb
  have hla : la < N := by omega
  have hlb : lb < N := by omega
  have hne : la ≠ lb := fun z => hab (hR.2.2 a la b ha hla hb (hR.2.1 la a hla ha a3) (by rw [z]; exact b3))
  -- the greater of the two firsts is no first any more
  have main : ∀ (u v : Nat), u < v → v < N → ldr R u → ldr R v → (∀ s t, s < N → t < N → (T s t ↔ R s t ∨ (R s u ∧ R v t) ∨ (R s v ∧ R u t))) → ∀ n, n ≤ N → ncl R n = ncl T n + (if v < n then 1 else 0) := by
    intro u v huv hv lu lv hT' n
    induction n with
    | zero => intro _; rfl
    | succ n ih =>
      intro hn
      have ih := ih (by omega)
      by_cases z : n = v
      · subst z
        have nt : ¬ ldr T n := fun y => y u huv ((hT' u n (by omega) (by omega)).mpr (Or.inr (Or.inl ⟨hR.1 u (by omega), hR.1 n (by omega)⟩)))
        rw [ncl_ld lv, ncl_no nt, ih, if_neg (by omega), if_pos (by omega)]
      · have hiff : ldr R n ↔ ldr T n := by
          constructor
          · intro y j hj hh
            rcases (hT' j n (by omega) (by omega)).mp hh with q | ⟨q1, q2⟩ | ⟨q1, q2⟩
            · exact y j hj q
            · rcases Nat.lt_or_ge v n with p | p
              · exact y v p q2
              · exact absurd (hR.2.1 v n hv (by omega) q2) (lv n (by omega))
            · rcases Nat.lt_or_ge u n with p | p
              · exact y u p q2
              · rcases Nat.lt_or_ge n u with p2 | p2
                · exact absurd (hR.2.1 u n (by omega) (by omega) q2) (lu n p2)
                · have : n = u := by omega
                  subst this
                  exact lv j (by omega) q1
          · intro y j hj hh
            exact y j hj ((hT' j n (by omega) (by omega)).mpr (Or.inl hh))
        by_cases q : ldr R n
        · rw [ncl_ld q, ncl_ld (hiff.mp q), ih]
          by_cases p : v < n
          · rw [if_pos p, if_pos (by omega)]
          · rw [if_neg p, if_neg (by omega)]
        · rw [ncl_no q, ncl_no (fun y => q (hiff.mpr y)), ih]
          by_cases p : v < n
          · rw [if_pos p, if_pos (by omega)]
          · rw [if_neg p, if_neg (by omega)]
  have eqa : ∀ s, s < N → (R s a ↔ R s la) := fun s hs => ⟨fun y => hR.2.2 s a la hs ha hla y (hR.2.1 la a hla ha a3), fun y => hR.2.2 s la a hs hla ha y a3⟩
  have eqa' : ∀ s, s < N → (R a s ↔ R la s) := fun s hs => ⟨fun y => hR.2.2 la a s hla ha hs a3 y, fun y => hR.2.2 a la s ha hla hs (hR.2.1 la a hla ha a3) y⟩
  have eqb : ∀ s, s < N → (R s b ↔ R s lb) := fun s hs => ⟨fun y => hR.2.2 s b lb hs hb hlb y (hR.2.1 lb b hlb hb b3), fun y => hR.2.2 s lb b hs hlb hb y b3⟩
  have eqb' : ∀ s, s < N → (R b s ↔ R lb s) := fun s hs => ⟨fun y => hR.2.2 lb b s hlb hb hs b3 y, fun y => hR.2.2 b lb s hb hlb hs (hR.2.1 lb b hlb hb b3) y⟩
  rcases Nat.lt_or_ge la lb with q | q
  · have := main la lb q hlb a2 b2 (fun s t hs ht => by rw [hT s t hs ht, eqa s hs, eqb s hs, eqa' t ht, eqb' t ht]) N (Nat.le_refl _)
    rw [if_pos hlb] at this
    omega
  · have := main lb la (by omega) hla b2 a2 (fun s t hs ht => by rw [hT s t hs ht, eqa s hs, eqb s hs, eqa' t ht, eqb' t ht]; exact ⟨fun y => y.elim Or.inl (fun y => Or.inr y.symm), fun y => y.elim Or.inl (fun y => Or.inr y.symm)⟩) N (Nat.le_refl _)
    rw [if_pos hla] at this
    omega
