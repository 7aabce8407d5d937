/-! EULER: how many orbits there can be -/
noncomputable def ccn (P : Nat → Prop) : Nat → Nat
  | 0 => 0
  | k + 1 => ccn P k + @ite Nat (P k) (Classical.propDecidable _) 1 0
theorem ccn_y {P : Nat → Prop} {k : Nat} (h : P k) : ccn P (k + 1) = ccn P k + 1 := by
  show ccn P k + @ite Nat (P k) (Classical.propDecidable _) 1 0 = _
  rw [if_pos h]
theorem ccn_n {P : Nat → Prop} {k : Nat} (h : ¬ P k) : ccn P (k + 1) = ccn P k := by
  show ccn P k + @ite Nat (P k) (Classical.propDecidable _) 1 0 = _
  rw [if_neg h]
  rfl
theorem ccn_mono {P : Nat → Prop} : ∀ (n k : Nat), k ≤ n → ccn P k ≤ ccn P n
  | 0, k, h => by rw [show k = 0 by omega]; exact Nat.le_refl _
  | n + 1, k, h => by
    by_cases q : k = n + 1
    · rw [q]; exact Nat.le_refl _
    · have := ccn_mono (P := P) n k (by omega)
      by_cases z : P n
      · rw [ccn_y z]; omega
      · rw [ccn_n z]; omega
theorem ccn_lt {P : Nat → Prop} {n k : Nat} (h : k < n) (hl : P k) : ccn P k < ccn P n := by
  have := ccn_mono (P := P) n (k + 1) h
  rw [ccn_y hl] at this
  omega
theorem ccn_eq_inj {P : Nat → Prop} {i j : Nat} (hi : P i) (hj : P j) (h : ccn P i = ccn P j) : i = j := by
  rcases Nat.lt_trichotomy i j with q | q | q
  · have := ccn_lt q hi; omega
  · exact q
  · have := ccn_lt q hj; omega
theorem ccn_en {P : Nat → Prop} : ∀ (n f : Nat), f < ccn P n → ∃ k, k < n ∧ P k ∧ ccn P k = f
  | 0, f, h => absurd h (Nat.not_lt_zero f)
  | n + 1, f, h => by
    by_cases z : P n
    · rw [ccn_y z] at h
      by_cases q : f = ccn P n
      · exact ⟨n, by omega, z, q.symm⟩
      · obtain ⟨k, h1, h2, h3⟩ := ccn_en (P := P) n f (by omega)
        exact ⟨k, by omega, h2, h3⟩
    · rw [ccn_n z] at h
      obtain ⟨k, h1, h2, h3⟩ := ccn_en (P := P) n f h
      exact ⟨k, by omega, h2, h3⟩
theorem ccn_rel {P T : Nat → Prop} {N M : Nat} (r : Nat → Nat → Prop) (h : ∀ k, k < N → P k → ∃ j, j < M ∧ T j ∧ r k j) (hr : ∀ a b j, a < N → b < N → P a → P b → j < M → T j → r a j → r b j → a = b) : ccn P N ≤ ccn T M := by
  obtain ⟨f, hf⟩ := Classical.skolem.mp (show ∀ i, ∃ t, i < ccn P N → ∃ k, k < N ∧ P k ∧ ccn P k = i ∧ ∃ j, j < M ∧ T j ∧ r k j ∧ ccn T j = t from fun i => by
    by_cases q : i < ccn P N
    · obtain ⟨k, k1, k2, k3⟩ := ccn_en N i q
      obtain ⟨j, j1, j2, j3⟩ := h k k1 k2
      exact ⟨ccn T j, fun _ => ⟨k, k1, k2, k3, j, j1, j2, j3, rfl⟩⟩
    · exact ⟨0, fun z => absurd z q⟩)
  refine pigeon _ _ f (fun i hi => ?_) (fun i i' hi hi' e => ?_)
  · obtain ⟨k, -, -, -, j, j1, j2, -, j4⟩ := hf i hi
    rw [← j4]; exact ccn_lt j1 j2
  · obtain ⟨k, k1, k2, k3, j, j1, j2, j3, j4⟩ := hf i hi
    obtain ⟨k', k1', k2', k3', j', j1', j2', j3', j4'⟩ := hf i' hi'
    have ej : j = j' := ccn_eq_inj j2 j2' (by omega)
    subst ej
    have ek := hr k k' j k1 k1' k2 k2' j1 j2 j3 j3'
    rw [← k3, ← k3', ek]
theorem ccn_imp {P T : Nat → Prop} {N : Nat} (h : ∀ k, k < N → P k → T k) : ccn P N ≤ ccn T N := ccn_rel (fun a b => a = b) (fun k hk hp => ⟨k, hk, h k hk hp, rfl⟩) (fun a b j _ _ _ _ _ _ h1 h2 => by rw [h1, h2])
theorem ccn_congr {P T : Nat → Prop} {N : Nat} (h : ∀ k, k < N → (P k ↔ T k)) : ccn P N = ccn T N := Nat.le_antisymm (ccn_imp (fun k hk => (h k hk).mp)) (ccn_imp (fun k hk => (h k hk).mpr))
theorem ccn_split {P B : Nat → Prop} : ∀ N, ccn P N = ccn (fun k => P k ∧ B k) N + ccn (fun k => P k ∧ ¬ B k) N
  | 0 => rfl
  | k + 1 => by
    have ih := ccn_split (P := P) (B := B) k
    by_cases z : P k
    · by_cases y : B k
      · rw [ccn_y z, ccn_y (P := fun k => P k ∧ B k) ⟨z, y⟩, ccn_n (P := fun k => P k ∧ ¬ B k) (fun q => q.2 y)]; omega
      · rw [ccn_y z, ccn_n (P := fun k => P k ∧ B k) (fun q => y q.2), ccn_y (P := fun k => P k ∧ ¬ B k) ⟨z, y⟩]; omega
    · rw [ccn_n z, ccn_n (P := fun k => P k ∧ B k) (fun q => z q.1), ccn_n (P := fun k => P k ∧ ¬ B k) (fun q => z q.1)]; omega
theorem ncl_ccn {R : Nat → Nat → Prop} : ∀ N, ncl R N = ccn (ldr R) N
  | 0 => rfl
  | k + 1 => by
    by_cases z : ldr R k
    · rw [ncl_ld z, ccn_y z, ncl_ccn k]
    · rw [ncl_no z, ccn_n z, ncl_ccn k]
theorem nBr_ccn (D : Dw) : ∀ n, nBr D n = ccn (fun p => dG D p = 0) n
  | 0 => rfl
  | k + 1 => by
    have ih := nBr_ccn D k
    by_cases z : dG D k = 0
    · rw [ccn_y (P := fun p => dG D p = 0) z, ← ih]
      show nBr D k + (if dG D k = 0 then 1 else 0) = _
      rw [if_pos z]
    · rw [ccn_n (P := fun p => dG D p = 0) z, ← ih]
      show nBr D k + (if dG D k = 0 then 1 else 0) = _
      rw [if_neg z]; rfl
/-- a finer relation has more classes -/
theorem ncl_fine {R T : Nat → Nat → Prop} {N : Nat} (h : ∀ a b, a < N → b < N → R a b → T a b) : ncl T N ≤ ncl R N := by
  rw [ncl_ccn, ncl_ccn]
  exact ccn_imp (fun k hk z j hj y => z j hj (h j k (by omega) hk y))
theorem On.eqR {g : Nat → Nat} {N : Nat} (h : PM g N) : EqR (On g) N := ⟨fun s _ => On.refl g s, fun s t hs _ y => y.symm h hs, fun s t u _ _ _ y z => y.trans z⟩
theorem On.step (g : Nat → Nat) (s : Nat) : On g s (g s) := ⟨1, rfl⟩
theorem On.ind {g : Nat → Nat} {N : Nat} (h : PM g N) {A : Nat → Prop} (hA : ∀ s, s < N → A s → A (g s)) {s t : Nat} (hs : s < N) (h0 : A s) : On g s t → A t := fun ⟨i, hi⟩ => by
  have key : ∀ i, A (itr g i s) := by
    intro i
    induction i with
    | zero => exact h0
    | succ i ih => rw [itr_succ]; exact hA _ (h.lt i s hs) ih
  rw [← hi]; exact key i
theorem On.congr {g h : Nat → Nat} {N : Nat} (hg : PM g N) (e : ∀ s, s < N → h s = g s) {s t : Nat} (hs : s < N) : On g s t ↔ On h s t := by
  have key : ∀ i, itr h i s = itr g i s := by
    intro i
    induction i with
    | zero => rfl
    | succ i ih => rw [itr_succ, itr_succ, ih]; exact e _ (hg.lt i s hs)
  exact ⟨fun ⟨i, hi⟩ => ⟨i, by rw [key]; exact hi⟩, fun ⟨i, hi⟩ => ⟨i, by rw [← key]; exact hi⟩⟩
/-- two goals are exchanged -/
def xg (g : Nat → Nat) (x y : Nat) : Nat → Nat := fun a => if a = x then g y else if a = y then g x else g a
theorem xg_x (g : Nat → Nat) (x y : Nat) : xg g x y x = g y := if_pos rfl
theorem xg_y {g : Nat → Nat} {x y : Nat} (h : x ≠ y) : xg g x y y = g x := by unfold xg; rw [if_neg (fun z => h z.symm), if_pos rfl]
theorem xg_o {g : Nat → Nat} {x y a : Nat} (h1 : a ≠ x) (h2 : a ≠ y) : xg g x y a = g a := by unfold xg; rw [if_neg h1, if_neg h2]
theorem xg_pm {g : Nat → Nat} {N x y : Nat} (h : PM g N) (hx : x < N) (hy : y < N) (hxy : x ≠ y) : PM (xg g x y) N := by
  have val : ∀ a, a < N → ∃ b, b < N ∧ xg g x y a = g b ∧ ((a = x ∧ b = y) ∨ (a = y ∧ b = x) ∨ (a ≠ x ∧ a ≠ y ∧ b = a)) := fun a ha => by
    by_cases z : a = x
    · exact ⟨y, hy, by rw [z, xg_x], Or.inl ⟨z, rfl⟩⟩
    · by_cases w : a = y
      · exact ⟨x, hx, by rw [w, xg_y hxy], Or.inr (Or.inl ⟨w, rfl⟩)⟩
      · exact ⟨a, ha, xg_o z w, Or.inr (Or.inr ⟨z, w, rfl⟩)⟩
  refine ⟨fun a ha => ?_, fun a b ha hb e => ?_⟩
  · obtain ⟨b, h1, h2, -⟩ := val a ha
    rw [h2]; exact h.1 b h1
  · obtain ⟨c, c1, c2, c3⟩ := val a ha
    obtain ⟨d, d1, d2, d3⟩ := val b hb
    have := h.2 c d c1 d1 (by rw [← c2, ← d2, e])
    omega
theorem xg_xg {g : Nat → Nat} {x y : Nat} (h : x ≠ y) : xg (xg g x y) x y = g := by
  funext a
  by_cases z : a = x
  · rw [z, xg_x, xg_y h]
  · by_cases w : a = y
    · rw [w, xg_y h, xg_x]
    · rw [xg_o z w, xg_o z w]
/-- two orbits become one -/
theorem xg_join {g : Nat → Nat} {N x y : Nat} (h : PM g N) (hx : x < N) (hy : y < N) (hxy : x ≠ y) (hn : ¬ On g x y) : ∀ s t, s < N → t < N → (On (xg g x y) s t ↔ On g s t ∨ (On g s x ∧ On g y t) ∨ (On g s y ∧ On g x t)) := by
  have hp := xg_pm h hx hy hxy
  have hn' : ¬ On g y x := fun z => hn (z.symm h hy)
  have pr := per_ok h hy
  have it : ∀ i, i + 1 ≤ per g N y → itr (xg g x y) (i + 1) x = itr g (i + 1) y := by
    intro i
    induction i with
    | zero => intro _; show xg g x y x = g y; exact xg_x g x y
    | succ i ih =>
      intro hi
      rw [itr_succ, ih (by omega), itr_succ g (i + 1) y]
      exact xg_o (fun z => hn' ⟨i + 1, z⟩) (pr.2.2.2 (i + 1) (by omega) (by omega))
  have xy : On (xg g x y) x y := by
    obtain ⟨j, hj⟩ : ∃ j, per g N y = j + 1 := ⟨per g N y - 1, by omega⟩
    refine ⟨j + 1, ?_⟩
    rw [it j (by omega), ← hj]
    exact pr.2.2.1
  have yx : On (xg g x y) y x := xy.symm hp hx
  have st : ∀ z, z < N → On (xg g x y) z (g z) := fun z hz => by
    by_cases a : z = x
    · rw [a]
      have := On.step (xg g x y) y
      rw [xg_y hxy] at this
      exact xy.trans this
    · by_cases b : z = y
      · rw [b]
        have := On.step (xg g x y) x
        rw [xg_x] at this
        exact yx.trans this
      · have := On.step (xg g x y) z
        rw [xg_o a b] at this
        exact this
  have up : ∀ s t, s < N → On g s t → On (xg g x y) s t := fun s t hs ho => On.ind h (A := fun t => On (xg g x y) s t) (fun u hu k => k.trans (st u hu)) hs (On.refl _ _) ho
  intro s t hs ht
  constructor
  · intro ho
    refine On.ind hp (A := fun t => On g s t ∨ (On g s x ∧ On g y t) ∨ (On g s y ∧ On g x t)) (fun u hu k => ?_) hs (Or.inl (On.refl _ _)) ho
    by_cases a : u = x
    · rw [a] at k
      show On g s (xg g x y u) ∨ (On g s x ∧ On g y (xg g x y u)) ∨ (On g s y ∧ On g x (xg g x y u))
      rw [a, xg_x]
      rcases k with k | k | k
      · exact Or.inr (Or.inl ⟨k, On.step g y⟩)
      · exact absurd k.2 hn'
      · exact Or.inl (k.1.trans (On.step g y))
    · by_cases b : u = y
      · rw [b] at k
        show On g s (xg g x y u) ∨ (On g s x ∧ On g y (xg g x y u)) ∨ (On g s y ∧ On g x (xg g x y u))
        rw [b, xg_y hxy]
        rcases k with k | k | k
        · exact Or.inr (Or.inr ⟨k, On.step g x⟩)
        · exact Or.inl (k.1.trans (On.step g x))
        · exact absurd k.2 hn
      · show On g s (xg g x y u) ∨ (On g s x ∧ On g y (xg g x y u)) ∨ (On g s y ∧ On g x (xg g x y u))
        rw [xg_o a b]
        rcases k with k | k | k
        · exact Or.inl (k.trans (On.step g u))
        · exact Or.inr (Or.inl ⟨k.1, k.2.trans (On.step g u)⟩)
        · exact Or.inr (Or.inr ⟨k.1, k.2.trans (On.step g u)⟩)
  · rintro (k | k | k)
    · exact up s t hs k
    · exact ((up s x hs k.1).trans xy).trans (up y t hy k.2)
    · exact ((up s y hs k.1).trans yx).trans (up x t hx k.2)
/-- one orbit becomes two -/
theorem xg_part {g : Nat → Nat} {N x y : Nat} (h : PM g N) (hx : x < N) (hy : y < N) (hxy : x ≠ y) (ho : On g x y) : ¬ On (xg g x y) x y := by
  have hp := xg_pm h hx hy hxy
  obtain ⟨k, k1, k2⟩ := ho.pre h hx
  have k0 : k ≠ 0 := fun z => by rw [z] at k2; exact hxy k2
  have cl : ∀ z, On (xg g x y) y z → ∃ i, 1 ≤ i ∧ i ≤ k ∧ itr g i x = z := fun z hz => by
    refine On.ind hp (A := fun z => ∃ i, 1 ≤ i ∧ i ≤ k ∧ itr g i x = z) (fun u hu ⟨i, i1, i2, i3⟩ => ?_) hy ⟨k, by omega, Nat.le_refl _, k2⟩ hz
    by_cases q : i = k
    · refine ⟨1, by omega, by omega, ?_⟩
      rw [q, k2] at i3
      rw [← i3, xg_y hxy]
      rfl
    · refine ⟨i + 1, by omega, by omega, ?_⟩
      have n1 : u ≠ x := fun z => by
        have : itr g i x = itr g 0 x := by rw [i3, z]; rfl
        have := per_dis h hx (i := i) (j := 0) (by omega) (by omega) this
        omega
      have n2 : u ≠ y := fun z => by
        have : itr g i x = itr g k x := by rw [i3, z, k2]
        have := per_dis h hx (i := i) (j := k) (by omega) (by omega) this
        omega
      rw [xg_o n1 n2, itr_succ, i3]
  intro hh
  obtain ⟨i, i1, i2, i3⟩ := cl x (hh.symm hp hx)
  have := per_dis h hx (i := i) (j := 0) (by omega) (by omega) (by rw [i3]; rfl)
  omega
theorem xg_ncl {g : Nat → Nat} {N x y : Nat} (h : PM g N) (hx : x < N) (hy : y < N) (hxy : x ≠ y) : (¬ On g x y → ncl (On (xg g x y)) N + 1 = ncl (On g) N) ∧ (On g x y → ncl (On (xg g x y)) N = ncl (On g) N + 1) := by
  refine ⟨fun hn => ncl_merge (On.eqR h) hx hy hn (xg_join h hx hy hxy hn), fun ho => ?_⟩
  have hp := xg_pm h hx hy hxy
  have hn := xg_part h hx hy hxy ho
  have := ncl_merge (On.eqR hp) hx hy hn (xg_join hp hx hy hxy hn)
  rw [xg_xg hxy] at this
  omega
/-- lines laid one by one -/
def phk (g : Nat → Nat) (k : Nat) : Nat → Nat := fun a => if a < 2 * k then g (ox a) else g a
theorem phk_succ (g : Nat → Nat) (k : Nat) : phk g (k + 1) = xg (phk g k) (2 * k) (2 * k + 1) := by
  have e1 : ox (2 * k) = 2 * k + 1 := by unfold ox; rw [if_pos (by omega)]
  have e2 : ox (2 * k + 1) = 2 * k := by unfold ox; rw [if_neg (by omega)]; omega
  funext a
  by_cases z : a = 2 * k
  · rw [z, xg_x]
    unfold phk
    rw [if_pos (by omega), if_neg (by omega), e1]
  · by_cases y : a = 2 * k + 1
    · rw [y, xg_y (by omega)]
      unfold phk
      rw [if_pos (by omega), if_neg (by omega), e2]
    · rw [xg_o z y]
      unfold phk
      by_cases q : a < 2 * k
      · rw [if_pos (by omega), if_pos q]
      · rw [if_neg (by omega), if_neg q]
theorem euler_gen {r : Nat} {g nd : Nat → Nat} {D : Dw} (hg : PM g (2 * r)) (hD : ∀ i, i < 2 * r → dE D i = nd i) (hn : ∀ a b, a < 2 * r → b < 2 * r → (On g a b ↔ nd a = nd b)) : ∀ k, k ≤ r → PM (phk g k) (2 * r) ∧ (∀ a b, a < 2 * r → b < 2 * r → On (phk g k) a b → Con D k (nd a) (nd b)) ∧ ncl (On g) (2 * r) + ncl (On (phk g k)) (2 * r) ≤ k + 2 * ncl (fun a b => Con D k (nd a) (nd b)) (2 * r) ∧ (ncl (On g) (2 * r) + ncl (On (phk g k)) (2 * r) + k) % 2 = 0 := by
  intro k
  induction k with
  | zero =>
    intro _
    have e : phk g 0 = g := by funext a; unfold phk; rw [if_neg (by omega)]
    rw [e]
    have e2 : ncl (fun a b => Con D 0 (nd a) (nd b)) (2 * r) = ncl (On g) (2 * r) := ncl_congr _ (fun j k hj hk => (hn j k (by omega) hk).symm)
    rw [e2]
    exact ⟨hg, fun a b ha hb ho => (hn a b ha hb).mp ho, by omega, by omega⟩
  | succ k ih =>
    intro hk
    obtain ⟨h1, h2, h3, h4⟩ := ih (by omega)
    have hx : 2 * k < 2 * r := by omega
    have hy : 2 * k + 1 < 2 * r := by omega
    have hxy : 2 * k ≠ 2 * k + 1 := by omega
    have X := xg_ncl h1 hx hy hxy
    have hp := xg_pm h1 hx hy hxy
    have dx := hD _ hx
    have dy := hD _ hy
    have cont : ∀ a b, a < 2 * r → b < 2 * r → On (xg (phk g k) (2 * k) (2 * k + 1)) a b → Con D (k + 1) (nd a) (nd b) := fun a b ha hb ho => by
      have lin : Con D (k + 1) (nd (2 * k)) (nd (2 * k + 1)) := by rw [← dx, ← dy]; exact Con.line D (by omega)
      refine (On.ind hp (A := fun t => t < 2 * r ∧ Con D (k + 1) (nd a) (nd t)) (fun u hu hA => ⟨hp.1 u hu, hA.2.trans ?_⟩) ha ⟨ha, Con.refl _ _ _⟩ ho).2
      by_cases z : u = 2 * k
      · rw [z, xg_x]
        exact lin.trans (Or.inl (h2 _ _ hy (h1.1 _ hy) (On.step _ _)))
      · by_cases y : u = 2 * k + 1
        · rw [y, xg_y hxy]
          exact lin.symm.trans (Or.inl (h2 _ _ hx (h1.1 _ hx) (On.step _ _)))
        · rw [xg_o z y]
          exact Or.inl (h2 _ _ hu (h1.1 _ hu) (On.step _ _))
    rw [phk_succ]
    refine ⟨hp, cont, ?_⟩
    by_cases q : Con D k (nd (2 * k)) (nd (2 * k + 1))
    · have e : ncl (fun a b => Con D (k + 1) (nd a) (nd b)) (2 * r) = ncl (fun a b => Con D k (nd a) (nd b)) (2 * r) := ncl_congr _ (fun j l _ _ => (nPt_same (by rw [dx, dy]; exact q)).2 _ _)
      rw [e]
      by_cases o : On (phk g k) (2 * k) (2 * k + 1)
      · have := X.2 o
        omega
      · have := X.1 o
        omega
    · have o : ¬ On (phk g k) (2 * k) (2 * k + 1) := fun z => q (h2 _ _ hx hy z)
      have := X.1 o
      have e : ncl (fun a b => Con D (k + 1) (nd a) (nd b)) (2 * r) + 1 = ncl (fun a b => Con D k (nd a) (nd b)) (2 * r) := ncl_merge (R := fun a b => Con D k (nd a) (nd b)) ⟨fun s _ => Con.refl D k _, fun _ _ _ _ h => h.symm, fun _ _ _ _ _ _ h g => h.trans g⟩ hx hy q (fun s t _ _ => by
        show Con D k (nd s) (nd t) ∨ (Con D k (nd s) (dE D (2 * k)) ∧ Con D k (dE D (2 * k + 1)) (nd t)) ∨ (Con D k (nd s) (dE D (2 * k + 1)) ∧ Con D k (dE D (2 * k)) (nd t)) ↔ _
        rw [dx, dy])
      omega
theorem euler_fin {r : Nat} {g nd : Nat → Nat} {D : Dw} (hg : PM g (2 * r)) (hD : ∀ i, i < 2 * r → dE D i = nd i) (hn : ∀ a b, a < 2 * r → b < 2 * r → (On g a b ↔ nd a = nd b)) : ncl (On g) (2 * r) + ncl (On (fun a => g (ox a))) (2 * r) ≤ r + 2 * ncl (fun a b => Con D r (nd a) (nd b)) (2 * r) ∧ (ncl (On g) (2 * r) + ncl (On (fun a => g (ox a))) (2 * r) + r) % 2 = 0 ∧ ncl (fun a b => Con D r (nd a) (nd b)) (2 * r) ≤ ncl (On (fun a => g (ox a))) (2 * r) := by
  obtain ⟨h1, h2, h3, h4⟩ := euler_gen hg hD hn r (Nat.le_refl _)
  have e : ncl (On (phk g r)) (2 * r) = ncl (On (fun a => g (ox a))) (2 * r) := ncl_congr _ (fun j k hj hk => On.congr h1 (fun s hs => by unfold phk; rw [if_pos hs]) (by omega))
  rw [← e]
  exact ⟨h3, h4, ncl_fine h2⟩
/-- classes of posts, and of arms -/
theorem arm_split {D : Dw} (hW : WF D) {R : Nat → Nat → Prop} (hR : EqR R (dN D)) (hb : ∀ p q, p < dN D → q < dN D → dG D p = 0 → R p q → p = q) : ncl R (dN D) = nBr D (dN D) + ncl (fun a b => R (dE D a) (dE D b)) (2 * dM D) := by
  have hen : ∀ a, a < 2 * dM D → dE D a < dN D := hW.2.2.1
  have hnb : ∀ a, a < 2 * dM D → dG D (dE D a) ≠ 0 := fun a ha => by have := (psA_ok hW ha).2.1; omega
  have hA : EqR (fun a b => R (dE D a) (dE D b)) (2 * dM D) := ⟨fun s hs => hR.1 _ (hen s hs), fun s t hs ht y => hR.2.1 _ _ (hen s hs) (hen t ht) y, fun s t u hs ht hu y z => hR.2.2 _ _ _ (hen s hs) (hen t ht) (hen u hu) y z⟩
  rw [ncl_ccn, ccn_split (B := fun p => dG D p = 0), nBr_ccn, ncl_ccn]
  have e1 : ccn (fun p => ldr R p ∧ dG D p = 0) (dN D) = ccn (fun p => dG D p = 0) (dN D) := ccn_congr (fun p hp => ⟨fun z => z.2, fun z => ⟨fun j hj y => by
    have := hb p j hp (by omega) z (hR.2.1 j p (by omega) hp y)
    omega, z⟩⟩)
  rw [e1]
  congr 1
  apply Nat.le_antisymm
  · refine ccn_rel (fun p l => R p (dE D l)) (fun p hp ⟨z1, z2⟩ => ?_) (fun p q l hp hq ⟨p1, _⟩ ⟨q1, _⟩ hl _ r1 r2 => ?_)
    · have ha := armA_ok hW hp (show 0 < dG D p by omega)
      obtain ⟨l, l1, l2, l3⟩ := hA.ld _ _ (Nat.lt_succ_self _) ha.1
      rw [ha.2.1] at l3
      exact ⟨l, by omega, l2, hR.2.1 _ _ (hen l (by omega)) hp l3⟩
    · exact hR.un hp hq p1 q1 (hR.2.2 p _ q hp (hen l hl) hq r1 (hR.2.1 q _ hq (hen l hl) r2))
  · refine ccn_rel (fun a l => R l (dE D a)) (fun a ha z => ?_) (fun a b l ha hb' a1 b1 hl _ r1 r2 => ?_)
    · obtain ⟨l, l1, l2, l3⟩ := hR.ld _ _ (Nat.lt_succ_self _) (hen a ha)
      have hl : l < dN D := by have := hen a ha; omega
      exact ⟨l, hl, ⟨l2, fun y => by
        have := hb l _ hl (hen a ha) y l3
        rw [this] at y
        exact hnb a ha y⟩, l3⟩
    · exact hA.un ha hb' a1 b1 (hR.2.2 _ l _ (hen a ha) hl (hen b hb') (hR.2.1 l _ hl (hen a ha) r1) r2)
theorem con_bare {D : Dw} (hW : WF D) {p q : Nat} (hp : dG D p = 0) (h : Con D (dM D) p q) : p = q := by
  have hno : ∀ a, a < 2 * dM D → dE D a ≠ p := fun a ha e => by
    have := (psA_ok hW ha).2.1
    rw [e, hp] at this
    omega
  have := (Con.closed (P := fun x => x = p) (fun e he => ⟨fun k => absurd k (hno _ (by omega)), fun k => absurd k (hno _ (by omega))⟩) h).mp rfl
  exact this.symm
/-- classes of arms: posts, parts -/
theorem arm_posts {D : Dw} (hW : WF D) : dN D = nBr D (dN D) + ncl (fun a b => dE D a = dE D b) (2 * dM D) := by
  have := arm_split hW (R := fun a b => a = b) ⟨fun _ _ => rfl, fun _ _ _ _ h => h.symm, fun _ _ _ _ _ _ h g => h.trans g⟩ (fun _ _ _ _ _ h => h)
  rw [ncl_eqn] at this
  exact this
theorem arm_parts {D : Dw} (hW : WF D) : nPt D (dM D) = nBr D (dN D) + ncl (fun a b => Con D (dM D) (dE D a) (dE D b)) (2 * dM D) := arm_split hW (Con.eqR D _ _) (fun _ _ _ _ h => con_bare hW h)
