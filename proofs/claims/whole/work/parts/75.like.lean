/-! LIKE: what it is to send states to states -/
def os (D : Dw) (s : Nat) : Nat := enc D (stA D s) (!stB D s)
theorem os_lt {D : Dw} {s : Nat} (h : s < 4 * dM D) : os D s < 4 * dM D := enc_lt (stA_lt h)
theorem os_os {D : Dw} {s : Nat} (h : s < 4 * dM D) : os D (os D s) = s := by
  unfold os
  rw [stA_enc (stA_lt h), stB_enc (stA_lt h), Bool.not_not, enc_st]
def pst (D : Dw) (s : Nat) : Nat := dE D (stA D s)
theorem pst_os {D : Dw} {s : Nat} (h : s < 4 * dM D) : pst D (os D s) = pst D s := by
  unfold pst os
  rw [stA_enc (stA_lt h)]
/-- on round the post -/
def ro (D : Dw) (s : Nat) : Nat := nx D (mi D (os D s))
theorem ro_enc {D : Dw} {a : Nat} {b : Bool} (ha : a < 2 * dM D) : ro D (enc D a b) = enc D (if b then ah D a else bh D a) b := by
  have hoa := ox_lt ha
  have e1 : os D (enc D a b) = enc D a (!b) := by unfold os; rw [stA_enc ha, stB_enc ha]
  have e2 : mi D (enc D a (!b)) = enc D (ox a) (!((!b) ^^ dT D (a / 2))) := by
    unfold mi cbk
    rw [stA_enc ha, stB_enc ha]
  have e3 : cbk D (enc D (ox a) (!((!b) ^^ dT D (a / 2)))) = b := by
    unfold cbk
    rw [stA_enc hoa, stB_enc hoa, ox_half]
    cases b <;> cases dT D (a / 2) <;> rfl
  unfold ro
  rw [e1, e2]
  unfold nx
  rw [e3, stA_enc hoa, ox_ox]
theorem ro_ok {D : Dw} (hW : WF D) {s : Nat} (h : s < 4 * dM D) : ro D s < 4 * dM D ∧ pst D (ro D s) = pst D s := by
  have ha := stA_lt h
  have e := ro_enc (D := D) (b := stB D s) ha
  rw [enc_st] at e
  have hb := bh_ok hW ha
  have hc := ah_ok hW ha
  rw [e]
  unfold pst
  cases stB D s
  · simp only [Bool.false_eq_true, if_false]
    exact ⟨enc_lt hb.1, by rw [stA_enc hb.1, hb.2.1]⟩
  · simp only [if_true]
    exact ⟨enc_lt hc.1, by rw [stA_enc hc.1, hc.2.1]⟩
def Clo2 (D : Dw) (A : Nat → Prop) : Prop := ∀ s, s < 4 * dM D → A s → A (os D s) ∧ A (ro D s)
def Clo3 (D : Dw) (A : Nat → Prop) : Prop := ∀ s, s < 4 * dM D → A s → A (os D s) ∧ A (nx D s) ∧ A (mi D s)
theorem Clo3.two {D : Dw} (hW : WF D) {A : Nat → Prop} (h : Clo3 D A) : Clo2 D A := fun s hs hA => by
  have hF := face_DH hW
  have h1 := (h s hs hA).1
  have h2 := (h _ (os_lt hs) h1).2.2
  exact ⟨h1, (h _ (hF.2.1 _ (os_lt hs)) h2).2.1⟩
theorem ro_all {D : Dw} (hW : WF D) {A : Nat → Prop} (h : Clo2 D A) {p i : Nat} (hp : p < dN D) (hi : i < dG D p) (hA : A (enc D (armA D p i) false)) : ∀ k, A (enc D (armA D p ((i + k) % dG D p)) false)
  | 0 => by rw [Nat.add_zero, Nat.mod_eq_of_lt hi]; exact hA
  | k + 1 => by
    have ih := ro_all hW h hp hi hA k
    have hj : (i + k) % dG D p < dG D p := Nat.mod_lt _ (by omega)
    have ha := armA_ok hW hp hj
    have h1 := (h _ (enc_lt (D := D) (b := false) ha.1) ih).2
    rw [ro_enc ha.1] at h1
    simp only [Bool.false_eq_true, if_false] at h1
    have e : bh D (armA D p ((i + k) % dG D p)) = armA D p ((i + (k + 1)) % dG D p) := by
      unfold bh rot
      rw [ha.2.1, psA_arm hW hp hj, ← rnd_mod hj (by omega), Nat.mod_add_mod]
      rfl
    rw [e] at h1
    exact h1
/-- all that stand at one post -/
theorem post_all {D : Dw} (hW : WF D) {A : Nat → Prop} (h : Clo2 D A) {s t : Nat} (hs : s < 4 * dM D) (ht : t < 4 * dM D) (e : pst D s = pst D t) (hA : A s) : A t := by
  have sa := stA_lt hs
  have ta := stA_lt ht
  have ps := psA_ok hW sa
  have pt := psA_ok hW ta
  have e' : dE D (stA D s) = dE D (stA D t) := e
  have toF : ∀ u, u < 4 * dM D → (A u ↔ A (enc D (stA D u) false)) := fun u hu => by
    cases q : stB D u
    · rw [← q, enc_st]
    · have e1 : enc D (stA D u) false = os D u := by unfold os; rw [q]; rfl
      rw [e1]
      exact ⟨fun k => (h u hu k).1, fun k => by have := (h _ (os_lt hu) k).1; rwa [os_os hu] at this⟩
  have hA1 := (toF s hs).mp hA
  have hA2 : A (enc D (armA D (dE D (stA D s)) (psA D (stA D s))) false) := by rw [armA_ps hW sa]; exact hA1
  have hA3 := ro_all hW h ps.1 ps.2.1 hA2 (psA D (stA D t) + (dG D (dE D (stA D s)) - psA D (stA D s)))
  have e2 : psA D (stA D s) + (psA D (stA D t) + (dG D (dE D (stA D s)) - psA D (stA D s))) = psA D (stA D t) + dG D (dE D (stA D s)) := by omega
  rw [e2, Nat.add_mod_right, Nat.mod_eq_of_lt (by rw [e']; exact pt.2.1), e', armA_ps hW ta] at hA3
  exact (toF t ht).mpr hA3
theorem ncl_one {R : Nat → Nat → Prop} {N : Nat} (hR : EqR R N) (h : ncl R N = 1) {p q : Nat} (hp : p < N) (hq : q < N) : R p q := by
  obtain ⟨a, a1, a2, a3⟩ := hR.ld (p + 1) p (by omega) hp
  obtain ⟨b, b1, b2, b3⟩ := hR.ld (q + 1) q (by omega) hq
  have ha := ncl_lt (R := R) (show a < N by omega) a2
  have hb := ncl_lt (R := R) (show b < N by omega) b2
  have e : a = b := ncl_eq_inj a2 b2 (by omega)
  rw [← e] at b3
  exact hR.2.2 p a q hp (by omega) hq (hR.2.1 a p (by omega) hp a3) b3
theorem reach_all {D : Dw} (hW : WF D) (hO : nPt D (dM D) = 1) {A : Nat → Prop} (h : Clo3 D A) {s : Nat} (hs : s < 4 * dM D) (hA : A s) : ∀ t, t < 4 * dM D → A t := by
  have h2 := h.two hW
  have hF := face_DH hW
  have step : ∀ a, a < 2 * dM D → (∀ u, u < 4 * dM D → pst D u = dE D a → A u) → (∀ u, u < 4 * dM D → pst D u = dE D (ox a) → A u) := fun a ha k u hu e => by
    have ea : stA D a = a := by unfold stA; rw [if_pos ha]
    have h3 := (h a (by omega) (k a (by omega) (by unfold pst; rw [ea]))).2.2
    refine post_all hW h2 (hF.2.1 a (by omega)) hu ?_ h3
    rw [e]
    unfold pst mi
    rw [stA_enc (ox_lt (stA_lt (by omega))), ea]
  have cl := fun a b => Con.closed (a := a) (b := b) (D := D) (P := fun p => ∀ u, u < 4 * dM D → pst D u = p → A u) (k := dM D) (fun e he => by
    have e1 : ox (2 * e) = 2 * e + 1 := by unfold ox; rw [if_pos (by omega)]
    have e2 : ox (2 * e + 1) = 2 * e := by unfold ox; rw [if_neg (by omega)]; omega
    constructor
    · intro k
      have := step (2 * e) (by omega) k
      rw [e1] at this
      exact this
    · intro k
      have := step (2 * e + 1) (by omega) k
      rw [e2] at this
      exact this)
  intro t ht
  have ps := hW.2.2.1 _ (stA_lt hs)
  have pt := hW.2.2.1 _ (stA_lt ht)
  exact (cl _ _ (ncl_one (Con.eqR D _ _) hO ps pt)).mp (fun u hu e => post_all hW h2 hs hu e.symm hA) t ht rfl
/-- states are sent to states, the first one there -/
def FitF (D D' : Dw) (g : Nat) (f : Nat → Nat) : Prop := f 0 = g ∧ ∀ s, s < 4 * dM D → f s < 4 * dM D ∧ f (os D s) = os D' (f s) ∧ f (nx D s) = nx D' (f s) ∧ f (mi D s) = mi D' (f s)
def Fit (D D' : Dw) (g : Nat) : Prop := ∃ f, FitF D D' g f
theorem surj_inj {f : Nat → Nat} {N : Nat} (h : ∀ t, t < N → ∃ s, s < N ∧ f s = t) : ∀ s t, s < N → t < N → f s = f t → s = t := by
  obtain ⟨r, hr⟩ := Classical.skolem.mp (show ∀ t, ∃ s, t < N → (s < N ∧ f s = t) from fun t => by
    by_cases q : t < N
    · obtain ⟨s, hs⟩ := h t q
      exact ⟨s, fun _ => hs⟩
    · exact ⟨0, fun z => absurd z q⟩)
  have hp : PM r N := ⟨fun s hs => (hr s hs).1, fun s t hs ht e => by rw [← (hr s hs).2, ← (hr t ht).2, e]⟩
  have hb : ∀ s, s < N → r (f s) = s := fun s hs => by
    obtain ⟨k, k1, k2, k3⟩ := hp.back hs
    obtain ⟨j, rfl⟩ : ∃ j, k = j + 1 := ⟨k - 1, by omega⟩
    rw [itr_succ] at k3
    have hj := hp.lt j s hs
    have e := (hr _ hj).2
    rw [k3] at e
    rw [e, k3]
  intro s t hs ht e
  rw [← hb s hs, ← hb t ht, e]
theorem fit_sur {D D' : Dw} (hW : WF D) (hW' : WF D') (hm : dM D = dM D') (h0 : 0 < dM D) (hO' : nPt D' (dM D') = 1) {g : Nat} {f : Nat → Nat} (hf : FitF D D' g f) : ∀ t, t < 4 * dM D → ∃ s, s < 4 * dM D ∧ f s = t := by
  have hF := face_DH hW
  have h1 := (hf.2 0 (by omega)).1
  have := reach_all hW' hO' (A := fun t => ∃ s, s < 4 * dM D ∧ f s = t) (s := f 0) (fun t ht ⟨s, hs, e⟩ => by
    have h2 := hf.2 s hs
    rw [e] at h2
    exact ⟨⟨os D s, os_lt hs, h2.2.1⟩, ⟨nx D s, hF.1 s hs, h2.2.2.1⟩, ⟨mi D s, hF.2.1 s hs, h2.2.2.2⟩⟩) (by rw [← hm]; exact h1) ⟨0, by omega, rfl⟩
  intro t ht
  exact this t (by rw [← hm]; exact ht)
theorem has_arm {D : Dw} (hW : WF D) (h0 : 0 < dM D) (hO : nPt D (dM D) = 1) {p : Nat} (hp : p < dN D) : ∃ a, a < 2 * dM D ∧ dE D a = p := by
  apply Classical.byContradiction
  intro hn
  have hno : ∀ a, a < 2 * dM D → dE D a ≠ p := fun a ha e => hn ⟨a, ha, e⟩
  have cl := fun a b => Con.closed (a := a) (b := b) (D := D) (P := fun q => q = p) (k := dM D) (fun e he => ⟨fun k => absurd k (hno _ (by omega)), fun k => absurd k (hno _ (by omega))⟩)
  have h1 := hW.2.2.1 0 (by omega)
  exact hno 0 (by omega) ((cl _ _ (ncl_one (Con.eqR D _ _) hO hp h1)).mp rfl)
theorem fit_ro {D D' : Dw} (hW : WF D) {g : Nat} {f : Nat → Nat} (hf : FitF D D' g f) {s : Nat} (hs : s < 4 * dM D) : f (ro D s) = ro D' (f s) := by
  have hF := face_DH hW
  have h1 := hf.2 s hs
  have h2 := hf.2 _ (os_lt hs)
  have h3 := hf.2 _ (hF.2.1 _ (os_lt hs))
  unfold ro
  rw [h3.2.2.1, h2.2.2.2, h1.2.1]
/-- posts are sent to posts, one to one -/
theorem fit_posts {D D' : Dw} (hW : WF D) (hW' : WF D') (hm : dM D = dM D') (h0 : 0 < dM D) (hO : nPt D (dM D) = 1) (hO' : nPt D' (dM D') = 1) {g : Nat} {f : Nat → Nat} (hf : FitF D D' g f) : dN D = dN D' := by
  have sur := fit_sur hW hW' hm h0 hO' hf
  have inj := surj_inj sur
  have lt : ∀ s, s < 4 * dM D → f s < 4 * dM D' := fun s hs => by rw [← hm]; exact (hf.2 s hs).1
  have A1 : ∀ s t, s < 4 * dM D → t < 4 * dM D → pst D s = pst D t → pst D' (f s) = pst D' (f t) := fun s t hs ht e =>
    post_all hW (A := fun u => pst D' (f s) = pst D' (f u)) (fun u hu k => by
      have h1 := hf.2 u hu
      refine ⟨?_, ?_⟩
      · show _ = pst D' (f (os D u))
        rw [h1.2.1, pst_os (lt u hu)]; exact k
      · show _ = pst D' (f (ro D u))
        rw [fit_ro hW hf hu, (ro_ok hW' (lt u hu)).2]; exact k) hs ht e rfl
  have A2 : ∀ s t, s < 4 * dM D → t < 4 * dM D → pst D' (f s) = pst D' (f t) → pst D s = pst D t := fun s t hs ht e =>
    post_all hW' (A := fun v => ∀ u, u < 4 * dM D → f u = v → pst D s = pst D u) (fun v hv k => by
      refine ⟨fun u hu eu => ?_, fun u hu eu => ?_⟩
      · have h1 := (hf.2 u hu).2.1
        rw [eu, os_os hv] at h1
        have := k _ (os_lt hu) h1
        rw [pst_os hu] at this
        exact this
      · obtain ⟨u0, hu0, e0⟩ := sur v (by rw [hm]; exact hv)
        have h1 := fit_ro hW hf hu0
        rw [e0, ← eu] at h1
        have h2 := ro_ok hW hu0
        have h3 := inj _ _ h2.1 hu h1
        rw [← h3, h2.2]
        exact k u0 hu0 e0) (lt s hs) (lt t ht) e (fun u hu eu => by rw [inj u s hu hs eu]) t ht rfl
  have stA0 : ∀ a, a < 2 * dM D → stA D a = a := fun a ha => by unfold stA; rw [if_pos ha]
  have stA0' : ∀ a, a < 2 * dM D' → stA D' a = a := fun a ha => by unfold stA; rw [if_pos ha]
  obtain ⟨c, hc⟩ := Classical.skolem.mp (show ∀ p, ∃ a, p < dN D → (a < 2 * dM D ∧ dE D a = p) from fun p => by
    by_cases q : p < dN D
    · obtain ⟨a, ha⟩ := has_arm hW h0 hO q
      exact ⟨a, fun _ => ha⟩
    · exact ⟨0, fun z => absurd z q⟩)
  obtain ⟨c', hc'⟩ := Classical.skolem.mp (show ∀ p, ∃ s, p < dN D' → (s < 4 * dM D ∧ pst D' (f s) = p) from fun p => by
    by_cases q : p < dN D'
    · obtain ⟨a, ha, e⟩ := has_arm hW' (by omega) hO' q
      obtain ⟨s, hs, es⟩ := sur a (by omega)
      refine ⟨s, fun _ => ⟨hs, ?_⟩⟩
      rw [es]
      unfold pst
      rw [stA0' a ha]; exact e
    · exact ⟨0, fun z => absurd z q⟩)
  have p1 : dN D ≤ dN D' := pigeon _ _ (fun p => pst D' (f (c p))) (fun p hp => by
    have h1 := hc p hp
    exact hW'.2.2.1 _ (stA_lt (lt _ (by omega)))) (fun p q hp hq e => by
    have h1 := hc p hp
    have h2 := hc q hq
    have h3 := A2 _ _ (show c p < 4 * dM D by omega) (show c q < 4 * dM D by omega) e
    unfold pst at h3
    rw [stA0 _ h1.1, stA0 _ h2.1, h1.2, h2.2] at h3
    exact h3)
  have p2 : dN D' ≤ dN D := pigeon _ _ (fun p => pst D (c' p)) (fun p hp => by
    have h1 := hc' p hp
    exact hW.2.2.1 _ (stA_lt h1.1)) (fun p q hp hq e => by
    have h1 := hc' p hp
    have h2 := hc' q hq
    have h3 := A1 _ _ h1.1 h2.1 e
    rw [h1.2, h2.2] at h3
    exact h3)
  omega
/-- in how many ways -/
noncomputable def nFit (D D' : Dw) : Nat → Nat
  | 0 => 0
  | k + 1 => nFit D D' k + @ite Nat (Fit D D' k) (Classical.propDecidable _) 1 0
theorem nFit_y {D D' : Dw} {k : Nat} (h : Fit D D' k) : nFit D D' (k + 1) = nFit D D' k + 1 := by
  show nFit D D' k + @ite Nat (Fit D D' k) (Classical.propDecidable _) 1 0 = _
  rw [if_pos h]
theorem nFit_n {D D' : Dw} {k : Nat} (h : ¬ Fit D D' k) : nFit D D' (k + 1) = nFit D D' k := by
  show nFit D D' k + @ite Nat (Fit D D' k) (Classical.propDecidable _) 1 0 = _
  rw [if_neg h]
  rfl
theorem nFit_le {D D' : Dw} : ∀ k, nFit D D' k ≤ k
  | 0 => Nat.le_refl _
  | k + 1 => by
    have := nFit_le (D := D) (D' := D') k
    by_cases q : Fit D D' k
    · rw [nFit_y q]; omega
    · rw [nFit_n q]; omega
theorem nFit_zero {D D' : Dw} (h : ∀ k, ¬ Fit D D' k) : ∀ k, nFit D D' k = 0
  | 0 => rfl
  | k + 1 => by rw [nFit_n (h k), nFit_zero h k]
def Whl (D : Dw) : Prop := 0 < dM D ∧ nPt D (dM D) = 1
noncomputable def likA (D D' : Dw) : Int := @ite Int (Whl D ∧ Whl D') (Classical.propDecidable _) (if dM D = dM D' then (nFit D D' (4 * dM D) : Int) else 0) (-2)
/-- how far one has come: states sent, in their order, and where to -/
def Snd (N : Nat) (q p : Nat → Nat) (n : Nat) : Prop := (∀ i, i < n → q i < N ∧ p (q i) < N) ∧ ∀ i j, i < n → j < n → q i = q j → i = j
theorem Snd.le {N : Nat} {q p : Nat → Nat} {n : Nat} (h : Snd N q p n) : n ≤ N := pigeon n N q (fun i hi => (h.1 i hi).1) h.2
def Has (q p : Nat → Nat) (n a b : Nat) : Prop := ∃ j, j < n ∧ q j = a ∧ p a = b
/-- the first k ones have all their neighbours sent -/
def Cls (D D' : Dw) (q p : Nat → Nat) (n k : Nat) : Prop := ∀ i, i < k → Has q p n (os D (q i)) (os D' (p (q i))) ∧ Has q p n (nx D (q i)) (nx D' (p (q i))) ∧ Has q p n (mi D (q i)) (mi D' (p (q i)))
/-- one more, perhaps -/
def Xt (q p : Nat → Nat) (n : Nat) (q' p' : Nat → Nat) (n' : Nat) (s t : Nat) : Prop := n ≤ n' ∧ (∀ i, i < n → q' i = q i ∧ p' (q i) = p (q i)) ∧ Has q' p' n' s t ∧ (∀ j, j < n' → j < n ∨ (q' j = s ∧ p' s = t))
theorem Xt.has {q p q' p' : Nat → Nat} {n n' s t a b : Nat} (h : Xt q p n q' p' n' s t) : Has q p n a b → Has q' p' n' a b := fun ⟨j, h1, h2, h3⟩ => by
  have h4 := h.2.1 j h1
  refine ⟨j, by have := h.1; omega, by rw [h4.1]; exact h2, ?_⟩
  rw [h2] at h4
  rw [h4.2]; exact h3
theorem Xt.cls {D D' : Dw} {q p q' p' : Nat → Nat} {n n' s t k : Nat} (h : Xt q p n q' p' n' s t) (hk : k ≤ n) (hc : Cls D D' q p n k) : Cls D D' q' p' n' k := fun i hi => by
  obtain ⟨a, b, c⟩ := hc i hi
  have ei := h.2.1 i (by omega)
  rw [ei.1, ei.2]
  exact ⟨h.has a, h.has b, h.has c⟩
theorem Xt.ag {q p q' p' : Nat → Nat} {n n' s t : Nat} (h : Xt q p n q' p' n' s t) {f : Nat → Nat} (hf : ∀ i, i < n → f (q i) = p (q i)) (hs : f s = t) : ∀ i, i < n' → f (q' i) = p' (q' i) := fun i hi => by
  rcases h.2.2.2 i hi with z | ⟨z1, z2⟩
  · rw [(h.2.1 i z).1, (h.2.1 i z).2]; exact hf i z
  · rw [z1, z2]; exact hs
/-- all is sent, and nothing is wrong -/
theorem Cls.fit {D D' : Dw} (hW : WF D) (h0 : 0 < dM D) (hO : nPt D (dM D) = 1) {q p : Nat → Nat} {n g : Nat} (hn : 0 < n) (hq0 : q 0 = 0) (hg : p 0 = g) (hS : Snd (4 * dM D) q p n) (hc : Cls D D' q p n n) : Fit D D' g := by
  have all := reach_all hW hO (A := fun s => ∃ i, i < n ∧ q i = s) (fun s hs ⟨i, hi, e⟩ => by
    obtain ⟨⟨j1, b1, c1, -⟩, ⟨j2, b2, c2, -⟩, ⟨j3, b3, c3, -⟩⟩ := hc i hi
    rw [e] at c1 c2 c3
    exact ⟨⟨j1, b1, c1⟩, ⟨j2, b2, c2⟩, ⟨j3, b3, c3⟩⟩) (s := 0) (by omega) ⟨0, hn, hq0⟩
  refine ⟨p, hg, fun s hs => ?_⟩
  obtain ⟨i, hi, e⟩ := all s hs
  obtain ⟨⟨j1, b1, c1, d1⟩, ⟨j2, b2, c2, d2⟩, ⟨j3, b3, c3, d3⟩⟩ := hc i hi
  have h1 := (hS.1 i hi).2
  rw [e] at d1 d2 d3 h1
  exact ⟨h1, d1, d2, d3⟩
/-- what stands when one has come so far, with nothing wrong -/
def LI (D D' : Dw) (g : Nat) (q p : Nat → Nat) (n : Nat) : Prop := Snd (4 * dM D) q p n ∧ q 0 = 0 ∧ p 0 = g ∧ 0 < n ∧ ∀ f, FitF D D' g f → ∀ i, i < n → f (q i) = p (q i)
theorem LI.xt {D D' : Dw} {g : Nat} {q p q' p' : Nat → Nat} {n n' s t a b : Nat} (h : LI D D' g q p n) (hS : Snd (4 * dM D) q' p' n') (hx : Xt q p n q' p' n' a b) (hst : Has q p n s t) (hf : ∀ f, FitF D D' g f → f s = t → f a = b) : LI D D' g q' p' n' := by
  obtain ⟨h1, h2, h3, h4, h5⟩ := h
  have hx' := hx
  obtain ⟨x1, x2, -, -⟩ := hx
  have x0 := x2 0 h4
  rw [h2] at x0
  refine ⟨hS, x0.1, by rw [x0.2]; exact h3, by omega, fun f hF => hx'.ag (h5 f hF) (hf f hF ?_)⟩
  obtain ⟨j, j1, j2, j3⟩ := hst
  have := h5 f hF j j1
  rw [j2, j3] at this
  exact this
theorem LI.nof {D D' : Dw} {g : Nat} {q p : Nat → Nat} {n s t a b : Nat} (h : LI D D' g q p n) (hst : Has q p n s t) (hf : ∀ f, FitF D D' g f → f s = t → f a = b) (hn : ∃ i, i < n ∧ q i = a ∧ p a ≠ b) : ¬ Fit D D' g := fun ⟨f, hF⟩ => by
  obtain ⟨j, j1, j2, j3⟩ := hst
  obtain ⟨i, i1, i2, i3⟩ := hn
  have e1 := h.2.2.2.2 f hF j j1
  rw [j2, j3] at e1
  have e2 := h.2.2.2.2 f hF i i1
  rw [i2, hf f hF e1] at e2
  exact i3 e2.symm
theorem fit_op {D D' : Dw} {g s t : Nat} (hs : s < 4 * dM D) : (∀ f, FitF D D' g f → f s = t → f (os D s) = os D' t) ∧ (∀ f, FitF D D' g f → f s = t → f (nx D s) = nx D' t) ∧ (∀ f, FitF D D' g f → f s = t → f (mi D s) = mi D' t) := by
  refine ⟨fun f hF e => ?_, fun f hF e => ?_, fun f hF e => ?_⟩
  · rw [(hF.2 s hs).2.1, e]
  · rw [(hF.2 s hs).2.2.1, e]
  · rw [(hF.2 s hs).2.2.2, e]
theorem Cls.more {D D' : Dw} {q p : Nat → Nat} {n k : Nat} (h : Cls D D' q p n k) (s t : Nat) (hs : q k = s) (ht : p s = t) (h1 : Has q p n (os D s) (os D' t)) (h2 : Has q p n (nx D s) (nx D' t)) (h3 : Has q p n (mi D s) (mi D' t)) : Cls D D' q p n (k + 1) := fun i hi => by
  by_cases z : i = k
  · rw [z, hs, ht]; exact ⟨h1, h2, h3⟩
  · exact h i (by omega)
theorem os_val {D : Dw} {s : Nat} (hs : s < 4 * dM D) : (2 * dM D ≤ s → os D s = s - 2 * dM D) ∧ (s < 2 * dM D → os D s = 2 * dM D + s) := by
  unfold os enc stA stB
  refine ⟨fun z => ?_, fun z => ?_⟩
  · rw [decide_eq_true z, if_neg (by decide), if_neg (by omega)]
  · rw [decide_eq_false (by omega), if_pos (by decide), if_pos z]
