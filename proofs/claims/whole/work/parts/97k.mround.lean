/-! TEXTS: the model's rounds -/
def d1 (T : Tx) : Dw := (0, nL T, (fun i => (enA T i + 1).toNat), (fun _ => false), (fun _ => 0), (fun _ _ => 0))
def dg1 (T : Tx) (p : Nat) : Nat := dgc (d1 T) (p + 1)
def rw1 (T : Tx) : Nat → Nat → Nat → Nat
  | 0 => fun v => srt (d1 T) (v + 1)
  | t + 1 => fun v i => if xK T t = 3 ∧ nam T (xA T (t + 1)) = (v : Int) then xI T (t + 2 + i) else rw1 T t v i
def HdM (w : Wd) (T : Tx) : Prop := w 65 21 = (nL T : Int) ∧ w 74 0 = (nP T : Int) ∧ w 74 1 = (nL T : Int) ∧ (∀ i, i < 2 * nL T → w 74 (2 + i) = enA T i) ∧ (∀ e, e < nL T → w 74 (22 + e) = if xK T (lT T e + 3) = 4 then 1 else 0) ∧ ∀ p, p < nP T → w 74 (32 + p) = (dg1 T p : Int)
def RwM (w : Wd) (T : Tx) (t : Nat) : Prop := ∀ p i, p < nP T → i < dg1 T p → w 74 (38 + 10 * p + i) = (rw1 T t p i : Int)
section MROUND
variable {w : Wd} {T : Tx} {nv ql : Nat → Nat} {t : Nat} {Q : Wd → Prop} {S : Nat → Nat → Prop}
theorem enA_ge (i : Nat) : -1 ≤ enA T i := by
  unfold enA
  rcases nam_ok (T := T) (xA T (lT T (i / 2) + 1 + i % 2)) with e | ⟨v, e1, e2, -⟩
  · omega
  · omega
theorem onL_d1 {v e : Nat} : onL T v e ↔ pl (d1 T) (v + 1) e = true := by
  have a := enA_ge (T := T) (2 * e)
  have b := enA_ge (T := T) (2 * e + 1)
  show onL T v e ↔ (decide (e < nL T) && (decide ((enA T (2 * e) + 1).toNat = v + 1) || decide ((enA T (2 * e + 1) + 1).toNat = v + 1))) = true
  unfold onL
  rw [Bool.and_eq_true, Bool.or_eq_true, decide_eq_true_iff, decide_eq_true_iff, decide_eq_true_iff]
  constructor
  · rintro ⟨h1, h2⟩; exact ⟨h1, by omega⟩
  · rintro ⟨h1, h2⟩; exact ⟨h1, by omega⟩
/-- one post's lines in order -/
theorem mdeg_one {e228 : Int → Wd → Prop} {x : Int} (p : Nat) (hx : x = (p : Int)) (hp : p < nP T) (p6 : nP T ≤ 6) (l10 : nL T ≤ 10) (h21 : w 65 21 = (nL T : Int)) (hE : ∀ i, i < 2 * nL T → w 74 (2 + i) = enA T i) (h0 : w 74 (32 + p) = 0) (hK : ∀ u, u 74 (32 + p) = (dg1 T p : Int) → (∀ i, i < dg1 T p → u 74 (38 + 10 * p + i) = (srt (d1 T) (p + 1) i : Int)) → (∀ c j, ¬ (c = 74 ∧ (j = 32 + p ∨ 38 + 10 * p ≤ j ∧ j < 48 + 10 * p)) → u c j = w c j) → e228 x u) : ∃ m, X11_means_l175 Q e228 m x 0 w := by
  subst hx
  obtain ⟨g, hg⟩ : ∃ g : Nat → Bool, g = pl (d1 T) (p + 1) := ⟨_, rfl⟩
  have gi : ∀ e, g e = true ↔ onL T p e := fun e => by rw [hg]; exact onL_d1.symm
  have ge : ∀ i, nL T ≤ i → g i = false := fun i hi => by
    cases q : g i
    · rfl
    · have := ((gi i).mp q).1; omega
  have c10 : cnt g 10 = cnt g (nL T) := cnt_ext 10 l10 (fun i a _ => ge i a)
  have ed : dg1 T p = cnt g 10 := by rw [hg]; rfl
  have er : ∀ i, srt (d1 T) (p + 1) i = nth g 10 i := fun i => by rw [hg]; rfl
  have loop : ∀ (m e : Nat) (u : Wd), e ≤ nL T → nL T - e < m → u 74 (32 + p) = (cnt g e : Int) → (∀ i, i < cnt g e → u 74 (38 + 10 * p + i) = (nth g 10 i : Int)) → (∀ c j, ¬ (c = 74 ∧ (j = 32 + p ∨ 38 + 10 * p ≤ j ∧ j < 48 + 10 * p)) → u c j = w c j) → X11_means_l175 Q e228 m (p : Int) (e : Int) u := by
    intro m
    induction m with
    | zero => intro e u _ q; omega
    | succ m ih =>
      intro e u he hm hd hr ho
      unfold X11_means_l175
      rw [ho 65 21 (by omega), h21, wr_nat (n := nL T) (by omega), wr_nat (n := e) (by omega)]
      refine ⟨fun z => ?_, fun z => ?_⟩
      · have z : e = nL T := by omega
        rw [z, ← c10, ← ed] at hd
        rw [z, ← c10, ← ed] at hr
        exact hK u hd (fun i hi => by rw [er]; exact hr i hi) ho
      · have ce := cnt_le (f := g) e
        have b0 := enA_bd T p6 (2 * e)
        have b1 := enA_bd T p6 (2 * e + 1)
        have add : g e = true → X11_means_b213 Q (X11_means_l175 Q e228 m) e228 (p : Int) (e : Int) u := fun ge => by
          unfold X11_means_b213
          refine X11_adds_ok p (cnt g e) (e : Int) rfl rfl (by omega) (by omega) hd (fun w' hw' => ?_)
          rw [show (e : Int) + 1 = ((e + 1 : Nat) : Int) by omega]
          refine ih (e + 1) w' (by omega) (by omega) (by rw [hw', if_pos ⟨rfl, rfl⟩, cnt_y ge]) (fun i hi => ?_) (fun c j hc => by rw [hw', if_neg (by omega), if_neg (by omega)]; exact ho c j hc)
          rw [cnt_y ge] at hi
          rw [hw', if_neg (by omega)]
          by_cases y : i = cnt g e
          · rw [if_pos ⟨rfl, by omega⟩, y, nth_uq (f := g) (m := 10) (e := e) (by omega) ge rfl]
          · rw [if_neg (by omega)]; exact hr i (by omega)
        rw [show (2 : Int) + 2 * (e : Int) = ((2 + 2 * e : Nat) : Int) by omega, show ((2 + 2 * e : Nat) : Int) + 1 = ((2 + (2 * e + 1) : Nat) : Int) by omega, rd_of rfl (by omega), rd_of rfl (by omega), ho 74 (2 + 2 * e) (by omega), ho 74 (2 + (2 * e + 1)) (by omega), hE _ (by omega), hE _ (by omega), wr_nat (n := p) (by omega), wr_id (x := enA T (2 * e)) (by omega) (by omega), wr_id (x := enA T (2 * e + 1)) (by omega) (by omega)]
        refine ⟨ix_of rfl (by omega) (by decide), fun y => add ((gi e).mpr ⟨by omega, Or.inl y⟩), fun y => ⟨ix_of rfl (by omega) (by decide), fun y' => add ((gi e).mpr ⟨by omega, Or.inr y'⟩), fun y' => ?_⟩⟩
        have gf : g e = false := by
          cases q : g e
          · rfl
          · have := ((gi e).mp q).2; omega
        rw [show (e : Int) + 1 = ((e + 1 : Nat) : Int) by omega]
        exact ih (e + 1) u (by omega) (by omega) (by rw [cnt_n gf]; exact hd) (by rw [cnt_n gf]; exact hr) ho
  exact ⟨nL T + 1, loop (nL T + 1) 0 w (by omega) (by omega) (by rw [h0]; rfl) (fun i hi => absurd hi (Nat.not_lt_zero i)) (fun _ _ _ => rfl)⟩
theorem mdeg_ok {e234 : Wd → Prop} (p6 : nP T ≤ 6) (l10 : nL T ≤ 10) (h20 : w 65 20 = (nP T : Int)) (h21 : w 65 21 = (nL T : Int)) (hE : ∀ i, i < 2 * nL T → w 74 (2 + i) = enA T i) (h0 : ∀ p, p < nP T → w 74 (32 + p) = 0) (hK : ∀ u, (∀ p, p < nP T → u 74 (32 + p) = (dg1 T p : Int)) → RwM u T 0 → (∀ c j, ¬ (c = 74 ∧ 32 ≤ j) → u c j = w c j) → e234 u) : ∃ m, X11_means_l165 Q e234 m 0 w := by
  have d10 : ∀ p, dg1 T p ≤ 10 := fun p => dgc_le _ _
  have loop : ∀ (m p : Nat) (u : Wd), p ≤ nP T → nP T - p < m → (∀ q, q < p → u 74 (32 + q) = (dg1 T q : Int)) → (∀ q i, q < p → i < dg1 T q → u 74 (38 + 10 * q + i) = (srt (d1 T) (q + 1) i : Int)) → (∀ q, p ≤ q → q < nP T → u 74 (32 + q) = 0) → (∀ c j, ¬ (c = 74 ∧ 32 ≤ j) → u c j = w c j) → X11_means_l165 Q e234 m (p : Int) u := by
    intro m
    induction m with
    | zero => intro p u _ q; omega
    | succ m ih =>
      intro p u hp hm hd hr hz ho
      unfold X11_means_l165
      rw [ho 65 20 (by omega), h20, wr_nat (n := nP T) (by omega), wr_nat (n := p) (by omega)]
      refine ⟨fun z => ?_, fun z => mdeg_one p rfl (by omega) p6 l10 (by rw [ho _ _ (by omega)]; exact h21) (fun i hi => by rw [ho _ _ (by omega)]; exact hE i hi) (hz p (by omega) (by omega)) (fun u' d' r' o' => ?_)⟩
      · exact hK u (fun q hq => hd q (by omega)) (fun q i hq hi => hr q i (by omega) hi) ho
      · unfold X11_means_b228
        rw [show (p : Int) + 1 = ((p + 1 : Nat) : Int) by omega]
        refine ih (p + 1) u' (by omega) (by omega) (fun q hq => ?_) (fun q i hq hi => ?_) (fun q hq hq' => ?_) (fun c j hc => by rw [o' c j (by omega)]; exact ho c j hc)
        · by_cases y : q = p
          · rw [y]; exact d'
          · rw [o' _ _ (by omega)]; exact hd q (by omega)
        · by_cases y : q = p
          · rw [y] at hi ⊢; exact r' i hi
          · have := d10 q
            rw [o' _ _ (by omega)]; exact hr q i (by omega) hi
        · rw [o' _ _ (by omega)]; exact hz q (by omega) hq'
  exact ⟨nP T + 1, loop (nP T + 1) 0 w (by omega) (by omega) (fun q hq => absurd hq (Nat.not_lt_zero q)) (fun q i hq => absurd hq (Nat.not_lt_zero q)) (fun q _ hq => h0 q hq) (fun _ _ _ => rfl)⟩
/-- no bad number: enough of them, or one lacks -/
theorem miss {v : Nat} (l10 : nL T ≤ 10) (hg : ∀ i, i < rln T t → ¬ Bad T t v i) : (dg1 T v ≤ rln T t ↔ ¬ ∃ e, onL T v e ∧ ∀ i, i < rln T t → xI T (t + 2 + i) ≠ e) := by
  have g : ∀ i, i < rln T t → onL T v (xI T (t + 2 + i)) ∧ ∀ i', i' < i → xI T (t + 2 + i') ≠ xI T (t + 2 + i) := fun i hi => Classical.not_not.mp (hg i hi)
  have inj : ∀ i j, i < rln T t → j < rln T t → xI T (t + 2 + i) = xI T (t + 2 + j) → i = j := fun i j hi hj e => by
    have a : ¬ i < j := fun k => (g j hj).2 i k e
    have b : ¬ j < i := fun k => (g i hi).2 j k e.symm
    omega
  constructor
  · rintro h ⟨e, h1, h2⟩
    have : rln T t + 1 ≤ dg1 T v := by
      refine pigeon _ _ (fun i => cnt (pl (d1 T) (v + 1)) (if i < rln T t then xI T (t + 2 + i) else e)) (fun i hi => ?_) (fun i j hi hj q => ?_)
      · by_cases z : i < rln T t
        · show cnt _ (if i < rln T t then xI T (t + 2 + i) else e) < _
          rw [if_pos z]
          have := (g i z).1.1
          exact cnt_lt_of (by omega) (onL_d1.mp (g i z).1)
        · show cnt _ (if i < rln T t then xI T (t + 2 + i) else e) < _
          rw [if_neg z]
          have := h1.1
          exact cnt_lt_of (by omega) (onL_d1.mp h1)
      · have q : cnt (pl (d1 T) (v + 1)) (if i < rln T t then xI T (t + 2 + i) else e) = cnt (pl (d1 T) (v + 1)) (if j < rln T t then xI T (t + 2 + j) else e) := q
        by_cases z : i < rln T t
        · by_cases y : j < rln T t
          · rw [if_pos z, if_pos y] at q
            exact inj i j z y (cnt_uq (onL_d1.mp (g i z).1) (onL_d1.mp (g j y).1) q)
          · rw [if_pos z, if_neg y] at q
            exact absurd (cnt_uq (onL_d1.mp (g i z).1) (onL_d1.mp h1) q) (h2 i z)
        · by_cases y : j < rln T t
          · rw [if_neg z, if_pos y] at q
            exact absurd (cnt_uq (onL_d1.mp (g j y).1) (onL_d1.mp h1) q.symm) (h2 j y)
          · omega
    omega
  · intro h
    have : RwK (d1 T) (v + 1) (rln T t) (fun i => xI T (t + 2 + i)) := by
      refine ⟨fun i hi => onL_d1.mp (g i hi).1, fun i j hi hj e => inj i j hi hj e, fun e he => ?_⟩
      by_cases z : ∃ i, i < rln T t ∧ xI T (t + 2 + i) = e
      · exact z
      · exact absurd ⟨e, onL_d1.mpr he, fun i hi k => z ⟨i, hi, k⟩⟩ h
    have := this.len (D := d1 T) l10
    unfold dg1
    omega
theorem X11_meansRound_ok {x : Int} (hx : x = (t : Int)) (h : TCm w T nv ql) (hN : NmM w T nv (nP T)) (hH : HdM w T) (ht : t < xN T) (hk : xK T t = 3) (hS : Wst w ql (xN T) S) (hR : w 65 14 = 0 → RwM w T t) (hQ : ∀ w', Wst w' ql (xN T) (fun a b => S a b ∨ Flt T t a b) → (w' 65 14 = 0 → RwM w' T (t + 1)) → (∀ c j, ¬ (c = 65 ∧ (j = 14 ∨ j = 15)) → ¬ (c = 74 ∧ 38 ≤ j) → w' c j = w c j) → Q w') : X11_meansRound x w Q := by
  subst hx
  obtain ⟨n4, p6, l10⟩ := h.1.le
  have p6 : nP T ≤ 6 := p6
  have l10 : nL T ≤ 10 := l10
  obtain ⟨q1, q2, q3, q4, q5⟩ := h.1.round ht hk
  have a1 := (h.2.2.2.2.1 (t + 1) (by omega)).2.2.2.2.1 q2
  have tc : ∀ {u : Wd}, (∀ c j, ¬ (c = 65 ∧ (j = 14 ∨ j = 15)) → ¬ (c = 74 ∧ 38 ≤ j) → u c j = w c j) → TCm u T nv ql := fun {u} o => h.of (fun c j a b d => o c j (by omega) (by omega))
  unfold X11_meansRound
  rw [show (t : Int) + 1 = ((t + 1 : Nat) : Int) by omega, rd_of rfl (by omega)]
  refine ⟨ix_of rfl (by omega) (by decide), X11_named_ok (t + 1) a1.1 (by omega) q2 h hN ?_⟩
  show (0 ≤ wr (nam T (xA T (t + 1))) → _) ∧ (¬ 0 ≤ wr (nam T (xA T (t + 1))) → _)
  rcases nam_ok (T := T) (xA T (t + 1)) with e | ⟨v, v6, e, -⟩
  · refine ⟨fun k => by rw [e] at k; exact absurd k (by decide), fun _ => X11_wrong_ok 4 (t + 1) rfl rfl h (by decide) (by omega) hS (fun u hW o => ?_)⟩
    have z := hW.z
    refine hQ u (hW.congr (fun a b => ?_)) (fun k => absurd (Or.inr ⟨rfl, rfl⟩) (z.mp k (t + 1) 4)) (fun c j a _ => o c j a)
    constructor
    · rintro (y | y)
      · exact Or.inl y
      · exact Or.inr (Or.inr (Or.inr ⟨hk, Or.inl ⟨y.1, y.2, e⟩⟩))
    · rintro (y | y)
      · exact Or.inl y
      · rcases y with ⟨f, -⟩ | ⟨f, -⟩ | ⟨-, f | ⟨u, f1, f⟩⟩
        · omega
        · omega
        · exact Or.inr ⟨f.1, f.2.1⟩
        · omega
  · refine ⟨fun _ y3 e3 => ?_, fun k => absurd (by rw [e, wr_nat (n := v) (by omega)]; omega) k⟩
    subst e3
    rw [show fst (pA T) (xA T (t + 1)) (nP T) = (v : Int) from e, show (t : Int) + 2 = ((t + 2 : Nat) : Int) by omega]
    have fl : ∀ {j k : Nat}, Flt T t j k ↔ (∃ i, i < rln T t ∧ j = t + 2 + i ∧ k = 5 ∧ Bad T t v i) ∨ (j = t + 2 + rln T t ∧ k = 6 ∧ (∀ i, i < rln T t → ¬ Bad T t v i) ∧ ∃ e, onL T v e ∧ ∀ i, i < rln T t → xI T (t + 2 + i) ≠ e) := fun {j k} => by
      constructor
      · intro f
        rcases f with ⟨f, -⟩ | ⟨f, -⟩ | ⟨-, f | ⟨u, f1, f⟩⟩
        · omega
        · omega
        · omega
        · rw [show u = v by omega] at f; exact f
      · intro f; exact Or.inr (Or.inr ⟨hk, Or.inr ⟨v, e, f⟩⟩)
    have loop : ∀ (m i s c f : Nat) (u : Wd), i ≤ rln T t → rln T t - i < m → s < 1024 → c ≤ i → (∀ e, s.testBit e = true ↔ onL T v e ∧ ∃ i', i' < i ∧ xI T (t + 2 + i') = e) → ((f = 1 ∧ c = i ∧ ∀ i', i' < i → ¬ Bad T t v i') ∨ (f = 0 ∧ ∃ i', i' < i ∧ Bad T t v i')) → Wst u ql (xN T) (fun a b => S a b ∨ ∃ i', i' < i ∧ a = t + 2 + i' ∧ b = 5 ∧ Bad T t v i') → (u 65 14 = 0 → w 65 14 = 0 ∧ ∀ i', i' < i → u 74 (38 + 10 * v + i') = (xI T (t + 2 + i') : Int)) → (∀ c j, ¬ (c = 65 ∧ (j = 14 ∨ j = 15)) → ¬ (c = 74 ∧ 38 + 10 * v ≤ j ∧ j < 48 + 10 * v) → u c j = w c j) → X11_meansRound_l39 Q (X11_meansRound_b174 Q) m (v : Int) (s : Int) (c : Int) (f : Int) ((t + 2 + i : Nat) : Int) u := by
      intro m
      induction m with
      | zero => intro i s c f u _ q; omega
      | succ m ih =>
        intro i s c f u hi hm hs hc hb hf hW hr ho
        have hu : TCm u T nv ql := tc (fun c j a b => ho c j a (by omega))
        obtain ⟨k1, k2, k3, k4, k5, k6⟩ := hu.2.2.2.2.1 (t + 2 + i) (by omega)
        have mi := mk_iff (T := T) (t := t + 2 + i) k2
        unfold X11_meansRound_l39
        rw [rd_of rfl (by omega), k1, wr_nat (n := mkd (xK T (t + 2 + i))) (by omega), show wr 2 = 2 by decide, mi.2.2.2.2.1]
        refine ⟨ix_of rfl (by omega) (by decide), fun z => ⟨ix_of rfl (by omega) (by decide), fun y4 e4 => ?_⟩, fun z => ?_⟩
        · have hi' : i < rln T t := by
            by_cases y : i = rln T t
            · rw [y, q4] at z; omega
            · omega
          have om : i + 1 ≤ rln T t ∧ rln T t - (i + 1) < m := by clear hf hb hW hr ho hu mi; omega
          obtain ⟨b1, b2⟩ := k6 z
          rw [rd_of rfl (by omega), b1] at e4
          subst e4
          obtain ⟨y, hy⟩ : ∃ y, y = xI T (t + 2 + i) := ⟨_, rfl⟩
          rw [← hy] at b1 b2 ⊢
          have bad : Bad T t v i → X11_meansRound_b113 Q (X11_meansRound_l39 Q (X11_meansRound_b174 Q) m) (X11_meansRound_b174 Q) (v : Int) (s : Int) (c : Int) (f : Int) ((t + 2 + i : Nat) : Int) (y : Int) u := fun hB => by
            unfold X11_meansRound_b113 X11_meansRound_b114
            refine ⟨fun _ => X11_wrong_ok 5 (t + 2 + i) rfl rfl hu (by decide) (by omega) hW (fun u' hW' o' => ?_), fun k => absurd (by decide) k⟩
            rw [show ((t + 2 + i : Nat) : Int) + 1 = ((t + 2 + (i + 1) : Nat) : Int) by omega]
            have hz := hW'.z
            refine ih (i + 1) s c 0 u' om.1 om.2 hs (by omega) (fun e => ?_) (Or.inr ⟨rfl, i, by omega, hB⟩) (hW'.congr (fun a b => ?_)) (fun k => absurd (Or.inr ⟨rfl, rfl⟩) (hz.mp k (t + 2 + i) 5)) (fun c j a b => by rw [o' c j a]; exact ho c j a b)
            · rw [hb]
              constructor
              · rintro ⟨r1, i', r2, r3⟩; exact ⟨r1, i', by omega, r3⟩
              · rintro ⟨r1, i', r2, r3⟩
                by_cases q : i' = i
                · subst q
                  have : ¬ ∀ i'', i'' < i' → xI T (t + 2 + i'') ≠ xI T (t + 2 + i') := fun k => hB ⟨by rw [r3]; exact r1, k⟩
                  by_cases qq : ∃ i'', i'' < i' ∧ xI T (t + 2 + i'') = xI T (t + 2 + i')
                  · obtain ⟨i'', z1, z2⟩ := qq
                    exact ⟨r1, i'', z1, by rw [z2]; exact r3⟩
                  · exact absurd (fun i'' z1 z2 => qq ⟨i'', z1, z2⟩) this
                · exact ⟨r1, i', by omega, r3⟩
            · constructor
              · rintro ((r | ⟨i', r1, r2⟩) | r)
                · exact Or.inl r
                · exact Or.inr ⟨i', by omega, r2⟩
                · exact Or.inr ⟨i, by omega, r.1, r.2, hB⟩
              · rintro (r | ⟨i', r1, r2⟩)
                · exact Or.inl (Or.inl r)
                · by_cases q : i' = i
                  · rw [q] at r2; exact Or.inr ⟨r2.1, r2.2.1⟩
                  · exact Or.inl (Or.inr ⟨i', by omega, r2⟩)
          have has : onL T v y → X11_meansRound_b100 Q (X11_meansRound_l39 Q (X11_meansRound_b174 Q) m) (X11_meansRound_b174 Q) (v : Int) (s : Int) (c : Int) (f : Int) ((t + 2 + i : Nat) : Int) (y : Int) u := fun hon => by
            have y10 : y < 10 := by have := hon.1; omega
            unfold X11_meansRound_b100
            refine X11_has_ok s y rfl rfl (by omega) (by omega) (fun hb1 => ⟨fun k => absurd k (by decide), fun _ => bad (fun k => ?_)⟩) (fun hb0 => ⟨fun _ => ?_, fun k => absurd (by decide) k⟩)
            · obtain ⟨-, i', r1, r2⟩ := (hb y).mp hb1
              exact k.2 i' r1 (by rw [r2, hy])
            · have good : ¬ Bad T t v i := fun k => k ⟨by rw [← hy]; exact hon, fun i' r1 r2 => by
                have := (hb y).mpr ⟨hon, i', r1, by rw [r2, hy]⟩
                rw [hb0] at this
                exact absurd this (by decide)⟩
              unfold X11_meansRound_b114
              refine ⟨fun k => absurd k (by decide), fun _ y5 e5 => ?_⟩
              have hp : 2 ^ y < 2 ^ 10 := Nat.pow_lt_pow_right (by decide) y10
              rw [isl1 (by omega), ior_nat (by omega) (by omega)] at e5
              subst e5
              have sb : ∀ e, (s ||| 2 ^ y).testBit e = true ↔ onL T v e ∧ ∃ i', i' < i + 1 ∧ xI T (t + 2 + i') = e := fun e => by
                rw [Nat.testBit_or, Bool.or_eq_true, hb, Nat.testBit_two_pow, decide_eq_true_iff]
                constructor
                · rintro (⟨r1, i', r2, r3⟩ | r)
                  · exact ⟨r1, i', by omega, r3⟩
                  · rw [← r]; exact ⟨hon, i, by omega, hy.symm⟩
                · rintro ⟨r1, i', r2, r3⟩
                  by_cases q : i' = i
                  · rw [q] at r3; exact Or.inr (by omega)
                  · exact Or.inl ⟨r1, i', by omega, r3⟩
              have ff : (f = 1 ∧ c + 1 = i + 1 ∧ ∀ i', i' < i + 1 → ¬ Bad T t v i') ∨ (f = 0 ∧ ∃ i', i' < i + 1 ∧ Bad T t v i') := by
                rcases hf with ⟨r1, r2, r3⟩ | ⟨r1, i', r2, r3⟩
                · refine Or.inl ⟨r1, by omega, fun i' q => ?_⟩
                  by_cases qq : i' = i
                  · rw [qq]; exact good
                  · exact r3 i' (by omega)
                · exact Or.inr ⟨r1, i', by omega, r3⟩
              have sw : ∀ {u' : Wd}, Wst u' ql (xN T) (fun a b => S a b ∨ ∃ i', i' < i ∧ a = t + 2 + i' ∧ b = 5 ∧ Bad T t v i') → Wst u' ql (xN T) (fun a b => S a b ∨ ∃ i', i' < i + 1 ∧ a = t + 2 + i' ∧ b = 5 ∧ Bad T t v i') := fun {u'} r => r.congr (fun a b => or_congr_right ⟨fun ⟨i', r1, r2⟩ => ⟨i', by omega, r2⟩, fun ⟨i', r1, r2⟩ => by
                by_cases qq : i' = i
                · rw [qq] at r2; exact absurd r2.2.2 good
                · exact ⟨i', by omega, r2⟩⟩)
              have hw14 := hW.wr
              rw [hw14.1]
              refine ⟨fun q => ?_, fun q => ?_⟩
              · have nb : ∀ i', i' < i → ¬ Bad T t v i' := fun i' r k => (hW.z.mp q) _ _ (Or.inr ⟨i', r, rfl, rfl, k⟩)
                have ci : c = i := by
                  rcases hf with ⟨r1, r2, r3⟩ | ⟨r1, i', r2, r3⟩
                  · exact r2
                  · exact absurd r3 (nb i' r2)
                have gd : ∀ i', i' < i + 1 → onL T v (xI T (t + 2 + i')) ∧ ∀ i'', i'' < i' → xI T (t + 2 + i'') ≠ xI T (t + 2 + i') := fun i' r => by
                  by_cases qq : i' = i
                  · rw [qq]; exact Classical.not_not.mp good
                  · exact Classical.not_not.mp (nb i' (by omega))
                have i10 : i + 1 ≤ 10 := pigeon _ _ (fun q => xI T (t + 2 + q)) (fun q r => by have := (gd q r).1.1; show xI T (t + 2 + q) < 10; omega) (fun a b ra rb r => by
                  have r : xI T (t + 2 + a) = xI T (t + 2 + b) := r
                  have z1 : ¬ a < b := fun k => (gd b rb).2 a k r
                  have z2 : ¬ b < a := fun k => (gd a ra).2 b k r.symm
                  omega)
                subst ci
                rw [show (38 : Int) + 10 * (v : Int) + (c : Int) = ((38 + 10 * v + c : Nat) : Int) by omega]
                refine ⟨ix_of rfl (by omega) (by decide), fun w6 e6 => ?_⟩
                rw [wt_of rfl (by omega)] at e6
                have o6 : ∀ c' j, ¬ (c' = 74 ∧ j = 38 + 10 * v + c) → w6 c' j = u c' j := fun c' j a => by rw [e6, up_ap, if_neg a]
                unfold X11_meansRound_b165
                rw [show ((t + 2 + c : Nat) : Int) + 1 = ((t + 2 + (c + 1) : Nat) : Int) by omega, show (c : Int) + 1 = ((c + 1 : Nat) : Int) by omega]
                refine ih (c + 1) _ (c + 1) f w6 om.1 om.2 (Nat.or_lt_two_pow (n := 10) hs hp) (by omega) sb ff (sw (hW.of (o6 _ _ (by omega)) (o6 _ _ (by omega)))) (fun k => ⟨(hr q).1, fun i' r => ?_⟩) (fun c' j a b => by rw [o6 c' j (by omega)]; exact ho c' j a b)
                by_cases qq : i' = c
                · rw [qq, e6, up_eq, hy]
                · rw [o6 _ _ (by omega)]; exact (hr q).2 i' (by omega)
              · unfold X11_meansRound_b165
                rw [show ((t + 2 + i : Nat) : Int) + 1 = ((t + 2 + (i + 1) : Nat) : Int) by omega, show (c : Int) + 1 = ((c + 1 : Nat) : Int) by omega]
                refine ih (i + 1) _ (c + 1) f u om.1 om.2 (Nat.or_lt_two_pow (n := 10) hs hp) (by omega) sb ?_ (sw hW) (fun k => absurd k q) ho
                rcases ff with r | r
                · exact Or.inl r
                · exact Or.inr r
          rw [ho 65 21 (by omega) (by omega), hH.1, wr_nat (n := nL T) (by omega), wr_nat (n := y) (by omega)]
          refine ⟨fun q => bad (fun k => by have := k.1.1; omega), fun q => ?_⟩
          have b0 := enA_bd T p6 (2 * y)
          have b1' := enA_bd T p6 (2 * y + 1)
          rw [show (2 : Int) + 2 * (y : Int) = ((2 + 2 * y : Nat) : Int) by omega, show ((2 + 2 * y : Nat) : Int) + 1 = ((2 + (2 * y + 1) : Nat) : Int) by omega, rd_of rfl (by omega), rd_of rfl (by omega), ho 74 (2 + 2 * y) (by omega) (by omega), ho 74 (2 + (2 * y + 1)) (by omega) (by omega), hH.2.2.2.1 _ (by omega), hH.2.2.2.1 _ (by omega), wr_nat (n := v) (by omega), wr_id (x := enA T (2 * y)) (by omega) (by omega), wr_id (x := enA T (2 * y + 1)) (by omega) (by omega)]
          refine ⟨ix_of rfl (by omega) (by decide), fun r => has ⟨by omega, Or.inl r⟩, fun r => ⟨ix_of rfl (by omega) (by decide), fun r' => has ⟨by omega, Or.inr r'⟩, fun r' => bad (fun k => ?_)⟩⟩
          have := k.1.2
          rw [← hy] at this
          omega
        · have hi' : i = rln T t := by
            by_cases y : i = rln T t
            · exact y
            · exact absurd (q3 i (by omega)) z
          subst hi'
          have o' : ∀ c j, ¬ (c = 65 ∧ (j = 14 ∨ j = 15)) → ¬ (c = 74 ∧ 38 ≤ j) → u c j = w c j := fun c j a b => ho c j a (by omega)
          unfold X11_meansRound_b174
          rw [show (32 : Int) + (v : Int) = ((32 + v : Nat) : Int) by omega, rd_of rfl (by omega), ho 74 (32 + v) (by omega) (by omega), hH.2.2.2.2.2 v v6]
          have d10 : dg1 T v ≤ 10 := dgc_le _ _
          rw [wr_nat (n := dg1 T v) (by omega), wr_nat (n := c) (by omega), wr_nat (n := f) (by omega)]
          rcases hf with ⟨r1, r2, r3⟩ | ⟨r1, i', r2, r3⟩
          · have ms := miss l10 r3
            refine ⟨fun k => by omega, fun _ => ⟨ix_of rfl (by omega) (by decide), fun k => ?_, fun k => ?_⟩⟩
            · refine hQ u (hW.congr (fun a b => or_congr_right ?_)) (fun q p i hp hi => ?_) o'
              · rw [fl]
                constructor
                · rintro ⟨i', z1, z2⟩; exact Or.inl ⟨i', z1, z2⟩
                · rintro (⟨i', z1, z2⟩ | ⟨-, -, -, z⟩)
                  · exact ⟨i', z1, z2⟩
                  · exact absurd z (ms.mp (by omega))
              · have dp : dg1 T p ≤ 10 := dgc_le _ _
                obtain ⟨s1, s2⟩ := hr q
                show _ = (((if xK T t = 3 ∧ nam T (xA T (t + 1)) = (p : Int) then xI T (t + 2 + i) else rw1 T t p i) : Nat) : Int)
                by_cases z : p = v
                · subst z
                  rw [if_pos ⟨hk, e⟩]; exact s2 i (by omega)
                · rw [if_neg (by omega), ho _ _ (by omega) (by omega)]
                  exact hR s1 p i hp hi
            · refine X11_wrong_ok 6 (t + 2 + rln T t) rfl rfl hu (by decide) (by omega) hW (fun u' hW' o2 => ?_)
              have hz := hW'.z
              refine hQ u' (hW'.congr (fun a b => ?_)) (fun q => absurd (Or.inr ⟨rfl, rfl⟩) (hz.mp q (t + 2 + rln T t) 6)) (fun c j a b => by rw [o2 c j a]; exact o' c j a b)
              rw [fl]
              have mm : ∃ e, onL T v e ∧ ∀ i, i < rln T t → xI T (t + 2 + i) ≠ e := by
                by_cases q : ∃ e, onL T v e ∧ ∀ i, i < rln T t → xI T (t + 2 + i) ≠ e
                · exact q
                · have := ms.mpr q; omega
              constructor
              · rintro ((z1 | z1) | z1)
                · exact Or.inl z1
                · exact Or.inr (Or.inl z1)
                · exact Or.inr (Or.inr ⟨z1.1, z1.2, r3, mm⟩)
              · rintro (z1 | z1 | z1)
                · exact Or.inl (Or.inl z1)
                · exact Or.inl (Or.inr z1)
                · exact Or.inr ⟨z1.1, z1.2.1⟩
          · refine ⟨fun _ => hQ u (hW.congr (fun a b => or_congr_right ?_)) (fun q => absurd (Or.inr ⟨i', r2, rfl, rfl, r3⟩) (hW.z.mp q _ _)) o', fun k => by omega⟩
            rw [fl]
            exact ⟨Or.inl, fun z1 => z1.resolve_right (fun z1 => z1.2.2.1 i' r2 r3)⟩
    refine ⟨rln T t + 1, loop (rln T t + 1) 0 0 0 1 w (by omega) (by omega) (by decide) (by omega) (fun e => ?_) (Or.inl ⟨rfl, rfl, fun i' r => absurd r (Nat.not_lt_zero i')⟩) (hS.congr (fun a b => ⟨Or.inl, fun r => r.resolve_right (fun ⟨i', r1, _⟩ => absurd r1 (Nat.not_lt_zero i'))⟩)) (fun k => ⟨k, fun i' r => absurd r (Nat.not_lt_zero i')⟩) (fun _ _ _ _ => rfl)⟩
    rw [Nat.zero_testBit]
    exact ⟨fun r => absurd r (by decide), fun ⟨_, i', r1, _⟩ => absurd r1 (Nat.not_lt_zero i')⟩
end MROUND
