/-! TEXTS: the drawing they tell of; the class builds it -/
def NoF (T : Tx) : Prop := ∀ j k, ¬ AnyF T j k
def dT0 (T : Tx) : Dw := (nP T, nL T, (fun i => (enA T i).toNat), (fun e => decide (xK T (lT T e + 3) = 4)), (fun _ => 0), (fun _ _ => 0))
def rwT (T : Tx) : Nat → Nat → Nat → Nat
  | 0 => srt (dT0 T)
  | t + 1 => fun v i => if xK T t = 3 ∧ nam T (xA T (t + 1)) = (v : Int) then xI T (t + 2 + i) else rwT T t v i
def dTx (T : Tx) (u : Nat) : Dw := (nP T, nL T, (fun i => (enA T i).toNat), (fun e => decide (xK T (lT T e + 3) = 4)), dgc (dT0 T), rwT T u)
/-- a whole row -/
def RwK (D : Dw) (p d : Nat) (f : Nat → Nat) : Prop := (∀ i, i < d → pl D p (f i) = true) ∧ (∀ i j, i < d → j < d → f i = f j → i = j) ∧ ∀ e, pl D p e = true → ∃ i, i < d ∧ f i = e
theorem pl_lt {D : Dw} {p e : Nat} (h : pl D p e = true) : e < dM D := (pl_iff.mp h).1
theorem RwK.len {D : Dw} {p d : Nat} {f : Nat → Nat} (hm : dM D ≤ 10) (h : RwK D p d f) : d = dgc D p := by
  obtain ⟨h1, h2, h3⟩ := h
  apply Nat.le_antisymm
  · refine pigeon _ _ (fun i => cnt (pl D p) (f i)) (fun i hi => ?_) (fun i j hi hj e => h2 i j hi hj (cnt_uq (h1 i hi) (h1 j hj) e))
    have := pl_lt (h1 i hi)
    exact cnt_lt_of (by omega) (h1 i hi)
  · have pk : ∀ j, j < dgc D p → pos f (srt D p j) d < d ∧ f (pos f (srt D p j) d) = srt D p j := fun j hj => by
      obtain ⟨i, hi, e⟩ := h3 _ (nth_ok (f := pl D p) 10 j hj).2.1
      have := pos_ok d f (srt D p j) i hi e
      exact ⟨this.1, this.2.1⟩
    refine pigeon _ _ (fun j => pos f (srt D p j) d) (fun j hj => (pk j hj).1) (fun i j hi hj e => ?_)
    have e : pos f (srt D p i) d = pos f (srt D p j) d := e
    have a := (pk i hi).2
    rw [e, (pk j hj).2] at a
    exact (nth_inc (f := pl D p) (m := 10)).inj hi hj a.symm
theorem RwK.srt {D : Dw} {p : Nat} (hm : dM D ≤ 10) : RwK D p (dgc D p) (srt D p) := by
  refine ⟨fun i hi => (nth_ok (f := pl D p) 10 i hi).2.1, fun i j hi hj e => (nth_inc (f := pl D p) (m := 10)).inj hi hj e, fun e he => ?_⟩
  have := pl_lt he
  exact ⟨cnt (pl D p) e, cnt_lt_of (by omega) he, nth_uq (by omega) he rfl⟩
section DRAW
variable {T : Tx}
theorem NoF.en (hO : TOK T) (h : NoF T) {i : Nat} (hi : i < 2 * nL T) : ∃ v, v < nP T ∧ enA T i = (v : Int) ∧ pA T v = xA T (lT T (i / 2) + 1 + i % 2) := by
  obtain ⟨q1, q2, -⟩ := lT_ok (T := T) (i := i / 2) (by omega)
  rcases nam_ok (T := T) (xA T (lT T (i / 2) + 1 + i % 2)) with e | ⟨v, e1, e2, e3⟩
  · have : i % 2 = 0 ∨ i % 2 = 1 := by omega
    rcases this with z | z
    · rw [z] at e
      exact absurd ⟨_, q1, Or.inr (Or.inl ⟨q2, Or.inl ⟨rfl, rfl, e⟩⟩)⟩ (h (lT T (i / 2) + 1) 4)
    · rw [z] at e
      exact absurd ⟨_, q1, Or.inr (Or.inl ⟨q2, Or.inr (Or.inl ⟨rfl, rfl, e⟩)⟩)⟩ (h (lT T (i / 2) + 2) 4)
  · exact ⟨v, e1, e2, e3⟩
theorem NoF.ne (hO : TOK T) (h : NoF T) {e : Nat} (he : e < nL T) : enA T (2 * e) ≠ enA T (2 * e + 1) := fun k => by
  obtain ⟨q1, q2, -⟩ := lT_ok (T := T) he
  obtain ⟨v, a1, a2, a3⟩ := h.en hO (i := 2 * e) (by omega)
  obtain ⟨u, b1, b2, b3⟩ := h.en hO (i := 2 * e + 1) (by omega)
  rw [show (2 * e) / 2 = e by omega, show (2 * e) % 2 = 0 by omega] at a3
  rw [show (2 * e + 1) / 2 = e by omega, show (2 * e + 1) % 2 = 1 by omega] at b3
  have : v = u := by omega
  rw [this] at a3
  exact h (lT T e + 2) 3 ⟨_, q1, Or.inr (Or.inl ⟨q2, Or.inr (Or.inr ⟨rfl, rfl, by rw [← a3, ← b3]⟩)⟩)⟩
theorem onL_pl (hO : TOK T) (h : NoF T) {v e : Nat} : onL T v e ↔ pl (dT0 T) v e = true := by
  rw [pl_iff]
  unfold onL atP
  constructor
  · rintro ⟨a, b⟩
    obtain ⟨v1, a1, a2, -⟩ := h.en hO (i := 2 * e) (by omega)
    obtain ⟨v2, b1, b2, -⟩ := h.en hO (i := 2 * e + 1) (by omega)
    refine ⟨a, ?_⟩
    show (enA T (2 * e)).toNat = v ∨ (enA T (2 * e + 1)).toNat = v
    omega
  · rintro ⟨a, b⟩
    have a : e < nL T := a
    obtain ⟨v1, a1, a2, -⟩ := h.en hO (i := 2 * e) (by omega)
    obtain ⟨v2, b1, b2, -⟩ := h.en hO (i := 2 * e + 1) (by omega)
    have b : (enA T (2 * e)).toNat = v ∨ (enA T (2 * e + 1)).toNat = v := b
    exact ⟨a, by omega⟩
theorem NoF.round (hO : TOK T) (h : NoF T) {t : Nat} (ht : t < xN T) (hk : xK T t = 3) : ∃ v, v < nP T ∧ nam T (xA T (t + 1)) = (v : Int) ∧ rln T t = dgc (dT0 T) v ∧ RwK (dT0 T) v (rln T t) (fun i => xI T (t + 2 + i)) := by
  obtain ⟨-, -, l10⟩ := hO.le
  rcases nam_ok (T := T) (xA T (t + 1)) with e | ⟨v, e1, e2, e3⟩
  · exact absurd ⟨t, ht, Or.inr (Or.inr ⟨hk, Or.inl ⟨rfl, rfl, e⟩⟩)⟩ (h (t + 1) 4)
  · have g : ∀ i, i < rln T t → onL T v (xI T (t + 2 + i)) ∧ ∀ i', i' < i → xI T (t + 2 + i') ≠ xI T (t + 2 + i) := fun i hi => by
      by_cases z : Bad T t v i
      · exact absurd ⟨t, ht, Or.inr (Or.inr ⟨hk, Or.inr ⟨v, e2, Or.inl ⟨i, hi, rfl, rfl, z⟩⟩⟩)⟩ (h (t + 2 + i) 5)
      · exact Classical.not_not.mp z
    have r : RwK (dT0 T) v (rln T t) (fun i => xI T (t + 2 + i)) := by
      refine ⟨fun i hi => (onL_pl hO h).mp (g i hi).1, fun i j hi hj e => ?_, fun e he => ?_⟩
      · have e : xI T (t + 2 + i) = xI T (t + 2 + j) := e
        have a : ¬ i < j := fun k => (g j hj).2 i k e
        have b : ¬ j < i := fun k => (g i hi).2 j k e.symm
        omega
      · by_cases z : ∃ i, i < rln T t ∧ xI T (t + 2 + i) = e
        · exact z
        · refine absurd ⟨t, ht, Or.inr (Or.inr ⟨hk, Or.inr ⟨v, e2, Or.inr ⟨rfl, rfl, fun i hi => fun k => k (g i hi), e, (onL_pl hO h).mpr he, fun i hi k => z ⟨i, hi, k⟩⟩⟩⟩)⟩ (h (t + 2 + rln T t) 6)
    exact ⟨v, e1, e2, r.len l10, r⟩
theorem rwT_ok (hO : TOK T) (h : NoF T) (v : Nat) : ∀ u, u ≤ xN T → RwK (dT0 T) v (dgc (dT0 T) v) (rwT T u v)
  | 0, _ => RwK.srt hO.le.2.2
  | u + 1, hu => by
    have ih := rwT_ok hO h v u (by omega)
    by_cases z : xK T u = 3 ∧ nam T (xA T (u + 1)) = (v : Int)
    · have e : rwT T (u + 1) v = fun i => xI T (u + 2 + i) := by
        funext i
        show (if xK T u = 3 ∧ nam T (xA T (u + 1)) = (v : Int) then xI T (u + 2 + i) else rwT T u v i) = _
        rw [if_pos z]
      obtain ⟨v', a1, a2, a3, a4⟩ := h.round hO (t := u) (by omega) z.1
      have : v' = v := by omega
      subst this
      rw [e, ← a3]
      exact a4
    · have e : rwT T (u + 1) v = rwT T u v := by
        funext i
        show (if xK T u = 3 ∧ nam T (xA T (u + 1)) = (v : Int) then xI T (u + 2 + i) else rwT T u v i) = _
        rw [if_neg z]
      rw [e]
      exact ih
theorem dTx_WF (hO : TOK T) (h : NoF T) {u : Nat} (hu : u ≤ xN T) : WF (dTx T u) := by
  obtain ⟨-, p6, l10⟩ := hO.le
  refine ⟨p6, l10, fun i hi => ?_, fun e he => ?_, fun p i hp hi => ?_, fun p i j hp hi hj e => ?_, fun p e hp he ha => ?_⟩
  · obtain ⟨v, a1, a2, -⟩ := h.en hO (i := i) hi
    show (enA T i).toNat < nP T
    omega
  · have he : e < nL T := he
    have := h.ne hO he
    obtain ⟨v, a1, a2, -⟩ := h.en hO (i := 2 * e) (by omega)
    obtain ⟨v', b1, b2, -⟩ := h.en hO (i := 2 * e + 1) (by omega)
    show (enA T (2 * e)).toNat ≠ (enA T (2 * e + 1)).toNat
    omega
  · exact pl_iff.mp ((rwT_ok hO h p u hu).1 i hi)
  · exact (rwT_ok hO h p u hu).2.1 i j hi hj e
  · exact (rwT_ok hO h p u hu).2.2 e (pl_iff.mpr ⟨he, ha⟩)
theorem insW_end (w : Wd) (cD iD cR bR : Nat) (e : Int) (d c j : Nat) : insW w cD iD cR bR d e d c j = if c = cR ∧ j = bR + d then e else if c = cD ∧ j = iD then (d : Int) + 1 else w c j := by
  unfold insW
  rw [if_neg (by omega)]
/-- a round told of -/
theorem X4_buildRound_ok {Q : Wd → Prop} {w : Wd} {pl : Nat → Nat} {t : Nat} {x : Int} (h : TCx w T pl) (hF : NoF T) (hP : PnX w T) (ht : t < xN T) (hk : xK T t = 3) (hx : x = ((t + 1 : Nat) : Int)) (hQ : ∀ v w', nam T (xA T (t + 1)) = ((v : Nat) : Int) → v < 6 → dgc (dT0 T) v ≤ 10 → (∀ c j, w' c j = if c = 3 ∧ j = v then ((dgc (dT0 T) v : Nat) : Int) else if c = 4 ∧ 10 * v ≤ j ∧ j < 10 * v + dgc (dT0 T) v then (xI T (t + 2 + (j - 10 * v)) : Int) else w c j) → Q w') : X4_buildRound 1 x w Q := by
  subst hx
  have hO := h.1
  obtain ⟨n4, p6, l10⟩ := hO.le
  have p6 : nP T ≤ 6 := p6
  obtain ⟨q1, q2, q3, q4, q5⟩ := h.1.round ht hk
  obtain ⟨v, v6, e, el, -⟩ := hF.round hO ht hk
  have d10 := dgc_le (dT0 T) v
  have a1 := (h.2.2 (t + 1) (by omega)).2.2.2.2.1 q2
  unfold X4_buildRound
  rw [rd_of rfl (by omega), show ((t + 1 : Nat) : Int) + 1 = ((t + 2 : Nat) : Int) by omega, show wr (-1) = -1 by decide]
  refine ⟨ix_of rfl (by omega) (by decide), X4_postNamed_ok (xA T (t + 1)) a1.1 a1.2 h hP ?_⟩
  rw [e, wr_nat (n := v) (by omega)]
  refine ⟨fun k => by omega, fun _ => ⟨ix_of rfl (by omega) (by decide), fun w3 e3 y4 e4 => ?_⟩⟩
  subst e4
  rw [wt_of rfl (by omega)] at e3
  have loop : ∀ (m i : Nat) (u : Wd), i ≤ rln T t → rln T t - i < m → (∀ c j, u c j = if c = 3 ∧ j = v then (i : Int) else if c = 4 ∧ 10 * v ≤ j ∧ j < 10 * v + i then (xI T (t + 2 + (j - 10 * v)) : Int) else w c j) → X4_buildRound_l32 1 Q (X4_buildRound_b80 1 Q) m (v : Int) ((t + 2 + i : Nat) : Int) u := by
    intro m
    induction m with
    | zero => intro i u _ q; omega
    | succ m ih =>
      intro i u hi hm hu
      have hu' : TCx u T pl := h.of (fun c j _ _ => by rw [hu, if_neg (by omega), if_neg (by omega)])
      unfold X4_buildRound_l32
      rw [hu'.2.1, wr_nat (n := xN T) (by omega), wr_nat (n := t + 2 + i) (by omega)]
      refine ⟨fun z => by omega, fun _ => ⟨ix_of rfl (by omega) (by decide), ?_⟩⟩
      obtain ⟨k1, k2, -⟩ := hu'.2.2 (t + 2 + i) (by omega)
      rw [rd_of rfl (by omega), k1, wr_nat (n := xK T (t + 2 + i)) (by omega), show wr 6 = 6 by decide]
      refine ⟨fun z => ⟨ix_of rfl (by omega) (by decide), ix_of rfl (by omega) (by decide), ?_⟩, fun z => ?_⟩
      · have z : xK T (t + 2 + i) = 6 := by omega
        have hi' : i < rln T t := by
          by_cases y : i = rln T t
          · rw [y, q4] at z; omega
          · omega
        obtain ⟨a2, a3⟩ := (hu'.2.2 (t + 2 + i) (by omega)).2.2.2.2.2 z
        have e32 : u 3 v = (i : Int) := by rw [hu, if_pos ⟨rfl, rfl⟩]
        rw [rd_of rfl (by omega), rd_of rfl (by omega), a2]
        refine X1_insertAt_ok (k := 1) v i i _ rfl e32 (by omega) (by omega) (Nat.le_refl _) e32 ?_
        rw [show ((t + 2 + i : Nat) : Int) + 1 = ((t + 2 + (i + 1) : Nat) : Int) by omega]
        refine ih (i + 1) _ (by omega) (by omega) (fun c j => ?_)
        rw [insW_end]
        by_cases y1 : c = 1 + 3 ∧ j = 10 * v + i
        · rw [if_pos y1, if_neg (by omega), if_pos (by omega), show t + 2 + (j - 10 * v) = t + 2 + i by omega]
        · rw [if_neg y1]
          by_cases y2 : c = 1 + 2 ∧ j = v
          · rw [if_pos y2, if_pos (by omega)]; omega
          · rw [if_neg y2, if_neg (by omega), hu, if_neg (by omega)]
            by_cases y3 : c = 4 ∧ 10 * v ≤ j ∧ j < 10 * v + i
            · rw [if_pos y3, if_pos (by omega)]
            · rw [if_neg y3, if_neg (by omega)]
      · have hi' : i = rln T t := by
          by_cases y : i = rln T t
          · exact y
          · exact absurd (by rw [q3 i (by omega)]; rfl) z
        unfold X4_buildRound_b80
        refine hQ v u e (by omega) d10 (fun c j => ?_)
        rw [hu, hi', el]
  exact ⟨rln T t + 1, loop (rln T t + 1) 0 w3 (by omega) (by omega) (fun c j => by
    rw [e3, up_ap]
    by_cases y : c = 1 + 2 ∧ j = v
    · rw [if_pos y, if_pos (by omega)]; rfl
    · rw [if_neg y, if_neg (by omega), if_neg (by omega)])⟩
theorem X4_build_ok {Q : Wd → Prop} {w : Wd} {pl : Nat → Nat} (h : TCx w T pl) (hF : NoF T) (hP : PnX w T) (hL : LnX w T) (hT : TwX w T (xN T)) (hQ : ∀ w', RepX w' 1 (dTx T (xN T)) → (∀ c j, ¬ (c = 1 ∧ j ≤ 2) → c ≠ 2 → c ≠ 3 → c ≠ 4 → w' c j = w c j) → Q w') : X4_build 1 w Q := by
  have hO := h.1
  obtain ⟨n4, p6, l10⟩ := hO.le
  have p6 : nP T ≤ 6 := p6
  have l10 : nL T ≤ 10 := l10
  unfold X4_build
  intro w1 e1 w2 e2 w3 e3
  have v1 : ∀ c j, ¬ (c = 1 ∧ j ≤ 2) → w3 c j = w c j := fun c j hc => by rw [e3, up_ap, if_neg (by omega), e2, up_ap, if_neg (by omega), e1, up_ap, if_neg (by omega)]
  have c0 : w3 1 0 = (nP T : Int) := by rw [e3, up_ap, if_neg (by omega), e2, up_ap, if_neg (by omega), e1, up_eq]; exact hP.1
  have c1 : w3 1 1 = (nL T : Int) := by rw [e3, up_ap, if_neg (by omega), e2, up_eq, e1, up_ap, if_neg (by omega)]; exact hL.1
  have c2 : w3 1 2 = w 14 4 := by rw [e3, up_eq, e2, up_ap, if_neg (by omega), e1, up_ap, if_neg (by omega)]
  have k0 : wr 0 = 0 := by decide
  have k20 : wr 20 = 20 := by decide
  refine ⟨by unfold cpk; rw [k0, k20]; omega, fun w4 e4 => ?_⟩
  rw [k0, k20] at e4
  have v4 : ∀ c j, w4 c j = if c = 2 ∧ j < 20 then w 16 j else w3 c j := fun c j => by
    rw [e4, cpy_ap]
    by_cases z : c = 2 ∧ j < 20
    · rw [if_pos ⟨z.1, by show 0 ≤ j; omega, by show j < 0 + 20; omega⟩, if_pos z, show (0 : Int).toNat + (j - (0 : Int).toNat) = j by show 0 + (j - 0) = j; omega, v1 _ _ (by omega)]
    · rw [if_neg (fun k => z ⟨k.1, by have : j < 0 + 20 := k.2.2; omega⟩), if_neg z]
  have eE : ∀ i, i < 2 * nL T → enA T i = ((dE (dT0 T) i : Nat) : Int) ∧ dE (dT0 T) i < 6 := fun i hi => by
    obtain ⟨v, a1, a2, -⟩ := hF.en hO hi
    show enA T i = (((enA T i).toNat : Nat) : Int) ∧ (enA T i).toNat < 6
    omega
  refine X1_orderByNumber_ok (D := dT0 T) l10 (fun i hi => (eE i hi).2) (fun e he => (dTx_WF hO hF (u := 0) (by omega)).2.2.2.1 e he) rfl (by rw [v4, if_neg (by omega)]; exact c1) (fun i hi => ?_) (fun w5 g5 r5 o5 => ?_)
  · have hi : i < 2 * nL T := hi
    rw [v4, if_pos ⟨rfl, by omega⟩, hL.2 i hi]
    exact (eE i hi).1
  have o5' : ∀ c j, ¬ (c = 1 ∧ j ≤ 2) → c ≠ 2 → c ≠ 3 → c ≠ 4 → w5 c j = w c j := fun c j a b d f => by rw [o5 c j d f, v4, if_neg (by omega), v1 c j a]
  have loop : ∀ (m t : Nat) (u : Wd), t ≤ xN T → xN T - t < m → (∀ p, p < 6 → u 3 p = (dgc (dT0 T) p : Int)) → (∀ p i, p < 6 → i < dgc (dT0 T) p → u 4 (10 * p + i) = (rwT T t p i : Int)) → (∀ c j, c ≠ 3 → c ≠ 4 → u c j = w5 c j) → X4_build_l45 1 Q (X4_build_b80 1 Q) m (t : Int) u := by
    intro m
    induction m with
    | zero => intro t u _ q; omega
    | succ m ih =>
      intro t u ht hm hg hr ho
      have hu : ∀ c j, ¬ (c = 1 ∧ j ≤ 2) → c ≠ 2 → c ≠ 3 → c ≠ 4 → u c j = w c j := fun c j a b d f => by rw [ho c j d f, o5' c j a b d f]
      have hT' : TCx u T pl := h.of (fun c j _ _ => hu c j (by omega) (by omega) (by omega) (by omega))
      have hP' : PnX u T := ⟨by rw [hu _ _ (by omega) (by decide) (by decide) (by decide)]; exact hP.1, fun i hi => by rw [hu _ _ (by omega) (by decide) (by decide) (by decide)]; exact hP.2 i hi⟩
      unfold X4_build_l45
      rw [hT'.2.1, show (t : Int) + 2 = ((t + 2 : Nat) : Int) by omega, wr_nat (n := xN T) (by omega), wr_nat (n := t + 2) (by omega), show (t : Int) + 1 = ((t + 1 : Nat) : Int) by omega]
      refine ⟨fun z => ?_, fun z => ⟨ix_of rfl (by omega) (by decide), ?_⟩⟩
      · unfold X4_build_b80
        have fin : ∀ q, t ≤ q → q ≤ xN T → ∀ p i, rwT T q p i = rwT T t p i := by
          intro q
          induction q with
          | zero => intro a b p i; rw [show t = 0 by omega]
          | succ q ihq =>
            intro a b p i
            by_cases y : t = q + 1
            · rw [y]
            · show (if xK T q = 3 ∧ nam T (xA T (q + 1)) = (p : Int) then xI T (q + 2 + i) else rwT T q p i) = _
              rw [if_neg (fun k => by have := hO.round (t := q) (by omega) k.1; omega)]
              exact ihq (by omega) (by omega) p i
        refine hQ u ⟨?_, ?_, ?_, fun i hi => ?_, fun p hp => ?_, fun p i hp hi => ?_⟩ hu
        · rw [ho _ _ (by decide) (by decide), o5 _ _ (by decide) (by decide), v4, if_neg (by omega)]; exact c0
        · rw [ho _ _ (by decide) (by decide), o5 _ _ (by decide) (by decide), v4, if_neg (by omega)]; exact c1
        · obtain ⟨tw, g1, g2, g3⟩ := hT
          refine ⟨tw, by rw [ho _ _ (by decide) (by decide), o5 _ _ (by decide) (by decide), v4, if_neg (by omega), c2]; exact g1, g2, fun e => ?_⟩
          rw [g3]
          show _ = (decide (e < nL T) && decide (xK T (lT T e + 3) = 4))
          rw [← Bool.decide_and]
          refine decide_eq_decide.mpr ⟨fun a => ⟨a.1, a.2.2⟩, fun a => ⟨a.1, ?_, a.2⟩⟩
          obtain ⟨b1, b2, -⟩ := lT_ok a.1
          exact (hO.line b1 b2).1
        · have hi : i < 2 * nL T := hi
          show u 2 i = _
          rw [ho _ _ (by decide) (by decide), o5 _ _ (by decide) (by decide), v4, if_pos ⟨rfl, by omega⟩, hL.2 i hi]
          exact (eE i hi).1
        · have hp : p < nP T := hp
          exact hg p (by omega)
        · have hp : p < nP T := hp
          show u 4 (10 * p + i) = ((rwT T (xN T) p i : Nat) : Int)
          rw [fin (xN T) ht (Nat.le_refl _)]
          exact hr p i (by omega) hi
      · obtain ⟨k1, k2, -⟩ := hT'.2.2 t (by omega)
        rw [rd_of rfl (by omega), k1, wr_nat (n := xK T t) (by omega), show wr 3 = 3 by decide]
        refine ⟨fun y => ?_, fun y => ?_⟩
        · have y : xK T t = 3 := by omega
          refine X4_buildRound_ok hT' hF hP' (by omega) y rfl (fun v u' ev v6 d10 hu' => ?_)
          refine ih (t + 1) u' (by omega) (by omega) (fun p hp => ?_) (fun p i hp hi => ?_) (fun c j a b => ?_)
          · rw [hu']
            by_cases z : p = v
            · rw [if_pos ⟨rfl, z⟩, z]
            · rw [if_neg (by omega), if_neg (by omega)]; exact hg p hp
          · have := dgc_le (dT0 T) p
            rw [hu', if_neg (by omega)]
            show _ = (((if xK T t = 3 ∧ nam T (xA T (t + 1)) = (p : Int) then xI T (t + 2 + i) else rwT T t p i) : Nat) : Int)
            by_cases z : p = v
            · subst z
              rw [if_pos (by omega), if_pos ⟨y, ev⟩, show 10 * p + i - 10 * p = i by omega]
            · rw [if_neg (by omega), if_neg (by omega)]
              exact hr p i hp hi
          · rw [hu', if_neg (by omega), if_neg (by omega)]; exact ho c j a b
        · refine ih (t + 1) u (by omega) (by omega) hg (fun p i hp hi => ?_) ho
          show _ = (((if xK T t = 3 ∧ nam T (xA T (t + 1)) = (p : Int) then xI T (t + 2 + i) else rwT T t p i) : Nat) : Int)
          rw [if_neg (by omega)]
          exact hr p i hp hi
  exact ⟨xN T + 1, loop (xN T + 1) 0 w5 (by omega) (by omega) (fun p hp => g5 p hp) (fun p i hp hi => r5 p i hp hi) (fun c j _ _ => rfl)⟩
end DRAW
