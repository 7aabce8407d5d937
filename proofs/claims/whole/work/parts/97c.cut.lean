/-! TEXTS: tokens at the model -/
def mkd (k : Nat) : Nat := [3, 20, 21, 23, 22, 1, 2, 4].getD k 0
def ub (B : Nat → Int) (L p : Nat) : Int := if p < L then (if 0 ≤ B p then B p else B p + 256) else 0
def TpM (w : Wd) (B : Nat → Int) (L : Nat) : Prop := L ≤ 2000 ∧ w 65 4 = (L : Int) ∧ (∀ i, i < L → w 67 i = B i ∧ -128 ≤ B i ∧ B i ≤ 127) ∧ (w 72 0 = 326396 ∧ w 72 1 = 243140 ∧ w 72 2 = 8083606306 ∧ w 72 3 = 9876874)
theorem TpM.of {w w' : Wd} {B : Nat → Int} {L : Nat} (h : TpM w B L) (h0 : w' 65 4 = w 65 4) (h1 : ∀ c j, (c = 67 ∨ c = 72) → w' c j = w c j) : TpM w' B L := ⟨h.1, by rw [h0]; exact h.2.1, fun i hi => by rw [h1 _ _ (Or.inl rfl)]; exact h.2.2.1 i hi, by rw [h1 _ _ (Or.inr rfl), h1 _ _ (Or.inr rfl), h1 _ _ (Or.inr rfl), h1 _ _ (Or.inr rfl)]; exact h.2.2.2⟩
theorem ian_255 : ∀ b : Fin 256, ian ((b.val : Int) - 128) 255 = if 128 ≤ b.val then (b.val : Int) - 128 else (b.val : Int) + 128 := by decide +kernel
theorem ub_rg {B : Nat → Int} {L : Nat} (h : ∀ i, i < L → -128 ≤ B i ∧ B i ≤ 127) (p : Nat) : 0 ≤ ub B L p ∧ ub B L p ≤ 255 ∧ wr (ub B L p) = ub B L p := by
  have : 0 ≤ ub B L p ∧ ub B L p ≤ 255 := by
    unfold ub
    by_cases z : p < L
    · have := h p z
      rw [if_pos z]
      split <;> omega
    · rw [if_neg z]; omega
  exact ⟨this.1, this.2, wr_id (by omega) (by omega)⟩
theorem X11_byteAt_ok {Q : Int → Wd → Prop} {w : Wd} {B : Nat → Int} {L : Nat} {x : Int} (p : Nat) (hx : x = (p : Int)) (hp : p < 10000) (hT : TpM w B L) (hQ : Q (ub B L p) w) : X11_byteAt x w Q := by
  subst hx
  obtain ⟨t1, t2, t3, -⟩ := hT
  have hr := ub_rg (B := B) (fun i hi => (t3 i hi).2) p
  unfold X11_byteAt
  rw [t2, wr_nat (n := L) (by omega), wr_nat (n := p) (by omega)]
  refine ⟨fun z => ?_, fun z => ⟨ix_of rfl (by omega) (by decide), ?_⟩⟩
  · have e : ub B L p = 0 := by unfold ub; rw [if_neg (by omega)]
    rw [e] at hQ
    exact hQ
  · obtain ⟨b1, b2, b3⟩ := t3 p (by omega)
    have e : ian (B p) 255 = ub B L p := by
      have := ian_255 ⟨(B p + 128).toNat, by omega⟩
      have this : ian (((B p + 128).toNat : Int) - 128) 255 = if 128 ≤ (B p + 128).toNat then ((B p + 128).toNat : Int) - 128 else ((B p + 128).toNat : Int) + 128 := this
      rw [show ((B p + 128).toNat : Int) - 128 = B p by omega] at this
      rw [this]
      unfold ub
      rw [if_pos (show p < L by omega)]
      split <;> split <;> omega
    rw [rd_of rfl (by omega), b1, e, hr.2.2]
    exact hQ
theorem X11_isLetter_ok {Q : Int → Wd → Prop} {w : Wd} {x : Int} (hx : wr x = x) (h1 : isLt x = true → Q 1 w) (h0 : isLt x = false → Q 0 w) : X11_isLetter x w Q := by
  unfold X11_isLetter X11_isLetter_b16
  rw [hx, show wr 97 = 97 by decide, show wr 122 = 122 by decide]
  exact ⟨fun z => h0 (decide_eq_false (by omega)), fun z => ⟨fun y => h0 (decide_eq_false (by omega)), fun y => h1 (decide_eq_true (by omega))⟩⟩
theorem X11_isDigit_ok {Q : Int → Wd → Prop} {w : Wd} {x : Int} (hx : wr x = x) (h1 : isDg x = true → Q 1 w) (h0 : isDg x = false → Q 0 w) : X11_isDigit x w Q := by
  unfold X11_isDigit X11_isDigit_b16
  rw [hx, show wr 48 = 48 by decide, show wr 57 = 57 by decide]
  exact ⟨fun z => h0 (decide_eq_false (by omega)), fun z => ⟨fun y => h0 (decide_eq_false (by omega)), fun y => h1 (decide_eq_true (by omega))⟩⟩
theorem ub_lt {B : Nat → Int} {L : Nat} (h : ∀ i, i < L → -128 ≤ B i ∧ B i ≤ 127) (p : Nat) : (isLt (ub B L p) = true ↔ p < L ∧ isLt (B p) = true) ∧ (isDg (ub B L p) = true ↔ p < L ∧ isDg (B p) = true) ∧ (p < L → (isBl (ub B L p) = isBl (B p)) ∧ (ub B L p = 59 ↔ B p = 59)) ∧ (p < L → 0 ≤ B p → ub B L p = B p) := by
  unfold isLt isDg isBl ub
  by_cases z : p < L
  · have := h p z
    rw [if_pos z]
    by_cases y : 0 ≤ B p
    · rw [if_pos y]
      exact ⟨⟨fun k => ⟨z, k⟩, fun k => k.2⟩, ⟨fun k => ⟨z, k⟩, fun k => k.2⟩, fun _ => ⟨rfl, Iff.rfl⟩, fun _ _ => rfl⟩
    · rw [if_neg y]
      refine ⟨?_, ?_, fun _ => ⟨?_, by omega⟩, fun _ k => absurd k y⟩
      · rw [decide_eq_true_eq, decide_eq_true_eq]; omega
      · rw [decide_eq_true_eq, decide_eq_true_eq]; omega
      · rw [decide_eq_false (by omega), decide_eq_false (by omega)]
  · rw [if_neg z]
    exact ⟨⟨fun k => absurd k (by decide), fun k => absurd k.1 z⟩, ⟨fun k => absurd k (by decide), fun k => absurd k.1 z⟩, fun k => absurd k z, fun k => absurd k z⟩
theorem X11_token_ok {Q : Wd → Prop} {w : Wd} {x1 x2 x3 x4 : Int} (t : Nat) (ht : t < 403) (h : w 65 10 = (t : Int)) (hQ : ∀ w', w' 65 10 = ((t + 1 : Nat) : Int) → w' 68 t = x1 → w' 69 t = x2 → w' 70 t = x3 → w' 71 t = x4 → (∀ c j, ¬ (c = 65 ∧ j = 10) → ¬ ((c = 68 ∨ c = 69 ∨ c = 70 ∨ c = 71) ∧ j = t) → w' c j = w c j) → Q w') : X11_token x1 x2 x3 x4 w Q := by
  unfold X11_token
  rw [h]
  refine ⟨ix_of rfl ht (by decide), fun w1 e1 => ?_⟩
  rw [wt_of rfl (by omega)] at e1
  have o1 : ∀ c j, ¬ (c = 68 ∧ j = t) → w1 c j = w c j := fun c j hc => by rw [e1, up_ap, if_neg hc]
  rw [o1 65 10 (by omega), h]
  refine ⟨ix_of rfl ht (by decide), fun w2 e2 => ?_⟩
  rw [wt_of rfl (by omega)] at e2
  have o2 : ∀ c j, ¬ (c = 69 ∧ j = t) → w2 c j = w1 c j := fun c j hc => by rw [e2, up_ap, if_neg hc]
  rw [o2 65 10 (by omega), o1 65 10 (by omega), h]
  refine ⟨ix_of rfl ht (by decide), fun w3 e3 => ?_⟩
  rw [wt_of rfl (by omega)] at e3
  have o3 : ∀ c j, ¬ (c = 70 ∧ j = t) → w3 c j = w2 c j := fun c j hc => by rw [e3, up_ap, if_neg hc]
  rw [o3 65 10 (by omega), o2 65 10 (by omega), o1 65 10 (by omega), h]
  refine ⟨ix_of rfl ht (by decide), fun w4 e4 w5 e5 => ?_⟩
  rw [wt_of rfl (by omega)] at e4
  have o4 : ∀ c j, ¬ (c = 71 ∧ j = t) → w4 c j = w3 c j := fun c j hc => by rw [e4, up_ap, if_neg hc]
  rw [o4 65 10 (by omega), o3 65 10 (by omega), o2 65 10 (by omega), o1 65 10 (by omega), h] at e5
  have o5 : ∀ c j, ¬ (c = 65 ∧ j = 10) → w5 c j = w4 c j := fun c j hc => by rw [e5, up_ap, if_neg hc]
  refine hQ w5 (by rw [e5, up_eq]; omega) ?_ ?_ ?_ ?_ (fun c j c1 c2 => by rw [o5 c j c1, o4 c j (by omega), o3 c j (by omega), o2 c j (by omega), o1 c j (by omega)])
  · rw [o5 _ _ (by omega), o4 _ _ (by omega), o3 _ _ (by omega), o2 _ _ (by omega), e1, up_eq]
  · rw [o5 _ _ (by omega), o4 _ _ (by omega), o3 _ _ (by omega), e2, up_eq]
  · rw [o5 _ _ (by omega), o4 _ _ (by omega), e3, up_eq]
  · rw [o5 _ _ (by omega), e4, up_eq]
/-- a token as the model holds it -/
def TkM1 (w : Wd) (B : Nat → Int) (L j : Nat) : Prop := w 68 j = (mkd (kdT B L j) : Int) ∧ w 69 j = (tsq B L j : Int) ∧ (kdT B L j = 6 → w 70 j = (ivl B L (tsq B L j) : Int)) ∧ (kdT B L j = 5 → w 71 j = (nmv 27 B L (tsq B L j) : Int))
def CuM (w : Wd) (B : Nat → Int) (L t : Nat) : Prop := w 65 10 = (t : Int) ∧ (∀ j, j < t → TkM1 w B L j) ∧ (∀ j, j < t → tsq B L j < L)
def offC (w w' : Wd) : Prop := ∀ c j, ¬ (c = 65 ∧ j = 10) → (c < 68 ∨ 71 < c) → w' c j = w c j
theorem spl_un {B : Nat → Int} {L i j k : Nat} (hj : 1 ≤ j) (hj4 : j ≤ 4) (hk : 1 ≤ k) (hk4 : k ≤ 4) (h : spl B L i j) (g : spl B L i k) : j = k := by
  have l : ∀ q : Fin 5, 1 ≤ q.val → 0 < kln q.val := by decide
  have u : ∀ p q : Fin 5, 1 ≤ p.val → 1 ≤ q.val → kw p.val 0 = kw q.val 0 → p.val = q.val := by decide
  have h0 := h.2 0 (l ⟨j, by omega⟩ hj)
  have g0 := g.2 0 (l ⟨k, by omega⟩ hk)
  exact u ⟨j, by omega⟩ ⟨k, by omega⟩ hj hk (by show kw j 0 = kw k 0; rw [← h0, ← g0])
theorem key_spl {B : Nat → Int} {L i k : Nat} (hi : i ≤ L) (hk : 1 ≤ k) (hk4 : k ≤ 4) : nmv 27 B L i = vb 27 (kw k) (kln k) ↔ spl B L i k := by
  have l : ∀ q : Fin 5, kln q.val ≤ 7 ∧ ∀ j : Fin 7, j.val < kln q.val → 1 ≤ kw q.val j.val ∧ kw q.val j.val ≤ 26 := by decide
  have lk := l ⟨k, by omega⟩
  have lk1 : kln k ≤ 7 := lk.1
  constructor
  · intro h
    obtain ⟨h1, h2⟩ := vb_inj (b := 27) (by decide) _ _ (fun j hj => by have := dgl_ok hi hj; exact ⟨this.1, this.2.1⟩) (fun j hj => lk.2 ⟨j, by omega⟩ hj) h
    exact ⟨h1, fun j hj => h2 j (by rw [h1]; exact hj)⟩
  · rintro ⟨h1, h2⟩
    unfold nmv
    rw [h1]
    exact vb_congr _ h2
theorem keys_v : vb 27 (kw 1) (kln 1) = 326396 ∧ vb 27 (kw 2) (kln 2) = 243140 ∧ vb 27 (kw 4) (kln 4) = 8083606306 ∧ vb 27 (kw 3) (kln 3) = 9876874 := by decide
theorem X11_cutsText_ok {Q : Wd → Prop} {w : Wd} {B : Nat → Int} {L : Nat} (hT : TpM w B L) (hQ : ∀ w' n, Tn B L n → (∀ j, j < n → j ≤ 400 → TkM1 w' B L j) → (n ≤ 400 → w' 68 n = 0 ∧ w' 69 n = (L : Int)) → w' 65 10 = ((min (n + 1) 401 : Nat) : Int) → offC w w' → Q w') : X11_cutsText w Q := by
  have hL := hT.1
  have hB : ∀ i, i < L → -128 ≤ B i ∧ B i ≤ 127 := fun i hi => (hT.2.2.1 i hi).2
  have TT : ∀ v, offC w v → TpM v B L := fun v o => hT.of (o _ _ (by omega) (by omega)) (fun c j hc => o c j (by omega) (by omega))
  have loop : ∀ (m i t : Nat) (v : Wd), i ≤ L → L - i < m → t ≤ 401 → nbk B L i = tsq B L t → CuM v B L t → offC w v → X11_cutsText_l7 Q (X11_cutsText_b31 Q) (X11_cutsText_b286 Q) m (i : Int) v := by
    intro m
    induction m with
    | zero => intro i t v a1 a2; omega
    | succ m ih =>
      intro i t v a1 a2 a3 hnb hC vo
      have Tv := TT v vo
      obtain ⟨c1, c2, c3⟩ := id hC
      unfold X11_cutsText_l7
      rw [c1, wr_nat (n := t) (by omega), show wr 400 = 400 by decide]
      refine ⟨fun z => ?_, fun z => ?_⟩
      · have ht : t = 401 := by omega
        subst ht
        obtain ⟨n, -, hn⟩ := Tn_ex B L
        have hn401 : 401 ≤ n := by
          rcases Nat.lt_or_ge n 401 with k | k
          · have := c3 n k
            have := hn.2
            omega
          · exact k
        unfold X11_cutsText_b286
        exact hQ v n hn (fun j _ hj => c2 j (by omega)) (fun k => by omega) (by rw [c1, Nat.min_eq_right (by omega)]) vo
      · refine X11_byteAt_ok i rfl (by omega) Tv ?_
        have hr := ub_rg hB i
        have hu := ub_lt hB i
        rw [Tv.2.1, wr_nat (n := i) (by omega), wr_nat (n := L) (by omega), hr.2.2, show wr 9 = 9 by decide, show wr 10 = 10 by decide, show wr 13 = 13 by decide, show wr 32 = 32 by decide]
        refine ⟨fun hi => ?_, fun hi => ?_⟩
        · have hi : i < L := by omega
          have htn := tnd_ok (B := B) hi
          have blank : isBl (ub B L i) = true → X11_cutsText_b67 Q (X11_cutsText_l7 Q (X11_cutsText_b31 Q) (X11_cutsText_b286 Q) m) (X11_cutsText_b31 Q) (X11_cutsText_b286 Q) (i : Int) v := fun y => by
            rw [(hu.2.2.1 hi).1] at y
            unfold X11_cutsText_b67
            rw [show (i : Int) + 1 = ((i + 1 : Nat) : Int) by omega]
            exact ih (i + 1) t v (by omega) (by omega) a3 (by rw [← nbk_b hi y]; exact hnb) hC vo
          refine ⟨fun y => blank (decide_eq_true (by omega)), fun y1 => ⟨fun y => blank (decide_eq_true (by omega)), fun y2 => ⟨fun y => blank (decide_eq_true (by omega)), fun y3 => ⟨fun y => blank (decide_eq_true (by omega)), fun y4 => ?_⟩⟩⟩⟩
          have nb : isBl (B i) = false := by rw [← (hu.2.2.1 hi).1]; exact decide_eq_false (by omega)
          have hit : i = tsq B L t := by rw [← hnb, nbk_n (fun _ => nb)]
          have hts : tsq B L t < L := by rw [← hit]; exact hi
          have ekd : kdT B L t = tkd B L i := by unfold kdT; rw [← hit]
          -- a token is taken
          have took : ∀ (v' : Wd) (x3 x4 : Int), v' 65 10 = ((t + 1 : Nat) : Int) → v' 68 t = (mkd (tkd B L i) : Int) → v' 69 t = (i : Int) → v' 70 t = x3 → v' 71 t = x4 → (tkd B L i = 6 → x3 = (ivl B L i : Int)) → (tkd B L i = 5 → x4 = (nmv 27 B L i : Int)) → (∀ c j, ¬ (c = 65 ∧ j = 10) → ¬ ((c = 68 ∨ c = 69 ∨ c = 70 ∨ c = 71) ∧ j = t) → v' c j = v c j) → X11_cutsText_l7 Q (X11_cutsText_b31 Q) (X11_cutsText_b286 Q) m (tnd B L i : Int) v' := fun v' x3 x4 p0 p1 p2 p3 p4 q6 q5 po => by
            refine ih (tnd B L i) (t + 1) v' htn.2 (by omega) (by omega) (by rw [hit]; rfl) ⟨p0, fun j hj => ?_, fun j hj => ?_⟩ (fun c j c1 c2 => by rw [po c j c1 (by omega)]; exact vo c j c1 c2)
            · by_cases k : j = t
              · subst k
                exact ⟨by rw [ekd]; exact p1, by rw [← hit]; exact p2, fun k => by rw [p3, ← hit]; exact q6 (by rw [← ekd]; exact k), fun k => by rw [p4, ← hit]; exact q5 (by rw [← ekd]; exact k)⟩
              · obtain ⟨g1, g2, g3, g4⟩ := c2 j (by omega)
                unfold TkM1
                rw [po _ _ (by omega) (by omega), po _ _ (by omega) (by omega), po _ _ (by omega) (by omega), po _ _ (by omega) (by omega)]
                exact ⟨g1, g2, g3, g4⟩
            · by_cases k : j = t
              · rw [k]; exact hts
              · exact c3 j (by omega)
          refine X11_isLetter_ok hr.2.2 (fun y => ⟨fun k => absurd k (by decide), fun _ => ?_⟩) (fun y => ⟨fun _ => ?_, fun k => absurd (by decide) k⟩)
          · -- letters
            have yl := (hu.1.mp y).2
            obtain ⟨l1, l2, l3⟩ := lLt_ok (B := B) (Nat.le_of_lt hi)
            have en : tnd B L i = i + lLt B L i := by unfold tnd; rw [if_pos yl]
            have ek : tkd B L i = if 8 < lLt B L i then 0 else @ite Nat (spl B L i 1) (Classical.propDecidable _) 1 (@ite Nat (spl B L i 2) (Classical.propDecidable _) 2 (@ite Nat (spl B L i 3) (Classical.propDecidable _) 3 (@ite Nat (spl B L i 4) (Classical.propDecidable _) 4 5))) := by unfold tkd; rw [if_pos yl]
            have b178 : ∀ (k : Nat) (nm : Int), k = mkd (tkd B L i) → (tkd B L i = 5 → nm = (nmv 27 B L i : Int)) → tkd B L i ≠ 6 → X11_cutsText_b178 Q (X11_cutsText_l7 Q (X11_cutsText_b31 Q) (X11_cutsText_b286 Q) m) (X11_cutsText_b31 Q) (X11_cutsText_b286 Q) (i : Int) (lLt B L i : Int) nm (k : Int) v := fun k nm hk h5 h6 => by
              unfold X11_cutsText_b178
              refine X11_token_ok t (by omega) c1 (fun v' p0 p1 p2 p3 p4 po => ?_)
              intro y29 e29
              have e29 : y29 = (tnd B L i : Int) := by rw [e29, en]; omega
              rw [e29]
              exact took v' 0 nm p0 (by rw [p1, hk]) p2 p3 p4 (fun q => absurd q h6) h5 po
            have b124 : ∀ nm : Int, (lLt B L i ≤ 8 → nm = (nmv 27 B L i : Int)) → X11_cutsText_b124 Q (X11_cutsText_l7 Q (X11_cutsText_b31 Q) (X11_cutsText_b286 Q) m) (X11_cutsText_b31 Q) (X11_cutsText_b286 Q) (i : Int) (lLt B L i : Int) nm v := fun nm hnm => by
              unfold X11_cutsText_b124 X11_cutsText_b135
              rw [wr_nat (n := lLt B L i) (by omega), show wr 8 = 8 by decide]
              refine ⟨fun q => ⟨fun q2 => by omega, fun _ => ?_⟩, fun q => ⟨fun _ => ?_, fun q2 => by omega⟩⟩
              · -- the four words
                have h8 : lLt B L i ≤ 8 := by omega
                have enm := hnm h8
                have hb := (vb32_8 (B := B) (Nat.le_of_lt hi) (Nat.le_refl _) h8).2
                have hb : nmv 27 B L i < 282429536481 := hb
                rw [if_neg (by omega)] at ek
                obtain ⟨kv1, kv2, kv3, kv4⟩ := keys_v
                have s1 := key_spl (B := B) (L := L) (i := i) (k := 1) (Nat.le_of_lt hi) (by decide) (by decide)
                have s2 := key_spl (B := B) (L := L) (i := i) (k := 2) (Nat.le_of_lt hi) (by decide) (by decide)
                have s3 := key_spl (B := B) (L := L) (i := i) (k := 3) (Nat.le_of_lt hi) (by decide) (by decide)
                have s4 := key_spl (B := B) (L := L) (i := i) (k := 4) (Nat.le_of_lt hi) (by decide) (by decide)
                rw [kv1] at s1
                rw [kv2] at s2
                rw [kv3] at s4
                rw [kv4] at s3
                obtain ⟨g1, g2, g3, g4⟩ := Tv.2.2.2
                have wn : wl nm = nm := by rw [enm]; exact wl_nat (by omega)
                have q1 := (lcm_i (a := 326396) (b := nm) (by decide) wn).2.2.1
                have q2 := (lcm_i (a := 243140) (b := nm) (by decide) wn).2.2.1
                have q3 := (lcm_i (a := 8083606306) (b := nm) (by decide) wn).2.2.1
                have q4 := (lcm_i (a := 9876874) (b := nm) (by decide) wn).2.2.1
                have u1 : (326396 : Int) = nm ↔ spl B L i 1 := by rw [← s1, enm]; omega
                have u2 : (243140 : Int) = nm ↔ spl B L i 2 := by rw [← s2, enm]; omega
                have u3 : (8083606306 : Int) = nm ↔ spl B L i 4 := by rw [← s4, enm]; omega
                have u4 : (9876874 : Int) = nm ↔ spl B L i 3 := by rw [← s3, enm]; omega
                have fin : ∀ k : Nat, k = mkd (tkd B L i) → X11_cutsText_l146 Q (X11_cutsText_b178 Q (X11_cutsText_l7 Q (X11_cutsText_b31 Q) (X11_cutsText_b286 Q) m) (X11_cutsText_b31 Q) (X11_cutsText_b286 Q)) 1 (i : Int) (lLt B L i : Int) nm (k : Int) 4 v := fun k hk => by
                  unfold X11_cutsText_l146
                  refine ⟨fun _ => b178 k nm hk (fun _ => enm) ?_, fun k => absurd (by decide) k⟩
                  rw [ek]
                  repeat' split
                  all_goals decide
                have n1 : ¬ spl B L i 1 → tkd B L i = (@ite Nat (spl B L i 2) (Classical.propDecidable _) 2 (@ite Nat (spl B L i 3) (Classical.propDecidable _) 3 (@ite Nat (spl B L i 4) (Classical.propDecidable _) 4 5))) := fun k => by rw [ek, if_neg k]
                have step : ∀ (mm kx : Nat) (x6 : Int), kx < 4 → (wr (lcm (rd v 72 (kx : Int)) nm) = 0 → X11_cutsText_l146 Q (X11_cutsText_b178 Q (X11_cutsText_l7 Q (X11_cutsText_b31 Q) (X11_cutsText_b286 Q) m) (X11_cutsText_b31 Q) (X11_cutsText_b286 Q)) mm (i : Int) (lLt B L i : Int) nm (20 + (kx : Int)) ((kx : Int) + 1) v) → (¬ wr (lcm (rd v 72 (kx : Int)) nm) = 0 → X11_cutsText_l146 Q (X11_cutsText_b178 Q (X11_cutsText_l7 Q (X11_cutsText_b31 Q) (X11_cutsText_b286 Q) m) (X11_cutsText_b31 Q) (X11_cutsText_b286 Q)) mm (i : Int) (lLt B L i : Int) nm x6 ((kx : Int) + 1) v) → X11_cutsText_l146 Q (X11_cutsText_b178 Q (X11_cutsText_l7 Q (X11_cutsText_b31 Q) (X11_cutsText_b286 Q) m) (X11_cutsText_b31 Q) (X11_cutsText_b286 Q)) (mm + 1) (i : Int) (lLt B L i : Int) nm x6 (kx : Int) v := fun mm kx x6 hkx y n => by
                  unfold X11_cutsText_l146
                  rw [wr_nat (n := kx) (by omega), show wr 4 = 4 by decide]
                  exact ⟨fun k => by omega, fun _ => ⟨ix_of rfl hkx (by decide), fun k y30 e30 => by rw [e30]; exact y k, n⟩⟩
                have r0 : rd v 72 ((0 : Nat) : Int) = 326396 := by rw [rd_of rfl (by decide)]; exact g1
                have r1 : rd v 72 ((1 : Nat) : Int) = 243140 := by rw [rd_of rfl (by decide)]; exact g2
                have r2 : rd v 72 ((2 : Nat) : Int) = 8083606306 := by rw [rd_of rfl (by decide)]; exact g3
                have r3 : rd v 72 ((3 : Nat) : Int) = 9876874 := by rw [rd_of rfl (by decide)]; exact g4
                have no : ∀ {a b : Nat}, 1 ≤ a → a ≤ 4 → 1 ≤ b → b ≤ 4 → a ≠ b → spl B L i a → ¬ spl B L i b := fun h1 h2 h3 h4 hne ha hb => hne (spl_un h1 h2 h3 h4 ha hb)
                refine ⟨5, step 4 0 1 (by decide) (fun k0 => ?_) (fun k0 => ?_)⟩
                · rw [r0] at k0
                  have hs := u1.mp (q1.mp k0)
                  have et : tkd B L i = 1 := by rw [ek, if_pos hs]
                  refine step 3 1 _ (by decide) (fun k => absurd (u2.mp (q2.mp (by rw [r1] at k; exact k))) (no (by decide) (by decide) (by decide) (by decide) (by decide) hs)) (fun _ => ?_)
                  refine step 2 2 _ (by decide) (fun k => absurd (u3.mp (q3.mp (by rw [r2] at k; exact k))) (no (by decide) (by decide) (by decide) (by decide) (by decide) hs)) (fun _ => ?_)
                  refine step 1 3 _ (by decide) (fun k => absurd (u4.mp (q4.mp (by rw [r3] at k; exact k))) (no (by decide) (by decide) (by decide) (by decide) (by decide) hs)) (fun _ => ?_)
                  exact fin 20 (by rw [et]; rfl)
                · have hn1 : ¬ spl B L i 1 := fun k => k0 (by rw [r0]; exact q1.mpr (u1.mpr k))
                  refine step 3 1 _ (by decide) (fun k1 => ?_) (fun k1 => ?_)
                  · rw [r1] at k1
                    have hs := u2.mp (q2.mp k1)
                    have et : tkd B L i = 2 := by rw [n1 hn1, if_pos hs]
                    refine step 2 2 _ (by decide) (fun k => absurd (u3.mp (q3.mp (by rw [r2] at k; exact k))) (no (by decide) (by decide) (by decide) (by decide) (by decide) hs)) (fun _ => ?_)
                    refine step 1 3 _ (by decide) (fun k => absurd (u4.mp (q4.mp (by rw [r3] at k; exact k))) (no (by decide) (by decide) (by decide) (by decide) (by decide) hs)) (fun _ => ?_)
                    exact fin 21 (by rw [et]; rfl)
                  · have hn2 : ¬ spl B L i 2 := fun k => k1 (by rw [r1]; exact q2.mpr (u2.mpr k))
                    refine step 2 2 _ (by decide) (fun k2 => ?_) (fun k2 => ?_)
                    · rw [r2] at k2
                      have hs := u3.mp (q3.mp k2)
                      have hn3 : ¬ spl B L i 3 := no (by decide) (by decide) (by decide) (by decide) (by decide) hs
                      have et : tkd B L i = 4 := by rw [n1 hn1, if_neg hn2, if_neg hn3, if_pos hs]
                      refine step 1 3 _ (by decide) (fun k => absurd (u4.mp (q4.mp (by rw [r3] at k; exact k))) hn3) (fun _ => ?_)
                      exact fin 22 (by rw [et]; rfl)
                    · have hn4 : ¬ spl B L i 4 := fun k => k2 (by rw [r2]; exact q3.mpr (u3.mpr k))
                      refine step 1 3 _ (by decide) (fun k3 => ?_) (fun k3 => ?_)
                      · rw [r3] at k3
                        have hs := u4.mp (q4.mp k3)
                        have et : tkd B L i = 3 := by rw [n1 hn1, if_neg hn2, if_pos hs]
                        exact fin 23 (by rw [et]; rfl)
                      · have hn3 : ¬ spl B L i 3 := fun k => k3 (by rw [r3]; exact q4.mpr (u4.mpr k))
                        have et : tkd B L i = 5 := by rw [n1 hn1, if_neg hn2, if_neg hn3, if_neg hn4]
                        exact fin 1 (by rw [et]; rfl)
              · rw [if_pos (by omega)] at ek
                exact b178 3 nm (by rw [ek]; rfl) (fun q => by omega) (by omega)
            have lt : ∀ (mm j : Nat) (nm : Int), j ≤ lLt B L i → lLt B L i - j < mm → (j ≤ 8 → nm = (vb 27 (dgl B i) j : Int)) → X11_cutsText_l85 Q (X11_cutsText_b124 Q (X11_cutsText_l7 Q (X11_cutsText_b31 Q) (X11_cutsText_b286 Q) m) (X11_cutsText_b31 Q) (X11_cutsText_b286 Q)) mm (i : Int) (j : Int) nm v := by
              intro mm
              induction mm with
              | zero => intro j nm d1 d2; omega
              | succ mm ihl =>
                intro j nm d1 d2 hnm
                have hrj := ub_rg hB (i + j)
                have huj := ub_lt hB (i + j)
                unfold X11_cutsText_l85
                refine X11_byteAt_ok (i + j) (by omega) (by omega) Tv (X11_isLetter_ok hrj.2.2 (fun q => ⟨fun k => absurd k (by decide), fun _ => ?_⟩) (fun q => ⟨fun _ => ?_, fun k => absurd (by decide) k⟩))
                · obtain ⟨q1, q2⟩ := huj.1.mp q
                  have hjn : j < lLt B L i := by
                    rcases Nat.lt_or_ge j (lLt B L i) with u | u
                    · exact u
                    · have e : j = lLt B L i := by omega
                      rw [e] at q1 q2
                      rw [l3 q1] at q2
                      exact absurd q2 (by decide)
                  obtain ⟨d3, d4, d5⟩ := dgl_ok (Nat.le_of_lt hi) hjn
                  rw [wr_nat (n := j) (by omega), show wr 8 = 8 by decide, show (j : Int) + 1 = ((j + 1 : Nat) : Int) by omega]
                  refine ⟨fun k => ihl (j + 1) nm (by omega) (by omega) (fun k8 => by omega), fun k => ?_⟩
                  refine X11_byteAt_ok (i + j) (by omega) (by omega) Tv ?_
                  have e := huj.2.2.2 q1 (by rw [d5]; omega)
                  have hb := (vb32_8 (B := B) (Nat.le_of_lt hi) (show j ≤ lLt B L i by omega) (show j ≤ 8 by omega)).2
                  have hb2 := fun h8 : j + 1 ≤ 8 => (vb32_8 (B := B) (Nat.le_of_lt hi) (show j + 1 ≤ lLt B L i by omega) h8).2
                  unfold X11_appends
                  rw [hrj.2.2, e, d5]
                  refine ⟨fun k0 => by omega, fun _ => ?_⟩
                  refine ihl (j + 1) _ (by omega) (by omega) (fun k8 => ?_)
                  have ev : vb 27 (dgl B i) (j + 1) = 27 * vb 27 (dgl B i) j + dgl B i j := rfl
                  have hb3 := hb2 k8
                  rw [ev] at hb3 ⊢
                  rw [hnm (by omega), show ((dgl B i j + 96 : Nat) : Int) - 97 + 1 = (dgl B i j : Int) by omega, wr_nat (n := dgl B i j) (by omega), show 27 * (vb 27 (dgl B i) j : Int) + (dgl B i j : Int) = ((27 * vb 27 (dgl B i) j + dgl B i j : Nat) : Int) by omega, wl_nat (by omega)]
                · have e : j = lLt B L i := by
                    rcases Nat.lt_or_ge j (lLt B L i) with u | u
                    · have hb := l2 j u
                      have : isLt (ub B L (i + j)) = true := huj.1.mpr ⟨by omega, decide_eq_true hb⟩
                      rw [this] at q
                      exact absurd q (by decide)
                    · omega
                  rw [e] at hnm ⊢
                  exact b124 nm (fun h8 => hnm h8)
            exact ⟨lLt B L i + 1, lt (lLt B L i + 1) 0 0 (by omega) (by omega) (fun _ => rfl)⟩
          · have yl : ¬ isLt (B i) = true := fun k => by rw [hu.1.mpr ⟨hi, k⟩] at y; exact absurd y (by decide)
            refine X11_isDigit_ok hr.2.2 (fun u => ⟨fun k => absurd k (by decide), fun _ => ?_⟩) (fun u => ⟨fun _ => ?_, fun k => absurd (by decide) k⟩)
            · -- digits
              have yd := (hu.2.1.mp u).2
              obtain ⟨l1, l2, l3⟩ := lDg_ok (B := B) (Nat.le_of_lt hi)
              have en : tnd B L i = i + lDg B L i := by unfold tnd; rw [if_neg yl, if_pos yd]
              have ek : tkd B L i = if 4 < lDg B L i then 0 else 6 := by unfold tkd; rw [if_neg yl, if_pos yd]
              have b260 : ∀ (k : Nat) (vl : Int), k = mkd (tkd B L i) → (tkd B L i = 6 → vl = (ivl B L i : Int)) → tkd B L i ≠ 5 → X11_cutsText_b260 Q (X11_cutsText_l7 Q (X11_cutsText_b31 Q) (X11_cutsText_b286 Q) m) (X11_cutsText_b31 Q) (X11_cutsText_b286 Q) (i : Int) (lDg B L i : Int) vl (k : Int) v := fun k vl hk h6 h5 => by
                unfold X11_cutsText_b260
                refine X11_token_ok t (by omega) c1 (fun v' p0 p1 p2 p3 p4 po => ?_)
                intro y29 e29
                have e29 : y29 = (tnd B L i : Int) := by rw [e29, en]; omega
                rw [e29]
                exact took v' vl 0 p0 (by rw [p1, hk]) p2 p3 p4 h6 (fun q => absurd q h5) po
              have b249 : ∀ vl : Int, (lDg B L i ≤ 4 → vl = (ivl B L i : Int)) → X11_cutsText_b249 Q (X11_cutsText_l7 Q (X11_cutsText_b31 Q) (X11_cutsText_b286 Q) m) (X11_cutsText_b31 Q) (X11_cutsText_b286 Q) (i : Int) (lDg B L i : Int) vl v := fun vl hvl => by
                unfold X11_cutsText_b249
                rw [wr_nat (n := lDg B L i) (by omega), show wr 4 = 4 by decide]
                refine ⟨fun q => ?_, fun q => ?_⟩
                · rw [if_neg (by omega)] at ek
                  exact b260 2 vl (by rw [ek]; rfl) (fun _ => hvl (by omega)) (by omega)
                · rw [if_pos (by omega)] at ek
                  exact b260 3 vl (by rw [ek]; rfl) (fun k => by omega) (by omega)
              have lt : ∀ (mm j : Nat) (vl : Int), j ≤ lDg B L i → lDg B L i - j < mm → (j ≤ 4 → vl = (vb 10 (dgd B i) j : Int)) → X11_cutsText_l207 Q (X11_cutsText_b249 Q (X11_cutsText_l7 Q (X11_cutsText_b31 Q) (X11_cutsText_b286 Q) m) (X11_cutsText_b31 Q) (X11_cutsText_b286 Q)) mm (i : Int) (j : Int) vl v := by
                intro mm
                induction mm with
                | zero => intro j vl d1 d2; omega
                | succ mm ihl =>
                  intro j vl d1 d2 hvl
                  have hrj := ub_rg hB (i + j)
                  have huj := ub_lt hB (i + j)
                  unfold X11_cutsText_l207
                  refine X11_byteAt_ok (i + j) (by omega) (by omega) Tv (X11_isDigit_ok hrj.2.2 (fun q => ⟨fun k => absurd k (by decide), fun _ => ?_⟩) (fun q => ⟨fun _ => ?_, fun k => absurd (by decide) k⟩))
                  · obtain ⟨q1, q2⟩ := huj.2.1.mp q
                    have hjn : j < lDg B L i := by
                      rcases Nat.lt_or_ge j (lDg B L i) with u | u
                      · exact u
                      · have e : j = lDg B L i := by omega
                        rw [e] at q1 q2
                        rw [l3 q1] at q2
                        exact absurd q2 (by decide)
                    obtain ⟨d3, d5⟩ := dgd_ok (Nat.le_of_lt hi) hjn
                    rw [wr_nat (n := j) (by omega), show wr 4 = 4 by decide, show (j : Int) + 1 = ((j + 1 : Nat) : Int) by omega]
                    refine ⟨fun k => ihl (j + 1) vl (by omega) (by omega) (fun k8 => by omega), fun k => ?_⟩
                    refine X11_byteAt_ok (i + j) (by omega) (by omega) Tv ?_
                    have e := huj.2.2.2 q1 (by rw [d5]; omega)
                    intro y17 e17
                    refine ihl (j + 1) _ (by omega) (by omega) (fun k8 => ?_)
                    rw [e17, e, d5, hvl (by omega)]
                    show _ = ((10 * vb 10 (dgd B i) j + dgd B i j : Nat) : Int)
                    omega
                  · have e : j = lDg B L i := by
                      rcases Nat.lt_or_ge j (lDg B L i) with u | u
                      · have hb := l2 j u
                        have : isDg (ub B L (i + j)) = true := huj.2.1.mpr ⟨by omega, decide_eq_true hb⟩
                        rw [this] at q
                        exact absurd q (by decide)
                      · omega
                    rw [e] at hvl ⊢
                    exact b249 vl (fun h8 => hvl h8)
              exact ⟨lDg B L i + 1, lt (lDg B L i + 1) 0 0 (by omega) (by omega) (fun _ => rfl)⟩
            · -- a sign
              have yd : ¬ isDg (B i) = true := fun k => by rw [hu.2.1.mpr ⟨hi, k⟩] at u; exact absurd u (by decide)
              have en : tnd B L i = i + 1 := by unfold tnd; rw [if_neg yl, if_neg yd]
              have ek : tkd B L i = if B i = 59 then 7 else 0 := by unfold tkd; rw [if_neg yl, if_neg yd]
              have h59 := (hu.2.2.1 hi).2
              unfold X11_sign X11_sign_b12
              rw [hr.2.2, show wr 59 = 59 by decide]
              have done : ∀ k : Nat, k = mkd (tkd B L i) → tkd B L i ≠ 5 → tkd B L i ≠ 6 → X11_token (k : Int) (i : Int) 0 0 v (fun w1 => ∀ y10, y10 = (i : Int) + wr 1 → X11_cutsText_l7 Q (X11_cutsText_b31 Q) (X11_cutsText_b286 Q) m y10 w1) := fun k hk h5 h6 => by
                refine X11_token_ok t (by omega) c1 (fun v' p0 p1 p2 p3 p4 po => ?_)
                intro y10 e10
                have e10 : y10 = (tnd B L i : Int) := by rw [e10, en, show wr 1 = 1 by decide]; rfl
                rw [e10]
                exact took v' 0 0 p0 (by rw [p1, hk]) p2 p3 p4 (fun q => absurd q h6) (fun q => absurd q h5) po
              refine ⟨fun k => ?_, fun k => ?_⟩
              · rw [if_pos (h59.mp k)] at ek
                exact done 4 (by rw [ek]; rfl) (by omega) (by omega)
              · rw [if_neg (fun q => k (h59.mpr q))] at ek
                exact done 3 (by rw [ek]; rfl) (by omega) (by omega)
        · have hiL : i = L := by omega
          have hts : tsq B L t = L := by rw [← hnb, hiL]; exact nbk_n (fun k => by omega)
          have hn : Tn B L t := ⟨c3, hts⟩
          unfold X11_cutsText_b31
          refine X11_token_ok t (by omega) c1 (fun v' p0 p1 p2 p3 p4 po => ?_)
          refine hQ v' t hn (fun j hj _ => ?_) (fun _ => ⟨p1, by rw [p2]; exact Tv.2.1⟩) (by rw [p0, Nat.min_eq_left (by omega)]) (fun c j c1 c2 => by rw [po c j c1 (by omega)]; exact vo c j c1 c2)
          obtain ⟨g1, g2, g3, g4⟩ := c2 j hj
          unfold TkM1
          rw [po _ _ (by omega) (by omega), po _ _ (by omega) (by omega), po _ _ (by omega) (by omega), po _ _ (by omega) (by omega)]
          exact ⟨g1, g2, g3, g4⟩
  unfold X11_cutsText
  intro w1 e1
  exact ⟨L + 1, loop (L + 1) 0 0 w1 (by omega) (by omega) (by omega) rfl ⟨by rw [e1, up_eq]; rfl, fun j hj => by omega, fun j hj => by omega⟩ (fun c j c1 _ => by rw [e1, up_ap, if_neg c1])⟩
