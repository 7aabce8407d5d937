/-! COLOURS at the model -/
theorem X11_isClash_ok {Q : Int → Wd → Prop} {w : Wd} {D : Dw} {x : Int} (f c L : Nat) (p : Nat → Nat) (hx : x = (f : Int)) (hf : f < 16) (hL : w 85 f = (L : Int)) (hB : Bts L 16 (BsR D f)) (hc : w 86 f = (c : Int)) (hc2 : c < 100) (hp : ∀ g, g < f → w 86 g = (p g : Int) ∧ p g < 100) (h1 : ¬ (∀ g, g < f → BsR D f g → p g ≠ c) → Q 1 w) (h0 : (∀ g, g < f → BsR D f g → p g ≠ c) → Q 0 w) : X11_isClash x w Q := by
  subst hx
  have hL16 : L < 65536 := hB.1
  have key : ∀ (m g : Nat), g ≤ f → f - g < m → (∀ i, i < g → BsR D f i → p i ≠ c) → X11_isClash_l2 Q (X11_isClash_b35 Q) (X11_isClash_b43 Q) m (f : Int) (g : Int) w := by
    intro m
    induction m with
    | zero => intro g a1 a2; omega
    | succ m ih =>
      intro g a1 a2 hok
      unfold X11_isClash_l2
      rw [wr_nat (n := f) (by omega), wr_nat (n := g) (by omega)]
      refine ⟨fun z => ?_, fun z => ⟨ix_of rfl (by omega) (by decide), ?_⟩⟩
      · have : g = f := by omega
        subst this
        exact h0 hok
      · have r2 : rd w 85 (f : Int) = (L : Int) := by rw [rd_of rfl (by omega)]; exact hL
        rw [r2]
        have hbit := hB.2 g (by omega)
        have hpg := hp g (by omega)
        refine X11_has_ok L g rfl rfl (by omega) (by omega) (fun b => ⟨fun y => absurd y (by decide), fun _ => ⟨ix_of rfl (by omega) (by decide), ix_of rfl (by omega) (by decide), ?_⟩⟩) (fun b => ⟨fun _ => ?_, fun y => absurd (by decide) y⟩)
        · rw [rd_of (n := g) rfl (by omega), rd_of (n := f) rfl (by omega), hpg.1, hc, wr_nat (by omega), wr_nat (by omega), show (g : Int) + 1 = ((g + 1 : Nat) : Int) by omega]
          refine ⟨fun z2 => h1 (fun y => y g (by omega) (hbit.mp b) (by omega)), fun z2 => ih (g + 1) (by omega) (by omega) (fun i hi hb => ?_)⟩
          by_cases q : i = g
          · rw [q]; omega
          · exact hok i (by omega) hb
        · rw [show (g : Int) + 1 = ((g + 1 : Nat) : Int) by omega]
          refine ih (g + 1) (by omega) (by omega) (fun i hi hb => ?_)
          by_cases q : i = g
          · rw [q] at hb; rw [hbit.mpr hb] at b; exact absurd b (by decide)
          · exact hok i (by omega) hb
  exact ⟨f + 1, key (f + 1) 0 (by omega) (by omega) (fun i hi => by omega)⟩
/-- a colouring goes on, with a later colour -/
def ExtV (D : Dw) (k n f : Nat) (p : Nat → Nat) (v : Int) : Prop := ∃ c, Good D k n c ∧ (∀ g, g < f → c g = p g) ∧ v < c f
/-- steps enough for a face, counted from the last one -/
def stC (k : Nat) : Nat → Nat
  | 0 => 1
  | a + 1 => 1 + stC k a * (k + 1)
theorem stC_pos (k : Nat) : ∀ a, 1 ≤ stC k a
  | 0 => Nat.le_refl _
  | a + 1 => by show 1 ≤ 1 + _; omega
/-- the model's rows of faces beside each other -/
def RepB (w : Wd) (D : Dw) : Prop := ∀ f, f < nFa D → ∃ L : Nat, w 85 f = (L : Int) ∧ Bts L 16 (BsR D f)
theorem enough_l13 {D : Dw} {Q : Int → Wd → Prop} {e97 : Int → Int → Wd → Prop} {w0 : Wd} {k : Nat} (hn : nFa D ≤ 16) (hk : k ≤ 16) (hB : RepB w0 D) (hy : ∀ w', (∀ c j, c ≠ 86 → w' c j = w0 c j) → (∃ c, Good D k (nFa D) c) → e97 (nFa D : Int) (nFa D : Int) w') :
    ∀ (a f : Nat), a + f = nFa D → ∀ (b : Nat) (v : Int) (p : Nat → Nat) (w : Wd) (M0 : Nat), v + 1 + b = (k : Int) → -1 ≤ v → (∀ c j, c ≠ 86 → w c j = w0 c j) → (∀ g, g < f → w 86 g = (p g : Int)) → Good D k f p → (f < nFa D → w 86 f = v) →
      (¬ ExtV D k (nFa D) f p v → ∀ w' m', (∀ c j, c ≠ 86 → w' c j = w0 c j) → (∀ g, g < f → w' 86 g = (p g : Int)) → M0 ≤ m' → X11_areEnough_l13 Q e97 m' (nFa D : Int) (k : Int) ((f : Int) - 1) w') → ∀ m, M0 + stC k a * (b + 1) ≤ m → X11_areEnough_l13 Q e97 m (nFa D : Int) (k : Int) (f : Int) w := by
  intro a
  induction a with
  | zero =>
    intro f haf b v p w M0 hv hv1 hoff hpw hg _ _ m hm
    have : stC k 0 * (b + 1) = b + 1 := by show 1 * (b + 1) = _; omega
    obtain ⟨m1, rfl⟩ : ∃ m1, m = m1 + 1 := ⟨m - 1, by omega⟩
    unfold X11_areEnough_l13
    rw [wr_nat (n := nFa D) (by omega), wr_nat (n := f) (by omega)]
    have hf : f = nFa D := by omega
    subst hf
    exact ⟨fun z => by omega, fun _ => ⟨fun _ => hy w hoff ⟨p, hg⟩, fun z => by omega⟩⟩
  | succ a iha =>
    intro f haf b
    have hf : f < nFa D := by omega
    have hC : stC k (a + 1) = 1 + stC k a * (k + 1) := rfl
    induction b using Nat.strongRecOn with
    | _ b ihb =>
      intro v p w M0 hv hv1 hoff hpw hg hwf hback m hm
      have hCp := stC_pos k (a + 1)
      have hmul : stC k (a + 1) ≤ stC k (a + 1) * (b + 1) := Nat.le_mul_of_pos_right _ (by omega)
      obtain ⟨m1, rfl⟩ : ∃ m1, m = m1 + 1 := ⟨m - 1, by omega⟩
      obtain ⟨L, hL, hBf⟩ := hB f hf
      have hpl : ∀ g, g < f → p g < k := fun g hgf => (hg g hgf).1
      unfold X11_areEnough_l13
      rw [wr_nat (n := nFa D) (by omega), wr_nat (n := f) (by omega)]
      refine ⟨fun z => by omega, fun _ => ⟨fun z => by omega, fun _ => ⟨ix_of rfl (by omega) (by decide), ix_of rfl (by omega) (by decide), fun w1 e1 => ?_⟩⟩⟩
      rw [wt_of rfl (by omega), rd_of rfl (by omega), hwf hf] at e1
      -- the next colour that goes
      have inner : ∀ (q x : Nat) (u : Wd), x ≤ k → k - x < q → (∀ c j, c ≠ 86 → u c j = w0 c j) → (∀ g, g < f → u 86 g = (p g : Int)) → u 86 f = (x : Int) → v < (x : Int) → (∀ y : Nat, v < (y : Int) → y < x → ¬ (∀ g, g < f → BsR D f g → p g ≠ y)) → X11_areEnough_l32 Q (X11_areEnough_b63 Q (X11_areEnough_l13 Q e97 m1) e97) q (nFa D : Int) (k : Int) (f : Int) u := by
        intro q
        induction q with
        | zero => intro x u b1 b2; omega
        | succ q ihq =>
          intro x u b1 b2 uoff up_ ux hvx hno
          unfold X11_areEnough_l32
          have r1 : rd u 86 (f : Int) = (x : Int) := by rw [rd_of rfl (by omega)]; exact ux
          rw [r1, wr_nat (n := k) (by omega), wr_nat (n := x) (by omega)]
          refine ⟨ix_of rfl (by omega) (by decide), fun z => ?_, fun z => ?_⟩
          · -- none is left
            unfold X11_areEnough_b63
            rw [r1, wr_nat (n := k) (by omega), wr_nat (n := x) (by omega)]
            refine ⟨ix_of rfl (by omega) (by decide), fun _ => ?_, fun z2 => by omega⟩
            refine hback ?_ u m1 uoff up_ (by omega)
            rintro ⟨c, c1, c2, c3⟩
            have := (c1 f hf).1
            exact hno (c f) c3 (by omega) (fun g hgf hb => by rw [← c2 g hgf]; exact (c1 f hf).2 g hgf hb)
          · refine X11_isClash_ok (D := D) f x L p rfl (by omega) (by rw [uoff _ _ (by omega)]; exact hL) hBf ux (by omega) (fun g hgf => ⟨up_ g hgf, by have := hpl g hgf; omega⟩) (fun hcl => ⟨fun y => absurd y (by decide), fun _ => ⟨ix_of rfl (by omega) (by decide), ix_of rfl (by omega) (by decide), fun w4 e4 => ?_⟩⟩) (fun hfree => ⟨fun _ => ?_, fun y => absurd (by decide) y⟩)
            · rw [wt_of rfl (by omega), r1] at e4
              refine ihq (x + 1) w4 (by omega) (by omega) (fun c j hc => by rw [e4, up_ap, if_neg (by omega)]; exact uoff c j hc) (fun g hgf => by rw [e4, up_ap, if_neg (by omega)]; exact up_ g hgf) (by rw [e4, up_eq]; omega) (by omega) (fun y hy1 hy2 => ?_)
              by_cases z2 : y = x
              · rw [z2]; exact hcl
              · exact hno y hy1 (by omega)
            · -- it goes
              obtain ⟨p', hpe⟩ : ∃ p' : Nat → Nat, p' = fun g => if g = f then x else p g := ⟨_, rfl⟩
              have hpj : p' f = x := by rw [hpe]; exact if_pos rfl
              have hpn : ∀ g, g ≠ f → p' g = p g := fun g hg => by rw [hpe]; exact if_neg hg
              have hg' : Good D k (f + 1) p' := fun g hgf => by
                by_cases z2 : g = f
                · subst z2
                  rw [hpj]
                  refine ⟨by omega, fun i hi hb => ?_⟩
                  rw [hpn i (by omega)]
                  exact hfree i hi hb
                · rw [hpn g z2]
                  refine ⟨(hg g (by omega)).1, fun i hi hb => ?_⟩
                  rw [hpn i (by omega)]
                  exact (hg g (by omega)).2 i hi hb
              -- how many steps are left
              obtain ⟨bx, hbx⟩ : ∃ bx : Nat, (x : Int) + 1 + bx = k := ⟨k - x - 1, by omega⟩
              have hbxb : bx + 1 ≤ b := by omega
              have hmul2 : stC k (a + 1) * (bx + 1) + stC k (a + 1) ≤ stC k (a + 1) * (b + 1) := by
                rw [← Nat.mul_succ]
                exact Nat.mul_le_mul_left _ (by omega)
              have next : ∀ u' : Wd, (∀ c j, c ≠ 86 → u' c j = w0 c j) → (∀ g, g < f + 1 → u' 86 g = (p' g : Int)) → (f + 1 < nFa D → u' 86 (f + 1) = -1) → X11_areEnough_l13 Q e97 m1 (nFa D : Int) (k : Int) ((f + 1 : Nat) : Int) u' := by
                intro u' o' p1 p2
                refine iha (f + 1) (by omega) k (-1) p' u' (M0 + stC k (a + 1) * (bx + 1)) (by omega) (by omega) o' p1 hg' p2 (fun hne w' m' o2 p3 hm' => ?_) m1 (by omega)
                rw [show ((f + 1 : Nat) : Int) - 1 = (f : Int) by omega]
                refine ihb bx (by omega) (x : Int) p w' M0 (by omega) (by omega) o2 (fun g hgf => by rw [p3 g (by omega), hpn g (by omega)]) hg (fun _ => by rw [p3 f (by omega), hpj]) (fun hne2 => hback (fun ⟨c, c1, c2, c3⟩ => ?_)) m' hm'
                rcases Int.lt_trichotomy (x : Int) (c f) with z2 | z2 | z2
                · exact hne2 ⟨c, c1, c2, z2⟩
                · refine hne ⟨c, c1, fun g hgf => ?_, by omega⟩
                  by_cases z3 : g = f
                  · rw [z3, hpj]; omega
                  · rw [hpn g z3]; exact c2 g (by omega)
                · exact hno (c f) c3 (by omega) (fun g hgf hb => by rw [← c2 g hgf]; exact (c1 f hf).2 g hgf hb)
              unfold X11_areEnough_b63
              rw [r1, wr_nat (n := k) (by omega), wr_nat (n := x) (by omega), show (f : Int) + 1 = ((f + 1 : Nat) : Int) by omega, wr_nat (n := nFa D) (by omega), wr_nat (n := f + 1) (by omega)]
              have pp : ∀ g, g < f + 1 → u 86 g = (p' g : Int) := fun g hgf => by
                by_cases z2 : g = f
                · rw [z2, hpj]; exact ux
                · rw [hpn g z2]; exact up_ g (by omega)
              refine ⟨ix_of rfl (by omega) (by decide), fun z2 => by omega, fun _ => ⟨fun z2 => next u uoff pp (fun z3 => by omega), fun z2 => ⟨ix_of rfl (by omega) (by decide), fun w5 e5 => ?_⟩⟩⟩
              rw [wt_of rfl (by omega)] at e5
              exact next w5 (fun c j hc => by rw [e5, up_ap, if_neg (by omega)]; exact uoff c j hc) (fun g hgf => by rw [e5, up_ap, if_neg (by omega)]; exact pp g hgf) (fun _ => by rw [e5, up_eq])
      obtain ⟨x, hx⟩ : ∃ x : Nat, v + 1 = (x : Int) := ⟨(v + 1).toNat, by omega⟩
      exact ⟨k + 1, inner (k + 1) x w1 (by omega) (by omega) (fun c j hc => by rw [e1, up_ap, if_neg (by omega)]; exact hoff c j hc) (fun g hgf => by rw [e1, up_ap, if_neg (by omega)]; exact hpw g hgf) (by rw [e1, up_eq]; exact hx) (by omega) (fun y hy1 hy2 => by omega)⟩
theorem X11_areEnough_ok {Q : Int → Wd → Prop} {w : Wd} {D : Dw} {x y : Int} (k : Nat) (hx : x = (nFa D : Int)) (hk2 : y = (k : Int)) (hn : nFa D ≤ 16) (hk : k ≤ 16) (hB : RepB w D) (hQ : ∀ w', (∀ c j, c ≠ 86 → w' c j = w c j) → ((∃ c, Good D k (nFa D) c) → Q 1 w') ∧ ((¬ ∃ c, Good D k (nFa D) c) → Q 0 w')) : X11_areEnough x y w Q := by
  subst hx hk2
  have hy : ∀ w', (∀ c j, c ≠ 86 → w' c j = w c j) → (∃ c, Good D k (nFa D) c) → X11_areEnough_b97 Q (nFa D : Int) (nFa D : Int) w' := fun w' ho hc => ⟨fun _ => (hQ w' ho).1 hc, fun z => absurd rfl z⟩
  have start : ∀ u : Wd, (∀ c j, c ≠ 86 → u c j = w c j) → (0 < nFa D → u 86 0 = -1) → ∃ m, X11_areEnough_l13 Q (X11_areEnough_b97 Q) m (nFa D : Int) (k : Int) 0 u := by
    intro u uo u0
    refine ⟨1 + stC k (nFa D) * (k + 1), enough_l13 hn hk hB hy (nFa D) 0 (by omega) k (-1) (fun _ => 0) u 1 (by omega) (by omega) uo (fun g hg => by omega) (fun g hg => by omega) u0 (fun hne w' m' o' _ hm' => ?_) _ (Nat.le_refl _)⟩
    obtain ⟨m1, rfl⟩ : ∃ m1, m' = m1 + 1 := ⟨m' - 1, by omega⟩
    unfold X11_areEnough_l13
    refine ⟨fun _ => ?_, fun z => absurd (by decide) z⟩
    unfold X11_areEnough_b97
    rw [wr_nat (n := nFa D) (by omega), show wr (((0 : Nat) : Int) - 1) = -1 by decide]
    refine ⟨fun z => by omega, fun _ => (hQ w' o').2 (fun ⟨c, hc⟩ => hne ⟨c, hc, fun g hg => by omega, by omega⟩)⟩
  unfold X11_areEnough
  rw [wr_nat (n := nFa D) (by omega)]
  refine ⟨fun z => start w (fun _ _ _ => rfl) (fun z2 => by omega), fun z => ⟨ix_of (n := 0) rfl (by decide) (by decide), fun w6 e6 => ?_⟩⟩
  rw [wt0] at e6
  exact start w6 (fun c j hc => by rw [e6, up_ap, if_neg (by omega)]) (fun _ => by rw [e6, up_eq])
theorem colours_M {Q : Int → Wd → Prop} {w : Wd} {S : Sg} (hS : SOK S) (h : HM w S) (hQ : ∀ w' r, ColA (sD S) r → HM w' S → loM w w' → Q r w') : X11_colours w Q := by
  have hW := hS.1
  have hn := nFa_lt hW
  have m10 := hW.2.1
  have hR : RepM w 73 (sD S) := h.2.2.2.1
  unfold X11_colours
  refine X11_laysBesides_ok hW hR (fun w1 hB _ o1 => ?_)
  have q1 : ∀ w' r, (∀ c j, c ≠ 86 → w' c j = w1 c j) → ColA (sD S) r → Q r w' := fun w' r ho hr => hQ w' r hr (HM.same hS h (fun c j hc => by rw [ho c j (by omega), o1 c j (by omega)])) (fun c j hc => by rw [ho c j (by omega), o1 c j (by omega)])
  have tries : (∀ e, ¬ OneS (sD S) e) → ∀ (m k : Nat) (v : Wd), k ≤ nFa (sD S) → nFa (sD S) - k < m → (∀ c j, c ≠ 86 → v c j = w1 c j) → (∀ j, j < k → ¬ ∃ c, Good (sD S) j (nFa (sD S)) c) → X11_colours_l36 Q (X11_colours_b51 Q) m (nFa (sD S) : Int) (k : Int) v := by
    intro hno m
    induction m with
    | zero => intro k v a1 a2; omega
    | succ m ih =>
      intro k v a1 a2 voff hlow
      unfold X11_colours_l36
      refine X11_areEnough_ok k rfl rfl hn (by omega) (fun f hf => by obtain ⟨L, hL, h2⟩ := hB f hf; exact ⟨L, by rw [voff _ _ (by omega)]; exact hL, h2⟩) (fun w' ho => ⟨fun he => ⟨fun y => absurd y (by decide), fun _ => ?_⟩, fun he => ⟨fun _ => ?_, fun y => absurd (by decide) y⟩⟩)
      · unfold X11_colours_b51
        rw [wr_nat (by omega)]
        exact q1 w' _ (fun c j hc => by rw [ho c j hc, voff c j hc]) (Or.inr ⟨hno, k, rfl, he, hlow⟩)
      · have hkn : k ≠ nFa (sD S) := fun y => he (by rw [y]; exact ⟨_, good_all _⟩)
        rw [show (k : Int) + 1 = ((k + 1 : Nat) : Int) by omega]
        refine ih (k + 1) w' (by omega) (by omega) (fun c j hc => by rw [ho c j hc, voff c j hc]) (fun j hj => ?_)
        by_cases q : j = k
        · rw [q]; exact he
        · exact hlow j (by omega)
  have selfs : ∀ (m f : Nat), f ≤ nFa (sD S) → nFa (sD S) - f < m → (∀ g, g < f → ¬ BsR (sD S) g g) → X11_colours_l7 Q (X11_colours_b25 Q) (X11_colours_b34 Q) m (nFa (sD S) : Int) (f : Int) w1 := by
    intro m
    induction m with
    | zero => intro f a1 a2; omega
    | succ m ih =>
      intro f a1 a2 hno
      unfold X11_colours_l7
      rw [wr_nat (n := nFa (sD S)) (by omega), wr_nat (n := f) (by omega)]
      refine ⟨fun z => ?_, fun z => ⟨ix_of rfl (by omega) (by decide), ?_⟩⟩
      · unfold X11_colours_b34
        refine ⟨nFa (sD S) + 1, tries (fun e he => ?_) (nFa (sD S) + 1) 0 w1 (by omega) (by omega) (fun _ _ _ => rfl) (fun j hj => by omega)⟩
        have hm := he.1
        have hf1 := fo_lt hW (show 2 * e < 4 * dM (sD S) by omega)
        have hle : nF (sD S) (4 * dM (sD S)) ≤ nFa (sD S) := by unfold nFa; omega
        exact hno (fo (sD S) (2 * e)) (by omega) ⟨e, hm, Or.inl ⟨rfl, he.2.symm⟩⟩
      · obtain ⟨L, hL, hBf⟩ := hB f (by omega)
        have hL16 : L < 65536 := hBf.1
        rw [rd_of rfl (by omega), hL]
        refine X11_has_ok L f rfl rfl (by omega) (by omega) (fun b => ⟨fun y => absurd y (by decide), fun _ => ?_⟩) (fun b => ⟨fun _ => ?_, fun y => absurd (by decide) y⟩)
        · exact q1 w1 _ (fun _ _ _ => rfl) (Or.inl ⟨BsR_self ((hBf.2 f (by omega)).mp b), by decide⟩)
        · rw [show (f : Int) + 1 = ((f + 1 : Nat) : Int) by omega]
          refine ih (f + 1) (by omega) (by omega) (fun g hg y => ?_)
          by_cases q : g = f
          · rw [q] at y; rw [(hBf.2 f (by omega)).mpr y] at b; exact absurd b (by decide)
          · exact hno g (by omega) y
  exact ⟨nFa (sD S) + 1, selfs (nFa (sD S) + 1) 0 (by omega) (by omega) (fun g hg => by omega)⟩
