/-! TEXTS: the model's lines -/
def LnM (w : Wd) (T : Tx) (c : Nat) : Prop := w 65 21 = (c : Int) ∧ c ≤ nL T ∧ (∀ i, i < 2 * c → w 74 (2 + i) = enA T i) ∧ (∀ e, e < c → w 74 (22 + e) = if xK T (lT T e + 3) = 4 then 1 else 0) ∧ ∀ i, 32 ≤ i → i < 98 → w 74 i = 0
section MLINE
variable {w : Wd} {T : Tx} {nv pl : Nat → Nat} {t : Nat} {Q : Wd → Prop} {S : Nat → Nat → Prop}
theorem mline_step {c2 : Int → Int → Wd → Prop} {e58 : Int → Wd → Prop} {y x : Int} {c : Nat} (x2 : Nat) (hx2 : x2 < 2) (hx : x = (x2 : Int)) (hy : y = (t : Int)) (h : TCm w T nv pl) (hN : NmM w T nv (nP T)) (hj : t + 1 + x2 < xN T) (hk : xK T (t + 1 + x2) = 5) (hc : w 65 21 = (c : Int)) (hc10 : c < 10) (hS : Wst w pl (xN T) S) (hK : ∀ u, u 74 (2 + (2 * c + x2)) = nam T (xA T (t + 1 + x2)) → Wst u pl (xN T) (fun a b => S a b ∨ (a = t + 1 + x2 ∧ b = 4 ∧ nam T (xA T (t + 1 + x2)) = -1)) → (∀ c' i, ¬ (c' = 65 ∧ (i = 14 ∨ i = 15)) → ¬ (c' = 74 ∧ i = 2 + (2 * c + x2)) → u c' i = w c' i) → c2 (t : Int) (x + 1) u) : ix ((y + 1) + x) 403 ∧ X11_named (rd w 71 ((y + 1) + x)) w (fun y2 w1 => ((0 ≤ wr y2 → X11_meansLine_b36 Q c2 e58 y x y2 w1) ∧ (¬ 0 ≤ wr y2 → X11_wrong 4 ((y + 1) + x) w1 (fun w4 => X11_meansLine_b36 Q c2 e58 y x y2 w4)))) := by
  subst hx; subst hy
  obtain ⟨n4, p6, l10⟩ := h.1.le
  have p6 : nP T ≤ 6 := p6
  have a1 := (h.2.2.2.2.1 (t + 1 + x2) hj).2.2.2.2.1 hk
  rw [show (t : Int) + 1 + (x2 : Int) = ((t + 1 + x2 : Nat) : Int) by omega, rd_of rfl (by omega)]
  have put : ∀ (u : Wd), (∀ c' i, ¬ (c' = 65 ∧ (i = 14 ∨ i = 15)) → u c' i = w c' i) → Wst u pl (xN T) (fun a b => S a b ∨ (a = t + 1 + x2 ∧ b = 4 ∧ nam T (xA T (t + 1 + x2)) = -1)) → X11_meansLine_b36 Q c2 e58 (t : Int) (x2 : Int) (nam T (xA T (t + 1 + x2))) u := fun u o hW => by
    unfold X11_meansLine_b36
    rw [o 65 21 (by decide), hc, show (2 : Int) + 2 * (c : Int) + (x2 : Int) = ((2 + (2 * c + x2) : Nat) : Int) by omega]
    refine ⟨ix_of rfl (by omega) (by decide), fun w3 e3 => ?_⟩
    rw [wt_of rfl (by omega)] at e3
    have o3 : ∀ c' i, ¬ (c' = 74 ∧ i = 2 + (2 * c + x2)) → w3 c' i = u c' i := fun c' i a => by rw [e3, up_ap, if_neg a]
    exact hK w3 (by rw [e3, up_eq]) (hW.of (o3 _ _ (by omega)) (o3 _ _ (by omega))) (fun c' i a b => by rw [o3 c' i b, o c' i a])
  refine ⟨ix_of rfl (by omega) (by decide), X11_named_ok (t + 1 + x2) a1.1 hj hk h hN ?_⟩
  show (0 ≤ wr (nam T (xA T (t + 1 + x2))) → _) ∧ (¬ 0 ≤ wr (nam T (xA T (t + 1 + x2))) → _)
  rcases nam_ok (T := T) (xA T (t + 1 + x2)) with e | ⟨v, e1, e2, -⟩
  · refine ⟨fun k => by rw [e] at k; exact absurd k (by decide), fun _ => X11_wrong_ok 4 (t + 1 + x2) rfl rfl h (by decide) hj hS (fun u hW o => put u o (hW.congr (fun a b => ?_)))⟩
    rw [and_iff_left e]
  · refine ⟨fun _ => put w (fun _ _ _ => rfl) (hS.congr (fun a b => ?_)), fun k => absurd (by rw [e2, wr_nat (n := v) (by omega)]; omega) k⟩
    exact ⟨Or.inl, fun y => y.resolve_right (fun z => by have := z.2.2; omega)⟩
theorem X11_meansLine_ok {x : Int} (hx : x = (t : Int)) (h : TCm w T nv pl) (hN : NmM w T nv (nP T)) (ht : t < xN T) (hk : xK T t = 2) (hL : LnM w T (nlc (xK T) t)) (hS : Wst w pl (xN T) S) (hQ : ∀ w', LnM w' T (nlc (xK T) (t + 1)) → Wst w' pl (xN T) (fun a b => S a b ∨ Flt T t a b) → (∀ c j, ¬ (c = 65 ∧ (j = 14 ∨ j = 15 ∨ j = 21)) → c ≠ 74 → w' c j = w c j) → Q w') : X11_meansLine x w Q := by
  subst hx
  obtain ⟨n4, p6, l10⟩ := h.1.le
  have l10 : nL T ≤ 10 := l10
  obtain ⟨q1, q2, q3, q4⟩ := h.1.line ht hk
  obtain ⟨r1, r2⟩ := lT_at (T := T) ht hk
  obtain ⟨g1, g2, g3, g4, g5⟩ := hL
  have m0 : (2 * nlc (xK T) t) / 2 = nlc (xK T) t := by omega
  have m1 : (2 * nlc (xK T) t) % 2 = 0 := by omega
  have m2 : (2 * nlc (xK T) t + 1) / 2 = nlc (xK T) t := by omega
  have m3 : (2 * nlc (xK T) t + 1) % 2 = 1 := by omega
  have en0 : enA T (2 * nlc (xK T) t) = nam T (xA T (t + 1)) := by unfold enA; rw [m0, m1, r1]
  have en1 : enA T (2 * nlc (xK T) t + 1) = nam T (xA T (t + 2)) := by unfold enA; rw [m2, m3, r1]
  have es : nlc (xK T) (t + 1) = nlc (xK T) t + 1 := by rw [nlc_s, if_pos hk]
  rw [es] at hQ
  unfold X11_meansLine
  refine ⟨3, ?_⟩
  unfold X11_meansLine_l2
  refine ⟨fun k => absurd k (by decide), fun _ => mline_step 0 (by decide) rfl rfl h hN (by omega) q2 g1 (by omega) hS (fun u1 a1 S1 o1 => ?_)⟩
  have h1 : TCm u1 T nv pl := h.of (fun c i a b d => o1 c i (by omega) (by omega))
  have N1 : NmM u1 T nv (nP T) := ⟨by rw [o1 _ _ (by omega) (by omega)]; exact hN.1, hN.2.1, fun i hi => by rw [o1 _ _ (by omega) (by omega)]; exact hN.2.2 i hi⟩
  unfold X11_meansLine_l2
  refine ⟨fun k => absurd k (by decide), fun _ => mline_step 1 (by decide) rfl rfl h1 N1 (by omega) q3 (by rw [o1 _ _ (by omega) (by omega)]; exact g1) (by omega) S1 (fun u2 a2 S2 o2 => ?_)⟩
  have o2' : ∀ c i, ¬ (c = 65 ∧ (i = 14 ∨ i = 15)) → ¬ (c = 74 ∧ (i = 2 + (2 * nlc (xK T) t + 0) ∨ i = 2 + (2 * nlc (xK T) t + 1))) → u2 c i = w c i := fun c i a b => by rw [o2 c i a (by omega), o1 c i a (by omega)]
  have h2 : TCm u2 T nv pl := h.of (fun c i a b d => o2' c i (by omega) (by omega))
  unfold X11_meansLine_l2
  refine ⟨fun _ => ?_, fun k => absurd (by decide) k⟩
  have b1 := (h2.2.2.2.2.1 (t + 1) (by omega)).2.2.2.2.1 q2
  have b2 := (h2.2.2.2.2.1 (t + 2) (by omega)).2.2.2.2.1 q3
  have eqn := h2.2.2.2.2.2.1 (t + 1) (t + 2) (by omega) (by omega) q2 q3
  have fin : ∀ u3, Wst u3 pl (xN T) (fun a b => S a b ∨ Flt T t a b) → (∀ c i, ¬ (c = 65 ∧ (i = 14 ∨ i = 15)) → u3 c i = u2 c i) → X11_meansLine_b86 Q (t : Int) u3 := fun u3 S3 o3 => by
    have o3' : ∀ c i, ¬ (c = 65 ∧ (i = 14 ∨ i = 15)) → ¬ (c = 74 ∧ (i = 2 + (2 * nlc (xK T) t + 0) ∨ i = 2 + (2 * nlc (xK T) t + 1))) → u3 c i = w c i := fun c i a b => by rw [o3 c i a, o2' c i a b]
    have c21 : u3 65 21 = (nlc (xK T) t : Int) := by rw [o3' _ _ (by omega) (by omega)]; exact g1
    obtain ⟨k1, k2, -⟩ := h2.2.2.2.2.1 (t + 3) (by omega)
    have mi := (mk_iff (T := T) (t := t + 3) k2)
    unfold X11_meansLine_b86
    rw [show (t : Int) + 3 = ((t + 3 : Nat) : Int) by omega, rd_of rfl (by omega), o3 68 _ (by omega), k1, wr_nat (n := mkd (xK T (t + 3))) (by omega), show wr 22 = 22 by decide, c21, show (22 : Int) + (nlc (xK T) t : Int) = ((22 + nlc (xK T) t : Nat) : Int) by omega, mi.2.2.2.1]
    have fin2 : ∀ (b : Int) (w7 w8 : Wd), (b = if xK T (t + 3) = 4 then 1 else 0) → w7 = wt u3 74 ((22 + nlc (xK T) t : Nat) : Int) b → w8 = up w7 65 21 ((w7 65 21) + 1) → Q w8 := fun b w7 w8 hb e7 e8 => by
      rw [wt_of rfl (by omega)] at e7
      have c7 : w7 65 21 = (nlc (xK T) t : Int) := by rw [e7, up_ap, if_neg (by omega)]; exact c21
      rw [c7] at e8
      have o8 : ∀ c i, ¬ (c = 65 ∧ i = 21) → ¬ (c = 74 ∧ i = 22 + nlc (xK T) t) → w8 c i = u3 c i := fun c i a b => by rw [e8, up_ap, if_neg a, e7, up_ap, if_neg b]
      refine hQ w8 ⟨by rw [e8, up_eq]; omega, by omega, fun i hi => ?_, fun e he => ?_, fun i hi hi' => ?_⟩ (S3.of (o8 _ _ (by omega) (by omega)) (o8 _ _ (by omega) (by omega))) (fun c i a b => by rw [o8 c i (by omega) (by omega), o3' c i (by omega) (by omega)])
      · rw [o8 _ _ (by omega) (by omega), o3 _ _ (by omega)]
        by_cases y1 : i = 2 * nlc (xK T) t + 1
        · rw [y1, en1]; exact a2
        · rw [o2 _ _ (by omega) (by omega)]
          by_cases y0 : i = 2 * nlc (xK T) t
          · rw [y0, en0]; exact a1
          · rw [o1 _ _ (by omega) (by omega)]; exact g3 i (by omega)
      · by_cases y : e = nlc (xK T) t
        · rw [y, r1, ← hb, e8, up_ap, if_neg (by omega), e7, up_eq]
        · rw [o8 _ _ (by omega) (by omega), o3' _ _ (by omega) (by omega)]; exact g4 e (by omega)
      · rw [o8 _ _ (by omega) (by omega), o3' _ _ (by omega) (by omega)]; exact g5 i hi hi'
    refine ⟨ix_of rfl (by omega) (by decide), fun y => ⟨ix_of rfl (by omega) (by decide), fun w7 e7 w8 e8 => fin2 1 w7 w8 (by rw [if_pos y]) e7 e8⟩, fun y => ⟨ix_of rfl (by omega) (by decide), fun w7 e7 w8 e8 => fin2 0 w7 w8 (by rw [if_neg y]) e7 e8⟩⟩
  unfold X11_meansLine_b58
  rw [show (t : Int) + 1 = ((t + 1 : Nat) : Int) by omega, show (t : Int) + 2 = ((t + 2 : Nat) : Int) by omega, rd_of rfl (by omega), rd_of rfl (by omega), b1.1, b2.1]
  have hc := (lcm_i (a := (nv (t + 1) : Int)) (b := (nv (t + 2) : Int)) (wl_nat (by omega)) (wl_nat (by omega))).2.2.1
  rw [hc]
  refine ⟨ix_of rfl (by omega) (by decide), ix_of rfl (by omega) (by decide), fun y => X11_wrong_ok 3 (t + 2) rfl rfl h2 (by decide) (by omega) S2 (fun u3 S3 o3 => fin u3 (S3.congr (fun a b => ?_)) o3), fun y => fin u2 (S2.congr (fun a b => ?_)) (fun _ _ _ => rfl)⟩
  · have y : xA T (t + 1) = xA T (t + 2) := eqn.mp (by omega)
    constructor
    · rintro (((z | z) | z) | z)
      · exact Or.inl z
      · exact Or.inr (Or.inr (Or.inl ⟨hk, Or.inl z⟩))
      · exact Or.inr (Or.inr (Or.inl ⟨hk, Or.inr (Or.inl z)⟩))
      · exact Or.inr (Or.inr (Or.inl ⟨hk, Or.inr (Or.inr ⟨z.1, z.2, y⟩)⟩))
    · rintro (z | z)
      · exact Or.inl (Or.inl (Or.inl z))
      · rcases z with ⟨f, -⟩ | ⟨-, f | f | f⟩ | ⟨f, -⟩
        · omega
        · exact Or.inl (Or.inl (Or.inr f))
        · exact Or.inl (Or.inr f)
        · exact Or.inr ⟨f.1, f.2.1⟩
        · omega
  · constructor
    · rintro ((z | z) | z)
      · exact Or.inl z
      · exact Or.inr (Or.inr (Or.inl ⟨hk, Or.inl z⟩))
      · exact Or.inr (Or.inr (Or.inl ⟨hk, Or.inr (Or.inl z)⟩))
    · rintro (z | z)
      · exact Or.inl (Or.inl z)
      · rcases z with ⟨f, -⟩ | ⟨-, f | f | f⟩ | ⟨f, -⟩
        · omega
        · exact Or.inl (Or.inr f)
        · exact Or.inr f
        · exact absurd (by rw [eqn.mpr f.2.2]) y
        · omega
theorem X11_lines_ok {e143 : Wd → Prop} (h : TCm w T nv pl) (hN : NmM w T nv (nP T)) (hL : LnM w T 0) (hS : Wst w pl (xN T) S) (hK : ∀ w', LnM w' T (nL T) → Wst w' pl (xN T) (fun a b => S a b ∨ SK T 2 (xN T) a b) → (∀ c j, ¬ (c = 65 ∧ (j = 14 ∨ j = 15 ∨ j = 21)) → c ≠ 74 → w' c j = w c j) → e143 w') : ∃ m, X11_means_l113 Q e143 m 0 w := by
  have hO := h.1
  obtain ⟨n4, p6, l10⟩ := hO.le
  have loop : ∀ (m t : Nat) (u : Wd), t ≤ xN T + 1 → xN T + 1 - t < m → LnM u T (nlc (xK T) (min t (xN T))) → Wst u pl (xN T) (fun a b => S a b ∨ SK T 2 t a b) → (∀ c j, ¬ (c = 65 ∧ (j = 14 ∨ j = 15 ∨ j = 21)) → c ≠ 74 → u c j = w c j) → X11_means_l113 Q e143 m (t : Int) u := by
    intro m
    induction m with
    | zero => intro t u _ q; omega
    | succ m ih =>
      intro t u ht hm hL hS ho
      have hu : TCm u T nv pl := h.of (fun c j a b d => ho c j (by omega) b)
      have hNu : NmM u T nv (nP T) := ⟨by rw [ho _ _ (by omega) (by decide)]; exact hN.1, hN.2.1, fun i hi => by rw [ho _ _ (by omega) (by decide)]; exact hN.2.2 i hi⟩
      unfold X11_means_l113
      rw [hu.2.1, wr_nat (n := xN T + 1) (by omega), wr_nat (n := t) (by omega), show (t : Int) + 1 = ((t + 1 : Nat) : Int) by omega]
      refine ⟨fun z => ?_, fun z => ⟨ix_of rfl (by omega) (by decide), ?_⟩⟩
      · have e : t = xN T + 1 := by omega
        subst e
        rw [show min (xN T + 1) (xN T) = xN T by omega] at hL
        exact hK u hL (hS.congr (fun j k => or_congr_right SK_e)) ho
      · rw [rd_of rfl (by omega), show wr 21 = 21 by decide]
        by_cases y : t = xN T
        · subst y
          rw [hu.2.2.2.1, show wr 0 = 0 by decide]
          refine ⟨fun k => absurd k (by decide), fun _ => ih (xN T + 1) u (by omega) (by omega) (by rw [show min (xN T + 1) (xN T) = min (xN T) (xN T) by omega]; exact hL) (hS.congr (fun j k => or_congr_right SK_e.symm)) ho⟩
        · have ht' : t < xN T := by omega
          rw [show min t (xN T) = t by omega] at hL
          have mn : min (t + 1) (xN T) = t + 1 := by omega
          obtain ⟨k1, k2, k3, k4, k5, k6⟩ := hu.2.2.2.2.1 t ht'
          have mi := mk_iff (T := T) (t := t) k2
          rw [k1, wr_nat (n := mkd (xK T t)) (by omega)]
          refine ⟨fun z => ?_, fun z => ih (t + 1) u (by omega) (by omega) (by rw [mn, nlc_s, if_neg (fun k => z (mi.2.1.mpr k))]; exact hL) (hS.congr (fun j k => or_congr_right (SK_n ht' (fun k => z (mi.2.1.mpr k))).symm)) ho⟩
          have z := mi.2.1.mp z
          refine X11_meansLine_ok rfl hu hNu ht' z hL hS (fun w' L' S' o' => ih (t + 1) w' (by omega) (by omega) (by rw [mn]; exact L') (S'.congr (fun a b => ?_)) (fun c j a b => by rw [o' c j a b, ho c j a b]))
          rw [SK_s ht']
          constructor
          · rintro ((q | q) | q)
            · exact Or.inl q
            · exact Or.inr (Or.inl q)
            · exact Or.inr (Or.inr ⟨z, q⟩)
          · rintro (q | q | q)
            · exact Or.inl (Or.inl q)
            · exact Or.inl (Or.inr q)
            · exact Or.inr q.2
  refine ⟨xN T + 2, loop (xN T + 2) 0 w (by omega) (by omega) (by rw [show min 0 (xN T) = 0 by omega]; exact hL) (hS.congr (fun j k => ⟨Or.inl, fun y => y.resolve_right (fun y => ?_)⟩)) (fun _ _ _ _ => rfl)⟩
  obtain ⟨t', a, -⟩ := y
  omega
end MLINE
