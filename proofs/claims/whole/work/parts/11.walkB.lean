abbrev rm_X0_isFree : Room := { frames := 0, cells := 0, slots := 0, locals := 0 }
theorem mf_X0_isFree : MfB yX0_isFree cX0_isFree 5 (some .boolean) 4 := ⟨wd_996, wd_10, by decide, by decide, by decide +kernel⟩
def X0_isFree_l3 (r0 : Nat) (r1 : Nat) (Q : Int → Wd → Prop) (e31 : Wd → Prop) (e39 : Wd → Prop) : Nat → Int → Int → Int → Wd → Prop
  | 0 => fun _ _ _ _ => False
  | n + 1 => fun x2 x3 x4 w => ((wr x2 ≤ wr x4 → e39 w) ∧ (¬ wr x2 ≤ wr x4 → (ix x4 16 ∧ ((wr (rd w r1 x4) = wr x3 → (ix x2 16 ∧ ((wr (ian (isr (rd w (r0 + 2) x2) x4) 1) = 0 → (X0_isFree_l3 r0 r1 Q e31 e39 n) x2 x3 (x4 + 1) w) ∧ (¬ wr (ian (isr (rd w (r0 + 2) x2) x4) 1) = 0 → e31 w)))) ∧ (¬ wr (rd w r1 x4) = wr x3 → (X0_isFree_l3 r0 r1 Q e31 e39 n) x2 x3 (x4 + 1) w)))))
theorem t_X0_isFree_l3 {Z : Zw} {E : Amb} {r0 : Nat} {r1 : Nat} {Q : Int → Wd → Prop} {e31 : Wd → Prop} {e39 : Wd → Prop} (C : Cx Z (adA Z) E cX0_isFree "HandleFaces$Colouring" 5 rm_X0_isFree) (R : Rt Z E (some .boolean) (qI Z Q)) (h0 : sX8 r0) (h1 : shp r1 = (1, 16, [])) (he31 : ∀ (w : Wd), e31 w → V Z (adA Z) E 5 w 31 [] []) (he39 : ∀ (w : Wd), e39 w → V Z (adA Z) E 5 w 39 [] []) : ∀ (n : Nat) (x2 : Int) (x3 : Int) (x4 : Int) (w : Wd), X0_isFree_l3 r0 r1 Q e31 e39 n x2 x3 x4 w → V Z (adA Z) E 5 w 3 [(0, rv Z r0), (1, rv Z r1), (2, iv x2), (3, iv x3), (4, iv x4)] [] := by
  intro n
  induction n with
  | zero => intro x2 x3 x4 w h; exact h.elim
  | succ n ih =>
    intro x2 x3 x4 w h
    unfold X0_isFree_l3 at h
    refine v_iload C dX0_isFree_3 4 rfl ?_
    refine v_iload_n C dX0_isFree_5 2 rfl ?_
    refine v_icmp_ge C 39 dX0_isFree_6 (by decide) (fun q => ?_) (fun q => ?_)
    · have h := h.1 q
      refine v_sub [] rfl ?_
      exact he39 _ h
    · have h := h.2 q
      refine v_aload_n C dX0_isFree_9 1 rfl ?_
      refine v_iload C dX0_isFree_10 4 rfl ?_
      refine v_iald C h1 h.1 dX0_isFree_12 ?_
      have h := h.2
      refine v_iload_n C dX0_isFree_13 3 rfl ?_
      refine v_icmp_ne C 33 dX0_isFree_14 (by decide) (fun q => ?_) (fun q => ?_)
      · have h := h.2 q
        refine v_iinc C [(4, _), (0, _), (1, _), (2, _), (3, _)] dX0_isFree_33 4 rfl (by decide) rfl ?_
        refine v_goto C 3 dX0_isFree_36 (by decide) ?_
        refine v_sub [1, 2, 3, 4, 0] rfl ?_
        exact ih _ _ _ _ h
      · have h := h.1 q
        refine v_aload_n C dX0_isFree_17 0 rfl ?_
        refine g_X8_neighbours C h0 wd_208 dX0_isFree_18 ?_
        refine v_iload_n C dX0_isFree_21 2 rfl ?_
        refine v_iald C h0.2.2.1 h.1 dX0_isFree_22 ?_
        have h := h.2
        refine v_iload C dX0_isFree_23 4 rfl ?_
        refine v_ishr C dX0_isFree_25 ?_
        refine v_iconst C dX0_isFree_26 ?_
        refine v_iand C dX0_isFree_27 ?_
        refine v_if_eq C 33 dX0_isFree_28 (by decide) (fun q => ?_) (fun q => ?_)
        · have h := h.1 q
          refine v_iinc C [(4, _), (0, _), (1, _), (2, _), (3, _)] dX0_isFree_33 4 rfl (by decide) rfl ?_
          refine v_goto C 3 dX0_isFree_36 (by decide) ?_
          refine v_sub [1, 2, 3, 4, 0] rfl ?_
          exact ih _ _ _ _ h
        · have h := h.2 q
          refine v_sub [] rfl ?_
          exact he31 _ h
def X0_isFree_b31 (r0 : Nat) (r1 : Nat) (Q : Int → Wd → Prop) (w : Wd) : Prop := Q 0 w
theorem t_X0_isFree_b31 {Z : Zw} {E : Amb} {r0 : Nat} {r1 : Nat} {Q : Int → Wd → Prop} (C : Cx Z (adA Z) E cX0_isFree "HandleFaces$Colouring" 5 rm_X0_isFree) (R : Rt Z E (some .boolean) (qI Z Q)) (h0 : sX8 r0) (h1 : shp r1 = (1, 16, [])) : ∀ (w : Wd), X0_isFree_b31 r0 r1 Q w → V Z (adA Z) E 5 w 31 [] [] := by
  intro w h
  unfold X0_isFree_b31 at h
  refine v_iconst C dX0_isFree_31 ?_
  exact v_zret C R (Or.inl rfl) h dX0_isFree_32
def X0_isFree_b39 (r0 : Nat) (r1 : Nat) (Q : Int → Wd → Prop) (w : Wd) : Prop := Q 1 w
theorem t_X0_isFree_b39 {Z : Zw} {E : Amb} {r0 : Nat} {r1 : Nat} {Q : Int → Wd → Prop} (C : Cx Z (adA Z) E cX0_isFree "HandleFaces$Colouring" 5 rm_X0_isFree) (R : Rt Z E (some .boolean) (qI Z Q)) (h0 : sX8 r0) (h1 : shp r1 = (1, 16, [])) : ∀ (w : Wd), X0_isFree_b39 r0 r1 Q w → V Z (adA Z) E 5 w 39 [] [] := by
  intro w h
  unfold X0_isFree_b39 at h
  refine v_iconst C dX0_isFree_39 ?_
  exact v_zret C R (Or.inr rfl) h dX0_isFree_40
def X0_isFree (r0 : Nat) (r1 : Nat) (x2 : Int) (x3 : Int) (w : Wd) (Q : Int → Wd → Prop) : Prop := (∃ m, X0_isFree_l3 r0 r1 Q (X0_isFree_b31 r0 r1 Q) (X0_isFree_b39 r0 r1 Q) m x2 x3 0 w)
theorem m_X0_isFree {Z : Zw} {l : Launch} {r0 : Nat} {r1 : Nat} {x2 : Int} {x3 : Int} {w : Wd} {Q : Int → Wd → Prop} (h0 : sX8 r0) (h1 : shp r1 = (1, 16, [])) (h : X0_isFree r0 r1 x2 x3 w Q) : CtQ Z l yX0_isFree cX0_isFree 5 (some .boolean) rm_X0_isFree [rv Z r0, rv Z r1, iv x2, iv x3] w (qI Z Q) := by
  refine ct_of (by decide) (Nat.le_of_ble_eq_true rfl) (fun E eE C R => ?_)
  subst eE
  have C : Cx Z (adA Z) E cX0_isFree "HandleFaces$Colouring" 5 rm_X0_isFree := C
  unfold X0_isFree at h
  show V Z (adA Z) E 5 w 0 [(0, rv Z r0), (1, rv Z r1), (2, iv x2), (3, iv x3)] []
  refine v_iconst C dX0_isFree_0 ?_
  refine v_istore C [(4, _), (0, _), (1, _), (2, _), (3, _)] dX0_isFree_1 (by decide) rfl ?_
  refine v_sub [1, 2, 3, 4, 0] rfl ?_
  obtain ⟨m, h⟩ := h
  exact t_X0_isFree_l3 C R h0 h1 (t_X0_isFree_b31 C R h0 h1) (t_X0_isFree_b39 C R h0 h1) m _ _ _ _ h
abbrev rm_X0_paint (d : Nat) : Room := { frames := d + 1, cells := 0, slots := 0, locals := d * 64 + 64 }
theorem mf_X0_paint : MfB yX0_paint cX0_paint 6 (some .boolean) 5 := ⟨wd_993, wd_10, by decide, by decide, by decide +kernel⟩
def X0_paint_l19 (r0 : Nat) (r1 : Nat) (Q : Int → Wd → Prop) (Rc : Int → Int → Int → Wd → (Int → Wd → Prop) → Prop) (e69 : Wd → Prop) (e77 : Wd → Prop) : Nat → Int → Int → Int → Int → Wd → Prop
  | 0 => fun _ _ _ _ _ => False
  | n + 1 => fun x2 x3 x4 x5 w => ((wr x3 < wr x5 → e77 w) ∧ (¬ wr x3 < wr x5 → ((wr x4 ≤ wr x5 → e77 w) ∧ (¬ wr x4 ≤ wr x5 → X0_isFree r0 r1 x2 x5 w (fun y2 w1 => ((wr y2 = 0 → (X0_paint_l19 r0 r1 Q Rc e69 e77 n) x2 x3 x4 (x5 + 1) w1) ∧ (¬ wr y2 = 0 → (ix x2 16 ∧ (∀ w3, w3 = wt w1 r1 x2 x5 → Rc (x2 + 1) (imx x3 (x5 + 1)) x4 w3 (fun y5 w4 => ((wr y5 = 0 → (X0_paint_l19 r0 r1 Q Rc e69 e77 n) x2 x3 x4 (x5 + 1) w4) ∧ (¬ wr y5 = 0 → e69 w4))))))))))))
theorem t_X0_paint_l19 {Z : Zw} {E : Amb} {r0 : Nat} {r1 : Nat} {Q : Int → Wd → Prop} {Rc : Int → Int → Int → Wd → (Int → Wd → Prop) → Prop} {d : Nat} {e69 : Wd → Prop} {e77 : Wd → Prop} (C : Cx Z (adA Z) E cX0_paint "HandleFaces$Colouring" 6 (rm_X0_paint (d + 1))) (R : Rt Z E (some .boolean) (qI Z Q)) (h0 : sX8 r0) (h1 : shp r1 = (1, 16, [])) (hRc : ∀ (x2 x3 x4 : Int) (w : Wd) (Q : Int → Wd → Prop), Rc x2 x3 x4 w Q → CtQ Z (eL E) yX0_paint cX0_paint 6 (some .boolean) (rm_X0_paint d) [rv Z r0, rv Z r1, iv x2, iv x3, iv x4] w (qI Z Q)) (he69 : ∀ (w : Wd), e69 w → V Z (adA Z) E 6 w 69 [] []) (he77 : ∀ (w : Wd), e77 w → V Z (adA Z) E 6 w 77 [] []) : ∀ (n : Nat) (x2 : Int) (x3 : Int) (x4 : Int) (x5 : Int) (w : Wd), X0_paint_l19 r0 r1 Q Rc e69 e77 n x2 x3 x4 x5 w → V Z (adA Z) E 6 w 19 [(0, rv Z r0), (1, rv Z r1), (2, iv x2), (3, iv x3), (4, iv x4), (5, iv x5)] [] := by
  intro n
  induction n with
  | zero => intro x2 x3 x4 x5 w h; exact h.elim
  | succ n ih =>
    intro x2 x3 x4 x5 w h
    unfold X0_paint_l19 at h
    refine v_iload C dX0_paint_19 5 rfl ?_
    refine v_iload_n C dX0_paint_21 3 rfl ?_
    refine v_icmp_gt C 77 dX0_paint_22 (by decide) (fun q => ?_) (fun q => ?_)
    · have h := h.1 q
      refine v_sub [] rfl ?_
      exact he77 _ h
    · have h := h.2 q
      refine v_iload C dX0_paint_25 5 rfl ?_
      refine v_iload C dX0_paint_27 4 rfl ?_
      refine v_icmp_ge C 77 dX0_paint_29 (by decide) (fun q => ?_) (fun q => ?_)
      · have h := h.1 q
        refine v_sub [] rfl ?_
        exact he77 _ h
      · have h := h.2 q
        refine v_aload_n C dX0_paint_32 0 rfl ?_
        refine v_aload_n C dX0_paint_33 1 rfl ?_
        refine v_iload_n C dX0_paint_34 2 rfl ?_
        refine v_iload C dX0_paint_35 5 rfl ?_
        refine v_calli C (rn_S C _ (m_X0_isFree h0 h1 h) mf_X0_isFree wd_995 wd_994 rfl rfl ⟨by show 0 + 1 ≤ d + 1 + 1; omega, by show 8 + (5 + 11) + 0 ≤ (d + 1) * 64 + 64; omega⟩ rfl rfl (Nat.le_of_ble_eq_true rfl) dX0_paint_37) (fun r w h => ?_)
        refine v_if_eq C 71 dX0_paint_40 (by decide) (fun q => ?_) (fun q => ?_)
        · have h := h.1 q
          refine v_iinc C [(5, _), (0, _), (1, _), (2, _), (3, _), (4, _)] dX0_paint_71 5 rfl (by decide) rfl ?_
          refine v_goto C 19 dX0_paint_74 (by decide) ?_
          refine v_sub [1, 2, 3, 4, 5, 0] rfl ?_
          exact ih _ _ _ _ _ h
        · have h := h.2 q
          refine v_aload_n C dX0_paint_43 1 rfl ?_
          refine v_iload_n C dX0_paint_44 2 rfl ?_
          refine v_iload C dX0_paint_45 5 rfl ?_
          refine v_iast C h1 h.1 dX0_paint_47 ?_
          have h := h.2
          have h := h _ rfl
          refine v_aload_n C dX0_paint_48 0 rfl ?_
          refine v_aload_n C dX0_paint_49 1 rfl ?_
          refine v_iload_n C dX0_paint_50 2 rfl ?_
          refine v_iconst C dX0_paint_51 ?_
          refine v_iadd C dX0_paint_52 ?_
          refine v_iload_n C dX0_paint_53 3 rfl ?_
          refine v_iload C dX0_paint_54 5 rfl ?_
          refine v_iconst C dX0_paint_56 ?_
          refine v_iadd C dX0_paint_57 ?_
          refine v_mmax C wd_997 wd_350 wd_12 wd_351 (by show 1 ≤ d + 1 + 1; omega) (by show 16 ≤ (d + 1) * 64 + 64; omega) dX0_paint_58 ?_
          refine v_iload C dX0_paint_61 4 rfl ?_
          refine v_calli C (rn_S C _ (hRc _ _ _ _ _ h) mf_X0_paint wd_992 wd_991 rfl rfl ⟨Nat.le_refl _, by show 8 + (6 + 11) + (d * 64 + 64) ≤ (d + 1) * 64 + 64; omega⟩ rfl rfl (Nat.le_of_ble_eq_true rfl) dX0_paint_63) (fun r w h => ?_)
          refine v_if_eq C 71 dX0_paint_66 (by decide) (fun q => ?_) (fun q => ?_)
          · have h := h.1 q
            refine v_iinc C [(5, _), (0, _), (1, _), (2, _), (3, _), (4, _)] dX0_paint_71 5 rfl (by decide) rfl ?_
            refine v_goto C 19 dX0_paint_74 (by decide) ?_
            refine v_sub [1, 2, 3, 4, 5, 0] rfl ?_
            exact ih _ _ _ _ _ h
          · have h := h.2 q
            refine v_sub [] rfl ?_
            exact he69 _ h
def X0_paint_b69 (r0 : Nat) (r1 : Nat) (Q : Int → Wd → Prop) (Rc : Int → Int → Int → Wd → (Int → Wd → Prop) → Prop) (w : Wd) : Prop := Q 1 w
theorem t_X0_paint_b69 {Z : Zw} {E : Amb} {r0 : Nat} {r1 : Nat} {Q : Int → Wd → Prop} {Rc : Int → Int → Int → Wd → (Int → Wd → Prop) → Prop} {d : Nat} (C : Cx Z (adA Z) E cX0_paint "HandleFaces$Colouring" 6 (rm_X0_paint (d + 1))) (R : Rt Z E (some .boolean) (qI Z Q)) (h0 : sX8 r0) (h1 : shp r1 = (1, 16, [])) (hRc : ∀ (x2 x3 x4 : Int) (w : Wd) (Q : Int → Wd → Prop), Rc x2 x3 x4 w Q → CtQ Z (eL E) yX0_paint cX0_paint 6 (some .boolean) (rm_X0_paint d) [rv Z r0, rv Z r1, iv x2, iv x3, iv x4] w (qI Z Q)) : ∀ (w : Wd), X0_paint_b69 r0 r1 Q Rc w → V Z (adA Z) E 6 w 69 [] [] := by
  intro w h
  unfold X0_paint_b69 at h
  refine v_iconst C dX0_paint_69 ?_
  exact v_zret C R (Or.inr rfl) h dX0_paint_70
def X0_paint_b77 (r0 : Nat) (r1 : Nat) (Q : Int → Wd → Prop) (Rc : Int → Int → Int → Wd → (Int → Wd → Prop) → Prop) (w : Wd) : Prop := Q 0 w
theorem t_X0_paint_b77 {Z : Zw} {E : Amb} {r0 : Nat} {r1 : Nat} {Q : Int → Wd → Prop} {Rc : Int → Int → Int → Wd → (Int → Wd → Prop) → Prop} {d : Nat} (C : Cx Z (adA Z) E cX0_paint "HandleFaces$Colouring" 6 (rm_X0_paint (d + 1))) (R : Rt Z E (some .boolean) (qI Z Q)) (h0 : sX8 r0) (h1 : shp r1 = (1, 16, [])) (hRc : ∀ (x2 x3 x4 : Int) (w : Wd) (Q : Int → Wd → Prop), Rc x2 x3 x4 w Q → CtQ Z (eL E) yX0_paint cX0_paint 6 (some .boolean) (rm_X0_paint d) [rv Z r0, rv Z r1, iv x2, iv x3, iv x4] w (qI Z Q)) : ∀ (w : Wd), X0_paint_b77 r0 r1 Q Rc w → V Z (adA Z) E 6 w 77 [] [] := by
  intro w h
  unfold X0_paint_b77 at h
  refine v_iconst C dX0_paint_77 ?_
  exact v_zret C R (Or.inl rfl) h dX0_paint_78
def X0_paint (r0 : Nat) (r1 : Nat) : Nat → Int → Int → Int → Wd → (Int → Wd → Prop) → Prop
  | 0 => fun _ _ _ _ _ => False
  | d + 1 => fun x2 x3 x4 w Q => ((wr (w r0 0) ≤ wr x2 → Q 1 w) ∧ (¬ wr (w r0 0) ≤ wr x2 → ((wr x2 < wr 16 → (∃ m, X0_paint_l19 r0 r1 Q (X0_paint r0 r1 d) (X0_paint_b69 r0 r1 Q (X0_paint r0 r1 d)) (X0_paint_b77 r0 r1 Q (X0_paint r0 r1 d)) m x2 x3 x4 0 w)) ∧ (¬ wr x2 < wr 16 → Q 1 w))))
theorem m_X0_paint {Z : Zw} {l : Launch} {r0 : Nat} {r1 : Nat} (h0 : sX8 r0) (h1 : shp r1 = (1, 16, [])) : ∀ (d : Nat) (x2 : Int) (x3 : Int) (x4 : Int) (w : Wd) (Q : Int → Wd → Prop), X0_paint r0 r1 d x2 x3 x4 w Q → CtQ Z l yX0_paint cX0_paint 6 (some .boolean) (rm_X0_paint d) [rv Z r0, rv Z r1, iv x2, iv x3, iv x4] w (qI Z Q) := by
  intro d
  induction d with
  | zero => intro x2 x3 x4 w Q h; exact h.elim
  | succ d ih =>
  intro x2 x3 x4 w Q h
  refine ct_of (by decide) (Nat.le_of_ble_eq_true rfl) (fun E eE C R => ?_)
  subst eE
  have C : Cx Z (adA Z) E cX0_paint "HandleFaces$Colouring" 6 (rm_X0_paint (d + 1)) := C
  unfold X0_paint at h
  show V Z (adA Z) E 6 w 0 [(0, rv Z r0), (1, rv Z r1), (2, iv x2), (3, iv x3), (4, iv x4)] []
  refine v_iload_n C dX0_paint_0 2 rfl ?_
  refine v_aload_n C dX0_paint_1 0 rfl ?_
  refine g_X8_count C h0 wd_203 dX0_paint_2 ?_
  refine v_icmp_ge C 14 dX0_paint_5 (by decide) (fun q => ?_) (fun q => ?_)
  · have h := h.1 q
    refine v_iconst C dX0_paint_14 ?_
    exact v_zret C R (Or.inr rfl) h dX0_paint_15
  · have h := h.2 q
    refine v_iload_n C dX0_paint_8 2 rfl ?_
    refine v_bipush C dX0_paint_9 (by decide) ?_
    refine v_icmp_lt C 16 dX0_paint_11 (by decide) (fun q => ?_) (fun q => ?_)
    · have h := h.1 q
      refine v_iconst C dX0_paint_16 ?_
      refine v_istore C [(5, _), (0, _), (1, _), (2, _), (3, _), (4, _)] dX0_paint_17 (by decide) rfl ?_
      refine v_sub [1, 2, 3, 4, 5, 0] rfl ?_
      obtain ⟨m, h⟩ := h
      exact t_X0_paint_l19 C R h0 h1 ih (t_X0_paint_b69 C R h0 h1 ih) (t_X0_paint_b77 C R h0 h1 ih) m _ _ _ _ _ h
    · have h := h.2 q
      refine v_iconst C dX0_paint_14 ?_
      exact v_zret C R (Or.inr rfl) h dX0_paint_15
abbrev rm_X0_fewest : Room := { frames := 19, cells := 0, slots := 0, locals := 1177 }
theorem mf_X0_fewest : MfB yX0_fewest cX0_fewest 3 (some .int) 1 := ⟨wd_990, wd_10, by decide, by decide, by decide +kernel⟩
def X0_fewest_l2 (r1 : Nat) (Q : Int → Wd → Prop) (e24 : Int → Wd → Prop) (e32 : Wd → Prop) : Nat → Int → Wd → Prop
  | 0 => fun _ _ => False
  | n + 1 => fun x2 w => ((wr (w r1 0) ≤ wr x2 → e32 w) ∧ (¬ wr (w r1 0) ≤ wr x2 → X0_paint r1 60 17 0 0 x2 w (fun y2 w1 => ((wr y2 = 0 → (X0_fewest_l2 r1 Q e24 e32 n) (x2 + 1) w1) ∧ (¬ wr y2 = 0 → e24 x2 w1)))))
theorem t_X0_fewest_l2 {Z : Zw} {E : Amb} {r1 : Nat} {Q : Int → Wd → Prop} {e24 : Int → Wd → Prop} {e32 : Wd → Prop} (C : Cx Z (adA Z) E cX0_fewest "HandleFaces$Colouring" 3 rm_X0_fewest) (R : Rt Z E (some .int) (qI Z Q)) (h1 : sX8 r1) (he24 : ∀ (x2 : Int) (w : Wd), e24 x2 w → V Z (adA Z) E 3 w 24 [(2, iv x2)] []) (he32 : ∀ (w : Wd), e32 w → V Z (adA Z) E 3 w 32 [(1, rv Z r1)] []) : ∀ (n : Nat) (x2 : Int) (w : Wd), X0_fewest_l2 r1 Q e24 e32 n x2 w → V Z (adA Z) E 3 w 2 [(0, rv Z 59), (1, rv Z r1), (2, iv x2)] [] := by
  intro n
  induction n with
  | zero => intro x2 w h; exact h.elim
  | succ n ih =>
    intro x2 w h
    unfold X0_fewest_l2 at h
    refine v_iload_n C dX0_fewest_2 2 rfl ?_
    refine v_aload_n C dX0_fewest_3 1 rfl ?_
    refine g_X8_count C h1 wd_203 dX0_fewest_4 ?_
    refine v_icmp_ge C 32 dX0_fewest_7 (by decide) (fun q => ?_) (fun q => ?_)
    · have h := h.1 q
      refine v_sub [1] rfl ?_
      exact he32 _ h
    · have h := h.2 q
      refine v_aload_n C dX0_fewest_10 1 rfl ?_
      refine v_aload_n C dX0_fewest_11 0 rfl ?_
      refine g_X0_painted C wd_336 dX0_fewest_12 ?_
      refine v_iconst C dX0_fewest_15 ?_
      refine v_iconst C dX0_fewest_16 ?_
      refine v_iload_n C dX0_fewest_17 2 rfl ?_
      refine v_calli C (rn_S C _ (m_X0_paint h1 rfl 17 _ _ _ _ _ h) mf_X0_paint wd_992 wd_991 rfl rfl ⟨(Nat.le_of_ble_eq_true rfl), (Nat.le_of_ble_eq_true rfl)⟩ rfl rfl (Nat.le_of_ble_eq_true rfl) dX0_fewest_18) (fun r w h => ?_)
      refine v_if_eq C 26 dX0_fewest_21 (by decide) (fun q => ?_) (fun q => ?_)
      · have h := h.1 q
        refine v_iinc C [(2, _), (0, _), (1, _)] dX0_fewest_26 2 rfl (by decide) rfl ?_
        refine v_goto C 2 dX0_fewest_29 (by decide) ?_
        refine v_sub [1, 2, 0] rfl ?_
        exact ih _ _ h
      · have h := h.2 q
        refine v_sub [2] rfl ?_
        exact he24 _ _ h
def X0_fewest_b24 (r1 : Nat) (Q : Int → Wd → Prop) (x2 : Int) (w : Wd) : Prop := Q (wr x2) w
theorem t_X0_fewest_b24 {Z : Zw} {E : Amb} {r1 : Nat} {Q : Int → Wd → Prop} (C : Cx Z (adA Z) E cX0_fewest "HandleFaces$Colouring" 3 rm_X0_fewest) (R : Rt Z E (some .int) (qI Z Q)) (h1 : sX8 r1) : ∀ (x2 : Int) (w : Wd), X0_fewest_b24 r1 Q x2 w → V Z (adA Z) E 3 w 24 [(2, iv x2)] [] := by
  intro x2 w h
  unfold X0_fewest_b24 at h
  refine v_iload_n C dX0_fewest_24 0 rfl ?_
  exact v_iret C R h dX0_fewest_25
def X0_fewest_b32 (r1 : Nat) (Q : Int → Wd → Prop) (w : Wd) : Prop := Q (wr (w r1 0)) w
theorem t_X0_fewest_b32 {Z : Zw} {E : Amb} {r1 : Nat} {Q : Int → Wd → Prop} (C : Cx Z (adA Z) E cX0_fewest "HandleFaces$Colouring" 3 rm_X0_fewest) (R : Rt Z E (some .int) (qI Z Q)) (h1 : sX8 r1) : ∀ (w : Wd), X0_fewest_b32 r1 Q w → V Z (adA Z) E 3 w 32 [(1, rv Z r1)] [] := by
  intro w h
  unfold X0_fewest_b32 at h
  refine v_aload_n C dX0_fewest_32 0 rfl ?_
  refine g_X8_count C h1 wd_203 dX0_fewest_33 ?_
  exact v_iret C R h dX0_fewest_36
def X0_fewest (r1 : Nat) (w : Wd) (Q : Int → Wd → Prop) : Prop := (∃ m, X0_fewest_l2 r1 Q (X0_fewest_b24 r1 Q) (X0_fewest_b32 r1 Q) m 0 w)
theorem m_X0_fewest {Z : Zw} {l : Launch} {r1 : Nat} {w : Wd} {Q : Int → Wd → Prop} (h1 : sX8 r1) (h : X0_fewest r1 w Q) : CtQ Z l yX0_fewest cX0_fewest 3 (some .int) rm_X0_fewest [rv Z 59, rv Z r1] w (qI Z Q) := by
  refine ct_of (by decide) (Nat.le_of_ble_eq_true rfl) (fun E eE C R => ?_)
  subst eE
  have C : Cx Z (adA Z) E cX0_fewest "HandleFaces$Colouring" 3 rm_X0_fewest := C
  unfold X0_fewest at h
  show V Z (adA Z) E 3 w 0 [(0, rv Z 59), (1, rv Z r1)] []
  refine v_iconst C dX0_fewest_0 ?_
  refine v_istore_n C [(2, _), (0, _), (1, _)] dX0_fewest_1 2 rfl (by decide) rfl ?_
  refine v_sub [1, 2, 0] rfl ?_
  obtain ⟨m, h⟩ := h
  exact t_X0_fewest_l2 C R h1 (t_X0_fewest_b24 C R h1) (t_X0_fewest_b32 C R h1) m _ _ h
abbrev rm_X2_isWhole : Room := { frames := 2, cells := 0, slots := 0, locals := 50 }
theorem mf_X2_isWhole : MfB yX2_isWhole cX2_isWhole 1 (some .boolean) 1 := ⟨wd_1012, wd_9, by decide, by decide, by decide +kernel⟩
def X2_isWhole_b19 (r0 : Nat) (Q : Int → Wd → Prop) (w : Wd) : Prop := Q 0 w
theorem t_X2_isWhole_b19 {Z : Zw} {E : Amb} {r0 : Nat} {Q : Int → Wd → Prop} (C : Cx Z (adA Z) E cX2_isWhole "HandleFaces$Likeness" 1 rm_X2_isWhole) (R : Rt Z E (some .boolean) (qI Z Q)) (h0 : sX1 r0) : ∀ (w : Wd), X2_isWhole_b19 r0 Q w → V Z (adA Z) E 1 w 19 [] [] := by
  intro w h
  unfold X2_isWhole_b19 at h
  refine v_iconst C dX2_isWhole_19 ?_
  exact v_zret C R (Or.inl rfl) h dX2_isWhole_20
def X2_isWhole (r0 : Nat) (w : Wd) (Q : Int → Wd → Prop) : Prop := ((wr (w r0 1) ≤ 0 → X2_isWhole_b19 r0 Q w) ∧ (¬ wr (w r0 1) ≤ 0 → X1_countParts r0 w (fun y2 w1 => ((wr y2 = wr 1 → Q 1 w1) ∧ (¬ wr y2 = wr 1 → X2_isWhole_b19 r0 Q w1)))))
theorem m_X2_isWhole {Z : Zw} {l : Launch} {r0 : Nat} {w : Wd} {Q : Int → Wd → Prop} (h0 : sX1 r0) (h : X2_isWhole r0 w Q) : CtQ Z l yX2_isWhole cX2_isWhole 1 (some .boolean) rm_X2_isWhole [rv Z r0] w (qI Z Q) := by
  refine ct_of (by decide) (Nat.le_of_ble_eq_true rfl) (fun E eE C R => ?_)
  subst eE
  have C : Cx Z (adA Z) E cX2_isWhole "HandleFaces$Likeness" 1 rm_X2_isWhole := C
  unfold X2_isWhole at h
  show V Z (adA Z) E 1 w 0 [(0, rv Z r0)] []
  refine v_aload_n C dX2_isWhole_0 0 rfl ?_
  refine g_X1_lines C h0 wd_45 dX2_isWhole_1 ?_
  refine v_if_le C 19 dX2_isWhole_4 (by decide) (fun q => ?_) (fun q => ?_)
  · have h := h.1 q
    refine v_sub [] rfl ?_
    exact t_X2_isWhole_b19 C R h0 _ h
  · have h := h.2 q
    refine v_aload_n C dX2_isWhole_7 0 rfl ?_
    refine v_calli C (rn_V C _ (m_X1_countParts h0 h) mf_X1_countParts wd_738 wd_739 wd_1013 rfl rfl ⟨(Nat.le_of_ble_eq_true rfl), (Nat.le_of_ble_eq_true rfl)⟩ h0.1 rfl rfl rfl (Nat.le_of_ble_eq_true rfl) dX2_isWhole_8) (fun r w h => ?_)
    refine v_iconst C dX2_isWhole_11 ?_
    refine v_icmp_ne C 19 dX2_isWhole_12 (by decide) (fun q => ?_) (fun q => ?_)
    · have h := h.2 q
      refine v_sub [] rfl ?_
      exact t_X2_isWhole_b19 C R h0 _ h
    · have h := h.1 q
      refine v_iconst C dX2_isWhole_15 ?_
      refine v_goto C 20 dX2_isWhole_16 (by decide) ?_
      exact v_zret C R (Or.inr rfl) h dX2_isWhole_20
abbrev rm_X9_link : Room := { frames := 1, cells := 0, slots := 0, locals := 23 }
theorem mf_X9_link : MfB yX9_link cX9_link 8 none 3 := ⟨wd_724, wd_6, by decide, by decide, by decide +kernel⟩
def X9_link_b52 (r0 : Nat) (r1 : Nat) (Q : Wd → Prop) (c11 : Int → Int → Int → Int → Wd → Prop) (e81 : Wd → Prop) (x2 : Int) (x3 : Int) (x4 : Int) (x5 : Int) (x6 : Int) (s0 : Int) (s1 : Int) (w : Wd) : Prop := X1_armAt r1 s1 s0 w (fun y5 w4 => (ix x6 20 ∧ (∀ w6, w6 = wt w4 (r0 + 1) x6 y5 → (ix y5 20 ∧ (∀ w7, w7 = wt w6 (r0 + 2) y5 x6 → c11 x2 x3 x4 (x5 + 1) w7)))))
theorem t_X9_link_b52 {Z : Zw} {E : Amb} {r0 : Nat} {r1 : Nat} {Q : Wd → Prop} {c11 : Int → Int → Int → Int → Wd → Prop} {e81 : Wd → Prop} (C : Cx Z (adA Z) E cX9_link "HandleFaces$Walker" 8 rm_X9_link) (R : Rt Z E none (qV Z Q)) (h0 : sX9 r0) (h1 : sX1 r1) (hc11 : ∀ (x2 : Int) (x3 : Int) (x4 : Int) (x5 : Int) (w : Wd), c11 x2 x3 x4 x5 w → V Z (adA Z) E 8 w 11 [(0, rv Z r0), (1, rv Z r1), (2, iv x2), (3, iv x3), (4, iv x4), (5, iv x5)] []) (he81 : ∀ (w : Wd), e81 w → V Z (adA Z) E 8 w 81 [] []) : ∀ (x2 : Int) (x3 : Int) (x4 : Int) (x5 : Int) (x6 : Int) (s0 : Int) (s1 : Int) (w : Wd), X9_link_b52 r0 r1 Q c11 e81 x2 x3 x4 x5 x6 s0 s1 w → V Z (adA Z) E 8 w 52 [(0, rv Z r0), (1, rv Z r1), (2, iv x2), (3, iv x3), (4, iv x4), (5, iv x5), (6, iv x6)] [iv s0, iv s1, rv Z r1] := by
  intro x2 x3 x4 x5 x6 s0 s1 w h
  unfold X9_link_b52 at h
  refine v_calli C (rn_V C _ (m_X1_armAt h1 h) mf_X1_armAt wd_726 wd_727 wd_725 rfl rfl ⟨(Nat.le_of_ble_eq_true rfl), (Nat.le_of_ble_eq_true rfl)⟩ h1.1 rfl rfl rfl (Nat.le_of_ble_eq_true rfl) dX9_link_52) (fun r w h => ?_)
  refine v_istore C [(7, _), (0, _), (1, _), (2, _), (3, _), (4, _), (5, _), (6, _)] dX9_link_55 (by decide) rfl ?_
  refine v_aload_n C dX9_link_57 1 rfl ?_
  refine g_X9_behind C h0 wd_191 dX9_link_58 ?_
  refine v_iload C dX9_link_61 7 rfl ?_
  refine v_iload C dX9_link_63 0 rfl ?_
  refine v_iast C h0.2.1 h.1 dX9_link_65 ?_
  have h := h.2
  have h := h _ rfl
  refine v_aload_n C dX9_link_66 1 rfl ?_
  refine g_X9_ahead C h0 wd_192 dX9_link_67 ?_
  refine v_iload C dX9_link_70 0 rfl ?_
  refine v_iload C dX9_link_72 7 rfl ?_
  refine v_iast C h0.2.2 h.1 dX9_link_74 ?_
  have h := h.2
  have h := h _ rfl
  refine v_iinc C [(5, _), (7, _), (0, _), (1, _), (2, _), (3, _), (4, _), (6, _)] dX9_link_75 6 rfl (by decide) rfl ?_
  refine v_goto C 11 dX9_link_78 (by decide) ?_
  refine v_sub [2, 3, 4, 5, 6, 0] rfl ?_
  exact hc11 _ _ _ _ _ h
def X9_link_l11 (r0 : Nat) (r1 : Nat) (Q : Wd → Prop) (e81 : Wd → Prop) : Nat → Int → Int → Int → Int → Wd → Prop
  | 0 => fun _ _ _ _ _ => False
  | n + 1 => fun x2 x3 x4 x5 w => ((wr x4 ≤ wr x5 → e81 w) ∧ (¬ wr x4 ≤ wr x5 → X1_armAt r1 x2 x5 w (fun y3 w2 => ((wr x4 ≤ wr (x5 + x3) → X9_link_b52 r0 r1 Q (X9_link_l11 r0 r1 Q e81 n) e81 x2 x3 x4 x5 y3 ((x5 + x3) - x4) x2 w2) ∧ (¬ wr x4 ≤ wr (x5 + x3) → X9_link_b52 r0 r1 Q (X9_link_l11 r0 r1 Q e81 n) e81 x2 x3 x4 x5 y3 (x5 + x3) x2 w2)))))
theorem t_X9_link_l11 {Z : Zw} {E : Amb} {r0 : Nat} {r1 : Nat} {Q : Wd → Prop} {e81 : Wd → Prop} (C : Cx Z (adA Z) E cX9_link "HandleFaces$Walker" 8 rm_X9_link) (R : Rt Z E none (qV Z Q)) (h0 : sX9 r0) (h1 : sX1 r1) (he81 : ∀ (w : Wd), e81 w → V Z (adA Z) E 8 w 81 [] []) : ∀ (n : Nat) (x2 : Int) (x3 : Int) (x4 : Int) (x5 : Int) (w : Wd), X9_link_l11 r0 r1 Q e81 n x2 x3 x4 x5 w → V Z (adA Z) E 8 w 11 [(0, rv Z r0), (1, rv Z r1), (2, iv x2), (3, iv x3), (4, iv x4), (5, iv x5)] [] := by
  intro n
  induction n with
  | zero => intro x2 x3 x4 x5 w h; exact h.elim
  | succ n ih =>
    intro x2 x3 x4 x5 w h
    unfold X9_link_l11 at h
    refine v_iload C dX9_link_11 5 rfl ?_
    refine v_iload C dX9_link_13 4 rfl ?_
    refine v_icmp_ge C 81 dX9_link_15 (by decide) (fun q => ?_) (fun q => ?_)
    · have h := h.1 q
      refine v_sub [] rfl ?_
      exact he81 _ h
    · have h := h.2 q
      refine v_aload_n C dX9_link_18 1 rfl ?_
      refine v_iload_n C dX9_link_19 2 rfl ?_
      refine v_iload C dX9_link_20 5 rfl ?_
      refine v_calli C (rn_V C _ (m_X1_armAt h1 h) mf_X1_armAt wd_726 wd_727 wd_725 rfl rfl ⟨(Nat.le_of_ble_eq_true rfl), (Nat.le_of_ble_eq_true rfl)⟩ h1.1 rfl rfl rfl (Nat.le_of_ble_eq_true rfl) dX9_link_22) (fun r w h => ?_)
      refine v_istore C [(6, _), (0, _), (1, _), (2, _), (3, _), (4, _), (5, _)] dX9_link_25 (by decide) rfl ?_
      refine v_aload_n C dX9_link_27 2 rfl ?_
      refine v_iload_n C dX9_link_28 3 rfl ?_
      refine v_iload C dX9_link_29 6 rfl ?_
      refine v_iload_n C dX9_link_31 4 rfl ?_
      refine v_iadd C dX9_link_32 ?_
      refine v_iload C dX9_link_33 5 rfl ?_
      refine v_icmp_ge C 45 dX9_link_35 (by decide) (fun q => ?_) (fun q => ?_)
      · have h := h.1 q
        refine v_iload C dX9_link_45 6 rfl ?_
        refine v_iload_n C dX9_link_47 4 rfl ?_
        refine v_iadd C dX9_link_48 ?_
        refine v_iload C dX9_link_49 5 rfl ?_
        refine v_isub C dX9_link_51 ?_
        refine v_sub [1, 2, 3, 4, 5, 6, 0] rfl ?_
        exact t_X9_link_b52 C R h0 h1 ih he81 _ _ _ _ _ _ _ _ h
      · have h := h.2 q
        refine v_iload C dX9_link_38 6 rfl ?_
        refine v_iload_n C dX9_link_40 4 rfl ?_
        refine v_iadd C dX9_link_41 ?_
        refine v_goto C 52 dX9_link_42 (by decide) ?_
        refine v_sub [1, 2, 3, 4, 5, 6, 0] rfl ?_
        exact t_X9_link_b52 C R h0 h1 ih he81 _ _ _ _ _ _ _ _ h
def X9_link_b81 (r0 : Nat) (r1 : Nat) (Q : Wd → Prop) (w : Wd) : Prop := Q w
theorem t_X9_link_b81 {Z : Zw} {E : Amb} {r0 : Nat} {r1 : Nat} {Q : Wd → Prop} (C : Cx Z (adA Z) E cX9_link "HandleFaces$Walker" 8 rm_X9_link) (R : Rt Z E none (qV Z Q)) (h0 : sX9 r0) (h1 : sX1 r1) : ∀ (w : Wd), X9_link_b81 r0 r1 Q w → V Z (adA Z) E 8 w 81 [] [] := by
  intro w h
  unfold X9_link_b81 at h
  exact v_ret C R h dX9_link_81
def X9_link (r0 : Nat) (r1 : Nat) (x2 : Int) (x3 : Int) (w : Wd) (Q : Wd → Prop) : Prop := (ix x2 6 ∧ (∀ y1, y1 = (rd w (r1 + 2) x2) → (∃ m, X9_link_l11 r0 r1 Q (X9_link_b81 r0 r1 Q) m x2 x3 y1 0 w)))
theorem m_X9_link {Z : Zw} {l : Launch} {r0 : Nat} {r1 : Nat} {x2 : Int} {x3 : Int} {w : Wd} {Q : Wd → Prop} (h0 : sX9 r0) (h1 : sX1 r1) (h : X9_link r0 r1 x2 x3 w Q) : CtQ Z l yX9_link cX9_link 8 none rm_X9_link [rv Z r0, rv Z r1, iv x2, iv x3] w (qV Z Q) := by
  refine ct_of (by decide) (Nat.le_of_ble_eq_true rfl) (fun E eE C R => ?_)
  subst eE
  have C : Cx Z (adA Z) E cX9_link "HandleFaces$Walker" 8 rm_X9_link := C
  unfold X9_link at h
  show V Z (adA Z) E 8 w 0 [(0, rv Z r0), (1, rv Z r1), (2, iv x2), (3, iv x3)] []
  refine v_aload_n C dX9_link_0 1 rfl ?_
  refine g_X1_degrees C h1 wd_66 dX9_link_1 ?_
  refine v_iload_n C dX9_link_4 2 rfl ?_
  refine v_iald C h1.2.2.1 h.1 dX9_link_5 ?_
  have h := h.2
  refine v_istore C [(4, _), (0, _), (1, _), (2, _), (3, _)] dX9_link_6 (by decide) rfl ?_
  have h := h _ rfl
  refine v_iconst C dX9_link_8 ?_
  refine v_istore C [(5, _), (4, _), (0, _), (1, _), (2, _), (3, _)] dX9_link_9 (by decide) rfl ?_
  refine v_sub [2, 3, 4, 5, 1, 0] rfl ?_
  obtain ⟨m, h⟩ := h
  exact t_X9_link_l11 C R h0 h1 (t_X9_link_b81 C R h0 h1) m _ _ _ _ _ h
abbrev rm_X9_enter : Room := { frames := 2, cells := 0, slots := 0, locals := 50 }
theorem mf_X9_enter : MfB yX9_enter cX9_enter 3 none 1 := ⟨wd_720, wd_6, by decide, by decide, by decide +kernel⟩
def X9_enter_l20 (r0 : Nat) (r1 : Nat) (Q : Wd → Prop) (e41 : Wd → Prop) : Nat → Int → Wd → Prop
  | 0 => fun _ _ => False
  | n + 1 => fun x2 w => ((wr (w r1 0) ≤ wr x2 → e41 w) ∧ (¬ wr (w r1 0) ≤ wr x2 → X9_link r0 r1 x2 1 w (fun w3 => (X9_enter_l20 r0 r1 Q e41 n) (x2 + 1) w3)))
theorem t_X9_enter_l20 {Z : Zw} {E : Amb} {r0 : Nat} {r1 : Nat} {Q : Wd → Prop} {e41 : Wd → Prop} (C : Cx Z (adA Z) E cX9_enter "HandleFaces$Walker" 3 rm_X9_enter) (R : Rt Z E none (qV Z Q)) (h0 : sX9 r0) (h1 : sX1 r1) (he41 : ∀ (w : Wd), e41 w → V Z (adA Z) E 3 w 41 [] []) : ∀ (n : Nat) (x2 : Int) (w : Wd), X9_enter_l20 r0 r1 Q e41 n x2 w → V Z (adA Z) E 3 w 20 [(0, rv Z r0), (1, rv Z r1), (2, iv x2)] [] := by
  intro n
  induction n with
  | zero => intro x2 w h; exact h.elim
  | succ n ih =>
    intro x2 w h
    unfold X9_enter_l20 at h
    refine v_iload_n C dX9_enter_20 2 rfl ?_
    refine v_aload_n C dX9_enter_21 1 rfl ?_
    refine g_X1_posts C h1 wd_38 dX9_enter_22 ?_
    refine v_icmp_ge C 41 dX9_enter_25 (by decide) (fun q => ?_) (fun q => ?_)
    · have h := h.1 q
      refine v_sub [] rfl ?_
      exact he41 _ h
    · have h := h.2 q
      refine v_aload_n C dX9_enter_28 0 rfl ?_
      refine v_aload_n C dX9_enter_29 1 rfl ?_
      refine v_iload_n C dX9_enter_30 2 rfl ?_
      refine v_iconst C dX9_enter_31 ?_
      refine v_callv C (rn_V C _ (m_X9_link h0 h1 h) mf_X9_link wd_722 wd_723 wd_721 rfl rfl ⟨(Nat.le_of_ble_eq_true rfl), (Nat.le_of_ble_eq_true rfl)⟩ h0.1 rfl rfl rfl (Nat.le_of_ble_eq_true rfl) dX9_enter_32) (fun w h => ?_)
      refine v_iinc C [(2, _), (0, _), (1, _)] dX9_enter_35 2 rfl (by decide) rfl ?_
      refine v_goto C 20 dX9_enter_38 (by decide) ?_
      refine v_sub [1, 2, 0] rfl ?_
      exact ih _ _ h
def X9_enter_b41 (r0 : Nat) (r1 : Nat) (Q : Wd → Prop) (w : Wd) : Prop := Q w
theorem t_X9_enter_b41 {Z : Zw} {E : Amb} {r0 : Nat} {r1 : Nat} {Q : Wd → Prop} (C : Cx Z (adA Z) E cX9_enter "HandleFaces$Walker" 3 rm_X9_enter) (R : Rt Z E none (qV Z Q)) (h0 : sX9 r0) (h1 : sX1 r1) : ∀ (w : Wd), X9_enter_b41 r0 r1 Q w → V Z (adA Z) E 3 w 41 [] [] := by
  intro w h
  unfold X9_enter_b41 at h
  exact v_ret C R h dX9_enter_41
def X9_enter (r0 : Nat) (r1 : Nat) (w : Wd) (Q : Wd → Prop) : Prop := (∀ w1, w1 = up w r0 0 (2 * (w r1 1)) → (∀ w2, w2 = up w1 r0 1 (w1 r1 2) → (∃ m, X9_enter_l20 r0 r1 Q (X9_enter_b41 r0 r1 Q) m 0 w2)))
theorem m_X9_enter {Z : Zw} {l : Launch} {r0 : Nat} {r1 : Nat} {w : Wd} {Q : Wd → Prop} (h0 : sX9 r0) (h1 : sX1 r1) (h : X9_enter r0 r1 w Q) : CtQ Z l yX9_enter cX9_enter 3 none rm_X9_enter [rv Z r0, rv Z r1] w (qV Z Q) := by
  refine ct_of (by decide) (Nat.le_of_ble_eq_true rfl) (fun E eE C R => ?_)
  subst eE
  have C : Cx Z (adA Z) E cX9_enter "HandleFaces$Walker" 3 rm_X9_enter := C
  unfold X9_enter at h
  show V Z (adA Z) E 3 w 0 [(0, rv Z r0), (1, rv Z r1)] []
  refine v_aload_n C dX9_enter_0 0 rfl ?_
  refine v_iconst C dX9_enter_1 ?_
  refine v_aload_n C dX9_enter_2 1 rfl ?_
  refine g_X1_lines C h1 wd_44 dX9_enter_3 ?_
  refine v_imul C dX9_enter_6 ?_
  refine p_X9_arms C h0 wd_186 dX9_enter_7 ?_
  have h := h _ rfl
  refine v_aload_n C dX9_enter_10 0 rfl ?_
  refine v_aload_n C dX9_enter_11 1 rfl ?_
  refine g_X1_twists C h1 wd_52 dX9_enter_12 ?_
  refine p_X9_twists C h0 wd_189 dX9_enter_15 ?_
  have h := h _ rfl
  refine v_iconst C dX9_enter_18 ?_
  refine v_istore_n C [(2, _), (0, _), (1, _)] dX9_enter_19 2 rfl (by decide) rfl ?_
  refine v_sub [1, 2, 0] rfl ?_
  obtain ⟨m, h⟩ := h
  exact t_X9_enter_l20 C R h0 h1 (t_X9_enter_b41 C R h0 h1) m _ _ h
abbrev rm_X2_send : Room := { frames := 0, cells := 0, slots := 0, locals := 0 }
theorem mf_X2_send : MfB yX2_send cX2_send 3 (some .boolean) 2 := ⟨wd_1023, wd_9, by decide, by decide, by decide +kernel⟩
def X2_send_b19 (Q : Int → Wd → Prop) (x1 : Int) (x2 : Int) (w : Wd) : Prop := (ix x1 40 ∧ ((wr (rd w 57 x1) = wr x2 → Q 1 w) ∧ (¬ wr (rd w 57 x1) = wr x2 → Q 0 w)))
theorem t_X2_send_b19 {Z : Zw} {E : Amb} {Q : Int → Wd → Prop} (C : Cx Z (adA Z) E cX2_send "HandleFaces$Likeness" 3 rm_X2_send) (R : Rt Z E (some .boolean) (qI Z Q)) : ∀ (x1 : Int) (x2 : Int) (w : Wd), X2_send_b19 Q x1 x2 w → V Z (adA Z) E 3 w 19 [(0, rv Z 50), (1, iv x1), (2, iv x2)] [] := by
  intro x1 x2 w h
  unfold X2_send_b19 at h
  refine v_aload_n C dX2_send_19 0 rfl ?_
  refine g_X2_sentTo C wd_316 dX2_send_20 ?_
  refine v_iload_n C dX2_send_23 1 rfl ?_
  refine v_iald C rfl h.1 dX2_send_24 ?_
  have h := h.2
  refine v_iload_n C dX2_send_25 2 rfl ?_
  refine v_icmp_ne C 33 dX2_send_26 (by decide) (fun q => ?_) (fun q => ?_)
  · have h := h.2 q
    refine v_iconst C dX2_send_33 ?_
    exact v_zret C R (Or.inl rfl) h dX2_send_34
  · have h := h.1 q
    refine v_iconst C dX2_send_29 ?_
    refine v_goto C 34 dX2_send_30 (by decide) ?_
    exact v_zret C R (Or.inr rfl) h dX2_send_34
def X2_send (x1 : Int) (x2 : Int) (w : Wd) (Q : Int → Wd → Prop) : Prop := (ix x1 40 ∧ ((wr (rd w 57 x1) = wr (-1) → ((wr (w 50 4) < wr 40 → (ix x1 40 ∧ (∀ w1, w1 = wt w 57 x1 x2 → (ix (w1 50 4) 40 ∧ (∀ w2, w2 = wt w1 58 (w1 50 4) x1 → (∀ w3, w3 = up w2 50 4 ((w2 50 4) + 1) → Q 1 w3)))))) ∧ (¬ wr (w 50 4) < wr 40 → X2_send_b19 Q x1 x2 w))) ∧ (¬ wr (rd w 57 x1) = wr (-1) → X2_send_b19 Q x1 x2 w)))
theorem m_X2_send {Z : Zw} {l : Launch} {x1 : Int} {x2 : Int} {w : Wd} {Q : Int → Wd → Prop} (h : X2_send x1 x2 w Q) : CtQ Z l yX2_send cX2_send 3 (some .boolean) rm_X2_send [rv Z 50, iv x1, iv x2] w (qI Z Q) := by
  refine ct_of (by decide) (Nat.le_of_ble_eq_true rfl) (fun E eE C R => ?_)
  subst eE
  have C : Cx Z (adA Z) E cX2_send "HandleFaces$Likeness" 3 rm_X2_send := C
  unfold X2_send at h
  show V Z (adA Z) E 3 w 0 [(0, rv Z 50), (1, iv x1), (2, iv x2)] []
  refine v_aload_n C dX2_send_0 0 rfl ?_
  refine g_X2_sentTo C wd_316 dX2_send_1 ?_
  refine v_iload_n C dX2_send_4 1 rfl ?_
  refine v_iald C rfl h.1 dX2_send_5 ?_
  have h := h.2
  refine v_iconst C dX2_send_6 ?_
  refine v_icmp_ne C 19 dX2_send_7 (by decide) (fun q => ?_) (fun q => ?_)
  · have h := h.2 q
    exact t_X2_send_b19 C R _ _ _ h
  · have h := h.1 q
    refine v_aload_n C dX2_send_10 0 rfl ?_
    refine g_X2_queued C wd_318 dX2_send_11 ?_
    refine v_bipush C dX2_send_14 (by decide) ?_
    refine v_icmp_lt C 35 dX2_send_16 (by decide) (fun q => ?_) (fun q => ?_)
    · have h := h.1 q
      refine v_aload_n C dX2_send_35 0 rfl ?_
      refine g_X2_sentTo C wd_316 dX2_send_36 ?_
      refine v_iload_n C dX2_send_39 1 rfl ?_
      refine v_iload_n C dX2_send_40 2 rfl ?_
      refine v_iast C rfl h.1 dX2_send_41 ?_
      have h := h.2
      have h := h _ rfl
      refine v_aload_n C dX2_send_42 0 rfl ?_
      refine g_X2_queue C wd_317 dX2_send_43 ?_
      refine v_aload_n C dX2_send_46 0 rfl ?_
      refine g_X2_queued C wd_318 dX2_send_47 ?_
      refine v_iload_n C dX2_send_50 1 rfl ?_
      refine v_iast C rfl h.1 dX2_send_51 ?_
      have h := h.2
      have h := h _ rfl
      refine v_aload_n C dX2_send_52 0 rfl ?_
      refine v_dup C dX2_send_53 rfl ?_
      refine g_X2_queued C wd_318 dX2_send_54 ?_
      refine v_iconst C dX2_send_57 ?_
      refine v_iadd C dX2_send_58 ?_
      refine p_X2_queued C wd_318 dX2_send_59 ?_
      have h := h _ rfl
      refine v_iconst C dX2_send_62 ?_
      exact v_zret C R (Or.inr rfl) h dX2_send_63
    · have h := h.2 q
      exact t_X2_send_b19 C R _ _ _ h
abbrev rm_X9_otherSense : Room := { frames := 0, cells := 0, slots := 0, locals := 0 }
theorem mf_X9_otherSense : MfB yX9_otherSense cX9_otherSense 2 (some .int) 1 := ⟨wd_1027, wd_6, by decide, by decide, by decide +kernel⟩
def X9_otherSense (r0 : Nat) (x1 : Int) (w : Wd) (Q : Int → Wd → Prop) : Prop := ((wr (w r0 0) ≤ wr x1 → Q (wr (x1 - (w r0 0))) w) ∧ (¬ wr (w r0 0) ≤ wr x1 → Q (wr (x1 + (w r0 0))) w))
theorem m_X9_otherSense {Z : Zw} {l : Launch} {r0 : Nat} {x1 : Int} {w : Wd} {Q : Int → Wd → Prop} (h0 : sX9 r0) (h : X9_otherSense r0 x1 w Q) : CtQ Z l yX9_otherSense cX9_otherSense 2 (some .int) rm_X9_otherSense [rv Z r0, iv x1] w (qI Z Q) := by
  refine ct_of (by decide) (Nat.le_of_ble_eq_true rfl) (fun E eE C R => ?_)
  subst eE
  have C : Cx Z (adA Z) E cX9_otherSense "HandleFaces$Walker" 2 rm_X9_otherSense := C
  unfold X9_otherSense at h
  show V Z (adA Z) E 2 w 0 [(0, rv Z r0), (1, iv x1)] []
  refine v_iload_n C dX9_otherSense_0 1 rfl ?_
  refine v_aload_n C dX9_otherSense_1 0 rfl ?_
  refine g_X9_arms C h0 wd_186 dX9_otherSense_2 ?_
  refine v_icmp_ge C 17 dX9_otherSense_5 (by decide) (fun q => ?_) (fun q => ?_)
  · have h := h.1 q
    refine v_iload_n C dX9_otherSense_17 1 rfl ?_
    refine v_aload_n C dX9_otherSense_18 0 rfl ?_
    refine g_X9_arms C h0 wd_186 dX9_otherSense_19 ?_
    refine v_isub C dX9_otherSense_22 ?_
    exact v_iret C R h dX9_otherSense_23
  · have h := h.2 q
    refine v_iload_n C dX9_otherSense_8 1 rfl ?_
    refine v_aload_n C dX9_otherSense_9 0 rfl ?_
    refine g_X9_arms C h0 wd_186 dX9_otherSense_10 ?_
    refine v_iadd C dX9_otherSense_13 ?_
    refine v_goto C 23 dX9_otherSense_14 (by decide) ?_
    exact v_iret C R h dX9_otherSense_23
abbrev rm_X9_otherEnd : Room := { frames := 0, cells := 0, slots := 0, locals := 0 }
theorem mf_X9_otherEnd : MfB yX9_otherEnd cX9_otherEnd 2 (some .int) 1 := ⟨wd_809, wd_6, by decide, by decide, by decide +kernel⟩
def X9_otherEnd (r0 : Nat) (x1 : Int) (w : Wd) (Q : Int → Wd → Prop) : Prop := ((wr (w r0 0) ≤ wr x1 → Q (wr (ixo (x1 - (w r0 0)) 1)) w) ∧ (¬ wr (w r0 0) ≤ wr x1 → Q (wr (ixo x1 1)) w))
theorem m_X9_otherEnd {Z : Zw} {l : Launch} {r0 : Nat} {x1 : Int} {w : Wd} {Q : Int → Wd → Prop} (h0 : sX9 r0) (h : X9_otherEnd r0 x1 w Q) : CtQ Z l yX9_otherEnd cX9_otherEnd 2 (some .int) rm_X9_otherEnd [rv Z r0, iv x1] w (qI Z Q) := by
  refine ct_of (by decide) (Nat.le_of_ble_eq_true rfl) (fun E eE C R => ?_)
  subst eE
  have C : Cx Z (adA Z) E cX9_otherEnd "HandleFaces$Walker" 2 rm_X9_otherEnd := C
  unfold X9_otherEnd at h
  show V Z (adA Z) E 2 w 0 [(0, rv Z r0), (1, iv x1)] []
  refine v_iload_n C dX9_otherEnd_0 1 rfl ?_
  refine v_aload_n C dX9_otherEnd_1 0 rfl ?_
  refine g_X9_arms C h0 wd_186 dX9_otherEnd_2 ?_
  refine v_icmp_ge C 12 dX9_otherEnd_5 (by decide) (fun q => ?_) (fun q => ?_)
  · have h := h.1 q
    refine v_iload_n C dX9_otherEnd_12 1 rfl ?_
    refine v_aload_n C dX9_otherEnd_13 0 rfl ?_
    refine g_X9_arms C h0 wd_186 dX9_otherEnd_14 ?_
    refine v_isub C dX9_otherEnd_17 ?_
    refine v_iconst C dX9_otherEnd_18 ?_
    refine v_ixor C dX9_otherEnd_19 ?_
    exact v_iret C R h dX9_otherEnd_20
  · have h := h.2 q
    refine v_iload_n C dX9_otherEnd_8 1 rfl ?_
    refine v_goto C 18 dX9_otherEnd_9 (by decide) ?_
    refine v_iconst C dX9_otherEnd_18 ?_
    refine v_ixor C dX9_otherEnd_19 ?_
    exact v_iret C R h dX9_otherEnd_20
abbrev rm_X9_comesBack : Room := { frames := 0, cells := 0, slots := 0, locals := 0 }
theorem mf_X9_comesBack : MfB yX9_comesBack cX9_comesBack 3 (some .boolean) 1 := ⟨wd_813, wd_6, by decide, by decide, by decide +kernel⟩
def X9_comesBack_b50 (r0 : Nat) (Q : Int → Wd → Prop) (s0 : Int) (s1 : Int) (w : Wd) : Prop := ((wr s1 = wr s0 → Q 0 w) ∧ (¬ wr s1 = wr s0 → Q 1 w))
theorem t_X9_comesBack_b50 {Z : Zw} {E : Amb} {r0 : Nat} {Q : Int → Wd → Prop} (C : Cx Z (adA Z) E cX9_comesBack "HandleFaces$Walker" 3 rm_X9_comesBack) (R : Rt Z E (some .boolean) (qI Z Q)) (h0 : sX9 r0) : ∀ (s0 : Int) (s1 : Int) (w : Wd), X9_comesBack_b50 r0 Q s0 s1 w → V Z (adA Z) E 3 w 50 [] [iv s0, iv s1] := by
  intro s0 s1 w h
  unfold X9_comesBack_b50 at h
  refine v_icmp_eq C 57 dX9_comesBack_50 (by decide) (fun q => ?_) (fun q => ?_)
  · have h := h.1 q
    refine v_iconst C dX9_comesBack_57 ?_
    exact v_zret C R (Or.inl rfl) h dX9_comesBack_58
  · have h := h.2 q
    refine v_iconst C dX9_comesBack_53 ?_
    refine v_goto C 58 dX9_comesBack_54 (by decide) ?_
    exact v_zret C R (Or.inr rfl) h dX9_comesBack_58
def X9_comesBack_b32 (r0 : Nat) (Q : Int → Wd → Prop) (x2 : Int) (s0 : Int) (w : Wd) : Prop := ((wr (ian (isr (w r0 1) (isr x2 1)) 1) = 0 → X9_comesBack_b50 r0 Q 0 s0 w) ∧ (¬ wr (ian (isr (w r0 1) (isr x2 1)) 1) = 0 → X9_comesBack_b50 r0 Q 1 s0 w))
theorem t_X9_comesBack_b32 {Z : Zw} {E : Amb} {r0 : Nat} {Q : Int → Wd → Prop} (C : Cx Z (adA Z) E cX9_comesBack "HandleFaces$Walker" 3 rm_X9_comesBack) (R : Rt Z E (some .boolean) (qI Z Q)) (h0 : sX9 r0) : ∀ (x2 : Int) (s0 : Int) (w : Wd), X9_comesBack_b32 r0 Q x2 s0 w → V Z (adA Z) E 3 w 32 [(0, rv Z r0), (2, iv x2)] [iv s0] := by
  intro x2 s0 w h
  unfold X9_comesBack_b32 at h
  refine v_aload_n C dX9_comesBack_32 0 rfl ?_
  refine g_X9_twists C h0 wd_189 dX9_comesBack_33 ?_
  refine v_iload_n C dX9_comesBack_36 1 rfl ?_
  refine v_iconst C dX9_comesBack_37 ?_
  refine v_ishr C dX9_comesBack_38 ?_
  refine v_ishr C dX9_comesBack_39 ?_
  refine v_iconst C dX9_comesBack_40 ?_
  refine v_iand C dX9_comesBack_41 ?_
  refine v_if_eq C 49 dX9_comesBack_42 (by decide) (fun q => ?_) (fun q => ?_)
  · have h := h.1 q
    refine v_iconst C dX9_comesBack_49 ?_
    refine v_sub [] rfl ?_
    exact t_X9_comesBack_b50 C R h0 _ _ _ h
  · have h := h.2 q
    refine v_iconst C dX9_comesBack_45 ?_
    refine v_goto C 50 dX9_comesBack_46 (by decide) ?_
    refine v_sub [] rfl ?_
    exact t_X9_comesBack_b50 C R h0 _ _ _ h
def X9_comesBack_b18 (r0 : Nat) (Q : Int → Wd → Prop) (x1 : Int) (s0 : Int) (w : Wd) : Prop := ((wr x1 < wr (w r0 0) → X9_comesBack_b32 r0 Q s0 0 w) ∧ (¬ wr x1 < wr (w r0 0) → X9_comesBack_b32 r0 Q s0 1 w))
theorem t_X9_comesBack_b18 {Z : Zw} {E : Amb} {r0 : Nat} {Q : Int → Wd → Prop} (C : Cx Z (adA Z) E cX9_comesBack "HandleFaces$Walker" 3 rm_X9_comesBack) (R : Rt Z E (some .boolean) (qI Z Q)) (h0 : sX9 r0) : ∀ (x1 : Int) (s0 : Int) (w : Wd), X9_comesBack_b18 r0 Q x1 s0 w → V Z (adA Z) E 3 w 18 [(0, rv Z r0), (1, iv x1)] [iv s0] := by
  intro x1 s0 w h
  unfold X9_comesBack_b18 at h
  refine v_istore_n C [(2, _), (0, _), (1, _)] dX9_comesBack_18 2 rfl (by decide) rfl ?_
  refine v_iload_n C dX9_comesBack_19 2 rfl ?_
  refine v_aload_n C dX9_comesBack_20 1 rfl ?_
  refine g_X9_arms C h0 wd_186 dX9_comesBack_21 ?_
  refine v_icmp_lt C 31 dX9_comesBack_24 (by decide) (fun q => ?_) (fun q => ?_)
  · have h := h.1 q
    refine v_iconst C dX9_comesBack_31 ?_
    refine v_sub [1, 0] rfl ?_
    exact t_X9_comesBack_b32 C R h0 _ _ _ h
  · have h := h.2 q
    refine v_iconst C dX9_comesBack_27 ?_
    refine v_goto C 32 dX9_comesBack_28 (by decide) ?_
    refine v_sub [1, 0] rfl ?_
    exact t_X9_comesBack_b32 C R h0 _ _ _ h
def X9_comesBack (r0 : Nat) (x1 : Int) (w : Wd) (Q : Int → Wd → Prop) : Prop := ((wr (w r0 0) ≤ wr x1 → X9_comesBack_b18 r0 Q x1 (x1 - (w r0 0)) w) ∧ (¬ wr (w r0 0) ≤ wr x1 → X9_comesBack_b18 r0 Q x1 x1 w))
theorem m_X9_comesBack {Z : Zw} {l : Launch} {r0 : Nat} {x1 : Int} {w : Wd} {Q : Int → Wd → Prop} (h0 : sX9 r0) (h : X9_comesBack r0 x1 w Q) : CtQ Z l yX9_comesBack cX9_comesBack 3 (some .boolean) rm_X9_comesBack [rv Z r0, iv x1] w (qI Z Q) := by
  refine ct_of (by decide) (Nat.le_of_ble_eq_true rfl) (fun E eE C R => ?_)
  subst eE
  have C : Cx Z (adA Z) E cX9_comesBack "HandleFaces$Walker" 3 rm_X9_comesBack := C
  unfold X9_comesBack at h
  show V Z (adA Z) E 3 w 0 [(0, rv Z r0), (1, iv x1)] []
  refine v_iload_n C dX9_comesBack_0 1 rfl ?_
  refine v_aload_n C dX9_comesBack_1 0 rfl ?_
  refine g_X9_arms C h0 wd_186 dX9_comesBack_2 ?_
  refine v_icmp_ge C 12 dX9_comesBack_5 (by decide) (fun q => ?_) (fun q => ?_)
  · have h := h.1 q
    refine v_iload_n C dX9_comesBack_12 1 rfl ?_
    refine v_aload_n C dX9_comesBack_13 0 rfl ?_
    refine g_X9_arms C h0 wd_186 dX9_comesBack_14 ?_
    refine v_isub C dX9_comesBack_17 ?_
    exact t_X9_comesBack_b18 C R h0 _ _ _ h
  · have h := h.2 q
    refine v_iload_n C dX9_comesBack_8 1 rfl ?_
    refine v_goto C 18 dX9_comesBack_9 (by decide) ?_
    exact t_X9_comesBack_b18 C R h0 _ _ _ h
abbrev rm_X9_next : Room := { frames := 1, cells := 0, slots := 0, locals := 22 }
theorem mf_X9_next : MfB yX9_next cX9_next 3 (some .int) 1 := ⟨wd_821, wd_6, by decide, by decide, by decide +kernel⟩
def X9_next (r0 : Nat) (x1 : Int) (w : Wd) (Q : Int → Wd → Prop) : Prop := X9_otherEnd r0 x1 w (fun y2 w1 => X9_comesBack r0 x1 w1 (fun y4 w3 => ((wr y4 = 0 → (ix y2 20 ∧ Q (wr (rd w3 (r0 + 1) y2)) w3)) ∧ (¬ wr y4 = 0 → (ix y2 20 ∧ Q (wr ((w3 r0 0) + (rd w3 (r0 + 2) y2))) w3)))))
theorem m_X9_next {Z : Zw} {l : Launch} {r0 : Nat} {x1 : Int} {w : Wd} {Q : Int → Wd → Prop} (h0 : sX9 r0) (h : X9_next r0 x1 w Q) : CtQ Z l yX9_next cX9_next 3 (some .int) rm_X9_next [rv Z r0, iv x1] w (qI Z Q) := by
  refine ct_of (by decide) (Nat.le_of_ble_eq_true rfl) (fun E eE C R => ?_)
  subst eE
  have C : Cx Z (adA Z) E cX9_next "HandleFaces$Walker" 3 rm_X9_next := C
  unfold X9_next at h
  show V Z (adA Z) E 3 w 0 [(0, rv Z r0), (1, iv x1)] []
  refine v_aload_n C dX9_next_0 0 rfl ?_
  refine v_iload_n C dX9_next_1 1 rfl ?_
  refine v_calli C (rn_V C _ (m_X9_otherEnd h0 h) mf_X9_otherEnd wd_808 wp_29 wd_806 rfl rfl ⟨(Nat.le_of_ble_eq_true rfl), (Nat.le_of_ble_eq_true rfl)⟩ h0.1 rfl rfl rfl (Nat.le_of_ble_eq_true rfl) dX9_next_2) (fun r w h => ?_)
  refine v_istore_n C [(2, _), (0, _), (1, _)] dX9_next_5 2 rfl (by decide) rfl ?_
  refine v_aload_n C dX9_next_6 1 rfl ?_
  refine v_iload_n C dX9_next_7 2 rfl ?_
  refine v_calli C (rn_V C _ (m_X9_comesBack h0 h) mf_X9_comesBack wd_812 wp_30 wd_810 rfl rfl ⟨(Nat.le_of_ble_eq_true rfl), (Nat.le_of_ble_eq_true rfl)⟩ h0.1 rfl rfl rfl (Nat.le_of_ble_eq_true rfl) dX9_next_8) (fun r w h => ?_)
  refine v_if_eq C 28 dX9_next_11 (by decide) (fun q => ?_) (fun q => ?_)
  · have h := h.1 q
    refine v_aload_n C dX9_next_28 1 rfl ?_
    refine g_X9_behind C h0 wd_191 dX9_next_29 ?_
    refine v_iload_n C dX9_next_32 0 rfl ?_
    refine v_iald C h0.2.1 h.1 dX9_next_33 ?_
    have h := h.2
    exact v_iret C R h dX9_next_34
  · have h := h.2 q
    refine v_aload_n C dX9_next_14 1 rfl ?_
    refine g_X9_arms C h0 wd_186 dX9_next_15 ?_
    refine v_aload_n C dX9_next_18 1 rfl ?_
    refine g_X9_ahead C h0 wd_192 dX9_next_19 ?_
    refine v_iload_n C dX9_next_22 0 rfl ?_
    refine v_iald C h0.2.2 h.1 dX9_next_23 ?_
    have h := h.2
    refine v_iadd C dX9_next_24 ?_
    refine v_goto C 34 dX9_next_25 (by decide) ?_
    exact v_iret C R h dX9_next_34
abbrev rm_X9_opposite : Room := { frames := 1, cells := 0, slots := 0, locals := 22 }
theorem mf_X9_opposite : MfB yX9_opposite cX9_opposite 3 (some .int) 1 := ⟨wd_805, wd_6, by decide, by decide, by decide +kernel⟩
def X9_opposite (r0 : Nat) (x1 : Int) (w : Wd) (Q : Int → Wd → Prop) : Prop := X9_otherEnd r0 x1 w (fun y2 w1 => X9_comesBack r0 x1 w1 (fun y4 w3 => ((wr y4 = 0 → Q (wr ((w3 r0 0) + y2)) w3) ∧ (¬ wr y4 = 0 → Q (wr y2) w3))))
theorem m_X9_opposite {Z : Zw} {l : Launch} {r0 : Nat} {x1 : Int} {w : Wd} {Q : Int → Wd → Prop} (h0 : sX9 r0) (h : X9_opposite r0 x1 w Q) : CtQ Z l yX9_opposite cX9_opposite 3 (some .int) rm_X9_opposite [rv Z r0, iv x1] w (qI Z Q) := by
  refine ct_of (by decide) (Nat.le_of_ble_eq_true rfl) (fun E eE C R => ?_)
  subst eE
  have C : Cx Z (adA Z) E cX9_opposite "HandleFaces$Walker" 3 rm_X9_opposite := C
  unfold X9_opposite at h
  show V Z (adA Z) E 3 w 0 [(0, rv Z r0), (1, iv x1)] []
  refine v_aload_n C dX9_opposite_0 0 rfl ?_
  refine v_iload_n C dX9_opposite_1 1 rfl ?_
  refine v_calli C (rn_V C _ (m_X9_otherEnd h0 h) mf_X9_otherEnd wd_808 wp_29 wd_806 rfl rfl ⟨(Nat.le_of_ble_eq_true rfl), (Nat.le_of_ble_eq_true rfl)⟩ h0.1 rfl rfl rfl (Nat.le_of_ble_eq_true rfl) dX9_opposite_2) (fun r w h => ?_)
  refine v_istore_n C [(2, _), (0, _), (1, _)] dX9_opposite_5 2 rfl (by decide) rfl ?_
  refine v_aload_n C dX9_opposite_6 1 rfl ?_
  refine v_iload_n C dX9_opposite_7 2 rfl ?_
  refine v_calli C (rn_V C _ (m_X9_comesBack h0 h) mf_X9_comesBack wd_812 wp_30 wd_810 rfl rfl ⟨(Nat.le_of_ble_eq_true rfl), (Nat.le_of_ble_eq_true rfl)⟩ h0.1 rfl rfl rfl (Nat.le_of_ble_eq_true rfl) dX9_opposite_8) (fun r w h => ?_)
  refine v_if_eq C 18 dX9_opposite_11 (by decide) (fun q => ?_) (fun q => ?_)
  · have h := h.1 q
    refine v_aload_n C dX9_opposite_18 1 rfl ?_
    refine g_X9_arms C h0 wd_186 dX9_opposite_19 ?_
    refine v_iload_n C dX9_opposite_22 0 rfl ?_
    refine v_iadd C dX9_opposite_23 ?_
    exact v_iret C R h dX9_opposite_24
  · have h := h.2 q
    refine v_iload_n C dX9_opposite_14 0 rfl ?_
    refine v_goto C 24 dX9_opposite_15 (by decide) ?_
    exact v_iret C R h dX9_opposite_24
abbrev rm_X2_fits : Room := { frames := 2, cells := 0, slots := 0, locals := 44 }
theorem mf_X2_fits : MfB yX2_fits cX2_fits 6 (some .boolean) 1 := ⟨wd_1018, wd_9, by decide, by decide, by decide +kernel⟩
def X2_fits_b136 (Q : Int → Wd → Prop) (c22 : Int → Int → Wd → Prop) (e144 : Int → Wd → Prop) (x3 : Int) (w : Wd) : Prop := c22 0 (x3 + 1) w
theorem t_X2_fits_b136 {Z : Zw} {E : Amb} {Q : Int → Wd → Prop} {c22 : Int → Int → Wd → Prop} {e144 : Int → Wd → Prop} (C : Cx Z (adA Z) E cX2_fits "HandleFaces$Likeness" 6 rm_X2_fits) (R : Rt Z E (some .boolean) (qI Z Q)) (hc22 : ∀ (x2 : Int) (x3 : Int) (w : Wd), c22 x2 x3 w → V Z (adA Z) E 6 w 22 [(0, rv Z 50), (2, iv x2), (3, iv x3)] []) (he144 : ∀ (x2 : Int) (w : Wd), e144 x2 w → V Z (adA Z) E 6 w 144 [(2, iv x2)] []) : ∀ (x3 : Int) (w : Wd), X2_fits_b136 Q c22 e144 x3 w → V Z (adA Z) E 6 w 136 [(0, rv Z 50), (3, iv x3)] [] := by
  intro x3 w h
  unfold X2_fits_b136 at h
  refine v_iconst C dX2_fits_136 ?_
  refine v_istore_n C [(2, _), (0, _), (3, _)] dX2_fits_137 2 rfl (by decide) rfl ?_
  refine v_iinc C [(3, _), (2, _), (0, _)] dX2_fits_138 2 rfl (by decide) rfl ?_
  refine v_goto C 22 dX2_fits_141 (by decide) ?_
  refine v_sub [2, 1, 0] rfl ?_
  exact hc22 _ _ _ h
def X2_fits_l22 (Q : Int → Wd → Prop) (e144 : Int → Wd → Prop) : Nat → Int → Int → Wd → Prop
  | 0 => fun _ _ _ => False
  | n + 1 => fun x2 x3 w => ((wr 40 ≤ wr x3 → e144 x2 w) ∧ (¬ wr 40 ≤ wr x3 → ((wr (w 50 4) ≤ wr x3 → e144 x2 w) ∧ (¬ wr (w 50 4) ≤ wr x3 → ((wr x2 = 0 → e144 x2 w) ∧ (¬ wr x2 = 0 → (ix x3 40 ∧ (∀ y5, y5 = (rd w 58 x3) → (ix y5 40 ∧ (∀ y6, y6 = (rd w 57 y5) → X9_otherSense 51 y5 w (fun y8 w7 => X9_otherSense 54 y6 w7 (fun y10 w9 => X2_send y8 y10 w9 (fun y12 w11 => ((wr y12 = 0 → X2_fits_b136 Q (X2_fits_l22 Q e144 n) e144 x3 w11) ∧ (¬ wr y12 = 0 → X9_next 51 y5 w11 (fun y14 w13 => X9_next 54 y6 w13 (fun y16 w15 => X2_send y14 y16 w15 (fun y18 w17 => ((wr y18 = 0 → X2_fits_b136 Q (X2_fits_l22 Q e144 n) e144 x3 w17) ∧ (¬ wr y18 = 0 → X9_opposite 51 y5 w17 (fun y20 w19 => X9_opposite 54 y6 w19 (fun y22 w21 => X2_send y20 y22 w21 (fun y24 w23 => ((wr y24 = 0 → X2_fits_b136 Q (X2_fits_l22 Q e144 n) e144 x3 w23) ∧ (¬ wr y24 = 0 → (X2_fits_l22 Q e144 n) 1 (x3 + 1) w23)))))))))))))))))))))))))
theorem t_X2_fits_l22 {Z : Zw} {E : Amb} {Q : Int → Wd → Prop} {e144 : Int → Wd → Prop} (C : Cx Z (adA Z) E cX2_fits "HandleFaces$Likeness" 6 rm_X2_fits) (R : Rt Z E (some .boolean) (qI Z Q)) (he144 : ∀ (x2 : Int) (w : Wd), e144 x2 w → V Z (adA Z) E 6 w 144 [(2, iv x2)] []) : ∀ (n : Nat) (x2 : Int) (x3 : Int) (w : Wd), X2_fits_l22 Q e144 n x2 x3 w → V Z (adA Z) E 6 w 22 [(0, rv Z 50), (2, iv x2), (3, iv x3)] [] := by
  intro n
  induction n with
  | zero => intro x2 x3 w h; exact h.elim
  | succ n ih =>
    intro x2 x3 w h
    unfold X2_fits_l22 at h
    refine v_iload_n C dX2_fits_22 2 rfl ?_
    refine v_bipush C dX2_fits_23 (by decide) ?_
    refine v_icmp_ge C 144 dX2_fits_25 (by decide) (fun q => ?_) (fun q => ?_)
    · have h := h.1 q
      refine v_sub [1] rfl ?_
      exact he144 _ _ h
    · have h := h.2 q
      refine v_iload_n C dX2_fits_28 2 rfl ?_
      refine v_aload_n C dX2_fits_29 0 rfl ?_
      refine g_X2_queued C wd_318 dX2_fits_30 ?_
      refine v_icmp_ge C 144 dX2_fits_33 (by decide) (fun q => ?_) (fun q => ?_)
      · have h := h.1 q
        refine v_sub [1] rfl ?_
        exact he144 _ _ h
      · have h := h.2 q
        refine v_iload_n C dX2_fits_36 1 rfl ?_
        refine v_if_eq C 144 dX2_fits_37 (by decide) (fun q => ?_) (fun q => ?_)
        · have h := h.1 q
          refine v_sub [1] rfl ?_
          exact he144 _ _ h
        · have h := h.2 q
          refine v_aload_n C dX2_fits_40 0 rfl ?_
          refine g_X2_queue C wd_317 dX2_fits_41 ?_
          refine v_iload_n C dX2_fits_44 2 rfl ?_
          refine v_iald C rfl h.1 dX2_fits_45 ?_
          have h := h.2
          refine v_istore C [(4, _), (0, _), (2, _), (3, _)] dX2_fits_46 (by decide) rfl ?_
          have h := h _ rfl
          refine v_aload_n C dX2_fits_48 1 rfl ?_
          refine g_X2_sentTo C wd_316 dX2_fits_49 ?_
          refine v_iload C dX2_fits_52 0 rfl ?_
          refine v_iald C rfl h.1 dX2_fits_54 ?_
          have h := h.2
          refine v_istore C [(5, _), (4, _), (0, _), (2, _), (3, _)] dX2_fits_55 (by decide) rfl ?_
          have h := h _ rfl
          refine v_aload_n C dX2_fits_57 2 rfl ?_
          refine v_aload_n C dX2_fits_58 2 rfl ?_
          refine g_X2_here C wd_314 dX2_fits_59 ?_
          refine v_iload C dX2_fits_62 1 rfl ?_
          refine v_calli C (rn_V C _ (m_X9_otherSense s_X9_51 h) mf_X9_otherSense wd_1025 wd_1026 wd_1024 rfl rfl ⟨(Nat.le_of_ble_eq_true rfl), (Nat.le_of_ble_eq_true rfl)⟩ s_X9_51.1 rfl rfl rfl (Nat.le_of_ble_eq_true rfl) dX2_fits_64) (fun r w h => ?_)
          refine v_aload_n C dX2_fits_67 2 rfl ?_
          refine g_X2_there C wd_315 dX2_fits_68 ?_
          refine v_iload C dX2_fits_71 0 rfl ?_
          refine v_calli C (rn_V C _ (m_X9_otherSense s_X9_54 h) mf_X9_otherSense wd_1025 wd_1026 wd_1024 rfl rfl ⟨(Nat.le_of_ble_eq_true rfl), (Nat.le_of_ble_eq_true rfl)⟩ s_X9_54.1 rfl rfl rfl (Nat.le_of_ble_eq_true rfl) dX2_fits_73) (fun r w h => ?_)
          refine v_calli C (rn_V C _ (m_X2_send h) mf_X2_send wd_1022 wp_41 wd_1020 rfl rfl ⟨(Nat.le_of_ble_eq_true rfl), (Nat.le_of_ble_eq_true rfl)⟩ rfl rfl rfl rfl (Nat.le_of_ble_eq_true rfl) dX2_fits_76) (fun r w h => ?_)
          refine v_if_eq C 136 dX2_fits_79 (by decide) (fun q => ?_) (fun q => ?_)
          · have h := h.1 q
            refine v_sub [2, 4] rfl ?_
            exact t_X2_fits_b136 C R ih he144 _ _ h
          · have h := h.2 q
            refine v_aload_n C dX2_fits_82 2 rfl ?_
            refine v_aload_n C dX2_fits_83 2 rfl ?_
            refine g_X2_here C wd_314 dX2_fits_84 ?_
            refine v_iload C dX2_fits_87 1 rfl ?_
            refine v_calli C (rn_V C _ (m_X9_next s_X9_51 h) mf_X9_next wd_819 wd_820 wd_1028 rfl rfl ⟨(Nat.le_of_ble_eq_true rfl), (Nat.le_of_ble_eq_true rfl)⟩ s_X9_51.1 rfl rfl rfl (Nat.le_of_ble_eq_true rfl) dX2_fits_89) (fun r w h => ?_)
            refine v_aload_n C dX2_fits_92 2 rfl ?_
            refine g_X2_there C wd_315 dX2_fits_93 ?_
            refine v_iload C dX2_fits_96 0 rfl ?_
            refine v_calli C (rn_V C _ (m_X9_next s_X9_54 h) mf_X9_next wd_819 wd_820 wd_1028 rfl rfl ⟨(Nat.le_of_ble_eq_true rfl), (Nat.le_of_ble_eq_true rfl)⟩ s_X9_54.1 rfl rfl rfl (Nat.le_of_ble_eq_true rfl) dX2_fits_98) (fun r w h => ?_)
            refine v_calli C (rn_V C _ (m_X2_send h) mf_X2_send wd_1022 wp_41 wd_1020 rfl rfl ⟨(Nat.le_of_ble_eq_true rfl), (Nat.le_of_ble_eq_true rfl)⟩ rfl rfl rfl rfl (Nat.le_of_ble_eq_true rfl) dX2_fits_101) (fun r w h => ?_)
            refine v_if_eq C 136 dX2_fits_104 (by decide) (fun q => ?_) (fun q => ?_)
            · have h := h.1 q
              refine v_sub [2, 4] rfl ?_
              exact t_X2_fits_b136 C R ih he144 _ _ h
            · have h := h.2 q
              refine v_aload_n C dX2_fits_107 2 rfl ?_
              refine v_aload_n C dX2_fits_108 2 rfl ?_
              refine g_X2_here C wd_314 dX2_fits_109 ?_
              refine v_iload C dX2_fits_112 1 rfl ?_
              refine v_calli C (rn_V C _ (m_X9_opposite s_X9_51 h) mf_X9_opposite wd_803 wd_804 wd_1029 rfl rfl ⟨(Nat.le_of_ble_eq_true rfl), (Nat.le_of_ble_eq_true rfl)⟩ s_X9_51.1 rfl rfl rfl (Nat.le_of_ble_eq_true rfl) dX2_fits_114) (fun r w h => ?_)
              refine v_aload_n C dX2_fits_117 2 rfl ?_
              refine g_X2_there C wd_315 dX2_fits_118 ?_
              refine v_iload C dX2_fits_121 0 rfl ?_
              refine v_calli C (rn_V C _ (m_X9_opposite s_X9_54 h) mf_X9_opposite wd_803 wd_804 wd_1029 rfl rfl ⟨(Nat.le_of_ble_eq_true rfl), (Nat.le_of_ble_eq_true rfl)⟩ s_X9_54.1 rfl rfl rfl (Nat.le_of_ble_eq_true rfl) dX2_fits_123) (fun r w h => ?_)
              refine v_calli C (rn_V C _ (m_X2_send h) mf_X2_send wd_1022 wp_41 wd_1020 rfl rfl ⟨(Nat.le_of_ble_eq_true rfl), (Nat.le_of_ble_eq_true rfl)⟩ rfl rfl rfl rfl (Nat.le_of_ble_eq_true rfl) dX2_fits_126) (fun r w h => ?_)
              refine v_if_eq C 136 dX2_fits_129 (by decide) (fun q => ?_) (fun q => ?_)
              · have h := h.1 q
                refine v_sub [2, 4] rfl ?_
                exact t_X2_fits_b136 C R ih he144 _ _ h
              · have h := h.2 q
                refine v_iconst C dX2_fits_132 ?_
                refine v_goto C 137 dX2_fits_133 (by decide) ?_
                refine v_istore_n C [(2, _), (5, _), (4, _), (0, _), (3, _)] dX2_fits_137 2 rfl (by decide) rfl ?_
                refine v_iinc C [(3, _), (2, _), (5, _), (4, _), (0, _)] dX2_fits_138 4 rfl (by decide) rfl ?_
                refine v_goto C 22 dX2_fits_141 (by decide) ?_
                refine v_sub [4, 1, 0] rfl ?_
                exact ih _ _ _ h
def X2_fits_b144 (Q : Int → Wd → Prop) (x2 : Int) (w : Wd) : Prop := ((x2 = 0 ∨ x2 = 1) ∧ Q x2 w)
theorem t_X2_fits_b144 {Z : Zw} {E : Amb} {Q : Int → Wd → Prop} (C : Cx Z (adA Z) E cX2_fits "HandleFaces$Likeness" 6 rm_X2_fits) (R : Rt Z E (some .boolean) (qI Z Q)) : ∀ (x2 : Int) (w : Wd), X2_fits_b144 Q x2 w → V Z (adA Z) E 6 w 144 [(2, iv x2)] [] := by
  intro x2 w h
  unfold X2_fits_b144 at h
  refine v_iload_n C dX2_fits_144 0 rfl ?_
  exact v_zret C R h.1 h.2 dX2_fits_145
def X2_fits (x1 : Int) (w : Wd) (Q : Int → Wd → Prop) : Prop := J7_fill_53178 57 (-1) w (fun w1 => (∀ w2, w2 = up w1 50 4 0 → X2_send 0 x1 w2 (fun y4 w3 => (∃ m, X2_fits_l22 Q (X2_fits_b144 Q) m y4 0 w3))))
theorem m_X2_fits {Z : Zw} {l : Launch} {x1 : Int} {w : Wd} {Q : Int → Wd → Prop} (h : X2_fits x1 w Q) : CtQ Z l yX2_fits cX2_fits 6 (some .boolean) rm_X2_fits [rv Z 50, iv x1] w (qI Z Q) := by
  refine ct_of (by decide) (Nat.le_of_ble_eq_true rfl) (fun E eE C R => ?_)
  subst eE
  have C : Cx Z (adA Z) E cX2_fits "HandleFaces$Likeness" 6 rm_X2_fits := C
  unfold X2_fits at h
  show V Z (adA Z) E 6 w 0 [(0, rv Z 50), (1, iv x1)] []
  refine v_aload_n C dX2_fits_0 0 rfl ?_
  refine g_X2_sentTo C wd_316 dX2_fits_1 ?_
  refine v_iconst C dX2_fits_4 ?_
  refine v_callv C (rn_S C _ (m_J7_fill_53178 (aln_of (rfl : shp 57 = (1, 40, []))) h) mf_J7_fill_53178 wd_579 wd_1019 rfl rfl ⟨(Nat.le_of_ble_eq_true rfl), (Nat.le_of_ble_eq_true rfl)⟩ rfl rfl (Nat.le_of_ble_eq_true rfl) dX2_fits_5) (fun w h => ?_)
  refine v_aload_n C dX2_fits_8 0 rfl ?_
  refine v_iconst C dX2_fits_9 ?_
  refine p_X2_queued C wd_318 dX2_fits_10 ?_
  have h := h _ rfl
  refine v_aload_n C dX2_fits_13 0 rfl ?_
  refine v_iconst C dX2_fits_14 ?_
  refine v_iload_n C dX2_fits_15 1 rfl ?_
  refine v_calli C (rn_V C _ (m_X2_send h) mf_X2_send wd_1022 wp_41 wd_1020 rfl rfl ⟨(Nat.le_of_ble_eq_true rfl), (Nat.le_of_ble_eq_true rfl)⟩ rfl rfl rfl rfl (Nat.le_of_ble_eq_true rfl) dX2_fits_16) (fun r w h => ?_)
  refine v_istore_n C [(2, _), (0, _), (1, _)] dX2_fits_19 2 rfl (by decide) rfl ?_
  refine v_iconst C dX2_fits_20 ?_
  refine v_istore_n C [(3, _), (2, _), (0, _), (1, _)] dX2_fits_21 3 rfl (by decide) rfl ?_
  refine v_sub [2, 1, 0] rfl ?_
  obtain ⟨m, h⟩ := h
  exact t_X2_fits_l22 C R (t_X2_fits_b144 C R) m _ _ _ h
abbrev rm_X2_waysBetween : Room := { frames := 3, cells := 0, slots := 0, locals := 72 }
theorem mf_X2_waysBetween : MfB yX2_waysBetween cX2_waysBetween 5 (some .int) 2 := ⟨wd_1009, wd_9, by decide, by decide, by decide +kernel⟩
def X2_waysBetween_l51 (r1 : Nat) (r2 : Nat) (Q : Int → Wd → Prop) (e83 : Int → Wd → Prop) : Nat → Int → Int → Wd → Prop
  | 0 => fun _ _ _ => False
  | n + 1 => fun x3 x4 w => ((wr (2 * (w 54 0)) ≤ wr x4 → e83 x3 w) ∧ (¬ wr (2 * (w 54 0)) ≤ wr x4 → X2_fits x4 w (fun y8 w7 => ((wr y8 = 0 → (X2_waysBetween_l51 r1 r2 Q e83 n) x3 (x4 + 1) w7) ∧ (¬ wr y8 = 0 → (X2_waysBetween_l51 r1 r2 Q e83 n) (x3 + 1) (x4 + 1) w7)))))
theorem t_X2_waysBetween_l51 {Z : Zw} {E : Amb} {r1 : Nat} {r2 : Nat} {Q : Int → Wd → Prop} {e83 : Int → Wd → Prop} (C : Cx Z (adA Z) E cX2_waysBetween "HandleFaces$Likeness" 5 rm_X2_waysBetween) (R : Rt Z E (some .int) (qI Z Q)) (h1 : sX1 r1) (h2 : sX1 r2) (he83 : ∀ (x3 : Int) (w : Wd), e83 x3 w → V Z (adA Z) E 5 w 83 [(3, iv x3)] []) : ∀ (n : Nat) (x3 : Int) (x4 : Int) (w : Wd), X2_waysBetween_l51 r1 r2 Q e83 n x3 x4 w → V Z (adA Z) E 5 w 51 [(0, rv Z 50), (3, iv x3), (4, iv x4)] [] := by
  intro n
  induction n with
  | zero => intro x3 x4 w h; exact h.elim
  | succ n ih =>
    intro x3 x4 w h
    unfold X2_waysBetween_l51 at h
    refine v_iload C dX2_waysBetween_51 2 rfl ?_
    refine v_iconst C dX2_waysBetween_53 ?_
    refine v_aload_n C dX2_waysBetween_54 0 rfl ?_
    refine g_X2_there C wd_315 dX2_waysBetween_55 ?_
    refine g_X9_arms C s_X9_54 wd_188 dX2_waysBetween_58 ?_
    refine v_imul C dX2_waysBetween_61 ?_
    refine v_icmp_ge C 83 dX2_waysBetween_62 (by decide) (fun q => ?_) (fun q => ?_)
    · have h := h.1 q
      refine v_sub [1] rfl ?_
      exact he83 _ _ h
    · have h := h.2 q
      refine v_aload_n C dX2_waysBetween_65 0 rfl ?_
      refine v_iload C dX2_waysBetween_66 2 rfl ?_
      refine v_calli C (rn_V C _ (m_X2_fits h) mf_X2_fits wd_1017 wp_40 wd_1015 rfl rfl ⟨(Nat.le_of_ble_eq_true rfl), (Nat.le_of_ble_eq_true rfl)⟩ rfl rfl rfl rfl (Nat.le_of_ble_eq_true rfl) dX2_waysBetween_68) (fun r w h => ?_)
      refine v_if_eq C 77 dX2_waysBetween_71 (by decide) (fun q => ?_) (fun q => ?_)
      · have h := h.1 q
        refine v_iinc C [(4, _), (0, _), (3, _)] dX2_waysBetween_77 2 rfl (by decide) rfl ?_
        refine v_goto C 51 dX2_waysBetween_80 (by decide) ?_
        refine v_sub [1, 2, 0] rfl ?_
        exact ih _ _ _ h
      · have h := h.2 q
        refine v_iinc C [(3, _), (0, _), (4, _)] dX2_waysBetween_74 1 rfl (by decide) rfl ?_
        refine v_iinc C [(4, _), (3, _), (0, _)] dX2_waysBetween_77 2 rfl (by decide) rfl ?_
        refine v_goto C 51 dX2_waysBetween_80 (by decide) ?_
        refine v_sub [2, 1, 0] rfl ?_
        exact ih _ _ _ h
def X2_waysBetween_b83 (r1 : Nat) (r2 : Nat) (Q : Int → Wd → Prop) (x3 : Int) (w : Wd) : Prop := Q (wr x3) w
theorem t_X2_waysBetween_b83 {Z : Zw} {E : Amb} {r1 : Nat} {r2 : Nat} {Q : Int → Wd → Prop} (C : Cx Z (adA Z) E cX2_waysBetween "HandleFaces$Likeness" 5 rm_X2_waysBetween) (R : Rt Z E (some .int) (qI Z Q)) (h1 : sX1 r1) (h2 : sX1 r2) : ∀ (x3 : Int) (w : Wd), X2_waysBetween_b83 r1 r2 Q x3 w → V Z (adA Z) E 5 w 83 [(3, iv x3)] [] := by
  intro x3 w h
  unfold X2_waysBetween_b83 at h
  refine v_iload_n C dX2_waysBetween_83 0 rfl ?_
  exact v_iret C R h dX2_waysBetween_84
def X2_waysBetween (r1 : Nat) (r2 : Nat) (w : Wd) (Q : Int → Wd → Prop) : Prop := X2_isWhole r1 w (fun y2 w1 => ((wr y2 = 0 → Q (wr (-2)) w1) ∧ (¬ wr y2 = 0 → X2_isWhole r2 w1 (fun y4 w3 => ((wr y4 = 0 → Q (wr (-2)) w3) ∧ (¬ wr y4 = 0 → ((wr (w3 r1 1) = wr (w3 r2 1) → X9_enter 51 r1 w3 (fun w5 => X9_enter 54 r2 w5 (fun w6 => (∃ m, X2_waysBetween_l51 r1 r2 Q (X2_waysBetween_b83 r1 r2 Q) m 0 0 w6)))) ∧ (¬ wr (w3 r1 1) = wr (w3 r2 1) → Q (wr 0) w3))))))))
theorem m_X2_waysBetween {Z : Zw} {l : Launch} {r1 : Nat} {r2 : Nat} {w : Wd} {Q : Int → Wd → Prop} (h1 : sX1 r1) (h2 : sX1 r2) (h : X2_waysBetween r1 r2 w Q) : CtQ Z l yX2_waysBetween cX2_waysBetween 5 (some .int) rm_X2_waysBetween [rv Z 50, rv Z r1, rv Z r2] w (qI Z Q) := by
  refine ct_of (by decide) (Nat.le_of_ble_eq_true rfl) (fun E eE C R => ?_)
  subst eE
  have C : Cx Z (adA Z) E cX2_waysBetween "HandleFaces$Likeness" 5 rm_X2_waysBetween := C
  unfold X2_waysBetween at h
  show V Z (adA Z) E 5 w 0 [(0, rv Z 50), (1, rv Z r1), (2, rv Z r2)] []
  refine v_aload_n C dX2_waysBetween_0 1 rfl ?_
  refine v_calli C (rn_S C _ (m_X2_isWhole h1 h) mf_X2_isWhole wd_1011 wd_1010 rfl rfl ⟨(Nat.le_of_ble_eq_true rfl), (Nat.le_of_ble_eq_true rfl)⟩ rfl rfl (Nat.le_of_ble_eq_true rfl) dX2_waysBetween_1) (fun r w h => ?_)
  refine v_if_eq C 14 dX2_waysBetween_4 (by decide) (fun q => ?_) (fun q => ?_)
  · have h := h.1 q
    refine v_bipush C dX2_waysBetween_14 (by decide) ?_
    exact v_iret C R h dX2_waysBetween_16
  · have h := h.2 q
    refine v_aload_n C dX2_waysBetween_7 2 rfl ?_
    refine v_calli C (rn_S C _ (m_X2_isWhole h2 h) mf_X2_isWhole wd_1011 wd_1010 rfl rfl ⟨(Nat.le_of_ble_eq_true rfl), (Nat.le_of_ble_eq_true rfl)⟩ rfl rfl (Nat.le_of_ble_eq_true rfl) dX2_waysBetween_8) (fun r w h => ?_)
    refine v_if_ne C 17 dX2_waysBetween_11 (by decide) (fun q => ?_) (fun q => ?_)
    · have h := h.2 q
      refine v_aload_n C dX2_waysBetween_17 1 rfl ?_
      refine g_X1_lines C h1 wd_45 dX2_waysBetween_18 ?_
      refine v_aload_n C dX2_waysBetween_21 2 rfl ?_
      refine g_X1_lines C h2 wd_45 dX2_waysBetween_22 ?_
      refine v_icmp_eq C 30 dX2_waysBetween_25 (by decide) (fun q => ?_) (fun q => ?_)
      · have h := h.1 q
        refine v_aload_n C dX2_waysBetween_30 0 rfl ?_
        refine g_X2_here C wd_314 dX2_waysBetween_31 ?_
        refine v_aload_n C dX2_waysBetween_34 1 rfl ?_
        refine v_callv C (rn_V C _ (m_X9_enter s_X9_51 h1 h) mf_X9_enter wd_718 wd_719 wd_1014 rfl rfl ⟨(Nat.le_of_ble_eq_true rfl), (Nat.le_of_ble_eq_true rfl)⟩ s_X9_51.1 rfl rfl rfl (Nat.le_of_ble_eq_true rfl) dX2_waysBetween_35) (fun w h => ?_)
        refine v_aload_n C dX2_waysBetween_38 0 rfl ?_
        refine g_X2_there C wd_315 dX2_waysBetween_39 ?_
        refine v_aload_n C dX2_waysBetween_42 2 rfl ?_
        refine v_callv C (rn_V C _ (m_X9_enter s_X9_54 h2 h) mf_X9_enter wd_718 wd_719 wd_1014 rfl rfl ⟨(Nat.le_of_ble_eq_true rfl), (Nat.le_of_ble_eq_true rfl)⟩ s_X9_54.1 rfl rfl rfl (Nat.le_of_ble_eq_true rfl) dX2_waysBetween_43) (fun w h => ?_)
        refine v_iconst C dX2_waysBetween_46 ?_
        refine v_istore_n C [(3, _), (0, _), (1, _), (2, _)] dX2_waysBetween_47 3 rfl (by decide) rfl ?_
        refine v_iconst C dX2_waysBetween_48 ?_
        refine v_istore C [(4, _), (3, _), (0, _), (1, _), (2, _)] dX2_waysBetween_49 (by decide) rfl ?_
        refine v_sub [2, 1, 0] rfl ?_
        obtain ⟨m, h⟩ := h
        exact t_X2_waysBetween_l51 C R h1 h2 (t_X2_waysBetween_b83 C R h1 h2) m _ _ _ h
      · have h := h.2 q
        refine v_iconst C dX2_waysBetween_28 ?_
        exact v_iret C R h dX2_waysBetween_29
    · have h := h.1 q
      refine v_bipush C dX2_waysBetween_14 (by decide) ?_
      exact v_iret C R h dX2_waysBetween_16
abbrev rm_X3_factorial : Room := { frames := 0, cells := 0, slots := 0, locals := 0 }
theorem mf_X3_factorial : MfB yX3_factorial cX3_factorial 1 (some .int) 1 := ⟨wd_695, wd_7, by decide, by decide, by decide +kernel⟩
def X3_factorial_b12 (Q : Int → Wd → Prop) (w : Wd) : Prop := Q (wr 1) w
theorem t_X3_factorial_b12 {Z : Zw} {E : Amb} {Q : Int → Wd → Prop} (C : Cx Z (adA Z) E cX3_factorial "HandleFaces$Orders" 1 rm_X3_factorial) (R : Rt Z E (some .int) (qI Z Q)) : ∀ (w : Wd), X3_factorial_b12 Q w → V Z (adA Z) E 1 w 12 [] [] := by
  intro w h
  unfold X3_factorial_b12 at h
  refine v_iconst C dX3_factorial_12 ?_
  refine v_goto C 21 dX3_factorial_13 (by decide) ?_
  exact v_iret C R h dX3_factorial_21
def X3_factorial (x0 : Int) (w : Wd) (Q : Int → Wd → Prop) : Prop := ((wr x0 < 0 → X3_factorial_b12 Q w) ∧ (¬ wr x0 < 0 → ((wr x0 < wr 10 → (ix x0 10 ∧ Q (wr (facs.getD (wr x0).toNat 0)) w)) ∧ (¬ wr x0 < wr 10 → X3_factorial_b12 Q w))))
theorem m_X3_factorial {Z : Zw} {l : Launch} {x0 : Int} {w : Wd} {Q : Int → Wd → Prop} (h : X3_factorial x0 w Q) : CtQ Z l yX3_factorial cX3_factorial 1 (some .int) rm_X3_factorial [iv x0] w (qI Z Q) := by
  refine ct_of (by decide) (Nat.le_of_ble_eq_true rfl) (fun E eE C R => ?_)
  subst eE
  have C : Cx Z (adA Z) E cX3_factorial "HandleFaces$Orders" 1 rm_X3_factorial := C
  unfold X3_factorial at h
  show V Z (adA Z) E 1 w 0 [(0, iv x0)] []
  refine v_iload_n C dX3_factorial_0 0 rfl ?_
  refine v_if_lt C 12 dX3_factorial_1 (by decide) (fun q => ?_) (fun q => ?_)
  · have h := h.1 q
    refine v_sub [] rfl ?_
    exact t_X3_factorial_b12 C R _ h
  · have h := h.2 q
    refine v_iload_n C dX3_factorial_4 0 rfl ?_
    refine v_fac C dX3_factorial_5 ?_
    refine v_faclen C dX3_factorial_8 ?_
    refine v_icmp_lt C 16 dX3_factorial_9 (by decide) (fun q => ?_) (fun q => ?_)
    · have h := h.1 q
      refine v_fac C dX3_factorial_16 ?_
      refine v_iload_n C dX3_factorial_19 0 rfl ?_
      refine v_facald C h.1 dX3_factorial_20 ?_
      have h := h.2
      exact v_iret C R h dX3_factorial_21
    · have h := h.2 q
      refine v_sub [] rfl ?_
      exact t_X3_factorial_b12 C R _ h
abbrev rm_X3_ordersOf : Room := { frames := 1, cells := 0, slots := 0, locals := 20 }
theorem mf_X3_ordersOf : MfB yX3_ordersOf cX3_ordersOf 2 (some .int) 2 := ⟨wd_692, wd_7, by decide, by decide, by decide +kernel⟩
def X3_ordersOf (r0 : Nat) (x1 : Int) (w : Wd) (Q : Int → Wd → Prop) : Prop := (ix x1 6 ∧ X3_factorial ((rd w (r0 + 2) x1) - 1) w (fun y2 w1 => Q (wr y2) w1))
theorem m_X3_ordersOf {Z : Zw} {l : Launch} {r0 : Nat} {x1 : Int} {w : Wd} {Q : Int → Wd → Prop} (h0 : sX1 r0) (h : X3_ordersOf r0 x1 w Q) : CtQ Z l yX3_ordersOf cX3_ordersOf 2 (some .int) rm_X3_ordersOf [rv Z r0, iv x1] w (qI Z Q) := by
  refine ct_of (by decide) (Nat.le_of_ble_eq_true rfl) (fun E eE C R => ?_)
  subst eE
  have C : Cx Z (adA Z) E cX3_ordersOf "HandleFaces$Orders" 2 rm_X3_ordersOf := C
  unfold X3_ordersOf at h
  show V Z (adA Z) E 2 w 0 [(0, rv Z r0), (1, iv x1)] []
  refine v_aload_n C dX3_ordersOf_0 0 rfl ?_
  refine g_X1_degrees C h0 wd_65 dX3_ordersOf_1 ?_
  refine v_iload_n C dX3_ordersOf_4 1 rfl ?_
  refine v_iald C h0.2.2.1 h.1 dX3_ordersOf_5 ?_
  have h := h.2
  refine v_iconst C dX3_ordersOf_6 ?_
  refine v_isub C dX3_ordersOf_7 ?_
  refine v_calli C (rn_S C _ (m_X3_factorial h) mf_X3_factorial wd_694 wd_693 rfl rfl ⟨(Nat.le_of_ble_eq_true rfl), (Nat.le_of_ble_eq_true rfl)⟩ rfl rfl (Nat.le_of_ble_eq_true rfl) dX3_ordersOf_8) (fun r w h => ?_)
  exact v_iret C R h dX3_ordersOf_11
abbrev rm_X3_howMany : Room := { frames := 2, cells := 0, slots := 0, locals := 41 }
theorem mf_X3_howMany : MfB yX3_howMany cX3_howMany 4 (some .long) 1 := ⟨wd_689, wd_7, by decide, by decide, by decide +kernel⟩
def X3_howMany_l4 (r0 : Nat) (Q : Int → Wd → Prop) (e27 : Int → Wd → Prop) : Nat → Int → Int → Wd → Prop
  | 0 => fun _ _ _ => False
  | n + 1 => fun x1 x3 w => ((wr (w r0 0) ≤ wr x3 → e27 x1 w) ∧ (¬ wr (w r0 0) ≤ wr x3 → X3_ordersOf r0 x3 w (fun y2 w1 => (∀ y3, y3 = (x1 * (wr y2)) → (X3_howMany_l4 r0 Q e27 n) y3 (x3 + 1) w1))))
theorem t_X3_howMany_l4 {Z : Zw} {E : Amb} {r0 : Nat} {Q : Int → Wd → Prop} {e27 : Int → Wd → Prop} (C : Cx Z (adA Z) E cX3_howMany "HandleFaces$Orders" 4 rm_X3_howMany) (R : Rt Z E (some .long) (qL Z Q)) (h0 : sX1 r0) (he27 : ∀ (x1 : Int) (w : Wd), e27 x1 w → V Z (adA Z) E 4 w 27 [(1, jv x1)] []) : ∀ (n : Nat) (x1 : Int) (x3 : Int) (w : Wd), X3_howMany_l4 r0 Q e27 n x1 x3 w → V Z (adA Z) E 4 w 4 [(0, rv Z r0), (1, jv x1), (3, iv x3)] [] := by
  intro n
  induction n with
  | zero => intro x1 x3 w h; exact h.elim
  | succ n ih =>
    intro x1 x3 w h
    unfold X3_howMany_l4 at h
    refine v_iload_n C dX3_howMany_4 2 rfl ?_
    refine v_aload_n C dX3_howMany_5 0 rfl ?_
    refine g_X1_posts C h0 wd_36 dX3_howMany_6 ?_
    refine v_icmp_ge C 27 dX3_howMany_9 (by decide) (fun q => ?_) (fun q => ?_)
    · have h := h.1 q
      refine v_sub [1] rfl ?_
      exact he27 _ _ h
    · have h := h.2 q
      refine v_lload_n C dX3_howMany_12 1 rfl ?_
      refine v_aload_n C dX3_howMany_13 0 rfl ?_
      refine v_iload_n C dX3_howMany_14 2 rfl ?_
      refine v_calli C (rn_S C _ (m_X3_ordersOf h0 h) mf_X3_ordersOf wd_691 wd_690 rfl rfl ⟨(Nat.le_of_ble_eq_true rfl), (Nat.le_of_ble_eq_true rfl)⟩ rfl rfl (Nat.le_of_ble_eq_true rfl) dX3_howMany_15) (fun r w h => ?_)
      refine v_i2l C dX3_howMany_18 ?_
      refine v_lmul C dX3_howMany_19 ?_
      refine v_lstore_n C [(1, _), (0, _), (3, _)] dX3_howMany_20 1 rfl (by decide) rfl ?_
      have h := h _ rfl
      refine v_iinc C [(3, _), (1, _), (0, _)] dX3_howMany_21 2 rfl (by decide) rfl ?_
      refine v_goto C 4 dX3_howMany_24 (by decide) ?_
      refine v_sub [2, 1, 0] rfl ?_
      exact ih _ _ _ h
def X3_howMany_b27 (r0 : Nat) (Q : Int → Wd → Prop) (x1 : Int) (w : Wd) : Prop := Q (wl x1) w
theorem t_X3_howMany_b27 {Z : Zw} {E : Amb} {r0 : Nat} {Q : Int → Wd → Prop} (C : Cx Z (adA Z) E cX3_howMany "HandleFaces$Orders" 4 rm_X3_howMany) (R : Rt Z E (some .long) (qL Z Q)) (h0 : sX1 r0) : ∀ (x1 : Int) (w : Wd), X3_howMany_b27 r0 Q x1 w → V Z (adA Z) E 4 w 27 [(1, jv x1)] [] := by
  intro x1 w h
  unfold X3_howMany_b27 at h
  refine v_lload_n C dX3_howMany_27 0 rfl ?_
  exact v_lret C R h dX3_howMany_28
def X3_howMany (r0 : Nat) (w : Wd) (Q : Int → Wd → Prop) : Prop := (∃ m, X3_howMany_l4 r0 Q (X3_howMany_b27 r0 Q) m 1 0 w)
theorem m_X3_howMany {Z : Zw} {l : Launch} {r0 : Nat} {w : Wd} {Q : Int → Wd → Prop} (h0 : sX1 r0) (h : X3_howMany r0 w Q) : CtQ Z l yX3_howMany cX3_howMany 4 (some .long) rm_X3_howMany [rv Z r0] w (qL Z Q) := by
  refine ct_of (by decide) (Nat.le_of_ble_eq_true rfl) (fun E eE C R => ?_)
  subst eE
  have C : Cx Z (adA Z) E cX3_howMany "HandleFaces$Orders" 4 rm_X3_howMany := C
  unfold X3_howMany at h
  show V Z (adA Z) E 4 w 0 [(0, rv Z r0)] []
  refine v_lconst (x := 1) C dX3_howMany_0 (by decide) ?_
  refine v_lstore_n C [(1, _), (0, _)] dX3_howMany_1 1 rfl (by decide) rfl ?_
  refine v_iconst C dX3_howMany_2 ?_
  refine v_istore_n C [(3, _), (1, _), (0, _)] dX3_howMany_3 3 rfl (by decide) rfl ?_
  refine v_sub [2, 1, 0] rfl ?_
  obtain ⟨m, h⟩ := h
  exact t_X3_howMany_l4 C R h0 (t_X3_howMany_b27 C R h0) m _ _ _ h
abbrev rm_X3_beginOrders : Room := { frames := 3, cells := 0, slots := 0, locals := 72 }
theorem mf_X3_beginOrders : MfB yX3_beginOrders cX3_beginOrders 2 none 1 := ⟨wd_710, wd_7, by decide, by decide, by decide +kernel⟩
def X3_beginOrders (r1 : Nat) (w : Wd) (Q : Wd → Prop) : Prop := X1_become 42 r1 w (fun w1 => (∀ w2, w2 = up w1 42 2 0 → X1_orderByNumber 42 w2 (fun w3 => X9_enter 46 42 w3 (fun w4 => Q w4))))
theorem m_X3_beginOrders {Z : Zw} {l : Launch} {r1 : Nat} {w : Wd} {Q : Wd → Prop} (h1 : sX1 r1) (h : X3_beginOrders r1 w Q) : CtQ Z l yX3_beginOrders cX3_beginOrders 2 none rm_X3_beginOrders [rv Z 40, rv Z r1] w (qV Z Q) := by
  refine ct_of (by decide) (Nat.le_of_ble_eq_true rfl) (fun E eE C R => ?_)
  subst eE
  have C : Cx Z (adA Z) E cX3_beginOrders "HandleFaces$Orders" 2 rm_X3_beginOrders := C
  unfold X3_beginOrders at h
  show V Z (adA Z) E 2 w 0 [(0, rv Z 40), (1, rv Z r1)] []
  refine v_aload_n C dX3_beginOrders_0 0 rfl ?_
  refine g_X3_hand C wd_264 dX3_beginOrders_1 ?_
  refine v_aload_n C dX3_beginOrders_4 1 rfl ?_
  refine v_callv C (rn_V C _ (m_X1_become s_X1_42 h1 h) mf_X1_become wd_712 wd_713 wd_711 rfl rfl ⟨(Nat.le_of_ble_eq_true rfl), (Nat.le_of_ble_eq_true rfl)⟩ s_X1_42.1 rfl rfl rfl (Nat.le_of_ble_eq_true rfl) dX3_beginOrders_5) (fun w h => ?_)
  refine v_aload_n C dX3_beginOrders_8 0 rfl ?_
  refine g_X3_hand C wd_264 dX3_beginOrders_9 ?_
  refine v_iconst C dX3_beginOrders_12 ?_
  refine p_X1_twists C s_X1_42 wd_56 dX3_beginOrders_13 ?_
  have h := h _ rfl
  refine v_aload_n C dX3_beginOrders_16 0 rfl ?_
  refine g_X3_hand C wd_264 dX3_beginOrders_17 ?_
  refine v_callv C (rn_V C _ (m_X1_orderByNumber s_X1_42 h) mf_X1_orderByNumber wd_575 wd_576 wd_716 rfl rfl ⟨(Nat.le_of_ble_eq_true rfl), (Nat.le_of_ble_eq_true rfl)⟩ s_X1_42.1 rfl rfl rfl (Nat.le_of_ble_eq_true rfl) dX3_beginOrders_20) (fun w h => ?_)
  refine v_aload_n C dX3_beginOrders_23 0 rfl ?_
  refine g_X3_walker C wd_265 dX3_beginOrders_24 ?_
  refine v_aload_n C dX3_beginOrders_27 0 rfl ?_
  refine g_X3_hand C wd_264 dX3_beginOrders_28 ?_
  refine v_callv C (rn_V C _ (m_X9_enter s_X9_46 s_X1_42 h) mf_X9_enter wd_718 wd_719 wd_717 rfl rfl ⟨(Nat.le_of_ble_eq_true rfl), (Nat.le_of_ble_eq_true rfl)⟩ s_X9_46.1 rfl rfl rfl (Nat.le_of_ble_eq_true rfl) dX3_beginOrders_31) (fun w h => ?_)
  exact v_ret C R h dX3_beginOrders_34
abbrev rm_X3_eulerWithoutWalks : Room := { frames := 1, cells := 0, slots := 0, locals := 22 }
theorem mf_X3_eulerWithoutWalks : MfB yX3_eulerWithoutWalks cX3_eulerWithoutWalks 1 (some .int) 1 := ⟨wd_732, wd_7, by decide, by decide, by decide +kernel⟩
def X3_eulerWithoutWalks (r0 : Nat) (w : Wd) (Q : Int → Wd → Prop) : Prop := X1_barePosts r0 w (fun y2 w1 => Q (wr (((w r0 0) - (w r0 1)) + y2)) w1)
theorem m_X3_eulerWithoutWalks {Z : Zw} {l : Launch} {r0 : Nat} {w : Wd} {Q : Int → Wd → Prop} (h0 : sX1 r0) (h : X3_eulerWithoutWalks r0 w Q) : CtQ Z l yX3_eulerWithoutWalks cX3_eulerWithoutWalks 1 (some .int) rm_X3_eulerWithoutWalks [rv Z r0] w (qI Z Q) := by
  refine ct_of (by decide) (Nat.le_of_ble_eq_true rfl) (fun E eE C R => ?_)
  subst eE
  have C : Cx Z (adA Z) E cX3_eulerWithoutWalks "HandleFaces$Orders" 1 rm_X3_eulerWithoutWalks := C
  unfold X3_eulerWithoutWalks at h
  show V Z (adA Z) E 1 w 0 [(0, rv Z r0)] []
  refine v_aload_n C dX3_eulerWithoutWalks_0 0 rfl ?_
  refine g_X1_posts C h0 wd_36 dX3_eulerWithoutWalks_1 ?_
  refine v_aload_n C dX3_eulerWithoutWalks_4 0 rfl ?_
  refine g_X1_lines C h0 wd_50 dX3_eulerWithoutWalks_5 ?_
  refine v_isub C dX3_eulerWithoutWalks_8 ?_
  refine v_aload_n C dX3_eulerWithoutWalks_9 0 rfl ?_
  refine v_calli C (rn_V C _ (m_X1_barePosts h0 h) mf_X1_barePosts wd_734 wd_735 wd_733 rfl rfl ⟨(Nat.le_of_ble_eq_true rfl), (Nat.le_of_ble_eq_true rfl)⟩ h0.1 rfl rfl rfl (Nat.le_of_ble_eq_true rfl) dX3_eulerWithoutWalks_10) (fun r w h => ?_)
  refine v_iadd C dX3_eulerWithoutWalks_13 ?_
  exact v_iret C R h dX3_eulerWithoutWalks_14
abbrev rm_X9_countForth : Room := { frames := 0, cells := 0, slots := 0, locals := 0 }
theorem mf_X9_countForth : MfB yX9_countForth cX9_countForth 6 (some .int) 0 := ⟨wd_753, wd_6, by decide, by decide, by decide +kernel⟩
def X9_countForth_l41 (r0 : Nat) (Q : Int → Wd → Prop) (e85 : Int → Int → Int → Wd → Prop) : Nat → Int → Int → Int → Int → Int → Wd → Prop
  | 0 => fun _ _ _ _ _ _ => False
  | n + 1 => fun x1 x2 x3 x4 x5 w => ((wr (w r0 0) ≤ wr x5 → e85 x1 x2 x3 w) ∧ (¬ wr (w r0 0) ≤ wr x5 → ((wr (ian (isr x1 x4) 1) = 0 → e85 x1 x2 x3 w) ∧ (¬ wr (ian (isr x1 x4) 1) = 0 → (∀ y2, y2 = (ian x1 (ixo (isl 1 x4) (-1))) → (ix (ixo x4 1) 20 ∧ (∀ y3, y3 = (rd w (r0 + 1) (ixo x4 1)) → (X9_countForth_l41 r0 Q e85 n) y2 x2 x3 y3 (x5 + 1) w)))))))
theorem t_X9_countForth_l41 {Z : Zw} {E : Amb} {r0 : Nat} {Q : Int → Wd → Prop} {e85 : Int → Int → Int → Wd → Prop} (C : Cx Z (adA Z) E cX9_countForth "HandleFaces$Walker" 6 rm_X9_countForth) (R : Rt Z E (some .int) (qI Z Q)) (h0 : sX9 r0) (he85 : ∀ (x1 : Int) (x2 : Int) (x3 : Int) (w : Wd), e85 x1 x2 x3 w → V Z (adA Z) E 6 w 85 [(0, rv Z r0), (1, iv x1), (2, iv x2), (3, iv x3)] []) : ∀ (n : Nat) (x1 : Int) (x2 : Int) (x3 : Int) (x4 : Int) (x5 : Int) (w : Wd), X9_countForth_l41 r0 Q e85 n x1 x2 x3 x4 x5 w → V Z (adA Z) E 6 w 41 [(0, rv Z r0), (1, iv x1), (2, iv x2), (3, iv x3), (4, iv x4), (5, iv x5)] [] := by
  intro n
  induction n with
  | zero => intro x1 x2 x3 x4 x5 w h; exact h.elim
  | succ n ih =>
    intro x1 x2 x3 x4 x5 w h
    unfold X9_countForth_l41 at h
    refine v_iload C dX9_countForth_41 5 rfl ?_
    refine v_aload_n C dX9_countForth_43 0 rfl ?_
    refine g_X9_arms C h0 wd_186 dX9_countForth_44 ?_
    refine v_icmp_ge C 85 dX9_countForth_47 (by decide) (fun q => ?_) (fun q => ?_)
    · have h := h.1 q
      refine v_sub [0, 1, 2, 3] rfl ?_
      exact he85 _ _ _ _ h
    · have h := h.2 q
      refine v_iload_n C dX9_countForth_50 1 rfl ?_
      refine v_iload C dX9_countForth_51 4 rfl ?_
      refine v_ishr C dX9_countForth_53 ?_
      refine v_iconst C dX9_countForth_54 ?_
      refine v_iand C dX9_countForth_55 ?_
      refine v_if_eq C 85 dX9_countForth_56 (by decide) (fun q => ?_) (fun q => ?_)
      · have h := h.1 q
        refine v_sub [0, 1, 2, 3] rfl ?_
        exact he85 _ _ _ _ h
      · have h := h.2 q
        refine v_iload_n C dX9_countForth_59 1 rfl ?_
        refine v_iconst C dX9_countForth_60 ?_
        refine v_iload C dX9_countForth_61 4 rfl ?_
        refine v_ishl C dX9_countForth_63 ?_
        refine v_iconst C dX9_countForth_64 ?_
        refine v_ixor C dX9_countForth_65 ?_
        refine v_iand C dX9_countForth_66 ?_
        refine v_istore_n C [(1, _), (0, _), (2, _), (3, _), (4, _), (5, _)] dX9_countForth_67 1 rfl (by decide) rfl ?_
        have h := h _ rfl
        refine v_aload_n C dX9_countForth_68 1 rfl ?_
        refine g_X9_behind C h0 wd_191 dX9_countForth_69 ?_
        refine v_iload C dX9_countForth_72 4 rfl ?_
        refine v_iconst C dX9_countForth_74 ?_
        refine v_ixor C dX9_countForth_75 ?_
        refine v_iald C h0.2.1 h.1 dX9_countForth_76 ?_
        have h := h.2
        refine v_istore C [(4, _), (1, _), (0, _), (2, _), (3, _), (5, _)] dX9_countForth_77 (by decide) rfl ?_
        have h := h _ rfl
        refine v_iinc C [(5, _), (4, _), (1, _), (0, _), (2, _), (3, _)] dX9_countForth_79 5 rfl (by decide) rfl ?_
        refine v_goto C 41 dX9_countForth_82 (by decide) ?_
        refine v_sub [3, 2, 4, 5, 1, 0] rfl ?_
        exact ih _ _ _ _ _ _ h
def X9_countForth_b85 (r0 : Nat) (Q : Int → Wd → Prop) (c13 : Int → Int → Int → Wd → Prop) (e91 : Int → Wd → Prop) (x1 : Int) (x2 : Int) (x3 : Int) (w : Wd) : Prop := c13 x1 x2 (x3 + 1) w
theorem t_X9_countForth_b85 {Z : Zw} {E : Amb} {r0 : Nat} {Q : Int → Wd → Prop} {c13 : Int → Int → Int → Wd → Prop} {e91 : Int → Wd → Prop} (C : Cx Z (adA Z) E cX9_countForth "HandleFaces$Walker" 6 rm_X9_countForth) (R : Rt Z E (some .int) (qI Z Q)) (h0 : sX9 r0) (hc13 : ∀ (x1 : Int) (x2 : Int) (x3 : Int) (w : Wd), c13 x1 x2 x3 w → V Z (adA Z) E 6 w 13 [(0, rv Z r0), (1, iv x1), (2, iv x2), (3, iv x3)] []) (he91 : ∀ (x2 : Int) (w : Wd), e91 x2 w → V Z (adA Z) E 6 w 91 [(2, iv x2)] []) : ∀ (x1 : Int) (x2 : Int) (x3 : Int) (w : Wd), X9_countForth_b85 r0 Q c13 e91 x1 x2 x3 w → V Z (adA Z) E 6 w 85 [(0, rv Z r0), (1, iv x1), (2, iv x2), (3, iv x3)] [] := by
  intro x1 x2 x3 w h
  unfold X9_countForth_b85 at h
  refine v_iinc C [(3, _), (0, _), (1, _), (2, _)] dX9_countForth_85 3 rfl (by decide) rfl ?_
  refine v_goto C 13 dX9_countForth_88 (by decide) ?_
  refine v_sub [1, 2, 3, 0] rfl ?_
  exact hc13 _ _ _ _ h
def X9_countForth_l13 (r0 : Nat) (Q : Int → Wd → Prop) (e91 : Int → Wd → Prop) : Nat → Int → Int → Int → Wd → Prop
  | 0 => fun _ _ _ _ => False
  | n + 1 => fun x1 x2 x3 w => ((wr (w r0 0) ≤ wr x3 → e91 x2 w) ∧ (¬ wr (w r0 0) ≤ wr x3 → ((wr (ian (isr x1 x3) 1) = 0 → X9_countForth_b85 r0 Q (X9_countForth_l13 r0 Q e91 n) e91 x1 x2 x3 w) ∧ (¬ wr (ian (isr x1 x3) 1) = 0 → (∃ m, X9_countForth_l41 r0 Q (X9_countForth_b85 r0 Q (X9_countForth_l13 r0 Q e91 n) e91) m x1 (x2 + 1) x3 x3 0 w)))))
theorem t_X9_countForth_l13 {Z : Zw} {E : Amb} {r0 : Nat} {Q : Int → Wd → Prop} {e91 : Int → Wd → Prop} (C : Cx Z (adA Z) E cX9_countForth "HandleFaces$Walker" 6 rm_X9_countForth) (R : Rt Z E (some .int) (qI Z Q)) (h0 : sX9 r0) (he91 : ∀ (x2 : Int) (w : Wd), e91 x2 w → V Z (adA Z) E 6 w 91 [(2, iv x2)] []) : ∀ (n : Nat) (x1 : Int) (x2 : Int) (x3 : Int) (w : Wd), X9_countForth_l13 r0 Q e91 n x1 x2 x3 w → V Z (adA Z) E 6 w 13 [(0, rv Z r0), (1, iv x1), (2, iv x2), (3, iv x3)] [] := by
  intro n
  induction n with
  | zero => intro x1 x2 x3 w h; exact h.elim
  | succ n ih =>
    intro x1 x2 x3 w h
    unfold X9_countForth_l13 at h
    refine v_iload_n C dX9_countForth_13 3 rfl ?_
    refine v_aload_n C dX9_countForth_14 0 rfl ?_
    refine g_X9_arms C h0 wd_186 dX9_countForth_15 ?_
    refine v_icmp_ge C 91 dX9_countForth_18 (by decide) (fun q => ?_) (fun q => ?_)
    · have h := h.1 q
      refine v_sub [2] rfl ?_
      exact he91 _ _ h
    · have h := h.2 q
      refine v_iload_n C dX9_countForth_21 1 rfl ?_
      refine v_iload_n C dX9_countForth_22 3 rfl ?_
      refine v_ishr C dX9_countForth_23 ?_
      refine v_iconst C dX9_countForth_24 ?_
      refine v_iand C dX9_countForth_25 ?_
      refine v_if_ne C 32 dX9_countForth_26 (by decide) (fun q => ?_) (fun q => ?_)
      · have h := h.2 q
        refine v_iinc C [(2, _), (0, _), (1, _), (3, _)] dX9_countForth_32 2 rfl (by decide) rfl ?_
        refine v_iload_n C dX9_countForth_35 3 rfl ?_
        refine v_istore C [(4, _), (2, _), (0, _), (1, _), (3, _)] dX9_countForth_36 (by decide) rfl ?_
        refine v_iconst C dX9_countForth_38 ?_
        refine v_istore C [(5, _), (4, _), (2, _), (0, _), (1, _), (3, _)] dX9_countForth_39 (by decide) rfl ?_
        refine v_sub [3, 4, 2, 5, 1, 0] rfl ?_
        obtain ⟨m, h⟩ := h
        exact t_X9_countForth_l41 C R h0 (t_X9_countForth_b85 C R h0 ih he91) m _ _ _ _ _ _ h
      · have h := h.1 q
        refine v_goto C 85 dX9_countForth_29 (by decide) ?_
        exact t_X9_countForth_b85 C R h0 ih he91 _ _ _ _ h
def X9_countForth_b91 (r0 : Nat) (Q : Int → Wd → Prop) (x2 : Int) (w : Wd) : Prop := Q (wr x2) w
theorem t_X9_countForth_b91 {Z : Zw} {E : Amb} {r0 : Nat} {Q : Int → Wd → Prop} (C : Cx Z (adA Z) E cX9_countForth "HandleFaces$Walker" 6 rm_X9_countForth) (R : Rt Z E (some .int) (qI Z Q)) (h0 : sX9 r0) : ∀ (x2 : Int) (w : Wd), X9_countForth_b91 r0 Q x2 w → V Z (adA Z) E 6 w 91 [(2, iv x2)] [] := by
  intro x2 w h
  unfold X9_countForth_b91 at h
  refine v_iload_n C dX9_countForth_91 0 rfl ?_
  exact v_iret C R h dX9_countForth_92
def X9_countForth (r0 : Nat) (w : Wd) (Q : Int → Wd → Prop) : Prop := (∀ y1, y1 = ((isl 1 (w r0 0)) - 1) → (∃ m, X9_countForth_l13 r0 Q (X9_countForth_b91 r0 Q) m y1 0 0 w))
theorem m_X9_countForth {Z : Zw} {l : Launch} {r0 : Nat} {w : Wd} {Q : Int → Wd → Prop} (h0 : sX9 r0) (h : X9_countForth r0 w Q) : CtQ Z l yX9_countForth cX9_countForth 6 (some .int) rm_X9_countForth [rv Z r0] w (qI Z Q) := by
  refine ct_of (by decide) (Nat.le_of_ble_eq_true rfl) (fun E eE C R => ?_)
  subst eE
  have C : Cx Z (adA Z) E cX9_countForth "HandleFaces$Walker" 6 rm_X9_countForth := C
  unfold X9_countForth at h
  show V Z (adA Z) E 6 w 0 [(0, rv Z r0)] []
  refine v_iconst C dX9_countForth_0 ?_
  refine v_aload_n C dX9_countForth_1 0 rfl ?_
  refine g_X9_arms C h0 wd_186 dX9_countForth_2 ?_
  refine v_ishl C dX9_countForth_5 ?_
  refine v_iconst C dX9_countForth_6 ?_
  refine v_isub C dX9_countForth_7 ?_
  refine v_istore_n C [(1, _), (0, _)] dX9_countForth_8 1 rfl (by decide) rfl ?_
  have h := h _ rfl
  refine v_iconst C dX9_countForth_9 ?_
  refine v_istore_n C [(2, _), (1, _), (0, _)] dX9_countForth_10 2 rfl (by decide) rfl ?_
  refine v_iconst C dX9_countForth_11 ?_
  refine v_istore_n C [(3, _), (2, _), (1, _), (0, _)] dX9_countForth_12 3 rfl (by decide) rfl ?_
  refine v_sub [3, 2, 1, 0] rfl ?_
  obtain ⟨m, h⟩ := h
  exact t_X9_countForth_l13 C R h0 (t_X9_countForth_b91 C R h0) m _ _ _ _ h
abbrev rm_X3_countNeed : Room := { frames := 1, cells := 0, slots := 0, locals := 14 }
theorem mf_X3_countNeed : MfB yX3_countNeed cX3_countNeed 3 none 2 := ⟨wd_757, wd_7, by decide, by decide, by decide +kernel⟩
def X3_countNeed (x1 : Int) (x2 : Int) (w : Wd) (Q : Wd → Prop) : Prop := ((wr x2 < 0 → Q w) ∧ (¬ wr x2 < 0 → ((wr x2 ≤ wr 5 → (ix x2 6 ∧ (ix x2 6 ∧ (∀ w1, w1 = wt w 41 x2 ((rd w 41 x2) + 1) → (∀ w2, w2 = up w1 40 1 (imx (w1 40 1) x2) → ((wr (w2 40 0) ≤ wr x2 → Q w2) ∧ (¬ wr (w2 40 0) ≤ wr x2 → (∀ w3, w3 = up w2 40 0 x2 → (∀ w4, w4 = up w3 40 2 x1 → Q w4))))))))) ∧ (¬ wr x2 ≤ wr 5 → Q w))))
theorem m_X3_countNeed {Z : Zw} {l : Launch} {x1 : Int} {x2 : Int} {w : Wd} {Q : Wd → Prop} (h : X3_countNeed x1 x2 w Q) : CtQ Z l yX3_countNeed cX3_countNeed 3 none rm_X3_countNeed [rv Z 40, iv x1, iv x2] w (qV Z Q) := by
  refine ct_of (by decide) (Nat.le_of_ble_eq_true rfl) (fun E eE C R => ?_)
  subst eE
  have C : Cx Z (adA Z) E cX3_countNeed "HandleFaces$Orders" 3 rm_X3_countNeed := C
  unfold X3_countNeed at h
  show V Z (adA Z) E 3 w 0 [(0, rv Z 40), (1, iv x1), (2, iv x2)] []
  refine v_iload_n C dX3_countNeed_0 2 rfl ?_
  refine v_if_lt C 9 dX3_countNeed_1 (by decide) (fun q => ?_) (fun q => ?_)
  · have h := h.1 q
    exact v_ret C R h dX3_countNeed_9
  · have h := h.2 q
    refine v_iload_n C dX3_countNeed_4 2 rfl ?_
    refine v_iconst C dX3_countNeed_5 ?_
    refine v_icmp_le C 10 dX3_countNeed_6 (by decide) (fun q => ?_) (fun q => ?_)
    · have h := h.1 q
      refine v_aload_n C dX3_countNeed_10 0 rfl ?_
      refine g_X3_needs C wd_262 dX3_countNeed_11 ?_
      refine v_iload_n C dX3_countNeed_14 2 rfl ?_
      refine v_dup2 C dX3_countNeed_15 rfl rfl ?_
      refine v_iald C rfl h.1 dX3_countNeed_16 ?_
      have h := h.2
      refine v_iconst C dX3_countNeed_17 ?_
      refine v_iadd C dX3_countNeed_18 ?_
      refine v_iast C rfl h.1 dX3_countNeed_19 ?_
      have h := h.2
      have h := h _ rfl
      refine v_aload_n C dX3_countNeed_20 0 rfl ?_
      refine v_aload_n C dX3_countNeed_21 0 rfl ?_
      refine g_X3_most C wd_258 dX3_countNeed_22 ?_
      refine v_iload_n C dX3_countNeed_25 2 rfl ?_
      refine v_mmax C wd_758 wd_350 wd_12 wd_351 (Nat.le_of_ble_eq_true rfl) (Nat.le_of_ble_eq_true rfl) dX3_countNeed_26 ?_
      refine p_X3_most C wd_258 dX3_countNeed_29 ?_
      have h := h _ rfl
      refine v_iload_n C dX3_countNeed_32 2 rfl ?_
      refine v_aload_n C dX3_countNeed_33 0 rfl ?_
      refine g_X3_least C wd_256 dX3_countNeed_34 ?_
      refine v_icmp_ge C 50 dX3_countNeed_37 (by decide) (fun q => ?_) (fun q => ?_)
      · have h := h.1 q
        exact v_ret C R h dX3_countNeed_50
      · have h := h.2 q
        refine v_aload_n C dX3_countNeed_40 0 rfl ?_
        refine v_iload_n C dX3_countNeed_41 2 rfl ?_
        refine p_X3_least C wd_256 dX3_countNeed_42 ?_
        have h := h _ rfl
        refine v_aload_n C dX3_countNeed_45 0 rfl ?_
        refine v_iload_n C dX3_countNeed_46 1 rfl ?_
        refine p_X3_first C wd_260 dX3_countNeed_47 ?_
        have h := h _ rfl
        exact v_ret C R h dX3_countNeed_50
    · have h := h.2 q
      exact v_ret C R h dX3_countNeed_9
abbrev rm_X3_nextRow : Room := { frames := 2, cells := 0, slots := 0, locals := 47 }
theorem mf_X3_nextRow : MfB yX3_nextRow cX3_nextRow 7 (some .boolean) 1 := ⟨wd_766, wd_7, by decide, by decide, by decide +kernel⟩
def X3_nextRow_l33 (Q : Int → Wd → Prop) (e60 : Int → Int → Int → Wd → Prop) : Nat → Int → Int → Int → Wd → Prop
  | 0 => fun _ _ _ _ => False
  | n + 1 => fun x2 x3 x5 w => ((wr x5 ≤ wr x2 → e60 x2 x3 x5 w) ∧ (¬ wr x5 ≤ wr x2 → (ix x5 60 ∧ (ix (x5 + 1) 60 ∧ ((wr (rd w 45 x5) ≤ wr (rd w 45 (x5 + 1)) → e60 x2 x3 x5 w) ∧ (¬ wr (rd w 45 x5) ≤ wr (rd w 45 (x5 + 1)) → (X3_nextRow_l33 Q e60 n) x2 x3 (x5 + (-1)) w))))))
theorem t_X3_nextRow_l33 {Z : Zw} {E : Amb} {Q : Int → Wd → Prop} {e60 : Int → Int → Int → Wd → Prop} (C : Cx Z (adA Z) E cX3_nextRow "HandleFaces$Orders" 7 rm_X3_nextRow) (R : Rt Z E (some .boolean) (qI Z Q)) (he60 : ∀ (x2 : Int) (x3 : Int) (x5 : Int) (w : Wd), e60 x2 x3 x5 w → V Z (adA Z) E 7 w 60 [(0, rv Z 40), (2, iv x2), (3, iv x3), (4, rv Z 45), (5, iv x5)] []) : ∀ (n : Nat) (x2 : Int) (x3 : Int) (x5 : Int) (w : Wd), X3_nextRow_l33 Q e60 n x2 x3 x5 w → V Z (adA Z) E 7 w 33 [(0, rv Z 40), (2, iv x2), (3, iv x3), (4, rv Z 45), (5, iv x5)] [] := by
  intro n
  induction n with
  | zero => intro x2 x3 x5 w h; exact h.elim
  | succ n ih =>
    intro x2 x3 x5 w h
    unfold X3_nextRow_l33 at h
    refine v_iload C dX3_nextRow_33 4 rfl ?_
    refine v_iload_n C dX3_nextRow_35 1 rfl ?_
    refine v_icmp_le C 60 dX3_nextRow_36 (by decide) (fun q => ?_) (fun q => ?_)
    · have h := h.1 q
      exact he60 _ _ _ _ h
    · have h := h.2 q
      refine v_aload C dX3_nextRow_39 3 rfl ?_
      refine v_iload C dX3_nextRow_41 4 rfl ?_
      refine v_iald C rfl h.1 dX3_nextRow_43 ?_
      have h := h.2
      refine v_aload C dX3_nextRow_44 3 rfl ?_
      refine v_iload C dX3_nextRow_46 4 rfl ?_
      refine v_iconst C dX3_nextRow_48 ?_
      refine v_iadd C dX3_nextRow_49 ?_
      refine v_iald C rfl h.1 dX3_nextRow_50 ?_
      have h := h.2
      refine v_icmp_le C 60 dX3_nextRow_51 (by decide) (fun q => ?_) (fun q => ?_)
      · have h := h.1 q
        exact he60 _ _ _ _ h
      · have h := h.2 q
        refine v_iinc C [(5, _), (0, _), (2, _), (3, _), (4, _)] dX3_nextRow_54 4 rfl (by decide) rfl ?_
        refine v_goto C 33 dX3_nextRow_57 (by decide) ?_
        refine v_sub [1, 2, 3, 4, 0] rfl ?_
        exact ih _ _ _ _ h
def X3_nextRow_b106 (Q : Int → Wd → Prop) (x2 : Int) (x3 : Int) (x5 : Int) (w : Wd) : Prop := X1_reverseRow 42 (x5 + 1) x3 w (fun w4 => ((wr x5 ≤ wr x2 → Q 0 w4) ∧ (¬ wr x5 ≤ wr x2 → Q 1 w4)))
theorem t_X3_nextRow_b106 {Z : Zw} {E : Amb} {Q : Int → Wd → Prop} (C : Cx Z (adA Z) E cX3_nextRow "HandleFaces$Orders" 7 rm_X3_nextRow) (R : Rt Z E (some .boolean) (qI Z Q)) : ∀ (x2 : Int) (x3 : Int) (x5 : Int) (w : Wd), X3_nextRow_b106 Q x2 x3 x5 w → V Z (adA Z) E 7 w 106 [(0, rv Z 40), (2, iv x2), (3, iv x3), (5, iv x5)] [] := by
  intro x2 x3 x5 w h
  unfold X3_nextRow_b106 at h
  refine v_aload_n C dX3_nextRow_106 0 rfl ?_
  refine g_X3_hand C wd_264 dX3_nextRow_107 ?_
  refine v_iload C dX3_nextRow_110 3 rfl ?_
  refine v_iconst C dX3_nextRow_112 ?_
  refine v_iadd C dX3_nextRow_113 ?_
  refine v_iload_n C dX3_nextRow_114 2 rfl ?_
  refine v_callv C (rn_V C _ (m_X1_reverseRow s_X1_42 h) mf_X1_reverseRow wd_668 wd_669 wd_768 rfl rfl ⟨(Nat.le_of_ble_eq_true rfl), (Nat.le_of_ble_eq_true rfl)⟩ s_X1_42.1 rfl rfl rfl (Nat.le_of_ble_eq_true rfl) dX3_nextRow_115) (fun w h => ?_)
  refine v_iload C dX3_nextRow_118 3 rfl ?_
  refine v_iload_n C dX3_nextRow_120 1 rfl ?_
  refine v_icmp_le C 128 dX3_nextRow_121 (by decide) (fun q => ?_) (fun q => ?_)
  · have h := h.1 q
    refine v_iconst C dX3_nextRow_128 ?_
    exact v_zret C R (Or.inl rfl) h dX3_nextRow_129
  · have h := h.2 q
    refine v_iconst C dX3_nextRow_124 ?_
    refine v_goto C 129 dX3_nextRow_125 (by decide) ?_
    exact v_zret C R (Or.inr rfl) h dX3_nextRow_129
def X3_nextRow_l69 (Q : Int → Wd → Prop) (e95 : Int → Int → Int → Int → Wd → Prop) : Nat → Int → Int → Int → Int → Wd → Prop
  | 0 => fun _ _ _ _ _ => False
  | n + 1 => fun x2 x3 x5 x6 w => ((wr x6 ≤ wr x5 → e95 x2 x3 x5 x6 w) ∧ (¬ wr x6 ≤ wr x5 → (ix x6 60 ∧ (ix x5 60 ∧ ((wr (rd w 45 x5) ≤ wr (rd w 45 x6) → e95 x2 x3 x5 x6 w) ∧ (¬ wr (rd w 45 x5) ≤ wr (rd w 45 x6) → (X3_nextRow_l69 Q e95 n) x2 x3 x5 (x6 + (-1)) w))))))
theorem t_X3_nextRow_l69 {Z : Zw} {E : Amb} {Q : Int → Wd → Prop} {e95 : Int → Int → Int → Int → Wd → Prop} (C : Cx Z (adA Z) E cX3_nextRow "HandleFaces$Orders" 7 rm_X3_nextRow) (R : Rt Z E (some .boolean) (qI Z Q)) (he95 : ∀ (x2 : Int) (x3 : Int) (x5 : Int) (x6 : Int) (w : Wd), e95 x2 x3 x5 x6 w → V Z (adA Z) E 7 w 95 [(0, rv Z 40), (2, iv x2), (3, iv x3), (5, iv x5), (6, iv x6)] []) : ∀ (n : Nat) (x2 : Int) (x3 : Int) (x5 : Int) (x6 : Int) (w : Wd), X3_nextRow_l69 Q e95 n x2 x3 x5 x6 w → V Z (adA Z) E 7 w 69 [(0, rv Z 40), (2, iv x2), (3, iv x3), (4, rv Z 45), (5, iv x5), (6, iv x6)] [] := by
  intro n
  induction n with
  | zero => intro x2 x3 x5 x6 w h; exact h.elim
  | succ n ih =>
    intro x2 x3 x5 x6 w h
    unfold X3_nextRow_l69 at h
    refine v_iload C dX3_nextRow_69 5 rfl ?_
    refine v_iload C dX3_nextRow_71 4 rfl ?_
    refine v_icmp_le C 95 dX3_nextRow_73 (by decide) (fun q => ?_) (fun q => ?_)
    · have h := h.1 q
      refine v_sub [0, 1, 2, 4, 5] rfl ?_
      exact he95 _ _ _ _ _ h
    · have h := h.2 q
      refine v_aload C dX3_nextRow_76 3 rfl ?_
      refine v_iload C dX3_nextRow_78 5 rfl ?_
      refine v_iald C rfl h.1 dX3_nextRow_80 ?_
      have h := h.2
      refine v_aload C dX3_nextRow_81 3 rfl ?_
      refine v_iload C dX3_nextRow_83 4 rfl ?_
      refine v_iald C rfl h.1 dX3_nextRow_85 ?_
      have h := h.2
      refine v_icmp_ge C 95 dX3_nextRow_86 (by decide) (fun q => ?_) (fun q => ?_)
      · have h := h.1 q
        refine v_sub [0, 1, 2, 4, 5] rfl ?_
        exact he95 _ _ _ _ _ h
      · have h := h.2 q
        refine v_iinc C [(6, _), (0, _), (2, _), (3, _), (4, _), (5, _)] dX3_nextRow_89 5 rfl (by decide) rfl ?_
        refine v_goto C 69 dX3_nextRow_92 (by decide) ?_
        refine v_sub [1, 2, 3, 4, 5, 0] rfl ?_
        exact ih _ _ _ _ _ h
def X3_nextRow_b95 (Q : Int → Wd → Prop) (x2 : Int) (x3 : Int) (x5 : Int) (x6 : Int) (w : Wd) : Prop := X1_swap 42 x5 x6 w (fun w5 => X3_nextRow_b106 Q x2 x3 x5 w5)
theorem t_X3_nextRow_b95 {Z : Zw} {E : Amb} {Q : Int → Wd → Prop} (C : Cx Z (adA Z) E cX3_nextRow "HandleFaces$Orders" 7 rm_X3_nextRow) (R : Rt Z E (some .boolean) (qI Z Q)) : ∀ (x2 : Int) (x3 : Int) (x5 : Int) (x6 : Int) (w : Wd), X3_nextRow_b95 Q x2 x3 x5 x6 w → V Z (adA Z) E 7 w 95 [(0, rv Z 40), (2, iv x2), (3, iv x3), (5, iv x5), (6, iv x6)] [] := by
  intro x2 x3 x5 x6 w h
  unfold X3_nextRow_b95 at h
  refine v_aload_n C dX3_nextRow_95 0 rfl ?_
  refine g_X3_hand C wd_264 dX3_nextRow_96 ?_
  refine v_iload C dX3_nextRow_99 3 rfl ?_
  refine v_iload C dX3_nextRow_101 4 rfl ?_
  refine v_callv C (rn_V C _ (m_X1_swap s_X1_42 h) mf_X1_swap wd_672 wd_673 wd_767 rfl rfl ⟨(Nat.le_of_ble_eq_true rfl), (Nat.le_of_ble_eq_true rfl)⟩ s_X1_42.1 rfl rfl rfl (Nat.le_of_ble_eq_true rfl) dX3_nextRow_103) (fun w h => ?_)
  refine v_sub [0, 1, 2, 3] rfl ?_
  exact t_X3_nextRow_b106 C R _ _ _ _ h
def X3_nextRow_b60 (Q : Int → Wd → Prop) (x2 : Int) (x3 : Int) (x5 : Int) (w : Wd) : Prop := ((wr x5 ≤ wr x2 → X3_nextRow_b106 Q x2 x3 x5 w) ∧ (¬ wr x5 ≤ wr x2 → (∃ m, X3_nextRow_l69 Q (X3_nextRow_b95 Q) m x2 x3 x5 x3 w)))
theorem t_X3_nextRow_b60 {Z : Zw} {E : Amb} {Q : Int → Wd → Prop} (C : Cx Z (adA Z) E cX3_nextRow "HandleFaces$Orders" 7 rm_X3_nextRow) (R : Rt Z E (some .boolean) (qI Z Q)) : ∀ (x2 : Int) (x3 : Int) (x5 : Int) (w : Wd), X3_nextRow_b60 Q x2 x3 x5 w → V Z (adA Z) E 7 w 60 [(0, rv Z 40), (2, iv x2), (3, iv x3), (4, rv Z 45), (5, iv x5)] [] := by
  intro x2 x3 x5 w h
  unfold X3_nextRow_b60 at h
  refine v_iload C dX3_nextRow_60 4 rfl ?_
  refine v_iload_n C dX3_nextRow_62 1 rfl ?_
  refine v_icmp_le C 106 dX3_nextRow_63 (by decide) (fun q => ?_) (fun q => ?_)
  · have h := h.1 q
    refine v_sub [0, 1, 2, 4] rfl ?_
    exact t_X3_nextRow_b106 C R _ _ _ _ h
  · have h := h.2 q
    refine v_iload_n C dX3_nextRow_66 2 rfl ?_
    refine v_istore C [(6, _), (0, _), (2, _), (3, _), (4, _), (5, _)] dX3_nextRow_67 (by decide) rfl ?_
    refine v_sub [1, 2, 3, 4, 5, 0] rfl ?_
    obtain ⟨m, h⟩ := h
    exact t_X3_nextRow_l69 C R (t_X3_nextRow_b95 C R) m _ _ _ _ _ h
def X3_nextRow (x1 : Int) (w : Wd) (Q : Int → Wd → Prop) : Prop := (∀ y1, y1 = (x1 * 10) → (ix x1 6 ∧ (∀ y2, y2 = ((y1 + (rd w 44 x1)) - 1) → (∀ y3, y3 = (y2 - 1) → (∃ m, X3_nextRow_l33 Q (X3_nextRow_b60 Q) m y1 y2 y3 w)))))
theorem m_X3_nextRow {Z : Zw} {l : Launch} {x1 : Int} {w : Wd} {Q : Int → Wd → Prop} (h : X3_nextRow x1 w Q) : CtQ Z l yX3_nextRow cX3_nextRow 7 (some .boolean) rm_X3_nextRow [rv Z 40, iv x1] w (qI Z Q) := by
  refine ct_of (by decide) (Nat.le_of_ble_eq_true rfl) (fun E eE C R => ?_)
  subst eE
  have C : Cx Z (adA Z) E cX3_nextRow "HandleFaces$Orders" 7 rm_X3_nextRow := C
  unfold X3_nextRow at h
  show V Z (adA Z) E 7 w 0 [(0, rv Z 40), (1, iv x1)] []
  refine v_iload_n C dX3_nextRow_0 1 rfl ?_
  refine v_bipush C dX3_nextRow_1 (by decide) ?_
  refine v_imul C dX3_nextRow_3 ?_
  refine v_istore_n C [(2, _), (0, _), (1, _)] dX3_nextRow_4 2 rfl (by decide) rfl ?_
  have h := h _ rfl
  refine v_iload_n C dX3_nextRow_5 0 rfl ?_
  refine v_aload_n C dX3_nextRow_6 1 rfl ?_
  refine g_X3_hand C wd_264 dX3_nextRow_7 ?_
  refine g_X1_degrees C s_X1_42 wd_65 dX3_nextRow_10 ?_
  refine v_iload_n C dX3_nextRow_13 2 rfl ?_
  refine v_iald C rfl h.1 dX3_nextRow_14 ?_
  have h := h.2
  refine v_iadd C dX3_nextRow_15 ?_
  refine v_iconst C dX3_nextRow_16 ?_
  refine v_isub C dX3_nextRow_17 ?_
  refine v_istore_n C [(3, _), (2, _), (0, _), (1, _)] dX3_nextRow_18 3 rfl (by decide) rfl ?_
  have h := h _ rfl
  refine v_aload_n C dX3_nextRow_19 2 rfl ?_
  refine g_X3_hand C wd_264 dX3_nextRow_20 ?_
  refine g_X1_rounds C s_X1_42 wd_72 dX3_nextRow_23 ?_
  refine v_astore C [(4, _), (3, _), (2, _), (0, _), (1, _)] dX3_nextRow_26 (by decide) rfl ?_
  refine v_iload_n C dX3_nextRow_28 1 rfl ?_
  refine v_iconst C dX3_nextRow_29 ?_
  refine v_isub C dX3_nextRow_30 ?_
  refine v_istore C [(5, _), (4, _), (3, _), (2, _), (0, _), (1, _)] dX3_nextRow_31 (by decide) rfl ?_
  have h := h _ rfl
  refine v_sub [4, 3, 2, 1, 0] rfl ?_
  obtain ⟨m, h⟩ := h
  exact t_X3_nextRow_l33 C R (t_X3_nextRow_b60 C R) m _ _ _ _ h
abbrev rm_X3_advance : Room := { frames := 3, cells := 0, slots := 0, locals := 73 }
theorem mf_X3_advance : MfB yX3_advance cX3_advance 3 none 0 := ⟨wd_762, wd_7, by decide, by decide, by decide +kernel⟩
def X3_advance_l10 (Q : Wd → Prop) (e50 : Wd → Prop) (e57 : Wd → Prop) : Nat → Int → Wd → Prop
  | 0 => fun _ _ => False
  | n + 1 => fun x1 w => ((wr x1 < 0 → e57 w) ∧ (¬ wr x1 < 0 → (ix x1 6 ∧ ((wr (rd w 44 x1) ≤ wr 2 → (X3_advance_l10 Q e50 e57 n) (x1 + (-1)) w) ∧ (¬ wr (rd w 44 x1) ≤ wr 2 → X3_nextRow x1 w (fun y3 w2 => X9_link 46 42 x1 1 w2 (fun w4 => ((wr y3 = 0 → (X3_advance_l10 Q e50 e57 n) (x1 + (-1)) w4) ∧ (¬ wr y3 = 0 → e50 w4)))))))))
theorem t_X3_advance_l10 {Z : Zw} {E : Amb} {Q : Wd → Prop} {e50 : Wd → Prop} {e57 : Wd → Prop} (C : Cx Z (adA Z) E cX3_advance "HandleFaces$Orders" 3 rm_X3_advance) (R : Rt Z E none (qV Z Q)) (he50 : ∀ (w : Wd), e50 w → V Z (adA Z) E 3 w 50 [] []) (he57 : ∀ (w : Wd), e57 w → V Z (adA Z) E 3 w 57 [] []) : ∀ (n : Nat) (x1 : Int) (w : Wd), X3_advance_l10 Q e50 e57 n x1 w → V Z (adA Z) E 3 w 10 [(0, rv Z 40), (1, iv x1)] [] := by
  intro n
  induction n with
  | zero => intro x1 w h; exact h.elim
  | succ n ih =>
    intro x1 w h
    unfold X3_advance_l10 at h
    refine v_iload_n C dX3_advance_10 1 rfl ?_
    refine v_if_lt C 57 dX3_advance_11 (by decide) (fun q => ?_) (fun q => ?_)
    · have h := h.1 q
      refine v_sub [] rfl ?_
      exact he57 _ h
    · have h := h.2 q
      refine v_aload_n C dX3_advance_14 0 rfl ?_
      refine g_X3_hand C wd_264 dX3_advance_15 ?_
      refine g_X1_degrees C s_X1_42 wd_65 dX3_advance_18 ?_
      refine v_iload_n C dX3_advance_21 1 rfl ?_
      refine v_iald C rfl h.1 dX3_advance_22 ?_
      have h := h.2
      refine v_iconst C dX3_advance_23 ?_
      refine v_icmp_le C 51 dX3_advance_24 (by decide) (fun q => ?_) (fun q => ?_)
      · have h := h.1 q
        refine v_iinc C [(1, _), (0, _)] dX3_advance_51 1 rfl (by decide) rfl ?_
        refine v_goto C 10 dX3_advance_54 (by decide) ?_
        refine v_sub [1, 0] rfl ?_
        exact ih _ _ h
      · have h := h.2 q
        refine v_aload_n C dX3_advance_27 0 rfl ?_
        refine v_iload_n C dX3_advance_28 1 rfl ?_
        refine v_calli C (rn_V C _ (m_X3_nextRow h) mf_X3_nextRow wd_765 wp_25 wd_763 rfl rfl ⟨(Nat.le_of_ble_eq_true rfl), (Nat.le_of_ble_eq_true rfl)⟩ rfl rfl rfl rfl (Nat.le_of_ble_eq_true rfl) dX3_advance_29) (fun r w h => ?_)
        refine v_istore_n C [(2, _), (0, _), (1, _)] dX3_advance_32 2 rfl (by decide) rfl ?_
        refine v_aload_n C dX3_advance_33 1 rfl ?_
        refine g_X3_walker C wd_265 dX3_advance_34 ?_
        refine v_aload_n C dX3_advance_37 1 rfl ?_
        refine g_X3_hand C wd_264 dX3_advance_38 ?_
        refine v_iload_n C dX3_advance_41 2 rfl ?_
        refine v_iconst C dX3_advance_42 ?_
        refine v_callv C (rn_V C _ (m_X9_link s_X9_46 s_X1_42 h) mf_X9_link wd_722 wd_723 wd_769 rfl rfl ⟨(Nat.le_of_ble_eq_true rfl), (Nat.le_of_ble_eq_true rfl)⟩ s_X9_46.1 rfl rfl rfl (Nat.le_of_ble_eq_true rfl) dX3_advance_43) (fun w h => ?_)
        refine v_iload_n C dX3_advance_46 0 rfl ?_
        refine v_if_eq C 51 dX3_advance_47 (by decide) (fun q => ?_) (fun q => ?_)
        · have h := h.1 q
          refine v_iinc C [(1, _), (2, _), (0, _)] dX3_advance_51 2 rfl (by decide) rfl ?_
          refine v_goto C 10 dX3_advance_54 (by decide) ?_
          refine v_sub [2, 0] rfl ?_
          exact ih _ _ h
        · have h := h.2 q
          refine v_sub [] rfl ?_
          exact he50 _ h
def X3_advance_b50 (Q : Wd → Prop) (w : Wd) : Prop := Q w
theorem t_X3_advance_b50 {Z : Zw} {E : Amb} {Q : Wd → Prop} (C : Cx Z (adA Z) E cX3_advance "HandleFaces$Orders" 3 rm_X3_advance) (R : Rt Z E none (qV Z Q)) : ∀ (w : Wd), X3_advance_b50 Q w → V Z (adA Z) E 3 w 50 [] [] := by
  intro w h
  unfold X3_advance_b50 at h
  exact v_ret C R h dX3_advance_50
def X3_advance_b57 (Q : Wd → Prop) (w : Wd) : Prop := Q w
theorem t_X3_advance_b57 {Z : Zw} {E : Amb} {Q : Wd → Prop} (C : Cx Z (adA Z) E cX3_advance "HandleFaces$Orders" 3 rm_X3_advance) (R : Rt Z E none (qV Z Q)) : ∀ (w : Wd), X3_advance_b57 Q w → V Z (adA Z) E 3 w 57 [] [] := by
  intro w h
  unfold X3_advance_b57 at h
  exact v_ret C R h dX3_advance_57
def X3_advance (w : Wd) (Q : Wd → Prop) : Prop := (∀ y1, y1 = ((w 42 0) - 1) → (∃ m, X3_advance_l10 Q (X3_advance_b50 Q) (X3_advance_b57 Q) m y1 w))
theorem m_X3_advance {Z : Zw} {l : Launch} {w : Wd} {Q : Wd → Prop} (h : X3_advance w Q) : CtQ Z l yX3_advance cX3_advance 3 none rm_X3_advance [rv Z 40] w (qV Z Q) := by
  refine ct_of (by decide) (Nat.le_of_ble_eq_true rfl) (fun E eE C R => ?_)
  subst eE
  have C : Cx Z (adA Z) E cX3_advance "HandleFaces$Orders" 3 rm_X3_advance := C
  unfold X3_advance at h
  show V Z (adA Z) E 3 w 0 [(0, rv Z 40)] []
  refine v_aload_n C dX3_advance_0 0 rfl ?_
  refine g_X3_hand C wd_264 dX3_advance_1 ?_
  refine g_X1_posts C s_X1_42 wd_36 dX3_advance_4 ?_
  refine v_iconst C dX3_advance_7 ?_
  refine v_isub C dX3_advance_8 ?_
  refine v_istore_n C [(1, _), (0, _)] dX3_advance_9 1 rfl (by decide) rfl ?_
  have h := h _ rfl
  refine v_sub [1, 0] rfl ?_
  obtain ⟨m, h⟩ := h
  exact t_X3_advance_l10 C R (t_X3_advance_b50 C R) (t_X3_advance_b57 C R) m _ _ h
abbrev rm_X3_survey : Room := { frames := 4, cells := 0, slots := 0, locals := 95 }
theorem mf_X3_survey : MfB yX3_survey cX3_survey 9 none 1 := ⟨wd_702, wd_7, by decide, by decide, by decide +kernel⟩
def X3_survey_l71 (r1 : Nat) (Q : Wd → Prop) (e111 : Wd → Prop) : Nat → Int → Int → Int → Int → Wd → Prop
  | 0 => fun _ _ _ _ _ => False
  | n + 1 => fun x4 x5 x6 x8 w => ((0 ≤ wr (lcm (wr x8) x6) → e111 w) ∧ (¬ 0 ≤ wr (lcm (wr x8) x6) → X9_countForth 46 w (fun y16 w15 => X3_countNeed x8 (x5 - (idv (x4 + y16) 2)) w15 (fun w17 => X3_advance w17 (fun w18 => (X3_survey_l71 r1 Q e111 n) x4 x5 x6 (x8 + 1) w18)))))
theorem t_X3_survey_l71 {Z : Zw} {E : Amb} {r1 : Nat} {Q : Wd → Prop} {e111 : Wd → Prop} (C : Cx Z (adA Z) E cX3_survey "HandleFaces$Orders" 9 rm_X3_survey) (R : Rt Z E none (qV Z Q)) (h1 : sX1 r1) (he111 : ∀ (w : Wd), e111 w → V Z (adA Z) E 9 w 111 [] []) : ∀ (n : Nat) (x4 : Int) (x5 : Int) (x6 : Int) (x8 : Int) (w : Wd), X3_survey_l71 r1 Q e111 n x4 x5 x6 x8 w → V Z (adA Z) E 9 w 71 [(0, rv Z 40), (4, iv x4), (5, iv x5), (6, jv x6), (8, iv x8)] [] := by
  intro n
  induction n with
  | zero => intro x4 x5 x6 x8 w h; exact h.elim
  | succ n ih =>
    intro x4 x5 x6 x8 w h
    unfold X3_survey_l71 at h
    refine v_iload C dX3_survey_71 4 rfl ?_
    refine v_i2l C dX3_survey_73 ?_
    refine v_lload C dX3_survey_74 3 rfl ?_
    refine v_lcmp C dX3_survey_76 ?_
    refine v_if_ge C 111 dX3_survey_77 (by decide) (fun q => ?_) (fun q => ?_)
    · have h := h.1 q
      refine v_sub [] rfl ?_
      exact he111 _ h
    · have h := h.2 q
      refine v_aload_n C dX3_survey_80 0 rfl ?_
      refine v_iload C dX3_survey_81 4 rfl ?_
      refine v_iload C dX3_survey_83 2 rfl ?_
      refine v_iload C dX3_survey_85 1 rfl ?_
      refine v_aload_n C dX3_survey_87 0 rfl ?_
      refine g_X3_walker C wd_265 dX3_survey_88 ?_
      refine v_calli C (rn_V C _ (m_X9_countForth s_X9_46 h) mf_X9_countForth wd_751 wd_752 wd_750 rfl rfl ⟨(Nat.le_of_ble_eq_true rfl), (Nat.le_of_ble_eq_true rfl)⟩ s_X9_46.1 rfl rfl rfl (Nat.le_of_ble_eq_true rfl) dX3_survey_91) (fun r w h => ?_)
      refine v_iadd C dX3_survey_94 ?_
      refine v_iconst C dX3_survey_95 ?_
      refine v_idiv C dX3_survey_96 (by decide) ?_
      refine v_isub C dX3_survey_97 ?_
      refine v_callv C (rn_V C _ (m_X3_countNeed h) mf_X3_countNeed wd_756 wp_23 wd_754 rfl rfl ⟨(Nat.le_of_ble_eq_true rfl), (Nat.le_of_ble_eq_true rfl)⟩ rfl rfl rfl rfl (Nat.le_of_ble_eq_true rfl) dX3_survey_98) (fun w h => ?_)
      refine v_aload_n C dX3_survey_101 0 rfl ?_
      refine v_callv C (rn_V C _ (m_X3_advance h) mf_X3_advance wd_761 wp_24 wd_759 rfl rfl ⟨(Nat.le_of_ble_eq_true rfl), (Nat.le_of_ble_eq_true rfl)⟩ rfl rfl rfl rfl (Nat.le_of_ble_eq_true rfl) dX3_survey_102) (fun w h => ?_)
      refine v_iinc C [(8, _), (0, _), (4, _), (5, _), (6, _)] dX3_survey_105 4 rfl (by decide) rfl ?_
      refine v_goto C 71 dX3_survey_108 (by decide) ?_
      refine v_sub [1, 2, 3, 4, 0] rfl ?_
      exact ih _ _ _ _ _ h
def X3_survey_b111 (r1 : Nat) (Q : Wd → Prop) (w : Wd) : Prop := Q w
theorem t_X3_survey_b111 {Z : Zw} {E : Amb} {r1 : Nat} {Q : Wd → Prop} (C : Cx Z (adA Z) E cX3_survey "HandleFaces$Orders" 9 rm_X3_survey) (R : Rt Z E none (qV Z Q)) (h1 : sX1 r1) : ∀ (w : Wd), X3_survey_b111 r1 Q w → V Z (adA Z) E 9 w 111 [] [] := by
  intro w h
  unfold X3_survey_b111 at h
  exact v_ret C R h dX3_survey_111
def X3_survey (r1 : Nat) (w : Wd) (Q : Wd → Prop) : Prop := X1_networkKey r1 w (fun y2 w1 => ((wr (lcm y2 (w1 40 6)) = 0 → Q w1) ∧ (¬ wr (lcm y2 (w1 40 6)) = 0 → (∀ w3, w3 = up w1 40 6 y2 → X3_beginOrders r1 w3 (fun w4 => J7_fill_53178 41 0 w4 (fun w5 => (∀ w6, w6 = up w5 40 0 6 → (∀ w7, w7 = up w6 40 1 (-1) → X3_eulerWithoutWalks r1 w7 (fun y9 w8 => X1_countParts r1 w8 (fun y11 w10 => X3_howMany r1 w10 (fun y13 w12 => (∀ y14, y14 = (lmn y13 20000) → (∃ m, X3_survey_l71 r1 Q (X3_survey_b111 r1 Q) m y9 y11 y14 0 w12)))))))))))))
theorem m_X3_survey {Z : Zw} {l : Launch} {r1 : Nat} {w : Wd} {Q : Wd → Prop} (h1 : sX1 r1) (h : X3_survey r1 w Q) : CtQ Z l yX3_survey cX3_survey 9 none rm_X3_survey [rv Z 40, rv Z r1] w (qV Z Q) := by
  refine ct_of (by decide) (Nat.le_of_ble_eq_true rfl) (fun E eE C R => ?_)
  subst eE
  have C : Cx Z (adA Z) E cX3_survey "HandleFaces$Orders" 9 rm_X3_survey := C
  unfold X3_survey at h
  show V Z (adA Z) E 9 w 0 [(0, rv Z 40), (1, rv Z r1)] []
  refine v_aload_n C dX3_survey_0 1 rfl ?_
  refine v_calll C (rn_V C _ (m_X1_networkKey h1 h) mf_X1_networkKey wd_704 wd_705 wd_703 rfl rfl ⟨(Nat.le_of_ble_eq_true rfl), (Nat.le_of_ble_eq_true rfl)⟩ h1.1 rfl rfl rfl (Nat.le_of_ble_eq_true rfl) dX3_survey_1) (fun r w h => ?_)
  refine v_lstore_n C [(2, _), (0, _), (1, _)] dX3_survey_4 2 rfl (by decide) rfl ?_
  refine v_lload_n C dX3_survey_5 0 rfl ?_
  refine v_aload_n C dX3_survey_6 1 rfl ?_
  refine g_X3_surveyedKey C wd_266 dX3_survey_7 ?_
  refine v_lcmp C dX3_survey_10 ?_
  refine v_if_ne C 15 dX3_survey_11 (by decide) (fun q => ?_) (fun q => ?_)
  · have h := h.2 q
    refine v_aload_n C dX3_survey_15 1 rfl ?_
    refine v_lload_n C dX3_survey_16 0 rfl ?_
    refine p_X3_surveyedKey C wd_266 dX3_survey_17 ?_
    have h := h _ rfl
    refine v_aload_n C dX3_survey_20 1 rfl ?_
    refine v_aload_n C dX3_survey_21 2 rfl ?_
    refine v_callv C (rn_V C _ (m_X3_beginOrders h1 h) mf_X3_beginOrders wd_709 wp_21 wd_707 rfl rfl ⟨(Nat.le_of_ble_eq_true rfl), (Nat.le_of_ble_eq_true rfl)⟩ rfl rfl rfl rfl (Nat.le_of_ble_eq_true rfl) dX3_survey_22) (fun w h => ?_)
    refine v_aload_n C dX3_survey_25 1 rfl ?_
    refine g_X3_needs C wd_262 dX3_survey_26 ?_
    refine v_iconst C dX3_survey_29 ?_
    refine v_callv C (rn_S C _ (m_J7_fill_53178 (aln_of (rfl : shp 41 = (1, 6, []))) h) mf_J7_fill_53178 wd_579 wd_729 rfl rfl ⟨(Nat.le_of_ble_eq_true rfl), (Nat.le_of_ble_eq_true rfl)⟩ rfl rfl (Nat.le_of_ble_eq_true rfl) dX3_survey_30) (fun w h => ?_)
    refine v_aload_n C dX3_survey_33 1 rfl ?_
    refine v_bipush C dX3_survey_34 (by decide) ?_
    refine p_X3_least C wd_256 dX3_survey_36 ?_
    have h := h _ rfl
    refine v_aload_n C dX3_survey_39 1 rfl ?_
    refine v_iconst C dX3_survey_40 ?_
    refine p_X3_most C wd_258 dX3_survey_41 ?_
    have h := h _ rfl
    refine v_aload_n C dX3_survey_44 2 rfl ?_
    refine v_calli C (rn_S C _ (m_X3_eulerWithoutWalks h1 h) mf_X3_eulerWithoutWalks wd_731 wd_730 rfl rfl ⟨(Nat.le_of_ble_eq_true rfl), (Nat.le_of_ble_eq_true rfl)⟩ rfl rfl (Nat.le_of_ble_eq_true rfl) dX3_survey_45) (fun r w h => ?_)
    refine v_istore C [(4, _), (2, _), (0, _), (1, _)] dX3_survey_48 (by decide) rfl ?_
    refine v_aload_n C dX3_survey_50 3 rfl ?_
    refine v_calli C (rn_V C _ (m_X1_countParts h1 h) mf_X1_countParts wd_738 wd_739 wd_737 rfl rfl ⟨(Nat.le_of_ble_eq_true rfl), (Nat.le_of_ble_eq_true rfl)⟩ h1.1 rfl rfl rfl (Nat.le_of_ble_eq_true rfl) dX3_survey_51) (fun r w h => ?_)
    refine v_istore C [(5, _), (4, _), (2, _), (0, _), (1, _)] dX3_survey_54 (by decide) rfl ?_
    refine v_aload_n C dX3_survey_56 4 rfl ?_
    refine v_calll C (rn_S C _ (m_X3_howMany h1 h) mf_X3_howMany wd_688 wd_745 rfl rfl ⟨(Nat.le_of_ble_eq_true rfl), (Nat.le_of_ble_eq_true rfl)⟩ rfl rfl (Nat.le_of_ble_eq_true rfl) dX3_survey_57) (fun r w h => ?_)
    refine v_ldc2 C 20000 wd_746 (by decide) dX3_survey_60 ?_
    refine v_mminL C wd_747 wd_748 wd_12 wd_749 (Nat.le_of_ble_eq_true rfl) (Nat.le_of_ble_eq_true rfl) dX3_survey_63 ?_
    refine v_lstore C [(6, _), (5, _), (4, _), (2, _), (0, _), (1, _)] dX3_survey_66 (by decide) rfl ?_
    have h := h _ rfl
    refine v_iconst C dX3_survey_68 ?_
    refine v_istore C [(8, _), (6, _), (5, _), (4, _), (2, _), (0, _), (1, _)] dX3_survey_69 (by decide) rfl ?_
    refine v_sub [5, 3, 2, 1, 0] rfl ?_
    obtain ⟨m, h⟩ := h
    exact t_X3_survey_l71 C R h1 (t_X3_survey_b111 C R h1) m _ _ _ _ _ h
  · have h := h.1 q
    exact v_ret C R h dX3_survey_14
abbrev rm_X9_countAll : Room := { frames := 2, cells := 0, slots := 0, locals := 44 }
theorem mf_X9_countAll : MfB yX9_countAll cX9_countAll 7 (some .int) 0 := ⟨wd_953, wd_6, by decide, by decide, by decide +kernel⟩
def X9_countAll_l51 (r0 : Nat) (Q : Int → Wd → Prop) (e105 : Int → Int → Int → Wd → Prop) : Nat → Int → Int → Int → Int → Int → Wd → Prop
  | 0 => fun _ _ _ _ _ _ => False
  | n + 1 => fun x1 x3 x4 x5 x6 w => ((wr (w r0 0) ≤ wr x6 → e105 x1 x3 x4 w) ∧ (¬ wr (w r0 0) ≤ wr x6 → ((wr (lcm (lan (lsr x1 x5) 1) 0) = 0 → e105 x1 x3 x4 w) ∧ (¬ wr (lcm (lan (lsr x1 x5) 1) 0) = 0 → X9_opposite r0 x5 w (fun y3 w2 => (∀ y4, y4 = (lan x1 (lxo (lor (lsl 1 x5) (lsl 1 y3)) (-1))) → X9_next r0 x5 w2 (fun y6 w5 => (X9_countAll_l51 r0 Q e105 n) y4 x3 x4 y6 (x6 + 1) w5)))))))
theorem t_X9_countAll_l51 {Z : Zw} {E : Amb} {r0 : Nat} {Q : Int → Wd → Prop} {e105 : Int → Int → Int → Wd → Prop} (C : Cx Z (adA Z) E cX9_countAll "HandleFaces$Walker" 7 rm_X9_countAll) (R : Rt Z E (some .int) (qI Z Q)) (h0 : sX9 r0) (he105 : ∀ (x1 : Int) (x3 : Int) (x4 : Int) (w : Wd), e105 x1 x3 x4 w → V Z (adA Z) E 7 w 105 [(0, rv Z r0), (1, jv x1), (3, iv x3), (4, iv x4)] []) : ∀ (n : Nat) (x1 : Int) (x3 : Int) (x4 : Int) (x5 : Int) (x6 : Int) (w : Wd), X9_countAll_l51 r0 Q e105 n x1 x3 x4 x5 x6 w → V Z (adA Z) E 7 w 51 [(0, rv Z r0), (1, jv x1), (3, iv x3), (4, iv x4), (5, iv x5), (6, iv x6)] [] := by
  intro n
  induction n with
  | zero => intro x1 x3 x4 x5 x6 w h; exact h.elim
  | succ n ih =>
    intro x1 x3 x4 x5 x6 w h
    unfold X9_countAll_l51 at h
    refine v_iload C dX9_countAll_51 5 rfl ?_
    refine v_aload_n C dX9_countAll_53 0 rfl ?_
    refine g_X9_arms C h0 wd_186 dX9_countAll_54 ?_
    refine v_icmp_ge C 105 dX9_countAll_57 (by decide) (fun q => ?_) (fun q => ?_)
    · have h := h.1 q
      refine v_sub [0, 1, 2, 3] rfl ?_
      exact he105 _ _ _ _ h
    · have h := h.2 q
      refine v_lload_n C dX9_countAll_60 1 rfl ?_
      refine v_iload C dX9_countAll_61 4 rfl ?_
      refine v_lshr C dX9_countAll_63 ?_
      refine v_lconst (x := 1) C dX9_countAll_64 (by decide) ?_
      refine v_land C dX9_countAll_65 ?_
      refine v_lconst (x := 0) C dX9_countAll_66 (by decide) ?_
      refine v_lcmp C dX9_countAll_67 ?_
      refine v_if_eq C 105 dX9_countAll_68 (by decide) (fun q => ?_) (fun q => ?_)
      · have h := h.1 q
        refine v_sub [0, 1, 2, 3] rfl ?_
        exact he105 _ _ _ _ h
      · have h := h.2 q
        refine v_lload_n C dX9_countAll_71 1 rfl ?_
        refine v_lconst (x := 1) C dX9_countAll_72 (by decide) ?_
        refine v_iload C dX9_countAll_73 4 rfl ?_
        refine v_lshl C dX9_countAll_75 ?_
        refine v_lconst (x := 1) C dX9_countAll_76 (by decide) ?_
        refine v_aload_n C dX9_countAll_77 0 rfl ?_
        refine v_iload C dX9_countAll_78 4 rfl ?_
        refine v_calli C (rn_V C _ (m_X9_opposite h0 h) mf_X9_opposite wd_803 wd_804 wd_954 rfl rfl ⟨(Nat.le_of_ble_eq_true rfl), (Nat.le_of_ble_eq_true rfl)⟩ h0.1 rfl rfl rfl (Nat.le_of_ble_eq_true rfl) dX9_countAll_80) (fun r w h => ?_)
        refine v_lshl C dX9_countAll_83 ?_
        refine v_lor C dX9_countAll_84 ?_
        refine v_ldc2 C (-1) wd_955 (by decide) dX9_countAll_85 ?_
        refine v_lxor C dX9_countAll_88 ?_
        refine v_land C dX9_countAll_89 ?_
        refine v_lstore_n C [(1, _), (0, _), (3, _), (4, _), (5, _), (6, _)] dX9_countAll_90 1 rfl (by decide) rfl ?_
        have h := h _ rfl
        refine v_aload_n C dX9_countAll_91 1 rfl ?_
        refine v_iload C dX9_countAll_92 4 rfl ?_
        refine v_calli C (rn_V C _ (m_X9_next h0 h) mf_X9_next wd_819 wd_820 wd_956 rfl rfl ⟨(Nat.le_of_ble_eq_true rfl), (Nat.le_of_ble_eq_true rfl)⟩ h0.1 rfl rfl rfl (Nat.le_of_ble_eq_true rfl) dX9_countAll_94) (fun r w h => ?_)
        refine v_istore C [(5, _), (1, _), (0, _), (3, _), (4, _), (6, _)] dX9_countAll_97 (by decide) rfl ?_
        refine v_iinc C [(6, _), (5, _), (1, _), (0, _), (3, _), (4, _)] dX9_countAll_99 5 rfl (by decide) rfl ?_
        refine v_goto C 51 dX9_countAll_102 (by decide) ?_
        refine v_sub [3, 2, 4, 5, 1, 0] rfl ?_
        exact ih _ _ _ _ _ _ h
def X9_countAll_b105 (r0 : Nat) (Q : Int → Wd → Prop) (c16 : Int → Int → Int → Wd → Prop) (e111 : Int → Wd → Prop) (x1 : Int) (x3 : Int) (x4 : Int) (w : Wd) : Prop := c16 x1 x3 (x4 + 1) w
theorem t_X9_countAll_b105 {Z : Zw} {E : Amb} {r0 : Nat} {Q : Int → Wd → Prop} {c16 : Int → Int → Int → Wd → Prop} {e111 : Int → Wd → Prop} (C : Cx Z (adA Z) E cX9_countAll "HandleFaces$Walker" 7 rm_X9_countAll) (R : Rt Z E (some .int) (qI Z Q)) (h0 : sX9 r0) (hc16 : ∀ (x1 : Int) (x3 : Int) (x4 : Int) (w : Wd), c16 x1 x3 x4 w → V Z (adA Z) E 7 w 16 [(0, rv Z r0), (1, jv x1), (3, iv x3), (4, iv x4)] []) (he111 : ∀ (x3 : Int) (w : Wd), e111 x3 w → V Z (adA Z) E 7 w 111 [(3, iv x3)] []) : ∀ (x1 : Int) (x3 : Int) (x4 : Int) (w : Wd), X9_countAll_b105 r0 Q c16 e111 x1 x3 x4 w → V Z (adA Z) E 7 w 105 [(0, rv Z r0), (1, jv x1), (3, iv x3), (4, iv x4)] [] := by
  intro x1 x3 x4 w h
  unfold X9_countAll_b105 at h
  refine v_iinc C [(4, _), (0, _), (1, _), (3, _)] dX9_countAll_105 3 rfl (by decide) rfl ?_
  refine v_goto C 16 dX9_countAll_108 (by decide) ?_
  refine v_sub [1, 2, 3, 0] rfl ?_
  exact hc16 _ _ _ _ h
def X9_countAll_l16 (r0 : Nat) (Q : Int → Wd → Prop) (e111 : Int → Wd → Prop) : Nat → Int → Int → Int → Wd → Prop
  | 0 => fun _ _ _ _ => False
  | n + 1 => fun x1 x3 x4 w => ((wr (2 * (w r0 0)) ≤ wr x4 → e111 x3 w) ∧ (¬ wr (2 * (w r0 0)) ≤ wr x4 → ((wr (lcm (lan (lsr x1 x4) 1) 0) = 0 → X9_countAll_b105 r0 Q (X9_countAll_l16 r0 Q e111 n) e111 x1 x3 x4 w) ∧ (¬ wr (lcm (lan (lsr x1 x4) 1) 0) = 0 → (∃ m, X9_countAll_l51 r0 Q (X9_countAll_b105 r0 Q (X9_countAll_l16 r0 Q e111 n) e111) m x1 (x3 + 1) x4 x4 0 w)))))
theorem t_X9_countAll_l16 {Z : Zw} {E : Amb} {r0 : Nat} {Q : Int → Wd → Prop} {e111 : Int → Wd → Prop} (C : Cx Z (adA Z) E cX9_countAll "HandleFaces$Walker" 7 rm_X9_countAll) (R : Rt Z E (some .int) (qI Z Q)) (h0 : sX9 r0) (he111 : ∀ (x3 : Int) (w : Wd), e111 x3 w → V Z (adA Z) E 7 w 111 [(3, iv x3)] []) : ∀ (n : Nat) (x1 : Int) (x3 : Int) (x4 : Int) (w : Wd), X9_countAll_l16 r0 Q e111 n x1 x3 x4 w → V Z (adA Z) E 7 w 16 [(0, rv Z r0), (1, jv x1), (3, iv x3), (4, iv x4)] [] := by
  intro n
  induction n with
  | zero => intro x1 x3 x4 w h; exact h.elim
  | succ n ih =>
    intro x1 x3 x4 w h
    unfold X9_countAll_l16 at h
    refine v_iload C dX9_countAll_16 3 rfl ?_
    refine v_iconst C dX9_countAll_18 ?_
    refine v_aload_n C dX9_countAll_19 0 rfl ?_
    refine g_X9_arms C h0 wd_186 dX9_countAll_20 ?_
    refine v_imul C dX9_countAll_23 ?_
    refine v_icmp_ge C 111 dX9_countAll_24 (by decide) (fun q => ?_) (fun q => ?_)
    · have h := h.1 q
      refine v_sub [2] rfl ?_
      exact he111 _ _ h
    · have h := h.2 q
      refine v_lload_n C dX9_countAll_27 1 rfl ?_
      refine v_iload C dX9_countAll_28 3 rfl ?_
      refine v_lshr C dX9_countAll_30 ?_
      refine v_lconst (x := 1) C dX9_countAll_31 (by decide) ?_
      refine v_land C dX9_countAll_32 ?_
      refine v_lconst (x := 0) C dX9_countAll_33 (by decide) ?_
      refine v_lcmp C dX9_countAll_34 ?_
      refine v_if_ne C 41 dX9_countAll_35 (by decide) (fun q => ?_) (fun q => ?_)
      · have h := h.2 q
        refine v_iinc C [(3, _), (0, _), (1, _), (4, _)] dX9_countAll_41 2 rfl (by decide) rfl ?_
        refine v_iload C dX9_countAll_44 3 rfl ?_
        refine v_istore C [(5, _), (3, _), (0, _), (1, _), (4, _)] dX9_countAll_46 (by decide) rfl ?_
        refine v_iconst C dX9_countAll_48 ?_
        refine v_istore C [(6, _), (5, _), (3, _), (0, _), (1, _), (4, _)] dX9_countAll_49 (by decide) rfl ?_
        refine v_sub [3, 4, 2, 5, 1, 0] rfl ?_
        obtain ⟨m, h⟩ := h
        exact t_X9_countAll_l51 C R h0 (t_X9_countAll_b105 C R h0 ih he111) m _ _ _ _ _ _ h
      · have h := h.1 q
        refine v_goto C 105 dX9_countAll_38 (by decide) ?_
        exact t_X9_countAll_b105 C R h0 ih he111 _ _ _ _ h
def X9_countAll_b111 (r0 : Nat) (Q : Int → Wd → Prop) (x3 : Int) (w : Wd) : Prop := Q (wr x3) w
theorem t_X9_countAll_b111 {Z : Zw} {E : Amb} {r0 : Nat} {Q : Int → Wd → Prop} (C : Cx Z (adA Z) E cX9_countAll "HandleFaces$Walker" 7 rm_X9_countAll) (R : Rt Z E (some .int) (qI Z Q)) (h0 : sX9 r0) : ∀ (x3 : Int) (w : Wd), X9_countAll_b111 r0 Q x3 w → V Z (adA Z) E 7 w 111 [(3, iv x3)] [] := by
  intro x3 w h
  unfold X9_countAll_b111 at h
  refine v_iload_n C dX9_countAll_111 0 rfl ?_
  exact v_iret C R h dX9_countAll_112
def X9_countAll (r0 : Nat) (w : Wd) (Q : Int → Wd → Prop) : Prop := (∀ y1, y1 = ((lsl 1 (2 * (w r0 0))) - 1) → (∃ m, X9_countAll_l16 r0 Q (X9_countAll_b111 r0 Q) m y1 0 0 w))
theorem m_X9_countAll {Z : Zw} {l : Launch} {r0 : Nat} {w : Wd} {Q : Int → Wd → Prop} (h0 : sX9 r0) (h : X9_countAll r0 w Q) : CtQ Z l yX9_countAll cX9_countAll 7 (some .int) rm_X9_countAll [rv Z r0] w (qI Z Q) := by
  refine ct_of (by decide) (Nat.le_of_ble_eq_true rfl) (fun E eE C R => ?_)
  subst eE
  have C : Cx Z (adA Z) E cX9_countAll "HandleFaces$Walker" 7 rm_X9_countAll := C
  unfold X9_countAll at h
  show V Z (adA Z) E 7 w 0 [(0, rv Z r0)] []
  refine v_lconst (x := 1) C dX9_countAll_0 (by decide) ?_
  refine v_iconst C dX9_countAll_1 ?_
  refine v_aload_n C dX9_countAll_2 0 rfl ?_
  refine g_X9_arms C h0 wd_186 dX9_countAll_3 ?_
  refine v_imul C dX9_countAll_6 ?_
  refine v_lshl C dX9_countAll_7 ?_
  refine v_lconst (x := 1) C dX9_countAll_8 (by decide) ?_
  refine v_lsub C dX9_countAll_9 ?_
  refine v_lstore_n C [(1, _), (0, _)] dX9_countAll_10 1 rfl (by decide) rfl ?_
  have h := h _ rfl
  refine v_iconst C dX9_countAll_11 ?_
  refine v_istore_n C [(3, _), (1, _), (0, _)] dX9_countAll_12 3 rfl (by decide) rfl ?_
  refine v_iconst C dX9_countAll_13 ?_
  refine v_istore C [(4, _), (3, _), (1, _), (0, _)] dX9_countAll_14 (by decide) rfl ?_
  refine v_sub [3, 2, 1, 0] rfl ?_
  obtain ⟨m, h⟩ := h
  exact t_X9_countAll_l16 C R h0 (t_X9_countAll_b111 C R h0) m _ _ _ _ h
abbrev rm_X3_mostFacesTwisted : Room := { frames := 3, cells := 0, slots := 0, locals := 70 }
theorem mf_X3_mostFacesTwisted : MfB yX3_mostFacesTwisted cX3_mostFacesTwisted 6 (some .int) 2 := ⟨wd_949, wd_7, by decide, by decide, by decide +kernel⟩
def X3_mostFacesTwisted_l8 (Q : Int → Wd → Prop) (e49 : Int → Wd → Prop) : Nat → Int → Int → Int → Int → Int → Wd → Prop
  | 0 => fun _ _ _ _ _ _ => False
  | n + 1 => fun x1 x2 x3 x4 x5 w => ((wr x2 ≤ wr x5 → e49 x3 w) ∧ (¬ wr x2 ≤ wr x5 → (∀ w1, w1 = up w 46 1 x4 → X9_countAll 46 w1 (fun y3 w2 => (∀ y4, y4 = (imx x3 y3) → (∀ y5, y5 = (ian (x4 - x1) x1) → (X3_mostFacesTwisted_l8 Q e49 n) x1 x2 y4 y5 (x5 + 1) w2))))))
theorem t_X3_mostFacesTwisted_l8 {Z : Zw} {E : Amb} {Q : Int → Wd → Prop} {e49 : Int → Wd → Prop} (C : Cx Z (adA Z) E cX3_mostFacesTwisted "HandleFaces$Orders" 6 rm_X3_mostFacesTwisted) (R : Rt Z E (some .int) (qI Z Q)) (he49 : ∀ (x3 : Int) (w : Wd), e49 x3 w → V Z (adA Z) E 6 w 49 [(3, iv x3)] []) : ∀ (n : Nat) (x1 : Int) (x2 : Int) (x3 : Int) (x4 : Int) (x5 : Int) (w : Wd), X3_mostFacesTwisted_l8 Q e49 n x1 x2 x3 x4 x5 w → V Z (adA Z) E 6 w 8 [(0, rv Z 40), (1, iv x1), (2, iv x2), (3, iv x3), (4, iv x4), (5, iv x5)] [] := by
  intro n
  induction n with
  | zero => intro x1 x2 x3 x4 x5 w h; exact h.elim
  | succ n ih =>
    intro x1 x2 x3 x4 x5 w h
    unfold X3_mostFacesTwisted_l8 at h
    refine v_iload C dX3_mostFacesTwisted_8 5 rfl ?_
    refine v_iload_n C dX3_mostFacesTwisted_10 2 rfl ?_
    refine v_icmp_ge C 49 dX3_mostFacesTwisted_11 (by decide) (fun q => ?_) (fun q => ?_)
    · have h := h.1 q
      refine v_sub [3] rfl ?_
      exact he49 _ _ h
    · have h := h.2 q
      refine v_aload_n C dX3_mostFacesTwisted_14 0 rfl ?_
      refine g_X3_walker C wd_265 dX3_mostFacesTwisted_15 ?_
      refine v_iload C dX3_mostFacesTwisted_18 4 rfl ?_
      refine p_X9_twists C s_X9_46 wd_190 dX3_mostFacesTwisted_20 ?_
      have h := h _ rfl
      refine v_iload_n C dX3_mostFacesTwisted_23 3 rfl ?_
      refine v_aload_n C dX3_mostFacesTwisted_24 0 rfl ?_
      refine g_X3_walker C wd_265 dX3_mostFacesTwisted_25 ?_
      refine v_calli C (rn_V C _ (m_X9_countAll s_X9_46 h) mf_X9_countAll wd_951 wd_952 wd_950 rfl rfl ⟨(Nat.le_of_ble_eq_true rfl), (Nat.le_of_ble_eq_true rfl)⟩ s_X9_46.1 rfl rfl rfl (Nat.le_of_ble_eq_true rfl) dX3_mostFacesTwisted_28) (fun r w h => ?_)
      refine v_mmax C wd_758 wd_350 wd_12 wd_351 (Nat.le_of_ble_eq_true rfl) (Nat.le_of_ble_eq_true rfl) dX3_mostFacesTwisted_31 ?_
      refine v_istore_n C [(3, _), (0, _), (1, _), (2, _), (4, _), (5, _)] dX3_mostFacesTwisted_34 3 rfl (by decide) rfl ?_
      have h := h _ rfl
      refine v_iload C dX3_mostFacesTwisted_35 4 rfl ?_
      refine v_iload_n C dX3_mostFacesTwisted_37 2 rfl ?_
      refine v_isub C dX3_mostFacesTwisted_38 ?_
      refine v_iload_n C dX3_mostFacesTwisted_39 2 rfl ?_
      refine v_iand C dX3_mostFacesTwisted_40 ?_
      refine v_istore C [(4, _), (3, _), (0, _), (1, _), (2, _), (5, _)] dX3_mostFacesTwisted_41 (by decide) rfl ?_
      have h := h _ rfl
      refine v_iinc C [(5, _), (4, _), (3, _), (0, _), (1, _), (2, _)] dX3_mostFacesTwisted_43 5 rfl (by decide) rfl ?_
      refine v_goto C 8 dX3_mostFacesTwisted_46 (by decide) ?_
      refine v_sub [3, 4, 5, 2, 1, 0] rfl ?_
      exact ih _ _ _ _ _ _ h
def X3_mostFacesTwisted_b49 (Q : Int → Wd → Prop) (x3 : Int) (w : Wd) : Prop := Q (wr x3) w
theorem t_X3_mostFacesTwisted_b49 {Z : Zw} {E : Amb} {Q : Int → Wd → Prop} (C : Cx Z (adA Z) E cX3_mostFacesTwisted "HandleFaces$Orders" 6 rm_X3_mostFacesTwisted) (R : Rt Z E (some .int) (qI Z Q)) : ∀ (x3 : Int) (w : Wd), X3_mostFacesTwisted_b49 Q x3 w → V Z (adA Z) E 6 w 49 [(3, iv x3)] [] := by
  intro x3 w h
  unfold X3_mostFacesTwisted_b49 at h
  refine v_iload_n C dX3_mostFacesTwisted_49 0 rfl ?_
  exact v_iret C R h dX3_mostFacesTwisted_50
def X3_mostFacesTwisted (x1 : Int) (x2 : Int) (w : Wd) (Q : Int → Wd → Prop) : Prop := (∃ m, X3_mostFacesTwisted_l8 Q (X3_mostFacesTwisted_b49 Q) m x1 x2 0 0 0 w)
theorem m_X3_mostFacesTwisted {Z : Zw} {l : Launch} {x1 : Int} {x2 : Int} {w : Wd} {Q : Int → Wd → Prop} (h : X3_mostFacesTwisted x1 x2 w Q) : CtQ Z l yX3_mostFacesTwisted cX3_mostFacesTwisted 6 (some .int) rm_X3_mostFacesTwisted [rv Z 40, iv x1, iv x2] w (qI Z Q) := by
  refine ct_of (by decide) (Nat.le_of_ble_eq_true rfl) (fun E eE C R => ?_)
  subst eE
  have C : Cx Z (adA Z) E cX3_mostFacesTwisted "HandleFaces$Orders" 6 rm_X3_mostFacesTwisted := C
  unfold X3_mostFacesTwisted at h
  show V Z (adA Z) E 6 w 0 [(0, rv Z 40), (1, iv x1), (2, iv x2)] []
  refine v_iconst C dX3_mostFacesTwisted_0 ?_
  refine v_istore_n C [(3, _), (0, _), (1, _), (2, _)] dX3_mostFacesTwisted_1 3 rfl (by decide) rfl ?_
  refine v_iconst C dX3_mostFacesTwisted_2 ?_
  refine v_istore C [(4, _), (3, _), (0, _), (1, _), (2, _)] dX3_mostFacesTwisted_3 (by decide) rfl ?_
  refine v_iconst C dX3_mostFacesTwisted_5 ?_
  refine v_istore C [(5, _), (4, _), (3, _), (0, _), (1, _), (2, _)] dX3_mostFacesTwisted_6 (by decide) rfl ?_
  refine v_sub [3, 4, 5, 2, 1, 0] rfl ?_
  obtain ⟨m, h⟩ := h
  exact t_X3_mostFacesTwisted_l8 C R (t_X3_mostFacesTwisted_b49 C R) m _ _ _ _ _ _ h
abbrev rm_X3_fewestCaps : Room := { frames := 5, cells := 0, slots := 0, locals := 123 }
theorem mf_X3_fewestCaps : MfB yX3_fewestCaps cX3_fewestCaps 10 (some .int) 1 := ⟨wd_934, wd_7, by decide, by decide, by decide +kernel⟩
def X3_fewestCaps_l96 (r1 : Nat) (Q : Int → Wd → Prop) (e143 : Wd → Prop) : Nat → Int → Int → Int → Int → Int → Wd → Prop
  | 0 => fun _ _ _ _ _ _ => False
  | n + 1 => fun x2 x3 x5 x8 x9 w => ((0 ≤ wr (lcm (wr x9) x3) → e143 w) ∧ (¬ 0 ≤ wr (lcm (wr x9) x3) → ((wr (w 40 8) ≤ wr 1 → e143 w) ∧ (¬ wr (w 40 8) ≤ wr 1 → X3_mostFacesTwisted x2 x5 w (fun y20 w19 => (∀ w21, w21 = up w19 40 8 (imn (w 40 8) (x8 - y20)) → X3_advance w21 (fun w22 => (X3_fewestCaps_l96 r1 Q e143 n) x2 x3 x5 x8 (x9 + 1) w22)))))))
theorem t_X3_fewestCaps_l96 {Z : Zw} {E : Amb} {r1 : Nat} {Q : Int → Wd → Prop} {e143 : Wd → Prop} (C : Cx Z (adA Z) E cX3_fewestCaps "HandleFaces$Orders" 10 rm_X3_fewestCaps) (R : Rt Z E (some .int) (qI Z Q)) (h1 : sX1 r1) (he143 : ∀ (w : Wd), e143 w → V Z (adA Z) E 10 w 143 [(0, rv Z 40)] []) : ∀ (n : Nat) (x2 : Int) (x3 : Int) (x5 : Int) (x8 : Int) (x9 : Int) (w : Wd), X3_fewestCaps_l96 r1 Q e143 n x2 x3 x5 x8 x9 w → V Z (adA Z) E 10 w 96 [(0, rv Z 40), (2, iv x2), (3, jv x3), (5, iv x5), (8, iv x8), (9, iv x9)] [] := by
  intro n
  induction n with
  | zero => intro x2 x3 x5 x8 x9 w h; exact h.elim
  | succ n ih =>
    intro x2 x3 x5 x8 x9 w h
    unfold X3_fewestCaps_l96 at h
    refine v_iload C dX3_fewestCaps_96 5 rfl ?_
    refine v_i2l C dX3_fewestCaps_98 ?_
    refine v_lload_n C dX3_fewestCaps_99 2 rfl ?_
    refine v_lcmp C dX3_fewestCaps_100 ?_
    refine v_if_ge C 143 dX3_fewestCaps_101 (by decide) (fun q => ?_) (fun q => ?_)
    · have h := h.1 q
      refine v_sub [0] rfl ?_
      exact he143 _ h
    · have h := h.2 q
      refine v_aload_n C dX3_fewestCaps_104 0 rfl ?_
      refine g_X3_caps C wd_268 dX3_fewestCaps_105 ?_
      refine v_iconst C dX3_fewestCaps_108 ?_
      refine v_icmp_le C 143 dX3_fewestCaps_109 (by decide) (fun q => ?_) (fun q => ?_)
      · have h := h.1 q
        refine v_sub [0] rfl ?_
        exact he143 _ h
      · have h := h.2 q
        refine v_aload_n C dX3_fewestCaps_112 0 rfl ?_
        refine v_aload_n C dX3_fewestCaps_113 0 rfl ?_
        refine g_X3_caps C wd_268 dX3_fewestCaps_114 ?_
        refine v_iload C dX3_fewestCaps_117 4 rfl ?_
        refine v_aload_n C dX3_fewestCaps_119 0 rfl ?_
        refine v_iload_n C dX3_fewestCaps_120 1 rfl ?_
        refine v_iload C dX3_fewestCaps_121 3 rfl ?_
        refine v_calli C (rn_V C _ (m_X3_mostFacesTwisted h) mf_X3_mostFacesTwisted wd_948 wp_37 wd_946 rfl rfl ⟨(Nat.le_of_ble_eq_true rfl), (Nat.le_of_ble_eq_true rfl)⟩ rfl rfl rfl rfl (Nat.le_of_ble_eq_true rfl) dX3_fewestCaps_123) (fun r w h => ?_)
        refine v_isub C dX3_fewestCaps_126 ?_
        refine v_mmin C wd_957 wd_347 wd_12 wd_348 (Nat.le_of_ble_eq_true rfl) (Nat.le_of_ble_eq_true rfl) dX3_fewestCaps_127 ?_
        refine p_X3_caps C wd_268 dX3_fewestCaps_130 ?_
        have h := h _ rfl
        refine v_aload_n C dX3_fewestCaps_133 0 rfl ?_
        refine v_callv C (rn_V C _ (m_X3_advance h) mf_X3_advance wd_761 wp_24 wd_759 rfl rfl ⟨(Nat.le_of_ble_eq_true rfl), (Nat.le_of_ble_eq_true rfl)⟩ rfl rfl rfl rfl (Nat.le_of_ble_eq_true rfl) dX3_fewestCaps_134) (fun w h => ?_)
        refine v_iinc C [(9, _), (0, _), (2, _), (3, _), (5, _), (8, _)] dX3_fewestCaps_137 5 rfl (by decide) rfl ?_
        refine v_goto C 96 dX3_fewestCaps_140 (by decide) ?_
        refine v_sub [1, 2, 3, 4, 5, 0] rfl ?_
        exact ih _ _ _ _ _ _ h
def X3_fewestCaps_b143 (r1 : Nat) (Q : Int → Wd → Prop) (w : Wd) : Prop := Q (wr (w 40 8)) w
theorem t_X3_fewestCaps_b143 {Z : Zw} {E : Amb} {r1 : Nat} {Q : Int → Wd → Prop} (C : Cx Z (adA Z) E cX3_fewestCaps "HandleFaces$Orders" 10 rm_X3_fewestCaps) (R : Rt Z E (some .int) (qI Z Q)) (h1 : sX1 r1) : ∀ (w : Wd), X3_fewestCaps_b143 r1 Q w → V Z (adA Z) E 10 w 143 [(0, rv Z 40)] [] := by
  intro w h
  unfold X3_fewestCaps_b143 at h
  refine v_aload_n C dX3_fewestCaps_143 0 rfl ?_
  refine g_X3_caps C wd_268 dX3_fewestCaps_144 ?_
  exact v_iret C R h dX3_fewestCaps_147
def X3_fewestCaps (r1 : Nat) (w : Wd) (Q : Int → Wd → Prop) : Prop := X1_looseLines r1 w (fun y2 w1 => X3_howMany r1 w1 (fun y4 w3 => J6_bitCount_0f7a4 y2 w3 (fun y6 w5 => (∀ y7, y7 = (isl 1 y6) → ((wr (lcm (y4 * (wr y7)) 20000) ≤ 0 → X1_networkKey r1 w5 (fun y9 w8 => ((wr (lcm y9 (w8 40 7)) = 0 → Q (wr (w8 40 8)) w8) ∧ (¬ wr (lcm y9 (w8 40 7)) = 0 → (∀ w10, w10 = up w8 40 7 y9 → X3_survey r1 w10 (fun w11 => (∀ w12, w12 = up w11 40 8 (2 * (w11 40 0)) → X3_beginOrders r1 w12 (fun w13 => X1_countParts r1 w13 (fun y15 w14 => X3_eulerWithoutWalks r1 w14 (fun y17 w16 => (∀ y18, y18 = ((2 * y15) - y17) → (∃ m, X3_fewestCaps_l96 r1 Q (X3_fewestCaps_b143 r1 Q) m y2 y4 y7 y18 0 w16)))))))))))) ∧ (¬ wr (lcm (y4 * (wr y7)) 20000) ≤ 0 → Q (wr (-2)) w5))))))
theorem m_X3_fewestCaps {Z : Zw} {l : Launch} {r1 : Nat} {w : Wd} {Q : Int → Wd → Prop} (h1 : sX1 r1) (h : X3_fewestCaps r1 w Q) : CtQ Z l yX3_fewestCaps cX3_fewestCaps 10 (some .int) rm_X3_fewestCaps [rv Z 40, rv Z r1] w (qI Z Q) := by
  refine ct_of (by decide) (Nat.le_of_ble_eq_true rfl) (fun E eE C R => ?_)
  subst eE
  have C : Cx Z (adA Z) E cX3_fewestCaps "HandleFaces$Orders" 10 rm_X3_fewestCaps := C
  unfold X3_fewestCaps at h
  show V Z (adA Z) E 10 w 0 [(0, rv Z 40), (1, rv Z r1)] []
  refine v_aload_n C dX3_fewestCaps_0 1 rfl ?_
  refine v_calli C (rn_V C _ (m_X1_looseLines h1 h) mf_X1_looseLines wd_936 wd_937 wd_935 rfl rfl ⟨(Nat.le_of_ble_eq_true rfl), (Nat.le_of_ble_eq_true rfl)⟩ h1.1 rfl rfl rfl (Nat.le_of_ble_eq_true rfl) dX3_fewestCaps_1) (fun r w h => ?_)
  refine v_istore_n C [(2, _), (0, _), (1, _)] dX3_fewestCaps_4 2 rfl (by decide) rfl ?_
  refine v_aload_n C dX3_fewestCaps_5 2 rfl ?_
  refine v_calll C (rn_S C _ (m_X3_howMany h1 h) mf_X3_howMany wd_688 wd_745 rfl rfl ⟨(Nat.le_of_ble_eq_true rfl), (Nat.le_of_ble_eq_true rfl)⟩ rfl rfl (Nat.le_of_ble_eq_true rfl) dX3_fewestCaps_6) (fun r w h => ?_)
  refine v_lstore_n C [(3, _), (2, _), (0, _), (1, _)] dX3_fewestCaps_9 3 rfl (by decide) rfl ?_
  refine v_iconst C dX3_fewestCaps_10 ?_
  refine v_iload_n C dX3_fewestCaps_11 1 rfl ?_
  refine v_calli C (rn_S C _ (m_J6_bitCount_0f7a4 h) mf_J6_bitCount_0f7a4 wd_940 wd_939 rfl rfl ⟨(Nat.le_of_ble_eq_true rfl), (Nat.le_of_ble_eq_true rfl)⟩ rfl rfl (Nat.le_of_ble_eq_true rfl) dX3_fewestCaps_12) (fun r w h => ?_)
  refine v_ishl C dX3_fewestCaps_15 ?_
  refine v_istore C [(5, _), (3, _), (2, _), (0, _), (1, _)] dX3_fewestCaps_16 (by decide) rfl ?_
  have h := h _ rfl
  refine v_lload_n C dX3_fewestCaps_18 1 rfl ?_
  refine v_iload C dX3_fewestCaps_19 0 rfl ?_
  refine v_i2l C dX3_fewestCaps_21 ?_
  refine v_lmul C dX3_fewestCaps_22 ?_
  refine v_ldc2 C 20000 wd_746 (by decide) dX3_fewestCaps_23 ?_
  refine v_lcmp C dX3_fewestCaps_26 ?_
  refine v_if_le C 33 dX3_fewestCaps_27 (by decide) (fun q => ?_) (fun q => ?_)
  · have h := h.1 q
    refine v_aload_n C dX3_fewestCaps_33 4 rfl ?_
    refine v_calll C (rn_V C _ (m_X1_networkKey h1 h) mf_X1_networkKey wd_704 wd_705 wd_703 rfl rfl ⟨(Nat.le_of_ble_eq_true rfl), (Nat.le_of_ble_eq_true rfl)⟩ h1.1 rfl rfl rfl (Nat.le_of_ble_eq_true rfl) dX3_fewestCaps_34) (fun r w h => ?_)
    refine v_lstore C [(6, _), (5, _), (3, _), (2, _), (0, _), (1, _)] dX3_fewestCaps_37 (by decide) rfl ?_
    refine v_lload C dX3_fewestCaps_39 0 rfl ?_
    refine v_aload_n C dX3_fewestCaps_41 4 rfl ?_
    refine g_X3_cappedKey C wd_267 dX3_fewestCaps_42 ?_
    refine v_lcmp C dX3_fewestCaps_45 ?_
    refine v_if_ne C 54 dX3_fewestCaps_46 (by decide) (fun q => ?_) (fun q => ?_)
    · have h := h.2 q
      refine v_aload_n C dX3_fewestCaps_54 4 rfl ?_
      refine v_lload C dX3_fewestCaps_55 0 rfl ?_
      refine p_X3_cappedKey C wd_267 dX3_fewestCaps_57 ?_
      have h := h _ rfl
      refine v_aload_n C dX3_fewestCaps_60 4 rfl ?_
      refine v_aload_n C dX3_fewestCaps_61 5 rfl ?_
      refine v_callv C (rn_V C _ (m_X3_survey h1 h) mf_X3_survey wd_700 wd_701 wd_945 rfl rfl ⟨(Nat.le_of_ble_eq_true rfl), (Nat.le_of_ble_eq_true rfl)⟩ rfl rfl rfl rfl (Nat.le_of_ble_eq_true rfl) dX3_fewestCaps_62) (fun w h => ?_)
      refine v_aload_n C dX3_fewestCaps_65 4 rfl ?_
      refine v_iconst C dX3_fewestCaps_66 ?_
      refine v_aload_n C dX3_fewestCaps_67 4 rfl ?_
      refine g_X3_least C wd_256 dX3_fewestCaps_68 ?_
      refine v_imul C dX3_fewestCaps_71 ?_
      refine p_X3_caps C wd_268 dX3_fewestCaps_72 ?_
      have h := h _ rfl
      refine v_aload_n C dX3_fewestCaps_75 4 rfl ?_
      refine v_aload_n C dX3_fewestCaps_76 5 rfl ?_
      refine v_callv C (rn_V C _ (m_X3_beginOrders h1 h) mf_X3_beginOrders wd_709 wp_21 wd_707 rfl rfl ⟨(Nat.le_of_ble_eq_true rfl), (Nat.le_of_ble_eq_true rfl)⟩ rfl rfl rfl rfl (Nat.le_of_ble_eq_true rfl) dX3_fewestCaps_77) (fun w h => ?_)
      refine v_iconst C dX3_fewestCaps_80 ?_
      refine v_aload_n C dX3_fewestCaps_81 5 rfl ?_
      refine v_calli C (rn_V C _ (m_X1_countParts h1 h) mf_X1_countParts wd_738 wd_739 wd_737 rfl rfl ⟨(Nat.le_of_ble_eq_true rfl), (Nat.le_of_ble_eq_true rfl)⟩ h1.1 rfl rfl rfl (Nat.le_of_ble_eq_true rfl) dX3_fewestCaps_82) (fun r w h => ?_)
      refine v_imul C dX3_fewestCaps_85 ?_
      refine v_aload_n C dX3_fewestCaps_86 5 rfl ?_
      refine v_calli C (rn_S C _ (m_X3_eulerWithoutWalks h1 h) mf_X3_eulerWithoutWalks wd_731 wd_730 rfl rfl ⟨(Nat.le_of_ble_eq_true rfl), (Nat.le_of_ble_eq_true rfl)⟩ rfl rfl (Nat.le_of_ble_eq_true rfl) dX3_fewestCaps_87) (fun r w h => ?_)
      refine v_isub C dX3_fewestCaps_90 ?_
      refine v_istore C [(8, _), (6, _), (5, _), (3, _), (2, _), (0, _), (1, _)] dX3_fewestCaps_91 (by decide) rfl ?_
      have h := h _ rfl
      refine v_iconst C dX3_fewestCaps_93 ?_
      refine v_istore C [(9, _), (8, _), (6, _), (5, _), (3, _), (2, _), (0, _), (1, _)] dX3_fewestCaps_94 (by decide) rfl ?_
      refine v_sub [6, 5, 4, 3, 1, 0] rfl ?_
      obtain ⟨m, h⟩ := h
      exact t_X3_fewestCaps_l96 C R h1 (t_X3_fewestCaps_b143 C R h1) m _ _ _ _ _ _ h
    · have h := h.1 q
      refine v_aload_n C dX3_fewestCaps_49 4 rfl ?_
      refine g_X3_caps C wd_268 dX3_fewestCaps_50 ?_
      exact v_iret C R h dX3_fewestCaps_53
  · have h := h.2 q
    refine v_bipush C dX3_fewestCaps_30 (by decide) ?_
    exact v_iret C R h dX3_fewestCaps_32
abbrev rm_X3_lowestBut : Room := { frames := 0, cells := 0, slots := 0, locals := 0 }
theorem mf_X3_lowestBut : MfB yX3_lowestBut cX3_lowestBut 4 (some .int) 2 := ⟨wd_780, wd_7, by decide, by decide, by decide +kernel⟩
def X3_lowestBut_l4 (Q : Int → Wd → Prop) (e22 : Int → Wd → Prop) (e33 : Wd → Prop) : Nat → Int → Int → Int → Wd → Prop
  | 0 => fun _ _ _ _ => False
  | n + 1 => fun x0 x2 x3 w => ((wr 10 ≤ wr x3 → e33 w) ∧ (¬ wr 10 ≤ wr x3 → ((wr (ian (isr x0 x3) 1) = 0 → (X3_lowestBut_l4 Q e22 e33 n) x0 x2 (x3 + 1) w) ∧ (¬ wr (ian (isr x0 x3) 1) = 0 → ((wr x2 = 0 → e22 x3 w) ∧ (¬ wr x2 = 0 → (X3_lowestBut_l4 Q e22 e33 n) x0 (x2 + (-1)) (x3 + 1) w))))))
theorem t_X3_lowestBut_l4 {Z : Zw} {E : Amb} {Q : Int → Wd → Prop} {e22 : Int → Wd → Prop} {e33 : Wd → Prop} (C : Cx Z (adA Z) E cX3_lowestBut "HandleFaces$Orders" 4 rm_X3_lowestBut) (R : Rt Z E (some .int) (qI Z Q)) (he22 : ∀ (x3 : Int) (w : Wd), e22 x3 w → V Z (adA Z) E 4 w 22 [(3, iv x3)] []) (he33 : ∀ (w : Wd), e33 w → V Z (adA Z) E 4 w 33 [] []) : ∀ (n : Nat) (x0 : Int) (x2 : Int) (x3 : Int) (w : Wd), X3_lowestBut_l4 Q e22 e33 n x0 x2 x3 w → V Z (adA Z) E 4 w 4 [(0, iv x0), (2, iv x2), (3, iv x3)] [] := by
  intro n
  induction n with
  | zero => intro x0 x2 x3 w h; exact h.elim
  | succ n ih =>
    intro x0 x2 x3 w h
    unfold X3_lowestBut_l4 at h
    refine v_iload_n C dX3_lowestBut_4 2 rfl ?_
    refine v_bipush C dX3_lowestBut_5 (by decide) ?_
    refine v_icmp_ge C 33 dX3_lowestBut_7 (by decide) (fun q => ?_) (fun q => ?_)
    · have h := h.1 q
      refine v_sub [] rfl ?_
      exact he33 _ h
    · have h := h.2 q
      refine v_iload_n C dX3_lowestBut_10 0 rfl ?_
      refine v_iload_n C dX3_lowestBut_11 2 rfl ?_
      refine v_ishr C dX3_lowestBut_12 ?_
      refine v_iconst C dX3_lowestBut_13 ?_
      refine v_iand C dX3_lowestBut_14 ?_
      refine v_if_eq C 27 dX3_lowestBut_15 (by decide) (fun q => ?_) (fun q => ?_)
      · have h := h.1 q
        refine v_iinc C [(3, _), (0, _), (2, _)] dX3_lowestBut_27 2 rfl (by decide) rfl ?_
        refine v_goto C 4 dX3_lowestBut_30 (by decide) ?_
        refine v_sub [1, 2, 0] rfl ?_
        exact ih _ _ _ _ h
      · have h := h.2 q
        refine v_iload_n C dX3_lowestBut_18 1 rfl ?_
        refine v_if_ne C 24 dX3_lowestBut_19 (by decide) (fun q => ?_) (fun q => ?_)
        · have h := h.2 q
          refine v_iinc C [(2, _), (0, _), (3, _)] dX3_lowestBut_24 1 rfl (by decide) rfl ?_
          refine v_iinc C [(3, _), (2, _), (0, _)] dX3_lowestBut_27 2 rfl (by decide) rfl ?_
          refine v_goto C 4 dX3_lowestBut_30 (by decide) ?_
          refine v_sub [2, 1, 0] rfl ?_
          exact ih _ _ _ _ h
        · have h := h.1 q
          refine v_sub [2] rfl ?_
          exact he22 _ _ h
def X3_lowestBut_b22 (Q : Int → Wd → Prop) (x3 : Int) (w : Wd) : Prop := Q (wr x3) w
theorem t_X3_lowestBut_b22 {Z : Zw} {E : Amb} {Q : Int → Wd → Prop} (C : Cx Z (adA Z) E cX3_lowestBut "HandleFaces$Orders" 4 rm_X3_lowestBut) (R : Rt Z E (some .int) (qI Z Q)) : ∀ (x3 : Int) (w : Wd), X3_lowestBut_b22 Q x3 w → V Z (adA Z) E 4 w 22 [(3, iv x3)] [] := by
  intro x3 w h
  unfold X3_lowestBut_b22 at h
  refine v_iload_n C dX3_lowestBut_22 0 rfl ?_
  exact v_iret C R h dX3_lowestBut_23
def X3_lowestBut_b33 (Q : Int → Wd → Prop) (w : Wd) : Prop := Q (wr 0) w
theorem t_X3_lowestBut_b33 {Z : Zw} {E : Amb} {Q : Int → Wd → Prop} (C : Cx Z (adA Z) E cX3_lowestBut "HandleFaces$Orders" 4 rm_X3_lowestBut) (R : Rt Z E (some .int) (qI Z Q)) : ∀ (w : Wd), X3_lowestBut_b33 Q w → V Z (adA Z) E 4 w 33 [] [] := by
  intro w h
  unfold X3_lowestBut_b33 at h
  refine v_iconst C dX3_lowestBut_33 ?_
  exact v_iret C R h dX3_lowestBut_34
def X3_lowestBut (x0 : Int) (x1 : Int) (w : Wd) (Q : Int → Wd → Prop) : Prop := (∃ m, X3_lowestBut_l4 Q (X3_lowestBut_b22 Q) (X3_lowestBut_b33 Q) m x0 x1 0 w)
theorem m_X3_lowestBut {Z : Zw} {l : Launch} {x0 : Int} {x1 : Int} {w : Wd} {Q : Int → Wd → Prop} (h : X3_lowestBut x0 x1 w Q) : CtQ Z l yX3_lowestBut cX3_lowestBut 4 (some .int) rm_X3_lowestBut [iv x0, iv x1] w (qI Z Q) := by
  refine ct_of (by decide) (Nat.le_of_ble_eq_true rfl) (fun E eE C R => ?_)
  subst eE
  have C : Cx Z (adA Z) E cX3_lowestBut "HandleFaces$Orders" 4 rm_X3_lowestBut := C
  unfold X3_lowestBut at h
  show V Z (adA Z) E 4 w 0 [(0, iv x0), (1, iv x1)] []
  refine v_iload_n C dX3_lowestBut_0 1 rfl ?_
  refine v_istore_n C [(2, _), (0, _), (1, _)] dX3_lowestBut_1 2 rfl (by decide) rfl ?_
  refine v_iconst C dX3_lowestBut_2 ?_
  refine v_istore_n C [(3, _), (2, _), (0, _), (1, _)] dX3_lowestBut_3 3 rfl (by decide) rfl ?_
  refine v_sub [2, 1, 0] rfl ?_
  obtain ⟨m, h⟩ := h
  exact t_X3_lowestBut_l4 C R (t_X3_lowestBut_b22 C R) (t_X3_lowestBut_b33 C R) m _ _ _ _ h
abbrev rm_X3_lineInOrder : Room := { frames := 2, cells := 0, slots := 0, locals := 41 }
theorem mf_X3_lineInOrder : MfB yX3_lineInOrder cX3_lineInOrder 12 (some .int) 4 := ⟨wd_776, wd_7, by decide, by decide, by decide +kernel⟩
def X3_lineInOrder_l8 (r0 : Nat) (Q : Int → Wd → Prop) (e35 : Int → Int → Int → Int → Wd → Prop) : Nat → Int → Int → Int → Int → Int → Wd → Prop
  | 0 => fun _ _ _ _ _ _ => False
  | n + 1 => fun x1 x2 x3 x4 x6 w => ((wr (w r0 0) ≤ wr x6 → e35 x1 x2 x3 x4 w) ∧ (¬ wr (w r0 0) ≤ wr x6 → X3_ordersOf r0 x6 w (fun y3 w2 => (∀ y4, y4 = (x4 * (wr y3)) → (X3_lineInOrder_l8 r0 Q e35 n) x1 x2 x3 y4 (x6 + 1) w2))))
theorem t_X3_lineInOrder_l8 {Z : Zw} {E : Amb} {r0 : Nat} {Q : Int → Wd → Prop} {e35 : Int → Int → Int → Int → Wd → Prop} (C : Cx Z (adA Z) E cX3_lineInOrder "HandleFaces$Orders" 12 rm_X3_lineInOrder) (R : Rt Z E (some .int) (qI Z Q)) (h0 : sX1 r0) (he35 : ∀ (x1 : Int) (x2 : Int) (x3 : Int) (x4 : Int) (w : Wd), e35 x1 x2 x3 x4 w → V Z (adA Z) E 12 w 35 [(0, rv Z r0), (1, iv x1), (2, iv x2), (3, iv x3), (4, jv x4)] []) : ∀ (n : Nat) (x1 : Int) (x2 : Int) (x3 : Int) (x4 : Int) (x6 : Int) (w : Wd), X3_lineInOrder_l8 r0 Q e35 n x1 x2 x3 x4 x6 w → V Z (adA Z) E 12 w 8 [(0, rv Z r0), (1, iv x1), (2, iv x2), (3, iv x3), (4, jv x4), (6, iv x6)] [] := by
  intro n
  induction n with
  | zero => intro x1 x2 x3 x4 x6 w h; exact h.elim
  | succ n ih =>
    intro x1 x2 x3 x4 x6 w h
    unfold X3_lineInOrder_l8 at h
    refine v_iload C dX3_lineInOrder_8 5 rfl ?_
    refine v_aload_n C dX3_lineInOrder_10 0 rfl ?_
    refine g_X1_posts C h0 wd_36 dX3_lineInOrder_11 ?_
    refine v_icmp_ge C 35 dX3_lineInOrder_14 (by decide) (fun q => ?_) (fun q => ?_)
    · have h := h.1 q
      refine v_sub [0, 1, 2, 3, 4] rfl ?_
      exact he35 _ _ _ _ _ h
    · have h := h.2 q
      refine v_lload C dX3_lineInOrder_17 4 rfl ?_
      refine v_aload_n C dX3_lineInOrder_19 0 rfl ?_
      refine v_iload C dX3_lineInOrder_20 5 rfl ?_
      refine v_calli C (rn_S C _ (m_X3_ordersOf h0 h) mf_X3_ordersOf wd_691 wd_690 rfl rfl ⟨(Nat.le_of_ble_eq_true rfl), (Nat.le_of_ble_eq_true rfl)⟩ rfl rfl (Nat.le_of_ble_eq_true rfl) dX3_lineInOrder_22) (fun r w h => ?_)
      refine v_i2l C dX3_lineInOrder_25 ?_
      refine v_lmul C dX3_lineInOrder_26 ?_
      refine v_lstore C [(4, _), (0, _), (1, _), (2, _), (3, _), (6, _)] dX3_lineInOrder_27 (by decide) rfl ?_
      have h := h _ rfl
      refine v_iinc C [(6, _), (4, _), (0, _), (1, _), (2, _), (3, _)] dX3_lineInOrder_29 5 rfl (by decide) rfl ?_
      refine v_goto C 8 dX3_lineInOrder_32 (by decide) ?_
      refine v_sub [2, 3, 4, 5, 1, 0] rfl ?_
      exact ih _ _ _ _ _ _ h
def X3_lineInOrder_l74 (r0 : Nat) (Q : Int → Wd → Prop) (e105 : Int → Int → Int → Int → Wd → Prop) : Nat → Int → Int → Int → Int → Int → Wd → Prop
  | 0 => fun _ _ _ _ _ _ => False
  | n + 1 => fun x2 x3 x7 x8 x9 w => (ix x2 6 ∧ ((wr (rd w (r0 + 2) x2) ≤ wr x9 → e105 x2 x3 x7 x8 w) ∧ (¬ wr (rd w (r0 + 2) x2) ≤ wr x9 → X1_lineAt r0 x2 x9 w (fun y9 w8 => (∀ y10, y10 = (ior x8 (isl 1 y9)) → (X3_lineInOrder_l74 r0 Q e105 n) x2 x3 x7 y10 (x9 + 1) w8)))))
theorem t_X3_lineInOrder_l74 {Z : Zw} {E : Amb} {r0 : Nat} {Q : Int → Wd → Prop} {e105 : Int → Int → Int → Int → Wd → Prop} (C : Cx Z (adA Z) E cX3_lineInOrder "HandleFaces$Orders" 12 rm_X3_lineInOrder) (R : Rt Z E (some .int) (qI Z Q)) (h0 : sX1 r0) (he105 : ∀ (x2 : Int) (x3 : Int) (x7 : Int) (x8 : Int) (w : Wd), e105 x2 x3 x7 x8 w → V Z (adA Z) E 12 w 105 [(0, rv Z r0), (2, iv x2), (3, iv x3), (7, iv x7), (8, iv x8)] []) : ∀ (n : Nat) (x2 : Int) (x3 : Int) (x7 : Int) (x8 : Int) (x9 : Int) (w : Wd), X3_lineInOrder_l74 r0 Q e105 n x2 x3 x7 x8 x9 w → V Z (adA Z) E 12 w 74 [(0, rv Z r0), (2, iv x2), (3, iv x3), (7, iv x7), (8, iv x8), (9, iv x9)] [] := by
  intro n
  induction n with
  | zero => intro x2 x3 x7 x8 x9 w h; exact h.elim
  | succ n ih =>
    intro x2 x3 x7 x8 x9 w h
    unfold X3_lineInOrder_l74 at h
    refine v_iload C dX3_lineInOrder_74 5 rfl ?_
    refine v_aload_n C dX3_lineInOrder_76 0 rfl ?_
    refine g_X1_degrees C h0 wd_65 dX3_lineInOrder_77 ?_
    refine v_iload_n C dX3_lineInOrder_80 1 rfl ?_
    refine v_iald C h0.2.2.1 h.1 dX3_lineInOrder_81 ?_
    have h := h.2
    refine v_icmp_ge C 105 dX3_lineInOrder_82 (by decide) (fun q => ?_) (fun q => ?_)
    · have h := h.1 q
      refine v_sub [0, 1, 2, 3, 4] rfl ?_
      exact he105 _ _ _ _ _ h
    · have h := h.2 q
      refine v_iload C dX3_lineInOrder_85 4 rfl ?_
      refine v_iconst C dX3_lineInOrder_87 ?_
      refine v_aload_n C dX3_lineInOrder_88 0 rfl ?_
      refine v_iload_n C dX3_lineInOrder_89 1 rfl ?_
      refine v_iload C dX3_lineInOrder_90 5 rfl ?_
      refine v_calli C (rn_V C _ (m_X1_lineAt h0 h) mf_X1_lineAt wd_647 wd_648 wd_777 rfl rfl ⟨(Nat.le_of_ble_eq_true rfl), (Nat.le_of_ble_eq_true rfl)⟩ h0.1 rfl rfl rfl (Nat.le_of_ble_eq_true rfl) dX3_lineInOrder_92) (fun r w h => ?_)
      refine v_ishl C dX3_lineInOrder_95 ?_
      refine v_ior C dX3_lineInOrder_96 ?_
      refine v_istore C [(8, _), (0, _), (2, _), (3, _), (7, _), (9, _)] dX3_lineInOrder_97 (by decide) rfl ?_
      have h := h _ rfl
      refine v_iinc C [(9, _), (8, _), (0, _), (2, _), (3, _), (7, _)] dX3_lineInOrder_99 5 rfl (by decide) rfl ?_
      refine v_goto C 74 dX3_lineInOrder_102 (by decide) ?_
      refine v_sub [2, 3, 4, 5, 1, 0] rfl ?_
      exact ih _ _ _ _ _ _ h
def X3_lineInOrder_l116 (r0 : Nat) (Q : Int → Wd → Prop) (e178 : Int → Wd → Prop) : Nat → Int → Int → Int → Int → Int → Int → Wd → Prop
  | 0 => fun _ _ _ _ _ _ _ => False
  | n + 1 => fun x2 x3 x7 x8 x9 x10 w => ((wr x3 < wr x10 → e178 x9 w) ∧ (¬ wr x3 < wr x10 → (∀ y13, y13 = (ian x8 (ixo (isl 1 x9) (-1))) → (ix x2 6 ∧ X3_factorial (((rd w (r0 + 2) x2) - 1) - x10) w (fun y15 w14 => (∀ y16, y16 = (imx 1 y15) → (¬ wr y16 = 0 ∧ X3_lowestBut y13 (idv x7 y16) w14 (fun y18 w17 => (¬ wr y16 = 0 ∧ (∀ y19, y19 = (irm x7 y16) → (X3_lineInOrder_l116 r0 Q e178 n) x2 x3 y19 y13 y18 (x10 + 1) w17))))))))))
theorem t_X3_lineInOrder_l116 {Z : Zw} {E : Amb} {r0 : Nat} {Q : Int → Wd → Prop} {e178 : Int → Wd → Prop} (C : Cx Z (adA Z) E cX3_lineInOrder "HandleFaces$Orders" 12 rm_X3_lineInOrder) (R : Rt Z E (some .int) (qI Z Q)) (h0 : sX1 r0) (he178 : ∀ (x9 : Int) (w : Wd), e178 x9 w → V Z (adA Z) E 12 w 178 [(9, iv x9)] []) : ∀ (n : Nat) (x2 : Int) (x3 : Int) (x7 : Int) (x8 : Int) (x9 : Int) (x10 : Int) (w : Wd), X3_lineInOrder_l116 r0 Q e178 n x2 x3 x7 x8 x9 x10 w → V Z (adA Z) E 12 w 116 [(0, rv Z r0), (2, iv x2), (3, iv x3), (7, iv x7), (8, iv x8), (9, iv x9), (10, iv x10)] [] := by
  intro n
  induction n with
  | zero => intro x2 x3 x7 x8 x9 x10 w h; exact h.elim
  | succ n ih =>
    intro x2 x3 x7 x8 x9 x10 w h
    unfold X3_lineInOrder_l116 at h
    refine v_iload C dX3_lineInOrder_116 6 rfl ?_
    refine v_iload_n C dX3_lineInOrder_118 2 rfl ?_
    refine v_icmp_gt C 178 dX3_lineInOrder_119 (by decide) (fun q => ?_) (fun q => ?_)
    · have h := h.1 q
      refine v_sub [5] rfl ?_
      exact he178 _ _ h
    · have h := h.2 q
      refine v_iload C dX3_lineInOrder_122 4 rfl ?_
      refine v_iconst C dX3_lineInOrder_124 ?_
      refine v_iload C dX3_lineInOrder_125 5 rfl ?_
      refine v_ishl C dX3_lineInOrder_127 ?_
      refine v_iconst C dX3_lineInOrder_128 ?_
      refine v_ixor C dX3_lineInOrder_129 ?_
      refine v_iand C dX3_lineInOrder_130 ?_
      refine v_istore C [(8, _), (0, _), (2, _), (3, _), (7, _), (9, _), (10, _)] dX3_lineInOrder_131 (by decide) rfl ?_
      have h := h _ rfl
      refine v_iconst C dX3_lineInOrder_133 ?_
      refine v_aload_n C dX3_lineInOrder_134 1 rfl ?_
      refine g_X1_degrees C h0 wd_65 dX3_lineInOrder_135 ?_
      refine v_iload_n C dX3_lineInOrder_138 2 rfl ?_
      refine v_iald C h0.2.2.1 h.1 dX3_lineInOrder_139 ?_
      have h := h.2
      refine v_iconst C dX3_lineInOrder_140 ?_
      refine v_isub C dX3_lineInOrder_141 ?_
      refine v_iload C dX3_lineInOrder_142 6 rfl ?_
      refine v_isub C dX3_lineInOrder_144 ?_
      refine v_calli C (rn_S C _ (m_X3_factorial h) mf_X3_factorial wd_694 wd_693 rfl rfl ⟨(Nat.le_of_ble_eq_true rfl), (Nat.le_of_ble_eq_true rfl)⟩ rfl rfl (Nat.le_of_ble_eq_true rfl) dX3_lineInOrder_145) (fun r w h => ?_)
      refine v_mmax C wd_758 wd_350 wd_12 wd_351 (Nat.le_of_ble_eq_true rfl) (Nat.le_of_ble_eq_true rfl) dX3_lineInOrder_148 ?_
      refine v_istore C [(11, _), (8, _), (0, _), (2, _), (3, _), (7, _), (9, _), (10, _)] dX3_lineInOrder_151 (by decide) rfl ?_
      have h := h _ rfl
      refine v_iload C dX3_lineInOrder_153 1 rfl ?_
      refine v_iload C dX3_lineInOrder_155 5 rfl ?_
      refine v_iload C dX3_lineInOrder_157 0 rfl ?_
      refine v_idiv C dX3_lineInOrder_159 h.1 ?_
      have h := h.2
      refine v_calli C (rn_S C _ (m_X3_lowestBut h) mf_X3_lowestBut wd_779 wd_778 rfl rfl ⟨(Nat.le_of_ble_eq_true rfl), (Nat.le_of_ble_eq_true rfl)⟩ rfl rfl (Nat.le_of_ble_eq_true rfl) dX3_lineInOrder_160) (fun r w h => ?_)
      refine v_istore C [(9, _), (11, _), (8, _), (0, _), (2, _), (3, _), (7, _), (10, _)] dX3_lineInOrder_163 (by decide) rfl ?_
      refine v_iload C dX3_lineInOrder_165 6 rfl ?_
      refine v_iload C dX3_lineInOrder_167 1 rfl ?_
      refine v_irem C dX3_lineInOrder_169 h.1 ?_
      have h := h.2
      refine v_istore C [(7, _), (9, _), (11, _), (8, _), (0, _), (2, _), (3, _), (10, _)] dX3_lineInOrder_170 (by decide) rfl ?_
      have h := h _ rfl
      refine v_iinc C [(10, _), (7, _), (9, _), (11, _), (8, _), (0, _), (2, _), (3, _)] dX3_lineInOrder_172 7 rfl (by decide) rfl ?_
      refine v_goto C 116 dX3_lineInOrder_175 (by decide) ?_
      refine v_sub [5, 6, 7, 1, 4, 2, 0] rfl ?_
      exact ih _ _ _ _ _ _ _ h
def X3_lineInOrder_b178 (r0 : Nat) (Q : Int → Wd → Prop) (x9 : Int) (w : Wd) : Prop := Q (wr x9) w
theorem t_X3_lineInOrder_b178 {Z : Zw} {E : Amb} {r0 : Nat} {Q : Int → Wd → Prop} (C : Cx Z (adA Z) E cX3_lineInOrder "HandleFaces$Orders" 12 rm_X3_lineInOrder) (R : Rt Z E (some .int) (qI Z Q)) (h0 : sX1 r0) : ∀ (x9 : Int) (w : Wd), X3_lineInOrder_b178 r0 Q x9 w → V Z (adA Z) E 12 w 178 [(9, iv x9)] [] := by
  intro x9 w h
  unfold X3_lineInOrder_b178 at h
  refine v_iload C dX3_lineInOrder_178 0 rfl ?_
  exact v_iret C R h dX3_lineInOrder_180
def X3_lineInOrder_b105 (r0 : Nat) (Q : Int → Wd → Prop) (x2 : Int) (x3 : Int) (x7 : Int) (x8 : Int) (w : Wd) : Prop := X3_lowestBut x8 0 w (fun y12 w11 => (∃ m, X3_lineInOrder_l116 r0 Q (X3_lineInOrder_b178 r0 Q) m x2 x3 x7 x8 y12 1 w11))
theorem t_X3_lineInOrder_b105 {Z : Zw} {E : Amb} {r0 : Nat} {Q : Int → Wd → Prop} (C : Cx Z (adA Z) E cX3_lineInOrder "HandleFaces$Orders" 12 rm_X3_lineInOrder) (R : Rt Z E (some .int) (qI Z Q)) (h0 : sX1 r0) : ∀ (x2 : Int) (x3 : Int) (x7 : Int) (x8 : Int) (w : Wd), X3_lineInOrder_b105 r0 Q x2 x3 x7 x8 w → V Z (adA Z) E 12 w 105 [(0, rv Z r0), (2, iv x2), (3, iv x3), (7, iv x7), (8, iv x8)] [] := by
  intro x2 x3 x7 x8 w h
  unfold X3_lineInOrder_b105 at h
  refine v_iload C dX3_lineInOrder_105 4 rfl ?_
  refine v_iconst C dX3_lineInOrder_107 ?_
  refine v_calli C (rn_S C _ (m_X3_lowestBut h) mf_X3_lowestBut wd_779 wd_778 rfl rfl ⟨(Nat.le_of_ble_eq_true rfl), (Nat.le_of_ble_eq_true rfl)⟩ rfl rfl (Nat.le_of_ble_eq_true rfl) dX3_lineInOrder_108) (fun r w h => ?_)
  refine v_istore C [(9, _), (0, _), (2, _), (3, _), (7, _), (8, _)] dX3_lineInOrder_111 (by decide) rfl ?_
  refine v_iconst C dX3_lineInOrder_113 ?_
  refine v_istore C [(10, _), (9, _), (0, _), (2, _), (3, _), (7, _), (8, _)] dX3_lineInOrder_114 (by decide) rfl ?_
  refine v_sub [2, 3, 4, 5, 6, 1, 0] rfl ?_
  obtain ⟨m, h⟩ := h
  exact t_X3_lineInOrder_l116 C R h0 (t_X3_lineInOrder_b178 C R h0) m _ _ _ _ _ _ _ h
def X3_lineInOrder_b35 (r0 : Nat) (Q : Int → Wd → Prop) (x1 : Int) (x2 : Int) (x3 : Int) (x4 : Int) (w : Wd) : Prop := X3_ordersOf r0 x2 w (fun y6 w5 => ((wr (lcm x4 0) ≤ 0 → Q (wr (-1)) w5) ∧ (¬ wr (lcm x4 0) ≤ 0 → ((0 < wr y6 → (¬ wl x4 = 0 ∧ (¬ wl (wr y6) = 0 ∧ (∀ y7, y7 = (lrm (ldv (wr x1) x4) (wr y6)) → (∃ m, X3_lineInOrder_l74 r0 Q (X3_lineInOrder_b105 r0 Q) m x2 x3 y7 0 0 w5))))) ∧ (¬ 0 < wr y6 → Q (wr (-1)) w5)))))
theorem t_X3_lineInOrder_b35 {Z : Zw} {E : Amb} {r0 : Nat} {Q : Int → Wd → Prop} (C : Cx Z (adA Z) E cX3_lineInOrder "HandleFaces$Orders" 12 rm_X3_lineInOrder) (R : Rt Z E (some .int) (qI Z Q)) (h0 : sX1 r0) : ∀ (x1 : Int) (x2 : Int) (x3 : Int) (x4 : Int) (w : Wd), X3_lineInOrder_b35 r0 Q x1 x2 x3 x4 w → V Z (adA Z) E 12 w 35 [(0, rv Z r0), (1, iv x1), (2, iv x2), (3, iv x3), (4, jv x4)] [] := by
  intro x1 x2 x3 x4 w h
  unfold X3_lineInOrder_b35 at h
  refine v_aload_n C dX3_lineInOrder_35 0 rfl ?_
  refine v_iload_n C dX3_lineInOrder_36 2 rfl ?_
  refine v_calli C (rn_S C _ (m_X3_ordersOf h0 h) mf_X3_ordersOf wd_691 wd_690 rfl rfl ⟨(Nat.le_of_ble_eq_true rfl), (Nat.le_of_ble_eq_true rfl)⟩ rfl rfl (Nat.le_of_ble_eq_true rfl) dX3_lineInOrder_37) (fun r w h => ?_)
  refine v_istore C [(6, _), (0, _), (1, _), (2, _), (3, _), (4, _)] dX3_lineInOrder_40 (by decide) rfl ?_
  refine v_lload C dX3_lineInOrder_42 5 rfl ?_
  refine v_lconst (x := 0) C dX3_lineInOrder_44 (by decide) ?_
  refine v_lcmp C dX3_lineInOrder_45 ?_
  refine v_if_le C 54 dX3_lineInOrder_46 (by decide) (fun q => ?_) (fun q => ?_)
  · have h := h.1 q
    refine v_iconst C dX3_lineInOrder_54 ?_
    exact v_iret C R h dX3_lineInOrder_55
  · have h := h.2 q
    refine v_iload C dX3_lineInOrder_49 0 rfl ?_
    refine v_if_gt C 56 dX3_lineInOrder_51 (by decide) (fun q => ?_) (fun q => ?_)
    · have h := h.1 q
      refine v_iload_n C dX3_lineInOrder_56 2 rfl ?_
      refine v_i2l C dX3_lineInOrder_57 ?_
      refine v_lload C dX3_lineInOrder_58 5 rfl ?_
      refine v_ldiv C dX3_lineInOrder_60 h.1 ?_
      have h := h.2
      refine v_iload C dX3_lineInOrder_61 0 rfl ?_
      refine v_i2l C dX3_lineInOrder_63 ?_
      refine v_lrem C dX3_lineInOrder_64 h.1 ?_
      have h := h.2
      refine v_l2i C dX3_lineInOrder_65 ?_
      refine v_istore C [(7, _), (6, _), (0, _), (1, _), (2, _), (3, _), (4, _)] dX3_lineInOrder_66 (by decide) rfl ?_
      have h := h _ rfl
      refine v_iconst C dX3_lineInOrder_68 ?_
      refine v_istore C [(8, _), (7, _), (6, _), (0, _), (1, _), (2, _), (3, _), (4, _)] dX3_lineInOrder_69 (by decide) rfl ?_
      refine v_iconst C dX3_lineInOrder_71 ?_
      refine v_istore C [(9, _), (8, _), (7, _), (6, _), (0, _), (1, _), (2, _), (3, _), (4, _)] dX3_lineInOrder_72 (by decide) rfl ?_
      refine v_sub [4, 6, 7, 2, 1, 0] rfl ?_
      obtain ⟨m, h⟩ := h
      exact t_X3_lineInOrder_l74 C R h0 (t_X3_lineInOrder_b105 C R h0) m _ _ _ _ _ _ h
    · have h := h.2 q
      refine v_iconst C dX3_lineInOrder_54 ?_
      exact v_iret C R h dX3_lineInOrder_55
def X3_lineInOrder (r0 : Nat) (x1 : Int) (x2 : Int) (x3 : Int) (w : Wd) (Q : Int → Wd → Prop) : Prop := (∀ y1, y1 = (x2 + 1) → (∃ m, X3_lineInOrder_l8 r0 Q (X3_lineInOrder_b35 r0 Q) m x1 x2 x3 1 y1 w))
theorem m_X3_lineInOrder {Z : Zw} {l : Launch} {r0 : Nat} {x1 : Int} {x2 : Int} {x3 : Int} {w : Wd} {Q : Int → Wd → Prop} (h0 : sX1 r0) (h : X3_lineInOrder r0 x1 x2 x3 w Q) : CtQ Z l yX3_lineInOrder cX3_lineInOrder 12 (some .int) rm_X3_lineInOrder [rv Z r0, iv x1, iv x2, iv x3] w (qI Z Q) := by
  refine ct_of (by decide) (Nat.le_of_ble_eq_true rfl) (fun E eE C R => ?_)
  subst eE
  have C : Cx Z (adA Z) E cX3_lineInOrder "HandleFaces$Orders" 12 rm_X3_lineInOrder := C
  unfold X3_lineInOrder at h
  show V Z (adA Z) E 12 w 0 [(0, rv Z r0), (1, iv x1), (2, iv x2), (3, iv x3)] []
  refine v_lconst (x := 1) C dX3_lineInOrder_0 (by decide) ?_
  refine v_lstore C [(4, _), (0, _), (1, _), (2, _), (3, _)] dX3_lineInOrder_1 (by decide) rfl ?_
  refine v_iload_n C dX3_lineInOrder_3 3 rfl ?_
  refine v_iconst C dX3_lineInOrder_4 ?_
  refine v_iadd C dX3_lineInOrder_5 ?_
  refine v_istore C [(6, _), (4, _), (0, _), (1, _), (2, _), (3, _)] dX3_lineInOrder_6 (by decide) rfl ?_
  have h := h _ rfl
  refine v_sub [2, 3, 4, 5, 1, 0] rfl ?_
  obtain ⟨m, h⟩ := h
  exact t_X3_lineInOrder_l8 C R h0 (t_X3_lineInOrder_b35 C R h0) m _ _ _ _ _ _ h
abbrev rm_X3_setOrder : Room := { frames := 3, cells := 0, slots := 0, locals := 72 }
theorem mf_X3_setOrder : MfB yX3_setOrder cX3_setOrder 5 none 2 := ⟨wd_773, wd_7, by decide, by decide, by decide +kernel⟩
def X3_setOrder_l26 (r1 : Nat) (Q : Wd → Prop) (e66 : Int → Int → Wd → Prop) : Nat → Int → Int → Int → Wd → Prop
  | 0 => fun _ _ _ _ => False
  | n + 1 => fun x2 x3 x4 w => (ix x3 6 ∧ ((wr (rd w (r1 + 2) x3) ≤ wr x4 → e66 x2 x3 w) ∧ (¬ wr (rd w (r1 + 2) x3) ≤ wr x4 → X3_lineInOrder 42 x2 x3 x4 w (fun y4 w3 => (ix ((x3 * 10) + x4) 60 ∧ (∀ w5, w5 = wt w3 (r1 + 3) ((x3 * 10) + x4) y4 → (X3_setOrder_l26 r1 Q e66 n) x2 x3 (x4 + 1) w5))))))
theorem t_X3_setOrder_l26 {Z : Zw} {E : Amb} {r1 : Nat} {Q : Wd → Prop} {e66 : Int → Int → Wd → Prop} (C : Cx Z (adA Z) E cX3_setOrder "HandleFaces$Orders" 5 rm_X3_setOrder) (R : Rt Z E none (qV Z Q)) (h1 : sX1 r1) (he66 : ∀ (x2 : Int) (x3 : Int) (w : Wd), e66 x2 x3 w → V Z (adA Z) E 5 w 66 [(0, rv Z 40), (1, rv Z r1), (2, iv x2), (3, iv x3)] []) : ∀ (n : Nat) (x2 : Int) (x3 : Int) (x4 : Int) (w : Wd), X3_setOrder_l26 r1 Q e66 n x2 x3 x4 w → V Z (adA Z) E 5 w 26 [(0, rv Z 40), (1, rv Z r1), (2, iv x2), (3, iv x3), (4, iv x4)] [] := by
  intro n
  induction n with
  | zero => intro x2 x3 x4 w h; exact h.elim
  | succ n ih =>
    intro x2 x3 x4 w h
    unfold X3_setOrder_l26 at h
    refine v_iload C dX3_setOrder_26 4 rfl ?_
    refine v_aload_n C dX3_setOrder_28 1 rfl ?_
    refine g_X1_degrees C h1 wd_65 dX3_setOrder_29 ?_
    refine v_iload_n C dX3_setOrder_32 3 rfl ?_
    refine v_iald C h1.2.2.1 h.1 dX3_setOrder_33 ?_
    have h := h.2
    refine v_icmp_ge C 66 dX3_setOrder_34 (by decide) (fun q => ?_) (fun q => ?_)
    · have h := h.1 q
      refine v_sub [0, 1, 2, 3] rfl ?_
      exact he66 _ _ _ h
    · have h := h.2 q
      refine v_aload_n C dX3_setOrder_37 1 rfl ?_
      refine g_X1_rounds C h1 wd_72 dX3_setOrder_38 ?_
      refine v_iload_n C dX3_setOrder_41 3 rfl ?_
      refine v_bipush C dX3_setOrder_42 (by decide) ?_
      refine v_imul C dX3_setOrder_44 ?_
      refine v_iload C dX3_setOrder_45 4 rfl ?_
      refine v_iadd C dX3_setOrder_47 ?_
      refine v_aload_n C dX3_setOrder_48 0 rfl ?_
      refine g_X3_hand C wd_264 dX3_setOrder_49 ?_
      refine v_iload_n C dX3_setOrder_52 2 rfl ?_
      refine v_iload_n C dX3_setOrder_53 3 rfl ?_
      refine v_iload C dX3_setOrder_54 4 rfl ?_
      refine v_calli C (rn_S C _ (m_X3_lineInOrder s_X1_42 h) mf_X3_lineInOrder wd_775 wd_774 rfl rfl ⟨(Nat.le_of_ble_eq_true rfl), (Nat.le_of_ble_eq_true rfl)⟩ rfl rfl (Nat.le_of_ble_eq_true rfl) dX3_setOrder_56) (fun r w h => ?_)
      refine v_iast C h1.2.2.2 h.1 dX3_setOrder_59 ?_
      have h := h.2
      have h := h _ rfl
      refine v_iinc C [(4, _), (0, _), (1, _), (2, _), (3, _)] dX3_setOrder_60 4 rfl (by decide) rfl ?_
      refine v_goto C 26 dX3_setOrder_63 (by decide) ?_
      refine v_sub [1, 2, 3, 4, 0] rfl ?_
      exact ih _ _ _ _ h
def X3_setOrder_b66 (r1 : Nat) (Q : Wd → Prop) (c15 : Int → Int → Wd → Prop) (e72 : Wd → Prop) (x2 : Int) (x3 : Int) (w : Wd) : Prop := c15 x2 (x3 + 1) w
theorem t_X3_setOrder_b66 {Z : Zw} {E : Amb} {r1 : Nat} {Q : Wd → Prop} {c15 : Int → Int → Wd → Prop} {e72 : Wd → Prop} (C : Cx Z (adA Z) E cX3_setOrder "HandleFaces$Orders" 5 rm_X3_setOrder) (R : Rt Z E none (qV Z Q)) (h1 : sX1 r1) (hc15 : ∀ (x2 : Int) (x3 : Int) (w : Wd), c15 x2 x3 w → V Z (adA Z) E 5 w 15 [(0, rv Z 40), (1, rv Z r1), (2, iv x2), (3, iv x3)] []) (he72 : ∀ (w : Wd), e72 w → V Z (adA Z) E 5 w 72 [] []) : ∀ (x2 : Int) (x3 : Int) (w : Wd), X3_setOrder_b66 r1 Q c15 e72 x2 x3 w → V Z (adA Z) E 5 w 66 [(0, rv Z 40), (1, rv Z r1), (2, iv x2), (3, iv x3)] [] := by
  intro x2 x3 w h
  unfold X3_setOrder_b66 at h
  refine v_iinc C [(3, _), (0, _), (1, _), (2, _)] dX3_setOrder_66 3 rfl (by decide) rfl ?_
  refine v_goto C 15 dX3_setOrder_69 (by decide) ?_
  refine v_sub [1, 2, 3, 0] rfl ?_
  exact hc15 _ _ _ h
def X3_setOrder_l15 (r1 : Nat) (Q : Wd → Prop) (e72 : Wd → Prop) : Nat → Int → Int → Wd → Prop
  | 0 => fun _ _ _ => False
  | n + 1 => fun x2 x3 w => ((wr (w r1 0) ≤ wr x3 → e72 w) ∧ (¬ wr (w r1 0) ≤ wr x3 → (∃ m, X3_setOrder_l26 r1 Q (X3_setOrder_b66 r1 Q (X3_setOrder_l15 r1 Q e72 n) e72) m x2 x3 0 w)))
theorem t_X3_setOrder_l15 {Z : Zw} {E : Amb} {r1 : Nat} {Q : Wd → Prop} {e72 : Wd → Prop} (C : Cx Z (adA Z) E cX3_setOrder "HandleFaces$Orders" 5 rm_X3_setOrder) (R : Rt Z E none (qV Z Q)) (h1 : sX1 r1) (he72 : ∀ (w : Wd), e72 w → V Z (adA Z) E 5 w 72 [] []) : ∀ (n : Nat) (x2 : Int) (x3 : Int) (w : Wd), X3_setOrder_l15 r1 Q e72 n x2 x3 w → V Z (adA Z) E 5 w 15 [(0, rv Z 40), (1, rv Z r1), (2, iv x2), (3, iv x3)] [] := by
  intro n
  induction n with
  | zero => intro x2 x3 w h; exact h.elim
  | succ n ih =>
    intro x2 x3 w h
    unfold X3_setOrder_l15 at h
    refine v_iload_n C dX3_setOrder_15 3 rfl ?_
    refine v_aload_n C dX3_setOrder_16 1 rfl ?_
    refine g_X1_posts C h1 wd_36 dX3_setOrder_17 ?_
    refine v_icmp_ge C 72 dX3_setOrder_20 (by decide) (fun q => ?_) (fun q => ?_)
    · have h := h.1 q
      refine v_sub [] rfl ?_
      exact he72 _ h
    · have h := h.2 q
      refine v_iconst C dX3_setOrder_23 ?_
      refine v_istore C [(4, _), (0, _), (1, _), (2, _), (3, _)] dX3_setOrder_24 (by decide) rfl ?_
      refine v_sub [1, 2, 3, 4, 0] rfl ?_
      obtain ⟨m, h⟩ := h
      exact t_X3_setOrder_l26 C R h1 (t_X3_setOrder_b66 C R h1 ih he72) m _ _ _ _ h
def X3_setOrder_b72 (r1 : Nat) (Q : Wd → Prop) (w : Wd) : Prop := Q w
theorem t_X3_setOrder_b72 {Z : Zw} {E : Amb} {r1 : Nat} {Q : Wd → Prop} (C : Cx Z (adA Z) E cX3_setOrder "HandleFaces$Orders" 5 rm_X3_setOrder) (R : Rt Z E none (qV Z Q)) (h1 : sX1 r1) : ∀ (w : Wd), X3_setOrder_b72 r1 Q w → V Z (adA Z) E 5 w 72 [] [] := by
  intro w h
  unfold X3_setOrder_b72 at h
  exact v_ret C R h dX3_setOrder_72
def X3_setOrder (r1 : Nat) (x2 : Int) (w : Wd) (Q : Wd → Prop) : Prop := (∀ w1, w1 = up w r1 2 0 → X1_become 42 r1 w1 (fun w2 => (∃ m, X3_setOrder_l15 r1 Q (X3_setOrder_b72 r1 Q) m x2 0 w2)))
theorem m_X3_setOrder {Z : Zw} {l : Launch} {r1 : Nat} {x2 : Int} {w : Wd} {Q : Wd → Prop} (h1 : sX1 r1) (h : X3_setOrder r1 x2 w Q) : CtQ Z l yX3_setOrder cX3_setOrder 5 none rm_X3_setOrder [rv Z 40, rv Z r1, iv x2] w (qV Z Q) := by
  refine ct_of (by decide) (Nat.le_of_ble_eq_true rfl) (fun E eE C R => ?_)
  subst eE
  have C : Cx Z (adA Z) E cX3_setOrder "HandleFaces$Orders" 5 rm_X3_setOrder := C
  unfold X3_setOrder at h
  show V Z (adA Z) E 5 w 0 [(0, rv Z 40), (1, rv Z r1), (2, iv x2)] []
  refine v_aload_n C dX3_setOrder_0 1 rfl ?_
  refine v_iconst C dX3_setOrder_1 ?_
  refine p_X1_twists C h1 wd_56 dX3_setOrder_2 ?_
  have h := h _ rfl
  refine v_aload_n C dX3_setOrder_5 0 rfl ?_
  refine g_X3_hand C wd_264 dX3_setOrder_6 ?_
  refine v_aload_n C dX3_setOrder_9 1 rfl ?_
  refine v_callv C (rn_V C _ (m_X1_become s_X1_42 h1 h) mf_X1_become wd_712 wd_713 wd_711 rfl rfl ⟨(Nat.le_of_ble_eq_true rfl), (Nat.le_of_ble_eq_true rfl)⟩ s_X1_42.1 rfl rfl rfl (Nat.le_of_ble_eq_true rfl) dX3_setOrder_10) (fun w h => ?_)
  refine v_iconst C dX3_setOrder_13 ?_
  refine v_istore_n C [(3, _), (0, _), (1, _), (2, _)] dX3_setOrder_14 3 rfl (by decide) rfl ?_
  refine v_sub [1, 2, 3, 0] rfl ?_
  obtain ⟨m, h⟩ := h
  exact t_X3_setOrder_l15 C R h1 (t_X3_setOrder_b72 C R h1) m _ _ _ h
abbrev rm_X5_addRing : Room := { frames := 1, cells := 0, slots := 0, locals := 14 }
theorem mf_X5_addRing : MfB yX5_addRing cX5_addRing 2 none 1 := ⟨wd_973, wd_8, by decide, by decide, by decide +kernel⟩
def X5_addRing (x1 : Int) (w : Wd) (Q : Wd → Prop) : Prop := (∀ w1, w1 = up w 49 0 ((w 49 0) + 1) → ((wr (w1 49 1) = 0 → (∀ w3, w3 = up w1 49 1 x1 → Q w3)) ∧ (¬ wr (w1 49 1) = 0 → (∀ w2, w2 = up w1 49 1 (imn (w1 49 1) x1) → Q w2))))
theorem m_X5_addRing {Z : Zw} {l : Launch} {x1 : Int} {w : Wd} {Q : Wd → Prop} (h : X5_addRing x1 w Q) : CtQ Z l yX5_addRing cX5_addRing 2 none rm_X5_addRing [rv Z 49, iv x1] w (qV Z Q) := by
  refine ct_of (by decide) (Nat.le_of_ble_eq_true rfl) (fun E eE C R => ?_)
  subst eE
  have C : Cx Z (adA Z) E cX5_addRing "HandleFaces$Rings" 2 rm_X5_addRing := C
  unfold X5_addRing at h
  show V Z (adA Z) E 2 w 0 [(0, rv Z 49), (1, iv x1)] []
  refine v_aload_n C dX5_addRing_0 0 rfl ?_
  refine v_dup C dX5_addRing_1 rfl ?_
  refine g_X5_count C wd_294 dX5_addRing_2 ?_
  refine v_iconst C dX5_addRing_5 ?_
  refine v_iadd C dX5_addRing_6 ?_
  refine p_X5_count C wd_294 dX5_addRing_7 ?_
  have h := h _ rfl
  refine v_aload_n C dX5_addRing_10 0 rfl ?_
  refine v_aload_n C dX5_addRing_11 0 rfl ?_
  refine g_X5_girth C wd_296 dX5_addRing_12 ?_
  refine v_if_ne C 22 dX5_addRing_15 (by decide) (fun q => ?_) (fun q => ?_)
  · have h := h.2 q
    refine v_aload_n C dX5_addRing_22 0 rfl ?_
    refine g_X5_girth C wd_296 dX5_addRing_23 ?_
    refine v_iload_n C dX5_addRing_26 1 rfl ?_
    refine v_mmin C wd_974 wd_347 wd_12 wd_348 (Nat.le_of_ble_eq_true rfl) (Nat.le_of_ble_eq_true rfl) dX5_addRing_27 ?_
    refine p_X5_girth C wd_296 dX5_addRing_30 ?_
    have h := h _ rfl
    exact v_ret C R h dX5_addRing_33
  · have h := h.1 q
    refine v_iload_n C dX5_addRing_18 1 rfl ?_
    refine v_goto C 30 dX5_addRing_19 (by decide) ?_
    refine p_X5_girth C wd_296 dX5_addRing_30 ?_
    have h := h _ rfl
    exact v_ret C R h dX5_addRing_33
abbrev rm_X5_goOn (d : Nat) : Room := { frames := d + 1, cells := 0, slots := 0, locals := d * 64 + 64 }
theorem mf_X5_goOn : MfB yX5_goOn cX5_goOn 9 none 6 := ⟨wd_968, wd_8, by decide, by decide, by decide +kernel⟩
def X5_goOn_l11 (r1 : Nat) (Q : Wd → Prop) (Rc : Int → Int → Int → Int → Wd → (Wd → Prop) → Prop) (e120 : Wd → Prop) : Nat → Int → Int → Int → Int → Int → Wd → Prop
  | 0 => fun _ _ _ _ _ _ => False
  | n + 1 => fun x2 x3 x4 x5 x6 w => (ix x2 6 ∧ ((wr (rd w (r1 + 2) x2) ≤ wr x6 → e120 w) ∧ (¬ wr (rd w (r1 + 2) x2) ≤ wr x6 → X1_armAt r1 x2 x6 w (fun y2 w1 => (ix (ixo y2 1) 20 ∧ (∀ y3, y3 = (rd w1 (r1 + 1) (ixo y2 1)) → ((wr (isr y2 1) = wr x3 → (X5_goOn_l11 r1 Q Rc e120 n) x2 x3 x4 x5 (x6 + 1) w1) ∧ (¬ wr (isr y2 1) = wr x3 → ((wr y3 = wr (w1 49 2) → X5_addRing (x5 + 1) w1 (fun w5 => (X5_goOn_l11 r1 Q Rc e120 n) x2 x3 x4 x5 (x6 + 1) w5)) ∧ (¬ wr y3 = wr (w1 49 2) → ((wr y3 ≤ wr (w1 49 2) → (X5_goOn_l11 r1 Q Rc e120 n) x2 x3 x4 x5 (x6 + 1) w1) ∧ (¬ wr y3 ≤ wr (w1 49 2) → ((wr (ian (isr x4 y3) 1) = 0 → Rc y3 (isr y2 1) (ior x4 (isl 1 y3)) (x5 + 1) w1 (fun w4 => (X5_goOn_l11 r1 Q Rc e120 n) x2 x3 x4 x5 (x6 + 1) w4)) ∧ (¬ wr (ian (isr x4 y3) 1) = 0 → (X5_goOn_l11 r1 Q Rc e120 n) x2 x3 x4 x5 (x6 + 1) w1))))))))))))))
theorem t_X5_goOn_l11 {Z : Zw} {E : Amb} {r1 : Nat} {Q : Wd → Prop} {Rc : Int → Int → Int → Int → Wd → (Wd → Prop) → Prop} {d : Nat} {e120 : Wd → Prop} (C : Cx Z (adA Z) E cX5_goOn "HandleFaces$Rings" 9 (rm_X5_goOn (d + 1))) (R : Rt Z E none (qV Z Q)) (h1 : sX1 r1) (hRc : ∀ (x2 x3 x4 x5 : Int) (w : Wd) (Q : Wd → Prop), Rc x2 x3 x4 x5 w Q → CtQ Z (eL E) yX5_goOn cX5_goOn 9 none (rm_X5_goOn d) [rv Z 49, rv Z r1, iv x2, iv x3, iv x4, iv x5] w (qV Z Q)) (he120 : ∀ (w : Wd), e120 w → V Z (adA Z) E 9 w 120 [] []) : ∀ (n : Nat) (x2 : Int) (x3 : Int) (x4 : Int) (x5 : Int) (x6 : Int) (w : Wd), X5_goOn_l11 r1 Q Rc e120 n x2 x3 x4 x5 x6 w → V Z (adA Z) E 9 w 11 [(0, rv Z 49), (1, rv Z r1), (2, iv x2), (3, iv x3), (4, iv x4), (5, iv x5), (6, iv x6)] [] := by
  intro n
  induction n with
  | zero => intro x2 x3 x4 x5 x6 w h; exact h.elim
  | succ n ih =>
    intro x2 x3 x4 x5 x6 w h
    unfold X5_goOn_l11 at h
    refine v_iload C dX5_goOn_11 6 rfl ?_
    refine v_aload_n C dX5_goOn_13 1 rfl ?_
    refine g_X1_degrees C h1 wd_67 dX5_goOn_14 ?_
    refine v_iload_n C dX5_goOn_17 2 rfl ?_
    refine v_iald C h1.2.2.1 h.1 dX5_goOn_18 ?_
    have h := h.2
    refine v_icmp_ge C 120 dX5_goOn_19 (by decide) (fun q => ?_) (fun q => ?_)
    · have h := h.1 q
      refine v_sub [] rfl ?_
      exact he120 _ h
    · have h := h.2 q
      refine v_aload_n C dX5_goOn_22 1 rfl ?_
      refine v_iload_n C dX5_goOn_23 2 rfl ?_
      refine v_iload C dX5_goOn_24 6 rfl ?_
      refine v_calli C (rn_V C _ (m_X1_armAt h1 h) mf_X1_armAt wd_726 wd_727 wd_969 rfl rfl ⟨by show 0 + 1 ≤ d + 1 + 1; omega, by show 8 + (4 + 11) + 0 ≤ (d + 1) * 64 + 64; omega⟩ h1.1 rfl rfl rfl (Nat.le_of_ble_eq_true rfl) dX5_goOn_26) (fun r w h => ?_)
      refine v_istore C [(7, _), (0, _), (1, _), (2, _), (3, _), (4, _), (5, _), (6, _)] dX5_goOn_29 (by decide) rfl ?_
      refine v_aload_n C dX5_goOn_31 2 rfl ?_
      refine g_X1_ends C h1 wd_60 dX5_goOn_32 ?_
      refine v_iload C dX5_goOn_35 0 rfl ?_
      refine v_iconst C dX5_goOn_37 ?_
      refine v_ixor C dX5_goOn_38 ?_
      refine v_iald C h1.2.1 h.1 dX5_goOn_39 ?_
      have h := h.2
      refine v_istore C [(8, _), (7, _), (0, _), (1, _), (2, _), (3, _), (4, _), (5, _), (6, _)] dX5_goOn_40 (by decide) rfl ?_
      have h := h _ rfl
      refine v_iload C dX5_goOn_42 1 rfl ?_
      refine v_iconst C dX5_goOn_44 ?_
      refine v_ishr C dX5_goOn_45 ?_
      refine v_iload_n C dX5_goOn_46 5 rfl ?_
      refine v_icmp_ne C 53 dX5_goOn_47 (by decide) (fun q => ?_) (fun q => ?_)
      · have h := h.2 q
        refine v_iload C dX5_goOn_53 0 rfl ?_
        refine v_aload_n C dX5_goOn_55 2 rfl ?_
        refine g_X5_start C wd_298 dX5_goOn_56 ?_
        refine v_icmp_ne C 73 dX5_goOn_59 (by decide) (fun q => ?_) (fun q => ?_)
        · have h := h.2 q
          refine v_iload C dX5_goOn_73 0 rfl ?_
          refine v_aload_n C dX5_goOn_75 2 rfl ?_
          refine g_X5_start C wd_298 dX5_goOn_76 ?_
          refine v_icmp_le C 114 dX5_goOn_79 (by decide) (fun q => ?_) (fun q => ?_)
          · have h := h.1 q
            refine v_iinc C [(6, _), (8, _), (7, _), (0, _), (1, _), (2, _), (3, _), (4, _), (5, _)] dX5_goOn_114 8 rfl (by decide) rfl ?_
            refine v_goto C 11 dX5_goOn_117 (by decide) ?_
            refine v_sub [3, 4, 5, 6, 7, 8, 0] rfl ?_
            exact ih _ _ _ _ _ _ h
          · have h := h.2 q
            refine v_iload C dX5_goOn_82 6 rfl ?_
            refine v_iload C dX5_goOn_84 0 rfl ?_
            refine v_ishr C dX5_goOn_86 ?_
            refine v_iconst C dX5_goOn_87 ?_
            refine v_iand C dX5_goOn_88 ?_
            refine v_if_ne C 114 dX5_goOn_89 (by decide) (fun q => ?_) (fun q => ?_)
            · have h := h.2 q
              refine v_iinc C [(6, _), (8, _), (7, _), (0, _), (1, _), (2, _), (3, _), (4, _), (5, _)] dX5_goOn_114 8 rfl (by decide) rfl ?_
              refine v_goto C 11 dX5_goOn_117 (by decide) ?_
              refine v_sub [3, 4, 5, 6, 7, 8, 0] rfl ?_
              exact ih _ _ _ _ _ _ h
            · have h := h.1 q
              refine v_aload_n C dX5_goOn_92 2 rfl ?_
              refine v_aload_n C dX5_goOn_93 3 rfl ?_
              refine v_iload C dX5_goOn_94 0 rfl ?_
              refine v_iload C dX5_goOn_96 1 rfl ?_
              refine v_iconst C dX5_goOn_98 ?_
              refine v_ishr C dX5_goOn_99 ?_
              refine v_iload C dX5_goOn_100 6 rfl ?_
              refine v_iconst C dX5_goOn_102 ?_
              refine v_iload C dX5_goOn_103 0 rfl ?_
              refine v_ishl C dX5_goOn_105 ?_
              refine v_ior C dX5_goOn_106 ?_
              refine v_iload C dX5_goOn_107 7 rfl ?_
              refine v_iconst C dX5_goOn_109 ?_
              refine v_iadd C dX5_goOn_110 ?_
              refine v_callv C (rn_S C _ (hRc _ _ _ _ _ _ h) mf_X5_goOn wd_967 wd_966 rfl rfl ⟨Nat.le_refl _, by show 8 + (9 + 11) + (d * 64 + 64) ≤ (d + 1) * 64 + 64; omega⟩ rfl rfl (Nat.le_of_ble_eq_true rfl) dX5_goOn_111) (fun w h => ?_)
              refine v_iinc C [(6, _), (8, _), (7, _), (0, _), (1, _), (2, _), (3, _), (4, _), (5, _)] dX5_goOn_114 8 rfl (by decide) rfl ?_
              refine v_goto C 11 dX5_goOn_117 (by decide) ?_
              refine v_sub [3, 4, 5, 6, 7, 8, 0] rfl ?_
              exact ih _ _ _ _ _ _ h
        · have h := h.1 q
          refine v_aload_n C dX5_goOn_62 2 rfl ?_
          refine v_iload C dX5_goOn_63 7 rfl ?_
          refine v_iconst C dX5_goOn_65 ?_
          refine v_iadd C dX5_goOn_66 ?_
          refine v_callv C (rn_V C _ (m_X5_addRing h) mf_X5_addRing wd_972 wp_38 wd_970 rfl rfl ⟨by show 1 + 1 ≤ d + 1 + 1; omega, by show 8 + (2 + 11) + 14 ≤ (d + 1) * 64 + 64; omega⟩ rfl rfl rfl rfl (Nat.le_of_ble_eq_true rfl) dX5_goOn_67) (fun w h => ?_)
          refine v_goto C 114 dX5_goOn_70 (by decide) ?_
          refine v_iinc C [(6, _), (8, _), (7, _), (0, _), (1, _), (2, _), (3, _), (4, _), (5, _)] dX5_goOn_114 8 rfl (by decide) rfl ?_
          refine v_goto C 11 dX5_goOn_117 (by decide) ?_
          refine v_sub [3, 4, 5, 6, 7, 8, 0] rfl ?_
          exact ih _ _ _ _ _ _ h
      · have h := h.1 q
        refine v_goto C 114 dX5_goOn_50 (by decide) ?_
        refine v_iinc C [(6, _), (8, _), (7, _), (0, _), (1, _), (2, _), (3, _), (4, _), (5, _)] dX5_goOn_114 8 rfl (by decide) rfl ?_
        refine v_goto C 11 dX5_goOn_117 (by decide) ?_
        refine v_sub [3, 4, 5, 6, 7, 8, 0] rfl ?_
        exact ih _ _ _ _ _ _ h
def X5_goOn_b120 (r1 : Nat) (Q : Wd → Prop) (Rc : Int → Int → Int → Int → Wd → (Wd → Prop) → Prop) (w : Wd) : Prop := Q w
theorem t_X5_goOn_b120 {Z : Zw} {E : Amb} {r1 : Nat} {Q : Wd → Prop} {Rc : Int → Int → Int → Int → Wd → (Wd → Prop) → Prop} {d : Nat} (C : Cx Z (adA Z) E cX5_goOn "HandleFaces$Rings" 9 (rm_X5_goOn (d + 1))) (R : Rt Z E none (qV Z Q)) (h1 : sX1 r1) (hRc : ∀ (x2 x3 x4 x5 : Int) (w : Wd) (Q : Wd → Prop), Rc x2 x3 x4 x5 w Q → CtQ Z (eL E) yX5_goOn cX5_goOn 9 none (rm_X5_goOn d) [rv Z 49, rv Z r1, iv x2, iv x3, iv x4, iv x5] w (qV Z Q)) : ∀ (w : Wd), X5_goOn_b120 r1 Q Rc w → V Z (adA Z) E 9 w 120 [] [] := by
  intro w h
  unfold X5_goOn_b120 at h
  exact v_ret C R h dX5_goOn_120
def X5_goOn (r1 : Nat) : Nat → Int → Int → Int → Int → Wd → (Wd → Prop) → Prop
  | 0 => fun _ _ _ _ _ _ => False
  | d + 1 => fun x2 x3 x4 x5 w Q => ((wr x5 < wr 6 → (∃ m, X5_goOn_l11 r1 Q (X5_goOn r1 d) (X5_goOn_b120 r1 Q (X5_goOn r1 d)) m x2 x3 x4 x5 0 w)) ∧ (¬ wr x5 < wr 6 → Q w))
theorem m_X5_goOn {Z : Zw} {l : Launch} {r1 : Nat} (h1 : sX1 r1) : ∀ (d : Nat) (x2 : Int) (x3 : Int) (x4 : Int) (x5 : Int) (w : Wd) (Q : Wd → Prop), X5_goOn r1 d x2 x3 x4 x5 w Q → CtQ Z l yX5_goOn cX5_goOn 9 none (rm_X5_goOn d) [rv Z 49, rv Z r1, iv x2, iv x3, iv x4, iv x5] w (qV Z Q) := by
  intro d
  induction d with
  | zero => intro x2 x3 x4 x5 w Q h; exact h.elim
  | succ d ih =>
  intro x2 x3 x4 x5 w Q h
  refine ct_of (by decide) (Nat.le_of_ble_eq_true rfl) (fun E eE C R => ?_)
  subst eE
  have C : Cx Z (adA Z) E cX5_goOn "HandleFaces$Rings" 9 (rm_X5_goOn (d + 1)) := C
  unfold X5_goOn at h
  show V Z (adA Z) E 9 w 0 [(0, rv Z 49), (1, rv Z r1), (2, iv x2), (3, iv x3), (4, iv x4), (5, iv x5)] []
  refine v_iload C dX5_goOn_0 5 rfl ?_
  refine v_bipush C dX5_goOn_2 (by decide) ?_
  refine v_icmp_lt C 8 dX5_goOn_4 (by decide) (fun q => ?_) (fun q => ?_)
  · have h := h.1 q
    refine v_iconst C dX5_goOn_8 ?_
    refine v_istore C [(6, _), (0, _), (1, _), (2, _), (3, _), (4, _), (5, _)] dX5_goOn_9 (by decide) rfl ?_
    refine v_sub [1, 2, 3, 4, 5, 6, 0] rfl ?_
    obtain ⟨m, h⟩ := h
    exact t_X5_goOn_l11 C R h1 ih (t_X5_goOn_b120 C R h1 ih) m _ _ _ _ _ _ h
  · have h := h.2 q
    exact v_ret C R h dX5_goOn_7
abbrev rm_X5_search : Room := { frames := 9, cells := 0, slots := 0, locals := 540 }
theorem mf_X5_search : MfB yX5_search cX5_search 3 none 1 := ⟨wd_965, wd_8, by decide, by decide, by decide +kernel⟩
def X5_search_l12 (r1 : Nat) (Q : Wd → Prop) (e42 : Wd → Prop) : Nat → Int → Wd → Prop
  | 0 => fun _ _ => False
  | n + 1 => fun x2 w => ((wr (w r1 0) ≤ wr x2 → e42 w) ∧ (¬ wr (w r1 0) ≤ wr x2 → (∀ w3, w3 = up w 49 2 x2 → X5_goOn r1 7 x2 (-1) (isl 1 x2) 0 w3 (fun w4 => (X5_search_l12 r1 Q e42 n) (x2 + 1) w4))))
theorem t_X5_search_l12 {Z : Zw} {E : Amb} {r1 : Nat} {Q : Wd → Prop} {e42 : Wd → Prop} (C : Cx Z (adA Z) E cX5_search "HandleFaces$Rings" 3 rm_X5_search) (R : Rt Z E none (qV Z Q)) (h1 : sX1 r1) (he42 : ∀ (w : Wd), e42 w → V Z (adA Z) E 3 w 42 [(0, rv Z 49)] []) : ∀ (n : Nat) (x2 : Int) (w : Wd), X5_search_l12 r1 Q e42 n x2 w → V Z (adA Z) E 3 w 12 [(0, rv Z 49), (1, rv Z r1), (2, iv x2)] [] := by
  intro n
  induction n with
  | zero => intro x2 w h; exact h.elim
  | succ n ih =>
    intro x2 w h
    unfold X5_search_l12 at h
    refine v_iload_n C dX5_search_12 2 rfl ?_
    refine v_aload_n C dX5_search_13 1 rfl ?_
    refine g_X1_posts C h1 wd_37 dX5_search_14 ?_
    refine v_icmp_ge C 42 dX5_search_17 (by decide) (fun q => ?_) (fun q => ?_)
    · have h := h.1 q
      refine v_sub [0] rfl ?_
      exact he42 _ h
    · have h := h.2 q
      refine v_aload_n C dX5_search_20 0 rfl ?_
      refine v_iload_n C dX5_search_21 2 rfl ?_
      refine p_X5_start C wd_298 dX5_search_22 ?_
      have h := h _ rfl
      refine v_aload_n C dX5_search_25 0 rfl ?_
      refine v_aload_n C dX5_search_26 1 rfl ?_
      refine v_iload_n C dX5_search_27 2 rfl ?_
      refine v_iconst C dX5_search_28 ?_
      refine v_iconst C dX5_search_29 ?_
      refine v_iload_n C dX5_search_30 2 rfl ?_
      refine v_ishl C dX5_search_31 ?_
      refine v_iconst C dX5_search_32 ?_
      refine v_callv C (rn_S C _ (m_X5_goOn h1 7 _ _ _ _ _ _ h) mf_X5_goOn wd_967 wd_966 rfl rfl ⟨(Nat.le_of_ble_eq_true rfl), (Nat.le_of_ble_eq_true rfl)⟩ rfl rfl (Nat.le_of_ble_eq_true rfl) dX5_search_33) (fun w h => ?_)
      refine v_iinc C [(2, _), (0, _), (1, _)] dX5_search_36 2 rfl (by decide) rfl ?_
      refine v_goto C 12 dX5_search_39 (by decide) ?_
      refine v_sub [1, 2, 0] rfl ?_
      exact ih _ _ h
def X5_search_b42 (r1 : Nat) (Q : Wd → Prop) (w : Wd) : Prop := (∀ w5, w5 = up w 49 0 (idv (w 49 0) 2) → Q w5)
theorem t_X5_search_b42 {Z : Zw} {E : Amb} {r1 : Nat} {Q : Wd → Prop} (C : Cx Z (adA Z) E cX5_search "HandleFaces$Rings" 3 rm_X5_search) (R : Rt Z E none (qV Z Q)) (h1 : sX1 r1) : ∀ (w : Wd), X5_search_b42 r1 Q w → V Z (adA Z) E 3 w 42 [(0, rv Z 49)] [] := by
  intro w h
  unfold X5_search_b42 at h
  refine v_aload_n C dX5_search_42 0 rfl ?_
  refine v_dup C dX5_search_43 rfl ?_
  refine g_X5_count C wd_294 dX5_search_44 ?_
  refine v_iconst C dX5_search_47 ?_
  refine v_idiv C dX5_search_48 (by decide) ?_
  refine p_X5_count C wd_294 dX5_search_49 ?_
  have h := h _ rfl
  exact v_ret C R h dX5_search_52
def X5_search (r1 : Nat) (w : Wd) (Q : Wd → Prop) : Prop := (∀ w1, w1 = up w 49 0 0 → (∀ w2, w2 = up w1 49 1 0 → (∃ m, X5_search_l12 r1 Q (X5_search_b42 r1 Q) m 0 w2)))
theorem m_X5_search {Z : Zw} {l : Launch} {r1 : Nat} {w : Wd} {Q : Wd → Prop} (h1 : sX1 r1) (h : X5_search r1 w Q) : CtQ Z l yX5_search cX5_search 3 none rm_X5_search [rv Z 49, rv Z r1] w (qV Z Q) := by
  refine ct_of (by decide) (Nat.le_of_ble_eq_true rfl) (fun E eE C R => ?_)
  subst eE
  have C : Cx Z (adA Z) E cX5_search "HandleFaces$Rings" 3 rm_X5_search := C
  unfold X5_search at h
  show V Z (adA Z) E 3 w 0 [(0, rv Z 49), (1, rv Z r1)] []
  refine v_aload_n C dX5_search_0 0 rfl ?_
  refine v_iconst C dX5_search_1 ?_
  refine p_X5_count C wd_294 dX5_search_2 ?_
  have h := h _ rfl
  refine v_aload_n C dX5_search_5 0 rfl ?_
  refine v_iconst C dX5_search_6 ?_
  refine p_X5_girth C wd_296 dX5_search_7 ?_
  have h := h _ rfl
  refine v_iconst C dX5_search_10 ?_
  refine v_istore_n C [(2, _), (0, _), (1, _)] dX5_search_11 2 rfl (by decide) rfl ?_
  refine v_sub [1, 2, 0] rfl ?_
  obtain ⟨m, h⟩ := h
  exact t_X5_search_l12 C R h1 (t_X5_search_b42 C R h1) m _ _ h
abbrev rm_X7_store : Room := { frames := 1, cells := 0, slots := 0, locals := 40 }
theorem mf_X7_store : MfB yX7_store cX7_store 4 none 2 := ⟨wd_618, wd_11, by decide, by decide, by decide +kernel⟩
def X7_store (r0 : Nat) (r2 : Nat) (x1 : Int) (w : Wd) (Q : Wd → Prop) : Prop := ((wr x1 < 0 → Q w) ∧ (¬ wr x1 < 0 → ((wr x1 < wr (w r0 0) → (∀ y1, y1 = (x1 * 89) → (ix y1 (aln (r0 + 1)) ∧ (∀ w2, w2 = wt w (r0 + 1) y1 (w r2 0) → (ix (y1 + 1) (aln (r0 + 1)) ∧ (∀ w3, w3 = wt w2 (r0 + 1) (y1 + 1) (w2 r2 1) → (ix (y1 + 2) (aln (r0 + 1)) ∧ (∀ w4, w4 = wt w3 (r0 + 1) (y1 + 2) (w3 r2 2) → (cpk 0 (y1 + 3) 20 20 (aln (r0 + 1)) ∧ (∀ w5, w5 = cpy w4 (r2 + 1) (wr 0).toNat (r0 + 1) (wr (y1 + 3)).toNat (wr 20).toNat → (cpk 0 (y1 + 23) 6 6 (aln (r0 + 1)) ∧ (∀ w6, w6 = cpy w5 (r2 + 2) (wr 0).toNat (r0 + 1) (wr (y1 + 23)).toNat (wr 6).toNat → (cpk 0 (y1 + 29) 60 60 (aln (r0 + 1)) ∧ (∀ w7, w7 = cpy w6 (r2 + 3) (wr 0).toNat (r0 + 1) (wr (y1 + 29)).toNat (wr 60).toNat → Q w7)))))))))))))) ∧ (¬ wr x1 < wr (w r0 0) → Q w))))
theorem m_X7_store {Z : Zw} {l : Launch} {r0 : Nat} {r2 : Nat} {x1 : Int} {w : Wd} {Q : Wd → Prop} (h0 : sX7 r0) (h2 : sX1 r2) (h : X7_store r0 r2 x1 w Q) : CtQ Z l yX7_store cX7_store 4 none rm_X7_store [rv Z r0, iv x1, rv Z r2] w (qV Z Q) := by
  refine ct_of (by decide) (Nat.le_of_ble_eq_true rfl) (fun E eE C R => ?_)
  subst eE
  have C : Cx Z (adA Z) E cX7_store "HandleFaces$Shelf" 4 rm_X7_store := C
  unfold X7_store at h
  show V Z (adA Z) E 4 w 0 [(0, rv Z r0), (1, iv x1), (2, rv Z r2)] []
  refine v_iload_n C dX7_store_0 1 rfl ?_
  refine v_if_lt C 12 dX7_store_1 (by decide) (fun q => ?_) (fun q => ?_)
  · have h := h.1 q
    exact v_ret C R h dX7_store_12
  · have h := h.2 q
    refine v_iload_n C dX7_store_4 1 rfl ?_
    refine v_aload_n C dX7_store_5 0 rfl ?_
    refine g_X7_places C h0 wd_352 dX7_store_6 ?_
    refine v_icmp_lt C 13 dX7_store_9 (by decide) (fun q => ?_) (fun q => ?_)
    · have h := h.1 q
      refine v_iload_n C dX7_store_13 1 rfl ?_
      refine v_bipush C dX7_store_14 (by decide) ?_
      refine v_imul C dX7_store_16 ?_
      refine v_istore_n C [(3, _), (0, _), (1, _), (2, _)] dX7_store_17 3 rfl (by decide) rfl ?_
      have h := h _ rfl
      refine v_aload_n C dX7_store_18 1 rfl ?_
      refine g_X7_cells C h0 wd_353 dX7_store_19 ?_
      refine v_iload_n C dX7_store_22 0 rfl ?_
      refine v_aload_n C dX7_store_23 3 rfl ?_
      refine g_X1_posts C h2 wd_39 dX7_store_24 ?_
      refine v_iast C h0.2 h.1 dX7_store_27 ?_
      have h := h.2
      have h := h _ rfl
      refine v_aload_n C dX7_store_28 1 rfl ?_
      refine g_X7_cells C h0 wd_353 dX7_store_29 ?_
      refine v_iload_n C dX7_store_32 0 rfl ?_
      refine v_iconst C dX7_store_33 ?_
      refine v_iadd C dX7_store_34 ?_
      refine v_aload_n C dX7_store_35 3 rfl ?_
      refine g_X1_lines C h2 wd_46 dX7_store_36 ?_
      refine v_iast C h0.2 h.1 dX7_store_39 ?_
      have h := h.2
      have h := h _ rfl
      refine v_aload_n C dX7_store_40 1 rfl ?_
      refine g_X7_cells C h0 wd_353 dX7_store_41 ?_
      refine v_iload_n C dX7_store_44 0 rfl ?_
      refine v_iconst C dX7_store_45 ?_
      refine v_iadd C dX7_store_46 ?_
      refine v_aload_n C dX7_store_47 3 rfl ?_
      refine g_X1_twists C h2 wd_53 dX7_store_48 ?_
      refine v_iast C h0.2 h.1 dX7_store_51 ?_
      have h := h.2
      have h := h _ rfl
      refine v_aload_n C dX7_store_52 3 rfl ?_
      refine g_X1_ends C h2 wd_58 dX7_store_53 ?_
      refine v_iconst C dX7_store_56 ?_
      refine v_aload_n C dX7_store_57 1 rfl ?_
      refine g_X7_cells C h0 wd_353 dX7_store_58 ?_
      refine v_iload_n C dX7_store_61 0 rfl ?_
      refine v_iconst C dX7_store_62 ?_
      refine v_iadd C dX7_store_63 ?_
      refine v_bipush C dX7_store_64 (by decide) ?_
      refine v_copy C h2.2.1 h0.2 h.1 wd_619 wd_573 wd_572 wd_18 (Nat.le_of_ble_eq_true rfl) (Nat.le_of_ble_eq_true rfl) dX7_store_66 ?_
      have h := h.2
      have h := h _ rfl
      refine v_aload_n C dX7_store_69 3 rfl ?_
      refine g_X1_degrees C h2 wd_63 dX7_store_70 ?_
      refine v_iconst C dX7_store_73 ?_
      refine v_aload_n C dX7_store_74 1 rfl ?_
      refine g_X7_cells C h0 wd_353 dX7_store_75 ?_
      refine v_iload_n C dX7_store_78 0 rfl ?_
      refine v_bipush C dX7_store_79 (by decide) ?_
      refine v_iadd C dX7_store_81 ?_
      refine v_bipush C dX7_store_82 (by decide) ?_
      refine v_copy C h2.2.2.1 h0.2 h.1 wd_619 wd_573 wd_572 wd_18 (Nat.le_of_ble_eq_true rfl) (Nat.le_of_ble_eq_true rfl) dX7_store_84 ?_
      have h := h.2
      have h := h _ rfl
      refine v_aload_n C dX7_store_87 3 rfl ?_
      refine g_X1_rounds C h2 wd_71 dX7_store_88 ?_
      refine v_iconst C dX7_store_91 ?_
      refine v_aload_n C dX7_store_92 1 rfl ?_
      refine g_X7_cells C h0 wd_353 dX7_store_93 ?_
      refine v_iload_n C dX7_store_96 0 rfl ?_
      refine v_bipush C dX7_store_97 (by decide) ?_
      refine v_iadd C dX7_store_99 ?_
      refine v_bipush C dX7_store_100 (by decide) ?_
      refine v_copy C h2.2.2.2 h0.2 h.1 wd_619 wd_573 wd_572 wd_18 (Nat.le_of_ble_eq_true rfl) (Nat.le_of_ble_eq_true rfl) dX7_store_102 ?_
      have h := h.2
      have h := h _ rfl
      exact v_ret C R h dX7_store_105
    · have h := h.2 q
      exact v_ret C R h dX7_store_12
abbrev rm_X7_fetch : Room := { frames := 1, cells := 0, slots := 0, locals := 40 }
theorem mf_X7_fetch : MfB yX7_fetch cX7_fetch 4 none 2 := ⟨wd_879, wd_11, by decide, by decide, by decide +kernel⟩
def X7_fetch (r0 : Nat) (r2 : Nat) (x1 : Int) (w : Wd) (Q : Wd → Prop) : Prop := ((wr x1 < 0 → Q w) ∧ (¬ wr x1 < 0 → ((wr x1 < wr (w r0 0) → (∀ y1, y1 = (x1 * 89) → (ix y1 (aln (r0 + 1)) ∧ (∀ w2, w2 = up w r2 0 (rd w (r0 + 1) y1) → (ix (y1 + 1) (aln (r0 + 1)) ∧ (∀ w3, w3 = up w2 r2 1 (rd w2 (r0 + 1) (y1 + 1)) → (ix (y1 + 2) (aln (r0 + 1)) ∧ (∀ w4, w4 = up w3 r2 2 (rd w3 (r0 + 1) (y1 + 2)) → (cpk (y1 + 3) 0 20 (aln (r0 + 1)) 20 ∧ (∀ w5, w5 = cpy w4 (r0 + 1) (wr (y1 + 3)).toNat (r2 + 1) (wr 0).toNat (wr 20).toNat → (cpk (y1 + 23) 0 6 (aln (r0 + 1)) 6 ∧ (∀ w6, w6 = cpy w5 (r0 + 1) (wr (y1 + 23)).toNat (r2 + 2) (wr 0).toNat (wr 6).toNat → (cpk (y1 + 29) 0 60 (aln (r0 + 1)) 60 ∧ (∀ w7, w7 = cpy w6 (r0 + 1) (wr (y1 + 29)).toNat (r2 + 3) (wr 0).toNat (wr 60).toNat → Q w7)))))))))))))) ∧ (¬ wr x1 < wr (w r0 0) → Q w))))
theorem m_X7_fetch {Z : Zw} {l : Launch} {r0 : Nat} {r2 : Nat} {x1 : Int} {w : Wd} {Q : Wd → Prop} (h0 : sX7 r0) (h2 : sX1 r2) (h : X7_fetch r0 r2 x1 w Q) : CtQ Z l yX7_fetch cX7_fetch 4 none rm_X7_fetch [rv Z r0, iv x1, rv Z r2] w (qV Z Q) := by
  refine ct_of (by decide) (Nat.le_of_ble_eq_true rfl) (fun E eE C R => ?_)
  subst eE
  have C : Cx Z (adA Z) E cX7_fetch "HandleFaces$Shelf" 4 rm_X7_fetch := C
  unfold X7_fetch at h
  show V Z (adA Z) E 4 w 0 [(0, rv Z r0), (1, iv x1), (2, rv Z r2)] []
  refine v_iload_n C dX7_fetch_0 1 rfl ?_
  refine v_if_lt C 12 dX7_fetch_1 (by decide) (fun q => ?_) (fun q => ?_)
  · have h := h.1 q
    exact v_ret C R h dX7_fetch_12
  · have h := h.2 q
    refine v_iload_n C dX7_fetch_4 1 rfl ?_
    refine v_aload_n C dX7_fetch_5 0 rfl ?_
    refine g_X7_places C h0 wd_352 dX7_fetch_6 ?_
    refine v_icmp_lt C 13 dX7_fetch_9 (by decide) (fun q => ?_) (fun q => ?_)
    · have h := h.1 q
      refine v_iload_n C dX7_fetch_13 1 rfl ?_
      refine v_bipush C dX7_fetch_14 (by decide) ?_
      refine v_imul C dX7_fetch_16 ?_
      refine v_istore_n C [(3, _), (0, _), (1, _), (2, _)] dX7_fetch_17 3 rfl (by decide) rfl ?_
      have h := h _ rfl
      refine v_aload_n C dX7_fetch_18 3 rfl ?_
      refine v_aload_n C dX7_fetch_19 1 rfl ?_
      refine g_X7_cells C h0 wd_353 dX7_fetch_20 ?_
      refine v_iload_n C dX7_fetch_23 0 rfl ?_
      refine v_iald C h0.2 h.1 dX7_fetch_24 ?_
      have h := h.2
      refine p_X1_posts C h2 wd_39 dX7_fetch_25 ?_
      have h := h _ rfl
      refine v_aload_n C dX7_fetch_28 3 rfl ?_
      refine v_aload_n C dX7_fetch_29 1 rfl ?_
      refine g_X7_cells C h0 wd_353 dX7_fetch_30 ?_
      refine v_iload_n C dX7_fetch_33 0 rfl ?_
      refine v_iconst C dX7_fetch_34 ?_
      refine v_iadd C dX7_fetch_35 ?_
      refine v_iald C h0.2 h.1 dX7_fetch_36 ?_
      have h := h.2
      refine p_X1_lines C h2 wd_46 dX7_fetch_37 ?_
      have h := h _ rfl
      refine v_aload_n C dX7_fetch_40 3 rfl ?_
      refine v_aload_n C dX7_fetch_41 1 rfl ?_
      refine g_X7_cells C h0 wd_353 dX7_fetch_42 ?_
      refine v_iload_n C dX7_fetch_45 0 rfl ?_
      refine v_iconst C dX7_fetch_46 ?_
      refine v_iadd C dX7_fetch_47 ?_
      refine v_iald C h0.2 h.1 dX7_fetch_48 ?_
      have h := h.2
      refine p_X1_twists C h2 wd_53 dX7_fetch_49 ?_
      have h := h _ rfl
      refine v_aload_n C dX7_fetch_52 1 rfl ?_
      refine g_X7_cells C h0 wd_353 dX7_fetch_53 ?_
      refine v_iload_n C dX7_fetch_56 0 rfl ?_
      refine v_iconst C dX7_fetch_57 ?_
      refine v_iadd C dX7_fetch_58 ?_
      refine v_aload_n C dX7_fetch_59 3 rfl ?_
      refine g_X1_ends C h2 wd_58 dX7_fetch_60 ?_
      refine v_iconst C dX7_fetch_63 ?_
      refine v_bipush C dX7_fetch_64 (by decide) ?_
      refine v_copy C h0.2 h2.2.1 h.1 wd_619 wd_573 wd_572 wd_18 (Nat.le_of_ble_eq_true rfl) (Nat.le_of_ble_eq_true rfl) dX7_fetch_66 ?_
      have h := h.2
      have h := h _ rfl
      refine v_aload_n C dX7_fetch_69 1 rfl ?_
      refine g_X7_cells C h0 wd_353 dX7_fetch_70 ?_
      refine v_iload_n C dX7_fetch_73 0 rfl ?_
      refine v_bipush C dX7_fetch_74 (by decide) ?_
      refine v_iadd C dX7_fetch_76 ?_
      refine v_aload_n C dX7_fetch_77 3 rfl ?_
      refine g_X1_degrees C h2 wd_63 dX7_fetch_78 ?_
      refine v_iconst C dX7_fetch_81 ?_
      refine v_bipush C dX7_fetch_82 (by decide) ?_
      refine v_copy C h0.2 h2.2.2.1 h.1 wd_619 wd_573 wd_572 wd_18 (Nat.le_of_ble_eq_true rfl) (Nat.le_of_ble_eq_true rfl) dX7_fetch_84 ?_
      have h := h.2
      have h := h _ rfl
      refine v_aload_n C dX7_fetch_87 1 rfl ?_
      refine g_X7_cells C h0 wd_353 dX7_fetch_88 ?_
      refine v_iload_n C dX7_fetch_91 0 rfl ?_
      refine v_bipush C dX7_fetch_92 (by decide) ?_
      refine v_iadd C dX7_fetch_94 ?_
      refine v_aload_n C dX7_fetch_95 3 rfl ?_
      refine g_X1_rounds C h2 wd_71 dX7_fetch_96 ?_
      refine v_iconst C dX7_fetch_99 ?_
      refine v_bipush C dX7_fetch_100 (by decide) ?_
      refine v_copy C h0.2 h2.2.2.2 h.1 wd_619 wd_573 wd_572 wd_18 (Nat.le_of_ble_eq_true rfl) (Nat.le_of_ble_eq_true rfl) dX7_fetch_102 ?_
      have h := h.2
      have h := h _ rfl
      exact v_ret C R h dX7_fetch_105
    · have h := h.2 q
      exact v_ret C R h dX7_fetch_12
abbrev rm_X8_beginFace : Room := { frames := 0, cells := 0, slots := 0, locals := 0 }
theorem mf_X8_beginFace : MfB yX8_beginFace cX8_beginFace 1 none 0 := ⟨wd_797, wd_5, by decide, by decide, by decide +kernel⟩
def X8_beginFace (r0 : Nat) (w : Wd) (Q : Wd → Prop) : Prop := ((wr 16 ≤ wr (w r0 0) → Q w) ∧ (¬ wr 16 ≤ wr (w r0 0) → (ix (w r0 0) 16 ∧ (∀ w1, w1 = wt w (r0 + 5) (w r0 0) (w r0 8) → (ix (w1 r0 0) 16 ∧ (∀ w2, w2 = wt w1 (r0 + 1) (w1 r0 0) 0 → (∀ w3, w3 = up w2 r0 0 ((w2 r0 0) + 1) → Q w3)))))))
theorem m_X8_beginFace {Z : Zw} {l : Launch} {r0 : Nat} {w : Wd} {Q : Wd → Prop} (h0 : sX8 r0) (h : X8_beginFace r0 w Q) : CtQ Z l yX8_beginFace cX8_beginFace 1 none rm_X8_beginFace [rv Z r0] w (qV Z Q) := by
  refine ct_of (by decide) (Nat.le_of_ble_eq_true rfl) (fun E eE C R => ?_)
  subst eE
  have C : Cx Z (adA Z) E cX8_beginFace "HandleFaces$Tracing" 1 rm_X8_beginFace := C
  unfold X8_beginFace at h
  show V Z (adA Z) E 1 w 0 [(0, rv Z r0)] []
  refine v_aload_n C dX8_beginFace_0 0 rfl ?_
  refine g_X8_count C h0 wd_202 dX8_beginFace_1 ?_
  refine v_bipush C dX8_beginFace_4 (by decide) ?_
  refine v_icmp_ge C 42 dX8_beginFace_6 (by decide) (fun q => ?_) (fun q => ?_)
  · have h := h.1 q
    exact v_ret C R h dX8_beginFace_42
  · have h := h.2 q
    refine v_aload_n C dX8_beginFace_9 0 rfl ?_
    refine g_X8_begins C h0 wd_214 dX8_beginFace_10 ?_
    refine v_aload_n C dX8_beginFace_13 0 rfl ?_
    refine g_X8_count C h0 wd_202 dX8_beginFace_14 ?_
    refine v_aload_n C dX8_beginFace_17 0 rfl ?_
    refine g_X8_told C h0 wd_217 dX8_beginFace_18 ?_
    refine v_iast C h0.2.2.2.2.2.1 h.1 dX8_beginFace_21 ?_
    have h := h.2
    have h := h _ rfl
    refine v_aload_n C dX8_beginFace_22 0 rfl ?_
    refine g_X8_lengths C h0 wd_205 dX8_beginFace_23 ?_
    refine v_aload_n C dX8_beginFace_26 0 rfl ?_
    refine g_X8_count C h0 wd_202 dX8_beginFace_27 ?_
    refine v_iconst C dX8_beginFace_30 ?_
    refine v_iast C h0.2.1 h.1 dX8_beginFace_31 ?_
    have h := h.2
    have h := h _ rfl
    refine v_aload_n C dX8_beginFace_32 0 rfl ?_
    refine v_dup C dX8_beginFace_33 rfl ?_
    refine g_X8_count C h0 wd_202 dX8_beginFace_34 ?_
    refine v_iconst C dX8_beginFace_37 ?_
    refine v_iadd C dX8_beginFace_38 ?_
    refine p_X8_count C h0 wd_202 dX8_beginFace_39 ?_
    have h := h _ rfl
    exact v_ret C R h dX8_beginFace_42
abbrev rm_X8_tell : Room := { frames := 0, cells := 0, slots := 0, locals := 0 }
theorem mf_X8_tell : MfB yX8_tell cX8_tell 4 none 1 := ⟨wd_817, wd_5, by decide, by decide, by decide +kernel⟩
def X8_tell (r0 : Nat) (x1 : Int) (w : Wd) (Q : Wd → Prop) : Prop := (∀ y1, y1 = (isr x1 1) → (∀ y2, y2 = ((2 * y1) + (ian (isr (w r0 9) y1) 1)) → (∀ w3, w3 = up w r0 9 (ior (w r0 9) (isl 1 y1)) → (ix y2 20 ∧ (∀ w4, w4 = wt w3 (r0 + 3) y2 ((w3 r0 0) - 1) → (ix y2 20 ∧ (∀ w5, w5 = wt w4 (r0 + 4) y2 (ian x1 1) → (ix ((w5 r0 0) - 1) 16 ∧ (ix ((w5 r0 0) - 1) 16 ∧ (∀ w6, w6 = wt w5 (r0 + 1) ((w5 r0 0) - 1) ((rd w5 (r0 + 1) ((w5 r0 0) - 1)) + 1) → (ix (w6 r0 8) 20 ∧ (∀ w7, w7 = wt w6 (r0 + 6) (w6 r0 8) x1 → (∀ w8, w8 = up w7 r0 8 ((w7 r0 8) + 1) → Q w8)))))))))))))
theorem m_X8_tell {Z : Zw} {l : Launch} {r0 : Nat} {x1 : Int} {w : Wd} {Q : Wd → Prop} (h0 : sX8 r0) (h : X8_tell r0 x1 w Q) : CtQ Z l yX8_tell cX8_tell 4 none rm_X8_tell [rv Z r0, iv x1] w (qV Z Q) := by
  refine ct_of (by decide) (Nat.le_of_ble_eq_true rfl) (fun E eE C R => ?_)
  subst eE
  have C : Cx Z (adA Z) E cX8_tell "HandleFaces$Tracing" 4 rm_X8_tell := C
  unfold X8_tell at h
  show V Z (adA Z) E 4 w 0 [(0, rv Z r0), (1, iv x1)] []
  refine v_iload_n C dX8_tell_0 1 rfl ?_
  refine v_iconst C dX8_tell_1 ?_
  refine v_ishr C dX8_tell_2 ?_
  refine v_istore_n C [(2, _), (0, _), (1, _)] dX8_tell_3 2 rfl (by decide) rfl ?_
  have h := h _ rfl
  refine v_iconst C dX8_tell_4 ?_
  refine v_iload_n C dX8_tell_5 0 rfl ?_
  refine v_imul C dX8_tell_6 ?_
  refine v_aload_n C dX8_tell_7 1 rfl ?_
  refine g_X8_linesSeen C h0 wd_218 dX8_tell_8 ?_
  refine v_iload_n C dX8_tell_11 0 rfl ?_
  refine v_ishr C dX8_tell_12 ?_
  refine v_iconst C dX8_tell_13 ?_
  refine v_iand C dX8_tell_14 ?_
  refine v_iadd C dX8_tell_15 ?_
  refine v_istore_n C [(3, _), (2, _), (0, _), (1, _)] dX8_tell_16 3 rfl (by decide) rfl ?_
  have h := h _ rfl
  refine v_aload_n C dX8_tell_17 2 rfl ?_
  refine v_dup C dX8_tell_18 rfl ?_
  refine g_X8_linesSeen C h0 wd_218 dX8_tell_19 ?_
  refine v_iconst C dX8_tell_22 ?_
  refine v_iload_n C dX8_tell_23 1 rfl ?_
  refine v_ishl C dX8_tell_24 ?_
  refine v_ior C dX8_tell_25 ?_
  refine p_X8_linesSeen C h0 wd_218 dX8_tell_26 ?_
  have h := h _ rfl
  refine v_aload_n C dX8_tell_29 2 rfl ?_
  refine g_X8_sides C h0 wd_210 dX8_tell_30 ?_
  refine v_iload_n C dX8_tell_33 0 rfl ?_
  refine v_aload_n C dX8_tell_34 2 rfl ?_
  refine g_X8_count C h0 wd_202 dX8_tell_35 ?_
  refine v_iconst C dX8_tell_38 ?_
  refine v_isub C dX8_tell_39 ?_
  refine v_iast C h0.2.2.2.1 h.1 dX8_tell_40 ?_
  have h := h.2
  have h := h _ rfl
  refine v_aload_n C dX8_tell_41 2 rfl ?_
  refine g_X8_ways C h0 wd_212 dX8_tell_42 ?_
  refine v_iload_n C dX8_tell_45 0 rfl ?_
  refine v_iload_n C dX8_tell_46 3 rfl ?_
  refine v_iconst C dX8_tell_47 ?_
  refine v_iand C dX8_tell_48 ?_
  refine v_iast C h0.2.2.2.2.1 h.1 dX8_tell_49 ?_
  have h := h.2
  have h := h _ rfl
  refine v_aload_n C dX8_tell_50 2 rfl ?_
  refine g_X8_lengths C h0 wd_205 dX8_tell_51 ?_
  refine v_aload_n C dX8_tell_54 2 rfl ?_
  refine g_X8_count C h0 wd_202 dX8_tell_55 ?_
  refine v_iconst C dX8_tell_58 ?_
  refine v_isub C dX8_tell_59 ?_
  refine v_dup2 C dX8_tell_60 rfl rfl ?_
  refine v_iald C h0.2.1 h.1 dX8_tell_61 ?_
  have h := h.2
  refine v_iconst C dX8_tell_62 ?_
  refine v_iadd C dX8_tell_63 ?_
  refine v_iast C h0.2.1 h.1 dX8_tell_64 ?_
  have h := h.2
  have h := h _ rfl
  refine v_aload_n C dX8_tell_65 2 rfl ?_
  refine g_X8_walk C h0 wd_215 dX8_tell_66 ?_
  refine v_aload_n C dX8_tell_69 2 rfl ?_
  refine g_X8_told C h0 wd_217 dX8_tell_70 ?_
  refine v_iload_n C dX8_tell_73 3 rfl ?_
  refine v_iast C h0.2.2.2.2.2.2.1 h.1 dX8_tell_74 ?_
  have h := h.2
  have h := h _ rfl
  refine v_aload_n C dX8_tell_75 2 rfl ?_
  refine v_dup C dX8_tell_76 rfl ?_
  refine g_X8_told C h0 wd_217 dX8_tell_77 ?_
  refine v_iconst C dX8_tell_80 ?_
  refine v_iadd C dX8_tell_81 ?_
  refine p_X8_told C h0 wd_217 dX8_tell_82 ?_
  have h := h _ rfl
  exact v_ret C R h dX8_tell_85
abbrev rm_X8_follow : Room := { frames := 2, cells := 0, slots := 0, locals := 44 }
theorem mf_X8_follow : MfB yX8_follow cX8_follow 4 none 1 := ⟨wd_801, wd_5, by decide, by decide, by decide +kernel⟩
def X8_follow_b72 (r0 : Nat) (Q : Wd → Prop) (c4 : Int → Int → Int → Wd → Prop) (e89 : Wd → Prop) (e98 : Wd → Prop) (x1 : Int) (x2 : Int) (x3 : Int) (s0 : Int) (w : Wd) : Prop := X8_tell r0 s0 w (fun w4 => X9_next (r0 + 7) x2 w4 (fun y6 w5 => ((wr y6 = wr x1 → e89 w5) ∧ (¬ wr y6 = wr x1 → c4 x1 y6 (x3 + 1) w5))))
theorem t_X8_follow_b72 {Z : Zw} {E : Amb} {r0 : Nat} {Q : Wd → Prop} {c4 : Int → Int → Int → Wd → Prop} {e89 : Wd → Prop} {e98 : Wd → Prop} (C : Cx Z (adA Z) E cX8_follow "HandleFaces$Tracing" 4 rm_X8_follow) (R : Rt Z E none (qV Z Q)) (h0 : sX8 r0) (hc4 : ∀ (x1 : Int) (x2 : Int) (x3 : Int) (w : Wd), c4 x1 x2 x3 w → V Z (adA Z) E 4 w 4 [(0, rv Z r0), (1, iv x1), (2, iv x2), (3, iv x3)] []) (he89 : ∀ (w : Wd), e89 w → V Z (adA Z) E 4 w 89 [] []) (he98 : ∀ (w : Wd), e98 w → V Z (adA Z) E 4 w 98 [] []) : ∀ (x1 : Int) (x2 : Int) (x3 : Int) (s0 : Int) (w : Wd), X8_follow_b72 r0 Q c4 e89 e98 x1 x2 x3 s0 w → V Z (adA Z) E 4 w 72 [(0, rv Z r0), (1, iv x1), (2, iv x2), (3, iv x3)] [iv s0, rv Z r0] := by
  intro x1 x2 x3 s0 w h
  unfold X8_follow_b72 at h
  refine v_callv C (rn_V C _ (m_X8_tell h0 h) mf_X8_tell wd_816 wp_31 wd_814 rfl rfl ⟨(Nat.le_of_ble_eq_true rfl), (Nat.le_of_ble_eq_true rfl)⟩ h0.1 rfl rfl rfl (Nat.le_of_ble_eq_true rfl) dX8_follow_72) (fun w h => ?_)
  refine v_aload_n C dX8_follow_75 0 rfl ?_
  refine g_X8_walker C h0 wd_216 dX8_follow_76 ?_
  refine v_iload_n C dX8_follow_79 2 rfl ?_
  refine v_calli C (rn_V C _ (m_X9_next h0.2.2.2.2.2.2.2 h) mf_X9_next wd_819 wd_820 wd_818 rfl rfl ⟨(Nat.le_of_ble_eq_true rfl), (Nat.le_of_ble_eq_true rfl)⟩ h0.2.2.2.2.2.2.2.1 rfl rfl rfl (Nat.le_of_ble_eq_true rfl) dX8_follow_80) (fun r w h => ?_)
  refine v_istore_n C [(2, _), (0, _), (1, _), (3, _)] dX8_follow_83 2 rfl (by decide) rfl ?_
  refine v_iload_n C dX8_follow_84 0 rfl ?_
  refine v_iload_n C dX8_follow_85 2 rfl ?_
  refine v_icmp_ne C 92 dX8_follow_86 (by decide) (fun q => ?_) (fun q => ?_)
  · have h := h.2 q
    refine v_iinc C [(3, _), (2, _), (0, _), (1, _)] dX8_follow_92 3 rfl (by decide) rfl ?_
    refine v_goto C 4 dX8_follow_95 (by decide) ?_
    refine v_sub [2, 3, 1, 0] rfl ?_
    exact hc4 _ _ _ _ h
  · have h := h.1 q
    refine v_sub [] rfl ?_
    exact he89 _ h
def X8_follow_l4 (r0 : Nat) (Q : Wd → Prop) (e89 : Wd → Prop) (e98 : Wd → Prop) : Nat → Int → Int → Int → Wd → Prop
  | 0 => fun _ _ _ _ => False
  | n + 1 => fun x1 x2 x3 w => ((wr (w (r0 + 7) 0) ≤ wr x3 → e98 w) ∧ (¬ wr (w (r0 + 7) 0) ≤ wr x3 → ((wr 20 ≤ wr (w r0 8) → e98 w) ∧ (¬ wr 20 ≤ wr (w r0 8) → X9_opposite (r0 + 7) x2 w (fun y2 w1 => (∀ w3, w3 = up w1 r0 10 (lor (w r0 10) (lor (lsl 1 x2) (lsl 1 y2))) → ((wr (w3 (r0 + 7) 0) ≤ wr x2 → X8_follow_b72 r0 Q (X8_follow_l4 r0 Q e89 e98 n) e89 e98 x1 x2 x3 (x2 - (w3 (r0 + 7) 0)) w3) ∧ (¬ wr (w3 (r0 + 7) 0) ≤ wr x2 → X8_follow_b72 r0 Q (X8_follow_l4 r0 Q e89 e98 n) e89 e98 x1 x2 x3 x2 w3))))))))
theorem t_X8_follow_l4 {Z : Zw} {E : Amb} {r0 : Nat} {Q : Wd → Prop} {e89 : Wd → Prop} {e98 : Wd → Prop} (C : Cx Z (adA Z) E cX8_follow "HandleFaces$Tracing" 4 rm_X8_follow) (R : Rt Z E none (qV Z Q)) (h0 : sX8 r0) (he89 : ∀ (w : Wd), e89 w → V Z (adA Z) E 4 w 89 [] []) (he98 : ∀ (w : Wd), e98 w → V Z (adA Z) E 4 w 98 [] []) : ∀ (n : Nat) (x1 : Int) (x2 : Int) (x3 : Int) (w : Wd), X8_follow_l4 r0 Q e89 e98 n x1 x2 x3 w → V Z (adA Z) E 4 w 4 [(0, rv Z r0), (1, iv x1), (2, iv x2), (3, iv x3)] [] := by
  intro n
  induction n with
  | zero => intro x1 x2 x3 w h; exact h.elim
  | succ n ih =>
    intro x1 x2 x3 w h
    unfold X8_follow_l4 at h
    refine v_iload_n C dX8_follow_4 3 rfl ?_
    refine v_aload_n C dX8_follow_5 0 rfl ?_
    refine g_X8_walker C h0 wd_216 dX8_follow_6 ?_
    refine g_X9_arms C h0.2.2.2.2.2.2.2 wd_187 dX8_follow_9 ?_
    refine v_icmp_ge C 98 dX8_follow_12 (by decide) (fun q => ?_) (fun q => ?_)
    · have h := h.1 q
      refine v_sub [] rfl ?_
      exact he98 _ h
    · have h := h.2 q
      refine v_aload_n C dX8_follow_15 0 rfl ?_
      refine g_X8_told C h0 wd_217 dX8_follow_16 ?_
      refine v_bipush C dX8_follow_19 (by decide) ?_
      refine v_icmp_ge C 98 dX8_follow_21 (by decide) (fun q => ?_) (fun q => ?_)
      · have h := h.1 q
        refine v_sub [] rfl ?_
        exact he98 _ h
      · have h := h.2 q
        refine v_aload_n C dX8_follow_24 0 rfl ?_
        refine v_dup C dX8_follow_25 rfl ?_
        refine g_X8_statesSeen C h0 wd_219 dX8_follow_26 ?_
        refine v_lconst (x := 1) C dX8_follow_29 (by decide) ?_
        refine v_iload_n C dX8_follow_30 2 rfl ?_
        refine v_lshl C dX8_follow_31 ?_
        refine v_lconst (x := 1) C dX8_follow_32 (by decide) ?_
        refine v_aload_n C dX8_follow_33 0 rfl ?_
        refine g_X8_walker C h0 wd_216 dX8_follow_34 ?_
        refine v_iload_n C dX8_follow_37 2 rfl ?_
        refine v_calli C (rn_V C _ (m_X9_opposite h0.2.2.2.2.2.2.2 h) mf_X9_opposite wd_803 wd_804 wd_802 rfl rfl ⟨(Nat.le_of_ble_eq_true rfl), (Nat.le_of_ble_eq_true rfl)⟩ h0.2.2.2.2.2.2.2.1 rfl rfl rfl (Nat.le_of_ble_eq_true rfl) dX8_follow_38) (fun r w h => ?_)
        refine v_lshl C dX8_follow_41 ?_
        refine v_lor C dX8_follow_42 ?_
        refine v_lor C dX8_follow_43 ?_
        refine p_X8_statesSeen C h0 wd_219 dX8_follow_44 ?_
        have h := h _ rfl
        refine v_aload_n C dX8_follow_47 0 rfl ?_
        refine v_iload_n C dX8_follow_48 2 rfl ?_
        refine v_aload_n C dX8_follow_49 0 rfl ?_
        refine g_X8_walker C h0 wd_216 dX8_follow_50 ?_
        refine g_X9_arms C h0.2.2.2.2.2.2.2 wd_187 dX8_follow_53 ?_
        refine v_icmp_ge C 63 dX8_follow_56 (by decide) (fun q => ?_) (fun q => ?_)
        · have h := h.1 q
          refine v_iload_n C dX8_follow_63 2 rfl ?_
          refine v_aload_n C dX8_follow_64 0 rfl ?_
          refine g_X8_walker C h0 wd_216 dX8_follow_65 ?_
          refine g_X9_arms C h0.2.2.2.2.2.2.2 wd_187 dX8_follow_68 ?_
          refine v_isub C dX8_follow_71 ?_
          exact t_X8_follow_b72 C R h0 ih he89 he98 _ _ _ _ _ h
        · have h := h.2 q
          refine v_iload_n C dX8_follow_59 2 rfl ?_
          refine v_goto C 72 dX8_follow_60 (by decide) ?_
          exact t_X8_follow_b72 C R h0 ih he89 he98 _ _ _ _ _ h
def X8_follow_b98 (r0 : Nat) (Q : Wd → Prop) (w : Wd) : Prop := Q w
theorem t_X8_follow_b98 {Z : Zw} {E : Amb} {r0 : Nat} {Q : Wd → Prop} (C : Cx Z (adA Z) E cX8_follow "HandleFaces$Tracing" 4 rm_X8_follow) (R : Rt Z E none (qV Z Q)) (h0 : sX8 r0) : ∀ (w : Wd), X8_follow_b98 r0 Q w → V Z (adA Z) E 4 w 98 [] [] := by
  intro w h
  unfold X8_follow_b98 at h
  exact v_ret C R h dX8_follow_98
def X8_follow_b89 (r0 : Nat) (Q : Wd → Prop) (w : Wd) : Prop := X8_follow_b98 r0 Q w
theorem t_X8_follow_b89 {Z : Zw} {E : Amb} {r0 : Nat} {Q : Wd → Prop} (C : Cx Z (adA Z) E cX8_follow "HandleFaces$Tracing" 4 rm_X8_follow) (R : Rt Z E none (qV Z Q)) (h0 : sX8 r0) : ∀ (w : Wd), X8_follow_b89 r0 Q w → V Z (adA Z) E 4 w 89 [] [] := by
  intro w h
  unfold X8_follow_b89 at h
  refine v_goto C 98 dX8_follow_89 (by decide) ?_
  exact t_X8_follow_b98 C R h0 _ h
def X8_follow (r0 : Nat) (x1 : Int) (w : Wd) (Q : Wd → Prop) : Prop := (∃ m, X8_follow_l4 r0 Q (X8_follow_b89 r0 Q) (X8_follow_b98 r0 Q) m x1 x1 0 w)
theorem m_X8_follow {Z : Zw} {l : Launch} {r0 : Nat} {x1 : Int} {w : Wd} {Q : Wd → Prop} (h0 : sX8 r0) (h : X8_follow r0 x1 w Q) : CtQ Z l yX8_follow cX8_follow 4 none rm_X8_follow [rv Z r0, iv x1] w (qV Z Q) := by
  refine ct_of (by decide) (Nat.le_of_ble_eq_true rfl) (fun E eE C R => ?_)
  subst eE
  have C : Cx Z (adA Z) E cX8_follow "HandleFaces$Tracing" 4 rm_X8_follow := C
  unfold X8_follow at h
  show V Z (adA Z) E 4 w 0 [(0, rv Z r0), (1, iv x1)] []
  refine v_iload_n C dX8_follow_0 1 rfl ?_
  refine v_istore_n C [(2, _), (0, _), (1, _)] dX8_follow_1 2 rfl (by decide) rfl ?_
  refine v_iconst C dX8_follow_2 ?_
  refine v_istore_n C [(3, _), (2, _), (0, _), (1, _)] dX8_follow_3 3 rfl (by decide) rfl ?_
  refine v_sub [2, 3, 1, 0] rfl ?_
  obtain ⟨m, h⟩ := h
  exact t_X8_follow_l4 C R h0 (t_X8_follow_b89 C R h0) (t_X8_follow_b98 C R h0) m _ _ _ _ h
abbrev rm_X8_setNeighbours : Room := { frames := 1, cells := 0, slots := 0, locals := 23 }
theorem mf_X8_setNeighbours : MfB yX8_setNeighbours cX8_setNeighbours 3 none 1 := ⟨wd_825, wd_5, by decide, by decide, by decide +kernel⟩
def X8_setNeighbours_l10 (r0 : Nat) (Q : Wd → Prop) (e77 : Wd → Prop) : Nat → Int → Int → Wd → Prop
  | 0 => fun _ _ _ => False
  | n + 1 => fun x1 x2 w => ((wr x1 ≤ wr x2 → e77 w) ∧ (¬ wr x1 ≤ wr x2 → (ix (2 * x2) 20 ∧ (ix (rd w (r0 + 3) (2 * x2)) 16 ∧ (ix ((2 * x2) + 1) 20 ∧ (ix (rd w (r0 + 3) (2 * x2)) 16 ∧ (∀ w2, w2 = wt w (r0 + 2) (rd w (r0 + 3) (2 * x2)) (ior (rd w (r0 + 2) (rd w (r0 + 3) (2 * x2))) (isl 1 (rd w (r0 + 3) ((2 * x2) + 1)))) → (ix ((2 * x2) + 1) 20 ∧ (ix (rd w2 (r0 + 3) ((2 * x2) + 1)) 16 ∧ (ix (2 * x2) 20 ∧ (ix (rd w2 (r0 + 3) ((2 * x2) + 1)) 16 ∧ (∀ w3, w3 = wt w2 (r0 + 2) (rd w2 (r0 + 3) ((2 * x2) + 1)) (ior (rd w2 (r0 + 2) (rd w2 (r0 + 3) ((2 * x2) + 1))) (isl 1 (rd w2 (r0 + 3) (2 * x2)))) → (X8_setNeighbours_l10 r0 Q e77 n) x1 (x2 + 1) w3))))))))))))
theorem t_X8_setNeighbours_l10 {Z : Zw} {E : Amb} {r0 : Nat} {Q : Wd → Prop} {e77 : Wd → Prop} (C : Cx Z (adA Z) E cX8_setNeighbours "HandleFaces$Tracing" 3 rm_X8_setNeighbours) (R : Rt Z E none (qV Z Q)) (h0 : sX8 r0) (he77 : ∀ (w : Wd), e77 w → V Z (adA Z) E 3 w 77 [] []) : ∀ (n : Nat) (x1 : Int) (x2 : Int) (w : Wd), X8_setNeighbours_l10 r0 Q e77 n x1 x2 w → V Z (adA Z) E 3 w 10 [(0, rv Z r0), (1, iv x1), (2, iv x2)] [] := by
  intro n
  induction n with
  | zero => intro x1 x2 w h; exact h.elim
  | succ n ih =>
    intro x1 x2 w h
    unfold X8_setNeighbours_l10 at h
    refine v_iload_n C dX8_setNeighbours_10 2 rfl ?_
    refine v_iload_n C dX8_setNeighbours_11 1 rfl ?_
    refine v_icmp_ge C 77 dX8_setNeighbours_12 (by decide) (fun q => ?_) (fun q => ?_)
    · have h := h.1 q
      refine v_sub [] rfl ?_
      exact he77 _ h
    · have h := h.2 q
      refine v_aload_n C dX8_setNeighbours_15 0 rfl ?_
      refine g_X8_neighbours C h0 wd_207 dX8_setNeighbours_16 ?_
      refine v_aload_n C dX8_setNeighbours_19 0 rfl ?_
      refine g_X8_sides C h0 wd_210 dX8_setNeighbours_20 ?_
      refine v_iconst C dX8_setNeighbours_23 ?_
      refine v_iload_n C dX8_setNeighbours_24 2 rfl ?_
      refine v_imul C dX8_setNeighbours_25 ?_
      refine v_iald C h0.2.2.2.1 h.1 dX8_setNeighbours_26 ?_
      have h := h.2
      refine v_dup2 C dX8_setNeighbours_27 rfl rfl ?_
      refine v_iald C h0.2.2.1 h.1 dX8_setNeighbours_28 ?_
      have h := h.2
      refine v_iconst C dX8_setNeighbours_29 ?_
      refine v_aload_n C dX8_setNeighbours_30 0 rfl ?_
      refine g_X8_sides C h0 wd_210 dX8_setNeighbours_31 ?_
      refine v_iconst C dX8_setNeighbours_34 ?_
      refine v_iload_n C dX8_setNeighbours_35 2 rfl ?_
      refine v_imul C dX8_setNeighbours_36 ?_
      refine v_iconst C dX8_setNeighbours_37 ?_
      refine v_iadd C dX8_setNeighbours_38 ?_
      refine v_iald C h0.2.2.2.1 h.1 dX8_setNeighbours_39 ?_
      have h := h.2
      refine v_ishl C dX8_setNeighbours_40 ?_
      refine v_ior C dX8_setNeighbours_41 ?_
      refine v_iast C h0.2.2.1 h.1 dX8_setNeighbours_42 ?_
      have h := h.2
      have h := h _ rfl
      refine v_aload_n C dX8_setNeighbours_43 0 rfl ?_
      refine g_X8_neighbours C h0 wd_207 dX8_setNeighbours_44 ?_
      refine v_aload_n C dX8_setNeighbours_47 0 rfl ?_
      refine g_X8_sides C h0 wd_210 dX8_setNeighbours_48 ?_
      refine v_iconst C dX8_setNeighbours_51 ?_
      refine v_iload_n C dX8_setNeighbours_52 2 rfl ?_
      refine v_imul C dX8_setNeighbours_53 ?_
      refine v_iconst C dX8_setNeighbours_54 ?_
      refine v_iadd C dX8_setNeighbours_55 ?_
      refine v_iald C h0.2.2.2.1 h.1 dX8_setNeighbours_56 ?_
      have h := h.2
      refine v_dup2 C dX8_setNeighbours_57 rfl rfl ?_
      refine v_iald C h0.2.2.1 h.1 dX8_setNeighbours_58 ?_
      have h := h.2
      refine v_iconst C dX8_setNeighbours_59 ?_
      refine v_aload_n C dX8_setNeighbours_60 0 rfl ?_
      refine g_X8_sides C h0 wd_210 dX8_setNeighbours_61 ?_
      refine v_iconst C dX8_setNeighbours_64 ?_
      refine v_iload_n C dX8_setNeighbours_65 2 rfl ?_
      refine v_imul C dX8_setNeighbours_66 ?_
      refine v_iald C h0.2.2.2.1 h.1 dX8_setNeighbours_67 ?_
      have h := h.2
      refine v_ishl C dX8_setNeighbours_68 ?_
      refine v_ior C dX8_setNeighbours_69 ?_
      refine v_iast C h0.2.2.1 h.1 dX8_setNeighbours_70 ?_
      have h := h.2
      have h := h _ rfl
      refine v_iinc C [(2, _), (0, _), (1, _)] dX8_setNeighbours_71 2 rfl (by decide) rfl ?_
      refine v_goto C 10 dX8_setNeighbours_74 (by decide) ?_
      refine v_sub [1, 2, 0] rfl ?_
      exact ih _ _ _ h
def X8_setNeighbours_b77 (r0 : Nat) (Q : Wd → Prop) (w : Wd) : Prop := Q w
theorem t_X8_setNeighbours_b77 {Z : Zw} {E : Amb} {r0 : Nat} {Q : Wd → Prop} (C : Cx Z (adA Z) E cX8_setNeighbours "HandleFaces$Tracing" 3 rm_X8_setNeighbours) (R : Rt Z E none (qV Z Q)) (h0 : sX8 r0) : ∀ (w : Wd), X8_setNeighbours_b77 r0 Q w → V Z (adA Z) E 3 w 77 [] [] := by
  intro w h
  unfold X8_setNeighbours_b77 at h
  exact v_ret C R h dX8_setNeighbours_77
def X8_setNeighbours (r0 : Nat) (x1 : Int) (w : Wd) (Q : Wd → Prop) : Prop := J7_fill_53178 (r0 + 2) 0 w (fun w1 => (∃ m, X8_setNeighbours_l10 r0 Q (X8_setNeighbours_b77 r0 Q) m x1 0 w1))
theorem m_X8_setNeighbours {Z : Zw} {l : Launch} {r0 : Nat} {x1 : Int} {w : Wd} {Q : Wd → Prop} (h0 : sX8 r0) (h : X8_setNeighbours r0 x1 w Q) : CtQ Z l yX8_setNeighbours cX8_setNeighbours 3 none rm_X8_setNeighbours [rv Z r0, iv x1] w (qV Z Q) := by
  refine ct_of (by decide) (Nat.le_of_ble_eq_true rfl) (fun E eE C R => ?_)
  subst eE
  have C : Cx Z (adA Z) E cX8_setNeighbours "HandleFaces$Tracing" 3 rm_X8_setNeighbours := C
  unfold X8_setNeighbours at h
  show V Z (adA Z) E 3 w 0 [(0, rv Z r0), (1, iv x1)] []
  refine v_aload_n C dX8_setNeighbours_0 0 rfl ?_
  refine g_X8_neighbours C h0 wd_207 dX8_setNeighbours_1 ?_
  refine v_iconst C dX8_setNeighbours_4 ?_
  refine v_callv C (rn_S C _ (m_J7_fill_53178 (aln_of h0.2.2.1) h) mf_J7_fill_53178 wd_579 wd_826 rfl rfl ⟨(Nat.le_of_ble_eq_true rfl), (Nat.le_of_ble_eq_true rfl)⟩ rfl rfl (Nat.le_of_ble_eq_true rfl) dX8_setNeighbours_5) (fun w h => ?_)
  refine v_iconst C dX8_setNeighbours_8 ?_
  refine v_istore_n C [(2, _), (0, _), (1, _)] dX8_setNeighbours_9 2 rfl (by decide) rfl ?_
  refine v_sub [1, 2, 0] rfl ?_
  obtain ⟨m, h⟩ := h
  exact t_X8_setNeighbours_l10 C R h0 (t_X8_setNeighbours_b77 C R h0) m _ _ _ h
abbrev rm_X8_trace : Room := { frames := 3, cells := 0, slots := 0, locals := 72 }
theorem mf_X8_trace : MfB yX8_trace cX8_trace 3 none 1 := ⟨wd_792, wd_5, by decide, by decide, by decide +kernel⟩
def X8_trace_l30 (r0 : Nat) (r1 : Nat) (Q : Wd → Prop) (e71 : Wd → Prop) : Nat → Int → Wd → Prop
  | 0 => fun _ _ => False
  | n + 1 => fun x2 w => ((wr (2 * (w (r0 + 7) 0)) ≤ wr x2 → e71 w) ∧ (¬ wr (2 * (w (r0 + 7) 0)) ≤ wr x2 → ((wr (lcm (lan (lsr (w r0 10) x2) 1) 0) = 0 → X8_beginFace r0 w (fun w6 => X8_follow r0 x2 w6 (fun w7 => (X8_trace_l30 r0 r1 Q e71 n) (x2 + 1) w7))) ∧ (¬ wr (lcm (lan (lsr (w r0 10) x2) 1) 0) = 0 → (X8_trace_l30 r0 r1 Q e71 n) (x2 + 1) w))))
theorem t_X8_trace_l30 {Z : Zw} {E : Amb} {r0 : Nat} {r1 : Nat} {Q : Wd → Prop} {e71 : Wd → Prop} (C : Cx Z (adA Z) E cX8_trace "HandleFaces$Tracing" 3 rm_X8_trace) (R : Rt Z E none (qV Z Q)) (h0 : sX8 r0) (h1 : sX1 r1) (he71 : ∀ (w : Wd), e71 w → V Z (adA Z) E 3 w 71 [(0, rv Z r0), (1, rv Z r1)] []) : ∀ (n : Nat) (x2 : Int) (w : Wd), X8_trace_l30 r0 r1 Q e71 n x2 w → V Z (adA Z) E 3 w 30 [(0, rv Z r0), (1, rv Z r1), (2, iv x2)] [] := by
  intro n
  induction n with
  | zero => intro x2 w h; exact h.elim
  | succ n ih =>
    intro x2 w h
    unfold X8_trace_l30 at h
    refine v_iload_n C dX8_trace_30 2 rfl ?_
    refine v_iconst C dX8_trace_31 ?_
    refine v_aload_n C dX8_trace_32 0 rfl ?_
    refine g_X8_walker C h0 wd_216 dX8_trace_33 ?_
    refine g_X9_arms C h0.2.2.2.2.2.2.2 wd_187 dX8_trace_36 ?_
    refine v_imul C dX8_trace_39 ?_
    refine v_icmp_ge C 71 dX8_trace_40 (by decide) (fun q => ?_) (fun q => ?_)
    · have h := h.1 q
      refine v_sub [0, 1] rfl ?_
      exact he71 _ h
    · have h := h.2 q
      refine v_aload_n C dX8_trace_43 0 rfl ?_
      refine g_X8_statesSeen C h0 wd_219 dX8_trace_44 ?_
      refine v_iload_n C dX8_trace_47 2 rfl ?_
      refine v_lshr C dX8_trace_48 ?_
      refine v_lconst (x := 1) C dX8_trace_49 (by decide) ?_
      refine v_land C dX8_trace_50 ?_
      refine v_lconst (x := 0) C dX8_trace_51 (by decide) ?_
      refine v_lcmp C dX8_trace_52 ?_
      refine v_if_ne C 65 dX8_trace_53 (by decide) (fun q => ?_) (fun q => ?_)
      · have h := h.2 q
        refine v_iinc C [(2, _), (0, _), (1, _)] dX8_trace_65 2 rfl (by decide) rfl ?_
        refine v_goto C 30 dX8_trace_68 (by decide) ?_
        refine v_sub [1, 2, 0] rfl ?_
        exact ih _ _ h
      · have h := h.1 q
        refine v_aload_n C dX8_trace_56 0 rfl ?_
        refine v_callv C (rn_V C _ (m_X8_beginFace h0 h) mf_X8_beginFace wd_796 wp_27 wd_794 rfl rfl ⟨(Nat.le_of_ble_eq_true rfl), (Nat.le_of_ble_eq_true rfl)⟩ h0.1 rfl rfl rfl (Nat.le_of_ble_eq_true rfl) dX8_trace_57) (fun w h => ?_)
        refine v_aload_n C dX8_trace_60 0 rfl ?_
        refine v_iload_n C dX8_trace_61 2 rfl ?_
        refine v_callv C (rn_V C _ (m_X8_follow h0 h) mf_X8_follow wd_800 wp_28 wd_798 rfl rfl ⟨(Nat.le_of_ble_eq_true rfl), (Nat.le_of_ble_eq_true rfl)⟩ h0.1 rfl rfl rfl (Nat.le_of_ble_eq_true rfl) dX8_trace_62) (fun w h => ?_)
        refine v_iinc C [(2, _), (0, _), (1, _)] dX8_trace_65 2 rfl (by decide) rfl ?_
        refine v_goto C 30 dX8_trace_68 (by decide) ?_
        refine v_sub [1, 2, 0] rfl ?_
        exact ih _ _ h
def X8_trace_l73 (r0 : Nat) (r1 : Nat) (Q : Wd → Prop) (e100 : Wd → Prop) : Nat → Int → Wd → Prop
  | 0 => fun _ _ => False
  | n + 1 => fun x2 w => ((wr (w r1 0) ≤ wr x2 → e100 w) ∧ (¬ wr (w r1 0) ≤ wr x2 → (ix x2 6 ∧ ((wr (rd w (r1 + 2) x2) = 0 → X8_beginFace r0 w (fun w8 => (X8_trace_l73 r0 r1 Q e100 n) (x2 + 1) w8)) ∧ (¬ wr (rd w (r1 + 2) x2) = 0 → (X8_trace_l73 r0 r1 Q e100 n) (x2 + 1) w)))))
theorem t_X8_trace_l73 {Z : Zw} {E : Amb} {r0 : Nat} {r1 : Nat} {Q : Wd → Prop} {e100 : Wd → Prop} (C : Cx Z (adA Z) E cX8_trace "HandleFaces$Tracing" 3 rm_X8_trace) (R : Rt Z E none (qV Z Q)) (h0 : sX8 r0) (h1 : sX1 r1) (he100 : ∀ (w : Wd), e100 w → V Z (adA Z) E 3 w 100 [(0, rv Z r0), (1, rv Z r1)] []) : ∀ (n : Nat) (x2 : Int) (w : Wd), X8_trace_l73 r0 r1 Q e100 n x2 w → V Z (adA Z) E 3 w 73 [(0, rv Z r0), (1, rv Z r1), (2, iv x2)] [] := by
  intro n
  induction n with
  | zero => intro x2 w h; exact h.elim
  | succ n ih =>
    intro x2 w h
    unfold X8_trace_l73 at h
    refine v_iload_n C dX8_trace_73 2 rfl ?_
    refine v_aload_n C dX8_trace_74 1 rfl ?_
    refine g_X1_posts C h1 wd_40 dX8_trace_75 ?_
    refine v_icmp_ge C 100 dX8_trace_78 (by decide) (fun q => ?_) (fun q => ?_)
    · have h := h.1 q
      refine v_sub [0, 1] rfl ?_
      exact he100 _ h
    · have h := h.2 q
      refine v_aload_n C dX8_trace_81 1 rfl ?_
      refine g_X1_degrees C h1 wd_64 dX8_trace_82 ?_
      refine v_iload_n C dX8_trace_85 2 rfl ?_
      refine v_iald C h1.2.2.1 h.1 dX8_trace_86 ?_
      have h := h.2
      refine v_if_ne C 94 dX8_trace_87 (by decide) (fun q => ?_) (fun q => ?_)
      · have h := h.2 q
        refine v_iinc C [(2, _), (0, _), (1, _)] dX8_trace_94 2 rfl (by decide) rfl ?_
        refine v_goto C 73 dX8_trace_97 (by decide) ?_
        refine v_sub [1, 2, 0] rfl ?_
        exact ih _ _ h
      · have h := h.1 q
        refine v_aload_n C dX8_trace_90 0 rfl ?_
        refine v_callv C (rn_V C _ (m_X8_beginFace h0 h) mf_X8_beginFace wd_796 wp_27 wd_794 rfl rfl ⟨(Nat.le_of_ble_eq_true rfl), (Nat.le_of_ble_eq_true rfl)⟩ h0.1 rfl rfl rfl (Nat.le_of_ble_eq_true rfl) dX8_trace_91) (fun w h => ?_)
        refine v_iinc C [(2, _), (0, _), (1, _)] dX8_trace_94 2 rfl (by decide) rfl ?_
        refine v_goto C 73 dX8_trace_97 (by decide) ?_
        refine v_sub [1, 2, 0] rfl ?_
        exact ih _ _ h
def X8_trace_b100 (r0 : Nat) (r1 : Nat) (Q : Wd → Prop) (w : Wd) : Prop := X8_setNeighbours r0 (w r1 1) w (fun w9 => Q w9)
theorem t_X8_trace_b100 {Z : Zw} {E : Amb} {r0 : Nat} {r1 : Nat} {Q : Wd → Prop} (C : Cx Z (adA Z) E cX8_trace "HandleFaces$Tracing" 3 rm_X8_trace) (R : Rt Z E none (qV Z Q)) (h0 : sX8 r0) (h1 : sX1 r1) : ∀ (w : Wd), X8_trace_b100 r0 r1 Q w → V Z (adA Z) E 3 w 100 [(0, rv Z r0), (1, rv Z r1)] [] := by
  intro w h
  unfold X8_trace_b100 at h
  refine v_aload_n C dX8_trace_100 0 rfl ?_
  refine v_aload_n C dX8_trace_101 1 rfl ?_
  refine g_X1_lines C h1 wd_47 dX8_trace_102 ?_
  refine v_callv C (rn_V C _ (m_X8_setNeighbours h0 h) mf_X8_setNeighbours wd_824 wp_32 wd_822 rfl rfl ⟨(Nat.le_of_ble_eq_true rfl), (Nat.le_of_ble_eq_true rfl)⟩ h0.1 rfl rfl rfl (Nat.le_of_ble_eq_true rfl) dX8_trace_105) (fun w h => ?_)
  exact v_ret C R h dX8_trace_108
def X8_trace_b71 (r0 : Nat) (r1 : Nat) (Q : Wd → Prop) (w : Wd) : Prop := (∃ m, X8_trace_l73 r0 r1 Q (X8_trace_b100 r0 r1 Q) m 0 w)
theorem t_X8_trace_b71 {Z : Zw} {E : Amb} {r0 : Nat} {r1 : Nat} {Q : Wd → Prop} (C : Cx Z (adA Z) E cX8_trace "HandleFaces$Tracing" 3 rm_X8_trace) (R : Rt Z E none (qV Z Q)) (h0 : sX8 r0) (h1 : sX1 r1) : ∀ (w : Wd), X8_trace_b71 r0 r1 Q w → V Z (adA Z) E 3 w 71 [(0, rv Z r0), (1, rv Z r1)] [] := by
  intro w h
  unfold X8_trace_b71 at h
  refine v_iconst C dX8_trace_71 ?_
  refine v_istore_n C [(2, _), (0, _), (1, _)] dX8_trace_72 2 rfl (by decide) rfl ?_
  refine v_sub [1, 2, 0] rfl ?_
  obtain ⟨m, h⟩ := h
  exact t_X8_trace_l73 C R h0 h1 (t_X8_trace_b100 C R h0 h1) m _ _ h
def X8_trace (r0 : Nat) (r1 : Nat) (w : Wd) (Q : Wd → Prop) : Prop := X9_enter (r0 + 7) r1 w (fun w1 => (∀ w2, w2 = up w1 r0 0 0 → (∀ w3, w3 = up w2 r0 8 0 → (∀ w4, w4 = up w3 r0 9 0 → (∀ w5, w5 = up w4 r0 10 0 → (∃ m, X8_trace_l30 r0 r1 Q (X8_trace_b71 r0 r1 Q) m 0 w5))))))
theorem m_X8_trace {Z : Zw} {l : Launch} {r0 : Nat} {r1 : Nat} {w : Wd} {Q : Wd → Prop} (h0 : sX8 r0) (h1 : sX1 r1) (h : X8_trace r0 r1 w Q) : CtQ Z l yX8_trace cX8_trace 3 none rm_X8_trace [rv Z r0, rv Z r1] w (qV Z Q) := by
  refine ct_of (by decide) (Nat.le_of_ble_eq_true rfl) (fun E eE C R => ?_)
  subst eE
  have C : Cx Z (adA Z) E cX8_trace "HandleFaces$Tracing" 3 rm_X8_trace := C
  unfold X8_trace at h
  show V Z (adA Z) E 3 w 0 [(0, rv Z r0), (1, rv Z r1)] []
  refine v_aload_n C dX8_trace_0 0 rfl ?_
  refine g_X8_walker C h0 wd_216 dX8_trace_1 ?_
  refine v_aload_n C dX8_trace_4 1 rfl ?_
  refine v_callv C (rn_V C _ (m_X9_enter h0.2.2.2.2.2.2.2 h1 h) mf_X9_enter wd_718 wd_719 wd_793 rfl rfl ⟨(Nat.le_of_ble_eq_true rfl), (Nat.le_of_ble_eq_true rfl)⟩ h0.2.2.2.2.2.2.2.1 rfl rfl rfl (Nat.le_of_ble_eq_true rfl) dX8_trace_5) (fun w h => ?_)
  refine v_aload_n C dX8_trace_8 0 rfl ?_
  refine v_iconst C dX8_trace_9 ?_
  refine p_X8_count C h0 wd_202 dX8_trace_10 ?_
  have h := h _ rfl
  refine v_aload_n C dX8_trace_13 0 rfl ?_
  refine v_iconst C dX8_trace_14 ?_
  refine p_X8_told C h0 wd_217 dX8_trace_15 ?_
  have h := h _ rfl
  refine v_aload_n C dX8_trace_18 0 rfl ?_
  refine v_iconst C dX8_trace_19 ?_
  refine p_X8_linesSeen C h0 wd_218 dX8_trace_20 ?_
  have h := h _ rfl
  refine v_aload_n C dX8_trace_23 0 rfl ?_
  refine v_lconst (x := 0) C dX8_trace_24 (by decide) ?_
  refine p_X8_statesSeen C h0 wd_219 dX8_trace_25 ?_
  have h := h _ rfl
  refine v_iconst C dX8_trace_28 ?_
  refine v_istore_n C [(2, _), (0, _), (1, _)] dX8_trace_29 2 rfl (by decide) rfl ?_
  refine v_sub [1, 2, 0] rfl ?_
  obtain ⟨m, h⟩ := h
  exact t_X8_trace_l30 C R h0 h1 (t_X8_trace_b71 C R h0 h1) m _ _ h
abbrev rm_X8_hasFace : Room := { frames := 0, cells := 0, slots := 0, locals := 0 }
theorem mf_X8_hasFace : MfB yX8_hasFace cX8_hasFace 2 (some .boolean) 1 := ⟨wd_897, wd_5, by decide, by decide, by decide +kernel⟩
def X8_hasFace_b16 (r0 : Nat) (Q : Int → Wd → Prop) (w : Wd) : Prop := Q 0 w
theorem t_X8_hasFace_b16 {Z : Zw} {E : Amb} {r0 : Nat} {Q : Int → Wd → Prop} (C : Cx Z (adA Z) E cX8_hasFace "HandleFaces$Tracing" 2 rm_X8_hasFace) (R : Rt Z E (some .boolean) (qI Z Q)) (h0 : sX8 r0) : ∀ (w : Wd), X8_hasFace_b16 r0 Q w → V Z (adA Z) E 2 w 16 [] [] := by
  intro w h
  unfold X8_hasFace_b16 at h
  refine v_iconst C dX8_hasFace_16 ?_
  exact v_zret C R (Or.inl rfl) h dX8_hasFace_17
def X8_hasFace (r0 : Nat) (x1 : Int) (w : Wd) (Q : Int → Wd → Prop) : Prop := ((wr x1 < 0 → X8_hasFace_b16 r0 Q w) ∧ (¬ wr x1 < 0 → ((wr (w r0 0) ≤ wr x1 → X8_hasFace_b16 r0 Q w) ∧ (¬ wr (w r0 0) ≤ wr x1 → Q 1 w))))
theorem m_X8_hasFace {Z : Zw} {l : Launch} {r0 : Nat} {x1 : Int} {w : Wd} {Q : Int → Wd → Prop} (h0 : sX8 r0) (h : X8_hasFace r0 x1 w Q) : CtQ Z l yX8_hasFace cX8_hasFace 2 (some .boolean) rm_X8_hasFace [rv Z r0, iv x1] w (qI Z Q) := by
  refine ct_of (by decide) (Nat.le_of_ble_eq_true rfl) (fun E eE C R => ?_)
  subst eE
  have C : Cx Z (adA Z) E cX8_hasFace "HandleFaces$Tracing" 2 rm_X8_hasFace := C
  unfold X8_hasFace at h
  show V Z (adA Z) E 2 w 0 [(0, rv Z r0), (1, iv x1)] []
  refine v_iload_n C dX8_hasFace_0 1 rfl ?_
  refine v_if_lt C 16 dX8_hasFace_1 (by decide) (fun q => ?_) (fun q => ?_)
  · have h := h.1 q
    refine v_sub [] rfl ?_
    exact t_X8_hasFace_b16 C R h0 _ h
  · have h := h.2 q
    refine v_iload_n C dX8_hasFace_4 1 rfl ?_
    refine v_aload_n C dX8_hasFace_5 0 rfl ?_
    refine g_X8_count C h0 wd_202 dX8_hasFace_6 ?_
    refine v_icmp_ge C 16 dX8_hasFace_9 (by decide) (fun q => ?_) (fun q => ?_)
    · have h := h.1 q
      refine v_sub [] rfl ?_
      exact t_X8_hasFace_b16 C R h0 _ h
    · have h := h.2 q
      refine v_iconst C dX8_hasFace_12 ?_
      refine v_goto C 17 dX8_hasFace_13 (by decide) ?_
      exact v_zret C R (Or.inr rfl) h dX8_hasFace_17
abbrev rm_X8_armAt : Room := { frames := 0, cells := 0, slots := 0, locals := 0 }
theorem mf_X8_armAt : MfB yX8_armAt cX8_armAt 3 (some .int) 2 := ⟨wd_843, wd_5, by decide, by decide, by decide +kernel⟩
def X8_armAt (r0 : Nat) (x1 : Int) (x2 : Int) (w : Wd) (Q : Int → Wd → Prop) : Prop := (ix x1 16 ∧ (ix ((rd w (r0 + 5) x1) + x2) 20 ∧ Q (wr (rd w (r0 + 6) ((rd w (r0 + 5) x1) + x2))) w))
theorem m_X8_armAt {Z : Zw} {l : Launch} {r0 : Nat} {x1 : Int} {x2 : Int} {w : Wd} {Q : Int → Wd → Prop} (h0 : sX8 r0) (h : X8_armAt r0 x1 x2 w Q) : CtQ Z l yX8_armAt cX8_armAt 3 (some .int) rm_X8_armAt [rv Z r0, iv x1, iv x2] w (qI Z Q) := by
  refine ct_of (by decide) (Nat.le_of_ble_eq_true rfl) (fun E eE C R => ?_)
  subst eE
  have C : Cx Z (adA Z) E cX8_armAt "HandleFaces$Tracing" 3 rm_X8_armAt := C
  unfold X8_armAt at h
  show V Z (adA Z) E 3 w 0 [(0, rv Z r0), (1, iv x1), (2, iv x2)] []
  refine v_aload_n C dX8_armAt_0 0 rfl ?_
  refine g_X8_walk C h0 wd_215 dX8_armAt_1 ?_
  refine v_aload_n C dX8_armAt_4 0 rfl ?_
  refine g_X8_begins C h0 wd_214 dX8_armAt_5 ?_
  refine v_iload_n C dX8_armAt_8 1 rfl ?_
  refine v_iald C h0.2.2.2.2.2.1 h.1 dX8_armAt_9 ?_
  have h := h.2
  refine v_iload_n C dX8_armAt_10 2 rfl ?_
  refine v_iadd C dX8_armAt_11 ?_
  refine v_iald C h0.2.2.2.2.2.2.1 h.1 dX8_armAt_12 ?_
  have h := h.2
  exact v_iret C R h dX8_armAt_13
abbrev rm_X8_greatestLength : Room := { frames := 1, cells := 0, slots := 0, locals := 13 }
theorem mf_X8_greatestLength : MfB yX8_greatestLength cX8_greatestLength 3 (some .int) 0 := ⟨wd_1045, wd_5, by decide, by decide, by decide +kernel⟩
def X8_greatestLength_l4 (r0 : Nat) (Q : Int → Wd → Prop) (e29 : Int → Wd → Prop) : Nat → Int → Int → Wd → Prop
  | 0 => fun _ _ _ => False
  | n + 1 => fun x1 x2 w => ((wr (w r0 0) ≤ wr x2 → e29 x1 w) ∧ (¬ wr (w r0 0) ≤ wr x2 → (ix x2 16 ∧ (∀ y1, y1 = (imx x1 (rd w (r0 + 1) x2)) → (X8_greatestLength_l4 r0 Q e29 n) y1 (x2 + 1) w))))
theorem t_X8_greatestLength_l4 {Z : Zw} {E : Amb} {r0 : Nat} {Q : Int → Wd → Prop} {e29 : Int → Wd → Prop} (C : Cx Z (adA Z) E cX8_greatestLength "HandleFaces$Tracing" 3 rm_X8_greatestLength) (R : Rt Z E (some .int) (qI Z Q)) (h0 : sX8 r0) (he29 : ∀ (x1 : Int) (w : Wd), e29 x1 w → V Z (adA Z) E 3 w 29 [(1, iv x1)] []) : ∀ (n : Nat) (x1 : Int) (x2 : Int) (w : Wd), X8_greatestLength_l4 r0 Q e29 n x1 x2 w → V Z (adA Z) E 3 w 4 [(0, rv Z r0), (1, iv x1), (2, iv x2)] [] := by
  intro n
  induction n with
  | zero => intro x1 x2 w h; exact h.elim
  | succ n ih =>
    intro x1 x2 w h
    unfold X8_greatestLength_l4 at h
    refine v_iload_n C dX8_greatestLength_4 2 rfl ?_
    refine v_aload_n C dX8_greatestLength_5 0 rfl ?_
    refine g_X8_count C h0 wd_202 dX8_greatestLength_6 ?_
    refine v_icmp_ge C 29 dX8_greatestLength_9 (by decide) (fun q => ?_) (fun q => ?_)
    · have h := h.1 q
      refine v_sub [1] rfl ?_
      exact he29 _ _ h
    · have h := h.2 q
      refine v_iload_n C dX8_greatestLength_12 1 rfl ?_
      refine v_aload_n C dX8_greatestLength_13 0 rfl ?_
      refine g_X8_lengths C h0 wd_205 dX8_greatestLength_14 ?_
      refine v_iload_n C dX8_greatestLength_17 2 rfl ?_
      refine v_iald C h0.2.1 h.1 dX8_greatestLength_18 ?_
      have h := h.2
      refine v_mmax C wd_1046 wd_350 wd_12 wd_351 (Nat.le_of_ble_eq_true rfl) (Nat.le_of_ble_eq_true rfl) dX8_greatestLength_19 ?_
      refine v_istore_n C [(1, _), (0, _), (2, _)] dX8_greatestLength_22 1 rfl (by decide) rfl ?_
      have h := h _ rfl
      refine v_iinc C [(2, _), (1, _), (0, _)] dX8_greatestLength_23 2 rfl (by decide) rfl ?_
      refine v_goto C 4 dX8_greatestLength_26 (by decide) ?_
      refine v_sub [2, 1, 0] rfl ?_
      exact ih _ _ _ h
def X8_greatestLength_b29 (r0 : Nat) (Q : Int → Wd → Prop) (x1 : Int) (w : Wd) : Prop := Q (wr x1) w
theorem t_X8_greatestLength_b29 {Z : Zw} {E : Amb} {r0 : Nat} {Q : Int → Wd → Prop} (C : Cx Z (adA Z) E cX8_greatestLength "HandleFaces$Tracing" 3 rm_X8_greatestLength) (R : Rt Z E (some .int) (qI Z Q)) (h0 : sX8 r0) : ∀ (x1 : Int) (w : Wd), X8_greatestLength_b29 r0 Q x1 w → V Z (adA Z) E 3 w 29 [(1, iv x1)] [] := by
  intro x1 w h
  unfold X8_greatestLength_b29 at h
  refine v_iload_n C dX8_greatestLength_29 0 rfl ?_
  exact v_iret C R h dX8_greatestLength_30
def X8_greatestLength (r0 : Nat) (w : Wd) (Q : Int → Wd → Prop) : Prop := (∃ m, X8_greatestLength_l4 r0 Q (X8_greatestLength_b29 r0 Q) m 0 0 w)
theorem m_X8_greatestLength {Z : Zw} {l : Launch} {r0 : Nat} {w : Wd} {Q : Int → Wd → Prop} (h0 : sX8 r0) (h : X8_greatestLength r0 w Q) : CtQ Z l yX8_greatestLength cX8_greatestLength 3 (some .int) rm_X8_greatestLength [rv Z r0] w (qI Z Q) := by
  refine ct_of (by decide) (Nat.le_of_ble_eq_true rfl) (fun E eE C R => ?_)
  subst eE
  have C : Cx Z (adA Z) E cX8_greatestLength "HandleFaces$Tracing" 3 rm_X8_greatestLength := C
  unfold X8_greatestLength at h
  show V Z (adA Z) E 3 w 0 [(0, rv Z r0)] []
  refine v_iconst C dX8_greatestLength_0 ?_
  refine v_istore_n C [(1, _), (0, _)] dX8_greatestLength_1 1 rfl (by decide) rfl ?_
  refine v_iconst C dX8_greatestLength_2 ?_
  refine v_istore_n C [(2, _), (1, _), (0, _)] dX8_greatestLength_3 2 rfl (by decide) rfl ?_
  refine v_sub [2, 1, 0] rfl ?_
  obtain ⟨m, h⟩ := h
  exact t_X8_greatestLength_l4 C R h0 (t_X8_greatestLength_b29 C R h0) m _ _ _ h
abbrev rm_X8_leastLength : Room := { frames := 1, cells := 0, slots := 0, locals := 13 }
theorem mf_X8_leastLength : MfB yX8_leastLength cX8_leastLength 3 (some .int) 0 := ⟨wd_1050, wd_5, by decide, by decide, by decide +kernel⟩
def X8_leastLength_l20 (r0 : Nat) (Q : Int → Wd → Prop) (e45 : Int → Wd → Prop) : Nat → Int → Int → Wd → Prop
  | 0 => fun _ _ _ => False
  | n + 1 => fun x1 x2 w => ((wr (w r0 0) ≤ wr x2 → e45 x1 w) ∧ (¬ wr (w r0 0) ≤ wr x2 → (ix x2 16 ∧ (∀ y1, y1 = (imn x1 (rd w (r0 + 1) x2)) → (X8_leastLength_l20 r0 Q e45 n) y1 (x2 + 1) w))))
theorem t_X8_leastLength_l20 {Z : Zw} {E : Amb} {r0 : Nat} {Q : Int → Wd → Prop} {e45 : Int → Wd → Prop} (C : Cx Z (adA Z) E cX8_leastLength "HandleFaces$Tracing" 3 rm_X8_leastLength) (R : Rt Z E (some .int) (qI Z Q)) (h0 : sX8 r0) (he45 : ∀ (x1 : Int) (w : Wd), e45 x1 w → V Z (adA Z) E 3 w 45 [(1, iv x1)] []) : ∀ (n : Nat) (x1 : Int) (x2 : Int) (w : Wd), X8_leastLength_l20 r0 Q e45 n x1 x2 w → V Z (adA Z) E 3 w 20 [(0, rv Z r0), (1, iv x1), (2, iv x2)] [] := by
  intro n
  induction n with
  | zero => intro x1 x2 w h; exact h.elim
  | succ n ih =>
    intro x1 x2 w h
    unfold X8_leastLength_l20 at h
    refine v_iload_n C dX8_leastLength_20 2 rfl ?_
    refine v_aload_n C dX8_leastLength_21 0 rfl ?_
    refine g_X8_count C h0 wd_202 dX8_leastLength_22 ?_
    refine v_icmp_ge C 45 dX8_leastLength_25 (by decide) (fun q => ?_) (fun q => ?_)
    · have h := h.1 q
      refine v_sub [1] rfl ?_
      exact he45 _ _ h
    · have h := h.2 q
      refine v_iload_n C dX8_leastLength_28 1 rfl ?_
      refine v_aload_n C dX8_leastLength_29 0 rfl ?_
      refine g_X8_lengths C h0 wd_205 dX8_leastLength_30 ?_
      refine v_iload_n C dX8_leastLength_33 2 rfl ?_
      refine v_iald C h0.2.1 h.1 dX8_leastLength_34 ?_
      have h := h.2
      refine v_mmin C wd_1051 wd_347 wd_12 wd_348 (Nat.le_of_ble_eq_true rfl) (Nat.le_of_ble_eq_true rfl) dX8_leastLength_35 ?_
      refine v_istore_n C [(1, _), (0, _), (2, _)] dX8_leastLength_38 1 rfl (by decide) rfl ?_
      have h := h _ rfl
      refine v_iinc C [(2, _), (1, _), (0, _)] dX8_leastLength_39 2 rfl (by decide) rfl ?_
      refine v_goto C 20 dX8_leastLength_42 (by decide) ?_
      refine v_sub [2, 1, 0] rfl ?_
      exact ih _ _ _ h
def X8_leastLength_b45 (r0 : Nat) (Q : Int → Wd → Prop) (x1 : Int) (w : Wd) : Prop := Q (wr x1) w
theorem t_X8_leastLength_b45 {Z : Zw} {E : Amb} {r0 : Nat} {Q : Int → Wd → Prop} (C : Cx Z (adA Z) E cX8_leastLength "HandleFaces$Tracing" 3 rm_X8_leastLength) (R : Rt Z E (some .int) (qI Z Q)) (h0 : sX8 r0) : ∀ (x1 : Int) (w : Wd), X8_leastLength_b45 r0 Q x1 w → V Z (adA Z) E 3 w 45 [(1, iv x1)] [] := by
  intro x1 w h
  unfold X8_leastLength_b45 at h
  refine v_iload_n C dX8_leastLength_45 0 rfl ?_
  exact v_iret C R h dX8_leastLength_46
def X8_leastLength_b17 (r0 : Nat) (Q : Int → Wd → Prop) (s0 : Int) (w : Wd) : Prop := (∃ m, X8_leastLength_l20 r0 Q (X8_leastLength_b45 r0 Q) m s0 1 w)
theorem t_X8_leastLength_b17 {Z : Zw} {E : Amb} {r0 : Nat} {Q : Int → Wd → Prop} (C : Cx Z (adA Z) E cX8_leastLength "HandleFaces$Tracing" 3 rm_X8_leastLength) (R : Rt Z E (some .int) (qI Z Q)) (h0 : sX8 r0) : ∀ (s0 : Int) (w : Wd), X8_leastLength_b17 r0 Q s0 w → V Z (adA Z) E 3 w 17 [(0, rv Z r0)] [iv s0] := by
  intro s0 w h
  unfold X8_leastLength_b17 at h
  refine v_istore_n C [(1, _), (0, _)] dX8_leastLength_17 1 rfl (by decide) rfl ?_
  refine v_iconst C dX8_leastLength_18 ?_
  refine v_istore_n C [(2, _), (1, _), (0, _)] dX8_leastLength_19 2 rfl (by decide) rfl ?_
  refine v_sub [2, 1, 0] rfl ?_
  obtain ⟨m, h⟩ := h
  exact t_X8_leastLength_l20 C R h0 (t_X8_leastLength_b45 C R h0) m _ _ _ h
def X8_leastLength (r0 : Nat) (w : Wd) (Q : Int → Wd → Prop) : Prop := ((wr (w r0 0) = 0 → X8_leastLength_b17 r0 Q 0 w) ∧ (¬ wr (w r0 0) = 0 → (ix 0 16 ∧ X8_leastLength_b17 r0 Q (rd w (r0 + 1) 0) w)))
theorem m_X8_leastLength {Z : Zw} {l : Launch} {r0 : Nat} {w : Wd} {Q : Int → Wd → Prop} (h0 : sX8 r0) (h : X8_leastLength r0 w Q) : CtQ Z l yX8_leastLength cX8_leastLength 3 (some .int) rm_X8_leastLength [rv Z r0] w (qI Z Q) := by
  refine ct_of (by decide) (Nat.le_of_ble_eq_true rfl) (fun E eE C R => ?_)
  subst eE
  have C : Cx Z (adA Z) E cX8_leastLength "HandleFaces$Tracing" 3 rm_X8_leastLength := C
  unfold X8_leastLength at h
  show V Z (adA Z) E 3 w 0 [(0, rv Z r0)] []
  refine v_aload_n C dX8_leastLength_0 0 rfl ?_
  refine g_X8_count C h0 wd_202 dX8_leastLength_1 ?_
  refine v_if_ne C 11 dX8_leastLength_4 (by decide) (fun q => ?_) (fun q => ?_)
  · have h := h.2 q
    refine v_aload_n C dX8_leastLength_11 0 rfl ?_
    refine g_X8_lengths C h0 wd_205 dX8_leastLength_12 ?_
    refine v_iconst C dX8_leastLength_15 ?_
    refine v_iald C h0.2.1 h.1 dX8_leastLength_16 ?_
    have h := h.2
    exact t_X8_leastLength_b17 C R h0 _ _ h
  · have h := h.1 q
    refine v_iconst C dX8_leastLength_7 ?_
    refine v_goto C 17 dX8_leastLength_8 (by decide) ?_
    exact t_X8_leastLength_b17 C R h0 _ _ h
abbrev rm_X8_oneSidedLines : Room := { frames := 0, cells := 0, slots := 0, locals := 0 }
theorem mf_X8_oneSidedLines : MfB yX8_oneSidedLines cX8_oneSidedLines 4 (some .int) 1 := ⟨wd_835, wd_5, by decide, by decide, by decide +kernel⟩
def X8_oneSidedLines_l4 (r0 : Nat) (Q : Int → Wd → Prop) (e42 : Int → Wd → Prop) : Nat → Int → Int → Int → Wd → Prop
  | 0 => fun _ _ _ _ => False
  | n + 1 => fun x1 x2 x3 w => ((wr x1 ≤ wr x3 → e42 x2 w) ∧ (¬ wr x1 ≤ wr x3 → (ix (2 * x3) 20 ∧ (ix ((2 * x3) + 1) 20 ∧ ((wr (rd w (r0 + 3) (2 * x3)) = wr (rd w (r0 + 3) ((2 * x3) + 1)) → (∀ y1, y1 = (ior x2 (isl 1 x3)) → (X8_oneSidedLines_l4 r0 Q e42 n) x1 y1 (x3 + 1) w)) ∧ (¬ wr (rd w (r0 + 3) (2 * x3)) = wr (rd w (r0 + 3) ((2 * x3) + 1)) → (X8_oneSidedLines_l4 r0 Q e42 n) x1 x2 (x3 + 1) w))))))
theorem t_X8_oneSidedLines_l4 {Z : Zw} {E : Amb} {r0 : Nat} {Q : Int → Wd → Prop} {e42 : Int → Wd → Prop} (C : Cx Z (adA Z) E cX8_oneSidedLines "HandleFaces$Tracing" 4 rm_X8_oneSidedLines) (R : Rt Z E (some .int) (qI Z Q)) (h0 : sX8 r0) (he42 : ∀ (x2 : Int) (w : Wd), e42 x2 w → V Z (adA Z) E 4 w 42 [(2, iv x2)] []) : ∀ (n : Nat) (x1 : Int) (x2 : Int) (x3 : Int) (w : Wd), X8_oneSidedLines_l4 r0 Q e42 n x1 x2 x3 w → V Z (adA Z) E 4 w 4 [(0, rv Z r0), (1, iv x1), (2, iv x2), (3, iv x3)] [] := by
  intro n
  induction n with
  | zero => intro x1 x2 x3 w h; exact h.elim
  | succ n ih =>
    intro x1 x2 x3 w h
    unfold X8_oneSidedLines_l4 at h
    refine v_iload_n C dX8_oneSidedLines_4 3 rfl ?_
    refine v_iload_n C dX8_oneSidedLines_5 1 rfl ?_
    refine v_icmp_ge C 42 dX8_oneSidedLines_6 (by decide) (fun q => ?_) (fun q => ?_)
    · have h := h.1 q
      refine v_sub [2] rfl ?_
      exact he42 _ _ h
    · have h := h.2 q
      refine v_aload_n C dX8_oneSidedLines_9 0 rfl ?_
      refine g_X8_sides C h0 wd_210 dX8_oneSidedLines_10 ?_
      refine v_iconst C dX8_oneSidedLines_13 ?_
      refine v_iload_n C dX8_oneSidedLines_14 3 rfl ?_
      refine v_imul C dX8_oneSidedLines_15 ?_
      refine v_iald C h0.2.2.2.1 h.1 dX8_oneSidedLines_16 ?_
      have h := h.2
      refine v_aload_n C dX8_oneSidedLines_17 0 rfl ?_
      refine g_X8_sides C h0 wd_210 dX8_oneSidedLines_18 ?_
      refine v_iconst C dX8_oneSidedLines_21 ?_
      refine v_iload_n C dX8_oneSidedLines_22 3 rfl ?_
      refine v_imul C dX8_oneSidedLines_23 ?_
      refine v_iconst C dX8_oneSidedLines_24 ?_
      refine v_iadd C dX8_oneSidedLines_25 ?_
      refine v_iald C h0.2.2.2.1 h.1 dX8_oneSidedLines_26 ?_
      have h := h.2
      refine v_icmp_ne C 36 dX8_oneSidedLines_27 (by decide) (fun q => ?_) (fun q => ?_)
      · have h := h.2 q
        refine v_iinc C [(3, _), (0, _), (1, _), (2, _)] dX8_oneSidedLines_36 3 rfl (by decide) rfl ?_
        refine v_goto C 4 dX8_oneSidedLines_39 (by decide) ?_
        refine v_sub [1, 2, 3, 0] rfl ?_
        exact ih _ _ _ _ h
      · have h := h.1 q
        refine v_iload_n C dX8_oneSidedLines_30 2 rfl ?_
        refine v_iconst C dX8_oneSidedLines_31 ?_
        refine v_iload_n C dX8_oneSidedLines_32 3 rfl ?_
        refine v_ishl C dX8_oneSidedLines_33 ?_
        refine v_ior C dX8_oneSidedLines_34 ?_
        refine v_istore_n C [(2, _), (0, _), (1, _), (3, _)] dX8_oneSidedLines_35 2 rfl (by decide) rfl ?_
        have h := h _ rfl
        refine v_iinc C [(3, _), (2, _), (0, _), (1, _)] dX8_oneSidedLines_36 3 rfl (by decide) rfl ?_
        refine v_goto C 4 dX8_oneSidedLines_39 (by decide) ?_
        refine v_sub [2, 3, 1, 0] rfl ?_
        exact ih _ _ _ _ h
def X8_oneSidedLines_b42 (r0 : Nat) (Q : Int → Wd → Prop) (x2 : Int) (w : Wd) : Prop := Q (wr x2) w
theorem t_X8_oneSidedLines_b42 {Z : Zw} {E : Amb} {r0 : Nat} {Q : Int → Wd → Prop} (C : Cx Z (adA Z) E cX8_oneSidedLines "HandleFaces$Tracing" 4 rm_X8_oneSidedLines) (R : Rt Z E (some .int) (qI Z Q)) (h0 : sX8 r0) : ∀ (x2 : Int) (w : Wd), X8_oneSidedLines_b42 r0 Q x2 w → V Z (adA Z) E 4 w 42 [(2, iv x2)] [] := by
  intro x2 w h
  unfold X8_oneSidedLines_b42 at h
  refine v_iload_n C dX8_oneSidedLines_42 0 rfl ?_
  exact v_iret C R h dX8_oneSidedLines_43
def X8_oneSidedLines (r0 : Nat) (x1 : Int) (w : Wd) (Q : Int → Wd → Prop) : Prop := (∃ m, X8_oneSidedLines_l4 r0 Q (X8_oneSidedLines_b42 r0 Q) m x1 0 0 w)
theorem m_X8_oneSidedLines {Z : Zw} {l : Launch} {r0 : Nat} {x1 : Int} {w : Wd} {Q : Int → Wd → Prop} (h0 : sX8 r0) (h : X8_oneSidedLines r0 x1 w Q) : CtQ Z l yX8_oneSidedLines cX8_oneSidedLines 4 (some .int) rm_X8_oneSidedLines [rv Z r0, iv x1] w (qI Z Q) := by
  refine ct_of (by decide) (Nat.le_of_ble_eq_true rfl) (fun E eE C R => ?_)
  subst eE
  have C : Cx Z (adA Z) E cX8_oneSidedLines "HandleFaces$Tracing" 4 rm_X8_oneSidedLines := C
  unfold X8_oneSidedLines at h
  show V Z (adA Z) E 4 w 0 [(0, rv Z r0), (1, iv x1)] []
  refine v_iconst C dX8_oneSidedLines_0 ?_
  refine v_istore_n C [(2, _), (0, _), (1, _)] dX8_oneSidedLines_1 2 rfl (by decide) rfl ?_
  refine v_iconst C dX8_oneSidedLines_2 ?_
  refine v_istore_n C [(3, _), (2, _), (0, _), (1, _)] dX8_oneSidedLines_3 3 rfl (by decide) rfl ?_
  refine v_sub [2, 3, 1, 0] rfl ?_
  obtain ⟨m, h⟩ := h
  exact t_X8_oneSidedLines_l4 C R h0 (t_X8_oneSidedLines_b42 C R h0) m _ _ _ _ h
abbrev rm_X9_straightOnes : Room := { frames := 2, cells := 0, slots := 0, locals := 50 }
theorem mf_X9_straightOnes : MfB yX9_straightOnes cX9_straightOnes 3 (some .int) 1 := ⟨wd_1056, wd_6, by decide, by decide, by decide +kernel⟩
def X9_straightOnes_l12 (r0 : Nat) (r1 : Nat) (Q : Int → Wd → Prop) (e31 : Wd → Prop) (e54 : Wd → Prop) : Nat → Int → Wd → Prop
  | 0 => fun _ _ => False
  | n + 1 => fun x2 w => ((wr (w r1 0) ≤ wr x2 → e54 w) ∧ (¬ wr (w r1 0) ≤ wr x2 → (ix x2 6 ∧ ((wr (ian (rd w (r1 + 2) x2) 1) = 0 → (ix x2 6 ∧ X9_link r0 r1 x2 (idv (rd w (r1 + 2) x2) 2) w (fun w2 => (X9_straightOnes_l12 r0 r1 Q e31 e54 n) (x2 + 1) w2))) ∧ (¬ wr (ian (rd w (r1 + 2) x2) 1) = 0 → e31 w)))))
theorem t_X9_straightOnes_l12 {Z : Zw} {E : Amb} {r0 : Nat} {r1 : Nat} {Q : Int → Wd → Prop} {e31 : Wd → Prop} {e54 : Wd → Prop} (C : Cx Z (adA Z) E cX9_straightOnes "HandleFaces$Walker" 3 rm_X9_straightOnes) (R : Rt Z E (some .int) (qI Z Q)) (h0 : sX9 r0) (h1 : sX1 r1) (he31 : ∀ (w : Wd), e31 w → V Z (adA Z) E 3 w 31 [] []) (he54 : ∀ (w : Wd), e54 w → V Z (adA Z) E 3 w 54 [(0, rv Z r0)] []) : ∀ (n : Nat) (x2 : Int) (w : Wd), X9_straightOnes_l12 r0 r1 Q e31 e54 n x2 w → V Z (adA Z) E 3 w 12 [(0, rv Z r0), (1, rv Z r1), (2, iv x2)] [] := by
  intro n
  induction n with
  | zero => intro x2 w h; exact h.elim
  | succ n ih =>
    intro x2 w h
    unfold X9_straightOnes_l12 at h
    refine v_iload_n C dX9_straightOnes_12 2 rfl ?_
    refine v_aload_n C dX9_straightOnes_13 1 rfl ?_
    refine g_X1_posts C h1 wd_38 dX9_straightOnes_14 ?_
    refine v_icmp_ge C 54 dX9_straightOnes_17 (by decide) (fun q => ?_) (fun q => ?_)
    · have h := h.1 q
      refine v_sub [0] rfl ?_
      exact he54 _ h
    · have h := h.2 q
      refine v_aload_n C dX9_straightOnes_20 1 rfl ?_
      refine g_X1_degrees C h1 wd_66 dX9_straightOnes_21 ?_
      refine v_iload_n C dX9_straightOnes_24 2 rfl ?_
      refine v_iald C h1.2.2.1 h.1 dX9_straightOnes_25 ?_
      have h := h.2
      refine v_iconst C dX9_straightOnes_26 ?_
      refine v_iand C dX9_straightOnes_27 ?_
      refine v_if_eq C 34 dX9_straightOnes_28 (by decide) (fun q => ?_) (fun q => ?_)
      · have h := h.1 q
        refine v_aload_n C dX9_straightOnes_34 0 rfl ?_
        refine v_aload_n C dX9_straightOnes_35 1 rfl ?_
        refine v_iload_n C dX9_straightOnes_36 2 rfl ?_
        refine v_aload_n C dX9_straightOnes_37 1 rfl ?_
        refine g_X1_degrees C h1 wd_66 dX9_straightOnes_38 ?_
        refine v_iload_n C dX9_straightOnes_41 2 rfl ?_
        refine v_iald C h1.2.2.1 h.1 dX9_straightOnes_42 ?_
        have h := h.2
        refine v_iconst C dX9_straightOnes_43 ?_
        refine v_idiv C dX9_straightOnes_44 (by decide) ?_
        refine v_callv C (rn_V C _ (m_X9_link h0 h1 h) mf_X9_link wd_722 wd_723 wd_721 rfl rfl ⟨(Nat.le_of_ble_eq_true rfl), (Nat.le_of_ble_eq_true rfl)⟩ h0.1 rfl rfl rfl (Nat.le_of_ble_eq_true rfl) dX9_straightOnes_45) (fun w h => ?_)
        refine v_iinc C [(2, _), (0, _), (1, _)] dX9_straightOnes_48 2 rfl (by decide) rfl ?_
        refine v_goto C 12 dX9_straightOnes_51 (by decide) ?_
        refine v_sub [1, 2, 0] rfl ?_
        exact ih _ _ h
      · have h := h.2 q
        refine v_sub [] rfl ?_
        exact he31 _ h
def X9_straightOnes_b31 (r0 : Nat) (r1 : Nat) (Q : Int → Wd → Prop) (w : Wd) : Prop := Q (wr (-2)) w
theorem t_X9_straightOnes_b31 {Z : Zw} {E : Amb} {r0 : Nat} {r1 : Nat} {Q : Int → Wd → Prop} (C : Cx Z (adA Z) E cX9_straightOnes "HandleFaces$Walker" 3 rm_X9_straightOnes) (R : Rt Z E (some .int) (qI Z Q)) (h0 : sX9 r0) (h1 : sX1 r1) : ∀ (w : Wd), X9_straightOnes_b31 r0 r1 Q w → V Z (adA Z) E 3 w 31 [] [] := by
  intro w h
  unfold X9_straightOnes_b31 at h
  refine v_bipush C dX9_straightOnes_31 (by decide) ?_
  exact v_iret C R h dX9_straightOnes_33
def X9_straightOnes_b54 (r0 : Nat) (r1 : Nat) (Q : Int → Wd → Prop) (w : Wd) : Prop := X9_countForth r0 w (fun y4 w3 => Q (wr (idv y4 2)) w3)
theorem t_X9_straightOnes_b54 {Z : Zw} {E : Amb} {r0 : Nat} {r1 : Nat} {Q : Int → Wd → Prop} (C : Cx Z (adA Z) E cX9_straightOnes "HandleFaces$Walker" 3 rm_X9_straightOnes) (R : Rt Z E (some .int) (qI Z Q)) (h0 : sX9 r0) (h1 : sX1 r1) : ∀ (w : Wd), X9_straightOnes_b54 r0 r1 Q w → V Z (adA Z) E 3 w 54 [(0, rv Z r0)] [] := by
  intro w h
  unfold X9_straightOnes_b54 at h
  refine v_aload_n C dX9_straightOnes_54 0 rfl ?_
  refine v_calli C (rn_V C _ (m_X9_countForth h0 h) mf_X9_countForth wd_751 wd_752 wd_1057 rfl rfl ⟨(Nat.le_of_ble_eq_true rfl), (Nat.le_of_ble_eq_true rfl)⟩ h0.1 rfl rfl rfl (Nat.le_of_ble_eq_true rfl) dX9_straightOnes_55) (fun r w h => ?_)
  refine v_iconst C dX9_straightOnes_58 ?_
  refine v_idiv C dX9_straightOnes_59 (by decide) ?_
  exact v_iret C R h dX9_straightOnes_60
def X9_straightOnes (r0 : Nat) (r1 : Nat) (w : Wd) (Q : Int → Wd → Prop) : Prop := (∀ w1, w1 = up w r0 0 (2 * (w r1 1)) → (∃ m, X9_straightOnes_l12 r0 r1 Q (X9_straightOnes_b31 r0 r1 Q) (X9_straightOnes_b54 r0 r1 Q) m 0 w1))
theorem m_X9_straightOnes {Z : Zw} {l : Launch} {r0 : Nat} {r1 : Nat} {w : Wd} {Q : Int → Wd → Prop} (h0 : sX9 r0) (h1 : sX1 r1) (h : X9_straightOnes r0 r1 w Q) : CtQ Z l yX9_straightOnes cX9_straightOnes 3 (some .int) rm_X9_straightOnes [rv Z r0, rv Z r1] w (qI Z Q) := by
  refine ct_of (by decide) (Nat.le_of_ble_eq_true rfl) (fun E eE C R => ?_)
  subst eE
  have C : Cx Z (adA Z) E cX9_straightOnes "HandleFaces$Walker" 3 rm_X9_straightOnes := C
  unfold X9_straightOnes at h
  show V Z (adA Z) E 3 w 0 [(0, rv Z r0), (1, rv Z r1)] []
  refine v_aload_n C dX9_straightOnes_0 0 rfl ?_
  refine v_iconst C dX9_straightOnes_1 ?_
  refine v_aload_n C dX9_straightOnes_2 1 rfl ?_
  refine g_X1_lines C h1 wd_44 dX9_straightOnes_3 ?_
  refine v_imul C dX9_straightOnes_6 ?_
  refine p_X9_arms C h0 wd_186 dX9_straightOnes_7 ?_
  have h := h _ rfl
  refine v_iconst C dX9_straightOnes_10 ?_
  refine v_istore_n C [(2, _), (0, _), (1, _)] dX9_straightOnes_11 2 rfl (by decide) rfl ?_
  refine v_sub [1, 2, 0] rfl ?_
  obtain ⟨m, h⟩ := h
  exact t_X9_straightOnes_l12 C R h0 h1 (t_X9_straightOnes_b31 C R h0 h1) (t_X9_straightOnes_b54 C R h0 h1) m _ _ h
