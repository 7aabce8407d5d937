abbrev rm_X4_gatherPosts : Room := { frames := 0, cells := 0, slots := 0, locals := 0 }
theorem mf_X4_gatherPosts : MfB yX4_gatherPosts cX4_gatherPosts 3 none 1 := ⟨wd_538, wd_4, by decide, by decide, by decide +kernel⟩
def X4_gatherPosts_l7 (Q : Wd → Prop) (e69 : Wd → Prop) : Nat → Int → Wd → Prop
  | 0 => fun _ _ => False
  | n + 1 => fun x2 w => ((wr (w 9 1) ≤ wr (x2 + 1) → e69 w) ∧ (¬ wr (w 9 1) ≤ wr (x2 + 1) → (ix x2 400 ∧ ((wr (rd w 10 x2) = wr 1 → ((wr 6 ≤ wr (w 14 2) → (X4_gatherPosts_l7 Q e69 n) (x2 + 1) w) ∧ (¬ wr 6 ≤ wr (w 14 2) → (ix (x2 + 1) 400 ∧ (ix (w 14 2) 6 ∧ (∀ w2, w2 = wt w 15 (w 14 2) (rd w 12 (x2 + 1)) → (∀ w3, w3 = up w2 14 2 ((w2 14 2) + 1) → (X4_gatherPosts_l7 Q e69 n) (x2 + 1) w3))))))) ∧ (¬ wr (rd w 10 x2) = wr 1 → (X4_gatherPosts_l7 Q e69 n) (x2 + 1) w)))))
theorem t_X4_gatherPosts_l7 {Z : Zw} {E : Amb} {Q : Wd → Prop} {e69 : Wd → Prop} (C : Cx Z (adA Z) E cX4_gatherPosts "HandleFaces$Reader" 3 rm_X4_gatherPosts) (R : Rt Z E none (qV Z Q)) (he69 : ∀ (w : Wd), e69 w → V Z (adA Z) E 3 w 69 [] []) : ∀ (n : Nat) (x2 : Int) (w : Wd), X4_gatherPosts_l7 Q e69 n x2 w → V Z (adA Z) E 3 w 7 [(0, rv Z 14), (1, rv Z 9), (2, iv x2)] [] := by
  intro n
  induction n with
  | zero => intro x2 w h; exact h.elim
  | succ n ih =>
    intro x2 w h
    unfold X4_gatherPosts_l7 at h
    refine v_iload_n C dX4_gatherPosts_7 2 rfl ?_
    refine v_iconst C dX4_gatherPosts_8 ?_
    refine v_iadd C dX4_gatherPosts_9 ?_
    refine v_aload_n C dX4_gatherPosts_10 1 rfl ?_
    refine g_X6_tokens C wd_96 dX4_gatherPosts_11 ?_
    refine v_icmp_ge C 69 dX4_gatherPosts_14 (by decide) (fun q => ?_) (fun q => ?_)
    · have h := h.1 q
      refine v_sub [] rfl ?_
      exact he69 _ h
    · have h := h.2 q
      refine v_aload_n C dX4_gatherPosts_17 1 rfl ?_
      refine g_X6_kinds C wd_102 dX4_gatherPosts_18 ?_
      refine v_iload_n C dX4_gatherPosts_21 2 rfl ?_
      refine v_iald C rfl h.1 dX4_gatherPosts_22 ?_
      have h := h.2
      refine v_iconst C dX4_gatherPosts_23 ?_
      refine v_icmp_ne C 63 dX4_gatherPosts_24 (by decide) (fun q => ?_) (fun q => ?_)
      · have h := h.2 q
        refine v_iinc C [(2, _), (0, _), (1, _)] dX4_gatherPosts_63 2 rfl (by decide) rfl ?_
        refine v_goto C 7 dX4_gatherPosts_66 (by decide) ?_
        refine v_sub [1, 2, 0] rfl ?_
        exact ih _ _ h
      · have h := h.1 q
        refine v_aload_n C dX4_gatherPosts_27 0 rfl ?_
        refine g_X4_posts C wd_154 dX4_gatherPosts_28 ?_
        refine v_bipush C dX4_gatherPosts_31 (by decide) ?_
        refine v_icmp_ge C 63 dX4_gatherPosts_33 (by decide) (fun q => ?_) (fun q => ?_)
        · have h := h.1 q
          refine v_iinc C [(2, _), (0, _), (1, _)] dX4_gatherPosts_63 2 rfl (by decide) rfl ?_
          refine v_goto C 7 dX4_gatherPosts_66 (by decide) ?_
          refine v_sub [1, 2, 0] rfl ?_
          exact ih _ _ h
        · have h := h.2 q
          refine v_aload_n C dX4_gatherPosts_36 0 rfl ?_
          refine g_X4_names C wd_157 dX4_gatherPosts_37 ?_
          refine v_aload_n C dX4_gatherPosts_40 0 rfl ?_
          refine g_X4_posts C wd_154 dX4_gatherPosts_41 ?_
          refine v_aload_n C dX4_gatherPosts_44 1 rfl ?_
          refine g_X6_values C wd_106 dX4_gatherPosts_45 ?_
          refine v_iload_n C dX4_gatherPosts_48 2 rfl ?_
          refine v_iconst C dX4_gatherPosts_49 ?_
          refine v_iadd C dX4_gatherPosts_50 ?_
          refine v_lald C rfl h.1 dX4_gatherPosts_51 ?_
          have h := h.2
          refine v_last C rfl h.1 dX4_gatherPosts_52 ?_
          have h := h.2
          have h := h _ rfl
          refine v_aload_n C dX4_gatherPosts_53 0 rfl ?_
          refine v_dup C dX4_gatherPosts_54 rfl ?_
          refine g_X4_posts C wd_154 dX4_gatherPosts_55 ?_
          refine v_iconst C dX4_gatherPosts_58 ?_
          refine v_iadd C dX4_gatherPosts_59 ?_
          refine p_X4_posts C wd_154 dX4_gatherPosts_60 ?_
          have h := h _ rfl
          refine v_iinc C [(2, _), (0, _), (1, _)] dX4_gatherPosts_63 2 rfl (by decide) rfl ?_
          refine v_goto C 7 dX4_gatherPosts_66 (by decide) ?_
          refine v_sub [1, 2, 0] rfl ?_
          exact ih _ _ h
def X4_gatherPosts_b69 (Q : Wd → Prop) (w : Wd) : Prop := Q w
theorem t_X4_gatherPosts_b69 {Z : Zw} {E : Amb} {Q : Wd → Prop} (C : Cx Z (adA Z) E cX4_gatherPosts "HandleFaces$Reader" 3 rm_X4_gatherPosts) (R : Rt Z E none (qV Z Q)) : ∀ (w : Wd), X4_gatherPosts_b69 Q w → V Z (adA Z) E 3 w 69 [] [] := by
  intro w h
  unfold X4_gatherPosts_b69 at h
  exact v_ret C R h dX4_gatherPosts_69
def X4_gatherPosts (w : Wd) (Q : Wd → Prop) : Prop := (∀ w1, w1 = up w 14 2 0 → (∃ m, X4_gatherPosts_l7 Q (X4_gatherPosts_b69 Q) m 0 w1))
theorem m_X4_gatherPosts {Z : Zw} {l : Launch} {w : Wd} {Q : Wd → Prop} (h : X4_gatherPosts w Q) : CtQ Z l yX4_gatherPosts cX4_gatherPosts 3 none rm_X4_gatherPosts [rv Z 14, rv Z 9] w (qV Z Q) := by
  refine ct_of (by decide) (Nat.le_of_ble_eq_true rfl) (fun E eE C R => ?_)
  subst eE
  have C : Cx Z (adA Z) E cX4_gatherPosts "HandleFaces$Reader" 3 rm_X4_gatherPosts := C
  unfold X4_gatherPosts at h
  show V Z (adA Z) E 3 w 0 [(0, rv Z 14), (1, rv Z 9)] []
  refine v_aload_n C dX4_gatherPosts_0 0 rfl ?_
  refine v_iconst C dX4_gatherPosts_1 ?_
  refine p_X4_posts C wd_154 dX4_gatherPosts_2 ?_
  have h := h _ rfl
  refine v_iconst C dX4_gatherPosts_5 ?_
  refine v_istore_n C [(2, _), (0, _), (1, _)] dX4_gatherPosts_6 2 rfl (by decide) rfl ?_
  refine v_sub [1, 2, 0] rfl ?_
  obtain ⟨m, h⟩ := h
  exact t_X4_gatherPosts_l7 C R (t_X4_gatherPosts_b69 C R) m _ _ h
abbrev rm_X4_postNamed : Room := { frames := 0, cells := 0, slots := 0, locals := 0 }
theorem mf_X4_postNamed : MfB yX4_postNamed cX4_postNamed 4 (some .int) 1 := ⟨wd_546, wd_4, by decide, by decide, by decide +kernel⟩
def X4_postNamed_l2 (Q : Int → Wd → Prop) (e21 : Int → Wd → Prop) (e29 : Wd → Prop) : Nat → Int → Int → Wd → Prop
  | 0 => fun _ _ _ => False
  | n + 1 => fun x1 x3 w => ((wr (w 14 2) ≤ wr x3 → e29 w) ∧ (¬ wr (w 14 2) ≤ wr x3 → (ix x3 6 ∧ ((wr (lcm (rd w 15 x3) x1) = 0 → e21 x3 w) ∧ (¬ wr (lcm (rd w 15 x3) x1) = 0 → (X4_postNamed_l2 Q e21 e29 n) x1 (x3 + 1) w)))))
theorem t_X4_postNamed_l2 {Z : Zw} {E : Amb} {Q : Int → Wd → Prop} {e21 : Int → Wd → Prop} {e29 : Wd → Prop} (C : Cx Z (adA Z) E cX4_postNamed "HandleFaces$Reader" 4 rm_X4_postNamed) (R : Rt Z E (some .int) (qI Z Q)) (he21 : ∀ (x3 : Int) (w : Wd), e21 x3 w → V Z (adA Z) E 4 w 21 [(3, iv x3)] []) (he29 : ∀ (w : Wd), e29 w → V Z (adA Z) E 4 w 29 [] []) : ∀ (n : Nat) (x1 : Int) (x3 : Int) (w : Wd), X4_postNamed_l2 Q e21 e29 n x1 x3 w → V Z (adA Z) E 4 w 2 [(0, rv Z 14), (1, jv x1), (3, iv x3)] [] := by
  intro n
  induction n with
  | zero => intro x1 x3 w h; exact h.elim
  | succ n ih =>
    intro x1 x3 w h
    unfold X4_postNamed_l2 at h
    refine v_iload_n C dX4_postNamed_2 2 rfl ?_
    refine v_aload_n C dX4_postNamed_3 0 rfl ?_
    refine g_X4_posts C wd_154 dX4_postNamed_4 ?_
    refine v_icmp_ge C 29 dX4_postNamed_7 (by decide) (fun q => ?_) (fun q => ?_)
    · have h := h.1 q
      refine v_sub [] rfl ?_
      exact he29 _ h
    · have h := h.2 q
      refine v_aload_n C dX4_postNamed_10 0 rfl ?_
      refine g_X4_names C wd_157 dX4_postNamed_11 ?_
      refine v_iload_n C dX4_postNamed_14 2 rfl ?_
      refine v_lald C rfl h.1 dX4_postNamed_15 ?_
      have h := h.2
      refine v_lload_n C dX4_postNamed_16 1 rfl ?_
      refine v_lcmp C dX4_postNamed_17 ?_
      refine v_if_ne C 23 dX4_postNamed_18 (by decide) (fun q => ?_) (fun q => ?_)
      · have h := h.2 q
        refine v_iinc C [(3, _), (0, _), (1, _)] dX4_postNamed_23 2 rfl (by decide) rfl ?_
        refine v_goto C 2 dX4_postNamed_26 (by decide) ?_
        refine v_sub [1, 2, 0] rfl ?_
        exact ih _ _ _ h
      · have h := h.1 q
        refine v_sub [2] rfl ?_
        exact he21 _ _ h
def X4_postNamed_b21 (Q : Int → Wd → Prop) (x3 : Int) (w : Wd) : Prop := Q (wr x3) w
theorem t_X4_postNamed_b21 {Z : Zw} {E : Amb} {Q : Int → Wd → Prop} (C : Cx Z (adA Z) E cX4_postNamed "HandleFaces$Reader" 4 rm_X4_postNamed) (R : Rt Z E (some .int) (qI Z Q)) : ∀ (x3 : Int) (w : Wd), X4_postNamed_b21 Q x3 w → V Z (adA Z) E 4 w 21 [(3, iv x3)] [] := by
  intro x3 w h
  unfold X4_postNamed_b21 at h
  refine v_iload_n C dX4_postNamed_21 0 rfl ?_
  exact v_iret C R h dX4_postNamed_22
def X4_postNamed_b29 (Q : Int → Wd → Prop) (w : Wd) : Prop := Q (wr (-1)) w
theorem t_X4_postNamed_b29 {Z : Zw} {E : Amb} {Q : Int → Wd → Prop} (C : Cx Z (adA Z) E cX4_postNamed "HandleFaces$Reader" 4 rm_X4_postNamed) (R : Rt Z E (some .int) (qI Z Q)) : ∀ (w : Wd), X4_postNamed_b29 Q w → V Z (adA Z) E 4 w 29 [] [] := by
  intro w h
  unfold X4_postNamed_b29 at h
  refine v_iconst C dX4_postNamed_29 ?_
  exact v_iret C R h dX4_postNamed_30
def X4_postNamed (x1 : Int) (w : Wd) (Q : Int → Wd → Prop) : Prop := (∃ m, X4_postNamed_l2 Q (X4_postNamed_b21 Q) (X4_postNamed_b29 Q) m x1 0 w)
theorem m_X4_postNamed {Z : Zw} {l : Launch} {x1 : Int} {w : Wd} {Q : Int → Wd → Prop} (h : X4_postNamed x1 w Q) : CtQ Z l yX4_postNamed cX4_postNamed 4 (some .int) rm_X4_postNamed [rv Z 14, jv x1] w (qI Z Q) := by
  refine ct_of (by decide) (Nat.le_of_ble_eq_true rfl) (fun E eE C R => ?_)
  subst eE
  have C : Cx Z (adA Z) E cX4_postNamed "HandleFaces$Reader" 4 rm_X4_postNamed := C
  unfold X4_postNamed at h
  show V Z (adA Z) E 4 w 0 [(0, rv Z 14), (1, jv x1)] []
  refine v_iconst C dX4_postNamed_0 ?_
  refine v_istore_n C [(3, _), (0, _), (1, _)] dX4_postNamed_1 3 rfl (by decide) rfl ?_
  refine v_sub [1, 2, 0] rfl ?_
  obtain ⟨m, h⟩ := h
  exact t_X4_postNamed_l2 C R (t_X4_postNamed_b21 C R) (t_X4_postNamed_b29 C R) m _ _ _ h
abbrev rm_X4_gatherLines : Room := { frames := 1, cells := 0, slots := 0, locals := 23 }
theorem mf_X4_gatherLines : MfB yX4_gatherLines cX4_gatherLines 3 none 1 := ⟨wd_542, wd_4, by decide, by decide, by decide +kernel⟩
def X4_gatherLines_b110 (Q : Wd → Prop) (c12 : Int → Wd → Prop) (e150 : Wd → Prop) (x2 : Int) (w : Wd) : Prop := (ix x2 400 ∧ ((wr (rd w 10 x2) = wr 4 → ((wr (w 14 3) ≤ 0 → c12 (x2 + 1) w) ∧ (¬ wr (w 14 3) ≤ 0 → (∀ w3, w3 = up w 14 4 (ior (w 14 4) (isl 1 ((w 14 3) - 1))) → c12 (x2 + 1) w3)))) ∧ (¬ wr (rd w 10 x2) = wr 4 → c12 (x2 + 1) w)))
theorem t_X4_gatherLines_b110 {Z : Zw} {E : Amb} {Q : Wd → Prop} {c12 : Int → Wd → Prop} {e150 : Wd → Prop} (C : Cx Z (adA Z) E cX4_gatherLines "HandleFaces$Reader" 3 rm_X4_gatherLines) (R : Rt Z E none (qV Z Q)) (hc12 : ∀ (x2 : Int) (w : Wd), c12 x2 w → V Z (adA Z) E 3 w 12 [(0, rv Z 14), (1, rv Z 9), (2, iv x2)] []) (he150 : ∀ (w : Wd), e150 w → V Z (adA Z) E 3 w 150 [] []) : ∀ (x2 : Int) (w : Wd), X4_gatherLines_b110 Q c12 e150 x2 w → V Z (adA Z) E 3 w 110 [(0, rv Z 14), (1, rv Z 9), (2, iv x2)] [] := by
  intro x2 w h
  unfold X4_gatherLines_b110 at h
  refine v_aload_n C dX4_gatherLines_110 1 rfl ?_
  refine g_X6_kinds C wd_102 dX4_gatherLines_111 ?_
  refine v_iload_n C dX4_gatherLines_114 2 rfl ?_
  refine v_iald C rfl h.1 dX4_gatherLines_115 ?_
  have h := h.2
  refine v_iconst C dX4_gatherLines_116 ?_
  refine v_icmp_ne C 144 dX4_gatherLines_117 (by decide) (fun q => ?_) (fun q => ?_)
  · have h := h.2 q
    refine v_iinc C [(2, _), (0, _), (1, _)] dX4_gatherLines_144 2 rfl (by decide) rfl ?_
    refine v_goto C 12 dX4_gatherLines_147 (by decide) ?_
    refine v_sub [1, 2, 0] rfl ?_
    exact hc12 _ _ h
  · have h := h.1 q
    refine v_aload_n C dX4_gatherLines_120 0 rfl ?_
    refine g_X4_lines C wd_155 dX4_gatherLines_121 ?_
    refine v_if_le C 144 dX4_gatherLines_124 (by decide) (fun q => ?_) (fun q => ?_)
    · have h := h.1 q
      refine v_iinc C [(2, _), (0, _), (1, _)] dX4_gatherLines_144 2 rfl (by decide) rfl ?_
      refine v_goto C 12 dX4_gatherLines_147 (by decide) ?_
      refine v_sub [1, 2, 0] rfl ?_
      exact hc12 _ _ h
    · have h := h.2 q
      refine v_aload_n C dX4_gatherLines_127 0 rfl ?_
      refine v_dup C dX4_gatherLines_128 rfl ?_
      refine g_X4_twists C wd_156 dX4_gatherLines_129 ?_
      refine v_iconst C dX4_gatherLines_132 ?_
      refine v_aload_n C dX4_gatherLines_133 0 rfl ?_
      refine g_X4_lines C wd_155 dX4_gatherLines_134 ?_
      refine v_iconst C dX4_gatherLines_137 ?_
      refine v_isub C dX4_gatherLines_138 ?_
      refine v_ishl C dX4_gatherLines_139 ?_
      refine v_ior C dX4_gatherLines_140 ?_
      refine p_X4_twists C wd_156 dX4_gatherLines_141 ?_
      have h := h _ rfl
      refine v_iinc C [(2, _), (0, _), (1, _)] dX4_gatherLines_144 2 rfl (by decide) rfl ?_
      refine v_goto C 12 dX4_gatherLines_147 (by decide) ?_
      refine v_sub [1, 2, 0] rfl ?_
      exact hc12 _ _ h
def X4_gatherLines_l12 (Q : Wd → Prop) (e150 : Wd → Prop) : Nat → Int → Wd → Prop
  | 0 => fun _ _ => False
  | n + 1 => fun x2 w => ((wr (w 9 1) ≤ wr x2 → e150 w) ∧ (¬ wr (w 9 1) ≤ wr x2 → (ix x2 400 ∧ ((wr (rd w 10 x2) = wr 2 → ((wr (w 9 1) ≤ wr (x2 + 2) → X4_gatherLines_b110 Q (X4_gatherLines_l12 Q e150 n) e150 x2 w) ∧ (¬ wr (w 9 1) ≤ wr (x2 + 2) → ((wr 10 ≤ wr (w 14 3) → X4_gatherLines_b110 Q (X4_gatherLines_l12 Q e150 n) e150 x2 w) ∧ (¬ wr 10 ≤ wr (w 14 3) → (ix (x2 + 1) 400 ∧ X4_postNamed (rd w 12 (x2 + 1)) w (fun y5 w4 => (ix (2 * (w 14 3)) 20 ∧ (∀ w6, w6 = wt w4 16 (2 * (w 14 3)) y5 → (ix (x2 + 2) 400 ∧ X4_postNamed (rd w6 12 (x2 + 2)) w6 (fun y8 w7 => (ix ((2 * (w6 14 3)) + 1) 20 ∧ (∀ w9, w9 = wt w7 16 ((2 * (w6 14 3)) + 1) y8 → (∀ w10, w10 = up w9 14 3 ((w9 14 3) + 1) → (X4_gatherLines_l12 Q e150 n) (x2 + 1) w10)))))))))))))) ∧ (¬ wr (rd w 10 x2) = wr 2 → X4_gatherLines_b110 Q (X4_gatherLines_l12 Q e150 n) e150 x2 w)))))
theorem t_X4_gatherLines_l12 {Z : Zw} {E : Amb} {Q : Wd → Prop} {e150 : Wd → Prop} (C : Cx Z (adA Z) E cX4_gatherLines "HandleFaces$Reader" 3 rm_X4_gatherLines) (R : Rt Z E none (qV Z Q)) (he150 : ∀ (w : Wd), e150 w → V Z (adA Z) E 3 w 150 [] []) : ∀ (n : Nat) (x2 : Int) (w : Wd), X4_gatherLines_l12 Q e150 n x2 w → V Z (adA Z) E 3 w 12 [(0, rv Z 14), (1, rv Z 9), (2, iv x2)] [] := by
  intro n
  induction n with
  | zero => intro x2 w h; exact h.elim
  | succ n ih =>
    intro x2 w h
    unfold X4_gatherLines_l12 at h
    refine v_iload_n C dX4_gatherLines_12 2 rfl ?_
    refine v_aload_n C dX4_gatherLines_13 1 rfl ?_
    refine g_X6_tokens C wd_96 dX4_gatherLines_14 ?_
    refine v_icmp_ge C 150 dX4_gatherLines_17 (by decide) (fun q => ?_) (fun q => ?_)
    · have h := h.1 q
      refine v_sub [] rfl ?_
      exact he150 _ h
    · have h := h.2 q
      refine v_aload_n C dX4_gatherLines_20 1 rfl ?_
      refine g_X6_kinds C wd_102 dX4_gatherLines_21 ?_
      refine v_iload_n C dX4_gatherLines_24 2 rfl ?_
      refine v_iald C rfl h.1 dX4_gatherLines_25 ?_
      have h := h.2
      refine v_iconst C dX4_gatherLines_26 ?_
      refine v_icmp_ne C 110 dX4_gatherLines_27 (by decide) (fun q => ?_) (fun q => ?_)
      · have h := h.2 q
        exact t_X4_gatherLines_b110 C R ih he150 _ _ h
      · have h := h.1 q
        refine v_iload_n C dX4_gatherLines_30 2 rfl ?_
        refine v_iconst C dX4_gatherLines_31 ?_
        refine v_iadd C dX4_gatherLines_32 ?_
        refine v_aload_n C dX4_gatherLines_33 1 rfl ?_
        refine g_X6_tokens C wd_96 dX4_gatherLines_34 ?_
        refine v_icmp_ge C 110 dX4_gatherLines_37 (by decide) (fun q => ?_) (fun q => ?_)
        · have h := h.1 q
          exact t_X4_gatherLines_b110 C R ih he150 _ _ h
        · have h := h.2 q
          refine v_aload_n C dX4_gatherLines_40 0 rfl ?_
          refine g_X4_lines C wd_155 dX4_gatherLines_41 ?_
          refine v_bipush C dX4_gatherLines_44 (by decide) ?_
          refine v_icmp_ge C 110 dX4_gatherLines_46 (by decide) (fun q => ?_) (fun q => ?_)
          · have h := h.1 q
            exact t_X4_gatherLines_b110 C R ih he150 _ _ h
          · have h := h.2 q
            refine v_aload_n C dX4_gatherLines_49 0 rfl ?_
            refine g_X4_ends C wd_158 dX4_gatherLines_50 ?_
            refine v_iconst C dX4_gatherLines_53 ?_
            refine v_aload_n C dX4_gatherLines_54 0 rfl ?_
            refine g_X4_lines C wd_155 dX4_gatherLines_55 ?_
            refine v_imul C dX4_gatherLines_58 ?_
            refine v_aload_n C dX4_gatherLines_59 0 rfl ?_
            refine v_aload_n C dX4_gatherLines_60 1 rfl ?_
            refine g_X6_values C wd_106 dX4_gatherLines_61 ?_
            refine v_iload_n C dX4_gatherLines_64 2 rfl ?_
            refine v_iconst C dX4_gatherLines_65 ?_
            refine v_iadd C dX4_gatherLines_66 ?_
            refine v_lald C rfl h.1 dX4_gatherLines_67 ?_
            have h := h.2
            refine v_calli C (rn_V C _ (m_X4_postNamed h) mf_X4_postNamed wd_545 wp_9 wd_543 rfl rfl ⟨(Nat.le_of_ble_eq_true rfl), (Nat.le_of_ble_eq_true rfl)⟩ rfl rfl rfl rfl (Nat.le_of_ble_eq_true rfl) dX4_gatherLines_68) (fun r w h => ?_)
            refine v_iast C rfl h.1 dX4_gatherLines_71 ?_
            have h := h.2
            have h := h _ rfl
            refine v_aload_n C dX4_gatherLines_72 0 rfl ?_
            refine g_X4_ends C wd_158 dX4_gatherLines_73 ?_
            refine v_iconst C dX4_gatherLines_76 ?_
            refine v_aload_n C dX4_gatherLines_77 0 rfl ?_
            refine g_X4_lines C wd_155 dX4_gatherLines_78 ?_
            refine v_imul C dX4_gatherLines_81 ?_
            refine v_iconst C dX4_gatherLines_82 ?_
            refine v_iadd C dX4_gatherLines_83 ?_
            refine v_aload_n C dX4_gatherLines_84 0 rfl ?_
            refine v_aload_n C dX4_gatherLines_85 1 rfl ?_
            refine g_X6_values C wd_106 dX4_gatherLines_86 ?_
            refine v_iload_n C dX4_gatherLines_89 2 rfl ?_
            refine v_iconst C dX4_gatherLines_90 ?_
            refine v_iadd C dX4_gatherLines_91 ?_
            refine v_lald C rfl h.1 dX4_gatherLines_92 ?_
            have h := h.2
            refine v_calli C (rn_V C _ (m_X4_postNamed h) mf_X4_postNamed wd_545 wp_9 wd_543 rfl rfl ⟨(Nat.le_of_ble_eq_true rfl), (Nat.le_of_ble_eq_true rfl)⟩ rfl rfl rfl rfl (Nat.le_of_ble_eq_true rfl) dX4_gatherLines_93) (fun r w h => ?_)
            refine v_iast C rfl h.1 dX4_gatherLines_96 ?_
            have h := h.2
            have h := h _ rfl
            refine v_aload_n C dX4_gatherLines_97 0 rfl ?_
            refine v_dup C dX4_gatherLines_98 rfl ?_
            refine g_X4_lines C wd_155 dX4_gatherLines_99 ?_
            refine v_iconst C dX4_gatherLines_102 ?_
            refine v_iadd C dX4_gatherLines_103 ?_
            refine p_X4_lines C wd_155 dX4_gatherLines_104 ?_
            have h := h _ rfl
            refine v_goto C 144 dX4_gatherLines_107 (by decide) ?_
            refine v_iinc C [(2, _), (0, _), (1, _)] dX4_gatherLines_144 2 rfl (by decide) rfl ?_
            refine v_goto C 12 dX4_gatherLines_147 (by decide) ?_
            refine v_sub [1, 2, 0] rfl ?_
            exact ih _ _ h
def X4_gatherLines_b150 (Q : Wd → Prop) (w : Wd) : Prop := Q w
theorem t_X4_gatherLines_b150 {Z : Zw} {E : Amb} {Q : Wd → Prop} (C : Cx Z (adA Z) E cX4_gatherLines "HandleFaces$Reader" 3 rm_X4_gatherLines) (R : Rt Z E none (qV Z Q)) : ∀ (w : Wd), X4_gatherLines_b150 Q w → V Z (adA Z) E 3 w 150 [] [] := by
  intro w h
  unfold X4_gatherLines_b150 at h
  exact v_ret C R h dX4_gatherLines_150
def X4_gatherLines (w : Wd) (Q : Wd → Prop) : Prop := (∀ w1, w1 = up w 14 3 0 → (∀ w2, w2 = up w1 14 4 0 → (∃ m, X4_gatherLines_l12 Q (X4_gatherLines_b150 Q) m 0 w2)))
theorem m_X4_gatherLines {Z : Zw} {l : Launch} {w : Wd} {Q : Wd → Prop} (h : X4_gatherLines w Q) : CtQ Z l yX4_gatherLines cX4_gatherLines 3 none rm_X4_gatherLines [rv Z 14, rv Z 9] w (qV Z Q) := by
  refine ct_of (by decide) (Nat.le_of_ble_eq_true rfl) (fun E eE C R => ?_)
  subst eE
  have C : Cx Z (adA Z) E cX4_gatherLines "HandleFaces$Reader" 3 rm_X4_gatherLines := C
  unfold X4_gatherLines at h
  show V Z (adA Z) E 3 w 0 [(0, rv Z 14), (1, rv Z 9)] []
  refine v_aload_n C dX4_gatherLines_0 0 rfl ?_
  refine v_iconst C dX4_gatherLines_1 ?_
  refine p_X4_lines C wd_155 dX4_gatherLines_2 ?_
  have h := h _ rfl
  refine v_aload_n C dX4_gatherLines_5 0 rfl ?_
  refine v_iconst C dX4_gatherLines_6 ?_
  refine p_X4_twists C wd_156 dX4_gatherLines_7 ?_
  have h := h _ rfl
  refine v_iconst C dX4_gatherLines_10 ?_
  refine v_istore_n C [(2, _), (0, _), (1, _)] dX4_gatherLines_11 2 rfl (by decide) rfl ?_
  refine v_sub [1, 2, 0] rfl ?_
  obtain ⟨m, h⟩ := h
  exact t_X4_gatherLines_l12 C R (t_X4_gatherLines_b150 C R) m _ _ h
abbrev rm_X4_fail : Room := { frames := 0, cells := 0, slots := 0, locals := 0 }
theorem mf_X4_fail : MfB yX4_fail cX4_fail 3 none 2 := ⟨wd_554, wd_4, by decide, by decide, by decide +kernel⟩
def X4_fail (x1 : Int) (x2 : Int) (w : Wd) (Q : Wd → Prop) : Prop := (∀ w1, w1 = up w 14 0 x1 → (∀ w2, w2 = up w1 14 1 x2 → Q w2))
theorem m_X4_fail {Z : Zw} {l : Launch} {x1 : Int} {x2 : Int} {w : Wd} {Q : Wd → Prop} (h : X4_fail x1 x2 w Q) : CtQ Z l yX4_fail cX4_fail 3 none rm_X4_fail [rv Z 14, iv x1, iv x2] w (qV Z Q) := by
  refine ct_of (by decide) (Nat.le_of_ble_eq_true rfl) (fun E eE C R => ?_)
  subst eE
  have C : Cx Z (adA Z) E cX4_fail "HandleFaces$Reader" 3 rm_X4_fail := C
  unfold X4_fail at h
  show V Z (adA Z) E 3 w 0 [(0, rv Z 14), (1, iv x1), (2, iv x2)] []
  refine v_aload_n C dX4_fail_0 0 rfl ?_
  refine v_iload_n C dX4_fail_1 1 rfl ?_
  refine p_X4_fault C wd_151 dX4_fail_2 ?_
  have h := h _ rfl
  refine v_aload_n C dX4_fail_5 0 rfl ?_
  refine v_iload_n C dX4_fail_6 2 rfl ?_
  refine p_X4_faultPlace C wd_152 dX4_fail_7 ?_
  have h := h _ rfl
  exact v_ret C R h dX4_fail_10
abbrev rm_X4_checkPost : Room := { frames := 1, cells := 0, slots := 0, locals := 23 }
theorem mf_X4_checkPost : MfB yX4_checkPost cX4_checkPost 4 none 3 := ⟨wd_550, wd_4, by decide, by decide, by decide +kernel⟩
def X4_checkPost (x2 : Int) (x3 : Int) (w : Wd) (Q : Wd → Prop) : Prop := (ix x2 400 ∧ X4_postNamed (rd w 12 x2) w (fun y2 w1 => ((wr x3 ≤ wr y2 → Q w1) ∧ (¬ wr x3 ≤ wr y2 → (ix x2 400 ∧ X4_fail 3 (rd w1 11 x2) w1 (fun w3 => Q w3))))))
theorem m_X4_checkPost {Z : Zw} {l : Launch} {x2 : Int} {x3 : Int} {w : Wd} {Q : Wd → Prop} (h : X4_checkPost x2 x3 w Q) : CtQ Z l yX4_checkPost cX4_checkPost 4 none rm_X4_checkPost [rv Z 14, rv Z 9, iv x2, iv x3] w (qV Z Q) := by
  refine ct_of (by decide) (Nat.le_of_ble_eq_true rfl) (fun E eE C R => ?_)
  subst eE
  have C : Cx Z (adA Z) E cX4_checkPost "HandleFaces$Reader" 4 rm_X4_checkPost := C
  unfold X4_checkPost at h
  show V Z (adA Z) E 4 w 0 [(0, rv Z 14), (1, rv Z 9), (2, iv x2), (3, iv x3)] []
  refine v_aload_n C dX4_checkPost_0 0 rfl ?_
  refine v_aload_n C dX4_checkPost_1 1 rfl ?_
  refine g_X6_values C wd_106 dX4_checkPost_2 ?_
  refine v_iload_n C dX4_checkPost_5 2 rfl ?_
  refine v_lald C rfl h.1 dX4_checkPost_6 ?_
  have h := h.2
  refine v_calli C (rn_V C _ (m_X4_postNamed h) mf_X4_postNamed wd_545 wp_9 wd_543 rfl rfl ⟨(Nat.le_of_ble_eq_true rfl), (Nat.le_of_ble_eq_true rfl)⟩ rfl rfl rfl rfl (Nat.le_of_ble_eq_true rfl) dX4_checkPost_7) (fun r w h => ?_)
  refine v_iload_n C dX4_checkPost_10 3 rfl ?_
  refine v_icmp_ge C 25 dX4_checkPost_11 (by decide) (fun q => ?_) (fun q => ?_)
  · have h := h.1 q
    exact v_ret C R h dX4_checkPost_25
  · have h := h.2 q
    refine v_aload_n C dX4_checkPost_14 0 rfl ?_
    refine v_iconst C dX4_checkPost_15 ?_
    refine v_aload_n C dX4_checkPost_16 1 rfl ?_
    refine g_X6_places C wd_104 dX4_checkPost_17 ?_
    refine v_iload_n C dX4_checkPost_20 2 rfl ?_
    refine v_iald C rfl h.1 dX4_checkPost_21 ?_
    have h := h.2
    refine v_callv C (rn_V C _ (m_X4_fail h) mf_X4_fail wd_553 wp_11 wd_551 rfl rfl ⟨(Nat.le_of_ble_eq_true rfl), (Nat.le_of_ble_eq_true rfl)⟩ rfl rfl rfl rfl (Nat.le_of_ble_eq_true rfl) dX4_checkPost_22) (fun w h => ?_)
    exact v_ret C R h dX4_checkPost_25
abbrev rm_X4_checkLine : Room := { frames := 1, cells := 0, slots := 0, locals := 23 }
theorem mf_X4_checkLine : MfB yX4_checkLine cX4_checkLine 3 none 2 := ⟨wd_558, wd_4, by decide, by decide, by decide +kernel⟩
def X4_checkLine (x2 : Int) (w : Wd) (Q : Wd → Prop) : Prop := (ix x2 400 ∧ X4_postNamed (rd w 12 x2) w (fun y2 w1 => ((wr y2 = wr (-1) → (ix x2 400 ∧ X4_fail 4 (rd w1 11 x2) w1 (fun w7 => Q w7))) ∧ (¬ wr y2 = wr (-1) → (ix x2 400 ∧ (ix (x2 + 1) 400 ∧ ((wr (lcm (rd w1 12 x2) (rd w1 12 (x2 + 1))) = 0 → (ix (x2 + 1) 400 ∧ X4_fail 3 (rd w1 11 (x2 + 1)) w1 (fun w6 => Q w6))) ∧ (¬ wr (lcm (rd w1 12 x2) (rd w1 12 (x2 + 1))) = 0 → (ix (x2 + 1) 400 ∧ X4_postNamed (rd w1 12 (x2 + 1)) w1 (fun y4 w3 => ((wr y4 = wr (-1) → (ix (x2 + 1) 400 ∧ X4_fail 4 (rd w3 11 (x2 + 1)) w3 (fun w5 => Q w5))) ∧ (¬ wr y4 = wr (-1) → Q w3))))))))))))
theorem m_X4_checkLine {Z : Zw} {l : Launch} {x2 : Int} {w : Wd} {Q : Wd → Prop} (h : X4_checkLine x2 w Q) : CtQ Z l yX4_checkLine cX4_checkLine 3 none rm_X4_checkLine [rv Z 14, rv Z 9, iv x2] w (qV Z Q) := by
  refine ct_of (by decide) (Nat.le_of_ble_eq_true rfl) (fun E eE C R => ?_)
  subst eE
  have C : Cx Z (adA Z) E cX4_checkLine "HandleFaces$Reader" 3 rm_X4_checkLine := C
  unfold X4_checkLine at h
  show V Z (adA Z) E 3 w 0 [(0, rv Z 14), (1, rv Z 9), (2, iv x2)] []
  refine v_aload_n C dX4_checkLine_0 0 rfl ?_
  refine v_aload_n C dX4_checkLine_1 1 rfl ?_
  refine g_X6_values C wd_106 dX4_checkLine_2 ?_
  refine v_iload_n C dX4_checkLine_5 2 rfl ?_
  refine v_lald C rfl h.1 dX4_checkLine_6 ?_
  have h := h.2
  refine v_calli C (rn_V C _ (m_X4_postNamed h) mf_X4_postNamed wd_545 wp_9 wd_543 rfl rfl ⟨(Nat.le_of_ble_eq_true rfl), (Nat.le_of_ble_eq_true rfl)⟩ rfl rfl rfl rfl (Nat.le_of_ble_eq_true rfl) dX4_checkLine_7) (fun r w h => ?_)
  refine v_iconst C dX4_checkLine_10 ?_
  refine v_icmp_ne C 28 dX4_checkLine_11 (by decide) (fun q => ?_) (fun q => ?_)
  · have h := h.2 q
    refine v_aload_n C dX4_checkLine_28 1 rfl ?_
    refine g_X6_values C wd_106 dX4_checkLine_29 ?_
    refine v_iload_n C dX4_checkLine_32 2 rfl ?_
    refine v_lald C rfl h.1 dX4_checkLine_33 ?_
    have h := h.2
    refine v_aload_n C dX4_checkLine_34 1 rfl ?_
    refine g_X6_values C wd_106 dX4_checkLine_35 ?_
    refine v_iload_n C dX4_checkLine_38 2 rfl ?_
    refine v_iconst C dX4_checkLine_39 ?_
    refine v_iadd C dX4_checkLine_40 ?_
    refine v_lald C rfl h.1 dX4_checkLine_41 ?_
    have h := h.2
    refine v_lcmp C dX4_checkLine_42 ?_
    refine v_if_ne C 62 dX4_checkLine_43 (by decide) (fun q => ?_) (fun q => ?_)
    · have h := h.2 q
      refine v_aload_n C dX4_checkLine_62 0 rfl ?_
      refine v_aload_n C dX4_checkLine_63 1 rfl ?_
      refine g_X6_values C wd_106 dX4_checkLine_64 ?_
      refine v_iload_n C dX4_checkLine_67 2 rfl ?_
      refine v_iconst C dX4_checkLine_68 ?_
      refine v_iadd C dX4_checkLine_69 ?_
      refine v_lald C rfl h.1 dX4_checkLine_70 ?_
      have h := h.2
      refine v_calli C (rn_V C _ (m_X4_postNamed h) mf_X4_postNamed wd_545 wp_9 wd_543 rfl rfl ⟨(Nat.le_of_ble_eq_true rfl), (Nat.le_of_ble_eq_true rfl)⟩ rfl rfl rfl rfl (Nat.le_of_ble_eq_true rfl) dX4_checkLine_71) (fun r w h => ?_)
      refine v_iconst C dX4_checkLine_74 ?_
      refine v_icmp_ne C 91 dX4_checkLine_75 (by decide) (fun q => ?_) (fun q => ?_)
      · have h := h.2 q
        exact v_ret C R h dX4_checkLine_91
      · have h := h.1 q
        refine v_aload_n C dX4_checkLine_78 0 rfl ?_
        refine v_iconst C dX4_checkLine_79 ?_
        refine v_aload_n C dX4_checkLine_80 1 rfl ?_
        refine g_X6_places C wd_104 dX4_checkLine_81 ?_
        refine v_iload_n C dX4_checkLine_84 2 rfl ?_
        refine v_iconst C dX4_checkLine_85 ?_
        refine v_iadd C dX4_checkLine_86 ?_
        refine v_iald C rfl h.1 dX4_checkLine_87 ?_
        have h := h.2
        refine v_callv C (rn_V C _ (m_X4_fail h) mf_X4_fail wd_553 wp_11 wd_551 rfl rfl ⟨(Nat.le_of_ble_eq_true rfl), (Nat.le_of_ble_eq_true rfl)⟩ rfl rfl rfl rfl (Nat.le_of_ble_eq_true rfl) dX4_checkLine_88) (fun w h => ?_)
        exact v_ret C R h dX4_checkLine_91
    · have h := h.1 q
      refine v_aload_n C dX4_checkLine_46 0 rfl ?_
      refine v_iconst C dX4_checkLine_47 ?_
      refine v_aload_n C dX4_checkLine_48 1 rfl ?_
      refine g_X6_places C wd_104 dX4_checkLine_49 ?_
      refine v_iload_n C dX4_checkLine_52 2 rfl ?_
      refine v_iconst C dX4_checkLine_53 ?_
      refine v_iadd C dX4_checkLine_54 ?_
      refine v_iald C rfl h.1 dX4_checkLine_55 ?_
      have h := h.2
      refine v_callv C (rn_V C _ (m_X4_fail h) mf_X4_fail wd_553 wp_11 wd_551 rfl rfl ⟨(Nat.le_of_ble_eq_true rfl), (Nat.le_of_ble_eq_true rfl)⟩ rfl rfl rfl rfl (Nat.le_of_ble_eq_true rfl) dX4_checkLine_56) (fun w h => ?_)
      refine v_goto C 91 dX4_checkLine_59 (by decide) ?_
      exact v_ret C R h dX4_checkLine_91
  · have h := h.1 q
    refine v_aload_n C dX4_checkLine_14 0 rfl ?_
    refine v_iconst C dX4_checkLine_15 ?_
    refine v_aload_n C dX4_checkLine_16 1 rfl ?_
    refine g_X6_places C wd_104 dX4_checkLine_17 ?_
    refine v_iload_n C dX4_checkLine_20 2 rfl ?_
    refine v_iald C rfl h.1 dX4_checkLine_21 ?_
    have h := h.2
    refine v_callv C (rn_V C _ (m_X4_fail h) mf_X4_fail wd_553 wp_11 wd_551 rfl rfl ⟨(Nat.le_of_ble_eq_true rfl), (Nat.le_of_ble_eq_true rfl)⟩ rfl rfl rfl rfl (Nat.le_of_ble_eq_true rfl) dX4_checkLine_22) (fun w h => ?_)
    refine v_goto C 91 dX4_checkLine_25 (by decide) ?_
    exact v_ret C R h dX4_checkLine_91
abbrev rm_X4_linesOf : Room := { frames := 0, cells := 0, slots := 0, locals := 0 }
theorem mf_X4_linesOf : MfB yX4_linesOf cX4_linesOf 4 (some .int) 1 := ⟨wd_566, wd_4, by decide, by decide, by decide +kernel⟩
def X4_linesOf_l4 (Q : Int → Wd → Prop) (e38 : Int → Wd → Prop) : Nat → Int → Int → Int → Wd → Prop
  | 0 => fun _ _ _ _ => False
  | n + 1 => fun x1 x2 x3 w => ((wr (2 * (w 14 3)) ≤ wr x3 → e38 x2 w) ∧ (¬ wr (2 * (w 14 3)) ≤ wr x3 → (ix x3 20 ∧ ((wr (rd w 16 x3) = wr x1 → (∀ y1, y1 = (ior x2 (isl 1 (isr x3 1))) → (X4_linesOf_l4 Q e38 n) x1 y1 (x3 + 1) w)) ∧ (¬ wr (rd w 16 x3) = wr x1 → (X4_linesOf_l4 Q e38 n) x1 x2 (x3 + 1) w)))))
theorem t_X4_linesOf_l4 {Z : Zw} {E : Amb} {Q : Int → Wd → Prop} {e38 : Int → Wd → Prop} (C : Cx Z (adA Z) E cX4_linesOf "HandleFaces$Reader" 4 rm_X4_linesOf) (R : Rt Z E (some .int) (qI Z Q)) (he38 : ∀ (x2 : Int) (w : Wd), e38 x2 w → V Z (adA Z) E 4 w 38 [(2, iv x2)] []) : ∀ (n : Nat) (x1 : Int) (x2 : Int) (x3 : Int) (w : Wd), X4_linesOf_l4 Q e38 n x1 x2 x3 w → V Z (adA Z) E 4 w 4 [(0, rv Z 14), (1, iv x1), (2, iv x2), (3, iv x3)] [] := by
  intro n
  induction n with
  | zero => intro x1 x2 x3 w h; exact h.elim
  | succ n ih =>
    intro x1 x2 x3 w h
    unfold X4_linesOf_l4 at h
    refine v_iload_n C dX4_linesOf_4 3 rfl ?_
    refine v_iconst C dX4_linesOf_5 ?_
    refine v_aload_n C dX4_linesOf_6 0 rfl ?_
    refine g_X4_lines C wd_155 dX4_linesOf_7 ?_
    refine v_imul C dX4_linesOf_10 ?_
    refine v_icmp_ge C 38 dX4_linesOf_11 (by decide) (fun q => ?_) (fun q => ?_)
    · have h := h.1 q
      refine v_sub [2] rfl ?_
      exact he38 _ _ h
    · have h := h.2 q
      refine v_aload_n C dX4_linesOf_14 0 rfl ?_
      refine g_X4_ends C wd_158 dX4_linesOf_15 ?_
      refine v_iload_n C dX4_linesOf_18 3 rfl ?_
      refine v_iald C rfl h.1 dX4_linesOf_19 ?_
      have h := h.2
      refine v_iload_n C dX4_linesOf_20 1 rfl ?_
      refine v_icmp_ne C 32 dX4_linesOf_21 (by decide) (fun q => ?_) (fun q => ?_)
      · have h := h.2 q
        refine v_iinc C [(3, _), (0, _), (1, _), (2, _)] dX4_linesOf_32 3 rfl (by decide) rfl ?_
        refine v_goto C 4 dX4_linesOf_35 (by decide) ?_
        refine v_sub [1, 2, 3, 0] rfl ?_
        exact ih _ _ _ _ h
      · have h := h.1 q
        refine v_iload_n C dX4_linesOf_24 2 rfl ?_
        refine v_iconst C dX4_linesOf_25 ?_
        refine v_iload_n C dX4_linesOf_26 3 rfl ?_
        refine v_iconst C dX4_linesOf_27 ?_
        refine v_ishr C dX4_linesOf_28 ?_
        refine v_ishl C dX4_linesOf_29 ?_
        refine v_ior C dX4_linesOf_30 ?_
        refine v_istore_n C [(2, _), (0, _), (1, _), (3, _)] dX4_linesOf_31 2 rfl (by decide) rfl ?_
        have h := h _ rfl
        refine v_iinc C [(3, _), (2, _), (0, _), (1, _)] dX4_linesOf_32 3 rfl (by decide) rfl ?_
        refine v_goto C 4 dX4_linesOf_35 (by decide) ?_
        refine v_sub [2, 3, 1, 0] rfl ?_
        exact ih _ _ _ _ h
def X4_linesOf_b38 (Q : Int → Wd → Prop) (x2 : Int) (w : Wd) : Prop := Q (wr x2) w
theorem t_X4_linesOf_b38 {Z : Zw} {E : Amb} {Q : Int → Wd → Prop} (C : Cx Z (adA Z) E cX4_linesOf "HandleFaces$Reader" 4 rm_X4_linesOf) (R : Rt Z E (some .int) (qI Z Q)) : ∀ (x2 : Int) (w : Wd), X4_linesOf_b38 Q x2 w → V Z (adA Z) E 4 w 38 [(2, iv x2)] [] := by
  intro x2 w h
  unfold X4_linesOf_b38 at h
  refine v_iload_n C dX4_linesOf_38 0 rfl ?_
  exact v_iret C R h dX4_linesOf_39
def X4_linesOf (x1 : Int) (w : Wd) (Q : Int → Wd → Prop) : Prop := (∃ m, X4_linesOf_l4 Q (X4_linesOf_b38 Q) m x1 0 0 w)
theorem m_X4_linesOf {Z : Zw} {l : Launch} {x1 : Int} {w : Wd} {Q : Int → Wd → Prop} (h : X4_linesOf x1 w Q) : CtQ Z l yX4_linesOf cX4_linesOf 4 (some .int) rm_X4_linesOf [rv Z 14, iv x1] w (qI Z Q) := by
  refine ct_of (by decide) (Nat.le_of_ble_eq_true rfl) (fun E eE C R => ?_)
  subst eE
  have C : Cx Z (adA Z) E cX4_linesOf "HandleFaces$Reader" 4 rm_X4_linesOf := C
  unfold X4_linesOf at h
  show V Z (adA Z) E 4 w 0 [(0, rv Z 14), (1, iv x1)] []
  refine v_iconst C dX4_linesOf_0 ?_
  refine v_istore_n C [(2, _), (0, _), (1, _)] dX4_linesOf_1 2 rfl (by decide) rfl ?_
  refine v_iconst C dX4_linesOf_2 ?_
  refine v_istore_n C [(3, _), (2, _), (0, _), (1, _)] dX4_linesOf_3 3 rfl (by decide) rfl ?_
  refine v_sub [2, 3, 1, 0] rfl ?_
  obtain ⟨m, h⟩ := h
  exact t_X4_linesOf_l4 C R (t_X4_linesOf_b38 C R) m _ _ _ _ h
abbrev rm_X4_checkRound : Room := { frames := 1, cells := 0, slots := 0, locals := 23 }
theorem mf_X4_checkRound : MfB yX4_checkRound cX4_checkRound 7 none 2 := ⟨wd_562, wd_4, by decide, by decide, by decide +kernel⟩
def X4_checkRound_l40 (Q : Wd → Prop) (e95 : Int → Wd → Prop) (e125 : Int → Int → Wd → Prop) : Nat → Int → Int → Wd → Prop
  | 0 => fun _ _ _ => False
  | n + 1 => fun x4 x5 w => ((wr (w 9 1) ≤ wr x5 → e125 x4 x5 w) ∧ (¬ wr (w 9 1) ≤ wr x5 → (ix x5 400 ∧ ((wr (rd w 10 x5) = wr 6 → (ix x5 400 ∧ (∀ y6, y6 = (rd w 12 x5) → ((wr y6 < 0 → e95 x5 w) ∧ (¬ wr y6 < 0 → ((wr (w 14 3) ≤ wr y6 → e95 x5 w) ∧ (¬ wr (w 14 3) ≤ wr y6 → ((wr (ian (isr x4 y6) 1) = 0 → e95 x5 w) ∧ (¬ wr (ian (isr x4 y6) 1) = 0 → (∀ y7, y7 = (ian x4 (ixo (isl 1 y6) (-1))) → (X4_checkRound_l40 Q e95 e125 n) y7 (x5 + 1) w)))))))))) ∧ (¬ wr (rd w 10 x5) = wr 6 → e125 x4 x5 w)))))
theorem t_X4_checkRound_l40 {Z : Zw} {E : Amb} {Q : Wd → Prop} {e95 : Int → Wd → Prop} {e125 : Int → Int → Wd → Prop} (C : Cx Z (adA Z) E cX4_checkRound "HandleFaces$Reader" 7 rm_X4_checkRound) (R : Rt Z E none (qV Z Q)) (he95 : ∀ (x5 : Int) (w : Wd), e95 x5 w → V Z (adA Z) E 7 w 95 [(0, rv Z 14), (1, rv Z 9), (5, iv x5)] []) (he125 : ∀ (x4 : Int) (x5 : Int) (w : Wd), e125 x4 x5 w → V Z (adA Z) E 7 w 125 [(0, rv Z 14), (1, rv Z 9), (4, iv x4), (5, iv x5)] []) : ∀ (n : Nat) (x4 : Int) (x5 : Int) (w : Wd), X4_checkRound_l40 Q e95 e125 n x4 x5 w → V Z (adA Z) E 7 w 40 [(0, rv Z 14), (1, rv Z 9), (4, iv x4), (5, iv x5)] [] := by
  intro n
  induction n with
  | zero => intro x4 x5 w h; exact h.elim
  | succ n ih =>
    intro x4 x5 w h
    unfold X4_checkRound_l40 at h
    refine v_iload C dX4_checkRound_40 3 rfl ?_
    refine v_aload_n C dX4_checkRound_42 1 rfl ?_
    refine g_X6_tokens C wd_96 dX4_checkRound_43 ?_
    refine v_icmp_ge C 125 dX4_checkRound_46 (by decide) (fun q => ?_) (fun q => ?_)
    · have h := h.1 q
      exact he125 _ _ _ h
    · have h := h.2 q
      refine v_aload_n C dX4_checkRound_49 1 rfl ?_
      refine g_X6_kinds C wd_102 dX4_checkRound_50 ?_
      refine v_iload C dX4_checkRound_53 3 rfl ?_
      refine v_iald C rfl h.1 dX4_checkRound_55 ?_
      have h := h.2
      refine v_bipush C dX4_checkRound_56 (by decide) ?_
      refine v_icmp_ne C 125 dX4_checkRound_58 (by decide) (fun q => ?_) (fun q => ?_)
      · have h := h.2 q
        exact he125 _ _ _ h
      · have h := h.1 q
        refine v_aload_n C dX4_checkRound_61 1 rfl ?_
        refine g_X6_values C wd_106 dX4_checkRound_62 ?_
        refine v_iload C dX4_checkRound_65 3 rfl ?_
        refine v_lald C rfl h.1 dX4_checkRound_67 ?_
        have h := h.2
        refine v_l2i C dX4_checkRound_68 ?_
        refine v_istore C [(6, _), (0, _), (1, _), (4, _), (5, _)] dX4_checkRound_69 (by decide) rfl ?_
        have h := h _ rfl
        refine v_iload C dX4_checkRound_71 0 rfl ?_
        refine v_if_lt C 95 dX4_checkRound_73 (by decide) (fun q => ?_) (fun q => ?_)
        · have h := h.1 q
          refine v_sub [1, 2, 4] rfl ?_
          exact he95 _ _ h
        · have h := h.2 q
          refine v_iload C dX4_checkRound_76 0 rfl ?_
          refine v_aload_n C dX4_checkRound_78 1 rfl ?_
          refine g_X4_lines C wd_155 dX4_checkRound_79 ?_
          refine v_icmp_ge C 95 dX4_checkRound_82 (by decide) (fun q => ?_) (fun q => ?_)
          · have h := h.1 q
            refine v_sub [1, 2, 4] rfl ?_
            exact he95 _ _ h
          · have h := h.2 q
            refine v_iload C dX4_checkRound_85 3 rfl ?_
            refine v_iload C dX4_checkRound_87 0 rfl ?_
            refine v_ishr C dX4_checkRound_89 ?_
            refine v_iconst C dX4_checkRound_90 ?_
            refine v_iand C dX4_checkRound_91 ?_
            refine v_if_ne C 108 dX4_checkRound_92 (by decide) (fun q => ?_) (fun q => ?_)
            · have h := h.2 q
              refine v_iload C dX4_checkRound_108 3 rfl ?_
              refine v_iconst C dX4_checkRound_110 ?_
              refine v_iload C dX4_checkRound_111 0 rfl ?_
              refine v_ishl C dX4_checkRound_113 ?_
              refine v_iconst C dX4_checkRound_114 ?_
              refine v_ixor C dX4_checkRound_115 ?_
              refine v_iand C dX4_checkRound_116 ?_
              refine v_istore C [(4, _), (6, _), (0, _), (1, _), (5, _)] dX4_checkRound_117 (by decide) rfl ?_
              have h := h _ rfl
              refine v_iinc C [(5, _), (4, _), (6, _), (0, _), (1, _)] dX4_checkRound_119 4 rfl (by decide) rfl ?_
              refine v_goto C 40 dX4_checkRound_122 (by decide) ?_
              refine v_sub [3, 4, 1, 0] rfl ?_
              exact ih _ _ _ h
            · have h := h.1 q
              refine v_sub [1, 2, 4] rfl ?_
              exact he95 _ _ h
def X4_checkRound_b95 (Q : Wd → Prop) (x5 : Int) (w : Wd) : Prop := (ix x5 400 ∧ X4_fail 5 (rd w 11 x5) w (fun w8 => Q w8))
theorem t_X4_checkRound_b95 {Z : Zw} {E : Amb} {Q : Wd → Prop} (C : Cx Z (adA Z) E cX4_checkRound "HandleFaces$Reader" 7 rm_X4_checkRound) (R : Rt Z E none (qV Z Q)) : ∀ (x5 : Int) (w : Wd), X4_checkRound_b95 Q x5 w → V Z (adA Z) E 7 w 95 [(0, rv Z 14), (1, rv Z 9), (5, iv x5)] [] := by
  intro x5 w h
  unfold X4_checkRound_b95 at h
  refine v_aload_n C dX4_checkRound_95 0 rfl ?_
  refine v_iconst C dX4_checkRound_96 ?_
  refine v_aload_n C dX4_checkRound_97 1 rfl ?_
  refine g_X6_places C wd_104 dX4_checkRound_98 ?_
  refine v_iload C dX4_checkRound_101 2 rfl ?_
  refine v_iald C rfl h.1 dX4_checkRound_103 ?_
  have h := h.2
  refine v_callv C (rn_V C _ (m_X4_fail h) mf_X4_fail wd_553 wp_11 wd_551 rfl rfl ⟨(Nat.le_of_ble_eq_true rfl), (Nat.le_of_ble_eq_true rfl)⟩ rfl rfl rfl rfl (Nat.le_of_ble_eq_true rfl) dX4_checkRound_104) (fun w h => ?_)
  exact v_ret C R h dX4_checkRound_107
def X4_checkRound_b125 (Q : Wd → Prop) (x4 : Int) (x5 : Int) (w : Wd) : Prop := ((wr x4 = 0 → Q w) ∧ (¬ wr x4 = 0 → ((wr (w 9 1) ≤ wr x5 → Q w) ∧ (¬ wr (w 9 1) ≤ wr x5 → (ix x5 400 ∧ X4_fail 6 (rd w 11 x5) w (fun w9 => Q w9))))))
theorem t_X4_checkRound_b125 {Z : Zw} {E : Amb} {Q : Wd → Prop} (C : Cx Z (adA Z) E cX4_checkRound "HandleFaces$Reader" 7 rm_X4_checkRound) (R : Rt Z E none (qV Z Q)) : ∀ (x4 : Int) (x5 : Int) (w : Wd), X4_checkRound_b125 Q x4 x5 w → V Z (adA Z) E 7 w 125 [(0, rv Z 14), (1, rv Z 9), (4, iv x4), (5, iv x5)] [] := by
  intro x4 x5 w h
  unfold X4_checkRound_b125 at h
  refine v_iload C dX4_checkRound_125 2 rfl ?_
  refine v_if_eq C 152 dX4_checkRound_127 (by decide) (fun q => ?_) (fun q => ?_)
  · have h := h.1 q
    exact v_ret C R h dX4_checkRound_152
  · have h := h.2 q
    refine v_iload C dX4_checkRound_130 3 rfl ?_
    refine v_aload_n C dX4_checkRound_132 1 rfl ?_
    refine g_X6_tokens C wd_96 dX4_checkRound_133 ?_
    refine v_icmp_ge C 152 dX4_checkRound_136 (by decide) (fun q => ?_) (fun q => ?_)
    · have h := h.1 q
      exact v_ret C R h dX4_checkRound_152
    · have h := h.2 q
      refine v_aload_n C dX4_checkRound_139 0 rfl ?_
      refine v_bipush C dX4_checkRound_140 (by decide) ?_
      refine v_aload_n C dX4_checkRound_142 1 rfl ?_
      refine g_X6_places C wd_104 dX4_checkRound_143 ?_
      refine v_iload C dX4_checkRound_146 3 rfl ?_
      refine v_iald C rfl h.1 dX4_checkRound_148 ?_
      have h := h.2
      refine v_callv C (rn_V C _ (m_X4_fail h) mf_X4_fail wd_553 wp_11 wd_551 rfl rfl ⟨(Nat.le_of_ble_eq_true rfl), (Nat.le_of_ble_eq_true rfl)⟩ rfl rfl rfl rfl (Nat.le_of_ble_eq_true rfl) dX4_checkRound_149) (fun w h => ?_)
      exact v_ret C R h dX4_checkRound_152
def X4_checkRound (x2 : Int) (w : Wd) (Q : Wd → Prop) : Prop := (ix x2 400 ∧ X4_postNamed (rd w 12 x2) w (fun y2 w1 => ((wr y2 = wr (-1) → (ix x2 400 ∧ X4_fail 4 (rd w1 11 x2) w1 (fun w10 => Q w10))) ∧ (¬ wr y2 = wr (-1) → X4_linesOf y2 w1 (fun y4 w3 => (∀ y5, y5 = (x2 + 1) → (∃ m, X4_checkRound_l40 Q (X4_checkRound_b95 Q) (X4_checkRound_b125 Q) m y4 y5 w3)))))))
theorem m_X4_checkRound {Z : Zw} {l : Launch} {x2 : Int} {w : Wd} {Q : Wd → Prop} (h : X4_checkRound x2 w Q) : CtQ Z l yX4_checkRound cX4_checkRound 7 none rm_X4_checkRound [rv Z 14, rv Z 9, iv x2] w (qV Z Q) := by
  refine ct_of (by decide) (Nat.le_of_ble_eq_true rfl) (fun E eE C R => ?_)
  subst eE
  have C : Cx Z (adA Z) E cX4_checkRound "HandleFaces$Reader" 7 rm_X4_checkRound := C
  unfold X4_checkRound at h
  show V Z (adA Z) E 7 w 0 [(0, rv Z 14), (1, rv Z 9), (2, iv x2)] []
  refine v_aload_n C dX4_checkRound_0 0 rfl ?_
  refine v_aload_n C dX4_checkRound_1 1 rfl ?_
  refine g_X6_values C wd_106 dX4_checkRound_2 ?_
  refine v_iload_n C dX4_checkRound_5 2 rfl ?_
  refine v_lald C rfl h.1 dX4_checkRound_6 ?_
  have h := h.2
  refine v_calli C (rn_V C _ (m_X4_postNamed h) mf_X4_postNamed wd_545 wp_9 wd_543 rfl rfl ⟨(Nat.le_of_ble_eq_true rfl), (Nat.le_of_ble_eq_true rfl)⟩ rfl rfl rfl rfl (Nat.le_of_ble_eq_true rfl) dX4_checkRound_7) (fun r w h => ?_)
  refine v_istore_n C [(3, _), (0, _), (1, _), (2, _)] dX4_checkRound_10 3 rfl (by decide) rfl ?_
  refine v_iload_n C dX4_checkRound_11 0 rfl ?_
  refine v_iconst C dX4_checkRound_12 ?_
  refine v_icmp_ne C 28 dX4_checkRound_13 (by decide) (fun q => ?_) (fun q => ?_)
  · have h := h.2 q
    refine v_aload_n C dX4_checkRound_28 1 rfl ?_
    refine v_iload_n C dX4_checkRound_29 0 rfl ?_
    refine v_calli C (rn_V C _ (m_X4_linesOf h) mf_X4_linesOf wd_565 wp_14 wd_563 rfl rfl ⟨(Nat.le_of_ble_eq_true rfl), (Nat.le_of_ble_eq_true rfl)⟩ rfl rfl rfl rfl (Nat.le_of_ble_eq_true rfl) dX4_checkRound_30) (fun r w h => ?_)
    refine v_istore C [(4, _), (3, _), (0, _), (1, _), (2, _)] dX4_checkRound_33 (by decide) rfl ?_
    refine v_iload_n C dX4_checkRound_35 4 rfl ?_
    refine v_iconst C dX4_checkRound_36 ?_
    refine v_iadd C dX4_checkRound_37 ?_
    refine v_istore C [(5, _), (4, _), (3, _), (0, _), (1, _), (2, _)] dX4_checkRound_38 (by decide) rfl ?_
    have h := h _ rfl
    refine v_sub [3, 4, 1, 0] rfl ?_
    obtain ⟨m, h⟩ := h
    exact t_X4_checkRound_l40 C R (t_X4_checkRound_b95 C R) (t_X4_checkRound_b125 C R) m _ _ _ h
  · have h := h.1 q
    refine v_aload_n C dX4_checkRound_16 1 rfl ?_
    refine v_iconst C dX4_checkRound_17 ?_
    refine v_aload_n C dX4_checkRound_18 2 rfl ?_
    refine g_X6_places C wd_104 dX4_checkRound_19 ?_
    refine v_iload_n C dX4_checkRound_22 3 rfl ?_
    refine v_iald C rfl h.1 dX4_checkRound_23 ?_
    have h := h.2
    refine v_callv C (rn_V C _ (m_X4_fail h) mf_X4_fail wd_553 wp_11 wd_551 rfl rfl ⟨(Nat.le_of_ble_eq_true rfl), (Nat.le_of_ble_eq_true rfl)⟩ rfl rfl rfl rfl (Nat.le_of_ble_eq_true rfl) dX4_checkRound_24) (fun w h => ?_)
    exact v_ret C R h dX4_checkRound_27
abbrev rm_X4_check : Room := { frames := 2, cells := 0, slots := 0, locals := 49 }
theorem mf_X4_check : MfB yX4_check cX4_check 4 (some .int) 1 := ⟨wd_534, wd_4, by decide, by decide, by decide +kernel⟩
def X4_check_l24 (Q : Int → Wd → Prop) (e111 : Wd → Prop) : Nat → Int → Int → Wd → Prop
  | 0 => fun _ _ _ => False
  | n + 1 => fun x2 x3 w => ((wr (w 9 1) ≤ wr (x3 + 2) → e111 w) ∧ (¬ wr (w 9 1) ≤ wr (x3 + 2) → ((wr (w 14 0) = 0 → (ix x3 400 ∧ ((wr (rd w 10 x3) = wr 1 → X4_checkPost (x3 + 1) x2 w (fun w7 => (X4_check_l24 Q e111 n) (x2 + 1) (x3 + 1) w7)) ∧ (¬ wr (rd w 10 x3) = wr 1 → (ix x3 400 ∧ ((wr (rd w 10 x3) = wr 2 → X4_checkLine (x3 + 1) w (fun w6 => (X4_check_l24 Q e111 n) x2 (x3 + 1) w6)) ∧ (¬ wr (rd w 10 x3) = wr 2 → (ix x3 400 ∧ ((wr (rd w 10 x3) = wr 3 → X4_checkRound (x3 + 1) w (fun w5 => (X4_check_l24 Q e111 n) x2 (x3 + 1) w5)) ∧ (¬ wr (rd w 10 x3) = wr 3 → (X4_check_l24 Q e111 n) x2 (x3 + 1) w)))))))))) ∧ (¬ wr (w 14 0) = 0 → e111 w))))
theorem t_X4_check_l24 {Z : Zw} {E : Amb} {Q : Int → Wd → Prop} {e111 : Wd → Prop} (C : Cx Z (adA Z) E cX4_check "HandleFaces$Reader" 4 rm_X4_check) (R : Rt Z E (some .int) (qI Z Q)) (he111 : ∀ (w : Wd), e111 w → V Z (adA Z) E 4 w 111 [(0, rv Z 14)] []) : ∀ (n : Nat) (x2 : Int) (x3 : Int) (w : Wd), X4_check_l24 Q e111 n x2 x3 w → V Z (adA Z) E 4 w 24 [(0, rv Z 14), (1, rv Z 9), (2, iv x2), (3, iv x3)] [] := by
  intro n
  induction n with
  | zero => intro x2 x3 w h; exact h.elim
  | succ n ih =>
    intro x2 x3 w h
    unfold X4_check_l24 at h
    refine v_iload_n C dX4_check_24 3 rfl ?_
    refine v_iconst C dX4_check_25 ?_
    refine v_iadd C dX4_check_26 ?_
    refine v_aload_n C dX4_check_27 1 rfl ?_
    refine g_X6_tokens C wd_96 dX4_check_28 ?_
    refine v_icmp_ge C 111 dX4_check_31 (by decide) (fun q => ?_) (fun q => ?_)
    · have h := h.1 q
      refine v_sub [0] rfl ?_
      exact he111 _ h
    · have h := h.2 q
      refine v_aload_n C dX4_check_34 0 rfl ?_
      refine g_X4_fault C wd_151 dX4_check_35 ?_
      refine v_if_ne C 111 dX4_check_38 (by decide) (fun q => ?_) (fun q => ?_)
      · have h := h.2 q
        refine v_sub [0] rfl ?_
        exact he111 _ h
      · have h := h.1 q
        refine v_aload_n C dX4_check_41 1 rfl ?_
        refine g_X6_kinds C wd_102 dX4_check_42 ?_
        refine v_iload_n C dX4_check_45 3 rfl ?_
        refine v_iald C rfl h.1 dX4_check_46 ?_
        have h := h.2
        refine v_iconst C dX4_check_47 ?_
        refine v_icmp_ne C 66 dX4_check_48 (by decide) (fun q => ?_) (fun q => ?_)
        · have h := h.2 q
          refine v_aload_n C dX4_check_66 1 rfl ?_
          refine g_X6_kinds C wd_102 dX4_check_67 ?_
          refine v_iload_n C dX4_check_70 3 rfl ?_
          refine v_iald C rfl h.1 dX4_check_71 ?_
          have h := h.2
          refine v_iconst C dX4_check_72 ?_
          refine v_icmp_ne C 87 dX4_check_73 (by decide) (fun q => ?_) (fun q => ?_)
          · have h := h.2 q
            refine v_aload_n C dX4_check_87 1 rfl ?_
            refine g_X6_kinds C wd_102 dX4_check_88 ?_
            refine v_iload_n C dX4_check_91 3 rfl ?_
            refine v_iald C rfl h.1 dX4_check_92 ?_
            have h := h.2
            refine v_iconst C dX4_check_93 ?_
            refine v_icmp_ne C 105 dX4_check_94 (by decide) (fun q => ?_) (fun q => ?_)
            · have h := h.2 q
              refine v_iinc C [(3, _), (0, _), (1, _), (2, _)] dX4_check_105 3 rfl (by decide) rfl ?_
              refine v_goto C 24 dX4_check_108 (by decide) ?_
              refine v_sub [1, 2, 3, 0] rfl ?_
              exact ih _ _ _ h
            · have h := h.1 q
              refine v_aload_n C dX4_check_97 0 rfl ?_
              refine v_aload_n C dX4_check_98 1 rfl ?_
              refine v_iload_n C dX4_check_99 3 rfl ?_
              refine v_iconst C dX4_check_100 ?_
              refine v_iadd C dX4_check_101 ?_
              refine v_callv C (rn_V C _ (m_X4_checkRound h) mf_X4_checkRound wd_561 wp_13 wd_559 rfl rfl ⟨(Nat.le_of_ble_eq_true rfl), (Nat.le_of_ble_eq_true rfl)⟩ rfl rfl rfl rfl (Nat.le_of_ble_eq_true rfl) dX4_check_102) (fun w h => ?_)
              refine v_iinc C [(3, _), (0, _), (1, _), (2, _)] dX4_check_105 3 rfl (by decide) rfl ?_
              refine v_goto C 24 dX4_check_108 (by decide) ?_
              refine v_sub [1, 2, 3, 0] rfl ?_
              exact ih _ _ _ h
          · have h := h.1 q
            refine v_aload_n C dX4_check_76 0 rfl ?_
            refine v_aload_n C dX4_check_77 1 rfl ?_
            refine v_iload_n C dX4_check_78 3 rfl ?_
            refine v_iconst C dX4_check_79 ?_
            refine v_iadd C dX4_check_80 ?_
            refine v_callv C (rn_V C _ (m_X4_checkLine h) mf_X4_checkLine wd_557 wp_12 wd_555 rfl rfl ⟨(Nat.le_of_ble_eq_true rfl), (Nat.le_of_ble_eq_true rfl)⟩ rfl rfl rfl rfl (Nat.le_of_ble_eq_true rfl) dX4_check_81) (fun w h => ?_)
            refine v_goto C 105 dX4_check_84 (by decide) ?_
            refine v_iinc C [(3, _), (0, _), (1, _), (2, _)] dX4_check_105 3 rfl (by decide) rfl ?_
            refine v_goto C 24 dX4_check_108 (by decide) ?_
            refine v_sub [1, 2, 3, 0] rfl ?_
            exact ih _ _ _ h
        · have h := h.1 q
          refine v_aload_n C dX4_check_51 0 rfl ?_
          refine v_aload_n C dX4_check_52 1 rfl ?_
          refine v_iload_n C dX4_check_53 3 rfl ?_
          refine v_iconst C dX4_check_54 ?_
          refine v_iadd C dX4_check_55 ?_
          refine v_iload_n C dX4_check_56 2 rfl ?_
          refine v_callv C (rn_V C _ (m_X4_checkPost h) mf_X4_checkPost wd_549 wp_10 wd_547 rfl rfl ⟨(Nat.le_of_ble_eq_true rfl), (Nat.le_of_ble_eq_true rfl)⟩ rfl rfl rfl rfl (Nat.le_of_ble_eq_true rfl) dX4_check_57) (fun w h => ?_)
          refine v_iinc C [(2, _), (0, _), (1, _), (3, _)] dX4_check_60 2 rfl (by decide) rfl ?_
          refine v_goto C 105 dX4_check_63 (by decide) ?_
          refine v_iinc C [(3, _), (2, _), (0, _), (1, _)] dX4_check_105 3 rfl (by decide) rfl ?_
          refine v_goto C 24 dX4_check_108 (by decide) ?_
          refine v_sub [2, 3, 1, 0] rfl ?_
          exact ih _ _ _ h
def X4_check_b111 (Q : Int → Wd → Prop) (w : Wd) : Prop := Q (wr (w 14 0)) w
theorem t_X4_check_b111 {Z : Zw} {E : Amb} {Q : Int → Wd → Prop} (C : Cx Z (adA Z) E cX4_check "HandleFaces$Reader" 4 rm_X4_check) (R : Rt Z E (some .int) (qI Z Q)) : ∀ (w : Wd), X4_check_b111 Q w → V Z (adA Z) E 4 w 111 [(0, rv Z 14)] [] := by
  intro w h
  unfold X4_check_b111 at h
  refine v_aload_n C dX4_check_111 0 rfl ?_
  refine g_X4_fault C wd_151 dX4_check_112 ?_
  exact v_iret C R h dX4_check_115
def X4_check (w : Wd) (Q : Int → Wd → Prop) : Prop := (∀ w1, w1 = up w 14 0 0 → (∀ w2, w2 = up w1 14 1 (-1) → X4_gatherPosts w2 (fun w3 => X4_gatherLines w3 (fun w4 => (∃ m, X4_check_l24 Q (X4_check_b111 Q) m 0 0 w4)))))
theorem m_X4_check {Z : Zw} {l : Launch} {w : Wd} {Q : Int → Wd → Prop} (h : X4_check w Q) : CtQ Z l yX4_check cX4_check 4 (some .int) rm_X4_check [rv Z 14, rv Z 9] w (qI Z Q) := by
  refine ct_of (by decide) (Nat.le_of_ble_eq_true rfl) (fun E eE C R => ?_)
  subst eE
  have C : Cx Z (adA Z) E cX4_check "HandleFaces$Reader" 4 rm_X4_check := C
  unfold X4_check at h
  show V Z (adA Z) E 4 w 0 [(0, rv Z 14), (1, rv Z 9)] []
  refine v_aload_n C dX4_check_0 0 rfl ?_
  refine v_iconst C dX4_check_1 ?_
  refine p_X4_fault C wd_151 dX4_check_2 ?_
  have h := h _ rfl
  refine v_aload_n C dX4_check_5 0 rfl ?_
  refine v_iconst C dX4_check_6 ?_
  refine p_X4_faultPlace C wd_152 dX4_check_7 ?_
  have h := h _ rfl
  refine v_aload_n C dX4_check_10 0 rfl ?_
  refine v_aload_n C dX4_check_11 1 rfl ?_
  refine v_callv C (rn_V C _ (m_X4_gatherPosts h) mf_X4_gatherPosts wd_537 wp_7 wd_535 rfl rfl ⟨(Nat.le_of_ble_eq_true rfl), (Nat.le_of_ble_eq_true rfl)⟩ rfl rfl rfl rfl (Nat.le_of_ble_eq_true rfl) dX4_check_12) (fun w h => ?_)
  refine v_aload_n C dX4_check_15 0 rfl ?_
  refine v_aload_n C dX4_check_16 1 rfl ?_
  refine v_callv C (rn_V C _ (m_X4_gatherLines h) mf_X4_gatherLines wd_541 wp_8 wd_539 rfl rfl ⟨(Nat.le_of_ble_eq_true rfl), (Nat.le_of_ble_eq_true rfl)⟩ rfl rfl rfl rfl (Nat.le_of_ble_eq_true rfl) dX4_check_17) (fun w h => ?_)
  refine v_iconst C dX4_check_20 ?_
  refine v_istore_n C [(2, _), (0, _), (1, _)] dX4_check_21 2 rfl (by decide) rfl ?_
  refine v_iconst C dX4_check_22 ?_
  refine v_istore_n C [(3, _), (2, _), (0, _), (1, _)] dX4_check_23 3 rfl (by decide) rfl ?_
  refine v_sub [2, 3, 1, 0] rfl ?_
  obtain ⟨m, h⟩ := h
  exact t_X4_check_l24 C R (t_X4_check_b111 C R) m _ _ _ h
abbrev rm_X4_buildRound : Room := { frames := 1, cells := 0, slots := 0, locals := 26 }
theorem mf_X4_buildRound : MfB yX4_buildRound cX4_buildRound 6 none 3 := ⟨wd_588, wd_4, by decide, by decide, by decide +kernel⟩
def X4_buildRound_l32 (r3 : Nat) (Q : Wd → Prop) (e80 : Wd → Prop) : Nat → Int → Int → Wd → Prop
  | 0 => fun _ _ _ => False
  | n + 1 => fun x4 x5 w => ((wr (w 9 1) ≤ wr x5 → e80 w) ∧ (¬ wr (w 9 1) ≤ wr x5 → (ix x5 400 ∧ ((wr (rd w 10 x5) = wr 6 → (ix x4 6 ∧ (ix x5 400 ∧ X1_insertAt r3 x4 (rd w (r3 + 2) x4) (rd w 12 x5) w (fun w5 => (X4_buildRound_l32 r3 Q e80 n) x4 (x5 + 1) w5)))) ∧ (¬ wr (rd w 10 x5) = wr 6 → e80 w)))))
theorem t_X4_buildRound_l32 {Z : Zw} {E : Amb} {r3 : Nat} {Q : Wd → Prop} {e80 : Wd → Prop} (C : Cx Z (adA Z) E cX4_buildRound "HandleFaces$Reader" 6 rm_X4_buildRound) (R : Rt Z E none (qV Z Q)) (h3 : sX1 r3) (he80 : ∀ (w : Wd), e80 w → V Z (adA Z) E 6 w 80 [] []) : ∀ (n : Nat) (x4 : Int) (x5 : Int) (w : Wd), X4_buildRound_l32 r3 Q e80 n x4 x5 w → V Z (adA Z) E 6 w 32 [(1, rv Z 9), (3, rv Z r3), (4, iv x4), (5, iv x5)] [] := by
  intro n
  induction n with
  | zero => intro x4 x5 w h; exact h.elim
  | succ n ih =>
    intro x4 x5 w h
    unfold X4_buildRound_l32 at h
    refine v_iload C dX4_buildRound_32 3 rfl ?_
    refine v_aload_n C dX4_buildRound_34 0 rfl ?_
    refine g_X6_tokens C wd_96 dX4_buildRound_35 ?_
    refine v_icmp_ge C 80 dX4_buildRound_38 (by decide) (fun q => ?_) (fun q => ?_)
    · have h := h.1 q
      refine v_sub [] rfl ?_
      exact he80 _ h
    · have h := h.2 q
      refine v_aload_n C dX4_buildRound_41 0 rfl ?_
      refine g_X6_kinds C wd_102 dX4_buildRound_42 ?_
      refine v_iload C dX4_buildRound_45 3 rfl ?_
      refine v_iald C rfl h.1 dX4_buildRound_47 ?_
      have h := h.2
      refine v_bipush C dX4_buildRound_48 (by decide) ?_
      refine v_icmp_ne C 80 dX4_buildRound_50 (by decide) (fun q => ?_) (fun q => ?_)
      · have h := h.2 q
        refine v_sub [] rfl ?_
        exact he80 _ h
      · have h := h.1 q
        refine v_aload_n C dX4_buildRound_53 1 rfl ?_
        refine v_iload C dX4_buildRound_54 2 rfl ?_
        refine v_aload_n C dX4_buildRound_56 1 rfl ?_
        refine g_X1_degrees C h3 wd_69 dX4_buildRound_57 ?_
        refine v_iload C dX4_buildRound_60 2 rfl ?_
        refine v_iald C h3.2.2.1 h.1 dX4_buildRound_62 ?_
        have h := h.2
        refine v_aload_n C dX4_buildRound_63 0 rfl ?_
        refine g_X6_values C wd_106 dX4_buildRound_64 ?_
        refine v_iload C dX4_buildRound_67 3 rfl ?_
        refine v_lald C rfl h.1 dX4_buildRound_69 ?_
        have h := h.2
        refine v_l2i C dX4_buildRound_70 ?_
        refine v_callv C (rn_V C _ (m_X1_insertAt h3 h) mf_X1_insertAt wd_582 wd_583 wd_589 rfl rfl ⟨(Nat.le_of_ble_eq_true rfl), (Nat.le_of_ble_eq_true rfl)⟩ h3.1 rfl rfl rfl (Nat.le_of_ble_eq_true rfl) dX4_buildRound_71) (fun w h => ?_)
        refine v_iinc C [(5, _), (1, _), (3, _), (4, _)] dX4_buildRound_74 3 rfl (by decide) rfl ?_
        refine v_goto C 32 dX4_buildRound_77 (by decide) ?_
        refine v_sub [1, 2, 3, 0] rfl ?_
        exact ih _ _ _ h
def X4_buildRound_b80 (r3 : Nat) (Q : Wd → Prop) (w : Wd) : Prop := Q w
theorem t_X4_buildRound_b80 {Z : Zw} {E : Amb} {r3 : Nat} {Q : Wd → Prop} (C : Cx Z (adA Z) E cX4_buildRound "HandleFaces$Reader" 6 rm_X4_buildRound) (R : Rt Z E none (qV Z Q)) (h3 : sX1 r3) : ∀ (w : Wd), X4_buildRound_b80 r3 Q w → V Z (adA Z) E 6 w 80 [] [] := by
  intro w h
  unfold X4_buildRound_b80 at h
  exact v_ret C R h dX4_buildRound_80
def X4_buildRound (r3 : Nat) (x2 : Int) (w : Wd) (Q : Wd → Prop) : Prop := (ix x2 400 ∧ X4_postNamed (rd w 12 x2) w (fun y2 w1 => ((wr y2 = wr (-1) → Q w1) ∧ (¬ wr y2 = wr (-1) → (ix y2 6 ∧ (∀ w3, w3 = wt w1 (r3 + 2) y2 0 → (∀ y4, y4 = (x2 + 1) → (∃ m, X4_buildRound_l32 r3 Q (X4_buildRound_b80 r3 Q) m y2 y4 w3))))))))
theorem m_X4_buildRound {Z : Zw} {l : Launch} {r3 : Nat} {x2 : Int} {w : Wd} {Q : Wd → Prop} (h3 : sX1 r3) (h : X4_buildRound r3 x2 w Q) : CtQ Z l yX4_buildRound cX4_buildRound 6 none rm_X4_buildRound [rv Z 14, rv Z 9, iv x2, rv Z r3] w (qV Z Q) := by
  refine ct_of (by decide) (Nat.le_of_ble_eq_true rfl) (fun E eE C R => ?_)
  subst eE
  have C : Cx Z (adA Z) E cX4_buildRound "HandleFaces$Reader" 6 rm_X4_buildRound := C
  unfold X4_buildRound at h
  show V Z (adA Z) E 6 w 0 [(0, rv Z 14), (1, rv Z 9), (2, iv x2), (3, rv Z r3)] []
  refine v_aload_n C dX4_buildRound_0 0 rfl ?_
  refine v_aload_n C dX4_buildRound_1 1 rfl ?_
  refine g_X6_values C wd_106 dX4_buildRound_2 ?_
  refine v_iload_n C dX4_buildRound_5 2 rfl ?_
  refine v_lald C rfl h.1 dX4_buildRound_6 ?_
  have h := h.2
  refine v_calli C (rn_V C _ (m_X4_postNamed h) mf_X4_postNamed wd_545 wp_9 wd_543 rfl rfl ⟨(Nat.le_of_ble_eq_true rfl), (Nat.le_of_ble_eq_true rfl)⟩ rfl rfl rfl rfl (Nat.le_of_ble_eq_true rfl) dX4_buildRound_7) (fun r w h => ?_)
  refine v_istore C [(4, _), (0, _), (1, _), (2, _), (3, _)] dX4_buildRound_10 (by decide) rfl ?_
  refine v_iload C dX4_buildRound_12 0 rfl ?_
  refine v_iconst C dX4_buildRound_14 ?_
  refine v_icmp_ne C 19 dX4_buildRound_15 (by decide) (fun q => ?_) (fun q => ?_)
  · have h := h.2 q
    refine v_aload_n C dX4_buildRound_19 4 rfl ?_
    refine g_X1_degrees C h3 wd_69 dX4_buildRound_20 ?_
    refine v_iload C dX4_buildRound_23 0 rfl ?_
    refine v_iconst C dX4_buildRound_25 ?_
    refine v_iast C h3.2.2.1 h.1 dX4_buildRound_26 ?_
    have h := h.2
    have h := h _ rfl
    refine v_iload_n C dX4_buildRound_27 3 rfl ?_
    refine v_iconst C dX4_buildRound_28 ?_
    refine v_iadd C dX4_buildRound_29 ?_
    refine v_istore C [(5, _), (4, _), (0, _), (1, _), (2, _), (3, _)] dX4_buildRound_30 (by decide) rfl ?_
    have h := h _ rfl
    refine v_sub [3, 5, 1, 0] rfl ?_
    obtain ⟨m, h⟩ := h
    exact t_X4_buildRound_l32 C R h3 (t_X4_buildRound_b80 C R h3) m _ _ _ h
  · have h := h.1 q
    exact v_ret C R h dX4_buildRound_18
abbrev rm_X4_build : Room := { frames := 2, cells := 0, slots := 0, locals := 51 }
theorem mf_X4_build : MfB yX4_build cX4_build 4 none 2 := ⟨wd_570, wd_4, by decide, by decide, by decide +kernel⟩
def X4_build_l45 (r2 : Nat) (Q : Wd → Prop) (e80 : Wd → Prop) : Nat → Int → Wd → Prop
  | 0 => fun _ _ => False
  | n + 1 => fun x3 w => ((wr (w 9 1) ≤ wr (x3 + 2) → e80 w) ∧ (¬ wr (w 9 1) ≤ wr (x3 + 2) → (ix x3 400 ∧ ((wr (rd w 10 x3) = wr 3 → X4_buildRound r2 (x3 + 1) w (fun w6 => (X4_build_l45 r2 Q e80 n) (x3 + 1) w6)) ∧ (¬ wr (rd w 10 x3) = wr 3 → (X4_build_l45 r2 Q e80 n) (x3 + 1) w)))))
theorem t_X4_build_l45 {Z : Zw} {E : Amb} {r2 : Nat} {Q : Wd → Prop} {e80 : Wd → Prop} (C : Cx Z (adA Z) E cX4_build "HandleFaces$Reader" 4 rm_X4_build) (R : Rt Z E none (qV Z Q)) (h2 : sX1 r2) (he80 : ∀ (w : Wd), e80 w → V Z (adA Z) E 4 w 80 [] []) : ∀ (n : Nat) (x3 : Int) (w : Wd), X4_build_l45 r2 Q e80 n x3 w → V Z (adA Z) E 4 w 45 [(0, rv Z 14), (1, rv Z 9), (2, rv Z r2), (3, iv x3)] [] := by
  intro n
  induction n with
  | zero => intro x3 w h; exact h.elim
  | succ n ih =>
    intro x3 w h
    unfold X4_build_l45 at h
    refine v_iload_n C dX4_build_45 3 rfl ?_
    refine v_iconst C dX4_build_46 ?_
    refine v_iadd C dX4_build_47 ?_
    refine v_aload_n C dX4_build_48 1 rfl ?_
    refine g_X6_tokens C wd_96 dX4_build_49 ?_
    refine v_icmp_ge C 80 dX4_build_52 (by decide) (fun q => ?_) (fun q => ?_)
    · have h := h.1 q
      refine v_sub [] rfl ?_
      exact he80 _ h
    · have h := h.2 q
      refine v_aload_n C dX4_build_55 1 rfl ?_
      refine g_X6_kinds C wd_102 dX4_build_56 ?_
      refine v_iload_n C dX4_build_59 3 rfl ?_
      refine v_iald C rfl h.1 dX4_build_60 ?_
      have h := h.2
      refine v_iconst C dX4_build_61 ?_
      refine v_icmp_ne C 74 dX4_build_62 (by decide) (fun q => ?_) (fun q => ?_)
      · have h := h.2 q
        refine v_iinc C [(3, _), (0, _), (1, _), (2, _)] dX4_build_74 3 rfl (by decide) rfl ?_
        refine v_goto C 45 dX4_build_77 (by decide) ?_
        refine v_sub [1, 2, 3, 0] rfl ?_
        exact ih _ _ h
      · have h := h.1 q
        refine v_aload_n C dX4_build_65 0 rfl ?_
        refine v_aload_n C dX4_build_66 1 rfl ?_
        refine v_iload_n C dX4_build_67 3 rfl ?_
        refine v_iconst C dX4_build_68 ?_
        refine v_iadd C dX4_build_69 ?_
        refine v_aload_n C dX4_build_70 2 rfl ?_
        refine v_callv C (rn_V C _ (m_X4_buildRound h2 h) mf_X4_buildRound wd_587 wp_15 wd_585 rfl rfl ⟨(Nat.le_of_ble_eq_true rfl), (Nat.le_of_ble_eq_true rfl)⟩ rfl rfl rfl rfl (Nat.le_of_ble_eq_true rfl) dX4_build_71) (fun w h => ?_)
        refine v_iinc C [(3, _), (0, _), (1, _), (2, _)] dX4_build_74 3 rfl (by decide) rfl ?_
        refine v_goto C 45 dX4_build_77 (by decide) ?_
        refine v_sub [1, 2, 3, 0] rfl ?_
        exact ih _ _ h
def X4_build_b80 (r2 : Nat) (Q : Wd → Prop) (w : Wd) : Prop := Q w
theorem t_X4_build_b80 {Z : Zw} {E : Amb} {r2 : Nat} {Q : Wd → Prop} (C : Cx Z (adA Z) E cX4_build "HandleFaces$Reader" 4 rm_X4_build) (R : Rt Z E none (qV Z Q)) (h2 : sX1 r2) : ∀ (w : Wd), X4_build_b80 r2 Q w → V Z (adA Z) E 4 w 80 [] [] := by
  intro w h
  unfold X4_build_b80 at h
  exact v_ret C R h dX4_build_80
def X4_build (r2 : Nat) (w : Wd) (Q : Wd → Prop) : Prop := (∀ w1, w1 = up w r2 0 (w 14 2) → (∀ w2, w2 = up w1 r2 1 (w1 14 3) → (∀ w3, w3 = up w2 r2 2 (w2 14 4) → (cpk 0 0 20 20 20 ∧ (∀ w4, w4 = cpy w3 16 (wr 0).toNat (r2 + 1) (wr 0).toNat (wr 20).toNat → X1_orderByNumber r2 w4 (fun w5 => (∃ m, X4_build_l45 r2 Q (X4_build_b80 r2 Q) m 0 w5)))))))
theorem m_X4_build {Z : Zw} {l : Launch} {r2 : Nat} {w : Wd} {Q : Wd → Prop} (h2 : sX1 r2) (h : X4_build r2 w Q) : CtQ Z l yX4_build cX4_build 4 none rm_X4_build [rv Z 14, rv Z 9, rv Z r2] w (qV Z Q) := by
  refine ct_of (by decide) (Nat.le_of_ble_eq_true rfl) (fun E eE C R => ?_)
  subst eE
  have C : Cx Z (adA Z) E cX4_build "HandleFaces$Reader" 4 rm_X4_build := C
  unfold X4_build at h
  show V Z (adA Z) E 4 w 0 [(0, rv Z 14), (1, rv Z 9), (2, rv Z r2)] []
  refine v_aload_n C dX4_build_0 2 rfl ?_
  refine v_aload_n C dX4_build_1 0 rfl ?_
  refine g_X4_posts C wd_154 dX4_build_2 ?_
  refine p_X1_posts C h2 wd_41 dX4_build_5 ?_
  have h := h _ rfl
  refine v_aload_n C dX4_build_8 2 rfl ?_
  refine v_aload_n C dX4_build_9 0 rfl ?_
  refine g_X4_lines C wd_155 dX4_build_10 ?_
  refine p_X1_lines C h2 wd_48 dX4_build_13 ?_
  have h := h _ rfl
  refine v_aload_n C dX4_build_16 2 rfl ?_
  refine v_aload_n C dX4_build_17 0 rfl ?_
  refine g_X4_twists C wd_156 dX4_build_18 ?_
  refine p_X1_twists C h2 wd_54 dX4_build_21 ?_
  have h := h _ rfl
  refine v_aload_n C dX4_build_24 0 rfl ?_
  refine g_X4_ends C wd_158 dX4_build_25 ?_
  refine v_iconst C dX4_build_28 ?_
  refine v_aload_n C dX4_build_29 2 rfl ?_
  refine g_X1_ends C h2 wd_59 dX4_build_30 ?_
  refine v_iconst C dX4_build_33 ?_
  refine v_bipush C dX4_build_34 (by decide) ?_
  refine v_copy C rfl h2.2.1 h.1 wd_571 wd_573 wd_572 wd_18 (Nat.le_of_ble_eq_true rfl) (Nat.le_of_ble_eq_true rfl) dX4_build_36 ?_
  have h := h.2
  have h := h _ rfl
  refine v_aload_n C dX4_build_39 2 rfl ?_
  refine v_callv C (rn_V C _ (m_X1_orderByNumber h2 h) mf_X1_orderByNumber wd_575 wd_576 wd_574 rfl rfl ⟨(Nat.le_of_ble_eq_true rfl), (Nat.le_of_ble_eq_true rfl)⟩ h2.1 rfl rfl rfl (Nat.le_of_ble_eq_true rfl) dX4_build_40) (fun w h => ?_)
  refine v_iconst C dX4_build_43 ?_
  refine v_istore_n C [(3, _), (0, _), (1, _), (2, _)] dX4_build_44 3 rfl (by decide) rfl ?_
  refine v_sub [1, 2, 3, 0] rfl ?_
  obtain ⟨m, h⟩ := h
  exact t_X4_build_l45 C R h2 (t_X4_build_b80 C R h2) m _ _ h
abbrev rm_X6_append : Room := { frames := 0, cells := 0, slots := 0, locals := 0 }
theorem mf_X6_append : MfB yX6_append cX6_append 3 none 1 := ⟨wd_421, wd_3, by decide, by decide, by decide +kernel⟩
def X6_append_l3 (Q : Wd → Prop) (e46 : Wd → Prop) : Nat → Int → Int → Wd → Prop
  | 0 => fun _ _ _ => False
  | n + 1 => fun x1 x2 w => ((wr x2 < 0 → e46 w) ∧ (¬ wr x2 < 0 → ((wr 2000 ≤ wr (w 9 0) → e46 w) ∧ (¬ wr 2000 ≤ wr (w 9 0) → (ix (w 9 0) 2000 ∧ (∀ w1, w1 = wt w 13 (w 9 0) (iby (isr x1 x2)) → (∀ w2, w2 = up w1 9 0 ((w1 9 0) + 1) → (X6_append_l3 Q e46 n) x1 (x2 + (-8)) w2)))))))
theorem t_X6_append_l3 {Z : Zw} {E : Amb} {Q : Wd → Prop} {e46 : Wd → Prop} (C : Cx Z (adA Z) E cX6_append "HandleFaces$Scanner" 3 rm_X6_append) (R : Rt Z E none (qV Z Q)) (he46 : ∀ (w : Wd), e46 w → V Z (adA Z) E 3 w 46 [] []) : ∀ (n : Nat) (x1 : Int) (x2 : Int) (w : Wd), X6_append_l3 Q e46 n x1 x2 w → V Z (adA Z) E 3 w 3 [(0, rv Z 9), (1, iv x1), (2, iv x2)] [] := by
  intro n
  induction n with
  | zero => intro x1 x2 w h; exact h.elim
  | succ n ih =>
    intro x1 x2 w h
    unfold X6_append_l3 at h
    refine v_iload_n C dX6_append_3 2 rfl ?_
    refine v_if_lt C 46 dX6_append_4 (by decide) (fun q => ?_) (fun q => ?_)
    · have h := h.1 q
      refine v_sub [] rfl ?_
      exact he46 _ h
    · have h := h.2 q
      refine v_aload_n C dX6_append_7 0 rfl ?_
      refine g_X6_length C wd_93 dX6_append_8 ?_
      refine v_sipush C dX6_append_11 (by decide) ?_
      refine v_icmp_ge C 46 dX6_append_14 (by decide) (fun q => ?_) (fun q => ?_)
      · have h := h.1 q
        refine v_sub [] rfl ?_
        exact he46 _ h
      · have h := h.2 q
        refine v_aload_n C dX6_append_17 0 rfl ?_
        refine g_X6_bytes C wd_107 dX6_append_18 ?_
        refine v_aload_n C dX6_append_21 0 rfl ?_
        refine g_X6_length C wd_93 dX6_append_22 ?_
        refine v_iload_n C dX6_append_25 1 rfl ?_
        refine v_iload_n C dX6_append_26 2 rfl ?_
        refine v_ishr C dX6_append_27 ?_
        refine v_i2b C dX6_append_28 ?_
        refine v_bast C rfl h.1 (nb_iby _) dX6_append_29 ?_
        have h := h.2
        have h := h _ rfl
        refine v_aload_n C dX6_append_30 0 rfl ?_
        refine v_dup C dX6_append_31 rfl ?_
        refine g_X6_length C wd_93 dX6_append_32 ?_
        refine v_iconst C dX6_append_35 ?_
        refine v_iadd C dX6_append_36 ?_
        refine p_X6_length C wd_93 dX6_append_37 ?_
        have h := h _ rfl
        refine v_iinc C [(2, _), (0, _), (1, _)] dX6_append_40 2 rfl (by decide) rfl ?_
        refine v_goto C 3 dX6_append_43 (by decide) ?_
        refine v_sub [1, 2, 0] rfl ?_
        exact ih _ _ _ h
def X6_append_b46 (Q : Wd → Prop) (w : Wd) : Prop := Q w
theorem t_X6_append_b46 {Z : Zw} {E : Amb} {Q : Wd → Prop} (C : Cx Z (adA Z) E cX6_append "HandleFaces$Scanner" 3 rm_X6_append) (R : Rt Z E none (qV Z Q)) : ∀ (w : Wd), X6_append_b46 Q w → V Z (adA Z) E 3 w 46 [] [] := by
  intro w h
  unfold X6_append_b46 at h
  exact v_ret C R h dX6_append_46
def X6_append (x1 : Int) (w : Wd) (Q : Wd → Prop) : Prop := (∃ m, X6_append_l3 Q (X6_append_b46 Q) m x1 24 w)
theorem m_X6_append {Z : Zw} {l : Launch} {x1 : Int} {w : Wd} {Q : Wd → Prop} (h : X6_append x1 w Q) : CtQ Z l yX6_append cX6_append 3 none rm_X6_append [rv Z 9, iv x1] w (qV Z Q) := by
  refine ct_of (by decide) (Nat.le_of_ble_eq_true rfl) (fun E eE C R => ?_)
  subst eE
  have C : Cx Z (adA Z) E cX6_append "HandleFaces$Scanner" 3 rm_X6_append := C
  unfold X6_append at h
  show V Z (adA Z) E 3 w 0 [(0, rv Z 9), (1, iv x1)] []
  refine v_bipush C dX6_append_0 (by decide) ?_
  refine v_istore_n C [(2, _), (0, _), (1, _)] dX6_append_2 2 rfl (by decide) rfl ?_
  refine v_sub [1, 2, 0] rfl ?_
  obtain ⟨m, h⟩ := h
  exact t_X6_append_l3 C R (t_X6_append_b46 C R) m _ _ _ h
abbrev rm_X6_isBlank : Room := { frames := 0, cells := 0, slots := 0, locals := 0 }
theorem mf_X6_isBlank : MfB yX6_isBlank cX6_isBlank 1 (some .boolean) 1 := ⟨wd_436, wd_3, by decide, by decide, by decide +kernel⟩
def X6_isBlank_b24 (Q : Int → Wd → Prop) (w : Wd) : Prop := Q 1 w
theorem t_X6_isBlank_b24 {Z : Zw} {E : Amb} {Q : Int → Wd → Prop} (C : Cx Z (adA Z) E cX6_isBlank "HandleFaces$Scanner" 1 rm_X6_isBlank) (R : Rt Z E (some .boolean) (qI Z Q)) : ∀ (w : Wd), X6_isBlank_b24 Q w → V Z (adA Z) E 1 w 24 [] [] := by
  intro w h
  unfold X6_isBlank_b24 at h
  refine v_iconst C dX6_isBlank_24 ?_
  refine v_goto C 29 dX6_isBlank_25 (by decide) ?_
  exact v_zret C R (Or.inr rfl) h dX6_isBlank_29
def X6_isBlank (x0 : Int) (w : Wd) (Q : Int → Wd → Prop) : Prop := ((wr x0 = wr 9 → X6_isBlank_b24 Q w) ∧ (¬ wr x0 = wr 9 → ((wr x0 = wr 10 → X6_isBlank_b24 Q w) ∧ (¬ wr x0 = wr 10 → ((wr x0 = wr 13 → X6_isBlank_b24 Q w) ∧ (¬ wr x0 = wr 13 → ((wr x0 = wr 32 → X6_isBlank_b24 Q w) ∧ (¬ wr x0 = wr 32 → Q 0 w))))))))
theorem m_X6_isBlank {Z : Zw} {l : Launch} {x0 : Int} {w : Wd} {Q : Int → Wd → Prop} (h : X6_isBlank x0 w Q) : CtQ Z l yX6_isBlank cX6_isBlank 1 (some .boolean) rm_X6_isBlank [iv x0] w (qI Z Q) := by
  refine ct_of (by decide) (Nat.le_of_ble_eq_true rfl) (fun E eE C R => ?_)
  subst eE
  have C : Cx Z (adA Z) E cX6_isBlank "HandleFaces$Scanner" 1 rm_X6_isBlank := C
  unfold X6_isBlank at h
  show V Z (adA Z) E 1 w 0 [(0, iv x0)] []
  refine v_iload_n C dX6_isBlank_0 0 rfl ?_
  refine v_bipush C dX6_isBlank_1 (by decide) ?_
  refine v_icmp_eq C 24 dX6_isBlank_3 (by decide) (fun q => ?_) (fun q => ?_)
  · have h := h.1 q
    refine v_sub [] rfl ?_
    exact t_X6_isBlank_b24 C R _ h
  · have h := h.2 q
    refine v_iload_n C dX6_isBlank_6 0 rfl ?_
    refine v_bipush C dX6_isBlank_7 (by decide) ?_
    refine v_icmp_eq C 24 dX6_isBlank_9 (by decide) (fun q => ?_) (fun q => ?_)
    · have h := h.1 q
      refine v_sub [] rfl ?_
      exact t_X6_isBlank_b24 C R _ h
    · have h := h.2 q
      refine v_iload_n C dX6_isBlank_12 0 rfl ?_
      refine v_bipush C dX6_isBlank_13 (by decide) ?_
      refine v_icmp_eq C 24 dX6_isBlank_15 (by decide) (fun q => ?_) (fun q => ?_)
      · have h := h.1 q
        refine v_sub [] rfl ?_
        exact t_X6_isBlank_b24 C R _ h
      · have h := h.2 q
        refine v_iload_n C dX6_isBlank_18 0 rfl ?_
        refine v_bipush C dX6_isBlank_19 (by decide) ?_
        refine v_icmp_ne C 28 dX6_isBlank_21 (by decide) (fun q => ?_) (fun q => ?_)
        · have h := h.2 q
          refine v_iconst C dX6_isBlank_28 ?_
          exact v_zret C R (Or.inl rfl) h dX6_isBlank_29
        · have h := h.1 q
          refine v_sub [] rfl ?_
          exact t_X6_isBlank_b24 C R _ h
abbrev rm_X6_isLetter : Room := { frames := 0, cells := 0, slots := 0, locals := 0 }
theorem mf_X6_isLetter : MfB yX6_isLetter cX6_isLetter 1 (some .boolean) 1 := ⟨wd_443, wd_3, by decide, by decide, by decide +kernel⟩
def X6_isLetter_b16 (Q : Int → Wd → Prop) (w : Wd) : Prop := Q 0 w
theorem t_X6_isLetter_b16 {Z : Zw} {E : Amb} {Q : Int → Wd → Prop} (C : Cx Z (adA Z) E cX6_isLetter "HandleFaces$Scanner" 1 rm_X6_isLetter) (R : Rt Z E (some .boolean) (qI Z Q)) : ∀ (w : Wd), X6_isLetter_b16 Q w → V Z (adA Z) E 1 w 16 [] [] := by
  intro w h
  unfold X6_isLetter_b16 at h
  refine v_iconst C dX6_isLetter_16 ?_
  exact v_zret C R (Or.inl rfl) h dX6_isLetter_17
def X6_isLetter (x0 : Int) (w : Wd) (Q : Int → Wd → Prop) : Prop := ((wr x0 < wr 97 → X6_isLetter_b16 Q w) ∧ (¬ wr x0 < wr 97 → ((wr 122 < wr x0 → X6_isLetter_b16 Q w) ∧ (¬ wr 122 < wr x0 → Q 1 w))))
theorem m_X6_isLetter {Z : Zw} {l : Launch} {x0 : Int} {w : Wd} {Q : Int → Wd → Prop} (h : X6_isLetter x0 w Q) : CtQ Z l yX6_isLetter cX6_isLetter 1 (some .boolean) rm_X6_isLetter [iv x0] w (qI Z Q) := by
  refine ct_of (by decide) (Nat.le_of_ble_eq_true rfl) (fun E eE C R => ?_)
  subst eE
  have C : Cx Z (adA Z) E cX6_isLetter "HandleFaces$Scanner" 1 rm_X6_isLetter := C
  unfold X6_isLetter at h
  show V Z (adA Z) E 1 w 0 [(0, iv x0)] []
  refine v_iload_n C dX6_isLetter_0 0 rfl ?_
  refine v_bipush C dX6_isLetter_1 (by decide) ?_
  refine v_icmp_lt C 16 dX6_isLetter_3 (by decide) (fun q => ?_) (fun q => ?_)
  · have h := h.1 q
    refine v_sub [] rfl ?_
    exact t_X6_isLetter_b16 C R _ h
  · have h := h.2 q
    refine v_iload_n C dX6_isLetter_6 0 rfl ?_
    refine v_bipush C dX6_isLetter_7 (by decide) ?_
    refine v_icmp_gt C 16 dX6_isLetter_9 (by decide) (fun q => ?_) (fun q => ?_)
    · have h := h.1 q
      refine v_sub [] rfl ?_
      exact t_X6_isLetter_b16 C R _ h
    · have h := h.2 q
      refine v_iconst C dX6_isLetter_12 ?_
      refine v_goto C 17 dX6_isLetter_13 (by decide) ?_
      exact v_zret C R (Or.inr rfl) h dX6_isLetter_17
abbrev rm_X6_spells : Room := { frames := 4, cells := 0, slots := 0, locals := 200 }
theorem mf_X6_spells : MfB yX6_spells cX6_spells 5 (some .boolean) 3 := ⟨wd_452, wd_3, by decide, by decide, by decide +kernel⟩
def X6_spells_l15 (r1 : Nat) (Q : Int → Wd → Prop) (e42 : Wd → Prop) (e50 : Wd → Prop) : Nat → Int → Int → Wd → Prop
  | 0 => fun _ _ _ => False
  | n + 1 => fun x2 x4 w => ((wr (strL.getD r1 0 : Nat) ≤ wr x4 → e50 w) ∧ (¬ wr (strL.getD r1 0 : Nat) ≤ wr x4 → (ix (x2 + x4) 2000 ∧ (ix x4 (strL.getD r1 0) ∧ ((wr (rd w 13 (x2 + x4)) = wr (strC r1 x4) → (X6_spells_l15 r1 Q e42 e50 n) x2 (x4 + 1) w) ∧ (¬ wr (rd w 13 (x2 + x4)) = wr (strC r1 x4) → e42 w))))))
theorem t_X6_spells_l15 {Z : Zw} {E : Amb} {r1 : Nat} {Q : Int → Wd → Prop} {e42 : Wd → Prop} {e50 : Wd → Prop} (C : Cx Z (adA Z) E cX6_spells "HandleFaces$Scanner" 5 rm_X6_spells) (R : Rt Z E (some .boolean) (qI Z Q)) (h1 : r1 < 4) (he42 : ∀ (w : Wd), e42 w → V Z (adA Z) E 5 w 42 [] []) (he50 : ∀ (w : Wd), e50 w → V Z (adA Z) E 5 w 50 [] []) : ∀ (n : Nat) (x2 : Int) (x4 : Int) (w : Wd), X6_spells_l15 r1 Q e42 e50 n x2 x4 w → V Z (adA Z) E 5 w 15 [(0, rv Z 9), (1, rv Z (91 + r1)), (2, iv x2), (4, iv x4)] [] := by
  intro n
  induction n with
  | zero => intro x2 x4 w h; exact h.elim
  | succ n ih =>
    intro x2 x4 w h
    unfold X6_spells_l15 at h
    refine v_iload C dX6_spells_15 3 rfl ?_
    refine v_aload_n C dX6_spells_17 1 rfl ?_
    refine v_slen C h1 wd_453 (Nat.le_of_ble_eq_true rfl) (Nat.le_of_ble_eq_true rfl) (Nat.le_of_ble_eq_true rfl) dX6_spells_18 ?_
    refine v_icmp_ge C 50 dX6_spells_21 (by decide) (fun q => ?_) (fun q => ?_)
    · have h := h.1 q
      refine v_sub [] rfl ?_
      exact he50 _ h
    · have h := h.2 q
      refine v_aload_n C dX6_spells_24 0 rfl ?_
      refine g_X6_bytes C wd_107 dX6_spells_25 ?_
      refine v_iload_n C dX6_spells_28 2 rfl ?_
      refine v_iload C dX6_spells_29 3 rfl ?_
      refine v_iadd C dX6_spells_31 ?_
      refine v_bald C rfl h.1 dX6_spells_32 ?_
      have h := h.2
      refine v_aload_n C dX6_spells_33 1 rfl ?_
      refine v_iload C dX6_spells_34 3 rfl ?_
      refine v_schar C h1 wd_463 h.1 (Nat.le_of_ble_eq_true rfl) (Nat.le_of_ble_eq_true rfl) (Nat.le_of_ble_eq_true rfl) dX6_spells_36 ?_
      have h := h.2
      refine v_icmp_eq C 44 dX6_spells_39 (by decide) (fun q => ?_) (fun q => ?_)
      · have h := h.1 q
        refine v_iinc C [(4, _), (0, _), (1, _), (2, _)] dX6_spells_44 3 rfl (by decide) rfl ?_
        refine v_goto C 15 dX6_spells_47 (by decide) ?_
        refine v_sub [1, 2, 3, 0] rfl ?_
        exact ih _ _ _ h
      · have h := h.2 q
        refine v_sub [] rfl ?_
        exact he42 _ h
def X6_spells_b42 (r1 : Nat) (Q : Int → Wd → Prop) (w : Wd) : Prop := Q 0 w
theorem t_X6_spells_b42 {Z : Zw} {E : Amb} {r1 : Nat} {Q : Int → Wd → Prop} (C : Cx Z (adA Z) E cX6_spells "HandleFaces$Scanner" 5 rm_X6_spells) (R : Rt Z E (some .boolean) (qI Z Q)) (h1 : r1 < 4) : ∀ (w : Wd), X6_spells_b42 r1 Q w → V Z (adA Z) E 5 w 42 [] [] := by
  intro w h
  unfold X6_spells_b42 at h
  refine v_iconst C dX6_spells_42 ?_
  exact v_zret C R (Or.inl rfl) h dX6_spells_43
def X6_spells_b50 (r1 : Nat) (Q : Int → Wd → Prop) (w : Wd) : Prop := Q 1 w
theorem t_X6_spells_b50 {Z : Zw} {E : Amb} {r1 : Nat} {Q : Int → Wd → Prop} (C : Cx Z (adA Z) E cX6_spells "HandleFaces$Scanner" 5 rm_X6_spells) (R : Rt Z E (some .boolean) (qI Z Q)) (h1 : r1 < 4) : ∀ (w : Wd), X6_spells_b50 r1 Q w → V Z (adA Z) E 5 w 50 [] [] := by
  intro w h
  unfold X6_spells_b50 at h
  refine v_iconst C dX6_spells_50 ?_
  exact v_zret C R (Or.inr rfl) h dX6_spells_51
def X6_spells (r1 : Nat) (x2 : Int) (x3 : Int) (w : Wd) (Q : Int → Wd → Prop) : Prop := ((wr (x3 - x2) = wr (strL.getD r1 0 : Nat) → (∃ m, X6_spells_l15 r1 Q (X6_spells_b42 r1 Q) (X6_spells_b50 r1 Q) m x2 0 w)) ∧ (¬ wr (x3 - x2) = wr (strL.getD r1 0 : Nat) → Q 0 w))
theorem m_X6_spells {Z : Zw} {l : Launch} {r1 : Nat} {x2 : Int} {x3 : Int} {w : Wd} {Q : Int → Wd → Prop} (h1 : r1 < 4) (h : X6_spells r1 x2 x3 w Q) : CtQ Z l yX6_spells cX6_spells 5 (some .boolean) rm_X6_spells [rv Z 9, rv Z (91 + r1), iv x2, iv x3] w (qI Z Q) := by
  refine ct_of (by decide) (Nat.le_of_ble_eq_true rfl) (fun E eE C R => ?_)
  subst eE
  have C : Cx Z (adA Z) E cX6_spells "HandleFaces$Scanner" 5 rm_X6_spells := C
  unfold X6_spells at h
  show V Z (adA Z) E 5 w 0 [(0, rv Z 9), (1, rv Z (91 + r1)), (2, iv x2), (3, iv x3)] []
  refine v_iload_n C dX6_spells_0 3 rfl ?_
  refine v_iload_n C dX6_spells_1 2 rfl ?_
  refine v_isub C dX6_spells_2 ?_
  refine v_aload_n C dX6_spells_3 1 rfl ?_
  refine v_slen C h1 wd_453 (Nat.le_of_ble_eq_true rfl) (Nat.le_of_ble_eq_true rfl) (Nat.le_of_ble_eq_true rfl) dX6_spells_4 ?_
  refine v_icmp_eq C 12 dX6_spells_7 (by decide) (fun q => ?_) (fun q => ?_)
  · have h := h.1 q
    refine v_iconst C dX6_spells_12 ?_
    refine v_istore C [(4, _), (0, _), (1, _), (2, _), (3, _)] dX6_spells_13 (by decide) rfl ?_
    refine v_sub [1, 2, 3, 0] rfl ?_
    obtain ⟨m, h⟩ := h
    exact t_X6_spells_l15 C R h1 (t_X6_spells_b42 C R h1) (t_X6_spells_b50 C R h1) m _ _ _ h
  · have h := h.2 q
    refine v_iconst C dX6_spells_10 ?_
    exact v_zret C R (Or.inl rfl) h dX6_spells_11
abbrev rm_X6_lookAtLetters : Room := { frames := 5, cells := 0, slots := 0, locals := 224 }
theorem mf_X6_lookAtLetters : MfB yX6_lookAtLetters cX6_lookAtLetters 3 none 1 := ⟨wd_447, wd_3, by decide, by decide, by decide +kernel⟩
def X6_lookAtLetters_l2 (Q : Wd → Prop) (e51 : Int → Int → Wd → Prop) : Nat → Int → Int → Wd → Prop
  | 0 => fun _ _ _ => False
  | n + 1 => fun x1 x2 w => ((wr (w 9 0) ≤ wr x2 → e51 x1 x2 w) ∧ (¬ wr (w 9 0) ≤ wr x2 → (ix x2 2000 ∧ X6_isLetter (rd w 13 x2) w (fun y2 w1 => ((wr y2 = 0 → e51 x1 x2 w1) ∧ (¬ wr y2 = 0 → (ix x2 2000 ∧ (∀ w3, w3 = up w1 9 13 (lor (lsl (w1 9 13) 5) (wr (((rd w1 13 x2) - 97) + 1))) → (X6_lookAtLetters_l2 Q e51 n) x1 (x2 + 1) w3))))))))
theorem t_X6_lookAtLetters_l2 {Z : Zw} {E : Amb} {Q : Wd → Prop} {e51 : Int → Int → Wd → Prop} (C : Cx Z (adA Z) E cX6_lookAtLetters "HandleFaces$Scanner" 3 rm_X6_lookAtLetters) (R : Rt Z E none (qV Z Q)) (he51 : ∀ (x1 : Int) (x2 : Int) (w : Wd), e51 x1 x2 w → V Z (adA Z) E 3 w 51 [(0, rv Z 9), (1, iv x1), (2, iv x2)] []) : ∀ (n : Nat) (x1 : Int) (x2 : Int) (w : Wd), X6_lookAtLetters_l2 Q e51 n x1 x2 w → V Z (adA Z) E 3 w 2 [(0, rv Z 9), (1, iv x1), (2, iv x2)] [] := by
  intro n
  induction n with
  | zero => intro x1 x2 w h; exact h.elim
  | succ n ih =>
    intro x1 x2 w h
    unfold X6_lookAtLetters_l2 at h
    refine v_iload_n C dX6_lookAtLetters_2 2 rfl ?_
    refine v_aload_n C dX6_lookAtLetters_3 0 rfl ?_
    refine g_X6_length C wd_93 dX6_lookAtLetters_4 ?_
    refine v_icmp_ge C 51 dX6_lookAtLetters_7 (by decide) (fun q => ?_) (fun q => ?_)
    · have h := h.1 q
      exact he51 _ _ _ h
    · have h := h.2 q
      refine v_aload_n C dX6_lookAtLetters_10 0 rfl ?_
      refine g_X6_bytes C wd_107 dX6_lookAtLetters_11 ?_
      refine v_iload_n C dX6_lookAtLetters_14 2 rfl ?_
      refine v_bald C rfl h.1 dX6_lookAtLetters_15 ?_
      have h := h.2
      refine v_calli C (rn_S C _ (m_X6_isLetter h) mf_X6_isLetter wd_442 wd_441 rfl rfl ⟨(Nat.le_of_ble_eq_true rfl), (Nat.le_of_ble_eq_true rfl)⟩ rfl rfl (Nat.le_of_ble_eq_true rfl) dX6_lookAtLetters_16) (fun r w h => ?_)
      refine v_if_eq C 51 dX6_lookAtLetters_19 (by decide) (fun q => ?_) (fun q => ?_)
      · have h := h.1 q
        exact he51 _ _ _ h
      · have h := h.2 q
        refine v_aload_n C dX6_lookAtLetters_22 0 rfl ?_
        refine v_aload_n C dX6_lookAtLetters_23 0 rfl ?_
        refine g_X6_tokenValue C wd_113 dX6_lookAtLetters_24 ?_
        refine v_iconst C dX6_lookAtLetters_27 ?_
        refine v_lshl C dX6_lookAtLetters_28 ?_
        refine v_aload_n C dX6_lookAtLetters_29 0 rfl ?_
        refine g_X6_bytes C wd_107 dX6_lookAtLetters_30 ?_
        refine v_iload_n C dX6_lookAtLetters_33 2 rfl ?_
        refine v_bald C rfl h.1 dX6_lookAtLetters_34 ?_
        have h := h.2
        refine v_bipush C dX6_lookAtLetters_35 (by decide) ?_
        refine v_isub C dX6_lookAtLetters_37 ?_
        refine v_iconst C dX6_lookAtLetters_38 ?_
        refine v_iadd C dX6_lookAtLetters_39 ?_
        refine v_i2l C dX6_lookAtLetters_40 ?_
        refine v_lor C dX6_lookAtLetters_41 ?_
        refine p_X6_tokenValue C wd_113 dX6_lookAtLetters_42 ?_
        have h := h _ rfl
        refine v_iinc C [(2, _), (0, _), (1, _)] dX6_lookAtLetters_45 2 rfl (by decide) rfl ?_
        refine v_goto C 2 dX6_lookAtLetters_48 (by decide) ?_
        refine v_sub [1, 2, 0] rfl ?_
        exact ih _ _ _ h
def X6_lookAtLetters_b146 (Q : Wd → Prop) (s0 : Int) (w : Wd) : Prop := (∀ w13, w13 = up w 9 11 s0 → Q w13)
theorem t_X6_lookAtLetters_b146 {Z : Zw} {E : Amb} {Q : Wd → Prop} (C : Cx Z (adA Z) E cX6_lookAtLetters "HandleFaces$Scanner" 3 rm_X6_lookAtLetters) (R : Rt Z E none (qV Z Q)) : ∀ (s0 : Int) (w : Wd), X6_lookAtLetters_b146 Q s0 w → V Z (adA Z) E 3 w 146 [] [iv s0, rv Z 9] := by
  intro s0 w h
  unfold X6_lookAtLetters_b146 at h
  refine p_X6_tokenKind C wd_111 dX6_lookAtLetters_146 ?_
  have h := h _ rfl
  exact v_ret C R h dX6_lookAtLetters_149
def X6_lookAtLetters_b51 (Q : Wd → Prop) (x1 : Int) (x2 : Int) (w : Wd) : Prop := (∀ w4, w4 = up w 9 12 x2 → ((wr (x2 - x1) ≤ wr 8 → X6_spells 0 x1 x2 w4 (fun y6 w5 => ((wr y6 = 0 → X6_spells 1 x1 x2 w5 (fun y8 w7 => ((wr y8 = 0 → X6_spells 2 x1 x2 w7 (fun y10 w9 => ((wr y10 = 0 → X6_spells 3 x1 x2 w9 (fun y12 w11 => ((wr y12 = 0 → X6_lookAtLetters_b146 Q 5 w11) ∧ (¬ wr y12 = 0 → X6_lookAtLetters_b146 Q 4 w11)))) ∧ (¬ wr y10 = 0 → (∀ w14, w14 = up w9 9 11 3 → Q w14))))) ∧ (¬ wr y8 = 0 → (∀ w15, w15 = up w7 9 11 2 → Q w15))))) ∧ (¬ wr y6 = 0 → (∀ w16, w16 = up w5 9 11 1 → Q w16))))) ∧ (¬ wr (x2 - x1) ≤ wr 8 → (∀ w17, w17 = up w4 9 11 0 → Q w17))))
theorem t_X6_lookAtLetters_b51 {Z : Zw} {E : Amb} {Q : Wd → Prop} (C : Cx Z (adA Z) E cX6_lookAtLetters "HandleFaces$Scanner" 3 rm_X6_lookAtLetters) (R : Rt Z E none (qV Z Q)) : ∀ (x1 : Int) (x2 : Int) (w : Wd), X6_lookAtLetters_b51 Q x1 x2 w → V Z (adA Z) E 3 w 51 [(0, rv Z 9), (1, iv x1), (2, iv x2)] [] := by
  intro x1 x2 w h
  unfold X6_lookAtLetters_b51 at h
  refine v_aload_n C dX6_lookAtLetters_51 0 rfl ?_
  refine v_iload_n C dX6_lookAtLetters_52 2 rfl ?_
  refine p_X6_tokenEnd C wd_112 dX6_lookAtLetters_53 ?_
  have h := h _ rfl
  refine v_iload_n C dX6_lookAtLetters_56 2 rfl ?_
  refine v_iload_n C dX6_lookAtLetters_57 1 rfl ?_
  refine v_isub C dX6_lookAtLetters_58 ?_
  refine v_bipush C dX6_lookAtLetters_59 (by decide) ?_
  refine v_icmp_le C 72 dX6_lookAtLetters_61 (by decide) (fun q => ?_) (fun q => ?_)
  · have h := h.1 q
    refine v_aload_n C dX6_lookAtLetters_72 0 rfl ?_
    refine v_str0 C dX6_lookAtLetters_73 ?_
    refine v_iload_n C dX6_lookAtLetters_75 1 rfl ?_
    refine v_iload_n C dX6_lookAtLetters_76 2 rfl ?_
    refine v_calli C (rn_V C _ (m_X6_spells (by decide) h) mf_X6_spells wd_451 wp_2 wd_449 rfl rfl ⟨(Nat.le_of_ble_eq_true rfl), (Nat.le_of_ble_eq_true rfl)⟩ rfl rfl rfl rfl (Nat.le_of_ble_eq_true rfl) dX6_lookAtLetters_77) (fun r w h => ?_)
    refine v_if_eq C 91 dX6_lookAtLetters_80 (by decide) (fun q => ?_) (fun q => ?_)
    · have h := h.1 q
      refine v_aload_n C dX6_lookAtLetters_91 0 rfl ?_
      refine v_str1 C dX6_lookAtLetters_92 ?_
      refine v_iload_n C dX6_lookAtLetters_94 1 rfl ?_
      refine v_iload_n C dX6_lookAtLetters_95 2 rfl ?_
      refine v_calli C (rn_V C _ (m_X6_spells (by decide) h) mf_X6_spells wd_451 wp_2 wd_449 rfl rfl ⟨(Nat.le_of_ble_eq_true rfl), (Nat.le_of_ble_eq_true rfl)⟩ rfl rfl rfl rfl (Nat.le_of_ble_eq_true rfl) dX6_lookAtLetters_96) (fun r w h => ?_)
      refine v_if_eq C 110 dX6_lookAtLetters_99 (by decide) (fun q => ?_) (fun q => ?_)
      · have h := h.1 q
        refine v_aload_n C dX6_lookAtLetters_110 0 rfl ?_
        refine v_str2 C dX6_lookAtLetters_111 ?_
        refine v_iload_n C dX6_lookAtLetters_113 1 rfl ?_
        refine v_iload_n C dX6_lookAtLetters_114 2 rfl ?_
        refine v_calli C (rn_V C _ (m_X6_spells (by decide) h) mf_X6_spells wd_451 wp_2 wd_449 rfl rfl ⟨(Nat.le_of_ble_eq_true rfl), (Nat.le_of_ble_eq_true rfl)⟩ rfl rfl rfl rfl (Nat.le_of_ble_eq_true rfl) dX6_lookAtLetters_115) (fun r w h => ?_)
        refine v_if_eq C 129 dX6_lookAtLetters_118 (by decide) (fun q => ?_) (fun q => ?_)
        · have h := h.1 q
          refine v_aload_n C dX6_lookAtLetters_129 0 rfl ?_
          refine v_aload_n C dX6_lookAtLetters_130 0 rfl ?_
          refine v_str3 C dX6_lookAtLetters_131 ?_
          refine v_iload_n C dX6_lookAtLetters_133 1 rfl ?_
          refine v_iload_n C dX6_lookAtLetters_134 2 rfl ?_
          refine v_calli C (rn_V C _ (m_X6_spells (by decide) h) mf_X6_spells wd_451 wp_2 wd_449 rfl rfl ⟨(Nat.le_of_ble_eq_true rfl), (Nat.le_of_ble_eq_true rfl)⟩ rfl rfl rfl rfl (Nat.le_of_ble_eq_true rfl) dX6_lookAtLetters_135) (fun r w h => ?_)
          refine v_if_eq C 145 dX6_lookAtLetters_138 (by decide) (fun q => ?_) (fun q => ?_)
          · have h := h.1 q
            refine v_iconst C dX6_lookAtLetters_145 ?_
            refine v_sub [] rfl ?_
            exact t_X6_lookAtLetters_b146 C R _ _ h
          · have h := h.2 q
            refine v_iconst C dX6_lookAtLetters_141 ?_
            refine v_goto C 146 dX6_lookAtLetters_142 (by decide) ?_
            refine v_sub [] rfl ?_
            exact t_X6_lookAtLetters_b146 C R _ _ h
        · have h := h.2 q
          refine v_aload_n C dX6_lookAtLetters_121 0 rfl ?_
          refine v_iconst C dX6_lookAtLetters_122 ?_
          refine p_X6_tokenKind C wd_111 dX6_lookAtLetters_123 ?_
          have h := h _ rfl
          refine v_goto C 149 dX6_lookAtLetters_126 (by decide) ?_
          exact v_ret C R h dX6_lookAtLetters_149
      · have h := h.2 q
        refine v_aload_n C dX6_lookAtLetters_102 0 rfl ?_
        refine v_iconst C dX6_lookAtLetters_103 ?_
        refine p_X6_tokenKind C wd_111 dX6_lookAtLetters_104 ?_
        have h := h _ rfl
        refine v_goto C 149 dX6_lookAtLetters_107 (by decide) ?_
        exact v_ret C R h dX6_lookAtLetters_149
    · have h := h.2 q
      refine v_aload_n C dX6_lookAtLetters_83 0 rfl ?_
      refine v_iconst C dX6_lookAtLetters_84 ?_
      refine p_X6_tokenKind C wd_111 dX6_lookAtLetters_85 ?_
      have h := h _ rfl
      refine v_goto C 149 dX6_lookAtLetters_88 (by decide) ?_
      exact v_ret C R h dX6_lookAtLetters_149
  · have h := h.2 q
    refine v_aload_n C dX6_lookAtLetters_64 0 rfl ?_
    refine v_iconst C dX6_lookAtLetters_65 ?_
    refine p_X6_tokenKind C wd_111 dX6_lookAtLetters_66 ?_
    have h := h _ rfl
    refine v_goto C 149 dX6_lookAtLetters_69 (by decide) ?_
    exact v_ret C R h dX6_lookAtLetters_149
def X6_lookAtLetters (x1 : Int) (w : Wd) (Q : Wd → Prop) : Prop := (∃ m, X6_lookAtLetters_l2 Q (X6_lookAtLetters_b51 Q) m x1 x1 w)
theorem m_X6_lookAtLetters {Z : Zw} {l : Launch} {x1 : Int} {w : Wd} {Q : Wd → Prop} (h : X6_lookAtLetters x1 w Q) : CtQ Z l yX6_lookAtLetters cX6_lookAtLetters 3 none rm_X6_lookAtLetters [rv Z 9, iv x1] w (qV Z Q) := by
  refine ct_of (by decide) (Nat.le_of_ble_eq_true rfl) (fun E eE C R => ?_)
  subst eE
  have C : Cx Z (adA Z) E cX6_lookAtLetters "HandleFaces$Scanner" 3 rm_X6_lookAtLetters := C
  unfold X6_lookAtLetters at h
  show V Z (adA Z) E 3 w 0 [(0, rv Z 9), (1, iv x1)] []
  refine v_iload_n C dX6_lookAtLetters_0 1 rfl ?_
  refine v_istore_n C [(2, _), (0, _), (1, _)] dX6_lookAtLetters_1 2 rfl (by decide) rfl ?_
  refine v_sub [1, 2, 0] rfl ?_
  obtain ⟨m, h⟩ := h
  exact t_X6_lookAtLetters_l2 C R (t_X6_lookAtLetters_b51 C R) m _ _ _ h
abbrev rm_X6_isDigit : Room := { frames := 0, cells := 0, slots := 0, locals := 0 }
theorem mf_X6_isDigit : MfB yX6_isDigit cX6_isDigit 1 (some .boolean) 1 := ⟨wd_506, wd_3, by decide, by decide, by decide +kernel⟩
def X6_isDigit_b16 (Q : Int → Wd → Prop) (w : Wd) : Prop := Q 0 w
theorem t_X6_isDigit_b16 {Z : Zw} {E : Amb} {Q : Int → Wd → Prop} (C : Cx Z (adA Z) E cX6_isDigit "HandleFaces$Scanner" 1 rm_X6_isDigit) (R : Rt Z E (some .boolean) (qI Z Q)) : ∀ (w : Wd), X6_isDigit_b16 Q w → V Z (adA Z) E 1 w 16 [] [] := by
  intro w h
  unfold X6_isDigit_b16 at h
  refine v_iconst C dX6_isDigit_16 ?_
  exact v_zret C R (Or.inl rfl) h dX6_isDigit_17
def X6_isDigit (x0 : Int) (w : Wd) (Q : Int → Wd → Prop) : Prop := ((wr x0 < wr 48 → X6_isDigit_b16 Q w) ∧ (¬ wr x0 < wr 48 → ((wr 57 < wr x0 → X6_isDigit_b16 Q w) ∧ (¬ wr 57 < wr x0 → Q 1 w))))
theorem m_X6_isDigit {Z : Zw} {l : Launch} {x0 : Int} {w : Wd} {Q : Int → Wd → Prop} (h : X6_isDigit x0 w Q) : CtQ Z l yX6_isDigit cX6_isDigit 1 (some .boolean) rm_X6_isDigit [iv x0] w (qI Z Q) := by
  refine ct_of (by decide) (Nat.le_of_ble_eq_true rfl) (fun E eE C R => ?_)
  subst eE
  have C : Cx Z (adA Z) E cX6_isDigit "HandleFaces$Scanner" 1 rm_X6_isDigit := C
  unfold X6_isDigit at h
  show V Z (adA Z) E 1 w 0 [(0, iv x0)] []
  refine v_iload_n C dX6_isDigit_0 0 rfl ?_
  refine v_bipush C dX6_isDigit_1 (by decide) ?_
  refine v_icmp_lt C 16 dX6_isDigit_3 (by decide) (fun q => ?_) (fun q => ?_)
  · have h := h.1 q
    refine v_sub [] rfl ?_
    exact t_X6_isDigit_b16 C R _ h
  · have h := h.2 q
    refine v_iload_n C dX6_isDigit_6 0 rfl ?_
    refine v_bipush C dX6_isDigit_7 (by decide) ?_
    refine v_icmp_gt C 16 dX6_isDigit_9 (by decide) (fun q => ?_) (fun q => ?_)
    · have h := h.1 q
      refine v_sub [] rfl ?_
      exact t_X6_isDigit_b16 C R _ h
    · have h := h.2 q
      refine v_iconst C dX6_isDigit_12 ?_
      refine v_goto C 17 dX6_isDigit_13 (by decide) ?_
      exact v_zret C R (Or.inr rfl) h dX6_isDigit_17
abbrev rm_X6_lookAtDigits : Room := { frames := 1, cells := 0, slots := 0, locals := 20 }
theorem mf_X6_lookAtDigits : MfB yX6_lookAtDigits cX6_lookAtDigits 3 none 1 := ⟨wd_510, wd_3, by decide, by decide, by decide +kernel⟩
def X6_lookAtDigits_l2 (Q : Wd → Prop) (e52 : Int → Int → Wd → Prop) : Nat → Int → Int → Wd → Prop
  | 0 => fun _ _ _ => False
  | n + 1 => fun x1 x2 w => ((wr (w 9 0) ≤ wr x2 → e52 x1 x2 w) ∧ (¬ wr (w 9 0) ≤ wr x2 → (ix x2 2000 ∧ X6_isDigit (rd w 13 x2) w (fun y2 w1 => ((wr y2 = 0 → e52 x1 x2 w1) ∧ (¬ wr y2 = 0 → (ix x2 2000 ∧ (∀ w3, w3 = up w1 9 13 ((((w1 9 13) * 10) + (wr (rd w1 13 x2))) - 48) → (X6_lookAtDigits_l2 Q e52 n) x1 (x2 + 1) w3))))))))
theorem t_X6_lookAtDigits_l2 {Z : Zw} {E : Amb} {Q : Wd → Prop} {e52 : Int → Int → Wd → Prop} (C : Cx Z (adA Z) E cX6_lookAtDigits "HandleFaces$Scanner" 3 rm_X6_lookAtDigits) (R : Rt Z E none (qV Z Q)) (he52 : ∀ (x1 : Int) (x2 : Int) (w : Wd), e52 x1 x2 w → V Z (adA Z) E 3 w 52 [(0, rv Z 9), (1, iv x1), (2, iv x2)] []) : ∀ (n : Nat) (x1 : Int) (x2 : Int) (w : Wd), X6_lookAtDigits_l2 Q e52 n x1 x2 w → V Z (adA Z) E 3 w 2 [(0, rv Z 9), (1, iv x1), (2, iv x2)] [] := by
  intro n
  induction n with
  | zero => intro x1 x2 w h; exact h.elim
  | succ n ih =>
    intro x1 x2 w h
    unfold X6_lookAtDigits_l2 at h
    refine v_iload_n C dX6_lookAtDigits_2 2 rfl ?_
    refine v_aload_n C dX6_lookAtDigits_3 0 rfl ?_
    refine g_X6_length C wd_93 dX6_lookAtDigits_4 ?_
    refine v_icmp_ge C 52 dX6_lookAtDigits_7 (by decide) (fun q => ?_) (fun q => ?_)
    · have h := h.1 q
      exact he52 _ _ _ h
    · have h := h.2 q
      refine v_aload_n C dX6_lookAtDigits_10 0 rfl ?_
      refine g_X6_bytes C wd_107 dX6_lookAtDigits_11 ?_
      refine v_iload_n C dX6_lookAtDigits_14 2 rfl ?_
      refine v_bald C rfl h.1 dX6_lookAtDigits_15 ?_
      have h := h.2
      refine v_calli C (rn_S C _ (m_X6_isDigit h) mf_X6_isDigit wd_505 wd_504 rfl rfl ⟨(Nat.le_of_ble_eq_true rfl), (Nat.le_of_ble_eq_true rfl)⟩ rfl rfl (Nat.le_of_ble_eq_true rfl) dX6_lookAtDigits_16) (fun r w h => ?_)
      refine v_if_eq C 52 dX6_lookAtDigits_19 (by decide) (fun q => ?_) (fun q => ?_)
      · have h := h.1 q
        exact he52 _ _ _ h
      · have h := h.2 q
        refine v_aload_n C dX6_lookAtDigits_22 0 rfl ?_
        refine v_aload_n C dX6_lookAtDigits_23 0 rfl ?_
        refine g_X6_tokenValue C wd_113 dX6_lookAtDigits_24 ?_
        refine v_ldc2 C 10 wd_511 (by decide) dX6_lookAtDigits_27 ?_
        refine v_lmul C dX6_lookAtDigits_30 ?_
        refine v_aload_n C dX6_lookAtDigits_31 0 rfl ?_
        refine g_X6_bytes C wd_107 dX6_lookAtDigits_32 ?_
        refine v_iload_n C dX6_lookAtDigits_35 2 rfl ?_
        refine v_bald C rfl h.1 dX6_lookAtDigits_36 ?_
        have h := h.2
        refine v_i2l C dX6_lookAtDigits_37 ?_
        refine v_ladd C dX6_lookAtDigits_38 ?_
        refine v_ldc2 C 48 wd_512 (by decide) dX6_lookAtDigits_39 ?_
        refine v_lsub C dX6_lookAtDigits_42 ?_
        refine p_X6_tokenValue C wd_113 dX6_lookAtDigits_43 ?_
        have h := h _ rfl
        refine v_iinc C [(2, _), (0, _), (1, _)] dX6_lookAtDigits_46 2 rfl (by decide) rfl ?_
        refine v_goto C 2 dX6_lookAtDigits_49 (by decide) ?_
        refine v_sub [1, 2, 0] rfl ?_
        exact ih _ _ _ h
def X6_lookAtDigits_b52 (Q : Wd → Prop) (x1 : Int) (x2 : Int) (w : Wd) : Prop := (∀ w4, w4 = up w 9 12 x2 → ((wr (x2 - x1) ≤ wr 4 → (∀ w5, w5 = up w4 9 11 6 → Q w5)) ∧ (¬ wr (x2 - x1) ≤ wr 4 → (∀ w6, w6 = up w4 9 11 0 → Q w6))))
theorem t_X6_lookAtDigits_b52 {Z : Zw} {E : Amb} {Q : Wd → Prop} (C : Cx Z (adA Z) E cX6_lookAtDigits "HandleFaces$Scanner" 3 rm_X6_lookAtDigits) (R : Rt Z E none (qV Z Q)) : ∀ (x1 : Int) (x2 : Int) (w : Wd), X6_lookAtDigits_b52 Q x1 x2 w → V Z (adA Z) E 3 w 52 [(0, rv Z 9), (1, iv x1), (2, iv x2)] [] := by
  intro x1 x2 w h
  unfold X6_lookAtDigits_b52 at h
  refine v_aload_n C dX6_lookAtDigits_52 0 rfl ?_
  refine v_iload_n C dX6_lookAtDigits_53 2 rfl ?_
  refine p_X6_tokenEnd C wd_112 dX6_lookAtDigits_54 ?_
  have h := h _ rfl
  refine v_aload_n C dX6_lookAtDigits_57 0 rfl ?_
  refine v_iload_n C dX6_lookAtDigits_58 2 rfl ?_
  refine v_iload_n C dX6_lookAtDigits_59 1 rfl ?_
  refine v_isub C dX6_lookAtDigits_60 ?_
  refine v_iconst C dX6_lookAtDigits_61 ?_
  refine v_icmp_le C 69 dX6_lookAtDigits_62 (by decide) (fun q => ?_) (fun q => ?_)
  · have h := h.1 q
    refine v_bipush C dX6_lookAtDigits_69 (by decide) ?_
    refine p_X6_tokenKind C wd_111 dX6_lookAtDigits_71 ?_
    have h := h _ rfl
    exact v_ret C R h dX6_lookAtDigits_74
  · have h := h.2 q
    refine v_iconst C dX6_lookAtDigits_65 ?_
    refine v_goto C 71 dX6_lookAtDigits_66 (by decide) ?_
    refine p_X6_tokenKind C wd_111 dX6_lookAtDigits_71 ?_
    have h := h _ rfl
    exact v_ret C R h dX6_lookAtDigits_74
def X6_lookAtDigits (x1 : Int) (w : Wd) (Q : Wd → Prop) : Prop := (∃ m, X6_lookAtDigits_l2 Q (X6_lookAtDigits_b52 Q) m x1 x1 w)
theorem m_X6_lookAtDigits {Z : Zw} {l : Launch} {x1 : Int} {w : Wd} {Q : Wd → Prop} (h : X6_lookAtDigits x1 w Q) : CtQ Z l yX6_lookAtDigits cX6_lookAtDigits 3 none rm_X6_lookAtDigits [rv Z 9, iv x1] w (qV Z Q) := by
  refine ct_of (by decide) (Nat.le_of_ble_eq_true rfl) (fun E eE C R => ?_)
  subst eE
  have C : Cx Z (adA Z) E cX6_lookAtDigits "HandleFaces$Scanner" 3 rm_X6_lookAtDigits := C
  unfold X6_lookAtDigits at h
  show V Z (adA Z) E 3 w 0 [(0, rv Z 9), (1, iv x1)] []
  refine v_iload_n C dX6_lookAtDigits_0 1 rfl ?_
  refine v_istore_n C [(2, _), (0, _), (1, _)] dX6_lookAtDigits_1 2 rfl (by decide) rfl ?_
  refine v_sub [1, 2, 0] rfl ?_
  obtain ⟨m, h⟩ := h
  exact t_X6_lookAtDigits_l2 C R (t_X6_lookAtDigits_b52 C R) m _ _ _ h
abbrev rm_X6_lookAt : Room := { frames := 6, cells := 0, slots := 0, locals := 246 }
theorem mf_X6_lookAt : MfB yX6_lookAt cX6_lookAt 2 none 1 := ⟨wd_440, wd_3, by decide, by decide, by decide +kernel⟩
def X6_lookAt (x1 : Int) (w : Wd) (Q : Wd → Prop) : Prop := (∀ w1, w1 = up w 9 13 0 → (∀ w2, w2 = up w1 9 12 (x1 + 1) → (∀ w3, w3 = up w2 9 11 0 → (ix x1 2000 ∧ X6_isLetter (rd w3 13 x1) w3 (fun y5 w4 => ((wr y5 = 0 → (ix x1 2000 ∧ X6_isDigit (rd w4 13 x1) w4 (fun y7 w6 => ((wr y7 = 0 → (ix x1 2000 ∧ ((wr (rd w6 13 x1) = wr 59 → (∀ w8, w8 = up w6 9 11 7 → Q w8)) ∧ (¬ wr (rd w6 13 x1) = wr 59 → Q w6)))) ∧ (¬ wr y7 = 0 → X6_lookAtDigits x1 w6 (fun w9 => Q w9)))))) ∧ (¬ wr y5 = 0 → X6_lookAtLetters x1 w4 (fun w10 => Q w10))))))))
theorem m_X6_lookAt {Z : Zw} {l : Launch} {x1 : Int} {w : Wd} {Q : Wd → Prop} (h : X6_lookAt x1 w Q) : CtQ Z l yX6_lookAt cX6_lookAt 2 none rm_X6_lookAt [rv Z 9, iv x1] w (qV Z Q) := by
  refine ct_of (by decide) (Nat.le_of_ble_eq_true rfl) (fun E eE C R => ?_)
  subst eE
  have C : Cx Z (adA Z) E cX6_lookAt "HandleFaces$Scanner" 2 rm_X6_lookAt := C
  unfold X6_lookAt at h
  show V Z (adA Z) E 2 w 0 [(0, rv Z 9), (1, iv x1)] []
  refine v_aload_n C dX6_lookAt_0 0 rfl ?_
  refine v_lconst (x := 0) C dX6_lookAt_1 (by decide) ?_
  refine p_X6_tokenValue C wd_113 dX6_lookAt_2 ?_
  have h := h _ rfl
  refine v_aload_n C dX6_lookAt_5 0 rfl ?_
  refine v_iload_n C dX6_lookAt_6 1 rfl ?_
  refine v_iconst C dX6_lookAt_7 ?_
  refine v_iadd C dX6_lookAt_8 ?_
  refine p_X6_tokenEnd C wd_112 dX6_lookAt_9 ?_
  have h := h _ rfl
  refine v_aload_n C dX6_lookAt_12 0 rfl ?_
  refine v_iconst C dX6_lookAt_13 ?_
  refine p_X6_tokenKind C wd_111 dX6_lookAt_14 ?_
  have h := h _ rfl
  refine v_aload_n C dX6_lookAt_17 0 rfl ?_
  refine g_X6_bytes C wd_107 dX6_lookAt_18 ?_
  refine v_iload_n C dX6_lookAt_21 1 rfl ?_
  refine v_bald C rfl h.1 dX6_lookAt_22 ?_
  have h := h.2
  refine v_calli C (rn_S C _ (m_X6_isLetter h) mf_X6_isLetter wd_442 wd_441 rfl rfl ⟨(Nat.le_of_ble_eq_true rfl), (Nat.le_of_ble_eq_true rfl)⟩ rfl rfl (Nat.le_of_ble_eq_true rfl) dX6_lookAt_23) (fun r w h => ?_)
  refine v_if_eq C 37 dX6_lookAt_26 (by decide) (fun q => ?_) (fun q => ?_)
  · have h := h.1 q
    refine v_aload_n C dX6_lookAt_37 0 rfl ?_
    refine g_X6_bytes C wd_107 dX6_lookAt_38 ?_
    refine v_iload_n C dX6_lookAt_41 1 rfl ?_
    refine v_bald C rfl h.1 dX6_lookAt_42 ?_
    have h := h.2
    refine v_calli C (rn_S C _ (m_X6_isDigit h) mf_X6_isDigit wd_505 wd_504 rfl rfl ⟨(Nat.le_of_ble_eq_true rfl), (Nat.le_of_ble_eq_true rfl)⟩ rfl rfl (Nat.le_of_ble_eq_true rfl) dX6_lookAt_43) (fun r w h => ?_)
    refine v_if_eq C 57 dX6_lookAt_46 (by decide) (fun q => ?_) (fun q => ?_)
    · have h := h.1 q
      refine v_aload_n C dX6_lookAt_57 0 rfl ?_
      refine g_X6_bytes C wd_107 dX6_lookAt_58 ?_
      refine v_iload_n C dX6_lookAt_61 1 rfl ?_
      refine v_bald C rfl h.1 dX6_lookAt_62 ?_
      have h := h.2
      refine v_bipush C dX6_lookAt_63 (by decide) ?_
      refine v_icmp_ne C 74 dX6_lookAt_65 (by decide) (fun q => ?_) (fun q => ?_)
      · have h := h.2 q
        exact v_ret C R h dX6_lookAt_74
      · have h := h.1 q
        refine v_aload_n C dX6_lookAt_68 0 rfl ?_
        refine v_bipush C dX6_lookAt_69 (by decide) ?_
        refine p_X6_tokenKind C wd_111 dX6_lookAt_71 ?_
        have h := h _ rfl
        exact v_ret C R h dX6_lookAt_74
    · have h := h.2 q
      refine v_aload_n C dX6_lookAt_49 0 rfl ?_
      refine v_iload_n C dX6_lookAt_50 1 rfl ?_
      refine v_callv C (rn_V C _ (m_X6_lookAtDigits h) mf_X6_lookAtDigits wd_509 wp_3 wd_507 rfl rfl ⟨(Nat.le_of_ble_eq_true rfl), (Nat.le_of_ble_eq_true rfl)⟩ rfl rfl rfl rfl (Nat.le_of_ble_eq_true rfl) dX6_lookAt_51) (fun w h => ?_)
      refine v_goto C 74 dX6_lookAt_54 (by decide) ?_
      exact v_ret C R h dX6_lookAt_74
  · have h := h.2 q
    refine v_aload_n C dX6_lookAt_29 0 rfl ?_
    refine v_iload_n C dX6_lookAt_30 1 rfl ?_
    refine v_callv C (rn_V C _ (m_X6_lookAtLetters h) mf_X6_lookAtLetters wd_446 wp_1 wd_444 rfl rfl ⟨(Nat.le_of_ble_eq_true rfl), (Nat.le_of_ble_eq_true rfl)⟩ rfl rfl rfl rfl (Nat.le_of_ble_eq_true rfl) dX6_lookAt_31) (fun w h => ?_)
    refine v_goto C 74 dX6_lookAt_34 (by decide) ?_
    exact v_ret C R h dX6_lookAt_74
abbrev rm_X6_tellStage : Room := { frames := 0, cells := 0, slots := 0, locals := 0 }
theorem mf_X6_tellStage : MfB yX6_tellStage cX6_tellStage 1 (some .int) 1 := ⟨wd_523, wd_3, by decide, by decide, by decide +kernel⟩
def X6_tellStage (x0 : Int) (w : Wd) (Q : Int → Wd → Prop) : Prop := (∀ t1, t1 = wr x0 → ((t1 = 1 → Q (wr 1) w) ∧ (t1 = 2 → Q (wr 2) w) ∧ (t1 = 3 → Q (wr 5) w) ∧ (t1 < 1 ∨ 3 < t1 → Q (wr (-1)) w)))
theorem m_X6_tellStage {Z : Zw} {l : Launch} {x0 : Int} {w : Wd} {Q : Int → Wd → Prop} (h : X6_tellStage x0 w Q) : CtQ Z l yX6_tellStage cX6_tellStage 1 (some .int) rm_X6_tellStage [iv x0] w (qI Z Q) := by
  refine ct_of (by decide) (Nat.le_of_ble_eq_true rfl) (fun E eE C R => ?_)
  subst eE
  have C : Cx Z (adA Z) E cX6_tellStage "HandleFaces$Scanner" 1 rm_X6_tellStage := C
  unfold X6_tellStage at h
  show V Z (adA Z) E 1 w 0 [(0, iv x0)] []
  refine v_iload_n C dX6_tellStage_0 0 rfl ?_
  refine v_tabX (fun x hx => ?_)
  have h := h x hx.symm
  by_cases q0 : x = 1
  · have h := h.1 q0
    refine v_tabIn C 28 dX6_tellStage_1 1 (hx.trans q0) (by decide) (by decide) rfl (by decide) ?_
    refine v_iconst C dX6_tellStage_28 ?_
    exact v_iret C R h dX6_tellStage_29
  by_cases q1 : x = 2
  · have h := h.2.1 q1
    refine v_tabIn C 30 dX6_tellStage_1 2 (hx.trans q1) (by decide) (by decide) rfl (by decide) ?_
    refine v_iconst C dX6_tellStage_30 ?_
    exact v_iret C R h dX6_tellStage_31
  by_cases q2 : x = 3
  · have h := h.2.2.1 q2
    refine v_tabIn C 32 dX6_tellStage_1 3 (hx.trans q2) (by decide) (by decide) rfl (by decide) ?_
    refine v_iconst C dX6_tellStage_32 ?_
    exact v_iret C R h dX6_tellStage_33
  have q : x < 1 ∨ 3 < x := by omega
  have h := h.2.2.2 q
  refine v_tabOut C 34 dX6_tellStage_1 (by rw [hx]; exact q) (by decide) ?_
  refine v_iconst C dX6_tellStage_34 ?_
  exact v_iret C R h dX6_tellStage_35
abbrev rm_X6_signStage : Room := { frames := 0, cells := 0, slots := 0, locals := 0 }
theorem mf_X6_signStage : MfB yX6_signStage cX6_signStage 1 (some .int) 1 := ⟨wd_526, wd_3, by decide, by decide, by decide +kernel⟩
def X6_signStage (x0 : Int) (w : Wd) (Q : Int → Wd → Prop) : Prop := ((wr x0 = wr 7 → Q (wr 0) w) ∧ (¬ wr x0 = wr 7 → Q (wr (-1)) w))
theorem m_X6_signStage {Z : Zw} {l : Launch} {x0 : Int} {w : Wd} {Q : Int → Wd → Prop} (h : X6_signStage x0 w Q) : CtQ Z l yX6_signStage cX6_signStage 1 (some .int) rm_X6_signStage [iv x0] w (qI Z Q) := by
  refine ct_of (by decide) (Nat.le_of_ble_eq_true rfl) (fun E eE C R => ?_)
  subst eE
  have C : Cx Z (adA Z) E cX6_signStage "HandleFaces$Scanner" 1 rm_X6_signStage := C
  unfold X6_signStage at h
  show V Z (adA Z) E 1 w 0 [(0, iv x0)] []
  refine v_iload_n C dX6_signStage_0 0 rfl ?_
  refine v_bipush C dX6_signStage_1 (by decide) ?_
  refine v_icmp_ne C 10 dX6_signStage_3 (by decide) (fun q => ?_) (fun q => ?_)
  · have h := h.2 q
    refine v_iconst C dX6_signStage_10 ?_
    exact v_iret C R h dX6_signStage_11
  · have h := h.1 q
    refine v_iconst C dX6_signStage_6 ?_
    refine v_goto C 11 dX6_signStage_7 (by decide) ?_
    exact v_iret C R h dX6_signStage_11
abbrev rm_X6_stageBehind : Room := { frames := 1, cells := 0, slots := 0, locals := 20 }
theorem mf_X6_stageBehind : MfB yX6_stageBehind cX6_stageBehind 2 (some .int) 1 := ⟨wd_520, wd_3, by decide, by decide, by decide +kernel⟩
def X6_stageBehind (x1 : Int) (w : Wd) (Q : Int → Wd → Prop) : Prop := (∀ t1, t1 = wr (w 9 8) → ((t1 = 0 → X6_tellStage x1 w (fun y3 w2 => Q (wr y3) w2)) ∧ (t1 = 1 → ((wr x1 = wr 5 → Q (wr 8) w) ∧ (¬ wr x1 = wr 5 → Q (wr (-1)) w))) ∧ (t1 = 2 → ((wr x1 = wr 5 → Q (wr 3) w) ∧ (¬ wr x1 = wr 5 → Q (wr (-1)) w))) ∧ (t1 = 3 → ((wr x1 = wr 5 → Q (wr 4) w) ∧ (¬ wr x1 = wr 5 → Q (wr (-1)) w))) ∧ (t1 = 4 → ((wr x1 = wr 4 → Q (wr 8) w) ∧ (¬ wr x1 = wr 4 → X6_signStage x1 w (fun y5 w4 => Q (wr y5) w4)))) ∧ (t1 = 5 → ((wr x1 = wr 5 → Q (wr 6) w) ∧ (¬ wr x1 = wr 5 → Q (wr (-1)) w))) ∧ (t1 = 6 → ((wr x1 = wr 6 → Q (wr 7) w) ∧ (¬ wr x1 = wr 6 → Q (wr (-1)) w))) ∧ (t1 = 7 → ((wr x1 = wr 6 → Q (wr 7) w) ∧ (¬ wr x1 = wr 6 → X6_signStage x1 w (fun y7 w6 => Q (wr y7) w6)))) ∧ (t1 = 8 → X6_signStage x1 w (fun y9 w8 => Q (wr y9) w8)) ∧ (t1 < 0 ∨ 8 < t1 → Q (wr (-1)) w)))
theorem m_X6_stageBehind {Z : Zw} {l : Launch} {x1 : Int} {w : Wd} {Q : Int → Wd → Prop} (h : X6_stageBehind x1 w Q) : CtQ Z l yX6_stageBehind cX6_stageBehind 2 (some .int) rm_X6_stageBehind [rv Z 9, iv x1] w (qI Z Q) := by
  refine ct_of (by decide) (Nat.le_of_ble_eq_true rfl) (fun E eE C R => ?_)
  subst eE
  have C : Cx Z (adA Z) E cX6_stageBehind "HandleFaces$Scanner" 2 rm_X6_stageBehind := C
  unfold X6_stageBehind at h
  show V Z (adA Z) E 2 w 0 [(0, rv Z 9), (1, iv x1)] []
  refine v_aload_n C dX6_stageBehind_0 0 rfl ?_
  refine g_X6_stage C wd_108 dX6_stageBehind_1 ?_
  refine v_tabX (fun x hx => ?_)
  have h := h x hx.symm
  by_cases q0 : x = 0
  · have h := h.1 q0
    refine v_tabIn C 56 dX6_stageBehind_4 0 (hx.trans q0) (by decide) (by decide) rfl (by decide) ?_
    refine v_iload_n C dX6_stageBehind_56 1 rfl ?_
    refine v_calli C (rn_S C _ (m_X6_tellStage h) mf_X6_tellStage wd_522 wd_521 rfl rfl ⟨(Nat.le_of_ble_eq_true rfl), (Nat.le_of_ble_eq_true rfl)⟩ rfl rfl (Nat.le_of_ble_eq_true rfl) dX6_stageBehind_57) (fun r w h => ?_)
    exact v_iret C R h dX6_stageBehind_60
  by_cases q1 : x = 1
  · have h := h.2.1 q1
    refine v_tabIn C 61 dX6_stageBehind_4 1 (hx.trans q1) (by decide) (by decide) rfl (by decide) ?_
    refine v_iload_n C dX6_stageBehind_61 1 rfl ?_
    refine v_iconst C dX6_stageBehind_62 ?_
    refine v_icmp_ne C 71 dX6_stageBehind_63 (by decide) (fun q => ?_) (fun q => ?_)
    · have h := h.2 q
      refine v_iconst C dX6_stageBehind_71 ?_
      exact v_iret C R h dX6_stageBehind_72
    · have h := h.1 q
      refine v_bipush C dX6_stageBehind_66 (by decide) ?_
      refine v_goto C 72 dX6_stageBehind_68 (by decide) ?_
      exact v_iret C R h dX6_stageBehind_72
  by_cases q2 : x = 2
  · have h := h.2.2.1 q2
    refine v_tabIn C 73 dX6_stageBehind_4 2 (hx.trans q2) (by decide) (by decide) rfl (by decide) ?_
    refine v_iload_n C dX6_stageBehind_73 1 rfl ?_
    refine v_iconst C dX6_stageBehind_74 ?_
    refine v_icmp_ne C 82 dX6_stageBehind_75 (by decide) (fun q => ?_) (fun q => ?_)
    · have h := h.2 q
      refine v_iconst C dX6_stageBehind_82 ?_
      exact v_iret C R h dX6_stageBehind_83
    · have h := h.1 q
      refine v_iconst C dX6_stageBehind_78 ?_
      refine v_goto C 83 dX6_stageBehind_79 (by decide) ?_
      exact v_iret C R h dX6_stageBehind_83
  by_cases q3 : x = 3
  · have h := h.2.2.2.1 q3
    refine v_tabIn C 84 dX6_stageBehind_4 3 (hx.trans q3) (by decide) (by decide) rfl (by decide) ?_
    refine v_iload_n C dX6_stageBehind_84 1 rfl ?_
    refine v_iconst C dX6_stageBehind_85 ?_
    refine v_icmp_ne C 93 dX6_stageBehind_86 (by decide) (fun q => ?_) (fun q => ?_)
    · have h := h.2 q
      refine v_iconst C dX6_stageBehind_93 ?_
      exact v_iret C R h dX6_stageBehind_94
    · have h := h.1 q
      refine v_iconst C dX6_stageBehind_89 ?_
      refine v_goto C 94 dX6_stageBehind_90 (by decide) ?_
      exact v_iret C R h dX6_stageBehind_94
  by_cases q4 : x = 4
  · have h := h.2.2.2.2.1 q4
    refine v_tabIn C 95 dX6_stageBehind_4 4 (hx.trans q4) (by decide) (by decide) rfl (by decide) ?_
    refine v_iload_n C dX6_stageBehind_95 1 rfl ?_
    refine v_iconst C dX6_stageBehind_96 ?_
    refine v_icmp_ne C 105 dX6_stageBehind_97 (by decide) (fun q => ?_) (fun q => ?_)
    · have h := h.2 q
      refine v_iload_n C dX6_stageBehind_105 1 rfl ?_
      refine v_calli C (rn_S C _ (m_X6_signStage h) mf_X6_signStage wd_525 wd_524 rfl rfl ⟨(Nat.le_of_ble_eq_true rfl), (Nat.le_of_ble_eq_true rfl)⟩ rfl rfl (Nat.le_of_ble_eq_true rfl) dX6_stageBehind_106) (fun r w h => ?_)
      exact v_iret C R h dX6_stageBehind_109
    · have h := h.1 q
      refine v_bipush C dX6_stageBehind_100 (by decide) ?_
      refine v_goto C 109 dX6_stageBehind_102 (by decide) ?_
      exact v_iret C R h dX6_stageBehind_109
  by_cases q5 : x = 5
  · have h := h.2.2.2.2.2.1 q5
    refine v_tabIn C 110 dX6_stageBehind_4 5 (hx.trans q5) (by decide) (by decide) rfl (by decide) ?_
    refine v_iload_n C dX6_stageBehind_110 1 rfl ?_
    refine v_iconst C dX6_stageBehind_111 ?_
    refine v_icmp_ne C 120 dX6_stageBehind_112 (by decide) (fun q => ?_) (fun q => ?_)
    · have h := h.2 q
      refine v_iconst C dX6_stageBehind_120 ?_
      exact v_iret C R h dX6_stageBehind_121
    · have h := h.1 q
      refine v_bipush C dX6_stageBehind_115 (by decide) ?_
      refine v_goto C 121 dX6_stageBehind_117 (by decide) ?_
      exact v_iret C R h dX6_stageBehind_121
  by_cases q6 : x = 6
  · have h := h.2.2.2.2.2.2.1 q6
    refine v_tabIn C 122 dX6_stageBehind_4 6 (hx.trans q6) (by decide) (by decide) rfl (by decide) ?_
    refine v_iload_n C dX6_stageBehind_122 1 rfl ?_
    refine v_bipush C dX6_stageBehind_123 (by decide) ?_
    refine v_icmp_ne C 133 dX6_stageBehind_125 (by decide) (fun q => ?_) (fun q => ?_)
    · have h := h.2 q
      refine v_iconst C dX6_stageBehind_133 ?_
      exact v_iret C R h dX6_stageBehind_134
    · have h := h.1 q
      refine v_bipush C dX6_stageBehind_128 (by decide) ?_
      refine v_goto C 134 dX6_stageBehind_130 (by decide) ?_
      exact v_iret C R h dX6_stageBehind_134
  by_cases q7 : x = 7
  · have h := h.2.2.2.2.2.2.2.1 q7
    refine v_tabIn C 135 dX6_stageBehind_4 7 (hx.trans q7) (by decide) (by decide) rfl (by decide) ?_
    refine v_iload_n C dX6_stageBehind_135 1 rfl ?_
    refine v_bipush C dX6_stageBehind_136 (by decide) ?_
    refine v_icmp_ne C 146 dX6_stageBehind_138 (by decide) (fun q => ?_) (fun q => ?_)
    · have h := h.2 q
      refine v_iload_n C dX6_stageBehind_146 1 rfl ?_
      refine v_calli C (rn_S C _ (m_X6_signStage h) mf_X6_signStage wd_525 wd_524 rfl rfl ⟨(Nat.le_of_ble_eq_true rfl), (Nat.le_of_ble_eq_true rfl)⟩ rfl rfl (Nat.le_of_ble_eq_true rfl) dX6_stageBehind_147) (fun r w h => ?_)
      exact v_iret C R h dX6_stageBehind_150
    · have h := h.1 q
      refine v_bipush C dX6_stageBehind_141 (by decide) ?_
      refine v_goto C 150 dX6_stageBehind_143 (by decide) ?_
      exact v_iret C R h dX6_stageBehind_150
  by_cases q8 : x = 8
  · have h := h.2.2.2.2.2.2.2.2.1 q8
    refine v_tabIn C 151 dX6_stageBehind_4 8 (hx.trans q8) (by decide) (by decide) rfl (by decide) ?_
    refine v_iload_n C dX6_stageBehind_151 1 rfl ?_
    refine v_calli C (rn_S C _ (m_X6_signStage h) mf_X6_signStage wd_525 wd_524 rfl rfl ⟨(Nat.le_of_ble_eq_true rfl), (Nat.le_of_ble_eq_true rfl)⟩ rfl rfl (Nat.le_of_ble_eq_true rfl) dX6_stageBehind_152) (fun r w h => ?_)
    exact v_iret C R h dX6_stageBehind_155
  have q : x < 0 ∨ 8 < x := by omega
  have h := h.2.2.2.2.2.2.2.2.2 q
  refine v_tabOut C 156 dX6_stageBehind_4 (by rw [hx]; exact q) (by decide) ?_
  refine v_iconst C dX6_stageBehind_156 ?_
  exact v_iret C R h dX6_stageBehind_157
abbrev rm_X6_fail : Room := { frames := 0, cells := 0, slots := 0, locals := 0 }
theorem mf_X6_fail : MfB yX6_fail cX6_fail 3 none 2 := ⟨wd_530, wd_3, by decide, by decide, by decide +kernel⟩
def X6_fail (x1 : Int) (x2 : Int) (w : Wd) (Q : Wd → Prop) : Prop := (∀ w1, w1 = up w 9 2 x1 → (∀ w2, w2 = up w1 9 3 x2 → Q w2))
theorem m_X6_fail {Z : Zw} {l : Launch} {x1 : Int} {x2 : Int} {w : Wd} {Q : Wd → Prop} (h : X6_fail x1 x2 w Q) : CtQ Z l yX6_fail cX6_fail 3 none rm_X6_fail [rv Z 9, iv x1, iv x2] w (qV Z Q) := by
  refine ct_of (by decide) (Nat.le_of_ble_eq_true rfl) (fun E eE C R => ?_)
  subst eE
  have C : Cx Z (adA Z) E cX6_fail "HandleFaces$Scanner" 3 rm_X6_fail := C
  unfold X6_fail at h
  show V Z (adA Z) E 3 w 0 [(0, rv Z 9), (1, iv x1), (2, iv x2)] []
  refine v_aload_n C dX6_fail_0 0 rfl ?_
  refine v_iload_n C dX6_fail_1 1 rfl ?_
  refine p_X6_fault C wd_97 dX6_fail_2 ?_
  have h := h _ rfl
  refine v_aload_n C dX6_fail_5 0 rfl ?_
  refine v_iload_n C dX6_fail_6 2 rfl ?_
  refine p_X6_faultPlace C wd_99 dX6_fail_7 ?_
  have h := h _ rfl
  exact v_ret C R h dX6_fail_10
abbrev rm_X6_takeToken : Room := { frames := 2, cells := 0, slots := 0, locals := 41 }
theorem mf_X6_takeToken : MfB yX6_takeToken cX6_takeToken 3 none 1 := ⟨wd_516, wd_3, by decide, by decide, by decide +kernel⟩
def X6_takeToken_b65 (Q : Wd → Prop) (x1 : Int) (w : Wd) : Prop := X6_fail 2 x1 w (fun w3 => Q w3)
theorem t_X6_takeToken_b65 {Z : Zw} {E : Amb} {Q : Wd → Prop} (C : Cx Z (adA Z) E cX6_takeToken "HandleFaces$Scanner" 3 rm_X6_takeToken) (R : Rt Z E none (qV Z Q)) : ∀ (x1 : Int) (w : Wd), X6_takeToken_b65 Q x1 w → V Z (adA Z) E 3 w 65 [(0, rv Z 9), (1, iv x1)] [] := by
  intro x1 w h
  unfold X6_takeToken_b65 at h
  refine v_aload_n C dX6_takeToken_65 0 rfl ?_
  refine v_iconst C dX6_takeToken_66 ?_
  refine v_iload_n C dX6_takeToken_67 1 rfl ?_
  refine v_callv C (rn_V C _ (m_X6_fail h) mf_X6_fail wd_529 wp_6 wd_527 rfl rfl ⟨(Nat.le_of_ble_eq_true rfl), (Nat.le_of_ble_eq_true rfl)⟩ rfl rfl rfl rfl (Nat.le_of_ble_eq_true rfl) dX6_takeToken_68) (fun w h => ?_)
  exact v_ret C R h dX6_takeToken_71
def X6_takeToken_b112 (Q : Wd → Prop) (x1 : Int) (x2 : Int) (s0 : Int) (s1 : Int) (w : Wd) : Prop := (∀ w5, w5 = up w 9 10 (s1 + s0) → (ix (w5 9 1) 400 ∧ (∀ w6, w6 = wt w5 10 (w5 9 1) (w5 9 11) → (ix (w6 9 1) 400 ∧ (∀ w7, w7 = wt w6 11 (w6 9 1) x1 → (ix (w7 9 1) 400 ∧ (∀ w8, w8 = wt w7 12 (w7 9 1) (w7 9 13) → (∀ w9, w9 = up w8 9 1 ((w8 9 1) + 1) → (∀ w10, w10 = up w9 9 8 x2 → Q w10)))))))))
theorem t_X6_takeToken_b112 {Z : Zw} {E : Amb} {Q : Wd → Prop} (C : Cx Z (adA Z) E cX6_takeToken "HandleFaces$Scanner" 3 rm_X6_takeToken) (R : Rt Z E none (qV Z Q)) : ∀ (x1 : Int) (x2 : Int) (s0 : Int) (s1 : Int) (w : Wd), X6_takeToken_b112 Q x1 x2 s0 s1 w → V Z (adA Z) E 3 w 112 [(0, rv Z 9), (1, iv x1), (2, iv x2)] [iv s0, iv s1, rv Z 9] := by
  intro x1 x2 s0 s1 w h
  unfold X6_takeToken_b112 at h
  refine v_iadd C dX6_takeToken_112 ?_
  refine p_X6_lines C wd_110 dX6_takeToken_113 ?_
  have h := h _ rfl
  refine v_aload_n C dX6_takeToken_116 0 rfl ?_
  refine g_X6_kinds C wd_101 dX6_takeToken_117 ?_
  refine v_aload_n C dX6_takeToken_120 0 rfl ?_
  refine g_X6_tokens C wd_95 dX6_takeToken_121 ?_
  refine v_aload_n C dX6_takeToken_124 0 rfl ?_
  refine g_X6_tokenKind C wd_111 dX6_takeToken_125 ?_
  refine v_iast C rfl h.1 dX6_takeToken_128 ?_
  have h := h.2
  have h := h _ rfl
  refine v_aload_n C dX6_takeToken_129 0 rfl ?_
  refine g_X6_places C wd_103 dX6_takeToken_130 ?_
  refine v_aload_n C dX6_takeToken_133 0 rfl ?_
  refine g_X6_tokens C wd_95 dX6_takeToken_134 ?_
  refine v_iload_n C dX6_takeToken_137 1 rfl ?_
  refine v_iast C rfl h.1 dX6_takeToken_138 ?_
  have h := h.2
  have h := h _ rfl
  refine v_aload_n C dX6_takeToken_139 0 rfl ?_
  refine g_X6_values C wd_105 dX6_takeToken_140 ?_
  refine v_aload_n C dX6_takeToken_143 0 rfl ?_
  refine g_X6_tokens C wd_95 dX6_takeToken_144 ?_
  refine v_aload_n C dX6_takeToken_147 0 rfl ?_
  refine g_X6_tokenValue C wd_113 dX6_takeToken_148 ?_
  refine v_last C rfl h.1 dX6_takeToken_151 ?_
  have h := h.2
  have h := h _ rfl
  refine v_aload_n C dX6_takeToken_152 0 rfl ?_
  refine v_dup C dX6_takeToken_153 rfl ?_
  refine g_X6_tokens C wd_95 dX6_takeToken_154 ?_
  refine v_iconst C dX6_takeToken_157 ?_
  refine v_iadd C dX6_takeToken_158 ?_
  refine p_X6_tokens C wd_95 dX6_takeToken_159 ?_
  have h := h _ rfl
  refine v_aload_n C dX6_takeToken_162 0 rfl ?_
  refine v_iload_n C dX6_takeToken_163 2 rfl ?_
  refine p_X6_stage C wd_108 dX6_takeToken_164 ?_
  have h := h _ rfl
  exact v_ret C R h dX6_takeToken_167
def X6_takeToken_b90 (Q : Wd → Prop) (x1 : Int) (x2 : Int) (s0 : Int) (s1 : Int) (w : Wd) : Prop := (∀ w4, w4 = up w 9 9 (s1 + s0) → ((wr (w4 9 11) = wr 2 → X6_takeToken_b112 Q x1 x2 1 (w4 9 10) w4) ∧ (¬ wr (w4 9 11) = wr 2 → X6_takeToken_b112 Q x1 x2 0 (w4 9 10) w4)))
theorem t_X6_takeToken_b90 {Z : Zw} {E : Amb} {Q : Wd → Prop} (C : Cx Z (adA Z) E cX6_takeToken "HandleFaces$Scanner" 3 rm_X6_takeToken) (R : Rt Z E none (qV Z Q)) : ∀ (x1 : Int) (x2 : Int) (s0 : Int) (s1 : Int) (w : Wd), X6_takeToken_b90 Q x1 x2 s0 s1 w → V Z (adA Z) E 3 w 90 [(0, rv Z 9), (1, iv x1), (2, iv x2)] [iv s0, iv s1, rv Z 9] := by
  intro x1 x2 s0 s1 w h
  unfold X6_takeToken_b90 at h
  refine v_iadd C dX6_takeToken_90 ?_
  refine p_X6_posts C wd_109 dX6_takeToken_91 ?_
  have h := h _ rfl
  refine v_aload_n C dX6_takeToken_94 0 rfl ?_
  refine v_dup C dX6_takeToken_95 rfl ?_
  refine g_X6_lines C wd_110 dX6_takeToken_96 ?_
  refine v_aload_n C dX6_takeToken_99 0 rfl ?_
  refine g_X6_tokenKind C wd_111 dX6_takeToken_100 ?_
  refine v_iconst C dX6_takeToken_103 ?_
  refine v_icmp_ne C 111 dX6_takeToken_104 (by decide) (fun q => ?_) (fun q => ?_)
  · have h := h.2 q
    refine v_iconst C dX6_takeToken_111 ?_
    exact t_X6_takeToken_b112 C R _ _ _ _ _ h
  · have h := h.1 q
    refine v_iconst C dX6_takeToken_107 ?_
    refine v_goto C 112 dX6_takeToken_108 (by decide) ?_
    exact t_X6_takeToken_b112 C R _ _ _ _ _ h
def X6_takeToken_b72 (Q : Wd → Prop) (x1 : Int) (x2 : Int) (w : Wd) : Prop := ((wr (w 9 11) = wr 1 → X6_takeToken_b90 Q x1 x2 1 (w 9 9) w) ∧ (¬ wr (w 9 11) = wr 1 → X6_takeToken_b90 Q x1 x2 0 (w 9 9) w))
theorem t_X6_takeToken_b72 {Z : Zw} {E : Amb} {Q : Wd → Prop} (C : Cx Z (adA Z) E cX6_takeToken "HandleFaces$Scanner" 3 rm_X6_takeToken) (R : Rt Z E none (qV Z Q)) : ∀ (x1 : Int) (x2 : Int) (w : Wd), X6_takeToken_b72 Q x1 x2 w → V Z (adA Z) E 3 w 72 [(0, rv Z 9), (1, iv x1), (2, iv x2)] [] := by
  intro x1 x2 w h
  unfold X6_takeToken_b72 at h
  refine v_aload_n C dX6_takeToken_72 0 rfl ?_
  refine v_dup C dX6_takeToken_73 rfl ?_
  refine g_X6_posts C wd_109 dX6_takeToken_74 ?_
  refine v_aload_n C dX6_takeToken_77 0 rfl ?_
  refine g_X6_tokenKind C wd_111 dX6_takeToken_78 ?_
  refine v_iconst C dX6_takeToken_81 ?_
  refine v_icmp_ne C 89 dX6_takeToken_82 (by decide) (fun q => ?_) (fun q => ?_)
  · have h := h.2 q
    refine v_iconst C dX6_takeToken_89 ?_
    exact t_X6_takeToken_b90 C R _ _ _ _ _ h
  · have h := h.1 q
    refine v_iconst C dX6_takeToken_85 ?_
    refine v_goto C 90 dX6_takeToken_86 (by decide) ?_
    exact t_X6_takeToken_b90 C R _ _ _ _ _ h
def X6_takeToken_b48 (Q : Wd → Prop) (x1 : Int) (x2 : Int) (w : Wd) : Prop := ((wr (w 9 11) = wr 2 → ((wr (w 9 10) < wr 10 → X6_takeToken_b72 Q x1 x2 w) ∧ (¬ wr (w 9 10) < wr 10 → X6_takeToken_b65 Q x1 w))) ∧ (¬ wr (w 9 11) = wr 2 → X6_takeToken_b72 Q x1 x2 w))
theorem t_X6_takeToken_b48 {Z : Zw} {E : Amb} {Q : Wd → Prop} (C : Cx Z (adA Z) E cX6_takeToken "HandleFaces$Scanner" 3 rm_X6_takeToken) (R : Rt Z E none (qV Z Q)) : ∀ (x1 : Int) (x2 : Int) (w : Wd), X6_takeToken_b48 Q x1 x2 w → V Z (adA Z) E 3 w 48 [(0, rv Z 9), (1, iv x1), (2, iv x2)] [] := by
  intro x1 x2 w h
  unfold X6_takeToken_b48 at h
  refine v_aload_n C dX6_takeToken_48 0 rfl ?_
  refine g_X6_tokenKind C wd_111 dX6_takeToken_49 ?_
  refine v_iconst C dX6_takeToken_52 ?_
  refine v_icmp_ne C 72 dX6_takeToken_53 (by decide) (fun q => ?_) (fun q => ?_)
  · have h := h.2 q
    exact t_X6_takeToken_b72 C R _ _ _ h
  · have h := h.1 q
    refine v_aload_n C dX6_takeToken_56 0 rfl ?_
    refine g_X6_lines C wd_110 dX6_takeToken_57 ?_
    refine v_bipush C dX6_takeToken_60 (by decide) ?_
    refine v_icmp_lt C 72 dX6_takeToken_62 (by decide) (fun q => ?_) (fun q => ?_)
    · have h := h.1 q
      exact t_X6_takeToken_b72 C R _ _ _ h
    · have h := h.2 q
      refine v_sub [0, 1] rfl ?_
      exact t_X6_takeToken_b65 C R _ _ h
def X6_takeToken (x1 : Int) (w : Wd) (Q : Wd → Prop) : Prop := X6_stageBehind (w 9 11) w (fun y2 w1 => ((wr y2 = wr (-1) → X6_fail 1 x1 w1 (fun w11 => Q w11)) ∧ (¬ wr y2 = wr (-1) → ((wr 400 ≤ wr (w1 9 1) → X6_takeToken_b65 Q x1 w1) ∧ (¬ wr 400 ≤ wr (w1 9 1) → ((wr (w1 9 11) = wr 1 → ((wr 6 ≤ wr (w1 9 9) → X6_takeToken_b65 Q x1 w1) ∧ (¬ wr 6 ≤ wr (w1 9 9) → X6_takeToken_b48 Q x1 y2 w1))) ∧ (¬ wr (w1 9 11) = wr 1 → X6_takeToken_b48 Q x1 y2 w1)))))))
theorem m_X6_takeToken {Z : Zw} {l : Launch} {x1 : Int} {w : Wd} {Q : Wd → Prop} (h : X6_takeToken x1 w Q) : CtQ Z l yX6_takeToken cX6_takeToken 3 none rm_X6_takeToken [rv Z 9, iv x1] w (qV Z Q) := by
  refine ct_of (by decide) (Nat.le_of_ble_eq_true rfl) (fun E eE C R => ?_)
  subst eE
  have C : Cx Z (adA Z) E cX6_takeToken "HandleFaces$Scanner" 3 rm_X6_takeToken := C
  unfold X6_takeToken at h
  show V Z (adA Z) E 3 w 0 [(0, rv Z 9), (1, iv x1)] []
  refine v_aload_n C dX6_takeToken_0 0 rfl ?_
  refine v_aload_n C dX6_takeToken_1 0 rfl ?_
  refine g_X6_tokenKind C wd_111 dX6_takeToken_2 ?_
  refine v_calli C (rn_V C _ (m_X6_stageBehind h) mf_X6_stageBehind wd_519 wp_5 wd_517 rfl rfl ⟨(Nat.le_of_ble_eq_true rfl), (Nat.le_of_ble_eq_true rfl)⟩ rfl rfl rfl rfl (Nat.le_of_ble_eq_true rfl) dX6_takeToken_5) (fun r w h => ?_)
  refine v_istore_n C [(2, _), (0, _), (1, _)] dX6_takeToken_8 2 rfl (by decide) rfl ?_
  refine v_iload_n C dX6_takeToken_9 0 rfl ?_
  refine v_iconst C dX6_takeToken_10 ?_
  refine v_icmp_ne C 21 dX6_takeToken_11 (by decide) (fun q => ?_) (fun q => ?_)
  · have h := h.2 q
    refine v_aload_n C dX6_takeToken_21 1 rfl ?_
    refine g_X6_tokens C wd_95 dX6_takeToken_22 ?_
    refine v_sipush C dX6_takeToken_25 (by decide) ?_
    refine v_icmp_ge C 65 dX6_takeToken_28 (by decide) (fun q => ?_) (fun q => ?_)
    · have h := h.1 q
      refine v_sub [1, 2] rfl ?_
      exact t_X6_takeToken_b65 C R _ _ h
    · have h := h.2 q
      refine v_aload_n C dX6_takeToken_31 1 rfl ?_
      refine g_X6_tokenKind C wd_111 dX6_takeToken_32 ?_
      refine v_iconst C dX6_takeToken_35 ?_
      refine v_icmp_ne C 48 dX6_takeToken_36 (by decide) (fun q => ?_) (fun q => ?_)
      · have h := h.2 q
        refine v_sub [1, 2, 0] rfl ?_
        exact t_X6_takeToken_b48 C R _ _ _ h
      · have h := h.1 q
        refine v_aload_n C dX6_takeToken_39 1 rfl ?_
        refine g_X6_posts C wd_109 dX6_takeToken_40 ?_
        refine v_bipush C dX6_takeToken_43 (by decide) ?_
        refine v_icmp_ge C 65 dX6_takeToken_45 (by decide) (fun q => ?_) (fun q => ?_)
        · have h := h.1 q
          refine v_sub [1, 2] rfl ?_
          exact t_X6_takeToken_b65 C R _ _ h
        · have h := h.2 q
          refine v_sub [1, 2, 0] rfl ?_
          exact t_X6_takeToken_b48 C R _ _ _ h
  · have h := h.1 q
    refine v_aload_n C dX6_takeToken_14 1 rfl ?_
    refine v_iconst C dX6_takeToken_15 ?_
    refine v_iload_n C dX6_takeToken_16 2 rfl ?_
    refine v_callv C (rn_V C _ (m_X6_fail h) mf_X6_fail wd_529 wp_6 wd_527 rfl rfl ⟨(Nat.le_of_ble_eq_true rfl), (Nat.le_of_ble_eq_true rfl)⟩ rfl rfl rfl rfl (Nat.le_of_ble_eq_true rfl) dX6_takeToken_17) (fun w h => ?_)
    exact v_ret C R h dX6_takeToken_20
abbrev rm_X6_scan : Room := { frames := 7, cells := 0, slots := 0, locals := 267 }
theorem mf_X6_scan : MfB yX6_scan cX6_scan 3 none 0 := ⟨wd_433, wd_3, by decide, by decide, by decide +kernel⟩
def X6_scan_l34 (Q : Wd → Prop) (e95 : Wd → Prop) : Nat → Int → Int → Wd → Prop
  | 0 => fun _ _ _ => False
  | n + 1 => fun x1 x2 w => ((wr 2000 ≤ wr x2 → e95 w) ∧ (¬ wr 2000 ≤ wr x2 → ((wr (w 9 0) ≤ wr x1 → e95 w) ∧ (¬ wr (w 9 0) ≤ wr x1 → ((wr (w 9 2) = 0 → (ix x1 2000 ∧ X6_isBlank (rd w 13 x1) w (fun y8 w7 => ((wr y8 = 0 → X6_lookAt x1 w7 (fun w9 => X6_takeToken x1 w9 (fun w10 => (∀ y11, y11 = (w10 9 12) → (X6_scan_l34 Q e95 n) y11 (x2 + 1) w10)))) ∧ (¬ wr y8 = 0 → (X6_scan_l34 Q e95 n) (x1 + 1) (x2 + 1) w7))))) ∧ (¬ wr (w 9 2) = 0 → e95 w))))))
theorem t_X6_scan_l34 {Z : Zw} {E : Amb} {Q : Wd → Prop} {e95 : Wd → Prop} (C : Cx Z (adA Z) E cX6_scan "HandleFaces$Scanner" 3 rm_X6_scan) (R : Rt Z E none (qV Z Q)) (he95 : ∀ (w : Wd), e95 w → V Z (adA Z) E 3 w 95 [(0, rv Z 9)] []) : ∀ (n : Nat) (x1 : Int) (x2 : Int) (w : Wd), X6_scan_l34 Q e95 n x1 x2 w → V Z (adA Z) E 3 w 34 [(0, rv Z 9), (1, iv x1), (2, iv x2)] [] := by
  intro n
  induction n with
  | zero => intro x1 x2 w h; exact h.elim
  | succ n ih =>
    intro x1 x2 w h
    unfold X6_scan_l34 at h
    refine v_iload_n C dX6_scan_34 2 rfl ?_
    refine v_sipush C dX6_scan_35 (by decide) ?_
    refine v_icmp_ge C 95 dX6_scan_38 (by decide) (fun q => ?_) (fun q => ?_)
    · have h := h.1 q
      refine v_sub [0] rfl ?_
      exact he95 _ h
    · have h := h.2 q
      refine v_iload_n C dX6_scan_41 1 rfl ?_
      refine v_aload_n C dX6_scan_42 0 rfl ?_
      refine g_X6_length C wd_93 dX6_scan_43 ?_
      refine v_icmp_ge C 95 dX6_scan_46 (by decide) (fun q => ?_) (fun q => ?_)
      · have h := h.1 q
        refine v_sub [0] rfl ?_
        exact he95 _ h
      · have h := h.2 q
        refine v_aload_n C dX6_scan_49 0 rfl ?_
        refine g_X6_fault C wd_97 dX6_scan_50 ?_
        refine v_if_ne C 95 dX6_scan_53 (by decide) (fun q => ?_) (fun q => ?_)
        · have h := h.2 q
          refine v_sub [0] rfl ?_
          exact he95 _ h
        · have h := h.1 q
          refine v_aload_n C dX6_scan_56 0 rfl ?_
          refine g_X6_bytes C wd_107 dX6_scan_57 ?_
          refine v_iload_n C dX6_scan_60 1 rfl ?_
          refine v_bald C rfl h.1 dX6_scan_61 ?_
          have h := h.2
          refine v_calli C (rn_S C _ (m_X6_isBlank h) mf_X6_isBlank wd_435 wd_434 rfl rfl ⟨(Nat.le_of_ble_eq_true rfl), (Nat.le_of_ble_eq_true rfl)⟩ rfl rfl (Nat.le_of_ble_eq_true rfl) dX6_scan_62) (fun r w h => ?_)
          refine v_if_eq C 74 dX6_scan_65 (by decide) (fun q => ?_) (fun q => ?_)
          · have h := h.1 q
            refine v_aload_n C dX6_scan_74 0 rfl ?_
            refine v_iload_n C dX6_scan_75 1 rfl ?_
            refine v_callv C (rn_V C _ (m_X6_lookAt h) mf_X6_lookAt wd_439 wp_0 wd_437 rfl rfl ⟨(Nat.le_of_ble_eq_true rfl), (Nat.le_of_ble_eq_true rfl)⟩ rfl rfl rfl rfl (Nat.le_of_ble_eq_true rfl) dX6_scan_76) (fun w h => ?_)
            refine v_aload_n C dX6_scan_79 0 rfl ?_
            refine v_iload_n C dX6_scan_80 1 rfl ?_
            refine v_callv C (rn_V C _ (m_X6_takeToken h) mf_X6_takeToken wd_515 wp_4 wd_513 rfl rfl ⟨(Nat.le_of_ble_eq_true rfl), (Nat.le_of_ble_eq_true rfl)⟩ rfl rfl rfl rfl (Nat.le_of_ble_eq_true rfl) dX6_scan_81) (fun w h => ?_)
            refine v_aload_n C dX6_scan_84 0 rfl ?_
            refine g_X6_tokenEnd C wd_112 dX6_scan_85 ?_
            refine v_istore_n C [(1, _), (0, _), (2, _)] dX6_scan_88 1 rfl (by decide) rfl ?_
            have h := h _ rfl
            refine v_iinc C [(2, _), (1, _), (0, _)] dX6_scan_89 2 rfl (by decide) rfl ?_
            refine v_goto C 34 dX6_scan_92 (by decide) ?_
            refine v_sub [2, 1, 0] rfl ?_
            exact ih _ _ _ h
          · have h := h.2 q
            refine v_iinc C [(1, _), (0, _), (2, _)] dX6_scan_68 1 rfl (by decide) rfl ?_
            refine v_goto C 89 dX6_scan_71 (by decide) ?_
            refine v_iinc C [(2, _), (1, _), (0, _)] dX6_scan_89 2 rfl (by decide) rfl ?_
            refine v_goto C 34 dX6_scan_92 (by decide) ?_
            refine v_sub [2, 1, 0] rfl ?_
            exact ih _ _ _ h
def X6_scan_b95 (Q : Wd → Prop) (w : Wd) : Prop := ((wr (w 9 2) = 0 → ((wr (w 9 8) = 0 → Q w) ∧ (¬ wr (w 9 8) = 0 → X6_fail 1 (w 9 0) w (fun w12 => Q w12)))) ∧ (¬ wr (w 9 2) = 0 → Q w))
theorem t_X6_scan_b95 {Z : Zw} {E : Amb} {Q : Wd → Prop} (C : Cx Z (adA Z) E cX6_scan "HandleFaces$Scanner" 3 rm_X6_scan) (R : Rt Z E none (qV Z Q)) : ∀ (w : Wd), X6_scan_b95 Q w → V Z (adA Z) E 3 w 95 [(0, rv Z 9)] [] := by
  intro w h
  unfold X6_scan_b95 at h
  refine v_aload_n C dX6_scan_95 0 rfl ?_
  refine g_X6_fault C wd_97 dX6_scan_96 ?_
  refine v_if_ne C 118 dX6_scan_99 (by decide) (fun q => ?_) (fun q => ?_)
  · have h := h.2 q
    exact v_ret C R h dX6_scan_118
  · have h := h.1 q
    refine v_aload_n C dX6_scan_102 0 rfl ?_
    refine g_X6_stage C wd_108 dX6_scan_103 ?_
    refine v_if_eq C 118 dX6_scan_106 (by decide) (fun q => ?_) (fun q => ?_)
    · have h := h.1 q
      exact v_ret C R h dX6_scan_118
    · have h := h.2 q
      refine v_aload_n C dX6_scan_109 0 rfl ?_
      refine v_iconst C dX6_scan_110 ?_
      refine v_aload_n C dX6_scan_111 0 rfl ?_
      refine g_X6_length C wd_93 dX6_scan_112 ?_
      refine v_callv C (rn_V C _ (m_X6_fail h) mf_X6_fail wd_529 wp_6 wd_527 rfl rfl ⟨(Nat.le_of_ble_eq_true rfl), (Nat.le_of_ble_eq_true rfl)⟩ rfl rfl rfl rfl (Nat.le_of_ble_eq_true rfl) dX6_scan_115) (fun w h => ?_)
      exact v_ret C R h dX6_scan_118
def X6_scan (w : Wd) (Q : Wd → Prop) : Prop := (∀ w1, w1 = up w 9 1 0 → (∀ w2, w2 = up w1 9 9 0 → (∀ w3, w3 = up w2 9 10 0 → (∀ w4, w4 = up w3 9 2 0 → (∀ w5, w5 = up w4 9 3 (-1) → (∀ w6, w6 = up w5 9 8 0 → (∃ m, X6_scan_l34 Q (X6_scan_b95 Q) m 0 0 w6)))))))
theorem m_X6_scan {Z : Zw} {l : Launch} {w : Wd} {Q : Wd → Prop} (h : X6_scan w Q) : CtQ Z l yX6_scan cX6_scan 3 none rm_X6_scan [rv Z 9] w (qV Z Q) := by
  refine ct_of (by decide) (Nat.le_of_ble_eq_true rfl) (fun E eE C R => ?_)
  subst eE
  have C : Cx Z (adA Z) E cX6_scan "HandleFaces$Scanner" 3 rm_X6_scan := C
  unfold X6_scan at h
  show V Z (adA Z) E 3 w 0 [(0, rv Z 9)] []
  refine v_aload_n C dX6_scan_0 0 rfl ?_
  refine v_iconst C dX6_scan_1 ?_
  refine p_X6_tokens C wd_95 dX6_scan_2 ?_
  have h := h _ rfl
  refine v_aload_n C dX6_scan_5 0 rfl ?_
  refine v_iconst C dX6_scan_6 ?_
  refine p_X6_posts C wd_109 dX6_scan_7 ?_
  have h := h _ rfl
  refine v_aload_n C dX6_scan_10 0 rfl ?_
  refine v_iconst C dX6_scan_11 ?_
  refine p_X6_lines C wd_110 dX6_scan_12 ?_
  have h := h _ rfl
  refine v_aload_n C dX6_scan_15 0 rfl ?_
  refine v_iconst C dX6_scan_16 ?_
  refine p_X6_fault C wd_97 dX6_scan_17 ?_
  have h := h _ rfl
  refine v_aload_n C dX6_scan_20 0 rfl ?_
  refine v_iconst C dX6_scan_21 ?_
  refine p_X6_faultPlace C wd_99 dX6_scan_22 ?_
  have h := h _ rfl
  refine v_aload_n C dX6_scan_25 0 rfl ?_
  refine v_iconst C dX6_scan_26 ?_
  refine p_X6_stage C wd_108 dX6_scan_27 ?_
  have h := h _ rfl
  refine v_iconst C dX6_scan_30 ?_
  refine v_istore_n C [(1, _), (0, _)] dX6_scan_31 1 rfl (by decide) rfl ?_
  refine v_iconst C dX6_scan_32 ?_
  refine v_istore_n C [(2, _), (1, _), (0, _)] dX6_scan_33 2 rfl (by decide) rfl ?_
  refine v_sub [2, 1, 0] rfl ?_
  obtain ⟨m, h⟩ := h
  exact t_X6_scan_l34 C R (t_X6_scan_b95 C R) m _ _ _ h
