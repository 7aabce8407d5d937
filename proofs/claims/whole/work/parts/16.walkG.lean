abbrev rm_X11_triesOrder : Room := { frames := 2, cells := 0, slots := 0, locals := 54 }
theorem mf_X11_triesOrder : MfB yX11_triesOrder cX11_triesOrder 8 none 1 := ⟨wd_1428, wd_13, by decide, by decide, by decide +kernel⟩
def X11_triesOrder_l2 (Q : Wd → Prop) (e26 : Int → Wd → Prop) : Nat → Int → Int → Wd → Prop
  | 0 => fun _ _ _ => False
  | n + 1 => fun x1 x3 w => ((wr 98 ≤ wr x3 → e26 x1 w) ∧ (¬ wr 98 ≤ wr x3 → (ix x3 98 ∧ (ix x3 98 ∧ (∀ w1, w1 = wt w 83 x3 (rd w 73 x3) → (X11_triesOrder_l2 Q e26 n) x1 (x3 + 1) w1)))))
theorem t_X11_triesOrder_l2 {Z : Zw} {E : Amb} {Q : Wd → Prop} {e26 : Int → Wd → Prop} (C : Cx Z (adA Z) E cX11_triesOrder "HandleFacesModel" 8 rm_X11_triesOrder) (R : Rt Z E none (qV Z Q)) (he26 : ∀ (x1 : Int) (w : Wd), e26 x1 w → V Z (adA Z) E 8 w 26 [(0, rv Z 65), (1, jv x1)] []) : ∀ (n : Nat) (x1 : Int) (x3 : Int) (w : Wd), X11_triesOrder_l2 Q e26 n x1 x3 w → V Z (adA Z) E 8 w 2 [(0, rv Z 65), (1, jv x1), (3, iv x3)] [] := by
  intro n
  induction n with
  | zero => intro x1 x3 w h; exact h.elim
  | succ n ih =>
    intro x1 x3 w h
    unfold X11_triesOrder_l2 at h
    refine v_iload_n C dX11_triesOrder_2 2 rfl ?_
    refine v_bipush C dX11_triesOrder_3 (by decide) ?_
    refine v_icmp_ge C 26 dX11_triesOrder_5 (by decide) (fun q => ?_) (fun q => ?_)
    · have h := h.1 q
      refine v_sub [0, 1] rfl ?_
      exact he26 _ _ h
    · have h := h.2 q
      refine v_aload_n C dX11_triesOrder_8 0 rfl ?_
      refine g_X11_tried C wd_1101 dX11_triesOrder_9 ?_
      refine v_iload_n C dX11_triesOrder_12 2 rfl ?_
      refine v_aload_n C dX11_triesOrder_13 0 rfl ?_
      refine g_X11_now C wd_1087 dX11_triesOrder_14 ?_
      refine v_iload_n C dX11_triesOrder_17 2 rfl ?_
      refine v_iald C rfl h.1 dX11_triesOrder_18 ?_
      have h := h.2
      refine v_iast C rfl h.1 dX11_triesOrder_19 ?_
      have h := h.2
      have h := h _ rfl
      refine v_iinc C [(3, _), (0, _), (1, _)] dX11_triesOrder_20 2 rfl (by decide) rfl ?_
      refine v_goto C 2 dX11_triesOrder_23 (by decide) ?_
      refine v_sub [1, 2, 0] rfl ?_
      exact ih _ _ _ h
def X11_triesOrder_l28 (Q : Wd → Prop) (e54 : Int → Wd → Prop) : Nat → Int → Int → Wd → Prop
  | 0 => fun _ _ _ => False
  | n + 1 => fun x1 x3 w => (ix 1 98 ∧ ((wr (rd w 73 1) ≤ wr x3 → e54 x1 w) ∧ (¬ wr (rd w 73 1) ≤ wr x3 → (ix (22 + x3) 98 ∧ (∀ w2, w2 = wt w 83 (22 + x3) 0 → (X11_triesOrder_l28 Q e54 n) x1 (x3 + 1) w2)))))
theorem t_X11_triesOrder_l28 {Z : Zw} {E : Amb} {Q : Wd → Prop} {e54 : Int → Wd → Prop} (C : Cx Z (adA Z) E cX11_triesOrder "HandleFacesModel" 8 rm_X11_triesOrder) (R : Rt Z E none (qV Z Q)) (he54 : ∀ (x1 : Int) (w : Wd), e54 x1 w → V Z (adA Z) E 8 w 54 [(0, rv Z 65), (1, jv x1)] []) : ∀ (n : Nat) (x1 : Int) (x3 : Int) (w : Wd), X11_triesOrder_l28 Q e54 n x1 x3 w → V Z (adA Z) E 8 w 28 [(0, rv Z 65), (1, jv x1), (3, iv x3)] [] := by
  intro n
  induction n with
  | zero => intro x1 x3 w h; exact h.elim
  | succ n ih =>
    intro x1 x3 w h
    unfold X11_triesOrder_l28 at h
    refine v_iload_n C dX11_triesOrder_28 2 rfl ?_
    refine v_aload_n C dX11_triesOrder_29 0 rfl ?_
    refine g_X11_now C wd_1087 dX11_triesOrder_30 ?_
    refine v_iconst C dX11_triesOrder_33 ?_
    refine v_iald C rfl h.1 dX11_triesOrder_34 ?_
    have h := h.2
    refine v_icmp_ge C 54 dX11_triesOrder_35 (by decide) (fun q => ?_) (fun q => ?_)
    · have h := h.1 q
      refine v_sub [0, 1] rfl ?_
      exact he54 _ _ h
    · have h := h.2 q
      refine v_aload_n C dX11_triesOrder_38 0 rfl ?_
      refine g_X11_tried C wd_1101 dX11_triesOrder_39 ?_
      refine v_bipush C dX11_triesOrder_42 (by decide) ?_
      refine v_iload_n C dX11_triesOrder_44 2 rfl ?_
      refine v_iadd C dX11_triesOrder_45 ?_
      refine v_iconst C dX11_triesOrder_46 ?_
      refine v_iast C rfl h.1 dX11_triesOrder_47 ?_
      have h := h.2
      have h := h _ rfl
      refine v_iinc C [(3, _), (0, _), (1, _)] dX11_triesOrder_48 2 rfl (by decide) rfl ?_
      refine v_goto C 28 dX11_triesOrder_51 (by decide) ?_
      refine v_sub [1, 2, 0] rfl ?_
      exact ih _ _ _ h
def X11_triesOrder_l66 (Q : Wd → Prop) (e107 : Wd → Prop) : Nat → Int → Int → Wd → Prop
  | 0 => fun _ _ _ => False
  | n + 1 => fun x3 x5 w => ((wr x5 < 0 → e107 w) ∧ (¬ wr x5 < 0 → (ix (32 + x5) 98 ∧ X11_orders (rd w 73 (32 + x5)) w (fun y5 w4 => (¬ wl y5 = 0 ∧ X11_ordersPost x5 (lrm x3 y5) w4 (fun w6 => (¬ wl y5 = 0 ∧ (∀ y7, y7 = (ldv x3 y5) → (X11_triesOrder_l66 Q e107 n) y7 (x5 + (-1)) w6))))))))
theorem t_X11_triesOrder_l66 {Z : Zw} {E : Amb} {Q : Wd → Prop} {e107 : Wd → Prop} (C : Cx Z (adA Z) E cX11_triesOrder "HandleFacesModel" 8 rm_X11_triesOrder) (R : Rt Z E none (qV Z Q)) (he107 : ∀ (w : Wd), e107 w → V Z (adA Z) E 8 w 107 [] []) : ∀ (n : Nat) (x3 : Int) (x5 : Int) (w : Wd), X11_triesOrder_l66 Q e107 n x3 x5 w → V Z (adA Z) E 8 w 66 [(0, rv Z 65), (3, jv x3), (5, iv x5)] [] := by
  intro n
  induction n with
  | zero => intro x3 x5 w h; exact h.elim
  | succ n ih =>
    intro x3 x5 w h
    unfold X11_triesOrder_l66 at h
    refine v_iload C dX11_triesOrder_66 2 rfl ?_
    refine v_if_lt C 107 dX11_triesOrder_68 (by decide) (fun q => ?_) (fun q => ?_)
    · have h := h.1 q
      refine v_sub [] rfl ?_
      exact he107 _ h
    · have h := h.2 q
      refine v_aload_n C dX11_triesOrder_71 0 rfl ?_
      refine g_X11_now C wd_1087 dX11_triesOrder_72 ?_
      refine v_bipush C dX11_triesOrder_75 (by decide) ?_
      refine v_iload C dX11_triesOrder_77 2 rfl ?_
      refine v_iadd C dX11_triesOrder_79 ?_
      refine v_iald C rfl h.1 dX11_triesOrder_80 ?_
      have h := h.2
      refine v_calll C (rn_S C _ (m_X11_orders h) mf_X11_orders wd_1418 wd_1417 rfl rfl ⟨(Nat.le_of_ble_eq_true rfl), (Nat.le_of_ble_eq_true rfl)⟩ rfl rfl (Nat.le_of_ble_eq_true rfl) dX11_triesOrder_81) (fun r w h => ?_)
      refine v_lstore C [(6, _), (0, _), (3, _), (5, _)] dX11_triesOrder_84 (by decide) rfl ?_
      refine v_aload_n C dX11_triesOrder_86 1 rfl ?_
      refine v_iload C dX11_triesOrder_87 3 rfl ?_
      refine v_lload_n C dX11_triesOrder_89 2 rfl ?_
      refine v_lload C dX11_triesOrder_90 0 rfl ?_
      refine v_lrem C dX11_triesOrder_92 h.1 ?_
      have h := h.2
      refine v_callv C (rn_V C _ (m_X11_ordersPost h) mf_X11_ordersPost wd_1431 wp_69 wd_1429 rfl rfl ⟨(Nat.le_of_ble_eq_true rfl), (Nat.le_of_ble_eq_true rfl)⟩ rfl rfl rfl rfl (Nat.le_of_ble_eq_true rfl) dX11_triesOrder_93) (fun w h => ?_)
      refine v_lload_n C dX11_triesOrder_96 2 rfl ?_
      refine v_lload C dX11_triesOrder_97 0 rfl ?_
      refine v_ldiv C dX11_triesOrder_99 h.1 ?_
      have h := h.2
      refine v_lstore_n C [(3, _), (6, _), (0, _), (5, _)] dX11_triesOrder_100 3 rfl (by decide) rfl ?_
      have h := h _ rfl
      refine v_iinc C [(5, _), (3, _), (6, _), (0, _)] dX11_triesOrder_101 3 rfl (by decide) rfl ?_
      refine v_goto C 66 dX11_triesOrder_104 (by decide) ?_
      refine v_sub [3, 1, 0] rfl ?_
      exact ih _ _ _ h
def X11_triesOrder_b107 (Q : Wd → Prop) (w : Wd) : Prop := Q w
theorem t_X11_triesOrder_b107 {Z : Zw} {E : Amb} {Q : Wd → Prop} (C : Cx Z (adA Z) E cX11_triesOrder "HandleFacesModel" 8 rm_X11_triesOrder) (R : Rt Z E none (qV Z Q)) : ∀ (w : Wd), X11_triesOrder_b107 Q w → V Z (adA Z) E 8 w 107 [] [] := by
  intro w h
  unfold X11_triesOrder_b107 at h
  exact v_ret C R h dX11_triesOrder_107
def X11_triesOrder_b54 (Q : Wd → Prop) (x1 : Int) (w : Wd) : Prop := (ix 0 98 ∧ (∀ y3, y3 = ((rd w 73 0) - 1) → (∃ m, X11_triesOrder_l66 Q (X11_triesOrder_b107 Q) m x1 y3 w)))
theorem t_X11_triesOrder_b54 {Z : Zw} {E : Amb} {Q : Wd → Prop} (C : Cx Z (adA Z) E cX11_triesOrder "HandleFacesModel" 8 rm_X11_triesOrder) (R : Rt Z E none (qV Z Q)) : ∀ (x1 : Int) (w : Wd), X11_triesOrder_b54 Q x1 w → V Z (adA Z) E 8 w 54 [(0, rv Z 65), (1, jv x1)] [] := by
  intro x1 w h
  unfold X11_triesOrder_b54 at h
  refine v_lload_n C dX11_triesOrder_54 1 rfl ?_
  refine v_lstore_n C [(3, _), (0, _), (1, _)] dX11_triesOrder_55 3 rfl (by decide) rfl ?_
  refine v_aload_n C dX11_triesOrder_56 1 rfl ?_
  refine g_X11_now C wd_1087 dX11_triesOrder_57 ?_
  refine v_iconst C dX11_triesOrder_60 ?_
  refine v_iald C rfl h.1 dX11_triesOrder_61 ?_
  have h := h.2
  refine v_iconst C dX11_triesOrder_62 ?_
  refine v_isub C dX11_triesOrder_63 ?_
  refine v_istore C [(5, _), (3, _), (0, _), (1, _)] dX11_triesOrder_64 (by decide) rfl ?_
  have h := h _ rfl
  refine v_sub [2, 1, 0] rfl ?_
  obtain ⟨m, h⟩ := h
  exact t_X11_triesOrder_l66 C R (t_X11_triesOrder_b107 C R) m _ _ _ h
def X11_triesOrder_b26 (Q : Wd → Prop) (x1 : Int) (w : Wd) : Prop := (∃ m, X11_triesOrder_l28 Q (X11_triesOrder_b54 Q) m x1 0 w)
theorem t_X11_triesOrder_b26 {Z : Zw} {E : Amb} {Q : Wd → Prop} (C : Cx Z (adA Z) E cX11_triesOrder "HandleFacesModel" 8 rm_X11_triesOrder) (R : Rt Z E none (qV Z Q)) : ∀ (x1 : Int) (w : Wd), X11_triesOrder_b26 Q x1 w → V Z (adA Z) E 8 w 26 [(0, rv Z 65), (1, jv x1)] [] := by
  intro x1 w h
  unfold X11_triesOrder_b26 at h
  refine v_iconst C dX11_triesOrder_26 ?_
  refine v_istore_n C [(3, _), (0, _), (1, _)] dX11_triesOrder_27 3 rfl (by decide) rfl ?_
  refine v_sub [1, 2, 0] rfl ?_
  obtain ⟨m, h⟩ := h
  exact t_X11_triesOrder_l28 C R (t_X11_triesOrder_b54 C R) m _ _ _ h
def X11_triesOrder (x1 : Int) (w : Wd) (Q : Wd → Prop) : Prop := (∃ m, X11_triesOrder_l2 Q (X11_triesOrder_b26 Q) m x1 0 w)
theorem m_X11_triesOrder {Z : Zw} {l : Launch} {x1 : Int} {w : Wd} {Q : Wd → Prop} (h : X11_triesOrder x1 w Q) : CtQ Z l yX11_triesOrder cX11_triesOrder 8 none rm_X11_triesOrder [rv Z 65, jv x1] w (qV Z Q) := by
  refine ct_of (by decide) (Nat.le_of_ble_eq_true rfl) (fun E eE C R => ?_)
  subst eE
  have C : Cx Z (adA Z) E cX11_triesOrder "HandleFacesModel" 8 rm_X11_triesOrder := C
  unfold X11_triesOrder at h
  show V Z (adA Z) E 8 w 0 [(0, rv Z 65), (1, jv x1)] []
  refine v_iconst C dX11_triesOrder_0 ?_
  refine v_istore_n C [(3, _), (0, _), (1, _)] dX11_triesOrder_1 3 rfl (by decide) rfl ?_
  refine v_sub [1, 2, 0] rfl ?_
  obtain ⟨m, h⟩ := h
  exact t_X11_triesOrder_l2 C R (t_X11_triesOrder_b26 C R) m _ _ _ h
abbrev rm_X11_triesAll : Room := { frames := 4, cells := 0, slots := 0, locals := 97 }
theorem mf_X11_triesAll : MfB yX11_triesAll cX11_triesAll 6 (some .boolean) 0 := ⟨wd_1423, wd_13, by decide, by decide, by decide +kernel⟩
def X11_triesAll_l17 (Q : Int → Wd → Prop) (e36 : Int → Wd → Prop) : Nat → Int → Int → Wd → Prop
  | 0 => fun _ _ _ => False
  | n + 1 => fun x1 x3 w => ((wr 20 ≤ wr x3 → e36 x1 w) ∧ (¬ wr 20 ≤ wr x3 → (ix x3 20 ∧ (∀ w3, w3 = wt w 84 x3 0 → (X11_triesAll_l17 Q e36 n) x1 (x3 + 1) w3))))
theorem t_X11_triesAll_l17 {Z : Zw} {E : Amb} {Q : Int → Wd → Prop} {e36 : Int → Wd → Prop} (C : Cx Z (adA Z) E cX11_triesAll "HandleFacesModel" 6 rm_X11_triesAll) (R : Rt Z E (some .boolean) (qI Z Q)) (he36 : ∀ (x1 : Int) (w : Wd), e36 x1 w → V Z (adA Z) E 6 w 36 [(0, rv Z 65), (1, jv x1)] []) : ∀ (n : Nat) (x1 : Int) (x3 : Int) (w : Wd), X11_triesAll_l17 Q e36 n x1 x3 w → V Z (adA Z) E 6 w 17 [(0, rv Z 65), (1, jv x1), (3, iv x3)] [] := by
  intro n
  induction n with
  | zero => intro x1 x3 w h; exact h.elim
  | succ n ih =>
    intro x1 x3 w h
    unfold X11_triesAll_l17 at h
    refine v_iload_n C dX11_triesAll_17 2 rfl ?_
    refine v_bipush C dX11_triesAll_18 (by decide) ?_
    refine v_icmp_ge C 36 dX11_triesAll_20 (by decide) (fun q => ?_) (fun q => ?_)
    · have h := h.1 q
      refine v_sub [0, 1] rfl ?_
      exact he36 _ _ h
    · have h := h.2 q
      refine v_aload_n C dX11_triesAll_23 0 rfl ?_
      refine g_X11_needs C wd_1102 dX11_triesAll_24 ?_
      refine v_iload_n C dX11_triesAll_27 2 rfl ?_
      refine v_iconst C dX11_triesAll_28 ?_
      refine v_iast C rfl h.1 dX11_triesAll_29 ?_
      have h := h.2
      have h := h _ rfl
      refine v_iinc C [(3, _), (0, _), (1, _)] dX11_triesAll_30 2 rfl (by decide) rfl ?_
      refine v_goto C 17 dX11_triesAll_33 (by decide) ?_
      refine v_sub [1, 2, 0] rfl ?_
      exact ih _ _ _ h
def X11_triesAll_b114 (Q : Int → Wd → Prop) (c59 : Int → Int → Int → Wd → Prop) (e144 : Wd → Prop) (x1 : Int) (x3 : Int) (x4 : Int) (x5 : Int) (w : Wd) : Prop := ((wr x5 < wr (w 65 33) → (∀ w13, w13 = up w 65 33 x5 → (∀ w14, w14 = up w13 65 35 x4 → c59 x1 x3 (x4 + 1) w14))) ∧ (¬ wr x5 < wr (w 65 33) → c59 x1 x3 (x4 + 1) w))
theorem t_X11_triesAll_b114 {Z : Zw} {E : Amb} {Q : Int → Wd → Prop} {c59 : Int → Int → Int → Wd → Prop} {e144 : Wd → Prop} (C : Cx Z (adA Z) E cX11_triesAll "HandleFacesModel" 6 rm_X11_triesAll) (R : Rt Z E (some .boolean) (qI Z Q)) (hc59 : ∀ (x1 : Int) (x3 : Int) (x4 : Int) (w : Wd), c59 x1 x3 x4 w → V Z (adA Z) E 6 w 59 [(0, rv Z 65), (1, jv x1), (3, iv x3), (4, iv x4)] []) (he144 : ∀ (w : Wd), e144 w → V Z (adA Z) E 6 w 144 [] []) : ∀ (x1 : Int) (x3 : Int) (x4 : Int) (x5 : Int) (w : Wd), X11_triesAll_b114 Q c59 e144 x1 x3 x4 x5 w → V Z (adA Z) E 6 w 114 [(0, rv Z 65), (1, jv x1), (3, iv x3), (4, iv x4), (5, iv x5)] [] := by
  intro x1 x3 x4 x5 w h
  unfold X11_triesAll_b114 at h
  refine v_iload C dX11_triesAll_114 4 rfl ?_
  refine v_aload_n C dX11_triesAll_116 0 rfl ?_
  refine g_X11_least C wd_1103 dX11_triesAll_117 ?_
  refine v_icmp_lt C 126 dX11_triesAll_120 (by decide) (fun q => ?_) (fun q => ?_)
  · have h := h.1 q
    refine v_aload_n C dX11_triesAll_126 0 rfl ?_
    refine v_iload C dX11_triesAll_127 4 rfl ?_
    refine p_X11_least C wd_1103 dX11_triesAll_129 ?_
    have h := h _ rfl
    refine v_aload_n C dX11_triesAll_132 0 rfl ?_
    refine v_iload C dX11_triesAll_133 3 rfl ?_
    refine p_X11_firstLeast C wd_1105 dX11_triesAll_135 ?_
    have h := h _ rfl
    refine v_iinc C [(4, _), (0, _), (1, _), (3, _), (5, _)] dX11_triesAll_138 3 rfl (by decide) rfl ?_
    refine v_goto C 59 dX11_triesAll_141 (by decide) ?_
    refine v_sub [1, 2, 3, 0] rfl ?_
    exact hc59 _ _ _ _ h
  · have h := h.2 q
    refine v_goto C 138 dX11_triesAll_123 (by decide) ?_
    refine v_iinc C [(4, _), (0, _), (1, _), (3, _), (5, _)] dX11_triesAll_138 3 rfl (by decide) rfl ?_
    refine v_goto C 59 dX11_triesAll_141 (by decide) ?_
    refine v_sub [1, 2, 3, 0] rfl ?_
    exact hc59 _ _ _ _ h
def X11_triesAll_l59 (Q : Int → Wd → Prop) (e144 : Wd → Prop) : Nat → Int → Int → Int → Wd → Prop
  | 0 => fun _ _ _ _ => False
  | n + 1 => fun x1 x3 x4 w => ((0 ≤ wr (lcm (wr x4) x1) → e144 w) ∧ (¬ 0 ≤ wr (lcm (wr x4) x1) → X11_triesOrder (wr x4) w (fun w8 => X11_euler 83 w8 (fun y10 w9 => (∀ y11, y11 = (x3 - (idv y10 2)) → (ix y11 20 ∧ (ix y11 20 ∧ (∀ w12, w12 = wt w9 84 y11 ((rd w9 84 y11) + 1) → ((wr y11 ≤ wr (w12 65 34) → X11_triesAll_b114 Q (X11_triesAll_l59 Q e144 n) e144 x1 x3 x4 y11 w12) ∧ (¬ wr y11 ≤ wr (w12 65 34) → (∀ w15, w15 = up w12 65 34 y11 → X11_triesAll_b114 Q (X11_triesAll_l59 Q e144 n) e144 x1 x3 x4 y11 w15)))))))))))
theorem t_X11_triesAll_l59 {Z : Zw} {E : Amb} {Q : Int → Wd → Prop} {e144 : Wd → Prop} (C : Cx Z (adA Z) E cX11_triesAll "HandleFacesModel" 6 rm_X11_triesAll) (R : Rt Z E (some .boolean) (qI Z Q)) (he144 : ∀ (w : Wd), e144 w → V Z (adA Z) E 6 w 144 [] []) : ∀ (n : Nat) (x1 : Int) (x3 : Int) (x4 : Int) (w : Wd), X11_triesAll_l59 Q e144 n x1 x3 x4 w → V Z (adA Z) E 6 w 59 [(0, rv Z 65), (1, jv x1), (3, iv x3), (4, iv x4)] [] := by
  intro n
  induction n with
  | zero => intro x1 x3 x4 w h; exact h.elim
  | succ n ih =>
    intro x1 x3 x4 w h
    unfold X11_triesAll_l59 at h
    refine v_iload C dX11_triesAll_59 3 rfl ?_
    refine v_i2l C dX11_triesAll_61 ?_
    refine v_lload_n C dX11_triesAll_62 1 rfl ?_
    refine v_lcmp C dX11_triesAll_63 ?_
    refine v_if_ge C 144 dX11_triesAll_64 (by decide) (fun q => ?_) (fun q => ?_)
    · have h := h.1 q
      refine v_sub [] rfl ?_
      exact he144 _ h
    · have h := h.2 q
      refine v_aload_n C dX11_triesAll_67 0 rfl ?_
      refine v_iload C dX11_triesAll_68 3 rfl ?_
      refine v_i2l C dX11_triesAll_70 ?_
      refine v_callv C (rn_V C _ (m_X11_triesOrder h) mf_X11_triesOrder wd_1427 wp_68 wd_1425 rfl rfl ⟨(Nat.le_of_ble_eq_true rfl), (Nat.le_of_ble_eq_true rfl)⟩ rfl rfl rfl rfl (Nat.le_of_ble_eq_true rfl) dX11_triesAll_71) (fun w h => ?_)
      refine v_iload_n C dX11_triesAll_74 2 rfl ?_
      refine v_aload_n C dX11_triesAll_75 0 rfl ?_
      refine v_aload_n C dX11_triesAll_76 0 rfl ?_
      refine g_X11_tried C wd_1101 dX11_triesAll_77 ?_
      refine v_calli C (rn_V C _ (m_X11_euler rfl h) mf_X11_euler wd_1402 wp_64 wd_1400 rfl rfl ⟨(Nat.le_of_ble_eq_true rfl), (Nat.le_of_ble_eq_true rfl)⟩ rfl rfl rfl rfl (Nat.le_of_ble_eq_true rfl) dX11_triesAll_80) (fun r w h => ?_)
      refine v_iconst C dX11_triesAll_83 ?_
      refine v_idiv C dX11_triesAll_84 (by decide) ?_
      refine v_isub C dX11_triesAll_85 ?_
      refine v_istore C [(5, _), (0, _), (1, _), (3, _), (4, _)] dX11_triesAll_86 (by decide) rfl ?_
      have h := h _ rfl
      refine v_aload_n C dX11_triesAll_88 1 rfl ?_
      refine g_X11_needs C wd_1102 dX11_triesAll_89 ?_
      refine v_iload C dX11_triesAll_92 0 rfl ?_
      refine v_dup2 C dX11_triesAll_94 rfl rfl ?_
      refine v_iald C rfl h.1 dX11_triesAll_95 ?_
      have h := h.2
      refine v_iconst C dX11_triesAll_96 ?_
      refine v_iadd C dX11_triesAll_97 ?_
      refine v_iast C rfl h.1 dX11_triesAll_98 ?_
      have h := h.2
      have h := h _ rfl
      refine v_iload C dX11_triesAll_99 0 rfl ?_
      refine v_aload_n C dX11_triesAll_101 1 rfl ?_
      refine g_X11_most C wd_1104 dX11_triesAll_102 ?_
      refine v_icmp_le C 114 dX11_triesAll_105 (by decide) (fun q => ?_) (fun q => ?_)
      · have h := h.1 q
        refine v_sub [1, 2, 3, 4, 0] rfl ?_
        exact t_X11_triesAll_b114 C R ih he144 _ _ _ _ _ h
      · have h := h.2 q
        refine v_aload_n C dX11_triesAll_108 1 rfl ?_
        refine v_iload C dX11_triesAll_109 0 rfl ?_
        refine p_X11_most C wd_1104 dX11_triesAll_111 ?_
        have h := h _ rfl
        refine v_sub [1, 2, 3, 4, 0] rfl ?_
        exact t_X11_triesAll_b114 C R ih he144 _ _ _ _ _ h
def X11_triesAll_b144 (Q : Int → Wd → Prop) (w : Wd) : Prop := Q 1 w
theorem t_X11_triesAll_b144 {Z : Zw} {E : Amb} {Q : Int → Wd → Prop} (C : Cx Z (adA Z) E cX11_triesAll "HandleFacesModel" 6 rm_X11_triesAll) (R : Rt Z E (some .boolean) (qI Z Q)) : ∀ (w : Wd), X11_triesAll_b144 Q w → V Z (adA Z) E 6 w 144 [] [] := by
  intro w h
  unfold X11_triesAll_b144 at h
  refine v_iconst C dX11_triesAll_144 ?_
  exact v_zret C R (Or.inr rfl) h dX11_triesAll_145
def X11_triesAll_b36 (Q : Int → Wd → Prop) (x1 : Int) (w : Wd) : Prop := X11_partsOf 73 w (fun y5 w4 => (∀ w6, w6 = up w4 65 33 100 → (∀ w7, w7 = up w6 65 34 0 → (∃ m, X11_triesAll_l59 Q (X11_triesAll_b144 Q) m x1 y5 0 w7))))
theorem t_X11_triesAll_b36 {Z : Zw} {E : Amb} {Q : Int → Wd → Prop} (C : Cx Z (adA Z) E cX11_triesAll "HandleFacesModel" 6 rm_X11_triesAll) (R : Rt Z E (some .boolean) (qI Z Q)) : ∀ (x1 : Int) (w : Wd), X11_triesAll_b36 Q x1 w → V Z (adA Z) E 6 w 36 [(0, rv Z 65), (1, jv x1)] [] := by
  intro x1 w h
  unfold X11_triesAll_b36 at h
  refine v_aload_n C dX11_triesAll_36 0 rfl ?_
  refine v_aload_n C dX11_triesAll_37 0 rfl ?_
  refine g_X11_now C wd_1087 dX11_triesAll_38 ?_
  refine v_calli C (rn_V C _ (m_X11_partsOf rfl h) mf_X11_partsOf wd_1398 wp_63 wd_1396 rfl rfl ⟨(Nat.le_of_ble_eq_true rfl), (Nat.le_of_ble_eq_true rfl)⟩ rfl rfl rfl rfl (Nat.le_of_ble_eq_true rfl) dX11_triesAll_41) (fun r w h => ?_)
  refine v_istore_n C [(3, _), (0, _), (1, _)] dX11_triesAll_44 3 rfl (by decide) rfl ?_
  refine v_aload_n C dX11_triesAll_45 1 rfl ?_
  refine v_bipush C dX11_triesAll_46 (by decide) ?_
  refine p_X11_least C wd_1103 dX11_triesAll_48 ?_
  have h := h _ rfl
  refine v_aload_n C dX11_triesAll_51 1 rfl ?_
  refine v_iconst C dX11_triesAll_52 ?_
  refine p_X11_most C wd_1104 dX11_triesAll_53 ?_
  have h := h _ rfl
  refine v_iconst C dX11_triesAll_56 ?_
  refine v_istore C [(4, _), (3, _), (0, _), (1, _)] dX11_triesAll_57 (by decide) rfl ?_
  refine v_sub [2, 3, 1, 0] rfl ?_
  obtain ⟨m, h⟩ := h
  exact t_X11_triesAll_l59 C R (t_X11_triesAll_b144 C R) m _ _ _ _ h
def X11_triesAll (w : Wd) (Q : Int → Wd → Prop) : Prop := X11_allRounds w (fun y2 w1 => ((wr (lcm y2 20000) ≤ 0 → (∃ m, X11_triesAll_l17 Q (X11_triesAll_b36 Q) m y2 0 w1)) ∧ (¬ wr (lcm y2 20000) ≤ 0 → Q 0 w1)))
theorem m_X11_triesAll {Z : Zw} {l : Launch} {w : Wd} {Q : Int → Wd → Prop} (h : X11_triesAll w Q) : CtQ Z l yX11_triesAll cX11_triesAll 6 (some .boolean) rm_X11_triesAll [rv Z 65] w (qI Z Q) := by
  refine ct_of (by decide) (Nat.le_of_ble_eq_true rfl) (fun E eE C R => ?_)
  subst eE
  have C : Cx Z (adA Z) E cX11_triesAll "HandleFacesModel" 6 rm_X11_triesAll := C
  unfold X11_triesAll at h
  show V Z (adA Z) E 6 w 0 [(0, rv Z 65)] []
  refine v_aload_n C dX11_triesAll_0 0 rfl ?_
  refine v_calll C (rn_V C _ (m_X11_allRounds h) mf_X11_allRounds wd_1415 wp_66 wd_1413 rfl rfl ⟨(Nat.le_of_ble_eq_true rfl), (Nat.le_of_ble_eq_true rfl)⟩ rfl rfl rfl rfl (Nat.le_of_ble_eq_true rfl) dX11_triesAll_1) (fun r w h => ?_)
  refine v_lstore_n C [(1, _), (0, _)] dX11_triesAll_4 1 rfl (by decide) rfl ?_
  refine v_lload_n C dX11_triesAll_5 0 rfl ?_
  refine v_ldc2 C 20000 wd_1424 (by decide) dX11_triesAll_6 ?_
  refine v_lcmp C dX11_triesAll_9 ?_
  refine v_if_le C 15 dX11_triesAll_10 (by decide) (fun q => ?_) (fun q => ?_)
  · have h := h.1 q
    refine v_iconst C dX11_triesAll_15 ?_
    refine v_istore_n C [(3, _), (1, _), (0, _)] dX11_triesAll_16 3 rfl (by decide) rfl ?_
    refine v_sub [2, 1, 0] rfl ?_
    obtain ⟨m, h⟩ := h
    exact t_X11_triesAll_l17 C R (t_X11_triesAll_b36 C R) m _ _ _ h
  · have h := h.2 q
    refine v_iconst C dX11_triesAll_13 ?_
    exact v_zret C R (Or.inl rfl) h dX11_triesAll_14
abbrev rm_X11_all : Room := { frames := 5, cells := 0, slots := 0, locals := 122 }
theorem mf_X11_all : MfB yX11_all cX11_all 2 (some .long) 1 := ⟨wd_1411, wd_13, by decide, by decide, by decide +kernel⟩
def X11_all (x1 : Int) (w : Wd) (Q : Int → Wd → Prop) : Prop := X11_in x1 0 3 w (fun y2 w1 => ((wr y2 = 0 → Q (wl (-1)) w1) ∧ (¬ wr y2 = 0 → ((wr x1 = 0 → X11_allRounds w1 (fun y6 w5 => Q (wl y6) w5)) ∧ (¬ wr x1 = 0 → X11_triesAll w1 (fun y4 w3 => ((wr y4 = 0 → Q (wl (-2)) w3) ∧ (¬ wr y4 = 0 → ((wr x1 = wr 1 → Q (wl (wr (w3 65 33))) w3) ∧ (¬ wr x1 = wr 1 → ((wr x1 = wr 2 → Q (wl (wr (w3 65 34))) w3) ∧ (¬ wr x1 = wr 2 → Q (wl (wr (w3 65 35))) w3))))))))))))
theorem m_X11_all {Z : Zw} {l : Launch} {x1 : Int} {w : Wd} {Q : Int → Wd → Prop} (h : X11_all x1 w Q) : CtQ Z l yX11_all cX11_all 2 (some .long) rm_X11_all [rv Z 65, iv x1] w (qL Z Q) := by
  refine ct_of (by decide) (Nat.le_of_ble_eq_true rfl) (fun E eE C R => ?_)
  subst eE
  have C : Cx Z (adA Z) E cX11_all "HandleFacesModel" 2 rm_X11_all := C
  unfold X11_all at h
  show V Z (adA Z) E 2 w 0 [(0, rv Z 65), (1, iv x1)] []
  refine v_iload_n C dX11_all_0 1 rfl ?_
  refine v_iconst C dX11_all_1 ?_
  refine v_iconst C dX11_all_2 ?_
  refine v_calli C (rn_S C _ (m_X11_in h) mf_X11_in wd_1298 wd_1297 rfl rfl ⟨(Nat.le_of_ble_eq_true rfl), (Nat.le_of_ble_eq_true rfl)⟩ rfl rfl (Nat.le_of_ble_eq_true rfl) dX11_all_3) (fun r w h => ?_)
  refine v_if_ne C 13 dX11_all_6 (by decide) (fun q => ?_) (fun q => ?_)
  · have h := h.2 q
    refine v_iload_n C dX11_all_13 1 rfl ?_
    refine v_if_ne C 22 dX11_all_14 (by decide) (fun q => ?_) (fun q => ?_)
    · have h := h.2 q
      refine v_aload_n C dX11_all_22 0 rfl ?_
      refine v_calli C (rn_V C _ (m_X11_triesAll h) mf_X11_triesAll wd_1422 wp_67 wd_1420 rfl rfl ⟨(Nat.le_of_ble_eq_true rfl), (Nat.le_of_ble_eq_true rfl)⟩ rfl rfl rfl rfl (Nat.le_of_ble_eq_true rfl) dX11_all_23) (fun r w h => ?_)
      refine v_if_ne C 33 dX11_all_26 (by decide) (fun q => ?_) (fun q => ?_)
      · have h := h.2 q
        refine v_iload_n C dX11_all_33 1 rfl ?_
        refine v_iconst C dX11_all_34 ?_
        refine v_icmp_ne C 46 dX11_all_35 (by decide) (fun q => ?_) (fun q => ?_)
        · have h := h.2 q
          refine v_iload_n C dX11_all_46 1 rfl ?_
          refine v_iconst C dX11_all_47 ?_
          refine v_icmp_ne C 59 dX11_all_48 (by decide) (fun q => ?_) (fun q => ?_)
          · have h := h.2 q
            refine v_aload_n C dX11_all_59 0 rfl ?_
            refine g_X11_firstLeast C wd_1105 dX11_all_60 ?_
            refine v_i2l C dX11_all_63 ?_
            exact v_lret C R h dX11_all_64
          · have h := h.1 q
            refine v_aload_n C dX11_all_51 0 rfl ?_
            refine g_X11_most C wd_1104 dX11_all_52 ?_
            refine v_i2l C dX11_all_55 ?_
            refine v_goto C 64 dX11_all_56 (by decide) ?_
            exact v_lret C R h dX11_all_64
        · have h := h.1 q
          refine v_aload_n C dX11_all_38 0 rfl ?_
          refine g_X11_least C wd_1103 dX11_all_39 ?_
          refine v_i2l C dX11_all_42 ?_
          refine v_goto C 64 dX11_all_43 (by decide) ?_
          exact v_lret C R h dX11_all_64
      · have h := h.1 q
        refine v_ldc2 C (-2) wd_1433 (by decide) dX11_all_29 ?_
        exact v_lret C R h dX11_all_32
    · have h := h.1 q
      refine v_aload_n C dX11_all_17 0 rfl ?_
      refine v_calll C (rn_V C _ (m_X11_allRounds h) mf_X11_allRounds wd_1415 wp_66 wd_1413 rfl rfl ⟨(Nat.le_of_ble_eq_true rfl), (Nat.le_of_ble_eq_true rfl)⟩ rfl rfl rfl rfl (Nat.le_of_ble_eq_true rfl) dX11_all_18) (fun r w h => ?_)
      exact v_lret C R h dX11_all_21
  · have h := h.1 q
    refine v_ldc2 C (-1) wd_1412 (by decide) dX11_all_9 ?_
    exact v_lret C R h dX11_all_12
abbrev rm_X11_needing : Room := { frames := 5, cells := 0, slots := 0, locals := 122 }
theorem mf_X11_needing : MfB yX11_needing cX11_needing 2 (some .int) 1 := ⟨wd_1437, wd_13, by decide, by decide, by decide +kernel⟩
def X11_needing (x1 : Int) (w : Wd) (Q : Int → Wd → Prop) : Prop := X11_triesAll w (fun y2 w1 => ((wr y2 = 0 → Q (wr (-2)) w1) ∧ (¬ wr y2 = 0 → X11_in x1 0 19 w1 (fun y4 w3 => ((wr y4 = 0 → Q (wr 0) w3) ∧ (¬ wr y4 = 0 → (ix x1 20 ∧ Q (wr (rd w3 84 x1)) w3)))))))
theorem m_X11_needing {Z : Zw} {l : Launch} {x1 : Int} {w : Wd} {Q : Int → Wd → Prop} (h : X11_needing x1 w Q) : CtQ Z l yX11_needing cX11_needing 2 (some .int) rm_X11_needing [rv Z 65, iv x1] w (qI Z Q) := by
  refine ct_of (by decide) (Nat.le_of_ble_eq_true rfl) (fun E eE C R => ?_)
  subst eE
  have C : Cx Z (adA Z) E cX11_needing "HandleFacesModel" 2 rm_X11_needing := C
  unfold X11_needing at h
  show V Z (adA Z) E 2 w 0 [(0, rv Z 65), (1, iv x1)] []
  refine v_aload_n C dX11_needing_0 0 rfl ?_
  refine v_calli C (rn_V C _ (m_X11_triesAll h) mf_X11_triesAll wd_1422 wp_67 wd_1420 rfl rfl ⟨(Nat.le_of_ble_eq_true rfl), (Nat.le_of_ble_eq_true rfl)⟩ rfl rfl rfl rfl (Nat.le_of_ble_eq_true rfl) dX11_needing_1) (fun r w h => ?_)
  refine v_if_ne C 10 dX11_needing_4 (by decide) (fun q => ?_) (fun q => ?_)
  · have h := h.2 q
    refine v_iload_n C dX11_needing_10 1 rfl ?_
    refine v_iconst C dX11_needing_11 ?_
    refine v_bipush C dX11_needing_12 (by decide) ?_
    refine v_calli C (rn_S C _ (m_X11_in h) mf_X11_in wd_1298 wd_1297 rfl rfl ⟨(Nat.le_of_ble_eq_true rfl), (Nat.le_of_ble_eq_true rfl)⟩ rfl rfl (Nat.le_of_ble_eq_true rfl) dX11_needing_14) (fun r w h => ?_)
    refine v_if_eq C 29 dX11_needing_17 (by decide) (fun q => ?_) (fun q => ?_)
    · have h := h.1 q
      refine v_iconst C dX11_needing_29 ?_
      exact v_iret C R h dX11_needing_30
    · have h := h.2 q
      refine v_aload_n C dX11_needing_20 0 rfl ?_
      refine g_X11_needs C wd_1102 dX11_needing_21 ?_
      refine v_iload_n C dX11_needing_24 1 rfl ?_
      refine v_iald C rfl h.1 dX11_needing_25 ?_
      have h := h.2
      refine v_goto C 30 dX11_needing_26 (by decide) ?_
      exact v_iret C R h dX11_needing_30
  · have h := h.1 q
    refine v_bipush C dX11_needing_7 (by decide) ?_
    exact v_iret C R h dX11_needing_9
abbrev rm_X11_ordered : Room := { frames := 3, cells := 0, slots := 0, locals := 81 }
theorem mf_X11_ordered : MfB yX11_ordered cX11_ordered 4 (some .int) 3 := ⟨wd_1441, wd_13, by decide, by decide, by decide +kernel⟩
def X11_ordered (x1 : Int) (x2 : Int) (x3 : Int) (w : Wd) (Q : Int → Wd → Prop) : Prop := X11_isPost x2 w (fun y2 w1 => ((wr y2 = 0 → Q (wr (-1)) w1) ∧ (¬ wr y2 = 0 → ((wr x1 < 0 → Q (wr (-1)) w1) ∧ (¬ wr x1 < 0 → X11_allRounds w1 (fun y4 w3 => ((0 ≤ wr (lcm (wr x1) y4) → Q (wr (-1)) w3) ∧ (¬ 0 ≤ wr (lcm (wr x1) y4) → (ix (32 + x2) 98 ∧ X11_in x3 0 ((rd w3 73 (32 + x2)) - 1) w3 (fun y6 w5 => ((wr y6 = 0 → Q (wr (-1)) w5) ∧ (¬ wr y6 = 0 → X11_triesOrder (wr x1) w5 (fun w7 => (ix ((38 + (10 * x2)) + x3) 98 ∧ Q (wr (rd w7 83 ((38 + (10 * x2)) + x3))) w7))))))))))))))
theorem m_X11_ordered {Z : Zw} {l : Launch} {x1 : Int} {x2 : Int} {x3 : Int} {w : Wd} {Q : Int → Wd → Prop} (h : X11_ordered x1 x2 x3 w Q) : CtQ Z l yX11_ordered cX11_ordered 4 (some .int) rm_X11_ordered [rv Z 65, iv x1, iv x2, iv x3] w (qI Z Q) := by
  refine ct_of (by decide) (Nat.le_of_ble_eq_true rfl) (fun E eE C R => ?_)
  subst eE
  have C : Cx Z (adA Z) E cX11_ordered "HandleFacesModel" 4 rm_X11_ordered := C
  unfold X11_ordered at h
  show V Z (adA Z) E 4 w 0 [(0, rv Z 65), (1, iv x1), (2, iv x2), (3, iv x3)] []
  refine v_aload_n C dX11_ordered_0 0 rfl ?_
  refine v_iload_n C dX11_ordered_1 2 rfl ?_
  refine v_calli C (rn_V C _ (m_X11_isPost h) mf_X11_isPost wd_1314 wp_58 wd_1312 rfl rfl ⟨(Nat.le_of_ble_eq_true rfl), (Nat.le_of_ble_eq_true rfl)⟩ rfl rfl rfl rfl (Nat.le_of_ble_eq_true rfl) dX11_ordered_2) (fun r w h => ?_)
  refine v_if_eq C 41 dX11_ordered_5 (by decide) (fun q => ?_) (fun q => ?_)
  · have h := h.1 q
    refine v_iconst C dX11_ordered_41 ?_
    exact v_iret C R h dX11_ordered_42
  · have h := h.2 q
    refine v_iload_n C dX11_ordered_8 1 rfl ?_
    refine v_if_lt C 41 dX11_ordered_9 (by decide) (fun q => ?_) (fun q => ?_)
    · have h := h.1 q
      refine v_iconst C dX11_ordered_41 ?_
      exact v_iret C R h dX11_ordered_42
    · have h := h.2 q
      refine v_iload_n C dX11_ordered_12 1 rfl ?_
      refine v_i2l C dX11_ordered_13 ?_
      refine v_aload_n C dX11_ordered_14 0 rfl ?_
      refine v_calll C (rn_V C _ (m_X11_allRounds h) mf_X11_allRounds wd_1415 wp_66 wd_1413 rfl rfl ⟨(Nat.le_of_ble_eq_true rfl), (Nat.le_of_ble_eq_true rfl)⟩ rfl rfl rfl rfl (Nat.le_of_ble_eq_true rfl) dX11_ordered_15) (fun r w h => ?_)
      refine v_lcmp C dX11_ordered_18 ?_
      refine v_if_ge C 41 dX11_ordered_19 (by decide) (fun q => ?_) (fun q => ?_)
      · have h := h.1 q
        refine v_iconst C dX11_ordered_41 ?_
        exact v_iret C R h dX11_ordered_42
      · have h := h.2 q
        refine v_iload_n C dX11_ordered_22 3 rfl ?_
        refine v_iconst C dX11_ordered_23 ?_
        refine v_aload_n C dX11_ordered_24 0 rfl ?_
        refine g_X11_now C wd_1087 dX11_ordered_25 ?_
        refine v_bipush C dX11_ordered_28 (by decide) ?_
        refine v_iload_n C dX11_ordered_30 2 rfl ?_
        refine v_iadd C dX11_ordered_31 ?_
        refine v_iald C rfl h.1 dX11_ordered_32 ?_
        have h := h.2
        refine v_iconst C dX11_ordered_33 ?_
        refine v_isub C dX11_ordered_34 ?_
        refine v_calli C (rn_S C _ (m_X11_in h) mf_X11_in wd_1298 wd_1297 rfl rfl ⟨(Nat.le_of_ble_eq_true rfl), (Nat.le_of_ble_eq_true rfl)⟩ rfl rfl (Nat.le_of_ble_eq_true rfl) dX11_ordered_35) (fun r w h => ?_)
        refine v_if_ne C 43 dX11_ordered_38 (by decide) (fun q => ?_) (fun q => ?_)
        · have h := h.2 q
          refine v_aload_n C dX11_ordered_43 0 rfl ?_
          refine v_iload_n C dX11_ordered_44 1 rfl ?_
          refine v_i2l C dX11_ordered_45 ?_
          refine v_callv C (rn_V C _ (m_X11_triesOrder h) mf_X11_triesOrder wd_1427 wp_68 wd_1425 rfl rfl ⟨(Nat.le_of_ble_eq_true rfl), (Nat.le_of_ble_eq_true rfl)⟩ rfl rfl rfl rfl (Nat.le_of_ble_eq_true rfl) dX11_ordered_46) (fun w h => ?_)
          refine v_aload_n C dX11_ordered_49 0 rfl ?_
          refine g_X11_tried C wd_1101 dX11_ordered_50 ?_
          refine v_bipush C dX11_ordered_53 (by decide) ?_
          refine v_bipush C dX11_ordered_55 (by decide) ?_
          refine v_iload_n C dX11_ordered_57 2 rfl ?_
          refine v_imul C dX11_ordered_58 ?_
          refine v_iadd C dX11_ordered_59 ?_
          refine v_iload_n C dX11_ordered_60 3 rfl ?_
          refine v_iadd C dX11_ordered_61 ?_
          refine v_iald C rfl h.1 dX11_ordered_62 ?_
          have h := h.2
          exact v_iret C R h dX11_ordered_63
        · have h := h.1 q
          refine v_iconst C dX11_ordered_41 ?_
          exact v_iret C R h dX11_ordered_42
abbrev rm_X11_lessen : Room := { frames := 5, cells := 0, slots := 0, locals := 122 }
theorem mf_X11_lessen : MfB yX11_lessen cX11_lessen 3 (some .int) 0 := ⟨wd_1445, wd_13, by decide, by decide, by decide +kernel⟩
def X11_lessen_l29 (Q : Int → Wd → Prop) (e53 : Int → Wd → Prop) : Nat → Int → Int → Wd → Prop
  | 0 => fun _ _ _ => False
  | n + 1 => fun x1 x2 w => ((wr 98 ≤ wr x2 → e53 x1 w) ∧ (¬ wr 98 ≤ wr x2 → (ix x2 98 ∧ (ix x2 98 ∧ (∀ w6, w6 = wt w 73 x2 (rd w 83 x2) → (X11_lessen_l29 Q e53 n) x1 (x2 + 1) w6)))))
theorem t_X11_lessen_l29 {Z : Zw} {E : Amb} {Q : Int → Wd → Prop} {e53 : Int → Wd → Prop} (C : Cx Z (adA Z) E cX11_lessen "HandleFacesModel" 3 rm_X11_lessen) (R : Rt Z E (some .int) (qI Z Q)) (he53 : ∀ (x1 : Int) (w : Wd), e53 x1 w → V Z (adA Z) E 3 w 53 [(1, iv x1)] []) : ∀ (n : Nat) (x1 : Int) (x2 : Int) (w : Wd), X11_lessen_l29 Q e53 n x1 x2 w → V Z (adA Z) E 3 w 29 [(0, rv Z 65), (1, iv x1), (2, iv x2)] [] := by
  intro n
  induction n with
  | zero => intro x1 x2 w h; exact h.elim
  | succ n ih =>
    intro x1 x2 w h
    unfold X11_lessen_l29 at h
    refine v_iload_n C dX11_lessen_29 2 rfl ?_
    refine v_bipush C dX11_lessen_30 (by decide) ?_
    refine v_icmp_ge C 53 dX11_lessen_32 (by decide) (fun q => ?_) (fun q => ?_)
    · have h := h.1 q
      refine v_sub [1] rfl ?_
      exact he53 _ _ h
    · have h := h.2 q
      refine v_aload_n C dX11_lessen_35 0 rfl ?_
      refine g_X11_now C wd_1087 dX11_lessen_36 ?_
      refine v_iload_n C dX11_lessen_39 2 rfl ?_
      refine v_aload_n C dX11_lessen_40 0 rfl ?_
      refine g_X11_tried C wd_1101 dX11_lessen_41 ?_
      refine v_iload_n C dX11_lessen_44 2 rfl ?_
      refine v_iald C rfl h.1 dX11_lessen_45 ?_
      have h := h.2
      refine v_iast C rfl h.1 dX11_lessen_46 ?_
      have h := h.2
      have h := h _ rfl
      refine v_iinc C [(2, _), (0, _), (1, _)] dX11_lessen_47 2 rfl (by decide) rfl ?_
      refine v_goto C 29 dX11_lessen_50 (by decide) ?_
      refine v_sub [1, 2, 0] rfl ?_
      exact ih _ _ _ h
def X11_lessen_b53 (Q : Int → Wd → Prop) (x1 : Int) (w : Wd) : Prop := Q (wr x1) w
theorem t_X11_lessen_b53 {Z : Zw} {E : Amb} {Q : Int → Wd → Prop} (C : Cx Z (adA Z) E cX11_lessen "HandleFacesModel" 3 rm_X11_lessen) (R : Rt Z E (some .int) (qI Z Q)) : ∀ (x1 : Int) (w : Wd), X11_lessen_b53 Q x1 w → V Z (adA Z) E 3 w 53 [(1, iv x1)] [] := by
  intro x1 w h
  unfold X11_lessen_b53 at h
  refine v_iload_n C dX11_lessen_53 0 rfl ?_
  exact v_iret C R h dX11_lessen_54
def X11_lessen (w : Wd) (Q : Int → Wd → Prop) : Prop := X11_triesAll w (fun y2 w1 => ((wr y2 = 0 → Q (wr (-1)) w1) ∧ (¬ wr y2 = 0 → (∀ y3, y3 = (w1 65 33) → X11_triesOrder (wr (w1 65 35)) w1 (fun w4 => X11_marks w4 (fun w5 => (∃ m, X11_lessen_l29 Q (X11_lessen_b53 Q) m y3 0 w5)))))))
theorem m_X11_lessen {Z : Zw} {l : Launch} {w : Wd} {Q : Int → Wd → Prop} (h : X11_lessen w Q) : CtQ Z l yX11_lessen cX11_lessen 3 (some .int) rm_X11_lessen [rv Z 65] w (qI Z Q) := by
  refine ct_of (by decide) (Nat.le_of_ble_eq_true rfl) (fun E eE C R => ?_)
  subst eE
  have C : Cx Z (adA Z) E cX11_lessen "HandleFacesModel" 3 rm_X11_lessen := C
  unfold X11_lessen at h
  show V Z (adA Z) E 3 w 0 [(0, rv Z 65)] []
  refine v_aload_n C dX11_lessen_0 0 rfl ?_
  refine v_calli C (rn_V C _ (m_X11_triesAll h) mf_X11_triesAll wd_1422 wp_67 wd_1420 rfl rfl ⟨(Nat.le_of_ble_eq_true rfl), (Nat.le_of_ble_eq_true rfl)⟩ rfl rfl rfl rfl (Nat.le_of_ble_eq_true rfl) dX11_lessen_1) (fun r w h => ?_)
  refine v_if_ne C 9 dX11_lessen_4 (by decide) (fun q => ?_) (fun q => ?_)
  · have h := h.2 q
    refine v_aload_n C dX11_lessen_9 0 rfl ?_
    refine g_X11_least C wd_1103 dX11_lessen_10 ?_
    refine v_istore_n C [(1, _), (0, _)] dX11_lessen_13 1 rfl (by decide) rfl ?_
    have h := h _ rfl
    refine v_aload_n C dX11_lessen_14 1 rfl ?_
    refine v_aload_n C dX11_lessen_15 1 rfl ?_
    refine g_X11_firstLeast C wd_1105 dX11_lessen_16 ?_
    refine v_i2l C dX11_lessen_19 ?_
    refine v_callv C (rn_V C _ (m_X11_triesOrder h) mf_X11_triesOrder wd_1427 wp_68 wd_1425 rfl rfl ⟨(Nat.le_of_ble_eq_true rfl), (Nat.le_of_ble_eq_true rfl)⟩ rfl rfl rfl rfl (Nat.le_of_ble_eq_true rfl) dX11_lessen_20) (fun w h => ?_)
    refine v_aload_n C dX11_lessen_23 1 rfl ?_
    refine v_callv C (rn_V C _ (m_X11_marks h) mf_X11_marks wd_1318 wp_59 wd_1316 rfl rfl ⟨(Nat.le_of_ble_eq_true rfl), (Nat.le_of_ble_eq_true rfl)⟩ rfl rfl rfl rfl (Nat.le_of_ble_eq_true rfl) dX11_lessen_24) (fun w h => ?_)
    refine v_iconst C dX11_lessen_27 ?_
    refine v_istore_n C [(2, _), (1, _), (0, _)] dX11_lessen_28 2 rfl (by decide) rfl ?_
    refine v_sub [2, 1, 0] rfl ?_
    obtain ⟨m, h⟩ := h
    exact t_X11_lessen_l29 C R (t_X11_lessen_b53 C R) m _ _ _ h
  · have h := h.1 q
    refine v_iconst C dX11_lessen_7 ?_
    exact v_iret C R h dX11_lessen_8
abbrev rm_X11_forest : Room := { frames := 0, cells := 0, slots := 0, locals := 0 }
theorem mf_X11_forest : MfB yX11_forest cX11_forest 6 (some .int) 0 := ⟨wd_1453, wd_13, by decide, by decide, by decide +kernel⟩
def X11_forest_l4 (Q : Int → Wd → Prop) (e27 : Int → Wd → Prop) : Nat → Int → Int → Wd → Prop
  | 0 => fun _ _ _ => False
  | n + 1 => fun x1 x2 w => (ix 0 98 ∧ ((wr (rd w 73 0) ≤ wr x2 → e27 x1 w) ∧ (¬ wr (rd w 73 0) ≤ wr x2 → (ix x2 6 ∧ (∀ w1, w1 = wt w 82 x2 x2 → (X11_forest_l4 Q e27 n) x1 (x2 + 1) w1)))))
theorem t_X11_forest_l4 {Z : Zw} {E : Amb} {Q : Int → Wd → Prop} {e27 : Int → Wd → Prop} (C : Cx Z (adA Z) E cX11_forest "HandleFacesModel" 6 rm_X11_forest) (R : Rt Z E (some .int) (qI Z Q)) (he27 : ∀ (x1 : Int) (w : Wd), e27 x1 w → V Z (adA Z) E 6 w 27 [(0, rv Z 65), (1, iv x1)] []) : ∀ (n : Nat) (x1 : Int) (x2 : Int) (w : Wd), X11_forest_l4 Q e27 n x1 x2 w → V Z (adA Z) E 6 w 4 [(0, rv Z 65), (1, iv x1), (2, iv x2)] [] := by
  intro n
  induction n with
  | zero => intro x1 x2 w h; exact h.elim
  | succ n ih =>
    intro x1 x2 w h
    unfold X11_forest_l4 at h
    refine v_iload_n C dX11_forest_4 2 rfl ?_
    refine v_aload_n C dX11_forest_5 0 rfl ?_
    refine g_X11_now C wd_1087 dX11_forest_6 ?_
    refine v_iconst C dX11_forest_9 ?_
    refine v_iald C rfl h.1 dX11_forest_10 ?_
    have h := h.2
    refine v_icmp_ge C 27 dX11_forest_11 (by decide) (fun q => ?_) (fun q => ?_)
    · have h := h.1 q
      refine v_sub [0, 1] rfl ?_
      exact he27 _ _ h
    · have h := h.2 q
      refine v_aload_n C dX11_forest_14 0 rfl ?_
      refine g_X11_partOf C wd_1100 dX11_forest_15 ?_
      refine v_iload_n C dX11_forest_18 2 rfl ?_
      refine v_iload_n C dX11_forest_19 2 rfl ?_
      refine v_iast C rfl h.1 dX11_forest_20 ?_
      have h := h.2
      have h := h _ rfl
      refine v_iinc C [(2, _), (0, _), (1, _)] dX11_forest_21 2 rfl (by decide) rfl ?_
      refine v_goto C 4 dX11_forest_24 (by decide) ?_
      refine v_sub [1, 2, 0] rfl ?_
      exact ih _ _ _ h
def X11_forest_l92 (Q : Int → Wd → Prop) (e129 : Int → Int → Wd → Prop) : Nat → Int → Int → Int → Int → Int → Wd → Prop
  | 0 => fun _ _ _ _ _ _ => False
  | n + 1 => fun x1 x2 x3 x4 x5 w => (ix 0 98 ∧ ((wr (rd w 73 0) ≤ wr x5 → e129 x1 x2 w) ∧ (¬ wr (rd w 73 0) ≤ wr x5 → (ix x5 6 ∧ ((wr (rd w 82 x5) = wr x3 → (ix x5 6 ∧ (∀ w5, w5 = wt w 82 x5 x4 → (X11_forest_l92 Q e129 n) x1 x2 x3 x4 (x5 + 1) w5))) ∧ (¬ wr (rd w 82 x5) = wr x3 → (X11_forest_l92 Q e129 n) x1 x2 x3 x4 (x5 + 1) w))))))
theorem t_X11_forest_l92 {Z : Zw} {E : Amb} {Q : Int → Wd → Prop} {e129 : Int → Int → Wd → Prop} (C : Cx Z (adA Z) E cX11_forest "HandleFacesModel" 6 rm_X11_forest) (R : Rt Z E (some .int) (qI Z Q)) (he129 : ∀ (x1 : Int) (x2 : Int) (w : Wd), e129 x1 x2 w → V Z (adA Z) E 6 w 129 [(0, rv Z 65), (1, iv x1), (2, iv x2)] []) : ∀ (n : Nat) (x1 : Int) (x2 : Int) (x3 : Int) (x4 : Int) (x5 : Int) (w : Wd), X11_forest_l92 Q e129 n x1 x2 x3 x4 x5 w → V Z (adA Z) E 6 w 92 [(0, rv Z 65), (1, iv x1), (2, iv x2), (3, iv x3), (4, iv x4), (5, iv x5)] [] := by
  intro n
  induction n with
  | zero => intro x1 x2 x3 x4 x5 w h; exact h.elim
  | succ n ih =>
    intro x1 x2 x3 x4 x5 w h
    unfold X11_forest_l92 at h
    refine v_iload C dX11_forest_92 5 rfl ?_
    refine v_aload_n C dX11_forest_94 0 rfl ?_
    refine g_X11_now C wd_1087 dX11_forest_95 ?_
    refine v_iconst C dX11_forest_98 ?_
    refine v_iald C rfl h.1 dX11_forest_99 ?_
    have h := h.2
    refine v_icmp_ge C 129 dX11_forest_100 (by decide) (fun q => ?_) (fun q => ?_)
    · have h := h.1 q
      refine v_sub [0, 1, 2] rfl ?_
      exact he129 _ _ _ h
    · have h := h.2 q
      refine v_aload_n C dX11_forest_103 0 rfl ?_
      refine g_X11_partOf C wd_1100 dX11_forest_104 ?_
      refine v_iload C dX11_forest_107 5 rfl ?_
      refine v_iald C rfl h.1 dX11_forest_109 ?_
      have h := h.2
      refine v_iload_n C dX11_forest_110 3 rfl ?_
      refine v_icmp_ne C 123 dX11_forest_111 (by decide) (fun q => ?_) (fun q => ?_)
      · have h := h.2 q
        refine v_iinc C [(5, _), (0, _), (1, _), (2, _), (3, _), (4, _)] dX11_forest_123 5 rfl (by decide) rfl ?_
        refine v_goto C 92 dX11_forest_126 (by decide) ?_
        refine v_sub [1, 2, 3, 4, 5, 0] rfl ?_
        exact ih _ _ _ _ _ _ h
      · have h := h.1 q
        refine v_aload_n C dX11_forest_114 0 rfl ?_
        refine g_X11_partOf C wd_1100 dX11_forest_115 ?_
        refine v_iload C dX11_forest_118 5 rfl ?_
        refine v_iload C dX11_forest_120 4 rfl ?_
        refine v_iast C rfl h.1 dX11_forest_122 ?_
        have h := h.2
        have h := h _ rfl
        refine v_iinc C [(5, _), (0, _), (1, _), (2, _), (3, _), (4, _)] dX11_forest_123 5 rfl (by decide) rfl ?_
        refine v_goto C 92 dX11_forest_126 (by decide) ?_
        refine v_sub [1, 2, 3, 4, 5, 0] rfl ?_
        exact ih _ _ _ _ _ _ h
def X11_forest_b129 (Q : Int → Wd → Prop) (c29 : Int → Int → Wd → Prop) (e135 : Int → Wd → Prop) (x1 : Int) (x2 : Int) (w : Wd) : Prop := c29 x1 (x2 + 1) w
theorem t_X11_forest_b129 {Z : Zw} {E : Amb} {Q : Int → Wd → Prop} {c29 : Int → Int → Wd → Prop} {e135 : Int → Wd → Prop} (C : Cx Z (adA Z) E cX11_forest "HandleFacesModel" 6 rm_X11_forest) (R : Rt Z E (some .int) (qI Z Q)) (hc29 : ∀ (x1 : Int) (x2 : Int) (w : Wd), c29 x1 x2 w → V Z (adA Z) E 6 w 29 [(0, rv Z 65), (1, iv x1), (2, iv x2)] []) (he135 : ∀ (x1 : Int) (w : Wd), e135 x1 w → V Z (adA Z) E 6 w 135 [(1, iv x1)] []) : ∀ (x1 : Int) (x2 : Int) (w : Wd), X11_forest_b129 Q c29 e135 x1 x2 w → V Z (adA Z) E 6 w 129 [(0, rv Z 65), (1, iv x1), (2, iv x2)] [] := by
  intro x1 x2 w h
  unfold X11_forest_b129 at h
  refine v_iinc C [(2, _), (0, _), (1, _)] dX11_forest_129 2 rfl (by decide) rfl ?_
  refine v_goto C 29 dX11_forest_132 (by decide) ?_
  refine v_sub [1, 2, 0] rfl ?_
  exact hc29 _ _ _ h
def X11_forest_l29 (Q : Int → Wd → Prop) (e135 : Int → Wd → Prop) : Nat → Int → Int → Wd → Prop
  | 0 => fun _ _ _ => False
  | n + 1 => fun x1 x2 w => (ix 1 98 ∧ ((wr (rd w 73 1) ≤ wr x2 → e135 x1 w) ∧ (¬ wr (rd w 73 1) ≤ wr x2 → (ix (2 + (2 * x2)) 98 ∧ (ix (rd w 73 (2 + (2 * x2))) 6 ∧ (∀ y2, y2 = (rd w 82 (rd w 73 (2 + (2 * x2)))) → (ix ((2 + (2 * x2)) + 1) 98 ∧ (ix (rd w 73 ((2 + (2 * x2)) + 1)) 6 ∧ (∀ y3, y3 = (rd w 82 (rd w 73 ((2 + (2 * x2)) + 1))) → ((wr y2 = wr y3 → X11_forest_b129 Q (X11_forest_l29 Q e135 n) e135 x1 x2 w) ∧ (¬ wr y2 = wr y3 → (∀ y4, y4 = (ior x1 (isl 1 x2)) → (∃ m, X11_forest_l92 Q (X11_forest_b129 Q (X11_forest_l29 Q e135 n) e135) m y4 x2 y2 y3 0 w)))))))))))))
theorem t_X11_forest_l29 {Z : Zw} {E : Amb} {Q : Int → Wd → Prop} {e135 : Int → Wd → Prop} (C : Cx Z (adA Z) E cX11_forest "HandleFacesModel" 6 rm_X11_forest) (R : Rt Z E (some .int) (qI Z Q)) (he135 : ∀ (x1 : Int) (w : Wd), e135 x1 w → V Z (adA Z) E 6 w 135 [(1, iv x1)] []) : ∀ (n : Nat) (x1 : Int) (x2 : Int) (w : Wd), X11_forest_l29 Q e135 n x1 x2 w → V Z (adA Z) E 6 w 29 [(0, rv Z 65), (1, iv x1), (2, iv x2)] [] := by
  intro n
  induction n with
  | zero => intro x1 x2 w h; exact h.elim
  | succ n ih =>
    intro x1 x2 w h
    unfold X11_forest_l29 at h
    refine v_iload_n C dX11_forest_29 2 rfl ?_
    refine v_aload_n C dX11_forest_30 0 rfl ?_
    refine g_X11_now C wd_1087 dX11_forest_31 ?_
    refine v_iconst C dX11_forest_34 ?_
    refine v_iald C rfl h.1 dX11_forest_35 ?_
    have h := h.2
    refine v_icmp_ge C 135 dX11_forest_36 (by decide) (fun q => ?_) (fun q => ?_)
    · have h := h.1 q
      refine v_sub [1] rfl ?_
      exact he135 _ _ h
    · have h := h.2 q
      refine v_aload_n C dX11_forest_39 0 rfl ?_
      refine g_X11_partOf C wd_1100 dX11_forest_40 ?_
      refine v_aload_n C dX11_forest_43 0 rfl ?_
      refine g_X11_now C wd_1087 dX11_forest_44 ?_
      refine v_iconst C dX11_forest_47 ?_
      refine v_iconst C dX11_forest_48 ?_
      refine v_iload_n C dX11_forest_49 2 rfl ?_
      refine v_imul C dX11_forest_50 ?_
      refine v_iadd C dX11_forest_51 ?_
      refine v_iald C rfl h.1 dX11_forest_52 ?_
      have h := h.2
      refine v_iald C rfl h.1 dX11_forest_53 ?_
      have h := h.2
      refine v_istore_n C [(3, _), (0, _), (1, _), (2, _)] dX11_forest_54 3 rfl (by decide) rfl ?_
      have h := h _ rfl
      refine v_aload_n C dX11_forest_55 1 rfl ?_
      refine g_X11_partOf C wd_1100 dX11_forest_56 ?_
      refine v_aload_n C dX11_forest_59 1 rfl ?_
      refine g_X11_now C wd_1087 dX11_forest_60 ?_
      refine v_iconst C dX11_forest_63 ?_
      refine v_iconst C dX11_forest_64 ?_
      refine v_iload_n C dX11_forest_65 3 rfl ?_
      refine v_imul C dX11_forest_66 ?_
      refine v_iadd C dX11_forest_67 ?_
      refine v_iconst C dX11_forest_68 ?_
      refine v_iadd C dX11_forest_69 ?_
      refine v_iald C rfl h.1 dX11_forest_70 ?_
      have h := h.2
      refine v_iald C rfl h.1 dX11_forest_71 ?_
      have h := h.2
      refine v_istore C [(4, _), (3, _), (0, _), (1, _), (2, _)] dX11_forest_72 (by decide) rfl ?_
      have h := h _ rfl
      refine v_iload_n C dX11_forest_74 1 rfl ?_
      refine v_iload C dX11_forest_75 0 rfl ?_
      refine v_icmp_ne C 83 dX11_forest_77 (by decide) (fun q => ?_) (fun q => ?_)
      · have h := h.2 q
        refine v_iload_n C dX11_forest_83 3 rfl ?_
        refine v_iconst C dX11_forest_84 ?_
        refine v_iload_n C dX11_forest_85 4 rfl ?_
        refine v_ishl C dX11_forest_86 ?_
        refine v_ior C dX11_forest_87 ?_
        refine v_istore_n C [(1, _), (4, _), (3, _), (0, _), (2, _)] dX11_forest_88 1 rfl (by decide) rfl ?_
        have h := h _ rfl
        refine v_iconst C dX11_forest_89 ?_
        refine v_istore C [(5, _), (1, _), (4, _), (3, _), (0, _), (2, _)] dX11_forest_90 (by decide) rfl ?_
        refine v_sub [4, 1, 5, 3, 2, 0] rfl ?_
        obtain ⟨m, h⟩ := h
        exact t_X11_forest_l92 C R (t_X11_forest_b129 C R ih he135) m _ _ _ _ _ _ h
      · have h := h.1 q
        refine v_goto C 129 dX11_forest_80 (by decide) ?_
        refine v_sub [2, 3, 4] rfl ?_
        exact t_X11_forest_b129 C R ih he135 _ _ _ h
def X11_forest_b135 (Q : Int → Wd → Prop) (x1 : Int) (w : Wd) : Prop := Q (wr x1) w
theorem t_X11_forest_b135 {Z : Zw} {E : Amb} {Q : Int → Wd → Prop} (C : Cx Z (adA Z) E cX11_forest "HandleFacesModel" 6 rm_X11_forest) (R : Rt Z E (some .int) (qI Z Q)) : ∀ (x1 : Int) (w : Wd), X11_forest_b135 Q x1 w → V Z (adA Z) E 6 w 135 [(1, iv x1)] [] := by
  intro x1 w h
  unfold X11_forest_b135 at h
  refine v_iload_n C dX11_forest_135 0 rfl ?_
  exact v_iret C R h dX11_forest_136
def X11_forest_b27 (Q : Int → Wd → Prop) (x1 : Int) (w : Wd) : Prop := (∃ m, X11_forest_l29 Q (X11_forest_b135 Q) m x1 0 w)
theorem t_X11_forest_b27 {Z : Zw} {E : Amb} {Q : Int → Wd → Prop} (C : Cx Z (adA Z) E cX11_forest "HandleFacesModel" 6 rm_X11_forest) (R : Rt Z E (some .int) (qI Z Q)) : ∀ (x1 : Int) (w : Wd), X11_forest_b27 Q x1 w → V Z (adA Z) E 6 w 27 [(0, rv Z 65), (1, iv x1)] [] := by
  intro x1 w h
  unfold X11_forest_b27 at h
  refine v_iconst C dX11_forest_27 ?_
  refine v_istore_n C [(2, _), (0, _), (1, _)] dX11_forest_28 2 rfl (by decide) rfl ?_
  refine v_sub [1, 2, 0] rfl ?_
  obtain ⟨m, h⟩ := h
  exact t_X11_forest_l29 C R (t_X11_forest_b135 C R) m _ _ _ h
def X11_forest (w : Wd) (Q : Int → Wd → Prop) : Prop := (∃ m, X11_forest_l4 Q (X11_forest_b27 Q) m 0 0 w)
theorem m_X11_forest {Z : Zw} {l : Launch} {w : Wd} {Q : Int → Wd → Prop} (h : X11_forest w Q) : CtQ Z l yX11_forest cX11_forest 6 (some .int) rm_X11_forest [rv Z 65] w (qI Z Q) := by
  refine ct_of (by decide) (Nat.le_of_ble_eq_true rfl) (fun E eE C R => ?_)
  subst eE
  have C : Cx Z (adA Z) E cX11_forest "HandleFacesModel" 6 rm_X11_forest := C
  unfold X11_forest at h
  show V Z (adA Z) E 6 w 0 [(0, rv Z 65)] []
  refine v_iconst C dX11_forest_0 ?_
  refine v_istore_n C [(1, _), (0, _)] dX11_forest_1 1 rfl (by decide) rfl ?_
  refine v_iconst C dX11_forest_2 ?_
  refine v_istore_n C [(2, _), (1, _), (0, _)] dX11_forest_3 2 rfl (by decide) rfl ?_
  refine v_sub [2, 1, 0] rfl ?_
  obtain ⟨m, h⟩ := h
  exact t_X11_forest_l4 C R (t_X11_forest_b27 C R) m _ _ _ h
abbrev rm_X11_capped : Room := { frames := 4, cells := 0, slots := 0, locals := 97 }
theorem mf_X11_capped : MfB yX11_capped cX11_capped 11 (some .int) 0 := ⟨wd_1449, wd_13, by decide, by decide, by decide +kernel⟩
def X11_capped_l97 (Q : Int → Wd → Prop) (e147 : Int → Int → Int → Int → Int → Int → Int → Wd → Prop) : Nat → Int → Int → Int → Int → Int → Int → Int → Int → Int → Wd → Prop
  | 0 => fun _ _ _ _ _ _ _ _ _ _ => False
  | n + 1 => fun x1 x2 x3 x5 x6 x7 x8 x9 x10 w => (ix 1 98 ∧ ((wr (rd w 73 1) ≤ wr x10 → e147 x1 x2 x3 x5 x6 x7 x8 w) ∧ (¬ wr (rd w 73 1) ≤ wr x10 → X11_has x5 x10 w (fun y10 w9 => ((wr y10 = 0 → (ix (22 + x10) 98 ∧ (∀ w11, w11 = wt w9 83 (22 + x10) (ian (isr x8 x9) 1) → (X11_capped_l97 Q e147 n) x1 x2 x3 x5 x6 x7 x8 (x9 + 1) (x10 + 1) w11))) ∧ (¬ wr y10 = 0 → (X11_capped_l97 Q e147 n) x1 x2 x3 x5 x6 x7 x8 x9 (x10 + 1) w9))))))
theorem t_X11_capped_l97 {Z : Zw} {E : Amb} {Q : Int → Wd → Prop} {e147 : Int → Int → Int → Int → Int → Int → Int → Wd → Prop} (C : Cx Z (adA Z) E cX11_capped "HandleFacesModel" 11 rm_X11_capped) (R : Rt Z E (some .int) (qI Z Q)) (he147 : ∀ (x1 : Int) (x2 : Int) (x3 : Int) (x5 : Int) (x6 : Int) (x7 : Int) (x8 : Int) (w : Wd), e147 x1 x2 x3 x5 x6 x7 x8 w → V Z (adA Z) E 11 w 147 [(0, rv Z 65), (1, iv x1), (2, iv x2), (3, jv x3), (5, iv x5), (6, iv x6), (7, iv x7), (8, iv x8)] []) : ∀ (n : Nat) (x1 : Int) (x2 : Int) (x3 : Int) (x5 : Int) (x6 : Int) (x7 : Int) (x8 : Int) (x9 : Int) (x10 : Int) (w : Wd), X11_capped_l97 Q e147 n x1 x2 x3 x5 x6 x7 x8 x9 x10 w → V Z (adA Z) E 11 w 97 [(0, rv Z 65), (1, iv x1), (2, iv x2), (3, jv x3), (5, iv x5), (6, iv x6), (7, iv x7), (8, iv x8), (9, iv x9), (10, iv x10)] [] := by
  intro n
  induction n with
  | zero => intro x1 x2 x3 x5 x6 x7 x8 x9 x10 w h; exact h.elim
  | succ n ih =>
    intro x1 x2 x3 x5 x6 x7 x8 x9 x10 w h
    unfold X11_capped_l97 at h
    refine v_iload C dX11_capped_97 9 rfl ?_
    refine v_aload_n C dX11_capped_99 0 rfl ?_
    refine g_X11_now C wd_1087 dX11_capped_100 ?_
    refine v_iconst C dX11_capped_103 ?_
    refine v_iald C rfl h.1 dX11_capped_104 ?_
    have h := h.2
    refine v_icmp_ge C 147 dX11_capped_105 (by decide) (fun q => ?_) (fun q => ?_)
    · have h := h.1 q
      refine v_sub [0, 1, 2, 3, 4, 5, 6, 7] rfl ?_
      exact he147 _ _ _ _ _ _ _ _ h
    · have h := h.2 q
      refine v_iload C dX11_capped_108 4 rfl ?_
      refine v_iload C dX11_capped_110 9 rfl ?_
      refine v_calli C (rn_S C _ (m_X11_has h) mf_X11_has wd_1283 wd_1282 rfl rfl ⟨(Nat.le_of_ble_eq_true rfl), (Nat.le_of_ble_eq_true rfl)⟩ rfl rfl (Nat.le_of_ble_eq_true rfl) dX11_capped_112) (fun r w h => ?_)
      refine v_if_eq C 121 dX11_capped_115 (by decide) (fun q => ?_) (fun q => ?_)
      · have h := h.1 q
        refine v_aload_n C dX11_capped_121 0 rfl ?_
        refine g_X11_tried C wd_1101 dX11_capped_122 ?_
        refine v_bipush C dX11_capped_125 (by decide) ?_
        refine v_iload C dX11_capped_127 9 rfl ?_
        refine v_iadd C dX11_capped_129 ?_
        refine v_iload C dX11_capped_130 7 rfl ?_
        refine v_iload C dX11_capped_132 8 rfl ?_
        refine v_ishr C dX11_capped_134 ?_
        refine v_iconst C dX11_capped_135 ?_
        refine v_iand C dX11_capped_136 ?_
        refine v_iast C rfl h.1 dX11_capped_137 ?_
        have h := h.2
        have h := h _ rfl
        refine v_iinc C [(9, _), (0, _), (1, _), (2, _), (3, _), (5, _), (6, _), (7, _), (8, _), (10, _)] dX11_capped_138 8 rfl (by decide) rfl ?_
        refine v_iinc C [(10, _), (9, _), (0, _), (1, _), (2, _), (3, _), (5, _), (6, _), (7, _), (8, _)] dX11_capped_141 9 rfl (by decide) rfl ?_
        refine v_goto C 97 dX11_capped_144 (by decide) ?_
        refine v_sub [2, 3, 4, 5, 6, 7, 8, 9, 1, 0] rfl ?_
        exact ih _ _ _ _ _ _ _ _ _ _ h
      · have h := h.2 q
        refine v_goto C 141 dX11_capped_118 (by decide) ?_
        refine v_iinc C [(10, _), (0, _), (1, _), (2, _), (3, _), (5, _), (6, _), (7, _), (8, _), (9, _)] dX11_capped_141 9 rfl (by decide) rfl ?_
        refine v_goto C 97 dX11_capped_144 (by decide) ?_
        refine v_sub [1, 2, 3, 4, 5, 6, 7, 8, 9, 0] rfl ?_
        exact ih _ _ _ _ _ _ _ _ _ _ h
def X11_capped_b147 (Q : Int → Wd → Prop) (c83 : Int → Int → Int → Int → Int → Int → Int → Wd → Prop) (e178 : Int → Int → Int → Int → Int → Int → Wd → Prop) (x1 : Int) (x2 : Int) (x3 : Int) (x5 : Int) (x6 : Int) (x7 : Int) (x8 : Int) (w : Wd) : Prop := X11_euler 83 w (fun y13 w12 => (∀ y14, y14 = ((2 * x1) - y13) → ((wr x6 ≤ wr y14 → c83 x1 x2 x3 x5 x6 x7 (x8 + 1) w12) ∧ (¬ wr x6 ≤ wr y14 → c83 x1 x2 x3 x5 y14 x7 (x8 + 1) w12))))
theorem t_X11_capped_b147 {Z : Zw} {E : Amb} {Q : Int → Wd → Prop} {c83 : Int → Int → Int → Int → Int → Int → Int → Wd → Prop} {e178 : Int → Int → Int → Int → Int → Int → Wd → Prop} (C : Cx Z (adA Z) E cX11_capped "HandleFacesModel" 11 rm_X11_capped) (R : Rt Z E (some .int) (qI Z Q)) (hc83 : ∀ (x1 : Int) (x2 : Int) (x3 : Int) (x5 : Int) (x6 : Int) (x7 : Int) (x8 : Int) (w : Wd), c83 x1 x2 x3 x5 x6 x7 x8 w → V Z (adA Z) E 11 w 83 [(0, rv Z 65), (1, iv x1), (2, iv x2), (3, jv x3), (5, iv x5), (6, iv x6), (7, iv x7), (8, iv x8)] []) (he178 : ∀ (x1 : Int) (x2 : Int) (x3 : Int) (x5 : Int) (x6 : Int) (x7 : Int) (w : Wd), e178 x1 x2 x3 x5 x6 x7 w → V Z (adA Z) E 11 w 178 [(0, rv Z 65), (1, iv x1), (2, iv x2), (3, jv x3), (5, iv x5), (6, iv x6), (7, iv x7)] []) : ∀ (x1 : Int) (x2 : Int) (x3 : Int) (x5 : Int) (x6 : Int) (x7 : Int) (x8 : Int) (w : Wd), X11_capped_b147 Q c83 e178 x1 x2 x3 x5 x6 x7 x8 w → V Z (adA Z) E 11 w 147 [(0, rv Z 65), (1, iv x1), (2, iv x2), (3, jv x3), (5, iv x5), (6, iv x6), (7, iv x7), (8, iv x8)] [] := by
  intro x1 x2 x3 x5 x6 x7 x8 w h
  unfold X11_capped_b147 at h
  refine v_iconst C dX11_capped_147 ?_
  refine v_iload_n C dX11_capped_148 1 rfl ?_
  refine v_imul C dX11_capped_149 ?_
  refine v_aload_n C dX11_capped_150 0 rfl ?_
  refine v_aload_n C dX11_capped_151 0 rfl ?_
  refine g_X11_tried C wd_1101 dX11_capped_152 ?_
  refine v_calli C (rn_V C _ (m_X11_euler rfl h) mf_X11_euler wd_1402 wp_64 wd_1400 rfl rfl ⟨(Nat.le_of_ble_eq_true rfl), (Nat.le_of_ble_eq_true rfl)⟩ rfl rfl rfl rfl (Nat.le_of_ble_eq_true rfl) dX11_capped_155) (fun r w h => ?_)
  refine v_isub C dX11_capped_158 ?_
  refine v_istore C [(10, _), (0, _), (1, _), (2, _), (3, _), (5, _), (6, _), (7, _), (8, _)] dX11_capped_159 (by decide) rfl ?_
  have h := h _ rfl
  refine v_iload C dX11_capped_161 0 rfl ?_
  refine v_iload C dX11_capped_163 6 rfl ?_
  refine v_icmp_ge C 172 dX11_capped_165 (by decide) (fun q => ?_) (fun q => ?_)
  · have h := h.1 q
    refine v_iinc C [(8, _), (10, _), (0, _), (1, _), (2, _), (3, _), (5, _), (6, _), (7, _)] dX11_capped_172 8 rfl (by decide) rfl ?_
    refine v_goto C 83 dX11_capped_175 (by decide) ?_
    refine v_sub [2, 3, 4, 5, 6, 7, 8, 0] rfl ?_
    exact hc83 _ _ _ _ _ _ _ _ h
  · have h := h.2 q
    refine v_iload C dX11_capped_168 0 rfl ?_
    refine v_istore C [(6, _), (10, _), (0, _), (1, _), (2, _), (3, _), (5, _), (7, _), (8, _)] dX11_capped_170 (by decide) rfl ?_
    refine v_iinc C [(8, _), (6, _), (10, _), (0, _), (1, _), (2, _), (3, _), (5, _), (7, _)] dX11_capped_172 8 rfl (by decide) rfl ?_
    refine v_goto C 83 dX11_capped_175 (by decide) ?_
    refine v_sub [3, 4, 5, 6, 7, 1, 8, 0] rfl ?_
    exact hc83 _ _ _ _ _ _ _ _ h
def X11_capped_l83 (Q : Int → Wd → Prop) (e178 : Int → Int → Int → Int → Int → Int → Wd → Prop) : Nat → Int → Int → Int → Int → Int → Int → Int → Wd → Prop
  | 0 => fun _ _ _ _ _ _ _ _ => False
  | n + 1 => fun x1 x2 x3 x5 x6 x7 x8 w => ((wr (isl 1 x2) ≤ wr x8 → e178 x1 x2 x3 x5 x6 x7 w) ∧ (¬ wr (isl 1 x2) ≤ wr x8 → (∃ m, X11_capped_l97 Q (X11_capped_b147 Q (X11_capped_l83 Q e178 n) e178) m x1 x2 x3 x5 x6 x7 x8 0 0 w)))
theorem t_X11_capped_l83 {Z : Zw} {E : Amb} {Q : Int → Wd → Prop} {e178 : Int → Int → Int → Int → Int → Int → Wd → Prop} (C : Cx Z (adA Z) E cX11_capped "HandleFacesModel" 11 rm_X11_capped) (R : Rt Z E (some .int) (qI Z Q)) (he178 : ∀ (x1 : Int) (x2 : Int) (x3 : Int) (x5 : Int) (x6 : Int) (x7 : Int) (w : Wd), e178 x1 x2 x3 x5 x6 x7 w → V Z (adA Z) E 11 w 178 [(0, rv Z 65), (1, iv x1), (2, iv x2), (3, jv x3), (5, iv x5), (6, iv x6), (7, iv x7)] []) : ∀ (n : Nat) (x1 : Int) (x2 : Int) (x3 : Int) (x5 : Int) (x6 : Int) (x7 : Int) (x8 : Int) (w : Wd), X11_capped_l83 Q e178 n x1 x2 x3 x5 x6 x7 x8 w → V Z (adA Z) E 11 w 83 [(0, rv Z 65), (1, iv x1), (2, iv x2), (3, jv x3), (5, iv x5), (6, iv x6), (7, iv x7), (8, iv x8)] [] := by
  intro n
  induction n with
  | zero => intro x1 x2 x3 x5 x6 x7 x8 w h; exact h.elim
  | succ n ih =>
    intro x1 x2 x3 x5 x6 x7 x8 w h
    unfold X11_capped_l83 at h
    refine v_iload C dX11_capped_83 7 rfl ?_
    refine v_iconst C dX11_capped_85 ?_
    refine v_iload_n C dX11_capped_86 2 rfl ?_
    refine v_ishl C dX11_capped_87 ?_
    refine v_icmp_ge C 178 dX11_capped_88 (by decide) (fun q => ?_) (fun q => ?_)
    · have h := h.1 q
      refine v_sub [0, 1, 2, 3, 4, 5, 6] rfl ?_
      exact he178 _ _ _ _ _ _ _ h
    · have h := h.2 q
      refine v_iconst C dX11_capped_91 ?_
      refine v_istore C [(9, _), (0, _), (1, _), (2, _), (3, _), (5, _), (6, _), (7, _), (8, _)] dX11_capped_92 (by decide) rfl ?_
      refine v_iconst C dX11_capped_94 ?_
      refine v_istore C [(10, _), (9, _), (0, _), (1, _), (2, _), (3, _), (5, _), (6, _), (7, _), (8, _)] dX11_capped_95 (by decide) rfl ?_
      refine v_sub [2, 3, 4, 5, 6, 7, 8, 9, 1, 0] rfl ?_
      obtain ⟨m, h⟩ := h
      exact t_X11_capped_l97 C R (t_X11_capped_b147 C R ih he178) m _ _ _ _ _ _ _ _ _ _ h
def X11_capped_b178 (Q : Int → Wd → Prop) (c65 : Int → Int → Int → Int → Int → Int → Wd → Prop) (e184 : Int → Wd → Prop) (x1 : Int) (x2 : Int) (x3 : Int) (x5 : Int) (x6 : Int) (x7 : Int) (w : Wd) : Prop := c65 x1 x2 x3 x5 x6 (x7 + 1) w
theorem t_X11_capped_b178 {Z : Zw} {E : Amb} {Q : Int → Wd → Prop} {c65 : Int → Int → Int → Int → Int → Int → Wd → Prop} {e184 : Int → Wd → Prop} (C : Cx Z (adA Z) E cX11_capped "HandleFacesModel" 11 rm_X11_capped) (R : Rt Z E (some .int) (qI Z Q)) (hc65 : ∀ (x1 : Int) (x2 : Int) (x3 : Int) (x5 : Int) (x6 : Int) (x7 : Int) (w : Wd), c65 x1 x2 x3 x5 x6 x7 w → V Z (adA Z) E 11 w 65 [(0, rv Z 65), (1, iv x1), (2, iv x2), (3, jv x3), (5, iv x5), (6, iv x6), (7, iv x7)] []) (he184 : ∀ (x6 : Int) (w : Wd), e184 x6 w → V Z (adA Z) E 11 w 184 [(6, iv x6)] []) : ∀ (x1 : Int) (x2 : Int) (x3 : Int) (x5 : Int) (x6 : Int) (x7 : Int) (w : Wd), X11_capped_b178 Q c65 e184 x1 x2 x3 x5 x6 x7 w → V Z (adA Z) E 11 w 178 [(0, rv Z 65), (1, iv x1), (2, iv x2), (3, jv x3), (5, iv x5), (6, iv x6), (7, iv x7)] [] := by
  intro x1 x2 x3 x5 x6 x7 w h
  unfold X11_capped_b178 at h
  refine v_iinc C [(7, _), (0, _), (1, _), (2, _), (3, _), (5, _), (6, _)] dX11_capped_178 6 rfl (by decide) rfl ?_
  refine v_goto C 65 dX11_capped_181 (by decide) ?_
  refine v_sub [1, 2, 3, 4, 5, 6, 0] rfl ?_
  exact hc65 _ _ _ _ _ _ _ h
def X11_capped_l65 (Q : Int → Wd → Prop) (e184 : Int → Wd → Prop) : Nat → Int → Int → Int → Int → Int → Int → Wd → Prop
  | 0 => fun _ _ _ _ _ _ _ => False
  | n + 1 => fun x1 x2 x3 x5 x6 x7 w => ((0 ≤ wr (lcm (wr x7) x3) → e184 x6 w) ∧ (¬ 0 ≤ wr (lcm (wr x7) x3) → X11_triesOrder (wr x7) w (fun w8 => (∃ m, X11_capped_l83 Q (X11_capped_b178 Q (X11_capped_l65 Q e184 n) e184) m x1 x2 x3 x5 x6 x7 0 w8))))
theorem t_X11_capped_l65 {Z : Zw} {E : Amb} {Q : Int → Wd → Prop} {e184 : Int → Wd → Prop} (C : Cx Z (adA Z) E cX11_capped "HandleFacesModel" 11 rm_X11_capped) (R : Rt Z E (some .int) (qI Z Q)) (he184 : ∀ (x6 : Int) (w : Wd), e184 x6 w → V Z (adA Z) E 11 w 184 [(6, iv x6)] []) : ∀ (n : Nat) (x1 : Int) (x2 : Int) (x3 : Int) (x5 : Int) (x6 : Int) (x7 : Int) (w : Wd), X11_capped_l65 Q e184 n x1 x2 x3 x5 x6 x7 w → V Z (adA Z) E 11 w 65 [(0, rv Z 65), (1, iv x1), (2, iv x2), (3, jv x3), (5, iv x5), (6, iv x6), (7, iv x7)] [] := by
  intro n
  induction n with
  | zero => intro x1 x2 x3 x5 x6 x7 w h; exact h.elim
  | succ n ih =>
    intro x1 x2 x3 x5 x6 x7 w h
    unfold X11_capped_l65 at h
    refine v_iload C dX11_capped_65 6 rfl ?_
    refine v_i2l C dX11_capped_67 ?_
    refine v_lload_n C dX11_capped_68 3 rfl ?_
    refine v_lcmp C dX11_capped_69 ?_
    refine v_if_ge C 184 dX11_capped_70 (by decide) (fun q => ?_) (fun q => ?_)
    · have h := h.1 q
      refine v_sub [5] rfl ?_
      exact he184 _ _ h
    · have h := h.2 q
      refine v_aload_n C dX11_capped_73 0 rfl ?_
      refine v_iload C dX11_capped_74 6 rfl ?_
      refine v_i2l C dX11_capped_76 ?_
      refine v_callv C (rn_V C _ (m_X11_triesOrder h) mf_X11_triesOrder wd_1427 wp_68 wd_1425 rfl rfl ⟨(Nat.le_of_ble_eq_true rfl), (Nat.le_of_ble_eq_true rfl)⟩ rfl rfl rfl rfl (Nat.le_of_ble_eq_true rfl) dX11_capped_77) (fun w h => ?_)
      refine v_iconst C dX11_capped_80 ?_
      refine v_istore C [(8, _), (0, _), (1, _), (2, _), (3, _), (5, _), (6, _), (7, _)] dX11_capped_81 (by decide) rfl ?_
      refine v_sub [1, 2, 3, 4, 5, 6, 7, 0] rfl ?_
      obtain ⟨m, h⟩ := h
      exact t_X11_capped_l83 C R (t_X11_capped_b178 C R ih he184) m _ _ _ _ _ _ _ _ h
def X11_capped_b184 (Q : Int → Wd → Prop) (x6 : Int) (w : Wd) : Prop := Q (wr x6) w
theorem t_X11_capped_b184 {Z : Zw} {E : Amb} {Q : Int → Wd → Prop} (C : Cx Z (adA Z) E cX11_capped "HandleFacesModel" 11 rm_X11_capped) (R : Rt Z E (some .int) (qI Z Q)) : ∀ (x6 : Int) (w : Wd), X11_capped_b184 Q x6 w → V Z (adA Z) E 11 w 184 [(6, iv x6)] [] := by
  intro x6 w h
  unfold X11_capped_b184 at h
  refine v_iload C dX11_capped_184 0 rfl ?_
  exact v_iret C R h dX11_capped_186
def X11_capped (w : Wd) (Q : Int → Wd → Prop) : Prop := X11_partsOf 73 w (fun y2 w1 => (ix 1 98 ∧ (ix 0 98 ∧ (∀ y3, y3 = (((rd w1 73 1) - (rd w1 73 0)) + y2) → X11_allRounds w1 (fun y5 w4 => ((0 < wr (lcm y5 20000) → Q (wr (-2)) w4) ∧ (¬ 0 < wr (lcm y5 20000) → ((wr (lcm (lsl y5 y3) 20000) ≤ 0 → X11_forest w4 (fun y7 w6 => (∃ m, X11_capped_l65 Q (X11_capped_b184 Q) m y2 y3 y5 y7 1000 0 w6))) ∧ (¬ wr (lcm (lsl y5 y3) 20000) ≤ 0 → Q (wr (-2)) w4)))))))))
theorem m_X11_capped {Z : Zw} {l : Launch} {w : Wd} {Q : Int → Wd → Prop} (h : X11_capped w Q) : CtQ Z l yX11_capped cX11_capped 11 (some .int) rm_X11_capped [rv Z 65] w (qI Z Q) := by
  refine ct_of (by decide) (Nat.le_of_ble_eq_true rfl) (fun E eE C R => ?_)
  subst eE
  have C : Cx Z (adA Z) E cX11_capped "HandleFacesModel" 11 rm_X11_capped := C
  unfold X11_capped at h
  show V Z (adA Z) E 11 w 0 [(0, rv Z 65)] []
  refine v_aload_n C dX11_capped_0 0 rfl ?_
  refine v_aload_n C dX11_capped_1 0 rfl ?_
  refine g_X11_now C wd_1087 dX11_capped_2 ?_
  refine v_calli C (rn_V C _ (m_X11_partsOf rfl h) mf_X11_partsOf wd_1398 wp_63 wd_1396 rfl rfl ⟨(Nat.le_of_ble_eq_true rfl), (Nat.le_of_ble_eq_true rfl)⟩ rfl rfl rfl rfl (Nat.le_of_ble_eq_true rfl) dX11_capped_5) (fun r w h => ?_)
  refine v_istore_n C [(1, _), (0, _)] dX11_capped_8 1 rfl (by decide) rfl ?_
  refine v_aload_n C dX11_capped_9 1 rfl ?_
  refine g_X11_now C wd_1087 dX11_capped_10 ?_
  refine v_iconst C dX11_capped_13 ?_
  refine v_iald C rfl h.1 dX11_capped_14 ?_
  have h := h.2
  refine v_aload_n C dX11_capped_15 1 rfl ?_
  refine g_X11_now C wd_1087 dX11_capped_16 ?_
  refine v_iconst C dX11_capped_19 ?_
  refine v_iald C rfl h.1 dX11_capped_20 ?_
  have h := h.2
  refine v_isub C dX11_capped_21 ?_
  refine v_iload_n C dX11_capped_22 0 rfl ?_
  refine v_iadd C dX11_capped_23 ?_
  refine v_istore_n C [(2, _), (1, _), (0, _)] dX11_capped_24 2 rfl (by decide) rfl ?_
  have h := h _ rfl
  refine v_aload_n C dX11_capped_25 2 rfl ?_
  refine v_calll C (rn_V C _ (m_X11_allRounds h) mf_X11_allRounds wd_1415 wp_66 wd_1413 rfl rfl ⟨(Nat.le_of_ble_eq_true rfl), (Nat.le_of_ble_eq_true rfl)⟩ rfl rfl rfl rfl (Nat.le_of_ble_eq_true rfl) dX11_capped_26) (fun r w h => ?_)
  refine v_lstore_n C [(3, _), (2, _), (1, _), (0, _)] dX11_capped_29 3 rfl (by decide) rfl ?_
  refine v_lload_n C dX11_capped_30 0 rfl ?_
  refine v_ldc2 C 20000 wd_1424 (by decide) dX11_capped_31 ?_
  refine v_lcmp C dX11_capped_34 ?_
  refine v_if_gt C 48 dX11_capped_35 (by decide) (fun q => ?_) (fun q => ?_)
  · have h := h.1 q
    refine v_bipush C dX11_capped_48 (by decide) ?_
    exact v_iret C R h dX11_capped_50
  · have h := h.2 q
    refine v_lload_n C dX11_capped_38 0 rfl ?_
    refine v_iload_n C dX11_capped_39 1 rfl ?_
    refine v_lshl C dX11_capped_40 ?_
    refine v_ldc2 C 20000 wd_1424 (by decide) dX11_capped_41 ?_
    refine v_lcmp C dX11_capped_44 ?_
    refine v_if_le C 51 dX11_capped_45 (by decide) (fun q => ?_) (fun q => ?_)
    · have h := h.1 q
      refine v_aload_n C dX11_capped_51 3 rfl ?_
      refine v_calli C (rn_V C _ (m_X11_forest h) mf_X11_forest wd_1452 wp_70 wd_1450 rfl rfl ⟨(Nat.le_of_ble_eq_true rfl), (Nat.le_of_ble_eq_true rfl)⟩ rfl rfl rfl rfl (Nat.le_of_ble_eq_true rfl) dX11_capped_52) (fun r w h => ?_)
      refine v_istore C [(5, _), (3, _), (2, _), (1, _), (0, _)] dX11_capped_55 (by decide) rfl ?_
      refine v_sipush C dX11_capped_57 (by decide) ?_
      refine v_istore C [(6, _), (5, _), (3, _), (2, _), (1, _), (0, _)] dX11_capped_60 (by decide) rfl ?_
      refine v_iconst C dX11_capped_62 ?_
      refine v_istore C [(7, _), (6, _), (5, _), (3, _), (2, _), (1, _), (0, _)] dX11_capped_63 (by decide) rfl ?_
      refine v_sub [6, 5, 4, 3, 2, 1, 0] rfl ?_
      obtain ⟨m, h⟩ := h
      exact t_X11_capped_l65 C R (t_X11_capped_b184 C R) m _ _ _ _ _ _ _ h
    · have h := h.2 q
      refine v_bipush C dX11_capped_48 (by decide) ?_
      exact v_iret C R h dX11_capped_50
abbrev rm_X11_ringLong : Room := { frames := 1, cells := 0, slots := 0, locals := 22 }
theorem mf_X11_ringLong : MfB yX11_ringLong cX11_ringLong 8 (some .int) 1 := ⟨wd_1465, wd_13, by decide, by decide, by decide +kernel⟩
def X11_ringLong_l24 (Q : Int → Wd → Prop) (e67 : Int → Int → Int → Int → Int → Wd → Prop) : Nat → Int → Int → Int → Int → Int → Int → Wd → Prop
  | 0 => fun _ _ _ _ _ _ _ => False
  | n + 1 => fun x1 x2 x3 x4 x5 x6 w => (ix 1 98 ∧ ((wr (rd w 73 1) ≤ wr x6 → e67 x1 x2 x3 x4 x5 w) ∧ (¬ wr (rd w 73 1) ≤ wr x6 → X11_has x1 x6 w (fun y2 w1 => ((wr y2 = 0 → (X11_ringLong_l24 Q e67 n) x1 x2 x3 x4 x5 (x6 + 1) w1) ∧ (¬ wr y2 = 0 → X11_otherEnd 73 x6 x4 w1 (fun y4 w3 => ((wr y4 < 0 → (X11_ringLong_l24 Q e67 n) x1 x2 x3 x4 x5 (x6 + 1) w3) ∧ (¬ wr y4 < 0 → (X11_ringLong_l24 Q e67 n) x1 x2 x3 x4 (x5 + 1) (x6 + 1) w3)))))))))
theorem t_X11_ringLong_l24 {Z : Zw} {E : Amb} {Q : Int → Wd → Prop} {e67 : Int → Int → Int → Int → Int → Wd → Prop} (C : Cx Z (adA Z) E cX11_ringLong "HandleFacesModel" 8 rm_X11_ringLong) (R : Rt Z E (some .int) (qI Z Q)) (he67 : ∀ (x1 : Int) (x2 : Int) (x3 : Int) (x4 : Int) (x5 : Int) (w : Wd), e67 x1 x2 x3 x4 x5 w → V Z (adA Z) E 8 w 67 [(0, rv Z 65), (1, iv x1), (2, iv x2), (3, iv x3), (4, iv x4), (5, iv x5)] []) : ∀ (n : Nat) (x1 : Int) (x2 : Int) (x3 : Int) (x4 : Int) (x5 : Int) (x6 : Int) (w : Wd), X11_ringLong_l24 Q e67 n x1 x2 x3 x4 x5 x6 w → V Z (adA Z) E 8 w 24 [(0, rv Z 65), (1, iv x1), (2, iv x2), (3, iv x3), (4, iv x4), (5, iv x5), (6, iv x6)] [] := by
  intro n
  induction n with
  | zero => intro x1 x2 x3 x4 x5 x6 w h; exact h.elim
  | succ n ih =>
    intro x1 x2 x3 x4 x5 x6 w h
    unfold X11_ringLong_l24 at h
    refine v_iload C dX11_ringLong_24 6 rfl ?_
    refine v_aload_n C dX11_ringLong_26 0 rfl ?_
    refine g_X11_now C wd_1087 dX11_ringLong_27 ?_
    refine v_iconst C dX11_ringLong_30 ?_
    refine v_iald C rfl h.1 dX11_ringLong_31 ?_
    have h := h.2
    refine v_icmp_ge C 67 dX11_ringLong_32 (by decide) (fun q => ?_) (fun q => ?_)
    · have h := h.1 q
      refine v_sub [0, 1, 2, 3, 4, 5] rfl ?_
      exact he67 _ _ _ _ _ _ h
    · have h := h.2 q
      refine v_iload_n C dX11_ringLong_35 1 rfl ?_
      refine v_iload C dX11_ringLong_36 6 rfl ?_
      refine v_calli C (rn_S C _ (m_X11_has h) mf_X11_has wd_1283 wd_1282 rfl rfl ⟨(Nat.le_of_ble_eq_true rfl), (Nat.le_of_ble_eq_true rfl)⟩ rfl rfl (Nat.le_of_ble_eq_true rfl) dX11_ringLong_38) (fun r w h => ?_)
      refine v_if_eq C 61 dX11_ringLong_41 (by decide) (fun q => ?_) (fun q => ?_)
      · have h := h.1 q
        refine v_iinc C [(6, _), (0, _), (1, _), (2, _), (3, _), (4, _), (5, _)] dX11_ringLong_61 6 rfl (by decide) rfl ?_
        refine v_goto C 24 dX11_ringLong_64 (by decide) ?_
        refine v_sub [1, 2, 3, 4, 5, 6, 0] rfl ?_
        exact ih _ _ _ _ _ _ _ h
      · have h := h.2 q
        refine v_aload_n C dX11_ringLong_44 0 rfl ?_
        refine g_X11_now C wd_1087 dX11_ringLong_45 ?_
        refine v_iload C dX11_ringLong_48 6 rfl ?_
        refine v_iload C dX11_ringLong_50 4 rfl ?_
        refine v_calli C (rn_S C _ (m_X11_otherEnd rfl h) mf_X11_otherEnd wd_1367 wd_1366 rfl rfl ⟨(Nat.le_of_ble_eq_true rfl), (Nat.le_of_ble_eq_true rfl)⟩ rfl rfl (Nat.le_of_ble_eq_true rfl) dX11_ringLong_52) (fun r w h => ?_)
        refine v_if_lt C 61 dX11_ringLong_55 (by decide) (fun q => ?_) (fun q => ?_)
        · have h := h.1 q
          refine v_iinc C [(6, _), (0, _), (1, _), (2, _), (3, _), (4, _), (5, _)] dX11_ringLong_61 6 rfl (by decide) rfl ?_
          refine v_goto C 24 dX11_ringLong_64 (by decide) ?_
          refine v_sub [1, 2, 3, 4, 5, 6, 0] rfl ?_
          exact ih _ _ _ _ _ _ _ h
        · have h := h.2 q
          refine v_iinc C [(5, _), (0, _), (1, _), (2, _), (3, _), (4, _), (6, _)] dX11_ringLong_58 5 rfl (by decide) rfl ?_
          refine v_iinc C [(6, _), (5, _), (0, _), (1, _), (2, _), (3, _), (4, _)] dX11_ringLong_61 6 rfl (by decide) rfl ?_
          refine v_goto C 24 dX11_ringLong_64 (by decide) ?_
          refine v_sub [2, 3, 4, 5, 6, 1, 0] rfl ?_
          exact ih _ _ _ _ _ _ _ h
def X11_ringLong_b80 (Q : Int → Wd → Prop) (c7 : Int → Int → Int → Int → Wd → Prop) (e78 : Wd → Prop) (e106 : Int → Int → Int → Wd → Prop) (x1 : Int) (x2 : Int) (x3 : Int) (x4 : Int) (x5 : Int) (w : Wd) : Prop := ((wr x5 = wr 2 → (∀ y6, y6 = (ior x3 (isl 1 x4)) → (∀ y7, y7 = (x2 + (idv x5 2)) → c7 x1 y7 y6 (x4 + 1) w))) ∧ (¬ wr x5 = wr 2 → (∀ y5, y5 = (x2 + (idv x5 2)) → c7 x1 y5 x3 (x4 + 1) w)))
theorem t_X11_ringLong_b80 {Z : Zw} {E : Amb} {Q : Int → Wd → Prop} {c7 : Int → Int → Int → Int → Wd → Prop} {e78 : Wd → Prop} {e106 : Int → Int → Int → Wd → Prop} (C : Cx Z (adA Z) E cX11_ringLong "HandleFacesModel" 8 rm_X11_ringLong) (R : Rt Z E (some .int) (qI Z Q)) (hc7 : ∀ (x1 : Int) (x2 : Int) (x3 : Int) (x4 : Int) (w : Wd), c7 x1 x2 x3 x4 w → V Z (adA Z) E 8 w 7 [(0, rv Z 65), (1, iv x1), (2, iv x2), (3, iv x3), (4, iv x4)] []) (he78 : ∀ (w : Wd), e78 w → V Z (adA Z) E 8 w 78 [] []) (he106 : ∀ (x1 : Int) (x2 : Int) (x3 : Int) (w : Wd), e106 x1 x2 x3 w → V Z (adA Z) E 8 w 106 [(0, rv Z 65), (1, iv x1), (2, iv x2), (3, iv x3)] []) : ∀ (x1 : Int) (x2 : Int) (x3 : Int) (x4 : Int) (x5 : Int) (w : Wd), X11_ringLong_b80 Q c7 e78 e106 x1 x2 x3 x4 x5 w → V Z (adA Z) E 8 w 80 [(0, rv Z 65), (1, iv x1), (2, iv x2), (3, iv x3), (4, iv x4), (5, iv x5)] [] := by
  intro x1 x2 x3 x4 x5 w h
  unfold X11_ringLong_b80 at h
  refine v_iload C dX11_ringLong_80 5 rfl ?_
  refine v_iconst C dX11_ringLong_82 ?_
  refine v_icmp_ne C 93 dX11_ringLong_83 (by decide) (fun q => ?_) (fun q => ?_)
  · have h := h.2 q
    refine v_iload_n C dX11_ringLong_93 2 rfl ?_
    refine v_iload C dX11_ringLong_94 5 rfl ?_
    refine v_iconst C dX11_ringLong_96 ?_
    refine v_idiv C dX11_ringLong_97 (by decide) ?_
    refine v_iadd C dX11_ringLong_98 ?_
    refine v_istore_n C [(2, _), (0, _), (1, _), (3, _), (4, _), (5, _)] dX11_ringLong_99 2 rfl (by decide) rfl ?_
    have h := h _ rfl
    refine v_iinc C [(4, _), (2, _), (0, _), (1, _), (3, _), (5, _)] dX11_ringLong_100 4 rfl (by decide) rfl ?_
    refine v_goto C 7 dX11_ringLong_103 (by decide) ?_
    refine v_sub [2, 3, 1, 4, 0] rfl ?_
    exact hc7 _ _ _ _ _ h
  · have h := h.1 q
    refine v_iload_n C dX11_ringLong_86 3 rfl ?_
    refine v_iconst C dX11_ringLong_87 ?_
    refine v_iload C dX11_ringLong_88 4 rfl ?_
    refine v_ishl C dX11_ringLong_90 ?_
    refine v_ior C dX11_ringLong_91 ?_
    refine v_istore_n C [(3, _), (0, _), (1, _), (2, _), (4, _), (5, _)] dX11_ringLong_92 3 rfl (by decide) rfl ?_
    have h := h _ rfl
    refine v_iload_n C dX11_ringLong_93 3 rfl ?_
    refine v_iload C dX11_ringLong_94 5 rfl ?_
    refine v_iconst C dX11_ringLong_96 ?_
    refine v_idiv C dX11_ringLong_97 (by decide) ?_
    refine v_iadd C dX11_ringLong_98 ?_
    refine v_istore_n C [(2, _), (3, _), (0, _), (1, _), (4, _), (5, _)] dX11_ringLong_99 2 rfl (by decide) rfl ?_
    have h := h _ rfl
    refine v_iinc C [(4, _), (2, _), (3, _), (0, _), (1, _), (5, _)] dX11_ringLong_100 4 rfl (by decide) rfl ?_
    refine v_goto C 7 dX11_ringLong_103 (by decide) ?_
    refine v_sub [3, 4, 1, 2, 0] rfl ?_
    exact hc7 _ _ _ _ _ h
def X11_ringLong_b67 (Q : Int → Wd → Prop) (c7 : Int → Int → Int → Int → Wd → Prop) (e78 : Wd → Prop) (e106 : Int → Int → Int → Wd → Prop) (x1 : Int) (x2 : Int) (x3 : Int) (x4 : Int) (x5 : Int) (w : Wd) : Prop := ((wr x5 = 0 → X11_ringLong_b80 Q c7 e78 e106 x1 x2 x3 x4 x5 w) ∧ (¬ wr x5 = 0 → ((wr x5 = wr 2 → X11_ringLong_b80 Q c7 e78 e106 x1 x2 x3 x4 x5 w) ∧ (¬ wr x5 = wr 2 → e78 w))))
theorem t_X11_ringLong_b67 {Z : Zw} {E : Amb} {Q : Int → Wd → Prop} {c7 : Int → Int → Int → Int → Wd → Prop} {e78 : Wd → Prop} {e106 : Int → Int → Int → Wd → Prop} (C : Cx Z (adA Z) E cX11_ringLong "HandleFacesModel" 8 rm_X11_ringLong) (R : Rt Z E (some .int) (qI Z Q)) (hc7 : ∀ (x1 : Int) (x2 : Int) (x3 : Int) (x4 : Int) (w : Wd), c7 x1 x2 x3 x4 w → V Z (adA Z) E 8 w 7 [(0, rv Z 65), (1, iv x1), (2, iv x2), (3, iv x3), (4, iv x4)] []) (he78 : ∀ (w : Wd), e78 w → V Z (adA Z) E 8 w 78 [] []) (he106 : ∀ (x1 : Int) (x2 : Int) (x3 : Int) (w : Wd), e106 x1 x2 x3 w → V Z (adA Z) E 8 w 106 [(0, rv Z 65), (1, iv x1), (2, iv x2), (3, iv x3)] []) : ∀ (x1 : Int) (x2 : Int) (x3 : Int) (x4 : Int) (x5 : Int) (w : Wd), X11_ringLong_b67 Q c7 e78 e106 x1 x2 x3 x4 x5 w → V Z (adA Z) E 8 w 67 [(0, rv Z 65), (1, iv x1), (2, iv x2), (3, iv x3), (4, iv x4), (5, iv x5)] [] := by
  intro x1 x2 x3 x4 x5 w h
  unfold X11_ringLong_b67 at h
  refine v_iload C dX11_ringLong_67 5 rfl ?_
  refine v_if_eq C 80 dX11_ringLong_69 (by decide) (fun q => ?_) (fun q => ?_)
  · have h := h.1 q
    exact t_X11_ringLong_b80 C R hc7 he78 he106 _ _ _ _ _ _ h
  · have h := h.2 q
    refine v_iload C dX11_ringLong_72 5 rfl ?_
    refine v_iconst C dX11_ringLong_74 ?_
    refine v_icmp_eq C 80 dX11_ringLong_75 (by decide) (fun q => ?_) (fun q => ?_)
    · have h := h.1 q
      exact t_X11_ringLong_b80 C R hc7 he78 he106 _ _ _ _ _ _ h
    · have h := h.2 q
      refine v_sub [] rfl ?_
      exact he78 _ h
def X11_ringLong_l7 (Q : Int → Wd → Prop) (e78 : Wd → Prop) (e106 : Int → Int → Int → Wd → Prop) : Nat → Int → Int → Int → Int → Wd → Prop
  | 0 => fun _ _ _ _ _ => False
  | n + 1 => fun x1 x2 x3 x4 w => (ix 0 98 ∧ ((wr (rd w 73 0) ≤ wr x4 → e106 x1 x2 x3 w) ∧ (¬ wr (rd w 73 0) ≤ wr x4 → (∃ m, X11_ringLong_l24 Q (X11_ringLong_b67 Q (X11_ringLong_l7 Q e78 e106 n) e78 e106) m x1 x2 x3 x4 0 0 w))))
theorem t_X11_ringLong_l7 {Z : Zw} {E : Amb} {Q : Int → Wd → Prop} {e78 : Wd → Prop} {e106 : Int → Int → Int → Wd → Prop} (C : Cx Z (adA Z) E cX11_ringLong "HandleFacesModel" 8 rm_X11_ringLong) (R : Rt Z E (some .int) (qI Z Q)) (he78 : ∀ (w : Wd), e78 w → V Z (adA Z) E 8 w 78 [] []) (he106 : ∀ (x1 : Int) (x2 : Int) (x3 : Int) (w : Wd), e106 x1 x2 x3 w → V Z (adA Z) E 8 w 106 [(0, rv Z 65), (1, iv x1), (2, iv x2), (3, iv x3)] []) : ∀ (n : Nat) (x1 : Int) (x2 : Int) (x3 : Int) (x4 : Int) (w : Wd), X11_ringLong_l7 Q e78 e106 n x1 x2 x3 x4 w → V Z (adA Z) E 8 w 7 [(0, rv Z 65), (1, iv x1), (2, iv x2), (3, iv x3), (4, iv x4)] [] := by
  intro n
  induction n with
  | zero => intro x1 x2 x3 x4 w h; exact h.elim
  | succ n ih =>
    intro x1 x2 x3 x4 w h
    unfold X11_ringLong_l7 at h
    refine v_iload C dX11_ringLong_7 4 rfl ?_
    refine v_aload_n C dX11_ringLong_9 0 rfl ?_
    refine g_X11_now C wd_1087 dX11_ringLong_10 ?_
    refine v_iconst C dX11_ringLong_13 ?_
    refine v_iald C rfl h.1 dX11_ringLong_14 ?_
    have h := h.2
    refine v_icmp_ge C 106 dX11_ringLong_15 (by decide) (fun q => ?_) (fun q => ?_)
    · have h := h.1 q
      refine v_sub [0, 1, 2, 3] rfl ?_
      exact he106 _ _ _ _ h
    · have h := h.2 q
      refine v_iconst C dX11_ringLong_18 ?_
      refine v_istore C [(5, _), (0, _), (1, _), (2, _), (3, _), (4, _)] dX11_ringLong_19 (by decide) rfl ?_
      refine v_iconst C dX11_ringLong_21 ?_
      refine v_istore C [(6, _), (5, _), (0, _), (1, _), (2, _), (3, _), (4, _)] dX11_ringLong_22 (by decide) rfl ?_
      refine v_sub [2, 3, 4, 5, 6, 1, 0] rfl ?_
      obtain ⟨m, h⟩ := h
      exact t_X11_ringLong_l24 C R (t_X11_ringLong_b67 C R ih he78 he106) m _ _ _ _ _ _ _ h
def X11_ringLong_b78 (Q : Int → Wd → Prop) (w : Wd) : Prop := Q (wr 0) w
theorem t_X11_ringLong_b78 {Z : Zw} {E : Amb} {Q : Int → Wd → Prop} (C : Cx Z (adA Z) E cX11_ringLong "HandleFacesModel" 8 rm_X11_ringLong) (R : Rt Z E (some .int) (qI Z Q)) : ∀ (w : Wd), X11_ringLong_b78 Q w → V Z (adA Z) E 8 w 78 [] [] := by
  intro w h
  unfold X11_ringLong_b78 at h
  refine v_iconst C dX11_ringLong_78 ?_
  exact v_iret C R h dX11_ringLong_79
def X11_ringLong_l129 (Q : Int → Wd → Prop) (e204 : Int → Int → Int → Int → Int → Wd → Prop) : Nat → Int → Int → Int → Int → Int → Int → Wd → Prop
  | 0 => fun _ _ _ _ _ _ _ => False
  | n + 1 => fun x1 x2 x3 x4 x5 x6 w => (ix 1 98 ∧ ((wr (rd w 73 1) ≤ wr x6 → e204 x1 x2 x3 x4 x5 w) ∧ (¬ wr (rd w 73 1) ≤ wr x6 → X11_has x1 x6 w (fun y10 w9 => ((wr y10 = 0 → (X11_ringLong_l129 Q e204 n) x1 x2 x3 x4 x5 (x6 + 1) w9) ∧ (¬ wr y10 = 0 → (ix (2 + (2 * x6)) 98 ∧ (ix ((2 + (2 * x6)) + 1) 98 ∧ (∀ y11, y11 = (ior (isl 1 (rd w9 73 (2 + (2 * x6)))) (isl 1 (rd w9 73 ((2 + (2 * x6)) + 1)))) → ((wr (ian x4 y11) = 0 → (X11_ringLong_l129 Q e204 n) x1 x2 x3 x4 x5 (x6 + 1) w9) ∧ (¬ wr (ian x4 y11) = 0 → (∀ y12, y12 = (ior x4 y11) → (X11_ringLong_l129 Q e204 n) x1 x2 x3 y12 x5 (x6 + 1) w9))))))))))))
theorem t_X11_ringLong_l129 {Z : Zw} {E : Amb} {Q : Int → Wd → Prop} {e204 : Int → Int → Int → Int → Int → Wd → Prop} (C : Cx Z (adA Z) E cX11_ringLong "HandleFacesModel" 8 rm_X11_ringLong) (R : Rt Z E (some .int) (qI Z Q)) (he204 : ∀ (x1 : Int) (x2 : Int) (x3 : Int) (x4 : Int) (x5 : Int) (w : Wd), e204 x1 x2 x3 x4 x5 w → V Z (adA Z) E 8 w 204 [(0, rv Z 65), (1, iv x1), (2, iv x2), (3, iv x3), (4, iv x4), (5, iv x5)] []) : ∀ (n : Nat) (x1 : Int) (x2 : Int) (x3 : Int) (x4 : Int) (x5 : Int) (x6 : Int) (w : Wd), X11_ringLong_l129 Q e204 n x1 x2 x3 x4 x5 x6 w → V Z (adA Z) E 8 w 129 [(0, rv Z 65), (1, iv x1), (2, iv x2), (3, iv x3), (4, iv x4), (5, iv x5), (6, iv x6)] [] := by
  intro n
  induction n with
  | zero => intro x1 x2 x3 x4 x5 x6 w h; exact h.elim
  | succ n ih =>
    intro x1 x2 x3 x4 x5 x6 w h
    unfold X11_ringLong_l129 at h
    refine v_iload C dX11_ringLong_129 6 rfl ?_
    refine v_aload_n C dX11_ringLong_131 0 rfl ?_
    refine g_X11_now C wd_1087 dX11_ringLong_132 ?_
    refine v_iconst C dX11_ringLong_135 ?_
    refine v_iald C rfl h.1 dX11_ringLong_136 ?_
    have h := h.2
    refine v_icmp_ge C 204 dX11_ringLong_137 (by decide) (fun q => ?_) (fun q => ?_)
    · have h := h.1 q
      refine v_sub [0, 1, 2, 3, 4, 5] rfl ?_
      exact he204 _ _ _ _ _ _ h
    · have h := h.2 q
      refine v_iload_n C dX11_ringLong_140 1 rfl ?_
      refine v_iload C dX11_ringLong_141 6 rfl ?_
      refine v_calli C (rn_S C _ (m_X11_has h) mf_X11_has wd_1283 wd_1282 rfl rfl ⟨(Nat.le_of_ble_eq_true rfl), (Nat.le_of_ble_eq_true rfl)⟩ rfl rfl (Nat.le_of_ble_eq_true rfl) dX11_ringLong_143) (fun r w h => ?_)
      refine v_if_ne C 152 dX11_ringLong_146 (by decide) (fun q => ?_) (fun q => ?_)
      · have h := h.2 q
        refine v_iconst C dX11_ringLong_152 ?_
        refine v_aload_n C dX11_ringLong_153 0 rfl ?_
        refine g_X11_now C wd_1087 dX11_ringLong_154 ?_
        refine v_iconst C dX11_ringLong_157 ?_
        refine v_iconst C dX11_ringLong_158 ?_
        refine v_iload C dX11_ringLong_159 6 rfl ?_
        refine v_imul C dX11_ringLong_161 ?_
        refine v_iadd C dX11_ringLong_162 ?_
        refine v_iald C rfl h.1 dX11_ringLong_163 ?_
        have h := h.2
        refine v_ishl C dX11_ringLong_164 ?_
        refine v_iconst C dX11_ringLong_165 ?_
        refine v_aload_n C dX11_ringLong_166 0 rfl ?_
        refine g_X11_now C wd_1087 dX11_ringLong_167 ?_
        refine v_iconst C dX11_ringLong_170 ?_
        refine v_iconst C dX11_ringLong_171 ?_
        refine v_iload C dX11_ringLong_172 6 rfl ?_
        refine v_imul C dX11_ringLong_174 ?_
        refine v_iadd C dX11_ringLong_175 ?_
        refine v_iconst C dX11_ringLong_176 ?_
        refine v_iadd C dX11_ringLong_177 ?_
        refine v_iald C rfl h.1 dX11_ringLong_178 ?_
        have h := h.2
        refine v_ishl C dX11_ringLong_179 ?_
        refine v_ior C dX11_ringLong_180 ?_
        refine v_istore C [(7, _), (0, _), (1, _), (2, _), (3, _), (4, _), (5, _), (6, _)] dX11_ringLong_181 (by decide) rfl ?_
        have h := h _ rfl
        refine v_iload C dX11_ringLong_183 5 rfl ?_
        refine v_iload C dX11_ringLong_185 0 rfl ?_
        refine v_iand C dX11_ringLong_187 ?_
        refine v_if_eq C 198 dX11_ringLong_188 (by decide) (fun q => ?_) (fun q => ?_)
        · have h := h.1 q
          refine v_iinc C [(6, _), (7, _), (0, _), (1, _), (2, _), (3, _), (4, _), (5, _)] dX11_ringLong_198 7 rfl (by decide) rfl ?_
          refine v_goto C 129 dX11_ringLong_201 (by decide) ?_
          refine v_sub [2, 3, 4, 5, 6, 7, 0] rfl ?_
          exact ih _ _ _ _ _ _ _ h
        · have h := h.2 q
          refine v_iload C dX11_ringLong_191 5 rfl ?_
          refine v_iload C dX11_ringLong_193 0 rfl ?_
          refine v_ior C dX11_ringLong_195 ?_
          refine v_istore C [(4, _), (7, _), (0, _), (1, _), (2, _), (3, _), (5, _), (6, _)] dX11_ringLong_196 (by decide) rfl ?_
          have h := h _ rfl
          refine v_iinc C [(6, _), (4, _), (7, _), (0, _), (1, _), (2, _), (3, _), (5, _)] dX11_ringLong_198 7 rfl (by decide) rfl ?_
          refine v_goto C 129 dX11_ringLong_201 (by decide) ?_
          refine v_sub [3, 4, 5, 6, 1, 7, 0] rfl ?_
          exact ih _ _ _ _ _ _ _ h
      · have h := h.1 q
        refine v_goto C 198 dX11_ringLong_149 (by decide) ?_
        refine v_iinc C [(6, _), (0, _), (1, _), (2, _), (3, _), (4, _), (5, _)] dX11_ringLong_198 6 rfl (by decide) rfl ?_
        refine v_goto C 129 dX11_ringLong_201 (by decide) ?_
        refine v_sub [1, 2, 3, 4, 5, 6, 0] rfl ?_
        exact ih _ _ _ _ _ _ _ h
def X11_ringLong_b204 (Q : Int → Wd → Prop) (c115 : Int → Int → Int → Int → Int → Wd → Prop) (e207 : Int → Int → Int → Wd → Prop) (x1 : Int) (x2 : Int) (x3 : Int) (x4 : Int) (x5 : Int) (w : Wd) : Prop := c115 x1 x2 x3 x4 x5 w
theorem t_X11_ringLong_b204 {Z : Zw} {E : Amb} {Q : Int → Wd → Prop} {c115 : Int → Int → Int → Int → Int → Wd → Prop} {e207 : Int → Int → Int → Wd → Prop} (C : Cx Z (adA Z) E cX11_ringLong "HandleFacesModel" 8 rm_X11_ringLong) (R : Rt Z E (some .int) (qI Z Q)) (hc115 : ∀ (x1 : Int) (x2 : Int) (x3 : Int) (x4 : Int) (x5 : Int) (w : Wd), c115 x1 x2 x3 x4 x5 w → V Z (adA Z) E 8 w 115 [(0, rv Z 65), (1, iv x1), (2, iv x2), (3, iv x3), (4, iv x4), (5, iv x5)] []) (he207 : ∀ (x2 : Int) (x3 : Int) (x4 : Int) (w : Wd), e207 x2 x3 x4 w → V Z (adA Z) E 8 w 207 [(2, iv x2), (3, iv x3), (4, iv x4)] []) : ∀ (x1 : Int) (x2 : Int) (x3 : Int) (x4 : Int) (x5 : Int) (w : Wd), X11_ringLong_b204 Q c115 e207 x1 x2 x3 x4 x5 w → V Z (adA Z) E 8 w 204 [(0, rv Z 65), (1, iv x1), (2, iv x2), (3, iv x3), (4, iv x4), (5, iv x5)] [] := by
  intro x1 x2 x3 x4 x5 w h
  unfold X11_ringLong_b204 at h
  refine v_goto C 115 dX11_ringLong_204 (by decide) ?_
  exact hc115 _ _ _ _ _ _ h
def X11_ringLong_l115 (Q : Int → Wd → Prop) (e207 : Int → Int → Int → Wd → Prop) : Nat → Int → Int → Int → Int → Int → Wd → Prop
  | 0 => fun _ _ _ _ _ _ => False
  | n + 1 => fun x1 x2 x3 x4 x5 w => ((wr x4 = wr x5 → e207 x2 x3 x4 w) ∧ (¬ wr x4 = wr x5 → (∃ m, X11_ringLong_l129 Q (X11_ringLong_b204 Q (X11_ringLong_l115 Q e207 n) e207) m x1 x2 x3 x4 x4 0 w)))
theorem t_X11_ringLong_l115 {Z : Zw} {E : Amb} {Q : Int → Wd → Prop} {e207 : Int → Int → Int → Wd → Prop} (C : Cx Z (adA Z) E cX11_ringLong "HandleFacesModel" 8 rm_X11_ringLong) (R : Rt Z E (some .int) (qI Z Q)) (he207 : ∀ (x2 : Int) (x3 : Int) (x4 : Int) (w : Wd), e207 x2 x3 x4 w → V Z (adA Z) E 8 w 207 [(2, iv x2), (3, iv x3), (4, iv x4)] []) : ∀ (n : Nat) (x1 : Int) (x2 : Int) (x3 : Int) (x4 : Int) (x5 : Int) (w : Wd), X11_ringLong_l115 Q e207 n x1 x2 x3 x4 x5 w → V Z (adA Z) E 8 w 115 [(0, rv Z 65), (1, iv x1), (2, iv x2), (3, iv x3), (4, iv x4), (5, iv x5)] [] := by
  intro n
  induction n with
  | zero => intro x1 x2 x3 x4 x5 w h; exact h.elim
  | succ n ih =>
    intro x1 x2 x3 x4 x5 w h
    unfold X11_ringLong_l115 at h
    refine v_iload C dX11_ringLong_115 4 rfl ?_
    refine v_iload C dX11_ringLong_117 5 rfl ?_
    refine v_icmp_eq C 207 dX11_ringLong_119 (by decide) (fun q => ?_) (fun q => ?_)
    · have h := h.1 q
      refine v_sub [2, 3, 4] rfl ?_
      exact he207 _ _ _ _ h
    · have h := h.2 q
      refine v_iload C dX11_ringLong_122 4 rfl ?_
      refine v_istore C [(5, _), (0, _), (1, _), (2, _), (3, _), (4, _)] dX11_ringLong_124 (by decide) rfl ?_
      refine v_iconst C dX11_ringLong_126 ?_
      refine v_istore C [(6, _), (5, _), (0, _), (1, _), (2, _), (3, _), (4, _)] dX11_ringLong_127 (by decide) rfl ?_
      refine v_sub [2, 3, 4, 5, 6, 1, 0] rfl ?_
      obtain ⟨m, h⟩ := h
      exact t_X11_ringLong_l129 C R (t_X11_ringLong_b204 C R ih he207) m _ _ _ _ _ _ _ h
def X11_ringLong_b207 (Q : Int → Wd → Prop) (x2 : Int) (x3 : Int) (x4 : Int) (w : Wd) : Prop := ((wr x4 = wr x3 → Q (wr x2) w) ∧ (¬ wr x4 = wr x3 → Q (wr 0) w))
theorem t_X11_ringLong_b207 {Z : Zw} {E : Amb} {Q : Int → Wd → Prop} (C : Cx Z (adA Z) E cX11_ringLong "HandleFacesModel" 8 rm_X11_ringLong) (R : Rt Z E (some .int) (qI Z Q)) : ∀ (x2 : Int) (x3 : Int) (x4 : Int) (w : Wd), X11_ringLong_b207 Q x2 x3 x4 w → V Z (adA Z) E 8 w 207 [(2, iv x2), (3, iv x3), (4, iv x4)] [] := by
  intro x2 x3 x4 w h
  unfold X11_ringLong_b207 at h
  refine v_iload C dX11_ringLong_207 2 rfl ?_
  refine v_iload_n C dX11_ringLong_209 1 rfl ?_
  refine v_icmp_ne C 217 dX11_ringLong_210 (by decide) (fun q => ?_) (fun q => ?_)
  · have h := h.2 q
    refine v_iconst C dX11_ringLong_217 ?_
    exact v_iret C R h dX11_ringLong_218
  · have h := h.1 q
    refine v_iload_n C dX11_ringLong_213 0 rfl ?_
    refine v_goto C 218 dX11_ringLong_214 (by decide) ?_
    exact v_iret C R h dX11_ringLong_218
def X11_ringLong_b106 (Q : Int → Wd → Prop) (x1 : Int) (x2 : Int) (x3 : Int) (w : Wd) : Prop := (∀ y8, y8 = (ian x3 (-x3)) → (∃ m, X11_ringLong_l115 Q (X11_ringLong_b207 Q) m x1 x2 x3 y8 0 w))
theorem t_X11_ringLong_b106 {Z : Zw} {E : Amb} {Q : Int → Wd → Prop} (C : Cx Z (adA Z) E cX11_ringLong "HandleFacesModel" 8 rm_X11_ringLong) (R : Rt Z E (some .int) (qI Z Q)) : ∀ (x1 : Int) (x2 : Int) (x3 : Int) (w : Wd), X11_ringLong_b106 Q x1 x2 x3 w → V Z (adA Z) E 8 w 106 [(0, rv Z 65), (1, iv x1), (2, iv x2), (3, iv x3)] [] := by
  intro x1 x2 x3 w h
  unfold X11_ringLong_b106 at h
  refine v_iload_n C dX11_ringLong_106 3 rfl ?_
  refine v_iload_n C dX11_ringLong_107 3 rfl ?_
  refine v_ineg C dX11_ringLong_108 ?_
  refine v_iand C dX11_ringLong_109 ?_
  refine v_istore C [(4, _), (0, _), (1, _), (2, _), (3, _)] dX11_ringLong_110 (by decide) rfl ?_
  have h := h _ rfl
  refine v_iconst C dX11_ringLong_112 ?_
  refine v_istore C [(5, _), (4, _), (0, _), (1, _), (2, _), (3, _)] dX11_ringLong_113 (by decide) rfl ?_
  refine v_sub [2, 3, 4, 5, 1, 0] rfl ?_
  obtain ⟨m, h⟩ := h
  exact t_X11_ringLong_l115 C R (t_X11_ringLong_b207 C R) m _ _ _ _ _ _ h
def X11_ringLong (x1 : Int) (w : Wd) (Q : Int → Wd → Prop) : Prop := (∃ m, X11_ringLong_l7 Q (X11_ringLong_b78 Q) (X11_ringLong_b106 Q) m x1 0 0 0 w)
theorem m_X11_ringLong {Z : Zw} {l : Launch} {x1 : Int} {w : Wd} {Q : Int → Wd → Prop} (h : X11_ringLong x1 w Q) : CtQ Z l yX11_ringLong cX11_ringLong 8 (some .int) rm_X11_ringLong [rv Z 65, iv x1] w (qI Z Q) := by
  refine ct_of (by decide) (Nat.le_of_ble_eq_true rfl) (fun E eE C R => ?_)
  subst eE
  have C : Cx Z (adA Z) E cX11_ringLong "HandleFacesModel" 8 rm_X11_ringLong := C
  unfold X11_ringLong at h
  show V Z (adA Z) E 8 w 0 [(0, rv Z 65), (1, iv x1)] []
  refine v_iconst C dX11_ringLong_0 ?_
  refine v_istore_n C [(2, _), (0, _), (1, _)] dX11_ringLong_1 2 rfl (by decide) rfl ?_
  refine v_iconst C dX11_ringLong_2 ?_
  refine v_istore_n C [(3, _), (2, _), (0, _), (1, _)] dX11_ringLong_3 3 rfl (by decide) rfl ?_
  refine v_iconst C dX11_ringLong_4 ?_
  refine v_istore C [(4, _), (3, _), (2, _), (0, _), (1, _)] dX11_ringLong_5 (by decide) rfl ?_
  refine v_sub [3, 4, 2, 1, 0] rfl ?_
  obtain ⟨m, h⟩ := h
  exact t_X11_ringLong_l7 C R (t_X11_ringLong_b78 C R) (t_X11_ringLong_b106 C R) m _ _ _ _ _ h
abbrev rm_X11_rings : Room := { frames := 2, cells := 0, slots := 0, locals := 49 }
theorem mf_X11_rings : MfB yX11_rings cX11_rings 3 (some .int) 0 := ⟨wd_1536, wd_13, by decide, by decide, by decide +kernel⟩
def X11_rings_l4 (Q : Int → Wd → Prop) (e33 : Int → Wd → Prop) : Nat → Int → Int → Wd → Prop
  | 0 => fun _ _ _ => False
  | n + 1 => fun x1 x2 w => (ix 1 98 ∧ ((wr (isl 1 (rd w 73 1)) ≤ wr x2 → e33 x1 w) ∧ (¬ wr (isl 1 (rd w 73 1)) ≤ wr x2 → X11_ringLong x2 w (fun y2 w1 => ((wr y2 ≤ 0 → (X11_rings_l4 Q e33 n) x1 (x2 + 1) w1) ∧ (¬ wr y2 ≤ 0 → (X11_rings_l4 Q e33 n) (x1 + 1) (x2 + 1) w1))))))
theorem t_X11_rings_l4 {Z : Zw} {E : Amb} {Q : Int → Wd → Prop} {e33 : Int → Wd → Prop} (C : Cx Z (adA Z) E cX11_rings "HandleFacesModel" 3 rm_X11_rings) (R : Rt Z E (some .int) (qI Z Q)) (he33 : ∀ (x1 : Int) (w : Wd), e33 x1 w → V Z (adA Z) E 3 w 33 [(1, iv x1)] []) : ∀ (n : Nat) (x1 : Int) (x2 : Int) (w : Wd), X11_rings_l4 Q e33 n x1 x2 w → V Z (adA Z) E 3 w 4 [(0, rv Z 65), (1, iv x1), (2, iv x2)] [] := by
  intro n
  induction n with
  | zero => intro x1 x2 w h; exact h.elim
  | succ n ih =>
    intro x1 x2 w h
    unfold X11_rings_l4 at h
    refine v_iload_n C dX11_rings_4 2 rfl ?_
    refine v_iconst C dX11_rings_5 ?_
    refine v_aload_n C dX11_rings_6 0 rfl ?_
    refine g_X11_now C wd_1087 dX11_rings_7 ?_
    refine v_iconst C dX11_rings_10 ?_
    refine v_iald C rfl h.1 dX11_rings_11 ?_
    have h := h.2
    refine v_ishl C dX11_rings_12 ?_
    refine v_icmp_ge C 33 dX11_rings_13 (by decide) (fun q => ?_) (fun q => ?_)
    · have h := h.1 q
      refine v_sub [1] rfl ?_
      exact he33 _ _ h
    · have h := h.2 q
      refine v_aload_n C dX11_rings_16 0 rfl ?_
      refine v_iload_n C dX11_rings_17 2 rfl ?_
      refine v_calli C (rn_V C _ (m_X11_ringLong h) mf_X11_ringLong wd_1464 wp_72 wd_1462 rfl rfl ⟨(Nat.le_of_ble_eq_true rfl), (Nat.le_of_ble_eq_true rfl)⟩ rfl rfl rfl rfl (Nat.le_of_ble_eq_true rfl) dX11_rings_18) (fun r w h => ?_)
      refine v_if_le C 27 dX11_rings_21 (by decide) (fun q => ?_) (fun q => ?_)
      · have h := h.1 q
        refine v_iinc C [(2, _), (0, _), (1, _)] dX11_rings_27 2 rfl (by decide) rfl ?_
        refine v_goto C 4 dX11_rings_30 (by decide) ?_
        refine v_sub [1, 2, 0] rfl ?_
        exact ih _ _ _ h
      · have h := h.2 q
        refine v_iinc C [(1, _), (0, _), (2, _)] dX11_rings_24 1 rfl (by decide) rfl ?_
        refine v_iinc C [(2, _), (1, _), (0, _)] dX11_rings_27 2 rfl (by decide) rfl ?_
        refine v_goto C 4 dX11_rings_30 (by decide) ?_
        refine v_sub [2, 1, 0] rfl ?_
        exact ih _ _ _ h
def X11_rings_b33 (Q : Int → Wd → Prop) (x1 : Int) (w : Wd) : Prop := Q (wr x1) w
theorem t_X11_rings_b33 {Z : Zw} {E : Amb} {Q : Int → Wd → Prop} (C : Cx Z (adA Z) E cX11_rings "HandleFacesModel" 3 rm_X11_rings) (R : Rt Z E (some .int) (qI Z Q)) : ∀ (x1 : Int) (w : Wd), X11_rings_b33 Q x1 w → V Z (adA Z) E 3 w 33 [(1, iv x1)] [] := by
  intro x1 w h
  unfold X11_rings_b33 at h
  refine v_iload_n C dX11_rings_33 0 rfl ?_
  exact v_iret C R h dX11_rings_34
def X11_rings (w : Wd) (Q : Int → Wd → Prop) : Prop := (∃ m, X11_rings_l4 Q (X11_rings_b33 Q) m 0 1 w)
theorem m_X11_rings {Z : Zw} {l : Launch} {w : Wd} {Q : Int → Wd → Prop} (h : X11_rings w Q) : CtQ Z l yX11_rings cX11_rings 3 (some .int) rm_X11_rings [rv Z 65] w (qI Z Q) := by
  refine ct_of (by decide) (Nat.le_of_ble_eq_true rfl) (fun E eE C R => ?_)
  subst eE
  have C : Cx Z (adA Z) E cX11_rings "HandleFacesModel" 3 rm_X11_rings := C
  unfold X11_rings at h
  show V Z (adA Z) E 3 w 0 [(0, rv Z 65)] []
  refine v_iconst C dX11_rings_0 ?_
  refine v_istore_n C [(1, _), (0, _)] dX11_rings_1 1 rfl (by decide) rfl ?_
  refine v_iconst C dX11_rings_2 ?_
  refine v_istore_n C [(2, _), (1, _), (0, _)] dX11_rings_3 2 rfl (by decide) rfl ?_
  refine v_sub [2, 1, 0] rfl ?_
  obtain ⟨m, h⟩ := h
  exact t_X11_rings_l4 C R (t_X11_rings_b33 C R) m _ _ _ h
abbrev rm_X11_girth : Room := { frames := 2, cells := 0, slots := 0, locals := 49 }
theorem mf_X11_girth : MfB yX11_girth cX11_girth 3 (some .int) 0 := ⟨wd_1461, wd_13, by decide, by decide, by decide +kernel⟩
def X11_girth_l5 (Q : Int → Wd → Prop) (e46 : Int → Wd → Prop) : Nat → Int → Int → Wd → Prop
  | 0 => fun _ _ _ => False
  | n + 1 => fun x1 x2 w => (ix 1 98 ∧ ((wr (isl 1 (rd w 73 1)) ≤ wr x2 → e46 x1 w) ∧ (¬ wr (isl 1 (rd w 73 1)) ≤ wr x2 → X11_ringLong x2 w (fun y2 w1 => ((wr y2 ≤ 0 → (X11_girth_l5 Q e46 n) x1 (x2 + 1) w1) ∧ (¬ wr y2 ≤ 0 → X11_ringLong x2 w1 (fun y4 w3 => ((wr x1 ≤ wr y4 → (X11_girth_l5 Q e46 n) x1 (x2 + 1) w3) ∧ (¬ wr x1 ≤ wr y4 → X11_ringLong x2 w3 (fun y6 w5 => (X11_girth_l5 Q e46 n) y6 (x2 + 1) w5))))))))))
theorem t_X11_girth_l5 {Z : Zw} {E : Amb} {Q : Int → Wd → Prop} {e46 : Int → Wd → Prop} (C : Cx Z (adA Z) E cX11_girth "HandleFacesModel" 3 rm_X11_girth) (R : Rt Z E (some .int) (qI Z Q)) (he46 : ∀ (x1 : Int) (w : Wd), e46 x1 w → V Z (adA Z) E 3 w 46 [(1, iv x1)] []) : ∀ (n : Nat) (x1 : Int) (x2 : Int) (w : Wd), X11_girth_l5 Q e46 n x1 x2 w → V Z (adA Z) E 3 w 5 [(0, rv Z 65), (1, iv x1), (2, iv x2)] [] := by
  intro n
  induction n with
  | zero => intro x1 x2 w h; exact h.elim
  | succ n ih =>
    intro x1 x2 w h
    unfold X11_girth_l5 at h
    refine v_iload_n C dX11_girth_5 2 rfl ?_
    refine v_iconst C dX11_girth_6 ?_
    refine v_aload_n C dX11_girth_7 0 rfl ?_
    refine g_X11_now C wd_1087 dX11_girth_8 ?_
    refine v_iconst C dX11_girth_11 ?_
    refine v_iald C rfl h.1 dX11_girth_12 ?_
    have h := h.2
    refine v_ishl C dX11_girth_13 ?_
    refine v_icmp_ge C 46 dX11_girth_14 (by decide) (fun q => ?_) (fun q => ?_)
    · have h := h.1 q
      refine v_sub [1] rfl ?_
      exact he46 _ _ h
    · have h := h.2 q
      refine v_aload_n C dX11_girth_17 0 rfl ?_
      refine v_iload_n C dX11_girth_18 2 rfl ?_
      refine v_calli C (rn_V C _ (m_X11_ringLong h) mf_X11_ringLong wd_1464 wp_72 wd_1462 rfl rfl ⟨(Nat.le_of_ble_eq_true rfl), (Nat.le_of_ble_eq_true rfl)⟩ rfl rfl rfl rfl (Nat.le_of_ble_eq_true rfl) dX11_girth_19) (fun r w h => ?_)
      refine v_if_le C 40 dX11_girth_22 (by decide) (fun q => ?_) (fun q => ?_)
      · have h := h.1 q
        refine v_iinc C [(2, _), (0, _), (1, _)] dX11_girth_40 2 rfl (by decide) rfl ?_
        refine v_goto C 5 dX11_girth_43 (by decide) ?_
        refine v_sub [1, 2, 0] rfl ?_
        exact ih _ _ _ h
      · have h := h.2 q
        refine v_aload_n C dX11_girth_25 0 rfl ?_
        refine v_iload_n C dX11_girth_26 2 rfl ?_
        refine v_calli C (rn_V C _ (m_X11_ringLong h) mf_X11_ringLong wd_1464 wp_72 wd_1462 rfl rfl ⟨(Nat.le_of_ble_eq_true rfl), (Nat.le_of_ble_eq_true rfl)⟩ rfl rfl rfl rfl (Nat.le_of_ble_eq_true rfl) dX11_girth_27) (fun r w h => ?_)
        refine v_iload_n C dX11_girth_30 1 rfl ?_
        refine v_icmp_ge C 40 dX11_girth_31 (by decide) (fun q => ?_) (fun q => ?_)
        · have h := h.1 q
          refine v_iinc C [(2, _), (0, _), (1, _)] dX11_girth_40 2 rfl (by decide) rfl ?_
          refine v_goto C 5 dX11_girth_43 (by decide) ?_
          refine v_sub [1, 2, 0] rfl ?_
          exact ih _ _ _ h
        · have h := h.2 q
          refine v_aload_n C dX11_girth_34 0 rfl ?_
          refine v_iload_n C dX11_girth_35 2 rfl ?_
          refine v_calli C (rn_V C _ (m_X11_ringLong h) mf_X11_ringLong wd_1464 wp_72 wd_1462 rfl rfl ⟨(Nat.le_of_ble_eq_true rfl), (Nat.le_of_ble_eq_true rfl)⟩ rfl rfl rfl rfl (Nat.le_of_ble_eq_true rfl) dX11_girth_36) (fun r w h => ?_)
          refine v_istore_n C [(1, _), (0, _), (2, _)] dX11_girth_39 1 rfl (by decide) rfl ?_
          refine v_iinc C [(2, _), (1, _), (0, _)] dX11_girth_40 2 rfl (by decide) rfl ?_
          refine v_goto C 5 dX11_girth_43 (by decide) ?_
          refine v_sub [2, 1, 0] rfl ?_
          exact ih _ _ _ h
def X11_girth_b46 (Q : Int → Wd → Prop) (x1 : Int) (w : Wd) : Prop := ((wr x1 = wr 100 → Q (wr (-2)) w) ∧ (¬ wr x1 = wr 100 → Q (wr x1) w))
theorem t_X11_girth_b46 {Z : Zw} {E : Amb} {Q : Int → Wd → Prop} (C : Cx Z (adA Z) E cX11_girth "HandleFacesModel" 3 rm_X11_girth) (R : Rt Z E (some .int) (qI Z Q)) : ∀ (x1 : Int) (w : Wd), X11_girth_b46 Q x1 w → V Z (adA Z) E 3 w 46 [(1, iv x1)] [] := by
  intro x1 w h
  unfold X11_girth_b46 at h
  refine v_iload_n C dX11_girth_46 0 rfl ?_
  refine v_bipush C dX11_girth_47 (by decide) ?_
  refine v_icmp_ne C 57 dX11_girth_49 (by decide) (fun q => ?_) (fun q => ?_)
  · have h := h.2 q
    refine v_iload_n C dX11_girth_57 0 rfl ?_
    exact v_iret C R h dX11_girth_58
  · have h := h.1 q
    refine v_bipush C dX11_girth_52 (by decide) ?_
    refine v_goto C 58 dX11_girth_54 (by decide) ?_
    exact v_iret C R h dX11_girth_58
def X11_girth (w : Wd) (Q : Int → Wd → Prop) : Prop := (∃ m, X11_girth_l5 Q (X11_girth_b46 Q) m 100 1 w)
theorem m_X11_girth {Z : Zw} {l : Launch} {w : Wd} {Q : Int → Wd → Prop} (h : X11_girth w Q) : CtQ Z l yX11_girth cX11_girth 3 (some .int) rm_X11_girth [rv Z 65] w (qI Z Q) := by
  refine ct_of (by decide) (Nat.le_of_ble_eq_true rfl) (fun E eE C R => ?_)
  subst eE
  have C : Cx Z (adA Z) E cX11_girth "HandleFacesModel" 3 rm_X11_girth := C
  unfold X11_girth at h
  show V Z (adA Z) E 3 w 0 [(0, rv Z 65)] []
  refine v_bipush C dX11_girth_0 (by decide) ?_
  refine v_istore_n C [(1, _), (0, _)] dX11_girth_2 1 rfl (by decide) rfl ?_
  refine v_iconst C dX11_girth_3 ?_
  refine v_istore_n C [(2, _), (1, _), (0, _)] dX11_girth_4 2 rfl (by decide) rfl ?_
  refine v_sub [2, 1, 0] rfl ?_
  obtain ⟨m, h⟩ := h
  exact t_X11_girth_l5 C R (t_X11_girth_b46 C R) m _ _ _ h
abbrev rm_X11_bound : Room := { frames := 3, cells := 0, slots := 0, locals := 71 }
theorem mf_X11_bound : MfB yX11_bound cX11_bound 4 (some .int) 1 := ⟨wd_1457, wd_13, by decide, by decide, by decide +kernel⟩
def X11_bound (x1 : Int) (w : Wd) (Q : Int → Wd → Prop) : Prop := X11_in x1 0 1 w (fun y2 w1 => ((wr y2 = 0 → Q (wr (-1)) w1) ∧ (¬ wr y2 = 0 → X11_girth w1 (fun y4 w3 => ((wr x1 = wr 1 → Q (wr y4) w3) ∧ (¬ wr x1 = wr 1 → ((wr y4 < 0 → Q (wr 0) w3) ∧ (¬ wr y4 < 0 → X11_partsOf 73 w3 (fun y6 w5 => ((wr y6 = wr 1 → (ix 0 98 ∧ (ix 1 98 ∧ (ix 1 98 ∧ (¬ wr y4 = 0 ∧ (∀ y7, y7 = (((2 - (rd w5 73 0)) + (rd w5 73 1)) - (idv (2 * (rd w5 73 1)) y4)) → ((0 < wr y7 → Q (wr (idv (y7 + 1) 2)) w5) ∧ (¬ 0 < wr y7 → Q (wr 0) w5)))))))) ∧ (¬ wr y6 = wr 1 → Q (wr 0) w5)))))))))))
theorem m_X11_bound {Z : Zw} {l : Launch} {x1 : Int} {w : Wd} {Q : Int → Wd → Prop} (h : X11_bound x1 w Q) : CtQ Z l yX11_bound cX11_bound 4 (some .int) rm_X11_bound [rv Z 65, iv x1] w (qI Z Q) := by
  refine ct_of (by decide) (Nat.le_of_ble_eq_true rfl) (fun E eE C R => ?_)
  subst eE
  have C : Cx Z (adA Z) E cX11_bound "HandleFacesModel" 4 rm_X11_bound := C
  unfold X11_bound at h
  show V Z (adA Z) E 4 w 0 [(0, rv Z 65), (1, iv x1)] []
  refine v_iload_n C dX11_bound_0 1 rfl ?_
  refine v_iconst C dX11_bound_1 ?_
  refine v_iconst C dX11_bound_2 ?_
  refine v_calli C (rn_S C _ (m_X11_in h) mf_X11_in wd_1298 wd_1297 rfl rfl ⟨(Nat.le_of_ble_eq_true rfl), (Nat.le_of_ble_eq_true rfl)⟩ rfl rfl (Nat.le_of_ble_eq_true rfl) dX11_bound_3) (fun r w h => ?_)
  refine v_if_ne C 11 dX11_bound_6 (by decide) (fun q => ?_) (fun q => ?_)
  · have h := h.2 q
    refine v_aload_n C dX11_bound_11 0 rfl ?_
    refine v_calli C (rn_V C _ (m_X11_girth h) mf_X11_girth wd_1460 wp_71 wd_1458 rfl rfl ⟨(Nat.le_of_ble_eq_true rfl), (Nat.le_of_ble_eq_true rfl)⟩ rfl rfl rfl rfl (Nat.le_of_ble_eq_true rfl) dX11_bound_12) (fun r w h => ?_)
    refine v_istore_n C [(2, _), (0, _), (1, _)] dX11_bound_15 2 rfl (by decide) rfl ?_
    refine v_iload_n C dX11_bound_16 2 rfl ?_
    refine v_iconst C dX11_bound_17 ?_
    refine v_icmp_ne C 23 dX11_bound_18 (by decide) (fun q => ?_) (fun q => ?_)
    · have h := h.2 q
      refine v_iload_n C dX11_bound_23 0 rfl ?_
      refine v_if_lt C 39 dX11_bound_24 (by decide) (fun q => ?_) (fun q => ?_)
      · have h := h.1 q
        refine v_iconst C dX11_bound_39 ?_
        exact v_iret C R h dX11_bound_40
      · have h := h.2 q
        refine v_aload_n C dX11_bound_27 1 rfl ?_
        refine v_aload_n C dX11_bound_28 1 rfl ?_
        refine g_X11_now C wd_1087 dX11_bound_29 ?_
        refine v_calli C (rn_V C _ (m_X11_partsOf rfl h) mf_X11_partsOf wd_1398 wp_63 wd_1396 rfl rfl ⟨(Nat.le_of_ble_eq_true rfl), (Nat.le_of_ble_eq_true rfl)⟩ rfl rfl rfl rfl (Nat.le_of_ble_eq_true rfl) dX11_bound_32) (fun r w h => ?_)
        refine v_iconst C dX11_bound_35 ?_
        refine v_icmp_eq C 41 dX11_bound_36 (by decide) (fun q => ?_) (fun q => ?_)
        · have h := h.1 q
          refine v_iconst C dX11_bound_41 ?_
          refine v_aload_n C dX11_bound_42 1 rfl ?_
          refine g_X11_now C wd_1087 dX11_bound_43 ?_
          refine v_iconst C dX11_bound_46 ?_
          refine v_iald C rfl h.1 dX11_bound_47 ?_
          have h := h.2
          refine v_isub C dX11_bound_48 ?_
          refine v_aload_n C dX11_bound_49 1 rfl ?_
          refine g_X11_now C wd_1087 dX11_bound_50 ?_
          refine v_iconst C dX11_bound_53 ?_
          refine v_iald C rfl h.1 dX11_bound_54 ?_
          have h := h.2
          refine v_iadd C dX11_bound_55 ?_
          refine v_iconst C dX11_bound_56 ?_
          refine v_aload_n C dX11_bound_57 1 rfl ?_
          refine g_X11_now C wd_1087 dX11_bound_58 ?_
          refine v_iconst C dX11_bound_61 ?_
          refine v_iald C rfl h.1 dX11_bound_62 ?_
          have h := h.2
          refine v_imul C dX11_bound_63 ?_
          refine v_iload_n C dX11_bound_64 0 rfl ?_
          refine v_idiv C dX11_bound_65 h.1 ?_
          have h := h.2
          refine v_isub C dX11_bound_66 ?_
          refine v_istore_n C [(3, _), (2, _), (0, _), (1, _)] dX11_bound_67 3 rfl (by decide) rfl ?_
          have h := h _ rfl
          refine v_iload_n C dX11_bound_68 0 rfl ?_
          refine v_if_gt C 76 dX11_bound_69 (by decide) (fun q => ?_) (fun q => ?_)
          · have h := h.1 q
            refine v_iload_n C dX11_bound_76 0 rfl ?_
            refine v_iconst C dX11_bound_77 ?_
            refine v_iadd C dX11_bound_78 ?_
            refine v_iconst C dX11_bound_79 ?_
            refine v_idiv C dX11_bound_80 (by decide) ?_
            exact v_iret C R h dX11_bound_81
          · have h := h.2 q
            refine v_iconst C dX11_bound_72 ?_
            refine v_goto C 81 dX11_bound_73 (by decide) ?_
            exact v_iret C R h dX11_bound_81
        · have h := h.2 q
          refine v_iconst C dX11_bound_39 ?_
          exact v_iret C R h dX11_bound_40
    · have h := h.1 q
      refine v_iload_n C dX11_bound_21 0 rfl ?_
      exact v_iret C R h dX11_bound_22
  · have h := h.1 q
    refine v_iconst C dX11_bound_9 ?_
    exact v_iret C R h dX11_bound_10
abbrev rm_X11_without : Room := { frames := 4, cells := 0, slots := 0, locals := 97 }
theorem mf_X11_without : MfB yX11_without cX11_without 4 (some .int) 2 := ⟨wd_1469, wd_13, by decide, by decide, by decide +kernel⟩
def X11_without_l23 (Q : Int → Wd → Prop) (e47 : Int → Int → Wd → Prop) : Nat → Int → Int → Int → Wd → Prop
  | 0 => fun _ _ _ _ => False
  | n + 1 => fun x1 x2 x3 w => ((wr 98 ≤ wr x3 → e47 x1 x2 w) ∧ (¬ wr 98 ≤ wr x3 → (ix x3 98 ∧ (ix x3 98 ∧ (∀ w5, w5 = wt w 83 x3 (rd w 73 x3) → (X11_without_l23 Q e47 n) x1 x2 (x3 + 1) w5)))))
theorem t_X11_without_l23 {Z : Zw} {E : Amb} {Q : Int → Wd → Prop} {e47 : Int → Int → Wd → Prop} (C : Cx Z (adA Z) E cX11_without "HandleFacesModel" 4 rm_X11_without) (R : Rt Z E (some .int) (qI Z Q)) (he47 : ∀ (x1 : Int) (x2 : Int) (w : Wd), e47 x1 x2 w → V Z (adA Z) E 4 w 47 [(0, rv Z 65), (1, iv x1), (2, iv x2)] []) : ∀ (n : Nat) (x1 : Int) (x2 : Int) (x3 : Int) (w : Wd), X11_without_l23 Q e47 n x1 x2 x3 w → V Z (adA Z) E 4 w 23 [(0, rv Z 65), (1, iv x1), (2, iv x2), (3, iv x3)] [] := by
  intro n
  induction n with
  | zero => intro x1 x2 x3 w h; exact h.elim
  | succ n ih =>
    intro x1 x2 x3 w h
    unfold X11_without_l23 at h
    refine v_iload_n C dX11_without_23 3 rfl ?_
    refine v_bipush C dX11_without_24 (by decide) ?_
    refine v_icmp_ge C 47 dX11_without_26 (by decide) (fun q => ?_) (fun q => ?_)
    · have h := h.1 q
      refine v_sub [0, 1, 2] rfl ?_
      exact he47 _ _ _ h
    · have h := h.2 q
      refine v_aload_n C dX11_without_29 0 rfl ?_
      refine g_X11_tried C wd_1101 dX11_without_30 ?_
      refine v_iload_n C dX11_without_33 3 rfl ?_
      refine v_aload_n C dX11_without_34 0 rfl ?_
      refine g_X11_now C wd_1087 dX11_without_35 ?_
      refine v_iload_n C dX11_without_38 3 rfl ?_
      refine v_iald C rfl h.1 dX11_without_39 ?_
      have h := h.2
      refine v_iast C rfl h.1 dX11_without_40 ?_
      have h := h.2
      have h := h _ rfl
      refine v_iinc C [(3, _), (0, _), (1, _), (2, _)] dX11_without_41 3 rfl (by decide) rfl ?_
      refine v_goto C 23 dX11_without_44 (by decide) ?_
      refine v_sub [1, 2, 3, 0] rfl ?_
      exact ih _ _ _ _ h
def X11_without_b47 (Q : Int → Wd → Prop) (x1 : Int) (x2 : Int) (w : Wd) : Prop := X11_takesOut 83 x1 w (fun w6 => ((wr x2 = 0 → X11_traces 83 w6 (fun y12 w11 => Q (wr y12) w11)) ∧ (¬ wr x2 = 0 → ((wr x2 = wr 1 → X11_partsOf 83 w6 (fun y10 w9 => Q (wr y10) w9)) ∧ (¬ wr x2 = wr 1 → X11_euler 83 w6 (fun y8 w7 => Q (wr y8) w7))))))
theorem t_X11_without_b47 {Z : Zw} {E : Amb} {Q : Int → Wd → Prop} (C : Cx Z (adA Z) E cX11_without "HandleFacesModel" 4 rm_X11_without) (R : Rt Z E (some .int) (qI Z Q)) : ∀ (x1 : Int) (x2 : Int) (w : Wd), X11_without_b47 Q x1 x2 w → V Z (adA Z) E 4 w 47 [(0, rv Z 65), (1, iv x1), (2, iv x2)] [] := by
  intro x1 x2 w h
  unfold X11_without_b47 at h
  refine v_aload_n C dX11_without_47 0 rfl ?_
  refine g_X11_tried C wd_1101 dX11_without_48 ?_
  refine v_iload_n C dX11_without_51 1 rfl ?_
  refine v_callv C (rn_S C _ (m_X11_takesOut rfl h) mf_X11_takesOut wd_1332 wd_1331 rfl rfl ⟨(Nat.le_of_ble_eq_true rfl), (Nat.le_of_ble_eq_true rfl)⟩ rfl rfl (Nat.le_of_ble_eq_true rfl) dX11_without_52) (fun w h => ?_)
  refine v_iload_n C dX11_without_55 2 rfl ?_
  refine v_if_ne C 70 dX11_without_56 (by decide) (fun q => ?_) (fun q => ?_)
  · have h := h.2 q
    refine v_iload_n C dX11_without_70 2 rfl ?_
    refine v_iconst C dX11_without_71 ?_
    refine v_icmp_ne C 86 dX11_without_72 (by decide) (fun q => ?_) (fun q => ?_)
    · have h := h.2 q
      refine v_aload_n C dX11_without_86 0 rfl ?_
      refine v_aload_n C dX11_without_87 0 rfl ?_
      refine g_X11_tried C wd_1101 dX11_without_88 ?_
      refine v_calli C (rn_V C _ (m_X11_euler rfl h) mf_X11_euler wd_1402 wp_64 wd_1400 rfl rfl ⟨(Nat.le_of_ble_eq_true rfl), (Nat.le_of_ble_eq_true rfl)⟩ rfl rfl rfl rfl (Nat.le_of_ble_eq_true rfl) dX11_without_91) (fun r w h => ?_)
      exact v_iret C R h dX11_without_94
    · have h := h.1 q
      refine v_aload_n C dX11_without_75 0 rfl ?_
      refine v_aload_n C dX11_without_76 0 rfl ?_
      refine g_X11_tried C wd_1101 dX11_without_77 ?_
      refine v_calli C (rn_V C _ (m_X11_partsOf rfl h) mf_X11_partsOf wd_1398 wp_63 wd_1396 rfl rfl ⟨(Nat.le_of_ble_eq_true rfl), (Nat.le_of_ble_eq_true rfl)⟩ rfl rfl rfl rfl (Nat.le_of_ble_eq_true rfl) dX11_without_80) (fun r w h => ?_)
      refine v_goto C 94 dX11_without_83 (by decide) ?_
      exact v_iret C R h dX11_without_94
  · have h := h.1 q
    refine v_aload_n C dX11_without_59 0 rfl ?_
    refine v_aload_n C dX11_without_60 0 rfl ?_
    refine g_X11_tried C wd_1101 dX11_without_61 ?_
    refine v_calli C (rn_V C _ (m_X11_traces rfl h) mf_X11_traces wd_1375 wp_62 wd_1373 rfl rfl ⟨(Nat.le_of_ble_eq_true rfl), (Nat.le_of_ble_eq_true rfl)⟩ rfl rfl rfl rfl (Nat.le_of_ble_eq_true rfl) dX11_without_64) (fun r w h => ?_)
    refine v_goto C 94 dX11_without_67 (by decide) ?_
    exact v_iret C R h dX11_without_94
def X11_without (x1 : Int) (x2 : Int) (w : Wd) (Q : Int → Wd → Prop) : Prop := X11_isLine x1 w (fun y2 w1 => ((wr y2 = 0 → Q (wr (-100000)) w1) ∧ (¬ wr y2 = 0 → X11_in x2 0 2 w1 (fun y4 w3 => ((wr y4 = 0 → Q (wr (-100000)) w3) ∧ (¬ wr y4 = 0 → (∃ m, X11_without_l23 Q (X11_without_b47 Q) m x1 x2 0 w3)))))))
theorem m_X11_without {Z : Zw} {l : Launch} {x1 : Int} {x2 : Int} {w : Wd} {Q : Int → Wd → Prop} (h : X11_without x1 x2 w Q) : CtQ Z l yX11_without cX11_without 4 (some .int) rm_X11_without [rv Z 65, iv x1, iv x2] w (qI Z Q) := by
  refine ct_of (by decide) (Nat.le_of_ble_eq_true rfl) (fun E eE C R => ?_)
  subst eE
  have C : Cx Z (adA Z) E cX11_without "HandleFacesModel" 4 rm_X11_without := C
  unfold X11_without at h
  show V Z (adA Z) E 4 w 0 [(0, rv Z 65), (1, iv x1), (2, iv x2)] []
  refine v_aload_n C dX11_without_0 0 rfl ?_
  refine v_iload_n C dX11_without_1 1 rfl ?_
  refine v_calli C (rn_V C _ (m_X11_isLine h) mf_X11_isLine wd_1329 wp_60 wd_1327 rfl rfl ⟨(Nat.le_of_ble_eq_true rfl), (Nat.le_of_ble_eq_true rfl)⟩ rfl rfl rfl rfl (Nat.le_of_ble_eq_true rfl) dX11_without_2) (fun r w h => ?_)
  refine v_if_eq C 17 dX11_without_5 (by decide) (fun q => ?_) (fun q => ?_)
  · have h := h.1 q
    refine v_ldcw C (-100000) wd_1395 (by decide) dX11_without_17 ?_
    exact v_iret C R h dX11_without_20
  · have h := h.2 q
    refine v_iload_n C dX11_without_8 2 rfl ?_
    refine v_iconst C dX11_without_9 ?_
    refine v_iconst C dX11_without_10 ?_
    refine v_calli C (rn_S C _ (m_X11_in h) mf_X11_in wd_1298 wd_1297 rfl rfl ⟨(Nat.le_of_ble_eq_true rfl), (Nat.le_of_ble_eq_true rfl)⟩ rfl rfl (Nat.le_of_ble_eq_true rfl) dX11_without_11) (fun r w h => ?_)
    refine v_if_ne C 21 dX11_without_14 (by decide) (fun q => ?_) (fun q => ?_)
    · have h := h.2 q
      refine v_iconst C dX11_without_21 ?_
      refine v_istore_n C [(3, _), (0, _), (1, _), (2, _)] dX11_without_22 3 rfl (by decide) rfl ?_
      refine v_sub [1, 2, 3, 0] rfl ?_
      obtain ⟨m, h⟩ := h
      exact t_X11_without_l23 C R (t_X11_without_b47 C R) m _ _ _ _ h
    · have h := h.1 q
      refine v_ldcw C (-100000) wd_1395 (by decide) dX11_without_17 ?_
      exact v_iret C R h dX11_without_20
abbrev rm_X11_laysBesides : Room := { frames := 3, cells := 0, slots := 0, locals := 76 }
theorem mf_X11_laysBesides : MfB yX11_laysBesides cX11_laysBesides 5 (some .int) 0 := ⟨wd_1477, wd_13, by decide, by decide, by decide +kernel⟩
def X11_laysBesides_l11 (Q : Int → Wd → Prop) (e29 : Int → Wd → Prop) : Nat → Int → Int → Wd → Prop
  | 0 => fun _ _ _ => False
  | n + 1 => fun x1 x2 w => ((wr x1 ≤ wr x2 → e29 x1 w) ∧ (¬ wr x1 ≤ wr x2 → (ix x2 30 ∧ (∀ w3, w3 = wt w 85 x2 0 → (X11_laysBesides_l11 Q e29 n) x1 (x2 + 1) w3))))
theorem t_X11_laysBesides_l11 {Z : Zw} {E : Amb} {Q : Int → Wd → Prop} {e29 : Int → Wd → Prop} (C : Cx Z (adA Z) E cX11_laysBesides "HandleFacesModel" 5 rm_X11_laysBesides) (R : Rt Z E (some .int) (qI Z Q)) (he29 : ∀ (x1 : Int) (w : Wd), e29 x1 w → V Z (adA Z) E 5 w 29 [(0, rv Z 65), (1, iv x1)] []) : ∀ (n : Nat) (x1 : Int) (x2 : Int) (w : Wd), X11_laysBesides_l11 Q e29 n x1 x2 w → V Z (adA Z) E 5 w 11 [(0, rv Z 65), (1, iv x1), (2, iv x2)] [] := by
  intro n
  induction n with
  | zero => intro x1 x2 w h; exact h.elim
  | succ n ih =>
    intro x1 x2 w h
    unfold X11_laysBesides_l11 at h
    refine v_iload_n C dX11_laysBesides_11 2 rfl ?_
    refine v_iload_n C dX11_laysBesides_12 1 rfl ?_
    refine v_icmp_ge C 29 dX11_laysBesides_13 (by decide) (fun q => ?_) (fun q => ?_)
    · have h := h.1 q
      refine v_sub [0, 1] rfl ?_
      exact he29 _ _ h
    · have h := h.2 q
      refine v_aload_n C dX11_laysBesides_16 0 rfl ?_
      refine g_X11_besides C wd_1106 dX11_laysBesides_17 ?_
      refine v_iload_n C dX11_laysBesides_20 2 rfl ?_
      refine v_iconst C dX11_laysBesides_21 ?_
      refine v_iast C rfl h.1 dX11_laysBesides_22 ?_
      have h := h.2
      have h := h _ rfl
      refine v_iinc C [(2, _), (0, _), (1, _)] dX11_laysBesides_23 2 rfl (by decide) rfl ?_
      refine v_goto C 11 dX11_laysBesides_26 (by decide) ?_
      refine v_sub [1, 2, 0] rfl ?_
      exact ih _ _ _ h
def X11_laysBesides_l31 (Q : Int → Wd → Prop) (e95 : Int → Wd → Prop) : Nat → Int → Int → Wd → Prop
  | 0 => fun _ _ _ => False
  | n + 1 => fun x1 x2 w => (ix 1 98 ∧ ((wr (rd w 73 1) ≤ wr x2 → e95 x1 w) ∧ (¬ wr (rd w 73 1) ≤ wr x2 → (ix (2 * x2) 40 ∧ (∀ y4, y4 = (rd w 79 (2 * x2)) → (ix ((2 * x2) + 20) 40 ∧ (∀ y5, y5 = (rd w 79 ((2 * x2) + 20)) → (ix y4 30 ∧ (ix y4 30 ∧ (∀ w6, w6 = wt w 85 y4 (ior (rd w 85 y4) (isl 1 y5)) → (ix y5 30 ∧ (ix y5 30 ∧ (∀ w7, w7 = wt w6 85 y5 (ior (rd w6 85 y5) (isl 1 y4)) → (X11_laysBesides_l31 Q e95 n) x1 (x2 + 1) w7)))))))))))))
theorem t_X11_laysBesides_l31 {Z : Zw} {E : Amb} {Q : Int → Wd → Prop} {e95 : Int → Wd → Prop} (C : Cx Z (adA Z) E cX11_laysBesides "HandleFacesModel" 5 rm_X11_laysBesides) (R : Rt Z E (some .int) (qI Z Q)) (he95 : ∀ (x1 : Int) (w : Wd), e95 x1 w → V Z (adA Z) E 5 w 95 [(1, iv x1)] []) : ∀ (n : Nat) (x1 : Int) (x2 : Int) (w : Wd), X11_laysBesides_l31 Q e95 n x1 x2 w → V Z (adA Z) E 5 w 31 [(0, rv Z 65), (1, iv x1), (2, iv x2)] [] := by
  intro n
  induction n with
  | zero => intro x1 x2 w h; exact h.elim
  | succ n ih =>
    intro x1 x2 w h
    unfold X11_laysBesides_l31 at h
    refine v_iload_n C dX11_laysBesides_31 2 rfl ?_
    refine v_aload_n C dX11_laysBesides_32 0 rfl ?_
    refine g_X11_now C wd_1087 dX11_laysBesides_33 ?_
    refine v_iconst C dX11_laysBesides_36 ?_
    refine v_iald C rfl h.1 dX11_laysBesides_37 ?_
    have h := h.2
    refine v_icmp_ge C 95 dX11_laysBesides_38 (by decide) (fun q => ?_) (fun q => ?_)
    · have h := h.1 q
      refine v_sub [1] rfl ?_
      exact he95 _ _ h
    · have h := h.2 q
      refine v_aload_n C dX11_laysBesides_41 0 rfl ?_
      refine g_X11_faceAt C wd_1097 dX11_laysBesides_42 ?_
      refine v_iconst C dX11_laysBesides_45 ?_
      refine v_iload_n C dX11_laysBesides_46 2 rfl ?_
      refine v_imul C dX11_laysBesides_47 ?_
      refine v_iald C rfl h.1 dX11_laysBesides_48 ?_
      have h := h.2
      refine v_istore_n C [(3, _), (0, _), (1, _), (2, _)] dX11_laysBesides_49 3 rfl (by decide) rfl ?_
      have h := h _ rfl
      refine v_aload_n C dX11_laysBesides_50 1 rfl ?_
      refine g_X11_faceAt C wd_1097 dX11_laysBesides_51 ?_
      refine v_iconst C dX11_laysBesides_54 ?_
      refine v_iload_n C dX11_laysBesides_55 3 rfl ?_
      refine v_imul C dX11_laysBesides_56 ?_
      refine v_bipush C dX11_laysBesides_57 (by decide) ?_
      refine v_iadd C dX11_laysBesides_59 ?_
      refine v_iald C rfl h.1 dX11_laysBesides_60 ?_
      have h := h.2
      refine v_istore C [(4, _), (3, _), (0, _), (1, _), (2, _)] dX11_laysBesides_61 (by decide) rfl ?_
      have h := h _ rfl
      refine v_aload_n C dX11_laysBesides_63 2 rfl ?_
      refine g_X11_besides C wd_1106 dX11_laysBesides_64 ?_
      refine v_iload_n C dX11_laysBesides_67 1 rfl ?_
      refine v_dup2 C dX11_laysBesides_68 rfl rfl ?_
      refine v_iald C rfl h.1 dX11_laysBesides_69 ?_
      have h := h.2
      refine v_iconst C dX11_laysBesides_70 ?_
      refine v_iload C dX11_laysBesides_71 0 rfl ?_
      refine v_ishl C dX11_laysBesides_73 ?_
      refine v_ior C dX11_laysBesides_74 ?_
      refine v_iast C rfl h.1 dX11_laysBesides_75 ?_
      have h := h.2
      have h := h _ rfl
      refine v_aload_n C dX11_laysBesides_76 2 rfl ?_
      refine g_X11_besides C wd_1106 dX11_laysBesides_77 ?_
      refine v_iload C dX11_laysBesides_80 0 rfl ?_
      refine v_dup2 C dX11_laysBesides_82 rfl rfl ?_
      refine v_iald C rfl h.1 dX11_laysBesides_83 ?_
      have h := h.2
      refine v_iconst C dX11_laysBesides_84 ?_
      refine v_iload_n C dX11_laysBesides_85 1 rfl ?_
      refine v_ishl C dX11_laysBesides_86 ?_
      refine v_ior C dX11_laysBesides_87 ?_
      refine v_iast C rfl h.1 dX11_laysBesides_88 ?_
      have h := h.2
      have h := h _ rfl
      refine v_iinc C [(2, _), (4, _), (3, _), (0, _), (1, _)] dX11_laysBesides_89 4 rfl (by decide) rfl ?_
      refine v_goto C 31 dX11_laysBesides_92 (by decide) ?_
      refine v_sub [3, 4, 0] rfl ?_
      exact ih _ _ _ h
def X11_laysBesides_b95 (Q : Int → Wd → Prop) (x1 : Int) (w : Wd) : Prop := Q (wr x1) w
theorem t_X11_laysBesides_b95 {Z : Zw} {E : Amb} {Q : Int → Wd → Prop} (C : Cx Z (adA Z) E cX11_laysBesides "HandleFacesModel" 5 rm_X11_laysBesides) (R : Rt Z E (some .int) (qI Z Q)) : ∀ (x1 : Int) (w : Wd), X11_laysBesides_b95 Q x1 w → V Z (adA Z) E 5 w 95 [(1, iv x1)] [] := by
  intro x1 w h
  unfold X11_laysBesides_b95 at h
  refine v_iload_n C dX11_laysBesides_95 0 rfl ?_
  exact v_iret C R h dX11_laysBesides_96
def X11_laysBesides_b29 (Q : Int → Wd → Prop) (x1 : Int) (w : Wd) : Prop := (∃ m, X11_laysBesides_l31 Q (X11_laysBesides_b95 Q) m x1 0 w)
theorem t_X11_laysBesides_b29 {Z : Zw} {E : Amb} {Q : Int → Wd → Prop} (C : Cx Z (adA Z) E cX11_laysBesides "HandleFacesModel" 5 rm_X11_laysBesides) (R : Rt Z E (some .int) (qI Z Q)) : ∀ (x1 : Int) (w : Wd), X11_laysBesides_b29 Q x1 w → V Z (adA Z) E 5 w 29 [(0, rv Z 65), (1, iv x1)] [] := by
  intro x1 w h
  unfold X11_laysBesides_b29 at h
  refine v_iconst C dX11_laysBesides_29 ?_
  refine v_istore_n C [(2, _), (0, _), (1, _)] dX11_laysBesides_30 2 rfl (by decide) rfl ?_
  refine v_sub [1, 2, 0] rfl ?_
  obtain ⟨m, h⟩ := h
  exact t_X11_laysBesides_l31 C R (t_X11_laysBesides_b95 C R) m _ _ _ h
def X11_laysBesides (w : Wd) (Q : Int → Wd → Prop) : Prop := X11_traces 73 w (fun y2 w1 => (∃ m, X11_laysBesides_l11 Q (X11_laysBesides_b29 Q) m y2 0 w1))
theorem m_X11_laysBesides {Z : Zw} {l : Launch} {w : Wd} {Q : Int → Wd → Prop} (h : X11_laysBesides w Q) : CtQ Z l yX11_laysBesides cX11_laysBesides 5 (some .int) rm_X11_laysBesides [rv Z 65] w (qI Z Q) := by
  refine ct_of (by decide) (Nat.le_of_ble_eq_true rfl) (fun E eE C R => ?_)
  subst eE
  have C : Cx Z (adA Z) E cX11_laysBesides "HandleFacesModel" 5 rm_X11_laysBesides := C
  unfold X11_laysBesides at h
  show V Z (adA Z) E 5 w 0 [(0, rv Z 65)] []
  refine v_aload_n C dX11_laysBesides_0 0 rfl ?_
  refine v_aload_n C dX11_laysBesides_1 0 rfl ?_
  refine g_X11_now C wd_1087 dX11_laysBesides_2 ?_
  refine v_calli C (rn_V C _ (m_X11_traces rfl h) mf_X11_traces wd_1375 wp_62 wd_1373 rfl rfl ⟨(Nat.le_of_ble_eq_true rfl), (Nat.le_of_ble_eq_true rfl)⟩ rfl rfl rfl rfl (Nat.le_of_ble_eq_true rfl) dX11_laysBesides_5) (fun r w h => ?_)
  refine v_istore_n C [(1, _), (0, _)] dX11_laysBesides_8 1 rfl (by decide) rfl ?_
  refine v_iconst C dX11_laysBesides_9 ?_
  refine v_istore_n C [(2, _), (1, _), (0, _)] dX11_laysBesides_10 2 rfl (by decide) rfl ?_
  refine v_sub [2, 1, 0] rfl ?_
  obtain ⟨m, h⟩ := h
  exact t_X11_laysBesides_l11 C R (t_X11_laysBesides_b29 C R) m _ _ _ h
abbrev rm_X11_beside : Room := { frames := 4, cells := 0, slots := 0, locals := 100 }
theorem mf_X11_beside : MfB yX11_beside cX11_beside 3 (some .int) 1 := ⟨wd_1473, wd_13, by decide, by decide, by decide +kernel⟩
def X11_beside (x1 : Int) (w : Wd) (Q : Int → Wd → Prop) : Prop := X11_laysBesides w (fun y2 w1 => X11_in x1 0 (y2 - 1) w1 (fun y4 w3 => ((wr y4 = 0 → Q (wr (-1)) w3) ∧ (¬ wr y4 = 0 → (ix x1 30 ∧ Q (wr (rd w3 85 x1)) w3)))))
theorem m_X11_beside {Z : Zw} {l : Launch} {x1 : Int} {w : Wd} {Q : Int → Wd → Prop} (h : X11_beside x1 w Q) : CtQ Z l yX11_beside cX11_beside 3 (some .int) rm_X11_beside [rv Z 65, iv x1] w (qI Z Q) := by
  refine ct_of (by decide) (Nat.le_of_ble_eq_true rfl) (fun E eE C R => ?_)
  subst eE
  have C : Cx Z (adA Z) E cX11_beside "HandleFacesModel" 3 rm_X11_beside := C
  unfold X11_beside at h
  show V Z (adA Z) E 3 w 0 [(0, rv Z 65), (1, iv x1)] []
  refine v_aload_n C dX11_beside_0 0 rfl ?_
  refine v_calli C (rn_V C _ (m_X11_laysBesides h) mf_X11_laysBesides wd_1476 wp_73 wd_1474 rfl rfl ⟨(Nat.le_of_ble_eq_true rfl), (Nat.le_of_ble_eq_true rfl)⟩ rfl rfl rfl rfl (Nat.le_of_ble_eq_true rfl) dX11_beside_1) (fun r w h => ?_)
  refine v_istore_n C [(2, _), (0, _), (1, _)] dX11_beside_4 2 rfl (by decide) rfl ?_
  refine v_iload_n C dX11_beside_5 2 rfl ?_
  refine v_iconst C dX11_beside_6 ?_
  refine v_iload_n C dX11_beside_7 0 rfl ?_
  refine v_iconst C dX11_beside_8 ?_
  refine v_isub C dX11_beside_9 ?_
  refine v_calli C (rn_S C _ (m_X11_in h) mf_X11_in wd_1298 wd_1297 rfl rfl ⟨(Nat.le_of_ble_eq_true rfl), (Nat.le_of_ble_eq_true rfl)⟩ rfl rfl (Nat.le_of_ble_eq_true rfl) dX11_beside_10) (fun r w h => ?_)
  refine v_if_eq C 25 dX11_beside_13 (by decide) (fun q => ?_) (fun q => ?_)
  · have h := h.1 q
    refine v_iconst C dX11_beside_25 ?_
    exact v_iret C R h dX11_beside_26
  · have h := h.2 q
    refine v_aload_n C dX11_beside_16 1 rfl ?_
    refine g_X11_besides C wd_1106 dX11_beside_17 ?_
    refine v_iload_n C dX11_beside_20 2 rfl ?_
    refine v_iald C rfl h.1 dX11_beside_21 ?_
    have h := h.2
    refine v_goto C 26 dX11_beside_22 (by decide) ?_
    exact v_iret C R h dX11_beside_26
abbrev rm_X11_isClash : Room := { frames := 1, cells := 0, slots := 0, locals := 21 }
theorem mf_X11_isClash : MfB yX11_isClash cX11_isClash 3 (some .boolean) 1 := ⟨wd_1489, wd_13, by decide, by decide, by decide +kernel⟩
def X11_isClash_l2 (Q : Int → Wd → Prop) (e35 : Wd → Prop) (e43 : Wd → Prop) : Nat → Int → Int → Wd → Prop
  | 0 => fun _ _ _ => False
  | n + 1 => fun x1 x2 w => ((wr x1 ≤ wr x2 → e43 w) ∧ (¬ wr x1 ≤ wr x2 → (ix x1 30 ∧ X11_has (rd w 85 x1) x2 w (fun y2 w1 => ((wr y2 = 0 → (X11_isClash_l2 Q e35 e43 n) x1 (x2 + 1) w1) ∧ (¬ wr y2 = 0 → (ix x2 30 ∧ (ix x1 30 ∧ ((wr (rd w1 86 x2) = wr (rd w1 86 x1) → e35 w1) ∧ (¬ wr (rd w1 86 x2) = wr (rd w1 86 x1) → (X11_isClash_l2 Q e35 e43 n) x1 (x2 + 1) w1))))))))))
theorem t_X11_isClash_l2 {Z : Zw} {E : Amb} {Q : Int → Wd → Prop} {e35 : Wd → Prop} {e43 : Wd → Prop} (C : Cx Z (adA Z) E cX11_isClash "HandleFacesModel" 3 rm_X11_isClash) (R : Rt Z E (some .boolean) (qI Z Q)) (he35 : ∀ (w : Wd), e35 w → V Z (adA Z) E 3 w 35 [] []) (he43 : ∀ (w : Wd), e43 w → V Z (adA Z) E 3 w 43 [] []) : ∀ (n : Nat) (x1 : Int) (x2 : Int) (w : Wd), X11_isClash_l2 Q e35 e43 n x1 x2 w → V Z (adA Z) E 3 w 2 [(0, rv Z 65), (1, iv x1), (2, iv x2)] [] := by
  intro n
  induction n with
  | zero => intro x1 x2 w h; exact h.elim
  | succ n ih =>
    intro x1 x2 w h
    unfold X11_isClash_l2 at h
    refine v_iload_n C dX11_isClash_2 2 rfl ?_
    refine v_iload_n C dX11_isClash_3 1 rfl ?_
    refine v_icmp_ge C 43 dX11_isClash_4 (by decide) (fun q => ?_) (fun q => ?_)
    · have h := h.1 q
      refine v_sub [] rfl ?_
      exact he43 _ h
    · have h := h.2 q
      refine v_aload_n C dX11_isClash_7 0 rfl ?_
      refine g_X11_besides C wd_1106 dX11_isClash_8 ?_
      refine v_iload_n C dX11_isClash_11 1 rfl ?_
      refine v_iald C rfl h.1 dX11_isClash_12 ?_
      have h := h.2
      refine v_iload_n C dX11_isClash_13 2 rfl ?_
      refine v_calli C (rn_S C _ (m_X11_has h) mf_X11_has wd_1283 wd_1282 rfl rfl ⟨(Nat.le_of_ble_eq_true rfl), (Nat.le_of_ble_eq_true rfl)⟩ rfl rfl (Nat.le_of_ble_eq_true rfl) dX11_isClash_14) (fun r w h => ?_)
      refine v_if_eq C 37 dX11_isClash_17 (by decide) (fun q => ?_) (fun q => ?_)
      · have h := h.1 q
        refine v_iinc C [(2, _), (0, _), (1, _)] dX11_isClash_37 2 rfl (by decide) rfl ?_
        refine v_goto C 2 dX11_isClash_40 (by decide) ?_
        refine v_sub [1, 2, 0] rfl ?_
        exact ih _ _ _ h
      · have h := h.2 q
        refine v_aload_n C dX11_isClash_20 0 rfl ?_
        refine g_X11_colour C wd_1107 dX11_isClash_21 ?_
        refine v_iload_n C dX11_isClash_24 2 rfl ?_
        refine v_iald C rfl h.1 dX11_isClash_25 ?_
        have h := h.2
        refine v_aload_n C dX11_isClash_26 0 rfl ?_
        refine g_X11_colour C wd_1107 dX11_isClash_27 ?_
        refine v_iload_n C dX11_isClash_30 1 rfl ?_
        refine v_iald C rfl h.1 dX11_isClash_31 ?_
        have h := h.2
        refine v_icmp_ne C 37 dX11_isClash_32 (by decide) (fun q => ?_) (fun q => ?_)
        · have h := h.2 q
          refine v_iinc C [(2, _), (0, _), (1, _)] dX11_isClash_37 2 rfl (by decide) rfl ?_
          refine v_goto C 2 dX11_isClash_40 (by decide) ?_
          refine v_sub [1, 2, 0] rfl ?_
          exact ih _ _ _ h
        · have h := h.1 q
          refine v_sub [] rfl ?_
          exact he35 _ h
def X11_isClash_b35 (Q : Int → Wd → Prop) (w : Wd) : Prop := Q 1 w
theorem t_X11_isClash_b35 {Z : Zw} {E : Amb} {Q : Int → Wd → Prop} (C : Cx Z (adA Z) E cX11_isClash "HandleFacesModel" 3 rm_X11_isClash) (R : Rt Z E (some .boolean) (qI Z Q)) : ∀ (w : Wd), X11_isClash_b35 Q w → V Z (adA Z) E 3 w 35 [] [] := by
  intro w h
  unfold X11_isClash_b35 at h
  refine v_iconst C dX11_isClash_35 ?_
  exact v_zret C R (Or.inr rfl) h dX11_isClash_36
def X11_isClash_b43 (Q : Int → Wd → Prop) (w : Wd) : Prop := Q 0 w
theorem t_X11_isClash_b43 {Z : Zw} {E : Amb} {Q : Int → Wd → Prop} (C : Cx Z (adA Z) E cX11_isClash "HandleFacesModel" 3 rm_X11_isClash) (R : Rt Z E (some .boolean) (qI Z Q)) : ∀ (w : Wd), X11_isClash_b43 Q w → V Z (adA Z) E 3 w 43 [] [] := by
  intro w h
  unfold X11_isClash_b43 at h
  refine v_iconst C dX11_isClash_43 ?_
  exact v_zret C R (Or.inl rfl) h dX11_isClash_44
def X11_isClash (x1 : Int) (w : Wd) (Q : Int → Wd → Prop) : Prop := (∃ m, X11_isClash_l2 Q (X11_isClash_b35 Q) (X11_isClash_b43 Q) m x1 0 w)
theorem m_X11_isClash {Z : Zw} {l : Launch} {x1 : Int} {w : Wd} {Q : Int → Wd → Prop} (h : X11_isClash x1 w Q) : CtQ Z l yX11_isClash cX11_isClash 3 (some .boolean) rm_X11_isClash [rv Z 65, iv x1] w (qI Z Q) := by
  refine ct_of (by decide) (Nat.le_of_ble_eq_true rfl) (fun E eE C R => ?_)
  subst eE
  have C : Cx Z (adA Z) E cX11_isClash "HandleFacesModel" 3 rm_X11_isClash := C
  unfold X11_isClash at h
  show V Z (adA Z) E 3 w 0 [(0, rv Z 65), (1, iv x1)] []
  refine v_iconst C dX11_isClash_0 ?_
  refine v_istore_n C [(2, _), (0, _), (1, _)] dX11_isClash_1 2 rfl (by decide) rfl ?_
  refine v_sub [1, 2, 0] rfl ?_
  obtain ⟨m, h⟩ := h
  exact t_X11_isClash_l2 C R (t_X11_isClash_b35 C R) (t_X11_isClash_b43 C R) m _ _ _ h
abbrev rm_X11_areEnough : Room := { frames := 2, cells := 0, slots := 0, locals := 43 }
theorem mf_X11_areEnough : MfB yX11_areEnough cX11_areEnough 4 (some .boolean) 2 := ⟨wd_1485, wd_13, by decide, by decide, by decide +kernel⟩
def X11_areEnough_l32 (Q : Int → Wd → Prop) (e63 : Int → Int → Int → Wd → Prop) : Nat → Int → Int → Int → Wd → Prop
  | 0 => fun _ _ _ _ => False
  | n + 1 => fun x1 x2 x3 w => (ix x3 30 ∧ ((wr x2 ≤ wr (rd w 86 x3) → e63 x1 x2 x3 w) ∧ (¬ wr x2 ≤ wr (rd w 86 x3) → X11_isClash x3 w (fun y3 w2 => ((wr y3 = 0 → e63 x1 x2 x3 w2) ∧ (¬ wr y3 = 0 → (ix x3 30 ∧ (ix x3 30 ∧ (∀ w4, w4 = wt w2 86 x3 ((rd w2 86 x3) + 1) → (X11_areEnough_l32 Q e63 n) x1 x2 x3 w4)))))))))
theorem t_X11_areEnough_l32 {Z : Zw} {E : Amb} {Q : Int → Wd → Prop} {e63 : Int → Int → Int → Wd → Prop} (C : Cx Z (adA Z) E cX11_areEnough "HandleFacesModel" 4 rm_X11_areEnough) (R : Rt Z E (some .boolean) (qI Z Q)) (he63 : ∀ (x1 : Int) (x2 : Int) (x3 : Int) (w : Wd), e63 x1 x2 x3 w → V Z (adA Z) E 4 w 63 [(0, rv Z 65), (1, iv x1), (2, iv x2), (3, iv x3)] []) : ∀ (n : Nat) (x1 : Int) (x2 : Int) (x3 : Int) (w : Wd), X11_areEnough_l32 Q e63 n x1 x2 x3 w → V Z (adA Z) E 4 w 32 [(0, rv Z 65), (1, iv x1), (2, iv x2), (3, iv x3)] [] := by
  intro n
  induction n with
  | zero => intro x1 x2 x3 w h; exact h.elim
  | succ n ih =>
    intro x1 x2 x3 w h
    unfold X11_areEnough_l32 at h
    refine v_aload_n C dX11_areEnough_32 0 rfl ?_
    refine g_X11_colour C wd_1107 dX11_areEnough_33 ?_
    refine v_iload_n C dX11_areEnough_36 3 rfl ?_
    refine v_iald C rfl h.1 dX11_areEnough_37 ?_
    have h := h.2
    refine v_iload_n C dX11_areEnough_38 2 rfl ?_
    refine v_icmp_ge C 63 dX11_areEnough_39 (by decide) (fun q => ?_) (fun q => ?_)
    · have h := h.1 q
      exact he63 _ _ _ _ h
    · have h := h.2 q
      refine v_aload_n C dX11_areEnough_42 0 rfl ?_
      refine v_iload_n C dX11_areEnough_43 3 rfl ?_
      refine v_calli C (rn_V C _ (m_X11_isClash h) mf_X11_isClash wd_1488 wp_75 wd_1486 rfl rfl ⟨(Nat.le_of_ble_eq_true rfl), (Nat.le_of_ble_eq_true rfl)⟩ rfl rfl rfl rfl (Nat.le_of_ble_eq_true rfl) dX11_areEnough_44) (fun r w h => ?_)
      refine v_if_eq C 63 dX11_areEnough_47 (by decide) (fun q => ?_) (fun q => ?_)
      · have h := h.1 q
        exact he63 _ _ _ _ h
      · have h := h.2 q
        refine v_aload_n C dX11_areEnough_50 0 rfl ?_
        refine g_X11_colour C wd_1107 dX11_areEnough_51 ?_
        refine v_iload_n C dX11_areEnough_54 3 rfl ?_
        refine v_dup2 C dX11_areEnough_55 rfl rfl ?_
        refine v_iald C rfl h.1 dX11_areEnough_56 ?_
        have h := h.2
        refine v_iconst C dX11_areEnough_57 ?_
        refine v_iadd C dX11_areEnough_58 ?_
        refine v_iast C rfl h.1 dX11_areEnough_59 ?_
        have h := h.2
        have h := h _ rfl
        refine v_goto C 32 dX11_areEnough_60 (by decide) ?_
        exact ih _ _ _ _ h
def X11_areEnough_b63 (Q : Int → Wd → Prop) (c13 : Int → Int → Int → Wd → Prop) (e97 : Int → Int → Wd → Prop) (x1 : Int) (x2 : Int) (x3 : Int) (w : Wd) : Prop := (ix x3 30 ∧ ((wr (rd w 86 x3) = wr x2 → c13 x1 x2 (x3 + (-1)) w) ∧ (¬ wr (rd w 86 x3) = wr x2 → ((wr x1 ≤ wr (x3 + 1) → c13 x1 x2 (x3 + 1) w) ∧ (¬ wr x1 ≤ wr (x3 + 1) → (ix (x3 + 1) 30 ∧ (∀ w5, w5 = wt w 86 (x3 + 1) (-1) → c13 x1 x2 (x3 + 1) w5)))))))
theorem t_X11_areEnough_b63 {Z : Zw} {E : Amb} {Q : Int → Wd → Prop} {c13 : Int → Int → Int → Wd → Prop} {e97 : Int → Int → Wd → Prop} (C : Cx Z (adA Z) E cX11_areEnough "HandleFacesModel" 4 rm_X11_areEnough) (R : Rt Z E (some .boolean) (qI Z Q)) (hc13 : ∀ (x1 : Int) (x2 : Int) (x3 : Int) (w : Wd), c13 x1 x2 x3 w → V Z (adA Z) E 4 w 13 [(0, rv Z 65), (1, iv x1), (2, iv x2), (3, iv x3)] []) (he97 : ∀ (x1 : Int) (x3 : Int) (w : Wd), e97 x1 x3 w → V Z (adA Z) E 4 w 97 [(1, iv x1), (3, iv x3)] []) : ∀ (x1 : Int) (x2 : Int) (x3 : Int) (w : Wd), X11_areEnough_b63 Q c13 e97 x1 x2 x3 w → V Z (adA Z) E 4 w 63 [(0, rv Z 65), (1, iv x1), (2, iv x2), (3, iv x3)] [] := by
  intro x1 x2 x3 w h
  unfold X11_areEnough_b63 at h
  refine v_aload_n C dX11_areEnough_63 0 rfl ?_
  refine g_X11_colour C wd_1107 dX11_areEnough_64 ?_
  refine v_iload_n C dX11_areEnough_67 3 rfl ?_
  refine v_iald C rfl h.1 dX11_areEnough_68 ?_
  have h := h.2
  refine v_iload_n C dX11_areEnough_69 2 rfl ?_
  refine v_icmp_ne C 79 dX11_areEnough_70 (by decide) (fun q => ?_) (fun q => ?_)
  · have h := h.2 q
    refine v_iinc C [(3, _), (0, _), (1, _), (2, _)] dX11_areEnough_79 3 rfl (by decide) rfl ?_
    refine v_iload_n C dX11_areEnough_82 0 rfl ?_
    refine v_iload_n C dX11_areEnough_83 2 rfl ?_
    refine v_icmp_ge C 13 dX11_areEnough_84 (by decide) (fun q => ?_) (fun q => ?_)
    · have h := h.1 q
      refine v_sub [1, 2, 3, 0] rfl ?_
      exact hc13 _ _ _ _ h
    · have h := h.2 q
      refine v_aload_n C dX11_areEnough_87 1 rfl ?_
      refine g_X11_colour C wd_1107 dX11_areEnough_88 ?_
      refine v_iload_n C dX11_areEnough_91 0 rfl ?_
      refine v_iconst C dX11_areEnough_92 ?_
      refine v_iast C rfl h.1 dX11_areEnough_93 ?_
      have h := h.2
      have h := h _ rfl
      refine v_goto C 13 dX11_areEnough_94 (by decide) ?_
      refine v_sub [1, 2, 3, 0] rfl ?_
      exact hc13 _ _ _ _ h
  · have h := h.1 q
    refine v_iinc C [(3, _), (0, _), (1, _), (2, _)] dX11_areEnough_73 3 rfl (by decide) rfl ?_
    refine v_goto C 13 dX11_areEnough_76 (by decide) ?_
    refine v_sub [1, 2, 3, 0] rfl ?_
    exact hc13 _ _ _ _ h
def X11_areEnough_l13 (Q : Int → Wd → Prop) (e97 : Int → Int → Wd → Prop) : Nat → Int → Int → Int → Wd → Prop
  | 0 => fun _ _ _ _ => False
  | n + 1 => fun x1 x2 x3 w => ((wr x3 < 0 → e97 x1 x3 w) ∧ (¬ wr x3 < 0 → ((wr x1 ≤ wr x3 → e97 x1 x3 w) ∧ (¬ wr x1 ≤ wr x3 → (ix x3 30 ∧ (ix x3 30 ∧ (∀ w1, w1 = wt w 86 x3 ((rd w 86 x3) + 1) → (∃ m, X11_areEnough_l32 Q (X11_areEnough_b63 Q (X11_areEnough_l13 Q e97 n) e97) m x1 x2 x3 w1))))))))
theorem t_X11_areEnough_l13 {Z : Zw} {E : Amb} {Q : Int → Wd → Prop} {e97 : Int → Int → Wd → Prop} (C : Cx Z (adA Z) E cX11_areEnough "HandleFacesModel" 4 rm_X11_areEnough) (R : Rt Z E (some .boolean) (qI Z Q)) (he97 : ∀ (x1 : Int) (x3 : Int) (w : Wd), e97 x1 x3 w → V Z (adA Z) E 4 w 97 [(1, iv x1), (3, iv x3)] []) : ∀ (n : Nat) (x1 : Int) (x2 : Int) (x3 : Int) (w : Wd), X11_areEnough_l13 Q e97 n x1 x2 x3 w → V Z (adA Z) E 4 w 13 [(0, rv Z 65), (1, iv x1), (2, iv x2), (3, iv x3)] [] := by
  intro n
  induction n with
  | zero => intro x1 x2 x3 w h; exact h.elim
  | succ n ih =>
    intro x1 x2 x3 w h
    unfold X11_areEnough_l13 at h
    refine v_iload_n C dX11_areEnough_13 3 rfl ?_
    refine v_if_lt C 97 dX11_areEnough_14 (by decide) (fun q => ?_) (fun q => ?_)
    · have h := h.1 q
      refine v_sub [1, 3] rfl ?_
      exact he97 _ _ _ h
    · have h := h.2 q
      refine v_iload_n C dX11_areEnough_17 3 rfl ?_
      refine v_iload_n C dX11_areEnough_18 1 rfl ?_
      refine v_icmp_ge C 97 dX11_areEnough_19 (by decide) (fun q => ?_) (fun q => ?_)
      · have h := h.1 q
        refine v_sub [1, 3] rfl ?_
        exact he97 _ _ _ h
      · have h := h.2 q
        refine v_aload_n C dX11_areEnough_22 0 rfl ?_
        refine g_X11_colour C wd_1107 dX11_areEnough_23 ?_
        refine v_iload_n C dX11_areEnough_26 3 rfl ?_
        refine v_dup2 C dX11_areEnough_27 rfl rfl ?_
        refine v_iald C rfl h.1 dX11_areEnough_28 ?_
        have h := h.2
        refine v_iconst C dX11_areEnough_29 ?_
        refine v_iadd C dX11_areEnough_30 ?_
        refine v_iast C rfl h.1 dX11_areEnough_31 ?_
        have h := h.2
        have h := h _ rfl
        obtain ⟨m, h⟩ := h
        exact t_X11_areEnough_l32 C R (t_X11_areEnough_b63 C R ih he97) m _ _ _ _ h
def X11_areEnough_b97 (Q : Int → Wd → Prop) (x1 : Int) (x3 : Int) (w : Wd) : Prop := ((wr x3 = wr x1 → Q 1 w) ∧ (¬ wr x3 = wr x1 → Q 0 w))
theorem t_X11_areEnough_b97 {Z : Zw} {E : Amb} {Q : Int → Wd → Prop} (C : Cx Z (adA Z) E cX11_areEnough "HandleFacesModel" 4 rm_X11_areEnough) (R : Rt Z E (some .boolean) (qI Z Q)) : ∀ (x1 : Int) (x3 : Int) (w : Wd), X11_areEnough_b97 Q x1 x3 w → V Z (adA Z) E 4 w 97 [(1, iv x1), (3, iv x3)] [] := by
  intro x1 x3 w h
  unfold X11_areEnough_b97 at h
  refine v_iload_n C dX11_areEnough_97 1 rfl ?_
  refine v_iload_n C dX11_areEnough_98 0 rfl ?_
  refine v_icmp_ne C 106 dX11_areEnough_99 (by decide) (fun q => ?_) (fun q => ?_)
  · have h := h.2 q
    refine v_iconst C dX11_areEnough_106 ?_
    exact v_zret C R (Or.inl rfl) h dX11_areEnough_107
  · have h := h.1 q
    refine v_iconst C dX11_areEnough_102 ?_
    refine v_goto C 107 dX11_areEnough_103 (by decide) ?_
    exact v_zret C R (Or.inr rfl) h dX11_areEnough_107
def X11_areEnough (x1 : Int) (x2 : Int) (w : Wd) (Q : Int → Wd → Prop) : Prop := ((wr x1 ≤ 0 → (∃ m, X11_areEnough_l13 Q (X11_areEnough_b97 Q) m x1 x2 0 w)) ∧ (¬ wr x1 ≤ 0 → (ix 0 30 ∧ (∀ w6, w6 = wt w 86 0 (-1) → (∃ m, X11_areEnough_l13 Q (X11_areEnough_b97 Q) m x1 x2 0 w6)))))
theorem m_X11_areEnough {Z : Zw} {l : Launch} {x1 : Int} {x2 : Int} {w : Wd} {Q : Int → Wd → Prop} (h : X11_areEnough x1 x2 w Q) : CtQ Z l yX11_areEnough cX11_areEnough 4 (some .boolean) rm_X11_areEnough [rv Z 65, iv x1, iv x2] w (qI Z Q) := by
  refine ct_of (by decide) (Nat.le_of_ble_eq_true rfl) (fun E eE C R => ?_)
  subst eE
  have C : Cx Z (adA Z) E cX11_areEnough "HandleFacesModel" 4 rm_X11_areEnough := C
  unfold X11_areEnough at h
  show V Z (adA Z) E 4 w 0 [(0, rv Z 65), (1, iv x1), (2, iv x2)] []
  refine v_iconst C dX11_areEnough_0 ?_
  refine v_istore_n C [(3, _), (0, _), (1, _), (2, _)] dX11_areEnough_1 3 rfl (by decide) rfl ?_
  refine v_iload_n C dX11_areEnough_2 2 rfl ?_
  refine v_if_le C 13 dX11_areEnough_3 (by decide) (fun q => ?_) (fun q => ?_)
  · have h := h.1 q
    refine v_sub [1, 2, 3, 0] rfl ?_
    obtain ⟨m, h⟩ := h
    exact t_X11_areEnough_l13 C R (t_X11_areEnough_b97 C R) m _ _ _ _ h
  · have h := h.2 q
    refine v_aload_n C dX11_areEnough_6 1 rfl ?_
    refine g_X11_colour C wd_1107 dX11_areEnough_7 ?_
    refine v_iconst C dX11_areEnough_10 ?_
    refine v_iconst C dX11_areEnough_11 ?_
    refine v_iast C rfl h.1 dX11_areEnough_12 ?_
    have h := h.2
    have h := h _ rfl
    refine v_sub [1, 2, 3, 0] rfl ?_
    obtain ⟨m, h⟩ := h
    exact t_X11_areEnough_l13 C R (t_X11_areEnough_b97 C R) m _ _ _ _ h
abbrev rm_X11_colours : Room := { frames := 4, cells := 0, slots := 0, locals := 100 }
theorem mf_X11_colours : MfB yX11_colours cX11_colours 3 (some .int) 0 := ⟨wd_1481, wd_13, by decide, by decide, by decide +kernel⟩
def X11_colours_l7 (Q : Int → Wd → Prop) (e25 : Wd → Prop) (e34 : Int → Wd → Prop) : Nat → Int → Int → Wd → Prop
  | 0 => fun _ _ _ => False
  | n + 1 => fun x1 x2 w => ((wr x1 ≤ wr x2 → e34 x1 w) ∧ (¬ wr x1 ≤ wr x2 → (ix x2 30 ∧ X11_has (rd w 85 x2) x2 w (fun y4 w3 => ((wr y4 = 0 → (X11_colours_l7 Q e25 e34 n) x1 (x2 + 1) w3) ∧ (¬ wr y4 = 0 → e25 w3))))))
theorem t_X11_colours_l7 {Z : Zw} {E : Amb} {Q : Int → Wd → Prop} {e25 : Wd → Prop} {e34 : Int → Wd → Prop} (C : Cx Z (adA Z) E cX11_colours "HandleFacesModel" 3 rm_X11_colours) (R : Rt Z E (some .int) (qI Z Q)) (he25 : ∀ (w : Wd), e25 w → V Z (adA Z) E 3 w 25 [] []) (he34 : ∀ (x1 : Int) (w : Wd), e34 x1 w → V Z (adA Z) E 3 w 34 [(0, rv Z 65), (1, iv x1)] []) : ∀ (n : Nat) (x1 : Int) (x2 : Int) (w : Wd), X11_colours_l7 Q e25 e34 n x1 x2 w → V Z (adA Z) E 3 w 7 [(0, rv Z 65), (1, iv x1), (2, iv x2)] [] := by
  intro n
  induction n with
  | zero => intro x1 x2 w h; exact h.elim
  | succ n ih =>
    intro x1 x2 w h
    unfold X11_colours_l7 at h
    refine v_iload_n C dX11_colours_7 2 rfl ?_
    refine v_iload_n C dX11_colours_8 1 rfl ?_
    refine v_icmp_ge C 34 dX11_colours_9 (by decide) (fun q => ?_) (fun q => ?_)
    · have h := h.1 q
      refine v_sub [0, 1] rfl ?_
      exact he34 _ _ h
    · have h := h.2 q
      refine v_aload_n C dX11_colours_12 0 rfl ?_
      refine g_X11_besides C wd_1106 dX11_colours_13 ?_
      refine v_iload_n C dX11_colours_16 2 rfl ?_
      refine v_iald C rfl h.1 dX11_colours_17 ?_
      have h := h.2
      refine v_iload_n C dX11_colours_18 2 rfl ?_
      refine v_calli C (rn_S C _ (m_X11_has h) mf_X11_has wd_1283 wd_1282 rfl rfl ⟨(Nat.le_of_ble_eq_true rfl), (Nat.le_of_ble_eq_true rfl)⟩ rfl rfl (Nat.le_of_ble_eq_true rfl) dX11_colours_19) (fun r w h => ?_)
      refine v_if_eq C 28 dX11_colours_22 (by decide) (fun q => ?_) (fun q => ?_)
      · have h := h.1 q
        refine v_iinc C [(2, _), (0, _), (1, _)] dX11_colours_28 2 rfl (by decide) rfl ?_
        refine v_goto C 7 dX11_colours_31 (by decide) ?_
        refine v_sub [1, 2, 0] rfl ?_
        exact ih _ _ _ h
      · have h := h.2 q
        refine v_sub [] rfl ?_
        exact he25 _ h
def X11_colours_b25 (Q : Int → Wd → Prop) (w : Wd) : Prop := Q (wr (-2)) w
theorem t_X11_colours_b25 {Z : Zw} {E : Amb} {Q : Int → Wd → Prop} (C : Cx Z (adA Z) E cX11_colours "HandleFacesModel" 3 rm_X11_colours) (R : Rt Z E (some .int) (qI Z Q)) : ∀ (w : Wd), X11_colours_b25 Q w → V Z (adA Z) E 3 w 25 [] [] := by
  intro w h
  unfold X11_colours_b25 at h
  refine v_bipush C dX11_colours_25 (by decide) ?_
  exact v_iret C R h dX11_colours_27
def X11_colours_l36 (Q : Int → Wd → Prop) (e51 : Int → Wd → Prop) : Nat → Int → Int → Wd → Prop
  | 0 => fun _ _ _ => False
  | n + 1 => fun x1 x2 w => X11_areEnough x1 x2 w (fun y6 w5 => ((wr y6 = 0 → (X11_colours_l36 Q e51 n) x1 (x2 + 1) w5) ∧ (¬ wr y6 = 0 → e51 x2 w5)))
theorem t_X11_colours_l36 {Z : Zw} {E : Amb} {Q : Int → Wd → Prop} {e51 : Int → Wd → Prop} (C : Cx Z (adA Z) E cX11_colours "HandleFacesModel" 3 rm_X11_colours) (R : Rt Z E (some .int) (qI Z Q)) (he51 : ∀ (x2 : Int) (w : Wd), e51 x2 w → V Z (adA Z) E 3 w 51 [(2, iv x2)] []) : ∀ (n : Nat) (x1 : Int) (x2 : Int) (w : Wd), X11_colours_l36 Q e51 n x1 x2 w → V Z (adA Z) E 3 w 36 [(0, rv Z 65), (1, iv x1), (2, iv x2)] [] := by
  intro n
  induction n with
  | zero => intro x1 x2 w h; exact h.elim
  | succ n ih =>
    intro x1 x2 w h
    unfold X11_colours_l36 at h
    refine v_aload_n C dX11_colours_36 0 rfl ?_
    refine v_iload_n C dX11_colours_37 1 rfl ?_
    refine v_iload_n C dX11_colours_38 2 rfl ?_
    refine v_calli C (rn_V C _ (m_X11_areEnough h) mf_X11_areEnough wd_1484 wp_74 wd_1482 rfl rfl ⟨(Nat.le_of_ble_eq_true rfl), (Nat.le_of_ble_eq_true rfl)⟩ rfl rfl rfl rfl (Nat.le_of_ble_eq_true rfl) dX11_colours_39) (fun r w h => ?_)
    refine v_if_ne C 51 dX11_colours_42 (by decide) (fun q => ?_) (fun q => ?_)
    · have h := h.2 q
      refine v_sub [2] rfl ?_
      exact he51 _ _ h
    · have h := h.1 q
      refine v_iinc C [(2, _), (0, _), (1, _)] dX11_colours_45 2 rfl (by decide) rfl ?_
      refine v_goto C 36 dX11_colours_48 (by decide) ?_
      refine v_sub [1, 2, 0] rfl ?_
      exact ih _ _ _ h
def X11_colours_b51 (Q : Int → Wd → Prop) (x2 : Int) (w : Wd) : Prop := Q (wr x2) w
theorem t_X11_colours_b51 {Z : Zw} {E : Amb} {Q : Int → Wd → Prop} (C : Cx Z (adA Z) E cX11_colours "HandleFacesModel" 3 rm_X11_colours) (R : Rt Z E (some .int) (qI Z Q)) : ∀ (x2 : Int) (w : Wd), X11_colours_b51 Q x2 w → V Z (adA Z) E 3 w 51 [(2, iv x2)] [] := by
  intro x2 w h
  unfold X11_colours_b51 at h
  refine v_iload_n C dX11_colours_51 0 rfl ?_
  exact v_iret C R h dX11_colours_52
def X11_colours_b34 (Q : Int → Wd → Prop) (x1 : Int) (w : Wd) : Prop := (∃ m, X11_colours_l36 Q (X11_colours_b51 Q) m x1 0 w)
theorem t_X11_colours_b34 {Z : Zw} {E : Amb} {Q : Int → Wd → Prop} (C : Cx Z (adA Z) E cX11_colours "HandleFacesModel" 3 rm_X11_colours) (R : Rt Z E (some .int) (qI Z Q)) : ∀ (x1 : Int) (w : Wd), X11_colours_b34 Q x1 w → V Z (adA Z) E 3 w 34 [(0, rv Z 65), (1, iv x1)] [] := by
  intro x1 w h
  unfold X11_colours_b34 at h
  refine v_iconst C dX11_colours_34 ?_
  refine v_istore_n C [(2, _), (0, _), (1, _)] dX11_colours_35 2 rfl (by decide) rfl ?_
  refine v_sub [1, 2, 0] rfl ?_
  obtain ⟨m, h⟩ := h
  exact t_X11_colours_l36 C R (t_X11_colours_b51 C R) m _ _ _ h
def X11_colours (w : Wd) (Q : Int → Wd → Prop) : Prop := X11_laysBesides w (fun y2 w1 => (∃ m, X11_colours_l7 Q (X11_colours_b25 Q) (X11_colours_b34 Q) m y2 0 w1))
theorem m_X11_colours {Z : Zw} {l : Launch} {w : Wd} {Q : Int → Wd → Prop} (h : X11_colours w Q) : CtQ Z l yX11_colours cX11_colours 3 (some .int) rm_X11_colours [rv Z 65] w (qI Z Q) := by
  refine ct_of (by decide) (Nat.le_of_ble_eq_true rfl) (fun E eE C R => ?_)
  subst eE
  have C : Cx Z (adA Z) E cX11_colours "HandleFacesModel" 3 rm_X11_colours := C
  unfold X11_colours at h
  show V Z (adA Z) E 3 w 0 [(0, rv Z 65)] []
  refine v_aload_n C dX11_colours_0 0 rfl ?_
  refine v_calli C (rn_V C _ (m_X11_laysBesides h) mf_X11_laysBesides wd_1476 wp_73 wd_1474 rfl rfl ⟨(Nat.le_of_ble_eq_true rfl), (Nat.le_of_ble_eq_true rfl)⟩ rfl rfl rfl rfl (Nat.le_of_ble_eq_true rfl) dX11_colours_1) (fun r w h => ?_)
  refine v_istore_n C [(1, _), (0, _)] dX11_colours_4 1 rfl (by decide) rfl ?_
  refine v_iconst C dX11_colours_5 ?_
  refine v_istore_n C [(2, _), (1, _), (0, _)] dX11_colours_6 2 rfl (by decide) rfl ?_
  refine v_sub [2, 1, 0] rfl ?_
  obtain ⟨m, h⟩ := h
  exact t_X11_colours_l7 C R (t_X11_colours_b25 C R) (t_X11_colours_b34 C R) m _ _ _ h
abbrev rm_X11_hasDual : Room := { frames := 0, cells := 0, slots := 0, locals := 0 }
theorem mf_X11_hasDual : MfB yX11_hasDual cX11_hasDual 3 (some .boolean) 1 := ⟨wd_1497, wd_13, by decide, by decide, by decide +kernel⟩
def X11_hasDual_l10 (Q : Int → Wd → Prop) (e32 : Wd → Prop) (e40 : Wd → Prop) : Nat → Int → Wd → Prop
  | 0 => fun _ _ => False
  | n + 1 => fun x2 w => (ix 0 98 ∧ ((wr (rd w 73 0) ≤ wr x2 → e40 w) ∧ (¬ wr (rd w 73 0) ≤ wr x2 → (ix (32 + x2) 98 ∧ ((wr (rd w 73 (32 + x2)) = 0 → e32 w) ∧ (¬ wr (rd w 73 (32 + x2)) = 0 → (X11_hasDual_l10 Q e32 e40 n) (x2 + 1) w))))))
theorem t_X11_hasDual_l10 {Z : Zw} {E : Amb} {Q : Int → Wd → Prop} {e32 : Wd → Prop} {e40 : Wd → Prop} (C : Cx Z (adA Z) E cX11_hasDual "HandleFacesModel" 3 rm_X11_hasDual) (R : Rt Z E (some .boolean) (qI Z Q)) (he32 : ∀ (w : Wd), e32 w → V Z (adA Z) E 3 w 32 [] []) (he40 : ∀ (w : Wd), e40 w → V Z (adA Z) E 3 w 40 [(0, rv Z 65)] []) : ∀ (n : Nat) (x2 : Int) (w : Wd), X11_hasDual_l10 Q e32 e40 n x2 w → V Z (adA Z) E 3 w 10 [(0, rv Z 65), (2, iv x2)] [] := by
  intro n
  induction n with
  | zero => intro x2 w h; exact h.elim
  | succ n ih =>
    intro x2 w h
    unfold X11_hasDual_l10 at h
    refine v_iload_n C dX11_hasDual_10 1 rfl ?_
    refine v_aload_n C dX11_hasDual_11 0 rfl ?_
    refine g_X11_now C wd_1087 dX11_hasDual_12 ?_
    refine v_iconst C dX11_hasDual_15 ?_
    refine v_iald C rfl h.1 dX11_hasDual_16 ?_
    have h := h.2
    refine v_icmp_ge C 40 dX11_hasDual_17 (by decide) (fun q => ?_) (fun q => ?_)
    · have h := h.1 q
      refine v_sub [0] rfl ?_
      exact he40 _ h
    · have h := h.2 q
      refine v_aload_n C dX11_hasDual_20 0 rfl ?_
      refine g_X11_now C wd_1087 dX11_hasDual_21 ?_
      refine v_bipush C dX11_hasDual_24 (by decide) ?_
      refine v_iload_n C dX11_hasDual_26 1 rfl ?_
      refine v_iadd C dX11_hasDual_27 ?_
      refine v_iald C rfl h.1 dX11_hasDual_28 ?_
      have h := h.2
      refine v_if_ne C 34 dX11_hasDual_29 (by decide) (fun q => ?_) (fun q => ?_)
      · have h := h.2 q
        refine v_iinc C [(2, _), (0, _)] dX11_hasDual_34 1 rfl (by decide) rfl ?_
        refine v_goto C 10 dX11_hasDual_37 (by decide) ?_
        refine v_sub [1, 0] rfl ?_
        exact ih _ _ h
      · have h := h.1 q
        refine v_sub [] rfl ?_
        exact he32 _ h
def X11_hasDual_b32 (Q : Int → Wd → Prop) (w : Wd) : Prop := Q 0 w
theorem t_X11_hasDual_b32 {Z : Zw} {E : Amb} {Q : Int → Wd → Prop} (C : Cx Z (adA Z) E cX11_hasDual "HandleFacesModel" 3 rm_X11_hasDual) (R : Rt Z E (some .boolean) (qI Z Q)) : ∀ (w : Wd), X11_hasDual_b32 Q w → V Z (adA Z) E 3 w 32 [] [] := by
  intro w h
  unfold X11_hasDual_b32 at h
  refine v_iconst C dX11_hasDual_32 ?_
  exact v_zret C R (Or.inl rfl) h dX11_hasDual_33
def X11_hasDual_l42 (Q : Int → Wd → Prop) (e74 : Wd → Prop) (e82 : Wd → Prop) : Nat → Int → Wd → Prop
  | 0 => fun _ _ => False
  | n + 1 => fun x2 w => (ix 1 98 ∧ ((wr (rd w 73 1) ≤ wr x2 → e82 w) ∧ (¬ wr (rd w 73 1) ≤ wr x2 → (ix (2 * x2) 40 ∧ (ix ((2 * x2) + 20) 40 ∧ ((wr (rd w 79 (2 * x2)) = wr (rd w 79 ((2 * x2) + 20)) → e74 w) ∧ (¬ wr (rd w 79 (2 * x2)) = wr (rd w 79 ((2 * x2) + 20)) → (X11_hasDual_l42 Q e74 e82 n) (x2 + 1) w)))))))
theorem t_X11_hasDual_l42 {Z : Zw} {E : Amb} {Q : Int → Wd → Prop} {e74 : Wd → Prop} {e82 : Wd → Prop} (C : Cx Z (adA Z) E cX11_hasDual "HandleFacesModel" 3 rm_X11_hasDual) (R : Rt Z E (some .boolean) (qI Z Q)) (he74 : ∀ (w : Wd), e74 w → V Z (adA Z) E 3 w 74 [] []) (he82 : ∀ (w : Wd), e82 w → V Z (adA Z) E 3 w 82 [] []) : ∀ (n : Nat) (x2 : Int) (w : Wd), X11_hasDual_l42 Q e74 e82 n x2 w → V Z (adA Z) E 3 w 42 [(0, rv Z 65), (2, iv x2)] [] := by
  intro n
  induction n with
  | zero => intro x2 w h; exact h.elim
  | succ n ih =>
    intro x2 w h
    unfold X11_hasDual_l42 at h
    refine v_iload_n C dX11_hasDual_42 1 rfl ?_
    refine v_aload_n C dX11_hasDual_43 0 rfl ?_
    refine g_X11_now C wd_1087 dX11_hasDual_44 ?_
    refine v_iconst C dX11_hasDual_47 ?_
    refine v_iald C rfl h.1 dX11_hasDual_48 ?_
    have h := h.2
    refine v_icmp_ge C 82 dX11_hasDual_49 (by decide) (fun q => ?_) (fun q => ?_)
    · have h := h.1 q
      refine v_sub [] rfl ?_
      exact he82 _ h
    · have h := h.2 q
      refine v_aload_n C dX11_hasDual_52 0 rfl ?_
      refine g_X11_faceAt C wd_1097 dX11_hasDual_53 ?_
      refine v_iconst C dX11_hasDual_56 ?_
      refine v_iload_n C dX11_hasDual_57 1 rfl ?_
      refine v_imul C dX11_hasDual_58 ?_
      refine v_iald C rfl h.1 dX11_hasDual_59 ?_
      have h := h.2
      refine v_aload_n C dX11_hasDual_60 0 rfl ?_
      refine g_X11_faceAt C wd_1097 dX11_hasDual_61 ?_
      refine v_iconst C dX11_hasDual_64 ?_
      refine v_iload_n C dX11_hasDual_65 1 rfl ?_
      refine v_imul C dX11_hasDual_66 ?_
      refine v_bipush C dX11_hasDual_67 (by decide) ?_
      refine v_iadd C dX11_hasDual_69 ?_
      refine v_iald C rfl h.1 dX11_hasDual_70 ?_
      have h := h.2
      refine v_icmp_ne C 76 dX11_hasDual_71 (by decide) (fun q => ?_) (fun q => ?_)
      · have h := h.2 q
        refine v_iinc C [(2, _), (0, _)] dX11_hasDual_76 1 rfl (by decide) rfl ?_
        refine v_goto C 42 dX11_hasDual_79 (by decide) ?_
        refine v_sub [1, 0] rfl ?_
        exact ih _ _ h
      · have h := h.1 q
        refine v_sub [] rfl ?_
        exact he74 _ h
def X11_hasDual_b74 (Q : Int → Wd → Prop) (w : Wd) : Prop := Q 0 w
theorem t_X11_hasDual_b74 {Z : Zw} {E : Amb} {Q : Int → Wd → Prop} (C : Cx Z (adA Z) E cX11_hasDual "HandleFacesModel" 3 rm_X11_hasDual) (R : Rt Z E (some .boolean) (qI Z Q)) : ∀ (w : Wd), X11_hasDual_b74 Q w → V Z (adA Z) E 3 w 74 [] [] := by
  intro w h
  unfold X11_hasDual_b74 at h
  refine v_iconst C dX11_hasDual_74 ?_
  exact v_zret C R (Or.inl rfl) h dX11_hasDual_75
def X11_hasDual_b82 (Q : Int → Wd → Prop) (w : Wd) : Prop := Q 1 w
theorem t_X11_hasDual_b82 {Z : Zw} {E : Amb} {Q : Int → Wd → Prop} (C : Cx Z (adA Z) E cX11_hasDual "HandleFacesModel" 3 rm_X11_hasDual) (R : Rt Z E (some .boolean) (qI Z Q)) : ∀ (w : Wd), X11_hasDual_b82 Q w → V Z (adA Z) E 3 w 82 [] [] := by
  intro w h
  unfold X11_hasDual_b82 at h
  refine v_iconst C dX11_hasDual_82 ?_
  exact v_zret C R (Or.inr rfl) h dX11_hasDual_83
def X11_hasDual_b40 (Q : Int → Wd → Prop) (w : Wd) : Prop := (∃ m, X11_hasDual_l42 Q (X11_hasDual_b74 Q) (X11_hasDual_b82 Q) m 0 w)
theorem t_X11_hasDual_b40 {Z : Zw} {E : Amb} {Q : Int → Wd → Prop} (C : Cx Z (adA Z) E cX11_hasDual "HandleFacesModel" 3 rm_X11_hasDual) (R : Rt Z E (some .boolean) (qI Z Q)) : ∀ (w : Wd), X11_hasDual_b40 Q w → V Z (adA Z) E 3 w 40 [(0, rv Z 65)] [] := by
  intro w h
  unfold X11_hasDual_b40 at h
  refine v_iconst C dX11_hasDual_40 ?_
  refine v_istore_n C [(2, _), (0, _)] dX11_hasDual_41 2 rfl (by decide) rfl ?_
  refine v_sub [1, 0] rfl ?_
  obtain ⟨m, h⟩ := h
  exact t_X11_hasDual_l42 C R (t_X11_hasDual_b74 C R) (t_X11_hasDual_b82 C R) m _ _ h
def X11_hasDual (x1 : Int) (w : Wd) (Q : Int → Wd → Prop) : Prop := ((wr x1 ≤ wr 6 → (∃ m, X11_hasDual_l10 Q (X11_hasDual_b32 Q) (X11_hasDual_b40 Q) m 0 w)) ∧ (¬ wr x1 ≤ wr 6 → Q 0 w))
theorem m_X11_hasDual {Z : Zw} {l : Launch} {x1 : Int} {w : Wd} {Q : Int → Wd → Prop} (h : X11_hasDual x1 w Q) : CtQ Z l yX11_hasDual cX11_hasDual 3 (some .boolean) rm_X11_hasDual [rv Z 65, iv x1] w (qI Z Q) := by
  refine ct_of (by decide) (Nat.le_of_ble_eq_true rfl) (fun E eE C R => ?_)
  subst eE
  have C : Cx Z (adA Z) E cX11_hasDual "HandleFacesModel" 3 rm_X11_hasDual := C
  unfold X11_hasDual at h
  show V Z (adA Z) E 3 w 0 [(0, rv Z 65), (1, iv x1)] []
  refine v_iload_n C dX11_hasDual_0 1 rfl ?_
  refine v_bipush C dX11_hasDual_1 (by decide) ?_
  refine v_icmp_le C 8 dX11_hasDual_3 (by decide) (fun q => ?_) (fun q => ?_)
  · have h := h.1 q
    refine v_iconst C dX11_hasDual_8 ?_
    refine v_istore_n C [(2, _), (0, _), (1, _)] dX11_hasDual_9 2 rfl (by decide) rfl ?_
    refine v_sub [1, 0] rfl ?_
    obtain ⟨m, h⟩ := h
    exact t_X11_hasDual_l10 C R (t_X11_hasDual_b32 C R) (t_X11_hasDual_b40 C R) m _ _ h
  · have h := h.2 q
    refine v_iconst C dX11_hasDual_6 ?_
    exact v_zret C R (Or.inl rfl) h dX11_hasDual_7
abbrev rm_X11_dual : Room := { frames := 3, cells := 0, slots := 0, locals := 76 }
theorem mf_X11_dual : MfB yX11_dual cX11_dual 6 (some .int) 0 := ⟨wd_1493, wd_13, by decide, by decide, by decide +kernel⟩
def X11_dual_l21 (Q : Int → Wd → Prop) (e40 : Int → Wd → Prop) : Nat → Int → Int → Wd → Prop
  | 0 => fun _ _ _ => False
  | n + 1 => fun x1 x2 w => ((wr 98 ≤ wr x2 → e40 x1 w) ∧ (¬ wr 98 ≤ wr x2 → (ix x2 98 ∧ (∀ w5, w5 = wt w 83 x2 0 → (X11_dual_l21 Q e40 n) x1 (x2 + 1) w5))))
theorem t_X11_dual_l21 {Z : Zw} {E : Amb} {Q : Int → Wd → Prop} {e40 : Int → Wd → Prop} (C : Cx Z (adA Z) E cX11_dual "HandleFacesModel" 6 rm_X11_dual) (R : Rt Z E (some .int) (qI Z Q)) (he40 : ∀ (x1 : Int) (w : Wd), e40 x1 w → V Z (adA Z) E 6 w 40 [(0, rv Z 65), (1, iv x1)] []) : ∀ (n : Nat) (x1 : Int) (x2 : Int) (w : Wd), X11_dual_l21 Q e40 n x1 x2 w → V Z (adA Z) E 6 w 21 [(0, rv Z 65), (1, iv x1), (2, iv x2)] [] := by
  intro n
  induction n with
  | zero => intro x1 x2 w h; exact h.elim
  | succ n ih =>
    intro x1 x2 w h
    unfold X11_dual_l21 at h
    refine v_iload_n C dX11_dual_21 2 rfl ?_
    refine v_bipush C dX11_dual_22 (by decide) ?_
    refine v_icmp_ge C 40 dX11_dual_24 (by decide) (fun q => ?_) (fun q => ?_)
    · have h := h.1 q
      refine v_sub [0, 1] rfl ?_
      exact he40 _ _ h
    · have h := h.2 q
      refine v_aload_n C dX11_dual_27 0 rfl ?_
      refine g_X11_tried C wd_1101 dX11_dual_28 ?_
      refine v_iload_n C dX11_dual_31 2 rfl ?_
      refine v_iconst C dX11_dual_32 ?_
      refine v_iast C rfl h.1 dX11_dual_33 ?_
      have h := h.2
      have h := h _ rfl
      refine v_iinc C [(2, _), (0, _), (1, _)] dX11_dual_34 2 rfl (by decide) rfl ?_
      refine v_goto C 21 dX11_dual_37 (by decide) ?_
      refine v_sub [1, 2, 0] rfl ?_
      exact ih _ _ _ h
def X11_dual_l61 (Q : Int → Wd → Prop) (e84 : Int → Wd → Prop) : Nat → Int → Int → Wd → Prop
  | 0 => fun _ _ _ => False
  | n + 1 => fun x1 x2 w => (ix 1 98 ∧ ((wr (rd w 73 1) ≤ wr x2 → e84 x1 w) ∧ (¬ wr (rd w 73 1) ≤ wr x2 → (ix x2 10 ∧ (∀ w8, w8 = wt w 87 x2 (-1) → (X11_dual_l61 Q e84 n) x1 (x2 + 1) w8)))))
theorem t_X11_dual_l61 {Z : Zw} {E : Amb} {Q : Int → Wd → Prop} {e84 : Int → Wd → Prop} (C : Cx Z (adA Z) E cX11_dual "HandleFacesModel" 6 rm_X11_dual) (R : Rt Z E (some .int) (qI Z Q)) (he84 : ∀ (x1 : Int) (w : Wd), e84 x1 w → V Z (adA Z) E 6 w 84 [(0, rv Z 65), (1, iv x1)] []) : ∀ (n : Nat) (x1 : Int) (x2 : Int) (w : Wd), X11_dual_l61 Q e84 n x1 x2 w → V Z (adA Z) E 6 w 61 [(0, rv Z 65), (1, iv x1), (2, iv x2)] [] := by
  intro n
  induction n with
  | zero => intro x1 x2 w h; exact h.elim
  | succ n ih =>
    intro x1 x2 w h
    unfold X11_dual_l61 at h
    refine v_iload_n C dX11_dual_61 2 rfl ?_
    refine v_aload_n C dX11_dual_62 0 rfl ?_
    refine g_X11_now C wd_1087 dX11_dual_63 ?_
    refine v_iconst C dX11_dual_66 ?_
    refine v_iald C rfl h.1 dX11_dual_67 ?_
    have h := h.2
    refine v_icmp_ge C 84 dX11_dual_68 (by decide) (fun q => ?_) (fun q => ?_)
    · have h := h.1 q
      refine v_sub [0, 1] rfl ?_
      exact he84 _ _ h
    · have h := h.2 q
      refine v_aload_n C dX11_dual_71 0 rfl ?_
      refine g_X11_wayOf C wd_1108 dX11_dual_72 ?_
      refine v_iload_n C dX11_dual_75 2 rfl ?_
      refine v_iconst C dX11_dual_76 ?_
      refine v_iast C rfl h.1 dX11_dual_77 ?_
      have h := h.2
      have h := h _ rfl
      refine v_iinc C [(2, _), (0, _), (1, _)] dX11_dual_78 2 rfl (by decide) rfl ?_
      refine v_goto C 61 dX11_dual_81 (by decide) ?_
      refine v_sub [1, 2, 0] rfl ?_
      exact ih _ _ _ h
def X11_dual_b193 (Q : Int → Wd → Prop) (c101 : Int → Int → Int → Int → Wd → Prop) (e218 : Int → Int → Wd → Prop) (x1 : Int) (x2 : Int) (x3 : Int) (x4 : Int) (x5 : Int) (w : Wd) : Prop := (ix x5 10 ∧ (∀ w13, w13 = wt w 87 x5 (irm x3 2) → X11_nextOf 73 x3 w13 (fun y15 w14 => c101 x1 x2 y15 (x4 + 1) w14)))
theorem t_X11_dual_b193 {Z : Zw} {E : Amb} {Q : Int → Wd → Prop} {c101 : Int → Int → Int → Int → Wd → Prop} {e218 : Int → Int → Wd → Prop} (C : Cx Z (adA Z) E cX11_dual "HandleFacesModel" 6 rm_X11_dual) (R : Rt Z E (some .int) (qI Z Q)) (hc101 : ∀ (x1 : Int) (x2 : Int) (x3 : Int) (x4 : Int) (w : Wd), c101 x1 x2 x3 x4 w → V Z (adA Z) E 6 w 101 [(0, rv Z 65), (1, iv x1), (2, iv x2), (3, iv x3), (4, iv x4)] []) (he218 : ∀ (x1 : Int) (x2 : Int) (w : Wd), e218 x1 x2 w → V Z (adA Z) E 6 w 218 [(0, rv Z 65), (1, iv x1), (2, iv x2)] []) : ∀ (x1 : Int) (x2 : Int) (x3 : Int) (x4 : Int) (x5 : Int) (w : Wd), X11_dual_b193 Q c101 e218 x1 x2 x3 x4 x5 w → V Z (adA Z) E 6 w 193 [(0, rv Z 65), (1, iv x1), (2, iv x2), (3, iv x3), (4, iv x4), (5, iv x5)] [] := by
  intro x1 x2 x3 x4 x5 w h
  unfold X11_dual_b193 at h
  refine v_aload_n C dX11_dual_193 0 rfl ?_
  refine g_X11_wayOf C wd_1108 dX11_dual_194 ?_
  refine v_iload C dX11_dual_197 5 rfl ?_
  refine v_iload_n C dX11_dual_199 3 rfl ?_
  refine v_iconst C dX11_dual_200 ?_
  refine v_irem C dX11_dual_201 (by decide) ?_
  refine v_iast C rfl h.1 dX11_dual_202 ?_
  have h := h.2
  have h := h _ rfl
  refine v_aload_n C dX11_dual_203 0 rfl ?_
  refine g_X11_now C wd_1087 dX11_dual_204 ?_
  refine v_iload_n C dX11_dual_207 3 rfl ?_
  refine v_calli C (rn_S C _ (m_X11_nextOf rfl h) mf_X11_nextOf wd_1381 wd_1380 rfl rfl ⟨(Nat.le_of_ble_eq_true rfl), (Nat.le_of_ble_eq_true rfl)⟩ rfl rfl (Nat.le_of_ble_eq_true rfl) dX11_dual_208) (fun r w h => ?_)
  refine v_istore_n C [(3, _), (0, _), (1, _), (2, _), (4, _), (5, _)] dX11_dual_211 3 rfl (by decide) rfl ?_
  refine v_iinc C [(4, _), (3, _), (0, _), (1, _), (2, _), (5, _)] dX11_dual_212 4 rfl (by decide) rfl ?_
  refine v_goto C 101 dX11_dual_215 (by decide) ?_
  refine v_sub [2, 3, 4, 1, 0] rfl ?_
  exact hc101 _ _ _ _ _ h
def X11_dual_b169 (Q : Int → Wd → Prop) (c101 : Int → Int → Int → Int → Wd → Prop) (e218 : Int → Int → Wd → Prop) (x1 : Int) (x2 : Int) (x3 : Int) (x4 : Int) (x5 : Int) (w : Wd) : Prop := (ix x5 10 ∧ ((wr (rd w 87 x5) = wr (irm x3 2) → (ix (22 + x5) 98 ∧ (∀ w16, w16 = wt w 83 (22 + x5) 1 → X11_dual_b193 Q c101 e218 x1 x2 x3 x4 x5 w16))) ∧ (¬ wr (rd w 87 x5) = wr (irm x3 2) → X11_dual_b193 Q c101 e218 x1 x2 x3 x4 x5 w)))
theorem t_X11_dual_b169 {Z : Zw} {E : Amb} {Q : Int → Wd → Prop} {c101 : Int → Int → Int → Int → Wd → Prop} {e218 : Int → Int → Wd → Prop} (C : Cx Z (adA Z) E cX11_dual "HandleFacesModel" 6 rm_X11_dual) (R : Rt Z E (some .int) (qI Z Q)) (hc101 : ∀ (x1 : Int) (x2 : Int) (x3 : Int) (x4 : Int) (w : Wd), c101 x1 x2 x3 x4 w → V Z (adA Z) E 6 w 101 [(0, rv Z 65), (1, iv x1), (2, iv x2), (3, iv x3), (4, iv x4)] []) (he218 : ∀ (x1 : Int) (x2 : Int) (w : Wd), e218 x1 x2 w → V Z (adA Z) E 6 w 218 [(0, rv Z 65), (1, iv x1), (2, iv x2)] []) : ∀ (x1 : Int) (x2 : Int) (x3 : Int) (x4 : Int) (x5 : Int) (w : Wd), X11_dual_b169 Q c101 e218 x1 x2 x3 x4 x5 w → V Z (adA Z) E 6 w 169 [(0, rv Z 65), (1, iv x1), (2, iv x2), (3, iv x3), (4, iv x4), (5, iv x5)] [] := by
  intro x1 x2 x3 x4 x5 w h
  unfold X11_dual_b169 at h
  refine v_aload_n C dX11_dual_169 0 rfl ?_
  refine g_X11_wayOf C wd_1108 dX11_dual_170 ?_
  refine v_iload C dX11_dual_173 5 rfl ?_
  refine v_iald C rfl h.1 dX11_dual_175 ?_
  have h := h.2
  refine v_iload_n C dX11_dual_176 3 rfl ?_
  refine v_iconst C dX11_dual_177 ?_
  refine v_irem C dX11_dual_178 (by decide) ?_
  refine v_icmp_ne C 193 dX11_dual_179 (by decide) (fun q => ?_) (fun q => ?_)
  · have h := h.2 q
    exact t_X11_dual_b193 C R hc101 he218 _ _ _ _ _ _ h
  · have h := h.1 q
    refine v_aload_n C dX11_dual_182 0 rfl ?_
    refine g_X11_tried C wd_1101 dX11_dual_183 ?_
    refine v_bipush C dX11_dual_186 (by decide) ?_
    refine v_iload C dX11_dual_188 5 rfl ?_
    refine v_iadd C dX11_dual_190 ?_
    refine v_iconst C dX11_dual_191 ?_
    refine v_iast C rfl h.1 dX11_dual_192 ?_
    have h := h.2
    have h := h _ rfl
    exact t_X11_dual_b193 C R hc101 he218 _ _ _ _ _ _ h
def X11_dual_l101 (Q : Int → Wd → Prop) (e218 : Int → Int → Wd → Prop) : Nat → Int → Int → Int → Int → Wd → Prop
  | 0 => fun _ _ _ _ _ => False
  | n + 1 => fun x1 x2 x3 x4 w => (ix x2 30 ∧ ((wr (rd w 81 x2) ≤ wr x4 → e218 x1 x2 w) ∧ (¬ wr (rd w 81 x2) ≤ wr x4 → (∀ y10, y10 = (idv (irm x3 20) 2) → X11_adds 83 x2 y10 w (fun w11 => (ix y10 10 ∧ ((0 ≤ wr (rd w11 87 y10) → (ix ((2 + (2 * y10)) + 1) 98 ∧ (∀ w12, w12 = wt w11 83 ((2 + (2 * y10)) + 1) x2 → X11_dual_b169 Q (X11_dual_l101 Q e218 n) e218 x1 x2 x3 x4 y10 w12))) ∧ (¬ 0 ≤ wr (rd w11 87 y10) → (ix (2 + (2 * y10)) 98 ∧ (∀ w17, w17 = wt w11 83 (2 + (2 * y10)) x2 → X11_dual_b169 Q (X11_dual_l101 Q e218 n) e218 x1 x2 x3 x4 y10 w17))))))))))
theorem t_X11_dual_l101 {Z : Zw} {E : Amb} {Q : Int → Wd → Prop} {e218 : Int → Int → Wd → Prop} (C : Cx Z (adA Z) E cX11_dual "HandleFacesModel" 6 rm_X11_dual) (R : Rt Z E (some .int) (qI Z Q)) (he218 : ∀ (x1 : Int) (x2 : Int) (w : Wd), e218 x1 x2 w → V Z (adA Z) E 6 w 218 [(0, rv Z 65), (1, iv x1), (2, iv x2)] []) : ∀ (n : Nat) (x1 : Int) (x2 : Int) (x3 : Int) (x4 : Int) (w : Wd), X11_dual_l101 Q e218 n x1 x2 x3 x4 w → V Z (adA Z) E 6 w 101 [(0, rv Z 65), (1, iv x1), (2, iv x2), (3, iv x3), (4, iv x4)] [] := by
  intro n
  induction n with
  | zero => intro x1 x2 x3 x4 w h; exact h.elim
  | succ n ih =>
    intro x1 x2 x3 x4 w h
    unfold X11_dual_l101 at h
    refine v_iload C dX11_dual_101 4 rfl ?_
    refine v_aload_n C dX11_dual_103 0 rfl ?_
    refine g_X11_faceLong C wd_1099 dX11_dual_104 ?_
    refine v_iload_n C dX11_dual_107 2 rfl ?_
    refine v_iald C rfl h.1 dX11_dual_108 ?_
    have h := h.2
    refine v_icmp_ge C 218 dX11_dual_109 (by decide) (fun q => ?_) (fun q => ?_)
    · have h := h.1 q
      refine v_sub [0, 1, 2] rfl ?_
      exact he218 _ _ _ h
    · have h := h.2 q
      refine v_iload_n C dX11_dual_112 3 rfl ?_
      refine v_bipush C dX11_dual_113 (by decide) ?_
      refine v_irem C dX11_dual_115 (by decide) ?_
      refine v_iconst C dX11_dual_116 ?_
      refine v_idiv C dX11_dual_117 (by decide) ?_
      refine v_istore C [(5, _), (0, _), (1, _), (2, _), (3, _), (4, _)] dX11_dual_118 (by decide) rfl ?_
      have h := h _ rfl
      refine v_aload_n C dX11_dual_120 1 rfl ?_
      refine g_X11_tried C wd_1101 dX11_dual_121 ?_
      refine v_iload_n C dX11_dual_124 3 rfl ?_
      refine v_iload C dX11_dual_125 0 rfl ?_
      refine v_callv C (rn_S C _ (m_X11_adds rfl h) mf_X11_adds wd_1276 wd_1275 rfl rfl ⟨(Nat.le_of_ble_eq_true rfl), (Nat.le_of_ble_eq_true rfl)⟩ rfl rfl (Nat.le_of_ble_eq_true rfl) dX11_dual_127) (fun w h => ?_)
      refine v_aload_n C dX11_dual_130 1 rfl ?_
      refine g_X11_wayOf C wd_1108 dX11_dual_131 ?_
      refine v_iload C dX11_dual_134 0 rfl ?_
      refine v_iald C rfl h.1 dX11_dual_136 ?_
      have h := h.2
      refine v_if_ge C 155 dX11_dual_137 (by decide) (fun q => ?_) (fun q => ?_)
      · have h := h.1 q
        refine v_aload_n C dX11_dual_155 1 rfl ?_
        refine g_X11_tried C wd_1101 dX11_dual_156 ?_
        refine v_iconst C dX11_dual_159 ?_
        refine v_iconst C dX11_dual_160 ?_
        refine v_iload C dX11_dual_161 0 rfl ?_
        refine v_imul C dX11_dual_163 ?_
        refine v_iadd C dX11_dual_164 ?_
        refine v_iconst C dX11_dual_165 ?_
        refine v_iadd C dX11_dual_166 ?_
        refine v_iload_n C dX11_dual_167 3 rfl ?_
        refine v_iast C rfl h.1 dX11_dual_168 ?_
        have h := h.2
        have h := h _ rfl
        refine v_sub [1, 2, 3, 4, 5, 0] rfl ?_
        exact t_X11_dual_b169 C R ih he218 _ _ _ _ _ _ h
      · have h := h.2 q
        refine v_aload_n C dX11_dual_140 1 rfl ?_
        refine g_X11_tried C wd_1101 dX11_dual_141 ?_
        refine v_iconst C dX11_dual_144 ?_
        refine v_iconst C dX11_dual_145 ?_
        refine v_iload C dX11_dual_146 0 rfl ?_
        refine v_imul C dX11_dual_148 ?_
        refine v_iadd C dX11_dual_149 ?_
        refine v_iload_n C dX11_dual_150 3 rfl ?_
        refine v_iast C rfl h.1 dX11_dual_151 ?_
        have h := h.2
        have h := h _ rfl
        refine v_goto C 169 dX11_dual_152 (by decide) ?_
        refine v_sub [1, 2, 3, 4, 5, 0] rfl ?_
        exact t_X11_dual_b169 C R ih he218 _ _ _ _ _ _ h
def X11_dual_b218 (Q : Int → Wd → Prop) (c86 : Int → Int → Wd → Prop) (e224 : Int → Wd → Prop) (x1 : Int) (x2 : Int) (w : Wd) : Prop := c86 x1 (x2 + 1) w
theorem t_X11_dual_b218 {Z : Zw} {E : Amb} {Q : Int → Wd → Prop} {c86 : Int → Int → Wd → Prop} {e224 : Int → Wd → Prop} (C : Cx Z (adA Z) E cX11_dual "HandleFacesModel" 6 rm_X11_dual) (R : Rt Z E (some .int) (qI Z Q)) (hc86 : ∀ (x1 : Int) (x2 : Int) (w : Wd), c86 x1 x2 w → V Z (adA Z) E 6 w 86 [(0, rv Z 65), (1, iv x1), (2, iv x2)] []) (he224 : ∀ (x1 : Int) (w : Wd), e224 x1 w → V Z (adA Z) E 6 w 224 [(0, rv Z 65), (1, iv x1)] []) : ∀ (x1 : Int) (x2 : Int) (w : Wd), X11_dual_b218 Q c86 e224 x1 x2 w → V Z (adA Z) E 6 w 218 [(0, rv Z 65), (1, iv x1), (2, iv x2)] [] := by
  intro x1 x2 w h
  unfold X11_dual_b218 at h
  refine v_iinc C [(2, _), (0, _), (1, _)] dX11_dual_218 2 rfl (by decide) rfl ?_
  refine v_goto C 86 dX11_dual_221 (by decide) ?_
  refine v_sub [1, 2, 0] rfl ?_
  exact hc86 _ _ _ h
def X11_dual_l86 (Q : Int → Wd → Prop) (e224 : Int → Wd → Prop) : Nat → Int → Int → Wd → Prop
  | 0 => fun _ _ _ => False
  | n + 1 => fun x1 x2 w => ((wr x1 ≤ wr x2 → e224 x1 w) ∧ (¬ wr x1 ≤ wr x2 → (ix x2 30 ∧ (∀ y9, y9 = (rd w 80 x2) → (∃ m, X11_dual_l101 Q (X11_dual_b218 Q (X11_dual_l86 Q e224 n) e224) m x1 x2 y9 0 w)))))
theorem t_X11_dual_l86 {Z : Zw} {E : Amb} {Q : Int → Wd → Prop} {e224 : Int → Wd → Prop} (C : Cx Z (adA Z) E cX11_dual "HandleFacesModel" 6 rm_X11_dual) (R : Rt Z E (some .int) (qI Z Q)) (he224 : ∀ (x1 : Int) (w : Wd), e224 x1 w → V Z (adA Z) E 6 w 224 [(0, rv Z 65), (1, iv x1)] []) : ∀ (n : Nat) (x1 : Int) (x2 : Int) (w : Wd), X11_dual_l86 Q e224 n x1 x2 w → V Z (adA Z) E 6 w 86 [(0, rv Z 65), (1, iv x1), (2, iv x2)] [] := by
  intro n
  induction n with
  | zero => intro x1 x2 w h; exact h.elim
  | succ n ih =>
    intro x1 x2 w h
    unfold X11_dual_l86 at h
    refine v_iload_n C dX11_dual_86 2 rfl ?_
    refine v_iload_n C dX11_dual_87 1 rfl ?_
    refine v_icmp_ge C 224 dX11_dual_88 (by decide) (fun q => ?_) (fun q => ?_)
    · have h := h.1 q
      refine v_sub [0, 1] rfl ?_
      exact he224 _ _ h
    · have h := h.2 q
      refine v_aload_n C dX11_dual_91 0 rfl ?_
      refine g_X11_faceFrom C wd_1098 dX11_dual_92 ?_
      refine v_iload_n C dX11_dual_95 2 rfl ?_
      refine v_iald C rfl h.1 dX11_dual_96 ?_
      have h := h.2
      refine v_istore_n C [(3, _), (0, _), (1, _), (2, _)] dX11_dual_97 3 rfl (by decide) rfl ?_
      have h := h _ rfl
      refine v_iconst C dX11_dual_98 ?_
      refine v_istore C [(4, _), (3, _), (0, _), (1, _), (2, _)] dX11_dual_99 (by decide) rfl ?_
      refine v_sub [2, 3, 4, 1, 0] rfl ?_
      obtain ⟨m, h⟩ := h
      exact t_X11_dual_l101 C R (t_X11_dual_b218 C R ih he224) m _ _ _ _ _ h
def X11_dual_l230 (Q : Int → Wd → Prop) (e254 : Int → Wd → Prop) : Nat → Int → Int → Wd → Prop
  | 0 => fun _ _ _ => False
  | n + 1 => fun x1 x2 w => ((wr 98 ≤ wr x2 → e254 x1 w) ∧ (¬ wr 98 ≤ wr x2 → (ix x2 98 ∧ (ix x2 98 ∧ (∀ w19, w19 = wt w 73 x2 (rd w 83 x2) → (X11_dual_l230 Q e254 n) x1 (x2 + 1) w19)))))
theorem t_X11_dual_l230 {Z : Zw} {E : Amb} {Q : Int → Wd → Prop} {e254 : Int → Wd → Prop} (C : Cx Z (adA Z) E cX11_dual "HandleFacesModel" 6 rm_X11_dual) (R : Rt Z E (some .int) (qI Z Q)) (he254 : ∀ (x1 : Int) (w : Wd), e254 x1 w → V Z (adA Z) E 6 w 254 [(1, iv x1)] []) : ∀ (n : Nat) (x1 : Int) (x2 : Int) (w : Wd), X11_dual_l230 Q e254 n x1 x2 w → V Z (adA Z) E 6 w 230 [(0, rv Z 65), (1, iv x1), (2, iv x2)] [] := by
  intro n
  induction n with
  | zero => intro x1 x2 w h; exact h.elim
  | succ n ih =>
    intro x1 x2 w h
    unfold X11_dual_l230 at h
    refine v_iload_n C dX11_dual_230 2 rfl ?_
    refine v_bipush C dX11_dual_231 (by decide) ?_
    refine v_icmp_ge C 254 dX11_dual_233 (by decide) (fun q => ?_) (fun q => ?_)
    · have h := h.1 q
      refine v_sub [1] rfl ?_
      exact he254 _ _ h
    · have h := h.2 q
      refine v_aload_n C dX11_dual_236 0 rfl ?_
      refine g_X11_now C wd_1087 dX11_dual_237 ?_
      refine v_iload_n C dX11_dual_240 2 rfl ?_
      refine v_aload_n C dX11_dual_241 0 rfl ?_
      refine g_X11_tried C wd_1101 dX11_dual_242 ?_
      refine v_iload_n C dX11_dual_245 2 rfl ?_
      refine v_iald C rfl h.1 dX11_dual_246 ?_
      have h := h.2
      refine v_iast C rfl h.1 dX11_dual_247 ?_
      have h := h.2
      have h := h _ rfl
      refine v_iinc C [(2, _), (0, _), (1, _)] dX11_dual_248 2 rfl (by decide) rfl ?_
      refine v_goto C 230 dX11_dual_251 (by decide) ?_
      refine v_sub [1, 2, 0] rfl ?_
      exact ih _ _ _ h
def X11_dual_b254 (Q : Int → Wd → Prop) (x1 : Int) (w : Wd) : Prop := Q (wr x1) w
theorem t_X11_dual_b254 {Z : Zw} {E : Amb} {Q : Int → Wd → Prop} (C : Cx Z (adA Z) E cX11_dual "HandleFacesModel" 6 rm_X11_dual) (R : Rt Z E (some .int) (qI Z Q)) : ∀ (x1 : Int) (w : Wd), X11_dual_b254 Q x1 w → V Z (adA Z) E 6 w 254 [(1, iv x1)] [] := by
  intro x1 w h
  unfold X11_dual_b254 at h
  refine v_iload_n C dX11_dual_254 0 rfl ?_
  exact v_iret C R h dX11_dual_255
def X11_dual_b224 (Q : Int → Wd → Prop) (x1 : Int) (w : Wd) : Prop := X11_marks w (fun w18 => (∃ m, X11_dual_l230 Q (X11_dual_b254 Q) m x1 0 w18))
theorem t_X11_dual_b224 {Z : Zw} {E : Amb} {Q : Int → Wd → Prop} (C : Cx Z (adA Z) E cX11_dual "HandleFacesModel" 6 rm_X11_dual) (R : Rt Z E (some .int) (qI Z Q)) : ∀ (x1 : Int) (w : Wd), X11_dual_b224 Q x1 w → V Z (adA Z) E 6 w 224 [(0, rv Z 65), (1, iv x1)] [] := by
  intro x1 w h
  unfold X11_dual_b224 at h
  refine v_aload_n C dX11_dual_224 0 rfl ?_
  refine v_callv C (rn_V C _ (m_X11_marks h) mf_X11_marks wd_1318 wp_59 wd_1316 rfl rfl ⟨(Nat.le_of_ble_eq_true rfl), (Nat.le_of_ble_eq_true rfl)⟩ rfl rfl rfl rfl (Nat.le_of_ble_eq_true rfl) dX11_dual_225) (fun w h => ?_)
  refine v_iconst C dX11_dual_228 ?_
  refine v_istore_n C [(2, _), (0, _), (1, _)] dX11_dual_229 2 rfl (by decide) rfl ?_
  refine v_sub [1, 2, 0] rfl ?_
  obtain ⟨m, h⟩ := h
  exact t_X11_dual_l230 C R (t_X11_dual_b254 C R) m _ _ _ h
def X11_dual_b84 (Q : Int → Wd → Prop) (x1 : Int) (w : Wd) : Prop := (∃ m, X11_dual_l86 Q (X11_dual_b224 Q) m x1 0 w)
theorem t_X11_dual_b84 {Z : Zw} {E : Amb} {Q : Int → Wd → Prop} (C : Cx Z (adA Z) E cX11_dual "HandleFacesModel" 6 rm_X11_dual) (R : Rt Z E (some .int) (qI Z Q)) : ∀ (x1 : Int) (w : Wd), X11_dual_b84 Q x1 w → V Z (adA Z) E 6 w 84 [(0, rv Z 65), (1, iv x1)] [] := by
  intro x1 w h
  unfold X11_dual_b84 at h
  refine v_iconst C dX11_dual_84 ?_
  refine v_istore_n C [(2, _), (0, _), (1, _)] dX11_dual_85 2 rfl (by decide) rfl ?_
  refine v_sub [1, 2, 0] rfl ?_
  obtain ⟨m, h⟩ := h
  exact t_X11_dual_l86 C R (t_X11_dual_b224 C R) m _ _ _ h
def X11_dual_b40 (Q : Int → Wd → Prop) (x1 : Int) (w : Wd) : Prop := (ix 0 98 ∧ (∀ w6, w6 = wt w 83 0 x1 → (ix 1 98 ∧ (ix 1 98 ∧ (∀ w7, w7 = wt w6 83 1 (rd w6 73 1) → (∃ m, X11_dual_l61 Q (X11_dual_b84 Q) m x1 0 w7))))))
theorem t_X11_dual_b40 {Z : Zw} {E : Amb} {Q : Int → Wd → Prop} (C : Cx Z (adA Z) E cX11_dual "HandleFacesModel" 6 rm_X11_dual) (R : Rt Z E (some .int) (qI Z Q)) : ∀ (x1 : Int) (w : Wd), X11_dual_b40 Q x1 w → V Z (adA Z) E 6 w 40 [(0, rv Z 65), (1, iv x1)] [] := by
  intro x1 w h
  unfold X11_dual_b40 at h
  refine v_aload_n C dX11_dual_40 0 rfl ?_
  refine g_X11_tried C wd_1101 dX11_dual_41 ?_
  refine v_iconst C dX11_dual_44 ?_
  refine v_iload_n C dX11_dual_45 1 rfl ?_
  refine v_iast C rfl h.1 dX11_dual_46 ?_
  have h := h.2
  have h := h _ rfl
  refine v_aload_n C dX11_dual_47 0 rfl ?_
  refine g_X11_tried C wd_1101 dX11_dual_48 ?_
  refine v_iconst C dX11_dual_51 ?_
  refine v_aload_n C dX11_dual_52 0 rfl ?_
  refine g_X11_now C wd_1087 dX11_dual_53 ?_
  refine v_iconst C dX11_dual_56 ?_
  refine v_iald C rfl h.1 dX11_dual_57 ?_
  have h := h.2
  refine v_iast C rfl h.1 dX11_dual_58 ?_
  have h := h.2
  have h := h _ rfl
  refine v_iconst C dX11_dual_59 ?_
  refine v_istore_n C [(2, _), (0, _), (1, _)] dX11_dual_60 2 rfl (by decide) rfl ?_
  refine v_sub [1, 2, 0] rfl ?_
  obtain ⟨m, h⟩ := h
  exact t_X11_dual_l61 C R (t_X11_dual_b84 C R) m _ _ _ h
def X11_dual (w : Wd) (Q : Int → Wd → Prop) : Prop := X11_traces 73 w (fun y2 w1 => X11_hasDual y2 w1 (fun y4 w3 => ((wr y4 = 0 → Q (wr (-1)) w3) ∧ (¬ wr y4 = 0 → (∃ m, X11_dual_l21 Q (X11_dual_b40 Q) m y2 0 w3)))))
theorem m_X11_dual {Z : Zw} {l : Launch} {w : Wd} {Q : Int → Wd → Prop} (h : X11_dual w Q) : CtQ Z l yX11_dual cX11_dual 6 (some .int) rm_X11_dual [rv Z 65] w (qI Z Q) := by
  refine ct_of (by decide) (Nat.le_of_ble_eq_true rfl) (fun E eE C R => ?_)
  subst eE
  have C : Cx Z (adA Z) E cX11_dual "HandleFacesModel" 6 rm_X11_dual := C
  unfold X11_dual at h
  show V Z (adA Z) E 6 w 0 [(0, rv Z 65)] []
  refine v_aload_n C dX11_dual_0 0 rfl ?_
  refine v_aload_n C dX11_dual_1 0 rfl ?_
  refine g_X11_now C wd_1087 dX11_dual_2 ?_
  refine v_calli C (rn_V C _ (m_X11_traces rfl h) mf_X11_traces wd_1375 wp_62 wd_1373 rfl rfl ⟨(Nat.le_of_ble_eq_true rfl), (Nat.le_of_ble_eq_true rfl)⟩ rfl rfl rfl rfl (Nat.le_of_ble_eq_true rfl) dX11_dual_5) (fun r w h => ?_)
  refine v_istore_n C [(1, _), (0, _)] dX11_dual_8 1 rfl (by decide) rfl ?_
  refine v_aload_n C dX11_dual_9 1 rfl ?_
  refine v_iload_n C dX11_dual_10 0 rfl ?_
  refine v_calli C (rn_V C _ (m_X11_hasDual h) mf_X11_hasDual wd_1496 wp_76 wd_1494 rfl rfl ⟨(Nat.le_of_ble_eq_true rfl), (Nat.le_of_ble_eq_true rfl)⟩ rfl rfl rfl rfl (Nat.le_of_ble_eq_true rfl) dX11_dual_11) (fun r w h => ?_)
  refine v_if_ne C 19 dX11_dual_14 (by decide) (fun q => ?_) (fun q => ?_)
  · have h := h.2 q
    refine v_iconst C dX11_dual_19 ?_
    refine v_istore_n C [(2, _), (1, _), (0, _)] dX11_dual_20 2 rfl (by decide) rfl ?_
    refine v_sub [2, 1, 0] rfl ?_
    obtain ⟨m, h⟩ := h
    exact t_X11_dual_l21 C R (t_X11_dual_b40 C R) m _ _ _ h
  · have h := h.1 q
    refine v_iconst C dX11_dual_17 ?_
    exact v_iret C R h dX11_dual_18
abbrev rm_X11_sends : Room := { frames := 0, cells := 0, slots := 0, locals := 0 }
theorem mf_X11_sends : MfB yX11_sends cX11_sends 3 (some .boolean) 2 := ⟨wd_1513, wd_13, by decide, by decide, by decide +kernel⟩
def X11_sends_b18 (Q : Int → Wd → Prop) (x1 : Int) (x2 : Int) (w : Wd) : Prop := (ix x1 40 ∧ ((wr (rd w 88 x1) = wr x2 → Q 1 w) ∧ (¬ wr (rd w 88 x1) = wr x2 → Q 0 w)))
theorem t_X11_sends_b18 {Z : Zw} {E : Amb} {Q : Int → Wd → Prop} (C : Cx Z (adA Z) E cX11_sends "HandleFacesModel" 3 rm_X11_sends) (R : Rt Z E (some .boolean) (qI Z Q)) : ∀ (x1 : Int) (x2 : Int) (w : Wd), X11_sends_b18 Q x1 x2 w → V Z (adA Z) E 3 w 18 [(0, rv Z 65), (1, iv x1), (2, iv x2)] [] := by
  intro x1 x2 w h
  unfold X11_sends_b18 at h
  refine v_aload_n C dX11_sends_18 0 rfl ?_
  refine g_X11_sent C wd_1109 dX11_sends_19 ?_
  refine v_iload_n C dX11_sends_22 1 rfl ?_
  refine v_iald C rfl h.1 dX11_sends_23 ?_
  have h := h.2
  refine v_iload_n C dX11_sends_24 2 rfl ?_
  refine v_icmp_ne C 32 dX11_sends_25 (by decide) (fun q => ?_) (fun q => ?_)
  · have h := h.2 q
    refine v_iconst C dX11_sends_32 ?_
    exact v_zret C R (Or.inl rfl) h dX11_sends_33
  · have h := h.1 q
    refine v_iconst C dX11_sends_28 ?_
    refine v_goto C 33 dX11_sends_29 (by decide) ?_
    exact v_zret C R (Or.inr rfl) h dX11_sends_33
def X11_sends (x1 : Int) (x2 : Int) (w : Wd) (Q : Int → Wd → Prop) : Prop := (ix x1 40 ∧ ((0 ≤ wr (rd w 88 x1) → X11_sends_b18 Q x1 x2 w) ∧ (¬ 0 ≤ wr (rd w 88 x1) → (ix x2 40 ∧ ((wr (rd w 89 x2) < 0 → (ix x1 40 ∧ (∀ w1, w1 = wt w 88 x1 x2 → (ix x2 40 ∧ (∀ w2, w2 = wt w1 89 x2 x1 → (ix (w2 65 42) 40 ∧ (∀ w3, w3 = wt w2 90 (w2 65 42) x1 → (∀ w4, w4 = up w3 65 42 ((w3 65 42) + 1) → Q 1 w4)))))))) ∧ (¬ wr (rd w 89 x2) < 0 → X11_sends_b18 Q x1 x2 w))))))
theorem m_X11_sends {Z : Zw} {l : Launch} {x1 : Int} {x2 : Int} {w : Wd} {Q : Int → Wd → Prop} (h : X11_sends x1 x2 w Q) : CtQ Z l yX11_sends cX11_sends 3 (some .boolean) rm_X11_sends [rv Z 65, iv x1, iv x2] w (qI Z Q) := by
  refine ct_of (by decide) (Nat.le_of_ble_eq_true rfl) (fun E eE C R => ?_)
  subst eE
  have C : Cx Z (adA Z) E cX11_sends "HandleFacesModel" 3 rm_X11_sends := C
  unfold X11_sends at h
  show V Z (adA Z) E 3 w 0 [(0, rv Z 65), (1, iv x1), (2, iv x2)] []
  refine v_aload_n C dX11_sends_0 0 rfl ?_
  refine g_X11_sent C wd_1109 dX11_sends_1 ?_
  refine v_iload_n C dX11_sends_4 1 rfl ?_
  refine v_iald C rfl h.1 dX11_sends_5 ?_
  have h := h.2
  refine v_if_ge C 18 dX11_sends_6 (by decide) (fun q => ?_) (fun q => ?_)
  · have h := h.1 q
    exact t_X11_sends_b18 C R _ _ _ h
  · have h := h.2 q
    refine v_aload_n C dX11_sends_9 0 rfl ?_
    refine g_X11_taken C wd_1110 dX11_sends_10 ?_
    refine v_iload_n C dX11_sends_13 2 rfl ?_
    refine v_iald C rfl h.1 dX11_sends_14 ?_
    have h := h.2
    refine v_if_lt C 34 dX11_sends_15 (by decide) (fun q => ?_) (fun q => ?_)
    · have h := h.1 q
      refine v_aload_n C dX11_sends_34 0 rfl ?_
      refine g_X11_sent C wd_1109 dX11_sends_35 ?_
      refine v_iload_n C dX11_sends_38 1 rfl ?_
      refine v_iload_n C dX11_sends_39 2 rfl ?_
      refine v_iast C rfl h.1 dX11_sends_40 ?_
      have h := h.2
      have h := h _ rfl
      refine v_aload_n C dX11_sends_41 0 rfl ?_
      refine g_X11_taken C wd_1110 dX11_sends_42 ?_
      refine v_iload_n C dX11_sends_45 2 rfl ?_
      refine v_iload_n C dX11_sends_46 1 rfl ?_
      refine v_iast C rfl h.1 dX11_sends_47 ?_
      have h := h.2
      have h := h _ rfl
      refine v_aload_n C dX11_sends_48 0 rfl ?_
      refine g_X11_queue C wd_1111 dX11_sends_49 ?_
      refine v_aload_n C dX11_sends_52 0 rfl ?_
      refine g_X11_queued C wd_1112 dX11_sends_53 ?_
      refine v_iload_n C dX11_sends_56 1 rfl ?_
      refine v_iast C rfl h.1 dX11_sends_57 ?_
      have h := h.2
      have h := h _ rfl
      refine v_aload_n C dX11_sends_58 0 rfl ?_
      refine v_dup C dX11_sends_59 rfl ?_
      refine g_X11_queued C wd_1112 dX11_sends_60 ?_
      refine v_iconst C dX11_sends_63 ?_
      refine v_iadd C dX11_sends_64 ?_
      refine p_X11_queued C wd_1112 dX11_sends_65 ?_
      have h := h _ rfl
      refine v_iconst C dX11_sends_68 ?_
      exact v_zret C R (Or.inr rfl) h dX11_sends_69
    · have h := h.2 q
      exact t_X11_sends_b18 C R _ _ _ h
abbrev rm_X11_turnedAt : Room := { frames := 0, cells := 0, slots := 0, locals := 0 }
theorem mf_X11_turnedAt : MfB yX11_turnedAt cX11_turnedAt 1 (some .int) 1 := ⟨wd_1516, wd_13, by decide, by decide, by decide +kernel⟩
def X11_turnedAt (x0 : Int) (w : Wd) (Q : Int → Wd → Prop) : Prop := ((wr x0 < wr 20 → Q (wr (x0 + 20)) w) ∧ (¬ wr x0 < wr 20 → Q (wr (x0 - 20)) w))
theorem m_X11_turnedAt {Z : Zw} {l : Launch} {x0 : Int} {w : Wd} {Q : Int → Wd → Prop} (h : X11_turnedAt x0 w Q) : CtQ Z l yX11_turnedAt cX11_turnedAt 1 (some .int) rm_X11_turnedAt [iv x0] w (qI Z Q) := by
  refine ct_of (by decide) (Nat.le_of_ble_eq_true rfl) (fun E eE C R => ?_)
  subst eE
  have C : Cx Z (adA Z) E cX11_turnedAt "HandleFacesModel" 1 rm_X11_turnedAt := C
  unfold X11_turnedAt at h
  show V Z (adA Z) E 1 w 0 [(0, iv x0)] []
  refine v_iload_n C dX11_turnedAt_0 0 rfl ?_
  refine v_bipush C dX11_turnedAt_1 (by decide) ?_
  refine v_icmp_lt C 13 dX11_turnedAt_3 (by decide) (fun q => ?_) (fun q => ?_)
  · have h := h.1 q
    refine v_iload_n C dX11_turnedAt_13 0 rfl ?_
    refine v_bipush C dX11_turnedAt_14 (by decide) ?_
    refine v_iadd C dX11_turnedAt_16 ?_
    exact v_iret C R h dX11_turnedAt_17
  · have h := h.2 q
    refine v_iload_n C dX11_turnedAt_6 0 rfl ?_
    refine v_bipush C dX11_turnedAt_7 (by decide) ?_
    refine v_isub C dX11_turnedAt_9 ?_
    refine v_goto C 17 dX11_turnedAt_10 (by decide) ?_
    exact v_iret C R h dX11_turnedAt_17
abbrev rm_X11_canSend : Room := { frames := 2, cells := 0, slots := 0, locals := 51 }
theorem mf_X11_canSend : MfB yX11_canSend cX11_canSend 7 (some .boolean) 2 := ⟨wd_1509, wd_13, by decide, by decide, by decide +kernel⟩
def X11_canSend_l2 (r1 : Nat) (Q : Int → Wd → Prop) (e28 : Int → Wd → Prop) : Nat → Int → Int → Wd → Prop
  | 0 => fun _ _ _ => False
  | n + 1 => fun x2 x3 w => ((wr 40 ≤ wr x3 → e28 x2 w) ∧ (¬ wr 40 ≤ wr x3 → (ix x3 40 ∧ (∀ w1, w1 = wt w 88 x3 (-1) → (ix x3 40 ∧ (∀ w2, w2 = wt w1 89 x3 (-1) → (X11_canSend_l2 r1 Q e28 n) x2 (x3 + 1) w2))))))
theorem t_X11_canSend_l2 {Z : Zw} {E : Amb} {r1 : Nat} {Q : Int → Wd → Prop} {e28 : Int → Wd → Prop} (C : Cx Z (adA Z) E cX11_canSend "HandleFacesModel" 7 rm_X11_canSend) (R : Rt Z E (some .boolean) (qI Z Q)) (h1 : shp r1 = (1, 98, [])) (he28 : ∀ (x2 : Int) (w : Wd), e28 x2 w → V Z (adA Z) E 7 w 28 [(0, rv Z 65), (1, rv Z r1), (2, iv x2)] []) : ∀ (n : Nat) (x2 : Int) (x3 : Int) (w : Wd), X11_canSend_l2 r1 Q e28 n x2 x3 w → V Z (adA Z) E 7 w 2 [(0, rv Z 65), (1, rv Z r1), (2, iv x2), (3, iv x3)] [] := by
  intro n
  induction n with
  | zero => intro x2 x3 w h; exact h.elim
  | succ n ih =>
    intro x2 x3 w h
    unfold X11_canSend_l2 at h
    refine v_iload_n C dX11_canSend_2 3 rfl ?_
    refine v_bipush C dX11_canSend_3 (by decide) ?_
    refine v_icmp_ge C 28 dX11_canSend_5 (by decide) (fun q => ?_) (fun q => ?_)
    · have h := h.1 q
      refine v_sub [0, 1, 2] rfl ?_
      exact he28 _ _ h
    · have h := h.2 q
      refine v_aload_n C dX11_canSend_8 0 rfl ?_
      refine g_X11_sent C wd_1109 dX11_canSend_9 ?_
      refine v_iload_n C dX11_canSend_12 3 rfl ?_
      refine v_iconst C dX11_canSend_13 ?_
      refine v_iast C rfl h.1 dX11_canSend_14 ?_
      have h := h.2
      have h := h _ rfl
      refine v_aload_n C dX11_canSend_15 0 rfl ?_
      refine g_X11_taken C wd_1110 dX11_canSend_16 ?_
      refine v_iload_n C dX11_canSend_19 3 rfl ?_
      refine v_iconst C dX11_canSend_20 ?_
      refine v_iast C rfl h.1 dX11_canSend_21 ?_
      have h := h.2
      have h := h _ rfl
      refine v_iinc C [(3, _), (0, _), (1, _), (2, _)] dX11_canSend_22 3 rfl (by decide) rfl ?_
      refine v_goto C 2 dX11_canSend_25 (by decide) ?_
      refine v_sub [1, 2, 3, 0] rfl ?_
      exact ih _ _ _ h
def X11_canSend_b139 (r1 : Nat) (Q : Int → Wd → Prop) (c43 : Int → Int → Wd → Prop) (e147 : Int → Wd → Prop) (x4 : Int) (w : Wd) : Prop := c43 0 (x4 + 1) w
theorem t_X11_canSend_b139 {Z : Zw} {E : Amb} {r1 : Nat} {Q : Int → Wd → Prop} {c43 : Int → Int → Wd → Prop} {e147 : Int → Wd → Prop} (C : Cx Z (adA Z) E cX11_canSend "HandleFacesModel" 7 rm_X11_canSend) (R : Rt Z E (some .boolean) (qI Z Q)) (h1 : shp r1 = (1, 98, [])) (hc43 : ∀ (x3 : Int) (x4 : Int) (w : Wd), c43 x3 x4 w → V Z (adA Z) E 7 w 43 [(0, rv Z 65), (1, rv Z r1), (3, iv x3), (4, iv x4)] []) (he147 : ∀ (x3 : Int) (w : Wd), e147 x3 w → V Z (adA Z) E 7 w 147 [(3, iv x3)] []) : ∀ (x4 : Int) (w : Wd), X11_canSend_b139 r1 Q c43 e147 x4 w → V Z (adA Z) E 7 w 139 [(0, rv Z 65), (1, rv Z r1), (4, iv x4)] [] := by
  intro x4 w h
  unfold X11_canSend_b139 at h
  refine v_iconst C dX11_canSend_139 ?_
  refine v_istore_n C [(3, _), (0, _), (1, _), (4, _)] dX11_canSend_140 3 rfl (by decide) rfl ?_
  refine v_iinc C [(4, _), (3, _), (0, _), (1, _)] dX11_canSend_141 3 rfl (by decide) rfl ?_
  refine v_goto C 43 dX11_canSend_144 (by decide) ?_
  refine v_sub [2, 3, 1, 0] rfl ?_
  exact hc43 _ _ _ h
def X11_canSend_l43 (r1 : Nat) (Q : Int → Wd → Prop) (e147 : Int → Wd → Prop) : Nat → Int → Int → Wd → Prop
  | 0 => fun _ _ _ => False
  | n + 1 => fun x3 x4 w => ((wr (w 65 42) ≤ wr x4 → e147 x3 w) ∧ (¬ wr (w 65 42) ≤ wr x4 → ((wr x3 = 0 → e147 x3 w) ∧ (¬ wr x3 = 0 → (ix x4 40 ∧ (∀ y6, y6 = (rd w 90 x4) → (ix y6 40 ∧ (∀ y7, y7 = (rd w 88 y6) → X11_turnedAt y6 w (fun y9 w8 => X11_turnedAt y7 w8 (fun y11 w10 => X11_sends y9 y11 w10 (fun y13 w12 => ((wr y13 = 0 → X11_canSend_b139 r1 Q (X11_canSend_l43 r1 Q e147 n) e147 x4 w12) ∧ (¬ wr y13 = 0 → X11_nextOf 73 y6 w12 (fun y15 w14 => X11_nextOf r1 y7 w14 (fun y17 w16 => X11_sends y15 y17 w16 (fun y19 w18 => ((wr y19 = 0 → X11_canSend_b139 r1 Q (X11_canSend_l43 r1 Q e147 n) e147 x4 w18) ∧ (¬ wr y19 = 0 → X11_mirrorOf 73 y6 w18 (fun y21 w20 => X11_mirrorOf r1 y7 w20 (fun y23 w22 => X11_sends y21 y23 w22 (fun y25 w24 => ((wr y25 = 0 → X11_canSend_b139 r1 Q (X11_canSend_l43 r1 Q e147 n) e147 x4 w24) ∧ (¬ wr y25 = 0 → (X11_canSend_l43 r1 Q e147 n) 1 (x4 + 1) w24)))))))))))))))))))))))
theorem t_X11_canSend_l43 {Z : Zw} {E : Amb} {r1 : Nat} {Q : Int → Wd → Prop} {e147 : Int → Wd → Prop} (C : Cx Z (adA Z) E cX11_canSend "HandleFacesModel" 7 rm_X11_canSend) (R : Rt Z E (some .boolean) (qI Z Q)) (h1 : shp r1 = (1, 98, [])) (he147 : ∀ (x3 : Int) (w : Wd), e147 x3 w → V Z (adA Z) E 7 w 147 [(3, iv x3)] []) : ∀ (n : Nat) (x3 : Int) (x4 : Int) (w : Wd), X11_canSend_l43 r1 Q e147 n x3 x4 w → V Z (adA Z) E 7 w 43 [(0, rv Z 65), (1, rv Z r1), (3, iv x3), (4, iv x4)] [] := by
  intro n
  induction n with
  | zero => intro x3 x4 w h; exact h.elim
  | succ n ih =>
    intro x3 x4 w h
    unfold X11_canSend_l43 at h
    refine v_iload C dX11_canSend_43 3 rfl ?_
    refine v_aload_n C dX11_canSend_45 0 rfl ?_
    refine g_X11_queued C wd_1112 dX11_canSend_46 ?_
    refine v_icmp_ge C 147 dX11_canSend_49 (by decide) (fun q => ?_) (fun q => ?_)
    · have h := h.1 q
      refine v_sub [2] rfl ?_
      exact he147 _ _ h
    · have h := h.2 q
      refine v_iload_n C dX11_canSend_52 2 rfl ?_
      refine v_if_eq C 147 dX11_canSend_53 (by decide) (fun q => ?_) (fun q => ?_)
      · have h := h.1 q
        refine v_sub [2] rfl ?_
        exact he147 _ _ h
      · have h := h.2 q
        refine v_aload_n C dX11_canSend_56 0 rfl ?_
        refine g_X11_queue C wd_1111 dX11_canSend_57 ?_
        refine v_iload C dX11_canSend_60 3 rfl ?_
        refine v_iald C rfl h.1 dX11_canSend_62 ?_
        have h := h.2
        refine v_istore C [(5, _), (0, _), (1, _), (3, _), (4, _)] dX11_canSend_63 (by decide) rfl ?_
        have h := h _ rfl
        refine v_aload_n C dX11_canSend_65 1 rfl ?_
        refine g_X11_sent C wd_1109 dX11_canSend_66 ?_
        refine v_iload C dX11_canSend_69 0 rfl ?_
        refine v_iald C rfl h.1 dX11_canSend_71 ?_
        have h := h.2
        refine v_istore C [(6, _), (5, _), (0, _), (1, _), (3, _), (4, _)] dX11_canSend_72 (by decide) rfl ?_
        have h := h _ rfl
        refine v_aload_n C dX11_canSend_74 2 rfl ?_
        refine v_iload C dX11_canSend_75 1 rfl ?_
        refine v_calli C (rn_S C _ (m_X11_turnedAt h) mf_X11_turnedAt wd_1515 wd_1514 rfl rfl ⟨(Nat.le_of_ble_eq_true rfl), (Nat.le_of_ble_eq_true rfl)⟩ rfl rfl (Nat.le_of_ble_eq_true rfl) dX11_canSend_77) (fun r w h => ?_)
        refine v_iload C dX11_canSend_80 0 rfl ?_
        refine v_calli C (rn_S C _ (m_X11_turnedAt h) mf_X11_turnedAt wd_1515 wd_1514 rfl rfl ⟨(Nat.le_of_ble_eq_true rfl), (Nat.le_of_ble_eq_true rfl)⟩ rfl rfl (Nat.le_of_ble_eq_true rfl) dX11_canSend_82) (fun r w h => ?_)
        refine v_calli C (rn_V C _ (m_X11_sends h) mf_X11_sends wd_1512 wp_79 wd_1510 rfl rfl ⟨(Nat.le_of_ble_eq_true rfl), (Nat.le_of_ble_eq_true rfl)⟩ rfl rfl rfl rfl (Nat.le_of_ble_eq_true rfl) dX11_canSend_85) (fun r w h => ?_)
        refine v_if_eq C 139 dX11_canSend_88 (by decide) (fun q => ?_) (fun q => ?_)
        · have h := h.1 q
          refine v_sub [2, 3, 5] rfl ?_
          exact t_X11_canSend_b139 C R h1 ih he147 _ _ h
        · have h := h.2 q
          refine v_aload_n C dX11_canSend_91 2 rfl ?_
          refine v_aload_n C dX11_canSend_92 2 rfl ?_
          refine g_X11_now C wd_1087 dX11_canSend_93 ?_
          refine v_iload C dX11_canSend_96 1 rfl ?_
          refine v_calli C (rn_S C _ (m_X11_nextOf rfl h) mf_X11_nextOf wd_1381 wd_1380 rfl rfl ⟨(Nat.le_of_ble_eq_true rfl), (Nat.le_of_ble_eq_true rfl)⟩ rfl rfl (Nat.le_of_ble_eq_true rfl) dX11_canSend_98) (fun r w h => ?_)
          refine v_aload_n C dX11_canSend_101 3 rfl ?_
          refine v_iload C dX11_canSend_102 0 rfl ?_
          refine v_calli C (rn_S C _ (m_X11_nextOf h1 h) mf_X11_nextOf wd_1381 wd_1380 rfl rfl ⟨(Nat.le_of_ble_eq_true rfl), (Nat.le_of_ble_eq_true rfl)⟩ rfl rfl (Nat.le_of_ble_eq_true rfl) dX11_canSend_104) (fun r w h => ?_)
          refine v_calli C (rn_V C _ (m_X11_sends h) mf_X11_sends wd_1512 wp_79 wd_1510 rfl rfl ⟨(Nat.le_of_ble_eq_true rfl), (Nat.le_of_ble_eq_true rfl)⟩ rfl rfl rfl rfl (Nat.le_of_ble_eq_true rfl) dX11_canSend_107) (fun r w h => ?_)
          refine v_if_eq C 139 dX11_canSend_110 (by decide) (fun q => ?_) (fun q => ?_)
          · have h := h.1 q
            refine v_sub [2, 3, 5] rfl ?_
            exact t_X11_canSend_b139 C R h1 ih he147 _ _ h
          · have h := h.2 q
            refine v_aload_n C dX11_canSend_113 2 rfl ?_
            refine v_aload_n C dX11_canSend_114 2 rfl ?_
            refine g_X11_now C wd_1087 dX11_canSend_115 ?_
            refine v_iload C dX11_canSend_118 1 rfl ?_
            refine v_calli C (rn_S C _ (m_X11_mirrorOf rfl h) mf_X11_mirrorOf wd_1378 wd_1377 rfl rfl ⟨(Nat.le_of_ble_eq_true rfl), (Nat.le_of_ble_eq_true rfl)⟩ rfl rfl (Nat.le_of_ble_eq_true rfl) dX11_canSend_120) (fun r w h => ?_)
            refine v_aload_n C dX11_canSend_123 3 rfl ?_
            refine v_iload C dX11_canSend_124 0 rfl ?_
            refine v_calli C (rn_S C _ (m_X11_mirrorOf h1 h) mf_X11_mirrorOf wd_1378 wd_1377 rfl rfl ⟨(Nat.le_of_ble_eq_true rfl), (Nat.le_of_ble_eq_true rfl)⟩ rfl rfl (Nat.le_of_ble_eq_true rfl) dX11_canSend_126) (fun r w h => ?_)
            refine v_calli C (rn_V C _ (m_X11_sends h) mf_X11_sends wd_1512 wp_79 wd_1510 rfl rfl ⟨(Nat.le_of_ble_eq_true rfl), (Nat.le_of_ble_eq_true rfl)⟩ rfl rfl rfl rfl (Nat.le_of_ble_eq_true rfl) dX11_canSend_129) (fun r w h => ?_)
            refine v_if_eq C 139 dX11_canSend_132 (by decide) (fun q => ?_) (fun q => ?_)
            · have h := h.1 q
              refine v_sub [2, 3, 5] rfl ?_
              exact t_X11_canSend_b139 C R h1 ih he147 _ _ h
            · have h := h.2 q
              refine v_iconst C dX11_canSend_135 ?_
              refine v_goto C 140 dX11_canSend_136 (by decide) ?_
              refine v_istore_n C [(3, _), (6, _), (5, _), (0, _), (1, _), (4, _)] dX11_canSend_140 3 rfl (by decide) rfl ?_
              refine v_iinc C [(4, _), (3, _), (6, _), (5, _), (0, _), (1, _)] dX11_canSend_141 5 rfl (by decide) rfl ?_
              refine v_goto C 43 dX11_canSend_144 (by decide) ?_
              refine v_sub [4, 5, 1, 0] rfl ?_
              exact ih _ _ _ h
def X11_canSend_b147 (r1 : Nat) (Q : Int → Wd → Prop) (x3 : Int) (w : Wd) : Prop := ((x3 = 0 ∨ x3 = 1) ∧ Q x3 w)
theorem t_X11_canSend_b147 {Z : Zw} {E : Amb} {r1 : Nat} {Q : Int → Wd → Prop} (C : Cx Z (adA Z) E cX11_canSend "HandleFacesModel" 7 rm_X11_canSend) (R : Rt Z E (some .boolean) (qI Z Q)) (h1 : shp r1 = (1, 98, [])) : ∀ (x3 : Int) (w : Wd), X11_canSend_b147 r1 Q x3 w → V Z (adA Z) E 7 w 147 [(3, iv x3)] [] := by
  intro x3 w h
  unfold X11_canSend_b147 at h
  refine v_iload_n C dX11_canSend_147 0 rfl ?_
  exact v_zret C R h.1 h.2 dX11_canSend_148
def X11_canSend_b28 (r1 : Nat) (Q : Int → Wd → Prop) (x2 : Int) (w : Wd) : Prop := (∀ w3, w3 = up w 65 42 0 → X11_sends 0 x2 w3 (fun y5 w4 => (∃ m, X11_canSend_l43 r1 Q (X11_canSend_b147 r1 Q) m y5 0 w4)))
theorem t_X11_canSend_b28 {Z : Zw} {E : Amb} {r1 : Nat} {Q : Int → Wd → Prop} (C : Cx Z (adA Z) E cX11_canSend "HandleFacesModel" 7 rm_X11_canSend) (R : Rt Z E (some .boolean) (qI Z Q)) (h1 : shp r1 = (1, 98, [])) : ∀ (x2 : Int) (w : Wd), X11_canSend_b28 r1 Q x2 w → V Z (adA Z) E 7 w 28 [(0, rv Z 65), (1, rv Z r1), (2, iv x2)] [] := by
  intro x2 w h
  unfold X11_canSend_b28 at h
  refine v_aload_n C dX11_canSend_28 0 rfl ?_
  refine v_iconst C dX11_canSend_29 ?_
  refine p_X11_queued C wd_1112 dX11_canSend_30 ?_
  have h := h _ rfl
  refine v_aload_n C dX11_canSend_33 0 rfl ?_
  refine v_iconst C dX11_canSend_34 ?_
  refine v_iload_n C dX11_canSend_35 2 rfl ?_
  refine v_calli C (rn_V C _ (m_X11_sends h) mf_X11_sends wd_1512 wp_79 wd_1510 rfl rfl ⟨(Nat.le_of_ble_eq_true rfl), (Nat.le_of_ble_eq_true rfl)⟩ rfl rfl rfl rfl (Nat.le_of_ble_eq_true rfl) dX11_canSend_36) (fun r w h => ?_)
  refine v_istore_n C [(3, _), (0, _), (1, _), (2, _)] dX11_canSend_39 3 rfl (by decide) rfl ?_
  refine v_iconst C dX11_canSend_40 ?_
  refine v_istore C [(4, _), (3, _), (0, _), (1, _), (2, _)] dX11_canSend_41 (by decide) rfl ?_
  refine v_sub [2, 3, 1, 0] rfl ?_
  obtain ⟨m, h⟩ := h
  exact t_X11_canSend_l43 C R h1 (t_X11_canSend_b147 C R h1) m _ _ _ h
def X11_canSend (r1 : Nat) (x2 : Int) (w : Wd) (Q : Int → Wd → Prop) : Prop := (∃ m, X11_canSend_l2 r1 Q (X11_canSend_b28 r1 Q) m x2 0 w)
theorem m_X11_canSend {Z : Zw} {l : Launch} {r1 : Nat} {x2 : Int} {w : Wd} {Q : Int → Wd → Prop} (h1 : shp r1 = (1, 98, [])) (h : X11_canSend r1 x2 w Q) : CtQ Z l yX11_canSend cX11_canSend 7 (some .boolean) rm_X11_canSend [rv Z 65, rv Z r1, iv x2] w (qI Z Q) := by
  refine ct_of (by decide) (Nat.le_of_ble_eq_true rfl) (fun E eE C R => ?_)
  subst eE
  have C : Cx Z (adA Z) E cX11_canSend "HandleFacesModel" 7 rm_X11_canSend := C
  unfold X11_canSend at h
  show V Z (adA Z) E 7 w 0 [(0, rv Z 65), (1, rv Z r1), (2, iv x2)] []
  refine v_iconst C dX11_canSend_0 ?_
  refine v_istore_n C [(3, _), (0, _), (1, _), (2, _)] dX11_canSend_1 3 rfl (by decide) rfl ?_
  refine v_sub [1, 2, 3, 0] rfl ?_
  obtain ⟨m, h⟩ := h
  exact t_X11_canSend_l2 C R h1 (t_X11_canSend_b28 C R h1) m _ _ _ h
abbrev rm_X11_likes : Room := { frames := 3, cells := 0, slots := 0, locals := 77 }
theorem mf_X11_likes : MfB yX11_likes cX11_likes 4 (some .int) 1 := ⟨wd_1505, wd_13, by decide, by decide, by decide +kernel⟩
def X11_likes_b93 (r1 : Nat) (Q : Int → Wd → Prop) (c69 : Int → Int → Wd → Prop) (e114 : Int → Wd → Prop) (x2 : Int) (x3 : Int) (w : Wd) : Prop := X11_canSend r1 (x3 + 20) w (fun y8 w7 => ((wr y8 = 0 → c69 x2 (x3 + 1) w7) ∧ (¬ wr y8 = 0 → c69 (x2 + 1) (x3 + 1) w7)))
theorem t_X11_likes_b93 {Z : Zw} {E : Amb} {r1 : Nat} {Q : Int → Wd → Prop} {c69 : Int → Int → Wd → Prop} {e114 : Int → Wd → Prop} (C : Cx Z (adA Z) E cX11_likes "HandleFacesModel" 4 rm_X11_likes) (R : Rt Z E (some .int) (qI Z Q)) (h1 : shp r1 = (1, 98, [])) (hc69 : ∀ (x2 : Int) (x3 : Int) (w : Wd), c69 x2 x3 w → V Z (adA Z) E 4 w 69 [(0, rv Z 65), (1, rv Z r1), (2, iv x2), (3, iv x3)] []) (he114 : ∀ (x2 : Int) (w : Wd), e114 x2 w → V Z (adA Z) E 4 w 114 [(2, iv x2)] []) : ∀ (x2 : Int) (x3 : Int) (w : Wd), X11_likes_b93 r1 Q c69 e114 x2 x3 w → V Z (adA Z) E 4 w 93 [(0, rv Z 65), (1, rv Z r1), (2, iv x2), (3, iv x3)] [] := by
  intro x2 x3 w h
  unfold X11_likes_b93 at h
  refine v_aload_n C dX11_likes_93 0 rfl ?_
  refine v_aload_n C dX11_likes_94 1 rfl ?_
  refine v_iload_n C dX11_likes_95 3 rfl ?_
  refine v_bipush C dX11_likes_96 (by decide) ?_
  refine v_iadd C dX11_likes_98 ?_
  refine v_calli C (rn_V C _ (m_X11_canSend h1 h) mf_X11_canSend wd_1508 wp_78 wd_1506 rfl rfl ⟨(Nat.le_of_ble_eq_true rfl), (Nat.le_of_ble_eq_true rfl)⟩ rfl rfl rfl rfl (Nat.le_of_ble_eq_true rfl) dX11_likes_99) (fun r w h => ?_)
  refine v_if_eq C 108 dX11_likes_102 (by decide) (fun q => ?_) (fun q => ?_)
  · have h := h.1 q
    refine v_iinc C [(3, _), (0, _), (1, _), (2, _)] dX11_likes_108 3 rfl (by decide) rfl ?_
    refine v_goto C 69 dX11_likes_111 (by decide) ?_
    refine v_sub [1, 2, 3, 0] rfl ?_
    exact hc69 _ _ _ h
  · have h := h.2 q
    refine v_iinc C [(2, _), (0, _), (1, _), (3, _)] dX11_likes_105 2 rfl (by decide) rfl ?_
    refine v_iinc C [(3, _), (2, _), (0, _), (1, _)] dX11_likes_108 3 rfl (by decide) rfl ?_
    refine v_goto C 69 dX11_likes_111 (by decide) ?_
    refine v_sub [2, 3, 1, 0] rfl ?_
    exact hc69 _ _ _ h
def X11_likes_l69 (r1 : Nat) (Q : Int → Wd → Prop) (e114 : Int → Wd → Prop) : Nat → Int → Int → Wd → Prop
  | 0 => fun _ _ _ => False
  | n + 1 => fun x2 x3 w => (ix 1 98 ∧ ((wr (2 * (rd w 73 1)) ≤ wr x3 → e114 x2 w) ∧ (¬ wr (2 * (rd w 73 1)) ≤ wr x3 → X11_canSend r1 x3 w (fun y6 w5 => ((wr y6 = 0 → X11_likes_b93 r1 Q (X11_likes_l69 r1 Q e114 n) e114 x2 x3 w5) ∧ (¬ wr y6 = 0 → X11_likes_b93 r1 Q (X11_likes_l69 r1 Q e114 n) e114 (x2 + 1) x3 w5))))))
theorem t_X11_likes_l69 {Z : Zw} {E : Amb} {r1 : Nat} {Q : Int → Wd → Prop} {e114 : Int → Wd → Prop} (C : Cx Z (adA Z) E cX11_likes "HandleFacesModel" 4 rm_X11_likes) (R : Rt Z E (some .int) (qI Z Q)) (h1 : shp r1 = (1, 98, [])) (he114 : ∀ (x2 : Int) (w : Wd), e114 x2 w → V Z (adA Z) E 4 w 114 [(2, iv x2)] []) : ∀ (n : Nat) (x2 : Int) (x3 : Int) (w : Wd), X11_likes_l69 r1 Q e114 n x2 x3 w → V Z (adA Z) E 4 w 69 [(0, rv Z 65), (1, rv Z r1), (2, iv x2), (3, iv x3)] [] := by
  intro n
  induction n with
  | zero => intro x2 x3 w h; exact h.elim
  | succ n ih =>
    intro x2 x3 w h
    unfold X11_likes_l69 at h
    refine v_iload_n C dX11_likes_69 3 rfl ?_
    refine v_iconst C dX11_likes_70 ?_
    refine v_aload_n C dX11_likes_71 0 rfl ?_
    refine g_X11_now C wd_1087 dX11_likes_72 ?_
    refine v_iconst C dX11_likes_75 ?_
    refine v_iald C rfl h.1 dX11_likes_76 ?_
    have h := h.2
    refine v_imul C dX11_likes_77 ?_
    refine v_icmp_ge C 114 dX11_likes_78 (by decide) (fun q => ?_) (fun q => ?_)
    · have h := h.1 q
      refine v_sub [2] rfl ?_
      exact he114 _ _ h
    · have h := h.2 q
      refine v_aload_n C dX11_likes_81 0 rfl ?_
      refine v_aload_n C dX11_likes_82 1 rfl ?_
      refine v_iload_n C dX11_likes_83 3 rfl ?_
      refine v_calli C (rn_V C _ (m_X11_canSend h1 h) mf_X11_canSend wd_1508 wp_78 wd_1506 rfl rfl ⟨(Nat.le_of_ble_eq_true rfl), (Nat.le_of_ble_eq_true rfl)⟩ rfl rfl rfl rfl (Nat.le_of_ble_eq_true rfl) dX11_likes_84) (fun r w h => ?_)
      refine v_if_eq C 93 dX11_likes_87 (by decide) (fun q => ?_) (fun q => ?_)
      · have h := h.1 q
        exact t_X11_likes_b93 C R h1 ih he114 _ _ _ h
      · have h := h.2 q
        refine v_iinc C [(2, _), (0, _), (1, _), (3, _)] dX11_likes_90 2 rfl (by decide) rfl ?_
        refine v_sub [1, 2, 0, 3] rfl ?_
        exact t_X11_likes_b93 C R h1 ih he114 _ _ _ h
def X11_likes_b114 (r1 : Nat) (Q : Int → Wd → Prop) (x2 : Int) (w : Wd) : Prop := Q (wr x2) w
theorem t_X11_likes_b114 {Z : Zw} {E : Amb} {r1 : Nat} {Q : Int → Wd → Prop} (C : Cx Z (adA Z) E cX11_likes "HandleFacesModel" 4 rm_X11_likes) (R : Rt Z E (some .int) (qI Z Q)) (h1 : shp r1 = (1, 98, [])) : ∀ (x2 : Int) (w : Wd), X11_likes_b114 r1 Q x2 w → V Z (adA Z) E 4 w 114 [(2, iv x2)] [] := by
  intro x2 w h
  unfold X11_likes_b114 at h
  refine v_iload_n C dX11_likes_114 0 rfl ?_
  exact v_iret C R h dX11_likes_115
def X11_likes (r1 : Nat) (w : Wd) (Q : Int → Wd → Prop) : Prop := (ix 1 98 ∧ ((wr (rd w 73 1) = 0 → Q (wr (-2)) w) ∧ (¬ wr (rd w 73 1) = 0 → (ix 1 98 ∧ ((wr (rd w r1 1) = 0 → Q (wr (-2)) w) ∧ (¬ wr (rd w r1 1) = 0 → X11_partsOf 73 w (fun y2 w1 => ((wr y2 = wr 1 → X11_partsOf r1 w1 (fun y4 w3 => ((wr y4 = wr 1 → (ix 1 98 ∧ (ix 1 98 ∧ ((wr (rd w3 73 1) = wr (rd w3 r1 1) → (ix 0 98 ∧ (ix 0 98 ∧ ((wr (rd w3 73 0) = wr (rd w3 r1 0) → (∃ m, X11_likes_l69 r1 Q (X11_likes_b114 r1 Q) m 0 0 w3)) ∧ (¬ wr (rd w3 73 0) = wr (rd w3 r1 0) → Q (wr 0) w3))))) ∧ (¬ wr (rd w3 73 1) = wr (rd w3 r1 1) → Q (wr 0) w3))))) ∧ (¬ wr y4 = wr 1 → Q (wr (-2)) w3)))) ∧ (¬ wr y2 = wr 1 → Q (wr (-2)) w1)))))))))
theorem m_X11_likes {Z : Zw} {l : Launch} {r1 : Nat} {w : Wd} {Q : Int → Wd → Prop} (h1 : shp r1 = (1, 98, [])) (h : X11_likes r1 w Q) : CtQ Z l yX11_likes cX11_likes 4 (some .int) rm_X11_likes [rv Z 65, rv Z r1] w (qI Z Q) := by
  refine ct_of (by decide) (Nat.le_of_ble_eq_true rfl) (fun E eE C R => ?_)
  subst eE
  have C : Cx Z (adA Z) E cX11_likes "HandleFacesModel" 4 rm_X11_likes := C
  unfold X11_likes at h
  show V Z (adA Z) E 4 w 0 [(0, rv Z 65), (1, rv Z r1)] []
  refine v_aload_n C dX11_likes_0 0 rfl ?_
  refine g_X11_now C wd_1087 dX11_likes_1 ?_
  refine v_iconst C dX11_likes_4 ?_
  refine v_iald C rfl h.1 dX11_likes_5 ?_
  have h := h.2
  refine v_if_eq C 36 dX11_likes_6 (by decide) (fun q => ?_) (fun q => ?_)
  · have h := h.1 q
    refine v_bipush C dX11_likes_36 (by decide) ?_
    exact v_iret C R h dX11_likes_38
  · have h := h.2 q
    refine v_aload_n C dX11_likes_9 1 rfl ?_
    refine v_iconst C dX11_likes_10 ?_
    refine v_iald C h1 h.1 dX11_likes_11 ?_
    have h := h.2
    refine v_if_eq C 36 dX11_likes_12 (by decide) (fun q => ?_) (fun q => ?_)
    · have h := h.1 q
      refine v_bipush C dX11_likes_36 (by decide) ?_
      exact v_iret C R h dX11_likes_38
    · have h := h.2 q
      refine v_aload_n C dX11_likes_15 0 rfl ?_
      refine v_aload_n C dX11_likes_16 0 rfl ?_
      refine g_X11_now C wd_1087 dX11_likes_17 ?_
      refine v_calli C (rn_V C _ (m_X11_partsOf rfl h) mf_X11_partsOf wd_1398 wp_63 wd_1396 rfl rfl ⟨(Nat.le_of_ble_eq_true rfl), (Nat.le_of_ble_eq_true rfl)⟩ rfl rfl rfl rfl (Nat.le_of_ble_eq_true rfl) dX11_likes_20) (fun r w h => ?_)
      refine v_iconst C dX11_likes_23 ?_
      refine v_icmp_ne C 36 dX11_likes_24 (by decide) (fun q => ?_) (fun q => ?_)
      · have h := h.2 q
        refine v_bipush C dX11_likes_36 (by decide) ?_
        exact v_iret C R h dX11_likes_38
      · have h := h.1 q
        refine v_aload_n C dX11_likes_27 0 rfl ?_
        refine v_aload_n C dX11_likes_28 1 rfl ?_
        refine v_calli C (rn_V C _ (m_X11_partsOf h1 h) mf_X11_partsOf wd_1398 wp_63 wd_1396 rfl rfl ⟨(Nat.le_of_ble_eq_true rfl), (Nat.le_of_ble_eq_true rfl)⟩ rfl rfl rfl rfl (Nat.le_of_ble_eq_true rfl) dX11_likes_29) (fun r w h => ?_)
        refine v_iconst C dX11_likes_32 ?_
        refine v_icmp_eq C 39 dX11_likes_33 (by decide) (fun q => ?_) (fun q => ?_)
        · have h := h.1 q
          refine v_aload_n C dX11_likes_39 0 rfl ?_
          refine g_X11_now C wd_1087 dX11_likes_40 ?_
          refine v_iconst C dX11_likes_43 ?_
          refine v_iald C rfl h.1 dX11_likes_44 ?_
          have h := h.2
          refine v_aload_n C dX11_likes_45 1 rfl ?_
          refine v_iconst C dX11_likes_46 ?_
          refine v_iald C h1 h.1 dX11_likes_47 ?_
          have h := h.2
          refine v_icmp_ne C 63 dX11_likes_48 (by decide) (fun q => ?_) (fun q => ?_)
          · have h := h.2 q
            refine v_iconst C dX11_likes_63 ?_
            exact v_iret C R h dX11_likes_64
          · have h := h.1 q
            refine v_aload_n C dX11_likes_51 0 rfl ?_
            refine g_X11_now C wd_1087 dX11_likes_52 ?_
            refine v_iconst C dX11_likes_55 ?_
            refine v_iald C rfl h.1 dX11_likes_56 ?_
            have h := h.2
            refine v_aload_n C dX11_likes_57 1 rfl ?_
            refine v_iconst C dX11_likes_58 ?_
            refine v_iald C h1 h.1 dX11_likes_59 ?_
            have h := h.2
            refine v_icmp_eq C 65 dX11_likes_60 (by decide) (fun q => ?_) (fun q => ?_)
            · have h := h.1 q
              refine v_iconst C dX11_likes_65 ?_
              refine v_istore_n C [(2, _), (0, _), (1, _)] dX11_likes_66 2 rfl (by decide) rfl ?_
              refine v_iconst C dX11_likes_67 ?_
              refine v_istore_n C [(3, _), (2, _), (0, _), (1, _)] dX11_likes_68 3 rfl (by decide) rfl ?_
              refine v_sub [2, 3, 1, 0] rfl ?_
              obtain ⟨m, h⟩ := h
              exact t_X11_likes_l69 C R h1 (t_X11_likes_b114 C R h1) m _ _ _ h
            · have h := h.2 q
              refine v_iconst C dX11_likes_63 ?_
              exact v_iret C R h dX11_likes_64
        · have h := h.2 q
          refine v_bipush C dX11_likes_36 (by decide) ?_
          exact v_iret C R h dX11_likes_38
abbrev rm_X11_like : Room := { frames := 4, cells := 0, slots := 0, locals := 100 }
theorem mf_X11_like : MfB yX11_like cX11_like 3 (some .int) 1 := ⟨wd_1501, wd_13, by decide, by decide, by decide +kernel⟩
def X11_like_l22 (Q : Int → Wd → Prop) (e51 : Wd → Prop) : Nat → Int → Int → Wd → Prop
  | 0 => fun _ _ _ => False
  | n + 1 => fun x1 x2 w => ((wr 98 ≤ wr x2 → e51 w) ∧ (¬ wr 98 ≤ wr x2 → (ix ((98 * x1) + x2) 294 ∧ (ix x2 98 ∧ (∀ w3, w3 = wt w 83 x2 (rd w 77 ((98 * x1) + x2)) → (X11_like_l22 Q e51 n) x1 (x2 + 1) w3)))))
theorem t_X11_like_l22 {Z : Zw} {E : Amb} {Q : Int → Wd → Prop} {e51 : Wd → Prop} (C : Cx Z (adA Z) E cX11_like "HandleFacesModel" 3 rm_X11_like) (R : Rt Z E (some .int) (qI Z Q)) (he51 : ∀ (w : Wd), e51 w → V Z (adA Z) E 3 w 51 [(0, rv Z 65)] []) : ∀ (n : Nat) (x1 : Int) (x2 : Int) (w : Wd), X11_like_l22 Q e51 n x1 x2 w → V Z (adA Z) E 3 w 22 [(0, rv Z 65), (1, iv x1), (2, iv x2)] [] := by
  intro n
  induction n with
  | zero => intro x1 x2 w h; exact h.elim
  | succ n ih =>
    intro x1 x2 w h
    unfold X11_like_l22 at h
    refine v_iload_n C dX11_like_22 2 rfl ?_
    refine v_bipush C dX11_like_23 (by decide) ?_
    refine v_icmp_ge C 51 dX11_like_25 (by decide) (fun q => ?_) (fun q => ?_)
    · have h := h.1 q
      refine v_sub [0] rfl ?_
      exact he51 _ h
    · have h := h.2 q
      refine v_aload_n C dX11_like_28 0 rfl ?_
      refine g_X11_tried C wd_1101 dX11_like_29 ?_
      refine v_iload_n C dX11_like_32 2 rfl ?_
      refine v_aload_n C dX11_like_33 0 rfl ?_
      refine g_X11_held C wd_1095 dX11_like_34 ?_
      refine v_bipush C dX11_like_37 (by decide) ?_
      refine v_iload_n C dX11_like_39 1 rfl ?_
      refine v_imul C dX11_like_40 ?_
      refine v_iload_n C dX11_like_41 2 rfl ?_
      refine v_iadd C dX11_like_42 ?_
      refine v_iald C rfl h.1 dX11_like_43 ?_
      have h := h.2
      refine v_iast C rfl h.1 dX11_like_44 ?_
      have h := h.2
      have h := h _ rfl
      refine v_iinc C [(2, _), (0, _), (1, _)] dX11_like_45 2 rfl (by decide) rfl ?_
      refine v_goto C 22 dX11_like_48 (by decide) ?_
      refine v_sub [1, 2, 0] rfl ?_
      exact ih _ _ _ h
def X11_like_b51 (Q : Int → Wd → Prop) (w : Wd) : Prop := X11_likes 83 w (fun y5 w4 => Q (wr y5) w4)
theorem t_X11_like_b51 {Z : Zw} {E : Amb} {Q : Int → Wd → Prop} (C : Cx Z (adA Z) E cX11_like "HandleFacesModel" 3 rm_X11_like) (R : Rt Z E (some .int) (qI Z Q)) : ∀ (w : Wd), X11_like_b51 Q w → V Z (adA Z) E 3 w 51 [(0, rv Z 65)] [] := by
  intro w h
  unfold X11_like_b51 at h
  refine v_aload_n C dX11_like_51 0 rfl ?_
  refine v_aload_n C dX11_like_52 0 rfl ?_
  refine g_X11_tried C wd_1101 dX11_like_53 ?_
  refine v_calli C (rn_V C _ (m_X11_likes rfl h) mf_X11_likes wd_1504 wp_77 wd_1502 rfl rfl ⟨(Nat.le_of_ble_eq_true rfl), (Nat.le_of_ble_eq_true rfl)⟩ rfl rfl rfl rfl (Nat.le_of_ble_eq_true rfl) dX11_like_56) (fun r w h => ?_)
  exact v_iret C R h dX11_like_59
def X11_like (x1 : Int) (w : Wd) (Q : Int → Wd → Prop) : Prop := X11_in x1 0 2 w (fun y2 w1 => ((wr y2 = 0 → Q (wr (-1)) w1) ∧ (¬ wr y2 = 0 → (ix x1 3 ∧ ((wr (rd w1 78 x1) = 0 → Q (wr (-1)) w1) ∧ (¬ wr (rd w1 78 x1) = 0 → (∃ m, X11_like_l22 Q (X11_like_b51 Q) m x1 0 w1)))))))
theorem m_X11_like {Z : Zw} {l : Launch} {x1 : Int} {w : Wd} {Q : Int → Wd → Prop} (h : X11_like x1 w Q) : CtQ Z l yX11_like cX11_like 3 (some .int) rm_X11_like [rv Z 65, iv x1] w (qI Z Q) := by
  refine ct_of (by decide) (Nat.le_of_ble_eq_true rfl) (fun E eE C R => ?_)
  subst eE
  have C : Cx Z (adA Z) E cX11_like "HandleFacesModel" 3 rm_X11_like := C
  unfold X11_like at h
  show V Z (adA Z) E 3 w 0 [(0, rv Z 65), (1, iv x1)] []
  refine v_iload_n C dX11_like_0 1 rfl ?_
  refine v_iconst C dX11_like_1 ?_
  refine v_iconst C dX11_like_2 ?_
  refine v_calli C (rn_S C _ (m_X11_in h) mf_X11_in wd_1298 wd_1297 rfl rfl ⟨(Nat.le_of_ble_eq_true rfl), (Nat.le_of_ble_eq_true rfl)⟩ rfl rfl (Nat.le_of_ble_eq_true rfl) dX11_like_3) (fun r w h => ?_)
  refine v_if_eq C 18 dX11_like_6 (by decide) (fun q => ?_) (fun q => ?_)
  · have h := h.1 q
    refine v_iconst C dX11_like_18 ?_
    exact v_iret C R h dX11_like_19
  · have h := h.2 q
    refine v_aload_n C dX11_like_9 0 rfl ?_
    refine g_X11_isHeld C wd_1096 dX11_like_10 ?_
    refine v_iload_n C dX11_like_13 1 rfl ?_
    refine v_zald C rfl h.1 dX11_like_14 ?_
    have h := h.2
    refine v_if_ne C 20 dX11_like_15 (by decide) (fun q => ?_) (fun q => ?_)
    · have h := h.2 q
      refine v_iconst C dX11_like_20 ?_
      refine v_istore_n C [(2, _), (0, _), (1, _)] dX11_like_21 2 rfl (by decide) rfl ?_
      refine v_sub [1, 2, 0] rfl ?_
      obtain ⟨m, h⟩ := h
      exact t_X11_like_l22 C R (t_X11_like_b51 C R) m _ _ _ h
    · have h := h.1 q
      refine v_iconst C dX11_like_18 ?_
      exact v_iret C R h dX11_like_19
abbrev rm_X11_straights : Room := { frames := 1, cells := 0, slots := 0, locals := 23 }
theorem mf_X11_straights : MfB yX11_straights cX11_straights 8 (some .int) 0 := ⟨wd_1544, wd_13, by decide, by decide, by decide +kernel⟩
def X11_straights_l2 (Q : Int → Wd → Prop) (e27 : Wd → Prop) (e36 : Wd → Prop) : Nat → Int → Wd → Prop
  | 0 => fun _ _ => False
  | n + 1 => fun x1 w => (ix 0 98 ∧ ((wr (rd w 73 0) ≤ wr x1 → e36 w) ∧ (¬ wr (rd w 73 0) ≤ wr x1 → (ix (32 + x1) 98 ∧ ((wr (irm (rd w 73 (32 + x1)) 2) = wr 1 → e27 w) ∧ (¬ wr (irm (rd w 73 (32 + x1)) 2) = wr 1 → (X11_straights_l2 Q e27 e36 n) (x1 + 1) w))))))
theorem t_X11_straights_l2 {Z : Zw} {E : Amb} {Q : Int → Wd → Prop} {e27 : Wd → Prop} {e36 : Wd → Prop} (C : Cx Z (adA Z) E cX11_straights "HandleFacesModel" 8 rm_X11_straights) (R : Rt Z E (some .int) (qI Z Q)) (he27 : ∀ (w : Wd), e27 w → V Z (adA Z) E 8 w 27 [] []) (he36 : ∀ (w : Wd), e36 w → V Z (adA Z) E 8 w 36 [(0, rv Z 65)] []) : ∀ (n : Nat) (x1 : Int) (w : Wd), X11_straights_l2 Q e27 e36 n x1 w → V Z (adA Z) E 8 w 2 [(0, rv Z 65), (1, iv x1)] [] := by
  intro n
  induction n with
  | zero => intro x1 w h; exact h.elim
  | succ n ih =>
    intro x1 w h
    unfold X11_straights_l2 at h
    refine v_iload_n C dX11_straights_2 1 rfl ?_
    refine v_aload_n C dX11_straights_3 0 rfl ?_
    refine g_X11_now C wd_1087 dX11_straights_4 ?_
    refine v_iconst C dX11_straights_7 ?_
    refine v_iald C rfl h.1 dX11_straights_8 ?_
    have h := h.2
    refine v_icmp_ge C 36 dX11_straights_9 (by decide) (fun q => ?_) (fun q => ?_)
    · have h := h.1 q
      refine v_sub [0] rfl ?_
      exact he36 _ h
    · have h := h.2 q
      refine v_aload_n C dX11_straights_12 0 rfl ?_
      refine g_X11_now C wd_1087 dX11_straights_13 ?_
      refine v_bipush C dX11_straights_16 (by decide) ?_
      refine v_iload_n C dX11_straights_18 1 rfl ?_
      refine v_iadd C dX11_straights_19 ?_
      refine v_iald C rfl h.1 dX11_straights_20 ?_
      have h := h.2
      refine v_iconst C dX11_straights_21 ?_
      refine v_irem C dX11_straights_22 (by decide) ?_
      refine v_iconst C dX11_straights_23 ?_
      refine v_icmp_ne C 30 dX11_straights_24 (by decide) (fun q => ?_) (fun q => ?_)
      · have h := h.2 q
        refine v_iinc C [(1, _), (0, _)] dX11_straights_30 1 rfl (by decide) rfl ?_
        refine v_goto C 2 dX11_straights_33 (by decide) ?_
        refine v_sub [1, 0] rfl ?_
        exact ih _ _ h
      · have h := h.1 q
        refine v_sub [] rfl ?_
        exact he27 _ h
def X11_straights_b27 (Q : Int → Wd → Prop) (w : Wd) : Prop := Q (wr (-2)) w
theorem t_X11_straights_b27 {Z : Zw} {E : Amb} {Q : Int → Wd → Prop} (C : Cx Z (adA Z) E cX11_straights "HandleFacesModel" 8 rm_X11_straights) (R : Rt Z E (some .int) (qI Z Q)) : ∀ (w : Wd), X11_straights_b27 Q w → V Z (adA Z) E 8 w 27 [] [] := by
  intro w h
  unfold X11_straights_b27 at h
  refine v_bipush C dX11_straights_27 (by decide) ?_
  exact v_iret C R h dX11_straights_29
def X11_straights_l71 (Q : Int → Wd → Prop) (e187 : Int → Int → Int → Wd → Prop) : Nat → Int → Int → Int → Int → Wd → Prop
  | 0 => fun _ _ _ _ _ => False
  | n + 1 => fun x1 x2 x3 x4 w => X11_has x1 x4 w (fun y4 w3 => ((wr y4 = 0 → (∀ y5, y5 = (ior x1 (ior (isl 1 x4) (isl 1 (ixo x4 1)))) → (ix (2 + (ixo x4 1)) 98 ∧ (∀ y6, y6 = (rd w3 73 (2 + (ixo x4 1))) → (ix (32 + y6) 98 ∧ (∀ y7, y7 = (rd w3 73 (32 + y6)) → X11_placeIn 73 y6 (idv x4 2) w3 (fun y9 w8 => (¬ wr y7 = 0 ∧ (ix ((38 + (10 * y6)) + (irm (y9 + (idv y7 2)) y7)) 98 ∧ (∀ y10, y10 = (rd w8 73 ((38 + (10 * y6)) + (irm (y9 + (idv y7 2)) y7))) → (ix (2 + (2 * y10)) 98 ∧ ((wr (rd w8 73 (2 + (2 * y10))) = wr y6 → (∀ y12, y12 = ((2 * y10) + 0) → (X11_straights_l71 Q e187 n) y5 x2 x3 y12 w8)) ∧ (¬ wr (rd w8 73 (2 + (2 * y10))) = wr y6 → (∀ y11, y11 = ((2 * y10) + 1) → (X11_straights_l71 Q e187 n) y5 x2 x3 y11 w8)))))))))))))) ∧ (¬ wr y4 = 0 → e187 x1 x2 x3 w3)))
theorem t_X11_straights_l71 {Z : Zw} {E : Amb} {Q : Int → Wd → Prop} {e187 : Int → Int → Int → Wd → Prop} (C : Cx Z (adA Z) E cX11_straights "HandleFacesModel" 8 rm_X11_straights) (R : Rt Z E (some .int) (qI Z Q)) (he187 : ∀ (x1 : Int) (x2 : Int) (x3 : Int) (w : Wd), e187 x1 x2 x3 w → V Z (adA Z) E 8 w 187 [(0, rv Z 65), (1, iv x1), (2, iv x2), (3, iv x3)] []) : ∀ (n : Nat) (x1 : Int) (x2 : Int) (x3 : Int) (x4 : Int) (w : Wd), X11_straights_l71 Q e187 n x1 x2 x3 x4 w → V Z (adA Z) E 8 w 71 [(0, rv Z 65), (1, iv x1), (2, iv x2), (3, iv x3), (4, iv x4)] [] := by
  intro n
  induction n with
  | zero => intro x1 x2 x3 x4 w h; exact h.elim
  | succ n ih =>
    intro x1 x2 x3 x4 w h
    unfold X11_straights_l71 at h
    refine v_iload_n C dX11_straights_71 1 rfl ?_
    refine v_iload C dX11_straights_72 4 rfl ?_
    refine v_calli C (rn_S C _ (m_X11_has h) mf_X11_has wd_1283 wd_1282 rfl rfl ⟨(Nat.le_of_ble_eq_true rfl), (Nat.le_of_ble_eq_true rfl)⟩ rfl rfl (Nat.le_of_ble_eq_true rfl) dX11_straights_74) (fun r w h => ?_)
    refine v_if_ne C 187 dX11_straights_77 (by decide) (fun q => ?_) (fun q => ?_)
    · have h := h.2 q
      refine v_sub [0, 1, 2, 3] rfl ?_
      exact he187 _ _ _ _ h
    · have h := h.1 q
      refine v_iload_n C dX11_straights_80 1 rfl ?_
      refine v_iconst C dX11_straights_81 ?_
      refine v_iload C dX11_straights_82 4 rfl ?_
      refine v_ishl C dX11_straights_84 ?_
      refine v_iconst C dX11_straights_85 ?_
      refine v_iload C dX11_straights_86 4 rfl ?_
      refine v_iconst C dX11_straights_88 ?_
      refine v_ixor C dX11_straights_89 ?_
      refine v_ishl C dX11_straights_90 ?_
      refine v_ior C dX11_straights_91 ?_
      refine v_ior C dX11_straights_92 ?_
      refine v_istore_n C [(1, _), (0, _), (2, _), (3, _), (4, _)] dX11_straights_93 1 rfl (by decide) rfl ?_
      have h := h _ rfl
      refine v_aload_n C dX11_straights_94 1 rfl ?_
      refine g_X11_now C wd_1087 dX11_straights_95 ?_
      refine v_iconst C dX11_straights_98 ?_
      refine v_iload C dX11_straights_99 4 rfl ?_
      refine v_iconst C dX11_straights_101 ?_
      refine v_ixor C dX11_straights_102 ?_
      refine v_iadd C dX11_straights_103 ?_
      refine v_iald C rfl h.1 dX11_straights_104 ?_
      have h := h.2
      refine v_istore C [(5, _), (1, _), (0, _), (2, _), (3, _), (4, _)] dX11_straights_105 (by decide) rfl ?_
      have h := h _ rfl
      refine v_aload_n C dX11_straights_107 2 rfl ?_
      refine g_X11_now C wd_1087 dX11_straights_108 ?_
      refine v_bipush C dX11_straights_111 (by decide) ?_
      refine v_iload C dX11_straights_113 0 rfl ?_
      refine v_iadd C dX11_straights_115 ?_
      refine v_iald C rfl h.1 dX11_straights_116 ?_
      have h := h.2
      refine v_istore C [(6, _), (5, _), (1, _), (0, _), (2, _), (3, _), (4, _)] dX11_straights_117 (by decide) rfl ?_
      have h := h _ rfl
      refine v_aload_n C dX11_straights_119 3 rfl ?_
      refine g_X11_now C wd_1087 dX11_straights_120 ?_
      refine v_bipush C dX11_straights_123 (by decide) ?_
      refine v_bipush C dX11_straights_125 (by decide) ?_
      refine v_iload C dX11_straights_127 1 rfl ?_
      refine v_imul C dX11_straights_129 ?_
      refine v_iadd C dX11_straights_130 ?_
      refine v_aload_n C dX11_straights_131 3 rfl ?_
      refine g_X11_now C wd_1087 dX11_straights_132 ?_
      refine v_iload C dX11_straights_135 1 rfl ?_
      refine v_iload C dX11_straights_137 6 rfl ?_
      refine v_iconst C dX11_straights_139 ?_
      refine v_idiv C dX11_straights_140 (by decide) ?_
      refine v_calli C (rn_S C _ (m_X11_placeIn rfl h) mf_X11_placeIn wd_1338 wd_1337 rfl rfl ⟨(Nat.le_of_ble_eq_true rfl), (Nat.le_of_ble_eq_true rfl)⟩ rfl rfl (Nat.le_of_ble_eq_true rfl) dX11_straights_141) (fun r w h => ?_)
      refine v_iload C dX11_straights_144 0 rfl ?_
      refine v_iconst C dX11_straights_146 ?_
      refine v_idiv C dX11_straights_147 (by decide) ?_
      refine v_iadd C dX11_straights_148 ?_
      refine v_iload C dX11_straights_149 0 rfl ?_
      refine v_irem C dX11_straights_151 h.1 ?_
      have h := h.2
      refine v_iadd C dX11_straights_152 ?_
      refine v_iald C rfl h.1 dX11_straights_153 ?_
      have h := h.2
      refine v_istore C [(7, _), (6, _), (5, _), (1, _), (0, _), (2, _), (3, _), (4, _)] dX11_straights_154 (by decide) rfl ?_
      have h := h _ rfl
      refine v_iconst C dX11_straights_156 ?_
      refine v_iload C dX11_straights_157 0 rfl ?_
      refine v_imul C dX11_straights_159 ?_
      refine v_aload_n C dX11_straights_160 4 rfl ?_
      refine g_X11_now C wd_1087 dX11_straights_161 ?_
      refine v_iconst C dX11_straights_164 ?_
      refine v_iconst C dX11_straights_165 ?_
      refine v_iload C dX11_straights_166 0 rfl ?_
      refine v_imul C dX11_straights_168 ?_
      refine v_iadd C dX11_straights_169 ?_
      refine v_iald C rfl h.1 dX11_straights_170 ?_
      have h := h.2
      refine v_iload C dX11_straights_171 2 rfl ?_
      refine v_icmp_ne C 180 dX11_straights_173 (by decide) (fun q => ?_) (fun q => ?_)
      · have h := h.2 q
        refine v_iconst C dX11_straights_180 ?_
        refine v_iadd C dX11_straights_181 ?_
        refine v_istore C [(4, _), (7, _), (6, _), (5, _), (1, _), (0, _), (2, _), (3, _)] dX11_straights_182 (by decide) rfl ?_
        have h := h _ rfl
        refine v_goto C 71 dX11_straights_184 (by decide) ?_
        refine v_sub [5, 4, 6, 7, 0] rfl ?_
        exact ih _ _ _ _ _ h
      · have h := h.1 q
        refine v_iconst C dX11_straights_176 ?_
        refine v_goto C 181 dX11_straights_177 (by decide) ?_
        refine v_iadd C dX11_straights_181 ?_
        refine v_istore C [(4, _), (7, _), (6, _), (5, _), (1, _), (0, _), (2, _), (3, _)] dX11_straights_182 (by decide) rfl ?_
        have h := h _ rfl
        refine v_goto C 71 dX11_straights_184 (by decide) ?_
        refine v_sub [5, 4, 6, 7, 0] rfl ?_
        exact ih _ _ _ _ _ h
def X11_straights_b187 (Q : Int → Wd → Prop) (c42 : Int → Int → Int → Wd → Prop) (e193 : Int → Wd → Prop) (x1 : Int) (x2 : Int) (x3 : Int) (w : Wd) : Prop := c42 x1 x2 (x3 + 1) w
theorem t_X11_straights_b187 {Z : Zw} {E : Amb} {Q : Int → Wd → Prop} {c42 : Int → Int → Int → Wd → Prop} {e193 : Int → Wd → Prop} (C : Cx Z (adA Z) E cX11_straights "HandleFacesModel" 8 rm_X11_straights) (R : Rt Z E (some .int) (qI Z Q)) (hc42 : ∀ (x1 : Int) (x2 : Int) (x3 : Int) (w : Wd), c42 x1 x2 x3 w → V Z (adA Z) E 8 w 42 [(0, rv Z 65), (1, iv x1), (2, iv x2), (3, iv x3)] []) (he193 : ∀ (x2 : Int) (w : Wd), e193 x2 w → V Z (adA Z) E 8 w 193 [(2, iv x2)] []) : ∀ (x1 : Int) (x2 : Int) (x3 : Int) (w : Wd), X11_straights_b187 Q c42 e193 x1 x2 x3 w → V Z (adA Z) E 8 w 187 [(0, rv Z 65), (1, iv x1), (2, iv x2), (3, iv x3)] [] := by
  intro x1 x2 x3 w h
  unfold X11_straights_b187 at h
  refine v_iinc C [(3, _), (0, _), (1, _), (2, _)] dX11_straights_187 3 rfl (by decide) rfl ?_
  refine v_goto C 42 dX11_straights_190 (by decide) ?_
  refine v_sub [1, 2, 3, 0] rfl ?_
  exact hc42 _ _ _ _ h
def X11_straights_l42 (Q : Int → Wd → Prop) (e193 : Int → Wd → Prop) : Nat → Int → Int → Int → Wd → Prop
  | 0 => fun _ _ _ _ => False
  | n + 1 => fun x1 x2 x3 w => (ix 1 98 ∧ ((wr (2 * (rd w 73 1)) ≤ wr x3 → e193 x2 w) ∧ (¬ wr (2 * (rd w 73 1)) ≤ wr x3 → X11_has x1 x3 w (fun y2 w1 => ((wr y2 = 0 → (∃ m, X11_straights_l71 Q (X11_straights_b187 Q (X11_straights_l42 Q e193 n) e193) m x1 (x2 + 1) x3 x3 w1)) ∧ (¬ wr y2 = 0 → X11_straights_b187 Q (X11_straights_l42 Q e193 n) e193 x1 x2 x3 w1))))))
theorem t_X11_straights_l42 {Z : Zw} {E : Amb} {Q : Int → Wd → Prop} {e193 : Int → Wd → Prop} (C : Cx Z (adA Z) E cX11_straights "HandleFacesModel" 8 rm_X11_straights) (R : Rt Z E (some .int) (qI Z Q)) (he193 : ∀ (x2 : Int) (w : Wd), e193 x2 w → V Z (adA Z) E 8 w 193 [(2, iv x2)] []) : ∀ (n : Nat) (x1 : Int) (x2 : Int) (x3 : Int) (w : Wd), X11_straights_l42 Q e193 n x1 x2 x3 w → V Z (adA Z) E 8 w 42 [(0, rv Z 65), (1, iv x1), (2, iv x2), (3, iv x3)] [] := by
  intro n
  induction n with
  | zero => intro x1 x2 x3 w h; exact h.elim
  | succ n ih =>
    intro x1 x2 x3 w h
    unfold X11_straights_l42 at h
    refine v_iload_n C dX11_straights_42 3 rfl ?_
    refine v_iconst C dX11_straights_43 ?_
    refine v_aload_n C dX11_straights_44 0 rfl ?_
    refine g_X11_now C wd_1087 dX11_straights_45 ?_
    refine v_iconst C dX11_straights_48 ?_
    refine v_iald C rfl h.1 dX11_straights_49 ?_
    have h := h.2
    refine v_imul C dX11_straights_50 ?_
    refine v_icmp_ge C 193 dX11_straights_51 (by decide) (fun q => ?_) (fun q => ?_)
    · have h := h.1 q
      refine v_sub [2] rfl ?_
      exact he193 _ _ h
    · have h := h.2 q
      refine v_iload_n C dX11_straights_54 1 rfl ?_
      refine v_iload_n C dX11_straights_55 3 rfl ?_
      refine v_calli C (rn_S C _ (m_X11_has h) mf_X11_has wd_1283 wd_1282 rfl rfl ⟨(Nat.le_of_ble_eq_true rfl), (Nat.le_of_ble_eq_true rfl)⟩ rfl rfl (Nat.le_of_ble_eq_true rfl) dX11_straights_56) (fun r w h => ?_)
      refine v_if_eq C 65 dX11_straights_59 (by decide) (fun q => ?_) (fun q => ?_)
      · have h := h.1 q
        refine v_iinc C [(2, _), (0, _), (1, _), (3, _)] dX11_straights_65 2 rfl (by decide) rfl ?_
        refine v_iload_n C dX11_straights_68 3 rfl ?_
        refine v_istore C [(4, _), (2, _), (0, _), (1, _), (3, _)] dX11_straights_69 (by decide) rfl ?_
        refine v_sub [2, 3, 1, 4, 0] rfl ?_
        obtain ⟨m, h⟩ := h
        exact t_X11_straights_l71 C R (t_X11_straights_b187 C R ih he193) m _ _ _ _ _ h
      · have h := h.2 q
        refine v_goto C 187 dX11_straights_62 (by decide) ?_
        exact t_X11_straights_b187 C R ih he193 _ _ _ _ h
def X11_straights_b193 (Q : Int → Wd → Prop) (x2 : Int) (w : Wd) : Prop := Q (wr x2) w
theorem t_X11_straights_b193 {Z : Zw} {E : Amb} {Q : Int → Wd → Prop} (C : Cx Z (adA Z) E cX11_straights "HandleFacesModel" 8 rm_X11_straights) (R : Rt Z E (some .int) (qI Z Q)) : ∀ (x2 : Int) (w : Wd), X11_straights_b193 Q x2 w → V Z (adA Z) E 8 w 193 [(2, iv x2)] [] := by
  intro x2 w h
  unfold X11_straights_b193 at h
  refine v_iload_n C dX11_straights_193 0 rfl ?_
  exact v_iret C R h dX11_straights_194
def X11_straights_b36 (Q : Int → Wd → Prop) (w : Wd) : Prop := (∃ m, X11_straights_l42 Q (X11_straights_b193 Q) m 0 0 0 w)
theorem t_X11_straights_b36 {Z : Zw} {E : Amb} {Q : Int → Wd → Prop} (C : Cx Z (adA Z) E cX11_straights "HandleFacesModel" 8 rm_X11_straights) (R : Rt Z E (some .int) (qI Z Q)) : ∀ (w : Wd), X11_straights_b36 Q w → V Z (adA Z) E 8 w 36 [(0, rv Z 65)] [] := by
  intro w h
  unfold X11_straights_b36 at h
  refine v_iconst C dX11_straights_36 ?_
  refine v_istore_n C [(1, _), (0, _)] dX11_straights_37 1 rfl (by decide) rfl ?_
  refine v_iconst C dX11_straights_38 ?_
  refine v_istore_n C [(2, _), (1, _), (0, _)] dX11_straights_39 2 rfl (by decide) rfl ?_
  refine v_iconst C dX11_straights_40 ?_
  refine v_istore_n C [(3, _), (2, _), (1, _), (0, _)] dX11_straights_41 3 rfl (by decide) rfl ?_
  refine v_sub [3, 2, 1, 0] rfl ?_
  obtain ⟨m, h⟩ := h
  exact t_X11_straights_l42 C R (t_X11_straights_b193 C R) m _ _ _ _ h
def X11_straights (w : Wd) (Q : Int → Wd → Prop) : Prop := (∃ m, X11_straights_l2 Q (X11_straights_b27 Q) (X11_straights_b36 Q) m 0 w)
theorem m_X11_straights {Z : Zw} {l : Launch} {w : Wd} {Q : Int → Wd → Prop} (h : X11_straights w Q) : CtQ Z l yX11_straights cX11_straights 8 (some .int) rm_X11_straights [rv Z 65] w (qI Z Q) := by
  refine ct_of (by decide) (Nat.le_of_ble_eq_true rfl) (fun E eE C R => ?_)
  subst eE
  have C : Cx Z (adA Z) E cX11_straights "HandleFacesModel" 8 rm_X11_straights := C
  unfold X11_straights at h
  show V Z (adA Z) E 8 w 0 [(0, rv Z 65)] []
  refine v_iconst C dX11_straights_0 ?_
  refine v_istore_n C [(1, _), (0, _)] dX11_straights_1 1 rfl (by decide) rfl ?_
  refine v_sub [1, 0] rfl ?_
  obtain ⟨m, h⟩ := h
  exact t_X11_straights_l2 C R (t_X11_straights_b27 C R) (t_X11_straights_b36 C R) m _ _ h
abbrev rm_X11_longest : Room := { frames := 3, cells := 0, slots := 0, locals := 76 }
theorem mf_X11_longest : MfB yX11_longest cX11_longest 5 (some .int) 1 := ⟨wd_1528, wd_13, by decide, by decide, by decide +kernel⟩
def X11_longest_b62 (Q : Int → Wd → Prop) (c27 : Int → Int → Int → Int → Wd → Prop) (e76 : Int → Wd → Prop) (x1 : Int) (x2 : Int) (x4 : Int) (w : Wd) : Prop := (ix x4 30 ∧ (∀ y3, y3 = (rd w 81 x4) → c27 x1 x2 y3 (x4 + 1) w))
theorem t_X11_longest_b62 {Z : Zw} {E : Amb} {Q : Int → Wd → Prop} {c27 : Int → Int → Int → Int → Wd → Prop} {e76 : Int → Wd → Prop} (C : Cx Z (adA Z) E cX11_longest "HandleFacesModel" 5 rm_X11_longest) (R : Rt Z E (some .int) (qI Z Q)) (hc27 : ∀ (x1 : Int) (x2 : Int) (x3 : Int) (x4 : Int) (w : Wd), c27 x1 x2 x3 x4 w → V Z (adA Z) E 5 w 27 [(0, rv Z 65), (1, iv x1), (2, iv x2), (3, iv x3), (4, iv x4)] []) (he76 : ∀ (x3 : Int) (w : Wd), e76 x3 w → V Z (adA Z) E 5 w 76 [(3, iv x3)] []) : ∀ (x1 : Int) (x2 : Int) (x4 : Int) (w : Wd), X11_longest_b62 Q c27 e76 x1 x2 x4 w → V Z (adA Z) E 5 w 62 [(0, rv Z 65), (1, iv x1), (2, iv x2), (4, iv x4)] [] := by
  intro x1 x2 x4 w h
  unfold X11_longest_b62 at h
  refine v_aload_n C dX11_longest_62 0 rfl ?_
  refine g_X11_faceLong C wd_1099 dX11_longest_63 ?_
  refine v_iload C dX11_longest_66 3 rfl ?_
  refine v_iald C rfl h.1 dX11_longest_68 ?_
  have h := h.2
  refine v_istore_n C [(3, _), (0, _), (1, _), (2, _), (4, _)] dX11_longest_69 3 rfl (by decide) rfl ?_
  have h := h _ rfl
  refine v_iinc C [(4, _), (3, _), (0, _), (1, _), (2, _)] dX11_longest_70 4 rfl (by decide) rfl ?_
  refine v_goto C 27 dX11_longest_73 (by decide) ?_
  refine v_sub [2, 3, 4, 1, 0] rfl ?_
  exact hc27 _ _ _ _ _ h
def X11_longest_l27 (Q : Int → Wd → Prop) (e76 : Int → Wd → Prop) : Nat → Int → Int → Int → Int → Wd → Prop
  | 0 => fun _ _ _ _ _ => False
  | n + 1 => fun x1 x2 x3 x4 w => ((wr x2 ≤ wr x4 → e76 x3 w) ∧ (¬ wr x2 ≤ wr x4 → ((wr x1 = 0 → (ix x4 30 ∧ ((wr x3 ≤ wr (rd w 81 x4) → (X11_longest_l27 Q e76 n) x1 x2 x3 (x4 + 1) w) ∧ (¬ wr x3 ≤ wr (rd w 81 x4) → X11_longest_b62 Q (X11_longest_l27 Q e76 n) e76 x1 x2 x4 w)))) ∧ (¬ wr x1 = 0 → (ix x4 30 ∧ ((wr (rd w 81 x4) ≤ wr x3 → (X11_longest_l27 Q e76 n) x1 x2 x3 (x4 + 1) w) ∧ (¬ wr (rd w 81 x4) ≤ wr x3 → X11_longest_b62 Q (X11_longest_l27 Q e76 n) e76 x1 x2 x4 w)))))))
theorem t_X11_longest_l27 {Z : Zw} {E : Amb} {Q : Int → Wd → Prop} {e76 : Int → Wd → Prop} (C : Cx Z (adA Z) E cX11_longest "HandleFacesModel" 5 rm_X11_longest) (R : Rt Z E (some .int) (qI Z Q)) (he76 : ∀ (x3 : Int) (w : Wd), e76 x3 w → V Z (adA Z) E 5 w 76 [(3, iv x3)] []) : ∀ (n : Nat) (x1 : Int) (x2 : Int) (x3 : Int) (x4 : Int) (w : Wd), X11_longest_l27 Q e76 n x1 x2 x3 x4 w → V Z (adA Z) E 5 w 27 [(0, rv Z 65), (1, iv x1), (2, iv x2), (3, iv x3), (4, iv x4)] [] := by
  intro n
  induction n with
  | zero => intro x1 x2 x3 x4 w h; exact h.elim
  | succ n ih =>
    intro x1 x2 x3 x4 w h
    unfold X11_longest_l27 at h
    refine v_iload C dX11_longest_27 4 rfl ?_
    refine v_iload_n C dX11_longest_29 2 rfl ?_
    refine v_icmp_ge C 76 dX11_longest_30 (by decide) (fun q => ?_) (fun q => ?_)
    · have h := h.1 q
      refine v_sub [3] rfl ?_
      exact he76 _ _ h
    · have h := h.2 q
      refine v_iload_n C dX11_longest_33 1 rfl ?_
      refine v_if_eq C 51 dX11_longest_34 (by decide) (fun q => ?_) (fun q => ?_)
      · have h := h.1 q
        refine v_aload_n C dX11_longest_51 0 rfl ?_
        refine g_X11_faceLong C wd_1099 dX11_longest_52 ?_
        refine v_iload C dX11_longest_55 4 rfl ?_
        refine v_iald C rfl h.1 dX11_longest_57 ?_
        have h := h.2
        refine v_iload_n C dX11_longest_58 3 rfl ?_
        refine v_icmp_ge C 70 dX11_longest_59 (by decide) (fun q => ?_) (fun q => ?_)
        · have h := h.1 q
          refine v_iinc C [(4, _), (0, _), (1, _), (2, _), (3, _)] dX11_longest_70 4 rfl (by decide) rfl ?_
          refine v_goto C 27 dX11_longest_73 (by decide) ?_
          refine v_sub [1, 2, 3, 4, 0] rfl ?_
          exact ih _ _ _ _ _ h
        · have h := h.2 q
          refine v_sub [0, 1, 2, 4] rfl ?_
          exact t_X11_longest_b62 C R ih he76 _ _ _ _ h
      · have h := h.2 q
        refine v_aload_n C dX11_longest_37 0 rfl ?_
        refine g_X11_faceLong C wd_1099 dX11_longest_38 ?_
        refine v_iload C dX11_longest_41 4 rfl ?_
        refine v_iald C rfl h.1 dX11_longest_43 ?_
        have h := h.2
        refine v_iload_n C dX11_longest_44 3 rfl ?_
        refine v_icmp_le C 70 dX11_longest_45 (by decide) (fun q => ?_) (fun q => ?_)
        · have h := h.1 q
          refine v_iinc C [(4, _), (0, _), (1, _), (2, _), (3, _)] dX11_longest_70 4 rfl (by decide) rfl ?_
          refine v_goto C 27 dX11_longest_73 (by decide) ?_
          refine v_sub [1, 2, 3, 4, 0] rfl ?_
          exact ih _ _ _ _ _ h
        · have h := h.2 q
          refine v_goto C 62 dX11_longest_48 (by decide) ?_
          refine v_sub [0, 1, 2, 4] rfl ?_
          exact t_X11_longest_b62 C R ih he76 _ _ _ _ h
def X11_longest_b76 (Q : Int → Wd → Prop) (x3 : Int) (w : Wd) : Prop := Q (wr x3) w
theorem t_X11_longest_b76 {Z : Zw} {E : Amb} {Q : Int → Wd → Prop} (C : Cx Z (adA Z) E cX11_longest "HandleFacesModel" 5 rm_X11_longest) (R : Rt Z E (some .int) (qI Z Q)) : ∀ (x3 : Int) (w : Wd), X11_longest_b76 Q x3 w → V Z (adA Z) E 5 w 76 [(3, iv x3)] [] := by
  intro x3 w h
  unfold X11_longest_b76 at h
  refine v_iload_n C dX11_longest_76 0 rfl ?_
  exact v_iret C R h dX11_longest_77
def X11_longest_b23 (Q : Int → Wd → Prop) (x1 : Int) (x2 : Int) (s0 : Int) (w : Wd) : Prop := (∃ m, X11_longest_l27 Q (X11_longest_b76 Q) m x1 x2 s0 1 w)
theorem t_X11_longest_b23 {Z : Zw} {E : Amb} {Q : Int → Wd → Prop} (C : Cx Z (adA Z) E cX11_longest "HandleFacesModel" 5 rm_X11_longest) (R : Rt Z E (some .int) (qI Z Q)) : ∀ (x1 : Int) (x2 : Int) (s0 : Int) (w : Wd), X11_longest_b23 Q x1 x2 s0 w → V Z (adA Z) E 5 w 23 [(0, rv Z 65), (1, iv x1), (2, iv x2)] [iv s0] := by
  intro x1 x2 s0 w h
  unfold X11_longest_b23 at h
  refine v_istore_n C [(3, _), (0, _), (1, _), (2, _)] dX11_longest_23 3 rfl (by decide) rfl ?_
  refine v_iconst C dX11_longest_24 ?_
  refine v_istore C [(4, _), (3, _), (0, _), (1, _), (2, _)] dX11_longest_25 (by decide) rfl ?_
  refine v_sub [2, 3, 4, 1, 0] rfl ?_
  obtain ⟨m, h⟩ := h
  exact t_X11_longest_l27 C R (t_X11_longest_b76 C R) m _ _ _ _ _ h
def X11_longest (x1 : Int) (w : Wd) (Q : Int → Wd → Prop) : Prop := X11_traces 73 w (fun y2 w1 => ((wr y2 = 0 → X11_longest_b23 Q x1 y2 0 w1) ∧ (¬ wr y2 = 0 → (ix 0 30 ∧ X11_longest_b23 Q x1 y2 (rd w1 81 0) w1))))
theorem m_X11_longest {Z : Zw} {l : Launch} {x1 : Int} {w : Wd} {Q : Int → Wd → Prop} (h : X11_longest x1 w Q) : CtQ Z l yX11_longest cX11_longest 5 (some .int) rm_X11_longest [rv Z 65, iv x1] w (qI Z Q) := by
  refine ct_of (by decide) (Nat.le_of_ble_eq_true rfl) (fun E eE C R => ?_)
  subst eE
  have C : Cx Z (adA Z) E cX11_longest "HandleFacesModel" 5 rm_X11_longest := C
  unfold X11_longest at h
  show V Z (adA Z) E 5 w 0 [(0, rv Z 65), (1, iv x1)] []
  refine v_aload_n C dX11_longest_0 0 rfl ?_
  refine v_aload_n C dX11_longest_1 0 rfl ?_
  refine g_X11_now C wd_1087 dX11_longest_2 ?_
  refine v_calli C (rn_V C _ (m_X11_traces rfl h) mf_X11_traces wd_1375 wp_62 wd_1373 rfl rfl ⟨(Nat.le_of_ble_eq_true rfl), (Nat.le_of_ble_eq_true rfl)⟩ rfl rfl rfl rfl (Nat.le_of_ble_eq_true rfl) dX11_longest_5) (fun r w h => ?_)
  refine v_istore_n C [(2, _), (0, _), (1, _)] dX11_longest_8 2 rfl (by decide) rfl ?_
  refine v_iload_n C dX11_longest_9 0 rfl ?_
  refine v_if_ne C 17 dX11_longest_10 (by decide) (fun q => ?_) (fun q => ?_)
  · have h := h.2 q
    refine v_aload_n C dX11_longest_17 1 rfl ?_
    refine g_X11_faceLong C wd_1099 dX11_longest_18 ?_
    refine v_iconst C dX11_longest_21 ?_
    refine v_iald C rfl h.1 dX11_longest_22 ?_
    have h := h.2
    refine v_sub [1, 2, 0] rfl ?_
    exact t_X11_longest_b23 C R _ _ _ _ h
  · have h := h.1 q
    refine v_iconst C dX11_longest_13 ?_
    refine v_goto C 23 dX11_longest_14 (by decide) ?_
    refine v_sub [1, 2, 0] rfl ?_
    exact t_X11_longest_b23 C R _ _ _ _ h
abbrev rm_X11_twisted : Room := { frames := 0, cells := 0, slots := 0, locals := 0 }
theorem mf_X11_twisted : MfB yX11_twisted cX11_twisted 3 (some .int) 0 := ⟨wd_1524, wd_13, by decide, by decide, by decide +kernel⟩
def X11_twisted_l4 (Q : Int → Wd → Prop) (e39 : Int → Wd → Prop) : Nat → Int → Int → Wd → Prop
  | 0 => fun _ _ _ => False
  | n + 1 => fun x1 x2 w => (ix 1 98 ∧ ((wr (rd w 73 1) ≤ wr x2 → e39 x1 w) ∧ (¬ wr (rd w 73 1) ≤ wr x2 → (ix (22 + x2) 98 ∧ ((wr (rd w 73 (22 + x2)) = wr 1 → (∀ y1, y1 = (ior x1 (isl 1 x2)) → (X11_twisted_l4 Q e39 n) y1 (x2 + 1) w)) ∧ (¬ wr (rd w 73 (22 + x2)) = wr 1 → (X11_twisted_l4 Q e39 n) x1 (x2 + 1) w))))))
theorem t_X11_twisted_l4 {Z : Zw} {E : Amb} {Q : Int → Wd → Prop} {e39 : Int → Wd → Prop} (C : Cx Z (adA Z) E cX11_twisted "HandleFacesModel" 3 rm_X11_twisted) (R : Rt Z E (some .int) (qI Z Q)) (he39 : ∀ (x1 : Int) (w : Wd), e39 x1 w → V Z (adA Z) E 3 w 39 [(1, iv x1)] []) : ∀ (n : Nat) (x1 : Int) (x2 : Int) (w : Wd), X11_twisted_l4 Q e39 n x1 x2 w → V Z (adA Z) E 3 w 4 [(0, rv Z 65), (1, iv x1), (2, iv x2)] [] := by
  intro n
  induction n with
  | zero => intro x1 x2 w h; exact h.elim
  | succ n ih =>
    intro x1 x2 w h
    unfold X11_twisted_l4 at h
    refine v_iload_n C dX11_twisted_4 2 rfl ?_
    refine v_aload_n C dX11_twisted_5 0 rfl ?_
    refine g_X11_now C wd_1087 dX11_twisted_6 ?_
    refine v_iconst C dX11_twisted_9 ?_
    refine v_iald C rfl h.1 dX11_twisted_10 ?_
    have h := h.2
    refine v_icmp_ge C 39 dX11_twisted_11 (by decide) (fun q => ?_) (fun q => ?_)
    · have h := h.1 q
      refine v_sub [1] rfl ?_
      exact he39 _ _ h
    · have h := h.2 q
      refine v_aload_n C dX11_twisted_14 0 rfl ?_
      refine g_X11_now C wd_1087 dX11_twisted_15 ?_
      refine v_bipush C dX11_twisted_18 (by decide) ?_
      refine v_iload_n C dX11_twisted_20 2 rfl ?_
      refine v_iadd C dX11_twisted_21 ?_
      refine v_iald C rfl h.1 dX11_twisted_22 ?_
      have h := h.2
      refine v_iconst C dX11_twisted_23 ?_
      refine v_icmp_ne C 33 dX11_twisted_24 (by decide) (fun q => ?_) (fun q => ?_)
      · have h := h.2 q
        refine v_iinc C [(2, _), (0, _), (1, _)] dX11_twisted_33 2 rfl (by decide) rfl ?_
        refine v_goto C 4 dX11_twisted_36 (by decide) ?_
        refine v_sub [1, 2, 0] rfl ?_
        exact ih _ _ _ h
      · have h := h.1 q
        refine v_iload_n C dX11_twisted_27 1 rfl ?_
        refine v_iconst C dX11_twisted_28 ?_
        refine v_iload_n C dX11_twisted_29 2 rfl ?_
        refine v_ishl C dX11_twisted_30 ?_
        refine v_ior C dX11_twisted_31 ?_
        refine v_istore_n C [(1, _), (0, _), (2, _)] dX11_twisted_32 1 rfl (by decide) rfl ?_
        have h := h _ rfl
        refine v_iinc C [(2, _), (1, _), (0, _)] dX11_twisted_33 2 rfl (by decide) rfl ?_
        refine v_goto C 4 dX11_twisted_36 (by decide) ?_
        refine v_sub [2, 1, 0] rfl ?_
        exact ih _ _ _ h
def X11_twisted_b39 (Q : Int → Wd → Prop) (x1 : Int) (w : Wd) : Prop := Q (wr x1) w
theorem t_X11_twisted_b39 {Z : Zw} {E : Amb} {Q : Int → Wd → Prop} (C : Cx Z (adA Z) E cX11_twisted "HandleFacesModel" 3 rm_X11_twisted) (R : Rt Z E (some .int) (qI Z Q)) : ∀ (x1 : Int) (w : Wd), X11_twisted_b39 Q x1 w → V Z (adA Z) E 3 w 39 [(1, iv x1)] [] := by
  intro x1 w h
  unfold X11_twisted_b39 at h
  refine v_iload_n C dX11_twisted_39 0 rfl ?_
  exact v_iret C R h dX11_twisted_40
def X11_twisted (w : Wd) (Q : Int → Wd → Prop) : Prop := (∃ m, X11_twisted_l4 Q (X11_twisted_b39 Q) m 0 0 w)
theorem m_X11_twisted {Z : Zw} {l : Launch} {w : Wd} {Q : Int → Wd → Prop} (h : X11_twisted w Q) : CtQ Z l yX11_twisted cX11_twisted 3 (some .int) rm_X11_twisted [rv Z 65] w (qI Z Q) := by
  refine ct_of (by decide) (Nat.le_of_ble_eq_true rfl) (fun E eE C R => ?_)
  subst eE
  have C : Cx Z (adA Z) E cX11_twisted "HandleFacesModel" 3 rm_X11_twisted := C
  unfold X11_twisted at h
  show V Z (adA Z) E 3 w 0 [(0, rv Z 65)] []
  refine v_iconst C dX11_twisted_0 ?_
  refine v_istore_n C [(1, _), (0, _)] dX11_twisted_1 1 rfl (by decide) rfl ?_
  refine v_iconst C dX11_twisted_2 ?_
  refine v_istore_n C [(2, _), (1, _), (0, _)] dX11_twisted_3 2 rfl (by decide) rfl ?_
  refine v_sub [2, 1, 0] rfl ?_
  obtain ⟨m, h⟩ := h
  exact t_X11_twisted_l4 C R (t_X11_twisted_b39 C R) m _ _ _ h
abbrev rm_X11_oneSided : Room := { frames := 3, cells := 0, slots := 0, locals := 76 }
theorem mf_X11_oneSided : MfB yX11_oneSided cX11_oneSided 4 (some .int) 0 := ⟨wd_1532, wd_13, by decide, by decide, by decide +kernel⟩
def X11_oneSided_l13 (Q : Int → Wd → Prop) (e57 : Int → Wd → Prop) : Nat → Int → Int → Wd → Prop
  | 0 => fun _ _ _ => False
  | n + 1 => fun x2 x3 w => (ix 1 98 ∧ ((wr (rd w 73 1) ≤ wr x3 → e57 x2 w) ∧ (¬ wr (rd w 73 1) ≤ wr x3 → (ix (2 * x3) 40 ∧ (ix ((2 * x3) + 20) 40 ∧ ((wr (rd w 79 (2 * x3)) = wr (rd w 79 ((2 * x3) + 20)) → (∀ y3, y3 = (ior x2 (isl 1 x3)) → (X11_oneSided_l13 Q e57 n) y3 (x3 + 1) w)) ∧ (¬ wr (rd w 79 (2 * x3)) = wr (rd w 79 ((2 * x3) + 20)) → (X11_oneSided_l13 Q e57 n) x2 (x3 + 1) w)))))))
theorem t_X11_oneSided_l13 {Z : Zw} {E : Amb} {Q : Int → Wd → Prop} {e57 : Int → Wd → Prop} (C : Cx Z (adA Z) E cX11_oneSided "HandleFacesModel" 4 rm_X11_oneSided) (R : Rt Z E (some .int) (qI Z Q)) (he57 : ∀ (x2 : Int) (w : Wd), e57 x2 w → V Z (adA Z) E 4 w 57 [(2, iv x2)] []) : ∀ (n : Nat) (x2 : Int) (x3 : Int) (w : Wd), X11_oneSided_l13 Q e57 n x2 x3 w → V Z (adA Z) E 4 w 13 [(0, rv Z 65), (2, iv x2), (3, iv x3)] [] := by
  intro n
  induction n with
  | zero => intro x2 x3 w h; exact h.elim
  | succ n ih =>
    intro x2 x3 w h
    unfold X11_oneSided_l13 at h
    refine v_iload_n C dX11_oneSided_13 2 rfl ?_
    refine v_aload_n C dX11_oneSided_14 0 rfl ?_
    refine g_X11_now C wd_1087 dX11_oneSided_15 ?_
    refine v_iconst C dX11_oneSided_18 ?_
    refine v_iald C rfl h.1 dX11_oneSided_19 ?_
    have h := h.2
    refine v_icmp_ge C 57 dX11_oneSided_20 (by decide) (fun q => ?_) (fun q => ?_)
    · have h := h.1 q
      refine v_sub [1] rfl ?_
      exact he57 _ _ h
    · have h := h.2 q
      refine v_aload_n C dX11_oneSided_23 0 rfl ?_
      refine g_X11_faceAt C wd_1097 dX11_oneSided_24 ?_
      refine v_iconst C dX11_oneSided_27 ?_
      refine v_iload_n C dX11_oneSided_28 2 rfl ?_
      refine v_imul C dX11_oneSided_29 ?_
      refine v_iald C rfl h.1 dX11_oneSided_30 ?_
      have h := h.2
      refine v_aload_n C dX11_oneSided_31 0 rfl ?_
      refine g_X11_faceAt C wd_1097 dX11_oneSided_32 ?_
      refine v_iconst C dX11_oneSided_35 ?_
      refine v_iload_n C dX11_oneSided_36 2 rfl ?_
      refine v_imul C dX11_oneSided_37 ?_
      refine v_bipush C dX11_oneSided_38 (by decide) ?_
      refine v_iadd C dX11_oneSided_40 ?_
      refine v_iald C rfl h.1 dX11_oneSided_41 ?_
      have h := h.2
      refine v_icmp_ne C 51 dX11_oneSided_42 (by decide) (fun q => ?_) (fun q => ?_)
      · have h := h.2 q
        refine v_iinc C [(3, _), (0, _), (2, _)] dX11_oneSided_51 2 rfl (by decide) rfl ?_
        refine v_goto C 13 dX11_oneSided_54 (by decide) ?_
        refine v_sub [1, 2, 0] rfl ?_
        exact ih _ _ _ h
      · have h := h.1 q
        refine v_iload_n C dX11_oneSided_45 1 rfl ?_
        refine v_iconst C dX11_oneSided_46 ?_
        refine v_iload_n C dX11_oneSided_47 2 rfl ?_
        refine v_ishl C dX11_oneSided_48 ?_
        refine v_ior C dX11_oneSided_49 ?_
        refine v_istore_n C [(2, _), (0, _), (3, _)] dX11_oneSided_50 2 rfl (by decide) rfl ?_
        have h := h _ rfl
        refine v_iinc C [(3, _), (2, _), (0, _)] dX11_oneSided_51 2 rfl (by decide) rfl ?_
        refine v_goto C 13 dX11_oneSided_54 (by decide) ?_
        refine v_sub [2, 1, 0] rfl ?_
        exact ih _ _ _ h
def X11_oneSided_b57 (Q : Int → Wd → Prop) (x2 : Int) (w : Wd) : Prop := Q (wr x2) w
theorem t_X11_oneSided_b57 {Z : Zw} {E : Amb} {Q : Int → Wd → Prop} (C : Cx Z (adA Z) E cX11_oneSided "HandleFacesModel" 4 rm_X11_oneSided) (R : Rt Z E (some .int) (qI Z Q)) : ∀ (x2 : Int) (w : Wd), X11_oneSided_b57 Q x2 w → V Z (adA Z) E 4 w 57 [(2, iv x2)] [] := by
  intro x2 w h
  unfold X11_oneSided_b57 at h
  refine v_iload_n C dX11_oneSided_57 0 rfl ?_
  exact v_iret C R h dX11_oneSided_58
def X11_oneSided (w : Wd) (Q : Int → Wd → Prop) : Prop := X11_traces 73 w (fun y2 w1 => (∃ m, X11_oneSided_l13 Q (X11_oneSided_b57 Q) m 0 0 w1))
theorem m_X11_oneSided {Z : Zw} {l : Launch} {w : Wd} {Q : Int → Wd → Prop} (h : X11_oneSided w Q) : CtQ Z l yX11_oneSided cX11_oneSided 4 (some .int) rm_X11_oneSided [rv Z 65] w (qI Z Q) := by
  refine ct_of (by decide) (Nat.le_of_ble_eq_true rfl) (fun E eE C R => ?_)
  subst eE
  have C : Cx Z (adA Z) E cX11_oneSided "HandleFacesModel" 4 rm_X11_oneSided := C
  unfold X11_oneSided at h
  show V Z (adA Z) E 4 w 0 [(0, rv Z 65)] []
  refine v_aload_n C dX11_oneSided_0 0 rfl ?_
  refine v_aload_n C dX11_oneSided_1 0 rfl ?_
  refine g_X11_now C wd_1087 dX11_oneSided_2 ?_
  refine v_calli C (rn_V C _ (m_X11_traces rfl h) mf_X11_traces wd_1375 wp_62 wd_1373 rfl rfl ⟨(Nat.le_of_ble_eq_true rfl), (Nat.le_of_ble_eq_true rfl)⟩ rfl rfl rfl rfl (Nat.le_of_ble_eq_true rfl) dX11_oneSided_5) (fun r w h => ?_)
  refine v_istore_n C [(1, _), (0, _)] dX11_oneSided_8 1 rfl (by decide) rfl ?_
  refine v_iconst C dX11_oneSided_9 ?_
  refine v_istore_n C [(2, _), (1, _), (0, _)] dX11_oneSided_10 2 rfl (by decide) rfl ?_
  refine v_iconst C dX11_oneSided_11 ?_
  refine v_istore_n C [(3, _), (2, _), (1, _), (0, _)] dX11_oneSided_12 3 rfl (by decide) rfl ?_
  refine v_sub [3, 1, 0] rfl ?_
  obtain ⟨m, h⟩ := h
  exact t_X11_oneSided_l13 C R (t_X11_oneSided_b57 C R) m _ _ _ h
abbrev rm_X11_ownLikes : Room := { frames := 4, cells := 0, slots := 0, locals := 100 }
theorem mf_X11_ownLikes : MfB yX11_ownLikes cX11_ownLikes 2 (some .int) 0 := ⟨wd_1540, wd_13, by decide, by decide, by decide +kernel⟩
def X11_ownLikes_l2 (Q : Int → Wd → Prop) (e26 : Wd → Prop) : Nat → Int → Wd → Prop
  | 0 => fun _ _ => False
  | n + 1 => fun x1 w => ((wr 98 ≤ wr x1 → e26 w) ∧ (¬ wr 98 ≤ wr x1 → (ix x1 98 ∧ (ix x1 98 ∧ (∀ w1, w1 = wt w 83 x1 (rd w 73 x1) → (X11_ownLikes_l2 Q e26 n) (x1 + 1) w1)))))
theorem t_X11_ownLikes_l2 {Z : Zw} {E : Amb} {Q : Int → Wd → Prop} {e26 : Wd → Prop} (C : Cx Z (adA Z) E cX11_ownLikes "HandleFacesModel" 2 rm_X11_ownLikes) (R : Rt Z E (some .int) (qI Z Q)) (he26 : ∀ (w : Wd), e26 w → V Z (adA Z) E 2 w 26 [(0, rv Z 65)] []) : ∀ (n : Nat) (x1 : Int) (w : Wd), X11_ownLikes_l2 Q e26 n x1 w → V Z (adA Z) E 2 w 2 [(0, rv Z 65), (1, iv x1)] [] := by
  intro n
  induction n with
  | zero => intro x1 w h; exact h.elim
  | succ n ih =>
    intro x1 w h
    unfold X11_ownLikes_l2 at h
    refine v_iload_n C dX11_ownLikes_2 1 rfl ?_
    refine v_bipush C dX11_ownLikes_3 (by decide) ?_
    refine v_icmp_ge C 26 dX11_ownLikes_5 (by decide) (fun q => ?_) (fun q => ?_)
    · have h := h.1 q
      refine v_sub [0] rfl ?_
      exact he26 _ h
    · have h := h.2 q
      refine v_aload_n C dX11_ownLikes_8 0 rfl ?_
      refine g_X11_tried C wd_1101 dX11_ownLikes_9 ?_
      refine v_iload_n C dX11_ownLikes_12 1 rfl ?_
      refine v_aload_n C dX11_ownLikes_13 0 rfl ?_
      refine g_X11_now C wd_1087 dX11_ownLikes_14 ?_
      refine v_iload_n C dX11_ownLikes_17 1 rfl ?_
      refine v_iald C rfl h.1 dX11_ownLikes_18 ?_
      have h := h.2
      refine v_iast C rfl h.1 dX11_ownLikes_19 ?_
      have h := h.2
      have h := h _ rfl
      refine v_iinc C [(1, _), (0, _)] dX11_ownLikes_20 1 rfl (by decide) rfl ?_
      refine v_goto C 2 dX11_ownLikes_23 (by decide) ?_
      refine v_sub [1, 0] rfl ?_
      exact ih _ _ h
def X11_ownLikes_b26 (Q : Int → Wd → Prop) (w : Wd) : Prop := X11_likes 83 w (fun y3 w2 => Q (wr y3) w2)
theorem t_X11_ownLikes_b26 {Z : Zw} {E : Amb} {Q : Int → Wd → Prop} (C : Cx Z (adA Z) E cX11_ownLikes "HandleFacesModel" 2 rm_X11_ownLikes) (R : Rt Z E (some .int) (qI Z Q)) : ∀ (w : Wd), X11_ownLikes_b26 Q w → V Z (adA Z) E 2 w 26 [(0, rv Z 65)] [] := by
  intro w h
  unfold X11_ownLikes_b26 at h
  refine v_aload_n C dX11_ownLikes_26 0 rfl ?_
  refine v_aload_n C dX11_ownLikes_27 0 rfl ?_
  refine g_X11_tried C wd_1101 dX11_ownLikes_28 ?_
  refine v_calli C (rn_V C _ (m_X11_likes rfl h) mf_X11_likes wd_1504 wp_77 wd_1502 rfl rfl ⟨(Nat.le_of_ble_eq_true rfl), (Nat.le_of_ble_eq_true rfl)⟩ rfl rfl rfl rfl (Nat.le_of_ble_eq_true rfl) dX11_ownLikes_31) (fun r w h => ?_)
  exact v_iret C R h dX11_ownLikes_34
def X11_ownLikes (w : Wd) (Q : Int → Wd → Prop) : Prop := (∃ m, X11_ownLikes_l2 Q (X11_ownLikes_b26 Q) m 0 w)
theorem m_X11_ownLikes {Z : Zw} {l : Launch} {w : Wd} {Q : Int → Wd → Prop} (h : X11_ownLikes w Q) : CtQ Z l yX11_ownLikes cX11_ownLikes 2 (some .int) rm_X11_ownLikes [rv Z 65] w (qI Z Q) := by
  refine ct_of (by decide) (Nat.le_of_ble_eq_true rfl) (fun E eE C R => ?_)
  subst eE
  have C : Cx Z (adA Z) E cX11_ownLikes "HandleFacesModel" 2 rm_X11_ownLikes := C
  unfold X11_ownLikes at h
  show V Z (adA Z) E 2 w 0 [(0, rv Z 65)] []
  refine v_iconst C dX11_ownLikes_0 ?_
  refine v_istore_n C [(1, _), (0, _)] dX11_ownLikes_1 1 rfl (by decide) rfl ?_
  refine v_sub [1, 0] rfl ?_
  obtain ⟨m, h⟩ := h
  exact t_X11_ownLikes_l2 C R (t_X11_ownLikes_b26 C R) m _ _ h
abbrev rm_X11_count : Room := { frames := 5, cells := 0, slots := 0, locals := 121 }
theorem mf_X11_count : MfB yX11_count cX11_count 2 (some .int) 1 := ⟨wd_1520, wd_13, by decide, by decide, by decide +kernel⟩
def X11_count_b161 (Q : Int → Wd → Prop) (s0 : Int) (s1 : Int) (w : Wd) : Prop := (ix 2 3 ∧ ((wr (rd w 78 2) = 0 → Q (wr ((s1 + s0) + 0)) w) ∧ (¬ wr (rd w 78 2) = 0 → Q (wr ((s1 + s0) + 1)) w)))
theorem t_X11_count_b161 {Z : Zw} {E : Amb} {Q : Int → Wd → Prop} (C : Cx Z (adA Z) E cX11_count "HandleFacesModel" 2 rm_X11_count) (R : Rt Z E (some .int) (qI Z Q)) : ∀ (s0 : Int) (s1 : Int) (w : Wd), X11_count_b161 Q s0 s1 w → V Z (adA Z) E 2 w 161 [(0, rv Z 65)] [iv s0, iv s1] := by
  intro s0 s1 w h
  unfold X11_count_b161 at h
  refine v_iadd C dX11_count_161 ?_
  refine v_aload_n C dX11_count_162 0 rfl ?_
  refine g_X11_isHeld C wd_1096 dX11_count_163 ?_
  refine v_iconst C dX11_count_166 ?_
  refine v_zald C rfl h.1 dX11_count_167 ?_
  have h := h.2
  refine v_if_eq C 175 dX11_count_168 (by decide) (fun q => ?_) (fun q => ?_)
  · have h := h.1 q
    refine v_iconst C dX11_count_175 ?_
    refine v_iadd C dX11_count_176 ?_
    exact v_iret C R h dX11_count_177
  · have h := h.2 q
    refine v_iconst C dX11_count_171 ?_
    refine v_goto C 176 dX11_count_172 (by decide) ?_
    refine v_iadd C dX11_count_176 ?_
    exact v_iret C R h dX11_count_177
def X11_count_b147 (Q : Int → Wd → Prop) (s0 : Int) (w : Wd) : Prop := (ix 1 3 ∧ ((wr (rd w 78 1) = 0 → X11_count_b161 Q 0 s0 w) ∧ (¬ wr (rd w 78 1) = 0 → X11_count_b161 Q 1 s0 w)))
theorem t_X11_count_b147 {Z : Zw} {E : Amb} {Q : Int → Wd → Prop} (C : Cx Z (adA Z) E cX11_count "HandleFacesModel" 2 rm_X11_count) (R : Rt Z E (some .int) (qI Z Q)) : ∀ (s0 : Int) (w : Wd), X11_count_b147 Q s0 w → V Z (adA Z) E 2 w 147 [(0, rv Z 65)] [iv s0] := by
  intro s0 w h
  unfold X11_count_b147 at h
  refine v_aload_n C dX11_count_147 0 rfl ?_
  refine g_X11_isHeld C wd_1096 dX11_count_148 ?_
  refine v_iconst C dX11_count_151 ?_
  refine v_zald C rfl h.1 dX11_count_152 ?_
  have h := h.2
  refine v_if_eq C 160 dX11_count_153 (by decide) (fun q => ?_) (fun q => ?_)
  · have h := h.1 q
    refine v_iconst C dX11_count_160 ?_
    exact t_X11_count_b161 C R _ _ _ h
  · have h := h.2 q
    refine v_iconst C dX11_count_156 ?_
    refine v_goto C 161 dX11_count_157 (by decide) ?_
    exact t_X11_count_b161 C R _ _ _ h
def X11_count (x1 : Int) (w : Wd) (Q : Int → Wd → Prop) : Prop := (∀ t1, t1 = wr x1 → ((t1 = 0 → (ix 0 98 ∧ Q (wr (rd w 73 0)) w)) ∧ (t1 = 1 → (ix 1 98 ∧ Q (wr (rd w 73 1)) w)) ∧ (t1 = 2 → X11_traces 73 w (fun y3 w2 => Q (wr y3) w2)) ∧ (t1 = 3 → X11_twisted w (fun y5 w4 => Q (wr y5) w4)) ∧ (t1 = 4 → X11_longest 1 w (fun y7 w6 => Q (wr y7) w6)) ∧ (t1 = 5 → X11_longest 0 w (fun y9 w8 => Q (wr y9) w8)) ∧ (t1 = 6 → X11_oneSided w (fun y11 w10 => Q (wr y11) w10)) ∧ (t1 = 7 → X11_rings w (fun y13 w12 => Q (wr y13) w12)) ∧ (t1 = 8 → X11_ownLikes w (fun y15 w14 => Q (wr y15) w14)) ∧ (t1 = 9 → Q (wr (w 65 2)) w) ∧ (t1 = 10 → Q (wr (w 65 24)) w) ∧ (t1 = 11 → (ix 0 3 ∧ ((wr (rd w 78 0) = 0 → X11_count_b147 Q 0 w) ∧ (¬ wr (rd w 78 0) = 0 → X11_count_b147 Q 1 w)))) ∧ (t1 = 12 → X11_straights w (fun y17 w16 => Q (wr y17) w16)) ∧ (t1 < 0 ∨ 12 < t1 → Q (wr (-1)) w)))
theorem m_X11_count {Z : Zw} {l : Launch} {x1 : Int} {w : Wd} {Q : Int → Wd → Prop} (h : X11_count x1 w Q) : CtQ Z l yX11_count cX11_count 2 (some .int) rm_X11_count [rv Z 65, iv x1] w (qI Z Q) := by
  refine ct_of (by decide) (Nat.le_of_ble_eq_true rfl) (fun E eE C R => ?_)
  subst eE
  have C : Cx Z (adA Z) E cX11_count "HandleFacesModel" 2 rm_X11_count := C
  unfold X11_count at h
  show V Z (adA Z) E 2 w 0 [(0, rv Z 65), (1, iv x1)] []
  refine v_iload_n C dX11_count_0 1 rfl ?_
  refine v_tabX (fun x hx => ?_)
  have h := h x hx.symm
  by_cases q0 : x = 0
  · have h := h.1 q0
    refine v_tabIn C 68 dX11_count_1 0 (hx.trans q0) (by decide) (by decide) rfl (by decide) ?_
    refine v_aload_n C dX11_count_68 0 rfl ?_
    refine g_X11_now C wd_1087 dX11_count_69 ?_
    refine v_iconst C dX11_count_72 ?_
    refine v_iald C rfl h.1 dX11_count_73 ?_
    have h := h.2
    exact v_iret C R h dX11_count_74
  by_cases q1 : x = 1
  · have h := h.2.1 q1
    refine v_tabIn C 75 dX11_count_1 1 (hx.trans q1) (by decide) (by decide) rfl (by decide) ?_
    refine v_aload_n C dX11_count_75 0 rfl ?_
    refine g_X11_now C wd_1087 dX11_count_76 ?_
    refine v_iconst C dX11_count_79 ?_
    refine v_iald C rfl h.1 dX11_count_80 ?_
    have h := h.2
    exact v_iret C R h dX11_count_81
  by_cases q2 : x = 2
  · have h := h.2.2.1 q2
    refine v_tabIn C 82 dX11_count_1 2 (hx.trans q2) (by decide) (by decide) rfl (by decide) ?_
    refine v_aload_n C dX11_count_82 0 rfl ?_
    refine v_aload_n C dX11_count_83 0 rfl ?_
    refine g_X11_now C wd_1087 dX11_count_84 ?_
    refine v_calli C (rn_V C _ (m_X11_traces rfl h) mf_X11_traces wd_1375 wp_62 wd_1373 rfl rfl ⟨(Nat.le_of_ble_eq_true rfl), (Nat.le_of_ble_eq_true rfl)⟩ rfl rfl rfl rfl (Nat.le_of_ble_eq_true rfl) dX11_count_87) (fun r w h => ?_)
    exact v_iret C R h dX11_count_90
  by_cases q3 : x = 3
  · have h := h.2.2.2.1 q3
    refine v_tabIn C 91 dX11_count_1 3 (hx.trans q3) (by decide) (by decide) rfl (by decide) ?_
    refine v_aload_n C dX11_count_91 0 rfl ?_
    refine v_calli C (rn_V C _ (m_X11_twisted h) mf_X11_twisted wd_1523 wp_80 wd_1521 rfl rfl ⟨(Nat.le_of_ble_eq_true rfl), (Nat.le_of_ble_eq_true rfl)⟩ rfl rfl rfl rfl (Nat.le_of_ble_eq_true rfl) dX11_count_92) (fun r w h => ?_)
    exact v_iret C R h dX11_count_95
  by_cases q4 : x = 4
  · have h := h.2.2.2.2.1 q4
    refine v_tabIn C 96 dX11_count_1 4 (hx.trans q4) (by decide) (by decide) rfl (by decide) ?_
    refine v_aload_n C dX11_count_96 0 rfl ?_
    refine v_iconst C dX11_count_97 ?_
    refine v_calli C (rn_V C _ (m_X11_longest h) mf_X11_longest wd_1527 wp_81 wd_1525 rfl rfl ⟨(Nat.le_of_ble_eq_true rfl), (Nat.le_of_ble_eq_true rfl)⟩ rfl rfl rfl rfl (Nat.le_of_ble_eq_true rfl) dX11_count_98) (fun r w h => ?_)
    exact v_iret C R h dX11_count_101
  by_cases q5 : x = 5
  · have h := h.2.2.2.2.2.1 q5
    refine v_tabIn C 102 dX11_count_1 5 (hx.trans q5) (by decide) (by decide) rfl (by decide) ?_
    refine v_aload_n C dX11_count_102 0 rfl ?_
    refine v_iconst C dX11_count_103 ?_
    refine v_calli C (rn_V C _ (m_X11_longest h) mf_X11_longest wd_1527 wp_81 wd_1525 rfl rfl ⟨(Nat.le_of_ble_eq_true rfl), (Nat.le_of_ble_eq_true rfl)⟩ rfl rfl rfl rfl (Nat.le_of_ble_eq_true rfl) dX11_count_104) (fun r w h => ?_)
    exact v_iret C R h dX11_count_107
  by_cases q6 : x = 6
  · have h := h.2.2.2.2.2.2.1 q6
    refine v_tabIn C 108 dX11_count_1 6 (hx.trans q6) (by decide) (by decide) rfl (by decide) ?_
    refine v_aload_n C dX11_count_108 0 rfl ?_
    refine v_calli C (rn_V C _ (m_X11_oneSided h) mf_X11_oneSided wd_1531 wp_82 wd_1529 rfl rfl ⟨(Nat.le_of_ble_eq_true rfl), (Nat.le_of_ble_eq_true rfl)⟩ rfl rfl rfl rfl (Nat.le_of_ble_eq_true rfl) dX11_count_109) (fun r w h => ?_)
    exact v_iret C R h dX11_count_112
  by_cases q7 : x = 7
  · have h := h.2.2.2.2.2.2.2.1 q7
    refine v_tabIn C 113 dX11_count_1 7 (hx.trans q7) (by decide) (by decide) rfl (by decide) ?_
    refine v_aload_n C dX11_count_113 0 rfl ?_
    refine v_calli C (rn_V C _ (m_X11_rings h) mf_X11_rings wd_1535 wp_83 wd_1533 rfl rfl ⟨(Nat.le_of_ble_eq_true rfl), (Nat.le_of_ble_eq_true rfl)⟩ rfl rfl rfl rfl (Nat.le_of_ble_eq_true rfl) dX11_count_114) (fun r w h => ?_)
    exact v_iret C R h dX11_count_117
  by_cases q8 : x = 8
  · have h := h.2.2.2.2.2.2.2.2.1 q8
    refine v_tabIn C 118 dX11_count_1 8 (hx.trans q8) (by decide) (by decide) rfl (by decide) ?_
    refine v_aload_n C dX11_count_118 0 rfl ?_
    refine v_calli C (rn_V C _ (m_X11_ownLikes h) mf_X11_ownLikes wd_1539 wp_84 wd_1537 rfl rfl ⟨(Nat.le_of_ble_eq_true rfl), (Nat.le_of_ble_eq_true rfl)⟩ rfl rfl rfl rfl (Nat.le_of_ble_eq_true rfl) dX11_count_119) (fun r w h => ?_)
    exact v_iret C R h dX11_count_122
  by_cases q9 : x = 9
  · have h := h.2.2.2.2.2.2.2.2.2.1 q9
    refine v_tabIn C 123 dX11_count_1 9 (hx.trans q9) (by decide) (by decide) rfl (by decide) ?_
    refine v_aload_n C dX11_count_123 0 rfl ?_
    refine g_X11_taped C wd_1072 dX11_count_124 ?_
    exact v_iret C R h dX11_count_127
  by_cases q10 : x = 10
  · have h := h.2.2.2.2.2.2.2.2.2.2.1 q10
    refine v_tabIn C 128 dX11_count_1 10 (hx.trans q10) (by decide) (by decide) rfl (by decide) ?_
    refine v_aload_n C dX11_count_128 0 rfl ?_
    refine g_X11_undos C wd_1094 dX11_count_129 ?_
    exact v_iret C R h dX11_count_132
  by_cases q11 : x = 11
  · have h := h.2.2.2.2.2.2.2.2.2.2.2.1 q11
    refine v_tabIn C 133 dX11_count_1 11 (hx.trans q11) (by decide) (by decide) rfl (by decide) ?_
    refine v_aload_n C dX11_count_133 0 rfl ?_
    refine g_X11_isHeld C wd_1096 dX11_count_134 ?_
    refine v_iconst C dX11_count_137 ?_
    refine v_zald C rfl h.1 dX11_count_138 ?_
    have h := h.2
    refine v_if_eq C 146 dX11_count_139 (by decide) (fun q => ?_) (fun q => ?_)
    · have h := h.1 q
      refine v_iconst C dX11_count_146 ?_
      refine v_sub [0] rfl ?_
      exact t_X11_count_b147 C R _ _ h
    · have h := h.2 q
      refine v_iconst C dX11_count_142 ?_
      refine v_goto C 147 dX11_count_143 (by decide) ?_
      refine v_sub [0] rfl ?_
      exact t_X11_count_b147 C R _ _ h
  by_cases q12 : x = 12
  · have h := h.2.2.2.2.2.2.2.2.2.2.2.2.1 q12
    refine v_tabIn C 178 dX11_count_1 12 (hx.trans q12) (by decide) (by decide) rfl (by decide) ?_
    refine v_aload_n C dX11_count_178 0 rfl ?_
    refine v_calli C (rn_V C _ (m_X11_straights h) mf_X11_straights wd_1543 wp_85 wd_1541 rfl rfl ⟨(Nat.le_of_ble_eq_true rfl), (Nat.le_of_ble_eq_true rfl)⟩ rfl rfl rfl rfl (Nat.le_of_ble_eq_true rfl) dX11_count_179) (fun r w h => ?_)
    exact v_iret C R h dX11_count_182
  have q : x < 0 ∨ 12 < x := by omega
  have h := h.2.2.2.2.2.2.2.2.2.2.2.2.2 q
  refine v_tabOut C 183 dX11_count_1 (by rw [hx]; exact q) (by decide) ?_
  refine v_iconst C dX11_count_183 ?_
  exact v_iret C R h dX11_count_184
