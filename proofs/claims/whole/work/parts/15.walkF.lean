abbrev rm_X11_isCorner : Room := { frames := 2, cells := 0, slots := 0, locals := 43 }
theorem mf_X11_isCorner : MfB yX11_isCorner cX11_isCorner 3 (some .boolean) 2 := ⟨wd_1311, wd_13, by decide, by decide, by decide +kernel⟩
def X11_isCorner_b35 (Q : Int → Wd → Prop) (w : Wd) : Prop := Q 0 w
theorem t_X11_isCorner_b35 {Z : Zw} {E : Amb} {Q : Int → Wd → Prop} (C : Cx Z (adA Z) E cX11_isCorner "HandleFacesModel" 3 rm_X11_isCorner) (R : Rt Z E (some .boolean) (qI Z Q)) : ∀ (w : Wd), X11_isCorner_b35 Q w → V Z (adA Z) E 3 w 35 [] [] := by
  intro w h
  unfold X11_isCorner_b35 at h
  refine v_iconst C dX11_isCorner_35 ?_
  exact v_zret C R (Or.inl rfl) h dX11_isCorner_36
def X11_isCorner_b31 (Q : Int → Wd → Prop) (w : Wd) : Prop := Q 1 w
theorem t_X11_isCorner_b31 {Z : Zw} {E : Amb} {Q : Int → Wd → Prop} (C : Cx Z (adA Z) E cX11_isCorner "HandleFacesModel" 3 rm_X11_isCorner) (R : Rt Z E (some .boolean) (qI Z Q)) : ∀ (w : Wd), X11_isCorner_b31 Q w → V Z (adA Z) E 3 w 31 [] [] := by
  intro w h
  unfold X11_isCorner_b31 at h
  refine v_iconst C dX11_isCorner_31 ?_
  refine v_goto C 36 dX11_isCorner_32 (by decide) ?_
  exact v_zret C R (Or.inr rfl) h dX11_isCorner_36
def X11_isCorner (x1 : Int) (x2 : Int) (w : Wd) (Q : Int → Wd → Prop) : Prop := X11_isPost x1 w (fun y2 w1 => ((wr y2 = 0 → X11_isCorner_b35 Q w1) ∧ (¬ wr y2 = 0 → ((wr x2 = 0 → X11_isCorner_b31 Q w1) ∧ (¬ wr x2 = 0 → (ix (32 + x1) 98 ∧ X11_in x2 0 ((rd w1 73 (32 + x1)) - 1) w1 (fun y4 w3 => ((wr y4 = 0 → X11_isCorner_b35 Q w3) ∧ (¬ wr y4 = 0 → X11_isCorner_b31 Q w3)))))))))
theorem m_X11_isCorner {Z : Zw} {l : Launch} {x1 : Int} {x2 : Int} {w : Wd} {Q : Int → Wd → Prop} (h : X11_isCorner x1 x2 w Q) : CtQ Z l yX11_isCorner cX11_isCorner 3 (some .boolean) rm_X11_isCorner [rv Z 65, iv x1, iv x2] w (qI Z Q) := by
  refine ct_of (by decide) (Nat.le_of_ble_eq_true rfl) (fun E eE C R => ?_)
  subst eE
  have C : Cx Z (adA Z) E cX11_isCorner "HandleFacesModel" 3 rm_X11_isCorner := C
  unfold X11_isCorner at h
  show V Z (adA Z) E 3 w 0 [(0, rv Z 65), (1, iv x1), (2, iv x2)] []
  refine v_aload_n C dX11_isCorner_0 0 rfl ?_
  refine v_iload_n C dX11_isCorner_1 1 rfl ?_
  refine v_calli C (rn_V C _ (m_X11_isPost h) mf_X11_isPost wd_1314 wp_58 wd_1312 rfl rfl ⟨(Nat.le_of_ble_eq_true rfl), (Nat.le_of_ble_eq_true rfl)⟩ rfl rfl rfl rfl (Nat.le_of_ble_eq_true rfl) dX11_isCorner_2) (fun r w h => ?_)
  refine v_if_eq C 35 dX11_isCorner_5 (by decide) (fun q => ?_) (fun q => ?_)
  · have h := h.1 q
    refine v_sub [] rfl ?_
    exact t_X11_isCorner_b35 C R _ h
  · have h := h.2 q
    refine v_iload_n C dX11_isCorner_8 2 rfl ?_
    refine v_if_eq C 31 dX11_isCorner_9 (by decide) (fun q => ?_) (fun q => ?_)
    · have h := h.1 q
      refine v_sub [] rfl ?_
      exact t_X11_isCorner_b31 C R _ h
    · have h := h.2 q
      refine v_iload_n C dX11_isCorner_12 2 rfl ?_
      refine v_iconst C dX11_isCorner_13 ?_
      refine v_aload_n C dX11_isCorner_14 0 rfl ?_
      refine g_X11_now C wd_1087 dX11_isCorner_15 ?_
      refine v_bipush C dX11_isCorner_18 (by decide) ?_
      refine v_iload_n C dX11_isCorner_20 1 rfl ?_
      refine v_iadd C dX11_isCorner_21 ?_
      refine v_iald C rfl h.1 dX11_isCorner_22 ?_
      have h := h.2
      refine v_iconst C dX11_isCorner_23 ?_
      refine v_isub C dX11_isCorner_24 ?_
      refine v_calli C (rn_S C _ (m_X11_in h) mf_X11_in wd_1298 wd_1297 rfl rfl ⟨(Nat.le_of_ble_eq_true rfl), (Nat.le_of_ble_eq_true rfl)⟩ rfl rfl (Nat.le_of_ble_eq_true rfl) dX11_isCorner_25) (fun r w h => ?_)
      refine v_if_eq C 35 dX11_isCorner_28 (by decide) (fun q => ?_) (fun q => ?_)
      · have h := h.1 q
        refine v_sub [] rfl ?_
        exact t_X11_isCorner_b35 C R _ h
      · have h := h.2 q
        refine v_sub [] rfl ?_
        exact t_X11_isCorner_b31 C R _ h
abbrev rm_X11_lay : Room := { frames := 3, cells := 0, slots := 0, locals := 65 }
theorem mf_X11_lay : MfB yX11_lay cX11_lay 7 (some .int) 5 := ⟨wd_1307, wd_13, by decide, by decide, by decide +kernel⟩
def X11_lay_b149 (Q : Int → Wd → Prop) (x6 : Int) (s0 : Int) (s1 : Int) (w : Wd) : Prop := X11_inserts 73 s1 s0 x6 w (fun w11 => (ix 1 98 ∧ (ix 1 98 ∧ (∀ w12, w12 = wt w11 73 1 ((rd w11 73 1) + 1) → Q (wr x6) w12))))
theorem t_X11_lay_b149 {Z : Zw} {E : Amb} {Q : Int → Wd → Prop} (C : Cx Z (adA Z) E cX11_lay "HandleFacesModel" 7 rm_X11_lay) (R : Rt Z E (some .int) (qI Z Q)) : ∀ (x6 : Int) (s0 : Int) (s1 : Int) (w : Wd), X11_lay_b149 Q x6 s0 s1 w → V Z (adA Z) E 7 w 149 [(0, rv Z 65), (6, iv x6)] [iv s0, iv s1, rv Z 73] := by
  intro x6 s0 s1 w h
  unfold X11_lay_b149 at h
  refine v_iload C dX11_lay_149 1 rfl ?_
  refine v_callv C (rn_S C _ (m_X11_inserts rfl h) mf_X11_inserts wd_1321 wd_1320 rfl rfl ⟨(Nat.le_of_ble_eq_true rfl), (Nat.le_of_ble_eq_true rfl)⟩ rfl rfl (Nat.le_of_ble_eq_true rfl) dX11_lay_151) (fun w h => ?_)
  refine v_aload_n C dX11_lay_154 0 rfl ?_
  refine g_X11_now C wd_1087 dX11_lay_155 ?_
  refine v_iconst C dX11_lay_158 ?_
  refine v_dup2 C dX11_lay_159 rfl rfl ?_
  refine v_iald C rfl h.1 dX11_lay_160 ?_
  have h := h.2
  refine v_iconst C dX11_lay_161 ?_
  refine v_iadd C dX11_lay_162 ?_
  refine v_iast C rfl h.1 dX11_lay_163 ?_
  have h := h.2
  have h := h _ rfl
  refine v_iload C dX11_lay_164 1 rfl ?_
  exact v_iret C R h dX11_lay_166
def X11_lay_b119 (Q : Int → Wd → Prop) (x3 : Int) (x4 : Int) (x6 : Int) (s0 : Int) (s1 : Int) (w : Wd) : Prop := X11_inserts 73 s1 s0 x6 w (fun w10 => (ix (32 + x3) 98 ∧ ((wr (rd w10 73 (32 + x3)) = 0 → X11_lay_b149 Q x6 0 x3 w10) ∧ (¬ wr (rd w10 73 (32 + x3)) = 0 → X11_lay_b149 Q x6 (x4 + 1) x3 w10))))
theorem t_X11_lay_b119 {Z : Zw} {E : Amb} {Q : Int → Wd → Prop} (C : Cx Z (adA Z) E cX11_lay "HandleFacesModel" 7 rm_X11_lay) (R : Rt Z E (some .int) (qI Z Q)) : ∀ (x3 : Int) (x4 : Int) (x6 : Int) (s0 : Int) (s1 : Int) (w : Wd), X11_lay_b119 Q x3 x4 x6 s0 s1 w → V Z (adA Z) E 7 w 119 [(0, rv Z 65), (3, iv x3), (4, iv x4), (6, iv x6)] [iv s0, iv s1, rv Z 73] := by
  intro x3 x4 x6 s0 s1 w h
  unfold X11_lay_b119 at h
  refine v_iload C dX11_lay_119 3 rfl ?_
  refine v_callv C (rn_S C _ (m_X11_inserts rfl h) mf_X11_inserts wd_1321 wd_1320 rfl rfl ⟨(Nat.le_of_ble_eq_true rfl), (Nat.le_of_ble_eq_true rfl)⟩ rfl rfl (Nat.le_of_ble_eq_true rfl) dX11_lay_121) (fun w h => ?_)
  refine v_aload_n C dX11_lay_124 0 rfl ?_
  refine g_X11_now C wd_1087 dX11_lay_125 ?_
  refine v_iload_n C dX11_lay_128 1 rfl ?_
  refine v_aload_n C dX11_lay_129 0 rfl ?_
  refine g_X11_now C wd_1087 dX11_lay_130 ?_
  refine v_bipush C dX11_lay_133 (by decide) ?_
  refine v_iload_n C dX11_lay_135 1 rfl ?_
  refine v_iadd C dX11_lay_136 ?_
  refine v_iald C rfl h.1 dX11_lay_137 ?_
  have h := h.2
  refine v_if_ne C 145 dX11_lay_138 (by decide) (fun q => ?_) (fun q => ?_)
  · have h := h.2 q
    refine v_iload C dX11_lay_145 2 rfl ?_
    refine v_iconst C dX11_lay_147 ?_
    refine v_iadd C dX11_lay_148 ?_
    refine v_sub [0, 3] rfl ?_
    exact t_X11_lay_b149 C R _ _ _ _ h
  · have h := h.1 q
    refine v_iconst C dX11_lay_141 ?_
    refine v_goto C 149 dX11_lay_142 (by decide) ?_
    refine v_sub [0, 3] rfl ?_
    exact t_X11_lay_b149 C R _ _ _ _ h
def X11_lay_b94 (Q : Int → Wd → Prop) (x1 : Int) (x2 : Int) (x3 : Int) (x4 : Int) (x6 : Int) (s0 : Int) (s1 : Int) (w : Wd) : Prop := (ix s1 98 ∧ (∀ w9, w9 = wt w 73 s1 s0 → (ix (32 + x1) 98 ∧ ((wr (rd w9 73 (32 + x1)) = 0 → X11_lay_b119 Q x3 x4 x6 0 x1 w9) ∧ (¬ wr (rd w9 73 (32 + x1)) = 0 → X11_lay_b119 Q x3 x4 x6 (x2 + 1) x1 w9)))))
theorem t_X11_lay_b94 {Z : Zw} {E : Amb} {Q : Int → Wd → Prop} (C : Cx Z (adA Z) E cX11_lay "HandleFacesModel" 7 rm_X11_lay) (R : Rt Z E (some .int) (qI Z Q)) : ∀ (x1 : Int) (x2 : Int) (x3 : Int) (x4 : Int) (x6 : Int) (s0 : Int) (s1 : Int) (w : Wd), X11_lay_b94 Q x1 x2 x3 x4 x6 s0 s1 w → V Z (adA Z) E 7 w 94 [(0, rv Z 65), (1, iv x1), (2, iv x2), (3, iv x3), (4, iv x4), (6, iv x6)] [iv s0, iv s1, rv Z 73] := by
  intro x1 x2 x3 x4 x6 s0 s1 w h
  unfold X11_lay_b94 at h
  refine v_iast C rfl h.1 dX11_lay_94 ?_
  have h := h.2
  have h := h _ rfl
  refine v_aload_n C dX11_lay_95 0 rfl ?_
  refine g_X11_now C wd_1087 dX11_lay_96 ?_
  refine v_iload_n C dX11_lay_99 1 rfl ?_
  refine v_aload_n C dX11_lay_100 0 rfl ?_
  refine g_X11_now C wd_1087 dX11_lay_101 ?_
  refine v_bipush C dX11_lay_104 (by decide) ?_
  refine v_iload_n C dX11_lay_106 1 rfl ?_
  refine v_iadd C dX11_lay_107 ?_
  refine v_iald C rfl h.1 dX11_lay_108 ?_
  have h := h.2
  refine v_if_ne C 116 dX11_lay_109 (by decide) (fun q => ?_) (fun q => ?_)
  · have h := h.2 q
    refine v_iload_n C dX11_lay_116 2 rfl ?_
    refine v_iconst C dX11_lay_117 ?_
    refine v_iadd C dX11_lay_118 ?_
    refine v_sub [0, 3, 4, 5] rfl ?_
    exact t_X11_lay_b119 C R _ _ _ _ _ _ h
  · have h := h.1 q
    refine v_iconst C dX11_lay_112 ?_
    refine v_goto C 119 dX11_lay_113 (by decide) ?_
    refine v_sub [0, 3, 4, 5] rfl ?_
    exact t_X11_lay_b119 C R _ _ _ _ _ _ h
def X11_lay (x1 : Int) (x2 : Int) (x3 : Int) (x4 : Int) (x5 : Int) (w : Wd) (Q : Int → Wd → Prop) : Prop := (ix 1 98 ∧ ((wr (rd w 73 1) = wr 10 → Q (wr (-1)) w) ∧ (¬ wr (rd w 73 1) = wr 10 → X11_isCorner x1 x2 w (fun y2 w1 => ((wr y2 = 0 → Q (wr (-1)) w1) ∧ (¬ wr y2 = 0 → X11_isCorner x3 x4 w1 (fun y4 w3 => ((wr y4 = 0 → Q (wr (-1)) w3) ∧ (¬ wr y4 = 0 → ((wr x1 = wr x3 → Q (wr (-1)) w3) ∧ (¬ wr x1 = wr x3 → X11_marks w3 (fun w5 => (ix 1 98 ∧ (∀ y6, y6 = (rd w5 73 1) → (ix (2 + (2 * y6)) 98 ∧ (∀ w7, w7 = wt w5 73 (2 + (2 * y6)) x1 → (ix ((2 + (2 * y6)) + 1) 98 ∧ (∀ w8, w8 = wt w7 73 ((2 + (2 * y6)) + 1) x3 → ((wr x5 = 0 → X11_lay_b94 Q x1 x2 x3 x4 y6 0 (22 + y6) w8) ∧ (¬ wr x5 = 0 → X11_lay_b94 Q x1 x2 x3 x4 y6 1 (22 + y6) w8))))))))))))))))))))
theorem m_X11_lay {Z : Zw} {l : Launch} {x1 : Int} {x2 : Int} {x3 : Int} {x4 : Int} {x5 : Int} {w : Wd} {Q : Int → Wd → Prop} (h : X11_lay x1 x2 x3 x4 x5 w Q) : CtQ Z l yX11_lay cX11_lay 7 (some .int) rm_X11_lay [rv Z 65, iv x1, iv x2, iv x3, iv x4, iv x5] w (qI Z Q) := by
  refine ct_of (by decide) (Nat.le_of_ble_eq_true rfl) (fun E eE C R => ?_)
  subst eE
  have C : Cx Z (adA Z) E cX11_lay "HandleFacesModel" 7 rm_X11_lay := C
  unfold X11_lay at h
  show V Z (adA Z) E 7 w 0 [(0, rv Z 65), (1, iv x1), (2, iv x2), (3, iv x3), (4, iv x4), (5, iv x5)] []
  refine v_aload_n C dX11_lay_0 0 rfl ?_
  refine g_X11_now C wd_1087 dX11_lay_1 ?_
  refine v_iconst C dX11_lay_4 ?_
  refine v_iald C rfl h.1 dX11_lay_5 ?_
  have h := h.2
  refine v_bipush C dX11_lay_6 (by decide) ?_
  refine v_icmp_eq C 35 dX11_lay_8 (by decide) (fun q => ?_) (fun q => ?_)
  · have h := h.1 q
    refine v_iconst C dX11_lay_35 ?_
    exact v_iret C R h dX11_lay_36
  · have h := h.2 q
    refine v_aload_n C dX11_lay_11 0 rfl ?_
    refine v_iload_n C dX11_lay_12 1 rfl ?_
    refine v_iload_n C dX11_lay_13 2 rfl ?_
    refine v_calli C (rn_V C _ (m_X11_isCorner h) mf_X11_isCorner wd_1310 wp_57 wd_1308 rfl rfl ⟨(Nat.le_of_ble_eq_true rfl), (Nat.le_of_ble_eq_true rfl)⟩ rfl rfl rfl rfl (Nat.le_of_ble_eq_true rfl) dX11_lay_14) (fun r w h => ?_)
    refine v_if_eq C 35 dX11_lay_17 (by decide) (fun q => ?_) (fun q => ?_)
    · have h := h.1 q
      refine v_iconst C dX11_lay_35 ?_
      exact v_iret C R h dX11_lay_36
    · have h := h.2 q
      refine v_aload_n C dX11_lay_20 0 rfl ?_
      refine v_iload_n C dX11_lay_21 3 rfl ?_
      refine v_iload C dX11_lay_22 4 rfl ?_
      refine v_calli C (rn_V C _ (m_X11_isCorner h) mf_X11_isCorner wd_1310 wp_57 wd_1308 rfl rfl ⟨(Nat.le_of_ble_eq_true rfl), (Nat.le_of_ble_eq_true rfl)⟩ rfl rfl rfl rfl (Nat.le_of_ble_eq_true rfl) dX11_lay_24) (fun r w h => ?_)
      refine v_if_eq C 35 dX11_lay_27 (by decide) (fun q => ?_) (fun q => ?_)
      · have h := h.1 q
        refine v_iconst C dX11_lay_35 ?_
        exact v_iret C R h dX11_lay_36
      · have h := h.2 q
        refine v_iload_n C dX11_lay_30 1 rfl ?_
        refine v_iload_n C dX11_lay_31 3 rfl ?_
        refine v_icmp_ne C 37 dX11_lay_32 (by decide) (fun q => ?_) (fun q => ?_)
        · have h := h.2 q
          refine v_aload_n C dX11_lay_37 0 rfl ?_
          refine v_callv C (rn_V C _ (m_X11_marks h) mf_X11_marks wd_1318 wp_59 wd_1316 rfl rfl ⟨(Nat.le_of_ble_eq_true rfl), (Nat.le_of_ble_eq_true rfl)⟩ rfl rfl rfl rfl (Nat.le_of_ble_eq_true rfl) dX11_lay_38) (fun w h => ?_)
          refine v_aload_n C dX11_lay_41 0 rfl ?_
          refine g_X11_now C wd_1087 dX11_lay_42 ?_
          refine v_iconst C dX11_lay_45 ?_
          refine v_iald C rfl h.1 dX11_lay_46 ?_
          have h := h.2
          refine v_istore C [(6, _), (0, _), (1, _), (2, _), (3, _), (4, _), (5, _)] dX11_lay_47 (by decide) rfl ?_
          have h := h _ rfl
          refine v_aload_n C dX11_lay_49 1 rfl ?_
          refine g_X11_now C wd_1087 dX11_lay_50 ?_
          refine v_iconst C dX11_lay_53 ?_
          refine v_iconst C dX11_lay_54 ?_
          refine v_iload C dX11_lay_55 0 rfl ?_
          refine v_imul C dX11_lay_57 ?_
          refine v_iadd C dX11_lay_58 ?_
          refine v_iload_n C dX11_lay_59 2 rfl ?_
          refine v_iast C rfl h.1 dX11_lay_60 ?_
          have h := h.2
          have h := h _ rfl
          refine v_aload_n C dX11_lay_61 1 rfl ?_
          refine g_X11_now C wd_1087 dX11_lay_62 ?_
          refine v_iconst C dX11_lay_65 ?_
          refine v_iconst C dX11_lay_66 ?_
          refine v_iload C dX11_lay_67 0 rfl ?_
          refine v_imul C dX11_lay_69 ?_
          refine v_iadd C dX11_lay_70 ?_
          refine v_iconst C dX11_lay_71 ?_
          refine v_iadd C dX11_lay_72 ?_
          refine v_iload_n C dX11_lay_73 4 rfl ?_
          refine v_iast C rfl h.1 dX11_lay_74 ?_
          have h := h.2
          have h := h _ rfl
          refine v_aload_n C dX11_lay_75 1 rfl ?_
          refine g_X11_now C wd_1087 dX11_lay_76 ?_
          refine v_bipush C dX11_lay_79 (by decide) ?_
          refine v_iload C dX11_lay_81 0 rfl ?_
          refine v_iadd C dX11_lay_83 ?_
          refine v_iload C dX11_lay_84 6 rfl ?_
          refine v_if_eq C 93 dX11_lay_86 (by decide) (fun q => ?_) (fun q => ?_)
          · have h := h.1 q
            refine v_iconst C dX11_lay_93 ?_
            refine v_sub [1, 2, 3, 4, 5, 0] rfl ?_
            exact t_X11_lay_b94 C R _ _ _ _ _ _ _ _ h
          · have h := h.2 q
            refine v_iconst C dX11_lay_89 ?_
            refine v_goto C 94 dX11_lay_90 (by decide) ?_
            refine v_sub [1, 2, 3, 4, 5, 0] rfl ?_
            exact t_X11_lay_b94 C R _ _ _ _ _ _ _ _ h
        · have h := h.1 q
          refine v_iconst C dX11_lay_35 ?_
          exact v_iret C R h dX11_lay_36
abbrev rm_X11_closesUp : Room := { frames := 0, cells := 0, slots := 0, locals := 0 }
theorem mf_X11_closesUp : MfB yX11_closesUp cX11_closesUp 4 none 2 := ⟨wd_1342, wd_13, by decide, by decide, by decide +kernel⟩
def X11_closesUp_l2 (r0 : Nat) (Q : Wd → Prop) (e65 : Int → Wd → Prop) : Nat → Int → Int → Wd → Prop
  | 0 => fun _ _ _ => False
  | n + 1 => fun x1 x2 w => (ix 1 98 ∧ ((wr (rd w r0 1) ≤ wr (x2 + 1) → e65 x1 w) ∧ (¬ wr (rd w r0 1) ≤ wr (x2 + 1) → (ix ((2 + (2 * x2)) + 2) 98 ∧ (ix (2 + (2 * x2)) 98 ∧ (∀ w1, w1 = wt w r0 (2 + (2 * x2)) (rd w r0 ((2 + (2 * x2)) + 2)) → (ix ((2 + (2 * x2)) + 3) 98 ∧ (ix ((2 + (2 * x2)) + 1) 98 ∧ (∀ w2, w2 = wt w1 r0 ((2 + (2 * x2)) + 1) (rd w1 r0 ((2 + (2 * x2)) + 3)) → (ix ((22 + x2) + 1) 98 ∧ (ix (22 + x2) 98 ∧ (∀ w3, w3 = wt w2 r0 (22 + x2) (rd w2 r0 ((22 + x2) + 1)) → (X11_closesUp_l2 r0 Q e65 n) x1 (x2 + 1) w3))))))))))))
theorem t_X11_closesUp_l2 {Z : Zw} {E : Amb} {r0 : Nat} {Q : Wd → Prop} {e65 : Int → Wd → Prop} (C : Cx Z (adA Z) E cX11_closesUp "HandleFacesModel" 4 rm_X11_closesUp) (R : Rt Z E none (qV Z Q)) (h0 : shp r0 = (1, 98, [])) (he65 : ∀ (x1 : Int) (w : Wd), e65 x1 w → V Z (adA Z) E 4 w 65 [(0, rv Z r0), (1, iv x1)] []) : ∀ (n : Nat) (x1 : Int) (x2 : Int) (w : Wd), X11_closesUp_l2 r0 Q e65 n x1 x2 w → V Z (adA Z) E 4 w 2 [(0, rv Z r0), (1, iv x1), (2, iv x2)] [] := by
  intro n
  induction n with
  | zero => intro x1 x2 w h; exact h.elim
  | succ n ih =>
    intro x1 x2 w h
    unfold X11_closesUp_l2 at h
    refine v_iload_n C dX11_closesUp_2 2 rfl ?_
    refine v_iconst C dX11_closesUp_3 ?_
    refine v_iadd C dX11_closesUp_4 ?_
    refine v_aload_n C dX11_closesUp_5 0 rfl ?_
    refine v_iconst C dX11_closesUp_6 ?_
    refine v_iald C h0 h.1 dX11_closesUp_7 ?_
    have h := h.2
    refine v_icmp_ge C 65 dX11_closesUp_8 (by decide) (fun q => ?_) (fun q => ?_)
    · have h := h.1 q
      refine v_sub [0, 1] rfl ?_
      exact he65 _ _ h
    · have h := h.2 q
      refine v_aload_n C dX11_closesUp_11 0 rfl ?_
      refine v_iconst C dX11_closesUp_12 ?_
      refine v_iconst C dX11_closesUp_13 ?_
      refine v_iload_n C dX11_closesUp_14 2 rfl ?_
      refine v_imul C dX11_closesUp_15 ?_
      refine v_iadd C dX11_closesUp_16 ?_
      refine v_aload_n C dX11_closesUp_17 0 rfl ?_
      refine v_iconst C dX11_closesUp_18 ?_
      refine v_iconst C dX11_closesUp_19 ?_
      refine v_iload_n C dX11_closesUp_20 2 rfl ?_
      refine v_imul C dX11_closesUp_21 ?_
      refine v_iadd C dX11_closesUp_22 ?_
      refine v_iconst C dX11_closesUp_23 ?_
      refine v_iadd C dX11_closesUp_24 ?_
      refine v_iald C h0 h.1 dX11_closesUp_25 ?_
      have h := h.2
      refine v_iast C h0 h.1 dX11_closesUp_26 ?_
      have h := h.2
      have h := h _ rfl
      refine v_aload_n C dX11_closesUp_27 0 rfl ?_
      refine v_iconst C dX11_closesUp_28 ?_
      refine v_iconst C dX11_closesUp_29 ?_
      refine v_iload_n C dX11_closesUp_30 2 rfl ?_
      refine v_imul C dX11_closesUp_31 ?_
      refine v_iadd C dX11_closesUp_32 ?_
      refine v_iconst C dX11_closesUp_33 ?_
      refine v_iadd C dX11_closesUp_34 ?_
      refine v_aload_n C dX11_closesUp_35 0 rfl ?_
      refine v_iconst C dX11_closesUp_36 ?_
      refine v_iconst C dX11_closesUp_37 ?_
      refine v_iload_n C dX11_closesUp_38 2 rfl ?_
      refine v_imul C dX11_closesUp_39 ?_
      refine v_iadd C dX11_closesUp_40 ?_
      refine v_iconst C dX11_closesUp_41 ?_
      refine v_iadd C dX11_closesUp_42 ?_
      refine v_iald C h0 h.1 dX11_closesUp_43 ?_
      have h := h.2
      refine v_iast C h0 h.1 dX11_closesUp_44 ?_
      have h := h.2
      have h := h _ rfl
      refine v_aload_n C dX11_closesUp_45 0 rfl ?_
      refine v_bipush C dX11_closesUp_46 (by decide) ?_
      refine v_iload_n C dX11_closesUp_48 2 rfl ?_
      refine v_iadd C dX11_closesUp_49 ?_
      refine v_aload_n C dX11_closesUp_50 0 rfl ?_
      refine v_bipush C dX11_closesUp_51 (by decide) ?_
      refine v_iload_n C dX11_closesUp_53 2 rfl ?_
      refine v_iadd C dX11_closesUp_54 ?_
      refine v_iconst C dX11_closesUp_55 ?_
      refine v_iadd C dX11_closesUp_56 ?_
      refine v_iald C h0 h.1 dX11_closesUp_57 ?_
      have h := h.2
      refine v_iast C h0 h.1 dX11_closesUp_58 ?_
      have h := h.2
      have h := h _ rfl
      refine v_iinc C [(2, _), (0, _), (1, _)] dX11_closesUp_59 2 rfl (by decide) rfl ?_
      refine v_goto C 2 dX11_closesUp_62 (by decide) ?_
      refine v_sub [1, 2, 0] rfl ?_
      exact ih _ _ _ h
def X11_closesUp_l83 (r0 : Nat) (Q : Wd → Prop) (e129 : Int → Int → Wd → Prop) : Nat → Int → Int → Int → Wd → Prop
  | 0 => fun _ _ _ _ => False
  | n + 1 => fun x1 x2 x3 w => (ix (32 + x2) 98 ∧ ((wr (rd w r0 (32 + x2)) ≤ wr x3 → e129 x1 x2 w) ∧ (¬ wr (rd w r0 (32 + x2)) ≤ wr x3 → (ix ((38 + (10 * x2)) + x3) 98 ∧ ((wr (rd w r0 ((38 + (10 * x2)) + x3)) ≤ wr x1 → (X11_closesUp_l83 r0 Q e129 n) x1 x2 (x3 + 1) w) ∧ (¬ wr (rd w r0 ((38 + (10 * x2)) + x3)) ≤ wr x1 → (ix ((38 + (10 * x2)) + x3) 98 ∧ (ix ((38 + (10 * x2)) + x3) 98 ∧ (∀ w5, w5 = wt w r0 ((38 + (10 * x2)) + x3) ((rd w r0 ((38 + (10 * x2)) + x3)) - 1) → (X11_closesUp_l83 r0 Q e129 n) x1 x2 (x3 + 1) w5)))))))))
theorem t_X11_closesUp_l83 {Z : Zw} {E : Amb} {r0 : Nat} {Q : Wd → Prop} {e129 : Int → Int → Wd → Prop} (C : Cx Z (adA Z) E cX11_closesUp "HandleFacesModel" 4 rm_X11_closesUp) (R : Rt Z E none (qV Z Q)) (h0 : shp r0 = (1, 98, [])) (he129 : ∀ (x1 : Int) (x2 : Int) (w : Wd), e129 x1 x2 w → V Z (adA Z) E 4 w 129 [(0, rv Z r0), (1, iv x1), (2, iv x2)] []) : ∀ (n : Nat) (x1 : Int) (x2 : Int) (x3 : Int) (w : Wd), X11_closesUp_l83 r0 Q e129 n x1 x2 x3 w → V Z (adA Z) E 4 w 83 [(0, rv Z r0), (1, iv x1), (2, iv x2), (3, iv x3)] [] := by
  intro n
  induction n with
  | zero => intro x1 x2 x3 w h; exact h.elim
  | succ n ih =>
    intro x1 x2 x3 w h
    unfold X11_closesUp_l83 at h
    refine v_iload_n C dX11_closesUp_83 3 rfl ?_
    refine v_aload_n C dX11_closesUp_84 0 rfl ?_
    refine v_bipush C dX11_closesUp_85 (by decide) ?_
    refine v_iload_n C dX11_closesUp_87 2 rfl ?_
    refine v_iadd C dX11_closesUp_88 ?_
    refine v_iald C h0 h.1 dX11_closesUp_89 ?_
    have h := h.2
    refine v_icmp_ge C 129 dX11_closesUp_90 (by decide) (fun q => ?_) (fun q => ?_)
    · have h := h.1 q
      refine v_sub [0, 1, 2] rfl ?_
      exact he129 _ _ _ h
    · have h := h.2 q
      refine v_aload_n C dX11_closesUp_93 0 rfl ?_
      refine v_bipush C dX11_closesUp_94 (by decide) ?_
      refine v_bipush C dX11_closesUp_96 (by decide) ?_
      refine v_iload_n C dX11_closesUp_98 2 rfl ?_
      refine v_imul C dX11_closesUp_99 ?_
      refine v_iadd C dX11_closesUp_100 ?_
      refine v_iload_n C dX11_closesUp_101 3 rfl ?_
      refine v_iadd C dX11_closesUp_102 ?_
      refine v_iald C h0 h.1 dX11_closesUp_103 ?_
      have h := h.2
      refine v_iload_n C dX11_closesUp_104 1 rfl ?_
      refine v_icmp_le C 123 dX11_closesUp_105 (by decide) (fun q => ?_) (fun q => ?_)
      · have h := h.1 q
        refine v_iinc C [(3, _), (0, _), (1, _), (2, _)] dX11_closesUp_123 3 rfl (by decide) rfl ?_
        refine v_goto C 83 dX11_closesUp_126 (by decide) ?_
        refine v_sub [1, 2, 3, 0] rfl ?_
        exact ih _ _ _ _ h
      · have h := h.2 q
        refine v_aload_n C dX11_closesUp_108 0 rfl ?_
        refine v_bipush C dX11_closesUp_109 (by decide) ?_
        refine v_bipush C dX11_closesUp_111 (by decide) ?_
        refine v_iload_n C dX11_closesUp_113 2 rfl ?_
        refine v_imul C dX11_closesUp_114 ?_
        refine v_iadd C dX11_closesUp_115 ?_
        refine v_iload_n C dX11_closesUp_116 3 rfl ?_
        refine v_iadd C dX11_closesUp_117 ?_
        refine v_dup2 C dX11_closesUp_118 rfl rfl ?_
        refine v_iald C h0 h.1 dX11_closesUp_119 ?_
        have h := h.2
        refine v_iconst C dX11_closesUp_120 ?_
        refine v_isub C dX11_closesUp_121 ?_
        refine v_iast C h0 h.1 dX11_closesUp_122 ?_
        have h := h.2
        have h := h _ rfl
        refine v_iinc C [(3, _), (0, _), (1, _), (2, _)] dX11_closesUp_123 3 rfl (by decide) rfl ?_
        refine v_goto C 83 dX11_closesUp_126 (by decide) ?_
        refine v_sub [1, 2, 3, 0] rfl ?_
        exact ih _ _ _ _ h
def X11_closesUp_b129 (r0 : Nat) (Q : Wd → Prop) (c74 : Int → Int → Wd → Prop) (e135 : Wd → Prop) (x1 : Int) (x2 : Int) (w : Wd) : Prop := c74 x1 (x2 + 1) w
theorem t_X11_closesUp_b129 {Z : Zw} {E : Amb} {r0 : Nat} {Q : Wd → Prop} {c74 : Int → Int → Wd → Prop} {e135 : Wd → Prop} (C : Cx Z (adA Z) E cX11_closesUp "HandleFacesModel" 4 rm_X11_closesUp) (R : Rt Z E none (qV Z Q)) (h0 : shp r0 = (1, 98, [])) (hc74 : ∀ (x1 : Int) (x2 : Int) (w : Wd), c74 x1 x2 w → V Z (adA Z) E 4 w 74 [(0, rv Z r0), (1, iv x1), (2, iv x2)] []) (he135 : ∀ (w : Wd), e135 w → V Z (adA Z) E 4 w 135 [] []) : ∀ (x1 : Int) (x2 : Int) (w : Wd), X11_closesUp_b129 r0 Q c74 e135 x1 x2 w → V Z (adA Z) E 4 w 129 [(0, rv Z r0), (1, iv x1), (2, iv x2)] [] := by
  intro x1 x2 w h
  unfold X11_closesUp_b129 at h
  refine v_iinc C [(2, _), (0, _), (1, _)] dX11_closesUp_129 2 rfl (by decide) rfl ?_
  refine v_goto C 74 dX11_closesUp_132 (by decide) ?_
  refine v_sub [1, 2, 0] rfl ?_
  exact hc74 _ _ _ h
def X11_closesUp_l74 (r0 : Nat) (Q : Wd → Prop) (e135 : Wd → Prop) : Nat → Int → Int → Wd → Prop
  | 0 => fun _ _ _ => False
  | n + 1 => fun x1 x2 w => (ix 0 98 ∧ ((wr (rd w r0 0) ≤ wr x2 → e135 w) ∧ (¬ wr (rd w r0 0) ≤ wr x2 → (∃ m, X11_closesUp_l83 r0 Q (X11_closesUp_b129 r0 Q (X11_closesUp_l74 r0 Q e135 n) e135) m x1 x2 0 w))))
theorem t_X11_closesUp_l74 {Z : Zw} {E : Amb} {r0 : Nat} {Q : Wd → Prop} {e135 : Wd → Prop} (C : Cx Z (adA Z) E cX11_closesUp "HandleFacesModel" 4 rm_X11_closesUp) (R : Rt Z E none (qV Z Q)) (h0 : shp r0 = (1, 98, [])) (he135 : ∀ (w : Wd), e135 w → V Z (adA Z) E 4 w 135 [] []) : ∀ (n : Nat) (x1 : Int) (x2 : Int) (w : Wd), X11_closesUp_l74 r0 Q e135 n x1 x2 w → V Z (adA Z) E 4 w 74 [(0, rv Z r0), (1, iv x1), (2, iv x2)] [] := by
  intro n
  induction n with
  | zero => intro x1 x2 w h; exact h.elim
  | succ n ih =>
    intro x1 x2 w h
    unfold X11_closesUp_l74 at h
    refine v_iload_n C dX11_closesUp_74 2 rfl ?_
    refine v_aload_n C dX11_closesUp_75 0 rfl ?_
    refine v_iconst C dX11_closesUp_76 ?_
    refine v_iald C h0 h.1 dX11_closesUp_77 ?_
    have h := h.2
    refine v_icmp_ge C 135 dX11_closesUp_78 (by decide) (fun q => ?_) (fun q => ?_)
    · have h := h.1 q
      refine v_sub [] rfl ?_
      exact he135 _ h
    · have h := h.2 q
      refine v_iconst C dX11_closesUp_81 ?_
      refine v_istore_n C [(3, _), (0, _), (1, _), (2, _)] dX11_closesUp_82 3 rfl (by decide) rfl ?_
      refine v_sub [1, 2, 3, 0] rfl ?_
      obtain ⟨m, h⟩ := h
      exact t_X11_closesUp_l83 C R h0 (t_X11_closesUp_b129 C R h0 ih he135) m _ _ _ _ h
def X11_closesUp_b135 (r0 : Nat) (Q : Wd → Prop) (w : Wd) : Prop := Q w
theorem t_X11_closesUp_b135 {Z : Zw} {E : Amb} {r0 : Nat} {Q : Wd → Prop} (C : Cx Z (adA Z) E cX11_closesUp "HandleFacesModel" 4 rm_X11_closesUp) (R : Rt Z E none (qV Z Q)) (h0 : shp r0 = (1, 98, [])) : ∀ (w : Wd), X11_closesUp_b135 r0 Q w → V Z (adA Z) E 4 w 135 [] [] := by
  intro w h
  unfold X11_closesUp_b135 at h
  exact v_ret C R h dX11_closesUp_135
def X11_closesUp_b65 (r0 : Nat) (Q : Wd → Prop) (x1 : Int) (w : Wd) : Prop := (ix 1 98 ∧ (ix 1 98 ∧ (∀ w4, w4 = wt w r0 1 ((rd w r0 1) - 1) → (∃ m, X11_closesUp_l74 r0 Q (X11_closesUp_b135 r0 Q) m x1 0 w4))))
theorem t_X11_closesUp_b65 {Z : Zw} {E : Amb} {r0 : Nat} {Q : Wd → Prop} (C : Cx Z (adA Z) E cX11_closesUp "HandleFacesModel" 4 rm_X11_closesUp) (R : Rt Z E none (qV Z Q)) (h0 : shp r0 = (1, 98, [])) : ∀ (x1 : Int) (w : Wd), X11_closesUp_b65 r0 Q x1 w → V Z (adA Z) E 4 w 65 [(0, rv Z r0), (1, iv x1)] [] := by
  intro x1 w h
  unfold X11_closesUp_b65 at h
  refine v_aload_n C dX11_closesUp_65 0 rfl ?_
  refine v_iconst C dX11_closesUp_66 ?_
  refine v_dup2 C dX11_closesUp_67 rfl rfl ?_
  refine v_iald C h0 h.1 dX11_closesUp_68 ?_
  have h := h.2
  refine v_iconst C dX11_closesUp_69 ?_
  refine v_isub C dX11_closesUp_70 ?_
  refine v_iast C h0 h.1 dX11_closesUp_71 ?_
  have h := h.2
  have h := h _ rfl
  refine v_iconst C dX11_closesUp_72 ?_
  refine v_istore_n C [(2, _), (0, _), (1, _)] dX11_closesUp_73 2 rfl (by decide) rfl ?_
  refine v_sub [1, 2, 0] rfl ?_
  obtain ⟨m, h⟩ := h
  exact t_X11_closesUp_l74 C R h0 (t_X11_closesUp_b135 C R h0) m _ _ _ h
def X11_closesUp (r0 : Nat) (x1 : Int) (w : Wd) (Q : Wd → Prop) : Prop := (∃ m, X11_closesUp_l2 r0 Q (X11_closesUp_b65 r0 Q) m x1 x1 w)
theorem m_X11_closesUp {Z : Zw} {l : Launch} {r0 : Nat} {x1 : Int} {w : Wd} {Q : Wd → Prop} (h0 : shp r0 = (1, 98, [])) (h : X11_closesUp r0 x1 w Q) : CtQ Z l yX11_closesUp cX11_closesUp 4 none rm_X11_closesUp [rv Z r0, iv x1] w (qV Z Q) := by
  refine ct_of (by decide) (Nat.le_of_ble_eq_true rfl) (fun E eE C R => ?_)
  subst eE
  have C : Cx Z (adA Z) E cX11_closesUp "HandleFacesModel" 4 rm_X11_closesUp := C
  unfold X11_closesUp at h
  show V Z (adA Z) E 4 w 0 [(0, rv Z r0), (1, iv x1)] []
  refine v_iload_n C dX11_closesUp_0 1 rfl ?_
  refine v_istore_n C [(2, _), (0, _), (1, _)] dX11_closesUp_1 2 rfl (by decide) rfl ?_
  refine v_sub [1, 2, 0] rfl ?_
  obtain ⟨m, h⟩ := h
  exact t_X11_closesUp_l2 C R h0 (t_X11_closesUp_b65 C R h0) m _ _ _ h
abbrev rm_X11_takesOut : Room := { frames := 2, cells := 0, slots := 0, locals := 47 }
theorem mf_X11_takesOut : MfB yX11_takesOut cX11_takesOut 2 none 2 := ⟨wd_1333, wd_13, by decide, by decide, by decide +kernel⟩
def X11_takesOut (r0 : Nat) (x1 : Int) (w : Wd) (Q : Wd → Prop) : Prop := (ix (2 + (2 * x1)) 98 ∧ X11_drops r0 (rd w r0 (2 + (2 * x1))) x1 w (fun w1 => (ix ((2 + (2 * x1)) + 1) 98 ∧ X11_drops r0 (rd w1 r0 ((2 + (2 * x1)) + 1)) x1 w1 (fun w2 => X11_closesUp r0 x1 w2 (fun w3 => Q w3)))))
theorem m_X11_takesOut {Z : Zw} {l : Launch} {r0 : Nat} {x1 : Int} {w : Wd} {Q : Wd → Prop} (h0 : shp r0 = (1, 98, [])) (h : X11_takesOut r0 x1 w Q) : CtQ Z l yX11_takesOut cX11_takesOut 2 none rm_X11_takesOut [rv Z r0, iv x1] w (qV Z Q) := by
  refine ct_of (by decide) (Nat.le_of_ble_eq_true rfl) (fun E eE C R => ?_)
  subst eE
  have C : Cx Z (adA Z) E cX11_takesOut "HandleFacesModel" 2 rm_X11_takesOut := C
  unfold X11_takesOut at h
  show V Z (adA Z) E 2 w 0 [(0, rv Z r0), (1, iv x1)] []
  refine v_aload_n C dX11_takesOut_0 0 rfl ?_
  refine v_aload_n C dX11_takesOut_1 0 rfl ?_
  refine v_iconst C dX11_takesOut_2 ?_
  refine v_iconst C dX11_takesOut_3 ?_
  refine v_iload_n C dX11_takesOut_4 1 rfl ?_
  refine v_imul C dX11_takesOut_5 ?_
  refine v_iadd C dX11_takesOut_6 ?_
  refine v_iald C h0 h.1 dX11_takesOut_7 ?_
  have h := h.2
  refine v_iload_n C dX11_takesOut_8 1 rfl ?_
  refine v_callv C (rn_S C _ (m_X11_drops h0 h) mf_X11_drops wd_1335 wd_1334 rfl rfl ⟨(Nat.le_of_ble_eq_true rfl), (Nat.le_of_ble_eq_true rfl)⟩ rfl rfl (Nat.le_of_ble_eq_true rfl) dX11_takesOut_9) (fun w h => ?_)
  refine v_aload_n C dX11_takesOut_12 0 rfl ?_
  refine v_aload_n C dX11_takesOut_13 0 rfl ?_
  refine v_iconst C dX11_takesOut_14 ?_
  refine v_iconst C dX11_takesOut_15 ?_
  refine v_iload_n C dX11_takesOut_16 1 rfl ?_
  refine v_imul C dX11_takesOut_17 ?_
  refine v_iadd C dX11_takesOut_18 ?_
  refine v_iconst C dX11_takesOut_19 ?_
  refine v_iadd C dX11_takesOut_20 ?_
  refine v_iald C h0 h.1 dX11_takesOut_21 ?_
  have h := h.2
  refine v_iload_n C dX11_takesOut_22 1 rfl ?_
  refine v_callv C (rn_S C _ (m_X11_drops h0 h) mf_X11_drops wd_1335 wd_1334 rfl rfl ⟨(Nat.le_of_ble_eq_true rfl), (Nat.le_of_ble_eq_true rfl)⟩ rfl rfl (Nat.le_of_ble_eq_true rfl) dX11_takesOut_23) (fun w h => ?_)
  refine v_aload_n C dX11_takesOut_26 0 rfl ?_
  refine v_iload_n C dX11_takesOut_27 1 rfl ?_
  refine v_callv C (rn_S C _ (m_X11_closesUp h0 h) mf_X11_closesUp wd_1341 wd_1340 rfl rfl ⟨(Nat.le_of_ble_eq_true rfl), (Nat.le_of_ble_eq_true rfl)⟩ rfl rfl (Nat.le_of_ble_eq_true rfl) dX11_takesOut_28) (fun w h => ?_)
  exact v_ret C R h dX11_takesOut_31
abbrev rm_X11_goes : Room := { frames := 3, cells := 0, slots := 0, locals := 68 }
theorem mf_X11_goes : MfB yX11_goes cX11_goes 2 (some .boolean) 1 := ⟨wd_1326, wd_13, by decide, by decide, by decide +kernel⟩
def X11_goes (x1 : Int) (w : Wd) (Q : Int → Wd → Prop) : Prop := X11_isLine x1 w (fun y2 w1 => ((wr y2 = 0 → Q 0 w1) ∧ (¬ wr y2 = 0 → X11_marks w1 (fun w3 => X11_takesOut 73 x1 w3 (fun w4 => Q 1 w4)))))
theorem m_X11_goes {Z : Zw} {l : Launch} {x1 : Int} {w : Wd} {Q : Int → Wd → Prop} (h : X11_goes x1 w Q) : CtQ Z l yX11_goes cX11_goes 2 (some .boolean) rm_X11_goes [rv Z 65, iv x1] w (qI Z Q) := by
  refine ct_of (by decide) (Nat.le_of_ble_eq_true rfl) (fun E eE C R => ?_)
  subst eE
  have C : Cx Z (adA Z) E cX11_goes "HandleFacesModel" 2 rm_X11_goes := C
  unfold X11_goes at h
  show V Z (adA Z) E 2 w 0 [(0, rv Z 65), (1, iv x1)] []
  refine v_aload_n C dX11_goes_0 0 rfl ?_
  refine v_iload_n C dX11_goes_1 1 rfl ?_
  refine v_calli C (rn_V C _ (m_X11_isLine h) mf_X11_isLine wd_1329 wp_60 wd_1327 rfl rfl ⟨(Nat.le_of_ble_eq_true rfl), (Nat.le_of_ble_eq_true rfl)⟩ rfl rfl rfl rfl (Nat.le_of_ble_eq_true rfl) dX11_goes_2) (fun r w h => ?_)
  refine v_if_ne C 10 dX11_goes_5 (by decide) (fun q => ?_) (fun q => ?_)
  · have h := h.2 q
    refine v_aload_n C dX11_goes_10 0 rfl ?_
    refine v_callv C (rn_V C _ (m_X11_marks h) mf_X11_marks wd_1318 wp_59 wd_1316 rfl rfl ⟨(Nat.le_of_ble_eq_true rfl), (Nat.le_of_ble_eq_true rfl)⟩ rfl rfl rfl rfl (Nat.le_of_ble_eq_true rfl) dX11_goes_11) (fun w h => ?_)
    refine v_aload_n C dX11_goes_14 0 rfl ?_
    refine g_X11_now C wd_1087 dX11_goes_15 ?_
    refine v_iload_n C dX11_goes_18 1 rfl ?_
    refine v_callv C (rn_S C _ (m_X11_takesOut rfl h) mf_X11_takesOut wd_1332 wd_1331 rfl rfl ⟨(Nat.le_of_ble_eq_true rfl), (Nat.le_of_ble_eq_true rfl)⟩ rfl rfl (Nat.le_of_ble_eq_true rfl) dX11_goes_19) (fun w h => ?_)
    refine v_iconst C dX11_goes_22 ?_
    exact v_zret C R (Or.inr rfl) h dX11_goes_23
  · have h := h.1 q
    refine v_iconst C dX11_goes_8 ?_
    exact v_zret C R (Or.inl rfl) h dX11_goes_9
abbrev rm_X11_twist : Room := { frames := 2, cells := 0, slots := 0, locals := 43 }
theorem mf_X11_twist : MfB yX11_twist cX11_twist 2 (some .boolean) 1 := ⟨wd_1346, wd_13, by decide, by decide, by decide +kernel⟩
def X11_twist (x1 : Int) (w : Wd) (Q : Int → Wd → Prop) : Prop := X11_isLine x1 w (fun y2 w1 => ((wr y2 = 0 → Q 0 w1) ∧ (¬ wr y2 = 0 → X11_marks w1 (fun w3 => (ix (22 + x1) 98 ∧ (ix (22 + x1) 98 ∧ (∀ w4, w4 = wt w3 73 (22 + x1) (1 - (rd w3 73 (22 + x1))) → Q 1 w4)))))))
theorem m_X11_twist {Z : Zw} {l : Launch} {x1 : Int} {w : Wd} {Q : Int → Wd → Prop} (h : X11_twist x1 w Q) : CtQ Z l yX11_twist cX11_twist 2 (some .boolean) rm_X11_twist [rv Z 65, iv x1] w (qI Z Q) := by
  refine ct_of (by decide) (Nat.le_of_ble_eq_true rfl) (fun E eE C R => ?_)
  subst eE
  have C : Cx Z (adA Z) E cX11_twist "HandleFacesModel" 2 rm_X11_twist := C
  unfold X11_twist at h
  show V Z (adA Z) E 2 w 0 [(0, rv Z 65), (1, iv x1)] []
  refine v_aload_n C dX11_twist_0 0 rfl ?_
  refine v_iload_n C dX11_twist_1 1 rfl ?_
  refine v_calli C (rn_V C _ (m_X11_isLine h) mf_X11_isLine wd_1329 wp_60 wd_1327 rfl rfl ⟨(Nat.le_of_ble_eq_true rfl), (Nat.le_of_ble_eq_true rfl)⟩ rfl rfl rfl rfl (Nat.le_of_ble_eq_true rfl) dX11_twist_2) (fun r w h => ?_)
  refine v_if_ne C 10 dX11_twist_5 (by decide) (fun q => ?_) (fun q => ?_)
  · have h := h.2 q
    refine v_aload_n C dX11_twist_10 0 rfl ?_
    refine v_callv C (rn_V C _ (m_X11_marks h) mf_X11_marks wd_1318 wp_59 wd_1316 rfl rfl ⟨(Nat.le_of_ble_eq_true rfl), (Nat.le_of_ble_eq_true rfl)⟩ rfl rfl rfl rfl (Nat.le_of_ble_eq_true rfl) dX11_twist_11) (fun w h => ?_)
    refine v_aload_n C dX11_twist_14 0 rfl ?_
    refine g_X11_now C wd_1087 dX11_twist_15 ?_
    refine v_bipush C dX11_twist_18 (by decide) ?_
    refine v_iload_n C dX11_twist_20 1 rfl ?_
    refine v_iadd C dX11_twist_21 ?_
    refine v_iconst C dX11_twist_22 ?_
    refine v_aload_n C dX11_twist_23 0 rfl ?_
    refine g_X11_now C wd_1087 dX11_twist_24 ?_
    refine v_bipush C dX11_twist_27 (by decide) ?_
    refine v_iload_n C dX11_twist_29 1 rfl ?_
    refine v_iadd C dX11_twist_30 ?_
    refine v_iald C rfl h.1 dX11_twist_31 ?_
    have h := h.2
    refine v_isub C dX11_twist_32 ?_
    refine v_iast C rfl h.1 dX11_twist_33 ?_
    have h := h.2
    have h := h _ rfl
    refine v_iconst C dX11_twist_34 ?_
    exact v_zret C R (Or.inr rfl) h dX11_twist_35
  · have h := h.1 q
    refine v_iconst C dX11_twist_8 ?_
    exact v_zret C R (Or.inl rfl) h dX11_twist_9
abbrev rm_X11_turnsOver : Room := { frames := 0, cells := 0, slots := 0, locals := 0 }
theorem mf_X11_turnsOver : MfB yX11_turnsOver cX11_turnsOver 6 none 2 := ⟨wd_1353, wd_13, by decide, by decide, by decide +kernel⟩
def X11_turnsOver_l18 (r0 : Nat) (Q : Wd → Prop) (e71 : Int → Int → Wd → Prop) : Nat → Int → Int → Int → Wd → Prop
  | 0 => fun _ _ _ _ => False
  | n + 1 => fun x2 x3 x4 w => ((wr ((x3 - 1) - x4) ≤ wr x4 → e71 x2 x3 w) ∧ (¬ wr ((x3 - 1) - x4) ≤ wr x4 → (ix (x2 + x4) 98 ∧ (∀ y3, y3 = (rd w r0 (x2 + x4)) → (ix (((x2 + x3) - 1) - x4) 98 ∧ (ix (x2 + x4) 98 ∧ (∀ w4, w4 = wt w r0 (x2 + x4) (rd w r0 (((x2 + x3) - 1) - x4)) → (ix (((x2 + x3) - 1) - x4) 98 ∧ (∀ w5, w5 = wt w4 r0 (((x2 + x3) - 1) - x4) y3 → (X11_turnsOver_l18 r0 Q e71 n) x2 x3 (x4 + 1) w5)))))))))
theorem t_X11_turnsOver_l18 {Z : Zw} {E : Amb} {r0 : Nat} {Q : Wd → Prop} {e71 : Int → Int → Wd → Prop} (C : Cx Z (adA Z) E cX11_turnsOver "HandleFacesModel" 6 rm_X11_turnsOver) (R : Rt Z E none (qV Z Q)) (h0 : shp r0 = (1, 98, [])) (he71 : ∀ (x2 : Int) (x3 : Int) (w : Wd), e71 x2 x3 w → V Z (adA Z) E 6 w 71 [(0, rv Z r0), (2, iv x2), (3, iv x3)] []) : ∀ (n : Nat) (x2 : Int) (x3 : Int) (x4 : Int) (w : Wd), X11_turnsOver_l18 r0 Q e71 n x2 x3 x4 w → V Z (adA Z) E 6 w 18 [(0, rv Z r0), (2, iv x2), (3, iv x3), (4, iv x4)] [] := by
  intro n
  induction n with
  | zero => intro x2 x3 x4 w h; exact h.elim
  | succ n ih =>
    intro x2 x3 x4 w h
    unfold X11_turnsOver_l18 at h
    refine v_iload C dX11_turnsOver_18 3 rfl ?_
    refine v_iload_n C dX11_turnsOver_20 2 rfl ?_
    refine v_iconst C dX11_turnsOver_21 ?_
    refine v_isub C dX11_turnsOver_22 ?_
    refine v_iload C dX11_turnsOver_23 3 rfl ?_
    refine v_isub C dX11_turnsOver_25 ?_
    refine v_icmp_ge C 71 dX11_turnsOver_26 (by decide) (fun q => ?_) (fun q => ?_)
    · have h := h.1 q
      refine v_sub [0, 1, 2] rfl ?_
      exact he71 _ _ _ h
    · have h := h.2 q
      refine v_aload_n C dX11_turnsOver_29 0 rfl ?_
      refine v_iload_n C dX11_turnsOver_30 1 rfl ?_
      refine v_iload C dX11_turnsOver_31 3 rfl ?_
      refine v_iadd C dX11_turnsOver_33 ?_
      refine v_iald C h0 h.1 dX11_turnsOver_34 ?_
      have h := h.2
      refine v_istore C [(5, _), (0, _), (2, _), (3, _), (4, _)] dX11_turnsOver_35 (by decide) rfl ?_
      have h := h _ rfl
      refine v_aload_n C dX11_turnsOver_37 1 rfl ?_
      refine v_iload_n C dX11_turnsOver_38 2 rfl ?_
      refine v_iload C dX11_turnsOver_39 4 rfl ?_
      refine v_iadd C dX11_turnsOver_41 ?_
      refine v_aload_n C dX11_turnsOver_42 1 rfl ?_
      refine v_iload_n C dX11_turnsOver_43 2 rfl ?_
      refine v_iload_n C dX11_turnsOver_44 3 rfl ?_
      refine v_iadd C dX11_turnsOver_45 ?_
      refine v_iconst C dX11_turnsOver_46 ?_
      refine v_isub C dX11_turnsOver_47 ?_
      refine v_iload C dX11_turnsOver_48 4 rfl ?_
      refine v_isub C dX11_turnsOver_50 ?_
      refine v_iald C h0 h.1 dX11_turnsOver_51 ?_
      have h := h.2
      refine v_iast C h0 h.1 dX11_turnsOver_52 ?_
      have h := h.2
      have h := h _ rfl
      refine v_aload_n C dX11_turnsOver_53 1 rfl ?_
      refine v_iload_n C dX11_turnsOver_54 2 rfl ?_
      refine v_iload_n C dX11_turnsOver_55 3 rfl ?_
      refine v_iadd C dX11_turnsOver_56 ?_
      refine v_iconst C dX11_turnsOver_57 ?_
      refine v_isub C dX11_turnsOver_58 ?_
      refine v_iload C dX11_turnsOver_59 4 rfl ?_
      refine v_isub C dX11_turnsOver_61 ?_
      refine v_iload C dX11_turnsOver_62 0 rfl ?_
      refine v_iast C h0 h.1 dX11_turnsOver_64 ?_
      have h := h.2
      have h := h _ rfl
      refine v_iinc C [(4, _), (5, _), (0, _), (2, _), (3, _)] dX11_turnsOver_65 4 rfl (by decide) rfl ?_
      refine v_goto C 18 dX11_turnsOver_68 (by decide) ?_
      refine v_sub [2, 3, 4, 0] rfl ?_
      exact ih _ _ _ _ h
def X11_turnsOver_l74 (r0 : Nat) (Q : Wd → Prop) (e110 : Wd → Prop) : Nat → Int → Int → Int → Wd → Prop
  | 0 => fun _ _ _ _ => False
  | n + 1 => fun x2 x3 x4 w => ((wr x3 ≤ wr x4 → e110 w) ∧ (¬ wr x3 ≤ wr x4 → (ix (x2 + x4) 98 ∧ (ix (x2 + x4) 98 ∧ (ix (22 + (rd w r0 (x2 + x4))) 98 ∧ (ix (22 + (rd w r0 (x2 + x4))) 98 ∧ (∀ w6, w6 = wt w r0 (22 + (rd w r0 (x2 + x4))) (1 - (rd w r0 (22 + (rd w r0 (x2 + x4))))) → (X11_turnsOver_l74 r0 Q e110 n) x2 x3 (x4 + 1) w6)))))))
theorem t_X11_turnsOver_l74 {Z : Zw} {E : Amb} {r0 : Nat} {Q : Wd → Prop} {e110 : Wd → Prop} (C : Cx Z (adA Z) E cX11_turnsOver "HandleFacesModel" 6 rm_X11_turnsOver) (R : Rt Z E none (qV Z Q)) (h0 : shp r0 = (1, 98, [])) (he110 : ∀ (w : Wd), e110 w → V Z (adA Z) E 6 w 110 [] []) : ∀ (n : Nat) (x2 : Int) (x3 : Int) (x4 : Int) (w : Wd), X11_turnsOver_l74 r0 Q e110 n x2 x3 x4 w → V Z (adA Z) E 6 w 74 [(0, rv Z r0), (2, iv x2), (3, iv x3), (4, iv x4)] [] := by
  intro n
  induction n with
  | zero => intro x2 x3 x4 w h; exact h.elim
  | succ n ih =>
    intro x2 x3 x4 w h
    unfold X11_turnsOver_l74 at h
    refine v_iload C dX11_turnsOver_74 3 rfl ?_
    refine v_iload_n C dX11_turnsOver_76 2 rfl ?_
    refine v_icmp_ge C 110 dX11_turnsOver_77 (by decide) (fun q => ?_) (fun q => ?_)
    · have h := h.1 q
      refine v_sub [] rfl ?_
      exact he110 _ h
    · have h := h.2 q
      refine v_aload_n C dX11_turnsOver_80 0 rfl ?_
      refine v_bipush C dX11_turnsOver_81 (by decide) ?_
      refine v_aload_n C dX11_turnsOver_83 0 rfl ?_
      refine v_iload_n C dX11_turnsOver_84 1 rfl ?_
      refine v_iload C dX11_turnsOver_85 3 rfl ?_
      refine v_iadd C dX11_turnsOver_87 ?_
      refine v_iald C h0 h.1 dX11_turnsOver_88 ?_
      have h := h.2
      refine v_iadd C dX11_turnsOver_89 ?_
      refine v_iconst C dX11_turnsOver_90 ?_
      refine v_aload_n C dX11_turnsOver_91 0 rfl ?_
      refine v_bipush C dX11_turnsOver_92 (by decide) ?_
      refine v_aload_n C dX11_turnsOver_94 0 rfl ?_
      refine v_iload_n C dX11_turnsOver_95 1 rfl ?_
      refine v_iload C dX11_turnsOver_96 3 rfl ?_
      refine v_iadd C dX11_turnsOver_98 ?_
      refine v_iald C h0 h.1 dX11_turnsOver_99 ?_
      have h := h.2
      refine v_iadd C dX11_turnsOver_100 ?_
      refine v_iald C h0 h.1 dX11_turnsOver_101 ?_
      have h := h.2
      refine v_isub C dX11_turnsOver_102 ?_
      refine v_iast C h0 h.1 dX11_turnsOver_103 ?_
      have h := h.2
      have h := h _ rfl
      refine v_iinc C [(4, _), (0, _), (2, _), (3, _)] dX11_turnsOver_104 3 rfl (by decide) rfl ?_
      refine v_goto C 74 dX11_turnsOver_107 (by decide) ?_
      refine v_sub [1, 2, 3, 0] rfl ?_
      exact ih _ _ _ _ h
def X11_turnsOver_b110 (r0 : Nat) (Q : Wd → Prop) (w : Wd) : Prop := Q w
theorem t_X11_turnsOver_b110 {Z : Zw} {E : Amb} {r0 : Nat} {Q : Wd → Prop} (C : Cx Z (adA Z) E cX11_turnsOver "HandleFacesModel" 6 rm_X11_turnsOver) (R : Rt Z E none (qV Z Q)) (h0 : shp r0 = (1, 98, [])) : ∀ (w : Wd), X11_turnsOver_b110 r0 Q w → V Z (adA Z) E 6 w 110 [] [] := by
  intro w h
  unfold X11_turnsOver_b110 at h
  exact v_ret C R h dX11_turnsOver_110
def X11_turnsOver_b71 (r0 : Nat) (Q : Wd → Prop) (x2 : Int) (x3 : Int) (w : Wd) : Prop := (∃ m, X11_turnsOver_l74 r0 Q (X11_turnsOver_b110 r0 Q) m x2 x3 0 w)
theorem t_X11_turnsOver_b71 {Z : Zw} {E : Amb} {r0 : Nat} {Q : Wd → Prop} (C : Cx Z (adA Z) E cX11_turnsOver "HandleFacesModel" 6 rm_X11_turnsOver) (R : Rt Z E none (qV Z Q)) (h0 : shp r0 = (1, 98, [])) : ∀ (x2 : Int) (x3 : Int) (w : Wd), X11_turnsOver_b71 r0 Q x2 x3 w → V Z (adA Z) E 6 w 71 [(0, rv Z r0), (2, iv x2), (3, iv x3)] [] := by
  intro x2 x3 w h
  unfold X11_turnsOver_b71 at h
  refine v_iconst C dX11_turnsOver_71 ?_
  refine v_istore C [(4, _), (0, _), (2, _), (3, _)] dX11_turnsOver_72 (by decide) rfl ?_
  refine v_sub [1, 2, 3, 0] rfl ?_
  obtain ⟨m, h⟩ := h
  exact t_X11_turnsOver_l74 C R h0 (t_X11_turnsOver_b110 C R h0) m _ _ _ _ h
def X11_turnsOver (r0 : Nat) (x1 : Int) (w : Wd) (Q : Wd → Prop) : Prop := (∀ y1, y1 = (38 + (10 * x1)) → (ix (32 + x1) 98 ∧ (∀ y2, y2 = (rd w r0 (32 + x1)) → (∃ m, X11_turnsOver_l18 r0 Q (X11_turnsOver_b71 r0 Q) m y1 y2 0 w))))
theorem m_X11_turnsOver {Z : Zw} {l : Launch} {r0 : Nat} {x1 : Int} {w : Wd} {Q : Wd → Prop} (h0 : shp r0 = (1, 98, [])) (h : X11_turnsOver r0 x1 w Q) : CtQ Z l yX11_turnsOver cX11_turnsOver 6 none rm_X11_turnsOver [rv Z r0, iv x1] w (qV Z Q) := by
  refine ct_of (by decide) (Nat.le_of_ble_eq_true rfl) (fun E eE C R => ?_)
  subst eE
  have C : Cx Z (adA Z) E cX11_turnsOver "HandleFacesModel" 6 rm_X11_turnsOver := C
  unfold X11_turnsOver at h
  show V Z (adA Z) E 6 w 0 [(0, rv Z r0), (1, iv x1)] []
  refine v_bipush C dX11_turnsOver_0 (by decide) ?_
  refine v_bipush C dX11_turnsOver_2 (by decide) ?_
  refine v_iload_n C dX11_turnsOver_4 1 rfl ?_
  refine v_imul C dX11_turnsOver_5 ?_
  refine v_iadd C dX11_turnsOver_6 ?_
  refine v_istore_n C [(2, _), (0, _), (1, _)] dX11_turnsOver_7 2 rfl (by decide) rfl ?_
  have h := h _ rfl
  refine v_aload_n C dX11_turnsOver_8 1 rfl ?_
  refine v_bipush C dX11_turnsOver_9 (by decide) ?_
  refine v_iload_n C dX11_turnsOver_11 2 rfl ?_
  refine v_iadd C dX11_turnsOver_12 ?_
  refine v_iald C h0 h.1 dX11_turnsOver_13 ?_
  have h := h.2
  refine v_istore_n C [(3, _), (2, _), (0, _), (1, _)] dX11_turnsOver_14 3 rfl (by decide) rfl ?_
  have h := h _ rfl
  refine v_iconst C dX11_turnsOver_15 ?_
  refine v_istore C [(4, _), (3, _), (2, _), (0, _), (1, _)] dX11_turnsOver_16 (by decide) rfl ?_
  refine v_sub [3, 2, 1, 0] rfl ?_
  obtain ⟨m, h⟩ := h
  exact t_X11_turnsOver_l18 C R h0 (t_X11_turnsOver_b71 C R h0) m _ _ _ _ h
abbrev rm_X11_flip : Room := { frames := 2, cells := 0, slots := 0, locals := 43 }
theorem mf_X11_flip : MfB yX11_flip cX11_flip 2 (some .boolean) 1 := ⟨wd_1350, wd_13, by decide, by decide, by decide +kernel⟩
def X11_flip (x1 : Int) (w : Wd) (Q : Int → Wd → Prop) : Prop := X11_isPost x1 w (fun y2 w1 => ((wr y2 = 0 → Q 0 w1) ∧ (¬ wr y2 = 0 → X11_marks w1 (fun w3 => X11_turnsOver 73 x1 w3 (fun w4 => Q 1 w4)))))
theorem m_X11_flip {Z : Zw} {l : Launch} {x1 : Int} {w : Wd} {Q : Int → Wd → Prop} (h : X11_flip x1 w Q) : CtQ Z l yX11_flip cX11_flip 2 (some .boolean) rm_X11_flip [rv Z 65, iv x1] w (qI Z Q) := by
  refine ct_of (by decide) (Nat.le_of_ble_eq_true rfl) (fun E eE C R => ?_)
  subst eE
  have C : Cx Z (adA Z) E cX11_flip "HandleFacesModel" 2 rm_X11_flip := C
  unfold X11_flip at h
  show V Z (adA Z) E 2 w 0 [(0, rv Z 65), (1, iv x1)] []
  refine v_aload_n C dX11_flip_0 0 rfl ?_
  refine v_iload_n C dX11_flip_1 1 rfl ?_
  refine v_calli C (rn_V C _ (m_X11_isPost h) mf_X11_isPost wd_1314 wp_58 wd_1312 rfl rfl ⟨(Nat.le_of_ble_eq_true rfl), (Nat.le_of_ble_eq_true rfl)⟩ rfl rfl rfl rfl (Nat.le_of_ble_eq_true rfl) dX11_flip_2) (fun r w h => ?_)
  refine v_if_ne C 10 dX11_flip_5 (by decide) (fun q => ?_) (fun q => ?_)
  · have h := h.2 q
    refine v_aload_n C dX11_flip_10 0 rfl ?_
    refine v_callv C (rn_V C _ (m_X11_marks h) mf_X11_marks wd_1318 wp_59 wd_1316 rfl rfl ⟨(Nat.le_of_ble_eq_true rfl), (Nat.le_of_ble_eq_true rfl)⟩ rfl rfl rfl rfl (Nat.le_of_ble_eq_true rfl) dX11_flip_11) (fun w h => ?_)
    refine v_aload_n C dX11_flip_14 0 rfl ?_
    refine g_X11_now C wd_1087 dX11_flip_15 ?_
    refine v_iload_n C dX11_flip_18 1 rfl ?_
    refine v_callv C (rn_S C _ (m_X11_turnsOver rfl h) mf_X11_turnsOver wd_1352 wd_1351 rfl rfl ⟨(Nat.le_of_ble_eq_true rfl), (Nat.le_of_ble_eq_true rfl)⟩ rfl rfl (Nat.le_of_ble_eq_true rfl) dX11_flip_19) (fun w h => ?_)
    refine v_iconst C dX11_flip_22 ?_
    exact v_zret C R (Or.inr rfl) h dX11_flip_23
  · have h := h.1 q
    refine v_iconst C dX11_flip_8 ?_
    exact v_zret C R (Or.inl rfl) h dX11_flip_9
abbrev rm_X11_exchange : Room := { frames := 2, cells := 0, slots := 0, locals := 43 }
theorem mf_X11_exchange : MfB yX11_exchange cX11_exchange 6 (some .boolean) 2 := ⟨wd_1357, wd_13, by decide, by decide, by decide +kernel⟩
def X11_exchange (x1 : Int) (x2 : Int) (w : Wd) (Q : Int → Wd → Prop) : Prop := X11_isPost x1 w (fun y2 w1 => ((wr y2 = 0 → Q 0 w1) ∧ (¬ wr y2 = 0 → (ix (32 + x1) 98 ∧ ((wr (rd w1 73 (32 + x1)) < wr 3 → Q 0 w1) ∧ (¬ wr (rd w1 73 (32 + x1)) < wr 3 → (ix (32 + x1) 98 ∧ X11_in x2 0 ((rd w1 73 (32 + x1)) - 1) w1 (fun y4 w3 => ((wr y4 = 0 → Q 0 w3) ∧ (¬ wr y4 = 0 → X11_marks w3 (fun w5 => (∀ y6, y6 = (38 + (10 * x1)) → (ix (32 + x1) 98 ∧ (¬ wr (rd w5 73 (32 + x1)) = 0 ∧ (∀ y7, y7 = (irm (x2 + 1) (rd w5 73 (32 + x1))) → (ix (y6 + x2) 98 ∧ (∀ y8, y8 = (rd w5 73 (y6 + x2)) → (ix (y6 + y7) 98 ∧ (ix (y6 + x2) 98 ∧ (∀ w9, w9 = wt w5 73 (y6 + x2) (rd w5 73 (y6 + y7)) → (ix (y6 + y7) 98 ∧ (∀ w10, w10 = wt w9 73 (y6 + y7) y8 → Q 1 w10))))))))))))))))))))))
theorem m_X11_exchange {Z : Zw} {l : Launch} {x1 : Int} {x2 : Int} {w : Wd} {Q : Int → Wd → Prop} (h : X11_exchange x1 x2 w Q) : CtQ Z l yX11_exchange cX11_exchange 6 (some .boolean) rm_X11_exchange [rv Z 65, iv x1, iv x2] w (qI Z Q) := by
  refine ct_of (by decide) (Nat.le_of_ble_eq_true rfl) (fun E eE C R => ?_)
  subst eE
  have C : Cx Z (adA Z) E cX11_exchange "HandleFacesModel" 6 rm_X11_exchange := C
  unfold X11_exchange at h
  show V Z (adA Z) E 6 w 0 [(0, rv Z 65), (1, iv x1), (2, iv x2)] []
  refine v_aload_n C dX11_exchange_0 0 rfl ?_
  refine v_iload_n C dX11_exchange_1 1 rfl ?_
  refine v_calli C (rn_V C _ (m_X11_isPost h) mf_X11_isPost wd_1314 wp_58 wd_1312 rfl rfl ⟨(Nat.le_of_ble_eq_true rfl), (Nat.le_of_ble_eq_true rfl)⟩ rfl rfl rfl rfl (Nat.le_of_ble_eq_true rfl) dX11_exchange_2) (fun r w h => ?_)
  refine v_if_eq C 40 dX11_exchange_5 (by decide) (fun q => ?_) (fun q => ?_)
  · have h := h.1 q
    refine v_iconst C dX11_exchange_40 ?_
    exact v_zret C R (Or.inl rfl) h dX11_exchange_41
  · have h := h.2 q
    refine v_aload_n C dX11_exchange_8 0 rfl ?_
    refine g_X11_now C wd_1087 dX11_exchange_9 ?_
    refine v_bipush C dX11_exchange_12 (by decide) ?_
    refine v_iload_n C dX11_exchange_14 1 rfl ?_
    refine v_iadd C dX11_exchange_15 ?_
    refine v_iald C rfl h.1 dX11_exchange_16 ?_
    have h := h.2
    refine v_iconst C dX11_exchange_17 ?_
    refine v_icmp_lt C 40 dX11_exchange_18 (by decide) (fun q => ?_) (fun q => ?_)
    · have h := h.1 q
      refine v_iconst C dX11_exchange_40 ?_
      exact v_zret C R (Or.inl rfl) h dX11_exchange_41
    · have h := h.2 q
      refine v_iload_n C dX11_exchange_21 2 rfl ?_
      refine v_iconst C dX11_exchange_22 ?_
      refine v_aload_n C dX11_exchange_23 0 rfl ?_
      refine g_X11_now C wd_1087 dX11_exchange_24 ?_
      refine v_bipush C dX11_exchange_27 (by decide) ?_
      refine v_iload_n C dX11_exchange_29 1 rfl ?_
      refine v_iadd C dX11_exchange_30 ?_
      refine v_iald C rfl h.1 dX11_exchange_31 ?_
      have h := h.2
      refine v_iconst C dX11_exchange_32 ?_
      refine v_isub C dX11_exchange_33 ?_
      refine v_calli C (rn_S C _ (m_X11_in h) mf_X11_in wd_1298 wd_1297 rfl rfl ⟨(Nat.le_of_ble_eq_true rfl), (Nat.le_of_ble_eq_true rfl)⟩ rfl rfl (Nat.le_of_ble_eq_true rfl) dX11_exchange_34) (fun r w h => ?_)
      refine v_if_ne C 42 dX11_exchange_37 (by decide) (fun q => ?_) (fun q => ?_)
      · have h := h.2 q
        refine v_aload_n C dX11_exchange_42 0 rfl ?_
        refine v_callv C (rn_V C _ (m_X11_marks h) mf_X11_marks wd_1318 wp_59 wd_1316 rfl rfl ⟨(Nat.le_of_ble_eq_true rfl), (Nat.le_of_ble_eq_true rfl)⟩ rfl rfl rfl rfl (Nat.le_of_ble_eq_true rfl) dX11_exchange_43) (fun w h => ?_)
        refine v_bipush C dX11_exchange_46 (by decide) ?_
        refine v_bipush C dX11_exchange_48 (by decide) ?_
        refine v_iload_n C dX11_exchange_50 1 rfl ?_
        refine v_imul C dX11_exchange_51 ?_
        refine v_iadd C dX11_exchange_52 ?_
        refine v_istore_n C [(3, _), (0, _), (1, _), (2, _)] dX11_exchange_53 3 rfl (by decide) rfl ?_
        have h := h _ rfl
        refine v_iload_n C dX11_exchange_54 3 rfl ?_
        refine v_iconst C dX11_exchange_55 ?_
        refine v_iadd C dX11_exchange_56 ?_
        refine v_aload_n C dX11_exchange_57 1 rfl ?_
        refine g_X11_now C wd_1087 dX11_exchange_58 ?_
        refine v_bipush C dX11_exchange_61 (by decide) ?_
        refine v_iload_n C dX11_exchange_63 2 rfl ?_
        refine v_iadd C dX11_exchange_64 ?_
        refine v_iald C rfl h.1 dX11_exchange_65 ?_
        have h := h.2
        refine v_irem C dX11_exchange_66 h.1 ?_
        have h := h.2
        refine v_istore C [(4, _), (3, _), (0, _), (1, _), (2, _)] dX11_exchange_67 (by decide) rfl ?_
        have h := h _ rfl
        refine v_aload_n C dX11_exchange_69 2 rfl ?_
        refine g_X11_now C wd_1087 dX11_exchange_70 ?_
        refine v_iload_n C dX11_exchange_73 1 rfl ?_
        refine v_iload_n C dX11_exchange_74 4 rfl ?_
        refine v_iadd C dX11_exchange_75 ?_
        refine v_iald C rfl h.1 dX11_exchange_76 ?_
        have h := h.2
        refine v_istore C [(5, _), (4, _), (3, _), (0, _), (1, _), (2, _)] dX11_exchange_77 (by decide) rfl ?_
        have h := h _ rfl
        refine v_aload_n C dX11_exchange_79 3 rfl ?_
        refine g_X11_now C wd_1087 dX11_exchange_80 ?_
        refine v_iload_n C dX11_exchange_83 2 rfl ?_
        refine v_iload_n C dX11_exchange_84 5 rfl ?_
        refine v_iadd C dX11_exchange_85 ?_
        refine v_aload_n C dX11_exchange_86 3 rfl ?_
        refine g_X11_now C wd_1087 dX11_exchange_87 ?_
        refine v_iload_n C dX11_exchange_90 2 rfl ?_
        refine v_iload C dX11_exchange_91 1 rfl ?_
        refine v_iadd C dX11_exchange_93 ?_
        refine v_iald C rfl h.1 dX11_exchange_94 ?_
        have h := h.2
        refine v_iast C rfl h.1 dX11_exchange_95 ?_
        have h := h.2
        have h := h _ rfl
        refine v_aload_n C dX11_exchange_96 3 rfl ?_
        refine g_X11_now C wd_1087 dX11_exchange_97 ?_
        refine v_iload_n C dX11_exchange_100 2 rfl ?_
        refine v_iload C dX11_exchange_101 1 rfl ?_
        refine v_iadd C dX11_exchange_103 ?_
        refine v_iload C dX11_exchange_104 0 rfl ?_
        refine v_iast C rfl h.1 dX11_exchange_106 ?_
        have h := h.2
        have h := h _ rfl
        refine v_iconst C dX11_exchange_107 ?_
        exact v_zret C R (Or.inr rfl) h dX11_exchange_108
      · have h := h.1 q
        refine v_iconst C dX11_exchange_40 ?_
        exact v_zret C R (Or.inl rfl) h dX11_exchange_41
abbrev rm_X11_otherEnd : Room := { frames := 0, cells := 0, slots := 0, locals := 0 }
theorem mf_X11_otherEnd : MfB yX11_otherEnd cX11_otherEnd 3 (some .int) 3 := ⟨wd_1368, wd_13, by decide, by decide, by decide +kernel⟩
def X11_otherEnd (r0 : Nat) (x1 : Int) (x2 : Int) (w : Wd) (Q : Int → Wd → Prop) : Prop := (ix (2 + (2 * x1)) 98 ∧ ((wr (rd w r0 (2 + (2 * x1))) = wr x2 → (ix ((2 + (2 * x1)) + 1) 98 ∧ Q (wr (rd w r0 ((2 + (2 * x1)) + 1))) w)) ∧ (¬ wr (rd w r0 (2 + (2 * x1))) = wr x2 → (ix ((2 + (2 * x1)) + 1) 98 ∧ ((wr (rd w r0 ((2 + (2 * x1)) + 1)) = wr x2 → (ix (2 + (2 * x1)) 98 ∧ Q (wr (rd w r0 (2 + (2 * x1)))) w)) ∧ (¬ wr (rd w r0 ((2 + (2 * x1)) + 1)) = wr x2 → Q (wr (-1)) w))))))
theorem m_X11_otherEnd {Z : Zw} {l : Launch} {r0 : Nat} {x1 : Int} {x2 : Int} {w : Wd} {Q : Int → Wd → Prop} (h0 : shp r0 = (1, 98, [])) (h : X11_otherEnd r0 x1 x2 w Q) : CtQ Z l yX11_otherEnd cX11_otherEnd 3 (some .int) rm_X11_otherEnd [rv Z r0, iv x1, iv x2] w (qI Z Q) := by
  refine ct_of (by decide) (Nat.le_of_ble_eq_true rfl) (fun E eE C R => ?_)
  subst eE
  have C : Cx Z (adA Z) E cX11_otherEnd "HandleFacesModel" 3 rm_X11_otherEnd := C
  unfold X11_otherEnd at h
  show V Z (adA Z) E 3 w 0 [(0, rv Z r0), (1, iv x1), (2, iv x2)] []
  refine v_aload_n C dX11_otherEnd_0 0 rfl ?_
  refine v_iconst C dX11_otherEnd_1 ?_
  refine v_iconst C dX11_otherEnd_2 ?_
  refine v_iload_n C dX11_otherEnd_3 1 rfl ?_
  refine v_imul C dX11_otherEnd_4 ?_
  refine v_iadd C dX11_otherEnd_5 ?_
  refine v_iald C h0 h.1 dX11_otherEnd_6 ?_
  have h := h.2
  refine v_iload_n C dX11_otherEnd_7 2 rfl ?_
  refine v_icmp_ne C 23 dX11_otherEnd_8 (by decide) (fun q => ?_) (fun q => ?_)
  · have h := h.2 q
    refine v_aload_n C dX11_otherEnd_23 0 rfl ?_
    refine v_iconst C dX11_otherEnd_24 ?_
    refine v_iconst C dX11_otherEnd_25 ?_
    refine v_iload_n C dX11_otherEnd_26 1 rfl ?_
    refine v_imul C dX11_otherEnd_27 ?_
    refine v_iadd C dX11_otherEnd_28 ?_
    refine v_iconst C dX11_otherEnd_29 ?_
    refine v_iadd C dX11_otherEnd_30 ?_
    refine v_iald C h0 h.1 dX11_otherEnd_31 ?_
    have h := h.2
    refine v_iload_n C dX11_otherEnd_32 2 rfl ?_
    refine v_icmp_ne C 46 dX11_otherEnd_33 (by decide) (fun q => ?_) (fun q => ?_)
    · have h := h.2 q
      refine v_iconst C dX11_otherEnd_46 ?_
      exact v_iret C R h dX11_otherEnd_47
    · have h := h.1 q
      refine v_aload_n C dX11_otherEnd_36 0 rfl ?_
      refine v_iconst C dX11_otherEnd_37 ?_
      refine v_iconst C dX11_otherEnd_38 ?_
      refine v_iload_n C dX11_otherEnd_39 1 rfl ?_
      refine v_imul C dX11_otherEnd_40 ?_
      refine v_iadd C dX11_otherEnd_41 ?_
      refine v_iald C h0 h.1 dX11_otherEnd_42 ?_
      have h := h.2
      refine v_goto C 47 dX11_otherEnd_43 (by decide) ?_
      exact v_iret C R h dX11_otherEnd_47
  · have h := h.1 q
    refine v_aload_n C dX11_otherEnd_11 0 rfl ?_
    refine v_iconst C dX11_otherEnd_12 ?_
    refine v_iconst C dX11_otherEnd_13 ?_
    refine v_iload_n C dX11_otherEnd_14 1 rfl ?_
    refine v_imul C dX11_otherEnd_15 ?_
    refine v_iadd C dX11_otherEnd_16 ?_
    refine v_iconst C dX11_otherEnd_17 ?_
    refine v_iadd C dX11_otherEnd_18 ?_
    refine v_iald C h0 h.1 dX11_otherEnd_19 ?_
    have h := h.2
    refine v_goto C 47 dX11_otherEnd_20 (by decide) ?_
    exact v_iret C R h dX11_otherEnd_47
abbrev rm_X11_isLone : Room := { frames := 1, cells := 0, slots := 0, locals := 22 }
theorem mf_X11_isLone : MfB yX11_isLone cX11_isLone 5 (some .boolean) 1 := ⟨wd_1365, wd_13, by decide, by decide, by decide +kernel⟩
def X11_isLone_l27 (Q : Int → Wd → Prop) (e58 : Wd → Prop) (e66 : Wd → Prop) : Nat → Int → Int → Int → Int → Wd → Prop
  | 0 => fun _ _ _ _ _ => False
  | n + 1 => fun x1 x2 x3 x4 w => (ix 1 98 ∧ ((wr (rd w 73 1) ≤ wr x4 → e66 w) ∧ (¬ wr (rd w 73 1) ≤ wr x4 → ((wr x4 = wr x1 → (X11_isLone_l27 Q e58 e66 n) x1 x2 x3 (x4 + 1) w) ∧ (¬ wr x4 = wr x1 → X11_otherEnd 73 x4 x2 w (fun y4 w3 => ((wr y4 = wr x3 → e58 w3) ∧ (¬ wr y4 = wr x3 → (X11_isLone_l27 Q e58 e66 n) x1 x2 x3 (x4 + 1) w3))))))))
theorem t_X11_isLone_l27 {Z : Zw} {E : Amb} {Q : Int → Wd → Prop} {e58 : Wd → Prop} {e66 : Wd → Prop} (C : Cx Z (adA Z) E cX11_isLone "HandleFacesModel" 5 rm_X11_isLone) (R : Rt Z E (some .boolean) (qI Z Q)) (he58 : ∀ (w : Wd), e58 w → V Z (adA Z) E 5 w 58 [] []) (he66 : ∀ (w : Wd), e66 w → V Z (adA Z) E 5 w 66 [] []) : ∀ (n : Nat) (x1 : Int) (x2 : Int) (x3 : Int) (x4 : Int) (w : Wd), X11_isLone_l27 Q e58 e66 n x1 x2 x3 x4 w → V Z (adA Z) E 5 w 27 [(0, rv Z 65), (1, iv x1), (2, iv x2), (3, iv x3), (4, iv x4)] [] := by
  intro n
  induction n with
  | zero => intro x1 x2 x3 x4 w h; exact h.elim
  | succ n ih =>
    intro x1 x2 x3 x4 w h
    unfold X11_isLone_l27 at h
    refine v_iload C dX11_isLone_27 4 rfl ?_
    refine v_aload_n C dX11_isLone_29 0 rfl ?_
    refine g_X11_now C wd_1087 dX11_isLone_30 ?_
    refine v_iconst C dX11_isLone_33 ?_
    refine v_iald C rfl h.1 dX11_isLone_34 ?_
    have h := h.2
    refine v_icmp_ge C 66 dX11_isLone_35 (by decide) (fun q => ?_) (fun q => ?_)
    · have h := h.1 q
      refine v_sub [] rfl ?_
      exact he66 _ h
    · have h := h.2 q
      refine v_iload C dX11_isLone_38 4 rfl ?_
      refine v_iload_n C dX11_isLone_40 1 rfl ?_
      refine v_icmp_eq C 60 dX11_isLone_41 (by decide) (fun q => ?_) (fun q => ?_)
      · have h := h.1 q
        refine v_iinc C [(4, _), (0, _), (1, _), (2, _), (3, _)] dX11_isLone_60 4 rfl (by decide) rfl ?_
        refine v_goto C 27 dX11_isLone_63 (by decide) ?_
        refine v_sub [1, 2, 3, 4, 0] rfl ?_
        exact ih _ _ _ _ _ h
      · have h := h.2 q
        refine v_aload_n C dX11_isLone_44 0 rfl ?_
        refine g_X11_now C wd_1087 dX11_isLone_45 ?_
        refine v_iload C dX11_isLone_48 4 rfl ?_
        refine v_iload_n C dX11_isLone_50 2 rfl ?_
        refine v_calli C (rn_S C _ (m_X11_otherEnd rfl h) mf_X11_otherEnd wd_1367 wd_1366 rfl rfl ⟨(Nat.le_of_ble_eq_true rfl), (Nat.le_of_ble_eq_true rfl)⟩ rfl rfl (Nat.le_of_ble_eq_true rfl) dX11_isLone_51) (fun r w h => ?_)
        refine v_iload_n C dX11_isLone_54 3 rfl ?_
        refine v_icmp_ne C 60 dX11_isLone_55 (by decide) (fun q => ?_) (fun q => ?_)
        · have h := h.2 q
          refine v_iinc C [(4, _), (0, _), (1, _), (2, _), (3, _)] dX11_isLone_60 4 rfl (by decide) rfl ?_
          refine v_goto C 27 dX11_isLone_63 (by decide) ?_
          refine v_sub [1, 2, 3, 4, 0] rfl ?_
          exact ih _ _ _ _ _ h
        · have h := h.1 q
          refine v_sub [] rfl ?_
          exact he58 _ h
def X11_isLone_b58 (Q : Int → Wd → Prop) (w : Wd) : Prop := Q 0 w
theorem t_X11_isLone_b58 {Z : Zw} {E : Amb} {Q : Int → Wd → Prop} (C : Cx Z (adA Z) E cX11_isLone "HandleFacesModel" 5 rm_X11_isLone) (R : Rt Z E (some .boolean) (qI Z Q)) : ∀ (w : Wd), X11_isLone_b58 Q w → V Z (adA Z) E 5 w 58 [] [] := by
  intro w h
  unfold X11_isLone_b58 at h
  refine v_iconst C dX11_isLone_58 ?_
  exact v_zret C R (Or.inl rfl) h dX11_isLone_59
def X11_isLone_b66 (Q : Int → Wd → Prop) (w : Wd) : Prop := Q 1 w
theorem t_X11_isLone_b66 {Z : Zw} {E : Amb} {Q : Int → Wd → Prop} (C : Cx Z (adA Z) E cX11_isLone "HandleFacesModel" 5 rm_X11_isLone) (R : Rt Z E (some .boolean) (qI Z Q)) : ∀ (w : Wd), X11_isLone_b66 Q w → V Z (adA Z) E 5 w 66 [] [] := by
  intro w h
  unfold X11_isLone_b66 at h
  refine v_iconst C dX11_isLone_66 ?_
  exact v_zret C R (Or.inr rfl) h dX11_isLone_67
def X11_isLone (x1 : Int) (w : Wd) (Q : Int → Wd → Prop) : Prop := (ix (2 + (2 * x1)) 98 ∧ (∀ y1, y1 = (rd w 73 (2 + (2 * x1))) → (ix ((2 + (2 * x1)) + 1) 98 ∧ (∀ y2, y2 = (rd w 73 ((2 + (2 * x1)) + 1)) → (∃ m, X11_isLone_l27 Q (X11_isLone_b58 Q) (X11_isLone_b66 Q) m x1 y1 y2 0 w)))))
theorem m_X11_isLone {Z : Zw} {l : Launch} {x1 : Int} {w : Wd} {Q : Int → Wd → Prop} (h : X11_isLone x1 w Q) : CtQ Z l yX11_isLone cX11_isLone 5 (some .boolean) rm_X11_isLone [rv Z 65, iv x1] w (qI Z Q) := by
  refine ct_of (by decide) (Nat.le_of_ble_eq_true rfl) (fun E eE C R => ?_)
  subst eE
  have C : Cx Z (adA Z) E cX11_isLone "HandleFacesModel" 5 rm_X11_isLone := C
  unfold X11_isLone at h
  show V Z (adA Z) E 5 w 0 [(0, rv Z 65), (1, iv x1)] []
  refine v_aload_n C dX11_isLone_0 0 rfl ?_
  refine g_X11_now C wd_1087 dX11_isLone_1 ?_
  refine v_iconst C dX11_isLone_4 ?_
  refine v_iconst C dX11_isLone_5 ?_
  refine v_iload_n C dX11_isLone_6 1 rfl ?_
  refine v_imul C dX11_isLone_7 ?_
  refine v_iadd C dX11_isLone_8 ?_
  refine v_iald C rfl h.1 dX11_isLone_9 ?_
  have h := h.2
  refine v_istore_n C [(2, _), (0, _), (1, _)] dX11_isLone_10 2 rfl (by decide) rfl ?_
  have h := h _ rfl
  refine v_aload_n C dX11_isLone_11 1 rfl ?_
  refine g_X11_now C wd_1087 dX11_isLone_12 ?_
  refine v_iconst C dX11_isLone_15 ?_
  refine v_iconst C dX11_isLone_16 ?_
  refine v_iload_n C dX11_isLone_17 2 rfl ?_
  refine v_imul C dX11_isLone_18 ?_
  refine v_iadd C dX11_isLone_19 ?_
  refine v_iconst C dX11_isLone_20 ?_
  refine v_iadd C dX11_isLone_21 ?_
  refine v_iald C rfl h.1 dX11_isLone_22 ?_
  have h := h.2
  refine v_istore_n C [(3, _), (2, _), (0, _), (1, _)] dX11_isLone_23 3 rfl (by decide) rfl ?_
  have h := h _ rfl
  refine v_iconst C dX11_isLone_24 ?_
  refine v_istore C [(4, _), (3, _), (2, _), (0, _), (1, _)] dX11_isLone_25 (by decide) rfl ?_
  refine v_sub [3, 4, 2, 1, 0] rfl ?_
  obtain ⟨m, h⟩ := h
  exact t_X11_isLone_l27 C R (t_X11_isLone_b58 C R) (t_X11_isLone_b66 C R) m _ _ _ _ _ h
abbrev rm_X11_shrink : Room := { frames := 2, cells := 0, slots := 0, locals := 47 }
theorem mf_X11_shrink : MfB yX11_shrink cX11_shrink 9 (some .boolean) 1 := ⟨wd_1361, wd_13, by decide, by decide, by decide +kernel⟩
def X11_shrink_l103 (Q : Int → Wd → Prop) (e198 : Int → Int → Int → Wd → Prop) : Nat → Int → Int → Int → Int → Int → Int → Int → Wd → Prop
  | 0 => fun _ _ _ _ _ _ _ _ => False
  | n + 1 => fun x1 x2 x3 x4 x5 x6 x7 w => ((wr x4 ≤ wr x7 → e198 x1 x2 x3 w) ∧ (¬ wr x4 ≤ wr x7 → (¬ wr x4 = 0 ∧ (ix ((38 + (10 * x3)) + (irm (x6 + x7) x4)) 98 ∧ (∀ y13, y13 = (rd w 73 ((38 + (10 * x3)) + (irm (x6 + x7) x4))) → X11_inserts 73 x2 (x5 + x7) y13 w (fun w14 => (ix (2 + (2 * y13)) 98 ∧ ((wr (rd w14 73 (2 + (2 * y13))) = wr x3 → (ix (2 + (2 * y13)) 98 ∧ (∀ w16, w16 = wt w14 73 (2 + (2 * y13)) x2 → (X11_shrink_l103 Q e198 n) x1 x2 x3 x4 x5 x6 (x7 + 1) w16))) ∧ (¬ wr (rd w14 73 (2 + (2 * y13))) = wr x3 → (ix ((2 + (2 * y13)) + 1) 98 ∧ (∀ w15, w15 = wt w14 73 ((2 + (2 * y13)) + 1) x2 → (X11_shrink_l103 Q e198 n) x1 x2 x3 x4 x5 x6 (x7 + 1) w15)))))))))))
theorem t_X11_shrink_l103 {Z : Zw} {E : Amb} {Q : Int → Wd → Prop} {e198 : Int → Int → Int → Wd → Prop} (C : Cx Z (adA Z) E cX11_shrink "HandleFacesModel" 9 rm_X11_shrink) (R : Rt Z E (some .boolean) (qI Z Q)) (he198 : ∀ (x1 : Int) (x2 : Int) (x3 : Int) (w : Wd), e198 x1 x2 x3 w → V Z (adA Z) E 9 w 198 [(0, rv Z 65), (1, iv x1), (2, iv x2), (3, iv x3)] []) : ∀ (n : Nat) (x1 : Int) (x2 : Int) (x3 : Int) (x4 : Int) (x5 : Int) (x6 : Int) (x7 : Int) (w : Wd), X11_shrink_l103 Q e198 n x1 x2 x3 x4 x5 x6 x7 w → V Z (adA Z) E 9 w 103 [(0, rv Z 65), (1, iv x1), (2, iv x2), (3, iv x3), (4, iv x4), (5, iv x5), (6, iv x6), (7, iv x7)] [] := by
  intro n
  induction n with
  | zero => intro x1 x2 x3 x4 x5 x6 x7 w h; exact h.elim
  | succ n ih =>
    intro x1 x2 x3 x4 x5 x6 x7 w h
    unfold X11_shrink_l103 at h
    refine v_iload C dX11_shrink_103 7 rfl ?_
    refine v_iload C dX11_shrink_105 4 rfl ?_
    refine v_icmp_ge C 198 dX11_shrink_107 (by decide) (fun q => ?_) (fun q => ?_)
    · have h := h.1 q
      refine v_sub [0, 1, 2, 3] rfl ?_
      exact he198 _ _ _ _ h
    · have h := h.2 q
      refine v_aload_n C dX11_shrink_110 0 rfl ?_
      refine g_X11_now C wd_1087 dX11_shrink_111 ?_
      refine v_bipush C dX11_shrink_114 (by decide) ?_
      refine v_bipush C dX11_shrink_116 (by decide) ?_
      refine v_iload_n C dX11_shrink_118 3 rfl ?_
      refine v_imul C dX11_shrink_119 ?_
      refine v_iadd C dX11_shrink_120 ?_
      refine v_iload C dX11_shrink_121 6 rfl ?_
      refine v_iload C dX11_shrink_123 7 rfl ?_
      refine v_iadd C dX11_shrink_125 ?_
      refine v_iload C dX11_shrink_126 4 rfl ?_
      refine v_irem C dX11_shrink_128 h.1 ?_
      have h := h.2
      refine v_iadd C dX11_shrink_129 ?_
      refine v_iald C rfl h.1 dX11_shrink_130 ?_
      have h := h.2
      refine v_istore C [(8, _), (0, _), (1, _), (2, _), (3, _), (4, _), (5, _), (6, _), (7, _)] dX11_shrink_131 (by decide) rfl ?_
      have h := h _ rfl
      refine v_aload_n C dX11_shrink_133 1 rfl ?_
      refine g_X11_now C wd_1087 dX11_shrink_134 ?_
      refine v_iload_n C dX11_shrink_137 3 rfl ?_
      refine v_iload C dX11_shrink_138 6 rfl ?_
      refine v_iload C dX11_shrink_140 8 rfl ?_
      refine v_iadd C dX11_shrink_142 ?_
      refine v_iload C dX11_shrink_143 0 rfl ?_
      refine v_callv C (rn_S C _ (m_X11_inserts rfl h) mf_X11_inserts wd_1321 wd_1320 rfl rfl ⟨(Nat.le_of_ble_eq_true rfl), (Nat.le_of_ble_eq_true rfl)⟩ rfl rfl (Nat.le_of_ble_eq_true rfl) dX11_shrink_145) (fun w h => ?_)
      refine v_aload_n C dX11_shrink_148 1 rfl ?_
      refine g_X11_now C wd_1087 dX11_shrink_149 ?_
      refine v_iconst C dX11_shrink_152 ?_
      refine v_iconst C dX11_shrink_153 ?_
      refine v_iload C dX11_shrink_154 0 rfl ?_
      refine v_imul C dX11_shrink_156 ?_
      refine v_iadd C dX11_shrink_157 ?_
      refine v_iald C rfl h.1 dX11_shrink_158 ?_
      have h := h.2
      refine v_iload_n C dX11_shrink_159 4 rfl ?_
      refine v_icmp_ne C 178 dX11_shrink_160 (by decide) (fun q => ?_) (fun q => ?_)
      · have h := h.2 q
        refine v_aload_n C dX11_shrink_178 1 rfl ?_
        refine g_X11_now C wd_1087 dX11_shrink_179 ?_
        refine v_iconst C dX11_shrink_182 ?_
        refine v_iconst C dX11_shrink_183 ?_
        refine v_iload C dX11_shrink_184 0 rfl ?_
        refine v_imul C dX11_shrink_186 ?_
        refine v_iadd C dX11_shrink_187 ?_
        refine v_iconst C dX11_shrink_188 ?_
        refine v_iadd C dX11_shrink_189 ?_
        refine v_iload_n C dX11_shrink_190 3 rfl ?_
        refine v_iast C rfl h.1 dX11_shrink_191 ?_
        have h := h.2
        have h := h _ rfl
        refine v_iinc C [(7, _), (8, _), (0, _), (1, _), (2, _), (3, _), (4, _), (5, _), (6, _)] dX11_shrink_192 8 rfl (by decide) rfl ?_
        refine v_goto C 103 dX11_shrink_195 (by decide) ?_
        refine v_sub [2, 3, 4, 5, 6, 7, 8, 0] rfl ?_
        exact ih _ _ _ _ _ _ _ _ h
      · have h := h.1 q
        refine v_aload_n C dX11_shrink_163 1 rfl ?_
        refine g_X11_now C wd_1087 dX11_shrink_164 ?_
        refine v_iconst C dX11_shrink_167 ?_
        refine v_iconst C dX11_shrink_168 ?_
        refine v_iload C dX11_shrink_169 0 rfl ?_
        refine v_imul C dX11_shrink_171 ?_
        refine v_iadd C dX11_shrink_172 ?_
        refine v_iload_n C dX11_shrink_173 3 rfl ?_
        refine v_iast C rfl h.1 dX11_shrink_174 ?_
        have h := h.2
        have h := h _ rfl
        refine v_goto C 192 dX11_shrink_175 (by decide) ?_
        refine v_iinc C [(7, _), (8, _), (0, _), (1, _), (2, _), (3, _), (4, _), (5, _), (6, _)] dX11_shrink_192 8 rfl (by decide) rfl ?_
        refine v_goto C 103 dX11_shrink_195 (by decide) ?_
        refine v_sub [2, 3, 4, 5, 6, 7, 8, 0] rfl ?_
        exact ih _ _ _ _ _ _ _ _ h
def X11_shrink_l266 (Q : Int → Wd → Prop) (e314 : Int → Int → Wd → Prop) : Nat → Int → Int → Int → Wd → Prop
  | 0 => fun _ _ _ _ => False
  | n + 1 => fun x3 x7 x8 w => ((wr 10 ≤ wr x8 → e314 x3 x7 w) ∧ (¬ wr 10 ≤ wr x8 → (ix (((38 + (10 * x7)) + 10) + x8) 98 ∧ (ix ((38 + (10 * x7)) + x8) 98 ∧ (∀ w21, w21 = wt w 73 ((38 + (10 * x7)) + x8) (rd w 73 (((38 + (10 * x7)) + 10) + x8)) → (X11_shrink_l266 Q e314 n) x3 x7 (x8 + 1) w21)))))
theorem t_X11_shrink_l266 {Z : Zw} {E : Amb} {Q : Int → Wd → Prop} {e314 : Int → Int → Wd → Prop} (C : Cx Z (adA Z) E cX11_shrink "HandleFacesModel" 9 rm_X11_shrink) (R : Rt Z E (some .boolean) (qI Z Q)) (he314 : ∀ (x3 : Int) (x7 : Int) (w : Wd), e314 x3 x7 w → V Z (adA Z) E 9 w 314 [(0, rv Z 65), (3, iv x3), (7, iv x7)] []) : ∀ (n : Nat) (x3 : Int) (x7 : Int) (x8 : Int) (w : Wd), X11_shrink_l266 Q e314 n x3 x7 x8 w → V Z (adA Z) E 9 w 266 [(0, rv Z 65), (3, iv x3), (7, iv x7), (8, iv x8)] [] := by
  intro n
  induction n with
  | zero => intro x3 x7 x8 w h; exact h.elim
  | succ n ih =>
    intro x3 x7 x8 w h
    unfold X11_shrink_l266 at h
    refine v_iload C dX11_shrink_266 3 rfl ?_
    refine v_bipush C dX11_shrink_268 (by decide) ?_
    refine v_icmp_ge C 314 dX11_shrink_270 (by decide) (fun q => ?_) (fun q => ?_)
    · have h := h.1 q
      refine v_sub [0, 1, 2] rfl ?_
      exact he314 _ _ _ h
    · have h := h.2 q
      refine v_aload_n C dX11_shrink_273 0 rfl ?_
      refine g_X11_now C wd_1087 dX11_shrink_274 ?_
      refine v_bipush C dX11_shrink_277 (by decide) ?_
      refine v_bipush C dX11_shrink_279 (by decide) ?_
      refine v_iload C dX11_shrink_281 2 rfl ?_
      refine v_imul C dX11_shrink_283 ?_
      refine v_iadd C dX11_shrink_284 ?_
      refine v_iload C dX11_shrink_285 3 rfl ?_
      refine v_iadd C dX11_shrink_287 ?_
      refine v_aload_n C dX11_shrink_288 0 rfl ?_
      refine g_X11_now C wd_1087 dX11_shrink_289 ?_
      refine v_bipush C dX11_shrink_292 (by decide) ?_
      refine v_bipush C dX11_shrink_294 (by decide) ?_
      refine v_iload C dX11_shrink_296 2 rfl ?_
      refine v_imul C dX11_shrink_298 ?_
      refine v_iadd C dX11_shrink_299 ?_
      refine v_bipush C dX11_shrink_300 (by decide) ?_
      refine v_iadd C dX11_shrink_302 ?_
      refine v_iload C dX11_shrink_303 3 rfl ?_
      refine v_iadd C dX11_shrink_305 ?_
      refine v_iald C rfl h.1 dX11_shrink_306 ?_
      have h := h.2
      refine v_iast C rfl h.1 dX11_shrink_307 ?_
      have h := h.2
      have h := h _ rfl
      refine v_iinc C [(8, _), (0, _), (3, _), (7, _)] dX11_shrink_308 3 rfl (by decide) rfl ?_
      refine v_goto C 266 dX11_shrink_311 (by decide) ?_
      refine v_sub [1, 2, 3, 0] rfl ?_
      exact ih _ _ _ _ h
def X11_shrink_b314 (Q : Int → Wd → Prop) (c228 : Int → Int → Wd → Prop) (e320 : Int → Wd → Prop) (x3 : Int) (x7 : Int) (w : Wd) : Prop := c228 x3 (x7 + 1) w
theorem t_X11_shrink_b314 {Z : Zw} {E : Amb} {Q : Int → Wd → Prop} {c228 : Int → Int → Wd → Prop} {e320 : Int → Wd → Prop} (C : Cx Z (adA Z) E cX11_shrink "HandleFacesModel" 9 rm_X11_shrink) (R : Rt Z E (some .boolean) (qI Z Q)) (hc228 : ∀ (x3 : Int) (x7 : Int) (w : Wd), c228 x3 x7 w → V Z (adA Z) E 9 w 228 [(0, rv Z 65), (3, iv x3), (7, iv x7)] []) (he320 : ∀ (x3 : Int) (w : Wd), e320 x3 w → V Z (adA Z) E 9 w 320 [(0, rv Z 65), (3, iv x3)] []) : ∀ (x3 : Int) (x7 : Int) (w : Wd), X11_shrink_b314 Q c228 e320 x3 x7 w → V Z (adA Z) E 9 w 314 [(0, rv Z 65), (3, iv x3), (7, iv x7)] [] := by
  intro x3 x7 w h
  unfold X11_shrink_b314 at h
  refine v_iinc C [(7, _), (0, _), (3, _)] dX11_shrink_314 2 rfl (by decide) rfl ?_
  refine v_goto C 228 dX11_shrink_317 (by decide) ?_
  refine v_sub [1, 2, 0] rfl ?_
  exact hc228 _ _ _ h
def X11_shrink_l228 (Q : Int → Wd → Prop) (e320 : Int → Wd → Prop) : Nat → Int → Int → Wd → Prop
  | 0 => fun _ _ _ => False
  | n + 1 => fun x3 x7 w => (ix 0 98 ∧ ((wr (rd w 73 0) ≤ wr (x7 + 1) → e320 x3 w) ∧ (¬ wr (rd w 73 0) ≤ wr (x7 + 1) → (ix ((32 + x7) + 1) 98 ∧ (ix (32 + x7) 98 ∧ (∀ w20, w20 = wt w 73 (32 + x7) (rd w 73 ((32 + x7) + 1)) → (∃ m, X11_shrink_l266 Q (X11_shrink_b314 Q (X11_shrink_l228 Q e320 n) e320) m x3 x7 0 w20)))))))
theorem t_X11_shrink_l228 {Z : Zw} {E : Amb} {Q : Int → Wd → Prop} {e320 : Int → Wd → Prop} (C : Cx Z (adA Z) E cX11_shrink "HandleFacesModel" 9 rm_X11_shrink) (R : Rt Z E (some .boolean) (qI Z Q)) (he320 : ∀ (x3 : Int) (w : Wd), e320 x3 w → V Z (adA Z) E 9 w 320 [(0, rv Z 65), (3, iv x3)] []) : ∀ (n : Nat) (x3 : Int) (x7 : Int) (w : Wd), X11_shrink_l228 Q e320 n x3 x7 w → V Z (adA Z) E 9 w 228 [(0, rv Z 65), (3, iv x3), (7, iv x7)] [] := by
  intro n
  induction n with
  | zero => intro x3 x7 w h; exact h.elim
  | succ n ih =>
    intro x3 x7 w h
    unfold X11_shrink_l228 at h
    refine v_iload C dX11_shrink_228 2 rfl ?_
    refine v_iconst C dX11_shrink_230 ?_
    refine v_iadd C dX11_shrink_231 ?_
    refine v_aload_n C dX11_shrink_232 0 rfl ?_
    refine g_X11_now C wd_1087 dX11_shrink_233 ?_
    refine v_iconst C dX11_shrink_236 ?_
    refine v_iald C rfl h.1 dX11_shrink_237 ?_
    have h := h.2
    refine v_icmp_ge C 320 dX11_shrink_238 (by decide) (fun q => ?_) (fun q => ?_)
    · have h := h.1 q
      refine v_sub [0, 1] rfl ?_
      exact he320 _ _ h
    · have h := h.2 q
      refine v_aload_n C dX11_shrink_241 0 rfl ?_
      refine g_X11_now C wd_1087 dX11_shrink_242 ?_
      refine v_bipush C dX11_shrink_245 (by decide) ?_
      refine v_iload C dX11_shrink_247 2 rfl ?_
      refine v_iadd C dX11_shrink_249 ?_
      refine v_aload_n C dX11_shrink_250 0 rfl ?_
      refine g_X11_now C wd_1087 dX11_shrink_251 ?_
      refine v_bipush C dX11_shrink_254 (by decide) ?_
      refine v_iload C dX11_shrink_256 2 rfl ?_
      refine v_iadd C dX11_shrink_258 ?_
      refine v_iconst C dX11_shrink_259 ?_
      refine v_iadd C dX11_shrink_260 ?_
      refine v_iald C rfl h.1 dX11_shrink_261 ?_
      have h := h.2
      refine v_iast C rfl h.1 dX11_shrink_262 ?_
      have h := h.2
      have h := h _ rfl
      refine v_iconst C dX11_shrink_263 ?_
      refine v_istore C [(8, _), (0, _), (3, _), (7, _)] dX11_shrink_264 (by decide) rfl ?_
      refine v_sub [1, 2, 3, 0] rfl ?_
      obtain ⟨m, h⟩ := h
      exact t_X11_shrink_l266 C R (t_X11_shrink_b314 C R ih he320) m _ _ _ _ h
def X11_shrink_l348 (Q : Int → Wd → Prop) (e391 : Wd → Prop) : Nat → Int → Int → Wd → Prop
  | 0 => fun _ _ _ => False
  | n + 1 => fun x3 x7 w => (ix 1 98 ∧ ((wr (2 + (2 * (rd w 73 1))) ≤ wr x7 → e391 w) ∧ (¬ wr (2 + (2 * (rd w 73 1))) ≤ wr x7 → (ix x7 98 ∧ ((wr (rd w 73 x7) ≤ wr x3 → (X11_shrink_l348 Q e391 n) x3 (x7 + 1) w) ∧ (¬ wr (rd w 73 x7) ≤ wr x3 → (ix x7 98 ∧ (ix x7 98 ∧ (∀ w24, w24 = wt w 73 x7 ((rd w 73 x7) - 1) → (X11_shrink_l348 Q e391 n) x3 (x7 + 1) w24)))))))))
theorem t_X11_shrink_l348 {Z : Zw} {E : Amb} {Q : Int → Wd → Prop} {e391 : Wd → Prop} (C : Cx Z (adA Z) E cX11_shrink "HandleFacesModel" 9 rm_X11_shrink) (R : Rt Z E (some .boolean) (qI Z Q)) (he391 : ∀ (w : Wd), e391 w → V Z (adA Z) E 9 w 391 [] []) : ∀ (n : Nat) (x3 : Int) (x7 : Int) (w : Wd), X11_shrink_l348 Q e391 n x3 x7 w → V Z (adA Z) E 9 w 348 [(0, rv Z 65), (3, iv x3), (7, iv x7)] [] := by
  intro n
  induction n with
  | zero => intro x3 x7 w h; exact h.elim
  | succ n ih =>
    intro x3 x7 w h
    unfold X11_shrink_l348 at h
    refine v_iload C dX11_shrink_348 2 rfl ?_
    refine v_iconst C dX11_shrink_350 ?_
    refine v_iconst C dX11_shrink_351 ?_
    refine v_aload_n C dX11_shrink_352 0 rfl ?_
    refine g_X11_now C wd_1087 dX11_shrink_353 ?_
    refine v_iconst C dX11_shrink_356 ?_
    refine v_iald C rfl h.1 dX11_shrink_357 ?_
    have h := h.2
    refine v_imul C dX11_shrink_358 ?_
    refine v_iadd C dX11_shrink_359 ?_
    refine v_icmp_ge C 391 dX11_shrink_360 (by decide) (fun q => ?_) (fun q => ?_)
    · have h := h.1 q
      refine v_sub [] rfl ?_
      exact he391 _ h
    · have h := h.2 q
      refine v_aload_n C dX11_shrink_363 0 rfl ?_
      refine g_X11_now C wd_1087 dX11_shrink_364 ?_
      refine v_iload C dX11_shrink_367 2 rfl ?_
      refine v_iald C rfl h.1 dX11_shrink_369 ?_
      have h := h.2
      refine v_iload_n C dX11_shrink_370 1 rfl ?_
      refine v_icmp_le C 385 dX11_shrink_371 (by decide) (fun q => ?_) (fun q => ?_)
      · have h := h.1 q
        refine v_iinc C [(7, _), (0, _), (3, _)] dX11_shrink_385 2 rfl (by decide) rfl ?_
        refine v_goto C 348 dX11_shrink_388 (by decide) ?_
        refine v_sub [1, 2, 0] rfl ?_
        exact ih _ _ _ h
      · have h := h.2 q
        refine v_aload_n C dX11_shrink_374 0 rfl ?_
        refine g_X11_now C wd_1087 dX11_shrink_375 ?_
        refine v_iload C dX11_shrink_378 2 rfl ?_
        refine v_dup2 C dX11_shrink_380 rfl rfl ?_
        refine v_iald C rfl h.1 dX11_shrink_381 ?_
        have h := h.2
        refine v_iconst C dX11_shrink_382 ?_
        refine v_isub C dX11_shrink_383 ?_
        refine v_iast C rfl h.1 dX11_shrink_384 ?_
        have h := h.2
        have h := h _ rfl
        refine v_iinc C [(7, _), (0, _), (3, _)] dX11_shrink_385 2 rfl (by decide) rfl ?_
        refine v_goto C 348 dX11_shrink_388 (by decide) ?_
        refine v_sub [1, 2, 0] rfl ?_
        exact ih _ _ _ h
def X11_shrink_b391 (Q : Int → Wd → Prop) (w : Wd) : Prop := Q 1 w
theorem t_X11_shrink_b391 {Z : Zw} {E : Amb} {Q : Int → Wd → Prop} (C : Cx Z (adA Z) E cX11_shrink "HandleFacesModel" 9 rm_X11_shrink) (R : Rt Z E (some .boolean) (qI Z Q)) : ∀ (w : Wd), X11_shrink_b391 Q w → V Z (adA Z) E 9 w 391 [] [] := by
  intro w h
  unfold X11_shrink_b391 at h
  refine v_iconst C dX11_shrink_391 ?_
  exact v_zret C R (Or.inr rfl) h dX11_shrink_392
def X11_shrink_b320 (Q : Int → Wd → Prop) (x3 : Int) (w : Wd) : Prop := (ix 0 98 ∧ (ix 0 98 ∧ (∀ w22, w22 = wt w 73 0 ((rd w 73 0) - 1) → (ix 0 98 ∧ (ix (32 + (rd w22 73 0)) 98 ∧ (∀ w23, w23 = wt w22 73 (32 + (rd w22 73 0)) 0 → (∃ m, X11_shrink_l348 Q (X11_shrink_b391 Q) m x3 2 w23)))))))
theorem t_X11_shrink_b320 {Z : Zw} {E : Amb} {Q : Int → Wd → Prop} (C : Cx Z (adA Z) E cX11_shrink "HandleFacesModel" 9 rm_X11_shrink) (R : Rt Z E (some .boolean) (qI Z Q)) : ∀ (x3 : Int) (w : Wd), X11_shrink_b320 Q x3 w → V Z (adA Z) E 9 w 320 [(0, rv Z 65), (3, iv x3)] [] := by
  intro x3 w h
  unfold X11_shrink_b320 at h
  refine v_aload_n C dX11_shrink_320 0 rfl ?_
  refine g_X11_now C wd_1087 dX11_shrink_321 ?_
  refine v_iconst C dX11_shrink_324 ?_
  refine v_dup2 C dX11_shrink_325 rfl rfl ?_
  refine v_iald C rfl h.1 dX11_shrink_326 ?_
  have h := h.2
  refine v_iconst C dX11_shrink_327 ?_
  refine v_isub C dX11_shrink_328 ?_
  refine v_iast C rfl h.1 dX11_shrink_329 ?_
  have h := h.2
  have h := h _ rfl
  refine v_aload_n C dX11_shrink_330 0 rfl ?_
  refine g_X11_now C wd_1087 dX11_shrink_331 ?_
  refine v_bipush C dX11_shrink_334 (by decide) ?_
  refine v_aload_n C dX11_shrink_336 0 rfl ?_
  refine g_X11_now C wd_1087 dX11_shrink_337 ?_
  refine v_iconst C dX11_shrink_340 ?_
  refine v_iald C rfl h.1 dX11_shrink_341 ?_
  have h := h.2
  refine v_iadd C dX11_shrink_342 ?_
  refine v_iconst C dX11_shrink_343 ?_
  refine v_iast C rfl h.1 dX11_shrink_344 ?_
  have h := h.2
  have h := h _ rfl
  refine v_iconst C dX11_shrink_345 ?_
  refine v_istore C [(7, _), (0, _), (3, _)] dX11_shrink_346 (by decide) rfl ?_
  refine v_sub [1, 2, 0] rfl ?_
  obtain ⟨m, h⟩ := h
  exact t_X11_shrink_l348 C R (t_X11_shrink_b391 C R) m _ _ _ h
def X11_shrink_b198 (Q : Int → Wd → Prop) (x1 : Int) (x2 : Int) (x3 : Int) (w : Wd) : Prop := X11_drops 73 x2 x1 w (fun w17 => (ix (32 + x3) 98 ∧ (∀ w18, w18 = wt w17 73 (32 + x3) 0 → X11_closesUp 73 x1 w18 (fun w19 => (∃ m, X11_shrink_l228 Q (X11_shrink_b320 Q) m x3 x3 w19)))))
theorem t_X11_shrink_b198 {Z : Zw} {E : Amb} {Q : Int → Wd → Prop} (C : Cx Z (adA Z) E cX11_shrink "HandleFacesModel" 9 rm_X11_shrink) (R : Rt Z E (some .boolean) (qI Z Q)) : ∀ (x1 : Int) (x2 : Int) (x3 : Int) (w : Wd), X11_shrink_b198 Q x1 x2 x3 w → V Z (adA Z) E 9 w 198 [(0, rv Z 65), (1, iv x1), (2, iv x2), (3, iv x3)] [] := by
  intro x1 x2 x3 w h
  unfold X11_shrink_b198 at h
  refine v_aload_n C dX11_shrink_198 0 rfl ?_
  refine g_X11_now C wd_1087 dX11_shrink_199 ?_
  refine v_iload_n C dX11_shrink_202 2 rfl ?_
  refine v_iload_n C dX11_shrink_203 1 rfl ?_
  refine v_callv C (rn_S C _ (m_X11_drops rfl h) mf_X11_drops wd_1335 wd_1334 rfl rfl ⟨(Nat.le_of_ble_eq_true rfl), (Nat.le_of_ble_eq_true rfl)⟩ rfl rfl (Nat.le_of_ble_eq_true rfl) dX11_shrink_204) (fun w h => ?_)
  refine v_aload_n C dX11_shrink_207 0 rfl ?_
  refine g_X11_now C wd_1087 dX11_shrink_208 ?_
  refine v_bipush C dX11_shrink_211 (by decide) ?_
  refine v_iload_n C dX11_shrink_213 3 rfl ?_
  refine v_iadd C dX11_shrink_214 ?_
  refine v_iconst C dX11_shrink_215 ?_
  refine v_iast C rfl h.1 dX11_shrink_216 ?_
  have h := h.2
  have h := h _ rfl
  refine v_aload_n C dX11_shrink_217 0 rfl ?_
  refine g_X11_now C wd_1087 dX11_shrink_218 ?_
  refine v_iload_n C dX11_shrink_221 1 rfl ?_
  refine v_callv C (rn_S C _ (m_X11_closesUp rfl h) mf_X11_closesUp wd_1341 wd_1340 rfl rfl ⟨(Nat.le_of_ble_eq_true rfl), (Nat.le_of_ble_eq_true rfl)⟩ rfl rfl (Nat.le_of_ble_eq_true rfl) dX11_shrink_222) (fun w h => ?_)
  refine v_iload_n C dX11_shrink_225 3 rfl ?_
  refine v_istore C [(7, _), (0, _), (1, _), (2, _), (3, _)] dX11_shrink_226 (by decide) rfl ?_
  refine v_sub [1, 4, 0] rfl ?_
  obtain ⟨m, h⟩ := h
  exact t_X11_shrink_l228 C R (t_X11_shrink_b320 C R) m _ _ _ h
def X11_shrink_b67 (Q : Int → Wd → Prop) (x1 : Int) (x2 : Int) (x3 : Int) (w : Wd) : Prop := (ix (32 + x3) 98 ∧ (∀ y8, y8 = (rd w 73 (32 + x3)) → X11_placeIn 73 x2 x1 w (fun y10 w9 => X11_placeIn 73 x3 x1 w9 (fun y12 w11 => (∃ m, X11_shrink_l103 Q (X11_shrink_b198 Q) m x1 x2 x3 y8 y10 y12 1 w11)))))
theorem t_X11_shrink_b67 {Z : Zw} {E : Amb} {Q : Int → Wd → Prop} (C : Cx Z (adA Z) E cX11_shrink "HandleFacesModel" 9 rm_X11_shrink) (R : Rt Z E (some .boolean) (qI Z Q)) : ∀ (x1 : Int) (x2 : Int) (x3 : Int) (w : Wd), X11_shrink_b67 Q x1 x2 x3 w → V Z (adA Z) E 9 w 67 [(0, rv Z 65), (1, iv x1), (2, iv x2), (3, iv x3)] [] := by
  intro x1 x2 x3 w h
  unfold X11_shrink_b67 at h
  refine v_aload_n C dX11_shrink_67 0 rfl ?_
  refine g_X11_now C wd_1087 dX11_shrink_68 ?_
  refine v_bipush C dX11_shrink_71 (by decide) ?_
  refine v_iload_n C dX11_shrink_73 3 rfl ?_
  refine v_iadd C dX11_shrink_74 ?_
  refine v_iald C rfl h.1 dX11_shrink_75 ?_
  have h := h.2
  refine v_istore C [(4, _), (0, _), (1, _), (2, _), (3, _)] dX11_shrink_76 (by decide) rfl ?_
  have h := h _ rfl
  refine v_aload_n C dX11_shrink_78 1 rfl ?_
  refine g_X11_now C wd_1087 dX11_shrink_79 ?_
  refine v_iload_n C dX11_shrink_82 3 rfl ?_
  refine v_iload_n C dX11_shrink_83 2 rfl ?_
  refine v_calli C (rn_S C _ (m_X11_placeIn rfl h) mf_X11_placeIn wd_1338 wd_1337 rfl rfl ⟨(Nat.le_of_ble_eq_true rfl), (Nat.le_of_ble_eq_true rfl)⟩ rfl rfl (Nat.le_of_ble_eq_true rfl) dX11_shrink_84) (fun r w h => ?_)
  refine v_istore C [(5, _), (4, _), (0, _), (1, _), (2, _), (3, _)] dX11_shrink_87 (by decide) rfl ?_
  refine v_aload_n C dX11_shrink_89 2 rfl ?_
  refine g_X11_now C wd_1087 dX11_shrink_90 ?_
  refine v_iload_n C dX11_shrink_93 5 rfl ?_
  refine v_iload_n C dX11_shrink_94 3 rfl ?_
  refine v_calli C (rn_S C _ (m_X11_placeIn rfl h) mf_X11_placeIn wd_1338 wd_1337 rfl rfl ⟨(Nat.le_of_ble_eq_true rfl), (Nat.le_of_ble_eq_true rfl)⟩ rfl rfl (Nat.le_of_ble_eq_true rfl) dX11_shrink_95) (fun r w h => ?_)
  refine v_istore C [(6, _), (5, _), (4, _), (0, _), (1, _), (2, _), (3, _)] dX11_shrink_98 (by decide) rfl ?_
  refine v_iconst C dX11_shrink_100 ?_
  refine v_istore C [(7, _), (6, _), (5, _), (4, _), (0, _), (1, _), (2, _), (3, _)] dX11_shrink_101 (by decide) rfl ?_
  refine v_sub [4, 5, 6, 7, 3, 2, 1, 0] rfl ?_
  obtain ⟨m, h⟩ := h
  exact t_X11_shrink_l103 C R (t_X11_shrink_b198 C R) m _ _ _ _ _ _ _ _ h
def X11_shrink (x1 : Int) (w : Wd) (Q : Int → Wd → Prop) : Prop := X11_isLine x1 w (fun y2 w1 => ((wr y2 = 0 → Q 0 w1) ∧ (¬ wr y2 = 0 → X11_isLone x1 w1 (fun y4 w3 => ((wr y4 = 0 → Q 0 w3) ∧ (¬ wr y4 = 0 → X11_marks w3 (fun w5 => (ix (2 + (2 * x1)) 98 ∧ (∀ y6, y6 = (rd w5 73 (2 + (2 * x1))) → (ix ((2 + (2 * x1)) + 1) 98 ∧ (∀ y7, y7 = (rd w5 73 ((2 + (2 * x1)) + 1)) → (ix (22 + x1) 98 ∧ ((wr (rd w5 73 (22 + x1)) = wr 1 → X11_turnsOver 73 y7 w5 (fun w25 => X11_shrink_b67 Q x1 y6 y7 w25)) ∧ (¬ wr (rd w5 73 (22 + x1)) = wr 1 → X11_shrink_b67 Q x1 y6 y7 w5))))))))))))))
theorem m_X11_shrink {Z : Zw} {l : Launch} {x1 : Int} {w : Wd} {Q : Int → Wd → Prop} (h : X11_shrink x1 w Q) : CtQ Z l yX11_shrink cX11_shrink 9 (some .boolean) rm_X11_shrink [rv Z 65, iv x1] w (qI Z Q) := by
  refine ct_of (by decide) (Nat.le_of_ble_eq_true rfl) (fun E eE C R => ?_)
  subst eE
  have C : Cx Z (adA Z) E cX11_shrink "HandleFacesModel" 9 rm_X11_shrink := C
  unfold X11_shrink at h
  show V Z (adA Z) E 9 w 0 [(0, rv Z 65), (1, iv x1)] []
  refine v_aload_n C dX11_shrink_0 0 rfl ?_
  refine v_iload_n C dX11_shrink_1 1 rfl ?_
  refine v_calli C (rn_V C _ (m_X11_isLine h) mf_X11_isLine wd_1329 wp_60 wd_1327 rfl rfl ⟨(Nat.le_of_ble_eq_true rfl), (Nat.le_of_ble_eq_true rfl)⟩ rfl rfl rfl rfl (Nat.le_of_ble_eq_true rfl) dX11_shrink_2) (fun r w h => ?_)
  refine v_if_eq C 16 dX11_shrink_5 (by decide) (fun q => ?_) (fun q => ?_)
  · have h := h.1 q
    refine v_iconst C dX11_shrink_16 ?_
    exact v_zret C R (Or.inl rfl) h dX11_shrink_17
  · have h := h.2 q
    refine v_aload_n C dX11_shrink_8 0 rfl ?_
    refine v_iload_n C dX11_shrink_9 1 rfl ?_
    refine v_calli C (rn_V C _ (m_X11_isLone h) mf_X11_isLone wd_1364 wp_61 wd_1362 rfl rfl ⟨(Nat.le_of_ble_eq_true rfl), (Nat.le_of_ble_eq_true rfl)⟩ rfl rfl rfl rfl (Nat.le_of_ble_eq_true rfl) dX11_shrink_10) (fun r w h => ?_)
    refine v_if_ne C 18 dX11_shrink_13 (by decide) (fun q => ?_) (fun q => ?_)
    · have h := h.2 q
      refine v_aload_n C dX11_shrink_18 0 rfl ?_
      refine v_callv C (rn_V C _ (m_X11_marks h) mf_X11_marks wd_1318 wp_59 wd_1316 rfl rfl ⟨(Nat.le_of_ble_eq_true rfl), (Nat.le_of_ble_eq_true rfl)⟩ rfl rfl rfl rfl (Nat.le_of_ble_eq_true rfl) dX11_shrink_19) (fun w h => ?_)
      refine v_aload_n C dX11_shrink_22 0 rfl ?_
      refine g_X11_now C wd_1087 dX11_shrink_23 ?_
      refine v_iconst C dX11_shrink_26 ?_
      refine v_iconst C dX11_shrink_27 ?_
      refine v_iload_n C dX11_shrink_28 1 rfl ?_
      refine v_imul C dX11_shrink_29 ?_
      refine v_iadd C dX11_shrink_30 ?_
      refine v_iald C rfl h.1 dX11_shrink_31 ?_
      have h := h.2
      refine v_istore_n C [(2, _), (0, _), (1, _)] dX11_shrink_32 2 rfl (by decide) rfl ?_
      have h := h _ rfl
      refine v_aload_n C dX11_shrink_33 1 rfl ?_
      refine g_X11_now C wd_1087 dX11_shrink_34 ?_
      refine v_iconst C dX11_shrink_37 ?_
      refine v_iconst C dX11_shrink_38 ?_
      refine v_iload_n C dX11_shrink_39 2 rfl ?_
      refine v_imul C dX11_shrink_40 ?_
      refine v_iadd C dX11_shrink_41 ?_
      refine v_iconst C dX11_shrink_42 ?_
      refine v_iadd C dX11_shrink_43 ?_
      refine v_iald C rfl h.1 dX11_shrink_44 ?_
      have h := h.2
      refine v_istore_n C [(3, _), (2, _), (0, _), (1, _)] dX11_shrink_45 3 rfl (by decide) rfl ?_
      have h := h _ rfl
      refine v_aload_n C dX11_shrink_46 2 rfl ?_
      refine g_X11_now C wd_1087 dX11_shrink_47 ?_
      refine v_bipush C dX11_shrink_50 (by decide) ?_
      refine v_iload_n C dX11_shrink_52 3 rfl ?_
      refine v_iadd C dX11_shrink_53 ?_
      refine v_iald C rfl h.1 dX11_shrink_54 ?_
      have h := h.2
      refine v_iconst C dX11_shrink_55 ?_
      refine v_icmp_ne C 67 dX11_shrink_56 (by decide) (fun q => ?_) (fun q => ?_)
      · have h := h.2 q
        refine v_sub [2, 3, 1, 0] rfl ?_
        exact t_X11_shrink_b67 C R _ _ _ _ h
      · have h := h.1 q
        refine v_aload_n C dX11_shrink_59 2 rfl ?_
        refine g_X11_now C wd_1087 dX11_shrink_60 ?_
        refine v_iload_n C dX11_shrink_63 0 rfl ?_
        refine v_callv C (rn_S C _ (m_X11_turnsOver rfl h) mf_X11_turnsOver wd_1352 wd_1351 rfl rfl ⟨(Nat.le_of_ble_eq_true rfl), (Nat.le_of_ble_eq_true rfl)⟩ rfl rfl (Nat.le_of_ble_eq_true rfl) dX11_shrink_64) (fun w h => ?_)
        refine v_sub [2, 3, 1, 0] rfl ?_
        exact t_X11_shrink_b67 C R _ _ _ _ h
    · have h := h.1 q
      refine v_iconst C dX11_shrink_16 ?_
      exact v_zret C R (Or.inl rfl) h dX11_shrink_17
abbrev rm_X11_mirrorOf : Room := { frames := 0, cells := 0, slots := 0, locals := 0 }
theorem mf_X11_mirrorOf : MfB yX11_mirrorOf cX11_mirrorOf 5 (some .int) 2 := ⟨wd_1379, wd_13, by decide, by decide, by decide +kernel⟩
def X11_mirrorOf_b43 (r0 : Nat) (Q : Int → Wd → Prop) (x2 : Int) (s0 : Int) (w : Wd) : Prop := ((wr s0 = 0 → Q (wr ((ixo x2 1) + 20)) w) ∧ (¬ wr s0 = 0 → Q (wr ((ixo x2 1) + 0)) w))
theorem t_X11_mirrorOf_b43 {Z : Zw} {E : Amb} {r0 : Nat} {Q : Int → Wd → Prop} (C : Cx Z (adA Z) E cX11_mirrorOf "HandleFacesModel" 5 rm_X11_mirrorOf) (R : Rt Z E (some .int) (qI Z Q)) (h0 : shp r0 = (1, 98, [])) : ∀ (x2 : Int) (s0 : Int) (w : Wd), X11_mirrorOf_b43 r0 Q x2 s0 w → V Z (adA Z) E 5 w 43 [(2, iv x2)] [iv s0] := by
  intro x2 s0 w h
  unfold X11_mirrorOf_b43 at h
  refine v_istore C [(4, _), (2, _)] dX11_mirrorOf_43 (by decide) rfl ?_
  refine v_iload_n C dX11_mirrorOf_45 1 rfl ?_
  refine v_iconst C dX11_mirrorOf_46 ?_
  refine v_ixor C dX11_mirrorOf_47 ?_
  refine v_iload C dX11_mirrorOf_48 0 rfl ?_
  refine v_if_eq C 57 dX11_mirrorOf_50 (by decide) (fun q => ?_) (fun q => ?_)
  · have h := h.1 q
    refine v_bipush C dX11_mirrorOf_57 (by decide) ?_
    refine v_iadd C dX11_mirrorOf_59 ?_
    exact v_iret C R h dX11_mirrorOf_60
  · have h := h.2 q
    refine v_iconst C dX11_mirrorOf_53 ?_
    refine v_goto C 59 dX11_mirrorOf_54 (by decide) ?_
    refine v_iadd C dX11_mirrorOf_59 ?_
    exact v_iret C R h dX11_mirrorOf_60
def X11_mirrorOf_b35 (r0 : Nat) (Q : Int → Wd → Prop) (x2 : Int) (s0 : Int) (s1 : Int) (w : Wd) : Prop := ((wr s1 = wr s0 → X11_mirrorOf_b43 r0 Q x2 0 w) ∧ (¬ wr s1 = wr s0 → X11_mirrorOf_b43 r0 Q x2 1 w))
theorem t_X11_mirrorOf_b35 {Z : Zw} {E : Amb} {r0 : Nat} {Q : Int → Wd → Prop} (C : Cx Z (adA Z) E cX11_mirrorOf "HandleFacesModel" 5 rm_X11_mirrorOf) (R : Rt Z E (some .int) (qI Z Q)) (h0 : shp r0 = (1, 98, [])) : ∀ (x2 : Int) (s0 : Int) (s1 : Int) (w : Wd), X11_mirrorOf_b35 r0 Q x2 s0 s1 w → V Z (adA Z) E 5 w 35 [(2, iv x2)] [iv s0, iv s1] := by
  intro x2 s0 s1 w h
  unfold X11_mirrorOf_b35 at h
  refine v_icmp_eq C 42 dX11_mirrorOf_35 (by decide) (fun q => ?_) (fun q => ?_)
  · have h := h.1 q
    refine v_iconst C dX11_mirrorOf_42 ?_
    exact t_X11_mirrorOf_b43 C R h0 _ _ _ h
  · have h := h.2 q
    refine v_iconst C dX11_mirrorOf_38 ?_
    refine v_goto C 43 dX11_mirrorOf_39 (by decide) ?_
    exact t_X11_mirrorOf_b43 C R h0 _ _ _ h
def X11_mirrorOf_b16 (r0 : Nat) (Q : Int → Wd → Prop) (x2 : Int) (s0 : Int) (w : Wd) : Prop := (ix (22 + (idv x2 2)) 98 ∧ ((wr (rd w r0 (22 + (idv x2 2))) = wr 1 → X11_mirrorOf_b35 r0 Q x2 1 s0 w) ∧ (¬ wr (rd w r0 (22 + (idv x2 2))) = wr 1 → X11_mirrorOf_b35 r0 Q x2 0 s0 w)))
theorem t_X11_mirrorOf_b16 {Z : Zw} {E : Amb} {r0 : Nat} {Q : Int → Wd → Prop} (C : Cx Z (adA Z) E cX11_mirrorOf "HandleFacesModel" 5 rm_X11_mirrorOf) (R : Rt Z E (some .int) (qI Z Q)) (h0 : shp r0 = (1, 98, [])) : ∀ (x2 : Int) (s0 : Int) (w : Wd), X11_mirrorOf_b16 r0 Q x2 s0 w → V Z (adA Z) E 5 w 16 [(0, rv Z r0), (2, iv x2)] [iv s0] := by
  intro x2 s0 w h
  unfold X11_mirrorOf_b16 at h
  refine v_istore_n C [(3, _), (0, _), (2, _)] dX11_mirrorOf_16 3 rfl (by decide) rfl ?_
  refine v_iload_n C dX11_mirrorOf_17 0 rfl ?_
  refine v_aload_n C dX11_mirrorOf_18 1 rfl ?_
  refine v_bipush C dX11_mirrorOf_19 (by decide) ?_
  refine v_iload_n C dX11_mirrorOf_21 2 rfl ?_
  refine v_iconst C dX11_mirrorOf_22 ?_
  refine v_idiv C dX11_mirrorOf_23 (by decide) ?_
  refine v_iadd C dX11_mirrorOf_24 ?_
  refine v_iald C h0 h.1 dX11_mirrorOf_25 ?_
  have h := h.2
  refine v_iconst C dX11_mirrorOf_26 ?_
  refine v_icmp_ne C 34 dX11_mirrorOf_27 (by decide) (fun q => ?_) (fun q => ?_)
  · have h := h.2 q
    refine v_iconst C dX11_mirrorOf_34 ?_
    refine v_sub [2] rfl ?_
    exact t_X11_mirrorOf_b35 C R h0 _ _ _ _ h
  · have h := h.1 q
    refine v_iconst C dX11_mirrorOf_30 ?_
    refine v_goto C 35 dX11_mirrorOf_31 (by decide) ?_
    refine v_sub [2] rfl ?_
    exact t_X11_mirrorOf_b35 C R h0 _ _ _ _ h
def X11_mirrorOf (r0 : Nat) (x1 : Int) (w : Wd) (Q : Int → Wd → Prop) : Prop := (∀ y1, y1 = (irm x1 20) → ((wr x1 < wr 20 → X11_mirrorOf_b16 r0 Q y1 0 w) ∧ (¬ wr x1 < wr 20 → X11_mirrorOf_b16 r0 Q y1 1 w)))
theorem m_X11_mirrorOf {Z : Zw} {l : Launch} {r0 : Nat} {x1 : Int} {w : Wd} {Q : Int → Wd → Prop} (h0 : shp r0 = (1, 98, [])) (h : X11_mirrorOf r0 x1 w Q) : CtQ Z l yX11_mirrorOf cX11_mirrorOf 5 (some .int) rm_X11_mirrorOf [rv Z r0, iv x1] w (qI Z Q) := by
  refine ct_of (by decide) (Nat.le_of_ble_eq_true rfl) (fun E eE C R => ?_)
  subst eE
  have C : Cx Z (adA Z) E cX11_mirrorOf "HandleFacesModel" 5 rm_X11_mirrorOf := C
  unfold X11_mirrorOf at h
  show V Z (adA Z) E 5 w 0 [(0, rv Z r0), (1, iv x1)] []
  refine v_iload_n C dX11_mirrorOf_0 1 rfl ?_
  refine v_bipush C dX11_mirrorOf_1 (by decide) ?_
  refine v_irem C dX11_mirrorOf_3 (by decide) ?_
  refine v_istore_n C [(2, _), (0, _), (1, _)] dX11_mirrorOf_4 2 rfl (by decide) rfl ?_
  have h := h _ rfl
  refine v_iload_n C dX11_mirrorOf_5 2 rfl ?_
  refine v_bipush C dX11_mirrorOf_6 (by decide) ?_
  refine v_icmp_lt C 15 dX11_mirrorOf_8 (by decide) (fun q => ?_) (fun q => ?_)
  · have h := h.1 q
    refine v_iconst C dX11_mirrorOf_15 ?_
    refine v_sub [1, 0] rfl ?_
    exact t_X11_mirrorOf_b16 C R h0 _ _ _ h
  · have h := h.2 q
    refine v_iconst C dX11_mirrorOf_11 ?_
    refine v_goto C 16 dX11_mirrorOf_12 (by decide) ?_
    refine v_sub [1, 0] rfl ?_
    exact t_X11_mirrorOf_b16 C R h0 _ _ _ h
abbrev rm_X11_nextOf : Room := { frames := 1, cells := 0, slots := 0, locals := 23 }
theorem mf_X11_nextOf : MfB yX11_nextOf cX11_nextOf 9 (some .int) 2 := ⟨wd_1382, wd_13, by decide, by decide, by decide +kernel⟩
def X11_nextOf_b126 (r0 : Nat) (Q : Int → Wd → Prop) (x4 : Int) (s0 : Int) (s1 : Int) (w : Wd) : Prop := ((wr x4 = 0 → Q (wr ((s1 + s0) + 0)) w) ∧ (¬ wr x4 = 0 → Q (wr ((s1 + s0) + 20)) w))
theorem t_X11_nextOf_b126 {Z : Zw} {E : Amb} {r0 : Nat} {Q : Int → Wd → Prop} (C : Cx Z (adA Z) E cX11_nextOf "HandleFacesModel" 9 rm_X11_nextOf) (R : Rt Z E (some .int) (qI Z Q)) (h0 : shp r0 = (1, 98, [])) : ∀ (x4 : Int) (s0 : Int) (s1 : Int) (w : Wd), X11_nextOf_b126 r0 Q x4 s0 s1 w → V Z (adA Z) E 9 w 126 [(4, iv x4)] [iv s0, iv s1] := by
  intro x4 s0 s1 w h
  unfold X11_nextOf_b126 at h
  refine v_iadd C dX11_nextOf_126 ?_
  refine v_iload C dX11_nextOf_127 0 rfl ?_
  refine v_if_eq C 137 dX11_nextOf_129 (by decide) (fun q => ?_) (fun q => ?_)
  · have h := h.1 q
    refine v_iconst C dX11_nextOf_137 ?_
    refine v_iadd C dX11_nextOf_138 ?_
    exact v_iret C R h dX11_nextOf_139
  · have h := h.2 q
    refine v_bipush C dX11_nextOf_132 (by decide) ?_
    refine v_goto C 138 dX11_nextOf_134 (by decide) ?_
    refine v_iadd C dX11_nextOf_138 ?_
    exact v_iret C R h dX11_nextOf_139
def X11_nextOf_b83 (r0 : Nat) (Q : Int → Wd → Prop) (x4 : Int) (x5 : Int) (x6 : Int) (s0 : Int) (s1 : Int) (w : Wd) : Prop := (¬ wr x6 = 0 ∧ (∀ y7, y7 = (irm (s1 + s0) x6) → (ix ((38 + (10 * x5)) + y7) 98 ∧ (∀ y8, y8 = (rd w r0 ((38 + (10 * x5)) + y7)) → (ix (2 + (2 * y8)) 98 ∧ ((wr (rd w r0 (2 + (2 * y8))) = wr x5 → X11_nextOf_b126 r0 Q x4 0 (2 * y8) w) ∧ (¬ wr (rd w r0 (2 + (2 * y8))) = wr x5 → X11_nextOf_b126 r0 Q x4 1 (2 * y8) w)))))))
theorem t_X11_nextOf_b83 {Z : Zw} {E : Amb} {r0 : Nat} {Q : Int → Wd → Prop} (C : Cx Z (adA Z) E cX11_nextOf "HandleFacesModel" 9 rm_X11_nextOf) (R : Rt Z E (some .int) (qI Z Q)) (h0 : shp r0 = (1, 98, [])) : ∀ (x4 : Int) (x5 : Int) (x6 : Int) (s0 : Int) (s1 : Int) (w : Wd), X11_nextOf_b83 r0 Q x4 x5 x6 s0 s1 w → V Z (adA Z) E 9 w 83 [(0, rv Z r0), (4, iv x4), (5, iv x5), (6, iv x6)] [iv s0, iv s1] := by
  intro x4 x5 x6 s0 s1 w h
  unfold X11_nextOf_b83 at h
  refine v_iadd C dX11_nextOf_83 ?_
  refine v_iload C dX11_nextOf_84 3 rfl ?_
  refine v_irem C dX11_nextOf_86 h.1 ?_
  have h := h.2
  refine v_istore C [(7, _), (0, _), (4, _), (5, _), (6, _)] dX11_nextOf_87 (by decide) rfl ?_
  have h := h _ rfl
  refine v_aload_n C dX11_nextOf_89 1 rfl ?_
  refine v_bipush C dX11_nextOf_90 (by decide) ?_
  refine v_bipush C dX11_nextOf_92 (by decide) ?_
  refine v_iload C dX11_nextOf_94 3 rfl ?_
  refine v_imul C dX11_nextOf_96 ?_
  refine v_iadd C dX11_nextOf_97 ?_
  refine v_iload C dX11_nextOf_98 0 rfl ?_
  refine v_iadd C dX11_nextOf_100 ?_
  refine v_iald C h0 h.1 dX11_nextOf_101 ?_
  have h := h.2
  refine v_istore C [(8, _), (7, _), (0, _), (4, _), (5, _), (6, _)] dX11_nextOf_102 (by decide) rfl ?_
  have h := h _ rfl
  refine v_iconst C dX11_nextOf_104 ?_
  refine v_iload C dX11_nextOf_105 0 rfl ?_
  refine v_imul C dX11_nextOf_107 ?_
  refine v_aload_n C dX11_nextOf_108 2 rfl ?_
  refine v_iconst C dX11_nextOf_109 ?_
  refine v_iconst C dX11_nextOf_110 ?_
  refine v_iload C dX11_nextOf_111 0 rfl ?_
  refine v_imul C dX11_nextOf_113 ?_
  refine v_iadd C dX11_nextOf_114 ?_
  refine v_iald C h0 h.1 dX11_nextOf_115 ?_
  have h := h.2
  refine v_iload C dX11_nextOf_116 4 rfl ?_
  refine v_icmp_ne C 125 dX11_nextOf_118 (by decide) (fun q => ?_) (fun q => ?_)
  · have h := h.2 q
    refine v_iconst C dX11_nextOf_125 ?_
    refine v_sub [3] rfl ?_
    exact t_X11_nextOf_b126 C R h0 _ _ _ _ h
  · have h := h.1 q
    refine v_iconst C dX11_nextOf_121 ?_
    refine v_goto C 126 dX11_nextOf_122 (by decide) ?_
    refine v_sub [3] rfl ?_
    exact t_X11_nextOf_b126 C R h0 _ _ _ _ h
def X11_nextOf_b43 (r0 : Nat) (Q : Int → Wd → Prop) (x2 : Int) (x3 : Int) (s0 : Int) (w : Wd) : Prop := (ix (2 + (ixo x2 1)) 98 ∧ (∀ y3, y3 = (rd w r0 (2 + (ixo x2 1))) → (ix (32 + y3) 98 ∧ (∀ y4, y4 = (rd w r0 (32 + y3)) → X11_placeIn r0 y3 x3 w (fun y6 w5 => ((wr s0 = 0 → X11_nextOf_b83 r0 Q s0 y3 y4 1 y6 w5) ∧ (¬ wr s0 = 0 → X11_nextOf_b83 r0 Q s0 y3 y4 (y4 - 1) y6 w5)))))))
theorem t_X11_nextOf_b43 {Z : Zw} {E : Amb} {r0 : Nat} {Q : Int → Wd → Prop} (C : Cx Z (adA Z) E cX11_nextOf "HandleFacesModel" 9 rm_X11_nextOf) (R : Rt Z E (some .int) (qI Z Q)) (h0 : shp r0 = (1, 98, [])) : ∀ (x2 : Int) (x3 : Int) (s0 : Int) (w : Wd), X11_nextOf_b43 r0 Q x2 x3 s0 w → V Z (adA Z) E 9 w 43 [(0, rv Z r0), (2, iv x2), (3, iv x3)] [iv s0] := by
  intro x2 x3 s0 w h
  unfold X11_nextOf_b43 at h
  refine v_istore C [(4, _), (0, _), (2, _), (3, _)] dX11_nextOf_43 (by decide) rfl ?_
  refine v_aload_n C dX11_nextOf_45 1 rfl ?_
  refine v_iconst C dX11_nextOf_46 ?_
  refine v_iload_n C dX11_nextOf_47 2 rfl ?_
  refine v_iconst C dX11_nextOf_48 ?_
  refine v_ixor C dX11_nextOf_49 ?_
  refine v_iadd C dX11_nextOf_50 ?_
  refine v_iald C h0 h.1 dX11_nextOf_51 ?_
  have h := h.2
  refine v_istore C [(5, _), (4, _), (0, _), (2, _), (3, _)] dX11_nextOf_52 (by decide) rfl ?_
  have h := h _ rfl
  refine v_aload_n C dX11_nextOf_54 2 rfl ?_
  refine v_bipush C dX11_nextOf_55 (by decide) ?_
  refine v_iload C dX11_nextOf_57 0 rfl ?_
  refine v_iadd C dX11_nextOf_59 ?_
  refine v_iald C h0 h.1 dX11_nextOf_60 ?_
  have h := h.2
  refine v_istore C [(6, _), (5, _), (4, _), (0, _), (2, _), (3, _)] dX11_nextOf_61 (by decide) rfl ?_
  have h := h _ rfl
  refine v_aload_n C dX11_nextOf_63 3 rfl ?_
  refine v_iload C dX11_nextOf_64 1 rfl ?_
  refine v_iload_n C dX11_nextOf_66 5 rfl ?_
  refine v_calli C (rn_S C _ (m_X11_placeIn h0 h) mf_X11_placeIn wd_1338 wd_1337 rfl rfl ⟨(Nat.le_of_ble_eq_true rfl), (Nat.le_of_ble_eq_true rfl)⟩ rfl rfl (Nat.le_of_ble_eq_true rfl) dX11_nextOf_67) (fun r w h => ?_)
  refine v_iload C dX11_nextOf_70 2 rfl ?_
  refine v_if_eq C 82 dX11_nextOf_72 (by decide) (fun q => ?_) (fun q => ?_)
  · have h := h.1 q
    refine v_iconst C dX11_nextOf_82 ?_
    refine v_sub [3, 2, 1, 0] rfl ?_
    exact t_X11_nextOf_b83 C R h0 _ _ _ _ _ _ h
  · have h := h.2 q
    refine v_iload C dX11_nextOf_75 0 rfl ?_
    refine v_iconst C dX11_nextOf_77 ?_
    refine v_isub C dX11_nextOf_78 ?_
    refine v_goto C 83 dX11_nextOf_79 (by decide) ?_
    refine v_sub [3, 2, 1, 0] rfl ?_
    exact t_X11_nextOf_b83 C R h0 _ _ _ _ _ _ h
def X11_nextOf_b35 (r0 : Nat) (Q : Int → Wd → Prop) (x2 : Int) (x3 : Int) (s0 : Int) (s1 : Int) (w : Wd) : Prop := ((wr s1 = wr s0 → X11_nextOf_b43 r0 Q x2 x3 0 w) ∧ (¬ wr s1 = wr s0 → X11_nextOf_b43 r0 Q x2 x3 1 w))
theorem t_X11_nextOf_b35 {Z : Zw} {E : Amb} {r0 : Nat} {Q : Int → Wd → Prop} (C : Cx Z (adA Z) E cX11_nextOf "HandleFacesModel" 9 rm_X11_nextOf) (R : Rt Z E (some .int) (qI Z Q)) (h0 : shp r0 = (1, 98, [])) : ∀ (x2 : Int) (x3 : Int) (s0 : Int) (s1 : Int) (w : Wd), X11_nextOf_b35 r0 Q x2 x3 s0 s1 w → V Z (adA Z) E 9 w 35 [(0, rv Z r0), (2, iv x2), (3, iv x3)] [iv s0, iv s1] := by
  intro x2 x3 s0 s1 w h
  unfold X11_nextOf_b35 at h
  refine v_icmp_eq C 42 dX11_nextOf_35 (by decide) (fun q => ?_) (fun q => ?_)
  · have h := h.1 q
    refine v_iconst C dX11_nextOf_42 ?_
    exact t_X11_nextOf_b43 C R h0 _ _ _ _ h
  · have h := h.2 q
    refine v_iconst C dX11_nextOf_38 ?_
    refine v_goto C 43 dX11_nextOf_39 (by decide) ?_
    exact t_X11_nextOf_b43 C R h0 _ _ _ _ h
def X11_nextOf_b20 (r0 : Nat) (Q : Int → Wd → Prop) (x2 : Int) (x3 : Int) (s0 : Int) (w : Wd) : Prop := (ix (22 + x3) 98 ∧ ((wr (rd w r0 (22 + x3)) = wr 1 → X11_nextOf_b35 r0 Q x2 x3 1 s0 w) ∧ (¬ wr (rd w r0 (22 + x3)) = wr 1 → X11_nextOf_b35 r0 Q x2 x3 0 s0 w)))
theorem t_X11_nextOf_b20 {Z : Zw} {E : Amb} {r0 : Nat} {Q : Int → Wd → Prop} (C : Cx Z (adA Z) E cX11_nextOf "HandleFacesModel" 9 rm_X11_nextOf) (R : Rt Z E (some .int) (qI Z Q)) (h0 : shp r0 = (1, 98, [])) : ∀ (x2 : Int) (x3 : Int) (s0 : Int) (w : Wd), X11_nextOf_b20 r0 Q x2 x3 s0 w → V Z (adA Z) E 9 w 20 [(0, rv Z r0), (2, iv x2), (3, iv x3)] [iv s0] := by
  intro x2 x3 s0 w h
  unfold X11_nextOf_b20 at h
  refine v_aload_n C dX11_nextOf_20 0 rfl ?_
  refine v_bipush C dX11_nextOf_21 (by decide) ?_
  refine v_iload_n C dX11_nextOf_23 2 rfl ?_
  refine v_iadd C dX11_nextOf_24 ?_
  refine v_iald C h0 h.1 dX11_nextOf_25 ?_
  have h := h.2
  refine v_iconst C dX11_nextOf_26 ?_
  refine v_icmp_ne C 34 dX11_nextOf_27 (by decide) (fun q => ?_) (fun q => ?_)
  · have h := h.2 q
    refine v_iconst C dX11_nextOf_34 ?_
    exact t_X11_nextOf_b35 C R h0 _ _ _ _ _ h
  · have h := h.1 q
    refine v_iconst C dX11_nextOf_30 ?_
    refine v_goto C 35 dX11_nextOf_31 (by decide) ?_
    exact t_X11_nextOf_b35 C R h0 _ _ _ _ _ h
def X11_nextOf (r0 : Nat) (x1 : Int) (w : Wd) (Q : Int → Wd → Prop) : Prop := (∀ y1, y1 = (irm x1 20) → (∀ y2, y2 = (idv y1 2) → ((wr x1 < wr 20 → X11_nextOf_b20 r0 Q y1 y2 0 w) ∧ (¬ wr x1 < wr 20 → X11_nextOf_b20 r0 Q y1 y2 1 w))))
theorem m_X11_nextOf {Z : Zw} {l : Launch} {r0 : Nat} {x1 : Int} {w : Wd} {Q : Int → Wd → Prop} (h0 : shp r0 = (1, 98, [])) (h : X11_nextOf r0 x1 w Q) : CtQ Z l yX11_nextOf cX11_nextOf 9 (some .int) rm_X11_nextOf [rv Z r0, iv x1] w (qI Z Q) := by
  refine ct_of (by decide) (Nat.le_of_ble_eq_true rfl) (fun E eE C R => ?_)
  subst eE
  have C : Cx Z (adA Z) E cX11_nextOf "HandleFacesModel" 9 rm_X11_nextOf := C
  unfold X11_nextOf at h
  show V Z (adA Z) E 9 w 0 [(0, rv Z r0), (1, iv x1)] []
  refine v_iload_n C dX11_nextOf_0 1 rfl ?_
  refine v_bipush C dX11_nextOf_1 (by decide) ?_
  refine v_irem C dX11_nextOf_3 (by decide) ?_
  refine v_istore_n C [(2, _), (0, _), (1, _)] dX11_nextOf_4 2 rfl (by decide) rfl ?_
  have h := h _ rfl
  refine v_iload_n C dX11_nextOf_5 0 rfl ?_
  refine v_iconst C dX11_nextOf_6 ?_
  refine v_idiv C dX11_nextOf_7 (by decide) ?_
  refine v_istore_n C [(3, _), (2, _), (0, _), (1, _)] dX11_nextOf_8 3 rfl (by decide) rfl ?_
  have h := h _ rfl
  refine v_iload_n C dX11_nextOf_9 3 rfl ?_
  refine v_bipush C dX11_nextOf_10 (by decide) ?_
  refine v_icmp_lt C 19 dX11_nextOf_12 (by decide) (fun q => ?_) (fun q => ?_)
  · have h := h.1 q
    refine v_iconst C dX11_nextOf_19 ?_
    refine v_sub [2, 1, 0] rfl ?_
    exact t_X11_nextOf_b20 C R h0 _ _ _ _ h
  · have h := h.2 q
    refine v_iconst C dX11_nextOf_15 ?_
    refine v_goto C 20 dX11_nextOf_16 (by decide) ?_
    refine v_sub [2, 1, 0] rfl ?_
    exact t_X11_nextOf_b20 C R h0 _ _ _ _ h
abbrev rm_X11_traces : Room := { frames := 2, cells := 0, slots := 0, locals := 51 }
theorem mf_X11_traces : MfB yX11_traces cX11_traces 6 (some .int) 1 := ⟨wd_1376, wd_13, by decide, by decide, by decide +kernel⟩
def X11_traces_l2 (r1 : Nat) (Q : Int → Wd → Prop) (e21 : Wd → Prop) : Nat → Int → Wd → Prop
  | 0 => fun _ _ => False
  | n + 1 => fun x2 w => ((wr 40 ≤ wr x2 → e21 w) ∧ (¬ wr 40 ≤ wr x2 → (ix x2 40 ∧ (∀ w1, w1 = wt w 79 x2 (-1) → (X11_traces_l2 r1 Q e21 n) (x2 + 1) w1))))
theorem t_X11_traces_l2 {Z : Zw} {E : Amb} {r1 : Nat} {Q : Int → Wd → Prop} {e21 : Wd → Prop} (C : Cx Z (adA Z) E cX11_traces "HandleFacesModel" 6 rm_X11_traces) (R : Rt Z E (some .int) (qI Z Q)) (h1 : shp r1 = (1, 98, [])) (he21 : ∀ (w : Wd), e21 w → V Z (adA Z) E 6 w 21 [(0, rv Z 65), (1, rv Z r1)] []) : ∀ (n : Nat) (x2 : Int) (w : Wd), X11_traces_l2 r1 Q e21 n x2 w → V Z (adA Z) E 6 w 2 [(0, rv Z 65), (1, rv Z r1), (2, iv x2)] [] := by
  intro n
  induction n with
  | zero => intro x2 w h; exact h.elim
  | succ n ih =>
    intro x2 w h
    unfold X11_traces_l2 at h
    refine v_iload_n C dX11_traces_2 2 rfl ?_
    refine v_bipush C dX11_traces_3 (by decide) ?_
    refine v_icmp_ge C 21 dX11_traces_5 (by decide) (fun q => ?_) (fun q => ?_)
    · have h := h.1 q
      refine v_sub [0, 1] rfl ?_
      exact he21 _ h
    · have h := h.2 q
      refine v_aload_n C dX11_traces_8 0 rfl ?_
      refine g_X11_faceAt C wd_1097 dX11_traces_9 ?_
      refine v_iload_n C dX11_traces_12 2 rfl ?_
      refine v_iconst C dX11_traces_13 ?_
      refine v_iast C rfl h.1 dX11_traces_14 ?_
      have h := h.2
      have h := h _ rfl
      refine v_iinc C [(2, _), (0, _), (1, _)] dX11_traces_15 2 rfl (by decide) rfl ?_
      refine v_goto C 2 dX11_traces_18 (by decide) ?_
      refine v_sub [1, 2, 0] rfl ?_
      exact ih _ _ h
def X11_traces_l91 (r1 : Nat) (Q : Int → Wd → Prop) (e142 : Int → Int → Wd → Prop) : Nat → Int → Int → Int → Wd → Prop
  | 0 => fun _ _ _ _ => False
  | n + 1 => fun x2 x3 x5 w => (ix x5 40 ∧ ((0 ≤ wr (rd w 79 x5) → e142 x2 x3 w) ∧ (¬ 0 ≤ wr (rd w 79 x5) → (ix x5 40 ∧ (∀ w4, w4 = wt w 79 x5 x2 → X11_mirrorOf r1 x5 w4 (fun y6 w5 => (ix y6 40 ∧ (∀ w7, w7 = wt w5 79 y6 x2 → (ix x2 30 ∧ (ix x2 30 ∧ (∀ w8, w8 = wt w7 81 x2 ((rd w7 81 x2) + 1) → X11_nextOf r1 x5 w8 (fun y10 w9 => (X11_traces_l91 r1 Q e142 n) x2 x3 y10 w9))))))))))))
theorem t_X11_traces_l91 {Z : Zw} {E : Amb} {r1 : Nat} {Q : Int → Wd → Prop} {e142 : Int → Int → Wd → Prop} (C : Cx Z (adA Z) E cX11_traces "HandleFacesModel" 6 rm_X11_traces) (R : Rt Z E (some .int) (qI Z Q)) (h1 : shp r1 = (1, 98, [])) (he142 : ∀ (x2 : Int) (x3 : Int) (w : Wd), e142 x2 x3 w → V Z (adA Z) E 6 w 142 [(0, rv Z 65), (1, rv Z r1), (2, iv x2), (3, iv x3)] []) : ∀ (n : Nat) (x2 : Int) (x3 : Int) (x5 : Int) (w : Wd), X11_traces_l91 r1 Q e142 n x2 x3 x5 w → V Z (adA Z) E 6 w 91 [(0, rv Z 65), (1, rv Z r1), (2, iv x2), (3, iv x3), (5, iv x5)] [] := by
  intro n
  induction n with
  | zero => intro x2 x3 x5 w h; exact h.elim
  | succ n ih =>
    intro x2 x3 x5 w h
    unfold X11_traces_l91 at h
    refine v_aload_n C dX11_traces_91 0 rfl ?_
    refine g_X11_faceAt C wd_1097 dX11_traces_92 ?_
    refine v_iload C dX11_traces_95 4 rfl ?_
    refine v_iald C rfl h.1 dX11_traces_97 ?_
    have h := h.2
    refine v_if_ge C 142 dX11_traces_98 (by decide) (fun q => ?_) (fun q => ?_)
    · have h := h.1 q
      refine v_sub [0, 1, 2, 3] rfl ?_
      exact he142 _ _ _ h
    · have h := h.2 q
      refine v_aload_n C dX11_traces_101 0 rfl ?_
      refine g_X11_faceAt C wd_1097 dX11_traces_102 ?_
      refine v_iload C dX11_traces_105 4 rfl ?_
      refine v_iload_n C dX11_traces_107 2 rfl ?_
      refine v_iast C rfl h.1 dX11_traces_108 ?_
      have h := h.2
      have h := h _ rfl
      refine v_aload_n C dX11_traces_109 0 rfl ?_
      refine g_X11_faceAt C wd_1097 dX11_traces_110 ?_
      refine v_aload_n C dX11_traces_113 1 rfl ?_
      refine v_iload C dX11_traces_114 4 rfl ?_
      refine v_calli C (rn_S C _ (m_X11_mirrorOf h1 h) mf_X11_mirrorOf wd_1378 wd_1377 rfl rfl ⟨(Nat.le_of_ble_eq_true rfl), (Nat.le_of_ble_eq_true rfl)⟩ rfl rfl (Nat.le_of_ble_eq_true rfl) dX11_traces_116) (fun r w h => ?_)
      refine v_iload_n C dX11_traces_119 2 rfl ?_
      refine v_iast C rfl h.1 dX11_traces_120 ?_
      have h := h.2
      have h := h _ rfl
      refine v_aload_n C dX11_traces_121 0 rfl ?_
      refine g_X11_faceLong C wd_1099 dX11_traces_122 ?_
      refine v_iload_n C dX11_traces_125 2 rfl ?_
      refine v_dup2 C dX11_traces_126 rfl rfl ?_
      refine v_iald C rfl h.1 dX11_traces_127 ?_
      have h := h.2
      refine v_iconst C dX11_traces_128 ?_
      refine v_iadd C dX11_traces_129 ?_
      refine v_iast C rfl h.1 dX11_traces_130 ?_
      have h := h.2
      have h := h _ rfl
      refine v_aload_n C dX11_traces_131 1 rfl ?_
      refine v_iload C dX11_traces_132 4 rfl ?_
      refine v_calli C (rn_S C _ (m_X11_nextOf h1 h) mf_X11_nextOf wd_1381 wd_1380 rfl rfl ⟨(Nat.le_of_ble_eq_true rfl), (Nat.le_of_ble_eq_true rfl)⟩ rfl rfl (Nat.le_of_ble_eq_true rfl) dX11_traces_134) (fun r w h => ?_)
      refine v_istore C [(5, _), (0, _), (1, _), (2, _), (3, _)] dX11_traces_137 (by decide) rfl ?_
      refine v_goto C 91 dX11_traces_139 (by decide) ?_
      refine v_sub [1, 2, 3, 4, 0] rfl ?_
      exact ih _ _ _ _ h
def X11_traces_b142 (r1 : Nat) (Q : Int → Wd → Prop) (c25 : Int → Int → Wd → Prop) (e151 : Int → Wd → Prop) (x2 : Int) (x3 : Int) (w : Wd) : Prop := c25 (x2 + 1) (x3 + 1) w
theorem t_X11_traces_b142 {Z : Zw} {E : Amb} {r1 : Nat} {Q : Int → Wd → Prop} {c25 : Int → Int → Wd → Prop} {e151 : Int → Wd → Prop} (C : Cx Z (adA Z) E cX11_traces "HandleFacesModel" 6 rm_X11_traces) (R : Rt Z E (some .int) (qI Z Q)) (h1 : shp r1 = (1, 98, [])) (hc25 : ∀ (x2 : Int) (x3 : Int) (w : Wd), c25 x2 x3 w → V Z (adA Z) E 6 w 25 [(0, rv Z 65), (1, rv Z r1), (2, iv x2), (3, iv x3)] []) (he151 : ∀ (x2 : Int) (w : Wd), e151 x2 w → V Z (adA Z) E 6 w 151 [(0, rv Z 65), (1, rv Z r1), (2, iv x2)] []) : ∀ (x2 : Int) (x3 : Int) (w : Wd), X11_traces_b142 r1 Q c25 e151 x2 x3 w → V Z (adA Z) E 6 w 142 [(0, rv Z 65), (1, rv Z r1), (2, iv x2), (3, iv x3)] [] := by
  intro x2 x3 w h
  unfold X11_traces_b142 at h
  refine v_iinc C [(2, _), (0, _), (1, _), (3, _)] dX11_traces_142 2 rfl (by decide) rfl ?_
  refine v_iinc C [(3, _), (2, _), (0, _), (1, _)] dX11_traces_145 3 rfl (by decide) rfl ?_
  refine v_goto C 25 dX11_traces_148 (by decide) ?_
  refine v_sub [2, 3, 1, 0] rfl ?_
  exact hc25 _ _ _ h
def X11_traces_b57 (r1 : Nat) (Q : Int → Wd → Prop) (c25 : Int → Int → Wd → Prop) (e151 : Int → Wd → Prop) (x2 : Int) (x3 : Int) (s0 : Int) (w : Wd) : Prop := (ix s0 40 ∧ ((wr (rd w 79 s0) < 0 → (ix x2 30 ∧ (∀ w2, w2 = wt w 80 x2 s0 → (ix x2 30 ∧ (∀ w3, w3 = wt w2 81 x2 0 → (∃ m, X11_traces_l91 r1 Q (X11_traces_b142 r1 Q c25 e151) m x2 x3 s0 w3)))))) ∧ (¬ wr (rd w 79 s0) < 0 → c25 x2 (x3 + 1) w)))
theorem t_X11_traces_b57 {Z : Zw} {E : Amb} {r1 : Nat} {Q : Int → Wd → Prop} {c25 : Int → Int → Wd → Prop} {e151 : Int → Wd → Prop} (C : Cx Z (adA Z) E cX11_traces "HandleFacesModel" 6 rm_X11_traces) (R : Rt Z E (some .int) (qI Z Q)) (h1 : shp r1 = (1, 98, [])) (hc25 : ∀ (x2 : Int) (x3 : Int) (w : Wd), c25 x2 x3 w → V Z (adA Z) E 6 w 25 [(0, rv Z 65), (1, rv Z r1), (2, iv x2), (3, iv x3)] []) (he151 : ∀ (x2 : Int) (w : Wd), e151 x2 w → V Z (adA Z) E 6 w 151 [(0, rv Z 65), (1, rv Z r1), (2, iv x2)] []) : ∀ (x2 : Int) (x3 : Int) (s0 : Int) (w : Wd), X11_traces_b57 r1 Q c25 e151 x2 x3 s0 w → V Z (adA Z) E 6 w 57 [(0, rv Z 65), (1, rv Z r1), (2, iv x2), (3, iv x3)] [iv s0] := by
  intro x2 x3 s0 w h
  unfold X11_traces_b57 at h
  refine v_istore C [(4, _), (0, _), (1, _), (2, _), (3, _)] dX11_traces_57 (by decide) rfl ?_
  refine v_aload_n C dX11_traces_59 1 rfl ?_
  refine g_X11_faceAt C wd_1097 dX11_traces_60 ?_
  refine v_iload C dX11_traces_63 0 rfl ?_
  refine v_iald C rfl h.1 dX11_traces_65 ?_
  have h := h.2
  refine v_if_lt C 72 dX11_traces_66 (by decide) (fun q => ?_) (fun q => ?_)
  · have h := h.1 q
    refine v_aload_n C dX11_traces_72 1 rfl ?_
    refine g_X11_faceFrom C wd_1098 dX11_traces_73 ?_
    refine v_iload_n C dX11_traces_76 3 rfl ?_
    refine v_iload C dX11_traces_77 0 rfl ?_
    refine v_iast C rfl h.1 dX11_traces_79 ?_
    have h := h.2
    have h := h _ rfl
    refine v_aload_n C dX11_traces_80 1 rfl ?_
    refine g_X11_faceLong C wd_1099 dX11_traces_81 ?_
    refine v_iload_n C dX11_traces_84 3 rfl ?_
    refine v_iconst C dX11_traces_85 ?_
    refine v_iast C rfl h.1 dX11_traces_86 ?_
    have h := h.2
    have h := h _ rfl
    refine v_iload C dX11_traces_87 0 rfl ?_
    refine v_istore C [(5, _), (4, _), (0, _), (1, _), (2, _), (3, _)] dX11_traces_89 (by decide) rfl ?_
    refine v_sub [2, 3, 4, 5, 0] rfl ?_
    obtain ⟨m, h⟩ := h
    exact t_X11_traces_l91 C R h1 (t_X11_traces_b142 C R h1 hc25 he151) m _ _ _ _ h
  · have h := h.2 q
    refine v_goto C 145 dX11_traces_69 (by decide) ?_
    refine v_iinc C [(3, _), (4, _), (0, _), (1, _), (2, _)] dX11_traces_145 4 rfl (by decide) rfl ?_
    refine v_goto C 25 dX11_traces_148 (by decide) ?_
    refine v_sub [2, 3, 4, 0] rfl ?_
    exact hc25 _ _ _ h
def X11_traces_l25 (r1 : Nat) (Q : Int → Wd → Prop) (e151 : Int → Wd → Prop) : Nat → Int → Int → Wd → Prop
  | 0 => fun _ _ _ => False
  | n + 1 => fun x2 x3 w => (ix 1 98 ∧ ((wr (4 * (rd w r1 1)) ≤ wr x3 → e151 x2 w) ∧ (¬ wr (4 * (rd w r1 1)) ≤ wr x3 → (ix 1 98 ∧ ((wr (2 * (rd w r1 1)) ≤ wr x3 → (ix 1 98 ∧ X11_traces_b57 r1 Q (X11_traces_l25 r1 Q e151 n) e151 x2 x3 ((x3 - (2 * (rd w r1 1))) + 20) w)) ∧ (¬ wr (2 * (rd w r1 1)) ≤ wr x3 → X11_traces_b57 r1 Q (X11_traces_l25 r1 Q e151 n) e151 x2 x3 x3 w))))))
theorem t_X11_traces_l25 {Z : Zw} {E : Amb} {r1 : Nat} {Q : Int → Wd → Prop} {e151 : Int → Wd → Prop} (C : Cx Z (adA Z) E cX11_traces "HandleFacesModel" 6 rm_X11_traces) (R : Rt Z E (some .int) (qI Z Q)) (h1 : shp r1 = (1, 98, [])) (he151 : ∀ (x2 : Int) (w : Wd), e151 x2 w → V Z (adA Z) E 6 w 151 [(0, rv Z 65), (1, rv Z r1), (2, iv x2)] []) : ∀ (n : Nat) (x2 : Int) (x3 : Int) (w : Wd), X11_traces_l25 r1 Q e151 n x2 x3 w → V Z (adA Z) E 6 w 25 [(0, rv Z 65), (1, rv Z r1), (2, iv x2), (3, iv x3)] [] := by
  intro n
  induction n with
  | zero => intro x2 x3 w h; exact h.elim
  | succ n ih =>
    intro x2 x3 w h
    unfold X11_traces_l25 at h
    refine v_iload_n C dX11_traces_25 3 rfl ?_
    refine v_iconst C dX11_traces_26 ?_
    refine v_aload_n C dX11_traces_27 1 rfl ?_
    refine v_iconst C dX11_traces_28 ?_
    refine v_iald C h1 h.1 dX11_traces_29 ?_
    have h := h.2
    refine v_imul C dX11_traces_30 ?_
    refine v_icmp_ge C 151 dX11_traces_31 (by decide) (fun q => ?_) (fun q => ?_)
    · have h := h.1 q
      refine v_sub [0, 1, 2] rfl ?_
      exact he151 _ _ h
    · have h := h.2 q
      refine v_iload_n C dX11_traces_34 3 rfl ?_
      refine v_iconst C dX11_traces_35 ?_
      refine v_aload_n C dX11_traces_36 1 rfl ?_
      refine v_iconst C dX11_traces_37 ?_
      refine v_iald C h1 h.1 dX11_traces_38 ?_
      have h := h.2
      refine v_imul C dX11_traces_39 ?_
      refine v_icmp_ge C 47 dX11_traces_40 (by decide) (fun q => ?_) (fun q => ?_)
      · have h := h.1 q
        refine v_iload_n C dX11_traces_47 3 rfl ?_
        refine v_iconst C dX11_traces_48 ?_
        refine v_aload_n C dX11_traces_49 1 rfl ?_
        refine v_iconst C dX11_traces_50 ?_
        refine v_iald C h1 h.1 dX11_traces_51 ?_
        have h := h.2
        refine v_imul C dX11_traces_52 ?_
        refine v_isub C dX11_traces_53 ?_
        refine v_bipush C dX11_traces_54 (by decide) ?_
        refine v_iadd C dX11_traces_56 ?_
        exact t_X11_traces_b57 C R h1 ih he151 _ _ _ _ h
      · have h := h.2 q
        refine v_iload_n C dX11_traces_43 3 rfl ?_
        refine v_goto C 57 dX11_traces_44 (by decide) ?_
        exact t_X11_traces_b57 C R h1 ih he151 _ _ _ _ h
def X11_traces_l153 (r1 : Nat) (Q : Int → Wd → Prop) (e195 : Int → Wd → Prop) : Nat → Int → Int → Wd → Prop
  | 0 => fun _ _ _ => False
  | n + 1 => fun x2 x3 w => (ix 0 98 ∧ ((wr (rd w r1 0) ≤ wr x3 → e195 x2 w) ∧ (¬ wr (rd w r1 0) ≤ wr x3 → (ix (32 + x3) 98 ∧ ((wr (rd w r1 (32 + x3)) ≤ 0 → (ix x2 30 ∧ (∀ w11, w11 = wt w 80 x2 (-1) → (ix x2 30 ∧ (∀ w12, w12 = wt w11 81 x2 0 → (X11_traces_l153 r1 Q e195 n) (x2 + 1) (x3 + 1) w12))))) ∧ (¬ wr (rd w r1 (32 + x3)) ≤ 0 → (X11_traces_l153 r1 Q e195 n) x2 (x3 + 1) w))))))
theorem t_X11_traces_l153 {Z : Zw} {E : Amb} {r1 : Nat} {Q : Int → Wd → Prop} {e195 : Int → Wd → Prop} (C : Cx Z (adA Z) E cX11_traces "HandleFacesModel" 6 rm_X11_traces) (R : Rt Z E (some .int) (qI Z Q)) (h1 : shp r1 = (1, 98, [])) (he195 : ∀ (x2 : Int) (w : Wd), e195 x2 w → V Z (adA Z) E 6 w 195 [(2, iv x2)] []) : ∀ (n : Nat) (x2 : Int) (x3 : Int) (w : Wd), X11_traces_l153 r1 Q e195 n x2 x3 w → V Z (adA Z) E 6 w 153 [(0, rv Z 65), (1, rv Z r1), (2, iv x2), (3, iv x3)] [] := by
  intro n
  induction n with
  | zero => intro x2 x3 w h; exact h.elim
  | succ n ih =>
    intro x2 x3 w h
    unfold X11_traces_l153 at h
    refine v_iload_n C dX11_traces_153 3 rfl ?_
    refine v_aload_n C dX11_traces_154 1 rfl ?_
    refine v_iconst C dX11_traces_155 ?_
    refine v_iald C h1 h.1 dX11_traces_156 ?_
    have h := h.2
    refine v_icmp_ge C 195 dX11_traces_157 (by decide) (fun q => ?_) (fun q => ?_)
    · have h := h.1 q
      refine v_sub [2] rfl ?_
      exact he195 _ _ h
    · have h := h.2 q
      refine v_aload_n C dX11_traces_160 1 rfl ?_
      refine v_bipush C dX11_traces_161 (by decide) ?_
      refine v_iload_n C dX11_traces_163 3 rfl ?_
      refine v_iadd C dX11_traces_164 ?_
      refine v_iald C h1 h.1 dX11_traces_165 ?_
      have h := h.2
      refine v_if_le C 172 dX11_traces_166 (by decide) (fun q => ?_) (fun q => ?_)
      · have h := h.1 q
        refine v_aload_n C dX11_traces_172 0 rfl ?_
        refine g_X11_faceFrom C wd_1098 dX11_traces_173 ?_
        refine v_iload_n C dX11_traces_176 2 rfl ?_
        refine v_iconst C dX11_traces_177 ?_
        refine v_iast C rfl h.1 dX11_traces_178 ?_
        have h := h.2
        have h := h _ rfl
        refine v_aload_n C dX11_traces_179 0 rfl ?_
        refine g_X11_faceLong C wd_1099 dX11_traces_180 ?_
        refine v_iload_n C dX11_traces_183 2 rfl ?_
        refine v_iconst C dX11_traces_184 ?_
        refine v_iast C rfl h.1 dX11_traces_185 ?_
        have h := h.2
        have h := h _ rfl
        refine v_iinc C [(2, _), (0, _), (1, _), (3, _)] dX11_traces_186 2 rfl (by decide) rfl ?_
        refine v_iinc C [(3, _), (2, _), (0, _), (1, _)] dX11_traces_189 3 rfl (by decide) rfl ?_
        refine v_goto C 153 dX11_traces_192 (by decide) ?_
        refine v_sub [2, 3, 1, 0] rfl ?_
        exact ih _ _ _ h
      · have h := h.2 q
        refine v_goto C 189 dX11_traces_169 (by decide) ?_
        refine v_iinc C [(3, _), (0, _), (1, _), (2, _)] dX11_traces_189 3 rfl (by decide) rfl ?_
        refine v_goto C 153 dX11_traces_192 (by decide) ?_
        refine v_sub [1, 2, 3, 0] rfl ?_
        exact ih _ _ _ h
def X11_traces_b195 (r1 : Nat) (Q : Int → Wd → Prop) (x2 : Int) (w : Wd) : Prop := Q (wr x2) w
theorem t_X11_traces_b195 {Z : Zw} {E : Amb} {r1 : Nat} {Q : Int → Wd → Prop} (C : Cx Z (adA Z) E cX11_traces "HandleFacesModel" 6 rm_X11_traces) (R : Rt Z E (some .int) (qI Z Q)) (h1 : shp r1 = (1, 98, [])) : ∀ (x2 : Int) (w : Wd), X11_traces_b195 r1 Q x2 w → V Z (adA Z) E 6 w 195 [(2, iv x2)] [] := by
  intro x2 w h
  unfold X11_traces_b195 at h
  refine v_iload_n C dX11_traces_195 0 rfl ?_
  exact v_iret C R h dX11_traces_196
def X11_traces_b151 (r1 : Nat) (Q : Int → Wd → Prop) (x2 : Int) (w : Wd) : Prop := (∃ m, X11_traces_l153 r1 Q (X11_traces_b195 r1 Q) m x2 0 w)
theorem t_X11_traces_b151 {Z : Zw} {E : Amb} {r1 : Nat} {Q : Int → Wd → Prop} (C : Cx Z (adA Z) E cX11_traces "HandleFacesModel" 6 rm_X11_traces) (R : Rt Z E (some .int) (qI Z Q)) (h1 : shp r1 = (1, 98, [])) : ∀ (x2 : Int) (w : Wd), X11_traces_b151 r1 Q x2 w → V Z (adA Z) E 6 w 151 [(0, rv Z 65), (1, rv Z r1), (2, iv x2)] [] := by
  intro x2 w h
  unfold X11_traces_b151 at h
  refine v_iconst C dX11_traces_151 ?_
  refine v_istore_n C [(3, _), (0, _), (1, _), (2, _)] dX11_traces_152 3 rfl (by decide) rfl ?_
  refine v_sub [1, 2, 3, 0] rfl ?_
  obtain ⟨m, h⟩ := h
  exact t_X11_traces_l153 C R h1 (t_X11_traces_b195 C R h1) m _ _ _ h
def X11_traces_b21 (r1 : Nat) (Q : Int → Wd → Prop) (w : Wd) : Prop := (∃ m, X11_traces_l25 r1 Q (X11_traces_b151 r1 Q) m 0 0 w)
theorem t_X11_traces_b21 {Z : Zw} {E : Amb} {r1 : Nat} {Q : Int → Wd → Prop} (C : Cx Z (adA Z) E cX11_traces "HandleFacesModel" 6 rm_X11_traces) (R : Rt Z E (some .int) (qI Z Q)) (h1 : shp r1 = (1, 98, [])) : ∀ (w : Wd), X11_traces_b21 r1 Q w → V Z (adA Z) E 6 w 21 [(0, rv Z 65), (1, rv Z r1)] [] := by
  intro w h
  unfold X11_traces_b21 at h
  refine v_iconst C dX11_traces_21 ?_
  refine v_istore_n C [(2, _), (0, _), (1, _)] dX11_traces_22 2 rfl (by decide) rfl ?_
  refine v_iconst C dX11_traces_23 ?_
  refine v_istore_n C [(3, _), (2, _), (0, _), (1, _)] dX11_traces_24 3 rfl (by decide) rfl ?_
  refine v_sub [2, 3, 1, 0] rfl ?_
  obtain ⟨m, h⟩ := h
  exact t_X11_traces_l25 C R h1 (t_X11_traces_b151 C R h1) m _ _ _ h
def X11_traces (r1 : Nat) (w : Wd) (Q : Int → Wd → Prop) : Prop := (∃ m, X11_traces_l2 r1 Q (X11_traces_b21 r1 Q) m 0 w)
theorem m_X11_traces {Z : Zw} {l : Launch} {r1 : Nat} {w : Wd} {Q : Int → Wd → Prop} (h1 : shp r1 = (1, 98, [])) (h : X11_traces r1 w Q) : CtQ Z l yX11_traces cX11_traces 6 (some .int) rm_X11_traces [rv Z 65, rv Z r1] w (qI Z Q) := by
  refine ct_of (by decide) (Nat.le_of_ble_eq_true rfl) (fun E eE C R => ?_)
  subst eE
  have C : Cx Z (adA Z) E cX11_traces "HandleFacesModel" 6 rm_X11_traces := C
  unfold X11_traces at h
  show V Z (adA Z) E 6 w 0 [(0, rv Z 65), (1, rv Z r1)] []
  refine v_iconst C dX11_traces_0 ?_
  refine v_istore_n C [(2, _), (0, _), (1, _)] dX11_traces_1 2 rfl (by decide) rfl ?_
  refine v_sub [1, 2, 0] rfl ?_
  obtain ⟨m, h⟩ := h
  exact t_X11_traces_l2 C R h1 (t_X11_traces_b21 C R h1) m _ _ h
abbrev rm_X11_partsOf : Room := { frames := 0, cells := 0, slots := 0, locals := 0 }
theorem mf_X11_partsOf : MfB yX11_partsOf cX11_partsOf 7 (some .int) 1 := ⟨wd_1399, wd_13, by decide, by decide, by decide +kernel⟩
def X11_partsOf_l6 (r1 : Nat) (Q : Int → Wd → Prop) (e26 : Int → Wd → Prop) : Nat → Int → Int → Wd → Prop
  | 0 => fun _ _ _ => False
  | n + 1 => fun x2 x3 w => (ix 0 98 ∧ ((wr (rd w r1 0) ≤ wr x3 → e26 x2 w) ∧ (¬ wr (rd w r1 0) ≤ wr x3 → (ix x3 6 ∧ (∀ w2, w2 = wt w 82 x3 x3 → (X11_partsOf_l6 r1 Q e26 n) x2 (x3 + 1) w2)))))
theorem t_X11_partsOf_l6 {Z : Zw} {E : Amb} {r1 : Nat} {Q : Int → Wd → Prop} {e26 : Int → Wd → Prop} (C : Cx Z (adA Z) E cX11_partsOf "HandleFacesModel" 7 rm_X11_partsOf) (R : Rt Z E (some .int) (qI Z Q)) (h1 : shp r1 = (1, 98, [])) (he26 : ∀ (x2 : Int) (w : Wd), e26 x2 w → V Z (adA Z) E 7 w 26 [(0, rv Z 65), (1, rv Z r1), (2, iv x2)] []) : ∀ (n : Nat) (x2 : Int) (x3 : Int) (w : Wd), X11_partsOf_l6 r1 Q e26 n x2 x3 w → V Z (adA Z) E 7 w 6 [(0, rv Z 65), (1, rv Z r1), (2, iv x2), (3, iv x3)] [] := by
  intro n
  induction n with
  | zero => intro x2 x3 w h; exact h.elim
  | succ n ih =>
    intro x2 x3 w h
    unfold X11_partsOf_l6 at h
    refine v_iload_n C dX11_partsOf_6 3 rfl ?_
    refine v_aload_n C dX11_partsOf_7 1 rfl ?_
    refine v_iconst C dX11_partsOf_8 ?_
    refine v_iald C h1 h.1 dX11_partsOf_9 ?_
    have h := h.2
    refine v_icmp_ge C 26 dX11_partsOf_10 (by decide) (fun q => ?_) (fun q => ?_)
    · have h := h.1 q
      refine v_sub [0, 1, 2] rfl ?_
      exact he26 _ _ h
    · have h := h.2 q
      refine v_aload_n C dX11_partsOf_13 0 rfl ?_
      refine g_X11_partOf C wd_1100 dX11_partsOf_14 ?_
      refine v_iload_n C dX11_partsOf_17 3 rfl ?_
      refine v_iload_n C dX11_partsOf_18 3 rfl ?_
      refine v_iast C rfl h.1 dX11_partsOf_19 ?_
      have h := h.2
      have h := h _ rfl
      refine v_iinc C [(3, _), (0, _), (1, _), (2, _)] dX11_partsOf_20 3 rfl (by decide) rfl ?_
      refine v_goto C 6 dX11_partsOf_23 (by decide) ?_
      refine v_sub [1, 2, 3, 0] rfl ?_
      exact ih _ _ _ h
def X11_partsOf_l81 (r1 : Nat) (Q : Int → Wd → Prop) (e116 : Int → Int → Wd → Prop) : Nat → Int → Int → Int → Int → Int → Wd → Prop
  | 0 => fun _ _ _ _ _ _ => False
  | n + 1 => fun x2 x3 x4 x5 x6 w => (ix 0 98 ∧ ((wr (rd w r1 0) ≤ wr x6 → e116 x2 x3 w) ∧ (¬ wr (rd w r1 0) ≤ wr x6 → (ix x6 6 ∧ ((wr (rd w 82 x6) = wr x4 → (ix x6 6 ∧ (∀ w5, w5 = wt w 82 x6 x5 → (X11_partsOf_l81 r1 Q e116 n) x2 x3 x4 x5 (x6 + 1) w5))) ∧ (¬ wr (rd w 82 x6) = wr x4 → (X11_partsOf_l81 r1 Q e116 n) x2 x3 x4 x5 (x6 + 1) w))))))
theorem t_X11_partsOf_l81 {Z : Zw} {E : Amb} {r1 : Nat} {Q : Int → Wd → Prop} {e116 : Int → Int → Wd → Prop} (C : Cx Z (adA Z) E cX11_partsOf "HandleFacesModel" 7 rm_X11_partsOf) (R : Rt Z E (some .int) (qI Z Q)) (h1 : shp r1 = (1, 98, [])) (he116 : ∀ (x2 : Int) (x3 : Int) (w : Wd), e116 x2 x3 w → V Z (adA Z) E 7 w 116 [(0, rv Z 65), (1, rv Z r1), (2, iv x2), (3, iv x3)] []) : ∀ (n : Nat) (x2 : Int) (x3 : Int) (x4 : Int) (x5 : Int) (x6 : Int) (w : Wd), X11_partsOf_l81 r1 Q e116 n x2 x3 x4 x5 x6 w → V Z (adA Z) E 7 w 81 [(0, rv Z 65), (1, rv Z r1), (2, iv x2), (3, iv x3), (4, iv x4), (5, iv x5), (6, iv x6)] [] := by
  intro n
  induction n with
  | zero => intro x2 x3 x4 x5 x6 w h; exact h.elim
  | succ n ih =>
    intro x2 x3 x4 x5 x6 w h
    unfold X11_partsOf_l81 at h
    refine v_iload C dX11_partsOf_81 6 rfl ?_
    refine v_aload_n C dX11_partsOf_83 1 rfl ?_
    refine v_iconst C dX11_partsOf_84 ?_
    refine v_iald C h1 h.1 dX11_partsOf_85 ?_
    have h := h.2
    refine v_icmp_ge C 116 dX11_partsOf_86 (by decide) (fun q => ?_) (fun q => ?_)
    · have h := h.1 q
      refine v_sub [0, 1, 2, 3] rfl ?_
      exact he116 _ _ _ h
    · have h := h.2 q
      refine v_aload_n C dX11_partsOf_89 0 rfl ?_
      refine g_X11_partOf C wd_1100 dX11_partsOf_90 ?_
      refine v_iload C dX11_partsOf_93 6 rfl ?_
      refine v_iald C rfl h.1 dX11_partsOf_95 ?_
      have h := h.2
      refine v_iload C dX11_partsOf_96 4 rfl ?_
      refine v_icmp_ne C 110 dX11_partsOf_98 (by decide) (fun q => ?_) (fun q => ?_)
      · have h := h.2 q
        refine v_iinc C [(6, _), (0, _), (1, _), (2, _), (3, _), (4, _), (5, _)] dX11_partsOf_110 6 rfl (by decide) rfl ?_
        refine v_goto C 81 dX11_partsOf_113 (by decide) ?_
        refine v_sub [1, 2, 3, 4, 5, 6, 0] rfl ?_
        exact ih _ _ _ _ _ _ h
      · have h := h.1 q
        refine v_aload_n C dX11_partsOf_101 0 rfl ?_
        refine g_X11_partOf C wd_1100 dX11_partsOf_102 ?_
        refine v_iload C dX11_partsOf_105 6 rfl ?_
        refine v_iload C dX11_partsOf_107 5 rfl ?_
        refine v_iast C rfl h.1 dX11_partsOf_109 ?_
        have h := h.2
        have h := h _ rfl
        refine v_iinc C [(6, _), (0, _), (1, _), (2, _), (3, _), (4, _), (5, _)] dX11_partsOf_110 6 rfl (by decide) rfl ?_
        refine v_goto C 81 dX11_partsOf_113 (by decide) ?_
        refine v_sub [1, 2, 3, 4, 5, 6, 0] rfl ?_
        exact ih _ _ _ _ _ _ h
def X11_partsOf_b116 (r1 : Nat) (Q : Int → Wd → Prop) (c28 : Int → Int → Wd → Prop) (e122 : Int → Wd → Prop) (x2 : Int) (x3 : Int) (w : Wd) : Prop := c28 x2 (x3 + 1) w
theorem t_X11_partsOf_b116 {Z : Zw} {E : Amb} {r1 : Nat} {Q : Int → Wd → Prop} {c28 : Int → Int → Wd → Prop} {e122 : Int → Wd → Prop} (C : Cx Z (adA Z) E cX11_partsOf "HandleFacesModel" 7 rm_X11_partsOf) (R : Rt Z E (some .int) (qI Z Q)) (h1 : shp r1 = (1, 98, [])) (hc28 : ∀ (x2 : Int) (x3 : Int) (w : Wd), c28 x2 x3 w → V Z (adA Z) E 7 w 28 [(0, rv Z 65), (1, rv Z r1), (2, iv x2), (3, iv x3)] []) (he122 : ∀ (x2 : Int) (w : Wd), e122 x2 w → V Z (adA Z) E 7 w 122 [(2, iv x2)] []) : ∀ (x2 : Int) (x3 : Int) (w : Wd), X11_partsOf_b116 r1 Q c28 e122 x2 x3 w → V Z (adA Z) E 7 w 116 [(0, rv Z 65), (1, rv Z r1), (2, iv x2), (3, iv x3)] [] := by
  intro x2 x3 w h
  unfold X11_partsOf_b116 at h
  refine v_iinc C [(3, _), (0, _), (1, _), (2, _)] dX11_partsOf_116 3 rfl (by decide) rfl ?_
  refine v_goto C 28 dX11_partsOf_119 (by decide) ?_
  refine v_sub [1, 2, 3, 0] rfl ?_
  exact hc28 _ _ _ h
def X11_partsOf_l28 (r1 : Nat) (Q : Int → Wd → Prop) (e122 : Int → Wd → Prop) : Nat → Int → Int → Wd → Prop
  | 0 => fun _ _ _ => False
  | n + 1 => fun x2 x3 w => (ix 1 98 ∧ ((wr (rd w r1 1) ≤ wr x3 → e122 x2 w) ∧ (¬ wr (rd w r1 1) ≤ wr x3 → (ix (2 + (2 * x3)) 98 ∧ (ix (rd w r1 (2 + (2 * x3))) 6 ∧ (∀ y3, y3 = (rd w 82 (rd w r1 (2 + (2 * x3)))) → (ix ((2 + (2 * x3)) + 1) 98 ∧ (ix (rd w r1 ((2 + (2 * x3)) + 1)) 6 ∧ (∀ y4, y4 = (rd w 82 (rd w r1 ((2 + (2 * x3)) + 1))) → ((wr y3 = wr y4 → X11_partsOf_b116 r1 Q (X11_partsOf_l28 r1 Q e122 n) e122 x2 x3 w) ∧ (¬ wr y3 = wr y4 → (∃ m, X11_partsOf_l81 r1 Q (X11_partsOf_b116 r1 Q (X11_partsOf_l28 r1 Q e122 n) e122) m (x2 + (-1)) x3 y3 y4 0 w))))))))))))
theorem t_X11_partsOf_l28 {Z : Zw} {E : Amb} {r1 : Nat} {Q : Int → Wd → Prop} {e122 : Int → Wd → Prop} (C : Cx Z (adA Z) E cX11_partsOf "HandleFacesModel" 7 rm_X11_partsOf) (R : Rt Z E (some .int) (qI Z Q)) (h1 : shp r1 = (1, 98, [])) (he122 : ∀ (x2 : Int) (w : Wd), e122 x2 w → V Z (adA Z) E 7 w 122 [(2, iv x2)] []) : ∀ (n : Nat) (x2 : Int) (x3 : Int) (w : Wd), X11_partsOf_l28 r1 Q e122 n x2 x3 w → V Z (adA Z) E 7 w 28 [(0, rv Z 65), (1, rv Z r1), (2, iv x2), (3, iv x3)] [] := by
  intro n
  induction n with
  | zero => intro x2 x3 w h; exact h.elim
  | succ n ih =>
    intro x2 x3 w h
    unfold X11_partsOf_l28 at h
    refine v_iload_n C dX11_partsOf_28 3 rfl ?_
    refine v_aload_n C dX11_partsOf_29 1 rfl ?_
    refine v_iconst C dX11_partsOf_30 ?_
    refine v_iald C h1 h.1 dX11_partsOf_31 ?_
    have h := h.2
    refine v_icmp_ge C 122 dX11_partsOf_32 (by decide) (fun q => ?_) (fun q => ?_)
    · have h := h.1 q
      refine v_sub [2] rfl ?_
      exact he122 _ _ h
    · have h := h.2 q
      refine v_aload_n C dX11_partsOf_35 0 rfl ?_
      refine g_X11_partOf C wd_1100 dX11_partsOf_36 ?_
      refine v_aload_n C dX11_partsOf_39 1 rfl ?_
      refine v_iconst C dX11_partsOf_40 ?_
      refine v_iconst C dX11_partsOf_41 ?_
      refine v_iload_n C dX11_partsOf_42 3 rfl ?_
      refine v_imul C dX11_partsOf_43 ?_
      refine v_iadd C dX11_partsOf_44 ?_
      refine v_iald C h1 h.1 dX11_partsOf_45 ?_
      have h := h.2
      refine v_iald C rfl h.1 dX11_partsOf_46 ?_
      have h := h.2
      refine v_istore C [(4, _), (0, _), (1, _), (2, _), (3, _)] dX11_partsOf_47 (by decide) rfl ?_
      have h := h _ rfl
      refine v_aload_n C dX11_partsOf_49 1 rfl ?_
      refine g_X11_partOf C wd_1100 dX11_partsOf_50 ?_
      refine v_aload_n C dX11_partsOf_53 2 rfl ?_
      refine v_iconst C dX11_partsOf_54 ?_
      refine v_iconst C dX11_partsOf_55 ?_
      refine v_iload_n C dX11_partsOf_56 4 rfl ?_
      refine v_imul C dX11_partsOf_57 ?_
      refine v_iadd C dX11_partsOf_58 ?_
      refine v_iconst C dX11_partsOf_59 ?_
      refine v_iadd C dX11_partsOf_60 ?_
      refine v_iald C h1 h.1 dX11_partsOf_61 ?_
      have h := h.2
      refine v_iald C rfl h.1 dX11_partsOf_62 ?_
      have h := h.2
      refine v_istore C [(5, _), (4, _), (0, _), (1, _), (2, _), (3, _)] dX11_partsOf_63 (by decide) rfl ?_
      have h := h _ rfl
      refine v_iload C dX11_partsOf_65 1 rfl ?_
      refine v_iload C dX11_partsOf_67 0 rfl ?_
      refine v_icmp_ne C 75 dX11_partsOf_69 (by decide) (fun q => ?_) (fun q => ?_)
      · have h := h.2 q
        refine v_iinc C [(2, _), (5, _), (4, _), (0, _), (1, _), (3, _)] dX11_partsOf_75 4 rfl (by decide) rfl ?_
        refine v_iconst C dX11_partsOf_78 ?_
        refine v_istore C [(6, _), (2, _), (5, _), (4, _), (0, _), (1, _), (3, _)] dX11_partsOf_79 (by decide) rfl ?_
        refine v_sub [4, 5, 1, 6, 3, 2, 0] rfl ?_
        obtain ⟨m, h⟩ := h
        exact t_X11_partsOf_l81 C R h1 (t_X11_partsOf_b116 C R h1 ih he122) m _ _ _ _ _ _ h
      · have h := h.1 q
        refine v_goto C 116 dX11_partsOf_72 (by decide) ?_
        refine v_sub [2, 3, 4, 5] rfl ?_
        exact t_X11_partsOf_b116 C R h1 ih he122 _ _ _ h
def X11_partsOf_b122 (r1 : Nat) (Q : Int → Wd → Prop) (x2 : Int) (w : Wd) : Prop := Q (wr x2) w
theorem t_X11_partsOf_b122 {Z : Zw} {E : Amb} {r1 : Nat} {Q : Int → Wd → Prop} (C : Cx Z (adA Z) E cX11_partsOf "HandleFacesModel" 7 rm_X11_partsOf) (R : Rt Z E (some .int) (qI Z Q)) (h1 : shp r1 = (1, 98, [])) : ∀ (x2 : Int) (w : Wd), X11_partsOf_b122 r1 Q x2 w → V Z (adA Z) E 7 w 122 [(2, iv x2)] [] := by
  intro x2 w h
  unfold X11_partsOf_b122 at h
  refine v_iload_n C dX11_partsOf_122 0 rfl ?_
  exact v_iret C R h dX11_partsOf_123
def X11_partsOf_b26 (r1 : Nat) (Q : Int → Wd → Prop) (x2 : Int) (w : Wd) : Prop := (∃ m, X11_partsOf_l28 r1 Q (X11_partsOf_b122 r1 Q) m x2 0 w)
theorem t_X11_partsOf_b26 {Z : Zw} {E : Amb} {r1 : Nat} {Q : Int → Wd → Prop} (C : Cx Z (adA Z) E cX11_partsOf "HandleFacesModel" 7 rm_X11_partsOf) (R : Rt Z E (some .int) (qI Z Q)) (h1 : shp r1 = (1, 98, [])) : ∀ (x2 : Int) (w : Wd), X11_partsOf_b26 r1 Q x2 w → V Z (adA Z) E 7 w 26 [(0, rv Z 65), (1, rv Z r1), (2, iv x2)] [] := by
  intro x2 w h
  unfold X11_partsOf_b26 at h
  refine v_iconst C dX11_partsOf_26 ?_
  refine v_istore_n C [(3, _), (0, _), (1, _), (2, _)] dX11_partsOf_27 3 rfl (by decide) rfl ?_
  refine v_sub [1, 2, 3, 0] rfl ?_
  obtain ⟨m, h⟩ := h
  exact t_X11_partsOf_l28 C R h1 (t_X11_partsOf_b122 C R h1) m _ _ _ h
def X11_partsOf (r1 : Nat) (w : Wd) (Q : Int → Wd → Prop) : Prop := (ix 0 98 ∧ (∀ y1, y1 = (rd w r1 0) → (∃ m, X11_partsOf_l6 r1 Q (X11_partsOf_b26 r1 Q) m y1 0 w)))
theorem m_X11_partsOf {Z : Zw} {l : Launch} {r1 : Nat} {w : Wd} {Q : Int → Wd → Prop} (h1 : shp r1 = (1, 98, [])) (h : X11_partsOf r1 w Q) : CtQ Z l yX11_partsOf cX11_partsOf 7 (some .int) rm_X11_partsOf [rv Z 65, rv Z r1] w (qI Z Q) := by
  refine ct_of (by decide) (Nat.le_of_ble_eq_true rfl) (fun E eE C R => ?_)
  subst eE
  have C : Cx Z (adA Z) E cX11_partsOf "HandleFacesModel" 7 rm_X11_partsOf := C
  unfold X11_partsOf at h
  show V Z (adA Z) E 7 w 0 [(0, rv Z 65), (1, rv Z r1)] []
  refine v_aload_n C dX11_partsOf_0 1 rfl ?_
  refine v_iconst C dX11_partsOf_1 ?_
  refine v_iald C h1 h.1 dX11_partsOf_2 ?_
  have h := h.2
  refine v_istore_n C [(2, _), (0, _), (1, _)] dX11_partsOf_3 2 rfl (by decide) rfl ?_
  have h := h _ rfl
  refine v_iconst C dX11_partsOf_4 ?_
  refine v_istore_n C [(3, _), (2, _), (0, _), (1, _)] dX11_partsOf_5 3 rfl (by decide) rfl ?_
  refine v_sub [2, 3, 1, 0] rfl ?_
  obtain ⟨m, h⟩ := h
  exact t_X11_partsOf_l6 C R h1 (t_X11_partsOf_b26 C R h1) m _ _ _ h
abbrev rm_X11_euler : Room := { frames := 3, cells := 0, slots := 0, locals := 76 }
theorem mf_X11_euler : MfB yX11_euler cX11_euler 2 (some .int) 1 := ⟨wd_1403, wd_13, by decide, by decide, by decide +kernel⟩
def X11_euler (r1 : Nat) (w : Wd) (Q : Int → Wd → Prop) : Prop := (ix 0 98 ∧ (ix 1 98 ∧ X11_traces r1 w (fun y2 w1 => Q (wr (((rd w r1 0) - (rd w r1 1)) + y2)) w1)))
theorem m_X11_euler {Z : Zw} {l : Launch} {r1 : Nat} {w : Wd} {Q : Int → Wd → Prop} (h1 : shp r1 = (1, 98, [])) (h : X11_euler r1 w Q) : CtQ Z l yX11_euler cX11_euler 2 (some .int) rm_X11_euler [rv Z 65, rv Z r1] w (qI Z Q) := by
  refine ct_of (by decide) (Nat.le_of_ble_eq_true rfl) (fun E eE C R => ?_)
  subst eE
  have C : Cx Z (adA Z) E cX11_euler "HandleFacesModel" 2 rm_X11_euler := C
  unfold X11_euler at h
  show V Z (adA Z) E 2 w 0 [(0, rv Z 65), (1, rv Z r1)] []
  refine v_aload_n C dX11_euler_0 1 rfl ?_
  refine v_iconst C dX11_euler_1 ?_
  refine v_iald C h1 h.1 dX11_euler_2 ?_
  have h := h.2
  refine v_aload_n C dX11_euler_3 1 rfl ?_
  refine v_iconst C dX11_euler_4 ?_
  refine v_iald C h1 h.1 dX11_euler_5 ?_
  have h := h.2
  refine v_isub C dX11_euler_6 ?_
  refine v_aload_n C dX11_euler_7 0 rfl ?_
  refine v_aload_n C dX11_euler_8 1 rfl ?_
  refine v_calli C (rn_V C _ (m_X11_traces h1 h) mf_X11_traces wd_1375 wp_62 wd_1373 rfl rfl ⟨(Nat.le_of_ble_eq_true rfl), (Nat.le_of_ble_eq_true rfl)⟩ rfl rfl rfl rfl (Nat.le_of_ble_eq_true rfl) dX11_euler_9) (fun r w h => ?_)
  refine v_iadd C dX11_euler_12 ?_
  exact v_iret C R h dX11_euler_13
abbrev rm_X11_turnsRight : Room := { frames := 1, cells := 0, slots := 0, locals := 21 }
theorem mf_X11_turnsRight : MfB yX11_turnsRight cX11_turnsRight 5 (some .boolean) 0 := ⟨wd_1407, wd_13, by decide, by decide, by decide +kernel⟩
def X11_turnsRight_b88 (Q : Int → Wd → Prop) (c18 : Int → Int → Int → Wd → Prop) (e99 : Int → Int → Wd → Prop) (x1 : Int) (x2 : Int) (x3 : Int) (s0 : Int) (s1 : Int) (w : Wd) : Prop := ((wr s1 = wr s0 → c18 x1 x2 (x3 + 1) w) ∧ (¬ wr s1 = wr s0 → c18 x1 0 (x3 + 1) w))
theorem t_X11_turnsRight_b88 {Z : Zw} {E : Amb} {Q : Int → Wd → Prop} {c18 : Int → Int → Int → Wd → Prop} {e99 : Int → Int → Wd → Prop} (C : Cx Z (adA Z) E cX11_turnsRight "HandleFacesModel" 5 rm_X11_turnsRight) (R : Rt Z E (some .boolean) (qI Z Q)) (hc18 : ∀ (x1 : Int) (x2 : Int) (x3 : Int) (w : Wd), c18 x1 x2 x3 w → V Z (adA Z) E 5 w 18 [(0, rv Z 65), (1, iv x1), (2, iv x2), (3, iv x3)] []) (he99 : ∀ (x1 : Int) (x2 : Int) (w : Wd), e99 x1 x2 w → V Z (adA Z) E 5 w 99 [(0, rv Z 65), (1, iv x1), (2, iv x2)] []) : ∀ (x1 : Int) (x2 : Int) (x3 : Int) (s0 : Int) (s1 : Int) (w : Wd), X11_turnsRight_b88 Q c18 e99 x1 x2 x3 s0 s1 w → V Z (adA Z) E 5 w 88 [(0, rv Z 65), (1, iv x1), (2, iv x2), (3, iv x3)] [iv s0, iv s1] := by
  intro x1 x2 x3 s0 s1 w h
  unfold X11_turnsRight_b88 at h
  refine v_icmp_eq C 93 dX11_turnsRight_88 (by decide) (fun q => ?_) (fun q => ?_)
  · have h := h.1 q
    refine v_iinc C [(3, _), (0, _), (1, _), (2, _)] dX11_turnsRight_93 3 rfl (by decide) rfl ?_
    refine v_goto C 18 dX11_turnsRight_96 (by decide) ?_
    refine v_sub [1, 2, 3, 0] rfl ?_
    exact hc18 _ _ _ _ h
  · have h := h.2 q
    refine v_iconst C dX11_turnsRight_91 ?_
    refine v_istore_n C [(2, _), (0, _), (1, _), (3, _)] dX11_turnsRight_92 2 rfl (by decide) rfl ?_
    refine v_iinc C [(3, _), (2, _), (0, _), (1, _)] dX11_turnsRight_93 3 rfl (by decide) rfl ?_
    refine v_goto C 18 dX11_turnsRight_96 (by decide) ?_
    refine v_sub [2, 3, 1, 0] rfl ?_
    exact hc18 _ _ _ _ h
def X11_turnsRight_b66 (Q : Int → Wd → Prop) (c18 : Int → Int → Int → Wd → Prop) (e99 : Int → Int → Wd → Prop) (x1 : Int) (x2 : Int) (x3 : Int) (s0 : Int) (w : Wd) : Prop := (ix (22 + x3) 98 ∧ ((wr (rd w 73 (22 + x3)) = wr 1 → X11_turnsRight_b88 Q c18 e99 x1 x2 x3 1 s0 w) ∧ (¬ wr (rd w 73 (22 + x3)) = wr 1 → X11_turnsRight_b88 Q c18 e99 x1 x2 x3 0 s0 w)))
theorem t_X11_turnsRight_b66 {Z : Zw} {E : Amb} {Q : Int → Wd → Prop} {c18 : Int → Int → Int → Wd → Prop} {e99 : Int → Int → Wd → Prop} (C : Cx Z (adA Z) E cX11_turnsRight "HandleFacesModel" 5 rm_X11_turnsRight) (R : Rt Z E (some .boolean) (qI Z Q)) (hc18 : ∀ (x1 : Int) (x2 : Int) (x3 : Int) (w : Wd), c18 x1 x2 x3 w → V Z (adA Z) E 5 w 18 [(0, rv Z 65), (1, iv x1), (2, iv x2), (3, iv x3)] []) (he99 : ∀ (x1 : Int) (x2 : Int) (w : Wd), e99 x1 x2 w → V Z (adA Z) E 5 w 99 [(0, rv Z 65), (1, iv x1), (2, iv x2)] []) : ∀ (x1 : Int) (x2 : Int) (x3 : Int) (s0 : Int) (w : Wd), X11_turnsRight_b66 Q c18 e99 x1 x2 x3 s0 w → V Z (adA Z) E 5 w 66 [(0, rv Z 65), (1, iv x1), (2, iv x2), (3, iv x3)] [iv s0] := by
  intro x1 x2 x3 s0 w h
  unfold X11_turnsRight_b66 at h
  refine v_istore C [(4, _), (0, _), (1, _), (2, _), (3, _)] dX11_turnsRight_66 (by decide) rfl ?_
  refine v_iload C dX11_turnsRight_68 0 rfl ?_
  refine v_aload_n C dX11_turnsRight_70 1 rfl ?_
  refine g_X11_now C wd_1087 dX11_turnsRight_71 ?_
  refine v_bipush C dX11_turnsRight_74 (by decide) ?_
  refine v_iload_n C dX11_turnsRight_76 4 rfl ?_
  refine v_iadd C dX11_turnsRight_77 ?_
  refine v_iald C rfl h.1 dX11_turnsRight_78 ?_
  have h := h.2
  refine v_iconst C dX11_turnsRight_79 ?_
  refine v_icmp_ne C 87 dX11_turnsRight_80 (by decide) (fun q => ?_) (fun q => ?_)
  · have h := h.2 q
    refine v_iconst C dX11_turnsRight_87 ?_
    refine v_sub [1, 2, 3, 4] rfl ?_
    exact t_X11_turnsRight_b88 C R hc18 he99 _ _ _ _ _ _ h
  · have h := h.1 q
    refine v_iconst C dX11_turnsRight_83 ?_
    refine v_goto C 88 dX11_turnsRight_84 (by decide) ?_
    refine v_sub [1, 2, 3, 4] rfl ?_
    exact t_X11_turnsRight_b88 C R hc18 he99 _ _ _ _ _ _ h
def X11_turnsRight_l18 (Q : Int → Wd → Prop) (e99 : Int → Int → Wd → Prop) : Nat → Int → Int → Int → Wd → Prop
  | 0 => fun _ _ _ _ => False
  | n + 1 => fun x1 x2 x3 w => (ix 1 98 ∧ ((wr (rd w 73 1) ≤ wr x3 → e99 x1 x2 w) ∧ (¬ wr (rd w 73 1) ≤ wr x3 → (ix (2 + (2 * x3)) 98 ∧ X11_has x1 (rd w 73 (2 + (2 * x3))) w (fun y2 w1 => (ix ((2 + (2 * x3)) + 1) 98 ∧ X11_has x1 (rd w1 73 ((2 + (2 * x3)) + 1)) w1 (fun y4 w3 => ((wr y2 = wr y4 → X11_turnsRight_b66 Q (X11_turnsRight_l18 Q e99 n) e99 x1 x2 x3 0 w3) ∧ (¬ wr y2 = wr y4 → X11_turnsRight_b66 Q (X11_turnsRight_l18 Q e99 n) e99 x1 x2 x3 1 w3)))))))))
theorem t_X11_turnsRight_l18 {Z : Zw} {E : Amb} {Q : Int → Wd → Prop} {e99 : Int → Int → Wd → Prop} (C : Cx Z (adA Z) E cX11_turnsRight "HandleFacesModel" 5 rm_X11_turnsRight) (R : Rt Z E (some .boolean) (qI Z Q)) (he99 : ∀ (x1 : Int) (x2 : Int) (w : Wd), e99 x1 x2 w → V Z (adA Z) E 5 w 99 [(0, rv Z 65), (1, iv x1), (2, iv x2)] []) : ∀ (n : Nat) (x1 : Int) (x2 : Int) (x3 : Int) (w : Wd), X11_turnsRight_l18 Q e99 n x1 x2 x3 w → V Z (adA Z) E 5 w 18 [(0, rv Z 65), (1, iv x1), (2, iv x2), (3, iv x3)] [] := by
  intro n
  induction n with
  | zero => intro x1 x2 x3 w h; exact h.elim
  | succ n ih =>
    intro x1 x2 x3 w h
    unfold X11_turnsRight_l18 at h
    refine v_iload_n C dX11_turnsRight_18 3 rfl ?_
    refine v_aload_n C dX11_turnsRight_19 0 rfl ?_
    refine g_X11_now C wd_1087 dX11_turnsRight_20 ?_
    refine v_iconst C dX11_turnsRight_23 ?_
    refine v_iald C rfl h.1 dX11_turnsRight_24 ?_
    have h := h.2
    refine v_icmp_ge C 99 dX11_turnsRight_25 (by decide) (fun q => ?_) (fun q => ?_)
    · have h := h.1 q
      refine v_sub [0, 1, 2] rfl ?_
      exact he99 _ _ _ h
    · have h := h.2 q
      refine v_iload_n C dX11_turnsRight_28 1 rfl ?_
      refine v_aload_n C dX11_turnsRight_29 0 rfl ?_
      refine g_X11_now C wd_1087 dX11_turnsRight_30 ?_
      refine v_iconst C dX11_turnsRight_33 ?_
      refine v_iconst C dX11_turnsRight_34 ?_
      refine v_iload_n C dX11_turnsRight_35 3 rfl ?_
      refine v_imul C dX11_turnsRight_36 ?_
      refine v_iadd C dX11_turnsRight_37 ?_
      refine v_iald C rfl h.1 dX11_turnsRight_38 ?_
      have h := h.2
      refine v_calli C (rn_S C _ (m_X11_has h) mf_X11_has wd_1283 wd_1282 rfl rfl ⟨(Nat.le_of_ble_eq_true rfl), (Nat.le_of_ble_eq_true rfl)⟩ rfl rfl (Nat.le_of_ble_eq_true rfl) dX11_turnsRight_39) (fun r w h => ?_)
      refine v_iload_n C dX11_turnsRight_42 1 rfl ?_
      refine v_aload_n C dX11_turnsRight_43 0 rfl ?_
      refine g_X11_now C wd_1087 dX11_turnsRight_44 ?_
      refine v_iconst C dX11_turnsRight_47 ?_
      refine v_iconst C dX11_turnsRight_48 ?_
      refine v_iload_n C dX11_turnsRight_49 3 rfl ?_
      refine v_imul C dX11_turnsRight_50 ?_
      refine v_iadd C dX11_turnsRight_51 ?_
      refine v_iconst C dX11_turnsRight_52 ?_
      refine v_iadd C dX11_turnsRight_53 ?_
      refine v_iald C rfl h.1 dX11_turnsRight_54 ?_
      have h := h.2
      refine v_calli C (rn_S C _ (m_X11_has h) mf_X11_has wd_1283 wd_1282 rfl rfl ⟨(Nat.le_of_ble_eq_true rfl), (Nat.le_of_ble_eq_true rfl)⟩ rfl rfl (Nat.le_of_ble_eq_true rfl) dX11_turnsRight_55) (fun r w h => ?_)
      refine v_icmp_eq C 65 dX11_turnsRight_58 (by decide) (fun q => ?_) (fun q => ?_)
      · have h := h.1 q
        refine v_iconst C dX11_turnsRight_65 ?_
        exact t_X11_turnsRight_b66 C R ih he99 _ _ _ _ _ h
      · have h := h.2 q
        refine v_iconst C dX11_turnsRight_61 ?_
        refine v_goto C 66 dX11_turnsRight_62 (by decide) ?_
        exact t_X11_turnsRight_b66 C R ih he99 _ _ _ _ _ h
def X11_turnsRight_b99 (Q : Int → Wd → Prop) (c2 : Int → Wd → Prop) (e103 : Wd → Prop) (e111 : Wd → Prop) (x1 : Int) (x2 : Int) (w : Wd) : Prop := ((wr x2 = 0 → c2 (x1 + 1) w) ∧ (¬ wr x2 = 0 → e103 w))
theorem t_X11_turnsRight_b99 {Z : Zw} {E : Amb} {Q : Int → Wd → Prop} {c2 : Int → Wd → Prop} {e103 : Wd → Prop} {e111 : Wd → Prop} (C : Cx Z (adA Z) E cX11_turnsRight "HandleFacesModel" 5 rm_X11_turnsRight) (R : Rt Z E (some .boolean) (qI Z Q)) (hc2 : ∀ (x1 : Int) (w : Wd), c2 x1 w → V Z (adA Z) E 5 w 2 [(0, rv Z 65), (1, iv x1)] []) (he103 : ∀ (w : Wd), e103 w → V Z (adA Z) E 5 w 103 [] []) (he111 : ∀ (w : Wd), e111 w → V Z (adA Z) E 5 w 111 [] []) : ∀ (x1 : Int) (x2 : Int) (w : Wd), X11_turnsRight_b99 Q c2 e103 e111 x1 x2 w → V Z (adA Z) E 5 w 99 [(0, rv Z 65), (1, iv x1), (2, iv x2)] [] := by
  intro x1 x2 w h
  unfold X11_turnsRight_b99 at h
  refine v_iload_n C dX11_turnsRight_99 2 rfl ?_
  refine v_if_eq C 105 dX11_turnsRight_100 (by decide) (fun q => ?_) (fun q => ?_)
  · have h := h.1 q
    refine v_iinc C [(1, _), (0, _), (2, _)] dX11_turnsRight_105 1 rfl (by decide) rfl ?_
    refine v_goto C 2 dX11_turnsRight_108 (by decide) ?_
    refine v_sub [1, 0] rfl ?_
    exact hc2 _ _ h
  · have h := h.2 q
    refine v_sub [] rfl ?_
    exact he103 _ h
def X11_turnsRight_l2 (Q : Int → Wd → Prop) (e103 : Wd → Prop) (e111 : Wd → Prop) : Nat → Int → Wd → Prop
  | 0 => fun _ _ => False
  | n + 1 => fun x1 w => (ix 0 98 ∧ ((wr (isl 1 (rd w 73 0)) ≤ wr x1 → e111 w) ∧ (¬ wr (isl 1 (rd w 73 0)) ≤ wr x1 → (∃ m, X11_turnsRight_l18 Q (X11_turnsRight_b99 Q (X11_turnsRight_l2 Q e103 e111 n) e103 e111) m x1 1 0 w))))
theorem t_X11_turnsRight_l2 {Z : Zw} {E : Amb} {Q : Int → Wd → Prop} {e103 : Wd → Prop} {e111 : Wd → Prop} (C : Cx Z (adA Z) E cX11_turnsRight "HandleFacesModel" 5 rm_X11_turnsRight) (R : Rt Z E (some .boolean) (qI Z Q)) (he103 : ∀ (w : Wd), e103 w → V Z (adA Z) E 5 w 103 [] []) (he111 : ∀ (w : Wd), e111 w → V Z (adA Z) E 5 w 111 [] []) : ∀ (n : Nat) (x1 : Int) (w : Wd), X11_turnsRight_l2 Q e103 e111 n x1 w → V Z (adA Z) E 5 w 2 [(0, rv Z 65), (1, iv x1)] [] := by
  intro n
  induction n with
  | zero => intro x1 w h; exact h.elim
  | succ n ih =>
    intro x1 w h
    unfold X11_turnsRight_l2 at h
    refine v_iload_n C dX11_turnsRight_2 1 rfl ?_
    refine v_iconst C dX11_turnsRight_3 ?_
    refine v_aload_n C dX11_turnsRight_4 0 rfl ?_
    refine g_X11_now C wd_1087 dX11_turnsRight_5 ?_
    refine v_iconst C dX11_turnsRight_8 ?_
    refine v_iald C rfl h.1 dX11_turnsRight_9 ?_
    have h := h.2
    refine v_ishl C dX11_turnsRight_10 ?_
    refine v_icmp_ge C 111 dX11_turnsRight_11 (by decide) (fun q => ?_) (fun q => ?_)
    · have h := h.1 q
      refine v_sub [] rfl ?_
      exact he111 _ h
    · have h := h.2 q
      refine v_iconst C dX11_turnsRight_14 ?_
      refine v_istore_n C [(2, _), (0, _), (1, _)] dX11_turnsRight_15 2 rfl (by decide) rfl ?_
      refine v_iconst C dX11_turnsRight_16 ?_
      refine v_istore_n C [(3, _), (2, _), (0, _), (1, _)] dX11_turnsRight_17 3 rfl (by decide) rfl ?_
      refine v_sub [2, 3, 1, 0] rfl ?_
      obtain ⟨m, h⟩ := h
      exact t_X11_turnsRight_l18 C R (t_X11_turnsRight_b99 C R ih he103 he111) m _ _ _ _ h
def X11_turnsRight_b103 (Q : Int → Wd → Prop) (w : Wd) : Prop := Q 1 w
theorem t_X11_turnsRight_b103 {Z : Zw} {E : Amb} {Q : Int → Wd → Prop} (C : Cx Z (adA Z) E cX11_turnsRight "HandleFacesModel" 5 rm_X11_turnsRight) (R : Rt Z E (some .boolean) (qI Z Q)) : ∀ (w : Wd), X11_turnsRight_b103 Q w → V Z (adA Z) E 5 w 103 [] [] := by
  intro w h
  unfold X11_turnsRight_b103 at h
  refine v_iconst C dX11_turnsRight_103 ?_
  exact v_zret C R (Or.inr rfl) h dX11_turnsRight_104
def X11_turnsRight_b111 (Q : Int → Wd → Prop) (w : Wd) : Prop := Q 0 w
theorem t_X11_turnsRight_b111 {Z : Zw} {E : Amb} {Q : Int → Wd → Prop} (C : Cx Z (adA Z) E cX11_turnsRight "HandleFacesModel" 5 rm_X11_turnsRight) (R : Rt Z E (some .boolean) (qI Z Q)) : ∀ (w : Wd), X11_turnsRight_b111 Q w → V Z (adA Z) E 5 w 111 [] [] := by
  intro w h
  unfold X11_turnsRight_b111 at h
  refine v_iconst C dX11_turnsRight_111 ?_
  exact v_zret C R (Or.inl rfl) h dX11_turnsRight_112
def X11_turnsRight (w : Wd) (Q : Int → Wd → Prop) : Prop := (∃ m, X11_turnsRight_l2 Q (X11_turnsRight_b103 Q) (X11_turnsRight_b111 Q) m 0 w)
theorem m_X11_turnsRight {Z : Zw} {l : Launch} {w : Wd} {Q : Int → Wd → Prop} (h : X11_turnsRight w Q) : CtQ Z l yX11_turnsRight cX11_turnsRight 5 (some .boolean) rm_X11_turnsRight [rv Z 65] w (qI Z Q) := by
  refine ct_of (by decide) (Nat.le_of_ble_eq_true rfl) (fun E eE C R => ?_)
  subst eE
  have C : Cx Z (adA Z) E cX11_turnsRight "HandleFacesModel" 5 rm_X11_turnsRight := C
  unfold X11_turnsRight at h
  show V Z (adA Z) E 5 w 0 [(0, rv Z 65)] []
  refine v_iconst C dX11_turnsRight_0 ?_
  refine v_istore_n C [(1, _), (0, _)] dX11_turnsRight_1 1 rfl (by decide) rfl ?_
  refine v_sub [1, 0] rfl ?_
  obtain ⟨m, h⟩ := h
  exact t_X11_turnsRight_l2 C R (t_X11_turnsRight_b103 C R) (t_X11_turnsRight_b111 C R) m _ _ h
abbrev rm_X11_line : Room := { frames := 3, cells := 0, slots := 0, locals := 76 }
theorem mf_X11_line : MfB yX11_line cX11_line 6 (some .int) 2 := ⟨wd_1372, wd_13, by decide, by decide, by decide +kernel⟩
def X11_line_b106 (Q : Int → Wd → Prop) (x4 : Int) (x5 : Int) (s0 : Int) (s1 : Int) (w : Wd) : Prop := ((wr s1 = wr s0 → Q (wr x4) w) ∧ (¬ wr s1 = wr s0 → Q (wr x5) w))
theorem t_X11_line_b106 {Z : Zw} {E : Amb} {Q : Int → Wd → Prop} (C : Cx Z (adA Z) E cX11_line "HandleFacesModel" 6 rm_X11_line) (R : Rt Z E (some .int) (qI Z Q)) : ∀ (x4 : Int) (x5 : Int) (s0 : Int) (s1 : Int) (w : Wd), X11_line_b106 Q x4 x5 s0 s1 w → V Z (adA Z) E 6 w 106 [(4, iv x4), (5, iv x5)] [iv s0, iv s1] := by
  intro x4 x5 s0 s1 w h
  unfold X11_line_b106 at h
  refine v_icmp_ne C 114 dX11_line_106 (by decide) (fun q => ?_) (fun q => ?_)
  · have h := h.2 q
    refine v_iload C dX11_line_114 1 rfl ?_
    exact v_iret C R h dX11_line_116
  · have h := h.1 q
    refine v_iload C dX11_line_109 0 rfl ?_
    refine v_goto C 116 dX11_line_111 (by decide) ?_
    exact v_iret C R h dX11_line_116
def X11_line_b94 (Q : Int → Wd → Prop) (x4 : Int) (x5 : Int) (s0 : Int) (w : Wd) : Prop := ((wr x5 ≤ wr x4 → X11_line_b106 Q x4 x5 0 s0 w) ∧ (¬ wr x5 ≤ wr x4 → X11_line_b106 Q x4 x5 1 s0 w))
theorem t_X11_line_b94 {Z : Zw} {E : Amb} {Q : Int → Wd → Prop} (C : Cx Z (adA Z) E cX11_line "HandleFacesModel" 6 rm_X11_line) (R : Rt Z E (some .int) (qI Z Q)) : ∀ (x4 : Int) (x5 : Int) (s0 : Int) (w : Wd), X11_line_b94 Q x4 x5 s0 w → V Z (adA Z) E 6 w 94 [(4, iv x4), (5, iv x5)] [iv s0] := by
  intro x4 x5 s0 w h
  unfold X11_line_b94 at h
  refine v_iload C dX11_line_94 0 rfl ?_
  refine v_iload C dX11_line_96 1 rfl ?_
  refine v_icmp_ge C 105 dX11_line_98 (by decide) (fun q => ?_) (fun q => ?_)
  · have h := h.1 q
    refine v_iconst C dX11_line_105 ?_
    exact t_X11_line_b106 C R _ _ _ _ _ h
  · have h := h.2 q
    refine v_iconst C dX11_line_101 ?_
    refine v_goto C 106 dX11_line_102 (by decide) ?_
    exact t_X11_line_b106 C R _ _ _ _ _ h
def X11_line (x1 : Int) (x2 : Int) (w : Wd) (Q : Int → Wd → Prop) : Prop := X11_isLine x1 w (fun y2 w1 => ((wr y2 = 0 → Q (wr (-1)) w1) ∧ (¬ wr y2 = 0 → X11_in x2 0 4 w1 (fun y4 w3 => ((wr y4 = 0 → Q (wr (-1)) w3) ∧ (¬ wr y4 = 0 → ((wr 2 ≤ wr x2 → ((wr x2 = wr 2 → (ix (22 + x1) 98 ∧ Q (wr (rd w3 73 (22 + x1))) w3)) ∧ (¬ wr x2 = wr 2 → X11_traces 73 w3 (fun y6 w5 => (ix (2 * x1) 40 ∧ (∀ y7, y7 = (rd w5 79 (2 * x1)) → (ix ((2 * x1) + 20) 40 ∧ (∀ y8, y8 = (rd w5 79 ((2 * x1) + 20)) → ((wr x2 = wr 3 → X11_line_b94 Q y7 y8 1 w5) ∧ (¬ wr x2 = wr 3 → X11_line_b94 Q y7 y8 0 w5)))))))))) ∧ (¬ wr 2 ≤ wr x2 → (ix ((2 + (2 * x1)) + x2) 98 ∧ Q (wr (rd w3 73 ((2 + (2 * x1)) + x2))) w3)))))))))
theorem m_X11_line {Z : Zw} {l : Launch} {x1 : Int} {x2 : Int} {w : Wd} {Q : Int → Wd → Prop} (h : X11_line x1 x2 w Q) : CtQ Z l yX11_line cX11_line 6 (some .int) rm_X11_line [rv Z 65, iv x1, iv x2] w (qI Z Q) := by
  refine ct_of (by decide) (Nat.le_of_ble_eq_true rfl) (fun E eE C R => ?_)
  subst eE
  have C : Cx Z (adA Z) E cX11_line "HandleFacesModel" 6 rm_X11_line := C
  unfold X11_line at h
  show V Z (adA Z) E 6 w 0 [(0, rv Z 65), (1, iv x1), (2, iv x2)] []
  refine v_aload_n C dX11_line_0 0 rfl ?_
  refine v_iload_n C dX11_line_1 1 rfl ?_
  refine v_calli C (rn_V C _ (m_X11_isLine h) mf_X11_isLine wd_1329 wp_60 wd_1327 rfl rfl ⟨(Nat.le_of_ble_eq_true rfl), (Nat.le_of_ble_eq_true rfl)⟩ rfl rfl rfl rfl (Nat.le_of_ble_eq_true rfl) dX11_line_2) (fun r w h => ?_)
  refine v_if_eq C 17 dX11_line_5 (by decide) (fun q => ?_) (fun q => ?_)
  · have h := h.1 q
    refine v_iconst C dX11_line_17 ?_
    exact v_iret C R h dX11_line_18
  · have h := h.2 q
    refine v_iload_n C dX11_line_8 2 rfl ?_
    refine v_iconst C dX11_line_9 ?_
    refine v_iconst C dX11_line_10 ?_
    refine v_calli C (rn_S C _ (m_X11_in h) mf_X11_in wd_1298 wd_1297 rfl rfl ⟨(Nat.le_of_ble_eq_true rfl), (Nat.le_of_ble_eq_true rfl)⟩ rfl rfl (Nat.le_of_ble_eq_true rfl) dX11_line_11) (fun r w h => ?_)
    refine v_if_ne C 19 dX11_line_14 (by decide) (fun q => ?_) (fun q => ?_)
    · have h := h.2 q
      refine v_iload_n C dX11_line_19 2 rfl ?_
      refine v_iconst C dX11_line_20 ?_
      refine v_icmp_ge C 37 dX11_line_21 (by decide) (fun q => ?_) (fun q => ?_)
      · have h := h.1 q
        refine v_iload_n C dX11_line_37 2 rfl ?_
        refine v_iconst C dX11_line_38 ?_
        refine v_icmp_ne C 52 dX11_line_39 (by decide) (fun q => ?_) (fun q => ?_)
        · have h := h.2 q
          refine v_aload_n C dX11_line_52 0 rfl ?_
          refine v_aload_n C dX11_line_53 0 rfl ?_
          refine g_X11_now C wd_1087 dX11_line_54 ?_
          refine v_calli C (rn_V C _ (m_X11_traces rfl h) mf_X11_traces wd_1375 wp_62 wd_1373 rfl rfl ⟨(Nat.le_of_ble_eq_true rfl), (Nat.le_of_ble_eq_true rfl)⟩ rfl rfl rfl rfl (Nat.le_of_ble_eq_true rfl) dX11_line_57) (fun r w h => ?_)
          refine v_istore_n C [(3, _), (0, _), (1, _), (2, _)] dX11_line_60 3 rfl (by decide) rfl ?_
          refine v_aload_n C dX11_line_61 1 rfl ?_
          refine g_X11_faceAt C wd_1097 dX11_line_62 ?_
          refine v_iconst C dX11_line_65 ?_
          refine v_iload_n C dX11_line_66 2 rfl ?_
          refine v_imul C dX11_line_67 ?_
          refine v_iald C rfl h.1 dX11_line_68 ?_
          have h := h.2
          refine v_istore C [(4, _), (3, _), (0, _), (1, _), (2, _)] dX11_line_69 (by decide) rfl ?_
          have h := h _ rfl
          refine v_aload_n C dX11_line_71 2 rfl ?_
          refine g_X11_faceAt C wd_1097 dX11_line_72 ?_
          refine v_iconst C dX11_line_75 ?_
          refine v_iload_n C dX11_line_76 3 rfl ?_
          refine v_imul C dX11_line_77 ?_
          refine v_bipush C dX11_line_78 (by decide) ?_
          refine v_iadd C dX11_line_80 ?_
          refine v_iald C rfl h.1 dX11_line_81 ?_
          have h := h.2
          refine v_istore C [(5, _), (4, _), (3, _), (0, _), (1, _), (2, _)] dX11_line_82 (by decide) rfl ?_
          have h := h _ rfl
          refine v_iload_n C dX11_line_84 5 rfl ?_
          refine v_iconst C dX11_line_85 ?_
          refine v_icmp_ne C 93 dX11_line_86 (by decide) (fun q => ?_) (fun q => ?_)
          · have h := h.2 q
            refine v_iconst C dX11_line_93 ?_
            refine v_sub [1, 0] rfl ?_
            exact t_X11_line_b94 C R _ _ _ _ h
          · have h := h.1 q
            refine v_iconst C dX11_line_89 ?_
            refine v_goto C 94 dX11_line_90 (by decide) ?_
            refine v_sub [1, 0] rfl ?_
            exact t_X11_line_b94 C R _ _ _ _ h
        · have h := h.1 q
          refine v_aload_n C dX11_line_42 0 rfl ?_
          refine g_X11_now C wd_1087 dX11_line_43 ?_
          refine v_bipush C dX11_line_46 (by decide) ?_
          refine v_iload_n C dX11_line_48 1 rfl ?_
          refine v_iadd C dX11_line_49 ?_
          refine v_iald C rfl h.1 dX11_line_50 ?_
          have h := h.2
          exact v_iret C R h dX11_line_51
      · have h := h.2 q
        refine v_aload_n C dX11_line_24 0 rfl ?_
        refine g_X11_now C wd_1087 dX11_line_25 ?_
        refine v_iconst C dX11_line_28 ?_
        refine v_iconst C dX11_line_29 ?_
        refine v_iload_n C dX11_line_30 1 rfl ?_
        refine v_imul C dX11_line_31 ?_
        refine v_iadd C dX11_line_32 ?_
        refine v_iload_n C dX11_line_33 2 rfl ?_
        refine v_iadd C dX11_line_34 ?_
        refine v_iald C rfl h.1 dX11_line_35 ?_
        have h := h.2
        exact v_iret C R h dX11_line_36
    · have h := h.1 q
      refine v_iconst C dX11_line_17 ?_
      exact v_iret C R h dX11_line_18
abbrev rm_X11_round : Room := { frames := 2, cells := 0, slots := 0, locals := 43 }
theorem mf_X11_round : MfB yX11_round cX11_round 3 (some .int) 2 := ⟨wd_1386, wd_13, by decide, by decide, by decide +kernel⟩
def X11_round (x1 : Int) (x2 : Int) (w : Wd) (Q : Int → Wd → Prop) : Prop := X11_isPost x1 w (fun y2 w1 => ((wr y2 = 0 → Q (wr (-1)) w1) ∧ (¬ wr y2 = 0 → ((wr x2 = wr (-1) → (ix (32 + x1) 98 ∧ Q (wr (rd w1 73 (32 + x1))) w1)) ∧ (¬ wr x2 = wr (-1) → (ix (32 + x1) 98 ∧ X11_in x2 0 ((rd w1 73 (32 + x1)) - 1) w1 (fun y4 w3 => ((wr y4 = 0 → Q (wr (-1)) w3) ∧ (¬ wr y4 = 0 → (ix ((38 + (10 * x1)) + x2) 98 ∧ Q (wr (rd w3 73 ((38 + (10 * x1)) + x2))) w3))))))))))
theorem m_X11_round {Z : Zw} {l : Launch} {x1 : Int} {x2 : Int} {w : Wd} {Q : Int → Wd → Prop} (h : X11_round x1 x2 w Q) : CtQ Z l yX11_round cX11_round 3 (some .int) rm_X11_round [rv Z 65, iv x1, iv x2] w (qI Z Q) := by
  refine ct_of (by decide) (Nat.le_of_ble_eq_true rfl) (fun E eE C R => ?_)
  subst eE
  have C : Cx Z (adA Z) E cX11_round "HandleFacesModel" 3 rm_X11_round := C
  unfold X11_round at h
  show V Z (adA Z) E 3 w 0 [(0, rv Z 65), (1, iv x1), (2, iv x2)] []
  refine v_aload_n C dX11_round_0 0 rfl ?_
  refine v_iload_n C dX11_round_1 1 rfl ?_
  refine v_calli C (rn_V C _ (m_X11_isPost h) mf_X11_isPost wd_1314 wp_58 wd_1312 rfl rfl ⟨(Nat.le_of_ble_eq_true rfl), (Nat.le_of_ble_eq_true rfl)⟩ rfl rfl rfl rfl (Nat.le_of_ble_eq_true rfl) dX11_round_2) (fun r w h => ?_)
  refine v_if_ne C 10 dX11_round_5 (by decide) (fun q => ?_) (fun q => ?_)
  · have h := h.2 q
    refine v_iload_n C dX11_round_10 2 rfl ?_
    refine v_iconst C dX11_round_11 ?_
    refine v_icmp_ne C 25 dX11_round_12 (by decide) (fun q => ?_) (fun q => ?_)
    · have h := h.2 q
      refine v_iload_n C dX11_round_25 2 rfl ?_
      refine v_iconst C dX11_round_26 ?_
      refine v_aload_n C dX11_round_27 0 rfl ?_
      refine g_X11_now C wd_1087 dX11_round_28 ?_
      refine v_bipush C dX11_round_31 (by decide) ?_
      refine v_iload_n C dX11_round_33 1 rfl ?_
      refine v_iadd C dX11_round_34 ?_
      refine v_iald C rfl h.1 dX11_round_35 ?_
      have h := h.2
      refine v_iconst C dX11_round_36 ?_
      refine v_isub C dX11_round_37 ?_
      refine v_calli C (rn_S C _ (m_X11_in h) mf_X11_in wd_1298 wd_1297 rfl rfl ⟨(Nat.le_of_ble_eq_true rfl), (Nat.le_of_ble_eq_true rfl)⟩ rfl rfl (Nat.le_of_ble_eq_true rfl) dX11_round_38) (fun r w h => ?_)
      refine v_if_eq C 61 dX11_round_41 (by decide) (fun q => ?_) (fun q => ?_)
      · have h := h.1 q
        refine v_iconst C dX11_round_61 ?_
        exact v_iret C R h dX11_round_62
      · have h := h.2 q
        refine v_aload_n C dX11_round_44 0 rfl ?_
        refine g_X11_now C wd_1087 dX11_round_45 ?_
        refine v_bipush C dX11_round_48 (by decide) ?_
        refine v_bipush C dX11_round_50 (by decide) ?_
        refine v_iload_n C dX11_round_52 1 rfl ?_
        refine v_imul C dX11_round_53 ?_
        refine v_iadd C dX11_round_54 ?_
        refine v_iload_n C dX11_round_55 2 rfl ?_
        refine v_iadd C dX11_round_56 ?_
        refine v_iald C rfl h.1 dX11_round_57 ?_
        have h := h.2
        refine v_goto C 62 dX11_round_58 (by decide) ?_
        exact v_iret C R h dX11_round_62
    · have h := h.1 q
      refine v_aload_n C dX11_round_15 0 rfl ?_
      refine g_X11_now C wd_1087 dX11_round_16 ?_
      refine v_bipush C dX11_round_19 (by decide) ?_
      refine v_iload_n C dX11_round_21 1 rfl ?_
      refine v_iadd C dX11_round_22 ?_
      refine v_iald C rfl h.1 dX11_round_23 ?_
      have h := h.2
      exact v_iret C R h dX11_round_24
  · have h := h.1 q
    refine v_iconst C dX11_round_8 ?_
    exact v_iret C R h dX11_round_9
abbrev rm_X11_face : Room := { frames := 3, cells := 0, slots := 0, locals := 76 }
theorem mf_X11_face : MfB yX11_face cX11_face 6 (some .int) 2 := ⟨wd_1390, wd_13, by decide, by decide, by decide +kernel⟩
def X11_face_l70 (Q : Int → Wd → Prop) (e93 : Int → Wd → Prop) : Nat → Int → Int → Int → Wd → Prop
  | 0 => fun _ _ _ _ => False
  | n + 1 => fun x2 x4 x5 w => ((wr x2 ≤ wr x5 → e93 x4 w) ∧ (¬ wr x2 ≤ wr x5 → X11_nextOf 73 x4 w (fun y9 w8 => (X11_face_l70 Q e93 n) x2 y9 (x5 + 1) w8)))
theorem t_X11_face_l70 {Z : Zw} {E : Amb} {Q : Int → Wd → Prop} {e93 : Int → Wd → Prop} (C : Cx Z (adA Z) E cX11_face "HandleFacesModel" 6 rm_X11_face) (R : Rt Z E (some .int) (qI Z Q)) (he93 : ∀ (x4 : Int) (w : Wd), e93 x4 w → V Z (adA Z) E 6 w 93 [(4, iv x4)] []) : ∀ (n : Nat) (x2 : Int) (x4 : Int) (x5 : Int) (w : Wd), X11_face_l70 Q e93 n x2 x4 x5 w → V Z (adA Z) E 6 w 70 [(0, rv Z 65), (2, iv x2), (4, iv x4), (5, iv x5)] [] := by
  intro n
  induction n with
  | zero => intro x2 x4 x5 w h; exact h.elim
  | succ n ih =>
    intro x2 x4 x5 w h
    unfold X11_face_l70 at h
    refine v_iload C dX11_face_70 3 rfl ?_
    refine v_iload_n C dX11_face_72 1 rfl ?_
    refine v_icmp_ge C 93 dX11_face_73 (by decide) (fun q => ?_) (fun q => ?_)
    · have h := h.1 q
      refine v_sub [2] rfl ?_
      exact he93 _ _ h
    · have h := h.2 q
      refine v_aload_n C dX11_face_76 0 rfl ?_
      refine g_X11_now C wd_1087 dX11_face_77 ?_
      refine v_iload C dX11_face_80 2 rfl ?_
      refine v_calli C (rn_S C _ (m_X11_nextOf rfl h) mf_X11_nextOf wd_1381 wd_1380 rfl rfl ⟨(Nat.le_of_ble_eq_true rfl), (Nat.le_of_ble_eq_true rfl)⟩ rfl rfl (Nat.le_of_ble_eq_true rfl) dX11_face_82) (fun r w h => ?_)
      refine v_istore C [(4, _), (0, _), (2, _), (5, _)] dX11_face_85 (by decide) rfl ?_
      refine v_iinc C [(5, _), (4, _), (0, _), (2, _)] dX11_face_87 3 rfl (by decide) rfl ?_
      refine v_goto C 70 dX11_face_90 (by decide) ?_
      refine v_sub [2, 3, 1, 0] rfl ?_
      exact ih _ _ _ _ h
def X11_face_b93 (Q : Int → Wd → Prop) (x4 : Int) (w : Wd) : Prop := Q (wr (idv (irm x4 20) 2)) w
theorem t_X11_face_b93 {Z : Zw} {E : Amb} {Q : Int → Wd → Prop} (C : Cx Z (adA Z) E cX11_face "HandleFacesModel" 6 rm_X11_face) (R : Rt Z E (some .int) (qI Z Q)) : ∀ (x4 : Int) (w : Wd), X11_face_b93 Q x4 w → V Z (adA Z) E 6 w 93 [(4, iv x4)] [] := by
  intro x4 w h
  unfold X11_face_b93 at h
  refine v_iload C dX11_face_93 0 rfl ?_
  refine v_bipush C dX11_face_95 (by decide) ?_
  refine v_irem C dX11_face_97 (by decide) ?_
  refine v_iconst C dX11_face_98 ?_
  refine v_idiv C dX11_face_99 (by decide) ?_
  exact v_iret C R h dX11_face_100
def X11_face (x1 : Int) (x2 : Int) (w : Wd) (Q : Int → Wd → Prop) : Prop := X11_traces 73 w (fun y2 w1 => ((wr x1 = wr (-1) → Q (wr y2) w1) ∧ (¬ wr x1 = wr (-1) → X11_in x1 0 (y2 - 1) w1 (fun y4 w3 => ((wr y4 = 0 → Q (wr (-1)) w3) ∧ (¬ wr y4 = 0 → ((wr x2 = wr (-1) → (ix x1 30 ∧ Q (wr (rd w3 81 x1)) w3)) ∧ (¬ wr x2 = wr (-1) → (ix x1 30 ∧ X11_in x2 0 ((rd w3 81 x1) - 1) w3 (fun y6 w5 => ((wr y6 = 0 → Q (wr (-1)) w5) ∧ (¬ wr y6 = 0 → (ix x1 30 ∧ (∀ y7, y7 = (rd w5 80 x1) → (∃ m, X11_face_l70 Q (X11_face_b93 Q) m x2 y7 0 w5)))))))))))))))
theorem m_X11_face {Z : Zw} {l : Launch} {x1 : Int} {x2 : Int} {w : Wd} {Q : Int → Wd → Prop} (h : X11_face x1 x2 w Q) : CtQ Z l yX11_face cX11_face 6 (some .int) rm_X11_face [rv Z 65, iv x1, iv x2] w (qI Z Q) := by
  refine ct_of (by decide) (Nat.le_of_ble_eq_true rfl) (fun E eE C R => ?_)
  subst eE
  have C : Cx Z (adA Z) E cX11_face "HandleFacesModel" 6 rm_X11_face := C
  unfold X11_face at h
  show V Z (adA Z) E 6 w 0 [(0, rv Z 65), (1, iv x1), (2, iv x2)] []
  refine v_aload_n C dX11_face_0 0 rfl ?_
  refine v_aload_n C dX11_face_1 0 rfl ?_
  refine g_X11_now C wd_1087 dX11_face_2 ?_
  refine v_calli C (rn_V C _ (m_X11_traces rfl h) mf_X11_traces wd_1375 wp_62 wd_1373 rfl rfl ⟨(Nat.le_of_ble_eq_true rfl), (Nat.le_of_ble_eq_true rfl)⟩ rfl rfl rfl rfl (Nat.le_of_ble_eq_true rfl) dX11_face_5) (fun r w h => ?_)
  refine v_istore_n C [(3, _), (0, _), (1, _), (2, _)] dX11_face_8 3 rfl (by decide) rfl ?_
  refine v_iload_n C dX11_face_9 2 rfl ?_
  refine v_iconst C dX11_face_10 ?_
  refine v_icmp_ne C 16 dX11_face_11 (by decide) (fun q => ?_) (fun q => ?_)
  · have h := h.2 q
    refine v_iload_n C dX11_face_16 2 rfl ?_
    refine v_iconst C dX11_face_17 ?_
    refine v_iload_n C dX11_face_18 0 rfl ?_
    refine v_iconst C dX11_face_19 ?_
    refine v_isub C dX11_face_20 ?_
    refine v_calli C (rn_S C _ (m_X11_in h) mf_X11_in wd_1298 wd_1297 rfl rfl ⟨(Nat.le_of_ble_eq_true rfl), (Nat.le_of_ble_eq_true rfl)⟩ rfl rfl (Nat.le_of_ble_eq_true rfl) dX11_face_21) (fun r w h => ?_)
    refine v_if_ne C 29 dX11_face_24 (by decide) (fun q => ?_) (fun q => ?_)
    · have h := h.2 q
      refine v_iload_n C dX11_face_29 3 rfl ?_
      refine v_iconst C dX11_face_30 ?_
      refine v_icmp_ne C 41 dX11_face_31 (by decide) (fun q => ?_) (fun q => ?_)
      · have h := h.2 q
        refine v_iload_n C dX11_face_41 3 rfl ?_
        refine v_iconst C dX11_face_42 ?_
        refine v_aload_n C dX11_face_43 1 rfl ?_
        refine g_X11_faceLong C wd_1099 dX11_face_44 ?_
        refine v_iload_n C dX11_face_47 2 rfl ?_
        refine v_iald C rfl h.1 dX11_face_48 ?_
        have h := h.2
        refine v_iconst C dX11_face_49 ?_
        refine v_isub C dX11_face_50 ?_
        refine v_calli C (rn_S C _ (m_X11_in h) mf_X11_in wd_1298 wd_1297 rfl rfl ⟨(Nat.le_of_ble_eq_true rfl), (Nat.le_of_ble_eq_true rfl)⟩ rfl rfl (Nat.le_of_ble_eq_true rfl) dX11_face_51) (fun r w h => ?_)
        refine v_if_ne C 59 dX11_face_54 (by decide) (fun q => ?_) (fun q => ?_)
        · have h := h.2 q
          refine v_aload_n C dX11_face_59 1 rfl ?_
          refine g_X11_faceFrom C wd_1098 dX11_face_60 ?_
          refine v_iload_n C dX11_face_63 2 rfl ?_
          refine v_iald C rfl h.1 dX11_face_64 ?_
          have h := h.2
          refine v_istore C [(4, _), (3, _), (0, _), (1, _), (2, _)] dX11_face_65 (by decide) rfl ?_
          have h := h _ rfl
          refine v_iconst C dX11_face_67 ?_
          refine v_istore C [(5, _), (4, _), (3, _), (0, _), (1, _), (2, _)] dX11_face_68 (by decide) rfl ?_
          refine v_sub [3, 5, 1, 0] rfl ?_
          obtain ⟨m, h⟩ := h
          exact t_X11_face_l70 C R (t_X11_face_b93 C R) m _ _ _ _ h
        · have h := h.1 q
          refine v_iconst C dX11_face_57 ?_
          exact v_iret C R h dX11_face_58
      · have h := h.1 q
        refine v_aload_n C dX11_face_34 1 rfl ?_
        refine g_X11_faceLong C wd_1099 dX11_face_35 ?_
        refine v_iload_n C dX11_face_38 2 rfl ?_
        refine v_iald C rfl h.1 dX11_face_39 ?_
        have h := h.2
        exact v_iret C R h dX11_face_40
    · have h := h.1 q
      refine v_iconst C dX11_face_27 ?_
      exact v_iret C R h dX11_face_28
  · have h := h.1 q
    refine v_iload_n C dX11_face_14 0 rfl ?_
    exact v_iret C R h dX11_face_15
abbrev rm_X11_surface : Room := { frames := 4, cells := 0, slots := 0, locals := 97 }
theorem mf_X11_surface : MfB yX11_surface cX11_surface 5 (some .int) 1 := ⟨wd_1394, wd_13, by decide, by decide, by decide +kernel⟩
def X11_surface (x1 : Int) (w : Wd) (Q : Int → Wd → Prop) : Prop := X11_in x1 0 3 w (fun y2 w1 => ((wr y2 = 0 → Q (wr (-100000)) w1) ∧ (¬ wr y2 = 0 → X11_partsOf 73 w1 (fun y4 w3 => X11_euler 73 w3 (fun y6 w5 => X11_turnsRight w5 (fun y8 w7 => ((wr x1 = 0 → ((wr y8 = 0 → Q (wr 0) w7) ∧ (¬ wr y8 = 0 → Q (wr 1) w7))) ∧ (¬ wr x1 = 0 → ((wr x1 = wr 1 → ((wr y8 = 0 → Q (wr ((2 * y4) - y6)) w7) ∧ (¬ wr y8 = 0 → Q (wr (y4 - (idv y6 2))) w7))) ∧ (¬ wr x1 = wr 1 → ((wr x1 = wr 2 → Q (wr y6) w7) ∧ (¬ wr x1 = wr 2 → Q (wr y4) w7))))))))))))
theorem m_X11_surface {Z : Zw} {l : Launch} {x1 : Int} {w : Wd} {Q : Int → Wd → Prop} (h : X11_surface x1 w Q) : CtQ Z l yX11_surface cX11_surface 5 (some .int) rm_X11_surface [rv Z 65, iv x1] w (qI Z Q) := by
  refine ct_of (by decide) (Nat.le_of_ble_eq_true rfl) (fun E eE C R => ?_)
  subst eE
  have C : Cx Z (adA Z) E cX11_surface "HandleFacesModel" 5 rm_X11_surface := C
  unfold X11_surface at h
  show V Z (adA Z) E 5 w 0 [(0, rv Z 65), (1, iv x1)] []
  refine v_iload_n C dX11_surface_0 1 rfl ?_
  refine v_iconst C dX11_surface_1 ?_
  refine v_iconst C dX11_surface_2 ?_
  refine v_calli C (rn_S C _ (m_X11_in h) mf_X11_in wd_1298 wd_1297 rfl rfl ⟨(Nat.le_of_ble_eq_true rfl), (Nat.le_of_ble_eq_true rfl)⟩ rfl rfl (Nat.le_of_ble_eq_true rfl) dX11_surface_3) (fun r w h => ?_)
  refine v_if_ne C 13 dX11_surface_6 (by decide) (fun q => ?_) (fun q => ?_)
  · have h := h.2 q
    refine v_aload_n C dX11_surface_13 0 rfl ?_
    refine v_aload_n C dX11_surface_14 0 rfl ?_
    refine g_X11_now C wd_1087 dX11_surface_15 ?_
    refine v_calli C (rn_V C _ (m_X11_partsOf rfl h) mf_X11_partsOf wd_1398 wp_63 wd_1396 rfl rfl ⟨(Nat.le_of_ble_eq_true rfl), (Nat.le_of_ble_eq_true rfl)⟩ rfl rfl rfl rfl (Nat.le_of_ble_eq_true rfl) dX11_surface_18) (fun r w h => ?_)
    refine v_istore_n C [(2, _), (0, _), (1, _)] dX11_surface_21 2 rfl (by decide) rfl ?_
    refine v_aload_n C dX11_surface_22 1 rfl ?_
    refine v_aload_n C dX11_surface_23 1 rfl ?_
    refine g_X11_now C wd_1087 dX11_surface_24 ?_
    refine v_calli C (rn_V C _ (m_X11_euler rfl h) mf_X11_euler wd_1402 wp_64 wd_1400 rfl rfl ⟨(Nat.le_of_ble_eq_true rfl), (Nat.le_of_ble_eq_true rfl)⟩ rfl rfl rfl rfl (Nat.le_of_ble_eq_true rfl) dX11_surface_27) (fun r w h => ?_)
    refine v_istore_n C [(3, _), (2, _), (0, _), (1, _)] dX11_surface_30 3 rfl (by decide) rfl ?_
    refine v_aload_n C dX11_surface_31 2 rfl ?_
    refine v_calli C (rn_V C _ (m_X11_turnsRight h) mf_X11_turnsRight wd_1406 wp_65 wd_1404 rfl rfl ⟨(Nat.le_of_ble_eq_true rfl), (Nat.le_of_ble_eq_true rfl)⟩ rfl rfl rfl rfl (Nat.le_of_ble_eq_true rfl) dX11_surface_32) (fun r w h => ?_)
    refine v_istore C [(4, _), (3, _), (2, _), (0, _), (1, _)] dX11_surface_35 (by decide) rfl ?_
    refine v_iload_n C dX11_surface_37 4 rfl ?_
    refine v_if_ne C 54 dX11_surface_38 (by decide) (fun q => ?_) (fun q => ?_)
    · have h := h.2 q
      refine v_iload_n C dX11_surface_54 4 rfl ?_
      refine v_iconst C dX11_surface_55 ?_
      refine v_icmp_ne C 80 dX11_surface_56 (by decide) (fun q => ?_) (fun q => ?_)
      · have h := h.2 q
        refine v_iload_n C dX11_surface_80 4 rfl ?_
        refine v_iconst C dX11_surface_81 ?_
        refine v_icmp_ne C 89 dX11_surface_82 (by decide) (fun q => ?_) (fun q => ?_)
        · have h := h.2 q
          refine v_iload_n C dX11_surface_89 2 rfl ?_
          exact v_iret C R h dX11_surface_90
        · have h := h.1 q
          refine v_iload_n C dX11_surface_85 1 rfl ?_
          refine v_goto C 90 dX11_surface_86 (by decide) ?_
          exact v_iret C R h dX11_surface_90
      · have h := h.1 q
        refine v_iload C dX11_surface_59 0 rfl ?_
        refine v_if_eq C 72 dX11_surface_61 (by decide) (fun q => ?_) (fun q => ?_)
        · have h := h.1 q
          refine v_iconst C dX11_surface_72 ?_
          refine v_iload_n C dX11_surface_73 2 rfl ?_
          refine v_imul C dX11_surface_74 ?_
          refine v_iload_n C dX11_surface_75 1 rfl ?_
          refine v_isub C dX11_surface_76 ?_
          refine v_goto C 90 dX11_surface_77 (by decide) ?_
          exact v_iret C R h dX11_surface_90
        · have h := h.2 q
          refine v_iload_n C dX11_surface_64 2 rfl ?_
          refine v_iload_n C dX11_surface_65 1 rfl ?_
          refine v_iconst C dX11_surface_66 ?_
          refine v_idiv C dX11_surface_67 (by decide) ?_
          refine v_isub C dX11_surface_68 ?_
          refine v_goto C 90 dX11_surface_69 (by decide) ?_
          exact v_iret C R h dX11_surface_90
    · have h := h.1 q
      refine v_iload C dX11_surface_41 0 rfl ?_
      refine v_if_eq C 50 dX11_surface_43 (by decide) (fun q => ?_) (fun q => ?_)
      · have h := h.1 q
        refine v_iconst C dX11_surface_50 ?_
        refine v_goto C 90 dX11_surface_51 (by decide) ?_
        exact v_iret C R h dX11_surface_90
      · have h := h.2 q
        refine v_iconst C dX11_surface_46 ?_
        refine v_goto C 90 dX11_surface_47 (by decide) ?_
        exact v_iret C R h dX11_surface_90
  · have h := h.1 q
    refine v_ldcw C (-100000) wd_1395 (by decide) dX11_surface_9 ?_
    exact v_iret C R h dX11_surface_12
abbrev rm_X11_orders : Room := { frames := 0, cells := 0, slots := 0, locals := 0 }
theorem mf_X11_orders : MfB yX11_orders cX11_orders 4 (some .long) 1 := ⟨wd_1419, wd_13, by decide, by decide, by decide +kernel⟩
def X11_orders_l4 (Q : Int → Wd → Prop) (e20 : Int → Wd → Prop) : Nat → Int → Int → Int → Wd → Prop
  | 0 => fun _ _ _ _ => False
  | n + 1 => fun x0 x1 x3 w => ((wr x0 ≤ wr x3 → e20 x1 w) ∧ (¬ wr x0 ≤ wr x3 → (∀ y1, y1 = (x1 * (wr x3)) → (X11_orders_l4 Q e20 n) x0 y1 (x3 + 1) w)))
theorem t_X11_orders_l4 {Z : Zw} {E : Amb} {Q : Int → Wd → Prop} {e20 : Int → Wd → Prop} (C : Cx Z (adA Z) E cX11_orders "HandleFacesModel" 4 rm_X11_orders) (R : Rt Z E (some .long) (qL Z Q)) (he20 : ∀ (x1 : Int) (w : Wd), e20 x1 w → V Z (adA Z) E 4 w 20 [(1, jv x1)] []) : ∀ (n : Nat) (x0 : Int) (x1 : Int) (x3 : Int) (w : Wd), X11_orders_l4 Q e20 n x0 x1 x3 w → V Z (adA Z) E 4 w 4 [(0, iv x0), (1, jv x1), (3, iv x3)] [] := by
  intro n
  induction n with
  | zero => intro x0 x1 x3 w h; exact h.elim
  | succ n ih =>
    intro x0 x1 x3 w h
    unfold X11_orders_l4 at h
    refine v_iload_n C dX11_orders_4 2 rfl ?_
    refine v_iload_n C dX11_orders_5 0 rfl ?_
    refine v_icmp_ge C 20 dX11_orders_6 (by decide) (fun q => ?_) (fun q => ?_)
    · have h := h.1 q
      refine v_sub [1] rfl ?_
      exact he20 _ _ h
    · have h := h.2 q
      refine v_lload_n C dX11_orders_9 1 rfl ?_
      refine v_iload_n C dX11_orders_10 2 rfl ?_
      refine v_i2l C dX11_orders_11 ?_
      refine v_lmul C dX11_orders_12 ?_
      refine v_lstore_n C [(1, _), (0, _), (3, _)] dX11_orders_13 1 rfl (by decide) rfl ?_
      have h := h _ rfl
      refine v_iinc C [(3, _), (1, _), (0, _)] dX11_orders_14 2 rfl (by decide) rfl ?_
      refine v_goto C 4 dX11_orders_17 (by decide) ?_
      refine v_sub [2, 1, 0] rfl ?_
      exact ih _ _ _ _ h
def X11_orders_b20 (Q : Int → Wd → Prop) (x1 : Int) (w : Wd) : Prop := Q (wl x1) w
theorem t_X11_orders_b20 {Z : Zw} {E : Amb} {Q : Int → Wd → Prop} (C : Cx Z (adA Z) E cX11_orders "HandleFacesModel" 4 rm_X11_orders) (R : Rt Z E (some .long) (qL Z Q)) : ∀ (x1 : Int) (w : Wd), X11_orders_b20 Q x1 w → V Z (adA Z) E 4 w 20 [(1, jv x1)] [] := by
  intro x1 w h
  unfold X11_orders_b20 at h
  refine v_lload_n C dX11_orders_20 0 rfl ?_
  exact v_lret C R h dX11_orders_21
def X11_orders (x0 : Int) (w : Wd) (Q : Int → Wd → Prop) : Prop := (∃ m, X11_orders_l4 Q (X11_orders_b20 Q) m x0 1 2 w)
theorem m_X11_orders {Z : Zw} {l : Launch} {x0 : Int} {w : Wd} {Q : Int → Wd → Prop} (h : X11_orders x0 w Q) : CtQ Z l yX11_orders cX11_orders 4 (some .long) rm_X11_orders [iv x0] w (qL Z Q) := by
  refine ct_of (by decide) (Nat.le_of_ble_eq_true rfl) (fun E eE C R => ?_)
  subst eE
  have C : Cx Z (adA Z) E cX11_orders "HandleFacesModel" 4 rm_X11_orders := C
  unfold X11_orders at h
  show V Z (adA Z) E 4 w 0 [(0, iv x0)] []
  refine v_lconst (x := 1) C dX11_orders_0 (by decide) ?_
  refine v_lstore_n C [(1, _), (0, _)] dX11_orders_1 1 rfl (by decide) rfl ?_
  refine v_iconst C dX11_orders_2 ?_
  refine v_istore_n C [(3, _), (1, _), (0, _)] dX11_orders_3 3 rfl (by decide) rfl ?_
  refine v_sub [2, 1, 0] rfl ?_
  obtain ⟨m, h⟩ := h
  exact t_X11_orders_l4 C R (t_X11_orders_b20 C R) m _ _ _ _ h
abbrev rm_X11_allRounds : Room := { frames := 1, cells := 0, slots := 0, locals := 23 }
theorem mf_X11_allRounds : MfB yX11_allRounds cX11_allRounds 4 (some .long) 0 := ⟨wd_1416, wd_13, by decide, by decide, by decide +kernel⟩
def X11_allRounds_l4 (Q : Int → Wd → Prop) (e35 : Int → Wd → Prop) : Nat → Int → Int → Wd → Prop
  | 0 => fun _ _ _ => False
  | n + 1 => fun x1 x3 w => (ix 0 98 ∧ ((wr (rd w 73 0) ≤ wr x3 → e35 x1 w) ∧ (¬ wr (rd w 73 0) ≤ wr x3 → (ix (32 + x3) 98 ∧ X11_orders (rd w 73 (32 + x3)) w (fun y2 w1 => (∀ y3, y3 = (x1 * y2) → (X11_allRounds_l4 Q e35 n) y3 (x3 + 1) w1))))))
theorem t_X11_allRounds_l4 {Z : Zw} {E : Amb} {Q : Int → Wd → Prop} {e35 : Int → Wd → Prop} (C : Cx Z (adA Z) E cX11_allRounds "HandleFacesModel" 4 rm_X11_allRounds) (R : Rt Z E (some .long) (qL Z Q)) (he35 : ∀ (x1 : Int) (w : Wd), e35 x1 w → V Z (adA Z) E 4 w 35 [(1, jv x1)] []) : ∀ (n : Nat) (x1 : Int) (x3 : Int) (w : Wd), X11_allRounds_l4 Q e35 n x1 x3 w → V Z (adA Z) E 4 w 4 [(0, rv Z 65), (1, jv x1), (3, iv x3)] [] := by
  intro n
  induction n with
  | zero => intro x1 x3 w h; exact h.elim
  | succ n ih =>
    intro x1 x3 w h
    unfold X11_allRounds_l4 at h
    refine v_iload_n C dX11_allRounds_4 2 rfl ?_
    refine v_aload_n C dX11_allRounds_5 0 rfl ?_
    refine g_X11_now C wd_1087 dX11_allRounds_6 ?_
    refine v_iconst C dX11_allRounds_9 ?_
    refine v_iald C rfl h.1 dX11_allRounds_10 ?_
    have h := h.2
    refine v_icmp_ge C 35 dX11_allRounds_11 (by decide) (fun q => ?_) (fun q => ?_)
    · have h := h.1 q
      refine v_sub [1] rfl ?_
      exact he35 _ _ h
    · have h := h.2 q
      refine v_lload_n C dX11_allRounds_14 1 rfl ?_
      refine v_aload_n C dX11_allRounds_15 0 rfl ?_
      refine g_X11_now C wd_1087 dX11_allRounds_16 ?_
      refine v_bipush C dX11_allRounds_19 (by decide) ?_
      refine v_iload_n C dX11_allRounds_21 2 rfl ?_
      refine v_iadd C dX11_allRounds_22 ?_
      refine v_iald C rfl h.1 dX11_allRounds_23 ?_
      have h := h.2
      refine v_calll C (rn_S C _ (m_X11_orders h) mf_X11_orders wd_1418 wd_1417 rfl rfl ⟨(Nat.le_of_ble_eq_true rfl), (Nat.le_of_ble_eq_true rfl)⟩ rfl rfl (Nat.le_of_ble_eq_true rfl) dX11_allRounds_24) (fun r w h => ?_)
      refine v_lmul C dX11_allRounds_27 ?_
      refine v_lstore_n C [(1, _), (0, _), (3, _)] dX11_allRounds_28 1 rfl (by decide) rfl ?_
      have h := h _ rfl
      refine v_iinc C [(3, _), (1, _), (0, _)] dX11_allRounds_29 2 rfl (by decide) rfl ?_
      refine v_goto C 4 dX11_allRounds_32 (by decide) ?_
      refine v_sub [2, 1, 0] rfl ?_
      exact ih _ _ _ h
def X11_allRounds_b35 (Q : Int → Wd → Prop) (x1 : Int) (w : Wd) : Prop := Q (wl x1) w
theorem t_X11_allRounds_b35 {Z : Zw} {E : Amb} {Q : Int → Wd → Prop} (C : Cx Z (adA Z) E cX11_allRounds "HandleFacesModel" 4 rm_X11_allRounds) (R : Rt Z E (some .long) (qL Z Q)) : ∀ (x1 : Int) (w : Wd), X11_allRounds_b35 Q x1 w → V Z (adA Z) E 4 w 35 [(1, jv x1)] [] := by
  intro x1 w h
  unfold X11_allRounds_b35 at h
  refine v_lload_n C dX11_allRounds_35 0 rfl ?_
  exact v_lret C R h dX11_allRounds_36
def X11_allRounds (w : Wd) (Q : Int → Wd → Prop) : Prop := (∃ m, X11_allRounds_l4 Q (X11_allRounds_b35 Q) m 1 0 w)
theorem m_X11_allRounds {Z : Zw} {l : Launch} {w : Wd} {Q : Int → Wd → Prop} (h : X11_allRounds w Q) : CtQ Z l yX11_allRounds cX11_allRounds 4 (some .long) rm_X11_allRounds [rv Z 65] w (qL Z Q) := by
  refine ct_of (by decide) (Nat.le_of_ble_eq_true rfl) (fun E eE C R => ?_)
  subst eE
  have C : Cx Z (adA Z) E cX11_allRounds "HandleFacesModel" 4 rm_X11_allRounds := C
  unfold X11_allRounds at h
  show V Z (adA Z) E 4 w 0 [(0, rv Z 65)] []
  refine v_lconst (x := 1) C dX11_allRounds_0 (by decide) ?_
  refine v_lstore_n C [(1, _), (0, _)] dX11_allRounds_1 1 rfl (by decide) rfl ?_
  refine v_iconst C dX11_allRounds_2 ?_
  refine v_istore_n C [(3, _), (1, _), (0, _)] dX11_allRounds_3 3 rfl (by decide) rfl ?_
  refine v_sub [2, 1, 0] rfl ?_
  obtain ⟨m, h⟩ := h
  exact t_X11_allRounds_l4 C R (t_X11_allRounds_b35 C R) m _ _ _ h
abbrev rm_X11_ordersPost : Room := { frames := 1, cells := 0, slots := 0, locals := 23 }
theorem mf_X11_ordersPost : MfB yX11_ordersPost cX11_ordersPost 12 none 2 := ⟨wd_1432, wd_13, by decide, by decide, by decide +kernel⟩
def X11_ordersPost_l6 (Q : Wd → Prop) (e48 : Int → Int → Int → Wd → Prop) : Nat → Int → Int → Int → Int → Wd → Prop
  | 0 => fun _ _ _ _ _ => False
  | n + 1 => fun x1 x2 x4 x5 w => (ix (32 + x1) 98 ∧ ((wr (rd w 73 (32 + x1)) ≤ wr x5 → e48 x1 x2 x4 w) ∧ (¬ wr (rd w 73 (32 + x1)) ≤ wr x5 → (ix ((38 + (10 * x1)) + x5) 98 ∧ (∀ y1, y1 = (ior x4 (isl 1 (rd w 73 ((38 + (10 * x1)) + x5)))) → (X11_ordersPost_l6 Q e48 n) x1 x2 y1 (x5 + 1) w)))))
theorem t_X11_ordersPost_l6 {Z : Zw} {E : Amb} {Q : Wd → Prop} {e48 : Int → Int → Int → Wd → Prop} (C : Cx Z (adA Z) E cX11_ordersPost "HandleFacesModel" 12 rm_X11_ordersPost) (R : Rt Z E none (qV Z Q)) (he48 : ∀ (x1 : Int) (x2 : Int) (x4 : Int) (w : Wd), e48 x1 x2 x4 w → V Z (adA Z) E 12 w 48 [(0, rv Z 65), (1, iv x1), (2, jv x2), (4, iv x4)] []) : ∀ (n : Nat) (x1 : Int) (x2 : Int) (x4 : Int) (x5 : Int) (w : Wd), X11_ordersPost_l6 Q e48 n x1 x2 x4 x5 w → V Z (adA Z) E 12 w 6 [(0, rv Z 65), (1, iv x1), (2, jv x2), (4, iv x4), (5, iv x5)] [] := by
  intro n
  induction n with
  | zero => intro x1 x2 x4 x5 w h; exact h.elim
  | succ n ih =>
    intro x1 x2 x4 x5 w h
    unfold X11_ordersPost_l6 at h
    refine v_iload C dX11_ordersPost_6 4 rfl ?_
    refine v_aload_n C dX11_ordersPost_8 0 rfl ?_
    refine g_X11_now C wd_1087 dX11_ordersPost_9 ?_
    refine v_bipush C dX11_ordersPost_12 (by decide) ?_
    refine v_iload_n C dX11_ordersPost_14 1 rfl ?_
    refine v_iadd C dX11_ordersPost_15 ?_
    refine v_iald C rfl h.1 dX11_ordersPost_16 ?_
    have h := h.2
    refine v_icmp_ge C 48 dX11_ordersPost_17 (by decide) (fun q => ?_) (fun q => ?_)
    · have h := h.1 q
      refine v_sub [0, 1, 2, 3] rfl ?_
      exact he48 _ _ _ _ h
    · have h := h.2 q
      refine v_iload C dX11_ordersPost_20 3 rfl ?_
      refine v_iconst C dX11_ordersPost_22 ?_
      refine v_aload_n C dX11_ordersPost_23 0 rfl ?_
      refine g_X11_now C wd_1087 dX11_ordersPost_24 ?_
      refine v_bipush C dX11_ordersPost_27 (by decide) ?_
      refine v_bipush C dX11_ordersPost_29 (by decide) ?_
      refine v_iload_n C dX11_ordersPost_31 1 rfl ?_
      refine v_imul C dX11_ordersPost_32 ?_
      refine v_iadd C dX11_ordersPost_33 ?_
      refine v_iload C dX11_ordersPost_34 4 rfl ?_
      refine v_iadd C dX11_ordersPost_36 ?_
      refine v_iald C rfl h.1 dX11_ordersPost_37 ?_
      have h := h.2
      refine v_ishl C dX11_ordersPost_38 ?_
      refine v_ior C dX11_ordersPost_39 ?_
      refine v_istore C [(4, _), (0, _), (1, _), (2, _), (5, _)] dX11_ordersPost_40 (by decide) rfl ?_
      have h := h _ rfl
      refine v_iinc C [(5, _), (4, _), (0, _), (1, _), (2, _)] dX11_ordersPost_42 4 rfl (by decide) rfl ?_
      refine v_goto C 6 dX11_ordersPost_45 (by decide) ?_
      refine v_sub [2, 3, 4, 1, 0] rfl ?_
      exact ih _ _ _ _ _ h
def X11_ordersPost_b142 (Q : Wd → Prop) (c127 : Int → Int → Int → Int → Int → Int → Wd → Prop) (e161 : Int → Int → Int → Int → Int → Wd → Prop) (x1 : Int) (x4 : Int) (x5 : Int) (x7 : Int) (x10 : Int) (x11 : Int) (w : Wd) : Prop := X11_has x4 x11 w (fun y8 w7 => ((wr y8 = 0 → c127 x1 x4 x5 x7 x10 (x11 + 1) w7) ∧ (¬ wr y8 = 0 → c127 x1 x4 x5 x7 (x10 + (-1)) (x11 + 1) w7)))
theorem t_X11_ordersPost_b142 {Z : Zw} {E : Amb} {Q : Wd → Prop} {c127 : Int → Int → Int → Int → Int → Int → Wd → Prop} {e161 : Int → Int → Int → Int → Int → Wd → Prop} (C : Cx Z (adA Z) E cX11_ordersPost "HandleFacesModel" 12 rm_X11_ordersPost) (R : Rt Z E none (qV Z Q)) (hc127 : ∀ (x1 : Int) (x4 : Int) (x5 : Int) (x7 : Int) (x10 : Int) (x11 : Int) (w : Wd), c127 x1 x4 x5 x7 x10 x11 w → V Z (adA Z) E 12 w 127 [(0, rv Z 65), (1, iv x1), (4, iv x4), (5, jv x5), (7, iv x7), (10, iv x10), (11, iv x11)] []) (he161 : ∀ (x1 : Int) (x4 : Int) (x5 : Int) (x7 : Int) (x11 : Int) (w : Wd), e161 x1 x4 x5 x7 x11 w → V Z (adA Z) E 12 w 161 [(0, rv Z 65), (1, iv x1), (4, iv x4), (5, jv x5), (7, iv x7), (11, iv x11)] []) : ∀ (x1 : Int) (x4 : Int) (x5 : Int) (x7 : Int) (x10 : Int) (x11 : Int) (w : Wd), X11_ordersPost_b142 Q c127 e161 x1 x4 x5 x7 x10 x11 w → V Z (adA Z) E 12 w 142 [(0, rv Z 65), (1, iv x1), (4, iv x4), (5, jv x5), (7, iv x7), (10, iv x10), (11, iv x11)] [] := by
  intro x1 x4 x5 x7 x10 x11 w h
  unfold X11_ordersPost_b142 at h
  refine v_iload C dX11_ordersPost_142 2 rfl ?_
  refine v_iload C dX11_ordersPost_144 6 rfl ?_
  refine v_calli C (rn_S C _ (m_X11_has h) mf_X11_has wd_1283 wd_1282 rfl rfl ⟨(Nat.le_of_ble_eq_true rfl), (Nat.le_of_ble_eq_true rfl)⟩ rfl rfl (Nat.le_of_ble_eq_true rfl) dX11_ordersPost_146) (fun r w h => ?_)
  refine v_if_eq C 155 dX11_ordersPost_149 (by decide) (fun q => ?_) (fun q => ?_)
  · have h := h.1 q
    refine v_iinc C [(11, _), (0, _), (1, _), (4, _), (5, _), (7, _), (10, _)] dX11_ordersPost_155 6 rfl (by decide) rfl ?_
    refine v_goto C 127 dX11_ordersPost_158 (by decide) ?_
    refine v_sub [1, 2, 3, 4, 5, 6, 0] rfl ?_
    exact hc127 _ _ _ _ _ _ _ h
  · have h := h.2 q
    refine v_iinc C [(10, _), (0, _), (1, _), (4, _), (5, _), (7, _), (11, _)] dX11_ordersPost_152 5 rfl (by decide) rfl ?_
    refine v_iinc C [(11, _), (10, _), (0, _), (1, _), (4, _), (5, _), (7, _)] dX11_ordersPost_155 6 rfl (by decide) rfl ?_
    refine v_goto C 127 dX11_ordersPost_158 (by decide) ?_
    refine v_sub [2, 3, 4, 5, 6, 1, 0] rfl ?_
    exact hc127 _ _ _ _ _ _ _ h
def X11_ordersPost_l127 (Q : Wd → Prop) (e161 : Int → Int → Int → Int → Int → Wd → Prop) : Nat → Int → Int → Int → Int → Int → Int → Wd → Prop
  | 0 => fun _ _ _ _ _ _ _ => False
  | n + 1 => fun x1 x4 x5 x7 x10 x11 w => X11_has x4 x11 w (fun y6 w5 => ((wr y6 = 0 → X11_ordersPost_b142 Q (X11_ordersPost_l127 Q e161 n) e161 x1 x4 x5 x7 x10 x11 w5) ∧ (¬ wr y6 = 0 → ((wr x10 ≤ 0 → e161 x1 x4 x5 x7 x11 w5) ∧ (¬ wr x10 ≤ 0 → X11_ordersPost_b142 Q (X11_ordersPost_l127 Q e161 n) e161 x1 x4 x5 x7 x10 x11 w5)))))
theorem t_X11_ordersPost_l127 {Z : Zw} {E : Amb} {Q : Wd → Prop} {e161 : Int → Int → Int → Int → Int → Wd → Prop} (C : Cx Z (adA Z) E cX11_ordersPost "HandleFacesModel" 12 rm_X11_ordersPost) (R : Rt Z E none (qV Z Q)) (he161 : ∀ (x1 : Int) (x4 : Int) (x5 : Int) (x7 : Int) (x11 : Int) (w : Wd), e161 x1 x4 x5 x7 x11 w → V Z (adA Z) E 12 w 161 [(0, rv Z 65), (1, iv x1), (4, iv x4), (5, jv x5), (7, iv x7), (11, iv x11)] []) : ∀ (n : Nat) (x1 : Int) (x4 : Int) (x5 : Int) (x7 : Int) (x10 : Int) (x11 : Int) (w : Wd), X11_ordersPost_l127 Q e161 n x1 x4 x5 x7 x10 x11 w → V Z (adA Z) E 12 w 127 [(0, rv Z 65), (1, iv x1), (4, iv x4), (5, jv x5), (7, iv x7), (10, iv x10), (11, iv x11)] [] := by
  intro n
  induction n with
  | zero => intro x1 x4 x5 x7 x10 x11 w h; exact h.elim
  | succ n ih =>
    intro x1 x4 x5 x7 x10 x11 w h
    unfold X11_ordersPost_l127 at h
    refine v_iload C dX11_ordersPost_127 2 rfl ?_
    refine v_iload C dX11_ordersPost_129 6 rfl ?_
    refine v_calli C (rn_S C _ (m_X11_has h) mf_X11_has wd_1283 wd_1282 rfl rfl ⟨(Nat.le_of_ble_eq_true rfl), (Nat.le_of_ble_eq_true rfl)⟩ rfl rfl (Nat.le_of_ble_eq_true rfl) dX11_ordersPost_131) (fun r w h => ?_)
    refine v_if_eq C 142 dX11_ordersPost_134 (by decide) (fun q => ?_) (fun q => ?_)
    · have h := h.1 q
      exact t_X11_ordersPost_b142 C R ih he161 _ _ _ _ _ _ _ h
    · have h := h.2 q
      refine v_iload C dX11_ordersPost_137 5 rfl ?_
      refine v_if_le C 161 dX11_ordersPost_139 (by decide) (fun q => ?_) (fun q => ?_)
      · have h := h.1 q
        refine v_sub [0, 1, 2, 3, 4, 6] rfl ?_
        exact he161 _ _ _ _ _ _ h
      · have h := h.2 q
        exact t_X11_ordersPost_b142 C R ih he161 _ _ _ _ _ _ _ h
def X11_ordersPost_b161 (Q : Wd → Prop) (c64 : Int → Int → Int → Int → Wd → Prop) (e188 : Wd → Prop) (x1 : Int) (x4 : Int) (x5 : Int) (x7 : Int) (x11 : Int) (w : Wd) : Prop := (∀ y9, y9 = (ian x4 (ixo (isl 1 x11) (-1))) → X11_adds 83 x1 x11 w (fun w10 => c64 x1 y9 x5 (x7 + 1) w10))
theorem t_X11_ordersPost_b161 {Z : Zw} {E : Amb} {Q : Wd → Prop} {c64 : Int → Int → Int → Int → Wd → Prop} {e188 : Wd → Prop} (C : Cx Z (adA Z) E cX11_ordersPost "HandleFacesModel" 12 rm_X11_ordersPost) (R : Rt Z E none (qV Z Q)) (hc64 : ∀ (x1 : Int) (x4 : Int) (x5 : Int) (x7 : Int) (w : Wd), c64 x1 x4 x5 x7 w → V Z (adA Z) E 12 w 64 [(0, rv Z 65), (1, iv x1), (4, iv x4), (5, jv x5), (7, iv x7)] []) (he188 : ∀ (w : Wd), e188 w → V Z (adA Z) E 12 w 188 [] []) : ∀ (x1 : Int) (x4 : Int) (x5 : Int) (x7 : Int) (x11 : Int) (w : Wd), X11_ordersPost_b161 Q c64 e188 x1 x4 x5 x7 x11 w → V Z (adA Z) E 12 w 161 [(0, rv Z 65), (1, iv x1), (4, iv x4), (5, jv x5), (7, iv x7), (11, iv x11)] [] := by
  intro x1 x4 x5 x7 x11 w h
  unfold X11_ordersPost_b161 at h
  refine v_iload C dX11_ordersPost_161 2 rfl ?_
  refine v_iconst C dX11_ordersPost_163 ?_
  refine v_iload C dX11_ordersPost_164 5 rfl ?_
  refine v_ishl C dX11_ordersPost_166 ?_
  refine v_iconst C dX11_ordersPost_167 ?_
  refine v_ixor C dX11_ordersPost_168 ?_
  refine v_iand C dX11_ordersPost_169 ?_
  refine v_istore C [(4, _), (0, _), (1, _), (5, _), (7, _), (11, _)] dX11_ordersPost_170 (by decide) rfl ?_
  have h := h _ rfl
  refine v_aload_n C dX11_ordersPost_172 1 rfl ?_
  refine g_X11_tried C wd_1101 dX11_ordersPost_173 ?_
  refine v_iload_n C dX11_ordersPost_176 2 rfl ?_
  refine v_iload C dX11_ordersPost_177 5 rfl ?_
  refine v_callv C (rn_S C _ (m_X11_adds rfl h) mf_X11_adds wd_1276 wd_1275 rfl rfl ⟨(Nat.le_of_ble_eq_true rfl), (Nat.le_of_ble_eq_true rfl)⟩ rfl rfl (Nat.le_of_ble_eq_true rfl) dX11_ordersPost_179) (fun w h => ?_)
  refine v_iinc C [(7, _), (4, _), (0, _), (1, _), (5, _), (11, _)] dX11_ordersPost_182 4 rfl (by decide) rfl ?_
  refine v_goto C 64 dX11_ordersPost_185 (by decide) ?_
  refine v_sub [2, 3, 1, 4, 0] rfl ?_
  exact hc64 _ _ _ _ _ h
def X11_ordersPost_b124 (Q : Wd → Prop) (c64 : Int → Int → Int → Int → Wd → Prop) (e188 : Wd → Prop) (x1 : Int) (x4 : Int) (x5 : Int) (x7 : Int) (x10 : Int) (w : Wd) : Prop := (∃ m, X11_ordersPost_l127 Q (X11_ordersPost_b161 Q c64 e188) m x1 x4 x5 x7 x10 0 w)
theorem t_X11_ordersPost_b124 {Z : Zw} {E : Amb} {Q : Wd → Prop} {c64 : Int → Int → Int → Int → Wd → Prop} {e188 : Wd → Prop} (C : Cx Z (adA Z) E cX11_ordersPost "HandleFacesModel" 12 rm_X11_ordersPost) (R : Rt Z E none (qV Z Q)) (hc64 : ∀ (x1 : Int) (x4 : Int) (x5 : Int) (x7 : Int) (w : Wd), c64 x1 x4 x5 x7 w → V Z (adA Z) E 12 w 64 [(0, rv Z 65), (1, iv x1), (4, iv x4), (5, jv x5), (7, iv x7)] []) (he188 : ∀ (w : Wd), e188 w → V Z (adA Z) E 12 w 188 [] []) : ∀ (x1 : Int) (x4 : Int) (x5 : Int) (x7 : Int) (x10 : Int) (w : Wd), X11_ordersPost_b124 Q c64 e188 x1 x4 x5 x7 x10 w → V Z (adA Z) E 12 w 124 [(0, rv Z 65), (1, iv x1), (4, iv x4), (5, jv x5), (7, iv x7), (10, iv x10)] [] := by
  intro x1 x4 x5 x7 x10 w h
  unfold X11_ordersPost_b124 at h
  refine v_iconst C dX11_ordersPost_124 ?_
  refine v_istore C [(11, _), (0, _), (1, _), (4, _), (5, _), (7, _), (10, _)] dX11_ordersPost_125 (by decide) rfl ?_
  refine v_sub [1, 2, 3, 4, 5, 6, 0] rfl ?_
  obtain ⟨m, h⟩ := h
  exact t_X11_ordersPost_l127 C R (t_X11_ordersPost_b161 C R hc64 he188) m _ _ _ _ _ _ _ h
def X11_ordersPost_b110 (Q : Wd → Prop) (c64 : Int → Int → Int → Int → Wd → Prop) (e188 : Wd → Prop) (x1 : Int) (x4 : Int) (x5 : Int) (x7 : Int) (x8 : Int) (s0 : Int) (w : Wd) : Prop := ((wr x7 ≤ 0 → X11_ordersPost_b124 Q c64 e188 x1 x4 x5 x7 s0 w) ∧ (¬ wr x7 ≤ 0 → (¬ wl x8 = 0 ∧ (∀ y11, y11 = (lrm x5 x8) → X11_ordersPost_b124 Q c64 e188 x1 x4 y11 x7 s0 w))))
theorem t_X11_ordersPost_b110 {Z : Zw} {E : Amb} {Q : Wd → Prop} {c64 : Int → Int → Int → Int → Wd → Prop} {e188 : Wd → Prop} (C : Cx Z (adA Z) E cX11_ordersPost "HandleFacesModel" 12 rm_X11_ordersPost) (R : Rt Z E none (qV Z Q)) (hc64 : ∀ (x1 : Int) (x4 : Int) (x5 : Int) (x7 : Int) (w : Wd), c64 x1 x4 x5 x7 w → V Z (adA Z) E 12 w 64 [(0, rv Z 65), (1, iv x1), (4, iv x4), (5, jv x5), (7, iv x7)] []) (he188 : ∀ (w : Wd), e188 w → V Z (adA Z) E 12 w 188 [] []) : ∀ (x1 : Int) (x4 : Int) (x5 : Int) (x7 : Int) (x8 : Int) (s0 : Int) (w : Wd), X11_ordersPost_b110 Q c64 e188 x1 x4 x5 x7 x8 s0 w → V Z (adA Z) E 12 w 110 [(0, rv Z 65), (1, iv x1), (4, iv x4), (5, jv x5), (7, iv x7), (8, jv x8)] [iv s0] := by
  intro x1 x4 x5 x7 x8 s0 w h
  unfold X11_ordersPost_b110 at h
  refine v_istore C [(10, _), (0, _), (1, _), (4, _), (5, _), (7, _), (8, _)] dX11_ordersPost_110 (by decide) rfl ?_
  refine v_iload C dX11_ordersPost_112 5 rfl ?_
  refine v_if_le C 124 dX11_ordersPost_114 (by decide) (fun q => ?_) (fun q => ?_)
  · have h := h.1 q
    refine v_sub [1, 2, 3, 4, 5, 0] rfl ?_
    exact t_X11_ordersPost_b124 C R hc64 he188 _ _ _ _ _ _ h
  · have h := h.2 q
    refine v_lload C dX11_ordersPost_117 4 rfl ?_
    refine v_lload C dX11_ordersPost_119 6 rfl ?_
    refine v_lrem C dX11_ordersPost_121 h.1 ?_
    have h := h.2
    refine v_lstore C [(5, _), (10, _), (0, _), (1, _), (4, _), (7, _), (8, _)] dX11_ordersPost_122 (by decide) rfl ?_
    have h := h _ rfl
    refine v_sub [2, 3, 4, 0, 5, 1] rfl ?_
    exact t_X11_ordersPost_b124 C R hc64 he188 _ _ _ _ _ _ h
def X11_ordersPost_l64 (Q : Wd → Prop) (e188 : Wd → Prop) : Nat → Int → Int → Int → Int → Wd → Prop
  | 0 => fun _ _ _ _ _ => False
  | n + 1 => fun x1 x4 x5 x7 w => (ix (32 + x1) 98 ∧ ((wr (rd w 73 (32 + x1)) ≤ wr x7 → e188 w) ∧ (¬ wr (rd w 73 (32 + x1)) ≤ wr x7 → (ix (32 + x1) 98 ∧ X11_orders ((rd w 73 (32 + x1)) - x7) w (fun y4 w3 => ((wr x7 = 0 → X11_ordersPost_b110 Q (X11_ordersPost_l64 Q e188 n) e188 x1 x4 x5 x7 y4 0 w3) ∧ (¬ wr x7 = 0 → (¬ wl y4 = 0 ∧ X11_ordersPost_b110 Q (X11_ordersPost_l64 Q e188 n) e188 x1 x4 x5 x7 y4 (ldv x5 y4) w3))))))))
theorem t_X11_ordersPost_l64 {Z : Zw} {E : Amb} {Q : Wd → Prop} {e188 : Wd → Prop} (C : Cx Z (adA Z) E cX11_ordersPost "HandleFacesModel" 12 rm_X11_ordersPost) (R : Rt Z E none (qV Z Q)) (he188 : ∀ (w : Wd), e188 w → V Z (adA Z) E 12 w 188 [] []) : ∀ (n : Nat) (x1 : Int) (x4 : Int) (x5 : Int) (x7 : Int) (w : Wd), X11_ordersPost_l64 Q e188 n x1 x4 x5 x7 w → V Z (adA Z) E 12 w 64 [(0, rv Z 65), (1, iv x1), (4, iv x4), (5, jv x5), (7, iv x7)] [] := by
  intro n
  induction n with
  | zero => intro x1 x4 x5 x7 w h; exact h.elim
  | succ n ih =>
    intro x1 x4 x5 x7 w h
    unfold X11_ordersPost_l64 at h
    refine v_iload C dX11_ordersPost_64 4 rfl ?_
    refine v_aload_n C dX11_ordersPost_66 0 rfl ?_
    refine g_X11_now C wd_1087 dX11_ordersPost_67 ?_
    refine v_bipush C dX11_ordersPost_70 (by decide) ?_
    refine v_iload_n C dX11_ordersPost_72 1 rfl ?_
    refine v_iadd C dX11_ordersPost_73 ?_
    refine v_iald C rfl h.1 dX11_ordersPost_74 ?_
    have h := h.2
    refine v_icmp_ge C 188 dX11_ordersPost_75 (by decide) (fun q => ?_) (fun q => ?_)
    · have h := h.1 q
      refine v_sub [] rfl ?_
      exact he188 _ h
    · have h := h.2 q
      refine v_aload_n C dX11_ordersPost_78 0 rfl ?_
      refine g_X11_now C wd_1087 dX11_ordersPost_79 ?_
      refine v_bipush C dX11_ordersPost_82 (by decide) ?_
      refine v_iload_n C dX11_ordersPost_84 1 rfl ?_
      refine v_iadd C dX11_ordersPost_85 ?_
      refine v_iald C rfl h.1 dX11_ordersPost_86 ?_
      have h := h.2
      refine v_iload C dX11_ordersPost_87 4 rfl ?_
      refine v_isub C dX11_ordersPost_89 ?_
      refine v_calll C (rn_S C _ (m_X11_orders h) mf_X11_orders wd_1418 wd_1417 rfl rfl ⟨(Nat.le_of_ble_eq_true rfl), (Nat.le_of_ble_eq_true rfl)⟩ rfl rfl (Nat.le_of_ble_eq_true rfl) dX11_ordersPost_90) (fun r w h => ?_)
      refine v_lstore C [(8, _), (0, _), (1, _), (4, _), (5, _), (7, _)] dX11_ordersPost_93 (by decide) rfl ?_
      refine v_iload C dX11_ordersPost_95 5 rfl ?_
      refine v_if_ne C 104 dX11_ordersPost_97 (by decide) (fun q => ?_) (fun q => ?_)
      · have h := h.2 q
        refine v_lload C dX11_ordersPost_104 4 rfl ?_
        refine v_lload C dX11_ordersPost_106 0 rfl ?_
        refine v_ldiv C dX11_ordersPost_108 h.1 ?_
        have h := h.2
        refine v_l2i C dX11_ordersPost_109 ?_
        refine v_sub [1, 2, 3, 4, 5, 0] rfl ?_
        exact t_X11_ordersPost_b110 C R ih he188 _ _ _ _ _ _ _ h
      · have h := h.1 q
        refine v_iconst C dX11_ordersPost_100 ?_
        refine v_goto C 110 dX11_ordersPost_101 (by decide) ?_
        refine v_sub [1, 2, 3, 4, 5, 0] rfl ?_
        exact t_X11_ordersPost_b110 C R ih he188 _ _ _ _ _ _ _ h
def X11_ordersPost_b188 (Q : Wd → Prop) (w : Wd) : Prop := Q w
theorem t_X11_ordersPost_b188 {Z : Zw} {E : Amb} {Q : Wd → Prop} (C : Cx Z (adA Z) E cX11_ordersPost "HandleFacesModel" 12 rm_X11_ordersPost) (R : Rt Z E none (qV Z Q)) : ∀ (w : Wd), X11_ordersPost_b188 Q w → V Z (adA Z) E 12 w 188 [] [] := by
  intro w h
  unfold X11_ordersPost_b188 at h
  exact v_ret C R h dX11_ordersPost_188
def X11_ordersPost_b48 (Q : Wd → Prop) (x1 : Int) (x2 : Int) (x4 : Int) (w : Wd) : Prop := (ix (32 + x1) 98 ∧ (∀ w2, w2 = wt w 83 (32 + x1) 0 → (∃ m, X11_ordersPost_l64 Q (X11_ordersPost_b188 Q) m x1 x4 x2 0 w2)))
theorem t_X11_ordersPost_b48 {Z : Zw} {E : Amb} {Q : Wd → Prop} (C : Cx Z (adA Z) E cX11_ordersPost "HandleFacesModel" 12 rm_X11_ordersPost) (R : Rt Z E none (qV Z Q)) : ∀ (x1 : Int) (x2 : Int) (x4 : Int) (w : Wd), X11_ordersPost_b48 Q x1 x2 x4 w → V Z (adA Z) E 12 w 48 [(0, rv Z 65), (1, iv x1), (2, jv x2), (4, iv x4)] [] := by
  intro x1 x2 x4 w h
  unfold X11_ordersPost_b48 at h
  refine v_aload_n C dX11_ordersPost_48 0 rfl ?_
  refine g_X11_tried C wd_1101 dX11_ordersPost_49 ?_
  refine v_bipush C dX11_ordersPost_52 (by decide) ?_
  refine v_iload_n C dX11_ordersPost_54 1 rfl ?_
  refine v_iadd C dX11_ordersPost_55 ?_
  refine v_iconst C dX11_ordersPost_56 ?_
  refine v_iast C rfl h.1 dX11_ordersPost_57 ?_
  have h := h.2
  have h := h _ rfl
  refine v_lload_n C dX11_ordersPost_58 2 rfl ?_
  refine v_lstore C [(5, _), (0, _), (1, _), (2, _), (4, _)] dX11_ordersPost_59 (by decide) rfl ?_
  refine v_iconst C dX11_ordersPost_61 ?_
  refine v_istore C [(7, _), (5, _), (0, _), (1, _), (2, _), (4, _)] dX11_ordersPost_62 (by decide) rfl ?_
  refine v_sub [2, 3, 5, 1, 0] rfl ?_
  obtain ⟨m, h⟩ := h
  exact t_X11_ordersPost_l64 C R (t_X11_ordersPost_b188 C R) m _ _ _ _ _ h
def X11_ordersPost (x1 : Int) (x2 : Int) (w : Wd) (Q : Wd → Prop) : Prop := (∃ m, X11_ordersPost_l6 Q (X11_ordersPost_b48 Q) m x1 x2 0 0 w)
theorem m_X11_ordersPost {Z : Zw} {l : Launch} {x1 : Int} {x2 : Int} {w : Wd} {Q : Wd → Prop} (h : X11_ordersPost x1 x2 w Q) : CtQ Z l yX11_ordersPost cX11_ordersPost 12 none rm_X11_ordersPost [rv Z 65, iv x1, jv x2] w (qV Z Q) := by
  refine ct_of (by decide) (Nat.le_of_ble_eq_true rfl) (fun E eE C R => ?_)
  subst eE
  have C : Cx Z (adA Z) E cX11_ordersPost "HandleFacesModel" 12 rm_X11_ordersPost := C
  unfold X11_ordersPost at h
  show V Z (adA Z) E 12 w 0 [(0, rv Z 65), (1, iv x1), (2, jv x2)] []
  refine v_iconst C dX11_ordersPost_0 ?_
  refine v_istore C [(4, _), (0, _), (1, _), (2, _)] dX11_ordersPost_1 (by decide) rfl ?_
  refine v_iconst C dX11_ordersPost_3 ?_
  refine v_istore C [(5, _), (4, _), (0, _), (1, _), (2, _)] dX11_ordersPost_4 (by decide) rfl ?_
  refine v_sub [2, 3, 4, 1, 0] rfl ?_
  obtain ⟨m, h⟩ := h
  exact t_X11_ordersPost_l6 C R (t_X11_ordersPost_b48 C R) m _ _ _ _ _ h
