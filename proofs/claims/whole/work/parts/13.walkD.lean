abbrev rm_X10_feed : Room := { frames := 1, cells := 0, slots := 0, locals := 22 }
theorem mf_X10_feed : MfB yX10_feed cX10_feed 6 (some .int) 5 := ⟨wd_417, wd_1, by decide, by decide, by decide +kernel⟩
def X10_feed (x1 : Int) (x2 : Int) (x3 : Int) (x4 : Int) (x5 : Int) (w : Wd) (Q : Int → Wd → Prop) : Prop := ((wr ((w 9 0) + 20) ≤ wr 2000 → X6_append x1 w (fun w1 => X6_append x2 w1 (fun w2 => X6_append x3 w2 (fun w3 => X6_append x4 w3 (fun w4 => X6_append x5 w4 (fun w5 => Q (wr (w5 9 0)) w5)))))) ∧ (¬ wr ((w 9 0) + 20) ≤ wr 2000 → Q (wr (-1)) w))
theorem m_X10_feed {Z : Zw} {l : Launch} {x1 : Int} {x2 : Int} {x3 : Int} {x4 : Int} {x5 : Int} {w : Wd} {Q : Int → Wd → Prop} (h : X10_feed x1 x2 x3 x4 x5 w Q) : CtQ Z l yX10_feed cX10_feed 6 (some .int) rm_X10_feed [rv Z 0, iv x1, iv x2, iv x3, iv x4, iv x5] w (qI Z Q) := by
  refine ct_of (by decide) (Nat.le_of_ble_eq_true rfl) (fun E eE C R => ?_)
  subst eE
  have C : Cx Z (adA Z) E cX10_feed "HandleFaces" 6 rm_X10_feed := C
  unfold X10_feed at h
  show V Z (adA Z) E 6 w 0 [(0, rv Z 0), (1, iv x1), (2, iv x2), (3, iv x3), (4, iv x4), (5, iv x5)] []
  refine v_aload_n C dX10_feed_0 0 rfl ?_
  refine g_X10_scanner C wd_361 dX10_feed_1 ?_
  refine g_X6_length C wd_94 dX10_feed_4 ?_
  refine v_bipush C dX10_feed_7 (by decide) ?_
  refine v_iadd C dX10_feed_9 ?_
  refine v_sipush C dX10_feed_10 (by decide) ?_
  refine v_icmp_le C 18 dX10_feed_13 (by decide) (fun q => ?_) (fun q => ?_)
  · have h := h.1 q
    refine v_aload_n C dX10_feed_18 0 rfl ?_
    refine g_X10_scanner C wd_361 dX10_feed_19 ?_
    refine v_iload_n C dX10_feed_22 1 rfl ?_
    refine v_callv C (rn_V C _ (m_X6_append h) mf_X6_append wd_419 wd_420 wd_418 rfl rfl ⟨(Nat.le_of_ble_eq_true rfl), (Nat.le_of_ble_eq_true rfl)⟩ rfl rfl rfl rfl (Nat.le_of_ble_eq_true rfl) dX10_feed_23) (fun w h => ?_)
    refine v_aload_n C dX10_feed_26 0 rfl ?_
    refine g_X10_scanner C wd_361 dX10_feed_27 ?_
    refine v_iload_n C dX10_feed_30 2 rfl ?_
    refine v_callv C (rn_V C _ (m_X6_append h) mf_X6_append wd_419 wd_420 wd_418 rfl rfl ⟨(Nat.le_of_ble_eq_true rfl), (Nat.le_of_ble_eq_true rfl)⟩ rfl rfl rfl rfl (Nat.le_of_ble_eq_true rfl) dX10_feed_31) (fun w h => ?_)
    refine v_aload_n C dX10_feed_34 0 rfl ?_
    refine g_X10_scanner C wd_361 dX10_feed_35 ?_
    refine v_iload_n C dX10_feed_38 3 rfl ?_
    refine v_callv C (rn_V C _ (m_X6_append h) mf_X6_append wd_419 wd_420 wd_418 rfl rfl ⟨(Nat.le_of_ble_eq_true rfl), (Nat.le_of_ble_eq_true rfl)⟩ rfl rfl rfl rfl (Nat.le_of_ble_eq_true rfl) dX10_feed_39) (fun w h => ?_)
    refine v_aload_n C dX10_feed_42 0 rfl ?_
    refine g_X10_scanner C wd_361 dX10_feed_43 ?_
    refine v_iload C dX10_feed_46 4 rfl ?_
    refine v_callv C (rn_V C _ (m_X6_append h) mf_X6_append wd_419 wd_420 wd_418 rfl rfl ⟨(Nat.le_of_ble_eq_true rfl), (Nat.le_of_ble_eq_true rfl)⟩ rfl rfl rfl rfl (Nat.le_of_ble_eq_true rfl) dX10_feed_48) (fun w h => ?_)
    refine v_aload_n C dX10_feed_51 0 rfl ?_
    refine g_X10_scanner C wd_361 dX10_feed_52 ?_
    refine v_iload C dX10_feed_55 5 rfl ?_
    refine v_callv C (rn_V C _ (m_X6_append h) mf_X6_append wd_419 wd_420 wd_418 rfl rfl ⟨(Nat.le_of_ble_eq_true rfl), (Nat.le_of_ble_eq_true rfl)⟩ rfl rfl rfl rfl (Nat.le_of_ble_eq_true rfl) dX10_feed_57) (fun w h => ?_)
    refine v_aload_n C dX10_feed_60 0 rfl ?_
    refine g_X10_scanner C wd_361 dX10_feed_61 ?_
    refine g_X6_length C wd_94 dX10_feed_64 ?_
    exact v_iret C R h dX10_feed_67
  · have h := h.2 q
    refine v_iconst C dX10_feed_16 ?_
    exact v_iret C R h dX10_feed_17
abbrev rm_X10_back : Room := { frames := 0, cells := 0, slots := 0, locals := 0 }
theorem mf_X10_back : MfB yX10_back cX10_back 2 (some .int) 1 := ⟨wd_425, wd_1, by decide, by decide, by decide +kernel⟩
def X10_back (x1 : Int) (w : Wd) (Q : Int → Wd → Prop) : Prop := ((wr x1 < 0 → Q (wr (-1)) w) ∧ (¬ wr x1 < 0 → ((wr x1 ≤ wr (w 9 0) → (∀ w1, w1 = up w 9 0 ((w 9 0) - x1) → Q (wr (w1 9 0)) w1)) ∧ (¬ wr x1 ≤ wr (w 9 0) → Q (wr (-1)) w))))
theorem m_X10_back {Z : Zw} {l : Launch} {x1 : Int} {w : Wd} {Q : Int → Wd → Prop} (h : X10_back x1 w Q) : CtQ Z l yX10_back cX10_back 2 (some .int) rm_X10_back [rv Z 0, iv x1] w (qI Z Q) := by
  refine ct_of (by decide) (Nat.le_of_ble_eq_true rfl) (fun E eE C R => ?_)
  subst eE
  have C : Cx Z (adA Z) E cX10_back "HandleFaces" 2 rm_X10_back := C
  unfold X10_back at h
  show V Z (adA Z) E 2 w 0 [(0, rv Z 0), (1, iv x1)] []
  refine v_iload_n C dX10_back_0 1 rfl ?_
  refine v_if_lt C 15 dX10_back_1 (by decide) (fun q => ?_) (fun q => ?_)
  · have h := h.1 q
    refine v_iconst C dX10_back_15 ?_
    exact v_iret C R h dX10_back_16
  · have h := h.2 q
    refine v_iload_n C dX10_back_4 1 rfl ?_
    refine v_aload_n C dX10_back_5 0 rfl ?_
    refine g_X10_scanner C wd_361 dX10_back_6 ?_
    refine g_X6_length C wd_94 dX10_back_9 ?_
    refine v_icmp_le C 17 dX10_back_12 (by decide) (fun q => ?_) (fun q => ?_)
    · have h := h.1 q
      refine v_aload_n C dX10_back_17 0 rfl ?_
      refine g_X10_scanner C wd_361 dX10_back_18 ?_
      refine v_dup C dX10_back_21 rfl ?_
      refine g_X6_length C wd_94 dX10_back_22 ?_
      refine v_iload_n C dX10_back_25 1 rfl ?_
      refine v_isub C dX10_back_26 ?_
      refine p_X6_length C wd_94 dX10_back_27 ?_
      have h := h _ rfl
      refine v_aload_n C dX10_back_30 0 rfl ?_
      refine g_X10_scanner C wd_361 dX10_back_31 ?_
      refine g_X6_length C wd_94 dX10_back_34 ?_
      exact v_iret C R h dX10_back_37
    · have h := h.2 q
      refine v_iconst C dX10_back_15 ?_
      exact v_iret C R h dX10_back_16
abbrev rm_X10_forgetPast : Room := { frames := 0, cells := 0, slots := 0, locals := 0 }
theorem mf_X10_forgetPast : MfB yX10_forgetPast cX10_forgetPast 1 none 0 := ⟨wd_593, wd_1, by decide, by decide, by decide +kernel⟩
def X10_forgetPast (w : Wd) (Q : Wd → Prop) : Prop := (∀ w1, w1 = up w 0 13 0 → (∀ w2, w2 = up w1 0 14 0 → Q w2))
theorem m_X10_forgetPast {Z : Zw} {l : Launch} {w : Wd} {Q : Wd → Prop} (h : X10_forgetPast w Q) : CtQ Z l yX10_forgetPast cX10_forgetPast 1 none rm_X10_forgetPast [rv Z 0] w (qV Z Q) := by
  refine ct_of (by decide) (Nat.le_of_ble_eq_true rfl) (fun E eE C R => ?_)
  subst eE
  have C : Cx Z (adA Z) E cX10_forgetPast "HandleFaces" 1 rm_X10_forgetPast := C
  unfold X10_forgetPast at h
  show V Z (adA Z) E 1 w 0 [(0, rv Z 0)] []
  refine v_aload_n C dX10_forgetPast_0 0 rfl ?_
  refine v_iconst C dX10_forgetPast_1 ?_
  refine p_X10_pastNext C wd_372 dX10_forgetPast_2 ?_
  have h := h _ rfl
  refine v_aload_n C dX10_forgetPast_5 0 rfl ?_
  refine v_iconst C dX10_forgetPast_6 ?_
  refine p_X10_pastCount C wd_373 dX10_forgetPast_7 ?_
  have h := h _ rfl
  exact v_ret C R h dX10_forgetPast_10
abbrev rm_X10_read : Room := { frames := 8, cells := 0, slots := 0, locals := 289 }
theorem mf_X10_read : MfB yX10_read cX10_read 2 (some .int) 0 := ⟨wd_429, wd_1, by decide, by decide, by decide +kernel⟩
def X10_read_b53 (Q : Int → Wd → Prop) (x1 : Int) (w : Wd) : Prop := ((wr x1 = 0 → X4_build 1 w (fun w5 => X10_forgetPast w5 (fun w6 => (∀ w7, w7 = up w6 0 15 0 → (∀ w8, w8 = up w7 0 17 0 → (∀ w9, w9 = up w8 9 0 0 → Q (wr x1) w9)))))) ∧ (¬ wr x1 = 0 → (∀ w4, w4 = up w 9 0 0 → Q (wr x1) w4)))
theorem t_X10_read_b53 {Z : Zw} {E : Amb} {Q : Int → Wd → Prop} (C : Cx Z (adA Z) E cX10_read "HandleFaces" 2 rm_X10_read) (R : Rt Z E (some .int) (qI Z Q)) : ∀ (x1 : Int) (w : Wd), X10_read_b53 Q x1 w → V Z (adA Z) E 2 w 53 [(0, rv Z 0), (1, iv x1)] [] := by
  intro x1 w h
  unfold X10_read_b53 at h
  refine v_iload_n C dX10_read_53 1 rfl ?_
  refine v_if_ne C 86 dX10_read_54 (by decide) (fun q => ?_) (fun q => ?_)
  · have h := h.2 q
    refine v_aload_n C dX10_read_86 0 rfl ?_
    refine g_X10_scanner C wd_361 dX10_read_87 ?_
    refine v_iconst C dX10_read_90 ?_
    refine p_X6_length C wd_94 dX10_read_91 ?_
    have h := h _ rfl
    refine v_iload_n C dX10_read_94 1 rfl ?_
    exact v_iret C R h dX10_read_95
  · have h := h.1 q
    refine v_aload_n C dX10_read_57 0 rfl ?_
    refine g_X10_reader C wd_362 dX10_read_58 ?_
    refine v_aload_n C dX10_read_61 0 rfl ?_
    refine g_X10_scanner C wd_361 dX10_read_62 ?_
    refine v_aload_n C dX10_read_65 0 rfl ?_
    refine g_X10_drawing C wd_359 dX10_read_66 ?_
    refine v_callv C (rn_V C _ (m_X4_build s_X1_1 h) mf_X4_build wd_568 wd_569 wd_567 rfl rfl ⟨(Nat.le_of_ble_eq_true rfl), (Nat.le_of_ble_eq_true rfl)⟩ rfl rfl rfl rfl (Nat.le_of_ble_eq_true rfl) dX10_read_69) (fun w h => ?_)
    refine v_aload_n C dX10_read_72 0 rfl ?_
    refine v_callv C (rn_V C _ (m_X10_forgetPast h) mf_X10_forgetPast wd_592 wp_16 wd_590 rfl rfl ⟨(Nat.le_of_ble_eq_true rfl), (Nat.le_of_ble_eq_true rfl)⟩ rfl rfl rfl rfl (Nat.le_of_ble_eq_true rfl) dX10_read_73) (fun w h => ?_)
    refine v_aload_n C dX10_read_76 0 rfl ?_
    refine v_iconst C dX10_read_77 ?_
    refine p_X10_slotsHeld C wd_374 dX10_read_78 ?_
    have h := h _ rfl
    refine v_aload_n C dX10_read_81 0 rfl ?_
    refine v_iconst C dX10_read_82 ?_
    refine p_X10_traced C (Or.inl rfl) wd_376 dX10_read_83 ?_
    have h := h _ rfl
    refine v_aload_n C dX10_read_86 0 rfl ?_
    refine g_X10_scanner C wd_361 dX10_read_87 ?_
    refine v_iconst C dX10_read_90 ?_
    refine p_X6_length C wd_94 dX10_read_91 ?_
    have h := h _ rfl
    refine v_iload_n C dX10_read_94 1 rfl ?_
    exact v_iret C R h dX10_read_95
def X10_read (w : Wd) (Q : Int → Wd → Prop) : Prop := X6_scan w (fun w1 => (∀ y2, y2 = (w1 9 2) → (∀ w3, w3 = up w1 0 16 (w1 9 3) → ((wr y2 = 0 → X4_check w3 (fun y11 w10 => (∀ w12, w12 = up w10 0 16 (w10 14 1) → X10_read_b53 Q y11 w12))) ∧ (¬ wr y2 = 0 → X10_read_b53 Q y2 w3)))))
theorem m_X10_read {Z : Zw} {l : Launch} {w : Wd} {Q : Int → Wd → Prop} (h : X10_read w Q) : CtQ Z l yX10_read cX10_read 2 (some .int) rm_X10_read [rv Z 0] w (qI Z Q) := by
  refine ct_of (by decide) (Nat.le_of_ble_eq_true rfl) (fun E eE C R => ?_)
  subst eE
  have C : Cx Z (adA Z) E cX10_read "HandleFaces" 2 rm_X10_read := C
  unfold X10_read at h
  show V Z (adA Z) E 2 w 0 [(0, rv Z 0)] []
  refine v_aload_n C dX10_read_0 0 rfl ?_
  refine g_X10_scanner C wd_361 dX10_read_1 ?_
  refine v_callv C (rn_V C _ (m_X6_scan h) mf_X6_scan wd_431 wd_432 wd_430 rfl rfl ⟨(Nat.le_of_ble_eq_true rfl), (Nat.le_of_ble_eq_true rfl)⟩ rfl rfl rfl rfl (Nat.le_of_ble_eq_true rfl) dX10_read_4) (fun w h => ?_)
  refine v_aload_n C dX10_read_7 0 rfl ?_
  refine g_X10_scanner C wd_361 dX10_read_8 ?_
  refine g_X6_fault C wd_98 dX10_read_11 ?_
  refine v_istore_n C [(1, _), (0, _)] dX10_read_14 1 rfl (by decide) rfl ?_
  have h := h _ rfl
  refine v_aload_n C dX10_read_15 1 rfl ?_
  refine v_aload_n C dX10_read_16 1 rfl ?_
  refine g_X10_scanner C wd_361 dX10_read_17 ?_
  refine g_X6_faultPlace C wd_100 dX10_read_20 ?_
  refine p_X10_faultPlace C wd_375 dX10_read_23 ?_
  have h := h _ rfl
  refine v_iload_n C dX10_read_26 0 rfl ?_
  refine v_if_ne C 53 dX10_read_27 (by decide) (fun q => ?_) (fun q => ?_)
  · have h := h.2 q
    refine v_sub [1, 0] rfl ?_
    exact t_X10_read_b53 C R _ _ h
  · have h := h.1 q
    refine v_aload_n C dX10_read_30 1 rfl ?_
    refine g_X10_reader C wd_362 dX10_read_31 ?_
    refine v_aload_n C dX10_read_34 1 rfl ?_
    refine g_X10_scanner C wd_361 dX10_read_35 ?_
    refine v_calli C (rn_V C _ (m_X4_check h) mf_X4_check wd_532 wd_533 wd_531 rfl rfl ⟨(Nat.le_of_ble_eq_true rfl), (Nat.le_of_ble_eq_true rfl)⟩ rfl rfl rfl rfl (Nat.le_of_ble_eq_true rfl) dX10_read_38) (fun r w h => ?_)
    refine v_istore_n C [(1, _), (0, _)] dX10_read_41 1 rfl (by decide) rfl ?_
    refine v_aload_n C dX10_read_42 1 rfl ?_
    refine v_aload_n C dX10_read_43 1 rfl ?_
    refine g_X10_reader C wd_362 dX10_read_44 ?_
    refine g_X4_faultPlace C wd_153 dX10_read_47 ?_
    refine p_X10_faultPlace C wd_375 dX10_read_50 ?_
    have h := h _ rfl
    refine v_sub [1, 0] rfl ?_
    exact t_X10_read_b53 C R _ _ h
abbrev rm_X10_place : Room := { frames := 0, cells := 0, slots := 0, locals := 0 }
theorem mf_X10_place : MfB yX10_place cX10_place 1 (some .int) 0 := ⟨wd_597, wd_1, by decide, by decide, by decide +kernel⟩
def X10_place (w : Wd) (Q : Int → Wd → Prop) : Prop := Q (wr (w 0 16)) w
theorem m_X10_place {Z : Zw} {l : Launch} {w : Wd} {Q : Int → Wd → Prop} (h : X10_place w Q) : CtQ Z l yX10_place cX10_place 1 (some .int) rm_X10_place [rv Z 0] w (qI Z Q) := by
  refine ct_of (by decide) (Nat.le_of_ble_eq_true rfl) (fun E eE C R => ?_)
  subst eE
  have C : Cx Z (adA Z) E cX10_place "HandleFaces" 1 rm_X10_place := C
  unfold X10_place at h
  show V Z (adA Z) E 1 w 0 [(0, rv Z 0)] []
  refine v_aload_n C dX10_place_0 0 rfl ?_
  refine g_X10_faultPlace C wd_375 dX10_place_1 ?_
  exact v_iret C R h dX10_place_4
abbrev rm_X10_keepPast : Room := { frames := 2, cells := 0, slots := 0, locals := 63 }
theorem mf_X10_keepPast : MfB yX10_keepPast cX10_keepPast 1 none 0 := ⟨wd_614, wd_1, by decide, by decide, by decide +kernel⟩
def X10_keepPast_b37 (Q : Wd → Prop) (s0 : Int) (w : Wd) : Prop := (∀ w2, w2 = up w 0 13 s0 → (∀ w3, w3 = up w2 0 14 (imn ((w2 0 14) + 1) 40) → (∀ w4, w4 = up w3 0 17 0 → Q w4)))
theorem t_X10_keepPast_b37 {Z : Zw} {E : Amb} {Q : Wd → Prop} (C : Cx Z (adA Z) E cX10_keepPast "HandleFaces" 1 rm_X10_keepPast) (R : Rt Z E none (qV Z Q)) : ∀ (s0 : Int) (w : Wd), X10_keepPast_b37 Q s0 w → V Z (adA Z) E 1 w 37 [(0, rv Z 0)] [iv s0, rv Z 0] := by
  intro s0 w h
  unfold X10_keepPast_b37 at h
  refine p_X10_pastNext C wd_372 dX10_keepPast_37 ?_
  have h := h _ rfl
  refine v_aload_n C dX10_keepPast_40 0 rfl ?_
  refine v_aload_n C dX10_keepPast_41 0 rfl ?_
  refine g_X10_pastCount C wd_373 dX10_keepPast_42 ?_
  refine v_iconst C dX10_keepPast_45 ?_
  refine v_iadd C dX10_keepPast_46 ?_
  refine v_bipush C dX10_keepPast_47 (by decide) ?_
  refine v_mmin C wd_620 wd_347 wd_12 wd_348 (Nat.le_of_ble_eq_true rfl) (Nat.le_of_ble_eq_true rfl) dX10_keepPast_49 ?_
  refine p_X10_pastCount C wd_373 dX10_keepPast_52 ?_
  have h := h _ rfl
  refine v_aload_n C dX10_keepPast_55 0 rfl ?_
  refine v_iconst C dX10_keepPast_56 ?_
  refine p_X10_traced C (Or.inl rfl) wd_376 dX10_keepPast_57 ?_
  have h := h _ rfl
  exact v_ret C R h dX10_keepPast_60
def X10_keepPast (w : Wd) (Q : Wd → Prop) : Prop := X7_store 61 1 (w 0 13) w (fun w1 => ((wr ((w1 0 13) + 1) = wr 40 → X10_keepPast_b37 Q 0 w1) ∧ (¬ wr ((w1 0 13) + 1) = wr 40 → X10_keepPast_b37 Q ((w1 0 13) + 1) w1)))
theorem m_X10_keepPast {Z : Zw} {l : Launch} {w : Wd} {Q : Wd → Prop} (h : X10_keepPast w Q) : CtQ Z l yX10_keepPast cX10_keepPast 1 none rm_X10_keepPast [rv Z 0] w (qV Z Q) := by
  refine ct_of (by decide) (Nat.le_of_ble_eq_true rfl) (fun E eE C R => ?_)
  subst eE
  have C : Cx Z (adA Z) E cX10_keepPast "HandleFaces" 1 rm_X10_keepPast := C
  unfold X10_keepPast at h
  show V Z (adA Z) E 1 w 0 [(0, rv Z 0)] []
  refine v_aload_n C dX10_keepPast_0 0 rfl ?_
  refine g_X10_past C wd_370 dX10_keepPast_1 ?_
  refine v_aload_n C dX10_keepPast_4 0 rfl ?_
  refine g_X10_pastNext C wd_372 dX10_keepPast_5 ?_
  refine v_aload_n C dX10_keepPast_8 0 rfl ?_
  refine g_X10_drawing C wd_359 dX10_keepPast_9 ?_
  refine v_callv C (rn_V C _ (m_X7_store s_X7_61 s_X1_1 h) mf_X7_store wd_616 wd_617 wd_615 rfl rfl ⟨(Nat.le_of_ble_eq_true rfl), (Nat.le_of_ble_eq_true rfl)⟩ s_X7_61.1 rfl rfl rfl (Nat.le_of_ble_eq_true rfl) dX10_keepPast_12) (fun w h => ?_)
  refine v_aload_n C dX10_keepPast_15 0 rfl ?_
  refine v_aload_n C dX10_keepPast_16 0 rfl ?_
  refine g_X10_pastNext C wd_372 dX10_keepPast_17 ?_
  refine v_iconst C dX10_keepPast_20 ?_
  refine v_iadd C dX10_keepPast_21 ?_
  refine v_bipush C dX10_keepPast_22 (by decide) ?_
  refine v_icmp_ne C 31 dX10_keepPast_24 (by decide) (fun q => ?_) (fun q => ?_)
  · have h := h.2 q
    refine v_aload_n C dX10_keepPast_31 0 rfl ?_
    refine g_X10_pastNext C wd_372 dX10_keepPast_32 ?_
    refine v_iconst C dX10_keepPast_35 ?_
    refine v_iadd C dX10_keepPast_36 ?_
    exact t_X10_keepPast_b37 C R _ _ h
  · have h := h.1 q
    refine v_iconst C dX10_keepPast_27 ?_
    refine v_goto C 37 dX10_keepPast_28 (by decide) ?_
    exact t_X10_keepPast_b37 C R _ _ h
abbrev rm_X10_lay : Room := { frames := 3, cells := 0, slots := 0, locals := 83 }
theorem mf_X10_lay : MfB yX10_lay cX10_lay 6 (some .int) 5 := ⟨wd_601, wd_1, by decide, by decide, by decide +kernel⟩
def X10_lay (x1 : Int) (x2 : Int) (x3 : Int) (x4 : Int) (x5 : Int) (w : Wd) (Q : Int → Wd → Prop) : Prop := ((wr 10 ≤ wr (w 1 1) → Q (wr (-1)) w) ∧ (¬ wr 10 ≤ wr (w 1 1) → ((wr x1 = wr x3 → Q (wr (-1)) w) ∧ (¬ wr x1 = wr x3 → X1_hasCorner 1 x1 x2 w (fun y2 w1 => ((wr y2 = 0 → Q (wr (-1)) w1) ∧ (¬ wr y2 = 0 → X1_hasCorner 1 x3 x4 w1 (fun y4 w3 => ((wr y4 = 0 → Q (wr (-1)) w3) ∧ (¬ wr y4 = 0 → X10_keepPast w3 (fun w5 => X1_addLine 1 x1 x2 x3 x4 x5 w5 (fun y7 w6 => Q (wr y7) w6))))))))))))
theorem m_X10_lay {Z : Zw} {l : Launch} {x1 : Int} {x2 : Int} {x3 : Int} {x4 : Int} {x5 : Int} {w : Wd} {Q : Int → Wd → Prop} (h : X10_lay x1 x2 x3 x4 x5 w Q) : CtQ Z l yX10_lay cX10_lay 6 (some .int) rm_X10_lay [rv Z 0, iv x1, iv x2, iv x3, iv x4, iv x5] w (qI Z Q) := by
  refine ct_of (by decide) (Nat.le_of_ble_eq_true rfl) (fun E eE C R => ?_)
  subst eE
  have C : Cx Z (adA Z) E cX10_lay "HandleFaces" 6 rm_X10_lay := C
  unfold X10_lay at h
  show V Z (adA Z) E 6 w 0 [(0, rv Z 0), (1, iv x1), (2, iv x2), (3, iv x3), (4, iv x4), (5, iv x5)] []
  refine v_aload_n C dX10_lay_0 0 rfl ?_
  refine g_X10_drawing C wd_359 dX10_lay_1 ?_
  refine g_X1_lines C s_X1_1 wd_49 dX10_lay_4 ?_
  refine v_bipush C dX10_lay_7 (by decide) ?_
  refine v_icmp_ge C 42 dX10_lay_9 (by decide) (fun q => ?_) (fun q => ?_)
  · have h := h.1 q
    refine v_iconst C dX10_lay_42 ?_
    exact v_iret C R h dX10_lay_43
  · have h := h.2 q
    refine v_iload_n C dX10_lay_12 1 rfl ?_
    refine v_iload_n C dX10_lay_13 3 rfl ?_
    refine v_icmp_eq C 42 dX10_lay_14 (by decide) (fun q => ?_) (fun q => ?_)
    · have h := h.1 q
      refine v_iconst C dX10_lay_42 ?_
      exact v_iret C R h dX10_lay_43
    · have h := h.2 q
      refine v_aload_n C dX10_lay_17 0 rfl ?_
      refine g_X10_drawing C wd_359 dX10_lay_18 ?_
      refine v_iload_n C dX10_lay_21 1 rfl ?_
      refine v_iload_n C dX10_lay_22 2 rfl ?_
      refine v_calli C (rn_V C _ (m_X1_hasCorner s_X1_1 h) mf_X1_hasCorner wd_603 wd_604 wd_602 rfl rfl ⟨(Nat.le_of_ble_eq_true rfl), (Nat.le_of_ble_eq_true rfl)⟩ s_X1_1.1 rfl rfl rfl (Nat.le_of_ble_eq_true rfl) dX10_lay_23) (fun r w h => ?_)
      refine v_if_eq C 42 dX10_lay_26 (by decide) (fun q => ?_) (fun q => ?_)
      · have h := h.1 q
        refine v_iconst C dX10_lay_42 ?_
        exact v_iret C R h dX10_lay_43
      · have h := h.2 q
        refine v_aload_n C dX10_lay_29 0 rfl ?_
        refine g_X10_drawing C wd_359 dX10_lay_30 ?_
        refine v_iload_n C dX10_lay_33 3 rfl ?_
        refine v_iload C dX10_lay_34 4 rfl ?_
        refine v_calli C (rn_V C _ (m_X1_hasCorner s_X1_1 h) mf_X1_hasCorner wd_603 wd_604 wd_602 rfl rfl ⟨(Nat.le_of_ble_eq_true rfl), (Nat.le_of_ble_eq_true rfl)⟩ s_X1_1.1 rfl rfl rfl (Nat.le_of_ble_eq_true rfl) dX10_lay_36) (fun r w h => ?_)
        refine v_if_ne C 44 dX10_lay_39 (by decide) (fun q => ?_) (fun q => ?_)
        · have h := h.2 q
          refine v_aload_n C dX10_lay_44 0 rfl ?_
          refine v_callv C (rn_V C _ (m_X10_keepPast h) mf_X10_keepPast wd_613 wp_17 wd_611 rfl rfl ⟨(Nat.le_of_ble_eq_true rfl), (Nat.le_of_ble_eq_true rfl)⟩ rfl rfl rfl rfl (Nat.le_of_ble_eq_true rfl) dX10_lay_45) (fun w h => ?_)
          refine v_aload_n C dX10_lay_48 0 rfl ?_
          refine g_X10_drawing C wd_359 dX10_lay_49 ?_
          refine v_iload_n C dX10_lay_52 1 rfl ?_
          refine v_iload_n C dX10_lay_53 2 rfl ?_
          refine v_iload_n C dX10_lay_54 3 rfl ?_
          refine v_iload C dX10_lay_55 4 rfl ?_
          refine v_iload C dX10_lay_57 5 rfl ?_
          refine v_calli C (rn_V C _ (m_X1_addLine s_X1_1 h) mf_X1_addLine wd_622 wd_623 wd_621 rfl rfl ⟨(Nat.le_of_ble_eq_true rfl), (Nat.le_of_ble_eq_true rfl)⟩ s_X1_1.1 rfl rfl rfl (Nat.le_of_ble_eq_true rfl) dX10_lay_59) (fun r w h => ?_)
          exact v_iret C R h dX10_lay_62
        · have h := h.1 q
          refine v_iconst C dX10_lay_42 ?_
          exact v_iret C R h dX10_lay_43
abbrev rm_X10_goes : Room := { frames := 4, cells := 0, slots := 0, locals := 91 }
theorem mf_X10_goes : MfB yX10_goes cX10_goes 2 (some .boolean) 1 := ⟨wd_629, wd_1, by decide, by decide, by decide +kernel⟩
def X10_goes (x1 : Int) (w : Wd) (Q : Int → Wd → Prop) : Prop := X1_hasLine 1 x1 w (fun y2 w1 => ((wr y2 = 0 → Q 0 w1) ∧ (¬ wr y2 = 0 → X10_keepPast w1 (fun w3 => X1_dropLine 1 x1 w3 (fun w4 => Q 1 w4)))))
theorem m_X10_goes {Z : Zw} {l : Launch} {x1 : Int} {w : Wd} {Q : Int → Wd → Prop} (h : X10_goes x1 w Q) : CtQ Z l yX10_goes cX10_goes 2 (some .boolean) rm_X10_goes [rv Z 0, iv x1] w (qI Z Q) := by
  refine ct_of (by decide) (Nat.le_of_ble_eq_true rfl) (fun E eE C R => ?_)
  subst eE
  have C : Cx Z (adA Z) E cX10_goes "HandleFaces" 2 rm_X10_goes := C
  unfold X10_goes at h
  show V Z (adA Z) E 2 w 0 [(0, rv Z 0), (1, iv x1)] []
  refine v_aload_n C dX10_goes_0 0 rfl ?_
  refine g_X10_drawing C wd_359 dX10_goes_1 ?_
  refine v_iload_n C dX10_goes_4 1 rfl ?_
  refine v_calli C (rn_V C _ (m_X1_hasLine s_X1_1 h) mf_X1_hasLine wd_631 wd_632 wd_630 rfl rfl ⟨(Nat.le_of_ble_eq_true rfl), (Nat.le_of_ble_eq_true rfl)⟩ s_X1_1.1 rfl rfl rfl (Nat.le_of_ble_eq_true rfl) dX10_goes_5) (fun r w h => ?_)
  refine v_if_ne C 13 dX10_goes_8 (by decide) (fun q => ?_) (fun q => ?_)
  · have h := h.2 q
    refine v_aload_n C dX10_goes_13 0 rfl ?_
    refine v_callv C (rn_V C _ (m_X10_keepPast h) mf_X10_keepPast wd_613 wp_17 wd_611 rfl rfl ⟨(Nat.le_of_ble_eq_true rfl), (Nat.le_of_ble_eq_true rfl)⟩ rfl rfl rfl rfl (Nat.le_of_ble_eq_true rfl) dX10_goes_14) (fun w h => ?_)
    refine v_aload_n C dX10_goes_17 0 rfl ?_
    refine g_X10_drawing C wd_359 dX10_goes_18 ?_
    refine v_iload_n C dX10_goes_21 1 rfl ?_
    refine v_callv C (rn_V C _ (m_X1_dropLine s_X1_1 h) mf_X1_dropLine wd_635 wd_636 wd_634 rfl rfl ⟨(Nat.le_of_ble_eq_true rfl), (Nat.le_of_ble_eq_true rfl)⟩ s_X1_1.1 rfl rfl rfl (Nat.le_of_ble_eq_true rfl) dX10_goes_22) (fun w h => ?_)
    refine v_iconst C dX10_goes_25 ?_
    exact v_zret C R (Or.inr rfl) h dX10_goes_26
  · have h := h.1 q
    refine v_iconst C dX10_goes_11 ?_
    exact v_zret C R (Or.inl rfl) h dX10_goes_12
abbrev rm_X10_twist : Room := { frames := 3, cells := 0, slots := 0, locals := 83 }
theorem mf_X10_twist : MfB yX10_twist cX10_twist 2 (some .boolean) 1 := ⟨wd_657, wd_1, by decide, by decide, by decide +kernel⟩
def X10_twist (x1 : Int) (w : Wd) (Q : Int → Wd → Prop) : Prop := X1_hasLine 1 x1 w (fun y2 w1 => ((wr y2 = 0 → Q 0 w1) ∧ (¬ wr y2 = 0 → X10_keepPast w1 (fun w3 => (∀ w4, w4 = up w3 1 2 (ixo (w3 1 2) (isl 1 x1)) → Q 1 w4)))))
theorem m_X10_twist {Z : Zw} {l : Launch} {x1 : Int} {w : Wd} {Q : Int → Wd → Prop} (h : X10_twist x1 w Q) : CtQ Z l yX10_twist cX10_twist 2 (some .boolean) rm_X10_twist [rv Z 0, iv x1] w (qI Z Q) := by
  refine ct_of (by decide) (Nat.le_of_ble_eq_true rfl) (fun E eE C R => ?_)
  subst eE
  have C : Cx Z (adA Z) E cX10_twist "HandleFaces" 2 rm_X10_twist := C
  unfold X10_twist at h
  show V Z (adA Z) E 2 w 0 [(0, rv Z 0), (1, iv x1)] []
  refine v_aload_n C dX10_twist_0 0 rfl ?_
  refine g_X10_drawing C wd_359 dX10_twist_1 ?_
  refine v_iload_n C dX10_twist_4 1 rfl ?_
  refine v_calli C (rn_V C _ (m_X1_hasLine s_X1_1 h) mf_X1_hasLine wd_631 wd_632 wd_630 rfl rfl ⟨(Nat.le_of_ble_eq_true rfl), (Nat.le_of_ble_eq_true rfl)⟩ s_X1_1.1 rfl rfl rfl (Nat.le_of_ble_eq_true rfl) dX10_twist_5) (fun r w h => ?_)
  refine v_if_ne C 13 dX10_twist_8 (by decide) (fun q => ?_) (fun q => ?_)
  · have h := h.2 q
    refine v_aload_n C dX10_twist_13 0 rfl ?_
    refine v_callv C (rn_V C _ (m_X10_keepPast h) mf_X10_keepPast wd_613 wp_17 wd_611 rfl rfl ⟨(Nat.le_of_ble_eq_true rfl), (Nat.le_of_ble_eq_true rfl)⟩ rfl rfl rfl rfl (Nat.le_of_ble_eq_true rfl) dX10_twist_14) (fun w h => ?_)
    refine v_aload_n C dX10_twist_17 0 rfl ?_
    refine g_X10_drawing C wd_359 dX10_twist_18 ?_
    refine v_dup C dX10_twist_21 rfl ?_
    refine g_X1_twists C s_X1_1 wd_55 dX10_twist_22 ?_
    refine v_iconst C dX10_twist_25 ?_
    refine v_iload_n C dX10_twist_26 1 rfl ?_
    refine v_ishl C dX10_twist_27 ?_
    refine v_ixor C dX10_twist_28 ?_
    refine p_X1_twists C s_X1_1 wd_55 dX10_twist_29 ?_
    have h := h _ rfl
    refine v_iconst C dX10_twist_32 ?_
    exact v_zret C R (Or.inr rfl) h dX10_twist_33
  · have h := h.1 q
    refine v_iconst C dX10_twist_11 ?_
    exact v_zret C R (Or.inl rfl) h dX10_twist_12
abbrev rm_X10_flip : Room := { frames := 3, cells := 0, slots := 0, locals := 83 }
theorem mf_X10_flip : MfB yX10_flip cX10_flip 2 (some .boolean) 1 := ⟨wd_661, wd_1, by decide, by decide, by decide +kernel⟩
def X10_flip (x1 : Int) (w : Wd) (Q : Int → Wd → Prop) : Prop := X1_hasPost 1 x1 w (fun y2 w1 => ((wr y2 = 0 → Q 0 w1) ∧ (¬ wr y2 = 0 → X10_keepPast w1 (fun w3 => X1_turnOver 1 x1 w3 (fun w4 => Q 1 w4)))))
theorem m_X10_flip {Z : Zw} {l : Launch} {x1 : Int} {w : Wd} {Q : Int → Wd → Prop} (h : X10_flip x1 w Q) : CtQ Z l yX10_flip cX10_flip 2 (some .boolean) rm_X10_flip [rv Z 0, iv x1] w (qI Z Q) := by
  refine ct_of (by decide) (Nat.le_of_ble_eq_true rfl) (fun E eE C R => ?_)
  subst eE
  have C : Cx Z (adA Z) E cX10_flip "HandleFaces" 2 rm_X10_flip := C
  unfold X10_flip at h
  show V Z (adA Z) E 2 w 0 [(0, rv Z 0), (1, iv x1)] []
  refine v_aload_n C dX10_flip_0 0 rfl ?_
  refine g_X10_drawing C wd_359 dX10_flip_1 ?_
  refine v_iload_n C dX10_flip_4 1 rfl ?_
  refine v_calli C (rn_V C _ (m_X1_hasPost s_X1_1 h) mf_X1_hasPost wd_607 wd_608 wd_662 rfl rfl ⟨(Nat.le_of_ble_eq_true rfl), (Nat.le_of_ble_eq_true rfl)⟩ s_X1_1.1 rfl rfl rfl (Nat.le_of_ble_eq_true rfl) dX10_flip_5) (fun r w h => ?_)
  refine v_if_ne C 13 dX10_flip_8 (by decide) (fun q => ?_) (fun q => ?_)
  · have h := h.2 q
    refine v_aload_n C dX10_flip_13 0 rfl ?_
    refine v_callv C (rn_V C _ (m_X10_keepPast h) mf_X10_keepPast wd_613 wp_17 wd_611 rfl rfl ⟨(Nat.le_of_ble_eq_true rfl), (Nat.le_of_ble_eq_true rfl)⟩ rfl rfl rfl rfl (Nat.le_of_ble_eq_true rfl) dX10_flip_14) (fun w h => ?_)
    refine v_aload_n C dX10_flip_17 0 rfl ?_
    refine g_X10_drawing C wd_359 dX10_flip_18 ?_
    refine v_iload_n C dX10_flip_21 1 rfl ?_
    refine v_callv C (rn_V C _ (m_X1_turnOver s_X1_1 h) mf_X1_turnOver wd_664 wd_665 wd_663 rfl rfl ⟨(Nat.le_of_ble_eq_true rfl), (Nat.le_of_ble_eq_true rfl)⟩ s_X1_1.1 rfl rfl rfl (Nat.le_of_ble_eq_true rfl) dX10_flip_22) (fun w h => ?_)
    refine v_iconst C dX10_flip_25 ?_
    exact v_zret C R (Or.inr rfl) h dX10_flip_26
  · have h := h.1 q
    refine v_iconst C dX10_flip_11 ?_
    exact v_zret C R (Or.inl rfl) h dX10_flip_12
abbrev rm_X10_exchange : Room := { frames := 3, cells := 0, slots := 0, locals := 83 }
theorem mf_X10_exchange : MfB yX10_exchange cX10_exchange 3 (some .boolean) 2 := ⟨wd_678, wd_1, by decide, by decide, by decide +kernel⟩
def X10_exchange (x1 : Int) (x2 : Int) (w : Wd) (Q : Int → Wd → Prop) : Prop := X1_hasPost 1 x1 w (fun y2 w1 => ((wr y2 = 0 → Q 0 w1) ∧ (¬ wr y2 = 0 → (ix x1 6 ∧ ((wr (rd w1 3 x1) < wr 3 → Q 0 w1) ∧ (¬ wr (rd w1 3 x1) < wr 3 → ((wr x2 < 0 → Q 0 w1) ∧ (¬ wr x2 < 0 → (ix x1 6 ∧ ((wr x2 < wr (rd w1 3 x1) → X10_keepPast w1 (fun w3 => X1_swapWithNext 1 x1 x2 w3 (fun w4 => Q 1 w4))) ∧ (¬ wr x2 < wr (rd w1 3 x1) → Q 0 w1)))))))))))
theorem m_X10_exchange {Z : Zw} {l : Launch} {x1 : Int} {x2 : Int} {w : Wd} {Q : Int → Wd → Prop} (h : X10_exchange x1 x2 w Q) : CtQ Z l yX10_exchange cX10_exchange 3 (some .boolean) rm_X10_exchange [rv Z 0, iv x1, iv x2] w (qI Z Q) := by
  refine ct_of (by decide) (Nat.le_of_ble_eq_true rfl) (fun E eE C R => ?_)
  subst eE
  have C : Cx Z (adA Z) E cX10_exchange "HandleFaces" 3 rm_X10_exchange := C
  unfold X10_exchange at h
  show V Z (adA Z) E 3 w 0 [(0, rv Z 0), (1, iv x1), (2, iv x2)] []
  refine v_aload_n C dX10_exchange_0 0 rfl ?_
  refine g_X10_drawing C wd_359 dX10_exchange_1 ?_
  refine v_iload_n C dX10_exchange_4 1 rfl ?_
  refine v_calli C (rn_V C _ (m_X1_hasPost s_X1_1 h) mf_X1_hasPost wd_607 wd_608 wd_662 rfl rfl ⟨(Nat.le_of_ble_eq_true rfl), (Nat.le_of_ble_eq_true rfl)⟩ s_X1_1.1 rfl rfl rfl (Nat.le_of_ble_eq_true rfl) dX10_exchange_5) (fun r w h => ?_)
  refine v_if_eq C 41 dX10_exchange_8 (by decide) (fun q => ?_) (fun q => ?_)
  · have h := h.1 q
    refine v_iconst C dX10_exchange_41 ?_
    exact v_zret C R (Or.inl rfl) h dX10_exchange_42
  · have h := h.2 q
    refine v_aload_n C dX10_exchange_11 0 rfl ?_
    refine g_X10_drawing C wd_359 dX10_exchange_12 ?_
    refine g_X1_degrees C s_X1_1 wd_68 dX10_exchange_15 ?_
    refine v_iload_n C dX10_exchange_18 1 rfl ?_
    refine v_iald C rfl h.1 dX10_exchange_19 ?_
    have h := h.2
    refine v_iconst C dX10_exchange_20 ?_
    refine v_icmp_lt C 41 dX10_exchange_21 (by decide) (fun q => ?_) (fun q => ?_)
    · have h := h.1 q
      refine v_iconst C dX10_exchange_41 ?_
      exact v_zret C R (Or.inl rfl) h dX10_exchange_42
    · have h := h.2 q
      refine v_iload_n C dX10_exchange_24 2 rfl ?_
      refine v_if_lt C 41 dX10_exchange_25 (by decide) (fun q => ?_) (fun q => ?_)
      · have h := h.1 q
        refine v_iconst C dX10_exchange_41 ?_
        exact v_zret C R (Or.inl rfl) h dX10_exchange_42
      · have h := h.2 q
        refine v_iload_n C dX10_exchange_28 2 rfl ?_
        refine v_aload_n C dX10_exchange_29 0 rfl ?_
        refine g_X10_drawing C wd_359 dX10_exchange_30 ?_
        refine g_X1_degrees C s_X1_1 wd_68 dX10_exchange_33 ?_
        refine v_iload_n C dX10_exchange_36 1 rfl ?_
        refine v_iald C rfl h.1 dX10_exchange_37 ?_
        have h := h.2
        refine v_icmp_lt C 43 dX10_exchange_38 (by decide) (fun q => ?_) (fun q => ?_)
        · have h := h.1 q
          refine v_aload_n C dX10_exchange_43 0 rfl ?_
          refine v_callv C (rn_V C _ (m_X10_keepPast h) mf_X10_keepPast wd_613 wp_17 wd_611 rfl rfl ⟨(Nat.le_of_ble_eq_true rfl), (Nat.le_of_ble_eq_true rfl)⟩ rfl rfl rfl rfl (Nat.le_of_ble_eq_true rfl) dX10_exchange_44) (fun w h => ?_)
          refine v_aload_n C dX10_exchange_47 0 rfl ?_
          refine g_X10_drawing C wd_359 dX10_exchange_48 ?_
          refine v_iload_n C dX10_exchange_51 1 rfl ?_
          refine v_iload_n C dX10_exchange_52 2 rfl ?_
          refine v_callv C (rn_V C _ (m_X1_swapWithNext s_X1_1 h) mf_X1_swapWithNext wd_680 wd_681 wd_679 rfl rfl ⟨(Nat.le_of_ble_eq_true rfl), (Nat.le_of_ble_eq_true rfl)⟩ s_X1_1.1 rfl rfl rfl (Nat.le_of_ble_eq_true rfl) dX10_exchange_53) (fun w h => ?_)
          refine v_iconst C dX10_exchange_56 ?_
          exact v_zret C R (Or.inr rfl) h dX10_exchange_57
        · have h := h.2 q
          refine v_iconst C dX10_exchange_41 ?_
          exact v_zret C R (Or.inl rfl) h dX10_exchange_42
abbrev rm_X10_lessen : Room := { frames := 5, cells := 0, slots := 0, locals := 123 }
theorem mf_X10_lessen : MfB yX10_lessen cX10_lessen 1 (some .int) 0 := ⟨wd_686, wd_1, by decide, by decide, by decide +kernel⟩
def X10_lessen (w : Wd) (Q : Int → Wd → Prop) : Prop := X3_howMany 1 w (fun y2 w1 => ((wr (lcm y2 20000) ≤ 0 → X10_keepPast w1 (fun w3 => X3_survey 1 w3 (fun w4 => X3_setOrder 1 (w4 40 2) w4 (fun w5 => Q (wr (w5 40 0)) w5)))) ∧ (¬ wr (lcm y2 20000) ≤ 0 → Q (wr (-1)) w1)))
theorem m_X10_lessen {Z : Zw} {l : Launch} {w : Wd} {Q : Int → Wd → Prop} (h : X10_lessen w Q) : CtQ Z l yX10_lessen cX10_lessen 1 (some .int) rm_X10_lessen [rv Z 0] w (qI Z Q) := by
  refine ct_of (by decide) (Nat.le_of_ble_eq_true rfl) (fun E eE C R => ?_)
  subst eE
  have C : Cx Z (adA Z) E cX10_lessen "HandleFaces" 1 rm_X10_lessen := C
  unfold X10_lessen at h
  show V Z (adA Z) E 1 w 0 [(0, rv Z 0)] []
  refine v_aload_n C dX10_lessen_0 0 rfl ?_
  refine g_X10_drawing C wd_359 dX10_lessen_1 ?_
  refine v_calll C (rn_S C _ (m_X3_howMany s_X1_1 h) mf_X3_howMany wd_688 wd_687 rfl rfl ⟨(Nat.le_of_ble_eq_true rfl), (Nat.le_of_ble_eq_true rfl)⟩ rfl rfl (Nat.le_of_ble_eq_true rfl) dX10_lessen_4) (fun r w h => ?_)
  refine v_ldc2 C 20000 wd_698 (by decide) dX10_lessen_7 ?_
  refine v_lcmp C dX10_lessen_10 ?_
  refine v_if_le C 16 dX10_lessen_11 (by decide) (fun q => ?_) (fun q => ?_)
  · have h := h.1 q
    refine v_aload_n C dX10_lessen_16 0 rfl ?_
    refine v_callv C (rn_V C _ (m_X10_keepPast h) mf_X10_keepPast wd_613 wp_17 wd_611 rfl rfl ⟨(Nat.le_of_ble_eq_true rfl), (Nat.le_of_ble_eq_true rfl)⟩ rfl rfl rfl rfl (Nat.le_of_ble_eq_true rfl) dX10_lessen_17) (fun w h => ?_)
    refine v_aload_n C dX10_lessen_20 0 rfl ?_
    refine g_X10_orders C wd_366 dX10_lessen_21 ?_
    refine v_aload_n C dX10_lessen_24 0 rfl ?_
    refine g_X10_drawing C wd_359 dX10_lessen_25 ?_
    refine v_callv C (rn_V C _ (m_X3_survey s_X1_1 h) mf_X3_survey wd_700 wd_701 wd_699 rfl rfl ⟨(Nat.le_of_ble_eq_true rfl), (Nat.le_of_ble_eq_true rfl)⟩ rfl rfl rfl rfl (Nat.le_of_ble_eq_true rfl) dX10_lessen_28) (fun w h => ?_)
    refine v_aload_n C dX10_lessen_31 0 rfl ?_
    refine g_X10_orders C wd_366 dX10_lessen_32 ?_
    refine v_aload_n C dX10_lessen_35 0 rfl ?_
    refine g_X10_drawing C wd_359 dX10_lessen_36 ?_
    refine v_aload_n C dX10_lessen_39 0 rfl ?_
    refine g_X10_orders C wd_366 dX10_lessen_40 ?_
    refine g_X3_first C wd_261 dX10_lessen_43 ?_
    refine v_callv C (rn_V C _ (m_X3_setOrder s_X1_1 h) mf_X3_setOrder wd_771 wd_772 wd_770 rfl rfl ⟨(Nat.le_of_ble_eq_true rfl), (Nat.le_of_ble_eq_true rfl)⟩ rfl rfl rfl rfl (Nat.le_of_ble_eq_true rfl) dX10_lessen_46) (fun w h => ?_)
    refine v_aload_n C dX10_lessen_49 0 rfl ?_
    refine g_X10_orders C wd_366 dX10_lessen_50 ?_
    refine g_X3_least C wd_257 dX10_lessen_53 ?_
    exact v_iret C R h dX10_lessen_56
  · have h := h.2 q
    refine v_iconst C dX10_lessen_14 ?_
    exact v_iret C R h dX10_lessen_15
abbrev rm_X10_freshTracing : Room := { frames := 4, cells := 0, slots := 0, locals := 94 }
theorem mf_X10_freshTracing : MfB yX10_freshTracing cX10_freshTracing 1 (some (.object "HandleFaces$Tracing")) 0 := ⟨wd_788, wd_1, by decide, by decide, by decide +kernel⟩
def X10_freshTracing (w : Wd) (Q : Wd → Prop) : Prop := ((wr (w 0 17) = 0 → X8_trace 17 1 w (fun w1 => (∀ w2, w2 = up w1 0 17 1 → Q w2))) ∧ (¬ wr (w 0 17) = 0 → Q w))
theorem m_X10_freshTracing {Z : Zw} {l : Launch} {w : Wd} {Q : Wd → Prop} (h : X10_freshTracing w Q) : CtQ Z l yX10_freshTracing cX10_freshTracing 1 (some (.object "HandleFaces$Tracing")) rm_X10_freshTracing [rv Z 0] w (qR Z (fun k w => k = 17 ∧ Q w)) := by
  refine ct_of (by decide) (Nat.le_of_ble_eq_true rfl) (fun E eE C R => ?_)
  subst eE
  have C : Cx Z (adA Z) E cX10_freshTracing "HandleFaces" 1 rm_X10_freshTracing := C
  unfold X10_freshTracing at h
  show V Z (adA Z) E 1 w 0 [(0, rv Z 0)] []
  refine v_aload_n C dX10_freshTracing_0 0 rfl ?_
  refine g_X10_traced C wd_376 dX10_freshTracing_1 ?_
  refine v_if_ne C 23 dX10_freshTracing_4 (by decide) (fun q => ?_) (fun q => ?_)
  · have h := h.2 q
    refine v_aload_n C dX10_freshTracing_23 0 rfl ?_
    refine g_X10_tracing C wd_363 dX10_freshTracing_24 ?_
    exact v_aret C R ⟨rfl, h⟩ dX10_freshTracing_27
  · have h := h.1 q
    refine v_aload_n C dX10_freshTracing_7 0 rfl ?_
    refine g_X10_tracing C wd_363 dX10_freshTracing_8 ?_
    refine v_aload_n C dX10_freshTracing_11 0 rfl ?_
    refine g_X10_drawing C wd_359 dX10_freshTracing_12 ?_
    refine v_callv C (rn_V C _ (m_X8_trace s_X8_17 s_X1_1 h) mf_X8_trace wd_790 wd_791 wd_789 rfl rfl ⟨(Nat.le_of_ble_eq_true rfl), (Nat.le_of_ble_eq_true rfl)⟩ s_X8_17.1 rfl rfl rfl (Nat.le_of_ble_eq_true rfl) dX10_freshTracing_15) (fun w h => ?_)
    refine v_aload_n C dX10_freshTracing_18 0 rfl ?_
    refine v_iconst C dX10_freshTracing_19 ?_
    refine p_X10_traced C (Or.inr rfl) wd_376 dX10_freshTracing_20 ?_
    have h := h _ rfl
    refine v_aload_n C dX10_freshTracing_23 0 rfl ?_
    refine g_X10_tracing C wd_363 dX10_freshTracing_24 ?_
    exact v_aret C R ⟨rfl, h⟩ dX10_freshTracing_27
abbrev rm_X10_hasDual : Room := { frames := 1, cells := 0, slots := 0, locals := 23 }
theorem mf_X10_hasDual : MfB yX10_hasDual cX10_hasDual 2 (some .boolean) 1 := ⟨wd_830, wd_1, by decide, by decide, by decide +kernel⟩
def X10_hasDual_b37 (r1 : Nat) (Q : Int → Wd → Prop) (w : Wd) : Prop := Q 0 w
theorem t_X10_hasDual_b37 {Z : Zw} {E : Amb} {r1 : Nat} {Q : Int → Wd → Prop} (C : Cx Z (adA Z) E cX10_hasDual "HandleFaces" 2 rm_X10_hasDual) (R : Rt Z E (some .boolean) (qI Z Q)) (h1 : sX8 r1) : ∀ (w : Wd), X10_hasDual_b37 r1 Q w → V Z (adA Z) E 2 w 37 [] [] := by
  intro w h
  unfold X10_hasDual_b37 at h
  refine v_iconst C dX10_hasDual_37 ?_
  exact v_zret C R (Or.inl rfl) h dX10_hasDual_38
def X10_hasDual (r1 : Nat) (w : Wd) (Q : Int → Wd → Prop) : Prop := ((wr 6 < wr (w r1 0) → X10_hasDual_b37 r1 Q w) ∧ (¬ wr 6 < wr (w r1 0) → X1_barePosts 1 w (fun y2 w1 => ((wr y2 = 0 → X8_oneSidedLines r1 (w1 1 1) w1 (fun y4 w3 => ((wr y4 = 0 → Q 1 w3) ∧ (¬ wr y4 = 0 → X10_hasDual_b37 r1 Q w3)))) ∧ (¬ wr y2 = 0 → X10_hasDual_b37 r1 Q w1)))))
theorem m_X10_hasDual {Z : Zw} {l : Launch} {r1 : Nat} {w : Wd} {Q : Int → Wd → Prop} (h1 : sX8 r1) (h : X10_hasDual r1 w Q) : CtQ Z l yX10_hasDual cX10_hasDual 2 (some .boolean) rm_X10_hasDual [rv Z 0, rv Z r1] w (qI Z Q) := by
  refine ct_of (by decide) (Nat.le_of_ble_eq_true rfl) (fun E eE C R => ?_)
  subst eE
  have C : Cx Z (adA Z) E cX10_hasDual "HandleFaces" 2 rm_X10_hasDual := C
  unfold X10_hasDual at h
  show V Z (adA Z) E 2 w 0 [(0, rv Z 0), (1, rv Z r1)] []
  refine v_aload_n C dX10_hasDual_0 1 rfl ?_
  refine g_X8_count C h1 wd_204 dX10_hasDual_1 ?_
  refine v_bipush C dX10_hasDual_4 (by decide) ?_
  refine v_icmp_gt C 37 dX10_hasDual_6 (by decide) (fun q => ?_) (fun q => ?_)
  · have h := h.1 q
    refine v_sub [] rfl ?_
    exact t_X10_hasDual_b37 C R h1 _ h
  · have h := h.2 q
    refine v_aload_n C dX10_hasDual_9 0 rfl ?_
    refine g_X10_drawing C wd_359 dX10_hasDual_10 ?_
    refine v_calli C (rn_V C _ (m_X1_barePosts s_X1_1 h) mf_X1_barePosts wd_734 wd_735 wd_831 rfl rfl ⟨(Nat.le_of_ble_eq_true rfl), (Nat.le_of_ble_eq_true rfl)⟩ s_X1_1.1 rfl rfl rfl (Nat.le_of_ble_eq_true rfl) dX10_hasDual_13) (fun r w h => ?_)
    refine v_if_ne C 37 dX10_hasDual_16 (by decide) (fun q => ?_) (fun q => ?_)
    · have h := h.2 q
      refine v_sub [] rfl ?_
      exact t_X10_hasDual_b37 C R h1 _ h
    · have h := h.1 q
      refine v_aload_n C dX10_hasDual_19 1 rfl ?_
      refine v_aload_n C dX10_hasDual_20 0 rfl ?_
      refine g_X10_drawing C wd_359 dX10_hasDual_21 ?_
      refine g_X1_lines C s_X1_1 wd_49 dX10_hasDual_24 ?_
      refine v_calli C (rn_V C _ (m_X8_oneSidedLines h1 h) mf_X8_oneSidedLines wd_833 wd_834 wd_832 rfl rfl ⟨(Nat.le_of_ble_eq_true rfl), (Nat.le_of_ble_eq_true rfl)⟩ h1.1 rfl rfl rfl (Nat.le_of_ble_eq_true rfl) dX10_hasDual_27) (fun r w h => ?_)
      refine v_if_ne C 37 dX10_hasDual_30 (by decide) (fun q => ?_) (fun q => ?_)
      · have h := h.2 q
        refine v_sub [] rfl ?_
        exact t_X10_hasDual_b37 C R h1 _ h
      · have h := h.1 q
        refine v_iconst C dX10_hasDual_33 ?_
        refine v_goto C 38 dX10_hasDual_34 (by decide) ?_
        exact v_zret C R (Or.inr rfl) h dX10_hasDual_38
abbrev rm_X10_buildDual : Room := { frames := 1, cells := 0, slots := 0, locals := 26 }
theorem mf_X10_buildDual : MfB yX10_buildDual cX10_buildDual 5 none 2 := ⟨wd_839, wd_1, by decide, by decide, by decide +kernel⟩
def X10_buildDual_l31 (r1 : Nat) (r2 : Nat) (Q : Wd → Prop) (e117 : Wd → Prop) : Nat → Int → Wd → Prop
  | 0 => fun _ _ => False
  | n + 1 => fun x3 w => ((wr (w 1 1) ≤ wr x3 → e117 w) ∧ (¬ wr (w 1 1) ≤ wr x3 → (ix (2 * x3) 20 ∧ (ix (2 * x3) 20 ∧ (∀ w4, w4 = wt w (r2 + 1) (2 * x3) (rd w (r1 + 3) (2 * x3)) → (ix ((2 * x3) + 1) 20 ∧ (ix ((2 * x3) + 1) 20 ∧ (∀ w5, w5 = wt w4 (r2 + 1) ((2 * x3) + 1) (rd w4 (r1 + 3) ((2 * x3) + 1)) → (ix (2 * x3) 20 ∧ (ix ((2 * x3) + 1) 20 ∧ ((wr (rd w5 (r1 + 4) (2 * x3)) = wr (rd w5 (r1 + 4) ((2 * x3) + 1)) → (∀ w6, w6 = up w5 r2 2 (ior (w5 r2 2) (isl 1 x3)) → (X10_buildDual_l31 r1 r2 Q e117 n) (x3 + 1) w6)) ∧ (¬ wr (rd w5 (r1 + 4) (2 * x3)) = wr (rd w5 (r1 + 4) ((2 * x3) + 1)) → (X10_buildDual_l31 r1 r2 Q e117 n) (x3 + 1) w5))))))))))))
theorem t_X10_buildDual_l31 {Z : Zw} {E : Amb} {r1 : Nat} {r2 : Nat} {Q : Wd → Prop} {e117 : Wd → Prop} (C : Cx Z (adA Z) E cX10_buildDual "HandleFaces" 5 rm_X10_buildDual) (R : Rt Z E none (qV Z Q)) (h1 : sX8 r1) (h2 : sX1 r2) (he117 : ∀ (w : Wd), e117 w → V Z (adA Z) E 5 w 117 [(1, rv Z r1), (2, rv Z r2)] []) : ∀ (n : Nat) (x3 : Int) (w : Wd), X10_buildDual_l31 r1 r2 Q e117 n x3 w → V Z (adA Z) E 5 w 31 [(0, rv Z 0), (1, rv Z r1), (2, rv Z r2), (3, iv x3)] [] := by
  intro n
  induction n with
  | zero => intro x3 w h; exact h.elim
  | succ n ih =>
    intro x3 w h
    unfold X10_buildDual_l31 at h
    refine v_iload_n C dX10_buildDual_31 3 rfl ?_
    refine v_aload_n C dX10_buildDual_32 0 rfl ?_
    refine g_X10_drawing C wd_359 dX10_buildDual_33 ?_
    refine g_X1_lines C s_X1_1 wd_49 dX10_buildDual_36 ?_
    refine v_icmp_ge C 117 dX10_buildDual_39 (by decide) (fun q => ?_) (fun q => ?_)
    · have h := h.1 q
      refine v_sub [1, 2] rfl ?_
      exact he117 _ h
    · have h := h.2 q
      refine v_aload_n C dX10_buildDual_42 2 rfl ?_
      refine g_X1_ends C h2 wd_61 dX10_buildDual_43 ?_
      refine v_iconst C dX10_buildDual_46 ?_
      refine v_iload_n C dX10_buildDual_47 3 rfl ?_
      refine v_imul C dX10_buildDual_48 ?_
      refine v_aload_n C dX10_buildDual_49 1 rfl ?_
      refine g_X8_sides C h1 wd_211 dX10_buildDual_50 ?_
      refine v_iconst C dX10_buildDual_53 ?_
      refine v_iload_n C dX10_buildDual_54 3 rfl ?_
      refine v_imul C dX10_buildDual_55 ?_
      refine v_iald C h1.2.2.2.1 h.1 dX10_buildDual_56 ?_
      have h := h.2
      refine v_iast C h2.2.1 h.1 dX10_buildDual_57 ?_
      have h := h.2
      have h := h _ rfl
      refine v_aload_n C dX10_buildDual_58 2 rfl ?_
      refine g_X1_ends C h2 wd_61 dX10_buildDual_59 ?_
      refine v_iconst C dX10_buildDual_62 ?_
      refine v_iload_n C dX10_buildDual_63 3 rfl ?_
      refine v_imul C dX10_buildDual_64 ?_
      refine v_iconst C dX10_buildDual_65 ?_
      refine v_iadd C dX10_buildDual_66 ?_
      refine v_aload_n C dX10_buildDual_67 1 rfl ?_
      refine g_X8_sides C h1 wd_211 dX10_buildDual_68 ?_
      refine v_iconst C dX10_buildDual_71 ?_
      refine v_iload_n C dX10_buildDual_72 3 rfl ?_
      refine v_imul C dX10_buildDual_73 ?_
      refine v_iconst C dX10_buildDual_74 ?_
      refine v_iadd C dX10_buildDual_75 ?_
      refine v_iald C h1.2.2.2.1 h.1 dX10_buildDual_76 ?_
      have h := h.2
      refine v_iast C h2.2.1 h.1 dX10_buildDual_77 ?_
      have h := h.2
      have h := h _ rfl
      refine v_aload_n C dX10_buildDual_78 1 rfl ?_
      refine g_X8_ways C h1 wd_213 dX10_buildDual_79 ?_
      refine v_iconst C dX10_buildDual_82 ?_
      refine v_iload_n C dX10_buildDual_83 3 rfl ?_
      refine v_imul C dX10_buildDual_84 ?_
      refine v_iald C h1.2.2.2.2.1 h.1 dX10_buildDual_85 ?_
      have h := h.2
      refine v_aload_n C dX10_buildDual_86 1 rfl ?_
      refine g_X8_ways C h1 wd_213 dX10_buildDual_87 ?_
      refine v_iconst C dX10_buildDual_90 ?_
      refine v_iload_n C dX10_buildDual_91 3 rfl ?_
      refine v_imul C dX10_buildDual_92 ?_
      refine v_iconst C dX10_buildDual_93 ?_
      refine v_iadd C dX10_buildDual_94 ?_
      refine v_iald C h1.2.2.2.2.1 h.1 dX10_buildDual_95 ?_
      have h := h.2
      refine v_icmp_ne C 111 dX10_buildDual_96 (by decide) (fun q => ?_) (fun q => ?_)
      · have h := h.2 q
        refine v_iinc C [(3, _), (0, _), (1, _), (2, _)] dX10_buildDual_111 3 rfl (by decide) rfl ?_
        refine v_goto C 31 dX10_buildDual_114 (by decide) ?_
        refine v_sub [1, 2, 3, 0] rfl ?_
        exact ih _ _ h
      · have h := h.1 q
        refine v_aload_n C dX10_buildDual_99 2 rfl ?_
        refine v_dup C dX10_buildDual_100 rfl ?_
        refine g_X1_twists C h2 wd_55 dX10_buildDual_101 ?_
        refine v_iconst C dX10_buildDual_104 ?_
        refine v_iload_n C dX10_buildDual_105 3 rfl ?_
        refine v_ishl C dX10_buildDual_106 ?_
        refine v_ior C dX10_buildDual_107 ?_
        refine p_X1_twists C h2 wd_55 dX10_buildDual_108 ?_
        have h := h _ rfl
        refine v_iinc C [(3, _), (0, _), (1, _), (2, _)] dX10_buildDual_111 3 rfl (by decide) rfl ?_
        refine v_goto C 31 dX10_buildDual_114 (by decide) ?_
        refine v_sub [1, 2, 3, 0] rfl ?_
        exact ih _ _ h
def X10_buildDual_l137 (r1 : Nat) (r2 : Nat) (Q : Wd → Prop) (e170 : Int → Wd → Prop) : Nat → Int → Int → Wd → Prop
  | 0 => fun _ _ _ => False
  | n + 1 => fun x3 x4 w => (ix x3 16 ∧ ((wr (rd w (r1 + 1) x3) ≤ wr x4 → e170 x3 w) ∧ (¬ wr (rd w (r1 + 1) x3) ≤ wr x4 → X8_armAt r1 x3 x4 w (fun y9 w8 => X1_insertAt r2 x3 x4 (isr y9 1) w8 (fun w10 => (X10_buildDual_l137 r1 r2 Q e170 n) x3 (x4 + 1) w10)))))
theorem t_X10_buildDual_l137 {Z : Zw} {E : Amb} {r1 : Nat} {r2 : Nat} {Q : Wd → Prop} {e170 : Int → Wd → Prop} (C : Cx Z (adA Z) E cX10_buildDual "HandleFaces" 5 rm_X10_buildDual) (R : Rt Z E none (qV Z Q)) (h1 : sX8 r1) (h2 : sX1 r2) (he170 : ∀ (x3 : Int) (w : Wd), e170 x3 w → V Z (adA Z) E 5 w 170 [(1, rv Z r1), (2, rv Z r2), (3, iv x3)] []) : ∀ (n : Nat) (x3 : Int) (x4 : Int) (w : Wd), X10_buildDual_l137 r1 r2 Q e170 n x3 x4 w → V Z (adA Z) E 5 w 137 [(1, rv Z r1), (2, rv Z r2), (3, iv x3), (4, iv x4)] [] := by
  intro n
  induction n with
  | zero => intro x3 x4 w h; exact h.elim
  | succ n ih =>
    intro x3 x4 w h
    unfold X10_buildDual_l137 at h
    refine v_iload C dX10_buildDual_137 3 rfl ?_
    refine v_aload_n C dX10_buildDual_139 0 rfl ?_
    refine g_X8_lengths C h1 wd_206 dX10_buildDual_140 ?_
    refine v_iload_n C dX10_buildDual_143 2 rfl ?_
    refine v_iald C h1.2.1 h.1 dX10_buildDual_144 ?_
    have h := h.2
    refine v_icmp_ge C 170 dX10_buildDual_145 (by decide) (fun q => ?_) (fun q => ?_)
    · have h := h.1 q
      refine v_sub [0, 1, 2] rfl ?_
      exact he170 _ _ h
    · have h := h.2 q
      refine v_aload_n C dX10_buildDual_148 1 rfl ?_
      refine v_iload_n C dX10_buildDual_149 2 rfl ?_
      refine v_iload C dX10_buildDual_150 3 rfl ?_
      refine v_aload_n C dX10_buildDual_152 0 rfl ?_
      refine v_iload_n C dX10_buildDual_153 2 rfl ?_
      refine v_iload C dX10_buildDual_154 3 rfl ?_
      refine v_calli C (rn_V C _ (m_X8_armAt h1 h) mf_X8_armAt wd_841 wd_842 wd_840 rfl rfl ⟨(Nat.le_of_ble_eq_true rfl), (Nat.le_of_ble_eq_true rfl)⟩ h1.1 rfl rfl rfl (Nat.le_of_ble_eq_true rfl) dX10_buildDual_156) (fun r w h => ?_)
      refine v_iconst C dX10_buildDual_159 ?_
      refine v_ishr C dX10_buildDual_160 ?_
      refine v_callv C (rn_V C _ (m_X1_insertAt h2 h) mf_X1_insertAt wd_582 wd_583 wd_844 rfl rfl ⟨(Nat.le_of_ble_eq_true rfl), (Nat.le_of_ble_eq_true rfl)⟩ h2.1 rfl rfl rfl (Nat.le_of_ble_eq_true rfl) dX10_buildDual_161) (fun w h => ?_)
      refine v_iinc C [(4, _), (1, _), (2, _), (3, _)] dX10_buildDual_164 3 rfl (by decide) rfl ?_
      refine v_goto C 137 dX10_buildDual_167 (by decide) ?_
      refine v_sub [1, 2, 3, 0] rfl ?_
      exact ih _ _ _ h
def X10_buildDual_b170 (r1 : Nat) (r2 : Nat) (Q : Wd → Prop) (c119 : Int → Wd → Prop) (e176 : Wd → Prop) (x3 : Int) (w : Wd) : Prop := c119 (x3 + 1) w
theorem t_X10_buildDual_b170 {Z : Zw} {E : Amb} {r1 : Nat} {r2 : Nat} {Q : Wd → Prop} {c119 : Int → Wd → Prop} {e176 : Wd → Prop} (C : Cx Z (adA Z) E cX10_buildDual "HandleFaces" 5 rm_X10_buildDual) (R : Rt Z E none (qV Z Q)) (h1 : sX8 r1) (h2 : sX1 r2) (hc119 : ∀ (x3 : Int) (w : Wd), c119 x3 w → V Z (adA Z) E 5 w 119 [(1, rv Z r1), (2, rv Z r2), (3, iv x3)] []) (he176 : ∀ (w : Wd), e176 w → V Z (adA Z) E 5 w 176 [] []) : ∀ (x3 : Int) (w : Wd), X10_buildDual_b170 r1 r2 Q c119 e176 x3 w → V Z (adA Z) E 5 w 170 [(1, rv Z r1), (2, rv Z r2), (3, iv x3)] [] := by
  intro x3 w h
  unfold X10_buildDual_b170 at h
  refine v_iinc C [(3, _), (1, _), (2, _)] dX10_buildDual_170 2 rfl (by decide) rfl ?_
  refine v_goto C 119 dX10_buildDual_173 (by decide) ?_
  refine v_sub [1, 2, 0] rfl ?_
  exact hc119 _ _ h
def X10_buildDual_l119 (r1 : Nat) (r2 : Nat) (Q : Wd → Prop) (e176 : Wd → Prop) : Nat → Int → Wd → Prop
  | 0 => fun _ _ => False
  | n + 1 => fun x3 w => ((wr (w r2 0) ≤ wr x3 → e176 w) ∧ (¬ wr (w r2 0) ≤ wr x3 → (ix x3 6 ∧ (∀ w7, w7 = wt w (r2 + 2) x3 0 → (∃ m, X10_buildDual_l137 r1 r2 Q (X10_buildDual_b170 r1 r2 Q (X10_buildDual_l119 r1 r2 Q e176 n) e176) m x3 0 w7)))))
theorem t_X10_buildDual_l119 {Z : Zw} {E : Amb} {r1 : Nat} {r2 : Nat} {Q : Wd → Prop} {e176 : Wd → Prop} (C : Cx Z (adA Z) E cX10_buildDual "HandleFaces" 5 rm_X10_buildDual) (R : Rt Z E none (qV Z Q)) (h1 : sX8 r1) (h2 : sX1 r2) (he176 : ∀ (w : Wd), e176 w → V Z (adA Z) E 5 w 176 [] []) : ∀ (n : Nat) (x3 : Int) (w : Wd), X10_buildDual_l119 r1 r2 Q e176 n x3 w → V Z (adA Z) E 5 w 119 [(1, rv Z r1), (2, rv Z r2), (3, iv x3)] [] := by
  intro n
  induction n with
  | zero => intro x3 w h; exact h.elim
  | succ n ih =>
    intro x3 w h
    unfold X10_buildDual_l119 at h
    refine v_iload_n C dX10_buildDual_119 2 rfl ?_
    refine v_aload_n C dX10_buildDual_120 1 rfl ?_
    refine g_X1_posts C h2 wd_42 dX10_buildDual_121 ?_
    refine v_icmp_ge C 176 dX10_buildDual_124 (by decide) (fun q => ?_) (fun q => ?_)
    · have h := h.1 q
      refine v_sub [] rfl ?_
      exact he176 _ h
    · have h := h.2 q
      refine v_aload_n C dX10_buildDual_127 1 rfl ?_
      refine g_X1_degrees C h2 wd_68 dX10_buildDual_128 ?_
      refine v_iload_n C dX10_buildDual_131 2 rfl ?_
      refine v_iconst C dX10_buildDual_132 ?_
      refine v_iast C h2.2.2.1 h.1 dX10_buildDual_133 ?_
      have h := h.2
      have h := h _ rfl
      refine v_iconst C dX10_buildDual_134 ?_
      refine v_istore C [(4, _), (1, _), (2, _), (3, _)] dX10_buildDual_135 (by decide) rfl ?_
      refine v_sub [1, 2, 3, 0] rfl ?_
      obtain ⟨m, h⟩ := h
      exact t_X10_buildDual_l137 C R h1 h2 (t_X10_buildDual_b170 C R h1 h2 ih he176) m _ _ _ h
def X10_buildDual_b176 (r1 : Nat) (r2 : Nat) (Q : Wd → Prop) (w : Wd) : Prop := Q w
theorem t_X10_buildDual_b176 {Z : Zw} {E : Amb} {r1 : Nat} {r2 : Nat} {Q : Wd → Prop} (C : Cx Z (adA Z) E cX10_buildDual "HandleFaces" 5 rm_X10_buildDual) (R : Rt Z E none (qV Z Q)) (h1 : sX8 r1) (h2 : sX1 r2) : ∀ (w : Wd), X10_buildDual_b176 r1 r2 Q w → V Z (adA Z) E 5 w 176 [] [] := by
  intro w h
  unfold X10_buildDual_b176 at h
  exact v_ret C R h dX10_buildDual_176
def X10_buildDual_b117 (r1 : Nat) (r2 : Nat) (Q : Wd → Prop) (w : Wd) : Prop := (∃ m, X10_buildDual_l119 r1 r2 Q (X10_buildDual_b176 r1 r2 Q) m 0 w)
theorem t_X10_buildDual_b117 {Z : Zw} {E : Amb} {r1 : Nat} {r2 : Nat} {Q : Wd → Prop} (C : Cx Z (adA Z) E cX10_buildDual "HandleFaces" 5 rm_X10_buildDual) (R : Rt Z E none (qV Z Q)) (h1 : sX8 r1) (h2 : sX1 r2) : ∀ (w : Wd), X10_buildDual_b117 r1 r2 Q w → V Z (adA Z) E 5 w 117 [(1, rv Z r1), (2, rv Z r2)] [] := by
  intro w h
  unfold X10_buildDual_b117 at h
  refine v_iconst C dX10_buildDual_117 ?_
  refine v_istore_n C [(3, _), (1, _), (2, _)] dX10_buildDual_118 3 rfl (by decide) rfl ?_
  refine v_sub [1, 2, 0] rfl ?_
  obtain ⟨m, h⟩ := h
  exact t_X10_buildDual_l119 C R h1 h2 (t_X10_buildDual_b176 C R h1 h2) m _ _ h
def X10_buildDual (r1 : Nat) (r2 : Nat) (w : Wd) (Q : Wd → Prop) : Prop := (∀ w1, w1 = up w r2 0 (imn (w r1 0) 6) → (∀ w2, w2 = up w1 r2 1 (w1 1 1) → (∀ w3, w3 = up w2 r2 2 0 → (∃ m, X10_buildDual_l31 r1 r2 Q (X10_buildDual_b117 r1 r2 Q) m 0 w3))))
theorem m_X10_buildDual {Z : Zw} {l : Launch} {r1 : Nat} {r2 : Nat} {w : Wd} {Q : Wd → Prop} (h1 : sX8 r1) (h2 : sX1 r2) (h : X10_buildDual r1 r2 w Q) : CtQ Z l yX10_buildDual cX10_buildDual 5 none rm_X10_buildDual [rv Z 0, rv Z r1, rv Z r2] w (qV Z Q) := by
  refine ct_of (by decide) (Nat.le_of_ble_eq_true rfl) (fun E eE C R => ?_)
  subst eE
  have C : Cx Z (adA Z) E cX10_buildDual "HandleFaces" 5 rm_X10_buildDual := C
  unfold X10_buildDual at h
  show V Z (adA Z) E 5 w 0 [(0, rv Z 0), (1, rv Z r1), (2, rv Z r2)] []
  refine v_aload_n C dX10_buildDual_0 2 rfl ?_
  refine v_aload_n C dX10_buildDual_1 1 rfl ?_
  refine g_X8_count C h1 wd_204 dX10_buildDual_2 ?_
  refine v_bipush C dX10_buildDual_5 (by decide) ?_
  refine v_mmin C wd_620 wd_347 wd_12 wd_348 (Nat.le_of_ble_eq_true rfl) (Nat.le_of_ble_eq_true rfl) dX10_buildDual_7 ?_
  refine p_X1_posts C h2 wd_42 dX10_buildDual_10 ?_
  have h := h _ rfl
  refine v_aload_n C dX10_buildDual_13 2 rfl ?_
  refine v_aload_n C dX10_buildDual_14 0 rfl ?_
  refine g_X10_drawing C wd_359 dX10_buildDual_15 ?_
  refine g_X1_lines C s_X1_1 wd_49 dX10_buildDual_18 ?_
  refine p_X1_lines C h2 wd_49 dX10_buildDual_21 ?_
  have h := h _ rfl
  refine v_aload_n C dX10_buildDual_24 2 rfl ?_
  refine v_iconst C dX10_buildDual_25 ?_
  refine p_X1_twists C h2 wd_55 dX10_buildDual_26 ?_
  have h := h _ rfl
  refine v_iconst C dX10_buildDual_29 ?_
  refine v_istore_n C [(3, _), (0, _), (1, _), (2, _)] dX10_buildDual_30 3 rfl (by decide) rfl ?_
  refine v_sub [1, 2, 3, 0] rfl ?_
  obtain ⟨m, h⟩ := h
  exact t_X10_buildDual_l31 C R h1 h2 (t_X10_buildDual_b117 C R h1 h2) m _ _ h
abbrev rm_X10_dual : Room := { frames := 5, cells := 0, slots := 0, locals := 114 }
theorem mf_X10_dual : MfB yX10_dual cX10_dual 2 (some .int) 0 := ⟨wd_784, wd_1, by decide, by decide, by decide +kernel⟩
def X10_dual (w : Wd) (Q : Int → Wd → Prop) : Prop := X10_freshTracing w (fun w1 => X10_hasDual 17 w1 (fun y3 w2 => ((wr y3 = 0 → Q (wr (-1)) w2) ∧ (¬ wr y3 = 0 → X10_buildDual 17 5 w2 (fun w4 => X10_keepPast w4 (fun w5 => X1_become 1 5 w5 (fun w6 => Q (wr (w6 1 0)) w6)))))))
theorem m_X10_dual {Z : Zw} {l : Launch} {w : Wd} {Q : Int → Wd → Prop} (h : X10_dual w Q) : CtQ Z l yX10_dual cX10_dual 2 (some .int) rm_X10_dual [rv Z 0] w (qI Z Q) := by
  refine ct_of (by decide) (Nat.le_of_ble_eq_true rfl) (fun E eE C R => ?_)
  subst eE
  have C : Cx Z (adA Z) E cX10_dual "HandleFaces" 2 rm_X10_dual := C
  unfold X10_dual at h
  show V Z (adA Z) E 2 w 0 [(0, rv Z 0)] []
  refine v_aload_n C dX10_dual_0 0 rfl ?_
  refine v_callr C (rn_V C _ (m_X10_freshTracing h) mf_X10_freshTracing wd_787 wp_26 wd_785 rfl rfl ⟨(Nat.le_of_ble_eq_true rfl), (Nat.le_of_ble_eq_true rfl)⟩ rfl rfl rfl rfl (Nat.le_of_ble_eq_true rfl) dX10_dual_1) (fun k w h => ?_)
  obtain ⟨rfl, h⟩ := h
  refine v_astore_n C [(1, _), (0, _)] dX10_dual_4 1 rfl (by decide) rfl ?_
  refine v_aload_n C dX10_dual_5 1 rfl ?_
  refine v_aload_n C dX10_dual_6 0 rfl ?_
  refine v_calli C (rn_V C _ (m_X10_hasDual s17 h) mf_X10_hasDual wd_829 wp_33 wd_827 rfl rfl ⟨(Nat.le_of_ble_eq_true rfl), (Nat.le_of_ble_eq_true rfl)⟩ rfl rfl rfl rfl (Nat.le_of_ble_eq_true rfl) dX10_dual_7) (fun r w h => ?_)
  refine v_if_ne C 15 dX10_dual_10 (by decide) (fun q => ?_) (fun q => ?_)
  · have h := h.2 q
    refine v_aload_n C dX10_dual_15 1 rfl ?_
    refine v_aload_n C dX10_dual_16 0 rfl ?_
    refine v_aload_n C dX10_dual_17 1 rfl ?_
    refine g_X10_draft C wd_360 dX10_dual_18 ?_
    refine v_callv C (rn_V C _ (m_X10_buildDual s17 s_X1_5 h) mf_X10_buildDual wd_838 wp_34 wd_836 rfl rfl ⟨(Nat.le_of_ble_eq_true rfl), (Nat.le_of_ble_eq_true rfl)⟩ rfl rfl rfl rfl (Nat.le_of_ble_eq_true rfl) dX10_dual_21) (fun w h => ?_)
    refine v_aload_n C dX10_dual_24 1 rfl ?_
    refine v_callv C (rn_V C _ (m_X10_keepPast h) mf_X10_keepPast wd_613 wp_17 wd_611 rfl rfl ⟨(Nat.le_of_ble_eq_true rfl), (Nat.le_of_ble_eq_true rfl)⟩ rfl rfl rfl rfl (Nat.le_of_ble_eq_true rfl) dX10_dual_25) (fun w h => ?_)
    refine v_aload_n C dX10_dual_28 1 rfl ?_
    refine g_X10_drawing C wd_359 dX10_dual_29 ?_
    refine v_aload_n C dX10_dual_32 1 rfl ?_
    refine g_X10_draft C wd_360 dX10_dual_33 ?_
    refine v_callv C (rn_V C _ (m_X1_become s_X1_1 s_X1_5 h) mf_X1_become wd_712 wd_713 wd_845 rfl rfl ⟨(Nat.le_of_ble_eq_true rfl), (Nat.le_of_ble_eq_true rfl)⟩ s_X1_1.1 rfl rfl rfl (Nat.le_of_ble_eq_true rfl) dX10_dual_36) (fun w h => ?_)
    refine v_aload_n C dX10_dual_39 1 rfl ?_
    refine g_X10_drawing C wd_359 dX10_dual_40 ?_
    refine g_X1_posts C s_X1_1 wd_42 dX10_dual_43 ?_
    exact v_iret C R h dX10_dual_46
  · have h := h.1 q
    refine v_iconst C dX10_dual_13 ?_
    exact v_iret C R h dX10_dual_14
abbrev rm_X10_shrink : Room := { frames := 4, cells := 0, slots := 0, locals := 100 }
theorem mf_X10_shrink : MfB yX10_shrink cX10_shrink 2 (some .boolean) 1 := ⟨wd_849, wd_1, by decide, by decide, by decide +kernel⟩
def X10_shrink (x1 : Int) (w : Wd) (Q : Int → Wd → Prop) : Prop := X1_hasLine 1 x1 w (fun y2 w1 => ((wr y2 = 0 → Q 0 w1) ∧ (¬ wr y2 = 0 → X1_hasTwin 1 x1 w1 (fun y4 w3 => ((wr y4 = 0 → X10_keepPast w3 (fun w5 => X1_contract 1 x1 w5 (fun w6 => Q 1 w6))) ∧ (¬ wr y4 = 0 → Q 0 w3))))))
theorem m_X10_shrink {Z : Zw} {l : Launch} {x1 : Int} {w : Wd} {Q : Int → Wd → Prop} (h : X10_shrink x1 w Q) : CtQ Z l yX10_shrink cX10_shrink 2 (some .boolean) rm_X10_shrink [rv Z 0, iv x1] w (qI Z Q) := by
  refine ct_of (by decide) (Nat.le_of_ble_eq_true rfl) (fun E eE C R => ?_)
  subst eE
  have C : Cx Z (adA Z) E cX10_shrink "HandleFaces" 2 rm_X10_shrink := C
  unfold X10_shrink at h
  show V Z (adA Z) E 2 w 0 [(0, rv Z 0), (1, iv x1)] []
  refine v_aload_n C dX10_shrink_0 0 rfl ?_
  refine g_X10_drawing C wd_359 dX10_shrink_1 ?_
  refine v_iload_n C dX10_shrink_4 1 rfl ?_
  refine v_calli C (rn_V C _ (m_X1_hasLine s_X1_1 h) mf_X1_hasLine wd_631 wd_632 wd_630 rfl rfl ⟨(Nat.le_of_ble_eq_true rfl), (Nat.le_of_ble_eq_true rfl)⟩ s_X1_1.1 rfl rfl rfl (Nat.le_of_ble_eq_true rfl) dX10_shrink_5) (fun r w h => ?_)
  refine v_if_eq C 22 dX10_shrink_8 (by decide) (fun q => ?_) (fun q => ?_)
  · have h := h.1 q
    refine v_iconst C dX10_shrink_22 ?_
    exact v_zret C R (Or.inl rfl) h dX10_shrink_23
  · have h := h.2 q
    refine v_aload_n C dX10_shrink_11 0 rfl ?_
    refine g_X10_drawing C wd_359 dX10_shrink_12 ?_
    refine v_iload_n C dX10_shrink_15 1 rfl ?_
    refine v_calli C (rn_V C _ (m_X1_hasTwin s_X1_1 h) mf_X1_hasTwin wd_851 wd_852 wd_850 rfl rfl ⟨(Nat.le_of_ble_eq_true rfl), (Nat.le_of_ble_eq_true rfl)⟩ s_X1_1.1 rfl rfl rfl (Nat.le_of_ble_eq_true rfl) dX10_shrink_16) (fun r w h => ?_)
    refine v_if_eq C 24 dX10_shrink_19 (by decide) (fun q => ?_) (fun q => ?_)
    · have h := h.1 q
      refine v_aload_n C dX10_shrink_24 0 rfl ?_
      refine v_callv C (rn_V C _ (m_X10_keepPast h) mf_X10_keepPast wd_613 wp_17 wd_611 rfl rfl ⟨(Nat.le_of_ble_eq_true rfl), (Nat.le_of_ble_eq_true rfl)⟩ rfl rfl rfl rfl (Nat.le_of_ble_eq_true rfl) dX10_shrink_25) (fun w h => ?_)
      refine v_aload_n C dX10_shrink_28 0 rfl ?_
      refine g_X10_drawing C wd_359 dX10_shrink_29 ?_
      refine v_iload_n C dX10_shrink_32 1 rfl ?_
      refine v_callv C (rn_V C _ (m_X1_contract s_X1_1 h) mf_X1_contract wd_859 wd_860 wd_858 rfl rfl ⟨(Nat.le_of_ble_eq_true rfl), (Nat.le_of_ble_eq_true rfl)⟩ s_X1_1.1 rfl rfl rfl (Nat.le_of_ble_eq_true rfl) dX10_shrink_33) (fun w h => ?_)
      refine v_iconst C dX10_shrink_36 ?_
      exact v_zret C R (Or.inr rfl) h dX10_shrink_37
    · have h := h.2 q
      refine v_iconst C dX10_shrink_22 ?_
      exact v_zret C R (Or.inl rfl) h dX10_shrink_23
abbrev rm_X10_undo : Room := { frames := 2, cells := 0, slots := 0, locals := 63 }
theorem mf_X10_undo : MfB yX10_undo cX10_undo 1 (some .boolean) 0 := ⟨wd_875, wd_1, by decide, by decide, by decide +kernel⟩
def X10_undo_b28 (Q : Int → Wd → Prop) (s0 : Int) (w : Wd) : Prop := (∀ w1, w1 = up w 0 13 s0 → (∀ w2, w2 = up w1 0 14 ((w1 0 14) - 1) → X7_fetch 61 1 (w2 0 13) w2 (fun w3 => (∀ w4, w4 = up w3 0 17 0 → Q 1 w4))))
theorem t_X10_undo_b28 {Z : Zw} {E : Amb} {Q : Int → Wd → Prop} (C : Cx Z (adA Z) E cX10_undo "HandleFaces" 1 rm_X10_undo) (R : Rt Z E (some .boolean) (qI Z Q)) : ∀ (s0 : Int) (w : Wd), X10_undo_b28 Q s0 w → V Z (adA Z) E 1 w 28 [(0, rv Z 0)] [iv s0, rv Z 0] := by
  intro s0 w h
  unfold X10_undo_b28 at h
  refine p_X10_pastNext C wd_372 dX10_undo_28 ?_
  have h := h _ rfl
  refine v_aload_n C dX10_undo_31 0 rfl ?_
  refine v_dup C dX10_undo_32 rfl ?_
  refine g_X10_pastCount C wd_373 dX10_undo_33 ?_
  refine v_iconst C dX10_undo_36 ?_
  refine v_isub C dX10_undo_37 ?_
  refine p_X10_pastCount C wd_373 dX10_undo_38 ?_
  have h := h _ rfl
  refine v_aload_n C dX10_undo_41 0 rfl ?_
  refine g_X10_past C wd_370 dX10_undo_42 ?_
  refine v_aload_n C dX10_undo_45 0 rfl ?_
  refine g_X10_pastNext C wd_372 dX10_undo_46 ?_
  refine v_aload_n C dX10_undo_49 0 rfl ?_
  refine g_X10_drawing C wd_359 dX10_undo_50 ?_
  refine v_callv C (rn_V C _ (m_X7_fetch s_X7_61 s_X1_1 h) mf_X7_fetch wd_877 wd_878 wd_876 rfl rfl ⟨(Nat.le_of_ble_eq_true rfl), (Nat.le_of_ble_eq_true rfl)⟩ s_X7_61.1 rfl rfl rfl (Nat.le_of_ble_eq_true rfl) dX10_undo_53) (fun w h => ?_)
  refine v_aload_n C dX10_undo_56 0 rfl ?_
  refine v_iconst C dX10_undo_57 ?_
  refine p_X10_traced C (Or.inl rfl) wd_376 dX10_undo_58 ?_
  have h := h _ rfl
  refine v_iconst C dX10_undo_61 ?_
  exact v_zret C R (Or.inr rfl) h dX10_undo_62
def X10_undo (w : Wd) (Q : Int → Wd → Prop) : Prop := ((wr (w 0 14) = 0 → Q 0 w) ∧ (¬ wr (w 0 14) = 0 → ((wr (w 0 13) = 0 → X10_undo_b28 Q 39 w) ∧ (¬ wr (w 0 13) = 0 → X10_undo_b28 Q ((w 0 13) - 1) w))))
theorem m_X10_undo {Z : Zw} {l : Launch} {w : Wd} {Q : Int → Wd → Prop} (h : X10_undo w Q) : CtQ Z l yX10_undo cX10_undo 1 (some .boolean) rm_X10_undo [rv Z 0] w (qI Z Q) := by
  refine ct_of (by decide) (Nat.le_of_ble_eq_true rfl) (fun E eE C R => ?_)
  subst eE
  have C : Cx Z (adA Z) E cX10_undo "HandleFaces" 1 rm_X10_undo := C
  unfold X10_undo at h
  show V Z (adA Z) E 1 w 0 [(0, rv Z 0)] []
  refine v_aload_n C dX10_undo_0 0 rfl ?_
  refine g_X10_pastCount C wd_373 dX10_undo_1 ?_
  refine v_if_ne C 9 dX10_undo_4 (by decide) (fun q => ?_) (fun q => ?_)
  · have h := h.2 q
    refine v_aload_n C dX10_undo_9 0 rfl ?_
    refine v_aload_n C dX10_undo_10 0 rfl ?_
    refine g_X10_pastNext C wd_372 dX10_undo_11 ?_
    refine v_if_ne C 22 dX10_undo_14 (by decide) (fun q => ?_) (fun q => ?_)
    · have h := h.2 q
      refine v_aload_n C dX10_undo_22 0 rfl ?_
      refine g_X10_pastNext C wd_372 dX10_undo_23 ?_
      refine v_iconst C dX10_undo_26 ?_
      refine v_isub C dX10_undo_27 ?_
      exact t_X10_undo_b28 C R _ _ h
    · have h := h.1 q
      refine v_bipush C dX10_undo_17 (by decide) ?_
      refine v_goto C 28 dX10_undo_19 (by decide) ?_
      exact t_X10_undo_b28 C R _ _ h
  · have h := h.1 q
    refine v_iconst C dX10_undo_7 ?_
    exact v_zret C R (Or.inl rfl) h dX10_undo_8
abbrev rm_X10_line : Room := { frames := 5, cells := 0, slots := 0, locals := 114 }
theorem mf_X10_line : MfB yX10_line cX10_line 3 (some .int) 2 := ⟨wd_883, wd_1, by decide, by decide, by decide +kernel⟩
def X10_line (x1 : Int) (x2 : Int) (w : Wd) (Q : Int → Wd → Prop) : Prop := X1_hasLine 1 x1 w (fun y2 w1 => ((wr y2 = 0 → Q (wr (-1)) w1) ∧ (¬ wr y2 = 0 → (∀ t3, t3 = wr x2 → ((t3 = 0 → (ix (2 * x1) 20 ∧ Q (wr (rd w1 2 (2 * x1))) w1)) ∧ (t3 = 1 → (ix ((2 * x1) + 1) 20 ∧ Q (wr (rd w1 2 ((2 * x1) + 1))) w1)) ∧ (t3 = 2 → X1_isTwisted 1 x1 w1 (fun y5 w4 => ((wr y5 = 0 → Q (wr 0) w4) ∧ (¬ wr y5 = 0 → Q (wr 1) w4)))) ∧ (t3 = 3 → X10_freshTracing w1 (fun w6 => (ix (2 * x1) 20 ∧ Q (wr (rd w6 20 (2 * x1))) w6))) ∧ (t3 = 4 → X10_freshTracing w1 (fun w7 => (ix ((2 * x1) + 1) 20 ∧ Q (wr (rd w7 20 ((2 * x1) + 1))) w7))) ∧ (t3 < 0 ∨ 4 < t3 → Q (wr (-1)) w1))))))
theorem m_X10_line {Z : Zw} {l : Launch} {x1 : Int} {x2 : Int} {w : Wd} {Q : Int → Wd → Prop} (h : X10_line x1 x2 w Q) : CtQ Z l yX10_line cX10_line 3 (some .int) rm_X10_line [rv Z 0, iv x1, iv x2] w (qI Z Q) := by
  refine ct_of (by decide) (Nat.le_of_ble_eq_true rfl) (fun E eE C R => ?_)
  subst eE
  have C : Cx Z (adA Z) E cX10_line "HandleFaces" 3 rm_X10_line := C
  unfold X10_line at h
  show V Z (adA Z) E 3 w 0 [(0, rv Z 0), (1, iv x1), (2, iv x2)] []
  refine v_aload_n C dX10_line_0 0 rfl ?_
  refine g_X10_drawing C wd_359 dX10_line_1 ?_
  refine v_iload_n C dX10_line_4 1 rfl ?_
  refine v_calli C (rn_V C _ (m_X1_hasLine s_X1_1 h) mf_X1_hasLine wd_631 wd_632 wd_630 rfl rfl ⟨(Nat.le_of_ble_eq_true rfl), (Nat.le_of_ble_eq_true rfl)⟩ s_X1_1.1 rfl rfl rfl (Nat.le_of_ble_eq_true rfl) dX10_line_5) (fun r w h => ?_)
  refine v_if_ne C 13 dX10_line_8 (by decide) (fun q => ?_) (fun q => ?_)
  · have h := h.2 q
    refine v_iload_n C dX10_line_13 2 rfl ?_
    refine v_tabX (fun x hx => ?_)
    have h := h x hx.symm
    by_cases q0 : x = 0
    · have h := h.1 q0
      refine v_tabIn C 48 dX10_line_14 0 (hx.trans q0) (by decide) (by decide) rfl (by decide) ?_
      refine v_aload_n C dX10_line_48 0 rfl ?_
      refine g_X10_drawing C wd_359 dX10_line_49 ?_
      refine g_X1_ends C s_X1_1 wd_61 dX10_line_52 ?_
      refine v_iconst C dX10_line_55 ?_
      refine v_iload_n C dX10_line_56 1 rfl ?_
      refine v_imul C dX10_line_57 ?_
      refine v_iald C rfl h.1 dX10_line_58 ?_
      have h := h.2
      exact v_iret C R h dX10_line_59
    by_cases q1 : x = 1
    · have h := h.2.1 q1
      refine v_tabIn C 60 dX10_line_14 1 (hx.trans q1) (by decide) (by decide) rfl (by decide) ?_
      refine v_aload_n C dX10_line_60 0 rfl ?_
      refine g_X10_drawing C wd_359 dX10_line_61 ?_
      refine g_X1_ends C s_X1_1 wd_61 dX10_line_64 ?_
      refine v_iconst C dX10_line_67 ?_
      refine v_iload_n C dX10_line_68 1 rfl ?_
      refine v_imul C dX10_line_69 ?_
      refine v_iconst C dX10_line_70 ?_
      refine v_iadd C dX10_line_71 ?_
      refine v_iald C rfl h.1 dX10_line_72 ?_
      have h := h.2
      exact v_iret C R h dX10_line_73
    by_cases q2 : x = 2
    · have h := h.2.2.1 q2
      refine v_tabIn C 74 dX10_line_14 2 (hx.trans q2) (by decide) (by decide) rfl (by decide) ?_
      refine v_aload_n C dX10_line_74 0 rfl ?_
      refine g_X10_drawing C wd_359 dX10_line_75 ?_
      refine v_iload_n C dX10_line_78 1 rfl ?_
      refine v_calli C (rn_V C _ (m_X1_isTwisted s_X1_1 h) mf_X1_isTwisted wd_863 wd_864 wd_884 rfl rfl ⟨(Nat.le_of_ble_eq_true rfl), (Nat.le_of_ble_eq_true rfl)⟩ s_X1_1.1 rfl rfl rfl (Nat.le_of_ble_eq_true rfl) dX10_line_79) (fun r w h => ?_)
      refine v_if_eq C 89 dX10_line_82 (by decide) (fun q => ?_) (fun q => ?_)
      · have h := h.1 q
        refine v_iconst C dX10_line_89 ?_
        exact v_iret C R h dX10_line_90
      · have h := h.2 q
        refine v_iconst C dX10_line_85 ?_
        refine v_goto C 90 dX10_line_86 (by decide) ?_
        exact v_iret C R h dX10_line_90
    by_cases q3 : x = 3
    · have h := h.2.2.2.1 q3
      refine v_tabIn C 91 dX10_line_14 3 (hx.trans q3) (by decide) (by decide) rfl (by decide) ?_
      refine v_aload_n C dX10_line_91 0 rfl ?_
      refine v_callr C (rn_V C _ (m_X10_freshTracing h) mf_X10_freshTracing wd_787 wp_26 wd_785 rfl rfl ⟨(Nat.le_of_ble_eq_true rfl), (Nat.le_of_ble_eq_true rfl)⟩ rfl rfl rfl rfl (Nat.le_of_ble_eq_true rfl) dX10_line_92) (fun k w h => ?_)
      obtain ⟨rfl, h⟩ := h
      refine g_X8_sides C s17 wd_211 dX10_line_95 ?_
      refine v_iconst C dX10_line_98 ?_
      refine v_iload_n C dX10_line_99 1 rfl ?_
      refine v_imul C dX10_line_100 ?_
      refine v_iald C s17.2.2.2.1 h.1 dX10_line_101 ?_
      have h := h.2
      exact v_iret C R h dX10_line_102
    by_cases q4 : x = 4
    · have h := h.2.2.2.2.1 q4
      refine v_tabIn C 103 dX10_line_14 4 (hx.trans q4) (by decide) (by decide) rfl (by decide) ?_
      refine v_aload_n C dX10_line_103 0 rfl ?_
      refine v_callr C (rn_V C _ (m_X10_freshTracing h) mf_X10_freshTracing wd_787 wp_26 wd_785 rfl rfl ⟨(Nat.le_of_ble_eq_true rfl), (Nat.le_of_ble_eq_true rfl)⟩ rfl rfl rfl rfl (Nat.le_of_ble_eq_true rfl) dX10_line_104) (fun k w h => ?_)
      obtain ⟨rfl, h⟩ := h
      refine g_X8_sides C s17 wd_211 dX10_line_107 ?_
      refine v_iconst C dX10_line_110 ?_
      refine v_iload_n C dX10_line_111 1 rfl ?_
      refine v_imul C dX10_line_112 ?_
      refine v_iconst C dX10_line_113 ?_
      refine v_iadd C dX10_line_114 ?_
      refine v_iald C s17.2.2.2.1 h.1 dX10_line_115 ?_
      have h := h.2
      exact v_iret C R h dX10_line_116
    have q : x < 0 ∨ 4 < x := by omega
    have h := h.2.2.2.2.2 q
    refine v_tabOut C 117 dX10_line_14 (by rw [hx]; exact q) (by decide) ?_
    refine v_iconst C dX10_line_117 ?_
    exact v_iret C R h dX10_line_118
  · have h := h.1 q
    refine v_iconst C dX10_line_11 ?_
    exact v_iret C R h dX10_line_12
abbrev rm_X10_round : Room := { frames := 1, cells := 0, slots := 0, locals := 22 }
theorem mf_X10_round : MfB yX10_round cX10_round 4 (some .int) 2 := ⟨wd_888, wd_1, by decide, by decide, by decide +kernel⟩
def X10_round_b51 (Q : Int → Wd → Prop) (w : Wd) : Prop := Q (wr (-1)) w
theorem t_X10_round_b51 {Z : Zw} {E : Amb} {Q : Int → Wd → Prop} (C : Cx Z (adA Z) E cX10_round "HandleFaces" 4 rm_X10_round) (R : Rt Z E (some .int) (qI Z Q)) : ∀ (w : Wd), X10_round_b51 Q w → V Z (adA Z) E 4 w 51 [] [] := by
  intro w h
  unfold X10_round_b51 at h
  refine v_iconst C dX10_round_51 ?_
  exact v_iret C R h dX10_round_52
def X10_round (x1 : Int) (x2 : Int) (w : Wd) (Q : Int → Wd → Prop) : Prop := X1_hasPost 1 x1 w (fun y2 w1 => ((wr y2 = 0 → Q (wr (-1)) w1) ∧ (¬ wr y2 = 0 → (ix x1 6 ∧ (∀ y3, y3 = (rd w1 3 x1) → ((wr x2 = wr (-1) → Q (wr y3) w1) ∧ (¬ wr x2 = wr (-1) → ((wr x2 < 0 → X10_round_b51 Q w1) ∧ (¬ wr x2 < 0 → ((wr y3 ≤ wr x2 → X10_round_b51 Q w1) ∧ (¬ wr y3 ≤ wr x2 → X1_lineAt 1 x1 x2 w1 (fun y5 w4 => Q (wr y5) w4))))))))))))
theorem m_X10_round {Z : Zw} {l : Launch} {x1 : Int} {x2 : Int} {w : Wd} {Q : Int → Wd → Prop} (h : X10_round x1 x2 w Q) : CtQ Z l yX10_round cX10_round 4 (some .int) rm_X10_round [rv Z 0, iv x1, iv x2] w (qI Z Q) := by
  refine ct_of (by decide) (Nat.le_of_ble_eq_true rfl) (fun E eE C R => ?_)
  subst eE
  have C : Cx Z (adA Z) E cX10_round "HandleFaces" 4 rm_X10_round := C
  unfold X10_round at h
  show V Z (adA Z) E 4 w 0 [(0, rv Z 0), (1, iv x1), (2, iv x2)] []
  refine v_aload_n C dX10_round_0 0 rfl ?_
  refine g_X10_drawing C wd_359 dX10_round_1 ?_
  refine v_iload_n C dX10_round_4 1 rfl ?_
  refine v_calli C (rn_V C _ (m_X1_hasPost s_X1_1 h) mf_X1_hasPost wd_607 wd_608 wd_662 rfl rfl ⟨(Nat.le_of_ble_eq_true rfl), (Nat.le_of_ble_eq_true rfl)⟩ s_X1_1.1 rfl rfl rfl (Nat.le_of_ble_eq_true rfl) dX10_round_5) (fun r w h => ?_)
  refine v_if_ne C 13 dX10_round_8 (by decide) (fun q => ?_) (fun q => ?_)
  · have h := h.2 q
    refine v_aload_n C dX10_round_13 0 rfl ?_
    refine g_X10_drawing C wd_359 dX10_round_14 ?_
    refine g_X1_degrees C s_X1_1 wd_68 dX10_round_17 ?_
    refine v_iload_n C dX10_round_20 1 rfl ?_
    refine v_iald C rfl h.1 dX10_round_21 ?_
    have h := h.2
    refine v_istore_n C [(3, _), (0, _), (1, _), (2, _)] dX10_round_22 3 rfl (by decide) rfl ?_
    have h := h _ rfl
    refine v_iload_n C dX10_round_23 3 rfl ?_
    refine v_iconst C dX10_round_24 ?_
    refine v_icmp_ne C 30 dX10_round_25 (by decide) (fun q => ?_) (fun q => ?_)
    · have h := h.2 q
      refine v_iload_n C dX10_round_30 3 rfl ?_
      refine v_if_lt C 51 dX10_round_31 (by decide) (fun q => ?_) (fun q => ?_)
      · have h := h.1 q
        refine v_sub [] rfl ?_
        exact t_X10_round_b51 C R _ h
      · have h := h.2 q
        refine v_iload_n C dX10_round_34 3 rfl ?_
        refine v_iload_n C dX10_round_35 0 rfl ?_
        refine v_icmp_ge C 51 dX10_round_36 (by decide) (fun q => ?_) (fun q => ?_)
        · have h := h.1 q
          refine v_sub [] rfl ?_
          exact t_X10_round_b51 C R _ h
        · have h := h.2 q
          refine v_aload_n C dX10_round_39 1 rfl ?_
          refine g_X10_drawing C wd_359 dX10_round_40 ?_
          refine v_iload_n C dX10_round_43 2 rfl ?_
          refine v_iload_n C dX10_round_44 3 rfl ?_
          refine v_calli C (rn_V C _ (m_X1_lineAt s_X1_1 h) mf_X1_lineAt wd_647 wd_648 wd_889 rfl rfl ⟨(Nat.le_of_ble_eq_true rfl), (Nat.le_of_ble_eq_true rfl)⟩ s_X1_1.1 rfl rfl rfl (Nat.le_of_ble_eq_true rfl) dX10_round_45) (fun r w h => ?_)
          refine v_goto C 52 dX10_round_48 (by decide) ?_
          exact v_iret C R h dX10_round_52
    · have h := h.1 q
      refine v_iload_n C dX10_round_28 0 rfl ?_
      exact v_iret C R h dX10_round_29
  · have h := h.1 q
    refine v_iconst C dX10_round_11 ?_
    exact v_iret C R h dX10_round_12
abbrev rm_X10_face : Room := { frames := 5, cells := 0, slots := 0, locals := 114 }
theorem mf_X10_face : MfB yX10_face cX10_face 5 (some .int) 2 := ⟨wd_893, wd_1, by decide, by decide, by decide +kernel⟩
def X10_face_b62 (Q : Int → Wd → Prop) (w : Wd) : Prop := Q (wr (-1)) w
theorem t_X10_face_b62 {Z : Zw} {E : Amb} {Q : Int → Wd → Prop} (C : Cx Z (adA Z) E cX10_face "HandleFaces" 5 rm_X10_face) (R : Rt Z E (some .int) (qI Z Q)) : ∀ (w : Wd), X10_face_b62 Q w → V Z (adA Z) E 5 w 62 [] [] := by
  intro w h
  unfold X10_face_b62 at h
  refine v_iconst C dX10_face_62 ?_
  exact v_iret C R h dX10_face_63
def X10_face (x1 : Int) (x2 : Int) (w : Wd) (Q : Int → Wd → Prop) : Prop := X10_freshTracing w (fun w1 => ((wr x1 = wr (-1) → Q (wr (w1 17 0)) w1) ∧ (¬ wr x1 = wr (-1) → X8_hasFace 17 x1 w1 (fun y3 w2 => ((wr y3 = 0 → Q (wr (-1)) w2) ∧ (¬ wr y3 = 0 → (ix x1 16 ∧ (∀ y4, y4 = (rd w2 18 x1) → ((wr x2 = wr (-1) → Q (wr y4) w2) ∧ (¬ wr x2 = wr (-1) → ((wr x2 < 0 → X10_face_b62 Q w2) ∧ (¬ wr x2 < 0 → ((wr y4 ≤ wr x2 → X10_face_b62 Q w2) ∧ (¬ wr y4 ≤ wr x2 → X8_armAt 17 x1 x2 w2 (fun y6 w5 => Q (wr (isr y6 1)) w5)))))))))))))))
theorem m_X10_face {Z : Zw} {l : Launch} {x1 : Int} {x2 : Int} {w : Wd} {Q : Int → Wd → Prop} (h : X10_face x1 x2 w Q) : CtQ Z l yX10_face cX10_face 5 (some .int) rm_X10_face [rv Z 0, iv x1, iv x2] w (qI Z Q) := by
  refine ct_of (by decide) (Nat.le_of_ble_eq_true rfl) (fun E eE C R => ?_)
  subst eE
  have C : Cx Z (adA Z) E cX10_face "HandleFaces" 5 rm_X10_face := C
  unfold X10_face at h
  show V Z (adA Z) E 5 w 0 [(0, rv Z 0), (1, iv x1), (2, iv x2)] []
  refine v_aload_n C dX10_face_0 0 rfl ?_
  refine v_callr C (rn_V C _ (m_X10_freshTracing h) mf_X10_freshTracing wd_787 wp_26 wd_785 rfl rfl ⟨(Nat.le_of_ble_eq_true rfl), (Nat.le_of_ble_eq_true rfl)⟩ rfl rfl rfl rfl (Nat.le_of_ble_eq_true rfl) dX10_face_1) (fun k w h => ?_)
  obtain ⟨rfl, h⟩ := h
  refine v_astore_n C [(3, _), (0, _), (1, _), (2, _)] dX10_face_4 3 rfl (by decide) rfl ?_
  refine v_iload_n C dX10_face_5 2 rfl ?_
  refine v_iconst C dX10_face_6 ?_
  refine v_icmp_ne C 15 dX10_face_7 (by decide) (fun q => ?_) (fun q => ?_)
  · have h := h.2 q
    refine v_aload_n C dX10_face_15 0 rfl ?_
    refine v_iload_n C dX10_face_16 2 rfl ?_
    refine v_calli C (rn_V C _ (m_X8_hasFace s17 h) mf_X8_hasFace wd_895 wd_896 wd_894 rfl rfl ⟨(Nat.le_of_ble_eq_true rfl), (Nat.le_of_ble_eq_true rfl)⟩ s17.1 rfl rfl rfl (Nat.le_of_ble_eq_true rfl) dX10_face_17) (fun r w h => ?_)
    refine v_if_ne C 25 dX10_face_20 (by decide) (fun q => ?_) (fun q => ?_)
    · have h := h.2 q
      refine v_aload_n C dX10_face_25 0 rfl ?_
      refine g_X8_lengths C s17 wd_206 dX10_face_26 ?_
      refine v_iload_n C dX10_face_29 2 rfl ?_
      refine v_iald C s17.2.1 h.1 dX10_face_30 ?_
      have h := h.2
      refine v_istore C [(4, _), (3, _), (0, _), (1, _), (2, _)] dX10_face_31 (by decide) rfl ?_
      have h := h _ rfl
      refine v_iload_n C dX10_face_33 4 rfl ?_
      refine v_iconst C dX10_face_34 ?_
      refine v_icmp_ne C 41 dX10_face_35 (by decide) (fun q => ?_) (fun q => ?_)
      · have h := h.2 q
        refine v_iload_n C dX10_face_41 4 rfl ?_
        refine v_if_lt C 62 dX10_face_42 (by decide) (fun q => ?_) (fun q => ?_)
        · have h := h.1 q
          refine v_sub [] rfl ?_
          exact t_X10_face_b62 C R _ h
        · have h := h.2 q
          refine v_iload_n C dX10_face_45 4 rfl ?_
          refine v_iload C dX10_face_46 0 rfl ?_
          refine v_icmp_ge C 62 dX10_face_48 (by decide) (fun q => ?_) (fun q => ?_)
          · have h := h.1 q
            refine v_sub [] rfl ?_
            exact t_X10_face_b62 C R _ h
          · have h := h.2 q
            refine v_aload_n C dX10_face_51 1 rfl ?_
            refine v_iload_n C dX10_face_52 3 rfl ?_
            refine v_iload_n C dX10_face_53 4 rfl ?_
            refine v_calli C (rn_V C _ (m_X8_armAt s17 h) mf_X8_armAt wd_841 wd_842 wd_840 rfl rfl ⟨(Nat.le_of_ble_eq_true rfl), (Nat.le_of_ble_eq_true rfl)⟩ s17.1 rfl rfl rfl (Nat.le_of_ble_eq_true rfl) dX10_face_54) (fun r w h => ?_)
            refine v_iconst C dX10_face_57 ?_
            refine v_ishr C dX10_face_58 ?_
            refine v_goto C 63 dX10_face_59 (by decide) ?_
            exact v_iret C R h dX10_face_63
      · have h := h.1 q
        refine v_iload C dX10_face_38 0 rfl ?_
        exact v_iret C R h dX10_face_40
    · have h := h.1 q
      refine v_iconst C dX10_face_23 ?_
      exact v_iret C R h dX10_face_24
  · have h := h.1 q
    refine v_aload_n C dX10_face_10 0 rfl ?_
    refine g_X8_count C s17 wd_204 dX10_face_11 ?_
    exact v_iret C R h dX10_face_14
abbrev rm_X10_surface : Room := { frames := 5, cells := 0, slots := 0, locals := 114 }
theorem mf_X10_surface : MfB yX10_surface cX10_surface 3 (some .int) 1 := ⟨wd_901, wd_1, by decide, by decide, by decide +kernel⟩
def X10_surface (x1 : Int) (w : Wd) (Q : Int → Wd → Prop) : Prop := X10_freshTracing w (fun w1 => (∀ y2, y2 = (((w 1 0) - (w 1 1)) + (w1 17 0)) → (∀ t3, t3 = wr x1 → ((t3 = 0 → X1_turnsRight 1 w1 (fun y5 w4 => ((wr y5 = 0 → Q (wr 0) w4) ∧ (¬ wr y5 = 0 → Q (wr 1) w4)))) ∧ (t3 = 1 → X1_turnsRight 1 w1 (fun y7 w6 => ((wr y7 = 0 → X1_countParts 1 w6 (fun y9 w8 => Q (wr ((2 * y9) - y2)) w8)) ∧ (¬ wr y7 = 0 → X1_countParts 1 w6 (fun y11 w10 => Q (wr (y11 - (idv y2 2))) w10))))) ∧ (t3 = 2 → Q (wr y2) w1) ∧ (t3 = 3 → X1_countParts 1 w1 (fun y13 w12 => Q (wr y13) w12)) ∧ (t3 < 0 ∨ 3 < t3 → Q (wr (-100000)) w1)))))
theorem m_X10_surface {Z : Zw} {l : Launch} {x1 : Int} {w : Wd} {Q : Int → Wd → Prop} (h : X10_surface x1 w Q) : CtQ Z l yX10_surface cX10_surface 3 (some .int) rm_X10_surface [rv Z 0, iv x1] w (qI Z Q) := by
  refine ct_of (by decide) (Nat.le_of_ble_eq_true rfl) (fun E eE C R => ?_)
  subst eE
  have C : Cx Z (adA Z) E cX10_surface "HandleFaces" 3 rm_X10_surface := C
  unfold X10_surface at h
  show V Z (adA Z) E 3 w 0 [(0, rv Z 0), (1, iv x1)] []
  refine v_aload_n C dX10_surface_0 0 rfl ?_
  refine g_X10_drawing C wd_359 dX10_surface_1 ?_
  refine g_X1_posts C s_X1_1 wd_42 dX10_surface_4 ?_
  refine v_aload_n C dX10_surface_7 0 rfl ?_
  refine g_X10_drawing C wd_359 dX10_surface_8 ?_
  refine g_X1_lines C s_X1_1 wd_49 dX10_surface_11 ?_
  refine v_isub C dX10_surface_14 ?_
  refine v_aload_n C dX10_surface_15 0 rfl ?_
  refine v_callr C (rn_V C _ (m_X10_freshTracing h) mf_X10_freshTracing wd_787 wp_26 wd_785 rfl rfl ⟨(Nat.le_of_ble_eq_true rfl), (Nat.le_of_ble_eq_true rfl)⟩ rfl rfl rfl rfl (Nat.le_of_ble_eq_true rfl) dX10_surface_16) (fun k w h => ?_)
  obtain ⟨rfl, h⟩ := h
  refine g_X8_count C s17 wd_204 dX10_surface_19 ?_
  refine v_iadd C dX10_surface_22 ?_
  refine v_istore_n C [(2, _), (0, _), (1, _)] dX10_surface_23 2 rfl (by decide) rfl ?_
  have h := h _ rfl
  refine v_iload_n C dX10_surface_24 2 rfl ?_
  refine v_tabX (fun x hx => ?_)
  have h := h x hx.symm
  by_cases q0 : x = 0
  · have h := h.1 q0
    refine v_tabIn C 56 dX10_surface_25 0 (hx.trans q0) (by decide) (by decide) rfl (by decide) ?_
    refine v_aload_n C dX10_surface_56 1 rfl ?_
    refine g_X10_drawing C wd_359 dX10_surface_57 ?_
    refine v_calli C (rn_V C _ (m_X1_turnsRight s_X1_1 h) mf_X1_turnsRight wd_903 wd_904 wd_902 rfl rfl ⟨(Nat.le_of_ble_eq_true rfl), (Nat.le_of_ble_eq_true rfl)⟩ s_X1_1.1 rfl rfl rfl (Nat.le_of_ble_eq_true rfl) dX10_surface_60) (fun r w h => ?_)
    refine v_if_eq C 70 dX10_surface_63 (by decide) (fun q => ?_) (fun q => ?_)
    · have h := h.1 q
      refine v_iconst C dX10_surface_70 ?_
      exact v_iret C R h dX10_surface_71
    · have h := h.2 q
      refine v_iconst C dX10_surface_66 ?_
      refine v_goto C 71 dX10_surface_67 (by decide) ?_
      exact v_iret C R h dX10_surface_71
  by_cases q1 : x = 1
  · have h := h.2.1 q1
    refine v_tabIn C 72 dX10_surface_25 1 (hx.trans q1) (by decide) (by decide) rfl (by decide) ?_
    refine v_aload_n C dX10_surface_72 1 rfl ?_
    refine g_X10_drawing C wd_359 dX10_surface_73 ?_
    refine v_calli C (rn_V C _ (m_X1_turnsRight s_X1_1 h) mf_X1_turnsRight wd_903 wd_904 wd_902 rfl rfl ⟨(Nat.le_of_ble_eq_true rfl), (Nat.le_of_ble_eq_true rfl)⟩ s_X1_1.1 rfl rfl rfl (Nat.le_of_ble_eq_true rfl) dX10_surface_76) (fun r w h => ?_)
    refine v_if_eq C 96 dX10_surface_79 (by decide) (fun q => ?_) (fun q => ?_)
    · have h := h.1 q
      refine v_iconst C dX10_surface_96 ?_
      refine v_aload_n C dX10_surface_97 1 rfl ?_
      refine g_X10_drawing C wd_359 dX10_surface_98 ?_
      refine v_calli C (rn_V C _ (m_X1_countParts s_X1_1 h) mf_X1_countParts wd_738 wd_739 wd_910 rfl rfl ⟨(Nat.le_of_ble_eq_true rfl), (Nat.le_of_ble_eq_true rfl)⟩ s_X1_1.1 rfl rfl rfl (Nat.le_of_ble_eq_true rfl) dX10_surface_101) (fun r w h => ?_)
      refine v_imul C dX10_surface_104 ?_
      refine v_iload_n C dX10_surface_105 0 rfl ?_
      refine v_isub C dX10_surface_106 ?_
      exact v_iret C R h dX10_surface_107
    · have h := h.2 q
      refine v_aload_n C dX10_surface_82 1 rfl ?_
      refine g_X10_drawing C wd_359 dX10_surface_83 ?_
      refine v_calli C (rn_V C _ (m_X1_countParts s_X1_1 h) mf_X1_countParts wd_738 wd_739 wd_910 rfl rfl ⟨(Nat.le_of_ble_eq_true rfl), (Nat.le_of_ble_eq_true rfl)⟩ s_X1_1.1 rfl rfl rfl (Nat.le_of_ble_eq_true rfl) dX10_surface_86) (fun r w h => ?_)
      refine v_iload_n C dX10_surface_89 0 rfl ?_
      refine v_iconst C dX10_surface_90 ?_
      refine v_idiv C dX10_surface_91 (by decide) ?_
      refine v_isub C dX10_surface_92 ?_
      refine v_goto C 107 dX10_surface_93 (by decide) ?_
      exact v_iret C R h dX10_surface_107
  by_cases q2 : x = 2
  · have h := h.2.2.1 q2
    refine v_tabIn C 108 dX10_surface_25 2 (hx.trans q2) (by decide) (by decide) rfl (by decide) ?_
    refine v_iload_n C dX10_surface_108 0 rfl ?_
    exact v_iret C R h dX10_surface_109
  by_cases q3 : x = 3
  · have h := h.2.2.2.1 q3
    refine v_tabIn C 110 dX10_surface_25 3 (hx.trans q3) (by decide) (by decide) rfl (by decide) ?_
    refine v_aload_n C dX10_surface_110 1 rfl ?_
    refine g_X10_drawing C wd_359 dX10_surface_111 ?_
    refine v_calli C (rn_V C _ (m_X1_countParts s_X1_1 h) mf_X1_countParts wd_738 wd_739 wd_910 rfl rfl ⟨(Nat.le_of_ble_eq_true rfl), (Nat.le_of_ble_eq_true rfl)⟩ s_X1_1.1 rfl rfl rfl (Nat.le_of_ble_eq_true rfl) dX10_surface_114) (fun r w h => ?_)
    exact v_iret C R h dX10_surface_117
  have q : x < 0 ∨ 3 < x := by omega
  have h := h.2.2.2.2 q
  refine v_tabOut C 118 dX10_surface_25 (by rw [hx]; exact q) (by decide) ?_
  refine v_ldc C (-100000) wd_911 (by decide) dX10_surface_118 ?_
  exact v_iret C R h dX10_surface_120
abbrev rm_X10_all : Room := { frames := 5, cells := 0, slots := 0, locals := 123 }
theorem mf_X10_all : MfB yX10_all cX10_all 4 (some .long) 1 := ⟨wd_915, wd_1, by decide, by decide, by decide +kernel⟩
def X10_all (x1 : Int) (w : Wd) (Q : Int → Wd → Prop) : Prop := ((wr x1 < 0 → Q (wl (-1)) w) ∧ (¬ wr x1 < 0 → ((wr x1 ≤ wr 3 → X3_howMany 1 w (fun y2 w1 => ((wr x1 = 0 → Q (wl y2) w1) ∧ (¬ wr x1 = 0 → ((wr (lcm y2 20000) ≤ 0 → X3_survey 1 w1 (fun w3 => ((wr x1 = wr 1 → Q (wl (wr (w3 40 0))) w3) ∧ (¬ wr x1 = wr 1 → ((wr x1 = wr 2 → Q (wl (wr (w3 40 1))) w3) ∧ (¬ wr x1 = wr 2 → Q (wl (wr (w3 40 2))) w3)))))) ∧ (¬ wr (lcm y2 20000) ≤ 0 → Q (wl (-2)) w1)))))) ∧ (¬ wr x1 ≤ wr 3 → Q (wl (-1)) w))))
theorem m_X10_all {Z : Zw} {l : Launch} {x1 : Int} {w : Wd} {Q : Int → Wd → Prop} (h : X10_all x1 w Q) : CtQ Z l yX10_all cX10_all 4 (some .long) rm_X10_all [rv Z 0, iv x1] w (qL Z Q) := by
  refine ct_of (by decide) (Nat.le_of_ble_eq_true rfl) (fun E eE C R => ?_)
  subst eE
  have C : Cx Z (adA Z) E cX10_all "HandleFaces" 4 rm_X10_all := C
  unfold X10_all at h
  show V Z (adA Z) E 4 w 0 [(0, rv Z 0), (1, iv x1)] []
  refine v_iload_n C dX10_all_0 1 rfl ?_
  refine v_if_lt C 9 dX10_all_1 (by decide) (fun q => ?_) (fun q => ?_)
  · have h := h.1 q
    refine v_ldc2 C (-1) wd_916 (by decide) dX10_all_9 ?_
    exact v_lret C R h dX10_all_12
  · have h := h.2 q
    refine v_iload_n C dX10_all_4 1 rfl ?_
    refine v_iconst C dX10_all_5 ?_
    refine v_icmp_le C 13 dX10_all_6 (by decide) (fun q => ?_) (fun q => ?_)
    · have h := h.1 q
      refine v_aload_n C dX10_all_13 0 rfl ?_
      refine g_X10_drawing C wd_359 dX10_all_14 ?_
      refine v_calll C (rn_S C _ (m_X3_howMany s_X1_1 h) mf_X3_howMany wd_688 wd_687 rfl rfl ⟨(Nat.le_of_ble_eq_true rfl), (Nat.le_of_ble_eq_true rfl)⟩ rfl rfl (Nat.le_of_ble_eq_true rfl) dX10_all_17) (fun r w h => ?_)
      refine v_lstore_n C [(2, _), (0, _), (1, _)] dX10_all_20 2 rfl (by decide) rfl ?_
      refine v_iload_n C dX10_all_21 2 rfl ?_
      refine v_if_ne C 27 dX10_all_22 (by decide) (fun q => ?_) (fun q => ?_)
      · have h := h.2 q
        refine v_lload_n C dX10_all_27 0 rfl ?_
        refine v_ldc2 C 20000 wd_698 (by decide) dX10_all_28 ?_
        refine v_lcmp C dX10_all_31 ?_
        refine v_if_le C 39 dX10_all_32 (by decide) (fun q => ?_) (fun q => ?_)
        · have h := h.1 q
          refine v_aload_n C dX10_all_39 1 rfl ?_
          refine g_X10_orders C wd_366 dX10_all_40 ?_
          refine v_aload_n C dX10_all_43 1 rfl ?_
          refine g_X10_drawing C wd_359 dX10_all_44 ?_
          refine v_callv C (rn_V C _ (m_X3_survey s_X1_1 h) mf_X3_survey wd_700 wd_701 wd_699 rfl rfl ⟨(Nat.le_of_ble_eq_true rfl), (Nat.le_of_ble_eq_true rfl)⟩ rfl rfl rfl rfl (Nat.le_of_ble_eq_true rfl) dX10_all_47) (fun w h => ?_)
          refine v_iload_n C dX10_all_50 2 rfl ?_
          refine v_iconst C dX10_all_51 ?_
          refine v_icmp_ne C 64 dX10_all_52 (by decide) (fun q => ?_) (fun q => ?_)
          · have h := h.2 q
            refine v_iload_n C dX10_all_64 2 rfl ?_
            refine v_iconst C dX10_all_65 ?_
            refine v_icmp_ne C 80 dX10_all_66 (by decide) (fun q => ?_) (fun q => ?_)
            · have h := h.2 q
              refine v_aload_n C dX10_all_80 1 rfl ?_
              refine g_X10_orders C wd_366 dX10_all_81 ?_
              refine g_X3_first C wd_261 dX10_all_84 ?_
              refine v_i2l C dX10_all_87 ?_
              exact v_lret C R h dX10_all_88
            · have h := h.1 q
              refine v_aload_n C dX10_all_69 1 rfl ?_
              refine g_X10_orders C wd_366 dX10_all_70 ?_
              refine g_X3_most C wd_259 dX10_all_73 ?_
              refine v_i2l C dX10_all_76 ?_
              refine v_goto C 88 dX10_all_77 (by decide) ?_
              exact v_lret C R h dX10_all_88
          · have h := h.1 q
            refine v_aload_n C dX10_all_55 1 rfl ?_
            refine g_X10_orders C wd_366 dX10_all_56 ?_
            refine g_X3_least C wd_257 dX10_all_59 ?_
            refine v_i2l C dX10_all_62 ?_
            exact v_lret C R h dX10_all_63
        · have h := h.2 q
          refine v_ldc2 C (-2) wd_917 (by decide) dX10_all_35 ?_
          exact v_lret C R h dX10_all_38
      · have h := h.1 q
        refine v_lload_n C dX10_all_25 0 rfl ?_
        exact v_lret C R h dX10_all_26
    · have h := h.2 q
      refine v_ldc2 C (-1) wd_916 (by decide) dX10_all_9 ?_
      exact v_lret C R h dX10_all_12
abbrev rm_X10_needing : Room := { frames := 5, cells := 0, slots := 0, locals := 123 }
theorem mf_X10_needing : MfB yX10_needing cX10_needing 2 (some .int) 1 := ⟨wd_921, wd_1, by decide, by decide, by decide +kernel⟩
def X10_needing (x1 : Int) (w : Wd) (Q : Int → Wd → Prop) : Prop := X3_howMany 1 w (fun y2 w1 => ((wr (lcm y2 20000) ≤ 0 → ((wr x1 < 0 → Q (wr 0) w1) ∧ (¬ wr x1 < 0 → ((wr x1 ≤ wr 5 → X3_survey 1 w1 (fun w3 => (ix x1 6 ∧ Q (wr (rd w3 41 x1)) w3))) ∧ (¬ wr x1 ≤ wr 5 → Q (wr 0) w1))))) ∧ (¬ wr (lcm y2 20000) ≤ 0 → Q (wr (-2)) w1)))
theorem m_X10_needing {Z : Zw} {l : Launch} {x1 : Int} {w : Wd} {Q : Int → Wd → Prop} (h : X10_needing x1 w Q) : CtQ Z l yX10_needing cX10_needing 2 (some .int) rm_X10_needing [rv Z 0, iv x1] w (qI Z Q) := by
  refine ct_of (by decide) (Nat.le_of_ble_eq_true rfl) (fun E eE C R => ?_)
  subst eE
  have C : Cx Z (adA Z) E cX10_needing "HandleFaces" 2 rm_X10_needing := C
  unfold X10_needing at h
  show V Z (adA Z) E 2 w 0 [(0, rv Z 0), (1, iv x1)] []
  refine v_aload_n C dX10_needing_0 0 rfl ?_
  refine g_X10_drawing C wd_359 dX10_needing_1 ?_
  refine v_calll C (rn_S C _ (m_X3_howMany s_X1_1 h) mf_X3_howMany wd_688 wd_687 rfl rfl ⟨(Nat.le_of_ble_eq_true rfl), (Nat.le_of_ble_eq_true rfl)⟩ rfl rfl (Nat.le_of_ble_eq_true rfl) dX10_needing_4) (fun r w h => ?_)
  refine v_ldc2 C 20000 wd_698 (by decide) dX10_needing_7 ?_
  refine v_lcmp C dX10_needing_10 ?_
  refine v_if_le C 17 dX10_needing_11 (by decide) (fun q => ?_) (fun q => ?_)
  · have h := h.1 q
    refine v_iload_n C dX10_needing_17 1 rfl ?_
    refine v_if_lt C 26 dX10_needing_18 (by decide) (fun q => ?_) (fun q => ?_)
    · have h := h.1 q
      refine v_iconst C dX10_needing_26 ?_
      exact v_iret C R h dX10_needing_27
    · have h := h.2 q
      refine v_iload_n C dX10_needing_21 1 rfl ?_
      refine v_iconst C dX10_needing_22 ?_
      refine v_icmp_le C 28 dX10_needing_23 (by decide) (fun q => ?_) (fun q => ?_)
      · have h := h.1 q
        refine v_aload_n C dX10_needing_28 0 rfl ?_
        refine g_X10_orders C wd_366 dX10_needing_29 ?_
        refine v_aload_n C dX10_needing_32 0 rfl ?_
        refine g_X10_drawing C wd_359 dX10_needing_33 ?_
        refine v_callv C (rn_V C _ (m_X3_survey s_X1_1 h) mf_X3_survey wd_700 wd_701 wd_699 rfl rfl ⟨(Nat.le_of_ble_eq_true rfl), (Nat.le_of_ble_eq_true rfl)⟩ rfl rfl rfl rfl (Nat.le_of_ble_eq_true rfl) dX10_needing_36) (fun w h => ?_)
        refine v_aload_n C dX10_needing_39 0 rfl ?_
        refine g_X10_orders C wd_366 dX10_needing_40 ?_
        refine g_X3_needs C wd_263 dX10_needing_43 ?_
        refine v_iload_n C dX10_needing_46 1 rfl ?_
        refine v_iald C rfl h.1 dX10_needing_47 ?_
        have h := h.2
        exact v_iret C R h dX10_needing_48
      · have h := h.2 q
        refine v_iconst C dX10_needing_26 ?_
        exact v_iret C R h dX10_needing_27
  · have h := h.2 q
    refine v_bipush C dX10_needing_14 (by decide) ?_
    exact v_iret C R h dX10_needing_16
abbrev rm_X10_ordered : Room := { frames := 3, cells := 0, slots := 0, locals := 72 }
theorem mf_X10_ordered : MfB yX10_ordered cX10_ordered 4 (some .int) 3 := ⟨wd_925, wd_1, by decide, by decide, by decide +kernel⟩
def X10_ordered (x1 : Int) (x2 : Int) (x3 : Int) (w : Wd) (Q : Int → Wd → Prop) : Prop := ((wr x1 < 0 → Q (wr (-1)) w) ∧ (¬ wr x1 < 0 → X3_howMany 1 w (fun y2 w1 => ((0 ≤ wr (lcm (wr x1) y2) → Q (wr (-1)) w1) ∧ (¬ 0 ≤ wr (lcm (wr x1) y2) → X1_hasPost 1 x2 w1 (fun y4 w3 => ((wr y4 = 0 → Q (wr (-1)) w3) ∧ (¬ wr y4 = 0 → ((wr x3 < 0 → Q (wr (-1)) w3) ∧ (¬ wr x3 < 0 → (ix x2 6 ∧ ((wr x3 < wr (rd w3 3 x2) → X3_lineInOrder 1 x1 x2 x3 w3 (fun y6 w5 => Q (wr y6) w5)) ∧ (¬ wr x3 < wr (rd w3 3 x2) → Q (wr (-1)) w3)))))))))))))
theorem m_X10_ordered {Z : Zw} {l : Launch} {x1 : Int} {x2 : Int} {x3 : Int} {w : Wd} {Q : Int → Wd → Prop} (h : X10_ordered x1 x2 x3 w Q) : CtQ Z l yX10_ordered cX10_ordered 4 (some .int) rm_X10_ordered [rv Z 0, iv x1, iv x2, iv x3] w (qI Z Q) := by
  refine ct_of (by decide) (Nat.le_of_ble_eq_true rfl) (fun E eE C R => ?_)
  subst eE
  have C : Cx Z (adA Z) E cX10_ordered "HandleFaces" 4 rm_X10_ordered := C
  unfold X10_ordered at h
  show V Z (adA Z) E 4 w 0 [(0, rv Z 0), (1, iv x1), (2, iv x2), (3, iv x3)] []
  refine v_iload_n C dX10_ordered_0 1 rfl ?_
  refine v_if_lt C 28 dX10_ordered_1 (by decide) (fun q => ?_) (fun q => ?_)
  · have h := h.1 q
    refine v_iconst C dX10_ordered_28 ?_
    exact v_iret C R h dX10_ordered_29
  · have h := h.2 q
    refine v_iload_n C dX10_ordered_4 1 rfl ?_
    refine v_i2l C dX10_ordered_5 ?_
    refine v_aload_n C dX10_ordered_6 0 rfl ?_
    refine g_X10_drawing C wd_359 dX10_ordered_7 ?_
    refine v_calll C (rn_S C _ (m_X3_howMany s_X1_1 h) mf_X3_howMany wd_688 wd_687 rfl rfl ⟨(Nat.le_of_ble_eq_true rfl), (Nat.le_of_ble_eq_true rfl)⟩ rfl rfl (Nat.le_of_ble_eq_true rfl) dX10_ordered_10) (fun r w h => ?_)
    refine v_lcmp C dX10_ordered_13 ?_
    refine v_if_ge C 28 dX10_ordered_14 (by decide) (fun q => ?_) (fun q => ?_)
    · have h := h.1 q
      refine v_iconst C dX10_ordered_28 ?_
      exact v_iret C R h dX10_ordered_29
    · have h := h.2 q
      refine v_aload_n C dX10_ordered_17 0 rfl ?_
      refine g_X10_drawing C wd_359 dX10_ordered_18 ?_
      refine v_iload_n C dX10_ordered_21 2 rfl ?_
      refine v_calli C (rn_V C _ (m_X1_hasPost s_X1_1 h) mf_X1_hasPost wd_607 wd_608 wd_662 rfl rfl ⟨(Nat.le_of_ble_eq_true rfl), (Nat.le_of_ble_eq_true rfl)⟩ s_X1_1.1 rfl rfl rfl (Nat.le_of_ble_eq_true rfl) dX10_ordered_22) (fun r w h => ?_)
      refine v_if_ne C 30 dX10_ordered_25 (by decide) (fun q => ?_) (fun q => ?_)
      · have h := h.2 q
        refine v_iload_n C dX10_ordered_30 3 rfl ?_
        refine v_if_lt C 47 dX10_ordered_31 (by decide) (fun q => ?_) (fun q => ?_)
        · have h := h.1 q
          refine v_iconst C dX10_ordered_47 ?_
          exact v_iret C R h dX10_ordered_48
        · have h := h.2 q
          refine v_iload_n C dX10_ordered_34 3 rfl ?_
          refine v_aload_n C dX10_ordered_35 0 rfl ?_
          refine g_X10_drawing C wd_359 dX10_ordered_36 ?_
          refine g_X1_degrees C s_X1_1 wd_68 dX10_ordered_39 ?_
          refine v_iload_n C dX10_ordered_42 2 rfl ?_
          refine v_iald C rfl h.1 dX10_ordered_43 ?_
          have h := h.2
          refine v_icmp_lt C 49 dX10_ordered_44 (by decide) (fun q => ?_) (fun q => ?_)
          · have h := h.1 q
            refine v_aload_n C dX10_ordered_49 0 rfl ?_
            refine g_X10_drawing C wd_359 dX10_ordered_50 ?_
            refine v_iload_n C dX10_ordered_53 1 rfl ?_
            refine v_iload_n C dX10_ordered_54 2 rfl ?_
            refine v_iload_n C dX10_ordered_55 3 rfl ?_
            refine v_calli C (rn_S C _ (m_X3_lineInOrder s_X1_1 h) mf_X3_lineInOrder wd_775 wd_926 rfl rfl ⟨(Nat.le_of_ble_eq_true rfl), (Nat.le_of_ble_eq_true rfl)⟩ rfl rfl (Nat.le_of_ble_eq_true rfl) dX10_ordered_56) (fun r w h => ?_)
            exact v_iret C R h dX10_ordered_59
          · have h := h.2 q
            refine v_iconst C dX10_ordered_47 ?_
            exact v_iret C R h dX10_ordered_48
      · have h := h.1 q
        refine v_iconst C dX10_ordered_28 ?_
        exact v_iret C R h dX10_ordered_29
abbrev rm_X10_capped : Room := { frames := 6, cells := 0, slots := 0, locals := 152 }
theorem mf_X10_capped : MfB yX10_capped cX10_capped 1 (some .int) 0 := ⟨wd_930, wd_1, by decide, by decide, by decide +kernel⟩
def X10_capped (w : Wd) (Q : Int → Wd → Prop) : Prop := X3_fewestCaps 1 w (fun y2 w1 => Q (wr y2) w1)
theorem m_X10_capped {Z : Zw} {l : Launch} {w : Wd} {Q : Int → Wd → Prop} (h : X10_capped w Q) : CtQ Z l yX10_capped cX10_capped 1 (some .int) rm_X10_capped [rv Z 0] w (qI Z Q) := by
  refine ct_of (by decide) (Nat.le_of_ble_eq_true rfl) (fun E eE C R => ?_)
  subst eE
  have C : Cx Z (adA Z) E cX10_capped "HandleFaces" 1 rm_X10_capped := C
  unfold X10_capped at h
  show V Z (adA Z) E 1 w 0 [(0, rv Z 0)] []
  refine v_aload_n C dX10_capped_0 0 rfl ?_
  refine g_X10_orders C wd_366 dX10_capped_1 ?_
  refine v_aload_n C dX10_capped_4 0 rfl ?_
  refine g_X10_drawing C wd_359 dX10_capped_5 ?_
  refine v_calli C (rn_V C _ (m_X3_fewestCaps s_X1_1 h) mf_X3_fewestCaps wd_932 wd_933 wd_931 rfl rfl ⟨(Nat.le_of_ble_eq_true rfl), (Nat.le_of_ble_eq_true rfl)⟩ rfl rfl rfl rfl (Nat.le_of_ble_eq_true rfl) dX10_capped_8) (fun r w h => ?_)
  exact v_iret C R h dX10_capped_11
abbrev rm_X10_bound : Room := { frames := 10, cells := 0, slots := 0, locals := 562 }
theorem mf_X10_bound : MfB yX10_bound cX10_bound 3 (some .int) 1 := ⟨wd_961, wd_1, by decide, by decide, by decide +kernel⟩
def X10_bound_b11 (Q : Int → Wd → Prop) (x1 : Int) (w : Wd) : Prop := X5_search 1 w (fun w1 => ((wr x1 = wr 1 → ((wr (w1 49 1) = 0 → Q (wr (-2)) w1) ∧ (¬ wr (w1 49 1) = 0 → Q (wr (w1 49 1)) w1))) ∧ (¬ wr x1 = wr 1 → ((wr (w1 49 1) = 0 → Q (wr 0) w1) ∧ (¬ wr (w1 49 1) = 0 → X1_countParts 1 w1 (fun y3 w2 => ((wr y3 = wr 1 → (¬ wr (w2 49 1) = 0 ∧ (∀ y4, y4 = (((2 - (w2 1 0)) + (w2 1 1)) - (idv (2 * (w2 1 1)) (w2 49 1))) → ((0 < wr y4 → Q (wr (idv (y4 + 1) 2)) w2) ∧ (¬ 0 < wr y4 → Q (wr 0) w2))))) ∧ (¬ wr y3 = wr 1 → Q (wr 0) w2))))))))
theorem t_X10_bound_b11 {Z : Zw} {E : Amb} {Q : Int → Wd → Prop} (C : Cx Z (adA Z) E cX10_bound "HandleFaces" 3 rm_X10_bound) (R : Rt Z E (some .int) (qI Z Q)) : ∀ (x1 : Int) (w : Wd), X10_bound_b11 Q x1 w → V Z (adA Z) E 3 w 11 [(0, rv Z 0), (1, iv x1)] [] := by
  intro x1 w h
  unfold X10_bound_b11 at h
  refine v_aload_n C dX10_bound_11 0 rfl ?_
  refine g_X10_rings C wd_367 dX10_bound_12 ?_
  refine v_aload_n C dX10_bound_15 0 rfl ?_
  refine g_X10_drawing C wd_359 dX10_bound_16 ?_
  refine v_callv C (rn_V C _ (m_X5_search s_X1_1 h) mf_X5_search wd_963 wd_964 wd_962 rfl rfl ⟨(Nat.le_of_ble_eq_true rfl), (Nat.le_of_ble_eq_true rfl)⟩ rfl rfl rfl rfl (Nat.le_of_ble_eq_true rfl) dX10_bound_19) (fun w h => ?_)
  refine v_iload_n C dX10_bound_22 1 rfl ?_
  refine v_iconst C dX10_bound_23 ?_
  refine v_icmp_ne C 50 dX10_bound_24 (by decide) (fun q => ?_) (fun q => ?_)
  · have h := h.2 q
    refine v_aload_n C dX10_bound_50 0 rfl ?_
    refine g_X10_rings C wd_367 dX10_bound_51 ?_
    refine g_X5_girth C wd_297 dX10_bound_54 ?_
    refine v_if_eq C 71 dX10_bound_57 (by decide) (fun q => ?_) (fun q => ?_)
    · have h := h.1 q
      refine v_iconst C dX10_bound_71 ?_
      exact v_iret C R h dX10_bound_72
    · have h := h.2 q
      refine v_aload_n C dX10_bound_60 0 rfl ?_
      refine g_X10_drawing C wd_359 dX10_bound_61 ?_
      refine v_calli C (rn_V C _ (m_X1_countParts s_X1_1 h) mf_X1_countParts wd_738 wd_739 wd_910 rfl rfl ⟨(Nat.le_of_ble_eq_true rfl), (Nat.le_of_ble_eq_true rfl)⟩ s_X1_1.1 rfl rfl rfl (Nat.le_of_ble_eq_true rfl) dX10_bound_64) (fun r w h => ?_)
      refine v_iconst C dX10_bound_67 ?_
      refine v_icmp_eq C 73 dX10_bound_68 (by decide) (fun q => ?_) (fun q => ?_)
      · have h := h.1 q
        refine v_iconst C dX10_bound_73 ?_
        refine v_aload_n C dX10_bound_74 0 rfl ?_
        refine g_X10_drawing C wd_359 dX10_bound_75 ?_
        refine g_X1_posts C s_X1_1 wd_42 dX10_bound_78 ?_
        refine v_isub C dX10_bound_81 ?_
        refine v_aload_n C dX10_bound_82 0 rfl ?_
        refine g_X10_drawing C wd_359 dX10_bound_83 ?_
        refine g_X1_lines C s_X1_1 wd_49 dX10_bound_86 ?_
        refine v_iadd C dX10_bound_89 ?_
        refine v_iconst C dX10_bound_90 ?_
        refine v_aload_n C dX10_bound_91 0 rfl ?_
        refine g_X10_drawing C wd_359 dX10_bound_92 ?_
        refine g_X1_lines C s_X1_1 wd_49 dX10_bound_95 ?_
        refine v_imul C dX10_bound_98 ?_
        refine v_aload_n C dX10_bound_99 0 rfl ?_
        refine g_X10_rings C wd_367 dX10_bound_100 ?_
        refine g_X5_girth C wd_297 dX10_bound_103 ?_
        refine v_idiv C dX10_bound_106 h.1 ?_
        have h := h.2
        refine v_isub C dX10_bound_107 ?_
        refine v_istore_n C [(2, _), (0, _), (1, _)] dX10_bound_108 2 rfl (by decide) rfl ?_
        have h := h _ rfl
        refine v_iload_n C dX10_bound_109 0 rfl ?_
        refine v_if_gt C 117 dX10_bound_110 (by decide) (fun q => ?_) (fun q => ?_)
        · have h := h.1 q
          refine v_iload_n C dX10_bound_117 0 rfl ?_
          refine v_iconst C dX10_bound_118 ?_
          refine v_iadd C dX10_bound_119 ?_
          refine v_iconst C dX10_bound_120 ?_
          refine v_idiv C dX10_bound_121 (by decide) ?_
          exact v_iret C R h dX10_bound_122
        · have h := h.2 q
          refine v_iconst C dX10_bound_113 ?_
          refine v_goto C 122 dX10_bound_114 (by decide) ?_
          exact v_iret C R h dX10_bound_122
      · have h := h.2 q
        refine v_iconst C dX10_bound_71 ?_
        exact v_iret C R h dX10_bound_72
  · have h := h.1 q
    refine v_aload_n C dX10_bound_27 0 rfl ?_
    refine g_X10_rings C wd_367 dX10_bound_28 ?_
    refine g_X5_girth C wd_297 dX10_bound_31 ?_
    refine v_if_ne C 42 dX10_bound_34 (by decide) (fun q => ?_) (fun q => ?_)
    · have h := h.2 q
      refine v_aload_n C dX10_bound_42 0 rfl ?_
      refine g_X10_rings C wd_367 dX10_bound_43 ?_
      refine g_X5_girth C wd_297 dX10_bound_46 ?_
      exact v_iret C R h dX10_bound_49
    · have h := h.1 q
      refine v_bipush C dX10_bound_37 (by decide) ?_
      refine v_goto C 49 dX10_bound_39 (by decide) ?_
      exact v_iret C R h dX10_bound_49
def X10_bound (x1 : Int) (w : Wd) (Q : Int → Wd → Prop) : Prop := ((wr x1 = 0 → X10_bound_b11 Q x1 w) ∧ (¬ wr x1 = 0 → ((wr x1 = wr 1 → X10_bound_b11 Q x1 w) ∧ (¬ wr x1 = wr 1 → Q (wr (-1)) w))))
theorem m_X10_bound {Z : Zw} {l : Launch} {x1 : Int} {w : Wd} {Q : Int → Wd → Prop} (h : X10_bound x1 w Q) : CtQ Z l yX10_bound cX10_bound 3 (some .int) rm_X10_bound [rv Z 0, iv x1] w (qI Z Q) := by
  refine ct_of (by decide) (Nat.le_of_ble_eq_true rfl) (fun E eE C R => ?_)
  subst eE
  have C : Cx Z (adA Z) E cX10_bound "HandleFaces" 3 rm_X10_bound := C
  unfold X10_bound at h
  show V Z (adA Z) E 3 w 0 [(0, rv Z 0), (1, iv x1)] []
  refine v_iload_n C dX10_bound_0 1 rfl ?_
  refine v_if_eq C 11 dX10_bound_1 (by decide) (fun q => ?_) (fun q => ?_)
  · have h := h.1 q
    exact t_X10_bound_b11 C R _ _ h
  · have h := h.2 q
    refine v_iload_n C dX10_bound_4 1 rfl ?_
    refine v_iconst C dX10_bound_5 ?_
    refine v_icmp_eq C 11 dX10_bound_6 (by decide) (fun q => ?_) (fun q => ?_)
    · have h := h.1 q
      exact t_X10_bound_b11 C R _ _ h
    · have h := h.2 q
      refine v_iconst C dX10_bound_9 ?_
      exact v_iret C R h dX10_bound_10
abbrev rm_X10_without : Room := { frames := 4, cells := 0, slots := 0, locals := 94 }
theorem mf_X10_without : MfB yX10_without cX10_without 3 (some .int) 2 := ⟨wd_978, wd_1, by decide, by decide, by decide +kernel⟩
def X10_without (x1 : Int) (x2 : Int) (w : Wd) (Q : Int → Wd → Prop) : Prop := X1_hasLine 1 x1 w (fun y2 w1 => ((wr y2 = 0 → Q (wr (-100000)) w1) ∧ (¬ wr y2 = 0 → ((wr x2 < 0 → Q (wr (-100000)) w1) ∧ (¬ wr x2 < 0 → ((wr x2 ≤ wr 2 → X1_become 5 1 w1 (fun w3 => X1_dropLine 5 x1 w3 (fun w4 => ((wr x2 = wr 1 → X1_countParts 5 w4 (fun y7 w6 => Q (wr y7) w6)) ∧ (¬ wr x2 = wr 1 → X8_trace 27 5 w4 (fun w5 => ((wr x2 = 0 → Q (wr (w5 27 0)) w5) ∧ (¬ wr x2 = 0 → Q (wr (((w5 5 0) - (w5 5 1)) + (w5 27 0))) w5)))))))) ∧ (¬ wr x2 ≤ wr 2 → Q (wr (-100000)) w1)))))))
theorem m_X10_without {Z : Zw} {l : Launch} {x1 : Int} {x2 : Int} {w : Wd} {Q : Int → Wd → Prop} (h : X10_without x1 x2 w Q) : CtQ Z l yX10_without cX10_without 3 (some .int) rm_X10_without [rv Z 0, iv x1, iv x2] w (qI Z Q) := by
  refine ct_of (by decide) (Nat.le_of_ble_eq_true rfl) (fun E eE C R => ?_)
  subst eE
  have C : Cx Z (adA Z) E cX10_without "HandleFaces" 3 rm_X10_without := C
  unfold X10_without at h
  show V Z (adA Z) E 3 w 0 [(0, rv Z 0), (1, iv x1), (2, iv x2)] []
  refine v_aload_n C dX10_without_0 0 rfl ?_
  refine g_X10_drawing C wd_359 dX10_without_1 ?_
  refine v_iload_n C dX10_without_4 1 rfl ?_
  refine v_calli C (rn_V C _ (m_X1_hasLine s_X1_1 h) mf_X1_hasLine wd_631 wd_632 wd_630 rfl rfl ⟨(Nat.le_of_ble_eq_true rfl), (Nat.le_of_ble_eq_true rfl)⟩ s_X1_1.1 rfl rfl rfl (Nat.le_of_ble_eq_true rfl) dX10_without_5) (fun r w h => ?_)
  refine v_if_eq C 20 dX10_without_8 (by decide) (fun q => ?_) (fun q => ?_)
  · have h := h.1 q
    refine v_ldc C (-100000) wd_911 (by decide) dX10_without_20 ?_
    exact v_iret C R h dX10_without_22
  · have h := h.2 q
    refine v_iload_n C dX10_without_11 2 rfl ?_
    refine v_if_lt C 20 dX10_without_12 (by decide) (fun q => ?_) (fun q => ?_)
    · have h := h.1 q
      refine v_ldc C (-100000) wd_911 (by decide) dX10_without_20 ?_
      exact v_iret C R h dX10_without_22
    · have h := h.2 q
      refine v_iload_n C dX10_without_15 2 rfl ?_
      refine v_iconst C dX10_without_16 ?_
      refine v_icmp_le C 23 dX10_without_17 (by decide) (fun q => ?_) (fun q => ?_)
      · have h := h.1 q
        refine v_aload_n C dX10_without_23 0 rfl ?_
        refine g_X10_draft C wd_360 dX10_without_24 ?_
        refine v_aload_n C dX10_without_27 0 rfl ?_
        refine g_X10_drawing C wd_359 dX10_without_28 ?_
        refine v_callv C (rn_V C _ (m_X1_become s_X1_5 s_X1_1 h) mf_X1_become wd_712 wd_713 wd_845 rfl rfl ⟨(Nat.le_of_ble_eq_true rfl), (Nat.le_of_ble_eq_true rfl)⟩ s_X1_5.1 rfl rfl rfl (Nat.le_of_ble_eq_true rfl) dX10_without_31) (fun w h => ?_)
        refine v_aload_n C dX10_without_34 0 rfl ?_
        refine g_X10_draft C wd_360 dX10_without_35 ?_
        refine v_iload_n C dX10_without_38 1 rfl ?_
        refine v_callv C (rn_V C _ (m_X1_dropLine s_X1_5 h) mf_X1_dropLine wd_635 wd_636 wd_634 rfl rfl ⟨(Nat.le_of_ble_eq_true rfl), (Nat.le_of_ble_eq_true rfl)⟩ s_X1_5.1 rfl rfl rfl (Nat.le_of_ble_eq_true rfl) dX10_without_39) (fun w h => ?_)
        refine v_iload_n C dX10_without_42 2 rfl ?_
        refine v_iconst C dX10_without_43 ?_
        refine v_icmp_ne C 55 dX10_without_44 (by decide) (fun q => ?_) (fun q => ?_)
        · have h := h.2 q
          refine v_aload_n C dX10_without_55 0 rfl ?_
          refine g_X10_draftTracing C wd_364 dX10_without_56 ?_
          refine v_aload_n C dX10_without_59 0 rfl ?_
          refine g_X10_draft C wd_360 dX10_without_60 ?_
          refine v_callv C (rn_V C _ (m_X8_trace s_X8_27 s_X1_5 h) mf_X8_trace wd_790 wd_791 wd_789 rfl rfl ⟨(Nat.le_of_ble_eq_true rfl), (Nat.le_of_ble_eq_true rfl)⟩ s_X8_27.1 rfl rfl rfl (Nat.le_of_ble_eq_true rfl) dX10_without_63) (fun w h => ?_)
          refine v_iload_n C dX10_without_66 2 rfl ?_
          refine v_if_ne C 80 dX10_without_67 (by decide) (fun q => ?_) (fun q => ?_)
          · have h := h.2 q
            refine v_aload_n C dX10_without_80 0 rfl ?_
            refine g_X10_draft C wd_360 dX10_without_81 ?_
            refine g_X1_posts C s_X1_5 wd_42 dX10_without_84 ?_
            refine v_aload_n C dX10_without_87 0 rfl ?_
            refine g_X10_draft C wd_360 dX10_without_88 ?_
            refine g_X1_lines C s_X1_5 wd_49 dX10_without_91 ?_
            refine v_isub C dX10_without_94 ?_
            refine v_aload_n C dX10_without_95 0 rfl ?_
            refine g_X10_draftTracing C wd_364 dX10_without_96 ?_
            refine g_X8_count C s_X8_27 wd_204 dX10_without_99 ?_
            refine v_iadd C dX10_without_102 ?_
            exact v_iret C R h dX10_without_103
          · have h := h.1 q
            refine v_aload_n C dX10_without_70 0 rfl ?_
            refine g_X10_draftTracing C wd_364 dX10_without_71 ?_
            refine g_X8_count C s_X8_27 wd_204 dX10_without_74 ?_
            refine v_goto C 103 dX10_without_77 (by decide) ?_
            exact v_iret C R h dX10_without_103
        · have h := h.1 q
          refine v_aload_n C dX10_without_47 0 rfl ?_
          refine g_X10_draft C wd_360 dX10_without_48 ?_
          refine v_calli C (rn_V C _ (m_X1_countParts s_X1_5 h) mf_X1_countParts wd_738 wd_739 wd_910 rfl rfl ⟨(Nat.le_of_ble_eq_true rfl), (Nat.le_of_ble_eq_true rfl)⟩ s_X1_5.1 rfl rfl rfl (Nat.le_of_ble_eq_true rfl) dX10_without_51) (fun r w h => ?_)
          exact v_iret C R h dX10_without_54
      · have h := h.2 q
        refine v_ldc C (-100000) wd_911 (by decide) dX10_without_20 ?_
        exact v_iret C R h dX10_without_22
abbrev rm_X10_beside : Room := { frames := 5, cells := 0, slots := 0, locals := 114 }
theorem mf_X10_beside : MfB yX10_beside cX10_beside 3 (some .int) 1 := ⟨wd_982, wd_1, by decide, by decide, by decide +kernel⟩
def X10_beside (x1 : Int) (w : Wd) (Q : Int → Wd → Prop) : Prop := X10_freshTracing w (fun w1 => X8_hasFace 17 x1 w1 (fun y3 w2 => ((wr y3 = 0 → Q (wr (-1)) w2) ∧ (¬ wr y3 = 0 → (ix x1 16 ∧ Q (wr (rd w2 19 x1)) w2)))))
theorem m_X10_beside {Z : Zw} {l : Launch} {x1 : Int} {w : Wd} {Q : Int → Wd → Prop} (h : X10_beside x1 w Q) : CtQ Z l yX10_beside cX10_beside 3 (some .int) rm_X10_beside [rv Z 0, iv x1] w (qI Z Q) := by
  refine ct_of (by decide) (Nat.le_of_ble_eq_true rfl) (fun E eE C R => ?_)
  subst eE
  have C : Cx Z (adA Z) E cX10_beside "HandleFaces" 3 rm_X10_beside := C
  unfold X10_beside at h
  show V Z (adA Z) E 3 w 0 [(0, rv Z 0), (1, iv x1)] []
  refine v_aload_n C dX10_beside_0 0 rfl ?_
  refine v_callr C (rn_V C _ (m_X10_freshTracing h) mf_X10_freshTracing wd_787 wp_26 wd_785 rfl rfl ⟨(Nat.le_of_ble_eq_true rfl), (Nat.le_of_ble_eq_true rfl)⟩ rfl rfl rfl rfl (Nat.le_of_ble_eq_true rfl) dX10_beside_1) (fun k w h => ?_)
  obtain ⟨rfl, h⟩ := h
  refine v_astore_n C [(2, _), (0, _), (1, _)] dX10_beside_4 2 rfl (by decide) rfl ?_
  refine v_aload_n C dX10_beside_5 0 rfl ?_
  refine v_iload_n C dX10_beside_6 2 rfl ?_
  refine v_calli C (rn_V C _ (m_X8_hasFace s17 h) mf_X8_hasFace wd_895 wd_896 wd_894 rfl rfl ⟨(Nat.le_of_ble_eq_true rfl), (Nat.le_of_ble_eq_true rfl)⟩ s17.1 rfl rfl rfl (Nat.le_of_ble_eq_true rfl) dX10_beside_7) (fun r w h => ?_)
  refine v_if_eq C 22 dX10_beside_10 (by decide) (fun q => ?_) (fun q => ?_)
  · have h := h.1 q
    refine v_iconst C dX10_beside_22 ?_
    exact v_iret C R h dX10_beside_23
  · have h := h.2 q
    refine v_aload_n C dX10_beside_13 0 rfl ?_
    refine g_X8_neighbours C s17 wd_209 dX10_beside_14 ?_
    refine v_iload_n C dX10_beside_17 2 rfl ?_
    refine v_iald C s17.2.2.1 h.1 dX10_beside_18 ?_
    have h := h.2
    refine v_goto C 23 dX10_beside_19 (by decide) ?_
    exact v_iret C R h dX10_beside_23
abbrev rm_X10_colours : Room := { frames := 20, cells := 0, slots := 0, locals := 1199 }
theorem mf_X10_colours : MfB yX10_colours cX10_colours 2 (some .int) 0 := ⟨wd_986, wd_1, by decide, by decide, by decide +kernel⟩
def X10_colours (w : Wd) (Q : Int → Wd → Prop) : Prop := X10_freshTracing w (fun w1 => X8_oneSidedLines 17 (w1 1 1) w1 (fun y3 w2 => ((wr y3 = 0 → X0_fewest 17 w2 (fun y5 w4 => Q (wr y5) w4)) ∧ (¬ wr y3 = 0 → Q (wr (-2)) w2))))
theorem m_X10_colours {Z : Zw} {l : Launch} {w : Wd} {Q : Int → Wd → Prop} (h : X10_colours w Q) : CtQ Z l yX10_colours cX10_colours 2 (some .int) rm_X10_colours [rv Z 0] w (qI Z Q) := by
  refine ct_of (by decide) (Nat.le_of_ble_eq_true rfl) (fun E eE C R => ?_)
  subst eE
  have C : Cx Z (adA Z) E cX10_colours "HandleFaces" 2 rm_X10_colours := C
  unfold X10_colours at h
  show V Z (adA Z) E 2 w 0 [(0, rv Z 0)] []
  refine v_aload_n C dX10_colours_0 0 rfl ?_
  refine v_callr C (rn_V C _ (m_X10_freshTracing h) mf_X10_freshTracing wd_787 wp_26 wd_785 rfl rfl ⟨(Nat.le_of_ble_eq_true rfl), (Nat.le_of_ble_eq_true rfl)⟩ rfl rfl rfl rfl (Nat.le_of_ble_eq_true rfl) dX10_colours_1) (fun k w h => ?_)
  obtain ⟨rfl, h⟩ := h
  refine v_astore_n C [(1, _), (0, _)] dX10_colours_4 1 rfl (by decide) rfl ?_
  refine v_aload_n C dX10_colours_5 0 rfl ?_
  refine v_aload_n C dX10_colours_6 1 rfl ?_
  refine g_X10_drawing C wd_359 dX10_colours_7 ?_
  refine g_X1_lines C s_X1_1 wd_49 dX10_colours_10 ?_
  refine v_calli C (rn_V C _ (m_X8_oneSidedLines s17 h) mf_X8_oneSidedLines wd_833 wd_834 wd_832 rfl rfl ⟨(Nat.le_of_ble_eq_true rfl), (Nat.le_of_ble_eq_true rfl)⟩ s17.1 rfl rfl rfl (Nat.le_of_ble_eq_true rfl) dX10_colours_13) (fun r w h => ?_)
  refine v_if_eq C 22 dX10_colours_16 (by decide) (fun q => ?_) (fun q => ?_)
  · have h := h.1 q
    refine v_aload_n C dX10_colours_22 1 rfl ?_
    refine g_X10_colouring C wd_369 dX10_colours_23 ?_
    refine v_aload_n C dX10_colours_26 0 rfl ?_
    refine v_calli C (rn_V C _ (m_X0_fewest s17 h) mf_X0_fewest wd_988 wd_989 wd_987 rfl rfl ⟨(Nat.le_of_ble_eq_true rfl), (Nat.le_of_ble_eq_true rfl)⟩ rfl rfl rfl rfl (Nat.le_of_ble_eq_true rfl) dX10_colours_27) (fun r w h => ?_)
    exact v_iret C R h dX10_colours_30
  · have h := h.2 q
    refine v_bipush C dX10_colours_19 (by decide) ?_
    exact v_iret C R h dX10_colours_21
abbrev rm_X10_holdsSlot : Room := { frames := 0, cells := 0, slots := 0, locals := 0 }
theorem mf_X10_holdsSlot : MfB yX10_holdsSlot cX10_holdsSlot 2 (some .boolean) 1 := ⟨wd_1005, wd_1, by decide, by decide, by decide +kernel⟩
def X10_holdsSlot_b24 (Q : Int → Wd → Prop) (w : Wd) : Prop := Q 0 w
theorem t_X10_holdsSlot_b24 {Z : Zw} {E : Amb} {Q : Int → Wd → Prop} (C : Cx Z (adA Z) E cX10_holdsSlot "HandleFaces" 2 rm_X10_holdsSlot) (R : Rt Z E (some .boolean) (qI Z Q)) : ∀ (w : Wd), X10_holdsSlot_b24 Q w → V Z (adA Z) E 2 w 24 [] [] := by
  intro w h
  unfold X10_holdsSlot_b24 at h
  refine v_iconst C dX10_holdsSlot_24 ?_
  exact v_zret C R (Or.inl rfl) h dX10_holdsSlot_25
def X10_holdsSlot (x1 : Int) (w : Wd) (Q : Int → Wd → Prop) : Prop := ((wr x1 < 0 → X10_holdsSlot_b24 Q w) ∧ (¬ wr x1 < 0 → ((wr 3 ≤ wr x1 → X10_holdsSlot_b24 Q w) ∧ (¬ wr 3 ≤ wr x1 → ((wr (ian (isr (w 0 15) x1) 1) = 0 → X10_holdsSlot_b24 Q w) ∧ (¬ wr (ian (isr (w 0 15) x1) 1) = 0 → Q 1 w))))))
theorem m_X10_holdsSlot {Z : Zw} {l : Launch} {x1 : Int} {w : Wd} {Q : Int → Wd → Prop} (h : X10_holdsSlot x1 w Q) : CtQ Z l yX10_holdsSlot cX10_holdsSlot 2 (some .boolean) rm_X10_holdsSlot [rv Z 0, iv x1] w (qI Z Q) := by
  refine ct_of (by decide) (Nat.le_of_ble_eq_true rfl) (fun E eE C R => ?_)
  subst eE
  have C : Cx Z (adA Z) E cX10_holdsSlot "HandleFaces" 2 rm_X10_holdsSlot := C
  unfold X10_holdsSlot at h
  show V Z (adA Z) E 2 w 0 [(0, rv Z 0), (1, iv x1)] []
  refine v_iload_n C dX10_holdsSlot_0 1 rfl ?_
  refine v_if_lt C 24 dX10_holdsSlot_1 (by decide) (fun q => ?_) (fun q => ?_)
  · have h := h.1 q
    refine v_sub [] rfl ?_
    exact t_X10_holdsSlot_b24 C R _ h
  · have h := h.2 q
    refine v_iload_n C dX10_holdsSlot_4 1 rfl ?_
    refine v_iconst C dX10_holdsSlot_5 ?_
    refine v_icmp_ge C 24 dX10_holdsSlot_6 (by decide) (fun q => ?_) (fun q => ?_)
    · have h := h.1 q
      refine v_sub [] rfl ?_
      exact t_X10_holdsSlot_b24 C R _ h
    · have h := h.2 q
      refine v_aload_n C dX10_holdsSlot_9 0 rfl ?_
      refine g_X10_slotsHeld C wd_374 dX10_holdsSlot_10 ?_
      refine v_iload_n C dX10_holdsSlot_13 1 rfl ?_
      refine v_ishr C dX10_holdsSlot_14 ?_
      refine v_iconst C dX10_holdsSlot_15 ?_
      refine v_iand C dX10_holdsSlot_16 ?_
      refine v_if_eq C 24 dX10_holdsSlot_17 (by decide) (fun q => ?_) (fun q => ?_)
      · have h := h.1 q
        refine v_sub [] rfl ?_
        exact t_X10_holdsSlot_b24 C R _ h
      · have h := h.2 q
        refine v_iconst C dX10_holdsSlot_20 ?_
        refine v_goto C 25 dX10_holdsSlot_21 (by decide) ?_
        exact v_zret C R (Or.inr rfl) h dX10_holdsSlot_25
abbrev rm_X10_like : Room := { frames := 4, cells := 0, slots := 0, locals := 96 }
theorem mf_X10_like : MfB yX10_like cX10_like 2 (some .int) 1 := ⟨wd_1001, wd_1, by decide, by decide, by decide +kernel⟩
def X10_like (x1 : Int) (w : Wd) (Q : Int → Wd → Prop) : Prop := X10_holdsSlot x1 w (fun y2 w1 => ((wr y2 = 0 → Q (wr (-1)) w1) ∧ (¬ wr y2 = 0 → X7_fetch 63 5 x1 w1 (fun w3 => X2_waysBetween 1 5 w3 (fun y5 w4 => Q (wr y5) w4)))))
theorem m_X10_like {Z : Zw} {l : Launch} {x1 : Int} {w : Wd} {Q : Int → Wd → Prop} (h : X10_like x1 w Q) : CtQ Z l yX10_like cX10_like 2 (some .int) rm_X10_like [rv Z 0, iv x1] w (qI Z Q) := by
  refine ct_of (by decide) (Nat.le_of_ble_eq_true rfl) (fun E eE C R => ?_)
  subst eE
  have C : Cx Z (adA Z) E cX10_like "HandleFaces" 2 rm_X10_like := C
  unfold X10_like at h
  show V Z (adA Z) E 2 w 0 [(0, rv Z 0), (1, iv x1)] []
  refine v_aload_n C dX10_like_0 0 rfl ?_
  refine v_iload_n C dX10_like_1 1 rfl ?_
  refine v_calli C (rn_V C _ (m_X10_holdsSlot h) mf_X10_holdsSlot wd_1004 wp_39 wd_1002 rfl rfl ⟨(Nat.le_of_ble_eq_true rfl), (Nat.le_of_ble_eq_true rfl)⟩ rfl rfl rfl rfl (Nat.le_of_ble_eq_true rfl) dX10_like_2) (fun r w h => ?_)
  refine v_if_ne C 10 dX10_like_5 (by decide) (fun q => ?_) (fun q => ?_)
  · have h := h.2 q
    refine v_aload_n C dX10_like_10 0 rfl ?_
    refine g_X10_slots C wd_371 dX10_like_11 ?_
    refine v_iload_n C dX10_like_14 1 rfl ?_
    refine v_aload_n C dX10_like_15 0 rfl ?_
    refine g_X10_draft C wd_360 dX10_like_16 ?_
    refine v_callv C (rn_V C _ (m_X7_fetch s_X7_63 s_X1_5 h) mf_X7_fetch wd_877 wd_878 wd_876 rfl rfl ⟨(Nat.le_of_ble_eq_true rfl), (Nat.le_of_ble_eq_true rfl)⟩ s_X7_63.1 rfl rfl rfl (Nat.le_of_ble_eq_true rfl) dX10_like_19) (fun w h => ?_)
    refine v_aload_n C dX10_like_22 0 rfl ?_
    refine g_X10_likeness C wd_368 dX10_like_23 ?_
    refine v_aload_n C dX10_like_26 0 rfl ?_
    refine g_X10_drawing C wd_359 dX10_like_27 ?_
    refine v_aload_n C dX10_like_30 0 rfl ?_
    refine g_X10_draft C wd_360 dX10_like_31 ?_
    refine v_calli C (rn_V C _ (m_X2_waysBetween s_X1_1 s_X1_5 h) mf_X2_waysBetween wd_1007 wd_1008 wd_1006 rfl rfl ⟨(Nat.le_of_ble_eq_true rfl), (Nat.le_of_ble_eq_true rfl)⟩ rfl rfl rfl rfl (Nat.le_of_ble_eq_true rfl) dX10_like_34) (fun r w h => ?_)
    exact v_iret C R h dX10_like_37
  · have h := h.1 q
    refine v_iconst C dX10_like_8 ?_
    exact v_iret C R h dX10_like_9
abbrev rm_X10_hold : Room := { frames := 2, cells := 0, slots := 0, locals := 63 }
theorem mf_X10_hold : MfB yX10_hold cX10_hold 2 (some .boolean) 1 := ⟨wd_1033, wd_1, by decide, by decide, by decide +kernel⟩
def X10_hold (x1 : Int) (w : Wd) (Q : Int → Wd → Prop) : Prop := ((wr x1 < 0 → Q 0 w) ∧ (¬ wr x1 < 0 → ((wr x1 < wr 3 → X7_store 63 1 x1 w (fun w1 => (∀ w2, w2 = up w1 0 15 (ior (w1 0 15) (isl 1 x1)) → Q 1 w2))) ∧ (¬ wr x1 < wr 3 → Q 0 w))))
theorem m_X10_hold {Z : Zw} {l : Launch} {x1 : Int} {w : Wd} {Q : Int → Wd → Prop} (h : X10_hold x1 w Q) : CtQ Z l yX10_hold cX10_hold 2 (some .boolean) rm_X10_hold [rv Z 0, iv x1] w (qI Z Q) := by
  refine ct_of (by decide) (Nat.le_of_ble_eq_true rfl) (fun E eE C R => ?_)
  subst eE
  have C : Cx Z (adA Z) E cX10_hold "HandleFaces" 2 rm_X10_hold := C
  unfold X10_hold at h
  show V Z (adA Z) E 2 w 0 [(0, rv Z 0), (1, iv x1)] []
  refine v_iload_n C dX10_hold_0 1 rfl ?_
  refine v_if_lt C 9 dX10_hold_1 (by decide) (fun q => ?_) (fun q => ?_)
  · have h := h.1 q
    refine v_iconst C dX10_hold_9 ?_
    exact v_zret C R (Or.inl rfl) h dX10_hold_10
  · have h := h.2 q
    refine v_iload_n C dX10_hold_4 1 rfl ?_
    refine v_iconst C dX10_hold_5 ?_
    refine v_icmp_lt C 11 dX10_hold_6 (by decide) (fun q => ?_) (fun q => ?_)
    · have h := h.1 q
      refine v_aload_n C dX10_hold_11 0 rfl ?_
      refine g_X10_slots C wd_371 dX10_hold_12 ?_
      refine v_iload_n C dX10_hold_15 1 rfl ?_
      refine v_aload_n C dX10_hold_16 0 rfl ?_
      refine g_X10_drawing C wd_359 dX10_hold_17 ?_
      refine v_callv C (rn_V C _ (m_X7_store s_X7_63 s_X1_1 h) mf_X7_store wd_616 wd_617 wd_615 rfl rfl ⟨(Nat.le_of_ble_eq_true rfl), (Nat.le_of_ble_eq_true rfl)⟩ s_X7_63.1 rfl rfl rfl (Nat.le_of_ble_eq_true rfl) dX10_hold_20) (fun w h => ?_)
      refine v_aload_n C dX10_hold_23 0 rfl ?_
      refine v_dup C dX10_hold_24 rfl ?_
      refine g_X10_slotsHeld C wd_374 dX10_hold_25 ?_
      refine v_iconst C dX10_hold_28 ?_
      refine v_iload_n C dX10_hold_29 1 rfl ?_
      refine v_ishl C dX10_hold_30 ?_
      refine v_ior C dX10_hold_31 ?_
      refine p_X10_slotsHeld C wd_374 dX10_hold_32 ?_
      have h := h _ rfl
      refine v_iconst C dX10_hold_35 ?_
      exact v_zret C R (Or.inr rfl) h dX10_hold_36
    · have h := h.2 q
      refine v_iconst C dX10_hold_9 ?_
      exact v_zret C R (Or.inl rfl) h dX10_hold_10
abbrev rm_X10_restore : Room := { frames := 2, cells := 0, slots := 0, locals := 63 }
theorem mf_X10_restore : MfB yX10_restore cX10_restore 2 (some .boolean) 1 := ⟨wd_1037, wd_1, by decide, by decide, by decide +kernel⟩
def X10_restore (x1 : Int) (w : Wd) (Q : Int → Wd → Prop) : Prop := X10_holdsSlot x1 w (fun y2 w1 => ((wr y2 = 0 → Q 0 w1) ∧ (¬ wr y2 = 0 → X7_fetch 63 1 x1 w1 (fun w3 => X10_forgetPast w3 (fun w4 => (∀ w5, w5 = up w4 0 17 0 → Q 1 w5))))))
theorem m_X10_restore {Z : Zw} {l : Launch} {x1 : Int} {w : Wd} {Q : Int → Wd → Prop} (h : X10_restore x1 w Q) : CtQ Z l yX10_restore cX10_restore 2 (some .boolean) rm_X10_restore [rv Z 0, iv x1] w (qI Z Q) := by
  refine ct_of (by decide) (Nat.le_of_ble_eq_true rfl) (fun E eE C R => ?_)
  subst eE
  have C : Cx Z (adA Z) E cX10_restore "HandleFaces" 2 rm_X10_restore := C
  unfold X10_restore at h
  show V Z (adA Z) E 2 w 0 [(0, rv Z 0), (1, iv x1)] []
  refine v_aload_n C dX10_restore_0 0 rfl ?_
  refine v_iload_n C dX10_restore_1 1 rfl ?_
  refine v_calli C (rn_V C _ (m_X10_holdsSlot h) mf_X10_holdsSlot wd_1004 wp_39 wd_1002 rfl rfl ⟨(Nat.le_of_ble_eq_true rfl), (Nat.le_of_ble_eq_true rfl)⟩ rfl rfl rfl rfl (Nat.le_of_ble_eq_true rfl) dX10_restore_2) (fun r w h => ?_)
  refine v_if_ne C 10 dX10_restore_5 (by decide) (fun q => ?_) (fun q => ?_)
  · have h := h.2 q
    refine v_aload_n C dX10_restore_10 0 rfl ?_
    refine g_X10_slots C wd_371 dX10_restore_11 ?_
    refine v_iload_n C dX10_restore_14 1 rfl ?_
    refine v_aload_n C dX10_restore_15 0 rfl ?_
    refine g_X10_drawing C wd_359 dX10_restore_16 ?_
    refine v_callv C (rn_V C _ (m_X7_fetch s_X7_63 s_X1_1 h) mf_X7_fetch wd_877 wd_878 wd_876 rfl rfl ⟨(Nat.le_of_ble_eq_true rfl), (Nat.le_of_ble_eq_true rfl)⟩ s_X7_63.1 rfl rfl rfl (Nat.le_of_ble_eq_true rfl) dX10_restore_19) (fun w h => ?_)
    refine v_aload_n C dX10_restore_22 0 rfl ?_
    refine v_callv C (rn_V C _ (m_X10_forgetPast h) mf_X10_forgetPast wd_592 wp_16 wd_590 rfl rfl ⟨(Nat.le_of_ble_eq_true rfl), (Nat.le_of_ble_eq_true rfl)⟩ rfl rfl rfl rfl (Nat.le_of_ble_eq_true rfl) dX10_restore_23) (fun w h => ?_)
    refine v_aload_n C dX10_restore_26 0 rfl ?_
    refine v_iconst C dX10_restore_27 ?_
    refine p_X10_traced C (Or.inl rfl) wd_376 dX10_restore_28 ?_
    have h := h _ rfl
    refine v_iconst C dX10_restore_31 ?_
    exact v_zret C R (Or.inr rfl) h dX10_restore_32
  · have h := h.1 q
    refine v_iconst C dX10_restore_8 ?_
    exact v_zret C R (Or.inl rfl) h dX10_restore_9
abbrev rm_X10_count : Room := { frames := 10, cells := 0, slots := 0, locals := 562 }
theorem mf_X10_count : MfB yX10_count cX10_count 2 (some .int) 1 := ⟨wd_1041, wd_1, by decide, by decide, by decide +kernel⟩
def X10_count (x1 : Int) (w : Wd) (Q : Int → Wd → Prop) : Prop := (∀ t1, t1 = wr x1 → ((t1 = 0 → Q (wr (w 1 0)) w) ∧ (t1 = 1 → Q (wr (w 1 1)) w) ∧ (t1 = 2 → X10_freshTracing w (fun w2 => Q (wr (w2 17 0)) w2)) ∧ (t1 = 3 → Q (wr (w 1 2)) w) ∧ (t1 = 4 → X10_freshTracing w (fun w3 => X8_greatestLength 17 w3 (fun y5 w4 => Q (wr y5) w4))) ∧ (t1 = 5 → X10_freshTracing w (fun w6 => X8_leastLength 17 w6 (fun y8 w7 => Q (wr y8) w7))) ∧ (t1 = 6 → X10_freshTracing w (fun w9 => X8_oneSidedLines 17 (w9 1 1) w9 (fun y11 w10 => Q (wr y11) w10))) ∧ (t1 = 7 → X5_search 1 w (fun w12 => Q (wr (w12 49 0)) w12)) ∧ (t1 = 8 → X2_waysBetween 1 1 w (fun y14 w13 => Q (wr y14) w13)) ∧ (t1 = 9 → Q (wr (w 9 0)) w) ∧ (t1 = 10 → Q (wr (w 0 14)) w) ∧ (t1 = 11 → J6_bitCount_0f7a4 (w 0 15) w (fun y16 w15 => Q (wr y16) w15)) ∧ (t1 = 12 → X9_straightOnes 37 1 w (fun y18 w17 => Q (wr y18) w17)) ∧ (t1 < 0 ∨ 12 < t1 → Q (wr (-1)) w)))
theorem m_X10_count {Z : Zw} {l : Launch} {x1 : Int} {w : Wd} {Q : Int → Wd → Prop} (h : X10_count x1 w Q) : CtQ Z l yX10_count cX10_count 2 (some .int) rm_X10_count [rv Z 0, iv x1] w (qI Z Q) := by
  refine ct_of (by decide) (Nat.le_of_ble_eq_true rfl) (fun E eE C R => ?_)
  subst eE
  have C : Cx Z (adA Z) E cX10_count "HandleFaces" 2 rm_X10_count := C
  unfold X10_count at h
  show V Z (adA Z) E 2 w 0 [(0, rv Z 0), (1, iv x1)] []
  refine v_iload_n C dX10_count_0 1 rfl ?_
  refine v_tabX (fun x hx => ?_)
  have h := h x hx.symm
  by_cases q0 : x = 0
  · have h := h.1 q0
    refine v_tabIn C 68 dX10_count_1 0 (hx.trans q0) (by decide) (by decide) rfl (by decide) ?_
    refine v_aload_n C dX10_count_68 0 rfl ?_
    refine g_X10_drawing C wd_359 dX10_count_69 ?_
    refine g_X1_posts C s_X1_1 wd_42 dX10_count_72 ?_
    exact v_iret C R h dX10_count_75
  by_cases q1 : x = 1
  · have h := h.2.1 q1
    refine v_tabIn C 76 dX10_count_1 1 (hx.trans q1) (by decide) (by decide) rfl (by decide) ?_
    refine v_aload_n C dX10_count_76 0 rfl ?_
    refine g_X10_drawing C wd_359 dX10_count_77 ?_
    refine g_X1_lines C s_X1_1 wd_49 dX10_count_80 ?_
    exact v_iret C R h dX10_count_83
  by_cases q2 : x = 2
  · have h := h.2.2.1 q2
    refine v_tabIn C 84 dX10_count_1 2 (hx.trans q2) (by decide) (by decide) rfl (by decide) ?_
    refine v_aload_n C dX10_count_84 0 rfl ?_
    refine v_callr C (rn_V C _ (m_X10_freshTracing h) mf_X10_freshTracing wd_787 wp_26 wd_785 rfl rfl ⟨(Nat.le_of_ble_eq_true rfl), (Nat.le_of_ble_eq_true rfl)⟩ rfl rfl rfl rfl (Nat.le_of_ble_eq_true rfl) dX10_count_85) (fun k w h => ?_)
    obtain ⟨rfl, h⟩ := h
    refine g_X8_count C s17 wd_204 dX10_count_88 ?_
    exact v_iret C R h dX10_count_91
  by_cases q3 : x = 3
  · have h := h.2.2.2.1 q3
    refine v_tabIn C 92 dX10_count_1 3 (hx.trans q3) (by decide) (by decide) rfl (by decide) ?_
    refine v_aload_n C dX10_count_92 0 rfl ?_
    refine g_X10_drawing C wd_359 dX10_count_93 ?_
    refine g_X1_twists C s_X1_1 wd_55 dX10_count_96 ?_
    exact v_iret C R h dX10_count_99
  by_cases q4 : x = 4
  · have h := h.2.2.2.2.1 q4
    refine v_tabIn C 100 dX10_count_1 4 (hx.trans q4) (by decide) (by decide) rfl (by decide) ?_
    refine v_aload_n C dX10_count_100 0 rfl ?_
    refine v_callr C (rn_V C _ (m_X10_freshTracing h) mf_X10_freshTracing wd_787 wp_26 wd_785 rfl rfl ⟨(Nat.le_of_ble_eq_true rfl), (Nat.le_of_ble_eq_true rfl)⟩ rfl rfl rfl rfl (Nat.le_of_ble_eq_true rfl) dX10_count_101) (fun k w h => ?_)
    obtain ⟨rfl, h⟩ := h
    refine v_calli C (rn_V C _ (m_X8_greatestLength s17 h) mf_X8_greatestLength wd_1043 wd_1044 wd_1042 rfl rfl ⟨(Nat.le_of_ble_eq_true rfl), (Nat.le_of_ble_eq_true rfl)⟩ s17.1 rfl rfl rfl (Nat.le_of_ble_eq_true rfl) dX10_count_104) (fun r w h => ?_)
    exact v_iret C R h dX10_count_107
  by_cases q5 : x = 5
  · have h := h.2.2.2.2.2.1 q5
    refine v_tabIn C 108 dX10_count_1 5 (hx.trans q5) (by decide) (by decide) rfl (by decide) ?_
    refine v_aload_n C dX10_count_108 0 rfl ?_
    refine v_callr C (rn_V C _ (m_X10_freshTracing h) mf_X10_freshTracing wd_787 wp_26 wd_785 rfl rfl ⟨(Nat.le_of_ble_eq_true rfl), (Nat.le_of_ble_eq_true rfl)⟩ rfl rfl rfl rfl (Nat.le_of_ble_eq_true rfl) dX10_count_109) (fun k w h => ?_)
    obtain ⟨rfl, h⟩ := h
    refine v_calli C (rn_V C _ (m_X8_leastLength s17 h) mf_X8_leastLength wd_1048 wd_1049 wd_1047 rfl rfl ⟨(Nat.le_of_ble_eq_true rfl), (Nat.le_of_ble_eq_true rfl)⟩ s17.1 rfl rfl rfl (Nat.le_of_ble_eq_true rfl) dX10_count_112) (fun r w h => ?_)
    exact v_iret C R h dX10_count_115
  by_cases q6 : x = 6
  · have h := h.2.2.2.2.2.2.1 q6
    refine v_tabIn C 116 dX10_count_1 6 (hx.trans q6) (by decide) (by decide) rfl (by decide) ?_
    refine v_aload_n C dX10_count_116 0 rfl ?_
    refine v_callr C (rn_V C _ (m_X10_freshTracing h) mf_X10_freshTracing wd_787 wp_26 wd_785 rfl rfl ⟨(Nat.le_of_ble_eq_true rfl), (Nat.le_of_ble_eq_true rfl)⟩ rfl rfl rfl rfl (Nat.le_of_ble_eq_true rfl) dX10_count_117) (fun k w h => ?_)
    obtain ⟨rfl, h⟩ := h
    refine v_aload_n C dX10_count_120 0 rfl ?_
    refine g_X10_drawing C wd_359 dX10_count_121 ?_
    refine g_X1_lines C s_X1_1 wd_49 dX10_count_124 ?_
    refine v_calli C (rn_V C _ (m_X8_oneSidedLines s17 h) mf_X8_oneSidedLines wd_833 wd_834 wd_832 rfl rfl ⟨(Nat.le_of_ble_eq_true rfl), (Nat.le_of_ble_eq_true rfl)⟩ s17.1 rfl rfl rfl (Nat.le_of_ble_eq_true rfl) dX10_count_127) (fun r w h => ?_)
    exact v_iret C R h dX10_count_130
  by_cases q7 : x = 7
  · have h := h.2.2.2.2.2.2.2.1 q7
    refine v_tabIn C 131 dX10_count_1 7 (hx.trans q7) (by decide) (by decide) rfl (by decide) ?_
    refine v_aload_n C dX10_count_131 0 rfl ?_
    refine g_X10_rings C wd_367 dX10_count_132 ?_
    refine v_aload_n C dX10_count_135 0 rfl ?_
    refine g_X10_drawing C wd_359 dX10_count_136 ?_
    refine v_callv C (rn_V C _ (m_X5_search s_X1_1 h) mf_X5_search wd_963 wd_964 wd_962 rfl rfl ⟨(Nat.le_of_ble_eq_true rfl), (Nat.le_of_ble_eq_true rfl)⟩ rfl rfl rfl rfl (Nat.le_of_ble_eq_true rfl) dX10_count_139) (fun w h => ?_)
    refine v_aload_n C dX10_count_142 0 rfl ?_
    refine g_X10_rings C wd_367 dX10_count_143 ?_
    refine g_X5_count C wd_295 dX10_count_146 ?_
    exact v_iret C R h dX10_count_149
  by_cases q8 : x = 8
  · have h := h.2.2.2.2.2.2.2.2.1 q8
    refine v_tabIn C 150 dX10_count_1 8 (hx.trans q8) (by decide) (by decide) rfl (by decide) ?_
    refine v_aload_n C dX10_count_150 0 rfl ?_
    refine g_X10_likeness C wd_368 dX10_count_151 ?_
    refine v_aload_n C dX10_count_154 0 rfl ?_
    refine g_X10_drawing C wd_359 dX10_count_155 ?_
    refine v_aload_n C dX10_count_158 0 rfl ?_
    refine g_X10_drawing C wd_359 dX10_count_159 ?_
    refine v_calli C (rn_V C _ (m_X2_waysBetween s_X1_1 s_X1_1 h) mf_X2_waysBetween wd_1007 wd_1008 wd_1006 rfl rfl ⟨(Nat.le_of_ble_eq_true rfl), (Nat.le_of_ble_eq_true rfl)⟩ rfl rfl rfl rfl (Nat.le_of_ble_eq_true rfl) dX10_count_162) (fun r w h => ?_)
    exact v_iret C R h dX10_count_165
  by_cases q9 : x = 9
  · have h := h.2.2.2.2.2.2.2.2.2.1 q9
    refine v_tabIn C 166 dX10_count_1 9 (hx.trans q9) (by decide) (by decide) rfl (by decide) ?_
    refine v_aload_n C dX10_count_166 0 rfl ?_
    refine g_X10_scanner C wd_361 dX10_count_167 ?_
    refine g_X6_length C wd_94 dX10_count_170 ?_
    exact v_iret C R h dX10_count_173
  by_cases q10 : x = 10
  · have h := h.2.2.2.2.2.2.2.2.2.2.1 q10
    refine v_tabIn C 174 dX10_count_1 10 (hx.trans q10) (by decide) (by decide) rfl (by decide) ?_
    refine v_aload_n C dX10_count_174 0 rfl ?_
    refine g_X10_pastCount C wd_373 dX10_count_175 ?_
    exact v_iret C R h dX10_count_178
  by_cases q11 : x = 11
  · have h := h.2.2.2.2.2.2.2.2.2.2.2.1 q11
    refine v_tabIn C 179 dX10_count_1 11 (hx.trans q11) (by decide) (by decide) rfl (by decide) ?_
    refine v_aload_n C dX10_count_179 0 rfl ?_
    refine g_X10_slotsHeld C wd_374 dX10_count_180 ?_
    refine v_calli C (rn_S C _ (m_J6_bitCount_0f7a4 h) mf_J6_bitCount_0f7a4 wd_940 wd_1052 rfl rfl ⟨(Nat.le_of_ble_eq_true rfl), (Nat.le_of_ble_eq_true rfl)⟩ rfl rfl (Nat.le_of_ble_eq_true rfl) dX10_count_183) (fun r w h => ?_)
    exact v_iret C R h dX10_count_186
  by_cases q12 : x = 12
  · have h := h.2.2.2.2.2.2.2.2.2.2.2.2.1 q12
    refine v_tabIn C 187 dX10_count_1 12 (hx.trans q12) (by decide) (by decide) rfl (by decide) ?_
    refine v_aload_n C dX10_count_187 0 rfl ?_
    refine g_X10_walker C wd_365 dX10_count_188 ?_
    refine v_aload_n C dX10_count_191 0 rfl ?_
    refine g_X10_drawing C wd_359 dX10_count_192 ?_
    refine v_calli C (rn_V C _ (m_X9_straightOnes s_X9_37 s_X1_1 h) mf_X9_straightOnes wd_1054 wd_1055 wd_1053 rfl rfl ⟨(Nat.le_of_ble_eq_true rfl), (Nat.le_of_ble_eq_true rfl)⟩ s_X9_37.1 rfl rfl rfl (Nat.le_of_ble_eq_true rfl) dX10_count_195) (fun r w h => ?_)
    exact v_iret C R h dX10_count_198
  have q : x < 0 ∨ 12 < x := by omega
  have h := h.2.2.2.2.2.2.2.2.2.2.2.2.2 q
  refine v_tabOut C 199 dX10_count_1 (by rw [hx]; exact q) (by decide) ?_
  refine v_iconst C dX10_count_199 ?_
  exact v_iret C R h dX10_count_200
