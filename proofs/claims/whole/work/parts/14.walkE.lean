abbrev rm_X11_lays : Room := { frames := 0, cells := 0, slots := 0, locals := 0 }
theorem mf_X11_lays : MfB yX11_lays cX11_lays 3 none 1 := ⟨wd_1208, wd_13, by decide, by decide, by decide +kernel⟩
def X11_lays_l3 (Q : Wd → Prop) (e36 : Wd → Prop) : Nat → Int → Int → Wd → Prop
  | 0 => fun _ _ _ => False
  | n + 1 => fun x1 x2 w => ((wr x2 < 0 → e36 w) ∧ (¬ wr x2 < 0 → (ix (w 65 2) 2000 ∧ (∀ w1, w1 = wt w 66 (w 65 2) (iby (isr x1 x2)) → (∀ w2, w2 = up w1 65 2 ((w1 65 2) + 1) → (X11_lays_l3 Q e36 n) x1 (x2 + (-8)) w2)))))
theorem t_X11_lays_l3 {Z : Zw} {E : Amb} {Q : Wd → Prop} {e36 : Wd → Prop} (C : Cx Z (adA Z) E cX11_lays "HandleFacesModel" 3 rm_X11_lays) (R : Rt Z E none (qV Z Q)) (he36 : ∀ (w : Wd), e36 w → V Z (adA Z) E 3 w 36 [] []) : ∀ (n : Nat) (x1 : Int) (x2 : Int) (w : Wd), X11_lays_l3 Q e36 n x1 x2 w → V Z (adA Z) E 3 w 3 [(0, rv Z 65), (1, iv x1), (2, iv x2)] [] := by
  intro n
  induction n with
  | zero => intro x1 x2 w h; exact h.elim
  | succ n ih =>
    intro x1 x2 w h
    unfold X11_lays_l3 at h
    refine v_iload_n C dX11_lays_3 2 rfl ?_
    refine v_if_lt C 36 dX11_lays_4 (by decide) (fun q => ?_) (fun q => ?_)
    · have h := h.1 q
      refine v_sub [] rfl ?_
      exact he36 _ h
    · have h := h.2 q
      refine v_aload_n C dX11_lays_7 0 rfl ?_
      refine g_X11_tape C wd_1071 dX11_lays_8 ?_
      refine v_aload_n C dX11_lays_11 0 rfl ?_
      refine g_X11_taped C wd_1072 dX11_lays_12 ?_
      refine v_iload_n C dX11_lays_15 1 rfl ?_
      refine v_iload_n C dX11_lays_16 2 rfl ?_
      refine v_ishr C dX11_lays_17 ?_
      refine v_i2b C dX11_lays_18 ?_
      refine v_bast C rfl h.1 (nb_iby _) dX11_lays_19 ?_
      have h := h.2
      have h := h _ rfl
      refine v_aload_n C dX11_lays_20 0 rfl ?_
      refine v_dup C dX11_lays_21 rfl ?_
      refine g_X11_taped C wd_1072 dX11_lays_22 ?_
      refine v_iconst C dX11_lays_25 ?_
      refine v_iadd C dX11_lays_26 ?_
      refine p_X11_taped C wd_1072 dX11_lays_27 ?_
      have h := h _ rfl
      refine v_iinc C [(2, _), (0, _), (1, _)] dX11_lays_30 2 rfl (by decide) rfl ?_
      refine v_goto C 3 dX11_lays_33 (by decide) ?_
      refine v_sub [1, 2, 0] rfl ?_
      exact ih _ _ _ h
def X11_lays_b36 (Q : Wd → Prop) (w : Wd) : Prop := Q w
theorem t_X11_lays_b36 {Z : Zw} {E : Amb} {Q : Wd → Prop} (C : Cx Z (adA Z) E cX11_lays "HandleFacesModel" 3 rm_X11_lays) (R : Rt Z E none (qV Z Q)) : ∀ (w : Wd), X11_lays_b36 Q w → V Z (adA Z) E 3 w 36 [] [] := by
  intro w h
  unfold X11_lays_b36 at h
  exact v_ret C R h dX11_lays_36
def X11_lays (x1 : Int) (w : Wd) (Q : Wd → Prop) : Prop := (∃ m, X11_lays_l3 Q (X11_lays_b36 Q) m x1 24 w)
theorem m_X11_lays {Z : Zw} {l : Launch} {x1 : Int} {w : Wd} {Q : Wd → Prop} (h : X11_lays x1 w Q) : CtQ Z l yX11_lays cX11_lays 3 none rm_X11_lays [rv Z 65, iv x1] w (qV Z Q) := by
  refine ct_of (by decide) (Nat.le_of_ble_eq_true rfl) (fun E eE C R => ?_)
  subst eE
  have C : Cx Z (adA Z) E cX11_lays "HandleFacesModel" 3 rm_X11_lays := C
  unfold X11_lays at h
  show V Z (adA Z) E 3 w 0 [(0, rv Z 65), (1, iv x1)] []
  refine v_bipush C dX11_lays_0 (by decide) ?_
  refine v_istore_n C [(2, _), (0, _), (1, _)] dX11_lays_2 2 rfl (by decide) rfl ?_
  refine v_sub [1, 2, 0] rfl ?_
  obtain ⟨m, h⟩ := h
  exact t_X11_lays_l3 C R (t_X11_lays_b36 C R) m _ _ _ h
abbrev rm_X11_feed : Room := { frames := 1, cells := 0, slots := 0, locals := 22 }
theorem mf_X11_feed : MfB yX11_feed cX11_feed 6 (some .int) 5 := ⟨wd_1204, wd_13, by decide, by decide, by decide +kernel⟩
def X11_feed (x1 : Int) (x2 : Int) (x3 : Int) (x4 : Int) (x5 : Int) (w : Wd) (Q : Int → Wd → Prop) : Prop := ((wr ((w 65 2) + 20) ≤ wr 2000 → X11_lays x1 w (fun w1 => X11_lays x2 w1 (fun w2 => X11_lays x3 w2 (fun w3 => X11_lays x4 w3 (fun w4 => X11_lays x5 w4 (fun w5 => Q (wr (w5 65 2)) w5)))))) ∧ (¬ wr ((w 65 2) + 20) ≤ wr 2000 → Q (wr (-1)) w))
theorem m_X11_feed {Z : Zw} {l : Launch} {x1 : Int} {x2 : Int} {x3 : Int} {x4 : Int} {x5 : Int} {w : Wd} {Q : Int → Wd → Prop} (h : X11_feed x1 x2 x3 x4 x5 w Q) : CtQ Z l yX11_feed cX11_feed 6 (some .int) rm_X11_feed [rv Z 65, iv x1, iv x2, iv x3, iv x4, iv x5] w (qI Z Q) := by
  refine ct_of (by decide) (Nat.le_of_ble_eq_true rfl) (fun E eE C R => ?_)
  subst eE
  have C : Cx Z (adA Z) E cX11_feed "HandleFacesModel" 6 rm_X11_feed := C
  unfold X11_feed at h
  show V Z (adA Z) E 6 w 0 [(0, rv Z 65), (1, iv x1), (2, iv x2), (3, iv x3), (4, iv x4), (5, iv x5)] []
  refine v_aload_n C dX11_feed_0 0 rfl ?_
  refine g_X11_taped C wd_1072 dX11_feed_1 ?_
  refine v_bipush C dX11_feed_4 (by decide) ?_
  refine v_iadd C dX11_feed_6 ?_
  refine v_sipush C dX11_feed_7 (by decide) ?_
  refine v_icmp_le C 15 dX11_feed_10 (by decide) (fun q => ?_) (fun q => ?_)
  · have h := h.1 q
    refine v_aload_n C dX11_feed_15 0 rfl ?_
    refine v_iload_n C dX11_feed_16 1 rfl ?_
    refine v_callv C (rn_V C _ (m_X11_lays h) mf_X11_lays wd_1207 wp_42 wd_1205 rfl rfl ⟨(Nat.le_of_ble_eq_true rfl), (Nat.le_of_ble_eq_true rfl)⟩ rfl rfl rfl rfl (Nat.le_of_ble_eq_true rfl) dX11_feed_17) (fun w h => ?_)
    refine v_aload_n C dX11_feed_20 0 rfl ?_
    refine v_iload_n C dX11_feed_21 2 rfl ?_
    refine v_callv C (rn_V C _ (m_X11_lays h) mf_X11_lays wd_1207 wp_42 wd_1205 rfl rfl ⟨(Nat.le_of_ble_eq_true rfl), (Nat.le_of_ble_eq_true rfl)⟩ rfl rfl rfl rfl (Nat.le_of_ble_eq_true rfl) dX11_feed_22) (fun w h => ?_)
    refine v_aload_n C dX11_feed_25 0 rfl ?_
    refine v_iload_n C dX11_feed_26 3 rfl ?_
    refine v_callv C (rn_V C _ (m_X11_lays h) mf_X11_lays wd_1207 wp_42 wd_1205 rfl rfl ⟨(Nat.le_of_ble_eq_true rfl), (Nat.le_of_ble_eq_true rfl)⟩ rfl rfl rfl rfl (Nat.le_of_ble_eq_true rfl) dX11_feed_27) (fun w h => ?_)
    refine v_aload_n C dX11_feed_30 0 rfl ?_
    refine v_iload C dX11_feed_31 4 rfl ?_
    refine v_callv C (rn_V C _ (m_X11_lays h) mf_X11_lays wd_1207 wp_42 wd_1205 rfl rfl ⟨(Nat.le_of_ble_eq_true rfl), (Nat.le_of_ble_eq_true rfl)⟩ rfl rfl rfl rfl (Nat.le_of_ble_eq_true rfl) dX11_feed_33) (fun w h => ?_)
    refine v_aload_n C dX11_feed_36 0 rfl ?_
    refine v_iload C dX11_feed_37 5 rfl ?_
    refine v_callv C (rn_V C _ (m_X11_lays h) mf_X11_lays wd_1207 wp_42 wd_1205 rfl rfl ⟨(Nat.le_of_ble_eq_true rfl), (Nat.le_of_ble_eq_true rfl)⟩ rfl rfl rfl rfl (Nat.le_of_ble_eq_true rfl) dX11_feed_39) (fun w h => ?_)
    refine v_aload_n C dX11_feed_42 0 rfl ?_
    refine g_X11_taped C wd_1072 dX11_feed_43 ?_
    exact v_iret C R h dX11_feed_46
  · have h := h.2 q
    refine v_iconst C dX11_feed_13 ?_
    exact v_iret C R h dX11_feed_14
abbrev rm_X11_back : Room := { frames := 0, cells := 0, slots := 0, locals := 0 }
theorem mf_X11_back : MfB yX11_back cX11_back 2 (some .int) 1 := ⟨wd_1212, wd_13, by decide, by decide, by decide +kernel⟩
def X11_back (x1 : Int) (w : Wd) (Q : Int → Wd → Prop) : Prop := ((wr x1 < 0 → Q (wr (-1)) w) ∧ (¬ wr x1 < 0 → ((wr x1 ≤ wr (w 65 2) → (∀ w1, w1 = up w 65 2 ((w 65 2) - x1) → Q (wr (w1 65 2)) w1)) ∧ (¬ wr x1 ≤ wr (w 65 2) → Q (wr (-1)) w))))
theorem m_X11_back {Z : Zw} {l : Launch} {x1 : Int} {w : Wd} {Q : Int → Wd → Prop} (h : X11_back x1 w Q) : CtQ Z l yX11_back cX11_back 2 (some .int) rm_X11_back [rv Z 65, iv x1] w (qI Z Q) := by
  refine ct_of (by decide) (Nat.le_of_ble_eq_true rfl) (fun E eE C R => ?_)
  subst eE
  have C : Cx Z (adA Z) E cX11_back "HandleFacesModel" 2 rm_X11_back := C
  unfold X11_back at h
  show V Z (adA Z) E 2 w 0 [(0, rv Z 65), (1, iv x1)] []
  refine v_iload_n C dX11_back_0 1 rfl ?_
  refine v_if_lt C 12 dX11_back_1 (by decide) (fun q => ?_) (fun q => ?_)
  · have h := h.1 q
    refine v_iconst C dX11_back_12 ?_
    exact v_iret C R h dX11_back_13
  · have h := h.2 q
    refine v_iload_n C dX11_back_4 1 rfl ?_
    refine v_aload_n C dX11_back_5 0 rfl ?_
    refine g_X11_taped C wd_1072 dX11_back_6 ?_
    refine v_icmp_le C 14 dX11_back_9 (by decide) (fun q => ?_) (fun q => ?_)
    · have h := h.1 q
      refine v_aload_n C dX11_back_14 0 rfl ?_
      refine v_dup C dX11_back_15 rfl ?_
      refine g_X11_taped C wd_1072 dX11_back_16 ?_
      refine v_iload_n C dX11_back_19 1 rfl ?_
      refine v_isub C dX11_back_20 ?_
      refine p_X11_taped C wd_1072 dX11_back_21 ?_
      have h := h _ rfl
      refine v_aload_n C dX11_back_24 0 rfl ?_
      refine g_X11_taped C wd_1072 dX11_back_25 ?_
      exact v_iret C R h dX11_back_28
    · have h := h.2 q
      refine v_iconst C dX11_back_12 ?_
      exact v_iret C R h dX11_back_13
abbrev rm_X11_byteAt : Room := { frames := 0, cells := 0, slots := 0, locals := 0 }
theorem mf_X11_byteAt : MfB yX11_byteAt cX11_byteAt 2 (some .int) 1 := ⟨wd_1224, wd_13, by decide, by decide, by decide +kernel⟩
def X11_byteAt (x1 : Int) (w : Wd) (Q : Int → Wd → Prop) : Prop := ((wr (w 65 4) ≤ wr x1 → Q (wr 0) w) ∧ (¬ wr (w 65 4) ≤ wr x1 → (ix x1 2000 ∧ Q (wr (ian (rd w 67 x1) 255)) w)))
theorem m_X11_byteAt {Z : Zw} {l : Launch} {x1 : Int} {w : Wd} {Q : Int → Wd → Prop} (h : X11_byteAt x1 w Q) : CtQ Z l yX11_byteAt cX11_byteAt 2 (some .int) rm_X11_byteAt [rv Z 65, iv x1] w (qI Z Q) := by
  refine ct_of (by decide) (Nat.le_of_ble_eq_true rfl) (fun E eE C R => ?_)
  subst eE
  have C : Cx Z (adA Z) E cX11_byteAt "HandleFacesModel" 2 rm_X11_byteAt := C
  unfold X11_byteAt at h
  show V Z (adA Z) E 2 w 0 [(0, rv Z 65), (1, iv x1)] []
  refine v_iload_n C dX11_byteAt_0 1 rfl ?_
  refine v_aload_n C dX11_byteAt_1 0 rfl ?_
  refine g_X11_size C wd_1074 dX11_byteAt_2 ?_
  refine v_icmp_ge C 21 dX11_byteAt_5 (by decide) (fun q => ?_) (fun q => ?_)
  · have h := h.1 q
    refine v_iconst C dX11_byteAt_21 ?_
    exact v_iret C R h dX11_byteAt_22
  · have h := h.2 q
    refine v_aload_n C dX11_byteAt_8 0 rfl ?_
    refine g_X11_text C wd_1073 dX11_byteAt_9 ?_
    refine v_iload_n C dX11_byteAt_12 1 rfl ?_
    refine v_bald C rfl h.1 dX11_byteAt_13 ?_
    have h := h.2
    refine v_sipush C dX11_byteAt_14 (by decide) ?_
    refine v_iand C dX11_byteAt_17 ?_
    refine v_goto C 22 dX11_byteAt_18 (by decide) ?_
    exact v_iret C R h dX11_byteAt_22
abbrev rm_X11_isDigit : Room := { frames := 0, cells := 0, slots := 0, locals := 0 }
theorem mf_X11_isDigit : MfB yX11_isDigit cX11_isDigit 1 (some .boolean) 1 := ⟨wd_1234, wd_13, by decide, by decide, by decide +kernel⟩
def X11_isDigit_b16 (Q : Int → Wd → Prop) (w : Wd) : Prop := Q 0 w
theorem t_X11_isDigit_b16 {Z : Zw} {E : Amb} {Q : Int → Wd → Prop} (C : Cx Z (adA Z) E cX11_isDigit "HandleFacesModel" 1 rm_X11_isDigit) (R : Rt Z E (some .boolean) (qI Z Q)) : ∀ (w : Wd), X11_isDigit_b16 Q w → V Z (adA Z) E 1 w 16 [] [] := by
  intro w h
  unfold X11_isDigit_b16 at h
  refine v_iconst C dX11_isDigit_16 ?_
  exact v_zret C R (Or.inl rfl) h dX11_isDigit_17
def X11_isDigit (x0 : Int) (w : Wd) (Q : Int → Wd → Prop) : Prop := ((wr x0 < wr 48 → X11_isDigit_b16 Q w) ∧ (¬ wr x0 < wr 48 → ((wr 57 < wr x0 → X11_isDigit_b16 Q w) ∧ (¬ wr 57 < wr x0 → Q 1 w))))
theorem m_X11_isDigit {Z : Zw} {l : Launch} {x0 : Int} {w : Wd} {Q : Int → Wd → Prop} (h : X11_isDigit x0 w Q) : CtQ Z l yX11_isDigit cX11_isDigit 1 (some .boolean) rm_X11_isDigit [iv x0] w (qI Z Q) := by
  refine ct_of (by decide) (Nat.le_of_ble_eq_true rfl) (fun E eE C R => ?_)
  subst eE
  have C : Cx Z (adA Z) E cX11_isDigit "HandleFacesModel" 1 rm_X11_isDigit := C
  unfold X11_isDigit at h
  show V Z (adA Z) E 1 w 0 [(0, iv x0)] []
  refine v_iload_n C dX11_isDigit_0 0 rfl ?_
  refine v_bipush C dX11_isDigit_1 (by decide) ?_
  refine v_icmp_lt C 16 dX11_isDigit_3 (by decide) (fun q => ?_) (fun q => ?_)
  · have h := h.1 q
    refine v_sub [] rfl ?_
    exact t_X11_isDigit_b16 C R _ h
  · have h := h.2 q
    refine v_iload_n C dX11_isDigit_6 0 rfl ?_
    refine v_bipush C dX11_isDigit_7 (by decide) ?_
    refine v_icmp_gt C 16 dX11_isDigit_9 (by decide) (fun q => ?_) (fun q => ?_)
    · have h := h.1 q
      refine v_sub [] rfl ?_
      exact t_X11_isDigit_b16 C R _ h
    · have h := h.2 q
      refine v_iconst C dX11_isDigit_12 ?_
      refine v_goto C 17 dX11_isDigit_13 (by decide) ?_
      exact v_zret C R (Or.inr rfl) h dX11_isDigit_17
abbrev rm_X11_isLetter : Room := { frames := 0, cells := 0, slots := 0, locals := 0 }
theorem mf_X11_isLetter : MfB yX11_isLetter cX11_isLetter 1 (some .boolean) 1 := ⟨wd_1231, wd_13, by decide, by decide, by decide +kernel⟩
def X11_isLetter_b16 (Q : Int → Wd → Prop) (w : Wd) : Prop := Q 0 w
theorem t_X11_isLetter_b16 {Z : Zw} {E : Amb} {Q : Int → Wd → Prop} (C : Cx Z (adA Z) E cX11_isLetter "HandleFacesModel" 1 rm_X11_isLetter) (R : Rt Z E (some .boolean) (qI Z Q)) : ∀ (w : Wd), X11_isLetter_b16 Q w → V Z (adA Z) E 1 w 16 [] [] := by
  intro w h
  unfold X11_isLetter_b16 at h
  refine v_iconst C dX11_isLetter_16 ?_
  exact v_zret C R (Or.inl rfl) h dX11_isLetter_17
def X11_isLetter (x0 : Int) (w : Wd) (Q : Int → Wd → Prop) : Prop := ((wr x0 < wr 97 → X11_isLetter_b16 Q w) ∧ (¬ wr x0 < wr 97 → ((wr 122 < wr x0 → X11_isLetter_b16 Q w) ∧ (¬ wr 122 < wr x0 → Q 1 w))))
theorem m_X11_isLetter {Z : Zw} {l : Launch} {x0 : Int} {w : Wd} {Q : Int → Wd → Prop} (h : X11_isLetter x0 w Q) : CtQ Z l yX11_isLetter cX11_isLetter 1 (some .boolean) rm_X11_isLetter [iv x0] w (qI Z Q) := by
  refine ct_of (by decide) (Nat.le_of_ble_eq_true rfl) (fun E eE C R => ?_)
  subst eE
  have C : Cx Z (adA Z) E cX11_isLetter "HandleFacesModel" 1 rm_X11_isLetter := C
  unfold X11_isLetter at h
  show V Z (adA Z) E 1 w 0 [(0, iv x0)] []
  refine v_iload_n C dX11_isLetter_0 0 rfl ?_
  refine v_bipush C dX11_isLetter_1 (by decide) ?_
  refine v_icmp_lt C 16 dX11_isLetter_3 (by decide) (fun q => ?_) (fun q => ?_)
  · have h := h.1 q
    refine v_sub [] rfl ?_
    exact t_X11_isLetter_b16 C R _ h
  · have h := h.2 q
    refine v_iload_n C dX11_isLetter_6 0 rfl ?_
    refine v_bipush C dX11_isLetter_7 (by decide) ?_
    refine v_icmp_gt C 16 dX11_isLetter_9 (by decide) (fun q => ?_) (fun q => ?_)
    · have h := h.1 q
      refine v_sub [] rfl ?_
      exact t_X11_isLetter_b16 C R _ h
    · have h := h.2 q
      refine v_iconst C dX11_isLetter_12 ?_
      refine v_goto C 17 dX11_isLetter_13 (by decide) ?_
      exact v_zret C R (Or.inr rfl) h dX11_isLetter_17
abbrev rm_X11_appends : Room := { frames := 0, cells := 0, slots := 0, locals := 0 }
theorem mf_X11_appends : MfB yX11_appends cX11_appends 3 (some .long) 2 := ⟨wd_1069, wd_13, by decide, by decide, by decide +kernel⟩
def X11_appends (x0 : Int) (x2 : Int) (w : Wd) (Q : Int → Wd → Prop) : Prop := ((wr x2 = 0 → Q (wl x0) w) ∧ (¬ wr x2 = 0 → Q (wl ((27 * x0) + (wr ((x2 - 97) + 1)))) w))
theorem m_X11_appends {Z : Zw} {l : Launch} {x0 : Int} {x2 : Int} {w : Wd} {Q : Int → Wd → Prop} (h : X11_appends x0 x2 w Q) : CtQ Z l yX11_appends cX11_appends 3 (some .long) rm_X11_appends [jv x0, iv x2] w (qL Z Q) := by
  refine ct_of (by decide) (Nat.le_of_ble_eq_true rfl) (fun E eE C R => ?_)
  subst eE
  have C : Cx Z (adA Z) E cX11_appends "HandleFacesModel" 3 rm_X11_appends := C
  unfold X11_appends at h
  show V Z (adA Z) E 3 w 0 [(0, jv x0), (2, iv x2)] []
  refine v_iload_n C dX11_appends_0 1 rfl ?_
  refine v_if_ne C 8 dX11_appends_1 (by decide) (fun q => ?_) (fun q => ?_)
  · have h := h.2 q
    refine v_ldc2 C 27 wd_1070 (by decide) dX11_appends_8 ?_
    refine v_lload_n C dX11_appends_11 0 rfl ?_
    refine v_lmul C dX11_appends_12 ?_
    refine v_iload_n C dX11_appends_13 1 rfl ?_
    refine v_bipush C dX11_appends_14 (by decide) ?_
    refine v_isub C dX11_appends_16 ?_
    refine v_iconst C dX11_appends_17 ?_
    refine v_iadd C dX11_appends_18 ?_
    refine v_i2l C dX11_appends_19 ?_
    refine v_ladd C dX11_appends_20 ?_
    exact v_lret C R h dX11_appends_21
  · have h := h.1 q
    refine v_lload_n C dX11_appends_4 0 rfl ?_
    refine v_goto C 21 dX11_appends_5 (by decide) ?_
    exact v_lret C R h dX11_appends_21
abbrev rm_X11_letters : Room := { frames := 1, cells := 0, slots := 0, locals := 22 }
theorem mf_X11_letters : MfB yX11_letters cX11_letters 7 (some .long) 7 := ⟨wd_1066, wd_13, by decide, by decide, by decide +kernel⟩
def X11_letters (x0 : Int) (x1 : Int) (x2 : Int) (x3 : Int) (x4 : Int) (x5 : Int) (x6 : Int) (w : Wd) (Q : Int → Wd → Prop) : Prop := X11_appends 0 x0 w (fun y2 w1 => X11_appends y2 x1 w1 (fun y4 w3 => X11_appends y4 x2 w3 (fun y6 w5 => X11_appends y6 x3 w5 (fun y8 w7 => X11_appends y8 x4 w7 (fun y10 w9 => X11_appends y10 x5 w9 (fun y12 w11 => X11_appends y12 x6 w11 (fun y14 w13 => Q (wl y14) w13)))))))
theorem m_X11_letters {Z : Zw} {l : Launch} {x0 : Int} {x1 : Int} {x2 : Int} {x3 : Int} {x4 : Int} {x5 : Int} {x6 : Int} {w : Wd} {Q : Int → Wd → Prop} (h : X11_letters x0 x1 x2 x3 x4 x5 x6 w Q) : CtQ Z l yX11_letters cX11_letters 7 (some .long) rm_X11_letters [iv x0, iv x1, iv x2, iv x3, iv x4, iv x5, iv x6] w (qL Z Q) := by
  refine ct_of (by decide) (Nat.le_of_ble_eq_true rfl) (fun E eE C R => ?_)
  subst eE
  have C : Cx Z (adA Z) E cX11_letters "HandleFacesModel" 7 rm_X11_letters := C
  unfold X11_letters at h
  show V Z (adA Z) E 7 w 0 [(0, iv x0), (1, iv x1), (2, iv x2), (3, iv x3), (4, iv x4), (5, iv x5), (6, iv x6)] []
  refine v_lconst (x := 0) C dX11_letters_0 (by decide) ?_
  refine v_iload_n C dX11_letters_1 0 rfl ?_
  refine v_calll C (rn_S C _ (m_X11_appends h) mf_X11_appends wd_1068 wd_1067 rfl rfl ⟨(Nat.le_of_ble_eq_true rfl), (Nat.le_of_ble_eq_true rfl)⟩ rfl rfl (Nat.le_of_ble_eq_true rfl) dX11_letters_2) (fun r w h => ?_)
  refine v_iload_n C dX11_letters_5 1 rfl ?_
  refine v_calll C (rn_S C _ (m_X11_appends h) mf_X11_appends wd_1068 wd_1067 rfl rfl ⟨(Nat.le_of_ble_eq_true rfl), (Nat.le_of_ble_eq_true rfl)⟩ rfl rfl (Nat.le_of_ble_eq_true rfl) dX11_letters_6) (fun r w h => ?_)
  refine v_iload_n C dX11_letters_9 2 rfl ?_
  refine v_calll C (rn_S C _ (m_X11_appends h) mf_X11_appends wd_1068 wd_1067 rfl rfl ⟨(Nat.le_of_ble_eq_true rfl), (Nat.le_of_ble_eq_true rfl)⟩ rfl rfl (Nat.le_of_ble_eq_true rfl) dX11_letters_10) (fun r w h => ?_)
  refine v_iload_n C dX11_letters_13 3 rfl ?_
  refine v_calll C (rn_S C _ (m_X11_appends h) mf_X11_appends wd_1068 wd_1067 rfl rfl ⟨(Nat.le_of_ble_eq_true rfl), (Nat.le_of_ble_eq_true rfl)⟩ rfl rfl (Nat.le_of_ble_eq_true rfl) dX11_letters_14) (fun r w h => ?_)
  refine v_iload C dX11_letters_17 4 rfl ?_
  refine v_calll C (rn_S C _ (m_X11_appends h) mf_X11_appends wd_1068 wd_1067 rfl rfl ⟨(Nat.le_of_ble_eq_true rfl), (Nat.le_of_ble_eq_true rfl)⟩ rfl rfl (Nat.le_of_ble_eq_true rfl) dX11_letters_19) (fun r w h => ?_)
  refine v_iload C dX11_letters_22 5 rfl ?_
  refine v_calll C (rn_S C _ (m_X11_appends h) mf_X11_appends wd_1068 wd_1067 rfl rfl ⟨(Nat.le_of_ble_eq_true rfl), (Nat.le_of_ble_eq_true rfl)⟩ rfl rfl (Nat.le_of_ble_eq_true rfl) dX11_letters_24) (fun r w h => ?_)
  refine v_iload C dX11_letters_27 6 rfl ?_
  refine v_calll C (rn_S C _ (m_X11_appends h) mf_X11_appends wd_1068 wd_1067 rfl rfl ⟨(Nat.le_of_ble_eq_true rfl), (Nat.le_of_ble_eq_true rfl)⟩ rfl rfl (Nat.le_of_ble_eq_true rfl) dX11_letters_29) (fun r w h => ?_)
  exact v_lret C R h dX11_letters_32
abbrev rm_X11_token : Room := { frames := 0, cells := 0, slots := 0, locals := 0 }
theorem mf_X11_token : MfB yX11_token cX11_token 6 none 4 := ⟨wd_1228, wd_13, by decide, by decide, by decide +kernel⟩
def X11_token (x1 : Int) (x2 : Int) (x3 : Int) (x4 : Int) (w : Wd) (Q : Wd → Prop) : Prop := (ix (w 65 10) 403 ∧ (∀ w1, w1 = wt w 68 (w 65 10) x1 → (ix (w1 65 10) 403 ∧ (∀ w2, w2 = wt w1 69 (w1 65 10) x2 → (ix (w2 65 10) 403 ∧ (∀ w3, w3 = wt w2 70 (w2 65 10) x3 → (ix (w3 65 10) 403 ∧ (∀ w4, w4 = wt w3 71 (w3 65 10) x4 → (∀ w5, w5 = up w4 65 10 ((w4 65 10) + 1) → Q w5)))))))))
theorem m_X11_token {Z : Zw} {l : Launch} {x1 : Int} {x2 : Int} {x3 : Int} {x4 : Int} {w : Wd} {Q : Wd → Prop} (h : X11_token x1 x2 x3 x4 w Q) : CtQ Z l yX11_token cX11_token 6 none rm_X11_token [rv Z 65, iv x1, iv x2, iv x3, jv x4] w (qV Z Q) := by
  refine ct_of (by decide) (Nat.le_of_ble_eq_true rfl) (fun E eE C R => ?_)
  subst eE
  have C : Cx Z (adA Z) E cX11_token "HandleFacesModel" 6 rm_X11_token := C
  unfold X11_token at h
  show V Z (adA Z) E 6 w 0 [(0, rv Z 65), (1, iv x1), (2, iv x2), (3, iv x3), (4, jv x4)] []
  refine v_aload_n C dX11_token_0 0 rfl ?_
  refine g_X11_tKind C wd_1075 dX11_token_1 ?_
  refine v_aload_n C dX11_token_4 0 rfl ?_
  refine g_X11_tokens C wd_1080 dX11_token_5 ?_
  refine v_iload_n C dX11_token_8 1 rfl ?_
  refine v_iast C rfl h.1 dX11_token_9 ?_
  have h := h.2
  have h := h _ rfl
  refine v_aload_n C dX11_token_10 0 rfl ?_
  refine g_X11_tPlace C wd_1076 dX11_token_11 ?_
  refine v_aload_n C dX11_token_14 0 rfl ?_
  refine g_X11_tokens C wd_1080 dX11_token_15 ?_
  refine v_iload_n C dX11_token_18 2 rfl ?_
  refine v_iast C rfl h.1 dX11_token_19 ?_
  have h := h.2
  have h := h _ rfl
  refine v_aload_n C dX11_token_20 0 rfl ?_
  refine g_X11_tValue C wd_1077 dX11_token_21 ?_
  refine v_aload_n C dX11_token_24 0 rfl ?_
  refine g_X11_tokens C wd_1080 dX11_token_25 ?_
  refine v_iload_n C dX11_token_28 3 rfl ?_
  refine v_iast C rfl h.1 dX11_token_29 ?_
  have h := h.2
  have h := h _ rfl
  refine v_aload_n C dX11_token_30 0 rfl ?_
  refine g_X11_tName C wd_1078 dX11_token_31 ?_
  refine v_aload_n C dX11_token_34 0 rfl ?_
  refine g_X11_tokens C wd_1080 dX11_token_35 ?_
  refine v_lload C dX11_token_38 4 rfl ?_
  refine v_last C rfl h.1 dX11_token_40 ?_
  have h := h.2
  have h := h _ rfl
  refine v_aload_n C dX11_token_41 0 rfl ?_
  refine v_dup C dX11_token_42 rfl ?_
  refine g_X11_tokens C wd_1080 dX11_token_43 ?_
  refine v_iconst C dX11_token_46 ?_
  refine v_iadd C dX11_token_47 ?_
  refine p_X11_tokens C wd_1080 dX11_token_48 ?_
  have h := h _ rfl
  exact v_ret C R h dX11_token_51
abbrev rm_X11_sign : Room := { frames := 1, cells := 0, slots := 0, locals := 25 }
theorem mf_X11_sign : MfB yX11_sign cX11_sign 3 (some .int) 2 := ⟨wd_1238, wd_13, by decide, by decide, by decide +kernel⟩
def X11_sign_b12 (Q : Int → Wd → Prop) (x1 : Int) (s0 : Int) (w : Wd) : Prop := X11_token s0 x1 0 0 w (fun w1 => Q (wr 1) w1)
theorem t_X11_sign_b12 {Z : Zw} {E : Amb} {Q : Int → Wd → Prop} (C : Cx Z (adA Z) E cX11_sign "HandleFacesModel" 3 rm_X11_sign) (R : Rt Z E (some .int) (qI Z Q)) : ∀ (x1 : Int) (s0 : Int) (w : Wd), X11_sign_b12 Q x1 s0 w → V Z (adA Z) E 3 w 12 [(1, iv x1)] [iv s0, rv Z 65] := by
  intro x1 s0 w h
  unfold X11_sign_b12 at h
  refine v_iload_n C dX11_sign_12 0 rfl ?_
  refine v_iconst C dX11_sign_13 ?_
  refine v_lconst (x := 0) C dX11_sign_14 (by decide) ?_
  refine v_callv C (rn_V C _ (m_X11_token h) mf_X11_token wd_1227 wp_45 wd_1225 rfl rfl ⟨(Nat.le_of_ble_eq_true rfl), (Nat.le_of_ble_eq_true rfl)⟩ rfl rfl rfl rfl (Nat.le_of_ble_eq_true rfl) dX11_sign_15) (fun w h => ?_)
  refine v_iconst C dX11_sign_18 ?_
  exact v_iret C R h dX11_sign_19
def X11_sign (x1 : Int) (x2 : Int) (w : Wd) (Q : Int → Wd → Prop) : Prop := ((wr x2 = wr 59 → X11_sign_b12 Q x1 4 w) ∧ (¬ wr x2 = wr 59 → X11_sign_b12 Q x1 3 w))
theorem m_X11_sign {Z : Zw} {l : Launch} {x1 : Int} {x2 : Int} {w : Wd} {Q : Int → Wd → Prop} (h : X11_sign x1 x2 w Q) : CtQ Z l yX11_sign cX11_sign 3 (some .int) rm_X11_sign [rv Z 65, iv x1, iv x2] w (qI Z Q) := by
  refine ct_of (by decide) (Nat.le_of_ble_eq_true rfl) (fun E eE C R => ?_)
  subst eE
  have C : Cx Z (adA Z) E cX11_sign "HandleFacesModel" 3 rm_X11_sign := C
  unfold X11_sign at h
  show V Z (adA Z) E 3 w 0 [(0, rv Z 65), (1, iv x1), (2, iv x2)] []
  refine v_aload_n C dX11_sign_0 0 rfl ?_
  refine v_iload_n C dX11_sign_1 2 rfl ?_
  refine v_bipush C dX11_sign_2 (by decide) ?_
  refine v_icmp_ne C 11 dX11_sign_4 (by decide) (fun q => ?_) (fun q => ?_)
  · have h := h.2 q
    refine v_iconst C dX11_sign_11 ?_
    refine v_sub [1] rfl ?_
    exact t_X11_sign_b12 C R _ _ _ h
  · have h := h.1 q
    refine v_iconst C dX11_sign_7 ?_
    refine v_goto C 12 dX11_sign_8 (by decide) ?_
    refine v_sub [1] rfl ?_
    exact t_X11_sign_b12 C R _ _ _ h
abbrev rm_X11_cutsText : Room := { frames := 2, cells := 0, slots := 0, locals := 47 }
theorem mf_X11_cutsText : MfB yX11_cutsText cX11_cutsText 8 none 0 := ⟨wd_1220, wd_13, by decide, by decide, by decide +kernel⟩
def X11_cutsText_b67 (Q : Wd → Prop) (c7 : Int → Wd → Prop) (e31 : Wd → Prop) (e286 : Wd → Prop) (x1 : Int) (w : Wd) : Prop := c7 (x1 + 1) w
theorem t_X11_cutsText_b67 {Z : Zw} {E : Amb} {Q : Wd → Prop} {c7 : Int → Wd → Prop} {e31 : Wd → Prop} {e286 : Wd → Prop} (C : Cx Z (adA Z) E cX11_cutsText "HandleFacesModel" 8 rm_X11_cutsText) (R : Rt Z E none (qV Z Q)) (hc7 : ∀ (x1 : Int) (w : Wd), c7 x1 w → V Z (adA Z) E 8 w 7 [(0, rv Z 65), (1, iv x1)] []) (he31 : ∀ (w : Wd), e31 w → V Z (adA Z) E 8 w 31 [(0, rv Z 65)] []) (he286 : ∀ (w : Wd), e286 w → V Z (adA Z) E 8 w 286 [] []) : ∀ (x1 : Int) (w : Wd), X11_cutsText_b67 Q c7 e31 e286 x1 w → V Z (adA Z) E 8 w 67 [(0, rv Z 65), (1, iv x1)] [] := by
  intro x1 w h
  unfold X11_cutsText_b67 at h
  refine v_iinc C [(1, _), (0, _)] dX11_cutsText_67 1 rfl (by decide) rfl ?_
  refine v_goto C 283 dX11_cutsText_70 (by decide) ?_
  refine v_goto C 7 dX11_cutsText_283 (by decide) ?_
  refine v_sub [1, 0] rfl ?_
  exact hc7 _ _ h
def X11_cutsText_l207 (Q : Wd → Prop) (e249 : Int → Int → Int → Wd → Prop) : Nat → Int → Int → Int → Wd → Prop
  | 0 => fun _ _ _ _ => False
  | n + 1 => fun x1 x3 x4 w => X11_byteAt (x1 + x3) w (fun y12 w11 => X11_isDigit y12 w11 (fun y14 w13 => ((wr y14 = 0 → e249 x1 x3 x4 w13) ∧ (¬ wr y14 = 0 → ((wr 4 ≤ wr x3 → (X11_cutsText_l207 Q e249 n) x1 (x3 + 1) x4 w13) ∧ (¬ wr 4 ≤ wr x3 → X11_byteAt (x1 + x3) w13 (fun y16 w15 => (∀ y17, y17 = (((10 * x4) + y16) - 48) → (X11_cutsText_l207 Q e249 n) x1 (x3 + 1) y17 w15))))))))
theorem t_X11_cutsText_l207 {Z : Zw} {E : Amb} {Q : Wd → Prop} {e249 : Int → Int → Int → Wd → Prop} (C : Cx Z (adA Z) E cX11_cutsText "HandleFacesModel" 8 rm_X11_cutsText) (R : Rt Z E none (qV Z Q)) (he249 : ∀ (x1 : Int) (x3 : Int) (x4 : Int) (w : Wd), e249 x1 x3 x4 w → V Z (adA Z) E 8 w 249 [(0, rv Z 65), (1, iv x1), (3, iv x3), (4, iv x4)] []) : ∀ (n : Nat) (x1 : Int) (x3 : Int) (x4 : Int) (w : Wd), X11_cutsText_l207 Q e249 n x1 x3 x4 w → V Z (adA Z) E 8 w 207 [(0, rv Z 65), (1, iv x1), (3, iv x3), (4, iv x4)] [] := by
  intro n
  induction n with
  | zero => intro x1 x3 x4 w h; exact h.elim
  | succ n ih =>
    intro x1 x3 x4 w h
    unfold X11_cutsText_l207 at h
    refine v_aload_n C dX11_cutsText_207 0 rfl ?_
    refine v_iload_n C dX11_cutsText_208 1 rfl ?_
    refine v_iload_n C dX11_cutsText_209 2 rfl ?_
    refine v_iadd C dX11_cutsText_210 ?_
    refine v_calli C (rn_V C _ (m_X11_byteAt h) mf_X11_byteAt wd_1223 wp_44 wd_1221 rfl rfl ⟨(Nat.le_of_ble_eq_true rfl), (Nat.le_of_ble_eq_true rfl)⟩ rfl rfl rfl rfl (Nat.le_of_ble_eq_true rfl) dX11_cutsText_211) (fun r w h => ?_)
    refine v_calli C (rn_S C _ (m_X11_isDigit h) mf_X11_isDigit wd_1233 wd_1232 rfl rfl ⟨(Nat.le_of_ble_eq_true rfl), (Nat.le_of_ble_eq_true rfl)⟩ rfl rfl (Nat.le_of_ble_eq_true rfl) dX11_cutsText_214) (fun r w h => ?_)
    refine v_if_eq C 249 dX11_cutsText_217 (by decide) (fun q => ?_) (fun q => ?_)
    · have h := h.1 q
      exact he249 _ _ _ _ h
    · have h := h.2 q
      refine v_iload_n C dX11_cutsText_220 2 rfl ?_
      refine v_iconst C dX11_cutsText_221 ?_
      refine v_icmp_ge C 243 dX11_cutsText_222 (by decide) (fun q => ?_) (fun q => ?_)
      · have h := h.1 q
        refine v_iinc C [(3, _), (0, _), (1, _), (4, _)] dX11_cutsText_243 2 rfl (by decide) rfl ?_
        refine v_goto C 207 dX11_cutsText_246 (by decide) ?_
        refine v_sub [1, 2, 0, 3] rfl ?_
        exact ih _ _ _ _ h
      · have h := h.2 q
        refine v_bipush C dX11_cutsText_225 (by decide) ?_
        refine v_iload C dX11_cutsText_227 3 rfl ?_
        refine v_imul C dX11_cutsText_229 ?_
        refine v_aload_n C dX11_cutsText_230 0 rfl ?_
        refine v_iload_n C dX11_cutsText_231 1 rfl ?_
        refine v_iload_n C dX11_cutsText_232 2 rfl ?_
        refine v_iadd C dX11_cutsText_233 ?_
        refine v_calli C (rn_V C _ (m_X11_byteAt h) mf_X11_byteAt wd_1223 wp_44 wd_1221 rfl rfl ⟨(Nat.le_of_ble_eq_true rfl), (Nat.le_of_ble_eq_true rfl)⟩ rfl rfl rfl rfl (Nat.le_of_ble_eq_true rfl) dX11_cutsText_234) (fun r w h => ?_)
        refine v_iadd C dX11_cutsText_237 ?_
        refine v_bipush C dX11_cutsText_238 (by decide) ?_
        refine v_isub C dX11_cutsText_240 ?_
        refine v_istore C [(4, _), (0, _), (1, _), (3, _)] dX11_cutsText_241 (by decide) rfl ?_
        have h := h _ rfl
        refine v_iinc C [(3, _), (4, _), (0, _), (1, _)] dX11_cutsText_243 3 rfl (by decide) rfl ?_
        refine v_goto C 207 dX11_cutsText_246 (by decide) ?_
        refine v_sub [2, 3, 0, 1] rfl ?_
        exact ih _ _ _ _ h
def X11_cutsText_b260 (Q : Wd → Prop) (c7 : Int → Wd → Prop) (e31 : Wd → Prop) (e286 : Wd → Prop) (x1 : Int) (x3 : Int) (x4 : Int) (s0 : Int) (w : Wd) : Prop := X11_token s0 x1 x4 0 w (fun w18 => (∀ y19, y19 = (x1 + x3) → c7 y19 w18))
theorem t_X11_cutsText_b260 {Z : Zw} {E : Amb} {Q : Wd → Prop} {c7 : Int → Wd → Prop} {e31 : Wd → Prop} {e286 : Wd → Prop} (C : Cx Z (adA Z) E cX11_cutsText "HandleFacesModel" 8 rm_X11_cutsText) (R : Rt Z E none (qV Z Q)) (hc7 : ∀ (x1 : Int) (w : Wd), c7 x1 w → V Z (adA Z) E 8 w 7 [(0, rv Z 65), (1, iv x1)] []) (he31 : ∀ (w : Wd), e31 w → V Z (adA Z) E 8 w 31 [(0, rv Z 65)] []) (he286 : ∀ (w : Wd), e286 w → V Z (adA Z) E 8 w 286 [] []) : ∀ (x1 : Int) (x3 : Int) (x4 : Int) (s0 : Int) (w : Wd), X11_cutsText_b260 Q c7 e31 e286 x1 x3 x4 s0 w → V Z (adA Z) E 8 w 260 [(0, rv Z 65), (1, iv x1), (3, iv x3), (4, iv x4)] [iv s0, rv Z 65] := by
  intro x1 x3 x4 s0 w h
  unfold X11_cutsText_b260 at h
  refine v_iload_n C dX11_cutsText_260 1 rfl ?_
  refine v_iload C dX11_cutsText_261 3 rfl ?_
  refine v_lconst (x := 0) C dX11_cutsText_263 (by decide) ?_
  refine v_callv C (rn_V C _ (m_X11_token h) mf_X11_token wd_1227 wp_45 wd_1225 rfl rfl ⟨(Nat.le_of_ble_eq_true rfl), (Nat.le_of_ble_eq_true rfl)⟩ rfl rfl rfl rfl (Nat.le_of_ble_eq_true rfl) dX11_cutsText_264) (fun w h => ?_)
  refine v_iload_n C dX11_cutsText_267 1 rfl ?_
  refine v_iload_n C dX11_cutsText_268 2 rfl ?_
  refine v_iadd C dX11_cutsText_269 ?_
  refine v_istore_n C [(1, _), (0, _), (3, _), (4, _)] dX11_cutsText_270 1 rfl (by decide) rfl ?_
  have h := h _ rfl
  refine v_goto C 283 dX11_cutsText_271 (by decide) ?_
  refine v_goto C 7 dX11_cutsText_283 (by decide) ?_
  refine v_sub [1, 0] rfl ?_
  exact hc7 _ _ h
def X11_cutsText_b249 (Q : Wd → Prop) (c7 : Int → Wd → Prop) (e31 : Wd → Prop) (e286 : Wd → Prop) (x1 : Int) (x3 : Int) (x4 : Int) (w : Wd) : Prop := ((wr x3 ≤ wr 4 → X11_cutsText_b260 Q c7 e31 e286 x1 x3 x4 2 w) ∧ (¬ wr x3 ≤ wr 4 → X11_cutsText_b260 Q c7 e31 e286 x1 x3 x4 3 w))
theorem t_X11_cutsText_b249 {Z : Zw} {E : Amb} {Q : Wd → Prop} {c7 : Int → Wd → Prop} {e31 : Wd → Prop} {e286 : Wd → Prop} (C : Cx Z (adA Z) E cX11_cutsText "HandleFacesModel" 8 rm_X11_cutsText) (R : Rt Z E none (qV Z Q)) (hc7 : ∀ (x1 : Int) (w : Wd), c7 x1 w → V Z (adA Z) E 8 w 7 [(0, rv Z 65), (1, iv x1)] []) (he31 : ∀ (w : Wd), e31 w → V Z (adA Z) E 8 w 31 [(0, rv Z 65)] []) (he286 : ∀ (w : Wd), e286 w → V Z (adA Z) E 8 w 286 [] []) : ∀ (x1 : Int) (x3 : Int) (x4 : Int) (w : Wd), X11_cutsText_b249 Q c7 e31 e286 x1 x3 x4 w → V Z (adA Z) E 8 w 249 [(0, rv Z 65), (1, iv x1), (3, iv x3), (4, iv x4)] [] := by
  intro x1 x3 x4 w h
  unfold X11_cutsText_b249 at h
  refine v_aload_n C dX11_cutsText_249 0 rfl ?_
  refine v_iload_n C dX11_cutsText_250 2 rfl ?_
  refine v_iconst C dX11_cutsText_251 ?_
  refine v_icmp_le C 259 dX11_cutsText_252 (by decide) (fun q => ?_) (fun q => ?_)
  · have h := h.1 q
    refine v_iconst C dX11_cutsText_259 ?_
    exact t_X11_cutsText_b260 C R hc7 he31 he286 _ _ _ _ _ h
  · have h := h.2 q
    refine v_iconst C dX11_cutsText_255 ?_
    refine v_goto C 260 dX11_cutsText_256 (by decide) ?_
    exact t_X11_cutsText_b260 C R hc7 he31 he286 _ _ _ _ _ h
def X11_cutsText_l85 (Q : Wd → Prop) (e124 : Int → Int → Int → Wd → Prop) : Nat → Int → Int → Int → Wd → Prop
  | 0 => fun _ _ _ _ => False
  | n + 1 => fun x1 x3 x4 w => X11_byteAt (x1 + x3) w (fun y21 w20 => X11_isLetter y21 w20 (fun y23 w22 => ((wr y23 = 0 → e124 x1 x3 x4 w22) ∧ (¬ wr y23 = 0 → ((wr 8 ≤ wr x3 → (X11_cutsText_l85 Q e124 n) x1 (x3 + 1) x4 w22) ∧ (¬ wr 8 ≤ wr x3 → X11_byteAt (x1 + x3) w22 (fun y25 w24 => X11_appends x4 y25 w24 (fun y27 w26 => (X11_cutsText_l85 Q e124 n) x1 (x3 + 1) y27 w26))))))))
theorem t_X11_cutsText_l85 {Z : Zw} {E : Amb} {Q : Wd → Prop} {e124 : Int → Int → Int → Wd → Prop} (C : Cx Z (adA Z) E cX11_cutsText "HandleFacesModel" 8 rm_X11_cutsText) (R : Rt Z E none (qV Z Q)) (he124 : ∀ (x1 : Int) (x3 : Int) (x4 : Int) (w : Wd), e124 x1 x3 x4 w → V Z (adA Z) E 8 w 124 [(0, rv Z 65), (1, iv x1), (3, iv x3), (4, jv x4)] []) : ∀ (n : Nat) (x1 : Int) (x3 : Int) (x4 : Int) (w : Wd), X11_cutsText_l85 Q e124 n x1 x3 x4 w → V Z (adA Z) E 8 w 85 [(0, rv Z 65), (1, iv x1), (3, iv x3), (4, jv x4)] [] := by
  intro n
  induction n with
  | zero => intro x1 x3 x4 w h; exact h.elim
  | succ n ih =>
    intro x1 x3 x4 w h
    unfold X11_cutsText_l85 at h
    refine v_aload_n C dX11_cutsText_85 0 rfl ?_
    refine v_iload_n C dX11_cutsText_86 1 rfl ?_
    refine v_iload_n C dX11_cutsText_87 2 rfl ?_
    refine v_iadd C dX11_cutsText_88 ?_
    refine v_calli C (rn_V C _ (m_X11_byteAt h) mf_X11_byteAt wd_1223 wp_44 wd_1221 rfl rfl ⟨(Nat.le_of_ble_eq_true rfl), (Nat.le_of_ble_eq_true rfl)⟩ rfl rfl rfl rfl (Nat.le_of_ble_eq_true rfl) dX11_cutsText_89) (fun r w h => ?_)
    refine v_calli C (rn_S C _ (m_X11_isLetter h) mf_X11_isLetter wd_1230 wd_1229 rfl rfl ⟨(Nat.le_of_ble_eq_true rfl), (Nat.le_of_ble_eq_true rfl)⟩ rfl rfl (Nat.le_of_ble_eq_true rfl) dX11_cutsText_92) (fun r w h => ?_)
    refine v_if_eq C 124 dX11_cutsText_95 (by decide) (fun q => ?_) (fun q => ?_)
    · have h := h.1 q
      exact he124 _ _ _ _ h
    · have h := h.2 q
      refine v_iload_n C dX11_cutsText_98 2 rfl ?_
      refine v_bipush C dX11_cutsText_99 (by decide) ?_
      refine v_icmp_ge C 118 dX11_cutsText_101 (by decide) (fun q => ?_) (fun q => ?_)
      · have h := h.1 q
        refine v_iinc C [(3, _), (0, _), (1, _), (4, _)] dX11_cutsText_118 2 rfl (by decide) rfl ?_
        refine v_goto C 85 dX11_cutsText_121 (by decide) ?_
        refine v_sub [1, 2, 0, 3] rfl ?_
        exact ih _ _ _ _ h
      · have h := h.2 q
        refine v_lload C dX11_cutsText_104 3 rfl ?_
        refine v_aload_n C dX11_cutsText_106 0 rfl ?_
        refine v_iload_n C dX11_cutsText_107 1 rfl ?_
        refine v_iload_n C dX11_cutsText_108 2 rfl ?_
        refine v_iadd C dX11_cutsText_109 ?_
        refine v_calli C (rn_V C _ (m_X11_byteAt h) mf_X11_byteAt wd_1223 wp_44 wd_1221 rfl rfl ⟨(Nat.le_of_ble_eq_true rfl), (Nat.le_of_ble_eq_true rfl)⟩ rfl rfl rfl rfl (Nat.le_of_ble_eq_true rfl) dX11_cutsText_110) (fun r w h => ?_)
        refine v_calll C (rn_S C _ (m_X11_appends h) mf_X11_appends wd_1068 wd_1067 rfl rfl ⟨(Nat.le_of_ble_eq_true rfl), (Nat.le_of_ble_eq_true rfl)⟩ rfl rfl (Nat.le_of_ble_eq_true rfl) dX11_cutsText_113) (fun r w h => ?_)
        refine v_lstore C [(4, _), (0, _), (1, _), (3, _)] dX11_cutsText_116 (by decide) rfl ?_
        refine v_iinc C [(3, _), (4, _), (0, _), (1, _)] dX11_cutsText_118 3 rfl (by decide) rfl ?_
        refine v_goto C 85 dX11_cutsText_121 (by decide) ?_
        refine v_sub [2, 3, 0, 1] rfl ?_
        exact ih _ _ _ _ h
def X11_cutsText_b178 (Q : Wd → Prop) (c7 : Int → Wd → Prop) (e31 : Wd → Prop) (e286 : Wd → Prop) (x1 : Int) (x3 : Int) (x4 : Int) (x6 : Int) (w : Wd) : Prop := X11_token x6 x1 0 x4 w (fun w28 => (∀ y29, y29 = (x1 + x3) → c7 y29 w28))
theorem t_X11_cutsText_b178 {Z : Zw} {E : Amb} {Q : Wd → Prop} {c7 : Int → Wd → Prop} {e31 : Wd → Prop} {e286 : Wd → Prop} (C : Cx Z (adA Z) E cX11_cutsText "HandleFacesModel" 8 rm_X11_cutsText) (R : Rt Z E none (qV Z Q)) (hc7 : ∀ (x1 : Int) (w : Wd), c7 x1 w → V Z (adA Z) E 8 w 7 [(0, rv Z 65), (1, iv x1)] []) (he31 : ∀ (w : Wd), e31 w → V Z (adA Z) E 8 w 31 [(0, rv Z 65)] []) (he286 : ∀ (w : Wd), e286 w → V Z (adA Z) E 8 w 286 [] []) : ∀ (x1 : Int) (x3 : Int) (x4 : Int) (x6 : Int) (w : Wd), X11_cutsText_b178 Q c7 e31 e286 x1 x3 x4 x6 w → V Z (adA Z) E 8 w 178 [(0, rv Z 65), (1, iv x1), (3, iv x3), (4, jv x4), (6, iv x6)] [] := by
  intro x1 x3 x4 x6 w h
  unfold X11_cutsText_b178 at h
  refine v_aload_n C dX11_cutsText_178 0 rfl ?_
  refine v_iload C dX11_cutsText_179 4 rfl ?_
  refine v_iload_n C dX11_cutsText_181 1 rfl ?_
  refine v_iconst C dX11_cutsText_182 ?_
  refine v_lload C dX11_cutsText_183 3 rfl ?_
  refine v_callv C (rn_V C _ (m_X11_token h) mf_X11_token wd_1227 wp_45 wd_1225 rfl rfl ⟨(Nat.le_of_ble_eq_true rfl), (Nat.le_of_ble_eq_true rfl)⟩ rfl rfl rfl rfl (Nat.le_of_ble_eq_true rfl) dX11_cutsText_185) (fun w h => ?_)
  refine v_iload_n C dX11_cutsText_188 1 rfl ?_
  refine v_iload_n C dX11_cutsText_189 2 rfl ?_
  refine v_iadd C dX11_cutsText_190 ?_
  refine v_istore_n C [(1, _), (0, _), (3, _), (4, _), (6, _)] dX11_cutsText_191 1 rfl (by decide) rfl ?_
  have h := h _ rfl
  refine v_goto C 283 dX11_cutsText_192 (by decide) ?_
  refine v_goto C 7 dX11_cutsText_283 (by decide) ?_
  refine v_sub [1, 0] rfl ?_
  exact hc7 _ _ h
def X11_cutsText_l146 (Q : Wd → Prop) (e178 : Int → Int → Int → Int → Wd → Prop) : Nat → Int → Int → Int → Int → Int → Wd → Prop
  | 0 => fun _ _ _ _ _ _ => False
  | n + 1 => fun x1 x3 x4 x6 x7 w => ((wr 4 ≤ wr x7 → e178 x1 x3 x4 x6 w) ∧ (¬ wr 4 ≤ wr x7 → (ix x7 4 ∧ ((wr (lcm (rd w 72 x7) x4) = 0 → (∀ y30, y30 = (20 + x7) → (X11_cutsText_l146 Q e178 n) x1 x3 x4 y30 (x7 + 1) w)) ∧ (¬ wr (lcm (rd w 72 x7) x4) = 0 → (X11_cutsText_l146 Q e178 n) x1 x3 x4 x6 (x7 + 1) w)))))
theorem t_X11_cutsText_l146 {Z : Zw} {E : Amb} {Q : Wd → Prop} {e178 : Int → Int → Int → Int → Wd → Prop} (C : Cx Z (adA Z) E cX11_cutsText "HandleFacesModel" 8 rm_X11_cutsText) (R : Rt Z E none (qV Z Q)) (he178 : ∀ (x1 : Int) (x3 : Int) (x4 : Int) (x6 : Int) (w : Wd), e178 x1 x3 x4 x6 w → V Z (adA Z) E 8 w 178 [(0, rv Z 65), (1, iv x1), (3, iv x3), (4, jv x4), (6, iv x6)] []) : ∀ (n : Nat) (x1 : Int) (x3 : Int) (x4 : Int) (x6 : Int) (x7 : Int) (w : Wd), X11_cutsText_l146 Q e178 n x1 x3 x4 x6 x7 w → V Z (adA Z) E 8 w 146 [(0, rv Z 65), (1, iv x1), (3, iv x3), (4, jv x4), (6, iv x6), (7, iv x7)] [] := by
  intro n
  induction n with
  | zero => intro x1 x3 x4 x6 x7 w h; exact h.elim
  | succ n ih =>
    intro x1 x3 x4 x6 x7 w h
    unfold X11_cutsText_l146 at h
    refine v_iload C dX11_cutsText_146 5 rfl ?_
    refine v_iconst C dX11_cutsText_148 ?_
    refine v_icmp_ge C 178 dX11_cutsText_149 (by decide) (fun q => ?_) (fun q => ?_)
    · have h := h.1 q
      refine v_sub [0, 1, 2, 3, 4] rfl ?_
      exact he178 _ _ _ _ _ h
    · have h := h.2 q
      refine v_aload_n C dX11_cutsText_152 0 rfl ?_
      refine g_X11_keys C wd_1079 dX11_cutsText_153 ?_
      refine v_iload C dX11_cutsText_156 5 rfl ?_
      refine v_lald C rfl h.1 dX11_cutsText_158 ?_
      have h := h.2
      refine v_lload C dX11_cutsText_159 3 rfl ?_
      refine v_lcmp C dX11_cutsText_161 ?_
      refine v_if_ne C 172 dX11_cutsText_162 (by decide) (fun q => ?_) (fun q => ?_)
      · have h := h.2 q
        refine v_iinc C [(7, _), (0, _), (1, _), (3, _), (4, _), (6, _)] dX11_cutsText_172 5 rfl (by decide) rfl ?_
        refine v_goto C 146 dX11_cutsText_175 (by decide) ?_
        refine v_sub [1, 2, 3, 4, 5, 0] rfl ?_
        exact ih _ _ _ _ _ _ h
      · have h := h.1 q
        refine v_bipush C dX11_cutsText_165 (by decide) ?_
        refine v_iload C dX11_cutsText_167 5 rfl ?_
        refine v_iadd C dX11_cutsText_169 ?_
        refine v_istore C [(6, _), (0, _), (1, _), (3, _), (4, _), (7, _)] dX11_cutsText_170 (by decide) rfl ?_
        have h := h _ rfl
        refine v_iinc C [(7, _), (6, _), (0, _), (1, _), (3, _), (4, _)] dX11_cutsText_172 5 rfl (by decide) rfl ?_
        refine v_goto C 146 dX11_cutsText_175 (by decide) ?_
        refine v_sub [2, 3, 4, 5, 1, 0] rfl ?_
        exact ih _ _ _ _ _ _ h
def X11_cutsText_b135 (Q : Wd → Prop) (c7 : Int → Wd → Prop) (e31 : Wd → Prop) (e286 : Wd → Prop) (x1 : Int) (x3 : Int) (x4 : Int) (s0 : Int) (w : Wd) : Prop := ((wr 8 < wr x3 → X11_cutsText_b178 Q c7 e31 e286 x1 x3 x4 s0 w) ∧ (¬ wr 8 < wr x3 → (∃ m, X11_cutsText_l146 Q (X11_cutsText_b178 Q c7 e31 e286) m x1 x3 x4 s0 0 w)))
theorem t_X11_cutsText_b135 {Z : Zw} {E : Amb} {Q : Wd → Prop} {c7 : Int → Wd → Prop} {e31 : Wd → Prop} {e286 : Wd → Prop} (C : Cx Z (adA Z) E cX11_cutsText "HandleFacesModel" 8 rm_X11_cutsText) (R : Rt Z E none (qV Z Q)) (hc7 : ∀ (x1 : Int) (w : Wd), c7 x1 w → V Z (adA Z) E 8 w 7 [(0, rv Z 65), (1, iv x1)] []) (he31 : ∀ (w : Wd), e31 w → V Z (adA Z) E 8 w 31 [(0, rv Z 65)] []) (he286 : ∀ (w : Wd), e286 w → V Z (adA Z) E 8 w 286 [] []) : ∀ (x1 : Int) (x3 : Int) (x4 : Int) (s0 : Int) (w : Wd), X11_cutsText_b135 Q c7 e31 e286 x1 x3 x4 s0 w → V Z (adA Z) E 8 w 135 [(0, rv Z 65), (1, iv x1), (3, iv x3), (4, jv x4)] [iv s0] := by
  intro x1 x3 x4 s0 w h
  unfold X11_cutsText_b135 at h
  refine v_istore C [(6, _), (0, _), (1, _), (3, _), (4, _)] dX11_cutsText_135 (by decide) rfl ?_
  refine v_iload_n C dX11_cutsText_137 3 rfl ?_
  refine v_bipush C dX11_cutsText_138 (by decide) ?_
  refine v_icmp_gt C 178 dX11_cutsText_140 (by decide) (fun q => ?_) (fun q => ?_)
  · have h := h.1 q
    refine v_sub [1, 2, 3, 4, 0] rfl ?_
    exact t_X11_cutsText_b178 C R hc7 he31 he286 _ _ _ _ _ h
  · have h := h.2 q
    refine v_iconst C dX11_cutsText_143 ?_
    refine v_istore C [(7, _), (6, _), (0, _), (1, _), (3, _), (4, _)] dX11_cutsText_144 (by decide) rfl ?_
    refine v_sub [2, 3, 4, 5, 1, 0] rfl ?_
    obtain ⟨m, h⟩ := h
    exact t_X11_cutsText_l146 C R (t_X11_cutsText_b178 C R hc7 he31 he286) m _ _ _ _ _ _ h
def X11_cutsText_b124 (Q : Wd → Prop) (c7 : Int → Wd → Prop) (e31 : Wd → Prop) (e286 : Wd → Prop) (x1 : Int) (x3 : Int) (x4 : Int) (w : Wd) : Prop := ((wr x3 ≤ wr 8 → X11_cutsText_b135 Q c7 e31 e286 x1 x3 x4 1 w) ∧ (¬ wr x3 ≤ wr 8 → X11_cutsText_b135 Q c7 e31 e286 x1 x3 x4 3 w))
theorem t_X11_cutsText_b124 {Z : Zw} {E : Amb} {Q : Wd → Prop} {c7 : Int → Wd → Prop} {e31 : Wd → Prop} {e286 : Wd → Prop} (C : Cx Z (adA Z) E cX11_cutsText "HandleFacesModel" 8 rm_X11_cutsText) (R : Rt Z E none (qV Z Q)) (hc7 : ∀ (x1 : Int) (w : Wd), c7 x1 w → V Z (adA Z) E 8 w 7 [(0, rv Z 65), (1, iv x1)] []) (he31 : ∀ (w : Wd), e31 w → V Z (adA Z) E 8 w 31 [(0, rv Z 65)] []) (he286 : ∀ (w : Wd), e286 w → V Z (adA Z) E 8 w 286 [] []) : ∀ (x1 : Int) (x3 : Int) (x4 : Int) (w : Wd), X11_cutsText_b124 Q c7 e31 e286 x1 x3 x4 w → V Z (adA Z) E 8 w 124 [(0, rv Z 65), (1, iv x1), (3, iv x3), (4, jv x4)] [] := by
  intro x1 x3 x4 w h
  unfold X11_cutsText_b124 at h
  refine v_iload_n C dX11_cutsText_124 2 rfl ?_
  refine v_bipush C dX11_cutsText_125 (by decide) ?_
  refine v_icmp_le C 134 dX11_cutsText_127 (by decide) (fun q => ?_) (fun q => ?_)
  · have h := h.1 q
    refine v_iconst C dX11_cutsText_134 ?_
    exact t_X11_cutsText_b135 C R hc7 he31 he286 _ _ _ _ _ h
  · have h := h.2 q
    refine v_iconst C dX11_cutsText_130 ?_
    refine v_goto C 135 dX11_cutsText_131 (by decide) ?_
    exact t_X11_cutsText_b135 C R hc7 he31 he286 _ _ _ _ _ h
def X11_cutsText_l7 (Q : Wd → Prop) (e31 : Wd → Prop) (e286 : Wd → Prop) : Nat → Int → Wd → Prop
  | 0 => fun _ _ => False
  | n + 1 => fun x1 w => ((wr 400 < wr (w 65 10) → e286 w) ∧ (¬ wr 400 < wr (w 65 10) → X11_byteAt x1 w (fun y3 w2 => ((wr x1 < wr (w2 65 4) → ((wr y3 = wr 9 → X11_cutsText_b67 Q (X11_cutsText_l7 Q e31 e286 n) e31 e286 x1 w2) ∧ (¬ wr y3 = wr 9 → ((wr y3 = wr 10 → X11_cutsText_b67 Q (X11_cutsText_l7 Q e31 e286 n) e31 e286 x1 w2) ∧ (¬ wr y3 = wr 10 → ((wr y3 = wr 13 → X11_cutsText_b67 Q (X11_cutsText_l7 Q e31 e286 n) e31 e286 x1 w2) ∧ (¬ wr y3 = wr 13 → ((wr y3 = wr 32 → X11_cutsText_b67 Q (X11_cutsText_l7 Q e31 e286 n) e31 e286 x1 w2) ∧ (¬ wr y3 = wr 32 → X11_isLetter y3 w2 (fun y5 w4 => ((wr y5 = 0 → X11_isDigit y3 w4 (fun y7 w6 => ((wr y7 = 0 → X11_sign x1 y3 w6 (fun y9 w8 => (∀ y10, y10 = (x1 + y9) → (X11_cutsText_l7 Q e31 e286 n) y10 w8))) ∧ (¬ wr y7 = 0 → (∃ m, X11_cutsText_l207 Q (X11_cutsText_b249 Q (X11_cutsText_l7 Q e31 e286 n) e31 e286) m x1 0 0 w6))))) ∧ (¬ wr y5 = 0 → (∃ m, X11_cutsText_l85 Q (X11_cutsText_b124 Q (X11_cutsText_l7 Q e31 e286 n) e31 e286) m x1 0 0 w4))))))))))))) ∧ (¬ wr x1 < wr (w2 65 4) → e31 w2)))))
theorem t_X11_cutsText_l7 {Z : Zw} {E : Amb} {Q : Wd → Prop} {e31 : Wd → Prop} {e286 : Wd → Prop} (C : Cx Z (adA Z) E cX11_cutsText "HandleFacesModel" 8 rm_X11_cutsText) (R : Rt Z E none (qV Z Q)) (he31 : ∀ (w : Wd), e31 w → V Z (adA Z) E 8 w 31 [(0, rv Z 65)] []) (he286 : ∀ (w : Wd), e286 w → V Z (adA Z) E 8 w 286 [] []) : ∀ (n : Nat) (x1 : Int) (w : Wd), X11_cutsText_l7 Q e31 e286 n x1 w → V Z (adA Z) E 8 w 7 [(0, rv Z 65), (1, iv x1)] [] := by
  intro n
  induction n with
  | zero => intro x1 w h; exact h.elim
  | succ n ih =>
    intro x1 w h
    unfold X11_cutsText_l7 at h
    refine v_aload_n C dX11_cutsText_7 0 rfl ?_
    refine g_X11_tokens C wd_1080 dX11_cutsText_8 ?_
    refine v_sipush C dX11_cutsText_11 (by decide) ?_
    refine v_icmp_gt C 286 dX11_cutsText_14 (by decide) (fun q => ?_) (fun q => ?_)
    · have h := h.1 q
      refine v_sub [] rfl ?_
      exact he286 _ h
    · have h := h.2 q
      refine v_aload_n C dX11_cutsText_17 0 rfl ?_
      refine v_iload_n C dX11_cutsText_18 1 rfl ?_
      refine v_calli C (rn_V C _ (m_X11_byteAt h) mf_X11_byteAt wd_1223 wp_44 wd_1221 rfl rfl ⟨(Nat.le_of_ble_eq_true rfl), (Nat.le_of_ble_eq_true rfl)⟩ rfl rfl rfl rfl (Nat.le_of_ble_eq_true rfl) dX11_cutsText_19) (fun r w h => ?_)
      refine v_istore_n C [(2, _), (0, _), (1, _)] dX11_cutsText_22 2 rfl (by decide) rfl ?_
      refine v_iload_n C dX11_cutsText_23 2 rfl ?_
      refine v_aload_n C dX11_cutsText_24 1 rfl ?_
      refine g_X11_size C wd_1074 dX11_cutsText_25 ?_
      refine v_icmp_lt C 43 dX11_cutsText_28 (by decide) (fun q => ?_) (fun q => ?_)
      · have h := h.1 q
        refine v_iload_n C dX11_cutsText_43 0 rfl ?_
        refine v_bipush C dX11_cutsText_44 (by decide) ?_
        refine v_icmp_eq C 67 dX11_cutsText_46 (by decide) (fun q => ?_) (fun q => ?_)
        · have h := h.1 q
          refine v_sub [1, 2] rfl ?_
          exact t_X11_cutsText_b67 C R ih he31 he286 _ _ h
        · have h := h.2 q
          refine v_iload_n C dX11_cutsText_49 0 rfl ?_
          refine v_bipush C dX11_cutsText_50 (by decide) ?_
          refine v_icmp_eq C 67 dX11_cutsText_52 (by decide) (fun q => ?_) (fun q => ?_)
          · have h := h.1 q
            refine v_sub [1, 2] rfl ?_
            exact t_X11_cutsText_b67 C R ih he31 he286 _ _ h
          · have h := h.2 q
            refine v_iload_n C dX11_cutsText_55 0 rfl ?_
            refine v_bipush C dX11_cutsText_56 (by decide) ?_
            refine v_icmp_eq C 67 dX11_cutsText_58 (by decide) (fun q => ?_) (fun q => ?_)
            · have h := h.1 q
              refine v_sub [1, 2] rfl ?_
              exact t_X11_cutsText_b67 C R ih he31 he286 _ _ h
            · have h := h.2 q
              refine v_iload_n C dX11_cutsText_61 0 rfl ?_
              refine v_bipush C dX11_cutsText_62 (by decide) ?_
              refine v_icmp_ne C 73 dX11_cutsText_64 (by decide) (fun q => ?_) (fun q => ?_)
              · have h := h.2 q
                refine v_iload_n C dX11_cutsText_73 0 rfl ?_
                refine v_calli C (rn_S C _ (m_X11_isLetter h) mf_X11_isLetter wd_1230 wd_1229 rfl rfl ⟨(Nat.le_of_ble_eq_true rfl), (Nat.le_of_ble_eq_true rfl)⟩ rfl rfl (Nat.le_of_ble_eq_true rfl) dX11_cutsText_74) (fun r w h => ?_)
                refine v_if_eq C 195 dX11_cutsText_77 (by decide) (fun q => ?_) (fun q => ?_)
                · have h := h.1 q
                  refine v_iload_n C dX11_cutsText_195 0 rfl ?_
                  refine v_calli C (rn_S C _ (m_X11_isDigit h) mf_X11_isDigit wd_1233 wd_1232 rfl rfl ⟨(Nat.le_of_ble_eq_true rfl), (Nat.le_of_ble_eq_true rfl)⟩ rfl rfl (Nat.le_of_ble_eq_true rfl) dX11_cutsText_196) (fun r w h => ?_)
                  refine v_if_eq C 274 dX11_cutsText_199 (by decide) (fun q => ?_) (fun q => ?_)
                  · have h := h.1 q
                    refine v_iload_n C dX11_cutsText_274 2 rfl ?_
                    refine v_aload_n C dX11_cutsText_275 1 rfl ?_
                    refine v_iload_n C dX11_cutsText_276 2 rfl ?_
                    refine v_iload_n C dX11_cutsText_277 0 rfl ?_
                    refine v_calli C (rn_V C _ (m_X11_sign h) mf_X11_sign wd_1237 wp_46 wd_1235 rfl rfl ⟨(Nat.le_of_ble_eq_true rfl), (Nat.le_of_ble_eq_true rfl)⟩ rfl rfl rfl rfl (Nat.le_of_ble_eq_true rfl) dX11_cutsText_278) (fun r w h => ?_)
                    refine v_iadd C dX11_cutsText_281 ?_
                    refine v_istore_n C [(1, _), (2, _), (0, _)] dX11_cutsText_282 1 rfl (by decide) rfl ?_
                    have h := h _ rfl
                    refine v_goto C 7 dX11_cutsText_283 (by decide) ?_
                    refine v_sub [2, 0] rfl ?_
                    exact ih _ _ h
                  · have h := h.2 q
                    refine v_iconst C dX11_cutsText_202 ?_
                    refine v_istore_n C [(3, _), (2, _), (0, _), (1, _)] dX11_cutsText_203 3 rfl (by decide) rfl ?_
                    refine v_iconst C dX11_cutsText_204 ?_
                    refine v_istore C [(4, _), (3, _), (2, _), (0, _), (1, _)] dX11_cutsText_205 (by decide) rfl ?_
                    refine v_sub [3, 4, 1, 0] rfl ?_
                    obtain ⟨m, h⟩ := h
                    exact t_X11_cutsText_l207 C R (t_X11_cutsText_b249 C R ih he31 he286) m _ _ _ _ h
                · have h := h.2 q
                  refine v_iconst C dX11_cutsText_80 ?_
                  refine v_istore_n C [(3, _), (2, _), (0, _), (1, _)] dX11_cutsText_81 3 rfl (by decide) rfl ?_
                  refine v_lconst (x := 0) C dX11_cutsText_82 (by decide) ?_
                  refine v_lstore C [(4, _), (3, _), (2, _), (0, _), (1, _)] dX11_cutsText_83 (by decide) rfl ?_
                  refine v_sub [3, 4, 1, 0] rfl ?_
                  obtain ⟨m, h⟩ := h
                  exact t_X11_cutsText_l85 C R (t_X11_cutsText_b124 C R ih he31 he286) m _ _ _ _ h
              · have h := h.1 q
                refine v_sub [1, 2] rfl ?_
                exact t_X11_cutsText_b67 C R ih he31 he286 _ _ h
      · have h := h.2 q
        refine v_sub [1] rfl ?_
        exact he31 _ h
def X11_cutsText_b31 (Q : Wd → Prop) (w : Wd) : Prop := X11_token 0 (w 65 4) 0 0 w (fun w31 => Q w31)
theorem t_X11_cutsText_b31 {Z : Zw} {E : Amb} {Q : Wd → Prop} (C : Cx Z (adA Z) E cX11_cutsText "HandleFacesModel" 8 rm_X11_cutsText) (R : Rt Z E none (qV Z Q)) : ∀ (w : Wd), X11_cutsText_b31 Q w → V Z (adA Z) E 8 w 31 [(0, rv Z 65)] [] := by
  intro w h
  unfold X11_cutsText_b31 at h
  refine v_aload_n C dX11_cutsText_31 0 rfl ?_
  refine v_iconst C dX11_cutsText_32 ?_
  refine v_aload_n C dX11_cutsText_33 0 rfl ?_
  refine g_X11_size C wd_1074 dX11_cutsText_34 ?_
  refine v_iconst C dX11_cutsText_37 ?_
  refine v_lconst (x := 0) C dX11_cutsText_38 (by decide) ?_
  refine v_callv C (rn_V C _ (m_X11_token h) mf_X11_token wd_1227 wp_45 wd_1225 rfl rfl ⟨(Nat.le_of_ble_eq_true rfl), (Nat.le_of_ble_eq_true rfl)⟩ rfl rfl rfl rfl (Nat.le_of_ble_eq_true rfl) dX11_cutsText_39) (fun w h => ?_)
  exact v_ret C R h dX11_cutsText_42
def X11_cutsText_b286 (Q : Wd → Prop) (w : Wd) : Prop := Q w
theorem t_X11_cutsText_b286 {Z : Zw} {E : Amb} {Q : Wd → Prop} (C : Cx Z (adA Z) E cX11_cutsText "HandleFacesModel" 8 rm_X11_cutsText) (R : Rt Z E none (qV Z Q)) : ∀ (w : Wd), X11_cutsText_b286 Q w → V Z (adA Z) E 8 w 286 [] [] := by
  intro w h
  unfold X11_cutsText_b286 at h
  exact v_ret C R h dX11_cutsText_286
def X11_cutsText (w : Wd) (Q : Wd → Prop) : Prop := (∀ w1, w1 = up w 65 10 0 → (∃ m, X11_cutsText_l7 Q (X11_cutsText_b31 Q) (X11_cutsText_b286 Q) m 0 w1))
theorem m_X11_cutsText {Z : Zw} {l : Launch} {w : Wd} {Q : Wd → Prop} (h : X11_cutsText w Q) : CtQ Z l yX11_cutsText cX11_cutsText 8 none rm_X11_cutsText [rv Z 65] w (qV Z Q) := by
  refine ct_of (by decide) (Nat.le_of_ble_eq_true rfl) (fun E eE C R => ?_)
  subst eE
  have C : Cx Z (adA Z) E cX11_cutsText "HandleFacesModel" 8 rm_X11_cutsText := C
  unfold X11_cutsText at h
  show V Z (adA Z) E 8 w 0 [(0, rv Z 65)] []
  refine v_aload_n C dX11_cutsText_0 0 rfl ?_
  refine v_iconst C dX11_cutsText_1 ?_
  refine p_X11_tokens C wd_1080 dX11_cutsText_2 ?_
  have h := h _ rfl
  refine v_iconst C dX11_cutsText_5 ?_
  refine v_istore_n C [(1, _), (0, _)] dX11_cutsText_6 1 rfl (by decide) rfl ?_
  refine v_sub [1, 0] rfl ?_
  obtain ⟨m, h⟩ := h
  exact t_X11_cutsText_l7 C R (t_X11_cutsText_b31 C R) (t_X11_cutsText_b286 C R) m _ _ h
abbrev rm_X11_is : Room := { frames := 0, cells := 0, slots := 0, locals := 0 }
theorem mf_X11_is : MfB yX11_is cX11_is 2 (some .boolean) 1 := ⟨wd_1242, wd_13, by decide, by decide, by decide +kernel⟩
def X11_is_b24 (Q : Int → Wd → Prop) (w : Wd) : Prop := Q 0 w
theorem t_X11_is_b24 {Z : Zw} {E : Amb} {Q : Int → Wd → Prop} (C : Cx Z (adA Z) E cX11_is "HandleFacesModel" 2 rm_X11_is) (R : Rt Z E (some .boolean) (qI Z Q)) : ∀ (w : Wd), X11_is_b24 Q w → V Z (adA Z) E 2 w 24 [] [] := by
  intro w h
  unfold X11_is_b24 at h
  refine v_iconst C dX11_is_24 ?_
  exact v_zret C R (Or.inl rfl) h dX11_is_25
def X11_is (x1 : Int) (w : Wd) (Q : Int → Wd → Prop) : Prop := ((wr (w 65 12) = 0 → (ix (w 65 11) 403 ∧ ((wr (rd w 68 (w 65 11)) = wr x1 → Q 1 w) ∧ (¬ wr (rd w 68 (w 65 11)) = wr x1 → X11_is_b24 Q w)))) ∧ (¬ wr (w 65 12) = 0 → X11_is_b24 Q w))
theorem m_X11_is {Z : Zw} {l : Launch} {x1 : Int} {w : Wd} {Q : Int → Wd → Prop} (h : X11_is x1 w Q) : CtQ Z l yX11_is cX11_is 2 (some .boolean) rm_X11_is [rv Z 65, iv x1] w (qI Z Q) := by
  refine ct_of (by decide) (Nat.le_of_ble_eq_true rfl) (fun E eE C R => ?_)
  subst eE
  have C : Cx Z (adA Z) E cX11_is "HandleFacesModel" 2 rm_X11_is := C
  unfold X11_is at h
  show V Z (adA Z) E 2 w 0 [(0, rv Z 65), (1, iv x1)] []
  refine v_aload_n C dX11_is_0 0 rfl ?_
  refine g_X11_fault C wd_1082 dX11_is_1 ?_
  refine v_if_ne C 24 dX11_is_4 (by decide) (fun q => ?_) (fun q => ?_)
  · have h := h.2 q
    refine v_sub [] rfl ?_
    exact t_X11_is_b24 C R _ h
  · have h := h.1 q
    refine v_aload_n C dX11_is_7 0 rfl ?_
    refine g_X11_tKind C wd_1075 dX11_is_8 ?_
    refine v_aload_n C dX11_is_11 0 rfl ?_
    refine g_X11_t C wd_1081 dX11_is_12 ?_
    refine v_iald C rfl h.1 dX11_is_15 ?_
    have h := h.2
    refine v_iload_n C dX11_is_16 1 rfl ?_
    refine v_icmp_ne C 24 dX11_is_17 (by decide) (fun q => ?_) (fun q => ?_)
    · have h := h.2 q
      refine v_sub [] rfl ?_
      exact t_X11_is_b24 C R _ h
    · have h := h.1 q
      refine v_iconst C dX11_is_20 ?_
      refine v_goto C 25 dX11_is_21 (by decide) ?_
      exact v_zret C R (Or.inr rfl) h dX11_is_25
abbrev rm_X11_fail : Room := { frames := 0, cells := 0, slots := 0, locals := 0 }
theorem mf_X11_fail : MfB yX11_fail cX11_fail 2 none 1 := ⟨wd_1250, wd_13, by decide, by decide, by decide +kernel⟩
def X11_fail (x1 : Int) (w : Wd) (Q : Wd → Prop) : Prop := ((wr (w 65 12) ≤ 0 → (∀ w1, w1 = up w 65 12 x1 → (ix (w1 65 11) 403 ∧ (∀ w2, w2 = up w1 65 13 (rd w1 69 (w1 65 11)) → Q w2)))) ∧ (¬ wr (w 65 12) ≤ 0 → Q w))
theorem m_X11_fail {Z : Zw} {l : Launch} {x1 : Int} {w : Wd} {Q : Wd → Prop} (h : X11_fail x1 w Q) : CtQ Z l yX11_fail cX11_fail 2 none rm_X11_fail [rv Z 65, iv x1] w (qV Z Q) := by
  refine ct_of (by decide) (Nat.le_of_ble_eq_true rfl) (fun E eE C R => ?_)
  subst eE
  have C : Cx Z (adA Z) E cX11_fail "HandleFacesModel" 2 rm_X11_fail := C
  unfold X11_fail at h
  show V Z (adA Z) E 2 w 0 [(0, rv Z 65), (1, iv x1)] []
  refine v_aload_n C dX11_fail_0 0 rfl ?_
  refine g_X11_fault C wd_1082 dX11_fail_1 ?_
  refine v_if_le C 8 dX11_fail_4 (by decide) (fun q => ?_) (fun q => ?_)
  · have h := h.1 q
    refine v_aload_n C dX11_fail_8 0 rfl ?_
    refine v_iload_n C dX11_fail_9 1 rfl ?_
    refine p_X11_fault C wd_1082 dX11_fail_10 ?_
    have h := h _ rfl
    refine v_aload_n C dX11_fail_13 0 rfl ?_
    refine v_aload_n C dX11_fail_14 0 rfl ?_
    refine g_X11_tPlace C wd_1076 dX11_fail_15 ?_
    refine v_aload_n C dX11_fail_18 0 rfl ?_
    refine g_X11_t C wd_1081 dX11_fail_19 ?_
    refine v_iald C rfl h.1 dX11_fail_22 ?_
    have h := h.2
    refine p_X11_faultPlace C wd_1083 dX11_fail_23 ?_
    have h := h _ rfl
    exact v_ret C R h dX11_fail_26
  · have h := h.2 q
    exact v_ret C R h dX11_fail_7
abbrev rm_X11_wrong : Room := { frames := 0, cells := 0, slots := 0, locals := 0 }
theorem mf_X11_wrong : MfB yX11_wrong cX11_wrong 4 none 2 := ⟨wd_1270, wd_13, by decide, by decide, by decide +kernel⟩
def X11_wrong (x1 : Int) (x2 : Int) (w : Wd) (Q : Wd → Prop) : Prop := (ix x2 403 ∧ (∀ y1, y1 = (rd w 69 x2) → ((0 < wr (w 65 12) → Q w) ∧ (¬ 0 < wr (w 65 12) → ((wr (w 65 14) = 0 → (∀ w2, w2 = up w 65 14 x1 → (∀ w3, w3 = up w2 65 15 y1 → Q w3))) ∧ (¬ wr (w 65 14) = 0 → ((wr (w 65 15) < wr y1 → Q w) ∧ (¬ wr (w 65 15) < wr y1 → ((wr y1 = wr (w 65 15) → ((wr x1 < wr (w 65 14) → (∀ w6, w6 = up w 65 14 x1 → (∀ w7, w7 = up w6 65 15 y1 → Q w7))) ∧ (¬ wr x1 < wr (w 65 14) → Q w))) ∧ (¬ wr y1 = wr (w 65 15) → (∀ w4, w4 = up w 65 14 x1 → (∀ w5, w5 = up w4 65 15 y1 → Q w5))))))))))))
theorem m_X11_wrong {Z : Zw} {l : Launch} {x1 : Int} {x2 : Int} {w : Wd} {Q : Wd → Prop} (h : X11_wrong x1 x2 w Q) : CtQ Z l yX11_wrong cX11_wrong 4 none rm_X11_wrong [rv Z 65, iv x1, iv x2] w (qV Z Q) := by
  refine ct_of (by decide) (Nat.le_of_ble_eq_true rfl) (fun E eE C R => ?_)
  subst eE
  have C : Cx Z (adA Z) E cX11_wrong "HandleFacesModel" 4 rm_X11_wrong := C
  unfold X11_wrong at h
  show V Z (adA Z) E 4 w 0 [(0, rv Z 65), (1, iv x1), (2, iv x2)] []
  refine v_aload_n C dX11_wrong_0 0 rfl ?_
  refine g_X11_tPlace C wd_1076 dX11_wrong_1 ?_
  refine v_iload_n C dX11_wrong_4 2 rfl ?_
  refine v_iald C rfl h.1 dX11_wrong_5 ?_
  have h := h.2
  refine v_istore_n C [(3, _), (0, _), (1, _), (2, _)] dX11_wrong_6 3 rfl (by decide) rfl ?_
  have h := h _ rfl
  refine v_aload_n C dX11_wrong_7 1 rfl ?_
  refine g_X11_fault C wd_1082 dX11_wrong_8 ?_
  refine v_if_gt C 45 dX11_wrong_11 (by decide) (fun q => ?_) (fun q => ?_)
  · have h := h.1 q
    exact v_ret C R h dX11_wrong_45
  · have h := h.2 q
    refine v_aload_n C dX11_wrong_14 1 rfl ?_
    refine g_X11_worst C wd_1084 dX11_wrong_15 ?_
    refine v_if_eq C 46 dX11_wrong_18 (by decide) (fun q => ?_) (fun q => ?_)
    · have h := h.1 q
      refine v_aload_n C dX11_wrong_46 1 rfl ?_
      refine v_iload_n C dX11_wrong_47 2 rfl ?_
      refine p_X11_worst C wd_1084 dX11_wrong_48 ?_
      have h := h _ rfl
      refine v_aload_n C dX11_wrong_51 1 rfl ?_
      refine v_iload_n C dX11_wrong_52 0 rfl ?_
      refine p_X11_worstPlace C wd_1085 dX11_wrong_53 ?_
      have h := h _ rfl
      exact v_ret C R h dX11_wrong_56
    · have h := h.2 q
      refine v_iload_n C dX11_wrong_21 0 rfl ?_
      refine v_aload_n C dX11_wrong_22 1 rfl ?_
      refine g_X11_worstPlace C wd_1085 dX11_wrong_23 ?_
      refine v_icmp_gt C 45 dX11_wrong_26 (by decide) (fun q => ?_) (fun q => ?_)
      · have h := h.1 q
        exact v_ret C R h dX11_wrong_45
      · have h := h.2 q
        refine v_iload_n C dX11_wrong_29 0 rfl ?_
        refine v_aload_n C dX11_wrong_30 1 rfl ?_
        refine g_X11_worstPlace C wd_1085 dX11_wrong_31 ?_
        refine v_icmp_ne C 46 dX11_wrong_34 (by decide) (fun q => ?_) (fun q => ?_)
        · have h := h.2 q
          refine v_aload_n C dX11_wrong_46 1 rfl ?_
          refine v_iload_n C dX11_wrong_47 2 rfl ?_
          refine p_X11_worst C wd_1084 dX11_wrong_48 ?_
          have h := h _ rfl
          refine v_aload_n C dX11_wrong_51 1 rfl ?_
          refine v_iload_n C dX11_wrong_52 0 rfl ?_
          refine p_X11_worstPlace C wd_1085 dX11_wrong_53 ?_
          have h := h _ rfl
          exact v_ret C R h dX11_wrong_56
        · have h := h.1 q
          refine v_iload_n C dX11_wrong_37 2 rfl ?_
          refine v_aload_n C dX11_wrong_38 1 rfl ?_
          refine g_X11_worst C wd_1084 dX11_wrong_39 ?_
          refine v_icmp_lt C 46 dX11_wrong_42 (by decide) (fun q => ?_) (fun q => ?_)
          · have h := h.1 q
            refine v_aload_n C dX11_wrong_46 1 rfl ?_
            refine v_iload_n C dX11_wrong_47 2 rfl ?_
            refine p_X11_worst C wd_1084 dX11_wrong_48 ?_
            have h := h _ rfl
            refine v_aload_n C dX11_wrong_51 1 rfl ?_
            refine v_iload_n C dX11_wrong_52 0 rfl ?_
            refine p_X11_worstPlace C wd_1085 dX11_wrong_53 ?_
            have h := h _ rfl
            exact v_ret C R h dX11_wrong_56
          · have h := h.2 q
            exact v_ret C R h dX11_wrong_45
abbrev rm_X11_passes : Room := { frames := 1, cells := 0, slots := 0, locals := 21 }
theorem mf_X11_passes : MfB yX11_passes cX11_passes 1 none 0 := ⟨wd_1254, wd_13, by decide, by decide, by decide +kernel⟩
def X11_passes (w : Wd) (Q : Wd → Prop) : Prop := ((wr (w 65 11) = wr 400 → X11_fail 2 w (fun w2 => Q w2)) ∧ (¬ wr (w 65 11) = wr 400 → (∀ w1, w1 = up w 65 11 ((w 65 11) + 1) → Q w1)))
theorem m_X11_passes {Z : Zw} {l : Launch} {w : Wd} {Q : Wd → Prop} (h : X11_passes w Q) : CtQ Z l yX11_passes cX11_passes 1 none rm_X11_passes [rv Z 65] w (qV Z Q) := by
  refine ct_of (by decide) (Nat.le_of_ble_eq_true rfl) (fun E eE C R => ?_)
  subst eE
  have C : Cx Z (adA Z) E cX11_passes "HandleFacesModel" 1 rm_X11_passes := C
  unfold X11_passes at h
  show V Z (adA Z) E 1 w 0 [(0, rv Z 65)] []
  refine v_aload_n C dX11_passes_0 0 rfl ?_
  refine g_X11_t C wd_1081 dX11_passes_1 ?_
  refine v_sipush C dX11_passes_4 (by decide) ?_
  refine v_icmp_ne C 18 dX11_passes_7 (by decide) (fun q => ?_) (fun q => ?_)
  · have h := h.2 q
    refine v_aload_n C dX11_passes_18 0 rfl ?_
    refine v_dup C dX11_passes_19 rfl ?_
    refine g_X11_t C wd_1081 dX11_passes_20 ?_
    refine v_iconst C dX11_passes_23 ?_
    refine v_iadd C dX11_passes_24 ?_
    refine p_X11_t C wd_1081 dX11_passes_25 ?_
    have h := h _ rfl
    exact v_ret C R h dX11_passes_28
  · have h := h.1 q
    refine v_aload_n C dX11_passes_10 0 rfl ?_
    refine v_iconst C dX11_passes_11 ?_
    refine v_callv C (rn_V C _ (m_X11_fail h) mf_X11_fail wd_1249 wp_49 wd_1247 rfl rfl ⟨(Nat.le_of_ble_eq_true rfl), (Nat.le_of_ble_eq_true rfl)⟩ rfl rfl rfl rfl (Nat.le_of_ble_eq_true rfl) dX11_passes_12) (fun w h => ?_)
    refine v_goto C 28 dX11_passes_15 (by decide) ?_
    exact v_ret C R h dX11_passes_28
abbrev rm_X11_must : Room := { frames := 2, cells := 0, slots := 0, locals := 41 }
theorem mf_X11_must : MfB yX11_must cX11_must 2 none 1 := ⟨wd_1258, wd_13, by decide, by decide, by decide +kernel⟩
def X11_must (x1 : Int) (w : Wd) (Q : Wd → Prop) : Prop := X11_is x1 w (fun y2 w1 => ((wr y2 = 0 → X11_fail 1 w1 (fun w3 => Q w3)) ∧ (¬ wr y2 = 0 → X11_passes w1 (fun w4 => Q w4))))
theorem m_X11_must {Z : Zw} {l : Launch} {x1 : Int} {w : Wd} {Q : Wd → Prop} (h : X11_must x1 w Q) : CtQ Z l yX11_must cX11_must 2 none rm_X11_must [rv Z 65, iv x1] w (qV Z Q) := by
  refine ct_of (by decide) (Nat.le_of_ble_eq_true rfl) (fun E eE C R => ?_)
  subst eE
  have C : Cx Z (adA Z) E cX11_must "HandleFacesModel" 2 rm_X11_must := C
  unfold X11_must at h
  show V Z (adA Z) E 2 w 0 [(0, rv Z 65), (1, iv x1)] []
  refine v_aload_n C dX11_must_0 0 rfl ?_
  refine v_iload_n C dX11_must_1 1 rfl ?_
  refine v_calli C (rn_V C _ (m_X11_is h) mf_X11_is wd_1241 wp_47 wd_1239 rfl rfl ⟨(Nat.le_of_ble_eq_true rfl), (Nat.le_of_ble_eq_true rfl)⟩ rfl rfl rfl rfl (Nat.le_of_ble_eq_true rfl) dX11_must_2) (fun r w h => ?_)
  refine v_if_eq C 15 dX11_must_5 (by decide) (fun q => ?_) (fun q => ?_)
  · have h := h.1 q
    refine v_aload_n C dX11_must_15 0 rfl ?_
    refine v_iconst C dX11_must_16 ?_
    refine v_callv C (rn_V C _ (m_X11_fail h) mf_X11_fail wd_1249 wp_49 wd_1247 rfl rfl ⟨(Nat.le_of_ble_eq_true rfl), (Nat.le_of_ble_eq_true rfl)⟩ rfl rfl rfl rfl (Nat.le_of_ble_eq_true rfl) dX11_must_17) (fun w h => ?_)
    exact v_ret C R h dX11_must_20
  · have h := h.2 q
    refine v_aload_n C dX11_must_8 0 rfl ?_
    refine v_callv C (rn_V C _ (m_X11_passes h) mf_X11_passes wd_1253 wp_50 wd_1251 rfl rfl ⟨(Nat.le_of_ble_eq_true rfl), (Nat.le_of_ble_eq_true rfl)⟩ rfl rfl rfl rfl (Nat.le_of_ble_eq_true rfl) dX11_must_9) (fun w h => ?_)
    refine v_goto C 20 dX11_must_12 (by decide) ?_
    exact v_ret C R h dX11_must_20
abbrev rm_X11_tell : Room := { frames := 3, cells := 0, slots := 0, locals := 62 }
theorem mf_X11_tell : MfB yX11_tell cX11_tell 1 none 0 := ⟨wd_1246, wd_13, by decide, by decide, by decide +kernel⟩
def X11_tell_l133 (Q : Wd → Prop) (e154 : Wd → Prop) : Nat → Wd → Prop
  | 0 => fun _ => False
  | n + 1 => fun w => X11_is 2 w (fun y12 w11 => ((wr y12 = 0 → e154 w11) ∧ (¬ wr y12 = 0 → X11_passes w11 (fun w13 => (X11_tell_l133 Q e154 n) w13))))
theorem t_X11_tell_l133 {Z : Zw} {E : Amb} {Q : Wd → Prop} {e154 : Wd → Prop} (C : Cx Z (adA Z) E cX11_tell "HandleFacesModel" 1 rm_X11_tell) (R : Rt Z E none (qV Z Q)) (he154 : ∀ (w : Wd), e154 w → V Z (adA Z) E 1 w 154 [(0, rv Z 65)] []) : ∀ (n : Nat) (w : Wd), X11_tell_l133 Q e154 n w → V Z (adA Z) E 1 w 133 [(0, rv Z 65)] [] := by
  intro n
  induction n with
  | zero => intro w h; exact h.elim
  | succ n ih =>
    intro w h
    unfold X11_tell_l133 at h
    refine v_aload_n C dX11_tell_133 0 rfl ?_
    refine v_iconst C dX11_tell_134 ?_
    refine v_calli C (rn_V C _ (m_X11_is h) mf_X11_is wd_1241 wp_47 wd_1239 rfl rfl ⟨(Nat.le_of_ble_eq_true rfl), (Nat.le_of_ble_eq_true rfl)⟩ rfl rfl rfl rfl (Nat.le_of_ble_eq_true rfl) dX11_tell_135) (fun r w h => ?_)
    refine v_if_eq C 154 dX11_tell_138 (by decide) (fun q => ?_) (fun q => ?_)
    · have h := h.1 q
      exact he154 _ h
    · have h := h.2 q
      refine v_aload_n C dX11_tell_141 0 rfl ?_
      refine v_callv C (rn_V C _ (m_X11_passes h) mf_X11_passes wd_1253 wp_50 wd_1251 rfl rfl ⟨(Nat.le_of_ble_eq_true rfl), (Nat.le_of_ble_eq_true rfl)⟩ rfl rfl rfl rfl (Nat.le_of_ble_eq_true rfl) dX11_tell_142) (fun w h => ?_)
      refine v_goto C 133 dX11_tell_145 (by decide) ?_
      exact ih _ h
def X11_tell_b154 (Q : Wd → Prop) (w : Wd) : Prop := X11_must 4 w (fun w14 => Q w14)
theorem t_X11_tell_b154 {Z : Zw} {E : Amb} {Q : Wd → Prop} (C : Cx Z (adA Z) E cX11_tell "HandleFacesModel" 1 rm_X11_tell) (R : Rt Z E none (qV Z Q)) : ∀ (w : Wd), X11_tell_b154 Q w → V Z (adA Z) E 1 w 154 [(0, rv Z 65)] [] := by
  intro w h
  unfold X11_tell_b154 at h
  refine v_aload_n C dX11_tell_154 0 rfl ?_
  refine v_iconst C dX11_tell_155 ?_
  refine v_callv C (rn_V C _ (m_X11_must h) mf_X11_must wd_1257 wp_51 wd_1255 rfl rfl ⟨(Nat.le_of_ble_eq_true rfl), (Nat.le_of_ble_eq_true rfl)⟩ rfl rfl rfl rfl (Nat.le_of_ble_eq_true rfl) dX11_tell_156) (fun w h => ?_)
  exact v_ret C R h dX11_tell_159
def X11_tell (w : Wd) (Q : Wd → Prop) : Prop := X11_is 20 w (fun y2 w1 => ((wr y2 = 0 → X11_is 21 w1 (fun y4 w3 => ((wr y4 = 0 → X11_is 23 w3 (fun y6 w5 => ((wr y6 = 0 → X11_fail 1 w5 (fun w7 => Q w7)) ∧ (¬ wr y6 = 0 → X11_passes w5 (fun w8 => X11_must 1 w8 (fun w9 => X11_must 2 w9 (fun w10 => (∃ m, X11_tell_l133 Q (X11_tell_b154 Q) m w10)))))))) ∧ (¬ wr y4 = 0 → ((wr (w3 65 21) = wr 10 → X11_fail 2 w3 (fun w22 => Q w22)) ∧ (¬ wr (w3 65 21) = wr 10 → (∀ w15, w15 = up w3 65 21 ((w3 65 21) + 1) → X11_passes w15 (fun w16 => X11_must 1 w16 (fun w17 => X11_must 1 w17 (fun w18 => X11_is 22 w18 (fun y20 w19 => ((wr y20 = 0 → X11_tell_b154 Q w19) ∧ (¬ wr y20 = 0 → X11_passes w19 (fun w21 => X11_tell_b154 Q w21)))))))))))))) ∧ (¬ wr y2 = 0 → ((wr (w1 65 20) = wr 6 → X11_fail 2 w1 (fun w26 => Q w26)) ∧ (¬ wr (w1 65 20) = wr 6 → (∀ w23, w23 = up w1 65 20 ((w1 65 20) + 1) → X11_passes w23 (fun w24 => X11_must 1 w24 (fun w25 => X11_tell_b154 Q w25))))))))
theorem m_X11_tell {Z : Zw} {l : Launch} {w : Wd} {Q : Wd → Prop} (h : X11_tell w Q) : CtQ Z l yX11_tell cX11_tell 1 none rm_X11_tell [rv Z 65] w (qV Z Q) := by
  refine ct_of (by decide) (Nat.le_of_ble_eq_true rfl) (fun E eE C R => ?_)
  subst eE
  have C : Cx Z (adA Z) E cX11_tell "HandleFacesModel" 1 rm_X11_tell := C
  unfold X11_tell at h
  show V Z (adA Z) E 1 w 0 [(0, rv Z 65)] []
  refine v_aload_n C dX11_tell_0 0 rfl ?_
  refine v_bipush C dX11_tell_1 (by decide) ?_
  refine v_calli C (rn_V C _ (m_X11_is h) mf_X11_is wd_1241 wp_47 wd_1239 rfl rfl ⟨(Nat.le_of_ble_eq_true rfl), (Nat.le_of_ble_eq_true rfl)⟩ rfl rfl rfl rfl (Nat.le_of_ble_eq_true rfl) dX11_tell_3) (fun r w h => ?_)
  refine v_if_eq C 46 dX11_tell_6 (by decide) (fun q => ?_) (fun q => ?_)
  · have h := h.1 q
    refine v_aload_n C dX11_tell_46 0 rfl ?_
    refine v_bipush C dX11_tell_47 (by decide) ?_
    refine v_calli C (rn_V C _ (m_X11_is h) mf_X11_is wd_1241 wp_47 wd_1239 rfl rfl ⟨(Nat.le_of_ble_eq_true rfl), (Nat.le_of_ble_eq_true rfl)⟩ rfl rfl rfl rfl (Nat.le_of_ble_eq_true rfl) dX11_tell_49) (fun r w h => ?_)
    refine v_if_eq C 110 dX11_tell_52 (by decide) (fun q => ?_) (fun q => ?_)
    · have h := h.1 q
      refine v_aload_n C dX11_tell_110 0 rfl ?_
      refine v_bipush C dX11_tell_111 (by decide) ?_
      refine v_calli C (rn_V C _ (m_X11_is h) mf_X11_is wd_1241 wp_47 wd_1239 rfl rfl ⟨(Nat.le_of_ble_eq_true rfl), (Nat.le_of_ble_eq_true rfl)⟩ rfl rfl rfl rfl (Nat.le_of_ble_eq_true rfl) dX11_tell_113) (fun r w h => ?_)
      refine v_if_eq C 148 dX11_tell_116 (by decide) (fun q => ?_) (fun q => ?_)
      · have h := h.1 q
        refine v_aload_n C dX11_tell_148 0 rfl ?_
        refine v_iconst C dX11_tell_149 ?_
        refine v_callv C (rn_V C _ (m_X11_fail h) mf_X11_fail wd_1249 wp_49 wd_1247 rfl rfl ⟨(Nat.le_of_ble_eq_true rfl), (Nat.le_of_ble_eq_true rfl)⟩ rfl rfl rfl rfl (Nat.le_of_ble_eq_true rfl) dX11_tell_150) (fun w h => ?_)
        exact v_ret C R h dX11_tell_153
      · have h := h.2 q
        refine v_aload_n C dX11_tell_119 0 rfl ?_
        refine v_callv C (rn_V C _ (m_X11_passes h) mf_X11_passes wd_1253 wp_50 wd_1251 rfl rfl ⟨(Nat.le_of_ble_eq_true rfl), (Nat.le_of_ble_eq_true rfl)⟩ rfl rfl rfl rfl (Nat.le_of_ble_eq_true rfl) dX11_tell_120) (fun w h => ?_)
        refine v_aload_n C dX11_tell_123 0 rfl ?_
        refine v_iconst C dX11_tell_124 ?_
        refine v_callv C (rn_V C _ (m_X11_must h) mf_X11_must wd_1257 wp_51 wd_1255 rfl rfl ⟨(Nat.le_of_ble_eq_true rfl), (Nat.le_of_ble_eq_true rfl)⟩ rfl rfl rfl rfl (Nat.le_of_ble_eq_true rfl) dX11_tell_125) (fun w h => ?_)
        refine v_aload_n C dX11_tell_128 0 rfl ?_
        refine v_iconst C dX11_tell_129 ?_
        refine v_callv C (rn_V C _ (m_X11_must h) mf_X11_must wd_1257 wp_51 wd_1255 rfl rfl ⟨(Nat.le_of_ble_eq_true rfl), (Nat.le_of_ble_eq_true rfl)⟩ rfl rfl rfl rfl (Nat.le_of_ble_eq_true rfl) dX11_tell_130) (fun w h => ?_)
        obtain ⟨m, h⟩ := h
        exact t_X11_tell_l133 C R (t_X11_tell_b154 C R) m _ h
    · have h := h.2 q
      refine v_aload_n C dX11_tell_55 0 rfl ?_
      refine g_X11_newLines C wd_1091 dX11_tell_56 ?_
      refine v_bipush C dX11_tell_59 (by decide) ?_
      refine v_icmp_ne C 70 dX11_tell_61 (by decide) (fun q => ?_) (fun q => ?_)
      · have h := h.2 q
        refine v_aload_n C dX11_tell_70 0 rfl ?_
        refine v_dup C dX11_tell_71 rfl ?_
        refine g_X11_newLines C wd_1091 dX11_tell_72 ?_
        refine v_iconst C dX11_tell_75 ?_
        refine v_iadd C dX11_tell_76 ?_
        refine p_X11_newLines C wd_1091 dX11_tell_77 ?_
        have h := h _ rfl
        refine v_aload_n C dX11_tell_80 0 rfl ?_
        refine v_callv C (rn_V C _ (m_X11_passes h) mf_X11_passes wd_1253 wp_50 wd_1251 rfl rfl ⟨(Nat.le_of_ble_eq_true rfl), (Nat.le_of_ble_eq_true rfl)⟩ rfl rfl rfl rfl (Nat.le_of_ble_eq_true rfl) dX11_tell_81) (fun w h => ?_)
        refine v_aload_n C dX11_tell_84 0 rfl ?_
        refine v_iconst C dX11_tell_85 ?_
        refine v_callv C (rn_V C _ (m_X11_must h) mf_X11_must wd_1257 wp_51 wd_1255 rfl rfl ⟨(Nat.le_of_ble_eq_true rfl), (Nat.le_of_ble_eq_true rfl)⟩ rfl rfl rfl rfl (Nat.le_of_ble_eq_true rfl) dX11_tell_86) (fun w h => ?_)
        refine v_aload_n C dX11_tell_89 0 rfl ?_
        refine v_iconst C dX11_tell_90 ?_
        refine v_callv C (rn_V C _ (m_X11_must h) mf_X11_must wd_1257 wp_51 wd_1255 rfl rfl ⟨(Nat.le_of_ble_eq_true rfl), (Nat.le_of_ble_eq_true rfl)⟩ rfl rfl rfl rfl (Nat.le_of_ble_eq_true rfl) dX11_tell_91) (fun w h => ?_)
        refine v_aload_n C dX11_tell_94 0 rfl ?_
        refine v_bipush C dX11_tell_95 (by decide) ?_
        refine v_calli C (rn_V C _ (m_X11_is h) mf_X11_is wd_1241 wp_47 wd_1239 rfl rfl ⟨(Nat.le_of_ble_eq_true rfl), (Nat.le_of_ble_eq_true rfl)⟩ rfl rfl rfl rfl (Nat.le_of_ble_eq_true rfl) dX11_tell_97) (fun r w h => ?_)
        refine v_if_eq C 154 dX11_tell_100 (by decide) (fun q => ?_) (fun q => ?_)
        · have h := h.1 q
          exact t_X11_tell_b154 C R _ h
        · have h := h.2 q
          refine v_aload_n C dX11_tell_103 0 rfl ?_
          refine v_callv C (rn_V C _ (m_X11_passes h) mf_X11_passes wd_1253 wp_50 wd_1251 rfl rfl ⟨(Nat.le_of_ble_eq_true rfl), (Nat.le_of_ble_eq_true rfl)⟩ rfl rfl rfl rfl (Nat.le_of_ble_eq_true rfl) dX11_tell_104) (fun w h => ?_)
          refine v_goto C 154 dX11_tell_107 (by decide) ?_
          exact t_X11_tell_b154 C R _ h
      · have h := h.1 q
        refine v_aload_n C dX11_tell_64 0 rfl ?_
        refine v_iconst C dX11_tell_65 ?_
        refine v_callv C (rn_V C _ (m_X11_fail h) mf_X11_fail wd_1249 wp_49 wd_1247 rfl rfl ⟨(Nat.le_of_ble_eq_true rfl), (Nat.le_of_ble_eq_true rfl)⟩ rfl rfl rfl rfl (Nat.le_of_ble_eq_true rfl) dX11_tell_66) (fun w h => ?_)
        exact v_ret C R h dX11_tell_69
  · have h := h.2 q
    refine v_aload_n C dX11_tell_9 0 rfl ?_
    refine g_X11_newPosts C wd_1090 dX11_tell_10 ?_
    refine v_bipush C dX11_tell_13 (by decide) ?_
    refine v_icmp_ne C 24 dX11_tell_15 (by decide) (fun q => ?_) (fun q => ?_)
    · have h := h.2 q
      refine v_aload_n C dX11_tell_24 0 rfl ?_
      refine v_dup C dX11_tell_25 rfl ?_
      refine g_X11_newPosts C wd_1090 dX11_tell_26 ?_
      refine v_iconst C dX11_tell_29 ?_
      refine v_iadd C dX11_tell_30 ?_
      refine p_X11_newPosts C wd_1090 dX11_tell_31 ?_
      have h := h _ rfl
      refine v_aload_n C dX11_tell_34 0 rfl ?_
      refine v_callv C (rn_V C _ (m_X11_passes h) mf_X11_passes wd_1253 wp_50 wd_1251 rfl rfl ⟨(Nat.le_of_ble_eq_true rfl), (Nat.le_of_ble_eq_true rfl)⟩ rfl rfl rfl rfl (Nat.le_of_ble_eq_true rfl) dX11_tell_35) (fun w h => ?_)
      refine v_aload_n C dX11_tell_38 0 rfl ?_
      refine v_iconst C dX11_tell_39 ?_
      refine v_callv C (rn_V C _ (m_X11_must h) mf_X11_must wd_1257 wp_51 wd_1255 rfl rfl ⟨(Nat.le_of_ble_eq_true rfl), (Nat.le_of_ble_eq_true rfl)⟩ rfl rfl rfl rfl (Nat.le_of_ble_eq_true rfl) dX11_tell_40) (fun w h => ?_)
      refine v_goto C 154 dX11_tell_43 (by decide) ?_
      exact t_X11_tell_b154 C R _ h
    · have h := h.1 q
      refine v_aload_n C dX11_tell_18 0 rfl ?_
      refine v_iconst C dX11_tell_19 ?_
      refine v_callv C (rn_V C _ (m_X11_fail h) mf_X11_fail wd_1249 wp_49 wd_1247 rfl rfl ⟨(Nat.le_of_ble_eq_true rfl), (Nat.le_of_ble_eq_true rfl)⟩ rfl rfl rfl rfl (Nat.le_of_ble_eq_true rfl) dX11_tell_20) (fun w h => ?_)
      exact v_ret C R h dX11_tell_23
abbrev rm_X11_named : Room := { frames := 0, cells := 0, slots := 0, locals := 0 }
theorem mf_X11_named : MfB yX11_named cX11_named 4 (some .int) 1 := ⟨wd_1266, wd_13, by decide, by decide, by decide +kernel⟩
def X11_named_l2 (Q : Int → Wd → Prop) (e21 : Int → Wd → Prop) (e29 : Wd → Prop) : Nat → Int → Int → Wd → Prop
  | 0 => fun _ _ _ => False
  | n + 1 => fun x1 x3 w => ((wr (w 65 20) ≤ wr x3 → e29 w) ∧ (¬ wr (w 65 20) ≤ wr x3 → (ix x3 6 ∧ ((wr (lcm (rd w 75 x3) x1) = 0 → e21 x3 w) ∧ (¬ wr (lcm (rd w 75 x3) x1) = 0 → (X11_named_l2 Q e21 e29 n) x1 (x3 + 1) w)))))
theorem t_X11_named_l2 {Z : Zw} {E : Amb} {Q : Int → Wd → Prop} {e21 : Int → Wd → Prop} {e29 : Wd → Prop} (C : Cx Z (adA Z) E cX11_named "HandleFacesModel" 4 rm_X11_named) (R : Rt Z E (some .int) (qI Z Q)) (he21 : ∀ (x3 : Int) (w : Wd), e21 x3 w → V Z (adA Z) E 4 w 21 [(3, iv x3)] []) (he29 : ∀ (w : Wd), e29 w → V Z (adA Z) E 4 w 29 [] []) : ∀ (n : Nat) (x1 : Int) (x3 : Int) (w : Wd), X11_named_l2 Q e21 e29 n x1 x3 w → V Z (adA Z) E 4 w 2 [(0, rv Z 65), (1, jv x1), (3, iv x3)] [] := by
  intro n
  induction n with
  | zero => intro x1 x3 w h; exact h.elim
  | succ n ih =>
    intro x1 x3 w h
    unfold X11_named_l2 at h
    refine v_iload_n C dX11_named_2 2 rfl ?_
    refine v_aload_n C dX11_named_3 0 rfl ?_
    refine g_X11_newPosts C wd_1090 dX11_named_4 ?_
    refine v_icmp_ge C 29 dX11_named_7 (by decide) (fun q => ?_) (fun q => ?_)
    · have h := h.1 q
      refine v_sub [] rfl ?_
      exact he29 _ h
    · have h := h.2 q
      refine v_aload_n C dX11_named_10 0 rfl ?_
      refine g_X11_names C wd_1089 dX11_named_11 ?_
      refine v_iload_n C dX11_named_14 2 rfl ?_
      refine v_lald C rfl h.1 dX11_named_15 ?_
      have h := h.2
      refine v_lload_n C dX11_named_16 1 rfl ?_
      refine v_lcmp C dX11_named_17 ?_
      refine v_if_ne C 23 dX11_named_18 (by decide) (fun q => ?_) (fun q => ?_)
      · have h := h.2 q
        refine v_iinc C [(3, _), (0, _), (1, _)] dX11_named_23 2 rfl (by decide) rfl ?_
        refine v_goto C 2 dX11_named_26 (by decide) ?_
        refine v_sub [1, 2, 0] rfl ?_
        exact ih _ _ _ h
      · have h := h.1 q
        refine v_sub [2] rfl ?_
        exact he21 _ _ h
def X11_named_b21 (Q : Int → Wd → Prop) (x3 : Int) (w : Wd) : Prop := Q (wr x3) w
theorem t_X11_named_b21 {Z : Zw} {E : Amb} {Q : Int → Wd → Prop} (C : Cx Z (adA Z) E cX11_named "HandleFacesModel" 4 rm_X11_named) (R : Rt Z E (some .int) (qI Z Q)) : ∀ (x3 : Int) (w : Wd), X11_named_b21 Q x3 w → V Z (adA Z) E 4 w 21 [(3, iv x3)] [] := by
  intro x3 w h
  unfold X11_named_b21 at h
  refine v_iload_n C dX11_named_21 0 rfl ?_
  exact v_iret C R h dX11_named_22
def X11_named_b29 (Q : Int → Wd → Prop) (w : Wd) : Prop := Q (wr (-1)) w
theorem t_X11_named_b29 {Z : Zw} {E : Amb} {Q : Int → Wd → Prop} (C : Cx Z (adA Z) E cX11_named "HandleFacesModel" 4 rm_X11_named) (R : Rt Z E (some .int) (qI Z Q)) : ∀ (w : Wd), X11_named_b29 Q w → V Z (adA Z) E 4 w 29 [] [] := by
  intro w h
  unfold X11_named_b29 at h
  refine v_iconst C dX11_named_29 ?_
  exact v_iret C R h dX11_named_30
def X11_named (x1 : Int) (w : Wd) (Q : Int → Wd → Prop) : Prop := (∃ m, X11_named_l2 Q (X11_named_b21 Q) (X11_named_b29 Q) m x1 0 w)
theorem m_X11_named {Z : Zw} {l : Launch} {x1 : Int} {w : Wd} {Q : Int → Wd → Prop} (h : X11_named x1 w Q) : CtQ Z l yX11_named cX11_named 4 (some .int) rm_X11_named [rv Z 65, jv x1] w (qI Z Q) := by
  refine ct_of (by decide) (Nat.le_of_ble_eq_true rfl) (fun E eE C R => ?_)
  subst eE
  have C : Cx Z (adA Z) E cX11_named "HandleFacesModel" 4 rm_X11_named := C
  unfold X11_named at h
  show V Z (adA Z) E 4 w 0 [(0, rv Z 65), (1, jv x1)] []
  refine v_iconst C dX11_named_0 ?_
  refine v_istore_n C [(3, _), (0, _), (1, _)] dX11_named_1 3 rfl (by decide) rfl ?_
  refine v_sub [1, 2, 0] rfl ?_
  obtain ⟨m, h⟩ := h
  exact t_X11_named_l2 C R (t_X11_named_b21 C R) (t_X11_named_b29 C R) m _ _ _ h
abbrev rm_X11_meansLine : Room := { frames := 1, cells := 0, slots := 0, locals := 23 }
theorem mf_X11_meansLine : MfB yX11_meansLine cX11_meansLine 4 none 1 := ⟨wd_1274, wd_13, by decide, by decide, by decide +kernel⟩
def X11_meansLine_b36 (Q : Wd → Prop) (c2 : Int → Int → Wd → Prop) (e58 : Int → Wd → Prop) (x1 : Int) (x2 : Int) (x3 : Int) (w : Wd) : Prop := (ix ((2 + (2 * (w 65 21))) + x2) 98 ∧ (∀ w3, w3 = wt w 74 ((2 + (2 * (w 65 21))) + x2) x3 → c2 x1 (x2 + 1) w3))
theorem t_X11_meansLine_b36 {Z : Zw} {E : Amb} {Q : Wd → Prop} {c2 : Int → Int → Wd → Prop} {e58 : Int → Wd → Prop} (C : Cx Z (adA Z) E cX11_meansLine "HandleFacesModel" 4 rm_X11_meansLine) (R : Rt Z E none (qV Z Q)) (hc2 : ∀ (x1 : Int) (x2 : Int) (w : Wd), c2 x1 x2 w → V Z (adA Z) E 4 w 2 [(0, rv Z 65), (1, iv x1), (2, iv x2)] []) (he58 : ∀ (x1 : Int) (w : Wd), e58 x1 w → V Z (adA Z) E 4 w 58 [(0, rv Z 65), (1, iv x1)] []) : ∀ (x1 : Int) (x2 : Int) (x3 : Int) (w : Wd), X11_meansLine_b36 Q c2 e58 x1 x2 x3 w → V Z (adA Z) E 4 w 36 [(0, rv Z 65), (1, iv x1), (2, iv x2), (3, iv x3)] [] := by
  intro x1 x2 x3 w h
  unfold X11_meansLine_b36 at h
  refine v_aload_n C dX11_meansLine_36 0 rfl ?_
  refine g_X11_fresh C wd_1088 dX11_meansLine_37 ?_
  refine v_iconst C dX11_meansLine_40 ?_
  refine v_iconst C dX11_meansLine_41 ?_
  refine v_aload_n C dX11_meansLine_42 0 rfl ?_
  refine g_X11_newLines C wd_1091 dX11_meansLine_43 ?_
  refine v_imul C dX11_meansLine_46 ?_
  refine v_iadd C dX11_meansLine_47 ?_
  refine v_iload_n C dX11_meansLine_48 2 rfl ?_
  refine v_iadd C dX11_meansLine_49 ?_
  refine v_iload_n C dX11_meansLine_50 3 rfl ?_
  refine v_iast C rfl h.1 dX11_meansLine_51 ?_
  have h := h.2
  have h := h _ rfl
  refine v_iinc C [(2, _), (0, _), (1, _), (3, _)] dX11_meansLine_52 2 rfl (by decide) rfl ?_
  refine v_goto C 2 dX11_meansLine_55 (by decide) ?_
  refine v_sub [1, 2, 0] rfl ?_
  exact hc2 _ _ _ h
def X11_meansLine_l2 (Q : Wd → Prop) (e58 : Int → Wd → Prop) : Nat → Int → Int → Wd → Prop
  | 0 => fun _ _ _ => False
  | n + 1 => fun x1 x2 w => ((wr 2 ≤ wr x2 → e58 x1 w) ∧ (¬ wr 2 ≤ wr x2 → (ix ((x1 + 1) + x2) 403 ∧ X11_named (rd w 71 ((x1 + 1) + x2)) w (fun y2 w1 => ((0 ≤ wr y2 → X11_meansLine_b36 Q (X11_meansLine_l2 Q e58 n) e58 x1 x2 y2 w1) ∧ (¬ 0 ≤ wr y2 → X11_wrong 4 ((x1 + 1) + x2) w1 (fun w4 => X11_meansLine_b36 Q (X11_meansLine_l2 Q e58 n) e58 x1 x2 y2 w4)))))))
theorem t_X11_meansLine_l2 {Z : Zw} {E : Amb} {Q : Wd → Prop} {e58 : Int → Wd → Prop} (C : Cx Z (adA Z) E cX11_meansLine "HandleFacesModel" 4 rm_X11_meansLine) (R : Rt Z E none (qV Z Q)) (he58 : ∀ (x1 : Int) (w : Wd), e58 x1 w → V Z (adA Z) E 4 w 58 [(0, rv Z 65), (1, iv x1)] []) : ∀ (n : Nat) (x1 : Int) (x2 : Int) (w : Wd), X11_meansLine_l2 Q e58 n x1 x2 w → V Z (adA Z) E 4 w 2 [(0, rv Z 65), (1, iv x1), (2, iv x2)] [] := by
  intro n
  induction n with
  | zero => intro x1 x2 w h; exact h.elim
  | succ n ih =>
    intro x1 x2 w h
    unfold X11_meansLine_l2 at h
    refine v_iload_n C dX11_meansLine_2 2 rfl ?_
    refine v_iconst C dX11_meansLine_3 ?_
    refine v_icmp_ge C 58 dX11_meansLine_4 (by decide) (fun q => ?_) (fun q => ?_)
    · have h := h.1 q
      refine v_sub [0, 1] rfl ?_
      exact he58 _ _ h
    · have h := h.2 q
      refine v_aload_n C dX11_meansLine_7 0 rfl ?_
      refine v_aload_n C dX11_meansLine_8 0 rfl ?_
      refine g_X11_tName C wd_1078 dX11_meansLine_9 ?_
      refine v_iload_n C dX11_meansLine_12 1 rfl ?_
      refine v_iconst C dX11_meansLine_13 ?_
      refine v_iadd C dX11_meansLine_14 ?_
      refine v_iload_n C dX11_meansLine_15 2 rfl ?_
      refine v_iadd C dX11_meansLine_16 ?_
      refine v_lald C rfl h.1 dX11_meansLine_17 ?_
      have h := h.2
      refine v_calli C (rn_V C _ (m_X11_named h) mf_X11_named wd_1265 wp_53 wd_1263 rfl rfl ⟨(Nat.le_of_ble_eq_true rfl), (Nat.le_of_ble_eq_true rfl)⟩ rfl rfl rfl rfl (Nat.le_of_ble_eq_true rfl) dX11_meansLine_18) (fun r w h => ?_)
      refine v_istore_n C [(3, _), (0, _), (1, _), (2, _)] dX11_meansLine_21 3 rfl (by decide) rfl ?_
      refine v_iload_n C dX11_meansLine_22 0 rfl ?_
      refine v_if_ge C 36 dX11_meansLine_23 (by decide) (fun q => ?_) (fun q => ?_)
      · have h := h.1 q
        refine v_sub [1, 2, 3, 0] rfl ?_
        exact t_X11_meansLine_b36 C R ih he58 _ _ _ _ h
      · have h := h.2 q
        refine v_aload_n C dX11_meansLine_26 1 rfl ?_
        refine v_iconst C dX11_meansLine_27 ?_
        refine v_iload_n C dX11_meansLine_28 2 rfl ?_
        refine v_iconst C dX11_meansLine_29 ?_
        refine v_iadd C dX11_meansLine_30 ?_
        refine v_iload_n C dX11_meansLine_31 3 rfl ?_
        refine v_iadd C dX11_meansLine_32 ?_
        refine v_callv C (rn_V C _ (m_X11_wrong h) mf_X11_wrong wd_1269 wp_54 wd_1267 rfl rfl ⟨(Nat.le_of_ble_eq_true rfl), (Nat.le_of_ble_eq_true rfl)⟩ rfl rfl rfl rfl (Nat.le_of_ble_eq_true rfl) dX11_meansLine_33) (fun w h => ?_)
        refine v_sub [1, 2, 3, 0] rfl ?_
        exact t_X11_meansLine_b36 C R ih he58 _ _ _ _ h
def X11_meansLine_b86 (Q : Wd → Prop) (x1 : Int) (w : Wd) : Prop := (ix (x1 + 3) 403 ∧ ((wr (rd w 68 (x1 + 3)) = wr 22 → (ix (22 + (w 65 21)) 98 ∧ (∀ w7, w7 = wt w 74 (22 + (w 65 21)) 1 → (∀ w8, w8 = up w7 65 21 ((w7 65 21) + 1) → Q w8)))) ∧ (¬ wr (rd w 68 (x1 + 3)) = wr 22 → (ix (22 + (w 65 21)) 98 ∧ (∀ w5, w5 = wt w 74 (22 + (w 65 21)) 0 → (∀ w6, w6 = up w5 65 21 ((w5 65 21) + 1) → Q w6))))))
theorem t_X11_meansLine_b86 {Z : Zw} {E : Amb} {Q : Wd → Prop} (C : Cx Z (adA Z) E cX11_meansLine "HandleFacesModel" 4 rm_X11_meansLine) (R : Rt Z E none (qV Z Q)) : ∀ (x1 : Int) (w : Wd), X11_meansLine_b86 Q x1 w → V Z (adA Z) E 4 w 86 [(0, rv Z 65), (1, iv x1)] [] := by
  intro x1 w h
  unfold X11_meansLine_b86 at h
  refine v_aload_n C dX11_meansLine_86 0 rfl ?_
  refine g_X11_fresh C wd_1088 dX11_meansLine_87 ?_
  refine v_bipush C dX11_meansLine_90 (by decide) ?_
  refine v_aload_n C dX11_meansLine_92 0 rfl ?_
  refine g_X11_newLines C wd_1091 dX11_meansLine_93 ?_
  refine v_iadd C dX11_meansLine_96 ?_
  refine v_aload_n C dX11_meansLine_97 0 rfl ?_
  refine g_X11_tKind C wd_1075 dX11_meansLine_98 ?_
  refine v_iload_n C dX11_meansLine_101 1 rfl ?_
  refine v_iconst C dX11_meansLine_102 ?_
  refine v_iadd C dX11_meansLine_103 ?_
  refine v_iald C rfl h.1 dX11_meansLine_104 ?_
  have h := h.2
  refine v_bipush C dX11_meansLine_105 (by decide) ?_
  refine v_icmp_ne C 114 dX11_meansLine_107 (by decide) (fun q => ?_) (fun q => ?_)
  · have h := h.2 q
    refine v_iconst C dX11_meansLine_114 ?_
    refine v_iast C rfl h.1 dX11_meansLine_115 ?_
    have h := h.2
    have h := h _ rfl
    refine v_aload_n C dX11_meansLine_116 0 rfl ?_
    refine v_dup C dX11_meansLine_117 rfl ?_
    refine g_X11_newLines C wd_1091 dX11_meansLine_118 ?_
    refine v_iconst C dX11_meansLine_121 ?_
    refine v_iadd C dX11_meansLine_122 ?_
    refine p_X11_newLines C wd_1091 dX11_meansLine_123 ?_
    have h := h _ rfl
    exact v_ret C R h dX11_meansLine_126
  · have h := h.1 q
    refine v_iconst C dX11_meansLine_110 ?_
    refine v_goto C 115 dX11_meansLine_111 (by decide) ?_
    refine v_iast C rfl h.1 dX11_meansLine_115 ?_
    have h := h.2
    have h := h _ rfl
    refine v_aload_n C dX11_meansLine_116 0 rfl ?_
    refine v_dup C dX11_meansLine_117 rfl ?_
    refine g_X11_newLines C wd_1091 dX11_meansLine_118 ?_
    refine v_iconst C dX11_meansLine_121 ?_
    refine v_iadd C dX11_meansLine_122 ?_
    refine p_X11_newLines C wd_1091 dX11_meansLine_123 ?_
    have h := h _ rfl
    exact v_ret C R h dX11_meansLine_126
def X11_meansLine_b58 (Q : Wd → Prop) (x1 : Int) (w : Wd) : Prop := (ix (x1 + 1) 403 ∧ (ix (x1 + 2) 403 ∧ ((wr (lcm (rd w 71 (x1 + 1)) (rd w 71 (x1 + 2))) = 0 → X11_wrong 3 (x1 + 2) w (fun w9 => X11_meansLine_b86 Q x1 w9)) ∧ (¬ wr (lcm (rd w 71 (x1 + 1)) (rd w 71 (x1 + 2))) = 0 → X11_meansLine_b86 Q x1 w))))
theorem t_X11_meansLine_b58 {Z : Zw} {E : Amb} {Q : Wd → Prop} (C : Cx Z (adA Z) E cX11_meansLine "HandleFacesModel" 4 rm_X11_meansLine) (R : Rt Z E none (qV Z Q)) : ∀ (x1 : Int) (w : Wd), X11_meansLine_b58 Q x1 w → V Z (adA Z) E 4 w 58 [(0, rv Z 65), (1, iv x1)] [] := by
  intro x1 w h
  unfold X11_meansLine_b58 at h
  refine v_aload_n C dX11_meansLine_58 0 rfl ?_
  refine g_X11_tName C wd_1078 dX11_meansLine_59 ?_
  refine v_iload_n C dX11_meansLine_62 1 rfl ?_
  refine v_iconst C dX11_meansLine_63 ?_
  refine v_iadd C dX11_meansLine_64 ?_
  refine v_lald C rfl h.1 dX11_meansLine_65 ?_
  have h := h.2
  refine v_aload_n C dX11_meansLine_66 0 rfl ?_
  refine g_X11_tName C wd_1078 dX11_meansLine_67 ?_
  refine v_iload_n C dX11_meansLine_70 1 rfl ?_
  refine v_iconst C dX11_meansLine_71 ?_
  refine v_iadd C dX11_meansLine_72 ?_
  refine v_lald C rfl h.1 dX11_meansLine_73 ?_
  have h := h.2
  refine v_lcmp C dX11_meansLine_74 ?_
  refine v_if_ne C 86 dX11_meansLine_75 (by decide) (fun q => ?_) (fun q => ?_)
  · have h := h.2 q
    exact t_X11_meansLine_b86 C R _ _ h
  · have h := h.1 q
    refine v_aload_n C dX11_meansLine_78 0 rfl ?_
    refine v_iconst C dX11_meansLine_79 ?_
    refine v_iload_n C dX11_meansLine_80 1 rfl ?_
    refine v_iconst C dX11_meansLine_81 ?_
    refine v_iadd C dX11_meansLine_82 ?_
    refine v_callv C (rn_V C _ (m_X11_wrong h) mf_X11_wrong wd_1269 wp_54 wd_1267 rfl rfl ⟨(Nat.le_of_ble_eq_true rfl), (Nat.le_of_ble_eq_true rfl)⟩ rfl rfl rfl rfl (Nat.le_of_ble_eq_true rfl) dX11_meansLine_83) (fun w h => ?_)
    exact t_X11_meansLine_b86 C R _ _ h
def X11_meansLine (x1 : Int) (w : Wd) (Q : Wd → Prop) : Prop := (∃ m, X11_meansLine_l2 Q (X11_meansLine_b58 Q) m x1 0 w)
theorem m_X11_meansLine {Z : Zw} {l : Launch} {x1 : Int} {w : Wd} {Q : Wd → Prop} (h : X11_meansLine x1 w Q) : CtQ Z l yX11_meansLine cX11_meansLine 4 none rm_X11_meansLine [rv Z 65, iv x1] w (qV Z Q) := by
  refine ct_of (by decide) (Nat.le_of_ble_eq_true rfl) (fun E eE C R => ?_)
  subst eE
  have C : Cx Z (adA Z) E cX11_meansLine "HandleFacesModel" 4 rm_X11_meansLine := C
  unfold X11_meansLine at h
  show V Z (adA Z) E 4 w 0 [(0, rv Z 65), (1, iv x1)] []
  refine v_iconst C dX11_meansLine_0 ?_
  refine v_istore_n C [(2, _), (0, _), (1, _)] dX11_meansLine_1 2 rfl (by decide) rfl ?_
  refine v_sub [1, 2, 0] rfl ?_
  obtain ⟨m, h⟩ := h
  exact t_X11_meansLine_l2 C R (t_X11_meansLine_b58 C R) m _ _ _ h
abbrev rm_X11_adds : Room := { frames := 0, cells := 0, slots := 0, locals := 0 }
theorem mf_X11_adds : MfB yX11_adds cX11_adds 3 none 3 := ⟨wd_1277, wd_13, by decide, by decide, by decide +kernel⟩
def X11_adds (r0 : Nat) (x1 : Int) (x2 : Int) (w : Wd) (Q : Wd → Prop) : Prop := (ix (32 + x1) 98 ∧ (ix ((38 + (10 * x1)) + (rd w r0 (32 + x1))) 98 ∧ (∀ w1, w1 = wt w r0 ((38 + (10 * x1)) + (rd w r0 (32 + x1))) x2 → (ix (32 + x1) 98 ∧ (ix (32 + x1) 98 ∧ (∀ w2, w2 = wt w1 r0 (32 + x1) ((rd w1 r0 (32 + x1)) + 1) → Q w2))))))
theorem m_X11_adds {Z : Zw} {l : Launch} {r0 : Nat} {x1 : Int} {x2 : Int} {w : Wd} {Q : Wd → Prop} (h0 : shp r0 = (1, 98, [])) (h : X11_adds r0 x1 x2 w Q) : CtQ Z l yX11_adds cX11_adds 3 none rm_X11_adds [rv Z r0, iv x1, iv x2] w (qV Z Q) := by
  refine ct_of (by decide) (Nat.le_of_ble_eq_true rfl) (fun E eE C R => ?_)
  subst eE
  have C : Cx Z (adA Z) E cX11_adds "HandleFacesModel" 3 rm_X11_adds := C
  unfold X11_adds at h
  show V Z (adA Z) E 3 w 0 [(0, rv Z r0), (1, iv x1), (2, iv x2)] []
  refine v_aload_n C dX11_adds_0 0 rfl ?_
  refine v_bipush C dX11_adds_1 (by decide) ?_
  refine v_bipush C dX11_adds_3 (by decide) ?_
  refine v_iload_n C dX11_adds_5 1 rfl ?_
  refine v_imul C dX11_adds_6 ?_
  refine v_iadd C dX11_adds_7 ?_
  refine v_aload_n C dX11_adds_8 0 rfl ?_
  refine v_bipush C dX11_adds_9 (by decide) ?_
  refine v_iload_n C dX11_adds_11 1 rfl ?_
  refine v_iadd C dX11_adds_12 ?_
  refine v_iald C h0 h.1 dX11_adds_13 ?_
  have h := h.2
  refine v_iadd C dX11_adds_14 ?_
  refine v_iload_n C dX11_adds_15 2 rfl ?_
  refine v_iast C h0 h.1 dX11_adds_16 ?_
  have h := h.2
  have h := h _ rfl
  refine v_aload_n C dX11_adds_17 0 rfl ?_
  refine v_bipush C dX11_adds_18 (by decide) ?_
  refine v_iload_n C dX11_adds_20 1 rfl ?_
  refine v_iadd C dX11_adds_21 ?_
  refine v_dup2 C dX11_adds_22 rfl rfl ?_
  refine v_iald C h0 h.1 dX11_adds_23 ?_
  have h := h.2
  refine v_iconst C dX11_adds_24 ?_
  refine v_iadd C dX11_adds_25 ?_
  refine v_iast C h0 h.1 dX11_adds_26 ?_
  have h := h.2
  have h := h _ rfl
  exact v_ret C R h dX11_adds_27
abbrev rm_X11_has : Room := { frames := 0, cells := 0, slots := 0, locals := 0 }
theorem mf_X11_has : MfB yX11_has cX11_has 2 (some .boolean) 2 := ⟨wd_1284, wd_13, by decide, by decide, by decide +kernel⟩
def X11_has (x0 : Int) (x1 : Int) (w : Wd) (Q : Int → Wd → Prop) : Prop := ((wr (ian (isr x0 x1) 1) = wr 1 → Q 1 w) ∧ (¬ wr (ian (isr x0 x1) 1) = wr 1 → Q 0 w))
theorem m_X11_has {Z : Zw} {l : Launch} {x0 : Int} {x1 : Int} {w : Wd} {Q : Int → Wd → Prop} (h : X11_has x0 x1 w Q) : CtQ Z l yX11_has cX11_has 2 (some .boolean) rm_X11_has [iv x0, iv x1] w (qI Z Q) := by
  refine ct_of (by decide) (Nat.le_of_ble_eq_true rfl) (fun E eE C R => ?_)
  subst eE
  have C : Cx Z (adA Z) E cX11_has "HandleFacesModel" 2 rm_X11_has := C
  unfold X11_has at h
  show V Z (adA Z) E 2 w 0 [(0, iv x0), (1, iv x1)] []
  refine v_iload_n C dX11_has_0 0 rfl ?_
  refine v_iload_n C dX11_has_1 1 rfl ?_
  refine v_ishr C dX11_has_2 ?_
  refine v_iconst C dX11_has_3 ?_
  refine v_iand C dX11_has_4 ?_
  refine v_iconst C dX11_has_5 ?_
  refine v_icmp_ne C 13 dX11_has_6 (by decide) (fun q => ?_) (fun q => ?_)
  · have h := h.2 q
    refine v_iconst C dX11_has_13 ?_
    exact v_zret C R (Or.inl rfl) h dX11_has_14
  · have h := h.1 q
    refine v_iconst C dX11_has_9 ?_
    refine v_goto C 14 dX11_has_10 (by decide) ?_
    exact v_zret C R (Or.inr rfl) h dX11_has_14
abbrev rm_X11_meansRound : Room := { frames := 1, cells := 0, slots := 0, locals := 23 }
theorem mf_X11_meansRound : MfB yX11_meansRound cX11_meansRound 9 none 1 := ⟨wd_1281, wd_13, by decide, by decide, by decide +kernel⟩
def X11_meansRound_b165 (Q : Wd → Prop) (c39 : Int → Int → Int → Int → Int → Wd → Prop) (e174 : Int → Int → Int → Int → Wd → Prop) (x2 : Int) (x3 : Int) (x4 : Int) (x5 : Int) (x6 : Int) (w : Wd) : Prop := c39 x2 x3 (x4 + 1) x5 (x6 + 1) w
theorem t_X11_meansRound_b165 {Z : Zw} {E : Amb} {Q : Wd → Prop} {c39 : Int → Int → Int → Int → Int → Wd → Prop} {e174 : Int → Int → Int → Int → Wd → Prop} (C : Cx Z (adA Z) E cX11_meansRound "HandleFacesModel" 9 rm_X11_meansRound) (R : Rt Z E none (qV Z Q)) (hc39 : ∀ (x2 : Int) (x3 : Int) (x4 : Int) (x5 : Int) (x6 : Int) (w : Wd), c39 x2 x3 x4 x5 x6 w → V Z (adA Z) E 9 w 39 [(0, rv Z 65), (2, iv x2), (3, iv x3), (4, iv x4), (5, iv x5), (6, iv x6)] []) (he174 : ∀ (x2 : Int) (x4 : Int) (x5 : Int) (x6 : Int) (w : Wd), e174 x2 x4 x5 x6 w → V Z (adA Z) E 9 w 174 [(0, rv Z 65), (2, iv x2), (4, iv x4), (5, iv x5), (6, iv x6)] []) : ∀ (x2 : Int) (x3 : Int) (x4 : Int) (x5 : Int) (x6 : Int) (w : Wd), X11_meansRound_b165 Q c39 e174 x2 x3 x4 x5 x6 w → V Z (adA Z) E 9 w 165 [(0, rv Z 65), (2, iv x2), (3, iv x3), (4, iv x4), (5, iv x5), (6, iv x6)] [] := by
  intro x2 x3 x4 x5 x6 w h
  unfold X11_meansRound_b165 at h
  refine v_iinc C [(4, _), (0, _), (2, _), (3, _), (5, _), (6, _)] dX11_meansRound_165 3 rfl (by decide) rfl ?_
  refine v_iinc C [(6, _), (4, _), (0, _), (2, _), (3, _), (5, _)] dX11_meansRound_168 5 rfl (by decide) rfl ?_
  refine v_goto C 39 dX11_meansRound_171 (by decide) ?_
  refine v_sub [2, 3, 4, 1, 5, 0] rfl ?_
  exact hc39 _ _ _ _ _ _ h
def X11_meansRound_b114 (Q : Wd → Prop) (c39 : Int → Int → Int → Int → Int → Wd → Prop) (e174 : Int → Int → Int → Int → Wd → Prop) (x2 : Int) (x3 : Int) (x4 : Int) (x5 : Int) (x6 : Int) (x7 : Int) (s0 : Int) (w : Wd) : Prop := ((wr s0 = 0 → X11_wrong 5 x6 w (fun w7 => c39 x2 x3 x4 0 (x6 + 1) w7)) ∧ (¬ wr s0 = 0 → (∀ y5, y5 = (ior x3 (isl 1 x7)) → ((wr (w 65 14) = 0 → (ix ((38 + (10 * x2)) + x4) 98 ∧ (∀ w6, w6 = wt w 74 ((38 + (10 * x2)) + x4) x7 → X11_meansRound_b165 Q c39 e174 x2 y5 x4 x5 x6 w6))) ∧ (¬ wr (w 65 14) = 0 → X11_meansRound_b165 Q c39 e174 x2 y5 x4 x5 x6 w)))))
theorem t_X11_meansRound_b114 {Z : Zw} {E : Amb} {Q : Wd → Prop} {c39 : Int → Int → Int → Int → Int → Wd → Prop} {e174 : Int → Int → Int → Int → Wd → Prop} (C : Cx Z (adA Z) E cX11_meansRound "HandleFacesModel" 9 rm_X11_meansRound) (R : Rt Z E none (qV Z Q)) (hc39 : ∀ (x2 : Int) (x3 : Int) (x4 : Int) (x5 : Int) (x6 : Int) (w : Wd), c39 x2 x3 x4 x5 x6 w → V Z (adA Z) E 9 w 39 [(0, rv Z 65), (2, iv x2), (3, iv x3), (4, iv x4), (5, iv x5), (6, iv x6)] []) (he174 : ∀ (x2 : Int) (x4 : Int) (x5 : Int) (x6 : Int) (w : Wd), e174 x2 x4 x5 x6 w → V Z (adA Z) E 9 w 174 [(0, rv Z 65), (2, iv x2), (4, iv x4), (5, iv x5), (6, iv x6)] []) : ∀ (x2 : Int) (x3 : Int) (x4 : Int) (x5 : Int) (x6 : Int) (x7 : Int) (s0 : Int) (w : Wd), X11_meansRound_b114 Q c39 e174 x2 x3 x4 x5 x6 x7 s0 w → V Z (adA Z) E 9 w 114 [(0, rv Z 65), (2, iv x2), (3, iv x3), (4, iv x4), (5, iv x5), (6, iv x6), (7, iv x7)] [iv s0] := by
  intro x2 x3 x4 x5 x6 x7 s0 w h
  unfold X11_meansRound_b114 at h
  refine v_istore C [(8, _), (0, _), (2, _), (3, _), (4, _), (5, _), (6, _), (7, _)] dX11_meansRound_114 (by decide) rfl ?_
  refine v_iload C dX11_meansRound_116 0 rfl ?_
  refine v_if_ne C 134 dX11_meansRound_118 (by decide) (fun q => ?_) (fun q => ?_)
  · have h := h.2 q
    refine v_iload_n C dX11_meansRound_134 3 rfl ?_
    refine v_iconst C dX11_meansRound_135 ?_
    refine v_iload C dX11_meansRound_136 7 rfl ?_
    refine v_ishl C dX11_meansRound_138 ?_
    refine v_ior C dX11_meansRound_139 ?_
    refine v_istore_n C [(3, _), (8, _), (0, _), (2, _), (4, _), (5, _), (6, _), (7, _)] dX11_meansRound_140 3 rfl (by decide) rfl ?_
    have h := h _ rfl
    refine v_aload_n C dX11_meansRound_141 2 rfl ?_
    refine g_X11_worst C wd_1084 dX11_meansRound_142 ?_
    refine v_if_ne C 165 dX11_meansRound_145 (by decide) (fun q => ?_) (fun q => ?_)
    · have h := h.2 q
      refine v_sub [2, 3, 0, 4, 5, 6] rfl ?_
      exact t_X11_meansRound_b165 C R hc39 he174 _ _ _ _ _ _ h
    · have h := h.1 q
      refine v_aload_n C dX11_meansRound_148 2 rfl ?_
      refine g_X11_fresh C wd_1088 dX11_meansRound_149 ?_
      refine v_bipush C dX11_meansRound_152 (by decide) ?_
      refine v_bipush C dX11_meansRound_154 (by decide) ?_
      refine v_iload_n C dX11_meansRound_156 3 rfl ?_
      refine v_imul C dX11_meansRound_157 ?_
      refine v_iadd C dX11_meansRound_158 ?_
      refine v_iload C dX11_meansRound_159 4 rfl ?_
      refine v_iadd C dX11_meansRound_161 ?_
      refine v_iload C dX11_meansRound_162 7 rfl ?_
      refine v_iast C rfl h.1 dX11_meansRound_164 ?_
      have h := h.2
      have h := h _ rfl
      refine v_sub [2, 3, 0, 4, 5, 6] rfl ?_
      exact t_X11_meansRound_b165 C R hc39 he174 _ _ _ _ _ _ h
  · have h := h.1 q
    refine v_aload_n C dX11_meansRound_121 1 rfl ?_
    refine v_iconst C dX11_meansRound_122 ?_
    refine v_iload C dX11_meansRound_123 6 rfl ?_
    refine v_callv C (rn_V C _ (m_X11_wrong h) mf_X11_wrong wd_1269 wp_54 wd_1267 rfl rfl ⟨(Nat.le_of_ble_eq_true rfl), (Nat.le_of_ble_eq_true rfl)⟩ rfl rfl rfl rfl (Nat.le_of_ble_eq_true rfl) dX11_meansRound_125) (fun w h => ?_)
    refine v_iconst C dX11_meansRound_128 ?_
    refine v_istore C [(5, _), (8, _), (0, _), (2, _), (3, _), (4, _), (6, _), (7, _)] dX11_meansRound_129 (by decide) rfl ?_
    refine v_goto C 168 dX11_meansRound_131 (by decide) ?_
    refine v_iinc C [(6, _), (5, _), (8, _), (0, _), (2, _), (3, _), (4, _), (7, _)] dX11_meansRound_168 6 rfl (by decide) rfl ?_
    refine v_goto C 39 dX11_meansRound_171 (by decide) ?_
    refine v_sub [3, 4, 5, 6, 1, 0] rfl ?_
    exact hc39 _ _ _ _ _ _ h
def X11_meansRound_b113 (Q : Wd → Prop) (c39 : Int → Int → Int → Int → Int → Wd → Prop) (e174 : Int → Int → Int → Int → Wd → Prop) (x2 : Int) (x3 : Int) (x4 : Int) (x5 : Int) (x6 : Int) (x7 : Int) (w : Wd) : Prop := X11_meansRound_b114 Q c39 e174 x2 x3 x4 x5 x6 x7 0 w
theorem t_X11_meansRound_b113 {Z : Zw} {E : Amb} {Q : Wd → Prop} {c39 : Int → Int → Int → Int → Int → Wd → Prop} {e174 : Int → Int → Int → Int → Wd → Prop} (C : Cx Z (adA Z) E cX11_meansRound "HandleFacesModel" 9 rm_X11_meansRound) (R : Rt Z E none (qV Z Q)) (hc39 : ∀ (x2 : Int) (x3 : Int) (x4 : Int) (x5 : Int) (x6 : Int) (w : Wd), c39 x2 x3 x4 x5 x6 w → V Z (adA Z) E 9 w 39 [(0, rv Z 65), (2, iv x2), (3, iv x3), (4, iv x4), (5, iv x5), (6, iv x6)] []) (he174 : ∀ (x2 : Int) (x4 : Int) (x5 : Int) (x6 : Int) (w : Wd), e174 x2 x4 x5 x6 w → V Z (adA Z) E 9 w 174 [(0, rv Z 65), (2, iv x2), (4, iv x4), (5, iv x5), (6, iv x6)] []) : ∀ (x2 : Int) (x3 : Int) (x4 : Int) (x5 : Int) (x6 : Int) (x7 : Int) (w : Wd), X11_meansRound_b113 Q c39 e174 x2 x3 x4 x5 x6 x7 w → V Z (adA Z) E 9 w 113 [(0, rv Z 65), (2, iv x2), (3, iv x3), (4, iv x4), (5, iv x5), (6, iv x6), (7, iv x7)] [] := by
  intro x2 x3 x4 x5 x6 x7 w h
  unfold X11_meansRound_b113 at h
  refine v_iconst C dX11_meansRound_113 ?_
  exact t_X11_meansRound_b114 C R hc39 he174 _ _ _ _ _ _ _ _ h
def X11_meansRound_b100 (Q : Wd → Prop) (c39 : Int → Int → Int → Int → Int → Wd → Prop) (e174 : Int → Int → Int → Int → Wd → Prop) (x2 : Int) (x3 : Int) (x4 : Int) (x5 : Int) (x6 : Int) (x7 : Int) (w : Wd) : Prop := X11_has x3 x7 w (fun y9 w8 => ((wr y9 = 0 → X11_meansRound_b114 Q c39 e174 x2 x3 x4 x5 x6 x7 1 w8) ∧ (¬ wr y9 = 0 → X11_meansRound_b113 Q c39 e174 x2 x3 x4 x5 x6 x7 w8)))
theorem t_X11_meansRound_b100 {Z : Zw} {E : Amb} {Q : Wd → Prop} {c39 : Int → Int → Int → Int → Int → Wd → Prop} {e174 : Int → Int → Int → Int → Wd → Prop} (C : Cx Z (adA Z) E cX11_meansRound "HandleFacesModel" 9 rm_X11_meansRound) (R : Rt Z E none (qV Z Q)) (hc39 : ∀ (x2 : Int) (x3 : Int) (x4 : Int) (x5 : Int) (x6 : Int) (w : Wd), c39 x2 x3 x4 x5 x6 w → V Z (adA Z) E 9 w 39 [(0, rv Z 65), (2, iv x2), (3, iv x3), (4, iv x4), (5, iv x5), (6, iv x6)] []) (he174 : ∀ (x2 : Int) (x4 : Int) (x5 : Int) (x6 : Int) (w : Wd), e174 x2 x4 x5 x6 w → V Z (adA Z) E 9 w 174 [(0, rv Z 65), (2, iv x2), (4, iv x4), (5, iv x5), (6, iv x6)] []) : ∀ (x2 : Int) (x3 : Int) (x4 : Int) (x5 : Int) (x6 : Int) (x7 : Int) (w : Wd), X11_meansRound_b100 Q c39 e174 x2 x3 x4 x5 x6 x7 w → V Z (adA Z) E 9 w 100 [(0, rv Z 65), (2, iv x2), (3, iv x3), (4, iv x4), (5, iv x5), (6, iv x6), (7, iv x7)] [] := by
  intro x2 x3 x4 x5 x6 x7 w h
  unfold X11_meansRound_b100 at h
  refine v_iload_n C dX11_meansRound_100 2 rfl ?_
  refine v_iload C dX11_meansRound_101 6 rfl ?_
  refine v_calli C (rn_S C _ (m_X11_has h) mf_X11_has wd_1283 wd_1282 rfl rfl ⟨(Nat.le_of_ble_eq_true rfl), (Nat.le_of_ble_eq_true rfl)⟩ rfl rfl (Nat.le_of_ble_eq_true rfl) dX11_meansRound_103) (fun r w h => ?_)
  refine v_if_ne C 113 dX11_meansRound_106 (by decide) (fun q => ?_) (fun q => ?_)
  · have h := h.2 q
    exact t_X11_meansRound_b113 C R hc39 he174 _ _ _ _ _ _ _ h
  · have h := h.1 q
    refine v_iconst C dX11_meansRound_109 ?_
    refine v_goto C 114 dX11_meansRound_110 (by decide) ?_
    exact t_X11_meansRound_b114 C R hc39 he174 _ _ _ _ _ _ _ _ h
def X11_meansRound_l39 (Q : Wd → Prop) (e174 : Int → Int → Int → Int → Wd → Prop) : Nat → Int → Int → Int → Int → Int → Wd → Prop
  | 0 => fun _ _ _ _ _ _ => False
  | n + 1 => fun x2 x3 x4 x5 x6 w => (ix x6 403 ∧ ((wr (rd w 68 x6) = wr 2 → (ix x6 403 ∧ (∀ y4, y4 = (rd w 70 x6) → ((wr (w 65 21) ≤ wr y4 → X11_meansRound_b113 Q (X11_meansRound_l39 Q e174 n) e174 x2 x3 x4 x5 x6 y4 w) ∧ (¬ wr (w 65 21) ≤ wr y4 → (ix (2 + (2 * y4)) 98 ∧ ((wr (rd w 74 (2 + (2 * y4))) = wr x2 → X11_meansRound_b100 Q (X11_meansRound_l39 Q e174 n) e174 x2 x3 x4 x5 x6 y4 w) ∧ (¬ wr (rd w 74 (2 + (2 * y4))) = wr x2 → (ix ((2 + (2 * y4)) + 1) 98 ∧ ((wr (rd w 74 ((2 + (2 * y4)) + 1)) = wr x2 → X11_meansRound_b100 Q (X11_meansRound_l39 Q e174 n) e174 x2 x3 x4 x5 x6 y4 w) ∧ (¬ wr (rd w 74 ((2 + (2 * y4)) + 1)) = wr x2 → X11_meansRound_b113 Q (X11_meansRound_l39 Q e174 n) e174 x2 x3 x4 x5 x6 y4 w))))))))))) ∧ (¬ wr (rd w 68 x6) = wr 2 → e174 x2 x4 x5 x6 w)))
theorem t_X11_meansRound_l39 {Z : Zw} {E : Amb} {Q : Wd → Prop} {e174 : Int → Int → Int → Int → Wd → Prop} (C : Cx Z (adA Z) E cX11_meansRound "HandleFacesModel" 9 rm_X11_meansRound) (R : Rt Z E none (qV Z Q)) (he174 : ∀ (x2 : Int) (x4 : Int) (x5 : Int) (x6 : Int) (w : Wd), e174 x2 x4 x5 x6 w → V Z (adA Z) E 9 w 174 [(0, rv Z 65), (2, iv x2), (4, iv x4), (5, iv x5), (6, iv x6)] []) : ∀ (n : Nat) (x2 : Int) (x3 : Int) (x4 : Int) (x5 : Int) (x6 : Int) (w : Wd), X11_meansRound_l39 Q e174 n x2 x3 x4 x5 x6 w → V Z (adA Z) E 9 w 39 [(0, rv Z 65), (2, iv x2), (3, iv x3), (4, iv x4), (5, iv x5), (6, iv x6)] [] := by
  intro n
  induction n with
  | zero => intro x2 x3 x4 x5 x6 w h; exact h.elim
  | succ n ih =>
    intro x2 x3 x4 x5 x6 w h
    unfold X11_meansRound_l39 at h
    refine v_aload_n C dX11_meansRound_39 0 rfl ?_
    refine g_X11_tKind C wd_1075 dX11_meansRound_40 ?_
    refine v_iload C dX11_meansRound_43 5 rfl ?_
    refine v_iald C rfl h.1 dX11_meansRound_45 ?_
    have h := h.2
    refine v_iconst C dX11_meansRound_46 ?_
    refine v_icmp_ne C 174 dX11_meansRound_47 (by decide) (fun q => ?_) (fun q => ?_)
    · have h := h.2 q
      refine v_sub [0, 1, 3, 4, 5] rfl ?_
      exact he174 _ _ _ _ _ h
    · have h := h.1 q
      refine v_aload_n C dX11_meansRound_50 0 rfl ?_
      refine g_X11_tValue C wd_1077 dX11_meansRound_51 ?_
      refine v_iload C dX11_meansRound_54 5 rfl ?_
      refine v_iald C rfl h.1 dX11_meansRound_56 ?_
      have h := h.2
      refine v_istore C [(7, _), (0, _), (2, _), (3, _), (4, _), (5, _), (6, _)] dX11_meansRound_57 (by decide) rfl ?_
      have h := h _ rfl
      refine v_iload C dX11_meansRound_59 0 rfl ?_
      refine v_aload_n C dX11_meansRound_61 1 rfl ?_
      refine g_X11_newLines C wd_1091 dX11_meansRound_62 ?_
      refine v_icmp_ge C 113 dX11_meansRound_65 (by decide) (fun q => ?_) (fun q => ?_)
      · have h := h.1 q
        refine v_sub [1, 2, 3, 4, 5, 6, 0] rfl ?_
        exact t_X11_meansRound_b113 C R ih he174 _ _ _ _ _ _ _ h
      · have h := h.2 q
        refine v_aload_n C dX11_meansRound_68 1 rfl ?_
        refine g_X11_fresh C wd_1088 dX11_meansRound_69 ?_
        refine v_iconst C dX11_meansRound_72 ?_
        refine v_iconst C dX11_meansRound_73 ?_
        refine v_iload C dX11_meansRound_74 0 rfl ?_
        refine v_imul C dX11_meansRound_76 ?_
        refine v_iadd C dX11_meansRound_77 ?_
        refine v_iald C rfl h.1 dX11_meansRound_78 ?_
        have h := h.2
        refine v_iload_n C dX11_meansRound_79 2 rfl ?_
        refine v_icmp_eq C 100 dX11_meansRound_80 (by decide) (fun q => ?_) (fun q => ?_)
        · have h := h.1 q
          refine v_sub [1, 2, 3, 4, 5, 6, 0] rfl ?_
          exact t_X11_meansRound_b100 C R ih he174 _ _ _ _ _ _ _ h
        · have h := h.2 q
          refine v_aload_n C dX11_meansRound_83 1 rfl ?_
          refine g_X11_fresh C wd_1088 dX11_meansRound_84 ?_
          refine v_iconst C dX11_meansRound_87 ?_
          refine v_iconst C dX11_meansRound_88 ?_
          refine v_iload C dX11_meansRound_89 0 rfl ?_
          refine v_imul C dX11_meansRound_91 ?_
          refine v_iadd C dX11_meansRound_92 ?_
          refine v_iconst C dX11_meansRound_93 ?_
          refine v_iadd C dX11_meansRound_94 ?_
          refine v_iald C rfl h.1 dX11_meansRound_95 ?_
          have h := h.2
          refine v_iload_n C dX11_meansRound_96 2 rfl ?_
          refine v_icmp_ne C 113 dX11_meansRound_97 (by decide) (fun q => ?_) (fun q => ?_)
          · have h := h.2 q
            refine v_sub [1, 2, 3, 4, 5, 6, 0] rfl ?_
            exact t_X11_meansRound_b113 C R ih he174 _ _ _ _ _ _ _ h
          · have h := h.1 q
            refine v_sub [1, 2, 3, 4, 5, 6, 0] rfl ?_
            exact t_X11_meansRound_b100 C R ih he174 _ _ _ _ _ _ _ h
def X11_meansRound_b174 (Q : Wd → Prop) (x2 : Int) (x4 : Int) (x5 : Int) (x6 : Int) (w : Wd) : Prop := ((wr x5 = 0 → Q w) ∧ (¬ wr x5 = 0 → (ix (32 + x2) 98 ∧ ((wr (rd w 74 (32 + x2)) ≤ wr x4 → Q w) ∧ (¬ wr (rd w 74 (32 + x2)) ≤ wr x4 → X11_wrong 6 x6 w (fun w10 => Q w10))))))
theorem t_X11_meansRound_b174 {Z : Zw} {E : Amb} {Q : Wd → Prop} (C : Cx Z (adA Z) E cX11_meansRound "HandleFacesModel" 9 rm_X11_meansRound) (R : Rt Z E none (qV Z Q)) : ∀ (x2 : Int) (x4 : Int) (x5 : Int) (x6 : Int) (w : Wd), X11_meansRound_b174 Q x2 x4 x5 x6 w → V Z (adA Z) E 9 w 174 [(0, rv Z 65), (2, iv x2), (4, iv x4), (5, iv x5), (6, iv x6)] [] := by
  intro x2 x4 x5 x6 w h
  unfold X11_meansRound_b174 at h
  refine v_iload C dX11_meansRound_174 3 rfl ?_
  refine v_if_eq C 201 dX11_meansRound_176 (by decide) (fun q => ?_) (fun q => ?_)
  · have h := h.1 q
    exact v_ret C R h dX11_meansRound_201
  · have h := h.2 q
    refine v_iload C dX11_meansRound_179 2 rfl ?_
    refine v_aload_n C dX11_meansRound_181 0 rfl ?_
    refine g_X11_fresh C wd_1088 dX11_meansRound_182 ?_
    refine v_bipush C dX11_meansRound_185 (by decide) ?_
    refine v_iload_n C dX11_meansRound_187 1 rfl ?_
    refine v_iadd C dX11_meansRound_188 ?_
    refine v_iald C rfl h.1 dX11_meansRound_189 ?_
    have h := h.2
    refine v_icmp_ge C 201 dX11_meansRound_190 (by decide) (fun q => ?_) (fun q => ?_)
    · have h := h.1 q
      exact v_ret C R h dX11_meansRound_201
    · have h := h.2 q
      refine v_aload_n C dX11_meansRound_193 0 rfl ?_
      refine v_bipush C dX11_meansRound_194 (by decide) ?_
      refine v_iload C dX11_meansRound_196 4 rfl ?_
      refine v_callv C (rn_V C _ (m_X11_wrong h) mf_X11_wrong wd_1269 wp_54 wd_1267 rfl rfl ⟨(Nat.le_of_ble_eq_true rfl), (Nat.le_of_ble_eq_true rfl)⟩ rfl rfl rfl rfl (Nat.le_of_ble_eq_true rfl) dX11_meansRound_198) (fun w h => ?_)
      exact v_ret C R h dX11_meansRound_201
def X11_meansRound (x1 : Int) (w : Wd) (Q : Wd → Prop) : Prop := (ix (x1 + 1) 403 ∧ X11_named (rd w 71 (x1 + 1)) w (fun y2 w1 => ((0 ≤ wr y2 → (∀ y3, y3 = (x1 + 2) → (∃ m, X11_meansRound_l39 Q (X11_meansRound_b174 Q) m y2 0 0 1 y3 w1))) ∧ (¬ 0 ≤ wr y2 → X11_wrong 4 (x1 + 1) w1 (fun w11 => Q w11)))))
theorem m_X11_meansRound {Z : Zw} {l : Launch} {x1 : Int} {w : Wd} {Q : Wd → Prop} (h : X11_meansRound x1 w Q) : CtQ Z l yX11_meansRound cX11_meansRound 9 none rm_X11_meansRound [rv Z 65, iv x1] w (qV Z Q) := by
  refine ct_of (by decide) (Nat.le_of_ble_eq_true rfl) (fun E eE C R => ?_)
  subst eE
  have C : Cx Z (adA Z) E cX11_meansRound "HandleFacesModel" 9 rm_X11_meansRound := C
  unfold X11_meansRound at h
  show V Z (adA Z) E 9 w 0 [(0, rv Z 65), (1, iv x1)] []
  refine v_aload_n C dX11_meansRound_0 0 rfl ?_
  refine v_aload_n C dX11_meansRound_1 0 rfl ?_
  refine g_X11_tName C wd_1078 dX11_meansRound_2 ?_
  refine v_iload_n C dX11_meansRound_5 1 rfl ?_
  refine v_iconst C dX11_meansRound_6 ?_
  refine v_iadd C dX11_meansRound_7 ?_
  refine v_lald C rfl h.1 dX11_meansRound_8 ?_
  have h := h.2
  refine v_calli C (rn_V C _ (m_X11_named h) mf_X11_named wd_1265 wp_53 wd_1263 rfl rfl ⟨(Nat.le_of_ble_eq_true rfl), (Nat.le_of_ble_eq_true rfl)⟩ rfl rfl rfl rfl (Nat.le_of_ble_eq_true rfl) dX11_meansRound_9) (fun r w h => ?_)
  refine v_istore_n C [(2, _), (0, _), (1, _)] dX11_meansRound_12 2 rfl (by decide) rfl ?_
  refine v_iload_n C dX11_meansRound_13 0 rfl ?_
  refine v_if_ge C 26 dX11_meansRound_14 (by decide) (fun q => ?_) (fun q => ?_)
  · have h := h.1 q
    refine v_iconst C dX11_meansRound_26 ?_
    refine v_istore_n C [(3, _), (2, _), (0, _), (1, _)] dX11_meansRound_27 3 rfl (by decide) rfl ?_
    refine v_iconst C dX11_meansRound_28 ?_
    refine v_istore C [(4, _), (3, _), (2, _), (0, _), (1, _)] dX11_meansRound_29 (by decide) rfl ?_
    refine v_iconst C dX11_meansRound_31 ?_
    refine v_istore C [(5, _), (4, _), (3, _), (2, _), (0, _), (1, _)] dX11_meansRound_32 (by decide) rfl ?_
    refine v_iload_n C dX11_meansRound_34 5 rfl ?_
    refine v_iconst C dX11_meansRound_35 ?_
    refine v_iadd C dX11_meansRound_36 ?_
    refine v_istore C [(6, _), (5, _), (4, _), (3, _), (2, _), (0, _), (1, _)] dX11_meansRound_37 (by decide) rfl ?_
    have h := h _ rfl
    refine v_sub [5, 4, 3, 2, 1, 0] rfl ?_
    obtain ⟨m, h⟩ := h
    exact t_X11_meansRound_l39 C R (t_X11_meansRound_b174 C R) m _ _ _ _ _ _ h
  · have h := h.2 q
    refine v_aload_n C dX11_meansRound_17 1 rfl ?_
    refine v_iconst C dX11_meansRound_18 ?_
    refine v_iload_n C dX11_meansRound_19 2 rfl ?_
    refine v_iconst C dX11_meansRound_20 ?_
    refine v_iadd C dX11_meansRound_21 ?_
    refine v_callv C (rn_V C _ (m_X11_wrong h) mf_X11_wrong wd_1269 wp_54 wd_1267 rfl rfl ⟨(Nat.le_of_ble_eq_true rfl), (Nat.le_of_ble_eq_true rfl)⟩ rfl rfl rfl rfl (Nat.le_of_ble_eq_true rfl) dX11_meansRound_22) (fun w h => ?_)
    exact v_ret C R h dX11_meansRound_25
abbrev rm_X11_means : Room := { frames := 2, cells := 0, slots := 0, locals := 51 }
theorem mf_X11_means : MfB yX11_means cX11_means 3 none 0 := ⟨wd_1262, wd_13, by decide, by decide, by decide +kernel⟩
def X11_means_l2 (Q : Wd → Prop) (e21 : Wd → Prop) : Nat → Int → Wd → Prop
  | 0 => fun _ _ => False
  | n + 1 => fun x1 w => ((wr 98 ≤ wr x1 → e21 w) ∧ (¬ wr 98 ≤ wr x1 → (ix x1 98 ∧ (∀ w1, w1 = wt w 74 x1 0 → (X11_means_l2 Q e21 n) (x1 + 1) w1))))
theorem t_X11_means_l2 {Z : Zw} {E : Amb} {Q : Wd → Prop} {e21 : Wd → Prop} (C : Cx Z (adA Z) E cX11_means "HandleFacesModel" 3 rm_X11_means) (R : Rt Z E none (qV Z Q)) (he21 : ∀ (w : Wd), e21 w → V Z (adA Z) E 3 w 21 [(0, rv Z 65)] []) : ∀ (n : Nat) (x1 : Int) (w : Wd), X11_means_l2 Q e21 n x1 w → V Z (adA Z) E 3 w 2 [(0, rv Z 65), (1, iv x1)] [] := by
  intro n
  induction n with
  | zero => intro x1 w h; exact h.elim
  | succ n ih =>
    intro x1 w h
    unfold X11_means_l2 at h
    refine v_iload_n C dX11_means_2 1 rfl ?_
    refine v_bipush C dX11_means_3 (by decide) ?_
    refine v_icmp_ge C 21 dX11_means_5 (by decide) (fun q => ?_) (fun q => ?_)
    · have h := h.1 q
      refine v_sub [0] rfl ?_
      exact he21 _ h
    · have h := h.2 q
      refine v_aload_n C dX11_means_8 0 rfl ?_
      refine g_X11_fresh C wd_1088 dX11_means_9 ?_
      refine v_iload_n C dX11_means_12 1 rfl ?_
      refine v_iconst C dX11_means_13 ?_
      refine v_iast C rfl h.1 dX11_means_14 ?_
      have h := h.2
      have h := h _ rfl
      refine v_iinc C [(1, _), (0, _)] dX11_means_15 1 rfl (by decide) rfl ?_
      refine v_goto C 2 dX11_means_18 (by decide) ?_
      refine v_sub [1, 0] rfl ?_
      exact ih _ _ h
def X11_means_b78 (Q : Wd → Prop) (c33 : Int → Wd → Prop) (e111 : Wd → Prop) (x1 : Int) (w : Wd) : Prop := (ix (x1 + 1) 403 ∧ (ix (w 65 20) 6 ∧ (∀ w6, w6 = wt w 75 (w 65 20) (rd w 71 (x1 + 1)) → (∀ w7, w7 = up w6 65 20 ((w6 65 20) + 1) → c33 (x1 + 1) w7))))
theorem t_X11_means_b78 {Z : Zw} {E : Amb} {Q : Wd → Prop} {c33 : Int → Wd → Prop} {e111 : Wd → Prop} (C : Cx Z (adA Z) E cX11_means "HandleFacesModel" 3 rm_X11_means) (R : Rt Z E none (qV Z Q)) (hc33 : ∀ (x1 : Int) (w : Wd), c33 x1 w → V Z (adA Z) E 3 w 33 [(0, rv Z 65), (1, iv x1)] []) (he111 : ∀ (w : Wd), e111 w → V Z (adA Z) E 3 w 111 [(0, rv Z 65)] []) : ∀ (x1 : Int) (w : Wd), X11_means_b78 Q c33 e111 x1 w → V Z (adA Z) E 3 w 78 [(0, rv Z 65), (1, iv x1)] [] := by
  intro x1 w h
  unfold X11_means_b78 at h
  refine v_aload_n C dX11_means_78 0 rfl ?_
  refine g_X11_names C wd_1089 dX11_means_79 ?_
  refine v_aload_n C dX11_means_82 0 rfl ?_
  refine g_X11_newPosts C wd_1090 dX11_means_83 ?_
  refine v_aload_n C dX11_means_86 0 rfl ?_
  refine g_X11_tName C wd_1078 dX11_means_87 ?_
  refine v_iload_n C dX11_means_90 1 rfl ?_
  refine v_iconst C dX11_means_91 ?_
  refine v_iadd C dX11_means_92 ?_
  refine v_lald C rfl h.1 dX11_means_93 ?_
  have h := h.2
  refine v_last C rfl h.1 dX11_means_94 ?_
  have h := h.2
  have h := h _ rfl
  refine v_aload_n C dX11_means_95 0 rfl ?_
  refine v_dup C dX11_means_96 rfl ?_
  refine g_X11_newPosts C wd_1090 dX11_means_97 ?_
  refine v_iconst C dX11_means_100 ?_
  refine v_iadd C dX11_means_101 ?_
  refine p_X11_newPosts C wd_1090 dX11_means_102 ?_
  have h := h _ rfl
  refine v_iinc C [(1, _), (0, _)] dX11_means_105 1 rfl (by decide) rfl ?_
  refine v_goto C 33 dX11_means_108 (by decide) ?_
  refine v_sub [1, 0] rfl ?_
  exact hc33 _ _ h
def X11_means_l33 (Q : Wd → Prop) (e111 : Wd → Prop) : Nat → Int → Wd → Prop
  | 0 => fun _ _ => False
  | n + 1 => fun x1 w => ((wr (w 65 10) ≤ wr x1 → e111 w) ∧ (¬ wr (w 65 10) ≤ wr x1 → (ix x1 403 ∧ ((wr (rd w 68 x1) = wr 20 → (ix (x1 + 1) 403 ∧ X11_named (rd w 71 (x1 + 1)) w (fun y5 w4 => ((wr y5 < 0 → X11_means_b78 Q (X11_means_l33 Q e111 n) e111 x1 w4) ∧ (¬ wr y5 < 0 → X11_wrong 3 (x1 + 1) w4 (fun w8 => X11_means_b78 Q (X11_means_l33 Q e111 n) e111 x1 w8)))))) ∧ (¬ wr (rd w 68 x1) = wr 20 → (X11_means_l33 Q e111 n) (x1 + 1) w)))))
theorem t_X11_means_l33 {Z : Zw} {E : Amb} {Q : Wd → Prop} {e111 : Wd → Prop} (C : Cx Z (adA Z) E cX11_means "HandleFacesModel" 3 rm_X11_means) (R : Rt Z E none (qV Z Q)) (he111 : ∀ (w : Wd), e111 w → V Z (adA Z) E 3 w 111 [(0, rv Z 65)] []) : ∀ (n : Nat) (x1 : Int) (w : Wd), X11_means_l33 Q e111 n x1 w → V Z (adA Z) E 3 w 33 [(0, rv Z 65), (1, iv x1)] [] := by
  intro n
  induction n with
  | zero => intro x1 w h; exact h.elim
  | succ n ih =>
    intro x1 w h
    unfold X11_means_l33 at h
    refine v_iload_n C dX11_means_33 1 rfl ?_
    refine v_aload_n C dX11_means_34 0 rfl ?_
    refine g_X11_tokens C wd_1080 dX11_means_35 ?_
    refine v_icmp_ge C 111 dX11_means_38 (by decide) (fun q => ?_) (fun q => ?_)
    · have h := h.1 q
      refine v_sub [0] rfl ?_
      exact he111 _ h
    · have h := h.2 q
      refine v_aload_n C dX11_means_41 0 rfl ?_
      refine g_X11_tKind C wd_1075 dX11_means_42 ?_
      refine v_iload_n C dX11_means_45 1 rfl ?_
      refine v_iald C rfl h.1 dX11_means_46 ?_
      have h := h.2
      refine v_bipush C dX11_means_47 (by decide) ?_
      refine v_icmp_eq C 55 dX11_means_49 (by decide) (fun q => ?_) (fun q => ?_)
      · have h := h.1 q
        refine v_aload_n C dX11_means_55 0 rfl ?_
        refine v_aload_n C dX11_means_56 0 rfl ?_
        refine g_X11_tName C wd_1078 dX11_means_57 ?_
        refine v_iload_n C dX11_means_60 1 rfl ?_
        refine v_iconst C dX11_means_61 ?_
        refine v_iadd C dX11_means_62 ?_
        refine v_lald C rfl h.1 dX11_means_63 ?_
        have h := h.2
        refine v_calli C (rn_V C _ (m_X11_named h) mf_X11_named wd_1265 wp_53 wd_1263 rfl rfl ⟨(Nat.le_of_ble_eq_true rfl), (Nat.le_of_ble_eq_true rfl)⟩ rfl rfl rfl rfl (Nat.le_of_ble_eq_true rfl) dX11_means_64) (fun r w h => ?_)
        refine v_if_lt C 78 dX11_means_67 (by decide) (fun q => ?_) (fun q => ?_)
        · have h := h.1 q
          exact t_X11_means_b78 C R ih he111 _ _ h
        · have h := h.2 q
          refine v_aload_n C dX11_means_70 0 rfl ?_
          refine v_iconst C dX11_means_71 ?_
          refine v_iload_n C dX11_means_72 1 rfl ?_
          refine v_iconst C dX11_means_73 ?_
          refine v_iadd C dX11_means_74 ?_
          refine v_callv C (rn_V C _ (m_X11_wrong h) mf_X11_wrong wd_1269 wp_54 wd_1267 rfl rfl ⟨(Nat.le_of_ble_eq_true rfl), (Nat.le_of_ble_eq_true rfl)⟩ rfl rfl rfl rfl (Nat.le_of_ble_eq_true rfl) dX11_means_75) (fun w h => ?_)
          exact t_X11_means_b78 C R ih he111 _ _ h
      · have h := h.2 q
        refine v_goto C 105 dX11_means_52 (by decide) ?_
        refine v_iinc C [(1, _), (0, _)] dX11_means_105 1 rfl (by decide) rfl ?_
        refine v_goto C 33 dX11_means_108 (by decide) ?_
        refine v_sub [1, 0] rfl ?_
        exact ih _ _ h
def X11_means_l113 (Q : Wd → Prop) (e143 : Wd → Prop) : Nat → Int → Wd → Prop
  | 0 => fun _ _ => False
  | n + 1 => fun x1 w => ((wr (w 65 10) ≤ wr x1 → e143 w) ∧ (¬ wr (w 65 10) ≤ wr x1 → (ix x1 403 ∧ ((wr (rd w 68 x1) = wr 21 → X11_meansLine x1 w (fun w9 => (X11_means_l113 Q e143 n) (x1 + 1) w9)) ∧ (¬ wr (rd w 68 x1) = wr 21 → (X11_means_l113 Q e143 n) (x1 + 1) w)))))
theorem t_X11_means_l113 {Z : Zw} {E : Amb} {Q : Wd → Prop} {e143 : Wd → Prop} (C : Cx Z (adA Z) E cX11_means "HandleFacesModel" 3 rm_X11_means) (R : Rt Z E none (qV Z Q)) (he143 : ∀ (w : Wd), e143 w → V Z (adA Z) E 3 w 143 [(0, rv Z 65)] []) : ∀ (n : Nat) (x1 : Int) (w : Wd), X11_means_l113 Q e143 n x1 w → V Z (adA Z) E 3 w 113 [(0, rv Z 65), (1, iv x1)] [] := by
  intro n
  induction n with
  | zero => intro x1 w h; exact h.elim
  | succ n ih =>
    intro x1 w h
    unfold X11_means_l113 at h
    refine v_iload_n C dX11_means_113 1 rfl ?_
    refine v_aload_n C dX11_means_114 0 rfl ?_
    refine g_X11_tokens C wd_1080 dX11_means_115 ?_
    refine v_icmp_ge C 143 dX11_means_118 (by decide) (fun q => ?_) (fun q => ?_)
    · have h := h.1 q
      refine v_sub [0] rfl ?_
      exact he143 _ h
    · have h := h.2 q
      refine v_aload_n C dX11_means_121 0 rfl ?_
      refine g_X11_tKind C wd_1075 dX11_means_122 ?_
      refine v_iload_n C dX11_means_125 1 rfl ?_
      refine v_iald C rfl h.1 dX11_means_126 ?_
      have h := h.2
      refine v_bipush C dX11_means_127 (by decide) ?_
      refine v_icmp_ne C 137 dX11_means_129 (by decide) (fun q => ?_) (fun q => ?_)
      · have h := h.2 q
        refine v_iinc C [(1, _), (0, _)] dX11_means_137 1 rfl (by decide) rfl ?_
        refine v_goto C 113 dX11_means_140 (by decide) ?_
        refine v_sub [1, 0] rfl ?_
        exact ih _ _ h
      · have h := h.1 q
        refine v_aload_n C dX11_means_132 0 rfl ?_
        refine v_iload_n C dX11_means_133 1 rfl ?_
        refine v_callv C (rn_V C _ (m_X11_meansLine h) mf_X11_meansLine wd_1273 wp_55 wd_1271 rfl rfl ⟨(Nat.le_of_ble_eq_true rfl), (Nat.le_of_ble_eq_true rfl)⟩ rfl rfl rfl rfl (Nat.le_of_ble_eq_true rfl) dX11_means_134) (fun w h => ?_)
        refine v_iinc C [(1, _), (0, _)] dX11_means_137 1 rfl (by decide) rfl ?_
        refine v_goto C 113 dX11_means_140 (by decide) ?_
        refine v_sub [1, 0] rfl ?_
        exact ih _ _ h
def X11_means_b213 (Q : Wd → Prop) (c175 : Int → Int → Wd → Prop) (e228 : Int → Wd → Prop) (x1 : Int) (x2 : Int) (w : Wd) : Prop := X11_adds 74 x1 x2 w (fun w12 => c175 x1 (x2 + 1) w12)
theorem t_X11_means_b213 {Z : Zw} {E : Amb} {Q : Wd → Prop} {c175 : Int → Int → Wd → Prop} {e228 : Int → Wd → Prop} (C : Cx Z (adA Z) E cX11_means "HandleFacesModel" 3 rm_X11_means) (R : Rt Z E none (qV Z Q)) (hc175 : ∀ (x1 : Int) (x2 : Int) (w : Wd), c175 x1 x2 w → V Z (adA Z) E 3 w 175 [(0, rv Z 65), (1, iv x1), (2, iv x2)] []) (he228 : ∀ (x1 : Int) (w : Wd), e228 x1 w → V Z (adA Z) E 3 w 228 [(0, rv Z 65), (1, iv x1)] []) : ∀ (x1 : Int) (x2 : Int) (w : Wd), X11_means_b213 Q c175 e228 x1 x2 w → V Z (adA Z) E 3 w 213 [(0, rv Z 65), (1, iv x1), (2, iv x2)] [] := by
  intro x1 x2 w h
  unfold X11_means_b213 at h
  refine v_aload_n C dX11_means_213 0 rfl ?_
  refine g_X11_fresh C wd_1088 dX11_means_214 ?_
  refine v_iload_n C dX11_means_217 1 rfl ?_
  refine v_iload_n C dX11_means_218 2 rfl ?_
  refine v_callv C (rn_S C _ (m_X11_adds rfl h) mf_X11_adds wd_1276 wd_1275 rfl rfl ⟨(Nat.le_of_ble_eq_true rfl), (Nat.le_of_ble_eq_true rfl)⟩ rfl rfl (Nat.le_of_ble_eq_true rfl) dX11_means_219) (fun w h => ?_)
  refine v_iinc C [(2, _), (0, _), (1, _)] dX11_means_222 2 rfl (by decide) rfl ?_
  refine v_goto C 175 dX11_means_225 (by decide) ?_
  refine v_sub [1, 2, 0] rfl ?_
  exact hc175 _ _ _ h
def X11_means_l175 (Q : Wd → Prop) (e228 : Int → Wd → Prop) : Nat → Int → Int → Wd → Prop
  | 0 => fun _ _ _ => False
  | n + 1 => fun x1 x2 w => ((wr (w 65 21) ≤ wr x2 → e228 x1 w) ∧ (¬ wr (w 65 21) ≤ wr x2 → (ix (2 + (2 * x2)) 98 ∧ ((wr (rd w 74 (2 + (2 * x2))) = wr x1 → X11_means_b213 Q (X11_means_l175 Q e228 n) e228 x1 x2 w) ∧ (¬ wr (rd w 74 (2 + (2 * x2))) = wr x1 → (ix ((2 + (2 * x2)) + 1) 98 ∧ ((wr (rd w 74 ((2 + (2 * x2)) + 1)) = wr x1 → X11_means_b213 Q (X11_means_l175 Q e228 n) e228 x1 x2 w) ∧ (¬ wr (rd w 74 ((2 + (2 * x2)) + 1)) = wr x1 → (X11_means_l175 Q e228 n) x1 (x2 + 1) w))))))))
theorem t_X11_means_l175 {Z : Zw} {E : Amb} {Q : Wd → Prop} {e228 : Int → Wd → Prop} (C : Cx Z (adA Z) E cX11_means "HandleFacesModel" 3 rm_X11_means) (R : Rt Z E none (qV Z Q)) (he228 : ∀ (x1 : Int) (w : Wd), e228 x1 w → V Z (adA Z) E 3 w 228 [(0, rv Z 65), (1, iv x1)] []) : ∀ (n : Nat) (x1 : Int) (x2 : Int) (w : Wd), X11_means_l175 Q e228 n x1 x2 w → V Z (adA Z) E 3 w 175 [(0, rv Z 65), (1, iv x1), (2, iv x2)] [] := by
  intro n
  induction n with
  | zero => intro x1 x2 w h; exact h.elim
  | succ n ih =>
    intro x1 x2 w h
    unfold X11_means_l175 at h
    refine v_iload_n C dX11_means_175 2 rfl ?_
    refine v_aload_n C dX11_means_176 0 rfl ?_
    refine g_X11_newLines C wd_1091 dX11_means_177 ?_
    refine v_icmp_ge C 228 dX11_means_180 (by decide) (fun q => ?_) (fun q => ?_)
    · have h := h.1 q
      refine v_sub [0, 1] rfl ?_
      exact he228 _ _ h
    · have h := h.2 q
      refine v_aload_n C dX11_means_183 0 rfl ?_
      refine g_X11_fresh C wd_1088 dX11_means_184 ?_
      refine v_iconst C dX11_means_187 ?_
      refine v_iconst C dX11_means_188 ?_
      refine v_iload_n C dX11_means_189 2 rfl ?_
      refine v_imul C dX11_means_190 ?_
      refine v_iadd C dX11_means_191 ?_
      refine v_iald C rfl h.1 dX11_means_192 ?_
      have h := h.2
      refine v_iload_n C dX11_means_193 1 rfl ?_
      refine v_icmp_eq C 213 dX11_means_194 (by decide) (fun q => ?_) (fun q => ?_)
      · have h := h.1 q
        exact t_X11_means_b213 C R ih he228 _ _ _ h
      · have h := h.2 q
        refine v_aload_n C dX11_means_197 0 rfl ?_
        refine g_X11_fresh C wd_1088 dX11_means_198 ?_
        refine v_iconst C dX11_means_201 ?_
        refine v_iconst C dX11_means_202 ?_
        refine v_iload_n C dX11_means_203 2 rfl ?_
        refine v_imul C dX11_means_204 ?_
        refine v_iadd C dX11_means_205 ?_
        refine v_iconst C dX11_means_206 ?_
        refine v_iadd C dX11_means_207 ?_
        refine v_iald C rfl h.1 dX11_means_208 ?_
        have h := h.2
        refine v_iload_n C dX11_means_209 1 rfl ?_
        refine v_icmp_ne C 222 dX11_means_210 (by decide) (fun q => ?_) (fun q => ?_)
        · have h := h.2 q
          refine v_iinc C [(2, _), (0, _), (1, _)] dX11_means_222 2 rfl (by decide) rfl ?_
          refine v_goto C 175 dX11_means_225 (by decide) ?_
          refine v_sub [1, 2, 0] rfl ?_
          exact ih _ _ _ h
        · have h := h.1 q
          exact t_X11_means_b213 C R ih he228 _ _ _ h
def X11_means_b228 (Q : Wd → Prop) (c165 : Int → Wd → Prop) (e234 : Wd → Prop) (x1 : Int) (w : Wd) : Prop := c165 (x1 + 1) w
theorem t_X11_means_b228 {Z : Zw} {E : Amb} {Q : Wd → Prop} {c165 : Int → Wd → Prop} {e234 : Wd → Prop} (C : Cx Z (adA Z) E cX11_means "HandleFacesModel" 3 rm_X11_means) (R : Rt Z E none (qV Z Q)) (hc165 : ∀ (x1 : Int) (w : Wd), c165 x1 w → V Z (adA Z) E 3 w 165 [(0, rv Z 65), (1, iv x1)] []) (he234 : ∀ (w : Wd), e234 w → V Z (adA Z) E 3 w 234 [(0, rv Z 65)] []) : ∀ (x1 : Int) (w : Wd), X11_means_b228 Q c165 e234 x1 w → V Z (adA Z) E 3 w 228 [(0, rv Z 65), (1, iv x1)] [] := by
  intro x1 w h
  unfold X11_means_b228 at h
  refine v_iinc C [(1, _), (0, _)] dX11_means_228 1 rfl (by decide) rfl ?_
  refine v_goto C 165 dX11_means_231 (by decide) ?_
  refine v_sub [1, 0] rfl ?_
  exact hc165 _ _ h
def X11_means_l165 (Q : Wd → Prop) (e234 : Wd → Prop) : Nat → Int → Wd → Prop
  | 0 => fun _ _ => False
  | n + 1 => fun x1 w => ((wr (w 65 20) ≤ wr x1 → e234 w) ∧ (¬ wr (w 65 20) ≤ wr x1 → (∃ m, X11_means_l175 Q (X11_means_b228 Q (X11_means_l165 Q e234 n) e234) m x1 0 w)))
theorem t_X11_means_l165 {Z : Zw} {E : Amb} {Q : Wd → Prop} {e234 : Wd → Prop} (C : Cx Z (adA Z) E cX11_means "HandleFacesModel" 3 rm_X11_means) (R : Rt Z E none (qV Z Q)) (he234 : ∀ (w : Wd), e234 w → V Z (adA Z) E 3 w 234 [(0, rv Z 65)] []) : ∀ (n : Nat) (x1 : Int) (w : Wd), X11_means_l165 Q e234 n x1 w → V Z (adA Z) E 3 w 165 [(0, rv Z 65), (1, iv x1)] [] := by
  intro n
  induction n with
  | zero => intro x1 w h; exact h.elim
  | succ n ih =>
    intro x1 w h
    unfold X11_means_l165 at h
    refine v_iload_n C dX11_means_165 1 rfl ?_
    refine v_aload_n C dX11_means_166 0 rfl ?_
    refine g_X11_newPosts C wd_1090 dX11_means_167 ?_
    refine v_icmp_ge C 234 dX11_means_170 (by decide) (fun q => ?_) (fun q => ?_)
    · have h := h.1 q
      refine v_sub [0] rfl ?_
      exact he234 _ h
    · have h := h.2 q
      refine v_iconst C dX11_means_173 ?_
      refine v_istore_n C [(2, _), (0, _), (1, _)] dX11_means_174 2 rfl (by decide) rfl ?_
      refine v_sub [1, 2, 0] rfl ?_
      obtain ⟨m, h⟩ := h
      exact t_X11_means_l175 C R (t_X11_means_b228 C R ih he234) m _ _ _ h
def X11_means_l236 (Q : Wd → Prop) (e266 : Wd → Prop) : Nat → Int → Wd → Prop
  | 0 => fun _ _ => False
  | n + 1 => fun x1 w => ((wr (w 65 10) ≤ wr x1 → e266 w) ∧ (¬ wr (w 65 10) ≤ wr x1 → (ix x1 403 ∧ ((wr (rd w 68 x1) = wr 23 → X11_meansRound x1 w (fun w13 => (X11_means_l236 Q e266 n) (x1 + 1) w13)) ∧ (¬ wr (rd w 68 x1) = wr 23 → (X11_means_l236 Q e266 n) (x1 + 1) w)))))
theorem t_X11_means_l236 {Z : Zw} {E : Amb} {Q : Wd → Prop} {e266 : Wd → Prop} (C : Cx Z (adA Z) E cX11_means "HandleFacesModel" 3 rm_X11_means) (R : Rt Z E none (qV Z Q)) (he266 : ∀ (w : Wd), e266 w → V Z (adA Z) E 3 w 266 [] []) : ∀ (n : Nat) (x1 : Int) (w : Wd), X11_means_l236 Q e266 n x1 w → V Z (adA Z) E 3 w 236 [(0, rv Z 65), (1, iv x1)] [] := by
  intro n
  induction n with
  | zero => intro x1 w h; exact h.elim
  | succ n ih =>
    intro x1 w h
    unfold X11_means_l236 at h
    refine v_iload_n C dX11_means_236 1 rfl ?_
    refine v_aload_n C dX11_means_237 0 rfl ?_
    refine g_X11_tokens C wd_1080 dX11_means_238 ?_
    refine v_icmp_ge C 266 dX11_means_241 (by decide) (fun q => ?_) (fun q => ?_)
    · have h := h.1 q
      refine v_sub [] rfl ?_
      exact he266 _ h
    · have h := h.2 q
      refine v_aload_n C dX11_means_244 0 rfl ?_
      refine g_X11_tKind C wd_1075 dX11_means_245 ?_
      refine v_iload_n C dX11_means_248 1 rfl ?_
      refine v_iald C rfl h.1 dX11_means_249 ?_
      have h := h.2
      refine v_bipush C dX11_means_250 (by decide) ?_
      refine v_icmp_ne C 260 dX11_means_252 (by decide) (fun q => ?_) (fun q => ?_)
      · have h := h.2 q
        refine v_iinc C [(1, _), (0, _)] dX11_means_260 1 rfl (by decide) rfl ?_
        refine v_goto C 236 dX11_means_263 (by decide) ?_
        refine v_sub [1, 0] rfl ?_
        exact ih _ _ h
      · have h := h.1 q
        refine v_aload_n C dX11_means_255 0 rfl ?_
        refine v_iload_n C dX11_means_256 1 rfl ?_
        refine v_callv C (rn_V C _ (m_X11_meansRound h) mf_X11_meansRound wd_1280 wp_56 wd_1278 rfl rfl ⟨(Nat.le_of_ble_eq_true rfl), (Nat.le_of_ble_eq_true rfl)⟩ rfl rfl rfl rfl (Nat.le_of_ble_eq_true rfl) dX11_means_257) (fun w h => ?_)
        refine v_iinc C [(1, _), (0, _)] dX11_means_260 1 rfl (by decide) rfl ?_
        refine v_goto C 236 dX11_means_263 (by decide) ?_
        refine v_sub [1, 0] rfl ?_
        exact ih _ _ h
def X11_means_b266 (Q : Wd → Prop) (w : Wd) : Prop := Q w
theorem t_X11_means_b266 {Z : Zw} {E : Amb} {Q : Wd → Prop} (C : Cx Z (adA Z) E cX11_means "HandleFacesModel" 3 rm_X11_means) (R : Rt Z E none (qV Z Q)) : ∀ (w : Wd), X11_means_b266 Q w → V Z (adA Z) E 3 w 266 [] [] := by
  intro w h
  unfold X11_means_b266 at h
  exact v_ret C R h dX11_means_266
def X11_means_b234 (Q : Wd → Prop) (w : Wd) : Prop := (∃ m, X11_means_l236 Q (X11_means_b266 Q) m 0 w)
theorem t_X11_means_b234 {Z : Zw} {E : Amb} {Q : Wd → Prop} (C : Cx Z (adA Z) E cX11_means "HandleFacesModel" 3 rm_X11_means) (R : Rt Z E none (qV Z Q)) : ∀ (w : Wd), X11_means_b234 Q w → V Z (adA Z) E 3 w 234 [(0, rv Z 65)] [] := by
  intro w h
  unfold X11_means_b234 at h
  refine v_iconst C dX11_means_234 ?_
  refine v_istore_n C [(1, _), (0, _)] dX11_means_235 1 rfl (by decide) rfl ?_
  refine v_sub [1, 0] rfl ?_
  obtain ⟨m, h⟩ := h
  exact t_X11_means_l236 C R (t_X11_means_b266 C R) m _ _ h
def X11_means_b143 (Q : Wd → Prop) (w : Wd) : Prop := (ix 0 98 ∧ (∀ w10, w10 = wt w 74 0 (w 65 20) → (ix 1 98 ∧ (∀ w11, w11 = wt w10 74 1 (w10 65 21) → (∃ m, X11_means_l165 Q (X11_means_b234 Q) m 0 w11)))))
theorem t_X11_means_b143 {Z : Zw} {E : Amb} {Q : Wd → Prop} (C : Cx Z (adA Z) E cX11_means "HandleFacesModel" 3 rm_X11_means) (R : Rt Z E none (qV Z Q)) : ∀ (w : Wd), X11_means_b143 Q w → V Z (adA Z) E 3 w 143 [(0, rv Z 65)] [] := by
  intro w h
  unfold X11_means_b143 at h
  refine v_aload_n C dX11_means_143 0 rfl ?_
  refine g_X11_fresh C wd_1088 dX11_means_144 ?_
  refine v_iconst C dX11_means_147 ?_
  refine v_aload_n C dX11_means_148 0 rfl ?_
  refine g_X11_newPosts C wd_1090 dX11_means_149 ?_
  refine v_iast C rfl h.1 dX11_means_152 ?_
  have h := h.2
  have h := h _ rfl
  refine v_aload_n C dX11_means_153 0 rfl ?_
  refine g_X11_fresh C wd_1088 dX11_means_154 ?_
  refine v_iconst C dX11_means_157 ?_
  refine v_aload_n C dX11_means_158 0 rfl ?_
  refine g_X11_newLines C wd_1091 dX11_means_159 ?_
  refine v_iast C rfl h.1 dX11_means_162 ?_
  have h := h.2
  have h := h _ rfl
  refine v_iconst C dX11_means_163 ?_
  refine v_istore_n C [(1, _), (0, _)] dX11_means_164 1 rfl (by decide) rfl ?_
  refine v_sub [1, 0] rfl ?_
  obtain ⟨m, h⟩ := h
  exact t_X11_means_l165 C R (t_X11_means_b234 C R) m _ _ h
def X11_means_b111 (Q : Wd → Prop) (w : Wd) : Prop := (∃ m, X11_means_l113 Q (X11_means_b143 Q) m 0 w)
theorem t_X11_means_b111 {Z : Zw} {E : Amb} {Q : Wd → Prop} (C : Cx Z (adA Z) E cX11_means "HandleFacesModel" 3 rm_X11_means) (R : Rt Z E none (qV Z Q)) : ∀ (w : Wd), X11_means_b111 Q w → V Z (adA Z) E 3 w 111 [(0, rv Z 65)] [] := by
  intro w h
  unfold X11_means_b111 at h
  refine v_iconst C dX11_means_111 ?_
  refine v_istore_n C [(1, _), (0, _)] dX11_means_112 1 rfl (by decide) rfl ?_
  refine v_sub [1, 0] rfl ?_
  obtain ⟨m, h⟩ := h
  exact t_X11_means_l113 C R (t_X11_means_b143 C R) m _ _ h
def X11_means_b21 (Q : Wd → Prop) (w : Wd) : Prop := (∀ w2, w2 = up w 65 20 0 → (∀ w3, w3 = up w2 65 21 0 → (∃ m, X11_means_l33 Q (X11_means_b111 Q) m 0 w3)))
theorem t_X11_means_b21 {Z : Zw} {E : Amb} {Q : Wd → Prop} (C : Cx Z (adA Z) E cX11_means "HandleFacesModel" 3 rm_X11_means) (R : Rt Z E none (qV Z Q)) : ∀ (w : Wd), X11_means_b21 Q w → V Z (adA Z) E 3 w 21 [(0, rv Z 65)] [] := by
  intro w h
  unfold X11_means_b21 at h
  refine v_aload_n C dX11_means_21 0 rfl ?_
  refine v_iconst C dX11_means_22 ?_
  refine p_X11_newPosts C wd_1090 dX11_means_23 ?_
  have h := h _ rfl
  refine v_aload_n C dX11_means_26 0 rfl ?_
  refine v_iconst C dX11_means_27 ?_
  refine p_X11_newLines C wd_1091 dX11_means_28 ?_
  have h := h _ rfl
  refine v_iconst C dX11_means_31 ?_
  refine v_istore_n C [(1, _), (0, _)] dX11_means_32 1 rfl (by decide) rfl ?_
  refine v_sub [1, 0] rfl ?_
  obtain ⟨m, h⟩ := h
  exact t_X11_means_l33 C R (t_X11_means_b111 C R) m _ _ h
def X11_means (w : Wd) (Q : Wd → Prop) : Prop := (∃ m, X11_means_l2 Q (X11_means_b21 Q) m 0 w)
theorem m_X11_means {Z : Zw} {l : Launch} {w : Wd} {Q : Wd → Prop} (h : X11_means w Q) : CtQ Z l yX11_means cX11_means 3 none rm_X11_means [rv Z 65] w (qV Z Q) := by
  refine ct_of (by decide) (Nat.le_of_ble_eq_true rfl) (fun E eE C R => ?_)
  subst eE
  have C : Cx Z (adA Z) E cX11_means "HandleFacesModel" 3 rm_X11_means := C
  unfold X11_means at h
  show V Z (adA Z) E 3 w 0 [(0, rv Z 65)] []
  refine v_iconst C dX11_means_0 ?_
  refine v_istore_n C [(1, _), (0, _)] dX11_means_1 1 rfl (by decide) rfl ?_
  refine v_sub [1, 0] rfl ?_
  obtain ⟨m, h⟩ := h
  exact t_X11_means_l2 C R (t_X11_means_b21 C R) m _ _ h
abbrev rm_X11_read : Room := { frames := 4, cells := 0, slots := 0, locals := 82 }
theorem mf_X11_read : MfB yX11_read cX11_read 2 (some .int) 0 := ⟨wd_1216, wd_13, by decide, by decide, by decide +kernel⟩
def X11_read_l10 (Q : Int → Wd → Prop) (e36 : Wd → Prop) : Nat → Int → Wd → Prop
  | 0 => fun _ _ => False
  | n + 1 => fun x1 w => ((wr (w 65 4) ≤ wr x1 → e36 w) ∧ (¬ wr (w 65 4) ≤ wr x1 → (ix x1 2000 ∧ (ix x1 2000 ∧ (byt (rd w 66 x1) ∧ (∀ w2, w2 = wt w 67 x1 (rd w 66 x1) → (X11_read_l10 Q e36 n) (x1 + 1) w2))))))
theorem t_X11_read_l10 {Z : Zw} {E : Amb} {Q : Int → Wd → Prop} {e36 : Wd → Prop} (C : Cx Z (adA Z) E cX11_read "HandleFacesModel" 2 rm_X11_read) (R : Rt Z E (some .int) (qI Z Q)) (he36 : ∀ (w : Wd), e36 w → V Z (adA Z) E 2 w 36 [(0, rv Z 65)] []) : ∀ (n : Nat) (x1 : Int) (w : Wd), X11_read_l10 Q e36 n x1 w → V Z (adA Z) E 2 w 10 [(0, rv Z 65), (1, iv x1)] [] := by
  intro n
  induction n with
  | zero => intro x1 w h; exact h.elim
  | succ n ih =>
    intro x1 w h
    unfold X11_read_l10 at h
    refine v_iload_n C dX11_read_10 1 rfl ?_
    refine v_aload_n C dX11_read_11 0 rfl ?_
    refine g_X11_size C wd_1074 dX11_read_12 ?_
    refine v_icmp_ge C 36 dX11_read_15 (by decide) (fun q => ?_) (fun q => ?_)
    · have h := h.1 q
      refine v_sub [0] rfl ?_
      exact he36 _ h
    · have h := h.2 q
      refine v_aload_n C dX11_read_18 0 rfl ?_
      refine g_X11_text C wd_1073 dX11_read_19 ?_
      refine v_iload_n C dX11_read_22 1 rfl ?_
      refine v_aload_n C dX11_read_23 0 rfl ?_
      refine g_X11_tape C wd_1071 dX11_read_24 ?_
      refine v_iload_n C dX11_read_27 1 rfl ?_
      refine v_bald C rfl h.1 dX11_read_28 ?_
      have h := h.2
      refine v_bast C rfl h.1 h.2.1 dX11_read_29 ?_
      have h := h.2.2
      have h := h _ rfl
      refine v_iinc C [(1, _), (0, _)] dX11_read_30 1 rfl (by decide) rfl ?_
      refine v_goto C 10 dX11_read_33 (by decide) ?_
      refine v_sub [1, 0] rfl ?_
      exact ih _ _ h
def X11_read_l70 (Q : Int → Wd → Prop) (e92 : Wd → Prop) : Nat → Wd → Prop
  | 0 => fun _ => False
  | n + 1 => fun w => ((wr (w 65 12) = 0 → X11_is 0 w (fun y11 w10 => ((wr y11 = 0 → X11_tell w10 (fun w12 => (X11_read_l70 Q e92 n) w12)) ∧ (¬ wr y11 = 0 → e92 w10)))) ∧ (¬ wr (w 65 12) = 0 → e92 w))
theorem t_X11_read_l70 {Z : Zw} {E : Amb} {Q : Int → Wd → Prop} {e92 : Wd → Prop} (C : Cx Z (adA Z) E cX11_read "HandleFacesModel" 2 rm_X11_read) (R : Rt Z E (some .int) (qI Z Q)) (he92 : ∀ (w : Wd), e92 w → V Z (adA Z) E 2 w 92 [(0, rv Z 65)] []) : ∀ (n : Nat) (w : Wd), X11_read_l70 Q e92 n w → V Z (adA Z) E 2 w 70 [(0, rv Z 65)] [] := by
  intro n
  induction n with
  | zero => intro w h; exact h.elim
  | succ n ih =>
    intro w h
    unfold X11_read_l70 at h
    refine v_aload_n C dX11_read_70 0 rfl ?_
    refine g_X11_fault C wd_1082 dX11_read_71 ?_
    refine v_if_ne C 92 dX11_read_74 (by decide) (fun q => ?_) (fun q => ?_)
    · have h := h.2 q
      exact he92 _ h
    · have h := h.1 q
      refine v_aload_n C dX11_read_77 0 rfl ?_
      refine v_iconst C dX11_read_78 ?_
      refine v_calli C (rn_V C _ (m_X11_is h) mf_X11_is wd_1241 wp_47 wd_1239 rfl rfl ⟨(Nat.le_of_ble_eq_true rfl), (Nat.le_of_ble_eq_true rfl)⟩ rfl rfl rfl rfl (Nat.le_of_ble_eq_true rfl) dX11_read_79) (fun r w h => ?_)
      refine v_if_ne C 92 dX11_read_82 (by decide) (fun q => ?_) (fun q => ?_)
      · have h := h.2 q
        exact he92 _ h
      · have h := h.1 q
        refine v_aload_n C dX11_read_85 0 rfl ?_
        refine v_callv C (rn_V C _ (m_X11_tell h) mf_X11_tell wd_1245 wp_48 wd_1243 rfl rfl ⟨(Nat.le_of_ble_eq_true rfl), (Nat.le_of_ble_eq_true rfl)⟩ rfl rfl rfl rfl (Nat.le_of_ble_eq_true rfl) dX11_read_86) (fun w h => ?_)
        refine v_goto C 70 dX11_read_89 (by decide) ?_
        exact ih _ h
def X11_read_l162 (Q : Int → Wd → Prop) (e186 : Wd → Prop) : Nat → Int → Wd → Prop
  | 0 => fun _ _ => False
  | n + 1 => fun x1 w => ((wr 98 ≤ wr x1 → e186 w) ∧ (¬ wr 98 ≤ wr x1 → (ix x1 98 ∧ (ix x1 98 ∧ (∀ w14, w14 = wt w 73 x1 (rd w 74 x1) → (X11_read_l162 Q e186 n) (x1 + 1) w14)))))
theorem t_X11_read_l162 {Z : Zw} {E : Amb} {Q : Int → Wd → Prop} {e186 : Wd → Prop} (C : Cx Z (adA Z) E cX11_read "HandleFacesModel" 2 rm_X11_read) (R : Rt Z E (some .int) (qI Z Q)) (he186 : ∀ (w : Wd), e186 w → V Z (adA Z) E 2 w 186 [(0, rv Z 65)] []) : ∀ (n : Nat) (x1 : Int) (w : Wd), X11_read_l162 Q e186 n x1 w → V Z (adA Z) E 2 w 162 [(0, rv Z 65), (1, iv x1)] [] := by
  intro n
  induction n with
  | zero => intro x1 w h; exact h.elim
  | succ n ih =>
    intro x1 w h
    unfold X11_read_l162 at h
    refine v_iload_n C dX11_read_162 1 rfl ?_
    refine v_bipush C dX11_read_163 (by decide) ?_
    refine v_icmp_ge C 186 dX11_read_165 (by decide) (fun q => ?_) (fun q => ?_)
    · have h := h.1 q
      refine v_sub [0] rfl ?_
      exact he186 _ h
    · have h := h.2 q
      refine v_aload_n C dX11_read_168 0 rfl ?_
      refine g_X11_now C wd_1087 dX11_read_169 ?_
      refine v_iload_n C dX11_read_172 1 rfl ?_
      refine v_aload_n C dX11_read_173 0 rfl ?_
      refine g_X11_fresh C wd_1088 dX11_read_174 ?_
      refine v_iload_n C dX11_read_177 1 rfl ?_
      refine v_iald C rfl h.1 dX11_read_178 ?_
      have h := h.2
      refine v_iast C rfl h.1 dX11_read_179 ?_
      have h := h.2
      have h := h _ rfl
      refine v_iinc C [(1, _), (0, _)] dX11_read_180 1 rfl (by decide) rfl ?_
      refine v_goto C 162 dX11_read_183 (by decide) ?_
      refine v_sub [1, 0] rfl ?_
      exact ih _ _ h
def X11_read_l193 (Q : Int → Wd → Prop) (e211 : Wd → Prop) : Nat → Int → Wd → Prop
  | 0 => fun _ _ => False
  | n + 1 => fun x1 w => ((wr 3 ≤ wr x1 → e211 w) ∧ (¬ wr 3 ≤ wr x1 → (ix x1 3 ∧ (∀ w16, w16 = wt w 78 x1 0 → (X11_read_l193 Q e211 n) (x1 + 1) w16))))
theorem t_X11_read_l193 {Z : Zw} {E : Amb} {Q : Int → Wd → Prop} {e211 : Wd → Prop} (C : Cx Z (adA Z) E cX11_read "HandleFacesModel" 2 rm_X11_read) (R : Rt Z E (some .int) (qI Z Q)) (he211 : ∀ (w : Wd), e211 w → V Z (adA Z) E 2 w 211 [] []) : ∀ (n : Nat) (x1 : Int) (w : Wd), X11_read_l193 Q e211 n x1 w → V Z (adA Z) E 2 w 193 [(0, rv Z 65), (1, iv x1)] [] := by
  intro n
  induction n with
  | zero => intro x1 w h; exact h.elim
  | succ n ih =>
    intro x1 w h
    unfold X11_read_l193 at h
    refine v_iload_n C dX11_read_193 1 rfl ?_
    refine v_iconst C dX11_read_194 ?_
    refine v_icmp_ge C 211 dX11_read_195 (by decide) (fun q => ?_) (fun q => ?_)
    · have h := h.1 q
      refine v_sub [] rfl ?_
      exact he211 _ h
    · have h := h.2 q
      refine v_aload_n C dX11_read_198 0 rfl ?_
      refine g_X11_isHeld C wd_1096 dX11_read_199 ?_
      refine v_iload_n C dX11_read_202 1 rfl ?_
      refine v_iconst C dX11_read_203 ?_
      refine v_zast C rfl h.1 (by decide) dX11_read_204 ?_
      have h := h.2
      have h := h _ rfl
      refine v_iinc C [(1, _), (0, _)] dX11_read_205 1 rfl (by decide) rfl ?_
      refine v_goto C 193 dX11_read_208 (by decide) ?_
      refine v_sub [1, 0] rfl ?_
      exact ih _ _ h
def X11_read_b211 (Q : Int → Wd → Prop) (w : Wd) : Prop := Q (wr 0) w
theorem t_X11_read_b211 {Z : Zw} {E : Amb} {Q : Int → Wd → Prop} (C : Cx Z (adA Z) E cX11_read "HandleFacesModel" 2 rm_X11_read) (R : Rt Z E (some .int) (qI Z Q)) : ∀ (w : Wd), X11_read_b211 Q w → V Z (adA Z) E 2 w 211 [] [] := by
  intro w h
  unfold X11_read_b211 at h
  refine v_iconst C dX11_read_211 ?_
  exact v_iret C R h dX11_read_212
def X11_read_b186 (Q : Int → Wd → Prop) (w : Wd) : Prop := (∀ w15, w15 = up w 65 24 0 → (∃ m, X11_read_l193 Q (X11_read_b211 Q) m 0 w15))
theorem t_X11_read_b186 {Z : Zw} {E : Amb} {Q : Int → Wd → Prop} (C : Cx Z (adA Z) E cX11_read "HandleFacesModel" 2 rm_X11_read) (R : Rt Z E (some .int) (qI Z Q)) : ∀ (w : Wd), X11_read_b186 Q w → V Z (adA Z) E 2 w 186 [(0, rv Z 65)] [] := by
  intro w h
  unfold X11_read_b186 at h
  refine v_aload_n C dX11_read_186 0 rfl ?_
  refine v_iconst C dX11_read_187 ?_
  refine p_X11_undos C wd_1094 dX11_read_188 ?_
  have h := h _ rfl
  refine v_iconst C dX11_read_191 ?_
  refine v_istore_n C [(1, _), (0, _)] dX11_read_192 1 rfl (by decide) rfl ?_
  refine v_sub [1, 0] rfl ?_
  obtain ⟨m, h⟩ := h
  exact t_X11_read_l193 C R (t_X11_read_b211 C R) m _ _ h
def X11_read_b133 (Q : Int → Wd → Prop) (s0 : Int) (w : Wd) : Prop := (∀ w13, w13 = up w 65 16 s0 → ((wr (w13 65 12) ≤ 0 → ((wr (w13 65 14) ≤ 0 → (∃ m, X11_read_l162 Q (X11_read_b186 Q) m 0 w13)) ∧ (¬ wr (w13 65 14) ≤ 0 → Q (wr (w13 65 14)) w13))) ∧ (¬ wr (w13 65 12) ≤ 0 → Q (wr (w13 65 12)) w13)))
theorem t_X11_read_b133 {Z : Zw} {E : Amb} {Q : Int → Wd → Prop} (C : Cx Z (adA Z) E cX11_read "HandleFacesModel" 2 rm_X11_read) (R : Rt Z E (some .int) (qI Z Q)) : ∀ (s0 : Int) (w : Wd), X11_read_b133 Q s0 w → V Z (adA Z) E 2 w 133 [(0, rv Z 65)] [iv s0, rv Z 65] := by
  intro s0 w h
  unfold X11_read_b133 at h
  refine p_X11_place C wd_1086 dX11_read_133 ?_
  have h := h _ rfl
  refine v_aload_n C dX11_read_136 0 rfl ?_
  refine g_X11_fault C wd_1082 dX11_read_137 ?_
  refine v_if_le C 148 dX11_read_140 (by decide) (fun q => ?_) (fun q => ?_)
  · have h := h.1 q
    refine v_aload_n C dX11_read_148 0 rfl ?_
    refine g_X11_worst C wd_1084 dX11_read_149 ?_
    refine v_if_le C 160 dX11_read_152 (by decide) (fun q => ?_) (fun q => ?_)
    · have h := h.1 q
      refine v_iconst C dX11_read_160 ?_
      refine v_istore_n C [(1, _), (0, _)] dX11_read_161 1 rfl (by decide) rfl ?_
      refine v_sub [1, 0] rfl ?_
      obtain ⟨m, h⟩ := h
      exact t_X11_read_l162 C R (t_X11_read_b186 C R) m _ _ h
    · have h := h.2 q
      refine v_aload_n C dX11_read_155 0 rfl ?_
      refine g_X11_worst C wd_1084 dX11_read_156 ?_
      exact v_iret C R h dX11_read_159
  · have h := h.2 q
    refine v_aload_n C dX11_read_143 0 rfl ?_
    refine g_X11_fault C wd_1082 dX11_read_144 ?_
    exact v_iret C R h dX11_read_147
def X11_read_b103 (Q : Int → Wd → Prop) (w : Wd) : Prop := ((wr (w 65 12) ≤ 0 → ((wr (w 65 14) ≤ 0 → X11_read_b133 Q (-1) w) ∧ (¬ wr (w 65 14) ≤ 0 → X11_read_b133 Q (w 65 15) w))) ∧ (¬ wr (w 65 12) ≤ 0 → X11_read_b133 Q (w 65 13) w))
theorem t_X11_read_b103 {Z : Zw} {E : Amb} {Q : Int → Wd → Prop} (C : Cx Z (adA Z) E cX11_read "HandleFacesModel" 2 rm_X11_read) (R : Rt Z E (some .int) (qI Z Q)) : ∀ (w : Wd), X11_read_b103 Q w → V Z (adA Z) E 2 w 103 [(0, rv Z 65)] [] := by
  intro w h
  unfold X11_read_b103 at h
  refine v_aload_n C dX11_read_103 0 rfl ?_
  refine v_aload_n C dX11_read_104 0 rfl ?_
  refine g_X11_fault C wd_1082 dX11_read_105 ?_
  refine v_if_le C 118 dX11_read_108 (by decide) (fun q => ?_) (fun q => ?_)
  · have h := h.1 q
    refine v_aload_n C dX11_read_118 0 rfl ?_
    refine g_X11_worst C wd_1084 dX11_read_119 ?_
    refine v_if_le C 132 dX11_read_122 (by decide) (fun q => ?_) (fun q => ?_)
    · have h := h.1 q
      refine v_iconst C dX11_read_132 ?_
      exact t_X11_read_b133 C R _ _ h
    · have h := h.2 q
      refine v_aload_n C dX11_read_125 0 rfl ?_
      refine g_X11_worstPlace C wd_1085 dX11_read_126 ?_
      refine v_goto C 133 dX11_read_129 (by decide) ?_
      exact t_X11_read_b133 C R _ _ h
  · have h := h.2 q
    refine v_aload_n C dX11_read_111 0 rfl ?_
    refine g_X11_faultPlace C wd_1083 dX11_read_112 ?_
    refine v_goto C 133 dX11_read_115 (by decide) ?_
    exact t_X11_read_b133 C R _ _ h
def X11_read_b92 (Q : Int → Wd → Prop) (w : Wd) : Prop := ((wr (w 65 12) = 0 → X11_means w (fun w17 => X11_read_b103 Q w17)) ∧ (¬ wr (w 65 12) = 0 → X11_read_b103 Q w))
theorem t_X11_read_b92 {Z : Zw} {E : Amb} {Q : Int → Wd → Prop} (C : Cx Z (adA Z) E cX11_read "HandleFacesModel" 2 rm_X11_read) (R : Rt Z E (some .int) (qI Z Q)) : ∀ (w : Wd), X11_read_b92 Q w → V Z (adA Z) E 2 w 92 [(0, rv Z 65)] [] := by
  intro w h
  unfold X11_read_b92 at h
  refine v_aload_n C dX11_read_92 0 rfl ?_
  refine g_X11_fault C wd_1082 dX11_read_93 ?_
  refine v_if_ne C 103 dX11_read_96 (by decide) (fun q => ?_) (fun q => ?_)
  · have h := h.2 q
    exact t_X11_read_b103 C R _ h
  · have h := h.1 q
    refine v_aload_n C dX11_read_99 0 rfl ?_
    refine v_callv C (rn_V C _ (m_X11_means h) mf_X11_means wd_1261 wp_52 wd_1259 rfl rfl ⟨(Nat.le_of_ble_eq_true rfl), (Nat.le_of_ble_eq_true rfl)⟩ rfl rfl rfl rfl (Nat.le_of_ble_eq_true rfl) dX11_read_100) (fun w h => ?_)
    exact t_X11_read_b103 C R _ h
def X11_read_b36 (Q : Int → Wd → Prop) (w : Wd) : Prop := (∀ w3, w3 = up w 65 2 0 → X11_cutsText w3 (fun w4 => (∀ w5, w5 = up w4 65 11 0 → (∀ w6, w6 = up w5 65 12 0 → (∀ w7, w7 = up w6 65 14 0 → (∀ w8, w8 = up w7 65 20 0 → (∀ w9, w9 = up w8 65 21 0 → (∃ m, X11_read_l70 Q (X11_read_b92 Q) m w9))))))))
theorem t_X11_read_b36 {Z : Zw} {E : Amb} {Q : Int → Wd → Prop} (C : Cx Z (adA Z) E cX11_read "HandleFacesModel" 2 rm_X11_read) (R : Rt Z E (some .int) (qI Z Q)) : ∀ (w : Wd), X11_read_b36 Q w → V Z (adA Z) E 2 w 36 [(0, rv Z 65)] [] := by
  intro w h
  unfold X11_read_b36 at h
  refine v_aload_n C dX11_read_36 0 rfl ?_
  refine v_iconst C dX11_read_37 ?_
  refine p_X11_taped C wd_1072 dX11_read_38 ?_
  have h := h _ rfl
  refine v_aload_n C dX11_read_41 0 rfl ?_
  refine v_callv C (rn_V C _ (m_X11_cutsText h) mf_X11_cutsText wd_1219 wp_43 wd_1217 rfl rfl ⟨(Nat.le_of_ble_eq_true rfl), (Nat.le_of_ble_eq_true rfl)⟩ rfl rfl rfl rfl (Nat.le_of_ble_eq_true rfl) dX11_read_42) (fun w h => ?_)
  refine v_aload_n C dX11_read_45 0 rfl ?_
  refine v_iconst C dX11_read_46 ?_
  refine p_X11_t C wd_1081 dX11_read_47 ?_
  have h := h _ rfl
  refine v_aload_n C dX11_read_50 0 rfl ?_
  refine v_iconst C dX11_read_51 ?_
  refine p_X11_fault C wd_1082 dX11_read_52 ?_
  have h := h _ rfl
  refine v_aload_n C dX11_read_55 0 rfl ?_
  refine v_iconst C dX11_read_56 ?_
  refine p_X11_worst C wd_1084 dX11_read_57 ?_
  have h := h _ rfl
  refine v_aload_n C dX11_read_60 0 rfl ?_
  refine v_iconst C dX11_read_61 ?_
  refine p_X11_newPosts C wd_1090 dX11_read_62 ?_
  have h := h _ rfl
  refine v_aload_n C dX11_read_65 0 rfl ?_
  refine v_iconst C dX11_read_66 ?_
  refine p_X11_newLines C wd_1091 dX11_read_67 ?_
  have h := h _ rfl
  obtain ⟨m, h⟩ := h
  exact t_X11_read_l70 C R (t_X11_read_b92 C R) m _ h
def X11_read (w : Wd) (Q : Int → Wd → Prop) : Prop := (∀ w1, w1 = up w 65 4 (w 65 2) → (∃ m, X11_read_l10 Q (X11_read_b36 Q) m 0 w1))
theorem m_X11_read {Z : Zw} {l : Launch} {w : Wd} {Q : Int → Wd → Prop} (h : X11_read w Q) : CtQ Z l yX11_read cX11_read 2 (some .int) rm_X11_read [rv Z 65] w (qI Z Q) := by
  refine ct_of (by decide) (Nat.le_of_ble_eq_true rfl) (fun E eE C R => ?_)
  subst eE
  have C : Cx Z (adA Z) E cX11_read "HandleFacesModel" 2 rm_X11_read := C
  unfold X11_read at h
  show V Z (adA Z) E 2 w 0 [(0, rv Z 65)] []
  refine v_aload_n C dX11_read_0 0 rfl ?_
  refine v_aload_n C dX11_read_1 0 rfl ?_
  refine g_X11_taped C wd_1072 dX11_read_2 ?_
  refine p_X11_size C wd_1074 dX11_read_5 ?_
  have h := h _ rfl
  refine v_iconst C dX11_read_8 ?_
  refine v_istore_n C [(1, _), (0, _)] dX11_read_9 1 rfl (by decide) rfl ?_
  refine v_sub [1, 0] rfl ?_
  obtain ⟨m, h⟩ := h
  exact t_X11_read_l10 C R (t_X11_read_b36 C R) m _ _ h
abbrev rm_X11_place : Room := { frames := 0, cells := 0, slots := 0, locals := 0 }
theorem mf_X11_place : MfB yX11_place cX11_place 1 (some .int) 0 := ⟨wd_1288, wd_13, by decide, by decide, by decide +kernel⟩
def X11_place (w : Wd) (Q : Int → Wd → Prop) : Prop := Q (wr (w 65 16)) w
theorem m_X11_place {Z : Zw} {l : Launch} {w : Wd} {Q : Int → Wd → Prop} (h : X11_place w Q) : CtQ Z l yX11_place cX11_place 1 (some .int) rm_X11_place [rv Z 65] w (qI Z Q) := by
  refine ct_of (by decide) (Nat.le_of_ble_eq_true rfl) (fun E eE C R => ?_)
  subst eE
  have C : Cx Z (adA Z) E cX11_place "HandleFacesModel" 1 rm_X11_place := C
  unfold X11_place at h
  show V Z (adA Z) E 1 w 0 [(0, rv Z 65)] []
  refine v_aload_n C dX11_place_0 0 rfl ?_
  refine g_X11_place C wd_1086 dX11_place_1 ?_
  exact v_iret C R h dX11_place_4
abbrev rm_X11_in : Room := { frames := 0, cells := 0, slots := 0, locals := 0 }
theorem mf_X11_in : MfB yX11_in cX11_in 3 (some .boolean) 3 := ⟨wd_1299, wd_13, by decide, by decide, by decide +kernel⟩
def X11_in_b14 (Q : Int → Wd → Prop) (w : Wd) : Prop := Q 0 w
theorem t_X11_in_b14 {Z : Zw} {E : Amb} {Q : Int → Wd → Prop} (C : Cx Z (adA Z) E cX11_in "HandleFacesModel" 3 rm_X11_in) (R : Rt Z E (some .boolean) (qI Z Q)) : ∀ (w : Wd), X11_in_b14 Q w → V Z (adA Z) E 3 w 14 [] [] := by
  intro w h
  unfold X11_in_b14 at h
  refine v_iconst C dX11_in_14 ?_
  exact v_zret C R (Or.inl rfl) h dX11_in_15
def X11_in (x0 : Int) (x1 : Int) (x2 : Int) (w : Wd) (Q : Int → Wd → Prop) : Prop := ((wr x0 < wr x1 → X11_in_b14 Q w) ∧ (¬ wr x0 < wr x1 → ((wr x2 < wr x0 → X11_in_b14 Q w) ∧ (¬ wr x2 < wr x0 → Q 1 w))))
theorem m_X11_in {Z : Zw} {l : Launch} {x0 : Int} {x1 : Int} {x2 : Int} {w : Wd} {Q : Int → Wd → Prop} (h : X11_in x0 x1 x2 w Q) : CtQ Z l yX11_in cX11_in 3 (some .boolean) rm_X11_in [iv x0, iv x1, iv x2] w (qI Z Q) := by
  refine ct_of (by decide) (Nat.le_of_ble_eq_true rfl) (fun E eE C R => ?_)
  subst eE
  have C : Cx Z (adA Z) E cX11_in "HandleFacesModel" 3 rm_X11_in := C
  unfold X11_in at h
  show V Z (adA Z) E 3 w 0 [(0, iv x0), (1, iv x1), (2, iv x2)] []
  refine v_iload_n C dX11_in_0 0 rfl ?_
  refine v_iload_n C dX11_in_1 1 rfl ?_
  refine v_icmp_lt C 14 dX11_in_2 (by decide) (fun q => ?_) (fun q => ?_)
  · have h := h.1 q
    refine v_sub [] rfl ?_
    exact t_X11_in_b14 C R _ h
  · have h := h.2 q
    refine v_iload_n C dX11_in_5 0 rfl ?_
    refine v_iload_n C dX11_in_6 2 rfl ?_
    refine v_icmp_gt C 14 dX11_in_7 (by decide) (fun q => ?_) (fun q => ?_)
    · have h := h.1 q
      refine v_sub [] rfl ?_
      exact t_X11_in_b14 C R _ h
    · have h := h.2 q
      refine v_iconst C dX11_in_10 ?_
      refine v_goto C 15 dX11_in_11 (by decide) ?_
      exact v_zret C R (Or.inr rfl) h dX11_in_15
abbrev rm_X11_isPost : Room := { frames := 1, cells := 0, slots := 0, locals := 22 }
theorem mf_X11_isPost : MfB yX11_isPost cX11_isPost 2 (some .boolean) 1 := ⟨wd_1315, wd_13, by decide, by decide, by decide +kernel⟩
def X11_isPost (x1 : Int) (w : Wd) (Q : Int → Wd → Prop) : Prop := (ix 0 98 ∧ X11_in x1 0 ((rd w 73 0) - 1) w (fun y2 w1 => ((y2 = 0 ∨ y2 = 1) ∧ Q y2 w1)))
theorem m_X11_isPost {Z : Zw} {l : Launch} {x1 : Int} {w : Wd} {Q : Int → Wd → Prop} (h : X11_isPost x1 w Q) : CtQ Z l yX11_isPost cX11_isPost 2 (some .boolean) rm_X11_isPost [rv Z 65, iv x1] w (qI Z Q) := by
  refine ct_of (by decide) (Nat.le_of_ble_eq_true rfl) (fun E eE C R => ?_)
  subst eE
  have C : Cx Z (adA Z) E cX11_isPost "HandleFacesModel" 2 rm_X11_isPost := C
  unfold X11_isPost at h
  show V Z (adA Z) E 2 w 0 [(0, rv Z 65), (1, iv x1)] []
  refine v_iload_n C dX11_isPost_0 1 rfl ?_
  refine v_iconst C dX11_isPost_1 ?_
  refine v_aload_n C dX11_isPost_2 0 rfl ?_
  refine g_X11_now C wd_1087 dX11_isPost_3 ?_
  refine v_iconst C dX11_isPost_6 ?_
  refine v_iald C rfl h.1 dX11_isPost_7 ?_
  have h := h.2
  refine v_iconst C dX11_isPost_8 ?_
  refine v_isub C dX11_isPost_9 ?_
  refine v_calli C (rn_S C _ (m_X11_in h) mf_X11_in wd_1298 wd_1297 rfl rfl ⟨(Nat.le_of_ble_eq_true rfl), (Nat.le_of_ble_eq_true rfl)⟩ rfl rfl (Nat.le_of_ble_eq_true rfl) dX11_isPost_10) (fun r w h => ?_)
  exact v_zret C R h.1 h.2 dX11_isPost_13
abbrev rm_X11_isLine : Room := { frames := 1, cells := 0, slots := 0, locals := 22 }
theorem mf_X11_isLine : MfB yX11_isLine cX11_isLine 2 (some .boolean) 1 := ⟨wd_1330, wd_13, by decide, by decide, by decide +kernel⟩
def X11_isLine (x1 : Int) (w : Wd) (Q : Int → Wd → Prop) : Prop := (ix 1 98 ∧ X11_in x1 0 ((rd w 73 1) - 1) w (fun y2 w1 => ((y2 = 0 ∨ y2 = 1) ∧ Q y2 w1)))
theorem m_X11_isLine {Z : Zw} {l : Launch} {x1 : Int} {w : Wd} {Q : Int → Wd → Prop} (h : X11_isLine x1 w Q) : CtQ Z l yX11_isLine cX11_isLine 2 (some .boolean) rm_X11_isLine [rv Z 65, iv x1] w (qI Z Q) := by
  refine ct_of (by decide) (Nat.le_of_ble_eq_true rfl) (fun E eE C R => ?_)
  subst eE
  have C : Cx Z (adA Z) E cX11_isLine "HandleFacesModel" 2 rm_X11_isLine := C
  unfold X11_isLine at h
  show V Z (adA Z) E 2 w 0 [(0, rv Z 65), (1, iv x1)] []
  refine v_iload_n C dX11_isLine_0 1 rfl ?_
  refine v_iconst C dX11_isLine_1 ?_
  refine v_aload_n C dX11_isLine_2 0 rfl ?_
  refine g_X11_now C wd_1087 dX11_isLine_3 ?_
  refine v_iconst C dX11_isLine_6 ?_
  refine v_iald C rfl h.1 dX11_isLine_7 ?_
  have h := h.2
  refine v_iconst C dX11_isLine_8 ?_
  refine v_isub C dX11_isLine_9 ?_
  refine v_calli C (rn_S C _ (m_X11_in h) mf_X11_in wd_1298 wd_1297 rfl rfl ⟨(Nat.le_of_ble_eq_true rfl), (Nat.le_of_ble_eq_true rfl)⟩ rfl rfl (Nat.le_of_ble_eq_true rfl) dX11_isLine_10) (fun r w h => ?_)
  exact v_zret C R h.1 h.2 dX11_isLine_13
abbrev rm_X11_marks : Room := { frames := 0, cells := 0, slots := 0, locals := 0 }
theorem mf_X11_marks : MfB yX11_marks cX11_marks 3 none 0 := ⟨wd_1319, wd_13, by decide, by decide, by decide +kernel⟩
def X11_marks_l50 (Q : Wd → Prop) (e76 : Wd → Prop) : Nat → Int → Int → Wd → Prop
  | 0 => fun _ _ _ => False
  | n + 1 => fun x1 x2 w => ((wr 98 ≤ wr x2 → e76 w) ∧ (¬ wr 98 ≤ wr x2 → (ix x2 98 ∧ (ix (x1 + x2) 3920 ∧ (∀ w2, w2 = wt w 76 (x1 + x2) (rd w 73 x2) → (X11_marks_l50 Q e76 n) x1 (x2 + 1) w2)))))
theorem t_X11_marks_l50 {Z : Zw} {E : Amb} {Q : Wd → Prop} {e76 : Wd → Prop} (C : Cx Z (adA Z) E cX11_marks "HandleFacesModel" 3 rm_X11_marks) (R : Rt Z E none (qV Z Q)) (he76 : ∀ (w : Wd), e76 w → V Z (adA Z) E 3 w 76 [(0, rv Z 65)] []) : ∀ (n : Nat) (x1 : Int) (x2 : Int) (w : Wd), X11_marks_l50 Q e76 n x1 x2 w → V Z (adA Z) E 3 w 50 [(0, rv Z 65), (1, iv x1), (2, iv x2)] [] := by
  intro n
  induction n with
  | zero => intro x1 x2 w h; exact h.elim
  | succ n ih =>
    intro x1 x2 w h
    unfold X11_marks_l50 at h
    refine v_iload_n C dX11_marks_50 2 rfl ?_
    refine v_bipush C dX11_marks_51 (by decide) ?_
    refine v_icmp_ge C 76 dX11_marks_53 (by decide) (fun q => ?_) (fun q => ?_)
    · have h := h.1 q
      refine v_sub [0] rfl ?_
      exact he76 _ h
    · have h := h.2 q
      refine v_aload_n C dX11_marks_56 0 rfl ?_
      refine g_X11_earlier C wd_1092 dX11_marks_57 ?_
      refine v_iload_n C dX11_marks_60 1 rfl ?_
      refine v_iload_n C dX11_marks_61 2 rfl ?_
      refine v_iadd C dX11_marks_62 ?_
      refine v_aload_n C dX11_marks_63 0 rfl ?_
      refine g_X11_now C wd_1087 dX11_marks_64 ?_
      refine v_iload_n C dX11_marks_67 2 rfl ?_
      refine v_iald C rfl h.1 dX11_marks_68 ?_
      have h := h.2
      refine v_iast C rfl h.1 dX11_marks_69 ?_
      have h := h.2
      have h := h _ rfl
      refine v_iinc C [(2, _), (0, _), (1, _)] dX11_marks_70 2 rfl (by decide) rfl ?_
      refine v_goto C 50 dX11_marks_73 (by decide) ?_
      refine v_sub [1, 2, 0] rfl ?_
      exact ih _ _ _ h
def X11_marks_b76 (Q : Wd → Prop) (w : Wd) : Prop := (∀ w3, w3 = up w 65 24 ((w 65 24) + 1) → Q w3)
theorem t_X11_marks_b76 {Z : Zw} {E : Amb} {Q : Wd → Prop} (C : Cx Z (adA Z) E cX11_marks "HandleFacesModel" 3 rm_X11_marks) (R : Rt Z E none (qV Z Q)) : ∀ (w : Wd), X11_marks_b76 Q w → V Z (adA Z) E 3 w 76 [(0, rv Z 65)] [] := by
  intro w h
  unfold X11_marks_b76 at h
  refine v_aload_n C dX11_marks_76 0 rfl ?_
  refine v_dup C dX11_marks_77 rfl ?_
  refine g_X11_undos C wd_1094 dX11_marks_78 ?_
  refine v_iconst C dX11_marks_81 ?_
  refine v_iadd C dX11_marks_82 ?_
  refine p_X11_undos C wd_1094 dX11_marks_83 ?_
  have h := h _ rfl
  exact v_ret C R h dX11_marks_86
def X11_marks_b32 (Q : Wd → Prop) (w : Wd) : Prop := (∀ y1, y1 = (98 * (irm ((w 65 23) + (w 65 24)) 40)) → (∃ m, X11_marks_l50 Q (X11_marks_b76 Q) m y1 0 w))
theorem t_X11_marks_b32 {Z : Zw} {E : Amb} {Q : Wd → Prop} (C : Cx Z (adA Z) E cX11_marks "HandleFacesModel" 3 rm_X11_marks) (R : Rt Z E none (qV Z Q)) : ∀ (w : Wd), X11_marks_b32 Q w → V Z (adA Z) E 3 w 32 [(0, rv Z 65)] [] := by
  intro w h
  unfold X11_marks_b32 at h
  refine v_bipush C dX11_marks_32 (by decide) ?_
  refine v_aload_n C dX11_marks_34 0 rfl ?_
  refine g_X11_earliest C wd_1093 dX11_marks_35 ?_
  refine v_aload_n C dX11_marks_38 0 rfl ?_
  refine g_X11_undos C wd_1094 dX11_marks_39 ?_
  refine v_iadd C dX11_marks_42 ?_
  refine v_bipush C dX11_marks_43 (by decide) ?_
  refine v_irem C dX11_marks_45 (by decide) ?_
  refine v_imul C dX11_marks_46 ?_
  refine v_istore_n C [(1, _), (0, _)] dX11_marks_47 1 rfl (by decide) rfl ?_
  have h := h _ rfl
  refine v_iconst C dX11_marks_48 ?_
  refine v_istore_n C [(2, _), (1, _), (0, _)] dX11_marks_49 2 rfl (by decide) rfl ?_
  refine v_sub [2, 1, 0] rfl ?_
  obtain ⟨m, h⟩ := h
  exact t_X11_marks_l50 C R (t_X11_marks_b76 C R) m _ _ _ h
def X11_marks (w : Wd) (Q : Wd → Prop) : Prop := ((wr (w 65 24) = wr 40 → (∀ w4, w4 = up w 65 23 (irm ((w 65 23) + 1) 40) → (∀ w5, w5 = up w4 65 24 ((w4 65 24) - 1) → X11_marks_b32 Q w5))) ∧ (¬ wr (w 65 24) = wr 40 → X11_marks_b32 Q w))
theorem m_X11_marks {Z : Zw} {l : Launch} {w : Wd} {Q : Wd → Prop} (h : X11_marks w Q) : CtQ Z l yX11_marks cX11_marks 3 none rm_X11_marks [rv Z 65] w (qV Z Q) := by
  refine ct_of (by decide) (Nat.le_of_ble_eq_true rfl) (fun E eE C R => ?_)
  subst eE
  have C : Cx Z (adA Z) E cX11_marks "HandleFacesModel" 3 rm_X11_marks := C
  unfold X11_marks at h
  show V Z (adA Z) E 3 w 0 [(0, rv Z 65)] []
  refine v_aload_n C dX11_marks_0 0 rfl ?_
  refine g_X11_undos C wd_1094 dX11_marks_1 ?_
  refine v_bipush C dX11_marks_4 (by decide) ?_
  refine v_icmp_ne C 32 dX11_marks_6 (by decide) (fun q => ?_) (fun q => ?_)
  · have h := h.2 q
    exact t_X11_marks_b32 C R _ h
  · have h := h.1 q
    refine v_aload_n C dX11_marks_9 0 rfl ?_
    refine v_aload_n C dX11_marks_10 0 rfl ?_
    refine g_X11_earliest C wd_1093 dX11_marks_11 ?_
    refine v_iconst C dX11_marks_14 ?_
    refine v_iadd C dX11_marks_15 ?_
    refine v_bipush C dX11_marks_16 (by decide) ?_
    refine v_irem C dX11_marks_18 (by decide) ?_
    refine p_X11_earliest C wd_1093 dX11_marks_19 ?_
    have h := h _ rfl
    refine v_aload_n C dX11_marks_22 0 rfl ?_
    refine v_dup C dX11_marks_23 rfl ?_
    refine g_X11_undos C wd_1094 dX11_marks_24 ?_
    refine v_iconst C dX11_marks_27 ?_
    refine v_isub C dX11_marks_28 ?_
    refine p_X11_undos C wd_1094 dX11_marks_29 ?_
    have h := h _ rfl
    exact t_X11_marks_b32 C R _ h
abbrev rm_X11_undo : Room := { frames := 0, cells := 0, slots := 0, locals := 0 }
theorem mf_X11_undo : MfB yX11_undo cX11_undo 3 (some .boolean) 0 := ⟨wd_1292, wd_13, by decide, by decide, by decide +kernel⟩
def X11_undo_l37 (Q : Int → Wd → Prop) (e63 : Wd → Prop) : Nat → Int → Int → Wd → Prop
  | 0 => fun _ _ _ => False
  | n + 1 => fun x1 x2 w => ((wr 98 ≤ wr x2 → e63 w) ∧ (¬ wr 98 ≤ wr x2 → (ix (x1 + x2) 3920 ∧ (ix x2 98 ∧ (∀ w3, w3 = wt w 73 x2 (rd w 76 (x1 + x2)) → (X11_undo_l37 Q e63 n) x1 (x2 + 1) w3)))))
theorem t_X11_undo_l37 {Z : Zw} {E : Amb} {Q : Int → Wd → Prop} {e63 : Wd → Prop} (C : Cx Z (adA Z) E cX11_undo "HandleFacesModel" 3 rm_X11_undo) (R : Rt Z E (some .boolean) (qI Z Q)) (he63 : ∀ (w : Wd), e63 w → V Z (adA Z) E 3 w 63 [] []) : ∀ (n : Nat) (x1 : Int) (x2 : Int) (w : Wd), X11_undo_l37 Q e63 n x1 x2 w → V Z (adA Z) E 3 w 37 [(0, rv Z 65), (1, iv x1), (2, iv x2)] [] := by
  intro n
  induction n with
  | zero => intro x1 x2 w h; exact h.elim
  | succ n ih =>
    intro x1 x2 w h
    unfold X11_undo_l37 at h
    refine v_iload_n C dX11_undo_37 2 rfl ?_
    refine v_bipush C dX11_undo_38 (by decide) ?_
    refine v_icmp_ge C 63 dX11_undo_40 (by decide) (fun q => ?_) (fun q => ?_)
    · have h := h.1 q
      refine v_sub [] rfl ?_
      exact he63 _ h
    · have h := h.2 q
      refine v_aload_n C dX11_undo_43 0 rfl ?_
      refine g_X11_now C wd_1087 dX11_undo_44 ?_
      refine v_iload_n C dX11_undo_47 2 rfl ?_
      refine v_aload_n C dX11_undo_48 0 rfl ?_
      refine g_X11_earlier C wd_1092 dX11_undo_49 ?_
      refine v_iload_n C dX11_undo_52 1 rfl ?_
      refine v_iload_n C dX11_undo_53 2 rfl ?_
      refine v_iadd C dX11_undo_54 ?_
      refine v_iald C rfl h.1 dX11_undo_55 ?_
      have h := h.2
      refine v_iast C rfl h.1 dX11_undo_56 ?_
      have h := h.2
      have h := h _ rfl
      refine v_iinc C [(2, _), (0, _), (1, _)] dX11_undo_57 2 rfl (by decide) rfl ?_
      refine v_goto C 37 dX11_undo_60 (by decide) ?_
      refine v_sub [1, 2, 0] rfl ?_
      exact ih _ _ _ h
def X11_undo_b63 (Q : Int → Wd → Prop) (w : Wd) : Prop := Q 1 w
theorem t_X11_undo_b63 {Z : Zw} {E : Amb} {Q : Int → Wd → Prop} (C : Cx Z (adA Z) E cX11_undo "HandleFacesModel" 3 rm_X11_undo) (R : Rt Z E (some .boolean) (qI Z Q)) : ∀ (w : Wd), X11_undo_b63 Q w → V Z (adA Z) E 3 w 63 [] [] := by
  intro w h
  unfold X11_undo_b63 at h
  refine v_iconst C dX11_undo_63 ?_
  exact v_zret C R (Or.inr rfl) h dX11_undo_64
def X11_undo (w : Wd) (Q : Int → Wd → Prop) : Prop := ((wr (w 65 24) = 0 → Q 0 w) ∧ (¬ wr (w 65 24) = 0 → (∀ w1, w1 = up w 65 24 ((w 65 24) - 1) → (∀ y2, y2 = (98 * (irm ((w1 65 23) + (w1 65 24)) 40)) → (∃ m, X11_undo_l37 Q (X11_undo_b63 Q) m y2 0 w1)))))
theorem m_X11_undo {Z : Zw} {l : Launch} {w : Wd} {Q : Int → Wd → Prop} (h : X11_undo w Q) : CtQ Z l yX11_undo cX11_undo 3 (some .boolean) rm_X11_undo [rv Z 65] w (qI Z Q) := by
  refine ct_of (by decide) (Nat.le_of_ble_eq_true rfl) (fun E eE C R => ?_)
  subst eE
  have C : Cx Z (adA Z) E cX11_undo "HandleFacesModel" 3 rm_X11_undo := C
  unfold X11_undo at h
  show V Z (adA Z) E 3 w 0 [(0, rv Z 65)] []
  refine v_aload_n C dX11_undo_0 0 rfl ?_
  refine g_X11_undos C wd_1094 dX11_undo_1 ?_
  refine v_if_ne C 9 dX11_undo_4 (by decide) (fun q => ?_) (fun q => ?_)
  · have h := h.2 q
    refine v_aload_n C dX11_undo_9 0 rfl ?_
    refine v_dup C dX11_undo_10 rfl ?_
    refine g_X11_undos C wd_1094 dX11_undo_11 ?_
    refine v_iconst C dX11_undo_14 ?_
    refine v_isub C dX11_undo_15 ?_
    refine p_X11_undos C wd_1094 dX11_undo_16 ?_
    have h := h _ rfl
    refine v_bipush C dX11_undo_19 (by decide) ?_
    refine v_aload_n C dX11_undo_21 0 rfl ?_
    refine g_X11_earliest C wd_1093 dX11_undo_22 ?_
    refine v_aload_n C dX11_undo_25 0 rfl ?_
    refine g_X11_undos C wd_1094 dX11_undo_26 ?_
    refine v_iadd C dX11_undo_29 ?_
    refine v_bipush C dX11_undo_30 (by decide) ?_
    refine v_irem C dX11_undo_32 (by decide) ?_
    refine v_imul C dX11_undo_33 ?_
    refine v_istore_n C [(1, _), (0, _)] dX11_undo_34 1 rfl (by decide) rfl ?_
    have h := h _ rfl
    refine v_iconst C dX11_undo_35 ?_
    refine v_istore_n C [(2, _), (1, _), (0, _)] dX11_undo_36 2 rfl (by decide) rfl ?_
    refine v_sub [2, 1, 0] rfl ?_
    obtain ⟨m, h⟩ := h
    exact t_X11_undo_l37 C R (t_X11_undo_b63 C R) m _ _ _ h
  · have h := h.1 q
    refine v_iconst C dX11_undo_7 ?_
    exact v_zret C R (Or.inl rfl) h dX11_undo_8
abbrev rm_X11_hold : Room := { frames := 1, cells := 0, slots := 0, locals := 22 }
theorem mf_X11_hold : MfB yX11_hold cX11_hold 3 (some .boolean) 1 := ⟨wd_1296, wd_13, by decide, by decide, by decide +kernel⟩
def X11_hold_l13 (Q : Int → Wd → Prop) (e42 : Int → Wd → Prop) : Nat → Int → Int → Wd → Prop
  | 0 => fun _ _ _ => False
  | n + 1 => fun x1 x2 w => ((wr 98 ≤ wr x2 → e42 x1 w) ∧ (¬ wr 98 ≤ wr x2 → (ix x2 98 ∧ (ix ((98 * x1) + x2) 294 ∧ (∀ w3, w3 = wt w 77 ((98 * x1) + x2) (rd w 73 x2) → (X11_hold_l13 Q e42 n) x1 (x2 + 1) w3)))))
theorem t_X11_hold_l13 {Z : Zw} {E : Amb} {Q : Int → Wd → Prop} {e42 : Int → Wd → Prop} (C : Cx Z (adA Z) E cX11_hold "HandleFacesModel" 3 rm_X11_hold) (R : Rt Z E (some .boolean) (qI Z Q)) (he42 : ∀ (x1 : Int) (w : Wd), e42 x1 w → V Z (adA Z) E 3 w 42 [(0, rv Z 65), (1, iv x1)] []) : ∀ (n : Nat) (x1 : Int) (x2 : Int) (w : Wd), X11_hold_l13 Q e42 n x1 x2 w → V Z (adA Z) E 3 w 13 [(0, rv Z 65), (1, iv x1), (2, iv x2)] [] := by
  intro n
  induction n with
  | zero => intro x1 x2 w h; exact h.elim
  | succ n ih =>
    intro x1 x2 w h
    unfold X11_hold_l13 at h
    refine v_iload_n C dX11_hold_13 2 rfl ?_
    refine v_bipush C dX11_hold_14 (by decide) ?_
    refine v_icmp_ge C 42 dX11_hold_16 (by decide) (fun q => ?_) (fun q => ?_)
    · have h := h.1 q
      refine v_sub [0, 1] rfl ?_
      exact he42 _ _ h
    · have h := h.2 q
      refine v_aload_n C dX11_hold_19 0 rfl ?_
      refine g_X11_held C wd_1095 dX11_hold_20 ?_
      refine v_bipush C dX11_hold_23 (by decide) ?_
      refine v_iload_n C dX11_hold_25 1 rfl ?_
      refine v_imul C dX11_hold_26 ?_
      refine v_iload_n C dX11_hold_27 2 rfl ?_
      refine v_iadd C dX11_hold_28 ?_
      refine v_aload_n C dX11_hold_29 0 rfl ?_
      refine g_X11_now C wd_1087 dX11_hold_30 ?_
      refine v_iload_n C dX11_hold_33 2 rfl ?_
      refine v_iald C rfl h.1 dX11_hold_34 ?_
      have h := h.2
      refine v_iast C rfl h.1 dX11_hold_35 ?_
      have h := h.2
      have h := h _ rfl
      refine v_iinc C [(2, _), (0, _), (1, _)] dX11_hold_36 2 rfl (by decide) rfl ?_
      refine v_goto C 13 dX11_hold_39 (by decide) ?_
      refine v_sub [1, 2, 0] rfl ?_
      exact ih _ _ _ h
def X11_hold_b42 (Q : Int → Wd → Prop) (x1 : Int) (w : Wd) : Prop := (ix x1 3 ∧ (∀ w4, w4 = wt w 78 x1 1 → Q 1 w4))
theorem t_X11_hold_b42 {Z : Zw} {E : Amb} {Q : Int → Wd → Prop} (C : Cx Z (adA Z) E cX11_hold "HandleFacesModel" 3 rm_X11_hold) (R : Rt Z E (some .boolean) (qI Z Q)) : ∀ (x1 : Int) (w : Wd), X11_hold_b42 Q x1 w → V Z (adA Z) E 3 w 42 [(0, rv Z 65), (1, iv x1)] [] := by
  intro x1 w h
  unfold X11_hold_b42 at h
  refine v_aload_n C dX11_hold_42 0 rfl ?_
  refine g_X11_isHeld C wd_1096 dX11_hold_43 ?_
  refine v_iload_n C dX11_hold_46 1 rfl ?_
  refine v_iconst C dX11_hold_47 ?_
  refine v_zast C rfl h.1 (by decide) dX11_hold_48 ?_
  have h := h.2
  have h := h _ rfl
  refine v_iconst C dX11_hold_49 ?_
  exact v_zret C R (Or.inr rfl) h dX11_hold_50
def X11_hold (x1 : Int) (w : Wd) (Q : Int → Wd → Prop) : Prop := X11_in x1 0 2 w (fun y2 w1 => ((wr y2 = 0 → Q 0 w1) ∧ (¬ wr y2 = 0 → (∃ m, X11_hold_l13 Q (X11_hold_b42 Q) m x1 0 w1))))
theorem m_X11_hold {Z : Zw} {l : Launch} {x1 : Int} {w : Wd} {Q : Int → Wd → Prop} (h : X11_hold x1 w Q) : CtQ Z l yX11_hold cX11_hold 3 (some .boolean) rm_X11_hold [rv Z 65, iv x1] w (qI Z Q) := by
  refine ct_of (by decide) (Nat.le_of_ble_eq_true rfl) (fun E eE C R => ?_)
  subst eE
  have C : Cx Z (adA Z) E cX11_hold "HandleFacesModel" 3 rm_X11_hold := C
  unfold X11_hold at h
  show V Z (adA Z) E 3 w 0 [(0, rv Z 65), (1, iv x1)] []
  refine v_iload_n C dX11_hold_0 1 rfl ?_
  refine v_iconst C dX11_hold_1 ?_
  refine v_iconst C dX11_hold_2 ?_
  refine v_calli C (rn_S C _ (m_X11_in h) mf_X11_in wd_1298 wd_1297 rfl rfl ⟨(Nat.le_of_ble_eq_true rfl), (Nat.le_of_ble_eq_true rfl)⟩ rfl rfl (Nat.le_of_ble_eq_true rfl) dX11_hold_3) (fun r w h => ?_)
  refine v_if_ne C 11 dX11_hold_6 (by decide) (fun q => ?_) (fun q => ?_)
  · have h := h.2 q
    refine v_iconst C dX11_hold_11 ?_
    refine v_istore_n C [(2, _), (0, _), (1, _)] dX11_hold_12 2 rfl (by decide) rfl ?_
    refine v_sub [1, 2, 0] rfl ?_
    obtain ⟨m, h⟩ := h
    exact t_X11_hold_l13 C R (t_X11_hold_b42 C R) m _ _ _ h
  · have h := h.1 q
    refine v_iconst C dX11_hold_9 ?_
    exact v_zret C R (Or.inl rfl) h dX11_hold_10
abbrev rm_X11_restore : Room := { frames := 1, cells := 0, slots := 0, locals := 22 }
theorem mf_X11_restore : MfB yX11_restore cX11_restore 3 (some .boolean) 1 := ⟨wd_1303, wd_13, by decide, by decide, by decide +kernel⟩
def X11_restore_l22 (Q : Int → Wd → Prop) (e51 : Wd → Prop) : Nat → Int → Int → Wd → Prop
  | 0 => fun _ _ _ => False
  | n + 1 => fun x1 x2 w => ((wr 98 ≤ wr x2 → e51 w) ∧ (¬ wr 98 ≤ wr x2 → (ix ((98 * x1) + x2) 294 ∧ (ix x2 98 ∧ (∀ w3, w3 = wt w 73 x2 (rd w 77 ((98 * x1) + x2)) → (X11_restore_l22 Q e51 n) x1 (x2 + 1) w3)))))
theorem t_X11_restore_l22 {Z : Zw} {E : Amb} {Q : Int → Wd → Prop} {e51 : Wd → Prop} (C : Cx Z (adA Z) E cX11_restore "HandleFacesModel" 3 rm_X11_restore) (R : Rt Z E (some .boolean) (qI Z Q)) (he51 : ∀ (w : Wd), e51 w → V Z (adA Z) E 3 w 51 [(0, rv Z 65)] []) : ∀ (n : Nat) (x1 : Int) (x2 : Int) (w : Wd), X11_restore_l22 Q e51 n x1 x2 w → V Z (adA Z) E 3 w 22 [(0, rv Z 65), (1, iv x1), (2, iv x2)] [] := by
  intro n
  induction n with
  | zero => intro x1 x2 w h; exact h.elim
  | succ n ih =>
    intro x1 x2 w h
    unfold X11_restore_l22 at h
    refine v_iload_n C dX11_restore_22 2 rfl ?_
    refine v_bipush C dX11_restore_23 (by decide) ?_
    refine v_icmp_ge C 51 dX11_restore_25 (by decide) (fun q => ?_) (fun q => ?_)
    · have h := h.1 q
      refine v_sub [0] rfl ?_
      exact he51 _ h
    · have h := h.2 q
      refine v_aload_n C dX11_restore_28 0 rfl ?_
      refine g_X11_now C wd_1087 dX11_restore_29 ?_
      refine v_iload_n C dX11_restore_32 2 rfl ?_
      refine v_aload_n C dX11_restore_33 0 rfl ?_
      refine g_X11_held C wd_1095 dX11_restore_34 ?_
      refine v_bipush C dX11_restore_37 (by decide) ?_
      refine v_iload_n C dX11_restore_39 1 rfl ?_
      refine v_imul C dX11_restore_40 ?_
      refine v_iload_n C dX11_restore_41 2 rfl ?_
      refine v_iadd C dX11_restore_42 ?_
      refine v_iald C rfl h.1 dX11_restore_43 ?_
      have h := h.2
      refine v_iast C rfl h.1 dX11_restore_44 ?_
      have h := h.2
      have h := h _ rfl
      refine v_iinc C [(2, _), (0, _), (1, _)] dX11_restore_45 2 rfl (by decide) rfl ?_
      refine v_goto C 22 dX11_restore_48 (by decide) ?_
      refine v_sub [1, 2, 0] rfl ?_
      exact ih _ _ _ h
def X11_restore_b51 (Q : Int → Wd → Prop) (w : Wd) : Prop := (∀ w4, w4 = up w 65 24 0 → Q 1 w4)
theorem t_X11_restore_b51 {Z : Zw} {E : Amb} {Q : Int → Wd → Prop} (C : Cx Z (adA Z) E cX11_restore "HandleFacesModel" 3 rm_X11_restore) (R : Rt Z E (some .boolean) (qI Z Q)) : ∀ (w : Wd), X11_restore_b51 Q w → V Z (adA Z) E 3 w 51 [(0, rv Z 65)] [] := by
  intro w h
  unfold X11_restore_b51 at h
  refine v_aload_n C dX11_restore_51 0 rfl ?_
  refine v_iconst C dX11_restore_52 ?_
  refine p_X11_undos C wd_1094 dX11_restore_53 ?_
  have h := h _ rfl
  refine v_iconst C dX11_restore_56 ?_
  exact v_zret C R (Or.inr rfl) h dX11_restore_57
def X11_restore (x1 : Int) (w : Wd) (Q : Int → Wd → Prop) : Prop := X11_in x1 0 2 w (fun y2 w1 => ((wr y2 = 0 → Q 0 w1) ∧ (¬ wr y2 = 0 → (ix x1 3 ∧ ((wr (rd w1 78 x1) = 0 → Q 0 w1) ∧ (¬ wr (rd w1 78 x1) = 0 → (∃ m, X11_restore_l22 Q (X11_restore_b51 Q) m x1 0 w1)))))))
theorem m_X11_restore {Z : Zw} {l : Launch} {x1 : Int} {w : Wd} {Q : Int → Wd → Prop} (h : X11_restore x1 w Q) : CtQ Z l yX11_restore cX11_restore 3 (some .boolean) rm_X11_restore [rv Z 65, iv x1] w (qI Z Q) := by
  refine ct_of (by decide) (Nat.le_of_ble_eq_true rfl) (fun E eE C R => ?_)
  subst eE
  have C : Cx Z (adA Z) E cX11_restore "HandleFacesModel" 3 rm_X11_restore := C
  unfold X11_restore at h
  show V Z (adA Z) E 3 w 0 [(0, rv Z 65), (1, iv x1)] []
  refine v_iload_n C dX11_restore_0 1 rfl ?_
  refine v_iconst C dX11_restore_1 ?_
  refine v_iconst C dX11_restore_2 ?_
  refine v_calli C (rn_S C _ (m_X11_in h) mf_X11_in wd_1298 wd_1297 rfl rfl ⟨(Nat.le_of_ble_eq_true rfl), (Nat.le_of_ble_eq_true rfl)⟩ rfl rfl (Nat.le_of_ble_eq_true rfl) dX11_restore_3) (fun r w h => ?_)
  refine v_if_eq C 18 dX11_restore_6 (by decide) (fun q => ?_) (fun q => ?_)
  · have h := h.1 q
    refine v_iconst C dX11_restore_18 ?_
    exact v_zret C R (Or.inl rfl) h dX11_restore_19
  · have h := h.2 q
    refine v_aload_n C dX11_restore_9 0 rfl ?_
    refine g_X11_isHeld C wd_1096 dX11_restore_10 ?_
    refine v_iload_n C dX11_restore_13 1 rfl ?_
    refine v_zald C rfl h.1 dX11_restore_14 ?_
    have h := h.2
    refine v_if_ne C 20 dX11_restore_15 (by decide) (fun q => ?_) (fun q => ?_)
    · have h := h.2 q
      refine v_iconst C dX11_restore_20 ?_
      refine v_istore_n C [(2, _), (0, _), (1, _)] dX11_restore_21 2 rfl (by decide) rfl ?_
      refine v_sub [1, 2, 0] rfl ?_
      obtain ⟨m, h⟩ := h
      exact t_X11_restore_l22 C R (t_X11_restore_b51 C R) m _ _ _ h
    · have h := h.1 q
      refine v_iconst C dX11_restore_18 ?_
      exact v_zret C R (Or.inl rfl) h dX11_restore_19
abbrev rm_X11_placeIn : Room := { frames := 0, cells := 0, slots := 0, locals := 0 }
theorem mf_X11_placeIn : MfB yX11_placeIn cX11_placeIn 4 (some .int) 3 := ⟨wd_1339, wd_13, by decide, by decide, by decide +kernel⟩
def X11_placeIn_l2 (r0 : Nat) (Q : Int → Wd → Prop) (e23 : Int → Wd → Prop) : Nat → Int → Int → Int → Wd → Prop
  | 0 => fun _ _ _ _ => False
  | n + 1 => fun x1 x2 x3 w => (ix ((38 + (10 * x1)) + x3) 98 ∧ ((wr (rd w r0 ((38 + (10 * x1)) + x3)) = wr x2 → e23 x3 w) ∧ (¬ wr (rd w r0 ((38 + (10 * x1)) + x3)) = wr x2 → (X11_placeIn_l2 r0 Q e23 n) x1 x2 (x3 + 1) w)))
theorem t_X11_placeIn_l2 {Z : Zw} {E : Amb} {r0 : Nat} {Q : Int → Wd → Prop} {e23 : Int → Wd → Prop} (C : Cx Z (adA Z) E cX11_placeIn "HandleFacesModel" 4 rm_X11_placeIn) (R : Rt Z E (some .int) (qI Z Q)) (h0 : shp r0 = (1, 98, [])) (he23 : ∀ (x3 : Int) (w : Wd), e23 x3 w → V Z (adA Z) E 4 w 23 [(3, iv x3)] []) : ∀ (n : Nat) (x1 : Int) (x2 : Int) (x3 : Int) (w : Wd), X11_placeIn_l2 r0 Q e23 n x1 x2 x3 w → V Z (adA Z) E 4 w 2 [(0, rv Z r0), (1, iv x1), (2, iv x2), (3, iv x3)] [] := by
  intro n
  induction n with
  | zero => intro x1 x2 x3 w h; exact h.elim
  | succ n ih =>
    intro x1 x2 x3 w h
    unfold X11_placeIn_l2 at h
    refine v_aload_n C dX11_placeIn_2 0 rfl ?_
    refine v_bipush C dX11_placeIn_3 (by decide) ?_
    refine v_bipush C dX11_placeIn_5 (by decide) ?_
    refine v_iload_n C dX11_placeIn_7 1 rfl ?_
    refine v_imul C dX11_placeIn_8 ?_
    refine v_iadd C dX11_placeIn_9 ?_
    refine v_iload_n C dX11_placeIn_10 3 rfl ?_
    refine v_iadd C dX11_placeIn_11 ?_
    refine v_iald C h0 h.1 dX11_placeIn_12 ?_
    have h := h.2
    refine v_iload_n C dX11_placeIn_13 2 rfl ?_
    refine v_icmp_eq C 23 dX11_placeIn_14 (by decide) (fun q => ?_) (fun q => ?_)
    · have h := h.1 q
      refine v_sub [3] rfl ?_
      exact he23 _ _ h
    · have h := h.2 q
      refine v_iinc C [(3, _), (0, _), (1, _), (2, _)] dX11_placeIn_17 3 rfl (by decide) rfl ?_
      refine v_goto C 2 dX11_placeIn_20 (by decide) ?_
      refine v_sub [1, 2, 3, 0] rfl ?_
      exact ih _ _ _ _ h
def X11_placeIn_b23 (r0 : Nat) (Q : Int → Wd → Prop) (x3 : Int) (w : Wd) : Prop := Q (wr x3) w
theorem t_X11_placeIn_b23 {Z : Zw} {E : Amb} {r0 : Nat} {Q : Int → Wd → Prop} (C : Cx Z (adA Z) E cX11_placeIn "HandleFacesModel" 4 rm_X11_placeIn) (R : Rt Z E (some .int) (qI Z Q)) (h0 : shp r0 = (1, 98, [])) : ∀ (x3 : Int) (w : Wd), X11_placeIn_b23 r0 Q x3 w → V Z (adA Z) E 4 w 23 [(3, iv x3)] [] := by
  intro x3 w h
  unfold X11_placeIn_b23 at h
  refine v_iload_n C dX11_placeIn_23 0 rfl ?_
  exact v_iret C R h dX11_placeIn_24
def X11_placeIn (r0 : Nat) (x1 : Int) (x2 : Int) (w : Wd) (Q : Int → Wd → Prop) : Prop := (∃ m, X11_placeIn_l2 r0 Q (X11_placeIn_b23 r0 Q) m x1 x2 0 w)
theorem m_X11_placeIn {Z : Zw} {l : Launch} {r0 : Nat} {x1 : Int} {x2 : Int} {w : Wd} {Q : Int → Wd → Prop} (h0 : shp r0 = (1, 98, [])) (h : X11_placeIn r0 x1 x2 w Q) : CtQ Z l yX11_placeIn cX11_placeIn 4 (some .int) rm_X11_placeIn [rv Z r0, iv x1, iv x2] w (qI Z Q) := by
  refine ct_of (by decide) (Nat.le_of_ble_eq_true rfl) (fun E eE C R => ?_)
  subst eE
  have C : Cx Z (adA Z) E cX11_placeIn "HandleFacesModel" 4 rm_X11_placeIn := C
  unfold X11_placeIn at h
  show V Z (adA Z) E 4 w 0 [(0, rv Z r0), (1, iv x1), (2, iv x2)] []
  refine v_iconst C dX11_placeIn_0 ?_
  refine v_istore_n C [(3, _), (0, _), (1, _), (2, _)] dX11_placeIn_1 3 rfl (by decide) rfl ?_
  refine v_sub [1, 2, 3, 0] rfl ?_
  obtain ⟨m, h⟩ := h
  exact t_X11_placeIn_l2 C R h0 (t_X11_placeIn_b23 C R h0) m _ _ _ _ h
abbrev rm_X11_inserts : Room := { frames := 0, cells := 0, slots := 0, locals := 0 }
theorem mf_X11_inserts : MfB yX11_inserts cX11_inserts 6 none 4 := ⟨wd_1322, wd_13, by decide, by decide, by decide +kernel⟩
def X11_inserts_l17 (r0 : Nat) (Q : Wd → Prop) (e45 : Int → Int → Int → Int → Wd → Prop) : Nat → Int → Int → Int → Int → Int → Wd → Prop
  | 0 => fun _ _ _ _ _ _ => False
  | n + 1 => fun x1 x2 x3 x4 x5 w => ((wr x5 ≤ wr x2 → e45 x1 x2 x3 x4 w) ∧ (¬ wr x5 ≤ wr x2 → (ix ((x4 + x5) - 1) 98 ∧ (ix (x4 + x5) 98 ∧ (∀ w3, w3 = wt w r0 (x4 + x5) (rd w r0 ((x4 + x5) - 1)) → (X11_inserts_l17 r0 Q e45 n) x1 x2 x3 x4 (x5 + (-1)) w3)))))
theorem t_X11_inserts_l17 {Z : Zw} {E : Amb} {r0 : Nat} {Q : Wd → Prop} {e45 : Int → Int → Int → Int → Wd → Prop} (C : Cx Z (adA Z) E cX11_inserts "HandleFacesModel" 6 rm_X11_inserts) (R : Rt Z E none (qV Z Q)) (h0 : shp r0 = (1, 98, [])) (he45 : ∀ (x1 : Int) (x2 : Int) (x3 : Int) (x4 : Int) (w : Wd), e45 x1 x2 x3 x4 w → V Z (adA Z) E 6 w 45 [(0, rv Z r0), (1, iv x1), (2, iv x2), (3, iv x3), (4, iv x4)] []) : ∀ (n : Nat) (x1 : Int) (x2 : Int) (x3 : Int) (x4 : Int) (x5 : Int) (w : Wd), X11_inserts_l17 r0 Q e45 n x1 x2 x3 x4 x5 w → V Z (adA Z) E 6 w 17 [(0, rv Z r0), (1, iv x1), (2, iv x2), (3, iv x3), (4, iv x4), (5, iv x5)] [] := by
  intro n
  induction n with
  | zero => intro x1 x2 x3 x4 x5 w h; exact h.elim
  | succ n ih =>
    intro x1 x2 x3 x4 x5 w h
    unfold X11_inserts_l17 at h
    refine v_iload C dX11_inserts_17 5 rfl ?_
    refine v_iload_n C dX11_inserts_19 2 rfl ?_
    refine v_icmp_le C 45 dX11_inserts_20 (by decide) (fun q => ?_) (fun q => ?_)
    · have h := h.1 q
      refine v_sub [0, 1, 2, 3, 4] rfl ?_
      exact he45 _ _ _ _ _ h
    · have h := h.2 q
      refine v_aload_n C dX11_inserts_23 0 rfl ?_
      refine v_iload C dX11_inserts_24 4 rfl ?_
      refine v_iload C dX11_inserts_26 5 rfl ?_
      refine v_iadd C dX11_inserts_28 ?_
      refine v_aload_n C dX11_inserts_29 0 rfl ?_
      refine v_iload C dX11_inserts_30 4 rfl ?_
      refine v_iload C dX11_inserts_32 5 rfl ?_
      refine v_iadd C dX11_inserts_34 ?_
      refine v_iconst C dX11_inserts_35 ?_
      refine v_isub C dX11_inserts_36 ?_
      refine v_iald C h0 h.1 dX11_inserts_37 ?_
      have h := h.2
      refine v_iast C h0 h.1 dX11_inserts_38 ?_
      have h := h.2
      have h := h _ rfl
      refine v_iinc C [(5, _), (0, _), (1, _), (2, _), (3, _), (4, _)] dX11_inserts_39 5 rfl (by decide) rfl ?_
      refine v_goto C 17 dX11_inserts_42 (by decide) ?_
      refine v_sub [1, 2, 3, 4, 5, 0] rfl ?_
      exact ih _ _ _ _ _ _ h
def X11_inserts_b45 (r0 : Nat) (Q : Wd → Prop) (x1 : Int) (x2 : Int) (x3 : Int) (x4 : Int) (w : Wd) : Prop := (ix (x4 + x2) 98 ∧ (∀ w4, w4 = wt w r0 (x4 + x2) x3 → (ix (32 + x1) 98 ∧ (ix (32 + x1) 98 ∧ (∀ w5, w5 = wt w4 r0 (32 + x1) ((rd w4 r0 (32 + x1)) + 1) → Q w5)))))
theorem t_X11_inserts_b45 {Z : Zw} {E : Amb} {r0 : Nat} {Q : Wd → Prop} (C : Cx Z (adA Z) E cX11_inserts "HandleFacesModel" 6 rm_X11_inserts) (R : Rt Z E none (qV Z Q)) (h0 : shp r0 = (1, 98, [])) : ∀ (x1 : Int) (x2 : Int) (x3 : Int) (x4 : Int) (w : Wd), X11_inserts_b45 r0 Q x1 x2 x3 x4 w → V Z (adA Z) E 6 w 45 [(0, rv Z r0), (1, iv x1), (2, iv x2), (3, iv x3), (4, iv x4)] [] := by
  intro x1 x2 x3 x4 w h
  unfold X11_inserts_b45 at h
  refine v_aload_n C dX11_inserts_45 0 rfl ?_
  refine v_iload C dX11_inserts_46 4 rfl ?_
  refine v_iload_n C dX11_inserts_48 2 rfl ?_
  refine v_iadd C dX11_inserts_49 ?_
  refine v_iload_n C dX11_inserts_50 3 rfl ?_
  refine v_iast C h0 h.1 dX11_inserts_51 ?_
  have h := h.2
  have h := h _ rfl
  refine v_aload_n C dX11_inserts_52 0 rfl ?_
  refine v_bipush C dX11_inserts_53 (by decide) ?_
  refine v_iload_n C dX11_inserts_55 1 rfl ?_
  refine v_iadd C dX11_inserts_56 ?_
  refine v_dup2 C dX11_inserts_57 rfl rfl ?_
  refine v_iald C h0 h.1 dX11_inserts_58 ?_
  have h := h.2
  refine v_iconst C dX11_inserts_59 ?_
  refine v_iadd C dX11_inserts_60 ?_
  refine v_iast C h0 h.1 dX11_inserts_61 ?_
  have h := h.2
  have h := h _ rfl
  exact v_ret C R h dX11_inserts_62
def X11_inserts (r0 : Nat) (x1 : Int) (x2 : Int) (x3 : Int) (w : Wd) (Q : Wd → Prop) : Prop := (∀ y1, y1 = (38 + (10 * x1)) → (ix (32 + x1) 98 ∧ (∀ y2, y2 = (rd w r0 (32 + x1)) → (∃ m, X11_inserts_l17 r0 Q (X11_inserts_b45 r0 Q) m x1 x2 x3 y1 y2 w))))
theorem m_X11_inserts {Z : Zw} {l : Launch} {r0 : Nat} {x1 : Int} {x2 : Int} {x3 : Int} {w : Wd} {Q : Wd → Prop} (h0 : shp r0 = (1, 98, [])) (h : X11_inserts r0 x1 x2 x3 w Q) : CtQ Z l yX11_inserts cX11_inserts 6 none rm_X11_inserts [rv Z r0, iv x1, iv x2, iv x3] w (qV Z Q) := by
  refine ct_of (by decide) (Nat.le_of_ble_eq_true rfl) (fun E eE C R => ?_)
  subst eE
  have C : Cx Z (adA Z) E cX11_inserts "HandleFacesModel" 6 rm_X11_inserts := C
  unfold X11_inserts at h
  show V Z (adA Z) E 6 w 0 [(0, rv Z r0), (1, iv x1), (2, iv x2), (3, iv x3)] []
  refine v_bipush C dX11_inserts_0 (by decide) ?_
  refine v_bipush C dX11_inserts_2 (by decide) ?_
  refine v_iload_n C dX11_inserts_4 1 rfl ?_
  refine v_imul C dX11_inserts_5 ?_
  refine v_iadd C dX11_inserts_6 ?_
  refine v_istore C [(4, _), (0, _), (1, _), (2, _), (3, _)] dX11_inserts_7 (by decide) rfl ?_
  have h := h _ rfl
  refine v_aload_n C dX11_inserts_9 1 rfl ?_
  refine v_bipush C dX11_inserts_10 (by decide) ?_
  refine v_iload_n C dX11_inserts_12 2 rfl ?_
  refine v_iadd C dX11_inserts_13 ?_
  refine v_iald C h0 h.1 dX11_inserts_14 ?_
  have h := h.2
  refine v_istore C [(5, _), (4, _), (0, _), (1, _), (2, _), (3, _)] dX11_inserts_15 (by decide) rfl ?_
  have h := h _ rfl
  refine v_sub [2, 3, 4, 5, 1, 0] rfl ?_
  obtain ⟨m, h⟩ := h
  exact t_X11_inserts_l17 C R h0 (t_X11_inserts_b45 C R h0) m _ _ _ _ _ _ h
abbrev rm_X11_drops : Room := { frames := 1, cells := 0, slots := 0, locals := 23 }
theorem mf_X11_drops : MfB yX11_drops cX11_drops 5 none 3 := ⟨wd_1336, wd_13, by decide, by decide, by decide +kernel⟩
def X11_drops_l16 (r0 : Nat) (Q : Wd → Prop) (e49 : Int → Wd → Prop) : Nat → Int → Int → Int → Wd → Prop
  | 0 => fun _ _ _ _ => False
  | n + 1 => fun x1 x3 x4 w => (ix (32 + x1) 98 ∧ ((wr (rd w r0 (32 + x1)) ≤ wr (x4 + 1) → e49 x1 w) ∧ (¬ wr (rd w r0 (32 + x1)) ≤ wr (x4 + 1) → (ix ((x3 + x4) + 1) 98 ∧ (ix (x3 + x4) 98 ∧ (∀ w4, w4 = wt w r0 (x3 + x4) (rd w r0 ((x3 + x4) + 1)) → (X11_drops_l16 r0 Q e49 n) x1 x3 (x4 + 1) w4))))))
theorem t_X11_drops_l16 {Z : Zw} {E : Amb} {r0 : Nat} {Q : Wd → Prop} {e49 : Int → Wd → Prop} (C : Cx Z (adA Z) E cX11_drops "HandleFacesModel" 5 rm_X11_drops) (R : Rt Z E none (qV Z Q)) (h0 : shp r0 = (1, 98, [])) (he49 : ∀ (x1 : Int) (w : Wd), e49 x1 w → V Z (adA Z) E 5 w 49 [(0, rv Z r0), (1, iv x1)] []) : ∀ (n : Nat) (x1 : Int) (x3 : Int) (x4 : Int) (w : Wd), X11_drops_l16 r0 Q e49 n x1 x3 x4 w → V Z (adA Z) E 5 w 16 [(0, rv Z r0), (1, iv x1), (3, iv x3), (4, iv x4)] [] := by
  intro n
  induction n with
  | zero => intro x1 x3 x4 w h; exact h.elim
  | succ n ih =>
    intro x1 x3 x4 w h
    unfold X11_drops_l16 at h
    refine v_iload C dX11_drops_16 3 rfl ?_
    refine v_iconst C dX11_drops_18 ?_
    refine v_iadd C dX11_drops_19 ?_
    refine v_aload_n C dX11_drops_20 0 rfl ?_
    refine v_bipush C dX11_drops_21 (by decide) ?_
    refine v_iload_n C dX11_drops_23 1 rfl ?_
    refine v_iadd C dX11_drops_24 ?_
    refine v_iald C h0 h.1 dX11_drops_25 ?_
    have h := h.2
    refine v_icmp_ge C 49 dX11_drops_26 (by decide) (fun q => ?_) (fun q => ?_)
    · have h := h.1 q
      refine v_sub [0, 1] rfl ?_
      exact he49 _ _ h
    · have h := h.2 q
      refine v_aload_n C dX11_drops_29 0 rfl ?_
      refine v_iload_n C dX11_drops_30 2 rfl ?_
      refine v_iload C dX11_drops_31 3 rfl ?_
      refine v_iadd C dX11_drops_33 ?_
      refine v_aload_n C dX11_drops_34 0 rfl ?_
      refine v_iload_n C dX11_drops_35 2 rfl ?_
      refine v_iload C dX11_drops_36 3 rfl ?_
      refine v_iadd C dX11_drops_38 ?_
      refine v_iconst C dX11_drops_39 ?_
      refine v_iadd C dX11_drops_40 ?_
      refine v_iald C h0 h.1 dX11_drops_41 ?_
      have h := h.2
      refine v_iast C h0 h.1 dX11_drops_42 ?_
      have h := h.2
      have h := h _ rfl
      refine v_iinc C [(4, _), (0, _), (1, _), (3, _)] dX11_drops_43 3 rfl (by decide) rfl ?_
      refine v_goto C 16 dX11_drops_46 (by decide) ?_
      refine v_sub [1, 2, 3, 0] rfl ?_
      exact ih _ _ _ _ h
def X11_drops_b49 (r0 : Nat) (Q : Wd → Prop) (x1 : Int) (w : Wd) : Prop := (ix (32 + x1) 98 ∧ (ix (32 + x1) 98 ∧ (∀ w5, w5 = wt w r0 (32 + x1) ((rd w r0 (32 + x1)) - 1) → Q w5)))
theorem t_X11_drops_b49 {Z : Zw} {E : Amb} {r0 : Nat} {Q : Wd → Prop} (C : Cx Z (adA Z) E cX11_drops "HandleFacesModel" 5 rm_X11_drops) (R : Rt Z E none (qV Z Q)) (h0 : shp r0 = (1, 98, [])) : ∀ (x1 : Int) (w : Wd), X11_drops_b49 r0 Q x1 w → V Z (adA Z) E 5 w 49 [(0, rv Z r0), (1, iv x1)] [] := by
  intro x1 w h
  unfold X11_drops_b49 at h
  refine v_aload_n C dX11_drops_49 0 rfl ?_
  refine v_bipush C dX11_drops_50 (by decide) ?_
  refine v_iload_n C dX11_drops_52 1 rfl ?_
  refine v_iadd C dX11_drops_53 ?_
  refine v_dup2 C dX11_drops_54 rfl rfl ?_
  refine v_iald C h0 h.1 dX11_drops_55 ?_
  have h := h.2
  refine v_iconst C dX11_drops_56 ?_
  refine v_isub C dX11_drops_57 ?_
  refine v_iast C h0 h.1 dX11_drops_58 ?_
  have h := h.2
  have h := h _ rfl
  exact v_ret C R h dX11_drops_59
def X11_drops (r0 : Nat) (x1 : Int) (x2 : Int) (w : Wd) (Q : Wd → Prop) : Prop := (∀ y1, y1 = (38 + (10 * x1)) → X11_placeIn r0 x1 x2 w (fun y3 w2 => (∃ m, X11_drops_l16 r0 Q (X11_drops_b49 r0 Q) m x1 y1 y3 w2)))
theorem m_X11_drops {Z : Zw} {l : Launch} {r0 : Nat} {x1 : Int} {x2 : Int} {w : Wd} {Q : Wd → Prop} (h0 : shp r0 = (1, 98, [])) (h : X11_drops r0 x1 x2 w Q) : CtQ Z l yX11_drops cX11_drops 5 none rm_X11_drops [rv Z r0, iv x1, iv x2] w (qV Z Q) := by
  refine ct_of (by decide) (Nat.le_of_ble_eq_true rfl) (fun E eE C R => ?_)
  subst eE
  have C : Cx Z (adA Z) E cX11_drops "HandleFacesModel" 5 rm_X11_drops := C
  unfold X11_drops at h
  show V Z (adA Z) E 5 w 0 [(0, rv Z r0), (1, iv x1), (2, iv x2)] []
  refine v_bipush C dX11_drops_0 (by decide) ?_
  refine v_bipush C dX11_drops_2 (by decide) ?_
  refine v_iload_n C dX11_drops_4 1 rfl ?_
  refine v_imul C dX11_drops_5 ?_
  refine v_iadd C dX11_drops_6 ?_
  refine v_istore_n C [(3, _), (0, _), (1, _), (2, _)] dX11_drops_7 3 rfl (by decide) rfl ?_
  have h := h _ rfl
  refine v_aload_n C dX11_drops_8 1 rfl ?_
  refine v_iload_n C dX11_drops_9 2 rfl ?_
  refine v_iload_n C dX11_drops_10 3 rfl ?_
  refine v_calli C (rn_S C _ (m_X11_placeIn h0 h) mf_X11_placeIn wd_1338 wd_1337 rfl rfl ⟨(Nat.le_of_ble_eq_true rfl), (Nat.le_of_ble_eq_true rfl)⟩ rfl rfl (Nat.le_of_ble_eq_true rfl) dX11_drops_11) (fun r w h => ?_)
  refine v_istore C [(4, _), (3, _), (0, _), (1, _), (2, _)] dX11_drops_14 (by decide) rfl ?_
  refine v_sub [2, 3, 1, 0] rfl ?_
  obtain ⟨m, h⟩ := h
  exact t_X11_drops_l16 C R h0 (t_X11_drops_b49 C R h0) m _ _ _ _ h
