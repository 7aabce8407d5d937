abbrev rm_X1_become : Room := { frames := 1, cells := 0, slots := 0, locals := 40 }
theorem mf_X1_become : MfB yX1_become cX1_become 2 none 1 := ⟨wd_714, wd_2, by decide, by decide, by decide +kernel⟩
def X1_become (r0 : Nat) (r1 : Nat) (w : Wd) (Q : Wd → Prop) : Prop := (∀ w1, w1 = up w r0 0 (w r1 0) → (∀ w2, w2 = up w1 r0 1 (w1 r1 1) → (∀ w3, w3 = up w2 r0 2 (w2 r1 2) → (cpk 0 0 20 20 20 ∧ (∀ w4, w4 = cpy w3 (r1 + 1) (wr 0).toNat (r0 + 1) (wr 0).toNat (wr 20).toNat → (cpk 0 0 6 6 6 ∧ (∀ w5, w5 = cpy w4 (r1 + 2) (wr 0).toNat (r0 + 2) (wr 0).toNat (wr 6).toNat → (cpk 0 0 60 60 60 ∧ (∀ w6, w6 = cpy w5 (r1 + 3) (wr 0).toNat (r0 + 3) (wr 0).toNat (wr 60).toNat → Q w6)))))))))
theorem m_X1_become {Z : Zw} {l : Launch} {r0 : Nat} {r1 : Nat} {w : Wd} {Q : Wd → Prop} (h0 : sX1 r0) (h1 : sX1 r1) (h : X1_become r0 r1 w Q) : CtQ Z l yX1_become cX1_become 2 none rm_X1_become [rv Z r0, rv Z r1] w (qV Z Q) := by
  refine ct_of (by decide) (Nat.le_of_ble_eq_true rfl) (fun E eE C R => ?_)
  subst eE
  have C : Cx Z (adA Z) E cX1_become "HandleFaces$Drawing" 2 rm_X1_become := C
  unfold X1_become at h
  show V Z (adA Z) E 2 w 0 [(0, rv Z r0), (1, rv Z r1)] []
  refine v_aload_n C dX1_become_0 0 rfl ?_
  refine v_aload_n C dX1_become_1 1 rfl ?_
  refine g_X1_posts C h1 wd_35 dX1_become_2 ?_
  refine p_X1_posts C h0 wd_35 dX1_become_5 ?_
  have h := h _ rfl
  refine v_aload_n C dX1_become_8 0 rfl ?_
  refine v_aload_n C dX1_become_9 1 rfl ?_
  refine g_X1_lines C h1 wd_43 dX1_become_10 ?_
  refine p_X1_lines C h0 wd_43 dX1_become_13 ?_
  have h := h _ rfl
  refine v_aload_n C dX1_become_16 0 rfl ?_
  refine v_aload_n C dX1_become_17 1 rfl ?_
  refine g_X1_twists C h1 wd_51 dX1_become_18 ?_
  refine p_X1_twists C h0 wd_51 dX1_become_21 ?_
  have h := h _ rfl
  refine v_aload_n C dX1_become_24 1 rfl ?_
  refine g_X1_ends C h1 wd_57 dX1_become_25 ?_
  refine v_iconst C dX1_become_28 ?_
  refine v_aload_n C dX1_become_29 0 rfl ?_
  refine g_X1_ends C h0 wd_57 dX1_become_30 ?_
  refine v_iconst C dX1_become_33 ?_
  refine v_aload_n C dX1_become_34 0 rfl ?_
  refine g_X1_ends C h0 wd_57 dX1_become_35 ?_
  refine v_alenI C h0.2.1 dX1_become_38 ?_
  refine v_copy C h1.2.1 h0.2.1 h.1 wd_715 wd_573 wd_572 wd_18 (Nat.le_of_ble_eq_true rfl) (Nat.le_of_ble_eq_true rfl) dX1_become_39 ?_
  have h := h.2
  have h := h _ rfl
  refine v_aload_n C dX1_become_42 1 rfl ?_
  refine g_X1_degrees C h1 wd_62 dX1_become_43 ?_
  refine v_iconst C dX1_become_46 ?_
  refine v_aload_n C dX1_become_47 0 rfl ?_
  refine g_X1_degrees C h0 wd_62 dX1_become_48 ?_
  refine v_iconst C dX1_become_51 ?_
  refine v_aload_n C dX1_become_52 0 rfl ?_
  refine g_X1_degrees C h0 wd_62 dX1_become_53 ?_
  refine v_alenI C h0.2.2.1 dX1_become_56 ?_
  refine v_copy C h1.2.2.1 h0.2.2.1 h.1 wd_715 wd_573 wd_572 wd_18 (Nat.le_of_ble_eq_true rfl) (Nat.le_of_ble_eq_true rfl) dX1_become_57 ?_
  have h := h.2
  have h := h _ rfl
  refine v_aload_n C dX1_become_60 1 rfl ?_
  refine g_X1_rounds C h1 wd_70 dX1_become_61 ?_
  refine v_iconst C dX1_become_64 ?_
  refine v_aload_n C dX1_become_65 0 rfl ?_
  refine g_X1_rounds C h0 wd_70 dX1_become_66 ?_
  refine v_iconst C dX1_become_69 ?_
  refine v_aload_n C dX1_become_70 0 rfl ?_
  refine g_X1_rounds C h0 wd_70 dX1_become_71 ?_
  refine v_alenI C h0.2.2.2 dX1_become_74 ?_
  refine v_copy C h1.2.2.2 h0.2.2.2 h.1 wd_715 wd_573 wd_572 wd_18 (Nat.le_of_ble_eq_true rfl) (Nat.le_of_ble_eq_true rfl) dX1_become_75 ?_
  have h := h.2
  have h := h _ rfl
  exact v_ret C R h dX1_become_78
abbrev rm_X1_hasPost : Room := { frames := 0, cells := 0, slots := 0, locals := 0 }
theorem mf_X1_hasPost : MfB yX1_hasPost cX1_hasPost 2 (some .boolean) 1 := ⟨wd_609, wd_2, by decide, by decide, by decide +kernel⟩
def X1_hasPost_b16 (r0 : Nat) (Q : Int → Wd → Prop) (w : Wd) : Prop := Q 0 w
theorem t_X1_hasPost_b16 {Z : Zw} {E : Amb} {r0 : Nat} {Q : Int → Wd → Prop} (C : Cx Z (adA Z) E cX1_hasPost "HandleFaces$Drawing" 2 rm_X1_hasPost) (R : Rt Z E (some .boolean) (qI Z Q)) (h0 : sX1 r0) : ∀ (w : Wd), X1_hasPost_b16 r0 Q w → V Z (adA Z) E 2 w 16 [] [] := by
  intro w h
  unfold X1_hasPost_b16 at h
  refine v_iconst C dX1_hasPost_16 ?_
  exact v_zret C R (Or.inl rfl) h dX1_hasPost_17
def X1_hasPost (r0 : Nat) (x1 : Int) (w : Wd) (Q : Int → Wd → Prop) : Prop := ((wr x1 < 0 → X1_hasPost_b16 r0 Q w) ∧ (¬ wr x1 < 0 → ((wr (w r0 0) ≤ wr x1 → X1_hasPost_b16 r0 Q w) ∧ (¬ wr (w r0 0) ≤ wr x1 → Q 1 w))))
theorem m_X1_hasPost {Z : Zw} {l : Launch} {r0 : Nat} {x1 : Int} {w : Wd} {Q : Int → Wd → Prop} (h0 : sX1 r0) (h : X1_hasPost r0 x1 w Q) : CtQ Z l yX1_hasPost cX1_hasPost 2 (some .boolean) rm_X1_hasPost [rv Z r0, iv x1] w (qI Z Q) := by
  refine ct_of (by decide) (Nat.le_of_ble_eq_true rfl) (fun E eE C R => ?_)
  subst eE
  have C : Cx Z (adA Z) E cX1_hasPost "HandleFaces$Drawing" 2 rm_X1_hasPost := C
  unfold X1_hasPost at h
  show V Z (adA Z) E 2 w 0 [(0, rv Z r0), (1, iv x1)] []
  refine v_iload_n C dX1_hasPost_0 1 rfl ?_
  refine v_if_lt C 16 dX1_hasPost_1 (by decide) (fun q => ?_) (fun q => ?_)
  · have h := h.1 q
    refine v_sub [] rfl ?_
    exact t_X1_hasPost_b16 C R h0 _ h
  · have h := h.2 q
    refine v_iload_n C dX1_hasPost_4 1 rfl ?_
    refine v_aload_n C dX1_hasPost_5 0 rfl ?_
    refine g_X1_posts C h0 wd_35 dX1_hasPost_6 ?_
    refine v_icmp_ge C 16 dX1_hasPost_9 (by decide) (fun q => ?_) (fun q => ?_)
    · have h := h.1 q
      refine v_sub [] rfl ?_
      exact t_X1_hasPost_b16 C R h0 _ h
    · have h := h.2 q
      refine v_iconst C dX1_hasPost_12 ?_
      refine v_goto C 17 dX1_hasPost_13 (by decide) ?_
      exact v_zret C R (Or.inr rfl) h dX1_hasPost_17
abbrev rm_X1_hasLine : Room := { frames := 0, cells := 0, slots := 0, locals := 0 }
theorem mf_X1_hasLine : MfB yX1_hasLine cX1_hasLine 2 (some .boolean) 1 := ⟨wd_633, wd_2, by decide, by decide, by decide +kernel⟩
def X1_hasLine_b16 (r0 : Nat) (Q : Int → Wd → Prop) (w : Wd) : Prop := Q 0 w
theorem t_X1_hasLine_b16 {Z : Zw} {E : Amb} {r0 : Nat} {Q : Int → Wd → Prop} (C : Cx Z (adA Z) E cX1_hasLine "HandleFaces$Drawing" 2 rm_X1_hasLine) (R : Rt Z E (some .boolean) (qI Z Q)) (h0 : sX1 r0) : ∀ (w : Wd), X1_hasLine_b16 r0 Q w → V Z (adA Z) E 2 w 16 [] [] := by
  intro w h
  unfold X1_hasLine_b16 at h
  refine v_iconst C dX1_hasLine_16 ?_
  exact v_zret C R (Or.inl rfl) h dX1_hasLine_17
def X1_hasLine (r0 : Nat) (x1 : Int) (w : Wd) (Q : Int → Wd → Prop) : Prop := ((wr x1 < 0 → X1_hasLine_b16 r0 Q w) ∧ (¬ wr x1 < 0 → ((wr (w r0 1) ≤ wr x1 → X1_hasLine_b16 r0 Q w) ∧ (¬ wr (w r0 1) ≤ wr x1 → Q 1 w))))
theorem m_X1_hasLine {Z : Zw} {l : Launch} {r0 : Nat} {x1 : Int} {w : Wd} {Q : Int → Wd → Prop} (h0 : sX1 r0) (h : X1_hasLine r0 x1 w Q) : CtQ Z l yX1_hasLine cX1_hasLine 2 (some .boolean) rm_X1_hasLine [rv Z r0, iv x1] w (qI Z Q) := by
  refine ct_of (by decide) (Nat.le_of_ble_eq_true rfl) (fun E eE C R => ?_)
  subst eE
  have C : Cx Z (adA Z) E cX1_hasLine "HandleFaces$Drawing" 2 rm_X1_hasLine := C
  unfold X1_hasLine at h
  show V Z (adA Z) E 2 w 0 [(0, rv Z r0), (1, iv x1)] []
  refine v_iload_n C dX1_hasLine_0 1 rfl ?_
  refine v_if_lt C 16 dX1_hasLine_1 (by decide) (fun q => ?_) (fun q => ?_)
  · have h := h.1 q
    refine v_sub [] rfl ?_
    exact t_X1_hasLine_b16 C R h0 _ h
  · have h := h.2 q
    refine v_iload_n C dX1_hasLine_4 1 rfl ?_
    refine v_aload_n C dX1_hasLine_5 0 rfl ?_
    refine g_X1_lines C h0 wd_43 dX1_hasLine_6 ?_
    refine v_icmp_ge C 16 dX1_hasLine_9 (by decide) (fun q => ?_) (fun q => ?_)
    · have h := h.1 q
      refine v_sub [] rfl ?_
      exact t_X1_hasLine_b16 C R h0 _ h
    · have h := h.2 q
      refine v_iconst C dX1_hasLine_12 ?_
      refine v_goto C 17 dX1_hasLine_13 (by decide) ?_
      exact v_zret C R (Or.inr rfl) h dX1_hasLine_17
abbrev rm_X1_hasCorner : Room := { frames := 1, cells := 0, slots := 0, locals := 21 }
theorem mf_X1_hasCorner : MfB yX1_hasCorner cX1_hasCorner 3 (some .boolean) 2 := ⟨wd_605, wd_2, by decide, by decide, by decide +kernel⟩
def X1_hasCorner_b30 (r0 : Nat) (Q : Int → Wd → Prop) (w : Wd) : Prop := Q 0 w
theorem t_X1_hasCorner_b30 {Z : Zw} {E : Amb} {r0 : Nat} {Q : Int → Wd → Prop} (C : Cx Z (adA Z) E cX1_hasCorner "HandleFaces$Drawing" 3 rm_X1_hasCorner) (R : Rt Z E (some .boolean) (qI Z Q)) (h0 : sX1 r0) : ∀ (w : Wd), X1_hasCorner_b30 r0 Q w → V Z (adA Z) E 3 w 30 [] [] := by
  intro w h
  unfold X1_hasCorner_b30 at h
  refine v_iconst C dX1_hasCorner_30 ?_
  exact v_zret C R (Or.inl rfl) h dX1_hasCorner_31
def X1_hasCorner (r0 : Nat) (x1 : Int) (x2 : Int) (w : Wd) (Q : Int → Wd → Prop) : Prop := X1_hasPost r0 x1 w (fun y2 w1 => ((wr y2 = 0 → X1_hasCorner_b30 r0 Q w1) ∧ (¬ wr y2 = 0 → ((wr x2 < 0 → X1_hasCorner_b30 r0 Q w1) ∧ (¬ wr x2 < 0 → (ix x1 6 ∧ ((wr (imx 1 (rd w1 (r0 + 2) x1)) ≤ wr x2 → X1_hasCorner_b30 r0 Q w1) ∧ (¬ wr (imx 1 (rd w1 (r0 + 2) x1)) ≤ wr x2 → Q 1 w1))))))))
theorem m_X1_hasCorner {Z : Zw} {l : Launch} {r0 : Nat} {x1 : Int} {x2 : Int} {w : Wd} {Q : Int → Wd → Prop} (h0 : sX1 r0) (h : X1_hasCorner r0 x1 x2 w Q) : CtQ Z l yX1_hasCorner cX1_hasCorner 3 (some .boolean) rm_X1_hasCorner [rv Z r0, iv x1, iv x2] w (qI Z Q) := by
  refine ct_of (by decide) (Nat.le_of_ble_eq_true rfl) (fun E eE C R => ?_)
  subst eE
  have C : Cx Z (adA Z) E cX1_hasCorner "HandleFaces$Drawing" 3 rm_X1_hasCorner := C
  unfold X1_hasCorner at h
  show V Z (adA Z) E 3 w 0 [(0, rv Z r0), (1, iv x1), (2, iv x2)] []
  refine v_aload_n C dX1_hasCorner_0 0 rfl ?_
  refine v_iload_n C dX1_hasCorner_1 1 rfl ?_
  refine v_calli C (rn_V C _ (m_X1_hasPost h0 h) mf_X1_hasPost wd_607 wd_608 wd_606 rfl rfl ⟨(Nat.le_of_ble_eq_true rfl), (Nat.le_of_ble_eq_true rfl)⟩ h0.1 rfl rfl rfl (Nat.le_of_ble_eq_true rfl) dX1_hasCorner_2) (fun r w h => ?_)
  refine v_if_eq C 30 dX1_hasCorner_5 (by decide) (fun q => ?_) (fun q => ?_)
  · have h := h.1 q
    refine v_sub [] rfl ?_
    exact t_X1_hasCorner_b30 C R h0 _ h
  · have h := h.2 q
    refine v_iload_n C dX1_hasCorner_8 2 rfl ?_
    refine v_if_lt C 30 dX1_hasCorner_9 (by decide) (fun q => ?_) (fun q => ?_)
    · have h := h.1 q
      refine v_sub [] rfl ?_
      exact t_X1_hasCorner_b30 C R h0 _ h
    · have h := h.2 q
      refine v_iload_n C dX1_hasCorner_12 2 rfl ?_
      refine v_iconst C dX1_hasCorner_13 ?_
      refine v_aload_n C dX1_hasCorner_14 0 rfl ?_
      refine g_X1_degrees C h0 wd_62 dX1_hasCorner_15 ?_
      refine v_iload_n C dX1_hasCorner_18 1 rfl ?_
      refine v_iald C h0.2.2.1 h.1 dX1_hasCorner_19 ?_
      have h := h.2
      refine v_mmax C wd_610 wd_350 wd_12 wd_351 (Nat.le_of_ble_eq_true rfl) (Nat.le_of_ble_eq_true rfl) dX1_hasCorner_20 ?_
      refine v_icmp_ge C 30 dX1_hasCorner_23 (by decide) (fun q => ?_) (fun q => ?_)
      · have h := h.1 q
        refine v_sub [] rfl ?_
        exact t_X1_hasCorner_b30 C R h0 _ h
      · have h := h.2 q
        refine v_iconst C dX1_hasCorner_26 ?_
        refine v_goto C 31 dX1_hasCorner_27 (by decide) ?_
        exact v_zret C R (Or.inr rfl) h dX1_hasCorner_31
abbrev rm_X1_isTwisted : Room := { frames := 0, cells := 0, slots := 0, locals := 0 }
theorem mf_X1_isTwisted : MfB yX1_isTwisted cX1_isTwisted 2 (some .boolean) 1 := ⟨wd_865, wd_2, by decide, by decide, by decide +kernel⟩
def X1_isTwisted (r0 : Nat) (x1 : Int) (w : Wd) (Q : Int → Wd → Prop) : Prop := ((wr (ian (isr (w r0 2) x1) 1) = 0 → Q 0 w) ∧ (¬ wr (ian (isr (w r0 2) x1) 1) = 0 → Q 1 w))
theorem m_X1_isTwisted {Z : Zw} {l : Launch} {r0 : Nat} {x1 : Int} {w : Wd} {Q : Int → Wd → Prop} (h0 : sX1 r0) (h : X1_isTwisted r0 x1 w Q) : CtQ Z l yX1_isTwisted cX1_isTwisted 2 (some .boolean) rm_X1_isTwisted [rv Z r0, iv x1] w (qI Z Q) := by
  refine ct_of (by decide) (Nat.le_of_ble_eq_true rfl) (fun E eE C R => ?_)
  subst eE
  have C : Cx Z (adA Z) E cX1_isTwisted "HandleFaces$Drawing" 2 rm_X1_isTwisted := C
  unfold X1_isTwisted at h
  show V Z (adA Z) E 2 w 0 [(0, rv Z r0), (1, iv x1)] []
  refine v_aload_n C dX1_isTwisted_0 0 rfl ?_
  refine g_X1_twists C h0 wd_51 dX1_isTwisted_1 ?_
  refine v_iload_n C dX1_isTwisted_4 1 rfl ?_
  refine v_ishr C dX1_isTwisted_5 ?_
  refine v_iconst C dX1_isTwisted_6 ?_
  refine v_iand C dX1_isTwisted_7 ?_
  refine v_if_eq C 15 dX1_isTwisted_8 (by decide) (fun q => ?_) (fun q => ?_)
  · have h := h.1 q
    refine v_iconst C dX1_isTwisted_15 ?_
    exact v_zret C R (Or.inl rfl) h dX1_isTwisted_16
  · have h := h.2 q
    refine v_iconst C dX1_isTwisted_11 ?_
    refine v_goto C 16 dX1_isTwisted_12 (by decide) ?_
    exact v_zret C R (Or.inr rfl) h dX1_isTwisted_16
abbrev rm_X1_isLineOf : Room := { frames := 0, cells := 0, slots := 0, locals := 0 }
theorem mf_X1_isLineOf : MfB yX1_isLineOf cX1_isLineOf 3 (some .boolean) 2 := ⟨wd_857, wd_2, by decide, by decide, by decide +kernel⟩
def X1_isLineOf_b26 (r0 : Nat) (Q : Int → Wd → Prop) (w : Wd) : Prop := Q 1 w
theorem t_X1_isLineOf_b26 {Z : Zw} {E : Amb} {r0 : Nat} {Q : Int → Wd → Prop} (C : Cx Z (adA Z) E cX1_isLineOf "HandleFaces$Drawing" 3 rm_X1_isLineOf) (R : Rt Z E (some .boolean) (qI Z Q)) (h0 : sX1 r0) : ∀ (w : Wd), X1_isLineOf_b26 r0 Q w → V Z (adA Z) E 3 w 26 [] [] := by
  intro w h
  unfold X1_isLineOf_b26 at h
  refine v_iconst C dX1_isLineOf_26 ?_
  refine v_goto C 31 dX1_isLineOf_27 (by decide) ?_
  exact v_zret C R (Or.inr rfl) h dX1_isLineOf_31
def X1_isLineOf (r0 : Nat) (x1 : Int) (x2 : Int) (w : Wd) (Q : Int → Wd → Prop) : Prop := (ix (2 * x1) 20 ∧ ((wr (rd w (r0 + 1) (2 * x1)) = wr x2 → X1_isLineOf_b26 r0 Q w) ∧ (¬ wr (rd w (r0 + 1) (2 * x1)) = wr x2 → (ix ((2 * x1) + 1) 20 ∧ ((wr (rd w (r0 + 1) ((2 * x1) + 1)) = wr x2 → X1_isLineOf_b26 r0 Q w) ∧ (¬ wr (rd w (r0 + 1) ((2 * x1) + 1)) = wr x2 → Q 0 w))))))
theorem m_X1_isLineOf {Z : Zw} {l : Launch} {r0 : Nat} {x1 : Int} {x2 : Int} {w : Wd} {Q : Int → Wd → Prop} (h0 : sX1 r0) (h : X1_isLineOf r0 x1 x2 w Q) : CtQ Z l yX1_isLineOf cX1_isLineOf 3 (some .boolean) rm_X1_isLineOf [rv Z r0, iv x1, iv x2] w (qI Z Q) := by
  refine ct_of (by decide) (Nat.le_of_ble_eq_true rfl) (fun E eE C R => ?_)
  subst eE
  have C : Cx Z (adA Z) E cX1_isLineOf "HandleFaces$Drawing" 3 rm_X1_isLineOf := C
  unfold X1_isLineOf at h
  show V Z (adA Z) E 3 w 0 [(0, rv Z r0), (1, iv x1), (2, iv x2)] []
  refine v_aload_n C dX1_isLineOf_0 0 rfl ?_
  refine g_X1_ends C h0 wd_57 dX1_isLineOf_1 ?_
  refine v_iconst C dX1_isLineOf_4 ?_
  refine v_iload_n C dX1_isLineOf_5 1 rfl ?_
  refine v_imul C dX1_isLineOf_6 ?_
  refine v_iald C h0.2.1 h.1 dX1_isLineOf_7 ?_
  have h := h.2
  refine v_iload_n C dX1_isLineOf_8 2 rfl ?_
  refine v_icmp_eq C 26 dX1_isLineOf_9 (by decide) (fun q => ?_) (fun q => ?_)
  · have h := h.1 q
    refine v_sub [] rfl ?_
    exact t_X1_isLineOf_b26 C R h0 _ h
  · have h := h.2 q
    refine v_aload_n C dX1_isLineOf_12 0 rfl ?_
    refine g_X1_ends C h0 wd_57 dX1_isLineOf_13 ?_
    refine v_iconst C dX1_isLineOf_16 ?_
    refine v_iload_n C dX1_isLineOf_17 1 rfl ?_
    refine v_imul C dX1_isLineOf_18 ?_
    refine v_iconst C dX1_isLineOf_19 ?_
    refine v_iadd C dX1_isLineOf_20 ?_
    refine v_iald C h0.2.1 h.1 dX1_isLineOf_21 ?_
    have h := h.2
    refine v_iload_n C dX1_isLineOf_22 2 rfl ?_
    refine v_icmp_ne C 30 dX1_isLineOf_23 (by decide) (fun q => ?_) (fun q => ?_)
    · have h := h.2 q
      refine v_iconst C dX1_isLineOf_30 ?_
      exact v_zret C R (Or.inl rfl) h dX1_isLineOf_31
    · have h := h.1 q
      refine v_sub [] rfl ?_
      exact t_X1_isLineOf_b26 C R h0 _ h
abbrev rm_X1_lineAt : Room := { frames := 0, cells := 0, slots := 0, locals := 0 }
theorem mf_X1_lineAt : MfB yX1_lineAt cX1_lineAt 3 (some .int) 2 := ⟨wd_649, wd_2, by decide, by decide, by decide +kernel⟩
def X1_lineAt (r0 : Nat) (x1 : Int) (x2 : Int) (w : Wd) (Q : Int → Wd → Prop) : Prop := (ix ((x1 * 10) + x2) 60 ∧ Q (wr (rd w (r0 + 3) ((x1 * 10) + x2))) w)
theorem m_X1_lineAt {Z : Zw} {l : Launch} {r0 : Nat} {x1 : Int} {x2 : Int} {w : Wd} {Q : Int → Wd → Prop} (h0 : sX1 r0) (h : X1_lineAt r0 x1 x2 w Q) : CtQ Z l yX1_lineAt cX1_lineAt 3 (some .int) rm_X1_lineAt [rv Z r0, iv x1, iv x2] w (qI Z Q) := by
  refine ct_of (by decide) (Nat.le_of_ble_eq_true rfl) (fun E eE C R => ?_)
  subst eE
  have C : Cx Z (adA Z) E cX1_lineAt "HandleFaces$Drawing" 3 rm_X1_lineAt := C
  unfold X1_lineAt at h
  show V Z (adA Z) E 3 w 0 [(0, rv Z r0), (1, iv x1), (2, iv x2)] []
  refine v_aload_n C dX1_lineAt_0 0 rfl ?_
  refine g_X1_rounds C h0 wd_70 dX1_lineAt_1 ?_
  refine v_iload_n C dX1_lineAt_4 1 rfl ?_
  refine v_bipush C dX1_lineAt_5 (by decide) ?_
  refine v_imul C dX1_lineAt_7 ?_
  refine v_iload_n C dX1_lineAt_8 2 rfl ?_
  refine v_iadd C dX1_lineAt_9 ?_
  refine v_iald C h0.2.2.2 h.1 dX1_lineAt_10 ?_
  have h := h.2
  exact v_iret C R h dX1_lineAt_11
abbrev rm_X1_armAt : Room := { frames := 0, cells := 0, slots := 0, locals := 0 }
theorem mf_X1_armAt : MfB yX1_armAt cX1_armAt 4 (some .int) 2 := ⟨wd_728, wd_2, by decide, by decide, by decide +kernel⟩
def X1_armAt (r0 : Nat) (x1 : Int) (x2 : Int) (w : Wd) (Q : Int → Wd → Prop) : Prop := (ix ((x1 * 10) + x2) 60 ∧ (∀ y1, y1 = (2 * (rd w (r0 + 3) ((x1 * 10) + x2))) → (ix y1 20 ∧ ((wr (rd w (r0 + 1) y1) = wr x1 → Q (wr y1) w) ∧ (¬ wr (rd w (r0 + 1) y1) = wr x1 → Q (wr (y1 + 1)) w)))))
theorem m_X1_armAt {Z : Zw} {l : Launch} {r0 : Nat} {x1 : Int} {x2 : Int} {w : Wd} {Q : Int → Wd → Prop} (h0 : sX1 r0) (h : X1_armAt r0 x1 x2 w Q) : CtQ Z l yX1_armAt cX1_armAt 4 (some .int) rm_X1_armAt [rv Z r0, iv x1, iv x2] w (qI Z Q) := by
  refine ct_of (by decide) (Nat.le_of_ble_eq_true rfl) (fun E eE C R => ?_)
  subst eE
  have C : Cx Z (adA Z) E cX1_armAt "HandleFaces$Drawing" 4 rm_X1_armAt := C
  unfold X1_armAt at h
  show V Z (adA Z) E 4 w 0 [(0, rv Z r0), (1, iv x1), (2, iv x2)] []
  refine v_iconst C dX1_armAt_0 ?_
  refine v_aload_n C dX1_armAt_1 0 rfl ?_
  refine g_X1_rounds C h0 wd_70 dX1_armAt_2 ?_
  refine v_iload_n C dX1_armAt_5 1 rfl ?_
  refine v_bipush C dX1_armAt_6 (by decide) ?_
  refine v_imul C dX1_armAt_8 ?_
  refine v_iload_n C dX1_armAt_9 2 rfl ?_
  refine v_iadd C dX1_armAt_10 ?_
  refine v_iald C h0.2.2.2 h.1 dX1_armAt_11 ?_
  have h := h.2
  refine v_imul C dX1_armAt_12 ?_
  refine v_istore_n C [(3, _), (0, _), (1, _), (2, _)] dX1_armAt_13 3 rfl (by decide) rfl ?_
  have h := h _ rfl
  refine v_aload_n C dX1_armAt_14 1 rfl ?_
  refine g_X1_ends C h0 wd_57 dX1_armAt_15 ?_
  refine v_iload_n C dX1_armAt_18 0 rfl ?_
  refine v_iald C h0.2.1 h.1 dX1_armAt_19 ?_
  have h := h.2
  refine v_iload_n C dX1_armAt_20 2 rfl ?_
  refine v_icmp_ne C 28 dX1_armAt_21 (by decide) (fun q => ?_) (fun q => ?_)
  · have h := h.2 q
    refine v_iload_n C dX1_armAt_28 0 rfl ?_
    refine v_iconst C dX1_armAt_29 ?_
    refine v_iadd C dX1_armAt_30 ?_
    exact v_iret C R h dX1_armAt_31
  · have h := h.1 q
    refine v_iload_n C dX1_armAt_24 0 rfl ?_
    refine v_goto C 31 dX1_armAt_25 (by decide) ?_
    exact v_iret C R h dX1_armAt_31
abbrev rm_X1_hasTwin : Room := { frames := 1, cells := 0, slots := 0, locals := 22 }
theorem mf_X1_hasTwin : MfB yX1_hasTwin cX1_hasTwin 3 (some .boolean) 1 := ⟨wd_853, wd_2, by decide, by decide, by decide +kernel⟩
def X1_hasTwin_l2 (r0 : Nat) (Q : Int → Wd → Prop) (e49 : Wd → Prop) (e57 : Wd → Prop) : Nat → Int → Int → Wd → Prop
  | 0 => fun _ _ _ => False
  | n + 1 => fun x1 x2 w => ((wr (w r0 1) ≤ wr x2 → e57 w) ∧ (¬ wr (w r0 1) ≤ wr x2 → ((wr x2 = wr x1 → (X1_hasTwin_l2 r0 Q e49 e57 n) x1 (x2 + 1) w) ∧ (¬ wr x2 = wr x1 → (ix (2 * x1) 20 ∧ X1_isLineOf r0 x2 (rd w (r0 + 1) (2 * x1)) w (fun y2 w1 => ((wr y2 = 0 → (X1_hasTwin_l2 r0 Q e49 e57 n) x1 (x2 + 1) w1) ∧ (¬ wr y2 = 0 → (ix ((2 * x1) + 1) 20 ∧ X1_isLineOf r0 x2 (rd w1 (r0 + 1) ((2 * x1) + 1)) w1 (fun y4 w3 => ((wr y4 = 0 → (X1_hasTwin_l2 r0 Q e49 e57 n) x1 (x2 + 1) w3) ∧ (¬ wr y4 = 0 → e49 w3))))))))))))
theorem t_X1_hasTwin_l2 {Z : Zw} {E : Amb} {r0 : Nat} {Q : Int → Wd → Prop} {e49 : Wd → Prop} {e57 : Wd → Prop} (C : Cx Z (adA Z) E cX1_hasTwin "HandleFaces$Drawing" 3 rm_X1_hasTwin) (R : Rt Z E (some .boolean) (qI Z Q)) (h0 : sX1 r0) (he49 : ∀ (w : Wd), e49 w → V Z (adA Z) E 3 w 49 [] []) (he57 : ∀ (w : Wd), e57 w → V Z (adA Z) E 3 w 57 [] []) : ∀ (n : Nat) (x1 : Int) (x2 : Int) (w : Wd), X1_hasTwin_l2 r0 Q e49 e57 n x1 x2 w → V Z (adA Z) E 3 w 2 [(0, rv Z r0), (1, iv x1), (2, iv x2)] [] := by
  intro n
  induction n with
  | zero => intro x1 x2 w h; exact h.elim
  | succ n ih =>
    intro x1 x2 w h
    unfold X1_hasTwin_l2 at h
    refine v_iload_n C dX1_hasTwin_2 2 rfl ?_
    refine v_aload_n C dX1_hasTwin_3 0 rfl ?_
    refine g_X1_lines C h0 wd_43 dX1_hasTwin_4 ?_
    refine v_icmp_ge C 57 dX1_hasTwin_7 (by decide) (fun q => ?_) (fun q => ?_)
    · have h := h.1 q
      refine v_sub [] rfl ?_
      exact he57 _ h
    · have h := h.2 q
      refine v_iload_n C dX1_hasTwin_10 2 rfl ?_
      refine v_iload_n C dX1_hasTwin_11 1 rfl ?_
      refine v_icmp_eq C 51 dX1_hasTwin_12 (by decide) (fun q => ?_) (fun q => ?_)
      · have h := h.1 q
        refine v_iinc C [(2, _), (0, _), (1, _)] dX1_hasTwin_51 2 rfl (by decide) rfl ?_
        refine v_goto C 2 dX1_hasTwin_54 (by decide) ?_
        refine v_sub [1, 2, 0] rfl ?_
        exact ih _ _ _ h
      · have h := h.2 q
        refine v_aload_n C dX1_hasTwin_15 0 rfl ?_
        refine v_iload_n C dX1_hasTwin_16 2 rfl ?_
        refine v_aload_n C dX1_hasTwin_17 0 rfl ?_
        refine g_X1_ends C h0 wd_57 dX1_hasTwin_18 ?_
        refine v_iconst C dX1_hasTwin_21 ?_
        refine v_iload_n C dX1_hasTwin_22 1 rfl ?_
        refine v_imul C dX1_hasTwin_23 ?_
        refine v_iald C h0.2.1 h.1 dX1_hasTwin_24 ?_
        have h := h.2
        refine v_calli C (rn_V C _ (m_X1_isLineOf h0 h) mf_X1_isLineOf wd_855 wd_856 wd_854 rfl rfl ⟨(Nat.le_of_ble_eq_true rfl), (Nat.le_of_ble_eq_true rfl)⟩ h0.1 rfl rfl rfl (Nat.le_of_ble_eq_true rfl) dX1_hasTwin_25) (fun r w h => ?_)
        refine v_if_eq C 51 dX1_hasTwin_28 (by decide) (fun q => ?_) (fun q => ?_)
        · have h := h.1 q
          refine v_iinc C [(2, _), (0, _), (1, _)] dX1_hasTwin_51 2 rfl (by decide) rfl ?_
          refine v_goto C 2 dX1_hasTwin_54 (by decide) ?_
          refine v_sub [1, 2, 0] rfl ?_
          exact ih _ _ _ h
        · have h := h.2 q
          refine v_aload_n C dX1_hasTwin_31 0 rfl ?_
          refine v_iload_n C dX1_hasTwin_32 2 rfl ?_
          refine v_aload_n C dX1_hasTwin_33 0 rfl ?_
          refine g_X1_ends C h0 wd_57 dX1_hasTwin_34 ?_
          refine v_iconst C dX1_hasTwin_37 ?_
          refine v_iload_n C dX1_hasTwin_38 1 rfl ?_
          refine v_imul C dX1_hasTwin_39 ?_
          refine v_iconst C dX1_hasTwin_40 ?_
          refine v_iadd C dX1_hasTwin_41 ?_
          refine v_iald C h0.2.1 h.1 dX1_hasTwin_42 ?_
          have h := h.2
          refine v_calli C (rn_V C _ (m_X1_isLineOf h0 h) mf_X1_isLineOf wd_855 wd_856 wd_854 rfl rfl ⟨(Nat.le_of_ble_eq_true rfl), (Nat.le_of_ble_eq_true rfl)⟩ h0.1 rfl rfl rfl (Nat.le_of_ble_eq_true rfl) dX1_hasTwin_43) (fun r w h => ?_)
          refine v_if_eq C 51 dX1_hasTwin_46 (by decide) (fun q => ?_) (fun q => ?_)
          · have h := h.1 q
            refine v_iinc C [(2, _), (0, _), (1, _)] dX1_hasTwin_51 2 rfl (by decide) rfl ?_
            refine v_goto C 2 dX1_hasTwin_54 (by decide) ?_
            refine v_sub [1, 2, 0] rfl ?_
            exact ih _ _ _ h
          · have h := h.2 q
            refine v_sub [] rfl ?_
            exact he49 _ h
def X1_hasTwin_b49 (r0 : Nat) (Q : Int → Wd → Prop) (w : Wd) : Prop := Q 1 w
theorem t_X1_hasTwin_b49 {Z : Zw} {E : Amb} {r0 : Nat} {Q : Int → Wd → Prop} (C : Cx Z (adA Z) E cX1_hasTwin "HandleFaces$Drawing" 3 rm_X1_hasTwin) (R : Rt Z E (some .boolean) (qI Z Q)) (h0 : sX1 r0) : ∀ (w : Wd), X1_hasTwin_b49 r0 Q w → V Z (adA Z) E 3 w 49 [] [] := by
  intro w h
  unfold X1_hasTwin_b49 at h
  refine v_iconst C dX1_hasTwin_49 ?_
  exact v_zret C R (Or.inr rfl) h dX1_hasTwin_50
def X1_hasTwin_b57 (r0 : Nat) (Q : Int → Wd → Prop) (w : Wd) : Prop := Q 0 w
theorem t_X1_hasTwin_b57 {Z : Zw} {E : Amb} {r0 : Nat} {Q : Int → Wd → Prop} (C : Cx Z (adA Z) E cX1_hasTwin "HandleFaces$Drawing" 3 rm_X1_hasTwin) (R : Rt Z E (some .boolean) (qI Z Q)) (h0 : sX1 r0) : ∀ (w : Wd), X1_hasTwin_b57 r0 Q w → V Z (adA Z) E 3 w 57 [] [] := by
  intro w h
  unfold X1_hasTwin_b57 at h
  refine v_iconst C dX1_hasTwin_57 ?_
  exact v_zret C R (Or.inl rfl) h dX1_hasTwin_58
def X1_hasTwin (r0 : Nat) (x1 : Int) (w : Wd) (Q : Int → Wd → Prop) : Prop := (∃ m, X1_hasTwin_l2 r0 Q (X1_hasTwin_b49 r0 Q) (X1_hasTwin_b57 r0 Q) m x1 0 w)
theorem m_X1_hasTwin {Z : Zw} {l : Launch} {r0 : Nat} {x1 : Int} {w : Wd} {Q : Int → Wd → Prop} (h0 : sX1 r0) (h : X1_hasTwin r0 x1 w Q) : CtQ Z l yX1_hasTwin cX1_hasTwin 3 (some .boolean) rm_X1_hasTwin [rv Z r0, iv x1] w (qI Z Q) := by
  refine ct_of (by decide) (Nat.le_of_ble_eq_true rfl) (fun E eE C R => ?_)
  subst eE
  have C : Cx Z (adA Z) E cX1_hasTwin "HandleFaces$Drawing" 3 rm_X1_hasTwin := C
  unfold X1_hasTwin at h
  show V Z (adA Z) E 3 w 0 [(0, rv Z r0), (1, iv x1)] []
  refine v_iconst C dX1_hasTwin_0 ?_
  refine v_istore_n C [(2, _), (0, _), (1, _)] dX1_hasTwin_1 2 rfl (by decide) rfl ?_
  refine v_sub [1, 2, 0] rfl ?_
  obtain ⟨m, h⟩ := h
  exact t_X1_hasTwin_l2 C R h0 (t_X1_hasTwin_b49 C R h0) (t_X1_hasTwin_b57 C R h0) m _ _ _ h
abbrev rm_X1_barePosts : Room := { frames := 0, cells := 0, slots := 0, locals := 0 }
theorem mf_X1_barePosts : MfB yX1_barePosts cX1_barePosts 3 (some .int) 0 := ⟨wd_736, wd_2, by decide, by decide, by decide +kernel⟩
def X1_barePosts_l4 (r0 : Nat) (Q : Int → Wd → Prop) (e30 : Int → Wd → Prop) : Nat → Int → Int → Wd → Prop
  | 0 => fun _ _ _ => False
  | n + 1 => fun x1 x2 w => ((wr (w r0 0) ≤ wr x2 → e30 x1 w) ∧ (¬ wr (w r0 0) ≤ wr x2 → (ix x2 6 ∧ ((wr (rd w (r0 + 2) x2) = 0 → (X1_barePosts_l4 r0 Q e30 n) (x1 + 1) (x2 + 1) w) ∧ (¬ wr (rd w (r0 + 2) x2) = 0 → (X1_barePosts_l4 r0 Q e30 n) x1 (x2 + 1) w)))))
theorem t_X1_barePosts_l4 {Z : Zw} {E : Amb} {r0 : Nat} {Q : Int → Wd → Prop} {e30 : Int → Wd → Prop} (C : Cx Z (adA Z) E cX1_barePosts "HandleFaces$Drawing" 3 rm_X1_barePosts) (R : Rt Z E (some .int) (qI Z Q)) (h0 : sX1 r0) (he30 : ∀ (x1 : Int) (w : Wd), e30 x1 w → V Z (adA Z) E 3 w 30 [(1, iv x1)] []) : ∀ (n : Nat) (x1 : Int) (x2 : Int) (w : Wd), X1_barePosts_l4 r0 Q e30 n x1 x2 w → V Z (adA Z) E 3 w 4 [(0, rv Z r0), (1, iv x1), (2, iv x2)] [] := by
  intro n
  induction n with
  | zero => intro x1 x2 w h; exact h.elim
  | succ n ih =>
    intro x1 x2 w h
    unfold X1_barePosts_l4 at h
    refine v_iload_n C dX1_barePosts_4 2 rfl ?_
    refine v_aload_n C dX1_barePosts_5 0 rfl ?_
    refine g_X1_posts C h0 wd_35 dX1_barePosts_6 ?_
    refine v_icmp_ge C 30 dX1_barePosts_9 (by decide) (fun q => ?_) (fun q => ?_)
    · have h := h.1 q
      refine v_sub [1] rfl ?_
      exact he30 _ _ h
    · have h := h.2 q
      refine v_aload_n C dX1_barePosts_12 0 rfl ?_
      refine g_X1_degrees C h0 wd_62 dX1_barePosts_13 ?_
      refine v_iload_n C dX1_barePosts_16 2 rfl ?_
      refine v_iald C h0.2.2.1 h.1 dX1_barePosts_17 ?_
      have h := h.2
      refine v_if_ne C 24 dX1_barePosts_18 (by decide) (fun q => ?_) (fun q => ?_)
      · have h := h.2 q
        refine v_iinc C [(2, _), (0, _), (1, _)] dX1_barePosts_24 2 rfl (by decide) rfl ?_
        refine v_goto C 4 dX1_barePosts_27 (by decide) ?_
        refine v_sub [1, 2, 0] rfl ?_
        exact ih _ _ _ h
      · have h := h.1 q
        refine v_iinc C [(1, _), (0, _), (2, _)] dX1_barePosts_21 1 rfl (by decide) rfl ?_
        refine v_iinc C [(2, _), (1, _), (0, _)] dX1_barePosts_24 2 rfl (by decide) rfl ?_
        refine v_goto C 4 dX1_barePosts_27 (by decide) ?_
        refine v_sub [2, 1, 0] rfl ?_
        exact ih _ _ _ h
def X1_barePosts_b30 (r0 : Nat) (Q : Int → Wd → Prop) (x1 : Int) (w : Wd) : Prop := Q (wr x1) w
theorem t_X1_barePosts_b30 {Z : Zw} {E : Amb} {r0 : Nat} {Q : Int → Wd → Prop} (C : Cx Z (adA Z) E cX1_barePosts "HandleFaces$Drawing" 3 rm_X1_barePosts) (R : Rt Z E (some .int) (qI Z Q)) (h0 : sX1 r0) : ∀ (x1 : Int) (w : Wd), X1_barePosts_b30 r0 Q x1 w → V Z (adA Z) E 3 w 30 [(1, iv x1)] [] := by
  intro x1 w h
  unfold X1_barePosts_b30 at h
  refine v_iload_n C dX1_barePosts_30 0 rfl ?_
  exact v_iret C R h dX1_barePosts_31
def X1_barePosts (r0 : Nat) (w : Wd) (Q : Int → Wd → Prop) : Prop := (∃ m, X1_barePosts_l4 r0 Q (X1_barePosts_b30 r0 Q) m 0 0 w)
theorem m_X1_barePosts {Z : Zw} {l : Launch} {r0 : Nat} {w : Wd} {Q : Int → Wd → Prop} (h0 : sX1 r0) (h : X1_barePosts r0 w Q) : CtQ Z l yX1_barePosts cX1_barePosts 3 (some .int) rm_X1_barePosts [rv Z r0] w (qI Z Q) := by
  refine ct_of (by decide) (Nat.le_of_ble_eq_true rfl) (fun E eE C R => ?_)
  subst eE
  have C : Cx Z (adA Z) E cX1_barePosts "HandleFaces$Drawing" 3 rm_X1_barePosts := C
  unfold X1_barePosts at h
  show V Z (adA Z) E 3 w 0 [(0, rv Z r0)] []
  refine v_iconst C dX1_barePosts_0 ?_
  refine v_istore_n C [(1, _), (0, _)] dX1_barePosts_1 1 rfl (by decide) rfl ?_
  refine v_iconst C dX1_barePosts_2 ?_
  refine v_istore_n C [(2, _), (1, _), (0, _)] dX1_barePosts_3 2 rfl (by decide) rfl ?_
  refine v_sub [2, 1, 0] rfl ?_
  obtain ⟨m, h⟩ := h
  exact t_X1_barePosts_l4 C R h0 (t_X1_barePosts_b30 C R h0) m _ _ _ h
abbrev rm_X1_insertAt : Room := { frames := 0, cells := 0, slots := 0, locals := 0 }
theorem mf_X1_insertAt : MfB yX1_insertAt cX1_insertAt 7 none 3 := ⟨wd_584, wd_2, by decide, by decide, by decide +kernel⟩
def X1_insertAt_l36 (r0 : Nat) (Q : Wd → Prop) (e70 : Int → Int → Int → Int → Int → Wd → Prop) : Nat → Int → Int → Int → Int → Int → Int → Wd → Prop
  | 0 => fun _ _ _ _ _ _ _ => False
  | n + 1 => fun x1 x2 x3 x4 x5 x6 w => ((wr x6 ≤ wr x2 → e70 x1 x2 x3 x4 x5 w) ∧ (¬ wr x6 ≤ wr x2 → (ix ((x5 + x6) - 1) 60 ∧ (ix (x5 + x6) 60 ∧ (∀ w3, w3 = wt w (r0 + 3) (x5 + x6) (rd w (r0 + 3) ((x5 + x6) - 1)) → (X1_insertAt_l36 r0 Q e70 n) x1 x2 x3 x4 x5 (x6 + (-1)) w3)))))
theorem t_X1_insertAt_l36 {Z : Zw} {E : Amb} {r0 : Nat} {Q : Wd → Prop} {e70 : Int → Int → Int → Int → Int → Wd → Prop} (C : Cx Z (adA Z) E cX1_insertAt "HandleFaces$Drawing" 7 rm_X1_insertAt) (R : Rt Z E none (qV Z Q)) (h0 : sX1 r0) (he70 : ∀ (x1 : Int) (x2 : Int) (x3 : Int) (x4 : Int) (x5 : Int) (w : Wd), e70 x1 x2 x3 x4 x5 w → V Z (adA Z) E 7 w 70 [(0, rv Z r0), (1, iv x1), (2, iv x2), (3, iv x3), (4, iv x4), (5, iv x5)] []) : ∀ (n : Nat) (x1 : Int) (x2 : Int) (x3 : Int) (x4 : Int) (x5 : Int) (x6 : Int) (w : Wd), X1_insertAt_l36 r0 Q e70 n x1 x2 x3 x4 x5 x6 w → V Z (adA Z) E 7 w 36 [(0, rv Z r0), (1, iv x1), (2, iv x2), (3, iv x3), (4, iv x4), (5, iv x5), (6, iv x6)] [] := by
  intro n
  induction n with
  | zero => intro x1 x2 x3 x4 x5 x6 w h; exact h.elim
  | succ n ih =>
    intro x1 x2 x3 x4 x5 x6 w h
    unfold X1_insertAt_l36 at h
    refine v_iload C dX1_insertAt_36 6 rfl ?_
    refine v_iload_n C dX1_insertAt_38 2 rfl ?_
    refine v_icmp_le C 70 dX1_insertAt_39 (by decide) (fun q => ?_) (fun q => ?_)
    · have h := h.1 q
      refine v_sub [0, 1, 2, 3, 4, 5] rfl ?_
      exact he70 _ _ _ _ _ _ h
    · have h := h.2 q
      refine v_aload_n C dX1_insertAt_42 0 rfl ?_
      refine g_X1_rounds C h0 wd_70 dX1_insertAt_43 ?_
      refine v_iload C dX1_insertAt_46 5 rfl ?_
      refine v_iload C dX1_insertAt_48 6 rfl ?_
      refine v_iadd C dX1_insertAt_50 ?_
      refine v_aload_n C dX1_insertAt_51 0 rfl ?_
      refine g_X1_rounds C h0 wd_70 dX1_insertAt_52 ?_
      refine v_iload C dX1_insertAt_55 5 rfl ?_
      refine v_iload C dX1_insertAt_57 6 rfl ?_
      refine v_iadd C dX1_insertAt_59 ?_
      refine v_iconst C dX1_insertAt_60 ?_
      refine v_isub C dX1_insertAt_61 ?_
      refine v_iald C h0.2.2.2 h.1 dX1_insertAt_62 ?_
      have h := h.2
      refine v_iast C h0.2.2.2 h.1 dX1_insertAt_63 ?_
      have h := h.2
      have h := h _ rfl
      refine v_iinc C [(6, _), (0, _), (1, _), (2, _), (3, _), (4, _), (5, _)] dX1_insertAt_64 6 rfl (by decide) rfl ?_
      refine v_goto C 36 dX1_insertAt_67 (by decide) ?_
      refine v_sub [1, 2, 3, 4, 5, 6, 0] rfl ?_
      exact ih _ _ _ _ _ _ _ h
def X1_insertAt_b70 (r0 : Nat) (Q : Wd → Prop) (x1 : Int) (x2 : Int) (x3 : Int) (x4 : Int) (x5 : Int) (w : Wd) : Prop := (ix (x5 + x2) 60 ∧ (∀ w4, w4 = wt w (r0 + 3) (x5 + x2) x3 → (ix x1 6 ∧ (∀ w5, w5 = wt w4 (r0 + 2) x1 (x4 + 1) → Q w5))))
theorem t_X1_insertAt_b70 {Z : Zw} {E : Amb} {r0 : Nat} {Q : Wd → Prop} (C : Cx Z (adA Z) E cX1_insertAt "HandleFaces$Drawing" 7 rm_X1_insertAt) (R : Rt Z E none (qV Z Q)) (h0 : sX1 r0) : ∀ (x1 : Int) (x2 : Int) (x3 : Int) (x4 : Int) (x5 : Int) (w : Wd), X1_insertAt_b70 r0 Q x1 x2 x3 x4 x5 w → V Z (adA Z) E 7 w 70 [(0, rv Z r0), (1, iv x1), (2, iv x2), (3, iv x3), (4, iv x4), (5, iv x5)] [] := by
  intro x1 x2 x3 x4 x5 w h
  unfold X1_insertAt_b70 at h
  refine v_aload_n C dX1_insertAt_70 0 rfl ?_
  refine g_X1_rounds C h0 wd_70 dX1_insertAt_71 ?_
  refine v_iload C dX1_insertAt_74 5 rfl ?_
  refine v_iload_n C dX1_insertAt_76 2 rfl ?_
  refine v_iadd C dX1_insertAt_77 ?_
  refine v_iload_n C dX1_insertAt_78 3 rfl ?_
  refine v_iast C h0.2.2.2 h.1 dX1_insertAt_79 ?_
  have h := h.2
  have h := h _ rfl
  refine v_aload_n C dX1_insertAt_80 0 rfl ?_
  refine g_X1_degrees C h0 wd_62 dX1_insertAt_81 ?_
  refine v_iload_n C dX1_insertAt_84 1 rfl ?_
  refine v_iload C dX1_insertAt_85 4 rfl ?_
  refine v_iconst C dX1_insertAt_87 ?_
  refine v_iadd C dX1_insertAt_88 ?_
  refine v_iast C h0.2.2.1 h.1 dX1_insertAt_89 ?_
  have h := h.2
  have h := h _ rfl
  exact v_ret C R h dX1_insertAt_90
def X1_insertAt (r0 : Nat) (x1 : Int) (x2 : Int) (x3 : Int) (w : Wd) (Q : Wd → Prop) : Prop := (ix x1 6 ∧ (∀ y1, y1 = (rd w (r0 + 2) x1) → ((wr 10 ≤ wr y1 → Q w) ∧ (¬ wr 10 ≤ wr y1 → ((wr x2 < 0 → Q w) ∧ (¬ wr x2 < 0 → ((wr x2 ≤ wr y1 → (∀ y2, y2 = (x1 * 10) → (∃ m, X1_insertAt_l36 r0 Q (X1_insertAt_b70 r0 Q) m x1 x2 x3 y1 y2 y1 w))) ∧ (¬ wr x2 ≤ wr y1 → Q w))))))))
theorem m_X1_insertAt {Z : Zw} {l : Launch} {r0 : Nat} {x1 : Int} {x2 : Int} {x3 : Int} {w : Wd} {Q : Wd → Prop} (h0 : sX1 r0) (h : X1_insertAt r0 x1 x2 x3 w Q) : CtQ Z l yX1_insertAt cX1_insertAt 7 none rm_X1_insertAt [rv Z r0, iv x1, iv x2, iv x3] w (qV Z Q) := by
  refine ct_of (by decide) (Nat.le_of_ble_eq_true rfl) (fun E eE C R => ?_)
  subst eE
  have C : Cx Z (adA Z) E cX1_insertAt "HandleFaces$Drawing" 7 rm_X1_insertAt := C
  unfold X1_insertAt at h
  show V Z (adA Z) E 7 w 0 [(0, rv Z r0), (1, iv x1), (2, iv x2), (3, iv x3)] []
  refine v_aload_n C dX1_insertAt_0 0 rfl ?_
  refine g_X1_degrees C h0 wd_62 dX1_insertAt_1 ?_
  refine v_iload_n C dX1_insertAt_4 1 rfl ?_
  refine v_iald C h0.2.2.1 h.1 dX1_insertAt_5 ?_
  have h := h.2
  refine v_istore C [(4, _), (0, _), (1, _), (2, _), (3, _)] dX1_insertAt_6 (by decide) rfl ?_
  have h := h _ rfl
  refine v_iload C dX1_insertAt_8 0 rfl ?_
  refine v_bipush C dX1_insertAt_10 (by decide) ?_
  refine v_icmp_ge C 25 dX1_insertAt_12 (by decide) (fun q => ?_) (fun q => ?_)
  · have h := h.1 q
    exact v_ret C R h dX1_insertAt_25
  · have h := h.2 q
    refine v_iload_n C dX1_insertAt_15 3 rfl ?_
    refine v_if_lt C 25 dX1_insertAt_16 (by decide) (fun q => ?_) (fun q => ?_)
    · have h := h.1 q
      exact v_ret C R h dX1_insertAt_25
    · have h := h.2 q
      refine v_iload_n C dX1_insertAt_19 3 rfl ?_
      refine v_iload C dX1_insertAt_20 0 rfl ?_
      refine v_icmp_le C 26 dX1_insertAt_22 (by decide) (fun q => ?_) (fun q => ?_)
      · have h := h.1 q
        refine v_iload_n C dX1_insertAt_26 2 rfl ?_
        refine v_bipush C dX1_insertAt_27 (by decide) ?_
        refine v_imul C dX1_insertAt_29 ?_
        refine v_istore C [(5, _), (4, _), (0, _), (1, _), (2, _), (3, _)] dX1_insertAt_30 (by decide) rfl ?_
        have h := h _ rfl
        refine v_iload C dX1_insertAt_32 1 rfl ?_
        refine v_istore C [(6, _), (5, _), (4, _), (0, _), (1, _), (2, _), (3, _)] dX1_insertAt_34 (by decide) rfl ?_
        refine v_sub [3, 4, 5, 6, 2, 1, 0] rfl ?_
        obtain ⟨m, h⟩ := h
        exact t_X1_insertAt_l36 C R h0 (t_X1_insertAt_b70 C R h0) m _ _ _ _ _ _ _ h
      · have h := h.2 q
        exact v_ret C R h dX1_insertAt_25
abbrev rm_X1_addLine : Room := { frames := 1, cells := 0, slots := 0, locals := 26 }
theorem mf_X1_addLine : MfB yX1_addLine cX1_addLine 7 (some .int) 5 := ⟨wd_624, wd_2, by decide, by decide, by decide +kernel⟩
def X1_addLine_b56 (r0 : Nat) (Q : Int → Wd → Prop) (x1 : Int) (x2 : Int) (x3 : Int) (x4 : Int) (x6 : Int) (w : Wd) : Prop := (ix x1 6 ∧ X1_insertAt r0 x1 (imn (x2 + 1) (rd w (r0 + 2) x1)) x6 w (fun w5 => (ix x3 6 ∧ X1_insertAt r0 x3 (imn (x4 + 1) (rd w5 (r0 + 2) x3)) x6 w5 (fun w6 => Q (wr x6) w6))))
theorem t_X1_addLine_b56 {Z : Zw} {E : Amb} {r0 : Nat} {Q : Int → Wd → Prop} (C : Cx Z (adA Z) E cX1_addLine "HandleFaces$Drawing" 7 rm_X1_addLine) (R : Rt Z E (some .int) (qI Z Q)) (h0 : sX1 r0) : ∀ (x1 : Int) (x2 : Int) (x3 : Int) (x4 : Int) (x6 : Int) (w : Wd), X1_addLine_b56 r0 Q x1 x2 x3 x4 x6 w → V Z (adA Z) E 7 w 56 [(0, rv Z r0), (1, iv x1), (2, iv x2), (3, iv x3), (4, iv x4), (6, iv x6)] [] := by
  intro x1 x2 x3 x4 x6 w h
  unfold X1_addLine_b56 at h
  refine v_aload_n C dX1_addLine_56 0 rfl ?_
  refine v_iload_n C dX1_addLine_57 1 rfl ?_
  refine v_iload_n C dX1_addLine_58 2 rfl ?_
  refine v_iconst C dX1_addLine_59 ?_
  refine v_iadd C dX1_addLine_60 ?_
  refine v_aload_n C dX1_addLine_61 0 rfl ?_
  refine g_X1_degrees C h0 wd_62 dX1_addLine_62 ?_
  refine v_iload_n C dX1_addLine_65 1 rfl ?_
  refine v_iald C h0.2.2.1 h.1 dX1_addLine_66 ?_
  have h := h.2
  refine v_mmin C wd_625 wd_347 wd_12 wd_348 (Nat.le_of_ble_eq_true rfl) (Nat.le_of_ble_eq_true rfl) dX1_addLine_67 ?_
  refine v_iload C dX1_addLine_70 5 rfl ?_
  refine v_callv C (rn_V C _ (m_X1_insertAt h0 h) mf_X1_insertAt wd_582 wd_583 wd_581 rfl rfl ⟨(Nat.le_of_ble_eq_true rfl), (Nat.le_of_ble_eq_true rfl)⟩ h0.1 rfl rfl rfl (Nat.le_of_ble_eq_true rfl) dX1_addLine_72) (fun w h => ?_)
  refine v_aload_n C dX1_addLine_75 0 rfl ?_
  refine v_iload_n C dX1_addLine_76 3 rfl ?_
  refine v_iload C dX1_addLine_77 4 rfl ?_
  refine v_iconst C dX1_addLine_79 ?_
  refine v_iadd C dX1_addLine_80 ?_
  refine v_aload_n C dX1_addLine_81 0 rfl ?_
  refine g_X1_degrees C h0 wd_62 dX1_addLine_82 ?_
  refine v_iload_n C dX1_addLine_85 3 rfl ?_
  refine v_iald C h0.2.2.1 h.1 dX1_addLine_86 ?_
  have h := h.2
  refine v_mmin C wd_625 wd_347 wd_12 wd_348 (Nat.le_of_ble_eq_true rfl) (Nat.le_of_ble_eq_true rfl) dX1_addLine_87 ?_
  refine v_iload C dX1_addLine_90 5 rfl ?_
  refine v_callv C (rn_V C _ (m_X1_insertAt h0 h) mf_X1_insertAt wd_582 wd_583 wd_581 rfl rfl ⟨(Nat.le_of_ble_eq_true rfl), (Nat.le_of_ble_eq_true rfl)⟩ h0.1 rfl rfl rfl (Nat.le_of_ble_eq_true rfl) dX1_addLine_92) (fun w h => ?_)
  refine v_iload C dX1_addLine_95 5 rfl ?_
  exact v_iret C R h dX1_addLine_97
def X1_addLine (r0 : Nat) (x1 : Int) (x2 : Int) (x3 : Int) (x4 : Int) (x5 : Int) (w : Wd) (Q : Int → Wd → Prop) : Prop := (∀ y1, y1 = (w r0 1) → (∀ w2, w2 = up w r0 1 ((w r0 1) + 1) → (ix (2 * y1) 20 ∧ (∀ w3, w3 = wt w2 (r0 + 1) (2 * y1) x1 → (ix ((2 * y1) + 1) 20 ∧ (∀ w4, w4 = wt w3 (r0 + 1) ((2 * y1) + 1) x3 → ((wr x5 = 0 → X1_addLine_b56 r0 Q x1 x2 x3 x4 y1 w4) ∧ (¬ wr x5 = 0 → (∀ w7, w7 = up w4 r0 2 (ior (w4 r0 2) (isl 1 y1)) → X1_addLine_b56 r0 Q x1 x2 x3 x4 y1 w7)))))))))
theorem m_X1_addLine {Z : Zw} {l : Launch} {r0 : Nat} {x1 : Int} {x2 : Int} {x3 : Int} {x4 : Int} {x5 : Int} {w : Wd} {Q : Int → Wd → Prop} (h0 : sX1 r0) (h : X1_addLine r0 x1 x2 x3 x4 x5 w Q) : CtQ Z l yX1_addLine cX1_addLine 7 (some .int) rm_X1_addLine [rv Z r0, iv x1, iv x2, iv x3, iv x4, iv x5] w (qI Z Q) := by
  refine ct_of (by decide) (Nat.le_of_ble_eq_true rfl) (fun E eE C R => ?_)
  subst eE
  have C : Cx Z (adA Z) E cX1_addLine "HandleFaces$Drawing" 7 rm_X1_addLine := C
  unfold X1_addLine at h
  show V Z (adA Z) E 7 w 0 [(0, rv Z r0), (1, iv x1), (2, iv x2), (3, iv x3), (4, iv x4), (5, iv x5)] []
  refine v_aload_n C dX1_addLine_0 0 rfl ?_
  refine g_X1_lines C h0 wd_43 dX1_addLine_1 ?_
  refine v_istore C [(6, _), (0, _), (1, _), (2, _), (3, _), (4, _), (5, _)] dX1_addLine_4 (by decide) rfl ?_
  have h := h _ rfl
  refine v_aload_n C dX1_addLine_6 1 rfl ?_
  refine v_dup C dX1_addLine_7 rfl ?_
  refine g_X1_lines C h0 wd_43 dX1_addLine_8 ?_
  refine v_iconst C dX1_addLine_11 ?_
  refine v_iadd C dX1_addLine_12 ?_
  refine p_X1_lines C h0 wd_43 dX1_addLine_13 ?_
  have h := h _ rfl
  refine v_aload_n C dX1_addLine_16 1 rfl ?_
  refine g_X1_ends C h0 wd_57 dX1_addLine_17 ?_
  refine v_iconst C dX1_addLine_20 ?_
  refine v_iload C dX1_addLine_21 0 rfl ?_
  refine v_imul C dX1_addLine_23 ?_
  refine v_iload_n C dX1_addLine_24 2 rfl ?_
  refine v_iast C h0.2.1 h.1 dX1_addLine_25 ?_
  have h := h.2
  have h := h _ rfl
  refine v_aload_n C dX1_addLine_26 1 rfl ?_
  refine g_X1_ends C h0 wd_57 dX1_addLine_27 ?_
  refine v_iconst C dX1_addLine_30 ?_
  refine v_iload C dX1_addLine_31 0 rfl ?_
  refine v_imul C dX1_addLine_33 ?_
  refine v_iconst C dX1_addLine_34 ?_
  refine v_iadd C dX1_addLine_35 ?_
  refine v_iload_n C dX1_addLine_36 4 rfl ?_
  refine v_iast C h0.2.1 h.1 dX1_addLine_37 ?_
  have h := h.2
  have h := h _ rfl
  refine v_iload C dX1_addLine_38 6 rfl ?_
  refine v_if_eq C 56 dX1_addLine_40 (by decide) (fun q => ?_) (fun q => ?_)
  · have h := h.1 q
    refine v_sub [1, 2, 3, 4, 5, 0] rfl ?_
    exact t_X1_addLine_b56 C R h0 _ _ _ _ _ _ h
  · have h := h.2 q
    refine v_aload_n C dX1_addLine_43 1 rfl ?_
    refine v_dup C dX1_addLine_44 rfl ?_
    refine g_X1_twists C h0 wd_51 dX1_addLine_45 ?_
    refine v_iconst C dX1_addLine_48 ?_
    refine v_iload C dX1_addLine_49 0 rfl ?_
    refine v_ishl C dX1_addLine_51 ?_
    refine v_ior C dX1_addLine_52 ?_
    refine p_X1_twists C h0 wd_51 dX1_addLine_53 ?_
    have h := h _ rfl
    refine v_sub [1, 2, 3, 4, 5, 0] rfl ?_
    exact t_X1_addLine_b56 C R h0 _ _ _ _ _ _ h
abbrev rm_X1_placeOf : Room := { frames := 1, cells := 0, slots := 0, locals := 22 }
theorem mf_X1_placeOf : MfB yX1_placeOf cX1_placeOf 4 (some .int) 2 := ⟨wd_645, wd_2, by decide, by decide, by decide +kernel⟩
def X1_placeOf_l2 (r0 : Nat) (Q : Int → Wd → Prop) (e22 : Int → Wd → Prop) (e30 : Int → Wd → Prop) : Nat → Int → Int → Int → Wd → Prop
  | 0 => fun _ _ _ _ => False
  | n + 1 => fun x1 x2 x3 w => (ix x1 6 ∧ ((wr (rd w (r0 + 2) x1) ≤ wr x3 → e30 x1 w) ∧ (¬ wr (rd w (r0 + 2) x1) ≤ wr x3 → X1_lineAt r0 x1 x3 w (fun y2 w1 => ((wr y2 = wr x2 → e22 x3 w1) ∧ (¬ wr y2 = wr x2 → (X1_placeOf_l2 r0 Q e22 e30 n) x1 x2 (x3 + 1) w1))))))
theorem t_X1_placeOf_l2 {Z : Zw} {E : Amb} {r0 : Nat} {Q : Int → Wd → Prop} {e22 : Int → Wd → Prop} {e30 : Int → Wd → Prop} (C : Cx Z (adA Z) E cX1_placeOf "HandleFaces$Drawing" 4 rm_X1_placeOf) (R : Rt Z E (some .int) (qI Z Q)) (h0 : sX1 r0) (he22 : ∀ (x3 : Int) (w : Wd), e22 x3 w → V Z (adA Z) E 4 w 22 [(3, iv x3)] []) (he30 : ∀ (x1 : Int) (w : Wd), e30 x1 w → V Z (adA Z) E 4 w 30 [(0, rv Z r0), (1, iv x1)] []) : ∀ (n : Nat) (x1 : Int) (x2 : Int) (x3 : Int) (w : Wd), X1_placeOf_l2 r0 Q e22 e30 n x1 x2 x3 w → V Z (adA Z) E 4 w 2 [(0, rv Z r0), (1, iv x1), (2, iv x2), (3, iv x3)] [] := by
  intro n
  induction n with
  | zero => intro x1 x2 x3 w h; exact h.elim
  | succ n ih =>
    intro x1 x2 x3 w h
    unfold X1_placeOf_l2 at h
    refine v_iload_n C dX1_placeOf_2 3 rfl ?_
    refine v_aload_n C dX1_placeOf_3 0 rfl ?_
    refine g_X1_degrees C h0 wd_62 dX1_placeOf_4 ?_
    refine v_iload_n C dX1_placeOf_7 1 rfl ?_
    refine v_iald C h0.2.2.1 h.1 dX1_placeOf_8 ?_
    have h := h.2
    refine v_icmp_ge C 30 dX1_placeOf_9 (by decide) (fun q => ?_) (fun q => ?_)
    · have h := h.1 q
      refine v_sub [0, 1] rfl ?_
      exact he30 _ _ h
    · have h := h.2 q
      refine v_aload_n C dX1_placeOf_12 0 rfl ?_
      refine v_iload_n C dX1_placeOf_13 1 rfl ?_
      refine v_iload_n C dX1_placeOf_14 3 rfl ?_
      refine v_calli C (rn_V C _ (m_X1_lineAt h0 h) mf_X1_lineAt wd_647 wd_648 wd_646 rfl rfl ⟨(Nat.le_of_ble_eq_true rfl), (Nat.le_of_ble_eq_true rfl)⟩ h0.1 rfl rfl rfl (Nat.le_of_ble_eq_true rfl) dX1_placeOf_15) (fun r w h => ?_)
      refine v_iload_n C dX1_placeOf_18 2 rfl ?_
      refine v_icmp_ne C 24 dX1_placeOf_19 (by decide) (fun q => ?_) (fun q => ?_)
      · have h := h.2 q
        refine v_iinc C [(3, _), (0, _), (1, _), (2, _)] dX1_placeOf_24 3 rfl (by decide) rfl ?_
        refine v_goto C 2 dX1_placeOf_27 (by decide) ?_
        refine v_sub [1, 2, 3, 0] rfl ?_
        exact ih _ _ _ _ h
      · have h := h.1 q
        refine v_sub [3] rfl ?_
        exact he22 _ _ h
def X1_placeOf_b22 (r0 : Nat) (Q : Int → Wd → Prop) (x3 : Int) (w : Wd) : Prop := Q (wr x3) w
theorem t_X1_placeOf_b22 {Z : Zw} {E : Amb} {r0 : Nat} {Q : Int → Wd → Prop} (C : Cx Z (adA Z) E cX1_placeOf "HandleFaces$Drawing" 4 rm_X1_placeOf) (R : Rt Z E (some .int) (qI Z Q)) (h0 : sX1 r0) : ∀ (x3 : Int) (w : Wd), X1_placeOf_b22 r0 Q x3 w → V Z (adA Z) E 4 w 22 [(3, iv x3)] [] := by
  intro x3 w h
  unfold X1_placeOf_b22 at h
  refine v_iload_n C dX1_placeOf_22 0 rfl ?_
  exact v_iret C R h dX1_placeOf_23
def X1_placeOf_b30 (r0 : Nat) (Q : Int → Wd → Prop) (x1 : Int) (w : Wd) : Prop := (ix x1 6 ∧ Q (wr (rd w (r0 + 2) x1)) w)
theorem t_X1_placeOf_b30 {Z : Zw} {E : Amb} {r0 : Nat} {Q : Int → Wd → Prop} (C : Cx Z (adA Z) E cX1_placeOf "HandleFaces$Drawing" 4 rm_X1_placeOf) (R : Rt Z E (some .int) (qI Z Q)) (h0 : sX1 r0) : ∀ (x1 : Int) (w : Wd), X1_placeOf_b30 r0 Q x1 w → V Z (adA Z) E 4 w 30 [(0, rv Z r0), (1, iv x1)] [] := by
  intro x1 w h
  unfold X1_placeOf_b30 at h
  refine v_aload_n C dX1_placeOf_30 0 rfl ?_
  refine g_X1_degrees C h0 wd_62 dX1_placeOf_31 ?_
  refine v_iload_n C dX1_placeOf_34 1 rfl ?_
  refine v_iald C h0.2.2.1 h.1 dX1_placeOf_35 ?_
  have h := h.2
  exact v_iret C R h dX1_placeOf_36
def X1_placeOf (r0 : Nat) (x1 : Int) (x2 : Int) (w : Wd) (Q : Int → Wd → Prop) : Prop := (∃ m, X1_placeOf_l2 r0 Q (X1_placeOf_b22 r0 Q) (X1_placeOf_b30 r0 Q) m x1 x2 0 w)
theorem m_X1_placeOf {Z : Zw} {l : Launch} {r0 : Nat} {x1 : Int} {x2 : Int} {w : Wd} {Q : Int → Wd → Prop} (h0 : sX1 r0) (h : X1_placeOf r0 x1 x2 w Q) : CtQ Z l yX1_placeOf cX1_placeOf 4 (some .int) rm_X1_placeOf [rv Z r0, iv x1, iv x2] w (qI Z Q) := by
  refine ct_of (by decide) (Nat.le_of_ble_eq_true rfl) (fun E eE C R => ?_)
  subst eE
  have C : Cx Z (adA Z) E cX1_placeOf "HandleFaces$Drawing" 4 rm_X1_placeOf := C
  unfold X1_placeOf at h
  show V Z (adA Z) E 4 w 0 [(0, rv Z r0), (1, iv x1), (2, iv x2)] []
  refine v_iconst C dX1_placeOf_0 ?_
  refine v_istore_n C [(3, _), (0, _), (1, _), (2, _)] dX1_placeOf_1 3 rfl (by decide) rfl ?_
  refine v_sub [1, 2, 3, 0] rfl ?_
  obtain ⟨m, h⟩ := h
  exact t_X1_placeOf_l2 C R h0 (t_X1_placeOf_b22 C R h0) (t_X1_placeOf_b30 C R h0) m _ _ _ _ h
abbrev rm_X1_takeOut : Room := { frames := 2, cells := 0, slots := 0, locals := 45 }
theorem mf_X1_takeOut : MfB yX1_takeOut cX1_takeOut 6 (some .int) 2 := ⟨wd_641, wd_2, by decide, by decide, by decide +kernel⟩
def X1_takeOut_l16 (r0 : Nat) (Q : Int → Wd → Prop) (e57 : Int → Int → Wd → Prop) : Nat → Int → Int → Int → Int → Wd → Prop
  | 0 => fun _ _ _ _ _ => False
  | n + 1 => fun x1 x3 x4 x5 w => (ix x1 6 ∧ ((wr (rd w (r0 + 2) x1) ≤ wr (x5 + 1) → e57 x1 x3 w) ∧ (¬ wr (rd w (r0 + 2) x1) ≤ wr (x5 + 1) → (ix ((x4 + x5) + 1) 60 ∧ (ix (x4 + x5) 60 ∧ (∀ w4, w4 = wt w (r0 + 3) (x4 + x5) (rd w (r0 + 3) ((x4 + x5) + 1)) → (X1_takeOut_l16 r0 Q e57 n) x1 x3 x4 (x5 + 1) w4))))))
theorem t_X1_takeOut_l16 {Z : Zw} {E : Amb} {r0 : Nat} {Q : Int → Wd → Prop} {e57 : Int → Int → Wd → Prop} (C : Cx Z (adA Z) E cX1_takeOut "HandleFaces$Drawing" 6 rm_X1_takeOut) (R : Rt Z E (some .int) (qI Z Q)) (h0 : sX1 r0) (he57 : ∀ (x1 : Int) (x3 : Int) (w : Wd), e57 x1 x3 w → V Z (adA Z) E 6 w 57 [(0, rv Z r0), (1, iv x1), (3, iv x3)] []) : ∀ (n : Nat) (x1 : Int) (x3 : Int) (x4 : Int) (x5 : Int) (w : Wd), X1_takeOut_l16 r0 Q e57 n x1 x3 x4 x5 w → V Z (adA Z) E 6 w 16 [(0, rv Z r0), (1, iv x1), (3, iv x3), (4, iv x4), (5, iv x5)] [] := by
  intro n
  induction n with
  | zero => intro x1 x3 x4 x5 w h; exact h.elim
  | succ n ih =>
    intro x1 x3 x4 x5 w h
    unfold X1_takeOut_l16 at h
    refine v_iload C dX1_takeOut_16 4 rfl ?_
    refine v_iconst C dX1_takeOut_18 ?_
    refine v_iadd C dX1_takeOut_19 ?_
    refine v_aload_n C dX1_takeOut_20 0 rfl ?_
    refine g_X1_degrees C h0 wd_62 dX1_takeOut_21 ?_
    refine v_iload_n C dX1_takeOut_24 1 rfl ?_
    refine v_iald C h0.2.2.1 h.1 dX1_takeOut_25 ?_
    have h := h.2
    refine v_icmp_ge C 57 dX1_takeOut_26 (by decide) (fun q => ?_) (fun q => ?_)
    · have h := h.1 q
      refine v_sub [0, 1, 2] rfl ?_
      exact he57 _ _ _ h
    · have h := h.2 q
      refine v_aload_n C dX1_takeOut_29 0 rfl ?_
      refine g_X1_rounds C h0 wd_70 dX1_takeOut_30 ?_
      refine v_iload C dX1_takeOut_33 3 rfl ?_
      refine v_iload C dX1_takeOut_35 4 rfl ?_
      refine v_iadd C dX1_takeOut_37 ?_
      refine v_aload_n C dX1_takeOut_38 0 rfl ?_
      refine g_X1_rounds C h0 wd_70 dX1_takeOut_39 ?_
      refine v_iload C dX1_takeOut_42 3 rfl ?_
      refine v_iload C dX1_takeOut_44 4 rfl ?_
      refine v_iadd C dX1_takeOut_46 ?_
      refine v_iconst C dX1_takeOut_47 ?_
      refine v_iadd C dX1_takeOut_48 ?_
      refine v_iald C h0.2.2.2 h.1 dX1_takeOut_49 ?_
      have h := h.2
      refine v_iast C h0.2.2.2 h.1 dX1_takeOut_50 ?_
      have h := h.2
      have h := h _ rfl
      refine v_iinc C [(5, _), (0, _), (1, _), (3, _), (4, _)] dX1_takeOut_51 4 rfl (by decide) rfl ?_
      refine v_goto C 16 dX1_takeOut_54 (by decide) ?_
      refine v_sub [1, 2, 3, 4, 0] rfl ?_
      exact ih _ _ _ _ _ h
def X1_takeOut_b57 (r0 : Nat) (Q : Int → Wd → Prop) (x1 : Int) (x3 : Int) (w : Wd) : Prop := (ix x1 6 ∧ ((wr (rd w (r0 + 2) x1) ≤ wr x3 → Q (wr x3) w) ∧ (¬ wr (rd w (r0 + 2) x1) ≤ wr x3 → (ix x1 6 ∧ (ix x1 6 ∧ (∀ w5, w5 = wt w (r0 + 2) x1 ((rd w (r0 + 2) x1) - 1) → Q (wr x3) w5))))))
theorem t_X1_takeOut_b57 {Z : Zw} {E : Amb} {r0 : Nat} {Q : Int → Wd → Prop} (C : Cx Z (adA Z) E cX1_takeOut "HandleFaces$Drawing" 6 rm_X1_takeOut) (R : Rt Z E (some .int) (qI Z Q)) (h0 : sX1 r0) : ∀ (x1 : Int) (x3 : Int) (w : Wd), X1_takeOut_b57 r0 Q x1 x3 w → V Z (adA Z) E 6 w 57 [(0, rv Z r0), (1, iv x1), (3, iv x3)] [] := by
  intro x1 x3 w h
  unfold X1_takeOut_b57 at h
  refine v_iload_n C dX1_takeOut_57 2 rfl ?_
  refine v_aload_n C dX1_takeOut_58 0 rfl ?_
  refine g_X1_degrees C h0 wd_62 dX1_takeOut_59 ?_
  refine v_iload_n C dX1_takeOut_62 1 rfl ?_
  refine v_iald C h0.2.2.1 h.1 dX1_takeOut_63 ?_
  have h := h.2
  refine v_icmp_ge C 77 dX1_takeOut_64 (by decide) (fun q => ?_) (fun q => ?_)
  · have h := h.1 q
    refine v_iload_n C dX1_takeOut_77 2 rfl ?_
    exact v_iret C R h dX1_takeOut_78
  · have h := h.2 q
    refine v_aload_n C dX1_takeOut_67 0 rfl ?_
    refine g_X1_degrees C h0 wd_62 dX1_takeOut_68 ?_
    refine v_iload_n C dX1_takeOut_71 1 rfl ?_
    refine v_dup2 C dX1_takeOut_72 rfl rfl ?_
    refine v_iald C h0.2.2.1 h.1 dX1_takeOut_73 ?_
    have h := h.2
    refine v_iconst C dX1_takeOut_74 ?_
    refine v_isub C dX1_takeOut_75 ?_
    refine v_iast C h0.2.2.1 h.1 dX1_takeOut_76 ?_
    have h := h.2
    have h := h _ rfl
    refine v_iload_n C dX1_takeOut_77 2 rfl ?_
    exact v_iret C R h dX1_takeOut_78
def X1_takeOut (r0 : Nat) (x1 : Int) (x2 : Int) (w : Wd) (Q : Int → Wd → Prop) : Prop := X1_placeOf r0 x1 x2 w (fun y2 w1 => (∀ y3, y3 = (x1 * 10) → (∃ m, X1_takeOut_l16 r0 Q (X1_takeOut_b57 r0 Q) m x1 y2 y3 y2 w1)))
theorem m_X1_takeOut {Z : Zw} {l : Launch} {r0 : Nat} {x1 : Int} {x2 : Int} {w : Wd} {Q : Int → Wd → Prop} (h0 : sX1 r0) (h : X1_takeOut r0 x1 x2 w Q) : CtQ Z l yX1_takeOut cX1_takeOut 6 (some .int) rm_X1_takeOut [rv Z r0, iv x1, iv x2] w (qI Z Q) := by
  refine ct_of (by decide) (Nat.le_of_ble_eq_true rfl) (fun E eE C R => ?_)
  subst eE
  have C : Cx Z (adA Z) E cX1_takeOut "HandleFaces$Drawing" 6 rm_X1_takeOut := C
  unfold X1_takeOut at h
  show V Z (adA Z) E 6 w 0 [(0, rv Z r0), (1, iv x1), (2, iv x2)] []
  refine v_aload_n C dX1_takeOut_0 0 rfl ?_
  refine v_iload_n C dX1_takeOut_1 1 rfl ?_
  refine v_iload_n C dX1_takeOut_2 2 rfl ?_
  refine v_calli C (rn_V C _ (m_X1_placeOf h0 h) mf_X1_placeOf wd_644 wp_19 wd_642 rfl rfl ⟨(Nat.le_of_ble_eq_true rfl), (Nat.le_of_ble_eq_true rfl)⟩ h0.1 rfl rfl rfl (Nat.le_of_ble_eq_true rfl) dX1_takeOut_3) (fun r w h => ?_)
  refine v_istore_n C [(3, _), (0, _), (1, _), (2, _)] dX1_takeOut_6 3 rfl (by decide) rfl ?_
  refine v_iload_n C dX1_takeOut_7 2 rfl ?_
  refine v_bipush C dX1_takeOut_8 (by decide) ?_
  refine v_imul C dX1_takeOut_10 ?_
  refine v_istore C [(4, _), (3, _), (0, _), (1, _), (2, _)] dX1_takeOut_11 (by decide) rfl ?_
  have h := h _ rfl
  refine v_iload_n C dX1_takeOut_13 1 rfl ?_
  refine v_istore C [(5, _), (4, _), (3, _), (0, _), (1, _), (2, _)] dX1_takeOut_14 (by decide) rfl ?_
  refine v_sub [3, 4, 2, 1, 0] rfl ?_
  obtain ⟨m, h⟩ := h
  exact t_X1_takeOut_l16 C R h0 (t_X1_takeOut_b57 C R h0) m _ _ _ _ _ h
abbrev rm_X1_closeLineNumber : Room := { frames := 1, cells := 0, slots := 0, locals := 22 }
theorem mf_X1_closeLineNumber : MfB yX1_closeLineNumber cX1_closeLineNumber 5 none 1 := ⟨wd_653, wd_2, by decide, by decide, by decide +kernel⟩
def X1_closeLineNumber_l4 (r0 : Nat) (Q : Wd → Prop) (e36 : Int → Wd → Prop) : Nat → Int → Int → Wd → Prop
  | 0 => fun _ _ _ => False
  | n + 1 => fun x1 x2 w => ((wr (2 * (w r0 1)) ≤ wr (x2 + 2) → e36 x1 w) ∧ (¬ wr (2 * (w r0 1)) ≤ wr (x2 + 2) → (ix (x2 + 2) 20 ∧ (ix x2 20 ∧ (∀ w2, w2 = wt w (r0 + 1) x2 (rd w (r0 + 1) (x2 + 2)) → (X1_closeLineNumber_l4 r0 Q e36 n) x1 (x2 + 1) w2)))))
theorem t_X1_closeLineNumber_l4 {Z : Zw} {E : Amb} {r0 : Nat} {Q : Wd → Prop} {e36 : Int → Wd → Prop} (C : Cx Z (adA Z) E cX1_closeLineNumber "HandleFaces$Drawing" 5 rm_X1_closeLineNumber) (R : Rt Z E none (qV Z Q)) (h0 : sX1 r0) (he36 : ∀ (x1 : Int) (w : Wd), e36 x1 w → V Z (adA Z) E 5 w 36 [(0, rv Z r0), (1, iv x1)] []) : ∀ (n : Nat) (x1 : Int) (x2 : Int) (w : Wd), X1_closeLineNumber_l4 r0 Q e36 n x1 x2 w → V Z (adA Z) E 5 w 4 [(0, rv Z r0), (1, iv x1), (2, iv x2)] [] := by
  intro n
  induction n with
  | zero => intro x1 x2 w h; exact h.elim
  | succ n ih =>
    intro x1 x2 w h
    unfold X1_closeLineNumber_l4 at h
    refine v_iload_n C dX1_closeLineNumber_4 2 rfl ?_
    refine v_iconst C dX1_closeLineNumber_5 ?_
    refine v_iadd C dX1_closeLineNumber_6 ?_
    refine v_iconst C dX1_closeLineNumber_7 ?_
    refine v_aload_n C dX1_closeLineNumber_8 0 rfl ?_
    refine g_X1_lines C h0 wd_43 dX1_closeLineNumber_9 ?_
    refine v_imul C dX1_closeLineNumber_12 ?_
    refine v_icmp_ge C 36 dX1_closeLineNumber_13 (by decide) (fun q => ?_) (fun q => ?_)
    · have h := h.1 q
      refine v_sub [0, 1] rfl ?_
      exact he36 _ _ h
    · have h := h.2 q
      refine v_aload_n C dX1_closeLineNumber_16 0 rfl ?_
      refine g_X1_ends C h0 wd_57 dX1_closeLineNumber_17 ?_
      refine v_iload_n C dX1_closeLineNumber_20 2 rfl ?_
      refine v_aload_n C dX1_closeLineNumber_21 0 rfl ?_
      refine g_X1_ends C h0 wd_57 dX1_closeLineNumber_22 ?_
      refine v_iload_n C dX1_closeLineNumber_25 2 rfl ?_
      refine v_iconst C dX1_closeLineNumber_26 ?_
      refine v_iadd C dX1_closeLineNumber_27 ?_
      refine v_iald C h0.2.1 h.1 dX1_closeLineNumber_28 ?_
      have h := h.2
      refine v_iast C h0.2.1 h.1 dX1_closeLineNumber_29 ?_
      have h := h.2
      have h := h _ rfl
      refine v_iinc C [(2, _), (0, _), (1, _)] dX1_closeLineNumber_30 2 rfl (by decide) rfl ?_
      refine v_goto C 4 dX1_closeLineNumber_33 (by decide) ?_
      refine v_sub [1, 2, 0] rfl ?_
      exact ih _ _ _ h
def X1_closeLineNumber_l86 (r0 : Nat) (Q : Wd → Prop) (e130 : Int → Int → Wd → Prop) : Nat → Int → Int → Int → Wd → Prop
  | 0 => fun _ _ _ _ => False
  | n + 1 => fun x1 x3 x4 w => (ix x3 6 ∧ ((wr (rd w (r0 + 2) x3) ≤ wr x4 → e130 x1 x3 w) ∧ (¬ wr (rd w (r0 + 2) x3) ≤ wr x4 → X1_lineAt r0 x3 x4 w (fun y7 w6 => ((wr y7 ≤ wr x1 → (X1_closeLineNumber_l86 r0 Q e130 n) x1 x3 (x4 + 1) w6) ∧ (¬ wr y7 ≤ wr x1 → (ix ((x3 * 10) + x4) 60 ∧ (ix ((x3 * 10) + x4) 60 ∧ (∀ w8, w8 = wt w6 (r0 + 3) ((x3 * 10) + x4) ((rd w6 (r0 + 3) ((x3 * 10) + x4)) - 1) → (X1_closeLineNumber_l86 r0 Q e130 n) x1 x3 (x4 + 1) w8)))))))))
theorem t_X1_closeLineNumber_l86 {Z : Zw} {E : Amb} {r0 : Nat} {Q : Wd → Prop} {e130 : Int → Int → Wd → Prop} (C : Cx Z (adA Z) E cX1_closeLineNumber "HandleFaces$Drawing" 5 rm_X1_closeLineNumber) (R : Rt Z E none (qV Z Q)) (h0 : sX1 r0) (he130 : ∀ (x1 : Int) (x3 : Int) (w : Wd), e130 x1 x3 w → V Z (adA Z) E 5 w 130 [(0, rv Z r0), (1, iv x1), (3, iv x3)] []) : ∀ (n : Nat) (x1 : Int) (x3 : Int) (x4 : Int) (w : Wd), X1_closeLineNumber_l86 r0 Q e130 n x1 x3 x4 w → V Z (adA Z) E 5 w 86 [(0, rv Z r0), (1, iv x1), (3, iv x3), (4, iv x4)] [] := by
  intro n
  induction n with
  | zero => intro x1 x3 x4 w h; exact h.elim
  | succ n ih =>
    intro x1 x3 x4 w h
    unfold X1_closeLineNumber_l86 at h
    refine v_iload C dX1_closeLineNumber_86 3 rfl ?_
    refine v_aload_n C dX1_closeLineNumber_88 0 rfl ?_
    refine g_X1_degrees C h0 wd_62 dX1_closeLineNumber_89 ?_
    refine v_iload_n C dX1_closeLineNumber_92 2 rfl ?_
    refine v_iald C h0.2.2.1 h.1 dX1_closeLineNumber_93 ?_
    have h := h.2
    refine v_icmp_ge C 130 dX1_closeLineNumber_94 (by decide) (fun q => ?_) (fun q => ?_)
    · have h := h.1 q
      refine v_sub [0, 1, 2] rfl ?_
      exact he130 _ _ _ h
    · have h := h.2 q
      refine v_aload_n C dX1_closeLineNumber_97 0 rfl ?_
      refine v_iload_n C dX1_closeLineNumber_98 2 rfl ?_
      refine v_iload C dX1_closeLineNumber_99 3 rfl ?_
      refine v_calli C (rn_V C _ (m_X1_lineAt h0 h) mf_X1_lineAt wd_647 wd_648 wd_646 rfl rfl ⟨(Nat.le_of_ble_eq_true rfl), (Nat.le_of_ble_eq_true rfl)⟩ h0.1 rfl rfl rfl (Nat.le_of_ble_eq_true rfl) dX1_closeLineNumber_101) (fun r w h => ?_)
      refine v_iload_n C dX1_closeLineNumber_104 1 rfl ?_
      refine v_icmp_le C 124 dX1_closeLineNumber_105 (by decide) (fun q => ?_) (fun q => ?_)
      · have h := h.1 q
        refine v_iinc C [(4, _), (0, _), (1, _), (3, _)] dX1_closeLineNumber_124 3 rfl (by decide) rfl ?_
        refine v_goto C 86 dX1_closeLineNumber_127 (by decide) ?_
        refine v_sub [1, 2, 3, 0] rfl ?_
        exact ih _ _ _ _ h
      · have h := h.2 q
        refine v_aload_n C dX1_closeLineNumber_108 0 rfl ?_
        refine g_X1_rounds C h0 wd_70 dX1_closeLineNumber_109 ?_
        refine v_iload_n C dX1_closeLineNumber_112 2 rfl ?_
        refine v_bipush C dX1_closeLineNumber_113 (by decide) ?_
        refine v_imul C dX1_closeLineNumber_115 ?_
        refine v_iload C dX1_closeLineNumber_116 3 rfl ?_
        refine v_iadd C dX1_closeLineNumber_118 ?_
        refine v_dup2 C dX1_closeLineNumber_119 rfl rfl ?_
        refine v_iald C h0.2.2.2 h.1 dX1_closeLineNumber_120 ?_
        have h := h.2
        refine v_iconst C dX1_closeLineNumber_121 ?_
        refine v_isub C dX1_closeLineNumber_122 ?_
        refine v_iast C h0.2.2.2 h.1 dX1_closeLineNumber_123 ?_
        have h := h.2
        have h := h _ rfl
        refine v_iinc C [(4, _), (0, _), (1, _), (3, _)] dX1_closeLineNumber_124 3 rfl (by decide) rfl ?_
        refine v_goto C 86 dX1_closeLineNumber_127 (by decide) ?_
        refine v_sub [1, 2, 3, 0] rfl ?_
        exact ih _ _ _ _ h
def X1_closeLineNumber_b130 (r0 : Nat) (Q : Wd → Prop) (c75 : Int → Int → Wd → Prop) (e136 : Wd → Prop) (x1 : Int) (x3 : Int) (w : Wd) : Prop := c75 x1 (x3 + 1) w
theorem t_X1_closeLineNumber_b130 {Z : Zw} {E : Amb} {r0 : Nat} {Q : Wd → Prop} {c75 : Int → Int → Wd → Prop} {e136 : Wd → Prop} (C : Cx Z (adA Z) E cX1_closeLineNumber "HandleFaces$Drawing" 5 rm_X1_closeLineNumber) (R : Rt Z E none (qV Z Q)) (h0 : sX1 r0) (hc75 : ∀ (x1 : Int) (x3 : Int) (w : Wd), c75 x1 x3 w → V Z (adA Z) E 5 w 75 [(0, rv Z r0), (1, iv x1), (3, iv x3)] []) (he136 : ∀ (w : Wd), e136 w → V Z (adA Z) E 5 w 136 [] []) : ∀ (x1 : Int) (x3 : Int) (w : Wd), X1_closeLineNumber_b130 r0 Q c75 e136 x1 x3 w → V Z (adA Z) E 5 w 130 [(0, rv Z r0), (1, iv x1), (3, iv x3)] [] := by
  intro x1 x3 w h
  unfold X1_closeLineNumber_b130 at h
  refine v_iinc C [(3, _), (0, _), (1, _)] dX1_closeLineNumber_130 2 rfl (by decide) rfl ?_
  refine v_goto C 75 dX1_closeLineNumber_133 (by decide) ?_
  refine v_sub [1, 2, 0] rfl ?_
  exact hc75 _ _ _ h
def X1_closeLineNumber_l75 (r0 : Nat) (Q : Wd → Prop) (e136 : Wd → Prop) : Nat → Int → Int → Wd → Prop
  | 0 => fun _ _ _ => False
  | n + 1 => fun x1 x3 w => ((wr (w r0 0) ≤ wr x3 → e136 w) ∧ (¬ wr (w r0 0) ≤ wr x3 → (∃ m, X1_closeLineNumber_l86 r0 Q (X1_closeLineNumber_b130 r0 Q (X1_closeLineNumber_l75 r0 Q e136 n) e136) m x1 x3 0 w)))
theorem t_X1_closeLineNumber_l75 {Z : Zw} {E : Amb} {r0 : Nat} {Q : Wd → Prop} {e136 : Wd → Prop} (C : Cx Z (adA Z) E cX1_closeLineNumber "HandleFaces$Drawing" 5 rm_X1_closeLineNumber) (R : Rt Z E none (qV Z Q)) (h0 : sX1 r0) (he136 : ∀ (w : Wd), e136 w → V Z (adA Z) E 5 w 136 [] []) : ∀ (n : Nat) (x1 : Int) (x3 : Int) (w : Wd), X1_closeLineNumber_l75 r0 Q e136 n x1 x3 w → V Z (adA Z) E 5 w 75 [(0, rv Z r0), (1, iv x1), (3, iv x3)] [] := by
  intro n
  induction n with
  | zero => intro x1 x3 w h; exact h.elim
  | succ n ih =>
    intro x1 x3 w h
    unfold X1_closeLineNumber_l75 at h
    refine v_iload_n C dX1_closeLineNumber_75 2 rfl ?_
    refine v_aload_n C dX1_closeLineNumber_76 0 rfl ?_
    refine g_X1_posts C h0 wd_35 dX1_closeLineNumber_77 ?_
    refine v_icmp_ge C 136 dX1_closeLineNumber_80 (by decide) (fun q => ?_) (fun q => ?_)
    · have h := h.1 q
      refine v_sub [] rfl ?_
      exact he136 _ h
    · have h := h.2 q
      refine v_iconst C dX1_closeLineNumber_83 ?_
      refine v_istore C [(4, _), (0, _), (1, _), (3, _)] dX1_closeLineNumber_84 (by decide) rfl ?_
      refine v_sub [1, 2, 3, 0] rfl ?_
      obtain ⟨m, h⟩ := h
      exact t_X1_closeLineNumber_l86 C R h0 (t_X1_closeLineNumber_b130 C R h0 ih he136) m _ _ _ _ h
def X1_closeLineNumber_b136 (r0 : Nat) (Q : Wd → Prop) (w : Wd) : Prop := Q w
theorem t_X1_closeLineNumber_b136 {Z : Zw} {E : Amb} {r0 : Nat} {Q : Wd → Prop} (C : Cx Z (adA Z) E cX1_closeLineNumber "HandleFaces$Drawing" 5 rm_X1_closeLineNumber) (R : Rt Z E none (qV Z Q)) (h0 : sX1 r0) : ∀ (w : Wd), X1_closeLineNumber_b136 r0 Q w → V Z (adA Z) E 5 w 136 [] [] := by
  intro w h
  unfold X1_closeLineNumber_b136 at h
  exact v_ret C R h dX1_closeLineNumber_136
def X1_closeLineNumber_b36 (r0 : Nat) (Q : Wd → Prop) (x1 : Int) (w : Wd) : Prop := (∀ w3, w3 = up w r0 1 ((w r0 1) - 1) → (∀ y4, y4 = ((isl 1 x1) - 1) → (∀ w5, w5 = up w3 r0 2 (ior (ian (w3 r0 2) y4) (ian (isr (w3 r0 2) 1) (ixo y4 (-1)))) → (∃ m, X1_closeLineNumber_l75 r0 Q (X1_closeLineNumber_b136 r0 Q) m x1 0 w5))))
theorem t_X1_closeLineNumber_b36 {Z : Zw} {E : Amb} {r0 : Nat} {Q : Wd → Prop} (C : Cx Z (adA Z) E cX1_closeLineNumber "HandleFaces$Drawing" 5 rm_X1_closeLineNumber) (R : Rt Z E none (qV Z Q)) (h0 : sX1 r0) : ∀ (x1 : Int) (w : Wd), X1_closeLineNumber_b36 r0 Q x1 w → V Z (adA Z) E 5 w 36 [(0, rv Z r0), (1, iv x1)] [] := by
  intro x1 w h
  unfold X1_closeLineNumber_b36 at h
  refine v_aload_n C dX1_closeLineNumber_36 0 rfl ?_
  refine v_dup C dX1_closeLineNumber_37 rfl ?_
  refine g_X1_lines C h0 wd_43 dX1_closeLineNumber_38 ?_
  refine v_iconst C dX1_closeLineNumber_41 ?_
  refine v_isub C dX1_closeLineNumber_42 ?_
  refine p_X1_lines C h0 wd_43 dX1_closeLineNumber_43 ?_
  have h := h _ rfl
  refine v_iconst C dX1_closeLineNumber_46 ?_
  refine v_iload_n C dX1_closeLineNumber_47 1 rfl ?_
  refine v_ishl C dX1_closeLineNumber_48 ?_
  refine v_iconst C dX1_closeLineNumber_49 ?_
  refine v_isub C dX1_closeLineNumber_50 ?_
  refine v_istore_n C [(2, _), (0, _), (1, _)] dX1_closeLineNumber_51 2 rfl (by decide) rfl ?_
  have h := h _ rfl
  refine v_aload_n C dX1_closeLineNumber_52 1 rfl ?_
  refine v_aload_n C dX1_closeLineNumber_53 1 rfl ?_
  refine g_X1_twists C h0 wd_51 dX1_closeLineNumber_54 ?_
  refine v_iload_n C dX1_closeLineNumber_57 0 rfl ?_
  refine v_iand C dX1_closeLineNumber_58 ?_
  refine v_aload_n C dX1_closeLineNumber_59 1 rfl ?_
  refine g_X1_twists C h0 wd_51 dX1_closeLineNumber_60 ?_
  refine v_iconst C dX1_closeLineNumber_63 ?_
  refine v_ishr C dX1_closeLineNumber_64 ?_
  refine v_iload_n C dX1_closeLineNumber_65 0 rfl ?_
  refine v_iconst C dX1_closeLineNumber_66 ?_
  refine v_ixor C dX1_closeLineNumber_67 ?_
  refine v_iand C dX1_closeLineNumber_68 ?_
  refine v_ior C dX1_closeLineNumber_69 ?_
  refine p_X1_twists C h0 wd_51 dX1_closeLineNumber_70 ?_
  have h := h _ rfl
  refine v_iconst C dX1_closeLineNumber_73 ?_
  refine v_istore_n C [(3, _), (2, _), (0, _), (1, _)] dX1_closeLineNumber_74 3 rfl (by decide) rfl ?_
  refine v_sub [2, 3, 0] rfl ?_
  obtain ⟨m, h⟩ := h
  exact t_X1_closeLineNumber_l75 C R h0 (t_X1_closeLineNumber_b136 C R h0) m _ _ _ h
def X1_closeLineNumber (r0 : Nat) (x1 : Int) (w : Wd) (Q : Wd → Prop) : Prop := (∀ y1, y1 = (2 * x1) → (∃ m, X1_closeLineNumber_l4 r0 Q (X1_closeLineNumber_b36 r0 Q) m x1 y1 w))
theorem m_X1_closeLineNumber {Z : Zw} {l : Launch} {r0 : Nat} {x1 : Int} {w : Wd} {Q : Wd → Prop} (h0 : sX1 r0) (h : X1_closeLineNumber r0 x1 w Q) : CtQ Z l yX1_closeLineNumber cX1_closeLineNumber 5 none rm_X1_closeLineNumber [rv Z r0, iv x1] w (qV Z Q) := by
  refine ct_of (by decide) (Nat.le_of_ble_eq_true rfl) (fun E eE C R => ?_)
  subst eE
  have C : Cx Z (adA Z) E cX1_closeLineNumber "HandleFaces$Drawing" 5 rm_X1_closeLineNumber := C
  unfold X1_closeLineNumber at h
  show V Z (adA Z) E 5 w 0 [(0, rv Z r0), (1, iv x1)] []
  refine v_iconst C dX1_closeLineNumber_0 ?_
  refine v_iload_n C dX1_closeLineNumber_1 1 rfl ?_
  refine v_imul C dX1_closeLineNumber_2 ?_
  refine v_istore_n C [(2, _), (0, _), (1, _)] dX1_closeLineNumber_3 2 rfl (by decide) rfl ?_
  have h := h _ rfl
  refine v_sub [1, 2, 0] rfl ?_
  obtain ⟨m, h⟩ := h
  exact t_X1_closeLineNumber_l4 C R h0 (t_X1_closeLineNumber_b36 C R h0) m _ _ _ h
abbrev rm_X1_dropLine : Room := { frames := 3, cells := 0, slots := 0, locals := 70 }
theorem mf_X1_dropLine : MfB yX1_dropLine cX1_dropLine 2 none 1 := ⟨wd_637, wd_2, by decide, by decide, by decide +kernel⟩
def X1_dropLine (r0 : Nat) (x1 : Int) (w : Wd) (Q : Wd → Prop) : Prop := (ix (2 * x1) 20 ∧ X1_takeOut r0 (rd w (r0 + 1) (2 * x1)) x1 w (fun y2 w1 => (ix ((2 * x1) + 1) 20 ∧ X1_takeOut r0 (rd w1 (r0 + 1) ((2 * x1) + 1)) x1 w1 (fun y4 w3 => X1_closeLineNumber r0 x1 w3 (fun w5 => Q w5)))))
theorem m_X1_dropLine {Z : Zw} {l : Launch} {r0 : Nat} {x1 : Int} {w : Wd} {Q : Wd → Prop} (h0 : sX1 r0) (h : X1_dropLine r0 x1 w Q) : CtQ Z l yX1_dropLine cX1_dropLine 2 none rm_X1_dropLine [rv Z r0, iv x1] w (qV Z Q) := by
  refine ct_of (by decide) (Nat.le_of_ble_eq_true rfl) (fun E eE C R => ?_)
  subst eE
  have C : Cx Z (adA Z) E cX1_dropLine "HandleFaces$Drawing" 2 rm_X1_dropLine := C
  unfold X1_dropLine at h
  show V Z (adA Z) E 2 w 0 [(0, rv Z r0), (1, iv x1)] []
  refine v_aload_n C dX1_dropLine_0 0 rfl ?_
  refine v_aload_n C dX1_dropLine_1 0 rfl ?_
  refine g_X1_ends C h0 wd_57 dX1_dropLine_2 ?_
  refine v_iconst C dX1_dropLine_5 ?_
  refine v_iload_n C dX1_dropLine_6 1 rfl ?_
  refine v_imul C dX1_dropLine_7 ?_
  refine v_iald C h0.2.1 h.1 dX1_dropLine_8 ?_
  have h := h.2
  refine v_iload_n C dX1_dropLine_9 1 rfl ?_
  refine v_calli C (rn_V C _ (m_X1_takeOut h0 h) mf_X1_takeOut wd_640 wp_18 wd_638 rfl rfl ⟨(Nat.le_of_ble_eq_true rfl), (Nat.le_of_ble_eq_true rfl)⟩ h0.1 rfl rfl rfl (Nat.le_of_ble_eq_true rfl) dX1_dropLine_10) (fun r w h => ?_)
  refine v_pop C dX1_dropLine_13 rfl ?_
  refine v_aload_n C dX1_dropLine_14 0 rfl ?_
  refine v_aload_n C dX1_dropLine_15 0 rfl ?_
  refine g_X1_ends C h0 wd_57 dX1_dropLine_16 ?_
  refine v_iconst C dX1_dropLine_19 ?_
  refine v_iload_n C dX1_dropLine_20 1 rfl ?_
  refine v_imul C dX1_dropLine_21 ?_
  refine v_iconst C dX1_dropLine_22 ?_
  refine v_iadd C dX1_dropLine_23 ?_
  refine v_iald C h0.2.1 h.1 dX1_dropLine_24 ?_
  have h := h.2
  refine v_iload_n C dX1_dropLine_25 1 rfl ?_
  refine v_calli C (rn_V C _ (m_X1_takeOut h0 h) mf_X1_takeOut wd_640 wp_18 wd_638 rfl rfl ⟨(Nat.le_of_ble_eq_true rfl), (Nat.le_of_ble_eq_true rfl)⟩ h0.1 rfl rfl rfl (Nat.le_of_ble_eq_true rfl) dX1_dropLine_26) (fun r w h => ?_)
  refine v_pop C dX1_dropLine_29 rfl ?_
  refine v_aload_n C dX1_dropLine_30 0 rfl ?_
  refine v_iload_n C dX1_dropLine_31 1 rfl ?_
  refine v_callv C (rn_V C _ (m_X1_closeLineNumber h0 h) mf_X1_closeLineNumber wd_652 wp_20 wd_650 rfl rfl ⟨(Nat.le_of_ble_eq_true rfl), (Nat.le_of_ble_eq_true rfl)⟩ h0.1 rfl rfl rfl (Nat.le_of_ble_eq_true rfl) dX1_dropLine_32) (fun w h => ?_)
  exact v_ret C R h dX1_dropLine_35
abbrev rm_X1_swap : Room := { frames := 0, cells := 0, slots := 0, locals := 0 }
theorem mf_X1_swap : MfB yX1_swap cX1_swap 4 none 2 := ⟨wd_674, wd_2, by decide, by decide, by decide +kernel⟩
def X1_swap (r0 : Nat) (x1 : Int) (x2 : Int) (w : Wd) (Q : Wd → Prop) : Prop := (ix x1 60 ∧ (∀ y1, y1 = (rd w (r0 + 3) x1) → (ix x2 60 ∧ (ix x1 60 ∧ (∀ w2, w2 = wt w (r0 + 3) x1 (rd w (r0 + 3) x2) → (ix x2 60 ∧ (∀ w3, w3 = wt w2 (r0 + 3) x2 y1 → Q w3)))))))
theorem m_X1_swap {Z : Zw} {l : Launch} {r0 : Nat} {x1 : Int} {x2 : Int} {w : Wd} {Q : Wd → Prop} (h0 : sX1 r0) (h : X1_swap r0 x1 x2 w Q) : CtQ Z l yX1_swap cX1_swap 4 none rm_X1_swap [rv Z r0, iv x1, iv x2] w (qV Z Q) := by
  refine ct_of (by decide) (Nat.le_of_ble_eq_true rfl) (fun E eE C R => ?_)
  subst eE
  have C : Cx Z (adA Z) E cX1_swap "HandleFaces$Drawing" 4 rm_X1_swap := C
  unfold X1_swap at h
  show V Z (adA Z) E 4 w 0 [(0, rv Z r0), (1, iv x1), (2, iv x2)] []
  refine v_aload_n C dX1_swap_0 0 rfl ?_
  refine g_X1_rounds C h0 wd_70 dX1_swap_1 ?_
  refine v_iload_n C dX1_swap_4 1 rfl ?_
  refine v_iald C h0.2.2.2 h.1 dX1_swap_5 ?_
  have h := h.2
  refine v_istore_n C [(3, _), (0, _), (1, _), (2, _)] dX1_swap_6 3 rfl (by decide) rfl ?_
  have h := h _ rfl
  refine v_aload_n C dX1_swap_7 1 rfl ?_
  refine g_X1_rounds C h0 wd_70 dX1_swap_8 ?_
  refine v_iload_n C dX1_swap_11 2 rfl ?_
  refine v_aload_n C dX1_swap_12 1 rfl ?_
  refine g_X1_rounds C h0 wd_70 dX1_swap_13 ?_
  refine v_iload_n C dX1_swap_16 3 rfl ?_
  refine v_iald C h0.2.2.2 h.1 dX1_swap_17 ?_
  have h := h.2
  refine v_iast C h0.2.2.2 h.1 dX1_swap_18 ?_
  have h := h.2
  have h := h _ rfl
  refine v_aload_n C dX1_swap_19 1 rfl ?_
  refine g_X1_rounds C h0 wd_70 dX1_swap_20 ?_
  refine v_iload_n C dX1_swap_23 3 rfl ?_
  refine v_iload_n C dX1_swap_24 0 rfl ?_
  refine v_iast C h0.2.2.2 h.1 dX1_swap_25 ?_
  have h := h.2
  have h := h _ rfl
  exact v_ret C R h dX1_swap_26
abbrev rm_X1_reverseRow : Room := { frames := 1, cells := 0, slots := 0, locals := 23 }
theorem mf_X1_reverseRow : MfB yX1_reverseRow cX1_reverseRow 5 none 2 := ⟨wd_670, wd_2, by decide, by decide, by decide +kernel⟩
def X1_reverseRow_l5 (r0 : Nat) (Q : Wd → Prop) (e27 : Wd → Prop) : Nat → Int → Int → Wd → Prop
  | 0 => fun _ _ _ => False
  | n + 1 => fun x3 x4 w => ((wr x3 ≤ wr x4 → e27 w) ∧ (¬ wr x3 ≤ wr x4 → X1_swap r0 x4 x3 w (fun w1 => (X1_reverseRow_l5 r0 Q e27 n) (x3 + (-1)) (x4 + 1) w1)))
theorem t_X1_reverseRow_l5 {Z : Zw} {E : Amb} {r0 : Nat} {Q : Wd → Prop} {e27 : Wd → Prop} (C : Cx Z (adA Z) E cX1_reverseRow "HandleFaces$Drawing" 5 rm_X1_reverseRow) (R : Rt Z E none (qV Z Q)) (h0 : sX1 r0) (he27 : ∀ (w : Wd), e27 w → V Z (adA Z) E 5 w 27 [] []) : ∀ (n : Nat) (x3 : Int) (x4 : Int) (w : Wd), X1_reverseRow_l5 r0 Q e27 n x3 x4 w → V Z (adA Z) E 5 w 5 [(0, rv Z r0), (3, iv x3), (4, iv x4)] [] := by
  intro n
  induction n with
  | zero => intro x3 x4 w h; exact h.elim
  | succ n ih =>
    intro x3 x4 w h
    unfold X1_reverseRow_l5 at h
    refine v_iload C dX1_reverseRow_5 2 rfl ?_
    refine v_iload_n C dX1_reverseRow_7 1 rfl ?_
    refine v_icmp_ge C 27 dX1_reverseRow_8 (by decide) (fun q => ?_) (fun q => ?_)
    · have h := h.1 q
      refine v_sub [] rfl ?_
      exact he27 _ h
    · have h := h.2 q
      refine v_aload_n C dX1_reverseRow_11 0 rfl ?_
      refine v_iload C dX1_reverseRow_12 2 rfl ?_
      refine v_iload_n C dX1_reverseRow_14 1 rfl ?_
      refine v_callv C (rn_V C _ (m_X1_swap h0 h) mf_X1_swap wd_672 wd_673 wd_671 rfl rfl ⟨(Nat.le_of_ble_eq_true rfl), (Nat.le_of_ble_eq_true rfl)⟩ h0.1 rfl rfl rfl (Nat.le_of_ble_eq_true rfl) dX1_reverseRow_15) (fun w h => ?_)
      refine v_iinc C [(3, _), (0, _), (4, _)] dX1_reverseRow_18 1 rfl (by decide) rfl ?_
      refine v_iinc C [(4, _), (3, _), (0, _)] dX1_reverseRow_21 2 rfl (by decide) rfl ?_
      refine v_goto C 5 dX1_reverseRow_24 (by decide) ?_
      refine v_sub [2, 1, 0] rfl ?_
      exact ih _ _ _ h
def X1_reverseRow_b27 (r0 : Nat) (Q : Wd → Prop) (w : Wd) : Prop := Q w
theorem t_X1_reverseRow_b27 {Z : Zw} {E : Amb} {r0 : Nat} {Q : Wd → Prop} (C : Cx Z (adA Z) E cX1_reverseRow "HandleFaces$Drawing" 5 rm_X1_reverseRow) (R : Rt Z E none (qV Z Q)) (h0 : sX1 r0) : ∀ (w : Wd), X1_reverseRow_b27 r0 Q w → V Z (adA Z) E 5 w 27 [] [] := by
  intro w h
  unfold X1_reverseRow_b27 at h
  exact v_ret C R h dX1_reverseRow_27
def X1_reverseRow (r0 : Nat) (x1 : Int) (x2 : Int) (w : Wd) (Q : Wd → Prop) : Prop := (∃ m, X1_reverseRow_l5 r0 Q (X1_reverseRow_b27 r0 Q) m x2 x1 w)
theorem m_X1_reverseRow {Z : Zw} {l : Launch} {r0 : Nat} {x1 : Int} {x2 : Int} {w : Wd} {Q : Wd → Prop} (h0 : sX1 r0) (h : X1_reverseRow r0 x1 x2 w Q) : CtQ Z l yX1_reverseRow cX1_reverseRow 5 none rm_X1_reverseRow [rv Z r0, iv x1, iv x2] w (qV Z Q) := by
  refine ct_of (by decide) (Nat.le_of_ble_eq_true rfl) (fun E eE C R => ?_)
  subst eE
  have C : Cx Z (adA Z) E cX1_reverseRow "HandleFaces$Drawing" 5 rm_X1_reverseRow := C
  unfold X1_reverseRow at h
  show V Z (adA Z) E 5 w 0 [(0, rv Z r0), (1, iv x1), (2, iv x2)] []
  refine v_iload_n C dX1_reverseRow_0 2 rfl ?_
  refine v_istore_n C [(3, _), (0, _), (1, _), (2, _)] dX1_reverseRow_1 3 rfl (by decide) rfl ?_
  refine v_iload_n C dX1_reverseRow_2 2 rfl ?_
  refine v_istore C [(4, _), (3, _), (0, _), (1, _), (2, _)] dX1_reverseRow_3 (by decide) rfl ?_
  refine v_sub [2, 1, 0] rfl ?_
  obtain ⟨m, h⟩ := h
  exact t_X1_reverseRow_l5 C R h0 (t_X1_reverseRow_b27 C R h0) m _ _ _ h
abbrev rm_X1_turnOver : Room := { frames := 2, cells := 0, slots := 0, locals := 47 }
theorem mf_X1_turnOver : MfB yX1_turnOver cX1_turnOver 5 none 1 := ⟨wd_666, wd_2, by decide, by decide, by decide +kernel⟩
def X1_turnOver_l19 (r0 : Nat) (Q : Wd → Prop) (e49 : Int → Int → Wd → Prop) : Nat → Int → Int → Int → Wd → Prop
  | 0 => fun _ _ _ _ => False
  | n + 1 => fun x2 x3 x4 w => ((wr x3 < wr x4 → e49 x2 x3 w) ∧ (¬ wr x3 < wr x4 → (ix x4 60 ∧ (∀ w3, w3 = up w r0 2 (ixo (w r0 2) (isl 1 (rd w (r0 + 3) x4))) → (X1_turnOver_l19 r0 Q e49 n) x2 x3 (x4 + 1) w3))))
theorem t_X1_turnOver_l19 {Z : Zw} {E : Amb} {r0 : Nat} {Q : Wd → Prop} {e49 : Int → Int → Wd → Prop} (C : Cx Z (adA Z) E cX1_turnOver "HandleFaces$Drawing" 5 rm_X1_turnOver) (R : Rt Z E none (qV Z Q)) (h0 : sX1 r0) (he49 : ∀ (x2 : Int) (x3 : Int) (w : Wd), e49 x2 x3 w → V Z (adA Z) E 5 w 49 [(0, rv Z r0), (2, iv x2), (3, iv x3)] []) : ∀ (n : Nat) (x2 : Int) (x3 : Int) (x4 : Int) (w : Wd), X1_turnOver_l19 r0 Q e49 n x2 x3 x4 w → V Z (adA Z) E 5 w 19 [(0, rv Z r0), (2, iv x2), (3, iv x3), (4, iv x4)] [] := by
  intro n
  induction n with
  | zero => intro x2 x3 x4 w h; exact h.elim
  | succ n ih =>
    intro x2 x3 x4 w h
    unfold X1_turnOver_l19 at h
    refine v_iload C dX1_turnOver_19 3 rfl ?_
    refine v_iload_n C dX1_turnOver_21 2 rfl ?_
    refine v_icmp_gt C 49 dX1_turnOver_22 (by decide) (fun q => ?_) (fun q => ?_)
    · have h := h.1 q
      refine v_sub [0, 1, 2] rfl ?_
      exact he49 _ _ _ h
    · have h := h.2 q
      refine v_aload_n C dX1_turnOver_25 0 rfl ?_
      refine v_dup C dX1_turnOver_26 rfl ?_
      refine g_X1_twists C h0 wd_51 dX1_turnOver_27 ?_
      refine v_iconst C dX1_turnOver_30 ?_
      refine v_aload_n C dX1_turnOver_31 0 rfl ?_
      refine g_X1_rounds C h0 wd_70 dX1_turnOver_32 ?_
      refine v_iload C dX1_turnOver_35 3 rfl ?_
      refine v_iald C h0.2.2.2 h.1 dX1_turnOver_37 ?_
      have h := h.2
      refine v_ishl C dX1_turnOver_38 ?_
      refine v_ixor C dX1_turnOver_39 ?_
      refine p_X1_twists C h0 wd_51 dX1_turnOver_40 ?_
      have h := h _ rfl
      refine v_iinc C [(4, _), (0, _), (2, _), (3, _)] dX1_turnOver_43 3 rfl (by decide) rfl ?_
      refine v_goto C 19 dX1_turnOver_46 (by decide) ?_
      refine v_sub [1, 2, 3, 0] rfl ?_
      exact ih _ _ _ _ h
def X1_turnOver_b49 (r0 : Nat) (Q : Wd → Prop) (x2 : Int) (x3 : Int) (w : Wd) : Prop := X1_reverseRow r0 x2 x3 w (fun w4 => Q w4)
theorem t_X1_turnOver_b49 {Z : Zw} {E : Amb} {r0 : Nat} {Q : Wd → Prop} (C : Cx Z (adA Z) E cX1_turnOver "HandleFaces$Drawing" 5 rm_X1_turnOver) (R : Rt Z E none (qV Z Q)) (h0 : sX1 r0) : ∀ (x2 : Int) (x3 : Int) (w : Wd), X1_turnOver_b49 r0 Q x2 x3 w → V Z (adA Z) E 5 w 49 [(0, rv Z r0), (2, iv x2), (3, iv x3)] [] := by
  intro x2 x3 w h
  unfold X1_turnOver_b49 at h
  refine v_aload_n C dX1_turnOver_49 0 rfl ?_
  refine v_iload_n C dX1_turnOver_50 1 rfl ?_
  refine v_iload_n C dX1_turnOver_51 2 rfl ?_
  refine v_callv C (rn_V C _ (m_X1_reverseRow h0 h) mf_X1_reverseRow wd_668 wd_669 wd_667 rfl rfl ⟨(Nat.le_of_ble_eq_true rfl), (Nat.le_of_ble_eq_true rfl)⟩ h0.1 rfl rfl rfl (Nat.le_of_ble_eq_true rfl) dX1_turnOver_52) (fun w h => ?_)
  exact v_ret C R h dX1_turnOver_55
def X1_turnOver (r0 : Nat) (x1 : Int) (w : Wd) (Q : Wd → Prop) : Prop := (∀ y1, y1 = (x1 * 10) → (ix x1 6 ∧ (∀ y2, y2 = ((y1 + (rd w (r0 + 2) x1)) - 1) → (∃ m, X1_turnOver_l19 r0 Q (X1_turnOver_b49 r0 Q) m y1 y2 y1 w))))
theorem m_X1_turnOver {Z : Zw} {l : Launch} {r0 : Nat} {x1 : Int} {w : Wd} {Q : Wd → Prop} (h0 : sX1 r0) (h : X1_turnOver r0 x1 w Q) : CtQ Z l yX1_turnOver cX1_turnOver 5 none rm_X1_turnOver [rv Z r0, iv x1] w (qV Z Q) := by
  refine ct_of (by decide) (Nat.le_of_ble_eq_true rfl) (fun E eE C R => ?_)
  subst eE
  have C : Cx Z (adA Z) E cX1_turnOver "HandleFaces$Drawing" 5 rm_X1_turnOver := C
  unfold X1_turnOver at h
  show V Z (adA Z) E 5 w 0 [(0, rv Z r0), (1, iv x1)] []
  refine v_iload_n C dX1_turnOver_0 1 rfl ?_
  refine v_bipush C dX1_turnOver_1 (by decide) ?_
  refine v_imul C dX1_turnOver_3 ?_
  refine v_istore_n C [(2, _), (0, _), (1, _)] dX1_turnOver_4 2 rfl (by decide) rfl ?_
  have h := h _ rfl
  refine v_iload_n C dX1_turnOver_5 0 rfl ?_
  refine v_aload_n C dX1_turnOver_6 1 rfl ?_
  refine g_X1_degrees C h0 wd_62 dX1_turnOver_7 ?_
  refine v_iload_n C dX1_turnOver_10 2 rfl ?_
  refine v_iald C h0.2.2.1 h.1 dX1_turnOver_11 ?_
  have h := h.2
  refine v_iadd C dX1_turnOver_12 ?_
  refine v_iconst C dX1_turnOver_13 ?_
  refine v_isub C dX1_turnOver_14 ?_
  refine v_istore_n C [(3, _), (2, _), (0, _), (1, _)] dX1_turnOver_15 3 rfl (by decide) rfl ?_
  have h := h _ rfl
  refine v_iload_n C dX1_turnOver_16 1 rfl ?_
  refine v_istore C [(4, _), (3, _), (2, _), (0, _), (1, _)] dX1_turnOver_17 (by decide) rfl ?_
  refine v_sub [3, 2, 1, 0] rfl ?_
  obtain ⟨m, h⟩ := h
  exact t_X1_turnOver_l19 C R h0 (t_X1_turnOver_b49 C R h0) m _ _ _ _ h
abbrev rm_X1_swapWithNext : Room := { frames := 1, cells := 0, slots := 0, locals := 23 }
theorem mf_X1_swapWithNext : MfB yX1_swapWithNext cX1_swapWithNext 4 none 2 := ⟨wd_682, wd_2, by decide, by decide, by decide +kernel⟩
def X1_swapWithNext_b30 (r0 : Nat) (Q : Wd → Prop) (s0 : Int) (s1 : Int) (w : Wd) : Prop := X1_swap r0 s1 s0 w (fun w2 => Q w2)
theorem t_X1_swapWithNext_b30 {Z : Zw} {E : Amb} {r0 : Nat} {Q : Wd → Prop} (C : Cx Z (adA Z) E cX1_swapWithNext "HandleFaces$Drawing" 4 rm_X1_swapWithNext) (R : Rt Z E none (qV Z Q)) (h0 : sX1 r0) : ∀ (s0 : Int) (s1 : Int) (w : Wd), X1_swapWithNext_b30 r0 Q s0 s1 w → V Z (adA Z) E 4 w 30 [] [iv s0, iv s1, rv Z r0] := by
  intro s0 s1 w h
  unfold X1_swapWithNext_b30 at h
  refine v_callv C (rn_V C _ (m_X1_swap h0 h) mf_X1_swap wd_672 wd_673 wd_671 rfl rfl ⟨(Nat.le_of_ble_eq_true rfl), (Nat.le_of_ble_eq_true rfl)⟩ h0.1 rfl rfl rfl (Nat.le_of_ble_eq_true rfl) dX1_swapWithNext_30) (fun w h => ?_)
  exact v_ret C R h dX1_swapWithNext_33
def X1_swapWithNext (r0 : Nat) (x1 : Int) (x2 : Int) (w : Wd) (Q : Wd → Prop) : Prop := (∀ y1, y1 = (x1 * 10) → (ix x1 6 ∧ ((wr (x2 + 1) = wr (rd w (r0 + 2) x1) → X1_swapWithNext_b30 r0 Q y1 (y1 + x2) w) ∧ (¬ wr (x2 + 1) = wr (rd w (r0 + 2) x1) → X1_swapWithNext_b30 r0 Q ((y1 + x2) + 1) (y1 + x2) w))))
theorem m_X1_swapWithNext {Z : Zw} {l : Launch} {r0 : Nat} {x1 : Int} {x2 : Int} {w : Wd} {Q : Wd → Prop} (h0 : sX1 r0) (h : X1_swapWithNext r0 x1 x2 w Q) : CtQ Z l yX1_swapWithNext cX1_swapWithNext 4 none rm_X1_swapWithNext [rv Z r0, iv x1, iv x2] w (qV Z Q) := by
  refine ct_of (by decide) (Nat.le_of_ble_eq_true rfl) (fun E eE C R => ?_)
  subst eE
  have C : Cx Z (adA Z) E cX1_swapWithNext "HandleFaces$Drawing" 4 rm_X1_swapWithNext := C
  unfold X1_swapWithNext at h
  show V Z (adA Z) E 4 w 0 [(0, rv Z r0), (1, iv x1), (2, iv x2)] []
  refine v_iload_n C dX1_swapWithNext_0 1 rfl ?_
  refine v_bipush C dX1_swapWithNext_1 (by decide) ?_
  refine v_imul C dX1_swapWithNext_3 ?_
  refine v_istore_n C [(3, _), (0, _), (1, _), (2, _)] dX1_swapWithNext_4 3 rfl (by decide) rfl ?_
  have h := h _ rfl
  refine v_aload_n C dX1_swapWithNext_5 1 rfl ?_
  refine v_iload_n C dX1_swapWithNext_6 0 rfl ?_
  refine v_iload_n C dX1_swapWithNext_7 3 rfl ?_
  refine v_iadd C dX1_swapWithNext_8 ?_
  refine v_iload_n C dX1_swapWithNext_9 3 rfl ?_
  refine v_iconst C dX1_swapWithNext_10 ?_
  refine v_iadd C dX1_swapWithNext_11 ?_
  refine v_aload_n C dX1_swapWithNext_12 1 rfl ?_
  refine g_X1_degrees C h0 wd_62 dX1_swapWithNext_13 ?_
  refine v_iload_n C dX1_swapWithNext_16 2 rfl ?_
  refine v_iald C h0.2.2.1 h.1 dX1_swapWithNext_17 ?_
  have h := h.2
  refine v_icmp_ne C 25 dX1_swapWithNext_18 (by decide) (fun q => ?_) (fun q => ?_)
  · have h := h.2 q
    refine v_iload_n C dX1_swapWithNext_25 0 rfl ?_
    refine v_iload_n C dX1_swapWithNext_26 3 rfl ?_
    refine v_iadd C dX1_swapWithNext_27 ?_
    refine v_iconst C dX1_swapWithNext_28 ?_
    refine v_iadd C dX1_swapWithNext_29 ?_
    refine v_sub [] rfl ?_
    exact t_X1_swapWithNext_b30 C R h0 _ _ _ h
  · have h := h.1 q
    refine v_iload_n C dX1_swapWithNext_21 0 rfl ?_
    refine v_goto C 30 dX1_swapWithNext_22 (by decide) ?_
    refine v_sub [] rfl ?_
    exact t_X1_swapWithNext_b30 C R h0 _ _ _ h
abbrev rm_X1_closePostNumber : Room := { frames := 1, cells := 0, slots := 0, locals := 40 }
theorem mf_X1_closePostNumber : MfB yX1_closePostNumber cX1_closePostNumber 3 none 1 := ⟨wd_871, wd_2, by decide, by decide, by decide +kernel⟩
def X1_closePostNumber_l2 (r0 : Nat) (Q : Wd → Prop) (e55 : Int → Wd → Prop) : Nat → Int → Int → Wd → Prop
  | 0 => fun _ _ _ => False
  | n + 1 => fun x1 x2 w => ((wr (w r0 0) ≤ wr (x2 + 1) → e55 x1 w) ∧ (¬ wr (w r0 0) ≤ wr (x2 + 1) → (ix (x2 + 1) 6 ∧ (ix x2 6 ∧ (∀ w1, w1 = wt w (r0 + 2) x2 (rd w (r0 + 2) (x2 + 1)) → (cpk ((x2 + 1) * 10) (x2 * 10) 10 60 60 ∧ (∀ w2, w2 = cpy w1 (r0 + 3) (wr ((x2 + 1) * 10)).toNat (r0 + 3) (wr (x2 * 10)).toNat (wr 10).toNat → (X1_closePostNumber_l2 r0 Q e55 n) x1 (x2 + 1) w2)))))))
theorem t_X1_closePostNumber_l2 {Z : Zw} {E : Amb} {r0 : Nat} {Q : Wd → Prop} {e55 : Int → Wd → Prop} (C : Cx Z (adA Z) E cX1_closePostNumber "HandleFaces$Drawing" 3 rm_X1_closePostNumber) (R : Rt Z E none (qV Z Q)) (h0 : sX1 r0) (he55 : ∀ (x1 : Int) (w : Wd), e55 x1 w → V Z (adA Z) E 3 w 55 [(0, rv Z r0), (1, iv x1)] []) : ∀ (n : Nat) (x1 : Int) (x2 : Int) (w : Wd), X1_closePostNumber_l2 r0 Q e55 n x1 x2 w → V Z (adA Z) E 3 w 2 [(0, rv Z r0), (1, iv x1), (2, iv x2)] [] := by
  intro n
  induction n with
  | zero => intro x1 x2 w h; exact h.elim
  | succ n ih =>
    intro x1 x2 w h
    unfold X1_closePostNumber_l2 at h
    refine v_iload_n C dX1_closePostNumber_2 2 rfl ?_
    refine v_iconst C dX1_closePostNumber_3 ?_
    refine v_iadd C dX1_closePostNumber_4 ?_
    refine v_aload_n C dX1_closePostNumber_5 0 rfl ?_
    refine g_X1_posts C h0 wd_35 dX1_closePostNumber_6 ?_
    refine v_icmp_ge C 55 dX1_closePostNumber_9 (by decide) (fun q => ?_) (fun q => ?_)
    · have h := h.1 q
      refine v_sub [0, 1] rfl ?_
      exact he55 _ _ h
    · have h := h.2 q
      refine v_aload_n C dX1_closePostNumber_12 0 rfl ?_
      refine g_X1_degrees C h0 wd_62 dX1_closePostNumber_13 ?_
      refine v_iload_n C dX1_closePostNumber_16 2 rfl ?_
      refine v_aload_n C dX1_closePostNumber_17 0 rfl ?_
      refine g_X1_degrees C h0 wd_62 dX1_closePostNumber_18 ?_
      refine v_iload_n C dX1_closePostNumber_21 2 rfl ?_
      refine v_iconst C dX1_closePostNumber_22 ?_
      refine v_iadd C dX1_closePostNumber_23 ?_
      refine v_iald C h0.2.2.1 h.1 dX1_closePostNumber_24 ?_
      have h := h.2
      refine v_iast C h0.2.2.1 h.1 dX1_closePostNumber_25 ?_
      have h := h.2
      have h := h _ rfl
      refine v_aload_n C dX1_closePostNumber_26 0 rfl ?_
      refine g_X1_rounds C h0 wd_70 dX1_closePostNumber_27 ?_
      refine v_iload_n C dX1_closePostNumber_30 2 rfl ?_
      refine v_iconst C dX1_closePostNumber_31 ?_
      refine v_iadd C dX1_closePostNumber_32 ?_
      refine v_bipush C dX1_closePostNumber_33 (by decide) ?_
      refine v_imul C dX1_closePostNumber_35 ?_
      refine v_aload_n C dX1_closePostNumber_36 0 rfl ?_
      refine g_X1_rounds C h0 wd_70 dX1_closePostNumber_37 ?_
      refine v_iload_n C dX1_closePostNumber_40 2 rfl ?_
      refine v_bipush C dX1_closePostNumber_41 (by decide) ?_
      refine v_imul C dX1_closePostNumber_43 ?_
      refine v_bipush C dX1_closePostNumber_44 (by decide) ?_
      refine v_copy C h0.2.2.2 h0.2.2.2 h.1 wd_715 wd_573 wd_572 wd_18 (Nat.le_of_ble_eq_true rfl) (Nat.le_of_ble_eq_true rfl) dX1_closePostNumber_46 ?_
      have h := h.2
      have h := h _ rfl
      refine v_iinc C [(2, _), (0, _), (1, _)] dX1_closePostNumber_49 2 rfl (by decide) rfl ?_
      refine v_goto C 2 dX1_closePostNumber_52 (by decide) ?_
      refine v_sub [1, 2, 0] rfl ?_
      exact ih _ _ _ h
def X1_closePostNumber_l67 (r0 : Nat) (Q : Wd → Prop) (e103 : Wd → Prop) : Nat → Int → Int → Wd → Prop
  | 0 => fun _ _ _ => False
  | n + 1 => fun x1 x2 w => ((wr (2 * (w r0 1)) ≤ wr x2 → e103 w) ∧ (¬ wr (2 * (w r0 1)) ≤ wr x2 → (ix x2 20 ∧ ((wr (rd w (r0 + 1) x2) ≤ wr x1 → (X1_closePostNumber_l67 r0 Q e103 n) x1 (x2 + 1) w) ∧ (¬ wr (rd w (r0 + 1) x2) ≤ wr x1 → (ix x2 20 ∧ (ix x2 20 ∧ (∀ w4, w4 = wt w (r0 + 1) x2 ((rd w (r0 + 1) x2) - 1) → (X1_closePostNumber_l67 r0 Q e103 n) x1 (x2 + 1) w4))))))))
theorem t_X1_closePostNumber_l67 {Z : Zw} {E : Amb} {r0 : Nat} {Q : Wd → Prop} {e103 : Wd → Prop} (C : Cx Z (adA Z) E cX1_closePostNumber "HandleFaces$Drawing" 3 rm_X1_closePostNumber) (R : Rt Z E none (qV Z Q)) (h0 : sX1 r0) (he103 : ∀ (w : Wd), e103 w → V Z (adA Z) E 3 w 103 [] []) : ∀ (n : Nat) (x1 : Int) (x2 : Int) (w : Wd), X1_closePostNumber_l67 r0 Q e103 n x1 x2 w → V Z (adA Z) E 3 w 67 [(0, rv Z r0), (1, iv x1), (2, iv x2)] [] := by
  intro n
  induction n with
  | zero => intro x1 x2 w h; exact h.elim
  | succ n ih =>
    intro x1 x2 w h
    unfold X1_closePostNumber_l67 at h
    refine v_iload_n C dX1_closePostNumber_67 2 rfl ?_
    refine v_iconst C dX1_closePostNumber_68 ?_
    refine v_aload_n C dX1_closePostNumber_69 0 rfl ?_
    refine g_X1_lines C h0 wd_43 dX1_closePostNumber_70 ?_
    refine v_imul C dX1_closePostNumber_73 ?_
    refine v_icmp_ge C 103 dX1_closePostNumber_74 (by decide) (fun q => ?_) (fun q => ?_)
    · have h := h.1 q
      refine v_sub [] rfl ?_
      exact he103 _ h
    · have h := h.2 q
      refine v_aload_n C dX1_closePostNumber_77 0 rfl ?_
      refine g_X1_ends C h0 wd_57 dX1_closePostNumber_78 ?_
      refine v_iload_n C dX1_closePostNumber_81 2 rfl ?_
      refine v_iald C h0.2.1 h.1 dX1_closePostNumber_82 ?_
      have h := h.2
      refine v_iload_n C dX1_closePostNumber_83 1 rfl ?_
      refine v_icmp_le C 97 dX1_closePostNumber_84 (by decide) (fun q => ?_) (fun q => ?_)
      · have h := h.1 q
        refine v_iinc C [(2, _), (0, _), (1, _)] dX1_closePostNumber_97 2 rfl (by decide) rfl ?_
        refine v_goto C 67 dX1_closePostNumber_100 (by decide) ?_
        refine v_sub [1, 2, 0] rfl ?_
        exact ih _ _ _ h
      · have h := h.2 q
        refine v_aload_n C dX1_closePostNumber_87 0 rfl ?_
        refine g_X1_ends C h0 wd_57 dX1_closePostNumber_88 ?_
        refine v_iload_n C dX1_closePostNumber_91 2 rfl ?_
        refine v_dup2 C dX1_closePostNumber_92 rfl rfl ?_
        refine v_iald C h0.2.1 h.1 dX1_closePostNumber_93 ?_
        have h := h.2
        refine v_iconst C dX1_closePostNumber_94 ?_
        refine v_isub C dX1_closePostNumber_95 ?_
        refine v_iast C h0.2.1 h.1 dX1_closePostNumber_96 ?_
        have h := h.2
        have h := h _ rfl
        refine v_iinc C [(2, _), (0, _), (1, _)] dX1_closePostNumber_97 2 rfl (by decide) rfl ?_
        refine v_goto C 67 dX1_closePostNumber_100 (by decide) ?_
        refine v_sub [1, 2, 0] rfl ?_
        exact ih _ _ _ h
def X1_closePostNumber_b103 (r0 : Nat) (Q : Wd → Prop) (w : Wd) : Prop := Q w
theorem t_X1_closePostNumber_b103 {Z : Zw} {E : Amb} {r0 : Nat} {Q : Wd → Prop} (C : Cx Z (adA Z) E cX1_closePostNumber "HandleFaces$Drawing" 3 rm_X1_closePostNumber) (R : Rt Z E none (qV Z Q)) (h0 : sX1 r0) : ∀ (w : Wd), X1_closePostNumber_b103 r0 Q w → V Z (adA Z) E 3 w 103 [] [] := by
  intro w h
  unfold X1_closePostNumber_b103 at h
  exact v_ret C R h dX1_closePostNumber_103
def X1_closePostNumber_b55 (r0 : Nat) (Q : Wd → Prop) (x1 : Int) (w : Wd) : Prop := (∀ w3, w3 = up w r0 0 ((w r0 0) - 1) → (∃ m, X1_closePostNumber_l67 r0 Q (X1_closePostNumber_b103 r0 Q) m x1 0 w3))
theorem t_X1_closePostNumber_b55 {Z : Zw} {E : Amb} {r0 : Nat} {Q : Wd → Prop} (C : Cx Z (adA Z) E cX1_closePostNumber "HandleFaces$Drawing" 3 rm_X1_closePostNumber) (R : Rt Z E none (qV Z Q)) (h0 : sX1 r0) : ∀ (x1 : Int) (w : Wd), X1_closePostNumber_b55 r0 Q x1 w → V Z (adA Z) E 3 w 55 [(0, rv Z r0), (1, iv x1)] [] := by
  intro x1 w h
  unfold X1_closePostNumber_b55 at h
  refine v_aload_n C dX1_closePostNumber_55 0 rfl ?_
  refine v_dup C dX1_closePostNumber_56 rfl ?_
  refine g_X1_posts C h0 wd_35 dX1_closePostNumber_57 ?_
  refine v_iconst C dX1_closePostNumber_60 ?_
  refine v_isub C dX1_closePostNumber_61 ?_
  refine p_X1_posts C h0 wd_35 dX1_closePostNumber_62 ?_
  have h := h _ rfl
  refine v_iconst C dX1_closePostNumber_65 ?_
  refine v_istore_n C [(2, _), (0, _), (1, _)] dX1_closePostNumber_66 2 rfl (by decide) rfl ?_
  refine v_sub [1, 2, 0] rfl ?_
  obtain ⟨m, h⟩ := h
  exact t_X1_closePostNumber_l67 C R h0 (t_X1_closePostNumber_b103 C R h0) m _ _ _ h
def X1_closePostNumber (r0 : Nat) (x1 : Int) (w : Wd) (Q : Wd → Prop) : Prop := (∃ m, X1_closePostNumber_l2 r0 Q (X1_closePostNumber_b55 r0 Q) m x1 x1 w)
theorem m_X1_closePostNumber {Z : Zw} {l : Launch} {r0 : Nat} {x1 : Int} {w : Wd} {Q : Wd → Prop} (h0 : sX1 r0) (h : X1_closePostNumber r0 x1 w Q) : CtQ Z l yX1_closePostNumber cX1_closePostNumber 3 none rm_X1_closePostNumber [rv Z r0, iv x1] w (qV Z Q) := by
  refine ct_of (by decide) (Nat.le_of_ble_eq_true rfl) (fun E eE C R => ?_)
  subst eE
  have C : Cx Z (adA Z) E cX1_closePostNumber "HandleFaces$Drawing" 3 rm_X1_closePostNumber := C
  unfold X1_closePostNumber at h
  show V Z (adA Z) E 3 w 0 [(0, rv Z r0), (1, iv x1)] []
  refine v_iload_n C dX1_closePostNumber_0 1 rfl ?_
  refine v_istore_n C [(2, _), (0, _), (1, _)] dX1_closePostNumber_1 2 rfl (by decide) rfl ?_
  refine v_sub [1, 2, 0] rfl ?_
  obtain ⟨m, h⟩ := h
  exact t_X1_closePostNumber_l2 C R h0 (t_X1_closePostNumber_b55 C R h0) m _ _ _ h
abbrev rm_X1_contract : Room := { frames := 3, cells := 0, slots := 0, locals := 71 }
theorem mf_X1_contract : MfB yX1_contract cX1_contract 10 none 1 := ⟨wd_861, wd_2, by decide, by decide, by decide +kernel⟩
def X1_contract_b93 (r0 : Nat) (Q : Wd → Prop) (c60 : Int → Int → Int → Int → Int → Int → Int → Wd → Prop) (e137 : Int → Int → Wd → Prop) (x1 : Int) (x2 : Int) (x3 : Int) (x4 : Int) (x5 : Int) (x6 : Int) (x7 : Int) (s0 : Int) (w : Wd) : Prop := X1_lineAt r0 x3 s0 w (fun y11 w10 => X1_armAt r0 x3 s0 w10 (fun y13 w12 => (ix y13 20 ∧ (∀ w14, w14 = wt w12 (r0 + 1) y13 x2 → X1_insertAt r0 x2 ((x4 + x7) - 1) y11 w14 (fun w15 => c60 x1 x2 x3 x4 x5 x6 (x7 + 1) w15)))))
theorem t_X1_contract_b93 {Z : Zw} {E : Amb} {r0 : Nat} {Q : Wd → Prop} {c60 : Int → Int → Int → Int → Int → Int → Int → Wd → Prop} {e137 : Int → Int → Wd → Prop} (C : Cx Z (adA Z) E cX1_contract "HandleFaces$Drawing" 10 rm_X1_contract) (R : Rt Z E none (qV Z Q)) (h0 : sX1 r0) (hc60 : ∀ (x1 : Int) (x2 : Int) (x3 : Int) (x4 : Int) (x5 : Int) (x6 : Int) (x7 : Int) (w : Wd), c60 x1 x2 x3 x4 x5 x6 x7 w → V Z (adA Z) E 10 w 60 [(0, rv Z r0), (1, iv x1), (2, iv x2), (3, iv x3), (4, iv x4), (5, iv x5), (6, iv x6), (7, iv x7)] []) (he137 : ∀ (x1 : Int) (x3 : Int) (w : Wd), e137 x1 x3 w → V Z (adA Z) E 10 w 137 [(0, rv Z r0), (1, iv x1), (3, iv x3)] []) : ∀ (x1 : Int) (x2 : Int) (x3 : Int) (x4 : Int) (x5 : Int) (x6 : Int) (x7 : Int) (s0 : Int) (w : Wd), X1_contract_b93 r0 Q c60 e137 x1 x2 x3 x4 x5 x6 x7 s0 w → V Z (adA Z) E 10 w 93 [(0, rv Z r0), (1, iv x1), (2, iv x2), (3, iv x3), (4, iv x4), (5, iv x5), (6, iv x6), (7, iv x7)] [iv s0] := by
  intro x1 x2 x3 x4 x5 x6 x7 s0 w h
  unfold X1_contract_b93 at h
  refine v_istore C [(8, _), (0, _), (1, _), (2, _), (3, _), (4, _), (5, _), (6, _), (7, _)] dX1_contract_93 (by decide) rfl ?_
  refine v_aload_n C dX1_contract_95 1 rfl ?_
  refine v_iload_n C dX1_contract_96 4 rfl ?_
  refine v_iload C dX1_contract_97 0 rfl ?_
  refine v_calli C (rn_V C _ (m_X1_lineAt h0 h) mf_X1_lineAt wd_647 wd_648 wd_646 rfl rfl ⟨(Nat.le_of_ble_eq_true rfl), (Nat.le_of_ble_eq_true rfl)⟩ h0.1 rfl rfl rfl (Nat.le_of_ble_eq_true rfl) dX1_contract_99) (fun r w h => ?_)
  refine v_istore C [(9, _), (8, _), (0, _), (1, _), (2, _), (3, _), (4, _), (5, _), (6, _), (7, _)] dX1_contract_102 (by decide) rfl ?_
  refine v_aload_n C dX1_contract_104 2 rfl ?_
  refine g_X1_ends C h0 wd_57 dX1_contract_105 ?_
  refine v_aload_n C dX1_contract_108 2 rfl ?_
  refine v_iload_n C dX1_contract_109 5 rfl ?_
  refine v_iload C dX1_contract_110 1 rfl ?_
  refine v_calli C (rn_V C _ (m_X1_armAt h0 h) mf_X1_armAt wd_726 wd_727 wd_867 rfl rfl ⟨(Nat.le_of_ble_eq_true rfl), (Nat.le_of_ble_eq_true rfl)⟩ h0.1 rfl rfl rfl (Nat.le_of_ble_eq_true rfl) dX1_contract_112) (fun r w h => ?_)
  refine v_iload_n C dX1_contract_115 4 rfl ?_
  refine v_iast C h0.2.1 h.1 dX1_contract_116 ?_
  have h := h.2
  have h := h _ rfl
  refine v_aload_n C dX1_contract_117 2 rfl ?_
  refine v_iload_n C dX1_contract_118 4 rfl ?_
  refine v_iload C dX1_contract_119 6 rfl ?_
  refine v_iload C dX1_contract_121 9 rfl ?_
  refine v_iadd C dX1_contract_123 ?_
  refine v_iconst C dX1_contract_124 ?_
  refine v_isub C dX1_contract_125 ?_
  refine v_iload C dX1_contract_126 0 rfl ?_
  refine v_callv C (rn_V C _ (m_X1_insertAt h0 h) mf_X1_insertAt wd_582 wd_583 wd_581 rfl rfl ⟨(Nat.le_of_ble_eq_true rfl), (Nat.le_of_ble_eq_true rfl)⟩ h0.1 rfl rfl rfl (Nat.le_of_ble_eq_true rfl) dX1_contract_128) (fun w h => ?_)
  refine v_iinc C [(7, _), (9, _), (8, _), (0, _), (1, _), (2, _), (3, _), (4, _), (5, _), (6, _)] dX1_contract_131 9 rfl (by decide) rfl ?_
  refine v_goto C 60 dX1_contract_134 (by decide) ?_
  refine v_sub [3, 4, 5, 6, 7, 8, 9, 0] rfl ?_
  exact hc60 _ _ _ _ _ _ _ _ h
def X1_contract_l60 (r0 : Nat) (Q : Wd → Prop) (e137 : Int → Int → Wd → Prop) : Nat → Int → Int → Int → Int → Int → Int → Int → Wd → Prop
  | 0 => fun _ _ _ _ _ _ _ _ => False
  | n + 1 => fun x1 x2 x3 x4 x5 x6 x7 w => ((wr x6 ≤ wr x7 → e137 x1 x3 w) ∧ (¬ wr x6 ≤ wr x7 → ((wr x6 ≤ wr (x5 + x7) → X1_contract_b93 r0 Q (X1_contract_l60 r0 Q e137 n) e137 x1 x2 x3 x4 x5 x6 x7 ((x5 + x7) - x6) w) ∧ (¬ wr x6 ≤ wr (x5 + x7) → X1_contract_b93 r0 Q (X1_contract_l60 r0 Q e137 n) e137 x1 x2 x3 x4 x5 x6 x7 (x5 + x7) w))))
theorem t_X1_contract_l60 {Z : Zw} {E : Amb} {r0 : Nat} {Q : Wd → Prop} {e137 : Int → Int → Wd → Prop} (C : Cx Z (adA Z) E cX1_contract "HandleFaces$Drawing" 10 rm_X1_contract) (R : Rt Z E none (qV Z Q)) (h0 : sX1 r0) (he137 : ∀ (x1 : Int) (x3 : Int) (w : Wd), e137 x1 x3 w → V Z (adA Z) E 10 w 137 [(0, rv Z r0), (1, iv x1), (3, iv x3)] []) : ∀ (n : Nat) (x1 : Int) (x2 : Int) (x3 : Int) (x4 : Int) (x5 : Int) (x6 : Int) (x7 : Int) (w : Wd), X1_contract_l60 r0 Q e137 n x1 x2 x3 x4 x5 x6 x7 w → V Z (adA Z) E 10 w 60 [(0, rv Z r0), (1, iv x1), (2, iv x2), (3, iv x3), (4, iv x4), (5, iv x5), (6, iv x6), (7, iv x7)] [] := by
  intro n
  induction n with
  | zero => intro x1 x2 x3 x4 x5 x6 x7 w h; exact h.elim
  | succ n ih =>
    intro x1 x2 x3 x4 x5 x6 x7 w h
    unfold X1_contract_l60 at h
    refine v_iload C dX1_contract_60 7 rfl ?_
    refine v_iload C dX1_contract_62 6 rfl ?_
    refine v_icmp_ge C 137 dX1_contract_64 (by decide) (fun q => ?_) (fun q => ?_)
    · have h := h.1 q
      refine v_sub [0, 1, 3] rfl ?_
      exact he137 _ _ _ h
    · have h := h.2 q
      refine v_iload C dX1_contract_67 5 rfl ?_
      refine v_iload C dX1_contract_69 7 rfl ?_
      refine v_iadd C dX1_contract_71 ?_
      refine v_iload C dX1_contract_72 6 rfl ?_
      refine v_icmp_ge C 85 dX1_contract_74 (by decide) (fun q => ?_) (fun q => ?_)
      · have h := h.1 q
        refine v_iload C dX1_contract_85 5 rfl ?_
        refine v_iload C dX1_contract_87 7 rfl ?_
        refine v_iadd C dX1_contract_89 ?_
        refine v_iload C dX1_contract_90 6 rfl ?_
        refine v_isub C dX1_contract_92 ?_
        exact t_X1_contract_b93 C R h0 ih he137 _ _ _ _ _ _ _ _ _ h
      · have h := h.2 q
        refine v_iload C dX1_contract_77 5 rfl ?_
        refine v_iload C dX1_contract_79 7 rfl ?_
        refine v_iadd C dX1_contract_81 ?_
        refine v_goto C 93 dX1_contract_82 (by decide) ?_
        exact t_X1_contract_b93 C R h0 ih he137 _ _ _ _ _ _ _ _ _ h
def X1_contract_b137 (r0 : Nat) (Q : Wd → Prop) (x1 : Int) (x3 : Int) (w : Wd) : Prop := X1_closeLineNumber r0 x1 w (fun w16 => X1_closePostNumber r0 x3 w16 (fun w17 => Q w17))
theorem t_X1_contract_b137 {Z : Zw} {E : Amb} {r0 : Nat} {Q : Wd → Prop} (C : Cx Z (adA Z) E cX1_contract "HandleFaces$Drawing" 10 rm_X1_contract) (R : Rt Z E none (qV Z Q)) (h0 : sX1 r0) : ∀ (x1 : Int) (x3 : Int) (w : Wd), X1_contract_b137 r0 Q x1 x3 w → V Z (adA Z) E 10 w 137 [(0, rv Z r0), (1, iv x1), (3, iv x3)] [] := by
  intro x1 x3 w h
  unfold X1_contract_b137 at h
  refine v_aload_n C dX1_contract_137 0 rfl ?_
  refine v_iload_n C dX1_contract_138 1 rfl ?_
  refine v_callv C (rn_V C _ (m_X1_closeLineNumber h0 h) mf_X1_closeLineNumber wd_652 wp_20 wd_650 rfl rfl ⟨(Nat.le_of_ble_eq_true rfl), (Nat.le_of_ble_eq_true rfl)⟩ h0.1 rfl rfl rfl (Nat.le_of_ble_eq_true rfl) dX1_contract_139) (fun w h => ?_)
  refine v_aload_n C dX1_contract_142 0 rfl ?_
  refine v_iload_n C dX1_contract_143 2 rfl ?_
  refine v_callv C (rn_V C _ (m_X1_closePostNumber h0 h) mf_X1_closePostNumber wd_870 wp_35 wd_868 rfl rfl ⟨(Nat.le_of_ble_eq_true rfl), (Nat.le_of_ble_eq_true rfl)⟩ h0.1 rfl rfl rfl (Nat.le_of_ble_eq_true rfl) dX1_contract_144) (fun w h => ?_)
  exact v_ret C R h dX1_contract_147
def X1_contract_b33 (r0 : Nat) (Q : Wd → Prop) (x1 : Int) (x2 : Int) (x3 : Int) (w : Wd) : Prop := X1_takeOut r0 x2 x1 w (fun y6 w5 => X1_placeOf r0 x3 x1 w5 (fun y8 w7 => (ix x3 6 ∧ (∀ y9, y9 = (rd w7 (r0 + 2) x3) → (∃ m, X1_contract_l60 r0 Q (X1_contract_b137 r0 Q) m x1 x2 x3 y6 y8 y9 1 w7)))))
theorem t_X1_contract_b33 {Z : Zw} {E : Amb} {r0 : Nat} {Q : Wd → Prop} (C : Cx Z (adA Z) E cX1_contract "HandleFaces$Drawing" 10 rm_X1_contract) (R : Rt Z E none (qV Z Q)) (h0 : sX1 r0) : ∀ (x1 : Int) (x2 : Int) (x3 : Int) (w : Wd), X1_contract_b33 r0 Q x1 x2 x3 w → V Z (adA Z) E 10 w 33 [(0, rv Z r0), (1, iv x1), (2, iv x2), (3, iv x3)] [] := by
  intro x1 x2 x3 w h
  unfold X1_contract_b33 at h
  refine v_aload_n C dX1_contract_33 0 rfl ?_
  refine v_iload_n C dX1_contract_34 2 rfl ?_
  refine v_iload_n C dX1_contract_35 1 rfl ?_
  refine v_calli C (rn_V C _ (m_X1_takeOut h0 h) mf_X1_takeOut wd_640 wp_18 wd_638 rfl rfl ⟨(Nat.le_of_ble_eq_true rfl), (Nat.le_of_ble_eq_true rfl)⟩ h0.1 rfl rfl rfl (Nat.le_of_ble_eq_true rfl) dX1_contract_36) (fun r w h => ?_)
  refine v_istore C [(4, _), (0, _), (1, _), (2, _), (3, _)] dX1_contract_39 (by decide) rfl ?_
  refine v_aload_n C dX1_contract_41 1 rfl ?_
  refine v_iload_n C dX1_contract_42 4 rfl ?_
  refine v_iload_n C dX1_contract_43 2 rfl ?_
  refine v_calli C (rn_V C _ (m_X1_placeOf h0 h) mf_X1_placeOf wd_644 wp_19 wd_642 rfl rfl ⟨(Nat.le_of_ble_eq_true rfl), (Nat.le_of_ble_eq_true rfl)⟩ h0.1 rfl rfl rfl (Nat.le_of_ble_eq_true rfl) dX1_contract_44) (fun r w h => ?_)
  refine v_istore C [(5, _), (4, _), (0, _), (1, _), (2, _), (3, _)] dX1_contract_47 (by decide) rfl ?_
  refine v_aload_n C dX1_contract_49 2 rfl ?_
  refine g_X1_degrees C h0 wd_62 dX1_contract_50 ?_
  refine v_iload_n C dX1_contract_53 5 rfl ?_
  refine v_iald C h0.2.2.1 h.1 dX1_contract_54 ?_
  have h := h.2
  refine v_istore C [(6, _), (5, _), (4, _), (0, _), (1, _), (2, _), (3, _)] dX1_contract_55 (by decide) rfl ?_
  have h := h _ rfl
  refine v_iconst C dX1_contract_57 ?_
  refine v_istore C [(7, _), (6, _), (5, _), (4, _), (0, _), (1, _), (2, _), (3, _)] dX1_contract_58 (by decide) rfl ?_
  refine v_sub [4, 5, 6, 7, 3, 2, 1, 0] rfl ?_
  obtain ⟨m, h⟩ := h
  exact t_X1_contract_l60 C R h0 (t_X1_contract_b137 C R h0) m _ _ _ _ _ _ _ _ h
def X1_contract (r0 : Nat) (x1 : Int) (w : Wd) (Q : Wd → Prop) : Prop := (ix (2 * x1) 20 ∧ (∀ y1, y1 = (rd w (r0 + 1) (2 * x1)) → (ix ((2 * x1) + 1) 20 ∧ (∀ y2, y2 = (rd w (r0 + 1) ((2 * x1) + 1)) → X1_isTwisted r0 x1 w (fun y4 w3 => ((wr y4 = 0 → X1_contract_b33 r0 Q x1 y1 y2 w3) ∧ (¬ wr y4 = 0 → X1_turnOver r0 y2 w3 (fun w18 => X1_contract_b33 r0 Q x1 y1 y2 w18))))))))
theorem m_X1_contract {Z : Zw} {l : Launch} {r0 : Nat} {x1 : Int} {w : Wd} {Q : Wd → Prop} (h0 : sX1 r0) (h : X1_contract r0 x1 w Q) : CtQ Z l yX1_contract cX1_contract 10 none rm_X1_contract [rv Z r0, iv x1] w (qV Z Q) := by
  refine ct_of (by decide) (Nat.le_of_ble_eq_true rfl) (fun E eE C R => ?_)
  subst eE
  have C : Cx Z (adA Z) E cX1_contract "HandleFaces$Drawing" 10 rm_X1_contract := C
  unfold X1_contract at h
  show V Z (adA Z) E 10 w 0 [(0, rv Z r0), (1, iv x1)] []
  refine v_aload_n C dX1_contract_0 0 rfl ?_
  refine g_X1_ends C h0 wd_57 dX1_contract_1 ?_
  refine v_iconst C dX1_contract_4 ?_
  refine v_iload_n C dX1_contract_5 1 rfl ?_
  refine v_imul C dX1_contract_6 ?_
  refine v_iald C h0.2.1 h.1 dX1_contract_7 ?_
  have h := h.2
  refine v_istore_n C [(2, _), (0, _), (1, _)] dX1_contract_8 2 rfl (by decide) rfl ?_
  have h := h _ rfl
  refine v_aload_n C dX1_contract_9 1 rfl ?_
  refine g_X1_ends C h0 wd_57 dX1_contract_10 ?_
  refine v_iconst C dX1_contract_13 ?_
  refine v_iload_n C dX1_contract_14 2 rfl ?_
  refine v_imul C dX1_contract_15 ?_
  refine v_iconst C dX1_contract_16 ?_
  refine v_iadd C dX1_contract_17 ?_
  refine v_iald C h0.2.1 h.1 dX1_contract_18 ?_
  have h := h.2
  refine v_istore_n C [(3, _), (2, _), (0, _), (1, _)] dX1_contract_19 3 rfl (by decide) rfl ?_
  have h := h _ rfl
  refine v_aload_n C dX1_contract_20 2 rfl ?_
  refine v_iload_n C dX1_contract_21 3 rfl ?_
  refine v_calli C (rn_V C _ (m_X1_isTwisted h0 h) mf_X1_isTwisted wd_863 wd_864 wd_862 rfl rfl ⟨(Nat.le_of_ble_eq_true rfl), (Nat.le_of_ble_eq_true rfl)⟩ h0.1 rfl rfl rfl (Nat.le_of_ble_eq_true rfl) dX1_contract_22) (fun r w h => ?_)
  refine v_if_eq C 33 dX1_contract_25 (by decide) (fun q => ?_) (fun q => ?_)
  · have h := h.1 q
    refine v_sub [2, 3, 1, 0] rfl ?_
    exact t_X1_contract_b33 C R h0 _ _ _ _ h
  · have h := h.2 q
    refine v_aload_n C dX1_contract_28 2 rfl ?_
    refine v_iload_n C dX1_contract_29 0 rfl ?_
    refine v_callv C (rn_V C _ (m_X1_turnOver h0 h) mf_X1_turnOver wd_664 wd_665 wd_866 rfl rfl ⟨(Nat.le_of_ble_eq_true rfl), (Nat.le_of_ble_eq_true rfl)⟩ h0.1 rfl rfl rfl (Nat.le_of_ble_eq_true rfl) dX1_contract_30) (fun w h => ?_)
    refine v_sub [2, 3, 1, 0] rfl ?_
    exact t_X1_contract_b33 C R h0 _ _ _ _ h
abbrev rm_J7_fill_53178 : Room := { frames := 0, cells := 0, slots := 0, locals := 0 }
theorem mf_J7_fill_53178 : MfB yJ7_fill_53178 cJ7_fill_53178 4 none 2 := ⟨wd_580, wd_19, by decide, by decide, by decide +kernel⟩
def J7_fill_53178_l5 (r0 : Nat) (Q : Wd → Prop) (e20 : Wd → Prop) : Nat → Int → Int → Int → Wd → Prop
  | 0 => fun _ _ _ _ => False
  | n + 1 => fun x1 x2 x3 w => ((wr x3 ≤ wr x2 → e20 w) ∧ (¬ wr x3 ≤ wr x2 → (ix x2 (aln r0) ∧ (∀ w2, w2 = wt w r0 x2 x1 → (J7_fill_53178_l5 r0 Q e20 n) x1 (x2 + 1) x3 w2))))
theorem t_J7_fill_53178_l5 {Z : Zw} {E : Amb} {r0 : Nat} {Q : Wd → Prop} {e20 : Wd → Prop} (C : Cx Z (adA Z) E cJ7_fill_53178 "java/util/Arrays" 4 rm_J7_fill_53178) (R : Rt Z E none (qV Z Q)) (h0 : shp r0 = (1, (aln r0), [])) (he20 : ∀ (w : Wd), e20 w → V Z (adA Z) E 4 w 20 [] []) : ∀ (n : Nat) (x1 : Int) (x2 : Int) (x3 : Int) (w : Wd), J7_fill_53178_l5 r0 Q e20 n x1 x2 x3 w → V Z (adA Z) E 4 w 5 [(0, rv Z r0), (1, iv x1), (2, iv x2), (3, iv x3)] [] := by
  intro n
  induction n with
  | zero => intro x1 x2 x3 w h; exact h.elim
  | succ n ih =>
    intro x1 x2 x3 w h
    unfold J7_fill_53178_l5 at h
    refine v_iload_n C dJ7_fill_53178_5 2 rfl ?_
    refine v_iload_n C dJ7_fill_53178_6 3 rfl ?_
    refine v_icmp_ge C 20 dJ7_fill_53178_7 (by decide) (fun q => ?_) (fun q => ?_)
    · have h := h.1 q
      refine v_sub [] rfl ?_
      exact he20 _ h
    · have h := h.2 q
      refine v_aload_n C dJ7_fill_53178_10 0 rfl ?_
      refine v_iload_n C dJ7_fill_53178_11 2 rfl ?_
      refine v_iload_n C dJ7_fill_53178_12 1 rfl ?_
      refine v_iast C h0 h.1 dJ7_fill_53178_13 ?_
      have h := h.2
      have h := h _ rfl
      refine v_iinc C [(2, _), (0, _), (1, _), (3, _)] dJ7_fill_53178_14 2 rfl (by decide) rfl ?_
      refine v_goto C 5 dJ7_fill_53178_17 (by decide) ?_
      refine v_sub [1, 2, 0, 3] rfl ?_
      exact ih _ _ _ _ h
def J7_fill_53178_b20 (r0 : Nat) (Q : Wd → Prop) (w : Wd) : Prop := Q w
theorem t_J7_fill_53178_b20 {Z : Zw} {E : Amb} {r0 : Nat} {Q : Wd → Prop} (C : Cx Z (adA Z) E cJ7_fill_53178 "java/util/Arrays" 4 rm_J7_fill_53178) (R : Rt Z E none (qV Z Q)) (h0 : shp r0 = (1, (aln r0), [])) : ∀ (w : Wd), J7_fill_53178_b20 r0 Q w → V Z (adA Z) E 4 w 20 [] [] := by
  intro w h
  unfold J7_fill_53178_b20 at h
  exact v_ret C R h dJ7_fill_53178_20
def J7_fill_53178 (r0 : Nat) (x1 : Int) (w : Wd) (Q : Wd → Prop) : Prop := (∀ y1, y1 = ((aln r0) : Nat) → (∃ m, J7_fill_53178_l5 r0 Q (J7_fill_53178_b20 r0 Q) m x1 0 y1 w))
theorem m_J7_fill_53178 {Z : Zw} {l : Launch} {r0 : Nat} {x1 : Int} {w : Wd} {Q : Wd → Prop} (h0 : shp r0 = (1, (aln r0), [])) (h : J7_fill_53178 r0 x1 w Q) : CtQ Z l yJ7_fill_53178 cJ7_fill_53178 4 none rm_J7_fill_53178 [rv Z r0, iv x1] w (qV Z Q) := by
  refine ct_of (by decide) (Nat.le_of_ble_eq_true rfl) (fun E eE C R => ?_)
  subst eE
  have C : Cx Z (adA Z) E cJ7_fill_53178 "java/util/Arrays" 4 rm_J7_fill_53178 := C
  unfold J7_fill_53178 at h
  show V Z (adA Z) E 4 w 0 [(0, rv Z r0), (1, iv x1)] []
  refine v_iconst C dJ7_fill_53178_0 ?_
  refine v_istore_n C [(2, _), (0, _), (1, _)] dJ7_fill_53178_1 2 rfl (by decide) rfl ?_
  refine v_aload_n C dJ7_fill_53178_2 1 rfl ?_
  refine v_alenI C h0 dJ7_fill_53178_3 ?_
  refine v_istore_n C [(3, _), (2, _), (0, _), (1, _)] dJ7_fill_53178_4 3 rfl (by decide) rfl ?_
  have h := h _ rfl
  refine v_sub [2, 3, 1, 0] rfl ?_
  obtain ⟨m, h⟩ := h
  exact t_J7_fill_53178_l5 C R h0 (t_J7_fill_53178_b20 C R h0) m _ _ _ _ h
abbrev rm_X1_orderByNumber : Room := { frames := 1, cells := 0, slots := 0, locals := 26 }
theorem mf_X1_orderByNumber : MfB yX1_orderByNumber cX1_orderByNumber 2 none 0 := ⟨wd_577, wd_2, by decide, by decide, by decide +kernel⟩
def X1_orderByNumber_l10 (r0 : Nat) (Q : Wd → Prop) (e50 : Wd → Prop) : Nat → Int → Wd → Prop
  | 0 => fun _ _ => False
  | n + 1 => fun x1 w => ((wr (2 * (w r0 1)) ≤ wr x1 → e50 w) ∧ (¬ wr (2 * (w r0 1)) ≤ wr x1 → (ix x1 20 ∧ (ix x1 20 ∧ (ix (rd w (r0 + 1) x1) 6 ∧ X1_insertAt r0 (rd w (r0 + 1) x1) (rd w (r0 + 2) (rd w (r0 + 1) x1)) (isr x1 1) w (fun w2 => (X1_orderByNumber_l10 r0 Q e50 n) (x1 + 1) w2))))))
theorem t_X1_orderByNumber_l10 {Z : Zw} {E : Amb} {r0 : Nat} {Q : Wd → Prop} {e50 : Wd → Prop} (C : Cx Z (adA Z) E cX1_orderByNumber "HandleFaces$Drawing" 2 rm_X1_orderByNumber) (R : Rt Z E none (qV Z Q)) (h0 : sX1 r0) (he50 : ∀ (w : Wd), e50 w → V Z (adA Z) E 2 w 50 [] []) : ∀ (n : Nat) (x1 : Int) (w : Wd), X1_orderByNumber_l10 r0 Q e50 n x1 w → V Z (adA Z) E 2 w 10 [(0, rv Z r0), (1, iv x1)] [] := by
  intro n
  induction n with
  | zero => intro x1 w h; exact h.elim
  | succ n ih =>
    intro x1 w h
    unfold X1_orderByNumber_l10 at h
    refine v_iload_n C dX1_orderByNumber_10 1 rfl ?_
    refine v_iconst C dX1_orderByNumber_11 ?_
    refine v_aload_n C dX1_orderByNumber_12 0 rfl ?_
    refine g_X1_lines C h0 wd_43 dX1_orderByNumber_13 ?_
    refine v_imul C dX1_orderByNumber_16 ?_
    refine v_icmp_ge C 50 dX1_orderByNumber_17 (by decide) (fun q => ?_) (fun q => ?_)
    · have h := h.1 q
      refine v_sub [] rfl ?_
      exact he50 _ h
    · have h := h.2 q
      refine v_aload_n C dX1_orderByNumber_20 0 rfl ?_
      refine v_aload_n C dX1_orderByNumber_21 0 rfl ?_
      refine g_X1_ends C h0 wd_57 dX1_orderByNumber_22 ?_
      refine v_iload_n C dX1_orderByNumber_25 1 rfl ?_
      refine v_iald C h0.2.1 h.1 dX1_orderByNumber_26 ?_
      have h := h.2
      refine v_aload_n C dX1_orderByNumber_27 0 rfl ?_
      refine g_X1_degrees C h0 wd_62 dX1_orderByNumber_28 ?_
      refine v_aload_n C dX1_orderByNumber_31 0 rfl ?_
      refine g_X1_ends C h0 wd_57 dX1_orderByNumber_32 ?_
      refine v_iload_n C dX1_orderByNumber_35 1 rfl ?_
      refine v_iald C h0.2.1 h.1 dX1_orderByNumber_36 ?_
      have h := h.2
      refine v_iald C h0.2.2.1 h.1 dX1_orderByNumber_37 ?_
      have h := h.2
      refine v_iload_n C dX1_orderByNumber_38 1 rfl ?_
      refine v_iconst C dX1_orderByNumber_39 ?_
      refine v_ishr C dX1_orderByNumber_40 ?_
      refine v_callv C (rn_V C _ (m_X1_insertAt h0 h) mf_X1_insertAt wd_582 wd_583 wd_581 rfl rfl ⟨(Nat.le_of_ble_eq_true rfl), (Nat.le_of_ble_eq_true rfl)⟩ h0.1 rfl rfl rfl (Nat.le_of_ble_eq_true rfl) dX1_orderByNumber_41) (fun w h => ?_)
      refine v_iinc C [(1, _), (0, _)] dX1_orderByNumber_44 1 rfl (by decide) rfl ?_
      refine v_goto C 10 dX1_orderByNumber_47 (by decide) ?_
      refine v_sub [1, 0] rfl ?_
      exact ih _ _ h
def X1_orderByNumber_b50 (r0 : Nat) (Q : Wd → Prop) (w : Wd) : Prop := Q w
theorem t_X1_orderByNumber_b50 {Z : Zw} {E : Amb} {r0 : Nat} {Q : Wd → Prop} (C : Cx Z (adA Z) E cX1_orderByNumber "HandleFaces$Drawing" 2 rm_X1_orderByNumber) (R : Rt Z E none (qV Z Q)) (h0 : sX1 r0) : ∀ (w : Wd), X1_orderByNumber_b50 r0 Q w → V Z (adA Z) E 2 w 50 [] [] := by
  intro w h
  unfold X1_orderByNumber_b50 at h
  exact v_ret C R h dX1_orderByNumber_50
def X1_orderByNumber (r0 : Nat) (w : Wd) (Q : Wd → Prop) : Prop := J7_fill_53178 (r0 + 2) 0 w (fun w1 => (∃ m, X1_orderByNumber_l10 r0 Q (X1_orderByNumber_b50 r0 Q) m 0 w1))
theorem m_X1_orderByNumber {Z : Zw} {l : Launch} {r0 : Nat} {w : Wd} {Q : Wd → Prop} (h0 : sX1 r0) (h : X1_orderByNumber r0 w Q) : CtQ Z l yX1_orderByNumber cX1_orderByNumber 2 none rm_X1_orderByNumber [rv Z r0] w (qV Z Q) := by
  refine ct_of (by decide) (Nat.le_of_ble_eq_true rfl) (fun E eE C R => ?_)
  subst eE
  have C : Cx Z (adA Z) E cX1_orderByNumber "HandleFaces$Drawing" 2 rm_X1_orderByNumber := C
  unfold X1_orderByNumber at h
  show V Z (adA Z) E 2 w 0 [(0, rv Z r0)] []
  refine v_aload_n C dX1_orderByNumber_0 0 rfl ?_
  refine g_X1_degrees C h0 wd_62 dX1_orderByNumber_1 ?_
  refine v_iconst C dX1_orderByNumber_4 ?_
  refine v_callv C (rn_S C _ (m_J7_fill_53178 (aln_of h0.2.2.1) h) mf_J7_fill_53178 wd_579 wd_578 rfl rfl ⟨(Nat.le_of_ble_eq_true rfl), (Nat.le_of_ble_eq_true rfl)⟩ rfl rfl (Nat.le_of_ble_eq_true rfl) dX1_orderByNumber_5) (fun w h => ?_)
  refine v_iconst C dX1_orderByNumber_8 ?_
  refine v_istore_n C [(1, _), (0, _)] dX1_orderByNumber_9 1 rfl (by decide) rfl ?_
  refine v_sub [1, 0] rfl ?_
  obtain ⟨m, h⟩ := h
  exact t_X1_orderByNumber_l10 C R h0 (t_X1_orderByNumber_b50 C R h0) m _ _ h
abbrev rm_X1_reach : Room := { frames := 0, cells := 0, slots := 0, locals := 0 }
theorem mf_X1_reach : MfB yX1_reach cX1_reach 8 (some .int) 2 := ⟨wd_744, wd_2, by decide, by decide, by decide +kernel⟩
def X1_reach_l22 (r0 : Nat) (Q : Int → Wd → Prop) (e73 : Int → Int → Int → Int → Wd → Prop) : Nat → Int → Int → Int → Int → Int → Wd → Prop
  | 0 => fun _ _ _ _ _ _ => False
  | n + 1 => fun x2 x3 x4 x5 x6 w => ((wr x2 ≤ wr x6 → e73 x2 x3 x4 x5 w) ∧ (¬ wr x2 ≤ wr x6 → (ix (2 * x6) 20 ∧ (ix ((2 * x6) + 1) 20 ∧ (∀ y2, y2 = (ior (isl 1 (rd w (r0 + 1) (2 * x6))) (isl 1 (rd w (r0 + 1) ((2 * x6) + 1)))) → ((wr (ian x3 y2) = 0 → (X1_reach_l22 r0 Q e73 n) x2 x3 x4 x5 (x6 + 1) w) ∧ (¬ wr (ian x3 y2) = 0 → (∀ y3, y3 = (ior x3 y2) → (X1_reach_l22 r0 Q e73 n) x2 y3 x4 x5 (x6 + 1) w))))))))
theorem t_X1_reach_l22 {Z : Zw} {E : Amb} {r0 : Nat} {Q : Int → Wd → Prop} {e73 : Int → Int → Int → Int → Wd → Prop} (C : Cx Z (adA Z) E cX1_reach "HandleFaces$Drawing" 8 rm_X1_reach) (R : Rt Z E (some .int) (qI Z Q)) (h0 : sX1 r0) (he73 : ∀ (x2 : Int) (x3 : Int) (x4 : Int) (x5 : Int) (w : Wd), e73 x2 x3 x4 x5 w → V Z (adA Z) E 8 w 73 [(0, rv Z r0), (2, iv x2), (3, iv x3), (4, iv x4), (5, iv x5)] []) : ∀ (n : Nat) (x2 : Int) (x3 : Int) (x4 : Int) (x5 : Int) (x6 : Int) (w : Wd), X1_reach_l22 r0 Q e73 n x2 x3 x4 x5 x6 w → V Z (adA Z) E 8 w 22 [(0, rv Z r0), (2, iv x2), (3, iv x3), (4, iv x4), (5, iv x5), (6, iv x6)] [] := by
  intro n
  induction n with
  | zero => intro x2 x3 x4 x5 x6 w h; exact h.elim
  | succ n ih =>
    intro x2 x3 x4 x5 x6 w h
    unfold X1_reach_l22 at h
    refine v_iload C dX1_reach_22 5 rfl ?_
    refine v_iload_n C dX1_reach_24 1 rfl ?_
    refine v_icmp_ge C 73 dX1_reach_25 (by decide) (fun q => ?_) (fun q => ?_)
    · have h := h.1 q
      refine v_sub [0, 1, 2, 3, 4] rfl ?_
      exact he73 _ _ _ _ _ h
    · have h := h.2 q
      refine v_iconst C dX1_reach_28 ?_
      refine v_aload_n C dX1_reach_29 0 rfl ?_
      refine g_X1_ends C h0 wd_57 dX1_reach_30 ?_
      refine v_iconst C dX1_reach_33 ?_
      refine v_iload C dX1_reach_34 5 rfl ?_
      refine v_imul C dX1_reach_36 ?_
      refine v_iald C h0.2.1 h.1 dX1_reach_37 ?_
      have h := h.2
      refine v_ishl C dX1_reach_38 ?_
      refine v_iconst C dX1_reach_39 ?_
      refine v_aload_n C dX1_reach_40 0 rfl ?_
      refine g_X1_ends C h0 wd_57 dX1_reach_41 ?_
      refine v_iconst C dX1_reach_44 ?_
      refine v_iload C dX1_reach_45 5 rfl ?_
      refine v_imul C dX1_reach_47 ?_
      refine v_iconst C dX1_reach_48 ?_
      refine v_iadd C dX1_reach_49 ?_
      refine v_iald C h0.2.1 h.1 dX1_reach_50 ?_
      have h := h.2
      refine v_ishl C dX1_reach_51 ?_
      refine v_ior C dX1_reach_52 ?_
      refine v_istore C [(7, _), (0, _), (2, _), (3, _), (4, _), (5, _), (6, _)] dX1_reach_53 (by decide) rfl ?_
      have h := h _ rfl
      refine v_iload_n C dX1_reach_55 3 rfl ?_
      refine v_iload C dX1_reach_56 0 rfl ?_
      refine v_iand C dX1_reach_58 ?_
      refine v_if_eq C 67 dX1_reach_59 (by decide) (fun q => ?_) (fun q => ?_)
      · have h := h.1 q
        refine v_iinc C [(6, _), (7, _), (0, _), (2, _), (3, _), (4, _), (5, _)] dX1_reach_67 6 rfl (by decide) rfl ?_
        refine v_goto C 22 dX1_reach_70 (by decide) ?_
        refine v_sub [2, 3, 4, 5, 6, 0] rfl ?_
        exact ih _ _ _ _ _ _ h
      · have h := h.2 q
        refine v_iload_n C dX1_reach_62 3 rfl ?_
        refine v_iload C dX1_reach_63 0 rfl ?_
        refine v_ior C dX1_reach_65 ?_
        refine v_istore_n C [(3, _), (7, _), (0, _), (2, _), (4, _), (5, _), (6, _)] dX1_reach_66 3 rfl (by decide) rfl ?_
        have h := h _ rfl
        refine v_iinc C [(6, _), (3, _), (7, _), (0, _), (2, _), (4, _), (5, _)] dX1_reach_67 6 rfl (by decide) rfl ?_
        refine v_goto C 22 dX1_reach_70 (by decide) ?_
        refine v_sub [3, 4, 1, 5, 6, 0] rfl ?_
        exact ih _ _ _ _ _ _ h
def X1_reach_b73 (r0 : Nat) (Q : Int → Wd → Prop) (c7 : Int → Int → Int → Wd → Prop) (e79 : Int → Wd → Prop) (e88 : Int → Wd → Prop) (x2 : Int) (x3 : Int) (x4 : Int) (x5 : Int) (w : Wd) : Prop := ((wr x3 = wr x5 → e79 x3 w) ∧ (¬ wr x3 = wr x5 → c7 x2 x3 (x4 + 1) w))
theorem t_X1_reach_b73 {Z : Zw} {E : Amb} {r0 : Nat} {Q : Int → Wd → Prop} {c7 : Int → Int → Int → Wd → Prop} {e79 : Int → Wd → Prop} {e88 : Int → Wd → Prop} (C : Cx Z (adA Z) E cX1_reach "HandleFaces$Drawing" 8 rm_X1_reach) (R : Rt Z E (some .int) (qI Z Q)) (h0 : sX1 r0) (hc7 : ∀ (x2 : Int) (x3 : Int) (x4 : Int) (w : Wd), c7 x2 x3 x4 w → V Z (adA Z) E 8 w 7 [(0, rv Z r0), (2, iv x2), (3, iv x3), (4, iv x4)] []) (he79 : ∀ (x3 : Int) (w : Wd), e79 x3 w → V Z (adA Z) E 8 w 79 [(3, iv x3)] []) (he88 : ∀ (x3 : Int) (w : Wd), e88 x3 w → V Z (adA Z) E 8 w 88 [(3, iv x3)] []) : ∀ (x2 : Int) (x3 : Int) (x4 : Int) (x5 : Int) (w : Wd), X1_reach_b73 r0 Q c7 e79 e88 x2 x3 x4 x5 w → V Z (adA Z) E 8 w 73 [(0, rv Z r0), (2, iv x2), (3, iv x3), (4, iv x4), (5, iv x5)] [] := by
  intro x2 x3 x4 x5 w h
  unfold X1_reach_b73 at h
  refine v_iload_n C dX1_reach_73 2 rfl ?_
  refine v_iload C dX1_reach_74 4 rfl ?_
  refine v_icmp_ne C 82 dX1_reach_76 (by decide) (fun q => ?_) (fun q => ?_)
  · have h := h.2 q
    refine v_iinc C [(4, _), (0, _), (2, _), (3, _), (5, _)] dX1_reach_82 3 rfl (by decide) rfl ?_
    refine v_goto C 7 dX1_reach_85 (by decide) ?_
    refine v_sub [1, 2, 3, 0] rfl ?_
    exact hc7 _ _ _ _ h
  · have h := h.1 q
    refine v_sub [2] rfl ?_
    exact he79 _ _ h
def X1_reach_l7 (r0 : Nat) (Q : Int → Wd → Prop) (e79 : Int → Wd → Prop) (e88 : Int → Wd → Prop) : Nat → Int → Int → Int → Wd → Prop
  | 0 => fun _ _ _ _ => False
  | n + 1 => fun x2 x3 x4 w => ((wr (w r0 0) ≤ wr x4 → e88 x3 w) ∧ (¬ wr (w r0 0) ≤ wr x4 → (∃ m, X1_reach_l22 r0 Q (X1_reach_b73 r0 Q (X1_reach_l7 r0 Q e79 e88 n) e79 e88) m x2 x3 x4 x3 0 w)))
theorem t_X1_reach_l7 {Z : Zw} {E : Amb} {r0 : Nat} {Q : Int → Wd → Prop} {e79 : Int → Wd → Prop} {e88 : Int → Wd → Prop} (C : Cx Z (adA Z) E cX1_reach "HandleFaces$Drawing" 8 rm_X1_reach) (R : Rt Z E (some .int) (qI Z Q)) (h0 : sX1 r0) (he79 : ∀ (x3 : Int) (w : Wd), e79 x3 w → V Z (adA Z) E 8 w 79 [(3, iv x3)] []) (he88 : ∀ (x3 : Int) (w : Wd), e88 x3 w → V Z (adA Z) E 8 w 88 [(3, iv x3)] []) : ∀ (n : Nat) (x2 : Int) (x3 : Int) (x4 : Int) (w : Wd), X1_reach_l7 r0 Q e79 e88 n x2 x3 x4 w → V Z (adA Z) E 8 w 7 [(0, rv Z r0), (2, iv x2), (3, iv x3), (4, iv x4)] [] := by
  intro n
  induction n with
  | zero => intro x2 x3 x4 w h; exact h.elim
  | succ n ih =>
    intro x2 x3 x4 w h
    unfold X1_reach_l7 at h
    refine v_iload C dX1_reach_7 3 rfl ?_
    refine v_aload_n C dX1_reach_9 0 rfl ?_
    refine g_X1_posts C h0 wd_35 dX1_reach_10 ?_
    refine v_icmp_ge C 88 dX1_reach_13 (by decide) (fun q => ?_) (fun q => ?_)
    · have h := h.1 q
      refine v_sub [2] rfl ?_
      exact he88 _ _ h
    · have h := h.2 q
      refine v_iload_n C dX1_reach_16 2 rfl ?_
      refine v_istore C [(5, _), (0, _), (2, _), (3, _), (4, _)] dX1_reach_17 (by decide) rfl ?_
      refine v_iconst C dX1_reach_19 ?_
      refine v_istore C [(6, _), (5, _), (0, _), (2, _), (3, _), (4, _)] dX1_reach_20 (by decide) rfl ?_
      refine v_sub [2, 3, 4, 5, 1, 0] rfl ?_
      obtain ⟨m, h⟩ := h
      exact t_X1_reach_l22 C R h0 (t_X1_reach_b73 C R h0 ih he79 he88) m _ _ _ _ _ _ h
def X1_reach_b88 (r0 : Nat) (Q : Int → Wd → Prop) (x3 : Int) (w : Wd) : Prop := Q (wr x3) w
theorem t_X1_reach_b88 {Z : Zw} {E : Amb} {r0 : Nat} {Q : Int → Wd → Prop} (C : Cx Z (adA Z) E cX1_reach "HandleFaces$Drawing" 8 rm_X1_reach) (R : Rt Z E (some .int) (qI Z Q)) (h0 : sX1 r0) : ∀ (x3 : Int) (w : Wd), X1_reach_b88 r0 Q x3 w → V Z (adA Z) E 8 w 88 [(3, iv x3)] [] := by
  intro x3 w h
  unfold X1_reach_b88 at h
  refine v_iload_n C dX1_reach_88 0 rfl ?_
  exact v_iret C R h dX1_reach_89
def X1_reach_b79 (r0 : Nat) (Q : Int → Wd → Prop) (x3 : Int) (w : Wd) : Prop := X1_reach_b88 r0 Q x3 w
theorem t_X1_reach_b79 {Z : Zw} {E : Amb} {r0 : Nat} {Q : Int → Wd → Prop} (C : Cx Z (adA Z) E cX1_reach "HandleFaces$Drawing" 8 rm_X1_reach) (R : Rt Z E (some .int) (qI Z Q)) (h0 : sX1 r0) : ∀ (x3 : Int) (w : Wd), X1_reach_b79 r0 Q x3 w → V Z (adA Z) E 8 w 79 [(3, iv x3)] [] := by
  intro x3 w h
  unfold X1_reach_b79 at h
  refine v_goto C 88 dX1_reach_79 (by decide) ?_
  exact t_X1_reach_b88 C R h0 _ _ h
def X1_reach (r0 : Nat) (x1 : Int) (x2 : Int) (w : Wd) (Q : Int → Wd → Prop) : Prop := (∀ y1, y1 = (isl 1 x1) → (∃ m, X1_reach_l7 r0 Q (X1_reach_b79 r0 Q) (X1_reach_b88 r0 Q) m x2 y1 1 w))
theorem m_X1_reach {Z : Zw} {l : Launch} {r0 : Nat} {x1 : Int} {x2 : Int} {w : Wd} {Q : Int → Wd → Prop} (h0 : sX1 r0) (h : X1_reach r0 x1 x2 w Q) : CtQ Z l yX1_reach cX1_reach 8 (some .int) rm_X1_reach [rv Z r0, iv x1, iv x2] w (qI Z Q) := by
  refine ct_of (by decide) (Nat.le_of_ble_eq_true rfl) (fun E eE C R => ?_)
  subst eE
  have C : Cx Z (adA Z) E cX1_reach "HandleFaces$Drawing" 8 rm_X1_reach := C
  unfold X1_reach at h
  show V Z (adA Z) E 8 w 0 [(0, rv Z r0), (1, iv x1), (2, iv x2)] []
  refine v_iconst C dX1_reach_0 ?_
  refine v_iload_n C dX1_reach_1 1 rfl ?_
  refine v_ishl C dX1_reach_2 ?_
  refine v_istore_n C [(3, _), (0, _), (1, _), (2, _)] dX1_reach_3 3 rfl (by decide) rfl ?_
  have h := h _ rfl
  refine v_iconst C dX1_reach_4 ?_
  refine v_istore C [(4, _), (3, _), (0, _), (1, _), (2, _)] dX1_reach_5 (by decide) rfl ?_
  refine v_sub [2, 4, 1, 0] rfl ?_
  obtain ⟨m, h⟩ := h
  exact t_X1_reach_l7 C R h0 (t_X1_reach_b79 C R h0) (t_X1_reach_b88 C R h0) m _ _ _ _ h
abbrev rm_X1_countParts : Room := { frames := 1, cells := 0, slots := 0, locals := 27 }
theorem mf_X1_countParts : MfB yX1_countParts cX1_countParts 4 (some .int) 0 := ⟨wd_740, wd_2, by decide, by decide, by decide +kernel⟩
def X1_countParts_l6 (r0 : Nat) (Q : Int → Wd → Prop) (e43 : Int → Wd → Prop) : Nat → Int → Int → Int → Wd → Prop
  | 0 => fun _ _ _ _ => False
  | n + 1 => fun x1 x2 x3 w => ((wr (w r0 0) ≤ wr x3 → e43 x1 w) ∧ (¬ wr (w r0 0) ≤ wr x3 → ((wr (ian (isr x2 x3) 1) = 0 → X1_reach r0 x3 (w r0 1) w (fun y2 w1 => (∀ y3, y3 = (ior x2 y2) → (X1_countParts_l6 r0 Q e43 n) (x1 + 1) y3 (x3 + 1) w1))) ∧ (¬ wr (ian (isr x2 x3) 1) = 0 → (X1_countParts_l6 r0 Q e43 n) x1 x2 (x3 + 1) w))))
theorem t_X1_countParts_l6 {Z : Zw} {E : Amb} {r0 : Nat} {Q : Int → Wd → Prop} {e43 : Int → Wd → Prop} (C : Cx Z (adA Z) E cX1_countParts "HandleFaces$Drawing" 4 rm_X1_countParts) (R : Rt Z E (some .int) (qI Z Q)) (h0 : sX1 r0) (he43 : ∀ (x1 : Int) (w : Wd), e43 x1 w → V Z (adA Z) E 4 w 43 [(1, iv x1)] []) : ∀ (n : Nat) (x1 : Int) (x2 : Int) (x3 : Int) (w : Wd), X1_countParts_l6 r0 Q e43 n x1 x2 x3 w → V Z (adA Z) E 4 w 6 [(0, rv Z r0), (1, iv x1), (2, iv x2), (3, iv x3)] [] := by
  intro n
  induction n with
  | zero => intro x1 x2 x3 w h; exact h.elim
  | succ n ih =>
    intro x1 x2 x3 w h
    unfold X1_countParts_l6 at h
    refine v_iload_n C dX1_countParts_6 3 rfl ?_
    refine v_aload_n C dX1_countParts_7 0 rfl ?_
    refine g_X1_posts C h0 wd_35 dX1_countParts_8 ?_
    refine v_icmp_ge C 43 dX1_countParts_11 (by decide) (fun q => ?_) (fun q => ?_)
    · have h := h.1 q
      refine v_sub [1] rfl ?_
      exact he43 _ _ h
    · have h := h.2 q
      refine v_iload_n C dX1_countParts_14 2 rfl ?_
      refine v_iload_n C dX1_countParts_15 3 rfl ?_
      refine v_ishr C dX1_countParts_16 ?_
      refine v_iconst C dX1_countParts_17 ?_
      refine v_iand C dX1_countParts_18 ?_
      refine v_if_ne C 37 dX1_countParts_19 (by decide) (fun q => ?_) (fun q => ?_)
      · have h := h.2 q
        refine v_iinc C [(3, _), (0, _), (1, _), (2, _)] dX1_countParts_37 3 rfl (by decide) rfl ?_
        refine v_goto C 6 dX1_countParts_40 (by decide) ?_
        refine v_sub [1, 2, 3, 0] rfl ?_
        exact ih _ _ _ _ h
      · have h := h.1 q
        refine v_iload_n C dX1_countParts_22 2 rfl ?_
        refine v_aload_n C dX1_countParts_23 0 rfl ?_
        refine v_iload_n C dX1_countParts_24 3 rfl ?_
        refine v_aload_n C dX1_countParts_25 0 rfl ?_
        refine g_X1_lines C h0 wd_43 dX1_countParts_26 ?_
        refine v_calli C (rn_V C _ (m_X1_reach h0 h) mf_X1_reach wd_743 wp_22 wd_741 rfl rfl ⟨(Nat.le_of_ble_eq_true rfl), (Nat.le_of_ble_eq_true rfl)⟩ h0.1 rfl rfl rfl (Nat.le_of_ble_eq_true rfl) dX1_countParts_29) (fun r w h => ?_)
        refine v_ior C dX1_countParts_32 ?_
        refine v_istore_n C [(2, _), (0, _), (1, _), (3, _)] dX1_countParts_33 2 rfl (by decide) rfl ?_
        have h := h _ rfl
        refine v_iinc C [(1, _), (2, _), (0, _), (3, _)] dX1_countParts_34 2 rfl (by decide) rfl ?_
        refine v_iinc C [(3, _), (1, _), (2, _), (0, _)] dX1_countParts_37 3 rfl (by decide) rfl ?_
        refine v_goto C 6 dX1_countParts_40 (by decide) ?_
        refine v_sub [3, 1, 2, 0] rfl ?_
        exact ih _ _ _ _ h
def X1_countParts_b43 (r0 : Nat) (Q : Int → Wd → Prop) (x1 : Int) (w : Wd) : Prop := Q (wr x1) w
theorem t_X1_countParts_b43 {Z : Zw} {E : Amb} {r0 : Nat} {Q : Int → Wd → Prop} (C : Cx Z (adA Z) E cX1_countParts "HandleFaces$Drawing" 4 rm_X1_countParts) (R : Rt Z E (some .int) (qI Z Q)) (h0 : sX1 r0) : ∀ (x1 : Int) (w : Wd), X1_countParts_b43 r0 Q x1 w → V Z (adA Z) E 4 w 43 [(1, iv x1)] [] := by
  intro x1 w h
  unfold X1_countParts_b43 at h
  refine v_iload_n C dX1_countParts_43 0 rfl ?_
  exact v_iret C R h dX1_countParts_44
def X1_countParts (r0 : Nat) (w : Wd) (Q : Int → Wd → Prop) : Prop := (∃ m, X1_countParts_l6 r0 Q (X1_countParts_b43 r0 Q) m 0 0 0 w)
theorem m_X1_countParts {Z : Zw} {l : Launch} {r0 : Nat} {w : Wd} {Q : Int → Wd → Prop} (h0 : sX1 r0) (h : X1_countParts r0 w Q) : CtQ Z l yX1_countParts cX1_countParts 4 (some .int) rm_X1_countParts [rv Z r0] w (qI Z Q) := by
  refine ct_of (by decide) (Nat.le_of_ble_eq_true rfl) (fun E eE C R => ?_)
  subst eE
  have C : Cx Z (adA Z) E cX1_countParts "HandleFaces$Drawing" 4 rm_X1_countParts := C
  unfold X1_countParts at h
  show V Z (adA Z) E 4 w 0 [(0, rv Z r0)] []
  refine v_iconst C dX1_countParts_0 ?_
  refine v_istore_n C [(1, _), (0, _)] dX1_countParts_1 1 rfl (by decide) rfl ?_
  refine v_iconst C dX1_countParts_2 ?_
  refine v_istore_n C [(2, _), (1, _), (0, _)] dX1_countParts_3 2 rfl (by decide) rfl ?_
  refine v_iconst C dX1_countParts_4 ?_
  refine v_istore_n C [(3, _), (2, _), (1, _), (0, _)] dX1_countParts_5 3 rfl (by decide) rfl ?_
  refine v_sub [3, 2, 1, 0] rfl ?_
  obtain ⟨m, h⟩ := h
  exact t_X1_countParts_l6 C R h0 (t_X1_countParts_b43 C R h0) m _ _ _ _ h
abbrev rm_X1_looseLines : Room := { frames := 1, cells := 0, slots := 0, locals := 27 }
theorem mf_X1_looseLines : MfB yX1_looseLines cX1_looseLines 3 (some .int) 0 := ⟨wd_938, wd_2, by decide, by decide, by decide +kernel⟩
def X1_looseLines_l4 (r0 : Nat) (Q : Int → Wd → Prop) (e53 : Int → Wd → Prop) : Nat → Int → Int → Wd → Prop
  | 0 => fun _ _ _ => False
  | n + 1 => fun x1 x2 w => ((wr (w r0 1) ≤ wr x2 → e53 x1 w) ∧ (¬ wr (w r0 1) ≤ wr x2 → (ix (2 * x2) 20 ∧ X1_reach r0 (rd w (r0 + 1) (2 * x2)) x2 w (fun y2 w1 => (ix ((2 * x2) + 1) 20 ∧ ((wr (ian (isr y2 (rd w1 (r0 + 1) ((2 * x2) + 1))) 1) = 0 → (X1_looseLines_l4 r0 Q e53 n) x1 (x2 + 1) w1) ∧ (¬ wr (ian (isr y2 (rd w1 (r0 + 1) ((2 * x2) + 1))) 1) = 0 → (∀ y3, y3 = (ior x1 (isl 1 x2)) → (X1_looseLines_l4 r0 Q e53 n) y3 (x2 + 1) w1))))))))
theorem t_X1_looseLines_l4 {Z : Zw} {E : Amb} {r0 : Nat} {Q : Int → Wd → Prop} {e53 : Int → Wd → Prop} (C : Cx Z (adA Z) E cX1_looseLines "HandleFaces$Drawing" 3 rm_X1_looseLines) (R : Rt Z E (some .int) (qI Z Q)) (h0 : sX1 r0) (he53 : ∀ (x1 : Int) (w : Wd), e53 x1 w → V Z (adA Z) E 3 w 53 [(1, iv x1)] []) : ∀ (n : Nat) (x1 : Int) (x2 : Int) (w : Wd), X1_looseLines_l4 r0 Q e53 n x1 x2 w → V Z (adA Z) E 3 w 4 [(0, rv Z r0), (1, iv x1), (2, iv x2)] [] := by
  intro n
  induction n with
  | zero => intro x1 x2 w h; exact h.elim
  | succ n ih =>
    intro x1 x2 w h
    unfold X1_looseLines_l4 at h
    refine v_iload_n C dX1_looseLines_4 2 rfl ?_
    refine v_aload_n C dX1_looseLines_5 0 rfl ?_
    refine g_X1_lines C h0 wd_43 dX1_looseLines_6 ?_
    refine v_icmp_ge C 53 dX1_looseLines_9 (by decide) (fun q => ?_) (fun q => ?_)
    · have h := h.1 q
      refine v_sub [1] rfl ?_
      exact he53 _ _ h
    · have h := h.2 q
      refine v_aload_n C dX1_looseLines_12 0 rfl ?_
      refine v_aload_n C dX1_looseLines_13 0 rfl ?_
      refine g_X1_ends C h0 wd_57 dX1_looseLines_14 ?_
      refine v_iconst C dX1_looseLines_17 ?_
      refine v_iload_n C dX1_looseLines_18 2 rfl ?_
      refine v_imul C dX1_looseLines_19 ?_
      refine v_iald C h0.2.1 h.1 dX1_looseLines_20 ?_
      have h := h.2
      refine v_iload_n C dX1_looseLines_21 2 rfl ?_
      refine v_calli C (rn_V C _ (m_X1_reach h0 h) mf_X1_reach wd_743 wp_22 wd_741 rfl rfl ⟨(Nat.le_of_ble_eq_true rfl), (Nat.le_of_ble_eq_true rfl)⟩ h0.1 rfl rfl rfl (Nat.le_of_ble_eq_true rfl) dX1_looseLines_22) (fun r w h => ?_)
      refine v_aload_n C dX1_looseLines_25 0 rfl ?_
      refine g_X1_ends C h0 wd_57 dX1_looseLines_26 ?_
      refine v_iconst C dX1_looseLines_29 ?_
      refine v_iload_n C dX1_looseLines_30 2 rfl ?_
      refine v_imul C dX1_looseLines_31 ?_
      refine v_iconst C dX1_looseLines_32 ?_
      refine v_iadd C dX1_looseLines_33 ?_
      refine v_iald C h0.2.1 h.1 dX1_looseLines_34 ?_
      have h := h.2
      refine v_ishr C dX1_looseLines_35 ?_
      refine v_iconst C dX1_looseLines_36 ?_
      refine v_iand C dX1_looseLines_37 ?_
      refine v_if_eq C 47 dX1_looseLines_38 (by decide) (fun q => ?_) (fun q => ?_)
      · have h := h.1 q
        refine v_iinc C [(2, _), (0, _), (1, _)] dX1_looseLines_47 2 rfl (by decide) rfl ?_
        refine v_goto C 4 dX1_looseLines_50 (by decide) ?_
        refine v_sub [1, 2, 0] rfl ?_
        exact ih _ _ _ h
      · have h := h.2 q
        refine v_iload_n C dX1_looseLines_41 1 rfl ?_
        refine v_iconst C dX1_looseLines_42 ?_
        refine v_iload_n C dX1_looseLines_43 2 rfl ?_
        refine v_ishl C dX1_looseLines_44 ?_
        refine v_ior C dX1_looseLines_45 ?_
        refine v_istore_n C [(1, _), (0, _), (2, _)] dX1_looseLines_46 1 rfl (by decide) rfl ?_
        have h := h _ rfl
        refine v_iinc C [(2, _), (1, _), (0, _)] dX1_looseLines_47 2 rfl (by decide) rfl ?_
        refine v_goto C 4 dX1_looseLines_50 (by decide) ?_
        refine v_sub [2, 1, 0] rfl ?_
        exact ih _ _ _ h
def X1_looseLines_b53 (r0 : Nat) (Q : Int → Wd → Prop) (x1 : Int) (w : Wd) : Prop := Q (wr x1) w
theorem t_X1_looseLines_b53 {Z : Zw} {E : Amb} {r0 : Nat} {Q : Int → Wd → Prop} (C : Cx Z (adA Z) E cX1_looseLines "HandleFaces$Drawing" 3 rm_X1_looseLines) (R : Rt Z E (some .int) (qI Z Q)) (h0 : sX1 r0) : ∀ (x1 : Int) (w : Wd), X1_looseLines_b53 r0 Q x1 w → V Z (adA Z) E 3 w 53 [(1, iv x1)] [] := by
  intro x1 w h
  unfold X1_looseLines_b53 at h
  refine v_iload_n C dX1_looseLines_53 0 rfl ?_
  exact v_iret C R h dX1_looseLines_54
def X1_looseLines (r0 : Nat) (w : Wd) (Q : Int → Wd → Prop) : Prop := (∃ m, X1_looseLines_l4 r0 Q (X1_looseLines_b53 r0 Q) m 0 0 w)
theorem m_X1_looseLines {Z : Zw} {l : Launch} {r0 : Nat} {w : Wd} {Q : Int → Wd → Prop} (h0 : sX1 r0) (h : X1_looseLines r0 w Q) : CtQ Z l yX1_looseLines cX1_looseLines 3 (some .int) rm_X1_looseLines [rv Z r0] w (qI Z Q) := by
  refine ct_of (by decide) (Nat.le_of_ble_eq_true rfl) (fun E eE C R => ?_)
  subst eE
  have C : Cx Z (adA Z) E cX1_looseLines "HandleFaces$Drawing" 3 rm_X1_looseLines := C
  unfold X1_looseLines at h
  show V Z (adA Z) E 3 w 0 [(0, rv Z r0)] []
  refine v_iconst C dX1_looseLines_0 ?_
  refine v_istore_n C [(1, _), (0, _)] dX1_looseLines_1 1 rfl (by decide) rfl ?_
  refine v_iconst C dX1_looseLines_2 ?_
  refine v_istore_n C [(2, _), (1, _), (0, _)] dX1_looseLines_3 2 rfl (by decide) rfl ?_
  refine v_sub [2, 1, 0] rfl ?_
  obtain ⟨m, h⟩ := h
  exact t_X1_looseLines_l4 C R h0 (t_X1_looseLines_b53 C R h0) m _ _ _ h
abbrev rm_X1_armOutOf : Room := { frames := 0, cells := 0, slots := 0, locals := 0 }
theorem mf_X1_armOutOf : MfB yX1_armOutOf cX1_armOutOf 3 (some .int) 1 := ⟨wd_909, wd_2, by decide, by decide, by decide +kernel⟩
def X1_armOutOf_l2 (r0 : Nat) (Q : Int → Wd → Prop) (e40 : Int → Wd → Prop) (e48 : Wd → Prop) : Nat → Int → Int → Wd → Prop
  | 0 => fun _ _ _ => False
  | n + 1 => fun x1 x2 w => ((wr (2 * (w r0 1)) ≤ wr x2 → e48 w) ∧ (¬ wr (2 * (w r0 1)) ≤ wr x2 → (ix x2 20 ∧ ((wr (ian (isr x1 (rd w (r0 + 1) x2)) 1) = 0 → (X1_armOutOf_l2 r0 Q e40 e48 n) x1 (x2 + 1) w) ∧ (¬ wr (ian (isr x1 (rd w (r0 + 1) x2)) 1) = 0 → (ix (ixo x2 1) 20 ∧ ((wr (ian (isr x1 (rd w (r0 + 1) (ixo x2 1))) 1) = 0 → e40 x2 w) ∧ (¬ wr (ian (isr x1 (rd w (r0 + 1) (ixo x2 1))) 1) = 0 → (X1_armOutOf_l2 r0 Q e40 e48 n) x1 (x2 + 1) w))))))))
theorem t_X1_armOutOf_l2 {Z : Zw} {E : Amb} {r0 : Nat} {Q : Int → Wd → Prop} {e40 : Int → Wd → Prop} {e48 : Wd → Prop} (C : Cx Z (adA Z) E cX1_armOutOf "HandleFaces$Drawing" 3 rm_X1_armOutOf) (R : Rt Z E (some .int) (qI Z Q)) (h0 : sX1 r0) (he40 : ∀ (x2 : Int) (w : Wd), e40 x2 w → V Z (adA Z) E 3 w 40 [(2, iv x2)] []) (he48 : ∀ (w : Wd), e48 w → V Z (adA Z) E 3 w 48 [] []) : ∀ (n : Nat) (x1 : Int) (x2 : Int) (w : Wd), X1_armOutOf_l2 r0 Q e40 e48 n x1 x2 w → V Z (adA Z) E 3 w 2 [(0, rv Z r0), (1, iv x1), (2, iv x2)] [] := by
  intro n
  induction n with
  | zero => intro x1 x2 w h; exact h.elim
  | succ n ih =>
    intro x1 x2 w h
    unfold X1_armOutOf_l2 at h
    refine v_iload_n C dX1_armOutOf_2 2 rfl ?_
    refine v_iconst C dX1_armOutOf_3 ?_
    refine v_aload_n C dX1_armOutOf_4 0 rfl ?_
    refine g_X1_lines C h0 wd_43 dX1_armOutOf_5 ?_
    refine v_imul C dX1_armOutOf_8 ?_
    refine v_icmp_ge C 48 dX1_armOutOf_9 (by decide) (fun q => ?_) (fun q => ?_)
    · have h := h.1 q
      refine v_sub [] rfl ?_
      exact he48 _ h
    · have h := h.2 q
      refine v_iload_n C dX1_armOutOf_12 1 rfl ?_
      refine v_aload_n C dX1_armOutOf_13 0 rfl ?_
      refine g_X1_ends C h0 wd_57 dX1_armOutOf_14 ?_
      refine v_iload_n C dX1_armOutOf_17 2 rfl ?_
      refine v_iald C h0.2.1 h.1 dX1_armOutOf_18 ?_
      have h := h.2
      refine v_ishr C dX1_armOutOf_19 ?_
      refine v_iconst C dX1_armOutOf_20 ?_
      refine v_iand C dX1_armOutOf_21 ?_
      refine v_if_eq C 42 dX1_armOutOf_22 (by decide) (fun q => ?_) (fun q => ?_)
      · have h := h.1 q
        refine v_iinc C [(2, _), (0, _), (1, _)] dX1_armOutOf_42 2 rfl (by decide) rfl ?_
        refine v_goto C 2 dX1_armOutOf_45 (by decide) ?_
        refine v_sub [1, 2, 0] rfl ?_
        exact ih _ _ _ h
      · have h := h.2 q
        refine v_iload_n C dX1_armOutOf_25 1 rfl ?_
        refine v_aload_n C dX1_armOutOf_26 0 rfl ?_
        refine g_X1_ends C h0 wd_57 dX1_armOutOf_27 ?_
        refine v_iload_n C dX1_armOutOf_30 2 rfl ?_
        refine v_iconst C dX1_armOutOf_31 ?_
        refine v_ixor C dX1_armOutOf_32 ?_
        refine v_iald C h0.2.1 h.1 dX1_armOutOf_33 ?_
        have h := h.2
        refine v_ishr C dX1_armOutOf_34 ?_
        refine v_iconst C dX1_armOutOf_35 ?_
        refine v_iand C dX1_armOutOf_36 ?_
        refine v_if_ne C 42 dX1_armOutOf_37 (by decide) (fun q => ?_) (fun q => ?_)
        · have h := h.2 q
          refine v_iinc C [(2, _), (0, _), (1, _)] dX1_armOutOf_42 2 rfl (by decide) rfl ?_
          refine v_goto C 2 dX1_armOutOf_45 (by decide) ?_
          refine v_sub [1, 2, 0] rfl ?_
          exact ih _ _ _ h
        · have h := h.1 q
          refine v_sub [2] rfl ?_
          exact he40 _ _ h
def X1_armOutOf_b40 (r0 : Nat) (Q : Int → Wd → Prop) (x2 : Int) (w : Wd) : Prop := Q (wr x2) w
theorem t_X1_armOutOf_b40 {Z : Zw} {E : Amb} {r0 : Nat} {Q : Int → Wd → Prop} (C : Cx Z (adA Z) E cX1_armOutOf "HandleFaces$Drawing" 3 rm_X1_armOutOf) (R : Rt Z E (some .int) (qI Z Q)) (h0 : sX1 r0) : ∀ (x2 : Int) (w : Wd), X1_armOutOf_b40 r0 Q x2 w → V Z (adA Z) E 3 w 40 [(2, iv x2)] [] := by
  intro x2 w h
  unfold X1_armOutOf_b40 at h
  refine v_iload_n C dX1_armOutOf_40 0 rfl ?_
  exact v_iret C R h dX1_armOutOf_41
def X1_armOutOf_b48 (r0 : Nat) (Q : Int → Wd → Prop) (w : Wd) : Prop := Q (wr (-1)) w
theorem t_X1_armOutOf_b48 {Z : Zw} {E : Amb} {r0 : Nat} {Q : Int → Wd → Prop} (C : Cx Z (adA Z) E cX1_armOutOf "HandleFaces$Drawing" 3 rm_X1_armOutOf) (R : Rt Z E (some .int) (qI Z Q)) (h0 : sX1 r0) : ∀ (w : Wd), X1_armOutOf_b48 r0 Q w → V Z (adA Z) E 3 w 48 [] [] := by
  intro w h
  unfold X1_armOutOf_b48 at h
  refine v_iconst C dX1_armOutOf_48 ?_
  exact v_iret C R h dX1_armOutOf_49
def X1_armOutOf (r0 : Nat) (x1 : Int) (w : Wd) (Q : Int → Wd → Prop) : Prop := (∃ m, X1_armOutOf_l2 r0 Q (X1_armOutOf_b40 r0 Q) (X1_armOutOf_b48 r0 Q) m x1 0 w)
theorem m_X1_armOutOf {Z : Zw} {l : Launch} {r0 : Nat} {x1 : Int} {w : Wd} {Q : Int → Wd → Prop} (h0 : sX1 r0) (h : X1_armOutOf r0 x1 w Q) : CtQ Z l yX1_armOutOf cX1_armOutOf 3 (some .int) rm_X1_armOutOf [rv Z r0, iv x1] w (qI Z Q) := by
  refine ct_of (by decide) (Nat.le_of_ble_eq_true rfl) (fun E eE C R => ?_)
  subst eE
  have C : Cx Z (adA Z) E cX1_armOutOf "HandleFaces$Drawing" 3 rm_X1_armOutOf := C
  unfold X1_armOutOf at h
  show V Z (adA Z) E 3 w 0 [(0, rv Z r0), (1, iv x1)] []
  refine v_iconst C dX1_armOutOf_0 ?_
  refine v_istore_n C [(2, _), (0, _), (1, _)] dX1_armOutOf_1 2 rfl (by decide) rfl ?_
  refine v_sub [1, 2, 0] rfl ?_
  obtain ⟨m, h⟩ := h
  exact t_X1_armOutOf_l2 C R h0 (t_X1_armOutOf_b40 C R h0) (t_X1_armOutOf_b48 C R h0) m _ _ _ h
abbrev rm_X1_turnsRight : Room := { frames := 1, cells := 0, slots := 0, locals := 22 }
theorem mf_X1_turnsRight : MfB yX1_turnsRight cX1_turnsRight 6 (some .boolean) 0 := ⟨wd_905, wd_2, by decide, by decide, by decide +kernel⟩
def X1_turnsRight_l34 (r0 : Nat) (Q : Int → Wd → Prop) (e61 : Int → Int → Int → Wd → Prop) (e118 : Int → Int → Int → Wd → Prop) : Nat → Int → Int → Int → Int → Wd → Prop
  | 0 => fun _ _ _ _ _ => False
  | n + 1 => fun x1 x2 x3 x4 w => ((wr ((w r0 0) * (w r0 1)) ≤ wr x4 → e118 x1 x2 x3 w) ∧ (¬ wr ((w r0 0) * (w r0 1)) ≤ wr x4 → X1_armOutOf r0 x1 w (fun y3 w2 => ((wr y3 = wr (-1) → e61 x1 x2 x3 w2) ∧ (¬ wr y3 = wr (-1) → (ix (ixo y3 1) 20 ∧ (∀ y4, y4 = (ior x1 (isl 1 (rd w2 (r0 + 1) (ixo y3 1)))) → (ix y3 20 ∧ (ix (ixo y3 1) 20 ∧ (∀ y5, y5 = (ior x2 (isl (ian (ixo (isr x2 (rd w2 (r0 + 1) y3)) (isr (w2 r0 2) (isr y3 1))) 1) (rd w2 (r0 + 1) (ixo y3 1)))) → (X1_turnsRight_l34 r0 Q e61 e118 n) y4 y5 x3 (x4 + 1) w2))))))))))
theorem t_X1_turnsRight_l34 {Z : Zw} {E : Amb} {r0 : Nat} {Q : Int → Wd → Prop} {e61 : Int → Int → Int → Wd → Prop} {e118 : Int → Int → Int → Wd → Prop} (C : Cx Z (adA Z) E cX1_turnsRight "HandleFaces$Drawing" 6 rm_X1_turnsRight) (R : Rt Z E (some .boolean) (qI Z Q)) (h0 : sX1 r0) (he61 : ∀ (x1 : Int) (x2 : Int) (x3 : Int) (w : Wd), e61 x1 x2 x3 w → V Z (adA Z) E 6 w 61 [(0, rv Z r0), (1, iv x1), (2, iv x2), (3, iv x3)] []) (he118 : ∀ (x1 : Int) (x2 : Int) (x3 : Int) (w : Wd), e118 x1 x2 x3 w → V Z (adA Z) E 6 w 118 [(0, rv Z r0), (1, iv x1), (2, iv x2), (3, iv x3)] []) : ∀ (n : Nat) (x1 : Int) (x2 : Int) (x3 : Int) (x4 : Int) (w : Wd), X1_turnsRight_l34 r0 Q e61 e118 n x1 x2 x3 x4 w → V Z (adA Z) E 6 w 34 [(0, rv Z r0), (1, iv x1), (2, iv x2), (3, iv x3), (4, iv x4)] [] := by
  intro n
  induction n with
  | zero => intro x1 x2 x3 x4 w h; exact h.elim
  | succ n ih =>
    intro x1 x2 x3 x4 w h
    unfold X1_turnsRight_l34 at h
    refine v_iload C dX1_turnsRight_34 4 rfl ?_
    refine v_aload_n C dX1_turnsRight_36 0 rfl ?_
    refine g_X1_posts C h0 wd_35 dX1_turnsRight_37 ?_
    refine v_aload_n C dX1_turnsRight_40 0 rfl ?_
    refine g_X1_lines C h0 wd_43 dX1_turnsRight_41 ?_
    refine v_imul C dX1_turnsRight_44 ?_
    refine v_icmp_ge C 118 dX1_turnsRight_45 (by decide) (fun q => ?_) (fun q => ?_)
    · have h := h.1 q
      refine v_sub [0, 1, 2, 3] rfl ?_
      exact he118 _ _ _ _ h
    · have h := h.2 q
      refine v_aload_n C dX1_turnsRight_48 0 rfl ?_
      refine v_iload_n C dX1_turnsRight_49 1 rfl ?_
      refine v_calli C (rn_V C _ (m_X1_armOutOf h0 h) mf_X1_armOutOf wd_908 wp_36 wd_906 rfl rfl ⟨(Nat.le_of_ble_eq_true rfl), (Nat.le_of_ble_eq_true rfl)⟩ h0.1 rfl rfl rfl (Nat.le_of_ble_eq_true rfl) dX1_turnsRight_50) (fun r w h => ?_)
      refine v_istore C [(5, _), (0, _), (1, _), (2, _), (3, _), (4, _)] dX1_turnsRight_53 (by decide) rfl ?_
      refine v_iload C dX1_turnsRight_55 0 rfl ?_
      refine v_iconst C dX1_turnsRight_57 ?_
      refine v_icmp_ne C 64 dX1_turnsRight_58 (by decide) (fun q => ?_) (fun q => ?_)
      · have h := h.2 q
        refine v_iload_n C dX1_turnsRight_64 2 rfl ?_
        refine v_iconst C dX1_turnsRight_65 ?_
        refine v_aload_n C dX1_turnsRight_66 1 rfl ?_
        refine g_X1_ends C h0 wd_57 dX1_turnsRight_67 ?_
        refine v_iload C dX1_turnsRight_70 0 rfl ?_
        refine v_iconst C dX1_turnsRight_72 ?_
        refine v_ixor C dX1_turnsRight_73 ?_
        refine v_iald C h0.2.1 h.1 dX1_turnsRight_74 ?_
        have h := h.2
        refine v_ishl C dX1_turnsRight_75 ?_
        refine v_ior C dX1_turnsRight_76 ?_
        refine v_istore_n C [(1, _), (5, _), (0, _), (2, _), (3, _), (4, _)] dX1_turnsRight_77 1 rfl (by decide) rfl ?_
        have h := h _ rfl
        refine v_iload_n C dX1_turnsRight_78 3 rfl ?_
        refine v_iload_n C dX1_turnsRight_79 3 rfl ?_
        refine v_aload_n C dX1_turnsRight_80 2 rfl ?_
        refine g_X1_ends C h0 wd_57 dX1_turnsRight_81 ?_
        refine v_iload C dX1_turnsRight_84 1 rfl ?_
        refine v_iald C h0.2.1 h.1 dX1_turnsRight_86 ?_
        have h := h.2
        refine v_ishr C dX1_turnsRight_87 ?_
        refine v_aload_n C dX1_turnsRight_88 2 rfl ?_
        refine g_X1_twists C h0 wd_51 dX1_turnsRight_89 ?_
        refine v_iload C dX1_turnsRight_92 1 rfl ?_
        refine v_iconst C dX1_turnsRight_94 ?_
        refine v_ishr C dX1_turnsRight_95 ?_
        refine v_ishr C dX1_turnsRight_96 ?_
        refine v_ixor C dX1_turnsRight_97 ?_
        refine v_iconst C dX1_turnsRight_98 ?_
        refine v_iand C dX1_turnsRight_99 ?_
        refine v_aload_n C dX1_turnsRight_100 2 rfl ?_
        refine g_X1_ends C h0 wd_57 dX1_turnsRight_101 ?_
        refine v_iload C dX1_turnsRight_104 1 rfl ?_
        refine v_iconst C dX1_turnsRight_106 ?_
        refine v_ixor C dX1_turnsRight_107 ?_
        refine v_iald C h0.2.1 h.1 dX1_turnsRight_108 ?_
        have h := h.2
        refine v_ishl C dX1_turnsRight_109 ?_
        refine v_ior C dX1_turnsRight_110 ?_
        refine v_istore_n C [(2, _), (1, _), (5, _), (0, _), (3, _), (4, _)] dX1_turnsRight_111 2 rfl (by decide) rfl ?_
        have h := h _ rfl
        refine v_iinc C [(4, _), (2, _), (1, _), (5, _), (0, _), (3, _)] dX1_turnsRight_112 5 rfl (by decide) rfl ?_
        refine v_goto C 34 dX1_turnsRight_115 (by decide) ?_
        refine v_sub [4, 2, 1, 5, 0] rfl ?_
        exact ih _ _ _ _ _ h
      · have h := h.1 q
        refine v_sub [1, 2, 3, 4] rfl ?_
        exact he61 _ _ _ _ h
def X1_turnsRight_b118 (r0 : Nat) (Q : Int → Wd → Prop) (c6 : Int → Int → Int → Wd → Prop) (e124 : Int → Wd → Prop) (x1 : Int) (x2 : Int) (x3 : Int) (w : Wd) : Prop := c6 x1 x2 (x3 + 1) w
theorem t_X1_turnsRight_b118 {Z : Zw} {E : Amb} {r0 : Nat} {Q : Int → Wd → Prop} {c6 : Int → Int → Int → Wd → Prop} {e124 : Int → Wd → Prop} (C : Cx Z (adA Z) E cX1_turnsRight "HandleFaces$Drawing" 6 rm_X1_turnsRight) (R : Rt Z E (some .boolean) (qI Z Q)) (h0 : sX1 r0) (hc6 : ∀ (x1 : Int) (x2 : Int) (x3 : Int) (w : Wd), c6 x1 x2 x3 w → V Z (adA Z) E 6 w 6 [(0, rv Z r0), (1, iv x1), (2, iv x2), (3, iv x3)] []) (he124 : ∀ (x2 : Int) (w : Wd), e124 x2 w → V Z (adA Z) E 6 w 124 [(0, rv Z r0), (2, iv x2)] []) : ∀ (x1 : Int) (x2 : Int) (x3 : Int) (w : Wd), X1_turnsRight_b118 r0 Q c6 e124 x1 x2 x3 w → V Z (adA Z) E 6 w 118 [(0, rv Z r0), (1, iv x1), (2, iv x2), (3, iv x3)] [] := by
  intro x1 x2 x3 w h
  unfold X1_turnsRight_b118 at h
  refine v_iinc C [(3, _), (0, _), (1, _), (2, _)] dX1_turnsRight_118 3 rfl (by decide) rfl ?_
  refine v_goto C 6 dX1_turnsRight_121 (by decide) ?_
  refine v_sub [1, 2, 3, 0] rfl ?_
  exact hc6 _ _ _ _ h
def X1_turnsRight_b61 (r0 : Nat) (Q : Int → Wd → Prop) (c6 : Int → Int → Int → Wd → Prop) (e124 : Int → Wd → Prop) (x1 : Int) (x2 : Int) (x3 : Int) (w : Wd) : Prop := X1_turnsRight_b118 r0 Q c6 e124 x1 x2 x3 w
theorem t_X1_turnsRight_b61 {Z : Zw} {E : Amb} {r0 : Nat} {Q : Int → Wd → Prop} {c6 : Int → Int → Int → Wd → Prop} {e124 : Int → Wd → Prop} (C : Cx Z (adA Z) E cX1_turnsRight "HandleFaces$Drawing" 6 rm_X1_turnsRight) (R : Rt Z E (some .boolean) (qI Z Q)) (h0 : sX1 r0) (hc6 : ∀ (x1 : Int) (x2 : Int) (x3 : Int) (w : Wd), c6 x1 x2 x3 w → V Z (adA Z) E 6 w 6 [(0, rv Z r0), (1, iv x1), (2, iv x2), (3, iv x3)] []) (he124 : ∀ (x2 : Int) (w : Wd), e124 x2 w → V Z (adA Z) E 6 w 124 [(0, rv Z r0), (2, iv x2)] []) : ∀ (x1 : Int) (x2 : Int) (x3 : Int) (w : Wd), X1_turnsRight_b61 r0 Q c6 e124 x1 x2 x3 w → V Z (adA Z) E 6 w 61 [(0, rv Z r0), (1, iv x1), (2, iv x2), (3, iv x3)] [] := by
  intro x1 x2 x3 w h
  unfold X1_turnsRight_b61 at h
  refine v_goto C 118 dX1_turnsRight_61 (by decide) ?_
  exact t_X1_turnsRight_b118 C R h0 hc6 he124 _ _ _ _ h
def X1_turnsRight_l6 (r0 : Nat) (Q : Int → Wd → Prop) (e124 : Int → Wd → Prop) : Nat → Int → Int → Int → Wd → Prop
  | 0 => fun _ _ _ _ => False
  | n + 1 => fun x1 x2 x3 w => ((wr (w r0 0) ≤ wr x3 → e124 x2 w) ∧ (¬ wr (w r0 0) ≤ wr x3 → ((wr (ian (isr x1 x3) 1) = 0 → (∀ y1, y1 = (ior x1 (isl 1 x3)) → (∃ m, X1_turnsRight_l34 r0 Q (X1_turnsRight_b61 r0 Q (X1_turnsRight_l6 r0 Q e124 n) e124) (X1_turnsRight_b118 r0 Q (X1_turnsRight_l6 r0 Q e124 n) e124) m y1 x2 x3 0 w))) ∧ (¬ wr (ian (isr x1 x3) 1) = 0 → X1_turnsRight_b118 r0 Q (X1_turnsRight_l6 r0 Q e124 n) e124 x1 x2 x3 w))))
theorem t_X1_turnsRight_l6 {Z : Zw} {E : Amb} {r0 : Nat} {Q : Int → Wd → Prop} {e124 : Int → Wd → Prop} (C : Cx Z (adA Z) E cX1_turnsRight "HandleFaces$Drawing" 6 rm_X1_turnsRight) (R : Rt Z E (some .boolean) (qI Z Q)) (h0 : sX1 r0) (he124 : ∀ (x2 : Int) (w : Wd), e124 x2 w → V Z (adA Z) E 6 w 124 [(0, rv Z r0), (2, iv x2)] []) : ∀ (n : Nat) (x1 : Int) (x2 : Int) (x3 : Int) (w : Wd), X1_turnsRight_l6 r0 Q e124 n x1 x2 x3 w → V Z (adA Z) E 6 w 6 [(0, rv Z r0), (1, iv x1), (2, iv x2), (3, iv x3)] [] := by
  intro n
  induction n with
  | zero => intro x1 x2 x3 w h; exact h.elim
  | succ n ih =>
    intro x1 x2 x3 w h
    unfold X1_turnsRight_l6 at h
    refine v_iload_n C dX1_turnsRight_6 3 rfl ?_
    refine v_aload_n C dX1_turnsRight_7 0 rfl ?_
    refine g_X1_posts C h0 wd_35 dX1_turnsRight_8 ?_
    refine v_icmp_ge C 124 dX1_turnsRight_11 (by decide) (fun q => ?_) (fun q => ?_)
    · have h := h.1 q
      refine v_sub [0, 2] rfl ?_
      exact he124 _ _ h
    · have h := h.2 q
      refine v_iload_n C dX1_turnsRight_14 1 rfl ?_
      refine v_iload_n C dX1_turnsRight_15 3 rfl ?_
      refine v_ishr C dX1_turnsRight_16 ?_
      refine v_iconst C dX1_turnsRight_17 ?_
      refine v_iand C dX1_turnsRight_18 ?_
      refine v_if_eq C 25 dX1_turnsRight_19 (by decide) (fun q => ?_) (fun q => ?_)
      · have h := h.1 q
        refine v_iload_n C dX1_turnsRight_25 1 rfl ?_
        refine v_iconst C dX1_turnsRight_26 ?_
        refine v_iload_n C dX1_turnsRight_27 3 rfl ?_
        refine v_ishl C dX1_turnsRight_28 ?_
        refine v_ior C dX1_turnsRight_29 ?_
        refine v_istore_n C [(1, _), (0, _), (2, _), (3, _)] dX1_turnsRight_30 1 rfl (by decide) rfl ?_
        have h := h _ rfl
        refine v_iconst C dX1_turnsRight_31 ?_
        refine v_istore C [(4, _), (1, _), (0, _), (2, _), (3, _)] dX1_turnsRight_32 (by decide) rfl ?_
        refine v_sub [2, 1, 3, 4, 0] rfl ?_
        obtain ⟨m, h⟩ := h
        exact t_X1_turnsRight_l34 C R h0 (t_X1_turnsRight_b61 C R h0 ih he124) (t_X1_turnsRight_b118 C R h0 ih he124) m _ _ _ _ _ h
      · have h := h.2 q
        refine v_goto C 118 dX1_turnsRight_22 (by decide) ?_
        exact t_X1_turnsRight_b118 C R h0 ih he124 _ _ _ _ h
def X1_turnsRight_l126 (r0 : Nat) (Q : Int → Wd → Prop) (e169 : Wd → Prop) (e177 : Wd → Prop) : Nat → Int → Int → Wd → Prop
  | 0 => fun _ _ _ => False
  | n + 1 => fun x2 x3 w => ((wr (w r0 1) ≤ wr x3 → e177 w) ∧ (¬ wr (w r0 1) ≤ wr x3 → (ix (2 * x3) 20 ∧ (ix ((2 * x3) + 1) 20 ∧ ((wr (ian (ixo (ixo (isr x2 (rd w (r0 + 1) (2 * x3))) (isr x2 (rd w (r0 + 1) ((2 * x3) + 1)))) (isr (w r0 2) x3)) 1) = 0 → (X1_turnsRight_l126 r0 Q e169 e177 n) x2 (x3 + 1) w) ∧ (¬ wr (ian (ixo (ixo (isr x2 (rd w (r0 + 1) (2 * x3))) (isr x2 (rd w (r0 + 1) ((2 * x3) + 1)))) (isr (w r0 2) x3)) 1) = 0 → e169 w))))))
theorem t_X1_turnsRight_l126 {Z : Zw} {E : Amb} {r0 : Nat} {Q : Int → Wd → Prop} {e169 : Wd → Prop} {e177 : Wd → Prop} (C : Cx Z (adA Z) E cX1_turnsRight "HandleFaces$Drawing" 6 rm_X1_turnsRight) (R : Rt Z E (some .boolean) (qI Z Q)) (h0 : sX1 r0) (he169 : ∀ (w : Wd), e169 w → V Z (adA Z) E 6 w 169 [] []) (he177 : ∀ (w : Wd), e177 w → V Z (adA Z) E 6 w 177 [] []) : ∀ (n : Nat) (x2 : Int) (x3 : Int) (w : Wd), X1_turnsRight_l126 r0 Q e169 e177 n x2 x3 w → V Z (adA Z) E 6 w 126 [(0, rv Z r0), (2, iv x2), (3, iv x3)] [] := by
  intro n
  induction n with
  | zero => intro x2 x3 w h; exact h.elim
  | succ n ih =>
    intro x2 x3 w h
    unfold X1_turnsRight_l126 at h
    refine v_iload_n C dX1_turnsRight_126 2 rfl ?_
    refine v_aload_n C dX1_turnsRight_127 0 rfl ?_
    refine g_X1_lines C h0 wd_43 dX1_turnsRight_128 ?_
    refine v_icmp_ge C 177 dX1_turnsRight_131 (by decide) (fun q => ?_) (fun q => ?_)
    · have h := h.1 q
      refine v_sub [] rfl ?_
      exact he177 _ h
    · have h := h.2 q
      refine v_iload_n C dX1_turnsRight_134 1 rfl ?_
      refine v_aload_n C dX1_turnsRight_135 0 rfl ?_
      refine g_X1_ends C h0 wd_57 dX1_turnsRight_136 ?_
      refine v_iconst C dX1_turnsRight_139 ?_
      refine v_iload_n C dX1_turnsRight_140 2 rfl ?_
      refine v_imul C dX1_turnsRight_141 ?_
      refine v_iald C h0.2.1 h.1 dX1_turnsRight_142 ?_
      have h := h.2
      refine v_ishr C dX1_turnsRight_143 ?_
      refine v_iload_n C dX1_turnsRight_144 1 rfl ?_
      refine v_aload_n C dX1_turnsRight_145 0 rfl ?_
      refine g_X1_ends C h0 wd_57 dX1_turnsRight_146 ?_
      refine v_iconst C dX1_turnsRight_149 ?_
      refine v_iload_n C dX1_turnsRight_150 2 rfl ?_
      refine v_imul C dX1_turnsRight_151 ?_
      refine v_iconst C dX1_turnsRight_152 ?_
      refine v_iadd C dX1_turnsRight_153 ?_
      refine v_iald C h0.2.1 h.1 dX1_turnsRight_154 ?_
      have h := h.2
      refine v_ishr C dX1_turnsRight_155 ?_
      refine v_ixor C dX1_turnsRight_156 ?_
      refine v_aload_n C dX1_turnsRight_157 0 rfl ?_
      refine g_X1_twists C h0 wd_51 dX1_turnsRight_158 ?_
      refine v_iload_n C dX1_turnsRight_161 2 rfl ?_
      refine v_ishr C dX1_turnsRight_162 ?_
      refine v_ixor C dX1_turnsRight_163 ?_
      refine v_iconst C dX1_turnsRight_164 ?_
      refine v_iand C dX1_turnsRight_165 ?_
      refine v_if_eq C 171 dX1_turnsRight_166 (by decide) (fun q => ?_) (fun q => ?_)
      · have h := h.1 q
        refine v_iinc C [(3, _), (0, _), (2, _)] dX1_turnsRight_171 2 rfl (by decide) rfl ?_
        refine v_goto C 126 dX1_turnsRight_174 (by decide) ?_
        refine v_sub [1, 2, 0] rfl ?_
        exact ih _ _ _ h
      · have h := h.2 q
        refine v_sub [] rfl ?_
        exact he169 _ h
def X1_turnsRight_b169 (r0 : Nat) (Q : Int → Wd → Prop) (w : Wd) : Prop := Q 0 w
theorem t_X1_turnsRight_b169 {Z : Zw} {E : Amb} {r0 : Nat} {Q : Int → Wd → Prop} (C : Cx Z (adA Z) E cX1_turnsRight "HandleFaces$Drawing" 6 rm_X1_turnsRight) (R : Rt Z E (some .boolean) (qI Z Q)) (h0 : sX1 r0) : ∀ (w : Wd), X1_turnsRight_b169 r0 Q w → V Z (adA Z) E 6 w 169 [] [] := by
  intro w h
  unfold X1_turnsRight_b169 at h
  refine v_iconst C dX1_turnsRight_169 ?_
  exact v_zret C R (Or.inl rfl) h dX1_turnsRight_170
def X1_turnsRight_b177 (r0 : Nat) (Q : Int → Wd → Prop) (w : Wd) : Prop := Q 1 w
theorem t_X1_turnsRight_b177 {Z : Zw} {E : Amb} {r0 : Nat} {Q : Int → Wd → Prop} (C : Cx Z (adA Z) E cX1_turnsRight "HandleFaces$Drawing" 6 rm_X1_turnsRight) (R : Rt Z E (some .boolean) (qI Z Q)) (h0 : sX1 r0) : ∀ (w : Wd), X1_turnsRight_b177 r0 Q w → V Z (adA Z) E 6 w 177 [] [] := by
  intro w h
  unfold X1_turnsRight_b177 at h
  refine v_iconst C dX1_turnsRight_177 ?_
  exact v_zret C R (Or.inr rfl) h dX1_turnsRight_178
def X1_turnsRight_b124 (r0 : Nat) (Q : Int → Wd → Prop) (x2 : Int) (w : Wd) : Prop := (∃ m, X1_turnsRight_l126 r0 Q (X1_turnsRight_b169 r0 Q) (X1_turnsRight_b177 r0 Q) m x2 0 w)
theorem t_X1_turnsRight_b124 {Z : Zw} {E : Amb} {r0 : Nat} {Q : Int → Wd → Prop} (C : Cx Z (adA Z) E cX1_turnsRight "HandleFaces$Drawing" 6 rm_X1_turnsRight) (R : Rt Z E (some .boolean) (qI Z Q)) (h0 : sX1 r0) : ∀ (x2 : Int) (w : Wd), X1_turnsRight_b124 r0 Q x2 w → V Z (adA Z) E 6 w 124 [(0, rv Z r0), (2, iv x2)] [] := by
  intro x2 w h
  unfold X1_turnsRight_b124 at h
  refine v_iconst C dX1_turnsRight_124 ?_
  refine v_istore_n C [(3, _), (0, _), (2, _)] dX1_turnsRight_125 3 rfl (by decide) rfl ?_
  refine v_sub [1, 2, 0] rfl ?_
  obtain ⟨m, h⟩ := h
  exact t_X1_turnsRight_l126 C R h0 (t_X1_turnsRight_b169 C R h0) (t_X1_turnsRight_b177 C R h0) m _ _ _ h
def X1_turnsRight (r0 : Nat) (w : Wd) (Q : Int → Wd → Prop) : Prop := (∃ m, X1_turnsRight_l6 r0 Q (X1_turnsRight_b124 r0 Q) m 0 0 0 w)
theorem m_X1_turnsRight {Z : Zw} {l : Launch} {r0 : Nat} {w : Wd} {Q : Int → Wd → Prop} (h0 : sX1 r0) (h : X1_turnsRight r0 w Q) : CtQ Z l yX1_turnsRight cX1_turnsRight 6 (some .boolean) rm_X1_turnsRight [rv Z r0] w (qI Z Q) := by
  refine ct_of (by decide) (Nat.le_of_ble_eq_true rfl) (fun E eE C R => ?_)
  subst eE
  have C : Cx Z (adA Z) E cX1_turnsRight "HandleFaces$Drawing" 6 rm_X1_turnsRight := C
  unfold X1_turnsRight at h
  show V Z (adA Z) E 6 w 0 [(0, rv Z r0)] []
  refine v_iconst C dX1_turnsRight_0 ?_
  refine v_istore_n C [(1, _), (0, _)] dX1_turnsRight_1 1 rfl (by decide) rfl ?_
  refine v_iconst C dX1_turnsRight_2 ?_
  refine v_istore_n C [(2, _), (1, _), (0, _)] dX1_turnsRight_3 2 rfl (by decide) rfl ?_
  refine v_iconst C dX1_turnsRight_4 ?_
  refine v_istore_n C [(3, _), (2, _), (1, _), (0, _)] dX1_turnsRight_5 3 rfl (by decide) rfl ?_
  refine v_sub [3, 2, 1, 0] rfl ?_
  obtain ⟨m, h⟩ := h
  exact t_X1_turnsRight_l6 C R h0 (t_X1_turnsRight_b124 C R h0) m _ _ _ _ h
abbrev rm_X1_networkKey : Room := { frames := 0, cells := 0, slots := 0, locals := 0 }
theorem mf_X1_networkKey : MfB yX1_networkKey cX1_networkKey 4 (some .long) 0 := ⟨wd_706, wd_2, by decide, by decide, by decide +kernel⟩
def X1_networkKey_l8 (r0 : Nat) (Q : Int → Wd → Prop) (e47 : Int → Wd → Prop) : Nat → Int → Int → Wd → Prop
  | 0 => fun _ _ _ => False
  | n + 1 => fun x1 x3 w => ((wr 20 ≤ wr x3 → e47 x1 w) ∧ (¬ wr 20 ≤ wr x3 → ((wr (2 * (w r0 1)) ≤ wr x3 → (∀ y2, y2 = (lor (lsl x1 3) (wr 7)) → (X1_networkKey_l8 r0 Q e47 n) y2 (x3 + 1) w)) ∧ (¬ wr (2 * (w r0 1)) ≤ wr x3 → (ix x3 20 ∧ (∀ y3, y3 = (lor (lsl x1 3) (wr (rd w (r0 + 1) x3))) → (X1_networkKey_l8 r0 Q e47 n) y3 (x3 + 1) w))))))
theorem t_X1_networkKey_l8 {Z : Zw} {E : Amb} {r0 : Nat} {Q : Int → Wd → Prop} {e47 : Int → Wd → Prop} (C : Cx Z (adA Z) E cX1_networkKey "HandleFaces$Drawing" 4 rm_X1_networkKey) (R : Rt Z E (some .long) (qL Z Q)) (h0 : sX1 r0) (he47 : ∀ (x1 : Int) (w : Wd), e47 x1 w → V Z (adA Z) E 4 w 47 [(1, jv x1)] []) : ∀ (n : Nat) (x1 : Int) (x3 : Int) (w : Wd), X1_networkKey_l8 r0 Q e47 n x1 x3 w → V Z (adA Z) E 4 w 8 [(0, rv Z r0), (1, jv x1), (3, iv x3)] [] := by
  intro n
  induction n with
  | zero => intro x1 x3 w h; exact h.elim
  | succ n ih =>
    intro x1 x3 w h
    unfold X1_networkKey_l8 at h
    refine v_iload_n C dX1_networkKey_8 2 rfl ?_
    refine v_bipush C dX1_networkKey_9 (by decide) ?_
    refine v_icmp_ge C 47 dX1_networkKey_11 (by decide) (fun q => ?_) (fun q => ?_)
    · have h := h.1 q
      refine v_sub [1] rfl ?_
      exact he47 _ _ h
    · have h := h.2 q
      refine v_lload_n C dX1_networkKey_14 1 rfl ?_
      refine v_iconst C dX1_networkKey_15 ?_
      refine v_lshl C dX1_networkKey_16 ?_
      refine v_iload_n C dX1_networkKey_17 2 rfl ?_
      refine v_iconst C dX1_networkKey_18 ?_
      refine v_aload_n C dX1_networkKey_19 0 rfl ?_
      refine g_X1_lines C h0 wd_43 dX1_networkKey_20 ?_
      refine v_imul C dX1_networkKey_23 ?_
      refine v_icmp_ge C 36 dX1_networkKey_24 (by decide) (fun q => ?_) (fun q => ?_)
      · have h := h.1 q
        refine v_bipush C dX1_networkKey_36 (by decide) ?_
        refine v_i2l C dX1_networkKey_38 ?_
        refine v_lor C dX1_networkKey_39 ?_
        refine v_lstore_n C [(1, _), (0, _), (3, _)] dX1_networkKey_40 1 rfl (by decide) rfl ?_
        have h := h _ rfl
        refine v_iinc C [(3, _), (1, _), (0, _)] dX1_networkKey_41 2 rfl (by decide) rfl ?_
        refine v_goto C 8 dX1_networkKey_44 (by decide) ?_
        refine v_sub [2, 1, 0] rfl ?_
        exact ih _ _ _ h
      · have h := h.2 q
        refine v_aload_n C dX1_networkKey_27 0 rfl ?_
        refine g_X1_ends C h0 wd_57 dX1_networkKey_28 ?_
        refine v_iload_n C dX1_networkKey_31 2 rfl ?_
        refine v_iald C h0.2.1 h.1 dX1_networkKey_32 ?_
        have h := h.2
        refine v_goto C 38 dX1_networkKey_33 (by decide) ?_
        refine v_i2l C dX1_networkKey_38 ?_
        refine v_lor C dX1_networkKey_39 ?_
        refine v_lstore_n C [(1, _), (0, _), (3, _)] dX1_networkKey_40 1 rfl (by decide) rfl ?_
        have h := h _ rfl
        refine v_iinc C [(3, _), (1, _), (0, _)] dX1_networkKey_41 2 rfl (by decide) rfl ?_
        refine v_goto C 8 dX1_networkKey_44 (by decide) ?_
        refine v_sub [2, 1, 0] rfl ?_
        exact ih _ _ _ h
def X1_networkKey_b47 (r0 : Nat) (Q : Int → Wd → Prop) (x1 : Int) (w : Wd) : Prop := Q (wl x1) w
theorem t_X1_networkKey_b47 {Z : Zw} {E : Amb} {r0 : Nat} {Q : Int → Wd → Prop} (C : Cx Z (adA Z) E cX1_networkKey "HandleFaces$Drawing" 4 rm_X1_networkKey) (R : Rt Z E (some .long) (qL Z Q)) (h0 : sX1 r0) : ∀ (x1 : Int) (w : Wd), X1_networkKey_b47 r0 Q x1 w → V Z (adA Z) E 4 w 47 [(1, jv x1)] [] := by
  intro x1 w h
  unfold X1_networkKey_b47 at h
  refine v_lload_n C dX1_networkKey_47 0 rfl ?_
  exact v_lret C R h dX1_networkKey_48
def X1_networkKey (r0 : Nat) (w : Wd) (Q : Int → Wd → Prop) : Prop := (∀ y1, y1 = (wr (w r0 0)) → (∃ m, X1_networkKey_l8 r0 Q (X1_networkKey_b47 r0 Q) m y1 0 w))
theorem m_X1_networkKey {Z : Zw} {l : Launch} {r0 : Nat} {w : Wd} {Q : Int → Wd → Prop} (h0 : sX1 r0) (h : X1_networkKey r0 w Q) : CtQ Z l yX1_networkKey cX1_networkKey 4 (some .long) rm_X1_networkKey [rv Z r0] w (qL Z Q) := by
  refine ct_of (by decide) (Nat.le_of_ble_eq_true rfl) (fun E eE C R => ?_)
  subst eE
  have C : Cx Z (adA Z) E cX1_networkKey "HandleFaces$Drawing" 4 rm_X1_networkKey := C
  unfold X1_networkKey at h
  show V Z (adA Z) E 4 w 0 [(0, rv Z r0)] []
  refine v_aload_n C dX1_networkKey_0 0 rfl ?_
  refine g_X1_posts C h0 wd_35 dX1_networkKey_1 ?_
  refine v_i2l C dX1_networkKey_4 ?_
  refine v_lstore_n C [(1, _), (0, _)] dX1_networkKey_5 1 rfl (by decide) rfl ?_
  have h := h _ rfl
  refine v_iconst C dX1_networkKey_6 ?_
  refine v_istore_n C [(3, _), (1, _), (0, _)] dX1_networkKey_7 3 rfl (by decide) rfl ?_
  refine v_sub [2, 1, 0] rfl ?_
  obtain ⟨m, h⟩ := h
  exact t_X1_networkKey_l8 C R h0 (t_X1_networkKey_b47 C R h0) m _ _ _ h
abbrev rm_J6_bitCount_0f7a4 : Room := { frames := 0, cells := 0, slots := 0, locals := 0 }
theorem mf_J6_bitCount_0f7a4 : MfB yJ6_bitCount_0f7a4 cJ6_bitCount_0f7a4 1 (some .int) 1 := ⟨wd_941, wd_20, by decide, by decide, by decide +kernel⟩
def J6_bitCount_0f7a4 (x0 : Int) (w : Wd) (Q : Int → Wd → Prop) : Prop := (∀ y1, y1 = (x0 - (ian (ius x0 1) 1431655765)) → (∀ y2, y2 = ((ian y1 858993459) + (ian (ius y1 2) 858993459)) → (∀ y3, y3 = (ian (y2 + (ius y2 4)) 252645135) → (∀ y4, y4 = (y3 + (ius y3 8)) → (∀ y5, y5 = (y4 + (ius y4 16)) → Q (wr (ian y5 63)) w)))))
theorem m_J6_bitCount_0f7a4 {Z : Zw} {l : Launch} {x0 : Int} {w : Wd} {Q : Int → Wd → Prop} (h : J6_bitCount_0f7a4 x0 w Q) : CtQ Z l yJ6_bitCount_0f7a4 cJ6_bitCount_0f7a4 1 (some .int) rm_J6_bitCount_0f7a4 [iv x0] w (qI Z Q) := by
  refine ct_of (by decide) (Nat.le_of_ble_eq_true rfl) (fun E eE C R => ?_)
  subst eE
  have C : Cx Z (adA Z) E cJ6_bitCount_0f7a4 "java/lang/Integer" 1 rm_J6_bitCount_0f7a4 := C
  unfold J6_bitCount_0f7a4 at h
  show V Z (adA Z) E 1 w 0 [(0, iv x0)] []
  refine v_iload_n C dJ6_bitCount_0f7a4_0 0 rfl ?_
  refine v_iload_n C dJ6_bitCount_0f7a4_1 0 rfl ?_
  refine v_iconst C dJ6_bitCount_0f7a4_2 ?_
  refine v_iushr C dJ6_bitCount_0f7a4_3 ?_
  refine v_ldcw C 1431655765 wd_942 (by decide) dJ6_bitCount_0f7a4_4 ?_
  refine v_iand C dJ6_bitCount_0f7a4_7 ?_
  refine v_isub C dJ6_bitCount_0f7a4_8 ?_
  refine v_istore_n C [(0, _)] dJ6_bitCount_0f7a4_9 0 rfl (by decide) rfl ?_
  have h := h _ rfl
  refine v_iload_n C dJ6_bitCount_0f7a4_10 0 rfl ?_
  refine v_ldcw C 858993459 wd_943 (by decide) dJ6_bitCount_0f7a4_11 ?_
  refine v_iand C dJ6_bitCount_0f7a4_14 ?_
  refine v_iload_n C dJ6_bitCount_0f7a4_15 0 rfl ?_
  refine v_iconst C dJ6_bitCount_0f7a4_16 ?_
  refine v_iushr C dJ6_bitCount_0f7a4_17 ?_
  refine v_ldcw C 858993459 wd_943 (by decide) dJ6_bitCount_0f7a4_18 ?_
  refine v_iand C dJ6_bitCount_0f7a4_21 ?_
  refine v_iadd C dJ6_bitCount_0f7a4_22 ?_
  refine v_istore_n C [(0, _)] dJ6_bitCount_0f7a4_23 0 rfl (by decide) rfl ?_
  have h := h _ rfl
  refine v_iload_n C dJ6_bitCount_0f7a4_24 0 rfl ?_
  refine v_iload_n C dJ6_bitCount_0f7a4_25 0 rfl ?_
  refine v_iconst C dJ6_bitCount_0f7a4_26 ?_
  refine v_iushr C dJ6_bitCount_0f7a4_27 ?_
  refine v_iadd C dJ6_bitCount_0f7a4_28 ?_
  refine v_ldcw C 252645135 wd_944 (by decide) dJ6_bitCount_0f7a4_29 ?_
  refine v_iand C dJ6_bitCount_0f7a4_32 ?_
  refine v_istore_n C [(0, _)] dJ6_bitCount_0f7a4_33 0 rfl (by decide) rfl ?_
  have h := h _ rfl
  refine v_iload_n C dJ6_bitCount_0f7a4_34 0 rfl ?_
  refine v_iload_n C dJ6_bitCount_0f7a4_35 0 rfl ?_
  refine v_bipush C dJ6_bitCount_0f7a4_36 (by decide) ?_
  refine v_iushr C dJ6_bitCount_0f7a4_38 ?_
  refine v_iadd C dJ6_bitCount_0f7a4_39 ?_
  refine v_istore_n C [(0, _)] dJ6_bitCount_0f7a4_40 0 rfl (by decide) rfl ?_
  have h := h _ rfl
  refine v_iload_n C dJ6_bitCount_0f7a4_41 0 rfl ?_
  refine v_iload_n C dJ6_bitCount_0f7a4_42 0 rfl ?_
  refine v_bipush C dJ6_bitCount_0f7a4_43 (by decide) ?_
  refine v_iushr C dJ6_bitCount_0f7a4_45 ?_
  refine v_iadd C dJ6_bitCount_0f7a4_46 ?_
  refine v_istore_n C [(0, _)] dJ6_bitCount_0f7a4_47 0 rfl (by decide) rfl ?_
  have h := h _ rfl
  refine v_iload_n C dJ6_bitCount_0f7a4_48 0 rfl ?_
  refine v_bipush C dJ6_bitCount_0f7a4_49 (by decide) ?_
  refine v_iand C dJ6_bitCount_0f7a4_51 ?_
  exact v_iret C R h dJ6_bitCount_0f7a4_52
