/-! TEXTS: the JDK's String.length, charAt over the four constant texts -/
def strC (i : Nat) (x : Int) : Int := ((strB.getD i []).getD (wr x).toNat 0).toInt
theorem str_i2c : ∀ i, i < 4 → ∀ j, j < strL.getD i 0 → (((strB.getD i []).getD j 0 &&& 255).toUInt32 % 65536).toInt32 = (strB.getD i []).getD j 0 := by decide +kernel
theorem str_nc : ∀ i, i < 4 → ∀ j, j < strL.getD i 0 → narrow .char (.int ((strB.getD i []).getD j 0)) = .int ((strB.getD i []).getD j 0) := by decide +kernel
section VTEXT
variable {Z : Zw} {A : Nat → Prop} {E : Amb} {cc : ByteArray} {own : String} {nL pc : Nat} {rm : Room} {w : Wd} {lv : List (Nat × Value)} {st : List Value}
theorem v_str0 (C : Cx Z A E cc "HandleFaces$Scanner" nL rm) (d : decode cc pc = .ok (.ldc 85, 2)) (kk : V Z A E nL w (pc + 2) lv (rv Z 91 :: st)) : V Z A E nL w pc lv st := fun H locs ls hP hS hl => va_ldcS C.x C.b C.o C.s.2.2.2.2.1 d (kk H locs ls hP hS hl)
theorem v_str1 (C : Cx Z A E cc "HandleFaces$Scanner" nL rm) (d : decode cc pc = .ok (.ldc 91, 2)) (kk : V Z A E nL w (pc + 2) lv (rv Z 92 :: st)) : V Z A E nL w pc lv st := fun H locs ls hP hS hl => va_ldcS C.x C.b C.o C.s.2.2.2.2.2.1 d (kk H locs ls hP hS hl)
theorem v_str2 (C : Cx Z A E cc "HandleFaces$Scanner" nL rm) (d : decode cc pc = .ok (.ldc 93, 2)) (kk : V Z A E nL w (pc + 2) lv (rv Z 93 :: st)) : V Z A E nL w pc lv st := fun H locs ls hP hS hl => va_ldcS C.x C.b C.o C.s.2.2.2.2.2.2.1 d (kk H locs ls hP hS hl)
theorem v_str3 (C : Cx Z A E cc "HandleFaces$Scanner" nL rm) (d : decode cc pc = .ok (.ldc 95, 2)) (kk : V Z A E nL w (pc + 2) lv (rv Z 94 :: st)) : V Z A E nL w pc lv st := fun H locs ls hP hS hl => va_ldcS C.x C.b C.o C.s.2.2.2.2.2.2.2.1 d (kk H locs ls hP hS hl)
theorem v_tval (C : Cx Z A E cc own nL rm) {i idx : Nat} (hi : i < 4) (lk : Cond.fieldLink own idx "java/lang/String" "value" "[B" ∈ uw) (d : decode cc pc = .ok (.getfield idx, 3)) (kk : V Z A E nL w (pc + 3) lv (rv Z (95 + i) :: st)) : V Z A E nL w pc lv (rv Z (91 + i) :: st) := fun H locs ls hP hS hl => vk_getf C.x C.b (C.s.2.2.2.1.1 i hi).2.2.1 hS C.o (C.t _ lk) (fun _ h => h) d (kk H locs ls hP hS hl)
theorem v_tcod (C : Cx Z A E cc own nL rm) {i idx : Nat} (hi : i < 4) (lk : Cond.fieldLink own idx "java/lang/String" "coder" "B" ∈ uw) (d : decode cc pc = .ok (.getfield idx, 3)) (kk : V Z A E nL w (pc + 3) lv (iv 0 :: st)) : V Z A E nL w pc lv (rv Z (91 + i) :: st) := fun H locs ls hP hS hl => vk_getf C.x C.b (C.s.2.2.2.1.1 i hi).2.1 hS C.o (C.t _ lk) (fun _ h => h) d (kk H locs ls hP hS hl)
theorem v_tlen (C : Cx Z A E cc own nL rm) {i : Nat} (hi : i < 4) (d : decode cc pc = .ok (.arraylength, 1)) (kk : V Z A E nL w (pc + 1) lv (iv (strL.getD i 0 : Nat) :: st)) : V Z A E nL w pc lv (rv Z (95 + i) :: st) := fun H locs ls hP hS hl => va_tlen (v := Int32.ofInt (strL.getD i 0 : Nat)) C.x C.b (C.s.2.2.2.1.1 i hi).2.2.2 hS (Int32.ofInt_eq_ofNat).symm d (kk H locs ls hP hS hl)
theorem v_tbal (C : Cx Z A E cc own nL rm) {i : Nat} {x : Int} (hi : i < 4) (hx : ix x (strL.getD i 0)) (d : decode cc pc = .ok (.baload, 1)) (kk : V Z A E nL w (pc + 1) lv (iv (strC i x) :: st)) : V Z A E nL w pc lv (iv x :: rv Z (95 + i) :: st) := fun H locs ls hP hS hl => va_tb C.x C.b (C.s.2.2.2.1.1 i hi).2.2.2 hS (ix_vp hx) (by rw [cl_nat]; show Value.int _ = Value.int (Int32.ofInt (Int32.toInt _)); rw [oi]) d (kk H locs ls hP hS hl)
theorem v_tcs (C : Cx Z A E cc own nL rm) {idx : Nat} (lk : Cond.fieldLink own idx "java/lang/String" "COMPACT_STRINGS" "Z" ∈ uw) (d : decode cc pc = .ok (.getstatic idx, 3)) (kk : V Z A E nL w (pc + 3) lv (iv 1 :: st)) : V Z A E nL w pc lv st := fun H locs ls hP hS hl => va_gets C.x C.b C.s.2.2.2.2.2.2.2.2.1 hS C.o (C.t _ lk) (fun _ h => h) d (kk H locs ls hP hS hl)
theorem v_tsi (C : Cx Z A E cc own nL rm) {idx : Nat} (lk : Cond.fieldLink own idx "jdk/internal/util/Preconditions" "SIOOBE_FORMATTER" "Ljava/util/function/BiFunction;" ∈ uw) (d : decode cc pc = .ok (.getstatic idx, 3)) (kk : ∀ v : Value, (v = .null ∨ ∃ t, v = .ref t) → V Z A E nL w (pc + 3) lv (v :: st)) : V Z A E nL w pc lv st := fun H locs ls hP hS hl => by
  rcases C.s.2.2.2.2.2.2.2.2.2 with q | ⟨t, q⟩
  · exact va_gets C.x C.b q hS C.o (C.t _ lk) (fun _ h => h) d (kk _ (Or.inl rfl) H locs ls hP hS hl)
  · exact va_gets C.x C.b q hS C.o (C.t _ lk) (fun _ h => h) d (kk _ (Or.inr ⟨t, rfl⟩) H locs ls hP hS hl)
theorem v_i2c (C : Cx Z A E cc own nL rm) {a b : Int} (d : decode cc pc = .ok (.i2c, 1)) (hv : ((Int32.ofInt a).toUInt32 % 65536).toInt32 = Int32.ofInt b) (k : V Z A E nL w (pc + 1) lv (iv b :: st)) : V Z A E nL w pc lv (iv a :: st) := fun H locs ls hP hS hl => lv_i2c C.x C.b d hv (k H locs ls hP hS hl)
theorem v_xret (C : Cx Z (adA Z) E cc own nL rm) {Q : Int → Wd → Prop} {x : Int} {ty : FieldType} (R : Rt Z E (some ty) (qI Z Q)) (hn : narrow ty (iv x) = iv x) (h : Q (wr x) w) (d : decode cc pc = .ok (.ireturn, 1)) : V Z (adA Z) E nL w pc lv [iv x] := fun H locs ls hP hS hl => by
  rw [R.2.2]
  exact W.zret C.x C.b R.1 hn (fun t ht hW => ⟨⟨_, w, rfl, h, by show va_P _ _ _ t.heap; rw [ht]; exact hP⟩, hS.F ht⟩) hS.2.2 d R.2.1
theorem rn_T (C : Cx Z A E cc own nL rm) {y : MethodName} {bytes : ByteArray} {mL n idx i : Nat} {ret : Option FieldType} {rm' : Room} (As : List Value) {stk : List Value} {Qc : Array Value → State → Outcome → State → Prop} (hi4 : i < 4) (hy : y.cls = "java/lang/String")
    (hM : CtQ Z (eL E) y bytes mL ret rm' (rv Z (91 + i) :: As) w Qc) (F : MfB y bytes mL ret n) (hi : Cond.instanceMethod y ∈ uw) (hsel : Cond.selects y.cls y y ∈ uw) (lk : Cond.methodLink own idx y ∈ uw) (hc : rm'.cells = 0) (hs : rm'.slots = 0) (hR : rm'.frames + 1 ≤ rm.frames ∧ 8 + (mL + 11) + rm'.locals ≤ rm.locals)
    (hn : As.length = n) (he : stk = As.reverse ++ rv Z (91 + i) :: st) (hst : (st.map fun v => v.category).sum ≤ 8) (d : decode cc pc = .ok (.invokevirtual idx, 3)) : Rn Z A E nL w pc lv stk st (Qc (rv Z (91 + i) :: As).toArray) := fun H locs ls hP hS hl => by
  rw [he]
  have hp := pre_of C (rv Z (91 + i) :: As) hP hS
  exact va_runV (As := As) (rest := st) (C := y.cls) (n := n) (nL := nL) (Ts := uw) ⟨C.x, C.b, C.m, C.o, C.t⟩ hM ⟨cb_of C F lk hc hs hR, C.t _ hi, C.t _ hsel⟩ ⟨hp.1, by rw [hy]; exact vk_recv (adK := fun i => Z.2.1 (91 + i)) (i := i) C.s.2.2.2.1 hi4 hS, hp.2⟩ rfl hn hl.1 rfl (lv_room hst) d C.n
end VTEXT
abbrev rmt (f l : Nat) : Room := { frames := f, cells := 0, slots := 0, locals := l }
theorem mf_J0_coder : MfB yJ0_coder_7d493 cJ0_coder_7d493 1 (some .byte) 0 := ⟨wd_460, wd_14, by decide, by decide, by decide +kernel⟩
theorem mf_J0_isLatin1 : MfB yJ0_isLatin1_aae02 cJ0_isLatin1_aae02 1 (some .boolean) 0 := ⟨wd_470, wd_14, by decide, by decide, by decide +kernel⟩
theorem mf_J0_length : MfB yJ0_length_8abf5 cJ0_length_8abf5 1 (some .int) 0 := ⟨wd_456, wd_14, by decide, by decide, by decide +kernel⟩
theorem mf_J0_charAt : MfB yJ0_charAt_5068e cJ0_charAt_5068e 2 (some .char) 1 := ⟨wd_466, wd_14, by decide, by decide, by decide +kernel⟩
theorem mf_J0_checkIndex : MfB yJ0_checkIndex_df160 cJ0_checkIndex_df160 2 none 2 := ⟨wd_476, wd_14, by decide, by decide, by decide +kernel⟩
theorem mf_J1_charAt : MfB yJ1_charAt_3b067 cJ1_charAt_3b067 2 (some .char) 2 := ⟨wd_473, wd_15, by decide, by decide, by decide +kernel⟩
theorem mf_J3_checkIndex : MfB yJ3_checkIndex_8e157 cJ3_checkIndex_8e157 3 (some .int) 3 := ⟨wd_481, wd_16, by decide, by decide, by decide +kernel⟩
theorem m_J0_coder {Z : Zw} {l : Launch} {i : Nat} {w : Wd} {Q : Int → Wd → Prop} (hi : i < 4) (h : Q 0 w) : CtQ Z l yJ0_coder_7d493 cJ0_coder_7d493 1 (some .byte) (rmt 0 0) [rv Z (91 + i)] w (qI Z Q) := by
  refine ct_of (by decide) (Nat.le_of_ble_eq_true rfl) (fun E eE C R => ?_)
  subst eE
  have C : Cx Z (adA Z) E cJ0_coder_7d493 "java/lang/String" 1 (rmt 0 0) := C
  show V Z (adA Z) E 1 w 0 [(0, rv Z (91 + i))] []
  refine v_tcs C wd_461 dJ0_coder_7d493_0 ?_
  refine v_if_eq C 13 dJ0_coder_7d493_3 (by decide) (fun q => absurd q (by decide)) (fun _ => ?_)
  refine v_aload_n C dJ0_coder_7d493_6 0 rfl ?_
  refine v_tcod C hi wd_1546 dJ0_coder_7d493_7 ?_
  refine v_goto C 14 dJ0_coder_7d493_10 (by decide) ?_
  exact v_xret C R (by decide) h dJ0_coder_7d493_14
theorem m_J0_isLatin1 {Z : Zw} {l : Launch} {i : Nat} {w : Wd} {Q : Int → Wd → Prop} (hi : i < 4) (h : Q 1 w) : CtQ Z l yJ0_isLatin1_aae02 cJ0_isLatin1_aae02 1 (some .boolean) (rmt 0 0) [rv Z (91 + i)] w (qI Z Q) := by
  refine ct_of (by decide) (Nat.le_of_ble_eq_true rfl) (fun E eE C R => ?_)
  subst eE
  have C : Cx Z (adA Z) E cJ0_isLatin1_aae02 "java/lang/String" 1 (rmt 0 0) := C
  show V Z (adA Z) E 1 w 0 [(0, rv Z (91 + i))] []
  refine v_tcs C wd_461 dJ0_isLatin1_aae02_0 ?_
  refine v_if_eq C 17 dJ0_isLatin1_aae02_3 (by decide) (fun q => absurd q (by decide)) (fun _ => ?_)
  refine v_aload_n C dJ0_isLatin1_aae02_6 0 rfl ?_
  refine v_tcod C hi wd_1546 dJ0_isLatin1_aae02_7 ?_
  refine v_if_ne C 17 dJ0_isLatin1_aae02_10 (by decide) (fun q => absurd (by decide) q) (fun _ => ?_)
  refine v_iconst C dJ0_isLatin1_aae02_13 ?_
  refine v_goto C 18 dJ0_isLatin1_aae02_14 (by decide) ?_
  exact v_zret C R (Or.inr rfl) h dJ0_isLatin1_aae02_18
theorem sr0 (n : Nat) (h : n < 8) : isr (n : Int) 0 = n := by
  have : ∀ n : Nat, n < 8 → isr (n : Int) 0 = n := by decide
  exact this n h
theorem m_J0_length {Z : Zw} {l : Launch} {i : Nat} {w : Wd} {Q : Int → Wd → Prop} (hi : i < 4) (h : Q (strL.getD i 0 : Nat) w) : CtQ Z l yJ0_length_8abf5 cJ0_length_8abf5 1 (some .int) (rmt 1 20) [rv Z (91 + i)] w (qI Z Q) := by
  refine ct_of (by decide) (Nat.le_of_ble_eq_true rfl) (fun E eE C R => ?_)
  subst eE
  have C : Cx Z (adA Z) E cJ0_length_8abf5 "java/lang/String" 1 (rmt 1 20) := C
  show V Z (adA Z) E 1 w 0 [(0, rv Z (91 + i))] []
  refine v_aload_n C dJ0_length_8abf5_0 0 rfl ?_
  refine v_tval C hi wd_1545 dJ0_length_8abf5_1 ?_
  refine v_tlen C hi dJ0_length_8abf5_4 ?_
  refine v_aload_n C dJ0_length_8abf5_5 0 rfl ?_
  refine v_calli C (rn_T C [] hi rfl (m_J0_coder (Q := fun r w' => r = 0 ∧ w' = w) hi ⟨rfl, rfl⟩) mf_J0_coder wd_458 wd_459 wd_457 rfl rfl ⟨Nat.le_of_ble_eq_true rfl, Nat.le_of_ble_eq_true rfl⟩ rfl rfl (Nat.le_of_ble_eq_true rfl) dJ0_length_8abf5_6) (fun r w' hr => ?_)
  obtain ⟨rfl, rfl⟩ := hr
  refine v_ishr C dJ0_length_8abf5_9 ?_
  have hl : strL.getD i 0 < 8 := by
    have : ∀ i, i < 4 → strL.getD i 0 < 8 := by decide
    exact this i hi
  rw [sr0 _ hl]
  refine v_iret C R ?_ dJ0_length_8abf5_10
  have e : wr ((strL.getD i 0 : Nat) : Int) = (strL.getD i 0 : Nat) := by
    have : ∀ n : Nat, n < 8 → wr (n : Int) = n := by decide
    exact this _ hl
  rw [e]
  exact h
theorem m_J3_checkIndex {Z : Zw} {l : Launch} {a b : Int} {v : Value} {w : Wd} {Q : Int → Wd → Prop} (hv : v = .null ∨ ∃ t, v = .ref t) (h1 : 0 ≤ wr a) (h2 : wr a < wr b) (h : Q (wr a) w) : CtQ Z l yJ3_checkIndex_8e157 cJ3_checkIndex_8e157 3 (some .int) (rmt 0 0) [iv a, iv b, v] w (qI Z Q) := by
  have hl : (lg_sl [iv a, iv b, v]).length ≤ 3 := by rcases hv with rfl | ⟨t, rfl⟩ <;> exact Nat.le_of_ble_eq_true rfl
  refine ct_of (by decide) hl (fun E eE C R => ?_)
  subst eE
  have C : Cx Z (adA Z) E cJ3_checkIndex_8e157 "jdk/internal/util/Preconditions" 3 (rmt 0 0) := C
  refine v_sub (lv' := [(0, iv a), (1, iv b)]) [0, 1] (by rcases hv with rfl | ⟨t, rfl⟩ <;> rfl) ?_
  refine v_iload_n C dJ3_checkIndex_8e157_0 0 rfl ?_
  refine v_if_lt C 9 dJ3_checkIndex_8e157_1 (by decide) (fun q => absurd q (by omega)) (fun _ => ?_)
  refine v_iload_n C dJ3_checkIndex_8e157_4 0 rfl ?_
  refine v_iload_n C dJ3_checkIndex_8e157_5 1 rfl ?_
  refine v_icmp_lt C 16 dJ3_checkIndex_8e157_6 (by decide) (fun _ => ?_) (fun q => absurd h2 q)
  refine v_iload_n C dJ3_checkIndex_8e157_16 0 rfl ?_
  exact v_iret C R h dJ3_checkIndex_8e157_17
theorem m_J0_checkIndex {Z : Zw} {l : Launch} {a b : Int} {w : Wd} {Q : Wd → Prop} (h1 : 0 ≤ wr a) (h2 : wr a < wr b) (h : Q w) : CtQ Z l yJ0_checkIndex_df160 cJ0_checkIndex_df160 2 none (rmt 1 22) [iv a, iv b] w (qV Z Q) := by
  refine ct_of (by decide) (Nat.le_of_ble_eq_true rfl) (fun E eE C R => ?_)
  subst eE
  have C : Cx Z (adA Z) E cJ0_checkIndex_df160 "java/lang/String" 2 (rmt 1 22) := C
  show V Z (adA Z) E 2 w 0 [(0, iv a), (1, iv b)] []
  refine v_iload_n C dJ0_checkIndex_df160_0 0 rfl ?_
  refine v_iload_n C dJ0_checkIndex_df160_1 1 rfl ?_
  refine v_tsi C wd_477 dJ0_checkIndex_df160_2 (fun v hv => ?_)
  refine v_calli C (rn_S C [iv a, iv b, v] (m_J3_checkIndex (Q := fun r w' => w' = w) hv h1 h2 rfl) mf_J3_checkIndex wd_480 wd_479 rfl rfl ⟨Nat.le_of_ble_eq_true rfl, Nat.le_of_ble_eq_true rfl⟩ rfl rfl (Nat.le_of_ble_eq_true rfl) dJ0_checkIndex_df160_5) (fun r w' hr => ?_)
  subst hr
  refine v_pop C dJ0_checkIndex_df160_8 rfl ?_
  exact v_ret C R h dJ0_checkIndex_df160_9
theorem m_J1_charAt {Z : Zw} {l : Launch} {i : Nat} {x : Int} {w : Wd} {Q : Int → Wd → Prop} (hi : i < 4) (hx : ix x (strL.getD i 0)) (h : Q (strC i x) w) : CtQ Z l yJ1_charAt_3b067 cJ1_charAt_3b067 2 (some .char) (rmt 2 60) [rv Z (95 + i), iv x] w (qI Z Q) := by
  refine ct_of (by decide) (Nat.le_of_ble_eq_true rfl) (fun E eE C R => ?_)
  subst eE
  have C : Cx Z (adA Z) E cJ1_charAt_3b067 "java/lang/StringLatin1" 2 (rmt 2 60) := C
  have hl : strL.getD i 0 < 8 := by
    have : ∀ i, i < 4 → strL.getD i 0 < 8 := by decide
    exact this i hi
  have e : wr ((strL.getD i 0 : Nat) : Int) = (strL.getD i 0 : Nat) := by
    have : ∀ n : Nat, n < 8 → wr (n : Int) = n := by decide
    exact this _ hl
  have hn : (wr x).toNat < strL.getD i 0 := by have h1 := hx.1; have h2 := hx.2; omega
  show V Z (adA Z) E 2 w 0 [(0, rv Z (95 + i)), (1, iv x)] []
  refine v_iload_n C dJ1_charAt_3b067_0 1 rfl ?_
  refine v_aload_n C dJ1_charAt_3b067_1 0 rfl ?_
  refine v_tlen C hi dJ1_charAt_3b067_2 ?_
  refine v_callv C (rn_S C [_, _] (m_J0_checkIndex (Q := fun w' => w' = w) hx.1 (by rw [e]; exact hx.2) rfl) mf_J0_checkIndex wd_475 wd_474 rfl rfl ⟨Nat.le_of_ble_eq_true rfl, Nat.le_of_ble_eq_true rfl⟩ rfl rfl (Nat.le_of_ble_eq_true rfl) dJ1_charAt_3b067_3) (fun w' hr => ?_)
  subst hr
  refine v_aload_n C dJ1_charAt_3b067_6 0 rfl ?_
  refine v_iload_n C dJ1_charAt_3b067_7 1 rfl ?_
  refine v_tbal C hi hx dJ1_charAt_3b067_8 ?_
  refine v_sipush C dJ1_charAt_3b067_9 (by decide) ?_
  refine v_iand C dJ1_charAt_3b067_12 ?_
  refine v_i2c (b := strC i x) C dJ1_charAt_3b067_13 ?_ ?_
  · unfold ian strC
    rw [oi, oi]
    exact str_i2c i hi _ hn
  · refine v_xret C R ?_ ?_ dJ1_charAt_3b067_14
    · unfold strC iv
      rw [oi]
      exact str_nc i hi _ hn
    · have : wr (strC i x) = strC i x := by unfold wr strC; rw [oi]
      rw [this]
      exact h
theorem m_J0_charAt {Z : Zw} {l : Launch} {i : Nat} {x : Int} {w : Wd} {Q : Int → Wd → Prop} (hi : i < 4) (hx : ix x (strL.getD i 0)) (h : Q (strC i x) w) : CtQ Z l yJ0_charAt_5068e cJ0_charAt_5068e 2 (some .char) (rmt 3 100) [rv Z (91 + i), iv x] w (qI Z Q) := by
  refine ct_of (by decide) (Nat.le_of_ble_eq_true rfl) (fun E eE C R => ?_)
  subst eE
  have C : Cx Z (adA Z) E cJ0_charAt_5068e "java/lang/String" 2 (rmt 3 100) := C
  have hn : (wr x).toNat < strL.getD i 0 := by have h1 := hx.1; have h2 := hx.2; omega
  show V Z (adA Z) E 2 w 0 [(0, rv Z (91 + i)), (1, iv x)] []
  refine v_aload_n C dJ0_charAt_5068e_0 0 rfl ?_
  refine v_calli C (rn_T C [] hi rfl (m_J0_isLatin1 (Q := fun r w' => r = 1 ∧ w' = w) hi ⟨rfl, rfl⟩) mf_J0_isLatin1 wd_468 wd_469 wd_467 rfl rfl ⟨Nat.le_of_ble_eq_true rfl, Nat.le_of_ble_eq_true rfl⟩ rfl rfl (Nat.le_of_ble_eq_true rfl) dJ0_charAt_5068e_1) (fun r w' hr => ?_)
  obtain ⟨rfl, hw⟩ := hr
  subst hw
  refine v_if_eq C 16 dJ0_charAt_5068e_4 (by decide) (fun q => absurd q (by decide)) (fun _ => ?_)
  refine v_aload_n C dJ0_charAt_5068e_7 0 rfl ?_
  refine v_tval C hi wd_1545 dJ0_charAt_5068e_8 ?_
  refine v_iload_n C dJ0_charAt_5068e_11 1 rfl ?_
  refine v_calli C (rn_S C [_, _] (m_J1_charAt (Q := fun r w2 => r = strC i x ∧ w2 = w') hi hx ⟨rfl, rfl⟩) mf_J1_charAt wd_472 wd_471 rfl rfl ⟨Nat.le_of_ble_eq_true rfl, Nat.le_of_ble_eq_true rfl⟩ rfl rfl (Nat.le_of_ble_eq_true rfl) dJ0_charAt_5068e_12) (fun r w' hr => ?_)
  obtain ⟨rfl, rfl⟩ := hr
  refine v_xret C R ?_ ?_ dJ0_charAt_5068e_15
  · unfold strC iv
    rw [oi]
    exact str_nc i hi _ hn
  · have : wr (strC i x) = strC i x := by unfold wr strC; rw [oi]
    rw [this]
    exact h
section VTEXT2
variable {Z : Zw} {A : Nat → Prop} {E : Amb} {cc : ByteArray} {own : String} {nL pc : Nat} {rm : Room} {w : Wd} {lv : List (Nat × Value)} {st : List Value}
theorem v_slen (C : Cx Z A E cc own nL rm) {i idx : Nat} (hi : i < 4) (lk : Cond.methodLink own idx yJ0_length_8abf5 ∈ uw) (h1 : 2 ≤ rm.frames) (h2 : 40 ≤ rm.locals) (hst : (st.map fun v => v.category).sum ≤ 8) (d : decode cc pc = .ok (.invokevirtual idx, 3)) (kk : V Z A E nL w (pc + 3) lv (iv (strL.getD i 0 : Nat) :: st)) : V Z A E nL w pc lv (rv Z (91 + i) :: st) := by
  refine v_calli C (rn_T C [] hi rfl (m_J0_length (Q := fun r w' => r = (strL.getD i 0 : Nat) ∧ w' = w) hi ⟨rfl, rfl⟩) mf_J0_length wd_454 wd_455 lk rfl rfl ⟨by show 1 + 1 ≤ _; omega, by show 8 + (1 + 11) + 20 ≤ _; omega⟩ rfl rfl hst d) (fun r w' hr => ?_)
  obtain ⟨rfl, rfl⟩ := hr
  exact kk
theorem v_schar (C : Cx Z A E cc own nL rm) {i idx : Nat} {x : Int} (hi : i < 4) (lk : Cond.methodLink own idx yJ0_charAt_5068e ∈ uw) (hx : ix x (strL.getD i 0)) (h1 : 4 ≤ rm.frames) (h2 : 121 ≤ rm.locals) (hst : (st.map fun v => v.category).sum ≤ 8) (d : decode cc pc = .ok (.invokevirtual idx, 3)) (kk : V Z A E nL w (pc + 3) lv (iv (strC i x) :: st)) : V Z A E nL w pc lv (iv x :: rv Z (91 + i) :: st) := by
  refine v_calli C (rn_T C [_] hi rfl (m_J0_charAt (Q := fun r w' => r = strC i x ∧ w' = w) hi hx ⟨rfl, rfl⟩) mf_J0_charAt wd_464 wd_465 lk rfl rfl ⟨by show 3 + 1 ≤ _; omega, by show 8 + (2 + 11) + 100 ≤ _; omega⟩ rfl rfl hst d) (fun r w' hr => ?_)
  obtain ⟨rfl, rfl⟩ := hr
  exact kk
end VTEXT2
