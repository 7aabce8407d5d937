theorem tb_at {w : Cond} (i : Nat) (h : tables_1[i]? = some w) : w ∈ lw_tbl := List.mem_append_right _ (List.mem_of_getElem? h)
theorem u_ctorM {Z : Zw} {E : Amb} {cc : ByteArray} {own : String} {B nL c k pc : Nat} {rm : Room} {cs : List va_E} {lv : List (Nat × Value)} {st : List Value} (C : Cx Z (aB B) E cc own nL rm) (hN : Nws (eS E)) {y : MethodName} {bytes : ByteArray} {mL n idx mc ms q : Nat} {rm' : Room} (As : List Value) {stk : List Value} {Q : Wd → Prop} (hM : CtM Z (eL E) y bytes mL rm' (.ref q :: As) B cs Q mc ms) (F : MfB y bytes mL none n) (hy : y.name = "<init>") (hi : Cond.instanceMethod y ∈ uw) (lk : Cond.methodLink own idx y ∈ uw) (hc : rm'.cells = mc) (hs : rm'.slots = ms) (hR : rm'.frames + 1 ≤ rm.frames ∧ 8 + (mL + 11) + rm'.locals ≤ rm.locals) (hn : As.length = n) (he : stk = As.reverse ++ .ref q :: st) (hst : (st.map fun v => v.category).sum ≤ 8) (hcl : c + mc ≤ rm.cells ∧ k + ms ≤ rm.slots) (d : decode cc pc = .ok (.invokespecial idx, 3)) (kk : ∀ w, Q w → V Z (aB B) (eUp E (c + mc) (k + ms)) nL w (pc + 3) lv st) : U Z B E nL c k cs pc lv stk := fun H locs ls hz hP hS hl9 => by
  rw [he]
  obtain ⟨f1, f2, f3, f4, f5⟩ := F
  have hG : GoodIn uw (Cond.code y bytes mL none :: uw) := uw_good (fun _ h => h) (fun x hx => by
    rcases List.mem_cons.mp hx with rfl | hx
    · exact f1
    · exact hx)
  exact va_callv (va_runI (As := As) (rest := st) (n := n) (nL := nL) (Ts := uw) (R := eR E) (cells := c) (slots := k) (g := F0 (eM E) pc ls (As.reverse ++ .ref q :: st)) ⟨C.x, C.b, C.m, C.o, C.t⟩ hM (cwI n C.t hG rfl hc hs (C.t _ f2) (C.t _ lk) (C.t _ hi) hy ⟨f3, f4, f5⟩ (by rw [C.r]; exact hR)) (prc_of C hN (.ref q :: As) hz hP hS) rfl hn hl9.1 rfl (lv_room hst) d (by rw [C.r]; exact hcl)) hS (fun _ _ h => h) (fun _ h => h) (fun u t H1 locs1 ht _ hp hB _ _ hS1 => kk u hp H1 locs1 ls (by rw [← ht]; exact hB) hS1 hl9)
theorem arr_of {args : Array Value} {s : State} {ty : FieldType} (h : (Cond.arrayClass ty).before args s = true) : ∃ cA : ClassId, ArrOfT s cA ty ∧ s.vm.findClass ("[" ++ ty.toString) = some cA := by
  obtain ⟨cA, kA, comp, h1, h2, h3⟩ := Cond.arrayClass_spec h
  exact ⟨cA, fun n z => ⟨fun k h => (by cases h), kA, h2, comp, h3⟩, h1⟩
def strK : List Nat := [85, 91, 93, 95]
def strT : List String := ["post", "line", "round", "twisted"]
abbrev tmS (i : Nat) : Term := .string "HandleFaces$Scanner" (strK.getD i 0)
set_option maxRecDepth 100000 in
set_option maxHeartbeats 4000000 in
theorem law_ctx {p : Program} {e : Env} {s : State} {m : MethodId} {below : List Frame} {meth : Method} {c : Code} (l : Launch) {b L : Nat} {xs : Nat → Int32} (C0 : lw_At p s m meth c b L xs) : ∃ (D : va_G) (f : Nat → Nat) (cy : Nat → ClassId), Cx (mkZ D s.heap.size f cy) (aB s.heap.size) (p, l, e, room_1, s, m, #[Value.ref b], below, meth, c, lw_Z below #[Value.ref b] s, 0, 0) cL_law "HandleFacesLaw" 4 room_1 ∧ Nws s := by
  obtain ⟨hx, hb, hr, hml, hown, hts, hX, hbl, hlocks, hgv⟩ := C0
  have hu : ∀ w ∈ uw, w.before #[Value.ref b] s = true := fun w h => hts w (uw_tb h)
  have hg := flat_of_before _ hgv
  obtain ⟨cX0, iX0, kX0⟩ := u_known (C := RX0) (T := TX0) (N := 1) (n := 1) hu inX0 (hu _ wd_331)
  obtain ⟨cX1, iX1, kX1⟩ := u_known (C := RX1) (T := TX1) (N := 6) (n := 6) hu inX1 (hu _ wd_30)
  obtain ⟨cX2, iX2, kX2⟩ := u_known (C := RX2) (T := TX2) (N := 5) (n := 5) hu inX2 (hu _ wd_307)
  obtain ⟨cX3, iX3, kX3⟩ := u_known (C := RX3) (T := TX3) (N := 9) (n := 9) hu inX3 (hu _ wd_246)
  obtain ⟨cX4, iX4, kX4⟩ := u_known (C := RX4) (T := TX4) (N := 7) (n := 7) hu inX4 (hu _ wd_146)
  obtain ⟨cX5, iX5, kX5⟩ := u_known (C := RX5) (T := TX5) (N := 3) (n := 3) hu inX5 (hu _ wd_289)
  obtain ⟨cX6, iX6, kX6⟩ := u_known (C := RX6) (T := TX6) (N := 14) (n := 14) hu inX6 (hu _ wd_88)
  obtain ⟨cX7, iX7, kX7⟩ := u_known (C := RX7) (T := TX7) (N := 2) (n := 2) hu inX7 (hu _ wd_341)
  obtain ⟨cX8, iX8, kX8⟩ := u_known (C := RX8) (T := TX8) (N := 11) (n := 11) hu inX8 (hu _ wd_175)
  obtain ⟨cX9, iX9, kX9⟩ := u_known (C := RX9) (T := TX9) (N := 4) (n := 4) hu inX9 (hu _ wd_181)
  obtain ⟨cX10, iX10, kX10⟩ := u_known (C := RX10) (T := TX10) (N := 18) (n := 18) hu inX10 (hu _ wd_22)
  obtain ⟨cX11, iX11, kX11⟩ := u_known (C := RX11) (T := TX11) (N := 43) (n := 43) hu inX11 (hu _ wd_1059)
  obtain ⟨y1, a1, b1⟩ := arr_of (hu (.arrayClass .int) wd_86)
  obtain ⟨y2, a2, b2⟩ := arr_of (hu (.arrayClass .byte) wd_144)
  obtain ⟨y3, a3, b3⟩ := arr_of (hu (.arrayClass .long) wd_143)
  obtain ⟨y4, a4, b4⟩ := arr_of (hu (.arrayClass .boolean) wd_1200)
  have hA : ∀ a : Nat, a < s.heap.size → ¬ aB s.heap.size a := fun a h q => absurd h (Nat.not_lt.mpr q)
  obtain ⟨t, ht, hT⟩ := va_Tof (tm := (.static "HandleFaces" "FACTORIALS" "[I")) (ty := .int) (N := 10) (f := fun j => iv (facs.getD j 0)) (A := aB s.heap.size) (by decide) (hg _ (by decide +kernel)) (va_eqt (hg _ (by decide +kernel))) (fun j hj => by
    have : ∀ j, j < 10 → (Cond.eq (.elem (.static "HandleFaces" "FACTORIALS" "[I") (.int (Int32.ofNat j))) (.int (Int32.ofInt (facs.getD j 0)))) ∈ flatC (Jvm.Cond.and given_1 narrow_1) := by decide +kernel
    exact va_eqt (hg _ (this j hj))) hA
  have hZ1 := va_Zof (v := .ref t) (hts (.laysStatic "HandleFaces" "FACTORIALS" "[I") (tb_at 697 (by decide +kernel))) (hu _ wd_1) ht hA
  obtain ⟨adK, adV, hS4, hK4⟩ := vk_Sof (args := #[Value.ref b]) (s := s) (N := 4) (tm := tmS) (len := strL) (byt := strB) (A := aB s.heap.size) (by decide)
    (fun i hi => hg _ (by have : ∀ i, i < 4 → Cond.exactly (tmS i) "java/lang/String" ∈ flatC (Jvm.Cond.and given_1 narrow_1) := by decide +kernel
                          exact this i hi))
    (fun i hi => hg _ (by have : ∀ i, i < 4 → Cond.eq (.field (tmS i) "java/lang/String" "coder" "B") (.int 0) ∈ flatC (Jvm.Cond.and given_1 narrow_1) := by decide +kernel
                          exact this i hi))
    (fun i hi => hg _ (by have : ∀ i, i < 4 → Cond.arrayOf (.field (tmS i) "java/lang/String" "value" "[B") .byte ∈ flatC (Jvm.Cond.and given_1 narrow_1) := by decide +kernel
                          exact this i hi))
    (fun i hi => hg _ (by have : ∀ i, i < 4 → Cond.eq (.length (.field (tmS i) "java/lang/String" "value" "[B")) (.int (Int32.ofNat (strL.getD i 0))) ∈ flatC (Jvm.Cond.and given_1 narrow_1) := by decide +kernel
                          exact this i hi))
    (fun i hi j hj => hg _ (by have : ∀ i, i < 4 → ∀ j, j < strL.getD i 0 → Cond.eq (.elem (.field (tmS i) "java/lang/String" "value" "[B") (.int (Int32.ofNat j))) (.int ((strB.getD i []).getD j 0)) ∈ flatC (Jvm.Cond.and given_1 narrow_1) := by decide +kernel
                               exact this i hi j hj))
    (fun i j hi hj hij => by
      have : ∀ i, i < 4 → ∀ j, j < 4 → i ≠ j → Cond.not (Cond.eq (tmS i) (tmS j)) ∈ flatC (Jvm.Cond.and given_1 narrow_1) ∨ Cond.not (Cond.eq (tmS j) (tmS i)) ∈ flatC (Jvm.Cond.and given_1 narrow_1) := by decide +kernel
      exact (this i hi j hj hij).imp (hg _) (hg _)) hA
  refine ⟨(fun k => [cX0, cX1, cX2, cX3, cX4, cX5, cX6, cX7, cX8, cX9, cX10, cX11].getD k cX0, fun k => [iX0, iX1, iX2, iX3, iX4, iX5, iX6, iX7, iX8, iX9, iX10, iX11].getD k iX0), fun k => if k < 4 then adK k else if k < 8 then adV (k - 4) else t, fun k => [y1, y1, y2, y3, y4].getD k y1, ?_, ?_⟩
  · refine ⟨hx, hb, hml, hown, hu, ⟨?_, ?_⟩, rfl, ?_, ?_, ⟨?_, ?_, ?_, ?_, ?_, ?_, ?_, ?_, ?_, ?_⟩, Nat.zero_le _, Nat.zero_le _⟩
    · intro k q hq
      match k, hq with
      | 0, hq => cases hq; exact kX0
      | 1, hq => cases hq; exact kX1
      | 2, hq => cases hq; exact kX2
      | 3, hq => cases hq; exact kX3
      | 4, hq => cases hq; exact kX4
      | 5, hq => cases hq; exact kX5
      | 6, hq => cases hq; exact kX6
      | 7, hq => cases hq; exact kX7
      | 8, hq => cases hq; exact kX8
      | 9, hq => cases hq; exact kX9
      | 10, hq => cases hq; exact kX10
      | 11, hq => cases hq; exact kX11
      | k + 12, hq => simp [vwCl] at hq
    · intro k q hq
      match k, hq with
      | 0, hq => cases hq; exact ⟨a1, b1⟩
      | 1, hq => cases hq; exact ⟨a2, b2⟩
      | 2, hq => cases hq; exact ⟨a3, b3⟩
      | 3, hq => cases hq; exact ⟨a4, b4⟩
      | k + 4, hq => simp [tysOf] at hq
    · intro i j hi hj h
      have e1 : (if i < 91 then s.heap.size + i else _) = (if j < 91 then s.heap.size + j else _) := h
      rw [if_pos hi, if_pos hj] at e1
      omega
    · intro q hq
      obtain ⟨k, hk, rfl⟩ := hq
      show s.heap.size ≤ (if k < 91 then s.heap.size + k else _)
      rw [if_pos hk]
      omega
    · exact hZ1
    · exact hT
    · exact va_Nw.of rfl (hts _ (tb_at 696 (by decide +kernel)))
    · refine ⟨fun i hi => ?_, fun i j hi hj h => ?_⟩
      · have h1 := hS4.1 i hi
        have e1 : (if 91 + i < 91 then s.heap.size + (91 + i) else (if 91 + i - 91 < 4 then adK (91 + i - 91) else if 91 + i - 91 < 8 then adV (91 + i - 91 - 4) else t)) = adK i := by rw [if_neg (by omega), if_pos (by omega), Nat.add_sub_cancel_left]
        have e2 : (if 95 + i < 91 then s.heap.size + (95 + i) else (if 95 + i - 91 < 4 then adK (95 + i - 91) else if 95 + i - 91 < 8 then adV (95 + i - 91 - 4) else t)) = adV i := by rw [if_neg (by omega), if_neg (by omega), if_pos (by omega), show 95 + i - 91 - 4 = i by omega]
        show va_O "java/lang/String" (if 91 + i < 91 then _ else _) _ _ _ ∧ va_OF _ _ _ _ (if 91 + i < 91 then _ else _) _ _ _ ∧ va_OF _ _ _ (.ref (if 95 + i < 91 then _ else _)) (if 91 + i < 91 then _ else _) _ _ _ ∧ va_T _ (if 95 + i < 91 then _ else _) _ _ _ _ _
        rw [e1, e2]
        exact h1
      · have e1 : ∀ i, i < 4 → (if 91 + i < 91 then s.heap.size + (91 + i) else (if 91 + i - 91 < 4 then adK (91 + i - 91) else if 91 + i - 91 < 8 then adV (91 + i - 91 - 4) else t)) = adK i := fun i hi => by rw [if_neg (by omega), if_pos (by omega), Nat.add_sub_cancel_left]
        have h : (if 91 + i < 91 then s.heap.size + (91 + i) else (if 91 + i - 91 < 4 then adK (91 + i - 91) else if 91 + i - 91 < 8 then adV (91 + i - 91 - 4) else t)) = (if 91 + j < 91 then s.heap.size + (91 + j) else (if 91 + j - 91 < 4 then adK (91 + j - 91) else if 91 + j - 91 < 8 then adV (91 + j - 91 - 4) else t)) := h
        rw [e1 i hi, e1 j hj] at h
        exact hS4.2 i j hi hj h
    · exact vk_R.of (hts _ (tb_at 448 (by decide +kernel))) (hK4 0 (by decide))
    · exact vk_R.of (hts _ (tb_at 501 (by decide +kernel))) (hK4 1 (by decide))
    · exact vk_R.of (hts _ (tb_at 502 (by decide +kernel))) (hK4 2 (by decide))
    · exact vk_R.of (hts _ (tb_at 503 (by decide +kernel))) (hK4 3 (by decide))
    · exact va_Zof (hts (.laysStatic "java/lang/String" "COMPACT_STRINGS" "Z") (tb_at 462 (by decide +kernel))) (hu _ wd_14) (va_eqi (hg _ (by decide +kernel))) hA
    · exact va_Zqof (hts _ (tb_at 478 (by decide +kernel))) (hu _ wd_16) (hg _ (by decide +kernel)) hA
  · exact ⟨va_Nw.of rfl (hts _ (tb_at 31 (by decide +kernel))), va_Nw.of rfl (hts _ (tb_at 89 (by decide +kernel))), va_Nw.of rfl (hts _ (tb_at 147 (by decide +kernel))), va_Nw.of rfl (hts _ (tb_at 176 (by decide +kernel))), va_Nw.of rfl (hts _ (tb_at 182 (by decide +kernel))), va_Nw.of rfl (hts _ (tb_at 244 (by decide +kernel))), va_Nw.of rfl (hts _ (tb_at 247 (by decide +kernel))), va_Nw.of rfl (hts _ (tb_at 252 (by decide +kernel))), va_Nw.of rfl (hts _ (tb_at 254 (by decide +kernel))), va_Nw.of rfl (hts _ (tb_at 290 (by decide +kernel))), va_Nw.of rfl (hts _ (tb_at 308 (by decide +kernel))), va_Nw.of rfl (hts _ (tb_at 313 (by decide +kernel))), va_Nw.of rfl (hts _ (tb_at 332 (by decide +kernel)))⟩
set_option maxRecDepth 100000 in
set_option maxHeartbeats 4000000 in
/-- the law, from its entry: what is left is a matter of numbers -/
theorem law_start {p : Program} {e : Env} {s : State} {m : MethodId} {below : List Frame} {meth : Method} {c : Code} (l : Launch) {b L : Nat} {xs : Nat → Int32} (C0 : lw_At p s m meth c b L xs) (h : X11_keys (law_wp xs L)) : W p l e room_1 s m #[Value.ref b] below meth c s.heap [] 0 0 (lw_Z below #[Value.ref b] s) (entryFrame m ([Value.ref b] : List Value).toArray 4) := by
  obtain ⟨D, f, cy, C, hN⟩ := law_ctx (e := e) (below := below) l C0
  obtain ⟨hx, hb, hr, hml, hown, hts, hX, hbl, hlocks, hgv⟩ := C0
  rw [lg_entry_eq]
  obtain ⟨B, hB⟩ : ∃ B, B = s.heap.size := ⟨_, rfl⟩
  rw [← hB] at C
  obtain ⟨Z, hZ⟩ : ∃ Z, Z = mkZ D B f cy := ⟨_, rfl⟩
  rw [← hZ] at C
  obtain ⟨E, hE⟩ : ∃ E : Amb, E = (p, l, e, room_1, s, m, #[Value.ref b], below, meth, c, lw_Z below #[Value.ref b] s, 0, 0) := ⟨_, rfl⟩
  rw [← hE] at C
  have hNE : Nws (eS E) := by rw [hE]; exact hN
  have R : RtL E B b L xs := by rw [hE]; exact ⟨hr, hlocks, rfl, rfl, hB.symm, by rw [hB]; exact hbl, hX⟩
  have key : U Z B E 4 0 0 [] 0 [(0, .ref b)] [] := by
    refine u_new (ci := 10) (fs := [.null, .null, .null, .null, .null, .null, .null, .null, .null, .null, .null, .null, .null, .int 0, .int 0, .int 0, .int 0, .int 0]) C tyX10 tyX10_ok inX10 wd_21 wd_22 wd_1 rfl (by decide) (Nat.le_of_ble_eq_true rfl) (Nat.le_of_ble_eq_true rfl) dL_law_0 ?_
    refine u_dup C dL_law_3 rfl ?_
    refine u_cs (cs' := [.inr (10, [.null, .null, .null, .null, .null, .null, .null, .null, .null, .null, .null, .null, .null, .int 0, .int 0, .int 0, .int 0, .int 0])]) rfl ?_
    refine u_ctorP C hNE [] (n_X10 (B := B) (n := 1) (r := 0) (Q := fun cs9 => cs9 = csX Z B) rfl rfl (by decide) rfl) mf_X10_init rfl wd_24 wd_23 rfl rfl ⟨(Nat.le_of_ble_eq_true rfl), (Nat.le_of_ble_eq_true rfl)⟩ rfl rfl (Nat.le_of_ble_eq_true rfl) ⟨(Nat.le_of_ble_eq_true rfl), (Nat.le_of_ble_eq_true rfl)⟩ dL_law_4 (fun cs9 h9 => ?_)
    subst h9
    refine u_astore_n C [(1, _), (0, _)] dL_law_7 1 rfl (by decide) rfl ?_
    refine u_new (ci := 11) (fs := [.int 0, .null, .int 0, .null, .int 0, .null, .null, .null, .null, .null, .int 0, .int 0, .int 0, .int 0, .int 0, .int 0, .int 0, .null, .null, .null, .int 0, .int 0, .null, .int 0, .int 0, .null, .null, .null, .null, .null, .null, .null, .null, .int 0, .int 0, .int 0, .null, .null, .null, .null, .null, .null, .int 0]) C tyX11 tyX11_ok inX11 wd_1058 wd_1059 wd_13 rfl (by decide) (Nat.le_of_ble_eq_true rfl) (Nat.le_of_ble_eq_true rfl) dL_law_8 ?_
    refine u_dup C dL_law_11 rfl ?_
    have hM : CtM Z (eL E) yX11_init cX11_init 1 rmc_X11 [.ref (B + 65)] B (csX Z B ++ [.inr (11, [.int 0, .null, .int 0, .null, .int 0, .null, .null, .null, .null, .null, .int 0, .int 0, .int 0, .int 0, .int 0, .int 0, .int 0, .null, .null, .null, .int 0, .int 0, .null, .int 0, .int 0, .null, .null, .null, .null, .null, .null, .null, .null, .int 0, .int 0, .int 0, .null, .null, .null, .null, .null, .null, .int 0])]) (law_wp xs L) 25 10449 := by rw [hZ]; exact n_X11 h
    refine u_ctorM C hNE [] hM mf_X11_init rfl wd_1061 wd_1060 rfl rfl ⟨(Nat.le_of_ble_eq_true rfl), (Nat.le_of_ble_eq_true rfl)⟩ rfl rfl (Nat.le_of_ble_eq_true rfl) ⟨(Nat.le_of_ble_eq_true rfl), (Nat.le_of_ble_eq_true rfl)⟩ dL_law_12 (fun w hw => ?_)
    have C2 := C.up (c := 0 + 1 + 64 + 1 + 25) (k := 0 + 18 + 7976 + 43 + 10449) (Nat.le_of_ble_eq_true rfl) (Nat.le_of_ble_eq_true rfl)
    refine v_astore_n C2 [(2, _), (1, _), (0, _)] dL_law_15 2 rfl (by decide) rfl ?_
    have h0 : Value.ref (B + 0) = rv Z 0 := by rw [hZ]; rfl
    have h65 : Value.ref (B + 65) = rv Z 65 := by rw [hZ]; rfl
    show V Z (aB B) _ 4 w 16 [(2, .ref (B + 65)), (1, .ref (B + 0)), (0, .ref b)] []
    rw [h0, h65]
    exact t_law C2 R hw
  have hk := key s.heap [] ((lg_sl [Value.ref b] ++ List.replicate (4 - (lg_sl [Value.ref b]).length) Slot.unset).toArray) (by rw [hB]; rfl) (fun k q h => by simp [wsB] at h) (by rw [hE]; exact va_S.rf) (lv_entry ([.ref b]) (n := 4) (Nat.le_of_ble_eq_true rfl))
  rw [hE] at hk
  exact hk
