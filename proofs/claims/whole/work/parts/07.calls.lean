/-! CONTRACTS over worlds of numbers -/
def Wat (Z : Zw) (w : Wd) (U : State) : Prop := va_P Z.1 vwCl (wsOf Z w) U.heap ∧ va_K Z.1 vwCl (tysOf Z) U ∧ Ap Z ∧ St Z (adA Z) U U.heap
abbrev bWd (Z : Zw) (w : Wd) (t : State) : Prop := va_P Z.1 vwCl (wsOf Z w) t.heap
abbrev qI (Z : Zw) (Q : Int → Wd → Prop) : Array Value → State → Outcome → State → Prop := va_Qi (fun (r : Int32) (w : Wd) => Q r.toInt w) (bWd Z) (adA Z)
abbrev qL (Z : Zw) (Q : Int → Wd → Prop) : Array Value → State → Outcome → State → Prop := va_Ql (fun (r : Int64) (w : Wd) => Q r.toInt w) (bWd Z) (adA Z)
abbrev qV (Z : Zw) (Q : Wd → Prop) : Array Value → State → Outcome → State → Prop := va_Qv (fun w : Wd => Q w) (bWd Z) (adA Z)
abbrev qR (Z : Zw) (Q : Nat → Wd → Prop) : Array Value → State → Outcome → State → Prop := va_Qr (fun u : Nat × Wd => Q u.1 u.2) (fun u a t => a = Z.2.1 u.1 ∧ bWd Z u.2 t) (adA Z)
abbrev CtQ (Z : Zw) (l : Launch) (y : MethodName) (cc : ByteArray) (mL : Nat) (ret : Option FieldType) (rm : Room) (vs : List Value) (w : Wd) (Qc : Array Value → State → Outcome → State → Prop) : Prop := Met l y (Cond.code y cc mL ret :: uw) rm (va_Pc vs (Wat Z w)) Qc 0 0 (adA Z)
/-- a frame's end -/
def Rt (Z : Zw) (E : Amb) (ret : Option FieldType) (Qc : Array Value → State → Outcome → State → Prop) : Prop := (eT E).sig.returnType = ret ∧ (eT E).locks = false ∧ eQ E = MQ (eB E) Qc (eA E) (eS E) (eN E) (eK E) (adA Z)
theorem ct_of {Z : Zw} {l : Launch} {y : MethodName} {cc : ByteArray} {mL : Nat} {ret : Option FieldType} {rm : Room} {vs : List Value} {w : Wd} {Qc : Array Value → State → Outcome → State → Prop} (hy : plainName y.cls = true) (hlen : (lg_sl vs).length ≤ mL)
    (body : ∀ E : Amb, eL E = l → Cx Z (adA Z) E cc y.cls mL rm → Rt Z E ret Qc → V Z (adA Z) E mL w 0 (lv_args 0 vs) []) : CtQ Z l y cc mL ret rm vs w Qc := by
  refine Met.ofW (cc := cc) (maxL := mL) (ret := ret) hy rfl ?_
  intro p e s m args below meth c s₁ B hml hv
  obtain ⟨rfl, hP, hK, hAp, hSt⟩ := hv
  have hts := atoms_spec (ws := Cond.code y cc mL ret :: uw) B.pre
  have h := body (p, l, e, rm, s, m, vs.toArray, below, meth, c, MQ below Qc vs.toArray s 0 0 (adA Z), 0, 0) rfl ⟨B.exec, B.bytes, hml, findClass_of_methodNamed B.named, fun x hx => hts x (List.mem_cons_of_mem _ hx), hK, rfl, hAp, fun _ h => h, hSt, Nat.zero_le _, Nat.zero_le _⟩ ⟨B.returns, B.notSynchronized, rfl⟩
  rw [lg_entry_eq]
  exact h s.heap [] _ hP va_S.rf (lv_entry vs hlen)
section VEND
variable {Z : Zw} {A : Nat → Prop} {E : Amb} {cc : ByteArray} {own : String} {nL pc : Nat} {rm : Room} {w : Wd} {lv : List (Nat × Value)} {st : List Value}
theorem wr_toInt (x : Int) : (Int32.ofInt x).toInt = wr x := rfl
theorem v_iret (C : Cx Z (adA Z) E cc own nL rm) {Q : Int → Wd → Prop} {x : Int} (R : Rt Z E (some .int) (qI Z Q)) (h : Q (wr x) w) (d : decode cc pc = .ok (.ireturn, 1)) : V Z (adA Z) E nL w pc lv [iv x] := fun H locs ls hP hS hl => by
  rw [R.2.2]
  exact W.iret C.x C.b R.1 (fun t ht hW => ⟨⟨_, w, rfl, h, by show va_P _ _ _ t.heap; rw [ht]; exact hP⟩, hS.F ht⟩) hS.2.2 d R.2.1
theorem v_zret (C : Cx Z (adA Z) E cc own nL rm) {Q : Int → Wd → Prop} {x : Int} (R : Rt Z E (some .boolean) (qI Z Q)) (hx : x = 0 ∨ x = 1) (h : Q x w) (d : decode cc pc = .ok (.ireturn, 1)) : V Z (adA Z) E nL w pc lv [iv x] := fun H locs ls hP hS hl => by
  rw [R.2.2]
  have hw : (Int32.ofInt x).toInt = x := by rcases hx with rfl | rfl <;> rfl
  have hn : narrow .boolean (.int (Int32.ofInt x)) = .int (Int32.ofInt x) := by rcases hx with rfl | rfl <;> decide
  exact W.zret C.x C.b R.1 hn (fun t ht hW => ⟨⟨_, w, rfl, by show Q (Int32.ofInt x).toInt w; rw [hw]; exact h, by show va_P _ _ _ t.heap; rw [ht]; exact hP⟩, hS.F ht⟩) hS.2.2 d R.2.1
theorem v_lret (C : Cx Z (adA Z) E cc own nL rm) {Q : Int → Wd → Prop} {x : Int} (R : Rt Z E (some .long) (qL Z Q)) (h : Q (wl x) w) (d : decode cc pc = .ok (.lreturn, 1)) : V Z (adA Z) E nL w pc lv [jv x] := fun H locs ls hP hS hl => by
  rw [R.2.2]
  exact W.lret C.x C.b R.1 (fun t ht hW => ⟨⟨_, w, rfl, h, by show va_P _ _ _ t.heap; rw [ht]; exact hP⟩, hS.F ht⟩) hS.2.2 d R.2.1
theorem v_ret (C : Cx Z (adA Z) E cc own nL rm) {Q : Wd → Prop} (R : Rt Z E none (qV Z Q)) (h : Q w) (d : decode cc pc = .ok (.return_, 1)) : V Z (adA Z) E nL w pc lv [] := fun H locs ls hP hS hl => by
  rw [R.2.2]
  exact W.vret C.x C.b R.1 (fun t ht hW => ⟨⟨w, rfl, h, by show va_P _ _ _ t.heap; rw [ht]; exact hP⟩, hS.F ht⟩) hS.2.2 d R.2.1
theorem v_aret (C : Cx Z (adA Z) E cc own nL rm) {Q : Nat → Wd → Prop} {k : Nat} {n : String} (R : Rt Z E (some (.object n)) (qR Z Q)) (h : Q k w) (d : decode cc pc = .ok (.areturn, 1)) : V Z (adA Z) E nL w pc lv [rv Z k] := fun H locs ls hP hS hl => by
  rw [R.2.2]
  exact W.aret C.x C.b R.1 (Or.inl ⟨n, rfl⟩) (Or.inr ⟨_, rfl⟩) (fun t ht hW => ⟨⟨(k, w), Z.2.1 k, rfl, h, rfl, by show va_P _ _ _ t.heap; rw [ht]; exact hP⟩, hS.F ht⟩) hS.2.2 d R.2.1
/-- the facts of a method that a call needs -/
def MfB (y : MethodName) (cc : ByteArray) (mL : Nat) (ret : Option FieldType) (n : Nat) : Prop := Cond.code y cc mL ret ∈ uw ∧ Cond.initialized y.cls ∈ uw ∧ y.cls ≠ "java/lang/invoke/MethodHandle" ∧ y.cls ≠ "java/lang/invoke/VarHandle" ∧ (parseMethodDescriptor y.desc).map (fun d => d.parameters.length) = some n
theorem cb_of (C : Cx Z A E cc own nL rm) {y : MethodName} {bytes : ByteArray} {mL n idx : Nat} {ret : Option FieldType} {rm' : Room} (F : MfB y bytes mL ret n) (lk : Cond.methodLink own idx y ∈ uw) (hc : rm'.cells = 0) (hs : rm'.slots = 0) (hR : rm'.frames + 1 ≤ rm.frames ∧ 8 + (mL + 11) + rm'.locals ≤ rm.locals) : CallB (eR E) (eS E) (eA E) own idx y bytes mL ret (Cond.code y bytes mL ret :: uw) rm' 0 0 n := by
  obtain ⟨h1, h2, h3, h4, h5⟩ := F
  refine callB_of (Ts := uw) n C.t (uw_good (fun _ h => h) (fun x hx => ?_)) rfl hc hs (C.t _ h2) (C.t _ lk) ⟨h3, h4, h5⟩ (by rw [C.r]; exact hR)
  rcases List.mem_cons.mp hx with rfl | hx
  · exact h1
  · exact hx
theorem pre_of (C : Cx Z A E cc own nL rm) {H : Heap} {locs : List Loc} (vs : List Value) (hP : va_P Z.1 vwCl (wsOf Z w) H) (hS : va_S A (eS E).heap H locs) : PreS (eS E) H (va_Pc vs (Wat Z w)) vs := by
  refine ⟨fun a U g mk q => ?_, fun U hU hW => ⟨rfl, by rw [hU]; exact hP, va_K.moved hW.alike C.k, C.ap, St.go hW (fun a h1 h2 => by rw [hU]; exact hS.2.1 a h1 h2) C.in C.s⟩⟩
  obtain ⟨q0, qP, qK, qA, qS⟩ := q
  exact ⟨q0, qP, va_K.moved (u := U) (U := U.calling g mk a) (Vm.Alike.refl U.vm) qK, qA, qS.calling⟩
theorem run_V (C : Cx Z A E cc own nL rm) {y : MethodName} {bytes : ByteArray} {mL n idx k ci : Nat} {cs : List Nat} {T : u_T} {N : Nat} {ret : Option FieldType} {rm' : Room} {As : List Value} {Qc : Array Value → State → Outcome → State → Prop} {H : Heap} {locs : List Loc} {ls : Array Slot}
    (hM : CtQ Z (eL E) y bytes mL ret rm' (rv Z k :: As) w Qc) (F : MfB y bytes mL ret n) (hi : Cond.instanceMethod y ∈ uw) (hsel : Cond.selects y.cls y y ∈ uw) (lk : Cond.methodLink own idx y ∈ uw) (hc : rm'.cells = 0) (hs : rm'.slots = 0) (hR : rm'.frames + 1 ≤ rm.frames ∧ 8 + (mL + 11) + rm'.locals ≤ rm.locals)
    (hk : shp k = (0, ci, cs)) (hcl : vwCl[ci]? = some (y.cls, T, N)) (hn : As.length = n) (hst : (st.map fun v => v.category).sum ≤ 8) (d : decode cc pc = .ok (.invokevirtual idx, 3)) (hP : va_P Z.1 vwCl (wsOf Z w) H) (hS : va_S A (eS E).heap H locs) (hl : lv_has ls nL lv) :
    va_Run (eP E) (eL E) (eE E) (eR E) (eS E) (eM E) (eA E) (eB E) (eT E) (eC E) H locs (eN E) (eK E) 0 0 (F0 (eM E) pc ls (As.reverse ++ rv Z k :: st)) st (Qc (rv Z k :: As).toArray) (adA Z) :=
  have hp := pre_of C (rv Z k :: As) hP hS
  va_runV (As := As) (rest := st) (C := y.cls) (n := n) (nL := nL) (Ts := uw) ⟨C.x, C.b, C.m, C.o, C.t⟩ hM ⟨cb_of C F lk hc hs hR, C.t _ hi, C.t _ hsel⟩ ⟨hp.1, va_recv (q0 := k) C.k hP hcl (by rw [ws_get Z w (shp_lt hk (by decide)), ce_obj Z w hk]), hp.2⟩ rfl hn hl.1 rfl (lv_room hst) d C.n
theorem run_S (C : Cx Z A E cc own nL rm) {y : MethodName} {bytes : ByteArray} {mL n idx : Nat} {ret : Option FieldType} {rm' : Room} {As : List Value} {Qc : Array Value → State → Outcome → State → Prop} {H : Heap} {locs : List Loc} {ls : Array Slot}
    (hM : CtQ Z (eL E) y bytes mL ret rm' As w Qc) (F : MfB y bytes mL ret n) (hi : Cond.static y ∈ uw) (lk : Cond.methodLink own idx y ∈ uw) (hc : rm'.cells = 0) (hs : rm'.slots = 0) (hR : rm'.frames + 1 ≤ rm.frames ∧ 8 + (mL + 11) + rm'.locals ≤ rm.locals)
    (hn : As.length = n) (hst : (st.map fun v => v.category).sum ≤ 8) (d : decode cc pc = .ok (.invokestatic idx, 3)) (hP : va_P Z.1 vwCl (wsOf Z w) H) (hS : va_S A (eS E).heap H locs) (hl : lv_has ls nL lv) :
    va_Run (eP E) (eL E) (eE E) (eR E) (eS E) (eM E) (eA E) (eB E) (eT E) (eC E) H locs (eN E) (eK E) 0 0 (F0 (eM E) pc ls (As.reverse ++ st)) st (Qc As.toArray) (adA Z) :=
  va_runS (As := As) (rest := st) (n := n) (nL := nL) (Ts := uw) ⟨C.x, C.b, C.m, C.o, C.t⟩ hM ⟨cb_of C F lk hc hs hR, C.t _ hi⟩ (pre_of C As hP hS) rfl hn hl.1 rfl (lv_room hst) d C.n
/-- what a call does: the run of it, whatever the heap -/
def Rn (Z : Zw) (A : Nat → Prop) (E : Amb) (nL : Nat) (w : Wd) (pc : Nat) (lv : List (Nat × Value)) (stk st : List Value) (Qa : State → Outcome → State → Prop) : Prop :=
  ∀ (H : Heap) (locs : List Loc) (ls : Array Slot), va_P Z.1 vwCl (wsOf Z w) H → va_S A (eS E).heap H locs → lv_has ls nL lv → va_Run (eP E) (eL E) (eE E) (eR E) (eS E) (eM E) (eA E) (eB E) (eT E) (eC E) H locs (eN E) (eK E) 0 0 (F0 (eM E) pc ls stk) st Qa (adA Z)
theorem rn_V (C : Cx Z A E cc own nL rm) {y : MethodName} {bytes : ByteArray} {mL n idx k ci : Nat} {cs : List Nat} {T : u_T} {N : Nat} {ret : Option FieldType} {rm' : Room} (As : List Value) {stk : List Value} {Qc : Array Value → State → Outcome → State → Prop}
    (hM : CtQ Z (eL E) y bytes mL ret rm' (rv Z k :: As) w Qc) (F : MfB y bytes mL ret n) (hi : Cond.instanceMethod y ∈ uw) (hsel : Cond.selects y.cls y y ∈ uw) (lk : Cond.methodLink own idx y ∈ uw) (hc : rm'.cells = 0) (hs : rm'.slots = 0) (hR : rm'.frames + 1 ≤ rm.frames ∧ 8 + (mL + 11) + rm'.locals ≤ rm.locals)
    (hk : shp k = (0, ci, cs)) (hcl : vwCl[ci]? = some (y.cls, T, N)) (hn : As.length = n) (he : stk = As.reverse ++ rv Z k :: st) (hst : (st.map fun v => v.category).sum ≤ 8) (d : decode cc pc = .ok (.invokevirtual idx, 3)) : Rn Z A E nL w pc lv stk st (Qc (rv Z k :: As).toArray) := fun H locs ls hP hS hl => by
  rw [he]
  exact run_V C hM F hi hsel lk hc hs hR hk hcl hn hst d hP hS hl
theorem rn_S (C : Cx Z A E cc own nL rm) {y : MethodName} {bytes : ByteArray} {mL n idx : Nat} {ret : Option FieldType} {rm' : Room} (As : List Value) {stk : List Value} {Qc : Array Value → State → Outcome → State → Prop}
    (hM : CtQ Z (eL E) y bytes mL ret rm' As w Qc) (F : MfB y bytes mL ret n) (hi : Cond.static y ∈ uw) (lk : Cond.methodLink own idx y ∈ uw) (hc : rm'.cells = 0) (hs : rm'.slots = 0) (hR : rm'.frames + 1 ≤ rm.frames ∧ 8 + (mL + 11) + rm'.locals ≤ rm.locals)
    (hn : As.length = n) (he : stk = As.reverse ++ st) (hst : (st.map fun v => v.category).sum ≤ 8) (d : decode cc pc = .ok (.invokestatic idx, 3)) : Rn Z A E nL w pc lv stk st (Qc As.toArray) := fun H locs ls hP hS hl => by
  rw [he]
  exact run_S C hM F hi lk hc hs hR hn hst d hP hS hl
theorem v_calli (C : Cx Z A E cc own nL rm) {Q : Int → Wd → Prop} {stk : List Value} {a : Array Value} (hr : Rn Z A E nL w pc lv stk st (qI Z Q a)) (kk : ∀ (r : Int) (w : Wd), Q r w → V Z A E nL w (pc + 3) lv (iv r :: st)) : V Z A E nL w pc lv stk := fun H locs ls hP hS hl =>
  va_calli (hr H locs ls hP hS hl) hS (fun q _ h => C.in q h) C.in (fun r u t H1 locs1 ht _ hp hB _ _ hS1 => by
    have := kk r.toInt u hp H1 locs1 ls (by rw [← ht]; exact hB) hS1 hl
    rw [show iv r.toInt = Value.int r from congrArg Value.int (oi r)] at this
    exact this)
theorem v_calll (C : Cx Z A E cc own nL rm) {Q : Int → Wd → Prop} {stk : List Value} {a : Array Value} (hr : Rn Z A E nL w pc lv stk st (qL Z Q a)) (kk : ∀ (r : Int) (w : Wd), Q r w → V Z A E nL w (pc + 3) lv (jv r :: st)) : V Z A E nL w pc lv stk := fun H locs ls hP hS hl =>
  va_calll (hr H locs ls hP hS hl) hS (fun q _ h => C.in q h) C.in (fun r u t H1 locs1 ht _ hp hB _ _ hS1 => by
    have := kk r.toInt u hp H1 locs1 ls (by rw [← ht]; exact hB) hS1 hl
    rw [show jv r.toInt = Value.long r from congrArg Value.long (ol r)] at this
    exact this)
theorem v_callv (C : Cx Z A E cc own nL rm) {Q : Wd → Prop} {stk : List Value} {a : Array Value} (hr : Rn Z A E nL w pc lv stk st (qV Z Q a)) (kk : ∀ (w : Wd), Q w → V Z A E nL w (pc + 3) lv st) : V Z A E nL w pc lv stk := fun H locs ls hP hS hl =>
  va_callv (hr H locs ls hP hS hl) hS (fun q _ h => C.in q h) C.in (fun u t H1 locs1 ht _ hp hB _ _ hS1 => kk u hp H1 locs1 ls (by rw [← ht]; exact hB) hS1 hl)
theorem v_callr (C : Cx Z A E cc own nL rm) {Q : Nat → Wd → Prop} {stk : List Value} {a : Array Value} (hr : Rn Z A E nL w pc lv stk st (qR Z Q a)) (kk : ∀ (k : Nat) (w : Wd), Q k w → V Z A E nL w (pc + 3) lv (rv Z k :: st)) : V Z A E nL w pc lv stk := fun H locs ls hP hS hl =>
  va_callr (hr H locs ls hP hS hl) hS (fun q _ h => C.in q h) C.in (fun u ra t H1 locs1 ht _ hp hB _ _ hS1 => by
    obtain ⟨rfl, hB⟩ := hB
    exact kk u.1 u.2 hp H1 locs1 ls (by rw [← ht]; exact hB) hS1 hl)
end VEND
