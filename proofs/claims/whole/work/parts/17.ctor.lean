/-! CONSTRUCTORS: the cells that have been made so far, one behind the other from the address B on -/
def wsB (B : Nat) : List va_E → va_W
  | [] => []
  | e :: cs => (B, e) :: wsB (B + 1) cs
theorem wsB_get : ∀ (cs : List va_E) (B k : Nat) (e : va_E), cs[k]? = some e → (wsB B cs)[k]? = some (B + k, e)
  | [], _, _, _, h => by simp at h
  | a :: cs, B, 0, e, h => by
    have : a = e := by simpa using h
    subst this
    rfl
  | a :: cs, B, k + 1, e, h => by
    have h1 : cs[k]? = some e := by simpa using h
    have := wsB_get cs (B + 1) k e h1
    show (wsB (B + 1) cs)[k]? = _
    rw [this]
    congr 2
    omega
theorem wsB_inv : ∀ (cs : List va_E) (B k : Nat) (q : Nat × va_E), (wsB B cs)[k]? = some q → q.1 = B + k ∧ cs[k]? = some q.2
  | [], _, _, _, h => by simp [wsB] at h
  | a :: cs, B, 0, q, h => by
    have : (B, a) = q := by simpa [wsB] using h
    subst this
    simp
  | a :: cs, B, k + 1, q, h => by
    have h1 : (wsB (B + 1) cs)[k]? = some q := by simpa [wsB] using h
    have := wsB_inv cs (B + 1) k q h1
    exact ⟨by omega, by simpa using this.2⟩
theorem wsB_app : ∀ (cs : List va_E) (B : Nat) (e : va_E), wsB B (cs ++ [e]) = wsB B cs ++ [(B + cs.length, e)]
  | [], B, e => by simp [wsB]
  | a :: cs, B, e => by
    show (B, a) :: wsB (B + 1) (cs ++ [e]) = (B, a) :: (wsB (B + 1) cs ++ _)
    rw [wsB_app cs (B + 1) e]
    simp only [List.length_cons]
    rw [show B + 1 + cs.length = B + (cs.length + 1) by omega]
theorem wsB_set : ∀ (cs : List va_E) (B k : Nat) (e : va_E), (wsB B cs).set k (B + k, e) = wsB B (cs.set k e)
  | [], _, _, _ => by simp [wsB]
  | a :: cs, B, 0, e => by simp [wsB]
  | a :: cs, B, k + 1, e => by
    show (B, a) :: (wsB (B + 1) cs).set k (B + (k + 1), e) = (B, a) :: wsB (B + 1) (cs.set k e)
    rw [show B + (k + 1) = B + 1 + k by omega, wsB_set cs (B + 1) k e]
theorem wsB_d (B : Nat) (cs : List va_E) : va_D (fun q => B ≤ q) (wsB B cs) := by
  refine ⟨fun i j p q hi hj e => ?_, fun k q hk => ?_⟩
  · have h1 := (wsB_inv cs B i p hi).1
    have h2 := (wsB_inv cs B j q hj).1
    omega
  · have h1 := (wsB_inv cs B k q hk).1
    show B ≤ q.1
    omega
abbrev aB (B : Nat) : Nat → Prop := fun q => B ≤ q
/-- the machine at a place of a constructor's code, c cells of k slots having been made in its frame -/
def U (Z : Zw) (B : Nat) (E : Amb) (nL c k : Nat) (cs : List va_E) (pc : Nat) (lv : List (Nat × Value)) (st : List Value) : Prop :=
  ∀ (H : Heap) (locs : List Loc) (ls : Array Slot), H.size = B + cs.length → va_P Z.1 vwCl (wsB B cs) H → va_S (aB B) (eS E).heap H locs → lv_has ls nL lv → W (eP E) (eL E) (eE E) (eR E) (eS E) (eM E) (eA E) (eB E) (eT E) (eC E) H locs c k (eQ E) (F0 (eM E) pc ls st)
section UROWS
variable {Z : Zw} {E : Amb} {cc : ByteArray} {own : String} {B nL c k pc : Nat} {rm : Room} {cs : List va_E} {lv : List (Nat × Value)} {st : List Value}
theorem u_widen {c' k' : Nat} (h1 : c ≤ c') (h2 : k ≤ k') (kk : U Z B E nL c' k' cs pc lv st) : U Z B E nL c k cs pc lv st := fun H locs ls hz hP hS hl => W.widen h1 h2 (kk H locs ls hz hP hS hl)
theorem u_cs {cs' : List va_E} (h : cs = cs') (kk : U Z B E nL c k cs' pc lv st) : U Z B E nL c k cs pc lv st := h ▸ kk
theorem u_aload_n (C : Cx Z (aB B) E cc own nL rm) {q : Fin 4} {x : Nat} (d : decode cc pc = .ok (.aload_n q, 1)) (j : Nat) (h : lv[j]? = some ((q : Nat), .ref x)) (kk : U Z B E nL c k cs (pc + 1) lv (.ref x :: st)) : U Z B E nL c k cs pc lv st := fun H locs ls hz hP hS hl => lv_aload_n C.x C.b d rfl (lv_at hl j h) (kk H locs ls hz hP hS hl)
theorem u_astore_n (C : Cx Z (aB B) E cc own nL rm) {q : Fin 4} {x : Nat} (lv' : List (Nat × Value)) (d : decode cc pc = .ok (.astore_n q, 1)) (i : Nat) (hi : (q : Nat) = i) (hn : i < nL) (h : (i, Value.ref x) :: lv.filter (fun q => !(q.1 == i) && !(q.1 + 1 == i && q.2.category == 2)) = lv') (kk : U Z B E nL c k cs (pc + 1) lv' st) : U Z B E nL c k cs pc lv (.ref x :: st) := fun H locs ls hz hP hS hl => lv_astore_n C.x C.b d hi hl hn h (fun ls hl => kk H locs ls hz hP hS hl)
theorem u_iload_n (C : Cx Z (aB B) E cc own nL rm) {q : Fin 4} {x : Int} (d : decode cc pc = .ok (.iload_n q, 1)) (j : Nat) (h : lv[j]? = some ((q : Nat), iv x)) (kk : U Z B E nL c k cs (pc + 1) lv (iv x :: st)) : U Z B E nL c k cs pc lv st := fun H locs ls hz hP hS hl => lv_iload_n C.x C.b d rfl (lv_at hl j h) (kk H locs ls hz hP hS hl)
theorem u_iconst (C : Cx Z (aB B) E cc own nL rm) {n : Int} (d : decode cc pc = .ok (.iconst n, 1)) (kk : U Z B E nL c k cs (pc + 1) lv (iv n :: st)) : U Z B E nL c k cs pc lv st := fun H locs ls hz hP hS hl => lv_iconst C.x C.b d rfl (kk H locs ls hz hP hS hl)
theorem u_bipush (C : Cx Z (aB B) E cc own nL rm) {n : Int} (d : decode cc pc = .ok (.bipush n, 2)) (hv : (Int8.ofInt n).toInt32 = Int32.ofInt n) (kk : U Z B E nL c k cs (pc + 2) lv (iv n :: st)) : U Z B E nL c k cs pc lv st := fun H locs ls hz hP hS hl => lv_bipush C.x C.b d hv (kk H locs ls hz hP hS hl)
theorem u_sipush (C : Cx Z (aB B) E cc own nL rm) {n : Int} (d : decode cc pc = .ok (.sipush n, 3)) (hv : (Int16.ofInt n).toInt32 = Int32.ofInt n) (kk : U Z B E nL c k cs (pc + 3) lv (iv n :: st)) : U Z B E nL c k cs pc lv st := fun H locs ls hz hP hS hl => lv_sipush C.x C.b d hv (kk H locs ls hz hP hS hl)
theorem u_lconst (C : Cx Z (aB B) E cc own nL rm) {n : Fin 2} {x : Int} (d : decode cc pc = .ok (.lconst n, 1)) (hv : Int64.ofNat (n : Nat) = Int64.ofInt x) (kk : U Z B E nL c k cs (pc + 1) lv (jv x :: st)) : U Z B E nL c k cs pc lv st := fun H locs ls hz hP hS hl => lv_lconst C.x C.b d hv (kk H locs ls hz hP hS hl)
theorem u_ldc2 (C : Cx Z (aB B) E cc own nL rm) {index : Nat} {v : Int64} (x : Int) (hw : Jvm.Cond.constantLong own index v ∈ uw) (hv : v = Int64.ofInt x) (d : decode cc pc = .ok (.ldc2_w index, 3)) (kk : U Z B E nL c k cs (pc + 3) lv (jv x :: st)) : U Z B E nL c k cs pc lv st := fun H locs ls hz hP hS hl => lv_ldc2 C.x C.b C.o (C.t _ hw) d (by rw [hv]; exact (kk H locs ls hz hP hS hl))
theorem u_dup (C : Cx Z (aB B) E cc own nL rm) {a : Value} (d : decode cc pc = .ok (.dup, 1)) (ha : a.category = 1) (kk : U Z B E nL c k cs (pc + 1) lv (a :: a :: st)) : U Z B E nL c k cs pc lv (a :: st) := fun H locs ls hz hP hS hl => lv_dup C.x C.b d ha (kk H locs ls hz hP hS hl)
theorem u_imul (C : Cx Z (aB B) E cc own nL rm) {a b : Int} (d : decode cc pc = .ok (.imul, 1)) (kk : U Z B E nL c k cs (pc + 1) lv (iv (a * b) :: st)) : U Z B E nL c k cs pc lv (iv b :: iv a :: st) := fun H locs ls hz hP hS hl => lv_imul C.x C.b d (by rw [o_mul]; exact (kk H locs ls hz hP hS hl))
theorem u_mmax (C : Cx Z (aB B) E cc own nL rm) {idx : Nat} {a b : Int} (lk : Cond.methodLink own idx Lib.Math.max.name ∈ uw) (h1 : Cond.static Lib.Math.max.name ∈ uw) (h2 : Cond.initialized "java/lang/Math" ∈ uw) (h3 : Cond.code Lib.Math.max.name Lib.Math.max.code 2 (some .int) ∈ uw) (hf : 1 ≤ rm.frames) (hl : (st.map fun v => v.category).sum + 13 ≤ rm.locals) (hc : c ≤ rm.cells) (hk : k ≤ rm.slots) (d : decode cc pc = .ok (.invokestatic idx, 3)) (kk : U Z B E nL c k cs (pc + 3) lv (iv (imx a b) :: st)) : U Z B E nL c k cs pc lv (iv b :: iv a :: st) := fun H locs ls hz hP hS hl9 => by
  refine va_mmax C.x C.b (by rw [C.m, hl9.1]) C.o (C.t _ lk) (C.t _ h1) (C.t _ h2) (C.t _ h3) (by rw [C.r]; exact hf) (by rw [C.r]; exact hl) (by rw [C.r]; exact hc) (by rw [C.r]; exact hk) d ?_
  have e : (if Int32.ofInt a < Int32.ofInt b then Int32.ofInt b else Int32.ofInt a) = Int32.ofInt (imx a b) := by
    by_cases q : wr a < wr b
    · rw [if_pos ((c_lt a b).mpr q), imx, if_pos q]
    · rw [if_neg (fun z => q ((c_lt a b).mp z)), imx, if_neg q]
  rw [e]
  exact kk H locs ls hz hP hS hl9
theorem u_mmin (C : Cx Z (aB B) E cc own nL rm) {idx : Nat} {a b : Int} (lk : Cond.methodLink own idx Lib.Math.min.name ∈ uw) (h1 : Cond.static Lib.Math.min.name ∈ uw) (h2 : Cond.initialized "java/lang/Math" ∈ uw) (h3 : Cond.code Lib.Math.min.name Lib.Math.min.code 2 (some .int) ∈ uw) (hf : 1 ≤ rm.frames) (hl : (st.map fun v => v.category).sum + 13 ≤ rm.locals) (hc : c ≤ rm.cells) (hk : k ≤ rm.slots) (d : decode cc pc = .ok (.invokestatic idx, 3)) (kk : U Z B E nL c k cs (pc + 3) lv (iv (imn a b) :: st)) : U Z B E nL c k cs pc lv (iv b :: iv a :: st) := fun H locs ls hz hP hS hl9 => by
  refine va_mmin C.x C.b (by rw [C.m, hl9.1]) C.o (C.t _ lk) (C.t _ h1) (C.t _ h2) (C.t _ h3) (by rw [C.r]; exact hf) (by rw [C.r]; exact hl) (by rw [C.r]; exact hc) (by rw [C.r]; exact hk) d ?_
  have e : (if Int32.ofInt b < Int32.ofInt a then Int32.ofInt b else Int32.ofInt a) = Int32.ofInt (imn a b) := by
    by_cases q : wr b < wr a
    · rw [if_pos ((c_lt b a).mpr q), imn, if_pos q]
    · rw [if_neg (fun z => q ((c_lt b a).mp z)), imn, if_neg q]
  rw [e]
  exact kk H locs ls hz hP hS hl9
theorem u_obj (C : Cx Z (aB B) E cc own nL rm) {idx a : Nat} (lk : Cond.methodLink own idx Lib.objectInit ∈ uw) (h1 : Cond.instanceMethod Lib.objectInit ∈ uw) (h2 : Cond.code Lib.objectInit ⟨#[0xb1]⟩ 1 none ∈ uw) (hf : 1 ≤ rm.frames) (hl : (st.map fun v => v.category).sum + 12 ≤ rm.locals) (d : decode cc pc = .ok (.invokespecial idx, 3)) (kk : U Z B E nL c k cs (pc + 3) lv st) : U Z B E nL c k cs pc lv (.ref a :: st) := fun H locs ls hz hP hS hl9 =>
  W.objInit C.x C.b C.o (C.t _ lk) (C.t _ h1) (C.t _ h2) rfl (by rw [C.m]; exact hl9.1) rfl d (by rw [C.r]; exact hf) (by rw [C.r]; show 2 * 0 + _ + 12 ≤ _; omega) (kk H locs ls hz hP hS hl9)
theorem u_new (C : Cx Z (aB B) E cc own nL rm) {ci N idx : Nat} {Cn : String} {T : u_T} {fs : List Value} (ty : Nat → FieldType) (hty : ∀ k, k < N → parseFieldDescriptor (T k).2.2.1 = some (ty k)) (hin : ∀ x ∈ u_ws Cn T N, x ∈ uw) (hcl : Cond.classLink own idx Cn ∈ uw) (hinst : Cond.instantiable Cn N ∈ uw) (hini : Cond.initialized Cn ∈ uw) (hc : vwCl[ci]? = some (Cn, T, N)) (hfs : ∀ j, j < N → defaultValue (ty j) = vp_V fs j) (hc1 : c + 1 ≤ rm.cells) (hk1 : k + N ≤ rm.slots) (d : decode cc pc = .ok (.new idx, 3)) (kk : U Z B E nL (c + 1) (k + N) (cs ++ [.inr (ci, fs)]) (pc + 3) lv (.ref (B + cs.length) :: st)) : U Z B E nL c k cs pc lv st := fun H locs ls hz hP hS hl => by
  have hKn := C.k.1 ci _ hc
  refine W.newcK C.x C.b C.o (C.t _ hcl) (C.t _ hinst) (C.t _ hini) rfl d (by rw [C.r]; exact hc1) (by rw [C.r]; exact hk1) hKn.2.1 hz fun H1 kC hkC e1 z1 o1 => ?_
  have hk : ∀ (k : Nat) (x : Nat × va_E), (wsB B cs)[k]? = some x → H1[x.1]? = H[x.1]? := fun k x hx => o1 x.1 (by have := (hP k x hx).lt; omega)
  refine kk H1 locs ls (by rw [z1]; simp; omega) ?_ ⟨Nat.le_trans hS.1 (by omega), fun x h1 h2 => (o1 x (by have := hS.1; omega)).trans (hS.2.1 x h1 h2), hS.2.2⟩ hl
  rw [wsB_app]
  refine (hP.kept hk).app (fun k x hx => ?_)
  have hz2 : k < 1 := (List.getElem?_eq_some_iff.mp hx).1
  rw [show k = 0 by omega] at hx
  cases hx
  exact ⟨_, hc, (u_born ty C.t hin hKn hkC e1 hty).to hfs⟩
theorem u_newa (C : Cx Z (aB B) E cc own nL rm) {atype : ArrayType} {ty : FieldType} (t : Nat) (hw : Cond.arrayClass (newarray.typeOf atype) ∈ uw) (hty : newarray.typeOf atype = ty) (ht : (tysOf Z)[t]? = some (Z.2.2 (t + 1), ty)) (hpr : ∀ U cA, va_RA U cA ty → U.vm.findClass ("[" ++ ty.toString) = some cA) {n : Int} (N' : Nat) {a0 : vp_A} (ha : ∀ cA : ClassId, vp_cell cA a0 = arrV cA N' (fun _ => defaultValue ty)) (hn : ¬ Int32.ofInt n < 0) (hN : (Int32.ofInt n).toNatClampNeg = N') (hbytes : N' * componentBytes ty ≤ 536870912) (hc1 : c + 1 ≤ rm.cells) (hk1 : k + N' ≤ rm.slots) (d : decode cc pc = .ok (.newarray atype, 2)) (kk : U Z B E nL (c + 1) (k + N') (cs ++ [.inl (Z.2.2 (t + 1), a0)]) (pc + 2) lv (.ref (B + cs.length) :: st)) : U Z B E nL c k cs pc lv (iv n :: st) := fun H locs ls hz hP hS hl => by
  subst hty
  refine va_newaK C.x C.b (C.t _ hw) rfl d rfl hn hN hbytes (by rw [C.r]; exact hc1) (by rw [C.r]; exact hk1) hz fun H1 cA e1 z1 o1 hAr hNm => ?_
  have hcA : cA = Z.2.2 (t + 1) := by
    have h1 := hpr _ _ (C.k.2 t _ ht).2
    exact Option.some.inj (hNm.symm.trans h1)
  subst hcA
  have hk : ∀ (k : Nat) (x : Nat × va_E), (wsB B cs)[k]? = some x → H1[x.1]? = H[x.1]? := fun k x hx => o1 x.1 (by have := (hP k x hx).lt; omega)
  refine kk H1 locs ls (by rw [z1]; simp; omega) ?_ ⟨Nat.le_trans hS.1 (by omega), fun x h1 h2 => (o1 x (by have := hS.1; omega)).trans (hS.2.1 x h1 h2), hS.2.2⟩ hl
  rw [wsB_app]
  refine (hP.kept hk).app (fun k x hx => ?_)
  have hz2 : k < 1 := (List.getElem?_eq_some_iff.mp hx).1
  rw [show k = 0 by omega] at hx
  cases hx
  show H1[B + cs.length]? = some (vp_cell _ _)
  rw [ha]
  exact e1
theorem u_get (C : Cx Z (aB B) E cc own nL rm) {r ci j N idx : Nat} {Cn : String} {T : u_T} {fs : List Value} {v : Value} (he : cs[r]? = some (.inr (ci, fs))) (hc : vwCl[ci]? = some (Cn, T, N)) (hin : ∀ x ∈ u_ws Cn T N, x ∈ uw) (hj : j < N) (hT : (T j).1 = Cn) (hv : fs[j]? = some v) (lk : Cond.fieldLink own idx Cn (T j).2.1 (T j).2.2.1 ∈ uw) (d : decode cc pc = .ok (.getfield idx, 3)) (kk : U Z B E nL c k cs (pc + 3) lv (v :: st)) : U Z B E nL c k cs pc lv (.ref (B + r) :: st) := fun H locs ls hz hP hS hl =>
  va_get (ref := Cn) C.x C.b C.t hin C.o C.k hP r (wsB_get cs B r _ he) hc j hj (C.t _ lk) (fun x hx => by rw [← hT]; rw [hT] at hx ⊢; exact hx) hv d (kk H locs ls hz hP hS hl)
theorem u_put (C : Cx Z (aB B) E cc own nL rm) {r ci j N idx : Nat} {Cn : String} {T : u_T} {fs : List Value} {ty : FieldType} {v : Value} (ty0 : Nat → FieldType) (he : cs[r]? = some (.inr (ci, fs))) (hc : vwCl[ci]? = some (Cn, T, N)) (hin : ∀ x ∈ u_ws Cn T N, x ∈ uw) (hty : ∀ k, k < N → parseFieldDescriptor (T k).2.2.1 = some (ty0 k)) (hnm : ∀ a, a < N → ∀ b, b < N → a ≠ b → (T a).2.1 ≠ (T b).2.1) (hj : j < N) (hT : (T j).1 = Cn) (hf : (T j).2.2.2 = false) (hd : parseFieldDescriptor (T j).2.2.1 = some ty) (hn : narrow ty v = v) (hfit : fits ty v = true) (hl : j < fs.length) (lk : Cond.fieldLink own idx Cn (T j).2.1 (T j).2.2.1 ∈ uw) (d : decode cc pc = .ok (.putfield idx, 3)) (kk : U Z B E nL c k (cs.set r (.inr (ci, fs.set j v))) (pc + 3) lv st) : U Z B E nL c k cs pc lv (v :: .ref (B + r) :: st) := fun H locs ls hz hP hS hl9 => by
  have hD := wsB_d B cs
  have hg := wsB_get cs B r _ he
  have hap := va_apart (own := own) C.t hin ty0 hty hnm C.k hc
  obtain ⟨x, h1, cell, q1, q2, q3, q4⟩ := hP r _ hg
  have hx : x = (Cn, T, N) := Option.some.inj (h1.symm.trans hc)
  subst hx
  obtain ⟨hSl, hfc, kC, hkC, hkind⟩ := C.k.1 ci _ hc
  obtain ⟨cf, kf, fi, f, hi, hsl⟩ := hSl j hj
  have hlay := C.t _ (hin _ (u_in_lay hj))
  unfold u_lay at hlay
  rw [if_neg (by rw [hf]; decide)] at hlay
  have hst := (u_facts hfc hkC (u_lays C.t hin hj) hi).1
  have h6 := u_store hfc hkC hkind hlay hi hd hn hfit
  rw [hT] at hi
  refine W.putK C.x C.b (f := f) ⟨C.o, C.t _ lk, ⟨_, _, _, hi⟩, hst⟩ (by rw [q2]; exact h6) q1 q3 (by rw [hsl]; exact k2_hasslot (q4 j hj)) rfl rfl d fun H1 e1 e2 e3 => ?_
  rw [hsl] at e1 ⊢
  have hP1 : va_P Z.1 vwCl ((wsB B cs).set r (B + r, .inr (ci, fs.set j v))) H1 := hP.set hD hg ⟨_, hc, t_OB.to (V := updV (vp_V fs) j v) ⟨_, e1, q2, q3, t_set q4 hap hj v⟩ (fun i _ => vp_updV_set hl v i)⟩ e3
  rw [wsB_set] at hP1
  exact kk H1 _ ls (by rw [e2, hz]; simp) hP1 (hS.put e2 e3 (hD.2 r _ hg)) hl9
theorem u_putF (C : Cx Z (aB B) E cc own nL rm) {r ci j N idx : Nat} {T : u_T} {fs : List Value} {ty : FieldType} {v : Value} (ty0 : Nat → FieldType) (he : cs[r]? = some (.inr (ci, fs))) (hc : vwCl[ci]? = some (own, T, N)) (hin : ∀ x ∈ u_ws own T N, x ∈ uw) (hty : ∀ k, k < N → parseFieldDescriptor (T k).2.2.1 = some (ty0 k)) (hnm : ∀ a, a < N → ∀ b, b < N → a ≠ b → (T a).2.1 ≠ (T b).2.1) (hj : j < N) (hT : (T j).1 = own) (hf : (T j).2.2.2 = true) (hini : (eT E).name = "<init>") (hd : parseFieldDescriptor (T j).2.2.1 = some ty) (hn : narrow ty v = v) (hfit : fits ty v = true) (hl : j < fs.length) (lk : Cond.fieldLink own idx own (T j).2.1 (T j).2.2.1 ∈ uw) (d : decode cc pc = .ok (.putfield idx, 3)) (kk : U Z B E nL c k (cs.set r (.inr (ci, fs.set j v))) (pc + 3) lv st) : U Z B E nL c k cs pc lv (v :: .ref (B + r) :: st) := fun H locs ls hz hP hS hl9 => by
  have hD := wsB_d B cs
  have hg := wsB_get cs B r _ he
  have hap := va_apart (own := own) C.t hin ty0 hty hnm C.k hc
  obtain ⟨x, h1, cell, q1, q2, q3, q4⟩ := hP r _ hg
  have hx : x = (own, T, N) := Option.some.inj (h1.symm.trans hc)
  subst hx
  obtain ⟨hSl, hfc, kC, hkC, hkind⟩ := C.k.1 ci _ hc
  obtain ⟨cf, kf, fi, f, hi, hsl⟩ := hSl j hj
  have hlay := C.t _ (hin _ (u_in_lay hj))
  unfold u_lay at hlay
  rw [if_pos hf] at hlay
  have hst := (u_facts hfc hkC (u_lays C.t hin hj) hi).1
  have hcf : (eM E).cls = cf := by
    obtain ⟨_, _, c', _, _, _, -, -, hf', -, -, -, hown2, -⟩ := Cond.laysFinal_spec hlay
    have e1 : c' = cf := by have := hi.symm.trans hf'; simp at this; exact this.1.symm
    rw [hT] at hown2
    rw [← e1]; exact Option.some.inj (C.o.symm.trans hown2)
  have h6 := u_fits hfc hkC hkind (Or.inr hlay) hi hd hn hfit
  rw [hT] at hi
  refine W.putFinK C.x C.b C.o (C.t _ lk) hi hst hcf hini (by rw [q2]; exact h6) q1 q3 (by rw [hsl]; exact k2_hasslot (q4 j hj)) rfl rfl d fun H1 e1 e2 e3 => ?_
  rw [hsl] at e1 ⊢
  have hP1 : va_P Z.1 vwCl ((wsB B cs).set r (B + r, .inr (ci, fs.set j v))) H1 := hP.set hD hg ⟨_, hc, t_OB.to (V := updV (vp_V fs) j v) ⟨_, e1, q2, q3, t_set q4 hap hj v⟩ (fun i _ => vp_updV_set hl v i)⟩ e3
  rw [wsB_set] at hP1
  exact kk H1 _ ls (by rw [e2, hz]; simp) hP1 (hS.put e2 e3 (hD.2 r _ hg)) hl9
end UROWS
/-- the words of private constructors -/
def Nws (U : State) : Prop := va_Nw (Jvm.Cond.methodLinkNest "HandleFaces" (11 : Nat) ({ cls := "HandleFaces$Drawing", name := "<init>", desc := "()V" } : Jvm.MethodName) "HandleFaces") U ∧ va_Nw (Jvm.Cond.methodLinkNest "HandleFaces" (21 : Nat) ({ cls := "HandleFaces$Scanner", name := "<init>", desc := "()V" } : Jvm.MethodName) "HandleFaces") U ∧ va_Nw (Jvm.Cond.methodLinkNest "HandleFaces" (28 : Nat) ({ cls := "HandleFaces$Reader", name := "<init>", desc := "()V" } : Jvm.MethodName) "HandleFaces") U ∧ va_Nw (Jvm.Cond.methodLinkNest "HandleFaces" (35 : Nat) ({ cls := "HandleFaces$Tracing", name := "<init>", desc := "()V" } : Jvm.MethodName) "HandleFaces") U ∧ va_Nw (Jvm.Cond.methodLinkNest "HandleFaces$Tracing" (36 : Nat) ({ cls := "HandleFaces$Walker", name := "<init>", desc := "()V" } : Jvm.MethodName) "HandleFaces") U ∧ va_Nw (Jvm.Cond.methodLinkNest "HandleFaces" (45 : Nat) ({ cls := "HandleFaces$Walker", name := "<init>", desc := "()V" } : Jvm.MethodName) "HandleFaces") U ∧ va_Nw (Jvm.Cond.methodLinkNest "HandleFaces" (52 : Nat) ({ cls := "HandleFaces$Orders", name := "<init>", desc := "()V" } : Jvm.MethodName) "HandleFaces") U ∧ va_Nw (Jvm.Cond.methodLinkNest "HandleFaces$Orders" (27 : Nat) ({ cls := "HandleFaces$Drawing", name := "<init>", desc := "()V" } : Jvm.MethodName) "HandleFaces") U ∧ va_Nw (Jvm.Cond.methodLinkNest "HandleFaces$Orders" (34 : Nat) ({ cls := "HandleFaces$Walker", name := "<init>", desc := "()V" } : Jvm.MethodName) "HandleFaces") U ∧ va_Nw (Jvm.Cond.methodLinkNest "HandleFaces" (59 : Nat) ({ cls := "HandleFaces$Rings", name := "<init>", desc := "()V" } : Jvm.MethodName) "HandleFaces") U ∧ va_Nw (Jvm.Cond.methodLinkNest "HandleFaces" (66 : Nat) ({ cls := "HandleFaces$Likeness", name := "<init>", desc := "()V" } : Jvm.MethodName) "HandleFaces") U ∧ va_Nw (Jvm.Cond.methodLinkNest "HandleFaces$Likeness" (11 : Nat) ({ cls := "HandleFaces$Walker", name := "<init>", desc := "()V" } : Jvm.MethodName) "HandleFaces") U ∧ va_Nw (Jvm.Cond.methodLinkNest "HandleFaces" (73 : Nat) ({ cls := "HandleFaces$Colouring", name := "<init>", desc := "()V" } : Jvm.MethodName) "HandleFaces") U
theorem Nws.warm {s U : State} (hW : s.WarmedH U.vm) (h : Nws s) : Nws U := ⟨va_Nw.warmM hW (h.1), va_Nw.warmM hW (h.2.1), va_Nw.warmM hW (h.2.2.1), va_Nw.warmM hW (h.2.2.2.1), va_Nw.warmM hW (h.2.2.2.2.1), va_Nw.warmM hW (h.2.2.2.2.2.1), va_Nw.warmM hW (h.2.2.2.2.2.2.1), va_Nw.warmM hW (h.2.2.2.2.2.2.2.1), va_Nw.warmM hW (h.2.2.2.2.2.2.2.2.1), va_Nw.warmM hW (h.2.2.2.2.2.2.2.2.2.1), va_Nw.warmM hW (h.2.2.2.2.2.2.2.2.2.2.1), va_Nw.warmM hW (h.2.2.2.2.2.2.2.2.2.2.2.1), va_Nw.warmM hW (h.2.2.2.2.2.2.2.2.2.2.2.2)⟩
theorem Nws.calling {U : State} {g : JFrame} {mk : MethodId} {a : Array Value} (h : Nws U) : Nws (U.calling g mk a) := ⟨(h.1).same rfl rfl, (h.2.1).same rfl rfl, (h.2.2.1).same rfl rfl, (h.2.2.2.1).same rfl rfl, (h.2.2.2.2.1).same rfl rfl, (h.2.2.2.2.2.1).same rfl rfl, (h.2.2.2.2.2.2.1).same rfl rfl, (h.2.2.2.2.2.2.2.1).same rfl rfl, (h.2.2.2.2.2.2.2.2.1).same rfl rfl, (h.2.2.2.2.2.2.2.2.2.1).same rfl rfl, (h.2.2.2.2.2.2.2.2.2.2.1).same rfl rfl, (h.2.2.2.2.2.2.2.2.2.2.2.1).same rfl rfl, (h.2.2.2.2.2.2.2.2.2.2.2.2).same rfl rfl⟩
/-- a constructor's start, its end, its contract: it makes mc cells of ms slots, the cells behind it are told -/
def Wac (Z : Zw) (B : Nat) (cs : List va_E) (U : State) : Prop := U.heap.size = B + cs.length ∧ va_P Z.1 vwCl (wsB B cs) U.heap ∧ va_K Z.1 vwCl (tysOf Z) U ∧ Ap Z ∧ (∀ q, adA Z q → B ≤ q) ∧ St Z (aB B) U U.heap ∧ Nws U
abbrev bCs (Z : Zw) (B : Nat) (cs : List va_E) (t : State) : Prop := t.heap.size = B + cs.length ∧ va_P Z.1 vwCl (wsB B cs) t.heap
abbrev qC (Z : Zw) (B : Nat) (Q : List va_E → Prop) : Array Value → State → Outcome → State → Prop := va_Qv (fun cs : List va_E => Q cs) (bCs Z B) (aB B)
abbrev CtC (Z : Zw) (l : Launch) (y : MethodName) (cc : ByteArray) (mL : Nat) (rm : Room) (vs : List Value) (B : Nat) (cs : List va_E) (Q : List va_E → Prop) (mc ms : Nat) : Prop := Met l y (Cond.code y cc mL none :: uw) rm (va_Pc vs (Wac Z B cs)) (qC Z B Q) mc ms (aB B)
theorem cc_of {Z : Zw} {l : Launch} {y : MethodName} {cc : ByteArray} {mL mc ms B : Nat} {rm : Room} {vs : List Value} {cs : List va_E} {Q : List va_E → Prop} (hy : plainName y.cls = true) (hn : y.name = "<init>") (hlen : (lg_sl vs).length ≤ mL)
    (body : ∀ E : Amb, eL E = l → Cx Z (aB B) E cc y.cls mL rm → Nws (eS E) → (eT E).name = "<init>" → ((eT E).sig.returnType = none ∧ (eT E).locks = false ∧ eQ E = MQ (eB E) (qC Z B Q) (eA E) (eS E) mc ms (aB B)) → U Z B E mL 0 0 cs 0 (lv_args 0 vs) []) : CtC Z l y cc mL rm vs B cs Q mc ms := by
  refine Met.ofW (cc := cc) (maxL := mL) (ret := none) hy rfl ?_
  intro p e s m args below meth c s₁ B0 hml hv
  obtain ⟨rfl, hz, hP, hK, hAp, hB, hSt, hN⟩ := hv
  have hts := atoms_spec (ws := Cond.code y cc mL none :: uw) B0.pre
  have h := body (p, l, e, rm, s, m, vs.toArray, below, meth, c, MQ below (qC Z B Q) vs.toArray s mc ms (aB B), 0, 0) rfl ⟨B0.exec, B0.bytes, hml, findClass_of_methodNamed B0.named, fun x hx => hts x (List.mem_cons_of_mem _ hx), hK, rfl, hAp, hB, hSt, Nat.zero_le _, Nat.zero_le _⟩ hN (by rw [(name_of_methodNamed B0.named B0.method).1]; exact hn) ⟨B0.returns, B0.notSynchronized, rfl⟩
  rw [lg_entry_eq]
  exact h s.heap [] _ hz hP va_S.rf (lv_entry vs hlen)
section UEND
variable {Z : Zw} {E : Amb} {cc : ByteArray} {own : String} {B nL c k pc : Nat} {rm : Room} {cs : List va_E} {lv : List (Nat × Value)} {st : List Value}
theorem u_ret (C : Cx Z (aB B) E cc own nL rm) {Q : List va_E → Prop} (R : (eT E).sig.returnType = none ∧ (eT E).locks = false ∧ eQ E = MQ (eB E) (qC Z B Q) (eA E) (eS E) c k (aB B)) (h : Q cs) (d : decode cc pc = .ok (.return_, 1)) : U Z B E nL c k cs pc lv [] := fun H locs ls hz hP hS hl => by
  rw [R.2.2]
  exact W.vret C.x C.b R.1 (fun t ht hW => ⟨⟨cs, rfl, h, by rw [ht]; exact hz, by rw [ht]; exact hP⟩, hS.F ht⟩) hS.2.2 d R.2.1
theorem prc_of (C : Cx Z (aB B) E cc own nL rm) (hN : Nws (eS E)) {H : Heap} {locs : List Loc} (vs : List Value) (hz : H.size = B + cs.length) (hP : va_P Z.1 vwCl (wsB B cs) H) (hS : va_S (aB B) (eS E).heap H locs) : PreS (eS E) H (va_Pc vs (Wac Z B cs)) vs := by
  refine ⟨fun a U g mk q => ?_, fun U hU hW => ⟨rfl, by rw [hU]; exact hz, by rw [hU]; exact hP, va_K.moved hW.alike C.k, C.ap, C.in, St.go hW (fun a h1 h2 => by rw [hU]; exact hS.2.1 a h1 h2) (fun _ h => h) C.s, hN.warm hW⟩⟩
  obtain ⟨q0, qz, qP, qK, qA, qB, qS, qN⟩ := q
  exact ⟨q0, qz, qP, va_K.moved (u := U) (U := U.calling g mk a) (Vm.Alike.refl U.vm) qK, qA, qB, qS.calling, qN.calling⟩
/-- a private constructor of a nest mate is called -/
theorem u_ctorN (C : Cx Z (aB B) E cc own nL rm) (hN : Nws (eS E)) {y : MethodName} {bytes : ByteArray} {mL n idx mc ms q : Nat} {host : String} {rm' : Room} (As : List Value) {stk : List Value} {Q : List va_E → Prop} (hM : CtC Z (eL E) y bytes mL rm' (.ref q :: As) B cs Q mc ms) (F : MfB y bytes mL none n) (hy : y.name = "<init>") (hi : Cond.instanceMethod y ∈ uw) (hl : va_Nw (.methodLinkNest own idx y host) (eS E)) (hc : rm'.cells = mc) (hs : rm'.slots = ms) (hR : rm'.frames + 1 ≤ rm.frames ∧ 8 + (mL + 11) + rm'.locals ≤ rm.locals) (hn : As.length = n) (he : stk = As.reverse ++ .ref q :: st) (hst : (st.map fun v => v.category).sum ≤ 8) (hcl : c + mc ≤ rm.cells ∧ k + ms ≤ rm.slots) (d : decode cc pc = .ok (.invokespecial idx, 3)) (kk : ∀ cs', Q cs' → U Z B E nL (c + mc) (k + ms) cs' (pc + 3) lv st) : U Z B E nL c k cs pc lv stk := fun H locs ls hz hP hS hl9 => by
  rw [he]
  obtain ⟨f1, f2, f3, f4, f5⟩ := F
  have hG : GoodIn uw (Cond.code y bytes mL none :: uw) := uw_good (fun _ h => h) (fun x hx => by
    rcases List.mem_cons.mp hx with rfl | hx
    · exact f1
    · exact hx)
  exact va_callv (va_runIN (As := As) (rest := st) (n := n) (nL := nL) (Ts := uw) (R := eR E) (cells := c) (slots := k) (g := F0 (eM E) pc ls (As.reverse ++ .ref q :: st)) ⟨C.x, C.b, C.m, C.o, C.t⟩ hM ⟨va_cnB n C.t hG rfl hc hs hl (C.t _ f2) ⟨f3, f4, f5⟩ (by rw [C.r]; exact hR), hy, C.t _ hi⟩ (prc_of C hN (.ref q :: As) hz hP hS) rfl hn hl9.1 rfl (lv_room hst) d (by rw [C.r]; exact hcl)) hS (fun _ _ h => h) (fun _ h => h) (fun u t H1 locs1 ht _ hp hB _ _ hS1 => kk u hp H1 locs1 ls (by rw [← ht]; exact hB.1) (by rw [← ht]; exact hB.2) hS1 hl9)
/-- a public constructor is called -/
theorem u_ctorP (C : Cx Z (aB B) E cc own nL rm) (hN : Nws (eS E)) {y : MethodName} {bytes : ByteArray} {mL n idx mc ms q : Nat} {rm' : Room} (As : List Value) {stk : List Value} {Q : List va_E → Prop} (hM : CtC Z (eL E) y bytes mL rm' (.ref q :: As) B cs Q mc ms) (F : MfB y bytes mL none n) (hy : y.name = "<init>") (hi : Cond.instanceMethod y ∈ uw) (lk : Cond.methodLink own idx y ∈ uw) (hc : rm'.cells = mc) (hs : rm'.slots = ms) (hR : rm'.frames + 1 ≤ rm.frames ∧ 8 + (mL + 11) + rm'.locals ≤ rm.locals) (hn : As.length = n) (he : stk = As.reverse ++ .ref q :: st) (hst : (st.map fun v => v.category).sum ≤ 8) (hcl : c + mc ≤ rm.cells ∧ k + ms ≤ rm.slots) (d : decode cc pc = .ok (.invokespecial idx, 3)) (kk : ∀ cs', Q cs' → U Z B E nL (c + mc) (k + ms) cs' (pc + 3) lv st) : U Z B E nL c k cs pc lv stk := fun H locs ls hz hP hS hl9 => by
  rw [he]
  obtain ⟨f1, f2, f3, f4, f5⟩ := F
  have hG : GoodIn uw (Cond.code y bytes mL none :: uw) := uw_good (fun _ h => h) (fun x hx => by
    rcases List.mem_cons.mp hx with rfl | hx
    · exact f1
    · exact hx)
  exact va_callv (va_runI (As := As) (rest := st) (n := n) (nL := nL) (Ts := uw) (R := eR E) (cells := c) (slots := k) (g := F0 (eM E) pc ls (As.reverse ++ .ref q :: st)) ⟨C.x, C.b, C.m, C.o, C.t⟩ hM (cwI n C.t hG rfl hc hs (C.t _ f2) (C.t _ lk) (C.t _ hi) hy ⟨f3, f4, f5⟩ (by rw [C.r]; exact hR)) (prc_of C hN (.ref q :: As) hz hP hS) rfl hn hl9.1 rfl (lv_room hst) d (by rw [C.r]; exact hcl)) hS (fun _ _ h => h) (fun _ h => h) (fun u t H1 locs1 ht _ hp hB _ _ hS1 => kk u hp H1 locs1 ls (by rw [← ht]; exact hB.1) (by rw [← ht]; exact hB.2) hS1 hl9)
end UEND
