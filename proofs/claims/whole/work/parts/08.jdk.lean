section VJDK
variable {Z : Zw} {A : Nat → Prop} {E : Amb} {cc : ByteArray} {own : String} {nL pc : Nat} {rm : Room} {w : Wd} {lv : List (Nat × Value)} {st : List Value}
theorem v_putI (C : Cx Z A E cc own nL rm) {k ci j N idx : Nat} {cs : List Nat} {Cn : String} {T : u_T} {v : Int} (ty0 : Nat → FieldType) (hs : shp k = (0, ci, cs)) (hc : vwCl[ci]? = some (Cn, T, N)) (hin : ∀ x ∈ u_ws Cn T N, x ∈ uw) (hty : ∀ k, k < N → parseFieldDescriptor (T k).2.2.1 = some (ty0 k)) (hnm : ∀ a, a < N → ∀ b, b < N → a ≠ b → (T a).2.1 ≠ (T b).2.1) (hj : j < N) (hT : (T j).1 = Cn) (hf : (T j).2.2.2 = false) (hd : parseFieldDescriptor (T j).2.2.1 = some .int) (hcj : cs[j]? = some 0) (lk : Cond.fieldLink own idx Cn (T j).2.1 (T j).2.2.1 ∈ uw) (d : decode cc pc = .ok (.putfield idx, 3)) (kk : V Z A E nL (up w k j v) (pc + 3) lv st) : V Z A E nL w pc lv (iv v :: rv Z k :: st) := by
  have e : iv v = vfOf Z (up w k j v) k j 0 := by show iv v = iv (up w k j v k j); rw [up_eq]
  rw [e]
  exact v_put C ty0 hs hc hin hty hnm hj hT hf hd hcj (by decide) (vp_nar_int _) rfl lk d kk
theorem v_putZ (C : Cx Z A E cc own nL rm) {k ci j N idx : Nat} {cs : List Nat} {Cn : String} {T : u_T} {v : Int} (hv : v = 0 ∨ v = 1) (ty0 : Nat → FieldType) (hs : shp k = (0, ci, cs)) (hc : vwCl[ci]? = some (Cn, T, N)) (hin : ∀ x ∈ u_ws Cn T N, x ∈ uw) (hty : ∀ k, k < N → parseFieldDescriptor (T k).2.2.1 = some (ty0 k)) (hnm : ∀ a, a < N → ∀ b, b < N → a ≠ b → (T a).2.1 ≠ (T b).2.1) (hj : j < N) (hT : (T j).1 = Cn) (hf : (T j).2.2.2 = false) (hd : parseFieldDescriptor (T j).2.2.1 = some .boolean) (hcj : cs[j]? = some 0) (lk : Cond.fieldLink own idx Cn (T j).2.1 (T j).2.2.1 ∈ uw) (d : decode cc pc = .ok (.putfield idx, 3)) (kk : V Z A E nL (up w k j v) (pc + 3) lv st) : V Z A E nL w pc lv (iv v :: rv Z k :: st) := by
  have e : iv v = vfOf Z (up w k j v) k j 0 := by show iv v = iv (up w k j v k j); rw [up_eq]
  have e2 : narrow .boolean (iv v) = iv v := by rcases hv with rfl | rfl <;> decide
  have e3 : fits .boolean (iv v) = true := by rcases hv with rfl | rfl <;> decide
  rw [e] at e2 e3
  rw [e]
  exact v_put C ty0 hs hc hin hty hnm hj hT hf hd hcj (by decide) e2 e3 lk d kk
theorem v_putJ (C : Cx Z A E cc own nL rm) {k ci j N idx : Nat} {cs : List Nat} {Cn : String} {T : u_T} {v : Int} (ty0 : Nat → FieldType) (hs : shp k = (0, ci, cs)) (hc : vwCl[ci]? = some (Cn, T, N)) (hin : ∀ x ∈ u_ws Cn T N, x ∈ uw) (hty : ∀ k, k < N → parseFieldDescriptor (T k).2.2.1 = some (ty0 k)) (hnm : ∀ a, a < N → ∀ b, b < N → a ≠ b → (T a).2.1 ≠ (T b).2.1) (hj : j < N) (hT : (T j).1 = Cn) (hf : (T j).2.2.2 = false) (hd : parseFieldDescriptor (T j).2.2.1 = some .long) (hcj : cs[j]? = some 1) (lk : Cond.fieldLink own idx Cn (T j).2.1 (T j).2.2.1 ∈ uw) (d : decode cc pc = .ok (.putfield idx, 3)) (kk : V Z A E nL (up w k j v) (pc + 3) lv st) : V Z A E nL w pc lv (jv v :: rv Z k :: st) := by
  have e : jv v = vfOf Z (up w k j v) k j 1 := by show jv v = jv (up w k j v k j); rw [up_eq]
  rw [e]
  exact v_put C ty0 hs hc hin hty hnm hj hT hf hd hcj (by decide) rfl rfl lk d kk
def imx (a b : Int) : Int := if wr a < wr b then b else a
def imn (a b : Int) : Int := if wr b < wr a then b else a
def lmn (a b : Int) : Int := if wl b < wl a then b else a
theorem lm_lt (a b : Int) : Int64.ofInt a < Int64.ofInt b ↔ wl a < wl b := Int64.lt_iff_toInt_lt
theorem v_mmax (C : Cx Z A E cc own nL rm) {idx : Nat} {a b : Int} (lk : Cond.methodLink own idx Lib.Math.max.name ∈ uw) (h1 : Cond.static Lib.Math.max.name ∈ uw) (h2 : Cond.initialized "java/lang/Math" ∈ uw) (h3 : Cond.code Lib.Math.max.name Lib.Math.max.code 2 (some .int) ∈ uw) (hf : 1 ≤ rm.frames) (hl : (st.map fun v => v.category).sum + 13 ≤ rm.locals) (d : decode cc pc = .ok (.invokestatic idx, 3)) (kk : V Z A E nL w (pc + 3) lv (iv (imx a b) :: st)) : V Z A E nL w pc lv (iv b :: iv a :: st) := fun H locs ls hP hS hl9 => by
  refine va_mmax C.x C.b (by rw [C.m, hl9.1]) C.o (C.t _ lk) (C.t _ h1) (C.t _ h2) (C.t _ h3) (by rw [C.r]; exact hf) (by rw [C.r]; exact hl) C.n.1 C.n.2 d ?_
  have e : (if Int32.ofInt a < Int32.ofInt b then Int32.ofInt b else Int32.ofInt a) = Int32.ofInt (imx a b) := by
    by_cases q : wr a < wr b
    · rw [if_pos ((c_lt a b).mpr q), imx, if_pos q]
    · rw [if_neg (fun z => q ((c_lt a b).mp z)), imx, if_neg q]
  rw [e]
  exact kk H locs ls hP hS hl9
theorem v_mmin (C : Cx Z A E cc own nL rm) {idx : Nat} {a b : Int} (lk : Cond.methodLink own idx Lib.Math.min.name ∈ uw) (h1 : Cond.static Lib.Math.min.name ∈ uw) (h2 : Cond.initialized "java/lang/Math" ∈ uw) (h3 : Cond.code Lib.Math.min.name Lib.Math.min.code 2 (some .int) ∈ uw) (hf : 1 ≤ rm.frames) (hl : (st.map fun v => v.category).sum + 13 ≤ rm.locals) (d : decode cc pc = .ok (.invokestatic idx, 3)) (kk : V Z A E nL w (pc + 3) lv (iv (imn a b) :: st)) : V Z A E nL w pc lv (iv b :: iv a :: st) := fun H locs ls hP hS hl9 => by
  refine va_mmin C.x C.b (by rw [C.m, hl9.1]) C.o (C.t _ lk) (C.t _ h1) (C.t _ h2) (C.t _ h3) (by rw [C.r]; exact hf) (by rw [C.r]; exact hl) C.n.1 C.n.2 d ?_
  have e : (if Int32.ofInt b < Int32.ofInt a then Int32.ofInt b else Int32.ofInt a) = Int32.ofInt (imn a b) := by
    by_cases q : wr b < wr a
    · rw [if_pos ((c_lt b a).mpr q), imn, if_pos q]
    · rw [if_neg (fun z => q ((c_lt b a).mp z)), imn, if_neg q]
  rw [e]
  exact kk H locs ls hP hS hl9
/-- System.arraycopy among rows of ints -/
def cpy (w : Wd) (a sp b dp n : Nat) : Wd := fun c i => if c = b ∧ (dp ≤ i ∧ i < dp + n) then w a (sp + (i - dp)) else w c i
def cpk (sp dp n : Int) (n0 n1 : Nat) : Prop := 0 ≤ wr sp ∧ 0 ≤ wr dp ∧ 0 ≤ wr n ∧ wr sp + wr n ≤ n0 ∧ wr dp + wr n ≤ n1
theorem v_copy (C : Cx Z A E cc own nL rm) {idx a b n0 n1 : Nat} {sp dp n : Int} (ha : shp a = (1, n0, [])) (hb : shp b = (1, n1, [])) (h : cpk sp dp n n0 n1) (lk : Cond.methodLink own idx arraycopyName ∈ uw) (h1 : Cond.native arraycopyName ∈ uw) (h2 : Cond.static arraycopyName ∈ uw) (h3 : Cond.initialized "java/lang/System" ∈ uw) (hf : 1 ≤ rm.frames) (hl : (st.map fun v => v.category).sum + (nativeFrameWords "java/lang/System" "arraycopy" 5 + 11) ≤ rm.locals) (d : decode cc pc = .ok (.invokestatic idx, 3)) (kk : V Z A E nL (cpy w a (wr sp).toNat b (wr dp).toNat (wr n).toNat) (pc + 3) lv st) : V Z A E nL w pc lv (iv n :: iv dp :: rv Z b :: iv sp :: rv Z a :: st) := fun H locs ls hP hS hl9 => by
  obtain ⟨g1, g2, g3, g4, g5⟩ := h
  refine va_copyi (ty := .int) (f := fun i => Int32.ofInt (w a i)) (g := fun i => Int32.ofInt (w b i)) (n0 := n0) (n1 := n1) C.x C.b (by rw [C.m, hl9.1]) C.o (C.t _ lk) (C.t _ h1) (C.t _ h2) (C.t _ h3) C.k hP (C.d w) hS a b 0 0 (by rw [ws_get Z w (shp_lt ha (by decide)), ce_int Z w ha (by decide) (by decide)]) (by rw [ws_get Z w (shp_lt hb (by decide)), ce_int Z w hb (by decide) (by decide)]) rfl rfl rfl (fun q => absurd ((z_lt sp).mp q) (by omega)) (fun q => absurd ((z_lt dp).mp q) (by omega)) (fun q => absurd ((z_lt n).mp q) (by omega)) (by rw [cl_nat, cl_nat]; omega) (by rw [cl_nat, cl_nat]; omega) (fun i _ => rfl) (by rw [C.r]; exact hf) (by rw [C.r]; exact hl) d (fun H1 locs1 hP1 _ hS1 => ?_)
  rw [cl_nat, cl_nat, cl_nat] at hP1
  refine kk H1 locs1 ls ?_ hS1 hl9
  rw [← ws_set Z w (cpy w a (wr sp).toNat b (wr dp).toNat (wr n).toNat) (k := b) (e := .inl (Z.2.2 1, n1, .inl (va_cpy (fun i => Int32.ofInt (w a i)) (fun i => Int32.ofInt (w b i)) (wr sp).toNat (wr dp).toNat (wr n).toNat))) ?_ ?_]
  · exact hP1
  · rw [ce_int Z _ hb (by decide) (by decide)]
    congr 4
    funext j
    by_cases q : (wr dp).toNat ≤ j ∧ j < (wr dp).toNat + (wr n).toNat
    · rw [pk_cpy_in q.1 q.2]; simp [cpy, q]
    · rw [pk_cpy_out (by omega)]; simp only [cpy]; rw [if_neg (fun z => q z.2)]
  · intro j hj
    exact ce_other Z w _ (fun i => by simp [cpy, hj])
/-- the row of factorials -/
theorem v_fac (C : Cx Z A E cc "HandleFaces$Orders" nL rm) (d : decode cc pc = .ok (.getstatic 65, 3)) (kk : V Z A E nL w (pc + 3) lv (rv Z 99 :: st)) : V Z A E nL w pc lv st := fun H locs ls hP hS hl =>
  va_getsN C.x C.b C.s.1 hS C.o (va_Nw.use rfl C.s.2.2.1) (fun _ h => h) d (kk H locs ls hP hS hl)
theorem v_faclen (C : Cx Z A E cc own nL rm) (d : decode cc pc = .ok (.arraylength, 1)) (kk : V Z A E nL w (pc + 1) lv (iv 10 :: st)) : V Z A E nL w pc lv (rv Z 99 :: st) := fun H locs ls hP hS hl =>
  va_tlen C.x C.b C.s.2.1 hS rfl d (kk H locs ls hP hS hl)
theorem v_facald (C : Cx Z A E cc own nL rm) {x : Int} (hin : ix x 10) (d : decode cc pc = .ok (.iaload, 1)) (kk : V Z A E nL w (pc + 1) lv (iv (facs.getD (wr x).toNat 0) :: st)) : V Z A E nL w pc lv (iv x :: rv Z 99 :: st) := fun H locs ls hP hS hl =>
  va_ti C.x C.b C.s.2.1 hS (ix_vp hin) rfl d (kk H locs ls hP hS hl)
end VJDK
