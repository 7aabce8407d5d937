/-! THE WORLD AS NUMBERS: a cell's number and a place in it give a whole number; references are fixed by the shapes -/
abbrev Wd : Type := Nat → Nat → Int
abbrev Zw : Type := va_G × (Nat → Nat) × (Nat → ClassId)
abbrev Amb : Type := Program × Launch × Env × Room × State × MethodId × Array Value × List Frame × Method × Code × (State → Prop) × Nat × Nat
abbrev eP (E : Amb) : Program := E.1
abbrev eL (E : Amb) : Launch := E.2.1
abbrev eE (E : Amb) : Env := E.2.2.1
abbrev eR (E : Amb) : Room := E.2.2.2.1
abbrev eS (E : Amb) : State := E.2.2.2.2.1
abbrev eM (E : Amb) : MethodId := E.2.2.2.2.2.1
abbrev eA (E : Amb) : Array Value := E.2.2.2.2.2.2.1
abbrev eB (E : Amb) : List Frame := E.2.2.2.2.2.2.2.1
abbrev eT (E : Amb) : Method := E.2.2.2.2.2.2.2.2.1
abbrev eC (E : Amb) : Code := E.2.2.2.2.2.2.2.2.2.1
abbrev eQ (E : Amb) : State → Prop := E.2.2.2.2.2.2.2.2.2.2.1
abbrev eN (E : Amb) : Nat := E.2.2.2.2.2.2.2.2.2.2.2.1
abbrev eK (E : Amb) : Nat := E.2.2.2.2.2.2.2.2.2.2.2.2
def wr (x : Int) : Int := (Int32.ofInt x).toInt
def wl (x : Int) : Int := (Int64.ofInt x).toInt
abbrev iv (x : Int) : Value := .int (Int32.ofInt x)
abbrev jv (x : Int) : Value := .long (Int64.ofInt x)
abbrev rv (Z : Zw) (k : Nat) : Value := .ref (Z.2.1 k)
def up (w : Wd) (k i : Nat) (v : Int) : Wd := fun a b => if a = k ∧ b = i then v else w a b
def ix (x : Int) (n : Nat) : Prop := 0 ≤ wr x ∧ wr x < n
def rd (w : Wd) (k : Nat) (x : Int) : Int := w k (wr x).toNat
def wt (w : Wd) (k : Nat) (x : Int) (v : Int) : Wd := up w k (wr x).toNat v
def idv (a b : Int) : Int := (Int32.ofInt a / Int32.ofInt b).toInt
def irm (a b : Int) : Int := a - idv a b * b
def ian (a b : Int) : Int := (Int32.ofInt a &&& Int32.ofInt b).toInt
def ior (a b : Int) : Int := (Int32.ofInt a ||| Int32.ofInt b).toInt
def ixo (a b : Int) : Int := (Int32.ofInt a ^^^ Int32.ofInt b).toInt
def isl (a b : Int) : Int := (Int32.ofInt a <<< (Int32.ofInt b &&& 31)).toInt
def isr (a b : Int) : Int := (Int32.ofInt a >>> (Int32.ofInt b &&& 31)).toInt
def ius (a b : Int) : Int := ((Int32.ofInt a).toUInt32 >>> ((Int32.ofInt b).toUInt32 &&& Int32.toUInt32 31)).toInt32.toInt
def iby (a : Int) : Int := ((Int32.ofInt a).toInt8.toInt32).toInt
def ldv (a b : Int) : Int := (Int64.ofInt a / Int64.ofInt b).toInt
def lrm (a b : Int) : Int := a - ldv a b * b
def lan (a b : Int) : Int := (Int64.ofInt a &&& Int64.ofInt b).toInt
def lor (a b : Int) : Int := (Int64.ofInt a ||| Int64.ofInt b).toInt
def lxo (a b : Int) : Int := (Int64.ofInt a ^^^ Int64.ofInt b).toInt
def lsl (a b : Int) : Int := (Int64.ofInt a <<< ((Int32.ofInt b).toInt64 &&& 63)).toInt
def lsr (a b : Int) : Int := (Int64.ofInt a >>> ((Int32.ofInt b).toInt64 &&& 63)).toInt
def lcm (a b : Int) : Int := (lg_cmp (Int64.ofInt a) (Int64.ofInt b)).toInt
theorem oi (x : Int32) : Int32.ofInt x.toInt = x := Int32.ofInt_toInt x
theorem ol (x : Int64) : Int64.ofInt x.toInt = x := Int64.ofInt_toInt x
theorem ofwr (x : Int) : Int32.ofInt (wr x) = Int32.ofInt x := oi _
theorem ofwl (x : Int) : Int64.ofInt (wl x) = Int64.ofInt x := ol _
theorem o_add (a b : Int) : Int32.ofInt a + Int32.ofInt b = Int32.ofInt (a + b) := (Int32.ofInt_add a b).symm
theorem o_sub (a b : Int) : Int32.ofInt a - Int32.ofInt b = Int32.ofInt (a - b) := (Int32.ofInt_sub a b).symm
theorem o_mul (a b : Int) : Int32.ofInt a * Int32.ofInt b = Int32.ofInt (a * b) := (Int32.ofInt_mul a b).symm
theorem o_neg (a : Int) : -Int32.ofInt a = Int32.ofInt (-a) := (Int32.ofInt_neg a).symm
theorem l_add (a b : Int) : Int64.ofInt a + Int64.ofInt b = Int64.ofInt (a + b) := (Int64.ofInt_add a b).symm
theorem l_sub (a b : Int) : Int64.ofInt a - Int64.ofInt b = Int64.ofInt (a - b) := (Int64.ofInt_sub a b).symm
theorem l_mul (a b : Int) : Int64.ofInt a * Int64.ofInt b = Int64.ofInt (a * b) := (Int64.ofInt_mul a b).symm
theorem c_lt (a b : Int) : Int32.ofInt a < Int32.ofInt b ↔ wr a < wr b := Int32.lt_iff_toInt_lt
theorem c_le (a b : Int) : Int32.ofInt a ≤ Int32.ofInt b ↔ wr a ≤ wr b := Int32.le_iff_toInt_le
theorem c_eq (a b : Int) : Int32.ofInt a = Int32.ofInt b ↔ wr a = wr b := Int32.toInt_inj.symm
theorem z_lt (a : Int) : Int32.ofInt a < 0 ↔ wr a < 0 := Int32.lt_iff_toInt_lt
theorem z_gt (a : Int) : 0 < Int32.ofInt a ↔ 0 < wr a := Int32.lt_iff_toInt_lt
theorem z_le (a : Int) : Int32.ofInt a ≤ 0 ↔ wr a ≤ 0 := Int32.le_iff_toInt_le
theorem z_ge (a : Int) : 0 ≤ Int32.ofInt a ↔ 0 ≤ wr a := Int32.le_iff_toInt_le
theorem z_eq (a : Int) : Int32.ofInt a = 0 ↔ wr a = 0 := Int32.toInt_inj.symm
theorem zl_eq (a : Int) : Int64.ofInt a = 0 ↔ wl a = 0 := Int64.toInt_inj.symm
theorem wid (a : Int) : (Int32.ofInt a).toInt64 = Int64.ofInt (wr a) := by
  apply Int64.toInt_inj.mp
  have h1 := Int32.toInt_lt (Int32.ofInt a)
  have h2 := Int32.le_toInt (Int32.ofInt a)
  rw [Int32.toInt_toInt64, Int64.toInt_ofInt_of_le (by unfold wr; omega) (by unfold wr; omega)]
  rfl
theorem nar (a : Int) : (Int64.ofInt a).toInt32 = Int32.ofInt a := by
  rw [Int64.toInt32_ofInt]
theorem ix_vp {x : Int} {n : Nat} (h : ix x n) : vp_in (Int32.ofInt x) n := vp_in_iff.mpr h
theorem cl_nat (x : Int) : (Int32.ofInt x).toNatClampNeg = (wr x).toNat := rfl
/-- the cells: (0, class, field codes: 0 an int, 1 a long, c + 2 the cell c), (1 ints, 2 bytes, 3 longs, 4 booleans; the length) -/
def shpL : List (Nat × Nat × List Nat) := [(0, 10, [3, 7, 11, 16, 19, 29, 39, 42, 51, 52, 61, 63, 65, 0, 0, 0, 0, 0]), (0, 1, [0, 0, 0, 4, 5, 6]), (1, 20, []), (1, 6, []), (1, 60, []), (0, 1, [0, 0, 0, 8, 9, 10]), (1, 20, []), (1, 6, []), (1, 60, []), (0, 6, [0, 0, 0, 0, 12, 13, 14, 15, 0, 0, 0, 0, 0, 1]), (1, 400, []), (1, 400, []), (3, 400, []), (2, 2000, []), (0, 4, [0, 0, 0, 0, 0, 17, 18]), (3, 6, []), (1, 20, []), (0, 8, [0, 20, 21, 22, 23, 24, 25, 26, 0, 0, 1]), (1, 16, []), (1, 16, []), (1, 20, []), (1, 20, []), (1, 16, []), (1, 20, []), (0, 9, [0, 0, 27, 28]), (1, 20, []), (1, 20, []), (0, 8, [0, 30, 31, 32, 33, 34, 35, 36, 0, 0, 1]), (1, 16, []), (1, 16, []), (1, 20, []), (1, 20, []), (1, 16, []), (1, 20, []), (0, 9, [0, 0, 37, 38]), (1, 20, []), (1, 20, []), (0, 9, [0, 0, 40, 41]), (1, 20, []), (1, 20, []), (0, 3, [0, 0, 0, 43, 44, 48, 1, 1, 0]), (1, 6, []), (0, 1, [0, 0, 0, 45, 46, 47]), (1, 20, []), (1, 6, []), (1, 60, []), (0, 9, [0, 0, 49, 50]), (1, 20, []), (1, 20, []), (0, 5, [0, 0, 0]), (0, 2, [53, 56, 59, 60, 0]), (0, 9, [0, 0, 54, 55]), (1, 20, []), (1, 20, []), (0, 9, [0, 0, 57, 58]), (1, 20, []), (1, 20, []), (1, 40, []), (1, 40, []), (0, 0, [62]), (1, 16, []), (0, 7, [0, 64]), (1, 3560, []), (0, 7, [0, 66]), (1, 267, []), (0, 11, [0, 68, 0, 69, 0, 70, 71, 72, 73, 74, 0, 0, 0, 0, 0, 0, 0, 75, 76, 77, 0, 0, 78, 0, 0, 79, 80, 81, 82, 83, 84, 85, 86, 0, 0, 0, 87, 88, 89, 90, 91, 92, 0]), (2, 2000, []), (2, 2000, []), (1, 403, []), (1, 403, []), (1, 403, []), (3, 403, []), (3, 4, []), (1, 98, []), (1, 98, []), (3, 6, []), (1, 3920, []), (1, 294, []), (4, 3, []), (1, 40, []), (1, 30, []), (1, 30, []), (1, 6, []), (1, 98, []), (1, 20, []), (1, 30, []), (1, 30, []), (1, 10, []), (1, 40, []), (1, 40, []), (1, 40, [])]
def shp (k : Nat) : Nat × Nat × List Nat := shpL.getD k (9, 0, [])
abbrev NC : Nat := 91
theorem shpL_len : shpL.length = NC := by decide +kernel
theorem shp_lt {k t n : Nat} {cs : List Nat} (h : shp k = (t, n, cs)) (ht : t ≠ 9) : k < NC := by
  rcases Nat.lt_or_ge k NC with q | q
  · exact q
  · have : shp k = (9, 0, []) := by
      unfold shp
      rw [List.getD_eq_getElem?_getD, List.getElem?_eq_none (by rw [shpL_len]; exact q)]
      rfl
    rw [this] at h
    exact absurd (congrArg Prod.fst h).symm ht
def vfOf (Z : Zw) (w : Wd) (k j c : Nat) : Value := match c with
  | 0 => iv (w k j)
  | 1 => jv (w k j)
  | c + 2 => rv Z c
def fsOf (Z : Zw) (w : Wd) (k : Nat) : Nat → List Nat → List Value
  | _, [] => []
  | j, c :: cs => vfOf Z w k j c :: fsOf Z w k (j + 1) cs
def ceOf (Z : Zw) (w : Wd) (k : Nat) : va_E :=
  if (shp k).1 = 0 then .inr ((shp k).2.1, fsOf Z w k 0 (shp k).2.2)
  else if (shp k).1 = 3 then .inl (Z.2.2 3, (shp k).2.1, .inr (.inl fun i => Int64.ofInt (w k i)))
  else .inl (Z.2.2 (shp k).1, (shp k).2.1, .inl fun i => Int32.ofInt (w k i))
def wsOf (Z : Zw) (w : Wd) : va_W := (List.range NC).map fun k => (Z.2.1 k, ceOf Z w k)
def tysOf (Z : Zw) : List (ClassId × FieldType) := [(Z.2.2 1, .int), (Z.2.2 2, .byte), (Z.2.2 3, .long), (Z.2.2 4, .boolean)]
theorem ws_get (Z : Zw) (w : Wd) {k : Nat} (h : k < NC) : (wsOf Z w)[k]? = some (Z.2.1 k, ceOf Z w k) := by
  simp [wsOf, List.getElem?_map, List.getElem?_range h]
theorem ws_set (Z : Zw) (w w' : Wd) {k : Nat} {e : va_E} (he : ceOf Z w' k = e) (ho : ∀ j, j ≠ k → ceOf Z w' j = ceOf Z w j) : (wsOf Z w).set k (Z.2.1 k, e) = wsOf Z w' := by
  apply List.ext_getElem?
  intro i
  rw [List.getElem?_set]
  by_cases hi : k = i
  · subst hi
    by_cases hk : k < NC
    · simp [wsOf, hk, he]
    · simp [wsOf, hk]
  · rw [if_neg hi]
    simp only [wsOf, List.getElem?_map]
    by_cases h : i < NC
    · rw [List.getElem?_range h]
      simp [ho i (fun q => hi q.symm)]
    · rw [List.getElem?_eq_none (by simpa using h)]
      rfl
theorem fs_get (Z : Zw) (w : Wd) (k : Nat) : ∀ (cs : List Nat) (b j c : Nat), cs[j]? = some c → (fsOf Z w k b cs)[j]? = some (vfOf Z w k (b + j) c)
  | [], _, _, _, h => by simp at h
  | x :: cs, b, 0, c, h => by
    have : x = c := by simpa using h
    subst this
    simp [fsOf]
  | x :: cs, b, j + 1, c, h => by
    have h1 : cs[j]? = some c := by simpa using h
    have h2 := fs_get Z w k cs (b + 1) j c h1
    show (fsOf Z w k (b + 1) cs)[j]? = _
    rw [h2]
    congr 2
    omega
theorem fs_len (Z : Zw) (w : Wd) (k : Nat) : ∀ (cs : List Nat) (b : Nat), (fsOf Z w k b cs).length = cs.length
  | [], _ => rfl
  | _ :: cs, b => by simp [fsOf, fs_len Z w k cs (b + 1)]
theorem fs_up (Z : Zw) (w : Wd) (k i : Nat) (v : Int) : ∀ (cs : List Nat) (b j c : Nat), b + j = i → cs[j]? = some c → c < 2 → (fsOf Z w k b cs).set j (vfOf Z (up w k i v) k i c) = fsOf Z (up w k i v) k b cs
  | [], _, _, _, _, h, _ => by simp at h
  | x :: cs, b, 0, c, e, h, hc => by
    have : x = c := by simpa using h
    subst this
    have hb : b = i := by omega
    subst hb
    show vfOf Z (up w k b v) k b x :: fsOf Z w k (b + 1) cs = vfOf Z (up w k b v) k b x :: fsOf Z (up w k b v) k (b + 1) cs
    rw [fs_off Z w k b v cs (b + 1) (by omega)]
  | x :: cs, b, j + 1, c, e, h, hc => by
    have h1 : cs[j]? = some c := by simpa using h
    show vfOf Z w k b x :: (fsOf Z w k (b + 1) cs).set j _ = vfOf Z (up w k i v) k b x :: fsOf Z (up w k i v) k (b + 1) cs
    rw [fs_up Z w k i v cs (b + 1) j c (by omega) h1 hc, vf_off Z w k i v b x (by omega)]
where
  vf_off (Z : Zw) (w : Wd) (k i : Nat) (v : Int) (b x : Nat) (h : b ≠ i) : vfOf Z w k b x = vfOf Z (up w k i v) k b x := by
    have : up w k i v k b = w k b := by simp [up, h]
    match x with
    | 0 => simp [vfOf, this]
    | 1 => simp [vfOf, this]
    | x + 2 => rfl
  fs_off (Z : Zw) (w : Wd) (k i : Nat) (v : Int) : ∀ (cs : List Nat) (b : Nat), i < b → fsOf Z w k b cs = fsOf Z (up w k i v) k b cs
    | [], _, _ => rfl
    | x :: cs, b, h => by
      show vfOf Z w k b x :: _ = vfOf Z (up w k i v) k b x :: _
      rw [fs_off Z w k i v cs (b + 1) (by omega), vf_off Z w k i v b x (by omega)]
theorem fs_other (Z : Zw) (w w' : Wd) (k : Nat) (h : ∀ i, w' k i = w k i) : ∀ (cs : List Nat) (b : Nat), fsOf Z w' k b cs = fsOf Z w k b cs
  | [], _ => rfl
  | x :: cs, b => by
    show vfOf Z w' k b x :: _ = vfOf Z w k b x :: _
    rw [fs_other Z w w' k h cs (b + 1)]
    congr 1
    match x with
    | 0 => simp [vfOf, h]
    | 1 => simp [vfOf, h]
    | x + 2 => rfl
theorem ce_other (Z : Zw) (w w' : Wd) {k : Nat} (h : ∀ i, w' k i = w k i) : ceOf Z w' k = ceOf Z w k := by
  unfold ceOf
  rw [fs_other Z w w' k h]
  simp [h]
theorem up_ne (w : Wd) {k j : Nat} (i : Nat) (v : Int) (h : j ≠ k) (b : Nat) : up w k i v j b = w j b := by simp [up, h]
theorem up_eq (w : Wd) (k i : Nat) (v : Int) : up w k i v k i = v := by simp [up]
theorem up_at (w : Wd) (k : Nat) {i j : Nat} (v : Int) (h : j ≠ i) : up w k i v k j = w k j := by simp [up, h]
theorem ce_obj (Z : Zw) (w : Wd) {k ci : Nat} {cs : List Nat} (h : shp k = (0, ci, cs)) : ceOf Z w k = .inr (ci, fsOf Z w k 0 cs) := by simp [ceOf, h]
theorem ce_lon (Z : Zw) (w : Wd) {k n : Nat} {cs : List Nat} (h : shp k = (3, n, cs)) : ceOf Z w k = .inl (Z.2.2 3, n, .inr (.inl fun i => Int64.ofInt (w k i))) := by simp [ceOf, h]
theorem ce_int (Z : Zw) (w : Wd) {k t n : Nat} {cs : List Nat} (h : shp k = (t, n, cs)) (h0 : t ≠ 0) (h3 : t ≠ 3) : ceOf Z w k = .inl (Z.2.2 t, n, .inl fun i => Int32.ofInt (w k i)) := by simp [ceOf, h, h0, h3]
/-- a number is written: the cells behind it -/
theorem ws_put (Z : Zw) (w : Wd) {k i c ci : Nat} {cs : List Nat} (v : Int) (h : shp k = (0, ci, cs)) (hc : cs[i]? = some c) (h2 : c < 2) : (wsOf Z w).set k (Z.2.1 k, .inr (ci, (fsOf Z w k 0 cs).set i (vfOf Z (up w k i v) k i c))) = wsOf Z (up w k i v) := by
  refine ws_set Z w (up w k i v) ?_ (fun j hj => ce_other Z w _ (fun b => up_ne w i v hj b))
  rw [ce_obj Z _ h, fs_up Z w k i v cs 0 i c (by omega) hc h2]
theorem ws_sti (Z : Zw) (w : Wd) {k t n : Nat} {cs : List Nat} (i : Nat) (v : Int) (x : Int32) (h : shp k = (t, n, cs)) (h0 : t ≠ 0) (h3 : t ≠ 3) (hx : Int32.ofInt v = x) : (wsOf Z w).set k (Z.2.1 k, .inl (Z.2.2 t, n, .inl (upd (fun i => Int32.ofInt (w k i)) i x))) = wsOf Z (up w k i v) := by
  refine ws_set Z w (up w k i v) ?_ (fun j hj => ce_other Z w _ (fun b => up_ne w i v hj b))
  rw [ce_int Z _ h h0 h3]
  congr 4
  funext j
  by_cases hj : j = i
  · subst hj; simp [up, upd, hx]
  · simp [up, upd, hj]
theorem ws_stl (Z : Zw) (w : Wd) {k n : Nat} {cs : List Nat} (i : Nat) (v : Int) (h : shp k = (3, n, cs)) : (wsOf Z w).set k (Z.2.1 k, .inl (Z.2.2 3, n, .inr (.inl (vp_updL (fun i => Int64.ofInt (w k i)) i (Int64.ofInt v))))) = wsOf Z (up w k i v) := by
  refine ws_set Z w (up w k i v) ?_ (fun j hj => ce_other Z w _ (fun b => up_ne w i v hj b))
  rw [ce_lon Z _ h]
  congr 5
  funext j
  by_cases hj : j = i
  · subst hj; simp [up, vp_updL]
  · simp [up, vp_updL, hj]
