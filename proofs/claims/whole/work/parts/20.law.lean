/-! THE CLAIM OUT OF ONE WALK OF THE LAW'S BODY. Your part is whole_start (and what it stands on); all else here is the same for every law, but numbers. -/
def R_law : String := "HandleFacesLaw"
def lw_P (b : Addr) (xs : List Int32) (args : Array Value) (s : State) : Prop := args = #[.ref b] ∧ s.IntsAt b xs ∧ xs.length ≤ 3072 ∧ (Jvm.Cond.and given_1 narrow_1).before args s = true
def lw_Q (_ : Array Value) (s : State) (o : Outcome) (t : State) : Prop := o = .returned (some (.int 1)) ∧ Framed s o t [] 600000 7302250
def lw_Z (below : List Frame) (a : Array Value) (s : State) : State → Prop := fun t => ∃ o, t.status = .running ∧ Ended t below o ∧ lw_Q a s o t
/-- the law's own end, with 1 on the stack, nothing written that was there before, its room as the claim has it -/
theorem lw_ret {p : Program} {l : Launch} {e : Env} {s : State} {m : MethodId} {below : List Frame} {meth : Method} {c : Code} {b : Nat} (hx : p.tables.exec = Jvm.exec) (hb : c.code = code) (hr : meth.sig.returnType = ret) (hlocks : meth.locks = false) {pc : Nat} {H : Heap} {ls : Array Slot} (hdg : decode code pc = .ok (.ireturn, 1)) : W p l e room_1 s m #[Value.ref b] below meth c H [] 600000 7302250 (lw_Z below #[Value.ref b] s) (F0 m pc ls [.int 1]) := by
  intro T hT X
  obtain ⟨fs, hret, hrun, hended, hW, hframe⟩ := X.leave (v := some (.int 1)) (hlocks := hlocks) (fun h => by rw [hr] at h; cases h)
  have hmeth' : T.vm.method? m = some meth := X.method'
  refine ⟨T.setFrames fs, ?_, .returned (some (.int 1)), hrun, hended, rfl, ⟨_, rfl⟩, hW, hframe⟩
  jvm_step X.here [X.here.top, hx, hb, hdg, hmeth', hr, ret, narrow_b1]
  (try refine ⟨rfl, ?_⟩); (try refine ⟨rfl, ?_⟩)
  first | (intro acts; rw [hret _ acts rfl rfl rfl]) | rw [hret _ _ rfl rfl rfl]
  exact Steps.refl _
/-- what holds at the law's entry: the machine, the code, the tables' words (any of lw_tbl by 'hts w (by decide +kernel)'), the script of L ints xs at the cell b, what the Statement gives of the start (any of its parts by flat_of_before) -/
def lw_At (p : Program) (s : State) (m : MethodId) (meth : Method) (c : Code) (b L : Nat) (xs : Nat → Int32) : Prop :=
  p.tables.exec = Jvm.exec ∧ c.code = code ∧ meth.sig.returnType = ret ∧ c.maxLocals = 4 ∧ s.vm.findClass R_law = some m.cls ∧ (∀ w ∈ lw_tbl, w.before #[Value.ref b] s = true) ∧ va_X b L xs s s.heap ∧ b < s.heap.size ∧ meth.locks = false ∧ (Jvm.Cond.and given_1 narrow_1).before #[Value.ref b] s = true
/-- the law's end -/
def RtL (E : Amb) (B b L : Nat) (xs : Nat → Int32) : Prop := (eT E).sig.returnType = ret ∧ (eT E).locks = false ∧ eQ E = lw_Z (eB E) #[Value.ref b] (eS E) ∧ eA E = #[Value.ref b] ∧ (eS E).heap.size = B ∧ b < B ∧ va_X b L xs (eS E) (eS E).heap
section LAWROWS
variable {Z : Zw} {E : Amb} {B b L : Nat} {xs : Nat → Int32} {pc : Nat} {w : Wd} {lv : List (Nat × Value)} {st : List Value}
theorem v_lawret (C : Cx Z (aB B) E cL_law "HandleFacesLaw" 4 room_1) (R : RtL E B b L xs) (d : decode cL_law pc = .ok (.ireturn, 1)) : V Z (aB B) E 4 w pc lv [iv 1] := fun H locs ls hP hS hl => by
  obtain ⟨r1, r2, r3, r4, r5, r6, r7⟩ := R
  refine va_forget (fun q hq => by rw [r5]; exact hS.2.2 q hq) ?_
  have hn := C.n
  rw [C.r] at hn
  refine W.widen (k := 600000) (n := 7302250) hn.1 hn.2 ?_
  have hz : eR E = room_1 := C.r
  rw [hz, r3, r4]
  exact lw_ret C.x C.b r1 r2 d
theorem v_lawlen (C : Cx Z (aB B) E cL_law "HandleFacesLaw" 4 room_1) (R : RtL E B b L xs) (d : decode cL_law pc = .ok (.arraylength, 1)) (kk : V Z (aB B) E 4 w (pc + 1) lv (iv (L : Int) :: st)) : V Z (aB B) E 4 w pc lv (.ref b :: st) := fun H locs ls hP hS hl => by
  obtain ⟨r1, r2, r3, r4, r5, r6, r7⟩ := R
  refine va_slen C.x C.b r7 (by rw [r5]; exact r6) (fun q => absurd r6 (Nat.not_lt.mpr q)) hS d ?_
  have := kk H locs ls hP hS hl
  rw [show iv (L : Int) = Value.int (Int32.ofNat L) from congrArg Value.int Int32.ofInt_eq_ofNat] at this
  exact this
theorem v_lawld (C : Cx Z (aB B) E cL_law "HandleFacesLaw" 4 room_1) (R : RtL E B b L xs) {x : Int} (hx : ix x L) (d : decode cL_law pc = .ok (.iaload, 1)) (kk : V Z (aB B) E 4 w (pc + 1) lv (iv (xs (wr x).toNat).toInt :: st)) : V Z (aB B) E 4 w pc lv (iv x :: .ref b :: st) := fun H locs ls hP hS hl => by
  obtain ⟨r1, r2, r3, r4, r5, r6, r7⟩ := R
  refine va_sld C.x C.b r7 (by rw [r5]; exact r6) (fun q => absurd r6 (Nat.not_lt.mpr q)) hS (ix_vp hx) d ?_
  have := kk H locs ls hP hS hl
  rw [show iv (xs (wr x).toNat).toInt = Value.int (xs (wr x).toNat) from congrArg Value.int (oi _)] at this
  exact this
end LAWROWS
def L_law_b347 (xs : Nat → Int32) (L : Nat) (c18 : Int → Wd → Prop) (e225 : Wd → Prop) (e248 : Wd → Prop) (e261 : Wd → Prop) (e274 : Wd → Prop) (e353 : Wd → Prop) (e376 : Wd → Prop) (e399 : Wd → Prop) (e422 : Wd → Prop) (e455 : Wd → Prop) (e468 : Wd → Prop) (e481 : Wd → Prop) (e504 : Wd → Prop) (e517 : Wd → Prop) (e550 : Wd → Prop) (e583 : Wd → Prop) (e616 : Wd → Prop) (e639 : Wd → Prop) (e663 : Wd → Prop) (e686 : Wd → Prop) (e729 : Wd → Prop) (e742 : Wd → Prop) (e765 : Wd → Prop) (e798 : Wd → Prop) (e821 : Wd → Prop) (e834 : Wd → Prop) (e857 : Wd → Prop) (e880 : Wd → Prop) (e903 : Wd → Prop) (e926 : Wd → Prop) (e934 : Wd → Prop) (x3 : Int) (s0 : Int) (s1 : Int) (s2 : Int) (s3 : Int) (s4 : Int) (s6 : Int) (w : Wd) : Prop := X11_lay s4 s3 s2 s1 s0 w (fun y21 w20 => ((wr s6 = wr y21 → c18 (x3 + 6) w20) ∧ (¬ wr s6 = wr y21 → e353 w20)))
theorem t_L_law_b347 {Z : Zw} {E : Amb} {B b L : Nat} {xs : Nat → Int32} {c18 : Int → Wd → Prop} {e225 : Wd → Prop} {e248 : Wd → Prop} {e261 : Wd → Prop} {e274 : Wd → Prop} {e353 : Wd → Prop} {e376 : Wd → Prop} {e399 : Wd → Prop} {e422 : Wd → Prop} {e455 : Wd → Prop} {e468 : Wd → Prop} {e481 : Wd → Prop} {e504 : Wd → Prop} {e517 : Wd → Prop} {e550 : Wd → Prop} {e583 : Wd → Prop} {e616 : Wd → Prop} {e639 : Wd → Prop} {e663 : Wd → Prop} {e686 : Wd → Prop} {e729 : Wd → Prop} {e742 : Wd → Prop} {e765 : Wd → Prop} {e798 : Wd → Prop} {e821 : Wd → Prop} {e834 : Wd → Prop} {e857 : Wd → Prop} {e880 : Wd → Prop} {e903 : Wd → Prop} {e926 : Wd → Prop} {e934 : Wd → Prop} (C : Cx Z (aB B) E cL_law "HandleFacesLaw" 4 room_1) (R : RtL E B b L xs) (hc18 : ∀ (x3 : Int) (w : Wd), c18 x3 w → V Z (aB B) E 4 w 18 [(0, .ref b), (1, rv Z 0), (2, rv Z 65), (3, iv x3)] []) (he225 : ∀ (w : Wd), e225 w → V Z (aB B) E 4 w 225 [] []) (he248 : ∀ (w : Wd), e248 w → V Z (aB B) E 4 w 248 [] []) (he261 : ∀ (w : Wd), e261 w → V Z (aB B) E 4 w 261 [] []) (he274 : ∀ (w : Wd), e274 w → V Z (aB B) E 4 w 274 [] []) (he353 : ∀ (w : Wd), e353 w → V Z (aB B) E 4 w 353 [] []) (he376 : ∀ (w : Wd), e376 w → V Z (aB B) E 4 w 376 [] []) (he399 : ∀ (w : Wd), e399 w → V Z (aB B) E 4 w 399 [] []) (he422 : ∀ (w : Wd), e422 w → V Z (aB B) E 4 w 422 [] []) (he455 : ∀ (w : Wd), e455 w → V Z (aB B) E 4 w 455 [] []) (he468 : ∀ (w : Wd), e468 w → V Z (aB B) E 4 w 468 [] []) (he481 : ∀ (w : Wd), e481 w → V Z (aB B) E 4 w 481 [] []) (he504 : ∀ (w : Wd), e504 w → V Z (aB B) E 4 w 504 [] []) (he517 : ∀ (w : Wd), e517 w → V Z (aB B) E 4 w 517 [] []) (he550 : ∀ (w : Wd), e550 w → V Z (aB B) E 4 w 550 [] []) (he583 : ∀ (w : Wd), e583 w → V Z (aB B) E 4 w 583 [] []) (he616 : ∀ (w : Wd), e616 w → V Z (aB B) E 4 w 616 [] []) (he639 : ∀ (w : Wd), e639 w → V Z (aB B) E 4 w 639 [] []) (he663 : ∀ (w : Wd), e663 w → V Z (aB B) E 4 w 663 [] []) (he686 : ∀ (w : Wd), e686 w → V Z (aB B) E 4 w 686 [] []) (he729 : ∀ (w : Wd), e729 w → V Z (aB B) E 4 w 729 [] []) (he742 : ∀ (w : Wd), e742 w → V Z (aB B) E 4 w 742 [] []) (he765 : ∀ (w : Wd), e765 w → V Z (aB B) E 4 w 765 [] []) (he798 : ∀ (w : Wd), e798 w → V Z (aB B) E 4 w 798 [] []) (he821 : ∀ (w : Wd), e821 w → V Z (aB B) E 4 w 821 [] []) (he834 : ∀ (w : Wd), e834 w → V Z (aB B) E 4 w 834 [] []) (he857 : ∀ (w : Wd), e857 w → V Z (aB B) E 4 w 857 [] []) (he880 : ∀ (w : Wd), e880 w → V Z (aB B) E 4 w 880 [] []) (he903 : ∀ (w : Wd), e903 w → V Z (aB B) E 4 w 903 [] []) (he926 : ∀ (w : Wd), e926 w → V Z (aB B) E 4 w 926 [] []) (he934 : ∀ (w : Wd), e934 w → V Z (aB B) E 4 w 934 [] []) : ∀ (x3 : Int) (s0 : Int) (s1 : Int) (s2 : Int) (s3 : Int) (s4 : Int) (s6 : Int) (w : Wd), L_law_b347 xs L c18 e225 e248 e261 e274 e353 e376 e399 e422 e455 e468 e481 e504 e517 e550 e583 e616 e639 e663 e686 e729 e742 e765 e798 e821 e834 e857 e880 e903 e926 e934 x3 s0 s1 s2 s3 s4 s6 w → V Z (aB B) E 4 w 347 [(0, .ref b), (1, rv Z 0), (2, rv Z 65), (3, iv x3)] [iv s0, iv s1, iv s2, iv s3, iv s4, rv Z 65, iv s6] := by
  intro x3 s0 s1 s2 s3 s4 s6 w h
  unfold L_law_b347 at h
  refine v_calli C (rn_V C _ (m_X11_lay h) mf_X11_lay wd_1305 wd_1306 wd_1304 rfl rfl ⟨(Nat.le_of_ble_eq_true rfl), (Nat.le_of_ble_eq_true rfl)⟩ rfl rfl rfl rfl (Nat.le_of_ble_eq_true rfl) dL_law_347) (fun r w h => ?_)
  refine v_icmp_eq C 928 dL_law_350 (by decide) (fun q => ?_) (fun q => ?_)
  · have h := h.1 q
    refine v_iinc C [(3, _), (0, _), (1, _), (2, _)] dL_law_928 3 rfl (by decide) rfl ?_
    refine v_goto C 18 dL_law_931 (by decide) ?_
    refine v_sub [1, 2, 3, 0] rfl ?_
    exact hc18 _ _ h
  · have h := h.2 q
    refine v_sub [] rfl ?_
    exact he353 _ h
def L_law_b310 (xs : Nat → Int32) (L : Nat) (c18 : Int → Wd → Prop) (e225 : Wd → Prop) (e248 : Wd → Prop) (e261 : Wd → Prop) (e274 : Wd → Prop) (e353 : Wd → Prop) (e376 : Wd → Prop) (e399 : Wd → Prop) (e422 : Wd → Prop) (e455 : Wd → Prop) (e468 : Wd → Prop) (e481 : Wd → Prop) (e504 : Wd → Prop) (e517 : Wd → Prop) (e550 : Wd → Prop) (e583 : Wd → Prop) (e616 : Wd → Prop) (e639 : Wd → Prop) (e663 : Wd → Prop) (e686 : Wd → Prop) (e729 : Wd → Prop) (e742 : Wd → Prop) (e765 : Wd → Prop) (e798 : Wd → Prop) (e821 : Wd → Prop) (e834 : Wd → Prop) (e857 : Wd → Prop) (e880 : Wd → Prop) (e903 : Wd → Prop) (e926 : Wd → Prop) (e934 : Wd → Prop) (x3 : Int) (s0 : Int) (s1 : Int) (s2 : Int) (s3 : Int) (s4 : Int) (w : Wd) : Prop := X10_lay s4 s3 s2 s1 s0 w (fun y19 w18 => (ix (x3 + 1) L ∧ (ix (x3 + 2) L ∧ (ix (x3 + 3) L ∧ (ix (x3 + 4) L ∧ (ix (x3 + 5) L ∧ ((wr (xs (wr (x3 + 5)).toNat).toInt = 0 → L_law_b347 xs L c18 e225 e248 e261 e274 e353 e376 e399 e422 e455 e468 e481 e504 e517 e550 e583 e616 e639 e663 e686 e729 e742 e765 e798 e821 e834 e857 e880 e903 e926 e934 x3 0 (xs (wr (x3 + 4)).toNat).toInt (xs (wr (x3 + 3)).toNat).toInt (xs (wr (x3 + 2)).toNat).toInt (xs (wr (x3 + 1)).toNat).toInt y19 w18) ∧ (¬ wr (xs (wr (x3 + 5)).toNat).toInt = 0 → L_law_b347 xs L c18 e225 e248 e261 e274 e353 e376 e399 e422 e455 e468 e481 e504 e517 e550 e583 e616 e639 e663 e686 e729 e742 e765 e798 e821 e834 e857 e880 e903 e926 e934 x3 1 (xs (wr (x3 + 4)).toNat).toInt (xs (wr (x3 + 3)).toNat).toInt (xs (wr (x3 + 2)).toNat).toInt (xs (wr (x3 + 1)).toNat).toInt y19 w18))))))))
theorem t_L_law_b310 {Z : Zw} {E : Amb} {B b L : Nat} {xs : Nat → Int32} {c18 : Int → Wd → Prop} {e225 : Wd → Prop} {e248 : Wd → Prop} {e261 : Wd → Prop} {e274 : Wd → Prop} {e353 : Wd → Prop} {e376 : Wd → Prop} {e399 : Wd → Prop} {e422 : Wd → Prop} {e455 : Wd → Prop} {e468 : Wd → Prop} {e481 : Wd → Prop} {e504 : Wd → Prop} {e517 : Wd → Prop} {e550 : Wd → Prop} {e583 : Wd → Prop} {e616 : Wd → Prop} {e639 : Wd → Prop} {e663 : Wd → Prop} {e686 : Wd → Prop} {e729 : Wd → Prop} {e742 : Wd → Prop} {e765 : Wd → Prop} {e798 : Wd → Prop} {e821 : Wd → Prop} {e834 : Wd → Prop} {e857 : Wd → Prop} {e880 : Wd → Prop} {e903 : Wd → Prop} {e926 : Wd → Prop} {e934 : Wd → Prop} (C : Cx Z (aB B) E cL_law "HandleFacesLaw" 4 room_1) (R : RtL E B b L xs) (hc18 : ∀ (x3 : Int) (w : Wd), c18 x3 w → V Z (aB B) E 4 w 18 [(0, .ref b), (1, rv Z 0), (2, rv Z 65), (3, iv x3)] []) (he225 : ∀ (w : Wd), e225 w → V Z (aB B) E 4 w 225 [] []) (he248 : ∀ (w : Wd), e248 w → V Z (aB B) E 4 w 248 [] []) (he261 : ∀ (w : Wd), e261 w → V Z (aB B) E 4 w 261 [] []) (he274 : ∀ (w : Wd), e274 w → V Z (aB B) E 4 w 274 [] []) (he353 : ∀ (w : Wd), e353 w → V Z (aB B) E 4 w 353 [] []) (he376 : ∀ (w : Wd), e376 w → V Z (aB B) E 4 w 376 [] []) (he399 : ∀ (w : Wd), e399 w → V Z (aB B) E 4 w 399 [] []) (he422 : ∀ (w : Wd), e422 w → V Z (aB B) E 4 w 422 [] []) (he455 : ∀ (w : Wd), e455 w → V Z (aB B) E 4 w 455 [] []) (he468 : ∀ (w : Wd), e468 w → V Z (aB B) E 4 w 468 [] []) (he481 : ∀ (w : Wd), e481 w → V Z (aB B) E 4 w 481 [] []) (he504 : ∀ (w : Wd), e504 w → V Z (aB B) E 4 w 504 [] []) (he517 : ∀ (w : Wd), e517 w → V Z (aB B) E 4 w 517 [] []) (he550 : ∀ (w : Wd), e550 w → V Z (aB B) E 4 w 550 [] []) (he583 : ∀ (w : Wd), e583 w → V Z (aB B) E 4 w 583 [] []) (he616 : ∀ (w : Wd), e616 w → V Z (aB B) E 4 w 616 [] []) (he639 : ∀ (w : Wd), e639 w → V Z (aB B) E 4 w 639 [] []) (he663 : ∀ (w : Wd), e663 w → V Z (aB B) E 4 w 663 [] []) (he686 : ∀ (w : Wd), e686 w → V Z (aB B) E 4 w 686 [] []) (he729 : ∀ (w : Wd), e729 w → V Z (aB B) E 4 w 729 [] []) (he742 : ∀ (w : Wd), e742 w → V Z (aB B) E 4 w 742 [] []) (he765 : ∀ (w : Wd), e765 w → V Z (aB B) E 4 w 765 [] []) (he798 : ∀ (w : Wd), e798 w → V Z (aB B) E 4 w 798 [] []) (he821 : ∀ (w : Wd), e821 w → V Z (aB B) E 4 w 821 [] []) (he834 : ∀ (w : Wd), e834 w → V Z (aB B) E 4 w 834 [] []) (he857 : ∀ (w : Wd), e857 w → V Z (aB B) E 4 w 857 [] []) (he880 : ∀ (w : Wd), e880 w → V Z (aB B) E 4 w 880 [] []) (he903 : ∀ (w : Wd), e903 w → V Z (aB B) E 4 w 903 [] []) (he926 : ∀ (w : Wd), e926 w → V Z (aB B) E 4 w 926 [] []) (he934 : ∀ (w : Wd), e934 w → V Z (aB B) E 4 w 934 [] []) : ∀ (x3 : Int) (s0 : Int) (s1 : Int) (s2 : Int) (s3 : Int) (s4 : Int) (w : Wd), L_law_b310 xs L c18 e225 e248 e261 e274 e353 e376 e399 e422 e455 e468 e481 e504 e517 e550 e583 e616 e639 e663 e686 e729 e742 e765 e798 e821 e834 e857 e880 e903 e926 e934 x3 s0 s1 s2 s3 s4 w → V Z (aB B) E 4 w 310 [(0, .ref b), (1, rv Z 0), (2, rv Z 65), (3, iv x3)] [iv s0, iv s1, iv s2, iv s3, iv s4, rv Z 0] := by
  intro x3 s0 s1 s2 s3 s4 w h
  unfold L_law_b310 at h
  refine v_calli C (rn_V C _ (m_X10_lay h) mf_X10_lay wd_599 wd_600 wd_598 rfl rfl ⟨(Nat.le_of_ble_eq_true rfl), (Nat.le_of_ble_eq_true rfl)⟩ rfl rfl rfl rfl (Nat.le_of_ble_eq_true rfl) dL_law_310) (fun r w h => ?_)
  refine v_aload_n C dL_law_313 2 rfl ?_
  refine v_aload_n C dL_law_314 0 rfl ?_
  refine v_iload_n C dL_law_315 3 rfl ?_
  refine v_iconst C dL_law_316 ?_
  refine v_iadd C dL_law_317 ?_
  refine v_lawld C R h.1 dL_law_318 ?_
  have h := h.2
  refine v_aload_n C dL_law_319 0 rfl ?_
  refine v_iload_n C dL_law_320 3 rfl ?_
  refine v_iconst C dL_law_321 ?_
  refine v_iadd C dL_law_322 ?_
  refine v_lawld C R h.1 dL_law_323 ?_
  have h := h.2
  refine v_aload_n C dL_law_324 0 rfl ?_
  refine v_iload_n C dL_law_325 3 rfl ?_
  refine v_iconst C dL_law_326 ?_
  refine v_iadd C dL_law_327 ?_
  refine v_lawld C R h.1 dL_law_328 ?_
  have h := h.2
  refine v_aload_n C dL_law_329 0 rfl ?_
  refine v_iload_n C dL_law_330 3 rfl ?_
  refine v_iconst C dL_law_331 ?_
  refine v_iadd C dL_law_332 ?_
  refine v_lawld C R h.1 dL_law_333 ?_
  have h := h.2
  refine v_aload_n C dL_law_334 0 rfl ?_
  refine v_iload_n C dL_law_335 3 rfl ?_
  refine v_iconst C dL_law_336 ?_
  refine v_iadd C dL_law_337 ?_
  refine v_lawld C R h.1 dL_law_338 ?_
  have h := h.2
  refine v_if_eq C 346 dL_law_339 (by decide) (fun q => ?_) (fun q => ?_)
  · have h := h.1 q
    refine v_iconst C dL_law_346 ?_
    exact t_L_law_b347 C R hc18 he225 he248 he261 he274 he353 he376 he399 he422 he455 he468 he481 he504 he517 he550 he583 he616 he639 he663 he686 he729 he742 he765 he798 he821 he834 he857 he880 he903 he926 he934 _ _ _ _ _ _ _ _ h
  · have h := h.2 q
    refine v_iconst C dL_law_342 ?_
    refine v_goto C 347 dL_law_343 (by decide) ?_
    exact t_L_law_b347 C R hc18 he225 he248 he261 he274 he353 he376 he399 he422 he455 he468 he481 he504 he517 he550 he583 he616 he639 he663 he686 he729 he742 he765 he798 he821 he834 he857 he880 he903 he926 he934 _ _ _ _ _ _ _ _ h
def L_law_l18 (xs : Nat → Int32) (L : Nat) (e225 : Wd → Prop) (e248 : Wd → Prop) (e261 : Wd → Prop) (e274 : Wd → Prop) (e353 : Wd → Prop) (e376 : Wd → Prop) (e399 : Wd → Prop) (e422 : Wd → Prop) (e455 : Wd → Prop) (e468 : Wd → Prop) (e481 : Wd → Prop) (e504 : Wd → Prop) (e517 : Wd → Prop) (e550 : Wd → Prop) (e583 : Wd → Prop) (e616 : Wd → Prop) (e639 : Wd → Prop) (e663 : Wd → Prop) (e686 : Wd → Prop) (e729 : Wd → Prop) (e742 : Wd → Prop) (e765 : Wd → Prop) (e798 : Wd → Prop) (e821 : Wd → Prop) (e834 : Wd → Prop) (e857 : Wd → Prop) (e880 : Wd → Prop) (e903 : Wd → Prop) (e926 : Wd → Prop) (e934 : Wd → Prop) : Nat → Int → Wd → Prop
  | 0 => fun _ _ => False
  | n + 1 => fun x3 w => ((wr ((L : Int) - 6) < wr x3 → e934 w) ∧ (¬ wr ((L : Int) - 6) < wr x3 → (ix x3 L ∧ (∀ t1, t1 = wr (ian (xs (wr x3).toNat).toInt 31) → ((t1 = 0 → (ix (x3 + 1) L ∧ (ix (x3 + 2) L ∧ (ix (x3 + 3) L ∧ (ix (x3 + 4) L ∧ (ix (x3 + 5) L ∧ X10_feed (xs (wr (x3 + 1)).toNat).toInt (xs (wr (x3 + 2)).toNat).toInt (xs (wr (x3 + 3)).toNat).toInt (xs (wr (x3 + 4)).toNat).toInt (xs (wr (x3 + 5)).toNat).toInt w (fun y3 w2 => (ix (x3 + 1) L ∧ (ix (x3 + 2) L ∧ (ix (x3 + 3) L ∧ (ix (x3 + 4) L ∧ (ix (x3 + 5) L ∧ X11_feed (xs (wr (x3 + 1)).toNat).toInt (xs (wr (x3 + 2)).toNat).toInt (xs (wr (x3 + 3)).toNat).toInt (xs (wr (x3 + 4)).toNat).toInt (xs (wr (x3 + 5)).toNat).toInt w2 (fun y5 w4 => ((wr y3 = wr y5 → (L_law_l18 xs L e225 e248 e261 e274 e353 e376 e399 e422 e455 e468 e481 e504 e517 e550 e583 e616 e639 e663 e686 e729 e742 e765 e798 e821 e834 e857 e880 e903 e926 e934 n) (x3 + 6) w4) ∧ (¬ wr y3 = wr y5 → e225 w4))))))))))))))) ∧ (t1 = 1 → (ix (x3 + 1) L ∧ X10_back (xs (wr (x3 + 1)).toNat).toInt w (fun y7 w6 => (ix (x3 + 1) L ∧ X11_back (xs (wr (x3 + 1)).toNat).toInt w6 (fun y9 w8 => ((wr y7 = wr y9 → (L_law_l18 xs L e225 e248 e261 e274 e353 e376 e399 e422 e455 e468 e481 e504 e517 e550 e583 e616 e639 e663 e686 e729 e742 e765 e798 e821 e834 e857 e880 e903 e926 e934 n) (x3 + 6) w8) ∧ (¬ wr y7 = wr y9 → e248 w8))))))) ∧ (t1 = 2 → X10_read w (fun y11 w10 => X11_read w10 (fun y13 w12 => ((wr y11 = wr y13 → (L_law_l18 xs L e225 e248 e261 e274 e353 e376 e399 e422 e455 e468 e481 e504 e517 e550 e583 e616 e639 e663 e686 e729 e742 e765 e798 e821 e834 e857 e880 e903 e926 e934 n) (x3 + 6) w12) ∧ (¬ wr y11 = wr y13 → e261 w12))))) ∧ (t1 = 3 → X10_place w (fun y15 w14 => X11_place w14 (fun y17 w16 => ((wr y15 = wr y17 → (L_law_l18 xs L e225 e248 e261 e274 e353 e376 e399 e422 e455 e468 e481 e504 e517 e550 e583 e616 e639 e663 e686 e729 e742 e765 e798 e821 e834 e857 e880 e903 e926 e934 n) (x3 + 6) w16) ∧ (¬ wr y15 = wr y17 → e274 w16))))) ∧ (t1 = 4 → (ix (x3 + 1) L ∧ (ix (x3 + 2) L ∧ (ix (x3 + 3) L ∧ (ix (x3 + 4) L ∧ (ix (x3 + 5) L ∧ ((wr (xs (wr (x3 + 5)).toNat).toInt = 0 → L_law_b310 xs L (L_law_l18 xs L e225 e248 e261 e274 e353 e376 e399 e422 e455 e468 e481 e504 e517 e550 e583 e616 e639 e663 e686 e729 e742 e765 e798 e821 e834 e857 e880 e903 e926 e934 n) e225 e248 e261 e274 e353 e376 e399 e422 e455 e468 e481 e504 e517 e550 e583 e616 e639 e663 e686 e729 e742 e765 e798 e821 e834 e857 e880 e903 e926 e934 x3 0 (xs (wr (x3 + 4)).toNat).toInt (xs (wr (x3 + 3)).toNat).toInt (xs (wr (x3 + 2)).toNat).toInt (xs (wr (x3 + 1)).toNat).toInt w) ∧ (¬ wr (xs (wr (x3 + 5)).toNat).toInt = 0 → L_law_b310 xs L (L_law_l18 xs L e225 e248 e261 e274 e353 e376 e399 e422 e455 e468 e481 e504 e517 e550 e583 e616 e639 e663 e686 e729 e742 e765 e798 e821 e834 e857 e880 e903 e926 e934 n) e225 e248 e261 e274 e353 e376 e399 e422 e455 e468 e481 e504 e517 e550 e583 e616 e639 e663 e686 e729 e742 e765 e798 e821 e834 e857 e880 e903 e926 e934 x3 1 (xs (wr (x3 + 4)).toNat).toInt (xs (wr (x3 + 3)).toNat).toInt (xs (wr (x3 + 2)).toNat).toInt (xs (wr (x3 + 1)).toNat).toInt w)))))))) ∧ (t1 = 5 → (ix (x3 + 1) L ∧ X10_goes (xs (wr (x3 + 1)).toNat).toInt w (fun y23 w22 => (ix (x3 + 1) L ∧ X11_goes (xs (wr (x3 + 1)).toNat).toInt w22 (fun y25 w24 => ((wr y23 = wr y25 → (L_law_l18 xs L e225 e248 e261 e274 e353 e376 e399 e422 e455 e468 e481 e504 e517 e550 e583 e616 e639 e663 e686 e729 e742 e765 e798 e821 e834 e857 e880 e903 e926 e934 n) (x3 + 6) w24) ∧ (¬ wr y23 = wr y25 → e376 w24))))))) ∧ (t1 = 6 → (ix (x3 + 1) L ∧ X10_twist (xs (wr (x3 + 1)).toNat).toInt w (fun y27 w26 => (ix (x3 + 1) L ∧ X11_twist (xs (wr (x3 + 1)).toNat).toInt w26 (fun y29 w28 => ((wr y27 = wr y29 → (L_law_l18 xs L e225 e248 e261 e274 e353 e376 e399 e422 e455 e468 e481 e504 e517 e550 e583 e616 e639 e663 e686 e729 e742 e765 e798 e821 e834 e857 e880 e903 e926 e934 n) (x3 + 6) w28) ∧ (¬ wr y27 = wr y29 → e399 w28))))))) ∧ (t1 = 7 → (ix (x3 + 1) L ∧ X10_flip (xs (wr (x3 + 1)).toNat).toInt w (fun y31 w30 => (ix (x3 + 1) L ∧ X11_flip (xs (wr (x3 + 1)).toNat).toInt w30 (fun y33 w32 => ((wr y31 = wr y33 → (L_law_l18 xs L e225 e248 e261 e274 e353 e376 e399 e422 e455 e468 e481 e504 e517 e550 e583 e616 e639 e663 e686 e729 e742 e765 e798 e821 e834 e857 e880 e903 e926 e934 n) (x3 + 6) w32) ∧ (¬ wr y31 = wr y33 → e422 w32))))))) ∧ (t1 = 8 → (ix (x3 + 1) L ∧ (ix (x3 + 2) L ∧ X10_exchange (xs (wr (x3 + 1)).toNat).toInt (xs (wr (x3 + 2)).toNat).toInt w (fun y35 w34 => (ix (x3 + 1) L ∧ (ix (x3 + 2) L ∧ X11_exchange (xs (wr (x3 + 1)).toNat).toInt (xs (wr (x3 + 2)).toNat).toInt w34 (fun y37 w36 => ((wr y35 = wr y37 → (L_law_l18 xs L e225 e248 e261 e274 e353 e376 e399 e422 e455 e468 e481 e504 e517 e550 e583 e616 e639 e663 e686 e729 e742 e765 e798 e821 e834 e857 e880 e903 e926 e934 n) (x3 + 6) w36) ∧ (¬ wr y35 = wr y37 → e455 w36))))))))) ∧ (t1 = 9 → X10_lessen w (fun y39 w38 => X11_lessen w38 (fun y41 w40 => ((wr y39 = wr y41 → (L_law_l18 xs L e225 e248 e261 e274 e353 e376 e399 e422 e455 e468 e481 e504 e517 e550 e583 e616 e639 e663 e686 e729 e742 e765 e798 e821 e834 e857 e880 e903 e926 e934 n) (x3 + 6) w40) ∧ (¬ wr y39 = wr y41 → e468 w40))))) ∧ (t1 = 10 → X10_dual w (fun y43 w42 => X11_dual w42 (fun y45 w44 => ((wr y43 = wr y45 → (L_law_l18 xs L e225 e248 e261 e274 e353 e376 e399 e422 e455 e468 e481 e504 e517 e550 e583 e616 e639 e663 e686 e729 e742 e765 e798 e821 e834 e857 e880 e903 e926 e934 n) (x3 + 6) w44) ∧ (¬ wr y43 = wr y45 → e481 w44))))) ∧ (t1 = 11 → (ix (x3 + 1) L ∧ X10_shrink (xs (wr (x3 + 1)).toNat).toInt w (fun y47 w46 => (ix (x3 + 1) L ∧ X11_shrink (xs (wr (x3 + 1)).toNat).toInt w46 (fun y49 w48 => ((wr y47 = wr y49 → (L_law_l18 xs L e225 e248 e261 e274 e353 e376 e399 e422 e455 e468 e481 e504 e517 e550 e583 e616 e639 e663 e686 e729 e742 e765 e798 e821 e834 e857 e880 e903 e926 e934 n) (x3 + 6) w48) ∧ (¬ wr y47 = wr y49 → e504 w48))))))) ∧ (t1 = 12 → X10_undo w (fun y51 w50 => X11_undo w50 (fun y53 w52 => ((wr y51 = wr y53 → (L_law_l18 xs L e225 e248 e261 e274 e353 e376 e399 e422 e455 e468 e481 e504 e517 e550 e583 e616 e639 e663 e686 e729 e742 e765 e798 e821 e834 e857 e880 e903 e926 e934 n) (x3 + 6) w52) ∧ (¬ wr y51 = wr y53 → e517 w52))))) ∧ (t1 = 13 → (ix (x3 + 1) L ∧ (ix (x3 + 2) L ∧ X10_line (xs (wr (x3 + 1)).toNat).toInt (xs (wr (x3 + 2)).toNat).toInt w (fun y55 w54 => (ix (x3 + 1) L ∧ (ix (x3 + 2) L ∧ X11_line (xs (wr (x3 + 1)).toNat).toInt (xs (wr (x3 + 2)).toNat).toInt w54 (fun y57 w56 => ((wr y55 = wr y57 → (L_law_l18 xs L e225 e248 e261 e274 e353 e376 e399 e422 e455 e468 e481 e504 e517 e550 e583 e616 e639 e663 e686 e729 e742 e765 e798 e821 e834 e857 e880 e903 e926 e934 n) (x3 + 6) w56) ∧ (¬ wr y55 = wr y57 → e550 w56))))))))) ∧ (t1 = 14 → (ix (x3 + 1) L ∧ (ix (x3 + 2) L ∧ X10_round (xs (wr (x3 + 1)).toNat).toInt (xs (wr (x3 + 2)).toNat).toInt w (fun y59 w58 => (ix (x3 + 1) L ∧ (ix (x3 + 2) L ∧ X11_round (xs (wr (x3 + 1)).toNat).toInt (xs (wr (x3 + 2)).toNat).toInt w58 (fun y61 w60 => ((wr y59 = wr y61 → (L_law_l18 xs L e225 e248 e261 e274 e353 e376 e399 e422 e455 e468 e481 e504 e517 e550 e583 e616 e639 e663 e686 e729 e742 e765 e798 e821 e834 e857 e880 e903 e926 e934 n) (x3 + 6) w60) ∧ (¬ wr y59 = wr y61 → e583 w60))))))))) ∧ (t1 = 15 → (ix (x3 + 1) L ∧ (ix (x3 + 2) L ∧ X10_face (xs (wr (x3 + 1)).toNat).toInt (xs (wr (x3 + 2)).toNat).toInt w (fun y63 w62 => (ix (x3 + 1) L ∧ (ix (x3 + 2) L ∧ X11_face (xs (wr (x3 + 1)).toNat).toInt (xs (wr (x3 + 2)).toNat).toInt w62 (fun y65 w64 => ((wr y63 = wr y65 → (L_law_l18 xs L e225 e248 e261 e274 e353 e376 e399 e422 e455 e468 e481 e504 e517 e550 e583 e616 e639 e663 e686 e729 e742 e765 e798 e821 e834 e857 e880 e903 e926 e934 n) (x3 + 6) w64) ∧ (¬ wr y63 = wr y65 → e616 w64))))))))) ∧ (t1 = 16 → (ix (x3 + 1) L ∧ X10_surface (xs (wr (x3 + 1)).toNat).toInt w (fun y67 w66 => (ix (x3 + 1) L ∧ X11_surface (xs (wr (x3 + 1)).toNat).toInt w66 (fun y69 w68 => ((wr y67 = wr y69 → (L_law_l18 xs L e225 e248 e261 e274 e353 e376 e399 e422 e455 e468 e481 e504 e517 e550 e583 e616 e639 e663 e686 e729 e742 e765 e798 e821 e834 e857 e880 e903 e926 e934 n) (x3 + 6) w68) ∧ (¬ wr y67 = wr y69 → e639 w68))))))) ∧ (t1 = 17 → (ix (x3 + 1) L ∧ X10_all (xs (wr (x3 + 1)).toNat).toInt w (fun y71 w70 => (ix (x3 + 1) L ∧ X11_all (xs (wr (x3 + 1)).toNat).toInt w70 (fun y73 w72 => ((wr (lcm y71 y73) = 0 → (L_law_l18 xs L e225 e248 e261 e274 e353 e376 e399 e422 e455 e468 e481 e504 e517 e550 e583 e616 e639 e663 e686 e729 e742 e765 e798 e821 e834 e857 e880 e903 e926 e934 n) (x3 + 6) w72) ∧ (¬ wr (lcm y71 y73) = 0 → e663 w72))))))) ∧ (t1 = 18 → (ix (x3 + 1) L ∧ X10_needing (xs (wr (x3 + 1)).toNat).toInt w (fun y75 w74 => (ix (x3 + 1) L ∧ X11_needing (xs (wr (x3 + 1)).toNat).toInt w74 (fun y77 w76 => ((wr y75 = wr y77 → (L_law_l18 xs L e225 e248 e261 e274 e353 e376 e399 e422 e455 e468 e481 e504 e517 e550 e583 e616 e639 e663 e686 e729 e742 e765 e798 e821 e834 e857 e880 e903 e926 e934 n) (x3 + 6) w76) ∧ (¬ wr y75 = wr y77 → e686 w76))))))) ∧ (t1 = 19 → (ix (x3 + 1) L ∧ (ix (x3 + 2) L ∧ (ix (x3 + 3) L ∧ X10_ordered (xs (wr (x3 + 1)).toNat).toInt (xs (wr (x3 + 2)).toNat).toInt (xs (wr (x3 + 3)).toNat).toInt w (fun y79 w78 => (ix (x3 + 1) L ∧ (ix (x3 + 2) L ∧ (ix (x3 + 3) L ∧ X11_ordered (xs (wr (x3 + 1)).toNat).toInt (xs (wr (x3 + 2)).toNat).toInt (xs (wr (x3 + 3)).toNat).toInt w78 (fun y81 w80 => ((wr y79 = wr y81 → (L_law_l18 xs L e225 e248 e261 e274 e353 e376 e399 e422 e455 e468 e481 e504 e517 e550 e583 e616 e639 e663 e686 e729 e742 e765 e798 e821 e834 e857 e880 e903 e926 e934 n) (x3 + 6) w80) ∧ (¬ wr y79 = wr y81 → e729 w80))))))))))) ∧ (t1 = 20 → X10_capped w (fun y83 w82 => X11_capped w82 (fun y85 w84 => ((wr y83 = wr y85 → (L_law_l18 xs L e225 e248 e261 e274 e353 e376 e399 e422 e455 e468 e481 e504 e517 e550 e583 e616 e639 e663 e686 e729 e742 e765 e798 e821 e834 e857 e880 e903 e926 e934 n) (x3 + 6) w84) ∧ (¬ wr y83 = wr y85 → e742 w84))))) ∧ (t1 = 21 → (ix (x3 + 1) L ∧ X10_bound (xs (wr (x3 + 1)).toNat).toInt w (fun y87 w86 => (ix (x3 + 1) L ∧ X11_bound (xs (wr (x3 + 1)).toNat).toInt w86 (fun y89 w88 => ((wr y87 = wr y89 → (L_law_l18 xs L e225 e248 e261 e274 e353 e376 e399 e422 e455 e468 e481 e504 e517 e550 e583 e616 e639 e663 e686 e729 e742 e765 e798 e821 e834 e857 e880 e903 e926 e934 n) (x3 + 6) w88) ∧ (¬ wr y87 = wr y89 → e765 w88))))))) ∧ (t1 = 22 → (ix (x3 + 1) L ∧ (ix (x3 + 2) L ∧ X10_without (xs (wr (x3 + 1)).toNat).toInt (xs (wr (x3 + 2)).toNat).toInt w (fun y91 w90 => (ix (x3 + 1) L ∧ (ix (x3 + 2) L ∧ X11_without (xs (wr (x3 + 1)).toNat).toInt (xs (wr (x3 + 2)).toNat).toInt w90 (fun y93 w92 => ((wr y91 = wr y93 → (L_law_l18 xs L e225 e248 e261 e274 e353 e376 e399 e422 e455 e468 e481 e504 e517 e550 e583 e616 e639 e663 e686 e729 e742 e765 e798 e821 e834 e857 e880 e903 e926 e934 n) (x3 + 6) w92) ∧ (¬ wr y91 = wr y93 → e798 w92))))))))) ∧ (t1 = 23 → (ix (x3 + 1) L ∧ X10_beside (xs (wr (x3 + 1)).toNat).toInt w (fun y95 w94 => (ix (x3 + 1) L ∧ X11_beside (xs (wr (x3 + 1)).toNat).toInt w94 (fun y97 w96 => ((wr y95 = wr y97 → (L_law_l18 xs L e225 e248 e261 e274 e353 e376 e399 e422 e455 e468 e481 e504 e517 e550 e583 e616 e639 e663 e686 e729 e742 e765 e798 e821 e834 e857 e880 e903 e926 e934 n) (x3 + 6) w96) ∧ (¬ wr y95 = wr y97 → e821 w96))))))) ∧ (t1 = 24 → X10_colours w (fun y99 w98 => X11_colours w98 (fun y101 w100 => ((wr y99 = wr y101 → (L_law_l18 xs L e225 e248 e261 e274 e353 e376 e399 e422 e455 e468 e481 e504 e517 e550 e583 e616 e639 e663 e686 e729 e742 e765 e798 e821 e834 e857 e880 e903 e926 e934 n) (x3 + 6) w100) ∧ (¬ wr y99 = wr y101 → e834 w100))))) ∧ (t1 = 25 → (ix (x3 + 1) L ∧ X10_like (xs (wr (x3 + 1)).toNat).toInt w (fun y103 w102 => (ix (x3 + 1) L ∧ X11_like (xs (wr (x3 + 1)).toNat).toInt w102 (fun y105 w104 => ((wr y103 = wr y105 → (L_law_l18 xs L e225 e248 e261 e274 e353 e376 e399 e422 e455 e468 e481 e504 e517 e550 e583 e616 e639 e663 e686 e729 e742 e765 e798 e821 e834 e857 e880 e903 e926 e934 n) (x3 + 6) w104) ∧ (¬ wr y103 = wr y105 → e857 w104))))))) ∧ (t1 = 26 → (ix (x3 + 1) L ∧ X10_hold (xs (wr (x3 + 1)).toNat).toInt w (fun y107 w106 => (ix (x3 + 1) L ∧ X11_hold (xs (wr (x3 + 1)).toNat).toInt w106 (fun y109 w108 => ((wr y107 = wr y109 → (L_law_l18 xs L e225 e248 e261 e274 e353 e376 e399 e422 e455 e468 e481 e504 e517 e550 e583 e616 e639 e663 e686 e729 e742 e765 e798 e821 e834 e857 e880 e903 e926 e934 n) (x3 + 6) w108) ∧ (¬ wr y107 = wr y109 → e880 w108))))))) ∧ (t1 = 27 → (ix (x3 + 1) L ∧ X10_restore (xs (wr (x3 + 1)).toNat).toInt w (fun y111 w110 => (ix (x3 + 1) L ∧ X11_restore (xs (wr (x3 + 1)).toNat).toInt w110 (fun y113 w112 => ((wr y111 = wr y113 → (L_law_l18 xs L e225 e248 e261 e274 e353 e376 e399 e422 e455 e468 e481 e504 e517 e550 e583 e616 e639 e663 e686 e729 e742 e765 e798 e821 e834 e857 e880 e903 e926 e934 n) (x3 + 6) w112) ∧ (¬ wr y111 = wr y113 → e903 w112))))))) ∧ (t1 = 28 → (ix (x3 + 1) L ∧ X10_count (xs (wr (x3 + 1)).toNat).toInt w (fun y115 w114 => (ix (x3 + 1) L ∧ X11_count (xs (wr (x3 + 1)).toNat).toInt w114 (fun y117 w116 => ((wr y115 = wr y117 → (L_law_l18 xs L e225 e248 e261 e274 e353 e376 e399 e422 e455 e468 e481 e504 e517 e550 e583 e616 e639 e663 e686 e729 e742 e765 e798 e821 e834 e857 e880 e903 e926 e934 n) (x3 + 6) w116) ∧ (¬ wr y115 = wr y117 → e926 w116))))))) ∧ (t1 < 0 ∨ 28 < t1 → (L_law_l18 xs L e225 e248 e261 e274 e353 e376 e399 e422 e455 e468 e481 e504 e517 e550 e583 e616 e639 e663 e686 e729 e742 e765 e798 e821 e834 e857 e880 e903 e926 e934 n) (x3 + 6) w))))))
theorem t_L_law_l18 {Z : Zw} {E : Amb} {B b L : Nat} {xs : Nat → Int32} {e225 : Wd → Prop} {e248 : Wd → Prop} {e261 : Wd → Prop} {e274 : Wd → Prop} {e353 : Wd → Prop} {e376 : Wd → Prop} {e399 : Wd → Prop} {e422 : Wd → Prop} {e455 : Wd → Prop} {e468 : Wd → Prop} {e481 : Wd → Prop} {e504 : Wd → Prop} {e517 : Wd → Prop} {e550 : Wd → Prop} {e583 : Wd → Prop} {e616 : Wd → Prop} {e639 : Wd → Prop} {e663 : Wd → Prop} {e686 : Wd → Prop} {e729 : Wd → Prop} {e742 : Wd → Prop} {e765 : Wd → Prop} {e798 : Wd → Prop} {e821 : Wd → Prop} {e834 : Wd → Prop} {e857 : Wd → Prop} {e880 : Wd → Prop} {e903 : Wd → Prop} {e926 : Wd → Prop} {e934 : Wd → Prop} (C : Cx Z (aB B) E cL_law "HandleFacesLaw" 4 room_1) (R : RtL E B b L xs) (he225 : ∀ (w : Wd), e225 w → V Z (aB B) E 4 w 225 [] []) (he248 : ∀ (w : Wd), e248 w → V Z (aB B) E 4 w 248 [] []) (he261 : ∀ (w : Wd), e261 w → V Z (aB B) E 4 w 261 [] []) (he274 : ∀ (w : Wd), e274 w → V Z (aB B) E 4 w 274 [] []) (he353 : ∀ (w : Wd), e353 w → V Z (aB B) E 4 w 353 [] []) (he376 : ∀ (w : Wd), e376 w → V Z (aB B) E 4 w 376 [] []) (he399 : ∀ (w : Wd), e399 w → V Z (aB B) E 4 w 399 [] []) (he422 : ∀ (w : Wd), e422 w → V Z (aB B) E 4 w 422 [] []) (he455 : ∀ (w : Wd), e455 w → V Z (aB B) E 4 w 455 [] []) (he468 : ∀ (w : Wd), e468 w → V Z (aB B) E 4 w 468 [] []) (he481 : ∀ (w : Wd), e481 w → V Z (aB B) E 4 w 481 [] []) (he504 : ∀ (w : Wd), e504 w → V Z (aB B) E 4 w 504 [] []) (he517 : ∀ (w : Wd), e517 w → V Z (aB B) E 4 w 517 [] []) (he550 : ∀ (w : Wd), e550 w → V Z (aB B) E 4 w 550 [] []) (he583 : ∀ (w : Wd), e583 w → V Z (aB B) E 4 w 583 [] []) (he616 : ∀ (w : Wd), e616 w → V Z (aB B) E 4 w 616 [] []) (he639 : ∀ (w : Wd), e639 w → V Z (aB B) E 4 w 639 [] []) (he663 : ∀ (w : Wd), e663 w → V Z (aB B) E 4 w 663 [] []) (he686 : ∀ (w : Wd), e686 w → V Z (aB B) E 4 w 686 [] []) (he729 : ∀ (w : Wd), e729 w → V Z (aB B) E 4 w 729 [] []) (he742 : ∀ (w : Wd), e742 w → V Z (aB B) E 4 w 742 [] []) (he765 : ∀ (w : Wd), e765 w → V Z (aB B) E 4 w 765 [] []) (he798 : ∀ (w : Wd), e798 w → V Z (aB B) E 4 w 798 [] []) (he821 : ∀ (w : Wd), e821 w → V Z (aB B) E 4 w 821 [] []) (he834 : ∀ (w : Wd), e834 w → V Z (aB B) E 4 w 834 [] []) (he857 : ∀ (w : Wd), e857 w → V Z (aB B) E 4 w 857 [] []) (he880 : ∀ (w : Wd), e880 w → V Z (aB B) E 4 w 880 [] []) (he903 : ∀ (w : Wd), e903 w → V Z (aB B) E 4 w 903 [] []) (he926 : ∀ (w : Wd), e926 w → V Z (aB B) E 4 w 926 [] []) (he934 : ∀ (w : Wd), e934 w → V Z (aB B) E 4 w 934 [] []) : ∀ (n : Nat) (x3 : Int) (w : Wd), L_law_l18 xs L e225 e248 e261 e274 e353 e376 e399 e422 e455 e468 e481 e504 e517 e550 e583 e616 e639 e663 e686 e729 e742 e765 e798 e821 e834 e857 e880 e903 e926 e934 n x3 w → V Z (aB B) E 4 w 18 [(0, .ref b), (1, rv Z 0), (2, rv Z 65), (3, iv x3)] [] := by
  intro n
  induction n with
  | zero => intro x3 w h; exact h.elim
  | succ n ih =>
    intro x3 w h
    unfold L_law_l18 at h
    refine v_iload_n C dL_law_18 3 rfl ?_
    refine v_aload_n C dL_law_19 0 rfl ?_
    refine v_lawlen C R dL_law_20 ?_
    refine v_bipush C dL_law_21 (by decide) ?_
    refine v_isub C dL_law_23 ?_
    refine v_icmp_gt C 934 dL_law_24 (by decide) (fun q => ?_) (fun q => ?_)
    · have h := h.1 q
      refine v_sub [] rfl ?_
      exact he934 _ h
    · have h := h.2 q
      refine v_aload_n C dL_law_27 0 rfl ?_
      refine v_iload_n C dL_law_28 3 rfl ?_
      refine v_lawld C R h.1 dL_law_29 ?_
      have h := h.2
      refine v_bipush C dL_law_30 (by decide) ?_
      refine v_iand C dL_law_32 ?_
      refine v_tabX (fun x hx => ?_)
      have h := h x hx.symm
      by_cases q0 : x = 0
      · have h := h.1 q0
        refine v_tabIn C 164 dL_law_33 0 (hx.trans q0) (by decide) (by decide) rfl (by decide) ?_
        refine v_aload_n C dL_law_164 1 rfl ?_
        refine v_aload_n C dL_law_165 0 rfl ?_
        refine v_iload_n C dL_law_166 3 rfl ?_
        refine v_iconst C dL_law_167 ?_
        refine v_iadd C dL_law_168 ?_
        refine v_lawld C R h.1 dL_law_169 ?_
        have h := h.2
        refine v_aload_n C dL_law_170 0 rfl ?_
        refine v_iload_n C dL_law_171 3 rfl ?_
        refine v_iconst C dL_law_172 ?_
        refine v_iadd C dL_law_173 ?_
        refine v_lawld C R h.1 dL_law_174 ?_
        have h := h.2
        refine v_aload_n C dL_law_175 0 rfl ?_
        refine v_iload_n C dL_law_176 3 rfl ?_
        refine v_iconst C dL_law_177 ?_
        refine v_iadd C dL_law_178 ?_
        refine v_lawld C R h.1 dL_law_179 ?_
        have h := h.2
        refine v_aload_n C dL_law_180 0 rfl ?_
        refine v_iload_n C dL_law_181 3 rfl ?_
        refine v_iconst C dL_law_182 ?_
        refine v_iadd C dL_law_183 ?_
        refine v_lawld C R h.1 dL_law_184 ?_
        have h := h.2
        refine v_aload_n C dL_law_185 0 rfl ?_
        refine v_iload_n C dL_law_186 3 rfl ?_
        refine v_iconst C dL_law_187 ?_
        refine v_iadd C dL_law_188 ?_
        refine v_lawld C R h.1 dL_law_189 ?_
        have h := h.2
        refine v_calli C (rn_V C _ (m_X10_feed h) mf_X10_feed wd_415 wd_416 wd_414 rfl rfl ⟨(Nat.le_of_ble_eq_true rfl), (Nat.le_of_ble_eq_true rfl)⟩ rfl rfl rfl rfl (Nat.le_of_ble_eq_true rfl) dL_law_190) (fun r w h => ?_)
        refine v_aload_n C dL_law_193 2 rfl ?_
        refine v_aload_n C dL_law_194 0 rfl ?_
        refine v_iload_n C dL_law_195 3 rfl ?_
        refine v_iconst C dL_law_196 ?_
        refine v_iadd C dL_law_197 ?_
        refine v_lawld C R h.1 dL_law_198 ?_
        have h := h.2
        refine v_aload_n C dL_law_199 0 rfl ?_
        refine v_iload_n C dL_law_200 3 rfl ?_
        refine v_iconst C dL_law_201 ?_
        refine v_iadd C dL_law_202 ?_
        refine v_lawld C R h.1 dL_law_203 ?_
        have h := h.2
        refine v_aload_n C dL_law_204 0 rfl ?_
        refine v_iload_n C dL_law_205 3 rfl ?_
        refine v_iconst C dL_law_206 ?_
        refine v_iadd C dL_law_207 ?_
        refine v_lawld C R h.1 dL_law_208 ?_
        have h := h.2
        refine v_aload_n C dL_law_209 0 rfl ?_
        refine v_iload_n C dL_law_210 3 rfl ?_
        refine v_iconst C dL_law_211 ?_
        refine v_iadd C dL_law_212 ?_
        refine v_lawld C R h.1 dL_law_213 ?_
        have h := h.2
        refine v_aload_n C dL_law_214 0 rfl ?_
        refine v_iload_n C dL_law_215 3 rfl ?_
        refine v_iconst C dL_law_216 ?_
        refine v_iadd C dL_law_217 ?_
        refine v_lawld C R h.1 dL_law_218 ?_
        have h := h.2
        refine v_calli C (rn_V C _ (m_X11_feed h) mf_X11_feed wd_1202 wd_1203 wd_1201 rfl rfl ⟨(Nat.le_of_ble_eq_true rfl), (Nat.le_of_ble_eq_true rfl)⟩ rfl rfl rfl rfl (Nat.le_of_ble_eq_true rfl) dL_law_219) (fun r w h => ?_)
        refine v_icmp_eq C 928 dL_law_222 (by decide) (fun q => ?_) (fun q => ?_)
        · have h := h.1 q
          refine v_iinc C [(3, _), (0, _), (1, _), (2, _)] dL_law_928 3 rfl (by decide) rfl ?_
          refine v_goto C 18 dL_law_931 (by decide) ?_
          refine v_sub [1, 2, 3, 0] rfl ?_
          exact ih _ _ h
        · have h := h.2 q
          refine v_sub [] rfl ?_
          exact he225 _ h
      by_cases q1 : x = 1
      · have h := h.2.1 q1
        refine v_tabIn C 227 dL_law_33 1 (hx.trans q1) (by decide) (by decide) rfl (by decide) ?_
        refine v_aload_n C dL_law_227 1 rfl ?_
        refine v_aload_n C dL_law_228 0 rfl ?_
        refine v_iload_n C dL_law_229 3 rfl ?_
        refine v_iconst C dL_law_230 ?_
        refine v_iadd C dL_law_231 ?_
        refine v_lawld C R h.1 dL_law_232 ?_
        have h := h.2
        refine v_calli C (rn_V C _ (m_X10_back h) mf_X10_back wd_423 wd_424 wd_422 rfl rfl ⟨(Nat.le_of_ble_eq_true rfl), (Nat.le_of_ble_eq_true rfl)⟩ rfl rfl rfl rfl (Nat.le_of_ble_eq_true rfl) dL_law_233) (fun r w h => ?_)
        refine v_aload_n C dL_law_236 2 rfl ?_
        refine v_aload_n C dL_law_237 0 rfl ?_
        refine v_iload_n C dL_law_238 3 rfl ?_
        refine v_iconst C dL_law_239 ?_
        refine v_iadd C dL_law_240 ?_
        refine v_lawld C R h.1 dL_law_241 ?_
        have h := h.2
        refine v_calli C (rn_V C _ (m_X11_back h) mf_X11_back wd_1210 wd_1211 wd_1209 rfl rfl ⟨(Nat.le_of_ble_eq_true rfl), (Nat.le_of_ble_eq_true rfl)⟩ rfl rfl rfl rfl (Nat.le_of_ble_eq_true rfl) dL_law_242) (fun r w h => ?_)
        refine v_icmp_eq C 928 dL_law_245 (by decide) (fun q => ?_) (fun q => ?_)
        · have h := h.1 q
          refine v_iinc C [(3, _), (0, _), (1, _), (2, _)] dL_law_928 3 rfl (by decide) rfl ?_
          refine v_goto C 18 dL_law_931 (by decide) ?_
          refine v_sub [1, 2, 3, 0] rfl ?_
          exact ih _ _ h
        · have h := h.2 q
          refine v_sub [] rfl ?_
          exact he248 _ h
      by_cases q2 : x = 2
      · have h := h.2.2.1 q2
        refine v_tabIn C 250 dL_law_33 2 (hx.trans q2) (by decide) (by decide) rfl (by decide) ?_
        refine v_aload_n C dL_law_250 1 rfl ?_
        refine v_calli C (rn_V C _ (m_X10_read h) mf_X10_read wd_427 wd_428 wd_426 rfl rfl ⟨(Nat.le_of_ble_eq_true rfl), (Nat.le_of_ble_eq_true rfl)⟩ rfl rfl rfl rfl (Nat.le_of_ble_eq_true rfl) dL_law_251) (fun r w h => ?_)
        refine v_aload_n C dL_law_254 2 rfl ?_
        refine v_calli C (rn_V C _ (m_X11_read h) mf_X11_read wd_1214 wd_1215 wd_1213 rfl rfl ⟨(Nat.le_of_ble_eq_true rfl), (Nat.le_of_ble_eq_true rfl)⟩ rfl rfl rfl rfl (Nat.le_of_ble_eq_true rfl) dL_law_255) (fun r w h => ?_)
        refine v_icmp_eq C 928 dL_law_258 (by decide) (fun q => ?_) (fun q => ?_)
        · have h := h.1 q
          refine v_iinc C [(3, _), (0, _), (1, _), (2, _)] dL_law_928 3 rfl (by decide) rfl ?_
          refine v_goto C 18 dL_law_931 (by decide) ?_
          refine v_sub [1, 2, 3, 0] rfl ?_
          exact ih _ _ h
        · have h := h.2 q
          refine v_sub [] rfl ?_
          exact he261 _ h
      by_cases q3 : x = 3
      · have h := h.2.2.2.1 q3
        refine v_tabIn C 263 dL_law_33 3 (hx.trans q3) (by decide) (by decide) rfl (by decide) ?_
        refine v_aload_n C dL_law_263 1 rfl ?_
        refine v_calli C (rn_V C _ (m_X10_place h) mf_X10_place wd_595 wd_596 wd_594 rfl rfl ⟨(Nat.le_of_ble_eq_true rfl), (Nat.le_of_ble_eq_true rfl)⟩ rfl rfl rfl rfl (Nat.le_of_ble_eq_true rfl) dL_law_264) (fun r w h => ?_)
        refine v_aload_n C dL_law_267 2 rfl ?_
        refine v_calli C (rn_V C _ (m_X11_place h) mf_X11_place wd_1286 wd_1287 wd_1285 rfl rfl ⟨(Nat.le_of_ble_eq_true rfl), (Nat.le_of_ble_eq_true rfl)⟩ rfl rfl rfl rfl (Nat.le_of_ble_eq_true rfl) dL_law_268) (fun r w h => ?_)
        refine v_icmp_eq C 928 dL_law_271 (by decide) (fun q => ?_) (fun q => ?_)
        · have h := h.1 q
          refine v_iinc C [(3, _), (0, _), (1, _), (2, _)] dL_law_928 3 rfl (by decide) rfl ?_
          refine v_goto C 18 dL_law_931 (by decide) ?_
          refine v_sub [1, 2, 3, 0] rfl ?_
          exact ih _ _ h
        · have h := h.2 q
          refine v_sub [] rfl ?_
          exact he274 _ h
      by_cases q4 : x = 4
      · have h := h.2.2.2.2.1 q4
        refine v_tabIn C 276 dL_law_33 4 (hx.trans q4) (by decide) (by decide) rfl (by decide) ?_
        refine v_aload_n C dL_law_276 1 rfl ?_
        refine v_aload_n C dL_law_277 0 rfl ?_
        refine v_iload_n C dL_law_278 3 rfl ?_
        refine v_iconst C dL_law_279 ?_
        refine v_iadd C dL_law_280 ?_
        refine v_lawld C R h.1 dL_law_281 ?_
        have h := h.2
        refine v_aload_n C dL_law_282 0 rfl ?_
        refine v_iload_n C dL_law_283 3 rfl ?_
        refine v_iconst C dL_law_284 ?_
        refine v_iadd C dL_law_285 ?_
        refine v_lawld C R h.1 dL_law_286 ?_
        have h := h.2
        refine v_aload_n C dL_law_287 0 rfl ?_
        refine v_iload_n C dL_law_288 3 rfl ?_
        refine v_iconst C dL_law_289 ?_
        refine v_iadd C dL_law_290 ?_
        refine v_lawld C R h.1 dL_law_291 ?_
        have h := h.2
        refine v_aload_n C dL_law_292 0 rfl ?_
        refine v_iload_n C dL_law_293 3 rfl ?_
        refine v_iconst C dL_law_294 ?_
        refine v_iadd C dL_law_295 ?_
        refine v_lawld C R h.1 dL_law_296 ?_
        have h := h.2
        refine v_aload_n C dL_law_297 0 rfl ?_
        refine v_iload_n C dL_law_298 3 rfl ?_
        refine v_iconst C dL_law_299 ?_
        refine v_iadd C dL_law_300 ?_
        refine v_lawld C R h.1 dL_law_301 ?_
        have h := h.2
        refine v_if_eq C 309 dL_law_302 (by decide) (fun q => ?_) (fun q => ?_)
        · have h := h.1 q
          refine v_iconst C dL_law_309 ?_
          exact t_L_law_b310 C R ih he225 he248 he261 he274 he353 he376 he399 he422 he455 he468 he481 he504 he517 he550 he583 he616 he639 he663 he686 he729 he742 he765 he798 he821 he834 he857 he880 he903 he926 he934 _ _ _ _ _ _ _ h
        · have h := h.2 q
          refine v_iconst C dL_law_305 ?_
          refine v_goto C 310 dL_law_306 (by decide) ?_
          exact t_L_law_b310 C R ih he225 he248 he261 he274 he353 he376 he399 he422 he455 he468 he481 he504 he517 he550 he583 he616 he639 he663 he686 he729 he742 he765 he798 he821 he834 he857 he880 he903 he926 he934 _ _ _ _ _ _ _ h
      by_cases q5 : x = 5
      · have h := h.2.2.2.2.2.1 q5
        refine v_tabIn C 355 dL_law_33 5 (hx.trans q5) (by decide) (by decide) rfl (by decide) ?_
        refine v_aload_n C dL_law_355 1 rfl ?_
        refine v_aload_n C dL_law_356 0 rfl ?_
        refine v_iload_n C dL_law_357 3 rfl ?_
        refine v_iconst C dL_law_358 ?_
        refine v_iadd C dL_law_359 ?_
        refine v_lawld C R h.1 dL_law_360 ?_
        have h := h.2
        refine v_calli C (rn_V C _ (m_X10_goes h) mf_X10_goes wd_627 wd_628 wd_626 rfl rfl ⟨(Nat.le_of_ble_eq_true rfl), (Nat.le_of_ble_eq_true rfl)⟩ rfl rfl rfl rfl (Nat.le_of_ble_eq_true rfl) dL_law_361) (fun r w h => ?_)
        refine v_aload_n C dL_law_364 2 rfl ?_
        refine v_aload_n C dL_law_365 0 rfl ?_
        refine v_iload_n C dL_law_366 3 rfl ?_
        refine v_iconst C dL_law_367 ?_
        refine v_iadd C dL_law_368 ?_
        refine v_lawld C R h.1 dL_law_369 ?_
        have h := h.2
        refine v_calli C (rn_V C _ (m_X11_goes h) mf_X11_goes wd_1324 wd_1325 wd_1323 rfl rfl ⟨(Nat.le_of_ble_eq_true rfl), (Nat.le_of_ble_eq_true rfl)⟩ rfl rfl rfl rfl (Nat.le_of_ble_eq_true rfl) dL_law_370) (fun r w h => ?_)
        refine v_icmp_eq C 928 dL_law_373 (by decide) (fun q => ?_) (fun q => ?_)
        · have h := h.1 q
          refine v_iinc C [(3, _), (0, _), (1, _), (2, _)] dL_law_928 3 rfl (by decide) rfl ?_
          refine v_goto C 18 dL_law_931 (by decide) ?_
          refine v_sub [1, 2, 3, 0] rfl ?_
          exact ih _ _ h
        · have h := h.2 q
          refine v_sub [] rfl ?_
          exact he376 _ h
      by_cases q6 : x = 6
      · have h := h.2.2.2.2.2.2.1 q6
        refine v_tabIn C 378 dL_law_33 6 (hx.trans q6) (by decide) (by decide) rfl (by decide) ?_
        refine v_aload_n C dL_law_378 1 rfl ?_
        refine v_aload_n C dL_law_379 0 rfl ?_
        refine v_iload_n C dL_law_380 3 rfl ?_
        refine v_iconst C dL_law_381 ?_
        refine v_iadd C dL_law_382 ?_
        refine v_lawld C R h.1 dL_law_383 ?_
        have h := h.2
        refine v_calli C (rn_V C _ (m_X10_twist h) mf_X10_twist wd_655 wd_656 wd_654 rfl rfl ⟨(Nat.le_of_ble_eq_true rfl), (Nat.le_of_ble_eq_true rfl)⟩ rfl rfl rfl rfl (Nat.le_of_ble_eq_true rfl) dL_law_384) (fun r w h => ?_)
        refine v_aload_n C dL_law_387 2 rfl ?_
        refine v_aload_n C dL_law_388 0 rfl ?_
        refine v_iload_n C dL_law_389 3 rfl ?_
        refine v_iconst C dL_law_390 ?_
        refine v_iadd C dL_law_391 ?_
        refine v_lawld C R h.1 dL_law_392 ?_
        have h := h.2
        refine v_calli C (rn_V C _ (m_X11_twist h) mf_X11_twist wd_1344 wd_1345 wd_1343 rfl rfl ⟨(Nat.le_of_ble_eq_true rfl), (Nat.le_of_ble_eq_true rfl)⟩ rfl rfl rfl rfl (Nat.le_of_ble_eq_true rfl) dL_law_393) (fun r w h => ?_)
        refine v_icmp_eq C 928 dL_law_396 (by decide) (fun q => ?_) (fun q => ?_)
        · have h := h.1 q
          refine v_iinc C [(3, _), (0, _), (1, _), (2, _)] dL_law_928 3 rfl (by decide) rfl ?_
          refine v_goto C 18 dL_law_931 (by decide) ?_
          refine v_sub [1, 2, 3, 0] rfl ?_
          exact ih _ _ h
        · have h := h.2 q
          refine v_sub [] rfl ?_
          exact he399 _ h
      by_cases q7 : x = 7
      · have h := h.2.2.2.2.2.2.2.1 q7
        refine v_tabIn C 401 dL_law_33 7 (hx.trans q7) (by decide) (by decide) rfl (by decide) ?_
        refine v_aload_n C dL_law_401 1 rfl ?_
        refine v_aload_n C dL_law_402 0 rfl ?_
        refine v_iload_n C dL_law_403 3 rfl ?_
        refine v_iconst C dL_law_404 ?_
        refine v_iadd C dL_law_405 ?_
        refine v_lawld C R h.1 dL_law_406 ?_
        have h := h.2
        refine v_calli C (rn_V C _ (m_X10_flip h) mf_X10_flip wd_659 wd_660 wd_658 rfl rfl ⟨(Nat.le_of_ble_eq_true rfl), (Nat.le_of_ble_eq_true rfl)⟩ rfl rfl rfl rfl (Nat.le_of_ble_eq_true rfl) dL_law_407) (fun r w h => ?_)
        refine v_aload_n C dL_law_410 2 rfl ?_
        refine v_aload_n C dL_law_411 0 rfl ?_
        refine v_iload_n C dL_law_412 3 rfl ?_
        refine v_iconst C dL_law_413 ?_
        refine v_iadd C dL_law_414 ?_
        refine v_lawld C R h.1 dL_law_415 ?_
        have h := h.2
        refine v_calli C (rn_V C _ (m_X11_flip h) mf_X11_flip wd_1348 wd_1349 wd_1347 rfl rfl ⟨(Nat.le_of_ble_eq_true rfl), (Nat.le_of_ble_eq_true rfl)⟩ rfl rfl rfl rfl (Nat.le_of_ble_eq_true rfl) dL_law_416) (fun r w h => ?_)
        refine v_icmp_eq C 928 dL_law_419 (by decide) (fun q => ?_) (fun q => ?_)
        · have h := h.1 q
          refine v_iinc C [(3, _), (0, _), (1, _), (2, _)] dL_law_928 3 rfl (by decide) rfl ?_
          refine v_goto C 18 dL_law_931 (by decide) ?_
          refine v_sub [1, 2, 3, 0] rfl ?_
          exact ih _ _ h
        · have h := h.2 q
          refine v_sub [] rfl ?_
          exact he422 _ h
      by_cases q8 : x = 8
      · have h := h.2.2.2.2.2.2.2.2.1 q8
        refine v_tabIn C 424 dL_law_33 8 (hx.trans q8) (by decide) (by decide) rfl (by decide) ?_
        refine v_aload_n C dL_law_424 1 rfl ?_
        refine v_aload_n C dL_law_425 0 rfl ?_
        refine v_iload_n C dL_law_426 3 rfl ?_
        refine v_iconst C dL_law_427 ?_
        refine v_iadd C dL_law_428 ?_
        refine v_lawld C R h.1 dL_law_429 ?_
        have h := h.2
        refine v_aload_n C dL_law_430 0 rfl ?_
        refine v_iload_n C dL_law_431 3 rfl ?_
        refine v_iconst C dL_law_432 ?_
        refine v_iadd C dL_law_433 ?_
        refine v_lawld C R h.1 dL_law_434 ?_
        have h := h.2
        refine v_calli C (rn_V C _ (m_X10_exchange h) mf_X10_exchange wd_676 wd_677 wd_675 rfl rfl ⟨(Nat.le_of_ble_eq_true rfl), (Nat.le_of_ble_eq_true rfl)⟩ rfl rfl rfl rfl (Nat.le_of_ble_eq_true rfl) dL_law_435) (fun r w h => ?_)
        refine v_aload_n C dL_law_438 2 rfl ?_
        refine v_aload_n C dL_law_439 0 rfl ?_
        refine v_iload_n C dL_law_440 3 rfl ?_
        refine v_iconst C dL_law_441 ?_
        refine v_iadd C dL_law_442 ?_
        refine v_lawld C R h.1 dL_law_443 ?_
        have h := h.2
        refine v_aload_n C dL_law_444 0 rfl ?_
        refine v_iload_n C dL_law_445 3 rfl ?_
        refine v_iconst C dL_law_446 ?_
        refine v_iadd C dL_law_447 ?_
        refine v_lawld C R h.1 dL_law_448 ?_
        have h := h.2
        refine v_calli C (rn_V C _ (m_X11_exchange h) mf_X11_exchange wd_1355 wd_1356 wd_1354 rfl rfl ⟨(Nat.le_of_ble_eq_true rfl), (Nat.le_of_ble_eq_true rfl)⟩ rfl rfl rfl rfl (Nat.le_of_ble_eq_true rfl) dL_law_449) (fun r w h => ?_)
        refine v_icmp_eq C 928 dL_law_452 (by decide) (fun q => ?_) (fun q => ?_)
        · have h := h.1 q
          refine v_iinc C [(3, _), (0, _), (1, _), (2, _)] dL_law_928 3 rfl (by decide) rfl ?_
          refine v_goto C 18 dL_law_931 (by decide) ?_
          refine v_sub [1, 2, 3, 0] rfl ?_
          exact ih _ _ h
        · have h := h.2 q
          refine v_sub [] rfl ?_
          exact he455 _ h
      by_cases q9 : x = 9
      · have h := h.2.2.2.2.2.2.2.2.2.1 q9
        refine v_tabIn C 457 dL_law_33 9 (hx.trans q9) (by decide) (by decide) rfl (by decide) ?_
        refine v_aload_n C dL_law_457 1 rfl ?_
        refine v_calli C (rn_V C _ (m_X10_lessen h) mf_X10_lessen wd_684 wd_685 wd_683 rfl rfl ⟨(Nat.le_of_ble_eq_true rfl), (Nat.le_of_ble_eq_true rfl)⟩ rfl rfl rfl rfl (Nat.le_of_ble_eq_true rfl) dL_law_458) (fun r w h => ?_)
        refine v_aload_n C dL_law_461 2 rfl ?_
        refine v_calli C (rn_V C _ (m_X11_lessen h) mf_X11_lessen wd_1443 wd_1444 wd_1442 rfl rfl ⟨(Nat.le_of_ble_eq_true rfl), (Nat.le_of_ble_eq_true rfl)⟩ rfl rfl rfl rfl (Nat.le_of_ble_eq_true rfl) dL_law_462) (fun r w h => ?_)
        refine v_icmp_eq C 928 dL_law_465 (by decide) (fun q => ?_) (fun q => ?_)
        · have h := h.1 q
          refine v_iinc C [(3, _), (0, _), (1, _), (2, _)] dL_law_928 3 rfl (by decide) rfl ?_
          refine v_goto C 18 dL_law_931 (by decide) ?_
          refine v_sub [1, 2, 3, 0] rfl ?_
          exact ih _ _ h
        · have h := h.2 q
          refine v_sub [] rfl ?_
          exact he468 _ h
      by_cases q10 : x = 10
      · have h := h.2.2.2.2.2.2.2.2.2.2.1 q10
        refine v_tabIn C 470 dL_law_33 10 (hx.trans q10) (by decide) (by decide) rfl (by decide) ?_
        refine v_aload_n C dL_law_470 1 rfl ?_
        refine v_calli C (rn_V C _ (m_X10_dual h) mf_X10_dual wd_782 wd_783 wd_781 rfl rfl ⟨(Nat.le_of_ble_eq_true rfl), (Nat.le_of_ble_eq_true rfl)⟩ rfl rfl rfl rfl (Nat.le_of_ble_eq_true rfl) dL_law_471) (fun r w h => ?_)
        refine v_aload_n C dL_law_474 2 rfl ?_
        refine v_calli C (rn_V C _ (m_X11_dual h) mf_X11_dual wd_1491 wd_1492 wd_1490 rfl rfl ⟨(Nat.le_of_ble_eq_true rfl), (Nat.le_of_ble_eq_true rfl)⟩ rfl rfl rfl rfl (Nat.le_of_ble_eq_true rfl) dL_law_475) (fun r w h => ?_)
        refine v_icmp_eq C 928 dL_law_478 (by decide) (fun q => ?_) (fun q => ?_)
        · have h := h.1 q
          refine v_iinc C [(3, _), (0, _), (1, _), (2, _)] dL_law_928 3 rfl (by decide) rfl ?_
          refine v_goto C 18 dL_law_931 (by decide) ?_
          refine v_sub [1, 2, 3, 0] rfl ?_
          exact ih _ _ h
        · have h := h.2 q
          refine v_sub [] rfl ?_
          exact he481 _ h
      by_cases q11 : x = 11
      · have h := h.2.2.2.2.2.2.2.2.2.2.2.1 q11
        refine v_tabIn C 483 dL_law_33 11 (hx.trans q11) (by decide) (by decide) rfl (by decide) ?_
        refine v_aload_n C dL_law_483 1 rfl ?_
        refine v_aload_n C dL_law_484 0 rfl ?_
        refine v_iload_n C dL_law_485 3 rfl ?_
        refine v_iconst C dL_law_486 ?_
        refine v_iadd C dL_law_487 ?_
        refine v_lawld C R h.1 dL_law_488 ?_
        have h := h.2
        refine v_calli C (rn_V C _ (m_X10_shrink h) mf_X10_shrink wd_847 wd_848 wd_846 rfl rfl ⟨(Nat.le_of_ble_eq_true rfl), (Nat.le_of_ble_eq_true rfl)⟩ rfl rfl rfl rfl (Nat.le_of_ble_eq_true rfl) dL_law_489) (fun r w h => ?_)
        refine v_aload_n C dL_law_492 2 rfl ?_
        refine v_aload_n C dL_law_493 0 rfl ?_
        refine v_iload_n C dL_law_494 3 rfl ?_
        refine v_iconst C dL_law_495 ?_
        refine v_iadd C dL_law_496 ?_
        refine v_lawld C R h.1 dL_law_497 ?_
        have h := h.2
        refine v_calli C (rn_V C _ (m_X11_shrink h) mf_X11_shrink wd_1359 wd_1360 wd_1358 rfl rfl ⟨(Nat.le_of_ble_eq_true rfl), (Nat.le_of_ble_eq_true rfl)⟩ rfl rfl rfl rfl (Nat.le_of_ble_eq_true rfl) dL_law_498) (fun r w h => ?_)
        refine v_icmp_eq C 928 dL_law_501 (by decide) (fun q => ?_) (fun q => ?_)
        · have h := h.1 q
          refine v_iinc C [(3, _), (0, _), (1, _), (2, _)] dL_law_928 3 rfl (by decide) rfl ?_
          refine v_goto C 18 dL_law_931 (by decide) ?_
          refine v_sub [1, 2, 3, 0] rfl ?_
          exact ih _ _ h
        · have h := h.2 q
          refine v_sub [] rfl ?_
          exact he504 _ h
      by_cases q12 : x = 12
      · have h := h.2.2.2.2.2.2.2.2.2.2.2.2.1 q12
        refine v_tabIn C 506 dL_law_33 12 (hx.trans q12) (by decide) (by decide) rfl (by decide) ?_
        refine v_aload_n C dL_law_506 1 rfl ?_
        refine v_calli C (rn_V C _ (m_X10_undo h) mf_X10_undo wd_873 wd_874 wd_872 rfl rfl ⟨(Nat.le_of_ble_eq_true rfl), (Nat.le_of_ble_eq_true rfl)⟩ rfl rfl rfl rfl (Nat.le_of_ble_eq_true rfl) dL_law_507) (fun r w h => ?_)
        refine v_aload_n C dL_law_510 2 rfl ?_
        refine v_calli C (rn_V C _ (m_X11_undo h) mf_X11_undo wd_1290 wd_1291 wd_1289 rfl rfl ⟨(Nat.le_of_ble_eq_true rfl), (Nat.le_of_ble_eq_true rfl)⟩ rfl rfl rfl rfl (Nat.le_of_ble_eq_true rfl) dL_law_511) (fun r w h => ?_)
        refine v_icmp_eq C 928 dL_law_514 (by decide) (fun q => ?_) (fun q => ?_)
        · have h := h.1 q
          refine v_iinc C [(3, _), (0, _), (1, _), (2, _)] dL_law_928 3 rfl (by decide) rfl ?_
          refine v_goto C 18 dL_law_931 (by decide) ?_
          refine v_sub [1, 2, 3, 0] rfl ?_
          exact ih _ _ h
        · have h := h.2 q
          refine v_sub [] rfl ?_
          exact he517 _ h
      by_cases q13 : x = 13
      · have h := h.2.2.2.2.2.2.2.2.2.2.2.2.2.1 q13
        refine v_tabIn C 519 dL_law_33 13 (hx.trans q13) (by decide) (by decide) rfl (by decide) ?_
        refine v_aload_n C dL_law_519 1 rfl ?_
        refine v_aload_n C dL_law_520 0 rfl ?_
        refine v_iload_n C dL_law_521 3 rfl ?_
        refine v_iconst C dL_law_522 ?_
        refine v_iadd C dL_law_523 ?_
        refine v_lawld C R h.1 dL_law_524 ?_
        have h := h.2
        refine v_aload_n C dL_law_525 0 rfl ?_
        refine v_iload_n C dL_law_526 3 rfl ?_
        refine v_iconst C dL_law_527 ?_
        refine v_iadd C dL_law_528 ?_
        refine v_lawld C R h.1 dL_law_529 ?_
        have h := h.2
        refine v_calli C (rn_V C _ (m_X10_line h) mf_X10_line wd_881 wd_882 wd_880 rfl rfl ⟨(Nat.le_of_ble_eq_true rfl), (Nat.le_of_ble_eq_true rfl)⟩ rfl rfl rfl rfl (Nat.le_of_ble_eq_true rfl) dL_law_530) (fun r w h => ?_)
        refine v_aload_n C dL_law_533 2 rfl ?_
        refine v_aload_n C dL_law_534 0 rfl ?_
        refine v_iload_n C dL_law_535 3 rfl ?_
        refine v_iconst C dL_law_536 ?_
        refine v_iadd C dL_law_537 ?_
        refine v_lawld C R h.1 dL_law_538 ?_
        have h := h.2
        refine v_aload_n C dL_law_539 0 rfl ?_
        refine v_iload_n C dL_law_540 3 rfl ?_
        refine v_iconst C dL_law_541 ?_
        refine v_iadd C dL_law_542 ?_
        refine v_lawld C R h.1 dL_law_543 ?_
        have h := h.2
        refine v_calli C (rn_V C _ (m_X11_line h) mf_X11_line wd_1370 wd_1371 wd_1369 rfl rfl ⟨(Nat.le_of_ble_eq_true rfl), (Nat.le_of_ble_eq_true rfl)⟩ rfl rfl rfl rfl (Nat.le_of_ble_eq_true rfl) dL_law_544) (fun r w h => ?_)
        refine v_icmp_eq C 928 dL_law_547 (by decide) (fun q => ?_) (fun q => ?_)
        · have h := h.1 q
          refine v_iinc C [(3, _), (0, _), (1, _), (2, _)] dL_law_928 3 rfl (by decide) rfl ?_
          refine v_goto C 18 dL_law_931 (by decide) ?_
          refine v_sub [1, 2, 3, 0] rfl ?_
          exact ih _ _ h
        · have h := h.2 q
          refine v_sub [] rfl ?_
          exact he550 _ h
      by_cases q14 : x = 14
      · have h := h.2.2.2.2.2.2.2.2.2.2.2.2.2.2.1 q14
        refine v_tabIn C 552 dL_law_33 14 (hx.trans q14) (by decide) (by decide) rfl (by decide) ?_
        refine v_aload_n C dL_law_552 1 rfl ?_
        refine v_aload_n C dL_law_553 0 rfl ?_
        refine v_iload_n C dL_law_554 3 rfl ?_
        refine v_iconst C dL_law_555 ?_
        refine v_iadd C dL_law_556 ?_
        refine v_lawld C R h.1 dL_law_557 ?_
        have h := h.2
        refine v_aload_n C dL_law_558 0 rfl ?_
        refine v_iload_n C dL_law_559 3 rfl ?_
        refine v_iconst C dL_law_560 ?_
        refine v_iadd C dL_law_561 ?_
        refine v_lawld C R h.1 dL_law_562 ?_
        have h := h.2
        refine v_calli C (rn_V C _ (m_X10_round h) mf_X10_round wd_886 wd_887 wd_885 rfl rfl ⟨(Nat.le_of_ble_eq_true rfl), (Nat.le_of_ble_eq_true rfl)⟩ rfl rfl rfl rfl (Nat.le_of_ble_eq_true rfl) dL_law_563) (fun r w h => ?_)
        refine v_aload_n C dL_law_566 2 rfl ?_
        refine v_aload_n C dL_law_567 0 rfl ?_
        refine v_iload_n C dL_law_568 3 rfl ?_
        refine v_iconst C dL_law_569 ?_
        refine v_iadd C dL_law_570 ?_
        refine v_lawld C R h.1 dL_law_571 ?_
        have h := h.2
        refine v_aload_n C dL_law_572 0 rfl ?_
        refine v_iload_n C dL_law_573 3 rfl ?_
        refine v_iconst C dL_law_574 ?_
        refine v_iadd C dL_law_575 ?_
        refine v_lawld C R h.1 dL_law_576 ?_
        have h := h.2
        refine v_calli C (rn_V C _ (m_X11_round h) mf_X11_round wd_1384 wd_1385 wd_1383 rfl rfl ⟨(Nat.le_of_ble_eq_true rfl), (Nat.le_of_ble_eq_true rfl)⟩ rfl rfl rfl rfl (Nat.le_of_ble_eq_true rfl) dL_law_577) (fun r w h => ?_)
        refine v_icmp_eq C 928 dL_law_580 (by decide) (fun q => ?_) (fun q => ?_)
        · have h := h.1 q
          refine v_iinc C [(3, _), (0, _), (1, _), (2, _)] dL_law_928 3 rfl (by decide) rfl ?_
          refine v_goto C 18 dL_law_931 (by decide) ?_
          refine v_sub [1, 2, 3, 0] rfl ?_
          exact ih _ _ h
        · have h := h.2 q
          refine v_sub [] rfl ?_
          exact he583 _ h
      by_cases q15 : x = 15
      · have h := h.2.2.2.2.2.2.2.2.2.2.2.2.2.2.2.1 q15
        refine v_tabIn C 585 dL_law_33 15 (hx.trans q15) (by decide) (by decide) rfl (by decide) ?_
        refine v_aload_n C dL_law_585 1 rfl ?_
        refine v_aload_n C dL_law_586 0 rfl ?_
        refine v_iload_n C dL_law_587 3 rfl ?_
        refine v_iconst C dL_law_588 ?_
        refine v_iadd C dL_law_589 ?_
        refine v_lawld C R h.1 dL_law_590 ?_
        have h := h.2
        refine v_aload_n C dL_law_591 0 rfl ?_
        refine v_iload_n C dL_law_592 3 rfl ?_
        refine v_iconst C dL_law_593 ?_
        refine v_iadd C dL_law_594 ?_
        refine v_lawld C R h.1 dL_law_595 ?_
        have h := h.2
        refine v_calli C (rn_V C _ (m_X10_face h) mf_X10_face wd_891 wd_892 wd_890 rfl rfl ⟨(Nat.le_of_ble_eq_true rfl), (Nat.le_of_ble_eq_true rfl)⟩ rfl rfl rfl rfl (Nat.le_of_ble_eq_true rfl) dL_law_596) (fun r w h => ?_)
        refine v_aload_n C dL_law_599 2 rfl ?_
        refine v_aload_n C dL_law_600 0 rfl ?_
        refine v_iload_n C dL_law_601 3 rfl ?_
        refine v_iconst C dL_law_602 ?_
        refine v_iadd C dL_law_603 ?_
        refine v_lawld C R h.1 dL_law_604 ?_
        have h := h.2
        refine v_aload_n C dL_law_605 0 rfl ?_
        refine v_iload_n C dL_law_606 3 rfl ?_
        refine v_iconst C dL_law_607 ?_
        refine v_iadd C dL_law_608 ?_
        refine v_lawld C R h.1 dL_law_609 ?_
        have h := h.2
        refine v_calli C (rn_V C _ (m_X11_face h) mf_X11_face wd_1388 wd_1389 wd_1387 rfl rfl ⟨(Nat.le_of_ble_eq_true rfl), (Nat.le_of_ble_eq_true rfl)⟩ rfl rfl rfl rfl (Nat.le_of_ble_eq_true rfl) dL_law_610) (fun r w h => ?_)
        refine v_icmp_eq C 928 dL_law_613 (by decide) (fun q => ?_) (fun q => ?_)
        · have h := h.1 q
          refine v_iinc C [(3, _), (0, _), (1, _), (2, _)] dL_law_928 3 rfl (by decide) rfl ?_
          refine v_goto C 18 dL_law_931 (by decide) ?_
          refine v_sub [1, 2, 3, 0] rfl ?_
          exact ih _ _ h
        · have h := h.2 q
          refine v_sub [] rfl ?_
          exact he616 _ h
      by_cases q16 : x = 16
      · have h := h.2.2.2.2.2.2.2.2.2.2.2.2.2.2.2.2.1 q16
        refine v_tabIn C 618 dL_law_33 16 (hx.trans q16) (by decide) (by decide) rfl (by decide) ?_
        refine v_aload_n C dL_law_618 1 rfl ?_
        refine v_aload_n C dL_law_619 0 rfl ?_
        refine v_iload_n C dL_law_620 3 rfl ?_
        refine v_iconst C dL_law_621 ?_
        refine v_iadd C dL_law_622 ?_
        refine v_lawld C R h.1 dL_law_623 ?_
        have h := h.2
        refine v_calli C (rn_V C _ (m_X10_surface h) mf_X10_surface wd_899 wd_900 wd_898 rfl rfl ⟨(Nat.le_of_ble_eq_true rfl), (Nat.le_of_ble_eq_true rfl)⟩ rfl rfl rfl rfl (Nat.le_of_ble_eq_true rfl) dL_law_624) (fun r w h => ?_)
        refine v_aload_n C dL_law_627 2 rfl ?_
        refine v_aload_n C dL_law_628 0 rfl ?_
        refine v_iload_n C dL_law_629 3 rfl ?_
        refine v_iconst C dL_law_630 ?_
        refine v_iadd C dL_law_631 ?_
        refine v_lawld C R h.1 dL_law_632 ?_
        have h := h.2
        refine v_calli C (rn_V C _ (m_X11_surface h) mf_X11_surface wd_1392 wd_1393 wd_1391 rfl rfl ⟨(Nat.le_of_ble_eq_true rfl), (Nat.le_of_ble_eq_true rfl)⟩ rfl rfl rfl rfl (Nat.le_of_ble_eq_true rfl) dL_law_633) (fun r w h => ?_)
        refine v_icmp_eq C 928 dL_law_636 (by decide) (fun q => ?_) (fun q => ?_)
        · have h := h.1 q
          refine v_iinc C [(3, _), (0, _), (1, _), (2, _)] dL_law_928 3 rfl (by decide) rfl ?_
          refine v_goto C 18 dL_law_931 (by decide) ?_
          refine v_sub [1, 2, 3, 0] rfl ?_
          exact ih _ _ h
        · have h := h.2 q
          refine v_sub [] rfl ?_
          exact he639 _ h
      by_cases q17 : x = 17
      · have h := h.2.2.2.2.2.2.2.2.2.2.2.2.2.2.2.2.2.1 q17
        refine v_tabIn C 641 dL_law_33 17 (hx.trans q17) (by decide) (by decide) rfl (by decide) ?_
        refine v_aload_n C dL_law_641 1 rfl ?_
        refine v_aload_n C dL_law_642 0 rfl ?_
        refine v_iload_n C dL_law_643 3 rfl ?_
        refine v_iconst C dL_law_644 ?_
        refine v_iadd C dL_law_645 ?_
        refine v_lawld C R h.1 dL_law_646 ?_
        have h := h.2
        refine v_calll C (rn_V C _ (m_X10_all h) mf_X10_all wd_913 wd_914 wd_912 rfl rfl ⟨(Nat.le_of_ble_eq_true rfl), (Nat.le_of_ble_eq_true rfl)⟩ rfl rfl rfl rfl (Nat.le_of_ble_eq_true rfl) dL_law_647) (fun r w h => ?_)
        refine v_aload_n C dL_law_650 2 rfl ?_
        refine v_aload_n C dL_law_651 0 rfl ?_
        refine v_iload_n C dL_law_652 3 rfl ?_
        refine v_iconst C dL_law_653 ?_
        refine v_iadd C dL_law_654 ?_
        refine v_lawld C R h.1 dL_law_655 ?_
        have h := h.2
        refine v_calll C (rn_V C _ (m_X11_all h) mf_X11_all wd_1409 wd_1410 wd_1408 rfl rfl ⟨(Nat.le_of_ble_eq_true rfl), (Nat.le_of_ble_eq_true rfl)⟩ rfl rfl rfl rfl (Nat.le_of_ble_eq_true rfl) dL_law_656) (fun r w h => ?_)
        refine v_lcmp C dL_law_659 ?_
        refine v_if_eq C 928 dL_law_660 (by decide) (fun q => ?_) (fun q => ?_)
        · have h := h.1 q
          refine v_iinc C [(3, _), (0, _), (1, _), (2, _)] dL_law_928 3 rfl (by decide) rfl ?_
          refine v_goto C 18 dL_law_931 (by decide) ?_
          refine v_sub [1, 2, 3, 0] rfl ?_
          exact ih _ _ h
        · have h := h.2 q
          refine v_sub [] rfl ?_
          exact he663 _ h
      by_cases q18 : x = 18
      · have h := h.2.2.2.2.2.2.2.2.2.2.2.2.2.2.2.2.2.2.1 q18
        refine v_tabIn C 665 dL_law_33 18 (hx.trans q18) (by decide) (by decide) rfl (by decide) ?_
        refine v_aload_n C dL_law_665 1 rfl ?_
        refine v_aload_n C dL_law_666 0 rfl ?_
        refine v_iload_n C dL_law_667 3 rfl ?_
        refine v_iconst C dL_law_668 ?_
        refine v_iadd C dL_law_669 ?_
        refine v_lawld C R h.1 dL_law_670 ?_
        have h := h.2
        refine v_calli C (rn_V C _ (m_X10_needing h) mf_X10_needing wd_919 wd_920 wd_918 rfl rfl ⟨(Nat.le_of_ble_eq_true rfl), (Nat.le_of_ble_eq_true rfl)⟩ rfl rfl rfl rfl (Nat.le_of_ble_eq_true rfl) dL_law_671) (fun r w h => ?_)
        refine v_aload_n C dL_law_674 2 rfl ?_
        refine v_aload_n C dL_law_675 0 rfl ?_
        refine v_iload_n C dL_law_676 3 rfl ?_
        refine v_iconst C dL_law_677 ?_
        refine v_iadd C dL_law_678 ?_
        refine v_lawld C R h.1 dL_law_679 ?_
        have h := h.2
        refine v_calli C (rn_V C _ (m_X11_needing h) mf_X11_needing wd_1435 wd_1436 wd_1434 rfl rfl ⟨(Nat.le_of_ble_eq_true rfl), (Nat.le_of_ble_eq_true rfl)⟩ rfl rfl rfl rfl (Nat.le_of_ble_eq_true rfl) dL_law_680) (fun r w h => ?_)
        refine v_icmp_eq C 928 dL_law_683 (by decide) (fun q => ?_) (fun q => ?_)
        · have h := h.1 q
          refine v_iinc C [(3, _), (0, _), (1, _), (2, _)] dL_law_928 3 rfl (by decide) rfl ?_
          refine v_goto C 18 dL_law_931 (by decide) ?_
          refine v_sub [1, 2, 3, 0] rfl ?_
          exact ih _ _ h
        · have h := h.2 q
          refine v_sub [] rfl ?_
          exact he686 _ h
      by_cases q19 : x = 19
      · have h := h.2.2.2.2.2.2.2.2.2.2.2.2.2.2.2.2.2.2.2.1 q19
        refine v_tabIn C 688 dL_law_33 19 (hx.trans q19) (by decide) (by decide) rfl (by decide) ?_
        refine v_aload_n C dL_law_688 1 rfl ?_
        refine v_aload_n C dL_law_689 0 rfl ?_
        refine v_iload_n C dL_law_690 3 rfl ?_
        refine v_iconst C dL_law_691 ?_
        refine v_iadd C dL_law_692 ?_
        refine v_lawld C R h.1 dL_law_693 ?_
        have h := h.2
        refine v_aload_n C dL_law_694 0 rfl ?_
        refine v_iload_n C dL_law_695 3 rfl ?_
        refine v_iconst C dL_law_696 ?_
        refine v_iadd C dL_law_697 ?_
        refine v_lawld C R h.1 dL_law_698 ?_
        have h := h.2
        refine v_aload_n C dL_law_699 0 rfl ?_
        refine v_iload_n C dL_law_700 3 rfl ?_
        refine v_iconst C dL_law_701 ?_
        refine v_iadd C dL_law_702 ?_
        refine v_lawld C R h.1 dL_law_703 ?_
        have h := h.2
        refine v_calli C (rn_V C _ (m_X10_ordered h) mf_X10_ordered wd_923 wd_924 wd_922 rfl rfl ⟨(Nat.le_of_ble_eq_true rfl), (Nat.le_of_ble_eq_true rfl)⟩ rfl rfl rfl rfl (Nat.le_of_ble_eq_true rfl) dL_law_704) (fun r w h => ?_)
        refine v_aload_n C dL_law_707 2 rfl ?_
        refine v_aload_n C dL_law_708 0 rfl ?_
        refine v_iload_n C dL_law_709 3 rfl ?_
        refine v_iconst C dL_law_710 ?_
        refine v_iadd C dL_law_711 ?_
        refine v_lawld C R h.1 dL_law_712 ?_
        have h := h.2
        refine v_aload_n C dL_law_713 0 rfl ?_
        refine v_iload_n C dL_law_714 3 rfl ?_
        refine v_iconst C dL_law_715 ?_
        refine v_iadd C dL_law_716 ?_
        refine v_lawld C R h.1 dL_law_717 ?_
        have h := h.2
        refine v_aload_n C dL_law_718 0 rfl ?_
        refine v_iload_n C dL_law_719 3 rfl ?_
        refine v_iconst C dL_law_720 ?_
        refine v_iadd C dL_law_721 ?_
        refine v_lawld C R h.1 dL_law_722 ?_
        have h := h.2
        refine v_calli C (rn_V C _ (m_X11_ordered h) mf_X11_ordered wd_1439 wd_1440 wd_1438 rfl rfl ⟨(Nat.le_of_ble_eq_true rfl), (Nat.le_of_ble_eq_true rfl)⟩ rfl rfl rfl rfl (Nat.le_of_ble_eq_true rfl) dL_law_723) (fun r w h => ?_)
        refine v_icmp_eq C 928 dL_law_726 (by decide) (fun q => ?_) (fun q => ?_)
        · have h := h.1 q
          refine v_iinc C [(3, _), (0, _), (1, _), (2, _)] dL_law_928 3 rfl (by decide) rfl ?_
          refine v_goto C 18 dL_law_931 (by decide) ?_
          refine v_sub [1, 2, 3, 0] rfl ?_
          exact ih _ _ h
        · have h := h.2 q
          refine v_sub [] rfl ?_
          exact he729 _ h
      by_cases q20 : x = 20
      · have h := h.2.2.2.2.2.2.2.2.2.2.2.2.2.2.2.2.2.2.2.2.1 q20
        refine v_tabIn C 731 dL_law_33 20 (hx.trans q20) (by decide) (by decide) rfl (by decide) ?_
        refine v_aload_n C dL_law_731 1 rfl ?_
        refine v_calli C (rn_V C _ (m_X10_capped h) mf_X10_capped wd_928 wd_929 wd_927 rfl rfl ⟨(Nat.le_of_ble_eq_true rfl), (Nat.le_of_ble_eq_true rfl)⟩ rfl rfl rfl rfl (Nat.le_of_ble_eq_true rfl) dL_law_732) (fun r w h => ?_)
        refine v_aload_n C dL_law_735 2 rfl ?_
        refine v_calli C (rn_V C _ (m_X11_capped h) mf_X11_capped wd_1447 wd_1448 wd_1446 rfl rfl ⟨(Nat.le_of_ble_eq_true rfl), (Nat.le_of_ble_eq_true rfl)⟩ rfl rfl rfl rfl (Nat.le_of_ble_eq_true rfl) dL_law_736) (fun r w h => ?_)
        refine v_icmp_eq C 928 dL_law_739 (by decide) (fun q => ?_) (fun q => ?_)
        · have h := h.1 q
          refine v_iinc C [(3, _), (0, _), (1, _), (2, _)] dL_law_928 3 rfl (by decide) rfl ?_
          refine v_goto C 18 dL_law_931 (by decide) ?_
          refine v_sub [1, 2, 3, 0] rfl ?_
          exact ih _ _ h
        · have h := h.2 q
          refine v_sub [] rfl ?_
          exact he742 _ h
      by_cases q21 : x = 21
      · have h := h.2.2.2.2.2.2.2.2.2.2.2.2.2.2.2.2.2.2.2.2.2.1 q21
        refine v_tabIn C 744 dL_law_33 21 (hx.trans q21) (by decide) (by decide) rfl (by decide) ?_
        refine v_aload_n C dL_law_744 1 rfl ?_
        refine v_aload_n C dL_law_745 0 rfl ?_
        refine v_iload_n C dL_law_746 3 rfl ?_
        refine v_iconst C dL_law_747 ?_
        refine v_iadd C dL_law_748 ?_
        refine v_lawld C R h.1 dL_law_749 ?_
        have h := h.2
        refine v_calli C (rn_V C _ (m_X10_bound h) mf_X10_bound wd_959 wd_960 wd_958 rfl rfl ⟨(Nat.le_of_ble_eq_true rfl), (Nat.le_of_ble_eq_true rfl)⟩ rfl rfl rfl rfl (Nat.le_of_ble_eq_true rfl) dL_law_750) (fun r w h => ?_)
        refine v_aload_n C dL_law_753 2 rfl ?_
        refine v_aload_n C dL_law_754 0 rfl ?_
        refine v_iload_n C dL_law_755 3 rfl ?_
        refine v_iconst C dL_law_756 ?_
        refine v_iadd C dL_law_757 ?_
        refine v_lawld C R h.1 dL_law_758 ?_
        have h := h.2
        refine v_calli C (rn_V C _ (m_X11_bound h) mf_X11_bound wd_1455 wd_1456 wd_1454 rfl rfl ⟨(Nat.le_of_ble_eq_true rfl), (Nat.le_of_ble_eq_true rfl)⟩ rfl rfl rfl rfl (Nat.le_of_ble_eq_true rfl) dL_law_759) (fun r w h => ?_)
        refine v_icmp_eq C 928 dL_law_762 (by decide) (fun q => ?_) (fun q => ?_)
        · have h := h.1 q
          refine v_iinc C [(3, _), (0, _), (1, _), (2, _)] dL_law_928 3 rfl (by decide) rfl ?_
          refine v_goto C 18 dL_law_931 (by decide) ?_
          refine v_sub [1, 2, 3, 0] rfl ?_
          exact ih _ _ h
        · have h := h.2 q
          refine v_sub [] rfl ?_
          exact he765 _ h
      by_cases q22 : x = 22
      · have h := h.2.2.2.2.2.2.2.2.2.2.2.2.2.2.2.2.2.2.2.2.2.2.1 q22
        refine v_tabIn C 767 dL_law_33 22 (hx.trans q22) (by decide) (by decide) rfl (by decide) ?_
        refine v_aload_n C dL_law_767 1 rfl ?_
        refine v_aload_n C dL_law_768 0 rfl ?_
        refine v_iload_n C dL_law_769 3 rfl ?_
        refine v_iconst C dL_law_770 ?_
        refine v_iadd C dL_law_771 ?_
        refine v_lawld C R h.1 dL_law_772 ?_
        have h := h.2
        refine v_aload_n C dL_law_773 0 rfl ?_
        refine v_iload_n C dL_law_774 3 rfl ?_
        refine v_iconst C dL_law_775 ?_
        refine v_iadd C dL_law_776 ?_
        refine v_lawld C R h.1 dL_law_777 ?_
        have h := h.2
        refine v_calli C (rn_V C _ (m_X10_without h) mf_X10_without wd_976 wd_977 wd_975 rfl rfl ⟨(Nat.le_of_ble_eq_true rfl), (Nat.le_of_ble_eq_true rfl)⟩ rfl rfl rfl rfl (Nat.le_of_ble_eq_true rfl) dL_law_778) (fun r w h => ?_)
        refine v_aload_n C dL_law_781 2 rfl ?_
        refine v_aload_n C dL_law_782 0 rfl ?_
        refine v_iload_n C dL_law_783 3 rfl ?_
        refine v_iconst C dL_law_784 ?_
        refine v_iadd C dL_law_785 ?_
        refine v_lawld C R h.1 dL_law_786 ?_
        have h := h.2
        refine v_aload_n C dL_law_787 0 rfl ?_
        refine v_iload_n C dL_law_788 3 rfl ?_
        refine v_iconst C dL_law_789 ?_
        refine v_iadd C dL_law_790 ?_
        refine v_lawld C R h.1 dL_law_791 ?_
        have h := h.2
        refine v_calli C (rn_V C _ (m_X11_without h) mf_X11_without wd_1467 wd_1468 wd_1466 rfl rfl ⟨(Nat.le_of_ble_eq_true rfl), (Nat.le_of_ble_eq_true rfl)⟩ rfl rfl rfl rfl (Nat.le_of_ble_eq_true rfl) dL_law_792) (fun r w h => ?_)
        refine v_icmp_eq C 928 dL_law_795 (by decide) (fun q => ?_) (fun q => ?_)
        · have h := h.1 q
          refine v_iinc C [(3, _), (0, _), (1, _), (2, _)] dL_law_928 3 rfl (by decide) rfl ?_
          refine v_goto C 18 dL_law_931 (by decide) ?_
          refine v_sub [1, 2, 3, 0] rfl ?_
          exact ih _ _ h
        · have h := h.2 q
          refine v_sub [] rfl ?_
          exact he798 _ h
      by_cases q23 : x = 23
      · have h := h.2.2.2.2.2.2.2.2.2.2.2.2.2.2.2.2.2.2.2.2.2.2.2.1 q23
        refine v_tabIn C 800 dL_law_33 23 (hx.trans q23) (by decide) (by decide) rfl (by decide) ?_
        refine v_aload_n C dL_law_800 1 rfl ?_
        refine v_aload_n C dL_law_801 0 rfl ?_
        refine v_iload_n C dL_law_802 3 rfl ?_
        refine v_iconst C dL_law_803 ?_
        refine v_iadd C dL_law_804 ?_
        refine v_lawld C R h.1 dL_law_805 ?_
        have h := h.2
        refine v_calli C (rn_V C _ (m_X10_beside h) mf_X10_beside wd_980 wd_981 wd_979 rfl rfl ⟨(Nat.le_of_ble_eq_true rfl), (Nat.le_of_ble_eq_true rfl)⟩ rfl rfl rfl rfl (Nat.le_of_ble_eq_true rfl) dL_law_806) (fun r w h => ?_)
        refine v_aload_n C dL_law_809 2 rfl ?_
        refine v_aload_n C dL_law_810 0 rfl ?_
        refine v_iload_n C dL_law_811 3 rfl ?_
        refine v_iconst C dL_law_812 ?_
        refine v_iadd C dL_law_813 ?_
        refine v_lawld C R h.1 dL_law_814 ?_
        have h := h.2
        refine v_calli C (rn_V C _ (m_X11_beside h) mf_X11_beside wd_1471 wd_1472 wd_1470 rfl rfl ⟨(Nat.le_of_ble_eq_true rfl), (Nat.le_of_ble_eq_true rfl)⟩ rfl rfl rfl rfl (Nat.le_of_ble_eq_true rfl) dL_law_815) (fun r w h => ?_)
        refine v_icmp_eq C 928 dL_law_818 (by decide) (fun q => ?_) (fun q => ?_)
        · have h := h.1 q
          refine v_iinc C [(3, _), (0, _), (1, _), (2, _)] dL_law_928 3 rfl (by decide) rfl ?_
          refine v_goto C 18 dL_law_931 (by decide) ?_
          refine v_sub [1, 2, 3, 0] rfl ?_
          exact ih _ _ h
        · have h := h.2 q
          refine v_sub [] rfl ?_
          exact he821 _ h
      by_cases q24 : x = 24
      · have h := h.2.2.2.2.2.2.2.2.2.2.2.2.2.2.2.2.2.2.2.2.2.2.2.2.1 q24
        refine v_tabIn C 823 dL_law_33 24 (hx.trans q24) (by decide) (by decide) rfl (by decide) ?_
        refine v_aload_n C dL_law_823 1 rfl ?_
        refine v_calli C (rn_V C _ (m_X10_colours h) mf_X10_colours wd_984 wd_985 wd_983 rfl rfl ⟨(Nat.le_of_ble_eq_true rfl), (Nat.le_of_ble_eq_true rfl)⟩ rfl rfl rfl rfl (Nat.le_of_ble_eq_true rfl) dL_law_824) (fun r w h => ?_)
        refine v_aload_n C dL_law_827 2 rfl ?_
        refine v_calli C (rn_V C _ (m_X11_colours h) mf_X11_colours wd_1479 wd_1480 wd_1478 rfl rfl ⟨(Nat.le_of_ble_eq_true rfl), (Nat.le_of_ble_eq_true rfl)⟩ rfl rfl rfl rfl (Nat.le_of_ble_eq_true rfl) dL_law_828) (fun r w h => ?_)
        refine v_icmp_eq C 928 dL_law_831 (by decide) (fun q => ?_) (fun q => ?_)
        · have h := h.1 q
          refine v_iinc C [(3, _), (0, _), (1, _), (2, _)] dL_law_928 3 rfl (by decide) rfl ?_
          refine v_goto C 18 dL_law_931 (by decide) ?_
          refine v_sub [1, 2, 3, 0] rfl ?_
          exact ih _ _ h
        · have h := h.2 q
          refine v_sub [] rfl ?_
          exact he834 _ h
      by_cases q25 : x = 25
      · have h := h.2.2.2.2.2.2.2.2.2.2.2.2.2.2.2.2.2.2.2.2.2.2.2.2.2.1 q25
        refine v_tabIn C 836 dL_law_33 25 (hx.trans q25) (by decide) (by decide) rfl (by decide) ?_
        refine v_aload_n C dL_law_836 1 rfl ?_
        refine v_aload_n C dL_law_837 0 rfl ?_
        refine v_iload_n C dL_law_838 3 rfl ?_
        refine v_iconst C dL_law_839 ?_
        refine v_iadd C dL_law_840 ?_
        refine v_lawld C R h.1 dL_law_841 ?_
        have h := h.2
        refine v_calli C (rn_V C _ (m_X10_like h) mf_X10_like wd_999 wd_1000 wd_998 rfl rfl ⟨(Nat.le_of_ble_eq_true rfl), (Nat.le_of_ble_eq_true rfl)⟩ rfl rfl rfl rfl (Nat.le_of_ble_eq_true rfl) dL_law_842) (fun r w h => ?_)
        refine v_aload_n C dL_law_845 2 rfl ?_
        refine v_aload_n C dL_law_846 0 rfl ?_
        refine v_iload_n C dL_law_847 3 rfl ?_
        refine v_iconst C dL_law_848 ?_
        refine v_iadd C dL_law_849 ?_
        refine v_lawld C R h.1 dL_law_850 ?_
        have h := h.2
        refine v_calli C (rn_V C _ (m_X11_like h) mf_X11_like wd_1499 wd_1500 wd_1498 rfl rfl ⟨(Nat.le_of_ble_eq_true rfl), (Nat.le_of_ble_eq_true rfl)⟩ rfl rfl rfl rfl (Nat.le_of_ble_eq_true rfl) dL_law_851) (fun r w h => ?_)
        refine v_icmp_eq C 928 dL_law_854 (by decide) (fun q => ?_) (fun q => ?_)
        · have h := h.1 q
          refine v_iinc C [(3, _), (0, _), (1, _), (2, _)] dL_law_928 3 rfl (by decide) rfl ?_
          refine v_goto C 18 dL_law_931 (by decide) ?_
          refine v_sub [1, 2, 3, 0] rfl ?_
          exact ih _ _ h
        · have h := h.2 q
          refine v_sub [] rfl ?_
          exact he857 _ h
      by_cases q26 : x = 26
      · have h := h.2.2.2.2.2.2.2.2.2.2.2.2.2.2.2.2.2.2.2.2.2.2.2.2.2.2.1 q26
        refine v_tabIn C 859 dL_law_33 26 (hx.trans q26) (by decide) (by decide) rfl (by decide) ?_
        refine v_aload_n C dL_law_859 1 rfl ?_
        refine v_aload_n C dL_law_860 0 rfl ?_
        refine v_iload_n C dL_law_861 3 rfl ?_
        refine v_iconst C dL_law_862 ?_
        refine v_iadd C dL_law_863 ?_
        refine v_lawld C R h.1 dL_law_864 ?_
        have h := h.2
        refine v_calli C (rn_V C _ (m_X10_hold h) mf_X10_hold wd_1031 wd_1032 wd_1030 rfl rfl ⟨(Nat.le_of_ble_eq_true rfl), (Nat.le_of_ble_eq_true rfl)⟩ rfl rfl rfl rfl (Nat.le_of_ble_eq_true rfl) dL_law_865) (fun r w h => ?_)
        refine v_aload_n C dL_law_868 2 rfl ?_
        refine v_aload_n C dL_law_869 0 rfl ?_
        refine v_iload_n C dL_law_870 3 rfl ?_
        refine v_iconst C dL_law_871 ?_
        refine v_iadd C dL_law_872 ?_
        refine v_lawld C R h.1 dL_law_873 ?_
        have h := h.2
        refine v_calli C (rn_V C _ (m_X11_hold h) mf_X11_hold wd_1294 wd_1295 wd_1293 rfl rfl ⟨(Nat.le_of_ble_eq_true rfl), (Nat.le_of_ble_eq_true rfl)⟩ rfl rfl rfl rfl (Nat.le_of_ble_eq_true rfl) dL_law_874) (fun r w h => ?_)
        refine v_icmp_eq C 928 dL_law_877 (by decide) (fun q => ?_) (fun q => ?_)
        · have h := h.1 q
          refine v_iinc C [(3, _), (0, _), (1, _), (2, _)] dL_law_928 3 rfl (by decide) rfl ?_
          refine v_goto C 18 dL_law_931 (by decide) ?_
          refine v_sub [1, 2, 3, 0] rfl ?_
          exact ih _ _ h
        · have h := h.2 q
          refine v_sub [] rfl ?_
          exact he880 _ h
      by_cases q27 : x = 27
      · have h := h.2.2.2.2.2.2.2.2.2.2.2.2.2.2.2.2.2.2.2.2.2.2.2.2.2.2.2.1 q27
        refine v_tabIn C 882 dL_law_33 27 (hx.trans q27) (by decide) (by decide) rfl (by decide) ?_
        refine v_aload_n C dL_law_882 1 rfl ?_
        refine v_aload_n C dL_law_883 0 rfl ?_
        refine v_iload_n C dL_law_884 3 rfl ?_
        refine v_iconst C dL_law_885 ?_
        refine v_iadd C dL_law_886 ?_
        refine v_lawld C R h.1 dL_law_887 ?_
        have h := h.2
        refine v_calli C (rn_V C _ (m_X10_restore h) mf_X10_restore wd_1035 wd_1036 wd_1034 rfl rfl ⟨(Nat.le_of_ble_eq_true rfl), (Nat.le_of_ble_eq_true rfl)⟩ rfl rfl rfl rfl (Nat.le_of_ble_eq_true rfl) dL_law_888) (fun r w h => ?_)
        refine v_aload_n C dL_law_891 2 rfl ?_
        refine v_aload_n C dL_law_892 0 rfl ?_
        refine v_iload_n C dL_law_893 3 rfl ?_
        refine v_iconst C dL_law_894 ?_
        refine v_iadd C dL_law_895 ?_
        refine v_lawld C R h.1 dL_law_896 ?_
        have h := h.2
        refine v_calli C (rn_V C _ (m_X11_restore h) mf_X11_restore wd_1301 wd_1302 wd_1300 rfl rfl ⟨(Nat.le_of_ble_eq_true rfl), (Nat.le_of_ble_eq_true rfl)⟩ rfl rfl rfl rfl (Nat.le_of_ble_eq_true rfl) dL_law_897) (fun r w h => ?_)
        refine v_icmp_eq C 928 dL_law_900 (by decide) (fun q => ?_) (fun q => ?_)
        · have h := h.1 q
          refine v_iinc C [(3, _), (0, _), (1, _), (2, _)] dL_law_928 3 rfl (by decide) rfl ?_
          refine v_goto C 18 dL_law_931 (by decide) ?_
          refine v_sub [1, 2, 3, 0] rfl ?_
          exact ih _ _ h
        · have h := h.2 q
          refine v_sub [] rfl ?_
          exact he903 _ h
      by_cases q28 : x = 28
      · have h := h.2.2.2.2.2.2.2.2.2.2.2.2.2.2.2.2.2.2.2.2.2.2.2.2.2.2.2.2.1 q28
        refine v_tabIn C 905 dL_law_33 28 (hx.trans q28) (by decide) (by decide) rfl (by decide) ?_
        refine v_aload_n C dL_law_905 1 rfl ?_
        refine v_aload_n C dL_law_906 0 rfl ?_
        refine v_iload_n C dL_law_907 3 rfl ?_
        refine v_iconst C dL_law_908 ?_
        refine v_iadd C dL_law_909 ?_
        refine v_lawld C R h.1 dL_law_910 ?_
        have h := h.2
        refine v_calli C (rn_V C _ (m_X10_count h) mf_X10_count wd_1039 wd_1040 wd_1038 rfl rfl ⟨(Nat.le_of_ble_eq_true rfl), (Nat.le_of_ble_eq_true rfl)⟩ rfl rfl rfl rfl (Nat.le_of_ble_eq_true rfl) dL_law_911) (fun r w h => ?_)
        refine v_aload_n C dL_law_914 2 rfl ?_
        refine v_aload_n C dL_law_915 0 rfl ?_
        refine v_iload_n C dL_law_916 3 rfl ?_
        refine v_iconst C dL_law_917 ?_
        refine v_iadd C dL_law_918 ?_
        refine v_lawld C R h.1 dL_law_919 ?_
        have h := h.2
        refine v_calli C (rn_V C _ (m_X11_count h) mf_X11_count wd_1518 wd_1519 wd_1517 rfl rfl ⟨(Nat.le_of_ble_eq_true rfl), (Nat.le_of_ble_eq_true rfl)⟩ rfl rfl rfl rfl (Nat.le_of_ble_eq_true rfl) dL_law_920) (fun r w h => ?_)
        refine v_icmp_eq C 928 dL_law_923 (by decide) (fun q => ?_) (fun q => ?_)
        · have h := h.1 q
          refine v_iinc C [(3, _), (0, _), (1, _), (2, _)] dL_law_928 3 rfl (by decide) rfl ?_
          refine v_goto C 18 dL_law_931 (by decide) ?_
          refine v_sub [1, 2, 3, 0] rfl ?_
          exact ih _ _ h
        · have h := h.2 q
          refine v_sub [] rfl ?_
          exact he926 _ h
      have q : x < 0 ∨ 28 < x := by omega
      have h := h.2.2.2.2.2.2.2.2.2.2.2.2.2.2.2.2.2.2.2.2.2.2.2.2.2.2.2.2.2 q
      refine v_tabOut C 928 dL_law_33 (by rw [hx]; exact q) (by decide) ?_
      refine v_iinc C [(3, _), (0, _), (1, _), (2, _)] dL_law_928 3 rfl (by decide) rfl ?_
      refine v_goto C 18 dL_law_931 (by decide) ?_
      refine v_sub [1, 2, 3, 0] rfl ?_
      exact ih _ _ h
def L_law_b225 (xs : Nat → Int32) (L : Nat) (w : Wd) : Prop := False
theorem t_L_law_b225 {Z : Zw} {E : Amb} {B b L : Nat} {xs : Nat → Int32} (C : Cx Z (aB B) E cL_law "HandleFacesLaw" 4 room_1) (R : RtL E B b L xs) : ∀ (w : Wd), L_law_b225 xs L w → V Z (aB B) E 4 w 225 [] [] := by
  intro w h
  unfold L_law_b225 at h
  refine v_iconst C dL_law_225 ?_
  exact h.elim
def L_law_b248 (xs : Nat → Int32) (L : Nat) (w : Wd) : Prop := False
theorem t_L_law_b248 {Z : Zw} {E : Amb} {B b L : Nat} {xs : Nat → Int32} (C : Cx Z (aB B) E cL_law "HandleFacesLaw" 4 room_1) (R : RtL E B b L xs) : ∀ (w : Wd), L_law_b248 xs L w → V Z (aB B) E 4 w 248 [] [] := by
  intro w h
  unfold L_law_b248 at h
  refine v_iconst C dL_law_248 ?_
  exact h.elim
def L_law_b261 (xs : Nat → Int32) (L : Nat) (w : Wd) : Prop := False
theorem t_L_law_b261 {Z : Zw} {E : Amb} {B b L : Nat} {xs : Nat → Int32} (C : Cx Z (aB B) E cL_law "HandleFacesLaw" 4 room_1) (R : RtL E B b L xs) : ∀ (w : Wd), L_law_b261 xs L w → V Z (aB B) E 4 w 261 [] [] := by
  intro w h
  unfold L_law_b261 at h
  refine v_iconst C dL_law_261 ?_
  exact h.elim
def L_law_b274 (xs : Nat → Int32) (L : Nat) (w : Wd) : Prop := False
theorem t_L_law_b274 {Z : Zw} {E : Amb} {B b L : Nat} {xs : Nat → Int32} (C : Cx Z (aB B) E cL_law "HandleFacesLaw" 4 room_1) (R : RtL E B b L xs) : ∀ (w : Wd), L_law_b274 xs L w → V Z (aB B) E 4 w 274 [] [] := by
  intro w h
  unfold L_law_b274 at h
  refine v_iconst C dL_law_274 ?_
  exact h.elim
def L_law_b353 (xs : Nat → Int32) (L : Nat) (w : Wd) : Prop := False
theorem t_L_law_b353 {Z : Zw} {E : Amb} {B b L : Nat} {xs : Nat → Int32} (C : Cx Z (aB B) E cL_law "HandleFacesLaw" 4 room_1) (R : RtL E B b L xs) : ∀ (w : Wd), L_law_b353 xs L w → V Z (aB B) E 4 w 353 [] [] := by
  intro w h
  unfold L_law_b353 at h
  refine v_iconst C dL_law_353 ?_
  exact h.elim
def L_law_b376 (xs : Nat → Int32) (L : Nat) (w : Wd) : Prop := False
theorem t_L_law_b376 {Z : Zw} {E : Amb} {B b L : Nat} {xs : Nat → Int32} (C : Cx Z (aB B) E cL_law "HandleFacesLaw" 4 room_1) (R : RtL E B b L xs) : ∀ (w : Wd), L_law_b376 xs L w → V Z (aB B) E 4 w 376 [] [] := by
  intro w h
  unfold L_law_b376 at h
  refine v_iconst C dL_law_376 ?_
  exact h.elim
def L_law_b399 (xs : Nat → Int32) (L : Nat) (w : Wd) : Prop := False
theorem t_L_law_b399 {Z : Zw} {E : Amb} {B b L : Nat} {xs : Nat → Int32} (C : Cx Z (aB B) E cL_law "HandleFacesLaw" 4 room_1) (R : RtL E B b L xs) : ∀ (w : Wd), L_law_b399 xs L w → V Z (aB B) E 4 w 399 [] [] := by
  intro w h
  unfold L_law_b399 at h
  refine v_iconst C dL_law_399 ?_
  exact h.elim
def L_law_b422 (xs : Nat → Int32) (L : Nat) (w : Wd) : Prop := False
theorem t_L_law_b422 {Z : Zw} {E : Amb} {B b L : Nat} {xs : Nat → Int32} (C : Cx Z (aB B) E cL_law "HandleFacesLaw" 4 room_1) (R : RtL E B b L xs) : ∀ (w : Wd), L_law_b422 xs L w → V Z (aB B) E 4 w 422 [] [] := by
  intro w h
  unfold L_law_b422 at h
  refine v_iconst C dL_law_422 ?_
  exact h.elim
def L_law_b455 (xs : Nat → Int32) (L : Nat) (w : Wd) : Prop := False
theorem t_L_law_b455 {Z : Zw} {E : Amb} {B b L : Nat} {xs : Nat → Int32} (C : Cx Z (aB B) E cL_law "HandleFacesLaw" 4 room_1) (R : RtL E B b L xs) : ∀ (w : Wd), L_law_b455 xs L w → V Z (aB B) E 4 w 455 [] [] := by
  intro w h
  unfold L_law_b455 at h
  refine v_iconst C dL_law_455 ?_
  exact h.elim
def L_law_b468 (xs : Nat → Int32) (L : Nat) (w : Wd) : Prop := False
theorem t_L_law_b468 {Z : Zw} {E : Amb} {B b L : Nat} {xs : Nat → Int32} (C : Cx Z (aB B) E cL_law "HandleFacesLaw" 4 room_1) (R : RtL E B b L xs) : ∀ (w : Wd), L_law_b468 xs L w → V Z (aB B) E 4 w 468 [] [] := by
  intro w h
  unfold L_law_b468 at h
  refine v_iconst C dL_law_468 ?_
  exact h.elim
def L_law_b481 (xs : Nat → Int32) (L : Nat) (w : Wd) : Prop := False
theorem t_L_law_b481 {Z : Zw} {E : Amb} {B b L : Nat} {xs : Nat → Int32} (C : Cx Z (aB B) E cL_law "HandleFacesLaw" 4 room_1) (R : RtL E B b L xs) : ∀ (w : Wd), L_law_b481 xs L w → V Z (aB B) E 4 w 481 [] [] := by
  intro w h
  unfold L_law_b481 at h
  refine v_iconst C dL_law_481 ?_
  exact h.elim
def L_law_b504 (xs : Nat → Int32) (L : Nat) (w : Wd) : Prop := False
theorem t_L_law_b504 {Z : Zw} {E : Amb} {B b L : Nat} {xs : Nat → Int32} (C : Cx Z (aB B) E cL_law "HandleFacesLaw" 4 room_1) (R : RtL E B b L xs) : ∀ (w : Wd), L_law_b504 xs L w → V Z (aB B) E 4 w 504 [] [] := by
  intro w h
  unfold L_law_b504 at h
  refine v_iconst C dL_law_504 ?_
  exact h.elim
def L_law_b517 (xs : Nat → Int32) (L : Nat) (w : Wd) : Prop := False
theorem t_L_law_b517 {Z : Zw} {E : Amb} {B b L : Nat} {xs : Nat → Int32} (C : Cx Z (aB B) E cL_law "HandleFacesLaw" 4 room_1) (R : RtL E B b L xs) : ∀ (w : Wd), L_law_b517 xs L w → V Z (aB B) E 4 w 517 [] [] := by
  intro w h
  unfold L_law_b517 at h
  refine v_iconst C dL_law_517 ?_
  exact h.elim
def L_law_b550 (xs : Nat → Int32) (L : Nat) (w : Wd) : Prop := False
theorem t_L_law_b550 {Z : Zw} {E : Amb} {B b L : Nat} {xs : Nat → Int32} (C : Cx Z (aB B) E cL_law "HandleFacesLaw" 4 room_1) (R : RtL E B b L xs) : ∀ (w : Wd), L_law_b550 xs L w → V Z (aB B) E 4 w 550 [] [] := by
  intro w h
  unfold L_law_b550 at h
  refine v_iconst C dL_law_550 ?_
  exact h.elim
def L_law_b583 (xs : Nat → Int32) (L : Nat) (w : Wd) : Prop := False
theorem t_L_law_b583 {Z : Zw} {E : Amb} {B b L : Nat} {xs : Nat → Int32} (C : Cx Z (aB B) E cL_law "HandleFacesLaw" 4 room_1) (R : RtL E B b L xs) : ∀ (w : Wd), L_law_b583 xs L w → V Z (aB B) E 4 w 583 [] [] := by
  intro w h
  unfold L_law_b583 at h
  refine v_iconst C dL_law_583 ?_
  exact h.elim
def L_law_b616 (xs : Nat → Int32) (L : Nat) (w : Wd) : Prop := False
theorem t_L_law_b616 {Z : Zw} {E : Amb} {B b L : Nat} {xs : Nat → Int32} (C : Cx Z (aB B) E cL_law "HandleFacesLaw" 4 room_1) (R : RtL E B b L xs) : ∀ (w : Wd), L_law_b616 xs L w → V Z (aB B) E 4 w 616 [] [] := by
  intro w h
  unfold L_law_b616 at h
  refine v_iconst C dL_law_616 ?_
  exact h.elim
def L_law_b639 (xs : Nat → Int32) (L : Nat) (w : Wd) : Prop := False
theorem t_L_law_b639 {Z : Zw} {E : Amb} {B b L : Nat} {xs : Nat → Int32} (C : Cx Z (aB B) E cL_law "HandleFacesLaw" 4 room_1) (R : RtL E B b L xs) : ∀ (w : Wd), L_law_b639 xs L w → V Z (aB B) E 4 w 639 [] [] := by
  intro w h
  unfold L_law_b639 at h
  refine v_iconst C dL_law_639 ?_
  exact h.elim
def L_law_b663 (xs : Nat → Int32) (L : Nat) (w : Wd) : Prop := False
theorem t_L_law_b663 {Z : Zw} {E : Amb} {B b L : Nat} {xs : Nat → Int32} (C : Cx Z (aB B) E cL_law "HandleFacesLaw" 4 room_1) (R : RtL E B b L xs) : ∀ (w : Wd), L_law_b663 xs L w → V Z (aB B) E 4 w 663 [] [] := by
  intro w h
  unfold L_law_b663 at h
  refine v_iconst C dL_law_663 ?_
  exact h.elim
def L_law_b686 (xs : Nat → Int32) (L : Nat) (w : Wd) : Prop := False
theorem t_L_law_b686 {Z : Zw} {E : Amb} {B b L : Nat} {xs : Nat → Int32} (C : Cx Z (aB B) E cL_law "HandleFacesLaw" 4 room_1) (R : RtL E B b L xs) : ∀ (w : Wd), L_law_b686 xs L w → V Z (aB B) E 4 w 686 [] [] := by
  intro w h
  unfold L_law_b686 at h
  refine v_iconst C dL_law_686 ?_
  exact h.elim
def L_law_b729 (xs : Nat → Int32) (L : Nat) (w : Wd) : Prop := False
theorem t_L_law_b729 {Z : Zw} {E : Amb} {B b L : Nat} {xs : Nat → Int32} (C : Cx Z (aB B) E cL_law "HandleFacesLaw" 4 room_1) (R : RtL E B b L xs) : ∀ (w : Wd), L_law_b729 xs L w → V Z (aB B) E 4 w 729 [] [] := by
  intro w h
  unfold L_law_b729 at h
  refine v_iconst C dL_law_729 ?_
  exact h.elim
def L_law_b742 (xs : Nat → Int32) (L : Nat) (w : Wd) : Prop := False
theorem t_L_law_b742 {Z : Zw} {E : Amb} {B b L : Nat} {xs : Nat → Int32} (C : Cx Z (aB B) E cL_law "HandleFacesLaw" 4 room_1) (R : RtL E B b L xs) : ∀ (w : Wd), L_law_b742 xs L w → V Z (aB B) E 4 w 742 [] [] := by
  intro w h
  unfold L_law_b742 at h
  refine v_iconst C dL_law_742 ?_
  exact h.elim
def L_law_b765 (xs : Nat → Int32) (L : Nat) (w : Wd) : Prop := False
theorem t_L_law_b765 {Z : Zw} {E : Amb} {B b L : Nat} {xs : Nat → Int32} (C : Cx Z (aB B) E cL_law "HandleFacesLaw" 4 room_1) (R : RtL E B b L xs) : ∀ (w : Wd), L_law_b765 xs L w → V Z (aB B) E 4 w 765 [] [] := by
  intro w h
  unfold L_law_b765 at h
  refine v_iconst C dL_law_765 ?_
  exact h.elim
def L_law_b798 (xs : Nat → Int32) (L : Nat) (w : Wd) : Prop := False
theorem t_L_law_b798 {Z : Zw} {E : Amb} {B b L : Nat} {xs : Nat → Int32} (C : Cx Z (aB B) E cL_law "HandleFacesLaw" 4 room_1) (R : RtL E B b L xs) : ∀ (w : Wd), L_law_b798 xs L w → V Z (aB B) E 4 w 798 [] [] := by
  intro w h
  unfold L_law_b798 at h
  refine v_iconst C dL_law_798 ?_
  exact h.elim
def L_law_b821 (xs : Nat → Int32) (L : Nat) (w : Wd) : Prop := False
theorem t_L_law_b821 {Z : Zw} {E : Amb} {B b L : Nat} {xs : Nat → Int32} (C : Cx Z (aB B) E cL_law "HandleFacesLaw" 4 room_1) (R : RtL E B b L xs) : ∀ (w : Wd), L_law_b821 xs L w → V Z (aB B) E 4 w 821 [] [] := by
  intro w h
  unfold L_law_b821 at h
  refine v_iconst C dL_law_821 ?_
  exact h.elim
def L_law_b834 (xs : Nat → Int32) (L : Nat) (w : Wd) : Prop := False
theorem t_L_law_b834 {Z : Zw} {E : Amb} {B b L : Nat} {xs : Nat → Int32} (C : Cx Z (aB B) E cL_law "HandleFacesLaw" 4 room_1) (R : RtL E B b L xs) : ∀ (w : Wd), L_law_b834 xs L w → V Z (aB B) E 4 w 834 [] [] := by
  intro w h
  unfold L_law_b834 at h
  refine v_iconst C dL_law_834 ?_
  exact h.elim
def L_law_b857 (xs : Nat → Int32) (L : Nat) (w : Wd) : Prop := False
theorem t_L_law_b857 {Z : Zw} {E : Amb} {B b L : Nat} {xs : Nat → Int32} (C : Cx Z (aB B) E cL_law "HandleFacesLaw" 4 room_1) (R : RtL E B b L xs) : ∀ (w : Wd), L_law_b857 xs L w → V Z (aB B) E 4 w 857 [] [] := by
  intro w h
  unfold L_law_b857 at h
  refine v_iconst C dL_law_857 ?_
  exact h.elim
def L_law_b880 (xs : Nat → Int32) (L : Nat) (w : Wd) : Prop := False
theorem t_L_law_b880 {Z : Zw} {E : Amb} {B b L : Nat} {xs : Nat → Int32} (C : Cx Z (aB B) E cL_law "HandleFacesLaw" 4 room_1) (R : RtL E B b L xs) : ∀ (w : Wd), L_law_b880 xs L w → V Z (aB B) E 4 w 880 [] [] := by
  intro w h
  unfold L_law_b880 at h
  refine v_iconst C dL_law_880 ?_
  exact h.elim
def L_law_b903 (xs : Nat → Int32) (L : Nat) (w : Wd) : Prop := False
theorem t_L_law_b903 {Z : Zw} {E : Amb} {B b L : Nat} {xs : Nat → Int32} (C : Cx Z (aB B) E cL_law "HandleFacesLaw" 4 room_1) (R : RtL E B b L xs) : ∀ (w : Wd), L_law_b903 xs L w → V Z (aB B) E 4 w 903 [] [] := by
  intro w h
  unfold L_law_b903 at h
  refine v_iconst C dL_law_903 ?_
  exact h.elim
def L_law_b926 (xs : Nat → Int32) (L : Nat) (w : Wd) : Prop := False
theorem t_L_law_b926 {Z : Zw} {E : Amb} {B b L : Nat} {xs : Nat → Int32} (C : Cx Z (aB B) E cL_law "HandleFacesLaw" 4 room_1) (R : RtL E B b L xs) : ∀ (w : Wd), L_law_b926 xs L w → V Z (aB B) E 4 w 926 [] [] := by
  intro w h
  unfold L_law_b926 at h
  refine v_iconst C dL_law_926 ?_
  exact h.elim
def L_law_b934 (xs : Nat → Int32) (L : Nat) (w : Wd) : Prop := True
theorem t_L_law_b934 {Z : Zw} {E : Amb} {B b L : Nat} {xs : Nat → Int32} (C : Cx Z (aB B) E cL_law "HandleFacesLaw" 4 room_1) (R : RtL E B b L xs) : ∀ (w : Wd), L_law_b934 xs L w → V Z (aB B) E 4 w 934 [] [] := by
  intro w h
  unfold L_law_b934 at h
  refine v_iconst C dL_law_934 ?_
  exact v_lawret C R dL_law_935
def law_wp (xs : Nat → Int32) (L : Nat) (w : Wd) : Prop := (∃ m, L_law_l18 xs L (L_law_b225 xs L) (L_law_b248 xs L) (L_law_b261 xs L) (L_law_b274 xs L) (L_law_b353 xs L) (L_law_b376 xs L) (L_law_b399 xs L) (L_law_b422 xs L) (L_law_b455 xs L) (L_law_b468 xs L) (L_law_b481 xs L) (L_law_b504 xs L) (L_law_b517 xs L) (L_law_b550 xs L) (L_law_b583 xs L) (L_law_b616 xs L) (L_law_b639 xs L) (L_law_b663 xs L) (L_law_b686 xs L) (L_law_b729 xs L) (L_law_b742 xs L) (L_law_b765 xs L) (L_law_b798 xs L) (L_law_b821 xs L) (L_law_b834 xs L) (L_law_b857 xs L) (L_law_b880 xs L) (L_law_b903 xs L) (L_law_b926 xs L) (L_law_b934 xs L) m 0 w)
theorem t_law {Z : Zw} {E : Amb} {B b L : Nat} {xs : Nat → Int32} (C : Cx Z (aB B) E cL_law "HandleFacesLaw" 4 room_1) (R : RtL E B b L xs) {w : Wd} (h : law_wp xs L w) : V Z (aB B) E 4 w 16 [(2, rv Z 65), (1, rv Z 0), (0, .ref b)] [] := by
  unfold law_wp at h
  refine v_iconst C dL_law_16 ?_
  refine v_istore_n C [(3, _), (2, _), (1, _), (0, _)] dL_law_17 3 rfl (by decide) rfl ?_
  refine v_sub [3, 2, 1, 0] rfl ?_
  obtain ⟨m, h⟩ := h
  exact t_L_law_l18 C R (t_L_law_b225 C R) (t_L_law_b248 C R) (t_L_law_b261 C R) (t_L_law_b274 C R) (t_L_law_b353 C R) (t_L_law_b376 C R) (t_L_law_b399 C R) (t_L_law_b422 C R) (t_L_law_b455 C R) (t_L_law_b468 C R) (t_L_law_b481 C R) (t_L_law_b504 C R) (t_L_law_b517 C R) (t_L_law_b550 C R) (t_L_law_b583 C R) (t_L_law_b616 C R) (t_L_law_b639 C R) (t_L_law_b663 C R) (t_L_law_b686 C R) (t_L_law_b729 C R) (t_L_law_b742 C R) (t_L_law_b765 C R) (t_L_law_b798 C R) (t_L_law_b821 C R) (t_L_law_b834 C R) (t_L_law_b857 C R) (t_L_law_b880 C R) (t_L_law_b903 C R) (t_L_law_b926 C R) (t_L_law_b934 C R) m _ _ h
