/-! ORDERS: what the class answers -/
noncomputable def allA (D : Dw) (x : Int) : Int := if x = 0 then (totO D : Int) else if 1 ≤ x ∧ x ≤ 3 then (if totO D ≤ 20000 then (if x = 1 then ((lsK D (totO D)).1 : Int) else if x = 2 then (mxK D (totO D) : Int) else ((lsK D (totO D)).2 : Int)) else -2) else -1
noncomputable def neeA (D : Dw) (x : Int) : Int := if totO D ≤ 20000 then (if 0 ≤ x ∧ x ≤ 5 then (neK D x.toNat (totO D) : Int) else 0) else -2
noncomputable def ordA (D : Dw) (x y z : Int) : Int := if (0 ≤ x ∧ x < totO D) ∧ (0 ≤ y ∧ y < dN D) ∧ (0 ≤ z ∧ z < dG D y.toNat) then (dR (dOrd D x.toNat) y.toNat z.toNat : Int) else -1
/-- what a look at orders leaves alone -/
def offO (w w' : Wd) : Prop := ∀ c j, ((c = 40 ∧ (j = 7 ∨ j = 8)) ∨ 65 ≤ c) → w' c j = w c j
theorem sur_st {w w' : Wd} {S : Sg} (hS : SOK S) (h : HX w S) (hT : TrOK w S) (o : ∀ c j, (c < 40 ∨ (c = 40 ∧ (j = 7 ∨ j = 8)) ∨ 49 ≤ c) → w' c j = w c j) : HX w' S ∧ TrOK w' S ∧ offO w w' := ⟨HX.same hS h (fun c j _ hc => o c j (by omega)), hT.imp (fun k => by rw [o _ _ (by omega)]; exact k) (fun k => RepT.of k (fun c j _ _ => o c j (by omega))), fun c j hc => o c j (by omega)⟩
section ORDA
variable {Q : Int → Wd → Prop} {w : Wd} {S : Sg}
theorem tot_cmp (D : Dw) : (wr (lcm (totO D : Int) 20000) ≤ 0 ↔ totO D ≤ 20000) := by
  have hb := totO_bd D
  have := (lcm_i (a := (totO D : Int)) (b := 20000) (wl_nat (by omega)) (by decide)).1
  rw [this]
  omega
theorem all_X {x : Int} (hS : SOK S) (h : HX w S) (hT : TrOK w S) (hC : SurOK w) (hx : wr x = x) (hQ : ∀ w', HX w' S → TrOK w' S → SurOK w' → offO w w' → Q (allA (sD S) x) w') : X10_all x w Q := by
  have hW := hS.1
  have hR : RepX w 1 (sD S) := h.2.2.2.1
  have hb := totO_bd (sD S)
  have q0 := hQ w h hT hC (fun _ _ _ => rfl)
  have hno : ¬ (0 ≤ x ∧ x ≤ 3) → Q (-1) w := fun z => by
    unfold allA at q0
    rw [if_neg (by omega), if_neg (by omega)] at q0
    exact q0
  unfold X10_all
  rw [hx, show wr 3 = 3 by decide, show wr 1 = 1 by decide, show wr 2 = 2 by decide, show wl (-1) = -1 by decide, show wl (-2) = -2 by decide]
  refine ⟨fun z => hno (by omega), fun z => ⟨fun z2 => ?_, fun z2 => hno (by omega)⟩⟩
  refine X3_howMany_ok hW hR ⟨fun y => ?_, fun y => ⟨fun y2 => ?_, fun y2 => ?_⟩⟩
  · unfold allA at q0
    rw [if_pos y] at q0
    rw [wl_nat (by omega)]; exact q0
  · have y2 := (tot_cmp (sD S)).mp y2
    refine X3_survey_ok hW hR y2 hC (fun w3 s3 c3 o3 => ?_)
    obtain ⟨h3, t3, f3⟩ := sur_st hS h hT o3
    have q3 := hQ w3 h3 t3 c3 f3
    obtain ⟨b1, b2, -, -⟩ := lsK_ok hW (totO (sD S)) (totO_pos _)
    have b3 := mxK_le hW (totO (sD S))
    unfold allA at q3
    rw [if_neg y, if_pos (by omega), if_pos y2] at q3
    rw [s3.1, s3.2.1, s3.2.2.1, wr_nat (n := (lsK (sD S) (totO (sD S))).1) (by omega), wr_nat (n := (lsK (sD S) (totO (sD S))).2) (by omega), wr_nat (n := mxK (sD S) (totO (sD S))) (by omega), wl_nat (n := (lsK (sD S) (totO (sD S))).1) (by omega), wl_nat (n := (lsK (sD S) (totO (sD S))).2) (by omega), wl_nat (n := mxK (sD S) (totO (sD S))) (by omega)]
    refine ⟨fun k => ?_, fun k => ⟨fun k2 => ?_, fun k2 => ?_⟩⟩
    · rw [if_pos k] at q3; exact q3
    · rw [if_neg k, if_pos k2] at q3; exact q3
    · rw [if_neg k, if_neg k2] at q3; exact q3
  · have y2 : ¬ totO (sD S) ≤ 20000 := fun k => y2 ((tot_cmp (sD S)).mpr k)
    unfold allA at q0
    rw [if_neg y, if_pos (by omega), if_neg y2] at q0
    exact q0
theorem needing_X {x : Int} (hS : SOK S) (h : HX w S) (hT : TrOK w S) (hC : SurOK w) (hx : wr x = x) (hQ : ∀ w', HX w' S → TrOK w' S → SurOK w' → offO w w' → Q (neeA (sD S) x) w') : X10_needing x w Q := by
  have hW := hS.1
  have hR : RepX w 1 (sD S) := h.2.2.2.1
  have hb := totO_bd (sD S)
  have q0 := hQ w h hT hC (fun _ _ _ => rfl)
  unfold X10_needing
  rw [hx, show wr 5 = 5 by decide, show wr 0 = 0 by decide, show wr (-2) = -2 by decide]
  refine X3_howMany_ok hW hR ⟨fun y2 => ?_, fun y2 => ?_⟩
  · have y2 := (tot_cmp (sD S)).mp y2
    have hno : ¬ (0 ≤ x ∧ x ≤ 5) → Q 0 w := fun z => by
      unfold neeA at q0
      rw [if_pos y2, if_neg z] at q0
      exact q0
    refine ⟨fun z => hno (by omega), fun z => ⟨fun z2 => ?_, fun z2 => hno (by omega)⟩⟩
    refine X3_survey_ok hW hR y2 hC (fun w3 s3 c3 o3 => ?_)
    obtain ⟨h3, t3, f3⟩ := sur_st hS h hT o3
    have q3 := hQ w3 h3 t3 c3 f3
    have hn := neK_le (D := sD S) x.toNat (totO (sD S))
    unfold neeA at q3
    rw [if_pos y2, if_pos (by omega)] at q3
    rw [rd_of (n := x.toNat) (by omega) (by omega), s3.2.2.2 _ (by omega), wr_nat (by omega)]
    exact ⟨ix_of (n := x.toNat) (by omega) (by omega) (by decide), q3⟩
  · have y2 : ¬ totO (sD S) ≤ 20000 := fun k => y2 ((tot_cmp (sD S)).mpr k)
    unfold neeA at q0
    rw [if_neg y2] at q0
    exact q0
theorem ordered_X {x y z : Int} (hS : SOK S) (h : HX w S) (hx : wr x = x) (hy : wr y = y) (hz : wr z = z) (hQ : Q (ordA (sD S) x y z) w) : X10_ordered x y z w Q := by
  have hW := hS.1
  have n6 := hW.1
  have m10 := hW.2.1
  have hR : RepX w 1 (sD S) := h.2.2.2.1
  have hb := totO_bd (sD S)
  have hxr := wr_rg x
  rw [hx] at hxr
  have hno : ¬ ((0 ≤ x ∧ x < totO (sD S)) ∧ (0 ≤ y ∧ y < dN (sD S)) ∧ (0 ≤ z ∧ z < dG (sD S) y.toNat)) → Q (-1) w := fun k => by
    unfold ordA at hQ
    rw [if_neg k] at hQ
    exact hQ
  unfold X10_ordered
  rw [hx, hz, show wr (-1) = -1 by decide]
  refine ⟨fun k => hno (by omega), fun k => X3_howMany_ok hW hR ?_⟩
  have hc := (lcm_i (a := x) (b := (totO (sD S) : Int)) (wl_id (by omega) (by omega)) (wl_nat (by omega))).2.1
  refine ⟨fun k2 => hno (by have := hc.mp k2; omega), fun k2 => ?_⟩
  have k3 : ¬ (totO (sD S) : Int) ≤ x := fun k3 => k2 (hc.mpr k3)
  refine X1_hasPost_ok hy hR.1 n6 (fun p hp hpn => ⟨fun k => absurd k (by decide), fun _ => ⟨fun k4 => hno (by omega), fun k4 => ?_⟩⟩) (fun hn => ⟨fun _ => hno (fun k5 => hn ⟨y.toNat, by omega, by omega⟩), fun k => absurd (by decide) k⟩)
  have hdp := hW.deg hpn
  subst hp
  rw [rd_of rfl (by omega), hR.2.2.2.2.1 p hpn, wr_nat (n := dG (sD S) p) (by omega)]
  refine ⟨ix_of rfl (by omega) (by decide), fun k5 => ?_, fun k5 => hno (fun k6 => by have := k6.2.2.2; rw [show ((p : Int)).toNat = p by omega] at this; omega)⟩
  unfold ordA at hQ
  rw [if_pos (by rw [show ((p : Int)).toNat = p by omega]; omega), show ((p : Int)).toNat = p by omega] at hQ
  refine X3_lineInOrder_ok x.toNat p z.toNat (by omega) rfl (by omega) (by omega) hW hR hpn (by omega) ?_
  have hWO := dOrd_WF hW x.toNat
  have hrow := (hWO.2.2.2.2.1 p z.toNat hpn (by show z.toNat < dgc (sD S) p; rw [← deg_dgc hW hpn]; omega)).1
  have hrow : dR (dOrd (sD S) x.toNat) p z.toNat < dM (sD S) := hrow
  rw [wr_nat (by omega)]
  exact hQ
theorem lessen_X (hS : SOK S) (h : HX w S) (hC : SurOK w) (h0 : ¬ totO (sD S) ≤ 20000 → Q (-1) w) (h1 : totO (sD S) ≤ 20000 → ∀ w', HX w' (pushS S (dOrd (sD S) (lsK (sD S) (totO (sD S))).2)) → w' 0 17 = 0 → SurOK w' → offO w w' → Q ((lsK (sD S) (totO (sD S))).1 : Int) w') : X10_lessen w Q := by
  have hW := hS.1
  have hR : RepX w 1 (sD S) := h.2.2.2.1
  unfold X10_lessen
  rw [show wr (-1) = -1 by decide]
  refine X3_howMany_ok hW hR ⟨fun y2 => ?_, fun y2 => h0 (fun k => y2 ((tot_cmp (sD S)).mpr k))⟩
  have y2 := (tot_cmp (sD S)).mp y2
  refine X10_keepPast_ok hS h (fun w3 h3 v17 o3 => ?_)
  have hS3 : SOK (pushS S (sD S)) := hS.push hW
  have C3 : SurOK w3 := hC.imp (fun k => by rw [o3 _ _ (by omega)]; exact k) (fun ⟨D, k1, k2, k3⟩ => ⟨D, k1, by rw [o3 _ _ (by omega)]; exact k2, SurA.of k3 (fun c j _ => o3 c j (by omega))⟩)
  refine X3_survey_ok hW h3.2.2.2.1 y2 C3 (fun w4 s4 c4 o4 => ?_)
  obtain ⟨b1, b2, -, -⟩ := lsK_ok hW (totO (sD S)) (totO_pos _)
  have R4 : RepX w4 1 (sD S) := RepX.of h3.2.2.2.1 (fun c j _ _ => o4 c j (by omega))
  have h4 : HX w4 (pushS S (sD S)) := HX.same hS3 h3 (fun c j _ hc => o4 c j (by omega))
  refine X3_setOrder_ok _ s4.2.2.1 (by omega) hW R4 (fun w5 R5 o5 => ?_)
  obtain ⟨wm, hwm⟩ : ∃ wm : Wd, wm = fun c j => if 1 ≤ c ∧ c < 5 then w5 c j else w4 c j := ⟨_, rfl⟩
  have hm : HX wm (setD (pushS S (sD S)) (dOrd (sD S) (lsK (sD S) (totO (sD S))).2)) := HX.setD h4 (RepX.of R5 (fun c j h1 h2 => by rw [hwm]; exact if_pos (by omega))) (fun c j hc => by rw [hwm]; exact if_neg (by omega))
  have h5 : HX w5 (pushS S (dOrd (sD S) (lsK (sD S) (totO (sD S))).2)) := HX.same (S := pushS S (dOrd (sD S) (lsK (sD S) (totO (sD S))).2)) (hS.push (dOrd_WF hW _)) hm (fun c j _ hc => by
    rw [hwm]
    by_cases z : 1 ≤ c ∧ c < 5
    · exact (if_pos z).symm
    · show w5 c j = if 1 ≤ c ∧ c < 5 then w5 c j else w4 c j
      rw [if_neg z, o5 c j (by omega)])
  rw [o5 40 0 (by omega), s4.1, wr_nat (by omega)]
  refine h1 y2 w5 h5 ?_ ?_ (fun c j hc => by rw [o5 c j (by omega), o4 c j (by omega), o3 c j (by omega)])
  · rw [o5 _ _ (by omega), o4 _ _ (by omega)]; exact v17
  · exact c4.imp (fun k => by rw [o5 _ _ (by omega)]; exact k) (fun ⟨D, k1, k2, k3⟩ => ⟨D, k1, by rw [o5 _ _ (by omega)]; exact k2, SurA.of k3 (fun c j hc => o5 c j (by omega))⟩)
end ORDA
