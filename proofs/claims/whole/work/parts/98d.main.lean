/-! WHAT THE LAW ASKS: pure_main -/
def D00 : Dw := (0, 0, (fun _ => 0), (fun _ => false), (fun _ => 0), (fun _ _ => 0))
def S00 : Sg := (0, (fun _ => 0), -1, D00, 0, (fun _ => D00), (fun _ => none))
def appA (y x : Int) : Int := if wr x = 0 then wl y else wl ((27 * y) + (wr ((x - 97) + 1)))
theorem app_ok {Q : Int → Wd → Prop} {w : Wd} {y x : Int} (h : Q (appA y x) w) : X11_appends y x w Q := by
  unfold X11_appends
  unfold appA at h
  by_cases z : wr x = 0
  · rw [if_pos z] at h; exact ⟨fun _ => h, fun k => absurd z k⟩
  · rw [if_neg z] at h; exact ⟨fun k => absurd k z, fun _ => h⟩
theorem letters_ok {Q : Int → Wd → Prop} {w : Wd} {a b c d e f g v : Int} (hv : wl (appA (appA (appA (appA (appA (appA (appA 0 a) b) c) d) e) f) g) = v) (h : Q v w) : X11_letters a b c d e f g w Q := by
  subst hv
  unfold X11_letters
  exact app_ok (app_ok (app_ok (app_ok (app_ok (app_ok (app_ok h))))))
theorem D00_WF : WF D00 := ⟨by decide, by decide, fun i hi => absurd hi (Nat.not_lt_zero i), fun i hi => absurd hi (Nat.not_lt_zero i), fun p i hp => absurd hp (Nat.not_lt_zero p), fun p i j hp => absurd hp (Nat.not_lt_zero p), fun p e hp => absurd hp (Nat.not_lt_zero p)⟩
theorem inv_start {w : Wd} (o : ∀ c j, c ≠ 72 → w c j = w0 c j) (h : w 72 0 = 326396 ∧ w 72 1 = 243140 ∧ w 72 2 = 8083606306 ∧ w 72 3 = 9876874) : Inv w S00 := by
  have e : ∀ c j v, c ≠ 72 → w0 c j = v → w c j = v := fun c j v a b => by rw [o c j a]; exact b
  refine ⟨⟨D00_WF, by decide, fun i hi => absurd hi (Nat.not_lt_zero i), fun s _ D k => by exact absurd k (by show ¬ (none : Option Dw) = some D; exact fun q => by cases q), by decide, fun i hi => absurd hi (Nat.not_lt_zero i), by decide, by decide⟩, ⟨e _ _ _ (by decide) rfl, fun i hi => absurd hi (Nat.not_lt_zero i), e _ _ _ (by decide) rfl, ⟨e _ _ _ (by decide) rfl, e _ _ _ (by decide) rfl, ⟨0, e _ _ _ (by decide) rfl, by decide, fun i => by rw [Nat.zero_testBit]; show false = (decide (i < 0) && false); rw [Bool.and_false]⟩, fun i hi => absurd hi (Nat.not_lt_zero i), fun i hi => absurd hi (Nat.not_lt_zero i), fun p i hp => absurd hp (Nat.not_lt_zero p)⟩, e _ _ _ (by decide) rfl, e _ _ _ (by decide) rfl, e _ _ _ (by decide) rfl, ⟨0, by decide, e _ _ _ (by decide) rfl, fun i hi => absurd hi (Nat.not_lt_zero i)⟩, ⟨0, by decide, e _ _ _ (by decide) rfl, fun s _ => by rw [Nat.zero_testBit]; rfl⟩, fun s _ D k => by exact absurd k (by show ¬ (none : Option Dw) = some D; exact fun q => by cases q)⟩, tr_0 (e _ _ _ (by decide) rfl), Or.inl (e _ _ _ (by decide) rfl), Or.inl (e _ _ _ (by decide) rfl), ⟨e _ _ _ (by decide) rfl, fun i hi => absurd hi (Nat.not_lt_zero i), e _ _ _ (by decide) rfl, ⟨e _ _ _ (by decide) rfl, e _ _ _ (by decide) rfl, fun i hi => absurd hi (Nat.not_lt_zero i), fun i hi => absurd hi (Nat.not_lt_zero i), fun i hi => absurd hi (Nat.not_lt_zero i), fun p i hp => absurd hp (Nat.not_lt_zero p)⟩, e _ _ _ (by decide) rfl, ⟨0, by decide, e _ _ _ (by decide) rfl, fun i hi => absurd hi (Nat.not_lt_zero i)⟩, fun s hs => e _ _ _ (by decide) (wz 78 s rfl), fun s _ D k => by exact absurd k (by show ¬ (none : Option Dw) = some D; exact fun q => by cases q), h⟩⟩
/-- WHAT WAS LEFT: a matter of numbers -/
theorem pure_main (xs : Nat → Int32) (L : Nat) (hL : L ≤ 3072) : X11_keys (law_wp xs L) := by
  unfold X11_keys
  refine letters_ok (v := 326396) (by decide +kernel) ⟨ix_of (n := 0) rfl (by decide) (by decide), fun w1 e1 => letters_ok (v := 243140) (by decide +kernel) ⟨ix_of (n := 1) rfl (by decide) (by decide), fun w2 e2 => letters_ok (v := 8083606306) (by decide +kernel) ⟨ix_of (n := 2) rfl (by decide) (by decide), fun w3 e3 => letters_ok (v := 9876874) (by decide +kernel) ⟨ix_of (n := 3) rfl (by decide) (by decide), fun w4 e4 => ?_⟩⟩⟩⟩
  rw [wt_of (x := 0) (n := 0) rfl (by decide)] at e1
  rw [wt_of (x := 1) (n := 1) rfl (by decide)] at e2
  rw [wt_of (x := 2) (n := 2) rfl (by decide)] at e3
  rw [wt_of (x := 3) (n := 3) rfl (by decide)] at e4
  have hI : Inv w4 S00 := by
    refine inv_start (fun c j hc => ?_) ⟨?_, ?_, ?_, ?_⟩
    · rw [e4, up_ap, if_neg (by omega), e3, up_ap, if_neg (by omega), e2, up_ap, if_neg (by omega), e1, up_ap, if_neg (by omega)]
    · rw [e4, up_ap, if_neg (by omega), e3, up_ap, if_neg (by omega), e2, up_ap, if_neg (by omega), e1, up_eq]
    · rw [e4, up_ap, if_neg (by omega), e3, up_ap, if_neg (by omega), e2, up_eq]
    · rw [e4, up_ap, if_neg (by omega), e3, up_eq]
    · rw [e4, up_eq]
  unfold law_wp
  exact ⟨L + 7, law_loop xs L hL (fun _ => trivial) (L + 7) 0 w4 S00 hI (by omega) (by omega)⟩
