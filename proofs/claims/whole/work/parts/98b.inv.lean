/-! THE LAW'S LOOP: the invariant, and each call of both -/
def Inv (w : Wd) (S : Sg) : Prop := SOK S ∧ HX w S ∧ TrOK w S ∧ SurOK w ∧ CapOK w ∧ HM w S
theorem sur_of {w w' : Wd} (h : SurOK w) (o : ∀ c j, c = 40 ∨ c = 41 → w' c j = w c j) : SurOK w' := by
  rcases h with h | ⟨D, h1, h2, h3⟩
  · exact Or.inl (by rw [o _ _ (by omega)]; exact h)
  · exact Or.inr ⟨D, h1, by rw [o _ _ (by omega)]; exact h2, h3.of (fun c j hc => o c j (by omega))⟩
theorem cap_of {w w' : Wd} (h : CapOK w) (o : ∀ c j, c = 40 ∧ (j = 7 ∨ j = 8) → w' c j = w c j) : CapOK w' := by
  rcases h with h | ⟨D, h1, h2, h3⟩
  · exact Or.inl (by rw [o _ _ (by omega)]; exact h)
  · exact Or.inr ⟨D, h1, by rw [o _ _ (by omega)]; exact h2, by rw [o _ _ (by omega)]; exact h3⟩
theorem hm_hi {w w' : Wd} {S : Sg} (hS : SOK S) (h : HM w S) (o : ∀ c j, 65 ≤ c → w' c j = w c j) : HM w' S := HM.same hS h (fun c j hc => o c j (by omega))
theorem inv_of {w1 w2 : Wd} {S : Sg} (hS : SOK S) (hX : HX w1 S) (hT : TrOK w1 S) (hC : SurOK w1) (hP : CapOK w1) (l : loM w1 w2) (hM : HM w2 S) : Inv w2 S := by
  refine ⟨hS, HX.same hS hX (fun c j _ b => l c j (by omega)), ?_, sur_of hC (fun c j hc => l c j (by omega)), cap_of hP (fun c j hc => l c j (by omega)), hM⟩
  rcases hT with k | k
  · exact Or.inl (by rw [l _ _ (by omega)]; exact k)
  · exact Or.inr (k.of (fun c j a b => l c j (by omega)))
theorem lo_rfl (w : Wd) : loM w w := fun _ _ _ => rfl
theorem go_eq {k e : Wd → Prop} {y y' : Int} {w : Wd} (h : y = y') (g : k w) : (wr y = wr y' → k w) ∧ (¬ wr y = wr y' → e w) := by
  subst h
  exact ⟨fun _ => g, fun n => absurd rfl n⟩
theorem tr_0 {w : Wd} {S : Sg} (h : w 0 17 = 0) : TrOK w S := Or.inl (by rw [h]; decide)
section BOTH
variable {w : Wd} {S : Sg} {k e : Wd → Prop} {x y : Int}
theorem line_B (hI : Inv w S) (hx : wr x = x) (hy : wr y = y) (K : ∀ w' S', Inv w' S' → k w') : X10_line x y w (fun a w2 => X11_line x y w2 (fun b w4 => (wr a = wr b → k w4) ∧ (¬ wr a = wr b → e w4))) := by
  obtain ⟨hS, hX, hT, hC, hP, hM⟩ := hI
  exact line_X hS hX hT hx hy (fun w1 X1 T1 o => line_M hS (hm_hi hS hM (fun c j hc => o c j (by omega))) hx hy (fun w2 M2 l => go_eq rfl (K w2 S (inv_of hS X1 T1 (sur_of hC (fun c j hc => o c j (by omega))) (cap_of hP (fun c j hc => o c j (by omega))) l M2))))
theorem face_B (hI : Inv w S) (hx : wr x = x) (hy : wr y = y) (K : ∀ w' S', Inv w' S' → k w') : X10_face x y w (fun a w2 => X11_face x y w2 (fun b w4 => (wr a = wr b → k w4) ∧ (¬ wr a = wr b → e w4))) := by
  obtain ⟨hS, hX, hT, hC, hP, hM⟩ := hI
  exact face_X hS hX hT hx hy (fun w1 X1 T1 o => face_M hS (hm_hi hS hM (fun c j hc => o c j (by omega))) hx hy (fun w2 M2 l => go_eq rfl (K w2 S (inv_of hS X1 T1 (sur_of hC (fun c j hc => o c j (by omega))) (cap_of hP (fun c j hc => o c j (by omega))) l M2))))
theorem without_B (hI : Inv w S) (hx : wr x = x) (hy : wr y = y) (K : ∀ w' S', Inv w' S' → k w') : X10_without x y w (fun a w2 => X11_without x y w2 (fun b w4 => (wr a = wr b → k w4) ∧ (¬ wr a = wr b → e w4))) := by
  obtain ⟨hS, hX, hT, hC, hP, hM⟩ := hI
  exact without_X hS hX hT hx hy (fun w1 X1 T1 o => without_M hS (hm_hi hS hM (fun c j hc => o c j (by omega))) hx hy (fun w2 M2 l => go_eq rfl (K w2 S (inv_of hS X1 T1 (sur_of hC (fun c j hc => o c j (by omega))) (cap_of hP (fun c j hc => o c j (by omega))) l M2))))
theorem surface_B (hI : Inv w S) (hx : wr x = x) (K : ∀ w' S', Inv w' S' → k w') : X10_surface x w (fun a w2 => X11_surface x w2 (fun b w4 => (wr a = wr b → k w4) ∧ (¬ wr a = wr b → e w4))) := by
  obtain ⟨hS, hX, hT, hC, hP, hM⟩ := hI
  exact surface_X hS hX hT hx (fun w1 X1 T1 o => surface_M hS (hm_hi hS hM (fun c j hc => o c j (by omega))) hx (fun w2 M2 l => go_eq rfl (K w2 S (inv_of hS X1 T1 (sur_of hC (fun c j hc => o c j (by omega))) (cap_of hP (fun c j hc => o c j (by omega))) l M2))))
theorem beside_B (hI : Inv w S) (hx : wr x = x) (K : ∀ w' S', Inv w' S' → k w') : X10_beside x w (fun a w2 => X11_beside x w2 (fun b w4 => (wr a = wr b → k w4) ∧ (¬ wr a = wr b → e w4))) := by
  obtain ⟨hS, hX, hT, hC, hP, hM⟩ := hI
  exact beside_X hS hX hT hx (fun w1 r R X1 T1 o => beside_M hS (hm_hi hS hM (fun c j hc => o c j (by omega))) hx (fun w2 r' R' M2 l => go_eq (R.uq R') (K w2 S (inv_of hS X1 T1 (sur_of hC (fun c j hc => o c j (by omega))) (cap_of hP (fun c j hc => o c j (by omega))) l M2))))
theorem colours_B (hI : Inv w S) (K : ∀ w' S', Inv w' S' → k w') : X10_colours w (fun a w2 => X11_colours w2 (fun b w4 => (wr a = wr b → k w4) ∧ (¬ wr a = wr b → e w4))) := by
  obtain ⟨hS, hX, hT, hC, hP, hM⟩ := hI
  exact colours_X hS hX hT (fun w1 r R X1 T1 o => colours_M hS (hm_hi hS hM (fun c j hc => o c j (by omega))) (fun w2 r' R' M2 l => go_eq (R.uq R') (K w2 S (inv_of hS X1 T1 (sur_of hC (fun c j hc => o c j (by omega))) (cap_of hP (fun c j hc => o c j (by omega))) l M2))))
theorem count_B (hI : Inv w S) (K : ∀ w' S', Inv w' S' → k w') : X10_count x w (fun a w2 => X11_count x w2 (fun b w4 => (wr a = wr b → k w4) ∧ (¬ wr a = wr b → e w4))) := by
  obtain ⟨hS, hX, hT, hC, hP, hM⟩ := hI
  exact count_X hS hX hT (fun w1 r R X1 T1 o => count_M hS (hm_hi hS hM (fun c j hc => o c j (by omega))) (fun w2 r' R' M2 l => go_eq (R.uq R') (K w2 S (inv_of hS X1 T1 (sur_of hC (fun c j hc => o c j (by omega))) (cap_of hP (fun c j hc => o c j (by omega))) l M2))))
theorem bound_B (hI : Inv w S) (hx : wr x = x) (K : ∀ w' S', Inv w' S' → k w') : X10_bound x w (fun a w2 => X11_bound x w2 (fun b w4 => (wr a = wr b → k w4) ∧ (¬ wr a = wr b → e w4))) := by
  obtain ⟨hS, hX, hT, hC, hP, hM⟩ := id hI
  have bn : ∀ g, ¬ (x = 0 ∨ x = 1) → bouA (sD S) g x = -1 := fun g z => by
    unfold bouA
    rw [if_neg (fun q => z (Or.inl q)), if_neg (fun q => z (Or.inr q))]
  refine bound_X hS hX hT hx (fun w1 g G X1 T1 o => ?_) (fun z => bound_M hS hM hx (fun w2 g' G' M2 l => go_eq (bn g' z).symm (K w2 S (inv_of hS hX hT hC hP l M2))) (fun _ => go_eq rfl (K w S hI)))
  have I1 : Inv w1 S := inv_of hS X1 T1 (sur_of hC (fun c j hc => o c j (by omega))) (cap_of hP (fun c j hc => o c j (by omega))) (lo_rfl w1) (hm_hi hS hM (fun c j hc => o c j (by omega)))
  exact bound_M hS I1.2.2.2.2.2 hx (fun w2 g' G' M2 l => go_eq (by rw [G.uq G']) (K w2 S (inv_of hS X1 T1 I1.2.2.2.1 I1.2.2.2.2.1 l M2))) (fun z => go_eq (bn g z) (K w1 S I1))
theorem like_B (hI : Inv w S) (hx : wr x = x) (K : ∀ w' S', Inv w' S' → k w') : X10_like x w (fun a w2 => X11_like x w2 (fun b w4 => (wr a = wr b → k w4) ∧ (¬ wr a = wr b → e w4))) := by
  obtain ⟨hS, hX, hT, hC, hP, hM⟩ := id hI
  refine like_X hS hX hT hx (fun n => like_M hS hM hx (fun _ => go_eq rfl (K w S hI)) (fun D h => absurd h (n D))) (fun D h w1 X1 T1 o => like_M hS (hm_hi hS hM (fun c j hc => o c j (by omega))) hx (fun n => absurd h (n D)) (fun D' h' w2 M2 l => go_eq ?_ (K w2 S (inv_of hS X1 T1 (sur_of hC (fun c j hc => o c j (by omega))) (cap_of hP (fun c j hc => o c j (by omega))) l M2))))
  obtain ⟨s, a1, a2, a3⟩ := h
  obtain ⟨s', b1, b2, b3⟩ := h'
  have : s = s' := by omega
  subst this
  rw [a3] at b3
  cases b3
  rfl
theorem goes_B (hI : Inv w S) (hx : wr x = x) (K : ∀ w' S', Inv w' S' → k w') : X10_goes x w (fun a w2 => X11_goes x w2 (fun b w4 => (wr a = wr b → k w4) ∧ (¬ wr a = wr b → e w4))) := by
  obtain ⟨hS, hX, hT, hC, hP, hM⟩ := id hI
  refine goes_X hS hX hx (fun n => goes_M hS hM hx (fun _ => go_eq rfl (K w S hI)) (fun a b c => absurd ⟨a, b, c⟩ n)) (fun a b c w1 X1 t1 o => goes_M hS (hm_hi hS hM (fun c j hc => o c j (by omega))) hx (fun n => absurd ⟨a, b, c⟩ n) (fun a' b' c' w2 M2 l => go_eq rfl ?_))
  have : a = a' := by omega
  subst this
  exact K w2 _ (inv_of (hS.push (dDel_WF hS.1 c)) X1 (tr_0 t1) (sur_of hC (fun c j hc => o c j (by omega))) (cap_of hP (fun c j hc => o c j (by omega))) l M2)
theorem twist_B (hI : Inv w S) (hx : wr x = x) (K : ∀ w' S', Inv w' S' → k w') : X10_twist x w (fun a w2 => X11_twist x w2 (fun b w4 => (wr a = wr b → k w4) ∧ (¬ wr a = wr b → e w4))) := by
  obtain ⟨hS, hX, hT, hC, hP, hM⟩ := id hI
  refine twist_X hS hX hx (fun n => twist_M hS hM hx (fun _ => go_eq rfl (K w S hI)) (fun a b c => absurd ⟨a, b, c⟩ n)) (fun a b c w1 X1 t1 o => twist_M hS (hm_hi hS hM (fun c j hc => o c j (by omega))) hx (fun n => absurd ⟨a, b, c⟩ n) (fun a' b' c' w2 M2 l => go_eq rfl ?_))
  have : a = a' := by omega
  subst this
  exact K w2 _ (inv_of (hS.push (dTw_WF hS.1 a)) X1 (tr_0 t1) (sur_of hC (fun c j hc => o c j (by omega))) (cap_of hP (fun c j hc => o c j (by omega))) l M2)
theorem flip_B (hI : Inv w S) (hx : wr x = x) (K : ∀ w' S', Inv w' S' → k w') : X10_flip x w (fun a w2 => X11_flip x w2 (fun b w4 => (wr a = wr b → k w4) ∧ (¬ wr a = wr b → e w4))) := by
  obtain ⟨hS, hX, hT, hC, hP, hM⟩ := id hI
  refine flip_X hS hX hx (fun n => flip_M hS hM hx (fun _ => go_eq rfl (K w S hI)) (fun a b c => absurd ⟨a, b, c⟩ n)) (fun a b c w1 X1 t1 o => flip_M hS (hm_hi hS hM (fun c j hc => o c j (by omega))) hx (fun n => absurd ⟨a, b, c⟩ n) (fun a' b' c' w2 M2 l => go_eq rfl ?_))
  have : a = a' := by omega
  subst this
  exact K w2 _ (inv_of (hS.push (dFlip_WF hS.1)) X1 (tr_0 t1) (sur_of hC (fun c j hc => o c j (by omega))) (cap_of hP (fun c j hc => o c j (by omega))) l M2)
theorem undo_B (hI : Inv w S) (K : ∀ w' S', Inv w' S' → k w') : X10_undo w (fun a w2 => X11_undo w2 (fun b w4 => (wr a = wr b → k w4) ∧ (¬ wr a = wr b → e w4))) := by
  obtain ⟨hS, hX, hT, hC, hP, hM⟩ := id hI
  exact undo_X hS hX (fun n => undo_M hS hM (fun _ => go_eq rfl (K w S hI)) (fun a => absurd n a)) (fun a w1 X1 t1 o => undo_M hS (hm_hi hS hM (fun c j hc => o c j (by omega))) (fun n => absurd n a) (fun _ w2 M2 l => go_eq rfl (K w2 _ (inv_of (hS.pop a) X1 (tr_0 t1) (sur_of hC (fun c j hc => o c j (by omega))) (cap_of hP (fun c j hc => o c j (by omega))) l M2))))
theorem place_B (hI : Inv w S) (K : ∀ w' S', Inv w' S' → k w') : X10_place w (fun a w2 => X11_place w2 (fun b w4 => (wr a = wr b → k w4) ∧ (¬ wr a = wr b → e w4))) := by
  obtain ⟨hS, hX, hT, hC, hP, hM⟩ := id hI
  exact place_X hS hX (place_M hS hM (go_eq rfl (K w S hI)))
theorem round_B (hI : Inv w S) (hx : wr x = x) (hy : wr y = y) (K : ∀ w' S', Inv w' S' → k w') : X10_round x y w (fun a w2 => X11_round x y w2 (fun b w4 => (wr a = wr b → k w4) ∧ (¬ wr a = wr b → e w4))) := by
  obtain ⟨hS, hX, hT, hC, hP, hM⟩ := id hI
  exact round_X hS hX hx hy (round_M hS hM hx hy (go_eq rfl (K w S hI)))
theorem read_B (hI : Inv w S) (K : ∀ w' S', Inv w' S' → k w') : X10_read w (fun a w2 => X11_read w2 (fun b w4 => (wr a = wr b → k w4) ∧ (¬ wr a = wr b → e w4))) := by
  obtain ⟨hS, hX, hT, hC, hP, hM⟩ := id hI
  refine read_X hS hX hT (fun w1 f p D R X1 T1 o => read_M hS (hm_hi hS hM (fun c j hc => o c j (by omega))) (fun w2 f' p' D' R' M2 l => ?_))
  obtain ⟨e1, e2, e3⟩ := R.uq R'
  subst e1; subst e2
  have er : rdS S f p D' = rdS S f p D := by
    unfold rdS
    by_cases z : f = 0
    · rw [if_pos z, if_pos z, e3 z]
    · rw [if_neg z, if_neg z]
  rw [er] at M2
  exact go_eq rfl (K w2 _ (inv_of (hS.rd R) X1 T1 (sur_of hC (fun c j hc => o c j (by omega))) (cap_of hP (fun c j hc => o c j (by omega))) l M2))
theorem xch_B (hI : Inv w S) (hx : wr x = x) (hy : wr y = y) (K : ∀ w' S', Inv w' S' → k w') : X10_exchange x y w (fun a w2 => X11_exchange x y w2 (fun b w4 => (wr a = wr b → k w4) ∧ (¬ wr a = wr b → e w4))) := by
  obtain ⟨hS, hX, hT, hC, hP, hM⟩ := id hI
  refine xch_X hS hX hx hy (fun n => xch_M hS hM hx hy (fun _ => go_eq rfl (K w S hI)) (fun p i a b c d q => absurd q n)) (fun p i a b c d q w1 X1 t1 o => xch_M hS (hm_hi hS hM (fun c j hc => o c j (by omega))) hx hy (fun n => absurd q n) (fun p' i' a' b' c' d' q' w2 M2 l => go_eq rfl ?_))
  have e1 : p = p' := by omega
  have e2 : i = i' := by omega
  subst e1; subst e2
  exact K w2 _ (inv_of (hS.push (dXch_WF hS.1 d)) X1 (tr_0 t1) (sur_of hC (fun c j hc => o c j (by omega))) (cap_of hP (fun c j hc => o c j (by omega))) l M2)
theorem shr_B (hI : Inv w S) (hx : wr x = x) (K : ∀ w' S', Inv w' S' → k w') : X10_shrink x w (fun a w2 => X11_shrink x w2 (fun b w4 => (wr a = wr b → k w4) ∧ (¬ wr a = wr b → e w4))) := by
  obtain ⟨hS, hX, hT, hC, hP, hM⟩ := id hI
  by_cases z : Sok (sD S) x
  · refine shr_X hS hX hx (fun n => absurd z n) (fun a b c d w1 X1 t1 o => shr_M hS (hm_hi hS hM (fun c j hc => o c j (by omega))) hx (fun n => absurd z n) (fun a' b' c' d' w2 M2 l => go_eq rfl ?_))
    have : a = a' := by omega
    subst this
    exact K w2 _ (inv_of (hS.push (dShr_WF hS.1 c d)) X1 (tr_0 t1) (sur_of hC (fun c j hc => o c j (by omega))) (cap_of hP (fun c j hc => o c j (by omega))) l M2)
  · refine shr_X hS hX hx (fun n => shr_M hS hM hx (fun _ => go_eq rfl (K w S hI)) (fun a b c d => absurd ⟨a, b, c, d⟩ z)) (fun a b c d => absurd ⟨a, b, c, d⟩ z)
theorem lay_B {a i b j t : Int} (hI : Inv w S) (ha : wr a = a) (hi : wr i = i) (hb : wr b = b) (hj : wr j = j) (K : ∀ w' S', Inv w' S' → k w') : X10_lay a i b j t w (fun y w2 => X11_lay a i b j t w2 (fun z w4 => (wr y = wr z → k w4) ∧ (¬ wr y = wr z → e w4))) := by
  obtain ⟨hS, hX, hT, hC, hP, hM⟩ := id hI
  refine lay_X hS hX ha hi hb hj (fun n => lay_M hS hM ha hi hb hj (fun _ => go_eq rfl (K w S hI)) (fun p k q l c1 c2 c3 c4 q' => absurd q' n)) (fun p k q l c1 c2 c3 c4 q' w1 X1 W1 t1 o => lay_M hS (hm_hi hS hM (fun c j hc => o c j (by omega))) ha hi hb hj (fun n => absurd q' n) (fun p' k' q2 l' d1 d2 d3 d4 q3 w2 M2 lo => go_eq rfl ?_))
  have e1 : p = p' := by omega
  have e2 : k = k' := by omega
  have e3 : q = q2 := by omega
  have e4 : l = l' := by omega
  subst e1; subst e2; subst e3; subst e4
  exact K w2 _ (inv_of (hS.push W1) X1 (tr_0 t1) (sur_of hC (fun c j hc => o c j (by omega))) (cap_of hP (fun c j hc => o c j (by omega))) lo M2)
theorem hold_B (hI : Inv w S) (hx : wr x = x) (K : ∀ w' S', Inv w' S' → k w') : X10_hold x w (fun a w2 => X11_hold x w2 (fun b w4 => (wr a = wr b → k w4) ∧ (¬ wr a = wr b → e w4))) := by
  obtain ⟨hS, hX, hT, hC, hP, hM⟩ := id hI
  refine hold_X hS hX hx (fun n => hold_M hS hM hx (fun _ => go_eq rfl (K w S hI)) (fun a b c => absurd ⟨a, b, c⟩ n)) (fun a b c w1 X1 t1 o => hold_M hS (hm_hi hS hM (fun c j hc => o c j (by omega) (by omega))) hx (fun n => absurd ⟨a, b, c⟩ n) (fun a' b' c' w2 M2 l => go_eq rfl ?_))
  have : a = a' := by omega
  subst this
  refine K w2 _ (inv_of (hS.hold a) X1 ?_ (sur_of hC (fun c j hc => o c j (by omega) (by omega))) (cap_of hP (fun c j hc => o c j (by omega) (by omega))) l M2)
  rcases hT with q | q
  · exact Or.inl (by rw [t1]; exact q)
  · exact Or.inr (q.of (fun c j a b => o c j (by omega) (by omega)))
theorem restore_B (hI : Inv w S) (hx : wr x = x) (K : ∀ w' S', Inv w' S' → k w') : X10_restore x w (fun a w2 => X11_restore x w2 (fun b w4 => (wr a = wr b → k w4) ∧ (¬ wr a = wr b → e w4))) := by
  obtain ⟨hS, hX, hT, hC, hP, hM⟩ := id hI
  refine restore_X hS hX hx (fun n => restore_M hS hM hx (fun _ => go_eq rfl (K w S hI)) (fun D h _ => absurd h (n D))) (fun D h W w1 X1 t1 o => restore_M hS (hm_hi hS hM (fun c j hc => o c j (by omega))) hx (fun n => absurd h (n D)) (fun D' h' W' w2 M2 l => go_eq rfl ?_))
  have : D' = D := by
    obtain ⟨s, a1, a2, a3⟩ := h
    obtain ⟨s', b1, b2, b3⟩ := h'
    have : s = s' := by omega
    subst this
    rw [a3] at b3
    cases b3
    rfl
  rw [this] at M2
  exact K w2 _ (inv_of (hS.back W) X1 (tr_0 t1) (sur_of hC (fun c j hc => o c j (by omega))) (cap_of hP (fun c j hc => o c j (by omega))) l M2)
theorem dual_B (hI : Inv w S) (K : ∀ w' S', Inv w' S' → k w') : X10_dual w (fun a w2 => X11_dual w2 (fun b w4 => (wr a = wr b → k w4) ∧ (¬ wr a = wr b → e w4))) := by
  obtain ⟨hS, hX, hT, hC, hP, hM⟩ := id hI
  refine dual_X hS hX hT (fun n w1 X1 T1 o => dual_M hS (hm_hi hS hM (fun c j hc => o c j (by omega))) (fun _ w2 M2 l => go_eq rfl (K w2 S (inv_of hS X1 T1 (sur_of hC (fun c j hc => o c j (by omega))) (cap_of hP (fun c j hc => o c j (by omega))) l M2))) (fun q => absurd q n)) (fun q w1 X1 t1 o => dual_M hS (hm_hi hS hM (fun c j hc => o c j (by omega))) (fun n => absurd q n) (fun _ w2 M2 l => go_eq rfl (K w2 _ (inv_of (hS.push (dDual_WF hS.1 q)) X1 (tr_0 t1) (sur_of hC (fun c j hc => o c j (by omega))) (cap_of hP (fun c j hc => o c j (by omega))) l M2))))
theorem lessen_B (hI : Inv w S) (K : ∀ w' S', Inv w' S' → k w') : X10_lessen w (fun a w2 => X11_lessen w2 (fun b w4 => (wr a = wr b → k w4) ∧ (¬ wr a = wr b → e w4))) := by
  obtain ⟨hS, hX, hT, hC, hP, hM⟩ := id hI
  exact lessen_X hS hX hC (fun n => lessen_M hS hM (fun _ => go_eq rfl (K w S hI)) (fun q => absurd q n)) (fun q w1 X1 t1 C1 o => lessen_M hS (hm_hi hS hM (fun c j hc => o c j (by omega))) (fun n => absurd q n) (fun _ w2 M2 l => go_eq rfl (K w2 _ (inv_of (hS.push (dOrd_WF hS.1 _)) X1 (tr_0 t1) C1 (cap_of hP (fun c j hc => o c j (by omega))) l M2))))
theorem capped_B (hI : Inv w S) (K : ∀ w' S', Inv w' S' → k w') : X10_capped w (fun a w2 => X11_capped w2 (fun b w4 => (wr a = wr b → k w4) ∧ (¬ wr a = wr b → e w4))) := by
  obtain ⟨hS, hX, hT, hC, hP, hM⟩ := id hI
  exact capped_X hS hX hT hC hP (fun w1 X1 T1 C1 P1 o => capped_M hS (hm_hi hS hM o) (fun w2 M2 l => go_eq rfl (K w2 S (inv_of hS X1 T1 C1 P1 l M2))))
theorem needing_B (hI : Inv w S) (hx : wr x = x) (K : ∀ w' S', Inv w' S' → k w') : X10_needing x w (fun a w2 => X11_needing x w2 (fun b w4 => (wr a = wr b → k w4) ∧ (¬ wr a = wr b → e w4))) := by
  obtain ⟨hS, hX, hT, hC, hP, hM⟩ := id hI
  exact needing_X hS hX hT hC hx (fun w1 X1 T1 C1 o => needing_M hS (hm_hi hS hM (fun c j hc => o c j (by omega))) hx (fun w2 M2 l => go_eq rfl (K w2 S (inv_of hS X1 T1 C1 (cap_of hP (fun c j hc => o c j (by omega))) l M2))))
theorem all_B (hI : Inv w S) (hx : wr x = x) (K : ∀ w' S', Inv w' S' → k w') : X10_all x w (fun a w2 => X11_all x w2 (fun b w4 => (wr (lcm a b) = 0 → k w4) ∧ (¬ wr (lcm a b) = 0 → e w4))) := by
  obtain ⟨hS, hX, hT, hC, hP, hM⟩ := id hI
  refine all_X hS hX hT hC hx (fun w1 X1 T1 C1 o => all_M hS (hm_hi hS hM (fun c j hc => o c j (by omega))) hx (fun w2 M2 l => ⟨fun _ => K w2 S (inv_of hS X1 T1 C1 (cap_of hP (fun c j hc => o c j (by omega))) l M2), fun n => absurd ?_ n⟩))
  rw [lcm_v, if_neg (by omega), if_pos rfl]
theorem ordered_B {z : Int} (hI : Inv w S) (hx : wr x = x) (hy : wr y = y) (hz : wr z = z) (K : ∀ w' S', Inv w' S' → k w') : X10_ordered x y z w (fun a w2 => X11_ordered x y z w2 (fun b w4 => (wr a = wr b → k w4) ∧ (¬ wr a = wr b → e w4))) := by
  obtain ⟨hS, hX, hT, hC, hP, hM⟩ := id hI
  exact ordered_X hS hX hx hy hz (ordered_M hS hM hx hy hz (fun w2 M2 l => go_eq rfl (K w2 S (inv_of hS hX hT hC hP l M2))))
theorem feed_B {a b c d f : Int} (hI : Inv w S) (K : ∀ w' S', Inv w' S' → k w') : X10_feed a b c d f w (fun y w2 => X11_feed a b c d f w2 (fun z w4 => (wr y = wr z → k w4) ∧ (¬ wr y = wr z → e w4))) := by
  obtain ⟨hS, hX, hT, hC, hP, hM⟩ := id hI
  refine feed_X hS hX (fun n => feed_M hS hM (fun _ => go_eq rfl (K w S hI)) (fun q => absurd q n)) (fun q w1 X1 o => feed_M hS (hm_hi hS hM (fun c j hc => o c j (by omega) (by omega))) (fun n => absurd q n) (fun _ w2 M2 l => go_eq rfl (K w2 _ (inv_of (hS.fed q) X1 ?_ (sur_of hC (fun c j hc => o c j (by omega) (by omega))) (cap_of hP (fun c j hc => o c j (by omega) (by omega))) l M2))))
  rcases hT with r | r
  · exact Or.inl (by rw [o _ _ (by omega) (by omega)]; exact r)
  · exact Or.inr (r.of (fun c j a b => o c j (by omega) (by omega)))
theorem back_B (hI : Inv w S) (hx : wr x = x) (K : ∀ w' S', Inv w' S' → k w') : X10_back x w (fun a w2 => X11_back x w2 (fun b w4 => (wr a = wr b → k w4) ∧ (¬ wr a = wr b → e w4))) := by
  obtain ⟨hS, hX, hT, hC, hP, hM⟩ := id hI
  refine back_X hS hX hx (fun n => back_M hS hM hx (fun _ => go_eq rfl (K w S hI)) (fun a b c => absurd ⟨a, b, c⟩ n)) (fun a b c w1 X1 o => back_M hS (hm_hi hS hM (fun c j hc => o c j (by omega))) hx (fun n => absurd ⟨a, b, c⟩ n) (fun a' b' c' w2 M2 l => go_eq (by rw [show a = a' by omega]) ?_))
  have : a = a' := by omega
  subst this
  refine K w2 _ (inv_of (hS.cut a) X1 ?_ (sur_of hC (fun c j hc => o c j (by omega))) (cap_of hP (fun c j hc => o c j (by omega))) l M2)
  rcases hT with r | r
  · exact Or.inl (by rw [o _ _ (by omega)]; exact r)
  · exact Or.inr (r.of (fun c j a b => o c j (by omega)))
end BOTH
