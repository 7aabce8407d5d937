/-! THE LAW'S LOOP -/
theorem wi (x : Int32) : wr x.toInt = x.toInt := by
  unfold wr
  rw [oi]
theorem law_loop (xs : Nat → Int32) (L : Nat) (hL : L ≤ 3072) {e225 e248 e261 e274 e353 e376 e399 e422 e455 e468 e481 e504 e517 e550 e583 e616 e639 e663 e686 e729 e742 e765 e798 e821 e834 e857 e880 e903 e926 e934 : Wd → Prop} (hE : ∀ w, e934 w) : ∀ (m x : Nat) (w : Wd) (S : Sg), Inv w S → x ≤ L + 6 → L + 6 - x < m → L_law_l18 xs L e225 e248 e261 e274 e353 e376 e399 e422 e455 e468 e481 e504 e517 e550 e583 e616 e639 e663 e686 e729 e742 e765 e798 e821 e834 e857 e880 e903 e926 e934 m (x : Int) w := by
  intro m
  induction m with
  | zero => intro x w S _ _ q; omega
  | succ m ih =>
    intro x w S hI hx hm
    unfold L_law_l18
    rw [wr_id (x := (L : Int) - 6) (by omega) (by omega), wr_nat (n := x) (by omega)]
    refine ⟨fun _ => hE w, fun z => ?_⟩
    have K : ∀ w' S', Inv w' S' → L_law_l18 xs L e225 e248 e261 e274 e353 e376 e399 e422 e455 e468 e481 e504 e517 e550 e583 e616 e639 e663 e686 e729 e742 e765 e798 e821 e834 e857 e880 e903 e926 e934 m ((x : Int) + 6) w' := fun w' S' h => by
      rw [show (x : Int) + 6 = ((x + 6 : Nat) : Int) by omega]
      exact ih (x + 6) w' S' h (by omega) (by omega)
    have i1 : ix ((x : Int) + 1) L := ix_of (n := x + 1) (by omega) (by omega) (by omega)
    have i2 : ix ((x : Int) + 2) L := ix_of (n := x + 2) (by omega) (by omega) (by omega)
    have i3 : ix ((x : Int) + 3) L := ix_of (n := x + 3) (by omega) (by omega) (by omega)
    have i4 : ix ((x : Int) + 4) L := ix_of (n := x + 4) (by omega) (by omega) (by omega)
    have i5 : ix ((x : Int) + 5) L := ix_of (n := x + 5) (by omega) (by omega) (by omega)
    refine ⟨ix_of (n := x) rfl (by omega) (by omega), fun t1 _ => ?_⟩
    simp only [i1, i2, i3, i4, i5, true_and]
    refine ⟨fun _ => feed_B hI K, fun _ => back_B hI (wi _) K, fun _ => read_B hI K, fun _ => place_B hI K, fun _ => ?_, fun _ => goes_B hI (wi _) K, fun _ => twist_B hI (wi _) K, fun _ => flip_B hI (wi _) K, fun _ => xch_B hI (wi _) (wi _) K, fun _ => lessen_B hI K, fun _ => dual_B hI K, fun _ => shr_B hI (wi _) K, fun _ => undo_B hI K, fun _ => line_B hI (wi _) (wi _) K, fun _ => round_B hI (wi _) (wi _) K, fun _ => face_B hI (wi _) (wi _) K, fun _ => surface_B hI (wi _) K, fun _ => all_B hI (wi _) K, fun _ => needing_B hI (wi _) K, fun _ => ordered_B hI (wi _) (wi _) (wi _) K, fun _ => capped_B hI K, fun _ => bound_B hI (wi _) K, fun _ => without_B hI (wi _) (wi _) K, fun _ => beside_B hI (wi _) K, fun _ => colours_B hI K, fun _ => like_B hI (wi _) K, fun _ => hold_B hI (wi _) K, fun _ => restore_B hI (wi _) K, fun _ => count_B hI K, fun _ => K w S hI⟩
    refine ⟨fun q => ?_, fun q => ?_⟩
    · unfold L_law_b310 L_law_b347
      simp only [i1, i2, i3, i4, i5, true_and, q, forall_const, not_true_eq_false, false_implies, and_true, true_implies]
      exact lay_B hI (wi _) (wi _) (wi _) (wi _) K
    · unfold L_law_b310 L_law_b347
      simp only [i1, i2, i3, i4, i5, true_and, q, not_false_eq_true, false_implies, true_implies]
      exact lay_B hI (wi _) (wi _) (wi _) (wi _) K
