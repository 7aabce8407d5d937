/-! TEXTS: the model goes through the tokens -/
theorem mkd_inj : ∀ a b : Fin 8, mkd a.val = mkd b.val → a.val = b.val := by decide
theorem mkd_nz : ∀ a : Fin 8, mkd a.val ≠ 0 ∧ mkd a.val < 100 := by decide
def TkN (w : Wd) (B : Nat → Int) (L n : Nat) : Prop := L ≤ 2000 ∧ Tn B L n ∧ (∀ j, j < n → j ≤ 400 → TkM1 w B L j) ∧ (n ≤ 400 → w 68 n = 0 ∧ w 69 n = (L : Int))
theorem TkN.of {w w' : Wd} {B : Nat → Int} {L n : Nat} (h : TkN w B L n) (e : ∀ c j, 68 ≤ c → c ≤ 71 → w' c j = w c j) : TkN w' B L n := by
  obtain ⟨h0, h1, h2, h3⟩ := h
  refine ⟨h0, h1, fun j a b => ?_, fun k => ?_⟩
  · unfold TkM1
    rw [e _ _ (by decide) (by decide), e _ _ (by decide) (by decide), e _ _ (by decide) (by decide), e _ _ (by decide) (by decide)]
    exact h2 j a b
  · rw [e _ _ (by decide) (by decide), e _ _ (by decide) (by decide)]; exact h3 k
theorem TkN.at {w : Wd} {B : Nat → Int} {L n : Nat} (h : TkN w B L n) {t : Nat} (ht : t ≤ n) (h4 : t ≤ 400) : w 69 t = (tsq B L t : Int) ∧ tsq B L t ≤ 2000 ∧ (t < n → w 68 t = (mkd (kdT B L t) : Int)) ∧ (t = n → w 68 t = 0) := by
  obtain ⟨h0, h1, h2, h3⟩ := h
  by_cases z : t = n
  · subst z
    exact ⟨by rw [(h3 h4).2, h1.2], by rw [h1.2]; exact h0, fun k => by omega, fun _ => (h3 h4).1⟩
  · have g := h2 t (by omega) h4
    have := h1.1 t (by omega)
    exact ⟨g.2.1, by omega, fun _ => g.1, fun k => absurd k z⟩
def MsI (w : Wd) (B : Nat → Int) (L n t : Nat) : Prop := TkN w B L n ∧ w 65 11 = (t : Int) ∧ w 65 12 = 0 ∧ w 65 20 = (npc (kdT B L) t : Int) ∧ w 65 21 = (nlc (kdT B L) t : Int) ∧ (∀ j, j < t → Okt (kdT B L) j) ∧ t ≤ n
def FlI (w : Wd) (B : Nat → Int) (L n : Nat) : Prop := ∃ t f p, SynA B L n t f p ∧ f ≠ 0 ∧ w 65 12 = (f : Int) ∧ w 65 13 = p
def offB (w w' : Wd) : Prop := ∀ c j, ¬ (c = 65 ∧ (j = 11 ∨ j = 12 ∨ j = 13 ∨ j = 20 ∨ j = 21)) → w' c j = w c j
theorem offB_trans {a b c : Wd} (h : offB a b) (g : offB b c) : offB a c := fun x j h1 => by rw [g x j h1, h x j h1]
theorem SynA.f2 {B : Nat → Int} {L n t f : Nat} {p : Int} (h : SynA B L n t f p) : f ≤ 2 := by
  rcases h.2.2.2 with k | k | k | k
  · omega
  · omega
  · omega
  · omega
theorem FlI.w {w : Wd} {B : Nat → Int} {L n : Nat} (h : FlI w B L n) : ¬ wr (w 65 12) = 0 ∧ ¬ wr (w 65 12) ≤ 0 := by
  obtain ⟨t, f, p, h1, h2, h3, -⟩ := h
  have := h1.f2
  rw [h3, wr_nat (by omega)]
  omega
section TELL
variable {w : Wd} {B : Nat → Int} {L n t : Nat}
theorem X11_is_ok {Q : Int → Wd → Prop} {x : Int} (c : Nat) (hx : x = (mkd c : Int)) (hc : c < 8) (h : MsI w B L n t) (h1 : t < n → kdT B L t = c → Q 1 w) (h0 : ¬ (t < n ∧ kdT B L t = c) → Q 0 w) : X11_is x w Q := by
  subst hx
  obtain ⟨g0, g1, g2, g3, g4, g5, g6⟩ := h
  have hb := (ok_bd g5).1
  obtain ⟨a1, a2, a3, a4⟩ := g0.at g6 hb
  have hcn := mkd_nz ⟨c, hc⟩
  have hcn : mkd c ≠ 0 ∧ mkd c < 100 := hcn
  unfold X11_is X11_is_b24
  rw [g2, g1, rd_of rfl (by omega), wr_nat (n := mkd c) (by omega)]
  refine ⟨fun _ => ⟨ix_of rfl (by omega) (by decide), ?_⟩, fun k => absurd (by decide) k⟩
  by_cases z : t < n
  · have hk : kdT B L t < 8 := tkd_lt B L _
    have hkn := mkd_nz ⟨kdT B L t, hk⟩
    have hkn : mkd (kdT B L t) ≠ 0 ∧ mkd (kdT B L t) < 100 := hkn
    rw [a3 z, wr_nat (n := mkd (kdT B L t)) (by omega)]
    refine ⟨fun y => h1 z (mkd_inj ⟨kdT B L t, hk⟩ ⟨c, hc⟩ (by show mkd (kdT B L t) = mkd c; omega)), fun y => h0 (fun k => y (by rw [k.2]))⟩
  · rw [a4 (by omega), show wr 0 = 0 by decide]
    exact ⟨fun y => by omega, fun _ => h0 (fun k => z k.1)⟩
theorem X11_is_end {Q : Int → Wd → Prop} (h : MsI w B L n t) (h1 : t = n → Q 1 w) (h0 : t < n → Q 0 w) : X11_is 0 w Q := by
  obtain ⟨g0, g1, g2, g3, g4, g5, g6⟩ := h
  have hb := (ok_bd g5).1
  obtain ⟨a1, a2, a3, a4⟩ := g0.at g6 hb
  unfold X11_is X11_is_b24
  rw [g2, g1, rd_of rfl (by omega)]
  refine ⟨fun _ => ⟨ix_of rfl (by omega) (by decide), ?_⟩, fun k => absurd (by decide) k⟩
  by_cases z : t < n
  · have hk : kdT B L t < 8 := tkd_lt B L _
    have hkn := mkd_nz ⟨kdT B L t, hk⟩
    have hkn : mkd (kdT B L t) ≠ 0 ∧ mkd (kdT B L t) < 100 := hkn
    rw [a3 z, wr_nat (n := mkd (kdT B L t)) (by omega), show wr 0 = 0 by decide]
    exact ⟨fun y => by omega, fun _ => h0 z⟩
  · rw [a4 (by omega)]
    exact ⟨fun _ => h1 (by omega), fun k => absurd rfl k⟩
theorem X11_is_f {Q : Int → Wd → Prop} {x : Int} (h : FlI w B L n) (h0 : Q 0 w) : X11_is x w Q := by
  unfold X11_is X11_is_b24
  exact ⟨fun k => absurd k h.w.1, fun _ => h0⟩
theorem X11_fail_f {Q : Wd → Prop} {x : Int} (h : FlI w B L n) (h0 : Q w) : X11_fail x w Q := by
  unfold X11_fail
  exact ⟨fun k => absurd k h.w.2, fun _ => h0⟩
theorem X11_must_f {Q : Wd → Prop} {x : Int} (h : FlI w B L n) (h0 : Q w) : X11_must x w Q := by
  unfold X11_must
  exact X11_is_f h ⟨fun _ => X11_fail_f h h0, fun k => absurd (by decide) k⟩
theorem X11_fail_ok {Q : Wd → Prop} {x : Int} (f : Nat) (hx : x = (f : Int)) (h0 : TkN w B L n) (h1 : w 65 11 = (t : Int)) (h2 : w 65 12 = 0) (ht : t ≤ n) (h4 : t ≤ 400) (hS : SynA B L n t f (tsq B L t : Int)) (hf : f ≠ 0) (hQ : ∀ w', FlI w' B L n → offB w w' → Q w') : X11_fail x w Q := by
  subst hx
  obtain ⟨a1, a2, a3, a4⟩ := h0.at ht h4
  unfold X11_fail
  rw [h2]
  refine ⟨fun _ w1 e1 => ?_, fun k => absurd (by decide) k⟩
  have o1 : ∀ c j, ¬ (c = 65 ∧ j = 12) → w1 c j = w c j := fun c j hc => by rw [e1, up_ap, if_neg hc]
  rw [o1 65 11 (by omega), h1]
  refine ⟨ix_of rfl (by omega) (by decide), fun w2 e2 => ?_⟩
  rw [rd_of rfl (by omega), o1 69 t (by omega), a1] at e2
  exact hQ w2 ⟨t, f, _, hS, hf, by rw [e2, up_ap, if_neg (by omega), e1, up_eq], by rw [e2, up_eq]⟩ (fun c j hc => by rw [e2, up_ap, if_neg (by omega), o1 c j (by omega)])
/-- a token that may stand here is passed -/
theorem X11_passes_ok {Q : Wd → Prop} (h0 : TkN w B L n) (h1 : w 65 11 = (t : Int)) (h2 : w 65 12 = 0) (h3 : w 65 20 = (npc (kdT B L) (t + 1) : Int)) (h4 : w 65 21 = (nlc (kdT B L) (t + 1) : Int)) (h5 : ∀ j, j < t → Okt (kdT B L) j) (ht : t < n) (hd : dlt (stg (kdT B L) t) (kdT B L t) ≠ 9) (hp : ¬ (kdT B L t = 1 ∧ 6 ≤ npc (kdT B L) t)) (hl : ¬ (kdT B L t = 2 ∧ 10 ≤ nlc (kdT B L) t)) (hQ : ∀ w', MsI w' B L n (t + 1) → offB w w' → Q w') (hF : ∀ w', FlI w' B L n → offB w w' → Q w') : X11_passes w Q := by
  have hb := (ok_bd h5).1
  unfold X11_passes
  rw [h1, wr_nat (n := t) (by omega), show wr 400 = 400 by decide]
  refine ⟨fun z => X11_fail_ok 2 rfl h0 h1 h2 (by omega) hb ⟨h0.2.1, by omega, h5, Or.inr (Or.inr (Or.inr ⟨ht, hd, fun k => by have := k.2.1; omega, rfl, rfl⟩))⟩ (by decide) hF, fun z w1 e1 => ?_⟩
  have o1 : ∀ c j, ¬ (c = 65 ∧ j = 11) → w1 c j = w c j := fun c j hc => by rw [e1, up_ap, if_neg hc]
  refine hQ w1 ⟨h0.of (fun c j _ _ => o1 c j (by omega)), by rw [e1, up_eq]; omega, by rw [o1 _ _ (by omega)]; exact h2, by rw [o1 _ _ (by omega)]; exact h3, by rw [o1 _ _ (by omega)]; exact h4, fun j hj => ?_, by omega⟩ (fun c j hc => o1 c j (by omega))
  by_cases y : j = t
  · rw [y]; exact ⟨hd, by omega, hp, hl⟩
  · exact h5 j (by omega)
theorem X11_passes_in {Q : Wd → Prop} (h : MsI w B L n t) (ht : t < n) (hd : dlt (stg (kdT B L) t) (kdT B L t) ≠ 9) (h1 : kdT B L t ≠ 1) (h2 : kdT B L t ≠ 2) (hQ : ∀ w', MsI w' B L n (t + 1) → offB w w' → Q w') (hF : ∀ w', FlI w' B L n → offB w w' → Q w') : X11_passes w Q := by
  obtain ⟨g0, g1, g2, g3, g4, g5, g6⟩ := h
  exact X11_passes_ok g0 g1 g2 (by rw [npc_s, if_neg h1]; exact g3) (by rw [nlc_s, if_neg h2]; exact g4) g5 ht hd (fun k => h1 k.1) (fun k => h2 k.1) hQ hF
theorem X11_must_ok {Q : Wd → Prop} {x : Int} (c : Nat) (hx : x = (mkd c : Int)) (hc : c < 8) (hc1 : c ≠ 1) (hc2 : c ≠ 2) (h : MsI w B L n t) (hs : stg (kdT B L) t ≠ 0) (hd : dlt (stg (kdT B L) t) c ≠ 9) (h9 : t < n → kdT B L t ≠ c → dlt (stg (kdT B L) t) (kdT B L t) = 9) (hQ : ∀ w', t < n → MsI w' B L n (t + 1) → stg (kdT B L) (t + 1) = dlt (stg (kdT B L) t) c → offB w w' → Q w') (hF : ∀ w', FlI w' B L n → offB w w' → Q w') : X11_must x w Q := by
  have hb := (ok_bd h.2.2.2.2.2.1).1
  unfold X11_must
  refine X11_is_ok c hx hc h (fun z y => ⟨fun k => absurd k (by decide), fun _ => ?_⟩) (fun z => ⟨fun _ => ?_, fun k => absurd (by decide) k⟩)
  · refine X11_passes_in h z (by rw [y]; exact hd) (by rw [y]; exact hc1) (by rw [y]; exact hc2) (fun w' M o => hQ w' z M (by rw [← y]; rfl) o) hF
  · obtain ⟨g0, g1, g2, g3, g4, g5, g6⟩ := id h
    by_cases y : t < n
    · exact X11_fail_ok 1 rfl g0 g1 g2 g6 hb ⟨g0.2.1, g6, g5, Or.inr (Or.inr (Or.inl ⟨y, h9 y (fun k => z ⟨y, k⟩), rfl, rfl⟩))⟩ (by decide) hF
    · have e : t = n := by omega
      refine X11_fail_ok 1 rfl g0 g1 g2 g6 hb ⟨g0.2.1, g6, g5, Or.inr (Or.inl ⟨e, by rw [← e]; exact hs, rfl, ?_⟩)⟩ (by decide) hF
      rw [e, g0.2.1.2]
/-- the sign at the last -/
theorem tell_sign {Q : Wd → Prop} (h : MsI w B L n t) (hs : stg (kdT B L) t ≠ 0) (hd : dlt (stg (kdT B L) t) 7 = 0) (h9 : t < n → kdT B L t ≠ 7 → dlt (stg (kdT B L) t) (kdT B L t) = 9) (hQ : ∀ w', t < n → MsI w' B L n (t + 1) → stg (kdT B L) (t + 1) = 0 → offB w w' → Q w') (hF : ∀ w', FlI w' B L n → offB w w' → Q w') : X11_tell_b154 Q w := by
  unfold X11_tell_b154
  exact X11_must_ok 7 rfl (by decide) (by decide) (by decide) h hs (by rw [hd]; decide) h9 (fun w' z M e o => hQ w' z M (by rw [e, hd]) o) hF
theorem only_a : ∀ s : Fin 9, ∀ k : Fin 8, dlt s.val k.val = 9 ∨ k.val = 5 ∨ ¬ (s.val = 1 ∨ s.val = 2 ∨ s.val = 3 ∨ s.val = 5) := by decide
theorem only_b : ∀ k : Fin 8, dlt 6 k.val = 9 ∨ k.val = 6 := by decide
theorem only_c : ∀ k : Fin 8, dlt 8 k.val = 9 ∨ k.val = 7 := by decide
theorem only_d : ∀ k : Fin 8, dlt 4 k.val = 9 ∨ k.val = 4 ∨ k.val = 7 := by decide
theorem only_e : ∀ k : Fin 8, dlt 7 k.val = 9 ∨ k.val = 6 ∨ k.val = 7 := by decide
theorem only_f : ∀ k : Fin 8, dlt 0 k.val = 9 ∨ k.val = 1 ∨ k.val = 2 ∨ k.val = 3 := by decide
theorem only {s k : Nat} (hs : s ≤ 8) (hk : k < 8) : (s = 1 ∨ s = 2 ∨ s = 3 ∨ s = 5 → k ≠ 5 → dlt s k = 9) ∧ (s = 6 → k ≠ 6 → dlt s k = 9) ∧ (s = 8 → k ≠ 7 → dlt s k = 9) ∧ (s = 4 → k ≠ 4 → k ≠ 7 → dlt s k = 9) ∧ (s = 7 → k ≠ 6 → k ≠ 7 → dlt s k = 9) ∧ (s = 0 → k ≠ 1 → k ≠ 2 → k ≠ 3 → dlt s k = 9) := by
  have a : dlt s k = 9 ∨ k = 5 ∨ ¬ (s = 1 ∨ s = 2 ∨ s = 3 ∨ s = 5) := only_a ⟨s, by omega⟩ ⟨k, hk⟩
  have b : dlt 6 k = 9 ∨ k = 6 := only_b ⟨k, hk⟩
  have c : dlt 8 k = 9 ∨ k = 7 := only_c ⟨k, hk⟩
  have d : dlt 4 k = 9 ∨ k = 4 ∨ k = 7 := only_d ⟨k, hk⟩
  have e : dlt 7 k = 9 ∨ k = 6 ∨ k = 7 := only_e ⟨k, hk⟩
  have f : dlt 0 k = 9 ∨ k = 1 ∨ k = 2 ∨ k = 3 := only_f ⟨k, hk⟩
  refine ⟨fun z y => ?_, fun z y => ?_, fun z y => ?_, fun z y y2 => ?_, fun z y y2 => ?_, fun z y y2 y3 => ?_⟩
  · rcases a with a | a | a
    · exact a
    · exact absurd a y
    · exact absurd z a
  · subst z; exact b.resolve_right y
  · subst z; exact c.resolve_right y
  · subst z; exact d.resolve_right (by omega)
  · subst z; exact e.resolve_right (by omega)
  · subst z; exact f.resolve_right (by omega)
theorem X11_tell_ok {Q : Wd → Prop} (h : MsI w B L n t) (ht : t < n) (hs : stg (kdT B L) t = 0) (hQ : ∀ w' t', t < t' → MsI w' B L n t' → stg (kdT B L) t' = 0 → offB w w' → Q w') (hF : ∀ w', FlI w' B L n → offB w w' → Q w') : X11_tell w Q := by
  have kl : ∀ j, kdT B L j < 8 := fun j => tkd_lt B L _
  have sl : ∀ {v : Wd} {j : Nat}, MsI v B L n j → stg (kdT B L) j ≤ 8 := fun M => (ok_bd M.2.2.2.2.2.1).2.1
  have hb := (ok_bd h.2.2.2.2.2.1).1
  obtain ⟨g0, g1, g2, g3, g4, g5, g6⟩ := id h
  obtain ⟨b1, b2, b3, b4⟩ := ok_bd g5
  have sign : ∀ {v : Wd} {j : Nat}, MsI v B L n j → t ≤ j → stg (kdT B L) j = 8 → offB w v → X11_tell_b154 Q v := fun {v j} M hj e o => by
    refine tell_sign M (by omega) (by rw [e]; rfl) (fun _ k => (only (sl M) (kl j)).2.2.1 e k) (fun w' _ M' e' o' => hQ w' _ (by omega) M' e' (offB_trans o o')) (fun w' F o' => hF w' F (offB_trans o o'))
  have fsign : ∀ {v : Wd}, FlI v B L n → offB w v → X11_tell_b154 Q v := fun F o => by unfold X11_tell_b154; exact X11_must_f F (hF _ F o)
  unfold X11_tell
  refine X11_is_ok 1 rfl (by decide) h (fun _ y => ⟨fun k => absurd k (by decide), fun _ => ?_⟩) (fun y1 => ⟨fun _ => ?_, fun k => absurd (by decide) k⟩)
  · -- a post
    rw [g3, wr_nat (n := npc (kdT B L) t) (by omega), show wr 6 = 6 by decide]
    refine ⟨fun z => ?_, fun z w23 e23 => ?_⟩
    · exact X11_fail_ok 2 rfl g0 g1 g2 g6 hb ⟨g0.2.1, g6, g5, Or.inr (Or.inr (Or.inr ⟨ht, by rw [hs, y]; decide, fun k => k.2.2.1 ⟨y, by omega⟩, rfl, rfl⟩))⟩ (by decide) hF
    · have o23 : ∀ c j, ¬ (c = 65 ∧ j = 20) → w23 c j = w c j := fun c j hc => by rw [e23, up_ap, if_neg hc]
      have ob : offB w w23 := fun c j hc => o23 c j (by omega)
      refine X11_passes_ok (g0.of (fun c j _ _ => o23 c j (by omega))) (by rw [o23 _ _ (by omega)]; exact g1) (by rw [o23 _ _ (by omega)]; exact g2) (by rw [e23, up_eq, npc_s, if_pos y]; omega) (by rw [o23 _ _ (by omega), nlc_s, if_neg (by omega)]; exact g4) g5 ht (by rw [hs, y]; decide) (by omega) (by omega) (fun w24 M24 o24 => ?_) (fun w24 F24 o24 => ?_)
      · have ob24 := offB_trans ob o24
        have e1 : stg (kdT B L) (t + 1) = 1 := by show dlt (stg (kdT B L) t) (kdT B L t) = 1; rw [hs, y]; rfl
        refine X11_must_ok 5 rfl (by decide) (by decide) (by decide) M24 (by omega) (by rw [e1]; decide) (fun _ k => (only (sl M24) (kl _)).1 (by omega) k) (fun w25 _ M25 e25 o25 => sign M25 (by omega) (by rw [e25, e1]; rfl) (offB_trans ob24 o25)) (fun w25 F25 o25 => fsign F25 (offB_trans ob24 o25))
      · exact X11_must_f F24 (fsign F24 (offB_trans ob o24))
  · refine X11_is_ok 2 rfl (by decide) h (fun _ y => ⟨fun k => absurd k (by decide), fun _ => ?_⟩) (fun y2 => ⟨fun _ => ?_, fun k => absurd (by decide) k⟩)
    · -- a line
      rw [g4, wr_nat (n := nlc (kdT B L) t) (by omega), show wr 10 = 10 by decide]
      refine ⟨fun z => ?_, fun z w15 e15 => ?_⟩
      · exact X11_fail_ok 2 rfl g0 g1 g2 g6 hb ⟨g0.2.1, g6, g5, Or.inr (Or.inr (Or.inr ⟨ht, by rw [hs, y]; decide, fun k => k.2.2.2 ⟨y, by omega⟩, rfl, rfl⟩))⟩ (by decide) hF
      · have o15 : ∀ c j, ¬ (c = 65 ∧ j = 21) → w15 c j = w c j := fun c j hc => by rw [e15, up_ap, if_neg hc]
        have ob : offB w w15 := fun c j hc => o15 c j (by omega)
        have fl : ∀ v, FlI v B L n → offB w v → X11_must 1 v (fun w17 => X11_must 1 w17 (fun w18 => X11_is 22 w18 (fun y20 w19 => ((wr y20 = 0 → X11_tell_b154 Q w19) ∧ (¬ wr y20 = 0 → X11_passes w19 (fun w21 => X11_tell_b154 Q w21)))))) := fun v F o => X11_must_f F (X11_must_f F (X11_is_f F ⟨fun _ => fsign F o, fun k => absurd (by decide) k⟩))
        have fl2 : ∀ v, FlI v B L n → offB w v → X11_must 1 v (fun w18 => X11_is 22 w18 (fun y20 w19 => ((wr y20 = 0 → X11_tell_b154 Q w19) ∧ (¬ wr y20 = 0 → X11_passes w19 (fun w21 => X11_tell_b154 Q w21))))) := fun v F o => X11_must_f F (X11_is_f F ⟨fun _ => fsign F o, fun k => absurd (by decide) k⟩)
        refine X11_passes_ok (g0.of (fun c j _ _ => o15 c j (by omega))) (by rw [o15 _ _ (by omega)]; exact g1) (by rw [o15 _ _ (by omega)]; exact g2) (by rw [o15 _ _ (by omega), npc_s, if_neg (by omega)]; exact g3) (by rw [e15, up_eq, nlc_s, if_pos y]; omega) g5 ht (by rw [hs, y]; decide) (by omega) (by omega) (fun w16 M16 o16 => ?_) (fun w16 F16 o16 => fl w16 F16 (offB_trans ob o16))
        have ob16 := offB_trans ob o16
        have e1 : stg (kdT B L) (t + 1) = 2 := by show dlt (stg (kdT B L) t) (kdT B L t) = 2; rw [hs, y]; rfl
        refine X11_must_ok 5 rfl (by decide) (by decide) (by decide) M16 (by omega) (by rw [e1]; decide) (fun _ k => (only (sl M16) (kl _)).1 (by omega) k) (fun w17 _ M17 e17 o17 => ?_) (fun w17 F17 o17 => fl2 w17 F17 (offB_trans ob16 o17))
        have ob17 := offB_trans ob16 o17
        rw [e1] at e17
        have e17 : stg (kdT B L) (t + 1 + 1) = 3 := e17
        refine X11_must_ok 5 rfl (by decide) (by decide) (by decide) M17 (by omega) (by rw [e17]; decide) (fun _ k => (only (sl M17) (kl _)).1 (by omega) k) (fun w18 _ M18 e18 o18 => ?_) (fun w18 F18 o18 => X11_is_f F18 ⟨fun _ => fsign F18 (offB_trans ob17 o18), fun k => absurd (by decide) k⟩)
        have ob18 := offB_trans ob17 o18
        rw [e17] at e18
        have e18 : stg (kdT B L) (t + 1 + 1 + 1) = 4 := e18
        refine X11_is_ok 4 rfl (by decide) M18 (fun h3 y3 => ⟨fun k => absurd k (by decide), fun _ => ?_⟩) (fun y3 => ⟨fun _ => ?_, fun k => absurd (by decide) k⟩)
        · refine X11_passes_in M18 h3 (by rw [e18, y3]; decide) (by omega) (by omega) (fun w21 M21 o21 => sign M21 (by omega) ?_ (offB_trans ob18 o21)) (fun w21 F21 o21 => fsign F21 (offB_trans ob18 o21))
          show dlt (stg (kdT B L) (t + 1 + 1 + 1)) (kdT B L (t + 1 + 1 + 1)) = 8
          rw [e18, y3]; rfl
        · refine tell_sign M18 (by omega) (by rw [e18]; rfl) (fun hn k => (only (sl M18) (kl _)).2.2.2.1 e18 (fun q => y3 ⟨hn, q⟩) k) (fun w' _ M' e' o' => hQ w' _ (by omega) M' e' (offB_trans ob18 o')) (fun w' F o' => hF w' F (offB_trans ob18 o'))
    · refine X11_is_ok 3 rfl (by decide) h (fun _ y => ⟨fun k => absurd k (by decide), fun _ => ?_⟩) (fun y3 => ⟨fun _ => ?_, fun k => absurd (by decide) k⟩)
      · -- a round
        have fl133 : ∀ v, FlI v B L n → offB w v → ∃ m, X11_tell_l133 Q (X11_tell_b154 Q) m v := fun v F o => ⟨1, by unfold X11_tell_l133; exact X11_is_f F ⟨fun _ => fsign F o, fun k => absurd (by decide) k⟩⟩
        refine X11_passes_in h ht (by rw [hs, y]; decide) (by omega) (by omega) (fun w8 M8 o8 => ?_) (fun w8 F8 o8 => X11_must_f F8 (X11_must_f F8 (fl133 w8 F8 o8)))
        have e1 : stg (kdT B L) (t + 1) = 5 := by show dlt (stg (kdT B L) t) (kdT B L t) = 5; rw [hs, y]; rfl
        refine X11_must_ok 5 rfl (by decide) (by decide) (by decide) M8 (by omega) (by rw [e1]; decide) (fun _ k => (only (sl M8) (kl _)).1 (by omega) k) (fun w9 _ M9 e9 o9 => ?_) (fun w9 F9 o9 => X11_must_f F9 (fl133 w9 F9 (offB_trans o8 o9)))
        have ob9 := offB_trans o8 o9
        rw [e1] at e9
        have e9 : stg (kdT B L) (t + 1 + 1) = 6 := e9
        refine X11_must_ok 6 rfl (by decide) (by decide) (by decide) M9 (by omega) (by rw [e9]; decide) (fun _ k => (only (sl M9) (kl _)).2.1 e9 k) (fun w10 _ M10 e10 o10 => ?_) (fun w10 F10 o10 => fl133 w10 F10 (offB_trans ob9 o10))
        have ob10 := offB_trans ob9 o10
        rw [e9] at e10
        have e10 : stg (kdT B L) (t + 1 + 1 + 1) = 7 := e10
        have ints : ∀ (m j : Nat) (v : Wd), t < j → n - j + 1 < m → MsI v B L n j → stg (kdT B L) j = 7 → offB w v → X11_tell_l133 Q (X11_tell_b154 Q) m v := by
          intro m
          induction m with
          | zero => intro j v q1 q2; omega
          | succ m ih =>
            intro j v q1 q2 M ej o
            unfold X11_tell_l133
            refine X11_is_ok 6 rfl (by decide) M (fun hj yj => ⟨fun k => absurd k (by decide), fun _ => ?_⟩) (fun yj => ⟨fun _ => ?_, fun k => absurd (by decide) k⟩)
            · refine X11_passes_in M hj (by rw [ej, yj]; decide) (by omega) (by omega) (fun v' M' o' => ih (j + 1) v' (by omega) (by omega) M' (by show dlt (stg (kdT B L) j) (kdT B L j) = 7; rw [ej, yj]; rfl) (offB_trans o o')) (fun v' F' o' => ?_)
              obtain ⟨m, rfl⟩ : ∃ m', m = m' + 1 := ⟨m - 1, by omega⟩
              unfold X11_tell_l133
              exact X11_is_f F' ⟨fun _ => fsign F' (offB_trans o o'), fun k => absurd (by decide) k⟩
            · refine tell_sign M (by omega) (by rw [ej]; rfl) (fun hn k => (only (sl M) (kl _)).2.2.2.2.1 ej (fun q => yj ⟨hn, q⟩) k) (fun w' _ M' e' o' => hQ w' _ (by omega) M' e' (offB_trans o o')) (fun w' F o' => hF w' F (offB_trans o o'))
        exact ⟨n + 3, ints (n + 3) (t + 1 + 1 + 1) w10 (by omega) (by omega) M10 e10 ob10⟩
      · exact X11_fail_ok 1 rfl g0 g1 g2 g6 hb ⟨g0.2.1, g6, g5, Or.inr (Or.inr (Or.inl ⟨ht, (only (sl h) (kl t)).2.2.2.2.2 hs (fun k => y1 ⟨ht, k⟩) (fun k => y2 ⟨ht, k⟩) (fun k => y3 ⟨ht, k⟩), rfl, rfl⟩))⟩ (by decide) hF
theorem X11_tells_ok {Q : Int → Wd → Prop} {e92 : Wd → Prop} (h : MsI w B L n 0) (hK : ∀ w' t f p, SynA B L n t f p → w' 65 12 = (f : Int) → (f ≠ 0 → w' 65 13 = p) → offB w w' → e92 w') : ∃ m, X11_read_l70 Q e92 m w := by
  have fl : ∀ (m : Nat) (v : Wd), FlI v B L n → offB w v → X11_read_l70 Q e92 (m + 1) v := fun m v F o => by
    have hw := F.w
    obtain ⟨t, f, p, h1, h2, h3, h4⟩ := id F
    unfold X11_read_l70
    exact ⟨fun k => absurd k hw.1, fun _ => hK v t f p h1 h3 (fun _ => h4) o⟩
  have loop : ∀ (m t : Nat) (v : Wd), n - t + 1 < m → MsI v B L n t → stg (kdT B L) t = 0 → offB w v → X11_read_l70 Q e92 m v := by
    intro m
    induction m with
    | zero => intro t v a1; omega
    | succ m ih =>
      intro t v a1 M es o
      obtain ⟨g0, g1, g2, g3, g4, g5, g6⟩ := id M
      unfold X11_read_l70
      rw [g2]
      refine ⟨fun _ => X11_is_end M (fun y => ⟨fun k => absurd k (by decide), fun _ => ?_⟩) (fun y => ⟨fun _ => ?_, fun k => absurd (by decide) k⟩), fun k => absurd (by decide) k⟩
      · exact hK v t 0 (-1) ⟨g0.2.1, g6, g5, Or.inl ⟨y, by rw [← y]; exact es, rfl, rfl⟩⟩ g2 (fun k => absurd rfl k) o
      · refine X11_tell_ok M y es (fun v' t' ht' M' es' o' => ih t' v' (by omega) M' es' (offB_trans o o')) (fun v' F' o' => ?_)
        obtain ⟨m, rfl⟩ : ∃ m', m = m' + 1 := ⟨m - 1, by omega⟩
        exact fl m v' F' (offB_trans o o')
  exact ⟨n + 2, loop (n + 2) 0 w (by omega) h rfl (fun _ _ _ => rfl)⟩
end TELL
