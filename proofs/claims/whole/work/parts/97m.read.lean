/-! READ: what a text makes of the state -/
noncomputable def txT (B : Nat → Int) (L n : Nat) : Tx := (n, kdT B L, (fun j => nmv 32 B L (tsq B L j)), (fun j => ivl B L (tsq B L j)))
def RdA (B : Nat → Int) (L f : Nat) (p : Int) (D : Dw) : Prop := (∃ n t, SynA B L n t f p ∧ f ≠ 0) ∨ ∃ n, SynA B L n n 0 (-1) ∧ SemA (txT B L n) (tsq B L) f p ∧ (f = 0 → NoF (txT B L n) ∧ D = dTx (txT B L n) n)
theorem RdA.uq {B : Nat → Int} {L f f' : Nat} {p p' : Int} {D D' : Dw} (h : RdA B L f p D) (g : RdA B L f' p' D') : f = f' ∧ p = p' ∧ (f = 0 → D = D') := by
  rcases h with ⟨n, t, h1, h2⟩ | ⟨n, h1, h2, h3⟩
  · rcases g with ⟨n', t', g1, g2⟩ | ⟨n', g1, g2, g3⟩
    · obtain ⟨-, -, e1, e2⟩ := h1.uq g1
      exact ⟨e1, e2, fun k => absurd k h2⟩
    · obtain ⟨-, -, e1, e2⟩ := h1.uq g1
      exact absurd e1 h2
  · rcases g with ⟨n', t', g1, g2⟩ | ⟨n', g1, g2, g3⟩
    · obtain ⟨-, -, e1, e2⟩ := h1.uq g1
      exact absurd e1.symm g2
    · obtain ⟨e0, -, -, -⟩ := h1.uq g1
      subst e0
      obtain ⟨e1, e2⟩ := h2.uq g2
      exact ⟨e1, e2, fun k => by rw [(h3 k).2, (g3 (by omega)).2]⟩
theorem syn_tok {B : Nat → Int} {L n : Nat} (h : SynA B L n n 0 (-1)) : TOK (txT B L n) ∧ Tn B L n := by
  obtain ⟨h1, h2, h3, h4⟩ := h
  refine ⟨⟨h3, ?_⟩, h1⟩
  rcases h4 with k | k | k | k
  · exact k.2.1
  · exact absurd k.2.2.1 (by decide)
  · exact absurd k.1 (by omega)
  · exact absurd k.1 (by omega)
theorem syn_0 {B : Nat → Int} {L n t : Nat} {p : Int} (h : SynA B L n t 0 p) : SynA B L n n 0 (-1) ∧ t = n ∧ p = -1 := by
  obtain ⟨h1, h2, h3, h4⟩ := id h
  rcases h4 with k | k | k | k
  · obtain ⟨k1, k2, k3, k4⟩ := k
    subst k1; subst k4
    exact ⟨h, rfl, rfl⟩
  · omega
  · omega
  · omega
theorem RdA.bd {B : Nat → Int} {L f : Nat} {p : Int} {D : Dw} (hL : L ≤ 2000) (h : RdA B L f p D) : f ≤ 6 ∧ -1 ≤ p ∧ p ≤ 2000 ∧ (f = 0 → WF D) := by
  rcases h with ⟨n, t, h1, h2⟩ | ⟨n, h1, h2, h3⟩
  · have := h1.f2
    refine ⟨by omega, ?_⟩
    obtain ⟨a1, a2, a3, a4⟩ := h1
    have tl : t < n → tsq B L t < L := a1.1 t
    rcases a4 with k | k | k | k
    · exact ⟨by omega, by omega, fun q => absurd q h2⟩
    · exact ⟨by omega, by omega, fun q => absurd q h2⟩
    · have := tl k.1
      exact ⟨by omega, by omega, fun q => absurd q h2⟩
    · have := tl k.1
      exact ⟨by omega, by omega, fun q => absurd q h2⟩
  · obtain ⟨hO, hT⟩ := syn_tok h1
    rcases h2 with ⟨k1, k2, k3⟩ | ⟨j, k1, k2⟩
    · exact ⟨by omega, by omega, by omega, fun q => by rw [(h3 q).2]; exact dTx_WF hO (h3 q).1 (Nat.le_refl _)⟩
    · obtain ⟨t, ht, hF⟩ := k1.1
      obtain ⟨-, b2, b3, b4, -⟩ := hF.sp hO ht
      have := hT.1 j b2
      exact ⟨b4, by omega, by omega, fun q => by omega⟩
def rdS (S : Sg) (f : Nat) (p : Int) (D : Dw) : Sg := if f = 0 then (0, sB S, p, D, 0, sF S, (fun _ => none)) else (0, sB S, p, sD S, sH S, sF S, sS S)
theorem SOK.rd {S : Sg} {f : Nat} {p : Int} {D : Dw} (h : SOK S) (hR : RdA (sB S) (sL S) f p D) : SOK (rdS S f p D) := by
  obtain ⟨h1, h2, h3, h4, h5, h6, h7, h8⟩ := h
  obtain ⟨b1, b2, b3, b4⟩ := hR.bd h5
  unfold rdS
  by_cases z : f = 0
  · rw [if_pos z]
    exact ⟨b4 z, by show (0 : Nat) ≤ 40; omega, fun i hi => absurd hi (Nat.not_lt_zero i), fun s _ D' k => by exact absurd k (by show ¬ (none : Option Dw) = some D'; exact fun q => by cases q), by show (0 : Nat) ≤ 2000; omega, fun i hi => absurd hi (Nat.not_lt_zero i), b2, b3⟩
  · rw [if_neg z]
    exact ⟨h1, h2, h3, h4, by show (0 : Nat) ≤ 2000; omega, fun i hi => absurd hi (Nat.not_lt_zero i), b2, b3⟩
theorem byt_f : ∀ b : Fin 256, vp_nar .byte (Int32.ofInt ((b.val : Int) - 128)) = Int32.ofInt ((b.val : Int) - 128) := by decide +kernel
theorem byt_rg {x : Int} (h1 : -128 ≤ x) (h2 : x ≤ 127) : byt x := by
  have := byt_f ⟨(x + 128).toNat, by omega⟩
  unfold byt
  rw [show (((⟨(x + 128).toNat, by omega⟩ : Fin 256).val : Int) - 128) = x by show (((x + 128).toNat : Nat) : Int) - 128 = x; omega] at this
  exact this
theorem tkd_56 {B : Nat → Int} {L i : Nat} : (tkd B L i = 5 → isLt (B i) = true ∧ lLt B L i ≤ 8) ∧ (tkd B L i = 6 → lDg B L i ≤ 4) := by
  unfold tkd
  by_cases z : isLt (B i) = true
  · rw [if_pos z]
    by_cases y : 8 < lLt B L i
    · rw [if_pos y]
      exact ⟨fun k => absurd k (by decide), fun k => absurd k (by decide)⟩
    · rw [if_neg y]
      refine ⟨fun _ => ⟨z, by omega⟩, fun k => ?_⟩
      split at k
      · exact absurd k (by decide)
      · split at k
        · exact absurd k (by decide)
        · split at k
          · exact absurd k (by decide)
          · split at k
            · exact absurd k (by decide)
            · exact absurd k (by decide)
  · rw [if_neg z]
    by_cases y : isDg (B i) = true
    · rw [if_pos y]
      by_cases x : 4 < lDg B L i
      · rw [if_pos x]
        exact ⟨fun k => absurd k (by decide), fun k => absurd k (by decide)⟩
      · exact ⟨fun k => by rw [if_neg x] at k; exact absurd k (by decide), fun _ => by omega⟩
    · rw [if_neg y]
      refine ⟨fun k => ?_, fun k => ?_⟩
      · split at k
        · exact absurd k (by decide)
        · exact absurd k (by decide)
      · split at k
        · exact absurd k (by decide)
        · exact absurd k (by decide)
theorem nm_same {B : Nat → Int} {L i j : Nat} (hi : i ≤ L) (hj : j ≤ L) : nmv 27 B L i = nmv 27 B L j ↔ nmv 32 B L i = nmv 32 B L j := by
  unfold nmv
  have d : ∀ k, k ≤ L → ∀ q, q < lLt B L k → 1 ≤ dgl B k q ∧ dgl B k q ≤ 26 := fun k hk q hq => by
    have := dgl_ok (B := B) hk hq
    exact ⟨this.1, this.2.1⟩
  constructor
  · intro h
    obtain ⟨e1, e2⟩ := vb_inj (by decide) _ _ (d i hi) (d j hj) h
    rw [vb_congr _ e2, e1]
  · intro h
    obtain ⟨e1, e2⟩ := vb_inj (by decide) _ _ (d i hi) (d j hj) h
    rw [vb_congr _ e2, e1]
theorem tsq_inc {B : Nat → Int} {L n : Nat} (hT : Tn B L n) {i : Nat} : ∀ j, i < j → j < n → tsq B L i < tsq B L j
  | 0, h, _ => by omega
  | j + 1, h, hj => by
    have hl := hT.1 j (by omega)
    have h1 := tnd_ok (B := B) hl
    have h2 := (nbk_ok (B := B) (L := L) (i := tnd B L (tsq B L j)) h1.2).1
    have st : tsq B L j < tsq B L (j + 1) := by
      show tsq B L j < nbk B L (tnd B L (tsq B L j))
      omega
    by_cases e : i = j
    · rw [e]; exact st
    · have := tsq_inc hT (i := i) j (by omega) (by omega)
      omega
theorem tok_bd {B : Nat → Int} {L n : Nat} (hT : Tn B L n) {j : Nat} (hj : j < n) : (kdT B L j = 5 → nmv 32 B L (tsq B L j) < 1099511627776 ∧ nmv 27 B L (tsq B L j) < 1099511627776) ∧ (kdT B L j = 6 → ivl B L (tsq B L j) < 10000) := by
  have hl := hT.1 j hj
  refine ⟨fun k => ?_, fun k => ?_⟩
  · have := vb32_8 (B := B) (L := L) (i := tsq B L j) (j := lLt B L (tsq B L j)) (by omega) (Nat.le_refl _) ((tkd_56.1 k).2)
    exact ⟨this.1, by have := this.2; unfold nmv; omega⟩
  · exact vb10_4 (B := B) (L := L) (i := tsq B L j) (j := lDg B L (tsq B L j)) (by omega) (Nat.le_refl _) (tkd_56.2 k)
theorem read_X {Q : Int → Wd → Prop} {w : Wd} {S : Sg} (hS : SOK S) (h : HX w S) (hT : TrOK w S) (hQ : ∀ w' f p D, RdA (sB S) (sL S) f p D → HX w' (rdS S f p D) → TrOK w' (rdS S f p D) → offQ w w' → Q (f : Int) w') : X10_read w Q := by
  obtain ⟨s1, s2, s3, s4, s5, s6, s7, s8⟩ := id hS
  unfold X10_read
  refine X6_scan_ok (B := sB S) (L := sL S) ⟨s5, h.1, fun i hi => ⟨h.2.1 i hi, s6 i hi⟩⟩ (fun w1 n t f p hsy a2 a3 a4 o1 => ?_)
  intro y2 e2 w3 e3
  rw [a2] at e2
  rw [a3] at e3
  subst e2
  have f2 := hsy.f2
  have o3 : ∀ c j, ¬ (c = 0 ∧ j = 16) → w3 c j = w1 c j := fun c j hc => by rw [e3, up_ap, if_neg hc]
  have bad : ∀ (w4 w5 : Wd) (f : Nat) (p : Int), f ≠ 0 → RdA (sB S) (sL S) f p (sD S) → w4 0 16 = p → (∀ c j, ¬ (c = 0 ∧ j = 16) → ¬ (9 ≤ c ∧ c ≤ 16 ∧ c ≠ 13) → w4 c j = w c j) → w5 = up w4 9 0 0 → Q (f : Int) w5 := fun w4 w5 f p hf hR hp o4 e5 => by
    have o5 : ∀ c j, ¬ (c = 0 ∧ j = 16) → ¬ (9 ≤ c ∧ c ≤ 16 ∧ c ≠ 13) → w5 c j = w c j := fun c j a b => by rw [e5, up_ap, if_neg (by omega)]; exact o4 c j a b
    have er : rdS S f p (sD S) = (0, sB S, p, sD S, sH S, sF S, sS S) := by unfold rdS; rw [if_neg hf]
    refine hQ w5 f p (sD S) hR ?_ ?_ (fun c j hc => o5 c j (by omega) (by omega))
    · rw [er]
      exact HX.gen hS h (fun c j a b => o5 c j (by omega) (by omega)) (by rw [e5, up_eq]; rfl) (fun i hi => absurd hi (Nat.not_lt_zero i)) (by rw [e5, up_ap, if_neg (by omega)]; exact hp)
    · rw [er]
      rcases hT with k | k
      · exact Or.inl (by rw [o5 _ _ (by omega) (by omega)]; exact k)
      · exact Or.inr (k.of (fun c j a b => o5 c j (by omega) (by omega)))
  rw [wr_nat (n := f) (by omega)]
  refine ⟨fun z => ?_, fun z => ?_⟩
  · have z : f = 0 := by omega
    subst z
    obtain ⟨hs0, -, -⟩ := syn_0 hsy
    obtain ⟨hO, hTn⟩ := syn_tok hs0
    obtain ⟨c1, c2⟩ := a4 rfl
    have hC : TCx w3 (txT (sB S) (sL S) n) (tsq (sB S) (sL S)) := by
      refine ⟨hO, by rw [o3 _ _ (by omega)]; exact c1, fun j hj => ?_⟩
      obtain ⟨k1, k2, k3, k4⟩ := c2 j hj
      have tb := tok_bd hTn hj
      have tl := hTn.1 j hj
      rw [o3 _ _ (by omega), o3 _ _ (by omega), o3 _ _ (by omega)]
      exact ⟨k1, tkd_lt _ _ _, k2, by omega, fun q => ⟨k3 q, (tb.1 q).1⟩, fun q => ⟨k4 q, tb.2 q⟩⟩
    refine X4_check_ok hC (fun w10 f p hse f6 v0 v1 P L T o10 => ?_)
    intro w12 e12
    rw [v1] at e12
    have o12 : ∀ c j, ¬ (c = 0 ∧ j = 16) → ¬ (9 ≤ c ∧ c ≤ 16 ∧ c ≠ 13) → w12 c j = w c j := fun c j a b => by rw [e12, up_ap, if_neg a, o10 c j (by omega) (by omega) (by omega), o3 c j a, o1 c j (by omega) (by omega) (by omega) (by omega)]
    unfold X10_read_b53
    rw [wr_nat (n := f) (by omega)]
    refine ⟨fun z => ?_, fun z w4 e4 => bad w12 w4 f p (by omega) (Or.inr ⟨n, hs0, hse, fun k => by omega⟩) (by rw [e12, up_eq]) o12 e4⟩
    have z : f = 0 := by omega
    subst z
    have hNo : NoF (txT (sB S) (sL S) n) ∧ p = -1 := by
      rcases hse with ⟨-, k2, k3⟩ | ⟨j, k1, -⟩
      · exact ⟨k3, k2⟩
      · obtain ⟨t', ht', hF'⟩ := k1.1
        have := (hF'.sp hO ht').2.2.1
        omega
    have u12 : ∀ c j, ¬ (c = 0 ∧ j = 16) → w12 c j = w10 c j := fun c j hc => by rw [e12, up_ap, if_neg hc]
    refine X4_build_ok (T := txT (sB S) (sL S) n) (pl := tsq (sB S) (sL S)) (hC.of (fun c j _ _ => by rw [u12 c j (by omega), o10 c j (by omega) (by omega) (by omega)])) hNo.1 ⟨by rw [u12 _ _ (by omega)]; exact P.1, fun i hi => by rw [u12 _ _ (by omega)]; exact P.2 i hi⟩ ⟨by rw [u12 _ _ (by omega)]; exact L.1, fun i hi => by rw [u12 _ _ (by omega)]; exact L.2 i hi⟩ ?_ (fun w5 R5 o5 => ?_)
    · obtain ⟨tw, g1, g2, g3⟩ := T
      exact ⟨tw, by rw [u12 _ _ (by omega)]; exact g1, g2, g3⟩
    · unfold X10_forgetPast
      intro w6 e6 w6' e6' w7 e7 w8 e8 w9 e9
      have o9 : ∀ c j, ¬ (c = 0 ∧ (j = 13 ∨ j = 14 ∨ j = 15 ∨ j = 17)) → ¬ (c = 9 ∧ j = 0) → w9 c j = w5 c j := fun c j a b => by rw [e9, up_ap, if_neg (by omega), e8, up_ap, if_neg (by omega), e7, up_ap, if_neg (by omega), e6', up_ap, if_neg (by omega), e6, up_ap, if_neg (by omega)]
      have ow : ∀ c j, ¬ (c = 0 ∧ (j = 13 ∨ j = 14 ∨ j = 15 ∨ j = 16 ∨ j = 17)) → ¬ (1 ≤ c ∧ c ≤ 4) → ¬ (9 ≤ c ∧ c ≤ 16 ∧ c ≠ 13) → w9 c j = w c j := fun c j a b d => by rw [o9 c j (by omega) (by omega), o5 c j (by omega) (by omega) (by omega) (by omega)]; exact o12 c j (by omega) d
      have er : rdS S 0 p (dTx (txT (sB S) (sL S) n) n) = (0, sB S, p, dTx (txT (sB S) (sL S) n) n, 0, sF S, (fun _ => none)) := by unfold rdS; rw [if_pos rfl]
      obtain ⟨h1, h2, h3, h4, h5, h6, h7, ⟨pn, h8, h9, h10⟩, ⟨b, h11, h12, h13⟩, h14⟩ := id h
      refine hQ w9 0 p _ (Or.inr ⟨n, hs0, hse, fun _ => ⟨hNo.1, rfl⟩⟩) ?_ ?_ (fun c j hc => ow c j (by omega) (by omega) (by omega))
      · rw [er]
        refine ⟨by rw [e9, up_eq]; rfl, fun i hi => absurd hi (Nat.not_lt_zero i), ?_, R5.of (fun c j a b => o9 c j (by omega) (by omega)), by rw [ow _ _ (by omega) (by omega) (by omega)]; exact h5, by rw [ow _ _ (by omega) (by omega) (by omega)]; exact h6, ?_, ⟨0, by decide, ?_, fun i hi => absurd hi (Nat.not_lt_zero i)⟩, ⟨0, by decide, ?_, fun s _ => by rw [Nat.zero_testBit]; rfl⟩, fun s _ D' k => by exact absurd k (by show ¬ (none : Option Dw) = some D'; exact fun q => by cases q)⟩
        · rw [o9 _ _ (by omega) (by omega), o5 _ _ (by omega) (by omega) (by omega) (by omega), e12, up_eq]
        · rw [e9, up_ap, if_neg (by omega), e8, up_ap, if_neg (by omega), e7, up_ap, if_neg (by omega), e6', up_eq]; rfl
        · rw [e9, up_ap, if_neg (by omega), e8, up_ap, if_neg (by omega), e7, up_ap, if_neg (by omega), e6', up_ap, if_neg (by omega), e6, up_eq]; rfl
        · rw [e9, up_ap, if_neg (by omega), e8, up_ap, if_neg (by omega), e7, up_eq]; rfl
      · exact Or.inl (by rw [e9, up_ap, if_neg (by omega), e8, up_eq]; decide)
  · unfold X10_read_b53
    rw [wr_nat (n := f) (by omega)]
    refine ⟨fun k => by omega, fun _ w4 e4 => bad w3 w4 f p (by omega) (Or.inl ⟨n, t, hsy, by omega⟩) (by rw [e3, up_eq]) (fun c j a b => by rw [o3 c j a, o1 c j (by omega) (by omega) (by omega) (by omega)]) e4⟩
