/-! HOW MANY ORBITS, HOW MANY FACES WITH LINES -/
theorem ixo1 {a : Nat} (h : a < 64) : ixo (a : Int) 1 = (ox a : Int) := by
  rw [show (1 : Int) = ((1 : Nat) : Int) from rfl, ixo_nat (by omega) (by omega), ox_xor h]
theorem ldr_next {R : Nat → Nat → Prop} {N s : Nat} (hR : EqR R N) (hs : s < N) (h : ¬ ldr R s) (a : Nat) (ha : a < N) : (∀ j, j < s → ¬ R j a) ↔ (∀ j, j < s + 1 → ¬ R j a) := by
  constructor
  · intro h1 j hj y
    by_cases z : j = s
    · subst z
      have : ∃ k, k < j ∧ R k j := Classical.byContradiction (fun n => h (fun k hk q => n ⟨k, hk, q⟩))
      obtain ⟨k, hk, hkR⟩ := this
      exact h1 k hk (hR.2.2 k j a (by omega) hs ha hkR y)
    · exact h1 j (by omega) y
  · exact fun h1 j hj => h1 j (by omega)
theorem X9_countForth_ok {K : Nat} {Q : Int → Wd → Prop} {w : Wd} {N : Nat} {B g : Nat → Nat} (hN : N ≤ 20) (h0 : w K 0 = (N : Int)) (hox : ∀ a, a < N → ox a < N) (hB : ∀ a, a < N → w (K + 1) a = (B a : Int)) (hg : ∀ a, a < N → g a = B (ox a)) (hp : PM g N) (hQ : Q (ncl (On g) N : Int) w) : X9_countForth K w Q := by
  have ho : EqR (On g) N := ⟨fun s _ => On.refl g s, fun s t hs _ y => y.symm hp hs, fun s t u _ _ _ y z => y.trans z⟩
  have p2 : ∀ L, L < 2 ^ N → L < 2147483648 := fun L hL => by
    have : 2 ^ N ≤ 2 ^ 20 := Nat.pow_le_pow_right (by decide) hN
    omega
  have inner : ∀ (e85 : Int → Int → Int → Wd → Prop) (s : Nat) (F : Int), s < N → ldr (On g) s → (∀ L, Bts L N (fun a => ∀ j, j < s + 1 → ¬ On g j a) → e85 (L : Int) F (s : Int) w) → ∀ (m i L : Nat), i ≤ per g N s → per g N s - i < m → Bts L N (fun a => (∀ j, j < s → ¬ On g j a) ∧ ∀ k, k < i → itr g k s ≠ a) → X9_countForth_l41 K Q e85 m (L : Int) F (s : Int) (itr g i s : Int) (i : Int) w := by
    intro e85 s F hs hl hK m
    have hper := per_ok hp hs
    induction m with
    | zero => intro i L a1 a2; omega
    | succ m ih =>
      intro i L a1 a2 hL
      have hai := hp.lt i s hs
      have ex : i = per g N s → e85 (L : Int) F (s : Int) w := fun hi => hK L (hL.congr (fun a ha => by
        constructor
        · rintro ⟨b1, b2⟩ j hj y
          by_cases z : j = s
          · subst z
            obtain ⟨k, k1, k2⟩ := y.pre hp hs
            exact b2 k (by omega) k2
          · exact b1 j (by omega) y
        · exact fun b => ⟨fun j hj => b j (by omega), fun k hk y => b s (by omega) ⟨k, y⟩⟩))
      unfold X9_countForth_l41
      rw [h0, wr_nat (n := N) (by omega), wr_nat (n := i) (by omega)]
      refine ⟨fun z => ex (by omega), fun z => ?_⟩
      rcases hL.bit (by omega) hai (itr g i s : Int) rfl with ⟨b, e⟩ | ⟨b, e⟩
      · rw [e]
        refine ⟨fun y => absurd y (by decide), fun _ => ?_⟩
        have hi : i < per g N s := by
          rcases Nat.lt_or_ge i (per g N s) with q | q
          · exact q
          · have : i = per g N s := by omega
            exact absurd (by rw [this, hper.2.2.1]; rfl) (b.2 0 (by omega))
        intro y2 e2
        have hp1 : 2 ^ itr g i s < 2 ^ N := Nat.pow_lt_pow_right (by decide) hai
        rw [isl1 (by omega), ian_not (p2 L hL.1) (p2 _ hp1)] at e2
        have hoi := hox _ hai
        rw [ixo1 (show itr g i s < 64 by omega)]
        refine ⟨ix_of rfl (by omega) (by decide), ?_⟩
        intro y3 e3
        rw [rd_of rfl (by omega), hB _ hoi, ← hg _ hai, ← itr_succ g i s] at e3
        subst e2 e3
        rw [show (i : Int) + 1 = ((i + 1 : Nat) : Int) by omega]
        refine ih (i + 1) _ hi (by omega) ((hL.clr (by omega) hai).congr (fun a ha => ?_))
        constructor
        · rintro ⟨⟨b1, b2⟩, b3⟩
          refine ⟨b1, fun k hk => ?_⟩
          by_cases q : k = i
          · rw [q]; exact fun y => b3 y.symm
          · exact b2 k (by omega)
        · exact fun ⟨b1, b2⟩ => ⟨⟨b1, fun k hk => b2 k (by omega)⟩, fun y => b2 i (by omega) y.symm⟩
      · rw [e]
        refine ⟨fun _ => ex ?_, fun y => absurd rfl y⟩
        rcases Nat.lt_or_ge i (per g N s) with q | q
        · exfalso
          refine b ⟨fun j hj y => hl j hj (y.trans (On.symm hp hs ⟨i, rfl⟩)), fun k hk y => ?_⟩
          have := per_dis hp hs (by omega) q y
          omega
        · omega
  have outer : ∀ (m s L : Nat), s ≤ N → N - s < m → Bts L N (fun a => ∀ j, j < s → ¬ On g j a) → X9_countForth_l13 K Q (X9_countForth_b91 K Q) m (L : Int) (ncl (On g) s : Int) (s : Int) w := by
    intro m
    induction m with
    | zero => intro s L a1 a2; omega
    | succ m ih =>
      intro s L a1 a2 hL
      unfold X9_countForth_l13
      rw [h0, wr_nat (n := N) (by omega), wr_nat (n := s) (by omega)]
      refine ⟨fun z => ?_, fun z => ?_⟩
      · unfold X9_countForth_b91
        have hs : s = N := by omega
        have := ncl_le (R := On g) s
        rw [wr_nat (by omega), hs]
        exact hQ
      · have hs : s < N := by omega
        rcases hL.bit (by omega) hs (s : Int) rfl with ⟨b, e⟩ | ⟨b, e⟩
        · rw [e]
          refine ⟨fun y => absurd y (by decide), fun _ => ⟨per g N s + 1, ?_⟩⟩
          have hl : ldr (On g) s := b
          refine inner _ s _ hs hl (fun L' hL' => ?_) (per g N s + 1) 0 L (by omega) (by omega) (hL.congr (fun a ha => ⟨fun b => ⟨b, fun k hk => by omega⟩, fun b => b.1⟩))
          unfold X9_countForth_b85
          rw [show (s : Int) + 1 = ((s + 1 : Nat) : Int) by omega, show (ncl (On g) s : Int) + 1 = (ncl (On g) (s + 1) : Int) by rw [ncl_ld hl]; omega]
          exact ih (s + 1) L' hs (by omega) hL'
        · rw [e]
          refine ⟨fun _ => ?_, fun y => absurd rfl y⟩
          have hl : ¬ ldr (On g) s := b
          unfold X9_countForth_b85
          rw [show (s : Int) + 1 = ((s + 1 : Nat) : Int) by omega, show (ncl (On g) s : Int) = (ncl (On g) (s + 1) : Int) by rw [ncl_no hl]]
          exact ih (s + 1) L hs (by omega) (hL.congr (fun a ha => ldr_next ho hs hl a ha))
  unfold X9_countForth
  intro y1 e1
  have h1 := Nat.two_pow_pos N
  rw [h0, isl1 (by omega), show ((2 ^ N : Nat) : Int) - 1 = ((2 ^ N - 1 : Nat) : Int) by omega] at e1
  subst e1
  exact ⟨N + 1, outer (N + 1) 0 _ (by omega) (by omega) ((Bts.all N).congr (fun a _ => ⟨fun _ j hj => by omega, fun _ => trivial⟩))⟩
theorem per_le {D : Dw} (hW : WF D) {s : Nat} (hs : s < 4 * dM D) (hl : ldr (Fc D) s) : tl (nx D) (4 * dM D) (Fc D) s + per (nx D) (4 * dM D) s ≤ 2 * dM D := by
  have := (nF_le hW (show s + 1 ≤ 4 * dM D by omega)).2
  rw [tl_ld hl] at this
  exact this
theorem X9_countAll_ok {K : Nat} {Q : Int → Wd → Prop} {w : Wd} {D : Dw} (hW : WF D) (hR : RepW w K D) (hQ : Q (nF D (4 * dM D) : Int) w) : X9_countAll K w Q := by
  have hm := hW.2.1
  have hD := face_DH hW
  have hp := hD.pm
  have ho : EqR (Fc D) (4 * dM D) := hD.eq
  obtain ⟨N, hN⟩ : ∃ N, N = 4 * dM D := ⟨_, rfl⟩
  have p2 : ∀ L, L < 2 ^ N → L < 9223372036854775808 := fun L hL => by
    have : 2 ^ N ≤ 2 ^ 40 := Nat.pow_le_pow_right (by decide) (by omega)
    omega
  have inner : ∀ (e105 : Int → Int → Int → Wd → Prop) (s : Nat) (F : Int), s < 4 * dM D → ldr (Fc D) s → (∀ L, Bts L N (fun a => ∀ j, j < s + 1 → ¬ Fc D j a) → e105 (L : Int) F (s : Int) w) → ∀ (m i L : Nat), i ≤ per (nx D) (4 * dM D) s → per (nx D) (4 * dM D) s - i < m → Bts L N (fun a => (∀ j, j < s → ¬ Fc D j a) ∧ ∀ k, k < i → itr (nx D) k s ≠ a ∧ mi D (itr (nx D) k s) ≠ a) → X9_countAll_l51 K Q e105 m (L : Int) F (s : Int) (itr (nx D) i s : Int) (i : Int) w := by
    intro e105 s F hs hl hK m
    have hper := per_ok hp hs
    have hple := per_le hW hs hl
    induction m with
    | zero => intro i L a1 a2; omega
    | succ m ih =>
      intro i L a1 a2 hL
      have hai := hp.lt i s hs
      have ex : i = per (nx D) (4 * dM D) s → e105 (L : Int) F (s : Int) w := fun hi => hK L (hL.congr (fun a ha => by
        constructor
        · rintro ⟨b1, b2⟩ j hj y
          by_cases z : j = s
          · subst z
            obtain ⟨k, k1, k2⟩ := (hD.cl hs).mp y
            rcases k2 with k2 | k2
            · exact (b2 k (by omega)).1 k2
            · exact (b2 k (by omega)).2 k2
          · exact b1 j (by omega) y
        · exact fun b => ⟨fun j hj => b j (by omega), fun k hk => ⟨fun y => b s (by omega) (Or.inl ⟨k, y⟩), fun y => b s (by omega) ((hD.cl hs).mpr ⟨k, by omega, Or.inr y⟩)⟩⟩))
      unfold X9_countAll_l51
      rw [hR.1, wr_nat (n := 2 * dM D) (by omega), wr_nat (n := i) (by omega)]
      refine ⟨fun z => ex (by omega), fun z => ?_⟩
      rcases hL.lbit (by omega) (show itr (nx D) i s < N by omega) (itr (nx D) i s : Int) rfl with ⟨b, e⟩ | ⟨b, e⟩
      · rw [e]
        refine ⟨fun y => absurd y (by decide), fun _ => ?_⟩
        have hi : i < per (nx D) (4 * dM D) s := by
          rcases Nat.lt_or_ge i (per (nx D) (4 * dM D) s) with q | q
          · exact q
          · have : i = per (nx D) (4 * dM D) s := by omega
            exact absurd (by rw [this, hper.2.2.1]; rfl) (b.2 0 (by omega)).1
        refine X9_opposite_ok hW hR _ rfl hai ?_
        have hmi := hD.2.1 _ hai
        intro y4 e4
        have hp1 : 2 ^ itr (nx D) i s < 2 ^ N := Nat.pow_lt_pow_right (by decide) (by omega)
        have hp2 : 2 ^ mi D (itr (nx D) i s) < 2 ^ N := Nat.pow_lt_pow_right (by decide) (by omega)
        rw [lsl1 (by omega), lsl1 (by omega), lor_nat (p2 _ hp1) (p2 _ hp2), lan_not (p2 L hL.1) (p2 _ (Nat.or_lt_two_pow hp1 hp2))] at e4
        refine X9_next_ok hW hR _ rfl hai ?_
        rw [← itr_succ (nx D) i s]
        subst e4
        rw [show (i : Int) + 1 = ((i + 1 : Nat) : Int) by omega]
        refine ih (i + 1) _ hi (by omega) ((hL.clr2 (by omega) (by omega) (by omega)).congr (fun a ha => ?_))
        constructor
        · rintro ⟨⟨b1, b2⟩, b3, b4⟩
          refine ⟨b1, fun k hk => ?_⟩
          by_cases q : k = i
          · rw [q]; exact ⟨fun y => b3 y.symm, fun y => b4 y.symm⟩
          · exact b2 k (by omega)
        · exact fun ⟨b1, b2⟩ => ⟨⟨b1, fun k hk => b2 k (by omega)⟩, fun y => (b2 i (by omega)).1 y.symm, fun y => (b2 i (by omega)).2 y.symm⟩
      · rw [e]
        refine ⟨fun _ => ex ?_, fun y => absurd rfl y⟩
        rcases Nat.lt_or_ge i (per (nx D) (4 * dM D) s) with q | q
        · exfalso
          refine b ⟨fun j hj y => hl j hj ?_, fun k hk => ⟨fun y => ?_, fun y => hD.ne hs y.symm⟩⟩
          · exact ho.2.2 j _ s (by omega) hai hs y (ho.2.1 s _ hs hai (Or.inl ⟨i, rfl⟩))
          · have := per_dis hp hs (by omega) q y
            omega
        · omega
  have outer : ∀ (m s L : Nat), s ≤ N → N - s < m → Bts L N (fun a => ∀ j, j < s → ¬ Fc D j a) → X9_countAll_l16 K Q (X9_countAll_b111 K Q) m (L : Int) (ncl (Fc D) s : Int) (s : Int) w := by
    intro m
    induction m with
    | zero => intro s L a1 a2; omega
    | succ m ih =>
      intro s L a1 a2 hL
      unfold X9_countAll_l16
      rw [hR.1, wr_id (x := 2 * ((2 * dM D : Nat) : Int)) (by omega) (by omega), wr_nat (n := s) (by omega)]
      refine ⟨fun z => ?_, fun z => ?_⟩
      · unfold X9_countAll_b111
        have hs : s = 4 * dM D := by omega
        have := ncl_le (R := Fc D) s
        rw [wr_nat (by omega), hs]
        exact hQ
      · have hs : s < 4 * dM D := by omega
        rcases hL.lbit (by omega) (show s < N by omega) (s : Int) rfl with ⟨b, e⟩ | ⟨b, e⟩
        · rw [e]
          refine ⟨fun y => absurd y (by decide), fun _ => ⟨per (nx D) (4 * dM D) s + 1, ?_⟩⟩
          have hl : ldr (Fc D) s := b
          refine inner _ s _ hs hl (fun L' hL' => ?_) (per (nx D) (4 * dM D) s + 1) 0 L (by omega) (by omega) (hL.congr (fun a ha => ⟨fun b => ⟨b, fun k hk => by omega⟩, fun b => b.1⟩))
          unfold X9_countAll_b105
          rw [show (s : Int) + 1 = ((s + 1 : Nat) : Int) by omega, show (ncl (Fc D) s : Int) + 1 = (ncl (Fc D) (s + 1) : Int) by rw [ncl_ld hl]; omega]
          exact ih (s + 1) L' (by omega) (by omega) hL'
        · rw [e]
          refine ⟨fun _ => ?_, fun y => absurd rfl y⟩
          have hl : ¬ ldr (Fc D) s := b
          unfold X9_countAll_b105
          rw [show (s : Int) + 1 = ((s + 1 : Nat) : Int) by omega, show (ncl (Fc D) s : Int) = (ncl (Fc D) (s + 1) : Int) by rw [ncl_no hl]]
          exact ih (s + 1) L (by omega) (by omega) (hL.congr (fun a ha => ldr_next ho hs hl a (by omega)))
  unfold X9_countAll
  intro y1 e1
  have h1 := Nat.two_pow_pos N
  rw [hR.1, show 2 * ((2 * dM D : Nat) : Int) = (N : Int) by omega, lsl1 (by omega), show ((2 ^ N : Nat) : Int) - 1 = ((2 ^ N - 1 : Nat) : Int) by omega] at e1
  subst e1
  exact ⟨N + 1, outer (N + 1) 0 _ (by omega) (by omega) ((Bts.all N).congr (fun a _ => ⟨fun _ j hj => by omega, fun _ => trivial⟩))⟩
