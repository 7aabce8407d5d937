/-! EULER for drawings -/
theorem ro_DH {D : Dw} (hW : WF D) : DH (4 * dM D) (ro D) (os D) := by
  have val : ∀ s, s < 4 * dM D → stA D s < 2 * dM D ∧ ro D s = enc D (if stB D s then ah D (stA D s) else bh D (stA D s)) (stB D s) := fun s hs => by
    have ha := stA_lt hs
    have e := ro_enc (D := D) (b := stB D s) ha
    rw [enc_st] at e
    exact ⟨ha, e⟩
  have sb : ∀ s, s < 4 * dM D → stB D (ro D s) = stB D s := fun s hs => by
    obtain ⟨ha, e⟩ := val s hs
    rw [e]
    cases q : stB D s
    · exact stB_enc (bh_ok hW ha).1
    · exact stB_enc (ah_ok hW ha).1
  have sbo : ∀ s, s < 4 * dM D → stB D (os D s) = !stB D s := fun s hs => by unfold os; exact stB_enc (stA_lt hs)
  refine ⟨fun s hs => (ro_ok hW hs).1, fun s hs => os_lt hs, fun s hs => os_os hs, fun s hs => ?_, fun s hs e => ?_, fun s hs e => ?_⟩
  · obtain ⟨ha, e⟩ := val s hs
    have hb := bh_ok hW ha
    have hc := ah_ok hW ha
    have eo : os D s = enc D (stA D s) (!stB D s) := rfl
    rw [e, eo]
    cases q : stB D s
    · simp only [Bool.false_eq_true, if_false, Bool.not_false]
      have e2 : os D (enc D (bh D (stA D s)) false) = enc D (bh D (stA D s)) true := by unfold os; rw [stA_enc hb.1, stB_enc hb.1]; rfl
      rw [e2, ro_enc hb.1]
      simp only [if_true]
      rw [hb.2.2]
    · simp only [if_true, Bool.not_true]
      have e2 : os D (enc D (ah D (stA D s)) true) = enc D (ah D (stA D s)) false := by unfold os; rw [stA_enc hc.1, stB_enc hc.1]; rfl
      rw [e2, ro_enc hc.1]
      simp only [Bool.false_eq_true, if_false]
      rw [hc.2.2]
  · have := sbo s hs
    rw [e] at this
    cases q : stB D s <;> rw [q] at this <;> exact absurd this (by decide)
  · have h1 := sbo s hs
    have h2 := sb s hs
    rw [e, h1] at h2
    cases q : stB D s <;> rw [q] at h2 <;> exact absurd h2 (by decide)
theorem ro_sb {D : Dw} (hW : WF D) {s : Nat} (hs : s < 4 * dM D) : stB D (ro D s) = stB D s := by
  have ha := stA_lt hs
  have e := ro_enc (D := D) (b := stB D s) ha
  rw [enc_st] at e
  rw [e]
  cases q : stB D s
  · exact stB_enc (bh_ok hW ha).1
  · exact stB_enc (ah_ok hW ha).1
theorem os_sb {D : Dw} {s : Nat} (hs : s < 4 * dM D) : stB D (os D s) = !stB D s := by unfold os; exact stB_enc (stA_lt hs)
theorem ro_cl {D : Dw} (hW : WF D) {s t : Nat} (hs : s < 4 * dM D) (ht : t < 4 * dM D) : Cl (ro D) (os D) s t ↔ pst D s = pst D t := by
  have hD := ro_DH hW
  have he := hD.eq
  have hp := hD.pm
  constructor
  · have key : ∀ u, u < 4 * dM D → On (ro D) u t → pst D u = pst D t := fun u hu ho => (On.ind hp (A := fun t => t < 4 * dM D ∧ pst D u = pst D t) (fun v hv k => ⟨hp.1 v hv, by rw [(ro_ok hW hv).2]; exact k.2⟩) hu ⟨hu, rfl⟩ ho).2
    rintro (h | h)
    · exact key s hs h
    · rw [← key _ (os_lt hs) h, pst_os hs]
  · intro e
    refine post_all hW (A := fun u => u < 4 * dM D ∧ Cl (ro D) (os D) s u) (fun u hu k => ⟨⟨os_lt hu, ?_⟩, ⟨(ro_ok hW hu).1, ?_⟩⟩) hs ht e ⟨hs, Or.inl (On.refl _ _)⟩ |>.2
    · exact he.2.2 s u _ hs hu (os_lt hu) k.2 (Or.inr (On.refl _ _))
    · exact he.2.2 s u _ hs hu (ro_ok hW hu).1 k.2 (Or.inl (On.step _ _))
/-- a post and a sense -/
def nds (D : Dw) (s : Nat) : Nat := pst D s + (if stB D s then dN D else 0)
theorem nds_eq {D : Dw} (hW : WF D) {s t : Nat} (hs : s < 4 * dM D) (ht : t < 4 * dM D) : nds D s = nds D t ↔ pst D s = pst D t ∧ stB D s = stB D t := by
  have h1 : pst D s < dN D := hW.2.2.1 _ (stA_lt hs)
  have h2 : pst D t < dN D := hW.2.2.1 _ (stA_lt ht)
  unfold nds
  cases stB D s <;> cases stB D t <;> simp <;> omega
theorem ro_on {D : Dw} (hW : WF D) {s t : Nat} (hs : s < 4 * dM D) (ht : t < 4 * dM D) : On (ro D) s t ↔ nds D s = nds D t := by
  have hD := ro_DH hW
  have hp := hD.pm
  have sb : ∀ u v, u < 4 * dM D → On (ro D) u v → stB D u = stB D v := fun u v hu ho => (On.ind hp (A := fun t => t < 4 * dM D ∧ stB D u = stB D t) (fun v hv k => ⟨hp.1 v hv, by rw [ro_sb hW hv]; exact k.2⟩) hu ⟨hu, rfl⟩ ho).2
  rw [nds_eq hW hs ht]
  constructor
  · intro h
    exact ⟨(ro_cl hW hs ht).mp (Or.inl h), sb s t hs h⟩
  · intro h
    rcases (ro_cl hW hs ht).mpr h.1 with k | k
    · exact k
    · have := sb _ _ (os_lt hs) k
      rw [os_sb hs, h.2] at this
      cases q : stB D t <;> rw [q] at this <;> exact absurd this (by decide)
theorem stA_a {D : Dw} {a : Nat} (ha : a < 2 * dM D) : stA D a = a := by unfold stA; rw [if_pos ha]
theorem stB_a {D : Dw} {a : Nat} (ha : a < 2 * dM D) : stB D a = false := by unfold stB; exact decide_eq_false (by omega)
theorem bh_pm {D : Dw} (hW : WF D) : PM (bh D) (2 * dM D) := ⟨fun a ha => (bh_ok hW ha).1, fun a b ha hb e => by rw [← (bh_ok hW ha).2.2, ← (bh_ok hW hb).2.2, e]⟩
theorem ro_a {D : Dw} {a : Nat} (ha : a < 2 * dM D) : ro D a = bh D a := by
  have := ro_enc (D := D) (a := a) (b := false) ha
  exact this
theorem bh_on {D : Dw} (hW : WF D) {a b : Nat} (ha : a < 2 * dM D) (hb : b < 2 * dM D) : On (bh D) a b ↔ dE D a = dE D b := by
  rw [On.congr (bh_pm hW) (fun s hs => ro_a hs) ha, ro_on hW (by omega) (by omega), nds_eq hW (by omega) (by omega)]
  unfold pst
  rw [stA_a ha, stA_a hb, stB_a ha, stB_a hb]
  exact ⟨fun h => h.1, fun h => ⟨h, rfl⟩⟩
/-- no line is twisted -/
def UT (D : Dw) : Prop := ∀ e, e < dM D → dT D e = false
theorem ut_pm {D : Dw} (hW : WF D) : PM (fun a => bh D (ox a)) (2 * dM D) := ⟨fun a ha => (bh_ok hW (ox_lt ha)).1, fun a b ha hb e => by
  have := (bh_pm hW).2 _ _ (ox_lt ha) (ox_lt hb) e
  rw [← ox_ox a, ← ox_ox b, this]⟩
theorem ut_nx {D : Dw} (hU : UT D) {a : Nat} (ha : a < 2 * dM D) : nx D a = bh D (ox a) := by
  have hc : cbk D a = false := by unfold cbk; rw [stA_a ha, stB_a ha, hU _ (by omega)]; rfl
  unfold nx
  rw [hc, stA_a ha]
  rfl
/-- leaders stand FORTH -/
theorem forth_ncl {D : Dw} {R : Nat → Nat → Prop} (h : ∀ s, 2 * dM D ≤ s → s < 4 * dM D → ∃ t, t < 2 * dM D ∧ R t s) : ncl R (4 * dM D) = ncl R (2 * dM D) := by
  have key : ∀ k, 2 * dM D + k ≤ 4 * dM D → ncl R (2 * dM D + k) = ncl R (2 * dM D) := by
    intro k
    induction k with
    | zero => intro _; rfl
    | succ k ih =>
      intro hk
      obtain ⟨t, h1, h2⟩ := h (2 * dM D + k) (by omega) (by omega)
      rw [show 2 * dM D + (k + 1) = (2 * dM D + k) + 1 by omega, ncl_no (fun z => z t (by omega) h2), ih (by omega)]
  have := key (2 * dM D) (by omega)
  rw [show 2 * dM D + 2 * dM D = 4 * dM D by omega] at this
  exact this
theorem ut_nF {D : Dw} (hW : WF D) (hU : UT D) : nF D (4 * dM D) = ncl (On (fun a => bh D (ox a))) (2 * dM D) := by
  have hF := face_DH hW
  have hp := hF.pm
  have hq := ut_pm hW
  have sbk : ∀ s, s < 4 * dM D → stB D (nx D s) = stB D s := fun s hs => by
    have ha := nx_arm hW hs
    unfold nx
    rw [stB_enc ha.1]
    unfold cbk
    rw [hU _ (by have := stA_lt hs; omega)]
    cases stB D s <;> rfl
  have smi : ∀ s, s < 4 * dM D → stB D (mi D s) = !stB D s := fun s hs => by
    unfold mi
    rw [stB_enc (ox_lt (stA_lt hs))]
    unfold cbk
    rw [hU _ (by have := stA_lt hs; omega)]
    cases stB D s <;> rfl
  have on_sb : ∀ u v, u < 4 * dM D → On (nx D) u v → stB D u = stB D v := fun u v hu ho => (On.ind hp (A := fun t => t < 4 * dM D ∧ stB D u = stB D t) (fun v hv k => ⟨hp.1 v hv, by rw [sbk v hv]; exact k.2⟩) hu ⟨hu, rfl⟩ ho).2
  unfold nF
  rw [forth_ncl (R := Fc D) (fun s h1 h2 => ?_)]
  · refine ncl_congr _ (fun j k hj hk => ?_)
    have e : On (fun a => bh D (ox a)) j k ↔ On (nx D) j k := On.congr hq (fun s hs => ut_nx hU hs) (by omega)
    rw [e]
    constructor
    · rintro (y | y)
      · exact y
      · have := on_sb _ _ (hF.2.1 j (by omega)) y
        rw [smi j (by omega), stB_a (by omega), stB_a hk] at this
        exact absurd this (by decide)
    · exact Or.inl
  · have hm := hF.2.1 s h2
    have hs : stB D s = true := by unfold stB; exact decide_eq_true h1
    have hms := smi s h2
    rw [hs] at hms
    refine ⟨mi D s, ?_, ?_⟩
    · unfold stB at hms
      have := of_decide_eq_false hms
      omega
    · exact Or.inr (by rw [hF.2.2.1 s h2]; exact On.refl _ _)
/-- Euler, where no line is twisted -/
theorem euler_ut {D : Dw} (hW : WF D) (hU : UT D) : dN D + nFa D ≤ dM D + 2 * nPt D (dM D) ∧ (dN D + nFa D + dM D) % 2 = 0 ∧ nPt D (dM D) ≤ nFa D := by
  have h := euler_fin (r := dM D) (g := bh D) (nd := dE D) (D := D) (bh_pm hW) (fun _ _ => rfl) (fun a b ha hb => bh_on hW ha hb)
  have e1 : ncl (On (bh D)) (2 * dM D) = ncl (fun a b => dE D a = dE D b) (2 * dM D) := ncl_congr _ (fun j k hj hk => bh_on hW (by omega) hk)
  have e2 := ut_nF hW hU
  have e3 := arm_posts hW
  have e4 := arm_parts hW
  rw [e1, ← e2] at h
  unfold nFa
  omega
/-! twisted lines: each post, each line twice -/
def b2n (b : Bool) : Nat := if b then 1 else 0
def psi (D : Dw) (A : Nat) : Nat := if A % 2 = 0 then enc D (2 * (A / 4)) (decide (A / 2 % 2 = 1)) else enc D (2 * (A / 4) + 1) (decide (A / 2 % 2 = 1) ^^ dT D (A / 4))
def psr (D : Dw) (s : Nat) : Nat := if stA D s % 2 = 0 then 4 * (stA D s / 2) + 2 * b2n (stB D s) else 4 * (stA D s / 2) + 2 * b2n (stB D s ^^ dT D (stA D s / 2)) + 1
theorem psi_lt {D : Dw} {A : Nat} (h : A < 4 * dM D) : psi D A < 4 * dM D := by
  unfold psi
  split <;> exact enc_lt (by omega)
theorem b2n_lt (b : Bool) : b2n b < 2 := by cases b <;> decide
theorem b2n_dec (b : Bool) : decide (b2n b = 1) = b := by cases b <;> decide
theorem psr_lt {D : Dw} {s : Nat} (h : s < 4 * dM D) : psr D s < 4 * dM D := by
  have ha := stA_lt h
  unfold psr
  have b1 := b2n_lt (stB D s)
  have b2 := b2n_lt (stB D s ^^ dT D (stA D s / 2))
  split <;> omega
theorem psi_psr {D : Dw} {s : Nat} (h : s < 4 * dM D) : psi D (psr D s) = s := by
  have ha := stA_lt h
  unfold psr
  by_cases z : stA D s % 2 = 0
  · rw [if_pos z]
    have b1 := b2n_lt (stB D s)
    unfold psi
    rw [if_pos (by omega), show (4 * (stA D s / 2) + 2 * b2n (stB D s)) / 4 = stA D s / 2 by omega, show (4 * (stA D s / 2) + 2 * b2n (stB D s)) / 2 % 2 = b2n (stB D s) by omega, b2n_dec, show 2 * (stA D s / 2) = stA D s by omega]
    exact enc_st s
  · rw [if_neg z]
    obtain ⟨c, hc⟩ : ∃ c, c = (stB D s ^^ dT D (stA D s / 2)) := ⟨_, rfl⟩
    rw [← hc]
    have b1 := b2n_lt c
    unfold psi
    rw [if_neg (by omega), show (4 * (stA D s / 2) + 2 * b2n c + 1) / 4 = stA D s / 2 by omega, show (4 * (stA D s / 2) + 2 * b2n c + 1) / 2 % 2 = b2n c by omega, b2n_dec, show 2 * (stA D s / 2) + 1 = stA D s by omega, hc]
    have : ((stB D s ^^ dT D (stA D s / 2)) ^^ dT D (stA D s / 2)) = stB D s := by cases stB D s <;> cases dT D (stA D s / 2) <;> rfl
    rw [this]
    exact enc_st s
theorem psr_psi {D : Dw} {A : Nat} (h : A < 4 * dM D) : psr D (psi D A) = A := by
  have d2 : b2n (decide (A / 2 % 2 = 1)) = A / 2 % 2 := by
    have : A / 2 % 2 = 0 ∨ A / 2 % 2 = 1 := by omega
    rcases this with q | q <;> rw [q] <;> decide
  unfold psi
  by_cases z : A % 2 = 0
  · rw [if_pos z]
    unfold psr
    rw [stA_enc (by omega), stB_enc (by omega), if_pos (by omega), d2]
    omega
  · rw [if_neg z]
    unfold psr
    rw [stA_enc (by omega), stB_enc (by omega), if_neg (by omega), show (2 * (A / 4) + 1) / 2 = A / 4 by omega]
    have : ((decide (A / 2 % 2 = 1) ^^ dT D (A / 4)) ^^ dT D (A / 4)) = decide (A / 2 % 2 = 1) := by cases decide (A / 2 % 2 = 1) <;> cases dT D (A / 4) <;> rfl
    rw [this, d2]
    omega
/-- along the line -/
def alo (D : Dw) (s : Nat) : Nat := enc D (ox (stA D s)) (cbk D s)
theorem alo_psi {D : Dw} {A : Nat} (h : A < 4 * dM D) : psi D (ox A) = alo D (psi D A) := by
  unfold alo
  by_cases z : A % 2 = 0
  · have e : ox A = A + 1 := by unfold ox; rw [if_pos z]
    rw [e]
    unfold psi cbk
    rw [if_pos z, if_neg (by omega), stA_enc (by omega), stB_enc (by omega), show (A + 1) / 4 = A / 4 by omega, show (A + 1) / 2 = A / 2 by omega, show 2 * (A / 4) / 2 = A / 4 by omega]
    have : ox (2 * (A / 4)) = 2 * (A / 4) + 1 := by unfold ox; rw [if_pos (by omega)]
    rw [this]
  · have e : ox A = A - 1 := by unfold ox; rw [if_neg z]
    rw [e]
    unfold psi cbk
    rw [if_neg z, if_pos (by omega), stA_enc (by omega), stB_enc (by omega), show (A - 1) / 4 = A / 4 by omega, show (A - 1) / 2 = A / 2 by omega, show (2 * (A / 4) + 1) / 2 = A / 4 by omega]
    have : ox (2 * (A / 4) + 1) = 2 * (A / 4) := by unfold ox; rw [if_neg (by omega)]; omega
    rw [this]
    have : ((decide (A / 2 % 2 = 1) ^^ dT D (A / 4)) ^^ dT D (A / 4)) = decide (A / 2 % 2 = 1) := by cases decide (A / 2 % 2 = 1) <;> cases dT D (A / 4) <;> rfl
    rw [this]
theorem nx_alo {D : Dw} {s : Nat} (h : s < 4 * dM D) : ro D (alo D s) = nx D s := by
  unfold alo
  rw [ro_enc (ox_lt (stA_lt h))]
  rfl
/-- the drawing with each post and each line twice -/
def dDb (D : Dw) : Dw := (2 * dN D, 2 * dM D, (fun A => nds D (psi D A)), (fun _ => false), (fun _ => 0), (fun _ _ => 0))
def sg2 (D : Dw) (A : Nat) : Nat := psr D (ro D (psi D A))
theorem sg2_pm {D : Dw} (hW : WF D) : PM (sg2 D) (4 * dM D) := by
  have hp := (ro_DH hW).pm
  refine ⟨fun A hA => psr_lt (hp.1 _ (psi_lt hA)), fun A B hA hB e => ?_⟩
  have e1 : psi D (sg2 D A) = psi D (sg2 D B) := by rw [e]
  unfold sg2 at e1
  rw [psi_psr (hp.1 _ (psi_lt hA)), psi_psr (hp.1 _ (psi_lt hB))] at e1
  have e2 := hp.2 _ _ (psi_lt hA) (psi_lt hB) e1
  rw [← psr_psi hA, ← psr_psi hB, e2]
theorem on_conj {f g h k : Nat → Nat} {N : Nat} (hg : PM g N) (hk1 : ∀ a, a < N → h a < N) (hk2 : ∀ a, a < N → k a < N) (hhk : ∀ a, a < N → k (h a) = a) (hkh : ∀ s, s < N → h (k s) = s) (e : ∀ a, a < N → f a = k (g (h a))) {a b : Nat} (ha : a < N) (hb : b < N) : On f a b ↔ On g (h a) (h b) := by
  have key : ∀ i, itr f i a = k (itr g i (h a)) := by
    intro i
    induction i with
    | zero => exact (hhk a ha).symm
    | succ i ih =>
      have hl := hg.lt i _ (hk1 a ha)
      rw [itr_succ, ih, e _ (hk2 _ hl), hkh _ hl, itr_succ]
  constructor
  · rintro ⟨i, hi⟩
    refine ⟨i, ?_⟩
    rw [key] at hi
    rw [← hi, hkh _ (hg.lt i _ (hk1 a ha))]
  · rintro ⟨i, hi⟩
    refine ⟨i, ?_⟩
    rw [key, hi, hhk b hb]
theorem ncl_bij {R T : Nat → Nat → Prop} {h k : Nat → Nat} {N : Nat} (hk1 : ∀ a, a < N → h a < N) (hk2 : ∀ a, a < N → k a < N) (hkh : ∀ s, s < N → h (k s) = s) (hR : EqR R N) (hT : EqR T N) (e : ∀ a b, a < N → b < N → (R a b ↔ T (h a) (h b))) : ncl R N = ncl T N := by
  rw [ncl_ccn, ncl_ccn]
  apply Nat.le_antisymm
  · refine ccn_rel (fun a l => T l (h a)) (fun a ha z => ?_) (fun a b l ha hb a1 b1 hl _ r1 r2 => ?_)
    · obtain ⟨l, l1, l2, l3⟩ := hT.ld _ _ (Nat.lt_succ_self _) (hk1 a ha)
      exact ⟨l, by have := hk1 a ha; omega, l2, l3⟩
    · exact hR.un ha hb a1 b1 ((e a b ha hb).mpr (hT.2.2 _ l _ (hk1 a ha) hl (hk1 b hb) (hT.2.1 _ _ hl (hk1 a ha) r1) r2))
  · refine ccn_rel (fun l a => T (h a) l) (fun l hl z => ?_) (fun l l' a hl hl' l1 l1' ha _ r1 r2 => ?_)
    · obtain ⟨a, a1, a2, a3⟩ := hR.ld _ _ (Nat.lt_succ_self _) (hk2 l hl)
      have ha : a < N := by have := hk2 l hl; omega
      have := (e a _ ha (hk2 l hl)).mp a3
      rw [hkh l hl] at this
      exact ⟨a, ha, a2, this⟩
    · exact hT.un hl hl' l1 l1' (hT.2.2 _ (h a) _ hl (hk1 a ha) hl' (hT.2.1 _ _ (hk1 a ha) hl r1) r2)
/-- classes that come in twos -/
theorem two_cover {R : Nat → Nat → Prop} {x : Nat → Nat} {N : Nat} (hR : EqR R N) (hx : ∀ s, s < N → x s < N) (hxx : ∀ s, s < N → x (x s) = s) (hxR : ∀ s t, s < N → t < N → R s t → R (x s) (x t)) : ncl R N ≤ 2 * ncl (fun s t => R s t ∨ R (x s) t) N ∧ ((∃ s, s < N ∧ R s (x s)) → ncl R N + 1 ≤ 2 * ncl (fun s t => R s t ∨ R (x s) t) N) := by
  obtain ⟨C, hCe⟩ : ∃ C : Nat → Nat → Prop, C = fun s t => R s t ∨ R (x s) t := ⟨_, rfl⟩
  have hCi : ∀ s t, C s t ↔ R s t ∨ R (x s) t := fun s t => by rw [hCe]
  rw [← hCe]
  have hC : EqR C N := by
    refine ⟨fun s hs => (hCi s s).mpr (Or.inl (hR.1 s hs)), fun s t hs ht y => (hCi t s).mpr ?_, fun s t u hs ht hu y z => (hCi s u).mpr ?_⟩
    · rcases (hCi s t).mp y with y | y
      · exact Or.inl (hR.2.1 s t hs ht y)
      · have := hxR _ _ (hx s hs) ht y
        rw [hxx s hs] at this
        exact Or.inr (hR.2.1 _ _ hs (hx t ht) this)
    · rcases (hCi s t).mp y with y | y <;> rcases (hCi t u).mp z with z | z
      · exact Or.inl (hR.2.2 s t u hs ht hu y z)
      · exact Or.inr (hR.2.2 _ _ u (hx s hs) (hx t ht) hu (hxR s t hs ht y) z)
      · exact Or.inr (hR.2.2 _ t u (hx s hs) ht hu y z)
      · have := hxR _ _ (hx s hs) ht y
        rw [hxx s hs] at this
        exact Or.inl (hR.2.2 s _ u hs (hx t ht) hu this z)
  have h1 : ccn (fun k => ldr R k ∧ ldr C k) N ≤ ccn (ldr C) N := ccn_imp (fun k _ z => z.2)
  have h2 : ccn (fun k => ldr R k ∧ ¬ ldr C k) N ≤ ccn (fun k => ldr C k ∧ ¬ R k (x k)) N := by
    refine ccn_rel (fun s l => R (x l) s) (fun s hs ⟨z1, z2⟩ => ?_) (fun s s' l hs hs' ⟨s1, _⟩ ⟨s1', _⟩ hl _ r1 r2 => ?_)
    · obtain ⟨l, l1, l2, l3⟩ := hC.ld _ _ (Nat.lt_succ_self _) hs
      have hl : l < N := by omega
      have hne : l ≠ s := fun y => z2 (by rw [← y]; exact l2)
      have hno : ¬ R l s := z1 l (by omega)
      have hy := ((hCi l s).mp l3).resolve_left hno
      exact ⟨l, hl, ⟨l2, fun y => hno (hR.2.2 l _ s hl (hx l hl) hs y hy)⟩, hy⟩
    · exact hR.un hs hs' s1 s1' (hR.2.2 s _ s' hs (hx l hl) hs' (hR.2.1 _ _ (hx l hl) hs r1) r2)
  have h3 := ccn_split (P := ldr C) (B := fun k => R k (x k)) N
  rw [ncl_ccn, ncl_ccn, ccn_split (P := ldr R) (B := ldr C)]
  refine ⟨by omega, fun ⟨s, hs, hss⟩ => ?_⟩
  obtain ⟨l, l1, l2, l3⟩ := hC.ld _ _ (Nat.lt_succ_self _) hs
  have hl : l < N := by omega
  have hll : R l (x l) := by
    rcases (hCi l s).mp l3 with y | y
    · have y2 := hxR _ _ hl hs y
      exact hR.2.2 l s _ hl hs (hx l hl) y (hR.2.2 s _ _ hs (hx s hs) (hx l hl) hss (hR.2.1 _ _ (hx l hl) (hx s hs) y2))
    · have y2 := hxR _ _ (hx l hl) hs y
      rw [hxx l hl] at y2
      exact hR.2.2 l _ _ hl (hx s hs) (hx l hl) y2 (hR.2.2 _ s _ (hx s hs) hs (hx l hl) (hR.2.1 _ _ hs (hx s hs) hss) (hR.2.1 _ _ (hx l hl) hs y))
  have := ccn_lt (P := fun k => ldr C k ∧ R k (x k)) hl ⟨l2, hll⟩
  omega
theorem nds_enc {D : Dw} {a : Nat} {b : Bool} (h : a < 2 * dM D) : nds D (enc D a b) = dE D a + (if b then dN D else 0) := by
  unfold nds pst
  rw [stA_enc h, stB_enc h]
theorem db_0 {D : Dw} {e : Nat} (he : e < dM D) : dE (dDb D) (2 * (2 * e)) = dE D (2 * e) := by
  show nds D (psi D (2 * (2 * e))) = _
  unfold psi
  rw [if_pos (by omega), show 2 * (2 * e) / 4 = e by omega, decide_eq_false (by omega), nds_enc (by omega)]
  rfl
theorem db_1 {D : Dw} {e : Nat} (he : e < dM D) : dE (dDb D) (2 * (2 * e) + 1) = dE D (2 * e + 1) + (if dT D e then dN D else 0) := by
  show nds D (psi D (2 * (2 * e) + 1)) = _
  unfold psi
  rw [if_neg (by omega), show (2 * (2 * e) + 1) / 4 = e by omega, decide_eq_false (by omega), nds_enc (by omega)]
  cases dT D e <;> rfl
theorem db_2 {D : Dw} {e : Nat} (he : e < dM D) : dE (dDb D) (2 * (2 * e + 1)) = dE D (2 * e) + dN D := by
  show nds D (psi D (2 * (2 * e + 1))) = _
  unfold psi
  rw [if_pos (by omega), show 2 * (2 * e + 1) / 4 = e by omega, decide_eq_true (by omega), nds_enc (by omega)]
  rfl
theorem db_3 {D : Dw} {e : Nat} (he : e < dM D) : dE (dDb D) (2 * (2 * e + 1) + 1) = dE D (2 * e + 1) + (if dT D e then 0 else dN D) := by
  show nds D (psi D (2 * (2 * e + 1) + 1)) = _
  unfold psi
  rw [if_neg (by omega), show (2 * (2 * e + 1) + 1) / 4 = e by omega, decide_eq_true (by omega), nds_enc (by omega)]
  cases dT D e <;> rfl
/-- the two lines above a line -/
theorem db_lines {D : Dw} {e : Nat} (he : e < dM D) : Con (dDb D) (2 * dM D) (dE D (2 * e)) (dE D (2 * e + 1) + (if dT D e then dN D else 0)) ∧ Con (dDb D) (2 * dM D) (dE D (2 * e) + dN D) (dE D (2 * e + 1) + (if dT D e then 0 else dN D)) := by
  have h1 := Con.line (dDb D) (k := 2 * dM D) (e := 2 * e) (by omega)
  have h2 := Con.line (dDb D) (k := 2 * dM D) (e := 2 * e + 1) (by omega)
  rw [db_0 he, db_1 he] at h1
  rw [db_2 he, db_3 he] at h2
  exact ⟨h1, h2⟩
theorem db_closed {D : Dw} {P : Nat → Prop} (h : ∀ e, e < dM D → (P (dE D (2 * e)) ↔ P (dE D (2 * e + 1) + (if dT D e then dN D else 0))) ∧ (P (dE D (2 * e) + dN D) ↔ P (dE D (2 * e + 1) + (if dT D e then 0 else dN D)))) {a b : Nat} (hc : Con (dDb D) (2 * dM D) a b) : P a ↔ P b := by
  refine Con.closed (P := P) (fun l hl => ?_) hc
  have : l = 2 * (l / 2) ∨ l = 2 * (l / 2) + 1 := by omega
  have he : l / 2 < dM D := by omega
  rcases this with y | y
  · rw [y, db_0 he, db_1 he]; exact (h _ he).1
  · rw [y, db_2 he, db_3 he]; exact (h _ he).2
/-- the same from the other side -/
def swp (D : Dw) (v : Nat) : Nat := if v < dN D then v + dN D else v - dN D
theorem db_swap {D : Dw} (hW : WF D) {u v : Nat} (h : Con (dDb D) (2 * dM D) u v) : Con (dDb D) (2 * dM D) (swp D u) (swp D v) := by
  have s0 : ∀ p, p < dN D → swp D p = p + dN D := fun p hp => by unfold swp; rw [if_pos hp]
  have s1 : ∀ p, p < dN D → swp D (p + dN D) = p := fun p hp => by unfold swp; rw [if_neg (by omega)]; omega
  refine (db_closed (P := fun v => Con (dDb D) (2 * dM D) (swp D u) (swp D v)) (fun e he => ?_) h).mp (Con.refl _ _ _)
  have b1 := hW.2.2.1 (2 * e) (by omega)
  have b2 := hW.2.2.1 (2 * e + 1) (by omega)
  have hl := db_lines he
  rw [s0 _ b1, s1 _ b1]
  cases q : dT D e
  · rw [q] at hl
    simp only [Bool.false_eq_true, if_false, Nat.add_zero] at hl ⊢
    rw [s0 _ b2, s1 _ b2]
    exact ⟨⟨fun k => k.trans hl.2, fun k => k.trans hl.2.symm⟩, ⟨fun k => k.trans hl.1, fun k => k.trans hl.1.symm⟩⟩
  · rw [q] at hl
    simp only [if_true, Nat.add_zero] at hl ⊢
    rw [s0 _ b2, s1 _ b2]
    exact ⟨⟨fun k => k.trans hl.2, fun k => k.trans hl.2.symm⟩, ⟨fun k => k.trans hl.1, fun k => k.trans hl.1.symm⟩⟩
theorem nds_os {D : Dw} (hW : WF D) {s : Nat} (hs : s < 4 * dM D) : nds D (os D s) = swp D (nds D s) := by
  have h1 : pst D s < dN D := hW.2.2.1 _ (stA_lt hs)
  unfold nds
  rw [pst_os hs, os_sb hs]
  unfold swp
  cases stB D s
  · simp only [Bool.not_false, if_true, Bool.false_eq_true, if_false, Nat.add_zero]
    rw [if_pos h1]
  · simp only [Bool.not_true, if_true, Bool.false_eq_true, if_false, Nat.add_zero]
    rw [if_neg (by omega)]
    omega
def RD (D : Dw) (s t : Nat) : Prop := Con (dDb D) (2 * dM D) (nds D s) (nds D t)
theorem RD_par {D : Dw} (hW : WF D) {s t : Nat} (hs : s < 4 * dM D) (ht : t < 4 * dM D) : (RD D s t ∨ RD D (os D s) t) ↔ Con D (dM D) (pst D s) (pst D t) := by
  have ps : pst D s < dN D := hW.2.2.1 _ (stA_lt hs)
  have pt : pst D t < dN D := hW.2.2.1 _ (stA_lt ht)
  have down : ∀ u, u < 4 * dM D → pst D u = pst D s → RD D u t → Con D (dM D) (pst D s) (pst D t) := fun u hu e h => by
    have md0 : ∀ p, p < dN D → (if p < dN D then p else p - dN D) = p := fun p hp => if_pos hp
    have md1 : ∀ p, p < dN D → (if p + dN D < dN D then p + dN D else p + dN D - dN D) = p := fun p hp => by rw [if_neg (by omega)]; omega
    have val : ∀ s, s < 4 * dM D → (if nds D s < dN D then nds D s else nds D s - dN D) = pst D s := fun s hs => by
      have : pst D s < dN D := hW.2.2.1 _ (stA_lt hs)
      unfold nds
      cases stB D s
      · simp only [Bool.false_eq_true, if_false, Nat.add_zero]; exact md0 _ this
      · simp only [if_true]; exact md1 _ this
    have := (db_closed (P := fun v => Con D (dM D) (pst D s) (if v < dN D then v else v - dN D)) (fun e he => by
      have b1 := hW.2.2.1 (2 * e) (by omega)
      have b2 := hW.2.2.1 (2 * e + 1) (by omega)
      have hl := Con.line D (k := dM D) he
      rw [md0 _ b1, md1 _ b1]
      cases q : dT D e
      · simp only [Bool.false_eq_true, if_false, Nat.add_zero]
        rw [md0 _ b2, md1 _ b2]
        exact ⟨⟨fun k => k.trans hl, fun k => k.trans hl.symm⟩, ⟨fun k => k.trans hl, fun k => k.trans hl.symm⟩⟩
      · simp only [if_true, Nat.add_zero]
        rw [md0 _ b2, md1 _ b2]
        exact ⟨⟨fun k => k.trans hl, fun k => k.trans hl.symm⟩, ⟨fun k => k.trans hl, fun k => k.trans hl.symm⟩⟩) h).mp (by
      rw [val u hu, e]; exact Con.refl _ _ _)
    rw [val t ht] at this
    exact this
  constructor
  · rintro (h | h)
    · exact down s hs rfl h
    · exact down _ (os_lt hs) (pst_os hs) h
  · intro h
    have key := (Con.closed (P := fun q => Con (dDb D) (2 * dM D) (nds D s) q ∨ Con (dDb D) (2 * dM D) (nds D s) (q + dN D)) (fun e he => by
      have hl := db_lines he
      cases q : dT D e
      · rw [q] at hl
        simp only [Bool.false_eq_true, if_false, Nat.add_zero] at hl
        exact ⟨fun k => k.imp (fun k => k.trans hl.1) (fun k => k.trans hl.2), fun k => k.imp (fun k => k.trans hl.1.symm) (fun k => k.trans hl.2.symm)⟩
      · rw [q] at hl
        simp only [if_true, Nat.add_zero] at hl
        exact ⟨fun k => k.elim (fun k => Or.inr (k.trans hl.1)) (fun k => Or.inl (k.trans hl.2)), fun k => k.elim (fun k => Or.inr (k.trans hl.2.symm)) (fun k => Or.inl (k.trans hl.1.symm))⟩) h).mp (by
      unfold nds
      cases stB D s
      · exact Or.inl (Con.refl _ _ _)
      · exact Or.inr (Con.refl _ _ _))
    have two : RD D s t ∨ RD D s (os D t) := by
      unfold RD
      rw [nds_os hW ht]
      unfold nds swp
      unfold nds at key
      cases q : stB D t
      · simp only [Bool.false_eq_true, if_false, Nat.add_zero]
        rw [if_pos pt]
        exact key
      · simp only [if_true]
        rw [if_neg (show ¬ pst D t + dN D < dN D by omega), show pst D t + dN D - dN D = pst D t by omega]
        exact key.symm
    rcases two with k | k
    · exact Or.inl k
    · right
      have := db_swap hW k
      unfold RD
      rw [nds_os hW hs]
      rw [nds_os hW ht] at this
      have e : swp D (swp D (nds D t)) = nds D t := by
        rw [← nds_os hW ht, ← nds_os hW (os_lt ht), os_os ht]
      rw [e] at this
      exact this
/-- Euler, whatever is twisted; where nothing that holds parts together is twisted, but something is, there is less -/
theorem euler_tw {D : Dw} (hW : WF D) : dN D + nFa D ≤ dM D + 2 * nPt D (dM D) ∧ ((∃ e, e < dM D ∧ dT D e = true) → (∀ e, e < dM D → ¬ Loose D e → dT D e = false) → dN D + nFa D + 1 ≤ dM D + 2 * nPt D (dM D)) := by
  have e4 : 2 * (2 * dM D) = 4 * dM D := by omega
  have hro := ro_DH hW
  have hrp := hro.pm
  have hF := face_DH hW
  have hFp := hF.pm
  have hsp := sg2_pm hW
  have onS : ∀ a b, a < 4 * dM D → b < 4 * dM D → (On (sg2 D) a b ↔ On (ro D) (psi D a) (psi D b)) := fun a b ha hb => on_conj hrp (fun a h => psi_lt h) (fun a h => psr_lt h) (fun a h => psr_psi h) (fun s h => psi_psr h) (fun a _ => rfl) ha hb
  have hS2 : ∀ a, a < 4 * dM D → sg2 D (ox a) = psr D (nx D (psi D a)) := fun a ha => by
    unfold sg2
    rw [alo_psi ha, nx_alo (psi_lt ha)]
  have onF : ∀ a b, a < 4 * dM D → b < 4 * dM D → (On (fun a => sg2 D (ox a)) a b ↔ On (nx D) (psi D a) (psi D b)) := fun a b ha hb => on_conj hFp (fun a h => psi_lt h) (fun a h => psr_lt h) (fun a h => psr_psi h) (fun s h => psi_psr h) hS2 ha hb
  have h := euler_fin (r := 2 * dM D) (g := sg2 D) (nd := fun A => nds D (psi D A)) (D := dDb D) (by rw [e4]; exact hsp) (fun _ _ => rfl) (fun a b ha hb => by
    rw [e4] at ha hb
    rw [onS a b ha hb]
    exact ro_on hW (psi_lt ha) (psi_lt hb))
  rw [e4] at h
  -- posts
  have v1 : ncl (On (sg2 D)) (4 * dM D) = ncl (On (ro D)) (4 * dM D) := ncl_bij (fun a h => psi_lt h) (fun a h => psr_lt h) (fun s h => psi_psr h) (On.eqR hsp) (On.eqR hrp) onS
  have v2 : ncl (Cl (ro D) (os D)) (4 * dM D) = ncl (fun a b => dE D a = dE D b) (2 * dM D) := by
    rw [forth_ncl (fun s h1 h2 => ⟨os D s, by rw [(os_val h2).1 h1]; omega, (ro_cl hW (os_lt h2) h2).mpr (pst_os h2)⟩)]
    refine ncl_congr _ (fun j k hj hk => ?_)
    rw [ro_cl hW (by omega) (by omega)]
    unfold pst
    rw [stA_a (by omega), stA_a hk]
  -- faces
  have hpf : PM (fun a => sg2 D (ox a)) (4 * dM D) := ⟨fun a ha => by show sg2 D (ox a) < 4 * dM D; rw [hS2 a ha]; exact psr_lt (hFp.1 _ (psi_lt ha)), fun a b ha hb e => by
    have e : sg2 D (ox a) = sg2 D (ox b) := e
    have oa : ox a < 4 * dM D := by have := ox_lt (m := 2 * dM D) (a := a) (by omega); omega
    have ob : ox b < 4 * dM D := by have := ox_lt (m := 2 * dM D) (a := b) (by omega); omega
    rw [← ox_ox a, ← ox_ox b, hsp.2 _ _ oa ob e]⟩
  have f1 : ncl (On (fun a => sg2 D (ox a))) (4 * dM D) = ncl (On (nx D)) (4 * dM D) := ncl_bij (fun a h => psi_lt h) (fun a h => psr_lt h) (fun s h => psi_psr h) (On.eqR hpf) (On.eqR hFp) onF
  -- parts
  have hRD : EqR (RD D) (4 * dM D) := ⟨fun s _ => Con.refl _ _ _, fun _ _ _ _ h => h.symm, fun _ _ _ _ _ _ h g => h.trans g⟩
  have hRA : EqR (fun a b => Con (dDb D) (2 * dM D) (nds D (psi D a)) (nds D (psi D b))) (4 * dM D) := ⟨fun s _ => Con.refl _ _ _, fun _ _ _ _ h => h.symm, fun _ _ _ _ _ _ h g => h.trans g⟩
  have p1 : ncl (fun a b => Con (dDb D) (2 * dM D) (nds D (psi D a)) (nds D (psi D b))) (4 * dM D) = ncl (RD D) (4 * dM D) := ncl_bij (fun a h => psi_lt h) (fun a h => psr_lt h) (fun s h => psi_psr h) hRA hRD (fun a b _ _ => Iff.rfl)
  have p2 : ncl (fun s t => RD D s t ∨ RD D (os D s) t) (4 * dM D) = ncl (fun a b => Con D (dM D) (dE D a) (dE D b)) (2 * dM D) := by
    rw [forth_ncl (fun s h1 h2 => ⟨os D s, by rw [(os_val h2).1 h1]; omega, (RD_par hW (os_lt h2) h2).mpr (by rw [pst_os h2]; exact Con.refl _ _ _)⟩)]
    refine ncl_congr _ (fun j k hj hk => ?_)
    rw [RD_par hW (by omega) (by omega)]
    unfold pst
    rw [stA_a (by omega), stA_a hk]
  have p3 := two_cover (R := RD D) (x := os D) hRD (fun s hs => os_lt hs) (fun s hs => os_os hs) (fun s t hs ht k => by
    unfold RD
    rw [nds_os hW hs, nds_os hW ht]
    exact db_swap hW k)
  rw [p2] at p3
  rw [v1, hro.two, v2, f1, hF.two, p1] at h
  have e3 := arm_posts hW
  have e5 := arm_parts hW
  have hnF : nF D (4 * dM D) = ncl (Cl (nx D) (mi D)) (4 * dM D) := rfl
  unfold nFa
  rw [hnF]
  refine ⟨by omega, fun ⟨e, he, hte⟩ hfor => ?_⟩
  have lift : ∀ k, k ≤ dM D → ∀ a b, Con D k a b → Con (dDb D) (2 * dM D) a b := by
    intro k
    induction k with
    | zero => intro _ a b hab; have hab : a = b := hab; rw [hab]; exact Con.refl _ _ _
    | succ k ih =>
      intro hk a b hab
      by_cases q : Loose D k
      · exact ih (by omega) a b ((nPt_same q).2 a b |>.mp hab)
      · have hl := (db_lines (D := D) (e := k) (by omega)).1
        rw [hfor k (by omega) q] at hl
        simp only [Bool.false_eq_true, if_false, Nat.add_zero] at hl
        rcases hab with hab | ⟨h1, h2⟩ | ⟨h1, h2⟩
        · exact ih (by omega) a b hab
        · exact ((ih (by omega) _ _ h1).trans hl).trans (ih (by omega) _ _ h2)
        · exact ((ih (by omega) _ _ h1).trans hl.symm).trans (ih (by omega) _ _ h2)
  have hloose : Loose D e := Classical.byContradiction (fun y => by rw [hfor e he y] at hte; exact absurd hte (by decide))
  have c1 := lift e (by omega) _ _ hloose
  have c2 := (db_lines he).1
  rw [hte] at c2
  simp only [if_true] at c2
  have hs : 2 * e + 1 < 2 * dM D := by omega
  have := p3.2 ⟨2 * e + 1, by omega, by
    unfold RD
    rw [nds_os hW (by omega)]
    have en : nds D (2 * e + 1) = dE D (2 * e + 1) := by
      unfold nds pst
      rw [stA_a hs, stB_a hs]; rfl
    have b2 := hW.2.2.1 (2 * e + 1) (by omega)
    rw [en]
    unfold swp
    rw [if_pos b2]
    exact c1.symm.trans c2⟩
  omega
