/-! TEXTS: tokens one behind the other, and what may follow what -/
def nbk (B : Nat → Int) (L i : Nat) : Nat := i + rl (fun j => isBl (B j)) L i
def tsq (B : Nat → Int) (L : Nat) : Nat → Nat
  | 0 => nbk B L 0
  | k + 1 => nbk B L (tnd B L (tsq B L k))
theorem nbk_ok {B : Nat → Int} {L i : Nat} (hi : i ≤ L) : i ≤ nbk B L i ∧ nbk B L i ≤ L ∧ (nbk B L i < L → isBl (B (nbk B L i)) = false) := by
  obtain ⟨h1, h2, h3⟩ := rl_ok (fun j => isBl (B j)) hi
  exact ⟨Nat.le_add_right _ _, h1, h3⟩
theorem nbk_b {B : Nat → Int} {L i : Nat} (hi : i < L) (h : isBl (B i) = true) : nbk B L i = nbk B L (i + 1) := by
  unfold nbk
  rw [rl_pos (P := fun j => isBl (B j)) hi h]
  omega
theorem nbk_n {B : Nat → Int} {L i : Nat} (h : i < L → isBl (B i) = false) : nbk B L i = i := by
  unfold nbk
  rw [rl_zero (P := fun j => isBl (B j)) h]
  rfl
/-- so many tokens -/
def Tn (B : Nat → Int) (L n : Nat) : Prop := (∀ k, k < n → tsq B L k < L) ∧ tsq B L n = L
theorem tsq_le {B : Nat → Int} {L : Nat} : ∀ k, (∀ j, j < k → tsq B L j < L) → tsq B L k ≤ L ∧ k ≤ tsq B L k
  | 0, _ => ⟨(nbk_ok (B := B) (Nat.zero_le L)).2.1, Nat.zero_le _⟩
  | k + 1, h => by
    have h1 := tsq_le k (fun j hj => h j (by omega))
    have h2 := tnd_ok (B := B) (h k (by omega))
    have h3 := nbk_ok (B := B) h2.2
    show nbk B L (tnd B L (tsq B L k)) ≤ L ∧ k + 1 ≤ nbk B L (tnd B L (tsq B L k))
    omega
theorem Tn_ex (B : Nat → Int) (L : Nat) : ∃ n, n ≤ L ∧ Tn B L n := by
  have key : ∀ m k, (∀ j, j < k → tsq B L j < L) → L - k < m → ∃ n, n ≤ L ∧ Tn B L n := by
    intro m
    induction m with
    | zero => intro k _ h; omega
    | succ m ih =>
      intro k hk h
      have h1 := tsq_le k hk
      by_cases z : tsq B L k < L
      · exact ih (k + 1) (fun j hj => by
          by_cases y : j = k
          · rw [y]; exact z
          · exact hk j (by omega)) (by omega)
      · exact ⟨k, by omega, hk, by omega⟩
  exact key (L + 1) 0 (fun j hj => by omega) (by omega)
theorem Tn.uq {B : Nat → Int} {L n m : Nat} (h : Tn B L n) (g : Tn B L m) : n = m := by
  rcases Nat.lt_trichotomy n m with z | z | z
  · have := g.1 n z; have := h.2; omega
  · exact z
  · have := h.1 m z; have := g.2; omega
def dlt (s k : Nat) : Nat := if s = 0 then (if k = 1 then 1 else if k = 2 then 2 else if k = 3 then 5 else 9) else if s = 1 then (if k = 5 then 8 else 9) else if s = 2 then (if k = 5 then 3 else 9) else if s = 3 then (if k = 5 then 4 else 9) else if s = 4 then (if k = 4 then 8 else if k = 7 then 0 else 9) else if s = 5 then (if k = 5 then 6 else 9) else if s = 6 then (if k = 6 then 7 else 9) else if s = 7 then (if k = 6 then 7 else if k = 7 then 0 else 9) else if s = 8 then (if k = 7 then 0 else 9) else 9
def stg (kd : Nat → Nat) : Nat → Nat
  | 0 => 0
  | t + 1 => dlt (stg kd t) (kd t)
def npc (kd : Nat → Nat) (t : Nat) : Nat := cnt (fun j => decide (kd j = 1)) t
def nlc (kd : Nat → Nat) (t : Nat) : Nat := cnt (fun j => decide (kd j = 2)) t
def Okt (kd : Nat → Nat) (t : Nat) : Prop := dlt (stg kd t) (kd t) ≠ 9 ∧ t < 400 ∧ ¬ (kd t = 1 ∧ 6 ≤ npc kd t) ∧ ¬ (kd t = 2 ∧ 10 ≤ nlc kd t)
theorem npc_s (kd : Nat → Nat) (t : Nat) : npc kd (t + 1) = npc kd t + (if kd t = 1 then 1 else 0) := by
  unfold npc
  by_cases z : kd t = 1
  · rw [cnt_y (f := fun j => decide (kd j = 1)) (decide_eq_true z), if_pos z]
  · rw [cnt_n (f := fun j => decide (kd j = 1)) (decide_eq_false z), if_neg z]; rfl
theorem nlc_s (kd : Nat → Nat) (t : Nat) : nlc kd (t + 1) = nlc kd t + (if kd t = 2 then 1 else 0) := by
  unfold nlc
  by_cases z : kd t = 2
  · rw [cnt_y (f := fun j => decide (kd j = 2)) (decide_eq_true z), if_pos z]
  · rw [cnt_n (f := fun j => decide (kd j = 2)) (decide_eq_false z), if_neg z]; rfl
theorem ite_le {p : Prop} {i : Decidable p} {a b c : Nat} (h1 : a ≤ c) (h2 : b ≤ c) : @ite Nat p i a b ≤ c := by by_cases z : p <;> simp only [z, if_true, if_false] <;> assumption
theorem dlt_le (s k : Nat) : dlt s k ≤ 9 := by
  unfold dlt
  repeat' first | apply ite_le | decide
theorem ok_bd {kd : Nat → Nat} : ∀ {t : Nat}, (∀ j, j < t → Okt kd j) → t ≤ 400 ∧ stg kd t ≤ 8 ∧ npc kd t ≤ 6 ∧ nlc kd t ≤ 10
  | 0, _ => ⟨by omega, by show 0 ≤ 8; omega, by show 0 ≤ 6; omega, by show 0 ≤ 10; omega⟩
  | t + 1, h => by
    obtain ⟨h1, h2, h3, h4⟩ := ok_bd (t := t) (fun j hj => h j (by omega))
    obtain ⟨g1, g2, g3, g4⟩ := h t (by omega)
    have hd := dlt_le (stg kd t) (kd t)
    refine ⟨by omega, by show dlt (stg kd t) (kd t) ≤ 8; omega, ?_, ?_⟩
    · rw [npc_s]; split <;> omega
    · rw [nlc_s]; split <;> omega
noncomputable def kdT (B : Nat → Int) (L t : Nat) : Nat := tkd B L (tsq B L t)
/-- the first fault of a text by itself -/
def SynA (B : Nat → Int) (L n t f : Nat) (p : Int) : Prop := Tn B L n ∧ t ≤ n ∧ (∀ j, j < t → Okt (kdT B L) j) ∧ ((t = n ∧ stg (kdT B L) n = 0 ∧ f = 0 ∧ p = -1) ∨ (t = n ∧ stg (kdT B L) n ≠ 0 ∧ f = 1 ∧ p = (L : Int)) ∨ (t < n ∧ dlt (stg (kdT B L) t) (kdT B L t) = 9 ∧ f = 1 ∧ p = (tsq B L t : Int)) ∨ (t < n ∧ dlt (stg (kdT B L) t) (kdT B L t) ≠ 9 ∧ ¬ Okt (kdT B L) t ∧ f = 2 ∧ p = (tsq B L t : Int)))
theorem SynA.uq {B : Nat → Int} {L n t f n' t' f' : Nat} {p p' : Int} (h : SynA B L n t f p) (g : SynA B L n' t' f' p') : n = n' ∧ t = t' ∧ f = f' ∧ p = p' := by
  obtain ⟨h1, h2, h3, h4⟩ := h
  obtain ⟨g1, g2, g3, g4⟩ := g
  have en := h1.uq g1
  subst en
  have bad : ∀ {s t : Nat}, t ≤ n → s < t → (∀ j, j < t → Okt (kdT B L) j) → ¬ (s = n ∨ dlt (stg (kdT B L) s) (kdT B L s) = 9 ∨ ¬ Okt (kdT B L) s) := fun hn hs ho k => by
    rcases k with k | k | k
    · omega
    · exact (ho _ hs).1 k
    · exact k (ho _ hs)
  have wh : ∀ {t f : Nat} {p : Int}, ((t = n ∧ stg (kdT B L) n = 0 ∧ f = 0 ∧ p = -1) ∨ (t = n ∧ stg (kdT B L) n ≠ 0 ∧ f = 1 ∧ p = (L : Int)) ∨ (t < n ∧ dlt (stg (kdT B L) t) (kdT B L t) = 9 ∧ f = 1 ∧ p = (tsq B L t : Int)) ∨ (t < n ∧ dlt (stg (kdT B L) t) (kdT B L t) ≠ 9 ∧ ¬ Okt (kdT B L) t ∧ f = 2 ∧ p = (tsq B L t : Int))) → (t = n ∨ dlt (stg (kdT B L) t) (kdT B L t) = 9 ∨ ¬ Okt (kdT B L) t) := fun k => by
    rcases k with k | k | k | k
    · exact Or.inl k.1
    · exact Or.inl k.1
    · exact Or.inr (Or.inl k.2.1)
    · exact Or.inr (Or.inr k.2.2.1)
  have et : t = t' := by
    rcases Nat.lt_trichotomy t t' with z | z | z
    · exact absurd (wh h4) (bad g2 z g3)
    · exact z
    · exact absurd (wh g4) (bad h2 z h3)
  subst et
  refine ⟨rfl, rfl, ?_⟩
  rcases h4 with ⟨a1, a2, a3, a4⟩ | ⟨a1, a2, a3, a4⟩ | ⟨a1, a2, a3, a4⟩ | ⟨a1, a2, a3, a4, a5⟩ <;> rcases g4 with ⟨b1, b2, b3, b4⟩ | ⟨b1, b2, b3, b4⟩ | ⟨b1, b2, b3, b4⟩ | ⟨b1, b2, b3, b4, b5⟩ <;> first | (exact ⟨by omega, by omega⟩) | (exact absurd b2 a2) | (exact absurd a2 b2) | omega
theorem fault_n {B : Nat → Int} {L t : Nat} (h : ∀ j, j ≤ t → tsq B L j < L) : ∃ n, Tn B L n ∧ t < n := by
  obtain ⟨n, -, hn⟩ := Tn_ex B L
  refine ⟨n, hn, ?_⟩
  rcases Nat.lt_or_ge t n with z | z
  · exact z
  · have := h n z
    have := hn.2
    omega
/-! the stages at the class -/
def dltI (s k : Nat) : Int := if dlt s k = 9 then -1 else (dlt s k : Int)
theorem dltI_v : ∀ s : Fin 9, ∀ k : Fin 100, dltI s.val k.val = if s.val = 0 then (if k.val = 1 then 1 else if k.val = 2 then 2 else if k.val = 3 then 5 else -1) else if s.val = 1 then (if k.val = 5 then 8 else -1) else if s.val = 2 then (if k.val = 5 then 3 else -1) else if s.val = 3 then (if k.val = 5 then 4 else -1) else if s.val = 4 then (if k.val = 4 then 8 else if k.val = 7 then 0 else -1) else if s.val = 5 then (if k.val = 5 then 6 else -1) else if s.val = 6 then (if k.val = 6 then 7 else -1) else if s.val = 7 then (if k.val = 6 then 7 else if k.val = 7 then 0 else -1) else if s.val = 8 then (if k.val = 7 then 0 else -1) else -1 := by decide +kernel
theorem st1 {Q : Int → Wd → Prop} {w : Wd} {k : Nat} (c d : Nat) (hk : k < 100) (hc : c < 100) (hd : d < 100) (hQ : Q (if k = c then (d : Int) else -1) w) : (wr (k : Int) = wr (c : Int) → Q (wr (d : Int)) w) ∧ (¬ wr (k : Int) = wr (c : Int) → Q (wr (-1)) w) := by
  rw [wr_nat (n := k) (by omega), wr_nat (n := c) (by omega), wr_nat (n := d) (by omega), show wr (-1) = -1 by decide]
  refine ⟨fun z => ?_, fun z => ?_⟩
  · rw [if_pos (by omega)] at hQ; exact hQ
  · rw [if_neg (by omega)] at hQ; exact hQ
theorem X6_signStage_ok {Q : Int → Wd → Prop} {w : Wd} {k : Nat} (hk : k < 100) (hQ : Q (if k = 7 then 0 else -1) w) : X6_signStage (k : Int) w Q := st1 (Q := Q) 7 0 hk (by decide) (by decide) hQ
theorem X6_stageBehind_ok {Q : Int → Wd → Prop} {w : Wd} {x : Int} (s k : Nat) (hx : x = (k : Int)) (hs : w 9 8 = (s : Int)) (hs8 : s ≤ 8) (hk : k < 100) (hQ : Q (dltI s k) w) : X6_stageBehind x w Q := by
  subst hx
  have e9 : dltI s k = if s = 0 then (if k = 1 then 1 else if k = 2 then 2 else if k = 3 then 5 else -1) else if s = 1 then (if k = 5 then 8 else -1) else if s = 2 then (if k = 5 then 3 else -1) else if s = 3 then (if k = 5 then 4 else -1) else if s = 4 then (if k = 4 then 8 else if k = 7 then 0 else -1) else if s = 5 then (if k = 5 then 6 else -1) else if s = 6 then (if k = 6 then 7 else -1) else if s = 7 then (if k = 6 then 7 else if k = 7 then 0 else -1) else if s = 8 then (if k = 7 then 0 else -1) else -1 := dltI_v ⟨s, by omega⟩ ⟨k, hk⟩
  rw [e9] at hQ
  have sg : ∀ v : Int, (v = if k = 7 then 0 else -1) → wr v = v := fun v hv => by rw [hv]; split <;> decide
  unfold X6_stageBehind
  intro t1 e1
  rw [hs, wr_nat (n := s) (by omega)] at e1
  subst e1
  refine ⟨fun z => ?_, fun z => ?_, fun z => ?_, fun z => ?_, fun z => ?_, fun z => ?_, fun z => ?_, fun z => ?_, fun z => ?_, fun z => by omega⟩
  · rw [if_pos (by omega)] at hQ
    unfold X6_tellStage
    intro t2 e2
    rw [wr_nat (n := k) (by omega)] at e2
    subst e2
    refine ⟨fun y => ?_, fun y => ?_, fun y => ?_, fun y => ?_⟩
    · rw [if_pos (by omega)] at hQ; exact hQ
    · rw [if_neg (by omega), if_pos (by omega)] at hQ; exact hQ
    · rw [if_neg (by omega), if_neg (by omega), if_pos (by omega)] at hQ; exact hQ
    · rw [if_neg (by omega), if_neg (by omega), if_neg (by omega)] at hQ; exact hQ
  · rw [if_neg (by omega), if_pos (by omega)] at hQ
    exact st1 (Q := Q) 5 8 hk (by decide) (by decide) hQ
  · rw [if_neg (by omega), if_neg (by omega), if_pos (by omega)] at hQ
    exact st1 (Q := Q) 5 3 hk (by decide) (by decide) hQ
  · rw [if_neg (by omega), if_neg (by omega), if_neg (by omega), if_pos (by omega)] at hQ
    exact st1 (Q := Q) 5 4 hk (by decide) (by decide) hQ
  · rw [if_neg (by omega), if_neg (by omega), if_neg (by omega), if_neg (by omega), if_pos (by omega)] at hQ
    rw [wr_nat (n := k) (by omega), show wr 4 = 4 by decide]
    refine ⟨fun y => ?_, fun y => X6_signStage_ok hk ?_⟩
    · rw [if_pos (by omega)] at hQ; exact hQ
    · rw [if_neg (by omega)] at hQ
      rw [sg _ rfl]; exact hQ
  · rw [if_neg (by omega), if_neg (by omega), if_neg (by omega), if_neg (by omega), if_neg (by omega), if_pos (by omega)] at hQ
    exact st1 (Q := Q) 5 6 hk (by decide) (by decide) hQ
  · rw [if_neg (by omega), if_neg (by omega), if_neg (by omega), if_neg (by omega), if_neg (by omega), if_neg (by omega), if_pos (by omega)] at hQ
    exact st1 (Q := Q) 6 7 hk (by decide) (by decide) hQ
  · rw [if_neg (by omega), if_neg (by omega), if_neg (by omega), if_neg (by omega), if_neg (by omega), if_neg (by omega), if_neg (by omega), if_pos (by omega)] at hQ
    rw [wr_nat (n := k) (by omega), show wr 6 = 6 by decide]
    refine ⟨fun y => ?_, fun y => X6_signStage_ok hk ?_⟩
    · rw [if_pos (by omega)] at hQ; exact hQ
    · rw [if_neg (by omega)] at hQ
      rw [sg _ rfl]; exact hQ
  · rw [if_neg (by omega), if_neg (by omega), if_neg (by omega), if_neg (by omega), if_neg (by omega), if_neg (by omega), if_neg (by omega), if_neg (by omega), if_pos (by omega)] at hQ
    refine X6_signStage_ok hk ?_
    rw [sg _ rfl]; exact hQ
theorem tkd_lt (B : Nat → Int) (L i : Nat) : tkd B L i < 8 := by
  unfold tkd
  repeat' split
  all_goals omega
/-- the tokens taken -/
def TkX (w : Wd) (B : Nat → Int) (L t : Nat) : Prop := ∀ j, j < t → w 10 j = (kdT B L j : Int) ∧ w 11 j = (tsq B L j : Int) ∧ (kdT B L j = 5 → w 12 j = (nmv 32 B L (tsq B L j) : Int)) ∧ (kdT B L j = 6 → w 12 j = (ivl B L (tsq B L j) : Int))
/-- how far a scan has come -/
def ScX (w : Wd) (B : Nat → Int) (L t : Nat) : Prop := w 9 2 = 0 ∧ w 9 3 = -1 ∧ w 9 1 = (t : Int) ∧ w 9 8 = (stg (kdT B L) t : Int) ∧ w 9 9 = (npc (kdT B L) t : Int) ∧ w 9 10 = (nlc (kdT B L) t : Int) ∧ TkX w B L t ∧ (∀ j, j < t → Okt (kdT B L) j) ∧ (∀ j, j < t → tsq B L j < L)
def offS (w w' : Wd) : Prop := ∀ c j, ¬ (c = 9 ∧ j ≠ 0) → c ≠ 10 → c ≠ 11 → c ≠ 12 → w' c j = w c j
theorem X6_takeToken_ok {Q : Wd → Prop} {w : Wd} {B : Nat → Int} {L : Nat} {x : Int} (t : Nat) (hx : x = (tsq B L t : Int)) (hL : L ≤ 2000) (ht : tsq B L t < L) (hK : LkX w B L (tsq B L t)) (h : ScX w B L t) (h1 : Okt (kdT B L) t → ∀ w', ScX w' B L (t + 1) → w' 9 12 = w 9 12 → offS w w' → Q w') (h2 : ∀ n f p, SynA B L n t f p → f ≠ 0 → ∀ w', w' 9 2 = (f : Int) → w' 9 3 = p → offS w w' → Q w') : X6_takeToken x w Q := by
  subst hx
  obtain ⟨k1, k2, k3, k4⟩ := hK
  obtain ⟨s1, s2, s3, s4, s5, s6, s7, s8, s9⟩ := h
  obtain ⟨b1, b2, b3, b4⟩ := ok_bd s8
  have hkl : kdT B L t < 8 := tkd_lt B L _
  have ek : w 9 11 = (kdT B L t : Int) := k1
  obtain ⟨n, hn, htn⟩ := fault_n (B := B) (L := L) (t := t) (fun j hj => by
    by_cases z : j = t
    · rw [z]; exact ht
    · exact s9 j (by omega))
  have fl : ∀ f : Nat, SynA B L n t f (tsq B L t : Int) → f ≠ 0 → X6_fail (f : Int) (tsq B L t : Int) w (fun w11 => Q w11) := fun f hS hf => by
    unfold X6_fail
    intro w1 e1 w2 e2
    exact h2 n f _ hS hf w2 (by rw [e2, up_ap, if_neg (by omega), e1, up_eq]) (by rw [e2, up_eq]) (fun c j c1 c2 c3 c4 => by rw [e2, up_ap, if_neg (by omega), e1, up_ap, if_neg (by omega)])
  unfold X6_takeToken
  rw [ek]
  refine X6_stageBehind_ok _ _ rfl s4 b2 (by omega) ?_
  have hd9 := dlt_le (stg (kdT B L) t) (kdT B L t)
  unfold dltI
  by_cases z : dlt (stg (kdT B L) t) (kdT B L t) = 9
  · rw [if_pos z]
    refine ⟨fun _ => fl 1 ⟨hn, by omega, s8, Or.inr (Or.inr (Or.inl ⟨htn, z, rfl, rfl⟩))⟩ (by decide), fun k => absurd rfl k⟩
  · rw [if_neg z, wr_nat (n := dlt (stg (kdT B L) t) (kdT B L t)) (by omega), show wr (-1) = -1 by decide]
    refine ⟨fun k => by omega, fun _ => ?_⟩
    have room : ¬ Okt (kdT B L) t → X6_takeToken_b65 Q (tsq B L t : Int) w := fun k => fl 2 ⟨hn, by omega, s8, Or.inr (Or.inr (Or.inr ⟨htn, z, k, rfl, rfl⟩))⟩ (by decide)
    rw [s3, s5, ek, wr_nat (n := t) (by omega), wr_nat (n := npc (kdT B L) t) (by omega), wr_nat (n := kdT B L t) (by omega), show wr 400 = 400 by decide, show wr 6 = 6 by decide, show wr 1 = 1 by decide]
    refine ⟨fun y => room (fun k => by have := k.2.1; omega), fun y => ?_⟩
    -- taken
    have take : Okt (kdT B L) t → X6_takeToken_b72 Q (tsq B L t : Int) (dlt (stg (kdT B L) t) (kdT B L t) : Int) w := fun ok => by
      have ht400 := ok.2.1
      have b112 : ∀ (v : Wd) (a b : Nat), (∀ c j, ¬ (c = 9 ∧ j = 9) → v c j = w c j) → v 9 9 = (npc (kdT B L) (t + 1) : Int) → a + b = nlc (kdT B L) (t + 1) → X6_takeToken_b112 Q (tsq B L t : Int) (dlt (stg (kdT B L) t) (kdT B L t) : Int) (a : Int) (b : Int) v := by
        intro v a b vo v9 hab
        unfold X6_takeToken_b112
        intro w5 e5
        have o5 : ∀ c j, ¬ (c = 9 ∧ (j = 9 ∨ j = 10)) → w5 c j = w c j := fun c j hc => by rw [e5, up_ap, if_neg (by omega), vo c j (by omega)]
        rw [o5 9 1 (by omega), s3]
        refine ⟨ix_of rfl (by omega) (by decide), fun w6 e6 => ?_⟩
        rw [wt_of rfl (by omega), o5 9 11 (by omega), ek] at e6
        have o6 : ∀ c j, ¬ (c = 10 ∧ j = t) → w6 c j = w5 c j := fun c j hc => by rw [e6, up_ap, if_neg hc]
        rw [o6 9 1 (by omega), o5 9 1 (by omega), s3]
        refine ⟨ix_of rfl (by omega) (by decide), fun w7 e7 => ?_⟩
        rw [wt_of rfl (by omega)] at e7
        have o7 : ∀ c j, ¬ (c = 11 ∧ j = t) → w7 c j = w6 c j := fun c j hc => by rw [e7, up_ap, if_neg hc]
        rw [o7 9 1 (by omega), o6 9 1 (by omega), o5 9 1 (by omega), s3]
        refine ⟨ix_of rfl (by omega) (by decide), fun w8 e8 w9 e9 w10 e10 => ?_⟩
        rw [wt_of rfl (by omega), o7 9 13 (by omega), o6 9 13 (by omega), o5 9 13 (by omega)] at e8
        have o8 : ∀ c j, ¬ (c = 12 ∧ j = t) → w8 c j = w7 c j := fun c j hc => by rw [e8, up_ap, if_neg hc]
        rw [o8 9 1 (by omega), o7 9 1 (by omega), o6 9 1 (by omega), o5 9 1 (by omega), s3] at e9
        have all : ∀ c j, ¬ (c = 9 ∧ (j = 1 ∨ j = 8 ∨ j = 9 ∨ j = 10)) → ¬ ((c = 10 ∨ c = 11 ∨ c = 12) ∧ j = t) → w10 c j = w c j := fun c j c1 c2 => by
          rw [e10, up_ap, if_neg (by omega), e9, up_ap, if_neg (by omega), o8 c j (by omega), o7 c j (by omega), o6 c j (by omega), o5 c j (by omega)]
        refine h1 ok w10 ⟨by rw [all _ _ (by omega) (by omega)]; exact s1, by rw [all _ _ (by omega) (by omega)]; exact s2, ?_, ?_, ?_, ?_, fun j hj => ?_, fun j hj => ?_, fun j hj => ?_⟩ (all _ _ (by omega) (by omega)) (fun c j c1 c2 c3 c4 => all c j (by omega) (by omega))
        · rw [e10, up_ap, if_neg (by omega), e9, up_eq]; omega
        · rw [e10, up_eq]; rfl
        · rw [e10, up_ap, if_neg (by omega), e9, up_ap, if_neg (by omega), o8 _ _ (by omega), o7 _ _ (by omega), o6 _ _ (by omega), e5, up_ap, if_neg (by omega)]; exact v9
        · rw [e10, up_ap, if_neg (by omega), e9, up_ap, if_neg (by omega), o8 _ _ (by omega), o7 _ _ (by omega), o6 _ _ (by omega), e5, up_eq, ← hab]; omega
        · by_cases q : j = t
          · subst q
            have v12 : w10 12 j = w 9 13 := by rw [e10, up_ap, if_neg (by omega), e9, up_ap, if_neg (by omega), e8, up_eq]
            refine ⟨?_, ?_, fun q => ?_, fun q => ?_⟩
            · rw [e10, up_ap, if_neg (by omega), e9, up_ap, if_neg (by omega), o8 _ _ (by omega), o7 _ _ (by omega), e6, up_eq]
            · rw [e10, up_ap, if_neg (by omega), e9, up_ap, if_neg (by omega), o8 _ _ (by omega), e7, up_eq]
            · rw [v12]; exact k3 q
            · rw [v12]; exact k4 q
          · have := s7 j (by omega)
            rw [all _ _ (by omega) (by omega), all _ _ (by omega) (by omega), all _ _ (by omega) (by omega)]
            exact this
        · by_cases q : j = t
          · rw [q]; exact ok
          · exact s8 j (by omega)
        · by_cases q : j = t
          · rw [q]; exact ht
          · exact s9 j (by omega)
      have b90 : ∀ (a : Nat), npc (kdT B L) t + a = npc (kdT B L) (t + 1) → X6_takeToken_b90 Q (tsq B L t : Int) (dlt (stg (kdT B L) t) (kdT B L t) : Int) (a : Int) (w 9 9) w := by
        intro a ha
        unfold X6_takeToken_b90
        intro w4 e4
        have o4 : ∀ c j, ¬ (c = 9 ∧ j = 9) → w4 c j = w c j := fun c j hc => by rw [e4, up_ap, if_neg hc]
        have n4 : w4 9 9 = (npc (kdT B L) (t + 1) : Int) := by rw [e4, up_eq, s5, ← ha]; omega
        rw [o4 9 11 (by omega), ek, o4 9 10 (by omega), s6, wr_nat (n := kdT B L t) (by omega), show wr 2 = 2 by decide]
        have hnl := nlc_s (kdT B L) t
        refine ⟨fun q => b112 w4 1 _ o4 n4 (by rw [hnl, if_pos (by omega)]; omega), fun q => b112 w4 0 _ o4 n4 (by rw [hnl, if_neg (by omega)]; omega)⟩
      unfold X6_takeToken_b72
      have hnp := npc_s (kdT B L) t
      rw [ek, wr_nat (n := kdT B L t) (by omega), show wr 1 = 1 by decide]
      exact ⟨fun q => b90 1 (by rw [hnp, if_pos (by omega)]), fun q => b90 0 (by rw [hnp, if_neg (by omega)])⟩
    have b48 : ¬ (kdT B L t = 1 ∧ 6 ≤ npc (kdT B L) t) → X6_takeToken_b48 Q (tsq B L t : Int) (dlt (stg (kdT B L) t) (kdT B L t) : Int) w := fun hp => by
      unfold X6_takeToken_b48
      rw [ek, s6, wr_nat (n := kdT B L t) (by omega), wr_nat (n := nlc (kdT B L) t) (by omega), show wr 2 = 2 by decide, show wr 10 = 10 by decide]
      refine ⟨fun q => ⟨fun q2 => take ⟨z, by omega, hp, by omega⟩, fun q2 => room (fun k => k.2.2.2 (by omega))⟩, fun q => take ⟨z, by omega, hp, by omega⟩⟩
    refine ⟨fun q => ⟨fun q2 => room (fun k => k.2.2.1 (by omega)), fun q2 => b48 (by omega)⟩, fun q => b48 (by omega)⟩
theorem X6_scan_ok {Q : Wd → Prop} {w : Wd} {B : Nat → Int} {L : Nat} (hT : TpX w B L) (hQ : ∀ w' n t f p, SynA B L n t f p → w' 9 2 = (f : Int) → w' 9 3 = p → (f = 0 → w' 9 1 = (n : Int) ∧ TkX w' B L n) → offS w w' → Q w') : X6_scan w Q := by
  have hL := hT.1
  unfold X6_scan
  intro w1 e1 w2 e2 w3 e3 w4 e4 w5 e5 w6 e6
  have v6 : ∀ c j, ¬ (c = 9 ∧ (j = 1 ∨ j = 2 ∨ j = 3 ∨ j = 8 ∨ j = 9 ∨ j = 10)) → w6 c j = w c j := fun c j hc => by
    rw [e6, up_ap, if_neg (by omega), e5, up_ap, if_neg (by omega), e4, up_ap, if_neg (by omega), e3, up_ap, if_neg (by omega), e2, up_ap, if_neg (by omega), e1, up_ap, if_neg (by omega)]
  have bad : ∀ (v : Wd) n t f p, SynA B L n t f p → f ≠ 0 → v 9 2 = (f : Int) → v 9 3 = p → offS w v → X6_scan_b95 Q v := fun v n t f p hS hf v2 v3 vo => by
    have hf2 : f ≤ 2 := by
      rcases hS.2.2.2 with k | k | k | k
      · omega
      · omega
      · omega
      · omega
    unfold X6_scan_b95
    rw [v2, wr_nat (n := f) (by omega)]
    exact ⟨fun z => by omega, fun _ => hQ v n t f p hS v2 v3 (fun k => absurd k hf) vo⟩
  have fin : ∀ (v : Wd) (t : Nat), ScX v B L t → tsq B L t = L → offS w v → X6_scan_b95 Q v := fun v t hS hts vo => by
    obtain ⟨s1, s2, s3, s4, s5, s6, s7, s8, s9⟩ := id hS
    obtain ⟨b1, b2, b3, b4⟩ := ok_bd s8
    have hn : Tn B L t := ⟨s9, hts⟩
    unfold X6_scan_b95
    rw [s1, s4, wr_nat (n := stg (kdT B L) t) (by omega)]
    refine ⟨fun _ => ⟨fun z => ?_, fun z => ?_⟩, fun z => absurd (by decide) z⟩
    · exact hQ v t t 0 (-1) ⟨hn, Nat.le_refl _, s8, Or.inl ⟨rfl, by omega, rfl, rfl⟩⟩ s1 s2 (fun _ => ⟨s3, s7⟩) vo
    · have e0 : v 9 0 = (L : Int) := by rw [vo _ _ (by omega) (by decide) (by decide) (by decide)]; exact hT.2.1
      rw [e0]
      unfold X6_fail
      intro w7 e7 w8 e8
      exact hQ w8 t t 1 (L : Int) ⟨hn, Nat.le_refl _, s8, Or.inr (Or.inl ⟨rfl, by omega, rfl, rfl⟩)⟩ (by rw [e8, up_ap, if_neg (by omega), e7, up_eq]; rfl) (by rw [e8, up_eq]) (fun k => absurd k (by decide)) (fun c j c1 c2 c3 c4 => by rw [e8, up_ap, if_neg (by omega), e7, up_ap, if_neg (by omega)]; exact vo c j c1 c2 c3 c4)
  have loop : ∀ (m i st t : Nat) (v : Wd), i ≤ L → st ≤ i → L - i < m → nbk B L i = tsq B L t → ScX v B L t → offS w v → X6_scan_l34 Q (X6_scan_b95 Q) m (i : Int) (st : Int) v := by
    intro m
    induction m with
    | zero => intro i st t v a1 a2 a3; omega
    | succ m ih =>
      intro i st t v a1 a2 a3 hnb hS vo
      have Tv : TpX v B L := hT.of (vo _ _ (by omega) (by decide) (by decide) (by decide)) (fun j => vo _ _ (by omega) (by decide) (by decide) (by decide))
      have end_ : L ≤ i → tsq B L t = L := fun k => by
        have hi : i = L := by omega
        rw [← hnb, hi]
        exact nbk_n (fun k => by omega)
      unfold X6_scan_l34
      rw [Tv.2.1, hS.1, wr_nat (n := L) (by omega), wr_nat (n := i) (by omega), wr_nat (n := st) (by omega), show wr 2000 = 2000 by decide]
      refine ⟨fun z => fin v t hS (end_ (by omega)) vo, fun z => ⟨fun z2 => fin v t hS (end_ (by omega)) vo, fun z2 => ⟨fun _ => ?_, fun z3 => absurd (by decide) z3⟩⟩⟩
      have hi : i < L := by omega
      obtain ⟨b1, b2, b3⟩ := Tv.b (x := (i : Int)) i rfl hi
      refine ⟨b3, ?_⟩
      rw [b1, show (st : Int) + 1 = ((st + 1 : Nat) : Int) by omega]
      refine X6_isBlank_ok b2 (fun y => ⟨fun k => absurd k (by decide), fun _ => ?_⟩) (fun y => ⟨fun _ => ?_, fun k => absurd (by decide) k⟩)
      · rw [show (i : Int) + 1 = ((i + 1 : Nat) : Int) by omega]
        exact ih (i + 1) (st + 1) t v (by omega) (by omega) (by omega) (by rw [← nbk_b hi y]; exact hnb) hS vo
      · have hit : i = tsq B L t := by rw [← hnb, nbk_n (fun _ => y)]
        refine X6_lookAt_ok i rfl hi Tv (fun w9 hK9 o9 => ?_)
        have htn := tnd_ok (B := B) hi
        have hS9 : ScX w9 B L t := by
          obtain ⟨s1, s2, s3, s4, s5, s6, s7, s8, s9⟩ := hS
          exact ⟨by rw [o9 _ _ (by omega)]; exact s1, by rw [o9 _ _ (by omega)]; exact s2, by rw [o9 _ _ (by omega)]; exact s3, by rw [o9 _ _ (by omega)]; exact s4, by rw [o9 _ _ (by omega)]; exact s5, by rw [o9 _ _ (by omega)]; exact s6, fun j hj => by rw [o9 _ _ (by omega), o9 _ _ (by omega), o9 _ _ (by omega)]; exact s7 j hj, s8, s9⟩
        have vo9 : offS w w9 := fun c j c1 c2 c3 c4 => by rw [o9 c j (by omega)]; exact vo c j c1 c2 c3 c4
        rw [hit] at hK9 hi htn
        refine X6_takeToken_ok t (by rw [hit]) hL hi hK9 hS9 (fun ok w10 hS10 e12 o10 => ?_) (fun n f p hSy hf w10 f2 f3 o10 => ?_)
        · intro y11 e11
          rw [e12, hK9.2.1] at e11
          subst e11
          exact ih (tnd B L (tsq B L t)) (st + 1) (t + 1) w10 htn.2 (by omega) (by omega) rfl hS10 (fun c j c1 c2 c3 c4 => by rw [o10 c j c1 c2 c3 c4]; exact vo9 c j c1 c2 c3 c4)
        · intro y11 e11
          have vo10 : offS w w10 := fun c j c1 c2 c3 c4 => by rw [o10 c j c1 c2 c3 c4]; exact vo9 c j c1 c2 c3 c4
          have B10 := bad w10 n t f p hSy hf f2 f3 vo10
          have hf2 : f ≤ 2 := by
            rcases hSy.2.2.2 with k | k | k | k
            · omega
            · omega
            · omega
            · omega
          obtain ⟨m, rfl⟩ : ∃ m', m = m' + 1 := ⟨m - 1, by omega⟩
          unfold X6_scan_l34
          rw [f2, wr_nat (n := f) (by omega)]
          exact ⟨fun _ => B10, fun _ => ⟨fun _ => B10, fun _ => ⟨fun k => by omega, fun _ => B10⟩⟩⟩
  refine ⟨L + 2, loop (L + 2) 0 0 0 w6 (by omega) (by omega) (by omega) rfl ⟨?_, ?_, ?_, ?_, ?_, ?_, fun j hj => by omega, fun j hj => by omega, fun j hj => by omega⟩ (fun c j c1 c2 c3 c4 => v6 c j (by omega))⟩
  · rw [e6, up_ap, if_neg (by omega), e5, up_ap, if_neg (by omega), e4, up_eq]
  · rw [e6, up_ap, if_neg (by omega), e5, up_eq]
  · rw [e6, up_ap, if_neg (by omega), e5, up_ap, if_neg (by omega), e4, up_ap, if_neg (by omega), e3, up_ap, if_neg (by omega), e2, up_ap, if_neg (by omega), e1, up_eq]; rfl
  · rw [e6, up_eq]; rfl
  · rw [e6, up_ap, if_neg (by omega), e5, up_ap, if_neg (by omega), e4, up_ap, if_neg (by omega), e3, up_ap, if_neg (by omega), e2, up_eq]; rfl
  · rw [e6, up_ap, if_neg (by omega), e5, up_ap, if_neg (by omega), e4, up_ap, if_neg (by omega), e3, up_eq]; rfl
