/-! ARMS and STATES of a drawing -/
def armA (D : Dw) (p i : Nat) : Nat := 2 * dR D p i + (if dE D (2 * dR D p i) = p then 0 else 1)
def psA (D : Dw) (a : Nat) : Nat := pos (dR D (dE D a)) (a / 2) (dG D (dE D a))
theorem armA_ok {D : Dw} (hW : WF D) {p i : Nat} (hp : p < dN D) (hi : i < dG D p) : armA D p i < 2 * dM D ∧ dE D (armA D p i) = p ∧ armA D p i / 2 = dR D p i := by
  have h := hW.2.2.2.2.1 p i hp hi
  unfold armA
  by_cases z : dE D (2 * dR D p i) = p
  · rw [if_pos z]; exact ⟨by omega, z, by omega⟩
  · rw [if_neg z]; exact ⟨by omega, h.2.resolve_left z, by omega⟩
theorem arm_uq {D : Dw} (hW : WF D) {a b : Nat} (ha : a < 2 * dM D) (hb : b < 2 * dM D) (h1 : a / 2 = b / 2) (h2 : dE D a = dE D b) : a = b := by
  have hne := hW.2.2.2.1 (a / 2) (by omega)
  have ca : a = 2 * (a / 2) ∨ a = 2 * (a / 2) + 1 := by omega
  have cb : b = 2 * (a / 2) ∨ b = 2 * (a / 2) + 1 := by omega
  rcases ca with z | z <;> rcases cb with y | y
  · omega
  · rw [z, y] at h2; exact absurd h2 hne
  · rw [z, y] at h2; exact absurd h2.symm hne
  · omega
theorem psA_ok {D : Dw} (hW : WF D) {a : Nat} (ha : a < 2 * dM D) : dE D a < dN D ∧ psA D a < dG D (dE D a) ∧ dR D (dE D a) (psA D a) = a / 2 := by
  have hp := hW.2.2.1 a ha
  have hat : atP D (a / 2) (dE D a) := by
    unfold atP
    have : a = 2 * (a / 2) ∨ a = 2 * (a / 2) + 1 := by omega
    rcases this with y | y
    · left; rw [← y]
    · right; rw [← y]
  have := hW.pos hp (show a / 2 < dM D by omega) hat
  exact ⟨hp, this.1, this.2.1⟩
theorem psA_arm {D : Dw} (hW : WF D) {p i : Nat} (hp : p < dN D) (hi : i < dG D p) : psA D (armA D p i) = i := by
  have h := armA_ok hW hp hi
  have h2 := psA_ok hW h.1
  rw [h.2.1] at h2
  exact hW.2.2.2.2.2.1 p _ _ hp h2.2.1 hi (by rw [h2.2.2, h.2.2])
theorem armA_ps {D : Dw} (hW : WF D) {a : Nat} (ha : a < 2 * dM D) : armA D (dE D a) (psA D a) = a := by
  have h2 := psA_ok hW ha
  have h := armA_ok hW h2.1 h2.2.1
  exact arm_uq hW h.1 ha (by rw [h.2.2, h2.2.2]) h.2.1
/-- so many places on, round its post -/
def rot (D : Dw) (t a : Nat) : Nat := armA D (dE D a) (rnd (psA D a) t (dG D (dE D a)))
theorem rot_ok {D : Dw} (hW : WF D) {a t : Nat} (ha : a < 2 * dM D) (ht : t ≤ dG D (dE D a)) : rot D t a < 2 * dM D ∧ dE D (rot D t a) = dE D a ∧ psA D (rot D t a) = rnd (psA D a) t (dG D (dE D a)) := by
  have h2 := psA_ok hW ha
  have h3 := rnd_lt h2.2.1 ht
  have h := armA_ok hW h2.1 h3
  exact ⟨h.1, h.2.1, psA_arm hW h2.1 h3⟩
theorem rot_rot {D : Dw} (hW : WF D) {a t u : Nat} (ha : a < 2 * dM D) (h : t + u = dG D (dE D a)) : rot D u (rot D t a) = a := by
  have h1 := rot_ok hW ha (show t ≤ dG D (dE D a) by omega)
  have h2 := psA_ok hW ha
  have e : rot D u (rot D t a) = armA D (dE D (rot D t a)) (rnd (psA D (rot D t a)) u (dG D (dE D (rot D t a)))) := rfl
  rw [e, h1.2.1, h1.2.2]
  have : rnd (rnd (psA D a) t (dG D (dE D a))) u (dG D (dE D a)) = psA D a := by
    unfold rnd
    split <;> split <;> omega
  rw [this]
  exact armA_ps hW ha
def bh (D : Dw) (a : Nat) : Nat := rot D 1 a
def ah (D : Dw) (a : Nat) : Nat := rot D (dG D (dE D a) - 1) a
theorem bh_ok {D : Dw} (hW : WF D) {a : Nat} (ha : a < 2 * dM D) : bh D a < 2 * dM D ∧ dE D (bh D a) = dE D a ∧ ah D (bh D a) = a := by
  have h2 := psA_ok hW ha
  have h1 := rot_ok hW ha (show 1 ≤ dG D (dE D a) by omega)
  refine ⟨h1.1, h1.2.1, ?_⟩
  unfold ah bh
  rw [h1.2.1]
  exact rot_rot hW ha (by omega)
theorem ah_ok {D : Dw} (hW : WF D) {a : Nat} (ha : a < 2 * dM D) : ah D a < 2 * dM D ∧ dE D (ah D a) = dE D a ∧ bh D (ah D a) = a := by
  have h2 := psA_ok hW ha
  have h1 := rot_ok hW ha (show dG D (dE D a) - 1 ≤ dG D (dE D a) by omega)
  exact ⟨h1.1, h1.2.1, rot_rot hW ha (by omega)⟩
/-- the other end of an arm -/
def ox (a : Nat) : Nat := if a % 2 = 0 then a + 1 else a - 1
theorem ox_ox (a : Nat) : ox (ox a) = a := by unfold ox; split <;> split <;> omega
theorem ox_ne (a : Nat) : ox a ≠ a := by unfold ox; split <;> omega
theorem ox_lt {a m : Nat} (h : a < 2 * m) : ox a < 2 * m := by unfold ox; split <;> omega
theorem ox_half (a : Nat) : ox a / 2 = a / 2 := by unfold ox; split <;> omega
theorem ox_xor {a : Nat} (h : a < 64) : a ^^^ 1 = ox a := by
  have : ∀ a : Fin 64, a.val ^^^ 1 = ox a.val := by decide
  exact this ⟨a, h⟩
theorem ox_end {D : Dw} (hW : WF D) {a : Nat} (ha : a < 2 * dM D) : dE D (ox a) ≠ dE D a := by
  have hne := hW.2.2.2.1 (a / 2) (by omega)
  have : a = 2 * (a / 2) ∨ a = 2 * (a / 2) + 1 := by omega
  rcases this with y | y
  · have e : ox a = 2 * (a / 2) + 1 := by unfold ox; rw [if_pos (by omega)]; omega
    rw [e]
    intro h
    apply hne
    rw [h]
    exact congrArg _ y.symm
  · have e : ox a = 2 * (a / 2) := by unfold ox; rw [if_neg (by omega)]; omega
    rw [e]
    intro h
    apply hne
    rw [h]
    exact congrArg _ y
def stA (D : Dw) (s : Nat) : Nat := if s < 2 * dM D then s else s - 2 * dM D
def stB (D : Dw) (s : Nat) : Bool := decide (2 * dM D ≤ s)
def enc (D : Dw) (a : Nat) (b : Bool) : Nat := if b then 2 * dM D + a else a
theorem stA_lt {D : Dw} {s : Nat} (h : s < 4 * dM D) : stA D s < 2 * dM D := by unfold stA; split <;> omega
theorem enc_lt {D : Dw} {a : Nat} {b : Bool} (h : a < 2 * dM D) : enc D a b < 4 * dM D := by unfold enc; split <;> omega
theorem enc_st {D : Dw} (s : Nat) : enc D (stA D s) (stB D s) = s := by
  unfold enc stA stB
  by_cases z : s < 2 * dM D
  · rw [if_pos z, decide_eq_false (by omega), if_neg (by decide)]
  · rw [if_neg z, decide_eq_true (by omega), if_pos rfl]; omega
theorem stA_enc {D : Dw} {a : Nat} {b : Bool} (h : a < 2 * dM D) : stA D (enc D a b) = a := by
  unfold enc stA
  cases b
  · simp only [Bool.false_eq_true, if_false]
    rw [if_pos h]
  · simp only [if_true]
    rw [if_neg (by omega)]; omega
theorem stB_enc {D : Dw} {a : Nat} {b : Bool} (h : a < 2 * dM D) : stB D (enc D a b) = b := by
  unfold enc stB
  cases b
  · rw [if_neg (by decide)]; exact decide_eq_false (by omega)
  · rw [if_pos rfl]; exact decide_eq_true (by omega)
/-- whether one comes BACK to the other end -/
def cbk (D : Dw) (s : Nat) : Bool := stB D s ^^ dT D (stA D s / 2)
def nx (D : Dw) (s : Nat) : Nat := enc D (if cbk D s then ah D (ox (stA D s)) else bh D (ox (stA D s))) (cbk D s)
def mi (D : Dw) (s : Nat) : Nat := enc D (ox (stA D s)) (!cbk D s)
theorem nx_arm {D : Dw} (hW : WF D) {s : Nat} (hs : s < 4 * dM D) : (if cbk D s then ah D (ox (stA D s)) else bh D (ox (stA D s))) < 2 * dM D ∧ dE D (if cbk D s then ah D (ox (stA D s)) else bh D (ox (stA D s))) = dE D (ox (stA D s)) := by
  have ho := ox_lt (stA_lt hs)
  split
  · exact ⟨(ah_ok hW ho).1, (ah_ok hW ho).2.1⟩
  · exact ⟨(bh_ok hW ho).1, (bh_ok hW ho).2.1⟩
theorem face_DH {D : Dw} (hW : WF D) : DH (4 * dM D) (nx D) (mi D) := by
  have hA : ∀ s, s < 4 * dM D → stA D s < 2 * dM D := fun s hs => stA_lt hs
  refine ⟨fun s hs => enc_lt (nx_arm hW hs).1, fun s hs => enc_lt (ox_lt (hA s hs)), fun s hs => ?_, fun s hs => ?_, fun s hs e => ?_, fun s hs e => ?_⟩
  · have ho := ox_lt (hA s hs)
    have e1 : stA D (mi D s) = ox (stA D s) := stA_enc ho
    have e2 : stB D (mi D s) = !cbk D s := stB_enc ho
    have e3 : cbk D (mi D s) = !stB D s := by
      show (stB D (mi D s) ^^ dT D (stA D (mi D s) / 2)) = _
      rw [e1, e2, ox_half]
      show ((!(stB D s ^^ dT D (stA D s / 2))) ^^ dT D (stA D s / 2)) = _
      cases stB D s <;> cases dT D (stA D s / 2) <;> rfl
    show enc D (ox (stA D (mi D s))) (!cbk D (mi D s)) = s
    rw [e1, e3, ox_ox, Bool.not_not]
    exact enc_st s
  · have ho := ox_lt (hA s hs)
    obtain ⟨a1, ha1⟩ : ∃ a, a = if cbk D s then ah D (ox (stA D s)) else bh D (ox (stA D s)) := ⟨_, rfl⟩
    have hn := nx_arm hW hs
    rw [← ha1] at hn
    have f1 : stA D (nx D s) = a1 := by unfold nx; rw [← ha1]; exact stA_enc hn.1
    have f2 : stB D (nx D s) = cbk D s := by unfold nx; rw [← ha1]; exact stB_enc hn.1
    have g1 : stA D (mi D (nx D s)) = ox a1 := by unfold mi; rw [f1]; exact stA_enc (ox_lt hn.1)
    have g2 : stB D (mi D (nx D s)) = !(cbk D s ^^ dT D (a1 / 2)) := by
      unfold mi
      rw [stB_enc (by rw [f1]; exact ox_lt hn.1)]
      show (!(stB D (nx D s) ^^ dT D (stA D (nx D s) / 2))) = _
      rw [f1, f2]
    have g3 : cbk D (mi D (nx D s)) = !cbk D s := by
      show (stB D (mi D (nx D s)) ^^ dT D (stA D (mi D (nx D s)) / 2)) = _
      rw [g1, g2, ox_half]
      cases cbk D s <;> cases dT D (a1 / 2) <;> rfl
    show enc D (if cbk D (mi D (nx D s)) then ah D (ox (stA D (mi D (nx D s)))) else bh D (ox (stA D (mi D (nx D s))))) (cbk D (mi D (nx D s))) = enc D (ox (stA D s)) (!cbk D s)
    rw [g3, g1, ox_ox]
    congr 1
    rw [ha1]
    cases cbk D s
    · exact (bh_ok hW ho).2.2
    · exact (ah_ok hW ho).2.2
  · have ho := ox_lt (hA s hs)
    have e1 : stA D (mi D s) = ox (stA D s) := stA_enc ho
    rw [e] at e1
    exact ox_ne _ e1.symm
  · have ho := ox_lt (hA s hs)
    have e2 : stB D (mi D s) = !cbk D s := stB_enc ho
    have f2 : stB D (nx D s) = cbk D s := stB_enc (nx_arm hW hs).1
    rw [e, e2] at f2
    revert f2
    cases cbk D s <;> decide
theorem nx_ne {D : Dw} (hW : WF D) {s : Nat} (hs : s < 4 * dM D) : nx D s ≠ s := fun e => by
  have hn := nx_arm hW hs
  have f1 : stA D (nx D s) = (if cbk D s then ah D (ox (stA D s)) else bh D (ox (stA D s))) := stA_enc hn.1
  rw [e] at f1
  rw [← f1] at hn
  exact ox_end hW (stA_lt hs) hn.2.symm
/-- on one face of a drawing; how many faces with lines -/
def Fc (D : Dw) : Nat → Nat → Prop := Cl (nx D) (mi D)
noncomputable def nF (D : Dw) (k : Nat) : Nat := ncl (Fc D) k
theorem nF_le {D : Dw} (hW : WF D) {k : Nat} (hk : k ≤ 4 * dM D) : nF D k ≤ dM D ∧ tl (nx D) (4 * dM D) (Fc D) k ≤ 2 * dM D := by
  have h := face_DH hW
  have h1 := h.tl_le hk
  have h2 := ncl_tl (R := Fc D) h.pm (fun s hs => nx_ne hW hs) k hk
  unfold nF
  unfold Fc at h2 ⊢
  omega
/-- posts with no line -/
def nBr (D : Dw) : Nat → Nat
  | 0 => 0
  | p + 1 => nBr D p + (if dG D p = 0 then 1 else 0)
theorem nBr_le (D : Dw) : ∀ p, nBr D p ≤ p
  | 0 => Nat.le_refl _
  | p + 1 => by
    have := nBr_le D p
    unfold nBr
    split <;> omega
