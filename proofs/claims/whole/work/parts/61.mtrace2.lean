/-- the model's tracing holds a drawing's faces -/
def RepF (w : Wd) (D : Dw) : Prop := (∀ s, s < 4 * dM D → w 79 (ms D s) = (fo D s : Int)) ∧ (∀ l, l < 4 * dM D → ldr (Fc D) l → w 80 (ncl (Fc D) l) = (ms D l : Int) ∧ w 81 (ncl (Fc D) l) = (pF D l : Int)) ∧ (∀ j, nF D (4 * dM D) ≤ j → j < nFa D → w 81 j = 0)
theorem ms_int {D : Dw} (s : Nat) : (if ((2 * dM D : Nat) : Int) ≤ (s : Int) then (s : Int) - ((2 * dM D : Nat) : Int) + 20 else (s : Int)) = ((ms D s : Nat) : Int) := by
  unfold ms stB stA
  by_cases h : 2 * dM D ≤ s
  · rw [if_pos (by omega)]
    simp [h]
    rw [if_neg (by omega)]
    omega
  · rw [if_neg (by omega)]
    simp [h]
    rw [if_pos (by omega)]
theorem X11_traces_ok {r : Nat} {Q : Int → Wd → Prop} {w : Wd} {D : Dw} (hW : WF D) (hR : RepM w r D) (hr : r < 79 ∨ 81 < r) (hQ : ∀ w', RepF w' D → (∀ c j, c < 79 ∨ 81 < c → w' c j = w c j) → Q (nFa D : Int) w') : X11_traces r w Q := by
  have hm := hW.2.1
  have n6 := hW.1
  have hD := face_DH hW
  have hp := hD.pm
  have ho : EqR (Fc D) (4 * dM D) := hD.eq
  have hnF := (nF_le hW (Nat.le_refl (4 * dM D))).1
  -- posts with no line
  have posts : ∀ (m p : Nat) (v : Wd), p ≤ dN D → dN D - p < m → (∀ s, s < 4 * dM D → v 79 (ms D s) = (fo D s : Int)) → (∀ l, l < 4 * dM D → ldr (Fc D) l → v 80 (ncl (Fc D) l) = (ms D l : Int) ∧ v 81 (ncl (Fc D) l) = (pF D l : Int)) → (∀ j, nF D (4 * dM D) ≤ j → j < nF D (4 * dM D) + nBr D p → v 81 j = 0) → (∀ c j, c < 79 ∨ 81 < c → v c j = w c j) → X11_traces_l153 r Q (X11_traces_b195 r Q) m ((nF D (4 * dM D) + nBr D p : Nat) : Int) (p : Int) v := by
    intro m
    induction m with
    | zero => intro p v a1 a2; omega
    | succ m ih =>
      intro p v a1 a2 vf vl vz voff
      have vR : RepM v r D := RepM.of hR (fun j => voff r j hr)
      have hnb := nBr_le D p
      unfold X11_traces_l153
      rw [rd0, vR.1, wr_nat (n := dN D) (by omega), wr_nat (n := p) (by omega), show (p : Int) + 1 = ((p + 1 : Nat) : Int) by omega]
      refine ⟨ix_of (n := 0) rfl (by decide) (by decide), fun z => ?_, fun z => ⟨ix_of (n := 32 + p) (by omega) (by omega) (by decide), ?_⟩⟩
      · have : p = dN D := by omega
        subst this
        unfold X11_traces_b195
        rw [wr_nat (by omega)]
        exact hQ v ⟨vf, vl, vz⟩ voff
      · have hg : v r (32 + p) = (dG D p : Int) := vR.2.2.2.2.1 p (by omega)
        have hd10 := hW.deg (p := p) (by omega)
        rw [rd_of (n := 32 + p) (by omega) (by omega), hg, wr_nat (n := dG D p) (by omega)]
        have hn : nBr D (p + 1) = nBr D p + (if dG D p = 0 then 1 else 0) := rfl
        refine ⟨fun z2 => ⟨ix_of rfl (by omega) (by decide), ?_⟩, fun z2 => ?_⟩
        · rw [if_pos (by omega)] at hn
          intro w11 e11
          rw [wt_of rfl (by omega)] at e11
          refine ⟨ix_of rfl (by omega) (by decide), ?_⟩
          intro w12 e12
          rw [wt_of rfl (by omega)] at e12
          have val : ∀ c j, w12 c j = if c = 81 ∧ j = nF D (4 * dM D) + nBr D p then 0 else if c = 80 ∧ j = nF D (4 * dM D) + nBr D p then -1 else v c j := fun c j => by rw [e12, up_ap, e11, up_ap]
          rw [show ((nF D (4 * dM D) + nBr D p : Nat) : Int) + 1 = ((nF D (4 * dM D) + nBr D (p + 1) : Nat) : Int) by omega]
          refine ih (p + 1) w12 (by omega) (by omega) (fun s hs => ?_) (fun l hl hd => ?_) (fun j b1 b2 => ?_) (fun c j hc => ?_)
          · rw [val, if_neg (by omega), if_neg (by omega)]; exact vf s hs
          · have hlt : ncl (Fc D) l < nF D (4 * dM D) := ncl_lt hl hd
            rw [val, if_neg (by omega), if_neg (by omega), val, if_neg (by omega), if_neg (by omega)]; exact vl l hl hd
          · rw [val]
            by_cases z3 : j = nF D (4 * dM D) + nBr D p
            · rw [if_pos ⟨rfl, z3⟩]
            · rw [if_neg (by omega), if_neg (by omega)]; exact vz j b1 (by omega)
          · rw [val, if_neg (by omega), if_neg (by omega)]; exact voff c j hc
        · rw [if_neg (by omega)] at hn
          rw [show nF D (4 * dM D) + nBr D p = nF D (4 * dM D) + nBr D (p + 1) by omega]
          exact ih (p + 1) v (by omega) (by omega) vf vl (fun j b1 b2 => vz j b1 (by omega)) voff
  -- one walk
  have walk : ∀ (e142 : Int → Int → Wd → Prop) (l : Nat) (x3 : Int), l < 4 * dM D → ldr (Fc D) l → ∀ (m i : Nat) (v u : Wd), (∀ w', (∀ s, s < 4 * dM D → (∃ j, j < l + 1 ∧ Fc D j s) → w' 79 (ms D s) = (fo D s : Int)) → (∀ s, s < 4 * dM D → ¬ (∃ j, j < l + 1 ∧ Fc D j s) → w' 79 (ms D s) = -1) → (∀ j, w' 81 j = if j = ncl (Fc D) l then (pF D l : Int) else u 81 j) → (∀ c j, c ≠ 79 → c ≠ 81 → w' c j = u c j) → e142 (ncl (Fc D) l : Int) x3 w') → RepM u r D → i ≤ pF D l → pF D l - i < m →
      (∀ s, s < 4 * dM D → ((∃ j, j < l ∧ Fc D j s) ∨ ∃ k, k < i ∧ (itr (nx D) k l = s ∨ mi D (itr (nx D) k l) = s)) → v 79 (ms D s) = (fo D s : Int)) → (∀ s, s < 4 * dM D → ¬ ((∃ j, j < l ∧ Fc D j s) ∨ ∃ k, k < i ∧ (itr (nx D) k l = s ∨ mi D (itr (nx D) k l) = s)) → v 79 (ms D s) = -1) → (∀ j, v 81 j = if j = ncl (Fc D) l then (i : Int) else u 81 j) → (∀ c j, c ≠ 79 → c ≠ 81 → v c j = u c j) → X11_traces_l91 r Q e142 m (ncl (Fc D) l : Int) x3 (ms D (itr (nx D) i l) : Int) v := by
    intro e142 l x3 hl hd m
    have hper := per_ok hp hl
    have hnl : ncl (Fc D) l < nF D (4 * dM D) := ncl_lt hl hd
    have hfl : ∀ k, fo D (itr (nx D) k l) = ncl (Fc D) l := fun k => fo_ld hW hl (hp.lt k l hl) hd (Or.inl ⟨k, rfl⟩)
    induction m with
    | zero => intro i v u _ _ a1 a2; omega
    | succ m ih =>
      intro i v u hK uR a1 a2 vy vn v1 voff
      have vR : RepM v r D := RepM.of uR (fun j => voff r j (by omega) (by omega))
      have hai := hp.lt i l hl
      have hmi := hD.2.1 _ hai
      have hm1 := (ms_ok hm hai).1
      have hm2 := (ms_ok hm hmi).1
      have hfo := fo_16 hW hai
      unfold X11_traces_l91
      rw [rd_of (n := ms D (itr (nx D) i l)) rfl (by omega)]
      refine ⟨ix_of rfl hm1 (by decide), ?_⟩
      rcases Nat.lt_or_ge i (pF D l) with q | q
      · -- a new one
        have hnew : ¬ ((∃ j, j < l ∧ Fc D j (itr (nx D) i l)) ∨ ∃ k, k < i ∧ (itr (nx D) k l = itr (nx D) i l ∨ mi D (itr (nx D) k l) = itr (nx D) i l)) := by
          rintro (⟨j, hj, y⟩ | ⟨k, hk, y | y⟩)
          · exact hd j hj (ho.2.2 j _ l (by omega) hai hl y (ho.2.1 l _ hl hai (Or.inl ⟨i, rfl⟩)))
          · have := per_dis hp hl (show k < per (nx D) (4 * dM D) l from by have : i < per (nx D) (4 * dM D) l := q; omega) q y
            omega
          · exact hD.ne hl y.symm
        have hv := vn _ hai hnew
        rw [hv, show wr (-1) = -1 by decide]
        refine ⟨fun y => by omega, fun _ => ⟨ix_of rfl hm1 (by decide), ?_⟩⟩
        intro w4 e4
        rw [wt_of rfl (by omega)] at e4
        have R4 : RepM w4 r D := RepM.of vR (fun j => by rw [e4, up_ap, if_neg (by omega)])
        refine X11_mirrorOf_ok hW R4 _ rfl hai ⟨ix_of rfl hm2 (by decide), ?_⟩
        intro w7 e7
        rw [wt_of rfl (by omega)] at e7
        refine ⟨ix_of rfl (by omega) (by decide), ix_of rfl (by omega) (by decide), ?_⟩
        intro w8 e8
        have f7 : w7 81 (ncl (Fc D) l) = (i : Int) := by rw [e7, up_ap, if_neg (by omega), e4, up_ap, if_neg (by omega), v1, if_pos rfl]
        rw [wt_of rfl (by omega), rd_of rfl (by omega), f7] at e8
        have val : ∀ c j, w8 c j = if c = 81 ∧ j = ncl (Fc D) l then (i : Int) + 1 else if c = 79 ∧ j = ms D (mi D (itr (nx D) i l)) then (ncl (Fc D) l : Int) else if c = 79 ∧ j = ms D (itr (nx D) i l) then (ncl (Fc D) l : Int) else v c j := fun c j => by rw [e8, up_ap, e7, up_ap, e4, up_ap]
        have R8 : RepM w8 r D := RepM.of vR (fun j => by rw [val, if_neg (by omega), if_neg (by omega), if_neg (by omega)])
        refine X11_nextOf_ok hW R8 _ rfl hai ?_
        rw [← itr_succ (nx D) i l]
        refine ih (i + 1) w8 u hK uR q (by omega) (fun s hs hy => ?_) (fun s hs hy => ?_) (fun j => ?_) (fun c j c1 c2 => ?_)
        · rw [val, if_neg (by omega)]
          by_cases z1 : s = mi D (itr (nx D) i l)
          · rw [z1, if_pos ⟨rfl, rfl⟩, fo_mi hW hai, hfl]
          · rw [if_neg (fun y => z1 (ms_inj hm hs hmi y.2))]
            by_cases z2 : s = itr (nx D) i l
            · rw [z2, if_pos ⟨rfl, rfl⟩, hfl]
            · rw [if_neg (fun y => z2 (ms_inj hm hs hai y.2))]
              refine vy s hs ?_
              rcases hy with hy | ⟨k, hk, hy⟩
              · exact Or.inl hy
              · refine Or.inr ⟨k, ?_, hy⟩
                have : k ≠ i := fun y => by
                  subst y
                  rcases hy with hy | hy
                  · exact z2 hy.symm
                  · exact z1 hy.symm
                omega
        · rw [val, if_neg (by omega), if_neg (fun y => hy (Or.inr ⟨i, by omega, Or.inr (ms_inj hm hs hmi y.2).symm⟩)), if_neg (fun y => hy (Or.inr ⟨i, by omega, Or.inl (ms_inj hm hs hai y.2).symm⟩))]
          refine vn s hs (fun y => hy ?_)
          rcases y with y | ⟨k, hk, y⟩
          · exact Or.inl y
          · exact Or.inr ⟨k, by omega, y⟩
        · rw [val]
          by_cases z : j = ncl (Fc D) l
          · rw [if_pos ⟨rfl, z⟩, if_pos z]; omega
          · rw [if_neg (fun y => z y.2), if_neg (by omega), if_neg (by omega), v1, if_neg z, if_neg z]
        · rw [val, if_neg (by omega), if_neg (by omega), if_neg (by omega)]; exact voff c j c1 c2
      · -- round
        have hi : i = pF D l := by omega
        have hpp : 1 ≤ pF D l := hper.1
        have hback : itr (nx D) i l = l := by rw [hi]; exact hper.2.2.1
        have hv := vy _ hai (Or.inr ⟨0, by omega, Or.inl (by rw [hback]; rfl)⟩)
        rw [hv, wr_nat (by omega)]
        refine ⟨fun _ => ?_, fun y => by omega⟩
        have hcl : ∀ s, ((∃ j, j < l ∧ Fc D j s) ∨ ∃ k, k < i ∧ (itr (nx D) k l = s ∨ mi D (itr (nx D) k l) = s)) ↔ ∃ j, j < l + 1 ∧ Fc D j s := by
          intro s
          constructor
          · rintro (⟨j, hj, y⟩ | ⟨k, hk, y⟩)
            · exact ⟨j, by omega, y⟩
            · exact ⟨l, by omega, (hD.cl hl).mpr ⟨k, by rw [hi] at hk; exact hk, y⟩⟩
          · rintro ⟨j, hj, y⟩
            by_cases z : j = l
            · subst z
              obtain ⟨k, hk, y2⟩ := (hD.cl hl).mp y
              exact Or.inr ⟨k, by rw [hi]; exact hk, y2⟩
            · exact Or.inl ⟨j, by omega, y⟩
        exact hK v (fun s hs y => vy s hs ((hcl s).mpr y)) (fun s hs y => vn s hs (fun y2 => y ((hcl s).mp y2))) (fun j => by rw [v1, hi]) voff
  -- all walks
  have walks : ∀ (m k : Nat) (v : Wd), k ≤ 4 * dM D → 4 * dM D - k < m → (∀ s, s < 4 * dM D → (∃ j, j < k ∧ Fc D j s) → v 79 (ms D s) = (fo D s : Int)) → (∀ s, s < 4 * dM D → ¬ (∃ j, j < k ∧ Fc D j s) → v 79 (ms D s) = -1) → (∀ l, l < k → ldr (Fc D) l → v 80 (ncl (Fc D) l) = (ms D l : Int) ∧ v 81 (ncl (Fc D) l) = (pF D l : Int)) → (∀ c j, c < 79 ∨ 81 < c → v c j = w c j) → X11_traces_l25 r Q (X11_traces_b151 r Q) m (ncl (Fc D) k : Int) (k : Int) v := by
    intro m
    induction m with
    | zero => intro k v a1 a2; omega
    | succ m ih =>
      intro k v a1 a2 vy vn vl voff
      have vR : RepM v r D := RepM.of hR (fun j => voff r j hr)
      unfold X11_traces_l25
      rw [rd1, vR.2.1, wr_id (x := 4 * (dM D : Int)) (by omega) (by omega), wr_id (x := 2 * (dM D : Int)) (by omega) (by omega), wr_nat (n := k) (by omega)]
      refine ⟨ix_of (n := 1) rfl (by decide) (by decide), fun z => ?_, fun z => ⟨ix_of (n := 1) rfl (by decide) (by decide), ?_⟩⟩
      · have : k = 4 * dM D := by omega
        subst this
        unfold X11_traces_b151
        exact ⟨dN D + 1, posts (dN D + 1) 0 v (by omega) (by omega) (fun s hs => vy s hs ⟨s, hs, ho.1 s hs⟩) vl (fun j b1 b2 => by have : nBr D 0 = 0 := rfl; omega) voff⟩
      · have hk4 : k < 4 * dM D := by omega
        have body : X11_traces_b57 r Q (X11_traces_l25 r Q (X11_traces_b151 r Q) m) (X11_traces_b151 r Q) (ncl (Fc D) k : Int) (k : Int) (ms D k : Int) v := by
          unfold X11_traces_b57
          have hmk := (ms_ok hm hk4).1
          have hfo := fo_16 hW hk4
          rw [rd_of rfl (by omega), show (k : Int) + 1 = ((k + 1 : Nat) : Int) by omega]
          refine ⟨ix_of rfl hmk (by decide), ?_⟩
          by_cases hd : ldr (Fc D) k
          · have hnk : ncl (Fc D) k < nF D (4 * dM D) := ncl_lt hk4 hd
            have hv := vn k hk4 (fun ⟨j, hj, y⟩ => hd j hj y)
            rw [hv, show wr (-1) = -1 by decide]
            refine ⟨fun _ => ⟨ix_of rfl (by omega) (by decide), ?_⟩, fun y => by omega⟩
            intro w2 e2
            rw [wt_of rfl (by omega)] at e2
            refine ⟨ix_of rfl (by omega) (by decide), ?_⟩
            intro w3 e3
            rw [wt_of rfl (by omega)] at e3
            have val : ∀ c j, w3 c j = if c = 81 ∧ j = ncl (Fc D) k then 0 else if c = 80 ∧ j = ncl (Fc D) k then (ms D k : Int) else v c j := fun c j => by rw [e3, up_ap, e2, up_ap]
            refine ⟨pF D k + 1, walk _ k _ hk4 hd (pF D k + 1) 0 w3 w3 (fun w' hy hn h81 hoff => ?_) (RepM.of vR (fun j => by rw [val, if_neg (by omega), if_neg (by omega)])) (by omega) (by omega) (fun s hs y => ?_) (fun s hs y => ?_) (fun j => ?_) (fun c j _ _ => rfl)⟩
            · unfold X11_traces_b142
              rw [show (ncl (Fc D) k : Int) + 1 = ((ncl (Fc D) (k + 1) : Nat) : Int) by rw [ncl_ld hd]; omega, show (k : Int) + 1 = ((k + 1 : Nat) : Int) by omega]
              refine ih (k + 1) w' (by omega) (by omega) hy hn (fun l hl hdl => ?_) (fun c j hc => ?_)
              · rw [h81, hoff 80 _ (by omega) (by omega), val, val, if_neg (by omega)]
                by_cases q : l = k
                · subst q
                  rw [if_pos ⟨rfl, rfl⟩, if_pos rfl]
                  exact ⟨rfl, rfl⟩
                · have hne : ncl (Fc D) l ≠ ncl (Fc D) k := fun y => q (ncl_eq_inj hdl hd y)
                  rw [if_neg (by omega), if_neg hne, if_neg (by omega), if_neg (by omega)]
                  exact vl l (by omega) hdl
              · rw [hoff c j (by omega) (by omega), val, if_neg (by omega), if_neg (by omega)]; exact voff c j hc
            · rw [val, if_neg (by omega), if_neg (by omega)]
              refine vy s hs ?_
              rcases y with y | ⟨k', hk', _⟩
              · exact y
              · omega
            · rw [val, if_neg (by omega), if_neg (by omega)]
              exact vn s hs (fun y2 => y (Or.inl y2))
            · by_cases q : j = ncl (Fc D) k
              · rw [if_pos q, val, if_pos ⟨rfl, q⟩]; rfl
              · rw [if_neg q]
          · have hex : ∃ j, j < k ∧ Fc D j k := by
              by_cases q : ∃ j, j < k ∧ Fc D j k
              · exact q
              · exact absurd (fun j hj y => q ⟨j, hj, y⟩) hd
            have hv := vy k hk4 hex
            rw [hv, wr_nat (by omega)]
            refine ⟨fun y => by omega, fun _ => ?_⟩
            have hnx := ldr_next ho hk4 hd
            have hcl : ∀ s, s < 4 * dM D → ((∃ j, j < k ∧ Fc D j s) ↔ ∃ j, j < k + 1 ∧ Fc D j s) := fun s hs => by
              constructor
              · rintro ⟨j, hj, y⟩; exact ⟨j, by omega, y⟩
              · intro y
                by_cases q : ∃ j, j < k ∧ Fc D j s
                · exact q
                · obtain ⟨j, hj, y2⟩ := y
                  exact absurd y2 ((hnx s hs).mp (fun i hi y3 => q ⟨i, hi, y3⟩) j hj)
            rw [← ncl_no hd]
            exact ih (k + 1) v (by omega) (by omega) (fun s hs y => vy s hs ((hcl s hs).mpr y)) (fun s hs y => vn s hs (fun y2 => y ((hcl s hs).mp y2))) (fun l hl hdl => vl l (by have : l ≠ k := fun y => hd (y ▸ hdl); omega) hdl) voff
        have hmi := ms_int (D := D) k
        rw [show ((2 * dM D : Nat) : Int) = 2 * (dM D : Int) by omega] at hmi
        refine ⟨fun y => ⟨ix_of (n := 1) rfl (by decide) (by decide), ?_⟩, fun y => ?_⟩
        · rw [if_pos y] at hmi; rw [hmi]; exact body
        · rw [if_neg y] at hmi; rw [← hmi] at body; exact body
  have fill : ∀ (m i : Nat) (v : Wd), i ≤ 40 → 40 - i < m → (∀ j, j < i → v 79 j = -1) → (∀ c j, c ≠ 79 → v c j = w c j) → X11_traces_l2 r Q (X11_traces_b21 r Q) m (i : Int) v := by
    intro m
    induction m with
    | zero => intro i v a1 a2; omega
    | succ m ih =>
      intro i v a1 a2 hv voff
      unfold X11_traces_l2
      rw [wr_nat (n := i) (by omega), show wr 40 = 40 by decide, show (i : Int) + 1 = ((i + 1 : Nat) : Int) by omega]
      refine ⟨fun z => ?_, fun z => ⟨ix_of rfl (by omega) (by decide), ?_⟩⟩
      · unfold X11_traces_b21
        exact ⟨4 * dM D + 1, walks (4 * dM D + 1) 0 v (by omega) (by omega) (fun s hs ⟨j, hj, _⟩ => by omega) (fun s hs _ => hv _ (by have := (ms_ok hm hs).1; omega)) (fun l hl => by omega) (fun c j hc => voff c j (by omega))⟩
      · intro w1 e1
        rw [wt_of rfl (by omega)] at e1
        refine ih (i + 1) w1 (by omega) (by omega) (fun j hj => ?_) (fun c j hc => ?_)
        · rw [e1, up_ap]
          by_cases q : j = i
          · rw [if_pos ⟨rfl, q⟩]
          · rw [if_neg (by omega)]; exact hv j (by omega)
        · rw [e1, up_ap, if_neg (by omega)]; exact voff c j hc
  exact ⟨41, fill 41 0 w (by omega) (by omega) (fun j hj => by omega) (fun _ _ _ => rfl)⟩
