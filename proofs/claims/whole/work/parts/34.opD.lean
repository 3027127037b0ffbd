/-! ===== hurry, edit, work, as ===== -/
section OPD
variable {s : St} {M : Mm} {Q : Mm → Option Mv → Prop}
/-! hurry -/
def huN (n : Int → Int) (w m p : Int) : Int → Int := up (up (up (up n (1018 + 3 * n 6) w) (1019 + 3 * n 6) m) (1020 + 3 * n 6) p) 6 (n 6 + 1)
theorem huN_o {n : Int → Int} {w m p i : Int} (h6 : i ≠ 6) (h : i < 1018 + 3 * n 6 ∨ 1020 + 3 * n 6 < i) : huN n w m p i = n i := by
  unfold huN
  rw [up_n h6, up_n (by omega), up_n (by omega), up_n (by omega)]
theorem huN_6 {n : Int → Int} {w m p : Int} : huN n w m p 6 = n 6 + 1 := up_s
theorem huN_at {n : Int → Int} {w m p : Int} (h : 0 ≤ n 6) : huN n w m p (1018 + 3 * n 6) = w ∧ huN n w m p (1019 + 3 * n 6) = m ∧ huN n w m p (1020 + 3 * n 6) = p := by
  unfold huN up
  refine ⟨?_, ?_, ?_⟩ <;> (repeat rw [if_neg (by omega)]) <;> rw [if_pos rfl]
def o_hurry (s : St) (w m p : Int) : St × Int :=
  if (0 ≤ w ∧ w < sn s 2) ∧ (1 ≤ m ∧ m ≤ 2) ∧ (1 ≤ p ∧ p ≤ 999) then
    (if sn s (10 + 3 * w) = 5 then fnd s 5
    else if 0 < hurF (sn s) w (sn s 6).toNat ∨ ¬ m < sn s (11 + 3 * w) then fnd s 3
    else if sn s 6 < 5 then (wN s (huN (sn s) w m p), sn s 6 + 1) else fnd s 4)
  else fnd s 1
theorem hurF_pos {n : Int → Int} {w : Int} (h : wHst n) (q : ¬ 0 < hurF n w (n 6).toNat) : ∀ i, 0 ≤ i → i < n 6 → n (1018 + 3 * i) ≠ w := by
  intro i i0 i1 hi
  obtain ⟨k, rfl⟩ : ∃ k : Nat, i = k := ⟨i.toNat, by omega⟩
  have := hurF_hit h hi (n 6).toNat (by omega) (by omega)
  have h2 := (h.2.1 k i0 i1).2.1
  omega
theorem huN_wf {n : Int → Int} {w m p : Int} (h : WfN n) (h5 : n 6 < 5) (hw : 0 ≤ w ∧ w < n 2) (hm : 1 ≤ m ∧ m ≤ 2) (hp : 1 ≤ p ∧ p ≤ 999) (hl : m < n (11 + 3 * w)) (hn : ¬ 0 < hurF n w (n 6).toNat) : WfN (huN n w m p) := by
  obtain ⟨wd, wc, ww, wl, we, wt, wx, wh⟩ := h
  have h6 := wh.1
  have h2 := ww.1
  have o : ∀ i, i ≠ 6 → (i < 1018 ∨ 1033 ≤ i) → huN n w m p i = n i := fun i h1 h2 => huN_o h1 (by omega)
  refine ⟨wd.cg (o 0 (by decide) (by decide)), wc.cg (o 1 (by decide) (by decide)) (fun i a b => o i (by omega) (by omega)), ww.cg (o 2 (by decide) (by decide)) (fun i a b => o i (by omega) (by omega)), wl.cg (o 2 (by decide) (by decide)) (o 3 (by decide) (by decide)) (fun i a b => o i (by omega) (by omega)), we.cg (o 0 (by decide) (by decide)) (o 2 (by decide) (by decide)) (o 4 (by decide) (by decide)) (fun i a b => o i (by omega) (by omega)), wt.cg (o 7 (by decide) (by decide)) (fun i a b => o i (by omega) (by omega)), wx.cg (o 5 (by decide) (by decide)) (fun i a b => o i (by omega) (by omega)), ?_⟩
  have hne := hurF_pos wh hn
  unfold wHst
  rw [huN_6, o 2 (by decide) (by decide)]
  obtain ⟨a0, a1, a2⟩ := huN_at (w := w) (m := m) (p := p) h6.1
  refine ⟨by omega, fun q q1 q2 => ?_, fun g q g1 g2 q1 q2 => ?_⟩
  · by_cases hq : q = n 6
    · subst hq
      rw [a0, a1, a2, o (11 + 3 * w) (by omega) (by omega)]
      omega
    · have hh := wh.2.1 q q1 (by omega)
      rw [huN_o (show 1018 + 3 * q ≠ 6 by omega) (by omega), huN_o (show 1019 + 3 * q ≠ 6 by omega) (by omega), huN_o (show 1020 + 3 * q ≠ 6 by omega) (by omega), o (11 + 3 * n (1018 + 3 * q)) (by omega) (by omega)]
      exact hh
  · by_cases hg : g = n 6 <;> by_cases hq : q = n 6
    · omega
    · subst hg
      rw [a0, huN_o (show 1018 + 3 * q ≠ 6 by omega) (by omega)]
      exact fun z => absurd z.symm (hne q q1 (by omega))
    · subst hq
      rw [a0, huN_o (show 1018 + 3 * g ≠ 6 by omega) (by omega)]
      exact fun z => absurd z (hne g g1 (by omega))
    · rw [huN_o (show 1018 + 3 * q ≠ 6 by omega) (by omega), huN_o (show 1018 + 3 * g ≠ 6 by omega) (by omega)]
      exact wh.2.2 g q g1 (by omega) q1 (by omega)
theorem w_hurry {w m p : Int} (hw : WfS s) : WfS (o_hurry s w m p).1 := by
  unfold o_hurry
  split
  · rename_i c
    split
    · exact hw.fnd
    · split
      · exact hw.fnd
      · rename_i c3
        split
        · rename_i c4
          exact hw.to (huN_wf hw.1 c4 c.1 c.2.1 c.2.2 (by omega) (by omega))
        · exact hw.fnd
  · exact hw.fnd
theorem c_hurry {w m p : Int} (hw : WfS s) (h : CI s M) (hq : ∀ M', CI (o_hurry s w m p).1 M' → FrC M M' → Q M' (some (vI (o_hurry s w m p).2))) : Wq 3 0 0 mD_hurry 0 [iR 0, iI w, iI m, iI p, none] [] M Q := by
  obtain ⟨d0, dC, dW, dL, dE, dT, dX, dH⟩ := h.2.1
  obtain ⟨wd, wc, ww, wl, we, wt, wx, wh⟩ := hw.1
  have h6 := wh.1
  have h2 := ww.1
  refine B_D_hurry_0 h.1 ?_
  rw [dW.1]
  have bad : ¬ ((0 ≤ w ∧ w < sn s 2) ∧ (1 ≤ m ∧ m ≤ 2) ∧ (1 ≤ p ∧ p ≤ 999)) → Q (sI M 69 1 (wr (gI M 69 1 + 1))) (some (vI (-1000001))) := fun c => c_fnd h (by decide) (by decide) (by decide) (if_neg c) hq
  refine ⟨fun c1 => ⟨fun c2 => ⟨fun c3 => ?_, fun c3 => bad (by omega)⟩, fun c2 => ⟨fun c3 => bad (by omega), fun c3 => bad (by omega)⟩⟩, fun c1 => ⟨fun c3 => bad (by omega), fun c3 => bad (by omega)⟩⟩
  obtain ⟨k1, k2, k3⟩ := dW.2 w c3.1 c3.2
  have e0 : o_hurry s w m p = _ := if_pos ⟨c3, c1, c2⟩
  rw [k1]
  refine ⟨by omega, fun c4 => ?_, fun c4 => c_fnd h (by decide) (by decide) (by decide) (e0.trans (if_pos c4)) hq⟩
  refine sp_H_mostOf h.1 wh dH ?_
  refine B_D_hurry_87 h.1 ?_
  rw [k2, dH.1]
  refine ⟨fun c5 => c_fnd h (by decide) (by decide) (by decide) (e0.trans ((if_neg c4).trans (if_pos (Or.inl c5)))) hq, fun c5 => ⟨by omega, fun c6 => ⟨fun c7 => ?_, fun c7 => c_fnd h (by decide) (by decide) (by decide) (e0.trans ((if_neg c4).trans ((if_neg (by omega)).trans (if_neg c7)))) hq⟩, fun c6 => c_fnd h (by decide) (by decide) (by decide) (e0.trans ((if_neg c4).trans (if_pos (Or.inr c6)))) hq⟩⟩
  rw [e0.trans ((if_neg c4).trans ((if_neg (by omega)).trans (if_pos c7)))] at hq
  refine B_H_add_0 h.1 ?_
  rw [dH.1]
  refine ⟨by omega, B_D_hurry_147 ?_⟩
  have o : ∀ i, i ≠ 6 → (i < 1018 ∨ 1033 ≤ i) → huN (sn s) w m p i = sn s i := fun i h1 h2 => huN_o h1 (by omega)
  refine hq _ (h.to h.1 ⟨d0.trans (o 0 (by decide) (by decide)).symm, dC.cg (o 1 (by decide) (by decide)) (fun i a b => o i (by omega) (by omega)), dW.cg ww.1.2 (o 2 (by decide) (by decide)) (fun i a b => o i (by omega) (by omega)), dL.cg wl.1.2 (o 2 (by decide) (by decide)) (o 3 (by decide) (by decide)) (fun i a b => o i (by omega) (by omega)), dE.cg we.1.2 (o 4 (by decide) (by decide)) (fun i a b => o i (by omega) (by omega)), dT.cg wt.1.2 (o 7 (by decide) (by decide)) (fun i a b => o i (by omega) (by omega)), dX.cg wx.1.2 (o 5 (by decide) (by decide)) (fun i a b => o i (by omega) (by omega)), ?_⟩ (fun b hb => ?_) rfl) (fun a i ha => ?_)
  · unfold cHst
    rw [huN_6]
    refine ⟨gI_s, fun q q1 q2 => ?_⟩
    by_cases hqe : q = sn s 6
    · subst hqe
      obtain ⟨a0, a1, a2⟩ := huN_at (n := sn s) (w := w) (m := m) (p := p) h6.1
      rw [a0, a1, a2]
      exact ⟨gI_s, gI_s, gI_s⟩
    · rw [huN_o (by omega) (by omega), huN_o (by omega) (by omega), huN_o (by omega) (by omega)]
      obtain ⟨b0, b1, b2⟩ := dH.2 q q1 (by omega)
      exact ⟨(gI_n (Or.inr hqe)).trans b0, (gI_n (Or.inr hqe)).trans b1, (gI_n (Or.inr hqe)).trans b2⟩
  · rw [gI_ot (by omega), gI_ot (by omega), gI_ot (by omega), gI_ot (by omega)]
  · rw [gI_ot (by omega), gI_ot (by omega), gI_ot (by omega), gI_ot (by omega)]
theorem r_hurry {w m p : Int} (hw : WfS s) (h : RI s M) (hq : ∀ M', RI (o_hurry s w m p).1 M' → FrR M M' → Q M' (some (vI (o_hurry s w m p).2))) : Wq 3 0 0 mM_hurry 0 [iR 80, iI w, iI m, iI p, none] [] M Q := by
  have e' := h.2.1
  obtain ⟨wd, wc, ww, wl, we, wt, wx, wh⟩ := hw.1
  have h6 := wh.1
  have h2 := ww.1
  refine B_M_hurry_0 h.1 ?_
  rw [e']
  have bad : ¬ ((0 ≤ w ∧ w < sn s 2) ∧ (1 ≤ m ∧ m ≤ 2) ∧ (1 ≤ p ∧ p ≤ 999)) → Q (sI M 83 1 (wr (gI M 83 1 + 1))) (some (vI (-1000001))) := fun c => r_fnd h (by decide) (if_neg c) hq
  refine ⟨h2.1, fun c3 => ⟨fun c1 => ⟨fun c2 => ⟨by omega, fun c4 => ?_, fun c4 => ?_⟩, fun c2 => bad (by omega)⟩, fun c1 => bad (by omega)⟩, fun c3 => bad (by omega)⟩
  · have e0 : o_hurry s w m p = _ := if_pos ⟨c3, c1, c2⟩
    refine sp_M_hurried h.1 (by rw [e']; exact h6) ?_
    rw [e']
    refine B_M_hurry_61 h.1 ?_
    rw [e']
    refine ⟨fun c5 => r_fnd h (by decide) (e0.trans ((if_neg c4).trans (if_pos (Or.inl c5)))) hq, fun c5 => ⟨by omega, fun c6 => ⟨fun c7 => ⟨by omega, ?_⟩, fun c7 => r_fnd h (by decide) (e0.trans ((if_neg c4).trans ((if_neg (by omega)).trans (if_neg (by omega))))) hq⟩, fun c6 => r_fnd h (by decide) (e0.trans ((if_neg c4).trans (if_pos (Or.inr c6)))) hq⟩⟩
    rw [e0.trans ((if_neg c4).trans ((if_neg (by omega)).trans (if_pos (by omega))))] at hq
    have o : ∀ i, i ≠ 6 → (i < 1018 ∨ 1033 ≤ i) → huN (sn s) w m p i = sn s i := fun i h1 h2 => huN_o h1 (by omega)
    refine hq _ (h.to h.1 ?_ (fun a ha => ?_) (rCac.cg ww wl h.2.2.2.2.2.2.2.2.2.2 (o 1 (by decide) (by decide)) (o 2 (by decide) (by decide)) (o 3 (by decide) (by decide)) (fun i a b => o i (by omega) (by omega)) (fun i a b => o i (by omega) (by omega)) rfl rfl rfl)) (fun a i ha => ⟨?_, rfl⟩)
    · rw [gI_up, gI_up, gI_up, gI_up, e']
      rfl
    · rw [gI_ot ha, gI_ot ha, gI_ot ha, gI_ot ha]
    · rw [gI_ot (by omega), gI_ot (by omega), gI_ot (by omega), gI_ot (by omega)]
  · exact r_fnd h (by decide) ((if_pos ⟨c3, c1, c2⟩).trans (if_pos c4)) hq
/-! edit -/
def o_edit (s : St) (w d : Int) : St × Int :=
  if (0 ≤ w ∧ w < sn s 2) ∧ 1 ≤ d ∧ d ≤ 40 then (if hurF (sn s) w (sn s 6).toNat < d then (wN s (up (sn s) (11 + 3 * w) d), sn s (11 + 3 * w)) else fnd s 3) else fnd s 1
theorem w_edit {w d : Int} (hw : WfS s) : WfS (o_edit s w d).1 := by
  unfold o_edit
  split
  · rename_i c
    split
    · rename_i c2
      refine hw.to ?_
      obtain ⟨wd, wc, ww, wl, we, wt, wx, wh⟩ := hw.1
      have h2 := ww.1
      have o : ∀ i, (i < 10 ∨ 58 ≤ i) → up (sn s) (11 + 3 * w) d i = sn s i := fun i h => up_n (by omega)
      refine ⟨wd.cg (o 0 (by decide)), wc.cg (o 1 (by decide)) (fun i a b => o i (by omega)), ?_, wl.cg (o 2 (by decide)) (o 3 (by decide)) (fun i a b => o i (by omega)), we.cg (o 0 (by decide)) (o 2 (by decide)) (o 4 (by decide)) (fun i a b => o i (by omega)), wt.cg (o 7 (by decide)) (fun i a b => o i (by omega)), wx.cg (o 5 (by decide)) (fun i a b => o i (by omega)), ?_⟩
      · unfold wWrk
        rw [o 2 (by decide)]
        refine ⟨h2, fun q q1 q2 => ?_⟩
        have hh := ww.2 q q1 q2
        rw [up_n (show 10 + 3 * q ≠ 11 + 3 * w by omega), up_n (show 12 + 3 * q ≠ 11 + 3 * w by omega)]
        by_cases hqw : q = w
        · subst hqw
          rw [up_s]
          omega
        · rw [up_n (show 11 + 3 * q ≠ 11 + 3 * w by omega)]
          exact hh
      · unfold wHst
        rw [o 2 (by decide), o 6 (by decide)]
        refine ⟨wh.1, fun q q1 q2 => ?_, fun g q g1 g2 q1 q2 => ?_⟩
        · have hh := wh.2.1 q q1 q2
          have h6 := wh.1
          rw [o (1018 + 3 * q) (by omega), o (1019 + 3 * q) (by omega), o (1020 + 3 * q) (by omega)]
          by_cases hqw : sn s (1018 + 3 * q) = w
          · rw [hqw, up_s]
            obtain ⟨k, rfl⟩ : ∃ k : Nat, q = k := ⟨q.toNat, by omega⟩
            have := hurF_hit wh hqw (sn s 6).toNat (by omega) (by omega)
            rw [hqw] at hh
            omega
          · rw [up_n (show 11 + 3 * sn s (1018 + 3 * q) ≠ 11 + 3 * w by omega)]
            exact hh
        · have h6 := wh.1
          rw [o (1018 + 3 * q) (by omega), o (1018 + 3 * g) (by omega)]
          exact wh.2.2 g q g1 g2 q1 q2
    · exact hw.fnd
  · exact hw.fnd
theorem c_edit {w d : Int} (hw : WfS s) (h : CI s M) (hq : ∀ M', CI (o_edit s w d).1 M' → FrC M M' → Q M' (some (vI (o_edit s w d).2))) : Wq 3 0 0 mD_edit 0 [iR 0, iI w, iI d, none, none] [] M Q := by
  obtain ⟨d0, dC, dW, dL, dE, dT, dX, dH⟩ := h.2.1
  obtain ⟨wd, wc, ww, wl, we, wt, wx, wh⟩ := hw.1
  have h2 := ww.1
  refine B_D_edit_0 h.1 ?_
  rw [dW.1]
  refine ⟨fun c => ⟨fun c2 => ?_, fun c2 => c_fnd h (by decide) (by decide) (by decide) (if_neg (by omega)) hq⟩, fun c => c_fnd h (by decide) (by decide) (by decide) (if_neg (by omega)) hq⟩
  refine sp_H_mostOf h.1 wh dH ?_
  refine B_D_edit_44 h.1 ?_
  obtain ⟨k1, k2, k3⟩ := dW.2 w c.1 c.2
  rw [k2]
  refine ⟨fun c3 => ⟨by omega, ?_⟩, fun c3 => c_fnd h (by decide) (by decide) (by decide) ((if_pos ⟨c, c2⟩).trans (if_neg c3)) hq⟩
  rw [show o_edit s w d = _ from (if_pos ⟨c, c2⟩).trans (if_pos c3)] at hq
  have o : ∀ i, (i < 10 ∨ 58 ≤ i) → up (sn s) (11 + 3 * w) d i = sn s i := fun i h => up_n (by omega)
  refine hq _ (h.to h.1 ⟨d0.trans (o 0 (by decide)).symm, dC.cg (o 1 (by decide)) (fun i a b => o i (by omega)), ?_, dL.cg wl.1.2 (o 2 (by decide)) (o 3 (by decide)) (fun i a b => o i (by omega)), dE.cg we.1.2 (o 4 (by decide)) (fun i a b => o i (by omega)), dT.cg wt.1.2 (o 7 (by decide)) (fun i a b => o i (by omega)), dX.cg wx.1.2 (o 5 (by decide)) (fun i a b => o i (by omega)), dH.cg wh.1.2 (o 6 (by decide)) (fun i a b => o i (by omega))⟩ (fun b hb => gI_ot (by omega)) rfl) (FrC.sI (by decide))
  unfold cWrk
  rw [o 2 (by decide)]
  refine ⟨dW.1, fun q q1 q2 => ?_⟩
  obtain ⟨b1, b2, b3⟩ := dW.2 q q1 q2
  rw [up_n (show 10 + 3 * q ≠ 11 + 3 * w by omega), up_n (show 12 + 3 * q ≠ 11 + 3 * w by omega)]
  refine ⟨b1, ?_, b3⟩
  by_cases hqw : q = w
  · subst hqw
    rw [up_s, gI_s]
  · rw [up_n (show 11 + 3 * q ≠ 11 + 3 * w by omega), gI_n (Or.inr hqw)]
    exact b2
theorem r_edit {w d : Int} (hw : WfS s) (h : RI s M) (hq : ∀ M', RI (o_edit s w d).1 M' → FrR M M' → Q M' (some (vI (o_edit s w d).2))) : Wq 3 0 0 mM_edit 0 [iR 80, iI w, iI d, none] [] M Q := by
  have e' := h.2.1
  obtain ⟨wd, wc, ww, wl, we, wt, wx, wh⟩ := hw.1
  have h6 := wh.1
  have h2 := ww.1
  refine B_M_edit_0 h.1 ?_
  rw [e']
  refine ⟨h2.1, fun c => ⟨fun c2 => ?_, fun c2 => r_fnd h (by decide) (if_neg (by omega)) hq⟩, fun c => r_fnd h (by decide) (if_neg (by omega)) hq⟩
  refine sp_M_hurried h.1 (by rw [e']; exact h6) ?_
  rw [e']
  refine B_M_edit_34 h.1 ?_
  rw [e']
  refine ⟨fun c3 => ⟨by omega, ?_⟩, fun c3 => r_fnd h (by decide) ((if_pos ⟨c, c2⟩).trans (if_neg c3)) hq⟩
  rw [show o_edit s w d = _ from (if_pos ⟨c, c2⟩).trans (if_pos c3)] at hq
  refine sp_M_changed h.1 (fun M' g1 g2 g3 g4 g5 => ?_)
  refine B_M_edit_68 ?_
  refine hq _ (h.chg (M1 := sI M 81 (11 + 3 * w) d) ?_ (by rw [gI_up, e']) (fun a ha => gI_ot ha) g1 g3 g4 g5) ((FrR.sI (by decide) (by decide)).chg g1 g2)
  rw [up_n (show (2 : Int) ≠ 11 + 3 * w by omega)]
  exact h2.2
/-! work -/
def woN (n : Int → Int) (k d : Int) : Int → Int := up (up (up (up n (10 + 3 * n 2) k) (11 + 3 * n 2) d) (12 + 3 * n 2) d) 2 (n 2 + 1)
theorem woN_o {n : Int → Int} {k d i : Int} (h2 : i ≠ 2) (h : i < 10 + 3 * n 2 ∨ 12 + 3 * n 2 < i) : woN n k d i = n i := by
  unfold woN
  rw [up_n h2, up_n (by omega), up_n (by omega), up_n (by omega)]
theorem woN_2 {n : Int → Int} {k d : Int} : woN n k d 2 = n 2 + 1 := up_s
theorem woN_at {n : Int → Int} {k d : Int} (h : 0 ≤ n 2) : woN n k d (10 + 3 * n 2) = k ∧ woN n k d (11 + 3 * n 2) = d ∧ woN n k d (12 + 3 * n 2) = d := by
  unfold woN up
  refine ⟨?_, ?_, ?_⟩ <;> (repeat rw [if_neg (by omega)]) <;> rw [if_pos rfl]
def o_work (s : St) (k d : Int) : St × Int :=
  if (0 ≤ k ∧ k ≤ 5) ∧ 1 ≤ d ∧ d ≤ 40 then (if sn s 2 < 16 then (wN s (woN (sn s) k d), sn s 2) else fnd s 4) else fnd s 1
theorem w_work {k d : Int} (hw : WfS s) : WfS (o_work s k d).1 := by
  unfold o_work
  split
  · rename_i c
    split
    · rename_i c2
      refine hw.to ?_
      obtain ⟨wd, wc, ww, wl, we, wt, wx, wh⟩ := hw.1
      have h2 := ww.1
      have o : ∀ i, i ≠ 2 → (i < 10 ∨ 58 ≤ i) → woN (sn s) k d i = sn s i := fun i h h' => woN_o h (by omega)
      refine ⟨wd.cg (o 0 (by decide) (by decide)), wc.cg (o 1 (by decide) (by decide)) (fun i a b => o i (by omega) (by omega)), ?_, ?_, ?_, wt.cg (o 7 (by decide) (by decide)) (fun i a b => o i (by omega) (by omega)), wx.cg (o 5 (by decide) (by decide)) (fun i a b => o i (by omega) (by omega)), ?_⟩
      · unfold wWrk
        rw [woN_2]
        refine ⟨by omega, fun q q1 q2 => ?_⟩
        by_cases hq : q = sn s 2
        · subst hq
          obtain ⟨a0, a1, a2⟩ := woN_at (k := k) (d := d) h2.1
          rw [a0, a1, a2]
          omega
        · rw [woN_o (by omega) (by omega), woN_o (by omega) (by omega), woN_o (by omega) (by omega)]
          exact ww.2 q q1 (by omega)
      · have h3 := wl.1
        have hl := fun i j => lnk_cg (n := sn s) (n' := woN (sn s) k d) (o 3 (by decide) (by decide)) h3.2 (fun i a b => o i (by omega) (by omega)) i j
        obtain ⟨l1, l2, l3, rk, l4, l5⟩ := wl
        unfold wLnk
        rw [woN_2, o 3 (by decide) (by decide)]
        refine ⟨l1, fun q q1 q2 => ?_, fun j q j1 j2 q1 q2 => ?_, rk, l4, fun i j z => l5 i j ((hl i j).mp z)⟩
        · have := l2 q q1 q2
          rw [o (58 + 3 * q) (by omega) (by omega), o (59 + 3 * q) (by omega) (by omega), o (60 + 3 * q) (by omega) (by omega)]
          omega
        · rw [o (58 + 3 * q) (by omega) (by omega), o (59 + 3 * q) (by omega) (by omega), o (58 + 3 * j) (by omega) (by omega), o (59 + 3 * j) (by omega) (by omega)]
          exact l3 j q j1 j2 q1 q2
      · have h4 := we.1
        unfold wEvt
        rw [woN_2, o 4 (by decide) (by decide), o 0 (by decide) (by decide)]
        refine ⟨h4, fun q q1 q2 => ?_⟩
        have := we.2 q q1 q2
        rw [o (148 + 7 * q) (by omega) (by omega), o (149 + 7 * q) (by omega) (by omega), o (150 + 7 * q) (by omega) (by omega), o (151 + 7 * q) (by omega) (by omega), o (152 + 7 * q) (by omega) (by omega), o (153 + 7 * q) (by omega) (by omega), o (154 + 7 * q) (by omega) (by omega)]
        omega
      · have h6 := wh.1
        unfold wHst
        rw [woN_2, o 6 (by decide) (by decide)]
        refine ⟨h6, fun q q1 q2 => ?_, fun g q g1 g2 q1 q2 => ?_⟩
        · have := wh.2.1 q q1 q2
          rw [o (1018 + 3 * q) (by omega) (by omega), o (1019 + 3 * q) (by omega) (by omega), o (1020 + 3 * q) (by omega) (by omega), woN_o (show 11 + 3 * sn s (1018 + 3 * q) ≠ 2 by omega) (by omega)]
          omega
        · rw [o (1018 + 3 * q) (by omega) (by omega), o (1018 + 3 * g) (by omega) (by omega)]
          exact wh.2.2 g q g1 g2 q1 q2
    · exact hw.fnd
  · exact hw.fnd
theorem c_work {k d : Int} (hw : WfS s) (h : CI s M) (hq : ∀ M', CI (o_work s k d).1 M' → FrC M M' → Q M' (some (vI (o_work s k d).2))) : Wq 3 0 0 mD_work 0 [iR 0, iI k, iI d] [] M Q := by
  obtain ⟨d0, dC, dW, dL, dE, dT, dX, dH⟩ := h.2.1
  obtain ⟨wd, wc, ww, wl, we, wt, wx, wh⟩ := hw.1
  have h2 := ww.1
  refine B_D_work_0 h.1 ?_
  rw [dW.1]
  refine ⟨fun c => ⟨fun c2 => ⟨fun c3 => ?_, fun c3 => c_fnd h (by decide) (by decide) (by decide) ((if_pos ⟨c, c2⟩).trans (if_neg c3)) hq⟩, fun c2 => c_fnd h (by decide) (by decide) (by decide) (if_neg (by omega)) hq⟩, fun c => c_fnd h (by decide) (by decide) (by decide) (if_neg (by omega)) hq⟩
  rw [show o_work s k d = _ from (if_pos ⟨c, c2⟩).trans (if_pos c3)] at hq
  refine B_W_add_0 h.1 ?_
  rw [dW.1]
  refine ⟨by omega, B_D_work_58 ?_⟩
  have o : ∀ i, i ≠ 2 → (i < 10 ∨ 58 ≤ i) → woN (sn s) k d i = sn s i := fun i h h' => woN_o h (by omega)
  have h3 := wl.1
  have hl := fun i j => lnk_cg (n := sn s) (n' := woN (sn s) k d) (o 3 (by decide) (by decide)) h3.2 (fun i a b => o i (by omega) (by omega)) i j
  have lk : ∀ i j, lnk (sn s) i j → (0 ≤ i ∧ i < sn s 2) ∧ (0 ≤ j ∧ j < sn s 2) := by
    rintro i j ⟨q, q1, q2, q3, q4⟩
    have := wl.2.1 q q1 q2
    rw [q3, q4] at this
    exact ⟨this.1, this.2.1⟩
  refine hq _ (h.to h.1 ⟨d0.trans (o 0 (by decide) (by decide)).symm, dC.cg (o 1 (by decide) (by decide)) (fun i a b => o i (by omega) (by omega)), ?_, ?_, dE.cg we.1.2 (o 4 (by decide) (by decide)) (fun i a b => o i (by omega) (by omega)), dT.cg wt.1.2 (o 7 (by decide) (by decide)) (fun i a b => o i (by omega) (by omega)), dX.cg wx.1.2 (o 5 (by decide) (by decide)) (fun i a b => o i (by omega) (by omega)), dH.cg wh.1.2 (o 6 (by decide) (by decide)) (fun i a b => o i (by omega) (by omega))⟩ (fun b hb => ?_) rfl) (fun a i ha => ?_)
  · unfold cWrk
    rw [woN_2]
    refine ⟨gI_s, fun q q1 q2 => ?_⟩
    by_cases hqe : q = sn s 2
    · subst hqe
      obtain ⟨a0, a1, a2⟩ := woN_at (n := sn s) (k := k) (d := d) h2.1
      rw [a0, a1, a2]
      exact ⟨gI_s, gI_s, gI_s⟩
    · rw [woN_o (by omega) (by omega), woN_o (by omega) (by omega), woN_o (by omega) (by omega)]
      obtain ⟨b0, b1, b2⟩ := dW.2 q q1 (by omega)
      exact ⟨(gI_n (Or.inr hqe)).trans b0, (gI_n (Or.inr hqe)).trans b1, (gI_n (Or.inr hqe)).trans b2⟩
  · obtain ⟨l1, l2, l3, l4, l5, l6⟩ := dL
    unfold cLnk
    rw [woN_2, o 3 (by decide) (by decide)]
    refine ⟨l1, fun q q1 q2 => ?_, fun q q1 q2 => ?_, ?_, ?_, ?_⟩
    · by_cases hqe : q = sn s 2
      · subst hqe
        rw [show gI (sI (sI (sI (sI (sI (sI M 6 (sn s 2) k) 7 (sn s 2) d) 8 (sn s 2) d) 9 (sn s 2) 0) 11 (sn s 2) (sn s 2)) 5 6 (sn s 2 + 1)) 9 (sn s 2) = 0 from gI_s]
        refine ⟨by decide, fun i => ?_⟩
        rw [hb_0, hl]
        refine Iff.intro (fun z => absurd z (by decide)) (fun z => ?_)
        have := lk _ _ z
        omega
      · rw [show gI (sI (sI (sI (sI (sI (sI M 6 (sn s 2) k) 7 (sn s 2) d) 8 (sn s 2) d) 9 (sn s 2) 0) 11 (sn s 2) (sn s 2)) 5 6 (sn s 2 + 1)) 9 q = gI M 9 q from gI_n (Or.inr hqe)]
        obtain ⟨z1, z2⟩ := l2 q q1 (by omega)
        exact ⟨z1, fun i => (z2 i).trans (hl i q).symm⟩
    · rw [o (58 + 3 * q) (by omega) (by omega), o (59 + 3 * q) (by omega) (by omega), o (60 + 3 * q) (by omega) (by omega)]
      exact l3 q q1 q2
    · intro p p1 p2
      rw [woN_2] at p2
      show 0 ≤ gI (sI (sI (sI (sI (sI (sI M 6 (sn s 2) k) 7 (sn s 2) d) 8 (sn s 2) d) 9 (sn s 2) 0) 11 (sn s 2) (sn s 2)) 5 6 (sn s 2 + 1)) 11 p ∧ gI (sI (sI (sI (sI (sI (sI M 6 (sn s 2) k) 7 (sn s 2) d) 8 (sn s 2) d) 9 (sn s 2) 0) 11 (sn s 2) (sn s 2)) 5 6 (sn s 2 + 1)) 11 p < _
      rw [woN_2]
      by_cases hp : p = sn s 2
      · subst hp
        rw [show gI (sI (sI (sI (sI (sI (sI M 6 (sn s 2) k) 7 (sn s 2) d) 8 (sn s 2) d) 9 (sn s 2) 0) 11 (sn s 2) (sn s 2)) 5 6 (sn s 2 + 1)) 11 (sn s 2) = sn s 2 from gI_s]
        omega
      · rw [show gI (sI (sI (sI (sI (sI (sI M 6 (sn s 2) k) 7 (sn s 2) d) 8 (sn s 2) d) 9 (sn s 2) 0) 11 (sn s 2) (sn s 2)) 5 6 (sn s 2 + 1)) 11 p = gI M 11 p from gI_n (Or.inr hp)]
        have := l4 p p1 (by omega)
        omega
    · intro p q p1 p2 q1 q2
      rw [woN_2] at p2 q2
      have rd : ∀ p, gI (sI (sI (sI (sI (sI (sI M 6 (sn s 2) k) 7 (sn s 2) d) 8 (sn s 2) d) 9 (sn s 2) 0) 11 (sn s 2) (sn s 2)) 5 6 (sn s 2 + 1)) 11 p = if p = sn s 2 then sn s 2 else gI M 11 p := by
        intro p
        by_cases hp : p = sn s 2
        · subst hp
          rw [if_pos rfl]
          exact gI_s
        · rw [if_neg hp]
          exact gI_n (Or.inr hp)
      show gI (sI (sI (sI (sI (sI (sI M 6 (sn s 2) k) 7 (sn s 2) d) 8 (sn s 2) d) 9 (sn s 2) 0) 11 (sn s 2) (sn s 2)) 5 6 (sn s 2 + 1)) 11 p = gI (sI (sI (sI (sI (sI (sI M 6 (sn s 2) k) 7 (sn s 2) d) 8 (sn s 2) d) 9 (sn s 2) 0) 11 (sn s 2) (sn s 2)) 5 6 (sn s 2 + 1)) 11 q → p = q
      rw [rd p, rd q]
      by_cases hp : p = sn s 2 <;> by_cases hq2 : q = sn s 2
      · omega
      · rw [if_pos hp, if_neg hq2]
        have := l4 q q1 (by omega)
        omega
      · rw [if_neg hp, if_pos hq2]
        have := l4 p p1 (by omega)
        omega
      · rw [if_neg hp, if_neg hq2]
        exact l5 p q p1 (by omega) q1 (by omega)
    · intro p q p1 p2 q1 q2
      rw [woN_2] at p2 q2
      have rd : ∀ p, gI (sI (sI (sI (sI (sI (sI M 6 (sn s 2) k) 7 (sn s 2) d) 8 (sn s 2) d) 9 (sn s 2) 0) 11 (sn s 2) (sn s 2)) 5 6 (sn s 2 + 1)) 11 p = if p = sn s 2 then sn s 2 else gI M 11 p := by
        intro p
        by_cases hp : p = sn s 2
        · subst hp
          rw [if_pos rfl]
          exact gI_s
        · rw [if_neg hp]
          exact gI_n (Or.inr hp)
      show lnk (woN (sn s) k d) (gI (sI (sI (sI (sI (sI (sI M 6 (sn s 2) k) 7 (sn s 2) d) 8 (sn s 2) d) 9 (sn s 2) 0) 11 (sn s 2) (sn s 2)) 5 6 (sn s 2 + 1)) 11 p) (gI (sI (sI (sI (sI (sI (sI M 6 (sn s 2) k) 7 (sn s 2) d) 8 (sn s 2) d) 9 (sn s 2) 0) 11 (sn s 2) (sn s 2)) 5 6 (sn s 2 + 1)) 11 q) → p < q
      rw [rd p, rd q, hl]
      intro z
      have zz := lk _ _ z
      by_cases hp : p = sn s 2
      · rw [if_pos hp] at zz
        omega
      · by_cases hq2 : q = sn s 2
        · rw [if_pos hq2] at zz
          omega
        · rw [if_neg hp, if_neg hq2] at z
          exact l6 p q p1 (by omega) q1 (by omega) z
  · rw [gI_ot (by omega), gI_ot (by omega), gI_ot (by omega), gI_ot (by omega), gI_ot (by omega), gI_ot (by omega)]
  · rw [gI_ot (by omega), gI_ot (by omega), gI_ot (by omega), gI_ot (by omega), gI_ot (by omega), gI_ot (by omega)]
theorem r_work {k d : Int} (hw : WfS s) (h : RI s M) (hq : ∀ M', RI (o_work s k d).1 M' → FrR M M' → Q M' (some (vI (o_work s k d).2))) : Wq 2 0 0 mM_work 0 [iR 80, iI k, iI d, none] [] M Q := by
  have e' := h.2.1
  have h2 := hw.1.2.2.1.1
  refine B_M_work_0 h.1 ?_
  rw [e']
  refine ⟨fun c => ⟨fun c2 => ⟨fun c3 => ⟨by omega, ?_⟩, fun c3 => r_fnd h (by decide) ((if_pos ⟨c, c2⟩).trans (if_neg (by omega))) hq⟩, fun c2 => r_fnd h (by decide) (if_neg (by omega)) hq⟩, fun c => r_fnd h (by decide) (if_neg (by omega)) hq⟩
  rw [show o_work s k d = _ from (if_pos ⟨c, c2⟩).trans (if_pos (by omega))] at hq
  refine sp_M_changed h.1 (fun M' g1 g2 g3 g4 g5 => ?_)
  refine B_M_work_107 ?_
  refine hq _ (h.chg (n' := woN (sn s) k d) (M1 := sI (sI (sI (sI M 81 (10 + 3 * sn s 2) k) 81 (11 + 3 * sn s 2) d) 81 (12 + 3 * sn s 2) d) 81 2 (sn s 2 + 1)) ?_ ?_ (fun a ha => ?_) g1 g3 g4 g5) (FrR.chg (M1 := sI (sI (sI (sI M 81 (10 + 3 * sn s 2) k) 81 (11 + 3 * sn s 2) d) 81 (12 + 3 * sn s 2) d) 81 2 (sn s 2 + 1)) (fun a i ha => ⟨?_, rfl⟩) g1 g2)
  · rw [woN_2]
    omega
  · rw [gI_up, gI_up, gI_up, gI_up, e']
    rfl
  · rw [gI_ot ha, gI_ot ha, gI_ot ha, gI_ot ha]
  · rw [gI_ot (by omega), gI_ot (by omega), gI_ot (by omega), gI_ot (by omega)]
/-! as -/
def under (k kd : Int) : Bool := decide (k = kd ∨ aboveF k = kd ∨ aboveF (aboveF k) = kd)
def o_as (s : St) (w kd : Int) : St × Int :=
  if (0 ≤ w ∧ w < sn s 2) ∧ 0 ≤ kd ∧ kd ≤ 5 then (if under (sn s (10 + 3 * w)) kd = true then (s, sn s (11 + 3 * w)) else fnd s 5) else fnd s 1
theorem w_as {w kd : Int} (hw : WfS s) : WfS (o_as s w kd).1 := by
  unfold o_as
  split
  · split
    · exact hw
    · exact hw.fnd
  · exact hw.fnd
theorem abF : aboveF 0 = -1 ∧ aboveF 1 = 0 ∧ aboveF 2 = 0 ∧ aboveF 3 = 2 ∧ aboveF 4 = 0 ∧ aboveF 5 = 2 := by decide
theorem sp_D_isUnder {k kd : Int} (hk : 0 ≤ k ∧ k ≤ 5) (hkd : 0 ≤ kd ∧ kd ≤ 5) (ha : ∀ i, 0 ≤ i → i < 6 → gI M 1001 i = (if i = 0 then -1 else if i = 3 ∨ i = 5 then 2 else 0)) (hq : Q M (some (vI (if under k kd = true then 1 else 0)))) : Wq 3 0 0 mD_isUnder 0 [iI k, iI kd, none, none] [] M Q := by
  have hab : ∀ i, 0 ≤ i → i < 6 → gI M 1001 i = aboveF i := by
    intro i i0 i1
    rw [ha i i0 i1]
    have : i = 0 ∨ i = 1 ∨ i = 2 ∨ i = 3 ∨ i = 4 ∨ i = 5 := by omega
    rcases this with rfl | rfl | rfl | rfl | rfl | rfl <;> decide
  obtain ⟨f0, f1, f2, f3, f4, f5⟩ := abF
  have st0 : ∀ x3 : Int, 0 ≤ x3 → x3 < 5 → Q M (some (vI (if kd = 0 then 1 else 0))) → Wq 3 0 0 mD_isUnder 4 [iI k, iI kd, iI 0, iI x3] [] M Q := by
    intro x3 h0 h1 q
    refine B_D_isUnder_4 ⟨fun c => by omega, fun c => ⟨fun _ => ⟨fun c2 => ⟨by omega, ?_⟩, fun c2 => ?_⟩, fun c2 => by omega⟩⟩
    · rw [hab 0 (by decide) (by decide), f0]
      refine B_D_isUnder_4 ⟨fun c3 => ?_, fun c3 => ⟨fun c4 => by omega, fun c4 => ?_⟩⟩ <;> (rw [if_neg (by omega)] at q; exact q)
    · rw [if_pos c2.symm] at q
      exact q
  have st2 : ∀ x3 : Int, 0 ≤ x3 → x3 < 4 → Q M (some (vI (if kd = 2 ∨ kd = 0 then 1 else 0))) → Wq 3 0 0 mD_isUnder 4 [iI k, iI kd, iI 2, iI x3] [] M Q := by
    intro x3 h0 h1 q
    refine B_D_isUnder_4 ⟨fun c => by omega, fun c => ⟨fun _ => ⟨fun c2 => ⟨by omega, ?_⟩, fun c2 => ?_⟩, fun c2 => by omega⟩⟩
    · rw [hab 2 (by decide) (by decide), f2]
      refine st0 _ (by omega) (by omega) ?_
      by_cases hz : kd = 0
      · rw [if_pos (Or.inr hz)] at q
        rw [if_pos hz]
        exact q
      · rw [if_neg (by omega)] at q
        rw [if_neg hz]
        exact q
    · rw [if_pos (Or.inl c2.symm)] at q
      exact q
  refine B_D_isUnder_0 ?_
  have hkk : k = 0 ∨ k = 1 ∨ k = 2 ∨ k = 3 ∨ k = 4 ∨ k = 5 := by omega
  have cg : ∀ (p : Prop) [Decidable p], (under k kd = true ↔ p) → Q M (some (vI (if p then 1 else 0))) := by
    intro p _ hp
    by_cases z : p
    · rw [if_pos z]
      rwa [if_pos (hp.mpr z)] at hq
    · rw [if_neg z]
      rwa [if_neg (fun y => z (hp.mp y))] at hq
  unfold under at cg
  rcases hkk with rfl | rfl | rfl | rfl | rfl | rfl
  · exact st0 0 (by decide) (by decide) (cg _ (by rw [f0, decide_eq_true_iff, show aboveF (-1) = 0 by decide]; omega))
  · refine B_D_isUnder_4 ⟨fun c => by omega, fun c => ⟨fun _ => ⟨fun c2 => ⟨by omega, ?_⟩, fun c2 => ?_⟩, fun c2 => by omega⟩⟩
    · rw [hab 1 (by decide) (by decide), f1]
      exact st0 _ (by omega) (by omega) (cg _ (by rw [f1, f0, decide_eq_true_iff]; omega))
    · have := cg True (by rw [decide_eq_true_iff]; simp [c2])
      exact this
  · exact st2 0 (by decide) (by decide) (cg _ (by rw [f2, f0, decide_eq_true_iff]; omega))
  · refine B_D_isUnder_4 ⟨fun c => by omega, fun c => ⟨fun _ => ⟨fun c2 => ⟨by omega, ?_⟩, fun c2 => ?_⟩, fun c2 => by omega⟩⟩
    · rw [hab 3 (by decide) (by decide), f3]
      exact st2 _ (by omega) (by omega) (cg _ (by rw [f3, f2, decide_eq_true_iff]; omega))
    · have := cg True (by rw [decide_eq_true_iff]; simp [c2])
      exact this
  · refine B_D_isUnder_4 ⟨fun c => by omega, fun c => ⟨fun _ => ⟨fun c2 => ⟨by omega, ?_⟩, fun c2 => ?_⟩, fun c2 => by omega⟩⟩
    · rw [hab 4 (by decide) (by decide), f4]
      exact st0 _ (by omega) (by omega) (cg _ (by rw [f4, f0, decide_eq_true_iff]; omega))
    · have := cg True (by rw [decide_eq_true_iff]; simp [c2])
      exact this
  · refine B_D_isUnder_4 ⟨fun c => by omega, fun c => ⟨fun _ => ⟨fun c2 => ⟨by omega, ?_⟩, fun c2 => ?_⟩, fun c2 => by omega⟩⟩
    · rw [hab 5 (by decide) (by decide), f5]
      exact st2 _ (by omega) (by omega) (cg _ (by rw [f5, f2, decide_eq_true_iff]; omega))
    · have := cg True (by rw [decide_eq_true_iff]; simp [c2])
      exact this
theorem c_as {w kd : Int} (hw : WfS s) (h : CI s M) (hq : ∀ M', CI (o_as s w kd).1 M' → FrC M M' → Q M' (some (vI (o_as s w kd).2))) : Wq 4 0 0 mD_as 0 [iR 0, iI w, iI kd, none] [] M Q := by
  obtain ⟨d0, dC, dW, dL, dE, dT, dX, dH⟩ := h.2.1
  have ww := hw.1.2.2.1
  have h2 := ww.1
  refine B_D_as_0 h.1 ?_
  rw [dW.1]
  refine ⟨fun c => ⟨fun c2 => ⟨by omega, ?_⟩, fun c2 => c_fnd h (by decide) (by decide) (by decide) (if_neg (by omega)) hq⟩, fun c => c_fnd h (by decide) (by decide) (by decide) (if_neg (by omega)) hq⟩
  obtain ⟨k1, k2, k3⟩ := dW.2 w c.1 c.2
  rw [k1]
  refine sp_D_isUnder (ww.2 w c.1 c.2).1 c2 h.2.2.2.2.2.2.2.1 ?_
  refine B_D_as_40 h.1 ?_
  rw [k2]
  refine ⟨fun c3 => ⟨by omega, ?_⟩, fun c3 => ?_⟩
  · by_cases u : under (sn s (10 + 3 * w)) kd = true
    · rw [show o_as s w kd = _ from (if_pos ⟨c, c2⟩).trans (if_pos u)] at hq
      exact hq _ h FrC.rf
    · rw [if_neg u] at c3
      exact absurd rfl c3
  · by_cases u : under (sn s (10 + 3 * w)) kd = true
    · rw [if_pos u] at c3
      exact absurd c3 (by decide)
    · exact c_fnd h (by decide) (by decide) (by decide) ((if_pos ⟨c, c2⟩).trans (if_neg u)) hq
theorem r_as {w kd : Int} (hw : WfS s) (h : RI s M) (hq : ∀ M', RI (o_as s w kd).1 M' → FrR M M' → Q M' (some (vI (o_as s w kd).2))) : Wq 3 0 0 mM_as 0 [iR 80, iI w, iI kd, none] [] M Q := by
  have e' := h.2.1
  have ww := hw.1.2.2.1
  have h2 := ww.1
  obtain ⟨f0, f1, f2, f3, f4, f5⟩ := abF
  refine B_M_as_0 h.1 ?_
  rw [e']
  refine ⟨h2.1, fun c => ⟨fun c2 => ⟨by omega, ?_⟩, fun c2 => r_fnd h (by decide) (if_neg (by omega)) hq⟩, fun c => r_fnd h (by decide) (if_neg (by omega)) hq⟩
  have hk := (ww.2 w c.1 c.2).1
  have good : under (sn s (10 + 3 * w)) kd = true → Q M (some (vI (sn s (11 + 3 * w)))) := by
    intro u
    rw [show o_as s w kd = _ from (if_pos ⟨c, c2⟩).trans (if_pos u)] at hq
    exact hq _ h FrR.rf
  have bad : ¬ under (sn s (10 + 3 * w)) kd = true → Q (sI M 83 5 (wr (gI M 83 5 + 1))) (some (vI (-1000005))) := fun u => r_fnd h (by decide) ((if_pos ⟨c, c2⟩).trans (if_neg u)) hq
  unfold under at good bad
  rw [decide_eq_true_iff] at good bad
  generalize sn s (10 + 3 * w) = k at hk good bad ⊢
  have stm : (¬ (k = kd ∨ aboveF k = kd ∨ aboveF (aboveF k) = kd)) → Wq 3 0 0 mM_as 34 [iR 80, iI w, iI kd, iI (-1)] [] M Q := by
    intro hb
    refine B_M_as_34 h.1 ⟨fun _ => ⟨fun z => by omega, fun _ => bad hb⟩, fun z => by omega⟩
  have hit : ∀ x : Int, 0 ≤ x → x = kd → (k = kd ∨ aboveF k = kd ∨ aboveF (aboveF k) = kd) → Wq 3 0 0 mM_as 34 [iR 80, iI w, iI kd, iI x] [] M Q := by
    intro x x0 hx hg
    refine B_M_as_34 h.1 ?_
    rw [e']
    exact ⟨fun z => by omega, fun _ => ⟨fun _ => ⟨fun _ => ⟨by omega, good hg⟩, fun z => by omega⟩, fun z => absurd hx z⟩⟩
  have go : ∀ x : Int, 0 ≤ x → x ≠ kd → Wq 3 0 0 mM_as 34 [iR 80, iI w, iI kd, iI (aboveF x)] [] M Q → Wq 3 0 0 mM_as 34 [iR 80, iI w, iI kd, iI x] [] M Q := by
    intro x x0 hx hg
    exact B_M_as_34 h.1 ⟨fun z => by omega, fun _ => ⟨fun z => absurd z hx, fun _ => hg⟩⟩
  have hkk : k = 0 ∨ k = 1 ∨ k = 2 ∨ k = 3 ∨ k = 4 ∨ k = 5 := by omega
  by_cases a1 : k = kd
  · exact hit k hk.1 a1 (Or.inl a1)
  · refine go k hk.1 a1 ?_
    by_cases a2 : 0 ≤ aboveF k
    · by_cases a3 : aboveF k = kd
      · exact hit _ a2 a3 (Or.inr (Or.inl a3))
      · refine go _ a2 a3 ?_
        by_cases a4 : 0 ≤ aboveF (aboveF k)
        · by_cases a5 : aboveF (aboveF k) = kd
          · exact hit _ a4 a5 (Or.inr (Or.inr a5))
          · refine go _ a4 a5 ?_
            have e3 : aboveF (aboveF (aboveF k)) = -1 := by
              rcases hkk with rfl | rfl | rfl | rfl | rfl | rfl <;> first | rfl | (exact absurd a4 (by decide)) | (exact absurd a2 (by decide))
            rw [e3]
            exact stm (by omega)
        · have e3 : aboveF (aboveF k) = -1 := by
            rcases hkk with rfl | rfl | rfl | rfl | rfl | rfl <;> first | rfl | (exact absurd a2 (by decide)) | (exact absurd (by decide) a4)
          rw [e3]
          exact stm (by omega)
    · have e3 : aboveF k = -1 := by
        rcases hkk with rfl | rfl | rfl | rfl | rfl | rfl <;> first | rfl | (exact absurd (by decide) a2)
      rw [e3]
      have : kd ≠ aboveF (aboveF k) ∨ kd = k := by
        rcases hkk with rfl | rfl | rfl | rfl | rfl | rfl <;> first | exact absurd (by decide) a2 | (rw [f0, show aboveF (-1) = 0 by decide]; omega)
      exact stm (by omega)
end OPD
