/-! ===== today, calm, found, of, notice, back ===== -/
section OPB
variable {s : St} {M : Mm} {Q : Mm → Option Mv → Prop}
theorem WfS.to {n' : Int → Int} (hw : WfS s) (h : WfN n') : WfS (wN s n') := ⟨h, hw.2⟩
/-- the live Site changes, what else the class has does not -/
theorem CI.to {n' : Int → Int} {M' : Mm} (h : CI s M) (hS : RefOK M') (h0 : site0 n' M') (k0 : ∀ b : Nat, (b = 0 ∨ 30 ≤ b) → gI M' b = gI M b) (kl : gL M' 32 = gL M 32) : CI (wN s n') M' := by
  refine ⟨hS, h0, ?_⟩
  have g := h.2.2
  unfold site1 shR at g ⊢
  simp only [k0 0 (by decide), k0 30 (by decide), k0 31 (by decide), k0 33 (by decide), k0 34 (by decide), k0 35 (by decide), k0 36 (by decide), k0 37 (by decide), k0 38 (by decide), k0 39 (by decide), k0 40 (by decide), k0 41 (by decide), k0 42 (by decide), k0 43 (by decide), k0 44 (by decide), k0 45 (by decide), k0 46 (by decide), k0 47 (by decide), k0 48 (by decide), k0 49 (by decide), k0 50 (by decide), k0 51 (by decide), k0 52 (by decide), k0 53 (by decide), k0 54 (by decide), k0 55 (by decide), k0 56 (by decide), k0 57 (by decide), k0 58 (by decide), k0 66 (by decide), k0 67 (by decide), k0 69 (by decide), k0 72 (by decide), k0 73 (by decide), k0 74 (by decide), k0 75 (by decide), k0 76 (by decide), k0 77 (by decide), k0 78 (by decide), k0 79 (by decide), k0 1001 (by decide), k0 1002 (by decide), kl]
  exact g
def o_today (s : St) (d : Int) : St × Int := if sn s 0 ≤ d ∧ d ≤ 900 then (wN s (up (sn s) 0 d), sn s 0) else fnd s 1
theorem w_today {d : Int} (hw : WfS s) : WfS (o_today s d).1 := by
  unfold o_today
  split
  · rename_i c
    refine hw.to ?_
    obtain ⟨⟨wd, wc, ww, wl, we, wt, wx, wh⟩, w2⟩ := hw
    have h16 := ww.1.2
    refine ⟨?_, wc.cg (up_n (by decide)) (fun i a b => up_n (by omega)), ww.cg (up_n (by decide)) (fun i a b => up_n (by omega)), wl.cg (up_n (by decide)) (up_n (by decide)) (fun i a b => up_n (by omega)), ?_, wt.cg (up_n (by decide)) (fun i a b => up_n (by omega)), wx.cg (up_n (by decide)) (fun i a b => up_n (by omega)), wh.cg (up_n (by decide)) (up_n (by decide)) h16 (fun i a b => up_n (by omega)) (fun i a b => up_n (by omega))⟩
    · unfold wDay at *
      rw [up_s]
      omega
    · unfold wEvt at *
      rw [up_n (show (4 : Int) ≠ 0 by decide)]
      refine ⟨we.1, fun e h1 h2 => ?_⟩
      have := we.2 e h1 h2
      rw [up_n (show 148 + 7 * e ≠ 0 by omega), up_n (show (2 : Int) ≠ 0 by decide), up_n (show 149 + 7 * e ≠ 0 by omega), up_n (show 150 + 7 * e ≠ 0 by omega), up_n (show 151 + 7 * e ≠ 0 by omega), up_n (show 152 + 7 * e ≠ 0 by omega), up_n (show 153 + 7 * e ≠ 0 by omega), up_n (show 154 + 7 * e ≠ 0 by omega), up_s]
      omega
  · exact hw.fnd
theorem c_today {d : Int} (hw : WfS s) (h : CI s M) (hq : ∀ M', CI (o_today s d).1 M' → FrC M M' → Q M' (some (vI (o_today s d).2))) : Wq 3 0 0 mD_today 0 [iR 0, iI d, none] [] M Q := by
  obtain ⟨d0, dC, dW, dL, dE, dT, dX, dH⟩ := h.2.1
  obtain ⟨⟨wd, wc, ww, wl, we, wt, wx, wh⟩, w2⟩ := hw
  refine B_D_today_0 h.1 ⟨fun c => ?_, fun c => ?_⟩ <;> rw [d0] at c
  · rw [show o_today s d = _ from if_pos c] at hq
    rw [d0]
    exact hq _ (h.to h.1 ⟨gI_s.trans up_s.symm, dC.cg (up_n (by decide)) (fun i a b => up_n (by omega)), dW.cg ww.1.2 (up_n (by decide)) (fun i a b => up_n (by omega)), dL.cg wl.1.2 (up_n (by decide)) (up_n (by decide)) (fun i a b => up_n (by omega)), dE.cg we.1.2 (up_n (by decide)) (fun i a b => up_n (by omega)), dT.cg wt.1.2 (up_n (by decide)) (fun i a b => up_n (by omega)), dX.cg wx.1.2 (up_n (by decide)) (fun i a b => up_n (by omega)), dH.cg wh.1.2 (up_n (by decide)) (fun i a b => up_n (by omega))⟩ (fun b hb => gI_ot (by omega)) rfl) (FrC.sI (by decide))
  · exact c_fnd h (by decide) (by decide) (by decide) (if_neg c) hq
theorem r_today {d : Int} (hw : WfS s) (h : RI s M) (hq : ∀ M', RI (o_today s d).1 M' → FrR M M' → Q M' (some (vI (o_today s d).2))) : Wq 2 0 0 mM_today 0 [iR 80, iI d, none] [] M Q := by
  have e := h.2.1
  refine B_M_today_0 h.1 ?_
  rw [e]
  refine ⟨fun c => ?_, fun c => ?_⟩
  · rw [show o_today s d = _ from if_pos c] at hq
    exact hq _ (h.now (rCac.cg hw.1.2.2.1 hw.1.2.2.2.1 h.2.2.2.2.2.2.2.2.2.2 (up_n (by decide)) (up_n (by decide)) (up_n (by decide)) (fun i a b => up_n (by omega)) (fun i a b => up_n (by omega)) rfl rfl rfl)) (FrR.sI (by decide) (by decide))
  · exact r_fnd h (by decide) (if_neg c) hq
def o_calm (s : St) : St × Int := (wN s (up (sn s) 6 0), sn s 6)
theorem w_calm (hw : WfS s) : WfS (o_calm s).1 := by
  refine hw.to ?_
  obtain ⟨⟨wd, wc, ww, wl, we, wt, wx, wh⟩, w2⟩ := hw
  refine ⟨wd.cg (up_n (by decide)), wc.cg (up_n (by decide)) (fun i a b => up_n (by omega)), ww.cg (up_n (by decide)) (fun i a b => up_n (by omega)), wl.cg (up_n (by decide)) (up_n (by decide)) (fun i a b => up_n (by omega)), we.cg (up_n (by decide)) (up_n (by decide)) (up_n (by decide)) (fun i a b => up_n (by omega)), wt.cg (up_n (by decide)) (fun i a b => up_n (by omega)), wx.cg (up_n (by decide)) (fun i a b => up_n (by omega)), ?_⟩
  unfold wHst
  rw [up_s]
  exact ⟨by omega, fun h h1 h2 => by omega, fun g h h1 h2 => by omega⟩
theorem c_calm (hw : WfS s) (h : CI s M) (hq : ∀ M', CI (o_calm s).1 M' → FrC M M' → Q M' (some (vI (o_calm s).2))) : Wq 1 0 0 mD_calm 0 [iR 0, none] [] M Q := by
  obtain ⟨d0, dC, dW, dL, dE, dT, dX, dH⟩ := h.2.1
  obtain ⟨⟨wd, wc, ww, wl, we, wt, wx, wh⟩, w2⟩ := hw
  refine B_D_calm_0 h.1 ?_
  rw [dH.1]
  refine hq _ (h.to h.1 ⟨d0.trans (up_n (by decide)).symm, dC.cg (up_n (by decide)) (fun i a b => up_n (by omega)), dW.cg ww.1.2 (up_n (by decide)) (fun i a b => up_n (by omega)), dL.cg wl.1.2 (up_n (by decide)) (up_n (by decide)) (fun i a b => up_n (by omega)), dE.cg we.1.2 (up_n (by decide)) (fun i a b => up_n (by omega)), dT.cg wt.1.2 (up_n (by decide)) (fun i a b => up_n (by omega)), dX.cg wx.1.2 (up_n (by decide)) (fun i a b => up_n (by omega)), ?_⟩ (fun b hb => gI_ot (by omega)) rfl) (FrC.sI (by decide))
  unfold cHst
  rw [up_s]
  exact ⟨gI_s, fun h h1 h2 => by omega⟩
theorem r_calm (hw : WfS s) (h : RI s M) (hq : ∀ M', RI (o_calm s).1 M' → FrR M M' → Q M' (some (vI (o_calm s).2))) : Wq 1 0 0 mM_calm 0 [iR 80, none] [] M Q := by
  have e := h.2.1
  refine B_M_calm_0 h.1 ?_
  rw [e]
  exact hq _ (h.now (rCac.cg hw.1.2.2.1 hw.1.2.2.2.1 h.2.2.2.2.2.2.2.2.2.2 (up_n (by decide)) (up_n (by decide)) (up_n (by decide)) (fun i a b => up_n (by omega)) (fun i a b => up_n (by omega)) rfl rfl rfl)) (FrR.sI (by decide) (by decide))
def o_found (s : St) (k : Int) : St × Int := if 1 ≤ k ∧ k ≤ 5 then (s, sfd s k) else fnd s 1
theorem w_found {k : Int} (hw : WfS s) : WfS (o_found s k).1 := by
  unfold o_found
  split
  · exact hw
  · exact hw.fnd
theorem c_found {k : Int} (h : CI s M) (hq : ∀ M', CI (o_found s k).1 M' → FrC M M' → Q M' (some (vI (o_found s k).2))) : Wq 3 0 0 mD_found 0 [iR 0, iI k] [] M Q := by
  refine B_D_found_0 h.1 ⟨fun c => ⟨by omega, ?_⟩, fun c => ?_⟩
  · rw [show o_found s k = _ from if_pos c] at hq
    rw [h.2.2.2.2.1 k c.1 c.2]
    exact hq _ h FrC.rf
  · exact c_fnd h (by decide) (by decide) (by decide) (if_neg c) hq
theorem r_found {k : Int} (h : RI s M) (hq : ∀ M', RI (o_found s k).1 M' → FrR M M' → Q M' (some (vI (o_found s k).2))) : Wq 2 0 0 mM_found 0 [iR 80, iI k] [] M Q := by
  refine B_M_found_0 h.1 ⟨fun c => ⟨by omega, ?_⟩, fun c => ?_⟩
  · rw [show o_found s k = _ from if_pos c] at hq
    rw [h.2.2.2.2.1]
    exact hq _ h FrR.rf
  · exact r_fnd h (by decide) (if_neg c) hq
def o_of (s : St) (e f : Int) : St × Int := if (0 ≤ e ∧ e < sn s 4) ∧ 0 ≤ f ∧ f ≤ 6 then (s, sn s (148 + 7 * e + f)) else fnd s 1
theorem w_of {e f : Int} (hw : WfS s) : WfS (o_of s e f).1 := by
  unfold o_of
  split
  · exact hw
  · exact hw.fnd
theorem c_of {e f : Int} (hw : WfS s) (h : CI s M) (hq : ∀ M', CI (o_of s e f).1 M' → FrC M M' → Q M' (some (vI (o_of s e f).2))) : Wq 3 0 0 mD_of 0 [iR 0, iI e, iI f, none] [] M Q := by
  obtain ⟨d0, dC, dW, dL, dE, dT, dX, dH⟩ := h.2.1
  have h20 := hw.1.2.2.2.2.1.1.2
  refine B_D_of_0 h.1 ⟨fun c => ?_, fun c => ?_⟩ <;> rw [dE.1] at c
  · obtain ⟨a0, a1, a2, a3, a4, a5, a6⟩ := dE.2 e c.1 c.2
    have key : ∀ (v : Int), 0 ≤ f → f ≤ 6 → v = sn s (148 + 7 * e + f) → Q M (some (vI v)) := by
      intro v f1 f2 hv
      rw [show o_of s e f = _ from if_pos ⟨c, f1, f2⟩] at hq
      rw [hv]
      exact hq _ h FrC.rf
    refine ⟨fun q => ⟨by omega, key _ (by omega) (by omega) ?_⟩, fun q => ⟨by omega, key _ (by omega) (by omega) ?_⟩, fun q => ⟨by omega, key _ (by omega) (by omega) ?_⟩, fun q => ⟨by omega, key _ (by omega) (by omega) ?_⟩, fun q => ⟨by omega, key _ (by omega) (by omega) ?_⟩, fun q => ⟨by omega, key _ (by omega) (by omega) ?_⟩, fun q => ⟨by omega, key _ (by omega) (by omega) ?_⟩, fun q => c_fnd h (by decide) (by decide) (by decide) (if_neg (by omega)) hq⟩
    · rw [a0, q]; congr 1; omega
    · rw [a1, q]; congr 1; omega
    · rw [a2, q]; congr 1; omega
    · rw [a3, q]; congr 1; omega
    · rw [a4, q]; congr 1; omega
    · rw [a5, q]; congr 1; omega
    · rw [a6, q]; congr 1; omega
  · exact c_fnd h (by decide) (by decide) (by decide) (if_neg (by omega)) hq
theorem r_of {e f : Int} (hw : WfS s) (h : RI s M) (hq : ∀ M', RI (o_of s e f).1 M' → FrR M M' → Q M' (some (vI (o_of s e f).2))) : Wq 3 0 0 mM_of 0 [iR 80, iI e, iI f] [] M Q := by
  have e' := h.2.1
  have h20 := hw.1.2.2.2.2.1.1
  refine B_M_of_0 h.1 ?_
  rw [e']
  refine ⟨h20.1, fun c => ⟨fun c2 => ⟨by omega, ?_⟩, fun c2 => ?_⟩, fun c => ?_⟩
  · rw [show o_of s e f = _ from if_pos ⟨c, c2⟩] at hq
    exact hq _ h FrR.rf
  · exact r_fnd h (by decide) (if_neg (by omega)) hq
  · exact r_fnd h (by decide) (if_neg (by omega)) hq
def o_notice (s : St) (e d : Int) : St × Int :=
  if (0 ≤ e ∧ e < sn s 4) ∧ sn s (150 + 7 * e) ≤ d ∧ d ≤ sn s 0 then (if sn s (152 + 7 * e) < 0 then (wN s (up (sn s) (152 + 7 * e) d), 1) else fnd s 3) else fnd s 1
def o_back (s : St) (e : Int) : St × Int :=
  if 0 ≤ e ∧ e < sn s 4 then (if 0 ≤ sn s (154 + 7 * e) ∨ sn s (153 + 7 * e) = sn s 0 then fnd s 3 else (wN s (up (sn s) (154 + 7 * e) (sn s 0)), 1)) else fnd s 1
/-- a write among the EVENTS -/
theorem wEv_up {i v : Int} (hw : WfS s) (h1 : 148 ≤ i) (h2 : i < 288) (he : wEvt (up (sn s) i v)) : WfS (wN s (up (sn s) i v)) := by
  refine hw.to ?_
  obtain ⟨⟨wd, wc, ww, wl, we, wt, wx, wh⟩, w2⟩ := hw
  exact ⟨wd.cg (up_n (by omega)), wc.cg (up_n (by omega)) (fun j a b => up_n (by omega)), ww.cg (up_n (by omega)) (fun j a b => up_n (by omega)), wl.cg (up_n (by omega)) (up_n (by omega)) (fun j a b => up_n (by omega)), he, wt.cg (up_n (by omega)) (fun j a b => up_n (by omega)), wx.cg (up_n (by omega)) (fun j a b => up_n (by omega)), wh.cg (up_n (by omega)) (up_n (by omega)) ww.1.2 (fun j a b => up_n (by omega)) (fun j a b => up_n (by omega))⟩
theorem cEv_up {i v : Int} {a : Nat} {j : Int} (hw : WfS s) (h : CI s M) (h1 : 148 ≤ i) (h2 : i < 288) (ha : 13 ≤ a ∧ a ≤ 19) (he : cEvt (up (sn s) i v) (gI (sI M a j v) 13) (gI (sI M a j v) 14) (gI (sI M a j v) 15) (gI (sI M a j v) 16) (gI (sI M a j v) 17) (gI (sI M a j v) 18) (gI (sI M a j v) 19) (gI M 12 7)) : CI (wN s (up (sn s) i v)) (sI M a j v) := by
  obtain ⟨d0, dC, dW, dL, dE, dT, dX, dH⟩ := h.2.1
  obtain ⟨⟨wd, wc, ww, wl, we, wt, wx, wh⟩, w2⟩ := hw
  have k0 : ∀ b : Nat, (b < 13 ∨ 19 < b) → gI (sI M a j v) b = gI M b := fun b hb => gI_ot (by omega)
  refine h.to h.1 ?_ (fun b hb => k0 b (by omega)) rfl
  unfold site0
  simp only [k0 1 (by decide), k0 2 (by decide), k0 4 (by decide), k0 5 (by decide), k0 6 (by decide), k0 7 (by decide), k0 8 (by decide), k0 9 (by decide), k0 10 (by decide), k0 11 (by decide), k0 12 (by decide), k0 20 (by decide), k0 21 (by decide), k0 22 (by decide), k0 23 (by decide), k0 24 (by decide), k0 25 (by decide), k0 26 (by decide), k0 27 (by decide), k0 28 (by decide), k0 29 (by decide)]
  exact ⟨d0.trans (up_n (by omega)).symm, dC.cg (up_n (by omega)) (fun i a b => up_n (by omega)), dW.cg ww.1.2 (up_n (by omega)) (fun i a b => up_n (by omega)), dL.cg wl.1.2 (up_n (by omega)) (up_n (by omega)) (fun i a b => up_n (by omega)), he, dT.cg wt.1.2 (up_n (by omega)) (fun i a b => up_n (by omega)), dX.cg wx.1.2 (up_n (by omega)) (fun i a b => up_n (by omega)), dH.cg wh.1.2 (up_n (by omega)) (fun i a b => up_n (by omega))⟩
theorem rEv_up {i v : Int} (hw : WfS s) (h : RI s M) (h1 : 148 ≤ i) (h2 : i < 288) : RI (wN s (up (sn s) i v)) (sI M 81 i v) :=
  h.now (rCac.cg hw.1.2.2.1 hw.1.2.2.2.1 h.2.2.2.2.2.2.2.2.2.2 (up_n (by omega)) (up_n (by omega)) (up_n (by omega)) (fun j a b => up_n (by omega)) (fun j a b => up_n (by omega)) rfl rfl rfl)
theorem w_notice {e d : Int} (hw : WfS s) : WfS (o_notice s e d).1 := by
  unfold o_notice
  split
  · rename_i c
    split
    · have we := hw.1.2.2.2.2.1
      have hd := hw.1.1
      refine wEv_up hw (by have := we.1.2; omega) (by have := we.1.2; omega) ?_
      unfold wEvt at *
      have h20 := we.1.2
      rw [up_n (show (4 : Int) ≠ 152 + 7 * e by omega), up_n (show (2 : Int) ≠ 152 + 7 * e by omega), up_n (show (0 : Int) ≠ 152 + 7 * e by omega)]
      refine ⟨we.1, fun q h1 h2 => ?_⟩
      have hq := we.2 q h1 h2
      rw [up_n (show 148 + 7 * q ≠ 152 + 7 * e by omega), up_n (show 149 + 7 * q ≠ 152 + 7 * e by omega), up_n (show 150 + 7 * q ≠ 152 + 7 * e by omega), up_n (show 151 + 7 * q ≠ 152 + 7 * e by omega), up_n (show 153 + 7 * q ≠ 152 + 7 * e by omega), up_n (show 154 + 7 * q ≠ 152 + 7 * e by omega)]
      by_cases hqe : q = e
      · subst hqe
        rw [up_s]
        omega
      · rw [up_n (show 152 + 7 * q ≠ 152 + 7 * e by omega)]
        exact hq
    · exact hw.fnd
  · exact hw.fnd
theorem c_notice {e d : Int} (hw : WfS s) (h : CI s M) (hq : ∀ M', CI (o_notice s e d).1 M' → FrC M M' → Q M' (some (vI (o_notice s e d).2))) : Wq 3 0 0 mD_notice 0 [iR 0, iI e, iI d, none] [] M Q := by
  obtain ⟨d0, dC, dW, dL, dE, dT, dX, dH⟩ := h.2.1
  have h20 := hw.1.2.2.2.2.1.1
  refine B_D_notice_0 h.1 ⟨fun c => ?_, fun c => ?_⟩ <;> rw [dE.1] at c
  · obtain ⟨a0, a1, a2, a3, a4, a5, a6⟩ := dE.2 e c.1 c.2
    rw [a2, a4, d0]
    refine ⟨by omega, fun c2 => ⟨fun c3 => ?_, fun c3 => ?_⟩, fun c2 => ?_⟩
    · rw [show o_notice s e d = _ from (if_pos ⟨c, c2⟩).trans (if_pos c3)] at hq
      refine hq _ (cEv_up hw h (by omega) (by omega) (by decide) ?_) (FrC.sI (by decide))
      unfold cEvt
      rw [up_n (show (4 : Int) ≠ 152 + 7 * e by omega)]
      refine ⟨dE.1, fun q h1 h2 => ?_⟩
      have hq := dE.2 q h1 h2
      rw [up_n (show 148 + 7 * q ≠ 152 + 7 * e by omega), up_n (show 149 + 7 * q ≠ 152 + 7 * e by omega), up_n (show 150 + 7 * q ≠ 152 + 7 * e by omega), up_n (show 151 + 7 * q ≠ 152 + 7 * e by omega), up_n (show 153 + 7 * q ≠ 152 + 7 * e by omega), up_n (show 154 + 7 * q ≠ 152 + 7 * e by omega)]
      refine ⟨hq.1, hq.2.1, hq.2.2.1, hq.2.2.2.1, ?_, hq.2.2.2.2.2.1, hq.2.2.2.2.2.2⟩
      by_cases hqe : q = e
      · subst hqe
        rw [up_s, gI_s]
      · rw [up_n (show 152 + 7 * q ≠ 152 + 7 * e by omega), gI_n (Or.inr hqe)]
        exact hq.2.2.2.2.1
    · exact c_fnd h (by decide) (by decide) (by decide) ((if_pos ⟨c, c2⟩).trans (if_neg c3)) hq
    · exact c_fnd h (by decide) (by decide) (by decide) (if_neg (by omega)) hq
  · exact c_fnd h (by decide) (by decide) (by decide) (if_neg (by omega)) hq
theorem r_notice {e d : Int} (hw : WfS s) (h : RI s M) (hq : ∀ M', RI (o_notice s e d).1 M' → FrR M M' → Q M' (some (vI (o_notice s e d).2))) : Wq 3 0 0 mM_notice 0 [iR 80, iI e, iI d] [] M Q := by
  have e' := h.2.1
  have h20 := hw.1.2.2.2.2.1.1
  refine B_M_notice_0 h.1 ?_
  rw [e']
  refine ⟨h20.1, fun c => ⟨by omega, fun c2 => ⟨by omega, fun c3 => ⟨by omega, ?_⟩, fun c3 => ?_⟩, fun c2 => ?_⟩, fun c => ?_⟩
  · rw [show o_notice s e d = _ from (if_pos ⟨c, c2⟩).trans (if_pos c3)] at hq
    exact hq _ (rEv_up hw h (by omega) (by omega)) (FrR.sI (by decide) (by decide))
  · exact r_fnd h (by decide) ((if_pos ⟨c, c2⟩).trans (if_neg c3)) hq
  · exact r_fnd h (by decide) (if_neg (by omega)) hq
  · exact r_fnd h (by decide) (if_neg (by omega)) hq
theorem w_back {e : Int} (hw : WfS s) : WfS (o_back s e).1 := by
  unfold o_back
  split
  · rename_i c
    split
    · exact hw.fnd
    · have we := hw.1.2.2.2.2.1
      have hd := hw.1.1
      refine wEv_up hw (by have := we.1.2; omega) (by have := we.1.2; omega) ?_
      unfold wEvt at *
      have h20 := we.1.2
      rw [up_n (show (4 : Int) ≠ 154 + 7 * e by omega), up_n (show (2 : Int) ≠ 154 + 7 * e by omega), up_n (show (0 : Int) ≠ 154 + 7 * e by omega)]
      refine ⟨we.1, fun q h1 h2 => ?_⟩
      have hq := we.2 q h1 h2
      rw [up_n (show 148 + 7 * q ≠ 154 + 7 * e by omega), up_n (show 149 + 7 * q ≠ 154 + 7 * e by omega), up_n (show 150 + 7 * q ≠ 154 + 7 * e by omega), up_n (show 151 + 7 * q ≠ 154 + 7 * e by omega), up_n (show 152 + 7 * q ≠ 154 + 7 * e by omega), up_n (show 153 + 7 * q ≠ 154 + 7 * e by omega)]
      by_cases hqe : q = e
      · subst hqe
        rw [up_s]
        omega
      · rw [up_n (show 154 + 7 * q ≠ 154 + 7 * e by omega)]
        exact hq
  · exact hw.fnd
theorem c_back {e : Int} (hw : WfS s) (h : CI s M) (hq : ∀ M', CI (o_back s e).1 M' → FrC M M' → Q M' (some (vI (o_back s e).2))) : Wq 3 0 0 mD_back 0 [iR 0, iI e, none] [] M Q := by
  obtain ⟨d0, dC, dW, dL, dE, dT, dX, dH⟩ := h.2.1
  have h20 := hw.1.2.2.2.2.1.1
  refine B_D_back_0 h.1 ⟨fun c => ?_, fun c => ?_⟩ <;> rw [dE.1] at c
  · obtain ⟨a0, a1, a2, a3, a4, a5, a6⟩ := dE.2 e c.1 c.2
    rw [a5, a6, d0]
    refine ⟨by omega, fun c2 => ?_, fun c2 => ⟨fun c3 => ?_, fun c3 => ?_⟩⟩
    · exact c_fnd h (by decide) (by decide) (by decide) ((if_pos c).trans (if_pos (Or.inl c2))) hq
    · rw [show o_back s e = _ from (if_pos c).trans (if_neg (by omega))] at hq
      refine hq _ (cEv_up hw h (by omega) (by omega) (by decide) ?_) (FrC.sI (by decide))
      unfold cEvt
      rw [up_n (show (4 : Int) ≠ 154 + 7 * e by omega)]
      refine ⟨dE.1, fun q h1 h2 => ?_⟩
      have hq := dE.2 q h1 h2
      rw [up_n (show 148 + 7 * q ≠ 154 + 7 * e by omega), up_n (show 149 + 7 * q ≠ 154 + 7 * e by omega), up_n (show 150 + 7 * q ≠ 154 + 7 * e by omega), up_n (show 151 + 7 * q ≠ 154 + 7 * e by omega), up_n (show 152 + 7 * q ≠ 154 + 7 * e by omega), up_n (show 153 + 7 * q ≠ 154 + 7 * e by omega)]
      refine ⟨hq.1, hq.2.1, hq.2.2.1, hq.2.2.2.1, hq.2.2.2.2.1, hq.2.2.2.2.2.1, ?_⟩
      by_cases hqe : q = e
      · subst hqe
        rw [up_s, gI_s]
      · rw [up_n (show 154 + 7 * q ≠ 154 + 7 * e by omega), gI_n (Or.inr hqe)]
        exact hq.2.2.2.2.2.2
    · exact c_fnd h (by decide) (by decide) (by decide) ((if_pos c).trans (if_pos (Or.inr c3))) hq
  · exact c_fnd h (by decide) (by decide) (by decide) (if_neg c) hq
theorem r_back {e : Int} (hw : WfS s) (h : RI s M) (hq : ∀ M', RI (o_back s e).1 M' → FrR M M' → Q M' (some (vI (o_back s e).2))) : Wq 3 0 0 mM_back 0 [iR 80, iI e] [] M Q := by
  have e' := h.2.1
  have h20 := hw.1.2.2.2.2.1.1
  refine B_M_back_0 h.1 ?_
  rw [e']
  refine ⟨h20.1, fun c => ⟨by omega, fun c2 => ?_, fun c2 => ⟨by omega, fun c3 => ⟨by omega, ?_⟩, fun c3 => ?_⟩⟩, fun c => ?_⟩
  · exact r_fnd h (by decide) ((if_pos c).trans (if_pos (Or.inl c2))) hq
  · rw [show o_back s e = _ from (if_pos c).trans (if_neg (by omega))] at hq
    exact hq _ (rEv_up hw h (by omega) (by omega)) (FrR.sI (by decide) (by decide))
  · exact r_fnd h (by decide) ((if_pos c).trans (if_pos (Or.inr c3))) hq
  · exact r_fnd h (by decide) (if_neg c) hq
end OPB
