/-! ===== event, hurry, work, edit, as ===== -/
section OPC
variable {s : St} {M : Mm} {Q : Mm → Option Mv → Prop}
/-- by how much a work may be hurried, out of the first j -/
def hurF (n : Int → Int) (w : Int) : Nat → Int
  | 0 => 0
  | j + 1 => if n (1018 + 3 * (j : Int)) = w then n (1019 + 3 * (j : Int)) else hurF n w j
theorem hurF_hit {n : Int → Int} {w : Int} (h : wHst n) {i : Nat} (hi : n (1018 + 3 * (i : Int)) = w) : ∀ j : Nat, (j : Int) ≤ n 6 → i < j → hurF n w j = n (1019 + 3 * (i : Int))
  | 0, _, q => by omega
  | j + 1, hj, q => by
    unfold hurF
    split
    · rename_i c
      have := h.2.2 i j (by omega) (by omega) (by omega) (by omega) (hi.trans c.symm)
      rw [this]
    · rename_i c
      refine hurF_hit h hi j (by omega) ?_
      rcases Nat.lt_or_ge i j with q2 | q2
      · exact q2
      · have : i = j := by omega
        subst this
        exact absurd hi c
theorem hurF_miss {n : Int → Int} {w : Int} : ∀ j : Nat, (∀ i : Nat, i < j → n (1018 + 3 * (i : Int)) ≠ w) → hurF n w j = 0
  | 0, _ => rfl
  | j + 1, h => by
    unfold hurF
    rw [if_neg (h j (by omega))]
    exact hurF_miss j (fun i hi => h i (by omega))
theorem sp_M_hurried {w : Int} (hS : RefOK M) (h6 : 0 ≤ gI M 81 6 ∧ gI M 81 6 ≤ 5) (hq : Q M (some (vI (hurF (gI M 81) w (gI M 81 6).toNat)))) : Wq 1 0 0 mM_hurried 0 [iR 80, iI w, none, none] [] M Q := by
  refine B_M_hurried_0 ?_
  have key : ∀ (f : Nat) (h : Nat), (h : Int) ≤ gI M 81 6 → (gI M 81 6).toNat - h = f → Wq 1 0 0 mM_hurried 4 [iR 80, iI w, iI (hurF (gI M 81) w h), iI h] [] M Q := by
    intro f
    induction f with
    | zero =>
      intro h h1 hf
      refine B_M_hurried_4 hS ⟨fun c => ?_, fun c => by omega⟩
      have : (gI M 81 6).toNat = h := by omega
      rw [this] at hq
      exact hq
    | succ f ih =>
      intro h h1 hf
      have ih := ih (h + 1) (by omega) (by omega)
      rw [show (((h + 1 : Nat) : Int)) = (h : Int) + 1 by omega] at ih
      refine B_M_hurried_4 hS ⟨fun c => by omega, fun c => ⟨by omega, fun c2 => ⟨by omega, ?_⟩, fun c2 => ⟨by omega, ?_⟩⟩⟩
      · rw [show hurF (gI M 81) w (h + 1) = hurF (gI M 81) w h from if_neg c2] at ih
        exact ih
      · rw [show hurF (gI M 81) w (h + 1) = gI M 81 (1019 + 3 * (h : Int)) from if_pos c2] at ih
        exact ih
  exact key _ 0 (by omega) rfl
theorem sp_H_mostOf {n : Int → Int} {w : Int} (hS : RefOK M) (wh : wHst n) (dH : cHst n (gI M 27) (gI M 28) (gI M 29) (gI M 26 3)) (hq : Q M (some (vI (hurF n w (n 6).toNat)))) : Wq 1 0 0 mH_mostOf 0 [iR 26, iI w, none] [] M Q := by
  have h6 := wh.1
  refine B_H_mostOf_0 ?_
  have key : ∀ (f : Nat) (h : Nat), (h : Int) ≤ n 6 → (n 6).toNat - h = f → (∀ i : Nat, i < h → n (1018 + 3 * (i : Int)) ≠ w) → Wq 1 0 0 mH_mostOf 2 [iR 26, iI w, iI h] [] M Q := by
    intro f
    induction f with
    | zero =>
      intro h h1 hf hm
      refine B_H_mostOf_2 hS ?_
      rw [dH.1]
      refine ⟨fun c => ?_, fun c => by omega⟩
      rw [hurF_miss _ (fun i hi => hm i (by omega))] at hq
      exact hq
    | succ f ih =>
      intro h h1 hf hm
      obtain ⟨a, b, -⟩ := dH.2 h (by omega) (by omega)
      have ih := ih (h + 1) (by omega) (by omega)
      rw [show (((h + 1 : Nat) : Int)) = (h : Int) + 1 by omega] at ih
      refine B_H_mostOf_2 hS ?_
      rw [dH.1, a, b]
      refine ⟨fun c => by omega, fun c => ⟨by omega, fun c2 => ⟨by omega, ih (fun i hi => ?_)⟩, fun c2 => ?_⟩⟩
      · rcases Nat.lt_or_ge i h with q | q
        · exact hm i q
        · have : i = h := by omega
          subst this
          exact c2
      · rw [hurF_hit wh c2 _ (by omega) (by omega)] at hq
        exact hq
  exact key _ 0 (by omega) rfl (fun i hi => by omega)
theorem sp_M_changed (hS : RefOK M) (hq : ∀ M', (∀ a i, a ≠ 92 → (a ≠ 80 ∨ i ≠ 13) → gI M' a i = gI M a i) → (∀ a i, gL M' a i = gL M a i) → RefOK M' → gI M' 80 13 = 0 → (∀ w, 0 ≤ w → w < 16 → gI M' 92 w < 0) → Q M' none) : Wq 1 0 0 mM_changed 0 [iR 80, none] [] M Q := by
  refine B_M_changed_0 ?_
  have key : ∀ (f : Nat) (h : Nat) (M1 : Mm), h ≤ 16 → 16 - h = f → RefOK M1 → (∀ a i, a ≠ 92 → (a ≠ 80 ∨ i ≠ 13) → gI M1 a i = gI M a i) → (∀ a i, gL M1 a i = gL M a i) → gI M1 80 13 = 0 → (∀ w, 0 ≤ w → w < (h : Int) → gI M1 92 w < 0) → Wq 1 0 0 mM_changed 7 [iR 80, iI h] [] M1 Q := by
    intro f
    induction f with
    | zero =>
      intro h M1 h1 hf g1 g2 g3 g4 g5
      have : h = 16 := by omega
      subst this
      exact B_M_changed_7 g1 ⟨fun c => hq M1 g2 g3 g1 g4 g5, fun c => by omega⟩
    | succ f ih =>
      intro h M1 h1 hf g1 g2 g3 g4 g5
      refine B_M_changed_7 g1 ⟨fun c => by omega, fun c => ⟨by omega, ?_⟩⟩
      have ih := ih (h + 1) (sI M1 92 h (-1)) (by omega) (by omega) g1 (fun a i q1 q2 => (gI_n (Or.inl q1)).trans (g2 a i q1 q2)) g3 g4 (fun w w1 w2 => ?_)
      · rw [show (((h + 1 : Nat) : Int)) = (h : Int) + 1 by omega] at ih
        exact ih
      · by_cases hwh : w = h
        · subst hwh
          rw [gI_s]
          decide
        · rw [gI_n (Or.inr hwh)]
          exact g5 w w1 (by omega)
  refine key 16 0 _ (by omega) rfl hS (fun a i q1 q2 => gI_n (by omega)) (fun _ _ => rfl) gI_s (fun w w1 w2 => by omega)
/-- behind 'changed': the reference's state with another 'now' -/
theorem RI.chg {n' : Int → Int} {M1 M' : Mm} (h : RI s M) (h16 : n' 2 ≤ 16) (e1 : gI M1 81 = n') (e2 : ∀ a, a ≠ 81 → gI M1 a = gI M a) (g1 : ∀ a i, a ≠ 92 → (a ≠ 80 ∨ i ≠ 13) → gI M' a i = gI M1 a i) (hS : RefOK M') (g2 : gI M' 80 13 = 0) (g3 : ∀ w, 0 ≤ w → w < 16 → gI M' 92 w < 0) : RI (wN s n') M' := by
  obtain ⟨r1, r2, r3, r4, r5, r6, r7, r8, r9, r10, r11⟩ := h
  have k : ∀ a : Nat, a ≠ 92 → a ≠ 80 → gI M' a = gI M1 a := fun a h1 h2 => funext fun i => g1 a i h1 (Or.inl h2)
  refine ⟨hS, by rw [k 81 (by decide) (by decide), e1]; rfl, by rw [k 82 (by decide) (by decide), e2 82 (by decide), r3]; rfl, by rw [g1 80 2 (by decide) (Or.inr (by decide)), e2 80 (by decide), r4]; rfl, by rw [k 83 (by decide) (by decide), e2 83 (by decide), r5]; rfl, by rw [k 84 (by decide) (by decide), e2 84 (by decide), r6]; rfl, by rw [k 85 (by decide) (by decide), e2 85 (by decide), r7]; rfl, by rw [k 86 (by decide) (by decide), e2 86 (by decide), r8]; rfl, by rw [k 87 (by decide) (by decide), e2 87 (by decide), r9]; rfl, by rw [g1 80 8 (by decide) (Or.inr (by decide)), e2 80 (by decide), r10]; rfl, Or.inl g2, fun w w1 w2 => Or.inl (g3 w w1 ?_)⟩
  have w2' : w < n' 2 := w2
  omega
theorem FrR.chg {M1 M' : Mm} (h : FrR M M1) (g1 : ∀ a i, a ≠ 92 → (a ≠ 80 ∨ i ≠ 13) → gI M' a i = gI M1 a i) (g2 : ∀ a i, gL M' a i = gL M1 a i) : FrR M M' := fun a i q => ⟨(g1 a i (by omega) (Or.inl (by omega))).trans (h a i q).1, (g2 a i).trans (h a i q).2⟩
/-! event -/
def evN (n : Int → Int) (w c d m : Int) : Int → Int := up (up (up (up (up (up (up (up n (148 + 7 * n 4) w) (149 + 7 * n 4) c) (150 + 7 * n 4) d) (151 + 7 * n 4) m) (152 + 7 * n 4) (-1)) (153 + 7 * n 4) (n 0)) (154 + 7 * n 4) (-1)) 4 (n 4 + 1)
theorem evN_o {n : Int → Int} {w c d m i : Int} (h4 : i ≠ 4) (h : i < 148 + 7 * n 4 ∨ 154 + 7 * n 4 < i) : evN n w c d m i = n i := by
  unfold evN
  rw [up_n h4, up_n (by omega), up_n (by omega), up_n (by omega), up_n (by omega), up_n (by omega), up_n (by omega), up_n (by omega)]
theorem evN_4 {n : Int → Int} {w c d m : Int} : evN n w c d m 4 = n 4 + 1 := up_s
theorem evN_at {n : Int → Int} {w c d m : Int} (h : 0 ≤ n 4) : evN n w c d m (148 + 7 * n 4) = w ∧ evN n w c d m (149 + 7 * n 4) = c ∧ evN n w c d m (150 + 7 * n 4) = d ∧ evN n w c d m (151 + 7 * n 4) = m ∧ evN n w c d m (152 + 7 * n 4) = -1 ∧ evN n w c d m (153 + 7 * n 4) = n 0 ∧ evN n w c d m (154 + 7 * n 4) = -1 := by
  unfold evN up
  refine ⟨?_, ?_, ?_, ?_, ?_, ?_, ?_⟩ <;> (repeat rw [if_neg (by omega)]) <;> rw [if_pos rfl]
def o_event (s : St) (x d m : Int) : St × Int :=
  if 0 ≤ x ∧ (0 ≤ Int.tdiv x 10 ∧ Int.tdiv x 10 < sn s 2) ∧ (0 ≤ Int.tmod x 10 ∧ Int.tmod x 10 ≤ 3) ∧ (0 ≤ d ∧ d ≤ sn s 0) ∧ (1 ≤ m ∧ m ≤ 30) then (if sn s 4 < 20 then (wN s (evN (sn s) (Int.tdiv x 10) (Int.tmod x 10) d m), sn s 4) else fnd s 4) else fnd s 1
theorem evN_wf {n : Int → Int} {w c d m : Int} (h : WfN n) (h20 : n 4 < 20) (hw : 0 ≤ w ∧ w < n 2) (hc : 0 ≤ c ∧ c ≤ 3) (hd : 0 ≤ d ∧ d ≤ n 0) (hm : 1 ≤ m ∧ m ≤ 30) : WfN (evN n w c d m) := by
  obtain ⟨wd, wc, ww, wl, we, wt, wx, wh⟩ := h
  have h4 := we.1
  have o : ∀ i, i ≠ 4 → (i < 148 ∨ 288 ≤ i) → evN n w c d m i = n i := fun i h1 h2 => evN_o h1 (by omega)
  refine ⟨wd.cg (o 0 (by decide) (by decide)), wc.cg (o 1 (by decide) (by decide)) (fun i a b => o i (by omega) (by omega)), ww.cg (o 2 (by decide) (by decide)) (fun i a b => o i (by omega) (by omega)), wl.cg (o 2 (by decide) (by decide)) (o 3 (by decide) (by decide)) (fun i a b => o i (by omega) (by omega)), ?_, wt.cg (o 7 (by decide) (by decide)) (fun i a b => o i (by omega) (by omega)), wx.cg (o 5 (by decide) (by decide)) (fun i a b => o i (by omega) (by omega)), wh.cg (o 2 (by decide) (by decide)) (o 6 (by decide) (by decide)) ww.1.2 (fun i a b => o i (by omega) (by omega)) (fun i a b => o i (by omega) (by omega))⟩
  unfold wEvt
  rw [evN_4, o 2 (by decide) (by decide), o 0 (by decide) (by decide)]
  refine ⟨by omega, fun q q1 q2 => ?_⟩
  by_cases hq : q = n 4
  · subst hq
    obtain ⟨a0, a1, a2, a3, a4, a5, a6⟩ := evN_at (w := w) (c := c) (d := d) (m := m) h4.1
    rw [a0, a1, a2, a3, a4, a5, a6]
    have := wd.1
    unfold wDay at wd
    omega
  · rw [evN_o (by omega) (by omega), evN_o (by omega) (by omega), evN_o (by omega) (by omega), evN_o (by omega) (by omega), evN_o (by omega) (by omega), evN_o (by omega) (by omega), evN_o (by omega) (by omega)]
    exact we.2 q q1 (by omega)
theorem w_event {x d m : Int} (hw : WfS s) : WfS (o_event s x d m).1 := by
  unfold o_event
  split
  · rename_i c
    split
    · rename_i c2
      exact hw.to (evN_wf hw.1 c2 c.2.1 c.2.2.1 c.2.2.2.1 c.2.2.2.2)
    · exact hw.fnd
  · exact hw.fnd
theorem td_in {x : Int} (h : ¬ x < 0) (h2 : inR x) : (-2147483648 ≤ Int.tdiv x 10 ∧ Int.tdiv x 10 < 2147483648) ∧ (-2147483648 ≤ Int.tmod x 10 ∧ Int.tmod x 10 < 2147483648) ∧ 0 ≤ Int.tdiv x 10 ∧ 0 ≤ Int.tmod x 10 := by
  rw [Int.tdiv_eq_ediv_of_nonneg (by omega), Int.tmod_eq_emod_of_nonneg (by omega)]
  unfold inR at h2
  omega
theorem c_event {x d m : Int} (hw : WfS s) (h : CI s M) (hq : ∀ M', CI (o_event s x d m).1 M' → FrC M M' → Q M' (some (vI (o_event s x d m).2))) : Wq 3 0 0 mD_event 0 [iR 0, iI x, iI d, iI m, none] [] M Q := by
  obtain ⟨d0, dC, dW, dL, dE, dT, dX, dH⟩ := h.2.1
  obtain ⟨wd, wc, ww, wl, we, wt, wx, wh⟩ := hw.1
  have h4 := we.1
  refine wq_inL 1 rfl (fun hx => ?_)
  refine B_D_event_0 h.1 ?_
  rw [d0, dW.1, dE.1]
  refine ⟨fun c => ?_, fun c => ?_⟩
  · exact c_fnd h (by decide) (by decide) (by decide) (if_neg (by omega)) hq
  · obtain ⟨t1, t2, t3, t4⟩ := td_in c hx
    refine ⟨t1, fun c2 => ⟨t2, fun c3 => ⟨fun c4 => ⟨fun c5 => ⟨fun c6 => ?_, fun c6 => ?_⟩, fun c5 => ?_⟩, fun c4 => ?_⟩, fun c3 => ?_⟩, fun c2 => ?_⟩
    · rw [show o_event s x d m = _ from (if_pos ⟨by omega, c2, c3, c4, c5⟩).trans (if_pos c6)] at hq
      refine B_E_add_0 h.1 ?_
      rw [dE.1]
      refine ⟨⟨t1, by omega, t2, by omega, by omega⟩, ?_⟩
      refine B_D_event_117 ?_
      have o : ∀ i, i ≠ 4 → (i < 148 ∨ 288 ≤ i) → evN (sn s) (Int.tdiv x 10) (Int.tmod x 10) d m i = sn s i := fun i h1 h2 => evN_o h1 (by omega)
      refine hq _ (h.to h.1 ⟨d0.trans (o 0 (by decide) (by decide)).symm, dC.cg (o 1 (by decide) (by decide)) (fun i a b => o i (by omega) (by omega)), dW.cg ww.1.2 (o 2 (by decide) (by decide)) (fun i a b => o i (by omega) (by omega)), dL.cg wl.1.2 (o 2 (by decide) (by decide)) (o 3 (by decide) (by decide)) (fun i a b => o i (by omega) (by omega)), ?_, dT.cg wt.1.2 (o 7 (by decide) (by decide)) (fun i a b => o i (by omega) (by omega)), dX.cg wx.1.2 (o 5 (by decide) (by decide)) (fun i a b => o i (by omega) (by omega)), dH.cg wh.1.2 (o 6 (by decide) (by decide)) (fun i a b => o i (by omega) (by omega))⟩ (fun b hb => ?_) rfl) (fun a i ha => ?_)
      · unfold cEvt
        rw [evN_4]
        refine ⟨gI_s, fun q q1 q2 => ?_⟩
        by_cases hqe : q = sn s 4
        · subst hqe
          obtain ⟨a0, a1, a2, a3, a4, a5, a6⟩ := evN_at (n := sn s) (w := Int.tdiv x 10) (c := Int.tmod x 10) (d := d) (m := m) h4.1
          rw [a0, a1, a2, a3, a4, a5, a6]
          exact ⟨gI_s, gI_s, gI_s, gI_s, gI_s, gI_s, gI_s⟩
        · rw [evN_o (by omega) (by omega), evN_o (by omega) (by omega), evN_o (by omega) (by omega), evN_o (by omega) (by omega), evN_o (by omega) (by omega), evN_o (by omega) (by omega), evN_o (by omega) (by omega)]
          obtain ⟨b0, b1, b2, b3, b4, b5, b6⟩ := dE.2 q q1 (by omega)
          exact ⟨(gI_n (Or.inr hqe)).trans b0, (gI_n (Or.inr hqe)).trans b1, (gI_n (Or.inr hqe)).trans b2, (gI_n (Or.inr hqe)).trans b3, (gI_n (Or.inr hqe)).trans b4, (gI_n (Or.inr hqe)).trans b5, (gI_n (Or.inr hqe)).trans b6⟩
      · rw [gI_ot (by omega), gI_ot (by omega), gI_ot (by omega), gI_ot (by omega), gI_ot (by omega), gI_ot (by omega), gI_ot (by omega), gI_ot (by omega)]
      · rw [gI_ot (by omega), gI_ot (by omega), gI_ot (by omega), gI_ot (by omega), gI_ot (by omega), gI_ot (by omega), gI_ot (by omega), gI_ot (by omega)]
    · exact c_fnd h (by decide) (by decide) (by decide) ((if_pos ⟨by omega, c2, c3, c4, c5⟩).trans (if_neg c6)) hq
    · exact c_fnd h (by decide) (by decide) (by decide) (if_neg (by omega)) hq
    · exact c_fnd h (by decide) (by decide) (by decide) (if_neg (by omega)) hq
    · exact c_fnd h (by decide) (by decide) (by decide) (if_neg (by omega)) hq
    · exact c_fnd h (by decide) (by decide) (by decide) (if_neg (by omega)) hq
theorem RI.to {n' : Int → Int} {M' : Mm} (h : RI s M) (hS : RefOK M') (e1 : gI M' 81 = n') (e2 : ∀ a : Nat, a ≠ 81 → gI M' a = gI M a) (hc : rCac n' M') : RI (wN s n') M' := by
  obtain ⟨r1, r2, r3, r4, r5, r6, r7, r8, r9, r10, r11⟩ := h
  exact ⟨hS, e1, (e2 82 (by decide)).trans r3, by rw [e2 80 (by decide)]; exact r4, (e2 83 (by decide)).trans r5, (e2 84 (by decide)).trans r6, (e2 85 (by decide)).trans r7, (e2 86 (by decide)).trans r8, (e2 87 (by decide)).trans r9, by rw [e2 80 (by decide)]; exact r10, hc⟩
theorem r_event {x d m : Int} (hw : WfS s) (h : RI s M) (hq : ∀ M', RI (o_event s x d m).1 M' → FrR M M' → Q M' (some (vI (o_event s x d m).2))) : Wq 3 0 0 mM_event3 0 [iR 80, iI x, iI d, iI m, none, none] [] M Q := by
  have e' := h.2.1
  obtain ⟨wd, wc, ww, wl, we, wt, wx, wh⟩ := hw.1
  have h4 := we.1
  have h2 := ww.1
  refine wq_inL 1 rfl (fun hx => ?_)
  refine B_M_event3_0 h.1 ?_
  rw [e']
  refine ⟨fun c => ?_, fun c => ?_⟩
  · exact r_fnd h (by decide) (if_neg (by omega)) hq
  · obtain ⟨t1, t2, t3, t4⟩ := td_in c hx
    refine ⟨⟨t1, h2.1⟩, fun c2 => ⟨t2, fun c3 => ?_, fun c3 => ⟨fun c4 => ⟨fun c5 => ⟨fun c6 => ⟨by omega, ?_⟩, fun c6 => ?_⟩, fun c5 => ?_⟩, fun c4 => ?_⟩⟩, fun c2 => ?_⟩
    · exact r_fnd h (by decide) (if_neg (by omega)) hq
    · rw [show o_event s x d m = _ from (if_pos ⟨by omega, c2, by omega, c4, c5⟩).trans (if_pos (by omega))] at hq
      have o : ∀ i, i ≠ 4 → (i < 148 ∨ 288 ≤ i) → evN (sn s) (Int.tdiv x 10) (Int.tmod x 10) d m i = sn s i := fun i h1 h2 => evN_o h1 (by omega)
      refine hq _ (h.to h.1 ?_ (fun a ha => ?_) (rCac.cg ww wl h.2.2.2.2.2.2.2.2.2.2 (o 1 (by decide) (by decide)) (o 2 (by decide) (by decide)) (o 3 (by decide) (by decide)) (fun i a b => o i (by omega) (by omega)) (fun i a b => o i (by omega) (by omega)) rfl rfl rfl)) (fun a i ha => ⟨?_, rfl⟩)
      · rw [gI_up, gI_up, gI_up, gI_up, gI_up, gI_up, gI_up, gI_up, e']
        rfl
      · rw [gI_ot ha, gI_ot ha, gI_ot ha, gI_ot ha, gI_ot ha, gI_ot ha, gI_ot ha, gI_ot ha]
      · rw [gI_ot (by omega), gI_ot (by omega), gI_ot (by omega), gI_ot (by omega), gI_ot (by omega), gI_ot (by omega), gI_ot (by omega), gI_ot (by omega)]
    · exact r_fnd h (by decide) ((if_pos ⟨by omega, c2, by omega, c4, c5⟩).trans (if_neg (by omega))) hq
    · exact r_fnd h (by decide) (if_neg (by omega)) hq
    · exact r_fnd h (by decide) (if_neg (by omega)) hq
    · exact r_fnd h (by decide) (if_neg (by omega)) hq
end OPC
