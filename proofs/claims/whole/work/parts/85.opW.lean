/-! ===== hurry: least, proves ===== -/
section OPW
variable {s : St} {M : Mm} {Q : Mm → Option Mv → Prop} {n : Int → Int}
/-- the price of a choice, of the first j -/
def smR (n r : Int → Int) : Nat → Int
  | 0 => 0
  | j + 1 => smR n r j + r j * n (1020 + 3 * (j : Int))
/-- what the works need, with the first j hurried by a choice -/
def hrN (n nd r : Int → Int) : Nat → Int → Int
  | 0 => nd
  | j + 1 => up (hrN n nd r j) (n (1018 + 3 * (j : Int))) (hrN n nd r j (n (1018 + 3 * (j : Int))) - r j)
/-- a choice that can be -/
def okR (n r : Int → Int) : Prop := ∀ h, 0 ≤ h → h < n 6 → 0 ≤ r h ∧ r h ≤ n (1019 + 3 * h)
def endH (n r : Int → Int) : Int := eA n (hrN n (nds n (kn0 n)) r (n 6).toNat)
theorem smR_cg {r r' : Int → Int} : ∀ j : Nat, (∀ h, 0 ≤ h → h < (j : Int) → r' h = r h) → smR n r' j = smR n r j
  | 0, _ => rfl
  | j + 1, h => by
    unfold smR
    rw [smR_cg j (fun i i0 i1 => h i i0 (by omega)), h j (by omega) (by omega)]
theorem hrN_cg {nd r r' : Int → Int} : ∀ j : Nat, (∀ h, 0 ≤ h → h < (j : Int) → r' h = r h) → hrN n nd r' j = hrN n nd r j
  | 0, _ => rfl
  | j + 1, h => by
    unfold hrN
    rw [hrN_cg j (fun i i0 i1 => h i i0 (by omega)), h j (by omega) (by omega)]
theorem mul_p {a b : Int} (a0 : 0 ≤ a) (a1 : a ≤ 2) (b0 : 0 ≤ b) (b1 : b ≤ 999) : 0 ≤ a * b ∧ a * b ≤ 1998 := by
  have h1 : a * b ≤ 2 * b := Int.mul_le_mul_of_nonneg_right a1 b0
  have h2 : 0 ≤ a * b := Int.mul_nonneg a0 b0
  omega
theorem smR_b {r : Int → Int} (wh : wHst n) (ok : okR n r) : ∀ j : Nat, (j : Int) ≤ n 6 → 0 ≤ smR n r j ∧ smR n r j ≤ 1998 * j
  | 0, _ => ⟨Int.le_refl _, Int.le_refl _⟩
  | j + 1, hj => by
    have ih := smR_b wh ok j (by omega)
    have hh := wh.2.1 j (by omega) (by omega)
    have o := ok j (by omega) (by omega)
    have m := mul_p (a := r j) (b := n (1020 + 3 * (j : Int))) (by omega) (by omega) (by omega) (by omega)
    unfold smR
    omega
theorem hrN_v {nd r : Int → Int} (wh : wHst n) {w : Int} : ∀ j : Nat, (j : Int) ≤ n 6 → ((∀ h, 0 ≤ h → h < (j : Int) → n (1018 + 3 * h) ≠ w) → hrN n nd r j w = nd w) ∧ (∀ h, 0 ≤ h → h < (j : Int) → n (1018 + 3 * h) = w → hrN n nd r j w = nd w - r h)
  | 0, _ => ⟨fun _ => rfl, fun h h0 h1 => by omega⟩
  | j + 1, hj => by
    obtain ⟨i1, i2⟩ := hrN_v (nd := nd) (r := r) wh (w := w) j (by omega)
    refine ⟨fun a => ?_, fun h h0 h1 e => ?_⟩
    · show up _ _ _ w = _
      rw [up_n (fun z => a j (by omega) (by omega) z.symm)]
      exact i1 (fun h h0 h1 => a h h0 (by omega))
    · show up _ _ _ w = _
      by_cases c : h = (j : Int)
      · subst c
        rw [e, up_s, i1 (fun g g0 g1 z => ?_)]
        have := wh.2.2 g j g0 (by omega) (by omega) (by omega) (z.trans e.symm)
        omega
      · rw [up_n (fun z => ?_), i2 h h0 (by omega) e]
        have := wh.2.2 h j h0 (by omega) (by omega) (by omega) (e.trans z)
        exact c this
theorem hrN_b {r : Int → Int} {st : Int} (ww : wWrk n) (we : wEvt n) (wh : wHst n) (ok : okR n r) {w : Int} (w0 : 0 ≤ w) (w1 : w < n 2) (j : Nat) (hj : (j : Int) ≤ n 6) : 0 ≤ hrN n (nds n st) r j w ∧ hrN n (nds n st) r j w ≤ 640 := by
  have nb := nds_b (st := st) ww we w0 w1
  obtain ⟨i1, i2⟩ := hrN_v (nd := nds n st) (r := r) wh (w := w) j hj
  by_cases c : ∃ h, 0 ≤ h ∧ h < (j : Int) ∧ n (1018 + 3 * h) = w
  · obtain ⟨h, h0, h1, e⟩ := c
    rw [i2 h h0 h1 e]
    have hh := wh.2.1 h h0 (by omega)
    have o := ok h h0 (by omega)
    have q := hh.2.2.2
    rw [e] at q
    have : n (11 + 3 * w) ≤ nds n st w := by
      have := mrs_b (st := st) (w := w) we (n 4).toNat (by have := we.1; omega)
      unfold nds
      omega
    omega
  · rw [i1 (fun h h0 h1 z => c ⟨h, h0, h1, z⟩)]
    exact nb
theorem endH_b {r : Int → Int} (ww : wWrk n) (wl : wLnk n) (we : wEvt n) (wh : wHst n) (ok : okR n r) : 0 ≤ endH n r ∧ endH n r ≤ 462660 := eA_b ww wl (fun w w0 w1 => by have := hrN_b (st := kn0 n) ww we wh ok w0 w1 (n 6).toNat (by have := wh.1; omega); omega)
/-- the reference: cells 88 to 98 alone -/
def RL (n : Int → Int) (M M' : Mm) : Prop := RefOK M' ∧ (∀ b : Nat, b ≠ 80 → ¬ (88 ≤ b ∧ b ≤ 98) → gI M' b = gI M b) ∧ (∀ x, x ≠ 13 → gI M' 80 x = gI M 80 x) ∧ gL M' = gL M ∧ rCac n M'
theorem RW.l {M' : Mm} (h : RW n M M') : RL n M M' := ⟨h.1, fun b b1 b2 => h.2.1 b b1 (by omega), h.2.2.1, h.2.2.2.1, h.2.2.2.2⟩
theorem RL.tr {M1 M2 : Mm} (h : RL n M M1) (g : RL n M1 M2) : RL n M M2 := ⟨g.1, fun b b1 b2 => (g.2.1 b b1 b2).trans (h.2.1 b b1 b2), fun x hx => (g.2.2.1 x hx).trans (h.2.2.1 x hx), g.2.2.2.1.trans h.2.2.2.1, g.2.2.2.2⟩
theorem RL.e {M' : Mm} (h : RL n M M') (e' : gI M 81 = n) : gI M' 81 = n := (h.2.1 81 (by decide) (by decide)).trans e'
theorem RL.w {M' : Mm} {a : Nat} {i v : Int} (h : RL n M M') (ha : 93 ≤ a ∧ a ≤ 98) : RL n M (sI M' a i v) := by
  refine ⟨h.1, fun b b1 b2 => by rw [gI_ot (by omega)]; exact h.2.1 b b1 b2, fun x hx => by rw [gI_ot (by omega)]; exact h.2.2.1 x hx, h.2.2.2.1, ?_⟩
  have g := h.2.2.2.2
  unfold rCac at g ⊢
  rw [gI_ot (by omega), gI_ot (by omega), gI_ot (by omega)]
  exact g
theorem RL.ri {M' : Mm} (h : RL (sn s) M M') (c : RI s M) : RI s M' := by
  obtain ⟨r1, r2, r3, r4, r5, r6, r7, r8, r9, r10, r11⟩ := c
  obtain ⟨h1, h2, h3, h4, h5⟩ := h
  exact ⟨h1, (h2 81 (by decide) (by decide)).trans r2, (h2 82 (by decide) (by decide)).trans r3, (h3 2 (by decide)).trans r4, (h2 83 (by decide) (by decide)).trans r5, (h2 84 (by decide) (by decide)).trans r6, (h2 85 (by decide) (by decide)).trans r7, (h2 86 (by decide) (by decide)).trans r8, (h2 87 (by decide) (by decide)).trans r9, (h3 8 (by decide)).trans r10, h5⟩
theorem RL.fr {M' : Mm} (h : RL n M M') : FrR M M' := fun a i q => ⟨by rw [h.2.1 a (by omega) (by omega)], by rw [h.2.2.2.1]⟩
theorem sp_M_sumHurried {r : Int → Int} (hS : RefOK M) (wh : wHst n) (e' : gI M 81 = n) (ok : okR n r) (hr : ∀ h, 0 ≤ h → h < n 6 → gI M 96 h = r h) (hq : Q M (some (vI (smR n r (n 6).toNat)))) : Wq 1 0 0 mM_sumHurried 0 [iR 80, none, none] [] M Q := by
  have h6 := wh.1
  refine B_M_sumHurried_0 ?_
  have key : ∀ (f : Nat) (j : Nat), (j : Int) ≤ n 6 → (n 6).toNat - j = f → Wq 1 0 0 mM_sumHurried 4 [iR 80, iI (smR n r j), iI j] [] M Q := by
    intro f
    induction f with
    | zero =>
      intro j hj hf
      refine B_M_sumHurried_4 hS ?_
      rw [e']
      refine ⟨fun _ => ?_, fun z => by omega⟩
      rw [show (n 6).toNat = j by omega] at hq
      exact hq
    | succ f ih =>
      intro j hj hf
      have ih := ih (j + 1) (by omega) (by omega)
      rw [show (((j + 1 : Nat) : Int)) = (j : Int) + 1 by omega] at ih
      have b := smR_b wh ok j hj
      have hh := wh.2.1 j (by omega) (by omega)
      have o := ok j (by omega) (by omega)
      have m := mul_p (a := r j) (b := n (1020 + 3 * (j : Int))) (by omega) (by omega) (by omega) (by omega)
      refine B_M_sumHurried_4 hS ?_
      rw [e', hr j (by omega) (by omega)]
      exact ⟨fun z => by omega, fun _ => ⟨⟨by omega, by omega, by omega, by omega⟩, ih⟩⟩
  exact key _ 0 (by omega) rfl
theorem sp_M_endHurried {r : Int → Int} (hS : RefOK M) (wf : WfN n) (e' : gI M 81 = n) (ca : rCac n M) (ok : okR n r) (hr : ∀ h, 0 ≤ h → h < n 6 → gI M 96 h = r h) (hq : ∀ M', RW n M M' → Q M' (some (vI (endH n r)))) : Wq 5 0 0 mM_endHurried 0 [iR 80, none] [] M Q := by
  obtain ⟨wd, wc, ww, wl, we, wt, wx, wh⟩ := wf
  have h6 := wh.1
  have h4 := we.1
  have h2 := ww.1
  have ko := kn0_ok we
  refine B_M_endHurried_0 hS ?_
  rw [e']
  refine sp_M_knownOn hS h4 e' (B_M_endHurried_11 (sp_M_needBy hS ww we e' ⟨ko.1, Int.lt_trans ko.2 (by decide)⟩ (fun M1 g0 g1 g2 g3 => B_M_endHurried_14 ?_)))
  have key : ∀ (f : Nat) (j : Nat) (M' : Mm), (j : Int) ≤ n 6 → (n 6).toNat - j = f → RefOK M' → (∀ b : Nat, b ≠ 88 → gI M' b = gI M b) → gL M' = gL M → (∀ w, 0 ≤ w → w < n 2 → n (11 + 3 * w) + gI M' 88 w = hrN n (nds n (kn0 n)) r j w) → Wq 5 0 0 mM_endHurried 16 [iR 80, iI j] [] M' Q := by
    intro f
    induction f with
    | zero =>
      intro j M' hj hf q0 q1 q2 q3
      refine B_M_endHurried_16 q0 ?_
      rw [q1 81 (by decide), e']
      refine ⟨fun _ => ?_, fun z => by omega⟩
      refine sp_M_goThrough (nd := hrN n (nds n (kn0 n)) r j) q0 wc ww wl ((q1 81 (by decide)).trans e') (by rw [q1 80 (by decide), q1 91 (by decide)]; exact ca.1) q3 (fun w w0 w1 => by have := hrN_b (st := kn0 n) ww we wh ok w0 w1 j hj; omega) (fun M2 p0 p1 p2 p3 p4 p5 p6 => B_M_endHurried_63 ?_)
      have fin := hq M2 ⟨p0, fun b b1 b2 => by rw [p1 b b1 (by omega) (by omega) (by omega), q1 b (by omega)], fun x hx => by rw [p2 x hx, q1 80 (by decide)], by rw [p3, q2], Or.inr ⟨p4, p5⟩, fun w w0 w1 => by
        rw [p1 92 (by decide) (by decide) (by decide) (by decide), q1 92 (by decide)]
        exact ca.2 w w0 w1⟩
      unfold endH at fin
      rw [show (n 6).toNat = j by omega] at fin
      exact fin
    | succ f ih =>
      intro j M' hj hf q0 q1 q2 q3
      have hh := wh.2.1 j (by omega) (by omega)
      have o := ok j (by omega) (by omega)
      have e88 := q3 _ hh.1.1 hh.1.2
      have hb := hrN_b (st := kn0 n) ww we wh ok hh.1.1 hh.1.2 j (by omega)
      have nw := (ww.2 _ hh.1.1 hh.1.2).2.1
      have r1 := ih (j + 1) (sI M' 88 (n (1018 + 3 * (j : Int))) (gI M' 88 (n (1018 + 3 * (j : Int))) - r j)) (by omega) (by omega) q0 (fun b hb => by rw [gI_ot hb]; exact q1 b hb) q2 (fun w w0 w1 => ?_)
      · rw [show (((j + 1 : Nat) : Int)) = (j : Int) + 1 by omega] at r1
        refine B_M_endHurried_16 q0 ?_
        rw [q1 81 (by decide), e', q1 96 (by decide), hr j (by omega) (by omega)]
        exact ⟨fun z => by omega, fun _ => ⟨⟨by omega, by omega, by omega, by omega, by omega⟩, r1⟩⟩
      · rw [gI_up]
        show _ = up _ _ _ w
        by_cases c : w = n (1018 + 3 * (j : Int))
        · rw [c, up_s, up_s]
          omega
        · rw [up_n c, up_n c]
          exact q3 w w0 w1
  exact key _ 0 M1 (by omega) rfl g0 g1 g2 (fun w w0 w1 => by rw [g3 w w0 w1]; rfl)
theorem sp_H_sumOf_70 {r : Int → Int} (hS : RefOK M) (wh : wHst n) (dH : cHst n (gI M 27) (gI M 28) (gI M 29) (gI M 26 3)) (ok : okR n r) (hr : ∀ h, 0 ≤ h → h < n 6 → gI M 70 h = r h) (hq : Q M (some (vI (smR n r (n 6).toNat)))) : Wq 1 0 0 mH_sumOf 0 [iR 26, iR 70, none, none] [] M Q := by
  have h6 := wh.1
  refine B_H_sumOf_70_0 ?_
  have key : ∀ (f : Nat) (j : Nat), (j : Int) ≤ n 6 → (n 6).toNat - j = f → Wq 1 0 0 mH_sumOf 4 [iR 26, iR 70, iI (smR n r j), iI j] [] M Q := by
    intro f
    induction f with
    | zero =>
      intro j hj hf
      refine B_H_sumOf_70_4 hS ?_
      rw [dH.1]
      refine ⟨fun _ => ?_, fun z => by omega⟩
      rw [show (n 6).toNat = j by omega] at hq
      exact hq
    | succ f ih =>
      intro j hj hf
      have ih := ih (j + 1) (by omega) (by omega)
      rw [show (((j + 1 : Nat) : Int)) = (j : Int) + 1 by omega] at ih
      have b := smR_b wh ok j hj
      have hh := wh.2.1 j (by omega) (by omega)
      have o := ok j (by omega) (by omega)
      have m := mul_p (a := r j) (b := n (1020 + 3 * (j : Int))) (by omega) (by omega) (by omega) (by omega)
      refine B_H_sumOf_70_4 hS ?_
      rw [dH.1, hr j (by omega) (by omega), (dH.2 j (by omega) (by omega)).2.2]
      exact ⟨fun z => by omega, fun _ => ⟨by omega, ih⟩⟩
  exact key _ 0 (by omega) rfl
theorem sp_D_endHurried_70 {r : Int → Int} (hS : RefOK M) (wf : WfN n) (d : site0 n M) (ok : okR n r) (hr : ∀ h, 0 ≤ h → h < n 6 → gI M 70 h = r h) (hq : ∀ M', CW M M' → Q M' (some (vI (endH n r)))) : Wq 4 0 0 mD_endHurried 0 [iR 0, iR 70, iI (kn0 n), none] [] M Q := by
  obtain ⟨wd, wc, ww, wl, we, wt, wx, wh⟩ := wf
  have h6 := wh.1
  have h2 := ww.1
  have ko := kn0_ok we
  refine B_D_endHurried_70_0 hS (sp_P_load hS ww we d ⟨ko.1, Int.lt_trans ko.2 (by decide)⟩ (fun M1 g0 g1 => B_D_endHurried_70_12 ?_))
  have key : ∀ (f : Nat) (j : Nat) (M' : Mm), (j : Int) ≤ n 6 → (n 6).toNat - j = f → CW M M' → (∀ w, 0 ≤ w → w < n 2 → gI M' 60 w = hrN n (nds n (kn0 n)) r j w) → Wq 4 0 0 mD_endHurried 14 [iR 0, iR 70, iI (kn0 n), iI j] [] M' Q := by
    intro f
    induction f with
    | zero =>
      intro j M' hj hf q0 q1
      have dH := (q0.s0 d).2.2.2.2.2.2.2
      refine B_D_endHurried_70_14 q0.1 ?_
      rw [dH.1]
      refine ⟨fun _ => ?_, fun z => by omega⟩
      refine sp_P_run (nd := hrN n (nds n (kn0 n)) r j) q0.1 wc ww wl (q0.s0 d) q1 (fun w w0 w1 => by have := hrN_b (st := kn0 n) ww we wh ok w0 w1 j hj; omega) (fun M2 p0 p1 p2 => B_D_endHurried_70_71 ?_)
      have fin := hq M2 (q0.tr p0)
      unfold endH at fin
      rw [show (n 6).toNat = j by omega] at fin
      exact fin
    | succ f ih =>
      intro j M' hj hf q0 q1
      have dH := (q0.s0 d).2.2.2.2.2.2.2
      have hh := wh.2.1 j (by omega) (by omega)
      have o := ok j (by omega) (by omega)
      have hb := hrN_b (st := kn0 n) ww we wh ok hh.1.1 hh.1.2 j (by omega)
      have r1 := ih (j + 1) (sI M' 60 (n (1018 + 3 * (j : Int))) (hrN n (nds n (kn0 n)) r j (n (1018 + 3 * (j : Int))) - r j)) (by omega) (by omega) (q0.wr (by decide)) (fun w w0 w1 => ?_)
      · rw [show (((j + 1 : Nat) : Int)) = (j : Int) + 1 by omega] at r1
        refine B_D_endHurried_70_14 q0.1 ?_
        rw [dH.1, (dH.2 j (by omega) (by omega)).1, q0.2.1 70 (by decide), hr j (by omega) (by omega), q1 _ hh.1.1 hh.1.2]
        exact ⟨fun z => by omega, fun _ => ⟨⟨by omega, by omega, by omega, by omega⟩, r1⟩⟩
      · rw [gI_up]
        show _ = up _ _ _ w
        by_cases c : w = n (1018 + 3 * (j : Int))
        · rw [c, up_s, up_s]
        · rw [up_n c, up_n c]
          exact q1 w w0 w1
  exact key _ 0 M1 (by omega) rfl g0 g1
theorem sp_H_sumOf_73 {r : Int → Int} (hS : RefOK M) (wh : wHst n) (dH : cHst n (gI M 27) (gI M 28) (gI M 29) (gI M 26 3)) (ok : okR n r) (hr : ∀ h, 0 ≤ h → h < n 6 → gI M 73 h = r h) (hq : Q M (some (vI (smR n r (n 6).toNat)))) : Wq 1 0 0 mH_sumOf 0 [iR 26, iR 73, none, none] [] M Q := by
  have h6 := wh.1
  refine B_H_sumOf_73_0 ?_
  have key : ∀ (f : Nat) (j : Nat), (j : Int) ≤ n 6 → (n 6).toNat - j = f → Wq 1 0 0 mH_sumOf 4 [iR 26, iR 73, iI (smR n r j), iI j] [] M Q := by
    intro f
    induction f with
    | zero =>
      intro j hj hf
      refine B_H_sumOf_73_4 hS ?_
      rw [dH.1]
      refine ⟨fun _ => ?_, fun z => by omega⟩
      rw [show (n 6).toNat = j by omega] at hq
      exact hq
    | succ f ih =>
      intro j hj hf
      have ih := ih (j + 1) (by omega) (by omega)
      rw [show (((j + 1 : Nat) : Int)) = (j : Int) + 1 by omega] at ih
      have b := smR_b wh ok j hj
      have hh := wh.2.1 j (by omega) (by omega)
      have o := ok j (by omega) (by omega)
      have m := mul_p (a := r j) (b := n (1020 + 3 * (j : Int))) (by omega) (by omega) (by omega) (by omega)
      refine B_H_sumOf_73_4 hS ?_
      rw [dH.1, hr j (by omega) (by omega), (dH.2 j (by omega) (by omega)).2.2]
      exact ⟨fun z => by omega, fun _ => ⟨by omega, ih⟩⟩
  exact key _ 0 (by omega) rfl
theorem sp_D_endHurried_73 {r : Int → Int} (hS : RefOK M) (wf : WfN n) (d : site0 n M) (ok : okR n r) (hr : ∀ h, 0 ≤ h → h < n 6 → gI M 73 h = r h) (hq : ∀ M', CW M M' → Q M' (some (vI (endH n r)))) : Wq 4 0 0 mD_endHurried 0 [iR 0, iR 73, iI (kn0 n), none] [] M Q := by
  obtain ⟨wd, wc, ww, wl, we, wt, wx, wh⟩ := wf
  have h6 := wh.1
  have h2 := ww.1
  have ko := kn0_ok we
  refine B_D_endHurried_73_0 hS (sp_P_load hS ww we d ⟨ko.1, Int.lt_trans ko.2 (by decide)⟩ (fun M1 g0 g1 => B_D_endHurried_73_12 ?_))
  have key : ∀ (f : Nat) (j : Nat) (M' : Mm), (j : Int) ≤ n 6 → (n 6).toNat - j = f → CW M M' → (∀ w, 0 ≤ w → w < n 2 → gI M' 60 w = hrN n (nds n (kn0 n)) r j w) → Wq 4 0 0 mD_endHurried 14 [iR 0, iR 73, iI (kn0 n), iI j] [] M' Q := by
    intro f
    induction f with
    | zero =>
      intro j M' hj hf q0 q1
      have dH := (q0.s0 d).2.2.2.2.2.2.2
      refine B_D_endHurried_73_14 q0.1 ?_
      rw [dH.1]
      refine ⟨fun _ => ?_, fun z => by omega⟩
      refine sp_P_run (nd := hrN n (nds n (kn0 n)) r j) q0.1 wc ww wl (q0.s0 d) q1 (fun w w0 w1 => by have := hrN_b (st := kn0 n) ww we wh ok w0 w1 j hj; omega) (fun M2 p0 p1 p2 => B_D_endHurried_73_71 ?_)
      have fin := hq M2 (q0.tr p0)
      unfold endH at fin
      rw [show (n 6).toNat = j by omega] at fin
      exact fin
    | succ f ih =>
      intro j M' hj hf q0 q1
      have dH := (q0.s0 d).2.2.2.2.2.2.2
      have hh := wh.2.1 j (by omega) (by omega)
      have o := ok j (by omega) (by omega)
      have hb := hrN_b (st := kn0 n) ww we wh ok hh.1.1 hh.1.2 j (by omega)
      have r1 := ih (j + 1) (sI M' 60 (n (1018 + 3 * (j : Int))) (hrN n (nds n (kn0 n)) r j (n (1018 + 3 * (j : Int))) - r j)) (by omega) (by omega) (q0.wr (by decide)) (fun w w0 w1 => ?_)
      · rw [show (((j + 1 : Nat) : Int)) = (j : Int) + 1 by omega] at r1
        refine B_D_endHurried_73_14 q0.1 ?_
        rw [dH.1, (dH.2 j (by omega) (by omega)).1, q0.2.1 73 (by decide), hr j (by omega) (by omega), q1 _ hh.1.1 hh.1.2]
        exact ⟨fun z => by omega, fun _ => ⟨⟨by omega, by omega, by omega, by omega⟩, r1⟩⟩
      · rw [gI_up]
        show _ = up _ _ _ w
        by_cases c : w = n (1018 + 3 * (j : Int))
        · rw [c, up_s, up_s]
        · rw [up_n c, up_n c]
          exact q1 w w0 w1
  exact key _ 0 M1 (by omega) rfl g0 g1
theorem sp_H_sumOf_75 {r : Int → Int} (hS : RefOK M) (wh : wHst n) (dH : cHst n (gI M 27) (gI M 28) (gI M 29) (gI M 26 3)) (ok : okR n r) (hr : ∀ h, 0 ≤ h → h < n 6 → gI M 75 h = r h) (hq : Q M (some (vI (smR n r (n 6).toNat)))) : Wq 1 0 0 mH_sumOf 0 [iR 26, iR 75, none, none] [] M Q := by
  have h6 := wh.1
  refine B_H_sumOf_75_0 ?_
  have key : ∀ (f : Nat) (j : Nat), (j : Int) ≤ n 6 → (n 6).toNat - j = f → Wq 1 0 0 mH_sumOf 4 [iR 26, iR 75, iI (smR n r j), iI j] [] M Q := by
    intro f
    induction f with
    | zero =>
      intro j hj hf
      refine B_H_sumOf_75_4 hS ?_
      rw [dH.1]
      refine ⟨fun _ => ?_, fun z => by omega⟩
      rw [show (n 6).toNat = j by omega] at hq
      exact hq
    | succ f ih =>
      intro j hj hf
      have ih := ih (j + 1) (by omega) (by omega)
      rw [show (((j + 1 : Nat) : Int)) = (j : Int) + 1 by omega] at ih
      have b := smR_b wh ok j hj
      have hh := wh.2.1 j (by omega) (by omega)
      have o := ok j (by omega) (by omega)
      have m := mul_p (a := r j) (b := n (1020 + 3 * (j : Int))) (by omega) (by omega) (by omega) (by omega)
      refine B_H_sumOf_75_4 hS ?_
      rw [dH.1, hr j (by omega) (by omega), (dH.2 j (by omega) (by omega)).2.2]
      exact ⟨fun z => by omega, fun _ => ⟨by omega, ih⟩⟩
  exact key _ 0 (by omega) rfl
theorem sp_D_endHurried_75 {r : Int → Int} (hS : RefOK M) (wf : WfN n) (d : site0 n M) (ok : okR n r) (hr : ∀ h, 0 ≤ h → h < n 6 → gI M 75 h = r h) (hq : ∀ M', CW M M' → Q M' (some (vI (endH n r)))) : Wq 4 0 0 mD_endHurried 0 [iR 0, iR 75, iI (kn0 n), none] [] M Q := by
  obtain ⟨wd, wc, ww, wl, we, wt, wx, wh⟩ := wf
  have h6 := wh.1
  have h2 := ww.1
  have ko := kn0_ok we
  refine B_D_endHurried_75_0 hS (sp_P_load hS ww we d ⟨ko.1, Int.lt_trans ko.2 (by decide)⟩ (fun M1 g0 g1 => B_D_endHurried_75_12 ?_))
  have key : ∀ (f : Nat) (j : Nat) (M' : Mm), (j : Int) ≤ n 6 → (n 6).toNat - j = f → CW M M' → (∀ w, 0 ≤ w → w < n 2 → gI M' 60 w = hrN n (nds n (kn0 n)) r j w) → Wq 4 0 0 mD_endHurried 14 [iR 0, iR 75, iI (kn0 n), iI j] [] M' Q := by
    intro f
    induction f with
    | zero =>
      intro j M' hj hf q0 q1
      have dH := (q0.s0 d).2.2.2.2.2.2.2
      refine B_D_endHurried_75_14 q0.1 ?_
      rw [dH.1]
      refine ⟨fun _ => ?_, fun z => by omega⟩
      refine sp_P_run (nd := hrN n (nds n (kn0 n)) r j) q0.1 wc ww wl (q0.s0 d) q1 (fun w w0 w1 => by have := hrN_b (st := kn0 n) ww we wh ok w0 w1 j hj; omega) (fun M2 p0 p1 p2 => B_D_endHurried_75_71 ?_)
      have fin := hq M2 (q0.tr p0)
      unfold endH at fin
      rw [show (n 6).toNat = j by omega] at fin
      exact fin
    | succ f ih =>
      intro j M' hj hf q0 q1
      have dH := (q0.s0 d).2.2.2.2.2.2.2
      have hh := wh.2.1 j (by omega) (by omega)
      have o := ok j (by omega) (by omega)
      have hb := hrN_b (st := kn0 n) ww we wh ok hh.1.1 hh.1.2 j (by omega)
      have r1 := ih (j + 1) (sI M' 60 (n (1018 + 3 * (j : Int))) (hrN n (nds n (kn0 n)) r j (n (1018 + 3 * (j : Int))) - r j)) (by omega) (by omega) (q0.wr (by decide)) (fun w w0 w1 => ?_)
      · rw [show (((j + 1 : Nat) : Int)) = (j : Int) + 1 by omega] at r1
        refine B_D_endHurried_75_14 q0.1 ?_
        rw [dH.1, (dH.2 j (by omega) (by omega)).1, q0.2.1 75 (by decide), hr j (by omega) (by omega), q1 _ hh.1.1 hh.1.2]
        exact ⟨fun z => by omega, fun _ => ⟨⟨by omega, by omega, by omega, by omega⟩, r1⟩⟩
      · rw [gI_up]
        show _ = up _ _ _ w
        by_cases c : w = n (1018 + 3 * (j : Int))
        · rw [c, up_s, up_s]
        · rw [up_n c, up_n c]
          exact q1 w w0 w1
  exact key _ 0 M1 (by omega) rfl g0 g1
theorem sp_H_sumOf_77 {r : Int → Int} (hS : RefOK M) (wh : wHst n) (dH : cHst n (gI M 27) (gI M 28) (gI M 29) (gI M 26 3)) (ok : okR n r) (hr : ∀ h, 0 ≤ h → h < n 6 → gI M 77 h = r h) (hq : Q M (some (vI (smR n r (n 6).toNat)))) : Wq 1 0 0 mH_sumOf 0 [iR 26, iR 77, none, none] [] M Q := by
  have h6 := wh.1
  refine B_H_sumOf_77_0 ?_
  have key : ∀ (f : Nat) (j : Nat), (j : Int) ≤ n 6 → (n 6).toNat - j = f → Wq 1 0 0 mH_sumOf 4 [iR 26, iR 77, iI (smR n r j), iI j] [] M Q := by
    intro f
    induction f with
    | zero =>
      intro j hj hf
      refine B_H_sumOf_77_4 hS ?_
      rw [dH.1]
      refine ⟨fun _ => ?_, fun z => by omega⟩
      rw [show (n 6).toNat = j by omega] at hq
      exact hq
    | succ f ih =>
      intro j hj hf
      have ih := ih (j + 1) (by omega) (by omega)
      rw [show (((j + 1 : Nat) : Int)) = (j : Int) + 1 by omega] at ih
      have b := smR_b wh ok j hj
      have hh := wh.2.1 j (by omega) (by omega)
      have o := ok j (by omega) (by omega)
      have m := mul_p (a := r j) (b := n (1020 + 3 * (j : Int))) (by omega) (by omega) (by omega) (by omega)
      refine B_H_sumOf_77_4 hS ?_
      rw [dH.1, hr j (by omega) (by omega), (dH.2 j (by omega) (by omega)).2.2]
      exact ⟨fun z => by omega, fun _ => ⟨by omega, ih⟩⟩
  exact key _ 0 (by omega) rfl
theorem sp_D_endHurried_77 {r : Int → Int} (hS : RefOK M) (wf : WfN n) (d : site0 n M) (ok : okR n r) (hr : ∀ h, 0 ≤ h → h < n 6 → gI M 77 h = r h) (hq : ∀ M', CW M M' → Q M' (some (vI (endH n r)))) : Wq 4 0 0 mD_endHurried 0 [iR 0, iR 77, iI (kn0 n), none] [] M Q := by
  obtain ⟨wd, wc, ww, wl, we, wt, wx, wh⟩ := wf
  have h6 := wh.1
  have h2 := ww.1
  have ko := kn0_ok we
  refine B_D_endHurried_77_0 hS (sp_P_load hS ww we d ⟨ko.1, Int.lt_trans ko.2 (by decide)⟩ (fun M1 g0 g1 => B_D_endHurried_77_12 ?_))
  have key : ∀ (f : Nat) (j : Nat) (M' : Mm), (j : Int) ≤ n 6 → (n 6).toNat - j = f → CW M M' → (∀ w, 0 ≤ w → w < n 2 → gI M' 60 w = hrN n (nds n (kn0 n)) r j w) → Wq 4 0 0 mD_endHurried 14 [iR 0, iR 77, iI (kn0 n), iI j] [] M' Q := by
    intro f
    induction f with
    | zero =>
      intro j M' hj hf q0 q1
      have dH := (q0.s0 d).2.2.2.2.2.2.2
      refine B_D_endHurried_77_14 q0.1 ?_
      rw [dH.1]
      refine ⟨fun _ => ?_, fun z => by omega⟩
      refine sp_P_run (nd := hrN n (nds n (kn0 n)) r j) q0.1 wc ww wl (q0.s0 d) q1 (fun w w0 w1 => by have := hrN_b (st := kn0 n) ww we wh ok w0 w1 j hj; omega) (fun M2 p0 p1 p2 => B_D_endHurried_77_71 ?_)
      have fin := hq M2 (q0.tr p0)
      unfold endH at fin
      rw [show (n 6).toNat = j by omega] at fin
      exact fin
    | succ f ih =>
      intro j M' hj hf q0 q1
      have dH := (q0.s0 d).2.2.2.2.2.2.2
      have hh := wh.2.1 j (by omega) (by omega)
      have o := ok j (by omega) (by omega)
      have hb := hrN_b (st := kn0 n) ww we wh ok hh.1.1 hh.1.2 j (by omega)
      have r1 := ih (j + 1) (sI M' 60 (n (1018 + 3 * (j : Int))) (hrN n (nds n (kn0 n)) r j (n (1018 + 3 * (j : Int))) - r j)) (by omega) (by omega) (q0.wr (by decide)) (fun w w0 w1 => ?_)
      · rw [show (((j + 1 : Nat) : Int)) = (j : Int) + 1 by omega] at r1
        refine B_D_endHurried_77_14 q0.1 ?_
        rw [dH.1, (dH.2 j (by omega) (by omega)).1, q0.2.1 77 (by decide), hr j (by omega) (by omega), q1 _ hh.1.1 hh.1.2]
        exact ⟨fun z => by omega, fun _ => ⟨⟨by omega, by omega, by omega, by omega⟩, r1⟩⟩
      · rw [gI_up]
        show _ = up _ _ _ w
        by_cases c : w = n (1018 + 3 * (j : Int))
        · rw [c, up_s, up_s]
        · rw [up_n c, up_n c]
          exact q1 w w0 w1
  exact key _ 0 M1 (by omega) rfl g0 g1
theorem sp_H_sumOf_79 {r : Int → Int} (hS : RefOK M) (wh : wHst n) (dH : cHst n (gI M 27) (gI M 28) (gI M 29) (gI M 26 3)) (ok : okR n r) (hr : ∀ h, 0 ≤ h → h < n 6 → gI M 79 h = r h) (hq : Q M (some (vI (smR n r (n 6).toNat)))) : Wq 1 0 0 mH_sumOf 0 [iR 26, iR 79, none, none] [] M Q := by
  have h6 := wh.1
  refine B_H_sumOf_79_0 ?_
  have key : ∀ (f : Nat) (j : Nat), (j : Int) ≤ n 6 → (n 6).toNat - j = f → Wq 1 0 0 mH_sumOf 4 [iR 26, iR 79, iI (smR n r j), iI j] [] M Q := by
    intro f
    induction f with
    | zero =>
      intro j hj hf
      refine B_H_sumOf_79_4 hS ?_
      rw [dH.1]
      refine ⟨fun _ => ?_, fun z => by omega⟩
      rw [show (n 6).toNat = j by omega] at hq
      exact hq
    | succ f ih =>
      intro j hj hf
      have ih := ih (j + 1) (by omega) (by omega)
      rw [show (((j + 1 : Nat) : Int)) = (j : Int) + 1 by omega] at ih
      have b := smR_b wh ok j hj
      have hh := wh.2.1 j (by omega) (by omega)
      have o := ok j (by omega) (by omega)
      have m := mul_p (a := r j) (b := n (1020 + 3 * (j : Int))) (by omega) (by omega) (by omega) (by omega)
      refine B_H_sumOf_79_4 hS ?_
      rw [dH.1, hr j (by omega) (by omega), (dH.2 j (by omega) (by omega)).2.2]
      exact ⟨fun z => by omega, fun _ => ⟨by omega, ih⟩⟩
  exact key _ 0 (by omega) rfl
theorem sp_D_endHurried_79 {r : Int → Int} (hS : RefOK M) (wf : WfN n) (d : site0 n M) (ok : okR n r) (hr : ∀ h, 0 ≤ h → h < n 6 → gI M 79 h = r h) (hq : ∀ M', CW M M' → Q M' (some (vI (endH n r)))) : Wq 4 0 0 mD_endHurried 0 [iR 0, iR 79, iI (kn0 n), none] [] M Q := by
  obtain ⟨wd, wc, ww, wl, we, wt, wx, wh⟩ := wf
  have h6 := wh.1
  have h2 := ww.1
  have ko := kn0_ok we
  refine B_D_endHurried_79_0 hS (sp_P_load hS ww we d ⟨ko.1, Int.lt_trans ko.2 (by decide)⟩ (fun M1 g0 g1 => B_D_endHurried_79_12 ?_))
  have key : ∀ (f : Nat) (j : Nat) (M' : Mm), (j : Int) ≤ n 6 → (n 6).toNat - j = f → CW M M' → (∀ w, 0 ≤ w → w < n 2 → gI M' 60 w = hrN n (nds n (kn0 n)) r j w) → Wq 4 0 0 mD_endHurried 14 [iR 0, iR 79, iI (kn0 n), iI j] [] M' Q := by
    intro f
    induction f with
    | zero =>
      intro j M' hj hf q0 q1
      have dH := (q0.s0 d).2.2.2.2.2.2.2
      refine B_D_endHurried_79_14 q0.1 ?_
      rw [dH.1]
      refine ⟨fun _ => ?_, fun z => by omega⟩
      refine sp_P_run (nd := hrN n (nds n (kn0 n)) r j) q0.1 wc ww wl (q0.s0 d) q1 (fun w w0 w1 => by have := hrN_b (st := kn0 n) ww we wh ok w0 w1 j hj; omega) (fun M2 p0 p1 p2 => B_D_endHurried_79_71 ?_)
      have fin := hq M2 (q0.tr p0)
      unfold endH at fin
      rw [show (n 6).toNat = j by omega] at fin
      exact fin
    | succ f ih =>
      intro j M' hj hf q0 q1
      have dH := (q0.s0 d).2.2.2.2.2.2.2
      have hh := wh.2.1 j (by omega) (by omega)
      have o := ok j (by omega) (by omega)
      have hb := hrN_b (st := kn0 n) ww we wh ok hh.1.1 hh.1.2 j (by omega)
      have r1 := ih (j + 1) (sI M' 60 (n (1018 + 3 * (j : Int))) (hrN n (nds n (kn0 n)) r j (n (1018 + 3 * (j : Int))) - r j)) (by omega) (by omega) (q0.wr (by decide)) (fun w w0 w1 => ?_)
      · rw [show (((j + 1 : Nat) : Int)) = (j : Int) + 1 by omega] at r1
        refine B_D_endHurried_79_14 q0.1 ?_
        rw [dH.1, (dH.2 j (by omega) (by omega)).1, q0.2.1 79 (by decide), hr j (by omega) (by omega), q1 _ hh.1.1 hh.1.2]
        exact ⟨fun z => by omega, fun _ => ⟨⟨by omega, by omega, by omega, by omega⟩, r1⟩⟩
      · rw [gI_up]
        show _ = up _ _ _ w
        by_cases c : w = n (1018 + 3 * (j : Int))
        · rw [c, up_s, up_s]
        · rw [up_n c, up_n c]
          exact q1 w w0 w1
  exact key _ 0 M1 (by omega) rfl g0 g1
end OPW
