/-! ===== cells that are only worked with ===== -/
section WK
variable {s : St} {M : Mm} {Q : Mm → Option Mv → Prop}
theorem CI.wk {M' : Mm} (h : CI s M) (hS : RefOK M') (k : ∀ b : Nat, ¬ ((59 ≤ b ∧ b ≤ 65) ∨ b = 70 ∨ b = 71) → gI M' b = gI M b) (l : gL M' = gL M) : CI s M' := by
  unfold CI site0 site1 shR at h ⊢
  simp only [l, k 0 (by decide), k 1 (by decide), k 2 (by decide), k 4 (by decide), k 5 (by decide), k 6 (by decide), k 7 (by decide), k 8 (by decide), k 9 (by decide), k 10 (by decide), k 11 (by decide), k 12 (by decide), k 13 (by decide), k 14 (by decide), k 15 (by decide), k 16 (by decide), k 17 (by decide), k 18 (by decide), k 19 (by decide), k 20 (by decide), k 21 (by decide), k 22 (by decide), k 23 (by decide), k 24 (by decide), k 25 (by decide), k 26 (by decide), k 27 (by decide), k 28 (by decide), k 29 (by decide), k 30 (by decide), k 31 (by decide), k 33 (by decide), k 34 (by decide), k 35 (by decide), k 36 (by decide), k 37 (by decide), k 38 (by decide), k 39 (by decide), k 40 (by decide), k 41 (by decide), k 42 (by decide), k 43 (by decide), k 44 (by decide), k 45 (by decide), k 46 (by decide), k 47 (by decide), k 48 (by decide), k 49 (by decide), k 50 (by decide), k 51 (by decide), k 52 (by decide), k 53 (by decide), k 54 (by decide), k 55 (by decide), k 56 (by decide), k 57 (by decide), k 58 (by decide), k 66 (by decide), k 67 (by decide), k 69 (by decide), k 72 (by decide), k 73 (by decide), k 74 (by decide), k 75 (by decide), k 76 (by decide), k 77 (by decide), k 78 (by decide), k 79 (by decide), k 1001 (by decide), k 1002 (by decide)]
  exact ⟨hS, h.2⟩
/-- the class: the cells of the plan alone are written -/
def CW (M M' : Mm) : Prop := RefOK M' ∧ (∀ b : Nat, ¬ (59 ≤ b ∧ b ≤ 62) → gI M' b = gI M b) ∧ gL M' = gL M
theorem CW.rf (h : RefOK M) : CW M M := ⟨h, fun _ _ => rfl, rfl⟩
theorem CW.tr {M1 M2 : Mm} (h : CW M M1) (g : CW M1 M2) : CW M M2 := ⟨g.1, fun b hb => (g.2.1 b hb).trans (h.2.1 b hb), g.2.2.trans h.2.2⟩
theorem CW.ci {M' : Mm} (h : CW M M') (c : CI s M) : CI s M' := c.wk h.1 (fun b hb => h.2.1 b (by omega)) h.2.2
theorem CW.fr {M' : Mm} (h : CW M M') : FrC M M' := fun a i q => by rw [h.2.1 a (by omega)]
theorem CW.s0 {M' : Mm} {n : Int → Int} (h : CW M M') (c : site0 n M) : site0 n M' := by
  have k := h.2.1
  unfold site0 at c ⊢
  simp only [h.2.2, k 1 (by decide), k 2 (by decide), k 4 (by decide), k 5 (by decide), k 6 (by decide), k 7 (by decide), k 8 (by decide), k 9 (by decide), k 10 (by decide), k 11 (by decide), k 12 (by decide), k 13 (by decide), k 14 (by decide), k 15 (by decide), k 16 (by decide), k 17 (by decide), k 18 (by decide), k 19 (by decide), k 20 (by decide), k 21 (by decide), k 22 (by decide), k 23 (by decide), k 24 (by decide), k 25 (by decide), k 26 (by decide), k 27 (by decide), k 28 (by decide), k 29 (by decide)]
  exact c
theorem CW.wr {M' : Mm} {a : Nat} {i v : Int} (h : CW M M') (ha : 59 ≤ a ∧ a ≤ 62) : CW M (sI M' a i v) := ⟨h.1, fun b hb => by rw [gI_ot (by omega)]; exact h.2.1 b hb, h.2.2⟩
/-- the reference: the cells of the plan alone are written, and what it remembers is right -/
def RW (n : Int → Int) (M M' : Mm) : Prop := RefOK M' ∧ (∀ b : Nat, b ≠ 80 → ¬ (88 ≤ b ∧ b ≤ 92) → gI M' b = gI M b) ∧ (∀ x, x ≠ 13 → gI M' 80 x = gI M 80 x) ∧ gL M' = gL M ∧ rCac n M'
theorem RW.rf {n : Int → Int} (h : RefOK M) (c : rCac n M) : RW n M M := ⟨h, fun _ _ _ => rfl, fun _ _ => rfl, rfl, c⟩
theorem RW.tr {n : Int → Int} {M1 M2 : Mm} (h : RW n M M1) (g : RW n M1 M2) : RW n M M2 := ⟨g.1, fun b b1 b2 => (g.2.1 b b1 b2).trans (h.2.1 b b1 b2), fun x hx => (g.2.2.1 x hx).trans (h.2.2.1 x hx), g.2.2.2.1.trans h.2.2.2.1, g.2.2.2.2⟩
theorem RW.e {n : Int → Int} {M' : Mm} (h : RW n M M') (e' : gI M 81 = n) : gI M' 81 = n := (h.2.1 81 (by decide) (by decide)).trans e'
theorem RW.ri {M' : Mm} (h : RW (sn s) M M') (c : RI s M) : RI s M' := by
  obtain ⟨r1, r2, r3, r4, r5, r6, r7, r8, r9, r10, r11⟩ := c
  obtain ⟨h1, h2, h3, h4, h5⟩ := h
  exact ⟨h1, (h2 81 (by decide) (by decide)).trans r2, (h2 82 (by decide) (by decide)).trans r3, (h3 2 (by decide)).trans r4, (h2 83 (by decide) (by decide)).trans r5, (h2 84 (by decide) (by decide)).trans r6, (h2 85 (by decide) (by decide)).trans r7, (h2 86 (by decide) (by decide)).trans r8, (h2 87 (by decide) (by decide)).trans r9, (h3 8 (by decide)).trans r10, h5⟩
theorem RW.fr {n : Int → Int} {M' : Mm} (h : RW n M M') : FrR M M' := fun a i q => ⟨by rw [h.2.1 a (by omega) (by omega)], by rw [h.2.2.2.1]⟩
end WK
/-! ===== THE END, on the reference's side ===== -/
section EB
variable {n : Int → Int} {M : Mm} {Q : Mm → Option Mv → Prop}
theorem nds_b {st w : Int} (ww : wWrk n) (we : wEvt n) (w0 : 0 ≤ w) (w1 : w < n 2) : 0 ≤ nds n st w ∧ nds n st w ≤ 640 := by
  have h := mrs_b (st := st) (w := w) we (n 4).toNat (by have := we.1; omega)
  have h4 := we.1
  have hw := (ww.2 w w0 w1).2.1
  unfold nds
  omega
theorem sp_M_endBy {st : Int} (hS : RefOK M) (wc : wCal n) (ww : wWrk n) (wl : wLnk n) (we : wEvt n) (e' : gI M 81 = n) (ca : rCac n M) (s0 : 0 ≤ st ∧ st < 2147483648) (hq : ∀ M', RW n M M' → (∀ w, 0 ≤ w → w < n 2 → gI M' 88 w = mrs n st w (n 4).toNat ∧ gI M' 89 w = rW n (nds n st) w ∧ gI M' 90 w = eW n (nds n st) w) → Q M' (some (vI (eS n st)))) : Wq 5 0 0 mM_endBy 0 [iR 80, iI st] [] M Q := by
  refine B_M_endBy_0 (sp_M_needBy hS ww we e' s0 (fun M1 g0 g1 g2 g3 => B_M_endBy_5 ?_))
  refine sp_M_goThrough (nd := nds n st) g0 wc ww wl (by rw [g1 81 (by decide), e']) (by rw [g1 80 (by decide), g1 91 (by decide)]; exact ca.1) (fun w w0 w1 => by rw [g3 w w0 w1]; rfl) (fun w w0 w1 => by have := nds_b (st := st) ww we w0 w1; omega) (fun M' q0 q1 q2 q3 q4 q5 q6 => B_M_endBy_9 (hq M' ⟨q0, fun b b1 b2 => ?_, fun x hx => ?_, by rw [q3, g2], Or.inr ⟨q4, q5⟩, fun w w0 w1 => ?_⟩ (fun w w0 w1 => ⟨?_, q6 w w0 w1⟩)))
  · rw [q1 b b1 (by omega) (by omega) (by omega), g1 b (by omega)]
  · rw [q2 x hx, g1 80 (by decide)]
  · rw [q1 92 (by decide) (by decide) (by decide) (by decide), g1 92 (by decide)]
    exact ca.2 w w0 w1
  · rw [q1 88 (by decide) (by decide) (by decide) (by decide)]
    exact g3 w w0 w1
theorem eA_nd {nd nd' : Int → Int} (ww : wWrk n) (wl : wLnk n) (h : ∀ w, 0 ≤ w → w < n 2 → nd' w = nd w) : eA n nd' = eA n nd := eA_cg ww wl rfl rfl rfl (fun _ _ _ => rfl) (fun _ _ _ => rfl) h
theorem sp_M_slackOf {st w : Int} (hS : RefOK M) (wc : wCal n) (ww : wWrk n) (wl : wLnk n) (we : wEvt n) (e' : gI M 81 = n) (ca : rCac n M) (s0 : 0 ≤ st ∧ st < 2147483648) (w0 : 0 ≤ w) (w1 : w < n 2) (hq : ∀ M', RW n M M' → Q M' (some (vI (flt n st w)))) : Wq 6 0 0 mM_slackOf 0 [iR 80, iI st, iI w, none, none, none, none, none] [] M Q := by
  have h2 := ww.1
  have nb := fun v (v0 : 0 ≤ v) (v1 : v < n 2) => nds_b (n := n) (st := st) ww we v0 v1
  have nw := ww.2 w w0 w1
  have mw := mrs_b (st := st) (w := w) we (n 4).toNat (by have := we.1; omega)
  have h4 := we.1
  refine B_M_slackOf_0 (sp_M_endBy hS wc ww wl we e' ca s0 (fun M1 g0 g1 => B_M_slackOf_5 g0.1 ⟨by omega, ?_⟩))
  rw [(g1 w w0 w1).1]
  have key : ∀ (f : Nat) (lo hi : Int) (M' : Mm), 0 ≤ lo → lo ≤ 99 → lo < hi → hi ≤ 100 → (hi - lo).toNat ≤ f → fl n (nds n st) w f lo hi = flt n st w → RW n M M' → (∀ v, 0 ≤ v → v < n 2 → v ≠ w → gI M' 88 v = mrs n st v (n 4).toNat) → Wq 6 0 0 mM_slackOf 21 [iR 80, iI st, iI w, iI (eS n st), iI (mrs n st w (n 4).toNat), iI lo, iI hi, none] [] M' Q := by
    intro f
    induction f with
    | zero => intro lo hi M' l0 l1 l2 h1 hf; omega
    | succ f ih =>
      intro lo hi M' l0 l1 l2 h1 hf he r0 r1
      unfold fl at he
      refine B_M_slackOf_21 r0.1 ⟨by omega, fun c => ?_, fun c => ?_⟩
      · rw [if_pos c] at he
        rw [he]
        exact hq M' r0
      · rw [if_neg c] at he
        have td : Int.tdiv (lo + hi) 2 = (lo + hi) / 2 := Int.tdiv_eq_ediv_of_nonneg (by omega)
        rw [td]
        refine ⟨by omega, ?_⟩
        refine sp_M_goThrough (nd := up (nds n st) w (nds n st w + (lo + hi) / 2)) r0.1 wc ww wl (r0.e e') r0.2.2.2.2.1 (fun v v0 v1 => ?_) (fun v v0 v1 => ?_) (fun M2 q0 q1 q2 q3 q4 q5 q6 => ?_)
        · rw [gI_up]
          by_cases z : v = w
          · rw [z, up_s, up_s]
            unfold nds
            omega
          · rw [up_n z, up_n z, r1 v v0 v1 z]
            rfl
        · by_cases z : v = w
          · rw [z, up_s]
            have := nb w w0 w1
            omega
          · rw [up_n z]
            have := nb v v0 v1
            omega
        · have r2 : RW n M M2 := r0.tr ⟨q0, fun b b1 b2 => by rw [q1 b b1 (by omega) (by omega) (by omega), gI_ot (by omega)], fun x hx => by rw [q2 x hx, gI_ot (by decide)], q3, Or.inr ⟨q4, q5⟩, fun v v0 v1 => by
            rw [q1 92 (by decide) (by decide) (by decide) (by decide), gI_ot (by decide)]
            exact r0.2.2.2.2.2 v v0 v1⟩
          have r3 : ∀ v, 0 ≤ v → v < n 2 → v ≠ w → gI M2 88 v = mrs n st v (n 4).toNat := fun v v0 v1 z => by
            rw [q1 88 (by decide) (by decide) (by decide) (by decide), gI_up, up_n z]
            exact r1 v v0 v1 z
          refine B_M_slackOf_54 ⟨fun y => ?_, fun y => ?_⟩
          · rw [if_neg (show ¬ eA n (up (nds n st) w (nds n st w + (lo + hi) / 2)) = eA n (nds n st) from y)] at he
            exact ih _ _ M2 (by omega) (by omega) (by omega) (by omega) (by omega) he r2 r3
          · rw [if_pos (show eA n (up (nds n st) w (nds n st w + (lo + hi) / 2)) = eA n (nds n st) from y)] at he
            exact ih _ _ M2 (by omega) (by omega) (by omega) (by omega) (by omega) he r2 r3
  exact key 100 0 100 M1 (by omega) (by omega) (by omega) (by omega) (by omega) rfl g0 (fun v v0 v1 _ => (g1 v v0 v1).1)
theorem sp_M_floatOf {w : Int} (hS : RefOK M) (wc : wCal n) (ww : wWrk n) (wl : wLnk n) (we : wEvt n) (e' : gI M 81 = n) (ca : rCac n M) (w0 : 0 ≤ w) (w1 : w < n 2) (hq : ∀ M', RW n M M' → Q M' (some (vI (flt n 0 w)))) : Wq 7 0 0 mM_floatOf 0 [iR 80, iI w] [] M Q := by
  have h2 := ww.1
  refine B_M_floatOf_0 hS ⟨by omega, fun c => ?_, fun c => ?_⟩
  · rcases ca.2 w w0 w1 with z | z
    · omega
    · rw [z]
      exact hq M (RW.rf hS ca)
  · refine sp_M_slackOf hS wc ww wl we e' ca (by omega) w0 w1 (fun M1 g => B_M_floatOf_20 g.1 ⟨by omega, hq _ ⟨g.1, fun b b1 b2 => ?_, fun x hx => ?_, g.2.2.2.1, ?_, fun v v0 v1 => ?_⟩⟩)
    · rw [gI_ot (by omega)]
      exact g.2.1 b b1 b2
    · rw [gI_ot (by decide)]
      exact g.2.2.1 x hx
    · rw [gI_ot (by decide), gI_ot (by decide)]
      exact g.2.2.2.2.1
    · rw [gI_up]
      by_cases z : v = w
      · rw [z, up_s]
        exact Or.inr rfl
      · rw [up_n z]
        exact g.2.2.2.2.2 v v0 v1
end EB
