/-! ===== more days, no earlier end ===== -/
section MON
variable {n : Int → Int}
theorem mE_f {kd : Int} : ∀ (f : Nat) (l d : Int), cE n kd f l d ≤ cE n kd (f + 1) l d
  | 0, l, d => (cE_b 1 l d).1
  | f + 1, l, d => by
    unfold cE
    split
    · exact Int.le_refl _
    · exact mE_f f _ _
theorem mE_ff {kd : Int} {f : Nat} {l d : Int} : ∀ g : Nat, f ≤ g → cE n kd f l d ≤ cE n kd g l d
  | 0, h => by
    have : f = 0 := by omega
    rw [this]
    exact Int.le_refl _
  | g + 1, h => by
    by_cases c : f = g + 1
    · rw [c]
      exact Int.le_refl _
    · exact Int.le_trans (mE_ff g (by omega)) (mE_f g l d)
theorem mE_l {kd : Int} : ∀ (f : Nat) (l l' d : Int), l ≤ l' → cE n kd f l d ≤ cE n kd f l' d
  | 0, _, _, _, _ => Int.le_refl _
  | f + 1, l, l', d, h => by
    by_cases c : l ≤ 0
    · have := (cE_b (n := n) (kd := kd) (f + 1) l' d).1
      have e : cE n kd (f + 1) l d = d := if_pos c
      omega
    · have e : cE n kd (f + 1) l d = cE n kd f (if goe n kd d = true then l - 1 else l) (d + 1) := if_neg c
      have e' : cE n kd (f + 1) l' d = cE n kd f (if goe n kd d = true then l' - 1 else l') (d + 1) := if_neg (by omega)
      rw [e, e']
      apply mE_l f
      split <;> omega
theorem mE_1 {kd : Int} (f : Nat) (l d : Int) : cE n kd f l d ≤ cE n kd f l (d + 1) := by
  cases f with
  | zero =>
    show d ≤ d + 1
    omega
  | succ f =>
    by_cases c : l ≤ 0
    · have := (cE_b (n := n) (kd := kd) (f + 1) l (d + 1)).1
      have e : cE n kd (f + 1) l d = d := if_pos c
      omega
    · have e : cE n kd (f + 1) l d = cE n kd f (if goe n kd d = true then l - 1 else l) (d + 1) := if_neg c
      rw [e]
      refine Int.le_trans (mE_l f _ l (d + 1) ?_) (mE_f f l (d + 1))
      split <;> omega
theorem mE_d {kd : Int} (f : Nat) (l d : Int) : ∀ k : Nat, cE n kd f l d ≤ cE n kd f l (d + k)
  | 0 => by
    rw [show d + ((0 : Nat) : Int) = d by omega]
    exact Int.le_refl _
  | k + 1 => by
    have := mE_1 (n := n) (kd := kd) f l (d + k)
    have h := mE_d (kd := kd) f l d k
    rw [show d + ((k + 1 : Nat) : Int) = d + k + 1 by omega]
    exact Int.le_trans h this
theorem cEnd_m {kd frm frm' days days' : Int} (h1 : frm ≤ frm') (h2 : days ≤ days') : cEnd n kd frm days ≤ cEnd n kd frm' days' := by
  unfold cEnd
  split
  · omega
  · refine Int.le_trans (mE_ff (7 * days' + 7000).toNat (by omega)) (Int.le_trans (mE_l _ days days' frm h2) ?_)
    have := mE_d (n := n) (kd := kd) (7 * days' + 7000).toNat days' frm (frm' - frm).toNat
    rw [show frm + (((frm' - frm).toNat : Nat) : Int) = frm' by omega] at this
    exact this
theorem rdy_m2 {e e' : Int → Int} {w : Int} (h : ∀ i, lnk n i w → e i ≤ e' i) : ∀ j : Nat, (j : Int) ≤ n 3 → rdy n e w j ≤ rdy n e' w j
  | 0, _ => Int.le_refl _
  | j + 1, hj => by
    have ih := rdy_m2 h j (by omega)
    unfold rdy
    split
    · rename_i c
      have := h _ ⟨j, by omega, by omega, rfl, c⟩
      omega
    · exact ih
theorem eK_m {nd nd' : Int → Int} (wl : wLnk n) (h : ∀ w, 0 ≤ w → w < n 2 → nd w ≤ nd' w) : ∀ (k : Nat) (w : Int), 0 ≤ w → w < n 2 → eK n nd k w ≤ eK n nd' k w
  | 0, _, _, _ => Int.le_refl _
  | k + 1, w, w0, w1 => by
    have h3 := wl.1
    unfold eK
    exact cEnd_m (rdy_m2 (fun i hi => by have := lnk_in wl hi; exact eK_m wl h k i this.1.1 this.1.2) _ (by omega)) (h w w0 w1)
theorem eA_m {nd nd' : Int → Int} (ww : wWrk n) (wl : wLnk n) (h : ∀ w, 0 ≤ w → w < n 2 → nd w ≤ nd' w) : eA n nd ≤ eA n nd' := by
  have h2 := ww.1
  have key : ∀ j : Nat, (j : Int) ≤ n 2 → mxE (eW n nd) j ≤ mxE (eW n nd') j := by
    intro j
    induction j with
    | zero => intro _; exact Int.le_refl _
    | succ j ih =>
      intro hj
      have ih := ih (by omega)
      have := eK_m wl h (17 + (n 2).toNat) j (by omega) (by omega)
      have : eW n nd j ≤ eW n nd' j := this
      unfold mxE
      omega
  exact key _ (by omega)
theorem mrs_m {st st' w : Int} (we : wEvt n) : ∀ j : Nat, (j : Int) ≤ n 4 → (∀ k : Nat, k < j → hb st k = true → hb st' k = true) → mrs n st w j ≤ mrs n st' w j
  | 0, _, _ => Int.le_refl _
  | j + 1, hj, h => by
    have ih := mrs_m (w := w) we j (by omega) (fun k hk => h k (by omega))
    have d := (we.2 j (by omega) (by omega)).2.2.2.1
    have b := h j (by omega)
    unfold mrs
    split
    · rename_i c
      rw [if_pos ⟨c.1, b c.2⟩]
      omega
    · split <;> omega
theorem eS_m {st st' : Int} (ww : wWrk n) (wl : wLnk n) (we : wEvt n) (h : ∀ k : Nat, k < (n 4).toNat → hb st k = true → hb st' k = true) : eS n st ≤ eS n st' := by
  refine eA_m ww wl (fun w w0 w1 => ?_)
  unfold nds
  have := mrs_m (w := w) we (n 4).toNat (by have := we.1; omega) h
  omega
end MON
/-! ===== claim ===== -/
section OPV
variable {s : St} {M : Mm} {Q : Mm → Option Mv → Prop} {n : Int → Int}
/-- those known today with a risk of at least r -/
def rkS (n : Int → Int) (r : Int) : Int := fsP (fun k => hb (kn0 n) k && decide (r ≤ syV n 0 k)) (n 4).toNat
def twS (n : Int → Int) : Int := fsP (fun k => hb (kn0 n) k && two n k) (n 4).toNat
theorem rkS_ok {r : Int} (h4 : n 4 ≤ 20) : (0 ≤ rkS n r ∧ rkS n r < 1048576) ∧ ∀ k : Nat, hb (rkS n r) k = (decide (k < (n 4).toNat) && (hb (kn0 n) k && decide (r ≤ syV n 0 k))) := fsP_ok _ _ (by omega)
/-- the days that are paid, times their price, of the first j -/
def pdF (n : Int → Int) (st : Int) : Nat → Int
  | 0 => 0
  | j + 1 => if hb st j = true then wr (pdF n st j + wr (stp n st j * syV n 1 j)) else pdF n st j
theorem pdF_r {st : Int} : ∀ j : Nat, wr (pdF n st j) = pdF n st j
  | 0 => by
    show wr 0 = 0
    decide
  | j + 1 => by
    unfold pdF
    split
    · exact wr_ww _
    · exact pdF_r j
theorem sp_M_withRisk {r : Int} (hS : RefOK M) (wf : WfN n) (e' : gI M 81 = n) (ca : rCac n M) (hq : ∀ M', RV n M M' → Q M' (some (vI (rkS n r)))) : Wq 11 0 0 mM_withRisk 0 [iR 80, iI r, none, none, none] [] M Q := by
  have we := wf.2.2.2.2.1
  have h4 := we.1
  have ko := kn0_ok we
  refine B_M_withRisk_0 hS ?_
  rw [e']
  refine sp_M_knownOn hS h4 e' (B_M_withRisk_10 ?_)
  unfold rkS at hq
  generalize hp : (fun k : Nat => hb (kn0 n) k && decide (r ≤ syV n 0 k)) = p at hq
  have key : ∀ (f : Nat) (k : Nat) (M' : Mm), (k : Int) ≤ n 4 → (n 4).toNat - k = f → RV n M M' → Wq 11 0 0 mM_withRisk 16 [iR 80, iI r, iI (kn0 n), iI (fsP p k), iI k] [] M' Q := by
    intro f
    induction f with
    | zero =>
      intro k M' hk hf g
      refine B_M_withRisk_16 g.1 ?_
      rw [g.e e']
      refine ⟨fun _ => ?_, fun z => by omega⟩
      have := hq M' g
      rw [show (n 4).toNat = k by omega] at this
      exact this
    | succ f ih =>
      intro k M' hk hf g
      have fo := (fsP_ok p k (by omega)).1
      have ih := fun M'' => ih (k + 1) M'' (by omega) (by omega)
      rw [show (((k + 1 : Nat) : Int)) = (k : Int) + 1 by omega] at ih
      have ph : p k = (hb (kn0 n) k && decide (r ≤ syV n 0 k)) := by rw [← hp]
      have no : ∀ M'', RV n M M'' → ¬ (hb (kn0 n) k = true ∧ r ≤ syV n 0 k) → Wq 11 0 0 mM_withRisk 16 [iR 80, iI r, iI (kn0 n), iI (bOr (fsP p k) 0), iI ((k : Int) + 1)] [] M'' Q := fun M'' g z => by
        rw [or_0 fo.1 (by omega)]
        have := ih M'' g
        rw [show fsP p (k + 1) = fsP p k from if_neg (by rw [ph, Bool.and_eq_true, decide_eq_true_iff]; exact z)] at this
        exact this
      have ye : ∀ M'', RV n M M'' → (hb (kn0 n) k = true ∧ r ≤ syV n 0 k) → Wq 11 0 0 mM_withRisk 16 [iR 80, iI r, iI (kn0 n), iI (bOr (fsP p k) (bShl 1 k)), iI ((k : Int) + 1)] [] M'' Q := fun M'' g z => by
        have := ih M'' g
        rw [show fsP p (k + 1) = sb (fsP p k) k from if_pos (by rw [ph, Bool.and_eq_true, decide_eq_true_iff]; exact z)] at this
        exact this
      refine B_M_withRisk_16 g.1 ?_
      rw [g.e e']
      refine ⟨fun z => by omega, fun _ => ⟨by omega, fun z => ?_, fun z => ⟨by omega, no M' g (fun q => z q.1)⟩⟩⟩
      exact sp_M_saidOf g.1 wf (g.e e') g.2.2.2.2 ⟨by omega, by omega⟩ (fun M'' g' => B_M_withRisk_44 ⟨fun y => ⟨by omega, no M'' (g.tr g') (fun q => by omega)⟩, fun y => ⟨by omega, ye M'' (g.tr g') ⟨z, by omega⟩⟩⟩)
  exact key _ 0 M (by omega) rfl (RW.rf hS ca).v
theorem sp_D_knownToday (hS : RefOK M) (we : wEvt n) (d : site0 n M) (hq : Q M (some (vI (kn0 n)))) : Wq 2 0 0 mD_knownToday 0 [iR 0] [] M Q := by
  refine B_D_knownToday_0 hS ?_
  rw [d.1]
  exact sp_E_knownOn hS we.1 d.2.2.2.2.1 (B_D_knownToday_17 hq)
theorem sp_D_bearing {r : Int} (hS : RefOK M) (wf : WfN n) (d : site0 n M) (hq : ∀ M', CV M M' → Q M' (some (vI (rkS n r)))) : Wq 54 0 0 mD_bearing 0 [iR 0, iI r, none, none, none] [] M Q := by
  have we := wf.2.2.2.2.1
  have h4 := we.1
  have ko := kn0_ok we
  refine B_D_bearing_0 (sp_D_knownToday hS we d (B_D_bearing_4 ?_))
  unfold rkS at hq
  generalize hp : (fun k : Nat => hb (kn0 n) k && decide (r ≤ syV n 0 k)) = p at hq
  have key : ∀ (f : Nat) (k : Nat) (M' : Mm), (k : Int) ≤ n 4 → (n 4).toNat - k = f → CV M M' → Wq 54 0 0 mD_bearing 10 [iR 0, iI r, iI (kn0 n), iI (fsP p k), iI k] [] M' Q := by
    intro f
    induction f with
    | zero =>
      intro k M' hk hf g
      refine B_D_bearing_10 g.1 ?_
      rw [(g.s0 d).2.2.2.2.1.1]
      refine ⟨fun _ => ?_, fun z => by omega⟩
      have := hq M' g
      rw [show (n 4).toNat = k by omega] at this
      exact this
    | succ f ih =>
      intro k M' hk hf g
      have fo := (fsP_ok p k (by omega)).1
      have ih := fun M'' => ih (k + 1) M'' (by omega) (by omega)
      rw [show (((k + 1 : Nat) : Int)) = (k : Int) + 1 by omega] at ih
      have ph : p k = (hb (kn0 n) k && decide (r ≤ syV n 0 k)) := by rw [← hp]
      have no : ∀ M'', CV M M'' → ¬ (hb (kn0 n) k = true ∧ r ≤ syV n 0 k) → Wq 54 0 0 mD_bearing 10 [iR 0, iI r, iI (kn0 n), iI (fsP p k), iI ((k : Int) + 1)] [] M'' Q := fun M'' g z => by
        have := ih M'' g
        rw [show fsP p (k + 1) = fsP p k from if_neg (by rw [ph, Bool.and_eq_true, decide_eq_true_iff]; exact z)] at this
        exact this
      have ye : ∀ M'', CV M M'' → (hb (kn0 n) k = true ∧ r ≤ syV n 0 k) → Wq 54 0 0 mD_bearing 10 [iR 0, iI r, iI (kn0 n), iI (bOr (fsP p k) (bShl 1 k)), iI ((k : Int) + 1)] [] M'' Q := fun M'' g z => by
        have := ih M'' g
        rw [show fsP p (k + 1) = sb (fsP p k) k from if_pos (by rw [ph, Bool.and_eq_true, decide_eq_true_iff]; exact z)] at this
        exact this
      refine B_D_bearing_10 g.1 ?_
      rw [(g.s0 d).2.2.2.2.1.1]
      refine ⟨fun z => by omega, fun _ => ⟨by omega, fun z => ?_, fun z => ⟨by omega, no M' g (fun q => z q.1)⟩⟩⟩
      exact sp_D_riskOf g.1 wf (g.s0 d) ⟨by omega, by omega⟩ (fun M'' g' => B_D_bearing_40 ⟨fun y => ⟨by omega, no M'' (g.tr g') (fun q => by omega)⟩, fun y => ⟨by omega, ye M'' (g.tr g') ⟨z, by omega⟩⟩⟩)
  exact key _ 0 M (by omega) rfl (CV.rf hS)
theorem sp_M_paid (hS : RefOK M) (wf : WfN n) (e' : gI M 81 = n) (ca : rCac n M) (hq : ∀ M', RV n M M' → Q M' (some (vI (pdF n (rkS n 2) (n 4).toNat)))) : Wq 12 0 0 mM_paid 0 [iR 80, none, none, none] [] M Q := by
  have wf' := wf
  obtain ⟨wd, wc, ww, wl, we, wt, wx, wh⟩ := wf
  have h4 := we.1
  have ro := (rkS_ok (n := n) (r := 2) h4.2).1
  refine B_M_paid_0 (sp_M_withRisk hS wf' e' ca (fun M1 g1 => ?_))
  have key : ∀ (f : Nat) (k : Nat) (M' : Mm), (k : Int) ≤ n 4 → (n 4).toNat - k = f → RV n M M' → Wq 12 0 0 mM_paid 10 [iR 80, iI (rkS n 2), iI (pdF n (rkS n 2) k), iI k] [] M' Q := by
    intro f
    induction f with
    | zero =>
      intro k M' hk hf g
      refine B_M_paid_10 g.1 ?_
      rw [g.e e']
      refine ⟨fun _ => ?_, fun z => by omega⟩
      have := hq M' g
      rw [show (n 4).toNat = k by omega] at this
      exact this
    | succ f ih =>
      intro k M' hk hf g
      have ih := fun M'' => ih (k + 1) M'' (by omega) (by omega)
      rw [show (((k + 1 : Nat) : Int)) = (k : Int) + 1 by omega] at ih
      unfold pdF at ih
      refine B_M_paid_10 g.1 ?_
      rw [g.e e', wr_eq (x := (k : Int) + 1) (by omega) (by omega)]
      refine ⟨fun z => by omega, fun _ => ⟨by omega, fun z => ?_, fun z => ?_⟩⟩
      · rw [if_pos z] at ih
        refine sp_M_step g.1 wc ww wl we (g.e e') g.2.2.2.2 (by omega) ⟨by omega, by omega⟩ (fun M2 g2 => B_M_paid_35 ?_)
        have g3 := g.tr g2.v
        refine sp_M_saidOf g3.1 wf' (g3.e e') g3.2.2.2.2 ⟨by omega, by omega⟩ (fun M3 g4 => B_M_paid_41 ?_)
        rw [wr_eq (x := (k : Int) + 1) (by omega) (by omega)]
        exact ih M3 (g3.tr g4)
      · rw [if_neg z] at ih
        rw [Int.add_zero, pdF_r]
        exact ih M' g
  exact B_M_paid_5 (key _ 0 M1 (by omega) rfl g1)
theorem sp_D_paidFor {st : Int} (hS : RefOK M) (wf : WfN n) (d : site0 n M) (s0 : 0 ≤ st ∧ st < 2147483648) (hq : ∀ M', CV M M' → Q M' (some (vI (pdF n st (n 4).toNat)))) : Wq 54 0 0 mD_paidFor 0 [iR 0, iI st, none, none] [] M Q := by
  have wf' := wf
  obtain ⟨wd, wc, ww, wl, we, wt, wx, wh⟩ := wf
  have h4 := we.1
  refine B_D_paidFor_0 ?_
  have key : ∀ (f : Nat) (k : Nat) (M' : Mm), (k : Int) ≤ n 4 → (n 4).toNat - k = f → CV M M' → Wq 54 0 0 mD_paidFor 4 [iR 0, iI st, iI (pdF n st k), iI k] [] M' Q := by
    intro f
    induction f with
    | zero =>
      intro k M' hk hf g
      refine B_D_paidFor_4 g.1 ?_
      rw [(g.s0 d).2.2.2.2.1.1]
      refine ⟨fun _ => ?_, fun z => by omega⟩
      have := hq M' g
      rw [show (n 4).toNat = k by omega] at this
      exact this
    | succ f ih =>
      intro k M' hk hf g
      have ih := fun M'' => ih (k + 1) M'' (by omega) (by omega)
      rw [show (((k + 1 : Nat) : Int)) = (k : Int) + 1 by omega] at ih
      unfold pdF at ih
      refine B_D_paidFor_4 g.1 ?_
      rw [(g.s0 d).2.2.2.2.1.1, wr_eq (x := (k : Int) + 1) (by omega) (by omega)]
      refine ⟨fun z => by omega, fun _ => ⟨by omega, fun z => ?_, fun z => ?_⟩⟩
      · rw [if_pos z] at ih
        refine sp_D_addedBy g.1 wc ww wl we (g.s0 d) s0 ⟨by omega, by omega⟩ (fun M2 g2 => B_D_paidFor_33 ?_)
        have g3 := g.tr g2.v
        refine sp_D_priceOf g3.1 wf' (g3.s0 d) ⟨by omega, by omega⟩ (fun M3 g4 => B_D_paidFor_38 ?_)
        rw [wr_eq (x := (k : Int) + 1) (by omega) (by omega)]
        exact ih M3 (g3.tr g4)
      · rw [if_neg z] at ih
        exact ih M' g
  exact key _ 0 M (by omega) rfl (CV.rf hS)
theorem sp_D_twoAtOnce (hS : RefOK M) (wd : wDay n) (we : wEvt n) (d : site0 n M) (hq : Q M (some (vI (twS n)))) : Wq 3 0 0 mD_twoAtOnce 0 [iR 0, none, none, none] [] M Q := by
  have h4 := we.1
  have ko := kn0_ok we
  have dE := d.2.2.2.2.1
  refine B_D_twoAtOnce_0 (sp_D_knownToday hS we d (B_D_twoAtOnce_4 ?_))
  unfold twS at hq
  generalize hp : (fun k : Nat => hb (kn0 n) k && two n k) = p at hq
  have key : ∀ (f : Nat) (k : Nat), (k : Int) ≤ n 4 → (n 4).toNat - k = f → Wq 3 0 0 mD_twoAtOnce 9 [iR 0, iI (kn0 n), iI (fsP p k), iI k] [] M Q := by
    intro f
    induction f with
    | zero =>
      intro k hk hf
      refine B_D_twoAtOnce_9 hS ?_
      rw [dE.1]
      refine ⟨fun _ => ?_, fun z => by omega⟩
      rw [show (n 4).toNat = k by omega] at hq
      exact hq
    | succ f ih =>
      intro k hk hf
      have ih := ih (k + 1) (by omega) (by omega)
      rw [show (((k + 1 : Nat) : Int)) = (k : Int) + 1 by omega] at ih
      have ph : p k = (hb (kn0 n) k && two n k) := by rw [← hp]
      have no : ¬ (hb (kn0 n) k = true ∧ two n k = true) → Wq 3 0 0 mD_twoAtOnce 9 [iR 0, iI (kn0 n), iI (fsP p k), iI ((k : Int) + 1)] [] M Q := fun z => by
        rw [show fsP p (k + 1) = fsP p k from if_neg (by rw [ph, Bool.and_eq_true]; exact z)] at ih
        exact ih
      have ye : (hb (kn0 n) k = true ∧ two n k = true) → Wq 3 0 0 mD_twoAtOnce 9 [iR 0, iI (kn0 n), iI (bOr (fsP p k) (bShl 1 k)), iI ((k : Int) + 1)] [] M Q := fun z => by
        rw [show fsP p (k + 1) = sb (fsP p k) k from if_pos (by rw [ph, Bool.and_eq_true]; exact z)] at ih
        exact ih
      refine B_D_twoAtOnce_9 hS ?_
      rw [dE.1]
      refine ⟨fun z => by omega, fun _ => ⟨by omega, fun z => ?_, fun z => ⟨by omega, no (fun q => z q.1)⟩⟩⟩
      refine sp_E_meetsOther hS wd we dE ⟨by omega, by omega⟩ (B_D_twoAtOnce_43 ⟨fun y => ⟨by omega, no (fun q => ?_)⟩, fun y => ⟨by omega, ye ⟨z, ?_⟩⟩⟩)
      · rw [if_pos q.2] at y
        omega
      · exact Classical.byContradiction fun q => y (if_neg q)
  exact key _ 0 (by omega) rfl
def o_claim (s : St) (w : Int) : St × Int := if 0 ≤ w ∧ w ≤ 5 then (s, if w = 0 then eS (sn s) (rkS (sn s) 1) - eS (sn s) 0 else if w = 1 then eS (sn s) (rkS (sn s) 1) else if w = 2 then pdF (sn s) (rkS (sn s) 2) (sn s 4).toNat else if w = 3 then eS (sn s) (kn0 (sn s)) - eS (sn s) (rkS (sn s) 1) else if w = 4 then rkS (sn s) 1 else twS (sn s)) else fnd s 1
theorem w_claim {w : Int} (hw : WfS s) : WfS (o_claim s w).1 := by
  unfold o_claim
  split
  · exact hw
  · exact hw.fnd
theorem c_claim {w : Int} (hw : WfS s) (h : CI s M) (hq : ∀ M', CI (o_claim s w).1 M' → FrC M M' → Q M' (some (vI (o_claim s w).2))) : Wq 55 0 0 mD_claim 0 [iR 0, iI w] [] M Q := by
  have wf' := hw.1
  obtain ⟨wd, wc, ww, wl, we, wt, wx, wh⟩ := hw.1
  have h4 := we.1
  have d := h.2.1
  have r1 := (rkS_ok (n := sn s) (r := 1) h4.2).1
  have r2 := (rkS_ok (n := sn s) (r := 2) h4.2).1
  have ko := kn0_ok we
  have b1 := eS_b (st := rkS (sn s) 1) ww wl we
  have b0 := eS_b (st := 0) ww wl we
  have bk := eS_b (st := kn0 (sn s)) ww wl we
  refine B_D_claim_0 h.1 ⟨fun z => ?_, fun z => ?_, fun z => ?_, fun z => ?_, fun z => ?_, fun z => ?_, fun z => c_fnd h (by decide) (by decide) (by decide) (if_neg (by omega)) hq⟩
  all_goals rw [show o_claim s w = _ from if_pos (by omega)] at hq
  · rw [if_pos z] at hq
    refine sp_D_bearing h.1 wf' d (fun M1 g1 => B_D_claim_46 (sp_D_endOf g1.1 wc ww wl we (g1.s0 d) (by omega) (fun M2 g2 _ => B_D_claim_49 ?_)))
    have g3 := g1.tr g2.v
    refine sp_D_endOf g3.1 wc ww wl we (g3.s0 d) (by decide) (fun M4 g4 _ => B_D_claim_54 ⟨by omega, ?_⟩)
    have g5 := g3.tr g4.v
    exact hq M4 (g5.ci h) g5.fr
  · rw [if_neg (by omega), if_pos z] at hq
    refine sp_D_bearing h.1 wf' d (fun M1 g1 => B_D_claim_62 (sp_D_endOf g1.1 wc ww wl we (g1.s0 d) (by omega) (fun M2 g2 _ => B_D_claim_65 ?_)))
    have g3 := g1.tr g2.v
    exact hq M2 (g3.ci h) g3.fr
  · rw [if_neg (by omega), if_neg (by omega), if_pos z] at hq
    refine sp_D_bearing h.1 wf' d (fun M1 g1 => B_D_claim_72 (sp_D_paidFor g1.1 wf' (g1.s0 d) (by omega) (fun M2 g2 => B_D_claim_75 ?_)))
    have g3 := g1.tr g2
    exact hq M2 (g3.ci h) g3.fr
  · rw [if_neg (by omega), if_neg (by omega), if_neg (by omega), if_pos z] at hq
    refine sp_D_knownToday h.1 we d (B_D_claim_81 (sp_D_endOf h.1 wc ww wl we d (by omega) (fun M1 g1 _ => B_D_claim_84 ?_)))
    refine sp_D_bearing g1.1 wf' (g1.s0 d) (fun M2 g2 => B_D_claim_90 ?_)
    have g3 := g1.v.tr g2
    refine sp_D_endOf g3.1 wc ww wl we (g3.s0 d) (by omega) (fun M4 g4 _ => B_D_claim_93 ⟨by omega, ?_⟩)
    have g5 := g3.tr g4.v
    exact hq M4 (g5.ci h) g5.fr
  · rw [if_neg (by omega), if_neg (by omega), if_neg (by omega), if_neg (by omega), if_pos z] at hq
    exact sp_D_bearing h.1 wf' d (fun M1 g1 => B_D_claim_100 (hq M1 (g1.ci h) g1.fr))
  · rw [if_neg (by omega), if_neg (by omega), if_neg (by omega), if_neg (by omega), if_neg (by omega)] at hq
    exact sp_D_twoAtOnce h.1 wd we d (B_D_claim_105 (hq M h FrC.rf))
theorem r_claim {w : Int} (hw : WfS s) (h : RI s M) (hq : ∀ M', RI (o_claim s w).1 M' → FrR M M' → Q M' (some (vI (o_claim s w).2))) : Wq 13 0 0 mM_claim 0 [iR 80, iI w, none, none, none, none] [] M Q := by
  have e' := h.2.1
  have wf' := hw.1
  obtain ⟨wd, wc, ww, wl, we, wt, wx, wh⟩ := hw.1
  have h4 := we.1
  have ca := h.2.2.2.2.2.2.2.2.2.2
  have r1' := rkS_ok (n := sn s) (r := 1) h4.2
  have r1 := r1'.1
  have ko := kn0_ok we
  have b1 := eS_b (st := rkS (sn s) 1) ww wl we
  have b0 := eS_b (st := 0) ww wl we
  have bk := eS_b (st := kn0 (sn s)) ww wl we
  have mon : eS (sn s) (rkS (sn s) 1) ≤ eS (sn s) (kn0 (sn s)) := eS_m ww wl we (fun k hk z => by
    rw [r1'.2, Bool.and_eq_true, Bool.and_eq_true] at z
    exact z.2.1)
  refine B_M_claim_0 h.1 ⟨fun c => ?_, fun c => r_fnd h (by decide) (if_neg c) hq⟩
  rw [show o_claim s w = _ from if_pos c] at hq
  rw [e']
  refine sp_M_knownOn h.1 h4 e' (B_M_claim_29 (sp_M_withRisk h.1 wf' e' ca (fun M1 g1 => B_M_claim_36 ?_)))
  refine sp_M_endBy g1.1 wc ww wl we (g1.e e') g1.2.2.2.2 (by omega) (fun M2 g2 _ => ?_)
  have g3 := g1.tr g2.v
  refine B_M_claim_39 ⟨fun z => ?_, fun z => ?_, fun z => ?_, fun z => ?_, fun z => ?_, fun z => ?_⟩
  · rw [if_pos z] at hq
    refine sp_M_endBy g3.1 wc ww wl we (g3.e e') g3.2.2.2.2 (by decide) (fun M4 g4 _ => B_M_claim_82 ⟨by omega, ?_⟩)
    have g5 := g3.tr g4.v
    exact hq M4 (g5.ri h) g5.fr
  · rw [if_neg (by omega), if_pos z] at hq
    exact hq M2 (g3.ri h) g3.fr
  · rw [if_neg (by omega), if_neg (by omega), if_pos z] at hq
    refine sp_M_paid g3.1 wf' (g3.e e') g3.2.2.2.2 (fun M4 g4 => B_M_claim_90 ?_)
    have g5 := g3.tr g4
    exact hq M4 (g5.ri h) g5.fr
  · rw [if_neg (by omega), if_neg (by omega), if_neg (by omega), if_pos z] at hq
    refine sp_M_endBy g3.1 wc ww wl we (g3.e e') g3.2.2.2.2 ⟨ko.1, Int.lt_trans ko.2 (by decide)⟩ (fun M4 g4 _ => B_M_claim_97 ?_)
    have g5 := g3.tr g4.v
    have mon : eS (sn s) (rkS (sn s) 1) ≤ eS (sn s) (knw (sn s) (sn s 0) (sn s 4).toNat) := mon
    have bk : 0 ≤ eS (sn s) (knw (sn s) (sn s 0) (sn s 4).toNat) ∧ eS (sn s) (knw (sn s) (sn s 0) (sn s 4).toNat) ≤ 462660 := bk
    refine ⟨by omega, ?_⟩
    rw [show max 0 (eS (sn s) (knw (sn s) (sn s 0) (sn s 4).toNat) - eS (sn s) (rkS (sn s) 1)) = eS (sn s) (knw (sn s) (sn s 0) (sn s 4).toNat) - eS (sn s) (rkS (sn s) 1) by omega]
    exact hq M4 (g5.ri h) g5.fr
  · rw [if_neg (by omega), if_neg (by omega), if_neg (by omega), if_neg (by omega), if_pos z] at hq
    refine sp_M_withRisk g3.1 wf' (g3.e e') g3.2.2.2.2 (fun M4 g4 => B_M_claim_108 ?_)
    have g5 := g3.tr g4
    exact hq M4 (g5.ri h) g5.fr
  · rw [if_neg (by omega), if_neg (by omega), if_neg (by omega), if_neg (by omega), if_neg (by omega)] at hq
    have fin : Q M2 (some (vI (twS (sn s)))) := hq M2 (g3.ri h) g3.fr
    unfold twS at fin
    generalize hp : (fun k : Nat => hb (kn0 (sn s)) k && two (sn s) k) = p at fin
    have key : ∀ (f : Nat) (k : Nat), (k : Int) ≤ sn s 4 → (sn s 4).toNat - k = f → Wq 13 0 0 mM_claim 115 [iR 80, iI w, iI (kn0 (sn s)), iI (eS (sn s) (rkS (sn s) 1)), iI (fsP p k), iI k] [] M2 Q := by
      intro f
      induction f with
      | zero =>
        intro k hk hf
        refine B_M_claim_115 g3.1 ?_
        rw [g3.e e']
        refine ⟨fun _ => ?_, fun z => by omega⟩
        rw [show (sn s 4).toNat = k by omega] at fin
        exact fin
      | succ f ih =>
        intro k hk hf
        have fo := (fsP_ok p k (by omega)).1
        have ih := ih (k + 1) (by omega) (by omega)
        rw [show (((k + 1 : Nat) : Int)) = (k : Int) + 1 by omega] at ih
        have ph : p k = (hb (kn0 (sn s)) k && two (sn s) k) := by rw [← hp]
        have no : ¬ (hb (kn0 (sn s)) k = true ∧ two (sn s) k = true) → Wq 13 0 0 mM_claim 115 [iR 80, iI w, iI (kn0 (sn s)), iI (eS (sn s) (rkS (sn s) 1)), iI (bOr (fsP p k) 0), iI ((k : Int) + 1)] [] M2 Q := fun z => by
          rw [or_0 fo.1 (by omega)]
          rw [show fsP p (k + 1) = fsP p k from if_neg (by rw [ph, Bool.and_eq_true]; exact z)] at ih
          exact ih
        have ye : (hb (kn0 (sn s)) k = true ∧ two (sn s) k = true) → Wq 13 0 0 mM_claim 115 [iR 80, iI w, iI (kn0 (sn s)), iI (eS (sn s) (rkS (sn s) 1)), iI (bOr (fsP p k) (bShl 1 k)), iI ((k : Int) + 1)] [] M2 Q := fun z => by
          rw [show fsP p (k + 1) = sb (fsP p k) k from if_pos (by rw [ph, Bool.and_eq_true]; exact z)] at ih
          exact ih
        refine B_M_claim_115 g3.1 ?_
        rw [g3.e e']
        refine ⟨fun z => by omega, fun _ => ⟨by omega, fun z => ?_, fun z => ⟨by omega, no (fun q => z q.1)⟩⟩⟩
        refine sp_M_isTwo g3.1 wd we (g3.e e') ⟨by omega, by omega⟩ (B_M_claim_143 ⟨fun y => ⟨by omega, no (fun q => ?_)⟩, fun y => ⟨by omega, ye ⟨z, ?_⟩⟩⟩)
        · rw [if_pos q.2] at y
          omega
        · exact Classical.byContradiction fun q => y (if_neg q)
    exact key _ 0 (by omega) rfl
end OPV
