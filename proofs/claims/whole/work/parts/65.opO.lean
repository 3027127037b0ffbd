/-! ===== sets of EVENTS; one, without, butFor ===== -/
section OPO
variable {s : St} {M : Mm} {Q : Mm → Option Mv → Prop} {n : Int → Int}
/-- the set of those with p, of the first h -/
def fsP (p : Nat → Bool) : Nat → Int
  | 0 => 0
  | h + 1 => if p h = true then sb (fsP p h) h else fsP p h
theorem fsP_ok (p : Nat → Bool) : ∀ h : Nat, h ≤ 20 → (0 ≤ fsP p h ∧ fsP p h < 1048576) ∧ ∀ k : Nat, hb (fsP p h) k = (decide (k < h) && p k)
  | 0, _ => ⟨by show (0:Int) ≤ 0 ∧ (0:Int) < 1048576; decide, fun k => by rw [show fsP p 0 = 0 from rfl, hb_0]; simp⟩
  | h + 1, hh => by
    obtain ⟨ih, hb1⟩ := fsP_ok p h (by omega)
    by_cases c : p h = true
    · rw [show fsP p (h + 1) = sb (fsP p h) h from if_pos c]
      have hbb : ∀ k : Nat, hb (sb (fsP p h) h) k = (decide (k < h + 1) && p k) := by
        intro k
        rw [sb_hb ih.1 (by omega) (by omega) (by omega), hb1]
        by_cases hk : k = h
        · subst hk
          simp [c]
        · rw [show decide ((k : Int) = (h : Int)) = false from decide_eq_false (by omega), Bool.or_false, show decide (k < h + 1) = decide (k < h) from decide_eq_decide.mpr (by omega)]
      refine ⟨⟨sb_nn ih.1 (by omega) (by omega) (by omega), ?_⟩, hbb⟩
      rw [← two20]
      refine lt_of_hb (sb_nn ih.1 (by omega) (by omega) (by omega)) (fun k hk => ?_)
      rw [hbb, decide_eq_false (by omega), Bool.false_and]
    · rw [show fsP p (h + 1) = fsP p h from if_neg c]
      refine ⟨ih, fun k => ?_⟩
      rw [hb1]
      by_cases hk : k = h
      · subst hk
        simp [c]
      · rw [show decide (k < h + 1) = decide (k < h) from decide_eq_decide.mpr (by omega)]
/-- THE END asks only for the bits of EVENTS -/
theorem mrs_st {st st' w : Int} : ∀ j : Nat, (∀ k : Nat, k < j → hb st' k = hb st k) → mrs n st' w j = mrs n st w j
  | 0, _ => rfl
  | j + 1, h => by
    unfold mrs
    rw [mrs_st j (fun k hk => h k (by omega)), h j (by omega)]
theorem eS_st {st st' : Int} (ww : wWrk n) (wl : wLnk n) (h : ∀ k : Nat, k < (n 4).toNat → hb st' k = hb st k) : eS n st' = eS n st := by
  unfold eS
  refine eA_nd ww wl (fun w w0 w1 => ?_)
  unfold nds
  rw [mrs_st _ h]
theorem eS_b {st : Int} (ww : wWrk n) (wl : wLnk n) (we : wEvt n) : 0 ≤ eS n st ∧ eS n st ≤ 462660 := eA_b ww wl (fun v v0 v1 => by have := nds_b (n := n) (st := st) ww we v0 v1; omega)
/-- EVENT k is ahead of EVENT h -/
def ahd (n : Int → Int) (h : Int) (k : Nat) : Bool := decide (n (150 + 7 * (k : Int)) < n (150 + 7 * h) ∨ (n (150 + 7 * (k : Int)) = n (150 + 7 * h) ∧ (k : Int) < h))
def ahS (n : Int → Int) (all h : Int) : Int := fsP (fun k => hb all k && ahd n h k) (n 4).toNat
def csS (n : Int → Int) (all c : Int) : Int := fsP (fun k => hb all k && decide (n (149 + 7 * (k : Int)) = c)) (n 4).toNat
def utS (n : Int → Int) (all d : Int) : Int := fsP (fun k => hb all k && decide (n (150 + 7 * (k : Int)) ≤ d)) (n 4).toNat
theorem csS_ok {all c : Int} (h4 : n 4 ≤ 20) : (0 ≤ csS n all c ∧ csS n all c < 1048576) ∧ ∀ k : Nat, hb (csS n all c) k = (decide (k < (n 4).toNat) && (hb all k && decide (n (149 + 7 * (k : Int)) = c))) := fsP_ok _ _ (by omega)
theorem utS_ok {all d : Int} (h4 : n 4 ≤ 20) : (0 ≤ utS n all d ∧ utS n all d < 1048576) ∧ ∀ k : Nat, hb (utS n all d) k = (decide (k < (n 4).toNat) && (hb all k && decide (n (150 + 7 * (k : Int)) ≤ d))) := fsP_ok _ _ (by omega)
theorem sp_E_ofCause {all c : Int} (hS : RefOK M) (we : wEvt n) (dE : cEvt n (gI M 13) (gI M 14) (gI M 15) (gI M 16) (gI M 17) (gI M 18) (gI M 19) (gI M 12 7)) (a0 : 0 ≤ all ∧ all < 2147483648) (hq : Q M (some (vI (csS n all c)))) : Wq 2 0 0 mE_ofCause 0 [iR 12, iI all, iI c, none, none] [] M Q := by
  have h4 := we.1
  refine B_E_ofCause_0 ?_
  unfold csS at hq
  generalize hp : (fun k : Nat => hb all k && decide (n (149 + 7 * (k : Int)) = c)) = p at hq
  have key : ∀ (f : Nat) (h : Nat), (h : Int) ≤ n 4 → (n 4).toNat - h = f → Wq 2 0 0 mE_ofCause 5 [iR 12, iI all, iI c, iI (fsP p h), iI h] [] M Q := by
    intro f
    induction f with
    | zero =>
      intro h h1 hf
      refine B_E_ofCause_5 hS ?_
      rw [dE.1]
      refine ⟨fun _ => ?_, fun c => by omega⟩
      rw [show (n 4).toNat = h by omega] at hq
      exact hq
    | succ f ih =>
      intro h h1 hf
      have ih := ih (h + 1) (by omega) (by omega)
      rw [show (((h + 1 : Nat) : Int)) = (h : Int) + 1 by omega] at ih
      have a2 := (dE.2 h (by omega) (by omega)).2.1
      have ph : p h = (hb all h && decide (n (149 + 7 * (h : Int)) = c)) := by rw [← hp]
      have no : ¬ (hb all h = true ∧ n (149 + 7 * (h : Int)) = c) → Wq 2 0 0 mE_ofCause 5 [iR 12, iI all, iI c, iI (fsP p h), iI ((h : Int) + 1)] [] M Q := fun z => by
        rw [show fsP p (h + 1) = fsP p h from if_neg (by rw [ph, Bool.and_eq_true, decide_eq_true_iff]; exact z)] at ih
        exact ih
      have ye : (hb all h = true ∧ n (149 + 7 * (h : Int)) = c) → Wq 2 0 0 mE_ofCause 5 [iR 12, iI all, iI c, iI (bOr (fsP p h) (bShl 1 h)), iI ((h : Int) + 1)] [] M Q := fun z => by
        rw [show fsP p (h + 1) = sb (fsP p h) h from if_pos (by rw [ph, Bool.and_eq_true, decide_eq_true_iff]; exact z)] at ih
        exact ih
      refine B_E_ofCause_5 hS ?_
      rw [dE.1, a2]
      exact ⟨fun c => by omega, fun _ => ⟨by omega, fun c2 => ⟨by omega, fun c3 => ⟨by omega, no (fun z => c3 z.2)⟩, fun c3 => ⟨by omega, ye ⟨c2, c3⟩⟩⟩, fun c2 => ⟨by omega, no (fun z => c2 z.1)⟩⟩⟩
  exact key _ 0 (by omega) rfl
theorem sp_E_upTo {all d : Int} (hS : RefOK M) (we : wEvt n) (dE : cEvt n (gI M 13) (gI M 14) (gI M 15) (gI M 16) (gI M 17) (gI M 18) (gI M 19) (gI M 12 7)) (a0 : 0 ≤ all ∧ all < 2147483648) (hq : Q M (some (vI (utS n all d)))) : Wq 2 0 0 mE_upTo 0 [iR 12, iI all, iI d, none, none] [] M Q := by
  have h4 := we.1
  refine B_E_upTo_0 ?_
  unfold utS at hq
  generalize hp : (fun k : Nat => hb all k && decide (n (150 + 7 * (k : Int)) ≤ d)) = p at hq
  have key : ∀ (f : Nat) (h : Nat), (h : Int) ≤ n 4 → (n 4).toNat - h = f → Wq 2 0 0 mE_upTo 5 [iR 12, iI all, iI d, iI (fsP p h), iI h] [] M Q := by
    intro f
    induction f with
    | zero =>
      intro h h1 hf
      refine B_E_upTo_5 hS ?_
      rw [dE.1]
      refine ⟨fun _ => ?_, fun c => by omega⟩
      rw [show (n 4).toNat = h by omega] at hq
      exact hq
    | succ f ih =>
      intro h h1 hf
      have ih := ih (h + 1) (by omega) (by omega)
      rw [show (((h + 1 : Nat) : Int)) = (h : Int) + 1 by omega] at ih
      have a2 := (dE.2 h (by omega) (by omega)).2.2.1
      have ph : p h = (hb all h && decide (n (150 + 7 * (h : Int)) ≤ d)) := by rw [← hp]
      have no : ¬ (hb all h = true ∧ n (150 + 7 * (h : Int)) ≤ d) → Wq 2 0 0 mE_upTo 5 [iR 12, iI all, iI d, iI (fsP p h), iI ((h : Int) + 1)] [] M Q := fun z => by
        rw [show fsP p (h + 1) = fsP p h from if_neg (by rw [ph, Bool.and_eq_true, decide_eq_true_iff]; exact z)] at ih
        exact ih
      have ye : (hb all h = true ∧ n (150 + 7 * (h : Int)) ≤ d) → Wq 2 0 0 mE_upTo 5 [iR 12, iI all, iI d, iI (bOr (fsP p h) (bShl 1 h)), iI ((h : Int) + 1)] [] M Q := fun z => by
        rw [show fsP p (h + 1) = sb (fsP p h) h from if_pos (by rw [ph, Bool.and_eq_true, decide_eq_true_iff]; exact z)] at ih
        exact ih
      refine B_E_upTo_5 hS ?_
      rw [dE.1, a2]
      exact ⟨fun c => by omega, fun _ => ⟨by omega, fun c2 => ⟨by omega, fun c3 => ⟨by omega, no (fun z => by omega)⟩, fun c3 => ⟨by omega, ye ⟨c2, by omega⟩⟩⟩, fun c2 => ⟨by omega, no (fun z => c2 z.1)⟩⟩⟩
  exact key _ 0 (by omega) rfl
theorem sp_E_aheadOf {all e : Int} (hS : RefOK M) (we : wEvt n) (dE : cEvt n (gI M 13) (gI M 14) (gI M 15) (gI M 16) (gI M 17) (gI M 18) (gI M 19) (gI M 12 7)) (a0 : 0 ≤ all ∧ all < 2147483648) (e0 : 0 ≤ e ∧ e < n 4) (hq : Q M (some (vI (ahS n all e)))) : Wq 2 0 0 mE_aheadOf 0 [iR 12, iI e, iI all, none, none, none] [] M Q := by
  have h4 := we.1
  refine B_E_aheadOf_0 ?_
  unfold ahS at hq
  generalize hp : (fun k : Nat => hb all k && ahd n e k) = p at hq
  have key : ∀ (f : Nat) (h : Nat), (h : Int) ≤ n 4 → (n 4).toNat - h = f → Wq 2 0 0 mE_aheadOf 5 [iR 12, iI e, iI all, iI (fsP p h), iI h, none] [] M Q := by
    intro f
    induction f with
    | zero =>
      intro h h1 hf
      refine B_E_aheadOf_5 hS ?_
      rw [dE.1]
      refine ⟨fun _ => ?_, fun c => by omega⟩
      rw [show (n 4).toNat = h by omega] at hq
      exact hq
    | succ f ih =>
      intro h h1 hf
      have ih := ih (h + 1) (by omega) (by omega)
      rw [show (((h + 1 : Nat) : Int)) = (h : Int) + 1 by omega] at ih
      have a2 := (dE.2 h (by omega) (by omega)).2.2.1
      have a3 := (dE.2 e e0.1 e0.2).2.2.1
      have ph : p h = (hb all h && ahd n e h) := by rw [← hp]
      have no : ¬ (hb all h = true ∧ (n (150 + 7 * (h : Int)) < n (150 + 7 * e) ∨ (n (150 + 7 * (h : Int)) = n (150 + 7 * e) ∧ (h : Int) < e))) → Wq 2 0 0 mE_aheadOf 5 [iR 12, iI e, iI all, iI (fsP p h), iI ((h : Int) + 1), none] [] M Q := fun z => by
        rw [show fsP p (h + 1) = fsP p h from if_neg (by rw [ph, Bool.and_eq_true, ahd, decide_eq_true_iff]; exact z)] at ih
        exact ih
      have ye : (hb all h = true ∧ (n (150 + 7 * (h : Int)) < n (150 + 7 * e) ∨ (n (150 + 7 * (h : Int)) = n (150 + 7 * e) ∧ (h : Int) < e))) → Wq 2 0 0 mE_aheadOf 5 [iR 12, iI e, iI all, iI (bOr (fsP p h) (bShl 1 h)), iI ((h : Int) + 1), none] [] M Q := fun z => by
        rw [show fsP p (h + 1) = sb (fsP p h) h from if_pos (by rw [ph, Bool.and_eq_true, ahd, decide_eq_true_iff]; exact z)] at ih
        exact ih
      refine B_E_aheadOf_5 hS ?_
      rw [dE.1, a2, a3]
      refine ⟨fun c => by omega, fun _ => ⟨by omega, fun c => ⟨by omega, fun c2 => ⟨by omega, ye ⟨c2, by omega⟩⟩, fun c2 => ⟨by omega, no (fun z => c2 z.1)⟩⟩, fun c => ⟨fun c3 => ⟨by omega, fun c2 => ⟨by omega, no (fun z => by omega)⟩, fun c2 => ⟨by omega, no (fun z => c2 z.1)⟩⟩, fun c3 => ⟨fun c4 => ⟨by omega, fun c2 => ⟨by omega, no (fun z => by omega)⟩, fun c2 => ⟨by omega, no (fun z => c2 z.1)⟩⟩, fun c4 => ⟨by omega, fun c2 => ⟨by omega, ye ⟨c2, by omega⟩⟩, fun c2 => ⟨by omega, no (fun z => c2 z.1)⟩⟩⟩⟩⟩⟩
  exact key _ 0 (by omega) rfl
/-- how much later THE END is, by EVENT e behind those of a set that are ahead of it -/
def stp (n : Int → Int) (all e : Int) : Int := eS n (sb (ahS n all e) e) - eS n (ahS n all e)
theorem sp_M_step {all e : Int} (hS : RefOK M) (wc : wCal n) (ww : wWrk n) (wl : wLnk n) (we : wEvt n) (e' : gI M 81 = n) (ca : rCac n M) (a0 : 0 ≤ all ∧ all < 2147483648) (e0 : 0 ≤ e ∧ e < n 4) (hq : ∀ M', RW n M M' → Q M' (some (vI (stp n all e)))) : Wq 6 0 0 mM_step 0 [iR 80, iI all, iI e, none, none] [] M Q := by
  have h4 := we.1
  refine B_M_step_0 ?_
  unfold stp ahS at hq
  generalize hp : (fun k : Nat => hb all k && ahd n e k) = p at hq
  have key : ∀ (f : Nat) (h : Nat), (h : Int) ≤ n 4 → (n 4).toNat - h = f → Wq 6 0 0 mM_step 5 [iR 80, iI all, iI e, iI (fsP p h), iI h] [] M Q := by
    intro f
    induction f with
    | zero =>
      intro h h1 hf
      have fo := (fsP_ok p h (by omega)).1
      refine B_M_step_5 hS ?_
      rw [e']
      refine ⟨fun _ => ?_, fun c => by omega⟩
      rw [show (n 4).toNat = h by omega] at hq
      have b1 := eS_b (st := sb (fsP p h) e) ww wl we
      have b2 := eS_b (st := fsP p h) ww wl we
      refine sp_M_endBy hS wc ww wl we e' ca ⟨sb_nn fo.1 (by omega) e0.1 (by omega), ?_⟩ (fun M1 g0 _ => B_M_step_61 ?_)
      · have : sb (fsP p h) e < (2 : Int) ^ 20 := lt_of_hb (sb_nn fo.1 (by omega) e0.1 (by omega)) (fun k hk => by
          rw [sb_hb fo.1 (by omega) e0.1 (by omega), (fsP_ok p h (by omega)).2, decide_eq_false (by omega), decide_eq_false (by omega)]
          rfl)
        rw [two20] at this
        exact Int.lt_trans this (by decide)
      · refine sp_M_endBy g0.1 wc ww wl we (g0.e e') g0.2.2.2.2 (by omega) (fun M2 q0 _ => B_M_step_66 ⟨?_, hq M2 (g0.tr q0)⟩)
        unfold sb at b1
        omega
    | succ f ih =>
      intro h h1 hf
      have fo := (fsP_ok p h (by omega)).1
      have ih := ih (h + 1) (by omega) (by omega)
      rw [show (((h + 1 : Nat) : Int)) = (h : Int) + 1 by omega] at ih
      have ph : p h = (hb all h && ahd n e h) := by rw [← hp]
      have no : ¬ (hb all h = true ∧ (n (150 + 7 * (h : Int)) < n (150 + 7 * e) ∨ (n (150 + 7 * (h : Int)) = n (150 + 7 * e) ∧ (h : Int) < e))) → Wq 6 0 0 mM_step 5 [iR 80, iI all, iI e, iI (fsP p h), iI ((h : Int) + 1)] [] M Q := fun z => by
        rw [show fsP p (h + 1) = fsP p h from if_neg (by rw [ph, Bool.and_eq_true, ahd, decide_eq_true_iff]; exact z)] at ih
        exact ih
      have ye : (hb all h = true ∧ (n (150 + 7 * (h : Int)) < n (150 + 7 * e) ∨ (n (150 + 7 * (h : Int)) = n (150 + 7 * e) ∧ (h : Int) < e))) → Wq 6 0 0 mM_step 5 [iR 80, iI all, iI e, iI (bOr (fsP p h) (bShl 1 h)), iI ((h : Int) + 1)] [] M Q := fun z => by
        rw [show fsP p (h + 1) = sb (fsP p h) h from if_pos (by rw [ph, Bool.and_eq_true, ahd, decide_eq_true_iff]; exact z)] at ih
        exact ih
      have y1 : Wq 6 0 0 mM_step 5 [iR 80, iI all, iI e, iI (bOr (fsP p h) (bShl 1 h)), iI ((h : Int) + 1)] [] M Q → Wq 6 0 0 mM_step 33 [iR 80, iI all, iI e, iI (fsP p h), iI h] [vI 1, vI (fsP p h)] M Q := fun z => B_M_step_33 ⟨fun c => by omega, fun _ => ⟨by omega, z⟩⟩
      have y0 : Wq 6 0 0 mM_step 5 [iR 80, iI all, iI e, iI (fsP p h), iI ((h : Int) + 1)] [] M Q → Wq 6 0 0 mM_step 33 [iR 80, iI all, iI e, iI (fsP p h), iI h] [vI 0, vI (fsP p h)] M Q := fun z => B_M_step_33 ⟨fun _ => ⟨by omega, by rw [or_0 fo.1 (by omega)]; exact z⟩, fun c => by omega⟩
      refine B_M_step_5 hS ?_
      rw [e']
      refine ⟨fun c => by omega, fun _ => ⟨by omega, fun c => ?_, fun c => ⟨by omega, ?_⟩⟩⟩
      · refine B_M_isAhead_0 hS ?_
        rw [e']
        exact ⟨by omega, fun c2 => y1 (ye ⟨c, Or.inl c2⟩), fun c2 => ⟨by omega, fun c3 => y0 (no (fun z => by omega)), fun c3 => ⟨fun c4 => y0 (no (fun z => by omega)), fun c4 => y1 (ye ⟨c, Or.inr ⟨c3, by omega⟩⟩)⟩⟩⟩
      · rw [or_0 fo.1 (by omega)]
        exact no (fun z => c z.1)
  exact key _ 0 (by omega) rfl
/-- how much earlier THE END of a set is without a part of it -/
def lsB (n : Int → Int) (all part : Int) : Int := eS n all - eS n (bAnd all (bXor part (-1)))
theorem sp_D_lostBy {all part : Int} (hS : RefOK M) (wc : wCal n) (ww : wWrk n) (wl : wLnk n) (we : wEvt n) (d : site0 n M) (a0 : 0 ≤ all ∧ all < 2147483648) (p0 : 0 ≤ part ∧ part < 2147483648) (hq : ∀ M', CW M M' → Q M' (some (vI (lsB n all part)))) : Wq 5 0 0 mD_lostBy 0 [iR 0, iI all, iI part] [] M Q := by
  have b1 := eS_b (st := all) ww wl we
  have b2 := eS_b (st := bAnd all (bXor part (-1))) ww wl we
  refine B_D_lostBy_0 (sp_D_endOf hS wc ww wl we d a0 (fun M1 g0 _ => B_D_lostBy_5 ?_))
  refine sp_D_endOf g0.1 wc ww wl we (g0.s0 d) ⟨and_nn _ a0.1 a0.2, ?_⟩ (fun M2 q0 _ => B_D_lostBy_14 ⟨by omega, hq M2 (g0.tr q0)⟩)
  have : bAnd all (bXor part (-1)) < (2 : Int) ^ 31 := lt_of_hb (and_nn _ a0.1 a0.2) (fun k hk => by
    rw [andn_hb a0.1 a0.2 p0.1 p0.2, hb_big (n := 31) (x := all) (by rw [show (2 : Int) ^ 31 = 2147483648 by decide]; exact a0.2) hk]
    rfl)
  rw [show (2 : Int) ^ 31 = 2147483648 by decide] at this
  exact this
theorem two_e {e : Int} (e0 : 0 ≤ e) (e1 : e < 20) : (0 ≤ bShl 1 e ∧ bShl 1 e < 1048577) ∧ ∀ k : Nat, hb (bShl 1 e) k = decide ((k : Int) = e) := by
  rw [one_shl e0 (by omega)]
  refine ⟨⟨Int.le_of_lt (two_pos _), ?_⟩, fun k => ?_⟩
  · have : (2 : Int) ^ e.toNat < (2 : Int) ^ 20 := lt_of_hb (Int.le_of_lt (two_pos _)) (fun k hk => by rw [hb_two]; exact decide_eq_false (by omega))
    rw [two20] at this
    omega
  · rw [hb_two]
    exact decide_eq_decide.mpr (by omega)
theorem sb_lt {p : Nat → Bool} {h : Nat} {e : Int} (hh : h ≤ 20) (e0 : 0 ≤ e) (e1 : e < 20) : (0 ≤ sb (fsP p h) e ∧ sb (fsP p h) e < 1048576) ∧ ∀ k : Nat, hb (sb (fsP p h) e) k = (hb (fsP p h) k || decide ((k : Int) = e)) := by
  have fo := fsP_ok p h hh
  have nn := sb_nn fo.1.1 (by omega) e0 (show e < 31 by omega)
  have bb := fun k => sb_hb fo.1.1 (by omega) e0 (show e < 31 by omega) k
  refine ⟨⟨nn, ?_⟩, bb⟩
  rw [← two20]
  refine lt_of_hb nn (fun k hk => ?_)
  rw [bb, fo.2, decide_eq_false (by omega), decide_eq_false (by omega)]
  rfl
theorem sp_D_addedBy {all e : Int} (hS : RefOK M) (wc : wCal n) (ww : wWrk n) (wl : wLnk n) (we : wEvt n) (d : site0 n M) (a0 : 0 ≤ all ∧ all < 2147483648) (e0 : 0 ≤ e ∧ e < n 4) (hq : ∀ M', CW M M' → Q M' (some (vI (stp n all e)))) : Wq 6 0 0 mD_addedBy 0 [iR 0, iI e, iI all, none] [] M Q := by
  have h4 := we.1
  have te := two_e e0.1 (show e < 20 by omega)
  have sl := sb_lt (p := fun k => hb all k && ahd n e k) (h := (n 4).toNat) (by omega) e0.1 (show e < 20 by omega)
  have fo := fsP_ok (fun k => hb all k && ahd n e k) (n 4).toNat (by omega)
  refine B_D_addedBy_0 hS (sp_E_aheadOf hS we d.2.2.2.2.1 a0 e0 (B_D_addedBy_12 ?_))
  have sl2 : 0 ≤ bOr (ahS n all e) (bShl 1 e) ∧ bOr (ahS n all e) (bShl 1 e) < 2147483648 := by
    have := sl.1
    show 0 ≤ sb (fsP _ _) e ∧ sb (fsP _ _) e < _
    omega
  refine sp_D_lostBy hS wc ww wl we d sl2 (by omega) (fun M1 g0 => B_D_addedBy_25 ?_)
  have : lsB n (bOr (ahS n all e) (bShl 1 e)) (bShl 1 e) = stp n all e := by
    unfold lsB stp
    congr 1
    refine eS_st ww wl (fun k hk => ?_)
    rw [andn_hb sl2.1 sl2.2 te.1.1 (by omega), te.2, show hb (bOr (ahS n all e) (bShl 1 e)) k = _ from sl.2 k]
    show _ = hb (fsP _ _) k
    rw [fo.2]
    by_cases z : (k : Int) = e
    · rw [decide_eq_true z]
      have : ahd n e k = false := decide_eq_false (by rw [z]; omega)
      simp [this]
    · rw [decide_eq_false z]
      simp
  rw [this]
  exact hq M1 g0
def o_one (s : St) (e k : Int) : St × Int := if (0 ≤ e ∧ e < sn s 4) ∧ (0 ≤ k ∧ k ≤ 900) then (if hb (knw (sn s) k (sn s 4).toNat) e = true then (s, stp (sn s) (knw (sn s) k (sn s 4).toNat) e) else fnd s 2) else fnd s 1
theorem w_one {e k : Int} (hw : WfS s) : WfS (o_one s e k).1 := by
  unfold o_one
  split
  · split
    · exact hw
    · exact hw.fnd
  · exact hw.fnd
theorem c_one {e k : Int} (hw : WfS s) (h : CI s M) (hq : ∀ M', CI (o_one s e k).1 M' → FrC M M' → Q M' (some (vI (o_one s e k).2))) : Wq 7 0 0 mD_one 0 [iR 0, iI e, iI k, none] [] M Q := by
  obtain ⟨wd, wc, ww, wl, we, wt, wx, wh⟩ := hw.1
  have h4 := we.1
  have d := h.2.1
  have ko := (knw_ok (sn s) k (sn s 4).toNat (by omega)).1
  refine B_D_one_0 h.1 ?_
  rw [d.2.2.2.2.1.1]
  refine ⟨fun c => ⟨fun c2 => ?_, fun c2 => c_fnd h (by decide) (by decide) (by decide) (if_neg (fun z => c2 z.2)) hq⟩, fun c => c_fnd h (by decide) (by decide) (by decide) (if_neg (fun z => c z.1)) hq⟩
  rw [show o_one s e k = _ from if_pos ⟨c, c2⟩] at hq
  refine sp_E_knownOn h.1 h4 d.2.2.2.2.1 (B_D_one_39 h.1 ⟨by omega, fun c3 => ?_, fun c3 => c_fnd h (by decide) (by decide) (by decide) (if_neg c3) hq⟩)
  rw [if_pos c3] at hq
  exact sp_D_addedBy h.1 wc ww wl we d (by omega) c (fun M1 g0 => B_D_one_54 (hq M1 (g0.ci h) g0.fr))
theorem r_one {e k : Int} (hw : WfS s) (h : RI s M) (hq : ∀ M', RI (o_one s e k).1 M' → FrR M M' → Q M' (some (vI (o_one s e k).2))) : Wq 7 0 0 mM_one 0 [iR 80, iI e, iI k, none] [] M Q := by
  have e' := h.2.1
  obtain ⟨wd, wc, ww, wl, we, wt, wx, wh⟩ := hw.1
  have h4 := we.1
  have ca := h.2.2.2.2.2.2.2.2.2.2
  have ko := (knw_ok (sn s) k (sn s 4).toNat (by omega)).1
  refine B_M_one_0 h.1 ?_
  rw [e']
  refine ⟨by omega, fun c => ⟨fun c2 => ?_, fun c2 => r_fnd h (by decide) (if_neg (fun z => c2 z.2)) hq⟩, fun c => r_fnd h (by decide) (if_neg (fun z => c z.1)) hq⟩
  rw [show o_one s e k = _ from if_pos ⟨c, c2⟩] at hq
  refine sp_M_knownOn h.1 h4 e' (B_M_one_28 h.1 ⟨by omega, fun c3 => ?_, fun c3 => r_fnd h (by decide) (if_neg c3) hq⟩)
  rw [if_pos c3] at hq
  exact sp_M_step h.1 wc ww wl we e' ca (by omega) c (fun M1 g0 => B_M_one_43 (hq M1 (g0.ri h) g0.fr))
def o_without (s : St) (e k : Int) : St × Int := if (0 ≤ e ∧ e < sn s 4) ∧ (0 ≤ k ∧ k ≤ 900) then (if hb (knw (sn s) k (sn s 4).toNat) e = true then (s, lsB (sn s) (knw (sn s) k (sn s 4).toNat) (bShl 1 e)) else fnd s 2) else fnd s 1
theorem w_without {e k : Int} (hw : WfS s) : WfS (o_without s e k).1 := by
  unfold o_without
  split
  · split
    · exact hw
    · exact hw.fnd
  · exact hw.fnd
theorem c_without {e k : Int} (hw : WfS s) (h : CI s M) (hq : ∀ M', CI (o_without s e k).1 M' → FrC M M' → Q M' (some (vI (o_without s e k).2))) : Wq 6 0 0 mD_without 0 [iR 0, iI e, iI k, none] [] M Q := by
  obtain ⟨wd, wc, ww, wl, we, wt, wx, wh⟩ := hw.1
  have h4 := we.1
  have d := h.2.1
  have ko := (knw_ok (sn s) k (sn s 4).toNat (by omega)).1
  refine B_D_without_0 h.1 ?_
  rw [d.2.2.2.2.1.1]
  refine ⟨fun c => ⟨fun c2 => ?_, fun c2 => c_fnd h (by decide) (by decide) (by decide) (if_neg (fun z => c2 z.2)) hq⟩, fun c => c_fnd h (by decide) (by decide) (by decide) (if_neg (fun z => c z.1)) hq⟩
  rw [show o_without s e k = _ from if_pos ⟨c, c2⟩] at hq
  have te := two_e c.1 (show e < 20 by omega)
  refine sp_E_knownOn h.1 h4 d.2.2.2.2.1 (B_D_without_39 h.1 ⟨by omega, fun c3 => ?_, fun c3 => c_fnd h (by decide) (by decide) (by decide) (if_neg c3) hq⟩)
  rw [if_pos c3] at hq
  exact sp_D_lostBy h.1 wc ww wl we d (by omega) (by omega) (fun M1 g0 => B_D_without_56 (hq M1 (g0.ci h) g0.fr))
theorem xor_lt {x y : Int} (h0 : 0 ≤ x) (h1 : x < 2147483648) (g0 : 0 ≤ y) (g1 : y < 2147483648) : 0 ≤ bXor x y ∧ bXor x y < 2147483648 := by
  have nn : 0 ≤ bXor x y := by
    apply bv_pos
    rw [Int32.toBitVec_xor, BitVec.msb_xor, msb_of h0 h1, msb_of g0 g1]
    rfl
  have : bXor x y < (2 : Int) ^ 31 := lt_of_hb nn (fun k hk => by
    rw [xor_hb h0 h1 g0 g1, hb_big (n := 31) (x := x) (by rw [show (2 : Int) ^ 31 = 2147483648 by decide]; exact h1) hk, hb_big (n := 31) (x := y) (by rw [show (2 : Int) ^ 31 = 2147483648 by decide]; exact g1) hk]
    rfl)
  rw [show (2 : Int) ^ 31 = 2147483648 by decide] at this
  exact ⟨nn, this⟩
theorem r_without {e k : Int} (hw : WfS s) (h : RI s M) (hq : ∀ M', RI (o_without s e k).1 M' → FrR M M' → Q M' (some (vI (o_without s e k).2))) : Wq 6 0 0 mM_without 0 [iR 80, iI e, iI k, none] [] M Q := by
  have e' := h.2.1
  obtain ⟨wd, wc, ww, wl, we, wt, wx, wh⟩ := hw.1
  have h4 := we.1
  have ca := h.2.2.2.2.2.2.2.2.2.2
  have ko := (knw_ok (sn s) k (sn s 4).toNat (by omega)).1
  refine B_M_without_0 h.1 ?_
  rw [e']
  refine ⟨by omega, fun c => ⟨fun c2 => ?_, fun c2 => r_fnd h (by decide) (if_neg (fun z => c2 z.2)) hq⟩, fun c => r_fnd h (by decide) (if_neg (fun z => c z.1)) hq⟩
  rw [show o_without s e k = _ from if_pos ⟨c, c2⟩] at hq
  have te := two_e c.1 (show e < 20 by omega)
  refine sp_M_knownOn h.1 h4 e' (B_M_without_28 h.1 ⟨by omega, fun c3 => ?_, fun c3 => r_fnd h (by decide) (if_neg c3) hq⟩)
  rw [if_pos c3] at hq
  have b1 := eS_b (st := knw (sn s) k (sn s 4).toNat) ww wl we
  have b2 := eS_b (st := bXor (knw (sn s) k (sn s 4).toNat) (bShl 1 e)) ww wl we
  refine sp_M_endBy h.1 wc ww wl we e' ca (by omega) (fun M1 g0 _ => B_M_without_42 ?_)
  refine sp_M_endBy g0.1 wc ww wl we (g0.e e') g0.2.2.2.2 (xor_lt ko.1 (by omega) te.1.1 (by omega)) (fun M2 q0 _ => B_M_without_51 ⟨by omega, ?_⟩)
  have : lsB (sn s) (knw (sn s) k (sn s 4).toNat) (bShl 1 e) = eS (sn s) (knw (sn s) k (sn s 4).toNat) - eS (sn s) (bXor (knw (sn s) k (sn s 4).toNat) (bShl 1 e)) := by
    unfold lsB
    congr 1
    refine eS_st ww wl (fun j hj => ?_)
    rw [andn_hb ko.1 (by omega) te.1.1 (by omega), xor_hb ko.1 (by omega) te.1.1 (by omega), te.2]
    by_cases z : (j : Int) = e
    · rw [decide_eq_true z, z, c3]
      rfl
    · rw [decide_eq_false z]
      simp
  rw [← this]
  exact hq M2 ((g0.tr q0).ri h) (g0.tr q0).fr
def o_butFor (s : St) (c k : Int) : St × Int := if (0 ≤ c ∧ c ≤ 3) ∧ (0 ≤ k ∧ k ≤ 900) then (s, lsB (sn s) (knw (sn s) k (sn s 4).toNat) (csS (sn s) (knw (sn s) k (sn s 4).toNat) c)) else fnd s 1
theorem w_butFor {c k : Int} (hw : WfS s) : WfS (o_butFor s c k).1 := by
  unfold o_butFor
  split
  · exact hw
  · exact hw.fnd
theorem c_butFor {c k : Int} (hw : WfS s) (h : CI s M) (hq : ∀ M', CI (o_butFor s c k).1 M' → FrC M M' → Q M' (some (vI (o_butFor s c k).2))) : Wq 6 0 0 mD_butFor 0 [iR 0, iI c, iI k, none] [] M Q := by
  obtain ⟨wd, wc, ww, wl, we, wt, wx, wh⟩ := hw.1
  have h4 := we.1
  have d := h.2.1
  have ko := (knw_ok (sn s) k (sn s 4).toNat (by omega)).1
  refine B_D_butFor_0 h.1 ?_
  refine ⟨fun c1 => ⟨fun c2 => ?_, fun c2 => c_fnd h (by decide) (by decide) (by decide) (if_neg (fun z => c2 z.2)) hq⟩, fun c1 => c_fnd h (by decide) (by decide) (by decide) (if_neg (fun z => c1 z.1)) hq⟩
  rw [show o_butFor s c k = _ from if_pos ⟨c1, c2⟩] at hq
  refine sp_E_knownOn h.1 h4 d.2.2.2.2.1 (B_D_butFor_32 h.1 (sp_E_ofCause h.1 we d.2.2.2.2.1 (by omega) (B_D_butFor_47 ?_)))
  have fo := (fsP_ok (fun j : Nat => hb (knw (sn s) k (sn s 4).toNat) j && decide (sn s (149 + 7 * (j : Int)) = c)) (sn s 4).toNat (by omega)).1
  exact sp_D_lostBy h.1 wc ww wl we d (by omega) ⟨fo.1, Int.lt_trans fo.2 (by decide)⟩ (fun M1 g0 => B_D_butFor_50 (hq M1 (g0.ci h) g0.fr))
theorem r_butFor {c k : Int} (hw : WfS s) (h : RI s M) (hq : ∀ M', RI (o_butFor s c k).1 M' → FrR M M' → Q M' (some (vI (o_butFor s c k).2))) : Wq 6 0 0 mM_butFor 0 [iR 80, iI c, iI k, none, none, none] [] M Q := by
  have e' := h.2.1
  obtain ⟨wd, wc, ww, wl, we, wt, wx, wh⟩ := hw.1
  have h4 := we.1
  have ca := h.2.2.2.2.2.2.2.2.2.2
  have ko := (knw_ok (sn s) k (sn s 4).toNat (by omega)).1
  refine B_M_butFor_0 h.1 ?_
  refine ⟨fun c1 => ⟨fun c2 => ?_, fun c2 => r_fnd h (by decide) (if_neg (fun z => c2 z.2)) hq⟩, fun c1 => r_fnd h (by decide) (if_neg (fun z => c1 z.1)) hq⟩
  rw [show o_butFor s c k = _ from if_pos ⟨c1, c2⟩] at hq
  refine sp_M_knownOn h.1 h4 e' (B_M_butFor_31 ?_)
  generalize hall : knw (sn s) k (sn s 4).toNat = all at hq ko ⊢
  generalize hp : (fun j : Nat => hb all j && decide (sn s (149 + 7 * (j : Int)) ≠ c)) = p
  have fok := fun h hh => fsP_ok p h hh
  have b1 := eS_b (st := all) ww wl we
  have key : ∀ (f : Nat) (h : Nat), (h : Int) ≤ sn s 4 → (sn s 4).toNat - h = f → Wq 6 0 0 mM_butFor 38 [iR 80, iI c, iI k, iI all, iI (fsP p h), iI h] [] M Q := by
    intro f
    induction f with
    | zero =>
      intro j h1 hf
      have fo := fok j (by omega)
      have b2 := eS_b (st := fsP p j) ww wl we
      refine B_M_butFor_38 h.1 ?_
      rw [e']
      refine ⟨fun _ => ?_, fun c => by omega⟩
      refine sp_M_endBy h.1 wc ww wl we e' ca (by omega) (fun M1 g0 _ => B_M_butFor_93 ?_)
      refine sp_M_endBy g0.1 wc ww wl we (g0.e e') g0.2.2.2.2 (by omega) (fun M2 q0 _ => B_M_butFor_99 ⟨by omega, ?_⟩)
      have : lsB (sn s) all (csS (sn s) all c) = eS (sn s) all - eS (sn s) (fsP p j) := by
        unfold lsB
        congr 1
        have fo2 := csS_ok (n := sn s) (all := all) (c := c) h4.2
        refine eS_st ww wl (fun i hi => ?_)
        rw [andn_hb ko.1 (by omega) fo2.1.1 (Int.lt_trans fo2.1.2 (by decide)), fo2.2 i, fo.2, ← hp, decide_eq_true hi, decide_eq_true (show i < j by omega)]
        by_cases z : hb all i = true
        · by_cases y : sn s (149 + 7 * (i : Int)) = c
          · simp [z, y]
          · simp [z, y]
        · simp [z]
      rw [← this]
      exact hq M2 ((g0.tr q0).ri h) (g0.tr q0).fr
    | succ f ih =>
      intro j h1 hf
      have fo := (fok j (by omega)).1
      have ih := ih (j + 1) (by omega) (by omega)
      rw [show (((j + 1 : Nat) : Int)) = (j : Int) + 1 by omega] at ih
      have ph : p j = (hb all j && decide (sn s (149 + 7 * (j : Int)) ≠ c)) := by rw [← hp]
      have no : ¬ (hb all j = true ∧ sn s (149 + 7 * (j : Int)) ≠ c) → Wq 6 0 0 mM_butFor 38 [iR 80, iI c, iI k, iI all, iI (bOr (fsP p j) 0), iI ((j : Int) + 1)] [] M Q := fun z => by
        rw [or_0 fo.1 (by omega)]
        rw [show fsP p (j + 1) = fsP p j from if_neg (by rw [ph, Bool.and_eq_true, decide_eq_true_iff]; exact z)] at ih
        exact ih
      have ye : (hb all j = true ∧ sn s (149 + 7 * (j : Int)) ≠ c) → Wq 6 0 0 mM_butFor 38 [iR 80, iI c, iI k, iI all, iI (bOr (fsP p j) (bShl 1 j)), iI ((j : Int) + 1)] [] M Q := fun z => by
        rw [show fsP p (j + 1) = sb (fsP p j) j from if_pos (by rw [ph, Bool.and_eq_true, decide_eq_true_iff]; exact z)] at ih
        exact ih
      refine B_M_butFor_38 h.1 ?_
      rw [e']
      exact ⟨fun c => by omega, fun _ => ⟨by omega, fun c2 => ⟨by omega, fun c3 => ⟨by omega, no (fun z => z.2 c3)⟩, fun c3 => ⟨by omega, ye ⟨c2, c3⟩⟩⟩, fun c2 => ⟨by omega, no (fun z => c2 z.1)⟩⟩⟩
  exact key _ 0 (by omega) rfl
end OPO
