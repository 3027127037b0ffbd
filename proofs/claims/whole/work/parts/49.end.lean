/-! ===== the day at which a WORK ends, by the reference ===== -/
section END1
variable {s : St} {M : Mm} {Q : Mm → Option Mv → Prop}
theorem wk_ex {n : Int → Int} (wc : 1 ≤ n 1 ∧ n 1 ≤ 127) (d : Int) (h : 0 ≤ d) : ∃ e : Nat, e ≤ 6 ∧ wkd n (d + e) = true := by
  have hx : ∃ b : Nat, b < 7 ∧ hb (n 1) b = true := by
    have all : ∀ x : Nat, x < 128 → 1 ≤ x → ∃ b : Nat, b < 7 ∧ hb (x : Int) (b : Nat) = true := by decide
    have := all (n 1).toNat (by omega) (by omega)
    rw [show (((n 1).toNat : Nat) : Int) = n 1 by omega] at this
    exact this
  obtain ⟨b, b1, b2⟩ := hx
  refine ⟨((b : Int) - d).emod 7 |>.toNat, ?_, ?_⟩
  · have : ((b : Int) - d).emod 7 = ((b : Int) - d) % 7 := rfl
    omega
  · have e : ((b : Int) - d).emod 7 = ((b : Int) - d) % 7 := rfl
    unfold wkd
    rw [show (d + ((((b : Int) - d).emod 7).toNat : Nat)) % 7 = b by omega]
    exact b2
/-- f days are enough -/
def enough (n : Int → Int) (f : Nat) (left day : Int) : Prop := left ≤ 0 ∨ (day < 900 ∧ 900 - day + 7 * left ≤ f) ∨ (900 ≤ day ∧ ∃ e : Nat, e ≤ 6 ∧ wkd n (day + e) = true ∧ 7 * (left - 1) + e + 1 ≤ f)
theorem enough_0 {n : Int → Int} {left day : Int} (h : enough n 0 left day) : left ≤ 0 := by
  rcases h with h | h | ⟨h, e, e1, e2, e3⟩
  · exact h
  · omega
  · omega
theorem enough_1 {n : Int → Int} {f : Nat} {left day kd : Int} (wc : 1 ≤ n 1 ∧ n 1 ≤ 127) (d0 : 0 ≤ day) (h : enough n (f + 1) left day) : enough n f (if goe n kd day = true then left - 1 else left) (day + 1) := by
  rcases h with h | ⟨h1, h2⟩ | ⟨h1, e, e1, e2, e3⟩
  · refine Or.inl ?_
    split <;> omega
  · by_cases c : day + 1 < 900
    · refine Or.inr (Or.inl ⟨c, ?_⟩)
      split <;> omega
    · obtain ⟨e, e1, e2⟩ := wk_ex wc (day + 1) (by omega)
      refine Or.inr (Or.inr ⟨by omega, e, e1, e2, ?_⟩)
      split <;> omega
  · by_cases c : e = 0
    · subst c
      have g : goe n kd day = true := by
        unfold goe
        rw [decide_eq_true_iff]
        refine Or.inr (Or.inr ⟨?_, Or.inr (fun z => by omega)⟩)
        rw [show day + ((0 : Nat) : Int) = day by omega] at e2
        exact e2
      rw [if_pos g]
      obtain ⟨u, u1, u2⟩ := wk_ex wc (day + 1) (by omega)
      exact Or.inr (Or.inr ⟨by omega, u, u1, u2, by omega⟩)
    · refine Or.inr (Or.inr ⟨by omega, e - 1, by omega, ?_, ?_⟩)
      · rw [show day + 1 + ((e - 1 : Nat) : Int) = day + e by omega]
        exact e2
      · split <;> omega
theorem enough_i {n : Int → Int} {days day : Int} (wc : 1 ≤ n 1 ∧ n 1 ≤ 127) (d0 : 0 ≤ day) : enough n (7 * days + 7000).toNat days day := by
  by_cases c : days ≤ 0
  · exact Or.inl c
  · by_cases c2 : day < 900
    · exact Or.inr (Or.inl ⟨c2, by omega⟩)
    · obtain ⟨u, u1, u2⟩ := wk_ex wc day d0
      exact Or.inr (Or.inr ⟨by omega, u, u1, u2, by omega⟩)
theorem sp_M_goesOn {n : Int → Int} {w d : Int} (hS : RefOK M) (wc : wCal n) (ww : wWrk n) (e' : gI M 81 = n) (w0 : 0 ≤ w) (w1 : w < n 2) (d0 : 0 ≤ d) (hq : Q M (some (vI (if goe n (n (10 + 3 * w)) d = true then 1 else 0)))) : Wq 2 0 0 mM_goesOn 0 [iR 80, iI w, iI d, none, none, none] [] M Q := by
  have h2 := ww.1
  have c1 := wc.1
  have y : (n (10 + 3 * w) = 4 ∨ n (10 + 3 * w) = 5 ∨ (wkd n d = true ∧ (n (10 + 3 * w) ≠ 1 ∨ ¬ (d < 900 ∧ n (1033 + d) = 1)))) → Q M (some (vI 1)) := by
    intro c
    rw [if_pos (show goe n (n (10 + 3 * w)) d = true from decide_eq_true c)] at hq
    exact hq
  have no : ¬ (n (10 + 3 * w) = 4 ∨ n (10 + 3 * w) = 5 ∨ (wkd n d = true ∧ (n (10 + 3 * w) ≠ 1 ∨ ¬ (d < 900 ∧ n (1033 + d) = 1)))) → Q M (some (vI 0)) := by
    intro c
    rw [if_neg (show ¬ goe n (n (10 + 3 * w)) d = true from fun z => c (of_decide_eq_true z))] at hq
    exact hq
  refine B_M_goesOn_0 hS ?_
  rw [e', Int.tmod_eq_emod_of_nonneg d0]
  unfold wkd at y no
  refine ⟨by omega, fun k => ?_, fun k => ?_⟩
  · simp only [k, true_and] at y no
    refine ⟨fun c => ⟨by omega, fun a => y (by omega), fun a => ⟨fun b => y (by omega), fun b => ⟨fun z => y (by omega), fun z => y (by omega)⟩⟩⟩, fun c => ⟨by omega, fun r => ⟨by omega, fun a => y (by omega), fun a => ⟨fun b => y (by omega), fun b => ⟨fun z => y (by omega), fun z => y (by omega)⟩⟩⟩, fun r => ⟨by omega, fun a => y (by omega), fun a => ⟨fun b => y (by omega), fun b => ⟨fun z => y (by omega), fun z => no (by omega)⟩⟩⟩⟩⟩
  · have no' : ¬ n (10 + 3 * w) = 4 → ¬ n (10 + 3 * w) = 5 → Q M (some (vI 0)) := fun a b => no (fun z => z.elim a (fun z => z.elim b (fun z => k z.1)))
    refine ⟨fun c => ⟨by omega, fun a => y (Or.inl a), fun a => ⟨fun b => y (Or.inr (Or.inl b)), fun b => no' a b⟩⟩, fun c => ⟨by omega, fun r => ⟨by omega, fun a => y (Or.inl a), fun a => ⟨fun b => y (Or.inr (Or.inl b)), fun b => no' a b⟩⟩, fun r => ⟨by omega, fun a => y (Or.inl a), fun a => ⟨fun b => y (Or.inr (Or.inl b)), fun b => no' a b⟩⟩⟩⟩
theorem sp_M_endOf {n : Int → Int} {w frm days : Int} (hS : RefOK M) (wc : wCal n) (ww : wWrk n) (e' : gI M 81 = n) (w0 : 0 ≤ w) (w1 : w < n 2) (f0 : 0 ≤ frm) (f1 : frm ≤ 100000000) (d0 : 0 ≤ days) (d1 : days ≤ 100000) (hq : Q M (some (vI (cEnd n (n (10 + 3 * w)) frm days)))) : Wq 3 0 0 mM_endOf 0 [iR 80, iI w, iI frm, iI days, none, none, none] [] M Q := by
  have h2 := ww.1
  unfold cEnd at hq
  refine B_M_endOf_0 hS ?_
  rw [e']
  have pap : (n (10 + 3 * w) = 4 ∨ n (10 + 3 * w) = 5) → Q M (some (vI (frm + max 0 days))) := by
    intro c
    rw [if_pos c] at hq
    exact hq
  refine ⟨by omega, fun c => ⟨by omega, pap (Or.inl c)⟩, fun c => ⟨fun c2 => ?_, fun c2 => ⟨by omega, pap (Or.inr c2)⟩⟩⟩
  rw [if_neg (by omega)] at hq
  have key : ∀ (f : Nat) (left day : Int), enough n f left day → 0 ≤ day → day + f < 2147483647 → (-1 ≤ left ∧ left ≤ 100000) → Q M (some (vI (cE n (n (10 + 3 * w)) f left day))) → Wq 3 0 0 mM_endOf 33 [iR 80, iI w, iI frm, iI days, iI (n (10 + 3 * w)), iI left, iI day] [] M Q := by
    intro f
    induction f with
    | zero =>
      intro left day en b0 b1 b2 hq
      exact B_M_endOf_33 ⟨fun _ => hq, fun z => absurd (enough_0 en) z⟩
    | succ f ih =>
      intro left day en b0 b1 b2 hq
      unfold cE at hq
      refine B_M_endOf_33 ⟨fun z => ?_, fun z => ?_⟩
      · rw [if_pos z] at hq
        exact hq
      · rw [if_neg z] at hq
        have en' := enough_1 (kd := n (10 + 3 * w)) wc.1 b0 en
        refine sp_M_goesOn hS wc ww e' w0 w1 b0 (B_M_endOf_47 ?_)
        by_cases g : goe n (n (10 + 3 * w)) day = true
        · rw [if_pos g] at hq en' ⊢
          exact ⟨fun z => absurd z (by decide), fun _ => ⟨by omega, ih _ _ en' (by omega) (by omega) (by omega) hq⟩⟩
        · rw [if_neg g] at hq en' ⊢
          exact ⟨fun _ => ⟨by omega, ih _ _ en' (by omega) (by omega) (by omega) hq⟩, fun z => absurd rfl z⟩
  exact key _ days frm (enough_i wc.1 f0) f0 (by omega) (by omega) hq
end END1
