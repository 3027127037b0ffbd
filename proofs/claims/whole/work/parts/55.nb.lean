/-! ===== needBy ===== -/
section NB
variable {n : Int → Int} {M : Mm} {Q : Mm → Option Mv → Prop}
theorem mrs_b {st w : Int} (we : wEvt n) : ∀ j : Nat, (j : Int) ≤ n 4 → 0 ≤ mrs n st w j ∧ mrs n st w j ≤ 30 * j
  | 0, _ => ⟨Int.le_refl _, Int.le_refl _⟩
  | j + 1, h => by
    have := mrs_b (st := st) (w := w) we j (by omega)
    have hj := (we.2 j (by omega) (by omega)).2.2.2.1
    unfold mrs
    split <;> omega
theorem sp_M_needBy {st : Int} (hS : RefOK M) (ww : wWrk n) (we : wEvt n) (e' : gI M 81 = n) (s0 : 0 ≤ st ∧ st < 2147483648) (hq : ∀ M', RefOK M' → (∀ b : Nat, b ≠ 88 → gI M' b = gI M b) → gL M' = gL M → (∀ w, 0 ≤ w → w < n 2 → gI M' 88 w = mrs n st w (n 4).toNat) → Q M' none) : Wq 2 0 0 mM_needBy 0 [iR 80, iI st, none] [] M Q := by
  have h2 := ww.1
  have h4 := we.1
  refine B_M_needBy_0 ?_
  have lp2 : ∀ (f : Nat) (e : Nat) (M' : Mm), (e : Int) ≤ n 4 → (n 4).toNat - e = f → RefOK M' → (∀ b : Nat, b ≠ 88 → gI M' b = gI M b) → gL M' = gL M → (∀ w, 0 ≤ w → w < n 2 → gI M' 88 w = mrs n st w e) → Wq 2 0 0 mM_needBy 27 [iR 80, iI st, iI e] [] M' Q := by
    intro f
    induction f with
    | zero =>
      intro e M' h1 hf g0 g1 g2 g3
      refine B_M_needBy_27 g0 ?_
      rw [g1 81 (by decide), e']
      refine ⟨fun c => hq M' g0 g1 g2 ?_, fun c => by omega⟩
      rw [show (n 4).toNat = e by omega]
      exact g3
    | succ f ih =>
      intro e M' h1 hf g0 g1 g2 g3
      obtain ⟨v1, v2, v3, v4, -⟩ := we.2 e (by omega) (by omega)
      have mb := mrs_b (st := st) (w := n (148 + 7 * (e : Int))) we e (by omega)
      have ih := fun M'' => ih (e + 1) M'' (by omega) (by omega)
      rw [show (((e + 1 : Nat) : Int)) = (e : Int) + 1 by omega] at ih
      refine B_M_needBy_27 g0 ?_
      rw [g1 81 (by decide), e', g3 _ v1.1 v1.2]
      refine ⟨fun c => by omega, fun c => ⟨by omega, fun c2 => ⟨by omega, ih _ g0 (fun b hb => by rw [gI_ot hb]; exact g1 b hb) g2 (fun w w0 w1 => ?_)⟩, fun c2 => ⟨by omega, ih _ g0 (fun b hb => by rw [gI_ot hb]; exact g1 b hb) g2 (fun w w0 w1 => ?_)⟩⟩⟩
      · rw [gI_up]
        show _ = mrs n st w e + (if n (148 + 7 * (e : Int)) = w ∧ hb st e = true then n (151 + 7 * (e : Int)) else 0)
        by_cases q : w = n (148 + 7 * (e : Int))
        · rw [← q, up_s, if_pos ⟨rfl, c2⟩]
        · rw [up_n q, if_neg (fun z => q z.1.symm), g3 w w0 w1, Int.add_zero]
      · rw [gI_up]
        show _ = mrs n st w e + (if n (148 + 7 * (e : Int)) = w ∧ hb st e = true then n (151 + 7 * (e : Int)) else 0)
        rw [if_neg (fun z => c2 z.2), Int.add_zero]
        by_cases q : w = n (148 + 7 * (e : Int))
        · rw [← q, up_s]
        · rw [up_n q, g3 w w0 w1]
  have lp1 : ∀ (f : Nat) (j : Nat) (M' : Mm), (j : Int) ≤ n 2 → (n 2).toNat - j = f → RefOK M' → (∀ b : Nat, b ≠ 88 → gI M' b = gI M b) → gL M' = gL M → (∀ w, 0 ≤ w → w < (j : Int) → gI M' 88 w = 0) → Wq 2 0 0 mM_needBy 2 [iR 80, iI st, iI j] [] M' Q := by
    intro f
    induction f with
    | zero =>
      intro j M' h1 hf g0 g1 g2 g3
      refine B_M_needBy_2 g0 ?_
      rw [g1 81 (by decide), e']
      exact ⟨fun c => lp2 _ 0 M' (by omega) rfl g0 g1 g2 (fun w w0 w1 => g3 w w0 (by omega)), fun c => by omega⟩
    | succ f ih =>
      intro j M' h1 hf g0 g1 g2 g3
      have r := ih (j + 1) (sI M' 88 j 0) (by omega) (by omega) g0 (fun b hb => by rw [gI_ot hb]; exact g1 b hb) g2 (fun w w0 w1 => by
        rw [gI_up]
        by_cases q : w = (j : Int)
        · rw [q, up_s]
        · rw [up_n q]
          exact g3 w w0 (by omega))
      rw [show (((j + 1 : Nat) : Int)) = (j : Int) + 1 by omega] at r
      refine B_M_needBy_2 g0 ?_
      rw [g1 81 (by decide), e']
      exact ⟨fun c => by omega, fun c => ⟨by omega, r⟩⟩
  exact lp1 _ 0 M (by omega) rfl hS (fun _ _ => rfl) rfl (fun w w0 w1 => by omega)
end NB
