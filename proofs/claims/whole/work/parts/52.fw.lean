/-! ===== Days.firstWith, Days.endOf ===== -/
section FW
variable {n : Int → Int} {M : Mm} {Q : Mm → Option Mv → Prop}
theorem dcn_s (k : Nat) : dcn n (k + 1) = dcn n k + (if wkd n k = true ∧ n (1033 + (k : Int)) ≠ 1 then 1 else 0) := rfl
theorem dcn_b : ∀ k : Nat, 0 ≤ dcn n k ∧ dcn n k ≤ k
  | 0 => ⟨Int.le_refl _, Int.le_refl _⟩
  | k + 1 => by
    have := dcn_b k
    rw [dcn_s]
    split <;> omega
theorem dcn_m (a : Nat) : ∀ d : Nat, dcn n a ≤ dcn n (a + d)
  | 0 => Int.le_refl _
  | d + 1 => by
    have := dcn_m a d
    rw [show a + (d + 1) = (a + d) + 1 from rfl, dcn_s]
    split <;> omega
theorem dcn_mo {a b : Nat} (h : a ≤ b) : dcn n a ≤ dcn n b := by
  have := dcn_m (n := n) a (b - a)
  rw [show a + (b - a) = b by omega] at this
  exact this
theorem sp_Y_firstWith {ready : Nat} {goal : Int} (hS : RefOK M) (hd : ∀ d : Nat, d ≤ 900 → gI M 4 d = dcn n d) (r1 : ready < 900) (g0 : dcn n ready < goal) (g1 : goal ≤ dcn n 900) (hq : ∀ r : Nat, ready < r → r ≤ 900 → goal ≤ dcn n r → (∀ d : Nat, d < r → dcn n d < goal) → Q M (some (vI r))) : Wq 1 0 0 mY_firstWith 0 [iR 2, iI goal, iI ready, none, none, none, none] [] M Q := by
  have key : ∀ (f low high i : Nat), high - low ≤ f → ready < low → low ≤ high → high ≤ 900 → i + (high - low) ≤ 899 → goal ≤ dcn n high → dcn n (low - 1) < goal → Wq 1 0 0 mY_firstWith 12 [iR 2, iI goal, iI ready, iI low, iI high, iI i, none] [] M Q := by
    intro f
    induction f with
    | zero =>
      intro low high i hf a1 a2 a3 a4 a5 a6
      refine B_Y_firstWith_12 hS ⟨fun z => by omega, fun _ => ⟨fun _ => hq high (by omega) a3 a5 (fun d hd' => ?_), fun z => by omega⟩⟩
      have := dcn_mo (n := n) (show d ≤ low - 1 by omega)
      omega
    | succ f ih =>
      intro low high i hf a1 a2 a3 a4 a5 a6
      refine B_Y_firstWith_12 hS ⟨fun z => by omega, fun _ => ⟨fun z => hq high (by omega) a3 a5 (fun d hd' => ?_), fun z => ?_⟩⟩
      · have := dcn_mo (n := n) (show d ≤ low - 1 by omega)
        omega
      · obtain ⟨m, hm⟩ : ∃ m : Nat, m = (low + high) / 2 := ⟨_, rfl⟩
        have e : Int.tdiv ((low : Int) + high) 2 = (m : Int) := by
          rw [Int.tdiv_eq_ediv_of_nonneg (by omega)]
          omega
        rw [e, hd m (by omega)]
        refine ⟨by omega, fun c => ⟨by omega, ?_⟩, fun c => ⟨by omega, ?_⟩⟩
        · have r := ih (m + 1) high (i + 1) (by omega) (by omega) (by omega) a3 (by omega) a5 (by rw [show m + 1 - 1 = m from rfl]; exact c)
          rw [show (((m + 1 : Nat) : Int)) = (m : Int) + 1 by omega, show (((i + 1 : Nat) : Int)) = (i : Int) + 1 by omega] at r
          exact r
        · have r := ih low m (i + 1) (by omega) a1 (by omega) (by omega) (by omega) (by omega) a6
          rw [show (((i + 1 : Nat) : Int)) = (i : Int) + 1 by omega] at r
          exact r
  refine B_Y_firstWith_0 ⟨by omega, ?_⟩
  have r := key _ (ready + 1) 900 0 (Nat.le_refl _) (by omega) (by omega) (by omega) (by omega) g1 (by rw [show ready + 1 - 1 = ready from rfl]; exact g0)
  rw [show (((ready + 1 : Nat) : Int)) = (ready : Int) + 1 by omega] at r
  exact r
theorem goe_1 {k : Nat} (h : k < 900) : goe n 1 k = true ↔ (wkd n k = true ∧ n (1033 + (k : Int)) ≠ 1) := by
  unfold goe
  rw [decide_eq_true_iff]
  constructor
  · rintro (z | z | ⟨z1, z2⟩)
    · omega
    · omega
    · refine ⟨z1, fun y => ?_⟩
      rcases z2 with z2 | z2
      · exact z2 rfl
      · exact z2 ⟨by omega, y⟩
  · rintro ⟨z1, z2⟩
    exact Or.inr (Or.inr ⟨z1, Or.inr (fun y => z2 y.2)⟩)
theorem cE_d1 {k f : Nat} {goal : Int} (h : k < 900) (hl : dcn n k < goal) : cE n 1 (f + 1) (goal - dcn n k) k = cE n 1 f (goal - dcn n (k + 1)) ((k + 1 : Nat) : Int) := by
  rw [show cE n 1 (f + 1) (goal - dcn n k) k = if goal - dcn n k ≤ 0 then (k : Int) else cE n 1 f (if goe n 1 k = true then goal - dcn n k - 1 else goal - dcn n k) ((k : Int) + 1) from rfl, if_neg (by omega), dcn_s, show (((k + 1 : Nat) : Int)) = (k : Int) + 1 by omega]
  by_cases c : wkd n k = true ∧ n (1033 + (k : Int)) ≠ 1
  · rw [if_pos ((goe_1 h).mpr c), if_pos c]
    congr 1
    omega
  · rw [if_neg (fun z => c ((goe_1 h).mp z)), if_neg c]
    congr 1
    omega
/-- to the first day with so many ahead of it -/
theorem cE_dr {goal : Int} {r : Nat} (hr : r ≤ 900) (h1 : goal ≤ dcn n r) (h2 : ∀ d : Nat, d < r → dcn n d < goal) : ∀ (j k f : Nat), k + j = r → j ≤ f → cE n 1 f (goal - dcn n k) k = r
  | 0, k, f, hk, _ => by
    have : k = r := by omega
    subst this
    exact cE_0 (by omega) f
  | j + 1, k, f, hk, hf => by
    obtain ⟨g, rfl⟩ : ∃ g : Nat, f = g + 1 := ⟨f - 1, by omega⟩
    rw [cE_d1 (by omega) (h2 k (by omega))]
    exact cE_dr hr h1 h2 j (k + 1) g (by omega) (by omega)
/-- past the last of those days -/
theorem cE_dp {goal : Int} (h1 : dcn n 900 < goal) : ∀ (j k f : Nat), k + j = 900 → cE n 1 (f + j) (goal - dcn n k) k = cE n 1 f (goal - dcn n 900) ((900 : Nat) : Int)
  | 0, k, f, hk => by
    have : k = 900 := by omega
    subst this
    rfl
  | j + 1, k, f, hk => by
    have := dcn_mo (n := n) (show k ≤ 900 by omega)
    rw [show f + (j + 1) = (f + j) + 1 from rfl, cE_d1 (by omega) (by omega)]
    exact cE_dp h1 j (k + 1) f (by omega)
end FW
