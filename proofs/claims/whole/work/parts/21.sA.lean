/-! ===== contracts of the helpers (1) ===== -/
section SA
variable {M : Mm} {Q : Mm → Option Mv → Prop}
theorem sp_D_within {x a b : Int} (ht : a ≤ x ∧ x ≤ b → Q M (some (vI 1))) (hf : ¬ (a ≤ x ∧ x ≤ b) → Q M (some (vI 0))) : Wq 1 0 0 mD_within 0 [iI x, iI a, iI b] [] M Q :=
  B_D_within_0 ⟨fun h => hf (by omega), fun h => ⟨fun h2 => hf (by omega), fun h2 => ht (by omega)⟩⟩
theorem sp_D_holds {x k : Int} (hs : 0 ≤ x ∧ x < 2147483648 ∧ 0 ≤ k ∧ k < 32) (ht : hb x k = true → Q M (some (vI 1))) (hf : ¬ (hb x k = true) → Q M (some (vI 0))) : Wq 1 0 0 mD_holds 0 [iI x, iI k] [] M Q := by
  have e := bit_rd hs.1 hs.2.1 hs.2.2.1 hs.2.2.2
  refine B_D_holds_0 ⟨fun h => hf (fun q => ?_), fun h => ht ?_⟩
  · rw [e, if_pos q] at h
    exact absurd h (by decide)
  · by_cases q : hb x k = true
    · exact q
    · rw [e, if_neg q] at h
      exact absurd rfl h
theorem sp_M_has {x k : Int} (hs : 0 ≤ x ∧ x < 2147483648 ∧ 0 ≤ k ∧ k < 32) (ht : hb x k = true → Q M (some (vI 1))) (hf : ¬ (hb x k = true) → Q M (some (vI 0))) : Wq 1 0 0 mM_has 0 [iI x, iI k] [] M Q := by
  have e := bit_rd hs.1 hs.2.1 hs.2.2.1 hs.2.2.2
  refine B_M_has_0 ⟨fun h => hf (fun q => ?_), fun h => ht ?_⟩
  · rw [e, if_pos q] at h
    exact absurd rfl h
  · by_cases q : hb x k = true
    · exact q
    · rw [e, if_neg q] at h
      exact absurd h (by decide)
theorem sp_D_isUse {x : Int} (ht : x = 0 ∨ x = 1 → Q M (some (vI 1))) (hf : ¬ (x = 0 ∨ x = 1) → Q M (some (vI 0))) : Wq 1 0 0 mD_isUse 0 [iI x] [] M Q :=
  B_D_isUse_0 ⟨fun h => ht (by omega), fun h => ⟨fun h2 => hf (by omega), fun h2 => ht (by omega)⟩⟩
theorem sp_M_isWidth {x : Int} (ht : x = 8 ∨ x = 16 ∨ x = 32 → Q M (some (vI 1))) (hf : ¬ (x = 8 ∨ x = 16 ∨ x = 32) → Q M (some (vI 0))) : Wq 1 0 0 mM_isWidth 0 [iI x] [] M Q :=
  B_M_isWidth_0 ⟨fun h => ht (by omega), fun h => ⟨fun h2 => ht (by omega), fun h2 => ⟨fun h3 => hf (by omega), fun h3 => ht (by omega)⟩⟩⟩
theorem sp_W_has {x : Int} (ht : 0 ≤ x ∧ x < gI M 5 6 → Q M (some (vI 1))) (hf : ¬ (0 ≤ x ∧ x < gI M 5 6) → Q M (some (vI 0))) : Wq 1 0 0 mW_has 0 [iR 5, iI x] [] M Q :=
  B_W_has_0 ⟨fun h => hf (by omega), fun h => ⟨fun h2 => hf (by omega), fun h2 => ht (by omega)⟩⟩
theorem sp_E_has {x : Int} (ht : 0 ≤ x ∧ x < gI M 12 7 → Q M (some (vI 1))) (hf : ¬ (0 ≤ x ∧ x < gI M 12 7) → Q M (some (vI 0))) : Wq 1 0 0 mE_has 0 [iR 12, iI x] [] M Q :=
  B_E_has_0 ⟨fun h => hf (by omega), fun h => ⟨fun h2 => hf (by omega), fun h2 => ht (by omega)⟩⟩
theorem lCmp_lt {x y : Int} : lCmp x y < 0 ↔ x < y := by
  unfold lCmp
  split
  · simp_all
  · split <;> simp_all
theorem lCmp_gt {x y : Int} : 0 < lCmp x y ↔ y < x := by
  unfold lCmp
  split
  · constructor <;> intro <;> omega
  · split <;> constructor <;> intro <;> omega
theorem sp_M_within {x a b : Int} (ht : a ≤ x ∧ x ≤ b → Q M (some (vI 1))) (hf : ¬ (a ≤ x ∧ x ≤ b) → Q M (some (vI 0))) : Wq 1 0 0 mM_within 0 [iL x, none, iL a, none, iL b, none] [] M Q := by
  refine B_M_within_0 ?_
  rw [lCmp_lt, lCmp_gt]
  exact ⟨fun h => hf (by omega), fun h => ⟨fun h2 => hf (by omega), fun h2 => ht (by omega)⟩⟩
theorem sp_M_kindOf {w : Int} (hS : RefOK M) (hs : 0 ≤ 10 + 3 * w ∧ 10 + 3 * w < 1993) (h : Q M (some (vI (gI M 81 (10 + 3 * w))))) : Wq 1 0 0 mM_kindOf 0 [iR 80, iI w] [] M Q := B_M_kindOf_0 hS ⟨hs, h⟩
theorem sp_M_longOf {w : Int} (hS : RefOK M) (hs : 0 ≤ 11 + 3 * w ∧ 11 + 3 * w < 1993) (h : Q M (some (vI (gI M 81 (11 + 3 * w))))) : Wq 1 0 0 mM_longOf 0 [iR 80, iI w] [] M Q := B_M_longOf_0 hS ⟨hs, h⟩
theorem sp_M_event2 {e f i : Int} (hi : 148 + 7 * e + f = i) (hS : RefOK M) (hs : 0 ≤ i ∧ i < 1993) (h : Q M (some (vI (gI M 81 i)))) : Wq 1 0 0 mM_event2 0 [iR 80, iI e, iI f] [] M Q := by
  subst hi
  exact B_M_event2_0 hS ⟨hs, h⟩
def aboveF (k : Int) : Int := if k = 3 ∨ k = 5 then 2 else if k = 0 then -1 else 0
theorem sp_M_above {k : Int} (h : Q M (some (vI (aboveF k)))) : Wq 1 0 0 mM_above 0 [iI k] [] M Q := by
  unfold aboveF at h
  refine B_M_above_0 ⟨fun q => ?_, fun q => ⟨fun q2 => ⟨fun q3 => ?_, fun q3 => ?_⟩, fun q2 => ?_⟩⟩
  · rwa [if_pos (Or.inl q)] at h
  · rwa [if_neg (by omega), if_neg q3] at h
  · rwa [if_neg (by omega), if_pos q3] at h
  · rwa [if_pos (Or.inr q2)] at h
theorem sp_M_finding {x k : Int} (hk : x = -1000000 - k) (h1 : 1 ≤ k) (h2 : k ≤ 5) (hS : RefOK M) (h : Q (sI M 83 k (wr (gI M 83 k + 1))) (some (vI x))) : Wq 1 0 0 mM_finding 0 [iR 80, iI x] [] M Q := by
  have e : wr (-1000000 - x) = k := by rw [wr_eq (by omega) (by omega)]; omega
  refine B_M_finding_0 hS ?_
  rw [e]
  exact ⟨⟨by omega, by omega⟩, h⟩
theorem shr_0 {x k : Int} (hx : 0 ≤ x) (hx2 : x < 2147483648) (hk : 0 ≤ k) (hk2 : k < 32) : bShr x k = 0 ↔ x < (2 : Int) ^ k.toNat := by
  obtain ⟨n, rfl⟩ : ∃ n : Nat, k = n := ⟨k.toNat, by omega⟩
  obtain ⟨a, rfl⟩ : ∃ a : Nat, x = a := ⟨x.toNat, by omega⟩
  unfold bShr
  have h1 := pk_shrN (n := a) (by omega) (Int32.ofInt (n : Int) &&& 31) n (sh_amt n (by omega))
  have hle : a / 2 ^ n ≤ a := Nat.div_le_self a _
  rw [show Int32.ofInt (a : Int) = nI a from rfl, h1, nI_toInt (by omega), show ((n : Int).toNat) = n from rfl]
  have h2 : ((2 ^ n : Nat) : Int) = (2 : Int) ^ n := by simp
  rw [← h2]
  constructor
  · intro q
    have : a / 2 ^ n = 0 := by omega
    have := (Nat.div_eq_zero_iff_lt (Nat.two_pow_pos n)).mp this
    omega
  · intro q
    have : a < 2 ^ n := by omega
    have := (Nat.div_eq_zero_iff_lt (Nat.two_pow_pos n)).mpr this
    omega
theorem sp_E_hold {x : Int} (hx : x < 2147483648) (hc : 0 ≤ gI M 12 7 ∧ gI M 12 7 < 32) (ht : 0 ≤ x ∧ x < (2 : Int) ^ (gI M 12 7).toNat → Q M (some (vI 1))) (hf : ¬ (0 ≤ x ∧ x < (2 : Int) ^ (gI M 12 7).toNat) → Q M (some (vI 0))) : Wq 1 0 0 mE_hold 0 [iR 12, iI x] [] M Q := by
  refine B_E_hold_0 ⟨fun h => hf (fun q => by omega), fun h => ⟨fun h2 => hf (fun q => ?_), fun h2 => ht ⟨by omega, ?_⟩⟩⟩
  · exact h2 ((shr_0 q.1 hx hc.1 hc.2).mpr q.2)
  · exact (shr_0 (by omega) hx hc.1 hc.2).mp h2
end SA
