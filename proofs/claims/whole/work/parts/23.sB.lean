/-! ===== contracts of the helpers (2) ===== -/
section SB
variable {M : Mm} {Q : Mm → Option Mv → Prop}
theorem sp_D_isDay {x : Int} (ht : 0 ≤ x ∧ x ≤ 900 → Q M (some (vI 1))) (hf : ¬ (0 ≤ x ∧ x ≤ 900) → Q M (some (vI 0))) : Wq 2 0 0 mD_isDay 0 [iI x] [] M Q := B_D_isDay_0 ⟨ht, hf⟩
theorem sp_D_isKind {x : Int} (ht : 0 ≤ x ∧ x ≤ 5 → Q M (some (vI 1))) (hf : ¬ (0 ≤ x ∧ x ≤ 5) → Q M (some (vI 0))) : Wq 2 0 0 mD_isKind 0 [iI x] [] M Q := B_D_isKind_0 ⟨ht, hf⟩
theorem sp_D_isCause {x : Int} (ht : 0 ≤ x ∧ x ≤ 3 → Q M (some (vI 1))) (hf : ¬ (0 ≤ x ∧ x ≤ 3) → Q M (some (vI 0))) : Wq 2 0 0 mD_isCause 0 [iI x] [] M Q := B_D_isCause_0 ⟨ht, hf⟩
theorem sp_D_isSheet {x : Int} (ht : 0 ≤ x ∧ x ≤ 3 → Q M (some (vI 1))) (hf : ¬ (0 ≤ x ∧ x ≤ 3) → Q M (some (vI 0))) : Wq 2 0 0 mD_isSheet 0 [iI x] [] M Q := B_D_isSheet_0 ⟨ht, hf⟩
theorem sp_M_isSheet {x : Int} (ht : 0 ≤ x ∧ x ≤ 3 → Q M (some (vI 1))) (hf : ¬ (0 ≤ x ∧ x ≤ 3) → Q M (some (vI 0))) : Wq 2 0 0 mM_isSheet 0 [iI x] [] M Q := B_M_isSheet_0 ⟨ht, hf⟩
theorem sp_M_isDay {x : Int} (ht : 0 ≤ x ∧ x ≤ 900 → Q M (some (vI 1))) (hf : ¬ (0 ≤ x ∧ x ≤ 900) → Q M (some (vI 0))) : Wq 2 0 0 mM_isDay 0 [iI x] [] M Q := B_M_isDay_0 ⟨ht, hf⟩
theorem sp_D_finding {x k : Int} (hk : x = -1000000 - k) (h1 : 1 ≤ k) (h2 : k ≤ 5) (hS : RefOK M) (h : Q (sI M 69 k (wr (gI M 69 k + 1))) (some (vI x))) : Wq 2 0 0 mD_finding 0 [iR 0, iI x, none] [] M Q := by
  have e : wr (-1000000 - x) = k := by rw [wr_eq (by omega) (by omega)]; omega
  refine B_D_finding_0 hS ?_
  rw [e]
  exact ⟨fun _ => ⟨⟨by omega, by omega⟩, h⟩, fun q => absurd ⟨h1, h2⟩ q⟩
theorem sp_W_linked {x y : Int} (hS : RefOK M) (hs : (0 ≤ y ∧ y < 16) ∧ (0 ≤ gI M 9 y ∧ gI M 9 y < 2147483648 ∧ 0 ≤ x ∧ x < 32)) (ht : hb (gI M 9 y) x = true → Q M (some (vI 1))) (hf : ¬ (hb (gI M 9 y) x = true) → Q M (some (vI 0))) : Wq 2 0 0 mW_linked 0 [iR 5, iI x, iI y] [] M Q := B_W_linked_0 hS ⟨hs, ht, hf⟩
theorem sp_M_is {x c : Int} (hc : 0 ≤ c ∧ c < 1993) (hS : RefOK M) (hs : 0 ≤ gI M 81 c) (ht : 0 ≤ x ∧ x < gI M 81 c → Q M (some (vI 1))) (hf : ¬ (0 ≤ x ∧ x < gI M 81 c) → Q M (some (vI 0))) : Wq 2 0 0 mM_is 0 [iR 80, iI x, iI c] [] M Q := by
  refine wq_okM (fun hM => ?_)
  have h := (hM.2.1 81 c).2
  exact B_M_is_0 hS ⟨⟨hc, by omega⟩, fun q => ht ⟨q.1, by omega⟩, fun q => hf (fun z => q ⟨z.1, by omega⟩)⟩
theorem lShl_1 : ∀ n : Nat, n < 21 → lShl 1 (n : Int) = (2 : Int) ^ n ∧ (2 : Int) ^ n < 2000000 := by decide
theorem sp_M_areEvents {x : Int} (hS : RefOK M) (hc : 0 ≤ gI M 81 4 ∧ gI M 81 4 ≤ 20) (ht : 0 ≤ x ∧ x < (2 : Int) ^ (gI M 81 4).toNat → Q M (some (vI 1))) (hf : ¬ (0 ≤ x ∧ x < (2 : Int) ^ (gI M 81 4).toNat) → Q M (some (vI 0))) : Wq 2 0 0 mM_areEvents 0 [iR 80, iI x] [] M Q := by
  have h1 := lShl_1 (gI M 81 4).toNat (by omega)
  have e : ((gI M 81 4).toNat : Int) = gI M 81 4 := by omega
  rw [e] at h1
  have h2 := two_pos (gI M 81 4).toNat
  refine B_M_areEvents_0 hS ?_
  rw [h1.1, wl_eq (by omega) (by omega)]
  exact ⟨fun q => ht ⟨q.1, by omega⟩, fun q => hf (fun z => q ⟨z.1, by omega⟩)⟩
end SB
