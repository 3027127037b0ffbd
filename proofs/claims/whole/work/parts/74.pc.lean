/-! ===== what a text gives depends on its bytes and on the names in it ===== -/
section PCG
variable {t t' : Int → Int} {len : Int} {nu nu' : Int → Int}
theorem pH_cg (ht : ∀ i, 0 ≤ i → i < len → t' i = t i) {s : PS} (h0 : 0 ≤ s.1) : pHere t' len s = pHere t len s := by
  unfold pHere
  split
  · rename_i c
    exact ht s.1 h0 c.2
  · rfl
theorem num_cg (ht : ∀ i, 0 ≤ i → i < len → t' i = t i) : ∀ (k : Nat) (v : Int) (s : PS), 0 ≤ s.1 → pNum t' len k v s = pNum t len k v s
  | 0, _, _, _ => rfl
  | k + 1, v, s, h0 => by
    unfold pNum
    rw [pH_cg ht h0, num_cg ht k _ (pAdv s) (by show 0 ≤ s.1 + 1; omega)]
theorem pP_cg (ht : ∀ i, 0 ≤ i → i < len → t' i = t i) (hn : ∀ i, 0 ≤ i → i < len → 0 ≤ nameF (t i) → nu' (nameF (t i)) = nu (nameF (t i))) : ∀ (f l : Nat) (x : PS × Int), 0 ≤ x.1.1 → pP t' len nu' f l x = pP t len nu f l x
  | 0, _, x, _ => by unfold pP; rfl
  | f + 1, 0, x, h => by
    unfold pP
    have m := (pP_m t len nu f 1 x).1
    rw [pP_cg ht hn f 1 x h, pP_cg ht hn f 6 _ (by omega)]
  | f + 1, 1, x, h => by
    unfold pP
    have m := (pP_m t len nu f 2 x).1
    rw [pP_cg ht hn f 2 x h, pP_cg ht hn f 7 _ (by omega)]
  | f + 1, 2, x, h => by
    unfold pP
    have m := (pP_m t len nu f 3 x).1
    dsimp only
    rw [pP_cg ht hn f 3 x h, pH_cg ht (by omega), pP_cg ht hn f 3 _ (show 0 ≤ (pP t len nu f 3 x).1.1 + 1 by omega)]
  | f + 1, 3, x, h => by
    unfold pP
    have m := (pP_m t len nu f 4 x).1
    rw [pP_cg ht hn f 4 x h, pP_cg ht hn f 8 _ (by omega)]
  | f + 1, 4, x, h => by
    unfold pP
    have m := (pP_m t len nu f 5 x).1
    rw [pP_cg ht hn f 5 x h, pP_cg ht hn f 9 _ (by omega)]
  | f + 1, 5, x, h => by
    unfold pP
    dsimp only
    have m0 := (pP_m t len nu f 0 (pAdv (pOp 1 x.1), 0)).1
    have m0 : x.1.1 + 1 ≤ (pP t len nu f 0 (pAdv (pOp 1 x.1), 0)).1.1 := m0
    have h1 : 0 ≤ ((pAdv (pOp 1 x.1), (0 : Int)) : PS × Int).1.1 := by
      show 0 ≤ x.1.1 + 1
      omega
    rw [pH_cg ht h, pP_cg ht hn f 5 _ h1, pP_cg ht hn f 0 _ h1, num_cg ht 4 0 x.1 h, pH_cg (s := pOp (-1) (pP t len nu f 0 (pAdv (pOp 1 x.1), 0)).1) ht (by show 0 ≤ (pP t len nu f 0 (pAdv (pOp 1 x.1), 0)).1.1; omega)]
    by_cases c : nameF (pHere t len x.1) < 0
    · rw [if_pos c, if_pos c]
    · have hne := nam_1 c
      have hin := pH_in t len hne
      have e : pHere t len x.1 = t x.1.1 := pH_eq t len hin.1 hin.2
      rw [if_neg c, if_neg c, e, hn x.1.1 h hin.2 (by rw [← e]; omega)]
  | f + 1, 6, x, h => by
    unfold pP
    dsimp only
    have h1 : 0 ≤ ((pAdv x.1, (0 : Int)) : PS × Int).1.1 := by
      show 0 ≤ x.1.1 + 1
      omega
    have m := ((pP_m t len nu f 1 (pAdv x.1, 0)).put 20000).1
    have m : x.1.1 + 1 ≤ (pPut 20000 (pP t len nu f 1 (pAdv x.1, 0)).1).1 := m
    rw [pH_cg ht h, pP_cg ht hn f 1 _ h1, pP_cg ht hn f 6 _ (show 0 ≤ (pPut 20000 (pP t len nu f 1 (pAdv x.1, 0)).1).1 by omega)]
  | f + 1, 7, x, h => by
    unfold pP
    dsimp only
    have h1 : 0 ≤ ((pAdv x.1, (0 : Int)) : PS × Int).1.1 := by
      show 0 ≤ x.1.1 + 1
      omega
    have m := ((pP_m t len nu f 2 (pAdv x.1, 0)).put 20001).1
    have m : x.1.1 + 1 ≤ (pPut 20001 (pP t len nu f 2 (pAdv x.1, 0)).1).1 := m
    rw [pH_cg ht h, pP_cg ht hn f 2 _ h1, pP_cg ht hn f 7 _ (show 0 ≤ (pPut 20001 (pP t len nu f 2 (pAdv x.1, 0)).1).1 by omega)]
  | f + 1, 8, x, h => by
    unfold pP
    dsimp only
    have h1 : 0 ≤ ((pAdv x.1, (0 : Int)) : PS × Int).1.1 := by
      show 0 ≤ x.1.1 + 1
      omega
    rw [pH_cg ht h, pP_cg ht hn f 4 _ h1]
    generalize (if pHere t len x.1 = 43 then (20005 : Int) else 20006) = c
    have m := ((pP_m t len nu f 4 (pAdv x.1, 0)).put c).1
    have m : x.1.1 + 1 ≤ (pPut c (pP t len nu f 4 (pAdv x.1, 0)).1).1 := m
    rw [pP_cg ht hn f 8 _ (show 0 ≤ (pPut c (pP t len nu f 4 (pAdv x.1, 0)).1).1 by omega)]
  | f + 1, 9, x, h => by
    unfold pP
    dsimp only
    have h1 : 0 ≤ ((pAdv x.1, (0 : Int)) : PS × Int).1.1 := by
      show 0 ≤ x.1.1 + 1
      omega
    rw [pH_cg ht h, pP_cg ht hn f 5 _ h1]
    generalize (if pHere t len x.1 = 42 then (20007 : Int) else 20008) = c
    have m := ((pP_m t len nu f 5 (pAdv x.1, 0)).put c).1
    have m : x.1.1 + 1 ≤ (pPut c (pP t len nu f 5 (pAdv x.1, 0)).1).1 := m
    rw [pP_cg ht hn f 9 _ (show 0 ≤ (pPut c (pP t len nu f 5 (pAdv x.1, 0)).1).1 by omega)]
  | f + 1, l + 10, x, h => by unfold pP; rfl
/-- how it is read doesn't depend on what the names stand for -/
theorem pP_nu : ∀ (f l : Nat) (s : PS) (v v' : Int), (pP t len nu' f l (s, v')).1 = (pP t len nu f l (s, v)).1
  | 0, _, s, v, v' => by unfold pP; rfl
  | f + 1, 0, s, v, v' => by
    unfold pP
    have e := pP_nu f 1 s v v'
    have := pP_nu f 6 (pP t len nu f 1 (s, v)).1 (pP t len nu f 1 (s, v)).2 (pP t len nu' f 1 (s, v')).2
    rw [← this, ← e]
  | f + 1, 1, s, v, v' => by
    unfold pP
    have e := pP_nu f 2 s v v'
    have := pP_nu f 7 (pP t len nu f 2 (s, v)).1 (pP t len nu f 2 (s, v)).2 (pP t len nu' f 2 (s, v')).2
    rw [← this, ← e]
  | f + 1, 2, s, v, v' => by
    unfold pP
    dsimp only
    rw [pP_nu f 3 s v v']
    split
    · rw [pP_nu f 3 _ 0 0]
    · exact pP_nu f 3 s v v'
  | f + 1, 3, s, v, v' => by
    unfold pP
    have e := pP_nu f 4 s v v'
    have := pP_nu f 8 (pP t len nu f 4 (s, v)).1 (pP t len nu f 4 (s, v)).2 (pP t len nu' f 4 (s, v')).2
    rw [← this, ← e]
  | f + 1, 4, s, v, v' => by
    unfold pP
    have e := pP_nu f 5 s v v'
    have := pP_nu f 9 (pP t len nu f 5 (s, v)).1 (pP t len nu f 5 (s, v)).2 (pP t len nu' f 5 (s, v')).2
    rw [← this, ← e]
  | f + 1, 5, s, v, v' => by
    unfold pP
    dsimp only
    rw [pP_nu f 5 (pAdv (pOp 1 s)) 0 0, pP_nu f 0 (pAdv (pOp 1 s)) 0 0]
    split
    · split <;> rfl
    · split
      · split
        · rfl
        · split <;> rfl
      · split
        · rfl
        · split <;> rfl
  | f + 1, 6, s, v, v' => by
    unfold pP
    dsimp only
    split
    · rw [pP_nu f 1 (pAdv s) 0 0]
      exact pP_nu f 6 _ _ _
    · rfl
  | f + 1, 7, s, v, v' => by
    unfold pP
    dsimp only
    split
    · rw [pP_nu f 2 (pAdv s) 0 0]
      exact pP_nu f 7 _ _ _
    · rfl
  | f + 1, 8, s, v, v' => by
    unfold pP
    dsimp only
    split
    · rw [pP_nu f 4 (pAdv s) 0 0]
      exact pP_nu f 8 _ _ _
    · rfl
  | f + 1, 9, s, v, v' => by
    unfold pP
    dsimp only
    split
    · rw [pP_nu f 5 (pAdv s) 0 0]
      exact pP_nu f 9 _ _ _
    · rfl
  | f + 1, l + 10, s, v, v' => by unfold pP; rfl
theorem pRun_nu : (pRun t len nu').1 = (pRun t len nu).1 := pP_nu _ _ _ _ _
theorem pRun_cg (ht : ∀ i, 0 ≤ i → i < len → t' i = t i) (hn : ∀ i, 0 ≤ i → i < len → 0 ≤ nameF (t i) → nu' (nameF (t i)) = nu (nameF (t i))) : pRun t' len nu' = pRun t len nu := pP_cg ht hn _ _ _ (Int.le_refl 0)
/-- a text that is read gives a code that isn't empty, and the code's value -/
theorem pRun_ex (h0 : 0 ≤ len) (h6 : len ≤ 60) (hr : (pRun t len nu).1.2.2.1 = false) : exL nu (pRun t len nu).1.2.2.2 [] = some [(pRun t len nu).2] := by
  obtain ⟨seg, e, q⟩ := pP_ex t len nu (2000 + len.toNat) 0 ((0, 0, false, []), 0) (by omega) h0 (by simp only [fk]; omega) hr
  have e : (pRun t len nu).1.2.2.2 = seg := e
  have q := q []
  rw [if_pos (by omega)] at q
  rw [e]
  exact q
theorem pRun_1 (h0 : 0 ≤ len) (h6 : len ≤ 60) (hr : (pRun t len nu).1.2.2.1 = false) : 1 ≤ (pRun t len nu).1.2.2.2.length ∧ ((pRun t len nu).1.2.2.2.length : Int) ≤ (pRun t len nu).1.1 := by
  have e := pRun_ex h0 h6 hr
  have k := pP_k t len nu (2000 + len.toNat) 0 ((0, 0, false, []), 0)
  have k : kk (pRun t len nu).1 ≤ 0 := k
  unfold kk at k
  refine ⟨?_, by omega⟩
  cases h : (pRun t len nu).1.2.2.2 with
  | nil =>
    rw [h] at e
    exact absurd (Option.some.inj e) (by simp)
  | cons a b => simp
end PCG
