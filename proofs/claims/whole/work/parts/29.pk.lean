/-! ===== the reader's code isn't longer than what it read ===== -/
def kk (s : PS) : Int := (s.2.2.2.length : Int) - s.1
theorem kk_adv (s : PS) : kk (pAdv s) = kk s - 1 := by unfold kk pAdv; dsimp only; omega
theorem kk_flt (s : PS) : kk (pFlt s) = kk s := rfl
theorem kk_op (d : Int) (s : PS) : kk (pOp d s) = kk s := rfl
theorem kk_put (c : Int) (s : PS) : kk (pPut c s) ≤ kk s + 1 := by
  unfold kk pPut
  split
  · omega
  · simp
    omega
theorem kk_num (t : Int → Int) (len : Int) : ∀ (k : Nat) (v : Int) (s : PS), kk (pNum t len k v s).1 ≤ kk s
  | 0, _, _ => Int.le_refl _
  | k + 1, v, s => by
    unfold pNum
    split
    · have h := kk_num t len k (10 * v + pHere t len s - 48) (pAdv s)
      rw [kk_adv] at h
      omega
    · exact Int.le_refl _
theorem kk_num1 (t : Int → Int) (len : Int) (k : Nat) (v : Int) (s : PS) (h : 48 ≤ pHere t len s ∧ pHere t len s ≤ 57) : kk (pNum t len (k + 1) v s).1 ≤ kk s - 1 := by
  unfold pNum
  rw [if_pos h]
  have h := kk_num t len k (10 * v + pHere t len s - 48) (pAdv s)
  rw [kk_adv] at h
  exact h
theorem pP_k (t : Int → Int) (len : Int) (nu : Int → Int) : ∀ (f l : Nat) (x : PS × Int), kk (pP t len nu f l x).1 ≤ kk x.1
  | 0, _, _ => by unfold pP; exact Int.le_refl _
  | f + 1, 0, x => by
    unfold pP
    exact Int.le_trans (pP_k t len nu f 6 _) (pP_k t len nu f 1 x)
  | f + 1, 1, x => by
    unfold pP
    exact Int.le_trans (pP_k t len nu f 7 _) (pP_k t len nu f 2 x)
  | f + 1, 2, x => by
    unfold pP
    have h1 := pP_k t len nu f 3 x
    dsimp only
    split
    · have h2 := pP_k t len nu f 3 (pAdv (pP t len nu f 3 x).1, 0)
      have h3 := kk_adv (pP t len nu f 3 x).1
      refine Int.le_trans (kk_put _ _) ?_
      dsimp only at h2
      omega
    · exact h1
  | f + 1, 3, x => by
    unfold pP
    exact Int.le_trans (pP_k t len nu f 8 _) (pP_k t len nu f 4 x)
  | f + 1, 4, x => by
    unfold pP
    exact Int.le_trans (pP_k t len nu f 9 _) (pP_k t len nu f 5 x)
  | f + 1, 5, x => by
    unfold pP
    dsimp only
    split
    · split
      · exact Int.le_refl _
      · have h2 := pP_k t len nu f 5 (pAdv (pOp 1 x.1), 0)
        dsimp only at h2
        rw [kk_adv, kk_op] at h2
        refine Int.le_trans (kk_put _ _) ?_
        rw [kk_op]
        omega
    · split
      · split
        · exact Int.le_refl _
        · have h2 := pP_k t len nu f 0 (pAdv (pOp 1 x.1), 0)
          dsimp only at h2
          rw [kk_adv, kk_op] at h2
          split
          · show kk (pAdv (pOp (-1) _)) ≤ _
            rw [kk_adv, kk_op]
            omega
          · show kk (pFlt (pOp (-1) _)) ≤ _
            rw [kk_flt, kk_op]
            omega
      · split
        · rename_i hd
          have h2 := kk_num1 t len 3 0 x.1 hd
          refine Int.le_trans (kk_put _ _) ?_
          have e : pNum t len (3 + 1) 0 x.1 = pNum t len 4 0 x.1 := rfl
          rw [e] at h2
          omega
        · split
          · exact Int.le_refl _
          · show kk (pAdv (pPut _ x.1)) ≤ _
            rw [kk_adv]
            have := kk_put (10000 + nameF (pHere t len x.1)) x.1
            omega
  | f + 1, 6, x => by
    unfold pP
    split
    · have h2 := pP_k t len nu f 1 (pAdv x.1, 0)
      dsimp only at h2
      rw [kk_adv] at h2
      refine Int.le_trans (pP_k t len nu f 6 _) ?_
      refine Int.le_trans (kk_put _ _) ?_
      omega
    · exact Int.le_refl _
  | f + 1, 7, x => by
    unfold pP
    split
    · have h2 := pP_k t len nu f 2 (pAdv x.1, 0)
      dsimp only at h2
      rw [kk_adv] at h2
      refine Int.le_trans (pP_k t len nu f 7 _) ?_
      refine Int.le_trans (kk_put _ _) ?_
      omega
    · exact Int.le_refl _
  | f + 1, 8, x => by
    unfold pP
    dsimp only
    split
    · have h2 := pP_k t len nu f 4 (pAdv x.1, 0)
      dsimp only at h2
      rw [kk_adv] at h2
      refine Int.le_trans (pP_k t len nu f 8 _) ?_
      refine Int.le_trans (kk_put _ _) ?_
      omega
    · exact Int.le_refl _
  | f + 1, 9, x => by
    unfold pP
    dsimp only
    split
    · have h2 := pP_k t len nu f 5 (pAdv x.1, 0)
      dsimp only at h2
      rw [kk_adv] at h2
      refine Int.le_trans (pP_k t len nu f 9 _) ?_
      refine Int.le_trans (kk_put _ _) ?_
      omega
    · exact Int.le_refl _
  | f + 1, l + 10, x => by unfold pP; exact Int.le_refl _
theorem Tx.sz {t : Int → Int} {len size : Int} {cd : Int → Int} (h : Tx t len cd size) : 0 ≤ size ∧ size ≤ 60 := by
  obtain ⟨h1, h2, h3, h4, -⟩ := h
  have hk := pP_k t len (fun _ => 0) (2000 + len.toNat) 0 ((0, 0, false, []), 0)
  have e : pP t len (fun _ => 0) (2000 + len.toNat) 0 ((0, 0, false, []), 0) = pRun t len (fun _ => 0) := rfl
  rw [e] at hk
  unfold kk at hk
  simp only [List.length_nil] at hk
  omega
section CG2
variable {n n' : Int → Int}
theorem wCls.cg (h : wCls n) (e5 : n' 5 = n 5) (e : ∀ i, 288 ≤ i → i < 1018 → n' i = n i) : wCls n' := by
  unfold wCls at *
  rw [e5]
  refine ⟨h.1, fun c h1 h2 => ?_⟩
  obtain ⟨a, b, t, len, hT⟩ := h.2 c h1 h2
  have hz := hT.sz
  refine ⟨by rw [e (288 + 73 * c) (by omega) (by omega)]; exact a, by rw [e (289 + 73 * c) (by omega) (by omega)]; exact b, t, len, ?_⟩
  rw [e (290 + 73 * c) (by omega) (by omega)]
  exact hT.cg (fun k hk => e (291 + 73 * c + (k : Int)) (by omega) (by omega))
theorem cCls.cg {tx cs cu cf : Int → Int} {cc : Int} (h : cCls n tx cs cu cf cc) (hn : n 5 ≤ 10) (e5 : n' 5 = n 5) (e : ∀ i, 288 ≤ i → i < 1018 → n' i = n i) : cCls n' tx cs cu cf cc := by
  unfold cCls at *
  rw [e5]
  refine ⟨h.1, fun c h1 h2 => ?_⟩
  obtain ⟨a, b, hT⟩ := h.2 c h1 h2
  have hz := hT.sz
  refine ⟨by rw [e (288 + 73 * c) (by omega) (by omega)]; exact a, by rw [e (289 + 73 * c) (by omega) (by omega)]; exact b, ?_⟩
  rw [e (290 + 73 * c) (by omega) (by omega)]
  exact hT.cg (fun k hk => e (291 + 73 * c + (k : Int)) (by omega) (by omega))
end CG2
