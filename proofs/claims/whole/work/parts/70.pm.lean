/-! ===== the reader goes ahead, and closes what it opens ===== -/
section PMN
variable (t : Int → Int) (len : Int) (nu : Int → Int)
/-- ahead, and as many are open -/
def Gt (s s' : PS) : Prop := s.1 ≤ s'.1 ∧ s'.2.1 = s.2.1
theorem Gt.rf (s : PS) : Gt s s := ⟨Int.le_refl _, rfl⟩
theorem Gt.tr {a b c : PS} (h : Gt a b) (g : Gt b c) : Gt a c := ⟨Int.le_trans h.1 g.1, g.2.trans h.2⟩
theorem Gt.adv {a b : PS} (h : Gt (pAdv a) b) : Gt a b := ⟨by have : a.1 + 1 ≤ b.1 := h.1; omega, h.2⟩
theorem Gt.put {a b : PS} (c : Int) (h : Gt a b) : Gt a (pPut c b) := by
  unfold pPut
  split
  · exact h
  · exact h
theorem Gt.flt {a b : PS} (h : Gt a b) : Gt a (pFlt b) := h
theorem Gt.to {a b : PS} (h : Gt a b) : Gt a (pAdv b) := ⟨by have := h.1; show a.1 ≤ b.1 + 1; omega, h.2⟩
theorem Gt.num : ∀ (k : Nat) (v : Int) (s : PS), Gt s (pNum t len k v s).1
  | 0, _, s => Gt.rf s
  | k + 1, v, s => by
    unfold pNum
    split
    · exact (Gt.num k _ (pAdv s)).adv
    · exact Gt.rf s
theorem pP_m : ∀ (f l : Nat) (x : PS × Int), Gt x.1 (pP t len nu f l x).1
  | 0, _, x => by unfold pP; exact Gt.rf _
  | f + 1, 0, x => by
    unfold pP
    exact (pP_m f 1 x).tr (pP_m f 6 _)
  | f + 1, 1, x => by
    unfold pP
    exact (pP_m f 2 x).tr (pP_m f 7 _)
  | f + 1, 2, x => by
    unfold pP
    dsimp only
    split
    · exact (pP_m f 3 x).tr ((pP_m f 3 (pAdv (pP t len nu f 3 x).1, 0)).adv.put _)
    · exact pP_m f 3 x
  | f + 1, 3, x => by
    unfold pP
    exact (pP_m f 4 x).tr (pP_m f 8 _)
  | f + 1, 4, x => by
    unfold pP
    exact (pP_m f 5 x).tr (pP_m f 9 _)
  | f + 1, 5, x => by
    unfold pP
    dsimp only
    have cl : ∀ l, Gt x.1 (pOp (-1) (pP t len nu f l (pAdv (pOp 1 x.1), 0)).1) := fun l => by
      have h := pP_m f l (pAdv (pOp 1 x.1), 0)
      have h1 : x.1.1 + 1 ≤ (pP t len nu f l (pAdv (pOp 1 x.1), 0)).1.1 := h.1
      have h2 : (pP t len nu f l (pAdv (pOp 1 x.1), 0)).1.2.1 = x.1.2.1 + 1 := h.2
      refine ⟨?_, ?_⟩
      · show x.1.1 ≤ (pP t len nu f l (pAdv (pOp 1 x.1), 0)).1.1
        omega
      · show (pP t len nu f l (pAdv (pOp 1 x.1), 0)).1.2.1 + -1 = x.1.2.1
        omega
    split
    · split
      · exact Gt.rf _
      · exact (cl 5).put _
    · split
      · split
        · exact Gt.rf _
        · split
          · exact (cl 0).to
          · exact (cl 0).flt
      · split
        · exact (Gt.num t len 4 0 x.1).put _
        · split
          · exact Gt.rf _
          · exact ((Gt.rf x.1).put _).to
  | f + 1, 6, x => by
    unfold pP
    split
    · exact ((pP_m f 1 (pAdv x.1, 0)).adv.put 20000).tr (pP_m f 6 _)
    · exact Gt.rf _
  | f + 1, 7, x => by
    unfold pP
    split
    · exact ((pP_m f 2 (pAdv x.1, 0)).adv.put 20001).tr (pP_m f 7 _)
    · exact Gt.rf _
  | f + 1, 8, x => by
    unfold pP
    dsimp only
    split
    · exact ((pP_m f 4 (pAdv x.1, 0)).adv.put _).tr (pP_m f 8 _)
    · exact Gt.rf _
  | f + 1, 9, x => by
    unfold pP
    dsimp only
    split
    · exact ((pP_m f 5 (pAdv x.1, 0)).adv.put _).tr (pP_m f 9 _)
    · exact Gt.rf _
  | f + 1, l + 10, x => by unfold pP; exact Gt.rf _
theorem pH_in {s : PS} (h : pHere t len s ≠ -1) : s.2.2.1 = false ∧ s.1 < len := by
  unfold pHere at h
  split at h
  · assumption
  · exact absurd rfl h
theorem pH_eq {s : PS} (h : s.2.2.1 = false) (h2 : s.1 < len) : pHere t len s = t s.1 := if_pos ⟨h, h2⟩
theorem pH_no {s : PS} (h : ¬ (s.2.2.1 = false ∧ s.1 < len)) : pHere t len s = -1 := if_neg h
end PMN
