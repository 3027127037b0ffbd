/-! ===== sheets ===== -/
section OPI
variable {s : St} {M : Mm} {Q : Mm → Option Mv → Prop}
def wS (s : St) (w z u : Int → Int) : St := (s.1, s.2.1, s.2.2.1, s.2.2.2.1, w, z, u, s.2.2.2.2.2.2.2)
theorem CI.sht {w z u : Int → Int} {M' : Mm} (h : CI s M) (hS : RefOK M') (k : ∀ b : Nat, (b < 72 ∨ 80 ≤ b) → gI M' b = gI M b) (l : gL M' = gL M) (h4 : shR (wS s w z u) 0 72 73 M' ∧ shR (wS s w z u) 1 74 75 M' ∧ shR (wS s w z u) 2 76 77 M' ∧ shR (wS s w z u) 3 78 79 M') : CI (wS s w z u) M' := by
  refine ⟨hS, ?_, fun c => ?_, ?_, ?_, h4, ?_, ?_⟩
  · have q := h.2.1
    unfold site0 at q ⊢
    simp only [l, k 1 (by decide), k 2 (by decide), k 4 (by decide), k 5 (by decide), k 6 (by decide), k 7 (by decide), k 8 (by decide), k 9 (by decide), k 10 (by decide), k 11 (by decide), k 12 (by decide), k 13 (by decide), k 14 (by decide), k 15 (by decide), k 16 (by decide), k 17 (by decide), k 18 (by decide), k 19 (by decide), k 20 (by decide), k 21 (by decide), k 22 (by decide), k 23 (by decide), k 24 (by decide), k 25 (by decide), k 26 (by decide), k 27 (by decide), k 28 (by decide), k 29 (by decide)]
    exact q
  · have q := h.2.2.1 c
    unfold site1 at q ⊢
    simp only [l, k 30 (by decide), k 31 (by decide), k 33 (by decide), k 34 (by decide), k 35 (by decide), k 36 (by decide), k 37 (by decide), k 38 (by decide), k 39 (by decide), k 40 (by decide), k 41 (by decide), k 42 (by decide), k 43 (by decide), k 44 (by decide), k 45 (by decide), k 46 (by decide), k 47 (by decide), k 48 (by decide), k 49 (by decide), k 50 (by decide), k 51 (by decide), k 52 (by decide), k 53 (by decide), k 54 (by decide), k 55 (by decide), k 56 (by decide), k 57 (by decide), k 58 (by decide)]
    exact q
  · rw [k 0 (by decide)]
    exact h.2.2.2.1
  · rw [k 69 (by decide)]
    exact h.2.2.2.2.1
  · rw [k 66 (by decide), k 67 (by decide)]
    exact h.2.2.2.2.2.2.1
  · rw [k 1001 (by decide), k 1002 (by decide)]
    exact h.2.2.2.2.2.2.2
theorem shR.same {w z u : Int → Int} {M' : Mm} {q : Int} {ob rw' : Nat} (h : shR s q ob rw' M) (e1 : gI M' ob = gI M ob) (e2 : gI M' rw' = gI M rw') (hw : w q = swi s q) (hz : z q = ssz s q) (hu : ∀ i, 0 ≤ i → i < 24 → u (24 * q + i) = snu s (24 * q + i)) : shR (wS s w z u) q ob rw' M' := by
  obtain ⟨a, b, c⟩ := h
  refine ⟨?_, ?_, fun i i0 i1 => ?_⟩
  · rw [e1]
    exact a.trans hw.symm
  · rw [e1]
    exact b.trans hz.symm
  · rw [e2]
    exact (c i i0 i1).trans (hu i i0 i1).symm
theorem RI.sht {w z u : Int → Int} {M' : Mm} (h : RI s M) (hS : RefOK M') (k : ∀ b : Nat, (b < 84 ∨ 86 < b) → b ≠ 98 → gI M' b = gI M b) (e1 : gI M' 84 = w) (e2 : gI M' 85 = z) (e3 : gI M' 86 = u) : RI (wS s w z u) M' := by
  obtain ⟨q1, q2, q3, q4, q5, q6, q7, q8, q9, q10, q11⟩ := h
  refine ⟨hS, ?_, ?_, ?_, ?_, e1, e2, e3, ?_, ?_, ?_⟩
  · rw [k 81 (by decide) (by decide)]
    exact q2
  · rw [k 82 (by decide) (by decide)]
    exact q3
  · rw [k 80 (by decide) (by decide)]
    exact q4
  · rw [k 83 (by decide) (by decide)]
    exact q5
  · rw [k 87 (by decide) (by decide)]
    exact q9
  · rw [k 80 (by decide) (by decide)]
    exact q10
  · unfold rCac
    rw [k 80 (by decide) (by decide), k 91 (by decide) (by decide), k 92 (by decide) (by decide)]
    exact q11
/-- the first j numbers of sheet q at 0 -/
def zr (f : Int → Int) (q j : Int) : Int → Int := fun x => if 24 * q ≤ x ∧ x < 24 * q + j then 0 else f x
def o_sheet (s : St) (q b k : Int) : St × Int :=
  if (0 ≤ q ∧ q ≤ 3) ∧ (b = 0 ∨ b = 8 ∨ b = 16 ∨ b = 32) then
    (if b ≠ 0 ∧ k < 0 then fnd s 3 else if b ≠ 0 ∧ 24 < k then fnd s 1 else (wS s (up (swi s) q b) (up (ssz s) q (if b = 0 then 0 else k)) (zr (snu s) q 24), 1))
  else fnd s 1
theorem w_sheet {q b k : Int} (hw : WfS s) : WfS (o_sheet s q b k).1 := by
  unfold o_sheet
  split
  · rename_i c
    split
    · exact hw.fnd
    · split
      · exact hw.fnd
      · refine ⟨hw.1, hw.2.1, hw.2.2.1, fun r r0 r1 => ?_, hw.2.2.2.2⟩
        have h4 := hw.2.2.2.1 r r0 r1
        show (up (swi s) q b r = 0 ∨ up (swi s) q b r = 8 ∨ up (swi s) q b r = 16 ∨ up (swi s) q b r = 32) ∧ (0 ≤ up (ssz s) q (if b = 0 then 0 else k) r ∧ up (ssz s) q (if b = 0 then 0 else k) r ≤ 24)
        by_cases e : r = q
        · subst e
          rw [up_s, up_s]
          refine ⟨c.2, ?_⟩
          split <;> omega
        · rw [up_n e, up_n e]
          exact h4
  · exact hw.fnd
theorem sp_S_renew_0 {b k : Int} (hS : RefOK M) (hq : ∀ M', RefOK M' → (∀ c : Nat, c ≠ 72 → c ≠ 73 → gI M' c = gI M c) → gL M' = gL M → gI M' 72 1 = b → gI M' 72 2 = k → (∀ i, 0 ≤ i → i < 24 → gI M' 73 i = 0) → Q M' none) : Wq 1 0 0 mS_renew 0 [iR 72, iI b, iI k, none] [] M Q := by
  refine B_S_renew_0 ?_
  have key : ∀ (f : Nat) (j : Nat) (M' : Mm), j ≤ 24 → 24 - j = f → RefOK M' → (∀ c : Nat, c ≠ 72 → c ≠ 73 → gI M' c = gI M c) → gL M' = gL M → gI M' 72 1 = b → gI M' 72 2 = k → (∀ i, 0 ≤ i → i < (j : Int) → gI M' 73 i = 0) → Wq 1 0 0 mS_renew 12 [iR 72, iI b, iI k, iI j] [] M' Q := by
    intro f
    induction f with
    | zero =>
      intro j M' hj hf g0 g1 g2 g3 g4 g5
      refine B_S_renew_12 g0 ⟨fun c => hq M' g0 g1 g2 g3 g4 (fun i i0 i1 => g5 i i0 (by omega)), fun c => by omega⟩
    | succ f ih =>
      intro j M' hj hf g0 g1 g2 g3 g4 g5
      refine B_S_renew_12 g0 ⟨fun c => by omega, fun c => ⟨by omega, ?_⟩⟩
      have ih := ih (j + 1) (sI M' 73 j 0) (by omega) (by omega) g0 (fun c c1 c2 => by rw [gI_ot c2]; exact g1 c c1 c2) g2 (by rw [gI_ot (by decide)]; exact g3) (by rw [gI_ot (by decide)]; exact g4) (fun i i0 i1 => by
        rw [gI_up]
        by_cases e : i = (j : Int)
        · rw [e, up_s]
        · rw [up_n e]
          exact g5 i i0 (by omega))
      rw [show (((j + 1 : Nat) : Int)) = (j : Int) + 1 by omega] at ih
      exact ih
  exact key _ 0 (sI (sI M 72 1 b) 72 2 k) (by omega) rfl hS (fun c c1 c2 => by rw [gI_ot c1, gI_ot c1]) rfl ((gI_n (Or.inr (by decide))).trans gI_s) gI_s (fun i i0 i1 => by omega)
theorem sp_S_renew_1 {b k : Int} (hS : RefOK M) (hq : ∀ M', RefOK M' → (∀ c : Nat, c ≠ 74 → c ≠ 75 → gI M' c = gI M c) → gL M' = gL M → gI M' 74 1 = b → gI M' 74 2 = k → (∀ i, 0 ≤ i → i < 24 → gI M' 75 i = 0) → Q M' none) : Wq 1 0 0 mS_renew 0 [iR 74, iI b, iI k, none] [] M Q := by
  refine B_S_renew_s1_0 ?_
  have key : ∀ (f : Nat) (j : Nat) (M' : Mm), j ≤ 24 → 24 - j = f → RefOK M' → (∀ c : Nat, c ≠ 74 → c ≠ 75 → gI M' c = gI M c) → gL M' = gL M → gI M' 74 1 = b → gI M' 74 2 = k → (∀ i, 0 ≤ i → i < (j : Int) → gI M' 75 i = 0) → Wq 1 0 0 mS_renew 12 [iR 74, iI b, iI k, iI j] [] M' Q := by
    intro f
    induction f with
    | zero =>
      intro j M' hj hf g0 g1 g2 g3 g4 g5
      refine B_S_renew_s1_12 g0 ⟨fun c => hq M' g0 g1 g2 g3 g4 (fun i i0 i1 => g5 i i0 (by omega)), fun c => by omega⟩
    | succ f ih =>
      intro j M' hj hf g0 g1 g2 g3 g4 g5
      refine B_S_renew_s1_12 g0 ⟨fun c => by omega, fun c => ⟨by omega, ?_⟩⟩
      have ih := ih (j + 1) (sI M' 75 j 0) (by omega) (by omega) g0 (fun c c1 c2 => by rw [gI_ot c2]; exact g1 c c1 c2) g2 (by rw [gI_ot (by decide)]; exact g3) (by rw [gI_ot (by decide)]; exact g4) (fun i i0 i1 => by
        rw [gI_up]
        by_cases e : i = (j : Int)
        · rw [e, up_s]
        · rw [up_n e]
          exact g5 i i0 (by omega))
      rw [show (((j + 1 : Nat) : Int)) = (j : Int) + 1 by omega] at ih
      exact ih
  exact key _ 0 (sI (sI M 74 1 b) 74 2 k) (by omega) rfl hS (fun c c1 c2 => by rw [gI_ot c1, gI_ot c1]) rfl ((gI_n (Or.inr (by decide))).trans gI_s) gI_s (fun i i0 i1 => by omega)
theorem sp_S_renew_2 {b k : Int} (hS : RefOK M) (hq : ∀ M', RefOK M' → (∀ c : Nat, c ≠ 76 → c ≠ 77 → gI M' c = gI M c) → gL M' = gL M → gI M' 76 1 = b → gI M' 76 2 = k → (∀ i, 0 ≤ i → i < 24 → gI M' 77 i = 0) → Q M' none) : Wq 1 0 0 mS_renew 0 [iR 76, iI b, iI k, none] [] M Q := by
  refine B_S_renew_s2_0 ?_
  have key : ∀ (f : Nat) (j : Nat) (M' : Mm), j ≤ 24 → 24 - j = f → RefOK M' → (∀ c : Nat, c ≠ 76 → c ≠ 77 → gI M' c = gI M c) → gL M' = gL M → gI M' 76 1 = b → gI M' 76 2 = k → (∀ i, 0 ≤ i → i < (j : Int) → gI M' 77 i = 0) → Wq 1 0 0 mS_renew 12 [iR 76, iI b, iI k, iI j] [] M' Q := by
    intro f
    induction f with
    | zero =>
      intro j M' hj hf g0 g1 g2 g3 g4 g5
      refine B_S_renew_s2_12 g0 ⟨fun c => hq M' g0 g1 g2 g3 g4 (fun i i0 i1 => g5 i i0 (by omega)), fun c => by omega⟩
    | succ f ih =>
      intro j M' hj hf g0 g1 g2 g3 g4 g5
      refine B_S_renew_s2_12 g0 ⟨fun c => by omega, fun c => ⟨by omega, ?_⟩⟩
      have ih := ih (j + 1) (sI M' 77 j 0) (by omega) (by omega) g0 (fun c c1 c2 => by rw [gI_ot c2]; exact g1 c c1 c2) g2 (by rw [gI_ot (by decide)]; exact g3) (by rw [gI_ot (by decide)]; exact g4) (fun i i0 i1 => by
        rw [gI_up]
        by_cases e : i = (j : Int)
        · rw [e, up_s]
        · rw [up_n e]
          exact g5 i i0 (by omega))
      rw [show (((j + 1 : Nat) : Int)) = (j : Int) + 1 by omega] at ih
      exact ih
  exact key _ 0 (sI (sI M 76 1 b) 76 2 k) (by omega) rfl hS (fun c c1 c2 => by rw [gI_ot c1, gI_ot c1]) rfl ((gI_n (Or.inr (by decide))).trans gI_s) gI_s (fun i i0 i1 => by omega)
theorem sp_S_renew_3 {b k : Int} (hS : RefOK M) (hq : ∀ M', RefOK M' → (∀ c : Nat, c ≠ 78 → c ≠ 79 → gI M' c = gI M c) → gL M' = gL M → gI M' 78 1 = b → gI M' 78 2 = k → (∀ i, 0 ≤ i → i < 24 → gI M' 79 i = 0) → Q M' none) : Wq 1 0 0 mS_renew 0 [iR 78, iI b, iI k, none] [] M Q := by
  refine B_S_renew_s3_0 ?_
  have key : ∀ (f : Nat) (j : Nat) (M' : Mm), j ≤ 24 → 24 - j = f → RefOK M' → (∀ c : Nat, c ≠ 78 → c ≠ 79 → gI M' c = gI M c) → gL M' = gL M → gI M' 78 1 = b → gI M' 78 2 = k → (∀ i, 0 ≤ i → i < (j : Int) → gI M' 79 i = 0) → Wq 1 0 0 mS_renew 12 [iR 78, iI b, iI k, iI j] [] M' Q := by
    intro f
    induction f with
    | zero =>
      intro j M' hj hf g0 g1 g2 g3 g4 g5
      refine B_S_renew_s3_12 g0 ⟨fun c => hq M' g0 g1 g2 g3 g4 (fun i i0 i1 => g5 i i0 (by omega)), fun c => by omega⟩
    | succ f ih =>
      intro j M' hj hf g0 g1 g2 g3 g4 g5
      refine B_S_renew_s3_12 g0 ⟨fun c => by omega, fun c => ⟨by omega, ?_⟩⟩
      have ih := ih (j + 1) (sI M' 79 j 0) (by omega) (by omega) g0 (fun c c1 c2 => by rw [gI_ot c2]; exact g1 c c1 c2) g2 (by rw [gI_ot (by decide)]; exact g3) (by rw [gI_ot (by decide)]; exact g4) (fun i i0 i1 => by
        rw [gI_up]
        by_cases e : i = (j : Int)
        · rw [e, up_s]
        · rw [up_n e]
          exact g5 i i0 (by omega))
      rw [show (((j + 1 : Nat) : Int)) = (j : Int) + 1 by omega] at ih
      exact ih
  exact key _ 0 (sI (sI M 78 1 b) 78 2 k) (by omega) rfl hS (fun c c1 c2 => by rw [gI_ot c1, gI_ot c1]) rfl ((gI_n (Or.inr (by decide))).trans gI_s) gI_s (fun i i0 i1 => by omega)
theorem c_sheet {q b k : Int} (hw : WfS s) (h : CI s M) (hq : ∀ M', CI (o_sheet s q b k).1 M' → FrC M M' → Q M' (some (vI (o_sheet s q b k).2))) : Wq 3 0 0 mD_sheet 0 [iR 0, iI q, iI b, iI k] [] M Q := by
  by_cases hr : 0 ≤ q ∧ q ≤ 3
  · have f1 : (¬ (b = 0 ∨ b = 8 ∨ b = 16 ∨ b = 32) ∨ (¬ b = 0 ∧ 24 < k)) → Q (sI M 69 1 (wr (gI M 69 1 + 1))) (some (vI (-1000001))) := by
      intro c
      refine c_fnd h (by decide) (by decide) (by decide) ?_ hq
      unfold o_sheet
      by_cases e : b = 0 ∨ b = 8 ∨ b = 16 ∨ b = 32
      · rw [if_pos ⟨hr, e⟩, if_neg (by omega), if_pos (by omega)]
      · rw [if_neg (fun z => e z.2)]
    have f3 : (b = 0 ∨ b = 8 ∨ b = 16 ∨ b = 32) ∧ ¬ b = 0 ∧ k < 0 → Q (sI M 69 3 (wr (gI M 69 3 + 1))) (some (vI (-1000003))) := by
      intro c
      refine c_fnd h (by decide) (by decide) (by decide) ?_ hq
      unfold o_sheet
      rw [if_pos ⟨hr, c.1⟩, if_pos c.2]
    have ok : (b = 0 ∨ b = 8 ∨ b = 16 ∨ b = 32) → (b = 0 ∨ (0 ≤ k ∧ k ≤ 24)) → ∀ M', CI (wS s (up (swi s) q b) (up (ssz s) q (if b = 0 then 0 else k)) (zr (snu s) q 24)) M' → FrC M M' → Q M' (some (vI 1)) := by
      intro c1 c2 M' a1 a2
      have e : o_sheet s q b k = (wS s (up (swi s) q b) (up (ssz s) q (if b = 0 then 0 else k)) (zr (snu s) q 24), 1) := by
        unfold o_sheet
        rw [if_pos ⟨hr, c1⟩, if_neg (by omega), if_neg (by omega)]
      rw [e] at hq
      exact hq M' a1 a2
    have h4 := h.2.2.2.2.2.1
    have hqq : q = 0 ∨ q = 1 ∨ q = 2 ∨ q = 3 := by omega
    rcases hqq with rfl | rfl | rfl | rfl
    · have fin : ∀ z : Int, z = (if b = 0 then 0 else k) → (b = 0 ∨ b = 8 ∨ b = 16 ∨ b = 32) → (b = 0 ∨ (0 ≤ k ∧ k ≤ 24)) → Wq 1 0 0 mS_renew 0 [iR 72, iI b, iI z, none] [] M (fun M' v => Wq 3 0 0 mD_sheet 87 [iR 0, iI 0, iI b, iI k] (v.toList ++ []) M' Q) := by
        intro z hz c1 c2
        refine sp_S_renew_0 h.1 (fun M' g0 g1 g2 g3 g4 g5 => B_D_sheet_s0_87 ?_)
        refine ok c1 c2 M' (h.sht g0 (fun b hb => g1 b (by omega) (by omega)) g2 ⟨⟨?_, ?_, fun i i0 i1 => ?_⟩, h4.2.1.same (g1 74 (by decide) (by decide)) (g1 75 (by decide) (by decide)) (up_n (by decide)) (up_n (by decide)) (fun i i0 i1 => if_neg (by omega)), h4.2.2.1.same (g1 76 (by decide) (by decide)) (g1 77 (by decide) (by decide)) (up_n (by decide)) (up_n (by decide)) (fun i i0 i1 => if_neg (by omega)), h4.2.2.2.same (g1 78 (by decide) (by decide)) (g1 79 (by decide) (by decide)) (up_n (by decide)) (up_n (by decide)) (fun i i0 i1 => if_neg (by omega))⟩) (fun a i ha => by rw [g1 a (by omega) (by omega)])
        · exact g3.trans (Eq.symm (show up (swi s) 0 b 0 = b from up_s))
        · exact g4.trans (hz.trans (Eq.symm (show up (ssz s) 0 (if b = 0 then 0 else k) 0 = (if b = 0 then 0 else k) from up_s)))
        · rw [g5 i i0 i1]
          exact (if_pos (by omega)).symm
      have fin1 : (b = 8 ∨ b = 16 ∨ b = 32) → 0 ≤ k → k ≤ 24 → _ := fun c1 c2 c3 => fin k (by rw [if_neg (by omega)]) (by omega) (by omega)
      have fin0 : b = 0 → _ := fun c1 => fin 0 (by rw [if_pos c1]) (by omega) (by omega)
      refine B_D_sheet_s0_0 h.1 ?_
      repeat' (first | exact fin1 (by omega) (by omega) (by omega) | exact fin0 (by omega) | exact f1 (by omega) | exact f3 (by omega) | (exfalso; omega) | apply And.intro | intro _)
    · have fin : ∀ z : Int, z = (if b = 0 then 0 else k) → (b = 0 ∨ b = 8 ∨ b = 16 ∨ b = 32) → (b = 0 ∨ (0 ≤ k ∧ k ≤ 24)) → Wq 1 0 0 mS_renew 0 [iR 74, iI b, iI z, none] [] M (fun M' v => Wq 3 0 0 mD_sheet 87 [iR 0, iI 1, iI b, iI k] (v.toList ++ []) M' Q) := by
        intro z hz c1 c2
        refine sp_S_renew_1 h.1 (fun M' g0 g1 g2 g3 g4 g5 => B_D_sheet_s1_87 ?_)
        refine ok c1 c2 M' (h.sht g0 (fun b hb => g1 b (by omega) (by omega)) g2 ⟨h4.1.same (g1 72 (by decide) (by decide)) (g1 73 (by decide) (by decide)) (up_n (by decide)) (up_n (by decide)) (fun i i0 i1 => if_neg (by omega)), ⟨?_, ?_, fun i i0 i1 => ?_⟩, h4.2.2.1.same (g1 76 (by decide) (by decide)) (g1 77 (by decide) (by decide)) (up_n (by decide)) (up_n (by decide)) (fun i i0 i1 => if_neg (by omega)), h4.2.2.2.same (g1 78 (by decide) (by decide)) (g1 79 (by decide) (by decide)) (up_n (by decide)) (up_n (by decide)) (fun i i0 i1 => if_neg (by omega))⟩) (fun a i ha => by rw [g1 a (by omega) (by omega)])
        · exact g3.trans (Eq.symm (show up (swi s) 1 b 1 = b from up_s))
        · exact g4.trans (hz.trans (Eq.symm (show up (ssz s) 1 (if b = 0 then 0 else k) 1 = (if b = 0 then 0 else k) from up_s)))
        · rw [g5 i i0 i1]
          exact (if_pos (by omega)).symm
      have fin1 : (b = 8 ∨ b = 16 ∨ b = 32) → 0 ≤ k → k ≤ 24 → _ := fun c1 c2 c3 => fin k (by rw [if_neg (by omega)]) (by omega) (by omega)
      have fin0 : b = 0 → _ := fun c1 => fin 0 (by rw [if_pos c1]) (by omega) (by omega)
      refine B_D_sheet_s1_0 h.1 ?_
      repeat' (first | exact fin1 (by omega) (by omega) (by omega) | exact fin0 (by omega) | exact f1 (by omega) | exact f3 (by omega) | (exfalso; omega) | apply And.intro | intro _)
    · have fin : ∀ z : Int, z = (if b = 0 then 0 else k) → (b = 0 ∨ b = 8 ∨ b = 16 ∨ b = 32) → (b = 0 ∨ (0 ≤ k ∧ k ≤ 24)) → Wq 1 0 0 mS_renew 0 [iR 76, iI b, iI z, none] [] M (fun M' v => Wq 3 0 0 mD_sheet 87 [iR 0, iI 2, iI b, iI k] (v.toList ++ []) M' Q) := by
        intro z hz c1 c2
        refine sp_S_renew_2 h.1 (fun M' g0 g1 g2 g3 g4 g5 => B_D_sheet_s2_87 ?_)
        refine ok c1 c2 M' (h.sht g0 (fun b hb => g1 b (by omega) (by omega)) g2 ⟨h4.1.same (g1 72 (by decide) (by decide)) (g1 73 (by decide) (by decide)) (up_n (by decide)) (up_n (by decide)) (fun i i0 i1 => if_neg (by omega)), h4.2.1.same (g1 74 (by decide) (by decide)) (g1 75 (by decide) (by decide)) (up_n (by decide)) (up_n (by decide)) (fun i i0 i1 => if_neg (by omega)), ⟨?_, ?_, fun i i0 i1 => ?_⟩, h4.2.2.2.same (g1 78 (by decide) (by decide)) (g1 79 (by decide) (by decide)) (up_n (by decide)) (up_n (by decide)) (fun i i0 i1 => if_neg (by omega))⟩) (fun a i ha => by rw [g1 a (by omega) (by omega)])
        · exact g3.trans (Eq.symm (show up (swi s) 2 b 2 = b from up_s))
        · exact g4.trans (hz.trans (Eq.symm (show up (ssz s) 2 (if b = 0 then 0 else k) 2 = (if b = 0 then 0 else k) from up_s)))
        · rw [g5 i i0 i1]
          exact (if_pos (by omega)).symm
      have fin1 : (b = 8 ∨ b = 16 ∨ b = 32) → 0 ≤ k → k ≤ 24 → _ := fun c1 c2 c3 => fin k (by rw [if_neg (by omega)]) (by omega) (by omega)
      have fin0 : b = 0 → _ := fun c1 => fin 0 (by rw [if_pos c1]) (by omega) (by omega)
      refine B_D_sheet_s2_0 h.1 ?_
      repeat' (first | exact fin1 (by omega) (by omega) (by omega) | exact fin0 (by omega) | exact f1 (by omega) | exact f3 (by omega) | (exfalso; omega) | apply And.intro | intro _)
    · have fin : ∀ z : Int, z = (if b = 0 then 0 else k) → (b = 0 ∨ b = 8 ∨ b = 16 ∨ b = 32) → (b = 0 ∨ (0 ≤ k ∧ k ≤ 24)) → Wq 1 0 0 mS_renew 0 [iR 78, iI b, iI z, none] [] M (fun M' v => Wq 3 0 0 mD_sheet 87 [iR 0, iI 3, iI b, iI k] (v.toList ++ []) M' Q) := by
        intro z hz c1 c2
        refine sp_S_renew_3 h.1 (fun M' g0 g1 g2 g3 g4 g5 => B_D_sheet_s3_87 ?_)
        refine ok c1 c2 M' (h.sht g0 (fun b hb => g1 b (by omega) (by omega)) g2 ⟨h4.1.same (g1 72 (by decide) (by decide)) (g1 73 (by decide) (by decide)) (up_n (by decide)) (up_n (by decide)) (fun i i0 i1 => if_neg (by omega)), h4.2.1.same (g1 74 (by decide) (by decide)) (g1 75 (by decide) (by decide)) (up_n (by decide)) (up_n (by decide)) (fun i i0 i1 => if_neg (by omega)), h4.2.2.1.same (g1 76 (by decide) (by decide)) (g1 77 (by decide) (by decide)) (up_n (by decide)) (up_n (by decide)) (fun i i0 i1 => if_neg (by omega)), ⟨?_, ?_, fun i i0 i1 => ?_⟩⟩) (fun a i ha => by rw [g1 a (by omega) (by omega)])
        · exact g3.trans (Eq.symm (show up (swi s) 3 b 3 = b from up_s))
        · exact g4.trans (hz.trans (Eq.symm (show up (ssz s) 3 (if b = 0 then 0 else k) 3 = (if b = 0 then 0 else k) from up_s)))
        · rw [g5 i i0 i1]
          exact (if_pos (by omega)).symm
      have fin1 : (b = 8 ∨ b = 16 ∨ b = 32) → 0 ≤ k → k ≤ 24 → _ := fun c1 c2 c3 => fin k (by rw [if_neg (by omega)]) (by omega) (by omega)
      have fin0 : b = 0 → _ := fun c1 => fin 0 (by rw [if_pos c1]) (by omega) (by omega)
      refine B_D_sheet_s3_0 h.1 ?_
      repeat' (first | exact fin1 (by omega) (by omega) (by omega) | exact fin0 (by omega) | exact f1 (by omega) | exact f3 (by omega) | (exfalso; omega) | apply And.intro | intro _)
  · refine B_D_sheet_0 h.1 ⟨fun c => absurd c hr, fun c => c_fnd h (by decide) (by decide) (by decide) (if_neg (fun z => hr z.1)) hq⟩
theorem r_sheet {q b k : Int} (hw : WfS s) (h : RI s M) (hq : ∀ M', RI (o_sheet s q b k).1 M' → FrR M M' → Q M' (some (vI (o_sheet s q b k).2))) : Wq 3 0 0 mM_sheet 0 [iR 80, iI q, iI b, iI k, none] [] M Q := by
  have f1 : (¬ (0 ≤ q ∧ q ≤ 3) ∨ ¬ (b = 0 ∨ b = 8 ∨ b = 16 ∨ b = 32) ∨ (¬ b = 0 ∧ 24 < k)) → Q (sI M 83 1 (wr (gI M 83 1 + 1))) (some (vI (-1000001))) := by
    intro c
    refine r_fnd h (by decide) ?_ hq
    unfold o_sheet
    by_cases e : (0 ≤ q ∧ q ≤ 3) ∧ (b = 0 ∨ b = 8 ∨ b = 16 ∨ b = 32)
    · rw [if_pos e, if_neg (by omega), if_pos (by omega)]
    · rw [if_neg e]
  have f3 : (0 ≤ q ∧ q ≤ 3) ∧ (b = 0 ∨ b = 8 ∨ b = 16 ∨ b = 32) ∧ ¬ b = 0 ∧ k < 0 → Q (sI M 83 3 (wr (gI M 83 3 + 1))) (some (vI (-1000003))) := by
    intro c
    refine r_fnd h (by decide) ?_ hq
    unfold o_sheet
    rw [if_pos ⟨c.1, c.2.1⟩, if_pos c.2.2]
  have fin : ∀ z : Int, z = (if b = 0 then 0 else k) → (0 ≤ q ∧ q ≤ 3) → (b = 0 ∨ b = 8 ∨ b = 16 ∨ b = 32) → (b = 0 ∨ (0 ≤ k ∧ k ≤ 24)) → Wq 3 0 0 mM_sheet 82 [iR 80, iI q, iI b, iI k, iI 0] [] (sI (sI M 84 q b) 85 q z) Q := by
    intro z hz c0 c1 c2
    have e : o_sheet s q b k = (wS s (up (swi s) q b) (up (ssz s) q (if b = 0 then 0 else k)) (zr (snu s) q 24), 1) := by
      unfold o_sheet
      rw [if_pos ⟨c0, c1⟩, if_neg (by omega), if_neg (by omega)]
    rw [e] at hq
    have key : ∀ (f : Nat) (j : Nat) (M' : Mm), j ≤ 24 → 24 - j = f → RefOK M' → (∀ c : Nat, c ≠ 84 → c ≠ 85 → c ≠ 86 → gI M' c = gI M c) → gL M' = gL M → gI M' 84 = up (swi s) q b → gI M' 85 = up (ssz s) q (if b = 0 then 0 else k) → gI M' 86 = zr (snu s) q j → Wq 3 0 0 mM_sheet 82 [iR 80, iI q, iI b, iI k, iI j] [] M' Q := by
      intro f
      induction f with
      | zero =>
        intro j M' hj hf g0 g1 g2 g3 g4 g5
        refine B_M_sheet_82 g0 ⟨fun c => ?_, fun c => by omega⟩
        have ej : j = 24 := by omega
        subst ej
        exact hq M' (h.sht g0 (fun b b1 b2 => g1 b (by omega) (by omega) (by omega)) g3 g4 g5) (fun a i ha => ⟨by rw [g1 a (by omega) (by omega) (by omega)], by rw [g2]⟩)
      | succ f ih =>
        intro j M' hj hf g0 g1 g2 g3 g4 g5
        refine B_M_sheet_82 g0 ⟨fun c => by omega, fun c => ⟨by omega, ?_⟩⟩
        have ih := ih (j + 1) (sI M' 86 (24 * q + j) 0) (by omega) (by omega) g0 (fun c c1 c2 c3 => by rw [gI_ot c3]; exact g1 c c1 c2 c3) g2 (by rw [gI_ot (by decide)]; exact g3) (by rw [gI_ot (by decide)]; exact g4) (by
          rw [gI_up, g5]
          funext x
          unfold up zr
          by_cases e : x = 24 * q + j
          · rw [if_pos e, if_pos (by omega)]
          · rw [if_neg e]
            by_cases e2 : 24 * q ≤ x ∧ x < 24 * q + (j : Int)
            · rw [if_pos e2, if_pos (by omega)]
            · rw [if_neg e2, if_neg (by omega)])
        rw [show (((j + 1 : Nat) : Int)) = (j : Int) + 1 by omega] at ih
        exact ih
    refine key _ 0 _ (by omega) rfl h.1 (fun c c1 c2 _ => by rw [gI_ot c2, gI_ot c1]) rfl (by rw [gI_ot (by decide), gI_up, h.2.2.2.2.2.1]) (by rw [gI_up, gI_ot (by decide), h.2.2.2.2.2.2.1, hz]) ?_
    rw [gI_ot (by decide), gI_ot (by decide), h.2.2.2.2.2.2.2.1]
    funext x
    unfold zr
    rw [if_neg (by omega)]
  have fin1 : (0 ≤ q ∧ q ≤ 3) → (b = 8 ∨ b = 16 ∨ b = 32) → 0 ≤ k → k ≤ 24 → _ := fun c0 c1 c2 c3 => fin k (by rw [if_neg (by omega)]) c0 (by omega) (by omega)
  have fin0 : (0 ≤ q ∧ q ≤ 3) → b = 0 → _ := fun c0 c1 => fin 0 (by rw [if_pos c1]) c0 (by omega) (by omega)
  refine B_M_sheet_0 h.1 ?_
  repeat' (first | exact fin1 (by omega) (by omega) (by omega) (by omega) | exact fin0 (by omega) (by omega) | exact f1 (by omega) | exact f3 (by omega) | omega | apply And.intro | intro _)
/-! put -/
def cut (w v : Int) : Int := if w = 8 then bB v else if w = 16 then bS v else v
def o_put (s : St) (q i v : Int) : St × Int :=
  if 0 ≤ q ∧ q ≤ 3 then (if swi s q = 0 then fnd s 2 else if 0 ≤ i ∧ i ≤ ssz s q - 1 then (wS s (swi s) (ssz s) (up (snu s) (24 * q + i) (cut (swi s q) v)), 1) else fnd s 1) else fnd s 1
theorem w_put {q i v : Int} (hw : WfS s) : WfS (o_put s q i v).1 := by
  unfold o_put
  repeat' split
  all_goals first | exact hw | exact hw.fnd
theorem c_put {q i v : Int} (hw : WfS s) (h : CI s M) (hq : ∀ M', CI (o_put s q i v).1 M' → FrC M M' → Q M' (some (vI (o_put s q i v).2))) : Wq 3 0 0 mD_put 0 [iR 0, iI q, iI i, iI v, none] [] M Q := by
  by_cases hr : 0 ≤ q ∧ q ≤ 3
  · have h4 := h.2.2.2.2.2.1
    have hz := hw.2.2.2.1 q hr.1 hr.2
    have hqq : q = 0 ∨ q = 1 ∨ q = 2 ∨ q = 3 := by omega
    rcases hqq with rfl | rfl | rfl | rfl
    · obtain ⟨a1, a2, a3⟩ := h4.1
      refine B_D_put_s0_0 h.1 ⟨fun _ => ?_, fun c => absurd (by decide) c⟩
      rw [a1, a2]
      refine ⟨fun c => ⟨by omega, fun c2 => ?_, fun c2 => c_fnd h (by decide) (by decide) (by decide) ((if_pos hr).trans ((if_neg c).trans (if_neg c2))) hq⟩, fun c => c_fnd h (by decide) (by decide) (by decide) ((if_pos hr).trans (if_pos c)) hq⟩
      rw [show o_put s 0 i v = _ from (if_pos hr).trans ((if_neg c).trans (if_pos c2))] at hq
      have fin : Q (sI M 73 i (cut (swi s 0) v)) (some (vI 1)) := by
        refine hq _ (h.sht h.1 (fun b hb => gI_ot (by omega)) rfl ⟨⟨?_, ?_, fun x x0 x1 => ?_⟩, h4.2.1.same (gI_ot (by decide)) (gI_ot (by decide)) rfl rfl (fun x x0 x1 => up_n (by omega)), h4.2.2.1.same (gI_ot (by decide)) (gI_ot (by decide)) rfl rfl (fun x x0 x1 => up_n (by omega)), h4.2.2.2.same (gI_ot (by decide)) (gI_ot (by decide)) rfl rfl (fun x x0 x1 => up_n (by omega))⟩) (FrC.sI (by decide))
        · rw [gI_ot (by decide)]
          exact a1
        · rw [gI_ot (by decide)]
          exact a2
        · rw [gI_up]
          show _ = up _ _ _ _
          by_cases e : x = i
          · rw [e, up_s, up_s]
          · rw [up_n e, up_n (by omega)]
            exact a3 x x0 x1
      unfold cut at fin
      refine B_S_cut_0 ?_
      rw [a1]
      refine ⟨fun d => ⟨fun d2 => ?_, fun d2 => ?_⟩, fun d => ?_⟩
      · rw [if_neg d, if_neg d2] at fin
        exact B_D_put_s0_71 ⟨by omega, fin⟩
      · rw [if_neg d, if_pos d2] at fin
        exact B_D_put_s0_71 ⟨by omega, fin⟩
      · rw [if_pos d] at fin
        exact B_D_put_s0_71 ⟨by omega, fin⟩
    · obtain ⟨a1, a2, a3⟩ := h4.2.1
      refine B_D_put_s1_0 h.1 ⟨fun _ => ?_, fun c => absurd (by decide) c⟩
      rw [a1, a2]
      refine ⟨fun c => ⟨by omega, fun c2 => ?_, fun c2 => c_fnd h (by decide) (by decide) (by decide) ((if_pos hr).trans ((if_neg c).trans (if_neg c2))) hq⟩, fun c => c_fnd h (by decide) (by decide) (by decide) ((if_pos hr).trans (if_pos c)) hq⟩
      rw [show o_put s 1 i v = _ from (if_pos hr).trans ((if_neg c).trans (if_pos c2))] at hq
      have fin : Q (sI M 75 i (cut (swi s 1) v)) (some (vI 1)) := by
        refine hq _ (h.sht h.1 (fun b hb => gI_ot (by omega)) rfl ⟨h4.1.same (gI_ot (by decide)) (gI_ot (by decide)) rfl rfl (fun x x0 x1 => up_n (by omega)), ⟨?_, ?_, fun x x0 x1 => ?_⟩, h4.2.2.1.same (gI_ot (by decide)) (gI_ot (by decide)) rfl rfl (fun x x0 x1 => up_n (by omega)), h4.2.2.2.same (gI_ot (by decide)) (gI_ot (by decide)) rfl rfl (fun x x0 x1 => up_n (by omega))⟩) (FrC.sI (by decide))
        · rw [gI_ot (by decide)]
          exact a1
        · rw [gI_ot (by decide)]
          exact a2
        · rw [gI_up]
          show _ = up _ _ _ _
          by_cases e : x = i
          · rw [e, up_s, up_s]
          · rw [up_n e, up_n (by omega)]
            exact a3 x x0 x1
      unfold cut at fin
      refine B_S_cut_s1_0 ?_
      rw [a1]
      refine ⟨fun d => ⟨fun d2 => ?_, fun d2 => ?_⟩, fun d => ?_⟩
      · rw [if_neg d, if_neg d2] at fin
        exact B_D_put_s1_71 ⟨by omega, fin⟩
      · rw [if_neg d, if_pos d2] at fin
        exact B_D_put_s1_71 ⟨by omega, fin⟩
      · rw [if_pos d] at fin
        exact B_D_put_s1_71 ⟨by omega, fin⟩
    · obtain ⟨a1, a2, a3⟩ := h4.2.2.1
      refine B_D_put_s2_0 h.1 ⟨fun _ => ?_, fun c => absurd (by decide) c⟩
      rw [a1, a2]
      refine ⟨fun c => ⟨by omega, fun c2 => ?_, fun c2 => c_fnd h (by decide) (by decide) (by decide) ((if_pos hr).trans ((if_neg c).trans (if_neg c2))) hq⟩, fun c => c_fnd h (by decide) (by decide) (by decide) ((if_pos hr).trans (if_pos c)) hq⟩
      rw [show o_put s 2 i v = _ from (if_pos hr).trans ((if_neg c).trans (if_pos c2))] at hq
      have fin : Q (sI M 77 i (cut (swi s 2) v)) (some (vI 1)) := by
        refine hq _ (h.sht h.1 (fun b hb => gI_ot (by omega)) rfl ⟨h4.1.same (gI_ot (by decide)) (gI_ot (by decide)) rfl rfl (fun x x0 x1 => up_n (by omega)), h4.2.1.same (gI_ot (by decide)) (gI_ot (by decide)) rfl rfl (fun x x0 x1 => up_n (by omega)), ⟨?_, ?_, fun x x0 x1 => ?_⟩, h4.2.2.2.same (gI_ot (by decide)) (gI_ot (by decide)) rfl rfl (fun x x0 x1 => up_n (by omega))⟩) (FrC.sI (by decide))
        · rw [gI_ot (by decide)]
          exact a1
        · rw [gI_ot (by decide)]
          exact a2
        · rw [gI_up]
          show _ = up _ _ _ _
          by_cases e : x = i
          · rw [e, up_s, up_s]
          · rw [up_n e, up_n (by omega)]
            exact a3 x x0 x1
      unfold cut at fin
      refine B_S_cut_s2_0 ?_
      rw [a1]
      refine ⟨fun d => ⟨fun d2 => ?_, fun d2 => ?_⟩, fun d => ?_⟩
      · rw [if_neg d, if_neg d2] at fin
        exact B_D_put_s2_71 ⟨by omega, fin⟩
      · rw [if_neg d, if_pos d2] at fin
        exact B_D_put_s2_71 ⟨by omega, fin⟩
      · rw [if_pos d] at fin
        exact B_D_put_s2_71 ⟨by omega, fin⟩
    · obtain ⟨a1, a2, a3⟩ := h4.2.2.2
      refine B_D_put_s3_0 h.1 ⟨fun _ => ?_, fun c => absurd (by decide) c⟩
      rw [a1, a2]
      refine ⟨fun c => ⟨by omega, fun c2 => ?_, fun c2 => c_fnd h (by decide) (by decide) (by decide) ((if_pos hr).trans ((if_neg c).trans (if_neg c2))) hq⟩, fun c => c_fnd h (by decide) (by decide) (by decide) ((if_pos hr).trans (if_pos c)) hq⟩
      rw [show o_put s 3 i v = _ from (if_pos hr).trans ((if_neg c).trans (if_pos c2))] at hq
      have fin : Q (sI M 79 i (cut (swi s 3) v)) (some (vI 1)) := by
        refine hq _ (h.sht h.1 (fun b hb => gI_ot (by omega)) rfl ⟨h4.1.same (gI_ot (by decide)) (gI_ot (by decide)) rfl rfl (fun x x0 x1 => up_n (by omega)), h4.2.1.same (gI_ot (by decide)) (gI_ot (by decide)) rfl rfl (fun x x0 x1 => up_n (by omega)), h4.2.2.1.same (gI_ot (by decide)) (gI_ot (by decide)) rfl rfl (fun x x0 x1 => up_n (by omega)), ⟨?_, ?_, fun x x0 x1 => ?_⟩⟩) (FrC.sI (by decide))
        · rw [gI_ot (by decide)]
          exact a1
        · rw [gI_ot (by decide)]
          exact a2
        · rw [gI_up]
          show _ = up _ _ _ _
          by_cases e : x = i
          · rw [e, up_s, up_s]
          · rw [up_n e, up_n (by omega)]
            exact a3 x x0 x1
      unfold cut at fin
      refine B_S_cut_s3_0 ?_
      rw [a1]
      refine ⟨fun d => ⟨fun d2 => ?_, fun d2 => ?_⟩, fun d => ?_⟩
      · rw [if_neg d, if_neg d2] at fin
        exact B_D_put_s3_71 ⟨by omega, fin⟩
      · rw [if_neg d, if_pos d2] at fin
        exact B_D_put_s3_71 ⟨by omega, fin⟩
      · rw [if_pos d] at fin
        exact B_D_put_s3_71 ⟨by omega, fin⟩
  · exact B_D_put_0 h.1 ⟨fun c => absurd c hr, fun c => c_fnd h (by decide) (by decide) (by decide) (if_neg hr) hq⟩
theorem r_put {q i v : Int} (hw : WfS s) (h : RI s M) (hq : ∀ M', RI (o_put s q i v).1 M' → FrR M M' → Q M' (some (vI (o_put s q i v).2))) : Wq 3 0 0 mM_put3 0 [iR 80, iI q, iI i, iI v] [] M Q := by
  obtain ⟨q1, q2, q3, q4, q5, q6, q7, q8, q9, q10, q11⟩ := h
  have h : RI s M := ⟨q1, q2, q3, q4, q5, q6, q7, q8, q9, q10, q11⟩
  refine B_M_put3_0 h.1 ?_
  rw [q6, q7]
  refine ⟨fun hr => ⟨by omega, fun c => ?_, fun c => r_fnd h (by decide) ((if_pos hr).trans (if_pos c)) hq⟩, fun hr => r_fnd h (by decide) (if_neg hr) hq⟩
  have hz := hw.2.2.2.1 q hr.1 hr.2
  refine ⟨by omega, fun c2 => ?_, fun c2 => r_fnd h (by decide) ((if_pos hr).trans ((if_neg c).trans (if_neg c2))) hq⟩
  rw [show o_put s q i v = _ from (if_pos hr).trans ((if_neg c).trans (if_pos c2))] at hq
  have fin : Q (sI M 86 (24 * q + i) (cut (swi s q) v)) (some (vI 1)) := hq _ (h.sht h.1 (fun b b1 b2 => gI_ot (by omega)) (by rw [gI_ot (by decide)]; exact q6) (by rw [gI_ot (by decide)]; exact q7) (by rw [gI_up, q8])) (FrR.sI (by decide) (by decide))
  unfold cut at fin
  refine ⟨fun d => ⟨fun d2 => ⟨by omega, ?_⟩, fun d2 => ⟨by omega, ?_⟩⟩, fun d => ⟨by omega, ?_⟩⟩
  · rw [if_neg d, if_neg d2] at fin
    exact fin
  · rw [if_neg d, if_pos d2] at fin
    exact fin
  · rw [if_pos d] at fin
    exact fin
end OPI
