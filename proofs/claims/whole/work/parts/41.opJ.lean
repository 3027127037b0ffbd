/-! ===== move ===== -/
section OPJ
variable {s : St} {M : Mm} {Q : Mm → Option Mv → Prop}
def mv (f : Int → Int) (a b k : Int) : Int → Int := fun x => if b ≤ x ∧ x < b + k then f (a + (x - b)) else f x
def o_move (s : St) (q i r j k : Int) : St × Int :=
  if (0 ≤ q ∧ q ≤ 3) ∧ 0 ≤ r ∧ r ≤ 3 then
    (if swi s q = 0 ∨ swi s r = 0 then fnd s 2
    else if swi s q = swi s r then
      (if (0 ≤ k ∧ 0 ≤ i ∧ 0 ≤ j) ∧ i + k ≤ ssz s q ∧ j + k ≤ ssz s r then (wS s (swi s) (ssz s) (mv (snu s) (24 * q + i) (24 * r + j) k), k) else fnd s 1)
    else fnd s 5)
  else fnd s 1
theorem w_move {q i r j k : Int} (hw : WfS s) : WfS (o_move s q i r j k).1 := by
  unfold o_move
  repeat' split
  all_goals first | exact hw | exact hw.fnd
theorem move_1 {q i r j k : Int} (hr : (0 ≤ q ∧ q ≤ 3) ∧ 0 ≤ r ∧ r ≤ 3) (h1 : ¬ (swi s q = 0 ∨ swi s r = 0)) (h2 : swi s q = swi s r) (h3 : ¬ ((0 ≤ k ∧ 0 ≤ i ∧ 0 ≤ j) ∧ i + k ≤ ssz s q ∧ j + k ≤ ssz s r)) : o_move s q i r j k = fnd s 1 := (if_pos hr).trans ((if_neg h1).trans ((if_pos h2).trans (if_neg h3)))
theorem c_move_00 {i j k : Int} (hw : WfS s) (h : CI s M) (hk : -2147483648 ≤ k ∧ k < 2147483648) (hq : ∀ M', CI (o_move s 0 i 0 j k).1 M' → FrC M M' → Q M' (some (vI (o_move s 0 i 0 j k).2))) : Wq 3 0 0 mD_move 0 [iR 0, iI 0, iI i, iI 0, iI j, iI k, none, none] [] M Q := by
  have h4 := h.2.2.2.2.2.1
  have zq := (hw.2.2.2.1 0 (by decide) (by decide)).2
  have zr' := (hw.2.2.2.1 0 (by decide) (by decide)).2
  have hr : (0 ≤ (0 : Int) ∧ (0 : Int) ≤ 3) ∧ 0 ≤ (0 : Int) ∧ (0 : Int) ≤ 3 := by decide
  obtain ⟨a1, a2, a3⟩ := h4.1
  obtain ⟨b1, b2, b3⟩ := h4.1
  have f1 : ∀ (c1 : ¬ (swi s 0 = 0 ∨ swi s 0 = 0)) (c2 : swi s 0 = swi s 0), ¬ ((0 ≤ k ∧ 0 ≤ i ∧ 0 ≤ j) ∧ i + k ≤ ssz s 0 ∧ j + k ≤ ssz s 0) → Q (sI M 69 1 (wr (gI M 69 1 + 1))) (some (vI (-1000001))) := fun c1 c2 c3 => c_fnd h (by decide) (by decide) (by decide) (move_1 hr c1 c2 c3) hq
  refine B_D_move_s00_0 h.1 ?_
  rw [a1, a2]
  refine ⟨fun _ => ⟨fun _ => ⟨fun c1 => c_fnd h (by decide) (by decide) (by decide) ((if_pos hr).trans (if_pos (Or.inl c1))) hq, fun c1 => ⟨fun c2 => ⟨fun c3 => ⟨fun c4 => f1 (not_or.mpr ⟨c1, c2⟩) c3 (by omega), fun c4 => ⟨by omega, fun c5 => ⟨fun c6 => ⟨by omega, ?_⟩, fun c6 => f1 (not_or.mpr ⟨c1, c2⟩) c3 (by omega)⟩, fun c5 => f1 (not_or.mpr ⟨c1, c2⟩) c3 (by omega)⟩⟩, fun c3 => c_fnd h (by decide) (by decide) (by decide) ((if_pos hr).trans ((if_neg (not_or.mpr ⟨c1, c2⟩)).trans (if_neg c3))) hq⟩, fun c2 => c_fnd h (by decide) (by decide) (by decide) ((if_pos hr).trans (if_pos (Or.inr c2))) hq⟩⟩, fun c => absurd (by decide) c⟩, fun c => absurd (by decide) c⟩
  rw [show o_move s 0 i 0 j k = _ from (if_pos hr).trans ((if_neg (not_or.mpr ⟨c1, c2⟩)).trans ((if_pos c3).trans (if_pos (by omega))))] at hq
  refine hq _ (h.sht h.1 (fun b hb => gI_cO (by omega)) rfl ⟨⟨by rw [gI_cO (by decide)]; exact b1, by rw [gI_cO (by decide)]; exact b2, fun x x0 x1 => ?_⟩, h4.2.1.same (gI_cO (by decide)) (gI_cO (by decide)) rfl rfl (fun x x0 x1 => if_neg (by omega)), h4.2.2.1.same (gI_cO (by decide)) (gI_cO (by decide)) rfl rfl (fun x x0 x1 => if_neg (by omega)), h4.2.2.2.same (gI_cO (by decide)) (gI_cO (by decide)) rfl rfl (fun x x0 x1 => if_neg (by omega))⟩) (fun a x ha => by rw [gI_cO (by omega)])
  show _ = mv _ _ _ _ _
  unfold mv
  by_cases e : j ≤ x ∧ x < j + k
  · rw [gI_cI e.1 e.2, if_pos (by omega), a3 _ (by omega) (by omega)]
    congr 1
    omega
  · rw [show gI (cI M 73 i 73 j k) 73 x = gI M 73 x from if_neg (fun z => e z.2), if_neg (by omega)]
    exact b3 x x0 x1
theorem c_move_01 {i j k : Int} (hw : WfS s) (h : CI s M) (hk : -2147483648 ≤ k ∧ k < 2147483648) (hq : ∀ M', CI (o_move s 0 i 1 j k).1 M' → FrC M M' → Q M' (some (vI (o_move s 0 i 1 j k).2))) : Wq 3 0 0 mD_move 0 [iR 0, iI 0, iI i, iI 1, iI j, iI k, none, none] [] M Q := by
  have h4 := h.2.2.2.2.2.1
  have zq := (hw.2.2.2.1 0 (by decide) (by decide)).2
  have zr' := (hw.2.2.2.1 1 (by decide) (by decide)).2
  have hr : (0 ≤ (0 : Int) ∧ (0 : Int) ≤ 3) ∧ 0 ≤ (1 : Int) ∧ (1 : Int) ≤ 3 := by decide
  obtain ⟨a1, a2, a3⟩ := h4.1
  obtain ⟨b1, b2, b3⟩ := h4.2.1
  have f1 : ∀ (c1 : ¬ (swi s 0 = 0 ∨ swi s 1 = 0)) (c2 : swi s 0 = swi s 1), ¬ ((0 ≤ k ∧ 0 ≤ i ∧ 0 ≤ j) ∧ i + k ≤ ssz s 0 ∧ j + k ≤ ssz s 1) → Q (sI M 69 1 (wr (gI M 69 1 + 1))) (some (vI (-1000001))) := fun c1 c2 c3 => c_fnd h (by decide) (by decide) (by decide) (move_1 hr c1 c2 c3) hq
  refine B_D_move_s01_0 h.1 ?_
  rw [a1, a2, b1, b2]
  refine ⟨fun _ => ⟨fun _ => ⟨fun c1 => c_fnd h (by decide) (by decide) (by decide) ((if_pos hr).trans (if_pos (Or.inl c1))) hq, fun c1 => ⟨fun c2 => ⟨fun c3 => ⟨fun c4 => f1 (not_or.mpr ⟨c1, c2⟩) c3 (by omega), fun c4 => ⟨by omega, fun c5 => ⟨by omega, fun c6 => ⟨by omega, ?_⟩, fun c6 => f1 (not_or.mpr ⟨c1, c2⟩) c3 (by omega)⟩, fun c5 => f1 (not_or.mpr ⟨c1, c2⟩) c3 (by omega)⟩⟩, fun c3 => c_fnd h (by decide) (by decide) (by decide) ((if_pos hr).trans ((if_neg (not_or.mpr ⟨c1, c2⟩)).trans (if_neg c3))) hq⟩, fun c2 => c_fnd h (by decide) (by decide) (by decide) ((if_pos hr).trans (if_pos (Or.inr c2))) hq⟩⟩, fun c => absurd (by decide) c⟩, fun c => absurd (by decide) c⟩
  rw [show o_move s 0 i 1 j k = _ from (if_pos hr).trans ((if_neg (not_or.mpr ⟨c1, c2⟩)).trans ((if_pos c3).trans (if_pos (by omega))))] at hq
  refine hq _ (h.sht h.1 (fun b hb => gI_cO (by omega)) rfl ⟨h4.1.same (gI_cO (by decide)) (gI_cO (by decide)) rfl rfl (fun x x0 x1 => if_neg (by omega)), ⟨by rw [gI_cO (by decide)]; exact b1, by rw [gI_cO (by decide)]; exact b2, fun x x0 x1 => ?_⟩, h4.2.2.1.same (gI_cO (by decide)) (gI_cO (by decide)) rfl rfl (fun x x0 x1 => if_neg (by omega)), h4.2.2.2.same (gI_cO (by decide)) (gI_cO (by decide)) rfl rfl (fun x x0 x1 => if_neg (by omega))⟩) (fun a x ha => by rw [gI_cO (by omega)])
  show _ = mv _ _ _ _ _
  unfold mv
  by_cases e : j ≤ x ∧ x < j + k
  · rw [gI_cI e.1 e.2, if_pos (by omega), a3 _ (by omega) (by omega)]
    congr 1
    omega
  · rw [show gI (cI M 73 i 75 j k) 75 x = gI M 75 x from if_neg (fun z => e z.2), if_neg (by omega)]
    exact b3 x x0 x1
theorem c_move_02 {i j k : Int} (hw : WfS s) (h : CI s M) (hk : -2147483648 ≤ k ∧ k < 2147483648) (hq : ∀ M', CI (o_move s 0 i 2 j k).1 M' → FrC M M' → Q M' (some (vI (o_move s 0 i 2 j k).2))) : Wq 3 0 0 mD_move 0 [iR 0, iI 0, iI i, iI 2, iI j, iI k, none, none] [] M Q := by
  have h4 := h.2.2.2.2.2.1
  have zq := (hw.2.2.2.1 0 (by decide) (by decide)).2
  have zr' := (hw.2.2.2.1 2 (by decide) (by decide)).2
  have hr : (0 ≤ (0 : Int) ∧ (0 : Int) ≤ 3) ∧ 0 ≤ (2 : Int) ∧ (2 : Int) ≤ 3 := by decide
  obtain ⟨a1, a2, a3⟩ := h4.1
  obtain ⟨b1, b2, b3⟩ := h4.2.2.1
  have f1 : ∀ (c1 : ¬ (swi s 0 = 0 ∨ swi s 2 = 0)) (c2 : swi s 0 = swi s 2), ¬ ((0 ≤ k ∧ 0 ≤ i ∧ 0 ≤ j) ∧ i + k ≤ ssz s 0 ∧ j + k ≤ ssz s 2) → Q (sI M 69 1 (wr (gI M 69 1 + 1))) (some (vI (-1000001))) := fun c1 c2 c3 => c_fnd h (by decide) (by decide) (by decide) (move_1 hr c1 c2 c3) hq
  refine B_D_move_s02_0 h.1 ?_
  rw [a1, a2, b1, b2]
  refine ⟨fun _ => ⟨fun _ => ⟨fun c1 => c_fnd h (by decide) (by decide) (by decide) ((if_pos hr).trans (if_pos (Or.inl c1))) hq, fun c1 => ⟨fun c2 => ⟨fun c3 => ⟨fun c4 => f1 (not_or.mpr ⟨c1, c2⟩) c3 (by omega), fun c4 => ⟨by omega, fun c5 => ⟨by omega, fun c6 => ⟨by omega, ?_⟩, fun c6 => f1 (not_or.mpr ⟨c1, c2⟩) c3 (by omega)⟩, fun c5 => f1 (not_or.mpr ⟨c1, c2⟩) c3 (by omega)⟩⟩, fun c3 => c_fnd h (by decide) (by decide) (by decide) ((if_pos hr).trans ((if_neg (not_or.mpr ⟨c1, c2⟩)).trans (if_neg c3))) hq⟩, fun c2 => c_fnd h (by decide) (by decide) (by decide) ((if_pos hr).trans (if_pos (Or.inr c2))) hq⟩⟩, fun c => absurd (by decide) c⟩, fun c => absurd (by decide) c⟩
  rw [show o_move s 0 i 2 j k = _ from (if_pos hr).trans ((if_neg (not_or.mpr ⟨c1, c2⟩)).trans ((if_pos c3).trans (if_pos (by omega))))] at hq
  refine hq _ (h.sht h.1 (fun b hb => gI_cO (by omega)) rfl ⟨h4.1.same (gI_cO (by decide)) (gI_cO (by decide)) rfl rfl (fun x x0 x1 => if_neg (by omega)), h4.2.1.same (gI_cO (by decide)) (gI_cO (by decide)) rfl rfl (fun x x0 x1 => if_neg (by omega)), ⟨by rw [gI_cO (by decide)]; exact b1, by rw [gI_cO (by decide)]; exact b2, fun x x0 x1 => ?_⟩, h4.2.2.2.same (gI_cO (by decide)) (gI_cO (by decide)) rfl rfl (fun x x0 x1 => if_neg (by omega))⟩) (fun a x ha => by rw [gI_cO (by omega)])
  show _ = mv _ _ _ _ _
  unfold mv
  by_cases e : j ≤ x ∧ x < j + k
  · rw [gI_cI e.1 e.2, if_pos (by omega), a3 _ (by omega) (by omega)]
    congr 1
    omega
  · rw [show gI (cI M 73 i 77 j k) 77 x = gI M 77 x from if_neg (fun z => e z.2), if_neg (by omega)]
    exact b3 x x0 x1
theorem c_move_03 {i j k : Int} (hw : WfS s) (h : CI s M) (hk : -2147483648 ≤ k ∧ k < 2147483648) (hq : ∀ M', CI (o_move s 0 i 3 j k).1 M' → FrC M M' → Q M' (some (vI (o_move s 0 i 3 j k).2))) : Wq 3 0 0 mD_move 0 [iR 0, iI 0, iI i, iI 3, iI j, iI k, none, none] [] M Q := by
  have h4 := h.2.2.2.2.2.1
  have zq := (hw.2.2.2.1 0 (by decide) (by decide)).2
  have zr' := (hw.2.2.2.1 3 (by decide) (by decide)).2
  have hr : (0 ≤ (0 : Int) ∧ (0 : Int) ≤ 3) ∧ 0 ≤ (3 : Int) ∧ (3 : Int) ≤ 3 := by decide
  obtain ⟨a1, a2, a3⟩ := h4.1
  obtain ⟨b1, b2, b3⟩ := h4.2.2.2
  have f1 : ∀ (c1 : ¬ (swi s 0 = 0 ∨ swi s 3 = 0)) (c2 : swi s 0 = swi s 3), ¬ ((0 ≤ k ∧ 0 ≤ i ∧ 0 ≤ j) ∧ i + k ≤ ssz s 0 ∧ j + k ≤ ssz s 3) → Q (sI M 69 1 (wr (gI M 69 1 + 1))) (some (vI (-1000001))) := fun c1 c2 c3 => c_fnd h (by decide) (by decide) (by decide) (move_1 hr c1 c2 c3) hq
  refine B_D_move_s03_0 h.1 ?_
  rw [a1, a2, b1, b2]
  refine ⟨fun _ => ⟨fun _ => ⟨fun c1 => c_fnd h (by decide) (by decide) (by decide) ((if_pos hr).trans (if_pos (Or.inl c1))) hq, fun c1 => ⟨fun c2 => ⟨fun c3 => ⟨fun c4 => f1 (not_or.mpr ⟨c1, c2⟩) c3 (by omega), fun c4 => ⟨by omega, fun c5 => ⟨by omega, fun c6 => ⟨by omega, ?_⟩, fun c6 => f1 (not_or.mpr ⟨c1, c2⟩) c3 (by omega)⟩, fun c5 => f1 (not_or.mpr ⟨c1, c2⟩) c3 (by omega)⟩⟩, fun c3 => c_fnd h (by decide) (by decide) (by decide) ((if_pos hr).trans ((if_neg (not_or.mpr ⟨c1, c2⟩)).trans (if_neg c3))) hq⟩, fun c2 => c_fnd h (by decide) (by decide) (by decide) ((if_pos hr).trans (if_pos (Or.inr c2))) hq⟩⟩, fun c => absurd (by decide) c⟩, fun c => absurd (by decide) c⟩
  rw [show o_move s 0 i 3 j k = _ from (if_pos hr).trans ((if_neg (not_or.mpr ⟨c1, c2⟩)).trans ((if_pos c3).trans (if_pos (by omega))))] at hq
  refine hq _ (h.sht h.1 (fun b hb => gI_cO (by omega)) rfl ⟨h4.1.same (gI_cO (by decide)) (gI_cO (by decide)) rfl rfl (fun x x0 x1 => if_neg (by omega)), h4.2.1.same (gI_cO (by decide)) (gI_cO (by decide)) rfl rfl (fun x x0 x1 => if_neg (by omega)), h4.2.2.1.same (gI_cO (by decide)) (gI_cO (by decide)) rfl rfl (fun x x0 x1 => if_neg (by omega)), ⟨by rw [gI_cO (by decide)]; exact b1, by rw [gI_cO (by decide)]; exact b2, fun x x0 x1 => ?_⟩⟩) (fun a x ha => by rw [gI_cO (by omega)])
  show _ = mv _ _ _ _ _
  unfold mv
  by_cases e : j ≤ x ∧ x < j + k
  · rw [gI_cI e.1 e.2, if_pos (by omega), a3 _ (by omega) (by omega)]
    congr 1
    omega
  · rw [show gI (cI M 73 i 79 j k) 79 x = gI M 79 x from if_neg (fun z => e z.2), if_neg (by omega)]
    exact b3 x x0 x1
theorem c_move_10 {i j k : Int} (hw : WfS s) (h : CI s M) (hk : -2147483648 ≤ k ∧ k < 2147483648) (hq : ∀ M', CI (o_move s 1 i 0 j k).1 M' → FrC M M' → Q M' (some (vI (o_move s 1 i 0 j k).2))) : Wq 3 0 0 mD_move 0 [iR 0, iI 1, iI i, iI 0, iI j, iI k, none, none] [] M Q := by
  have h4 := h.2.2.2.2.2.1
  have zq := (hw.2.2.2.1 1 (by decide) (by decide)).2
  have zr' := (hw.2.2.2.1 0 (by decide) (by decide)).2
  have hr : (0 ≤ (1 : Int) ∧ (1 : Int) ≤ 3) ∧ 0 ≤ (0 : Int) ∧ (0 : Int) ≤ 3 := by decide
  obtain ⟨a1, a2, a3⟩ := h4.2.1
  obtain ⟨b1, b2, b3⟩ := h4.1
  have f1 : ∀ (c1 : ¬ (swi s 1 = 0 ∨ swi s 0 = 0)) (c2 : swi s 1 = swi s 0), ¬ ((0 ≤ k ∧ 0 ≤ i ∧ 0 ≤ j) ∧ i + k ≤ ssz s 1 ∧ j + k ≤ ssz s 0) → Q (sI M 69 1 (wr (gI M 69 1 + 1))) (some (vI (-1000001))) := fun c1 c2 c3 => c_fnd h (by decide) (by decide) (by decide) (move_1 hr c1 c2 c3) hq
  refine B_D_move_s10_0 h.1 ?_
  rw [a1, a2, b1, b2]
  refine ⟨fun _ => ⟨fun _ => ⟨fun c1 => c_fnd h (by decide) (by decide) (by decide) ((if_pos hr).trans (if_pos (Or.inl c1))) hq, fun c1 => ⟨fun c2 => ⟨fun c3 => ⟨fun c4 => f1 (not_or.mpr ⟨c1, c2⟩) c3 (by omega), fun c4 => ⟨by omega, fun c5 => ⟨by omega, fun c6 => ⟨by omega, ?_⟩, fun c6 => f1 (not_or.mpr ⟨c1, c2⟩) c3 (by omega)⟩, fun c5 => f1 (not_or.mpr ⟨c1, c2⟩) c3 (by omega)⟩⟩, fun c3 => c_fnd h (by decide) (by decide) (by decide) ((if_pos hr).trans ((if_neg (not_or.mpr ⟨c1, c2⟩)).trans (if_neg c3))) hq⟩, fun c2 => c_fnd h (by decide) (by decide) (by decide) ((if_pos hr).trans (if_pos (Or.inr c2))) hq⟩⟩, fun c => absurd (by decide) c⟩, fun c => absurd (by decide) c⟩
  rw [show o_move s 1 i 0 j k = _ from (if_pos hr).trans ((if_neg (not_or.mpr ⟨c1, c2⟩)).trans ((if_pos c3).trans (if_pos (by omega))))] at hq
  refine hq _ (h.sht h.1 (fun b hb => gI_cO (by omega)) rfl ⟨⟨by rw [gI_cO (by decide)]; exact b1, by rw [gI_cO (by decide)]; exact b2, fun x x0 x1 => ?_⟩, h4.2.1.same (gI_cO (by decide)) (gI_cO (by decide)) rfl rfl (fun x x0 x1 => if_neg (by omega)), h4.2.2.1.same (gI_cO (by decide)) (gI_cO (by decide)) rfl rfl (fun x x0 x1 => if_neg (by omega)), h4.2.2.2.same (gI_cO (by decide)) (gI_cO (by decide)) rfl rfl (fun x x0 x1 => if_neg (by omega))⟩) (fun a x ha => by rw [gI_cO (by omega)])
  show _ = mv _ _ _ _ _
  unfold mv
  by_cases e : j ≤ x ∧ x < j + k
  · rw [gI_cI e.1 e.2, if_pos (by omega), a3 _ (by omega) (by omega)]
    congr 1
    omega
  · rw [show gI (cI M 75 i 73 j k) 73 x = gI M 73 x from if_neg (fun z => e z.2), if_neg (by omega)]
    exact b3 x x0 x1
theorem c_move_11 {i j k : Int} (hw : WfS s) (h : CI s M) (hk : -2147483648 ≤ k ∧ k < 2147483648) (hq : ∀ M', CI (o_move s 1 i 1 j k).1 M' → FrC M M' → Q M' (some (vI (o_move s 1 i 1 j k).2))) : Wq 3 0 0 mD_move 0 [iR 0, iI 1, iI i, iI 1, iI j, iI k, none, none] [] M Q := by
  have h4 := h.2.2.2.2.2.1
  have zq := (hw.2.2.2.1 1 (by decide) (by decide)).2
  have zr' := (hw.2.2.2.1 1 (by decide) (by decide)).2
  have hr : (0 ≤ (1 : Int) ∧ (1 : Int) ≤ 3) ∧ 0 ≤ (1 : Int) ∧ (1 : Int) ≤ 3 := by decide
  obtain ⟨a1, a2, a3⟩ := h4.2.1
  obtain ⟨b1, b2, b3⟩ := h4.2.1
  have f1 : ∀ (c1 : ¬ (swi s 1 = 0 ∨ swi s 1 = 0)) (c2 : swi s 1 = swi s 1), ¬ ((0 ≤ k ∧ 0 ≤ i ∧ 0 ≤ j) ∧ i + k ≤ ssz s 1 ∧ j + k ≤ ssz s 1) → Q (sI M 69 1 (wr (gI M 69 1 + 1))) (some (vI (-1000001))) := fun c1 c2 c3 => c_fnd h (by decide) (by decide) (by decide) (move_1 hr c1 c2 c3) hq
  refine B_D_move_s11_0 h.1 ?_
  rw [a1, a2]
  refine ⟨fun _ => ⟨fun _ => ⟨fun c1 => c_fnd h (by decide) (by decide) (by decide) ((if_pos hr).trans (if_pos (Or.inl c1))) hq, fun c1 => ⟨fun c2 => ⟨fun c3 => ⟨fun c4 => f1 (not_or.mpr ⟨c1, c2⟩) c3 (by omega), fun c4 => ⟨by omega, fun c5 => ⟨fun c6 => ⟨by omega, ?_⟩, fun c6 => f1 (not_or.mpr ⟨c1, c2⟩) c3 (by omega)⟩, fun c5 => f1 (not_or.mpr ⟨c1, c2⟩) c3 (by omega)⟩⟩, fun c3 => c_fnd h (by decide) (by decide) (by decide) ((if_pos hr).trans ((if_neg (not_or.mpr ⟨c1, c2⟩)).trans (if_neg c3))) hq⟩, fun c2 => c_fnd h (by decide) (by decide) (by decide) ((if_pos hr).trans (if_pos (Or.inr c2))) hq⟩⟩, fun c => absurd (by decide) c⟩, fun c => absurd (by decide) c⟩
  rw [show o_move s 1 i 1 j k = _ from (if_pos hr).trans ((if_neg (not_or.mpr ⟨c1, c2⟩)).trans ((if_pos c3).trans (if_pos (by omega))))] at hq
  refine hq _ (h.sht h.1 (fun b hb => gI_cO (by omega)) rfl ⟨h4.1.same (gI_cO (by decide)) (gI_cO (by decide)) rfl rfl (fun x x0 x1 => if_neg (by omega)), ⟨by rw [gI_cO (by decide)]; exact b1, by rw [gI_cO (by decide)]; exact b2, fun x x0 x1 => ?_⟩, h4.2.2.1.same (gI_cO (by decide)) (gI_cO (by decide)) rfl rfl (fun x x0 x1 => if_neg (by omega)), h4.2.2.2.same (gI_cO (by decide)) (gI_cO (by decide)) rfl rfl (fun x x0 x1 => if_neg (by omega))⟩) (fun a x ha => by rw [gI_cO (by omega)])
  show _ = mv _ _ _ _ _
  unfold mv
  by_cases e : j ≤ x ∧ x < j + k
  · rw [gI_cI e.1 e.2, if_pos (by omega), a3 _ (by omega) (by omega)]
    congr 1
    omega
  · rw [show gI (cI M 75 i 75 j k) 75 x = gI M 75 x from if_neg (fun z => e z.2), if_neg (by omega)]
    exact b3 x x0 x1
theorem c_move_12 {i j k : Int} (hw : WfS s) (h : CI s M) (hk : -2147483648 ≤ k ∧ k < 2147483648) (hq : ∀ M', CI (o_move s 1 i 2 j k).1 M' → FrC M M' → Q M' (some (vI (o_move s 1 i 2 j k).2))) : Wq 3 0 0 mD_move 0 [iR 0, iI 1, iI i, iI 2, iI j, iI k, none, none] [] M Q := by
  have h4 := h.2.2.2.2.2.1
  have zq := (hw.2.2.2.1 1 (by decide) (by decide)).2
  have zr' := (hw.2.2.2.1 2 (by decide) (by decide)).2
  have hr : (0 ≤ (1 : Int) ∧ (1 : Int) ≤ 3) ∧ 0 ≤ (2 : Int) ∧ (2 : Int) ≤ 3 := by decide
  obtain ⟨a1, a2, a3⟩ := h4.2.1
  obtain ⟨b1, b2, b3⟩ := h4.2.2.1
  have f1 : ∀ (c1 : ¬ (swi s 1 = 0 ∨ swi s 2 = 0)) (c2 : swi s 1 = swi s 2), ¬ ((0 ≤ k ∧ 0 ≤ i ∧ 0 ≤ j) ∧ i + k ≤ ssz s 1 ∧ j + k ≤ ssz s 2) → Q (sI M 69 1 (wr (gI M 69 1 + 1))) (some (vI (-1000001))) := fun c1 c2 c3 => c_fnd h (by decide) (by decide) (by decide) (move_1 hr c1 c2 c3) hq
  refine B_D_move_s12_0 h.1 ?_
  rw [a1, a2, b1, b2]
  refine ⟨fun _ => ⟨fun _ => ⟨fun c1 => c_fnd h (by decide) (by decide) (by decide) ((if_pos hr).trans (if_pos (Or.inl c1))) hq, fun c1 => ⟨fun c2 => ⟨fun c3 => ⟨fun c4 => f1 (not_or.mpr ⟨c1, c2⟩) c3 (by omega), fun c4 => ⟨by omega, fun c5 => ⟨by omega, fun c6 => ⟨by omega, ?_⟩, fun c6 => f1 (not_or.mpr ⟨c1, c2⟩) c3 (by omega)⟩, fun c5 => f1 (not_or.mpr ⟨c1, c2⟩) c3 (by omega)⟩⟩, fun c3 => c_fnd h (by decide) (by decide) (by decide) ((if_pos hr).trans ((if_neg (not_or.mpr ⟨c1, c2⟩)).trans (if_neg c3))) hq⟩, fun c2 => c_fnd h (by decide) (by decide) (by decide) ((if_pos hr).trans (if_pos (Or.inr c2))) hq⟩⟩, fun c => absurd (by decide) c⟩, fun c => absurd (by decide) c⟩
  rw [show o_move s 1 i 2 j k = _ from (if_pos hr).trans ((if_neg (not_or.mpr ⟨c1, c2⟩)).trans ((if_pos c3).trans (if_pos (by omega))))] at hq
  refine hq _ (h.sht h.1 (fun b hb => gI_cO (by omega)) rfl ⟨h4.1.same (gI_cO (by decide)) (gI_cO (by decide)) rfl rfl (fun x x0 x1 => if_neg (by omega)), h4.2.1.same (gI_cO (by decide)) (gI_cO (by decide)) rfl rfl (fun x x0 x1 => if_neg (by omega)), ⟨by rw [gI_cO (by decide)]; exact b1, by rw [gI_cO (by decide)]; exact b2, fun x x0 x1 => ?_⟩, h4.2.2.2.same (gI_cO (by decide)) (gI_cO (by decide)) rfl rfl (fun x x0 x1 => if_neg (by omega))⟩) (fun a x ha => by rw [gI_cO (by omega)])
  show _ = mv _ _ _ _ _
  unfold mv
  by_cases e : j ≤ x ∧ x < j + k
  · rw [gI_cI e.1 e.2, if_pos (by omega), a3 _ (by omega) (by omega)]
    congr 1
    omega
  · rw [show gI (cI M 75 i 77 j k) 77 x = gI M 77 x from if_neg (fun z => e z.2), if_neg (by omega)]
    exact b3 x x0 x1
theorem c_move_13 {i j k : Int} (hw : WfS s) (h : CI s M) (hk : -2147483648 ≤ k ∧ k < 2147483648) (hq : ∀ M', CI (o_move s 1 i 3 j k).1 M' → FrC M M' → Q M' (some (vI (o_move s 1 i 3 j k).2))) : Wq 3 0 0 mD_move 0 [iR 0, iI 1, iI i, iI 3, iI j, iI k, none, none] [] M Q := by
  have h4 := h.2.2.2.2.2.1
  have zq := (hw.2.2.2.1 1 (by decide) (by decide)).2
  have zr' := (hw.2.2.2.1 3 (by decide) (by decide)).2
  have hr : (0 ≤ (1 : Int) ∧ (1 : Int) ≤ 3) ∧ 0 ≤ (3 : Int) ∧ (3 : Int) ≤ 3 := by decide
  obtain ⟨a1, a2, a3⟩ := h4.2.1
  obtain ⟨b1, b2, b3⟩ := h4.2.2.2
  have f1 : ∀ (c1 : ¬ (swi s 1 = 0 ∨ swi s 3 = 0)) (c2 : swi s 1 = swi s 3), ¬ ((0 ≤ k ∧ 0 ≤ i ∧ 0 ≤ j) ∧ i + k ≤ ssz s 1 ∧ j + k ≤ ssz s 3) → Q (sI M 69 1 (wr (gI M 69 1 + 1))) (some (vI (-1000001))) := fun c1 c2 c3 => c_fnd h (by decide) (by decide) (by decide) (move_1 hr c1 c2 c3) hq
  refine B_D_move_s13_0 h.1 ?_
  rw [a1, a2, b1, b2]
  refine ⟨fun _ => ⟨fun _ => ⟨fun c1 => c_fnd h (by decide) (by decide) (by decide) ((if_pos hr).trans (if_pos (Or.inl c1))) hq, fun c1 => ⟨fun c2 => ⟨fun c3 => ⟨fun c4 => f1 (not_or.mpr ⟨c1, c2⟩) c3 (by omega), fun c4 => ⟨by omega, fun c5 => ⟨by omega, fun c6 => ⟨by omega, ?_⟩, fun c6 => f1 (not_or.mpr ⟨c1, c2⟩) c3 (by omega)⟩, fun c5 => f1 (not_or.mpr ⟨c1, c2⟩) c3 (by omega)⟩⟩, fun c3 => c_fnd h (by decide) (by decide) (by decide) ((if_pos hr).trans ((if_neg (not_or.mpr ⟨c1, c2⟩)).trans (if_neg c3))) hq⟩, fun c2 => c_fnd h (by decide) (by decide) (by decide) ((if_pos hr).trans (if_pos (Or.inr c2))) hq⟩⟩, fun c => absurd (by decide) c⟩, fun c => absurd (by decide) c⟩
  rw [show o_move s 1 i 3 j k = _ from (if_pos hr).trans ((if_neg (not_or.mpr ⟨c1, c2⟩)).trans ((if_pos c3).trans (if_pos (by omega))))] at hq
  refine hq _ (h.sht h.1 (fun b hb => gI_cO (by omega)) rfl ⟨h4.1.same (gI_cO (by decide)) (gI_cO (by decide)) rfl rfl (fun x x0 x1 => if_neg (by omega)), h4.2.1.same (gI_cO (by decide)) (gI_cO (by decide)) rfl rfl (fun x x0 x1 => if_neg (by omega)), h4.2.2.1.same (gI_cO (by decide)) (gI_cO (by decide)) rfl rfl (fun x x0 x1 => if_neg (by omega)), ⟨by rw [gI_cO (by decide)]; exact b1, by rw [gI_cO (by decide)]; exact b2, fun x x0 x1 => ?_⟩⟩) (fun a x ha => by rw [gI_cO (by omega)])
  show _ = mv _ _ _ _ _
  unfold mv
  by_cases e : j ≤ x ∧ x < j + k
  · rw [gI_cI e.1 e.2, if_pos (by omega), a3 _ (by omega) (by omega)]
    congr 1
    omega
  · rw [show gI (cI M 75 i 79 j k) 79 x = gI M 79 x from if_neg (fun z => e z.2), if_neg (by omega)]
    exact b3 x x0 x1
theorem c_move_20 {i j k : Int} (hw : WfS s) (h : CI s M) (hk : -2147483648 ≤ k ∧ k < 2147483648) (hq : ∀ M', CI (o_move s 2 i 0 j k).1 M' → FrC M M' → Q M' (some (vI (o_move s 2 i 0 j k).2))) : Wq 3 0 0 mD_move 0 [iR 0, iI 2, iI i, iI 0, iI j, iI k, none, none] [] M Q := by
  have h4 := h.2.2.2.2.2.1
  have zq := (hw.2.2.2.1 2 (by decide) (by decide)).2
  have zr' := (hw.2.2.2.1 0 (by decide) (by decide)).2
  have hr : (0 ≤ (2 : Int) ∧ (2 : Int) ≤ 3) ∧ 0 ≤ (0 : Int) ∧ (0 : Int) ≤ 3 := by decide
  obtain ⟨a1, a2, a3⟩ := h4.2.2.1
  obtain ⟨b1, b2, b3⟩ := h4.1
  have f1 : ∀ (c1 : ¬ (swi s 2 = 0 ∨ swi s 0 = 0)) (c2 : swi s 2 = swi s 0), ¬ ((0 ≤ k ∧ 0 ≤ i ∧ 0 ≤ j) ∧ i + k ≤ ssz s 2 ∧ j + k ≤ ssz s 0) → Q (sI M 69 1 (wr (gI M 69 1 + 1))) (some (vI (-1000001))) := fun c1 c2 c3 => c_fnd h (by decide) (by decide) (by decide) (move_1 hr c1 c2 c3) hq
  refine B_D_move_s20_0 h.1 ?_
  rw [a1, a2, b1, b2]
  refine ⟨fun _ => ⟨fun _ => ⟨fun c1 => c_fnd h (by decide) (by decide) (by decide) ((if_pos hr).trans (if_pos (Or.inl c1))) hq, fun c1 => ⟨fun c2 => ⟨fun c3 => ⟨fun c4 => f1 (not_or.mpr ⟨c1, c2⟩) c3 (by omega), fun c4 => ⟨by omega, fun c5 => ⟨by omega, fun c6 => ⟨by omega, ?_⟩, fun c6 => f1 (not_or.mpr ⟨c1, c2⟩) c3 (by omega)⟩, fun c5 => f1 (not_or.mpr ⟨c1, c2⟩) c3 (by omega)⟩⟩, fun c3 => c_fnd h (by decide) (by decide) (by decide) ((if_pos hr).trans ((if_neg (not_or.mpr ⟨c1, c2⟩)).trans (if_neg c3))) hq⟩, fun c2 => c_fnd h (by decide) (by decide) (by decide) ((if_pos hr).trans (if_pos (Or.inr c2))) hq⟩⟩, fun c => absurd (by decide) c⟩, fun c => absurd (by decide) c⟩
  rw [show o_move s 2 i 0 j k = _ from (if_pos hr).trans ((if_neg (not_or.mpr ⟨c1, c2⟩)).trans ((if_pos c3).trans (if_pos (by omega))))] at hq
  refine hq _ (h.sht h.1 (fun b hb => gI_cO (by omega)) rfl ⟨⟨by rw [gI_cO (by decide)]; exact b1, by rw [gI_cO (by decide)]; exact b2, fun x x0 x1 => ?_⟩, h4.2.1.same (gI_cO (by decide)) (gI_cO (by decide)) rfl rfl (fun x x0 x1 => if_neg (by omega)), h4.2.2.1.same (gI_cO (by decide)) (gI_cO (by decide)) rfl rfl (fun x x0 x1 => if_neg (by omega)), h4.2.2.2.same (gI_cO (by decide)) (gI_cO (by decide)) rfl rfl (fun x x0 x1 => if_neg (by omega))⟩) (fun a x ha => by rw [gI_cO (by omega)])
  show _ = mv _ _ _ _ _
  unfold mv
  by_cases e : j ≤ x ∧ x < j + k
  · rw [gI_cI e.1 e.2, if_pos (by omega), a3 _ (by omega) (by omega)]
    congr 1
    omega
  · rw [show gI (cI M 77 i 73 j k) 73 x = gI M 73 x from if_neg (fun z => e z.2), if_neg (by omega)]
    exact b3 x x0 x1
theorem c_move_21 {i j k : Int} (hw : WfS s) (h : CI s M) (hk : -2147483648 ≤ k ∧ k < 2147483648) (hq : ∀ M', CI (o_move s 2 i 1 j k).1 M' → FrC M M' → Q M' (some (vI (o_move s 2 i 1 j k).2))) : Wq 3 0 0 mD_move 0 [iR 0, iI 2, iI i, iI 1, iI j, iI k, none, none] [] M Q := by
  have h4 := h.2.2.2.2.2.1
  have zq := (hw.2.2.2.1 2 (by decide) (by decide)).2
  have zr' := (hw.2.2.2.1 1 (by decide) (by decide)).2
  have hr : (0 ≤ (2 : Int) ∧ (2 : Int) ≤ 3) ∧ 0 ≤ (1 : Int) ∧ (1 : Int) ≤ 3 := by decide
  obtain ⟨a1, a2, a3⟩ := h4.2.2.1
  obtain ⟨b1, b2, b3⟩ := h4.2.1
  have f1 : ∀ (c1 : ¬ (swi s 2 = 0 ∨ swi s 1 = 0)) (c2 : swi s 2 = swi s 1), ¬ ((0 ≤ k ∧ 0 ≤ i ∧ 0 ≤ j) ∧ i + k ≤ ssz s 2 ∧ j + k ≤ ssz s 1) → Q (sI M 69 1 (wr (gI M 69 1 + 1))) (some (vI (-1000001))) := fun c1 c2 c3 => c_fnd h (by decide) (by decide) (by decide) (move_1 hr c1 c2 c3) hq
  refine B_D_move_s21_0 h.1 ?_
  rw [a1, a2, b1, b2]
  refine ⟨fun _ => ⟨fun _ => ⟨fun c1 => c_fnd h (by decide) (by decide) (by decide) ((if_pos hr).trans (if_pos (Or.inl c1))) hq, fun c1 => ⟨fun c2 => ⟨fun c3 => ⟨fun c4 => f1 (not_or.mpr ⟨c1, c2⟩) c3 (by omega), fun c4 => ⟨by omega, fun c5 => ⟨by omega, fun c6 => ⟨by omega, ?_⟩, fun c6 => f1 (not_or.mpr ⟨c1, c2⟩) c3 (by omega)⟩, fun c5 => f1 (not_or.mpr ⟨c1, c2⟩) c3 (by omega)⟩⟩, fun c3 => c_fnd h (by decide) (by decide) (by decide) ((if_pos hr).trans ((if_neg (not_or.mpr ⟨c1, c2⟩)).trans (if_neg c3))) hq⟩, fun c2 => c_fnd h (by decide) (by decide) (by decide) ((if_pos hr).trans (if_pos (Or.inr c2))) hq⟩⟩, fun c => absurd (by decide) c⟩, fun c => absurd (by decide) c⟩
  rw [show o_move s 2 i 1 j k = _ from (if_pos hr).trans ((if_neg (not_or.mpr ⟨c1, c2⟩)).trans ((if_pos c3).trans (if_pos (by omega))))] at hq
  refine hq _ (h.sht h.1 (fun b hb => gI_cO (by omega)) rfl ⟨h4.1.same (gI_cO (by decide)) (gI_cO (by decide)) rfl rfl (fun x x0 x1 => if_neg (by omega)), ⟨by rw [gI_cO (by decide)]; exact b1, by rw [gI_cO (by decide)]; exact b2, fun x x0 x1 => ?_⟩, h4.2.2.1.same (gI_cO (by decide)) (gI_cO (by decide)) rfl rfl (fun x x0 x1 => if_neg (by omega)), h4.2.2.2.same (gI_cO (by decide)) (gI_cO (by decide)) rfl rfl (fun x x0 x1 => if_neg (by omega))⟩) (fun a x ha => by rw [gI_cO (by omega)])
  show _ = mv _ _ _ _ _
  unfold mv
  by_cases e : j ≤ x ∧ x < j + k
  · rw [gI_cI e.1 e.2, if_pos (by omega), a3 _ (by omega) (by omega)]
    congr 1
    omega
  · rw [show gI (cI M 77 i 75 j k) 75 x = gI M 75 x from if_neg (fun z => e z.2), if_neg (by omega)]
    exact b3 x x0 x1
theorem c_move_22 {i j k : Int} (hw : WfS s) (h : CI s M) (hk : -2147483648 ≤ k ∧ k < 2147483648) (hq : ∀ M', CI (o_move s 2 i 2 j k).1 M' → FrC M M' → Q M' (some (vI (o_move s 2 i 2 j k).2))) : Wq 3 0 0 mD_move 0 [iR 0, iI 2, iI i, iI 2, iI j, iI k, none, none] [] M Q := by
  have h4 := h.2.2.2.2.2.1
  have zq := (hw.2.2.2.1 2 (by decide) (by decide)).2
  have zr' := (hw.2.2.2.1 2 (by decide) (by decide)).2
  have hr : (0 ≤ (2 : Int) ∧ (2 : Int) ≤ 3) ∧ 0 ≤ (2 : Int) ∧ (2 : Int) ≤ 3 := by decide
  obtain ⟨a1, a2, a3⟩ := h4.2.2.1
  obtain ⟨b1, b2, b3⟩ := h4.2.2.1
  have f1 : ∀ (c1 : ¬ (swi s 2 = 0 ∨ swi s 2 = 0)) (c2 : swi s 2 = swi s 2), ¬ ((0 ≤ k ∧ 0 ≤ i ∧ 0 ≤ j) ∧ i + k ≤ ssz s 2 ∧ j + k ≤ ssz s 2) → Q (sI M 69 1 (wr (gI M 69 1 + 1))) (some (vI (-1000001))) := fun c1 c2 c3 => c_fnd h (by decide) (by decide) (by decide) (move_1 hr c1 c2 c3) hq
  refine B_D_move_s22_0 h.1 ?_
  rw [a1, a2]
  refine ⟨fun _ => ⟨fun _ => ⟨fun c1 => c_fnd h (by decide) (by decide) (by decide) ((if_pos hr).trans (if_pos (Or.inl c1))) hq, fun c1 => ⟨fun c2 => ⟨fun c3 => ⟨fun c4 => f1 (not_or.mpr ⟨c1, c2⟩) c3 (by omega), fun c4 => ⟨by omega, fun c5 => ⟨fun c6 => ⟨by omega, ?_⟩, fun c6 => f1 (not_or.mpr ⟨c1, c2⟩) c3 (by omega)⟩, fun c5 => f1 (not_or.mpr ⟨c1, c2⟩) c3 (by omega)⟩⟩, fun c3 => c_fnd h (by decide) (by decide) (by decide) ((if_pos hr).trans ((if_neg (not_or.mpr ⟨c1, c2⟩)).trans (if_neg c3))) hq⟩, fun c2 => c_fnd h (by decide) (by decide) (by decide) ((if_pos hr).trans (if_pos (Or.inr c2))) hq⟩⟩, fun c => absurd (by decide) c⟩, fun c => absurd (by decide) c⟩
  rw [show o_move s 2 i 2 j k = _ from (if_pos hr).trans ((if_neg (not_or.mpr ⟨c1, c2⟩)).trans ((if_pos c3).trans (if_pos (by omega))))] at hq
  refine hq _ (h.sht h.1 (fun b hb => gI_cO (by omega)) rfl ⟨h4.1.same (gI_cO (by decide)) (gI_cO (by decide)) rfl rfl (fun x x0 x1 => if_neg (by omega)), h4.2.1.same (gI_cO (by decide)) (gI_cO (by decide)) rfl rfl (fun x x0 x1 => if_neg (by omega)), ⟨by rw [gI_cO (by decide)]; exact b1, by rw [gI_cO (by decide)]; exact b2, fun x x0 x1 => ?_⟩, h4.2.2.2.same (gI_cO (by decide)) (gI_cO (by decide)) rfl rfl (fun x x0 x1 => if_neg (by omega))⟩) (fun a x ha => by rw [gI_cO (by omega)])
  show _ = mv _ _ _ _ _
  unfold mv
  by_cases e : j ≤ x ∧ x < j + k
  · rw [gI_cI e.1 e.2, if_pos (by omega), a3 _ (by omega) (by omega)]
    congr 1
    omega
  · rw [show gI (cI M 77 i 77 j k) 77 x = gI M 77 x from if_neg (fun z => e z.2), if_neg (by omega)]
    exact b3 x x0 x1
theorem c_move_23 {i j k : Int} (hw : WfS s) (h : CI s M) (hk : -2147483648 ≤ k ∧ k < 2147483648) (hq : ∀ M', CI (o_move s 2 i 3 j k).1 M' → FrC M M' → Q M' (some (vI (o_move s 2 i 3 j k).2))) : Wq 3 0 0 mD_move 0 [iR 0, iI 2, iI i, iI 3, iI j, iI k, none, none] [] M Q := by
  have h4 := h.2.2.2.2.2.1
  have zq := (hw.2.2.2.1 2 (by decide) (by decide)).2
  have zr' := (hw.2.2.2.1 3 (by decide) (by decide)).2
  have hr : (0 ≤ (2 : Int) ∧ (2 : Int) ≤ 3) ∧ 0 ≤ (3 : Int) ∧ (3 : Int) ≤ 3 := by decide
  obtain ⟨a1, a2, a3⟩ := h4.2.2.1
  obtain ⟨b1, b2, b3⟩ := h4.2.2.2
  have f1 : ∀ (c1 : ¬ (swi s 2 = 0 ∨ swi s 3 = 0)) (c2 : swi s 2 = swi s 3), ¬ ((0 ≤ k ∧ 0 ≤ i ∧ 0 ≤ j) ∧ i + k ≤ ssz s 2 ∧ j + k ≤ ssz s 3) → Q (sI M 69 1 (wr (gI M 69 1 + 1))) (some (vI (-1000001))) := fun c1 c2 c3 => c_fnd h (by decide) (by decide) (by decide) (move_1 hr c1 c2 c3) hq
  refine B_D_move_s23_0 h.1 ?_
  rw [a1, a2, b1, b2]
  refine ⟨fun _ => ⟨fun _ => ⟨fun c1 => c_fnd h (by decide) (by decide) (by decide) ((if_pos hr).trans (if_pos (Or.inl c1))) hq, fun c1 => ⟨fun c2 => ⟨fun c3 => ⟨fun c4 => f1 (not_or.mpr ⟨c1, c2⟩) c3 (by omega), fun c4 => ⟨by omega, fun c5 => ⟨by omega, fun c6 => ⟨by omega, ?_⟩, fun c6 => f1 (not_or.mpr ⟨c1, c2⟩) c3 (by omega)⟩, fun c5 => f1 (not_or.mpr ⟨c1, c2⟩) c3 (by omega)⟩⟩, fun c3 => c_fnd h (by decide) (by decide) (by decide) ((if_pos hr).trans ((if_neg (not_or.mpr ⟨c1, c2⟩)).trans (if_neg c3))) hq⟩, fun c2 => c_fnd h (by decide) (by decide) (by decide) ((if_pos hr).trans (if_pos (Or.inr c2))) hq⟩⟩, fun c => absurd (by decide) c⟩, fun c => absurd (by decide) c⟩
  rw [show o_move s 2 i 3 j k = _ from (if_pos hr).trans ((if_neg (not_or.mpr ⟨c1, c2⟩)).trans ((if_pos c3).trans (if_pos (by omega))))] at hq
  refine hq _ (h.sht h.1 (fun b hb => gI_cO (by omega)) rfl ⟨h4.1.same (gI_cO (by decide)) (gI_cO (by decide)) rfl rfl (fun x x0 x1 => if_neg (by omega)), h4.2.1.same (gI_cO (by decide)) (gI_cO (by decide)) rfl rfl (fun x x0 x1 => if_neg (by omega)), h4.2.2.1.same (gI_cO (by decide)) (gI_cO (by decide)) rfl rfl (fun x x0 x1 => if_neg (by omega)), ⟨by rw [gI_cO (by decide)]; exact b1, by rw [gI_cO (by decide)]; exact b2, fun x x0 x1 => ?_⟩⟩) (fun a x ha => by rw [gI_cO (by omega)])
  show _ = mv _ _ _ _ _
  unfold mv
  by_cases e : j ≤ x ∧ x < j + k
  · rw [gI_cI e.1 e.2, if_pos (by omega), a3 _ (by omega) (by omega)]
    congr 1
    omega
  · rw [show gI (cI M 77 i 79 j k) 79 x = gI M 79 x from if_neg (fun z => e z.2), if_neg (by omega)]
    exact b3 x x0 x1
theorem c_move_30 {i j k : Int} (hw : WfS s) (h : CI s M) (hk : -2147483648 ≤ k ∧ k < 2147483648) (hq : ∀ M', CI (o_move s 3 i 0 j k).1 M' → FrC M M' → Q M' (some (vI (o_move s 3 i 0 j k).2))) : Wq 3 0 0 mD_move 0 [iR 0, iI 3, iI i, iI 0, iI j, iI k, none, none] [] M Q := by
  have h4 := h.2.2.2.2.2.1
  have zq := (hw.2.2.2.1 3 (by decide) (by decide)).2
  have zr' := (hw.2.2.2.1 0 (by decide) (by decide)).2
  have hr : (0 ≤ (3 : Int) ∧ (3 : Int) ≤ 3) ∧ 0 ≤ (0 : Int) ∧ (0 : Int) ≤ 3 := by decide
  obtain ⟨a1, a2, a3⟩ := h4.2.2.2
  obtain ⟨b1, b2, b3⟩ := h4.1
  have f1 : ∀ (c1 : ¬ (swi s 3 = 0 ∨ swi s 0 = 0)) (c2 : swi s 3 = swi s 0), ¬ ((0 ≤ k ∧ 0 ≤ i ∧ 0 ≤ j) ∧ i + k ≤ ssz s 3 ∧ j + k ≤ ssz s 0) → Q (sI M 69 1 (wr (gI M 69 1 + 1))) (some (vI (-1000001))) := fun c1 c2 c3 => c_fnd h (by decide) (by decide) (by decide) (move_1 hr c1 c2 c3) hq
  refine B_D_move_s30_0 h.1 ?_
  rw [a1, a2, b1, b2]
  refine ⟨fun _ => ⟨fun _ => ⟨fun c1 => c_fnd h (by decide) (by decide) (by decide) ((if_pos hr).trans (if_pos (Or.inl c1))) hq, fun c1 => ⟨fun c2 => ⟨fun c3 => ⟨fun c4 => f1 (not_or.mpr ⟨c1, c2⟩) c3 (by omega), fun c4 => ⟨by omega, fun c5 => ⟨by omega, fun c6 => ⟨by omega, ?_⟩, fun c6 => f1 (not_or.mpr ⟨c1, c2⟩) c3 (by omega)⟩, fun c5 => f1 (not_or.mpr ⟨c1, c2⟩) c3 (by omega)⟩⟩, fun c3 => c_fnd h (by decide) (by decide) (by decide) ((if_pos hr).trans ((if_neg (not_or.mpr ⟨c1, c2⟩)).trans (if_neg c3))) hq⟩, fun c2 => c_fnd h (by decide) (by decide) (by decide) ((if_pos hr).trans (if_pos (Or.inr c2))) hq⟩⟩, fun c => absurd (by decide) c⟩, fun c => absurd (by decide) c⟩
  rw [show o_move s 3 i 0 j k = _ from (if_pos hr).trans ((if_neg (not_or.mpr ⟨c1, c2⟩)).trans ((if_pos c3).trans (if_pos (by omega))))] at hq
  refine hq _ (h.sht h.1 (fun b hb => gI_cO (by omega)) rfl ⟨⟨by rw [gI_cO (by decide)]; exact b1, by rw [gI_cO (by decide)]; exact b2, fun x x0 x1 => ?_⟩, h4.2.1.same (gI_cO (by decide)) (gI_cO (by decide)) rfl rfl (fun x x0 x1 => if_neg (by omega)), h4.2.2.1.same (gI_cO (by decide)) (gI_cO (by decide)) rfl rfl (fun x x0 x1 => if_neg (by omega)), h4.2.2.2.same (gI_cO (by decide)) (gI_cO (by decide)) rfl rfl (fun x x0 x1 => if_neg (by omega))⟩) (fun a x ha => by rw [gI_cO (by omega)])
  show _ = mv _ _ _ _ _
  unfold mv
  by_cases e : j ≤ x ∧ x < j + k
  · rw [gI_cI e.1 e.2, if_pos (by omega), a3 _ (by omega) (by omega)]
    congr 1
    omega
  · rw [show gI (cI M 79 i 73 j k) 73 x = gI M 73 x from if_neg (fun z => e z.2), if_neg (by omega)]
    exact b3 x x0 x1
theorem c_move_31 {i j k : Int} (hw : WfS s) (h : CI s M) (hk : -2147483648 ≤ k ∧ k < 2147483648) (hq : ∀ M', CI (o_move s 3 i 1 j k).1 M' → FrC M M' → Q M' (some (vI (o_move s 3 i 1 j k).2))) : Wq 3 0 0 mD_move 0 [iR 0, iI 3, iI i, iI 1, iI j, iI k, none, none] [] M Q := by
  have h4 := h.2.2.2.2.2.1
  have zq := (hw.2.2.2.1 3 (by decide) (by decide)).2
  have zr' := (hw.2.2.2.1 1 (by decide) (by decide)).2
  have hr : (0 ≤ (3 : Int) ∧ (3 : Int) ≤ 3) ∧ 0 ≤ (1 : Int) ∧ (1 : Int) ≤ 3 := by decide
  obtain ⟨a1, a2, a3⟩ := h4.2.2.2
  obtain ⟨b1, b2, b3⟩ := h4.2.1
  have f1 : ∀ (c1 : ¬ (swi s 3 = 0 ∨ swi s 1 = 0)) (c2 : swi s 3 = swi s 1), ¬ ((0 ≤ k ∧ 0 ≤ i ∧ 0 ≤ j) ∧ i + k ≤ ssz s 3 ∧ j + k ≤ ssz s 1) → Q (sI M 69 1 (wr (gI M 69 1 + 1))) (some (vI (-1000001))) := fun c1 c2 c3 => c_fnd h (by decide) (by decide) (by decide) (move_1 hr c1 c2 c3) hq
  refine B_D_move_s31_0 h.1 ?_
  rw [a1, a2, b1, b2]
  refine ⟨fun _ => ⟨fun _ => ⟨fun c1 => c_fnd h (by decide) (by decide) (by decide) ((if_pos hr).trans (if_pos (Or.inl c1))) hq, fun c1 => ⟨fun c2 => ⟨fun c3 => ⟨fun c4 => f1 (not_or.mpr ⟨c1, c2⟩) c3 (by omega), fun c4 => ⟨by omega, fun c5 => ⟨by omega, fun c6 => ⟨by omega, ?_⟩, fun c6 => f1 (not_or.mpr ⟨c1, c2⟩) c3 (by omega)⟩, fun c5 => f1 (not_or.mpr ⟨c1, c2⟩) c3 (by omega)⟩⟩, fun c3 => c_fnd h (by decide) (by decide) (by decide) ((if_pos hr).trans ((if_neg (not_or.mpr ⟨c1, c2⟩)).trans (if_neg c3))) hq⟩, fun c2 => c_fnd h (by decide) (by decide) (by decide) ((if_pos hr).trans (if_pos (Or.inr c2))) hq⟩⟩, fun c => absurd (by decide) c⟩, fun c => absurd (by decide) c⟩
  rw [show o_move s 3 i 1 j k = _ from (if_pos hr).trans ((if_neg (not_or.mpr ⟨c1, c2⟩)).trans ((if_pos c3).trans (if_pos (by omega))))] at hq
  refine hq _ (h.sht h.1 (fun b hb => gI_cO (by omega)) rfl ⟨h4.1.same (gI_cO (by decide)) (gI_cO (by decide)) rfl rfl (fun x x0 x1 => if_neg (by omega)), ⟨by rw [gI_cO (by decide)]; exact b1, by rw [gI_cO (by decide)]; exact b2, fun x x0 x1 => ?_⟩, h4.2.2.1.same (gI_cO (by decide)) (gI_cO (by decide)) rfl rfl (fun x x0 x1 => if_neg (by omega)), h4.2.2.2.same (gI_cO (by decide)) (gI_cO (by decide)) rfl rfl (fun x x0 x1 => if_neg (by omega))⟩) (fun a x ha => by rw [gI_cO (by omega)])
  show _ = mv _ _ _ _ _
  unfold mv
  by_cases e : j ≤ x ∧ x < j + k
  · rw [gI_cI e.1 e.2, if_pos (by omega), a3 _ (by omega) (by omega)]
    congr 1
    omega
  · rw [show gI (cI M 79 i 75 j k) 75 x = gI M 75 x from if_neg (fun z => e z.2), if_neg (by omega)]
    exact b3 x x0 x1
theorem c_move_32 {i j k : Int} (hw : WfS s) (h : CI s M) (hk : -2147483648 ≤ k ∧ k < 2147483648) (hq : ∀ M', CI (o_move s 3 i 2 j k).1 M' → FrC M M' → Q M' (some (vI (o_move s 3 i 2 j k).2))) : Wq 3 0 0 mD_move 0 [iR 0, iI 3, iI i, iI 2, iI j, iI k, none, none] [] M Q := by
  have h4 := h.2.2.2.2.2.1
  have zq := (hw.2.2.2.1 3 (by decide) (by decide)).2
  have zr' := (hw.2.2.2.1 2 (by decide) (by decide)).2
  have hr : (0 ≤ (3 : Int) ∧ (3 : Int) ≤ 3) ∧ 0 ≤ (2 : Int) ∧ (2 : Int) ≤ 3 := by decide
  obtain ⟨a1, a2, a3⟩ := h4.2.2.2
  obtain ⟨b1, b2, b3⟩ := h4.2.2.1
  have f1 : ∀ (c1 : ¬ (swi s 3 = 0 ∨ swi s 2 = 0)) (c2 : swi s 3 = swi s 2), ¬ ((0 ≤ k ∧ 0 ≤ i ∧ 0 ≤ j) ∧ i + k ≤ ssz s 3 ∧ j + k ≤ ssz s 2) → Q (sI M 69 1 (wr (gI M 69 1 + 1))) (some (vI (-1000001))) := fun c1 c2 c3 => c_fnd h (by decide) (by decide) (by decide) (move_1 hr c1 c2 c3) hq
  refine B_D_move_s32_0 h.1 ?_
  rw [a1, a2, b1, b2]
  refine ⟨fun _ => ⟨fun _ => ⟨fun c1 => c_fnd h (by decide) (by decide) (by decide) ((if_pos hr).trans (if_pos (Or.inl c1))) hq, fun c1 => ⟨fun c2 => ⟨fun c3 => ⟨fun c4 => f1 (not_or.mpr ⟨c1, c2⟩) c3 (by omega), fun c4 => ⟨by omega, fun c5 => ⟨by omega, fun c6 => ⟨by omega, ?_⟩, fun c6 => f1 (not_or.mpr ⟨c1, c2⟩) c3 (by omega)⟩, fun c5 => f1 (not_or.mpr ⟨c1, c2⟩) c3 (by omega)⟩⟩, fun c3 => c_fnd h (by decide) (by decide) (by decide) ((if_pos hr).trans ((if_neg (not_or.mpr ⟨c1, c2⟩)).trans (if_neg c3))) hq⟩, fun c2 => c_fnd h (by decide) (by decide) (by decide) ((if_pos hr).trans (if_pos (Or.inr c2))) hq⟩⟩, fun c => absurd (by decide) c⟩, fun c => absurd (by decide) c⟩
  rw [show o_move s 3 i 2 j k = _ from (if_pos hr).trans ((if_neg (not_or.mpr ⟨c1, c2⟩)).trans ((if_pos c3).trans (if_pos (by omega))))] at hq
  refine hq _ (h.sht h.1 (fun b hb => gI_cO (by omega)) rfl ⟨h4.1.same (gI_cO (by decide)) (gI_cO (by decide)) rfl rfl (fun x x0 x1 => if_neg (by omega)), h4.2.1.same (gI_cO (by decide)) (gI_cO (by decide)) rfl rfl (fun x x0 x1 => if_neg (by omega)), ⟨by rw [gI_cO (by decide)]; exact b1, by rw [gI_cO (by decide)]; exact b2, fun x x0 x1 => ?_⟩, h4.2.2.2.same (gI_cO (by decide)) (gI_cO (by decide)) rfl rfl (fun x x0 x1 => if_neg (by omega))⟩) (fun a x ha => by rw [gI_cO (by omega)])
  show _ = mv _ _ _ _ _
  unfold mv
  by_cases e : j ≤ x ∧ x < j + k
  · rw [gI_cI e.1 e.2, if_pos (by omega), a3 _ (by omega) (by omega)]
    congr 1
    omega
  · rw [show gI (cI M 79 i 77 j k) 77 x = gI M 77 x from if_neg (fun z => e z.2), if_neg (by omega)]
    exact b3 x x0 x1
theorem c_move_33 {i j k : Int} (hw : WfS s) (h : CI s M) (hk : -2147483648 ≤ k ∧ k < 2147483648) (hq : ∀ M', CI (o_move s 3 i 3 j k).1 M' → FrC M M' → Q M' (some (vI (o_move s 3 i 3 j k).2))) : Wq 3 0 0 mD_move 0 [iR 0, iI 3, iI i, iI 3, iI j, iI k, none, none] [] M Q := by
  have h4 := h.2.2.2.2.2.1
  have zq := (hw.2.2.2.1 3 (by decide) (by decide)).2
  have zr' := (hw.2.2.2.1 3 (by decide) (by decide)).2
  have hr : (0 ≤ (3 : Int) ∧ (3 : Int) ≤ 3) ∧ 0 ≤ (3 : Int) ∧ (3 : Int) ≤ 3 := by decide
  obtain ⟨a1, a2, a3⟩ := h4.2.2.2
  obtain ⟨b1, b2, b3⟩ := h4.2.2.2
  have f1 : ∀ (c1 : ¬ (swi s 3 = 0 ∨ swi s 3 = 0)) (c2 : swi s 3 = swi s 3), ¬ ((0 ≤ k ∧ 0 ≤ i ∧ 0 ≤ j) ∧ i + k ≤ ssz s 3 ∧ j + k ≤ ssz s 3) → Q (sI M 69 1 (wr (gI M 69 1 + 1))) (some (vI (-1000001))) := fun c1 c2 c3 => c_fnd h (by decide) (by decide) (by decide) (move_1 hr c1 c2 c3) hq
  refine B_D_move_s33_0 h.1 ?_
  rw [a1, a2]
  refine ⟨fun _ => ⟨fun _ => ⟨fun c1 => c_fnd h (by decide) (by decide) (by decide) ((if_pos hr).trans (if_pos (Or.inl c1))) hq, fun c1 => ⟨fun c2 => ⟨fun c3 => ⟨fun c4 => f1 (not_or.mpr ⟨c1, c2⟩) c3 (by omega), fun c4 => ⟨by omega, fun c5 => ⟨fun c6 => ⟨by omega, ?_⟩, fun c6 => f1 (not_or.mpr ⟨c1, c2⟩) c3 (by omega)⟩, fun c5 => f1 (not_or.mpr ⟨c1, c2⟩) c3 (by omega)⟩⟩, fun c3 => c_fnd h (by decide) (by decide) (by decide) ((if_pos hr).trans ((if_neg (not_or.mpr ⟨c1, c2⟩)).trans (if_neg c3))) hq⟩, fun c2 => c_fnd h (by decide) (by decide) (by decide) ((if_pos hr).trans (if_pos (Or.inr c2))) hq⟩⟩, fun c => absurd (by decide) c⟩, fun c => absurd (by decide) c⟩
  rw [show o_move s 3 i 3 j k = _ from (if_pos hr).trans ((if_neg (not_or.mpr ⟨c1, c2⟩)).trans ((if_pos c3).trans (if_pos (by omega))))] at hq
  refine hq _ (h.sht h.1 (fun b hb => gI_cO (by omega)) rfl ⟨h4.1.same (gI_cO (by decide)) (gI_cO (by decide)) rfl rfl (fun x x0 x1 => if_neg (by omega)), h4.2.1.same (gI_cO (by decide)) (gI_cO (by decide)) rfl rfl (fun x x0 x1 => if_neg (by omega)), h4.2.2.1.same (gI_cO (by decide)) (gI_cO (by decide)) rfl rfl (fun x x0 x1 => if_neg (by omega)), ⟨by rw [gI_cO (by decide)]; exact b1, by rw [gI_cO (by decide)]; exact b2, fun x x0 x1 => ?_⟩⟩) (fun a x ha => by rw [gI_cO (by omega)])
  show _ = mv _ _ _ _ _
  unfold mv
  by_cases e : j ≤ x ∧ x < j + k
  · rw [gI_cI e.1 e.2, if_pos (by omega), a3 _ (by omega) (by omega)]
    congr 1
    omega
  · rw [show gI (cI M 79 i 79 j k) 79 x = gI M 79 x from if_neg (fun z => e z.2), if_neg (by omega)]
    exact b3 x x0 x1
theorem c_move {q i r j k : Int} (hw : WfS s) (h : CI s M) (hq : ∀ M', CI (o_move s q i r j k).1 M' → FrC M M' → Q M' (some (vI (o_move s q i r j k).2))) : Wq 3 0 0 mD_move 0 [iR 0, iI q, iI i, iI r, iI j, iI k, none, none] [] M Q := by
  refine wq_inL 5 rfl (fun hk => ?_)
  have hk : -2147483648 ≤ k ∧ k < 2147483648 := hk
  by_cases hr : (0 ≤ q ∧ q ≤ 3) ∧ 0 ≤ r ∧ r ≤ 3
  · have hqq : q = 0 ∨ q = 1 ∨ q = 2 ∨ q = 3 := by omega
    have hrr : r = 0 ∨ r = 1 ∨ r = 2 ∨ r = 3 := by omega
    rcases hqq with rfl | rfl | rfl | rfl <;> rcases hrr with rfl | rfl | rfl | rfl
    · exact c_move_00 hw h hk hq
    · exact c_move_01 hw h hk hq
    · exact c_move_02 hw h hk hq
    · exact c_move_03 hw h hk hq
    · exact c_move_10 hw h hk hq
    · exact c_move_11 hw h hk hq
    · exact c_move_12 hw h hk hq
    · exact c_move_13 hw h hk hq
    · exact c_move_20 hw h hk hq
    · exact c_move_21 hw h hk hq
    · exact c_move_22 hw h hk hq
    · exact c_move_23 hw h hk hq
    · exact c_move_30 hw h hk hq
    · exact c_move_31 hw h hk hq
    · exact c_move_32 hw h hk hq
    · exact c_move_33 hw h hk hq
  · refine B_D_move_0 h.1 ⟨fun c => ⟨fun c2 => absurd ⟨c, c2⟩ hr, fun c2 => c_fnd h (by decide) (by decide) (by decide) (if_neg hr) hq⟩, fun c => c_fnd h (by decide) (by decide) (by decide) (if_neg hr) hq⟩
theorem r_move {q i r j k : Int} (hw : WfS s) (h : RI s M) (hq : ∀ M', RI (o_move s q i r j k).1 M' → FrR M M' → Q M' (some (vI (o_move s q i r j k).2))) : Wq 3 0 0 mM_move 0 [iR 80, iI q, iI i, iI r, iI j, iI k, none] [] M Q := by
  refine wq_inL 5 rfl (fun hk => ?_)
  have hk : -2147483648 ≤ k ∧ k < 2147483648 := hk
  refine wq_inL 2 rfl (fun hi => ?_)
  have hi : -2147483648 ≤ i ∧ i < 2147483648 := hi
  refine wq_inL 4 rfl (fun hj => ?_)
  have hj : -2147483648 ≤ j ∧ j < 2147483648 := hj
  obtain ⟨q1, q2, q3, q4, q5, q6, q7, q8, q9, q10, q11⟩ := h
  have h : RI s M := ⟨q1, q2, q3, q4, q5, q6, q7, q8, q9, q10, q11⟩
  refine B_M_move_0 h.1 ?_
  rw [q6, q7, wl_eq (x := i + k) (by omega) (by omega), wl_eq (x := j + k) (by omega) (by omega)]
  unfold lCmp
  by_cases hr : (0 ≤ q ∧ q ≤ 3) ∧ 0 ≤ r ∧ r ≤ 3
  · have zq := hw.2.2.2.1 q hr.1.1 hr.1.2
    have zr' := hw.2.2.2.1 r hr.2.1 hr.2.2
    have f1 : ¬ (swi s q = 0 ∨ swi s r = 0) → swi s q = swi s r → ¬ ((0 ≤ k ∧ 0 ≤ i ∧ 0 ≤ j) ∧ i + k ≤ ssz s q ∧ j + k ≤ ssz s r) → Q (sI M 83 1 (wr (gI M 83 1 + 1))) (some (vI (-1000001))) := fun c1 c2 c3 => r_fnd h (by decide) (move_1 hr c1 c2 c3) hq
    have f2 : (swi s q = 0 ∨ swi s r = 0) → Q (sI M 83 2 (wr (gI M 83 2 + 1))) (some (vI (-1000002))) := fun c1 => r_fnd h (by decide) ((if_pos hr).trans (if_pos c1)) hq
    have f5 : ¬ (swi s q = 0 ∨ swi s r = 0) → ¬ swi s q = swi s r → Q (sI M 83 5 (wr (gI M 83 5 + 1))) (some (vI (-1000005))) := fun c1 c2 => r_fnd h (by decide) ((if_pos hr).trans ((if_neg c1).trans (if_neg c2))) hq
    have ok : ¬ (swi s q = 0 ∨ swi s r = 0) → swi s q = swi s r → (0 ≤ k ∧ 0 ≤ i ∧ 0 ≤ j) ∧ i + k ≤ ssz s q ∧ j + k ≤ ssz s r → Wq 3 0 0 mM_move 127 [iR 80, iI q, iI i, iI r, iI j, iI k, iI 0] [] M Q := by
      intro c1 c2 c3
      rw [show o_move s q i r j k = _ from (if_pos hr).trans ((if_neg c1).trans ((if_pos c2).trans (if_pos c3)))] at hq
      have key2 : ∀ (f : Nat) (t : Nat) (M' : Mm), (t : Int) ≤ k → k.toNat - t = f → RefOK M' → (∀ c : Nat, c ≠ 86 → c ≠ 98 → gI M' c = gI M c) → gL M' = gL M → (∀ x, 0 ≤ x → x < k → gI M' 98 x = snu s (24 * q + i + x)) → gI M' 86 = mv (snu s) (24 * q + i) (24 * r + j) t → Wq 3 0 0 mM_move 164 [iR 80, iI q, iI i, iI r, iI j, iI k, iI t] [] M' Q := by
        intro f
        induction f with
        | zero =>
          intro t M' ht hf g0 g1 g2 g3 g4
          refine B_M_move_164 g0 ⟨fun c => ?_, fun c => by omega⟩
          rw [show (t : Int) = k by omega] at g4
          exact hq M' (h.sht g0 (fun b b1 b2 => g1 b (by omega) b2) (by rw [g1 84 (by decide) (by decide)]; exact q6) (by rw [g1 85 (by decide) (by decide)]; exact q7) g4) (fun a x ha => ⟨by rw [g1 a (by omega) (by omega)], by rw [g2]⟩)
        | succ f ih =>
          intro t M' ht hf g0 g1 g2 g3 g4
          refine B_M_move_164 g0 ⟨fun c => by omega, fun c => ⟨by omega, ?_⟩⟩
          have ih := ih (t + 1) (sI M' 86 (24 * r + j + t) (gI M' 98 t)) (by omega) (by omega) g0 (fun c e1 e2 => by rw [gI_ot e1]; exact g1 c e1 e2) g2 (fun x x0 x1 => by rw [gI_ot (by decide)]; exact g3 x x0 x1) (by
            rw [gI_up, g4, g3 t (by omega) (by omega)]
            funext x
            unfold up mv
            by_cases e : x = 24 * r + j + (t : Int)
            · rw [if_pos e, if_pos (by omega)]
              congr 1
              omega
            · rw [if_neg e]
              by_cases e2 : 24 * r + j ≤ x ∧ x < 24 * r + j + (t : Int)
              · rw [if_pos e2, if_pos (by omega)]
              · rw [if_neg e2, if_neg (by omega)])
          rw [show (((t + 1 : Nat) : Int)) = (t : Int) + 1 by omega] at ih
          exact ih
      have key1 : ∀ (f : Nat) (t : Nat) (M' : Mm), (t : Int) ≤ k → k.toNat - t = f → RefOK M' → (∀ c : Nat, c ≠ 98 → gI M' c = gI M c) → gL M' = gL M → (∀ x, 0 ≤ x → x < (t : Int) → gI M' 98 x = snu s (24 * q + i + x)) → Wq 3 0 0 mM_move 127 [iR 80, iI q, iI i, iI r, iI j, iI k, iI t] [] M' Q := by
        intro f
        induction f with
        | zero =>
          intro t M' ht hf g0 g1 g2 g3
          refine B_M_move_127 g0 ⟨fun c => ?_, fun c => by omega⟩
          refine key2 _ 0 M' (by omega) rfl g0 (fun c _ e2 => g1 c e2) g2 (fun x x0 x1 => g3 x x0 (by omega)) ?_
          rw [g1 86 (by decide), q8]
          funext x
          unfold mv
          rw [if_neg (by omega)]
        | succ f ih =>
          intro t M' ht hf g0 g1 g2 g3
          refine B_M_move_127 g0 ⟨fun c => by omega, fun c => ⟨by omega, ?_⟩⟩
          rw [g1 86 (by decide), q8]
          have ih := ih (t + 1) (sI M' 98 t (snu s (24 * q + i + t))) (by omega) (by omega) g0 (fun c e1 => by rw [gI_ot e1]; exact g1 c e1) g2 (fun x x0 x1 => by
            rw [gI_up]
            by_cases e : x = (t : Int)
            · rw [e, up_s]
            · rw [up_n e]
              exact g3 x x0 (by omega))
          rw [show (((t + 1 : Nat) : Int)) = (t : Int) + 1 by omega] at ih
          exact ih
      exact key1 _ 0 M (by omega) rfl h.1 (fun _ _ => rfl) rfl (fun x x0 x1 => by omega)
    refine ⟨fun _ => ⟨fun _ => ?_, fun c => absurd hr.2 c⟩, fun c => absurd hr.1 c⟩
    refine ⟨by omega, fun c1 => f2 (Or.inl c1), fun c1 => ⟨by omega, fun c2 => ⟨fun c3 => ⟨fun c4 => f1 (by omega) c3 (by omega), fun c4 => ⟨fun c5 => f1 (by omega) c3 (by omega), fun c5 => ⟨fun c6 => f1 (by omega) c3 (by omega), fun c6 => ⟨fun c7 => f1 (by omega) c3 ?_, fun c7 => ⟨fun c8 => ok (by omega) c3 ?_, fun c8 => f1 (by omega) c3 ?_⟩⟩⟩⟩⟩, fun c3 => f5 (by omega) c3⟩, fun c2 => f2 (Or.inr (by omega))⟩⟩
    · split at c7
      · omega
      · split at c7
        · omega
        · omega
    · refine ⟨by omega, ?_, ?_⟩
      · by_cases e : i + k ≤ ssz s q
        · exact e
        · rw [if_neg (by omega), if_neg (by omega)] at c7
          omega
      · by_cases e : j + k ≤ ssz s r
        · exact e
        · rw [if_neg (by omega), if_neg (by omega)] at c8
          omega
    · intro c9
      apply c8
      by_cases e : j + k < ssz s r
      · rw [if_pos e]
        decide
      · rw [if_neg e, if_pos (by omega)]
        decide
  · refine ⟨fun c => ⟨fun c2 => absurd ⟨c, c2⟩ hr, fun c2 => r_fnd h (by decide) (if_neg hr) hq⟩, fun c => r_fnd h (by decide) (if_neg hr) hq⟩
end OPJ
