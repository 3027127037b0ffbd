/-! ===== proves ===== -/
section OPY
variable {s : St} {M : Mm} {Q : Mm → Option Mv → Prop} {n : Int → Int}
/-- place j of a row can't be -/
def wrg (n : Int → Int) (sz : Int) (r : Int → Int) (j : Int) : Prop := sz ≤ j ∨ ¬ (0 ≤ r j ∧ r j ≤ n (1019 + 3 * j))
/-- a row is good below j -/
def gdR (n : Int → Int) (sz : Int) (r : Int → Int) (j : Int) : Prop := ∀ h, 0 ≤ h → h < j → ¬ wrg n sz r h
/-- what a row proves -/
def pvA (n : Int → Int) (sz : Int) (r : Int → Int) (day v : Int) : Nat → Nat → Int
  | 0, _ => if n 6 < sz then n 6 else if day < endH n r then 100 else if v < smR n r (n 6).toNat then 101 else -1
  | f + 1, j => if sz ≤ (j : Int) ∨ ¬ (0 ≤ r j ∧ r j ≤ n (1019 + 3 * (j : Int))) then j else pvA n sz r day v f (j + 1)
def rwS (s : St) (q : Int) : Int → Int := fun i => snu s (24 * q + i)
def o_proves (s : St) (q day v : Int) : St × Int := if (0 ≤ q ∧ q ≤ 3) ∧ (0 ≤ day ∧ day ≤ 9999) ∧ 0 ≤ v then (if swi s q = 0 then fnd s 2 else (s, pvA (sn s) (ssz s q) (rwS s q) day v (sn s 6).toNat 0)) else fnd s 1
theorem w_proves {q day v : Int} (hw : WfS s) : WfS (o_proves s q day v).1 := by
  unfold o_proves
  split
  · split
    · exact hw.fnd
    · exact hw
  · exact hw.fnd
theorem gd_ok {sz : Int} {r : Int → Int} (h : gdR n sz r (n 6)) : okR n r := fun i i0 i1 => Classical.byContradiction fun z => h i i0 i1 (Or.inr z)
theorem r_proves {q day v : Int} (hw : WfS s) (h : RI s M) (hq : ∀ M', RI (o_proves s q day v).1 M' → FrR M M' → Q M' (some (vI (o_proves s q day v).2))) : Wq 6 0 0 mM_proves 0 [iR 80, iI q, iI day, iI v, none] [] M Q := by
  have e' := h.2.1
  have wf' := hw.1
  obtain ⟨wd, wc, ww, wl, we, wt, wx, wh⟩ := hw.1
  have h6 := wh.1
  have ca := h.2.2.2.2.2.2.2.2.2.2
  have e84 := h.2.2.2.2.2.1
  have e85 := h.2.2.2.2.2.2.1
  have e86 := h.2.2.2.2.2.2.2.1
  refine B_M_proves_0 h.1 ?_
  rw [e84]
  refine ⟨fun c => ⟨fun c2 => ⟨fun c3 => ⟨by omega, fun c4 => ?_, fun c4 => r_fnd h (by decide) ((if_pos ⟨c, c2, c3⟩).trans (if_pos c4)) hq⟩, fun c3 => r_fnd h (by decide) (if_neg (fun z => c3 z.2.2)) hq⟩, fun c2 => r_fnd h (by decide) (if_neg (fun z => c2 z.2.1)) hq⟩, fun c => r_fnd h (by decide) (if_neg (fun z => c z.1)) hq⟩
  rw [show o_proves s q day v = _ from (if_pos ⟨c, c2, c3⟩).trans (if_neg c4)] at hq
  have hz := hw.2.2.2.1 q c.1 c.2
  have fin : ∀ M', RL (sn s) M M' → Q M' (some (vI (pvA (sn s) (ssz s q) (rwS s q) day v (sn s 6).toNat 0))) := fun M' g => hq M' (g.ri h) g.fr
  generalize hA : pvA (sn s) (ssz s q) (rwS s q) day v (sn s 6).toNat 0 = A at fin
  have key : ∀ (f : Nat) (j : Nat) (M' : Mm), (j : Int) + f = sn s 6 → RL (sn s) M M' → gdR (sn s) (ssz s q) (rwS s q) j → (∀ i, 0 ≤ i → i < (j : Int) → gI M' 96 i = rwS s q i) → pvA (sn s) (ssz s q) (rwS s q) day v f j = A → Wq 6 0 0 mM_proves 49 [iR 80, iI q, iI day, iI v, iI j] [] M' Q := by
    intro f
    induction f with
    | zero =>
      intro j M' hj g0 g1 g2 he
      have ej : (j : Int) = sn s 6 := by omega
      rw [ej] at g1 g2
      have ok := gd_ok g1
      have he : (if sn s 6 < ssz s q then sn s 6 else if day < endH (sn s) (rwS s q) then 100 else if v < smR (sn s) (rwS s q) (sn s 6).toNat then 101 else -1) = A := he
      refine B_M_proves_49 g0.1 ?_
      rw [g0.e e', g0.2.1 85 (by decide) (by decide), e85]
      refine ⟨fun _ => ⟨by omega, fun z => ?_, fun z => ?_⟩, fun z => by omega⟩
      · rw [if_neg (by omega)] at he
        refine sp_M_endHurried g0.1 wf' (g0.e e') g0.2.2.2.2 ok g2 (fun M1 p => ?_)
        have p0 := g0.tr p.l
        refine B_M_proves_164 ⟨fun y => ?_, fun y => ?_⟩
        · rw [if_neg (by omega)] at he
          refine sp_M_sumHurried p0.1 wh (p0.e e') ok (by rw [p.2.1 96 (by decide) (by decide)]; exact g2) (B_M_proves_177 ⟨fun x => ?_, fun x => ?_⟩)
          · rw [if_neg (by omega)] at he
            rw [he]
            exact fin M1 p0
          · rw [if_pos (by omega)] at he
            rw [he]
            exact fin M1 p0
        · rw [if_pos (by omega)] at he
          rw [he]
          exact fin M1 p0
      · rw [if_pos (by omega)] at he
        rw [he]
        exact fin M' g0
    | succ f ih =>
      intro j M' hj g0 g1 g2 he
      have he : (if ssz s q ≤ (j : Int) ∨ ¬ (0 ≤ rwS s q j ∧ rwS s q j ≤ sn s (1019 + 3 * (j : Int))) then (j : Int) else pvA (sn s) (ssz s q) (rwS s q) day v f (j + 1)) = A := he
      have bad : (ssz s q ≤ (j : Int) ∨ ¬ (0 ≤ rwS s q j ∧ rwS s q j ≤ sn s (1019 + 3 * (j : Int)))) → Q M' (some (vI (j : Int))) := fun z => by
        rw [if_pos z] at he
        rw [he]
        exact fin M' g0
      refine B_M_proves_49 g0.1 ?_
      rw [g0.e e', g0.2.1 85 (by decide) (by decide), e85, g0.2.1 86 (by decide) (by decide), e86]
      refine ⟨fun z => by omega, fun _ => ⟨by omega, fun z => bad (Or.inl z), fun z => ⟨by omega, fun y => ⟨by omega, ?_⟩, fun y => bad (Or.inr y)⟩⟩⟩
      rw [if_neg (fun q => q.elim (fun q => z q) (fun q => q y))] at he
      have r1 := ih (j + 1) (sI M' 96 j (snu s (24 * q + j))) (by omega) (g0.w (by decide)) (fun i i0 i1 => ?_) (fun i i0 i1 => ?_) he
      · rw [show (((j + 1 : Nat) : Int)) = (j : Int) + 1 by omega] at r1
        exact r1
      · by_cases c : i = (j : Int)
        · rw [c]
          exact fun q => q.elim (fun q => z q) (fun q => q y)
        · exact g1 i i0 (by omega)
      · rw [gI_up]
        by_cases c : i = (j : Int)
        · rw [c, up_s]
          rfl
        · rw [up_n c]
          exact g2 i i0 (by omega)
  exact key _ 0 M (by omega) (RW.rf h.1 ca).l (fun i i0 i1 => by omega) (fun i i0 i1 => by omega) hA
theorem sp_fw_0 {n : Int → Int} {sz : Int} {r : Int → Int} {day v : Int} {A : Int} (hS : RefOK M) (wh : wHst n) (dH : cHst n (gI M 27) (gI M 28) (gI M 29) (gI M 26 3)) (e2 : gI M 72 2 = sz) (e3 : ∀ i, 0 ≤ i → i < 24 → gI M 73 i = r i) (s24 : sz ≤ 24) (hA : pvA n sz r day v (n 6).toNat 0 = A) (hq1 : ∀ z, 0 ≤ z → z = A → Q M (some (vI z))) (hq2 : gdR n sz r (n 6) → (if day < endH n r then (100 : Int) else if v < smR n r (n 6).toNat then 101 else -1) = A → Q M (some (vI (-1)))) : Wq 2 0 0 mH_firstWrong 0 [iR 26, iR 72, none] [] M Q := by
  have h6 := wh.1
  refine B_H_firstWrong_s0_0 ?_
  have key : ∀ (f : Nat) (j : Nat), (j : Int) + f = n 6 → gdR n sz r j → pvA n sz r day v f j = A → Wq 2 0 0 mH_firstWrong 2 [iR 26, iR 72, iI j] [] M Q := by
    intro f
    induction f with
    | zero =>
      intro j hj g he
      have ej : (j : Int) = n 6 := by omega
      rw [ej] at g
      have he : (if n 6 < sz then n 6 else if day < endH n r then 100 else if v < smR n r (n 6).toNat then 101 else -1) = A := he
      refine B_H_firstWrong_s0_2 hS ?_
      rw [dH.1, e2]
      refine ⟨fun _ => ⟨fun z => ?_, fun z => ?_⟩, fun z => by omega⟩
      · rw [if_neg (by omega)] at he
        exact hq2 g he
      · rw [if_pos (by omega)] at he
        exact hq1 _ h6.1 he
    | succ f ih =>
      intro j hj g he
      have ih := ih (j + 1)
      rw [show (((j + 1 : Nat) : Int)) = (j : Int) + 1 by omega] at ih
      have he : (if sz ≤ (j : Int) ∨ ¬ (0 ≤ r j ∧ r j ≤ n (1019 + 3 * (j : Int))) then (j : Int) else pvA n sz r day v f (j + 1)) = A := he
      have bad : (sz ≤ (j : Int) ∨ ¬ (0 ≤ r j ∧ r j ≤ n (1019 + 3 * (j : Int)))) → Q M (some (vI (j : Int))) := fun z => by
        rw [if_pos z] at he
        exact hq1 _ (by omega) he
      refine B_H_firstWrong_s0_2 hS ?_
      rw [dH.1, e2, e3 j (by omega) (by omega), (dH.2 j (by omega) (by omega)).2.1]
      refine ⟨fun z => by omega, fun _ => ⟨fun z => bad (Or.inl z), fun z => ⟨by omega, fun y => ⟨by omega, ?_⟩, fun y => bad (Or.inr y)⟩⟩⟩
      rw [if_neg (fun q => q.elim (fun q => z q) (fun q => q y))] at he
      refine ih (by omega) (fun i i0 i1 => ?_) he
      by_cases c : i = (j : Int)
      · rw [c]
        exact fun q => q.elim (fun q => z q) (fun q => q y)
      · exact g i i0 (by omega)
  exact key _ 0 (by omega) (fun i i0 i1 => by omega) hA
theorem sp_fw_1 {n : Int → Int} {sz : Int} {r : Int → Int} {day v : Int} {A : Int} (hS : RefOK M) (wh : wHst n) (dH : cHst n (gI M 27) (gI M 28) (gI M 29) (gI M 26 3)) (e2 : gI M 74 2 = sz) (e3 : ∀ i, 0 ≤ i → i < 24 → gI M 75 i = r i) (s24 : sz ≤ 24) (hA : pvA n sz r day v (n 6).toNat 0 = A) (hq1 : ∀ z, 0 ≤ z → z = A → Q M (some (vI z))) (hq2 : gdR n sz r (n 6) → (if day < endH n r then (100 : Int) else if v < smR n r (n 6).toNat then 101 else -1) = A → Q M (some (vI (-1)))) : Wq 2 0 0 mH_firstWrong 0 [iR 26, iR 74, none] [] M Q := by
  have h6 := wh.1
  refine B_H_firstWrong_s1_0 ?_
  have key : ∀ (f : Nat) (j : Nat), (j : Int) + f = n 6 → gdR n sz r j → pvA n sz r day v f j = A → Wq 2 0 0 mH_firstWrong 2 [iR 26, iR 74, iI j] [] M Q := by
    intro f
    induction f with
    | zero =>
      intro j hj g he
      have ej : (j : Int) = n 6 := by omega
      rw [ej] at g
      have he : (if n 6 < sz then n 6 else if day < endH n r then 100 else if v < smR n r (n 6).toNat then 101 else -1) = A := he
      refine B_H_firstWrong_s1_2 hS ?_
      rw [dH.1, e2]
      refine ⟨fun _ => ⟨fun z => ?_, fun z => ?_⟩, fun z => by omega⟩
      · rw [if_neg (by omega)] at he
        exact hq2 g he
      · rw [if_pos (by omega)] at he
        exact hq1 _ h6.1 he
    | succ f ih =>
      intro j hj g he
      have ih := ih (j + 1)
      rw [show (((j + 1 : Nat) : Int)) = (j : Int) + 1 by omega] at ih
      have he : (if sz ≤ (j : Int) ∨ ¬ (0 ≤ r j ∧ r j ≤ n (1019 + 3 * (j : Int))) then (j : Int) else pvA n sz r day v f (j + 1)) = A := he
      have bad : (sz ≤ (j : Int) ∨ ¬ (0 ≤ r j ∧ r j ≤ n (1019 + 3 * (j : Int)))) → Q M (some (vI (j : Int))) := fun z => by
        rw [if_pos z] at he
        exact hq1 _ (by omega) he
      refine B_H_firstWrong_s1_2 hS ?_
      rw [dH.1, e2, e3 j (by omega) (by omega), (dH.2 j (by omega) (by omega)).2.1]
      refine ⟨fun z => by omega, fun _ => ⟨fun z => bad (Or.inl z), fun z => ⟨by omega, fun y => ⟨by omega, ?_⟩, fun y => bad (Or.inr y)⟩⟩⟩
      rw [if_neg (fun q => q.elim (fun q => z q) (fun q => q y))] at he
      refine ih (by omega) (fun i i0 i1 => ?_) he
      by_cases c : i = (j : Int)
      · rw [c]
        exact fun q => q.elim (fun q => z q) (fun q => q y)
      · exact g i i0 (by omega)
  exact key _ 0 (by omega) (fun i i0 i1 => by omega) hA
theorem sp_fw_2 {n : Int → Int} {sz : Int} {r : Int → Int} {day v : Int} {A : Int} (hS : RefOK M) (wh : wHst n) (dH : cHst n (gI M 27) (gI M 28) (gI M 29) (gI M 26 3)) (e2 : gI M 76 2 = sz) (e3 : ∀ i, 0 ≤ i → i < 24 → gI M 77 i = r i) (s24 : sz ≤ 24) (hA : pvA n sz r day v (n 6).toNat 0 = A) (hq1 : ∀ z, 0 ≤ z → z = A → Q M (some (vI z))) (hq2 : gdR n sz r (n 6) → (if day < endH n r then (100 : Int) else if v < smR n r (n 6).toNat then 101 else -1) = A → Q M (some (vI (-1)))) : Wq 2 0 0 mH_firstWrong 0 [iR 26, iR 76, none] [] M Q := by
  have h6 := wh.1
  refine B_H_firstWrong_s2_0 ?_
  have key : ∀ (f : Nat) (j : Nat), (j : Int) + f = n 6 → gdR n sz r j → pvA n sz r day v f j = A → Wq 2 0 0 mH_firstWrong 2 [iR 26, iR 76, iI j] [] M Q := by
    intro f
    induction f with
    | zero =>
      intro j hj g he
      have ej : (j : Int) = n 6 := by omega
      rw [ej] at g
      have he : (if n 6 < sz then n 6 else if day < endH n r then 100 else if v < smR n r (n 6).toNat then 101 else -1) = A := he
      refine B_H_firstWrong_s2_2 hS ?_
      rw [dH.1, e2]
      refine ⟨fun _ => ⟨fun z => ?_, fun z => ?_⟩, fun z => by omega⟩
      · rw [if_neg (by omega)] at he
        exact hq2 g he
      · rw [if_pos (by omega)] at he
        exact hq1 _ h6.1 he
    | succ f ih =>
      intro j hj g he
      have ih := ih (j + 1)
      rw [show (((j + 1 : Nat) : Int)) = (j : Int) + 1 by omega] at ih
      have he : (if sz ≤ (j : Int) ∨ ¬ (0 ≤ r j ∧ r j ≤ n (1019 + 3 * (j : Int))) then (j : Int) else pvA n sz r day v f (j + 1)) = A := he
      have bad : (sz ≤ (j : Int) ∨ ¬ (0 ≤ r j ∧ r j ≤ n (1019 + 3 * (j : Int)))) → Q M (some (vI (j : Int))) := fun z => by
        rw [if_pos z] at he
        exact hq1 _ (by omega) he
      refine B_H_firstWrong_s2_2 hS ?_
      rw [dH.1, e2, e3 j (by omega) (by omega), (dH.2 j (by omega) (by omega)).2.1]
      refine ⟨fun z => by omega, fun _ => ⟨fun z => bad (Or.inl z), fun z => ⟨by omega, fun y => ⟨by omega, ?_⟩, fun y => bad (Or.inr y)⟩⟩⟩
      rw [if_neg (fun q => q.elim (fun q => z q) (fun q => q y))] at he
      refine ih (by omega) (fun i i0 i1 => ?_) he
      by_cases c : i = (j : Int)
      · rw [c]
        exact fun q => q.elim (fun q => z q) (fun q => q y)
      · exact g i i0 (by omega)
  exact key _ 0 (by omega) (fun i i0 i1 => by omega) hA
theorem sp_fw_3 {n : Int → Int} {sz : Int} {r : Int → Int} {day v : Int} {A : Int} (hS : RefOK M) (wh : wHst n) (dH : cHst n (gI M 27) (gI M 28) (gI M 29) (gI M 26 3)) (e2 : gI M 78 2 = sz) (e3 : ∀ i, 0 ≤ i → i < 24 → gI M 79 i = r i) (s24 : sz ≤ 24) (hA : pvA n sz r day v (n 6).toNat 0 = A) (hq1 : ∀ z, 0 ≤ z → z = A → Q M (some (vI z))) (hq2 : gdR n sz r (n 6) → (if day < endH n r then (100 : Int) else if v < smR n r (n 6).toNat then 101 else -1) = A → Q M (some (vI (-1)))) : Wq 2 0 0 mH_firstWrong 0 [iR 26, iR 78, none] [] M Q := by
  have h6 := wh.1
  refine B_H_firstWrong_s3_0 ?_
  have key : ∀ (f : Nat) (j : Nat), (j : Int) + f = n 6 → gdR n sz r j → pvA n sz r day v f j = A → Wq 2 0 0 mH_firstWrong 2 [iR 26, iR 78, iI j] [] M Q := by
    intro f
    induction f with
    | zero =>
      intro j hj g he
      have ej : (j : Int) = n 6 := by omega
      rw [ej] at g
      have he : (if n 6 < sz then n 6 else if day < endH n r then 100 else if v < smR n r (n 6).toNat then 101 else -1) = A := he
      refine B_H_firstWrong_s3_2 hS ?_
      rw [dH.1, e2]
      refine ⟨fun _ => ⟨fun z => ?_, fun z => ?_⟩, fun z => by omega⟩
      · rw [if_neg (by omega)] at he
        exact hq2 g he
      · rw [if_pos (by omega)] at he
        exact hq1 _ h6.1 he
    | succ f ih =>
      intro j hj g he
      have ih := ih (j + 1)
      rw [show (((j + 1 : Nat) : Int)) = (j : Int) + 1 by omega] at ih
      have he : (if sz ≤ (j : Int) ∨ ¬ (0 ≤ r j ∧ r j ≤ n (1019 + 3 * (j : Int))) then (j : Int) else pvA n sz r day v f (j + 1)) = A := he
      have bad : (sz ≤ (j : Int) ∨ ¬ (0 ≤ r j ∧ r j ≤ n (1019 + 3 * (j : Int)))) → Q M (some (vI (j : Int))) := fun z => by
        rw [if_pos z] at he
        exact hq1 _ (by omega) he
      refine B_H_firstWrong_s3_2 hS ?_
      rw [dH.1, e2, e3 j (by omega) (by omega), (dH.2 j (by omega) (by omega)).2.1]
      refine ⟨fun z => by omega, fun _ => ⟨fun z => bad (Or.inl z), fun z => ⟨by omega, fun y => ⟨by omega, ?_⟩, fun y => bad (Or.inr y)⟩⟩⟩
      rw [if_neg (fun q => q.elim (fun q => z q) (fun q => q y))] at he
      refine ih (by omega) (fun i i0 i1 => ?_) he
      by_cases c : i = (j : Int)
      · rw [c]
        exact fun q => q.elim (fun q => z q) (fun q => q y)
      · exact g i i0 (by omega)
  exact key _ 0 (by omega) (fun i i0 i1 => by omega) hA
theorem c_proves {q day v : Int} (hw : WfS s) (h : CI s M) (hq : ∀ M', CI (o_proves s q day v).1 M' → FrC M M' → Q M' (some (vI (o_proves s q day v).2))) : Wq 5 0 0 mD_proves 0 [iR 0, iI q, iI day, iI v, none, none] [] M Q := by
  have wf' := hw.1
  obtain ⟨wd, wc, ww, wl, we, wt, wx, wh⟩ := hw.1
  have h6 := wh.1
  have d := h.2.1
  have dH := d.2.2.2.2.2.2.2
  by_cases hr : 0 ≤ q ∧ q ≤ 3
  · have h4 := h.2.2.2.2.2.1
    have hz := hw.2.2.2.1 q hr.1 hr.2
    have hqq : q = 0 ∨ q = 1 ∨ q = 2 ∨ q = 3 := by omega
    rcases hqq with rfl | rfl | rfl | rfl
    · obtain ⟨a1, a2, a3⟩ := h4.1
      refine B_D_proves_s0_0 h.1 ⟨fun _ => ⟨fun c2 => ⟨fun c3 => ?_, fun c3 => c_fnd h (by decide) (by decide) (by decide) (if_neg (fun z => c3 z.2.2)) hq⟩, fun c2 => c_fnd h (by decide) (by decide) (by decide) (if_neg (fun z => c2 z.2.1)) hq⟩, fun c => absurd (by decide) c⟩
      rw [a1]
      refine ⟨fun c4 => ?_, fun c4 => c_fnd h (by decide) (by decide) (by decide) ((if_pos ⟨hr, c2, c3⟩).trans (if_pos c4)) hq⟩
      rw [show o_proves s 0 day v = _ from (if_pos ⟨hr, c2, c3⟩).trans (if_neg c4)] at hq
      have fin : ∀ M', CW M M' → Q M' (some (vI (pvA (sn s) (ssz s 0) (rwS s 0) day v (sn s 6).toNat 0))) := fun M' g => hq M' (g.ci h) g.fr
      generalize hA : pvA (sn s) (ssz s 0) (rwS s 0) day v (sn s 6).toNat 0 = A at fin
      refine sp_fw_0 h.1 wh dH a2 a3 hz.2.2 hA (fun z z0 ez => B_D_proves_s0_64 h.1 ⟨fun y => by omega, fun _ => ?_⟩) (fun g he => B_D_proves_s0_64 h.1 ⟨fun _ => ?_, fun y => by omega⟩)
      · rw [ez]
        exact fin M (CW.rf h.1)
      · have ok := gd_ok g
        refine sp_D_knownToday h.1 we d (B_D_proves_s0_84 (sp_D_endHurried_73 h.1 wf' d ok (fun i i0 i1 => a3 i i0 (by omega)) (fun M1 p => B_D_proves_s0_87 p.1 ⟨fun y => ?_, fun y => ?_⟩)))
        · rw [if_neg (by omega)] at he
          refine sp_H_sumOf_73 p.1 wh (p.s0 d).2.2.2.2.2.2.2 ok (fun i i0 i1 => by rw [p.2.1 73 (by decide)]; exact a3 i i0 (by omega)) (B_D_proves_s0_109 ⟨fun x => ?_, fun x => ?_⟩)
          · rw [if_neg (by omega)] at he
            rw [he]
            exact fin M1 p
          · rw [if_pos (by omega)] at he
            rw [he]
            exact fin M1 p
        · rw [if_pos (by omega)] at he
          rw [he]
          exact fin M1 p
    · obtain ⟨a1, a2, a3⟩ := h4.2.1
      refine B_D_proves_s1_0 h.1 ⟨fun _ => ⟨fun c2 => ⟨fun c3 => ?_, fun c3 => c_fnd h (by decide) (by decide) (by decide) (if_neg (fun z => c3 z.2.2)) hq⟩, fun c2 => c_fnd h (by decide) (by decide) (by decide) (if_neg (fun z => c2 z.2.1)) hq⟩, fun c => absurd (by decide) c⟩
      rw [a1]
      refine ⟨fun c4 => ?_, fun c4 => c_fnd h (by decide) (by decide) (by decide) ((if_pos ⟨hr, c2, c3⟩).trans (if_pos c4)) hq⟩
      rw [show o_proves s 1 day v = _ from (if_pos ⟨hr, c2, c3⟩).trans (if_neg c4)] at hq
      have fin : ∀ M', CW M M' → Q M' (some (vI (pvA (sn s) (ssz s 1) (rwS s 1) day v (sn s 6).toNat 0))) := fun M' g => hq M' (g.ci h) g.fr
      generalize hA : pvA (sn s) (ssz s 1) (rwS s 1) day v (sn s 6).toNat 0 = A at fin
      refine sp_fw_1 h.1 wh dH a2 a3 hz.2.2 hA (fun z z0 ez => B_D_proves_s1_64 h.1 ⟨fun y => by omega, fun _ => ?_⟩) (fun g he => B_D_proves_s1_64 h.1 ⟨fun _ => ?_, fun y => by omega⟩)
      · rw [ez]
        exact fin M (CW.rf h.1)
      · have ok := gd_ok g
        refine sp_D_knownToday h.1 we d (B_D_proves_s1_84 (sp_D_endHurried_75 h.1 wf' d ok (fun i i0 i1 => a3 i i0 (by omega)) (fun M1 p => B_D_proves_s1_87 p.1 ⟨fun y => ?_, fun y => ?_⟩)))
        · rw [if_neg (by omega)] at he
          refine sp_H_sumOf_75 p.1 wh (p.s0 d).2.2.2.2.2.2.2 ok (fun i i0 i1 => by rw [p.2.1 75 (by decide)]; exact a3 i i0 (by omega)) (B_D_proves_s1_109 ⟨fun x => ?_, fun x => ?_⟩)
          · rw [if_neg (by omega)] at he
            rw [he]
            exact fin M1 p
          · rw [if_pos (by omega)] at he
            rw [he]
            exact fin M1 p
        · rw [if_pos (by omega)] at he
          rw [he]
          exact fin M1 p
    · obtain ⟨a1, a2, a3⟩ := h4.2.2.1
      refine B_D_proves_s2_0 h.1 ⟨fun _ => ⟨fun c2 => ⟨fun c3 => ?_, fun c3 => c_fnd h (by decide) (by decide) (by decide) (if_neg (fun z => c3 z.2.2)) hq⟩, fun c2 => c_fnd h (by decide) (by decide) (by decide) (if_neg (fun z => c2 z.2.1)) hq⟩, fun c => absurd (by decide) c⟩
      rw [a1]
      refine ⟨fun c4 => ?_, fun c4 => c_fnd h (by decide) (by decide) (by decide) ((if_pos ⟨hr, c2, c3⟩).trans (if_pos c4)) hq⟩
      rw [show o_proves s 2 day v = _ from (if_pos ⟨hr, c2, c3⟩).trans (if_neg c4)] at hq
      have fin : ∀ M', CW M M' → Q M' (some (vI (pvA (sn s) (ssz s 2) (rwS s 2) day v (sn s 6).toNat 0))) := fun M' g => hq M' (g.ci h) g.fr
      generalize hA : pvA (sn s) (ssz s 2) (rwS s 2) day v (sn s 6).toNat 0 = A at fin
      refine sp_fw_2 h.1 wh dH a2 a3 hz.2.2 hA (fun z z0 ez => B_D_proves_s2_64 h.1 ⟨fun y => by omega, fun _ => ?_⟩) (fun g he => B_D_proves_s2_64 h.1 ⟨fun _ => ?_, fun y => by omega⟩)
      · rw [ez]
        exact fin M (CW.rf h.1)
      · have ok := gd_ok g
        refine sp_D_knownToday h.1 we d (B_D_proves_s2_84 (sp_D_endHurried_77 h.1 wf' d ok (fun i i0 i1 => a3 i i0 (by omega)) (fun M1 p => B_D_proves_s2_87 p.1 ⟨fun y => ?_, fun y => ?_⟩)))
        · rw [if_neg (by omega)] at he
          refine sp_H_sumOf_77 p.1 wh (p.s0 d).2.2.2.2.2.2.2 ok (fun i i0 i1 => by rw [p.2.1 77 (by decide)]; exact a3 i i0 (by omega)) (B_D_proves_s2_109 ⟨fun x => ?_, fun x => ?_⟩)
          · rw [if_neg (by omega)] at he
            rw [he]
            exact fin M1 p
          · rw [if_pos (by omega)] at he
            rw [he]
            exact fin M1 p
        · rw [if_pos (by omega)] at he
          rw [he]
          exact fin M1 p
    · obtain ⟨a1, a2, a3⟩ := h4.2.2.2
      refine B_D_proves_s3_0 h.1 ⟨fun _ => ⟨fun c2 => ⟨fun c3 => ?_, fun c3 => c_fnd h (by decide) (by decide) (by decide) (if_neg (fun z => c3 z.2.2)) hq⟩, fun c2 => c_fnd h (by decide) (by decide) (by decide) (if_neg (fun z => c2 z.2.1)) hq⟩, fun c => absurd (by decide) c⟩
      rw [a1]
      refine ⟨fun c4 => ?_, fun c4 => c_fnd h (by decide) (by decide) (by decide) ((if_pos ⟨hr, c2, c3⟩).trans (if_pos c4)) hq⟩
      rw [show o_proves s 3 day v = _ from (if_pos ⟨hr, c2, c3⟩).trans (if_neg c4)] at hq
      have fin : ∀ M', CW M M' → Q M' (some (vI (pvA (sn s) (ssz s 3) (rwS s 3) day v (sn s 6).toNat 0))) := fun M' g => hq M' (g.ci h) g.fr
      generalize hA : pvA (sn s) (ssz s 3) (rwS s 3) day v (sn s 6).toNat 0 = A at fin
      refine sp_fw_3 h.1 wh dH a2 a3 hz.2.2 hA (fun z z0 ez => B_D_proves_s3_64 h.1 ⟨fun y => by omega, fun _ => ?_⟩) (fun g he => B_D_proves_s3_64 h.1 ⟨fun _ => ?_, fun y => by omega⟩)
      · rw [ez]
        exact fin M (CW.rf h.1)
      · have ok := gd_ok g
        refine sp_D_knownToday h.1 we d (B_D_proves_s3_84 (sp_D_endHurried_79 h.1 wf' d ok (fun i i0 i1 => a3 i i0 (by omega)) (fun M1 p => B_D_proves_s3_87 p.1 ⟨fun y => ?_, fun y => ?_⟩)))
        · rw [if_neg (by omega)] at he
          refine sp_H_sumOf_79 p.1 wh (p.s0 d).2.2.2.2.2.2.2 ok (fun i i0 i1 => by rw [p.2.1 79 (by decide)]; exact a3 i i0 (by omega)) (B_D_proves_s3_109 ⟨fun x => ?_, fun x => ?_⟩)
          · rw [if_neg (by omega)] at he
            rw [he]
            exact fin M1 p
          · rw [if_pos (by omega)] at he
            rw [he]
            exact fin M1 p
        · rw [if_pos (by omega)] at he
          rw [he]
          exact fin M1 p
  · exact B_D_proves_0 h.1 ⟨fun c => absurd c hr, fun c => c_fnd h (by decide) (by decide) (by decide) (if_neg (fun z => hr z.1)) hq⟩
end OPY
