/-! ===== clause ===== -/
section OPR
variable {s : St} {M : Mm} {Q : Mm → Option Mv → Prop} {n : Int → Int}
def tpe (n : Int → Int) : Int → Int := fun i => n (1933 + i)
/-- what the tape is read to -/
def cRun (n : Int → Int) : PS := (pRun (tpe n) (n 7) (fun _ => 0)).1
def badR (n : Int → Int) : Bool := (cRun n).2.2.1 || decide ((cRun n).1 < n 7)
def clN (n : Int → Int) (u fr : Int) : Int → Int := fun i => if i = 5 then n 5 + 1 else if i = 7 then 0 else if i = 288 + 73 * n 5 then u else if i = 289 + 73 * n 5 then fr else if i = 290 + 73 * n 5 then ((cRun n).2.2.2.length : Int) else if 291 + 73 * n 5 ≤ i ∧ i < 291 + 73 * n 5 + ((cRun n).2.2.2.length : Int) then (cRun n).2.2.2.getD (i - (291 + 73 * n 5)).toNat 0 else n i
theorem cRun_b (wt : wTap n) : (0 ≤ (cRun n).1 ∧ (cRun n).1 ≤ n 7) ∧ ((cRun n).2.2.2.length : Int) ≤ (cRun n).1 := by
  have m := pP_m (tpe n) (n 7) (fun _ => 0) (2000 + (n 7).toNat) 0 ((0, 0, false, []), 0)
  have g := pP_g (tpe n) (n 7) (fun _ => 0) (2000 + (n 7).toNat) 0 ((0, 0, false, []), 0)
  have k := pP_k (tpe n) (n 7) (fun _ => 0) (2000 + (n 7).toNat) 0 ((0, 0, false, []), 0)
  have k : kk (cRun n) ≤ 0 := k
  unfold kk at k
  exact ⟨⟨m.1, g.1 wt.1.1⟩, by omega⟩
theorem clN_o {u fr i : Int} (wt : wTap n) (h5 : i ≠ 5) (h7 : i ≠ 7) (h : i < 288 + 73 * n 5 ∨ 361 + 73 * n 5 ≤ i) : clN n u fr i = n i := by
  have b := cRun_b wt
  have t7 := wt.1
  unfold clN
  rw [if_neg h5, if_neg h7, if_neg (by omega), if_neg (by omega), if_neg (by omega), if_neg (by omega)]
theorem clN_c {u fr : Int} (k : Nat) (h5 : 0 ≤ n 5) (hk : k < (cRun n).2.2.2.length) : clN n u fr (291 + 73 * n 5 + k) = (cRun n).2.2.2.getD k 0 := by
  unfold clN
  rw [if_neg (by omega), if_neg (by omega), if_neg (by omega), if_neg (by omega), if_neg (by omega), if_pos (by omega), show (291 + 73 * n 5 + (k : Int) - (291 + 73 * n 5)).toNat = k by omega]
theorem clN_5 {u fr : Int} : clN n u fr 5 = n 5 + 1 := if_pos rfl
theorem clN_7 {u fr : Int} : clN n u fr 7 = 0 := by
  unfold clN
  rw [if_neg (by decide), if_pos rfl]
theorem clN_8 {u fr : Int} (h5 : 0 ≤ n 5) : clN n u fr (288 + 73 * n 5) = u ∧ clN n u fr (289 + 73 * n 5) = fr ∧ clN n u fr (290 + 73 * n 5) = ((cRun n).2.2.2.length : Int) := by
  unfold clN
  refine ⟨?_, ?_, ?_⟩
  · rw [if_neg (by omega), if_neg (by omega), if_pos rfl]
  · rw [if_neg (by omega), if_neg (by omega), if_neg (by omega), if_pos rfl]
  · rw [if_neg (by omega), if_neg (by omega), if_neg (by omega), if_neg (by omega), if_pos rfl]
/-- a text that is read without a fault, and its code -/
theorem clN_Tx {u fr : Int} (wt : wTap n) (wx : wCls n) (hb : badR n = false) : Tx (tpe n) (n 7) (fun k => clN n u fr (291 + 73 * n 5 + k)) (clN n u fr (290 + 73 * n 5)) := by
  have t7 := wt.1
  have b := cRun_b wt
  unfold badR at hb
  rw [Bool.or_eq_false_iff, decide_eq_false_iff_not] at hb
  have r1 := pRun_1 t7.1 t7.2 (show (pRun (tpe n) (n 7) (fun _ => 0)).1.2.2.1 = false from hb.1)
  have r1 : 1 ≤ (cRun n).2.2.2.length := r1.1
  rw [(clN_8 wx.1.1).2.2]
  refine ⟨⟨by omega, t7.2⟩, hb.1, ?_, rfl, fun k hk => ?_⟩
  · show (cRun n).1 = n 7
    omega
  · show (cRun n).2.2.2[k]? = some (clN n u fr (291 + 73 * n 5 + (k : Int)))
    rw [clN_c k wx.1.1 (by omega)]
    simp [List.getD, List.getElem?_eq_getElem (show k < (cRun n).2.2.2.length by omega)]
theorem Tx.t {t t' cd : Int → Int} {len size : Int} (h : Tx t len cd size) (e : ∀ i, 0 ≤ i → i < len → t' i = t i) : Tx t' len cd size := by
  unfold Tx at *
  rw [pRun_cg (nu := fun _ => 0) (nu' := fun _ => 0) e (fun _ _ _ _ => rfl)]
  exact h
def o_clause (s : St) (u fr : Int) : St × Int := if (0 ≤ u ∧ u ≤ 1) ∧ (0 ≤ fr ∧ fr ≤ 900) then (if sn s 5 = 10 then fnd s 4 else if badR (sn s) = true then (wN s (up (sn s) 7 0), -10 - (cRun (sn s)).1) else (wN s (clN (sn s) u fr), sn s 5)) else fnd s 1
theorem wf_up7 (h : WfN n) : WfN (up n 7 0) := by
  obtain ⟨wd, wc, ww, wl, we, wt, wx, wh⟩ := h
  have o : ∀ i, i ≠ 7 → up n 7 0 i = n i := fun i hi => up_n hi
  refine ⟨wd.cg (o 0 (by decide)), wc.cg (o 1 (by decide)) (fun i a b => o i (by omega)), ww.cg (o 2 (by decide)) (fun i a b => o i (by omega)), wl.cg (o 2 (by decide)) (o 3 (by decide)) (fun i a b => o i (by omega)), we.cg (o 0 (by decide)) (o 2 (by decide)) (o 4 (by decide)) (fun i a b => o i (by omega)), ?_, wx.cg (o 5 (by decide)) (fun i a b => o i (by omega)), wh.cg (o 2 (by decide)) (o 6 (by decide)) ww.1.2 (fun i a b => o i (by omega)) (fun i a b => o i (by omega))⟩
  unfold wTap
  rw [up_s]
  exact ⟨by decide, fun i i0 i1 => by omega⟩
theorem wf_cl {u fr : Int} (h : WfN n) (h5 : n 5 ≠ 10) (hu : 0 ≤ u ∧ u ≤ 1) (hf : 0 ≤ fr ∧ fr ≤ 900) (hb : badR n = false) : WfN (clN n u fr) := by
  obtain ⟨wd, wc, ww, wl, we, wt, wx, wh⟩ := h
  have x5 := wx.1
  have o : ∀ i, i ≠ 5 → i ≠ 7 → (i < 288 ∨ 1018 ≤ i) → clN n u fr i = n i := fun i a b c => clN_o wt a b (by omega)
  refine ⟨wd.cg (o 0 (by decide) (by decide) (by decide)), wc.cg (o 1 (by decide) (by decide) (by decide)) (fun i a b => o i (by omega) (by omega) (by omega)), ww.cg (o 2 (by decide) (by decide) (by decide)) (fun i a b => o i (by omega) (by omega) (by omega)), wl.cg (o 2 (by decide) (by decide) (by decide)) (o 3 (by decide) (by decide) (by decide)) (fun i a b => o i (by omega) (by omega) (by omega)), we.cg (o 0 (by decide) (by decide) (by decide)) (o 2 (by decide) (by decide) (by decide)) (o 4 (by decide) (by decide) (by decide)) (fun i a b => o i (by omega) (by omega) (by omega)), ?_, ?_, wh.cg (o 2 (by decide) (by decide) (by decide)) (o 6 (by decide) (by decide) (by decide)) ww.1.2 (fun i a b => o i (by omega) (by omega) (by omega)) (fun i a b => o i (by omega) (by omega) (by omega))⟩
  · unfold wTap
    rw [clN_7]
    exact ⟨by decide, fun i i0 i1 => by omega⟩
  · unfold wCls
    rw [clN_5]
    refine ⟨by omega, fun c c0 c1 => ?_⟩
    by_cases e : c = n 5
    · subst e
      have k := clN_8 (u := u) (fr := fr) (n := n) x5.1
      refine ⟨by rw [k.1]; omega, by rw [k.2.1]; exact hf, tpe n, n 7, clN_Tx wt wx hb⟩
    · obtain ⟨a, b, t, len, T⟩ := wx.2 c c0 (by omega)
      have sz := T.sz
      have p : ∀ i, i ≠ 5 → i ≠ 7 → i < 288 + 73 * n 5 → clN n u fr i = n i := fun i z y q => clN_o wt z y (Or.inl q)
      refine ⟨by rw [p _ (by omega) (by omega) (by omega)]; exact a, by rw [p _ (by omega) (by omega) (by omega)]; exact b, t, len, ?_⟩
      rw [p (290 + 73 * c) (by omega) (by omega) (by omega)]
      exact T.cg (fun k hk => p _ (by omega) (by omega) (by omega))
theorem w_clause {u fr : Int} (hw : WfS s) : WfS (o_clause s u fr).1 := by
  unfold o_clause
  split
  · rename_i c
    split
    · exact hw.fnd
    · rename_i c2
      split
      · exact hw.to (wf_up7 hw.1)
      · rename_i c3
        exact hw.to (wf_cl hw.1 c2 c.1 c.2 (by simpa using c3))
  · exact hw.fnd
theorem c_clause {u fr : Int} (hw : WfS s) (h : CI s M) (hq : ∀ M', CI (o_clause s u fr).1 M' → FrC M M' → Q M' (some (vI (o_clause s u fr).2))) : Wq 52 0 0 mD_clause 0 [iR 0, iI u, iI fr, none, none] [] M Q := by
  obtain ⟨d0, dC, dW, dL, dE, dT, dX, dH⟩ := h.2.1
  have hwn := hw.1
  obtain ⟨wd, wc, ww, wl, we, wt, wx, wh⟩ := hw.1
  have t7 := wt.1
  have x5 := wx.1
  refine B_D_clause_0 h.1 ?_
  rw [dX.1, dT.1]
  refine ⟨fun c => ⟨fun c2 => ⟨fun c3 => ?_, fun c3 => c_fnd h (by decide) (by decide) (by decide) ((if_pos ⟨by omega, c2⟩).trans (if_pos (by omega))) hq⟩, fun c2 => c_fnd h (by decide) (by decide) (by decide) (if_neg (fun z => c2 z.2)) hq⟩, fun c => c_fnd h (by decide) (by decide) (by decide) (if_neg (fun z => c (by omega))) hq⟩
  rw [show o_clause s u fr = _ from (if_pos ⟨by omega, c2⟩).trans (if_neg (by omega))] at hq
  refine B_R_readt_0 ⟨by omega, ?_⟩
  generalize hMi : sI (sI (sI (sI (sI (sR M 63 1 (some 21)) 63 2 0) 63 3 (0 + sn s 7)) 63 4 0) 63 5 0) 63 6 0 = Mi
  have ri : RefOK Mi := by rw [← hMi]; exact h.1.sR
  have oi : ∀ b : Nat, b ≠ 63 → gI Mi b = gI M b := fun b hb => by
    rw [← hMi, gI_ot hb, gI_ot hb, gI_ot hb, gI_ot hb, gI_ot hb]
    rfl
  have li : gL Mi = gL M := by rw [← hMi]; rfl
  have B : CB (tpe (sn s)) 0 (sn s 7) (gI M 64) 21 Mi := ⟨t7, by decide, Or.inl ⟨rfl, rfl⟩, fun i i0 i1 => by rw [oi 21 (by decide), show (0 : Int) + i = i by omega]; exact dT.2 i i0 i1, fun i _ _ => by rw [oi 64 (by decide)]⟩
  have X : CX 0 (sn s 7) 21 Mi (0, 0, false, []) Mi := by
    refine ⟨ri, by rw [← hMi]; rfl, fun _ _ => rfl, rfl, ?_, ?_, ?_, ?_, ?_, ⟨Int.le_refl _, t7.1⟩, by decide⟩
    · rw [← hMi, gI_up, up_n (by decide), gI_up, up_n (by decide), gI_up, up_n (by decide), gI_up, up_n (by decide), gI_up, up_s]
    · rw [← hMi, gI_up, up_n (by decide), gI_up, up_n (by decide), gI_up, up_n (by decide), gI_up, up_s]
    · rw [← hMi, gI_up, up_n (by decide), gI_up, up_n (by decide), gI_up, up_s]
      rfl
    · rw [← hMi, gI_up, up_n (by decide), gI_up, up_s]
    · rw [← hMi, gI_up, up_s]
      rfl
  refine rdC B (2000 + (sn s 7).toNat) 0 47 (0, 0, false, []) 0 0 Mi _ X (by simp only [fk]; omega) (by simp only [dk]; omega) (by decide) (fun M1 h1 => ?_)
  generalize (pP (tpe (sn s)) (sn s 7) (gI M 64) (2000 + (sn s 7).toNat) 0 ((0, 0, false, []), 0)).2 = val
  have er : (pP (tpe (sn s)) (sn s 7) (gI M 64) (2000 + (sn s 7).toNat) 0 ((0, 0, false, []), 0)).1 = cRun (sn s) := pP_nu _ _ _ _ _
  rw [er] at h1
  obtain ⟨g0, gr, g1, g3, g4, g5, g6, g7, g8, g9, g10⟩ := h1
  have bad : badR (sn s) = true ↔ ((cRun (sn s)).2.2.1 = true ∨ (cRun (sn s)).1 < sn s 7) := by
    unfold badR
    rw [Bool.or_eq_true, decide_eq_true_iff]
  -- behind the reading
  have fin : ∀ z, (z = if badR (sn s) = true then 1 else 0) → Wq 52 0 0 mD_clause 61 [iR 0, iI u, iI fr, iR 20, none] [vI val] (sI M1 63 6 z) Q := by
    intro z hz
    have o2 : ∀ b : Nat, b ≠ 63 → gI (sI M1 63 6 z) b = gI M b := fun b hb => by rw [gI_ot hb, g1 b hb, oi b hb]
    have C1 : CI s (sI M1 63 6 z) := h.wk g0 (fun b hb => o2 b (by omega)) (show gL M1 = gL M by rw [g3, li])
    have a6 : gI (sI M1 63 6 z) 63 6 = z := by rw [gI_up, up_s]
    have a4 : gI (sI M1 63 6 z) 63 4 = (cRun (sn s)).1 := by
      rw [gI_up, up_n (by decide), g6]
      omega
    have a2 : gI (sI M1 63 6 z) 63 2 = 0 := by rw [gI_up, up_n (by decide), g4]
    have r20 : gI (sI M1 63 6 z) 20 = gI M 20 := o2 20 (by decide)
    generalize sI M1 63 6 z = M2 at o2 C1 a6 a4 a2 r20
    obtain ⟨e0, eC, eW, eL, eE, eT, eX, eH⟩ := C1.2.1
    refine B_D_clause_61 C1.1 (B_R_fault_0 ?_)
    rw [a6, a4, a2]
    by_cases hb : badR (sn s) = true
    · rw [if_pos hb] at hz hq
      refine ⟨fun y => by omega, fun _ => ⟨by omega, B_D_clause_69 ⟨fun y => by omega, fun _ => ⟨by omega, ?_⟩⟩⟩⟩
      rw [show (-10 : Int) - ((cRun (sn s)).1 - 0) = -10 - (cRun (sn s)).1 by omega]
      have o : ∀ i, i ≠ 7 → up (sn s) 7 0 i = sn s i := fun i hi => up_n hi
      refine hq _ (C1.to C1.1 ⟨?_, ?_, ?_, ?_, ?_, ?_, ?_, ?_⟩ (fun b hb => gI_ot (by omega)) rfl) (fun a i q => by rw [gI_ot (by omega), o2 a (by omega)])
      · rw [gI_ot (by decide)]
        exact e0.trans (o 0 (by decide)).symm
      · rw [gI_ot (by decide), gI_ot (by decide)]
        exact eC.cg (o 1 (by decide)) (fun i a b => o i (by omega))
      · rw [gI_ot (by decide), gI_ot (by decide), gI_ot (by decide), gI_ot (by decide)]
        exact eW.cg ww.1.2 (o 2 (by decide)) (fun i a b => o i (by omega))
      · rw [gI_ot (by decide), gI_ot (by decide), gI_ot (by decide), gI_ot (by decide)]
        exact eL.cg wl.1.2 (o 2 (by decide)) (o 3 (by decide)) (fun i a b => o i (by omega))
      · rw [gI_ot (by decide), gI_ot (by decide), gI_ot (by decide), gI_ot (by decide), gI_ot (by decide), gI_ot (by decide), gI_ot (by decide), gI_ot (by decide)]
        exact eE.cg we.1.2 (o 4 (by decide)) (fun i a b => o i (by omega))
      · rw [gI_ot (by decide), gI_up, up_s]
        exact ⟨up_s.symm, fun i i0 i1 => by rw [up_s] at i1; omega⟩
      · rw [gI_ot (by decide), gI_ot (by decide), gI_ot (by decide), gI_ot (by decide), gI_up, up_n (by decide)]
        exact eX.cg wx.1.2 (o 5 (by decide)) (fun i a b => o i (by omega))
      · rw [gI_ot (by decide), gI_ot (by decide), gI_ot (by decide), gI_ot (by decide)]
        exact eH.cg wh.1.2 (o 6 (by decide)) (fun i a b => o i (by omega))
    · rw [if_neg hb] at hz hq
      have hb : badR (sn s) = false := by simpa using hb
      refine ⟨fun _ => B_D_clause_69 ⟨fun _ => B_C_add_0 C1.1 ?_, fun y => by omega⟩, fun y => absurd hz y⟩
      rw [eX.1, eT.1]
      refine ⟨⟨by omega, by omega, by omega, by omega, by omega⟩, B_D_clause_93 ?_⟩
      generalize hM3 : sI (sI (sI (sI (sI (cI M2 21 0 22 (sn s 5 * 60) (sn s 7)) 23 (sn s 5) (sn s 7)) 24 (sn s 5) u) 25 (sn s 5) fr) 20 5 0) 20 6 (sn s 5 + 1) = M3
      have r3 : RefOK M3 := by rw [← hM3]; exact C1.1
      have k : ∀ b : Nat, (b < 20 ∨ b = 21 ∨ 26 ≤ b) → gI M3 b = gI M2 b := fun b hb => by rw [← hM3, gI_ot (by omega), gI_ot (by omega), gI_ot (by omega), gI_ot (by omega), gI_ot (by omega), gI_cO (by omega)]
      have l3 : gL M3 = gL M2 := by rw [← hM3]; rfl
      have q5 : gI M3 20 5 = 0 := by rw [← hM3, gI_up, up_n (by decide), gI_up, up_s]
      have q6 : gI M3 20 6 = sn s 5 + 1 := by rw [← hM3, gI_up, up_s]
      have q25 : gI M3 25 = up (gI M2 25) (sn s 5) fr := by rw [← hM3, gI_ot (by decide), gI_ot (by decide), gI_up, gI_ot (by decide), gI_ot (by decide), gI_cO (by decide)]
      have q24 : gI M3 24 = up (gI M2 24) (sn s 5) u := by rw [← hM3, gI_ot (by decide), gI_ot (by decide), gI_ot (by decide), gI_up, gI_ot (by decide), gI_cO (by decide)]
      have q23 : gI M3 23 = up (gI M2 23) (sn s 5) (sn s 7) := by rw [← hM3, gI_ot (by decide), gI_ot (by decide), gI_ot (by decide), gI_ot (by decide), gI_up, gI_cO (by decide)]
      have q22 : gI M3 22 = gI (cI M2 21 0 22 (sn s 5 * 60) (sn s 7)) 22 := by rw [← hM3, gI_ot (by decide), gI_ot (by decide), gI_ot (by decide), gI_ot (by decide), gI_ot (by decide)]
      have o : ∀ i, i ≠ 5 → i ≠ 7 → (i < 288 ∨ 1018 ≤ i) → clN (sn s) u fr i = sn s i := fun i a b c => clN_o wt a b (by omega)
      refine hq M3 (C1.to r3 ⟨?_, ?_, ?_, ?_, ?_, ?_, ?_, ?_⟩ (fun b hb => k b (by omega)) (by rw [l3])) (fun a i q => by rw [k a (by omega), o2 a (by omega)])
      · rw [k 1 (by decide)]
        exact e0.trans (o 0 (by decide) (by decide) (by decide)).symm
      · rw [l3, k 4 (by decide), k 2 (by decide)]
        exact eC.cg (o 1 (by decide) (by decide) (by decide)) (fun i a b => o i (by omega) (by omega) (by omega))
      · rw [k 6 (by decide), k 7 (by decide), k 8 (by decide), k 5 (by decide)]
        exact eW.cg ww.1.2 (o 2 (by decide) (by decide) (by decide)) (fun i a b => o i (by omega) (by omega) (by omega))
      · rw [k 9 (by decide), k 10 (by decide), k 11 (by decide), k 5 (by decide)]
        exact eL.cg wl.1.2 (o 2 (by decide) (by decide) (by decide)) (o 3 (by decide) (by decide) (by decide)) (fun i a b => o i (by omega) (by omega) (by omega))
      · rw [k 13 (by decide), k 14 (by decide), k 15 (by decide), k 16 (by decide), k 17 (by decide), k 18 (by decide), k 19 (by decide), k 12 (by decide)]
        exact eE.cg we.1.2 (o 4 (by decide) (by decide) (by decide)) (fun i a b => o i (by omega) (by omega) (by omega))
      · rw [q5]
        exact ⟨clN_7.symm, fun i i0 i1 => by rw [clN_7] at i1; omega⟩
      · rw [q6, q22, q23, q24, q25]
        refine ⟨clN_5.symm, fun c' c0 c1 => ?_⟩
        rw [clN_5] at c1
        by_cases e : c' = sn s 5
        · subst e
          have kk8 := clN_8 (u := u) (fr := fr) (n := sn s) x5.1
          rw [up_s, up_s, up_s, kk8.1, kk8.2.1]
          refine ⟨rfl, rfl, (clN_Tx wt wx hb).t (fun i i0 i1 => ?_)⟩
          show (if 0 ≤ i ∧ i < 60 then _ else _) = _
          rw [if_pos (by omega), gI_cI (by omega) (by omega), show (0 : Int) + (sn s 5 * 60 + i - sn s 5 * 60) = i by omega]
          exact eT.2 i i0 i1
        · rw [up_n e, up_n e, up_n e]
          obtain ⟨a, b, T⟩ := eX.2 c' c0 (by omega)
          have sz := T.sz
          have p : ∀ i, i ≠ 5 → i ≠ 7 → i < 288 + 73 * sn s 5 → clN (sn s) u fr i = sn s i := fun i z y q => clN_o wt z y (Or.inl q)
          refine ⟨by rw [p _ (by omega) (by omega) (by omega)]; exact a, by rw [p _ (by omega) (by omega) (by omega)]; exact b, ?_⟩
          rw [p (290 + 73 * c') (by omega) (by omega) (by omega)]
          refine (T.cg (fun k hk => p _ (by omega) (by omega) (by omega))).t (fun i i0 i1 => ?_)
          have l60 := T.1
          show (if 0 ≤ i ∧ i < 60 then _ else _) = (if 0 ≤ i ∧ i < 60 then _ else _)
          rw [if_pos (by omega), if_pos (by omega)]
          have : gI (cI M2 21 0 22 (sn s 5 * 60) (sn s 7)) 22 (c' * 60 + i) = gI M2 22 (c' * 60 + i) := if_neg (fun z => by omega)
          rw [this]
      · rw [k 27 (by decide), k 28 (by decide), k 29 (by decide), k 26 (by decide)]
        exact eH.cg wh.1.2 (o 6 (by decide) (by decide) (by decide)) (fun i a b => o i (by omega) (by omega) (by omega))
  have fl : gI M1 63 6 = 0 → (cRun (sn s)).2.2.1 = false := fun z => by
    cases hb : (cRun (sn s)).2.2.1
    · rfl
    · rw [g8, hb] at z
      exact absurd z (by decide)
  refine B_R_readt_36 ⟨fun z => fin 1 ?_, fun z => ⟨fun y => fin 0 ?_, fun y => fin 1 ?_⟩⟩
  · rw [if_pos (bad.2 (Or.inl ?_))]
    cases hb : (cRun (sn s)).2.2.1
    · rw [g8, hb] at z
      exact absurd rfl z
    · rfl
  · rw [if_neg (fun q => ?_)]
    rcases bad.1 q with q | q
    · rw [fl z] at q
      exact absurd q (by decide)
    · omega
  · rw [if_pos (bad.2 (Or.inr (by omega)))]
end OPR
