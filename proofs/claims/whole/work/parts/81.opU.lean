section OPU
variable {s : St} {M : Mm} {Q : Mm → Option Mv → Prop} {n : Int → Int}
/-- the class: the cells of the plan and of the reader alone are written -/
def CV (M M' : Mm) : Prop := RefOK M' ∧ (∀ b : Nat, ¬ (59 ≤ b ∧ b ≤ 65) → gI M' b = gI M b) ∧ gL M' = gL M
theorem CV.rf (h : RefOK M) : CV M M := ⟨h, fun _ _ => rfl, rfl⟩
theorem CW.v {M' : Mm} (h : CW M M') : CV M M' := ⟨h.1, fun b hb => h.2.1 b (by omega), h.2.2⟩
theorem CV.tr {M1 M2 : Mm} (h : CV M M1) (g : CV M1 M2) : CV M M2 := ⟨g.1, fun b hb => (g.2.1 b hb).trans (h.2.1 b hb), g.2.2.trans h.2.2⟩
theorem CV.ci {M' : Mm} (h : CV M M') (c : CI s M) : CI s M' := c.wk h.1 (fun b hb => h.2.1 b (by omega)) h.2.2
theorem CV.fr {M' : Mm} (h : CV M M') : FrC M M' := fun a i q => by rw [h.2.1 a (by omega)]
theorem CV.w {M' : Mm} {a : Nat} {i v : Int} (h : CV M M') (ha : 59 ≤ a ∧ a ≤ 65) : CV M (sI M' a i v) := ⟨h.1, fun b hb => by rw [gI_ot (by omega)]; exact h.2.1 b hb, h.2.2⟩
theorem CV.s0 {M' : Mm} (h : CV M M') (c : site0 n M) : site0 n M' := by
  have k := h.2.1
  unfold site0 at c ⊢
  simp only [h.2.2, k 1 (by decide), k 2 (by decide), k 4 (by decide), k 5 (by decide), k 6 (by decide), k 7 (by decide), k 8 (by decide), k 9 (by decide), k 10 (by decide), k 11 (by decide), k 12 (by decide), k 13 (by decide), k 14 (by decide), k 15 (by decide), k 16 (by decide), k 17 (by decide), k 18 (by decide), k 19 (by decide), k 20 (by decide), k 21 (by decide), k 22 (by decide), k 23 (by decide), k 24 (by decide), k 25 (by decide), k 26 (by decide), k 27 (by decide), k 28 (by decide), k 29 (by decide)]
  exact c
theorem sp_R_readx {t : Int → Int} {c len : Int} (hS : RefOK M) (c0 : 0 ≤ c ∧ c < 10) (l0 : 0 ≤ len ∧ len ≤ 60) (ht : ∀ i, 0 ≤ i → i < len → bAnd (gI M 22 (c * 60 + i)) 255 = t i) (hq : ∀ M', CV M M' → Q M' (some (vI (pRun t len (gI M 64)).2))) : Wq 51 0 0 mR_read 0 [iR 63, iR 22, iI (c * 60), iI len, none] [] M Q := by
  refine B_R_readx_0 ⟨by omega, ?_⟩
  generalize hMi : sI (sI (sI (sI (sI (sR M 63 1 (some 22)) 63 2 (c * 60)) 63 3 (c * 60 + len)) 63 4 (c * 60)) 63 5 0) 63 6 0 = Mi
  have ri : RefOK Mi := by rw [← hMi]; exact hS.sR
  have oi : ∀ b : Nat, b ≠ 63 → gI Mi b = gI M b := fun b hb => by
    rw [← hMi, gI_ot hb, gI_ot hb, gI_ot hb, gI_ot hb, gI_ot hb]
    rfl
  have li : gL Mi = gL M := by rw [← hMi]; rfl
  have B : CB t (c * 60) len (gI M 64) 22 Mi := ⟨l0, by omega, Or.inr rfl, fun i i0 i1 => by rw [oi 22 (by decide)]; exact ht i i0 i1, fun i _ _ => by rw [oi 64 (by decide)]⟩
  have X : CX (c * 60) len 22 Mi (0, 0, false, []) Mi := by
    refine ⟨ri, by rw [← hMi]; rfl, fun _ _ => rfl, rfl, ?_, ?_, ?_, ?_, ?_, ⟨Int.le_refl _, l0.1⟩, by decide⟩
    · rw [← hMi, gI_up, up_n (by decide), gI_up, up_n (by decide), gI_up, up_n (by decide), gI_up, up_n (by decide), gI_up, up_s]
    · rw [← hMi, gI_up, up_n (by decide), gI_up, up_n (by decide), gI_up, up_n (by decide), gI_up, up_s]
    · rw [← hMi, gI_up, up_n (by decide), gI_up, up_n (by decide), gI_up, up_s]
      show c * 60 = c * 60 + 0
      omega
    · rw [← hMi, gI_up, up_n (by decide), gI_up, up_s]
    · rw [← hMi, gI_up, up_s]
      rfl
  refine rdC B (2000 + len.toNat) 0 47 (0, 0, false, []) 0 0 Mi _ X (by simp only [fk]; omega) (by simp only [dk]; omega) (by decide) (fun M1 h1 => ?_)
  obtain ⟨g0, gr, g1, g3, -⟩ := h1
  have V : ∀ z, CV M (sI M1 63 6 z) := fun z => ⟨g0, fun b hb => by rw [gI_ot (by omega), g1 b (by omega), oi b (by omega)], by show gL M1 = gL M; rw [g3, li]⟩
  exact B_R_readx_36 ⟨fun _ => hq _ (V 1), fun _ => ⟨fun _ => hq _ (V 0), fun _ => hq _ (V 1)⟩⟩
theorem sp_C_mentions {c len : Int} (hS : RefOK M) (c0 : 0 ≤ c ∧ c < 10) (el : gI M 23 c = len) (l0 : 0 ≤ len ∧ len ≤ 60) (hy : Q M (some (vI 1))) (hn : (∀ i, 0 ≤ i → i < len → gI M 22 (c * 60 + i) ≠ 102) → Q M (some (vI 0))) : Wq 1 0 0 mC_mentions 0 [iR 20, iI c, iI 102, none] [] M Q := by
  refine B_C_mentions_0 ?_
  have key : ∀ (f : Nat) (j : Nat), (j : Int) ≤ len → len.toNat - j = f → (∀ i, 0 ≤ i → i < (j : Int) → gI M 22 (c * 60 + i) ≠ 102) → Wq 1 0 0 mC_mentions 2 [iR 20, iI c, iI 102, iI j] [] M Q := by
    intro f
    induction f with
    | zero =>
      intro j hj hf h
      refine B_C_mentions_2 hS ?_
      rw [el]
      exact ⟨by omega, fun _ => hn (fun i i0 i1 => h i i0 (by omega)), fun z => by omega⟩
    | succ f ih =>
      intro j hj hf h
      have ih := ih (j + 1) (by omega) (by omega)
      rw [show (((j + 1 : Nat) : Int)) = (j : Int) + 1 by omega] at ih
      refine B_C_mentions_2 hS ?_
      rw [el]
      refine ⟨by omega, fun z => by omega, fun _ => ⟨by omega, fun z => ⟨by omega, ih (fun i i0 i1 => ?_)⟩, fun _ => hy⟩⟩
      by_cases q : i = (j : Int)
      · rw [q]
        exact z
      · exact h i i0 (by omega)
  exact key _ 0 (by omega) rfl (fun i i0 i1 => by omega)
theorem b255 {v : Int} (h0 : -128 ≤ v) (h1 : v < 128) (h : bAnd v 255 = 102) : v = 102 := by
  have key : ∀ k : Nat, k < 256 → bAnd ((k : Int) - 128) 255 = 102 → (k : Int) - 128 = 102 := by decide +kernel
  have := key (v + 128).toNat (by omega) (by rw [show (((v + 128).toNat : Nat) : Int) - 128 = v by omega]; exact h)
  omega
theorem nam_5 {c : Int} (h : nameF c = 5) : c = 102 := by
  unfold nameF at h
  repeat' (split at h)
  all_goals omega
theorem sp_D_valueOf {c e : Int} (hS : RefOK M) (wf : WfN n) (d : site0 n M) (c0 : 0 ≤ c ∧ c < n 5) (e0 : 0 ≤ e ∧ e < n 4) (hq : ∀ M', CV M M' → Q M' (some (vI (clV n c e)))) : Wq 52 0 0 mD_valueOf 0 [iR 0, iI c, iI e, none, none] [] M Q := by
  obtain ⟨wd, wc, ww, wl, we, wt, wx, wh⟩ := wf
  have x5 := wx.1
  have h4 := we.1
  have h2 := ww.1
  have d9 := wd.2
  obtain ⟨d0, dC, dW, dL, dE, dT, dX, dH⟩ := d
  obtain ⟨v1, v2, v3, v4, v5, v6, -⟩ := we.2 e e0.1 e0.2
  obtain ⟨a1, a2, a3, a4, a5, a6, a7⟩ := dE.2 e e0.1 e0.2
  obtain ⟨-, -, T⟩ := dX.2 c c0.1 c0.2
  have t1 := T.1
  refine wq_okM (fun hM => ?_)
  have byt : ∀ i, -128 ≤ gI M 22 i ∧ gI M 22 i < 128 := fun i => hM.2.2.2.2.2 22 i rfl
  -- behind the names
  have rd : ∀ (M5 : Mm), CV M M5 → (∀ i, 0 ≤ i → i ≤ 4 → gI M5 64 i = nuE n e i) → (gI M5 64 5 = nuE n e 5 ∨ ∀ i, 0 ≤ i → i < gI M 23 c → gI M 22 (c * 60 + i) ≠ 102) → Wq 51 0 0 mR_read 0 [iR 63, iR 22, iI (c * 60), iI (gI M 23 c), none] [] M5 (fun M' v => Wq 52 0 0 mD_valueOf 177 [iR 0, iI c, iI e, iR 12, iI (n (148 + 7 * e))] (v.toList ++ []) M' Q) := by
    intro M5 V5 nm f5
    refine sp_R_readx (t := fun i => if 0 ≤ i ∧ i < 60 then bAnd (gI M 22 (c * 60 + i)) 255 else 0) V5.1 (by omega) (by omega) (fun i i0 i1 => ?_) (fun M6 V6 => B_D_valueOf_177 ?_)
    · rw [V5.2.1 22 (by decide)]
      show _ = if 0 ≤ i ∧ i < 60 then _ else _
      rw [if_pos (by omega)]
    · have ev := T.v (e := e) (nu := gI M5 64) (fun i i0 i1 nn => ?_)
      · have : clV n c e = (pRun (fun i => if 0 ≤ i ∧ i < 60 then bAnd (gI M 22 (c * 60 + i)) 255 else 0) (gI M 23 c) (gI M5 64)).2 := by
          unfold clV
          rw [ev]
          rfl
        rw [← this]
        exact hq M6 (V5.tr V6)
      · have nb := nameF_b (if 0 ≤ i ∧ i < 60 then bAnd (gI M 22 (c * 60 + i)) 255 else 0)
        have nn : 0 ≤ nameF (if 0 ≤ i ∧ i < 60 then bAnd (gI M 22 (c * 60 + i)) 255 else 0) := nn
        show gI M5 64 (nameF (if 0 ≤ i ∧ i < 60 then bAnd (gI M 22 (c * 60 + i)) 255 else 0)) = nuE n e (nameF (if 0 ≤ i ∧ i < 60 then bAnd (gI M 22 (c * 60 + i)) 255 else 0))
        by_cases q5 : nameF (if 0 ≤ i ∧ i < 60 then bAnd (gI M 22 (c * 60 + i)) 255 else 0) = 5
        · rcases f5 with f5 | f5
          · rw [q5]
            exact f5
          · have := nam_5 q5
            rw [if_pos (by omega)] at this
            exact absurd (b255 (byt _).1 (byt _).2 this) (f5 i i0 i1)
        · exact nm _ nn (by omega)
  refine B_D_valueOf_0 hS ?_
  rw [a1, a2, a4, (dW.2 _ v1.1 v1.2).1]
  refine ⟨by omega, ?_⟩
  generalize hM1 : sI (sI (sI M 64 0 (n (149 + 7 * e))) 64 1 (n (151 + 7 * e))) 64 2 (n (10 + 3 * n (148 + 7 * e))) = M1
  have V1 : CV M M1 := by
    rw [← hM1]
    exact (((CV.rf hS).w (by decide)).w (by decide)).w (by decide)
  have n0 : gI M1 64 0 = n (149 + 7 * e) := by rw [← hM1, gI_up, up_n (by decide), gI_up, up_n (by decide), gI_up, up_s]
  have n1 : gI M1 64 1 = n (151 + 7 * e) := by rw [← hM1, gI_up, up_n (by decide), gI_up, up_s]
  have n2 : gI M1 64 2 = n (10 + 3 * n (148 + 7 * e)) := by rw [← hM1, gI_up, up_s]
  have nx : ∀ y0, y0 = nuE n e 3 → Wq 52 0 0 mD_valueOf 81 [iR 0, iI c, iI e, iR 12, iI (n (148 + 7 * e))] [vI y0, vI 3, vR 64] M1 Q := by
    intro y0 hy
    have V2 : CV M (sI M1 64 3 y0) := V1.w (by decide)
    have d2 := V2.s0 ⟨d0, dC, dW, dL, dE, dT, dX, dH⟩
    refine B_D_valueOf_81 V1.1 ⟨by omega, B_D_knownToday_0 V2.1 ?_⟩
    rw [d2.1]
    refine sp_E_knownOn V2.1 h4 d2.2.2.2.2.1 (B_D_knownToday_17 (B_D_valueOf_96 ?_))
    have fin : ∀ z, z = nuE n e 4 → (0 ≤ (4 : Int) ∧ (4 : Int) < 6) ∧ Wq 1 0 0 mC_mentions 0 [iR 20, iI c, iI 102, none] [] (sI (sI M1 64 3 y0) 64 4 z) (fun M' v => Wq 52 0 0 mD_valueOf 129 [iR 0, iI c, iI e, iR 12, iI (n (148 + 7 * e))] (v.toList ++ [vI 5, vR 64]) M' Q) := by
      intro z hz
      have V3 : CV M (sI (sI M1 64 3 y0) 64 4 z) := V2.w (by decide)
      have nm : ∀ w (i : Int), 0 ≤ i → i ≤ 4 → gI (sI (sI (sI M1 64 3 y0) 64 4 z) 64 5 w) 64 i = nuE n e i := fun w i i0 i4 => by
        rw [gI_up, up_n (by omega), gI_up]
        have : i = 0 ∨ i = 1 ∨ i = 2 ∨ i = 3 ∨ i = 4 := by omega
        rcases this with q | q | q | q | q
        · rw [q, up_n (by decide), gI_up, up_n (by decide), n0]; rfl
        · rw [q, up_n (by decide), gI_up, up_n (by decide), n1]; rfl
        · rw [q, up_n (by decide), gI_up, up_n (by decide), n2]; rfl
        · rw [q, up_n (by decide), gI_up, up_s, hy]
        · rw [q, up_s, hz]
      refine ⟨by decide, ?_⟩
      generalize sI (sI M1 64 3 y0) 64 4 z = M3 at V3 nm
      have e23 : gI M3 23 = gI M 23 := V3.2.1 23 (by decide)
      have e22 : gI M3 22 = gI M 22 := V3.2.1 22 (by decide)
      refine sp_C_mentions V3.1 (by omega) (by rw [e23]) (by omega) (B_D_valueOf_129 V3.1 ⟨fun q => absurd q (by decide), fun _ => ?_⟩) (fun no => B_D_valueOf_129 V3.1 ⟨fun _ => ⟨⟨by decide, by omega, by omega⟩, ?_⟩, fun q => absurd rfl q⟩)
      · have d3 := V3.s0 ⟨d0, dC, dW, dL, dE, dT, dX, dH⟩
        refine sp_D_floatOf V3.1 wc ww wl we d3 (by decide) v1.1 v1.2 (fun M4 q4 => B_D_valueOf_139 q4.1 ⟨⟨by decide, by omega, by omega⟩, ?_⟩)
        have V4 := V3.tr q4.v
        rw [V4.2.1 23 (by decide)]
        refine rd _ (V4.w (by decide)) (fun i i0 i4 => ?_) (Or.inl (by rw [gI_up, up_s]; rfl))
        have := nm (flt n 0 (n (148 + 7 * e))) i i0 i4
        rw [gI_up, up_n (by omega)] at this ⊢
        rw [q4.2.1 64 (by decide)]
        exact this
      · rw [e23]
        rw [e22] at no
        exact rd _ (V3.w (by decide)) (nm 0) (Or.inr no)
    refine sp_E_meetsOther V2.1 wd we d2.2.2.2.2.1 e0 (B_D_valueOf_99 V2.1 ⟨fun q => fin 0 ?_, fun q => fin 1 ?_⟩)
    · split at q
      · omega
      · rename_i w
        show 0 = if two n e = true then (1 : Int) else 0
        rw [if_neg w]
    · split at q
      · rename_i w
        show 1 = if two n e = true then (1 : Int) else 0
        rw [if_pos w]
      · exact absurd rfl q
  refine B_E_noticeAfter_0 V1.1 ?_
  rw [V1.2.1 17 (by decide), V1.2.1 15 (by decide), a5, a3]
  refine ⟨by omega, fun q => ⟨by omega, nx _ ?_⟩, fun q => nx _ ?_⟩
  · show _ = if 0 ≤ n (152 + 7 * e) then n (152 + 7 * e) - n (150 + 7 * e) else 999
    rw [if_pos q]
  · show _ = if 0 ≤ n (152 + 7 * e) then n (152 + 7 * e) - n (150 + 7 * e) else 999
    rw [if_neg q]
theorem sp_D_riskOf {e : Int} (hS : RefOK M) (wf : WfN n) (d : site0 n M) (e0 : 0 ≤ e ∧ e < n 4) (hq : ∀ M', CV M M' → Q M' (some (vI (syV n 0 e)))) : Wq 53 0 0 mD_riskOf 0 [iR 0, iI e, none, none] [] M Q := by
  have wf' := wf
  have d' := d
  obtain ⟨wd, wc, ww, wl, we, wt, wx, wh⟩ := wf
  obtain ⟨d0, dC, dW, dL, dE, dT, dX, dH⟩ := d
  have h4 := we.1
  obtain ⟨a1, a2, a3, -⟩ := dE.2 e e0.1 e0.2
  have fb := fcC_b (u := 0) (e := e) wx
  unfold syV at hq
  have self := hq M (CV.rf hS)
  refine B_D_riskOf_0 hS ⟨by omega, ?_⟩
  rw [a3]
  refine sp_C_inForce hS wx dX (B_D_riskOf_23 hS ?_)
  rw [a2]
  refine ⟨fun z => ⟨by omega, fun x => ⟨fun w => ?_, fun w => ?_⟩, fun x => ?_⟩, fun z => ?_⟩
  · rw [if_pos z, if_neg (by decide), if_neg x, if_neg w] at self
    exact self
  · rw [if_pos z, if_neg (by decide), if_neg x, if_pos w] at self
    exact self
  · rw [if_pos z, if_neg (by decide), if_pos x] at self
    exact self
  · rw [if_neg z, if_neg (by decide)] at hq
    exact sp_D_valueOf hS wf' d' (by omega) e0 (fun M' g => B_D_riskOf_36 (hq M' g))
theorem sp_D_priceOf {e : Int} (hS : RefOK M) (wf : WfN n) (d : site0 n M) (e0 : 0 ≤ e ∧ e < n 4) (hq : ∀ M', CV M M' → Q M' (some (vI (syV n 1 e)))) : Wq 53 0 0 mD_priceOf 0 [iR 0, iI e, none] [] M Q := by
  have wf' := wf
  have d' := d
  obtain ⟨wd, wc, ww, wl, we, wt, wx, wh⟩ := wf
  obtain ⟨d0, dC, dW, dL, dE, dT, dX, dH⟩ := d
  have h4 := we.1
  obtain ⟨a1, a2, a3, -⟩ := dE.2 e e0.1 e0.2
  have fb := fcC_b (u := 1) (e := e) wx
  unfold syV at hq
  have self := hq M (CV.rf hS)
  refine B_D_priceOf_0 hS ⟨by omega, ?_⟩
  rw [a3]
  refine sp_C_inForce hS wx dX (B_D_priceOf_23 ⟨fun z => ?_, fun z => ?_⟩)
  · rw [if_neg (by omega), if_pos rfl] at hq
    exact sp_D_valueOf hS wf' d' (by omega) e0 (fun M' g => B_D_priceOf_41 (hq M' g))
  · rw [if_pos (by omega), if_pos rfl] at self
    exact self
theorem c_says {u e : Int} (hw : WfS s) (h : CI s M) (hq : ∀ M', CI (o_says s u e).1 M' → FrC M M' → Q M' (some (vI (o_says s u e).2))) : Wq 54 0 0 mD_says 0 [iR 0, iI u, iI e] [] M Q := by
  have dE := h.2.1.2.2.2.2.1
  refine B_D_says_0 h.1 ?_
  rw [dE.1]
  refine ⟨fun c => ⟨fun c2 => ?_, fun c2 => c_fnd h (by decide) (by decide) (by decide) (if_neg (fun z => c2 z.2)) hq⟩, fun c => c_fnd h (by decide) (by decide) (by decide) (if_neg (fun z => c (by omega))) hq⟩
  rw [show o_says s u e = _ from if_pos ⟨by omega, c2⟩] at hq
  refine ⟨fun z => ?_, fun z => ?_⟩
  · have : u = 1 := by omega
    subst this
    exact sp_D_priceOf h.1 hw.1 h.2.1 c2 (fun M' g => B_D_says_45 (hq M' (g.ci h) g.fr))
  · subst z
    exact sp_D_riskOf h.1 hw.1 h.2.1 c2 (fun M' g => B_D_says_37 (hq M' (g.ci h) g.fr))
end OPU
