section OPS
variable {s : St} {M : Mm} {Q : Mm → Option Mv → Prop} {n : Int → Int}
theorem RI.t2 {n' : Int → Int} {M' : Mm} (h : RI s M) (hS : RefOK M') (e1 : gI M' 81 = n') (k : ∀ b : Nat, 82 ≤ b → b ≤ 92 → gI M' b = gI M b) (k2 : gI M' 80 2 = gI M 80 2) (k8 : gI M' 80 8 = gI M 80 8) (hc : rCac n' M') : RI (wN s n') M' := by
  obtain ⟨r1, r2, r3, r4, r5, r6, r7, r8, r9, r10, r11⟩ := h
  exact ⟨hS, e1, (k 82 (by decide) (by decide)).trans r3, k2.trans r4, (k 83 (by decide) (by decide)).trans r5, (k 84 (by decide) (by decide)).trans r6, (k 85 (by decide) (by decide)).trans r7, (k 86 (by decide) (by decide)).trans r8, (k 87 (by decide) (by decide)).trans r9, k8.trans r10, hc⟩
theorem r_clause {u fr : Int} (hw : WfS s) (h : RI s M) (hq : ∀ M', RI (o_clause s u fr).1 M' → FrR M M' → Q M' (some (vI (o_clause s u fr).2))) : Wq 51 0 0 mM_clause 0 [iR 80, iI u, iI fr, none, none, none] [] M Q := by
  have e' := h.2.1
  obtain ⟨wd, wc, ww, wl, we, wt, wx, wh⟩ := hw.1
  have t7 := wt.1
  have x5 := wx.1
  have ca := h.2.2.2.2.2.2.2.2.2.2
  have cb := cRun_b wt
  refine B_M_clause_0 h.1 ?_
  rw [e']
  refine ⟨fun c => ⟨fun c2 => ⟨fun c3 => ?_, fun c3 => r_fnd h (by decide) ((if_pos ⟨c, c2⟩).trans (if_pos c3)) hq⟩, fun c2 => r_fnd h (by decide) (if_neg (fun z => c2 z.2)) hq⟩, fun c => r_fnd h (by decide) (if_neg (fun z => c z.1)) hq⟩
  rw [show o_clause s u fr = _ from (if_pos ⟨c, c2⟩).trans (if_neg c3)] at hq
  generalize hMi : sI (sI (sI (sI M 80 16 0) 80 17 0) 80 18 0) 80 20 0 = Mi
  have ri : RefOK Mi := by rw [← hMi]; exact h.1
  have oi : ∀ b : Nat, b ≠ 80 → gI Mi b = gI M b := fun b hb => by rw [← hMi, gI_ot hb, gI_ot hb, gI_ot hb, gI_ot hb]
  have oy : ∀ y, y ≠ 16 → y ≠ 17 → y ≠ 18 → y ≠ 20 → gI Mi 80 y = gI M 80 y := fun y y1 y2 y3 y4 => by rw [← hMi, gI_up, up_n y4, gI_up, up_n y3, gI_up, up_n y2, gI_up, up_n y1]
  have li : gL Mi = gL M := by rw [← hMi]; rfl
  have B : RB (tpe (sn s)) (sn s 7) Mi := ⟨t7, by rw [oi 81 (by decide), e'], fun i i0 i1 => by rw [oi 81 (by decide), e']; rfl⟩
  have X : RX (sn s 7) Mi (0, 0, false, []) Mi := by
    refine ⟨ri, fun _ _ _ => rfl, fun _ _ _ _ _ => rfl, rfl, ?_, ?_, ?_, ?_, fun k hk => absurd hk (Nat.not_lt_zero k), ⟨Int.le_refl _, t7.1⟩, by decide⟩
    · rw [← hMi, gI_up, up_n (by decide), gI_up, up_n (by decide), gI_up, up_n (by decide), gI_up, up_s]
    · rw [← hMi, gI_up, up_n (by decide), gI_up, up_n (by decide), gI_up, up_s]
    · rw [← hMi, gI_up, up_n (by decide), gI_up, up_s]
      rfl
    · rw [← hMi, gI_up, up_s]
      rfl
  refine rdM (nu := fun _ => 0) B (2000 + (sn s 7).toNat) 0 47 (0, 0, false, []) 0 Mi _ X (by decide) (by simp only [fk]; omega) (by simp only [dk]; omega) (fun M1 h1 => ?_)
  have h1 : RX (sn s 7) Mi (cRun (sn s)) M1 := h1
  obtain ⟨g0, g1, g2, g3, g4, g5, g6, g7, g8, g9, g10⟩ := h1
  have bad : badR (sn s) = true ↔ ((cRun (sn s)).2.2.1 = true ∨ (cRun (sn s)).1 < sn s 7) := by
    unfold badR
    rw [Bool.or_eq_true, decide_eq_true_iff]
  have u1 : gI M1 81 = sn s := by rw [g1 81 (by decide) (by decide), oi 81 (by decide), e']
  have fl : gI M1 80 18 = 0 → (cRun (sn s)).2.2.1 = false := fun z => by
    cases hb : (cRun (sn s)).2.2.1
    · rfl
    · rw [g6, hb] at z
      exact absurd z (by decide)
  -- a fault
  have flt : badR (sn s) = true → Q (sI (sI M1 80 18 1) 81 7 0) (some (vI (-10 - (cRun (sn s)).1))) := fun hb => by
    rw [if_pos hb] at hq
    have o : ∀ i, i ≠ 7 → up (sn s) 7 0 i = sn s i := fun i hi => up_n hi
    refine hq _ (h.t2 g0 (by rw [gI_up, gI_ot (by decide), u1]) (fun b b1 b2 => by rw [gI_ot (by omega), gI_ot (by omega), g1 b (by omega) (by omega), oi b (by omega)]) (by rw [gI_ot (by decide), gI_up, up_n (by decide), g2 2 (by decide) (by decide) (by decide) (by decide), oy 2 (by decide) (by decide) (by decide) (by decide)]) (by rw [gI_ot (by decide), gI_up, up_n (by decide), g2 8 (by decide) (by decide) (by decide) (by decide), oy 8 (by decide) (by decide) (by decide) (by decide)]) ?_) (fun a i q => ⟨by rw [gI_ot (by omega), gI_ot (by omega), g1 a (by omega) (by omega), oi a (by omega)], by show gL M1 a i = _; rw [g3, li]⟩)
    exact ca.cg ww wl (o 1 (by decide)) (o 2 (by decide)) (o 3 (by decide)) (fun i a b => o i (by omega)) (fun i a b => o i (by omega)) (by rw [gI_ot (by decide), gI_up, up_n (by decide), g2 13 (by decide) (by decide) (by decide) (by decide), oy 13 (by decide) (by decide) (by decide) (by decide)]) (by rw [gI_ot (by decide), gI_ot (by decide), g1 91 (by decide) (by decide), oi 91 (by decide)]) (by rw [gI_ot (by decide), gI_ot (by decide), g1 92 (by decide) (by decide), oi 92 (by decide)])
  refine B_M_clause_73 g0 ?_
  rw [u1, g4, g7]
  refine ⟨fun z => ⟨by omega, flt (bad.2 (Or.inl ?_))⟩, fun z => ⟨fun y => ⟨⟨by omega, by omega, by omega, by omega⟩, ?_⟩, fun y => ⟨by omega, flt (bad.2 (Or.inr (by omega)))⟩⟩⟩
  · cases hb : (cRun (sn s)).2.2.1
    · rw [g6, hb] at z
      exact absurd rfl z
    · rfl
  · have hb : badR (sn s) = false := by
      rw [Bool.eq_false_iff]
      intro q
      rcases bad.1 q with q | q
      · rw [fl z] at q
        exact absurd q (by decide)
      · omega
    rw [if_neg (by rw [hb]; decide)] at hq
    generalize hM2 : sI (sI (sI (sI (sI M1 80 18 0) 81 7 0) 81 (288 + 73 * sn s 5) u) 81 (289 + 73 * sn s 5) fr) 81 (290 + 73 * sn s 5) ((cRun (sn s)).2.2.2.length : Int) = M2
    have r2 : RefOK M2 := by rw [← hM2]; exact g0
    have k2 : ∀ b : Nat, b ≠ 80 → b ≠ 81 → gI M2 b = gI M1 b := fun b b1 b2 => by rw [← hM2, gI_ot b2, gI_ot b2, gI_ot b2, gI_ot b2, gI_ot b1]
    have ky : ∀ y, y ≠ 18 → gI M2 80 y = gI M1 80 y := fun y hy => by rw [← hM2, gI_ot (by decide), gI_ot (by decide), gI_ot (by decide), gI_ot (by decide), gI_up, up_n hy]
    have l2 : gL M2 = gL M1 := by rw [← hM2]; rfl
    have n2 : gI M2 81 = up (up (up (up (sn s) 7 0) (288 + 73 * sn s 5) u) (289 + 73 * sn s 5) fr) (290 + 73 * sn s 5) ((cRun (sn s)).2.2.2.length : Int) := by rw [← hM2, gI_up, gI_up, gI_up, gI_up, gI_ot (by decide), u1]
    have key : ∀ (f : Nat) (j : Nat) (M3 : Mm), j ≤ (cRun (sn s)).2.2.2.length → (cRun (sn s)).2.2.2.length - j = f → RefOK M3 → (∀ b : Nat, b ≠ 81 → gI M3 b = gI M2 b) → gL M3 = gL M2 → (∀ i, gI M3 81 i = if 291 + 73 * sn s 5 ≤ i ∧ i < 291 + 73 * sn s 5 + (j : Int) then (cRun (sn s)).2.2.2.getD (i - (291 + 73 * sn s 5)).toNat 0 else gI M2 81 i) → Wq 51 0 0 mM_clause 172 [iR 80, iI u, iI fr, iI (sn s 5), iI (288 + 73 * sn s 5), iI j] [] M3 Q := by
      intro f
      induction f with
      | zero =>
        intro j M3 hj hf q0 q1 q2 q3
        have ej : (cRun (sn s)).2.2.2.length = j := by omega
        have s20 : gI M3 80 20 = ((cRun (sn s)).2.2.2.length : Int) := by rw [q1 80 (by decide), ky 20 (by decide), g7]
        have s5 : gI M3 81 5 = sn s 5 := by rw [q3, if_neg (by omega), n2, up_n (by omega), up_n (by omega), up_n (by omega), up_n (by decide)]
        refine B_M_clause_172 q0 ?_
        rw [s20, s5]
        refine ⟨fun _ => ⟨by omega, ?_⟩, fun z => by omega⟩
        have e81 : gI (sI M3 81 5 (sn s 5 + 1)) 81 = clN (sn s) u fr := by
          funext i
          rw [gI_up]
          unfold clN
          by_cases i5 : i = 5
          · rw [i5, up_s, if_pos rfl]
          · rw [up_n i5, if_neg i5, q3 i, ej, n2]
            by_cases i7 : i = 7
            · rw [i7, if_neg (by omega), if_pos rfl, up_n (by omega), up_n (by omega), up_n (by omega), up_s]
            · rw [if_neg i7]
              by_cases a1 : i = 288 + 73 * sn s 5
              · rw [if_neg (by omega), if_pos a1, up_n (by omega), up_n (by omega), a1, up_s]
              · rw [if_neg a1]
                by_cases a2 : i = 289 + 73 * sn s 5
                · rw [if_neg (by omega), if_pos a2, up_n (by omega), a2, up_s]
                · rw [if_neg a2]
                  by_cases a3 : i = 290 + 73 * sn s 5
                  · rw [if_neg (by omega), if_pos a3, a3, up_s, ej]
                  · rw [if_neg a3]
                    by_cases a4 : 291 + 73 * sn s 5 ≤ i ∧ i < 291 + 73 * sn s 5 + (j : Int)
                    · rw [if_pos a4, if_pos a4]
                    · rw [if_neg a4, if_neg a4, up_n a3, up_n a2, up_n a1, up_n i7]
        have o : ∀ i, i ≠ 5 → i ≠ 7 → (i < 288 ∨ 1018 ≤ i) → clN (sn s) u fr i = sn s i := fun i a b c => clN_o wt a b (by omega)
        have kk80 : ∀ y, y ≠ 16 → y ≠ 17 → y ≠ 18 → y ≠ 20 → gI (sI M3 81 5 (sn s 5 + 1)) 80 y = gI M 80 y := fun y y1 y2 y3 y4 => by rw [gI_ot (by decide), q1 80 (by decide), ky y y3, g2 y y1 y2 y3 y4, oy y y1 y2 y3 y4]
        have kkb : ∀ b : Nat, b ≠ 80 → b ≠ 81 → b ≠ 94 → gI (sI M3 81 5 (sn s 5 + 1)) b = gI M b := fun b b1 b2 b3 => by rw [gI_ot b2, q1 b b2, k2 b b1 b2, g1 b b1 b3, oi b b1]
        refine hq _ (h.t2 q0 e81 (fun b b1 b2 => kkb b (by omega) (by omega) (by omega)) (kk80 2 (by decide) (by decide) (by decide) (by decide)) (kk80 8 (by decide) (by decide) (by decide) (by decide)) ?_) (fun a i q => ⟨by rw [kkb a (by omega) (by omega) (by omega)], by show gL M3 a i = _; rw [q2, l2, g3, li]⟩)
        exact ca.cg ww wl (o 1 (by decide) (by decide) (by decide)) (o 2 (by decide) (by decide) (by decide)) (o 3 (by decide) (by decide) (by decide)) (fun i a b => o i (by omega) (by omega) (by omega)) (fun i a b => o i (by omega) (by omega) (by omega)) (kk80 13 (by decide) (by decide) (by decide) (by decide)) (kkb 91 (by decide) (by decide) (by decide)) (kkb 92 (by decide) (by decide) (by decide))
      | succ f ih =>
        intro j M3 hj hf q0 q1 q2 q3
        have s20 : gI M3 80 20 = ((cRun (sn s)).2.2.2.length : Int) := by rw [q1 80 (by decide), ky 20 (by decide), g7]
        have s94 : gI M3 94 j = (cRun (sn s)).2.2.2.getD j 0 := by rw [q1 94 (by decide), k2 94 (by decide) (by decide), g8 j (by omega)]
        have r := ih (j + 1) (sI M3 81 (288 + 73 * sn s 5 + 3 + j) (gI M3 94 j)) (by omega) (by omega) q0 (fun b hb => by rw [gI_ot hb]; exact q1 b hb) q2 (fun i => ?_)
        · rw [show (((j + 1 : Nat) : Int)) = (j : Int) + 1 by omega] at r
          refine B_M_clause_172 q0 ?_
          rw [s20]
          exact ⟨fun z => by omega, fun _ => ⟨by omega, r⟩⟩
        · rw [gI_up]
          by_cases a : i = 288 + 73 * sn s 5 + 3 + j
          · rw [a, up_s, if_pos (by omega), s94, show (288 + 73 * sn s 5 + 3 + (j : Int) - (291 + 73 * sn s 5)).toNat = j by omega]
          · rw [up_n a, q3 i]
            by_cases b : 291 + 73 * sn s 5 ≤ i ∧ i < 291 + 73 * sn s 5 + (j : Int)
            · rw [if_pos b, if_pos (by omega)]
            · rw [if_neg b, if_neg (by omega)]
    exact key _ 0 M2 (by omega) rfl r2 (fun _ _ => rfl) rfl (fun i => by rw [if_neg (by omega)])
/-! force -/
/-- the CLAUSE in force, of the first k -/
def fcF (n : Int → Int) (u d : Int) : Nat → Int
  | 0 => -1
  | k + 1 => if n (288 + 73 * (k : Int)) = u ∧ n (289 + 73 * (k : Int)) ≤ d then k else fcF n u d k
theorem fcF_b {u d : Int} : ∀ k : Nat, fcF n u d k = -1 ∨ (0 ≤ fcF n u d k ∧ fcF n u d k < k)
  | 0 => Or.inl rfl
  | k + 1 => by
    have := fcF_b (u := u) (d := d) k
    unfold fcF
    split <;> omega
def fcC (n : Int → Int) (u e : Int) : Int := fcF n u (n (150 + 7 * e)) (n 5).toNat
theorem fcC_b {u e : Int} (wx : wCls n) : fcC n u e = -1 ∨ (0 ≤ fcC n u e ∧ fcC n u e < n 5) := by
  have := fcF_b (n := n) (u := u) (d := n (150 + 7 * e)) (n 5).toNat
  have x5 := wx.1
  unfold fcC
  omega
theorem sp_M_forced {u e : Int} (hS : RefOK M) (wx : wCls n) (we : wEvt n) (e' : gI M 81 = n) (e0 : 0 ≤ e ∧ e < n 4) (hq : Q M (some (vI (fcC n u e)))) : Wq 2 0 0 mM_forced 0 [iR 80, iI u, iI e, none, none, none] [] M Q := by
  have x5 := wx.1
  have h4 := we.1
  refine B_M_forced_0 ?_
  have key : ∀ (f : Nat) (k : Nat), (k : Int) ≤ n 5 → (n 5).toNat - k = f → Wq 2 0 0 mM_forced 5 [iR 80, iI u, iI e, iI (fcF n u (n (150 + 7 * e)) k), iI k, none] [] M Q := by
    intro f
    induction f with
    | zero =>
      intro k hk hf
      refine B_M_forced_5 hS ?_
      rw [e']
      refine ⟨fun _ => ?_, fun z => by omega⟩
      unfold fcC at hq
      rw [show (n 5).toNat = k by omega] at hq
      exact hq
    | succ f ih =>
      intro k hk hf
      have ih := ih (k + 1) (by omega) (by omega)
      rw [show (((k + 1 : Nat) : Int)) = (k : Int) + 1 by omega] at ih
      unfold fcF at ih
      refine B_M_forced_5 hS ?_
      rw [e']
      refine ⟨fun z => by omega, fun _ => ⟨by omega, fun z => ⟨by omega, ?_⟩, fun z => ⟨by omega, fun y => ⟨by omega, ?_⟩, fun y => ⟨by omega, ?_⟩⟩⟩⟩
      · rw [if_neg (fun q => z q.1)] at ih
        exact ih
      · rw [if_neg (fun q => by omega)] at ih
        exact ih
      · rw [if_pos ⟨z, by omega⟩] at ih
        exact ih
  exact key _ 0 (by omega) rfl
theorem sp_C_inForce {u e : Int} (hS : RefOK M) (wx : wCls n) (dX : cCls n (gI M 22) (gI M 23) (gI M 24) (gI M 25) (gI M 20 6)) (hq : Q M (some (vI (fcC n u e)))) : Wq 1 0 0 mC_inForce 0 [iR 20, iI u, iI (n (150 + 7 * e)), none] [] M Q := by
  have x5 := wx.1
  refine B_C_inForce_0 ?_
  rw [dX.1]
  refine ⟨by omega, ?_⟩
  have key : ∀ (k : Nat), (k : Int) ≤ n 5 → fcF n u (n (150 + 7 * e)) k = fcC n u e → Wq 1 0 0 mC_inForce 7 [iR 20, iI u, iI (n (150 + 7 * e)), iI ((k : Int) - 1)] [] M Q := by
    intro k
    induction k with
    | zero =>
      intro hk he
      refine B_C_inForce_7 hS ⟨fun _ => ?_, fun z => by omega⟩
      rw [← he] at hq
      exact hq
    | succ k ih =>
      intro hk he
      rw [show (((k + 1 : Nat) : Int)) - 1 = (k : Int) by omega]
      obtain ⟨a1, a2, -⟩ := dX.2 k (by omega) (by omega)
      unfold fcF at he
      refine B_C_inForce_7 hS ⟨fun z => by omega, fun _ => ⟨by omega, ?_⟩⟩
      rw [a1, a2]
      refine ⟨fun z => ⟨by omega, ?_⟩, fun z => ⟨fun y => ⟨by omega, ?_⟩, fun y => ?_⟩⟩
      · rw [if_neg (fun q => z q.1)] at he
        exact ih (by omega) he
      · rw [if_neg (fun q => by omega)] at he
        exact ih (by omega) he
      · rw [if_pos ⟨z, by omega⟩] at he
        rw [he]
        exact hq
  have k0 := key (n 5).toNat (by omega) rfl
  rw [show (((n 5).toNat : Nat) : Int) = n 5 by omega] at k0
  exact k0
def o_force (s : St) (u e : Int) : St × Int := if (0 ≤ u ∧ u ≤ 1) ∧ (0 ≤ e ∧ e < sn s 4) then (if fcC (sn s) u e < 0 then fnd s 2 else (s, fcC (sn s) u e)) else fnd s 1
theorem w_force {u e : Int} (hw : WfS s) : WfS (o_force s u e).1 := by
  unfold o_force
  split
  · split
    · exact hw.fnd
    · exact hw
  · exact hw.fnd
theorem c_force {u e : Int} (hw : WfS s) (h : CI s M) (hq : ∀ M', CI (o_force s u e).1 M' → FrC M M' → Q M' (some (vI (o_force s u e).2))) : Wq 3 0 0 mD_force 0 [iR 0, iI u, iI e, none] [] M Q := by
  obtain ⟨d0, dC, dW, dL, dE, dT, dX, dH⟩ := h.2.1
  obtain ⟨wd, wc, ww, wl, we, wt, wx, wh⟩ := hw.1
  have h4 := we.1
  refine B_D_force_0 h.1 ?_
  rw [dE.1]
  refine ⟨fun c => ⟨fun c2 => ⟨by omega, ?_⟩, fun c2 => c_fnd h (by decide) (by decide) (by decide) (if_neg (fun z => c2 z.2)) hq⟩, fun c => c_fnd h (by decide) (by decide) (by decide) (if_neg (fun z => c (by omega))) hq⟩
  rw [show o_force s u e = _ from if_pos ⟨by omega, c2⟩] at hq
  rw [(dE.2 e c2.1 c2.2).2.2.1]
  refine sp_C_inForce h.1 wx dX (B_D_force_51 h.1 ⟨fun z => c_fnd h (by decide) (by decide) (by decide) (if_pos z) hq, fun z => ?_⟩)
  rw [if_neg z] at hq
  exact hq M h FrC.rf
theorem r_force {u e : Int} (hw : WfS s) (h : RI s M) (hq : ∀ M', RI (o_force s u e).1 M' → FrR M M' → Q M' (some (vI (o_force s u e).2))) : Wq 3 0 0 mM_force 0 [iR 80, iI u, iI e, none] [] M Q := by
  have e' := h.2.1
  obtain ⟨wd, wc, ww, wl, we, wt, wx, wh⟩ := hw.1
  have h4 := we.1
  refine B_M_force_0 h.1 ?_
  rw [e']
  refine ⟨fun c => ⟨by omega, fun c2 => ?_, fun c2 => r_fnd h (by decide) (if_neg (fun z => c2 z.2)) hq⟩, fun c => r_fnd h (by decide) (if_neg (fun z => c z.1)) hq⟩
  rw [show o_force s u e = _ from if_pos ⟨c, c2⟩] at hq
  refine sp_M_forced h.1 wx we e' c2 (B_M_force_32 h.1 ⟨fun z => ?_, fun z => r_fnd h (by decide) (if_pos (by omega)) hq⟩)
  rw [if_neg (by omega)] at hq
  exact hq M h FrR.rf
end OPS
