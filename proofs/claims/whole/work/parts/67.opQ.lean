section OPQ
variable {s : St} {M : Mm} {Q : Mm → Option Mv → Prop} {n : Int → Int}
theorem RI.wk {M' : Mm} (h : RI s M) (hS : RefOK M') (k2 : gI M' 80 2 = gI M 80 2) (k8 : gI M' 80 8 = gI M 80 8) (k13 : gI M' 80 13 = gI M 80 13) (k : ∀ b : Nat, 81 ≤ b → b ≤ 92 → gI M' b = gI M b) : RI s M' := by
  obtain ⟨r1, r2, r3, r4, r5, r6, r7, r8, r9, r10, r11⟩ := h
  refine ⟨hS, (k 81 (by decide) (by decide)).trans r2, (k 82 (by decide) (by decide)).trans r3, k2.trans r4, (k 83 (by decide) (by decide)).trans r5, (k 84 (by decide) (by decide)).trans r6, (k 85 (by decide) (by decide)).trans r7, (k 86 (by decide) (by decide)).trans r8, (k 87 (by decide) (by decide)).trans r9, k8.trans r10, ?_⟩
  unfold rCac at r11 ⊢
  rw [k13, k 91 (by decide) (by decide), k 92 (by decide) (by decide)]
  exact r11
/-- the EVENTS inside a window -/
def wiS (n : Int → Int) (all a b : Int) : Int := bAnd (utS n all b) (bXor (utS n all a) (-1))
def wiL (n : Int → Int) (all a b : Int) : Int := lsB n (utS n all b) (wiS n all a b)
def wiA (n : Int → Int) (all a b c : Int) : Int := if c < 0 then wiL n all a b else if dsA n (wiS n all a b) = 0 then 0 else prt (wiL n all a b) (dsA n (wiS n all a b)) (dsC n (wiS n all a b)) c
def o_window (s : St) (m w c k : Int) : St × Int := if (5 ≤ m ∧ m ≤ 100) ∧ (0 ≤ w ∧ w ≤ 179) ∧ (-1 ≤ c ∧ c ≤ 3) ∧ (0 ≤ k ∧ k ≤ 900) then (s, wiA (sn s) (knw (sn s) k (sn s 4).toNat) (w * m - 1) (w * m + m - 1) c) else fnd s 1
theorem w_window {m w c k : Int} (hw : WfS s) : WfS (o_window s m w c k).1 := by
  unfold o_window
  split
  · exact hw
  · exact hw.fnd
theorem wm_b {w m : Int} (w0 : 0 ≤ w ∧ w ≤ 179) (m0 : 5 ≤ m ∧ m ≤ 100) : 0 ≤ w * m ∧ w * m ≤ 17900 := by
  have h1 : w * m ≤ 179 * m := Int.mul_le_mul_of_nonneg_right w0.2 (by omega)
  have h2 : 0 ≤ w * m := Int.mul_nonneg w0.1 (by omega)
  omega
theorem wiS_ok {all a b : Int} (h4 : n 4 ≤ 20) : (0 ≤ wiS n all a b ∧ wiS n all a b < 2147483648) ∧ ∀ k : Nat, hb (wiS n all a b) k = (hb (utS n all b) k && !hb (utS n all a) k) := by
  have u1 := utS_ok (n := n) (all := all) (d := b) h4
  have u2 := utS_ok (n := n) (all := all) (d := a) h4
  have nn : 0 ≤ wiS n all a b := and_nn _ u1.1.1 (Int.lt_trans u1.1.2 (by decide))
  have bb : ∀ k : Nat, hb (wiS n all a b) k = (hb (utS n all b) k && !hb (utS n all a) k) := fun k => andn_hb u1.1.1 (Int.lt_trans u1.1.2 (by decide)) u2.1.1 (Int.lt_trans u2.1.2 (by decide)) k
  refine ⟨⟨nn, ?_⟩, bb⟩
  have : wiS n all a b < (2 : Int) ^ 20 := lt_of_hb nn (fun k hk => by
    rw [bb, u1.2, decide_eq_false (by omega), Bool.false_and, Bool.false_and])
  rw [two20] at this
  exact Int.lt_trans this (by decide)
theorem wiL_b {all a b : Int} (ww : wWrk n) (wl : wLnk n) (we : wEvt n) : -462660 ≤ wiL n all a b ∧ wiL n all a b ≤ 462660 := by
  have b1 := eS_b (st := utS n all b) ww wl we
  have b2 := eS_b (st := bAnd (utS n all b) (bXor (wiS n all a b) (-1))) ww wl we
  unfold wiL lsB
  omega
theorem c_window {m w c k : Int} (hw : WfS s) (h : CI s M) (hq : ∀ M', CI (o_window s m w c k).1 M' → FrC M M' → Q M' (some (vI (o_window s m w c k).2))) : Wq 6 0 0 mD_window 0 [iR 0, iI m, iI w, iI c, iI k, none, none, none, none, none] [] M Q := by
  obtain ⟨wd, wc, ww, wl, we, wt, wx, wh⟩ := hw.1
  have h4 := we.1
  have d := h.2.1
  have dE := d.2.2.2.2.1
  have ko := (knw_ok (sn s) k (sn s 4).toNat (by omega)).1
  refine B_D_window_0 h.1 ⟨fun c1 => ⟨fun c2 => ⟨fun c3 => ⟨fun c4 => ?_, fun c4 => c_fnd h (by decide) (by decide) (by decide) (if_neg (fun z => c4 z.2.2.2)) hq⟩, fun c3 => c_fnd h (by decide) (by decide) (by decide) (if_neg (fun z => c3 z.2.2.1)) hq⟩, fun c2 => c_fnd h (by decide) (by decide) (by decide) (if_neg (fun z => c2 z.2.1)) hq⟩, fun c1 => c_fnd h (by decide) (by decide) (by decide) (if_neg (fun z => c1 z.1)) hq⟩
  rw [show o_window s m w c k = _ from if_pos ⟨c1, c2, c3, c4⟩] at hq
  have wb := wm_b c2 c1
  have u1 := utS_ok (n := sn s) (all := knw (sn s) k (sn s 4).toNat) (d := w * m + m - 1) h4.2
  have wo := wiS_ok (n := sn s) (all := knw (sn s) k (sn s 4).toNat) (a := w * m - 1) (b := w * m + m - 1) h4.2
  have lb := wiL_b (all := knw (sn s) k (sn s 4).toNat) (a := w * m - 1) (b := w * m + m - 1) ww wl we
  refine sp_E_knownOn h.1 h4 dE (B_D_window_69 h.1 ⟨by omega, sp_E_upTo h.1 we dE (by omega) (B_D_window_90 h.1 ⟨by omega, sp_E_upTo h.1 we dE (by omega) (B_D_window_111 ?_)⟩)⟩)
  refine sp_D_lostBy h.1 wc ww wl we d (by omega) wo.1 (fun M1 g0 => B_D_window_124 ⟨fun c5 => ?_, fun c5 => ?_⟩)
  · refine sp_D_partOf g0.1 we (g0.s0 d) wo.1 lb.1 lb.2 (by omega) (B_D_window_144 ?_)
    unfold wiA at hq
    rw [if_neg (by omega)] at hq
    exact hq M1 (g0.ci h) g0.fr
  · unfold wiA at hq
    rw [if_pos (by omega)] at hq
    exact hq M1 (g0.ci h) g0.fr
theorem r_window {m w c k : Int} (hw : WfS s) (h : RI s M) (hq : ∀ M', RI (o_window s m w c k).1 M' → FrR M M' → Q M' (some (vI (o_window s m w c k).2))) : Wq 6 0 0 mM_window 0 [iR 80, iI m, iI w, iI c, iI k, none, none, none, none, none] [] M Q := by
  have e' := h.2.1
  obtain ⟨wd, wc, ww, wl, we, wt, wx, wh⟩ := hw.1
  have h4 := we.1
  have ko := (knw_ok (sn s) k (sn s 4).toNat (by omega)).1
  refine B_M_window_0 h.1 ⟨fun c1 => ⟨fun c2 => ⟨fun c3 => ⟨fun c4 => ?_, fun c4 => r_fnd h (by decide) (if_neg (fun z => c4 z.2.2.2)) hq⟩, fun c3 => r_fnd h (by decide) (if_neg (fun z => c3 z.2.2.1)) hq⟩, fun c2 => r_fnd h (by decide) (if_neg (fun z => c2 z.2.1)) hq⟩, fun c1 => r_fnd h (by decide) (if_neg (fun z => c1 z.1)) hq⟩
  rw [show o_window s m w c k = _ from if_pos ⟨c1, c2, c3, c4⟩] at hq
  have wb := wm_b c2 c1
  refine sp_M_knownOn h.1 h4 e' (B_M_window_61 ?_)
  generalize hall : knw (sn s) k (sn s 4).toNat = all at hq ko ⊢
  generalize hW : w * m = W at hq wb
  have u1 := utS_ok (n := sn s) (all := all) (d := W + m - 1) h4.2
  have u2 := utS_ok (n := sn s) (all := all) (d := W - 1) h4.2
  have wo := wiS_ok (n := sn s) (all := all) (a := W - 1) (b := W + m - 1) h4.2
  generalize hp1 : (fun j : Nat => hb all j && decide (sn s (150 + 7 * (j : Int)) ≤ W + m - 1)) = p1
  generalize hp2 : (fun j : Nat => hb all j && decide (sn s (150 + 7 * (j : Int)) ≤ W - 1)) = p2
  have up1 : utS (sn s) all (W + m - 1) = fsP p1 (sn s 4).toNat := by rw [← hp1]; rfl
  have up2 : utS (sn s) all (W - 1) = fsP p2 (sn s 4).toNat := by rw [← hp2]; rfl
  have e1 : ∀ j : Nat, p1 j = true ↔ (hb all j = true ∧ sn s (150 + 7 * (j : Int)) ≤ W + m - 1) := fun j => by rw [← hp1, Bool.and_eq_true, decide_eq_true_iff]
  have e2 : ∀ j : Nat, p2 j = true ↔ (hb all j = true ∧ sn s (150 + 7 * (j : Int)) ≤ W - 1) := fun j => by rw [← hp2, Bool.and_eq_true, decide_eq_true_iff]
  have fr93 : ∀ M' : Mm, RefOK M' → (∀ b : Nat, b ≠ 93 → gI M' b = gI M b) → gL M' = gL M → RI s M' ∧ FrR M M' := fun M' g0 g1 g2 => ⟨h.wk g0 (by rw [g1 80 (by decide)]) (by rw [g1 80 (by decide)]) (by rw [g1 80 (by decide)]) (fun b b1 b2 => g1 b (by omega)), fun a i q => ⟨by rw [g1 a (by omega)], by rw [g2]⟩⟩
  have lp2 : ∀ (f : Nat) (j : Nat) (M' : Mm), (j : Int) ≤ sn s 4 → (sn s 4).toNat - j = f → RefOK M' → (∀ b : Nat, b ≠ 93 → gI M' b = gI M b) → gL M' = gL M → (∀ x, 0 ≤ x → x < 4 → gI M' 93 x = dsm (sn s) (fun i => (p1 i && !p2 i) && decide (sn s (149 + 7 * (i : Int)) = x)) j) → Wq 6 0 0 mM_window 98 [iR 80, iI m, iI w, iI c, iI k, iI all, iI (fsP p1 j), iI (fsP p2 j), iI (dsm (sn s) (fun i => p1 i && !p2 i) j), iI j] [] M' Q := by
    intro f
    induction f with
    | zero =>
      intro j M' hj hf g0 g1 g2 g3
      obtain ⟨h', f'⟩ := fr93 M' g0 g1 g2
      have e'' := h'.2.1
      have ca := h'.2.2.2.2.2.2.2.2.2.2
      have ej : (sn s 4).toNat = j := by omega
      rw [ej] at up1 up2
      have fo1 := fsP_ok p1 j (by omega)
      have fo2 := fsP_ok p2 j (by omega)
      have b1 := eS_b (st := fsP p1 j) ww wl we
      have b2 := eS_b (st := fsP p2 j) ww wl we
      have inb : ∀ i : Nat, i < j → hb (wiS (sn s) all (W - 1) (W + m - 1)) i = (p1 i && !p2 i) := fun i hi => by
        rw [wo.2, up1, up2, fo1.2, fo2.2, decide_eq_true hi, Bool.true_and, Bool.true_and]
      have eA1 : dsA (sn s) (wiS (sn s) all (W - 1) (W + m - 1)) = dsm (sn s) (fun i => p1 i && !p2 i) j := by
        unfold dsA
        rw [ej]
        exact dsm_cg _ inb
      have eC1 : ∀ x, dsC (sn s) (wiS (sn s) all (W - 1) (W + m - 1)) x = dsm (sn s) (fun i => (p1 i && !p2 i) && decide (sn s (149 + 7 * (i : Int)) = x)) j := fun x => by
        unfold dsC
        rw [ej]
        exact dsm_cg _ (fun i hi => by rw [inb i hi])
      have eL1 : wiL (sn s) all (W - 1) (W + m - 1) = eS (sn s) (fsP p1 j) - eS (sn s) (fsP p2 j) := by
        unfold wiL lsB
        rw [up1]
        congr 1
        refine eS_st ww wl (fun i hi => ?_)
        rw [andn_hb fo1.1.1 (Int.lt_trans fo1.1.2 (by decide)) wo.1.1 wo.1.2, inb i (by omega), fo1.2, fo2.2, decide_eq_true (show i < j by omega), Bool.true_and, Bool.true_and]
        have a1 := e1 i
        have a2 := e2 i
        by_cases z : p2 i = true
        · rw [z, a1.2 ⟨(a2.1 z).1, by have := (a2.1 z).2; omega⟩]
          rfl
        · have z : p2 i = false := by simpa using z
          rw [z]
          cases p1 i <;> rfl
      refine B_M_window_98 g0 ?_
      rw [e'']
      refine ⟨fun _ => ?_, fun z => by omega⟩
      refine sp_M_endBy g0 wc ww wl we e'' ca (by omega) (fun M1 q0 _ => B_M_window_214 ?_)
      refine sp_M_endBy q0.1 wc ww wl we (q0.e e'') q0.2.2.2.2 (by omega) (fun M2 t0 _ => B_M_window_220 ?_)
      rw [← eL1]
      have lb := wiL_b (all := all) (a := W - 1) (b := W + m - 1) ww wl we
      have R2 := q0.tr t0
      have fin := hq M2 (R2.ri h') (fun a i q => ⟨(R2.fr a i q).1.trans (f' a i q).1, (R2.fr a i q).2.trans (f' a i q).2⟩)
      have fin : Q M2 (some (vI (wiA (sn s) all (W - 1) (W + m - 1) c))) := fin
      unfold wiA at fin
      have ab := dsA_b (n := sn s) (st := wiS (sn s) all (W - 1) (W + m - 1)) we
      rw [← eA1]
      refine ⟨by omega, fun z => ⟨fun y => ?_, fun y => ?_⟩, fun z => ?_⟩
      · rw [if_neg (by omega), if_neg y] at fin
        refine sp_M_partOf (ds := dsC (sn s) (wiS (sn s) all (W - 1) (W + m - 1))) R2.1 (by omega) ab.2 lb.1 lb.2 (fun x _ _ => dsC_b we) (by omega) (fun x x0 x1 => ?_) (B_M_window_250 fin)
        rw [R2.2.1 93 (by decide) (by decide), g3 x x0 x1, eC1]
      · rw [if_neg (by omega), if_pos y] at fin
        exact fin
      · rw [if_pos (by omega)] at fin
        exact fin
    | succ f ih =>
      intro j M' hj hf g0 g1 g2 g3
      have e'' : gI M' 81 = sn s := (g1 81 (by decide)).trans e'
      have ih := fun M'' => ih (j + 1) M'' (by omega) (by omega)
      rw [show (((j + 1 : Nat) : Int)) = (j : Int) + 1 by omega] at ih
      obtain ⟨v1, v2, v3, v4, -⟩ := we.2 j (by omega) (by omega)
      have db := dsm_b (p := fun i => p1 i && !p2 i) we j hj
      have dc := dsm_b (p := fun i => (p1 i && !p2 i) && decide (sn s (149 + 7 * (i : Int)) = sn s (149 + 7 * (j : Int)))) we j hj
      have a1 := e1 j
      have a2 := e2 j
      unfold dsm fsP at ih
      refine B_M_window_98 g0 ?_
      rw [e'', hW, g3 _ v2.1 (by omega)]
      refine ⟨fun z => by omega, fun _ => ⟨by omega, fun z => ⟨⟨by omega, by omega⟩, fun y => ⟨by omega, ?_⟩, fun y => ⟨⟨by omega, by omega⟩, fun x => ⟨⟨by omega, by omega, by omega, by omega, by omega, by omega, by omega⟩, ?_⟩, fun x => ⟨by omega, ?_⟩⟩⟩, fun z => ⟨by omega, ?_⟩⟩⟩
      · have n1 : p1 j = false := by
          rw [Bool.eq_false_iff]
          exact fun t => by have := (a1.1 t).2; omega
        have n2 : p2 j = false := by
          rw [Bool.eq_false_iff]
          exact fun t => by have := (a2.1 t).2; omega
        rw [n1, n2] at ih
        simp only [Bool.false_and, Bool.false_eq_true, if_false, Int.add_zero] at ih
        exact ih M' g0 g1 g2 g3
      · have n1 : p1 j = true := a1.2 ⟨z, by omega⟩
        have n2 : p2 j = false := by
          rw [Bool.eq_false_iff]
          exact fun t => by have := (a2.1 t).2; omega
        rw [n1, n2] at ih
        simp only [Bool.not_false, Bool.true_and, Bool.false_eq_true, if_false, if_true] at ih
        refine ih _ g0 (fun b hb => by rw [gI_ot hb]; exact g1 b hb) g2 (fun x x0 x1 => ?_)
        rw [gI_up]
        by_cases t : x = sn s (149 + 7 * (j : Int))
        · rw [t, up_s, decide_eq_true rfl, if_pos rfl]
        · rw [up_n t, decide_eq_false (fun r => t r.symm), if_neg (by decide), Int.add_zero]
          exact g3 x x0 x1
      · have n1 : p1 j = true := a1.2 ⟨z, by omega⟩
        have n2 : p2 j = true := a2.2 ⟨z, by omega⟩
        rw [n1, n2] at ih
        simp only [Bool.not_true, Bool.and_false, Bool.false_and, Bool.false_eq_true, if_false, if_true, Int.add_zero] at ih
        exact ih M' g0 g1 g2 g3
      · have n1 : p1 j = false := by
          rw [Bool.eq_false_iff]
          exact fun t => z (a1.1 t).1
        have n2 : p2 j = false := by
          rw [Bool.eq_false_iff]
          exact fun t => z (a2.1 t).1
        rw [n1, n2] at ih
        simp only [Bool.false_and, Bool.false_eq_true, if_false, Int.add_zero] at ih
        exact ih M' g0 g1 g2 g3
  have lp1 : ∀ (f : Nat) (j : Nat) (M' : Mm), j + f = 4 → RefOK M' → (∀ b : Nat, b ≠ 93 → gI M' b = gI M b) → gL M' = gL M → (∀ x, 0 ≤ x → x < (j : Int) → gI M' 93 x = 0) → Wq 6 0 0 mM_window 75 [iR 80, iI m, iI w, iI c, iI k, iI all, iI 0, iI 0, iI 0, iI j] [] M' Q := by
    intro f
    induction f with
    | zero =>
      intro j M' hj g0 g1 g2 g3
      exact B_M_window_75 g0 ⟨fun _ => lp2 _ 0 M' (by omega) rfl g0 g1 g2 (fun x x0 x1 => g3 x x0 (by omega)), fun z => by omega⟩
    | succ f ih =>
      intro j M' hj g0 g1 g2 g3
      have r := ih (j + 1) (sI M' 93 j 0) (by omega) g0 (fun b hb => by rw [gI_ot hb]; exact g1 b hb) g2 (fun x x0 x1 => by
        rw [gI_up]
        by_cases t : x = (j : Int)
        · rw [t, up_s]
        · rw [up_n t]
          exact g3 x x0 (by omega))
      rw [show (((j + 1 : Nat) : Int)) = (j : Int) + 1 by omega] at r
      exact B_M_window_75 g0 ⟨fun z => by omega, fun _ => ⟨by omega, r⟩⟩
  exact lp1 4 0 M (by omega) h.1 (fun _ _ => rfl) rfl (fun x x0 x1 => by omega)
end OPQ
