/-! ===== feed ===== -/
section OPF
variable {s : St} {M : Mm} {Q : Mm → Option Mv → Prop}
/-- byte k of a long -/
def fd (x k : Int) : Int := wr (lAnd (lShr x (8 * k)) 255)
theorem sm64 : ∀ k : Nat, k < 8 → ((((Int32.ofNat (8 * k)).toInt64 &&& 63).toBitVec.smod 64).toNat = 8 * k) ∧ (((Int32.ofNat (8 * k)).toInt64.toUInt64 &&& Int64.toUInt64 63).toBitVec % 64).toNat = 8 * k := by decide
theorem fd_bv {X : BitVec 64} {k : Nat} (hk : k < 8) : ((X.sshiftRight (8 * k)) &&& 255#64).toNat = ((((X >>> (8 * k)).setWidth 8).signExtend 32) &&& 255#32).toNat := by
  apply Nat.eq_of_testBit_eq
  intro i
  rw [BitVec.testBit_toNat, BitVec.testBit_toNat, BitVec.getLsbD_and, BitVec.getLsbD_and]
  by_cases hi : i < 8
  · have e1 : (255#64).getLsbD i = (255#32).getLsbD i := by
      have : ∀ i : Nat, i < 8 → (255#64).getLsbD i = (255#32).getLsbD i := by decide
      exact this i hi
    rw [e1, BitVec.getLsbD_sshiftRight, BitVec.getLsbD_signExtend, if_pos (show 8 * k + i < 64 by omega), if_pos hi, BitVec.getLsbD_setWidth, BitVec.getLsbD_ushiftRight]
    simp [hi, show i < 32 by omega, show i < 64 by omega, show ¬ 64 ≤ i by omega]
  · have e1 : (255#64).getLsbD i = false := by
      rw [← BitVec.testBit_toNat]
      show Nat.testBit 255 i = false
      exact Nat.testBit_lt_two_pow (Nat.lt_of_lt_of_le (show (255:Nat) < 2 ^ 8 by decide) (Nat.pow_le_pow_right (by decide) (by omega)))
    have e2 : (255#32).getLsbD i = false := by
      rw [← BitVec.testBit_toNat]
      show Nat.testBit 255 i = false
      exact Nat.testBit_lt_two_pow (Nat.lt_of_lt_of_le (show (255:Nat) < 2 ^ 8 by decide) (Nat.pow_le_pow_right (by decide) (by omega)))
    rw [e1, e2, Bool.and_false, Bool.and_false]
theorem fd_1 {x : Int} {k : Nat} (hk : k < 8) : lAnd (lShr x (8 * (k : Int))) 255 = (((((Int64.ofInt x).toBitVec).sshiftRight (8 * k)) &&& 255#64).toNat : Int) := by
  unfold lAnd lShr
  rw [of_tL]
  have h : (Int64.ofInt x >>> ((Int32.ofInt (8 * (k : Int))).toInt64 &&& 63) &&& Int64.ofInt 255).toBitVec = ((Int64.ofInt x).toBitVec).sshiftRight (8 * k) &&& 255#64 := by
    rw [Int64.toBitVec_and, Int64.toBitVec_shiftRight]
    unfold BitVec.sshiftRight'
    rw [show Int32.ofInt (8 * (k : Int)) = Int32.ofNat (8 * k) by rw [show (8 * (k : Int)) = ((8 * k : Nat) : Int) by omega]; rfl, (sm64 k hk).1]
    rfl
  rw [← Int64.toInt_toBitVec, h]
  have hl : (((Int64.ofInt x).toBitVec).sshiftRight (8 * k) &&& 255#64).toNat ≤ 255 := by
    rw [BitVec.toNat_and]
    exact Nat.and_le_right
  rw [BitVec.toInt_eq_toNat_of_lt (by omega)]
theorem fd_2 {x : Int} {k : Nat} (hk : k < 8) : bAnd (bB (bB (wr (lUshr x (8 * (k : Int)))))) 255 = ((((((Int64.ofInt x).toBitVec >>> (8 * k)).setWidth 8).signExtend 32) &&& 255#32).toNat : Int) := by
  unfold bAnd bB
  rw [of_t, of_t, of_wr, Int8.toInt8_toInt32]
  have h0 : (Int32.ofInt (lUshr x (8 * (k : Int)))).toInt8.toBitVec = ((Int64.ofInt x).toBitVec >>> (8 * k)).setWidth 8 := by
    rw [← of_wr, ← of_i _ (by unfold lUshr; exact ⟨Int64.le_toInt _, Int64.toInt_lt _⟩)]
    unfold lUshr
    rw [of_tL]
    rw [show Int32.ofInt (8 * (k : Int)) = Int32.ofNat (8 * k) by rw [show (8 * (k : Int)) = ((8 * k : Nat) : Int) by omega]; rfl]
    show BitVec.signExtend 8 (BitVec.signExtend 32 ((Int64.ofInt x).toBitVec >>> (((Int32.ofNat (8 * k)).toInt64.toUInt64 &&& Int64.toUInt64 63).toBitVec % 64).toNat)) = _
    rw [(sm64 k hk).2]
    apply BitVec.eq_of_getLsbD_eq
    intro i hi
    rw [BitVec.getLsbD_signExtend, BitVec.getLsbD_signExtend, BitVec.getLsbD_setWidth]
    simp [hi, show i < 32 by omega, show i < 64 by omega]
  have h : ((Int32.ofInt (lUshr x (8 * (k : Int)))).toInt8.toInt32 &&& Int32.ofInt 255).toBitVec = ((((Int64.ofInt x).toBitVec >>> (8 * k)).setWidth 8).signExtend 32) &&& 255#32 := by
    rw [← h0]
    rfl
  rw [← Int32.toInt_toBitVec, h]
  have hl : (((((Int64.ofInt x).toBitVec >>> (8 * k)).setWidth 8).signExtend 32) &&& 255#32).toNat ≤ 255 := by
    rw [BitVec.toNat_and]
    exact Nat.and_le_right
  rw [BitVec.toInt_eq_toNat_of_lt (by omega)]
theorem fd_le {x : Int} {k : Nat} (hk : k < 8) : 0 ≤ fd x k ∧ fd x k ≤ 255 := by
  unfold fd
  rw [fd_1 hk]
  have hl : (((Int64.ofInt x).toBitVec).sshiftRight (8 * k) &&& 255#64).toNat ≤ 255 := by
    rw [BitVec.toNat_and]
    exact Nat.and_le_right
  rw [wr_eq (by omega) (by omega)]
  omega
theorem fd_eq {x : Int} {k : Nat} (hk : k < 8) : bAnd (bB (bB (wr (lUshr x (8 * (k : Int)))))) 255 = fd x k := by
  have h := fd_le (x := x) hk
  unfold fd at *
  rw [fd_2 hk, ← fd_bv hk, ← fd_1 hk]
  rw [fd_1 hk] at h ⊢
  have hl : (((Int64.ofInt x).toBitVec).sshiftRight (8 * k) &&& 255#64).toNat ≤ 255 := by
    rw [BitVec.toNat_and]
    exact Nat.and_le_right
  exact (wr_eq (by omega) (by omega)).symm
/-- 'now' with the first j bytes of x behind the tape -/
def fdN (n : Int → Int) (x : Int) : Nat → Int → Int
  | 0 => n
  | j + 1 => up (up (fdN n x j) (1933 + fdN n x j 7) (fd x j)) 7 (fdN n x j 7 + 1)
theorem fdN_7 {n : Int → Int} {x : Int} : ∀ j : Nat, fdN n x j 7 = n 7 + j
  | 0 => by show n 7 = n 7 + 0; omega
  | j + 1 => by
    show up _ 7 _ 7 = _
    rw [up_s, fdN_7 j]
    omega
theorem fdN_o {n : Int → Int} {x i : Int} (h7 : i ≠ 7) : ∀ j : Nat, (i < 1933 + n 7 ∨ 1933 + n 7 + j ≤ i) → fdN n x j i = n i
  | 0, _ => rfl
  | j + 1, h => by
    show up (up _ (1933 + _) _) 7 _ i = _
    rw [up_n h7, fdN_7 j, up_n (by omega), fdN_o h7 j (by omega)]
theorem fdN_at {n : Int → Int} {x : Int} (h0 : 0 ≤ n 7) {i : Nat} : ∀ j : Nat, i < j → fdN n x j (1933 + n 7 + i) = fd x i
  | 0, h => by omega
  | j + 1, h => by
    show up (up _ (1933 + _) _) 7 _ _ = _
    rw [up_n (by omega), fdN_7 j]
    by_cases c : i = j
    · subst c
      rw [show 1933 + (n 7 + (i : Int)) = 1933 + n 7 + i by omega, up_s]
    · rw [up_n (by omega), fdN_at h0 j (by omega)]
def o_feed (s : St) (x k : Int) : St × Int :=
  if 1 ≤ k ∧ k ≤ 8 then (if sn s 7 + k ≤ 60 then (wN s (fdN (sn s) x k.toNat), sn s 7 + k) else fnd s 4) else fnd s 1
theorem fdN_wf {n : Int → Int} {x k : Int} (h : WfN n) (hk : 1 ≤ k ∧ k ≤ 8) (h7 : n 7 + k ≤ 60) : WfN (fdN n x k.toNat) := by
  obtain ⟨wd, wc, ww, wl, we, wt, wx, wh⟩ := h
  have t7 := wt.1
  have o : ∀ i, i ≠ 7 → (i < 1933 ∨ 1993 ≤ i) → fdN n x k.toNat i = n i := fun i h1 h2 => fdN_o h1 _ (by omega)
  refine ⟨wd.cg (o 0 (by decide) (by decide)), wc.cg (o 1 (by decide) (by decide)) (fun i a b => o i (by omega) (by omega)), ww.cg (o 2 (by decide) (by decide)) (fun i a b => o i (by omega) (by omega)), wl.cg (o 2 (by decide) (by decide)) (o 3 (by decide) (by decide)) (fun i a b => o i (by omega) (by omega)), we.cg (o 0 (by decide) (by decide)) (o 2 (by decide) (by decide)) (o 4 (by decide) (by decide)) (fun i a b => o i (by omega) (by omega)), ?_, wx.cg (o 5 (by decide) (by decide)) (fun i a b => o i (by omega) (by omega)), wh.cg (o 2 (by decide) (by decide)) (o 6 (by decide) (by decide)) ww.1.2 (fun i a b => o i (by omega) (by omega)) (fun i a b => o i (by omega) (by omega))⟩
  unfold wTap
  rw [fdN_7]
  refine ⟨by omega, fun i i0 i1 => ?_⟩
  by_cases c : i < n 7
  · rw [fdN_o (by omega) _ (by omega)]
    exact wt.2 i i0 c
  · obtain ⟨q, hq⟩ : ∃ q : Nat, i = n 7 + q := ⟨(i - n 7).toNat, by omega⟩
    subst hq
    rw [show 1933 + (n 7 + (q : Int)) = 1933 + n 7 + q by omega, fdN_at t7.1 _ (by omega)]
    exact fd_le (by omega)
theorem w_feed {x k : Int} (hw : WfS s) : WfS (o_feed s x k).1 := by
  unfold o_feed
  split
  · split
    · rename_i c c2
      exact hw.to (fdN_wf hw.1 c c2)
    · exact hw.fnd
  · exact hw.fnd
theorem c_feed {x k : Int} (hw : WfS s) (h : CI s M) (hq : ∀ M', CI (o_feed s x k).1 M' → FrC M M' → Q M' (some (vI (o_feed s x k).2))) : Wq 3 0 0 mD_feed 0 [iR 0, iL x, none, iI k] [] M Q := by
  obtain ⟨d0, dC, dW, dL, dE, dT, dX, dH⟩ := h.2.1
  obtain ⟨wd, wc, ww, wl, we, wt, wx, wh⟩ := hw.1
  have t7 := wt.1
  refine B_D_feed_0 h.1 ?_
  rw [dT.1]
  refine ⟨fun c => ⟨by omega, fun c2 => ?_, fun c2 => c_fnd h (by decide) (by decide) (by decide) ((if_pos c).trans (if_neg c2)) hq⟩, fun c => c_fnd h (by decide) (by decide) (by decide) (if_neg c) hq⟩
  rw [show o_feed s x k = _ from (if_pos c).trans (if_pos c2)] at hq
  refine B_C_take_0 ?_
  have key : ∀ (f : Nat) (j : Nat) (M' : Mm), (j : Int) ≤ k → k.toNat - j = f → RefOK M' → (∀ b : Nat, b ≠ 20 → b ≠ 21 → gI M' b = gI M b) → gL M' = gL M → (∀ i, i ≠ 5 → gI M' 20 i = gI M 20 i) → cTap (fdN (sn s) x j) (gI M' 21) (gI M' 20 5) → Wq 1 0 0 mC_take 3 [iR 20, iL x, none, iI k, iI j] [] M' (fun M' v => Wq 3 0 0 mD_feed 53 [iR 0, iL x, none, iI k] (v.toList ++ []) M' Q) := by
    intro f
    induction f with
    | zero =>
      intro j M' hj hf hS g1 g2 g3 g4
      refine B_C_take_3 hS ⟨fun c => ?_, fun c => by omega⟩
      refine B_D_feed_53 ?_
      rw [g4.1, fdN_7, show (sn s 7 + (j : Int)) = sn s 7 + k by omega]
      have ej : k.toNat = j := by omega
      rw [ej] at hq
      have o : ∀ i, i ≠ 7 → (i < 1933 ∨ 1993 ≤ i) → fdN (sn s) x j i = sn s i := fun i h1 h2 => fdN_o h1 _ (by omega)
      refine hq _ (h.to hS ⟨?_, ?_, ?_, ?_, ?_, g4, ?_, ?_⟩ (fun b hb => g1 b (by omega) (by omega)) (by rw [g2])) (fun a i ha => by rw [g1 a (by omega) (by omega)])
      · rw [g1 1 (by decide) (by decide)]
        exact d0.trans (o 0 (by decide) (by decide)).symm
      · rw [g2, g1 4 (by decide) (by decide), g1 2 (by decide) (by decide)]
        exact dC.cg (o 1 (by decide) (by decide)) (fun i a b => o i (by omega) (by omega))
      · rw [g1 6 (by decide) (by decide), g1 7 (by decide) (by decide), g1 8 (by decide) (by decide), g1 5 (by decide) (by decide)]
        exact dW.cg ww.1.2 (o 2 (by decide) (by decide)) (fun i a b => o i (by omega) (by omega))
      · rw [g1 9 (by decide) (by decide), g1 10 (by decide) (by decide), g1 11 (by decide) (by decide), g1 5 (by decide) (by decide)]
        exact dL.cg wl.1.2 (o 2 (by decide) (by decide)) (o 3 (by decide) (by decide)) (fun i a b => o i (by omega) (by omega))
      · rw [g1 13 (by decide) (by decide), g1 14 (by decide) (by decide), g1 15 (by decide) (by decide), g1 16 (by decide) (by decide), g1 17 (by decide) (by decide), g1 18 (by decide) (by decide), g1 19 (by decide) (by decide), g1 12 (by decide) (by decide)]
        exact dE.cg we.1.2 (o 4 (by decide) (by decide)) (fun i a b => o i (by omega) (by omega))
      · rw [g1 22 (by decide) (by decide), g1 23 (by decide) (by decide), g1 24 (by decide) (by decide), g1 25 (by decide) (by decide), g3 6 (by decide)]
        exact dX.cg wx.1.2 (o 5 (by decide) (by decide)) (fun i a b => o i (by omega) (by omega))
      · rw [g1 27 (by decide) (by decide), g1 28 (by decide) (by decide), g1 29 (by decide) (by decide), g1 26 (by decide) (by decide)]
        exact dH.cg wh.1.2 (o 6 (by decide) (by decide)) (fun i a b => o i (by omega) (by omega))
    | succ f ih =>
      intro j M' hj hf hS g1 g2 g3 g4
      have e7 := g4.1
      rw [fdN_7] at e7
      have ih := fun M'' => ih (j + 1) M'' (by omega) (by omega)
      rw [show (((j + 1 : Nat) : Int)) = (j : Int) + 1 by omega] at ih
      refine B_C_take_3 hS ?_
      rw [e7]
      refine ⟨fun c => by omega, fun c => ⟨by omega, ?_⟩⟩
      refine ih _ hS (fun b b1 b2 => ?_) g2 (fun i hi => ?_) ?_
      · rw [gI_ot b1, gI_ot b2]
        exact g1 b b1 b2
      · rw [gI_n (Or.inr hi), gI_ot (by decide)]
        exact g3 i hi
      · rw [gI_ot (by decide), gI_up, gI_s]
        unfold cTap
        rw [fdN_7]
        refine ⟨by omega, fun i i0 i1 => ?_⟩
        by_cases ci : i = sn s 7 + j
        · subst ci
          rw [up_s, fd_eq (by omega), show 1933 + (sn s 7 + (j : Int)) = 1933 + sn s 7 + j by omega]
          exact (fdN_at t7.1 _ (by omega)).symm
        · rw [up_n ci]
          have := g4.2 i i0 (by rw [fdN_7]; omega)
          rw [this]
          show _ = up (up _ (1933 + _) _) 7 _ _
          rw [up_n (by omega), fdN_7, up_n (by omega)]
  exact key _ 0 M (by omega) rfl h.1 (fun _ _ _ => rfl) rfl (fun _ _ => rfl) dT
theorem r_feed {x k : Int} (hw : WfS s) (h : RI s M) (hq : ∀ M', RI (o_feed s x k).1 M' → FrR M M' → Q M' (some (vI (o_feed s x k).2))) : Wq 2 0 0 mM_feed 0 [iR 80, iL x, none, iI k, none] [] M Q := by
  have e' := h.2.1
  obtain ⟨wd, wc, ww, wl, we, wt, wx, wh⟩ := hw.1
  have t7 := wt.1
  refine B_M_feed_0 h.1 ?_
  rw [e']
  refine ⟨fun c => ⟨by omega, fun c2 => ?_, fun c2 => r_fnd h (by decide) ((if_pos c).trans (if_neg c2)) hq⟩, fun c => r_fnd h (by decide) (if_neg c) hq⟩
  rw [show o_feed s x k = _ from (if_pos c).trans (if_pos c2)] at hq
  have key : ∀ (f : Nat) (j : Nat) (M' : Mm), (j : Int) ≤ k → k.toNat - j = f → RefOK M' → (∀ b : Nat, b ≠ 81 → gI M' b = gI M b) → gL M' = gL M → gI M' 81 = fdN (sn s) x j → Wq 2 0 0 mM_feed 43 [iR 80, iL x, none, iI k, iI j] [] M' Q := by
    intro f
    induction f with
    | zero =>
      intro j M' hj hf hS g1 g2 g4
      refine B_M_feed_43 hS ⟨fun c => ?_, fun c => by omega⟩
      rw [g4, fdN_7, show (sn s 7 + (j : Int)) = sn s 7 + k by omega]
      have ej : k.toNat = j := by omega
      rw [ej] at hq
      have o : ∀ i, i ≠ 7 → (i < 1933 ∨ 1993 ≤ i) → fdN (sn s) x j i = sn s i := fun i h1 h2 => fdN_o h1 _ (by omega)
      refine hq _ (h.to (n' := fdN (sn s) x j) hS g4 g1 (rCac.cg ww wl h.2.2.2.2.2.2.2.2.2.2 (o 1 (by decide) (by decide)) (o 2 (by decide) (by decide)) (o 3 (by decide) (by decide)) (fun i a b => o i (by omega) (by omega)) (fun i a b => o i (by omega) (by omega)) (by rw [g1 80 (by decide)]) (by rw [g1 91 (by decide)]) (by rw [g1 92 (by decide)]))) (fun a i ha => ⟨by rw [g1 a (by omega)], by rw [g2]⟩)
    | succ f ih =>
      intro j M' hj hf hS g1 g2 g4
      have ih := fun M'' => ih (j + 1) M'' (by omega) (by omega)
      rw [show (((j + 1 : Nat) : Int)) = (j : Int) + 1 by omega] at ih
      refine B_M_feed_43 hS ?_
      rw [g4, fdN_7]
      refine ⟨fun c => by omega, fun c => ⟨by omega, ?_⟩⟩
      refine ih _ hS (fun b b1 => ?_) g2 ?_
      · rw [gI_ot b1, gI_ot b1]
        exact g1 b b1
      · rw [gI_up, gI_up, g4]
        show _ = up (up _ (1933 + _) _) 7 _
        rw [fdN_7]
        rfl
  exact key _ 0 M (by omega) rfl h.1 (fun _ _ => rfl) rfl e'
end OPF
