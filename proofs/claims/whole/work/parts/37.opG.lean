/-! ===== week, rain ===== -/
section OPG
variable {s : St} {M : Mm} {Q : Mm → Option Mv → Prop}
theorem gL_up {M : Mm} {a : Nat} {i v : Int} : gL (sL M a i v) a = up (gL M a) i v := by
  funext j
  show (if a = a ∧ j = i then v else gL M a j) = if j = i then v else gL M a j
  by_cases h : j = i <;> simp [h]
theorem gL_ot {M : Mm} {a b : Nat} {i v : Int} (h : b ≠ a) : gL (sL M a i v) b = gL M b := by
  funext j
  show (if b = a ∧ j = i then v else gL M b j) = gL M b j
  rw [if_neg (fun z => h z.1)]
theorem d_row {d : Int} (h0 : 0 ≤ d) (h1 : d < 2147483648) : bShr d 6 = d / 64 := by
  obtain ⟨a, rfl⟩ : ∃ a : Nat, d = a := ⟨d.toNat, by omega⟩
  unfold bShr
  have h := pk_shrN (n := a) (by omega) (Int32.ofInt 6 &&& 31) 6 (sh_amt 6 (by decide))
  rw [show Int32.ofInt (a : Int) = nI a from rfl, h, nI_toInt (by have := Nat.div_le_self a (2 ^ 6); omega)]
  omega
theorem d_bit {d : Int} (h0 : 0 ≤ d) (h1 : d < 2147483648) : bAnd d 63 = d % 64 := by
  obtain ⟨a, rfl⟩ : ∃ a : Nat, d = a := ⟨d.toNat, by omega⟩
  rw [show bAnd (a : Int) 63 = ((a &&& 63 : Nat) : Int) from bAnd_n (by omega) (by decide), land_63]
  omega
theorem sm64u : ∀ k : Nat, k < 64 → ((((Int32.ofNat k).toInt64 &&& 63).toBitVec.smod 64).toNat = k) ∧ (((Int32.ofNat k).toInt64.toUInt64 &&& Int64.toUInt64 63).toBitVec % 64).toNat = k := by decide
theorem wb_rd {x : Int} {e : Nat} (he : e < 64) : lAnd (lUshr x e) 1 = if (Int64.ofInt x).toBitVec.getLsbD e = true then 1 else 0 := by
  unfold lAnd lUshr
  rw [of_tL, show Int32.ofInt (e : Int) = Int32.ofNat e from rfl]
  have h : ((((Int64.ofInt x).toUInt64 >>> ((Int32.ofNat e).toInt64.toUInt64 &&& Int64.toUInt64 63)).toInt64) &&& Int64.ofInt 1).toBitVec = ((Int64.ofInt x).toBitVec >>> e) &&& 1#64 := by
    show ((Int64.ofInt x).toBitVec >>> (((Int32.ofNat e).toInt64.toUInt64 &&& Int64.toUInt64 63).toBitVec % 64).toNat) &&& 1#64 = _
    rw [(sm64u e he).2]
  rw [← Int64.toInt_toBitVec, h]
  have hb : ((Int64.ofInt x).toBitVec >>> e &&& 1#64) = if (Int64.ofInt x).toBitVec.getLsbD e = true then 1#64 else 0#64 := by
    apply BitVec.eq_of_getLsbD_eq
    intro i hi
    rw [BitVec.getLsbD_and, BitVec.getLsbD_ushiftRight]
    by_cases c : i = 0
    · subst c
      by_cases q : (Int64.ofInt x).toBitVec.getLsbD e = true
      · rw [if_pos q, Nat.add_zero, q]
        rfl
      · rw [if_neg q, Nat.add_zero, Bool.eq_false_iff.mpr q]
        rfl
    · have e1 : (1#64).getLsbD i = false := by
        rw [BitVec.getLsbD_one]
        simp [c]
      rw [e1, Bool.and_false]
      split
      · rw [e1]
      · simp
  rw [hb]
  split <;> rfl
theorem wb_fl {x : Int} {e i : Nat} (he : e < 64) (hi : i < 64) : (Int64.ofInt (lXor x (lShl 1 e))).toBitVec.getLsbD i = ((Int64.ofInt x).toBitVec.getLsbD i ^^ decide (i = e)) := by
  unfold lXor lShl
  rw [of_tL, of_tL, show Int32.ofInt (e : Int) = Int32.ofNat e from rfl, Int64.toBitVec_xor, BitVec.getLsbD_xor]
  congr 1
  have h : (Int64.ofInt 1 <<< ((Int32.ofNat e).toInt64 &&& 63)).toBitVec = 1#64 <<< e := by
    rw [Int64.toBitVec_shiftLeft]
    show 1#64 <<< (((Int32.ofNat e).toInt64 &&& 63).toBitVec.smod 64).toNat = _
    rw [(sm64u e he).1]
  rw [h, BitVec.getLsbD_shiftLeft, BitVec.getLsbD_one]
  by_cases c : i < e
  · simp [c]
    omega
  · by_cases c2 : i = e
    · subst c2
      simp [hi]
    · simp [hi, c, c2]
      omega
theorem wb_up {w : Int → Int} {d d' : Int} (h0 : 0 ≤ d) (h0' : 0 ≤ d') : wb (up w (d / 64) (lXor (w (d / 64)) (lShl 1 (d % 64)))) d' = (wb w d' ^^ decide (d' = d)) := by
  unfold wb
  by_cases c : d' / 64 = d / 64
  · rw [c, up_s]
    obtain ⟨e, he⟩ : ∃ e : Nat, d % 64 = e := ⟨(d % 64).toNat, by omega⟩
    rw [he, wb_fl (by omega) (by omega)]
    congr 1
    apply decide_eq_decide.mpr
    omega
  · rw [up_n c, decide_eq_false (by omega), Bool.xor_false]
theorem sp_Y_isWet {d : Int} (hS : RefOK M) (h0 : 0 ≤ d) (h1 : d < 900) (hq : Q M (some (vI (if wb (gL M 3) d = true then 1 else 0)))) : Wq 1 0 0 mY_isWet 0 [iR 2, iI d] [] M Q := by
  refine B_Y_isWet_0 hS ?_
  rw [d_row h0 (by omega), d_bit h0 (by omega)]
  obtain ⟨e, he⟩ : ∃ e : Nat, d % 64 = e := ⟨(d % 64).toNat, by omega⟩
  unfold wb at hq
  rw [he] at hq ⊢
  rw [wb_rd (by omega)]
  rw [show ((e : Int).toNat) = e from rfl] at hq
  refine ⟨by omega, ?_⟩
  by_cases q : (Int64.ofInt (gL M 3 (d / 64))).toBitVec.getLsbD e = true
  · rw [if_pos q] at hq ⊢
    exact ⟨fun c => absurd c (by decide), fun _ => hq⟩
  · rw [if_neg q] at hq ⊢
    exact ⟨fun _ => hq, fun c => absurd (by decide) c⟩
theorem sp_Y_countDry {n : Int → Int} {x : Nat} (hS : RefOK M) (hx : x ≤ 900) (w1 : 1 ≤ n 1 ∧ n 1 ≤ 127) (hk : gI M 2 3 = n 1) (hwet : ∀ d, 0 ≤ d → d < 900 → (wb (gL M 3) d = true ↔ n (1033 + d) = 1)) (hd : ∀ d : Nat, d ≤ x → gI M 4 d = dcn n d) (hq : ∀ M', RefOK M' → (∀ b : Nat, b ≠ 4 → gI M' b = gI M b) → gL M' = gL M → (∀ d : Nat, d ≤ 900 → gI M' 4 d = dcn n d) → Q M' none) : Wq 2 0 0 mY_countDry 0 [iR 2, iI x, none] [] M Q := by
  refine B_Y_countDry_0 ?_
  have db : ∀ k : Nat, 0 ≤ dcn n k ∧ dcn n k ≤ k := by
    intro k
    induction k with
    | zero => exact ⟨Int.le_refl _, Int.le_refl _⟩
    | succ k ih =>
      unfold dcn
      split <;> omega
  have key : ∀ (f : Nat) (j : Nat) (M' : Mm), j ≤ 900 → 900 - j = f → RefOK M' → (∀ b : Nat, b ≠ 4 → gI M' b = gI M b) → gL M' = gL M → (∀ d : Nat, d ≤ j → gI M' 4 d = dcn n d) → Wq 2 0 0 mY_countDry 2 [iR 2, iI x, iI j] [] M' Q := by
    intro f
    induction f with
    | zero =>
      intro j M' hj hf g0 g1 g2 g3
      refine B_Y_countDry_2 g0 ⟨fun c => ?_, fun c => by omega⟩
      have : j = 900 := by omega
      subst this
      exact hq M' g0 g1 g2 g3
    | succ f ih =>
      intro j M' hj hf g0 g1 g2 g3
      have dj := db j
      have fin : ∀ v : Int, v = dcn n (j + 1) → Wq 2 0 0 mY_countDry 2 [iR 2, iI x, iI ((j : Int) + 1)] [] (sI M' 4 ((j : Int) + 1) v) Q := by
        intro v hv
        have ih := ih (j + 1) (sI M' 4 ((j : Int) + 1) v) (by omega) (by omega) g0 (fun b hb => by rw [gI_ot hb]; exact g1 b hb) g2 (fun d hd => by
          rw [gI_up]
          by_cases c : d = j + 1
          · subst c
            rw [show (((j + 1 : Nat) : Int)) = (j : Int) + 1 by omega, up_s]
            exact hv
          · rw [up_n (by omega)]
            exact g3 d (by omega))
        rw [show (((j + 1 : Nat) : Int)) = (j : Int) + 1 by omega] at ih
        exact ih
      refine B_Y_countDry_2 g0 ⟨fun c => by omega, fun c => ?_⟩
      rw [g1 2 (by decide), hk, g3 j (Nat.le_refl _), Int.tmod_eq_emod_of_nonneg (show (0 : Int) ≤ (j : Int) by omega)]
      refine ⟨by omega, fun c2 => ?_, fun c2 => ⟨by omega, fin _ ?_⟩⟩
      · refine sp_Y_isWet g0 (by omega) (by omega) ?_
        rw [g2, wr_eq (by omega) (by omega)]
        have hw := hwet j (by omega) (by omega)
        refine B_Y_countDry_41 ?_
        by_cases q : wb (gL M 3) j = true
        · rw [if_pos q]
          refine ⟨fun _ => ⟨by omega, fin _ ?_⟩, fun z => absurd z (by decide)⟩
          rw [show dcn n (j + 1) = dcn n j + (if wkd n j = true ∧ n (1033 + (j : Int)) ≠ 1 then 1 else 0) from rfl, if_neg (fun z => z.2 (hw.mp q))]
          omega
        · rw [if_neg q]
          refine ⟨fun z => absurd rfl z, fun _ => ⟨by omega, fin _ ?_⟩⟩
          rw [show dcn n (j + 1) = dcn n j + (if wkd n j = true ∧ n (1033 + (j : Int)) ≠ 1 then 1 else 0) from rfl, if_pos ⟨c2, fun z => q (hw.mpr z)⟩]
      · rw [show dcn n (j + 1) = dcn n j + (if wkd n j = true ∧ n (1033 + (j : Int)) ≠ 1 then 1 else 0) from rfl, if_neg (fun z => c2 z.1)]
        omega
  exact key _ x M hx rfl hS (fun _ _ => rfl) rfl hd
/-! week -/
def o_week (s : St) (x : Int) : St × Int := if 1 ≤ x ∧ x ≤ 127 then (wN s (up (sn s) 1 x), sn s 1) else fnd s 1
theorem w_week {x : Int} (hw : WfS s) : WfS (o_week s x).1 := by
  unfold o_week
  split
  · rename_i c
    obtain ⟨wd, wc, ww, wl, we, wt, wx, wh⟩ := hw.1
    have o : ∀ i, i ≠ 1 → up (sn s) 1 x i = sn s i := fun i h => up_n h
    refine hw.to ⟨wd.cg (o 0 (by decide)), ?_, ww.cg (o 2 (by decide)) (fun i a b => o i (by omega)), wl.cg (o 2 (by decide)) (o 3 (by decide)) (fun i a b => o i (by omega)), we.cg (o 0 (by decide)) (o 2 (by decide)) (o 4 (by decide)) (fun i a b => o i (by omega)), wt.cg (o 7 (by decide)) (fun i a b => o i (by omega)), wx.cg (o 5 (by decide)) (fun i a b => o i (by omega)), wh.cg (o 2 (by decide)) (o 6 (by decide)) ww.1.2 (fun i a b => o i (by omega)) (fun i a b => o i (by omega))⟩
    unfold wCal
    rw [up_s]
    refine ⟨c, fun d d0 d1 => ?_⟩
    rw [o _ (by omega)]
    exact wc.2 d d0 d1
  · exact hw.fnd
theorem pc7_n (x : Int) : ∀ k : Nat, pcn x k = pc7 x k
  | 0 => rfl
  | k + 1 => by
    show pcn x k + _ = pc7 x k + _
    rw [pc7_n x k]
theorem pc7_1 : ∀ x : Nat, x < 128 → 1 ≤ x → 1 ≤ pc7 (x : Int) 7 := by decide
/-- what the class keeps, when only cells 2, 3, 4 and 'now' 1, 1033 .. are others -/
theorem CI.cal {n' : Int → Int} {M' : Mm} (hw : WfS s) (h : CI s M) (hS : RefOK M') (o : ∀ i, i ≠ 1 → (i < 1033 ∨ 1933 ≤ i) → n' i = sn s i) (g1 : ∀ b : Nat, b ≠ 2 → b ≠ 4 → gI M' b = gI M b) (g2 : ∀ b : Nat, b ≠ 3 → gL M' b = gL M b) (hc : cCal n' (gL M' 3) (gI M' 4) (gI M' 2 2) (gI M' 2 3) (gI M' 2 4)) : CI (wN s n') M' := by
  obtain ⟨d0, dC, dW, dL, dE, dT, dX, dH⟩ := h.2.1
  obtain ⟨wd, wc, ww, wl, we, wt, wx, wh⟩ := hw.1
  refine h.to hS ⟨?_, hc, ?_, ?_, ?_, ?_, ?_, ?_⟩ (fun b hb => g1 b (by omega) (by omega)) (g2 32 (by decide))
  · rw [g1 1 (by decide) (by decide)]
    exact d0.trans (o 0 (by decide) (by decide)).symm
  · rw [g1 6 (by decide) (by decide), g1 7 (by decide) (by decide), g1 8 (by decide) (by decide), g1 5 (by decide) (by decide)]
    exact dW.cg ww.1.2 (o 2 (by decide) (by decide)) (fun i a b => o i (by omega) (by omega))
  · rw [g1 9 (by decide) (by decide), g1 10 (by decide) (by decide), g1 11 (by decide) (by decide), g1 5 (by decide) (by decide)]
    exact dL.cg wl.1.2 (o 2 (by decide) (by decide)) (o 3 (by decide) (by decide)) (fun i a b => o i (by omega) (by omega))
  · rw [g1 13 (by decide) (by decide), g1 14 (by decide) (by decide), g1 15 (by decide) (by decide), g1 16 (by decide) (by decide), g1 17 (by decide) (by decide), g1 18 (by decide) (by decide), g1 19 (by decide) (by decide), g1 12 (by decide) (by decide)]
    exact dE.cg we.1.2 (o 4 (by decide) (by decide)) (fun i a b => o i (by omega) (by omega))
  · rw [g1 21 (by decide) (by decide), g1 20 (by decide) (by decide)]
    exact dT.cg wt.1.2 (o 7 (by decide) (by decide)) (fun i a b => o i (by omega) (by omega))
  · rw [g1 22 (by decide) (by decide), g1 23 (by decide) (by decide), g1 24 (by decide) (by decide), g1 25 (by decide) (by decide), g1 20 (by decide) (by decide)]
    exact dX.cg wx.1.2 (o 5 (by decide) (by decide)) (fun i a b => o i (by omega) (by omega))
  · rw [g1 27 (by decide) (by decide), g1 28 (by decide) (by decide), g1 29 (by decide) (by decide), g1 26 (by decide) (by decide)]
    exact dH.cg wh.1.2 (o 6 (by decide) (by decide)) (fun i a b => o i (by omega) (by omega))
theorem c_week {x : Int} (hw : WfS s) (h : CI s M) (hq : ∀ M', CI (o_week s x).1 M' → FrC M M' → Q M' (some (vI (o_week s x).2))) : Wq 4 0 0 mD_week 0 [iR 0, iI x] [] M Q := by
  obtain ⟨d0, dC, dW, dL, dE, dT, dX, dH⟩ := h.2.1
  refine B_D_week_0 h.1 ⟨fun c => ?_, fun c => c_fnd h (by decide) (by decide) (by decide) (if_neg c) hq⟩
  rw [show o_week s x = _ from if_pos c] at hq
  refine B_Y_turnWeek_0 ?_
  rw [dC.1]
  refine sp_J_bitCount (by omega) (by omega) (B_Y_turnWeek_16 ?_)
  have e7 : pcn x 20 = pc7 x 7 := by
    rw [← pc7_n]
    exact pcn_top (n := 7) (fun k hk => hb_big (n := 7) (by show x < 128; omega) hk) 20 (by decide)
  have p7 : 1 ≤ pc7 x 7 := by
    have := pc7_1 x.toNat (by omega) (by omega)
    rw [show ((x.toNat : Nat) : Int) = x by omega] at this
    exact this
  rw [e7, show max 1 (pc7 x 7) = pc7 x 7 by omega]
  have o : ∀ i, i ≠ 1 → up (sn s) 1 x i = sn s i := fun i h => up_n h
  refine sp_Y_countDry (n := up (sn s) 1 x) (x := 0) h.1 (by decide) (by rw [up_s]; exact c) (by rw [up_s]; rfl) (fun d d0 d1 => ?_) (fun d hd => ?_) (fun M' g0 g1 g2 g3 => ?_)
  · rw [o _ (by omega)]
    exact dC.2.2.1 d d0 d1
  · rw [show d = 0 by omega]
    exact dC.2.2.2.1 0 (by decide)
  refine B_Y_turnWeek_27 (B_D_week_28 ?_)
  have g2' : gL M' = gL M := g2
  refine hq _ (h.cal hw (n' := up (sn s) 1 x) g0 (fun i h1 _ => o i h1) (fun b b1 b2 => ?_) (fun b _ => by rw [g2']) ?_) (fun a i ha => ?_)
  · rw [g1 b b2, gI_ot b1, gI_ot b1]
  · unfold cCal
    rw [g1 2 (by decide), g2', up_s]
    refine ⟨rfl, rfl, fun d d0 d1 => ?_, g3, ?_⟩
    · rw [o _ (by omega)]
      exact dC.2.2.1 d d0 d1
    · rw [rsm_cg (n := sn s) (fun i a b => o i (by omega)) 900 (by decide)]
      exact dC.2.2.2.2
  · rw [g1 a (by omega), gI_ot (by omega), gI_ot (by omega)]
theorem r_week {x : Int} (hw : WfS s) (h : RI s M) (hq : ∀ M', RI (o_week s x).1 M' → FrR M M' → Q M' (some (vI (o_week s x).2))) : Wq 2 0 0 mM_week 0 [iR 80, iI x, none] [] M Q := by
  have e' := h.2.1
  refine B_M_week_0 h.1 ⟨fun c => ?_, fun c => r_fnd h (by decide) (if_neg c) hq⟩
  rw [show o_week s x = _ from if_pos c] at hq
  refine sp_M_changed h.1 (fun M' g1 g2 g3 g4 g5 => B_M_week_37 ?_)
  rw [e']
  refine hq _ (h.chg (n' := up (sn s) 1 x) (M1 := sI M 81 1 x) ?_ ?_ (fun a ha => gI_ot ha) g1 g3 g4 g5) (FrR.chg (M1 := sI M 81 1 x) (FrR.sI (by decide) (by decide)) g1 g2)
  · rw [up_n (by decide)]
    exact hw.1.2.2.1.1.2
  · rw [gI_up, e']
/-! rain -/
/-- 'now' with the first j days from d on turned to v -/
def rnN (n : Int → Int) (d v : Int) : Nat → Int → Int
  | 0 => n
  | j + 1 => up (rnN n d v j) (1033 + (d + j)) v
/-- how many of them were otherwise -/
def trn (n : Int → Int) (d v : Int) : Nat → Int
  | 0 => 0
  | j + 1 => trn n d v j + (if n (1033 + (d + j)) = v then 0 else 1)
theorem rnN_o {n : Int → Int} {d v i : Int} : ∀ j : Nat, (i < 1033 + d ∨ 1033 + d + j ≤ i) → rnN n d v j i = n i
  | 0, _ => rfl
  | j + 1, h => by
    show up _ _ _ i = _
    rw [up_n (by omega), rnN_o j (by omega)]
theorem rnN_in {n : Int → Int} {d v i : Int} : ∀ j : Nat, 1033 + d ≤ i → i < 1033 + d + j → rnN n d v j i = v
  | 0, h1, h2 => by omega
  | j + 1, h1, h2 => by
    show up _ _ _ i = _
    by_cases c : i = 1033 + (d + j)
    · rw [c, up_s]
    · rw [up_n c, rnN_in j h1 (by omega)]
theorem trn_le {n : Int → Int} {d v : Int} : ∀ j : Nat, 0 ≤ trn n d v j ∧ trn n d v j ≤ j
  | 0 => ⟨Int.le_refl _, Int.le_refl _⟩
  | j + 1 => by
    have := trn_le (n := n) (d := d) (v := v) j
    unfold trn
    split <;> omega
theorem rsm_up {n : Int → Int} {p v : Int} (h : 0 ≤ p) : ∀ k : Nat, rsm (up n (1033 + p) v) k = rsm n k + (if p < k then v - n (1033 + p) else 0)
  | 0 => by
    rw [if_neg (by omega)]
    rfl
  | k + 1 => by
    show rsm _ k + up n (1033 + p) v (1033 + (k : Int)) = rsm n k + n (1033 + (k : Int)) + _
    rw [rsm_up h k]
    by_cases c : p = k
    · subst c
      rw [up_s, if_neg (by omega), if_pos (by omega)]
      omega
    · rw [up_n (by omega)]
      by_cases c2 : p < k
      · rw [if_pos c2, if_pos (by omega)]
        omega
      · rw [if_neg c2, if_neg (by omega)]
        omega
theorem rsm_rn {n : Int → Int} {d v : Int} (wc : wCal n) (hv : v = 0 ∨ v = 1) (h0 : 0 ≤ d) : ∀ j : Nat, d + j ≤ 900 → rsm (rnN n d v j) 900 = rsm n 900 + (if v = 0 then 0 - trn n d v j else trn n d v j)
  | 0, _ => by
    show rsm n 900 = rsm n 900 + (if v = 0 then 0 - 0 else 0)
    split <;> omega
  | j + 1, h => by
    show rsm (up (rnN n d v j) (1033 + (d + j)) v) 900 = _
    rw [rsm_up (by omega), rsm_rn wc hv h0 j (by omega), if_pos (show d + (j : Int) < ((900 : Nat) : Int) by omega), rnN_o j (by omega)]
    have := wc.2 (d + j) (by omega) (by omega)
    show _ = _ + (if v = 0 then 0 - (trn n d v j + (if n (1033 + (d + j)) = v then 0 else 1)) else trn n d v j + (if n (1033 + (d + j)) = v then 0 else 1))
    rcases hv with rfl | rfl
    · rw [if_pos rfl, if_pos rfl]
      split <;> omega
    · rw [if_neg (by decide), if_neg (by decide)]
      split <;> omega
theorem dcn_rn {n n' : Int → Int} {d : Int} (e1 : n' 1 = n 1) (e : ∀ i, 1033 ≤ i → i < 1033 + d → n' i = n i) : ∀ k : Nat, (k : Int) ≤ d → dcn n' k = dcn n k
  | 0, _ => rfl
  | k + 1, h => by
    unfold dcn
    rw [dcn_rn e1 e k (by omega), wkd_cg e1, e (1033 + (k : Int)) (by omega) (by omega)]
def o_rain (s : St) (d k v : Int) : St × Int := if (1 ≤ k ∧ k ≤ 60) ∧ 0 ≤ d ∧ d ≤ 900 - k then (wN s (rnN (sn s) d v k.toNat), trn (sn s) d v k.toNat) else fnd s 1
theorem w_rain {d k v : Int} (hv : v = 0 ∨ v = 1) (hw : WfS s) : WfS (o_rain s d k v).1 := by
  unfold o_rain
  split
  · rename_i c
    obtain ⟨wd, wc, ww, wl, we, wt, wx, wh⟩ := hw.1
    have o : ∀ i, (i < 1033 ∨ 1933 ≤ i) → rnN (sn s) d v k.toNat i = sn s i := fun i h => rnN_o _ (by omega)
    refine hw.to ⟨wd.cg (o 0 (by decide)), ?_, ww.cg (o 2 (by decide)) (fun i a b => o i (by omega)), wl.cg (o 2 (by decide)) (o 3 (by decide)) (fun i a b => o i (by omega)), we.cg (o 0 (by decide)) (o 2 (by decide)) (o 4 (by decide)) (fun i a b => o i (by omega)), wt.cg (o 7 (by decide)) (fun i a b => o i (by omega)), wx.cg (o 5 (by decide)) (fun i a b => o i (by omega)), wh.cg (o 2 (by decide)) (o 6 (by decide)) ww.1.2 (fun i a b => o i (by omega)) (fun i a b => o i (by omega))⟩
    unfold wCal
    rw [o 1 (by decide)]
    refine ⟨wc.1, fun q d0 d1 => ?_⟩
    by_cases c2 : d ≤ q ∧ q < d + k
    · rw [rnN_in _ (by omega) (by omega)]
      exact hv
    · rw [rnN_o _ (by omega)]
      exact wc.2 q d0 d1
  · exact hw.fnd
theorem c_rain {d k v : Int} (hv : v = 0 ∨ v = 1) (hw : WfS s) (h : CI s M) (hq : ∀ M', CI (o_rain s d k v).1 M' → FrC M M' → Q M' (some (vI (o_rain s d k v).2))) : Wq 4 0 0 mD_rain 0 [iR 0, iI d, iI k, iI v] [] M Q := by
  obtain ⟨d0, dC, dW, dL, dE, dT, dX, dH⟩ := h.2.1
  have wc := hw.1.2.1
  refine B_D_rain_0 h.1 ⟨fun c => ⟨by omega, fun c2 => ?_, fun c2 => c_fnd h (by decide) (by decide) (by decide) (if_neg (by omega)) hq⟩, fun c => c_fnd h (by decide) (by decide) (by decide) (if_neg (by omega)) hq⟩
  rw [show o_rain s d k v = _ from if_pos ⟨c, c2⟩] at hq
  refine B_Y_turnRain_0 ?_
  have key : ∀ (f : Nat) (j : Nat) (M' : Mm), (j : Int) ≤ k → k.toNat - j = f → RefOK M' → (∀ b : Nat, gI M' b = gI M b) → (∀ b : Nat, b ≠ 3 → gL M' b = gL M b) → (∀ q, 0 ≤ q → q < 900 → (wb (gL M' 3) q = true ↔ rnN (sn s) d v j (1033 + q) = 1)) → Wq 3 0 0 mY_turnRain 6 [iR 2, iI d, iI k, iI v, iI (trn (sn s) d v j), iI (d + j)] [] M' (fun M' r => Wq 4 0 0 mD_rain 43 [iR 0, iI d, iI k, iI v] (r.toList ++ []) M' Q) := by
    intro f
    induction f with
    | zero =>
      intro j M' hj hf g0 g1 g2 g3
      have ej : k.toNat = j := by omega
      rw [ej] at hq
      have tb := trn_le (n := sn s) (d := d) (v := v) j
      have rb := rsm_le wc 900 (Nat.le_refl _)
      have rr := rsm_rn wc hv c2.1 j (by omega)
      have o : ∀ i, (i < 1033 ∨ 1933 ≤ i) → rnN (sn s) d v j i = sn s i := fun i h => rnN_o _ (by omega)
      obtain ⟨dn, rfl⟩ : ∃ dn : Nat, d = dn := ⟨d.toNat, by omega⟩
      have fin : ∀ z : Int, z = rsm (rnN (sn s) dn v j) 900 → Wq 2 0 0 mY_countDry 0 [iR 2, iI dn, none] [] (sI M' 2 2 z) (fun M' r => Wq 3 0 0 mY_turnRain 79 [iR 2, iI dn, iI k, iI v, iI (trn (sn s) dn v j), iI (dn + j)] (r.toList ++ []) M' (fun M' r => Wq 4 0 0 mD_rain 43 [iR 0, iI dn, iI k, iI v] (r.toList ++ []) M' Q)) := by
        intro z hz
        refine sp_Y_countDry (n := rnN (sn s) dn v j) (x := dn) g0 (by omega) (by rw [o 1 (by decide)]; exact wc.1) ?_ g3 (fun q hq => ?_) (fun M2 k0 k1 k2 k3 => ?_)
        · rw [o 1 (by decide), gI_n (Or.inr (by decide)), g1]
          exact dC.1
        · rw [gI_ot (by decide), g1, dcn_rn (n := sn s) (d := dn) (o 1 (by decide)) (fun i a b => rnN_o _ (by omega)) q (by omega)]
          exact dC.2.2.2.1 q (by omega)
        · have k2' : gL M2 = gL M' := k2
          refine B_Y_turnRain_79 (B_D_rain_43 ?_)
          refine hq _ (h.cal hw (n' := rnN (sn s) dn v j) k0 (fun i _ hi => o i hi) (fun b b1 b2 => ?_) (fun b hb => by rw [k2', g2 b hb]) ?_) (fun a i ha => ?_)
          · rw [k1 b b2, gI_ot b1, g1]
          · unfold cCal
            rw [k1 2 (by decide), k2', o 1 (by decide), gI_s, gI_n (Or.inr (by decide)), gI_n (Or.inr (by decide)), g1]
            exact ⟨dC.1, dC.2.1, g3, k3, hz⟩
          · rw [k1 a (by omega), gI_ot (by omega), g1]
      refine B_Y_turnRain_6 ⟨by omega, fun c3 => ?_, fun c3 => by omega⟩
      rw [g1, dC.2.2.2.2]
      refine ⟨fun z => ⟨by omega, fin _ ?_⟩, fun z => ⟨by omega, fin _ ?_⟩⟩
      · rw [rr, if_pos z]
      · rw [rr, if_neg z]
    | succ f ih =>
      intro j M' hj hf g0 g1 g2 g3
      have tb := trn_le (n := sn s) (d := d) (v := v) j
      have ih := fun M'' => ih (j + 1) M'' (by omega) (by omega)
      rw [show d + (((j + 1 : Nat) : Int)) = d + (j : Int) + 1 by omega] at ih
      refine B_Y_turnRain_6 ⟨by omega, fun c3 => by omega, fun c3 => ?_⟩
      refine sp_Y_isWet g0 (by omega) (by omega) (B_Y_turnRain_20 g0 ?_)
      rw [d_row (by omega) (by omega), d_bit (by omega) (by omega)]
      have w0 := wc.2 (d + j) (by omega) (by omega)
      have g3j := g3 (d + j) (by omega) (by omega)
      rw [rnN_o _ (by omega)] at g3j
      refine ⟨fun c4 => ⟨by omega, ?_⟩, fun c4 => ⟨by omega, ?_⟩⟩
      · have hn : sn s (1033 + (d + j)) = v := by
          by_cases q : wb (gL M' 3) (d + j) = true
          · rw [if_pos q] at c4
            rw [g3j.mp q, c4]
          · rw [if_neg q] at c4
            rcases w0 with w0 | w0
            · rw [w0, c4]
            · exact absurd (g3j.mpr w0) q
        rw [show trn (sn s) d v (j + 1) = trn (sn s) d v j by show _ + (if _ then _ else _) = _; rw [if_pos hn]; omega] at ih
        refine ih M' g0 g1 g2 (fun q q0 q1 => ?_)
        rw [g3 q q0 q1]
        show _ ↔ up _ _ _ _ = 1
        by_cases cq : q = d + j
        · subst cq
          rw [up_s, rnN_o _ (by omega), hn]
        · rw [up_n (by omega)]
      · have hn : sn s (1033 + (d + j)) ≠ v := by
          intro z
          by_cases q : wb (gL M' 3) (d + j) = true
          · rw [if_pos q] at c4
            exact c4 ((g3j.mp q).symm.trans z)
          · rw [if_neg q] at c4
            rcases w0 with w0 | w0
            · exact c4 (w0.symm.trans z)
            · exact q (g3j.mpr w0)
        rw [show trn (sn s) d v (j + 1) = trn (sn s) d v j + 1 by show _ + (if _ then _ else _) = _; rw [if_neg hn]] at ih
        refine ih _ g0 g1 (fun b hb => by rw [gL_ot hb]; exact g2 b hb) (fun q q0 q1 => ?_)
        rw [gL_up, wb_up (by omega) q0]
        show _ ↔ up _ _ _ _ = 1
        by_cases cq : q = d + j
        · subst cq
          rw [up_s, decide_eq_true rfl, Bool.xor_true]
          by_cases q : wb (gL M' 3) (d + j) = true
          · rw [if_pos q] at c4
            rw [q]
            exact ⟨fun z => absurd z (by decide), fun z => absurd z.symm c4⟩
          · rw [if_neg q] at c4
            rw [Bool.eq_false_iff.mpr q]
            exact ⟨fun _ => by omega, fun _ => rfl⟩
        · rw [up_n (by omega), decide_eq_false cq, Bool.xor_false]
          exact g3 q q0 q1
  have k0 := key _ 0 M (by omega) rfl h.1 (fun _ => rfl) (fun _ _ => rfl) dC.2.2.1
  rw [show d + ((0 : Nat) : Int) = d by omega] at k0
  exact k0
theorem r_rain {d k v : Int} (hv : v = 0 ∨ v = 1) (hw : WfS s) (h : RI s M) (hq : ∀ M', RI (o_rain s d k v).1 M' → FrR M M' → Q M' (some (vI (o_rain s d k v).2))) : Wq 2 0 0 mM_rain 0 [iR 80, iI d, iI k, iI v, none, none] [] M Q := by
  have e' := h.2.1
  have wc := hw.1.2.1
  refine B_M_rain_0 h.1 ⟨fun c => ?_, fun c => r_fnd h (by decide) (if_neg (by omega)) hq⟩
  rw [wl_eq (by omega) (by omega)]
  refine ⟨fun c2 => ?_, fun c2 => r_fnd h (by decide) (if_neg (by omega)) hq⟩
  rw [show o_rain s d k v = _ from if_pos ⟨c, c2⟩] at hq
  have key : ∀ (f : Nat) (j : Nat) (M' : Mm), (j : Int) ≤ k → k.toNat - j = f → RefOK M' → (∀ b : Nat, b ≠ 81 → gI M' b = gI M b) → gL M' = gL M → gI M' 81 = rnN (sn s) d v j → Wq 2 0 0 mM_rain 40 [iR 80, iI d, iI k, iI v, iI (trn (sn s) d v j), iI (d + j)] [] M' Q := by
    intro f
    induction f with
    | zero =>
      intro j M' hj hf g0 g1 g2 g3
      have ej : k.toNat = j := by omega
      rw [ej] at hq
      refine B_M_rain_40 g0 ⟨by omega, fun c3 => ?_, fun c3 => by omega⟩
      refine sp_M_changed g0 (fun M2 k1 k2 k3 k4 k5 => B_M_rain_111 ?_)
      refine hq _ (h.chg (n' := rnN (sn s) d v j) (M1 := M') ?_ g3 g1 k1 k3 k4 k5) (FrR.chg (M1 := M') (fun a i ha => ⟨by rw [g1 a (by omega)], by rw [g2]⟩) k1 k2)
      rw [rnN_o _ (by omega)]
      exact hw.1.2.2.1.1.2
    | succ f ih =>
      intro j M' hj hf g0 g1 g2 g3
      have tb := trn_le (n := sn s) (d := d) (v := v) j
      have w0 := wc.2 (d + j) (by omega) (by omega)
      have ih := ih (j + 1) (sI M' 81 (1033 + (d + j)) v) (by omega) (by omega) g0 (fun b hb => by rw [gI_ot hb]; exact g1 b hb) g2 (by rw [gI_up, g3]; rfl)
      rw [show d + (((j + 1 : Nat) : Int)) = d + (j : Int) + 1 by omega] at ih
      refine B_M_rain_40 g0 ⟨by omega, fun c3 => by omega, fun c3 => ?_⟩
      rw [g3, rnN_o _ (by omega)]
      rcases hv with rfl | rfl
      · refine ⟨by omega, fun _ => ⟨fun c5 => ⟨by omega, fun _ => ⟨by omega, ?_⟩, fun z => absurd rfl z⟩, fun c5 => ⟨by omega, fun _ => ⟨by omega, ?_⟩, fun z => absurd rfl z⟩⟩, fun z => absurd rfl z⟩
        · rw [show trn (sn s) d 0 (j + 1) = trn (sn s) d 0 j by show _ + (if _ then _ else _) = _; rw [if_pos (by omega)]; omega] at ih
          exact ih
        · rw [show trn (sn s) d 0 (j + 1) = trn (sn s) d 0 j + 1 by show _ + (if _ then _ else _) = _; rw [if_neg (by omega)]] at ih
          exact ih
      · refine ⟨by omega, fun z => absurd z (by decide), fun _ => ⟨fun c5 => ⟨by omega, fun z => absurd z (by decide), fun _ => ⟨by omega, ?_⟩⟩, fun c5 => ⟨by omega, fun z => absurd z (by decide), fun _ => ⟨by omega, ?_⟩⟩⟩⟩
        · rw [show trn (sn s) d 1 (j + 1) = trn (sn s) d 1 j by show _ + (if _ then _ else _) = _; rw [if_pos (by omega)]; omega] at ih
          exact ih
        · rw [show trn (sn s) d 1 (j + 1) = trn (sn s) d 1 j + 1 by show _ + (if _ then _ else _) = _; rw [if_neg (by omega)]] at ih
          exact ih
  have k0 := key _ 0 M (by omega) rfl h.1 (fun _ _ => rfl) rfl e'
  rw [show d + ((0 : Nat) : Int) = d by omega] at k0
  exact k0
end OPG
