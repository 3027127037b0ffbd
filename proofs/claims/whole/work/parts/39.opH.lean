/-! ===== image, restore ===== -/
section OPH
variable {s : St} {M : Mm} {Q : Mm → Option Mv → Prop}
theorem gI_cI {M : Mm} {a b : Nat} {sp dp n j : Int} (h1 : dp ≤ j) (h2 : j < dp + n) : gI (cI M a sp b dp n) b j = gI M a (sp + (j - dp)) := if_pos ⟨rfl, h1, h2⟩
theorem gI_cO {M : Mm} {a b c : Nat} {sp dp n : Int} (h : c ≠ b) : gI (cI M a sp b dp n) c = gI M c := by
  funext j
  exact if_neg (fun z => h z.1)
theorem gL_cI {M : Mm} {a b : Nat} {sp dp n j : Int} (h1 : dp ≤ j) (h2 : j < dp + n) : gL (cL M a sp b dp n) b j = gL M a (sp + (j - dp)) := if_pos ⟨rfl, h1, h2⟩
theorem gL_cO {M : Mm} {a b c : Nat} {sp dp n : Int} (h : c ≠ b) : gL (cL M a sp b dp n) c = gL M c := by
  funext j
  exact if_neg (fun z => h z.1)
/-! what is said of cells, when the cells' numbers are the same as far as they are asked for -/
section CC
variable {n : Int → Int}
theorem cCal.cc {wet dry wet' dry' : Int → Int} {r w p : Int} (h : cCal n wet dry r w p) (hw : ∀ i, 0 ≤ i → i < 15 → wet' i = wet i) (hd : ∀ i, 0 ≤ i → i < 901 → dry' i = dry i) : cCal n wet' dry' r w p := by
  obtain ⟨a, b, c, d9, e⟩ := h
  refine ⟨a, b, fun d d0 d1 => ?_, fun d d1 => ?_, e⟩
  · rw [← c d d0 d1]
    unfold wb
    rw [hw _ (by omega) (by omega)]
  · rw [hd _ (by omega) (by omega)]
    exact d9 d d1
theorem cWrk.cc {kd ln fi kd' ln' fi' : Int → Int} {wc : Int} (ww : wWrk n) (h : cWrk n kd ln fi wc) (h1 : ∀ i, 0 ≤ i → i < 16 → kd' i = kd i) (h2 : ∀ i, 0 ≤ i → i < 16 → ln' i = ln i) (h3 : ∀ i, 0 ≤ i → i < 16 → fi' i = fi i) : cWrk n kd' ln' fi' wc := by
  have := ww.1
  refine ⟨h.1, fun w w0 w1 => ?_⟩
  rw [h1 w w0 (by omega), h2 w w0 (by omega), h3 w w0 (by omega)]
  exact h.2 w w0 w1
theorem cLnk.cc {bf lg od bf' lg' od' : Int → Int} {lc : Int} (ww : wWrk n) (wl : wLnk n) (h : cLnk n bf lg od lc) (h1 : ∀ i, 0 ≤ i → i < 16 → bf' i = bf i) (h2 : ∀ i, 0 ≤ i → i < 256 → lg' i = lg i) (h3 : ∀ i, 0 ≤ i → i < 16 → od' i = od i) : cLnk n bf' lg' od' lc := by
  have hw := ww.1
  obtain ⟨a, b, c, d, e, f⟩ := h
  refine ⟨a, fun w w0 w1 => ?_, fun k k0 k1 => ?_, fun p p0 p1 => ?_, fun p q p0 p1 q0 q1 => ?_, fun p q p0 p1 q0 q1 => ?_⟩
  · rw [h1 w w0 (by omega)]
    exact b w w0 w1
  · obtain ⟨l1, l2, l3⟩ := wl.2.1 k k0 k1
    rw [h2 _ (by omega) (by omega)]
    exact c k k0 k1
  · rw [h3 p p0 (by omega)]
    exact d p p0 p1
  · rw [h3 p p0 (by omega), h3 q q0 (by omega)]
    exact e p q p0 p1 q0 q1
  · rw [h3 p p0 (by omega), h3 q q0 (by omega)]
    exact f p q p0 p1 q0 q1
theorem cEvt.cc {a b c d e f g a' b' c' d' e' f' g' : Int → Int} {ec : Int} (we : 0 ≤ n 4 ∧ n 4 ≤ 20) (h : cEvt n a b c d e f g ec) (h1 : ∀ i, 0 ≤ i → i < 20 → a' i = a i) (h2 : ∀ i, 0 ≤ i → i < 20 → b' i = b i) (h3 : ∀ i, 0 ≤ i → i < 20 → c' i = c i) (h4 : ∀ i, 0 ≤ i → i < 20 → d' i = d i) (h5 : ∀ i, 0 ≤ i → i < 20 → e' i = e i) (h6 : ∀ i, 0 ≤ i → i < 20 → f' i = f i) (h7 : ∀ i, 0 ≤ i → i < 20 → g' i = g i) : cEvt n a' b' c' d' e' f' g' ec := by
  refine ⟨h.1, fun w w0 w1 => ?_⟩
  rw [h1 w w0 (by omega), h2 w w0 (by omega), h3 w w0 (by omega), h4 w w0 (by omega), h5 w w0 (by omega), h6 w w0 (by omega), h7 w w0 (by omega)]
  exact h.2 w w0 w1
theorem cTap.cc {tp tp' : Int → Int} {f : Int} (wt : 0 ≤ n 7 ∧ n 7 ≤ 60) (h : cTap n tp f) (h1 : ∀ i, 0 ≤ i → i < 60 → tp' i = tp i) : cTap n tp' f := by
  refine ⟨h.1, fun w w0 w1 => ?_⟩
  rw [h1 w w0 (by omega)]
  exact h.2 w w0 w1
theorem cCls.cc {a b c d a' b' c' d' : Int → Int} {cc : Int} (wx : 0 ≤ n 5 ∧ n 5 ≤ 10) (h : cCls n a b c d cc) (h1 : ∀ i, 0 ≤ i → i < 600 → a' i = a i) (h2 : ∀ i, 0 ≤ i → i < 10 → b' i = b i) (h3 : ∀ i, 0 ≤ i → i < 10 → c' i = c i) (h4 : ∀ i, 0 ≤ i → i < 10 → d' i = d i) : cCls n a' b' c' d' cc := by
  refine ⟨h.1, fun w w0 w1 => ?_⟩
  rw [h2 w w0 (by omega), h3 w w0 (by omega), h4 w w0 (by omega)]
  have e : (fun i => if 0 ≤ i ∧ i < 60 then bAnd (a' (w * 60 + i)) 255 else 0) = fun i => if 0 ≤ i ∧ i < 60 then bAnd (a (w * 60 + i)) 255 else 0 := by
    funext i
    by_cases q : 0 ≤ i ∧ i < 60
    · rw [if_pos q, if_pos q, h1 _ (by omega) (by omega)]
    · rw [if_neg q, if_neg q]
  rw [e]
  exact h.2 w w0 w1
theorem cHst.cc {a b c a' b' c' : Int → Int} {hc : Int} (wh : 0 ≤ n 6 ∧ n 6 ≤ 5) (h : cHst n a b c hc) (h1 : ∀ i, 0 ≤ i → i < 5 → a' i = a i) (h2 : ∀ i, 0 ≤ i → i < 5 → b' i = b i) (h3 : ∀ i, 0 ≤ i → i < 5 → c' i = c i) : cHst n a' b' c' hc := by
  refine ⟨h.1, fun w w0 w1 => ?_⟩
  rw [h1 w w0 (by omega), h2 w w0 (by omega), h3 w w0 (by omega)]
  exact h.2 w w0 w1
end CC
/-- the first 1993 numbers of n, the others of k -/
def clp (n k : Int → Int) : Int → Int := fun i => if 0 ≤ i ∧ i < 1993 then n i else k i
theorem clp_i {n k : Int → Int} {i : Int} (h0 : 0 ≤ i) (h1 : i < 1993) : clp n k i = n i := if_pos ⟨h0, h1⟩
theorem clp_wf {n k : Int → Int} (h : WfN n) : WfN (clp n k) := by
  obtain ⟨wd, wc, ww, wl, we, wt, wx, wh⟩ := h
  have o : ∀ i, 0 ≤ i → i < 1993 → clp n k i = n i := fun i h1 h2 => clp_i h1 h2
  exact ⟨wd.cg (o 0 (by decide) (by decide)), wc.cg (o 1 (by decide) (by decide)) (fun i a b => o i (by omega) (by omega)), ww.cg (o 2 (by decide) (by decide)) (fun i a b => o i (by omega) (by omega)), wl.cg (o 2 (by decide) (by decide)) (o 3 (by decide) (by decide)) (fun i a b => o i (by omega) (by omega)), we.cg (o 0 (by decide) (by decide)) (o 2 (by decide) (by decide)) (o 4 (by decide) (by decide)) (fun i a b => o i (by omega) (by omega)), wt.cg (o 7 (by decide) (by decide)) (fun i a b => o i (by omega) (by omega)), wx.cg (o 5 (by decide) (by decide)) (fun i a b => o i (by omega) (by omega)), wh.cg (o 2 (by decide) (by decide)) (o 6 (by decide) (by decide)) ww.1.2 (fun i a b => o i (by omega) (by omega)) (fun i a b => o i (by omega) (by omega))⟩
def wK (s : St) (k : Int → Int) (im : Int) : St := (s.1, k, im, s.2.2.2)
def o_image (s : St) : St × Int := (wK s (clp (sn s) (sk s)) (wr (sim s + 1)), wr (sim s + 1))
theorem w_image (hw : WfS s) : WfS (o_image s).1 := ⟨hw.1, fun _ => clp_wf hw.1, hw.2.2⟩
def o_restore (s : St) : St × Int := if ¬ sim s = 0 then (wN s (clp (sk s) (sn s)), sk s 0) else fnd s 2
theorem w_restore (hw : WfS s) : WfS (o_restore s).1 := by
  unfold o_restore
  split
  · rename_i c
    exact hw.to (clp_wf (hw.2.1 c))
  · exact hw.fnd
theorem sp_Y_copy_k (hS : RefOK M) (hq : ∀ M', RefOK M' → (∀ b : Nat, (b < 31 ∨ 33 < b) → gI M' b = gI M b) → (∀ b : Nat, b ≠ 32 → gL M' b = gL M b) → (∀ i, 0 ≤ i → i < 15 → gL M' 32 i = gL M 3 i) → (∀ i, 0 ≤ i → i < 901 → gI M' 33 i = gI M 4 i) → gI M' 31 2 = gI M 2 2 → gI M' 31 3 = gI M 2 3 → gI M' 31 4 = gI M 2 4 → Q M' none) : Wq 1 0 0 mY_copy 0 [iR 31, iR 2] [] M Q := by
  refine B_Y_copy_k_0 hS ?_
  refine hq _ hS (fun b hb => ?_) (fun b hb => ?_) (fun i i0 i1 => ?_) (fun i i0 i1 => ?_) rfl rfl rfl
  · rw [gI_ot (by omega), gI_ot (by omega), gI_ot (by omega), gI_cO (by omega)]
    rfl
  · exact gL_cO hb
  · exact (gL_cI i0 (by omega)).trans (by rw [show (0 : Int) + (i - 0) = i by omega])
  · rw [gI_ot (by decide), gI_ot (by decide), gI_ot (by decide), gI_cI (by omega) (by omega), show (0 : Int) + (i - 0) = i by omega]
    rfl
theorem sp_W_copy_k (hS : RefOK M) (hq : ∀ M', RefOK M' → (∀ b : Nat, (b < 34 ∨ 40 < b) → gI M' b = gI M b) → (∀ b : Nat, gL M' b = gL M b) → (∀ i, 0 ≤ i → i < 16 → gI M' 35 i = gI M 6 i) → (∀ i, 0 ≤ i → i < 16 → gI M' 36 i = gI M 7 i) → (∀ i, 0 ≤ i → i < 16 → gI M' 37 i = gI M 8 i) → (∀ i, 0 ≤ i → i < 16 → gI M' 38 i = gI M 9 i) → (∀ i, 0 ≤ i → i < 256 → gI M' 39 i = gI M 10 i) → (∀ i, 0 ≤ i → i < 16 → gI M' 40 i = gI M 11 i) → gI M' 34 6 = gI M 5 6 → gI M' 34 7 = gI M 5 7 → Q M' none) : Wq 1 0 0 mW_copy 0 [iR 34, iR 5] [] M Q := by
  refine B_W_copy_k_0 hS ?_
  refine hq _ hS (fun b hb => ?_) (fun b => ?_) (fun i i0 i1 => ?_) (fun i i0 i1 => ?_) (fun i i0 i1 => ?_) (fun i i0 i1 => ?_) (fun i i0 i1 => ?_) (fun i i0 i1 => ?_) rfl rfl
  · rw [gI_ot (by omega), gI_ot (by omega), gI_cO (by omega), gI_cO (by omega), gI_cO (by omega), gI_cO (by omega), gI_cO (by omega), gI_cO (by omega)]
  · rfl
  · rw [gI_ot (by decide), gI_ot (by decide), gI_cO (by decide), gI_cO (by decide), gI_cO (by decide), gI_cO (by decide), gI_cO (by decide), gI_cI (by omega) (by omega), show (0 : Int) + (i - 0) = i by omega]
  · rw [gI_ot (by decide), gI_ot (by decide), gI_cO (by decide), gI_cO (by decide), gI_cO (by decide), gI_cO (by decide), gI_cI (by omega) (by omega), show (0 : Int) + (i - 0) = i by omega, gI_cO (by decide)]
  · rw [gI_ot (by decide), gI_ot (by decide), gI_cO (by decide), gI_cO (by decide), gI_cO (by decide), gI_cI (by omega) (by omega), show (0 : Int) + (i - 0) = i by omega, gI_cO (by decide), gI_cO (by decide)]
  · rw [gI_ot (by decide), gI_ot (by decide), gI_cO (by decide), gI_cO (by decide), gI_cI (by omega) (by omega), show (0 : Int) + (i - 0) = i by omega, gI_cO (by decide), gI_cO (by decide), gI_cO (by decide)]
  · rw [gI_ot (by decide), gI_ot (by decide), gI_cO (by decide), gI_cI (by omega) (by omega), show (0 : Int) + (i - 0) = i by omega, gI_cO (by decide), gI_cO (by decide), gI_cO (by decide), gI_cO (by decide)]
  · rw [gI_ot (by decide), gI_ot (by decide), gI_cI (by omega) (by omega), show (0 : Int) + (i - 0) = i by omega, gI_cO (by decide), gI_cO (by decide), gI_cO (by decide), gI_cO (by decide), gI_cO (by decide)]
theorem sp_E_copy_k (hS : RefOK M) (hq : ∀ M', RefOK M' → (∀ b : Nat, (b < 41 ∨ 48 < b) → gI M' b = gI M b) → (∀ b : Nat, gL M' b = gL M b) → (∀ i, 0 ≤ i → i < 20 → gI M' 42 i = gI M 13 i) → (∀ i, 0 ≤ i → i < 20 → gI M' 43 i = gI M 14 i) → (∀ i, 0 ≤ i → i < 20 → gI M' 44 i = gI M 15 i) → (∀ i, 0 ≤ i → i < 20 → gI M' 45 i = gI M 16 i) → (∀ i, 0 ≤ i → i < 20 → gI M' 46 i = gI M 17 i) → (∀ i, 0 ≤ i → i < 20 → gI M' 47 i = gI M 18 i) → (∀ i, 0 ≤ i → i < 20 → gI M' 48 i = gI M 19 i) → gI M' 41 7 = gI M 12 7 → Q M' none) : Wq 1 0 0 mE_copy 0 [iR 41, iR 12] [] M Q := by
  refine B_E_copy_k_0 hS ?_
  refine hq _ hS (fun b hb => ?_) (fun b => ?_) (fun i i0 i1 => ?_) (fun i i0 i1 => ?_) (fun i i0 i1 => ?_) (fun i i0 i1 => ?_) (fun i i0 i1 => ?_) (fun i i0 i1 => ?_) (fun i i0 i1 => ?_) rfl
  · rw [gI_ot (by omega), gI_cO (by omega), gI_cO (by omega), gI_cO (by omega), gI_cO (by omega), gI_cO (by omega), gI_cO (by omega), gI_cO (by omega)]
  · rfl
  · rw [gI_ot (by decide), gI_cO (by decide), gI_cO (by decide), gI_cO (by decide), gI_cO (by decide), gI_cO (by decide), gI_cO (by decide), gI_cI (by omega) (by omega), show (0 : Int) + (i - 0) = i by omega]
  · rw [gI_ot (by decide), gI_cO (by decide), gI_cO (by decide), gI_cO (by decide), gI_cO (by decide), gI_cO (by decide), gI_cI (by omega) (by omega), show (0 : Int) + (i - 0) = i by omega, gI_cO (by decide)]
  · rw [gI_ot (by decide), gI_cO (by decide), gI_cO (by decide), gI_cO (by decide), gI_cO (by decide), gI_cI (by omega) (by omega), show (0 : Int) + (i - 0) = i by omega, gI_cO (by decide), gI_cO (by decide)]
  · rw [gI_ot (by decide), gI_cO (by decide), gI_cO (by decide), gI_cO (by decide), gI_cI (by omega) (by omega), show (0 : Int) + (i - 0) = i by omega, gI_cO (by decide), gI_cO (by decide), gI_cO (by decide)]
  · rw [gI_ot (by decide), gI_cO (by decide), gI_cO (by decide), gI_cI (by omega) (by omega), show (0 : Int) + (i - 0) = i by omega, gI_cO (by decide), gI_cO (by decide), gI_cO (by decide), gI_cO (by decide)]
  · rw [gI_ot (by decide), gI_cO (by decide), gI_cI (by omega) (by omega), show (0 : Int) + (i - 0) = i by omega, gI_cO (by decide), gI_cO (by decide), gI_cO (by decide), gI_cO (by decide), gI_cO (by decide)]
  · rw [gI_ot (by decide), gI_cI (by omega) (by omega), show (0 : Int) + (i - 0) = i by omega, gI_cO (by decide), gI_cO (by decide), gI_cO (by decide), gI_cO (by decide), gI_cO (by decide), gI_cO (by decide)]
theorem sp_C_copy_k (hS : RefOK M) (hq : ∀ M', RefOK M' → (∀ b : Nat, (b < 49 ∨ 54 < b) → gI M' b = gI M b) → (∀ b : Nat, gL M' b = gL M b) → (∀ i, 0 ≤ i → i < 60 → gI M' 50 i = gI M 21 i) → (∀ i, 0 ≤ i → i < 600 → gI M' 51 i = gI M 22 i) → (∀ i, 0 ≤ i → i < 10 → gI M' 52 i = gI M 23 i) → (∀ i, 0 ≤ i → i < 10 → gI M' 53 i = gI M 24 i) → (∀ i, 0 ≤ i → i < 10 → gI M' 54 i = gI M 25 i) → gI M' 49 5 = gI M 20 5 → gI M' 49 6 = gI M 20 6 → Q M' none) : Wq 1 0 0 mC_copy 0 [iR 49, iR 20] [] M Q := by
  refine B_C_copy_k_0 hS ?_
  refine hq _ hS (fun b hb => ?_) (fun b => ?_) (fun i i0 i1 => ?_) (fun i i0 i1 => ?_) (fun i i0 i1 => ?_) (fun i i0 i1 => ?_) (fun i i0 i1 => ?_) rfl rfl
  · rw [gI_ot (by omega), gI_ot (by omega), gI_cO (by omega), gI_cO (by omega), gI_cO (by omega), gI_cO (by omega), gI_cO (by omega)]
  · rfl
  · rw [gI_ot (by decide), gI_ot (by decide), gI_cO (by decide), gI_cO (by decide), gI_cO (by decide), gI_cO (by decide), gI_cI (by omega) (by omega), show (0 : Int) + (i - 0) = i by omega]
  · rw [gI_ot (by decide), gI_ot (by decide), gI_cO (by decide), gI_cO (by decide), gI_cO (by decide), gI_cI (by omega) (by omega), show (0 : Int) + (i - 0) = i by omega, gI_cO (by decide)]
  · rw [gI_ot (by decide), gI_ot (by decide), gI_cO (by decide), gI_cO (by decide), gI_cI (by omega) (by omega), show (0 : Int) + (i - 0) = i by omega, gI_cO (by decide), gI_cO (by decide)]
  · rw [gI_ot (by decide), gI_ot (by decide), gI_cO (by decide), gI_cI (by omega) (by omega), show (0 : Int) + (i - 0) = i by omega, gI_cO (by decide), gI_cO (by decide), gI_cO (by decide)]
  · rw [gI_ot (by decide), gI_ot (by decide), gI_cI (by omega) (by omega), show (0 : Int) + (i - 0) = i by omega, gI_cO (by decide), gI_cO (by decide), gI_cO (by decide), gI_cO (by decide)]
theorem sp_H_copy_k (hS : RefOK M) (hq : ∀ M', RefOK M' → (∀ b : Nat, (b < 55 ∨ 58 < b) → gI M' b = gI M b) → (∀ b : Nat, gL M' b = gL M b) → (∀ i, 0 ≤ i → i < 5 → gI M' 56 i = gI M 27 i) → (∀ i, 0 ≤ i → i < 5 → gI M' 57 i = gI M 28 i) → (∀ i, 0 ≤ i → i < 5 → gI M' 58 i = gI M 29 i) → gI M' 55 3 = gI M 26 3 → Q M' none) : Wq 1 0 0 mH_copy 0 [iR 55, iR 26] [] M Q := by
  refine B_H_copy_k_0 hS ?_
  refine hq _ hS (fun b hb => ?_) (fun b => ?_) (fun i i0 i1 => ?_) (fun i i0 i1 => ?_) (fun i i0 i1 => ?_) rfl
  · rw [gI_ot (by omega), gI_cO (by omega), gI_cO (by omega), gI_cO (by omega)]
  · rfl
  · rw [gI_ot (by decide), gI_cO (by decide), gI_cO (by decide), gI_cI (by omega) (by omega), show (0 : Int) + (i - 0) = i by omega]
  · rw [gI_ot (by decide), gI_cO (by decide), gI_cI (by omega) (by omega), show (0 : Int) + (i - 0) = i by omega, gI_cO (by decide)]
  · rw [gI_ot (by decide), gI_cI (by omega) (by omega), show (0 : Int) + (i - 0) = i by omega, gI_cO (by decide), gI_cO (by decide)]
theorem sp_T_copy_k (hS : RefOK M) (hq : ∀ M', RefOK M' → (∀ b : Nat, (b < 30 ∨ 58 < b) → gI M' b = gI M b) → (∀ b : Nat, b ≠ 32 → gL M' b = gL M b) → (∀ i, 0 ≤ i → i < 15 → gL M' 32 i = gL M 3 i) → (∀ i, 0 ≤ i → i < 901 → gI M' 33 i = gI M 4 i) → gI M' 31 2 = gI M 2 2 → gI M' 31 3 = gI M 2 3 → gI M' 31 4 = gI M 2 4 → (∀ i, 0 ≤ i → i < 16 → gI M' 35 i = gI M 6 i) → (∀ i, 0 ≤ i → i < 16 → gI M' 36 i = gI M 7 i) → (∀ i, 0 ≤ i → i < 16 → gI M' 37 i = gI M 8 i) → (∀ i, 0 ≤ i → i < 16 → gI M' 38 i = gI M 9 i) → (∀ i, 0 ≤ i → i < 256 → gI M' 39 i = gI M 10 i) → (∀ i, 0 ≤ i → i < 16 → gI M' 40 i = gI M 11 i) → gI M' 34 6 = gI M 5 6 → gI M' 34 7 = gI M 5 7 → (∀ i, 0 ≤ i → i < 20 → gI M' 42 i = gI M 13 i) → (∀ i, 0 ≤ i → i < 20 → gI M' 43 i = gI M 14 i) → (∀ i, 0 ≤ i → i < 20 → gI M' 44 i = gI M 15 i) → (∀ i, 0 ≤ i → i < 20 → gI M' 45 i = gI M 16 i) → (∀ i, 0 ≤ i → i < 20 → gI M' 46 i = gI M 17 i) → (∀ i, 0 ≤ i → i < 20 → gI M' 47 i = gI M 18 i) → (∀ i, 0 ≤ i → i < 20 → gI M' 48 i = gI M 19 i) → gI M' 41 7 = gI M 12 7 → (∀ i, 0 ≤ i → i < 60 → gI M' 50 i = gI M 21 i) → (∀ i, 0 ≤ i → i < 600 → gI M' 51 i = gI M 22 i) → (∀ i, 0 ≤ i → i < 10 → gI M' 52 i = gI M 23 i) → (∀ i, 0 ≤ i → i < 10 → gI M' 53 i = gI M 24 i) → (∀ i, 0 ≤ i → i < 10 → gI M' 54 i = gI M 25 i) → gI M' 49 5 = gI M 20 5 → gI M' 49 6 = gI M 20 6 → (∀ i, 0 ≤ i → i < 5 → gI M' 56 i = gI M 27 i) → (∀ i, 0 ≤ i → i < 5 → gI M' 57 i = gI M 28 i) → (∀ i, 0 ≤ i → i < 5 → gI M' 58 i = gI M 29 i) → gI M' 55 3 = gI M 26 3 → gI M' 30 5 = gI M 1 5 → Q M' none) : Wq 2 0 0 mT_copy 0 [iR 30, iR 1] [] M Q := by
  refine B_T_copy_k_0 hS (sp_Y_copy_k hS (fun M1 S1 k1 l1 w1 y4 yf2_2 yf2_3 yf2_4 => ?_))
  refine B_T_copy_k_11 S1 (sp_W_copy_k S1 (fun M2 S2 k2 l2 w6 w7 w8 w9 w10 w11 wf5_6 wf5_7 => ?_))
  refine B_T_copy_k_22 S2 (sp_E_copy_k S2 (fun M3 S3 k3 l3 e13 e14 e15 e16 e17 e18 e19 ef12_7 => ?_))
  refine B_T_copy_k_33 S3 (sp_C_copy_k S3 (fun M4 S4 k4 l4 c21 c22 c23 c24 c25 cf20_5 cf20_6 => ?_))
  refine B_T_copy_k_44 S4 (sp_H_copy_k S4 (fun M5 S5 k5 l5 h27 h28 h29 hf26_3 => ?_))
  refine B_T_copy_k_55 ?_
  exact hq _ S5 (fun b hb => by rw [gI_ot (by omega), k5 b (by omega), k4 b (by omega), k3 b (by omega), k2 b (by omega), k1 b (by omega)]) (fun b hb => by show gL M5 b = _; rw [l5, l4, l3, l2, l1 b hb]) (fun i i0 i1 => by show gL M5 32 i = _; rw [l5, l4, l3, l2, w1 i i0 i1]) (fun i i0 i1 => by rw [gI_ot (by decide), k5 33 (by decide), k4 33 (by decide), k3 33 (by decide), k2 33 (by decide), y4 i i0 i1]) (by rw [gI_ot (by decide), k5 31 (by decide), k4 31 (by decide), k3 31 (by decide), k2 31 (by decide), yf2_2]) (by rw [gI_ot (by decide), k5 31 (by decide), k4 31 (by decide), k3 31 (by decide), k2 31 (by decide), yf2_3]) (by rw [gI_ot (by decide), k5 31 (by decide), k4 31 (by decide), k3 31 (by decide), k2 31 (by decide), yf2_4]) (fun i i0 i1 => by rw [gI_ot (by decide), k5 35 (by decide), k4 35 (by decide), k3 35 (by decide), w6 i i0 i1, k1 6 (by decide)]) (fun i i0 i1 => by rw [gI_ot (by decide), k5 36 (by decide), k4 36 (by decide), k3 36 (by decide), w7 i i0 i1, k1 7 (by decide)]) (fun i i0 i1 => by rw [gI_ot (by decide), k5 37 (by decide), k4 37 (by decide), k3 37 (by decide), w8 i i0 i1, k1 8 (by decide)]) (fun i i0 i1 => by rw [gI_ot (by decide), k5 38 (by decide), k4 38 (by decide), k3 38 (by decide), w9 i i0 i1, k1 9 (by decide)]) (fun i i0 i1 => by rw [gI_ot (by decide), k5 39 (by decide), k4 39 (by decide), k3 39 (by decide), w10 i i0 i1, k1 10 (by decide)]) (fun i i0 i1 => by rw [gI_ot (by decide), k5 40 (by decide), k4 40 (by decide), k3 40 (by decide), w11 i i0 i1, k1 11 (by decide)]) (by rw [gI_ot (by decide), k5 34 (by decide), k4 34 (by decide), k3 34 (by decide), wf5_6, k1 5 (by decide)]) (by rw [gI_ot (by decide), k5 34 (by decide), k4 34 (by decide), k3 34 (by decide), wf5_7, k1 5 (by decide)]) (fun i i0 i1 => by rw [gI_ot (by decide), k5 42 (by decide), k4 42 (by decide), e13 i i0 i1, k2 13 (by decide), k1 13 (by decide)]) (fun i i0 i1 => by rw [gI_ot (by decide), k5 43 (by decide), k4 43 (by decide), e14 i i0 i1, k2 14 (by decide), k1 14 (by decide)]) (fun i i0 i1 => by rw [gI_ot (by decide), k5 44 (by decide), k4 44 (by decide), e15 i i0 i1, k2 15 (by decide), k1 15 (by decide)]) (fun i i0 i1 => by rw [gI_ot (by decide), k5 45 (by decide), k4 45 (by decide), e16 i i0 i1, k2 16 (by decide), k1 16 (by decide)]) (fun i i0 i1 => by rw [gI_ot (by decide), k5 46 (by decide), k4 46 (by decide), e17 i i0 i1, k2 17 (by decide), k1 17 (by decide)]) (fun i i0 i1 => by rw [gI_ot (by decide), k5 47 (by decide), k4 47 (by decide), e18 i i0 i1, k2 18 (by decide), k1 18 (by decide)]) (fun i i0 i1 => by rw [gI_ot (by decide), k5 48 (by decide), k4 48 (by decide), e19 i i0 i1, k2 19 (by decide), k1 19 (by decide)]) (by rw [gI_ot (by decide), k5 41 (by decide), k4 41 (by decide), ef12_7, k2 12 (by decide), k1 12 (by decide)]) (fun i i0 i1 => by rw [gI_ot (by decide), k5 50 (by decide), c21 i i0 i1, k3 21 (by decide), k2 21 (by decide), k1 21 (by decide)]) (fun i i0 i1 => by rw [gI_ot (by decide), k5 51 (by decide), c22 i i0 i1, k3 22 (by decide), k2 22 (by decide), k1 22 (by decide)]) (fun i i0 i1 => by rw [gI_ot (by decide), k5 52 (by decide), c23 i i0 i1, k3 23 (by decide), k2 23 (by decide), k1 23 (by decide)]) (fun i i0 i1 => by rw [gI_ot (by decide), k5 53 (by decide), c24 i i0 i1, k3 24 (by decide), k2 24 (by decide), k1 24 (by decide)]) (fun i i0 i1 => by rw [gI_ot (by decide), k5 54 (by decide), c25 i i0 i1, k3 25 (by decide), k2 25 (by decide), k1 25 (by decide)]) (by rw [gI_ot (by decide), k5 49 (by decide), cf20_5, k3 20 (by decide), k2 20 (by decide), k1 20 (by decide)]) (by rw [gI_ot (by decide), k5 49 (by decide), cf20_6, k3 20 (by decide), k2 20 (by decide), k1 20 (by decide)]) (fun i i0 i1 => by rw [gI_ot (by decide), h27 i i0 i1, k4 27 (by decide), k3 27 (by decide), k2 27 (by decide), k1 27 (by decide)]) (fun i i0 i1 => by rw [gI_ot (by decide), h28 i i0 i1, k4 28 (by decide), k3 28 (by decide), k2 28 (by decide), k1 28 (by decide)]) (fun i i0 i1 => by rw [gI_ot (by decide), h29 i i0 i1, k4 29 (by decide), k3 29 (by decide), k2 29 (by decide), k1 29 (by decide)]) (by rw [gI_ot (by decide), hf26_3, k4 26 (by decide), k3 26 (by decide), k2 26 (by decide), k1 26 (by decide)]) (gI_s.trans (by rw [k5 1 (by decide), k4 1 (by decide), k3 1 (by decide), k2 1 (by decide), k1 1 (by decide)]))
theorem sp_Y_copy_r (hS : RefOK M) (hq : ∀ M', RefOK M' → (∀ b : Nat, (b < 2 ∨ 4 < b) → gI M' b = gI M b) → (∀ b : Nat, b ≠ 3 → gL M' b = gL M b) → (∀ i, 0 ≤ i → i < 15 → gL M' 3 i = gL M 32 i) → (∀ i, 0 ≤ i → i < 901 → gI M' 4 i = gI M 33 i) → gI M' 2 2 = gI M 31 2 → gI M' 2 3 = gI M 31 3 → gI M' 2 4 = gI M 31 4 → Q M' none) : Wq 1 0 0 mY_copy 0 [iR 2, iR 31] [] M Q := by
  refine B_Y_copy_r_0 hS ?_
  refine hq _ hS (fun b hb => ?_) (fun b hb => ?_) (fun i i0 i1 => ?_) (fun i i0 i1 => ?_) rfl rfl rfl
  · rw [gI_ot (by omega), gI_ot (by omega), gI_ot (by omega), gI_cO (by omega)]
    rfl
  · exact gL_cO hb
  · exact (gL_cI i0 (by omega)).trans (by rw [show (0 : Int) + (i - 0) = i by omega])
  · rw [gI_ot (by decide), gI_ot (by decide), gI_ot (by decide), gI_cI (by omega) (by omega), show (0 : Int) + (i - 0) = i by omega]
    rfl
theorem sp_W_copy_r (hS : RefOK M) (hq : ∀ M', RefOK M' → (∀ b : Nat, (b < 5 ∨ 11 < b) → gI M' b = gI M b) → (∀ b : Nat, gL M' b = gL M b) → (∀ i, 0 ≤ i → i < 16 → gI M' 6 i = gI M 35 i) → (∀ i, 0 ≤ i → i < 16 → gI M' 7 i = gI M 36 i) → (∀ i, 0 ≤ i → i < 16 → gI M' 8 i = gI M 37 i) → (∀ i, 0 ≤ i → i < 16 → gI M' 9 i = gI M 38 i) → (∀ i, 0 ≤ i → i < 256 → gI M' 10 i = gI M 39 i) → (∀ i, 0 ≤ i → i < 16 → gI M' 11 i = gI M 40 i) → gI M' 5 6 = gI M 34 6 → gI M' 5 7 = gI M 34 7 → Q M' none) : Wq 1 0 0 mW_copy 0 [iR 5, iR 34] [] M Q := by
  refine B_W_copy_r_0 hS ?_
  refine hq _ hS (fun b hb => ?_) (fun b => ?_) (fun i i0 i1 => ?_) (fun i i0 i1 => ?_) (fun i i0 i1 => ?_) (fun i i0 i1 => ?_) (fun i i0 i1 => ?_) (fun i i0 i1 => ?_) rfl rfl
  · rw [gI_ot (by omega), gI_ot (by omega), gI_cO (by omega), gI_cO (by omega), gI_cO (by omega), gI_cO (by omega), gI_cO (by omega), gI_cO (by omega)]
  · rfl
  · rw [gI_ot (by decide), gI_ot (by decide), gI_cO (by decide), gI_cO (by decide), gI_cO (by decide), gI_cO (by decide), gI_cO (by decide), gI_cI (by omega) (by omega), show (0 : Int) + (i - 0) = i by omega]
  · rw [gI_ot (by decide), gI_ot (by decide), gI_cO (by decide), gI_cO (by decide), gI_cO (by decide), gI_cO (by decide), gI_cI (by omega) (by omega), show (0 : Int) + (i - 0) = i by omega, gI_cO (by decide)]
  · rw [gI_ot (by decide), gI_ot (by decide), gI_cO (by decide), gI_cO (by decide), gI_cO (by decide), gI_cI (by omega) (by omega), show (0 : Int) + (i - 0) = i by omega, gI_cO (by decide), gI_cO (by decide)]
  · rw [gI_ot (by decide), gI_ot (by decide), gI_cO (by decide), gI_cO (by decide), gI_cI (by omega) (by omega), show (0 : Int) + (i - 0) = i by omega, gI_cO (by decide), gI_cO (by decide), gI_cO (by decide)]
  · rw [gI_ot (by decide), gI_ot (by decide), gI_cO (by decide), gI_cI (by omega) (by omega), show (0 : Int) + (i - 0) = i by omega, gI_cO (by decide), gI_cO (by decide), gI_cO (by decide), gI_cO (by decide)]
  · rw [gI_ot (by decide), gI_ot (by decide), gI_cI (by omega) (by omega), show (0 : Int) + (i - 0) = i by omega, gI_cO (by decide), gI_cO (by decide), gI_cO (by decide), gI_cO (by decide), gI_cO (by decide)]
theorem sp_E_copy_r (hS : RefOK M) (hq : ∀ M', RefOK M' → (∀ b : Nat, (b < 12 ∨ 19 < b) → gI M' b = gI M b) → (∀ b : Nat, gL M' b = gL M b) → (∀ i, 0 ≤ i → i < 20 → gI M' 13 i = gI M 42 i) → (∀ i, 0 ≤ i → i < 20 → gI M' 14 i = gI M 43 i) → (∀ i, 0 ≤ i → i < 20 → gI M' 15 i = gI M 44 i) → (∀ i, 0 ≤ i → i < 20 → gI M' 16 i = gI M 45 i) → (∀ i, 0 ≤ i → i < 20 → gI M' 17 i = gI M 46 i) → (∀ i, 0 ≤ i → i < 20 → gI M' 18 i = gI M 47 i) → (∀ i, 0 ≤ i → i < 20 → gI M' 19 i = gI M 48 i) → gI M' 12 7 = gI M 41 7 → Q M' none) : Wq 1 0 0 mE_copy 0 [iR 12, iR 41] [] M Q := by
  refine B_E_copy_r_0 hS ?_
  refine hq _ hS (fun b hb => ?_) (fun b => ?_) (fun i i0 i1 => ?_) (fun i i0 i1 => ?_) (fun i i0 i1 => ?_) (fun i i0 i1 => ?_) (fun i i0 i1 => ?_) (fun i i0 i1 => ?_) (fun i i0 i1 => ?_) rfl
  · rw [gI_ot (by omega), gI_cO (by omega), gI_cO (by omega), gI_cO (by omega), gI_cO (by omega), gI_cO (by omega), gI_cO (by omega), gI_cO (by omega)]
  · rfl
  · rw [gI_ot (by decide), gI_cO (by decide), gI_cO (by decide), gI_cO (by decide), gI_cO (by decide), gI_cO (by decide), gI_cO (by decide), gI_cI (by omega) (by omega), show (0 : Int) + (i - 0) = i by omega]
  · rw [gI_ot (by decide), gI_cO (by decide), gI_cO (by decide), gI_cO (by decide), gI_cO (by decide), gI_cO (by decide), gI_cI (by omega) (by omega), show (0 : Int) + (i - 0) = i by omega, gI_cO (by decide)]
  · rw [gI_ot (by decide), gI_cO (by decide), gI_cO (by decide), gI_cO (by decide), gI_cO (by decide), gI_cI (by omega) (by omega), show (0 : Int) + (i - 0) = i by omega, gI_cO (by decide), gI_cO (by decide)]
  · rw [gI_ot (by decide), gI_cO (by decide), gI_cO (by decide), gI_cO (by decide), gI_cI (by omega) (by omega), show (0 : Int) + (i - 0) = i by omega, gI_cO (by decide), gI_cO (by decide), gI_cO (by decide)]
  · rw [gI_ot (by decide), gI_cO (by decide), gI_cO (by decide), gI_cI (by omega) (by omega), show (0 : Int) + (i - 0) = i by omega, gI_cO (by decide), gI_cO (by decide), gI_cO (by decide), gI_cO (by decide)]
  · rw [gI_ot (by decide), gI_cO (by decide), gI_cI (by omega) (by omega), show (0 : Int) + (i - 0) = i by omega, gI_cO (by decide), gI_cO (by decide), gI_cO (by decide), gI_cO (by decide), gI_cO (by decide)]
  · rw [gI_ot (by decide), gI_cI (by omega) (by omega), show (0 : Int) + (i - 0) = i by omega, gI_cO (by decide), gI_cO (by decide), gI_cO (by decide), gI_cO (by decide), gI_cO (by decide), gI_cO (by decide)]
theorem sp_C_copy_r (hS : RefOK M) (hq : ∀ M', RefOK M' → (∀ b : Nat, (b < 20 ∨ 25 < b) → gI M' b = gI M b) → (∀ b : Nat, gL M' b = gL M b) → (∀ i, 0 ≤ i → i < 60 → gI M' 21 i = gI M 50 i) → (∀ i, 0 ≤ i → i < 600 → gI M' 22 i = gI M 51 i) → (∀ i, 0 ≤ i → i < 10 → gI M' 23 i = gI M 52 i) → (∀ i, 0 ≤ i → i < 10 → gI M' 24 i = gI M 53 i) → (∀ i, 0 ≤ i → i < 10 → gI M' 25 i = gI M 54 i) → gI M' 20 5 = gI M 49 5 → gI M' 20 6 = gI M 49 6 → Q M' none) : Wq 1 0 0 mC_copy 0 [iR 20, iR 49] [] M Q := by
  refine B_C_copy_r_0 hS ?_
  refine hq _ hS (fun b hb => ?_) (fun b => ?_) (fun i i0 i1 => ?_) (fun i i0 i1 => ?_) (fun i i0 i1 => ?_) (fun i i0 i1 => ?_) (fun i i0 i1 => ?_) rfl rfl
  · rw [gI_ot (by omega), gI_ot (by omega), gI_cO (by omega), gI_cO (by omega), gI_cO (by omega), gI_cO (by omega), gI_cO (by omega)]
  · rfl
  · rw [gI_ot (by decide), gI_ot (by decide), gI_cO (by decide), gI_cO (by decide), gI_cO (by decide), gI_cO (by decide), gI_cI (by omega) (by omega), show (0 : Int) + (i - 0) = i by omega]
  · rw [gI_ot (by decide), gI_ot (by decide), gI_cO (by decide), gI_cO (by decide), gI_cO (by decide), gI_cI (by omega) (by omega), show (0 : Int) + (i - 0) = i by omega, gI_cO (by decide)]
  · rw [gI_ot (by decide), gI_ot (by decide), gI_cO (by decide), gI_cO (by decide), gI_cI (by omega) (by omega), show (0 : Int) + (i - 0) = i by omega, gI_cO (by decide), gI_cO (by decide)]
  · rw [gI_ot (by decide), gI_ot (by decide), gI_cO (by decide), gI_cI (by omega) (by omega), show (0 : Int) + (i - 0) = i by omega, gI_cO (by decide), gI_cO (by decide), gI_cO (by decide)]
  · rw [gI_ot (by decide), gI_ot (by decide), gI_cI (by omega) (by omega), show (0 : Int) + (i - 0) = i by omega, gI_cO (by decide), gI_cO (by decide), gI_cO (by decide), gI_cO (by decide)]
theorem sp_H_copy_r (hS : RefOK M) (hq : ∀ M', RefOK M' → (∀ b : Nat, (b < 26 ∨ 29 < b) → gI M' b = gI M b) → (∀ b : Nat, gL M' b = gL M b) → (∀ i, 0 ≤ i → i < 5 → gI M' 27 i = gI M 56 i) → (∀ i, 0 ≤ i → i < 5 → gI M' 28 i = gI M 57 i) → (∀ i, 0 ≤ i → i < 5 → gI M' 29 i = gI M 58 i) → gI M' 26 3 = gI M 55 3 → Q M' none) : Wq 1 0 0 mH_copy 0 [iR 26, iR 55] [] M Q := by
  refine B_H_copy_r_0 hS ?_
  refine hq _ hS (fun b hb => ?_) (fun b => ?_) (fun i i0 i1 => ?_) (fun i i0 i1 => ?_) (fun i i0 i1 => ?_) rfl
  · rw [gI_ot (by omega), gI_cO (by omega), gI_cO (by omega), gI_cO (by omega)]
  · rfl
  · rw [gI_ot (by decide), gI_cO (by decide), gI_cO (by decide), gI_cI (by omega) (by omega), show (0 : Int) + (i - 0) = i by omega]
  · rw [gI_ot (by decide), gI_cO (by decide), gI_cI (by omega) (by omega), show (0 : Int) + (i - 0) = i by omega, gI_cO (by decide)]
  · rw [gI_ot (by decide), gI_cI (by omega) (by omega), show (0 : Int) + (i - 0) = i by omega, gI_cO (by decide), gI_cO (by decide)]
theorem sp_T_copy_r (hS : RefOK M) (hq : ∀ M', RefOK M' → (∀ b : Nat, (b < 1 ∨ 29 < b) → gI M' b = gI M b) → (∀ b : Nat, b ≠ 3 → gL M' b = gL M b) → (∀ i, 0 ≤ i → i < 15 → gL M' 3 i = gL M 32 i) → (∀ i, 0 ≤ i → i < 901 → gI M' 4 i = gI M 33 i) → gI M' 2 2 = gI M 31 2 → gI M' 2 3 = gI M 31 3 → gI M' 2 4 = gI M 31 4 → (∀ i, 0 ≤ i → i < 16 → gI M' 6 i = gI M 35 i) → (∀ i, 0 ≤ i → i < 16 → gI M' 7 i = gI M 36 i) → (∀ i, 0 ≤ i → i < 16 → gI M' 8 i = gI M 37 i) → (∀ i, 0 ≤ i → i < 16 → gI M' 9 i = gI M 38 i) → (∀ i, 0 ≤ i → i < 256 → gI M' 10 i = gI M 39 i) → (∀ i, 0 ≤ i → i < 16 → gI M' 11 i = gI M 40 i) → gI M' 5 6 = gI M 34 6 → gI M' 5 7 = gI M 34 7 → (∀ i, 0 ≤ i → i < 20 → gI M' 13 i = gI M 42 i) → (∀ i, 0 ≤ i → i < 20 → gI M' 14 i = gI M 43 i) → (∀ i, 0 ≤ i → i < 20 → gI M' 15 i = gI M 44 i) → (∀ i, 0 ≤ i → i < 20 → gI M' 16 i = gI M 45 i) → (∀ i, 0 ≤ i → i < 20 → gI M' 17 i = gI M 46 i) → (∀ i, 0 ≤ i → i < 20 → gI M' 18 i = gI M 47 i) → (∀ i, 0 ≤ i → i < 20 → gI M' 19 i = gI M 48 i) → gI M' 12 7 = gI M 41 7 → (∀ i, 0 ≤ i → i < 60 → gI M' 21 i = gI M 50 i) → (∀ i, 0 ≤ i → i < 600 → gI M' 22 i = gI M 51 i) → (∀ i, 0 ≤ i → i < 10 → gI M' 23 i = gI M 52 i) → (∀ i, 0 ≤ i → i < 10 → gI M' 24 i = gI M 53 i) → (∀ i, 0 ≤ i → i < 10 → gI M' 25 i = gI M 54 i) → gI M' 20 5 = gI M 49 5 → gI M' 20 6 = gI M 49 6 → (∀ i, 0 ≤ i → i < 5 → gI M' 27 i = gI M 56 i) → (∀ i, 0 ≤ i → i < 5 → gI M' 28 i = gI M 57 i) → (∀ i, 0 ≤ i → i < 5 → gI M' 29 i = gI M 58 i) → gI M' 26 3 = gI M 55 3 → gI M' 1 5 = gI M 30 5 → Q M' none) : Wq 2 0 0 mT_copy 0 [iR 1, iR 30] [] M Q := by
  refine B_T_copy_r_0 hS (sp_Y_copy_r hS (fun M1 S1 k1 l1 w1 y4 yf2_2 yf2_3 yf2_4 => ?_))
  refine B_T_copy_r_11 S1 (sp_W_copy_r S1 (fun M2 S2 k2 l2 w6 w7 w8 w9 w10 w11 wf5_6 wf5_7 => ?_))
  refine B_T_copy_r_22 S2 (sp_E_copy_r S2 (fun M3 S3 k3 l3 e13 e14 e15 e16 e17 e18 e19 ef12_7 => ?_))
  refine B_T_copy_r_33 S3 (sp_C_copy_r S3 (fun M4 S4 k4 l4 c21 c22 c23 c24 c25 cf20_5 cf20_6 => ?_))
  refine B_T_copy_r_44 S4 (sp_H_copy_r S4 (fun M5 S5 k5 l5 h27 h28 h29 hf26_3 => ?_))
  refine B_T_copy_r_55 ?_
  exact hq _ S5 (fun b hb => by rw [gI_ot (by omega), k5 b (by omega), k4 b (by omega), k3 b (by omega), k2 b (by omega), k1 b (by omega)]) (fun b hb => by show gL M5 b = _; rw [l5, l4, l3, l2, l1 b hb]) (fun i i0 i1 => by show gL M5 3 i = _; rw [l5, l4, l3, l2, w1 i i0 i1]) (fun i i0 i1 => by rw [gI_ot (by decide), k5 4 (by decide), k4 4 (by decide), k3 4 (by decide), k2 4 (by decide), y4 i i0 i1]) (by rw [gI_ot (by decide), k5 2 (by decide), k4 2 (by decide), k3 2 (by decide), k2 2 (by decide), yf2_2]) (by rw [gI_ot (by decide), k5 2 (by decide), k4 2 (by decide), k3 2 (by decide), k2 2 (by decide), yf2_3]) (by rw [gI_ot (by decide), k5 2 (by decide), k4 2 (by decide), k3 2 (by decide), k2 2 (by decide), yf2_4]) (fun i i0 i1 => by rw [gI_ot (by decide), k5 6 (by decide), k4 6 (by decide), k3 6 (by decide), w6 i i0 i1, k1 35 (by decide)]) (fun i i0 i1 => by rw [gI_ot (by decide), k5 7 (by decide), k4 7 (by decide), k3 7 (by decide), w7 i i0 i1, k1 36 (by decide)]) (fun i i0 i1 => by rw [gI_ot (by decide), k5 8 (by decide), k4 8 (by decide), k3 8 (by decide), w8 i i0 i1, k1 37 (by decide)]) (fun i i0 i1 => by rw [gI_ot (by decide), k5 9 (by decide), k4 9 (by decide), k3 9 (by decide), w9 i i0 i1, k1 38 (by decide)]) (fun i i0 i1 => by rw [gI_ot (by decide), k5 10 (by decide), k4 10 (by decide), k3 10 (by decide), w10 i i0 i1, k1 39 (by decide)]) (fun i i0 i1 => by rw [gI_ot (by decide), k5 11 (by decide), k4 11 (by decide), k3 11 (by decide), w11 i i0 i1, k1 40 (by decide)]) (by rw [gI_ot (by decide), k5 5 (by decide), k4 5 (by decide), k3 5 (by decide), wf5_6, k1 34 (by decide)]) (by rw [gI_ot (by decide), k5 5 (by decide), k4 5 (by decide), k3 5 (by decide), wf5_7, k1 34 (by decide)]) (fun i i0 i1 => by rw [gI_ot (by decide), k5 13 (by decide), k4 13 (by decide), e13 i i0 i1, k2 42 (by decide), k1 42 (by decide)]) (fun i i0 i1 => by rw [gI_ot (by decide), k5 14 (by decide), k4 14 (by decide), e14 i i0 i1, k2 43 (by decide), k1 43 (by decide)]) (fun i i0 i1 => by rw [gI_ot (by decide), k5 15 (by decide), k4 15 (by decide), e15 i i0 i1, k2 44 (by decide), k1 44 (by decide)]) (fun i i0 i1 => by rw [gI_ot (by decide), k5 16 (by decide), k4 16 (by decide), e16 i i0 i1, k2 45 (by decide), k1 45 (by decide)]) (fun i i0 i1 => by rw [gI_ot (by decide), k5 17 (by decide), k4 17 (by decide), e17 i i0 i1, k2 46 (by decide), k1 46 (by decide)]) (fun i i0 i1 => by rw [gI_ot (by decide), k5 18 (by decide), k4 18 (by decide), e18 i i0 i1, k2 47 (by decide), k1 47 (by decide)]) (fun i i0 i1 => by rw [gI_ot (by decide), k5 19 (by decide), k4 19 (by decide), e19 i i0 i1, k2 48 (by decide), k1 48 (by decide)]) (by rw [gI_ot (by decide), k5 12 (by decide), k4 12 (by decide), ef12_7, k2 41 (by decide), k1 41 (by decide)]) (fun i i0 i1 => by rw [gI_ot (by decide), k5 21 (by decide), c21 i i0 i1, k3 50 (by decide), k2 50 (by decide), k1 50 (by decide)]) (fun i i0 i1 => by rw [gI_ot (by decide), k5 22 (by decide), c22 i i0 i1, k3 51 (by decide), k2 51 (by decide), k1 51 (by decide)]) (fun i i0 i1 => by rw [gI_ot (by decide), k5 23 (by decide), c23 i i0 i1, k3 52 (by decide), k2 52 (by decide), k1 52 (by decide)]) (fun i i0 i1 => by rw [gI_ot (by decide), k5 24 (by decide), c24 i i0 i1, k3 53 (by decide), k2 53 (by decide), k1 53 (by decide)]) (fun i i0 i1 => by rw [gI_ot (by decide), k5 25 (by decide), c25 i i0 i1, k3 54 (by decide), k2 54 (by decide), k1 54 (by decide)]) (by rw [gI_ot (by decide), k5 20 (by decide), cf20_5, k3 49 (by decide), k2 49 (by decide), k1 49 (by decide)]) (by rw [gI_ot (by decide), k5 20 (by decide), cf20_6, k3 49 (by decide), k2 49 (by decide), k1 49 (by decide)]) (fun i i0 i1 => by rw [gI_ot (by decide), h27 i i0 i1, k4 56 (by decide), k3 56 (by decide), k2 56 (by decide), k1 56 (by decide)]) (fun i i0 i1 => by rw [gI_ot (by decide), h28 i i0 i1, k4 57 (by decide), k3 57 (by decide), k2 57 (by decide), k1 57 (by decide)]) (fun i i0 i1 => by rw [gI_ot (by decide), h29 i i0 i1, k4 58 (by decide), k3 58 (by decide), k2 58 (by decide), k1 58 (by decide)]) (by rw [gI_ot (by decide), hf26_3, k4 55 (by decide), k3 55 (by decide), k2 55 (by decide), k1 55 (by decide)]) (gI_s.trans (by rw [k5 30 (by decide), k4 30 (by decide), k3 30 (by decide), k2 30 (by decide), k1 30 (by decide)]))
/-- the end of the copies -/
theorem c_image (hw : WfS s) (h : CI s M) (hq : ∀ M', CI (o_image s).1 M' → FrC M M' → Q M' (some (vI (o_image s).2))) : Wq 3 0 0 mD_image 0 [iR 0] [] M Q := by
  obtain ⟨d0, dC, dW, dL, dE, dT, dX, dH⟩ := h.2.1
  obtain ⟨wd, wc, ww, wl, we, wt, wx, wh⟩ := hw.1
  have o : ∀ i, 0 ≤ i → i < 1993 → clp (sn s) (sk s) i = sn s i := fun i h1 h2 => clp_i h1 h2
  refine B_D_image_0 h.1 (sp_T_copy_k h.1 (fun M' S1 k1 l1 w1 c4 f2_2 f2_3 f2_4 c6 c7 c8 c9 c10 c11 f5_6 f5_7 c13 c14 c15 c16 c17 c18 c19 f12_7 c21 c22 c23 c24 c25 f20_5 f20_6 c27 c28 c29 f26_3 f1_5 => B_D_image_11 ?_))
  rw [k1 0 (by decide), h.2.2.2.1]
  have k2 : ∀ b : Nat, b ≠ 0 → (b < 30 ∨ 58 < b) → gI (sI M' 0 9 (wr (sim s + 1))) b = gI M b := fun b h1 h2 => by rw [gI_ot h1, k1 b h2]
  refine hq _ ⟨S1, ?_, fun _ => ?_, gI_s, ?_, ?_, ?_, ?_⟩ (fun a i ha => by rw [k2 a (by omega) (by omega)])
  · unfold site0
    rw [k2 1 (by decide) (by decide), k2 4 (by decide) (by decide), k2 2 (by decide) (by decide), k2 6 (by decide) (by decide), k2 7 (by decide) (by decide), k2 8 (by decide) (by decide), k2 5 (by decide) (by decide), k2 9 (by decide) (by decide), k2 10 (by decide) (by decide), k2 11 (by decide) (by decide), k2 13 (by decide) (by decide), k2 14 (by decide) (by decide), k2 15 (by decide) (by decide), k2 16 (by decide) (by decide), k2 17 (by decide) (by decide), k2 18 (by decide) (by decide), k2 19 (by decide) (by decide), k2 12 (by decide) (by decide), k2 21 (by decide) (by decide), k2 20 (by decide) (by decide), k2 22 (by decide) (by decide), k2 23 (by decide) (by decide), k2 24 (by decide) (by decide), k2 25 (by decide) (by decide), k2 27 (by decide) (by decide), k2 28 (by decide) (by decide), k2 29 (by decide) (by decide), k2 26 (by decide) (by decide)]
    rw [show gL (sI M' 0 9 (wr (sim s + 1))) 3 = gL M 3 from l1 3 (by decide)]
    exact h.2.1
  · unfold site1
    rw [gI_ot (M := M') (show (30 : Nat) ≠ 0 by decide), gI_ot (M := M') (show (33 : Nat) ≠ 0 by decide), gI_ot (M := M') (show (31 : Nat) ≠ 0 by decide), gI_ot (M := M') (show (35 : Nat) ≠ 0 by decide), gI_ot (M := M') (show (36 : Nat) ≠ 0 by decide), gI_ot (M := M') (show (37 : Nat) ≠ 0 by decide), gI_ot (M := M') (show (34 : Nat) ≠ 0 by decide), gI_ot (M := M') (show (38 : Nat) ≠ 0 by decide), gI_ot (M := M') (show (39 : Nat) ≠ 0 by decide), gI_ot (M := M') (show (40 : Nat) ≠ 0 by decide), gI_ot (M := M') (show (42 : Nat) ≠ 0 by decide), gI_ot (M := M') (show (43 : Nat) ≠ 0 by decide), gI_ot (M := M') (show (44 : Nat) ≠ 0 by decide), gI_ot (M := M') (show (45 : Nat) ≠ 0 by decide), gI_ot (M := M') (show (46 : Nat) ≠ 0 by decide), gI_ot (M := M') (show (47 : Nat) ≠ 0 by decide), gI_ot (M := M') (show (48 : Nat) ≠ 0 by decide), gI_ot (M := M') (show (41 : Nat) ≠ 0 by decide), gI_ot (M := M') (show (50 : Nat) ≠ 0 by decide), gI_ot (M := M') (show (49 : Nat) ≠ 0 by decide), gI_ot (M := M') (show (51 : Nat) ≠ 0 by decide), gI_ot (M := M') (show (52 : Nat) ≠ 0 by decide), gI_ot (M := M') (show (53 : Nat) ≠ 0 by decide), gI_ot (M := M') (show (54 : Nat) ≠ 0 by decide), gI_ot (M := M') (show (56 : Nat) ≠ 0 by decide), gI_ot (M := M') (show (57 : Nat) ≠ 0 by decide), gI_ot (M := M') (show (58 : Nat) ≠ 0 by decide), gI_ot (M := M') (show (55 : Nat) ≠ 0 by decide)]
    show _ ∧ cCal _ (gL M' 32) _ _ _ _ ∧ _
    refine ⟨by rw [f1_5]; exact d0.trans (o 0 (by decide) (by decide)).symm, ?_, ?_, ?_, ?_, ?_, ?_, ?_⟩
    · rw [f2_2, f2_3, f2_4]
      exact (dC.cc w1 c4).cg (o 1 (by decide) (by decide)) (fun i a b => o i (by omega) (by omega))
    · rw [f5_6]
      exact (dW.cc ww c6 c7 c8).cg ww.1.2 (o 2 (by decide) (by decide)) (fun i a b => o i (by omega) (by omega))
    · rw [f5_7]
      exact (dL.cc ww wl c9 c10 c11).cg wl.1.2 (o 2 (by decide) (by decide)) (o 3 (by decide) (by decide)) (fun i a b => o i (by omega) (by omega))
    · rw [f12_7]
      exact (dE.cc we.1 c13 c14 c15 c16 c17 c18 c19).cg we.1.2 (o 4 (by decide) (by decide)) (fun i a b => o i (by omega) (by omega))
    · rw [f20_5]
      exact (dT.cc wt.1 c21).cg wt.1.2 (o 7 (by decide) (by decide)) (fun i a b => o i (by omega) (by omega))
    · rw [f20_6]
      exact (dX.cc wx.1 c22 c23 c24 c25).cg wx.1.2 (o 5 (by decide) (by decide)) (fun i a b => o i (by omega) (by omega))
    · rw [f26_3]
      exact (dH.cc wh.1 c27 c28 c29).cg wh.1.2 (o 6 (by decide) (by decide)) (fun i a b => o i (by omega) (by omega))
  · intro k h1 h2
    rw [k2 69 (by decide) (by decide)]
    exact h.2.2.2.2.1 k h1 h2
  · unfold shR
    rw [k2 72 (by decide) (by decide), k2 73 (by decide) (by decide), k2 74 (by decide) (by decide), k2 75 (by decide) (by decide), k2 76 (by decide) (by decide), k2 77 (by decide) (by decide), k2 78 (by decide) (by decide), k2 79 (by decide) (by decide)]
    exact h.2.2.2.2.2.1
  · rw [k2 66 (by decide) (by decide), k2 67 (by decide) (by decide)]
    exact h.2.2.2.2.2.2.1
  · rw [k2 1001 (by decide) (by decide), k2 1002 (by decide) (by decide)]
    exact h.2.2.2.2.2.2.2
theorem r_image (hw : WfS s) (h : RI s M) (hq : ∀ M', RI (o_image s).1 M' → FrR M M' → Q M' (some (vI (o_image s).2))) : Wq 1 0 0 mM_image 0 [iR 80, none] [] M Q := by
  have e' := h.2.1
  refine B_M_image_0 ?_
  have key : ∀ (f : Nat) (j : Nat) (M' : Mm), j ≤ 1993 → 1993 - j = f → RefOK M' → (∀ b : Nat, b ≠ 82 → gI M' b = gI M b) → gL M' = gL M → (gI M' 82 = fun i : Int => if 0 ≤ i ∧ i < (j : Int) then sn s i else sk s i) → Wq 1 0 0 mM_image 2 [iR 80, iI j] [] M' Q := by
    intro f
    induction f with
    | zero =>
      intro j M' hj hf g0 g1 g2 g3
      refine B_M_image_2 g0 ⟨fun c => ?_, fun c => by omega⟩
      have ej : j = 1993 := by omega
      subst ej
      rw [g1 80 (by decide), h.2.2.2.1]
      obtain ⟨q1, q2, q3, q4, q5, q6, q7, q8, q9, q10, q11⟩ := h
      refine hq _ ⟨g0, ?_, ?_, gI_s, ?_, ?_, ?_, ?_, ?_, ?_, ?_⟩ (fun a i ha => ⟨by rw [gI_ot (by omega), g1 a (by omega)], by show gL M' a i = _; rw [g2]⟩)
      · rw [gI_ot (by decide), g1 81 (by decide)]
        exact q2
      · rw [gI_ot (by decide), g3]
        rfl
      · rw [gI_ot (by decide), g1 83 (by decide)]
        exact q5
      · rw [gI_ot (by decide), g1 84 (by decide)]
        exact q6
      · rw [gI_ot (by decide), g1 85 (by decide)]
        exact q7
      · rw [gI_ot (by decide), g1 86 (by decide)]
        exact q8
      · rw [gI_ot (by decide), g1 87 (by decide)]
        exact q9
      · rw [gI_n (Or.inr (by decide)), g1 80 (by decide)]
        exact q10
      · unfold rCac
        rw [gI_n (Or.inr (by decide)), g1 80 (by decide), gI_ot (by decide), g1 91 (by decide), gI_ot (by decide), g1 92 (by decide)]
        exact q11
    | succ f ih =>
      intro j M' hj hf g0 g1 g2 g3
      refine B_M_image_2 g0 ⟨fun c => by omega, fun c => ⟨by omega, ?_⟩⟩
      rw [wr_eq (by omega) (by omega)]
      have ih := ih (j + 1) (sI M' 82 j (gI M' 81 j)) (by omega) (by omega) g0 (fun b hb => by rw [gI_ot hb]; exact g1 b hb) g2 (by
        rw [gI_up, g3, g1 81 (by decide), e']
        funext i
        unfold up
        by_cases c1 : i = (j : Int)
        · rw [if_pos c1, if_pos (by omega), c1]
        · rw [if_neg c1]
          dsimp only
          by_cases c2 : 0 ≤ i ∧ i < (j : Int)
          · rw [if_pos c2, if_pos (by omega)]
          · rw [if_neg c2, if_neg (by omega)])
      rw [show (((j + 1 : Nat) : Int)) = (j : Int) + 1 by omega] at ih
      exact ih
  refine key _ 0 M (by omega) rfl h.1 (fun _ _ => rfl) rfl ?_
  rw [h.2.2.1]
  funext i
  rw [if_neg (by omega)]
theorem c_restore (hw : WfS s) (h : CI s M) (hq : ∀ M', CI (o_restore s).1 M' → FrC M M' → Q M' (some (vI (o_restore s).2))) : Wq 3 0 0 mD_restore 0 [iR 0] [] M Q := by
  refine B_D_restore_0 h.1 ?_
  rw [h.2.2.2.1]
  refine ⟨fun c => ?_, fun c => c_fnd h (by decide) (by decide) (by decide) (if_neg (fun z => z c)) hq⟩
  rw [show o_restore s = _ from if_pos c] at hq
  obtain ⟨d0, dC, dW, dL, dE, dT, dX, dH⟩ := h.2.2.1 c
  obtain ⟨wd, wc, ww, wl, we, wt, wx, wh⟩ := hw.2.1 c
  have o : ∀ i, 0 ≤ i → i < 1993 → clp (sk s) (sn s) i = sk s i := fun i h1 h2 => clp_i h1 h2
  refine sp_T_copy_r h.1 (fun M' S1 k1 l1 w1 c4 f2_2 f2_3 f2_4 c6 c7 c8 c9 c10 c11 f5_6 f5_7 c13 c14 c15 c16 c17 c18 c19 f12_7 c21 c22 c23 c24 c25 f20_5 f20_6 c27 c28 c29 f26_3 f1_5 => B_D_restore_25 S1 ?_)
  rw [f1_5, d0]
  refine hq _ (h.to (n' := clp (sk s) (sn s)) S1 ⟨by rw [f1_5]; exact d0.trans (o 0 (by decide) (by decide)).symm, ?_, ?_, ?_, ?_, ?_, ?_, ?_⟩ (fun b hb => k1 b (by omega)) (l1 32 (by decide))) (fun a i ha => by rw [k1 a (by omega)])
  · rw [f2_2, f2_3, f2_4]
    exact (dC.cc w1 c4).cg (o 1 (by decide) (by decide)) (fun i a b => o i (by omega) (by omega))
  · rw [f5_6]
    exact (dW.cc ww c6 c7 c8).cg ww.1.2 (o 2 (by decide) (by decide)) (fun i a b => o i (by omega) (by omega))
  · rw [f5_7]
    exact (dL.cc ww wl c9 c10 c11).cg wl.1.2 (o 2 (by decide) (by decide)) (o 3 (by decide) (by decide)) (fun i a b => o i (by omega) (by omega))
  · rw [f12_7]
    exact (dE.cc we.1 c13 c14 c15 c16 c17 c18 c19).cg we.1.2 (o 4 (by decide) (by decide)) (fun i a b => o i (by omega) (by omega))
  · rw [f20_5]
    exact (dT.cc wt.1 c21).cg wt.1.2 (o 7 (by decide) (by decide)) (fun i a b => o i (by omega) (by omega))
  · rw [f20_6]
    exact (dX.cc wx.1 c22 c23 c24 c25).cg wx.1.2 (o 5 (by decide) (by decide)) (fun i a b => o i (by omega) (by omega))
  · rw [f26_3]
    exact (dH.cc wh.1 c27 c28 c29).cg wh.1.2 (o 6 (by decide) (by decide)) (fun i a b => o i (by omega) (by omega))
theorem r_restore (hw : WfS s) (h : RI s M) (hq : ∀ M', RI (o_restore s).1 M' → FrR M M' → Q M' (some (vI (o_restore s).2))) : Wq 2 0 0 mM_restore 0 [iR 80, none] [] M Q := by
  have e' := h.2.1
  refine B_M_restore_0 h.1 ?_
  rw [h.2.2.2.1]
  refine ⟨fun c => ?_, fun c => r_fnd h (by decide) (if_neg (fun z => z c)) hq⟩
  rw [show o_restore s = _ from if_pos c] at hq
  have ww := (hw.2.1 c).2.2.1.1
  have key : ∀ (f : Nat) (j : Nat) (M' : Mm), j ≤ 1993 → 1993 - j = f → RefOK M' → (∀ b : Nat, b ≠ 81 → gI M' b = gI M b) → gL M' = gL M → (gI M' 81 = fun i : Int => if 0 ≤ i ∧ i < (j : Int) then sk s i else sn s i) → Wq 2 0 0 mM_restore 16 [iR 80, iI j] [] M' Q := by
    intro f
    induction f with
    | zero =>
      intro j M' hj hf g0 g1 g2 g3
      refine B_M_restore_16 g0 ⟨fun c => ?_, fun c => by omega⟩
      have ej : j = 1993 := by omega
      subst ej
      refine sp_M_changed g0 (fun M2 k1 k2 k3 k4 k5 => B_M_restore_45 k3 ?_)
      rw [k1 81 0 (by decide) (Or.inl (by decide)), g3]
      refine hq _ (h.chg (n' := clp (sk s) (sn s)) (M1 := M') ?_ g3 g1 k1 k3 k4 k5) (FrR.chg (M1 := M') (fun a i ha => ⟨by rw [g1 a (by omega)], by rw [g2]⟩) k1 k2)
      rw [clp_i (by decide) (by decide)]
      exact ww.2
    | succ f ih =>
      intro j M' hj hf g0 g1 g2 g3
      refine B_M_restore_16 g0 ⟨fun c => by omega, fun c => ⟨by omega, ?_⟩⟩
      have ih := ih (j + 1) (sI M' 81 j (gI M' 82 j)) (by omega) (by omega) g0 (fun b hb => by rw [gI_ot hb]; exact g1 b hb) g2 (by
        rw [gI_up, g3, g1 82 (by decide), h.2.2.1]
        funext i
        unfold up
        by_cases c1 : i = (j : Int)
        · rw [if_pos c1, if_pos (by omega), c1]
        · rw [if_neg c1]
          dsimp only
          by_cases c2 : 0 ≤ i ∧ i < (j : Int)
          · rw [if_pos c2, if_pos (by omega)]
          · rw [if_neg c2, if_neg (by omega)])
      rw [show (((j + 1 : Nat) : Int)) = (j : Int) + 1 by omega] at ih
      exact ih
  refine key _ 0 M (by omega) rfl h.1 (fun _ _ => rfl) rfl ?_
  rw [e']
  funext i
  rw [if_neg (by omega)]
end OPH
