/-! ===== what the class's cells hold, what the reference's hold ===== -/
def wCls (n : Int → Int) : Prop := (0 ≤ n 5 ∧ n 5 ≤ 10) ∧ ∀ c, 0 ≤ c → c < n 5 → (n (288 + 73 * c) = 0 ∨ n (288 + 73 * c) = 1) ∧ (0 ≤ n (289 + 73 * c) ∧ n (289 + 73 * c) ≤ 900) ∧ ∃ t len, Tx t len (fun k => n (291 + 73 * c + k)) (n (290 + 73 * c))
def WfN (n : Int → Int) : Prop := wDay n ∧ wCal n ∧ wWrk n ∧ wLnk n ∧ wEvt n ∧ wTap n ∧ wCls n ∧ wHst n
def wSht (s : St) : Prop := ∀ q, 0 ≤ q → q ≤ 3 → (swi s q = 0 ∨ swi s q = 8 ∨ swi s q = 16 ∨ swi s q = 32) ∧ (0 ≤ ssz s q ∧ ssz s q ≤ 24)
def WfS (s : St) : Prop := WfN (sn s) ∧ (sim s ≠ 0 → WfN (sk s)) ∧ True ∧ wSht s ∧ (0 ≤ stc s ∧ stc s ≤ 40)
def cCal (n wet dry : Int → Int) (rny wk pw : Int) : Prop := wk = n 1 ∧ pw = pc7 (n 1) 7 ∧ (∀ d, 0 ≤ d → d < 900 → (wb wet d = true ↔ n (1033 + d) = 1)) ∧ (∀ d : Nat, d ≤ 900 → dry d = dcn n d) ∧ rny = rsm n 900
def cWrk (n kd ln fi : Int → Int) (wc : Int) : Prop := wc = n 2 ∧ ∀ w, 0 ≤ w → w < n 2 → kd w = n (10 + 3 * w) ∧ ln w = n (11 + 3 * w) ∧ fi w = n (12 + 3 * w)
def cLnk (n bf lg od : Int → Int) (lc : Int) : Prop := lc = n 3 ∧ (∀ w, 0 ≤ w → w < n 2 → (0 ≤ bf w ∧ bf w < 65536) ∧ ∀ i : Nat, (hb (bf w) i = true ↔ lnk n i w)) ∧ (∀ k, 0 ≤ k → k < n 3 → lg (n (58 + 3 * k) * 16 + n (59 + 3 * k)) = n (60 + 3 * k)) ∧ topo n od
def cEvt (n ew ec ed em en et eb : Int → Int) (evc : Int) : Prop := evc = n 4 ∧ ∀ e, 0 ≤ e → e < n 4 → ew e = n (148 + 7 * e) ∧ ec e = n (149 + 7 * e) ∧ ed e = n (150 + 7 * e) ∧ em e = n (151 + 7 * e) ∧ en e = n (152 + 7 * e) ∧ et e = n (153 + 7 * e) ∧ eb e = n (154 + 7 * e)
def cTap (n tp : Int → Int) (fed : Int) : Prop := fed = n 7 ∧ ∀ i, 0 ≤ i → i < n 7 → bAnd (tp i) 255 = n (1933 + i)
def cCls (n tx cs cu cf : Int → Int) (cc : Int) : Prop := cc = n 5 ∧ ∀ c, 0 ≤ c → c < n 5 → cu c = n (288 + 73 * c) ∧ cf c = n (289 + 73 * c) ∧ Tx (fun i => if 0 ≤ i ∧ i < 60 then bAnd (tx (c * 60 + i)) 255 else 0) (cs c) (fun k => n (291 + 73 * c + k)) (n (290 + 73 * c))
def cHst (n hw hm hp : Int → Int) (hc : Int) : Prop := hc = n 6 ∧ ∀ h, 0 ≤ h → h < n 6 → hw h = n (1018 + 3 * h) ∧ hm h = n (1019 + 3 * h) ∧ hp h = n (1020 + 3 * h)
/-- the live Site -/
def site0 (n : Int → Int) (M : Mm) : Prop := gI M 1 5 = n 0 ∧ cCal n (gL M 3) (gI M 4) (gI M 2 2) (gI M 2 3) (gI M 2 4) ∧ cWrk n (gI M 6) (gI M 7) (gI M 8) (gI M 5 6) ∧ cLnk n (gI M 9) (gI M 10) (gI M 11) (gI M 5 7) ∧ cEvt n (gI M 13) (gI M 14) (gI M 15) (gI M 16) (gI M 17) (gI M 18) (gI M 19) (gI M 12 7) ∧ cTap n (gI M 21) (gI M 20 5) ∧ cCls n (gI M 22) (gI M 23) (gI M 24) (gI M 25) (gI M 20 6) ∧ cHst n (gI M 27) (gI M 28) (gI M 29) (gI M 26 3)
/-- the kept one -/
def site1 (n : Int → Int) (M : Mm) : Prop := gI M 30 5 = n 0 ∧ cCal n (gL M 32) (gI M 33) (gI M 31 2) (gI M 31 3) (gI M 31 4) ∧ cWrk n (gI M 35) (gI M 36) (gI M 37) (gI M 34 6) ∧ cLnk n (gI M 38) (gI M 39) (gI M 40) (gI M 34 7) ∧ cEvt n (gI M 42) (gI M 43) (gI M 44) (gI M 45) (gI M 46) (gI M 47) (gI M 48) (gI M 41 7) ∧ cTap n (gI M 50) (gI M 49 5) ∧ cCls n (gI M 51) (gI M 52) (gI M 53) (gI M 54) (gI M 49 6) ∧ cHst n (gI M 56) (gI M 57) (gI M 58) (gI M 55 3)
/-- a sheet: its object's cell and its row's -/
def shR (s : St) (q : Int) (ob rw : Nat) (M : Mm) : Prop := gI M ob 1 = swi s q ∧ gI M ob 2 = ssz s q ∧ ∀ i, 0 ≤ i → i < 24 → gI M rw i = snu s (24 * q + i)
def CI (s : St) (M : Mm) : Prop := RefOK M ∧ site0 (sn s) M ∧ (sim s ≠ 0 → site1 (sk s) M) ∧ gI M 0 9 = sim s ∧ (∀ k, 1 ≤ k → k ≤ 5 → gI M 69 k = sfd s k) ∧ (shR s 0 72 73 M ∧ shR s 1 74 75 M ∧ shR s 2 76 77 M ∧ shR s 3 78 79 M) ∧ (gI M 66 1 = stc s ∧ ∀ i, 0 ≤ i → i < stc s → gI M 67 i = str s i) ∧ ((∀ i, 0 ≤ i → i < 6 → gI M 1001 i = (if i = 0 then -1 else if i = 3 ∨ i = 5 then 2 else 0)) ∧ gI M 1002 0 = 10 ∧ gI M 1002 1 = 11 ∧ gI M 1002 2 = 12 ∧ gI M 1002 3 = 13 ∧ gI M 1002 4 = 0 ∧ gI M 1002 5 = 20 ∧ gI M 1002 6 = 0 ∧ gI M 1002 7 = 0 ∧ gI M 1002 8 = 30 ∧ gI M 1002 9 = 0 ∧ gI M 1002 10 = 0 ∧ gI M 1002 11 = 31 ∧ gI M 1002 12 = 41 ∧ gI M 1002 13 = 0 ∧ gI M 1002 14 = 40 ∧ gI M 1002 15 = 0 ∧ gI M 1002 16 = 0 ∧ gI M 1002 17 = 0 ∧ gI M 1002 18 = 0 ∧ gI M 1002 19 = 50 ∧ gI M 1002 20 = 0 ∧ gI M 1002 21 = 61 ∧ gI M 1002 22 = 60 ∧ gI M 1002 23 = 0)
/-- what the reference remembers between calls is right -/
def rCac (n : Int → Int) (M : Mm) : Prop := (gI M 80 13 = 0 ∨ (gI M 80 13 = 1 ∧ topo n (gI M 91))) ∧ ∀ w, 0 ≤ w → w < n 2 → gI M 92 w < 0 ∨ gI M 92 w = flt n 0 w
def RI (s : St) (M : Mm) : Prop := RefOK M ∧ gI M 81 = sn s ∧ gI M 82 = sk s ∧ gI M 80 2 = sim s ∧ gI M 83 = sfd s ∧ gI M 84 = swi s ∧ gI M 85 = ssz s ∧ gI M 86 = snu s ∧ gI M 87 = str s ∧ gI M 80 8 = stc s ∧ rCac (sn s) M
/-- the reference's cells and the script are as they were -/
def FrC (M M' : Mm) : Prop := ∀ a i, 80 ≤ a → gI M' a i = gI M a i
/-- the class's cells and the script are as they were -/
def FrR (M M' : Mm) : Prop := ∀ a i, (a < 80 ∨ 99 ≤ a) → gI M' a i = gI M a i ∧ gL M' a i = gL M a i
theorem CI.fr {s : St} {M M' : Mm} (h : CI s M) (hf : FrR M M') (hS : RefOK M') : CI s M' := by
  have e : ∀ a : Nat, (a < 80 ∨ 99 ≤ a) → gI M' a = gI M a := fun a ha => funext fun i => (hf a i ha).1
  have e2 : ∀ a : Nat, (a < 80 ∨ 99 ≤ a) → gL M' a = gL M a := fun a ha => funext fun i => (hf a i ha).2
  unfold CI site0 site1 shR at h ⊢
  simp only [e 0 (by decide), e 1 (by decide), e 2 (by decide), e 4 (by decide), e 5 (by decide), e 6 (by decide), e 7 (by decide), e 8 (by decide), e 9 (by decide), e 10 (by decide), e 11 (by decide), e 12 (by decide), e 13 (by decide), e 14 (by decide), e 15 (by decide), e 16 (by decide), e 17 (by decide), e 18 (by decide), e 19 (by decide), e 20 (by decide), e 21 (by decide), e 22 (by decide), e 23 (by decide), e 24 (by decide), e 25 (by decide), e 26 (by decide), e 27 (by decide), e 28 (by decide), e 29 (by decide), e 30 (by decide), e 31 (by decide), e 33 (by decide), e 34 (by decide), e 35 (by decide), e 36 (by decide), e 37 (by decide), e 38 (by decide), e 39 (by decide), e 40 (by decide), e 41 (by decide), e 42 (by decide), e 43 (by decide), e 44 (by decide), e 45 (by decide), e 46 (by decide), e 47 (by decide), e 48 (by decide), e 49 (by decide), e 50 (by decide), e 51 (by decide), e 52 (by decide), e 53 (by decide), e 54 (by decide), e 55 (by decide), e 56 (by decide), e 57 (by decide), e 58 (by decide), e 66 (by decide), e 67 (by decide), e 69 (by decide), e 72 (by decide), e 73 (by decide), e 74 (by decide), e 75 (by decide), e 76 (by decide), e 77 (by decide), e 78 (by decide), e 79 (by decide), e 1001 (by decide), e 1002 (by decide), e2 3 (by decide), e2 32 (by decide)]
  exact ⟨hS, h.2⟩
theorem RI.fr {s : St} {M M' : Mm} (h : RI s M) (hf : FrC M M') (hS : RefOK M') : RI s M' := by
  have e : ∀ a : Nat, 80 ≤ a → gI M' a = gI M a := fun a ha => funext fun i => hf a i ha
  unfold RI rCac at h ⊢
  simp only [e 80 (by decide), e 81 (by decide), e 82 (by decide), e 83 (by decide), e 84 (by decide), e 85 (by decide), e 86 (by decide), e 87 (by decide), e 91 (by decide), e 92 (by decide)]
  exact ⟨hS, h.2⟩
