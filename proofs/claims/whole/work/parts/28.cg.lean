/-! ===== the parts of 'now' stay, where what they speak of stays ===== -/
section CG
variable {n n' : Int → Int}
theorem wkd_cg (e1 : n' 1 = n 1) (d : Int) : wkd n' d = wkd n d := by unfold wkd; rw [e1]
theorem dcn_cg (e1 : n' 1 = n 1) (e : ∀ i, 1033 ≤ i → i < 1933 → n' i = n i) : ∀ k : Nat, k ≤ 900 → dcn n' k = dcn n k
  | 0, _ => rfl
  | k + 1, h => by
    unfold dcn
    rw [dcn_cg e1 e k (by omega), wkd_cg e1, e (1033 + (k : Int)) (by omega) (by omega)]
theorem rsm_cg (e : ∀ i, 1033 ≤ i → i < 1933 → n' i = n i) : ∀ k : Nat, k ≤ 900 → rsm n' k = rsm n k
  | 0, _ => rfl
  | k + 1, h => by
    unfold rsm
    rw [rsm_cg e k (by omega), e (1033 + (k : Int)) (by omega) (by omega)]
theorem lnk_cg (e3 : n' 3 = n 3) (hn : n 3 ≤ 30) (e : ∀ i, 58 ≤ i → i < 148 → n' i = n i) (i j : Int) : lnk n' i j ↔ lnk n i j := by
  unfold lnk
  rw [e3]
  constructor
  · rintro ⟨k, h1, h2, h3, h4⟩
    exact ⟨k, h1, h2, by rw [← e (58 + 3 * k) (by omega) (by omega)]; exact h3, by rw [← e (59 + 3 * k) (by omega) (by omega)]; exact h4⟩
  · rintro ⟨k, h1, h2, h3, h4⟩
    exact ⟨k, h1, h2, by rw [e (58 + 3 * k) (by omega) (by omega)]; exact h3, by rw [e (59 + 3 * k) (by omega) (by omega)]; exact h4⟩
theorem wDay.cg (h : wDay n) (e : n' 0 = n 0) : wDay n' := by unfold wDay at *; rw [e]; exact h
theorem wCal.cg (h : wCal n) (e1 : n' 1 = n 1) (e : ∀ i, 1033 ≤ i → i < 1933 → n' i = n i) : wCal n' := by
  unfold wCal at *
  rw [e1]
  exact ⟨h.1, fun d h1 h2 => by rw [e (1033 + d) (by omega) (by omega)]; exact h.2 d h1 h2⟩
theorem wWrk.cg (h : wWrk n) (e2 : n' 2 = n 2) (e : ∀ i, 10 ≤ i → i < 58 → n' i = n i) : wWrk n' := by
  unfold wWrk at *
  rw [e2]
  exact ⟨h.1, fun w h1 h2 => by rw [e (10 + 3 * w) (by omega) (by omega), e (11 + 3 * w) (by omega) (by omega), e (12 + 3 * w) (by omega) (by omega)]; exact h.2 w h1 h2⟩
theorem wLnk.cg (h : wLnk n) (e2 : n' 2 = n 2) (e3 : n' 3 = n 3) (e : ∀ i, 58 ≤ i → i < 148 → n' i = n i) : wLnk n' := by
  have hl := fun i j => lnk_cg e3 h.1.2 e i j
  unfold wLnk at *
  obtain ⟨h1, h2, h3, rk, h4, h5⟩ := h
  rw [e2, e3]
  refine ⟨h1, fun k k1 k2 => ?_, fun j k j1 j2 k1 k2 => ?_, rk, h4, fun i j q => h5 i j ((hl i j).mp q)⟩
  · rw [e (58 + 3 * k) (by omega) (by omega), e (59 + 3 * k) (by omega) (by omega), e (60 + 3 * k) (by omega) (by omega)]
    exact h2 k k1 k2
  · rw [e (58 + 3 * k) (by omega) (by omega), e (59 + 3 * k) (by omega) (by omega), e (58 + 3 * j) (by omega) (by omega), e (59 + 3 * j) (by omega) (by omega)]
    exact h3 j k j1 j2 k1 k2
theorem wEvt.cg (h : wEvt n) (e0 : n' 0 = n 0) (e2 : n' 2 = n 2) (e4 : n' 4 = n 4) (e : ∀ i, 148 ≤ i → i < 288 → n' i = n i) : wEvt n' := by
  unfold wEvt at *
  rw [e0, e2, e4]
  refine ⟨h.1, fun q h1 h2 => ?_⟩
  rw [e (148 + 7 * q) (by omega) (by omega), e (149 + 7 * q) (by omega) (by omega), e (150 + 7 * q) (by omega) (by omega), e (151 + 7 * q) (by omega) (by omega), e (152 + 7 * q) (by omega) (by omega), e (153 + 7 * q) (by omega) (by omega), e (154 + 7 * q) (by omega) (by omega)]
  exact h.2 q h1 h2
theorem wTap.cg (h : wTap n) (e7 : n' 7 = n 7) (e : ∀ i, 1933 ≤ i → i < 1993 → n' i = n i) : wTap n' := by
  unfold wTap at *
  rw [e7]
  exact ⟨h.1, fun i h1 h2 => by rw [e (1933 + i) (by omega) (by omega)]; exact h.2 i h1 h2⟩
theorem pNum_len (t : Int → Int) (len : Int) : ∀ (k : Nat) (v : Int) (s : PS), (pNum t len k v s).1.2.2.2 = s.2.2.2
  | 0, _, _ => rfl
  | k + 1, v, s => by
    unfold pNum
    split
    · rw [pNum_len t len k]
      rfl
    · rfl
theorem Tx.cg {t : Int → Int} {len size : Int} {cd cd' : Int → Int} (h : Tx t len cd size) (e : ∀ k : Nat, (k : Int) < size → cd' k = cd k) : Tx t len cd' size := ⟨h.1, h.2.1, h.2.2.1, h.2.2.2.1, fun k hk => by rw [e k hk]; exact h.2.2.2.2 k hk⟩
theorem wHst.cg (h : wHst n) (e2 : n' 2 = n 2) (e6 : n' 6 = n 6) (hn : n 2 ≤ 16) (e : ∀ i, 1018 ≤ i → i < 1033 → n' i = n i) (ew : ∀ i, 10 ≤ i → i < 58 → n' i = n i) : wHst n' := by
  unfold wHst at *
  rw [e2, e6]
  refine ⟨h.1, fun q h1 h2 => ?_, fun g q g1 g2 q1 q2 => ?_⟩
  · have hh := h.2.1 q h1 h2
    rw [e (1018 + 3 * q) (by omega) (by omega), e (1019 + 3 * q) (by omega) (by omega), e (1020 + 3 * q) (by omega) (by omega), ew (11 + 3 * n (1018 + 3 * q)) (by omega) (by omega)]
    exact hh
  · rw [e (1018 + 3 * q) (by omega) (by omega), e (1018 + 3 * g) (by omega) (by omega)]
    exact h.2.2 g q g1 g2 q1 q2
theorem cCal.cg {wet dry : Int → Int} {rny wk pw : Int} (h : cCal n wet dry rny wk pw) (e1 : n' 1 = n 1) (e : ∀ i, 1033 ≤ i → i < 1933 → n' i = n i) : cCal n' wet dry rny wk pw := by
  unfold cCal at *
  rw [e1]
  exact ⟨h.1, h.2.1, fun d h1 h2 => by rw [e (1033 + d) (by omega) (by omega)]; exact h.2.2.1 d h1 h2, fun d hd => by rw [dcn_cg e1 e d hd]; exact h.2.2.2.1 d hd, by rw [rsm_cg e 900 (by omega)]; exact h.2.2.2.2⟩
theorem cWrk.cg {kd ln fi : Int → Int} {wc : Int} (h : cWrk n kd ln fi wc) (hn : n 2 ≤ 16) (e2 : n' 2 = n 2) (e : ∀ i, 10 ≤ i → i < 58 → n' i = n i) : cWrk n' kd ln fi wc := by
  unfold cWrk at *
  rw [e2]
  exact ⟨h.1, fun w h1 h2 => by rw [e (10 + 3 * w) (by omega) (by omega), e (11 + 3 * w) (by omega) (by omega), e (12 + 3 * w) (by omega) (by omega)]; exact h.2 w h1 h2⟩
theorem topo_cg {od : Int → Int} (h : topo n od) (hn : n 3 ≤ 30) (e2 : n' 2 = n 2) (e3 : n' 3 = n 3) (e : ∀ i, 58 ≤ i → i < 148 → n' i = n i) : topo n' od := by
  unfold topo at *
  rw [e2]
  exact ⟨h.1, h.2.1, fun p q a b c d l => h.2.2 p q a b c d ((lnk_cg e3 hn e _ _).mp l)⟩
theorem cLnk.cg {bf lg od : Int → Int} {lc : Int} (h : cLnk n bf lg od lc) (hn : n 3 ≤ 30) (e2 : n' 2 = n 2) (e3 : n' 3 = n 3) (e : ∀ i, 58 ≤ i → i < 148 → n' i = n i) : cLnk n' bf lg od lc := by
  have hl := fun i j => lnk_cg e3 hn e i j
  unfold cLnk at *
  rw [e2, e3]
  refine ⟨h.1, fun w h1 h2 => ⟨(h.2.1 w h1 h2).1, fun i => ((h.2.1 w h1 h2).2 i).trans (hl i w).symm⟩, fun k k1 k2 => ?_, topo_cg h.2.2.2 hn e2 e3 e⟩
  rw [e (58 + 3 * k) (by omega) (by omega), e (59 + 3 * k) (by omega) (by omega), e (60 + 3 * k) (by omega) (by omega)]
  exact h.2.2.1 k k1 k2
theorem cEvt.cg {ew ec ed em en et eb : Int → Int} {evc : Int} (h : cEvt n ew ec ed em en et eb evc) (hn : n 4 ≤ 20) (e4 : n' 4 = n 4) (e : ∀ i, 148 ≤ i → i < 288 → n' i = n i) : cEvt n' ew ec ed em en et eb evc := by
  unfold cEvt at *
  rw [e4]
  refine ⟨h.1, fun q h1 h2 => ?_⟩
  rw [e (148 + 7 * q) (by omega) (by omega), e (149 + 7 * q) (by omega) (by omega), e (150 + 7 * q) (by omega) (by omega), e (151 + 7 * q) (by omega) (by omega), e (152 + 7 * q) (by omega) (by omega), e (153 + 7 * q) (by omega) (by omega), e (154 + 7 * q) (by omega) (by omega)]
  exact h.2 q h1 h2
theorem cTap.cg {tp : Int → Int} {fed : Int} (h : cTap n tp fed) (hn : n 7 ≤ 60) (e7 : n' 7 = n 7) (e : ∀ i, 1933 ≤ i → i < 1993 → n' i = n i) : cTap n' tp fed := by
  unfold cTap at *
  rw [e7]
  exact ⟨h.1, fun i h1 h2 => by rw [e (1933 + i) (by omega) (by omega)]; exact h.2 i h1 h2⟩
theorem cHst.cg {hw hm hp : Int → Int} {hc : Int} (h : cHst n hw hm hp hc) (hn : n 6 ≤ 5) (e6 : n' 6 = n 6) (e : ∀ i, 1018 ≤ i → i < 1033 → n' i = n i) : cHst n' hw hm hp hc := by
  unfold cHst at *
  rw [e6]
  refine ⟨h.1, fun q h1 h2 => ?_⟩
  rw [e (1018 + 3 * q) (by omega) (by omega), e (1019 + 3 * q) (by omega) (by omega), e (1020 + 3 * q) (by omega) (by omega)]
  exact h.2 q h1 h2
end CG
