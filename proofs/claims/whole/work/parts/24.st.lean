/-! ===== the state, as the reference has it; what both sides keep ===== -/
/-- now, kept, images, found, widths, sizes, numbers, trace, traced -/
abbrev St : Type := (Int → Int) × (Int → Int) × Int × (Int → Int) × (Int → Int) × (Int → Int) × (Int → Int) × (Int → Int) × Int
def sn (s : St) : Int → Int := s.1
def sk (s : St) : Int → Int := s.2.1
def sim (s : St) : Int := s.2.2.1
def sfd (s : St) : Int → Int := s.2.2.2.1
def swi (s : St) : Int → Int := s.2.2.2.2.1
def ssz (s : St) : Int → Int := s.2.2.2.2.2.1
def snu (s : St) : Int → Int := s.2.2.2.2.2.2.1
def str (s : St) : Int → Int := s.2.2.2.2.2.2.2.1
def stc (s : St) : Int := s.2.2.2.2.2.2.2.2
def up (f : Int → Int) (i v : Int) : Int → Int := fun j => if j = i then v else f j
theorem up_s {f : Int → Int} {i v : Int} : up f i v i = v := if_pos rfl
theorem up_n {f : Int → Int} {i j v : Int} (h : j ≠ i) : up f i v j = f j := if_neg h
/-- with another 'now' -/
def wN (s : St) (n : Int → Int) : St := (n, s.2)
/-- a finding LOW - k -/
def fnd (s : St) (k : Int) : St × Int := ((s.1, s.2.1, s.2.2.1, up (sfd s) k (wr (sfd s k + 1)), s.2.2.2.2), -1000000 - k)
theorem gI_up {M : Mm} {a : Nat} {i v : Int} : gI (sI M a i v) a = up (gI M a) i v := by
  funext j
  show (if a = a ∧ j = i then v else gI M a j) = if j = i then v else gI M a j
  by_cases h : j = i <;> simp [h]
theorem gI_ot {M : Mm} {a b : Nat} {i v : Int} (h : b ≠ a) : gI (sI M a i v) b = gI M b := by
  funext j
  exact gI_n (Or.inl h)
/-! parts of 'now' -/
/-- is day d of the week -/
def wkd (n : Int → Int) (d : Int) : Bool := hb (n 1) (d % 7)
/-- a link from i to j -/
def lnk (n : Int → Int) (i j : Int) : Prop := ∃ k, 0 ≤ k ∧ k < n 3 ∧ n (58 + 3 * k) = i ∧ n (59 + 3 * k) = j
def wDay (n : Int → Int) : Prop := 0 ≤ n 0 ∧ n 0 ≤ 900
def wCal (n : Int → Int) : Prop := (1 ≤ n 1 ∧ n 1 ≤ 127) ∧ ∀ d, 0 ≤ d → d < 900 → n (1033 + d) = 0 ∨ n (1033 + d) = 1
def wWrk (n : Int → Int) : Prop := (0 ≤ n 2 ∧ n 2 ≤ 16) ∧ ∀ w, 0 ≤ w → w < n 2 → (0 ≤ n (10 + 3 * w) ∧ n (10 + 3 * w) ≤ 5) ∧ (1 ≤ n (11 + 3 * w) ∧ n (11 + 3 * w) ≤ 40) ∧ (1 ≤ n (12 + 3 * w) ∧ n (12 + 3 * w) ≤ 40)
def wLnk (n : Int → Int) : Prop := (0 ≤ n 3 ∧ n 3 ≤ 30) ∧ (∀ k, 0 ≤ k → k < n 3 → (0 ≤ n (58 + 3 * k) ∧ n (58 + 3 * k) < n 2) ∧ (0 ≤ n (59 + 3 * k) ∧ n (59 + 3 * k) < n 2) ∧ (0 ≤ n (60 + 3 * k) ∧ n (60 + 3 * k) ≤ 20)) ∧
  (∀ j k, 0 ≤ j → j < n 3 → 0 ≤ k → k < n 3 → n (58 + 3 * j) = n (58 + 3 * k) → n (59 + 3 * j) = n (59 + 3 * k) → j = k) ∧ ∃ rk : Int → Int, (∀ w, 0 ≤ rk w ∧ rk w < 16) ∧ ∀ i j, lnk n i j → rk i < rk j
def wEvt (n : Int → Int) : Prop := (0 ≤ n 4 ∧ n 4 ≤ 20) ∧ ∀ e, 0 ≤ e → e < n 4 → (0 ≤ n (148 + 7 * e) ∧ n (148 + 7 * e) < n 2) ∧ (0 ≤ n (149 + 7 * e) ∧ n (149 + 7 * e) ≤ 3) ∧ (0 ≤ n (150 + 7 * e) ∧ n (150 + 7 * e) ≤ n (153 + 7 * e)) ∧ (1 ≤ n (151 + 7 * e) ∧ n (151 + 7 * e) ≤ 30) ∧ (n (152 + 7 * e) = -1 ∨ (n (150 + 7 * e) ≤ n (152 + 7 * e) ∧ n (152 + 7 * e) ≤ n 0)) ∧ (0 ≤ n (153 + 7 * e) ∧ n (153 + 7 * e) ≤ n 0) ∧ (n (154 + 7 * e) = -1 ∨ (n (153 + 7 * e) < n (154 + 7 * e) ∧ n (154 + 7 * e) ≤ n 0))
def wTap (n : Int → Int) : Prop := (0 ≤ n 7 ∧ n 7 ≤ 60) ∧ ∀ i, 0 ≤ i → i < n 7 → 0 ≤ n (1933 + i) ∧ n (1933 + i) ≤ 255
def wHst (n : Int → Int) : Prop := (0 ≤ n 6 ∧ n 6 ≤ 5) ∧ (∀ h, 0 ≤ h → h < n 6 → (0 ≤ n (1018 + 3 * h) ∧ n (1018 + 3 * h) < n 2) ∧ (1 ≤ n (1019 + 3 * h) ∧ n (1019 + 3 * h) ≤ 2) ∧ (1 ≤ n (1020 + 3 * h) ∧ n (1020 + 3 * h) ≤ 999) ∧ n (1019 + 3 * h) < n (11 + 3 * n (1018 + 3 * h))) ∧ ∀ g h, 0 ≤ g → g < n 6 → 0 ≤ h → h < n 6 → n (1018 + 3 * g) = n (1018 + 3 * h) → g = h
