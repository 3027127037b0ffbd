/-! ===== whole weeks at once ===== -/
section WK
variable {n : Int → Int}
theorem cE_f {kd : Int} (wc : 1 ≤ n 1 ∧ n 1 ≤ 127) : ∀ (f : Nat) (left day : Int), 0 ≤ day → enough n f left day → cE n kd (f + 1) left day = cE n kd f left day
  | 0, left, day, _, h => by
    unfold cE
    rw [if_pos (enough_0 h)]
  | f + 1, left, day, d0, h => by
    have ih := cE_f (kd := kd) wc f (if goe n kd day = true then left - 1 else left) (day + 1) (by omega) (enough_1 wc d0 h)
    unfold cE
    split
    · rfl
    · exact ih
theorem enough_m {f : Nat} {left day : Int} (h : enough n f left day) (d : Nat) : enough n (f + d) left day := by
  rcases h with h | ⟨h1, h2⟩ | ⟨h1, e, e1, e2, e3⟩
  · exact Or.inl h
  · exact Or.inr (Or.inl ⟨h1, by omega⟩)
  · exact Or.inr (Or.inr ⟨h1, e, e1, e2, by omega⟩)
theorem cE_fs {kd : Int} (wc : 1 ≤ n 1 ∧ n 1 ≤ 127) {f : Nat} {left day : Int} (d0 : 0 ≤ day) (h : enough n f left day) : ∀ d : Nat, cE n kd (f + d) left day = cE n kd f left day
  | 0 => rfl
  | d + 1 => (cE_f wc (f + d) left day d0 (enough_m h d)).trans (cE_fs wc d0 h d)
theorem cE_ff {kd : Int} (wc : 1 ≤ n 1 ∧ n 1 ≤ 127) {f g : Nat} {left day : Int} (d0 : 0 ≤ day) (h : enough n f left day) (h' : enough n g left day) : cE n kd f left day = cE n kd g left day := by
  by_cases c : f ≤ g
  · have := cE_fs (kd := kd) wc d0 h (g - f)
    rw [show f + (g - f) = g by omega] at this
    exact this.symm
  · have := cE_fs (kd := kd) wc d0 h' (f - g)
    rw [show g + (f - g) = f by omega] at this
    exact this
/-- 1 or 0 -/
def wk1 (n : Int → Int) (d : Int) : Int := if wkd n d = true then 1 else 0
theorem wk1_b (d : Int) : 0 ≤ wk1 n d ∧ wk1 n d ≤ 1 := by
  unfold wk1
  split <;> omega
theorem wk1_7 (d : Int) (k : Int) (h : k = d % 7) : wk1 n d = if hb (n 1) k = true then 1 else 0 := by
  unfold wk1 wkd
  rw [h]
theorem wk_sum (d : Int) : wk1 n d + wk1 n (d + 1) + wk1 n (d + 2) + wk1 n (d + 3) + wk1 n (d + 4) + wk1 n (d + 5) + wk1 n (d + 6) = pc7 (n 1) 7 := by
  have hp : pc7 (n 1) 7 = 0 + (if hb (n 1) 0 = true then 1 else 0) + (if hb (n 1) 1 = true then 1 else 0) + (if hb (n 1) 2 = true then 1 else 0) + (if hb (n 1) 3 = true then 1 else 0) + (if hb (n 1) 4 = true then 1 else 0) + (if hb (n 1) 5 = true then 1 else 0) + (if hb (n 1) 6 = true then 1 else 0) := rfl
  rw [hp]
  have h7 : d % 7 = 0 ∨ d % 7 = 1 ∨ d % 7 = 2 ∨ d % 7 = 3 ∨ d % 7 = 4 ∨ d % 7 = 5 ∨ d % 7 = 6 := by omega
  rcases h7 with h | h | h | h | h | h | h
  · rw [wk1_7 d 0 (by omega), wk1_7 (d + 1) 1 (by omega), wk1_7 (d + 2) 2 (by omega), wk1_7 (d + 3) 3 (by omega), wk1_7 (d + 4) 4 (by omega), wk1_7 (d + 5) 5 (by omega), wk1_7 (d + 6) 6 (by omega)]
    omega
  · rw [wk1_7 d 1 (by omega), wk1_7 (d + 1) 2 (by omega), wk1_7 (d + 2) 3 (by omega), wk1_7 (d + 3) 4 (by omega), wk1_7 (d + 4) 5 (by omega), wk1_7 (d + 5) 6 (by omega), wk1_7 (d + 6) 0 (by omega)]
    omega
  · rw [wk1_7 d 2 (by omega), wk1_7 (d + 1) 3 (by omega), wk1_7 (d + 2) 4 (by omega), wk1_7 (d + 3) 5 (by omega), wk1_7 (d + 4) 6 (by omega), wk1_7 (d + 5) 0 (by omega), wk1_7 (d + 6) 1 (by omega)]
    omega
  · rw [wk1_7 d 3 (by omega), wk1_7 (d + 1) 4 (by omega), wk1_7 (d + 2) 5 (by omega), wk1_7 (d + 3) 6 (by omega), wk1_7 (d + 4) 0 (by omega), wk1_7 (d + 5) 1 (by omega), wk1_7 (d + 6) 2 (by omega)]
    omega
  · rw [wk1_7 d 4 (by omega), wk1_7 (d + 1) 5 (by omega), wk1_7 (d + 2) 6 (by omega), wk1_7 (d + 3) 0 (by omega), wk1_7 (d + 4) 1 (by omega), wk1_7 (d + 5) 2 (by omega), wk1_7 (d + 6) 3 (by omega)]
    omega
  · rw [wk1_7 d 5 (by omega), wk1_7 (d + 1) 6 (by omega), wk1_7 (d + 2) 0 (by omega), wk1_7 (d + 3) 1 (by omega), wk1_7 (d + 4) 2 (by omega), wk1_7 (d + 5) 3 (by omega), wk1_7 (d + 6) 4 (by omega)]
    omega
  · rw [wk1_7 d 6 (by omega), wk1_7 (d + 1) 0 (by omega), wk1_7 (d + 2) 1 (by omega), wk1_7 (d + 3) 2 (by omega), wk1_7 (d + 4) 3 (by omega), wk1_7 (d + 5) 4 (by omega), wk1_7 (d + 6) 5 (by omega)]
    omega
/-- a day that goes by the week alone -/
theorem cE_1 {kd : Int} {f : Nat} {left day : Int} (hk : goe n kd day = wkd n day) (hl : 0 < left) : cE n kd (f + 1) left day = cE n kd f (left - wk1 n day) (day + 1) := by
  rw [show cE n kd (f + 1) left day = if left ≤ 0 then day else cE n kd f (if goe n kd day = true then left - 1 else left) (day + 1) from rfl, if_neg (by omega), hk]
  unfold wk1
  by_cases c : wkd n day = true
  · rw [if_pos c, if_pos c]
  · rw [if_neg c, if_neg c, Int.sub_zero]
theorem cE_7 {kd : Int} {f : Nat} {left day : Int} (hk : ∀ d, day ≤ d → goe n kd d = wkd n d) (hl : pc7 (n 1) 7 < left) : cE n kd (f + 7) left day = cE n kd f (left - pc7 (n 1) 7) (day + 7) := by
  have b0 := wk1_b (n := n) day
  have b1 := wk1_b (n := n) (day + 1)
  have b2 := wk1_b (n := n) (day + 2)
  have b3 := wk1_b (n := n) (day + 3)
  have b4 := wk1_b (n := n) (day + 4)
  have b5 := wk1_b (n := n) (day + 5)
  have b6 := wk1_b (n := n) (day + 6)
  have sm := wk_sum (n := n) day
  rw [show f + 7 = (f + 6) + 1 from rfl, cE_1 (hk _ (by omega)) (by omega), show f + 6 = (f + 5) + 1 from rfl, cE_1 (hk _ (by omega)) (by omega), show day + 1 + 1 = day + 2 by omega, show f + 5 = (f + 4) + 1 from rfl, cE_1 (hk _ (by omega)) (by omega), show day + 2 + 1 = day + 3 by omega, show f + 4 = (f + 3) + 1 from rfl, cE_1 (hk _ (by omega)) (by omega), show day + 3 + 1 = day + 4 by omega, show f + 3 = (f + 2) + 1 from rfl, cE_1 (hk _ (by omega)) (by omega), show day + 4 + 1 = day + 5 by omega, show f + 2 = (f + 1) + 1 from rfl, cE_1 (hk _ (by omega)) (by omega), show day + 5 + 1 = day + 6 by omega, cE_1 (hk _ (by omega)) (by omega), show day + 6 + 1 = day + 7 by omega]
  congr 1
  omega
end WK
