/-! ===== Days.byWeek ===== -/
section BW
variable {n : Int → Int} {M : Mm} {Q : Mm → Option Mv → Prop}
/-- how many of the k days from d on are of the week -/
def sw (n : Int → Int) : Nat → Int → Int
  | 0, _ => 0
  | k + 1, d => wk1 n d + sw n k (d + 1)
theorem cE_0 {kd : Int} {left day : Int} (h : left ≤ 0) : ∀ d : Nat, cE n kd d left day = day
  | 0 => rfl
  | _ + 1 => if_pos h
theorem cE_sw {kd : Int} : ∀ (k : Nat) (left day : Int), (∀ d, day ≤ d → goe n kd d = wkd n d) → left ≤ sw n k day → ∀ d : Nat, cE n kd (k + d) left day = cE n kd k left day
  | 0, left, day, _, h, d => by
    rw [cE_0 h, cE_0 h]
  | k + 1, left, day, hk, h, d => by
    by_cases c : left ≤ 0
    · rw [cE_0 c, cE_0 c]
    · have h' : left ≤ wk1 n day + sw n k (day + 1) := h
      rw [show k + 1 + d = (k + d) + 1 by omega, cE_1 (hk _ (Int.le_refl _)) (by omega), cE_1 (hk _ (Int.le_refl _)) (by omega)]
      exact cE_sw k _ _ (fun d hd => hk d (by omega)) (by omega) d
theorem sw_7 (d : Int) : sw n 7 d = pc7 (n 1) 7 := by
  rw [← wk_sum d]
  show wk1 n d + (wk1 n (d + 1) + (wk1 n (d + 1 + 1) + (wk1 n (d + 1 + 1 + 1) + (wk1 n (d + 1 + 1 + 1 + 1) + (wk1 n (d + 1 + 1 + 1 + 1 + 1) + (wk1 n (d + 1 + 1 + 1 + 1 + 1 + 1) + 0)))))) = _
  rw [show d + 1 + 1 = d + 2 by omega, show d + 2 + 1 = d + 3 by omega, show d + 3 + 1 = d + 4 by omega, show d + 4 + 1 = d + 5 by omega, show d + 5 + 1 = d + 6 by omega]
  omega
theorem cE_wk {kd : Int} {day : Int} (hk : ∀ d, day ≤ d → goe n kd d = wkd n d) : ∀ (k f : Nat) (left : Int), (k : Int) * pc7 (n 1) 7 < left → (0 ≤ pc7 (n 1) 7) → cE n kd (f + 7 * k) left day = cE n kd f (left - k * pc7 (n 1) 7) (day + 7 * k)
  | 0, f, left, _, _ => by
    rw [show left - ((0 : Nat) : Int) * pc7 (n 1) 7 = left by rw [show ((0 : Nat) : Int) = 0 from rfl, Int.zero_mul]; omega, show day + 7 * ((0 : Nat) : Int) = day by omega]
    rfl
  | k + 1, f, left, h, p0 => by
    have e : (((k + 1 : Nat) : Int)) * pc7 (n 1) 7 = (k : Int) * pc7 (n 1) 7 + pc7 (n 1) 7 := by
      rw [show (((k + 1 : Nat) : Int)) = (k : Int) + 1 by omega, Int.add_mul, Int.one_mul]
    rw [e] at h ⊢
    rw [show f + 7 * (k + 1) = (f + 7) + 7 * k by omega, cE_wk hk k (f + 7) left (by omega) p0, cE_7 (fun d hd => hk d (by omega)) (by omega), show day + 7 * (k : Int) + 7 = day + 7 * (((k + 1 : Nat) : Int)) by omega]
    congr 1
    omega
theorem sp_Y_byWeek {kd ready need : Int} {F : Nat} (wc : 1 ≤ n 1 ∧ n 1 ≤ 127) (c1 : gI M 2 3 = n 1) (c2 : gI M 2 4 = pc7 (n 1) 7) (hk : ∀ d, ready ≤ d → goe n kd d = wkd n d) (r0 : 0 ≤ ready) (r1 : ready ≤ 100000000) (n0 : 0 < need) (n1 : need ≤ 200000) (hF : 7 * need + 7 ≤ F) (hq : Q M (some (vI (cE n kd F need ready)))) : Wq 1 0 0 mY_byWeek 0 [iR 2, iI ready, iI need, none, none, none, none] [] M Q := by
  have p1 : 1 ≤ pc7 (n 1) 7 := by
    have := pc7_1 (n 1).toNat (by omega) (by omega)
    rw [show (((n 1).toNat : Nat) : Int) = n 1 by omega] at this
    exact this
  have key : ∀ (k : Nat) (a b c left day : Int), k ≤ 7 → (∀ d, day ≤ d → goe n kd d = wkd n d) → left ≤ sw n k day → (-10 ≤ left ∧ left ≤ 200000) → 0 ≤ day → day + k ≤ 200000000 → Q M (some (vI (cE n kd k left day))) → Wq 1 0 0 mY_byWeek 30 [iR 2, iI a, iI b, iI c, iI left, iI day, iI (7 - (k : Int))] [] M Q := by
    intro k
    induction k with
    | zero =>
      intro a b c left day k7 hk' hs hl d0 d1 hq
      exact B_Y_byWeek_30 ⟨fun _ => hq, fun z => by omega⟩
    | succ k ih =>
      intro a b c left day k7 hk' hs hl d0 d1 hq
      have hs' : left ≤ wk1 n day + sw n k (day + 1) := hs
      refine B_Y_byWeek_30 ⟨fun z => by omega, fun _ => ⟨fun z => ?_, fun z => ?_⟩⟩
      · rw [cE_0 z] at hq
        exact hq
      · rw [cE_1 (hk' _ (Int.le_refl _)) (by omega)] at hq
        rw [c1, Int.tmod_eq_emod_of_nonneg d0, bit_rd (x := n 1) (k := day % 7) (by omega) (by omega) (by omega) (by omega), show (if hb (n 1) (day % 7) = true then (1 : Int) else 0) = wk1 n day from rfl, show (7 - (((k + 1 : Nat) : Int)) + 1) = 7 - (k : Int) by omega]
        have wb' := wk1_b (n := n) day
        exact ⟨by omega, ih a b c _ _ (by omega) (fun d hd => hk' d (by omega)) (by omega) (by omega) (by omega) (by omega) hq⟩
  refine B_Y_byWeek_0 ?_
  rw [c2, Int.tdiv_eq_ediv_of_nonneg (by omega)]
  have q0 : 0 ≤ (need - 1) / pc7 (n 1) 7 := Int.ediv_nonneg (by omega) (by omega)
  have q1 : (need - 1) / pc7 (n 1) 7 ≤ need - 1 := Int.ediv_le_self _ (by omega)
  have dm := Int.emod_add_mul_ediv (need - 1) (pc7 (n 1) 7)
  have m0 := Int.emod_nonneg (need - 1) (show pc7 (n 1) 7 ≠ 0 by omega)
  have m1 := Int.emod_lt_of_pos (need - 1) (show 0 < pc7 (n 1) 7 by omega)
  rw [Int.mul_comm] at dm
  obtain ⟨k, hkk⟩ : ∃ k : Nat, (need - 1) / pc7 (n 1) 7 = k := ⟨((need - 1) / pc7 (n 1) 7).toNat, by omega⟩
  rw [hkk] at dm q0 q1 ⊢
  have kp : 0 ≤ (k : Int) * pc7 (n 1) 7 := Int.mul_nonneg (by omega) (by omega)
  have hw := cE_wk hk k (F - 7 * k) need (by omega) (by omega)
  rw [show F - 7 * k + 7 * k = F by omega] at hw
  have hs := cE_sw (n := n) (kd := kd) 7 (need - k * pc7 (n 1) 7) (ready + 7 * k) (fun d hd => hk d (by omega)) (by rw [sw_7]; omega) (F - 7 * k - 7)
  rw [show 7 + (F - 7 * k - 7) = F - 7 * k by omega] at hs
  rw [hw, hs] at hq
  refine ⟨by omega, ?_⟩
  have r := key 7 ready need k (need - k * pc7 (n 1) 7) (ready + 7 * k) (by omega) (fun d hd => hk d (by omega)) (by rw [sw_7]; omega) (by omega) (by omega) (by omega) hq
  exact r
end BW
