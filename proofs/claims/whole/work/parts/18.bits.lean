/-! ===== bits of numbers that aren't negative ===== -/
theorem two_pos (e : Nat) : 0 < (2 : Int) ^ e := Int.pow_pos (by decide)
theorem two_nat (e : Nat) : ((2 : Int) ^ e).toNat = 2 ^ e := by
  have h2 : ((2 ^ e : Nat) : Int) = (2 : Int) ^ e := by simp
  rw [← h2]
  rfl
def hb (x k : Int) : Bool := x.toNat.testBit k.toNat
theorem bv_nn {z : Int32} (h : 0 ≤ z.toInt) : z.toInt = (z.toBitVec.toNat : Int) := by
  have h2 : z.toInt = z.toBitVec.toInt := rfl
  rw [h2] at h ⊢
  rw [BitVec.toInt_eq_toNat_cond] at h ⊢
  split at h
  · rename_i q
    rw [if_pos q]
  · have := z.toBitVec.isLt
    omega
theorem bv_of {x : Int} (h0 : 0 ≤ x) (h1 : x < 2147483648) : (Int32.ofInt x).toBitVec.toNat = x.toNat := by
  have h := bv_nn (z := Int32.ofInt x) (by rw [t_of ⟨by omega, h1⟩]; exact h0)
  rw [t_of ⟨by omega, h1⟩] at h
  omega
theorem bv_neg {z : Int32} (h : ¬ 0 ≤ z.toInt) : z.toBitVec.msb = true := by
  have h2 : z.toInt = z.toBitVec.toInt := rfl
  rw [h2, BitVec.toInt_eq_msb_cond] at h
  split at h
  · assumption
  · omega
theorem bv_pos {z : Int32} (h : z.toBitVec.msb = false) : 0 ≤ z.toInt := by
  have h2 : z.toInt = z.toBitVec.toInt := rfl
  rw [h2, BitVec.toInt_eq_msb_cond, h]
  simp
theorem msb_of {x : Int} (h0 : 0 ≤ x) (h1 : x < 2147483648) : (Int32.ofInt x).toBitVec.msb = false := by
  rw [BitVec.msb_eq_decide, bv_of h0 h1]
  simp
  omega
theorem hb_bv {z : Int32} (h : 0 ≤ z.toInt) (k : Nat) : hb z.toInt k = z.toBitVec.getLsbD k := by
  unfold hb
  rw [bv_nn h]
  rfl
theorem lsb_of {x : Int} (h0 : 0 ≤ x) (h1 : x < 2147483648) (k : Nat) : (Int32.ofInt x).toBitVec.getLsbD k = hb x k := by
  unfold hb BitVec.getLsbD
  rw [bv_of h0 h1]
  rfl
/-! and, or, xor -/
theorem and_nn {x : Int} (y : Int) (h0 : 0 ≤ x) (h1 : x < 2147483648) : 0 ≤ bAnd x y := by
  apply bv_pos
  rw [Int32.toBitVec_and, BitVec.msb_and, msb_of h0 h1]
  rfl
theorem and_hb {x y : Int} (h0 : 0 ≤ x) (h1 : x < 2147483648) (g0 : 0 ≤ y) (g1 : y < 2147483648) (k : Nat) : hb (bAnd x y) k = (hb x k && hb y k) := by
  have := and_nn y h0 h1
  unfold bAnd at this ⊢
  rw [hb_bv this, Int32.toBitVec_and, BitVec.getLsbD_and, lsb_of h0 h1, lsb_of g0 g1]
theorem or_nn {x y : Int} (h0 : 0 ≤ x) (h1 : x < 2147483648) (g0 : 0 ≤ y) (g1 : y < 2147483648) : 0 ≤ bOr x y := by
  apply bv_pos
  rw [Int32.toBitVec_or, BitVec.msb_or, msb_of h0 h1, msb_of g0 g1]
  rfl
theorem or_hb {x y : Int} (h0 : 0 ≤ x) (h1 : x < 2147483648) (g0 : 0 ≤ y) (g1 : y < 2147483648) (k : Nat) : hb (bOr x y) k = (hb x k || hb y k) := by
  have := or_nn h0 h1 g0 g1
  unfold bOr at this ⊢
  rw [hb_bv this, Int32.toBitVec_or, BitVec.getLsbD_or, lsb_of h0 h1, lsb_of g0 g1]
theorem xor_nn {x y : Int} (h0 : 0 ≤ x) (h1 : x < 2147483648) (g0 : 0 ≤ y) (g1 : y < 2147483648) : 0 ≤ bXor x y := by
  apply bv_pos
  rw [Int32.toBitVec_xor, BitVec.msb_xor, msb_of h0 h1, msb_of g0 g1]
  rfl
theorem xor_hb {x y : Int} (h0 : 0 ≤ x) (h1 : x < 2147483648) (g0 : 0 ≤ y) (g1 : y < 2147483648) (k : Nat) : hb (bXor x y) k = (hb x k ^^ hb y k) := by
  have := xor_nn h0 h1 g0 g1
  unfold bXor at this ⊢
  rw [hb_bv this, Int32.toBitVec_xor, BitVec.getLsbD_xor, lsb_of h0 h1, lsb_of g0 g1]
/-- x without y: x & ~y, as javac writes it -/
theorem andn_hb {x y : Int} (h0 : 0 ≤ x) (h1 : x < 2147483648) (g0 : 0 ≤ y) (g1 : y < 2147483648) (k : Nat) : hb (bAnd x (bXor y (-1))) k = (hb x k && !hb y k) := by
  have hn := and_nn (bXor y (-1)) h0 h1
  unfold bAnd at hn ⊢
  rw [hb_bv hn, Int32.toBitVec_and, BitVec.getLsbD_and, lsb_of h0 h1]
  unfold bXor
  rw [of_t, Int32.toBitVec_xor, BitVec.getLsbD_xor, lsb_of g0 g1]
  by_cases hk : k < 32
  · have : (Int32.ofInt (-1)).toBitVec.getLsbD k = true := by
      have : (Int32.ofInt (-1)).toBitVec = BitVec.allOnes 32 := by decide
      rw [this, BitVec.getLsbD_allOnes]
      simpa using hk
    rw [this]
    simp
  · have : hb x k = false := by
      unfold hb
      apply Nat.testBit_lt_two_pow
      have : x.toNat < 2 ^ 32 := by omega
      exact Nat.lt_of_lt_of_le this (Nat.pow_le_pow_right (by decide) (by simp; omega))
    rw [this]
    rfl
theorem hb_ext {x y : Int} (h0 : 0 ≤ x) (g0 : 0 ≤ y) (h : ∀ k : Nat, hb x k = hb y k) : x = y := by
  have : x.toNat = y.toNat := Nat.eq_of_testBit_eq (fun k => by simpa [hb] using h k)
  omega
theorem hb_big {x : Int} {n k : Nat} (h1 : x < (2 : Int) ^ n) (hk : n ≤ k) : hb x k = false := by
  unfold hb
  apply Nat.testBit_lt_two_pow
  have : x.toNat < 2 ^ n := by
    have h2 := two_nat n
    have h3 := two_pos n
    rw [← h2]
    omega
  exact Nat.lt_of_lt_of_le this (Nat.pow_le_pow_right (by decide) (by simpa using hk))
theorem lt_of_hb {x : Int} {n : Nat} (h0 : 0 ≤ x) (h : ∀ k : Nat, n ≤ k → hb x k = false) : x < (2 : Int) ^ n := by
  have h1 : x.toNat < 2 ^ n := Nat.lt_pow_two_of_testBit _ (fun k hk => by simpa [hb] using h k hk)
  have h2 : ((2 ^ n : Nat) : Int) = (2 : Int) ^ n := by simp
  omega
/-! shifts -/
theorem sh_amt : ∀ n : Nat, n < 32 → ((Int32.ofNat n &&& 31).toBitVec.smod 32).toNat = n := by decide
theorem ofInt_nat (n : Nat) : Int32.ofInt (n : Int) = Int32.ofNat n := rfl
theorem one_shl {e : Int} (h0 : 0 ≤ e) (h1 : e < 31) : bShl 1 e = (2 : Int) ^ e.toNat := by
  obtain ⟨n, rfl⟩ : ∃ n : Nat, e = n := ⟨e.toNat, by omega⟩
  unfold bShl
  have hp : (2 : Nat) ^ n < 2 ^ 31 := Nat.pow_lt_pow_right (by decide) (by omega)
  have := pk_shlN (n := 1) (Int32.ofInt (n : Int) &&& 31) n (sh_amt n (by omega)) (by omega)
  rw [show Int32.ofInt 1 = nI 1 from rfl, this, Nat.one_mul, nI_toInt (by omega)]
  simp
theorem hb_two (e : Nat) (k : Nat) : hb ((2 : Int) ^ e) k = decide (k = e) := by
  unfold hb
  rw [two_nat, Nat.testBit_two_pow]
  simp [eq_comm]
theorem two_lt {e : Nat} (h : e < 31) : (2 : Int) ^ e < 2147483648 := by
  have hp : (2 : Nat) ^ e < 2 ^ 31 := Nat.pow_lt_pow_right (by decide) h
  have h2 : ((2 ^ e : Nat) : Int) = (2 : Int) ^ e := by simp
  omega
/-- the bit k of x, as both sides ask for it -/
theorem bit_rd {x k : Int} (hx : 0 ≤ x) (hx2 : x < 2147483648) (hk : 0 ≤ k) (hk2 : k < 32) : bAnd (bShr x k) 1 = if hb x k = true then 1 else 0 := by
  obtain ⟨n, rfl⟩ : ∃ n : Nat, k = n := ⟨k.toNat, by omega⟩
  obtain ⟨a, rfl⟩ : ∃ a : Nat, x = a := ⟨x.toNat, by omega⟩
  unfold bAnd bShr
  rw [of_t]
  have h1 := pk_shrN (n := a) (by omega) (Int32.ofInt (n : Int) &&& 31) n (sh_amt n (by omega))
  rw [show Int32.ofInt (a : Int) = nI a from rfl, h1, show Int32.ofInt 1 = (1 : Int32) from rfl]
  have hle : a / 2 ^ n ≤ a := Nat.div_le_self a _
  rw [pk_andN (by omega) (m := 1) 1 (by decide), nI_toInt (by omega)]
  unfold hb
  rw [show ((n : Int).toNat) = n from rfl, show ((a : Int).toNat) = a from rfl, Nat.testBit_eq_decide_div_mod_eq]
  by_cases q : a / 2 ^ n % 2 = 1
  · simp [q]
  · have : a / 2 ^ n % 2 = 0 := by omega
    simp [this]
/-- the set x with e -/
def sb (x e : Int) : Int := bOr x (bShl 1 e)
theorem sb_nn {x e : Int} (h0 : 0 ≤ x) (h1 : x < 2147483648) (e0 : 0 ≤ e) (e1 : e < 31) : 0 ≤ sb x e := by
  unfold sb
  rw [one_shl e0 e1]
  exact or_nn h0 h1 (Int.le_of_lt (two_pos _)) (two_lt (by omega))
theorem sb_hb {x e : Int} (h0 : 0 ≤ x) (h1 : x < 2147483648) (e0 : 0 ≤ e) (e1 : e < 31) (k : Nat) : hb (sb x e) k = (hb x k || decide ((k : Int) = e)) := by
  unfold sb
  rw [one_shl e0 e1, or_hb h0 h1 (Int.le_of_lt (two_pos _)) (two_lt (by omega)), hb_two]
  congr 1
  apply decide_eq_decide.mpr
  omega
theorem hb_0 (k : Int) : hb 0 k = false := by unfold hb; simp
