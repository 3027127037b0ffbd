/-! ===== the mini machine: numbers are Ints, cells are numbered as they are made; Wq is a walk of the real machine, said in these words ===== -/
abbrev Mv : Type := Int ⊕ (Int ⊕ Option Nat)
abbrev vI (x : Int) : Mv := .inl x
abbrev vL (x : Int) : Mv := .inr (.inl x)
abbrev vR (a : Nat) : Mv := .inr (.inr (some a))
abbrev vN : Mv := .inr (.inr none)
abbrev Lv : Type := Option Mv
abbrev iI (x : Int) : Lv := some (vI x)
abbrev iL (x : Int) : Lv := some (vL x)
abbrev iR (a : Nat) : Lv := some (vR a)
abbrev Mm : Type := Nat × (Nat → Int → Int) × (Nat → Int → Int) × (Nat → Int → Option Nat)
def nx (M : Mm) : Nat := M.1
def gI (M : Mm) (a : Nat) (i : Int) : Int := M.2.1 a i
def gL (M : Mm) (a : Nat) (i : Int) : Int := M.2.2.1 a i
def gR (M : Mm) (a : Nat) (i : Int) : Option Nat := M.2.2.2 a i
def sI (M : Mm) (a : Nat) (i v : Int) : Mm := (M.1, (fun b j => if b = a ∧ j = i then v else M.2.1 b j), M.2.2)
def sL (M : Mm) (a : Nat) (i v : Int) : Mm := (M.1, M.2.1, (fun b j => if b = a ∧ j = i then v else M.2.2.1 b j), M.2.2.2)
def sR (M : Mm) (a : Nat) (i : Int) (v : Option Nat) : Mm := (M.1, M.2.1, M.2.2.1, (fun b j => if b = a ∧ j = i then v else M.2.2.2 b j))
def aN (M : Mm) : Mm := (M.1 + 1, M.2)
def cI (M : Mm) (a : Nat) (sp : Int) (b : Nat) (dp n : Int) : Mm := (M.1, (fun c j => if c = b ∧ dp ≤ j ∧ j < dp + n then M.2.1 a (sp + (j - dp)) else M.2.1 c j), M.2.2)
def cL (M : Mm) (a : Nat) (sp : Int) (b : Nat) (dp n : Int) : Mm := (M.1, M.2.1, (fun c j => if c = b ∧ dp ≤ j ∧ j < dp + n then M.2.2.1 a (sp + (j - dp)) else M.2.2.1 c j), M.2.2.2)
def wr (x : Int) : Int := (x + 2147483648) % 4294967296 - 2147483648
def wl (x : Int) : Int := (x + 9223372036854775808) % 18446744073709551616 - 9223372036854775808
def inR (x : Int) : Prop := -2147483648 ≤ x ∧ x < 2147483648
def inL (x : Int) : Prop := -9223372036854775808 ≤ x ∧ x < 9223372036854775808
theorem wr_in (x : Int) : inR (wr x) := by unfold inR wr; omega
theorem wl_in (x : Int) : inL (wl x) := by unfold inL wl; omega
theorem wr_eq {x : Int} (h1 : -2147483648 ≤ x) (h2 : x < 2147483648) : wr x = x := by unfold wr; omega
theorem wl_eq {x : Int} (h1 : -9223372036854775808 ≤ x) (h2 : x < 9223372036854775808) : wl x = x := by unfold wl; omega
theorem inR_t (x : Int32) : inR x.toInt := ⟨x.le_toInt, x.toInt_lt⟩
theorem inL_t (x : Int64) : inL x.toInt := ⟨x.le_toInt, x.toInt_lt⟩
theorem t_of {x : Int} (h : inR x) : (Int32.ofInt x).toInt = x := Int32.toInt_ofInt_of_le h.1 h.2
theorem t_ofL {x : Int} (h : inL x) : (Int64.ofInt x).toInt = x := Int64.toInt_ofInt_of_le h.1 h.2
theorem of_t (x : Int32) : Int32.ofInt x.toInt = x := Int32.ofInt_toInt x
theorem of_tL (x : Int64) : Int64.ofInt x.toInt = x := Int64.ofInt_toInt x
theorem of_wr (x : Int) : Int32.ofInt (wr x) = Int32.ofInt x := by
  apply Int32.toInt_inj.mp
  rw [t_of (wr_in x), Int32.toInt_ofInt]
  unfold wr
  simp only [Int.bmod, Int32.size]
  omega
theorem of_wl (x : Int) : Int64.ofInt (wl x) = Int64.ofInt x := by
  apply Int64.toInt_inj.mp
  rw [t_ofL (wl_in x), Int64.toInt_ofInt]
  unfold wl
  simp only [Int.bmod, Int64.size]
  omega
theorem of_add (x y : Int) : Int32.ofInt (wr (x + y)) = Int32.ofInt x + Int32.ofInt y := by rw [of_wr, Int32.ofInt_add]
theorem of_sub (x y : Int) : Int32.ofInt (wr (x - y)) = Int32.ofInt x - Int32.ofInt y := by rw [of_wr, Int32.ofInt_sub]
theorem of_mul (x y : Int) : Int32.ofInt (wr (x * y)) = Int32.ofInt x * Int32.ofInt y := by rw [of_wr, Int32.ofInt_mul]
theorem of_neg (x : Int) : Int32.ofInt (wr (-x)) = - Int32.ofInt x := by rw [of_wr, Int32.ofInt_neg]
theorem of_addL (x y : Int) : Int64.ofInt (wl (x + y)) = Int64.ofInt x + Int64.ofInt y := by rw [of_wl, Int64.ofInt_add]
theorem of_subL (x y : Int) : Int64.ofInt (wl (x - y)) = Int64.ofInt x - Int64.ofInt y := by rw [of_wl, Int64.ofInt_sub]
theorem of_lt {x y : Int} (hx : inR x) (hy : inR y) : Int32.ofInt x < Int32.ofInt y ↔ x < y := by rw [Int32.lt_iff_toInt_lt, t_of hx, t_of hy]
theorem of_le {x y : Int} (hx : inR x) (hy : inR y) : Int32.ofInt x ≤ Int32.ofInt y ↔ x ≤ y := by rw [Int32.le_iff_toInt_le, t_of hx, t_of hy]
theorem of_eq {x y : Int} (hx : inR x) (hy : inR y) : Int32.ofInt x = Int32.ofInt y ↔ x = y := ⟨fun h => by rw [← t_of hx, ← t_of hy, h], fun h => by rw [h]⟩
theorem of_0 : Int32.ofInt 0 = 0 := by decide
theorem of_clamp {x : Int} (hx : inR x) (h0 : 0 ≤ x) : ((Int32.ofInt x).toNatClampNeg : Int) = x := by
  show (((Int32.ofInt x).toInt.toNat : Nat) : Int) = x
  rw [t_of hx]
  omega
theorem of_in {x : Int} {n : Nat} (hx : inR x) (h0 : 0 ≤ x) (h1 : x < n) : vp_in (Int32.ofInt x) n := by rw [vp_in_iff, t_of hx]; exact ⟨h0, h1⟩
theorem of_div {x y : Int} (hx : inR x) (hy : inR y) : Int32.ofInt (wr (x.tdiv y)) = Int32.ofInt x / Int32.ofInt y := by
  rw [of_wr]
  apply Int32.toInt_inj.mp
  rw [Int32.toInt_div, t_of hx, t_of hy, Int32.toInt_ofInt]
theorem of_rem {x y : Int} (hx : inR x) (hy : inR y) : Int32.ofInt (wr (x.tmod y)) = Int32.ofInt x - Int32.ofInt x / Int32.ofInt y * Int32.ofInt y := by
  rw [← of_div hx hy, of_wr, of_wr, ← Int32.ofInt_mul, ← Int32.ofInt_sub]
  congr 1
  rw [Int.tmod_def, Int.mul_comm]
/-! bit operations -/
def bAnd (x y : Int) : Int := (Int32.ofInt x &&& Int32.ofInt y).toInt
def bOr (x y : Int) : Int := (Int32.ofInt x ||| Int32.ofInt y).toInt
def bXor (x y : Int) : Int := (Int32.ofInt x ^^^ Int32.ofInt y).toInt
def bShl (x y : Int) : Int := (Int32.ofInt x <<< (Int32.ofInt y &&& 31)).toInt
def bShr (x y : Int) : Int := (Int32.ofInt x >>> (Int32.ofInt y &&& 31)).toInt
def bUshr (x y : Int) : Int := (((Int32.ofInt x).toUInt32 >>> ((Int32.ofInt y).toUInt32 &&& Int32.toUInt32 31)).toInt32).toInt
def bB (x : Int) : Int := ((Int32.ofInt x).toInt8.toInt32).toInt
def bS (x : Int) : Int := ((Int32.ofInt x).toInt16.toInt32).toInt
def lAnd (x y : Int) : Int := (Int64.ofInt x &&& Int64.ofInt y).toInt
def lOr (x y : Int) : Int := (Int64.ofInt x ||| Int64.ofInt y).toInt
def lXor (x y : Int) : Int := (Int64.ofInt x ^^^ Int64.ofInt y).toInt
def lShl (x y : Int) : Int := (Int64.ofInt x <<< ((Int32.ofInt y).toInt64 &&& 63)).toInt
def lShr (x y : Int) : Int := (Int64.ofInt x >>> ((Int32.ofInt y).toInt64 &&& 63)).toInt
def lUshr (x y : Int) : Int := (((Int64.ofInt x).toUInt64 >>> ((Int32.ofInt y).toInt64.toUInt64 &&& Int64.toUInt64 63)).toInt64).toInt
def lCmp (x y : Int) : Int := if x < y then -1 else if x = y then 0 else 1
theorem of_l {x : Int} (hx : inR x) : (Int32.ofInt x).toInt64 = Int64.ofInt x := by
  apply Int64.toInt_inj.mp
  rw [Int32.toInt_toInt64, t_of hx, t_ofL ⟨by have := hx.1; omega, by have := hx.2; omega⟩]
theorem of_i (x : Int) (hx : inL x) : (Int64.ofInt x).toInt32 = Int32.ofInt (wr x) := by
  rw [of_wr]
  apply Int32.toInt_inj.mp
  rw [Int64.toInt_toInt32, t_ofL hx, Int32.toInt_ofInt]
