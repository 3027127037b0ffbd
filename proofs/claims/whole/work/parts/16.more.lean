/-! ===== more rows: Math.max, min; forgetting locals; plain numbers ===== -/
def jOK (own : String) (idx : Nat) (y : MethodName) (b : ByteArray) : Prop := Cond.methodLink own idx y ∈ gw ∧ Cond.static y ∈ gw ∧ Cond.initialized "java/lang/Math" ∈ gw ∧ Cond.code y b 2 (some .int) ∈ gw
section MORE
variable {d cb sb : Nat} {k : Md} {pc : Nat} {lo : List Lv} {st : List Mv} {M : Mm} {Q : Mm → Option Mv → Prop}
theorem of_max {x y : Int} (hx : inR x) (hy : inR y) : (if Int32.ofInt x < Int32.ofInt y then Int32.ofInt y else Int32.ofInt x) = Int32.ofInt (max x y) := by
  by_cases h : x < y
  · rw [if_pos ((of_lt hx hy).mpr h)]
    congr 1
    omega
  · rw [if_neg (fun q => h ((of_lt hx hy).mp q))]
    congr 1
    omega
theorem of_min {x y : Int} (hx : inR x) (hy : inR y) : (if Int32.ofInt y < Int32.ofInt x then Int32.ofInt y else Int32.ofInt x) = Int32.ofInt (min x y) := by
  by_cases h : y < x
  · rw [if_pos ((of_lt hy hx).mpr h)]
    congr 1
    omega
  · rw [if_neg (fun q => h ((of_lt hy hx).mp q))]
    congr 1
    omega
theorem max_in {x y : Int} (hx : inR x) (hy : inR y) : inR (max x y) := by unfold inR at *; omega
theorem min_in {x y : Int} (hx : inR x) (hy : inR y) : inR (min x y) := by unfold inR at *; omega
theorem wq_max {idx : Nat} {x y : Int} (hd : decode k.2.1 pc = .ok (.invokestatic idx, 3)) (hw : jOK k.1.cls idx Lib.Math.max.name Lib.Math.max.code) (h8 : ((st.map catM).sum).ble 8 = true) (h : Wq (d + 1) cb sb k (pc + 3) lo (vI (max x y) :: st) M Q) : Wq (d + 1) cb sb k pc lo (vI y :: vI x :: st) M Q := by
  intro l p e R s m args below meth c A D cy X QQ ρ0 n0 mc ms G H locs cells slots ρ ls Y hc hs L
  have rx : inR x := ok_h (ok_t L.2.2)
  have ry : inR y := ok_h L.2.2
  have hts := G.1.2.2.2.2.1
  have hR := G.2.2.2.2.1
  have h8 := Nat.le_of_ble_eq_true h8
  refine va_mmax G.1.1 G.1.2.1 (by rw [G.1.2.2.1, L.1.2.1]) G.1.2.2.2.1 (hts _ hw.1) (hts _ hw.2.1) (hts _ hw.2.2.1) (hts _ hw.2.2.2) (by omega) (by rw [sum_tv]; omega) (by omega) (by omega) hd ?_
  rw [of_max rx ry]
  exact h l p e R s m args below meth c A D cy X QQ ρ0 n0 mc ms G H locs cells slots ρ ls Y hc hs (L.to (ok_c (v := vI (max x y)) (max_in rx ry) (ok_t (ok_t L.2.2))))
theorem wq_min {idx : Nat} {x y : Int} (hd : decode k.2.1 pc = .ok (.invokestatic idx, 3)) (hw : jOK k.1.cls idx Lib.Math.min.name Lib.Math.min.code) (h8 : ((st.map catM).sum).ble 8 = true) (h : Wq (d + 1) cb sb k (pc + 3) lo (vI (min x y) :: st) M Q) : Wq (d + 1) cb sb k pc lo (vI y :: vI x :: st) M Q := by
  intro l p e R s m args below meth c A D cy X QQ ρ0 n0 mc ms G H locs cells slots ρ ls Y hc hs L
  have rx : inR x := ok_h (ok_t L.2.2)
  have ry : inR y := ok_h L.2.2
  have hts := G.1.2.2.2.2.1
  have hR := G.2.2.2.2.1
  have h8 := Nat.le_of_ble_eq_true h8
  refine va_mmin G.1.1 G.1.2.1 (by rw [G.1.2.2.1, L.1.2.1]) G.1.2.2.2.1 (hts _ hw.1) (hts _ hw.2.1) (hts _ hw.2.2.1) (hts _ hw.2.2.2) (by omega) (by rw [sum_tv]; omega) (by omega) (by omega) hd ?_
  rw [of_min rx ry]
  exact h l p e R s m args below meth c A D cy X QQ ρ0 n0 mc ms G H locs cells slots ρ ls Y hc hs (L.to (ok_c (v := vI (min x y)) (min_in rx ry) (ok_t (ok_t L.2.2))))
def ldrop : List Lv → List Nat → List Lv
  | l, [] => l
  | l, i :: is => ldrop (l.set i none) is
theorem Dl.drop1 {k : Md} {ρ : Nat → Nat} {n : Nat} {ls : Array Slot} {lo : List Lv} {st : List Mv} (L : Dl k ρ n ls lo st) (i : Nat) : Dl k ρ n ls (lo.set i none) st := by
  have key : ∀ (j : Nat) (v : Mv), (lo.set i none)[j]? = some (some v) → lo[j]? = some (some v) := by
    intro j v h
    rw [List.getElem?_set] at h
    by_cases hj : i = j
    · subst hj
      by_cases h2 : i < lo.length
      · simp [h2] at h
      · simp [h2] at h
    · simpa [hj] using h
  exact ⟨⟨by rw [List.length_set]; exact L.1.1, L.1.2.1, L.1.2.2.1, fun j v h => L.1.2.2.2 j v (key j v h)⟩, fun j v h => L.2.1 j v (key j v h), L.2.2⟩
theorem Dl.drops {k : Md} {ρ : Nat → Nat} {n : Nat} {ls : Array Slot} {st : List Mv} : ∀ (is : List Nat) {lo : List Lv}, Dl k ρ n ls lo st → Dl k ρ n ls (ldrop lo is) st
  | [], _, L => L
  | i :: is, _, L => Dl.drops is (L.drop1 i)
theorem wq_drop {lo' : List Lv} (is : List Nat) (he : ldrop lo is = lo') (h : Wq d cb sb k pc lo' st M Q) : Wq d cb sb k pc lo st M Q := by
  intro l p e R s m args below meth c A D cy X QQ ρ0 n0 mc ms G H locs cells slots ρ ls Y hc hs L
  subst he
  exact h l p e R s m args below meth c A D cy X QQ ρ0 n0 mc ms G H locs cells slots ρ ls Y hc hs (Dl.drops is L)
theorem wq_re {x y : Int} (he : x = y) (h : Wq d cb sb k pc lo (vI y :: st) M Q) : Wq d cb sb k pc lo (vI x :: st) M Q := he ▸ h
theorem wq_re2 {v : Mv} {x y : Int} (he : x = y) (h : Wq d cb sb k pc lo (v :: vI y :: st) M Q) : Wq d cb sb k pc lo (v :: vI x :: st) M Q := he ▸ h
theorem wq_reL {x y : Int} (he : x = y) (h : Wq d cb sb k pc lo (vL y :: st) M Q) : Wq d cb sb k pc lo (vL x :: st) M Q := he ▸ h
/-- the numbers that stand in a state are ints -/
theorem wq_inS {x : Int} (h : inR x → Wq d cb sb k pc lo (vI x :: st) M Q) : Wq d cb sb k pc lo (vI x :: st) M Q := by
  intro l p e R s m args below meth c A D cy X QQ ρ0 n0 mc ms G H locs cells slots ρ ls Y hc hs L
  exact h (ok_h L.2.2) l p e R s m args below meth c A D cy X QQ ρ0 n0 mc ms G H locs cells slots ρ ls Y hc hs L
theorem wq_inL (i : Nat) {x : Int} (hl : lg lo i = some (vI x)) (h : inR x → Wq d cb sb k pc lo st M Q) : Wq d cb sb k pc lo st M Q := by
  intro l p e R s m args below meth c A D cy X QQ ρ0 n0 mc ms G H locs cells slots ρ ls Y hc hs L
  exact h (L.loc hl).2 l p e R s m args below meth c A D cy X QQ ρ0 n0 mc ms G H locs cells slots ρ ls Y hc hs L
theorem wq_okM (h : okM M → Wq d cb sb k pc lo st M Q) : Wq d cb sb k pc lo st M Q := by
  intro l p e R s m args below meth c A D cy X QQ ρ0 n0 mc ms G H locs cells slots ρ ls Y hc hs L
  exact h Y.2.2.2.1 l p e R s m args below meth c A D cy X QQ ρ0 n0 mc ms G H locs cells slots ρ ls Y hc hs L
/-- a walk serves a weaker end, and more frames -/
theorem wq_post {Q' : Mm → Option Mv → Prop} (h : Wq d cb sb k pc lo st M Q') (hq : ∀ M' v, Q' M' v → Q M' v) : Wq d cb sb k pc lo st M Q := by
  intro l p e R s m args below meth c A D cy X QQ ρ0 n0 mc ms G H locs cells slots ρ ls Y hc hs L
  exact h l p e R s m args below meth c A D cy X QQ ρ0 n0 mc ms ⟨G.1, G.2.1, G.2.2.1, G.2.2.2.1, G.2.2.2.2.1, fun pc ls H locs cells slots ρ M v q => G.2.2.2.2.2 pc ls H locs cells slots ρ M v (hq M v q)⟩ H locs cells slots ρ ls Y hc hs L
theorem wq_deep {d' : Nat} (hd : d' ≤ d) (h : Wq d' cb sb k pc lo st M Q) : Wq d cb sb k pc lo st M Q := by
  intro l p e R s m args below meth c A D cy X QQ ρ0 n0 mc ms G H locs cells slots ρ ls Y hc hs L
  exact h l p e R s m args below meth c A D cy X QQ ρ0 n0 mc ms ⟨G.1, G.2.1, G.2.2.1, G.2.2.2.1, ⟨by have := G.2.2.2.2.1; omega, by have := G.2.2.2.2.1; omega, G.2.2.2.2.1.2.2⟩, G.2.2.2.2.2⟩ H locs cells slots ρ ls Y hc hs L
end MORE
theorem wr_al (a b : Int) : wr (wr a + b) = wr (a + b) := by unfold wr; omega
theorem wr_ar (a b : Int) : wr (a + wr b) = wr (a + b) := by unfold wr; omega
theorem wr_sl (a b : Int) : wr (wr a - b) = wr (a - b) := by unfold wr; omega
theorem wr_sr (a b : Int) : wr (a - wr b) = wr (a - b) := by unfold wr; omega
theorem wr_nn (a : Int) : wr (- wr a) = wr (- a) := by unfold wr; omega
theorem wr_ww (a : Int) : wr (wr a) = wr a := by unfold wr; omega
theorem wr_k (a : Int) : ∃ q : Int, wr a = a + 4294967296 * q := ⟨(wr a - a) / 4294967296, by unfold wr; omega⟩
theorem wr_cg {a b : Int} (q : Int) (h : a = b + 4294967296 * q) : wr a = wr b := by subst h; unfold wr; omega
theorem wr_ml (a b : Int) : wr (wr a * b) = wr (a * b) := by
  obtain ⟨q, hq⟩ := wr_k a
  rw [hq]
  exact wr_cg (q * b) (by rw [Int.add_mul, Int.mul_assoc])
theorem wr_mr (a b : Int) : wr (a * wr b) = wr (a * b) := by rw [Int.mul_comm a (wr b), wr_ml, Int.mul_comm]
theorem gI_sI (M : Mm) (a : Nat) (i v : Int) (b : Nat) (j : Int) : gI (sI M a i v) b j = if b = a ∧ j = i then v else gI M b j := rfl
theorem gI_s {M : Mm} {a : Nat} {i v : Int} : gI (sI M a i v) a i = v := if_pos ⟨rfl, rfl⟩
theorem gI_n {M : Mm} {a b : Nat} {i j v : Int} (h : b ≠ a ∨ j ≠ i) : gI (sI M a i v) b j = gI M b j := if_neg (fun q => by rcases h with h | h; exact h q.1; exact h q.2)
