/-! ===== known, told, trace ===== -/
section OPE
variable {s : St} {M : Mm} {Q : Mm → Option Mv → Prop}
/-- whether EVENT h is known on day d -/
def isK (n : Int → Int) (d : Int) (h : Nat) : Bool := decide (n (153 + 7 * (h : Int)) ≤ d ∧ (n (154 + 7 * (h : Int)) < 0 ∨ d < n (154 + 7 * (h : Int))))
/-- the set of those that are known, of the first h -/
def knw (n : Int → Int) (d : Int) : Nat → Int
  | 0 => 0
  | h + 1 => if isK n d h = true then sb (knw n d h) h else knw n d h
theorem two20 : (2 : Int) ^ 20 = 1048576 := by decide
theorem knw_ok (n : Int → Int) (d : Int) : ∀ h : Nat, h ≤ 20 → (0 ≤ knw n d h ∧ knw n d h < 1048576) ∧ ∀ k : Nat, hb (knw n d h) k = (decide (k < h) && isK n d k)
  | 0, _ => ⟨by show (0:Int) ≤ 0 ∧ (0:Int) < 1048576; decide, fun k => by rw [show knw n d 0 = 0 from rfl, hb_0]; simp⟩
  | h + 1, hh => by
    obtain ⟨ih, hb1⟩ := knw_ok n d h (by omega)
    by_cases c : isK n d h = true
    · rw [show knw n d (h + 1) = sb (knw n d h) h from if_pos c]
      have hbb : ∀ k : Nat, hb (sb (knw n d h) h) k = (decide (k < h + 1) && isK n d k) := by
        intro k
        rw [sb_hb ih.1 (by omega) (by omega) (by omega), hb1]
        by_cases hk : k = h
        · subst hk
          simp [c]
        · rw [show decide ((k : Int) = (h : Int)) = false from decide_eq_false (by omega), Bool.or_false, show decide (k < h + 1) = decide (k < h) from decide_eq_decide.mpr (by omega)]
      refine ⟨⟨sb_nn ih.1 (by omega) (by omega) (by omega), ?_⟩, hbb⟩
      rw [← two20]
      refine lt_of_hb (sb_nn ih.1 (by omega) (by omega) (by omega)) (fun k hk => ?_)
      rw [hbb, decide_eq_false (by omega), Bool.false_and]
    · rw [show knw n d (h + 1) = knw n d h from if_neg c]
      refine ⟨ih, fun k => ?_⟩
      rw [hb1]
      by_cases hk : k = h
      · subst hk
        simp [c]
      · rw [show decide (k < h + 1) = decide (k < h) from decide_eq_decide.mpr (by omega)]
theorem or_0 {x : Int} (h0 : 0 ≤ x) (h1 : x < 2147483648) : bOr x 0 = x := by
  refine hb_ext (or_nn h0 h1 (by decide) (by decide)) h0 (fun k => ?_)
  rw [or_hb h0 h1 (by decide) (by decide), hb_0, Bool.or_false]
theorem sp_E_knownOn {n : Int → Int} {d : Int} (hS : RefOK M) (we : 0 ≤ n 4 ∧ n 4 ≤ 20) (dE : cEvt n (gI M 13) (gI M 14) (gI M 15) (gI M 16) (gI M 17) (gI M 18) (gI M 19) (gI M 12 7)) (hq : Q M (some (vI (knw n d (n 4).toNat)))) : Wq 1 0 0 mE_knownOn 0 [iR 12, iI d, none, none] [] M Q := by
  refine B_E_knownOn_0 ?_
  have key : ∀ (f : Nat) (h : Nat), (h : Int) ≤ n 4 → (n 4).toNat - h = f → Wq 1 0 0 mE_knownOn 4 [iR 12, iI d, iI (knw n d h), iI h] [] M Q := by
    intro f
    induction f with
    | zero =>
      intro h h1 hf
      refine B_E_knownOn_4 hS ?_
      rw [dE.1]
      refine ⟨fun c => ?_, fun c => by omega⟩
      have : (n 4).toNat = h := by omega
      rw [this] at hq
      exact hq
    | succ f ih =>
      intro h h1 hf
      have ih := ih (h + 1) (by omega) (by omega)
      rw [show (((h + 1 : Nat) : Int)) = (h : Int) + 1 by omega] at ih
      obtain ⟨_, _, _, _, _, a5, a6⟩ := dE.2 h (by omega) (by omega)
      refine B_E_knownOn_4 hS ?_
      rw [dE.1, a5, a6]
      have no : ¬ (isK n d h = true) → Wq 1 0 0 mE_knownOn 4 [iR 12, iI d, iI (knw n d h), iI ((h : Int) + 1)] [] M Q := fun c => by
        rw [show knw n d (h + 1) = knw n d h from if_neg c] at ih
        exact ih
      have ye : isK n d h = true → Wq 1 0 0 mE_knownOn 4 [iR 12, iI d, iI (bOr (knw n d h) (bShl 1 h)), iI ((h : Int) + 1)] [] M Q := fun c => by
        rw [show knw n d (h + 1) = sb (knw n d h) h from if_pos c] at ih
        exact ih
      unfold isK at no ye
      rw [decide_eq_true_iff] at no ye
      exact ⟨fun c => by omega, fun c => ⟨by omega, fun c2 => ⟨by omega, no (by omega)⟩, fun c2 => ⟨fun c3 => ⟨by omega, ye (by omega)⟩, fun c3 => ⟨fun c4 => ⟨by omega, no (by omega)⟩, fun c4 => ⟨by omega, ye (by omega)⟩⟩⟩⟩⟩
  exact key _ 0 (by omega) rfl
theorem sp_M_knownOn {n : Int → Int} {d : Int} (hS : RefOK M) (we : 0 ≤ n 4 ∧ n 4 ≤ 20) (e' : gI M 81 = n) (hq : Q M (some (vI (knw n d (n 4).toNat)))) : Wq 2 0 0 mM_knownOn 0 [iR 80, iI d, none, none, none] [] M Q := by
  refine B_M_knownOn_0 ?_
  have key : ∀ (f : Nat) (h : Nat), (h : Int) ≤ n 4 → (n 4).toNat - h = f → Wq 2 0 0 mM_knownOn 4 [iR 80, iI d, iI (knw n d h), iI h, none] [] M Q := by
    intro f
    induction f with
    | zero =>
      intro h h1 hf
      refine B_M_knownOn_4 hS ?_
      rw [e']
      refine ⟨fun c => ?_, fun c => by omega⟩
      have : (n 4).toNat = h := by omega
      rw [this] at hq
      exact hq
    | succ f ih =>
      intro h h1 hf
      have ih := ih (h + 1) (by omega) (by omega)
      rw [show (((h + 1 : Nat) : Int)) = (h : Int) + 1 by omega] at ih
      have kk := (knw_ok n d h (by omega)).1
      refine B_M_knownOn_4 hS ?_
      rw [e', or_0 kk.1 (by omega)]
      have no : ¬ (isK n d h = true) → Wq 2 0 0 mM_knownOn 4 [iR 80, iI d, iI (knw n d h), iI ((h : Int) + 1), none] [] M Q := fun c => by
        rw [show knw n d (h + 1) = knw n d h from if_neg c] at ih
        exact ih
      have ye : isK n d h = true → Wq 2 0 0 mM_knownOn 4 [iR 80, iI d, iI (bOr (knw n d h) (bShl 1 h)), iI ((h : Int) + 1), none] [] M Q := fun c => by
        rw [show knw n d (h + 1) = sb (knw n d h) h from if_pos c] at ih
        exact ih
      unfold isK at no ye
      rw [decide_eq_true_iff] at no ye
      refine ⟨fun c => by omega, fun c => ⟨by omega, fun c2 => ⟨by omega, fun c3 => ⟨by omega, no (by omega)⟩, fun c3 => ⟨by omega, ye (by omega)⟩⟩, fun c2 => ⟨by omega, fun c3 => ⟨by omega, fun c4 => ⟨by omega, no (by omega)⟩, fun c4 => ⟨by omega, ye (by omega)⟩⟩, fun c3 => ⟨by omega, fun c4 => ⟨by omega, no (by omega)⟩, fun c4 => ⟨by omega, no (by omega)⟩⟩⟩⟩⟩
  exact key _ 0 (by omega) rfl
def o_known (s : St) (d : Int) : St × Int := if 0 ≤ d ∧ d ≤ 900 then (s, knw (sn s) d (sn s 4).toNat) else fnd s 1
theorem w_known {d : Int} (hw : WfS s) : WfS (o_known s d).1 := by
  unfold o_known
  split
  · exact hw
  · exact hw.fnd
theorem c_known {d : Int} (hw : WfS s) (h : CI s M) (hq : ∀ M', CI (o_known s d).1 M' → FrC M M' → Q M' (some (vI (o_known s d).2))) : Wq 3 0 0 mD_known 0 [iR 0, iI d] [] M Q := by
  refine B_D_known_0 h.1 ⟨fun c => ?_, fun c => c_fnd h (by decide) (by decide) (by decide) (if_neg c) hq⟩
  refine sp_E_knownOn h.1 hw.1.2.2.2.2.1.1 h.2.1.2.2.2.2.1 ?_
  refine B_D_known_18 ?_
  rw [show o_known s d = _ from if_pos c] at hq
  exact hq M h FrC.rf
theorem r_known {d : Int} (hw : WfS s) (h : RI s M) (hq : ∀ M', RI (o_known s d).1 M' → FrR M M' → Q M' (some (vI (o_known s d).2))) : Wq 3 0 0 mM_known 0 [iR 80, iI d] [] M Q := by
  refine B_M_known_0 h.1 ⟨fun c => ?_, fun c => r_fnd h (by decide) (if_neg c) hq⟩
  refine sp_M_knownOn h.1 hw.1.2.2.2.2.1.1 h.2.1 ?_
  refine B_M_known_12 ?_
  rw [show o_known s d = _ from if_pos c] at hq
  exact hq M h FrR.rf
/-! trace -/
def o_trace (s : St) (i : Int) : St × Int := if 0 ≤ i ∧ i < stc s then (s, str s i) else fnd s 2
theorem w_trace {d : Int} (hw : WfS s) : WfS (o_trace s d).1 := by
  unfold o_trace
  split
  · exact hw
  · exact hw.fnd
theorem c_trace {d : Int} (hw : WfS s) (h : CI s M) (hq : ∀ M', CI (o_trace s d).1 M' → FrC M M' → Q M' (some (vI (o_trace s d).2))) : Wq 3 0 0 mD_trace 0 [iR 0, iI d] [] M Q := by
  have h5 := hw.2.2.2.2
  obtain ⟨t1, t2⟩ := h.2.2.2.2.2.2.1
  refine B_D_trace_0 h.1 ?_
  rw [t1]
  refine ⟨by omega, fun c => ⟨by omega, ?_⟩, fun c => c_fnd h (by decide) (by decide) (by decide) (if_neg (by omega)) hq⟩
  rw [show o_trace s d = _ from if_pos (by omega)] at hq
  rw [t2 d (by omega) (by omega)]
  exact hq M h FrC.rf
theorem r_trace {d : Int} (hw : WfS s) (h : RI s M) (hq : ∀ M', RI (o_trace s d).1 M' → FrR M M' → Q M' (some (vI (o_trace s d).2))) : Wq 2 0 0 mM_trace 0 [iR 80, iI d] [] M Q := by
  have h5 := hw.2.2.2.2
  have t2 := h.2.2.2.2.2.2.2.2.1
  have t1 := h.2.2.2.2.2.2.2.2.2.1
  refine B_M_trace_0 h.1 ?_
  rw [t1, t2]
  refine ⟨by omega, fun c => ⟨by omega, ?_⟩, fun c => r_fnd h (by decide) (if_neg (by omega)) hq⟩
  rw [show o_trace s d = _ from if_pos (by omega)] at hq
  exact hq M h FrR.rf
/-! how many bits -/
def pcn (x : Int) : Nat → Int
  | 0 => 0
  | k + 1 => pcn x k + (if hb x k = true then 1 else 0)
theorem land_split {a b c d : Nat} (k : Nat) (ha : a < 2 ^ k) (hc : c < 2 ^ k) : (a + 2 ^ k * b) &&& (c + 2 ^ k * d) = (a &&& c) + 2 ^ k * (b &&& d) := by
  apply Nat.eq_of_testBit_eq
  intro i
  rw [Nat.testBit_and, Nat.add_comm a, Nat.add_comm c, Nat.add_comm (a &&& c), Nat.testBit_two_pow_mul_add _ ha, Nat.testBit_two_pow_mul_add _ hc, Nat.testBit_two_pow_mul_add _ (Nat.and_lt_two_pow _ hc)]
  split <;> rw [Nat.testBit_and]
theorem bAnd_n {x y : Nat} (hx : x < 2147483648) (hy : y < 2147483648) : bAnd x y = ((x &&& y : Nat) : Int) := by
  refine hb_ext (and_nn _ (by omega) (by omega)) (by omega) (fun k => ?_)
  rw [and_hb (by omega) (by omega) (by omega) (by omega)]
  unfold hb
  rw [show ((x : Int).toNat) = x from rfl, show ((y : Int).toNat) = y from rfl, show (((x &&& y : Nat) : Int).toNat) = x &&& y from rfl, Nat.testBit_and]
theorem bUshr_n {x : Nat} (hx : x < 2147483648) (e : Nat) (he : e < 32) : bUshr x e = ((x / 2 ^ e : Nat) : Int) := by
  unfold bUshr
  have hs : ∀ e : Nat, e < 32 → (((Int32.ofNat e).toUInt32 &&& Int32.toUInt32 31).toBitVec % 32).toNat = e := by decide
  have h1 := pk_ushrN (n := x) (by omega) (Int32.ofNat e) e (hs e he)
  rw [show Int32.ofInt (x : Int) = nI x from rfl, show Int32.ofInt (e : Int) = Int32.ofNat e from rfl, h1]
  have hle : x / 2 ^ e ≤ x := Nat.div_le_self x _
  exact nI_toInt (by omega)
def u5 (g : Nat) : Nat := (g / 2) &&& 5
def pcN (g : Nat) : Nat := g % 2 + g / 2 % 2 + g / 4 % 2 + g / 8 % 2
theorem st1 {x m : Nat} : (x / 2) &&& (5 + 16 * m) = u5 (x % 16) + 16 * ((x / 16 / 2) &&& m) := by
  have h1 : x / 2 = (x % 16 / 2 + 8 * (x / 16 % 2)) + 2 ^ 4 * (x / 16 / 2) := by omega
  have h2 : (x / 2) &&& (5 + 2 ^ 4 * m) = ((x % 16 / 2 + 8 * (x / 16 % 2)) &&& 5) + 2 ^ 4 * ((x / 16 / 2) &&& m) := by rw [← land_split 4 (by omega) (by decide), ← h1]
  have h3 : ∀ g : Nat, g < 16 → ∀ b : Nat, b < 2 → (g / 2 + 8 * b) &&& 5 = u5 g := by decide
  rw [show (16 : Nat) = 2 ^ 4 from rfl, h2, h3 _ (by omega) _ (by omega)]
theorem st2 {y m : Nat} : (y &&& (3 + 16 * m)) + ((y / 4) &&& (3 + 16 * m)) = ((y % 16) &&& 3) + ((y % 16 / 4) &&& 3) + 16 * ((y / 16 &&& m) + (y / 16 / 4 &&& m)) := by
  have h1 : y / 4 = (y % 16 / 4 + 4 * (y / 16 % 4)) + 2 ^ 4 * (y / 16 / 4) := by omega
  have h0 : y = y % 16 + 2 ^ 4 * (y / 16) := by omega
  have h2 : (y / 4) &&& (3 + 2 ^ 4 * m) = ((y % 16 / 4 + 4 * (y / 16 % 4)) &&& 3) + 2 ^ 4 * ((y / 16 / 4) &&& m) := by rw [← land_split 4 (by omega) (by decide), ← h1]
  have h4 : y &&& (3 + 2 ^ 4 * m) = (y % 16 &&& 3) + 2 ^ 4 * (y / 16 &&& m) := by
    rw [← land_split 4 (by omega) (by decide), ← h0]
  have h3 : ∀ g : Nat, g < 16 → ∀ b : Nat, b < 4 → (g / 4 + 4 * b) &&& 3 = (g / 4) &&& 3 := by decide
  rw [show (16 : Nat) = 2 ^ 4 from rfl, h2, h4, show (2 : Nat) ^ 4 = 16 from rfl, h3 _ (by omega) _ (by omega)]
  omega
theorem st12 : ∀ g : Nat, g < 16 → u5 g ≤ g ∧ ((g - u5 g) &&& 3) + (((g - u5 g) / 4) &&& 3) = pcN g ∧ pcN g ≤ 4 := by decide
/-- the first two steps, on a row of nibbles -/
theorem st_2 {x m m' : Nat} : ((x - ((x / 2) &&& (5 + 16 * m))) &&& (3 + 16 * m')) + (((x - ((x / 2) &&& (5 + 16 * m))) / 4) &&& (3 + 16 * m')) = pcN (x % 16) + 16 * (((x / 16 - ((x / 16 / 2) &&& m)) &&& m') + (((x / 16 - ((x / 16 / 2) &&& m)) / 4) &&& m')) := by
  have hle : (x / 16 / 2) &&& m ≤ x / 16 := Nat.le_trans Nat.and_le_left (by omega)
  obtain ⟨u1, u2, u3⟩ := st12 (x % 16) (by omega)
  rw [st2, st1]
  have e1 : (x - (u5 (x % 16) + 16 * (x / 16 / 2 &&& m))) % 16 = x % 16 - u5 (x % 16) := by omega
  have e2 : (x - (u5 (x % 16) + 16 * (x / 16 / 2 &&& m))) / 16 = x / 16 - (x / 16 / 2 &&& m) := by omega
  rw [e1, e2, u2]
theorem st_0 {m m' : Nat} : (((0:Nat) - ((0 / 2) &&& m)) &&& m') + (((0 - ((0 / 2) &&& m)) / 4) &&& m') = 0 := by simp
theorem land_15 (a : Nat) : a &&& 15 = a % 16 := Nat.and_two_pow_sub_one_eq_mod a 4
theorem land_63 (a : Nat) : a &&& 63 = a % 64 := Nat.and_two_pow_sub_one_eq_mod a 6
theorem st_a {x : Nat} (h : x < 1048576) : ((x - ((x / 2) &&& 1431655765)) &&& 858993459) + (((x - ((x / 2) &&& 1431655765)) / 4) &&& 858993459) = pcN (x % 16) + 16 * (pcN (x / 16 % 16) + 16 * (pcN (x / 16 / 16 % 16) + 16 * (pcN (x / 16 / 16 / 16 % 16) + 16 * pcN (x / 16 / 16 / 16 / 16 % 16)))) := by
  have h5 : x / 16 / 16 / 16 / 16 / 16 = 0 := by omega
  rw [show (1431655765 : Nat) = 5 + 16 * (5 + 16 * (5 + 16 * (5 + 16 * (5 + 16 * 1365)))) from rfl, show (858993459 : Nat) = 3 + 16 * (3 + 16 * (3 + 16 * (3 + 16 * (3 + 16 * 819)))) from rfl, st_2, st_2, st_2, st_2, st_2, h5, st_0, Nat.mul_zero, Nat.add_zero]
/-- the third -/
theorem st_3 {a b c d e : Nat} (ha : a ≤ 4) (hb : b ≤ 4) (hc : c ≤ 4) (hd : d ≤ 4) (he : e ≤ 4) : (a + 16 * (b + 16 * (c + 16 * (d + 16 * e))) + (a + 16 * (b + 16 * (c + 16 * (d + 16 * e)))) / 16) &&& 252645135 = (a + b) + 256 * ((c + d) + 256 * e) := by
  have h1 : a + 16 * (b + 16 * (c + 16 * (d + 16 * e))) + (a + 16 * (b + 16 * (c + 16 * (d + 16 * e)))) / 16 = (a + b) + 2 ^ 4 * ((b + c) + 2 ^ 4 * ((c + d) + 2 ^ 4 * ((d + e) + 2 ^ 4 * (e + 2 ^ 4 * 0)))) := by omega
  rw [h1, show (252645135 : Nat) = 15 + 2 ^ 4 * (0 + 2 ^ 4 * (15 + 2 ^ 4 * (0 + 2 ^ 4 * (15 + 2 ^ 4 * 240)))) from rfl, land_split 4 (by omega) (by decide), land_split 4 (by omega) (by decide), land_split 4 (by omega) (by decide), land_split 4 (by omega) (by decide), land_split 4 (by omega) (by decide), land_15, land_15, land_15, Nat.and_zero, Nat.and_zero, Nat.zero_and]
  omega
theorem pcn_n {x : Nat} : ∀ k : Nat, pcn x (k + 1) = pcn x k + ((x / 2 ^ k % 2 : Nat) : Int) := by
  intro k
  show pcn x k + (if hb x k = true then 1 else 0) = _
  unfold hb
  rw [show ((x : Int).toNat) = x from rfl, show ((k : Int).toNat) = k from rfl, Nat.testBit_eq_decide_div_mod_eq]
  by_cases q : x / 2 ^ k % 2 = 1
  · simp [q]
  · have : x / 2 ^ k % 2 = 0 := by omega
    simp [this]
theorem pcn_4 {x : Nat} (k : Nat) : pcn x (k + 4) = pcn x k + ((pcN (x / 2 ^ k % 16) : Nat) : Int) := by
  have e1 : x / 2 ^ (k + 1) = x / 2 ^ k / 2 := by rw [Nat.div_div_eq_div_mul, Nat.pow_succ]
  have e2 : x / 2 ^ (k + 2) = x / 2 ^ k / 4 := by rw [Nat.div_div_eq_div_mul, show (4 : Nat) = 2 ^ 2 from rfl, ← Nat.pow_add]
  have e3 : x / 2 ^ (k + 3) = x / 2 ^ k / 8 := by rw [Nat.div_div_eq_div_mul, show (8 : Nat) = 2 ^ 3 from rfl, ← Nat.pow_add]
  rw [show k + 4 = (k + 3) + 1 from rfl, pcn_n, show k + 3 = (k + 2) + 1 from rfl, pcn_n, show k + 2 = (k + 1) + 1 from rfl, pcn_n, pcn_n, e1, show k + 1 + 1 = k + 2 from rfl, e2, show k + 2 + 1 = k + 3 from rfl, e3]
  generalize x / 2 ^ k = y
  unfold pcN
  omega
theorem pcn_20 {x : Nat} : pcn x 20 = ((pcN (x % 16) + pcN (x / 16 % 16) + pcN (x / 16 / 16 % 16) + pcN (x / 16 / 16 / 16 % 16) + pcN (x / 16 / 16 / 16 / 16 % 16) : Nat) : Int) := by
  rw [show (20 : Nat) = 16 + 4 from rfl, pcn_4, show (16 : Nat) = 12 + 4 from rfl, pcn_4, show (12 : Nat) = 8 + 4 from rfl, pcn_4, show (8 : Nat) = 4 + 4 from rfl, pcn_4, show (4 : Nat) = 0 + 4 from rfl, pcn_4, show pcn x 0 = 0 from rfl]
  show (0 : Int) + ((pcN (x / 1 % 16) : Nat) : Int) + ((pcN (x / 16 % 16) : Nat) : Int) + ((pcN (x / 256 % 16) : Nat) : Int) + ((pcN (x / 4096 % 16) : Nat) : Int) + ((pcN (x / 65536 % 16) : Nat) : Int) = ((pcN (x % 16) + pcN (x / 16 % 16) + pcN (x / 16 / 16 % 16) + pcN (x / 16 / 16 / 16 % 16) + pcN (x / 16 / 16 / 16 / 16 % 16) : Nat) : Int)
  rw [Nat.div_one, show x / 256 = x / 16 / 16 by omega, show x / 4096 = x / 16 / 16 / 16 by omega, show x / 65536 = x / 16 / 16 / 16 / 16 by omega]
  omega
theorem sp_J_bitCount {x : Int} (h0 : 0 ≤ x) (h1 : x < 1048576) (hq : Q M (some (vI (pcn x 20)))) : Wq 1 0 0 mJ_bitCount 0 [iI x] [] M Q := by
  obtain ⟨x, rfl⟩ : ∃ n : Nat, x = n := ⟨x.toNat, by omega⟩
  refine B_J_bitCount_0 ?_
  have p0 := (st12 (x % 16) (by omega)).2.2
  have p1 := (st12 (x / 16 % 16) (by omega)).2.2
  have p2 := (st12 (x / 16 / 16 % 16) (by omega)).2.2
  have p3 := (st12 (x / 16 / 16 / 16 % 16) (by omega)).2.2
  have p4 := (st12 (x / 16 / 16 / 16 / 16 % 16) (by omega)).2.2
  have sA := st_a (x := x) (by omega)
  rw [pcn_20] at hq
  generalize pcN (x % 16) = a at *
  generalize pcN (x / 16 % 16) = b at *
  generalize pcN (x / 16 / 16 % 16) = c at *
  generalize pcN (x / 16 / 16 / 16 % 16) = d at *
  generalize pcN (x / 16 / 16 / 16 / 16 % 16) = e at *
  have t1 : bAnd (bUshr (x : Int) 1) 1431655765 = ((x / 2 &&& 1431655765 : Nat) : Int) := by
    rw [show bUshr (x : Int) 1 = ((x / 2 ^ 1 : Nat) : Int) from bUshr_n (by omega) 1 (by decide)]
    exact bAnd_n (by omega) (by decide)
  have l1 : x / 2 &&& 1431655765 ≤ x := Nat.le_trans Nat.and_le_left (by omega)
  generalize x / 2 &&& 1431655765 = u at *
  have t2 : (x : Int) - u = ((x - u : Nat) : Int) := by omega
  rw [t1, t2]
  generalize hy : x - u = y at *
  have t3 : bAnd (y : Int) 858993459 = ((y &&& 858993459 : Nat) : Int) := bAnd_n (by omega) (by decide)
  have t4 : bAnd (bUshr (y : Int) 2) 858993459 = ((y / 4 &&& 858993459 : Nat) : Int) := by
    rw [show bUshr (y : Int) 2 = ((y / 2 ^ 2 : Nat) : Int) from bUshr_n (by omega) 2 (by decide)]
    exact bAnd_n (by omega) (by decide)
  have t5 : ((y &&& 858993459 : Nat) : Int) + ((y / 4 &&& 858993459 : Nat) : Int) = ((a + 16 * (b + 16 * (c + 16 * (d + 16 * e))) : Nat) : Int) := by omega
  rw [t3, t4, t5]
  have s3 := st_3 p0 p1 p2 p3 p4
  generalize hz : a + 16 * (b + 16 * (c + 16 * (d + 16 * e))) = z at *
  rw [show bUshr (z : Int) 4 = ((z / 2 ^ 4 : Nat) : Int) from bUshr_n (by omega) 4 (by decide)]
  have t6 : (z : Int) + ((z / 2 ^ 4 : Nat) : Int) = ((z + z / 16 : Nat) : Int) := by omega
  rw [t6, show bAnd ((z + z / 16 : Nat) : Int) 252645135 = ((z + z / 16 &&& 252645135 : Nat) : Int) from bAnd_n (by omega) (by decide), s3]
  generalize hv : a + b + 256 * (c + d + 256 * e) = v at *
  rw [show bUshr (v : Int) 8 = ((v / 2 ^ 8 : Nat) : Int) from bUshr_n (by omega) 8 (by decide)]
  have t7 : (v : Int) + ((v / 2 ^ 8 : Nat) : Int) = ((v + v / 256 : Nat) : Int) := by omega
  rw [t7]
  generalize hr : v + v / 256 = r at *
  rw [show bUshr (r : Int) 16 = ((r / 2 ^ 16 : Nat) : Int) from bUshr_n (by omega) 16 (by decide)]
  have t8 : (r : Int) + ((r / 2 ^ 16 : Nat) : Int) = ((r + r / 65536 : Nat) : Int) := by omega
  rw [t8, show bAnd ((r + r / 65536 : Nat) : Int) 63 = ((r + r / 65536 &&& 63 : Nat) : Int) from bAnd_n (by omega) (by decide), land_63]
  refine ⟨by omega, ?_⟩
  have v1 : v / 256 = c + d + 256 * e := by clear hq sA t1 t2 t3 t4 t5 t6 t7 t8; omega
  have v2 : r / 65536 = e := by clear hq sA t1 t2 t3 t4 t5 t6 t7 t8; omega
  have : (r + r / 65536) % 64 = a + b + c + d + e := by
    rw [v2]
    clear hq sA t1 t2 t3 t4 t5 t6 t7 t8
    omega
  rw [this]
  exact hq
/-! told -/
def o_told (s : St) (k : Int) : St × Int :=
  if k = 0 then (s, sn s 2) else if k = 1 then (s, sn s 3) else if k = 2 then (s, sn s 4) else if k = 3 then (s, pcn (knw (sn s) (sn s 0) (sn s 4).toNat) 20) else if k = 4 then (s, sn s 5) else if k = 5 then (s, sn s 0) else if k = 6 then (s, rsm (sn s) 900) else if k = 7 then (s, sn s 7) else if k = 8 then (s, sn s 6) else if k = 9 then (s, stc s) else fnd s 1
theorem w_told {k : Int} (hw : WfS s) : WfS (o_told s k).1 := by
  unfold o_told
  repeat' split
  all_goals first | exact hw | exact hw.fnd
theorem told_q {k v : Int} (hr : o_told s k = (s, v)) (h : CI s M) (hq : ∀ M', CI (o_told s k).1 M' → FrC M M' → Q M' (some (vI (o_told s k).2))) : Q M (some (vI v)) := by
  rw [hr] at hq
  exact hq M h FrC.rf
theorem told_r {k v : Int} (hr : o_told s k = (s, v)) (h : RI s M) (hq : ∀ M', RI (o_told s k).1 M' → FrR M M' → Q M' (some (vI (o_told s k).2))) : Q M (some (vI v)) := by
  rw [hr] at hq
  exact hq M h FrR.rf
theorem pcn_top {x : Int} {n : Nat} (h : ∀ k : Nat, n ≤ k → hb x k = false) : ∀ k : Nat, n ≤ k → pcn x k = pcn x n
  | 0, q => by rw [show n = 0 by omega]
  | k + 1, q => by
    by_cases e : n = k + 1
    · rw [e]
    · show pcn x k + (if hb x k = true then 1 else 0) = _
      rw [h k (by omega), pcn_top h k (by omega)]
      simp
theorem rsm_le {n : Int → Int} (h : wCal n) : ∀ k : Nat, k ≤ 900 → 0 ≤ rsm n k ∧ rsm n k ≤ k
  | 0, _ => ⟨Int.le_refl _, Int.le_refl _⟩
  | k + 1, q => by
    have := rsm_le h k (by omega)
    have h2 := h.2 k (by omega) (by omega)
    unfold rsm
    omega
theorem c_told {k : Int} (hw : WfS s) (h : CI s M) (hq : ∀ M', CI (o_told s k).1 M' → FrC M M' → Q M' (some (vI (o_told s k).2))) : Wq 3 0 0 mD_told 0 [iR 0, iI k] [] M Q := by
  obtain ⟨d0, dC, dW, dL, dE, dT, dX, dH⟩ := h.2.1
  have we := hw.1.2.2.2.2.1.1
  refine B_D_told_0 h.1 ?_
  rw [dW.1, dL.1, dE.1, dX.1, d0, dC.2.2.2.2, dT.1, dH.1, h.2.2.2.2.2.2.1.1]
  refine ⟨fun c => ?_, fun c => ?_, fun c => ?_, fun c => ?_, fun c => ?_, fun c => ?_, fun c => ?_, fun c => ?_, fun c => ?_, fun c => ?_, fun c => ?_⟩
  · subst c
    exact told_q rfl h hq
  · subst c
    exact told_q rfl h hq
  · subst c
    exact told_q rfl h hq
  · subst c
    refine B_D_knownToday_0 h.1 ?_
    rw [d0]
    refine sp_E_knownOn h.1 we dE (B_D_knownToday_17 (B_D_told_93 ?_))
    have kk := (knw_ok (sn s) (sn s 0) (sn s 4).toNat (by omega)).1
    exact sp_J_bitCount kk.1 kk.2 (B_D_told_96 (told_q rfl h hq))
  · subst c
    exact told_q rfl h hq
  · subst c
    exact told_q rfl h hq
  · subst c
    exact told_q rfl h hq
  · subst c
    exact told_q rfl h hq
  · subst c
    exact told_q rfl h hq
  · subst c
    exact told_q rfl h hq
  · refine c_fnd h (by decide) (by decide) (by decide) ?_ hq
    unfold o_told
    rw [if_neg (by omega), if_neg (by omega), if_neg (by omega), if_neg (by omega), if_neg (by omega), if_neg (by omega), if_neg (by omega), if_neg (by omega), if_neg (by omega), if_neg (by omega)]
theorem r_told {k : Int} (hw : WfS s) (h : RI s M) (hq : ∀ M', RI (o_told s k).1 M' → FrR M M' → Q M' (some (vI (o_told s k).2))) : Wq 3 0 0 mM_told 0 [iR 80, iI k, none, none] [] M Q := by
  have e' := h.2.1
  have we := hw.1.2.2.2.2.1.1
  have wc := hw.1.2.1
  refine B_M_told_0 h.1 ?_
  rw [e', h.2.2.2.2.2.2.2.2.2.1]
  refine ⟨fun c => ?_, fun c => ?_, fun c => ?_, fun c => ?_, fun c => ?_, fun c => ?_, fun c => ?_, fun c => ?_, fun c => ?_, fun c => ?_, fun c => ?_⟩
  · subst c
    exact told_r rfl h hq
  · subst c
    exact told_r rfl h hq
  · subst c
    exact told_r rfl h hq
  · subst c
    obtain ⟨kk, kb⟩ := knw_ok (sn s) (sn s 0) (sn s 4).toNat (by omega)
    have key : ∀ (f : Nat) (i : Nat), (i : Int) ≤ sn s 4 → (sn s 4).toNat - i = f → (0 ≤ pcn (knw (sn s) (sn s 0) (sn s 4).toNat) i ∧ pcn (knw (sn s) (sn s 0) (sn s 4).toNat) i ≤ i) → Wq 3 0 0 mM_told 79 [iR 80, iI 3, iI (pcn (knw (sn s) (sn s 0) (sn s 4).toNat) i), iI i] [] M Q := by
      intro f
      induction f with
      | zero =>
        intro i h1 hf hb'
        refine B_M_told_79 h.1 ?_
        rw [e']
        refine ⟨fun c => ?_, fun c => by omega⟩
        have e1 : (sn s 4).toNat = i := by omega
        have e2 := pcn_top (x := knw (sn s) (sn s 0) (sn s 4).toNat) (n := i) (fun k hk => by rw [kb, decide_eq_false (by omega), Bool.false_and]) 20 (by omega)
        rw [← e2]
        exact told_r rfl h hq
      | succ f ih =>
        intro i h1 hf hb'
        refine B_M_told_79 h.1 ?_
        rw [e']
        refine ⟨fun c => by omega, fun c => ?_⟩
        refine sp_M_knownOn h.1 we e' (B_M_told_100 ?_)
        have ih := ih (i + 1) (by omega) (by omega)
        rw [show (((i + 1 : Nat) : Int)) = (i : Int) + 1 by omega] at ih
        refine ⟨by omega, fun c2 => ⟨by omega, ?_⟩, fun c2 => ⟨by omega, ?_⟩⟩
        · rw [show pcn (knw (sn s) (sn s 0) (sn s 4).toNat) (i + 1) = pcn (knw (sn s) (sn s 0) (sn s 4).toNat) i + 1 by show _ + (if _ then _ else _) = _; rw [if_pos c2]] at ih
          exact ih (by omega)
        · rw [show pcn (knw (sn s) (sn s 0) (sn s 4).toNat) (i + 1) = pcn (knw (sn s) (sn s 0) (sn s 4).toNat) i by show _ + (if _ then _ else _) = _; rw [if_neg c2]; omega] at ih
          exact ih (by omega)
    exact key _ 0 (by omega) rfl ⟨Int.le_refl _, Int.le_refl _⟩
  · subst c
    exact told_r rfl h hq
  · subst c
    exact told_r rfl h hq
  · subst c
    have key : ∀ (f : Nat) (i : Nat), i ≤ 900 → 900 - i = f → Wq 3 0 0 mM_told 138 [iR 80, iI 6, iI (rsm (sn s) i), iI i] [] M Q := by
      intro f
      induction f with
      | zero =>
        intro i h1 hf
        refine B_M_told_138 h.1 ⟨fun c => ?_, fun c => by omega⟩
        have : i = 900 := by omega
        subst this
        exact told_r rfl h hq
      | succ f ih =>
        intro i h1 hf
        have ih := ih (i + 1) (by omega) (by omega)
        rw [show (((i + 1 : Nat) : Int)) = (i : Int) + 1 by omega] at ih
        refine B_M_told_138 h.1 ?_
        rw [e']
        have := rsm_le wc i h1
        have h2 := wc.2 i (by omega) (by omega)
        exact ⟨fun c => by omega, fun c => ⟨by omega, ih⟩⟩
    exact key _ 0 (by omega) rfl
  · subst c
    exact told_r rfl h hq
  · subst c
    exact told_r rfl h hq
  · subst c
    exact told_r rfl h hq
  · refine r_fnd h (by decide) ?_ hq
    unfold o_told
    rw [if_neg (by omega), if_neg (by omega), if_neg (by omega), if_neg (by omega), if_neg (by omega), if_neg (by omega), if_neg (by omega), if_neg (by omega), if_neg (by omega), if_neg (by omega)]
end OPE
