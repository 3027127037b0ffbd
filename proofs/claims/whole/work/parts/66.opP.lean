/-! ===== window ===== -/
section OPP
variable {s : St} {M : Mm} {Q : Mm → Option Mv → Prop} {n : Int → Int}
/-- the days that the first j EVENTS with p last -/
def dsm (n : Int → Int) (p : Nat → Bool) : Nat → Int
  | 0 => 0
  | j + 1 => dsm n p j + (if p j = true then n (151 + 7 * (j : Int)) else 0)
theorem dsm_b {p : Nat → Bool} (we : wEvt n) : ∀ j : Nat, (j : Int) ≤ n 4 → 0 ≤ dsm n p j ∧ dsm n p j ≤ 30 * j
  | 0, _ => ⟨Int.le_refl _, Int.le_refl _⟩
  | j + 1, h => by
    have := dsm_b (p := p) we j (by omega)
    have hj := (we.2 j (by omega) (by omega)).2.2.2.1
    unfold dsm
    split <;> omega
theorem dsm_cg {p q : Nat → Bool} : ∀ j : Nat, (∀ k : Nat, k < j → p k = q k) → dsm n p j = dsm n q j
  | 0, _ => rfl
  | j + 1, h => by
    unfold dsm
    rw [dsm_cg j (fun k hk => h k (by omega)), h j (by omega)]
theorem sp_E_daysTogether {st : Int} (hS : RefOK M) (we : wEvt n) (dE : cEvt n (gI M 13) (gI M 14) (gI M 15) (gI M 16) (gI M 17) (gI M 18) (gI M 19) (gI M 12 7)) (a0 : 0 ≤ st ∧ st < 2147483648) (hq : Q M (some (vI (dsm n (fun k => hb st k) (n 4).toNat)))) : Wq 2 0 0 mE_daysTogether 0 [iR 12, iI st, none, none] [] M Q := by
  have h4 := we.1
  refine B_E_daysTogether_0 ?_
  have key : ∀ (f : Nat) (h : Nat), (h : Int) ≤ n 4 → (n 4).toNat - h = f → Wq 2 0 0 mE_daysTogether 4 [iR 12, iI st, iI (dsm n (fun k => hb st k) h), iI h] [] M Q := by
    intro f
    induction f with
    | zero =>
      intro h h1 hf
      refine B_E_daysTogether_4 hS ?_
      rw [dE.1]
      refine ⟨fun _ => ?_, fun c => by omega⟩
      rw [show (n 4).toNat = h by omega] at hq
      exact hq
    | succ f ih =>
      intro h h1 hf
      have ih := ih (h + 1) (by omega) (by omega)
      rw [show (((h + 1 : Nat) : Int)) = (h : Int) + 1 by omega] at ih
      unfold dsm at ih
      have a2 := (dE.2 h (by omega) (by omega)).2.2.2.1
      have v4 := (we.2 h (by omega) (by omega)).2.2.2.1
      have db := dsm_b (p := fun k => hb st k) we h h1
      refine B_E_daysTogether_4 hS ?_
      rw [dE.1, a2]
      refine ⟨fun c => by omega, fun _ => ⟨by omega, fun c => ⟨by omega, ?_⟩, fun c => ⟨by omega, ?_⟩⟩⟩
      · rw [if_pos c] at ih
        exact ih
      · rw [if_neg c, Int.add_zero] at ih
        exact ih
  exact key _ 0 (by omega) rfl
/-- what is left of 'lost' behind the parts of the first k causes -/
def prL (lost sum : Int) (ds : Int → Int) : Nat → Int
  | 0 => lost
  | k + 1 => prL lost sum ds k - Int.tdiv (lost * ds k) sum
/-- how many of the first k causes come ahead of cause c -/
def prB (lost sum : Int) (ds : Int → Int) (c : Int) : Nat → Int
  | 0 => 0
  | k + 1 => prB lost sum ds c k + (if Int.tmod (lost * ds c) sum < Int.tmod (lost * ds k) sum ∨ (Int.tmod (lost * ds k) sum = Int.tmod (lost * ds c) sum ∧ (k : Int) < c) then 1 else 0)
def prt (lost sum : Int) (ds : Int → Int) (c : Int) : Int := Int.tdiv (lost * ds c) sum + (if prB lost sum ds c 4 < prL lost sum ds 4 then 1 else 0)
theorem mul_b {a b : Int} (a0 : -462660 ≤ a) (a1 : a ≤ 462660) (b0 : 0 ≤ b) (b1 : b ≤ 600) : -277596000 ≤ a * b ∧ a * b ≤ 277596000 := by
  have h1 : a * b ≤ 462660 * b := Int.mul_le_mul_of_nonneg_right a1 b0
  have h2 : -462660 * b ≤ a * b := Int.mul_le_mul_of_nonneg_right a0 b0
  omega
theorem td_b {x y K : Int} (y0 : 0 < y) (h0 : -K ≤ x) (h1 : x ≤ K) : -K ≤ Int.tdiv x y ∧ Int.tdiv x y ≤ K := by
  by_cases c : 0 ≤ x
  · rw [Int.tdiv_eq_ediv_of_nonneg c]
    have := Int.ediv_le_self y c
    have := Int.ediv_nonneg c (show 0 ≤ y by omega)
    omega
  · have e : Int.tdiv x y = - (Int.tdiv (-x) y) := by rw [Int.neg_tdiv, Int.neg_neg]
    rw [e, Int.tdiv_eq_ediv_of_nonneg (by omega)]
    have := Int.ediv_le_self y (show 0 ≤ -x by omega)
    have := Int.ediv_nonneg (show 0 ≤ -x by omega) (show 0 ≤ y by omega)
    omega
theorem tm_b {x y : Int} (y0 : 0 < y) : -y < Int.tmod x y ∧ Int.tmod x y < y := by
  by_cases c : 0 ≤ x
  · rw [Int.tmod_eq_emod_of_nonneg c]
    have := Int.emod_nonneg x (show y ≠ 0 by omega)
    have := Int.emod_lt_of_pos x y0
    omega
  · have e : Int.tmod x y = - (Int.tmod (-x) y) := by rw [Int.neg_tmod, Int.neg_neg]
    rw [e, Int.tmod_eq_emod_of_nonneg (by omega)]
    have := Int.emod_nonneg (-x) (show y ≠ 0 by omega)
    have := Int.emod_lt_of_pos (-x) y0
    omega
theorem prL_b {lost sum : Int} {ds : Int → Int} (s0 : 0 < sum) (l0 : -462660 ≤ lost) (l1 : lost ≤ 462660) (hd : ∀ k, 0 ≤ k → k < 4 → 0 ≤ ds k ∧ ds k ≤ 600) : ∀ k : Nat, k ≤ 4 → -(462660 + 277596000 * (k : Int)) ≤ prL lost sum ds k ∧ prL lost sum ds k ≤ 462660 + 277596000 * (k : Int)
  | 0, _ => by
    show -(462660 + 277596000 * ((0 : Nat) : Int)) ≤ lost ∧ lost ≤ _
    omega
  | k + 1, h => by
    have ih := prL_b s0 l0 l1 hd k (by omega)
    have dk := hd k (by omega) (by omega)
    have m := mul_b l0 l1 dk.1 dk.2
    have t := td_b s0 m.1 m.2
    unfold prL
    omega
theorem prB_b {lost sum c : Int} {ds : Int → Int} : ∀ k : Nat, 0 ≤ prB lost sum ds c k ∧ prB lost sum ds c k ≤ k
  | 0 => ⟨Int.le_refl _, Int.le_refl _⟩
  | k + 1 => by
    have := prB_b (lost := lost) (sum := sum) (c := c) (ds := ds) k
    unfold prB
    split <;> omega
theorem sp_M_partOf {lost sum c : Int} {ds : Int → Int} (hS : RefOK M) (s0 : 0 < sum) (s1 : sum ≤ 600) (l0 : -462660 ≤ lost) (l1 : lost ≤ 462660) (hd : ∀ k, 0 ≤ k → k < 4 → 0 ≤ ds k ∧ ds k ≤ 600) (c0 : 0 ≤ c ∧ c < 4) (he : ∀ k, 0 ≤ k → k < 4 → gI M 93 k = ds k) (hq : Q M (some (vI (prt lost sum ds c)))) : Wq 1 0 0 mM_partOf 0 [iR 80, iI lost, iI sum, iI c, none, none, none, none, none] [] M Q := by
  refine B_M_partOf_0 ?_
  have dc := hd c c0.1 c0.2
  have mc := mul_b l0 l1 dc.1 dc.2
  have tc := td_b s0 mc.1 mc.2
  have rc := tm_b (x := lost * ds c) s0
  have l4 := prL_b s0 l0 l1 hd 4 (by omega)
  have lp2 : ∀ (f : Nat) (k : Nat), k + f = 4 → Wq 1 0 0 mM_partOf 52 [iR 80, iI lost, iI sum, iI c, iI (prL lost sum ds 4), iI (Int.tmod (lost * ds c) sum), iI (prB lost sum ds c k), iI k, none] [] M Q := by
    intro f
    induction f with
    | zero =>
      intro k hk
      refine B_M_partOf_52 hS ?_
      rw [he c c0.1 c0.2]
      unfold prt at hq
      rw [show k = 4 by omega]
      refine ⟨fun _ => ⟨by omega, fun z => ⟨by omega, ?_⟩, fun z => ⟨by omega, ?_⟩⟩, fun z => by omega⟩
      · rw [if_neg (by omega), Int.add_zero] at hq
        exact hq
      · rw [if_pos (by omega)] at hq
        exact hq
    | succ f ih =>
      intro k hk
      have ih := ih (k + 1) (by omega)
      rw [show (((k + 1 : Nat) : Int)) = (k : Int) + 1 by omega] at ih
      unfold prB at ih
      have dk := hd k (by omega) (by omega)
      have mk := mul_b l0 l1 dk.1 dk.2
      have rk := tm_b (x := lost * ds k) s0
      have pb := prB_b (lost := lost) (sum := sum) (c := c) (ds := ds) k
      refine B_M_partOf_52 hS ?_
      rw [he k (by omega) (by omega)]
      refine ⟨fun z => by omega, fun _ => ⟨⟨by omega, by omega, by omega, by omega⟩, fun z => ⟨by omega, ?_⟩, fun z => ⟨fun y => ⟨by omega, ?_⟩, fun y => ⟨fun t => ⟨by omega, ?_⟩, fun t => ⟨by omega, ?_⟩⟩⟩⟩⟩
      · rw [if_pos (Or.inl z)] at ih
        exact ih
      · rw [if_neg (by omega), Int.add_zero] at ih
        exact ih
      · rw [if_neg (by omega), Int.add_zero] at ih
        exact ih
      · rw [if_pos (Or.inr ⟨y, by omega⟩)] at ih
        exact ih
  have lp1 : ∀ (f : Nat) (k : Nat), k + f = 4 → Wq 1 0 0 mM_partOf 6 [iR 80, iI lost, iI sum, iI c, iI (prL lost sum ds k), iI k, none, none, none] [] M Q := by
    intro f
    induction f with
    | zero =>
      intro k hk
      refine B_M_partOf_6 hS ?_
      rw [he c c0.1 c0.2]
      rw [show k = 4 by omega]
      exact ⟨fun _ => ⟨by omega, lp2 4 0 (by omega)⟩, fun z => by omega⟩
    | succ f ih =>
      intro k hk
      have ih := ih (k + 1) (by omega)
      rw [show (((k + 1 : Nat) : Int)) = (k : Int) + 1 by omega] at ih
      have dk := hd k (by omega) (by omega)
      have mk := mul_b l0 l1 dk.1 dk.2
      have tk := td_b s0 mk.1 mk.2
      have lb := prL_b s0 l0 l1 hd k (by omega)
      refine B_M_partOf_6 hS ?_
      rw [he k (by omega) (by omega)]
      exact ⟨fun z => by omega, fun _ => ⟨by omega, ih⟩⟩
  exact lp1 4 0 (by omega)
/-- the days of a set's EVENTS of a cause -/
def dsC (n : Int → Int) (st c : Int) : Int := dsm n (fun k => hb st k && decide (n (149 + 7 * (k : Int)) = c)) (n 4).toNat
def dsA (n : Int → Int) (st : Int) : Int := dsm n (fun k => hb st k) (n 4).toNat
theorem dsC_b {st c : Int} (we : wEvt n) : 0 ≤ dsC n st c ∧ dsC n st c ≤ 600 := by
  have h4 := we.1
  have := dsm_b (p := fun k : Nat => hb st k && decide (n (149 + 7 * (k : Int)) = c)) we (n 4).toNat (by omega)
  unfold dsC
  omega
theorem dsA_b {st : Int} (we : wEvt n) : 0 ≤ dsA n st ∧ dsA n st ≤ 600 := by
  have h4 := we.1
  have := dsm_b (p := fun k : Nat => hb st k) we (n 4).toNat (by omega)
  unfold dsA
  omega
theorem sp_ofd {st c : Int} {Q : Mm → Option Mv → Prop} (hS : RefOK M) (we : wEvt n) (dE : cEvt n (gI M 13) (gI M 14) (gI M 15) (gI M 16) (gI M 17) (gI M 18) (gI M 19) (gI M 12 7)) (hq : Q M (some (vI (dsC n st c)))) : Wq 2 0 0 mE_daysTogether 0 [iR 12, iI (csS n st c), none, none] [] M Q := by
  have h4 := we.1
  have co := csS_ok (n := n) (all := st) (c := c) h4.2
  refine sp_E_daysTogether hS we dE (by omega) ?_
  rw [dsm_cg (q := fun k => hb st k && decide (n (149 + 7 * (k : Int)) = c)) _ (fun k hk => by rw [co.2, decide_eq_true hk, Bool.true_and])]
  exact hq
theorem sp_D_partOf {lost st c : Int} (hS : RefOK M) (we : wEvt n) (d : site0 n M) (a0 : 0 ≤ st ∧ st < 2147483648) (l0 : -462660 ≤ lost) (l1 : lost ≤ 462660) (c0 : 0 ≤ c ∧ c < 4) (hq : Q M (some (vI (if dsA n st = 0 then 0 else prt lost (dsA n st) (dsC n st) c)))) : Wq 3 0 0 mD_partOf 0 [iR 0, iI c, iI lost, iI st, none, none, none, none, none, none, none, none] [] M Q := by
  have dE := d.2.2.2.2.1
  have ab := dsA_b (n := n) (st := st) we
  have hd : ∀ k, 0 ≤ k → k < 4 → 0 ≤ dsC n st k ∧ dsC n st k ≤ 600 := fun k _ _ => dsC_b we
  refine B_D_partOf_0 hS (sp_E_daysTogether hS we dE a0 (B_D_partOf_15 ⟨fun s0 => ?_, fun s0 => ?_⟩))
  · rw [if_neg (show ¬ dsA n st = 0 from fun z => by
      have s0 : 0 < dsA n st := s0
      omega)] at hq
    refine sp_E_ofCause hS we dE a0 (B_D_partOf_34 (sp_ofd hS we dE (B_D_partOf_37 ?_)))
    have s0 : 0 < dsA n st := s0
    have dc := hd c c0.1 c0.2
    have mc := mul_b l0 l1 dc.1 dc.2
    have tc := td_b s0 mc.1 mc.2
    have rc := tm_b (x := lost * dsC n st c) s0
    have l4 := prL_b s0 l0 l1 hd 4 (by omega)
    refine ⟨by omega, ?_⟩
    have key : ∀ (f : Nat) (k : Nat), k + f = 4 → Wq 3 0 0 mD_partOf 49 [iR 0, iI c, iI lost, iI st, iR 12, iI (dsA n st), iI (lost * dsC n st c), iI (prL lost (dsA n st) (dsC n st) k), iI (prB lost (dsA n st) (dsC n st) c k), iI k, none, none] [] M Q := by
      intro f
      induction f with
      | zero =>
        intro k hk
        rw [show k = 4 by omega]
        unfold prt at hq
        refine B_D_partOf_49 ⟨fun _ => ⟨by omega, fun z => ⟨by omega, ?_⟩, fun z => ⟨by omega, ?_⟩⟩, fun z => by omega⟩
        · rw [if_neg (by omega), Int.add_zero] at hq
          exact hq
        · rw [if_pos (by omega)] at hq
          exact hq
      | succ f ih =>
        intro k hk
        have ih := ih (k + 1) (by omega)
        rw [show (((k + 1 : Nat) : Int)) = (k : Int) + 1 by omega] at ih
        unfold prB prL at ih
        have dk := hd k (by omega) (by omega)
        have mk := mul_b l0 l1 dk.1 dk.2
        have tk := td_b s0 mk.1 mk.2
        have rk := tm_b (x := lost * dsC n st k) s0
        have lb := prL_b s0 l0 l1 hd k (by omega)
        have pb := prB_b (lost := lost) (sum := dsA n st) (c := c) (ds := dsC n st) k
        refine B_D_partOf_49 ⟨fun z => by omega, fun _ => sp_E_ofCause hS we dE a0 (B_D_partOf_66 (sp_ofd hS we dE (B_D_partOf_69 ?_)))⟩
        generalize Int.tmod (lost * dsC n st k) (dsA n st) = u at ih rk ⊢
        generalize Int.tmod (lost * dsC n st c) (dsA n st) = v at ih rc ⊢
        have y : (v < u ∨ (u = v ∧ (k : Int) < c)) → Wq 3 0 0 mD_partOf 49 [iR 0, iI c, iI lost, iI st, iR 12, iI (dsA n st), iI (lost * dsC n st c), iI (prL lost (dsA n st) (dsC n st) k - Int.tdiv (lost * dsC n st k) (dsA n st)), iI (prB lost (dsA n st) (dsC n st) c k + 1), iI ((k : Int) + 1), none, none] [] M Q := fun z => by
          rw [if_pos z] at ih
          exact ih
        have no : ¬ (v < u ∨ (u = v ∧ (k : Int) < c)) → Wq 3 0 0 mD_partOf 49 [iR 0, iI c, iI lost, iI st, iR 12, iI (dsA n st), iI (lost * dsC n st c), iI (prL lost (dsA n st) (dsC n st) k - Int.tdiv (lost * dsC n st k) (dsA n st)), iI (prB lost (dsA n st) (dsC n st) c k), iI ((k : Int) + 1), none, none] [] M Q := fun z => by
          rw [if_neg z, Int.add_zero] at ih
          exact ih
        clear ih
        repeat' (first | exact y (by omega) | exact no (by omega) | omega | apply And.intro | intro _)
    exact key 4 0 (by omega)
  · rw [if_pos (show dsA n st = 0 from by
      have s0 : ¬ 0 < dsA n st := s0
      omega)] at hq
    exact hq
end OPP
