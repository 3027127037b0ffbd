/-! ===== what the names of a text stand for ===== -/
section NMS
variable {s : St} {M : Mm} {Q : Mm → Option Mv → Prop} {n : Int → Int}
/-- the set of those that are known today -/
def kn0 (n : Int → Int) : Int := knw n (n 0) (n 4).toNat
/-- whether one of the first k, known and of another CAUSE, has a day in common with EVENT e -/
def twK (n : Int → Int) (e : Int) : Nat → Bool
  | 0 => false
  | k + 1 => twK n e k || (hb (kn0 n) k && decide (n (149 + 7 * (k : Int)) ≠ n (149 + 7 * e) ∧ n (150 + 7 * (k : Int)) < n (150 + 7 * e) + n (151 + 7 * e) ∧ n (150 + 7 * e) < n (150 + 7 * (k : Int)) + n (151 + 7 * (k : Int))))
theorem twK_m {e : Int} {j : Nat} (h : twK n e j = true) : ∀ k : Nat, j ≤ k → twK n e k = true
  | 0, hk => by
    have : j = 0 := by omega
    rw [this] at h
    exact h
  | k + 1, hk => by
    by_cases c : j = k + 1
    · rw [← c]
      exact h
    · unfold twK
      rw [twK_m h k (by omega), Bool.true_or]
def two (n : Int → Int) (e : Int) : Bool := twK n e (n 4).toNat
theorem kn0_ok (we : wEvt n) : 0 ≤ kn0 n ∧ kn0 n < 1048576 := (knw_ok n (n 0) (n 4).toNat (by have := we.1; omega)).1
set_option maxRecDepth 20000 in
theorem sp_M_isTwo {e : Int} (hS : RefOK M) (wd : wDay n) (we : wEvt n) (e' : gI M 81 = n) (e0 : 0 ≤ e ∧ e < n 4) (hq : Q M (some (vI (if two n e = true then 1 else 0)))) : Wq 3 0 0 mM_isTwo 0 [iR 80, iI e, none, none, none, none] [] M Q := by
  have h4 := we.1
  have ko := kn0_ok we
  have d0 := wd.2
  obtain ⟨v1, v2, v3, v4, v5, v6, -⟩ := we.2 e e0.1 e0.2
  refine B_M_isTwo_0 hS ?_
  rw [e']
  refine sp_M_knownOn hS h4 e' (B_M_isTwo_10 ?_)
  have key : ∀ (f : Nat) (k : Nat), (k : Int) ≤ n 4 → (n 4).toNat - k = f → Wq 3 0 0 mM_isTwo 16 [iR 80, iI e, iI (kn0 n), iI (if twK n e k = true then 1 else 0), iI k, none] [] M Q := by
    intro f
    induction f with
    | zero =>
      intro k hk hf
      refine B_M_isTwo_16 hS ?_
      rw [e']
      refine ⟨fun _ => ⟨by split <;> omega, ?_⟩, fun z => by omega⟩
      unfold two at hq
      rw [show (n 4).toNat = k by omega] at hq
      exact hq
    | succ f ih =>
      intro k hk hf
      have ih := ih (k + 1) (by omega) (by omega)
      rw [show (((k + 1 : Nat) : Int)) = (k : Int) + 1 by omega] at ih
      obtain ⟨u1, u2, u3, u4, u5, u6, -⟩ := we.2 k (by omega) (by omega)
      unfold twK at ih
      refine B_M_isTwo_16 hS ?_
      rw [e']
      cases tk : twK n e k
      · rw [tk, Bool.false_or] at ih
        rw [if_neg (by decide)]
        have y1 : hb (kn0 n) k = true → n (149 + 7 * (k : Int)) ≠ n (149 + 7 * e) → (n (150 + 7 * (k : Int)) < n (150 + 7 * e) + n (151 + 7 * e) ∧ n (150 + 7 * e) < n (150 + 7 * (k : Int)) + n (151 + 7 * (k : Int))) → Wq 3 0 0 mM_isTwo 16 [iR 80, iI e, iI (kn0 n), iI 1, iI ((k : Int) + 1), none] [] M Q := fun a b c => by
          rw [a, Bool.true_and, decide_eq_true ⟨b, c⟩, if_pos rfl] at ih
          exact ih
        have y0 : ¬ (hb (kn0 n) k = true ∧ n (149 + 7 * (k : Int)) ≠ n (149 + 7 * e) ∧ n (150 + 7 * (k : Int)) < n (150 + 7 * e) + n (151 + 7 * e) ∧ n (150 + 7 * e) < n (150 + 7 * (k : Int)) + n (151 + 7 * (k : Int))) → Wq 3 0 0 mM_isTwo 16 [iR 80, iI e, iI (kn0 n), iI 0, iI ((k : Int) + 1), none] [] M Q := fun a => by
          rw [if_neg (by rw [Bool.and_eq_true, decide_eq_true_iff]; exact a)] at ih
          exact ih
        clear ih
        repeat' (first | exact y1 (by assumption) (by assumption) ⟨by omega, by omega⟩ | exact y0 (fun q => by omega) | exact y0 (fun q => absurd q.1 (by assumption)) | exact y0 (fun q => q.2.1 (by rw [show (k : Int) = e by assumption])) | omega | apply And.intro | intro _)
      · rw [tk, Bool.true_or, if_pos rfl] at ih
        rw [if_pos rfl]
        repeat' (first | exact ih | omega | apply And.intro | intro _)
  exact key _ 0 (by omega) rfl
set_option maxRecDepth 20000 in
theorem sp_E_meetsOther {e : Int} (hS : RefOK M) (wd : wDay n) (we : wEvt n) (dE : cEvt n (gI M 13) (gI M 14) (gI M 15) (gI M 16) (gI M 17) (gI M 18) (gI M 19) (gI M 12 7)) (e0 : 0 ≤ e ∧ e < n 4) (hq : Q M (some (vI (if two n e = true then 1 else 0)))) : Wq 2 0 0 mE_meetsOther 0 [iR 12, iI e, iI (kn0 n), none, none] [] M Q := by
  have h4 := we.1
  have ko := kn0_ok we
  have d0 := wd.2
  obtain ⟨v1, v2, v3, v4, v5, v6, -⟩ := we.2 e e0.1 e0.2
  obtain ⟨b1, b2, b3, b4, -⟩ := dE.2 e e0.1 e0.2
  refine B_E_meetsOther_0 ?_
  have key : ∀ (f : Nat) (k : Nat), (k : Int) ≤ n 4 → (n 4).toNat - k = f → twK n e k = false → Wq 2 0 0 mE_meetsOther 2 [iR 12, iI e, iI (kn0 n), iI k, none] [] M Q := by
    intro f
    induction f with
    | zero =>
      intro k hk hf tk
      refine B_E_meetsOther_2 hS ?_
      rw [dE.1]
      refine ⟨fun _ => ?_, fun z => by omega⟩
      unfold two at hq
      rw [show (n 4).toNat = k by omega, tk, if_neg (by decide)] at hq
      exact hq
    | succ f ih =>
      intro k hk hf tk
      have ih := ih (k + 1) (by omega) (by omega)
      rw [show (((k + 1 : Nat) : Int)) = (k : Int) + 1 by omega] at ih
      obtain ⟨u1, u2, u3, u4, u5, u6, -⟩ := we.2 k (by omega) (by omega)
      obtain ⟨a1, a2, a3, a4, -⟩ := dE.2 k (by omega) (by omega)
      have tm := fun h => twK_m (n := n) (e := e) (j := k + 1) h (n 4).toNat (by omega)
      unfold twK at ih
      have tm : (twK n e k || (hb (kn0 n) k && decide (n (149 + 7 * (k : Int)) ≠ n (149 + 7 * e) ∧ n (150 + 7 * (k : Int)) < n (150 + 7 * e) + n (151 + 7 * e) ∧ n (150 + 7 * e) < n (150 + 7 * (k : Int)) + n (151 + 7 * (k : Int))))) = true → twK n e (n 4).toNat = true := tm
      rw [tk, Bool.false_or] at ih tm
      have y1 : hb (kn0 n) k = true → n (149 + 7 * (k : Int)) ≠ n (149 + 7 * e) → (n (150 + 7 * (k : Int)) < n (150 + 7 * e) + n (151 + 7 * e) ∧ n (150 + 7 * e) < n (150 + 7 * (k : Int)) + n (151 + 7 * (k : Int))) → Q M (some (vI 1)) := fun a b c => by
        have t := tm (by rw [a, Bool.true_and, decide_eq_true ⟨b, c⟩])
        unfold two at hq
        rw [t, if_pos rfl] at hq
        exact hq
      have y0 : ¬ (hb (kn0 n) k = true ∧ n (149 + 7 * (k : Int)) ≠ n (149 + 7 * e) ∧ n (150 + 7 * (k : Int)) < n (150 + 7 * e) + n (151 + 7 * e) ∧ n (150 + 7 * e) < n (150 + 7 * (k : Int)) + n (151 + 7 * (k : Int))) → Wq 2 0 0 mE_meetsOther 2 [iR 12, iI e, iI (kn0 n), iI ((k : Int) + 1), none] [] M Q := fun a => ih (by
        rw [Bool.eq_false_iff]
        intro z
        rw [Bool.and_eq_true, decide_eq_true_iff] at z
        exact a z)
      clear ih tm
      refine B_E_meetsOther_2 hS ?_
      rw [dE.1, a2, a3, a4, b2, b3, b4]
      repeat' (first | exact y1 (by assumption) (by assumption) ⟨by omega, by omega⟩ | exact y0 (fun q => by omega) | exact y0 (fun q => absurd q.1 (by assumption)) | omega | apply And.intro | intro _)
  exact key _ 0 (by omega) rfl rfl
/-- what the names stand for, of EVENT e -/
def nuE (n : Int → Int) (e : Int) : Int → Int := fun i => if i = 0 then n (149 + 7 * e) else if i = 1 then n (151 + 7 * e) else if i = 2 then n (10 + 3 * n (148 + 7 * e)) else if i = 3 then (if 0 ≤ n (152 + 7 * e) then n (152 + 7 * e) - n (150 + 7 * e) else 999) else if i = 4 then (if two n e = true then 1 else 0) else flt n 0 (n (148 + 7 * e))
theorem sp_M_named {i e : Int} (hS : RefOK M) (wd : wDay n) (wc : wCal n) (ww : wWrk n) (wl : wLnk n) (we : wEvt n) (e' : gI M 81 = n) (ca : rCac n M) (e0 : 0 ≤ e ∧ e < n 4) (hq : ∀ M', RW n M M' → Q M' (some (vI (nuE n e i)))) : Wq 8 0 0 mM_named 0 [iR 80, iI i, iI e] [] M Q := by
  have h4 := we.1
  have h2 := ww.1
  have d0 := wd.2
  obtain ⟨v1, v2, v3, v4, v5, v6, -⟩ := we.2 e e0.1 e0.2
  have self := hq M (RW.rf hS ca)
  unfold nuE at self hq
  refine B_M_named_0 hS ?_
  rw [e']
  refine ⟨fun z => ⟨by omega, ?_⟩, fun z => ⟨by omega, ?_⟩, fun z => ⟨by omega, ?_⟩, fun z => ⟨by omega, fun y => ⟨by omega, ?_⟩, fun y => ?_⟩, fun z => ?_, fun z => ⟨by omega, ?_⟩⟩
  · rw [if_pos z] at self
    exact self
  · rw [if_neg (by omega), if_pos z] at self
    exact self
  · rw [if_neg (by omega), if_neg (by omega), if_pos z] at self
    exact self
  · rw [if_neg (by omega), if_neg (by omega), if_neg (by omega), if_pos z, if_pos y] at self
    exact self
  · rw [if_neg (by omega), if_neg (by omega), if_neg (by omega), if_pos z, if_neg y] at self
    exact self
  · rw [if_neg (by omega), if_neg (by omega), if_neg (by omega), if_neg (by omega), if_pos z] at self
    refine sp_M_isTwo hS wd we e' e0 (B_M_named_95 ⟨fun y => ?_, fun y => ?_⟩)
    · split at y
      · omega
      · rename_i q
        rw [if_neg q] at self
        exact self
    · split at y
      · rename_i q
        rw [if_pos q] at self
        exact self
      · exact absurd rfl y
  · refine sp_M_floatOf hS wc ww wl we e' ca v1.1 v1.2 (fun M' g => B_M_named_114 ?_)
    have := hq M' g
    rw [if_neg (by omega), if_neg (by omega), if_neg (by omega), if_neg (by omega), if_neg (by omega)] at this
    exact this
end NMS
