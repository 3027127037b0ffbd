/-! ===== ways of LINKS ===== -/
section RCH
variable {s : St} {M : Mm} {Q : Mm → Option Mv → Prop}
def lnkB (n : Int → Int) (i j : Int) : Bool := decide (0 ≤ lat n i j (n 3).toNat)
theorem lnkB_i {n : Int → Int} {i j : Int} (wl : wLnk n) : lnkB n i j = true ↔ lnk n i j := by
  unfold lnkB
  rw [decide_eq_true_iff]
  exact lat_lnk wl
/-- whether a way of k LINKS or fewer goes from x to b -/
def prd (n : Int → Int) (b : Int) : Nat → Int → Bool
  | 0, x => decide (x = b)
  | k + 1, x => prd n b k x || (List.range 16).any (fun w => lnkB n x w && prd n b k w)
theorem lnk_in {n : Int → Int} {i j : Int} (wl : wLnk n) (h : lnk n i j) : (0 ≤ i ∧ i < n 2) ∧ 0 ≤ j ∧ j < n 2 := by
  obtain ⟨k, k0, k1, e1, e2⟩ := h
  have := wl.2.1 k k0 k1
  omega
theorem prd_s {n : Int → Int} {b x : Int} {k : Nat} (ww : wWrk n) (wl : wLnk n) : prd n b (k + 1) x = true ↔ prd n b k x = true ∨ ∃ w, lnk n x w ∧ prd n b k w = true := by
  show (prd n b k x || (List.range 16).any (fun w => lnkB n x w && prd n b k w)) = true ↔ _
  rw [Bool.or_eq_true, List.any_eq_true]
  refine or_congr Iff.rfl ⟨fun ⟨w, _, h⟩ => ?_, fun ⟨w, h1, h2⟩ => ?_⟩
  · rw [Bool.and_eq_true] at h
    exact ⟨w, (lnkB_i wl).mp h.1, h.2⟩
  · have hi := lnk_in wl h1
    have h2' := ww.1
    refine ⟨w.toNat, List.mem_range.mpr (by omega), ?_⟩
    rw [Bool.and_eq_true, show ((w.toNat : Nat) : Int) = w by omega]
    exact ⟨(lnkB_i wl).mpr h1, h2⟩
theorem prd_le {n : Int → Int} {b x : Int} (ww : wWrk n) (wl : wLnk n) {k : Nat} (h : prd n b k x = true) : ∀ d : Nat, prd n b (k + d) x = true
  | 0 => h
  | d + 1 => (prd_s ww wl).mpr (Or.inl (prd_le ww wl h d))
theorem prd_snoc {n : Int → Int} {w x : Int} (ww : wWrk n) (wl : wLnk n) (hl : lnk n w x) : ∀ (k : Nat) (a : Int), prd n w k a = true → prd n x (k + 1) a = true
  | 0, a, h => by
    have : a = w := of_decide_eq_true h
    subst this
    exact (prd_s ww wl).mpr (Or.inr ⟨x, hl, decide_eq_true rfl⟩)
  | k + 1, a, h => by
    rcases (prd_s ww wl).mp h with h | ⟨c, h1, h2⟩
    · exact (prd_s ww wl).mpr (Or.inl (prd_snoc ww wl hl k a h))
    · exact (prd_s ww wl).mpr (Or.inr ⟨c, h1, prd_snoc ww wl hl k c h2⟩)
theorem prd_last {n : Int → Int} {x : Int} (ww : wWrk n) (wl : wLnk n) : ∀ (k : Nat) (a : Int), prd n x (k + 1) a = true → prd n x k a = true ∨ ∃ w, lnk n w x ∧ prd n w k a = true
  | 0, a, h => by
    rcases (prd_s ww wl).mp h with h | ⟨c, h1, h2⟩
    · exact Or.inl h
    · have : c = x := of_decide_eq_true h2
      subst this
      exact Or.inr ⟨a, h1, decide_eq_true rfl⟩
  | k + 1, a, h => by
    rcases (prd_s ww wl).mp h with h | ⟨c, h1, h2⟩
    · exact Or.inl h
    · rcases prd_last ww wl k c h2 with h3 | ⟨w, h3, h4⟩
      · exact Or.inl ((prd_s ww wl).mpr (Or.inr ⟨c, h1, h3⟩))
      · exact Or.inr ⟨w, h3, (prd_s ww wl).mpr (Or.inr ⟨c, h1, h4⟩)⟩
/-- of the first N, how many have a smaller key than c -/
def cntk (key : Int → Int) (c : Int) : Nat → Int
  | 0 => 0
  | y + 1 => cntk key c y + (if key y < c then 1 else 0)
theorem cntk_le {key : Int → Int} {c : Int} : ∀ N : Nat, 0 ≤ cntk key c N ∧ cntk key c N ≤ N
  | 0 => ⟨Int.le_refl _, Int.le_refl _⟩
  | y + 1 => by
    have := cntk_le (key := key) (c := c) y
    unfold cntk
    split <;> omega
theorem cntk_lt {key : Int → Int} {c : Int} {x : Nat} (h : ¬ key x < c) : ∀ N : Nat, x < N → cntk key c N < N
  | 0, q => by omega
  | y + 1, q => by
    have h1 := cntk_le (key := key) (c := c) y
    unfold cntk
    by_cases e : x = y
    · subst e
      rw [if_neg h]
      omega
    · have := cntk_lt h y (by omega)
      split <;> omega
theorem cntk_mo {key : Int → Int} {c c' : Int} (h : c ≤ c') : ∀ N : Nat, cntk key c N ≤ cntk key c' N
  | 0 => Int.le_refl _
  | y + 1 => by
    have := cntk_mo (key := key) h y
    unfold cntk
    by_cases e : key y < c
    · rw [if_pos e, if_pos (by omega)]
      omega
    · rw [if_neg e]
      split <;> omega
theorem cntk_st {key : Int → Int} {c' : Int} {x : Nat} (h : key x < c') : ∀ N : Nat, x < N → cntk key (key x) N < cntk key c' N
  | 0, q => by omega
  | y + 1, q => by
    unfold cntk
    by_cases e : x = y
    · subst e
      have := cntk_mo (key := key) (Int.le_of_lt h) x
      rw [if_neg (by omega), if_pos h]
      omega
    · have := cntk_st h y (by omega)
      by_cases e : key y < key x
      · rw [if_pos e, if_pos (by omega)]
        omega
      · rw [if_neg e]
        split <;> omega
/-- a rank as low as can be -/
theorem rk_n2 {n : Int → Int} (h2 : 0 ≤ n 2) {key : Int → Int} (hl : ∀ i j, lnk n i j → ((0 ≤ i ∧ i < n 2) ∧ 0 ≤ j ∧ j < n 2) ∧ key i < key j) : ∃ rk : Int → Int, (∀ w, 0 ≤ rk w ∧ (0 < n 2 → rk w < n 2)) ∧ ∀ i j, lnk n i j → rk i < rk j := by
  refine ⟨fun w => if 0 ≤ w ∧ w < n 2 then cntk key (key w) (n 2).toNat else 0, fun w => ?_, fun i j h => ?_⟩
  · dsimp only
    split
    · rename_i c
      have h1 := cntk_le (key := key) (c := key w) (n 2).toNat
      have h2 := cntk_lt (key := key) (c := key w) (x := w.toNat) (by rw [show ((w.toNat : Nat) : Int) = w by omega]; omega) (n 2).toNat (by omega)
      omega
    · omega
  · obtain ⟨h1, h3⟩ := hl i j h
    dsimp only
    rw [if_pos h1.1, if_pos h1.2]
    have := cntk_st (key := key) (c' := key j) (x := i.toNat) (by rw [show ((i.toNat : Nat) : Int) = i by omega]; exact h3) (n 2).toNat (by omega)
    rw [show ((i.toNat : Nat) : Int) = i by omega] at this
    exact this
theorem rk_of {n : Int → Int} (ww : wWrk n) (wl : wLnk n) : ∃ rk : Int → Int, (∀ w, 0 ≤ rk w ∧ (0 < n 2 → rk w < n 2)) ∧ ∀ i j, lnk n i j → rk i < rk j := by
  obtain ⟨rk, r1, r2⟩ := wl.2.2.2
  exact rk_n2 ww.1.1 (fun i j h => ⟨lnk_in wl h, r2 i j h⟩)
theorem prd_rk {n : Int → Int} {b : Int} (ww : wWrk n) (wl : wLnk n) {rk : Int → Int} (r2 : ∀ i j, lnk n i j → rk i < rk j) : ∀ (k : Nat) (x : Int), prd n b k x = true → rk x ≤ rk b ∧ prd n b (rk b - rk x).toNat x = true
  | 0, x, h => by
    have : x = b := of_decide_eq_true h
    subst this
    refine ⟨Int.le_refl _, ?_⟩
    rw [show (rk x - rk x).toNat = 0 by omega]
    exact h
  | k + 1, x, h => by
    rcases (prd_s ww wl).mp h with h | ⟨c, h1, h2⟩
    · exact prd_rk ww wl r2 k x h
    · obtain ⟨h3, h4⟩ := prd_rk ww wl r2 k c h2
      have h5 := r2 x c h1
      refine ⟨by omega, ?_⟩
      have h6 := prd_le ww wl ((prd_s ww wl).mpr (Or.inr ⟨c, h1, h4⟩)) ((rk b - rk x).toNat - ((rk b - rk c).toNat + 1))
      rw [show (rk b - rk c).toNat + 1 + ((rk b - rk x).toNat - ((rk b - rk c).toNat + 1)) = (rk b - rk x).toNat by omega] at h6
      exact h6
theorem prd_n2 {n : Int → Int} {b x : Int} (ww : wWrk n) (wl : wLnk n) (hb : 0 ≤ b ∧ b < n 2) {k : Nat} (h : prd n b k x = true) {m : Nat} (hm : (n 2).toNat ≤ m) : prd n b m x = true := by
  obtain ⟨rk, r1, r2⟩ := rk_of ww wl
  obtain ⟨h1, h2⟩ := prd_rk ww wl r2 k x h
  have q1 := r1 b
  have q2 := r1 x
  have h3 := prd_le ww wl h2 (m - (rk b - rk x).toNat)
  rw [show (rk b - rk x).toNat + (m - (rk b - rk x).toNat) = m by omega] at h3
  exact h3
theorem two16 : (2 : Int) ^ 16 = 65536 := by decide
theorem or_lt {x y : Int} (h0 : 0 ≤ x) (h1 : x < 65536) (g0 : 0 ≤ y) (g1 : y < 65536) : 0 ≤ bOr x y ∧ bOr x y < 65536 := by
  have nn := or_nn h0 (by omega) g0 (by omega : y < 2147483648)
  refine ⟨nn, ?_⟩
  rw [← two16] at h1 g1 ⊢
  refine lt_of_hb nn (fun m hm => ?_)
  rw [or_hb h0 (by omega) g0 (by omega), hb_big h1 hm, hb_big g1 hm]
  rfl
theorem one_lt {e : Int} (e0 : 0 ≤ e) (e1 : e < 16) : 0 ≤ bShl 1 e ∧ bShl 1 e < 65536 ∧ ∀ m : Nat, hb (bShl 1 e) m = decide ((m : Int) = e) := by
  have h := one_shl (e := e) e0 (by omega)
  refine ⟨by rw [h]; exact Int.le_of_lt (two_pos _), ?_, fun m => ?_⟩
  · rw [h, ← two16]
    have : (2 : Nat) ^ e.toNat < 2 ^ 16 := Nat.pow_lt_pow_right (by decide) (by omega)
    have h2 : ((2 ^ e.toNat : Nat) : Int) = (2 : Int) ^ e.toNat := by simp
    omega
  · rw [h, hb_two]
    apply decide_eq_decide.mpr
    omega
theorem sp_W_leadsTo {n : Int → Int} {a b : Int} (hS : RefOK M) (ww : wWrk n) (wl : wLnk n) (hc : gI M 5 6 = n 2) (hbf : ∀ w, 0 ≤ w → w < n 2 → (0 ≤ gI M 9 w ∧ gI M 9 w < 65536) ∧ ∀ i : Nat, (hb (gI M 9 w) i = true ↔ lnk n i w)) (ha : 0 ≤ a ∧ a < n 2) (hb' : 0 ≤ b ∧ b < n 2) (hq : Q M (some (vI (if prd n b (n 2).toNat a = true then 1 else 0)))) : Wq 2 0 0 mW_leadsTo 0 [iR 5, iI a, iI b, none, none, none, none] [] M Q := by
  have h2 := ww.1
  refine B_W_leadsTo_0 ?_
  have inner : ∀ (i : Nat) (set : Int), (0 ≤ set ∧ set < 65536) → (∀ x : Nat, hb set x = prd n b i x) → (∀ wd : Int, (0 ≤ wd ∧ wd < 65536) → (∀ x : Nat, hb wd x = prd n b (i + 1) x) → Wq 2 0 0 mW_leadsTo 7 [iR 5, iI a, iI b, iI wd, iI ((i : Int) + 1), none, none] [] M Q) → i < 16 → ∀ (f : Nat) (h : Nat) (wd : Int), (h : Int) ≤ n 2 → (n 2).toNat - h = f → (0 ≤ wd ∧ wd < 65536) → (∀ x : Nat, hb wd x = true ↔ prd n b i x = true ∨ ∃ w : Nat, w < h ∧ lnk n x w ∧ prd n b i w = true) → Wq 2 0 0 mW_leadsTo 22 [iR 5, iI a, iI b, iI set, iI i, iI wd, iI h] [] M Q := by
    intro i set s0 s1 go hi f
    induction f with
    | zero =>
      intro h wd h1 hf w0 w1
      refine B_W_leadsTo_22 hS ?_
      rw [hc]
      refine ⟨fun c => ⟨by omega, go wd w0 (fun x => ?_)⟩, fun c => by omega⟩
      rw [Bool.eq_iff_iff, w1, prd_s ww wl]
      refine or_congr Iff.rfl ⟨fun ⟨w, _, q1, q2⟩ => ⟨w, q1, q2⟩, fun ⟨w, q1, q2⟩ => ?_⟩
      have := lnk_in wl q1
      exact ⟨w.toNat, by omega, by rw [show ((w.toNat : Nat) : Int) = w by omega]; exact q1, by rw [show ((w.toNat : Nat) : Int) = w by omega]; exact q2⟩
    | succ f ih =>
      intro h wd h1 hf w0 w1
      have ih := fun wd' => ih (h + 1) wd' (by omega) (by omega)
      rw [show (((h + 1 : Nat) : Int)) = (h : Int) + 1 by omega] at ih
      obtain ⟨b0, b1⟩ := hbf h (by omega) (by omega)
      refine B_W_leadsTo_22 hS ?_
      rw [hc]
      refine ⟨fun c => by omega, fun c => ⟨by omega, fun c2 => ⟨by omega, ih _ (or_lt w0.1 w0.2 b0.1 b0.2) (fun x => ?_)⟩, fun c2 => ⟨by omega, ih _ (or_lt w0.1 w0.2 (by decide) (by decide)) (fun x => ?_)⟩⟩⟩
      · rw [or_hb w0.1 (by omega) b0.1 (by omega), Bool.or_eq_true, w1, b1]
        rw [s1] at c2
        constructor
        · rintro ((q | ⟨w, q1, q2, q3⟩) | q)
          · exact Or.inl q
          · exact Or.inr ⟨w, by omega, q2, q3⟩
          · exact Or.inr ⟨h, by omega, q, c2⟩
        · rintro (q | ⟨w, q1, q2, q3⟩)
          · exact Or.inl (Or.inl q)
          · by_cases e : w = h
            · subst e
              exact Or.inr q2
            · exact Or.inl (Or.inr ⟨w, by omega, q2, q3⟩)
      · rw [or_0 w0.1 (by omega), w1]
        rw [s1] at c2
        refine or_congr Iff.rfl ⟨fun ⟨w, q1, q2, q3⟩ => ⟨w, by omega, q2, q3⟩, fun ⟨w, q1, q2, q3⟩ => ⟨w, ?_, q2, q3⟩⟩
        by_cases e : w = h
        · subst e
          exact absurd q3 c2
        · omega
  have outer : ∀ (f : Nat) (i : Nat) (set : Int), (i : Int) ≤ n 2 → (n 2).toNat - i = f → (0 ≤ set ∧ set < 65536) → (∀ x : Nat, hb set x = prd n b i x) → Wq 2 0 0 mW_leadsTo 7 [iR 5, iI a, iI b, iI set, iI i, none, none] [] M Q := by
    intro f
    induction f with
    | zero =>
      intro i set h1 hf s0 s1
      refine B_W_leadsTo_7 ?_
      rw [hc]
      have e := s1 a.toNat
      rw [show ((a.toNat : Nat) : Int) = a by omega, show i = (n 2).toNat by omega] at e
      rw [e]
      refine ⟨fun c => ⟨by omega, fun c2 => ?_, fun c2 => ?_⟩, fun c => by omega⟩
      · rw [if_pos c2] at hq
        exact hq
      · rw [if_neg c2] at hq
        exact hq
    | succ f ih =>
      intro i set h1 hf s0 s1
      refine B_W_leadsTo_7 ?_
      rw [hc]
      refine ⟨fun c => by omega, fun c => ?_⟩
      refine inner i set s0 s1 (fun wd w0 w1 => ?_) (by omega) _ 0 set (by omega) rfl s0 (fun x => ?_)
      · have ih := ih (i + 1) wd (by omega) (by omega) w0 w1
        rw [show (((i + 1 : Nat) : Int)) = (i : Int) + 1 by omega] at ih
        exact ih
      · rw [s1]
        exact ⟨fun q => Or.inl q, fun q => q.elim id (fun ⟨w, q1, _⟩ => by omega)⟩
  obtain ⟨o0, o1, o2⟩ := one_lt (e := b) hb'.1 (by omega)
  exact outer _ 0 _ (by omega) rfl ⟨o0, o1⟩ o2
end RCH
