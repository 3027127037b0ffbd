/-! ===== unlink ===== -/
section OPK
variable {s : St} {M : Mm} {Q : Mm → Option Mv → Prop}
/-- which of the first h LINKS goes from i to j -/
def lat (n : Int → Int) (i j : Int) : Nat → Int
  | 0 => -1
  | h + 1 => if n (58 + 3 * (h : Int)) = i ∧ n (59 + 3 * (h : Int)) = j then h else lat n i j h
theorem lat_hit {n : Int → Int} {i j : Int} (wl : wLnk n) {t : Nat} (h1 : n (58 + 3 * (t : Int)) = i) (h2 : n (59 + 3 * (t : Int)) = j) : ∀ h : Nat, (h : Int) ≤ n 3 → t < h → lat n i j h = t
  | 0, _, q => by omega
  | h + 1, hh, q => by
    unfold lat
    split
    · rename_i c
      have := wl.2.2.1 h t (by omega) (by omega) (by omega) (by omega) (c.1.trans h1.symm) (c.2.trans h2.symm)
      exact this
    · rename_i c
      refine lat_hit wl h1 h2 h (by omega) ?_
      rcases Nat.lt_or_ge t h with q2 | q2
      · exact q2
      · have : t = h := by omega
        subst this
        exact absurd ⟨h1, h2⟩ c
theorem lat_miss {n : Int → Int} {i j : Int} : ∀ h : Nat, (∀ t : Nat, t < h → ¬ (n (58 + 3 * (t : Int)) = i ∧ n (59 + 3 * (t : Int)) = j)) → lat n i j h = -1
  | 0, _ => rfl
  | h + 1, q => by
    unfold lat
    rw [if_neg (q h (by omega))]
    exact lat_miss h (fun t ht => q t (by omega))
theorem lat_ok {n : Int → Int} {i j : Int} : ∀ h : Nat, 0 ≤ lat n i j h → lat n i j h < h ∧ n (58 + 3 * lat n i j h) = i ∧ n (59 + 3 * lat n i j h) = j
  | 0, q => absurd q (show ¬ (0 : Int) ≤ -1 by decide)
  | h + 1, q => by
    unfold lat at q ⊢
    split
    · rename_i c
      exact ⟨by omega, c⟩
    · rename_i c
      rw [if_neg c] at q
      have := lat_ok h q
      exact ⟨by omega, this.2⟩
theorem lat_lnk {n : Int → Int} {i j : Int} (wl : wLnk n) : 0 ≤ lat n i j (n 3).toNat ↔ lnk n i j := by
  have h3 := wl.1
  refine ⟨fun q => ?_, fun ⟨k, k0, k1, e1, e2⟩ => ?_⟩
  · have := lat_ok _ q
    exact ⟨_, q, by omega, this.2⟩
  · obtain ⟨t, rfl⟩ : ∃ t : Nat, k = t := ⟨k.toNat, by omega⟩
    rw [lat_hit wl e1 e2 _ (by omega) (by omega)]
    omega
theorem sp_M_linkAt {n : Int → Int} {i j : Int} (hS : RefOK M) (wl : wLnk n) (e' : gI M 81 = n) (hq : Q M (some (vI (lat n i j (n 3).toNat)))) : Wq 1 0 0 mM_linkAt 0 [iR 80, iI i, iI j, none] [] M Q := by
  have h3 := wl.1
  refine B_M_linkAt_0 ?_
  have key : ∀ (f : Nat) (h : Nat), (h : Int) ≤ n 3 → (n 3).toNat - h = f → (∀ t : Nat, t < h → ¬ (n (58 + 3 * (t : Int)) = i ∧ n (59 + 3 * (t : Int)) = j)) → Wq 1 0 0 mM_linkAt 2 [iR 80, iI i, iI j, iI h] [] M Q := by
    intro f
    induction f with
    | zero =>
      intro h h1 hf hm
      refine B_M_linkAt_2 hS ?_
      rw [e']
      refine ⟨fun c => ?_, fun c => by omega⟩
      rw [show (n 3).toNat = h by omega, lat_miss h hm] at hq
      exact hq
    | succ f ih =>
      intro h h1 hf hm
      have ih := ih (h + 1) (by omega) (by omega)
      rw [show (((h + 1 : Nat) : Int)) = (h : Int) + 1 by omega] at ih
      have go : ¬ (n (58 + 3 * (h : Int)) = i ∧ n (59 + 3 * (h : Int)) = j) → Wq 1 0 0 mM_linkAt 2 [iR 80, iI i, iI j, iI ((h : Int) + 1)] [] M Q := by
        intro c
        refine ih (fun t ht => ?_)
        by_cases e : t = h
        · rw [e]
          exact c
        · exact hm t (by omega)
      refine B_M_linkAt_2 hS ?_
      rw [e']
      refine ⟨fun c => by omega, fun c => ⟨by omega, fun c2 => ⟨by omega, go (fun z => c2 z.1)⟩, fun c2 => ⟨by omega, fun c3 => ⟨by omega, go (fun z => c3 z.2)⟩, fun c3 => ?_⟩⟩⟩
      rw [lat_hit wl c2 c3 (n 3).toNat (by omega) (by omega)] at hq
      exact hq
  exact key _ 0 (by omega) rfl (fun t ht => by omega)
/-- 'now' without LINK k, as far as x of the numbers behind it are moved up -/
def unP (n : Int → Int) (k y : Int) : Int → Int := fun x => if x = 3 then n 3 - 1 else if 58 + 3 * k ≤ x ∧ x < 58 + y then n (x + 3) else n x
def unN (n : Int → Int) (k : Int) : Int → Int := unP n k (3 * (n 3 - 1))
theorem unN_3 {n : Int → Int} {k : Int} : unN n k 3 = n 3 - 1 := by
  unfold unN unP
  rw [if_pos rfl]
theorem unN_o {n : Int → Int} {k i : Int} (h3 : i ≠ 3) (h : i < 58 + 3 * k ∨ 58 + 3 * (n 3 - 1) ≤ i) : unN n k i = n i := (if_neg h3).trans (if_neg (by omega))
theorem unN_s {n : Int → Int} {k i : Int} (h3 : i ≠ 3) (h1 : 58 + 3 * k ≤ i) (h2 : i < 58 + 3 * (n 3 - 1)) : unN n k i = n (i + 3) := (if_neg h3).trans (if_pos ⟨h1, h2⟩)
/-- LINK t of the one is LINK t or t + 1 of the other -/
theorem unN_at {n : Int → Int} {k t : Int} (k0 : 0 ≤ k) (t0 : 0 ≤ t) (t1 : t < n 3 - 1) : ∃ u, (0 ≤ u ∧ u < n 3 ∧ u ≠ k ∧ (u = if t < k then t else t + 1)) ∧ unN n k (58 + 3 * t) = n (58 + 3 * u) ∧ unN n k (59 + 3 * t) = n (59 + 3 * u) ∧ unN n k (60 + 3 * t) = n (60 + 3 * u) := by
  by_cases c : t < k
  · refine ⟨t, ⟨t0, by omega, by omega, by rw [if_pos c]⟩, unN_o (by omega) (by omega), unN_o (by omega) (by omega), unN_o (by omega) (by omega)⟩
  · refine ⟨t + 1, ⟨by omega, by omega, by omega, by rw [if_neg c]⟩, ?_, ?_, ?_⟩
    · rw [unN_s (by omega) (by omega) (by omega)]
      congr 1
      omega
    · rw [unN_s (by omega) (by omega) (by omega)]
      congr 1
      omega
    · rw [unN_s (by omega) (by omega) (by omega)]
      congr 1
      omega
theorem unN_lnk {n : Int → Int} {k a b : Int} (wl : wLnk n) (k0 : 0 ≤ k) (k1 : k < n 3) : lnk (unN n k) a b ↔ lnk n a b ∧ ¬ (a = n (58 + 3 * k) ∧ b = n (59 + 3 * k)) := by
  refine ⟨fun ⟨t, t0, t1, e1, e2⟩ => ?_, fun ⟨⟨u, u0, u1, e1, e2⟩, hne⟩ => ?_⟩
  · rw [unN_3] at t1
    obtain ⟨u, ⟨u0, u1, u2, -⟩, f1, f2, -⟩ := unN_at (n := n) k0 t0 t1
    rw [f1] at e1
    rw [f2] at e2
    refine ⟨⟨u, u0, u1, e1, e2⟩, fun z => u2 ?_⟩
    exact wl.2.2.1 u k u0 u1 k0 k1 (e1.trans z.1) (e2.trans z.2)
  · have hu : u ≠ k := by
      intro z
      subst z
      exact hne ⟨e1.symm, e2.symm⟩
    obtain ⟨v, ⟨v0, v1, v2, v3⟩, f1, f2, -⟩ := unN_at (n := n) (k := k) (t := if u < k then u else u - 1) k0 (by split <;> omega) (by split <;> omega)
    have hv : v = u := by
      rw [v3]
      by_cases c : u < k
      · rw [if_pos c, if_pos c]
      · rw [if_neg c, if_neg (by omega)]
        omega
    subst hv
    refine ⟨_, ?_, ?_, f1.trans e1, f2.trans e2⟩
    · split <;> omega
    · rw [unN_3]
      split <;> omega
def o_unlink (s : St) (i j : Int) : St × Int :=
  if (0 ≤ i ∧ i < sn s 2) ∧ 0 ≤ j ∧ j < sn s 2 then
    (if 0 ≤ lat (sn s) i j (sn s 3).toNat then (wN s (unN (sn s) (lat (sn s) i j (sn s 3).toNat)), sn s (60 + 3 * lat (sn s) i j (sn s 3).toNat)) else fnd s 2)
  else fnd s 1
theorem unN_wf {n : Int → Int} {k : Int} (h : WfN n) (k0 : 0 ≤ k) (k1 : k < n 3) : WfN (unN n k) := by
  obtain ⟨wd, wc, ww, wl, we, wt, wx, wh⟩ := h
  have h3 := wl.1
  have o : ∀ i, i ≠ 3 → (i < 58 ∨ 148 ≤ i) → unN n k i = n i := fun i h1 h2 => unN_o h1 (by omega)
  refine ⟨wd.cg (o 0 (by decide) (by decide)), wc.cg (o 1 (by decide) (by decide)) (fun i a b => o i (by omega) (by omega)), ww.cg (o 2 (by decide) (by decide)) (fun i a b => o i (by omega) (by omega)), ?_, we.cg (o 0 (by decide) (by decide)) (o 2 (by decide) (by decide)) (o 4 (by decide) (by decide)) (fun i a b => o i (by omega) (by omega)), wt.cg (o 7 (by decide) (by decide)) (fun i a b => o i (by omega) (by omega)), wx.cg (o 5 (by decide) (by decide)) (fun i a b => o i (by omega) (by omega)), wh.cg (o 2 (by decide) (by decide)) (o 6 (by decide) (by decide)) ww.1.2 (fun i a b => o i (by omega) (by omega)) (fun i a b => o i (by omega) (by omega))⟩
  obtain ⟨rk, r1, r2⟩ := wl.2.2.2
  unfold wLnk
  rw [unN_3, o 2 (by decide) (by decide)]
  refine ⟨by omega, fun t t0 t1 => ?_, fun t u t0 t1 u0 u1 e1 e2 => ?_, rk, r1, fun a b z => r2 a b ((unN_lnk wl k0 k1).mp z).1⟩
  · obtain ⟨u, ⟨u0, u1, -⟩, f1, f2, f3⟩ := unN_at (n := n) k0 t0 t1
    rw [f1, f2, f3]
    exact wl.2.1 u u0 u1
  · obtain ⟨v, ⟨v0, v1, -, v3⟩, f1, f2, -⟩ := unN_at (n := n) k0 t0 t1
    obtain ⟨v', ⟨v0', v1', -, v3'⟩, f1', f2', -⟩ := unN_at (n := n) k0 u0 u1
    rw [f1, f1'] at e1
    rw [f2, f2'] at e2
    have := wl.2.2.1 v v' v0 v1 v0' v1' e1 e2
    rw [v3, v3'] at this
    split at this <;> split at this <;> omega
theorem w_unlink {i j : Int} (hw : WfS s) : WfS (o_unlink s i j).1 := by
  unfold o_unlink
  split
  · split
    · rename_i c c2
      have h3 := hw.1.2.2.2.1.1
      have := lat_ok _ c2
      exact hw.to (unN_wf hw.1 c2 (by omega))
    · exact hw.fnd
  · exact hw.fnd
theorem c_unlink {i j : Int} (hw : WfS s) (h : CI s M) (hq : ∀ M', CI (o_unlink s i j).1 M' → FrC M M' → Q M' (some (vI (o_unlink s i j).2))) : Wq 3 0 0 mD_unlink 0 [iR 0, iI i, iI j, none] [] M Q := by
  obtain ⟨d0, dC, dW, dL, dE, dT, dX, dH⟩ := h.2.1
  obtain ⟨wd, wc, ww, wl, we, wt, wx, wh⟩ := hw.1
  have h2 := ww.1
  have h3 := wl.1
  refine B_D_unlink_0 h.1 ?_
  rw [dW.1]
  refine ⟨fun c => ⟨fun c2 => ?_, fun c2 => c_fnd h (by decide) (by decide) (by decide) (if_neg (fun z => c2 z.2)) hq⟩, fun c => c_fnd h (by decide) (by decide) (by decide) (if_neg (fun z => c z.1)) hq⟩
  obtain ⟨b1, b2⟩ := dL.2.1 j c2.1 c2.2
  have bi := b2 i.toNat
  rw [show ((i.toNat : Nat) : Int) = i by omega] at bi
  refine ⟨by omega, fun c3 => ?_, fun c3 => c_fnd h (by decide) (by decide) (by decide) ((if_pos ⟨c, c2⟩).trans (if_neg (fun z => c3 (bi.mpr ((lat_lnk wl).mp z))))) hq⟩
  have hk := (lat_lnk wl).mpr (bi.mp c3)
  rw [show o_unlink s i j = _ from (if_pos ⟨c, c2⟩).trans (if_pos hk)] at hq
  obtain ⟨k1, k2, k3⟩ := lat_ok _ hk
  generalize lat (sn s) i j (sn s 3).toNat = k at hk k1 k2 k3 hq
  have k1' : k < sn s 3 := by omega
  have lg := dL.2.2.1 k hk k1'
  rw [k2, k3] at lg
  refine B_W_loosen_0 h.1 ?_
  rw [lg, dL.1]
  refine ⟨by omega, B_D_unlink_53 ?_⟩
  have o : ∀ x, x ≠ 3 → (x < 58 ∨ 148 ≤ x) → unN (sn s) k x = sn s x := fun x h1 h2 => unN_o h1 (by omega)
  have nl : ∀ a b, lnk (unN (sn s) k) a b ↔ lnk (sn s) a b ∧ ¬ (a = i ∧ b = j) := by
    intro a b
    rw [unN_lnk wl hk k1', k2, k3]
  have e1 : bShl 1 i = (2 : Int) ^ i.toNat := one_shl c.1 (by omega)
  have p0 := two_pos i.toNat
  have p1 : (2 : Int) ^ i.toNat < 2147483648 := two_lt (by omega)
  refine hq _ (h.to h.1 ⟨d0.trans (o 0 (by decide) (by decide)).symm, dC.cg (o 1 (by decide) (by decide)) (fun x a b => o x (by omega) (by omega)), ?_, ?_, dE.cg we.1.2 (o 4 (by decide) (by decide)) (fun x a b => o x (by omega) (by omega)), dT.cg wt.1.2 (o 7 (by decide) (by decide)) (fun x a b => o x (by omega) (by omega)), dX.cg wx.1.2 (o 5 (by decide) (by decide)) (fun x a b => o x (by omega) (by omega)), dH.cg wh.1.2 (o 6 (by decide) (by decide)) (fun x a b => o x (by omega) (by omega))⟩ (fun b hb => ?_) rfl) (fun a x ha => ?_)
  · exact dW.cg ww.1.2 (o 2 (by decide) (by decide)) (fun x a b => o x (by omega) (by omega))
  · obtain ⟨l1, l2, l3, l4, l5, l6⟩ := dL
    unfold cLnk
    rw [unN_3, o 2 (by decide) (by decide)]
    refine ⟨gI_s, fun w w0 w1 => ?_, fun t t0 t1 => ?_, ?_, ?_, ?_⟩
    · rw [gI_ot (by decide), gI_up, e1]
      by_cases e : w = j
      · subst e
        rw [up_s]
        have hh : ∀ m : Nat, hb (bAnd (gI M 9 w) (bXor ((2 : Int) ^ i.toNat) (-1))) m = (hb (gI M 9 w) m && !decide (m = i.toNat)) := by
          intro m
          rw [andn_hb b1.1 (by omega) (by omega) p1, hb_two]
        have nn : 0 ≤ bAnd (gI M 9 w) (bXor ((2 : Int) ^ i.toNat) (-1)) := and_nn _ b1.1 (by omega)
        refine ⟨⟨nn, ?_⟩, fun m => ?_⟩
        · have : (65536 : Int) = (2 : Int) ^ 16 := by decide
          rw [this]
          refine lt_of_hb nn (fun m hm => ?_)
          rw [hh, hb_big (n := 16) (by omega) hm, Bool.false_and]
        · rw [hh, nl, ← b2 m, Bool.and_eq_true]
          refine and_congr Iff.rfl ?_
          rw [Bool.not_eq_true', decide_eq_false_iff_not]
          omega
      · rw [up_n e]
        obtain ⟨z1, z2⟩ := l2 w w0 w1
        refine ⟨z1, fun m => (z2 m).trans ?_⟩
        rw [nl]
        exact ⟨fun z => ⟨z, fun y => e y.2⟩, fun z => z.1⟩
    · obtain ⟨u, ⟨u0, u1, -⟩, f1, f2, f3⟩ := unN_at (n := sn s) hk t0 t1
      rw [f1, f2, f3]
      exact l3 u u0 u1
    · intro p p0 p1
      rw [o 2 (by decide) (by decide)] at p1 ⊢
      exact l4 p p0 p1
    · intro p q p0 p1 q0 q1
      rw [o 2 (by decide) (by decide)] at p1 q1
      exact l5 p q p0 p1 q0 q1
    · intro p q p0 p1 q0 q1 z
      rw [o 2 (by decide) (by decide)] at p1 q1
      exact l6 p q p0 p1 q0 q1 ((nl _ _).mp z).1
  · rw [gI_ot (by omega), gI_ot (by omega)]
  · rw [gI_ot (by omega), gI_ot (by omega)]
theorem r_unlink {i j : Int} (hw : WfS s) (h : RI s M) (hq : ∀ M', RI (o_unlink s i j).1 M' → FrR M M' → Q M' (some (vI (o_unlink s i j).2))) : Wq 3 0 0 mM_unlink 0 [iR 80, iI i, iI j, none, none, none] [] M Q := by
  have e' := h.2.1
  obtain ⟨wd, wc, ww, wl, we, wt, wx, wh⟩ := hw.1
  have h2 := ww.1
  have h3 := wl.1
  refine B_M_unlink_0 h.1 ?_
  rw [e']
  refine ⟨h2.1, fun c => ⟨h2.1, fun c2 => ?_, fun c2 => r_fnd h (by decide) (if_neg (fun z => c2 z.2)) hq⟩, fun c => r_fnd h (by decide) (if_neg (fun z => c z.1)) hq⟩
  refine sp_M_linkAt h.1 wl e' (B_M_unlink_31 h.1 ?_)
  by_cases hk : 0 ≤ lat (sn s) i j (sn s 3).toNat
  · rw [show o_unlink s i j = _ from (if_pos ⟨c, c2⟩).trans (if_pos hk)] at hq
    obtain ⟨k1, k2, k3⟩ := lat_ok _ hk
    generalize lat (sn s) i j (sn s 3).toNat = k at hk k1 k2 k3 hq ⊢
    rw [e']
    refine ⟨fun _ => ⟨by omega, ?_⟩, fun z => absurd hk z⟩
    have key : ∀ (f : Nat) (y : Int) (M' : Mm), 3 * k ≤ y → y ≤ 3 * (sn s 3 - 1) → (3 * (sn s 3 - 1) - y).toNat = f → RefOK M' → (∀ c : Nat, c ≠ 81 → gI M' c = gI M c) → gL M' = gL M → gI M' 81 = unP (sn s) k y → Wq 3 0 0 mM_unlink 73 [iR 80, iI i, iI j, iI k, iI (sn s (60 + 3 * k)), iI y] [] M' Q := by
      intro f
      induction f with
      | zero =>
        intro y M' hy1 hy2 hf g0 g1 g2 g3
        refine B_M_unlink_73 g0 ?_
        rw [g3, show unP (sn s) k y 3 = sn s 3 - 1 from if_pos rfl]
        refine ⟨by omega, fun c => ?_, fun c => by omega⟩
        refine sp_M_changed g0 (fun M2 m1 m2 m3 m4 m5 => B_M_unlink_118 ?_)
        have ey : y = 3 * (sn s 3 - 1) := by omega
        rw [ey] at g3
        refine hq _ (h.chg (n' := unN (sn s) k) (M1 := M') ?_ g3 g1 m1 m3 m4 m5) (FrR.chg (M1 := M') (fun a x ha => ⟨by rw [g1 a (by omega)], by rw [g2]⟩) m1 m2)
        rw [unN_o (by decide) (by omega)]
        exact h2.2
      | succ f ih =>
        intro y M' hy1 hy2 hf g0 g1 g2 g3
        refine B_M_unlink_73 g0 ?_
        rw [g3, show unP (sn s) k y 3 = sn s 3 - 1 from if_pos rfl]
        refine ⟨by omega, fun c => by omega, fun c => ⟨by omega, ?_⟩⟩
        refine ih (y + 1) _ (by omega) (by omega) (by omega) g0 (fun b hb => by rw [gI_ot hb]; exact g1 b hb) g2 ?_
        rw [gI_up, g3]
        funext x
        unfold up unP
        by_cases e : x = 58 + y
        · rw [if_pos e, if_neg (by omega), if_neg (by omega), if_neg (by omega), if_pos (by omega)]
          congr 1
          omega
        · rw [if_neg e]
          by_cases e2 : x = 3
          · rw [if_pos e2, if_pos e2]
          · rw [if_neg e2, if_neg e2]
            by_cases e3 : 58 + 3 * k ≤ x ∧ x < 58 + y
            · rw [if_pos e3, if_pos (by omega)]
            · rw [if_neg e3, if_neg (by omega)]
    refine key _ (3 * k) _ (by omega) (by omega) rfl h.1 (fun b hb => gI_ot hb) rfl ?_
    rw [gI_up, e']
    funext x
    unfold up unP
    by_cases e2 : x = 3
    · rw [if_pos e2, if_pos e2]
    · rw [if_neg e2, if_neg e2, if_neg (by omega)]
  · exact ⟨fun z => absurd z hk, fun _ => r_fnd h (by decide) ((if_pos ⟨c, c2⟩).trans (if_neg hk)) hq⟩
end OPK
