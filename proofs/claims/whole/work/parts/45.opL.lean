/-! ===== link ===== -/
section OPL
variable {s : St} {M : Mm} {Q : Mm → Option Mv → Prop}
theorem sp_M_leads {n : Int → Int} {a b : Int} (hS : RefOK M) (ww : wWrk n) (wl : wLnk n) (e' : gI M 81 = n) (ha : 0 ≤ a ∧ a < n 2) (hb' : 0 ≤ b ∧ b < n 2) (hq : Q M (some (vI (if prd n b (n 2).toNat a = true then 1 else 0)))) : Wq 2 0 0 mM_leads 0 [iR 80, iI a, iI b, none, none, none] [] M Q := by
  have h2 := ww.1
  have h3 := wl.1
  refine B_M_leads_0 ?_
  have inner : ∀ (i : Nat) (old : Int), i < 16 → (∀ set : Int, (0 ≤ set ∧ set < 65536) → (∀ x : Nat, hb old x = true → hb set x = true) → (∀ x y : Nat, hb old x = true → lnk n x y → hb set y = true) → (∀ x : Nat, hb set x = true → ∃ k, prd n x k a = true) → Wq 2 0 0 mM_leads 7 [iR 80, iI a, iI b, iI set, iI ((i : Int) + 1), none] [] M Q) → ∀ (f : Nat) (h : Nat) (set : Int), (h : Int) ≤ n 3 → (n 3).toNat - h = f → (0 ≤ set ∧ set < 65536) → (∀ x : Nat, hb old x = true → hb set x = true) → (∀ t : Nat, t < h → hb old (n (58 + 3 * (t : Int))) = true → hb set (n (59 + 3 * (t : Int))) = true) → (∀ x : Nat, hb set x = true → ∃ k, prd n x k a = true) → Wq 2 0 0 mM_leads 17 [iR 80, iI a, iI b, iI set, iI i, iI h] [] M Q := by
    intro i old hi go f
    induction f with
    | zero =>
      intro h set h1 hf s0 s1 s2 s3
      refine B_M_leads_17 hS ?_
      rw [e']
      refine ⟨fun c => ⟨by omega, go set s0 s1 (fun x y q1 ⟨k, k0, k1, e1, e2⟩ => ?_) s3⟩, fun c => by omega⟩
      have := s2 k.toNat (by omega)
      rw [show ((k.toNat : Nat) : Int) = k by omega, e1, e2] at this
      exact this q1
    | succ f ih =>
      intro h set h1 hf s0 s1 s2 s3
      have ih := fun set' => ih (h + 1) set' (by omega) (by omega)
      rw [show (((h + 1 : Nat) : Int)) = (h : Int) + 1 by omega] at ih
      obtain ⟨l1, l2, l3⟩ := wl.2.1 h (by omega) (by omega)
      obtain ⟨o0, o1, o2⟩ := one_lt (e := n (59 + 3 * (h : Int))) l2.1 (by omega)
      refine B_M_leads_17 hS ?_
      rw [e']
      refine ⟨fun c => by omega, fun c => ⟨by omega, fun c2 => ⟨by omega, ih _ (or_lt s0.1 s0.2 o0 o1) (fun x q => ?_) (fun t ht q => ?_) (fun x q => ?_)⟩, fun c2 => ⟨by omega, ?_⟩⟩⟩
      · rw [or_hb s0.1 (by omega) o0 (by omega), s1 x q, Bool.true_or]
      · obtain ⟨u, hu⟩ : ∃ u : Nat, n (59 + 3 * (t : Int)) = u := ⟨(n (59 + 3 * (t : Int))).toNat, by have := wl.2.1 t (by omega) (by omega); omega⟩
        rw [hu, or_hb s0.1 (by omega) o0 (by omega)]
        by_cases e : t = h
        · subst e
          rw [o2, hu, decide_eq_true rfl, Bool.or_true]
        · have := s2 t (by omega) q
          rw [hu] at this
          rw [this, Bool.true_or]
      · rw [or_hb s0.1 (by omega) o0 (by omega), Bool.or_eq_true] at q
        rcases q with q | q
        · exact s3 x q
        · rw [o2, decide_eq_true_iff] at q
          obtain ⟨u, hu⟩ : ∃ u : Nat, n (58 + 3 * (h : Int)) = u := ⟨(n (58 + 3 * (h : Int))).toNat, by omega⟩
          rw [hu] at c2
          obtain ⟨k, hk⟩ := s3 u c2
          exact ⟨k + 1, prd_snoc ww wl ⟨h, by omega, by omega, hu, q.symm⟩ k a hk⟩
      · rw [or_0 s0.1 (by omega)]
        refine ih _ s0 s1 (fun t ht q => ?_) s3
        by_cases e : t = h
        · subst e
          obtain ⟨u, hu⟩ : ∃ u : Nat, n (58 + 3 * (t : Int)) = u := ⟨(n (58 + 3 * (t : Int))).toNat, by omega⟩
          rw [hu] at q c2
          exact absurd (s1 u q) c2
        · exact s2 t (by omega) q
  have outer : ∀ (f : Nat) (i : Nat) (set : Int), i ≤ 16 → 16 - i = f → (0 ≤ set ∧ set < 65536) → (∀ x : Nat, prd n x i a = true → hb set x = true) → (∀ x : Nat, hb set x = true → ∃ k, prd n x k a = true) → Wq 2 0 0 mM_leads 7 [iR 80, iI a, iI b, iI set, iI i, none] [] M Q := by
    intro f
    induction f with
    | zero =>
      intro i set h1 hf s0 s1 s2
      refine B_M_leads_7 ⟨fun c => ?_, fun c => by omega⟩
      have ei : i = 16 := by omega
      subst ei
      have q1 := s1 b.toNat
      have q2 := s2 b.toNat
      rw [show ((b.toNat : Nat) : Int) = b by omega] at q1 q2
      refine ⟨by omega, fun c2 => ?_, fun c2 => ?_⟩
      · obtain ⟨k, hk⟩ := q2 c2
        rw [if_pos (prd_n2 ww wl hb' hk (Nat.le_refl _))] at hq
        exact hq
      · rw [if_neg (fun z => c2 (q1 (prd_n2 ww wl hb' z (by omega))))] at hq
        exact hq
    | succ f ih =>
      intro i set h1 hf s0 s1 s2
      refine B_M_leads_7 ⟨fun c => by omega, fun c => ?_⟩
      refine inner i set (by omega) (fun set' t0 t1 t2 t3 => ?_) _ 0 set (by omega) rfl s0 (fun x q => q) (fun t ht => by omega) s2
      have ih := ih (i + 1) set' (by omega) (by omega) t0 (fun x q => ?_) t3
      · rw [show (((i + 1 : Nat) : Int)) = (i : Int) + 1 by omega] at ih
        exact ih
      · rcases prd_last ww wl i a q with q | ⟨w, q1, q2⟩
        · exact t1 x (s1 x q)
        · have := lnk_in wl q1
          rw [show w = ((w.toNat : Nat) : Int) by omega] at q1 q2
          exact t2 w.toNat x (s1 w.toNat q2) q1
  obtain ⟨o0, o1, o2⟩ := one_lt (e := a) ha.1 (by omega)
  refine outer _ 0 _ (by omega) rfl ⟨o0, o1⟩ (fun x q => ?_) (fun x q => ?_)
  · rw [o2]
    exact decide_eq_true (of_decide_eq_true q).symm
  · rw [o2, decide_eq_true_iff] at q
    exact ⟨0, decide_eq_true q.symm⟩
/-- 'now' with one LINK more -/
def liN (n : Int → Int) (i j g : Int) : Int → Int := up (up (up (up n (58 + 3 * n 3) i) (59 + 3 * n 3) j) (60 + 3 * n 3) g) 3 (n 3 + 1)
theorem liN_3 {n : Int → Int} {i j g : Int} : liN n i j g 3 = n 3 + 1 := up_s
theorem liN_o {n : Int → Int} {i j g x : Int} (h3 : x ≠ 3) (h : x < 58 + 3 * n 3 ∨ 60 + 3 * n 3 < x) : liN n i j g x = n x := by
  unfold liN
  rw [up_n h3, up_n (by omega), up_n (by omega), up_n (by omega)]
theorem liN_at {n : Int → Int} {i j g : Int} (h : 0 ≤ n 3) : liN n i j g (58 + 3 * n 3) = i ∧ liN n i j g (59 + 3 * n 3) = j ∧ liN n i j g (60 + 3 * n 3) = g := by
  unfold liN up
  refine ⟨?_, ?_, ?_⟩ <;> (repeat rw [if_neg (by omega)]) <;> rw [if_pos rfl]
theorem liN_lnk {n : Int → Int} {i j g a b : Int} (h : 0 ≤ n 3) : lnk (liN n i j g) a b ↔ lnk n a b ∨ (a = i ∧ b = j) := by
  obtain ⟨a1, a2, a3⟩ := liN_at (n := n) (i := i) (j := j) (g := g) h
  refine ⟨fun ⟨k, k0, k1, e1, e2⟩ => ?_, fun q => ?_⟩
  · rw [liN_3] at k1
    by_cases e : k = n 3
    · subst e
      rw [a1] at e1
      rw [a2] at e2
      exact Or.inr ⟨e1.symm, e2.symm⟩
    · rw [liN_o (by omega) (by omega)] at e1 e2
      exact Or.inl ⟨k, k0, by omega, e1, e2⟩
  · rcases q with ⟨k, k0, k1, e1, e2⟩ | ⟨rfl, rfl⟩
    · exact ⟨k, k0, by rw [liN_3]; omega, by rw [liN_o (by omega) (by omega)]; exact e1, by rw [liN_o (by omega) (by omega)]; exact e2⟩
    · exact ⟨n 3, h, by rw [liN_3]; omega, a1, a2⟩
def o_link (s : St) (i j g : Int) : St × Int :=
  if ((0 ≤ i ∧ i < sn s 2) ∧ 0 ≤ j ∧ j < sn s 2) ∧ ¬ i = j ∧ 0 ≤ g ∧ g ≤ 20 then
    (if 0 ≤ lat (sn s) i j (sn s 3).toNat ∨ prd (sn s) i (sn s 2).toNat j = true then fnd s 3
    else if sn s 3 < 30 then (wN s (liN (sn s) i j g), sn s 3 + 1) else fnd s 4)
  else fnd s 1
theorem liN_wf {n : Int → Int} {i j g : Int} (h : WfN n) (hi : 0 ≤ i ∧ i < n 2) (hj : 0 ≤ j ∧ j < n 2) (hg : 0 ≤ g ∧ g ≤ 20) (hn : ¬ lnk n i j) (hp : ¬ prd n i (n 2).toNat j = true) (h30 : n 3 < 30) : WfN (liN n i j g) := by
  obtain ⟨wd, wc, ww, wl, we, wt, wx, wh⟩ := h
  have h3 := wl.1
  have h2 := ww.1
  obtain ⟨a1, a2, a3⟩ := liN_at (n := n) (i := i) (j := j) (g := g) h3.1
  have o : ∀ x, x ≠ 3 → (x < 58 ∨ 148 ≤ x) → liN n i j g x = n x := fun x h1 h2 => liN_o h1 (by omega)
  refine ⟨wd.cg (o 0 (by decide) (by decide)), wc.cg (o 1 (by decide) (by decide)) (fun i a b => o i (by omega) (by omega)), ww.cg (o 2 (by decide) (by decide)) (fun i a b => o i (by omega) (by omega)), ?_, we.cg (o 0 (by decide) (by decide)) (o 2 (by decide) (by decide)) (o 4 (by decide) (by decide)) (fun i a b => o i (by omega) (by omega)), wt.cg (o 7 (by decide) (by decide)) (fun i a b => o i (by omega) (by omega)), wx.cg (o 5 (by decide) (by decide)) (fun i a b => o i (by omega) (by omega)), wh.cg (o 2 (by decide) (by decide)) (o 6 (by decide) (by decide)) ww.1.2 (fun i a b => o i (by omega) (by omega)) (fun i a b => o i (by omega) (by omega))⟩
  obtain ⟨rk, r1, r2⟩ := wl.2.2.2
  have rk' := rk_n2 (n := liN n i j g) (key := fun x => rk x + (if prd n x (n 2).toNat j = true then 16 else 0)) (by rw [o 2 (by decide) (by decide)]; exact h2.1) (fun a b q => by
    rw [o 2 (by decide) (by decide)]
    rcases (liN_lnk h3.1).mp q with q | ⟨rfl, rfl⟩
    · have hab := lnk_in wl q
      refine ⟨hab, ?_⟩
      have := r2 a b q
      by_cases c : prd n a (n 2).toNat j = true
      · rw [if_pos c, if_pos (prd_n2 ww wl hab.2 (prd_snoc ww wl q _ j c) (Nat.le_refl _))]
        omega
      · rw [if_neg c]
        split <;> omega
    · refine ⟨⟨hi, hj⟩, ?_⟩
      rw [if_neg hp, if_pos (prd_n2 ww wl hj (k := 0) (decide_eq_true rfl) (Nat.le_refl _))]
      have := r1 a
      have := r1 b
      omega)
  obtain ⟨rk2, q1, q2⟩ := rk'
  rw [o 2 (by decide) (by decide)] at q1
  unfold wLnk
  rw [liN_3, o 2 (by decide) (by decide)]
  refine ⟨by omega, fun k k0 k1 => ?_, fun k l k0 k1 l0 l1 e1 e2 => ?_, rk2, fun w => ?_, q2⟩
  · by_cases e : k = n 3
    · subst e
      rw [a1, a2, a3]
      exact ⟨hi, hj, hg⟩
    · rw [liN_o (by omega) (by omega), liN_o (by omega) (by omega), liN_o (by omega) (by omega)]
      exact wl.2.1 k k0 (by omega)
  · by_cases e : k = n 3 <;> by_cases f : l = n 3
    · omega
    · subst e
      rw [a1, liN_o (by omega) (by omega)] at e1
      rw [a2, liN_o (by omega) (by omega)] at e2
      exact absurd ⟨l, l0, by omega, e1.symm, e2.symm⟩ hn
    · subst f
      rw [a1, liN_o (by omega) (by omega)] at e1
      rw [a2, liN_o (by omega) (by omega)] at e2
      exact absurd ⟨k, k0, by omega, e1, e2⟩ hn
    · rw [liN_o (by omega) (by omega), liN_o (by omega) (by omega)] at e1 e2
      exact wl.2.2.1 k l k0 (by omega) l0 (by omega) e1 e2
  · have := q1 w
    omega
theorem w_link {i j g : Int} (hw : WfS s) : WfS (o_link s i j g).1 := by
  unfold o_link
  split
  · rename_i c
    split
    · exact hw.fnd
    · rename_i c2
      split
      · rename_i c3
        exact hw.to (liN_wf hw.1 c.1.1 c.1.2 c.2.2 (fun z => c2 (Or.inl ((lat_lnk hw.1.2.2.2.1).mpr z))) (fun z => c2 (Or.inr z)) c3)
      · exact hw.fnd
  · exact hw.fnd
theorem r_link {i j g : Int} (hw : WfS s) (h : RI s M) (hq : ∀ M', RI (o_link s i j g).1 M' → FrR M M' → Q M' (some (vI (o_link s i j g).2))) : Wq 3 0 0 mM_link 0 [iR 80, iI i, iI j, iI g, none] [] M Q := by
  have e' := h.2.1
  obtain ⟨wd, wc, ww, wl, we, wt, wx, wh⟩ := hw.1
  have h2 := ww.1
  have h3 := wl.1
  refine B_M_link_0 h.1 ?_
  rw [e']
  have bad : ¬ (((0 ≤ i ∧ i < sn s 2) ∧ 0 ≤ j ∧ j < sn s 2) ∧ ¬ i = j ∧ 0 ≤ g ∧ g ≤ 20) → Q (sI M 83 1 (wr (gI M 83 1 + 1))) (some (vI (-1000001))) := fun c => r_fnd h (by decide) (if_neg c) hq
  refine ⟨h2.1, fun c => ⟨h2.1, fun c2 => ⟨fun c3 => bad (by omega), fun c3 => ⟨fun c4 => ?_, fun c4 => bad (by omega)⟩⟩, fun c2 => bad (by omega)⟩, fun c => bad (by omega)⟩
  have e0 : o_link s i j g = _ := if_pos ⟨⟨c, c2⟩, c3, c4⟩
  refine sp_M_linkAt h.1 wl e' (B_M_link_48 h.1 ⟨fun c5 => r_fnd h (by decide) (e0.trans (if_pos (Or.inl c5))) hq, fun c5 => ?_⟩)
  refine sp_M_leads h.1 ww wl e' c2 c (B_M_link_57 h.1 ?_)
  by_cases c6 : prd (sn s) i (sn s 2).toNat j = true
  · rw [if_pos c6]
    exact ⟨fun z => absurd z (by decide), fun _ => r_fnd h (by decide) (e0.trans (if_pos (Or.inr c6))) hq⟩
  · rw [if_neg c6, e']
    have e1 := e0.trans (if_neg (not_or.mpr ⟨c5, c6⟩))
    refine ⟨fun _ => ⟨fun c7 => ⟨by omega, ?_⟩, fun c7 => r_fnd h (by decide) (e1.trans (if_neg (by omega))) hq⟩, fun z => absurd rfl z⟩
    rw [e1.trans (if_pos (by omega))] at hq
    refine sp_M_changed h.1 (fun M' g1 g2 g3 g4 g5 => B_M_link_146 g3 ?_)
    have m81 : gI M' 81 = liN (sn s) i j g := by
      funext x
      rw [g1 81 x (by decide) (Or.inl (by decide)), gI_up, gI_up, gI_up, gI_up, e']
      rfl
    rw [m81, liN_3]
    refine hq _ (h.chg (n' := liN (sn s) i j g) (M1 := sI (sI (sI (sI M 81 (58 + 3 * sn s 3) i) 81 (59 + 3 * sn s 3) j) 81 (60 + 3 * sn s 3) g) 81 3 (sn s 3 + 1)) ?_ ?_ (fun a ha => ?_) g1 g3 g4 g5) (FrR.chg (M1 := sI (sI (sI (sI M 81 (58 + 3 * sn s 3) i) 81 (59 + 3 * sn s 3) j) 81 (60 + 3 * sn s 3) g) 81 3 (sn s 3 + 1)) (fun a x ha => ⟨?_, rfl⟩) g1 g2)
    · rw [liN_o (by decide) (by omega)]
      exact h2.2
    · rw [gI_up, gI_up, gI_up, gI_up, e']
      rfl
    · rw [gI_ot ha, gI_ot ha, gI_ot ha, gI_ot ha]
    · rw [gI_ot (by omega), gI_ot (by omega), gI_ot (by omega), gI_ot (by omega)]
end OPL
