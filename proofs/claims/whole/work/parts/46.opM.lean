/-! ===== link, by the class ===== -/
section OPM
variable {s : St} {M : Mm} {Q : Mm → Option Mv → Prop}
theorem pcn_sb {x : Int} {y : Nat} (x0 : 0 ≤ x ∧ x < 65536) (hy : y < 16) (h : hb x y = false) : ∀ k : Nat, pcn (sb x y) k = pcn x k + (if y < k then 1 else 0)
  | 0 => by
    rw [if_neg (by omega)]
    rfl
  | k + 1 => by
    show pcn (sb x y) k + (if hb (sb x y) k = true then 1 else 0) = pcn x k + (if hb x k = true then 1 else 0) + _
    rw [pcn_sb x0 hy h k, sb_hb x0.1 (by omega) (by omega) (by omega)]
    by_cases e : k = y
    · subst e
      rw [h, if_neg (by omega), if_pos (show k < k + 1 by omega), decide_eq_true rfl]
      simp
    · rw [decide_eq_false (by omega), Bool.or_false]
      by_cases e2 : y < k
      · rw [if_pos e2, if_pos (show y < k + 1 by omega)]
        omega
      · rw [if_neg e2, if_neg (show ¬ y < k + 1 by omega)]
        omega
theorem pcn_all {x : Int} : ∀ N : Nat, (∀ w : Nat, w < N → hb x w = true) → pcn x N = N
  | 0, _ => rfl
  | N + 1, h => by
    show pcn x N + (if hb x N = true then 1 else 0) = _
    rw [pcn_all N (fun w hw => h w (by omega)), if_pos (h N (by omega))]
    omega
theorem pcn_mo {x : Int} (N : Nat) : ∀ d : Nat, pcn x N ≤ pcn x (N + d)
  | 0 => Int.le_refl _
  | d + 1 => by
    have := pcn_mo (x := x) N d
    show _ ≤ pcn x (N + d) + (if hb x (N + d : Nat) = true then 1 else 0)
    split <;> omega
theorem sub_0 {b d : Int} (b0 : 0 ≤ b ∧ b < 65536) (d0 : 0 ≤ d ∧ d < 65536) : bAnd b (bXor d (-1)) = 0 ↔ ∀ m : Nat, hb b m = true → hb d m = true := by
  have hh := fun k : Nat => andn_hb b0.1 (show b < 2147483648 by omega) d0.1 (show d < 2147483648 by omega) k
  refine ⟨fun q m hm => ?_, fun q => ?_⟩
  · have := hh m
    rw [q, hb_0, hm, Bool.true_and] at this
    cases e : hb d m
    · rw [e] at this
      exact absurd this (by decide)
    · rfl
  · refine hb_ext (and_nn _ b0.1 (by omega)) (Int.le_refl _) (fun k => ?_)
    rw [hh, hb_0]
    cases e : hb b k
    · rfl
    · rw [q k e]
      rfl
theorem nxt_ex {n : Int → Int} {done : Int} (wl : wLnk n) : ∀ (r : Nat) (rk : Int → Int), (∀ w, 0 ≤ rk w) → (∀ i j, lnk n i j → rk i < rk j) → ∀ w : Nat, (w : Int) < n 2 → hb done w = false → rk w ≤ r → ∃ y : Nat, (y : Int) < n 2 ∧ hb done y = false ∧ ∀ x : Nat, lnk n x y → hb done x = true := by
  intro r rk r1 r2
  induction r with
  | zero =>
    intro w w1 w2 w3
    refine ⟨w, w1, w2, fun x hx => ?_⟩
    have := r2 _ _ hx
    have := r1 x
    omega
  | succ r ih =>
    intro w w1 w2 w3
    by_cases c : ∃ x : Nat, lnk n x w ∧ hb done x = false
    · obtain ⟨x, x1, x2⟩ := c
      have := r2 _ _ x1
      have hi := lnk_in wl x1
      exact ih x (by omega) x2 (by omega)
    · refine ⟨w, w1, w2, fun x hx => ?_⟩
      cases e : hb done x
      · exact absurd ⟨x, hx, e⟩ c
      · rfl
theorem sp_W_nextAfter {n : Int → Int} {done : Int} (hS : RefOK M) (ww : wWrk n) (wl : wLnk n) (hc : gI M 5 6 = n 2) (hbf : ∀ w, 0 ≤ w → w < n 2 → (0 ≤ gI M 9 w ∧ gI M 9 w < 65536) ∧ ∀ i : Nat, (hb (gI M 9 w) i = true ↔ lnk n i w)) (d0 : 0 ≤ done ∧ done < 65536) (hn : ∃ w : Nat, (w : Int) < n 2 ∧ hb done w = false) (hq : ∀ y : Nat, (y : Int) < n 2 → hb done y = false → (∀ x : Nat, lnk n x y → hb done x = true) → Q M (some (vI y))) : Wq 2 0 0 mW_nextAfter 0 [iR 5, iI done, none] [] M Q := by
  have h2 := ww.1
  obtain ⟨rk, r1, r2⟩ := wl.2.2.2
  obtain ⟨w, w1, w2⟩ := hn
  obtain ⟨y, y1, y2, y3⟩ := nxt_ex wl (rk w).toNat rk (fun w => (r1 w).1) r2 w w1 w2 (by have := r1 w; omega)
  refine B_W_nextAfter_0 ?_
  have key : ∀ (f : Nat) (h : Nat), h ≤ y → y - h = f → Wq 2 0 0 mW_nextAfter 2 [iR 5, iI done, iI h] [] M Q := by
    intro f
    induction f with
    | zero =>
      intro h h1 hf
      have : h = y := by omega
      subst this
      obtain ⟨b0, b1⟩ := hbf h (by omega) (by omega)
      refine B_W_nextAfter_2 hS ?_
      rw [hc]
      refine ⟨fun c => by omega, fun c => ⟨by omega, fun c2 => ?_, fun c2 => ⟨by omega, fun c3 => ?_, fun c3 => hq h y1 y2 y3⟩⟩⟩
      · rw [y2] at c2
        exact absurd c2 (by decide)
      · exact absurd ((sub_0 b0 d0).mpr (fun m hm => y3 m ((b1 m).mp hm))) c3
    | succ f ih =>
      intro h h1 hf
      have ih := ih (h + 1) (by omega) (by omega)
      rw [show (((h + 1 : Nat) : Int)) = (h : Int) + 1 by omega] at ih
      obtain ⟨b0, b1⟩ := hbf h (by omega) (by omega)
      refine B_W_nextAfter_2 hS ?_
      rw [hc]
      refine ⟨fun c => by omega, fun c => ⟨by omega, fun c2 => ⟨by omega, ih⟩, fun c2 => ⟨by omega, fun c3 => ⟨by omega, ih⟩, fun c3 => ?_⟩⟩⟩
      exact hq h (by omega) (Bool.eq_false_iff.mpr c2) (fun x hx => (sub_0 b0 d0).mp c3 x ((b1 x).mpr hx))
  exact key _ 0 (by omega) rfl
theorem sp_W_arrange {n : Int → Int} (hS : RefOK M) (ww : wWrk n) (wl : wLnk n) (hc : gI M 5 6 = n 2) (hbf : ∀ w, 0 ≤ w → w < n 2 → (0 ≤ gI M 9 w ∧ gI M 9 w < 65536) ∧ ∀ i : Nat, (hb (gI M 9 w) i = true ↔ lnk n i w)) (hq : ∀ M', RefOK M' → (∀ b : Nat, b ≠ 11 → gI M' b = gI M b) → gL M' = gL M → topo n (gI M' 11) → Q M' none) : Wq 3 0 0 mW_arrange 0 [iR 5, none, none, none] [] M Q := by
  have h2 := ww.1
  refine B_W_arrange_0 ?_
  have key : ∀ (f : Nat) (p : Nat) (M' : Mm) (done : Int), (p : Int) ≤ n 2 → (n 2).toNat - p = f → RefOK M' → (∀ b : Nat, b ≠ 11 → gI M' b = gI M b) → gL M' = gL M → (0 ≤ done ∧ done < 65536) → pcn done 16 = p → (∀ q : Nat, q < p → ∃ x : Nat, gI M' 11 q = x ∧ (x : Int) < n 2 ∧ hb done x = true) → (∀ x : Nat, hb done x = true → ∃ q : Nat, q < p ∧ gI M' 11 q = x) → (∀ q r : Nat, q < p → r < p → gI M' 11 q = gI M' 11 r → q = r) → (∀ q x : Nat, q < p → lnk n x (gI M' 11 q) → ∃ r : Nat, r < q ∧ gI M' 11 r = x) → Wq 3 0 0 mW_arrange 4 [iR 5, iI done, iI p, none] [] M' Q := by
    intro f
    induction f with
    | zero =>
      intro p M' done hp hf g0 g1 g2 d0 d1 i1 i2 i3 i4
      refine B_W_arrange_4 ?_
      rw [g1 5 (by decide), hc]
      refine ⟨fun c => hq M' g0 g1 g2 ⟨fun q q0 q1 => ?_, fun q r q0 q1 r0 r1 e => ?_, fun q r q0 q1 r0 r1 z => ?_⟩, fun c => by omega⟩
      · obtain ⟨x, x1, x2, -⟩ := i1 q.toNat (by omega)
        rw [show ((q.toNat : Nat) : Int) = q by omega] at x1
        omega
      · have := i3 q.toNat r.toNat (by omega) (by omega) (by rw [show ((q.toNat : Nat) : Int) = q by omega, show ((r.toNat : Nat) : Int) = r by omega]; exact e)
        omega
      · obtain ⟨x, x1, x2, -⟩ := i1 q.toNat (by omega)
        rw [show ((q.toNat : Nat) : Int) = q by omega] at x1
        rw [x1] at z
        obtain ⟨t, t1, t2⟩ := i4 r.toNat x (by omega) (by rw [show ((r.toNat : Nat) : Int) = r by omega]; exact z)
        have := i3 t q.toNat (by omega) (by omega) (by rw [show ((q.toNat : Nat) : Int) = q by omega, t2, x1])
        omega
    | succ f ih =>
      intro p M' done hp hf g0 g1 g2 d0 d1 i1 i2 i3 i4
      refine B_W_arrange_4 ?_
      rw [g1 5 (by decide), hc]
      refine ⟨fun c => by omega, fun c => ?_⟩
      have hn : ∃ w : Nat, (w : Int) < n 2 ∧ hb done w = false := by
        by_cases q : ∃ w : Nat, (w : Int) < n 2 ∧ hb done w = false
        · exact q
        · exfalso
          have h1 := pcn_all (x := done) (n 2).toNat (fun w hw => by
            cases e : hb done w
            · exact absurd ⟨w, by omega, e⟩ q
            · rfl)
          have h3 := pcn_mo (x := done) (n 2).toNat (16 - (n 2).toNat)
          rw [show (n 2).toNat + (16 - (n 2).toNat) = 16 by omega, d1, h1] at h3
          omega
      refine sp_W_nextAfter g0 ww wl (by rw [g1 5 (by decide)]; exact hc) (by rw [g1 9 (by decide)]; exact hbf) d0 hn (fun y y1 y2 y3 => ?_)
      refine B_W_arrange_17 g0 ⟨by omega, ?_⟩
      have nn : ∀ k : Nat, hb (sb done y) k = (hb done k || decide ((k : Int) = (y : Int))) := fun k => sb_hb d0.1 (by omega) (by omega) (by omega) k
      have lt' : 0 ≤ sb done y ∧ sb done y < 65536 := by
        obtain ⟨o0, o1, -⟩ := one_lt (e := (y : Int)) (by omega) (by omega)
        exact or_lt d0.1 d0.2 o0 o1
      have rd : ∀ q : Nat, gI (sI M' 11 p y) 11 q = if q = p then (y : Int) else gI M' 11 q := by
        intro q
        rw [gI_up]
        by_cases e : q = p
        · rw [if_pos e, e, up_s]
        · rw [if_neg e, up_n (by omega)]
      have ih := ih (p + 1) (sI M' 11 p y) (sb done y) (by omega) (by omega) g0 (fun b hb => by rw [gI_ot hb]; exact g1 b hb) g2 lt' (by rw [pcn_sb d0 (by omega) y2 16, if_pos (by omega), d1]; omega) (fun q hq' => ?_) (fun x hx => ?_) (fun q r q1 r1 e => ?_) (fun q x q1 z => ?_)
      · rw [show (((p + 1 : Nat) : Int)) = (p : Int) + 1 by omega] at ih
        exact ih
      · rw [rd]
        by_cases e : q = p
        · rw [if_pos e]
          exact ⟨y, rfl, y1, by rw [nn, decide_eq_true rfl, Bool.or_true]⟩
        · rw [if_neg e]
          obtain ⟨x, x1, x2, x3⟩ := i1 q (by omega)
          exact ⟨x, x1, x2, by rw [nn, x3, Bool.true_or]⟩
      · rw [nn, Bool.or_eq_true, decide_eq_true_iff] at hx
        rcases hx with hx | hx
        · obtain ⟨q, q1, q2⟩ := i2 x hx
          exact ⟨q, by omega, by rw [rd, if_neg (by omega)]; exact q2⟩
        · exact ⟨p, by omega, by rw [rd, if_pos rfl]; omega⟩
      · rw [rd, rd] at e
        by_cases e1 : q = p <;> by_cases e2 : r = p
        · omega
        · rw [if_pos e1, if_neg e2] at e
          obtain ⟨x, x1, x2, x3⟩ := i1 r (by omega)
          have : x = y := by omega
          rw [this, y2] at x3
          exact absurd x3 (by decide)
        · rw [if_neg e1, if_pos e2] at e
          obtain ⟨x, x1, x2, x3⟩ := i1 q (by omega)
          have : x = y := by omega
          rw [this, y2] at x3
          exact absurd x3 (by decide)
        · rw [if_neg e1, if_neg e2] at e
          exact i3 q r (by omega) (by omega) e
      · rw [rd] at z
        by_cases e1 : q = p
        · rw [if_pos e1] at z
          obtain ⟨r, r1, r2⟩ := i2 x (y3 x z)
          exact ⟨r, by omega, by rw [rd, if_neg (by omega)]; exact r2⟩
        · rw [if_neg e1] at z
          obtain ⟨r, r1, r2⟩ := i4 q x (by omega) z
          exact ⟨r, r1, by rw [rd, if_neg (by omega)]; exact r2⟩
  exact key _ 0 M 0 (by omega) rfl hS (fun _ _ => rfl) rfl (by decide) (by decide) (fun q hq' => by omega) (fun x hx => by rw [hb_0] at hx; exact absurd hx (by decide)) (fun q r q1 => by omega) (fun q x q1 => by omega)
theorem c_link {i j g : Int} (hw : WfS s) (h : CI s M) (hq : ∀ M', CI (o_link s i j g).1 M' → FrC M M' → Q M' (some (vI (o_link s i j g).2))) : Wq 5 0 0 mD_link 0 [iR 0, iI i, iI j, iI g, none] [] M Q := by
  obtain ⟨d0, dC, dW, dL, dE, dT, dX, dH⟩ := h.2.1
  obtain ⟨wd, wc, ww, wl, we, wt, wx, wh⟩ := hw.1
  have h2 := ww.1
  have h3 := wl.1
  refine B_D_link_0 h.1 ?_
  rw [dW.1]
  have bad : ¬ (((0 ≤ i ∧ i < sn s 2) ∧ 0 ≤ j ∧ j < sn s 2) ∧ ¬ i = j ∧ 0 ≤ g ∧ g ≤ 20) → Q (sI M 69 1 (wr (gI M 69 1 + 1))) (some (vI (-1000001))) := fun c => c_fnd h (by decide) (by decide) (by decide) (if_neg c) hq
  refine ⟨fun c => ⟨fun c2 => ⟨fun c3 => bad (by omega), fun c3 => ⟨fun c4 => ?_, fun c4 => bad (by omega)⟩⟩, fun c2 => bad (by omega)⟩, fun c => bad (by omega)⟩
  have e0 : o_link s i j g = _ := if_pos ⟨⟨c, c2⟩, c3, c4⟩
  obtain ⟨b1, b2⟩ := dL.2.1 j c2.1 c2.2
  have bi := b2 i.toNat
  rw [show ((i.toNat : Nat) : Int) = i by omega] at bi
  refine ⟨by omega, fun c5 => c_fnd h (by decide) (by decide) (by decide) (e0.trans (if_pos (Or.inl ((lat_lnk wl).mpr (bi.mp c5))))) hq, fun c5 => ?_⟩
  have c5' : ¬ 0 ≤ lat (sn s) i j (sn s 3).toNat := fun z => c5 (bi.mpr ((lat_lnk wl).mp z))
  refine sp_W_leadsTo h.1 ww wl dW.1 dL.2.1 c2 c (B_D_link_66 h.1 ?_)
  by_cases c6 : prd (sn s) i (sn s 2).toNat j = true
  · rw [if_pos c6]
    exact ⟨fun z => absurd z (by decide), fun _ => c_fnd h (by decide) (by decide) (by decide) (e0.trans (if_pos (Or.inr c6))) hq⟩
  rw [if_neg c6, dL.1]
  have e1 := e0.trans (if_neg (not_or.mpr ⟨c5', c6⟩))
  refine ⟨fun _ => ⟨fun c7 => ?_, fun c7 => c_fnd h (by decide) (by decide) (by decide) (e1.trans (if_neg c7)) hq⟩, fun z => absurd rfl z⟩
  rw [e1.trans (if_pos c7)] at hq
  have wf' := liN_wf hw.1 c c2 c4 (fun z => c5 (bi.mpr z)) c6 c7
  have o : ∀ x, x ≠ 3 → (x < 58 ∨ 148 ≤ x) → liN (sn s) i j g x = sn s x := fun x h1 h2 => liN_o h1 (by omega)
  obtain ⟨o0, o1, o2⟩ := one_lt (e := i) c.1 (by omega)
  refine B_W_join_0 h.1 ?_
  rw [dL.1]
  refine ⟨by omega, ?_⟩
  have bf' : ∀ w, 0 ≤ w → w < sn s 2 → (0 ≤ up (gI M 9) j (bOr (gI M 9 j) (bShl 1 i)) w ∧ up (gI M 9) j (bOr (gI M 9 j) (bShl 1 i)) w < 65536) ∧ ∀ m : Nat, (hb (up (gI M 9) j (bOr (gI M 9 j) (bShl 1 i)) w) m = true ↔ lnk (liN (sn s) i j g) m w) := by
    intro w w0 w1
    by_cases e : w = j
    · subst e
      rw [up_s]
      refine ⟨or_lt b1.1 b1.2 o0 o1, fun m => ?_⟩
      rw [or_hb b1.1 (by omega) o0 (by omega), Bool.or_eq_true, b2, o2, decide_eq_true_iff, liN_lnk h3.1]
      exact or_congr Iff.rfl ⟨fun z => ⟨z, rfl⟩, fun z => z.1⟩
    · rw [up_n e]
      obtain ⟨z1, z2⟩ := dL.2.1 w w0 w1
      refine ⟨z1, fun m => (z2 m).trans ?_⟩
      rw [liN_lnk h3.1]
      exact ⟨fun z => Or.inl z, fun z => z.elim id (fun y => absurd y.2 e)⟩
  refine sp_W_arrange (n := liN (sn s) i j g) h.1 wf'.2.2.1 wf'.2.2.2.1 ?_ ?_ (fun M' g0 g1 g2 g3 => ?_)
  · rw [o 2 (by decide) (by decide)]
    exact dW.1
  · rw [o 2 (by decide) (by decide), gI_ot (by decide), gI_ot (by decide), gI_up]
    exact bf'
  refine B_W_join_38 (B_D_link_101 ?_)
  have g5 : gI M' 5 7 = sn s 3 + 1 := by
    rw [g1 5 (by decide)]
    exact gI_s
  rw [g5]
  have k1 : ∀ b : Nat, b ≠ 5 → b ≠ 9 → b ≠ 10 → b ≠ 11 → gI M' b = gI M b := fun b n1 n2 n3 n4 => by rw [g1 b n4, gI_ot n1, gI_ot n3, gI_ot n2]
  have l' : gL M' = gL M := g2
  refine hq _ (h.to (n' := liN (sn s) i j g) g0 ⟨?_, ?_, ?_, ?_, ?_, ?_, ?_, ?_⟩ (fun b hb => k1 b (by omega) (by omega) (by omega) (by omega)) (by rw [l'])) (fun a x ha => by rw [k1 a (by omega) (by omega) (by omega) (by omega)])
  · rw [k1 1 (by decide) (by decide) (by decide) (by decide)]
    exact d0.trans (o 0 (by decide) (by decide)).symm
  · rw [l', k1 4 (by decide) (by decide) (by decide) (by decide), k1 2 (by decide) (by decide) (by decide) (by decide)]
    exact dC.cg (o 1 (by decide) (by decide)) (fun x a b => o x (by omega) (by omega))
  · rw [k1 6 (by decide) (by decide) (by decide) (by decide), k1 7 (by decide) (by decide) (by decide) (by decide), k1 8 (by decide) (by decide) (by decide) (by decide), show gI M' 5 6 = gI M 5 6 by rw [g1 5 (by decide)]; rfl]
    exact dW.cg ww.1.2 (o 2 (by decide) (by decide)) (fun x a b => o x (by omega) (by omega))
  · unfold cLnk
    rw [liN_3, g5, o 2 (by decide) (by decide), g1 9 (by decide), gI_ot (by decide), gI_ot (by decide), gI_up]
    refine ⟨rfl, bf', fun k k0 k1 => ?_, g3⟩
    rw [g1 10 (by decide), gI_ot (by decide), gI_up]
    obtain ⟨a1, a2, a3⟩ := liN_at (n := sn s) (i := i) (j := j) (g := g) h3.1
    by_cases e : k = sn s 3
    · subst e
      rw [a1, a2, a3, up_s]
    · rw [liN_o (by omega) (by omega), liN_o (by omega) (by omega), liN_o (by omega) (by omega)]
      obtain ⟨q1, q2, q3⟩ := wl.2.1 k k0 (by omega)
      rw [up_n, gI_ot (by decide)]
      · exact dL.2.2.1 k k0 (by omega)
      · intro z
        have y1 : sn s (58 + 3 * k) = i := by omega
        have y2 : sn s (59 + 3 * k) = j := by omega
        exact c5 (bi.mpr ⟨k, k0, by omega, y1, y2⟩)
  · rw [k1 13 (by decide) (by decide) (by decide) (by decide), k1 14 (by decide) (by decide) (by decide) (by decide), k1 15 (by decide) (by decide) (by decide) (by decide), k1 16 (by decide) (by decide) (by decide) (by decide), k1 17 (by decide) (by decide) (by decide) (by decide), k1 18 (by decide) (by decide) (by decide) (by decide), k1 19 (by decide) (by decide) (by decide) (by decide), k1 12 (by decide) (by decide) (by decide) (by decide)]
    exact dE.cg we.1.2 (o 4 (by decide) (by decide)) (fun x a b => o x (by omega) (by omega))
  · rw [k1 21 (by decide) (by decide) (by decide) (by decide), k1 20 (by decide) (by decide) (by decide) (by decide)]
    exact dT.cg wt.1.2 (o 7 (by decide) (by decide)) (fun x a b => o x (by omega) (by omega))
  · rw [k1 22 (by decide) (by decide) (by decide) (by decide), k1 23 (by decide) (by decide) (by decide) (by decide), k1 24 (by decide) (by decide) (by decide) (by decide), k1 25 (by decide) (by decide) (by decide) (by decide), k1 20 (by decide) (by decide) (by decide) (by decide)]
    exact dX.cg wx.1.2 (o 5 (by decide) (by decide)) (fun x a b => o x (by omega) (by omega))
  · rw [k1 27 (by decide) (by decide) (by decide) (by decide), k1 28 (by decide) (by decide) (by decide) (by decide), k1 29 (by decide) (by decide) (by decide) (by decide), k1 26 (by decide) (by decide) (by decide) (by decide)]
    exact dH.cg wh.1.2 (o 6 (by decide) (by decide)) (fun x a b => o x (by omega) (by omega))
end OPM
