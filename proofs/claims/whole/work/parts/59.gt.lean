/-! ===== goThrough ===== -/
section GT
variable {n : Int → Int} {M : Mm} {Q : Mm → Option Mv → Prop}
/-- the links whose source stands ahead of place i -/
def pAh (n od : Int → Int) (i k : Int) : Prop := ∃ p, 0 ≤ p ∧ p < i ∧ od p = n (58 + 3 * k)
/-- in an order, all links to a work come from places ahead of it -/
theorem pAh_all {od : Int → Int} {i k : Int} (h2 : 0 ≤ n 2) (wl : wLnk n) (to : topo n od) (k0 : 0 ≤ k) (k1 : k < n 3) (i0 : 0 ≤ i) (i1 : i < n 2) (hk : n (59 + 3 * k) = od i) : pAh n od i k := by
  obtain ⟨a, b, -⟩ := wl.2.1 k k0 k1
  obtain ⟨p, p0, p1, p2⟩ := topo_sur h2 to a.1 a.2
  exact ⟨p, p0, to.2.2 p i p0 p1 i0 i1 ⟨k, k0, k1, p2.symm, hk⟩, p2⟩
theorem pAh_end {od : Int → Int} {k : Int} (h2 : 0 ≤ n 2) (wl : wLnk n) (to : topo n od) (k0 : 0 ≤ k) (k1 : k < n 3) : pAh n od (n 2) k := by
  obtain ⟨a, b, -⟩ := wl.2.1 k k0 k1
  exact topo_sur h2 to a.1 a.2
theorem sp_M_goThrough {nd : Int → Int} (hS : RefOK M) (wc : wCal n) (ww : wWrk n) (wl : wLnk n) (e' : gI M 81 = n) (ca : gI M 80 13 = 0 ∨ (gI M 80 13 = 1 ∧ topo n (gI M 91))) (hn : ∀ w, 0 ≤ w → w < n 2 → n (11 + 3 * w) + gI M 88 w = nd w) (hd : ∀ w, 0 ≤ w → w < n 2 → 0 ≤ nd w ∧ nd w ≤ 1000) (hq : ∀ M', RefOK M' → (∀ b : Nat, b ≠ 80 → b ≠ 89 → b ≠ 90 → b ≠ 91 → gI M' b = gI M b) → (∀ x, x ≠ 13 → gI M' 80 x = gI M 80 x) → gL M' = gL M → gI M' 80 13 = 1 → topo n (gI M' 91) → (∀ w, 0 ≤ w → w < n 2 → gI M' 89 w = rW n nd w ∧ gI M' 90 w = eW n nd w) → Q M' (some (vI (eA n nd)))) : Wq 4 0 0 mM_goThrough 0 [iR 80, none, none, none, none, none] [] M Q := by
  have h2 := ww.1
  have h3 := wl.1
  have main : ∀ M1 : Mm, RefOK M1 → (∀ b : Nat, b ≠ 80 → b ≠ 91 → gI M1 b = gI M b) → (∀ x, x ≠ 13 → gI M1 80 x = gI M 80 x) → gL M1 = gL M → gI M1 80 13 = 1 → topo n (gI M1 91) → Wq 4 0 0 mM_goThrough 15 [iR 80, iI 0, iI 0, none, none, none] [] M1 Q := by
    intro M1 s0 s1 s2 s3 s4 to
    have eb : ∀ w, 0 ≤ w → w < n 2 → 0 ≤ eW n nd w ∧ eW n nd w ≤ 462660 := fun w a b => eW_b ww wl hd a b
    have in1 : ∀ M' : Mm, (∀ b : Nat, b ≠ 89 → b ≠ 90 → gI M' b = gI M1 b) → gI M' 81 = n ∧ gI M' 91 = gI M1 91 ∧ gI M' 88 = gI M 88 := fun M' g => ⟨by rw [g 81 (by decide) (by decide), s1 81 (by decide) (by decide), e'], g 91 (by decide) (by decide), by rw [g 88 (by decide) (by decide), s1 88 (by decide) (by decide)]⟩
    -- the works, in their order
    have lp : ∀ (f : Nat) (i : Nat) (M' : Mm) (x1 : Int), (i : Int) ≤ n 2 → (n 2).toNat - i = f → RefOK M' → (∀ b : Nat, b ≠ 89 → b ≠ 90 → gI M' b = gI M1 b) → gL M' = gL M1 → (∀ x, 0 ≤ x → x < n 2 → IsMx (lkZ n (eW n nd) (pAh n (gI M1 91) i) x) (gI M' 89 x)) → (∀ p, 0 ≤ p → p < (i : Int) → gI M' 90 (gI M1 91 p) = eW n nd (gI M1 91 p)) → IsMx (edZ (eW n nd) (gI M1 91) i) x1 → Wq 4 0 0 mM_goThrough 45 [iR 80, iI x1, iI i, none, none, none] [] M' Q := by
      intro f
      induction f with
      | zero =>
        intro i M' x1 hi hf g0 g1 g2 g3 g4 g5
        have ie : (i : Int) = n 2 := by omega
        obtain ⟨t1, t2, t3⟩ := in1 M' g1
        rw [ie] at g3 g4 g5
        refine B_M_goThrough_45 g0 ?_
        rw [t1]
        refine ⟨fun _ => ?_, fun c => by omega⟩
        rw [eA_mx h2.1 to (fun w a b => (eb w a b).1) g5]
        refine hq M' g0 (fun b b1 b2 b3 b4 => by rw [g1 b b2 b3, s1 b b1 b4]) (fun x hx => by rw [g1 80 (by decide) (by decide), s2 x hx]) (by rw [g2, s3]) (by rw [g1 80 (by decide) (by decide), s4]) (by rw [t2]; exact to) (fun w w0 w1 => ⟨?_, ?_⟩)
        · exact (g3 w w0 w1).un (rW_mx wl w) (fun u => ⟨fun ⟨k, a, b, d, f, g⟩ => ⟨k, a, b, trivial, f, g⟩, fun ⟨k, a, b, d, f, g⟩ => ⟨k, a, b, pAh_end h2.1 wl to a b, f, g⟩⟩)
        · obtain ⟨p, p0, p1, p2⟩ := topo_sur h2.1 to w0 w1
          have := g4 p p0 p1
          rw [p2] at this
          exact this
      | succ f ih =>
        intro i M' x1 hi hf g0 g1 g2 g3 g4 g5
        obtain ⟨t1, t2, t3⟩ := in1 M' g1
        have wr := to.1 i (by omega) (by omega)
        have hw := (ww.2 _ wr.1 wr.2)
        have rr : gI M' 89 (gI M1 91 i) = rW n nd (gI M1 91 i) := (g3 _ wr.1 wr.2).un (rW_mx wl _) (fun u => ⟨fun ⟨k, a, b, d, f, g⟩ => ⟨k, a, b, trivial, f, g⟩, fun ⟨k, a, b, d, f, g⟩ => ⟨k, a, b, pAh_all h2.1 wl to a b (by omega) (by omega) f, f, g⟩⟩)
        have rb := rW_b ww wl hd wr.1 wr.2
        have ndw := hd _ wr.1 wr.2
        have ew := eb _ wr.1 wr.2
        -- the links out of it
        have lk : ∀ (fk : Nat) (k : Nat) (M2 : Mm), (k : Int) ≤ n 3 → (n 3).toNat - k = fk → RefOK M2 → (∀ b : Nat, b ≠ 89 → b ≠ 90 → gI M2 b = gI M1 b) → gL M2 = gL M1 → (∀ x, 0 ≤ x → x < n 2 → IsMx (lkZ n (eW n nd) (fun j => pAh n (gI M1 91) i j ∨ (n (58 + 3 * j) = gI M1 91 i ∧ j < k)) x) (gI M2 89 x)) → (∀ p, 0 ≤ p → p < (i : Int) + 1 → gI M2 90 (gI M1 91 p) = eW n nd (gI M1 91 p)) → Wq 4 0 0 mM_goThrough 105 [iR 80, iI (max x1 (eW n nd (gI M1 91 i))), iI i, iI (gI M1 91 i), iI k, none] [] M2 Q := by
          intro fk
          induction fk with
          | zero =>
            intro k M2 hk hfk q0 q1 q2 q3 q4
            obtain ⟨u1, u2, u3⟩ := in1 M2 q1
            have r := ih (i + 1) M2 (max x1 (eW n nd (gI M1 91 i))) (by omega) (by omega) q0 q1 q2
            rw [show (((i + 1 : Nat) : Int)) = (i : Int) + 1 by omega] at r
            refine B_M_goThrough_105 q0 ?_
            rw [u1]
            refine ⟨fun _ => ⟨by omega, r (fun x x0 x1 => (q3 x x0 x1).cg (fun u => ⟨fun ⟨k', a, b, d, f, g⟩ => ⟨k', a, b, ?_, f, g⟩, fun ⟨k', a, b, d, f, g⟩ => ⟨k', a, b, ?_, f, g⟩⟩)) q4 (g5.ad ew.1 (fun u => ⟨fun ⟨p, a, b, c⟩ => ?_, fun z => ?_⟩))⟩, fun c => by omega⟩
            · rcases d with ⟨p, a', b', c'⟩ | ⟨c', d'⟩
              · exact ⟨p, a', by omega, c'⟩
              · exact ⟨i, by omega, by omega, c'.symm⟩
            · obtain ⟨p, a', b', c'⟩ := d
              by_cases z : p = (i : Int)
              · rw [z] at c'
                exact Or.inr ⟨c'.symm, by omega⟩
              · exact Or.inl ⟨p, a', by omega, c'⟩
            · by_cases z : p = (i : Int)
              · rw [z] at c
                exact Or.inr c
              · exact Or.inl ⟨p, a, by omega, c⟩
            · rcases z with ⟨p, a, b, c⟩ | z
              · exact ⟨p, a, by omega, c⟩
              · exact ⟨i, by omega, by omega, z⟩
          | succ fk ihk =>
            intro k M2 hk hfk q0 q1 q2 q3 q4
            obtain ⟨u1, u2, u3⟩ := in1 M2 q1
            have L := wl.2.1 k (by omega) (by omega)
            have ihk := fun M3 => ihk (k + 1) M3 (by omega) (by omega)
            rw [show (((k + 1 : Nat) : Int)) = (k : Int) + 1 by omega] at ihk
            refine B_M_goThrough_105 q0 ?_
            rw [u1, q4 i (by omega) (by omega)]
            refine ⟨fun c => by omega, fun _ => ⟨by omega, fun c => ⟨by omega, ihk M2 q0 q1 q2 (fun x x0 x1 => (q3 x x0 x1).cg (fun u => ⟨fun ⟨k', a, b, d, f, g⟩ => ⟨k', a, b, d.imp id (fun z => ⟨z.1, by omega⟩), f, g⟩, fun ⟨k', a, b, d, f, g⟩ => ⟨k', a, b, d.imp id (fun z => ⟨z.1, ?_⟩), f, g⟩⟩)) q4⟩, fun c => ⟨by omega, ihk _ q0 (fun b b1 b2 => by rw [gI_ot b1]; exact q1 b b1 b2) q2 (fun x x0 x1 => ?_) (fun p p0 p1 => by rw [gI_ot (by decide)]; exact q4 p p0 p1)⟩⟩⟩
            · have : k' ≠ (k : Int) := fun y => c (y ▸ z.1)
              omega
            · rw [gI_up]
              by_cases z : x = n (59 + 3 * (k : Int))
              · rw [z, up_s]
                refine (q3 _ L.2.1.1 L.2.1.2).ad (by omega) (fun u => ⟨fun ⟨k', a, b, d, f, g⟩ => ?_, fun y => ?_⟩)
                · by_cases y : k' = (k : Int)
                  · rw [y, c] at g
                    exact Or.inr g
                  · exact Or.inl ⟨k', a, b, d.imp id (fun z => ⟨z.1, by omega⟩), f, g⟩
                · rcases y with ⟨k', a, b, d, f, g⟩ | y
                  · exact ⟨k', a, b, d.imp id (fun z => ⟨z.1, by omega⟩), f, g⟩
                  · exact ⟨k, by omega, by omega, Or.inr ⟨c, by omega⟩, rfl, by rw [c]; exact y⟩
              · rw [up_n z]
                refine (q3 x x0 x1).cg (fun u => ⟨fun ⟨k', a, b, d, f, g⟩ => ⟨k', a, b, d.imp id (fun z => ⟨z.1, by omega⟩), f, g⟩, fun ⟨k', a, b, d, f, g⟩ => ⟨k', a, b, d.imp id (fun y => ⟨y.1, ?_⟩), f, g⟩⟩)
                have : k' ≠ (k : Int) := fun t => z (by rw [← f, t])
                omega
        have l0 := lk _ 0 (sI M' 90 (gI M1 91 i) (eW n nd (gI M1 91 i))) (by omega) rfl g0 (fun b b1 b2 => by rw [gI_ot b2]; exact g1 b b1 b2) g2 (fun x x0 x1 => by
          rw [gI_ot (by decide)]
          exact (g3 x x0 x1).cg (fun u => ⟨fun ⟨k', a, b, d, f, g⟩ => ⟨k', a, b, Or.inl d, f, g⟩, fun ⟨k', a, b, d, f, g⟩ => ⟨k', a, b, d.elim id (fun z => by have := z.2; omega), f, g⟩⟩)) (fun p p0 p1 => by
          rw [gI_up]
          by_cases z : gI M1 91 p = gI M1 91 i
          · rw [z, up_s]
          · rw [up_n z]
            by_cases y : p = (i : Int)
            · exact absurd (by rw [y]) z
            · exact g4 p p0 (by omega))
        refine B_M_goThrough_45 g0 ?_
        rw [t1, t2, t3, rr, hn _ wr.1 wr.2]
        refine ⟨fun c => by omega, fun _ => ⟨by omega, sp_M_endOf g0 wc ww t1 wr.1 wr.2 rb.1 (by omega) ndw.1 (by omega) ?_⟩⟩
        rw [← eW_eq wl]
        exact B_M_goThrough_90 g0 ⟨by omega, l0⟩
    -- READY is 0 at first
    have l1 : ∀ (f : Nat) (i : Nat) (M' : Mm), (i : Int) ≤ n 2 → (n 2).toNat - i = f → RefOK M' → (∀ b : Nat, b ≠ 89 → b ≠ 90 → gI M' b = gI M1 b) → gL M' = gL M1 → (∀ p, 0 ≤ p → p < (i : Int) → gI M' 89 (gI M1 91 p) = 0) → Wq 4 0 0 mM_goThrough 15 [iR 80, iI 0, iI i, none, none, none] [] M' Q := by
      intro f
      induction f with
      | zero =>
        intro i M' hi hf g0 g1 g2 g3
        obtain ⟨t1, t2, t3⟩ := in1 M' g1
        refine B_M_goThrough_15 g0 ?_
        rw [t1]
        refine ⟨fun _ => lp _ 0 M' 0 (by omega) rfl g0 g1 g2 (fun x x0 x1 => ?_) (fun p p0 p1 => by omega) (IsMx.no (fun u ⟨p, a, b, c⟩ => by omega)), fun c => by omega⟩
        obtain ⟨p, p0, p1, p2⟩ := topo_sur h2.1 to x0 x1
        have := g3 p p0 (by omega)
        rw [p2] at this
        rw [this]
        exact IsMx.no (fun u ⟨k, a, b, ⟨p, a', b', _⟩, _⟩ => by omega)
      | succ f ih =>
        intro i M' hi hf g0 g1 g2 g3
        obtain ⟨t1, t2, t3⟩ := in1 M' g1
        have wr := to.1 i (by omega) (by omega)
        have r := ih (i + 1) (sI M' 89 (gI M1 91 i) 0) (by omega) (by omega) g0 (fun b b1 b2 => by rw [gI_ot b1]; exact g1 b b1 b2) g2 (fun p p0 p1 => by
          rw [gI_up]
          by_cases z : gI M1 91 p = gI M1 91 i
          · rw [z, up_s]
          · rw [up_n z]
            by_cases y : p = (i : Int)
            · exact absurd (by rw [y]) z
            · exact g3 p p0 (by omega))
        rw [show (((i + 1 : Nat) : Int)) = (i : Int) + 1 by omega] at r
        refine B_M_goThrough_15 g0 ?_
        rw [t1, t2]
        exact ⟨fun c => by omega, fun _ => ⟨by omega, r⟩⟩
    exact l1 _ 0 M1 (by omega) rfl s0 (fun _ _ _ => rfl) rfl (fun p p0 p1 => by omega)
  refine B_M_goThrough_0 ⟨fun c => ?_, fun c => ?_⟩
  · rcases ca with z | ⟨z, y⟩
    · exact absurd z c
    · exact main M hS (fun _ _ _ => rfl) (fun _ _ => rfl) rfl z y
  · refine sp_M_sort hS ww wl e' (fun M' g0 g1 g2 g3 g4 g5 => ?_)
    exact B_M_goThrough_11 (main M' g0 g1 g2 g3 g4 g5)
end GT
