/-! ===== the reference's order ===== -/
section SRT
variable {s : St} {M : Mm} {Q : Mm → Option Mv → Prop}
/-- the first p places of an order, and the set of those that stand there -/
def OrdI (n od : Int → Int) (p : Nat) (done : Int) : Prop := (0 ≤ done ∧ done < 65536) ∧ pcn done 16 = p ∧ (∀ q : Nat, q < p → ∃ x : Nat, od q = x ∧ (x : Int) < n 2 ∧ hb done x = true) ∧ (∀ x : Nat, hb done x = true → ∃ q : Nat, q < p ∧ od q = x) ∧ (∀ q r : Nat, q < p → r < p → od q = od r → q = r) ∧ (∀ q x : Nat, q < p → lnk n x (od q) → ∃ r : Nat, r < q ∧ od r = x)
theorem OrdI.z {n od : Int → Int} : OrdI n od 0 0 := ⟨by decide, by decide, fun q hq' => by omega, fun x hx => by rw [hb_0] at hx; exact absurd hx (by decide), fun q r q1 => by omega, fun q x q1 => by omega⟩
theorem OrdI.add {n od : Int → Int} {p y : Nat} {done : Int} (h : OrdI n od p done) (h2 : n 2 ≤ 16) (y1 : (y : Int) < n 2) (y2 : hb done y = false) (y3 : ∀ x : Nat, lnk n x y → hb done x = true) : OrdI n (up od p y) (p + 1) (sb done y) := by
  obtain ⟨d0, d1, i1, i2, i3, i4⟩ := h
  have nn : ∀ k : Nat, hb (sb done y) k = (hb done k || decide ((k : Int) = (y : Int))) := fun k => sb_hb d0.1 (by omega) (by omega) (by omega) k
  have lt' : 0 ≤ sb done y ∧ sb done y < 65536 := by
    obtain ⟨o0, o1, -⟩ := one_lt (e := (y : Int)) (by omega) (by omega)
    exact or_lt d0.1 d0.2 o0 o1
  have rd : ∀ q : Nat, up od p y q = if q = p then (y : Int) else od q := by
    intro q
    by_cases e : q = p
    · rw [if_pos e, e, up_s]
    · rw [if_neg e, up_n (by omega)]
  refine ⟨lt', by rw [pcn_sb d0 (by omega) y2 16, if_pos (by omega), d1]; omega, fun q hq' => ?_, fun x hx => ?_, fun q r q1 r1 e => ?_, fun q x q1 z => ?_⟩
  · rw [rd]
    by_cases e : q = p
    · rw [if_pos e]
      exact ⟨y, rfl, y1, by rw [nn, decide_eq_true rfl, Bool.or_true]⟩
    · rw [if_neg e]
      obtain ⟨x, x1, x2, x3⟩ := i1 q (by omega)
      exact ⟨x, x1, x2, by rw [nn, x3, Bool.true_or]⟩
  · rw [nn, Bool.or_eq_true, decide_eq_true_iff] at hx
    rcases hx with hx | hx
    · obtain ⟨q, q1, q2⟩ := i2 x hx
      exact ⟨q, by omega, by rw [rd, if_neg (by omega)]; exact q2⟩
    · exact ⟨p, by omega, by rw [rd, if_pos rfl]; omega⟩
  · rw [rd, rd] at e
    by_cases e1 : q = p <;> by_cases e2 : r = p
    · omega
    · rw [if_pos e1, if_neg e2] at e
      obtain ⟨x, x1, x2, x3⟩ := i1 r (by omega)
      have : x = y := by omega
      rw [this, y2] at x3
      exact absurd x3 (by decide)
    · rw [if_neg e1, if_pos e2] at e
      obtain ⟨x, x1, x2, x3⟩ := i1 q (by omega)
      have : x = y := by omega
      rw [this, y2] at x3
      exact absurd x3 (by decide)
    · rw [if_neg e1, if_neg e2] at e
      exact i3 q r (by omega) (by omega) e
  · rw [rd] at z
    by_cases e1 : q = p
    · rw [if_pos e1] at z
      obtain ⟨r, r1, r2⟩ := i2 x (y3 x z)
      exact ⟨r, by omega, by rw [rd, if_neg (by omega)]; exact r2⟩
    · rw [if_neg e1] at z
      obtain ⟨r, r1, r2⟩ := i4 q x (by omega) z
      exact ⟨r, r1, by rw [rd, if_neg (by omega)]; exact r2⟩
theorem OrdI.topo {n od : Int → Int} {p : Nat} {done : Int} (h : OrdI n od p done) (hp : n 2 ≤ p) : topo n od := by
  obtain ⟨d0, d1, i1, i2, i3, i4⟩ := h
  refine ⟨fun q q0 q1 => ?_, fun q r q0 q1 r0 r1 e => ?_, fun q r q0 q1 r0 r1 z => ?_⟩
  · obtain ⟨x, x1, x2, -⟩ := i1 q.toNat (by omega)
    rw [show ((q.toNat : Nat) : Int) = q by omega] at x1
    omega
  · have := i3 q.toNat r.toNat (by omega) (by omega) (by rw [show ((q.toNat : Nat) : Int) = q by omega, show ((r.toNat : Nat) : Int) = r by omega]; exact e)
    omega
  · obtain ⟨x, x1, x2, -⟩ := i1 q.toNat (by omega)
    rw [show ((q.toNat : Nat) : Int) = q by omega] at x1
    rw [x1] at z
    obtain ⟨t, t1, t2⟩ := i4 r.toNat x (by omega) (by rw [show ((r.toNat : Nat) : Int) = r by omega]; exact z)
    have := i3 t q.toNat (by omega) (by omega) (by rw [show ((q.toNat : Nat) : Int) = q by omega, t2, x1])
    omega
theorem pcn_lt {x : Int} {w : Nat} (h : hb x w = false) : ∀ k : Nat, w < k → pcn x k < k
  | 0, q => by omega
  | k + 1, q => by
    have hle : ∀ k : Nat, pcn x k ≤ k := by
      intro k
      induction k with
      | zero => exact Int.le_refl _
      | succ k ih =>
        show pcn x k + (if hb x k = true then 1 else 0) ≤ _
        split <;> omega
    show pcn x k + (if hb x k = true then 1 else 0) < _
    by_cases e : w = k
    · subst e
      have := hle w
      rw [h]
      simp
      omega
    · have := pcn_lt h k (by omega)
      split <;> omega
theorem OrdI.ex {n od : Int → Int} {p : Nat} {done : Int} (ww : wWrk n) (wl : wLnk n) (h : OrdI n od p done) (hp : (p : Int) < n 2) : ∃ y : Nat, (y : Int) < n 2 ∧ hb done y = false ∧ ∀ x : Nat, lnk n x y → hb done x = true := by
  have h2 := ww.1
  obtain ⟨rk, r1, r2⟩ := wl.2.2.2
  have hn : ∃ w : Nat, (w : Int) < n 2 ∧ hb done w = false := by
    by_cases q : ∃ w : Nat, (w : Int) < n 2 ∧ hb done w = false
    · exact q
    · exfalso
      have h1 := pcn_all (x := done) (n 2).toNat (fun w hw => by
        cases e : hb done w
        · exact absurd ⟨w, by omega, e⟩ q
        · rfl)
      have h3 := pcn_mo (x := done) (n 2).toNat (16 - (n 2).toNat)
      rw [show (n 2).toNat + (16 - (n 2).toNat) = 16 by omega, h.2.1, h1] at h3
      omega
  obtain ⟨w, w1, w2⟩ := hn
  exact nxt_ex wl (rk w).toNat rk (fun w => (r1 w).1) r2 w w1 w2 (by have := r1 w; omega)
/-- one that may stand next, from w on -/
def Cand (n : Int → Int) (done : Int) (w : Nat) : Prop := ∃ y : Nat, w ≤ y ∧ (y : Int) < n 2 ∧ hb done y = false ∧ ∀ x : Nat, lnk n x y → hb done x = true
theorem sp_M_sort {n : Int → Int} (hS : RefOK M) (ww : wWrk n) (wl : wLnk n) (e' : gI M 81 = n) (hq : ∀ M', RefOK M' → (∀ b : Nat, b ≠ 80 → b ≠ 91 → gI M' b = gI M b) → (∀ x, x ≠ 13 → gI M' 80 x = gI M 80 x) → gL M' = gL M → gI M' 80 13 = 1 → topo n (gI M' 91) → Q M' none) : Wq 2 0 0 mM_sort 0 [iR 80, none, none, none, none, none] [] M Q := by
  have h2 := ww.1
  have h3 := wl.1
  refine B_M_sort_0 ?_
  -- one WORK: taken or not
  have inner : ∀ (M' : Mm) (done : Int) (p w : Nat), RefOK M' → gI M' 81 = n → (0 ≤ done ∧ done < 65536) → (w : Int) < n 2 → p < 16 → ((∀ x : Nat, lnk n x w → hb done x = true) → Wq 2 0 0 mM_sort 16 [iR 80, iI (sb done w), iI ((p : Int) + 1), iI ((w : Int) + 1), none, none] [] (sI M' 91 p w) Q) → ((∃ x : Nat, lnk n x w ∧ hb done x = false) → Wq 2 0 0 mM_sort 16 [iR 80, iI done, iI p, iI ((w : Int) + 1), none, none] [] M' Q) → ∀ (f : Nat) (k : Nat), (k : Int) ≤ n 3 → (n 3).toNat - k = f → (∀ t : Nat, t < k → n (59 + 3 * (t : Int)) = w → hb done (n (58 + 3 * (t : Int))) = true) → Wq 2 0 0 mM_sort 44 [iR 80, iI done, iI p, iI w, iI 1, iI k] [] M' Q := by
    intro M' done p w g0 g1 d0 hw hp add skip f
    induction f with
    | zero =>
      intro k k1 hf kt
      refine B_M_sort_44 g0 ?_
      rw [g1]
      refine ⟨fun c => ⟨fun z => absurd z (by decide), fun _ => ⟨by omega, add (fun x ⟨t, t0, t1, e1, e2⟩ => ?_)⟩⟩, fun c => by omega⟩
      have := kt t.toNat (by omega)
      rw [show ((t.toNat : Nat) : Int) = t by omega, e1, e2] at this
      exact this rfl
    | succ f ih =>
      intro k k1 hf kt
      have ih := ih (k + 1) (by omega) (by omega)
      rw [show (((k + 1 : Nat) : Int)) = (k : Int) + 1 by omega] at ih
      obtain ⟨l1, l2, l3⟩ := wl.2.1 k (by omega) (by omega)
      have go : (n (59 + 3 * (k : Int)) = w → hb done (n (58 + 3 * (k : Int))) = true) → Wq 2 0 0 mM_sort 44 [iR 80, iI done, iI p, iI w, iI 1, iI ((k : Int) + 1)] [] M' Q := by
        intro q
        refine ih (fun t ht => ?_)
        by_cases e : t = k
        · rw [e]
          exact q
        · exact kt t (by omega)
      refine B_M_sort_44 g0 ?_
      rw [g1]
      refine ⟨fun c => by omega, fun c => ⟨fun z => absurd z (by decide), fun _ => ⟨by omega, fun c2 => ⟨by omega, go (fun z => absurd z c2)⟩, fun c2 => ⟨by omega, fun c3 => ⟨by omega, go (fun _ => c3)⟩, fun c3 => ⟨by omega, ?_⟩⟩⟩⟩⟩
      obtain ⟨u, hu⟩ : ∃ u : Nat, n (58 + 3 * (k : Int)) = u := ⟨(n (58 + 3 * (k : Int))).toNat, by omega⟩
      have sk := skip ⟨u, ⟨k, by omega, by omega, hu, c2⟩, by rw [hu] at c3; exact Bool.eq_false_iff.mpr c3⟩
      refine B_M_sort_44 g0 ?_
      rw [g1]
      exact ⟨fun _ => ⟨fun _ => ⟨by omega, sk⟩, fun z => absurd rfl z⟩, fun _ => ⟨fun _ => ⟨fun _ => ⟨by omega, sk⟩, fun z => absurd rfl z⟩, fun z => absurd rfl z⟩⟩
  -- one pass
  have pass : ∀ (p0 : Nat), (∀ (M' : Mm) (p : Nat) (done : Int), p0 < p → RefOK M' → (∀ b : Nat, b ≠ 91 → gI M' b = gI M b) → gL M' = gL M → OrdI n (gI M' 91) p done → Wq 2 0 0 mM_sort 4 [iR 80, iI done, iI p, none, none, none] [] M' Q) → ∀ (f : Nat) (w : Nat) (M' : Mm) (p : Nat) (done : Int), (w : Int) ≤ n 2 → (n 2).toNat - w = f → p0 ≤ p → RefOK M' → (∀ b : Nat, b ≠ 91 → gI M' b = gI M b) → gL M' = gL M → OrdI n (gI M' 91) p done → (p0 < p ∨ Cand n done w) → Wq 2 0 0 mM_sort 16 [iR 80, iI done, iI p, iI w, none, none] [] M' Q := by
    intro p0 next f
    induction f with
    | zero =>
      intro w M' p done w1 hf hp g0 g1 g2 g3 g4
      refine B_M_sort_16 g0 ?_
      rw [g1 81 (by decide), e']
      refine ⟨fun c => next M' p done ?_ g0 g1 g2 g3, fun c => by omega⟩
      rcases g4 with g4 | ⟨y, y0, y1, -⟩
      · exact g4
      · omega
    | succ f ih =>
      intro w M' p done w1 hf hp g0 g1 g2 g3 g4
      have ih := fun M' p done => ih (w + 1) M' p done (by omega) (by omega)
      rw [show (((w + 1 : Nat) : Int)) = (w : Int) + 1 by omega] at ih
      have d0 := g3.1
      have skip : (hb done w = true ∨ ∃ x : Nat, lnk n x w ∧ hb done x = false) → Wq 2 0 0 mM_sort 16 [iR 80, iI done, iI p, iI ((w : Int) + 1), none, none] [] M' Q := by
        intro q
        refine ih M' p done hp g0 g1 g2 g3 ?_
        rcases g4 with g4 | ⟨y, y0, y1, y2, y3⟩
        · exact Or.inl g4
        · refine Or.inr ⟨y, ?_, y1, y2, y3⟩
          by_cases e : y = w
          · subst e
            rcases q with q | ⟨x, x1, x2⟩
            · rw [y2] at q
              exact absurd q (by decide)
            · rw [y3 x x1] at x2
              exact absurd x2 (by decide)
          · omega
      refine B_M_sort_16 g0 ?_
      rw [g1 81 (by decide), e']
      refine ⟨fun c => by omega, fun c => ⟨by omega, fun c2 => ?_, fun c2 => ?_⟩⟩
      · refine B_M_sort_44 g0 ?_
        exact ⟨fun _ => ⟨fun _ => ⟨by omega, skip (Or.inl c2)⟩, fun z => absurd rfl z⟩, fun _ => ⟨fun _ => ⟨fun _ => ⟨by omega, skip (Or.inl c2)⟩, fun z => absurd rfl z⟩, fun z => absurd rfl z⟩⟩
      · have c2' := Bool.eq_false_iff.mpr c2
        have lt := pcn_lt c2' 16 (by omega)
        rw [g3.2.1] at lt
        refine inner M' done p w g0 (by rw [g1 81 (by decide)]; exact e') d0 (by omega) (by omega) (fun q => ?_) (fun q => skip (Or.inr q)) _ 0 (by omega) rfl (fun t ht => by omega)
        have ad := g3.add h2.2 (by omega) c2' q
        have r := ih (sI M' 91 p w) (p + 1) (sb done w) (by omega) g0 (fun b hb => by rw [gI_ot hb]; exact g1 b hb) g2 (by rw [gI_up]; exact ad) (Or.inl (by omega))
        rw [show (((p + 1 : Nat) : Int)) = (p : Int) + 1 by omega] at r
        exact r
  have outer : ∀ (f : Nat) (p : Nat) (M' : Mm) (done : Int), (n 2).toNat - p ≤ f → RefOK M' → (∀ b : Nat, b ≠ 91 → gI M' b = gI M b) → gL M' = gL M → OrdI n (gI M' 91) p done → Wq 2 0 0 mM_sort 4 [iR 80, iI done, iI p, none, none, none] [] M' Q := by
    intro f
    induction f with
    | zero =>
      intro p M' done hf g0 g1 g2 g3
      refine B_M_sort_4 g0 ?_
      rw [g1 81 (by decide), e']
      refine ⟨fun c => hq _ g0 (fun b b1 b2 => by rw [gI_ot b1]; exact g1 b b2) (fun x hx => by rw [gI_n (Or.inr hx), g1 80 (by decide)]) g2 gI_s (by rw [gI_ot (by decide)]; exact g3.topo (by omega)), fun c => by omega⟩
    | succ f ih =>
      intro p M' done hf g0 g1 g2 g3
      refine B_M_sort_4 g0 ?_
      rw [g1 81 (by decide), e']
      refine ⟨fun c => hq _ g0 (fun b b1 b2 => by rw [gI_ot b1]; exact g1 b b2) (fun x hx => by rw [gI_n (Or.inr hx), g1 80 (by decide)]) g2 gI_s (by rw [gI_ot (by decide)]; exact g3.topo (by omega)), fun c => ?_⟩
      obtain ⟨y, y1, y2, y3⟩ := g3.ex ww wl (by omega)
      exact pass p (fun M2 p2 done2 hp k0 k1 k2 k3 => ih p2 M2 done2 (by omega) k0 k1 k2 k3) _ 0 M' p done (by omega) rfl (Nat.le_refl _) g0 g1 g2 g3 (Or.inr ⟨y, by omega, y1, y2, y3⟩)
  exact outer _ 0 M 0 (Nat.le_refl _) hS (fun _ _ => rfl) rfl OrdI.z
end SRT
