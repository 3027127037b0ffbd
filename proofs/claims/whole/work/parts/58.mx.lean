/-! ===== the greatest of a set ===== -/
section MX
variable {n : Int → Int}
/-- v is the greatest of a set, or 0 -/
def IsMx (S : Int → Prop) (v : Int) : Prop := 0 ≤ v ∧ (v = 0 ∨ S v) ∧ ∀ u, S u → u ≤ v
theorem IsMx.un {S T : Int → Prop} {v v' : Int} (h : IsMx S v) (h' : IsMx T v') (e : ∀ u, S u ↔ T u) : v = v' := by
  obtain ⟨a, b, c⟩ := h
  obtain ⟨a', b', c'⟩ := h'
  have q : v ≤ v' := by
    rcases b with b | b
    · omega
    · exact c' v ((e v).1 b)
  have q' : v' ≤ v := by
    rcases b' with b' | b'
    · omega
    · exact c v' ((e v').2 b')
  omega
theorem IsMx.cg {S T : Int → Prop} {v : Int} (h : IsMx S v) (e : ∀ u, S u ↔ T u) : IsMx T v := ⟨h.1, h.2.1.imp id (e v).1, fun u hu => h.2.2 u ((e u).2 hu)⟩
theorem IsMx.ad {S T : Int → Prop} {v x : Int} (h : IsMx S v) (x0 : 0 ≤ x) (e : ∀ u, T u ↔ (S u ∨ u = x)) : IsMx T (max v x) := by
  obtain ⟨a, b, c⟩ := h
  refine ⟨by omega, ?_, fun u hu => ?_⟩
  · by_cases q : v ≤ x
    · rw [show max v x = x by omega]
      exact Or.inr ((e x).2 (Or.inr rfl))
    · rw [show max v x = v by omega]
      rcases b with b | b
      · exact Or.inl b
      · exact Or.inr ((e v).2 (Or.inl b))
  · rcases (e u).1 hu with q | q
    · have := c u q
      omega
    · omega
theorem IsMx.no {S : Int → Prop} (h : ∀ u, ¬ S u) : IsMx S 0 := ⟨Int.le_refl _, Or.inl rfl, fun u hu => absurd hu (h u)⟩
/-- what the links k with P k to x bring -/
def lkZ (n e : Int → Int) (P : Int → Prop) (x u : Int) : Prop := ∃ k, 0 ≤ k ∧ k < n 3 ∧ P k ∧ n (59 + 3 * k) = x ∧ u = e (n (58 + 3 * k)) + n (60 + 3 * k)
theorem rdy_mx {e : Int → Int} {w : Int} : ∀ j : Nat, (j : Int) ≤ n 3 → IsMx (lkZ n e (fun k => k < j) w) (rdy n e w j)
  | 0, _ => IsMx.no (fun u ⟨k, a, _, c, _⟩ => by
    have : k < ((0 : Nat) : Int) := c
    omega)
  | j + 1, h => by
    have ih := rdy_mx (e := e) (w := w) j (by omega)
    unfold rdy
    split
    · rename_i c
      by_cases q : 0 ≤ e (n (58 + 3 * (j : Int))) + n (60 + 3 * (j : Int))
      · refine ih.ad q (fun u => ⟨fun ⟨k, a, b, d, f, g⟩ => ?_, fun z => ?_⟩)
        · have d : k < ((j + 1 : Nat) : Int) := d
          by_cases r : k = (j : Int)
          · rw [r] at g
            exact Or.inr g
          · exact Or.inl ⟨k, a, b, (by omega : k < (j : Int)), f, g⟩
        · rcases z with ⟨k, a, b, d, f, g⟩ | z
          · have d : k < (j : Int) := d
            exact ⟨k, a, b, (by omega : k < ((j + 1 : Nat) : Int)), f, g⟩
          · exact ⟨j, by omega, by omega, (by omega : (j : Int) < ((j + 1 : Nat) : Int)), c, z⟩
      · obtain ⟨a, b, d⟩ := ih
        rw [show max (rdy n e w j) (e (n (58 + 3 * (j : Int))) + n (60 + 3 * (j : Int))) = rdy n e w j by omega]
        have b2 : rdy n e w j = 0 ∨ lkZ n e (fun k => k < ((j + 1 : Nat) : Int)) w (rdy n e w j) := by
          rcases b with b | ⟨k, a', b', d', f, g⟩
          · exact Or.inl b
          · have d' : k < (j : Int) := d'
            exact Or.inr ⟨k, a', b', (by omega : k < ((j + 1 : Nat) : Int)), f, g⟩
        refine ⟨a, b2, fun u ⟨k, a', b', d', f, g⟩ => ?_⟩
        have d' : k < ((j + 1 : Nat) : Int) := d'
        by_cases r : k = (j : Int)
        · rw [r] at g
          omega
        · exact d u ⟨k, a', b', (by omega : k < (j : Int)), f, g⟩
    · rename_i c
      refine ih.cg (fun u => ⟨fun ⟨k, a, b, d, f, g⟩ => ⟨k, a, b, ?_, f, g⟩, fun ⟨k, a, b, d, f, g⟩ => ⟨k, a, b, ?_, f, g⟩⟩)
      · have d : k < (j : Int) := d
        show k < ((j + 1 : Nat) : Int)
        omega
      · have d : k < ((j + 1 : Nat) : Int) := d
        have : k ≠ (j : Int) := fun z => c (z ▸ f)
        show k < (j : Int)
        omega
theorem rW_mx {nd : Int → Int} (wl : wLnk n) (w : Int) : IsMx (lkZ n (eW n nd) (fun _ => True) w) (rW n nd w) := by
  have := wl.1
  refine (rdy_mx (e := eW n nd) (w := w) (n 3).toNat (by omega)).cg (fun u => ⟨fun ⟨k, a, b, d, f, g⟩ => ⟨k, a, b, trivial, f, g⟩, fun ⟨k, a, b, d, f, g⟩ => ⟨k, a, b, ?_, f, g⟩⟩)
  show k < ((n 3).toNat : Int)
  omega
/-- the ends of the first works of an order -/
def edZ (e od : Int → Int) (i u : Int) : Prop := ∃ p, 0 ≤ p ∧ p < i ∧ u = e (od p)
theorem mxE_mx {e : Int → Int} : ∀ j : Nat, (∀ p, 0 ≤ p → p < (j : Int) → 0 ≤ e p) → IsMx (edZ e id j) (mxE e j)
  | 0, _ => IsMx.no (fun u ⟨k, a, b, _⟩ => by omega)
  | j + 1, h => by
    refine (mxE_mx j (fun p a b => h p a (by omega))).ad (h j (by omega) (by omega)) (fun u => ⟨fun ⟨k, a, b, g⟩ => ?_, fun z => ?_⟩)
    · by_cases r : k = (j : Int)
      · rw [r] at g
        exact Or.inr g
      · exact Or.inl ⟨k, a, by omega, g⟩
    · rcases z with ⟨k, a, b, g⟩ | z
      · exact ⟨k, a, by omega, g⟩
      · exact ⟨j, by omega, by omega, z⟩
/-- every work has its place in an order -/
theorem topo_sur {od : Int → Int} (h2 : 0 ≤ n 2) (h : topo n od) {w : Int} (w0 : 0 ≤ w) (w1 : w < n 2) : ∃ p, 0 ≤ p ∧ p < n 2 ∧ od p = w := by
  have key : ∀ (m : Nat) (f : Int → Int), (∀ p, 0 ≤ p → p < (m : Int) → 0 ≤ f p ∧ f p < m) → (∀ p q, 0 ≤ p → p < (m : Int) → 0 ≤ q → q < (m : Int) → f p = f q → p = q) → ∀ w, 0 ≤ w → w < (m : Int) → ∃ p, 0 ≤ p ∧ p < (m : Int) ∧ f p = w := by
    intro m
    induction m with
    | zero => intro f a b w c d; omega
    | succ m ih =>
      intro f a b w c d
      by_cases t : f m = w
      · exact ⟨m, by omega, by omega, t⟩
      -- swap the place of w with the last: g p = f p, but what is the last value stands where w is
      have am := a m (by omega) (by omega)
      let g : Int → Int := fun p => if f p = m then f m else f p
      have g1 : ∀ p, 0 ≤ p → p < (m : Int) → 0 ≤ g p ∧ g p < m := by
        intro p p0 p1
        have ap := a p p0 (by omega)
        show 0 ≤ (if f p = m then f m else f p) ∧ (if f p = m then f m else f p) < m
        split
        · rename_i z
          have : f m ≠ m := fun y => by
            have := b p m p0 (by omega) (by omega) (by omega) (z.trans y.symm)
            omega
          omega
        · omega
      have g2 : ∀ p q, 0 ≤ p → p < (m : Int) → 0 ≤ q → q < (m : Int) → g p = g q → p = q := by
        intro p q p0 p1 q0 q1 e
        have e : (if f p = m then f m else f p) = (if f q = m then f m else f q) := e
        split at e
        · rename_i z
          split at e
          · rename_i y
            exact b p q p0 (by omega) q0 (by omega) (z.trans y.symm)
          · have := b m q (by omega) (by omega) q0 (by omega) e
            omega
        · split at e
          · have := b p m p0 (by omega) (by omega) (by omega) e
            omega
          · exact b p q p0 (by omega) q0 (by omega) e
      by_cases wm : w = m
      · -- then f m < m is hit by g, at a place whose f is m
        have fm : f m < m := by omega
        obtain ⟨p, p0, p1, pe⟩ := ih g g1 g2 (f m) am.1 fm
        have pe : (if f p = m then f m else f p) = f m := pe
        split at pe
        · rename_i z
          exact ⟨p, p0, by omega, z.trans wm.symm⟩
        · have := b p m p0 (by omega) (by omega) (by omega) pe
          omega
      · obtain ⟨p, p0, p1, pe⟩ := ih g g1 g2 w c (by omega)
        have pe : (if f p = m then f m else f p) = w := pe
        split at pe
        · exact absurd pe t
        · exact ⟨p, p0, by omega, pe⟩
  have r := key (n 2).toNat od (fun p a b => by have := h.1 p a (by omega); omega) (fun p q a b c d e => h.2.1 p q a (by omega) c (by omega) e) w w0 (by omega)
  obtain ⟨p, a, b, c⟩ := r
  exact ⟨p, a, by omega, c⟩
theorem eA_mx {nd od : Int → Int} {x : Int} (h2 : 0 ≤ n 2) (h : topo n od) (h0 : ∀ w, 0 ≤ w → w < n 2 → 0 ≤ eW n nd w) (hx : IsMx (edZ (eW n nd) od (n 2)) x) : x = eA n nd := by
  refine hx.un (mxE_mx (n 2).toNat (fun p a b => h0 p a (by omega))) (fun u => ⟨fun ⟨p, a, b, c⟩ => ?_, fun ⟨p, a, b, c⟩ => ?_⟩)
  · have := h.1 p a b
    exact ⟨od p, this.1, by omega, c⟩
  · obtain ⟨q, q0, q1, q2⟩ := topo_sur h2 h a (show p < n 2 by omega)
    exact ⟨q, q0, q1, by rw [q2]; exact c⟩
theorem eW_b {nd : Int → Int} (ww : wWrk n) (wl : wLnk n) (hd : ∀ w, 0 ≤ w → w < n 2 → 0 ≤ nd w ∧ nd w ≤ 1000) {w : Int} (w0 : 0 ≤ w) (w1 : w < n 2) : 0 ≤ eW n nd w ∧ eW n nd w ≤ 462660 := by
  have h := eK_b (D := 1000) wl hd (by omega) (17 + (n 2).toNat) w w0 w1
  have h2 := ww.1
  unfold eW
  have : (((17 + (n 2).toNat : Nat) : Int)) * (7 * 1000 + 7020) ≤ 33 * (7 * 1000 + 7020) := by omega
  omega
theorem rW_b {nd : Int → Int} (ww : wWrk n) (wl : wLnk n) (hd : ∀ w, 0 ≤ w → w < n 2 → 0 ≤ nd w ∧ nd w ≤ 1000) {w : Int} (w0 : 0 ≤ w) (w1 : w < n 2) : 0 ≤ rW n nd w ∧ rW n nd w ≤ 462680 := by
  have h3 := wl.1
  exact rdy_b (B := 462660) wl (by omega) (fun i hi => eW_b ww wl hd (lnk_in wl hi).1.1 (lnk_in wl hi).1.2) _ (by omega)
theorem eA_b {nd : Int → Int} (ww : wWrk n) (wl : wLnk n) (hd : ∀ w, 0 ≤ w → w < n 2 → 0 ≤ nd w ∧ nd w ≤ 1000) : 0 ≤ eA n nd ∧ eA n nd ≤ 462660 := by
  have h2 := ww.1
  have h := mxE_mx (e := eW n nd) (n 2).toNat (fun p a b => (eW_b ww wl hd a (by omega)).1)
  refine ⟨h.1, ?_⟩
  rcases h.2.1 with z | ⟨p, a, b, c⟩
  · show mxE _ _ ≤ _
    omega
  · have := (eW_b ww wl hd a (by omega)).2
    show mxE _ _ ≤ _
    rw [c]
    exact this
end MX
