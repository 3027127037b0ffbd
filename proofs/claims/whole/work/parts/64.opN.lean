/-! ===== plan, end ===== -/
section OPN
variable {s : St} {M : Mm} {Q : Mm → Option Mv → Prop}
theorem set_lt {n : Int → Int} {st : Int} (h4 : 0 ≤ n 4 ∧ n 4 ≤ 20) (h : st < (2 : Int) ^ (n 4).toNat) : st < 2147483648 := Int.lt_trans h (two_lt (by omega))
def o_plan (s : St) (st w k : Int) : St × Int := if (0 ≤ st ∧ st < (2 : Int) ^ (sn s 4).toNat) ∧ (0 ≤ w ∧ w < sn s 2) ∧ (0 ≤ k ∧ k ≤ 2) then (s, if k = 2 then flt (sn s) st w else if k = 0 then rW (sn s) (nds (sn s) st) w else eW (sn s) (nds (sn s) st) w) else fnd s 1
theorem w_plan {st w k : Int} (hw : WfS s) : WfS (o_plan s st w k).1 := by
  unfold o_plan
  split
  · exact hw
  · exact hw.fnd
theorem c_plan {st w k : Int} (hw : WfS s) (h : CI s M) (a0 : st < 2147483648) (hq : ∀ M', CI (o_plan s st w k).1 M' → FrC M M' → Q M' (some (vI (o_plan s st w k).2))) : Wq 5 0 0 mD_plan 0 [iR 0, iI st, iI w, iI k] [] M Q := by
  obtain ⟨wd, wc, ww, wl, we, wt, wx, wh⟩ := hw.1
  have h2 := ww.1
  have h4 := we.1
  have d := h.2.1
  have dE := d.2.2.2.2.1
  have dW := d.2.2.1
  refine B_D_plan_0 h.1 ?_
  rw [dE.1, dW.1]
  refine ⟨by omega, fun c => ⟨fun c2 => ⟨fun c3 => ?_, fun c3 => c_fnd h (by decide) (by decide) (by decide) (if_neg (fun z => c3 z.2.2)) hq⟩, fun c2 => c_fnd h (by decide) (by decide) (by decide) (if_neg (fun z => c2 z.2.1)) hq⟩, fun c => c_fnd h (by decide) (by decide) (by decide) (if_neg (fun z => c z.1)) hq⟩
  rw [show o_plan s st w k = _ from if_pos ⟨c, c2, c3⟩] at hq
  refine ⟨fun c4 => ?_, fun c4 => ?_⟩
  · rw [if_neg c4] at hq
    refine sp_D_endOf h.1 wc ww wl we d (by omega) (fun M1 g0 g1 => B_D_plan_61 g0.1 ?_)
    rw [(g1 w c2.1 c2.2).1, (g1 w c2.1 c2.2).2]
    refine ⟨fun c5 => ⟨by omega, ?_⟩, fun c5 => ⟨by omega, ?_⟩⟩
    · rw [if_neg c5] at hq
      exact hq M1 (g0.ci h) g0.fr
    · rw [if_pos c5] at hq
      exact hq M1 (g0.ci h) g0.fr
  · rw [if_pos c4] at hq
    exact sp_D_floatOf h.1 wc ww wl we d (by omega) c2.1 c2.2 (fun M1 g0 => B_D_plan_55 (hq M1 (g0.ci h) g0.fr))
theorem r_plan {st w k : Int} (hw : WfS s) (h : RI s M) (hq : ∀ M', RI (o_plan s st w k).1 M' → FrR M M' → Q M' (some (vI (o_plan s st w k).2))) : Wq 7 0 0 mM_plan 0 [iR 80, iI st, iI w, iI k, none] [] M Q := by
  have e' := h.2.1
  obtain ⟨wd, wc, ww, wl, we, wt, wx, wh⟩ := hw.1
  have h2 := ww.1
  have h4 := we.1
  have ca := h.2.2.2.2.2.2.2.2.2.2
  refine B_M_plan_0 h.1 ?_
  rw [e']
  refine ⟨by omega, fun c => ⟨by omega, fun c2 => ⟨fun c3 => ?_, fun c3 => r_fnd h (by decide) (if_neg (fun z => c3 z.2.2)) hq⟩, fun c2 => r_fnd h (by decide) (if_neg (fun z => c2 z.2.1)) hq⟩, fun c => r_fnd h (by decide) (if_neg (fun z => c z.1)) hq⟩
  have a0 := set_lt we.1 c.2
  rw [show o_plan s st w k = _ from if_pos ⟨c, c2, c3⟩] at hq
  refine ⟨fun c4 => ?_, fun c4 => ?_⟩
  · rw [if_neg c4] at hq
    refine sp_M_endBy h.1 wc ww wl we e' ca ⟨c.1, a0⟩ (fun M1 g0 g1 => B_M_plan_53 g0.1 ?_)
    rw [(g1 w c2.1 c2.2).2.1, (g1 w c2.1 c2.2).2.2]
    refine ⟨fun c5 => ⟨by omega, ?_⟩, fun c5 => ⟨by omega, ?_⟩⟩
    · rw [if_neg c5] at hq
      exact hq M1 (g0.ri h) g0.fr
    · rw [if_pos c5] at hq
      exact hq M1 (g0.ri h) g0.fr
  · rw [if_pos c4] at hq
    exact sp_M_slackOf h.1 wc ww wl we e' ca ⟨c.1, a0⟩ c2.1 c2.2 (fun M1 g0 => B_M_plan_47 (hq M1 (g0.ri h) g0.fr))
def o_end (s : St) (st : Int) : St × Int := if 0 ≤ st ∧ st < (2 : Int) ^ (sn s 4).toNat then (s, eS (sn s) st) else fnd s 1
theorem w_end {st : Int} (hw : WfS s) : WfS (o_end s st).1 := by
  unfold o_end
  split
  · exact hw
  · exact hw.fnd
theorem c_end {st : Int} (hw : WfS s) (h : CI s M) (a0 : st < 2147483648) (hq : ∀ M', CI (o_end s st).1 M' → FrC M M' → Q M' (some (vI (o_end s st).2))) : Wq 5 0 0 mD_end 0 [iR 0, iI st] [] M Q := by
  obtain ⟨wd, wc, ww, wl, we, wt, wx, wh⟩ := hw.1
  have h4 := we.1
  have d := h.2.1
  have dE := d.2.2.2.2.1
  refine B_D_end_0 h.1 ?_
  rw [dE.1]
  refine ⟨by omega, fun c => ?_, fun c => c_fnd h (by decide) (by decide) (by decide) (if_neg c) hq⟩
  rw [show o_end s st = _ from if_pos c] at hq
  exact sp_D_endOf h.1 wc ww wl we d (by omega) (fun M1 g0 g1 => B_D_end_19 (hq M1 (g0.ci h) g0.fr))
theorem r_end {st : Int} (hw : WfS s) (h : RI s M) (hq : ∀ M', RI (o_end s st).1 M' → FrR M M' → Q M' (some (vI (o_end s st).2))) : Wq 6 0 0 mM_end 0 [iR 80, iI st] [] M Q := by
  have e' := h.2.1
  obtain ⟨wd, wc, ww, wl, we, wt, wx, wh⟩ := hw.1
  have h4 := we.1
  have ca := h.2.2.2.2.2.2.2.2.2.2
  refine B_M_end_0 h.1 ?_
  rw [e']
  refine ⟨by omega, fun c => ?_, fun c => r_fnd h (by decide) (if_neg c) hq⟩
  rw [show o_end s st = _ from if_pos c] at hq
  exact sp_M_endBy h.1 wc ww wl we e' ca ⟨c.1, set_lt we.1 c.2⟩ (fun M1 g0 g1 => B_M_end_13 (hq M1 (g0.ri h) g0.fr))
/-! chain -/
/-- v is the lowest of [a, m) with P, or -1 -/
def IsLo (P : Int → Prop) (a m v : Int) : Prop := (v = -1 ∧ ∀ x, a ≤ x → x < m → ¬ P x) ∨ (a ≤ v ∧ v < m ∧ P v ∧ ∀ x, a ≤ x → x < v → ¬ P x)
theorem IsLo.un {P : Int → Prop} {a m v v' : Int} (h : IsLo P a m v) (h' : IsLo P a m v') : v = v' := by
  rcases h with ⟨e, f⟩ | ⟨e1, e2, e3, e4⟩
  · rcases h' with ⟨e', f'⟩ | ⟨e1', e2', e3', e4'⟩
    · rw [e, e']
    · exact absurd e3' (f v' e1' e2')
  · rcases h' with ⟨e', f'⟩ | ⟨e1', e2', e3', e4'⟩
    · exact absurd e3 (f' v e1 e2)
    · by_cases z : v < v'
      · exact absurd e3 (e4' v e1 z)
      · by_cases y : v' < v
        · exact absurd e3' (e4 v' e1' y)
        · omega
/-- the first of the first k WORKS whose END is m -/
def lwF (e : Int → Int) (m : Int) : Nat → Int
  | 0 => -1
  | k + 1 => if lwF e m k < 0 ∧ e k = m then k else lwF e m k
theorem lwF_lo {e : Int → Int} {m : Int} : ∀ k : Nat, IsLo (fun w => e w = m) 0 k (lwF e m k)
  | 0 => Or.inl ⟨rfl, fun x x0 x1 => by omega⟩
  | k + 1 => by
    have ih := lwF_lo (e := e) (m := m) k
    unfold lwF
    split
    · rename_i c
      rcases ih with ⟨a, b⟩ | ⟨a, b, d, f⟩
      · refine Or.inr ⟨by omega, by omega, c.2, fun x x0 x1 => b x x0 x1⟩
      · omega
    · rename_i c
      rcases ih with ⟨a, b⟩ | ⟨a, b, d, f⟩
      · refine Or.inl ⟨a, fun x x0 x1 => ?_⟩
        by_cases z : x = (k : Int)
        · intro y
          exact c ⟨by omega, by rw [← z]; exact y⟩
        · exact b x x0 (by omega)
      · exact Or.inr ⟨a, by omega, d, f⟩
/-- the lowest WORK that rules at, out of the first j links -/
def rlF (n e : Int → Int) (r a : Int) : Nat → Int
  | 0 => -1
  | j + 1 => if (n (59 + 3 * (j : Int)) = a ∧ e (n (58 + 3 * (j : Int))) + n (60 + 3 * (j : Int)) = r) ∧ (rlF n e r a j < 0 ∨ n (58 + 3 * (j : Int)) < rlF n e r a j) then n (58 + 3 * (j : Int)) else rlF n e r a j
/-- x rules at, by one of the first j links -/
def rls (n e : Int → Int) (r a j x : Int) : Prop := ∃ k, 0 ≤ k ∧ k < j ∧ n (58 + 3 * k) = x ∧ n (59 + 3 * k) = a ∧ e x + n (60 + 3 * k) = r
theorem rlF_lo {n e : Int → Int} {r a : Int} (wl : wLnk n) : ∀ j : Nat, (j : Int) ≤ n 3 → IsLo (rls n e r a j) 0 (n 2) (rlF n e r a j)
  | 0, _ => Or.inl ⟨rfl, fun x x0 x1 ⟨k, k0, k1, _⟩ => by omega⟩
  | j + 1, hj => by
    have ih := rlF_lo (e := e) (r := r) (a := a) wl j (by omega)
    have L := (wl.2.1 j (by omega) (by omega)).1
    unfold rlF
    split
    · rename_i c
      obtain ⟨⟨c1, c2⟩, c3⟩ := c
      refine Or.inr ⟨L.1, L.2, ⟨j, by omega, by omega, rfl, c1, c2⟩, fun x x0 x1 ⟨k, k0, k1, k2, k3, k4⟩ => ?_⟩
      by_cases z : k = (j : Int)
      · rw [z] at k2
        omega
      · rcases ih with ⟨p, q⟩ | ⟨p, q, u, v⟩
        · exact q x x0 (by omega) ⟨k, k0, by omega, k2, k3, k4⟩
        · exact v x x0 (by omega) ⟨k, k0, by omega, k2, k3, k4⟩
    · rename_i c
      rcases ih with ⟨p, q⟩ | ⟨p, q, u, v⟩
      · refine Or.inl ⟨p, fun x x0 x1 ⟨k, k0, k1, k2, k3, k4⟩ => ?_⟩
        by_cases z : k = (j : Int)
        · rw [z] at k2 k3 k4
          exact c ⟨⟨k3, by rw [k2]; exact k4⟩, by omega⟩
        · exact q x x0 x1 ⟨k, k0, by omega, k2, k3, k4⟩
      · refine Or.inr ⟨p, q, ?_, fun x x0 x1 ⟨k, k0, k1, k2, k3, k4⟩ => ?_⟩
        · obtain ⟨k, k0, k1, k2, k3, k4⟩ := u
          exact ⟨k, k0, by omega, k2, k3, k4⟩
        · by_cases z : k = (j : Int)
          · rw [z] at k2 k3 k4
            exact c ⟨⟨k3, by rw [k2]; exact k4⟩, by omega⟩
          · exact v x x0 x1 ⟨k, k0, by omega, k2, k3, k4⟩
def rul (n nd : Int → Int) (a : Int) : Int := rlF n (eW n nd) (rW n nd a) a (n 3).toNat
def chn (n nd : Int → Int) : Nat → Int → Int
  | 0, a => a
  | i + 1, a => if a < 0 then a else chn n nd i (rul n nd a)
theorem chn_neg {n nd : Int → Int} {a : Int} (h : a < 0) : ∀ i : Nat, chn n nd i a = a
  | 0 => rfl
  | _ + 1 => if_pos h
def chW (n : Int → Int) (st i : Int) : Int := chn n (nds n st) i.toNat (lwF (eW n (nds n st)) (eS n st) (n 2).toNat)
def o_chain (s : St) (st i : Int) : St × Int := if (0 ≤ st ∧ st < (2 : Int) ^ (sn s 4).toNat) ∧ 0 ≤ i then (if chW (sn s) st i < 0 then fnd s 2 else (s, chW (sn s) st i)) else fnd s 1
theorem w_chain {st i : Int} (hw : WfS s) : WfS (o_chain s st i).1 := by
  unfold o_chain
  split
  · split
    · exact hw.fnd
    · exact hw
  · exact hw.fnd
theorem rul_in {n nd : Int → Int} (wl : wLnk n) {a : Int} : rul n nd a = -1 ∨ ((0 ≤ rul n nd a ∧ rul n nd a < n 2) ∧ lnk n (rul n nd a) a) := by
  have h3 := wl.1
  rcases rlF_lo (e := eW n nd) (r := rW n nd a) (a := a) wl (n 3).toNat (by omega) with ⟨p, q⟩ | ⟨p, q, ⟨k, k0, k1, k2, k3, k4⟩, v⟩
  · exact Or.inl p
  · exact Or.inr ⟨⟨p, q⟩, ⟨k, k0, by omega, k2, k3⟩⟩
theorem sp_P_lastWork {n nd : Int → Int} (hS : RefOK M) (ww : wWrk n) (hc : gI M 5 6 = n 2) (he : ∀ w, 0 ≤ w → w < n 2 → gI M 62 w = eW n nd w) (h0 : ∀ w, 0 ≤ w → w < n 2 → 0 ≤ eW n nd w) (hq : Q M (some (vI (lwF (eW n nd) (eA n nd) (n 2).toNat)))) : Wq 1 0 0 mP_lastWork 0 [iR 59, iR 5, none, none] [] M Q := by
  have h2 := ww.1
  have key : ∀ (f : Nat) (j : Nat) (x : Int), (j : Int) ≤ n 2 → (n 2).toNat - j = f → (0 ≤ x ∧ x < (j : Int)) → (∀ y, 0 ≤ y → y < (j : Int) → eW n nd y ≤ eW n nd x) → (∀ y, 0 ≤ y → y < x → eW n nd y < eW n nd x) → Wq 1 0 0 mP_lastWork 15 [iR 59, iR 5, iI x, iI j] [] M Q := by
    intro f
    induction f with
    | zero =>
      intro j x hj hf x0 m1 m2
      refine B_P_lastWork_15 hS ?_
      rw [hc]
      refine ⟨fun _ => ?_, fun c => by omega⟩
      have mx := mxE_mx (e := eW n nd) (n 2).toNat (fun p a b => h0 p a (by omega))
      have ea : eW n nd x = eA n nd := by
        have le : eW n nd x ≤ eA n nd := mx.2.2 _ ⟨x, x0.1, by omega, rfl⟩
        have ge : eA n nd ≤ eW n nd x := by
          rcases mx.2.1 with z | ⟨p, p0, p1, z⟩
          · have := h0 x x0.1 (by omega)
            show mxE _ _ ≤ _
            omega
          · show mxE _ _ ≤ _
            rw [z]
            exact m1 p p0 (by omega)
        omega
      have : x = lwF (eW n nd) (eA n nd) (n 2).toNat := IsLo.un (P := fun w => eW n nd w = eA n nd) (a := 0) (m := ((n 2).toNat : Int)) (Or.inr ⟨x0.1, by omega, ea, fun y y0 y1 z => by
        have := m2 y y0 y1
        have z : eW n nd y = eA n nd := z
        omega⟩) (lwF_lo _)
      rw [this]
      exact hq
    | succ f ih =>
      intro j x hj hf x0 m1 m2
      have ih := fun x => ih (j + 1) x (by omega) (by omega)
      rw [show (((j + 1 : Nat) : Int)) = (j : Int) + 1 by omega] at ih
      refine B_P_lastWork_15 hS ?_
      rw [hc, he j (by omega) (by omega), he x x0.1 (by omega)]
      refine ⟨fun c => by omega, fun _ => ⟨by omega, fun c => ⟨by omega, ih x (by omega) (fun y y0 y1 => ?_) m2⟩, fun c => ⟨by omega, ih j (by omega) (fun y y0 y1 => ?_) (fun y y0 y1 => ?_)⟩⟩⟩
      · by_cases z : y = (j : Int)
        · rw [z]
          exact c
        · exact m1 y y0 (by omega)
      · by_cases z : y = (j : Int)
        · rw [z]
          exact Int.le_refl _
        · have := m1 y y0 (by omega)
          omega
      · have := m1 y y0 y1
        omega
  refine B_P_lastWork_0 ?_
  rw [hc]
  refine ⟨fun c => ?_, fun c => ?_⟩
  · refine B_P_lastWork_15 hS ?_
    rw [hc]
    refine ⟨fun _ => ?_, fun c2 => by omega⟩
    rw [show (n 2).toNat = 0 by omega] at hq
    exact hq
  · refine key _ 1 0 (by omega) rfl (by omega) (fun y y0 y1 => ?_) (fun y y0 y1 => by omega)
    rw [show y = 0 by omega]
    exact Int.le_refl _
theorem sp_P_rulerOf {n nd : Int → Int} {a : Int} (hS : RefOK M) (ww : wWrk n) (wl : wLnk n) (hc : gI M 5 6 = n 2) (dL : cLnk n (gI M 9) (gI M 10) (gI M 11) (gI M 5 7)) (he : ∀ w, 0 ≤ w → w < n 2 → gI M 61 w = rW n nd w ∧ gI M 62 w = eW n nd w) (h0 : ∀ w, 0 ≤ w → w < n 2 → 0 ≤ eW n nd w ∧ eW n nd w ≤ 462660) (a0 : 0 ≤ a) (a1 : a < n 2) (hq : Q M (some (vI (rul n nd a)))) : Wq 3 0 0 mP_rulerOf 0 [iR 59, iI a, iR 5, none, none] [] M Q := by
  have h2 := ww.1
  have h3 := wl.1
  obtain ⟨bb, bi⟩ := dL.2.1 a a0 a1
  refine B_P_rulerOf_0 ?_
  have pos : ∀ j : Nat, (j : Int) < n 2 → (rls n (eW n nd) (rW n nd a) a (n 3) j ↔ (hb (gI M 9 a) j = true ∧ eW n nd j + gI M 10 (j * 16 + a) = rW n nd a)) := by
    intro j hj
    refine ⟨fun ⟨k, k0, k1, k2, k3, k4⟩ => ⟨(bi j).2 ⟨k, k0, k1, k2, k3⟩, ?_⟩, fun ⟨z, y⟩ => ?_⟩
    · have := dL.2.2.1 k k0 k1
      rw [k2, k3] at this
      rw [this]
      exact k4
    · obtain ⟨k, k0, k1, k2, k3⟩ := (bi j).1 z
      have := dL.2.2.1 k k0 k1
      rw [k2, k3] at this
      exact ⟨k, k0, k1, k2, k3, by rw [← this]; exact y⟩
  have lo := rlF_lo (e := eW n nd) (r := rW n nd a) (a := a) wl (n 3).toNat (by omega)
  rw [show (((n 3).toNat : Nat) : Int) = n 3 by omega] at lo
  have key : ∀ (f : Nat) (j : Nat), (j : Int) ≤ n 2 → (n 2).toNat - j = f → (∀ y, 0 ≤ y → y < (j : Int) → ¬ rls n (eW n nd) (rW n nd a) a (n 3) y) → Wq 3 0 0 mP_rulerOf 2 [iR 59, iI a, iR 5, iI j, none] [] M Q := by
    intro f
    induction f with
    | zero =>
      intro j hj hf m1
      refine B_P_rulerOf_2 hS ?_
      rw [hc]
      refine ⟨fun _ => ?_, fun c => by omega⟩
      have : -1 = rul n nd a := IsLo.un (Or.inl ⟨rfl, fun y y0 y1 => m1 y y0 (by omega)⟩) lo
      rw [this]
      exact hq
    | succ f ih =>
      intro j hj hf m1
      have ih := ih (j + 1) (by omega) (by omega)
      rw [show (((j + 1 : Nat) : Int)) = (j : Int) + 1 by omega] at ih
      have hj' := h0 j (by omega) (by omega)
      have no : ¬ (hb (gI M 9 a) j = true ∧ eW n nd j + gI M 10 (j * 16 + a) = rW n nd a) → Wq 3 0 0 mP_rulerOf 2 [iR 59, iI a, iR 5, iI ((j : Int) + 1), none] [] M Q := fun z => ih (fun y y0 y1 => by
        by_cases q : y = (j : Int)
        · rw [q, pos j (by omega)]
          exact z
        · exact m1 y y0 (by omega))
      have no2 : hb (gI M 9 a) j = true → wr (eW n nd j + gI M 10 ((j : Int) * 16 + a)) = eW n nd j + gI M 10 ((j : Int) * 16 + a) := fun z => by
        obtain ⟨k, k0, k1, k2, k3⟩ := (bi j).1 z
        have t := dL.2.2.1 k k0 k1
        rw [k2, k3] at t
        have lb := (wl.2.1 k k0 k1).2.2
        rw [t]
        exact wr_eq (by omega) (by omega)
      refine B_P_rulerOf_2 hS ?_
      rw [hc, (he j (by omega) (by omega)).2, (he a a0 a1).1, wr_eq (x := (j : Int) * 16) (by omega) (by omega), wr_eq (x := (j : Int) * 16 + a) (by omega) (by omega), wr_eq (x := (j : Int) + 1) (by omega) (by omega)]
      refine ⟨fun c => by omega, fun _ => ⟨⟨by omega, by omega, by omega⟩, fun c => ⟨⟨by omega, by omega⟩, fun c2 => no (fun z => c ((no2 c2).trans z.2)), fun c2 => no (fun z => c2 z.1)⟩, fun c => ⟨⟨by omega, by omega⟩, fun c2 => ?_, fun c2 => no (fun z => c2 z.1)⟩⟩⟩
      rw [no2 c2] at c
      have : (j : Int) = rul n nd a := IsLo.un (Or.inr ⟨by omega, by omega, (pos j (by omega)).2 ⟨c2, c⟩, fun y y0 y1 => m1 y y0 (by omega)⟩) lo
      rw [this]
      exact hq
  exact key _ 0 (by omega) rfl (fun y y0 y1 => by omega)
theorem c_chain {st i : Int} (hw : WfS s) (h : CI s M) (a0 : st < 2147483648) (hq : ∀ M', CI (o_chain s st i).1 M' → FrC M M' → Q M' (some (vI (o_chain s st i).2))) : Wq 5 0 0 mD_chain 0 [iR 0, iI st, iI i, none, none] [] M Q := by
  obtain ⟨wd, wc, ww, wl, we, wt, wx, wh⟩ := hw.1
  have h2 := ww.1
  have h4 := we.1
  have d := h.2.1
  refine B_D_chain_0 h.1 ?_
  rw [d.2.2.2.2.1.1]
  refine ⟨by omega, fun c => ⟨fun c2 => ?_, fun c2 => c_fnd h (by decide) (by decide) (by decide) (if_neg (fun z => c2 z.2)) hq⟩, fun c => c_fnd h (by decide) (by decide) (by decide) (if_neg (fun z => c z.1)) hq⟩
  rw [show o_chain s st i = _ from if_pos ⟨c, c2⟩] at hq
  refine sp_D_endOf h.1 wc ww wl we d (by omega) (fun M1 g0 g1 => B_D_chain_30 g0.1 ?_)
  have d1 := g0.s0 d
  have eb : ∀ w, 0 ≤ w → w < sn s 2 → 0 ≤ eW (sn s) (nds (sn s) st) w ∧ eW (sn s) (nds (sn s) st) w ≤ 462660 := fun w a b => eW_b ww wl (fun v v0 v1 => by have := nds_b (n := sn s) (st := st) ww we v0 v1; omega) a b
  refine sp_P_lastWork (nd := nds (sn s) st) g0.1 ww d1.2.2.1.1 (fun w w0 w1 => (g1 w w0 w1).2) (fun w w0 w1 => (eb w w0 w1).1) (B_D_chain_45 ?_)
  obtain ⟨rk, r1, r2⟩ := wl.2.2.2
  have fin : ∀ x, x = chW (sn s) st i → (x < 0 → Q (sI M1 69 2 (wr (gI M1 69 2 + 1))) (some (vI (-1000002)))) ∧ (¬ x < 0 → Q M1 (some (vI x))) := by
    intro x hx
    rw [← hx] at hq
    refine ⟨fun c => c_fnd (g0.ci h) (by decide) (by decide) (by decide) (if_pos c) (fun M' q0 q1 => hq M' q0 (fun a j q => (q1 a j q).trans (g0.fr a j q))), fun c => ?_⟩
    rw [if_neg c] at hq
    exact hq M1 (g0.ci h) g0.fr
  have key : ∀ (f : Nat) (p : Nat) (x : Int), p + f = 16 → (x = -1 ∨ (0 ≤ x ∧ x < sn s 2 ∧ rk x + p < 16)) → chn (sn s) (nds (sn s) st) (i.toNat - p) x = chW (sn s) st i → Wq 5 0 0 mD_chain 49 [iR 0, iI st, iI i, iI x, iI p] [] M1 Q := by
    intro f
    induction f with
    | zero =>
      intro p x hp hx he
      have x0 : x = -1 := by
        rcases hx with z | z
        · exact z
        · have := (r1 x).1
          omega
      rw [chn_neg (by omega)] at he
      have := fin x he
      exact B_D_chain_49 g0.1 ⟨fun _ => this, fun z => by omega⟩
    | succ f ih =>
      intro p x hp hx he
      refine B_D_chain_49 g0.1 ⟨fun z => by omega, fun _ => ⟨fun z => ?_, fun z => ⟨fun y => ?_, fun y => ?_⟩⟩⟩
      · rw [show i.toNat - p = 0 by omega] at he
        exact fin x he
      · rw [chn_neg y] at he
        exact fin x he
      · have hx : 0 ≤ x ∧ x < sn s 2 ∧ rk x + p < 16 := by
          rcases hx with z | z
          · omega
          · exact z
        rw [show i.toNat - p = (i.toNat - (p + 1)) + 1 by omega] at he
        have he : (if x < 0 then x else chn (sn s) (nds (sn s) st) (i.toNat - (p + 1)) (rul (sn s) (nds (sn s) st) x)) = chW (sn s) st i := he
        rw [if_neg y] at he
        refine sp_P_rulerOf g0.1 ww wl d1.2.2.1.1 d1.2.2.2.1 g1 eb hx.1 hx.2.1 (B_D_chain_81 ⟨by omega, ?_⟩)
        have r := ih (p + 1) (rul (sn s) (nds (sn s) st) x) (by omega) ?_ he
        · rw [show (((p + 1 : Nat) : Int)) = (p : Int) + 1 by omega] at r
          exact r
        · rcases rul_in (n := sn s) (nd := nds (sn s) st) (a := x) wl with z | ⟨z, t⟩
          · exact Or.inl z
          · have := r2 _ _ t
            exact Or.inr ⟨z.1, z.2, by omega⟩
  have st0 := lwF_lo (e := eW (sn s) (nds (sn s) st)) (m := eS (sn s) st) (sn s 2).toNat
  refine key 16 0 _ (by omega) ?_ rfl
  rcases st0 with ⟨z, y⟩ | ⟨z, y, _⟩
  · exact Or.inl z
  · have := (r1 (lwF (eW (sn s) (nds (sn s) st)) (eS (sn s) st) (sn s 2).toNat)).2
    exact Or.inr ⟨z, by show lwF (eW (sn s) (nds (sn s) st)) (eS (sn s) st) (sn s 2).toNat < _; omega, by show rk (lwF (eW (sn s) (nds (sn s) st)) (eS (sn s) st) (sn s 2).toNat) + _ < _; omega⟩
theorem r_chain {st i : Int} (hw : WfS s) (h : RI s M) (a1 : i < 2147483648) (hq : ∀ M', RI (o_chain s st i).1 M' → FrR M M' → Q M' (some (vI (o_chain s st i).2))) : Wq 6 0 0 mM_chain 0 [iR 80, iI st, iI i, none, none, none, none, none, none, none] [] M Q := by
  have e' := h.2.1
  obtain ⟨wd, wc, ww, wl, we, wt, wx, wh⟩ := hw.1
  have h2 := ww.1
  have h3 := wl.1
  have h4 := we.1
  have ca := h.2.2.2.2.2.2.2.2.2.2
  refine B_M_chain_0 h.1 ?_
  rw [e']
  refine ⟨by omega, fun c => ⟨fun c2 => ?_, fun c2 => r_fnd h (by decide) (if_neg (fun z => c2 z.2)) hq⟩, fun c => r_fnd h (by decide) (if_neg (fun z => c z.1)) hq⟩
  rw [show o_chain s st i = _ from if_pos ⟨c, c2⟩] at hq
  refine sp_M_endBy h.1 wc ww wl we e' ca ⟨c.1, set_lt we.1 c.2⟩ (fun M1 g0 g1 => B_M_chain_24 g0.1 ?_)
  have e1 := g0.e e'
  have eb : ∀ w, 0 ≤ w → w < sn s 2 → 0 ≤ eW (sn s) (nds (sn s) st) w ∧ eW (sn s) (nds (sn s) st) w ≤ 462660 := fun w a b => eW_b ww wl (fun v v0 v1 => by have := nds_b (n := sn s) (st := st) ww we v0 v1; omega) a b
  rw [e1]
  refine ⟨by omega, ?_⟩
  have fin : ∀ x, x = chW (sn s) st i → (0 ≤ x → Q M1 (some (vI x))) ∧ (¬ 0 ≤ x → Q (sI M1 83 2 (wr (gI M1 83 2 + 1))) (some (vI (-1000002)))) := by
    intro x hx
    rw [← hx] at hq
    refine ⟨fun c => ?_, fun c => r_fnd (g0.ri h) (by decide) (if_pos (by omega)) (fun M' q0 q1 => hq M' q0 (fun a j q => ⟨(q1 a j q).1.trans (g0.fr a j q).1, (q1 a j q).2.trans (g0.fr a j q).2⟩))⟩
    rw [if_neg (by omega)] at hq
    exact hq M1 (g0.ri h) g0.fr
  -- the links to it
  have lk : ∀ (x : Int) (p : Nat), 0 ≤ x → x < sn s 2 → (p : Int) < 2147483647 → Wq 6 0 0 mM_chain 72 [iR 80, iI st, iI i, iI (eS (sn s) st), iI (rul (sn s) (nds (sn s) st) x), iI ((p : Int) + 1), none, none, none, none] [] M1 Q → ∀ (f : Nat) (k : Nat), (k : Int) ≤ sn s 3 → (sn s 3).toNat - k = f → Wq 6 0 0 mM_chain 89 [iR 80, iI st, iI i, iI (eS (sn s) st), iI x, iI p, iI (rlF (sn s) (eW (sn s) (nds (sn s) st)) (rW (sn s) (nds (sn s) st) x) x k), iI k, none, none] [] M1 Q := by
    intro x p x0 x1 hp go f
    induction f with
    | zero =>
      intro k hk hf
      refine B_M_chain_89 g0.1 ?_
      rw [e1]
      refine ⟨fun _ => ⟨by omega, ?_⟩, fun z => by omega⟩
      unfold rul at go
      rw [show (sn s 3).toNat = k by omega] at go
      exact go
    | succ f ih =>
      intro k hk hf
      have ih := ih (k + 1) (by omega) (by omega)
      have L := wl.2.1 k (by omega) (by omega)
      rw [show (((k + 1 : Nat) : Int)) = (k : Int) + 1 by omega] at ih
      unfold rlF at ih
      have el := eb _ L.1.1 L.1.2
      refine B_M_chain_89 g0.1 ?_
      rw [e1, (g1 x x0 x1).2.1, (g1 _ L.1.1 L.1.2).2.2]
      refine ⟨fun z => by omega, fun _ => ⟨by omega, fun z => ⟨by omega, ?_⟩, fun z => ⟨⟨by omega, by omega, by omega, by omega⟩, fun y => ⟨by omega, ?_⟩, fun y => ⟨fun t => ⟨by omega, ?_⟩, fun t => ⟨fun u => ⟨by omega, ?_⟩, fun u => ⟨by omega, ?_⟩⟩⟩⟩⟩⟩
      · rw [if_neg (fun q => z q.1.1)] at ih
        exact ih
      · rw [if_neg (fun q => y q.1.2)] at ih
        exact ih
      · rw [if_pos ⟨⟨z, y⟩, Or.inl t⟩] at ih
        exact ih
      · rw [if_neg (fun q => by omega)] at ih
        exact ih
      · rw [if_pos ⟨⟨z, y⟩, Or.inr (by omega)⟩] at ih
        exact ih
  have key : ∀ (f : Nat) (p : Nat) (x : Int), (p : Int) ≤ i → i.toNat - p = f → (x = -1 ∨ (0 ≤ x ∧ x < sn s 2)) → chn (sn s) (nds (sn s) st) (i.toNat - p) x = chW (sn s) st i → Wq 6 0 0 mM_chain 72 [iR 80, iI st, iI i, iI (eS (sn s) st), iI x, iI p, none, none, none, none] [] M1 Q := by
    intro f
    induction f with
    | zero =>
      intro p x hp hf hx he
      rw [hf] at he
      have := fin x he
      exact B_M_chain_72 g0.1 ⟨fun _ => this, fun z => by omega⟩
    | succ f ih =>
      intro p x hp hf hx he
      refine B_M_chain_72 g0.1 ⟨fun z => by omega, fun _ => ⟨fun y => ?_, fun y => ?_⟩⟩
      · rw [chn_neg y] at he
        exact fin x he
      · have hx : 0 ≤ x ∧ x < sn s 2 := by omega
        rw [show i.toNat - p = (i.toNat - (p + 1)) + 1 by omega] at he
        have he : (if x < 0 then x else chn (sn s) (nds (sn s) st) (i.toNat - (p + 1)) (rul (sn s) (nds (sn s) st) x)) = chW (sn s) st i := he
        rw [if_neg y] at he
        have r := ih (p + 1) (rul (sn s) (nds (sn s) st) x) (by omega) (by omega) ?_ he
        · rw [show (((p + 1 : Nat) : Int)) = (p : Int) + 1 by omega] at r
          exact lk x p hx.1 hx.2 (by omega) r _ 0 (by omega) rfl
        · rcases rul_in (n := sn s) (nd := nds (sn s) st) (a := x) wl with z | ⟨z, t⟩
          · exact Or.inl z
          · exact Or.inr z
  -- the first whose END is THE END, from the last on
  have top : ∀ (f : Nat) (x y : Int), y + 1 = f → y < sn s 2 → IsLo (fun w => eW (sn s) (nds (sn s) st) w = eS (sn s) st) (y + 1) (sn s 2) x → Wq 6 0 0 mM_chain 38 [iR 80, iI st, iI i, iI (eS (sn s) st), iI x, iI y, none, none, none, none] [] M1 Q := by
    intro f
    induction f with
    | zero =>
      intro x y hf hy hx
      refine B_M_chain_38 g0.1 ⟨fun _ => ?_, fun z => by omega⟩
      rw [show y + 1 = 0 by omega] at hx
      have st0 := lwF_lo (e := eW (sn s) (nds (sn s) st)) (m := eS (sn s) st) (sn s 2).toNat
      rw [show (((sn s 2).toNat : Nat) : Int) = sn s 2 by omega] at st0
      have ex := hx.un st0
      refine key _ 0 x (by omega) rfl ?_ (by rw [ex]; rfl)
      rcases hx with ⟨z, _⟩ | ⟨z, t, _⟩
      · exact Or.inl z
      · exact Or.inr ⟨z, t⟩
    | succ f ih =>
      intro x y hf hy hx
      refine B_M_chain_38 g0.1 ⟨fun z => by omega, fun _ => ⟨by omega, ?_⟩⟩
      rw [(g1 y (by omega) hy).2.2]
      refine ⟨fun z => ⟨by omega, ih x (y - 1) (by omega) (by omega) ?_⟩, fun z => ⟨by omega, ih y (y - 1) (by omega) (by omega) (Or.inr ⟨by omega, by omega, z, fun v v0 v1 => by omega⟩)⟩⟩
      rw [show y - 1 + 1 = y by omega]
      rcases hx with ⟨t, u⟩ | ⟨t, u, v, q⟩
      · refine Or.inl ⟨t, fun v v0 v1 => ?_⟩
        by_cases r : v = y
        · rw [r]
          exact z
        · exact u v (by omega) v1
      · refine Or.inr ⟨by omega, u, v, fun v' v0 v1 => ?_⟩
        by_cases r : v' = y
        · rw [r]
          exact z
        · exact q v' (by omega) v1
  exact top (sn s 2).toNat (-1) (sn s 2 - 1) (by omega) (by omega) (Or.inl ⟨rfl, fun v v0 v1 => by omega⟩)
end OPN
