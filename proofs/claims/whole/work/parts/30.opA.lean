/-! ===== findings; today, calm, found ===== -/
section OPA
variable {s : St} {M : Mm} {Q : Mm → Option Mv → Prop}
theorem FrC.sI {a : Nat} {i v : Int} (h : a < 80) : FrC M (sI M a i v) := fun b j hb => gI_n (Or.inl (by omega))
theorem FrR.sI {a : Nat} {i v : Int} (h : 80 ≤ a) (h2 : a < 99) : FrR M (sI M a i v) := fun b j hb => ⟨gI_n (Or.inl (by omega)), rfl⟩
theorem FrC.tr {M1 M2 : Mm} (h : FrC M M1) (h2 : FrC M1 M2) : FrC M M2 := fun a i q => (h2 a i q).trans (h a i q)
theorem FrR.tr {M1 M2 : Mm} (h : FrR M M1) (h2 : FrR M1 M2) : FrR M M2 := fun a i q => ⟨((h2 a i q).1).trans (h a i q).1, ((h2 a i q).2).trans (h a i q).2⟩
theorem FrC.rf : FrC M M := fun _ _ _ => rfl
theorem FrR.rf : FrR M M := fun _ _ _ => ⟨rfl, rfl⟩
theorem CI.fnd {k : Int} (h : CI s M) (h1 : 1 ≤ k) (h2 : k ≤ 5) : CI (fnd s k).1 (sI M 69 k (wr (gI M 69 k + 1))) := by
  obtain ⟨g1, g2, g3, g4, g5, g6, g7, g8⟩ := h
  refine ⟨g1, g2, g3, g4, fun j j1 j2 => ?_, g6, g7, g8⟩
  show gI (sI M 69 k (wr (gI M 69 k + 1))) 69 j = up (sfd s) k (wr (sfd s k + 1)) j
  rw [gI_up, g5 k h1 h2]
  unfold up
  split
  · rfl
  · exact g5 j j1 j2
theorem RI.fnd {k : Int} (h : RI s M) : RI (fnd s k).1 (sI M 83 k (wr (gI M 83 k + 1))) := by
  obtain ⟨g1, g2, g3, g4, g5, g6, g7, g8, g9, g10, g11⟩ := h
  refine ⟨g1, g2, g3, g4, ?_, g6, g7, g8, g9, g10, g11⟩
  show gI (sI M 83 k (wr (gI M 83 k + 1))) 83 = up (sfd s) k (wr (sfd s k + 1))
  rw [gI_up, g5]
theorem WfS.fnd {k : Int} (h : WfS s) : WfS (fnd s k).1 := h
/-- a finding is answered: the class's side, the reference's side -/
theorem c_fnd {k z : Int} {r : St × Int} (h : CI s M) (h1 : 1 ≤ k) (h2 : k ≤ 5) (hz : z = -1000000 - k) (hr : r = fnd s k) (hq : ∀ M', CI r.1 M' → FrC M M' → Q M' (some (vI r.2))) : Q (sI M 69 k (wr (gI M 69 k + 1))) (some (vI z)) := by
  subst hr
  subst hz
  exact hq _ (h.fnd h1 h2) (FrC.sI (by decide))
theorem r_fnd {k z : Int} {r : St × Int} (h : RI s M) (hz : z = -1000000 - k) (hr : r = fnd s k) (hq : ∀ M', RI r.1 M' → FrR M M' → Q M' (some (vI r.2))) : Q (sI M 83 k (wr (gI M 83 k + 1))) (some (vI z)) := by
  subst hr
  subst hz
  exact hq _ h.fnd (FrR.sI (by decide) (by decide))
/-! a write of one place of 'now' -/
theorem RI.now {i v : Int} (h : RI s M) (hc : rCac (up (sn s) i v) (sI M 81 i v)) : RI (wN s (up (sn s) i v)) (sI M 81 i v) := by
  obtain ⟨g1, g2, g3, g4, g5, g6, g7, g8, g9, g10, g11⟩ := h
  refine ⟨g1, ?_, g3, g4, g5, g6, g7, g8, g9, g10, hc⟩
  rw [gI_up, g2]
  rfl
theorem eK_cg {n n' : Int → Int} (hw : wWrk n) (hl : wLnk n) (e1 : n' 1 = n 1) (e2 : n' 2 = n 2) (e3 : n' 3 = n 3) (er : ∀ i, 1033 ≤ i → i < 1933 → n' i = n i) (ek : ∀ i, 10 ≤ i → i < 148 → n' i = n i) {nd nd' : Int → Int} (hnd : ∀ w, 0 ≤ w → w < n 2 → nd' w = nd w) : ∀ (k : Nat) (w : Int), 0 ≤ w → w < n 2 → eK n' nd' k w = eK n nd k w := by
  have hgo : ∀ kd d, 0 ≤ d → goe n' kd d = goe n kd d := by
    intro kd d h0
    unfold goe
    rw [wkd_cg e1]
    by_cases hd : d < 900
    · rw [er (1033 + d) (by omega) (by omega)]
    · simp [hd]
  have hcE : ∀ (kd : Int) (f : Nat) (l d : Int), 0 ≤ d → cE n' kd f l d = cE n kd f l d := by
    intro kd f
    induction f with
    | zero => intro l d _; rfl
    | succ f ih =>
      intro l d h0
      unfold cE
      rw [hgo kd d h0]
      split
      · rfl
      · exact ih _ _ (by omega)
  intro k
  induction k with
  | zero => intro w _ _; rfl
  | succ k ih =>
    intro w h1 h2
    have hW := hw.2 w h1 h2
    have hw16 := hw.1.2
    have hr : ∀ j : Nat, (j : Int) ≤ n 3 → rdy n' (eK n' nd' k) w j = rdy n (eK n nd k) w j := by
      intro j
      induction j with
      | zero => intro _; rfl
      | succ j ihj =>
        intro hj
        have hL := hl.2.1 j (by omega) (by omega)
        have h30 := hl.1.2
        unfold rdy
        rw [ihj (by omega), ek (59 + 3 * (j : Int)) (by omega) (by omega), ek (58 + 3 * (j : Int)) (by omega) (by omega), ek (60 + 3 * (j : Int)) (by omega) (by omega), ih _ hL.1.1 hL.1.2]
    unfold eK
    rw [e3, hr _ (by have := hl.1.1; omega), ek (10 + 3 * w) (by omega) (by omega), hnd w h1 h2]
    unfold cEnd
    have h0 : 0 ≤ rdy n (eK n nd k) w (n 3).toNat := by
      have : ∀ j : Nat, 0 ≤ rdy n (eK n nd k) w j := by
        intro j
        induction j with
        | zero => exact Int.le_refl _
        | succ j ihj =>
          unfold rdy
          split <;> omega
      exact this _
    rw [hcE _ _ _ _ h0]
theorem eA_cg {n n' : Int → Int} (hw : wWrk n) (hl : wLnk n) (e1 : n' 1 = n 1) (e2 : n' 2 = n 2) (e3 : n' 3 = n 3) (er : ∀ i, 1033 ≤ i → i < 1933 → n' i = n i) (ek : ∀ i, 10 ≤ i → i < 148 → n' i = n i) {nd nd' : Int → Int} (hnd : ∀ w, 0 ≤ w → w < n 2 → nd' w = nd w) : eA n' nd' = eA n nd := by
  unfold eA
  rw [e2]
  have : ∀ j : Nat, (j : Int) ≤ n 2 → mxE (eW n' nd') j = mxE (eW n nd) j := by
    intro j
    induction j with
    | zero => intro _; rfl
    | succ j ih =>
      intro hj
      unfold mxE
      rw [ih (by omega)]
      unfold eW
      rw [e2, eK_cg hw hl e1 e2 e3 er ek hnd _ j (by omega) (by omega)]
  exact this _ (by have := hw.1.1; omega)
theorem mrs_0 (n : Int → Int) (w : Int) : ∀ j : Nat, mrs n 0 w j = 0
  | 0 => rfl
  | j + 1 => by
    unfold mrs
    rw [mrs_0 n w j, if_neg (by rw [hb_0]; simp)]
    rfl
theorem flt0_cg {n n' : Int → Int} (hw : wWrk n) (hl : wLnk n) (e1 : n' 1 = n 1) (e2 : n' 2 = n 2) (e3 : n' 3 = n 3) (er : ∀ i, 1033 ≤ i → i < 1933 → n' i = n i) (ek : ∀ i, 10 ≤ i → i < 148 → n' i = n i) {w : Int} (h1 : 0 ≤ w) (h2 : w < n 2) : flt n' 0 w = flt n 0 w := by
  have h16 := hw.1.2
  have hnd : ∀ w, 0 ≤ w → w < n 2 → nds n' 0 w = nds n 0 w := by
    intro w h1 h2
    unfold nds
    rw [mrs_0, mrs_0, ek (11 + 3 * w) (by omega) (by omega)]
  unfold flt
  have : ∀ (m : Nat) (lo hi : Int), fl n' (nds n' 0) w m lo hi = fl n (nds n 0) w m lo hi := by
    intro m
    induction m with
    | zero => intro lo hi; rfl
    | succ m ih =>
      intro lo hi
      unfold fl
      rw [ih, ih, eA_cg hw hl e1 e2 e3 er ek hnd, eA_cg (nd := up (nds n 0) w (nds n 0 w + (lo + hi) / 2)) hw hl e1 e2 e3 er ek (fun v v1 v2 => ?_)]
      unfold up
      rw [hnd w h1 h2, hnd v v1 v2]
  exact this 100 0 100
theorem rCac.cg {n n' : Int → Int} {M' : Mm} (hw : wWrk n) (hl : wLnk n) (h : rCac n M) (e1 : n' 1 = n 1) (e2 : n' 2 = n 2) (e3 : n' 3 = n 3) (er : ∀ i, 1033 ≤ i → i < 1933 → n' i = n i) (ek : ∀ i, 10 ≤ i → i < 148 → n' i = n i) (m1 : gI M' 80 13 = gI M 80 13) (m2 : gI M' 91 = gI M 91) (m3 : gI M' 92 = gI M 92) : rCac n' M' := by
  unfold rCac at *
  rw [m1, m2, m3, e2]
  refine ⟨?_, fun w h1 h2 => ?_⟩
  · rcases h.1 with q | ⟨q, q2⟩
    · exact Or.inl q
    · exact Or.inr ⟨q, topo_cg q2 hl.1.2 e2 e3 (fun i i1 i2 => ek i (by omega) (by omega))⟩
  · rw [flt0_cg hw hl e1 e2 e3 er ek h1 h2]
    exact h.2 w h1 h2
end OPA
