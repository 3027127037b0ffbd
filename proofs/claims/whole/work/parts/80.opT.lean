/-! ===== says ===== -/
section OPT
variable {s : St} {M : Mm} {Q : Mm → Option Mv → Prop} {n : Int → Int}
/-- the code of CLAUSE c -/
def clL (n : Int → Int) (c : Int) : List Int := (List.range (n (290 + 73 * c)).toNat).map (fun k : Nat => n (291 + 73 * c + k))
def hd0 : Option (List Int) → Int
  | some (v :: _) => v
  | _ => 0
/-- its value for EVENT e -/
def clV (n : Int → Int) (c e : Int) : Int := hd0 (exL (nuE n e) (clL n c) [])
theorem Tx.ls {t : Int → Int} {len c : Int} (T : Tx t len (fun k => n (291 + 73 * c + k)) (n (290 + 73 * c))) : clL n c = (pRun t len (fun _ => 0)).1.2.2.2 := by
  obtain ⟨t1, t2, t3, t4, t5⟩ := T
  unfold clL
  apply List.ext_getElem
  · simp
    omega
  · intro i h1 h2
    have := t5 i (by omega)
    rw [List.getElem?_eq_getElem h2] at this
    rw [List.getElem_map, List.getElem_range]
    exact (Option.some.inj this).symm
theorem Tx.v {t : Int → Int} {len c e : Int} {nu : Int → Int} (T : Tx t len (fun k => n (291 + 73 * c + k)) (n (290 + 73 * c))) (hn : ∀ i, 0 ≤ i → i < len → 0 ≤ nameF (t i) → nu (nameF (t i)) = nuE n e (nameF (t i))) : exL (nuE n e) (clL n c) [] = some [(pRun t len nu).2] := by
  have e0 : pRun t len nu = pRun t len (nuE n e) := pRun_cg (fun _ _ _ => rfl) hn
  have e1 : (pRun t len (nuE n e)).1 = (pRun t len (fun _ => 0)).1 := pRun_nu
  rw [e0, T.ls, ← e1]
  have t1 := T.1
  exact pRun_ex (by omega) t1.2 (by rw [e1]; exact T.2.1)
/-- the reference: besides, the pile is written -/
def RV (n : Int → Int) (M M' : Mm) : Prop := RefOK M' ∧ (∀ b : Nat, b ≠ 80 → ¬ (88 ≤ b ∧ b ≤ 92) → b ≠ 95 → gI M' b = gI M b) ∧ (∀ x, x ≠ 13 → gI M' 80 x = gI M 80 x) ∧ gL M' = gL M ∧ rCac n M'
theorem RW.v {M' : Mm} (h : RW n M M') : RV n M M' := ⟨h.1, fun b b1 b2 _ => h.2.1 b b1 b2, h.2.2.1, h.2.2.2.1, h.2.2.2.2⟩
theorem RV.tr {M1 M2 : Mm} (h : RV n M M1) (g : RV n M1 M2) : RV n M M2 := ⟨g.1, fun b b1 b2 b3 => (g.2.1 b b1 b2 b3).trans (h.2.1 b b1 b2 b3), fun x hx => (g.2.2.1 x hx).trans (h.2.2.1 x hx), g.2.2.2.1.trans h.2.2.2.1, g.2.2.2.2⟩
theorem RV.e {M' : Mm} (h : RV n M M') (e' : gI M 81 = n) : gI M' 81 = n := (h.2.1 81 (by decide) (by decide) (by decide)).trans e'
theorem RV.w {M' : Mm} {i v : Int} (h : RV n M M') : RV n M (sI M' 95 i v) := by
  refine ⟨h.1, fun b b1 b2 b3 => by rw [gI_ot b3]; exact h.2.1 b b1 b2 b3, fun x hx => by rw [gI_ot (by decide)]; exact h.2.2.1 x hx, h.2.2.2.1, ?_⟩
  have g := h.2.2.2.2
  unfold rCac at g ⊢
  rw [gI_ot (by decide), gI_ot (by decide), gI_ot (by decide)]
  exact g
theorem RV.ri {M' : Mm} (h : RV (sn s) M M') (c : RI s M) : RI s M' := by
  obtain ⟨r1, r2, r3, r4, r5, r6, r7, r8, r9, r10, r11⟩ := c
  obtain ⟨h1, h2, h3, h4, h5⟩ := h
  exact ⟨h1, (h2 81 (by decide) (by decide) (by decide)).trans r2, (h2 82 (by decide) (by decide) (by decide)).trans r3, (h3 2 (by decide)).trans r4, (h2 83 (by decide) (by decide) (by decide)).trans r5, (h2 84 (by decide) (by decide) (by decide)).trans r6, (h2 85 (by decide) (by decide) (by decide)).trans r7, (h2 86 (by decide) (by decide) (by decide)).trans r8, (h2 87 (by decide) (by decide) (by decide)).trans r9, (h3 8 (by decide)).trans r10, h5⟩
theorem RV.fr {M' : Mm} (h : RV n M M') : FrR M M' := fun a i q => ⟨by rw [h.2.1 a (by omega) (by omega) (by omega)], by rw [h.2.2.2.1]⟩
theorem sp_M_done {c a b : Int} (hq : Q M (some (vI (dnF c a b)))) : Wq 1 0 0 mM_done 0 [iI c, iI a, iI b] [] M Q := by
  unfold dnF tru at hq
  refine B_M_done_0 ⟨fun z => ?_, fun z => ?_, fun z => ?_, fun z => ?_, fun z => ?_, fun z => ?_, fun z => ?_, fun z => ?_, fun z => ?_⟩
  · rw [if_pos z] at hq
    refine ⟨fun y => ?_, fun y => ⟨fun x => ?_, fun x => ?_⟩⟩
    · rw [if_pos (Or.inl y)] at hq; exact hq
    · rw [if_neg (fun q => q.elim (fun q => q y) (fun q => q x))] at hq; exact hq
    · rw [if_pos (Or.inr x)] at hq; exact hq
  · rw [if_neg (by omega), if_pos z] at hq
    refine ⟨fun y => ?_, fun y => ⟨fun x => ?_, fun x => ?_⟩⟩
    · rw [if_neg (fun q => q.1 y)] at hq; exact hq
    · rw [if_neg (fun q => q.2 x)] at hq; exact hq
    · rw [if_pos ⟨y, x⟩] at hq; exact hq
  · rw [if_neg (by omega), if_neg (by omega), if_pos z] at hq
    refine ⟨fun y => ?_, fun y => ?_⟩
    · rw [if_neg (by omega)] at hq; exact hq
    · rw [if_pos (by omega)] at hq; exact hq
  · rw [if_neg (by omega), if_neg (by omega), if_neg (by omega), if_pos z] at hq
    refine ⟨fun y => ?_, fun y => ?_⟩
    · rw [if_neg y] at hq; exact hq
    · rw [if_pos y] at hq; exact hq
  · rw [if_neg (by omega), if_neg (by omega), if_neg (by omega), if_neg (by omega), if_pos z] at hq
    refine ⟨fun y => ?_, fun y => ?_⟩
    · rw [if_neg (by omega)] at hq; exact hq
    · rw [if_pos (by omega)] at hq; exact hq
  · rw [if_neg (by omega), if_neg (by omega), if_neg (by omega), if_neg (by omega), if_neg (by omega), if_pos z] at hq
    exact hq
  · rw [if_neg (by omega), if_neg (by omega), if_neg (by omega), if_neg (by omega), if_neg (by omega), if_neg (by omega), if_pos z] at hq
    exact hq
  · rw [if_neg (by omega), if_neg (by omega), if_neg (by omega), if_neg (by omega), if_neg (by omega), if_neg (by omega), if_neg (by omega), if_pos z] at hq
    exact hq
  · rw [if_neg (by omega), if_neg (by omega), if_neg (by omega), if_neg (by omega), if_neg (by omega), if_neg (by omega), if_neg (by omega), if_neg (by omega)] at hq
    unfold dvd at hq
    refine ⟨fun y => ⟨y, ?_⟩, fun y => ?_⟩
    · rw [if_neg y] at hq; exact hq
    · rw [if_pos y] at hq; exact hq
/-- a pile, its top first, in a row -/
def plR (pl : List Int) (M : Mm) : Prop := ∀ j : Nat, j < pl.length → gI M 95 j = pl.getD (pl.length - 1 - j) 0
theorem plR.push {pl : List Int} {v : Int} (h : plR pl M) : plR (v :: pl) (sI M 95 (pl.length : Int) v) := by
  intro j hj
  have hj : j < pl.length + 1 := hj
  rw [gI_up]
  by_cases c : j = pl.length
  · rw [c, up_s]
    simp [List.getD]
  · rw [up_n (by omega), h j (by omega)]
    show _ = (v :: pl).getD (pl.length + 1 - 1 - j) 0
    rw [show pl.length + 1 - 1 - j = (pl.length - 1 - j) + 1 by omega]
    rfl
theorem plR.pop {pl : List Int} {v : Int} (h : plR (v :: pl) M) : plR pl M ∧ gI M 95 (pl.length : Int) = v := by
  refine ⟨fun j hj => ?_, ?_⟩
  · have := h j (by show j < pl.length + 1; omega)
    rw [this]
    show (v :: pl).getD (pl.length + 1 - 1 - j) 0 = _
    rw [show pl.length + 1 - 1 - j = (pl.length - 1 - j) + 1 by omega]
    rfl
  · have := h pl.length (by show pl.length < pl.length + 1; omega)
    rw [this]
    show (v :: pl).getD (pl.length + 1 - 1 - pl.length) 0 = v
    rw [show pl.length + 1 - 1 - pl.length = 0 by omega]
    rfl
theorem sp_M_worked {c e : Int} (hS : RefOK M) (wf : WfN n) (e' : gI M 81 = n) (ca : rCac n M) (c0 : 0 ≤ c ∧ c < n 5) (e0 : 0 ≤ e ∧ e < n 4) (hq : ∀ M', RV n M M' → Q M' (some (vI (clV n c e)))) : Wq 9 0 0 mM_worked 0 [iR 80, iI c, iI e, none, none, none, none] [] M Q := by
  obtain ⟨wd, wc, ww, wl, we, wt, wx, wh⟩ := wf
  have x5 := wx.1
  obtain ⟨-, -, t, len, T⟩ := wx.2 c c0.1 c0.2
  have sz := T.sz
  have ev := T.v (e := e) (nu := nuE n e) (fun _ _ _ _ => rfl)
  generalize (pRun t len (nuE n e)).2 = v at ev
  have hv : clV n c e = v := by
    unfold clV
    rw [ev]
    rfl
  rw [hv] at hq
  have ll : (clL n c).length = (n (290 + 73 * c)).toNat := by
    unfold clL
    simp
  have lg : ∀ k : Nat, k < (clL n c).length → (clL n c).drop k = n (291 + 73 * c + k) :: (clL n c).drop (k + 1) := fun k hk => by
    rw [List.drop_eq_getElem_cons hk]
    congr 1
    simp only [clL, List.getElem_map, List.getElem_range]
  refine B_M_worked_0 ⟨by omega, ?_⟩
  have key : ∀ (f : Nat) (k : Nat) (pl : List Int) (M' : Mm), k + f = (clL n c).length → pl.length ≤ k → RV n M M' → plR pl M' → exL (nuE n e) ((clL n c).drop k) pl = some [v] → Wq 9 0 0 mM_worked 15 [iR 80, iI c, iI e, iI (288 + 73 * c), iI (pl.length : Int), iI k, none] [] M' Q := by
    intro f
    induction f with
    | zero =>
      intro k pl M' hk hp g0 g1 he
      refine B_M_worked_15 g0.1 ?_
      rw [g0.e e', show 288 + 73 * c + 2 = 290 + 73 * c by omega]
      refine ⟨by omega, fun _ => ?_, fun z => by omega⟩
      rw [List.drop_eq_nil_of_le (by omega)] at he
      have he : pl = [v] := Option.some.inj he
      have := (g1 0 (by rw [he]; simp))
      rw [he] at this
      have this : gI M' 95 0 = v := this
      rw [this]
      exact hq M' g0
    | succ f ih =>
      intro k pl M' hk hp g0 g1 he
      have ih := fun pl' M'' => ih (k + 1) pl' M'' (by omega)
      rw [show (((k + 1 : Nat) : Int)) = (k : Int) + 1 by omega] at ih
      rw [lg k (by omega)] at he
      refine B_M_worked_15 g0.1 ?_
      rw [g0.e e', show 288 + 73 * c + 2 = 290 + 73 * c by omega, show 288 + 73 * c + 3 + (k : Int) = 291 + 73 * c + k by omega]
      refine ⟨by omega, fun z => by omega, fun _ => ⟨by omega, fun z => ⟨fun y => ?_, fun y => ?_⟩, fun z => ⟨fun y => ⟨by omega, ?_⟩, fun y => ⟨by omega, ?_⟩⟩⟩⟩
      · -- two of them
        unfold exL ex1 at he
        rw [if_neg (by omega), if_neg (by omega), if_neg y] at he
        match pl, hp, g1, he with
        | [], _, _, he => exact absurd he (by simp)
        | [_], _, _, he => exact absurd he (by simp)
        | b :: a :: r, hp, g1, he =>
          obtain ⟨p1, q1⟩ := g1.pop
          obtain ⟨p2, q2⟩ := p1.pop
          have hp : r.length + 1 + 1 ≤ k := hp
          have l2 : ((a :: r).length : Int) = r.length + 1 := by simp
          have l3 : ((b :: a :: r).length : Int) = r.length + 2 := by simp; omega
          rw [l2] at q1
          rw [l3, show (r.length : Int) + 2 - 2 = r.length by omega, show (r.length : Int) + 2 - 1 = r.length + 1 by omega, q1, q2]
          refine ⟨by omega, sp_M_done ?_⟩
          rw [wr_eq (by omega) (by omega), show (r.length : Int) + 1 - 1 = r.length by omega]
          refine B_M_worked_155 ⟨by omega, ?_⟩
          have := ih (dnF (n (291 + 73 * c + k)) a b :: r) (sI M' 95 (r.length : Int) (dnF (n (291 + 73 * c + k)) a b)) (by simp; omega) g0.w p2.push he
          rw [show ((dnF (n (291 + 73 * c + (k : Int))) a b :: r).length : Int) = (r.length : Int) + 1 by simp] at this
          exact this
      · -- not
        unfold exL ex1 at he
        rw [if_neg (by omega), if_neg (by omega), if_pos y] at he
        match pl, hp, g1, he with
        | [], _, _, he => exact absurd he (by simp)
        | a :: r, hp, g1, he =>
          obtain ⟨p1, q1⟩ := g1.pop
          have hp : r.length + 1 ≤ k := hp
          have l2 : ((a :: r).length : Int) = r.length + 1 := by simp
          rw [l2, show (r.length : Int) + 1 - 1 = r.length by omega, q1]
          have := ih (tru (a = 0) :: r) (sI M' 95 (r.length : Int) (tru (a = 0))) (by simp; omega) g0.w p1.push he
          rw [show ((tru (a = 0) :: r).length : Int) = (r.length : Int) + 1 by simp] at this
          unfold tru at this
          refine ⟨by omega, fun x => ⟨by omega, ?_⟩, fun x => ⟨by omega, ?_⟩⟩
          · rw [if_neg x] at this
            exact this
          · rw [if_pos x] at this
            exact this
      · -- a name
        unfold exL ex1 at he
        rw [if_neg (by omega), if_pos (by omega)] at he
        refine sp_M_named g0.1 wd wc ww wl we (g0.e e') g0.2.2.2.2 e0 (fun M2 q => B_M_worked_79 ⟨by omega, ?_⟩)
        have p2 : plR pl M2 := fun j hj => by rw [q.2.1 95 (by decide) (by decide)]; exact g1 j hj
        have := ih (nuE n e (n (291 + 73 * c + k) - 10000) :: pl) (sI M2 95 (pl.length : Int) (nuE n e (n (291 + 73 * c + k) - 10000))) (by simp; omega) (g0.tr q.v).w p2.push he
        rw [show ((nuE n e (n (291 + 73 * c + (k : Int)) - 10000) :: pl).length : Int) = (pl.length : Int) + 1 by simp] at this
        exact this
      · -- a number
        unfold exL ex1 at he
        rw [if_pos (by omega)] at he
        have := ih (n (291 + 73 * c + k) :: pl) (sI M' 95 (pl.length : Int) (n (291 + 73 * c + k))) (by simp; omega) g0.w g1.push he
        rw [show ((n (291 + 73 * c + (k : Int)) :: pl).length : Int) = (pl.length : Int) + 1 by simp] at this
        exact this
  exact key (clL n c).length 0 [] M (by omega) (by decide) (RW.rf hS ca).v (fun j hj => absurd hj (Nat.not_lt_zero j)) ev
/-- what a use's CLAUSE says of EVENT e -/
def syV (n : Int → Int) (u e : Int) : Int := if fcC n u e < 0 then (if u = 1 then 100 else if n (149 + 7 * e) = 0 then 2 else if n (149 + 7 * e) = 1 then 0 else 1) else max 0 (min (if u = 1 then 9999 else 2) (clV n (fcC n u e) e))
theorem sp_M_saidOf {u e : Int} (hS : RefOK M) (wf : WfN n) (e' : gI M 81 = n) (ca : rCac n M) (e0 : 0 ≤ e ∧ e < n 4) (hq : ∀ M', RV n M M' → Q M' (some (vI (syV n u e)))) : Wq 10 0 0 mM_saidOf 0 [iR 80, iI u, iI e, none, none] [] M Q := by
  have wf' := wf
  obtain ⟨wd, wc, ww, wl, we, wt, wx, wh⟩ := wf
  have h4 := we.1
  have fb := fcC_b (u := u) (e := e) wx
  unfold syV at hq
  have self := hq M (RW.rf hS ca).v
  refine B_M_saidOf_0 (sp_M_forced hS wx we e' e0 (B_M_saidOf_6 hS ?_))
  rw [e']
  refine ⟨fun z => ⟨fun y => ?_, fun y => ?_⟩, fun z => ⟨by omega, fun y => ⟨fun x => ⟨fun w => ?_, fun w => ?_⟩, fun x => ?_⟩, fun y => ?_⟩⟩
  · rw [if_neg (by omega), if_neg y] at hq
    exact sp_M_worked hS wf' e' ca (by omega) e0 (fun M' g => B_M_saidOf_69 (hq M' g))
  · rw [if_neg (by omega), if_pos y] at hq
    exact sp_M_worked hS wf' e' ca (by omega) e0 (fun M' g => B_M_saidOf_69 (hq M' g))
  · rw [if_pos (by omega), if_neg y, if_neg x, if_neg w] at self
    exact self
  · rw [if_pos (by omega), if_neg y, if_neg x, if_pos w] at self
    exact self
  · rw [if_pos (by omega), if_neg y, if_pos x] at self
    exact self
  · rw [if_pos (by omega), if_pos y] at self
    exact self
def o_says (s : St) (u e : Int) : St × Int := if (0 ≤ u ∧ u ≤ 1) ∧ (0 ≤ e ∧ e < sn s 4) then (s, syV (sn s) u e) else fnd s 1
theorem w_says {u e : Int} (hw : WfS s) : WfS (o_says s u e).1 := by
  unfold o_says
  split
  · exact hw
  · exact hw.fnd
theorem r_says {u e : Int} (hw : WfS s) (h : RI s M) (hq : ∀ M', RI (o_says s u e).1 M' → FrR M M' → Q M' (some (vI (o_says s u e).2))) : Wq 11 0 0 mM_says 0 [iR 80, iI u, iI e] [] M Q := by
  have e' := h.2.1
  have h4 := hw.1.2.2.2.2.1.1
  have ca := h.2.2.2.2.2.2.2.2.2.2
  refine B_M_says_0 h.1 ?_
  rw [e']
  refine ⟨fun c => ⟨by omega, fun c2 => ?_, fun c2 => r_fnd h (by decide) (if_neg (fun z => c2 z.2)) hq⟩, fun c => r_fnd h (by decide) (if_neg (fun z => c z.1)) hq⟩
  rw [show o_says s u e = _ from if_pos ⟨c, c2⟩] at hq
  exact sp_M_saidOf h.1 hw.1 e' ca c2 (fun M' g => B_M_says_25 (hq M' (g.ri h) g.fr))
end OPT
