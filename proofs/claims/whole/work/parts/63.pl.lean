/-! ===== READY, END, THE END, on the class's side ===== -/
section PL
variable {n : Int → Int} {M : Mm} {Q : Mm → Option Mv → Prop}
theorem shr_1 {a : Nat} (h : a < 2147483648) : bShr (a : Int) 1 = ((a / 2 : Nat) : Int) := by
  unfold bShr
  have h := pk_shrN (n := a) (by omega) (Int32.ofInt 1 &&& 31) 1 (sh_amt 1 (by decide))
  rw [show Int32.ofInt (a : Int) = nI a from rfl, h, nI_toInt (by have := Nat.div_le_self a (2 ^ 1); omega)]
theorem and_1 {a : Nat} (h : a < 2147483648) : bAnd (a : Int) 1 = ((a % 2 : Nat) : Int) := by
  rw [show bAnd (a : Int) 1 = ((a &&& 1 : Nat) : Int) from bAnd_n (by omega) (by decide), Nat.and_one_is_mod]
theorem sp_W_readyBy {e : Int → Int} {w : Int} (hS : RefOK M) (ww : wWrk n) (wl : wLnk n) (hc : gI M 5 6 = n 2) (dL : cLnk n (gI M 9) (gI M 10) (gI M 11) (gI M 5 7)) (w0 : 0 ≤ w) (w1 : w < n 2) (he : ∀ i, lnk n i w → gI M 62 i = e i ∧ 0 ≤ e i ∧ e i ≤ 462660) (hq : ∀ r, IsMx (lkZ n e (fun _ => True) w) r → Q M (some (vI r))) : Wq 1 0 0 mW_readyBy 0 [iR 5, iI w, iR 62, none, none, none] [] M Q := by
  have h2 := ww.1
  obtain ⟨bb, bi⟩ := dL.2.1 w w0 w1
  obtain ⟨a, ha⟩ : ∃ a : Nat, gI M 9 w = a := ⟨(gI M 9 w).toNat, by omega⟩
  have al : a < 65536 := by omega
  rw [ha] at bi
  have key : ∀ (f : Nat) (j : Nat) (x : Int), (j : Int) ≤ n 2 → (n 2).toNat - j = f → IsMx (lkZ n e (fun k => n (58 + 3 * k) < j) w) x → Wq 1 0 0 mW_readyBy 13 [iR 5, iI w, iR 62, iI x, iI ((a / 2 ^ j : Nat) : Int), iI j] [] M Q := by
    intro f
    induction f with
    | zero =>
      intro j x hj hf hx
      refine B_W_readyBy_13 hS ?_
      rw [hc]
      refine ⟨fun _ => hq x (hx.cg (fun u => ⟨fun ⟨k, p, q, r, s, t⟩ => ⟨k, p, q, trivial, s, t⟩, fun ⟨k, p, q, r, s, t⟩ => ⟨k, p, q, ?_, s, t⟩⟩)), fun c => by omega⟩
      have := (wl.2.1 k p q).1
      show n (58 + 3 * k) < j
      omega
    | succ f ih =>
      intro j x hj hf hx
      have ih := fun x => ih (j + 1) x (by omega) (by omega)
      have dv : a / 2 ^ j / 2 = a / 2 ^ (j + 1) := by rw [Nat.div_div_eq_div_mul, Nat.pow_succ]
      have le : a / 2 ^ j ≤ a := Nat.div_le_self _ _
      have tb : hb (a : Int) (j : Int) = decide (a / 2 ^ j % 2 = 1) := by
        unfold hb
        rw [show ((j : Int).toNat) = j from rfl, show ((a : Int).toNat) = a from rfl, Nat.testBit_eq_decide_div_mod_eq]
      rw [show (((j + 1 : Nat) : Int)) = (j : Int) + 1 by omega, ← dv] at ih
      refine B_W_readyBy_13 hS ?_
      rw [hc, shr_1 (by omega), and_1 (by omega)]
      refine ⟨fun c => by omega, fun _ => ⟨fun c => hq x (hx.cg (fun u => ⟨fun ⟨k, p, q, r, s, t⟩ => ⟨k, p, q, trivial, s, t⟩, fun ⟨k, p, q, r, s, t⟩ => ⟨k, p, q, ?_, s, t⟩⟩)), fun _ => ⟨fun c => ⟨by omega, ih x (hx.cg (fun u => ⟨fun ⟨k, p, q, r, s, t⟩ => ⟨k, p, q, ?_, s, t⟩, fun ⟨k, p, q, r, s, t⟩ => ⟨k, p, q, ?_, s, t⟩⟩))⟩, fun c => ?_⟩⟩⟩
      · -- nothing is left: all sources are ahead
        have v := (wl.2.1 k p q).1
        show n (58 + 3 * k) < j
        by_cases z : n (58 + 3 * k) < j
        · exact z
        have y := (bi (n (58 + 3 * k)).toNat).2 ⟨k, p, q, by omega, s⟩
        have a0 : a < 2 ^ j := by
          have : a / 2 ^ j = 0 := by omega
          exact (Nat.div_eq_zero_iff.1 this).resolve_left (by have := Nat.two_pow_pos j; omega)
        have : hb (a : Int) ((n (58 + 3 * k)).toNat : Nat) = false := hb_big (n := j) (by have h2 : ((2 ^ j : Nat) : Int) = (2 : Int) ^ j := by simp
                                                                                          omega) (by omega)
        rw [this] at y
        exact absurd y (by decide)
      · have r : n (58 + 3 * k) < j := r
        show n (58 + 3 * k) < (j : Int) + 1
        omega
      · have r : n (58 + 3 * k) < (j : Int) + 1 := r
        show n (58 + 3 * k) < j
        by_cases z : n (58 + 3 * k) = j
        · have y := (bi j).2 ⟨k, p, q, z, s⟩
          rw [tb, decide_eq_true_iff] at y
          omega
        · omega
      · have y := (bi j).1 (by rw [tb, decide_eq_true_iff]; omega)
        obtain ⟨eq, e0, e1⟩ := he j y
        obtain ⟨k, p, q, r, s⟩ := y
        have lg := dL.2.2.1 k p q
        rw [r, s] at lg
        have lb := (wl.2.1 k p q).2.2
        rw [eq, lg]
        refine ⟨by omega, ih _ (hx.ad (by omega) (fun u => ⟨fun ⟨k', p', q', r', s', t'⟩ => ?_, fun z => ?_⟩))⟩
        · have r' : n (58 + 3 * k') < (j : Int) + 1 := r'
          by_cases z : n (58 + 3 * k') = j
          · have lg' := dL.2.2.1 k' p' q'
            rw [z, s', lg] at lg'
            rw [z, ← lg'] at t'
            exact Or.inr t'
          · exact Or.inl ⟨k', p', q', (by omega : n (58 + 3 * k') < (j : Int)), s', t'⟩
        · rcases z with ⟨k', p', q', r', s', t'⟩ | z
          · have r' : n (58 + 3 * k') < (j : Int) := r'
            exact ⟨k', p', q', (by omega : n (58 + 3 * k') < (j : Int) + 1), s', t'⟩
          · exact ⟨k, p, q, (by omega : n (58 + 3 * k) < (j : Int) + 1), s, by rw [r]; exact z⟩
  refine B_W_readyBy_0 hS ⟨by omega, ?_⟩
  rw [ha]
  have k0 := key _ 0 0 (by omega) rfl (IsMx.no (fun u ⟨k, p, q, r, _⟩ => by
    have r : n (58 + 3 * k) < ((0 : Nat) : Int) := r
    have := (wl.2.1 k p q).1
    omega))
  rw [Nat.pow_zero, Nat.div_one] at k0
  exact k0
theorem sp_P_load {st : Int} (hS : RefOK M) (ww : wWrk n) (we : wEvt n) (d : site0 n M) (s0 : 0 ≤ st ∧ st < 2147483648) (hq : ∀ M', CW M M' → (∀ w, 0 ≤ w → w < n 2 → gI M' 60 w = nds n st w) → Q M' none) : Wq 2 0 0 mP_load 0 [iR 59, iR 1, iI st, none, none, none] [] M Q := by
  have h2 := ww.1
  have h4 := we.1
  have dW := d.2.2.1
  refine B_P_load_0 hS ?_
  have key : ∀ (f : Nat) (e : Nat) (M' : Mm), (e : Int) ≤ n 4 → (n 4).toNat - e = f → CW M M' → (∀ w, 0 ≤ w → w < n 2 → gI M' 60 w = n (11 + 3 * w) + mrs n st w e) → Wq 2 0 0 mP_load 29 [iR 59, iR 1, iI st, iR 5, iR 12, iI e] [] M' Q := by
    intro f
    induction f with
    | zero =>
      intro e M' h1 hf g0 g1
      have dE := (g0.s0 d).2.2.2.2.1
      refine B_P_load_29 g0.1 ?_
      rw [dE.1]
      refine ⟨fun c => hq M' g0 ?_, fun c => by omega⟩
      unfold nds
      rw [show (n 4).toNat = e by omega]
      exact g1
    | succ f ih =>
      intro e M' h1 hf g0 g1
      have dE := (g0.s0 d).2.2.2.2.1
      obtain ⟨v1, v2, v3, v4, -⟩ := we.2 e (by omega) (by omega)
      obtain ⟨a1, a2, a3, a4, -⟩ := dE.2 e (by omega) (by omega)
      have mb := mrs_b (st := st) (w := n (148 + 7 * (e : Int))) we e (by omega)
      have nw := (ww.2 _ v1.1 v1.2).2.1
      have ih := fun M'' => ih (e + 1) M'' (by omega) (by omega)
      rw [show (((e + 1 : Nat) : Int)) = (e : Int) + 1 by omega] at ih
      refine B_P_load_29 g0.1 ?_
      rw [dE.1, a1, a4, g1 _ v1.1 v1.2]
      refine ⟨fun c => by omega, fun c => ⟨by omega, fun c2 => ⟨by omega, ih _ (g0.wr (by decide)) (fun w w0 w1 => ?_)⟩, fun c2 => ⟨by omega, ih _ g0 (fun w w0 w1 => ?_)⟩⟩⟩
      · rw [gI_up]
        show _ = n (11 + 3 * w) + (mrs n st w e + (if n (148 + 7 * (e : Int)) = w ∧ hb st e = true then n (151 + 7 * (e : Int)) else 0))
        by_cases q : w = n (148 + 7 * (e : Int))
        · rw [← q, up_s, if_pos ⟨rfl, c2⟩]
          omega
        · rw [up_n q, if_neg (fun z => q z.1.symm), g1 w w0 w1, Int.add_zero]
      · show _ = n (11 + 3 * w) + (mrs n st w e + (if n (148 + 7 * (e : Int)) = w ∧ hb st e = true then n (151 + 7 * (e : Int)) else 0))
        rw [if_neg (fun z => c2 z.2), Int.add_zero]
        exact g1 w w0 w1
  refine key _ 0 _ (by omega) rfl ⟨hS, fun b hb => by rw [gI_cO (by omega)], rfl⟩ (fun w w0 w1 => ?_)
  rw [gI_cI (by omega) (by omega), show (0 : Int) + (w - 0) = w by omega, (dW.2 w w0 w1).2.1]
  show _ = n (11 + 3 * w) + 0
  omega
theorem sp_P_run {nd : Int → Int} (hS : RefOK M) (wc : wCal n) (ww : wWrk n) (wl : wLnk n) (d : site0 n M) (hn : ∀ w, 0 ≤ w → w < n 2 → gI M 60 w = nd w) (hd : ∀ w, 0 ≤ w → w < n 2 → 0 ≤ nd w ∧ nd w ≤ 1000) (hq : ∀ M', CW M M' → gI M' 60 = gI M 60 → (∀ w, 0 ≤ w → w < n 2 → gI M' 61 w = rW n nd w ∧ gI M' 62 w = eW n nd w) → Q M' (some (vI (eA n nd)))) : Wq 3 0 0 mP_run 0 [iR 59, iR 1, none, none, none, none] [] M Q := by
  have h2 := ww.1
  have h3 := wl.1
  have eb : ∀ w, 0 ≤ w → w < n 2 → 0 ≤ eW n nd w ∧ eW n nd w ≤ 462660 := fun w a b => eW_b ww wl hd a b
  have to := d.2.2.2.1.2.2.2
  refine B_P_run_0 hS ?_
  have key : ∀ (f : Nat) (i : Nat) (M' : Mm) (x : Int), (i : Int) ≤ n 2 → (n 2).toNat - i = f → CW M M' → gI M' 60 = gI M 60 → (∀ p, 0 ≤ p → p < (i : Int) → gI M' 61 (gI M 11 p) = rW n nd (gI M 11 p) ∧ gI M' 62 (gI M 11 p) = eW n nd (gI M 11 p)) → IsMx (edZ (eW n nd) (gI M 11) i) x → Wq 3 0 0 mP_run 10 [iR 59, iR 1, iR 5, iI x, iI i, none] [] M' Q := by
    intro f
    induction f with
    | zero =>
      intro i M' x hi hf g0 g1 g2 g3
      have dW := (g0.s0 d).2.2.1
      have ie : (i : Int) = n 2 := by omega
      rw [ie] at g2 g3
      refine B_P_run_10 g0.1 ?_
      rw [dW.1]
      refine ⟨fun _ => ?_, fun c => by omega⟩
      rw [eA_mx h2.1 to (fun w a b => (eb w a b).1) g3]
      refine hq M' g0 g1 (fun w w0 w1 => ?_)
      obtain ⟨p, p0, p1, p2⟩ := topo_sur h2.1 to w0 w1
      have := g2 p p0 p1
      rw [p2] at this
      exact this
    | succ f ih =>
      intro i M' x hi hf g0 g1 g2 g3
      have dW := (g0.s0 d).2.2.1
      have dL := (g0.s0 d).2.2.2.1
      have o11 : gI M' 11 = gI M 11 := g0.2.1 11 (by decide)
      have wr := to.1 i (by omega) (by omega)
      have hw := (ww.2 _ wr.1 wr.2)
      have rb := rW_b ww wl hd wr.1 wr.2
      have ndw := hd _ wr.1 wr.2
      have ew := eb _ wr.1 wr.2
      refine B_P_run_10 g0.1 ?_
      rw [dW.1, o11]
      refine ⟨fun c => by omega, fun _ => ⟨by omega, ?_⟩⟩
      refine sp_W_readyBy (e := eW n nd) g0.1 ww wl dW.1 dL wr.1 wr.2 (fun j hj => ?_) (fun r hr => ?_)
      · obtain ⟨k, k0, k1, k2, k3⟩ := hj
        obtain ⟨p, p0, p1, p2⟩ := pAh_all h2.1 wl to k0 k1 (by omega) (by omega) k3
        have := (g2 p p0 p1).2
        rw [p2, k2] at this
        have v := (wl.2.1 k k0 k1).1
        rw [k2] at v
        exact ⟨this, eb j v.1 v.2⟩
      · have er : r = rW n nd (gI M 11 i) := hr.un (rW_mx wl _) (fun _ => Iff.rfl)
        rw [er]
        have g4 : CW M (sI M' 61 (gI M 11 i) (rW n nd (gI M 11 i))) := g0.wr (by decide)
        refine B_P_run_44 g0.1 ⟨by omega, ?_⟩
        rw [(dW.2 _ wr.1 wr.2).1, g1, hn _ wr.1 wr.2]
        refine sp_Y_endOf g4.1 wc (g4.s0 d).2.1 rb.1 (by omega) ndw.1 (by omega) ?_
        rw [← eW_eq wl]
        refine B_P_run_79 g4.1 ⟨by omega, ?_⟩
        have r := ih (i + 1) (sI (sI M' 61 (gI M 11 i) (rW n nd (gI M 11 i))) 62 (gI M 11 i) (eW n nd (gI M 11 i))) (max x (eW n nd (gI M 11 i))) (by omega) (by omega) (g4.wr (by decide)) (by rw [gI_ot (by decide), gI_ot (by decide), g1]) (fun p p0 p1 => ?_) (g3.ad ew.1 (fun u => ⟨fun ⟨p, a, b, c⟩ => ?_, fun z => ?_⟩))
        · rw [show (((i + 1 : Nat) : Int)) = (i : Int) + 1 by omega] at r
          exact r
        · rw [gI_up, gI_ot (by decide), gI_up, gI_ot (by decide)]
          by_cases z : gI M 11 p = gI M 11 i
          · rw [z, up_s, up_s]
            exact ⟨rfl, rfl⟩
          · rw [up_n z, up_n z]
            by_cases y : p = (i : Int)
            · exact absurd (by rw [y]) z
            · exact g2 p p0 (by omega)
        · by_cases z : p = (i : Int)
          · rw [z] at c
            exact Or.inr c
          · exact Or.inl ⟨p, a, by omega, c⟩
        · rcases z with ⟨p, a, b, c⟩ | z
          · exact ⟨p, a, by omega, c⟩
          · exact ⟨i, by omega, by omega, z⟩
  exact key _ 0 M 0 (by omega) rfl (CW.rf hS) rfl (fun p p0 p1 => by omega) (IsMx.no (fun u ⟨p, a, b, c⟩ => by omega))
theorem sp_D_endOf {st : Int} (hS : RefOK M) (wc : wCal n) (ww : wWrk n) (wl : wLnk n) (we : wEvt n) (d : site0 n M) (s0 : 0 ≤ st ∧ st < 2147483648) (hq : ∀ M', CW M M' → (∀ w, 0 ≤ w → w < n 2 → gI M' 61 w = rW n (nds n st) w ∧ gI M' 62 w = eW n (nds n st) w) → Q M' (some (vI (eS n st)))) : Wq 4 0 0 mD_endOf 0 [iR 0, iI st] [] M Q := by
  refine B_D_endOf_0 hS (sp_P_load hS ww we d s0 (fun M1 g0 g1 => B_D_endOf_12 g0.1 ?_))
  exact sp_P_run g0.1 wc ww wl (g0.s0 d) g1 (fun w w0 w1 => by have := nds_b (st := st) ww we w0 w1; omega) (fun M' q0 q1 q2 => B_D_endOf_23 (hq M' (g0.tr q0) q2))
theorem sp_D_floatOf {st w : Int} (hS : RefOK M) (wc : wCal n) (ww : wWrk n) (wl : wLnk n) (we : wEvt n) (d : site0 n M) (s0 : 0 ≤ st ∧ st < 2147483648) (w0 : 0 ≤ w) (w1 : w < n 2) (hq : ∀ M', CW M M' → Q M' (some (vI (flt n st w)))) : Wq 4 0 0 mD_floatOf 0 [iR 0, iI w, iI st, none, none, none, none, none, none] [] M Q := by
  have h2 := ww.1
  have nb := fun v (v0 : 0 ≤ v) (v1 : v < n 2) => nds_b (n := n) (st := st) ww we v0 v1
  have nw := nb w w0 w1
  refine B_D_floatOf_0 hS (sp_P_load hS ww we d s0 (fun M1 g0 g1 => B_D_floatOf_12 g0.1 ⟨by omega, ?_⟩))
  rw [g1 w w0 w1]
  refine sp_P_run g0.1 wc ww wl (g0.s0 d) g1 (fun v v0 v1 => by have := nb v v0 v1; omega) (fun M2 q0 q1 q2 => B_D_floatOf_33 ?_)
  have key : ∀ (f : Nat) (lo hi i : Int) (M' : Mm), 0 ≤ i → i + f = 100 → 0 ≤ lo → lo ≤ hi → hi ≤ 99 → (hi - lo).toNat < f → fl n (nds n st) w f lo (hi + 1) = flt n st w → CW M M' → (∀ v, 0 ≤ v → v < n 2 → v ≠ w → gI M' 60 v = nds n st v) → Wq 4 0 0 mD_floatOf 45 [iR 0, iI w, iI st, iI (nds n st w), iI (eA n (nds n st)), iI lo, iI hi, iI i, none] [] M' Q := by
    intro f
    induction f with
    | zero => intro lo hi i M' i0 i1 l0 l1 h1 hf; omega
    | succ f ih =>
      intro lo hi i M' i0 i1 l0 l1 h1 hf he r0 r1
      unfold fl at he
      refine B_D_floatOf_45 r0.1 ⟨fun c => by omega, fun _ => ⟨fun c => ?_, fun c => ?_⟩⟩
      · rw [if_pos (by omega)] at he
        rw [he]
        exact hq M' r0
      · rw [if_neg (by omega)] at he
        have td : Int.tdiv (lo + hi + 1) 2 = (lo + (hi + 1)) / 2 := by
          rw [Int.tdiv_eq_ediv_of_nonneg (by omega), Int.add_assoc]
        rw [td]
        refine ⟨by omega, ?_⟩
        have r2 : CW M (sI M' 60 w (nds n st w + (lo + (hi + 1)) / 2)) := r0.wr (by decide)
        refine sp_P_run (nd := up (nds n st) w (nds n st w + (lo + (hi + 1)) / 2)) r2.1 wc ww wl (r2.s0 d) (fun v v0 v1 => ?_) (fun v v0 v1 => ?_) (fun M3 p0 p1 p2 => ?_)
        · rw [gI_up]
          by_cases z : v = w
          · rw [z, up_s, up_s]
          · rw [up_n z, up_n z, r1 v v0 v1 z]
        · by_cases z : v = w
          · rw [z, up_s]
            omega
          · rw [up_n z]
            have := nb v v0 v1
            omega
        · have r4 : CW M M3 := r2.tr p0
          have r3 : ∀ v, 0 ≤ v → v < n 2 → v ≠ w → gI M3 60 v = nds n st v := fun v v0 v1 z => by
            rw [p1, gI_up, up_n z]
            exact r1 v v0 v1 z
          refine B_D_floatOf_94 ⟨fun y => ?_, fun y => ?_⟩
          · rw [if_neg y] at he
            refine ⟨by omega, ih _ _ _ M3 (by omega) (by omega) (by omega) (by omega) (by omega) (by omega) ?_ r4 r3⟩
            rw [show (lo + (hi + 1)) / 2 - 1 + 1 = (lo + (hi + 1)) / 2 by omega]
            exact he
          · rw [if_pos y] at he
            exact ⟨by omega, ih _ _ _ M3 (by omega) (by omega) (by omega) (by omega) (by omega) (by omega) he r4 r3⟩
  exact key 100 0 99 0 M2 (by omega) (by omega) (by omega) (by omega) (by omega) (by omega) rfl (g0.tr q0) (fun v v0 v1 _ => by rw [q1]; exact g1 v v0 v1)
end PL
