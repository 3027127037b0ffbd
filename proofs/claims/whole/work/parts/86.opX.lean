/-! ===== least ===== -/
section OPX
variable {s : St} {M : Mm} {Q : Mm → Option Mv → Prop} {n : Int → Int}
/-- the next choice, of the places below j; false behind the last -/
def nxF (n : Int → Int) : Nat → (Int → Int) → Bool × (Int → Int)
  | 0, r => (false, r)
  | j + 1, r => if r j = n (1019 + 3 * (j : Int)) then nxF n j (up r j 0) else (true, up r j (r j + 1))
/-- a choice as a number in threes -/
def v3 (r : Int → Int) : Nat → Int
  | 0 => 0
  | j + 1 => 3 * v3 r j + r j
theorem v3_cg {r r' : Int → Int} : ∀ j : Nat, (∀ h, 0 ≤ h → h < (j : Int) → r' h = r h) → v3 r' j = v3 r j
  | 0, _ => rfl
  | j + 1, h => by
    unfold v3
    rw [v3_cg j (fun i i0 i1 => h i i0 (by omega)), h j (by omega) (by omega)]
theorem nxF_ok (wh : wHst n) : ∀ (j : Nat) (r : Int → Int), (j : Int) ≤ n 6 → okR n r → okR n (nxF n j r).2 ∧ (∀ h, (j : Int) ≤ h → (nxF n j r).2 h = r h) ∧ ((nxF n j r).1 = true → v3 r j + 1 ≤ v3 (nxF n j r).2 j)
  | 0, r, _, ok => ⟨ok, fun _ _ => rfl, fun z => absurd (show false = true from z) (by decide)⟩
  | j + 1, r, hj, ok => by
    have hh := (wh.2.1 j (by omega) (by omega)).2.1
    have oj := ok j (by omega) (by omega)
    unfold nxF
    split
    · rename_i c
      have ok' : okR n (up r j 0) := fun h h0 h1 => by
        by_cases e : h = (j : Int)
        · rw [e, up_s]
          omega
        · rw [up_n e]
          exact ok h h0 h1
      obtain ⟨a, b, d⟩ := nxF_ok wh j (up r j 0) (by omega) ok'
      refine ⟨a, fun h hh => ?_, fun z => ?_⟩
      · rw [b h (by omega), up_n (by omega)]
      · have d := d z
        rw [v3_cg (r := r) j (fun h h0 h1 => up_n (by omega))] at d
        have bj := b j (by omega)
        rw [up_s] at bj
        show 3 * v3 r j + r j + 1 ≤ 3 * v3 (nxF n j (up r j 0)).2 j + (nxF n j (up r j 0)).2 j
        omega
    · rename_i c
      refine ⟨fun h h0 h1 => ?_, fun h hh => up_n (by omega), fun _ => ?_⟩
      · show 0 ≤ up r j (r j + 1) h ∧ up r j (r j + 1) h ≤ _
        by_cases e : h = (j : Int)
        · rw [e, up_s]
          omega
        · rw [up_n e]
          exact ok h h0 h1
      · show 3 * v3 r j + r j + 1 ≤ 3 * v3 (up r j (r j + 1)) j + up r j (r j + 1) j
        rw [v3_cg (r := r) j (fun h h0 h1 => up_n (by omega)), up_s]
        omega
theorem v3_b {r : Int → Int} (wh : wHst n) (ok : okR n r) : ∀ j : Nat, (j : Int) ≤ n 6 → 0 ≤ v3 r j ∧ v3 r j + 1 ≤ 3 ^ j
  | 0, _ => by
    show 0 ≤ (0 : Int) ∧ (0 : Int) + 1 ≤ 3 ^ 0
    decide
  | j + 1, hj => by
    have ih := v3_b wh ok j (by omega)
    have hh := (wh.2.1 j (by omega) (by omega)).2.1
    have o := ok j (by omega) (by omega)
    unfold v3
    rw [Int.pow_succ]
    omega
theorem v3_242 {r : Int → Int} (wh : wHst n) (ok : okR n r) : v3 r (n 6).toNat ≤ 242 := by
  have h6 := wh.1
  have b := v3_b wh ok (n 6).toNat (by omega)
  have : (3 : Int) ^ (n 6).toNat ≤ 243 := by
    have : (n 6).toNat = 0 ∨ (n 6).toNat = 1 ∨ (n 6).toNat = 2 ∨ (n 6).toNat = 3 ∨ (n 6).toNat = 4 ∨ (n 6).toNat = 5 := by omega
    rcases this with z | z | z | z | z | z <;> rw [z] <;> decide
  omega
/-- whether a choice is better than b -/
def btr (n r : Int → Int) (day b : Int) : Bool := decide ((b < 0 ∨ smR n r (n 6).toNat < b) ∧ endH n r ≤ day)
/-- the least price and its choice -/
def lsF (n : Int → Int) (day : Int) : Nat → Int → (Int → Int) → (Int → Int) → Int × (Int → Int)
  | 0, b, _, ch => (b, ch)
  | f + 1, b, r, ch => if (nxF n (n 6).toNat r).1 = true then lsF n day f (if btr n r day b = true then smR n r (n 6).toNat else b) (nxF n (n 6).toNat r).2 (if btr n r day b = true then r else ch) else (if btr n r day b = true then smR n r (n 6).toNat else b, if btr n r day b = true then r else ch)
def lsA (n : Int → Int) (day : Int) : Int × (Int → Int) := lsF n day 243 (-1) (fun _ => 0) (fun _ => 0)
def o_least (s : St) (day w : Int) : St × Int := if (0 ≤ day ∧ day ≤ 9999) ∧ (-1 ≤ w ∧ w ≤ sn s 6 - 1) then (if (lsA (sn s) day).1 < 0 then fnd s 2 else (s, if w < 0 then (lsA (sn s) day).1 else (lsA (sn s) day).2 w)) else fnd s 1
theorem w_least {day w : Int} (hw : WfS s) : WfS (o_least s day w).1 := by
  unfold o_least
  split
  · split
    · exact hw.fnd
    · exact hw
  · exact hw.fnd
theorem ok_0 (wh : wHst n) : okR n (fun _ => 0) := fun h h0 h1 => by
  have := (wh.2.1 h h0 h1).2.1
  show 0 ≤ (0 : Int) ∧ 0 ≤ n (1019 + 3 * h)
  omega
theorem sp_M_leastFor {day : Int} (hS : RefOK M) (wf : WfN n) (e' : gI M 81 = n) (ca : rCac n M) (hq : ∀ M', RL n M M' → (0 ≤ (lsA n day).1 → ∀ i, 0 ≤ i → i < 5 → gI M' 97 i = (lsA n day).2 i) → Q M' (some (vI (lsA n day).1))) : Wq 6 0 0 mM_leastFor 0 [iR 80, iI day, none, none, none, none] [] M Q := by
  have wf' := wf
  obtain ⟨wd, wc, ww, wl, we, wt, wx, wh⟩ := wf
  have h6 := wh.1
  refine B_M_leastFor_0 ?_
  -- the choices, one behind the other
  have main : ∀ (f : Nat) (i : Int) (b : Int) (r ch : Int → Int) (M' : Mm), i + f = 243 → okR n r → i ≤ v3 r (n 6).toNat → lsF n day f b r ch = lsA n day → RL n M M' → (∀ h, 0 ≤ h → h < 5 → gI M' 96 h = r h) → (0 ≤ b → ∀ h, 0 ≤ h → h < 5 → gI M' 97 h = ch h) → (b = -1 ∨ 0 ≤ b) → Wq 6 0 0 mM_leastFor 24 [iR 80, iI day, iI b, iI 1, none, none] [] M' Q := by
    intro f
    induction f with
    | zero =>
      intro i b r ch M' hi ok hv
      have := v3_242 wh ok
      omega
    | succ f ih =>
      intro i b r ch M' hi ok hv he g0 g1 g2 hb
      obtain ⟨no, nk, nv⟩ := nxF_ok wh (n 6).toNat r (by omega) ok
      have sb := smR_b wh ok (n 6).toNat (by omega)
      unfold lsF at he
      -- to the next one
      have nxt : ∀ (b' x4 : Int) (ch' : Int → Int), (if (nxF n (n 6).toNat r).1 = true then lsF n day f b' (nxF n (n 6).toNat r).2 ch' else (b', ch')) = lsA n day → (b' = -1 ∨ 0 ≤ b') → ∀ (j : Nat) (r' : Int → Int) (M1 : Mm), (j : Int) ≤ n 6 → nxF n j r' = nxF n (n 6).toNat r → okR n r' → RL n M M1 → (∀ h, 0 ≤ h → h < 5 → gI M1 96 h = r' h) → (0 ≤ b' → ∀ h, 0 ≤ h → h < 5 → gI M1 97 h = ch' h) → Wq 6 0 0 mM_leastFor 95 [iR 80, iI day, iI b', iI 1, iI x4, iI ((j : Int) - 1)] [] M1 Q := by
        intro b' x4 ch' he hb' j
        induction j with
        | zero =>
          intro r' M1 hj en ok' q0 q1 q2
          have e1 : (nxF n (n 6).toNat r).1 = false := by rw [← en]; rfl
          rw [e1, if_neg (by decide)] at he
          refine B_M_leastFor_95 q0.1 ⟨fun _ => ⟨fun _ => ?_, fun z => by omega⟩, fun z => by omega⟩
          have fin := hq M1 q0 (by rw [← he]; exact q2)
          rw [← he] at fin
          exact B_M_leastFor_24 ⟨fun _ => fin, fun z => absurd rfl z⟩
        | succ j ihj =>
          intro r' M1 hj en ok' q0 q1 q2
          have oj := ok' j (by omega) (by omega)
          have hh := (wh.2.1 j (by omega) (by omega)).2.1
          have en : (if r' j = n (1019 + 3 * (j : Int)) then nxF n j (up r' j 0) else (true, up r' j (r' j + 1))) = nxF n (n 6).toNat r := en
          rw [show (((j + 1 : Nat) : Int)) - 1 = (j : Int) by omega]
          refine B_M_leastFor_95 q0.1 ?_
          rw [q0.e e', q1 j (by omega) (by omega)]
          refine ⟨fun z => by omega, fun _ => ⟨by omega, fun z => ⟨fun y => by omega, fun _ => ⟨by omega, ?_⟩⟩, fun z => ⟨by omega, ?_⟩⟩⟩
          · rw [if_neg z] at en
            have e1 : (nxF n (n 6).toNat r).1 = true := by rw [← en]
            have e2 : (nxF n (n 6).toNat r).2 = up r' j (r' j + 1) := by rw [← en]
            rw [e1, if_pos rfl] at he
            refine ih (i + 1) b' (nxF n (n 6).toNat r).2 ch' _ (by omega) no (by have := nv e1; omega) he (q0.w (by decide)) (fun h h0 h1 => ?_) (fun z h h0 h1 => by rw [gI_ot (by decide)]; exact q2 z h h0 h1) hb'
            rw [gI_up, e2]
            by_cases c : h = (j : Int)
            · rw [c, up_s, up_s]
            · rw [up_n c, up_n c]
              exact q1 h h0 h1
          · rw [if_pos z] at en
            refine ihj (up r' j 0) _ (by omega) en (fun h h0 h1 => ?_) (q0.w (by decide)) (fun h h0 h1 => ?_) (fun z h h0 h1 => by rw [gI_ot (by decide)]; exact q2 z h h0 h1)
            · by_cases c : h = (j : Int)
              · rw [c, up_s]
                omega
              · rw [up_n c]
                exact ok' h h0 h1
            · rw [gI_up]
              by_cases c : h = (j : Int)
              · rw [c, up_s, up_s]
              · rw [up_n c, up_n c]
                exact q1 h h0 h1
      have nxt := fun b' x4 ch' he hb' M1 q0 q1 q2 => nxt b' x4 ch' he hb' (n 6).toNat r M1 (by omega) rfl ok q0 q1 q2
      rw [show (((n 6).toNat : Nat) : Int) - 1 = n 6 - 1 by omega] at nxt
      -- not better
      have worse : ∀ (x4 : Int) (M1 : Mm), btr n r day b = false → RL n M M1 → (∀ h, 0 ≤ h → h < 5 → gI M1 96 h = r h) → (0 ≤ b → ∀ h, 0 ≤ h → h < 5 → gI M1 97 h = ch h) → Wq 6 0 0 mM_leastFor 95 [iR 80, iI day, iI b, iI 1, iI x4, iI (n 6 - 1)] [] M1 Q := fun x4 M1 z q0 q1 q2 => by
        simp only [z, Bool.false_eq_true, if_false] at he
        exact nxt b x4 ch he hb M1 q0 q1 q2
      have tried : (b < 0 ∨ smR n r (n 6).toNat < b) → Wq 5 0 0 mM_endHurried 0 [iR 80, none] [] M' (fun M1 v => Wq 6 0 0 mM_leastFor 48 [iR 80, iI day, iI b, iI 1, iI (smR n r (n 6).toNat), none] (v.toList ++ []) M1 Q) := fun c => by
        refine sp_M_endHurried g0.1 wf' (g0.e e') g0.2.2.2.2 ok (fun h h0 h1 => g1 h h0 (by omega)) (fun M1 q => ?_)
        have q0 := g0.tr q.l
        have k96 : gI M1 96 = gI M' 96 := q.2.1 96 (by decide) (by decide)
        have k97 : gI M1 97 = gI M' 97 := q.2.1 97 (by decide) (by decide)
        refine B_M_leastFor_48 q0.1 ?_
        rw [q0.e e']
        refine ⟨fun z => ⟨by omega, worse _ M1 (decide_eq_false (fun y => by omega)) q0 (by rw [k96]; exact g1) (by rw [k97]; exact g2)⟩, fun z => ?_⟩
        have bt : btr n r day b = true := decide_eq_true ⟨c, by omega⟩
        rw [bt, if_pos rfl, if_pos rfl] at he
        have cp : ∀ (k : Nat) (j : Nat) (M2 : Mm), j + k = 5 → RL n M M2 → (∀ h, 0 ≤ h → h < 5 → gI M2 96 h = r h) → (∀ h, 0 ≤ h → h < (j : Int) → gI M2 97 h = r h) → Wq 6 0 0 mM_leastFor 58 [iR 80, iI day, iI (smR n r (n 6).toNat), iI 1, iI (smR n r (n 6).toNat), iI j] [] M2 Q := by
          intro k
          induction k with
          | zero =>
            intro j M2 hj p0 p1 p2
            refine B_M_leastFor_58 p0.1 ?_
            rw [p0.e e']
            exact ⟨fun _ => ⟨by omega, nxt _ _ r he (by omega) M2 p0 p1 (fun _ h h0 h1 => p2 h h0 (by omega))⟩, fun z => by omega⟩
          | succ k ihk =>
            intro j M2 hj p0 p1 p2
            have r1 := ihk (j + 1) (sI M2 97 j (gI M2 96 j)) (by omega) (p0.w (by decide)) (fun h h0 h1 => by rw [gI_ot (by decide)]; exact p1 h h0 h1) (fun h h0 h1 => by
              rw [gI_up]
              by_cases c : h = (j : Int)
              · rw [c, up_s]
                exact p1 j (by omega) (by omega)
              · rw [up_n c]
                exact p2 h h0 (by omega))
            rw [show (((j + 1 : Nat) : Int)) = (j : Int) + 1 by omega] at r1
            exact B_M_leastFor_58 p0.1 ⟨fun z => by omega, fun _ => ⟨by omega, r1⟩⟩
        exact cp 5 0 M1 (by omega) q0 (by rw [k96]; exact g1) (fun h h0 h1 => by omega)
      refine B_M_leastFor_24 ⟨fun z => absurd z (by decide), fun _ => sp_M_sumHurried g0.1 wh (g0.e e') ok (fun h h0 h1 => g1 h h0 (by omega)) (B_M_leastFor_32 g0.1 ?_)⟩
      rw [g0.e e']
      exact ⟨fun z => tried (Or.inl z), fun z => ⟨fun y => ⟨by omega, worse _ M' (decide_eq_false (fun q => by omega)) g0 g1 g2⟩, fun y => tried (Or.inr (by omega))⟩⟩
  have ini : ∀ (k : Nat) (j : Nat) (M' : Mm), j + k = 5 → RL n M M' → (∀ h, 0 ≤ h → h < (j : Int) → gI M' 96 h = 0) → Wq 6 0 0 mM_leastFor 4 [iR 80, iI day, iI (-1), iI j, none, none] [] M' Q := by
    intro k
    induction k with
    | zero =>
      intro j M' hj p0 p1
      refine B_M_leastFor_4 p0.1 ⟨fun _ => main 243 0 (-1) (fun _ => 0) (fun _ => 0) M' (by omega) (ok_0 wh) (v3_b wh (ok_0 wh) (n 6).toNat (by omega)).1 rfl p0 (fun h h0 h1 => p1 h h0 (by omega)) (fun z => by omega) (Or.inl rfl), fun z => by omega⟩
    | succ k ihk =>
      intro j M' hj p0 p1
      have r1 := ihk (j + 1) (sI M' 96 j 0) (by omega) (p0.w (by decide)) (fun h h0 h1 => by
        rw [gI_up]
        by_cases c : h = (j : Int)
        · rw [c, up_s]
        · rw [up_n c]
          exact p1 h h0 (by omega))
      rw [show (((j + 1 : Nat) : Int)) = (j : Int) + 1 by omega] at r1
      exact B_M_leastFor_4 p0.1 ⟨fun z => by omega, fun _ => ⟨by omega, r1⟩⟩
  exact ini 5 0 M (by omega) (RW.rf hS ca).l (fun h h0 h1 => by omega)
theorem r_least {day w : Int} (hw : WfS s) (h : RI s M) (hq : ∀ M', RI (o_least s day w).1 M' → FrR M M' → Q M' (some (vI (o_least s day w).2))) : Wq 7 0 0 mM_least 0 [iR 80, iI day, iI w, none] [] M Q := by
  have e' := h.2.1
  have h6 := hw.1.2.2.2.2.2.2.2.1
  have ca := h.2.2.2.2.2.2.2.2.2.2
  refine B_M_least_0 h.1 ?_
  rw [e']
  refine ⟨fun c => ⟨by omega, fun c2 => ?_, fun c2 => r_fnd h (by decide) (if_neg (fun z => c2 z.2)) hq⟩, fun c => r_fnd h (by decide) (if_neg (fun z => c z.1)) hq⟩
  rw [show o_least s day w = _ from if_pos ⟨c, c2⟩] at hq
  refine sp_M_leastFor h.1 hw.1 e' ca (fun M1 g0 g1 => B_M_least_45 g0.1 ⟨fun z => ?_, fun z => ?_⟩)
  · rw [if_neg (by omega)] at hq
    refine ⟨fun y => ⟨by omega, ?_⟩, fun y => ?_⟩
    · rw [if_neg (by omega)] at hq
      rw [g1 z w y (by omega)]
      exact hq M1 (g0.ri h) g0.fr
    · rw [if_pos (by omega)] at hq
      exact hq M1 (g0.ri h) g0.fr
  · exact r_fnd (g0.ri h) (by decide) (if_pos (by omega)) (fun M' q0 q1 => hq M' q0 (fun a j q => ⟨(q1 a j q).1.trans (g0.fr a j q).1, (q1 a j q).2.trans (g0.fr a j q).2⟩))
/-- the class: besides the plan's, the cells of the choices -/
def CL (M M' : Mm) : Prop := RefOK M' ∧ (∀ b : Nat, ¬ ((59 ≤ b ∧ b ≤ 65) ∨ b = 70 ∨ b = 71) → gI M' b = gI M b) ∧ gL M' = gL M
theorem CW.l {M' : Mm} (h : CW M M') : CL M M' := ⟨h.1, fun b hb => h.2.1 b (by omega), h.2.2⟩
theorem CL.tr {M1 M2 : Mm} (h : CL M M1) (g : CL M1 M2) : CL M M2 := ⟨g.1, fun b hb => (g.2.1 b hb).trans (h.2.1 b hb), g.2.2.trans h.2.2⟩
theorem CL.ci {M' : Mm} (h : CL M M') (c : CI s M) : CI s M' := c.wk h.1 h.2.1 h.2.2
theorem CL.fr {M' : Mm} (h : CL M M') : FrC M M' := fun a i q => by rw [h.2.1 a (by omega)]
theorem CL.w {M' : Mm} {a : Nat} {i v : Int} (h : CL M M') (ha : a = 70 ∨ a = 71) : CL M (sI M' a i v) := ⟨h.1, fun b hb => by rw [gI_ot (by omega)]; exact h.2.1 b hb, h.2.2⟩
theorem CL.s0 {M' : Mm} (h : CL M M') (c : site0 n M) : site0 n M' := by
  have k := h.2.1
  unfold site0 at c ⊢
  simp only [h.2.2, k 1 (by decide), k 2 (by decide), k 4 (by decide), k 5 (by decide), k 6 (by decide), k 7 (by decide), k 8 (by decide), k 9 (by decide), k 10 (by decide), k 11 (by decide), k 12 (by decide), k 13 (by decide), k 14 (by decide), k 15 (by decide), k 16 (by decide), k 17 (by decide), k 18 (by decide), k 19 (by decide), k 20 (by decide), k 21 (by decide), k 22 (by decide), k 23 (by decide), k 24 (by decide), k 25 (by decide), k 26 (by decide), k 27 (by decide), k 28 (by decide), k 29 (by decide)]
  exact c
theorem sp_H_next {r : Int → Int} (hS : RefOK M) (wh : wHst n) (d : site0 n M) (ok : okR n r) (hr : ∀ h, 0 ≤ h → h < 5 → gI M 70 h = r h) (hq : ∀ M', CL M M' → gI M' 71 = gI M 71 → (∀ h, 0 ≤ h → h < 5 → gI M' 70 h = (nxF n (n 6).toNat r).2 h) → Q M' (some (vI (if (nxF n (n 6).toNat r).1 = true then 1 else 0)))) : Wq 1 0 0 mH_next 0 [iR 26, iR 70, none] [] M Q := by
  have h6 := wh.1
  refine B_H_next_0 ?_
  rw [d.2.2.2.2.2.2.2.1]
  refine ⟨by omega, ?_⟩
  have key : ∀ (j : Nat) (r' : Int → Int) (M1 : Mm), (j : Int) ≤ n 6 → nxF n j r' = nxF n (n 6).toNat r → okR n r' → CL M M1 → gI M1 71 = gI M 71 → (∀ h, 0 ≤ h → h < 5 → gI M1 70 h = r' h) → Wq 1 0 0 mH_next 7 [iR 26, iR 70, iI ((j : Int) - 1)] [] M1 Q := by
    intro j
    induction j with
    | zero =>
      intro r' M1 hj en ok' q0 q1 q2
      have e1 : (nxF n (n 6).toNat r).1 = false := by rw [← en]; rfl
      have e2 : (nxF n (n 6).toNat r).2 = r' := by rw [← en]; rfl
      refine B_H_next_7 q0.1 ⟨fun _ => ?_, fun z => by omega⟩
      have fin := hq M1 q0 q1 (by rw [e2]; exact q2)
      rw [e1, if_neg (by decide)] at fin
      exact fin
    | succ j ihj =>
      intro r' M1 hj en ok' q0 q1 q2
      have oj := ok' j (by omega) (by omega)
      have hh := (wh.2.1 j (by omega) (by omega)).2.1
      have dH := (q0.s0 d).2.2.2.2.2.2.2
      have en : (if r' j = n (1019 + 3 * (j : Int)) then nxF n j (up r' j 0) else (true, up r' j (r' j + 1))) = nxF n (n 6).toNat r := en
      rw [show (((j + 1 : Nat) : Int)) - 1 = (j : Int) by omega]
      refine B_H_next_7 q0.1 ?_
      rw [q2 j (by omega) (by omega), (dH.2 j (by omega) (by omega)).2.1]
      refine ⟨fun z => by omega, fun _ => ⟨by omega, fun z => ⟨by omega, ?_⟩, fun z => ⟨by omega, ?_⟩⟩⟩
      · rw [if_pos (by omega)] at en
        refine ihj (up r' j 0) _ (by omega) en (fun h h0 h1 => ?_) (q0.w (by decide)) (by rw [gI_ot (by decide)]; exact q1) (fun h h0 h1 => ?_)
        · by_cases c : h = (j : Int)
          · rw [c, up_s]
            omega
          · rw [up_n c]
            exact ok' h h0 h1
        · rw [gI_up]
          by_cases c : h = (j : Int)
          · rw [c, up_s, up_s]
          · rw [up_n c, up_n c]
            exact q2 h h0 h1
      · rw [if_neg (by omega)] at en
        have e1 : (nxF n (n 6).toNat r).1 = true := by rw [← en]
        have e2 : (nxF n (n 6).toNat r).2 = up r' j (r' j + 1) := by rw [← en]
        have fin := hq (sI M1 70 j (r' j + 1)) (q0.w (by decide)) (by rw [gI_ot (by decide)]; exact q1) (fun h h0 h1 => by
          rw [gI_up, e2]
          by_cases c : h = (j : Int)
          · rw [c, up_s, up_s]
          · rw [up_n c, up_n c]
            exact q2 h h0 h1)
        rw [e1, if_pos rfl] at fin
        exact fin
  have k0 := key (n 6).toNat r M (by omega) rfl ok ⟨hS, fun _ _ => rfl, rfl⟩ rfl hr
  rw [show (((n 6).toNat : Nat) : Int) - 1 = n 6 - 1 by omega] at k0
  exact k0
theorem sp_D_cheapest {day : Int} (hS : RefOK M) (wf : WfN n) (d : site0 n M) (hq : ∀ M', CL M M' → (0 ≤ (lsA n day).1 → ∀ i, 0 ≤ i → i < 5 → gI M' 71 i = (lsA n day).2 i) → Q M' (some (vI (lsA n day).1))) : Wq 5 0 0 mD_cheapest 0 [iR 0, iI day, none, none, none, none, none] [] M Q := by
  have wf' := wf
  obtain ⟨wd, wc, ww, wl, we, wt, wx, wh⟩ := wf
  have h6 := wh.1
  refine B_D_cheapest_0 (sp_D_knownToday hS we d (B_D_cheapest_4 ?_))
  have main : ∀ (f : Nat) (i : Nat) (b : Int) (r ch : Int → Int) (M' : Mm), i + f = 243 → okR n r → (i : Int) ≤ v3 r (n 6).toNat → lsF n day f b r ch = lsA n day → CL M M' → (∀ h, 0 ≤ h → h < 5 → gI M' 70 h = r h) → (0 ≤ b → ∀ h, 0 ≤ h → h < 5 → gI M' 71 h = ch h) → (b = -1 ∨ 0 ≤ b) → Wq 5 0 0 mD_cheapest 36 [iR 0, iI day, iI (kn0 n), iI b, iI 1, iI i, none] [] M' Q := by
    intro f
    induction f with
    | zero =>
      intro i b r ch M' hi ok hv
      have := v3_242 wh ok
      omega
    | succ f ih =>
      intro i b r ch M' hi ok hv he g0 g1 g2 hb
      have dH := (g0.s0 d).2.2.2.2.2.2.2
      obtain ⟨no, nk, nv⟩ := nxF_ok wh (n 6).toNat r (by omega) ok
      have sb := smR_b wh ok (n 6).toNat (by omega)
      have v2 := v3_242 wh ok
      unfold lsF at he
      have nxt : ∀ (b' x6 : Int) (ch' : Int → Int) (M1 : Mm), (if (nxF n (n 6).toNat r).1 = true then lsF n day f b' (nxF n (n 6).toNat r).2 ch' else (b', ch')) = lsA n day → (b' = -1 ∨ 0 ≤ b') → CL M M1 → (∀ h, 0 ≤ h → h < 5 → gI M1 70 h = r h) → (0 ≤ b' → ∀ h, 0 ≤ h → h < 5 → gI M1 71 h = ch' h) → Wq 1 0 0 mH_next 0 [iR 26, iR 70, none] [] M1 (fun M' v => Wq 5 0 0 mD_cheapest 119 [iR 0, iI day, iI (kn0 n), iI b', iI 1, iI i, iI x6] (v.toList ++ []) M' Q) := by
        intro b' x6 ch' M1 he hb' q0 q1 q2
        refine sp_H_next q0.1 wh (q0.s0 d) ok q1 (fun M2 p0 p1 p2 => B_D_cheapest_119 ⟨by omega, ?_⟩)
        have p3 := q0.tr p0
        by_cases c : (nxF n (n 6).toNat r).1 = true
        · rw [if_pos c] at he ⊢
          have r1 := ih (i + 1) b' (nxF n (n 6).toNat r).2 ch' M2 (by omega) no (by have := nv c; omega) he p3 p2 (by rw [p1]; exact q2) hb'
          rw [show (((i + 1 : Nat) : Int)) = (i : Int) + 1 by omega] at r1
          exact r1
        · rw [if_neg c] at he ⊢
          have fin := hq M2 p3 (by rw [← he, p1]; exact q2)
          rw [← he] at fin
          exact B_D_cheapest_36 p3.1 ⟨fun _ => fin, fun _ => ⟨fun _ => fin, fun z => absurd rfl z⟩⟩
      have worse : ∀ (x6 : Int) (M1 : Mm), btr n r day b = false → CL M M1 → (∀ h, 0 ≤ h → h < 5 → gI M1 70 h = r h) → (0 ≤ b → ∀ h, 0 ≤ h → h < 5 → gI M1 71 h = ch h) → Wq 1 0 0 mH_next 0 [iR 26, iR 70, none] [] M1 (fun M' v => Wq 5 0 0 mD_cheapest 119 [iR 0, iI day, iI (kn0 n), iI b, iI 1, iI i, iI x6] (v.toList ++ []) M' Q) := fun x6 M1 z q0 q1 q2 => by
        simp only [z, Bool.false_eq_true, if_false] at he
        exact nxt b x6 ch M1 he hb q0 q1 q2
      have tried : (b < 0 ∨ smR n r (n 6).toNat < b) → Wq 4 0 0 mD_endHurried 0 [iR 0, iR 70, iI (kn0 n), none] [] M' (fun M1 v => Wq 5 0 0 mD_cheapest 84 [iR 0, iI day, iI (kn0 n), iI b, iI 1, iI i, iI (smR n r (n 6).toNat)] (v.toList ++ []) M1 Q) := fun c => by
        refine sp_D_endHurried_70 g0.1 wf' (g0.s0 d) ok (fun h h0 h1 => g1 h h0 (by omega)) (fun M1 q => ?_)
        have q0 := g0.tr q.l
        have k70 : gI M1 70 = gI M' 70 := q.2.1 70 (by decide)
        have k71 : gI M1 71 = gI M' 71 := q.2.1 71 (by decide)
        refine B_D_cheapest_84 q0.1 ⟨fun z => worse _ M1 (decide_eq_false (fun y => by omega)) q0 (by rw [k70]; exact g1) (by rw [k71]; exact g2), fun z => ?_⟩
        have bt : btr n r day b = true := decide_eq_true ⟨c, by omega⟩
        rw [bt, if_pos rfl, if_pos rfl] at he
        refine nxt _ _ r _ he (by omega) ⟨q0.1, fun b hb => by rw [gI_cO (by omega)]; exact q0.2.1 b hb, q0.2.2⟩ (fun h h0 h1 => by rw [gI_cO (by decide), k70]; exact g1 h h0 h1) (fun _ h h0 h1 => by rw [gI_cI (by omega) (by omega), show (0 : Int) + (h - 0) = h by omega, k70]; exact g1 h h0 h1)
      refine B_D_cheapest_36 g0.1 ⟨fun z => by omega, fun _ => ⟨fun z => absurd z (by decide), fun _ => sp_H_sumOf_70 g0.1 wh dH ok (fun h h0 h1 => g1 h h0 (by omega)) (B_D_cheapest_63 g0.1 ?_)⟩⟩
      exact ⟨fun z => tried (Or.inl z), fun z => ⟨fun y => worse _ M' (decide_eq_false (fun q => by omega)) g0 g1 g2, fun y => tried (Or.inr (by omega))⟩⟩
  have ini : ∀ (k : Nat) (j : Nat) (M' : Mm), j + k = 5 → CL M M' → (∀ h, 0 ≤ h → h < (j : Int) → gI M' 70 h = 0) → Wq 5 0 0 mD_cheapest 13 [iR 0, iI day, iI (kn0 n), iI (-1), iI 1, iI j, none] [] M' Q := by
    intro k
    induction k with
    | zero =>
      intro j M' hj p0 p1
      refine B_D_cheapest_13 p0.1 ⟨fun _ => main 243 0 (-1) (fun _ => 0) (fun _ => 0) M' (by omega) (ok_0 wh) (v3_b wh (ok_0 wh) (n 6).toNat (by omega)).1 rfl p0 (fun h h0 h1 => p1 h h0 (by omega)) (fun z => by omega) (Or.inl rfl), fun z => by omega⟩
    | succ k ihk =>
      intro j M' hj p0 p1
      have r1 := ihk (j + 1) (sI M' 70 j 0) (by omega) (p0.w (by decide)) (fun h h0 h1 => by
        rw [gI_up]
        by_cases c : h = (j : Int)
        · rw [c, up_s]
        · rw [up_n c]
          exact p1 h h0 (by omega))
      rw [show (((j + 1 : Nat) : Int)) = (j : Int) + 1 by omega] at r1
      exact B_D_cheapest_13 p0.1 ⟨fun z => by omega, fun _ => ⟨by omega, r1⟩⟩
  exact ini 5 0 M (by omega) ⟨hS, fun _ _ => rfl, rfl⟩ (fun h h0 h1 => by omega)
theorem c_least {day w : Int} (hw : WfS s) (h : CI s M) (hq : ∀ M', CI (o_least s day w).1 M' → FrC M M' → Q M' (some (vI (o_least s day w).2))) : Wq 6 0 0 mD_least 0 [iR 0, iI day, iI w, none] [] M Q := by
  have h6 := hw.1.2.2.2.2.2.2.2.1
  have d := h.2.1
  refine B_D_least_0 h.1 ?_
  rw [d.2.2.2.2.2.2.2.1]
  refine ⟨fun c => ⟨by omega, fun c2 => ?_, fun c2 => c_fnd h (by decide) (by decide) (by decide) (if_neg (fun z => c2 z.2)) hq⟩, fun c => c_fnd h (by decide) (by decide) (by decide) (if_neg (fun z => c z.1)) hq⟩
  rw [show o_least s day w = _ from if_pos ⟨c, c2⟩] at hq
  refine sp_D_cheapest h.1 hw.1 d (fun M1 g0 g1 => B_D_least_43 g0.1 ⟨fun z => ?_, fun z => ?_⟩)
  · rw [if_neg (by omega)] at hq
    refine ⟨fun y => ⟨by omega, ?_⟩, fun y => ?_⟩
    · rw [if_neg (by omega)] at hq
      rw [g1 z w y (by omega)]
      exact hq M1 (g0.ci h) g0.fr
    · rw [if_pos (by omega)] at hq
      exact hq M1 (g0.ci h) g0.fr
  · exact c_fnd (g0.ci h) (by decide) (by decide) (by decide) (if_pos (by omega)) (fun M' q0 q1 => hq M' q0 (fun a j q => (q1 a j q).trans (g0.fr a j q)))
end OPX
