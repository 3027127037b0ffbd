/-! ===== the class's reader is pP ===== -/
section CRD
variable {t : Int → Int} {len start : Int} {nu : Int → Int} {M0 : Mm} {tr : Nat}
/-- the class's cells hold a state of the reader -/
def CX (start len : Int) (tr : Nat) (M0 : Mm) (x : PS) (M : Mm) : Prop := RefOK M ∧ gR M 63 1 = some tr ∧ (∀ b : Nat, b ≠ 63 → gI M b = gI M0 b) ∧ gL M = gL M0 ∧ gI M 63 2 = start ∧ gI M 63 3 = start + len ∧ gI M 63 4 = start + x.1 ∧ gI M 63 5 = x.2.1 ∧ gI M 63 6 = (if x.2.2.1 = true then 1 else 0) ∧ (0 ≤ x.1 ∧ x.1 ≤ len) ∧ (0 ≤ x.2.1 ∧ x.2.1 ≤ 5)
/-- what is read, and where -/
def CB (t : Int → Int) (start len : Int) (nu : Int → Int) (tr : Nat) (M0 : Mm) : Prop := (0 ≤ len ∧ len ≤ 60) ∧ (0 ≤ start ∧ start ≤ 540) ∧ (tr = 21 ∧ start = 0 ∨ tr = 22) ∧ (∀ i, 0 ≤ i → i < len → bAnd (gI M0 tr (start + i)) 255 = t i) ∧ ∀ i, 0 ≤ i → i ≤ 5 → gI M0 64 i = nu i
theorem CX.at {x : PS} {M : Mm} {a : Int} (h : CX start len tr M0 x M) (a0 : 0 ≤ a) (a1 : a ≤ len) : CX start len tr M0 (a, x.2) (sI M 63 4 (start + a)) := by
  obtain ⟨g0, gr, g1, g3, g4, g5, g6, g7, g8, g9, g10⟩ := h
  exact ⟨g0, gr, fun b b1 => by rw [gI_ot b1]; exact g1 b b1, g3, by rw [gI_up, up_n (by decide)]; exact g4, by rw [gI_up, up_n (by decide)]; exact g5, by rw [gI_up, up_s], by rw [gI_up, up_n (by decide)]; exact g7, by rw [gI_up, up_n (by decide)]; exact g8, ⟨a0, a1⟩, g10⟩
theorem CX.op {x : PS} {M : Mm} {o : Int} (h : CX start len tr M0 x M) (o0 : 0 ≤ o) (o1 : o ≤ 5) : CX start len tr M0 (x.1, o, x.2.2) (sI M 63 5 o) := by
  obtain ⟨g0, gr, g1, g3, g4, g5, g6, g7, g8, g9, g10⟩ := h
  exact ⟨g0, gr, fun b b1 => by rw [gI_ot b1]; exact g1 b b1, g3, by rw [gI_up, up_n (by decide)]; exact g4, by rw [gI_up, up_n (by decide)]; exact g5, by rw [gI_up, up_n (by decide)]; exact g6, by rw [gI_up, up_s], by rw [gI_up, up_n (by decide)]; exact g8, g9, ⟨o0, o1⟩⟩
theorem CX.fl {x : PS} {M : Mm} {z : Int} (b : Bool) (h : CX start len tr M0 x M) (hz : z = if b = true then 1 else 0) : CX start len tr M0 (x.1, x.2.1, b, x.2.2.2) (sI M 63 6 z) := by
  obtain ⟨g0, gr, g1, g3, g4, g5, g6, g7, g8, g9, g10⟩ := h
  exact ⟨g0, gr, fun b b1 => by rw [gI_ot b1]; exact g1 b b1, g3, by rw [gI_up, up_n (by decide)]; exact g4, by rw [gI_up, up_n (by decide)]; exact g5, by rw [gI_up, up_n (by decide)]; exact g6, by rw [gI_up, up_n (by decide)]; exact g7, by rw [gI_up, up_s]; exact hz, g9, g10⟩
/-- the code isn't here -/
theorem CX.put {x : PS} {M : Mm} (c : Int) (h : CX start len tr M0 x M) : CX start len tr M0 (pPut c x) M := by
  unfold pPut
  split
  · exact h
  · exact h
theorem sp_next {x : PS} {M : Mm} {Q : Mm → Option Mv → Prop} (B : CB t start len nu tr M0) (h : CX start len tr M0 x M) (hq : Q M (some (vI (pHere t len x)))) : Wq 1 0 0 mR_next 0 [iR 63] [] M Q := by
  obtain ⟨g0, gr, g1, g3, g4, g5, g6, g7, g8, g9, g10⟩ := h
  obtain ⟨b1, b2, b3, b4, b5⟩ := B
  have no : ¬ (x.2.2.1 = false ∧ x.1 < len) → Q M (some (vI (-1))) := fun z => by
    rw [pH_no t len z] at hq
    exact hq
  have ff : gI M 63 6 = 0 → x.2.2.1 = false := fun z => by
    cases hb : x.2.2.1
    · rfl
    · rw [g8, hb] at z
      exact absurd z (by decide)
  have yes : gI M 63 6 = 0 → x.1 < len → Q M (some (vI (bAnd (gI M tr (gI M 63 4)) 255))) := fun z y => by
    rw [pH_eq t len (ff z) y, ← b4 x.1 g9.1 y] at hq
    rw [g6, g1 tr (by omega)]
    exact hq
  rcases b3 with ⟨e1, e2⟩ | e1
  · subst e1
    refine B_R_nextt_0 gr ⟨fun c => no (fun z => c (by rw [g8, z.1]; rfl)), fun c => ⟨fun c2 => by omega, fun c2 => ⟨fun c3 => no (fun z => by omega), fun c3 => ⟨fun c4 => by omega, fun c4 => ⟨by omega, yes c (by omega)⟩⟩⟩⟩⟩
  · subst e1
    refine B_R_nextx_0 gr ⟨fun c => no (fun z => c (by rw [g8, z.1]; rfl)), fun c => ⟨fun c2 => by omega, fun c2 => ⟨fun c3 => no (fun z => by omega), fun c3 => ⟨fun c4 => by omega, fun c4 => ⟨by omega, yes c (by omega)⟩⟩⟩⟩⟩
theorem sp_skip {x : PS} {M : Mm} {c : Int} {Q : Mm → Option Mv → Prop} (B : CB t start len nu tr M0) (h : CX start len tr M0 x M) (c0 : 0 ≤ c) (hy : pHere t len x = c → ∀ M', CX start len tr M0 (pAdv x) M' → Q M' (some (vI 1))) (hn : pHere t len x ≠ c → Q M (some (vI 0))) : Wq 2 0 0 mR_skip 0 [iR 63, iI c] [] M Q := by
  have b1 := B.1
  have b2 := B.2.1
  have g6 := h.2.2.2.2.2.2.1
  have g9 := h.2.2.2.2.2.2.2.2.2.1
  refine B_R_skip_0 (sp_next B h (B_R_skip_4 ⟨fun z => ?_, fun z => hn z⟩))
  have hin := pH_in t len (s := x) (by omega)
  rw [g6]
  refine ⟨by omega, hy z _ ?_⟩
  have := h.at (a := x.1 + 1) (by omega) (by omega)
  rw [← Int.add_assoc] at this
  exact this
theorem sp_truth {z : Int} {M : Mm} {Q : Mm → Option Mv → Prop} (hq : Q M (some (vI (if z = 0 then 0 else 1)))) : Wq 1 0 0 mR_truth 0 [iI z] [] M Q := by
  refine B_R_truth_0 ⟨fun c => ?_, fun c => ?_⟩
  · rw [if_pos c] at hq; exact hq
  · rw [if_neg c] at hq; exact hq
theorem sp_nameR {c : Int} {M : Mm} {Q : Mm → Option Mv → Prop} (hq : Q M (some (vI (nameF c)))) : Wq 1 0 0 mR_nameOf 0 [iI c] [] M Q := by
  refine B_R_nameOf_0 ⟨fun z => ?_, fun z => ?_, fun z => ?_, fun z => ?_, fun z => ?_, fun z => ?_, fun z => ?_⟩
  · rw [z] at hq; exact hq
  · rw [z] at hq; exact hq
  · rw [z] at hq; exact hq
  · rw [z] at hq; exact hq
  · rw [z] at hq; exact hq
  · rw [z] at hq; exact hq
  · unfold nameF at hq
    rw [if_neg z.1, if_neg z.2.1, if_neg z.2.2.2.1, if_neg z.2.2.2.2.1, if_neg z.2.2.2.2.2, if_neg z.2.2.1] at hq
    exact hq
/-- the class's methods, by what they read -/
def SC (k d : Nat) (v i : Int) (M : Mm) (Q : Mm → Option Mv → Prop) : Prop := match k with
  | 0 => Wq (d + 3) 0 0 mR_either 0 [iR 63, none, none, none] [] M Q
  | 1 => Wq (d + 3) 0 0 mR_both 0 [iR 63, none, none, none] [] M Q
  | 2 => Wq (d + 3) 0 0 mR_compared 0 [iR 63, none] [] M Q
  | 3 => Wq (d + 3) 0 0 mR_sum 0 [iR 63, none, none] [] M Q
  | 4 => Wq (d + 3) 0 0 mR_product 0 [iR 63, none, none, none] [] M Q
  | 5 => Wq (d + 3) 0 0 mR_single 0 [iR 63, none, none] [] M Q
  | 6 => Wq (d + 3) 0 0 mR_either 7 [iR 63, iI v, iI i, none] [] M Q
  | 7 => Wq (d + 3) 0 0 mR_both 7 [iR 63, iI v, iI i, none] [] M Q
  | 8 => Wq (d + 3) 0 0 mR_sum 7 [iR 63, iI v, iI i] [] M Q
  | 9 => Wq (d + 3) 0 0 mR_product 7 [iR 63, iI v, iI i, none] [] M Q
  | _ => True
theorem sp_number {x : PS} {M : Mm} {Q : Mm → Option Mv → Prop} (B : CB t start len nu tr M0) (h : CX start len tr M0 x M) (hq : ∀ M', CX start len tr M0 (pNum t len 4 0 x).1 M' → Q M' (some (vI (pNum t len 4 0 x).2))) : Wq 2 0 0 mR_number 0 [iR 63, none, none] [] M Q := by
  have b1 := B.1
  have b2 := B.2.1
  refine B_R_number_0 ?_
  generalize hR : pNum t len 4 0 x = R at hq
  have num : ∀ (j : Nat) (w : Int) (y : PS) (M1 : Mm), j ≤ 4 → CX start len tr M0 y M1 → (0 ≤ w ∧ w < 10 ^ (4 - j)) → R = pNum t len j w y → Wq 2 0 0 mR_number 4 [iR 63, iI w, iI (4 - (j : Int))] [] M1 Q := by
    intro j
    induction j with
    | zero =>
      intro w y M1 _ hy hw e
      rw [e] at hq
      exact B_R_number_4 ⟨fun _ => hq M1 hy, fun z => by omega⟩
    | succ j ihj =>
      intro w y M1 hj hy hw e
      have w4 : w < 1000 := by
        have : (10 : Int) ^ (4 - (j + 1)) ≤ 1000 := by
          have : j = 0 ∨ j = 1 ∨ j = 2 ∨ j = 3 := by omega
          rcases this with z | z | z | z <;> subst z <;> decide
        omega
      unfold pNum at e
      have no : ¬ (48 ≤ pHere t len y ∧ pHere t len y ≤ 57) → Q M1 (some (vI w)) := fun z => by
        rw [if_neg z] at e
        rw [e] at hq
        exact hq M1 hy
      refine B_R_number_4 ⟨fun z => by omega, fun _ => sp_next B hy (B_R_number_13 ⟨fun z => no (by omega), fun z => sp_next B hy (B_R_number_22 ⟨fun z2 => no (by omega), fun z2 => sp_next B hy ?_⟩)⟩)⟩
      rw [if_pos ⟨by omega, by omega⟩] at e
      have hin := pH_in t len (s := y) (by omega)
      have yb := hy.2.2.2.2.2.2.2.2.2.1
      rw [wr_eq (by omega) (by omega)]
      refine B_R_number_35 ?_
      rw [hy.2.2.2.2.2.2.1]
      refine ⟨⟨by omega, by omega, by omega⟩, ?_⟩
      have hy2 := hy.at (a := y.1 + 1) (by omega) (by omega)
      rw [← Int.add_assoc] at hy2
      have r := ihj (10 * w + pHere t len y - 48) (pAdv y) _ (by omega) hy2 ⟨by omega, ?_⟩ e
      · rw [show (4 : Int) - ((j + 1 : Nat) : Int) + 1 = 4 - (j : Int) by omega, Int.mul_comm w 10]
        exact r
      · have : (10 : Int) ^ (4 - j) = 10 * 10 ^ (4 - (j + 1)) := by
          rw [show 4 - j = (4 - (j + 1)) + 1 by omega, Int.pow_succ, Int.mul_comm]
        omega
  exact num 4 0 x M (by omega) h (by decide) hR.symm
theorem rdC (B : CB t start len nu tr M0) : ∀ (f k d : Nat) (x : PS) (v i : Int) (M : Mm) (Q : Mm → Option Mv → Prop), CX start len tr M0 x M → 12 * (len - x.1) + fk k ≤ f → dk k + 8 * (5 - x.2.1) ≤ d + 3 → (0 ≤ i ∧ i ≤ x.1) → (∀ M', CX start len tr M0 (pP t len nu f k (x, v)).1 M' → Q M' (some (vI (pP t len nu f k (x, v)).2))) → SC k d v i M Q := by
  have l60 := B.1
  have s540 := B.2.1
  intro f
  induction f with
  | zero =>
    intro k d x v i M Q h hf
    have := fk_1 k
    have := h.2.2.2.2.2.2.2.2.2.1
    omega
  | succ f ih =>
    intro k d x v i M Q h hf hd hi hq
    have hx := h.2.2.2.2.2.2.2.2.2.1
    have ho := h.2.2.2.2.2.2.2.2.2.2
    have ha := h.2.2.2.2.2.2.1
    have hf6 := h.2.2.2.2.2.2.2.2.1
    have dk5 := dk_5 k
    obtain ⟨d, rfl⟩ : ∃ d', d = d' + 1 := ⟨d - 1, by omega⟩
    have go : ∀ (j : Nat) (y : PS) (M1 : Mm) (Q1 : Mm → Option Mv → Prop), CX start len tr M0 y M1 → y.2.1 = x.2.1 → x.1 ≤ y.1 → 12 * (len - y.1) + fk j ≤ f → dk j + 8 * (5 - x.2.1) ≤ d + 3 → (∀ w M', CX start len tr M0 (pP t len nu f j (y, w)).1 M' → y.1 ≤ (pP t len nu f j (y, w)).1.1 → (pP t len nu f j (y, w)).1.2.1 = x.2.1 → Q1 M' (some (vI (pP t len nu f j (y, w)).2))) → ∀ w, SC j d w 0 M1 Q1 := by
      intro j y M1 Q1 hy oy ay fy dy qy w
      have m := pP_m t len nu f j (y, w)
      exact ih j d y w 0 M1 Q1 hy fy (by rw [oy]; exact dy) (by omega) (fun M' h' => qy w M' h' m.1 (m.2.trans oy))
    have lp : ∀ (j : Nat) (y : PS) (w i' : Int) (M1 : Mm), CX start len tr M0 y M1 → y.2.1 = x.2.1 → 12 * (len - y.1) + fk j ≤ f → dk j + 8 * (5 - x.2.1) ≤ d + 1 + 3 → (0 ≤ i' ∧ i' ≤ y.1) → (∀ M', CX start len tr M0 (pP t len nu f j (y, w)).1 M' → Q M' (some (vI (pP t len nu f j (y, w)).2))) → SC j (d + 1) w i' M1 Q := by
      intro j y w i' M1 hy oy fy dy iy qy
      exact ih j (d + 1) y w i' M1 Q hy fy (by rw [oy]; exact dy) iy qy
    match k, hf, hd, hq, dk5 with
    | 0, hf, hd, hq, _ =>
      simp only [fk] at hf
      simp only [dk] at hd
      unfold pP at hq
      have m : Gt x (pP t len nu f 1 (x, v)).1 := pP_m t len nu f 1 (x, v)
      refine B_R_either_0 (ih 1 d x v 0 M _ h (by simp only [fk]; omega) (by simp only [dk]; omega) (by omega) (fun M1 h1 => B_R_either_4 ?_))
      exact lp 6 _ (pP t len nu f 1 (x, v)).2 0 M1 h1 m.2 (by have := m.1; simp only [fk]; omega) (by simp only [dk]; omega) (by have := m.1; omega) hq
    | 1, hf, hd, hq, _ =>
      simp only [fk] at hf
      simp only [dk] at hd
      unfold pP at hq
      have m : Gt x (pP t len nu f 2 (x, v)).1 := pP_m t len nu f 2 (x, v)
      refine B_R_both_0 (ih 2 d x v 0 M _ h (by simp only [fk]; omega) (by simp only [dk]; omega) (by omega) (fun M1 h1 => B_R_both_4 ?_))
      exact lp 7 _ (pP t len nu f 2 (x, v)).2 0 M1 h1 m.2 (by have := m.1; simp only [fk]; omega) (by simp only [dk]; omega) (by have := m.1; omega) hq
    | 3, hf, hd, hq, _ =>
      simp only [fk] at hf
      simp only [dk] at hd
      unfold pP at hq
      have m : Gt x (pP t len nu f 4 (x, v)).1 := pP_m t len nu f 4 (x, v)
      refine B_R_sum_0 (ih 4 d x v 0 M _ h (by simp only [fk]; omega) (by simp only [dk]; omega) (by omega) (fun M1 h1 => B_R_sum_4 ?_))
      exact lp 8 _ (pP t len nu f 4 (x, v)).2 0 M1 h1 m.2 (by have := m.1; simp only [fk]; omega) (by simp only [dk]; omega) (by have := m.1; omega) hq
    | 4, hf, hd, hq, _ =>
      simp only [fk] at hf
      simp only [dk] at hd
      unfold pP at hq
      have m : Gt x (pP t len nu f 5 (x, v)).1 := pP_m t len nu f 5 (x, v)
      refine B_R_product_0 (ih 5 d x v 0 M _ h (by simp only [fk]; omega) (by simp only [dk]; omega) (by omega) (fun M1 h1 => B_R_product_4 ?_))
      exact lp 9 _ (pP t len nu f 5 (x, v)).2 0 M1 h1 m.2 (by have := m.1; simp only [fk]; omega) (by simp only [dk]; omega) (by have := m.1; omega) hq
    | 2, hf, hd, hq, _ =>
      simp only [fk] at hf
      simp only [dk] at hd
      unfold pP at hq
      dsimp only at hq
      have m : Gt x (pP t len nu f 3 (x, v)).1 := pP_m t len nu f 3 (x, v)
      refine B_R_compared_0 (ih 3 d x v 0 M _ h (by simp only [fk]; omega) (by simp only [dk]; omega) (by omega) (fun M1 h1 => ?_))
      generalize hr : (pP t len nu f 3 (x, v)) = r at h1 m hq
      have m1 : x.1 ≤ r.1.1 := m.1
      have m2 : r.1.2.1 = x.2.1 := m.2
      have b1 := h1.2.2.2.2.2.2.2.2.2.1
      have sec : ∀ (M2 : Mm) (Q2 : Mm → Option Mv → Prop), r.1.1 < len → CX start len tr M0 (pAdv r.1) M2 → (∀ M', CX start len tr M0 (pP t len nu f 3 (pAdv r.1, 0)).1 M' → Q2 M' (some (vI (pP t len nu f 3 (pAdv r.1, 0)).2))) → Wq (d + 1 + 2) 0 0 mR_sum 0 [iR 63, none, none] [] M2 Q2 := by
        intro M2 Q2 hl h2 q2
        exact ih 3 d (pAdv r.1) 0 0 M2 Q2 h2 (by show 12 * (len - (r.1.1 + 1)) + 3 ≤ _; omega) (by show 7 + 8 * (5 - r.1.2.1) ≤ _; omega) (by show 0 ≤ (0 : Int) ∧ 0 ≤ r.1.1 + 1; omega) q2
      refine B_R_compared_4 (sp_skip B h1 (by decide) (fun c M2 h2 => ?_) (fun c => ?_))
      · have hin := pH_in t len (s := r.1) (by omega)
        rw [if_pos (by omega), c] at hq
        refine B_R_compared_11 ⟨fun z => absurd z (by decide), fun _ => sec M2 _ hin.2 h2 (fun M3 h3 => ?_)⟩
        have fin := hq M3 (h3.put 20002)
        rw [if_pos rfl] at fin
        unfold tru at fin
        refine B_R_compared_19 ⟨fun z => sp_truth (B_R_compared_30 ?_), fun z => sp_truth (B_R_compared_30 ?_)⟩
        · rw [if_neg (show ¬ r.2 < _ by omega)] at fin
          exact fin
        · rw [if_pos (show r.2 < _ by omega)] at fin
          exact fin
      · refine B_R_compared_11 ⟨fun _ => sp_skip B h1 (by decide) (fun c2 M2 h2 => ?_) (fun c2 => ?_), fun z => absurd rfl z⟩
        · have hin := pH_in t len (s := r.1) (by omega)
          rw [if_pos (by omega), c2] at hq
          refine B_R_compared_37 ⟨fun z => absurd z (by decide), fun _ => sec M2 _ hin.2 h2 (fun M3 h3 => ?_)⟩
          have fin := hq M3 (h3.put 20003)
          rw [if_neg (by decide), if_pos rfl] at fin
          unfold tru at fin
          refine B_R_compared_45 ⟨fun z => sp_truth (B_R_compared_56 ?_), fun z => sp_truth (B_R_compared_56 ?_)⟩
          · rw [if_neg z] at fin
            exact fin
          · rw [if_pos z] at fin
            exact fin
        · refine B_R_compared_37 ⟨fun _ => sp_skip B h1 (by decide) (fun c3 M2 h2 => ?_) (fun c3 => ?_), fun z => absurd rfl z⟩
          · have hin := pH_in t len (s := r.1) (by omega)
            rw [if_pos (by omega), c3] at hq
            refine B_R_compared_63 ⟨fun z => absurd z (by decide), fun _ => sec M2 _ hin.2 h2 (fun M3 h3 => ?_)⟩
            have fin := hq M3 (h3.put 20004)
            rw [if_neg (by decide), if_neg (by decide)] at fin
            unfold tru at fin
            refine B_R_compared_71 ⟨fun z => sp_truth (B_R_compared_82 ?_), fun z => sp_truth (B_R_compared_82 ?_)⟩
            · rw [if_neg (show ¬ _ < r.2 by omega)] at fin
              exact fin
            · rw [if_pos (show _ < r.2 by omega)] at fin
              exact fin
          · rw [if_neg (by omega)] at hq
            exact B_R_compared_63 ⟨fun _ => hq M1 h1, fun z => absurd rfl z⟩
    | 6, hf, hd, hq, _ =>
      simp only [fk] at hf
      simp only [dk] at hd
      unfold pP at hq
      refine B_R_either_7 ⟨fun z => ?_, fun z => sp_skip B h (by decide) (fun c M1 h1 => ?_) (fun c => ?_)⟩
      · rw [if_neg (by rw [pH_no t len (fun q => by have : x.1 < len := q.2; omega)]; decide)] at hq
        exact hq M h
      · rw [if_pos c] at hq
        have hin := pH_in t len (s := x) (by omega)
        refine B_R_either_19 ⟨fun z => absurd z (by decide), fun _ => ih 1 d (pAdv x) 0 0 M1 _ h1 (by show 12 * (len - (x.1 + 1)) + 5 ≤ _; omega) (by show 9 + 8 * (5 - x.2.1) ≤ _; omega) (by show 0 ≤ (0 : Int) ∧ 0 ≤ x.1 + 1; omega) (fun M2 h2 => ?_)⟩
        have m := pP_m t len nu f 1 (pAdv x, 0)
        generalize pP t len nu f 1 (pAdv x, 0) = r at h2 m hq
        have m1 : x.1 + 1 ≤ r.1.1 := m.1
        have m2 : r.1.2.1 = x.2.1 := m.2
        have gp := (Gt.rf r.1).put 20000
        have fin : Wq (d + 1 + 3) 0 0 mR_either 7 [iR 63, iI (tru (v ≠ 0 ∨ r.2 ≠ 0)), iI (i + 1), none] [] M2 Q := lp 6 (pPut 20000 r.1) (tru (v ≠ 0 ∨ r.2 ≠ 0)) (i + 1) M2 (h2.put 20000) (gp.2.trans m2) (by have := gp.1; simp only [fk]; omega) (by simp only [dk]; omega) (by have := gp.1; omega) hq
        unfold tru at fin
        refine B_R_either_26 ⟨fun z => sp_truth (B_R_either_43 ⟨by omega, ?_⟩), fun z => ⟨fun y => sp_truth (B_R_either_43 ⟨by omega, ?_⟩), fun y => sp_truth (B_R_either_43 ⟨by omega, ?_⟩)⟩⟩
        · rw [if_pos (Or.inl z)] at fin
          exact fin
        · rw [if_neg (fun q => q.elim (fun q => q z) (fun q => q y))] at fin
          exact fin
        · rw [if_pos (Or.inr y)] at fin
          exact fin
      · rw [if_neg c] at hq
        exact B_R_either_19 ⟨fun _ => hq M h, fun z => absurd rfl z⟩
    | 7, hf, hd, hq, _ =>
      simp only [fk] at hf
      simp only [dk] at hd
      unfold pP at hq
      refine B_R_both_7 ⟨fun z => ?_, fun z => sp_skip B h (by decide) (fun c M1 h1 => ?_) (fun c => ?_)⟩
      · rw [if_neg (by rw [pH_no t len (fun q => by have : x.1 < len := q.2; omega)]; decide)] at hq
        exact hq M h
      · rw [if_pos c] at hq
        have hin := pH_in t len (s := x) (by omega)
        refine B_R_both_19 ⟨fun z => absurd z (by decide), fun _ => ih 2 d (pAdv x) 0 0 M1 _ h1 (by show 12 * (len - (x.1 + 1)) + 4 ≤ _; omega) (by show 8 + 8 * (5 - x.2.1) ≤ _; omega) (by show 0 ≤ (0 : Int) ∧ 0 ≤ x.1 + 1; omega) (fun M2 h2 => ?_)⟩
        have m := pP_m t len nu f 2 (pAdv x, 0)
        generalize pP t len nu f 2 (pAdv x, 0) = r at h2 m hq
        have m1 : x.1 + 1 ≤ r.1.1 := m.1
        have m2 : r.1.2.1 = x.2.1 := m.2
        have gp := (Gt.rf r.1).put 20001
        have fin : Wq (d + 1 + 3) 0 0 mR_both 7 [iR 63, iI (tru (v ≠ 0 ∧ r.2 ≠ 0)), iI (i + 1), none] [] M2 Q := lp 7 (pPut 20001 r.1) (tru (v ≠ 0 ∧ r.2 ≠ 0)) (i + 1) M2 (h2.put 20001) (gp.2.trans m2) (by have := gp.1; simp only [fk]; omega) (by simp only [dk]; omega) (by have := gp.1; omega) hq
        unfold tru at fin
        refine B_R_both_26 ⟨fun z => sp_truth (B_R_both_43 ⟨by omega, ?_⟩), fun z => ⟨fun y => sp_truth (B_R_both_43 ⟨by omega, ?_⟩), fun y => sp_truth (B_R_both_43 ⟨by omega, ?_⟩)⟩⟩
        · rw [if_neg (fun q => q.1 z)] at fin
          exact fin
        · rw [if_neg (fun q => q.2 y)] at fin
          exact fin
        · rw [if_pos ⟨z, y⟩] at fin
          exact fin
      · rw [if_neg c] at hq
        exact B_R_both_19 ⟨fun _ => hq M h, fun z => absurd rfl z⟩
    | 8, hf, hd, hq, _ =>
      simp only [fk] at hf
      simp only [dk] at hd
      unfold pP at hq
      dsimp only at hq
      have run : ∀ (M1 : Mm) (Q2 : Mm → Option Mv → Prop), x.1 < len → CX start len tr M0 (pAdv x) M1 → (∀ M', CX start len tr M0 (pP t len nu f 4 (pAdv x, 0)).1 M' → Q2 M' (some (vI (pP t len nu f 4 (pAdv x, 0)).2))) → Wq (d + 1 + 2) 0 0 mR_product 0 [iR 63, none, none, none] [] M1 Q2 := fun M1 Q2 hl h1 q2 => ih 4 d (pAdv x) 0 0 M1 Q2 h1 (by show 12 * (len - (x.1 + 1)) + 2 ≤ _; omega) (by show 6 + 8 * (5 - x.2.1) ≤ _; omega) (by show 0 ≤ (0 : Int) ∧ 0 ≤ x.1 + 1; omega) q2
      have m := pP_m t len nu f 4 (pAdv x, 0)
      generalize pP t len nu f 4 (pAdv x, 0) = r at run m hq
      have m1 : x.1 + 1 ≤ r.1.1 := m.1
      have m2 : r.1.2.1 = x.2.1 := m.2
      have nxt : ∀ (c w : Int) (M2 : Mm), CX start len tr M0 r.1 M2 → x.1 < len → (∀ M', CX start len tr M0 (pP t len nu f 8 (pPut c r.1, w)).1 M' → Q M' (some (vI (pP t len nu f 8 (pPut c r.1, w)).2))) → Wq (d + 1 + 3) 0 0 mR_sum 7 [iR 63, iI w, iI (wr (i + 1))] [] M2 Q := fun c w M2 h2 hl q2 => by
        have gp := (Gt.rf r.1).put c
        have r2 := h2.2.2.2.2.2.2.2.2.2.1
        rw [wr_eq (by omega) (by omega)]
        exact lp 8 (pPut c r.1) w (i + 1) M2 (h2.put c) (gp.2.trans m2) (by have := gp.1; simp only [fk]; omega) (by simp only [dk]; omega) (by have := gp.1; omega) q2
      refine B_R_sum_7 ⟨fun z => ?_, fun z => sp_skip B h (by decide) (fun c M1 h1 => ?_) (fun c => ?_)⟩
      · rw [if_neg (by rw [pH_no t len (fun q => by have : x.1 < len := q.2; omega)]; decide)] at hq
        exact hq M h
      · rw [if_pos (by omega), c, if_pos rfl, if_pos rfl] at hq
        have hin := pH_in t len (s := x) (by omega)
        exact B_R_sum_19 ⟨fun z => absurd z (by decide), fun _ => run M1 _ hin.2 h1 (fun M2 h2 => B_R_sum_27 (nxt _ _ M2 h2 hin.2 hq))⟩
      · refine B_R_sum_19 ⟨fun _ => sp_skip B h (by decide) (fun c2 M1 h1 => ?_) (fun c2 => ?_), fun z => absurd rfl z⟩
        · rw [if_pos (by omega), c2, if_neg (by decide), if_neg (by decide)] at hq
          have hin := pH_in t len (s := x) (by omega)
          exact B_R_sum_38 ⟨fun z => absurd z (by decide), fun _ => run M1 _ hin.2 h1 (fun M2 h2 => B_R_sum_46 (nxt _ _ M2 h2 hin.2 hq))⟩
        · rw [if_neg (by omega)] at hq
          exact B_R_sum_38 ⟨fun _ => hq M h, fun z => absurd rfl z⟩
    | 9, hf, hd, hq, _ =>
      simp only [fk] at hf
      simp only [dk] at hd
      unfold pP at hq
      dsimp only at hq
      have run : ∀ (M1 : Mm) (Q2 : Mm → Option Mv → Prop), x.1 < len → CX start len tr M0 (pAdv x) M1 → (∀ M', CX start len tr M0 (pP t len nu f 5 (pAdv x, 0)).1 M' → Q2 M' (some (vI (pP t len nu f 5 (pAdv x, 0)).2))) → Wq (d + 1 + 2) 0 0 mR_single 0 [iR 63, none, none] [] M1 Q2 := fun M1 Q2 hl h1 q2 => ih 5 d (pAdv x) 0 0 M1 Q2 h1 (by show 12 * (len - (x.1 + 1)) + 1 ≤ _; omega) (by show 5 + 8 * (5 - x.2.1) ≤ _; omega) (by show 0 ≤ (0 : Int) ∧ 0 ≤ x.1 + 1; omega) q2
      have m := pP_m t len nu f 5 (pAdv x, 0)
      generalize pP t len nu f 5 (pAdv x, 0) = r at run m hq
      have m1 : x.1 + 1 ≤ r.1.1 := m.1
      have m2 : r.1.2.1 = x.2.1 := m.2
      have nxt : ∀ (c w : Int) (M2 : Mm), CX start len tr M0 r.1 M2 → x.1 < len → (∀ M', CX start len tr M0 (pP t len nu f 9 (pPut c r.1, w)).1 M' → Q M' (some (vI (pP t len nu f 9 (pPut c r.1, w)).2))) → Wq (d + 1 + 3) 0 0 mR_product 7 [iR 63, iI w, iI (wr (i + 1)), none] [] M2 Q := fun c w M2 h2 hl q2 => by
        have gp := (Gt.rf r.1).put c
        have r2 := h2.2.2.2.2.2.2.2.2.2.1
        rw [wr_eq (by omega) (by omega)]
        exact lp 9 (pPut c r.1) w (i + 1) M2 (h2.put c) (gp.2.trans m2) (by have := gp.1; simp only [fk]; omega) (by simp only [dk]; omega) (by have := gp.1; omega) q2
      refine B_R_product_7 ⟨fun z => ?_, fun z => sp_skip B h (by decide) (fun c M1 h1 => ?_) (fun c => ?_)⟩
      · rw [if_neg (by rw [pH_no t len (fun q => by have : x.1 < len := q.2; omega)]; decide)] at hq
        exact hq M h
      · rw [if_pos (by omega), c, if_pos rfl, if_pos rfl] at hq
        have hin := pH_in t len (s := x) (by omega)
        exact B_R_product_19 ⟨fun z => absurd z (by decide), fun _ => run M1 _ hin.2 h1 (fun M2 h2 => B_R_product_27 (nxt _ _ M2 h2 hin.2 hq))⟩
      · refine B_R_product_19 ⟨fun _ => sp_skip B h (by decide) (fun c2 M1 h1 => ?_) (fun c2 => ?_), fun z => absurd rfl z⟩
        · rw [if_pos (by omega), c2, if_neg (by decide), if_neg (by decide)] at hq
          have hin := pH_in t len (s := x) (by omega)
          refine B_R_product_38 ⟨fun z => absurd z (by decide), fun _ => run M1 _ hin.2 h1 (fun M2 h2 => B_R_product_45 ⟨fun z => ⟨z, ?_⟩, fun z => ?_⟩)⟩
          · unfold dvd at hq
            rw [if_neg z] at hq
            exact nxt _ _ M2 h2 hin.2 hq
          · unfold dvd at hq
            rw [if_pos z] at hq
            exact nxt _ _ M2 h2 hin.2 hq
        · rw [if_neg (by omega)] at hq
          exact B_R_product_38 ⟨fun _ => hq M h, fun z => absurd rfl z⟩
    | 5, hf, hd, hq, _ =>
      simp only [fk] at hf
      simp only [dk] at hd
      unfold pP at hq
      dsimp only at hq
      obtain ⟨d, rfl⟩ : ∃ d', d = d' + 1 := ⟨d - 1, by omega⟩
      have oo := h.2.2.2.2.2.2.2.1
      have cls : ∀ (r : PS) (M1 : Mm), CX start len tr M0 r M1 → r.2.1 = x.2.1 + 1 → (-2147483648 ≤ gI M1 63 5 - 1 ∧ gI M1 63 5 - 1 < 2147483648) ∧ CX start len tr M0 (pOp (-1) r) (sI M1 63 5 (gI M1 63 5 - 1)) := by
        intro r M1 h1 e
        have oo := h1.2.2.2.2.2.2.2.1
        have := h1.op (o := r.2.1 + -1) (by omega) (by omega)
        rw [oo]
        exact ⟨by omega, this⟩
      have opd : ∀ c, pHere t len x = c → (c = 33 ∨ c = 40) → Wq (d + 1 + 3) 0 0 mR_opened 0 [iR 63, iI c, none] [] M (fun M' v => Wq (d + 1 + 1 + 3) 0 0 mR_single 39 [iR 63, iI c, none] (v.toList ++ []) M' Q) := by
        intro c ec hc
        have hin := pH_in t len (s := x) (by omega)
        rw [ec] at hq
        refine B_R_opened_0 ⟨fun o5 => ?_, fun o5 => ?_⟩
        · have ne5 : ¬ x.2.1 = 5 := by omega
          have h1 : CX start len tr M0 (pAdv (pOp 1 x)) (sI (sI M 63 5 (gI M 63 5 + 1)) 63 4 (gI M 63 4 + 1)) := by
            rw [oo, ha, Int.add_assoc]
            exact (h.op (o := x.2.1 + 1) (by omega) (by omega)).at (a := x.1 + 1) (by omega) (by omega)
          refine ⟨⟨by omega, by omega⟩, fun c1 => ?_, fun c1 => ?_⟩
          · rw [if_neg c1, if_pos (by omega), if_neg ne5] at hq
            refine ih 0 d (pAdv (pOp 1 x)) 0 0 _ _ h1 (by show 12 * (len - (x.1 + 1)) + 6 ≤ _; omega) (by show 10 + 8 * (5 - (x.2.1 + 1)) ≤ _; omega) (by show 0 ≤ (0 : Int) ∧ 0 ≤ x.1 + 1; omega) (fun M2 h2 => ?_)
            have m := pP_m t len nu f 0 (pAdv (pOp 1 x), 0)
            generalize hr : pP t len nu f 0 (pAdv (pOp 1 x), 0) = r at m h2 hq
            have mo : r.1.2.1 = x.2.1 + 1 := m.2
            refine B_R_opened_63 ⟨fun z => absurd (by omega) z, fun _ => ?_⟩
            have eqh : pHere t len (pOp (-1) r.1) = pHere t len r.1 := rfl
            rw [eqh] at hq
            refine sp_skip B h2 (by decide) (fun y M3 h3 => B_R_opened_76 ⟨fun _ => ?_, fun z => absurd z (by decide)⟩) (fun y => B_R_opened_76 ⟨fun z => absurd rfl z, fun _ => ?_⟩)
            · rw [if_pos y] at hq
              obtain ⟨cr, h4⟩ := cls (pAdv r.1) M3 h3 mo
              exact ⟨cr, B_R_single_39 (hq _ h4)⟩
            · rw [if_neg y] at hq
              have h3 : CX start len tr M0 (pFlt r.1) (sI M2 63 6 1) := h2.fl true rfl
              obtain ⟨cr, h4⟩ := cls (pFlt r.1) _ h3 mo
              have e5 : gI (sI M2 63 6 1) 63 5 = gI M2 63 5 := by rw [gI_up, up_n (by decide)]
              rw [e5] at cr h4
              exact ⟨cr, B_R_single_39 (hq _ h4)⟩
          · rw [if_pos c1, if_neg ne5] at hq
            refine ih 5 d (pAdv (pOp 1 x)) 0 0 _ _ h1 (by show 12 * (len - (x.1 + 1)) + 1 ≤ _; omega) (by show 5 + 8 * (5 - (x.2.1 + 1)) ≤ _; omega) (by show 0 ≤ (0 : Int) ∧ 0 ≤ x.1 + 1; omega) (fun M2 h2 => ?_)
            have m := pP_m t len nu f 5 (pAdv (pOp 1 x), 0)
            generalize hr : pP t len nu f 5 (pAdv (pOp 1 x), 0) = r at m h2 hq
            have mo : r.1.2.1 = x.2.1 + 1 := m.2
            obtain ⟨cr, h4⟩ := cls r.1 M2 h2 mo
            unfold tru at hq
            refine B_R_opened_45 ⟨fun z => sp_truth (B_R_opened_56 ⟨fun _ => ⟨cr, B_R_single_39 ?_⟩, fun z => by omega⟩), fun z => sp_truth (B_R_opened_56 ⟨fun _ => ⟨cr, B_R_single_39 ?_⟩, fun z => by omega⟩)⟩
            · rw [if_neg z] at hq
              exact hq _ (h4.put 20009)
            · rw [if_pos z] at hq
              exact hq _ (h4.put 20009)
        · have e5 : x.2.1 = 5 := by omega
          refine B_R_single_39 ?_
          rw [if_pos e5, if_pos e5] at hq
          have h1 : CX start len tr M0 (pFlt x) (sI M 63 6 1) := h.fl true rfl
          rcases hc with z | z
          · rw [if_pos z] at hq
            exact hq _ h1
          · rw [if_neg (by omega), if_pos z] at hq
            exact hq _ h1
      have nam : pHere t len x ≠ 33 → pHere t len x ≠ 40 → ¬ (48 ≤ pHere t len x ∧ pHere t len x ≤ 57) → Wq 1 0 0 mR_nameOf 0 [iI (pHere t len x)] [] M (fun M' v => Wq (d + 1 + 1 + 3) 0 0 mR_single 44 [iR 63, iI (pHere t len x), none] (v.toList ++ []) M' Q) := by
        intro c1 c2 c3
        rw [if_neg c1, if_neg c2, if_neg c3] at hq
        have nb := nameF_b (pHere t len x)
        refine sp_nameR (B_R_single_44 h.1 ⟨fun y => ?_, fun y => ?_⟩)
        · have hne : pHere t len x ≠ -1 := fun q => by rw [q] at y; exact absurd y (by decide)
          have hin := pH_in t len hne
          rw [if_neg (by omega)] at hq
          rw [ha, h.2.2.1 64 (by decide), B.2.2.2.2 _ (by omega) (by omega)]
          refine ⟨⟨by omega, by omega⟩, hq _ ?_⟩
          have hp := h.put (10000 + nameF (pHere t len x))
          have e1 : (pPut (10000 + nameF (pHere t len x)) x).1 = x.1 := by
            unfold pPut
            split <;> rfl
          have := hp.at (a := x.1 + 1) (by omega) (by omega)
          rw [← Int.add_assoc] at this
          show CX start len tr M0 ((pPut (10000 + nameF (pHere t len x)) x).1 + 1, _) _
          rw [e1]
          exact this
        · rw [if_pos (by omega)] at hq
          exact hq _ (h.fl true rfl)
      have dig : (48 ≤ pHere t len x ∧ pHere t len x ≤ 57) → Wq 2 0 0 mR_number 0 [iR 63, none, none] [] M (fun M' v => Wq (d + 1 + 1 + 3) 0 0 mR_single 21 [iR 63, iI (pHere t len x), none] (v.toList ++ []) M' Q) := fun c => by
        rw [if_neg (by omega), if_neg (by omega), if_pos c] at hq
        exact sp_number B h (fun M1 h1 => B_R_single_21 (hq M1 (h1.put _)))
      refine B_R_single_0 (sp_next B h (B_R_single_4 ⟨fun c1 => ⟨fun c2 => opd _ rfl (Or.inl c2), fun c2 => ⟨fun c3 => nam c2 c3 (by omega), fun c3 => opd _ rfl (Or.inr c3)⟩⟩, fun c1 => ⟨fun c2 => ⟨fun c3 => by omega, fun c3 => ⟨fun c4 => nam c3 c4 (by omega), fun c4 => by omega⟩⟩, fun c2 => dig ⟨by omega, by omega⟩⟩⟩))
    | k + 10, hf, hd, hq, _ => exact trivial
end CRD
