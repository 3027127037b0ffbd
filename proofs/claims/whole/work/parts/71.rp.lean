/-! ===== the reference's reader is pP ===== -/
section RPR
variable {t : Int → Int} {len : Int} {nu : Int → Int} {M0 : Mm}
/-- the tape that is read -/
def RB (t : Int → Int) (len : Int) (M0 : Mm) : Prop := (0 ≤ len ∧ len ≤ 60) ∧ gI M0 81 7 = len ∧ ∀ i, 0 ≤ i → i < len → gI M0 81 (1933 + i) = t i
/-- the reference's cells hold a state of the reader -/
def RX (len : Int) (M0 : Mm) (x : PS) (M : Mm) : Prop := RefOK M ∧ (∀ b : Nat, b ≠ 80 → b ≠ 94 → gI M b = gI M0 b) ∧ (∀ y, y ≠ 16 → y ≠ 17 → y ≠ 18 → y ≠ 20 → gI M 80 y = gI M0 80 y) ∧ gL M = gL M0 ∧ gI M 80 16 = x.1 ∧ gI M 80 17 = x.2.1 ∧ gI M 80 18 = (if x.2.2.1 = true then 1 else 0) ∧ gI M 80 20 = x.2.2.2.length ∧ (∀ k : Nat, k < x.2.2.2.length → gI M 94 k = x.2.2.2.getD k 0) ∧ (0 ≤ x.1 ∧ x.1 ≤ len) ∧ (0 ≤ x.2.1 ∧ x.2.1 ≤ 5)
theorem RX.at {x : PS} {M : Mm} {a : Int} (h : RX len M0 x M) (a0 : 0 ≤ a) (a1 : a ≤ len) : RX len M0 (a, x.2) (sI M 80 16 a) := by
  obtain ⟨g0, g1, g2, g3, g4, g5, g6, g7, g8, g9, g10⟩ := h
  exact ⟨g0, fun b b1 b2 => by rw [gI_ot b1]; exact g1 b b1 b2, fun y y1 y2 y3 y4 => by rw [gI_up, up_n y1]; exact g2 y y1 y2 y3 y4, g3, by rw [gI_up, up_s], by rw [gI_up, up_n (by decide)]; exact g5, by rw [gI_up, up_n (by decide)]; exact g6, by rw [gI_up, up_n (by decide)]; exact g7, fun k hk => by rw [gI_ot (by decide)]; exact g8 k hk, ⟨a0, a1⟩, g10⟩
theorem RX.op {x : PS} {M : Mm} {o : Int} (h : RX len M0 x M) (o0 : 0 ≤ o) (o1 : o ≤ 5) : RX len M0 (x.1, o, x.2.2) (sI M 80 17 o) := by
  obtain ⟨g0, g1, g2, g3, g4, g5, g6, g7, g8, g9, g10⟩ := h
  exact ⟨g0, fun b b1 b2 => by rw [gI_ot b1]; exact g1 b b1 b2, fun y y1 y2 y3 y4 => by rw [gI_up, up_n y2]; exact g2 y y1 y2 y3 y4, g3, by rw [gI_up, up_n (by decide)]; exact g4, by rw [gI_up, up_s], by rw [gI_up, up_n (by decide)]; exact g6, by rw [gI_up, up_n (by decide)]; exact g7, fun k hk => by rw [gI_ot (by decide)]; exact g8 k hk, g9, ⟨o0, o1⟩⟩
theorem RX.fl {x : PS} {M : Mm} {z : Int} (b : Bool) (h : RX len M0 x M) (hz : z = if b = true then 1 else 0) : RX len M0 (x.1, x.2.1, b, x.2.2.2) (sI M 80 18 z) := by
  obtain ⟨g0, g1, g2, g3, g4, g5, g6, g7, g8, g9, g10⟩ := h
  exact ⟨g0, fun b b1 b2 => by rw [gI_ot b1]; exact g1 b b1 b2, fun y y1 y2 y3 y4 => by rw [gI_up, up_n y3]; exact g2 y y1 y2 y3 y4, g3, by rw [gI_up, up_n (by decide)]; exact g4, by rw [gI_up, up_n (by decide)]; exact g5, by rw [gI_up, up_s]; exact hz, by rw [gI_up, up_n (by decide)]; exact g7, fun k hk => by rw [gI_ot (by decide)]; exact g8 k hk, g9, g10⟩
theorem sp_here {x : PS} {M : Mm} {Q : Mm → Option Mv → Prop} (B : RB t len M0) (h : RX len M0 x M) (hq : Q M (some (vI (pHere t len x)))) : Wq 1 0 0 mM_here 0 [iR 80] [] M Q := by
  obtain ⟨g0, g1, g2, g3, g4, g5, g6, g7, g8, g9, g10⟩ := h
  refine B_M_here_0 g0 ?_
  rw [g4, g6, g1 81 (by decide) (by decide), B.2.1]
  refine ⟨fun c => ?_, fun c => ⟨fun c2 => ?_, fun c2 => ⟨by have := B.1; omega, ?_⟩⟩⟩
  · rw [pH_no t len (fun z => c (by rw [z.1]; rfl))] at hq
    exact hq
  · rw [pH_no t len (fun z => by have := z.2; omega)] at hq
    exact hq
  · have hb : x.2.2.1 = false := by
      cases hb : x.2.2.1
      · rfl
      · rw [hb] at c
        exact absurd c (by decide)
    rw [pH_eq t len hb (by omega)] at hq
    rw [B.2.2 x.1 g9.1 (by omega)]
    exact hq
theorem sp_put {x : PS} {M : Mm} {c : Int} {Q : Mm → Option Mv → Prop} (B : RB t len M0) (h : RX len M0 x M) (hk : kk x ≤ 0) (hq : ∀ M', RX len M0 (pPut c x) M' → Q M' none) : Wq 1 0 0 mM_put1 0 [iR 80, iI c] [] M Q := by
  have h' := h
  obtain ⟨g0, g1, g2, g3, g4, g5, g6, g7, g8, g9, g10⟩ := h
  have l60 := B.1
  unfold kk at hk
  refine B_M_put1_0 g0 ?_
  rw [g6, g7]
  refine ⟨fun z => hq M ?_, fun z => ⟨by omega, hq _ ?_⟩⟩
  · have hb : x.2.2.1 = true := by
      cases hb : x.2.2.1
      · rw [hb] at z
        exact absurd rfl z
      · rfl
    unfold pPut
    rw [if_pos hb]
    exact h'
  · have hb : ¬ x.2.2.1 = true := by
      intro hb
      rw [hb] at z
      exact absurd z (by decide)
    unfold pPut
    rw [if_neg hb]
    refine ⟨g0, fun b b1 b2 => by rw [gI_ot b1, gI_ot b2]; exact g1 b b1 b2, fun y y1 y2 y3 y4 => by rw [gI_up, up_n y4, gI_ot (by decide)]; exact g2 y y1 y2 y3 y4, g3, by rw [gI_up, up_n (by decide), gI_ot (by decide)]; exact g4, by rw [gI_up, up_n (by decide), gI_ot (by decide)]; exact g5, by rw [gI_up, up_n (by decide), gI_ot (by decide)]; exact g6, by rw [gI_up, up_s]; simp, fun k hk => ?_, g9, g10⟩
    rw [gI_ot (by decide), gI_up]
    have hk : k < (x.2.2.2 ++ [c]).length := hk
    show up (gI M 94) _ c (k : Int) = (x.2.2.2 ++ [c]).getD k 0
    rw [List.length_append, List.length_singleton] at hk
    by_cases e : k = x.2.2.2.length
    · rw [e, up_s]
      simp [List.getD]
    · rw [up_n (by omega), g8 k (by omega)]
      simp [List.getD, List.getElem?_append_left (show k < x.2.2.2.length by omega)]
def fk : Nat → Int
  | 0 => 6
  | 1 => 5
  | 2 => 4
  | 3 => 3
  | 4 => 2
  | _ => 1
def dk : Nat → Int
  | 0 => 10
  | 1 => 9
  | 2 => 8
  | 3 => 7
  | 4 => 6
  | 5 => 5
  | 6 => 10
  | 7 => 9
  | 8 => 7
  | 9 => 6
  | _ => 5
theorem fk_1 (k : Nat) : 1 ≤ fk k := by
  unfold fk
  split <;> omega
theorem dk_5 (k : Nat) : 5 ≤ dk k := by
  unfold dk
  split <;> omega
/-- the reference's methods, by what they read -/
def SM (t : Int → Int) (len : Int) (k d : Nat) (x : PS) (M : Mm) (Q : Mm → Option Mv → Prop) : Prop := match k with
  | 0 => Wq (d + 3) 0 0 mM_either 0 [iR 80] [] M Q
  | 1 => Wq (d + 3) 0 0 mM_both 0 [iR 80] [] M Q
  | 2 => Wq (d + 3) 0 0 mM_test 0 [iR 80, none] [] M Q
  | 3 => Wq (d + 3) 0 0 mM_sum 0 [iR 80, none] [] M Q
  | 4 => Wq (d + 3) 0 0 mM_product 0 [iR 80, none] [] M Q
  | 5 => Wq (d + 3) 0 0 mM_part 0 [iR 80, none, none, none] [] M Q
  | 6 => Wq (d + 3) 0 0 mM_either 4 [iR 80] [] M Q
  | 7 => Wq (d + 3) 0 0 mM_both 4 [iR 80] [] M Q
  | 8 => Wq (d + 3) 0 0 mM_sum 9 [iR 80, iI (pHere t len x)] [] M Q
  | 9 => Wq (d + 3) 0 0 mM_product 9 [iR 80, iI (pHere t len x)] [] M Q
  | _ => True
theorem sp_nameM {c : Int} {M : Mm} {Q : Mm → Option Mv → Prop} (hq : Q M (some (vI (nameF c)))) : Wq 1 0 0 mM_nameOf 0 [iI c] [] M Q := by
  refine B_M_nameOf_0 ⟨fun z => ?_, fun z => ?_, fun z => ?_, fun z => ?_, fun z => ?_, fun z => ?_, fun z => ?_⟩
  · rw [z] at hq; exact hq
  · rw [z] at hq; exact hq
  · rw [z] at hq; exact hq
  · rw [z] at hq; exact hq
  · rw [z] at hq; exact hq
  · rw [z] at hq; exact hq
  · unfold nameF at hq
    rw [if_neg z.1, if_neg z.2.1, if_neg z.2.2.2.1, if_neg z.2.2.2.2.1, if_neg z.2.2.2.2.2, if_neg z.2.2.1] at hq
    exact hq
theorem nameF_b (c : Int) : nameF c < 0 ∨ (0 ≤ nameF c ∧ nameF c ≤ 5) := by
  unfold nameF
  repeat' split
  all_goals omega
theorem rdM (B : RB t len M0) : ∀ (f k d : Nat) (x : PS) (v : Int) (M : Mm) (Q : Mm → Option Mv → Prop), RX len M0 x M → kk x ≤ 0 → 12 * (len - x.1) + fk k ≤ f → dk k + 8 * (5 - x.2.1) ≤ d + 3 → (∀ M', RX len M0 (pP t len nu f k (x, v)).1 M' → Q M' none) → SM t len k d x M Q := by
  have l60 := B.1
  intro f
  induction f with
  | zero =>
    intro k d x v M Q h hk hf
    have := fk_1 k
    have := h.2.2.2.2.2.2.2.2.2.1
    omega
  | succ f ih =>
    intro k d x v M Q h hk hf hd hq
    have hx := h.2.2.2.2.2.2.2.2.2.1
    have ho := h.2.2.2.2.2.2.2.2.2.2
    have ha := h.2.2.2.2.1
    have dk5 := dk_5 k
    obtain ⟨d, rfl⟩ : ∃ d', d = d' + 1 := ⟨d - 1, by omega⟩
    -- a run of a lesser part
    have go : ∀ (j : Nat) (y : PS) (w : Int) (M1 : Mm) (Q1 : Mm → Option Mv → Prop), RX len M0 y M1 → kk y ≤ 0 → y.2.1 = x.2.1 → x.1 ≤ y.1 → 12 * (len - y.1) + fk j ≤ f → dk j + 8 * (5 - x.2.1) ≤ d + 3 → (∀ M', RX len M0 (pP t len nu f j (y, w)).1 M' → kk (pP t len nu f j (y, w)).1 ≤ kk y → y.1 ≤ (pP t len nu f j (y, w)).1.1 → (pP t len nu f j (y, w)).1.2.1 = x.2.1 → Q1 M' none) → SM t len j d y M1 Q1 := by
      intro j y w M1 Q1 hy ky oy ay fy dy qy
      have m := pP_m t len nu f j (y, w)
      exact ih j d y w M1 Q1 hy ky fy (by rw [oy]; exact dy) (fun M' h' => qy M' h' (pP_k t len nu f j (y, w)) m.1 (m.2.trans oy))
    have lp : ∀ (j : Nat) (y : PS) (w : Int) (M1 : Mm), RX len M0 y M1 → kk y ≤ 0 → y.2.1 = x.2.1 → 12 * (len - y.1) + fk j ≤ f → dk j + 8 * (5 - x.2.1) ≤ d + 1 + 3 → (∀ M', RX len M0 (pP t len nu f j (y, w)).1 M' → Q M' none) → SM t len j (d + 1) y M1 Q := by
      intro j y w M1 hy ky oy fy dy qy
      exact ih j (d + 1) y w M1 Q hy ky fy (by rw [oy]; exact dy) qy
    match k, hf, hd, hq, dk5 with
    | 0, hf, hd, hq, _ =>
      simp only [fk] at hf
      simp only [dk] at hd
      unfold pP at hq
      refine B_M_either_0 (go 1 x v M _ h hk rfl (Int.le_refl _) (by simp only [fk]; omega) (by simp only [dk]; omega) (fun M1 h1 k1 a1 o1 => ?_))
      exact lp 6 _ (pP t len nu f 1 (x, v)).2 M1 h1 (by omega) o1 (by simp only [fk]; omega) (by simp only [dk]; omega) hq
    | 1, hf, hd, hq, _ =>
      simp only [fk] at hf
      simp only [dk] at hd
      unfold pP at hq
      refine B_M_both_0 (go 2 x v M _ h hk rfl (Int.le_refl _) (by simp only [fk]; omega) (by simp only [dk]; omega) (fun M1 h1 k1 a1 o1 => ?_))
      exact lp 7 _ (pP t len nu f 2 (x, v)).2 M1 h1 (by omega) o1 (by simp only [fk]; omega) (by simp only [dk]; omega) hq
    | 2, hf, hd, hq, _ =>
      simp only [fk] at hf
      simp only [dk] at hd
      unfold pP at hq
      dsimp only at hq
      refine B_M_test_0 (go 3 x v M _ h hk rfl (Int.le_refl _) (by simp only [fk]; omega) (by simp only [dk]; omega) (fun M1 h1 k1 a1 o1 => ?_))
      generalize hr : (pP t len nu f 3 (x, v)) = r at h1 k1 a1 o1 hq
      refine B_M_test_4 (sp_here B h1 ?_)
      have sec : ∀ c, (c = 60 ∨ c = 61 ∨ c = 62) → pHere t len r.1 = c → (-2147483648 ≤ gI M1 80 16 + 1 ∧ gI M1 80 16 + 1 < 2147483648) ∧ Wq (d + 1 + 2) 0 0 mM_sum 0 [iR 80, none] [] (sI M1 80 16 (gI M1 80 16 + 1)) (fun M' v => Wq (d + 1 + 3) 0 0 mM_test 41 [iR 80, iI c] (v.toList ++ []) M' Q) := by
        intro c hc e
        have hin := pH_in t len (s := r.1) (by omega)
        have b1 := h1.2.2.2.2.2.2.2.2.2.1
        rw [h1.2.2.2.2.1]
        refine ⟨by omega, ?_⟩
        have kq : kk (pAdv r.1) = kk r.1 - 1 := kk_adv r.1
        refine go 3 (pAdv r.1) 0 _ _ (h1.at (by omega) (by omega)) (by omega) o1 (by show x.1 ≤ r.1.1 + 1; omega) (by show 12 * (len - (r.1.1 + 1)) + 3 ≤ _; omega) (by simp only [dk]; omega) (fun M2 h2 k2 a2 o2 => ?_)
        rw [if_pos (by omega), e] at hq
        refine B_M_test_41 ⟨fun z => ⟨fun y => ?_, fun y => ?_⟩, fun z => ?_⟩
        · rw [if_neg z, if_neg y] at hq
          exact sp_put B h2 (by omega) (fun M3 h3 => B_M_test_72 (hq M3 h3))
        · rw [if_neg z, if_pos y] at hq
          exact sp_put B h2 (by omega) (fun M3 h3 => B_M_test_72 (hq M3 h3))
        · rw [if_pos z] at hq
          exact sp_put B h2 (by omega) (fun M3 h3 => B_M_test_72 (hq M3 h3))
      refine B_M_test_8 ⟨fun c => ?_, fun c => ⟨fun c2 => ?_, fun c2 => ⟨fun c3 => ?_, fun c3 => ?_⟩⟩⟩
      · have := sec 60 (by omega) c
        rw [c]
        exact this
      · have := sec 61 (by omega) c2
        rw [c2]
        exact this
      · rw [if_neg (by omega)] at hq
        exact hq M1 h1
      · have := sec 62 (by omega) c3
        rw [c3]
        exact this
    | 3, hf, hd, hq, _ =>
      simp only [fk] at hf
      simp only [dk] at hd
      unfold pP at hq
      refine B_M_sum_0 (go 4 x v M _ h hk rfl (Int.le_refl _) (by simp only [fk]; omega) (by simp only [dk]; omega) (fun M1 h1 k1 a1 o1 => ?_))
      refine B_M_sum_4 (sp_here B h1 (B_M_sum_8 ?_))
      exact lp 8 _ (pP t len nu f 4 (x, v)).2 M1 h1 (by omega) o1 (by simp only [fk]; omega) (by simp only [dk]; omega) hq
    | 4, hf, hd, hq, _ =>
      simp only [fk] at hf
      simp only [dk] at hd
      unfold pP at hq
      refine B_M_product_0 (go 5 x v M _ h hk rfl (Int.le_refl _) (by simp only [fk]; omega) (by simp only [dk]; omega) (fun M1 h1 k1 a1 o1 => ?_))
      refine B_M_product_4 (sp_here B h1 (B_M_product_8 ?_))
      exact lp 9 _ (pP t len nu f 5 (x, v)).2 M1 h1 (by omega) o1 (by simp only [fk]; omega) (by simp only [dk]; omega) hq
    | 6, hf, hd, hq, _ =>
      simp only [fk] at hf
      simp only [dk] at hd
      unfold pP at hq
      refine B_M_either_4 (sp_here B h (B_M_either_8 ⟨fun c => ?_, fun c => ?_⟩))
      · rw [if_neg c] at hq
        exact hq M h
      · have hin := pH_in t len (s := x) (by omega)
        have kq : kk (pAdv x) = kk x - 1 := kk_adv x
        rw [if_pos c] at hq
        rw [ha]
        refine ⟨by omega, go 1 (pAdv x) 0 _ _ (h.at (by omega) (by omega)) (by omega) rfl (by show x.1 ≤ x.1 + 1; omega) (by show 12 * (len - (x.1 + 1)) + 5 ≤ _; omega) (by simp only [dk]; omega) (fun M2 h2 k2 a2 o2 => ?_)⟩
        have a2 : x.1 + 1 ≤ (pP t len nu f 1 (pAdv x, 0)).1.1 := a2
        refine B_M_either_27 (sp_put B h2 (by omega) (fun M3 h3 => B_M_either_34 ?_))
        have kp := kk_put 20000 (pP t len nu f 1 (pAdv x, 0)).1
        have gp := (Gt.rf (pP t len nu f 1 (pAdv x, 0)).1).put 20000
        exact lp 6 _ _ M3 h3 (by omega) (gp.2.trans o2) (by have := gp.1; simp only [fk]; omega) (by simp only [dk]; omega) hq
    | 7, hf, hd, hq, _ =>
      simp only [fk] at hf
      simp only [dk] at hd
      unfold pP at hq
      refine B_M_both_4 (sp_here B h (B_M_both_8 ⟨fun c => ?_, fun c => ?_⟩))
      · rw [if_neg c] at hq
        exact hq M h
      · have hin := pH_in t len (s := x) (by omega)
        have kq : kk (pAdv x) = kk x - 1 := kk_adv x
        rw [if_pos c] at hq
        rw [ha]
        refine ⟨by omega, go 2 (pAdv x) 0 _ _ (h.at (by omega) (by omega)) (by omega) rfl (by show x.1 ≤ x.1 + 1; omega) (by show 12 * (len - (x.1 + 1)) + 4 ≤ _; omega) (by simp only [dk]; omega) (fun M2 h2 k2 a2 o2 => ?_)⟩
        have a2 : x.1 + 1 ≤ (pP t len nu f 2 (pAdv x, 0)).1.1 := a2
        refine B_M_both_27 (sp_put B h2 (by omega) (fun M3 h3 => B_M_both_34 ?_))
        have kp := kk_put 20001 (pP t len nu f 2 (pAdv x, 0)).1
        have gp := (Gt.rf (pP t len nu f 2 (pAdv x, 0)).1).put 20001
        exact lp 7 _ _ M3 h3 (by omega) (gp.2.trans o2) (by have := gp.1; simp only [fk]; omega) (by simp only [dk]; omega) hq
    | 8, hf, hd, hq, _ =>
      simp only [fk] at hf
      simp only [dk] at hd
      unfold pP at hq
      dsimp only at hq
      have sec : ∀ c, (c = 43 ∨ c = 45) → pHere t len x = c → (-2147483648 ≤ gI M 80 16 + 1 ∧ gI M 80 16 + 1 < 2147483648) ∧ Wq (d + 1 + 2) 0 0 mM_product 0 [iR 80, none] [] (sI M 80 16 (gI M 80 16 + 1)) (fun M' v => Wq (d + 1 + 3) 0 0 mM_sum 35 [iR 80, iI c] (v.toList ++ []) M' Q) := by
        intro c hc e
        have hin := pH_in t len (s := x) (by omega)
        have kq : kk (pAdv x) = kk x - 1 := kk_adv x
        rw [if_pos (by omega), e] at hq
        rw [ha]
        refine ⟨by omega, go 4 (pAdv x) 0 _ _ (h.at (by omega) (by omega)) (by omega) rfl (by show x.1 ≤ x.1 + 1; omega) (by show 12 * (len - (x.1 + 1)) + 2 ≤ _; omega) (by simp only [dk]; omega) (fun M2 h2 k2 a2 o2 => ?_)⟩
        have a2 : x.1 + 1 ≤ (pP t len nu f 4 (pAdv x, 0)).1.1 := a2
        have fin : ∀ (w : Int) (M3 : Mm), RX len M0 (pPut w (pP t len nu f 4 (pAdv x, 0)).1) M3 → (if c = 43 then 20005 else 20006) = w → Wq (d + 1 + 3) 0 0 mM_sum 54 [iR 80, iI c] [] M3 Q := fun w M3 h3 ew => by
          rw [ew] at hq
          refine B_M_sum_54 (sp_here B h3 (B_M_sum_58 ?_))
          have kp := kk_put w (pP t len nu f 4 (pAdv x, 0)).1
          have gp := (Gt.rf (pP t len nu f 4 (pAdv x, 0)).1).put w
          exact lp 8 _ _ M3 h3 (by omega) (gp.2.trans o2) (by have := gp.1; simp only [fk]; omega) (by simp only [dk]; omega) hq
        exact B_M_sum_35 ⟨fun z => sp_put B h2 (by omega) (fun M3 h3 => fin _ M3 h3 (if_neg z)), fun z => sp_put B h2 (by omega) (fun M3 h3 => fin _ M3 h3 (if_pos z))⟩
      refine B_M_sum_9 ⟨fun c => ?_, fun c => ⟨fun c2 => ?_, fun c2 => ?_⟩⟩
      · have := sec 43 (by omega) c
        rw [c]
        exact this
      · rw [if_neg (by omega)] at hq
        exact hq M h
      · have := sec 45 (by omega) c2
        rw [c2]
        exact this
    | 9, hf, hd, hq, _ =>
      simp only [fk] at hf
      simp only [dk] at hd
      unfold pP at hq
      dsimp only at hq
      have sec : ∀ c, (c = 42 ∨ c = 47) → pHere t len x = c → (-2147483648 ≤ gI M 80 16 + 1 ∧ gI M 80 16 + 1 < 2147483648) ∧ Wq (d + 1 + 2) 0 0 mM_part 0 [iR 80, none, none, none] [] (sI M 80 16 (gI M 80 16 + 1)) (fun M' v => Wq (d + 1 + 3) 0 0 mM_product 35 [iR 80, iI c] (v.toList ++ []) M' Q) := by
        intro c hc e
        have hin := pH_in t len (s := x) (by omega)
        have kq : kk (pAdv x) = kk x - 1 := kk_adv x
        rw [if_pos (by omega), e] at hq
        rw [ha]
        refine ⟨by omega, go 5 (pAdv x) 0 _ _ (h.at (by omega) (by omega)) (by omega) rfl (by show x.1 ≤ x.1 + 1; omega) (by show 12 * (len - (x.1 + 1)) + 1 ≤ _; omega) (by simp only [dk]; omega) (fun M2 h2 k2 a2 o2 => ?_)⟩
        have a2 : x.1 + 1 ≤ (pP t len nu f 5 (pAdv x, 0)).1.1 := a2
        have fin : ∀ (w : Int) (M3 : Mm), RX len M0 (pPut w (pP t len nu f 5 (pAdv x, 0)).1) M3 → (if c = 42 then 20007 else 20008) = w → Wq (d + 1 + 3) 0 0 mM_product 54 [iR 80, iI c] [] M3 Q := fun w M3 h3 ew => by
          rw [ew] at hq
          refine B_M_product_54 (sp_here B h3 (B_M_product_58 ?_))
          have kp := kk_put w (pP t len nu f 5 (pAdv x, 0)).1
          have gp := (Gt.rf (pP t len nu f 5 (pAdv x, 0)).1).put w
          exact lp 9 _ _ M3 h3 (by omega) (gp.2.trans o2) (by have := gp.1; simp only [fk]; omega) (by simp only [dk]; omega) hq
        exact B_M_product_35 ⟨fun z => sp_put B h2 (by omega) (fun M3 h3 => fin _ M3 h3 (if_neg z)), fun z => sp_put B h2 (by omega) (fun M3 h3 => fin _ M3 h3 (if_pos z))⟩
      refine B_M_product_9 ⟨fun c => ?_, fun c => ⟨fun c2 => ?_, fun c2 => ?_⟩⟩
      · have := sec 42 (by omega) c
        rw [c]
        exact this
      · rw [if_neg (by omega)] at hq
        exact hq M h
      · have := sec 47 (by omega) c2
        rw [c2]
        exact this
    | 5, hf, hd, hq, _ =>
      simp only [fk] at hf
      simp only [dk] at hd
      unfold pP at hq
      dsimp only at hq
      -- not at fault
      have nf : pHere t len x ≠ -1 → gI M 80 18 = 0 := fun z => by
        rw [h.2.2.2.2.2.2.1, (pH_in t len z).1]
        rfl
      -- what opens
      have opn : ∀ (Q1 : Mm → Option Mv → Prop), pHere t len x ≠ -1 → (x.2.1 = 5 → ∀ M1, RX len M0 (pFlt x) M1 → Q1 M1 (some (vI 0))) → (x.2.1 ≠ 5 → ∀ M1, RX len M0 (pAdv (pOp 1 x)) M1 → Q1 M1 (some (vI 1))) → Wq 1 0 0 mM_opens 0 [iR 80] [] M Q1 := by
        intro Q1 z q5 qn
        have hin := pH_in t len z
        have oo := h.2.2.2.2.2.1
        refine B_M_opens_0 ⟨fun y => absurd (nf z) y, fun _ => ⟨fun y => ?_, fun y => ?_⟩⟩
        · rw [oo] at y
          rw [oo, ha]
          have := ((h.fl false (z := 0) rfl).op (o := x.2.1 + 1) (by omega) (by omega)).at (a := x.1 + 1) (by omega) (by omega)
          refine ⟨by omega, qn y _ ?_⟩
          show RX len M0 (x.1 + 1, x.2.1 + 1, x.2.2.1, x.2.2.2) _
          rw [hin.1]
          exact this
        · rw [oo] at y
          exact q5 y _ (h.fl true rfl)
      have cls : ∀ (r : PS) (M1 : Mm), RX len M0 r M1 → r.2.1 = x.2.1 + 1 → (-2147483648 ≤ gI M1 80 17 - 1 ∧ gI M1 80 17 - 1 < 2147483648) ∧ RX len M0 (pOp (-1) r) (sI M1 80 17 (gI M1 80 17 - 1)) := by
        intro r M1 h1 e
        have oo := h1.2.2.2.2.2.1
        have := h1.op (o := r.2.1 + -1) (by omega) (by omega)
        rw [oo]
        exact ⟨by omega, this⟩
      have kq : kk (pAdv (pOp 1 x)) = kk x - 1 := by rw [kk_adv, kk_op]
      refine B_M_part_0 (sp_here B h (B_M_part_4 ⟨fun c1 => ⟨fun c2 => ⟨fun c3 => ?_, fun c3 => ?_⟩, fun c2 => ?_⟩, fun c1 => ?_⟩))
      · -- digits
        rw [if_neg c1, if_neg c2, if_pos c3] at hq
        generalize hR : pNum t len 4 0 x = R at hq
        have num : ∀ (j : Nat) (w : Int) (y : PS) (M1 : Mm), j ≤ 4 → RX len M0 y M1 → kk y ≤ 0 → (0 ≤ w ∧ w < 10 ^ (4 - j)) → R = pNum t len j w y → Wq (d + 1 + 3) 0 0 mM_part 132 [iR 80, iI (pHere t len x), iI w, iI (4 - (j : Int))] [] M1 Q := by
          intro j
          induction j with
          | zero =>
            intro w y M1 _ hy ky hw e
            rw [e] at hq
            refine B_M_part_132 ⟨fun _ => sp_put B hy ky (fun M2 h2 => B_M_part_188 (hq M2 h2)), fun z => by omega⟩
          | succ j ihj =>
            intro w y M1 hj hy ky hw e
            have w4 : w < 1000 := by
              have : (10 : Int) ^ (4 - (j + 1)) ≤ 1000 := by
                have : j = 0 ∨ j = 1 ∨ j = 2 ∨ j = 3 := by omega
                rcases this with z | z | z | z <;> subst z <;> decide
              omega
            unfold pNum at e
            refine B_M_part_132 ⟨fun z => by omega, fun _ => sp_here B hy (B_M_part_141 ⟨fun z => sp_here B hy ?_, fun z => ?_⟩)⟩
            · rw [if_pos z] at e
              have hin := pH_in t len (s := y) (by omega)
              have yb := hy.2.2.2.2.2.2.2.2.2.1
              rw [wr_eq (by omega) (by omega)]
              refine B_M_part_162 ?_
              rw [hy.2.2.2.2.1]
              refine ⟨⟨by omega, by omega, by omega⟩, ?_⟩
              have r := ihj (10 * w + pHere t len y - 48) (pAdv y) _ (by omega) (hy.at (a := y.1 + 1) (by omega) (by omega)) (by rw [kk_adv]; omega) ⟨by omega, ?_⟩ e
              · rw [show (4 : Int) - ((j + 1 : Nat) : Int) + 1 = 4 - (j : Int) by omega]
                exact r
              · have : (10 : Int) ^ (4 - j) = 10 * 10 ^ (4 - (j + 1)) := by
                  rw [show 4 - j = (4 - (j + 1)) + 1 by omega, Int.pow_succ, Int.mul_comm]
                omega
            · rw [if_neg z] at e
              rw [e] at hq
              exact sp_put B hy ky (fun M2 h2 => B_M_part_188 (hq M2 h2))
        exact num 4 0 x M (by omega) h hk (by decide) hR.symm
      · -- names
        rw [if_neg c1, if_neg c2, if_neg c3] at hq
        refine sp_nameM (B_M_part_193 ⟨fun z => ?_, fun z => ⟨fun y => ?_, fun y => ?_⟩⟩)
        · have e : pHere t len x = -1 := Classical.byContradiction fun q => z (nf q)
          rw [if_pos (by rw [e]; decide)] at hq
          exact hq _ (h.fl true rfl)
        · have nb := nameF_b (pHere t len x)
          have hne : pHere t len x ≠ -1 := fun q => by rw [q] at y; exact absurd y (by decide)
          have hin := pH_in t len hne
          rw [if_neg (by omega)] at hq
          have h1 : RX len M0 x (sI M 80 18 0) := by
            have := h.fl false (z := 0) rfl
            have e : ((x.1, x.2.1, false, x.2.2.2) : PS) = x := by
              rw [← hin.1]
            rw [e] at this
            exact this
          refine ⟨by omega, sp_put B h1 hk (fun M2 h2 => B_M_part_230 ?_)⟩
          have gp := (Gt.rf x).put (10000 + nameF (pHere t len x))
          have e1 : (pPut (10000 + nameF (pHere t len x)) x).1 = x.1 := by
            unfold pPut
            split <;> rfl
          rw [h2.2.2.2.2.1]
          refine ⟨by omega, hq _ (h2.at (by omega) (by omega))⟩
        · rw [if_pos (by omega)] at hq
          exact hq _ (h.fl true rfl)
      · -- a bracket
        rw [if_neg c1, if_pos c2] at hq
        refine opn _ (by omega) (fun e5 M1 h1 => ?_) (fun e5 M1 h1 => ?_)
        · rw [if_pos e5] at hq
          exact B_M_part_50 ⟨fun _ => hq M1 h1, fun z => by omega⟩
        · rw [if_neg e5] at hq
          have hin := pH_in t len (s := x) (by omega)
          refine B_M_part_50 ⟨fun z => by omega, fun _ => ?_⟩
          refine ih 0 d (pAdv (pOp 1 x)) 0 M1 _ h1 (by omega) (by show 12 * (len - (x.1 + 1)) + 6 ≤ _; omega) (by show 10 + 8 * (5 - (x.2.1 + 1)) ≤ _; omega) (fun M2 h2 => ?_)
          have m := pP_m t len nu f 0 (pAdv (pOp 1 x), 0)
          have k2 := pP_k t len nu f 0 (pAdv (pOp 1 x), 0)
          generalize hr : pP t len nu f 0 (pAdv (pOp 1 x), 0) = r at m k2 h2 hq
          have mo : r.1.2.1 = x.2.1 + 1 := m.2
          obtain ⟨cr, h3⟩ := cls r.1 M2 h2 mo
          have a2 := h2.2.2.2.2.1
          have b2 := h2.2.2.2.2.2.2.2.2.2.1
          have f2 := h2.2.2.2.2.2.2.1
          refine B_M_part_57 ⟨cr, fun z => ?_, fun z => ?_⟩
          · rw [pH_no t len (s := pOp (-1) r.1) (fun q => by
              have q1 : r.1.2.2.1 = false := q.1
              rw [f2, q1] at z
              exact z rfl), if_neg (by decide)] at hq
            refine ⟨by omega, hq _ ?_⟩
            have := (h3.fl true (z := 1) rfl).at (a := r.1.1) b2.1 b2.2
            rw [a2]
            exact this
          · refine sp_here B h3 (B_M_part_79 ?_)
            have a3 := h3.2.2.2.2.1
            have a3 : gI (sI M2 80 17 (gI M2 80 17 - 1)) 80 16 = r.1.1 := a3
            rw [a3]
            refine ⟨fun y => ?_, fun y => ?_⟩
            · have hin2 := pH_in t len (s := pOp (-1) r.1) (by omega)
              have hin2a : r.1.1 < len := hin2.2
              rw [if_pos y] at hq
              refine ⟨by omega, hq _ ?_⟩
              have := (h3.fl false (z := 0) rfl).at (a := r.1.1 + 1) (by omega) (by omega)
              show RX len M0 (r.1.1 + 1, r.1.2.1 + -1, r.1.2.2.1, r.1.2.2.2) _
              rw [show r.1.2.2.1 = false from hin2.1]
              exact this
            · rw [if_neg y] at hq
              refine ⟨by omega, hq _ ?_⟩
              exact (h3.fl true (z := 1) rfl).at (a := r.1.1) b2.1 b2.2
      · -- not
        rw [if_pos c1] at hq
        refine opn _ (by omega) (fun e5 M1 h1 => ?_) (fun e5 M1 h1 => ?_)
        · rw [if_pos e5] at hq
          exact B_M_part_15 ⟨fun _ => hq M1 h1, fun z => by omega⟩
        · rw [if_neg e5] at hq
          have hin := pH_in t len (s := x) (by omega)
          refine B_M_part_15 ⟨fun z => by omega, fun _ => ?_⟩
          refine ih 5 d (pAdv (pOp 1 x)) 0 M1 _ h1 (by omega) (by show 12 * (len - (x.1 + 1)) + 1 ≤ _; omega) (by show 5 + 8 * (5 - (x.2.1 + 1)) ≤ _; omega) (fun M2 h2 => ?_)
          have m := pP_m t len nu f 5 (pAdv (pOp 1 x), 0)
          have k2 := pP_k t len nu f 5 (pAdv (pOp 1 x), 0)
          generalize hr : pP t len nu f 5 (pAdv (pOp 1 x), 0) = r at m k2 h2 hq
          have mo : r.1.2.1 = x.2.1 + 1 := m.2
          have k2 : kk r.1 ≤ kk (pAdv (pOp 1 x)) := k2
          obtain ⟨cr, h3⟩ := cls r.1 M2 h2 mo
          exact B_M_part_22 ⟨cr, sp_put B h3 (by rw [kk_op]; omega) (fun M3 h4 => B_M_part_39 (hq M3 h4))⟩
    | k + 10, hf, hd, hq, _ => exact trivial
end RPR
