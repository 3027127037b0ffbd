/-! ===== the objects are made ===== -/
section CON
variable {M : Mm} {Q : Mm → Option Mv → Prop}
def PR (L : List (Nat × Int × Nat)) (M : Mm) : Prop := ∀ q ∈ L, gR M q.1 q.2.1 = some q.2.2
theorem PR.w {L : List (Nat × Int × Nat)} {a b : Nat} {j : Int} (h : PR L M) (hd : ∀ q ∈ L, ¬ (q.1 = a ∧ q.2.1 = j)) : PR ((a, j, b) :: L) (sR M a j (some b)) := by
  intro q hq
  show (if q.1 = a ∧ q.2.1 = j then some b else gR M q.1 q.2.1) = some q.2.2
  rcases List.mem_cons.mp hq with z | z
  · rw [z, if_pos ⟨rfl, rfl⟩]
  · rw [if_neg (hd q z)]
    exact h q z
theorem PR.fr {L : List (Nat × Int × Nat)} {t : Nat} {M' : Mm} (h : PR L M) (f : ∀ b j, b < t → gR M' b j = gR M b j) (hd : ∀ q ∈ L, q.1 < t) : PR L M' := fun q hq => (f q.1 q.2.1 (hd q hq)).trans (h q hq)
theorem PR.ap {L L' : List (Nat × Int × Nat)} (h : PR L M) (g : PR L' M) : PR (L ++ L') M := fun q hq => (List.mem_append.mp hq).elim (h q) (g q)
def Kc (t N : Nat) (M M' : Mm) : Prop := nx M' = N ∧ (∀ b i, gI M' b i = gI M b i) ∧ gL M' = gL M ∧ ∀ b j, b < t → gR M' b j = gR M b j
/-- 'now' at first -/
def n00 : Int → Int := fun i => if i = 1 then 31 else 0
def YR (a b c : Nat) (M : Mm) : Prop := gR M a 0 = some b ∧ gR M a 1 = some c
theorem sp_Y_isWet_c2 {d : Int} (hS : YR 2 3 4 M) (h0 : 0 ≤ d) (h1 : d < 900) (hq : Q M (some (vI (if wb (gL M 3) d = true then 1 else 0)))) : Wq 1 0 0 mY_isWet 0 [iR 2, iI d] [] M Q := by
  refine B_Y_isWet_c2_0 hS.1 ?_
  rw [d_row h0 (by omega), d_bit h0 (by omega)]
  obtain ⟨e, he⟩ : ∃ e : Nat, d % 64 = e := ⟨(d % 64).toNat, by omega⟩
  unfold wb at hq
  rw [he] at hq ⊢
  rw [wb_rd (by omega)]
  rw [show ((e : Int).toNat) = e from rfl] at hq
  refine ⟨by omega, ?_⟩
  by_cases q : (Int64.ofInt (gL M 3 (d / 64))).toBitVec.getLsbD e = true
  · rw [if_pos q] at hq ⊢
    exact ⟨fun c => absurd c (by decide), fun _ => hq⟩
  · rw [if_neg q] at hq ⊢
    exact ⟨fun _ => hq, fun c => absurd (by decide) c⟩
theorem sp_Y_countDry_c2 {n : Int → Int} {x : Nat} (hS : YR 2 3 4 M) (hx : x ≤ 900) (w1 : 1 ≤ n 1 ∧ n 1 ≤ 127) (hk : gI M 2 3 = n 1) (hwet : ∀ d, 0 ≤ d → d < 900 → (wb (gL M 3) d = true ↔ n (1033 + d) = 1)) (hd : ∀ d : Nat, d ≤ x → gI M 4 d = dcn n d) (hq : ∀ M', YR 2 3 4 M' → (∀ b : Nat, b ≠ 4 → gI M' b = gI M b) → (gL M' = gL M ∧ (∀ b j, gR M' b j = gR M b j) ∧ nx M' = nx M) → (∀ d : Nat, d ≤ 900 → gI M' 4 d = dcn n d) → Q M' none) : Wq 2 0 0 mY_countDry 0 [iR 2, iI x, none] [] M Q := by
  refine B_Y_countDry_c2_0 ?_
  have db : ∀ k : Nat, 0 ≤ dcn n k ∧ dcn n k ≤ k := by
    intro k
    induction k with
    | zero => exact ⟨Int.le_refl _, Int.le_refl _⟩
    | succ k ih =>
      unfold dcn
      split <;> omega
  have key : ∀ (f : Nat) (j : Nat) (M' : Mm), j ≤ 900 → 900 - j = f → YR 2 3 4 M' → (∀ b : Nat, b ≠ 4 → gI M' b = gI M b) → (gL M' = gL M ∧ (∀ b j, gR M' b j = gR M b j) ∧ nx M' = nx M) → (∀ d : Nat, d ≤ j → gI M' 4 d = dcn n d) → Wq 2 0 0 mY_countDry 2 [iR 2, iI x, iI j] [] M' Q := by
    intro f
    induction f with
    | zero =>
      intro j M' hj hf g0 g1 g2 g3
      refine B_Y_countDry_c2_2 g0.2 ⟨fun c => ?_, fun c => by omega⟩
      have : j = 900 := by omega
      subst this
      exact hq M' g0 g1 g2 g3
    | succ f ih =>
      intro j M' hj hf g0 g1 g2 g3
      have dj := db j
      have fin : ∀ v : Int, v = dcn n (j + 1) → Wq 2 0 0 mY_countDry 2 [iR 2, iI x, iI ((j : Int) + 1)] [] (sI M' 4 ((j : Int) + 1) v) Q := by
        intro v hv
        have ih := ih (j + 1) (sI M' 4 ((j : Int) + 1) v) (by omega) (by omega) g0 (fun b hb => by rw [gI_ot hb]; exact g1 b hb) g2 (fun d hd => by
          rw [gI_up]
          by_cases c : d = j + 1
          · subst c
            rw [show (((j + 1 : Nat) : Int)) = (j : Int) + 1 by omega, up_s]
            exact hv
          · rw [up_n (by omega)]
            exact g3 d (by omega))
        rw [show (((j + 1 : Nat) : Int)) = (j : Int) + 1 by omega] at ih
        exact ih
      refine B_Y_countDry_c2_2 g0.2 ⟨fun c => by omega, fun c => ?_⟩
      rw [g1 2 (by decide), hk, g3 j (Nat.le_refl _), Int.tmod_eq_emod_of_nonneg (show (0 : Int) ≤ (j : Int) by omega)]
      refine ⟨by omega, fun c2 => ?_, fun c2 => ⟨by omega, fin _ ?_⟩⟩
      · refine sp_Y_isWet_c2 g0 (by omega) (by omega) ?_
        rw [g2.1, wr_eq (by omega) (by omega)]
        have hw := hwet j (by omega) (by omega)
        refine B_Y_countDry_c2_41 ?_
        by_cases q : wb (gL M 3) j = true
        · rw [if_pos q]
          refine ⟨fun _ => ⟨by omega, fin _ ?_⟩, fun z => absurd z (by decide)⟩
          rw [show dcn n (j + 1) = dcn n j + (if wkd n j = true ∧ n (1033 + (j : Int)) ≠ 1 then 1 else 0) from rfl, if_neg (fun z => z.2 (hw.mp q))]
          omega
        · rw [if_neg q]
          refine ⟨fun z => absurd rfl z, fun _ => ⟨by omega, fin _ ?_⟩⟩
          rw [show dcn n (j + 1) = dcn n j + (if wkd n j = true ∧ n (1033 + (j : Int)) ≠ 1 then 1 else 0) from rfl, if_pos ⟨c2, fun z => q (hw.mpr z)⟩]
      · rw [show dcn n (j + 1) = dcn n j + (if wkd n j = true ∧ n (1033 + (j : Int)) ≠ 1 then 1 else 0) from rfl, if_neg (fun z => c2 z.1)]
        omega
  exact key _ x M hx rfl hS (fun _ _ => rfl) ⟨rfl, fun _ _ => rfl, rfl⟩ hd
/-! week -/
theorem sp_Y_isWet_c31 {d : Int} (hS : YR 31 32 33 M) (h0 : 0 ≤ d) (h1 : d < 900) (hq : Q M (some (vI (if wb (gL M 32) d = true then 1 else 0)))) : Wq 1 0 0 mY_isWet 0 [iR 31, iI d] [] M Q := by
  refine B_Y_isWet_c31_0 hS.1 ?_
  rw [d_row h0 (by omega), d_bit h0 (by omega)]
  obtain ⟨e, he⟩ : ∃ e : Nat, d % 64 = e := ⟨(d % 64).toNat, by omega⟩
  unfold wb at hq
  rw [he] at hq ⊢
  rw [wb_rd (by omega)]
  rw [show ((e : Int).toNat) = e from rfl] at hq
  refine ⟨by omega, ?_⟩
  by_cases q : (Int64.ofInt (gL M 32 (d / 64))).toBitVec.getLsbD e = true
  · rw [if_pos q] at hq ⊢
    exact ⟨fun c => absurd c (by decide), fun _ => hq⟩
  · rw [if_neg q] at hq ⊢
    exact ⟨fun _ => hq, fun c => absurd (by decide) c⟩
theorem sp_Y_countDry_c31 {n : Int → Int} {x : Nat} (hS : YR 31 32 33 M) (hx : x ≤ 900) (w1 : 1 ≤ n 1 ∧ n 1 ≤ 127) (hk : gI M 31 3 = n 1) (hwet : ∀ d, 0 ≤ d → d < 900 → (wb (gL M 32) d = true ↔ n (1033 + d) = 1)) (hd : ∀ d : Nat, d ≤ x → gI M 33 d = dcn n d) (hq : ∀ M', YR 31 32 33 M' → (∀ b : Nat, b ≠ 33 → gI M' b = gI M b) → (gL M' = gL M ∧ (∀ b j, gR M' b j = gR M b j) ∧ nx M' = nx M) → (∀ d : Nat, d ≤ 900 → gI M' 33 d = dcn n d) → Q M' none) : Wq 2 0 0 mY_countDry 0 [iR 31, iI x, none] [] M Q := by
  refine B_Y_countDry_c31_0 ?_
  have db : ∀ k : Nat, 0 ≤ dcn n k ∧ dcn n k ≤ k := by
    intro k
    induction k with
    | zero => exact ⟨Int.le_refl _, Int.le_refl _⟩
    | succ k ih =>
      unfold dcn
      split <;> omega
  have key : ∀ (f : Nat) (j : Nat) (M' : Mm), j ≤ 900 → 900 - j = f → YR 31 32 33 M' → (∀ b : Nat, b ≠ 33 → gI M' b = gI M b) → (gL M' = gL M ∧ (∀ b j, gR M' b j = gR M b j) ∧ nx M' = nx M) → (∀ d : Nat, d ≤ j → gI M' 33 d = dcn n d) → Wq 2 0 0 mY_countDry 2 [iR 31, iI x, iI j] [] M' Q := by
    intro f
    induction f with
    | zero =>
      intro j M' hj hf g0 g1 g2 g3
      refine B_Y_countDry_c31_2 g0.2 ⟨fun c => ?_, fun c => by omega⟩
      have : j = 900 := by omega
      subst this
      exact hq M' g0 g1 g2 g3
    | succ f ih =>
      intro j M' hj hf g0 g1 g2 g3
      have dj := db j
      have fin : ∀ v : Int, v = dcn n (j + 1) → Wq 2 0 0 mY_countDry 2 [iR 31, iI x, iI ((j : Int) + 1)] [] (sI M' 33 ((j : Int) + 1) v) Q := by
        intro v hv
        have ih := ih (j + 1) (sI M' 33 ((j : Int) + 1) v) (by omega) (by omega) g0 (fun b hb => by rw [gI_ot hb]; exact g1 b hb) g2 (fun d hd => by
          rw [gI_up]
          by_cases c : d = j + 1
          · subst c
            rw [show (((j + 1 : Nat) : Int)) = (j : Int) + 1 by omega, up_s]
            exact hv
          · rw [up_n (by omega)]
            exact g3 d (by omega))
        rw [show (((j + 1 : Nat) : Int)) = (j : Int) + 1 by omega] at ih
        exact ih
      refine B_Y_countDry_c31_2 g0.2 ⟨fun c => by omega, fun c => ?_⟩
      rw [g1 31 (by decide), hk, g3 j (Nat.le_refl _), Int.tmod_eq_emod_of_nonneg (show (0 : Int) ≤ (j : Int) by omega)]
      refine ⟨by omega, fun c2 => ?_, fun c2 => ⟨by omega, fin _ ?_⟩⟩
      · refine sp_Y_isWet_c31 g0 (by omega) (by omega) ?_
        rw [g2.1, wr_eq (by omega) (by omega)]
        have hw := hwet j (by omega) (by omega)
        refine B_Y_countDry_c31_41 ?_
        by_cases q : wb (gL M 32) j = true
        · rw [if_pos q]
          refine ⟨fun _ => ⟨by omega, fin _ ?_⟩, fun z => absurd z (by decide)⟩
          rw [show dcn n (j + 1) = dcn n j + (if wkd n j = true ∧ n (1033 + (j : Int)) ≠ 1 then 1 else 0) from rfl, if_neg (fun z => z.2 (hw.mp q))]
          omega
        · rw [if_neg q]
          refine ⟨fun z => absurd rfl z, fun _ => ⟨by omega, fin _ ?_⟩⟩
          rw [show dcn n (j + 1) = dcn n j + (if wkd n j = true ∧ n (1033 + (j : Int)) ≠ 1 then 1 else 0) from rfl, if_pos ⟨c2, fun z => q (hw.mpr z)⟩]
      · rw [show dcn n (j + 1) = dcn n j + (if wkd n j = true ∧ n (1033 + (j : Int)) ≠ 1 then 1 else 0) from rfl, if_neg (fun z => c2 z.1)]
        omega
  exact key _ x M hx rfl hS (fun _ _ => rfl) ⟨rfl, fun _ _ => rfl, rfl⟩ hd
/-! week -/
theorem K_W_5 (hn : nx M = 6) (hz : ∀ i, gI M 5 i = 0) (hq : ∀ M', Kc 5 12 M M' → PR [(5, 0, 6), (5, 1, 7), (5, 2, 8), (5, 3, 9), (5, 4, 10), (5, 5, 11)] M' → Q M' none) : Wq 1 6 336 mW_init 0 [iR 5] [] M Q := by
  refine wq_aload_n (pc := 0) dW_init_0 rfl rfl ?_
  refine wq_objInit (pc := 1) dW_init_1 oO_W_3 oI oC rfl ?_
  refine wq_aload_n (pc := 4) dW_init_4 rfl rfl ?_
  refine wq_bipush (pc := 5) dW_init_5 rfl ?_
  refine wq_newI (pc := 7) (a := 6) (N := 16) (cb := 5) (sb := 320) dW_init_7 aT_int hn sh_6 rfl (by decide) ?_
  refine wq_putR (pc := 9) (z := 0) dW_init_9 fW_W_9 sh_5 rfl (fun _ => rfl) (fun _ => ⟨rfl, rfl⟩) rfl (by decide) ?_
  refine wq_aload_n (pc := 12) dW_init_12 rfl rfl ?_
  refine wq_bipush (pc := 13) dW_init_13 rfl ?_
  refine wq_newI (pc := 15) (a := 7) (N := 16) (cb := 4) (sb := 304) dW_init_15 aT_int (by have h0 := hn; show nx M + 1 = 7; omega) sh_7 rfl (by decide) ?_
  refine wq_putR (pc := 17) (z := 1) dW_init_17 fW_W_15 sh_5 rfl (fun _ => rfl) (fun _ => ⟨rfl, rfl⟩) rfl (by decide) ?_
  refine wq_aload_n (pc := 20) dW_init_20 rfl rfl ?_
  refine wq_bipush (pc := 21) dW_init_21 rfl ?_
  refine wq_newI (pc := 23) (a := 8) (N := 16) (cb := 3) (sb := 288) dW_init_23 aT_int (by have h0 := hn; show nx M + 2 = 8; omega) sh_8 rfl (by decide) ?_
  refine wq_putR (pc := 25) (z := 2) dW_init_25 fW_W_18 sh_5 rfl (fun _ => rfl) (fun _ => ⟨rfl, rfl⟩) rfl (by decide) ?_
  refine wq_aload_n (pc := 28) dW_init_28 rfl rfl ?_
  refine wq_bipush (pc := 29) dW_init_29 rfl ?_
  refine wq_newI (pc := 31) (a := 9) (N := 16) (cb := 2) (sb := 272) dW_init_31 aT_int (by have h0 := hn; show nx M + 3 = 9; omega) sh_9 rfl (by decide) ?_
  refine wq_putR (pc := 33) (z := 3) dW_init_33 fW_W_21 sh_5 rfl (fun _ => rfl) (fun _ => ⟨rfl, rfl⟩) rfl (by decide) ?_
  refine wq_aload_n (pc := 36) dW_init_36 rfl rfl ?_
  refine wq_sipush (pc := 37) dW_init_37 rfl ?_
  refine wq_newI (pc := 40) (a := 10) (N := 256) (cb := 1) (sb := 16) dW_init_40 aT_int (by have h0 := hn; show nx M + 4 = 10; omega) sh_10 rfl (by decide) ?_
  refine wq_putR (pc := 42) (z := 4) dW_init_42 fW_W_24 sh_5 rfl (fun _ => rfl) (fun _ => ⟨rfl, rfl⟩) rfl (by decide) ?_
  refine wq_aload_n (pc := 45) dW_init_45 rfl rfl ?_
  refine wq_bipush (pc := 46) dW_init_46 rfl ?_
  refine wq_newI (pc := 48) (a := 11) (N := 16) (cb := 0) (sb := 0) dW_init_48 aT_int (by have h0 := hn; show nx M + 5 = 11; omega) sh_11 rfl (by decide) ?_
  refine wq_putR (pc := 50) (z := 5) dW_init_50 fW_W_27 sh_5 rfl (fun _ => rfl) (fun _ => ⟨rfl, rfl⟩) rfl (by decide) ?_
  refine wq_aload_n (pc := 53) dW_init_53 rfl rfl ?_
  refine wq_iconst (pc := 54) dW_init_54 rfl ?_
  refine wq_putI (pc := 55) (z := 6) dW_init_55 fW_W_30 sh_5 rfl rfl ?_
  refine wq_aload_n (pc := 58) dW_init_58 rfl rfl ?_
  refine wq_iconst (pc := 59) dW_init_59 rfl ?_
  refine wq_putI (pc := 60) (z := 7) dW_init_60 fW_W_34 sh_5 rfl rfl ?_
  refine wq_return (pc := 63) dW_init_63 trivial ?_
  refine hq _ ⟨by show nx M + 6 = 12; omega, fun b i => ?_, rfl, fun b j hb => ?_⟩ (fun q hq => ?_)
  · show (if b = 5 ∧ i = 7 then (0 : Int) else (if b = 5 ∧ i = 6 then (0 : Int) else gI M b i)) = gI M b i
    by_cases c : b = 5
    · rw [c, hz]
      repeat' split
      all_goals rfl
    · simp only [c, false_and, if_false]
  · have c : b ≠ 5 := by omega
    show (if b = 5 ∧ j = 5 then some 11 else (if b = 5 ∧ j = 4 then some 10 else (if b = 5 ∧ j = 3 then some 9 else (if b = 5 ∧ j = 2 then some 8 else (if b = 5 ∧ j = 1 then some 7 else (if b = 5 ∧ j = 0 then some 6 else gR M b j)))))) = gR M b j
    simp only [c, false_and, if_false]
  · simp only [List.mem_cons, List.not_mem_nil, or_false] at hq
    rcases hq with z | z | z | z | z | z <;> subst z <;> rfl
theorem K_W_34 (hn : nx M = 35) (hz : ∀ i, gI M 34 i = 0) (hq : ∀ M', Kc 34 41 M M' → PR [(34, 0, 35), (34, 1, 36), (34, 2, 37), (34, 3, 38), (34, 4, 39), (34, 5, 40)] M' → Q M' none) : Wq 1 6 336 mW_init 0 [iR 34] [] M Q := by
  refine wq_aload_n (pc := 0) dW_init_0 rfl rfl ?_
  refine wq_objInit (pc := 1) dW_init_1 oO_W_3 oI oC rfl ?_
  refine wq_aload_n (pc := 4) dW_init_4 rfl rfl ?_
  refine wq_bipush (pc := 5) dW_init_5 rfl ?_
  refine wq_newI (pc := 7) (a := 35) (N := 16) (cb := 5) (sb := 320) dW_init_7 aT_int hn sh_35 rfl (by decide) ?_
  refine wq_putR (pc := 9) (z := 0) dW_init_9 fW_W_9 sh_34 rfl (fun _ => rfl) (fun _ => ⟨rfl, rfl⟩) rfl (by decide) ?_
  refine wq_aload_n (pc := 12) dW_init_12 rfl rfl ?_
  refine wq_bipush (pc := 13) dW_init_13 rfl ?_
  refine wq_newI (pc := 15) (a := 36) (N := 16) (cb := 4) (sb := 304) dW_init_15 aT_int (by have h0 := hn; show nx M + 1 = 36; omega) sh_36 rfl (by decide) ?_
  refine wq_putR (pc := 17) (z := 1) dW_init_17 fW_W_15 sh_34 rfl (fun _ => rfl) (fun _ => ⟨rfl, rfl⟩) rfl (by decide) ?_
  refine wq_aload_n (pc := 20) dW_init_20 rfl rfl ?_
  refine wq_bipush (pc := 21) dW_init_21 rfl ?_
  refine wq_newI (pc := 23) (a := 37) (N := 16) (cb := 3) (sb := 288) dW_init_23 aT_int (by have h0 := hn; show nx M + 2 = 37; omega) sh_37 rfl (by decide) ?_
  refine wq_putR (pc := 25) (z := 2) dW_init_25 fW_W_18 sh_34 rfl (fun _ => rfl) (fun _ => ⟨rfl, rfl⟩) rfl (by decide) ?_
  refine wq_aload_n (pc := 28) dW_init_28 rfl rfl ?_
  refine wq_bipush (pc := 29) dW_init_29 rfl ?_
  refine wq_newI (pc := 31) (a := 38) (N := 16) (cb := 2) (sb := 272) dW_init_31 aT_int (by have h0 := hn; show nx M + 3 = 38; omega) sh_38 rfl (by decide) ?_
  refine wq_putR (pc := 33) (z := 3) dW_init_33 fW_W_21 sh_34 rfl (fun _ => rfl) (fun _ => ⟨rfl, rfl⟩) rfl (by decide) ?_
  refine wq_aload_n (pc := 36) dW_init_36 rfl rfl ?_
  refine wq_sipush (pc := 37) dW_init_37 rfl ?_
  refine wq_newI (pc := 40) (a := 39) (N := 256) (cb := 1) (sb := 16) dW_init_40 aT_int (by have h0 := hn; show nx M + 4 = 39; omega) sh_39 rfl (by decide) ?_
  refine wq_putR (pc := 42) (z := 4) dW_init_42 fW_W_24 sh_34 rfl (fun _ => rfl) (fun _ => ⟨rfl, rfl⟩) rfl (by decide) ?_
  refine wq_aload_n (pc := 45) dW_init_45 rfl rfl ?_
  refine wq_bipush (pc := 46) dW_init_46 rfl ?_
  refine wq_newI (pc := 48) (a := 40) (N := 16) (cb := 0) (sb := 0) dW_init_48 aT_int (by have h0 := hn; show nx M + 5 = 40; omega) sh_40 rfl (by decide) ?_
  refine wq_putR (pc := 50) (z := 5) dW_init_50 fW_W_27 sh_34 rfl (fun _ => rfl) (fun _ => ⟨rfl, rfl⟩) rfl (by decide) ?_
  refine wq_aload_n (pc := 53) dW_init_53 rfl rfl ?_
  refine wq_iconst (pc := 54) dW_init_54 rfl ?_
  refine wq_putI (pc := 55) (z := 6) dW_init_55 fW_W_30 sh_34 rfl rfl ?_
  refine wq_aload_n (pc := 58) dW_init_58 rfl rfl ?_
  refine wq_iconst (pc := 59) dW_init_59 rfl ?_
  refine wq_putI (pc := 60) (z := 7) dW_init_60 fW_W_34 sh_34 rfl rfl ?_
  refine wq_return (pc := 63) dW_init_63 trivial ?_
  refine hq _ ⟨by show nx M + 6 = 41; omega, fun b i => ?_, rfl, fun b j hb => ?_⟩ (fun q hq => ?_)
  · show (if b = 34 ∧ i = 7 then (0 : Int) else (if b = 34 ∧ i = 6 then (0 : Int) else gI M b i)) = gI M b i
    by_cases c : b = 34
    · rw [c, hz]
      repeat' split
      all_goals rfl
    · simp only [c, false_and, if_false]
  · have c : b ≠ 34 := by omega
    show (if b = 34 ∧ j = 5 then some 40 else (if b = 34 ∧ j = 4 then some 39 else (if b = 34 ∧ j = 3 then some 38 else (if b = 34 ∧ j = 2 then some 37 else (if b = 34 ∧ j = 1 then some 36 else (if b = 34 ∧ j = 0 then some 35 else gR M b j)))))) = gR M b j
    simp only [c, false_and, if_false]
  · simp only [List.mem_cons, List.not_mem_nil, or_false] at hq
    rcases hq with z | z | z | z | z | z <;> subst z <;> rfl
theorem K_E_12 (hn : nx M = 13) (hz : ∀ i, gI M 12 i = 0) (hq : ∀ M', Kc 12 20 M M' → PR [(12, 0, 13), (12, 1, 14), (12, 2, 15), (12, 3, 16), (12, 4, 17), (12, 5, 18), (12, 6, 19)] M' → Q M' none) : Wq 1 7 140 mE_init 0 [iR 12] [] M Q := by
  refine wq_aload_n (pc := 0) dE_init_0 rfl rfl ?_
  refine wq_objInit (pc := 1) dE_init_1 oO_E_3 oI oC rfl ?_
  refine wq_aload_n (pc := 4) dE_init_4 rfl rfl ?_
  refine wq_bipush (pc := 5) dE_init_5 rfl ?_
  refine wq_newI (pc := 7) (a := 13) (N := 20) (cb := 6) (sb := 120) dE_init_7 aT_int hn sh_13 rfl (by decide) ?_
  refine wq_putR (pc := 9) (z := 0) dE_init_9 fW_E_9 sh_12 rfl (fun _ => rfl) (fun _ => ⟨rfl, rfl⟩) rfl (by decide) ?_
  refine wq_aload_n (pc := 12) dE_init_12 rfl rfl ?_
  refine wq_bipush (pc := 13) dE_init_13 rfl ?_
  refine wq_newI (pc := 15) (a := 14) (N := 20) (cb := 5) (sb := 100) dE_init_15 aT_int (by have h0 := hn; show nx M + 1 = 14; omega) sh_14 rfl (by decide) ?_
  refine wq_putR (pc := 17) (z := 1) dE_init_17 fW_E_15 sh_12 rfl (fun _ => rfl) (fun _ => ⟨rfl, rfl⟩) rfl (by decide) ?_
  refine wq_aload_n (pc := 20) dE_init_20 rfl rfl ?_
  refine wq_bipush (pc := 21) dE_init_21 rfl ?_
  refine wq_newI (pc := 23) (a := 15) (N := 20) (cb := 4) (sb := 80) dE_init_23 aT_int (by have h0 := hn; show nx M + 2 = 15; omega) sh_15 rfl (by decide) ?_
  refine wq_putR (pc := 25) (z := 2) dE_init_25 fW_E_18 sh_12 rfl (fun _ => rfl) (fun _ => ⟨rfl, rfl⟩) rfl (by decide) ?_
  refine wq_aload_n (pc := 28) dE_init_28 rfl rfl ?_
  refine wq_bipush (pc := 29) dE_init_29 rfl ?_
  refine wq_newI (pc := 31) (a := 16) (N := 20) (cb := 3) (sb := 60) dE_init_31 aT_int (by have h0 := hn; show nx M + 3 = 16; omega) sh_16 rfl (by decide) ?_
  refine wq_putR (pc := 33) (z := 3) dE_init_33 fW_E_21 sh_12 rfl (fun _ => rfl) (fun _ => ⟨rfl, rfl⟩) rfl (by decide) ?_
  refine wq_aload_n (pc := 36) dE_init_36 rfl rfl ?_
  refine wq_bipush (pc := 37) dE_init_37 rfl ?_
  refine wq_newI (pc := 39) (a := 17) (N := 20) (cb := 2) (sb := 40) dE_init_39 aT_int (by have h0 := hn; show nx M + 4 = 17; omega) sh_17 rfl (by decide) ?_
  refine wq_putR (pc := 41) (z := 4) dE_init_41 fW_E_24 sh_12 rfl (fun _ => rfl) (fun _ => ⟨rfl, rfl⟩) rfl (by decide) ?_
  refine wq_aload_n (pc := 44) dE_init_44 rfl rfl ?_
  refine wq_bipush (pc := 45) dE_init_45 rfl ?_
  refine wq_newI (pc := 47) (a := 18) (N := 20) (cb := 1) (sb := 20) dE_init_47 aT_int (by have h0 := hn; show nx M + 5 = 18; omega) sh_18 rfl (by decide) ?_
  refine wq_putR (pc := 49) (z := 5) dE_init_49 fW_E_27 sh_12 rfl (fun _ => rfl) (fun _ => ⟨rfl, rfl⟩) rfl (by decide) ?_
  refine wq_aload_n (pc := 52) dE_init_52 rfl rfl ?_
  refine wq_bipush (pc := 53) dE_init_53 rfl ?_
  refine wq_newI (pc := 55) (a := 19) (N := 20) (cb := 0) (sb := 0) dE_init_55 aT_int (by have h0 := hn; show nx M + 6 = 19; omega) sh_19 rfl (by decide) ?_
  refine wq_putR (pc := 57) (z := 6) dE_init_57 fW_E_30 sh_12 rfl (fun _ => rfl) (fun _ => ⟨rfl, rfl⟩) rfl (by decide) ?_
  refine wq_aload_n (pc := 60) dE_init_60 rfl rfl ?_
  refine wq_iconst (pc := 61) dE_init_61 rfl ?_
  refine wq_putI (pc := 62) (z := 7) dE_init_62 fW_E_33 sh_12 rfl rfl ?_
  refine wq_return (pc := 65) dE_init_65 trivial ?_
  refine hq _ ⟨by show nx M + 7 = 20; omega, fun b i => ?_, rfl, fun b j hb => ?_⟩ (fun q hq => ?_)
  · show (if b = 12 ∧ i = 7 then (0 : Int) else gI M b i) = gI M b i
    by_cases c : b = 12
    · rw [c, hz]
      repeat' split
      all_goals rfl
    · simp only [c, false_and, if_false]
  · have c : b ≠ 12 := by omega
    show (if b = 12 ∧ j = 6 then some 19 else (if b = 12 ∧ j = 5 then some 18 else (if b = 12 ∧ j = 4 then some 17 else (if b = 12 ∧ j = 3 then some 16 else (if b = 12 ∧ j = 2 then some 15 else (if b = 12 ∧ j = 1 then some 14 else (if b = 12 ∧ j = 0 then some 13 else gR M b j))))))) = gR M b j
    simp only [c, false_and, if_false]
  · simp only [List.mem_cons, List.not_mem_nil, or_false] at hq
    rcases hq with z | z | z | z | z | z | z <;> subst z <;> rfl
theorem K_E_41 (hn : nx M = 42) (hz : ∀ i, gI M 41 i = 0) (hq : ∀ M', Kc 41 49 M M' → PR [(41, 0, 42), (41, 1, 43), (41, 2, 44), (41, 3, 45), (41, 4, 46), (41, 5, 47), (41, 6, 48)] M' → Q M' none) : Wq 1 7 140 mE_init 0 [iR 41] [] M Q := by
  refine wq_aload_n (pc := 0) dE_init_0 rfl rfl ?_
  refine wq_objInit (pc := 1) dE_init_1 oO_E_3 oI oC rfl ?_
  refine wq_aload_n (pc := 4) dE_init_4 rfl rfl ?_
  refine wq_bipush (pc := 5) dE_init_5 rfl ?_
  refine wq_newI (pc := 7) (a := 42) (N := 20) (cb := 6) (sb := 120) dE_init_7 aT_int hn sh_42 rfl (by decide) ?_
  refine wq_putR (pc := 9) (z := 0) dE_init_9 fW_E_9 sh_41 rfl (fun _ => rfl) (fun _ => ⟨rfl, rfl⟩) rfl (by decide) ?_
  refine wq_aload_n (pc := 12) dE_init_12 rfl rfl ?_
  refine wq_bipush (pc := 13) dE_init_13 rfl ?_
  refine wq_newI (pc := 15) (a := 43) (N := 20) (cb := 5) (sb := 100) dE_init_15 aT_int (by have h0 := hn; show nx M + 1 = 43; omega) sh_43 rfl (by decide) ?_
  refine wq_putR (pc := 17) (z := 1) dE_init_17 fW_E_15 sh_41 rfl (fun _ => rfl) (fun _ => ⟨rfl, rfl⟩) rfl (by decide) ?_
  refine wq_aload_n (pc := 20) dE_init_20 rfl rfl ?_
  refine wq_bipush (pc := 21) dE_init_21 rfl ?_
  refine wq_newI (pc := 23) (a := 44) (N := 20) (cb := 4) (sb := 80) dE_init_23 aT_int (by have h0 := hn; show nx M + 2 = 44; omega) sh_44 rfl (by decide) ?_
  refine wq_putR (pc := 25) (z := 2) dE_init_25 fW_E_18 sh_41 rfl (fun _ => rfl) (fun _ => ⟨rfl, rfl⟩) rfl (by decide) ?_
  refine wq_aload_n (pc := 28) dE_init_28 rfl rfl ?_
  refine wq_bipush (pc := 29) dE_init_29 rfl ?_
  refine wq_newI (pc := 31) (a := 45) (N := 20) (cb := 3) (sb := 60) dE_init_31 aT_int (by have h0 := hn; show nx M + 3 = 45; omega) sh_45 rfl (by decide) ?_
  refine wq_putR (pc := 33) (z := 3) dE_init_33 fW_E_21 sh_41 rfl (fun _ => rfl) (fun _ => ⟨rfl, rfl⟩) rfl (by decide) ?_
  refine wq_aload_n (pc := 36) dE_init_36 rfl rfl ?_
  refine wq_bipush (pc := 37) dE_init_37 rfl ?_
  refine wq_newI (pc := 39) (a := 46) (N := 20) (cb := 2) (sb := 40) dE_init_39 aT_int (by have h0 := hn; show nx M + 4 = 46; omega) sh_46 rfl (by decide) ?_
  refine wq_putR (pc := 41) (z := 4) dE_init_41 fW_E_24 sh_41 rfl (fun _ => rfl) (fun _ => ⟨rfl, rfl⟩) rfl (by decide) ?_
  refine wq_aload_n (pc := 44) dE_init_44 rfl rfl ?_
  refine wq_bipush (pc := 45) dE_init_45 rfl ?_
  refine wq_newI (pc := 47) (a := 47) (N := 20) (cb := 1) (sb := 20) dE_init_47 aT_int (by have h0 := hn; show nx M + 5 = 47; omega) sh_47 rfl (by decide) ?_
  refine wq_putR (pc := 49) (z := 5) dE_init_49 fW_E_27 sh_41 rfl (fun _ => rfl) (fun _ => ⟨rfl, rfl⟩) rfl (by decide) ?_
  refine wq_aload_n (pc := 52) dE_init_52 rfl rfl ?_
  refine wq_bipush (pc := 53) dE_init_53 rfl ?_
  refine wq_newI (pc := 55) (a := 48) (N := 20) (cb := 0) (sb := 0) dE_init_55 aT_int (by have h0 := hn; show nx M + 6 = 48; omega) sh_48 rfl (by decide) ?_
  refine wq_putR (pc := 57) (z := 6) dE_init_57 fW_E_30 sh_41 rfl (fun _ => rfl) (fun _ => ⟨rfl, rfl⟩) rfl (by decide) ?_
  refine wq_aload_n (pc := 60) dE_init_60 rfl rfl ?_
  refine wq_iconst (pc := 61) dE_init_61 rfl ?_
  refine wq_putI (pc := 62) (z := 7) dE_init_62 fW_E_33 sh_41 rfl rfl ?_
  refine wq_return (pc := 65) dE_init_65 trivial ?_
  refine hq _ ⟨by show nx M + 7 = 49; omega, fun b i => ?_, rfl, fun b j hb => ?_⟩ (fun q hq => ?_)
  · show (if b = 41 ∧ i = 7 then (0 : Int) else gI M b i) = gI M b i
    by_cases c : b = 41
    · rw [c, hz]
      repeat' split
      all_goals rfl
    · simp only [c, false_and, if_false]
  · have c : b ≠ 41 := by omega
    show (if b = 41 ∧ j = 6 then some 48 else (if b = 41 ∧ j = 5 then some 47 else (if b = 41 ∧ j = 4 then some 46 else (if b = 41 ∧ j = 3 then some 45 else (if b = 41 ∧ j = 2 then some 44 else (if b = 41 ∧ j = 1 then some 43 else (if b = 41 ∧ j = 0 then some 42 else gR M b j))))))) = gR M b j
    simp only [c, false_and, if_false]
  · simp only [List.mem_cons, List.not_mem_nil, or_false] at hq
    rcases hq with z | z | z | z | z | z | z <;> subst z <;> rfl
theorem K_C_20 (hn : nx M = 21) (hz : ∀ i, gI M 20 i = 0) (hq : ∀ M', Kc 20 26 M M' → PR [(20, 0, 21), (20, 1, 22), (20, 2, 23), (20, 3, 24), (20, 4, 25)] M' → Q M' none) : Wq 1 5 690 mC_init 0 [iR 20] [] M Q := by
  refine wq_aload_n (pc := 0) dC_init_0 rfl rfl ?_
  refine wq_objInit (pc := 1) dC_init_1 oO_C_3 oI oC rfl ?_
  refine wq_aload_n (pc := 4) dC_init_4 rfl rfl ?_
  refine wq_bipush (pc := 5) dC_init_5 rfl ?_
  refine wq_newB (pc := 7) (a := 21) (N := 60) (cb := 4) (sb := 630) dC_init_7 aT_byte hn sh_21 rfl (by decide) ?_
  refine wq_putR (pc := 9) (z := 0) dC_init_9 fW_C_9 sh_20 rfl (fun _ => rfl) (fun _ => ⟨rfl, rfl⟩) rfl (by decide) ?_
  refine wq_aload_n (pc := 12) dC_init_12 rfl rfl ?_
  refine wq_sipush (pc := 13) dC_init_13 rfl ?_
  refine wq_newB (pc := 16) (a := 22) (N := 600) (cb := 3) (sb := 30) dC_init_16 aT_byte (by have h0 := hn; show nx M + 1 = 22; omega) sh_22 rfl (by decide) ?_
  refine wq_putR (pc := 18) (z := 1) dC_init_18 fW_C_15 sh_20 rfl (fun _ => rfl) (fun _ => ⟨rfl, rfl⟩) rfl (by decide) ?_
  refine wq_aload_n (pc := 21) dC_init_21 rfl rfl ?_
  refine wq_bipush (pc := 22) dC_init_22 rfl ?_
  refine wq_newI (pc := 24) (a := 23) (N := 10) (cb := 2) (sb := 20) dC_init_24 aT_int (by have h0 := hn; show nx M + 2 = 23; omega) sh_23 rfl (by decide) ?_
  refine wq_putR (pc := 26) (z := 2) dC_init_26 fW_C_18 sh_20 rfl (fun _ => rfl) (fun _ => ⟨rfl, rfl⟩) rfl (by decide) ?_
  refine wq_aload_n (pc := 29) dC_init_29 rfl rfl ?_
  refine wq_bipush (pc := 30) dC_init_30 rfl ?_
  refine wq_newI (pc := 32) (a := 24) (N := 10) (cb := 1) (sb := 10) dC_init_32 aT_int (by have h0 := hn; show nx M + 3 = 24; omega) sh_24 rfl (by decide) ?_
  refine wq_putR (pc := 34) (z := 3) dC_init_34 fW_C_22 sh_20 rfl (fun _ => rfl) (fun _ => ⟨rfl, rfl⟩) rfl (by decide) ?_
  refine wq_aload_n (pc := 37) dC_init_37 rfl rfl ?_
  refine wq_bipush (pc := 38) dC_init_38 rfl ?_
  refine wq_newI (pc := 40) (a := 25) (N := 10) (cb := 0) (sb := 0) dC_init_40 aT_int (by have h0 := hn; show nx M + 4 = 25; omega) sh_25 rfl (by decide) ?_
  refine wq_putR (pc := 42) (z := 4) dC_init_42 fW_C_25 sh_20 rfl (fun _ => rfl) (fun _ => ⟨rfl, rfl⟩) rfl (by decide) ?_
  refine wq_aload_n (pc := 45) dC_init_45 rfl rfl ?_
  refine wq_iconst (pc := 46) dC_init_46 rfl ?_
  refine wq_putI (pc := 47) (z := 5) dC_init_47 fW_C_28 sh_20 rfl rfl ?_
  refine wq_aload_n (pc := 50) dC_init_50 rfl rfl ?_
  refine wq_iconst (pc := 51) dC_init_51 rfl ?_
  refine wq_putI (pc := 52) (z := 6) dC_init_52 fW_C_32 sh_20 rfl rfl ?_
  refine wq_return (pc := 55) dC_init_55 trivial ?_
  refine hq _ ⟨by show nx M + 5 = 26; omega, fun b i => ?_, rfl, fun b j hb => ?_⟩ (fun q hq => ?_)
  · show (if b = 20 ∧ i = 6 then (0 : Int) else (if b = 20 ∧ i = 5 then (0 : Int) else gI M b i)) = gI M b i
    by_cases c : b = 20
    · rw [c, hz]
      repeat' split
      all_goals rfl
    · simp only [c, false_and, if_false]
  · have c : b ≠ 20 := by omega
    show (if b = 20 ∧ j = 4 then some 25 else (if b = 20 ∧ j = 3 then some 24 else (if b = 20 ∧ j = 2 then some 23 else (if b = 20 ∧ j = 1 then some 22 else (if b = 20 ∧ j = 0 then some 21 else gR M b j))))) = gR M b j
    simp only [c, false_and, if_false]
  · simp only [List.mem_cons, List.not_mem_nil, or_false] at hq
    rcases hq with z | z | z | z | z <;> subst z <;> rfl
theorem K_C_49 (hn : nx M = 50) (hz : ∀ i, gI M 49 i = 0) (hq : ∀ M', Kc 49 55 M M' → PR [(49, 0, 50), (49, 1, 51), (49, 2, 52), (49, 3, 53), (49, 4, 54)] M' → Q M' none) : Wq 1 5 690 mC_init 0 [iR 49] [] M Q := by
  refine wq_aload_n (pc := 0) dC_init_0 rfl rfl ?_
  refine wq_objInit (pc := 1) dC_init_1 oO_C_3 oI oC rfl ?_
  refine wq_aload_n (pc := 4) dC_init_4 rfl rfl ?_
  refine wq_bipush (pc := 5) dC_init_5 rfl ?_
  refine wq_newB (pc := 7) (a := 50) (N := 60) (cb := 4) (sb := 630) dC_init_7 aT_byte hn sh_50 rfl (by decide) ?_
  refine wq_putR (pc := 9) (z := 0) dC_init_9 fW_C_9 sh_49 rfl (fun _ => rfl) (fun _ => ⟨rfl, rfl⟩) rfl (by decide) ?_
  refine wq_aload_n (pc := 12) dC_init_12 rfl rfl ?_
  refine wq_sipush (pc := 13) dC_init_13 rfl ?_
  refine wq_newB (pc := 16) (a := 51) (N := 600) (cb := 3) (sb := 30) dC_init_16 aT_byte (by have h0 := hn; show nx M + 1 = 51; omega) sh_51 rfl (by decide) ?_
  refine wq_putR (pc := 18) (z := 1) dC_init_18 fW_C_15 sh_49 rfl (fun _ => rfl) (fun _ => ⟨rfl, rfl⟩) rfl (by decide) ?_
  refine wq_aload_n (pc := 21) dC_init_21 rfl rfl ?_
  refine wq_bipush (pc := 22) dC_init_22 rfl ?_
  refine wq_newI (pc := 24) (a := 52) (N := 10) (cb := 2) (sb := 20) dC_init_24 aT_int (by have h0 := hn; show nx M + 2 = 52; omega) sh_52 rfl (by decide) ?_
  refine wq_putR (pc := 26) (z := 2) dC_init_26 fW_C_18 sh_49 rfl (fun _ => rfl) (fun _ => ⟨rfl, rfl⟩) rfl (by decide) ?_
  refine wq_aload_n (pc := 29) dC_init_29 rfl rfl ?_
  refine wq_bipush (pc := 30) dC_init_30 rfl ?_
  refine wq_newI (pc := 32) (a := 53) (N := 10) (cb := 1) (sb := 10) dC_init_32 aT_int (by have h0 := hn; show nx M + 3 = 53; omega) sh_53 rfl (by decide) ?_
  refine wq_putR (pc := 34) (z := 3) dC_init_34 fW_C_22 sh_49 rfl (fun _ => rfl) (fun _ => ⟨rfl, rfl⟩) rfl (by decide) ?_
  refine wq_aload_n (pc := 37) dC_init_37 rfl rfl ?_
  refine wq_bipush (pc := 38) dC_init_38 rfl ?_
  refine wq_newI (pc := 40) (a := 54) (N := 10) (cb := 0) (sb := 0) dC_init_40 aT_int (by have h0 := hn; show nx M + 4 = 54; omega) sh_54 rfl (by decide) ?_
  refine wq_putR (pc := 42) (z := 4) dC_init_42 fW_C_25 sh_49 rfl (fun _ => rfl) (fun _ => ⟨rfl, rfl⟩) rfl (by decide) ?_
  refine wq_aload_n (pc := 45) dC_init_45 rfl rfl ?_
  refine wq_iconst (pc := 46) dC_init_46 rfl ?_
  refine wq_putI (pc := 47) (z := 5) dC_init_47 fW_C_28 sh_49 rfl rfl ?_
  refine wq_aload_n (pc := 50) dC_init_50 rfl rfl ?_
  refine wq_iconst (pc := 51) dC_init_51 rfl ?_
  refine wq_putI (pc := 52) (z := 6) dC_init_52 fW_C_32 sh_49 rfl rfl ?_
  refine wq_return (pc := 55) dC_init_55 trivial ?_
  refine hq _ ⟨by show nx M + 5 = 55; omega, fun b i => ?_, rfl, fun b j hb => ?_⟩ (fun q hq => ?_)
  · show (if b = 49 ∧ i = 6 then (0 : Int) else (if b = 49 ∧ i = 5 then (0 : Int) else gI M b i)) = gI M b i
    by_cases c : b = 49
    · rw [c, hz]
      repeat' split
      all_goals rfl
    · simp only [c, false_and, if_false]
  · have c : b ≠ 49 := by omega
    show (if b = 49 ∧ j = 4 then some 54 else (if b = 49 ∧ j = 3 then some 53 else (if b = 49 ∧ j = 2 then some 52 else (if b = 49 ∧ j = 1 then some 51 else (if b = 49 ∧ j = 0 then some 50 else gR M b j))))) = gR M b j
    simp only [c, false_and, if_false]
  · simp only [List.mem_cons, List.not_mem_nil, or_false] at hq
    rcases hq with z | z | z | z | z <;> subst z <;> rfl
theorem K_H_26 (hn : nx M = 27) (hz : ∀ i, gI M 26 i = 0) (hq : ∀ M', Kc 26 30 M M' → PR [(26, 0, 27), (26, 1, 28), (26, 2, 29)] M' → Q M' none) : Wq 1 3 15 mH_init 0 [iR 26] [] M Q := by
  refine wq_aload_n (pc := 0) dH_init_0 rfl rfl ?_
  refine wq_objInit (pc := 1) dH_init_1 oO_H_3 oI oC rfl ?_
  refine wq_aload_n (pc := 4) dH_init_4 rfl rfl ?_
  refine wq_iconst (pc := 5) dH_init_5 rfl ?_
  refine wq_newI (pc := 6) (a := 27) (N := 5) (cb := 2) (sb := 10) dH_init_6 aT_int hn sh_27 rfl (by decide) ?_
  refine wq_putR (pc := 8) (z := 0) dH_init_8 fW_H_9 sh_26 rfl (fun _ => rfl) (fun _ => ⟨rfl, rfl⟩) rfl (by decide) ?_
  refine wq_aload_n (pc := 11) dH_init_11 rfl rfl ?_
  refine wq_iconst (pc := 12) dH_init_12 rfl ?_
  refine wq_newI (pc := 13) (a := 28) (N := 5) (cb := 1) (sb := 5) dH_init_13 aT_int (by have h0 := hn; show nx M + 1 = 28; omega) sh_28 rfl (by decide) ?_
  refine wq_putR (pc := 15) (z := 1) dH_init_15 fW_H_15 sh_26 rfl (fun _ => rfl) (fun _ => ⟨rfl, rfl⟩) rfl (by decide) ?_
  refine wq_aload_n (pc := 18) dH_init_18 rfl rfl ?_
  refine wq_iconst (pc := 19) dH_init_19 rfl ?_
  refine wq_newI (pc := 20) (a := 29) (N := 5) (cb := 0) (sb := 0) dH_init_20 aT_int (by have h0 := hn; show nx M + 2 = 29; omega) sh_29 rfl (by decide) ?_
  refine wq_putR (pc := 22) (z := 2) dH_init_22 fW_H_18 sh_26 rfl (fun _ => rfl) (fun _ => ⟨rfl, rfl⟩) rfl (by decide) ?_
  refine wq_aload_n (pc := 25) dH_init_25 rfl rfl ?_
  refine wq_iconst (pc := 26) dH_init_26 rfl ?_
  refine wq_putI (pc := 27) (z := 3) dH_init_27 fW_H_21 sh_26 rfl rfl ?_
  refine wq_return (pc := 30) dH_init_30 trivial ?_
  refine hq _ ⟨by show nx M + 3 = 30; omega, fun b i => ?_, rfl, fun b j hb => ?_⟩ (fun q hq => ?_)
  · show (if b = 26 ∧ i = 3 then (0 : Int) else gI M b i) = gI M b i
    by_cases c : b = 26
    · rw [c, hz]
      repeat' split
      all_goals rfl
    · simp only [c, false_and, if_false]
  · have c : b ≠ 26 := by omega
    show (if b = 26 ∧ j = 2 then some 29 else (if b = 26 ∧ j = 1 then some 28 else (if b = 26 ∧ j = 0 then some 27 else gR M b j))) = gR M b j
    simp only [c, false_and, if_false]
  · simp only [List.mem_cons, List.not_mem_nil, or_false] at hq
    rcases hq with z | z | z <;> subst z <;> rfl
theorem K_H_55 (hn : nx M = 56) (hz : ∀ i, gI M 55 i = 0) (hq : ∀ M', Kc 55 59 M M' → PR [(55, 0, 56), (55, 1, 57), (55, 2, 58)] M' → Q M' none) : Wq 1 3 15 mH_init 0 [iR 55] [] M Q := by
  refine wq_aload_n (pc := 0) dH_init_0 rfl rfl ?_
  refine wq_objInit (pc := 1) dH_init_1 oO_H_3 oI oC rfl ?_
  refine wq_aload_n (pc := 4) dH_init_4 rfl rfl ?_
  refine wq_iconst (pc := 5) dH_init_5 rfl ?_
  refine wq_newI (pc := 6) (a := 56) (N := 5) (cb := 2) (sb := 10) dH_init_6 aT_int hn sh_56 rfl (by decide) ?_
  refine wq_putR (pc := 8) (z := 0) dH_init_8 fW_H_9 sh_55 rfl (fun _ => rfl) (fun _ => ⟨rfl, rfl⟩) rfl (by decide) ?_
  refine wq_aload_n (pc := 11) dH_init_11 rfl rfl ?_
  refine wq_iconst (pc := 12) dH_init_12 rfl ?_
  refine wq_newI (pc := 13) (a := 57) (N := 5) (cb := 1) (sb := 5) dH_init_13 aT_int (by have h0 := hn; show nx M + 1 = 57; omega) sh_57 rfl (by decide) ?_
  refine wq_putR (pc := 15) (z := 1) dH_init_15 fW_H_15 sh_55 rfl (fun _ => rfl) (fun _ => ⟨rfl, rfl⟩) rfl (by decide) ?_
  refine wq_aload_n (pc := 18) dH_init_18 rfl rfl ?_
  refine wq_iconst (pc := 19) dH_init_19 rfl ?_
  refine wq_newI (pc := 20) (a := 58) (N := 5) (cb := 0) (sb := 0) dH_init_20 aT_int (by have h0 := hn; show nx M + 2 = 58; omega) sh_58 rfl (by decide) ?_
  refine wq_putR (pc := 22) (z := 2) dH_init_22 fW_H_18 sh_55 rfl (fun _ => rfl) (fun _ => ⟨rfl, rfl⟩) rfl (by decide) ?_
  refine wq_aload_n (pc := 25) dH_init_25 rfl rfl ?_
  refine wq_iconst (pc := 26) dH_init_26 rfl ?_
  refine wq_putI (pc := 27) (z := 3) dH_init_27 fW_H_21 sh_55 rfl rfl ?_
  refine wq_return (pc := 30) dH_init_30 trivial ?_
  refine hq _ ⟨by show nx M + 3 = 59; omega, fun b i => ?_, rfl, fun b j hb => ?_⟩ (fun q hq => ?_)
  · show (if b = 55 ∧ i = 3 then (0 : Int) else gI M b i) = gI M b i
    by_cases c : b = 55
    · rw [c, hz]
      repeat' split
      all_goals rfl
    · simp only [c, false_and, if_false]
  · have c : b ≠ 55 := by omega
    show (if b = 55 ∧ j = 2 then some 58 else (if b = 55 ∧ j = 1 then some 57 else (if b = 55 ∧ j = 0 then some 56 else gR M b j))) = gR M b j
    simp only [c, false_and, if_false]
  · simp only [List.mem_cons, List.not_mem_nil, or_false] at hq
    rcases hq with z | z | z <;> subst z <;> rfl
theorem K_P_59 (hn : nx M = 60) (hz : ∀ i, gI M 59 i = 0) (hq : ∀ M', Kc 59 63 M M' → PR [(59, 0, 60), (59, 1, 61), (59, 2, 62)] M' → Q M' none) : Wq 1 3 48 mP_init 0 [iR 59] [] M Q := by
  refine wq_aload_n (pc := 0) dP_init_0 rfl rfl ?_
  refine wq_objInit (pc := 1) dP_init_1 oO_P_3 oI oC rfl ?_
  refine wq_aload_n (pc := 4) dP_init_4 rfl rfl ?_
  refine wq_bipush (pc := 5) dP_init_5 rfl ?_
  refine wq_newI (pc := 7) (a := 60) (N := 16) (cb := 2) (sb := 32) dP_init_7 aT_int hn sh_60 rfl (by decide) ?_
  refine wq_putR (pc := 9) (z := 0) dP_init_9 fW_P_9 sh_59 rfl (fun _ => rfl) (fun _ => ⟨rfl, rfl⟩) rfl (by decide) ?_
  refine wq_aload_n (pc := 12) dP_init_12 rfl rfl ?_
  refine wq_bipush (pc := 13) dP_init_13 rfl ?_
  refine wq_newI (pc := 15) (a := 61) (N := 16) (cb := 1) (sb := 16) dP_init_15 aT_int (by have h0 := hn; show nx M + 1 = 61; omega) sh_61 rfl (by decide) ?_
  refine wq_putR (pc := 17) (z := 1) dP_init_17 fW_P_15 sh_59 rfl (fun _ => rfl) (fun _ => ⟨rfl, rfl⟩) rfl (by decide) ?_
  refine wq_aload_n (pc := 20) dP_init_20 rfl rfl ?_
  refine wq_bipush (pc := 21) dP_init_21 rfl ?_
  refine wq_newI (pc := 23) (a := 62) (N := 16) (cb := 0) (sb := 0) dP_init_23 aT_int (by have h0 := hn; show nx M + 2 = 62; omega) sh_62 rfl (by decide) ?_
  refine wq_putR (pc := 25) (z := 2) dP_init_25 fW_P_18 sh_59 rfl (fun _ => rfl) (fun _ => ⟨rfl, rfl⟩) rfl (by decide) ?_
  refine wq_return (pc := 28) dP_init_28 trivial ?_
  refine hq _ ⟨by show nx M + 3 = 63; omega, fun b i => ?_, rfl, fun b j hb => ?_⟩ (fun q hq => ?_)
  · show gI M b i = gI M b i
    by_cases c : b = 59
    · rw [c, hz]
      repeat' split
      all_goals rfl
    · simp only [c, false_and, if_false]
  · have c : b ≠ 59 := by omega
    show (if b = 59 ∧ j = 2 then some 62 else (if b = 59 ∧ j = 1 then some 61 else (if b = 59 ∧ j = 0 then some 60 else gR M b j))) = gR M b j
    simp only [c, false_and, if_false]
  · simp only [List.mem_cons, List.not_mem_nil, or_false] at hq
    rcases hq with z | z | z <;> subst z <;> rfl
theorem K_R_63 (hn : nx M = 64) (hz : ∀ i, gI M 63 i = 0) (hq : ∀ M', Kc 63 66 M M' → PR [(63, 0, 64)] M' → Q M' none) : Wq 1 2 6 mR_init 0 [iR 63] [] M Q := by
  refine wq_aload_n (pc := 0) dR_init_0 rfl rfl ?_
  refine wq_objInit (pc := 1) dR_init_1 oO_R_3 oI oC rfl ?_
  refine wq_aload_n (pc := 4) dR_init_4 rfl rfl ?_
  refine wq_bipush (pc := 5) dR_init_5 rfl ?_
  refine wq_newI (pc := 7) (a := 64) (N := 6) (cb := 1) (sb := 0) dR_init_7 aT_int hn sh_64 rfl (by decide) ?_
  refine wq_putR (pc := 9) (z := 0) dR_init_9 fW_R_9 sh_63 rfl (fun _ => rfl) (fun _ => ⟨rfl, rfl⟩) rfl (by decide) ?_
  refine wq_aload_n (pc := 12) dR_init_12 rfl rfl ?_
  refine wq_iconst (pc := 13) dR_init_13 rfl ?_
  refine wq_newB (pc := 14) (a := 65) (N := 0) (cb := 0) (sb := 0) dR_init_14 aT_byte (by have h0 := hn; show nx M + 1 = 65; omega) sh_65 rfl (by decide) ?_
  refine wq_putR (pc := 16) (z := 1) dR_init_16 fW_R_15 sh_63 rfl (fun h => by cases h) (fun _ => ⟨rfl, rfl⟩) rfl (by decide) ?_
  refine wq_aload_n (pc := 19) dR_init_19 rfl rfl ?_
  refine wq_iconst (pc := 20) dR_init_20 rfl ?_
  refine wq_putI (pc := 21) (z := 2) dR_init_21 fW_R_19 sh_63 rfl rfl ?_
  refine wq_aload_n (pc := 24) dR_init_24 rfl rfl ?_
  refine wq_iconst (pc := 25) dR_init_25 rfl ?_
  refine wq_putI (pc := 26) (z := 3) dR_init_26 fW_R_23 sh_63 rfl rfl ?_
  refine wq_aload_n (pc := 29) dR_init_29 rfl rfl ?_
  refine wq_iconst (pc := 30) dR_init_30 rfl ?_
  refine wq_putI (pc := 31) (z := 4) dR_init_31 fW_R_26 sh_63 rfl rfl ?_
  refine wq_aload_n (pc := 34) dR_init_34 rfl rfl ?_
  refine wq_iconst (pc := 35) dR_init_35 rfl ?_
  refine wq_putI (pc := 36) (z := 5) dR_init_36 fW_R_29 sh_63 rfl rfl ?_
  refine wq_aload_n (pc := 39) dR_init_39 rfl rfl ?_
  refine wq_iconst (pc := 40) dR_init_40 rfl ?_
  refine wq_putZ (pc := 41) (z := 6) dR_init_41 fW_R_32 sh_63 rfl rfl (Or.inl rfl) ?_
  refine wq_return (pc := 44) dR_init_44 trivial ?_
  refine hq _ ⟨by show nx M + 2 = 66; omega, fun b i => ?_, rfl, fun b j hb => ?_⟩ (fun q hq => ?_)
  · show (if b = 63 ∧ i = 6 then (0 : Int) else (if b = 63 ∧ i = 5 then (0 : Int) else (if b = 63 ∧ i = 4 then (0 : Int) else (if b = 63 ∧ i = 3 then (0 : Int) else (if b = 63 ∧ i = 2 then (0 : Int) else gI M b i))))) = gI M b i
    by_cases c : b = 63
    · rw [c, hz]
      repeat' split
      all_goals rfl
    · simp only [c, false_and, if_false]
  · have c : b ≠ 63 := by omega
    show (if b = 63 ∧ j = 1 then some 65 else (if b = 63 ∧ j = 0 then some 64 else gR M b j)) = gR M b j
    simp only [c, false_and, if_false]
  · simp only [List.mem_cons, List.not_mem_nil, or_false] at hq
    subst hq
    rfl
theorem K_V_66 (hn : nx M = 67) (hz : ∀ i, gI M 66 i = 0) (hq : ∀ M', Kc 66 68 M M' → PR [(66, 0, 67)] M' → Q M' none) : Wq 1 1 40 mV_init 0 [iR 66] [] M Q := by
  refine wq_aload_n (pc := 0) dV_init_0 rfl rfl ?_
  refine wq_objInit (pc := 1) dV_init_1 oO_V_3 oI oC rfl ?_
  refine wq_aload_n (pc := 4) dV_init_4 rfl rfl ?_
  refine wq_bipush (pc := 5) dV_init_5 rfl ?_
  refine wq_newI (pc := 7) (a := 67) (N := 40) (cb := 0) (sb := 0) dV_init_7 aT_int hn sh_67 rfl (by decide) ?_
  refine wq_putR (pc := 9) (z := 0) dV_init_9 fW_V_9 sh_66 rfl (fun _ => rfl) (fun _ => ⟨rfl, rfl⟩) rfl (by decide) ?_
  refine wq_aload_n (pc := 12) dV_init_12 rfl rfl ?_
  refine wq_iconst (pc := 13) dV_init_13 rfl ?_
  refine wq_putI (pc := 14) (z := 1) dV_init_14 fW_V_15 sh_66 rfl rfl ?_
  refine wq_aload_n (pc := 17) dV_init_17 rfl rfl ?_
  refine wq_iconst (pc := 18) dV_init_18 rfl ?_
  refine wq_putI (pc := 19) (z := 2) dV_init_19 fW_V_19 sh_66 rfl rfl ?_
  refine wq_aload_n (pc := 22) dV_init_22 rfl rfl ?_
  refine wq_iconst (pc := 23) dV_init_23 rfl ?_
  refine wq_putI (pc := 24) (z := 3) dV_init_24 fW_V_22 sh_66 rfl rfl ?_
  refine wq_aload_n (pc := 27) dV_init_27 rfl rfl ?_
  refine wq_iconst (pc := 28) dV_init_28 rfl ?_
  refine wq_putI (pc := 29) (z := 4) dV_init_29 fW_V_25 sh_66 rfl rfl ?_
  refine wq_return (pc := 32) dV_init_32 trivial ?_
  refine hq _ ⟨by show nx M + 1 = 68; omega, fun b i => ?_, rfl, fun b j hb => ?_⟩ (fun q hq => ?_)
  · show (if b = 66 ∧ i = 4 then (0 : Int) else (if b = 66 ∧ i = 3 then (0 : Int) else (if b = 66 ∧ i = 2 then (0 : Int) else (if b = 66 ∧ i = 1 then (0 : Int) else gI M b i)))) = gI M b i
    by_cases c : b = 66
    · rw [c, hz]
      repeat' split
      all_goals rfl
    · simp only [c, false_and, if_false]
  · have c : b ≠ 66 := by omega
    show (if b = 66 ∧ j = 0 then some 67 else gR M b j) = gR M b j
    simp only [c, false_and, if_false]
  · simp only [List.mem_cons, List.not_mem_nil, or_false] at hq
    subst hq
    rfl
theorem K_S_72 (hn : nx M = 73) (hz : ∀ i, gI M 72 i = 0) (hq : ∀ M', Kc 72 74 M M' → PR [(72, 0, 73)] M' → Q M' none) : Wq 1 1 24 mS_init 0 [iR 72] [] M Q := by
  refine wq_aload_n (pc := 0) dS_init_0 rfl rfl ?_
  refine wq_objInit (pc := 1) dS_init_1 oO_S_3 oI oC rfl ?_
  refine wq_aload_n (pc := 4) dS_init_4 rfl rfl ?_
  refine wq_bipush (pc := 5) dS_init_5 rfl ?_
  refine wq_newI (pc := 7) (a := 73) (N := 24) (cb := 0) (sb := 0) dS_init_7 aT_int hn sh_73 rfl (by decide) ?_
  refine wq_putR (pc := 9) (z := 0) dS_init_9 fW_S_9 sh_72 rfl (fun _ => rfl) (fun _ => ⟨rfl, rfl⟩) rfl (by decide) ?_
  refine wq_aload_n (pc := 12) dS_init_12 rfl rfl ?_
  refine wq_iconst (pc := 13) dS_init_13 rfl ?_
  refine wq_putI (pc := 14) (z := 1) dS_init_14 fW_S_15 sh_72 rfl rfl ?_
  refine wq_aload_n (pc := 17) dS_init_17 rfl rfl ?_
  refine wq_iconst (pc := 18) dS_init_18 rfl ?_
  refine wq_putI (pc := 19) (z := 2) dS_init_19 fW_S_19 sh_72 rfl rfl ?_
  refine wq_return (pc := 22) dS_init_22 trivial ?_
  refine hq _ ⟨by show nx M + 1 = 74; omega, fun b i => ?_, rfl, fun b j hb => ?_⟩ (fun q hq => ?_)
  · show (if b = 72 ∧ i = 2 then (0 : Int) else (if b = 72 ∧ i = 1 then (0 : Int) else gI M b i)) = gI M b i
    by_cases c : b = 72
    · rw [c, hz]
      repeat' split
      all_goals rfl
    · simp only [c, false_and, if_false]
  · have c : b ≠ 72 := by omega
    show (if b = 72 ∧ j = 0 then some 73 else gR M b j) = gR M b j
    simp only [c, false_and, if_false]
  · simp only [List.mem_cons, List.not_mem_nil, or_false] at hq
    subst hq
    rfl
theorem K_S_74 (hn : nx M = 75) (hz : ∀ i, gI M 74 i = 0) (hq : ∀ M', Kc 74 76 M M' → PR [(74, 0, 75)] M' → Q M' none) : Wq 1 1 24 mS_init 0 [iR 74] [] M Q := by
  refine wq_aload_n (pc := 0) dS_init_0 rfl rfl ?_
  refine wq_objInit (pc := 1) dS_init_1 oO_S_3 oI oC rfl ?_
  refine wq_aload_n (pc := 4) dS_init_4 rfl rfl ?_
  refine wq_bipush (pc := 5) dS_init_5 rfl ?_
  refine wq_newI (pc := 7) (a := 75) (N := 24) (cb := 0) (sb := 0) dS_init_7 aT_int hn sh_75 rfl (by decide) ?_
  refine wq_putR (pc := 9) (z := 0) dS_init_9 fW_S_9 sh_74 rfl (fun _ => rfl) (fun _ => ⟨rfl, rfl⟩) rfl (by decide) ?_
  refine wq_aload_n (pc := 12) dS_init_12 rfl rfl ?_
  refine wq_iconst (pc := 13) dS_init_13 rfl ?_
  refine wq_putI (pc := 14) (z := 1) dS_init_14 fW_S_15 sh_74 rfl rfl ?_
  refine wq_aload_n (pc := 17) dS_init_17 rfl rfl ?_
  refine wq_iconst (pc := 18) dS_init_18 rfl ?_
  refine wq_putI (pc := 19) (z := 2) dS_init_19 fW_S_19 sh_74 rfl rfl ?_
  refine wq_return (pc := 22) dS_init_22 trivial ?_
  refine hq _ ⟨by show nx M + 1 = 76; omega, fun b i => ?_, rfl, fun b j hb => ?_⟩ (fun q hq => ?_)
  · show (if b = 74 ∧ i = 2 then (0 : Int) else (if b = 74 ∧ i = 1 then (0 : Int) else gI M b i)) = gI M b i
    by_cases c : b = 74
    · rw [c, hz]
      repeat' split
      all_goals rfl
    · simp only [c, false_and, if_false]
  · have c : b ≠ 74 := by omega
    show (if b = 74 ∧ j = 0 then some 75 else gR M b j) = gR M b j
    simp only [c, false_and, if_false]
  · simp only [List.mem_cons, List.not_mem_nil, or_false] at hq
    subst hq
    rfl
theorem K_S_76 (hn : nx M = 77) (hz : ∀ i, gI M 76 i = 0) (hq : ∀ M', Kc 76 78 M M' → PR [(76, 0, 77)] M' → Q M' none) : Wq 1 1 24 mS_init 0 [iR 76] [] M Q := by
  refine wq_aload_n (pc := 0) dS_init_0 rfl rfl ?_
  refine wq_objInit (pc := 1) dS_init_1 oO_S_3 oI oC rfl ?_
  refine wq_aload_n (pc := 4) dS_init_4 rfl rfl ?_
  refine wq_bipush (pc := 5) dS_init_5 rfl ?_
  refine wq_newI (pc := 7) (a := 77) (N := 24) (cb := 0) (sb := 0) dS_init_7 aT_int hn sh_77 rfl (by decide) ?_
  refine wq_putR (pc := 9) (z := 0) dS_init_9 fW_S_9 sh_76 rfl (fun _ => rfl) (fun _ => ⟨rfl, rfl⟩) rfl (by decide) ?_
  refine wq_aload_n (pc := 12) dS_init_12 rfl rfl ?_
  refine wq_iconst (pc := 13) dS_init_13 rfl ?_
  refine wq_putI (pc := 14) (z := 1) dS_init_14 fW_S_15 sh_76 rfl rfl ?_
  refine wq_aload_n (pc := 17) dS_init_17 rfl rfl ?_
  refine wq_iconst (pc := 18) dS_init_18 rfl ?_
  refine wq_putI (pc := 19) (z := 2) dS_init_19 fW_S_19 sh_76 rfl rfl ?_
  refine wq_return (pc := 22) dS_init_22 trivial ?_
  refine hq _ ⟨by show nx M + 1 = 78; omega, fun b i => ?_, rfl, fun b j hb => ?_⟩ (fun q hq => ?_)
  · show (if b = 76 ∧ i = 2 then (0 : Int) else (if b = 76 ∧ i = 1 then (0 : Int) else gI M b i)) = gI M b i
    by_cases c : b = 76
    · rw [c, hz]
      repeat' split
      all_goals rfl
    · simp only [c, false_and, if_false]
  · have c : b ≠ 76 := by omega
    show (if b = 76 ∧ j = 0 then some 77 else gR M b j) = gR M b j
    simp only [c, false_and, if_false]
  · simp only [List.mem_cons, List.not_mem_nil, or_false] at hq
    subst hq
    rfl
theorem K_S_78 (hn : nx M = 79) (hz : ∀ i, gI M 78 i = 0) (hq : ∀ M', Kc 78 80 M M' → PR [(78, 0, 79)] M' → Q M' none) : Wq 1 1 24 mS_init 0 [iR 78] [] M Q := by
  refine wq_aload_n (pc := 0) dS_init_0 rfl rfl ?_
  refine wq_objInit (pc := 1) dS_init_1 oO_S_3 oI oC rfl ?_
  refine wq_aload_n (pc := 4) dS_init_4 rfl rfl ?_
  refine wq_bipush (pc := 5) dS_init_5 rfl ?_
  refine wq_newI (pc := 7) (a := 79) (N := 24) (cb := 0) (sb := 0) dS_init_7 aT_int hn sh_79 rfl (by decide) ?_
  refine wq_putR (pc := 9) (z := 0) dS_init_9 fW_S_9 sh_78 rfl (fun _ => rfl) (fun _ => ⟨rfl, rfl⟩) rfl (by decide) ?_
  refine wq_aload_n (pc := 12) dS_init_12 rfl rfl ?_
  refine wq_iconst (pc := 13) dS_init_13 rfl ?_
  refine wq_putI (pc := 14) (z := 1) dS_init_14 fW_S_15 sh_78 rfl rfl ?_
  refine wq_aload_n (pc := 17) dS_init_17 rfl rfl ?_
  refine wq_iconst (pc := 18) dS_init_18 rfl ?_
  refine wq_putI (pc := 19) (z := 2) dS_init_19 fW_S_19 sh_78 rfl rfl ?_
  refine wq_return (pc := 22) dS_init_22 trivial ?_
  refine hq _ ⟨by show nx M + 1 = 80; omega, fun b i => ?_, rfl, fun b j hb => ?_⟩ (fun q hq => ?_)
  · show (if b = 78 ∧ i = 2 then (0 : Int) else (if b = 78 ∧ i = 1 then (0 : Int) else gI M b i)) = gI M b i
    by_cases c : b = 78
    · rw [c, hz]
      repeat' split
      all_goals rfl
    · simp only [c, false_and, if_false]
  · have c : b ≠ 78 := by omega
    show (if b = 78 ∧ j = 0 then some 79 else gR M b j) = gR M b j
    simp only [c, false_and, if_false]
  · simp only [List.mem_cons, List.not_mem_nil, or_false] at hq
    subst hq
    rfl
theorem K_Y_2 (hn : nx M = 3) (hz2 : ∀ i, gI M 4 i = 0) (hl : ∀ i, gL M 3 i = 0) (hq : ∀ M', (nx M' = 5 ∧ (∀ b i, b ≠ 2 → b ≠ 4 → gI M' b i = gI M b i) ∧ gL M' = gL M ∧ ∀ b j, b < 2 → gR M' b j = gR M b j) → PR [(2, 0, 3), (2, 1, 4)] M' → (gI M' 2 2 = 0 ∧ gI M' 2 3 = 31 ∧ gI M' 2 4 = 5 ∧ ∀ d : Nat, d ≤ 900 → gI M' 4 d = dcn n00 d) → Q M' none) : Wq 3 2 916 mY_init 0 [iR 2] [] M Q := by
  refine wq_aload_n (pc := 0) dY_init_0 rfl rfl ?_
  refine wq_objInit (pc := 1) dY_init_1 oO_Y_3 oI oC rfl ?_
  refine wq_aload_n (pc := 4) dY_init_4 rfl rfl ?_
  refine wq_bipush (pc := 5) dY_init_5 rfl ?_
  refine wq_newL (pc := 7) (a := 3) (N := 15) (cb := 1) (sb := 901) dY_init_7 aT_long hn sh_3 rfl (by decide) ?_
  refine wq_putR (pc := 9) (z := 0) dY_init_9 fW_Y_9 sh_2 rfl (fun _ => rfl) (fun _ => ⟨rfl, rfl⟩) rfl (by decide) ?_
  refine wq_aload_n (pc := 12) dY_init_12 rfl rfl ?_
  refine wq_sipush (pc := 13) dY_init_13 rfl ?_
  refine wq_newI (pc := 16) (a := 4) (N := 901) (cb := 0) (sb := 0) dY_init_16 aT_int (by have h0 := hn; show nx M + 1 = 4; omega) sh_4 rfl (by decide) ?_
  refine wq_putR (pc := 18) (z := 1) dY_init_18 fW_Y_15 sh_2 rfl (fun _ => rfl) (fun _ => ⟨rfl, rfl⟩) rfl (by decide) ?_
  refine wq_aload_n (pc := 21) dY_init_21 rfl rfl ?_
  refine wq_iconst (pc := 22) dY_init_22 rfl ?_
  refine wq_putI (pc := 23) (z := 2) dY_init_23 fW_Y_19 sh_2 rfl rfl ?_
  refine wq_aload_n (pc := 26) dY_init_26 rfl rfl ?_
  refine wq_bipush (pc := 27) dY_init_27 rfl ?_
  refine wq_putI (pc := 29) (z := 3) dY_init_29 fW_Y_23 sh_2 rfl rfl ?_
  refine wq_aload_n (pc := 32) dY_init_32 rfl rfl ?_
  refine wq_bipush (pc := 33) dY_init_33 rfl ?_
  refine wq_callS (d' := 1) (pc := 35) (as := [vI 31]) (rest := [vR 2]) (lo' := [iI 31]) dY_init_35 mO_J_bitCount lS_Y_26 rfl rfl rfl rfl rfl rfl ?_
  refine sp_J_bitCount (by decide) (by decide) ?_
  show Wq 3 _ _ mY_init 38 [iR 2] [vI 5, vR 2] _ Q
  refine wq_putI (pc := 38) (z := 4) dY_init_38 fW_Y_32 sh_2 rfl rfl ?_
  refine wq_aload_n (pc := 41) dY_init_41 rfl rfl ?_
  refine wq_iconst (pc := 42) dY_init_42 rfl ?_
  refine wq_callV (d' := 2) (pc := 43) (as := [vI 0]) (rest := []) (lo' := [iR 2, iI 0, none]) dY_init_43 mO_Y_countDry lV_Y_35 sh_2 (by decide) cl_1 rfl rfl rfl rfl rfl rfl ?_
  refine sp_Y_countDry_c2 (n := n00) (x := 0) ⟨rfl, rfl⟩ (by decide) (by decide) rfl (fun d d0 d1 => ?_) (fun d hd => ?_) (fun M1 g0 g1 g2 g3 => ?_)
  · have e : wb (gL M 3) d = false := by
      unfold wb
      rw [hl]
      simp
    refine ⟨fun z => ?_, fun z => ?_⟩
    · have z : wb (gL M 3) d = true := z
      rw [e] at z
      exact absurd z (by decide)
    · unfold n00 at z
      rw [if_neg (by omega)] at z
      exact absurd z (by decide)
  · have : d = 0 := by omega
    subst this
    exact hz2 0
  show Wq 3 _ _ mY_init 46 [iR 2] [] M1 Q
  refine wq_return (pc := 46) dY_init_46 trivial ?_
  refine hq M1 ⟨g2.2.2.trans (by show nx M + 2 = 5; omega), fun b i b1 b2 => ?_, g2.1, fun b j hb => (g2.2.1 b j).trans ?_⟩ (fun q hq => (g2.2.1 q.1 q.2.1).trans ?_) ⟨?_, ?_, ?_, g3⟩
  · rw [g1 b b2]
    show (if b = 2 ∧ i = 4 then (5 : Int) else if b = 2 ∧ i = 3 then 31 else if b = 2 ∧ i = 2 then 0 else gI M b i) = gI M b i
    simp only [b1, false_and, if_false]
  · have c : b ≠ 2 := by omega
    show (if b = 2 ∧ j = 1 then some 4 else if b = 2 ∧ j = 0 then some 3 else gR M b j) = gR M b j
    simp only [c, false_and, if_false]
  · simp only [List.mem_cons, List.not_mem_nil, or_false] at hq
    rcases hq with z | z <;> subst z <;> rfl
  · rw [g1 2 (by decide)]
    rfl
  · rw [g1 2 (by decide)]
    rfl
  · rw [g1 2 (by decide)]
    rfl
theorem K_Y_31 (hn : nx M = 32) (hz2 : ∀ i, gI M 33 i = 0) (hl : ∀ i, gL M 32 i = 0) (hq : ∀ M', (nx M' = 34 ∧ (∀ b i, b ≠ 31 → b ≠ 33 → gI M' b i = gI M b i) ∧ gL M' = gL M ∧ ∀ b j, b < 31 → gR M' b j = gR M b j) → PR [(31, 0, 32), (31, 1, 33)] M' → (gI M' 31 2 = 0 ∧ gI M' 31 3 = 31 ∧ gI M' 31 4 = 5 ∧ ∀ d : Nat, d ≤ 900 → gI M' 33 d = dcn n00 d) → Q M' none) : Wq 3 2 916 mY_init 0 [iR 31] [] M Q := by
  refine wq_aload_n (pc := 0) dY_init_0 rfl rfl ?_
  refine wq_objInit (pc := 1) dY_init_1 oO_Y_3 oI oC rfl ?_
  refine wq_aload_n (pc := 4) dY_init_4 rfl rfl ?_
  refine wq_bipush (pc := 5) dY_init_5 rfl ?_
  refine wq_newL (pc := 7) (a := 32) (N := 15) (cb := 1) (sb := 901) dY_init_7 aT_long hn sh_32 rfl (by decide) ?_
  refine wq_putR (pc := 9) (z := 0) dY_init_9 fW_Y_9 sh_31 rfl (fun _ => rfl) (fun _ => ⟨rfl, rfl⟩) rfl (by decide) ?_
  refine wq_aload_n (pc := 12) dY_init_12 rfl rfl ?_
  refine wq_sipush (pc := 13) dY_init_13 rfl ?_
  refine wq_newI (pc := 16) (a := 33) (N := 901) (cb := 0) (sb := 0) dY_init_16 aT_int (by have h0 := hn; show nx M + 1 = 33; omega) sh_33 rfl (by decide) ?_
  refine wq_putR (pc := 18) (z := 1) dY_init_18 fW_Y_15 sh_31 rfl (fun _ => rfl) (fun _ => ⟨rfl, rfl⟩) rfl (by decide) ?_
  refine wq_aload_n (pc := 21) dY_init_21 rfl rfl ?_
  refine wq_iconst (pc := 22) dY_init_22 rfl ?_
  refine wq_putI (pc := 23) (z := 2) dY_init_23 fW_Y_19 sh_31 rfl rfl ?_
  refine wq_aload_n (pc := 26) dY_init_26 rfl rfl ?_
  refine wq_bipush (pc := 27) dY_init_27 rfl ?_
  refine wq_putI (pc := 29) (z := 3) dY_init_29 fW_Y_23 sh_31 rfl rfl ?_
  refine wq_aload_n (pc := 32) dY_init_32 rfl rfl ?_
  refine wq_bipush (pc := 33) dY_init_33 rfl ?_
  refine wq_callS (d' := 1) (pc := 35) (as := [vI 31]) (rest := [vR 31]) (lo' := [iI 31]) dY_init_35 mO_J_bitCount lS_Y_26 rfl rfl rfl rfl rfl rfl ?_
  refine sp_J_bitCount (by decide) (by decide) ?_
  show Wq 3 _ _ mY_init 38 [iR 31] [vI 5, vR 31] _ Q
  refine wq_putI (pc := 38) (z := 4) dY_init_38 fW_Y_32 sh_31 rfl rfl ?_
  refine wq_aload_n (pc := 41) dY_init_41 rfl rfl ?_
  refine wq_iconst (pc := 42) dY_init_42 rfl ?_
  refine wq_callV (d' := 2) (pc := 43) (as := [vI 0]) (rest := []) (lo' := [iR 31, iI 0, none]) dY_init_43 mO_Y_countDry lV_Y_35 sh_31 (by decide) cl_1 rfl rfl rfl rfl rfl rfl ?_
  refine sp_Y_countDry_c31 (n := n00) (x := 0) ⟨rfl, rfl⟩ (by decide) (by decide) rfl (fun d d0 d1 => ?_) (fun d hd => ?_) (fun M1 g0 g1 g2 g3 => ?_)
  · have e : wb (gL M 32) d = false := by
      unfold wb
      rw [hl]
      simp
    refine ⟨fun z => ?_, fun z => ?_⟩
    · have z : wb (gL M 32) d = true := z
      rw [e] at z
      exact absurd z (by decide)
    · unfold n00 at z
      rw [if_neg (by omega)] at z
      exact absurd z (by decide)
  · have : d = 0 := by omega
    subst this
    exact hz2 0
  show Wq 3 _ _ mY_init 46 [iR 31] [] M1 Q
  refine wq_return (pc := 46) dY_init_46 trivial ?_
  refine hq M1 ⟨g2.2.2.trans (by show nx M + 2 = 34; omega), fun b i b1 b2 => ?_, g2.1, fun b j hb => (g2.2.1 b j).trans ?_⟩ (fun q hq => (g2.2.1 q.1 q.2.1).trans ?_) ⟨?_, ?_, ?_, g3⟩
  · rw [g1 b b2]
    show (if b = 31 ∧ i = 4 then (5 : Int) else if b = 31 ∧ i = 3 then 31 else if b = 31 ∧ i = 2 then 0 else gI M b i) = gI M b i
    simp only [b1, false_and, if_false]
  · have c : b ≠ 31 := by omega
    show (if b = 31 ∧ j = 1 then some 33 else if b = 31 ∧ j = 0 then some 32 else gR M b j) = gR M b j
    simp only [c, false_and, if_false]
  · simp only [List.mem_cons, List.not_mem_nil, or_false] at hq
    rcases hq with z | z <;> subst z <;> rfl
  · rw [g1 31 (by decide)]
    rfl
  · rw [g1 31 (by decide)]
    rfl
  · rw [g1 31 (by decide)]
    rfl
end CON
