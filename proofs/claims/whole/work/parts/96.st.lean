/-! ===== the law's start ===== -/
section LST
variable {M : Mm}
def s00 : St := (n00, fun _ => 0, 0, fun _ => 0, fun _ => 0, fun _ => 0, fun _ => 0, fun _ => 0, 0)
theorem n00_0 {i : Int} (h : i ≠ 1) : n00 i = 0 := if_neg h
theorem rsm_0 : ∀ k : Nat, rsm n00 k = 0
  | 0 => rfl
  | k + 1 => by
    show rsm n00 k + n00 (1033 + (k : Int)) = 0
    rw [rsm_0 k, n00_0 (by omega)]
    rfl
theorem wf00 : WfS s00 := by
  refine ⟨⟨?_, ?_, ?_, ?_, ?_, ?_, ?_, ?_⟩, fun c => absurd rfl c, trivial, fun q q0 q1 => ⟨Or.inl rfl, by show 0 ≤ (0 : Int) ∧ (0 : Int) ≤ 24; decide⟩, by show 0 ≤ (0 : Int) ∧ (0 : Int) ≤ 40; decide⟩
  · show 0 ≤ n00 0 ∧ n00 0 ≤ 900
    decide
  · exact ⟨by show 1 ≤ n00 1 ∧ n00 1 ≤ 127; decide, fun d d0 d1 => Or.inl (n00_0 (by omega))⟩
  · exact ⟨by show 0 ≤ n00 2 ∧ n00 2 ≤ 16; decide, fun w w0 w1 => by have w1 : w < 0 := w1; omega⟩
  · refine ⟨by show 0 ≤ n00 3 ∧ n00 3 ≤ 30; decide, fun k k0 k1 => ?_, fun j k j0 j1 => ?_, fun _ => 0, fun _ => ⟨Int.le_refl _, by show (0 : Int) < 16; decide⟩, fun i j h => ?_⟩
    · have k1 : k < 0 := k1
      omega
    · have j1 : j < 0 := j1
      omega
    · obtain ⟨k, k0, k1, _⟩ := h
      have k1 : k < 0 := k1
      omega
  · exact ⟨by show 0 ≤ n00 4 ∧ n00 4 ≤ 20; decide, fun e e0 e1 => by have e1 : e < 0 := e1; omega⟩
  · exact ⟨by show 0 ≤ n00 7 ∧ n00 7 ≤ 60; decide, fun e e0 e1 => by have e1 : e < 0 := e1; omega⟩
  · exact ⟨by show 0 ≤ n00 5 ∧ n00 5 ≤ 10; decide, fun e e0 e1 => by have e1 : e < 0 := e1; omega⟩
  · exact ⟨by show 0 ≤ n00 6 ∧ n00 6 ≤ 5; decide, fun e e0 e1 => by have e1 : e < 0 := e1; omega, fun g h g0 g1 => by have g1 : g < 0 := g1; omega⟩
theorem ci00 (hS : RefOK M) (hz : ∀ b i, b < 80 → b ≠ 2 → b ≠ 4 → b ≠ 31 → b ≠ 33 → gI M b i = 0) (hl : ∀ i, gL M 3 i = 0) (dy : gI M 2 2 = 0 ∧ gI M 2 3 = 31 ∧ gI M 2 4 = 5 ∧ ∀ d : Nat, d ≤ 900 → gI M 4 d = dcn n00 d) (tb : (∀ i, 0 ≤ i → i < 6 → gI M 1001 i = (if i = 0 then -1 else if i = 3 ∨ i = 5 then 2 else 0)) ∧ gI M 1002 0 = 10 ∧ gI M 1002 1 = 11 ∧ gI M 1002 2 = 12 ∧ gI M 1002 3 = 13 ∧ gI M 1002 4 = 0 ∧ gI M 1002 5 = 20 ∧ gI M 1002 6 = 0 ∧ gI M 1002 7 = 0 ∧ gI M 1002 8 = 30 ∧ gI M 1002 9 = 0 ∧ gI M 1002 10 = 0 ∧ gI M 1002 11 = 31 ∧ gI M 1002 12 = 41 ∧ gI M 1002 13 = 0 ∧ gI M 1002 14 = 40 ∧ gI M 1002 15 = 0 ∧ gI M 1002 16 = 0 ∧ gI M 1002 17 = 0 ∧ gI M 1002 18 = 0 ∧ gI M 1002 19 = 50 ∧ gI M 1002 20 = 0 ∧ gI M 1002 21 = 61 ∧ gI M 1002 22 = 60 ∧ gI M 1002 23 = 0) : CI s00 M := by
  have z : ∀ (b : Nat) i, (b < 80 ∧ b ≠ 2 ∧ b ≠ 4 ∧ b ≠ 31 ∧ b ≠ 33) → gI M b i = 0 := fun b i h => hz b i h.1 h.2.1 h.2.2.1 h.2.2.2.1 h.2.2.2.2
  refine ⟨hS, ⟨?_, ?_, ?_, ?_, ?_, ?_, ?_, ?_⟩, fun c => absurd rfl c, z 0 9 (by decide), fun k k0 k1 => z 69 k (by decide), ⟨⟨z 72 1 (by decide), z 72 2 (by decide), fun i _ _ => z 73 i (by decide)⟩, ⟨z 74 1 (by decide), z 74 2 (by decide), fun i _ _ => z 75 i (by decide)⟩, ⟨z 76 1 (by decide), z 76 2 (by decide), fun i _ _ => z 77 i (by decide)⟩, ⟨z 78 1 (by decide), z 78 2 (by decide), fun i _ _ => z 79 i (by decide)⟩⟩, ⟨z 66 1 (by decide), fun i i0 i1 => by have i1 : i < 0 := i1; omega⟩, tb⟩
  · exact z 1 5 (by decide)
  · refine ⟨dy.2.1, dy.2.2.1.trans (by decide), fun d d0 d1 => ?_, dy.2.2.2, dy.1.trans (rsm_0 900).symm⟩
    have e : wb (gL M 3) d = false := by
      unfold wb
      rw [hl]
      simp
    rw [e]
    refine ⟨fun q => absurd q (by decide), fun q => ?_⟩
    have q : n00 (1033 + d) = 1 := q
    rw [n00_0 (by omega)] at q
    exact absurd q (by decide)
  · exact ⟨z 5 6 (by decide), fun w w0 w1 => by have w1 : w < 0 := w1; omega⟩
  · refine ⟨z 5 7 (by decide), fun w w0 w1 => by have w1 : w < 0 := w1; omega, fun k k0 k1 => by have k1 : k < 0 := k1; omega, fun p p0 p1 => by have p1 : p < 0 := p1; omega, fun p q p0 p1 => by have p1 : p < 0 := p1; omega, fun p q p0 p1 => by have p1 : p < 0 := p1; omega⟩
  · exact ⟨z 12 7 (by decide), fun w w0 w1 => by have w1 : w < 0 := w1; omega⟩
  · exact ⟨z 20 5 (by decide), fun w w0 w1 => by have w1 : w < 0 := w1; omega⟩
  · exact ⟨z 20 6 (by decide), fun w w0 w1 => by have w1 : w < 0 := w1; omega⟩
  · exact ⟨z 26 3 (by decide), fun w w0 w1 => by have w1 : w < 0 := w1; omega⟩
theorem ri00 (hS : RefOK M) (e1 : ∀ i, gI M 81 i = n00 i) (hz : ∀ b i, 82 ≤ b → b ≤ 98 → b ≠ 92 → gI M b i = 0) (e8 : gI M 80 2 = 0 ∧ gI M 80 8 = 0 ∧ gI M 80 13 = 0) : RI s00 M := by
  have z : ∀ b : Nat, (82 ≤ b ∧ b ≤ 98 ∧ b ≠ 92) → gI M b = fun _ => 0 := fun b h => funext fun i => hz b i h.1 h.2.1 h.2.2
  exact ⟨hS, funext e1, z 82 (by decide), e8.1, z 83 (by decide), z 84 (by decide), z 85 (by decide), z 86 (by decide), z 87 (by decide), e8.2.1, Or.inl e8.2.2, fun w w0 w1 => by have w1 : w < 0 := w1; omega⟩
theorem law_start (hn : nx M = 0) (hz : ∀ b i, b < 1000 → gI M b i = 0) (hl : ∀ b i, b < 1000 → gL M b i = 0) (tb : (∀ i, 0 ≤ i → i < 6 → gI M 1001 i = (if i = 0 then -1 else if i = 3 ∨ i = 5 then 2 else 0)) ∧ gI M 1002 0 = 10 ∧ gI M 1002 1 = 11 ∧ gI M 1002 2 = 12 ∧ gI M 1002 3 = 13 ∧ gI M 1002 4 = 0 ∧ gI M 1002 5 = 20 ∧ gI M 1002 6 = 0 ∧ gI M 1002 7 = 0 ∧ gI M 1002 8 = 30 ∧ gI M 1002 9 = 0 ∧ gI M 1002 10 = 0 ∧ gI M 1002 11 = 31 ∧ gI M 1002 12 = 41 ∧ gI M 1002 13 = 0 ∧ gI M 1002 14 = 40 ∧ gI M 1002 15 = 0 ∧ gI M 1002 16 = 0 ∧ gI M 1002 17 = 0 ∧ gI M 1002 18 = 0 ∧ gI M 1002 19 = 50 ∧ gI M 1002 20 = 0 ∧ gI M 1002 21 = 61 ∧ gI M 1002 22 = 60 ∧ gI M 1002 23 = 0) (L1 : gI M 1000 (-1) ≤ 384) (L0 : 0 ≤ gI M 1000 (-1)) : Wq 56 99 8937 mL_law 0 [iR 1000, none, none, none] [] M LQ := by
  refine wq_new (pc := 0) (a := 0) (N := 10) (cb := 98) (sb := 8927) dL_law_0 cO_L_7 hn sh_0 ?_
  refine wq_dup (pc := 3) dL_law_3 rfl ?_
  refine wq_callI (d' := 5) (cb' := 79) (sb' := 4507) (cb := 19) (sb := 4420) (pc := 4) (as := []) (rest := [vR 0]) (lo' := [iR 0, none]) dL_law_4 mO_D_init lI_L_9 rfl rfl rfl rfl rfl rfl ?_
  refine K_D (by show nx M + 1 = 1; omega) hz hl (fun M1 a1 a2 a3 a4 a5 => ?_)
  show Wq 56 _ _ mL_law 7 [iR 1000, none, none, none] [vR 0] M1 LQ
  refine wq_astore_n (pc := 7) (lo' := [iR 1000, iR 0, none, none]) dL_law_7 rfl rfl rfl ?_
  refine wq_new (pc := 8) (a := 80) (N := 26) (cb := 18) (sb := 4394) dL_law_8 cO_L_10 a1 sh_80 ?_
  refine wq_dup (pc := 11) dL_law_11 rfl ?_
  refine wq_callI (d' := 2) (cb' := 18) (sb' := 4394) (cb := 0) (sb := 0) (pc := 12) (as := []) (rest := [vR 80]) (lo' := [iR 80]) dL_law_12 mO_M_init lI_L_12 rfl rfl rfl rfl rfl rfl ?_
  refine K_M (by show nx M1 + 1 = 81; omega) (fun b i c => (a2 b i (by omega) (by omega) (by omega) (by omega)).trans (hz b i (by omega))) a4 (fun M2 b1 b2 b3 b4 b5 b6 b7 => ?_)
  show Wq 56 0 0 mL_law 15 [iR 1000, iR 0, none, none] [vR 80] M2 LQ
  refine wq_astore_n (pc := 15) (lo' := [iR 1000, iR 0, iR 80, none]) dL_law_15 rfl rfl rfl ?_
  refine wq_iconst (pc := 16) dL_law_16 rfl ?_
  refine wq_istore_n (pc := 17) (lo' := [iR 1000, iR 0, iR 80, iI 0]) dL_law_17 rfl rfl rfl ?_
  have up : ∀ b i, 1000 ≤ b → gI M2 b i = gI M b i := fun b i h => (b2 b i (Or.inr h)).trans (a2 b i (by omega) (by omega) (by omega) (by omega))
  have lo : ∀ b i, b < 80 → gI M2 b i = gI M1 b i := fun b i h => b2 b i (Or.inl h)
  have tb2 : (∀ i, 0 ≤ i → i < 6 → gI M2 1001 i = (if i = 0 then -1 else if i = 3 ∨ i = 5 then 2 else 0)) ∧ gI M2 1002 0 = 10 ∧ gI M2 1002 1 = 11 ∧ gI M2 1002 2 = 12 ∧ gI M2 1002 3 = 13 ∧ gI M2 1002 4 = 0 ∧ gI M2 1002 5 = 20 ∧ gI M2 1002 6 = 0 ∧ gI M2 1002 7 = 0 ∧ gI M2 1002 8 = 30 ∧ gI M2 1002 9 = 0 ∧ gI M2 1002 10 = 0 ∧ gI M2 1002 11 = 31 ∧ gI M2 1002 12 = 41 ∧ gI M2 1002 13 = 0 ∧ gI M2 1002 14 = 40 ∧ gI M2 1002 15 = 0 ∧ gI M2 1002 16 = 0 ∧ gI M2 1002 17 = 0 ∧ gI M2 1002 18 = 0 ∧ gI M2 1002 19 = 50 ∧ gI M2 1002 20 = 0 ∧ gI M2 1002 21 = 61 ∧ gI M2 1002 22 = 60 ∧ gI M2 1002 23 = 0 := by
    have e1 : gI M2 1001 = gI M 1001 := funext fun i => up 1001 i (by decide)
    have e2 : gI M2 1002 = gI M 1002 := funext fun i => up 1002 i (by decide)
    rw [e1, e2]
    exact tb
  refine law_loop (gI M2 1000 (-1) - 0).toNat 0 s00 M2 wf00 (ci00 b1 (fun b i c c1 c2 c3 c4 => (lo b i c).trans ((a2 b i c1 c2 c3 c4).trans (hz b i (by omega)))) (fun i => ?_) ⟨(lo 2 2 (by decide)).trans a5.1, (lo 2 3 (by decide)).trans a5.2.1, (lo 2 4 (by decide)).trans a5.2.2.1, fun d hd => (lo 4 d (by decide)).trans (a5.2.2.2 d hd)⟩ tb2) (ri00 b1 b4 b5 b6) (Int.le_refl 0) (by rw [up 1000 (-1) (by decide)]; exact L1) (by rw [up 1000 (-1) (by decide)]; exact L0) (Nat.le_refl _)
  have e3 : gL M2 = gL M := b3.trans a3
  rw [e3]
  exact hl 3 i (by decide)
end LST
