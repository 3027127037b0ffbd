section CON2
variable {M : Mm} {Q : Mm → Option Mv → Prop}
theorem K_T_1 (hn : nx M = 2) (hz : ∀ b i, 1 ≤ b → b < 1000 → gI M b i = 0) (hl : ∀ b i, 1 ≤ b → b < 1000 → gL M b i = 0) (hq : ∀ M', (nx M' = 30 ∧ (∀ b i, b ≠ 2 → b ≠ 4 → gI M' b i = gI M b i) ∧ gL M' = gL M ∧ ∀ b j, b < 1 → gR M' b j = gR M b j) → PR [(1, 4, 26), (26, 0, 27), (26, 1, 28), (26, 2, 29), (1, 3, 20), (20, 0, 21), (20, 1, 22), (20, 2, 23), (20, 3, 24), (20, 4, 25), (1, 2, 12), (12, 0, 13), (12, 1, 14), (12, 2, 15), (12, 3, 16), (12, 4, 17), (12, 5, 18), (12, 6, 19), (1, 1, 5), (5, 0, 6), (5, 1, 7), (5, 2, 8), (5, 3, 9), (5, 4, 10), (5, 5, 11), (1, 0, 2), (2, 0, 3), (2, 1, 4)] M' → (gI M' 2 2 = 0 ∧ gI M' 2 3 = 31 ∧ gI M' 2 4 = 5 ∧ ∀ d : Nat, d ≤ 900 → gI M' 4 d = dcn n00 d) → Q M' none) : Wq 4 28 2129 mT_init 0 [iR 1] [] M Q := by
  refine wq_aload_n (pc := 0) dT_init_0 rfl rfl ?_
  refine wq_objInit (pc := 1) dT_init_1 oO_T_1 oI oC rfl ?_
  refine wq_aload_n (pc := 4) dT_init_4 rfl rfl ?_
  refine wq_new (pc := 5) (a := 2) (N := 5) (cb := 27) (sb := 2124) dT_init_5 cO_T_7 hn sh_2 ?_
  refine wq_dup (pc := 8) dT_init_8 rfl ?_
  refine wq_callI (d' := 3) (cb' := 2) (sb' := 916) (cb := 25) (sb := 1208) (pc := 9) (as := []) (rest := [vR 2, vR 1]) (lo' := [iR 2]) dT_init_9 mO_Y_init lI_T_9 rfl rfl rfl rfl rfl rfl ?_
  refine K_Y_2 (by have h0 := hn; show nx M + 1 = 3; omega) (fun i => hz 4 i (by decide) (by decide)) (fun i => hl 3 i (by decide) (by decide)) (fun M1 k1 p1 dy => ?_)
  have z1 : ∀ b i, b ≠ 2 → b ≠ 4 → gI M1 b i = gI M b i := k1.2.1
  have l1 : gL M1 = gL M := k1.2.2.1
  have f1 : ∀ b j, b < 1 → gR M1 b j = gR M b j := fun b j hb => k1.2.2.2 b j (by omega)
  have r1 : PR [(2, 0, 3), (2, 1, 4)] M1 := PR.ap p1 (PR.fr (t := 2) (L := []) (fun q hq => absurd hq (by simp)) k1.2.2.2 (by decide))
  show Wq 4 _ _ mT_init 12 [iR 1] [vR 2, vR 1] _ Q
  refine wq_putR (pc := 12) (z := 0) dT_init_12 fW_T_10 sh_1 rfl (fun _ => rfl) (fun _ => ⟨rfl, rfl⟩) rfl (by decide) ?_
  refine wq_aload_n (pc := 15) dT_init_15 rfl rfl ?_
  refine wq_new (pc := 16) (a := 5) (N := 8) (cb := 24) (sb := 1200) dT_init_16 cO_T_16 k1.1 sh_5 ?_
  refine wq_dup (pc := 19) dT_init_19 rfl ?_
  refine wq_callI (d' := 1) (cb' := 6) (sb' := 336) (cb := 18) (sb := 864) (pc := 20) (as := []) (rest := [vR 5, vR 1]) (lo' := [iR 5]) dT_init_20 mO_W_init lI_T_18 rfl rfl rfl rfl rfl rfl ?_
  refine K_W_5 (by have h0 := k1.1; show nx M1 + 1 = 6; omega) (fun i => (z1 5 i (by decide) (by decide)).trans (hz 5 i (by decide) (by decide))) (fun M2 k2 p2 => ?_)
  have z2 : ∀ b i, b ≠ 2 → b ≠ 4 → gI M2 b i = gI M b i := fun b i c1 c2 => (k2.2.1 b i).trans (z1 b i c1 c2)
  have l2 : gL M2 = gL M := k2.2.2.1.trans l1
  have f2 : ∀ b j, b < 1 → gR M2 b j = gR M b j := fun b j hb => (k2.2.2.2 b j (by omega)).trans ((show (if b = 1 ∧ j = 0 then _ else gR M1 b j) = gR M1 b j from if_neg (fun z => by omega)).trans (f1 b j hb))
  have r2 : PR [(5, 0, 6), (5, 1, 7), (5, 2, 8), (5, 3, 9), (5, 4, 10), (5, 5, 11), (1, 0, 2), (2, 0, 3), (2, 1, 4)] M2 := PR.ap p2 (PR.fr (t := 5) (L := [(1, 0, 2), (2, 0, 3), (2, 1, 4)]) (PR.w (a := 1) (j := 0) (b := 2) r1 (by decide)) k2.2.2.2 (by decide))
  show Wq 4 _ _ mT_init 23 [iR 1] [vR 5, vR 1] _ Q
  refine wq_putR (pc := 23) (z := 1) dT_init_23 fW_T_19 sh_1 rfl (fun _ => rfl) (fun _ => ⟨rfl, rfl⟩) rfl (by decide) ?_
  refine wq_aload_n (pc := 26) dT_init_26 rfl rfl ?_
  refine wq_new (pc := 27) (a := 12) (N := 8) (cb := 17) (sb := 856) dT_init_27 cO_T_23 k2.1 sh_12 ?_
  refine wq_dup (pc := 30) dT_init_30 rfl ?_
  refine wq_callI (d' := 1) (cb' := 7) (sb' := 140) (cb := 10) (sb := 716) (pc := 31) (as := []) (rest := [vR 12, vR 1]) (lo' := [iR 12]) dT_init_31 mO_E_init lI_T_25 rfl rfl rfl rfl rfl rfl ?_
  refine K_E_12 (by have h0 := k2.1; show nx M2 + 1 = 13; omega) (fun i => (z2 12 i (by decide) (by decide)).trans (hz 12 i (by decide) (by decide))) (fun M3 k3 p3 => ?_)
  have z3 : ∀ b i, b ≠ 2 → b ≠ 4 → gI M3 b i = gI M b i := fun b i c1 c2 => (k3.2.1 b i).trans (z2 b i c1 c2)
  have l3 : gL M3 = gL M := k3.2.2.1.trans l2
  have f3 : ∀ b j, b < 1 → gR M3 b j = gR M b j := fun b j hb => (k3.2.2.2 b j (by omega)).trans ((show (if b = 1 ∧ j = 1 then _ else gR M2 b j) = gR M2 b j from if_neg (fun z => by omega)).trans (f2 b j hb))
  have r3 : PR [(12, 0, 13), (12, 1, 14), (12, 2, 15), (12, 3, 16), (12, 4, 17), (12, 5, 18), (12, 6, 19), (1, 1, 5), (5, 0, 6), (5, 1, 7), (5, 2, 8), (5, 3, 9), (5, 4, 10), (5, 5, 11), (1, 0, 2), (2, 0, 3), (2, 1, 4)] M3 := PR.ap p3 (PR.fr (t := 12) (L := [(1, 1, 5), (5, 0, 6), (5, 1, 7), (5, 2, 8), (5, 3, 9), (5, 4, 10), (5, 5, 11), (1, 0, 2), (2, 0, 3), (2, 1, 4)]) (PR.w (a := 1) (j := 1) (b := 5) r2 (by decide)) k3.2.2.2 (by decide))
  show Wq 4 _ _ mT_init 34 [iR 1] [vR 12, vR 1] _ Q
  refine wq_putR (pc := 34) (z := 2) dT_init_34 fW_T_26 sh_1 rfl (fun _ => rfl) (fun _ => ⟨rfl, rfl⟩) rfl (by decide) ?_
  refine wq_aload_n (pc := 37) dT_init_37 rfl rfl ?_
  refine wq_new (pc := 38) (a := 20) (N := 7) (cb := 9) (sb := 709) dT_init_38 cO_T_30 k3.1 sh_20 ?_
  refine wq_dup (pc := 41) dT_init_41 rfl ?_
  refine wq_callI (d' := 1) (cb' := 5) (sb' := 690) (cb := 4) (sb := 19) (pc := 42) (as := []) (rest := [vR 20, vR 1]) (lo' := [iR 20]) dT_init_42 mO_C_init lI_T_32 rfl rfl rfl rfl rfl rfl ?_
  refine K_C_20 (by have h0 := k3.1; show nx M3 + 1 = 21; omega) (fun i => (z3 20 i (by decide) (by decide)).trans (hz 20 i (by decide) (by decide))) (fun M4 k4 p4 => ?_)
  have z4 : ∀ b i, b ≠ 2 → b ≠ 4 → gI M4 b i = gI M b i := fun b i c1 c2 => (k4.2.1 b i).trans (z3 b i c1 c2)
  have l4 : gL M4 = gL M := k4.2.2.1.trans l3
  have f4 : ∀ b j, b < 1 → gR M4 b j = gR M b j := fun b j hb => (k4.2.2.2 b j (by omega)).trans ((show (if b = 1 ∧ j = 2 then _ else gR M3 b j) = gR M3 b j from if_neg (fun z => by omega)).trans (f3 b j hb))
  have r4 : PR [(20, 0, 21), (20, 1, 22), (20, 2, 23), (20, 3, 24), (20, 4, 25), (1, 2, 12), (12, 0, 13), (12, 1, 14), (12, 2, 15), (12, 3, 16), (12, 4, 17), (12, 5, 18), (12, 6, 19), (1, 1, 5), (5, 0, 6), (5, 1, 7), (5, 2, 8), (5, 3, 9), (5, 4, 10), (5, 5, 11), (1, 0, 2), (2, 0, 3), (2, 1, 4)] M4 := PR.ap p4 (PR.fr (t := 20) (L := [(1, 2, 12), (12, 0, 13), (12, 1, 14), (12, 2, 15), (12, 3, 16), (12, 4, 17), (12, 5, 18), (12, 6, 19), (1, 1, 5), (5, 0, 6), (5, 1, 7), (5, 2, 8), (5, 3, 9), (5, 4, 10), (5, 5, 11), (1, 0, 2), (2, 0, 3), (2, 1, 4)]) (PR.w (a := 1) (j := 2) (b := 12) r3 (by decide)) k4.2.2.2 (by decide))
  show Wq 4 _ _ mT_init 45 [iR 1] [vR 20, vR 1] _ Q
  refine wq_putR (pc := 45) (z := 3) dT_init_45 fW_T_33 sh_1 rfl (fun _ => rfl) (fun _ => ⟨rfl, rfl⟩) rfl (by decide) ?_
  refine wq_aload_n (pc := 48) dT_init_48 rfl rfl ?_
  refine wq_new (pc := 49) (a := 26) (N := 4) (cb := 3) (sb := 15) dT_init_49 cO_T_37 k4.1 sh_26 ?_
  refine wq_dup (pc := 52) dT_init_52 rfl ?_
  refine wq_callI (d' := 1) (cb' := 3) (sb' := 15) (cb := 0) (sb := 0) (pc := 53) (as := []) (rest := [vR 26, vR 1]) (lo' := [iR 26]) dT_init_53 mO_H_init lI_T_39 rfl rfl rfl rfl rfl rfl ?_
  refine K_H_26 (by have h0 := k4.1; show nx M4 + 1 = 27; omega) (fun i => (z4 26 i (by decide) (by decide)).trans (hz 26 i (by decide) (by decide))) (fun M5 k5 p5 => ?_)
  have z5 : ∀ b i, b ≠ 2 → b ≠ 4 → gI M5 b i = gI M b i := fun b i c1 c2 => (k5.2.1 b i).trans (z4 b i c1 c2)
  have l5 : gL M5 = gL M := k5.2.2.1.trans l4
  have f5 : ∀ b j, b < 1 → gR M5 b j = gR M b j := fun b j hb => (k5.2.2.2 b j (by omega)).trans ((show (if b = 1 ∧ j = 3 then _ else gR M4 b j) = gR M4 b j from if_neg (fun z => by omega)).trans (f4 b j hb))
  have r5 : PR [(26, 0, 27), (26, 1, 28), (26, 2, 29), (1, 3, 20), (20, 0, 21), (20, 1, 22), (20, 2, 23), (20, 3, 24), (20, 4, 25), (1, 2, 12), (12, 0, 13), (12, 1, 14), (12, 2, 15), (12, 3, 16), (12, 4, 17), (12, 5, 18), (12, 6, 19), (1, 1, 5), (5, 0, 6), (5, 1, 7), (5, 2, 8), (5, 3, 9), (5, 4, 10), (5, 5, 11), (1, 0, 2), (2, 0, 3), (2, 1, 4)] M5 := PR.ap p5 (PR.fr (t := 26) (L := [(1, 3, 20), (20, 0, 21), (20, 1, 22), (20, 2, 23), (20, 3, 24), (20, 4, 25), (1, 2, 12), (12, 0, 13), (12, 1, 14), (12, 2, 15), (12, 3, 16), (12, 4, 17), (12, 5, 18), (12, 6, 19), (1, 1, 5), (5, 0, 6), (5, 1, 7), (5, 2, 8), (5, 3, 9), (5, 4, 10), (5, 5, 11), (1, 0, 2), (2, 0, 3), (2, 1, 4)]) (PR.w (a := 1) (j := 3) (b := 20) r4 (by decide)) k5.2.2.2 (by decide))
  show Wq 4 _ _ mT_init 56 [iR 1] [vR 26, vR 1] _ Q
  refine wq_putR (pc := 56) (z := 4) dT_init_56 fW_T_40 sh_1 rfl (fun _ => rfl) (fun _ => ⟨rfl, rfl⟩) rfl (by decide) ?_
  refine wq_aload_n (pc := 59) dT_init_59 rfl rfl ?_
  refine wq_iconst (pc := 60) dT_init_60 rfl ?_
  refine wq_putI (pc := 61) (z := 5) dT_init_61 fW_T_44 sh_1 rfl rfl ?_
  refine wq_return (pc := 64) dT_init_64 trivial ?_
  refine hq _ ⟨k5.1, fun b i c1 c2 => ?_, l5, fun b j hb => ?_⟩ ?_ ?_
  · show (if b = 1 ∧ i = 5 then (0 : Int) else gI M5 b i) = gI M b i
    by_cases c : b = 1
    · rw [c, z5 1 i (by decide) (by decide), hz 1 i (by decide) (by decide)]
      split <;> rfl
    · simp only [c, false_and, if_false]
      exact z5 b i c1 c2
  · exact (show (if b = 1 ∧ j = 4 then _ else gR M5 b j) = gR M5 b j from if_neg (fun z => by omega)).trans (f5 b j hb)
  · have r : PR [(1, 4, 26), (26, 0, 27), (26, 1, 28), (26, 2, 29), (1, 3, 20), (20, 0, 21), (20, 1, 22), (20, 2, 23), (20, 3, 24), (20, 4, 25), (1, 2, 12), (12, 0, 13), (12, 1, 14), (12, 2, 15), (12, 3, 16), (12, 4, 17), (12, 5, 18), (12, 6, 19), (1, 1, 5), (5, 0, 6), (5, 1, 7), (5, 2, 8), (5, 3, 9), (5, 4, 10), (5, 5, 11), (1, 0, 2), (2, 0, 3), (2, 1, 4)] _ := (PR.w (a := 1) (j := 4) (b := 26) r5 (by decide))
    exact r
  · have dz : ∀ b i, gI M5 b i = gI M1 b i := fun b i => ((k5.2.1 b i).trans ((k4.2.1 b i).trans ((k3.2.1 b i).trans (k2.2.1 b i))))
    exact ⟨(dz 2 2).trans dy.1, (dz 2 3).trans dy.2.1, (dz 2 4).trans dy.2.2.1, fun d hd => (dz 4 d).trans (dy.2.2.2 d hd)⟩
theorem K_T_30 (hn : nx M = 31) (hz : ∀ b i, 30 ≤ b → b < 1000 → gI M b i = 0) (hl : ∀ b i, 30 ≤ b → b < 1000 → gL M b i = 0) (hq : ∀ M', (nx M' = 59 ∧ (∀ b i, b ≠ 31 → b ≠ 33 → gI M' b i = gI M b i) ∧ gL M' = gL M ∧ ∀ b j, b < 30 → gR M' b j = gR M b j) → PR [(30, 4, 55), (55, 0, 56), (55, 1, 57), (55, 2, 58), (30, 3, 49), (49, 0, 50), (49, 1, 51), (49, 2, 52), (49, 3, 53), (49, 4, 54), (30, 2, 41), (41, 0, 42), (41, 1, 43), (41, 2, 44), (41, 3, 45), (41, 4, 46), (41, 5, 47), (41, 6, 48), (30, 1, 34), (34, 0, 35), (34, 1, 36), (34, 2, 37), (34, 3, 38), (34, 4, 39), (34, 5, 40), (30, 0, 31), (31, 0, 32), (31, 1, 33)] M' → (gI M' 31 2 = 0 ∧ gI M' 31 3 = 31 ∧ gI M' 31 4 = 5 ∧ ∀ d : Nat, d ≤ 900 → gI M' 33 d = dcn n00 d) → Q M' none) : Wq 4 28 2129 mT_init 0 [iR 30] [] M Q := by
  refine wq_aload_n (pc := 0) dT_init_0 rfl rfl ?_
  refine wq_objInit (pc := 1) dT_init_1 oO_T_1 oI oC rfl ?_
  refine wq_aload_n (pc := 4) dT_init_4 rfl rfl ?_
  refine wq_new (pc := 5) (a := 31) (N := 5) (cb := 27) (sb := 2124) dT_init_5 cO_T_7 hn sh_31 ?_
  refine wq_dup (pc := 8) dT_init_8 rfl ?_
  refine wq_callI (d' := 3) (cb' := 2) (sb' := 916) (cb := 25) (sb := 1208) (pc := 9) (as := []) (rest := [vR 31, vR 30]) (lo' := [iR 31]) dT_init_9 mO_Y_init lI_T_9 rfl rfl rfl rfl rfl rfl ?_
  refine K_Y_31 (by have h0 := hn; show nx M + 1 = 32; omega) (fun i => hz 33 i (by decide) (by decide)) (fun i => hl 32 i (by decide) (by decide)) (fun M1 k1 p1 dy => ?_)
  have z1 : ∀ b i, b ≠ 31 → b ≠ 33 → gI M1 b i = gI M b i := k1.2.1
  have l1 : gL M1 = gL M := k1.2.2.1
  have f1 : ∀ b j, b < 30 → gR M1 b j = gR M b j := fun b j hb => k1.2.2.2 b j (by omega)
  have r1 : PR [(31, 0, 32), (31, 1, 33)] M1 := PR.ap p1 (PR.fr (t := 31) (L := []) (fun q hq => absurd hq (by simp)) k1.2.2.2 (by decide))
  show Wq 4 _ _ mT_init 12 [iR 30] [vR 31, vR 30] _ Q
  refine wq_putR (pc := 12) (z := 0) dT_init_12 fW_T_10 sh_30 rfl (fun _ => rfl) (fun _ => ⟨rfl, rfl⟩) rfl (by decide) ?_
  refine wq_aload_n (pc := 15) dT_init_15 rfl rfl ?_
  refine wq_new (pc := 16) (a := 34) (N := 8) (cb := 24) (sb := 1200) dT_init_16 cO_T_16 k1.1 sh_34 ?_
  refine wq_dup (pc := 19) dT_init_19 rfl ?_
  refine wq_callI (d' := 1) (cb' := 6) (sb' := 336) (cb := 18) (sb := 864) (pc := 20) (as := []) (rest := [vR 34, vR 30]) (lo' := [iR 34]) dT_init_20 mO_W_init lI_T_18 rfl rfl rfl rfl rfl rfl ?_
  refine K_W_34 (by have h0 := k1.1; show nx M1 + 1 = 35; omega) (fun i => (z1 34 i (by decide) (by decide)).trans (hz 34 i (by decide) (by decide))) (fun M2 k2 p2 => ?_)
  have z2 : ∀ b i, b ≠ 31 → b ≠ 33 → gI M2 b i = gI M b i := fun b i c1 c2 => (k2.2.1 b i).trans (z1 b i c1 c2)
  have l2 : gL M2 = gL M := k2.2.2.1.trans l1
  have f2 : ∀ b j, b < 30 → gR M2 b j = gR M b j := fun b j hb => (k2.2.2.2 b j (by omega)).trans ((show (if b = 30 ∧ j = 0 then _ else gR M1 b j) = gR M1 b j from if_neg (fun z => by omega)).trans (f1 b j hb))
  have r2 : PR [(34, 0, 35), (34, 1, 36), (34, 2, 37), (34, 3, 38), (34, 4, 39), (34, 5, 40), (30, 0, 31), (31, 0, 32), (31, 1, 33)] M2 := PR.ap p2 (PR.fr (t := 34) (L := [(30, 0, 31), (31, 0, 32), (31, 1, 33)]) (PR.w (a := 30) (j := 0) (b := 31) r1 (by decide)) k2.2.2.2 (by decide))
  show Wq 4 _ _ mT_init 23 [iR 30] [vR 34, vR 30] _ Q
  refine wq_putR (pc := 23) (z := 1) dT_init_23 fW_T_19 sh_30 rfl (fun _ => rfl) (fun _ => ⟨rfl, rfl⟩) rfl (by decide) ?_
  refine wq_aload_n (pc := 26) dT_init_26 rfl rfl ?_
  refine wq_new (pc := 27) (a := 41) (N := 8) (cb := 17) (sb := 856) dT_init_27 cO_T_23 k2.1 sh_41 ?_
  refine wq_dup (pc := 30) dT_init_30 rfl ?_
  refine wq_callI (d' := 1) (cb' := 7) (sb' := 140) (cb := 10) (sb := 716) (pc := 31) (as := []) (rest := [vR 41, vR 30]) (lo' := [iR 41]) dT_init_31 mO_E_init lI_T_25 rfl rfl rfl rfl rfl rfl ?_
  refine K_E_41 (by have h0 := k2.1; show nx M2 + 1 = 42; omega) (fun i => (z2 41 i (by decide) (by decide)).trans (hz 41 i (by decide) (by decide))) (fun M3 k3 p3 => ?_)
  have z3 : ∀ b i, b ≠ 31 → b ≠ 33 → gI M3 b i = gI M b i := fun b i c1 c2 => (k3.2.1 b i).trans (z2 b i c1 c2)
  have l3 : gL M3 = gL M := k3.2.2.1.trans l2
  have f3 : ∀ b j, b < 30 → gR M3 b j = gR M b j := fun b j hb => (k3.2.2.2 b j (by omega)).trans ((show (if b = 30 ∧ j = 1 then _ else gR M2 b j) = gR M2 b j from if_neg (fun z => by omega)).trans (f2 b j hb))
  have r3 : PR [(41, 0, 42), (41, 1, 43), (41, 2, 44), (41, 3, 45), (41, 4, 46), (41, 5, 47), (41, 6, 48), (30, 1, 34), (34, 0, 35), (34, 1, 36), (34, 2, 37), (34, 3, 38), (34, 4, 39), (34, 5, 40), (30, 0, 31), (31, 0, 32), (31, 1, 33)] M3 := PR.ap p3 (PR.fr (t := 41) (L := [(30, 1, 34), (34, 0, 35), (34, 1, 36), (34, 2, 37), (34, 3, 38), (34, 4, 39), (34, 5, 40), (30, 0, 31), (31, 0, 32), (31, 1, 33)]) (PR.w (a := 30) (j := 1) (b := 34) r2 (by decide)) k3.2.2.2 (by decide))
  show Wq 4 _ _ mT_init 34 [iR 30] [vR 41, vR 30] _ Q
  refine wq_putR (pc := 34) (z := 2) dT_init_34 fW_T_26 sh_30 rfl (fun _ => rfl) (fun _ => ⟨rfl, rfl⟩) rfl (by decide) ?_
  refine wq_aload_n (pc := 37) dT_init_37 rfl rfl ?_
  refine wq_new (pc := 38) (a := 49) (N := 7) (cb := 9) (sb := 709) dT_init_38 cO_T_30 k3.1 sh_49 ?_
  refine wq_dup (pc := 41) dT_init_41 rfl ?_
  refine wq_callI (d' := 1) (cb' := 5) (sb' := 690) (cb := 4) (sb := 19) (pc := 42) (as := []) (rest := [vR 49, vR 30]) (lo' := [iR 49]) dT_init_42 mO_C_init lI_T_32 rfl rfl rfl rfl rfl rfl ?_
  refine K_C_49 (by have h0 := k3.1; show nx M3 + 1 = 50; omega) (fun i => (z3 49 i (by decide) (by decide)).trans (hz 49 i (by decide) (by decide))) (fun M4 k4 p4 => ?_)
  have z4 : ∀ b i, b ≠ 31 → b ≠ 33 → gI M4 b i = gI M b i := fun b i c1 c2 => (k4.2.1 b i).trans (z3 b i c1 c2)
  have l4 : gL M4 = gL M := k4.2.2.1.trans l3
  have f4 : ∀ b j, b < 30 → gR M4 b j = gR M b j := fun b j hb => (k4.2.2.2 b j (by omega)).trans ((show (if b = 30 ∧ j = 2 then _ else gR M3 b j) = gR M3 b j from if_neg (fun z => by omega)).trans (f3 b j hb))
  have r4 : PR [(49, 0, 50), (49, 1, 51), (49, 2, 52), (49, 3, 53), (49, 4, 54), (30, 2, 41), (41, 0, 42), (41, 1, 43), (41, 2, 44), (41, 3, 45), (41, 4, 46), (41, 5, 47), (41, 6, 48), (30, 1, 34), (34, 0, 35), (34, 1, 36), (34, 2, 37), (34, 3, 38), (34, 4, 39), (34, 5, 40), (30, 0, 31), (31, 0, 32), (31, 1, 33)] M4 := PR.ap p4 (PR.fr (t := 49) (L := [(30, 2, 41), (41, 0, 42), (41, 1, 43), (41, 2, 44), (41, 3, 45), (41, 4, 46), (41, 5, 47), (41, 6, 48), (30, 1, 34), (34, 0, 35), (34, 1, 36), (34, 2, 37), (34, 3, 38), (34, 4, 39), (34, 5, 40), (30, 0, 31), (31, 0, 32), (31, 1, 33)]) (PR.w (a := 30) (j := 2) (b := 41) r3 (by decide)) k4.2.2.2 (by decide))
  show Wq 4 _ _ mT_init 45 [iR 30] [vR 49, vR 30] _ Q
  refine wq_putR (pc := 45) (z := 3) dT_init_45 fW_T_33 sh_30 rfl (fun _ => rfl) (fun _ => ⟨rfl, rfl⟩) rfl (by decide) ?_
  refine wq_aload_n (pc := 48) dT_init_48 rfl rfl ?_
  refine wq_new (pc := 49) (a := 55) (N := 4) (cb := 3) (sb := 15) dT_init_49 cO_T_37 k4.1 sh_55 ?_
  refine wq_dup (pc := 52) dT_init_52 rfl ?_
  refine wq_callI (d' := 1) (cb' := 3) (sb' := 15) (cb := 0) (sb := 0) (pc := 53) (as := []) (rest := [vR 55, vR 30]) (lo' := [iR 55]) dT_init_53 mO_H_init lI_T_39 rfl rfl rfl rfl rfl rfl ?_
  refine K_H_55 (by have h0 := k4.1; show nx M4 + 1 = 56; omega) (fun i => (z4 55 i (by decide) (by decide)).trans (hz 55 i (by decide) (by decide))) (fun M5 k5 p5 => ?_)
  have z5 : ∀ b i, b ≠ 31 → b ≠ 33 → gI M5 b i = gI M b i := fun b i c1 c2 => (k5.2.1 b i).trans (z4 b i c1 c2)
  have l5 : gL M5 = gL M := k5.2.2.1.trans l4
  have f5 : ∀ b j, b < 30 → gR M5 b j = gR M b j := fun b j hb => (k5.2.2.2 b j (by omega)).trans ((show (if b = 30 ∧ j = 3 then _ else gR M4 b j) = gR M4 b j from if_neg (fun z => by omega)).trans (f4 b j hb))
  have r5 : PR [(55, 0, 56), (55, 1, 57), (55, 2, 58), (30, 3, 49), (49, 0, 50), (49, 1, 51), (49, 2, 52), (49, 3, 53), (49, 4, 54), (30, 2, 41), (41, 0, 42), (41, 1, 43), (41, 2, 44), (41, 3, 45), (41, 4, 46), (41, 5, 47), (41, 6, 48), (30, 1, 34), (34, 0, 35), (34, 1, 36), (34, 2, 37), (34, 3, 38), (34, 4, 39), (34, 5, 40), (30, 0, 31), (31, 0, 32), (31, 1, 33)] M5 := PR.ap p5 (PR.fr (t := 55) (L := [(30, 3, 49), (49, 0, 50), (49, 1, 51), (49, 2, 52), (49, 3, 53), (49, 4, 54), (30, 2, 41), (41, 0, 42), (41, 1, 43), (41, 2, 44), (41, 3, 45), (41, 4, 46), (41, 5, 47), (41, 6, 48), (30, 1, 34), (34, 0, 35), (34, 1, 36), (34, 2, 37), (34, 3, 38), (34, 4, 39), (34, 5, 40), (30, 0, 31), (31, 0, 32), (31, 1, 33)]) (PR.w (a := 30) (j := 3) (b := 49) r4 (by decide)) k5.2.2.2 (by decide))
  show Wq 4 _ _ mT_init 56 [iR 30] [vR 55, vR 30] _ Q
  refine wq_putR (pc := 56) (z := 4) dT_init_56 fW_T_40 sh_30 rfl (fun _ => rfl) (fun _ => ⟨rfl, rfl⟩) rfl (by decide) ?_
  refine wq_aload_n (pc := 59) dT_init_59 rfl rfl ?_
  refine wq_iconst (pc := 60) dT_init_60 rfl ?_
  refine wq_putI (pc := 61) (z := 5) dT_init_61 fW_T_44 sh_30 rfl rfl ?_
  refine wq_return (pc := 64) dT_init_64 trivial ?_
  refine hq _ ⟨k5.1, fun b i c1 c2 => ?_, l5, fun b j hb => ?_⟩ ?_ ?_
  · show (if b = 30 ∧ i = 5 then (0 : Int) else gI M5 b i) = gI M b i
    by_cases c : b = 30
    · rw [c, z5 30 i (by decide) (by decide), hz 30 i (by decide) (by decide)]
      split <;> rfl
    · simp only [c, false_and, if_false]
      exact z5 b i c1 c2
  · exact (show (if b = 30 ∧ j = 4 then _ else gR M5 b j) = gR M5 b j from if_neg (fun z => by omega)).trans (f5 b j hb)
  · have r : PR [(30, 4, 55), (55, 0, 56), (55, 1, 57), (55, 2, 58), (30, 3, 49), (49, 0, 50), (49, 1, 51), (49, 2, 52), (49, 3, 53), (49, 4, 54), (30, 2, 41), (41, 0, 42), (41, 1, 43), (41, 2, 44), (41, 3, 45), (41, 4, 46), (41, 5, 47), (41, 6, 48), (30, 1, 34), (34, 0, 35), (34, 1, 36), (34, 2, 37), (34, 3, 38), (34, 4, 39), (34, 5, 40), (30, 0, 31), (31, 0, 32), (31, 1, 33)] _ := (PR.w (a := 30) (j := 4) (b := 55) r5 (by decide))
    exact r
  · have dz : ∀ b i, gI M5 b i = gI M1 b i := fun b i => ((k5.2.1 b i).trans ((k4.2.1 b i).trans ((k3.2.1 b i).trans (k2.2.1 b i))))
    exact ⟨(dz 31 2).trans dy.1, (dz 31 3).trans dy.2.1, (dz 31 4).trans dy.2.2.1, fun d hd => (dz 33 d).trans (dy.2.2.2 d hd)⟩
def LD : List (Nat × Int × Nat) := [(68, 3, 78), (78, 0, 79), (68, 2, 76), (76, 0, 77), (68, 1, 74), (74, 0, 75), (68, 0, 72), (72, 0, 73), (0, 8, 71), (0, 7, 70), (0, 6, 69), (0, 5, 68), (0, 4, 66), (66, 0, 67), (0, 3, 63), (63, 0, 64), (0, 2, 59), (59, 0, 60), (59, 1, 61), (59, 2, 62), (0, 1, 30), (30, 4, 55), (55, 0, 56), (55, 1, 57), (55, 2, 58), (30, 3, 49), (49, 0, 50), (49, 1, 51), (49, 2, 52), (49, 3, 53), (49, 4, 54), (30, 2, 41), (41, 0, 42), (41, 1, 43), (41, 2, 44), (41, 3, 45), (41, 4, 46), (41, 5, 47), (41, 6, 48), (30, 1, 34), (34, 0, 35), (34, 1, 36), (34, 2, 37), (34, 3, 38), (34, 4, 39), (34, 5, 40), (30, 0, 31), (31, 0, 32), (31, 1, 33), (0, 0, 1), (1, 4, 26), (26, 0, 27), (26, 1, 28), (26, 2, 29), (1, 3, 20), (20, 0, 21), (20, 1, 22), (20, 2, 23), (20, 3, 24), (20, 4, 25), (1, 2, 12), (12, 0, 13), (12, 1, 14), (12, 2, 15), (12, 3, 16), (12, 4, 17), (12, 5, 18), (12, 6, 19), (1, 1, 5), (5, 0, 6), (5, 1, 7), (5, 2, 8), (5, 3, 9), (5, 4, 10), (5, 5, 11), (1, 0, 2), (2, 0, 3), (2, 1, 4)]
set_option maxRecDepth 20000 in
theorem K_D (hn : nx M = 1) (hz : ∀ b i, b < 1000 → gI M b i = 0) (hl : ∀ b i, b < 1000 → gL M b i = 0) (hq : ∀ M', nx M' = 80 → (∀ b i, b ≠ 2 → b ≠ 4 → b ≠ 31 → b ≠ 33 → gI M' b i = gI M b i) → gL M' = gL M → PR LD M' → (gI M' 2 2 = 0 ∧ gI M' 2 3 = 31 ∧ gI M' 2 4 = 5 ∧ ∀ d : Nat, d ≤ 900 → gI M' 4 d = dcn n00 d) → Q M' none) : Wq 5 79 4507 mD_init 0 [iR 0, none] [] M Q := by
  refine wq_aload_n (pc := 0) dD_init_0 rfl rfl ?_
  refine wq_objInit (pc := 1) dD_init_1 oO_D_3 oI oC rfl ?_
  refine wq_aload_n (pc := 4) dD_init_4 rfl rfl ?_
  refine wq_new (pc := 5) (a := 1) (N := 6) (cb := 78) (sb := 4501) dD_init_5 cO_D_9 hn sh_1 ?_
  refine wq_dup (pc := 8) dD_init_8 rfl ?_
  refine wq_callI (d' := 4) (cb' := 28) (sb' := 2129) (cb := 50) (sb := 2372) (pc := 9) (as := []) (rest := [vR 1, vR 0]) (lo' := [iR 1]) dD_init_9 mO_T_init lI_D_11 rfl rfl rfl rfl rfl rfl ?_
  refine K_T_1 (by have h0 := hn; show nx M + 1 = 2; omega) (fun b i b0 b1 => hz b i b1) (fun b i b0 b1 => hl b i b1) (fun M1 k1 p1 dy1 => ?_)
  have z1 : ∀ b i, b ≠ 2 → b ≠ 4 → b ≠ 31 → b ≠ 33 → gI M1 b i = gI M b i := fun b i c1 c2 c3 c4 => k1.2.1 b i c1 c2
  have l1 : gL M1 = gL M := k1.2.2.1
  have y1 : ∀ b i, b = 2 ∨ b = 4 → gI M1 b i = gI M1 b i := fun b i c => rfl
  have r1 : PR [(1, 4, 26), (26, 0, 27), (26, 1, 28), (26, 2, 29), (1, 3, 20), (20, 0, 21), (20, 1, 22), (20, 2, 23), (20, 3, 24), (20, 4, 25), (1, 2, 12), (12, 0, 13), (12, 1, 14), (12, 2, 15), (12, 3, 16), (12, 4, 17), (12, 5, 18), (12, 6, 19), (1, 1, 5), (5, 0, 6), (5, 1, 7), (5, 2, 8), (5, 3, 9), (5, 4, 10), (5, 5, 11), (1, 0, 2), (2, 0, 3), (2, 1, 4)] M1 := PR.ap p1 (PR.fr (t := 1) (L := []) (fun q hq => absurd hq (by simp)) k1.2.2.2 (by decide))
  show Wq 5 _ _ mD_init 12 [iR 0, none] [vR 1, vR 0] _ Q
  refine wq_putR (pc := 12) (z := 0) dD_init_12 fW_D_12 sh_0 rfl (fun _ => rfl) (fun _ => ⟨rfl, rfl⟩) rfl (by decide) ?_
  refine wq_aload_n (pc := 15) dD_init_15 rfl rfl ?_
  refine wq_new (pc := 16) (a := 30) (N := 6) (cb := 49) (sb := 2366) dD_init_16 cO_D_9 k1.1 sh_30 ?_
  refine wq_dup (pc := 19) dD_init_19 rfl ?_
  refine wq_callI (d' := 4) (cb' := 28) (sb' := 2129) (cb := 21) (sb := 237) (pc := 20) (as := []) (rest := [vR 30, vR 0]) (lo' := [iR 30]) dD_init_20 mO_T_init lI_D_11 rfl rfl rfl rfl rfl rfl ?_
  refine K_T_30 (by have h0 := k1.1; show nx M1 + 1 = 31; omega) (fun b i b0 b1 => (k1.2.1 b i (by omega) (by omega)).trans (hz b i b1)) (fun b i b0 b1 => (show gL M1 b i = 0 from by rw [l1]; exact hl b i b1)) (fun M2 k2 p2 dy2 => ?_)
  have z2 : ∀ b i, b ≠ 2 → b ≠ 4 → b ≠ 31 → b ≠ 33 → gI M2 b i = gI M b i := fun b i c1 c2 c3 c4 => (k2.2.1 b i c3 c4).trans (z1 b i c1 c2 c3 c4)
  have l2 : gL M2 = gL M := k2.2.2.1.trans l1
  have y2 : ∀ b i, b = 2 ∨ b = 4 → gI M2 b i = gI M1 b i := fun b i c => k2.2.1 b i (by rcases c with c | c <;> rw [c] <;> decide) (by rcases c with c | c <;> rw [c] <;> decide)
  have r2 : PR [(30, 4, 55), (55, 0, 56), (55, 1, 57), (55, 2, 58), (30, 3, 49), (49, 0, 50), (49, 1, 51), (49, 2, 52), (49, 3, 53), (49, 4, 54), (30, 2, 41), (41, 0, 42), (41, 1, 43), (41, 2, 44), (41, 3, 45), (41, 4, 46), (41, 5, 47), (41, 6, 48), (30, 1, 34), (34, 0, 35), (34, 1, 36), (34, 2, 37), (34, 3, 38), (34, 4, 39), (34, 5, 40), (30, 0, 31), (31, 0, 32), (31, 1, 33), (0, 0, 1), (1, 4, 26), (26, 0, 27), (26, 1, 28), (26, 2, 29), (1, 3, 20), (20, 0, 21), (20, 1, 22), (20, 2, 23), (20, 3, 24), (20, 4, 25), (1, 2, 12), (12, 0, 13), (12, 1, 14), (12, 2, 15), (12, 3, 16), (12, 4, 17), (12, 5, 18), (12, 6, 19), (1, 1, 5), (5, 0, 6), (5, 1, 7), (5, 2, 8), (5, 3, 9), (5, 4, 10), (5, 5, 11), (1, 0, 2), (2, 0, 3), (2, 1, 4)] M2 := PR.ap p2 (PR.fr (t := 30) (L := [(0, 0, 1), (1, 4, 26), (26, 0, 27), (26, 1, 28), (26, 2, 29), (1, 3, 20), (20, 0, 21), (20, 1, 22), (20, 2, 23), (20, 3, 24), (20, 4, 25), (1, 2, 12), (12, 0, 13), (12, 1, 14), (12, 2, 15), (12, 3, 16), (12, 4, 17), (12, 5, 18), (12, 6, 19), (1, 1, 5), (5, 0, 6), (5, 1, 7), (5, 2, 8), (5, 3, 9), (5, 4, 10), (5, 5, 11), (1, 0, 2), (2, 0, 3), (2, 1, 4)]) (PR.w (a := 0) (j := 0) (b := 1) r1 (by decide)) k2.2.2.2 (by decide))
  show Wq 5 _ _ mD_init 23 [iR 0, none] [vR 30, vR 0] _ Q
  refine wq_putR (pc := 23) (z := 1) dD_init_23 fW_D_16 sh_0 rfl (fun _ => rfl) (fun _ => ⟨rfl, rfl⟩) rfl (by decide) ?_
  refine wq_aload_n (pc := 26) dD_init_26 rfl rfl ?_
  refine wq_new (pc := 27) (a := 59) (N := 3) (cb := 20) (sb := 234) dD_init_27 cO_D_19 k2.1 sh_59 ?_
  refine wq_dup (pc := 30) dD_init_30 rfl ?_
  refine wq_callI (d' := 1) (cb' := 3) (sb' := 48) (cb := 17) (sb := 186) (pc := 31) (as := []) (rest := [vR 59, vR 0]) (lo' := [iR 59]) dD_init_31 mO_P_init lI_D_21 rfl rfl rfl rfl rfl rfl ?_
  refine K_P_59 (by have h0 := k2.1; show nx M2 + 1 = 60; omega) (fun i => (z2 59 i (by decide) (by decide) (by decide) (by decide)).trans (hz 59 i (by decide))) (fun M3 k3 p3 => ?_)
  have z3 : ∀ b i, b ≠ 2 → b ≠ 4 → b ≠ 31 → b ≠ 33 → gI M3 b i = gI M b i := fun b i c1 c2 c3 c4 => (k3.2.1 b i).trans (z2 b i c1 c2 c3 c4)
  have y3 : ∀ b i, b = 2 ∨ b = 4 → gI M3 b i = gI M1 b i := fun b i c => (k3.2.1 b i).trans (y2 b i c)
  have l3 : gL M3 = gL M := k3.2.2.1.trans l2
  have r3 : PR [(59, 0, 60), (59, 1, 61), (59, 2, 62), (0, 1, 30), (30, 4, 55), (55, 0, 56), (55, 1, 57), (55, 2, 58), (30, 3, 49), (49, 0, 50), (49, 1, 51), (49, 2, 52), (49, 3, 53), (49, 4, 54), (30, 2, 41), (41, 0, 42), (41, 1, 43), (41, 2, 44), (41, 3, 45), (41, 4, 46), (41, 5, 47), (41, 6, 48), (30, 1, 34), (34, 0, 35), (34, 1, 36), (34, 2, 37), (34, 3, 38), (34, 4, 39), (34, 5, 40), (30, 0, 31), (31, 0, 32), (31, 1, 33), (0, 0, 1), (1, 4, 26), (26, 0, 27), (26, 1, 28), (26, 2, 29), (1, 3, 20), (20, 0, 21), (20, 1, 22), (20, 2, 23), (20, 3, 24), (20, 4, 25), (1, 2, 12), (12, 0, 13), (12, 1, 14), (12, 2, 15), (12, 3, 16), (12, 4, 17), (12, 5, 18), (12, 6, 19), (1, 1, 5), (5, 0, 6), (5, 1, 7), (5, 2, 8), (5, 3, 9), (5, 4, 10), (5, 5, 11), (1, 0, 2), (2, 0, 3), (2, 1, 4)] M3 := PR.ap p3 (PR.fr (t := 59) (L := [(0, 1, 30), (30, 4, 55), (55, 0, 56), (55, 1, 57), (55, 2, 58), (30, 3, 49), (49, 0, 50), (49, 1, 51), (49, 2, 52), (49, 3, 53), (49, 4, 54), (30, 2, 41), (41, 0, 42), (41, 1, 43), (41, 2, 44), (41, 3, 45), (41, 4, 46), (41, 5, 47), (41, 6, 48), (30, 1, 34), (34, 0, 35), (34, 1, 36), (34, 2, 37), (34, 3, 38), (34, 4, 39), (34, 5, 40), (30, 0, 31), (31, 0, 32), (31, 1, 33), (0, 0, 1), (1, 4, 26), (26, 0, 27), (26, 1, 28), (26, 2, 29), (1, 3, 20), (20, 0, 21), (20, 1, 22), (20, 2, 23), (20, 3, 24), (20, 4, 25), (1, 2, 12), (12, 0, 13), (12, 1, 14), (12, 2, 15), (12, 3, 16), (12, 4, 17), (12, 5, 18), (12, 6, 19), (1, 1, 5), (5, 0, 6), (5, 1, 7), (5, 2, 8), (5, 3, 9), (5, 4, 10), (5, 5, 11), (1, 0, 2), (2, 0, 3), (2, 1, 4)]) (PR.w (a := 0) (j := 1) (b := 30) r2 (by decide)) k3.2.2.2 (by decide))
  show Wq 5 _ _ mD_init 34 [iR 0, none] [vR 59, vR 0] _ Q
  refine wq_putR (pc := 34) (z := 2) dD_init_34 fW_D_22 sh_0 rfl (fun _ => rfl) (fun _ => ⟨rfl, rfl⟩) rfl (by decide) ?_
  refine wq_aload_n (pc := 37) dD_init_37 rfl rfl ?_
  refine wq_new (pc := 38) (a := 63) (N := 7) (cb := 16) (sb := 179) dD_init_38 cO_D_26 k3.1 sh_63 ?_
  refine wq_dup (pc := 41) dD_init_41 rfl ?_
  refine wq_callI (d' := 1) (cb' := 2) (sb' := 6) (cb := 14) (sb := 173) (pc := 42) (as := []) (rest := [vR 63, vR 0]) (lo' := [iR 63]) dD_init_42 mO_R_init lI_D_28 rfl rfl rfl rfl rfl rfl ?_
  refine K_R_63 (by have h0 := k3.1; show nx M3 + 1 = 64; omega) (fun i => (z3 63 i (by decide) (by decide) (by decide) (by decide)).trans (hz 63 i (by decide))) (fun M4 k4 p4 => ?_)
  have z4 : ∀ b i, b ≠ 2 → b ≠ 4 → b ≠ 31 → b ≠ 33 → gI M4 b i = gI M b i := fun b i c1 c2 c3 c4 => (k4.2.1 b i).trans (z3 b i c1 c2 c3 c4)
  have y4 : ∀ b i, b = 2 ∨ b = 4 → gI M4 b i = gI M1 b i := fun b i c => (k4.2.1 b i).trans (y3 b i c)
  have l4 : gL M4 = gL M := k4.2.2.1.trans l3
  have r4 : PR [(63, 0, 64), (0, 2, 59), (59, 0, 60), (59, 1, 61), (59, 2, 62), (0, 1, 30), (30, 4, 55), (55, 0, 56), (55, 1, 57), (55, 2, 58), (30, 3, 49), (49, 0, 50), (49, 1, 51), (49, 2, 52), (49, 3, 53), (49, 4, 54), (30, 2, 41), (41, 0, 42), (41, 1, 43), (41, 2, 44), (41, 3, 45), (41, 4, 46), (41, 5, 47), (41, 6, 48), (30, 1, 34), (34, 0, 35), (34, 1, 36), (34, 2, 37), (34, 3, 38), (34, 4, 39), (34, 5, 40), (30, 0, 31), (31, 0, 32), (31, 1, 33), (0, 0, 1), (1, 4, 26), (26, 0, 27), (26, 1, 28), (26, 2, 29), (1, 3, 20), (20, 0, 21), (20, 1, 22), (20, 2, 23), (20, 3, 24), (20, 4, 25), (1, 2, 12), (12, 0, 13), (12, 1, 14), (12, 2, 15), (12, 3, 16), (12, 4, 17), (12, 5, 18), (12, 6, 19), (1, 1, 5), (5, 0, 6), (5, 1, 7), (5, 2, 8), (5, 3, 9), (5, 4, 10), (5, 5, 11), (1, 0, 2), (2, 0, 3), (2, 1, 4)] M4 := PR.ap p4 (PR.fr (t := 63) (L := [(0, 2, 59), (59, 0, 60), (59, 1, 61), (59, 2, 62), (0, 1, 30), (30, 4, 55), (55, 0, 56), (55, 1, 57), (55, 2, 58), (30, 3, 49), (49, 0, 50), (49, 1, 51), (49, 2, 52), (49, 3, 53), (49, 4, 54), (30, 2, 41), (41, 0, 42), (41, 1, 43), (41, 2, 44), (41, 3, 45), (41, 4, 46), (41, 5, 47), (41, 6, 48), (30, 1, 34), (34, 0, 35), (34, 1, 36), (34, 2, 37), (34, 3, 38), (34, 4, 39), (34, 5, 40), (30, 0, 31), (31, 0, 32), (31, 1, 33), (0, 0, 1), (1, 4, 26), (26, 0, 27), (26, 1, 28), (26, 2, 29), (1, 3, 20), (20, 0, 21), (20, 1, 22), (20, 2, 23), (20, 3, 24), (20, 4, 25), (1, 2, 12), (12, 0, 13), (12, 1, 14), (12, 2, 15), (12, 3, 16), (12, 4, 17), (12, 5, 18), (12, 6, 19), (1, 1, 5), (5, 0, 6), (5, 1, 7), (5, 2, 8), (5, 3, 9), (5, 4, 10), (5, 5, 11), (1, 0, 2), (2, 0, 3), (2, 1, 4)]) (PR.w (a := 0) (j := 2) (b := 59) r3 (by decide)) k4.2.2.2 (by decide))
  show Wq 5 _ _ mD_init 45 [iR 0, none] [vR 63, vR 0] _ Q
  refine wq_putR (pc := 45) (z := 3) dD_init_45 fW_D_29 sh_0 rfl (fun _ => rfl) (fun _ => ⟨rfl, rfl⟩) rfl (by decide) ?_
  refine wq_aload_n (pc := 48) dD_init_48 rfl rfl ?_
  refine wq_new (pc := 49) (a := 66) (N := 5) (cb := 13) (sb := 168) dD_init_49 cO_D_33 k4.1 sh_66 ?_
  refine wq_dup (pc := 52) dD_init_52 rfl ?_
  refine wq_callI (d' := 1) (cb' := 1) (sb' := 40) (cb := 12) (sb := 128) (pc := 53) (as := []) (rest := [vR 66, vR 0]) (lo' := [iR 66]) dD_init_53 mO_V_init lI_D_35 rfl rfl rfl rfl rfl rfl ?_
  refine K_V_66 (by have h0 := k4.1; show nx M4 + 1 = 67; omega) (fun i => (z4 66 i (by decide) (by decide) (by decide) (by decide)).trans (hz 66 i (by decide))) (fun M5 k5 p5 => ?_)
  have z5 : ∀ b i, b ≠ 2 → b ≠ 4 → b ≠ 31 → b ≠ 33 → gI M5 b i = gI M b i := fun b i c1 c2 c3 c4 => (k5.2.1 b i).trans (z4 b i c1 c2 c3 c4)
  have y5 : ∀ b i, b = 2 ∨ b = 4 → gI M5 b i = gI M1 b i := fun b i c => (k5.2.1 b i).trans (y4 b i c)
  have l5 : gL M5 = gL M := k5.2.2.1.trans l4
  have r5 : PR [(66, 0, 67), (0, 3, 63), (63, 0, 64), (0, 2, 59), (59, 0, 60), (59, 1, 61), (59, 2, 62), (0, 1, 30), (30, 4, 55), (55, 0, 56), (55, 1, 57), (55, 2, 58), (30, 3, 49), (49, 0, 50), (49, 1, 51), (49, 2, 52), (49, 3, 53), (49, 4, 54), (30, 2, 41), (41, 0, 42), (41, 1, 43), (41, 2, 44), (41, 3, 45), (41, 4, 46), (41, 5, 47), (41, 6, 48), (30, 1, 34), (34, 0, 35), (34, 1, 36), (34, 2, 37), (34, 3, 38), (34, 4, 39), (34, 5, 40), (30, 0, 31), (31, 0, 32), (31, 1, 33), (0, 0, 1), (1, 4, 26), (26, 0, 27), (26, 1, 28), (26, 2, 29), (1, 3, 20), (20, 0, 21), (20, 1, 22), (20, 2, 23), (20, 3, 24), (20, 4, 25), (1, 2, 12), (12, 0, 13), (12, 1, 14), (12, 2, 15), (12, 3, 16), (12, 4, 17), (12, 5, 18), (12, 6, 19), (1, 1, 5), (5, 0, 6), (5, 1, 7), (5, 2, 8), (5, 3, 9), (5, 4, 10), (5, 5, 11), (1, 0, 2), (2, 0, 3), (2, 1, 4)] M5 := PR.ap p5 (PR.fr (t := 66) (L := [(0, 3, 63), (63, 0, 64), (0, 2, 59), (59, 0, 60), (59, 1, 61), (59, 2, 62), (0, 1, 30), (30, 4, 55), (55, 0, 56), (55, 1, 57), (55, 2, 58), (30, 3, 49), (49, 0, 50), (49, 1, 51), (49, 2, 52), (49, 3, 53), (49, 4, 54), (30, 2, 41), (41, 0, 42), (41, 1, 43), (41, 2, 44), (41, 3, 45), (41, 4, 46), (41, 5, 47), (41, 6, 48), (30, 1, 34), (34, 0, 35), (34, 1, 36), (34, 2, 37), (34, 3, 38), (34, 4, 39), (34, 5, 40), (30, 0, 31), (31, 0, 32), (31, 1, 33), (0, 0, 1), (1, 4, 26), (26, 0, 27), (26, 1, 28), (26, 2, 29), (1, 3, 20), (20, 0, 21), (20, 1, 22), (20, 2, 23), (20, 3, 24), (20, 4, 25), (1, 2, 12), (12, 0, 13), (12, 1, 14), (12, 2, 15), (12, 3, 16), (12, 4, 17), (12, 5, 18), (12, 6, 19), (1, 1, 5), (5, 0, 6), (5, 1, 7), (5, 2, 8), (5, 3, 9), (5, 4, 10), (5, 5, 11), (1, 0, 2), (2, 0, 3), (2, 1, 4)]) (PR.w (a := 0) (j := 3) (b := 63) r4 (by decide)) k5.2.2.2 (by decide))
  show Wq 5 _ _ mD_init 56 [iR 0, none] [vR 66, vR 0] _ Q
  refine wq_putR (pc := 56) (z := 4) dD_init_56 fW_D_36 sh_0 rfl (fun _ => rfl) (fun _ => ⟨rfl, rfl⟩) rfl (by decide) ?_
  refine wq_aload_n (pc := 59) dD_init_59 rfl rfl ?_
  refine wq_iconst (pc := 60) dD_init_60 rfl ?_
  refine wq_newQ (pc := 61) (a := 68) (N := 4) (cb := 11) (sb := 124) dD_init_61 aO_D_40 k5.1 sh_68 rfl (by decide) ?_
  refine wq_putR (pc := 64) (z := 5) dD_init_64 fW_D_42 sh_0 rfl (fun _ => rfl) (fun _ => ⟨rfl, rfl⟩) rfl (by decide) ?_
  refine wq_aload_n (pc := 67) dD_init_67 rfl rfl ?_
  refine wq_bipush (pc := 68) dD_init_68 rfl ?_
  refine wq_newI (pc := 70) (a := 69) (N := 6) (cb := 10) (sb := 118) dD_init_70 aT_int (by have h0 := k5.1; show nx M5 + 1 = 69; omega) sh_69 rfl (by decide) ?_
  refine wq_putR (pc := 72) (z := 6) dD_init_72 fW_D_46 sh_0 rfl (fun _ => rfl) (fun _ => ⟨rfl, rfl⟩) rfl (by decide) ?_
  refine wq_aload_n (pc := 75) dD_init_75 rfl rfl ?_
  refine wq_iconst (pc := 76) dD_init_76 rfl ?_
  refine wq_newI (pc := 77) (a := 70) (N := 5) (cb := 9) (sb := 113) dD_init_77 aT_int (by have h0 := k5.1; show nx M5 + 2 = 70; omega) sh_70 rfl (by decide) ?_
  refine wq_putR (pc := 79) (z := 7) dD_init_79 fW_D_50 sh_0 rfl (fun _ => rfl) (fun _ => ⟨rfl, rfl⟩) rfl (by decide) ?_
  refine wq_aload_n (pc := 82) dD_init_82 rfl rfl ?_
  refine wq_iconst (pc := 83) dD_init_83 rfl ?_
  refine wq_newI (pc := 84) (a := 71) (N := 5) (cb := 8) (sb := 108) dD_init_84 aT_int (by have h0 := k5.1; show nx M5 + 3 = 71; omega) sh_71 rfl (by decide) ?_
  refine wq_putR (pc := 86) (z := 8) dD_init_86 fW_D_53 sh_0 rfl (fun _ => rfl) (fun _ => ⟨rfl, rfl⟩) rfl (by decide) ?_
  refine wq_aload_n (pc := 89) dD_init_89 rfl rfl ?_
  refine wq_iconst (pc := 90) dD_init_90 rfl ?_
  refine wq_putI (pc := 91) (z := 9) dD_init_91 fW_D_56 sh_0 rfl rfl ?_
  refine wq_iconst (pc := 94) dD_init_94 rfl ?_
  refine wq_istore_n (pc := 95) (lo' := [iR 0, iI 0]) dD_init_95 rfl rfl rfl ?_
  refine wq_iload_n (pc := 96) dD_init_96 rfl rfl ?_
  refine wq_iconst (pc := 97) dD_init_97 rfl ?_
  refine wq_icmp_ge (pc := 98) (tgt := 120) dD_init_98 (by decide) (fun c => ?_) (fun c => ?_)
  · exact absurd c (by decide)
  refine wq_aload_n (pc := 101) dD_init_101 rfl rfl ?_
  refine wq_getR (pc := 102) (z := 5) (b := 68) dD_init_102 fO_D_42 sh_0 rfl rfl (by have r := (PR.w (a := 0) (j := 8) (b := 71) (PR.w (a := 0) (j := 7) (b := 70) (PR.w (a := 0) (j := 6) (b := 69) (PR.w (a := 0) (j := 5) (b := 68) (PR.w (a := 0) (j := 4) (b := 66) r5 (by decide)) (by decide)) (by decide)) (by decide)) (by decide)); exact r (0, 5, 68) (by decide)) ?_
  refine wq_iload_n (pc := 105) dD_init_105 rfl rfl ?_
  refine wq_new (pc := 106) (a := 72) (N := 3) (cb := 7) (sb := 105) dD_init_106 cO_D_40 (by have h0 := k5.1; show nx M5 + 4 = 72; omega) sh_72 ?_
  refine wq_dup (pc := 109) dD_init_109 rfl ?_
  refine wq_callI (d' := 1) (cb' := 1) (sb' := 24) (cb := 6) (sb := 81) (pc := 110) (as := []) (rest := [vR 72, vI 0, vR 68]) (lo' := [iR 72]) dD_init_110 mO_S_init lI_D_60 rfl rfl rfl rfl rfl rfl ?_
  refine K_S_72 (by have h0 := k5.1; show nx M5 + 5 = 73; omega) (fun i => (z5 72 i (by decide) (by decide) (by decide) (by decide)).trans (hz 72 i (by decide))) (fun M6 k6 p6 => ?_)
  have z6 : ∀ b i, b ≠ 2 → b ≠ 4 → b ≠ 31 → b ≠ 33 → gI M6 b i = gI M b i := fun b i c1 c2 c3 c4 => (k6.2.1 b i).trans (by
    show (if b = 0 ∧ i = 9 then (0 : Int) else gI M5 b i) = gI M b i
    by_cases c : b = 0
    · rw [c, z5 0 i (by decide) (by decide) (by decide) (by decide), hz 0 i (by decide)]
      split <;> rfl
    · simp only [c, false_and, if_false]
      exact z5 b i c1 c2 c3 c4)
  have y6 : ∀ b i, b = 2 ∨ b = 4 → gI M6 b i = gI M1 b i := fun b i c => (k6.2.1 b i).trans ((show (if b = 0 ∧ i = 9 then (0 : Int) else gI M5 b i) = gI M5 b i from if_neg (fun z => by omega)).trans (y5 b i c))
  have l6 : gL M6 = gL M := k6.2.2.1.trans l5
  have r6 : PR [(72, 0, 73), (0, 8, 71), (0, 7, 70), (0, 6, 69), (0, 5, 68), (0, 4, 66), (66, 0, 67), (0, 3, 63), (63, 0, 64), (0, 2, 59), (59, 0, 60), (59, 1, 61), (59, 2, 62), (0, 1, 30), (30, 4, 55), (55, 0, 56), (55, 1, 57), (55, 2, 58), (30, 3, 49), (49, 0, 50), (49, 1, 51), (49, 2, 52), (49, 3, 53), (49, 4, 54), (30, 2, 41), (41, 0, 42), (41, 1, 43), (41, 2, 44), (41, 3, 45), (41, 4, 46), (41, 5, 47), (41, 6, 48), (30, 1, 34), (34, 0, 35), (34, 1, 36), (34, 2, 37), (34, 3, 38), (34, 4, 39), (34, 5, 40), (30, 0, 31), (31, 0, 32), (31, 1, 33), (0, 0, 1), (1, 4, 26), (26, 0, 27), (26, 1, 28), (26, 2, 29), (1, 3, 20), (20, 0, 21), (20, 1, 22), (20, 2, 23), (20, 3, 24), (20, 4, 25), (1, 2, 12), (12, 0, 13), (12, 1, 14), (12, 2, 15), (12, 3, 16), (12, 4, 17), (12, 5, 18), (12, 6, 19), (1, 1, 5), (5, 0, 6), (5, 1, 7), (5, 2, 8), (5, 3, 9), (5, 4, 10), (5, 5, 11), (1, 0, 2), (2, 0, 3), (2, 1, 4)] M6 := PR.ap p6 (PR.fr (t := 72) (L := [(0, 8, 71), (0, 7, 70), (0, 6, 69), (0, 5, 68), (0, 4, 66), (66, 0, 67), (0, 3, 63), (63, 0, 64), (0, 2, 59), (59, 0, 60), (59, 1, 61), (59, 2, 62), (0, 1, 30), (30, 4, 55), (55, 0, 56), (55, 1, 57), (55, 2, 58), (30, 3, 49), (49, 0, 50), (49, 1, 51), (49, 2, 52), (49, 3, 53), (49, 4, 54), (30, 2, 41), (41, 0, 42), (41, 1, 43), (41, 2, 44), (41, 3, 45), (41, 4, 46), (41, 5, 47), (41, 6, 48), (30, 1, 34), (34, 0, 35), (34, 1, 36), (34, 2, 37), (34, 3, 38), (34, 4, 39), (34, 5, 40), (30, 0, 31), (31, 0, 32), (31, 1, 33), (0, 0, 1), (1, 4, 26), (26, 0, 27), (26, 1, 28), (26, 2, 29), (1, 3, 20), (20, 0, 21), (20, 1, 22), (20, 2, 23), (20, 3, 24), (20, 4, 25), (1, 2, 12), (12, 0, 13), (12, 1, 14), (12, 2, 15), (12, 3, 16), (12, 4, 17), (12, 5, 18), (12, 6, 19), (1, 1, 5), (5, 0, 6), (5, 1, 7), (5, 2, 8), (5, 3, 9), (5, 4, 10), (5, 5, 11), (1, 0, 2), (2, 0, 3), (2, 1, 4)]) (PR.w (a := 0) (j := 8) (b := 71) (PR.w (a := 0) (j := 7) (b := 70) (PR.w (a := 0) (j := 6) (b := 69) (PR.w (a := 0) (j := 5) (b := 68) (PR.w (a := 0) (j := 4) (b := 66) r5 (by decide)) (by decide)) (by decide)) (by decide)) (by decide)) k6.2.2.2 (by decide))
  show Wq 5 _ _ mD_init 113 [iR 0, iI 0] [vR 72, vI 0, vR 68] _ Q
  refine wq_aast (pc := 113) dD_init_113 sh_68 sh_72 (by decide) (by decide) ?_
  refine wq_iinc (pc := 114) (lo' := [iR 0, iI 1]) dD_init_114 rfl rfl rfl ?_
  refine wq_goto (pc := 117) (tgt := 96) dD_init_117 (by decide) ?_
  refine wq_iload_n (pc := 96) dD_init_96 rfl rfl ?_
  refine wq_iconst (pc := 97) dD_init_97 rfl ?_
  refine wq_icmp_ge (pc := 98) (tgt := 120) dD_init_98 (by decide) (fun c => ?_) (fun c => ?_)
  · exact absurd c (by decide)
  refine wq_aload_n (pc := 101) dD_init_101 rfl rfl ?_
  refine wq_getR (pc := 102) (z := 5) (b := 68) dD_init_102 fO_D_42 sh_0 rfl rfl (by have r := (PR.w (a := 68) (j := 0) (b := 72) r6 (by decide)); exact r (0, 5, 68) (by decide)) ?_
  refine wq_iload_n (pc := 105) dD_init_105 rfl rfl ?_
  refine wq_new (pc := 106) (a := 74) (N := 3) (cb := 5) (sb := 78) dD_init_106 cO_D_40 k6.1 sh_74 ?_
  refine wq_dup (pc := 109) dD_init_109 rfl ?_
  refine wq_callI (d' := 1) (cb' := 1) (sb' := 24) (cb := 4) (sb := 54) (pc := 110) (as := []) (rest := [vR 74, vI 1, vR 68]) (lo' := [iR 74]) dD_init_110 mO_S_init lI_D_60 rfl rfl rfl rfl rfl rfl ?_
  refine K_S_74 (by have h0 := k6.1; show nx M6 + 1 = 75; omega) (fun i => (z6 74 i (by decide) (by decide) (by decide) (by decide)).trans (hz 74 i (by decide))) (fun M7 k7 p7 => ?_)
  have z7 : ∀ b i, b ≠ 2 → b ≠ 4 → b ≠ 31 → b ≠ 33 → gI M7 b i = gI M b i := fun b i c1 c2 c3 c4 => (k7.2.1 b i).trans (z6 b i c1 c2 c3 c4)
  have y7 : ∀ b i, b = 2 ∨ b = 4 → gI M7 b i = gI M1 b i := fun b i c => (k7.2.1 b i).trans (y6 b i c)
  have l7 : gL M7 = gL M := k7.2.2.1.trans l6
  have r7 : PR [(74, 0, 75), (68, 0, 72), (72, 0, 73), (0, 8, 71), (0, 7, 70), (0, 6, 69), (0, 5, 68), (0, 4, 66), (66, 0, 67), (0, 3, 63), (63, 0, 64), (0, 2, 59), (59, 0, 60), (59, 1, 61), (59, 2, 62), (0, 1, 30), (30, 4, 55), (55, 0, 56), (55, 1, 57), (55, 2, 58), (30, 3, 49), (49, 0, 50), (49, 1, 51), (49, 2, 52), (49, 3, 53), (49, 4, 54), (30, 2, 41), (41, 0, 42), (41, 1, 43), (41, 2, 44), (41, 3, 45), (41, 4, 46), (41, 5, 47), (41, 6, 48), (30, 1, 34), (34, 0, 35), (34, 1, 36), (34, 2, 37), (34, 3, 38), (34, 4, 39), (34, 5, 40), (30, 0, 31), (31, 0, 32), (31, 1, 33), (0, 0, 1), (1, 4, 26), (26, 0, 27), (26, 1, 28), (26, 2, 29), (1, 3, 20), (20, 0, 21), (20, 1, 22), (20, 2, 23), (20, 3, 24), (20, 4, 25), (1, 2, 12), (12, 0, 13), (12, 1, 14), (12, 2, 15), (12, 3, 16), (12, 4, 17), (12, 5, 18), (12, 6, 19), (1, 1, 5), (5, 0, 6), (5, 1, 7), (5, 2, 8), (5, 3, 9), (5, 4, 10), (5, 5, 11), (1, 0, 2), (2, 0, 3), (2, 1, 4)] M7 := PR.ap p7 (PR.fr (t := 74) (L := [(68, 0, 72), (72, 0, 73), (0, 8, 71), (0, 7, 70), (0, 6, 69), (0, 5, 68), (0, 4, 66), (66, 0, 67), (0, 3, 63), (63, 0, 64), (0, 2, 59), (59, 0, 60), (59, 1, 61), (59, 2, 62), (0, 1, 30), (30, 4, 55), (55, 0, 56), (55, 1, 57), (55, 2, 58), (30, 3, 49), (49, 0, 50), (49, 1, 51), (49, 2, 52), (49, 3, 53), (49, 4, 54), (30, 2, 41), (41, 0, 42), (41, 1, 43), (41, 2, 44), (41, 3, 45), (41, 4, 46), (41, 5, 47), (41, 6, 48), (30, 1, 34), (34, 0, 35), (34, 1, 36), (34, 2, 37), (34, 3, 38), (34, 4, 39), (34, 5, 40), (30, 0, 31), (31, 0, 32), (31, 1, 33), (0, 0, 1), (1, 4, 26), (26, 0, 27), (26, 1, 28), (26, 2, 29), (1, 3, 20), (20, 0, 21), (20, 1, 22), (20, 2, 23), (20, 3, 24), (20, 4, 25), (1, 2, 12), (12, 0, 13), (12, 1, 14), (12, 2, 15), (12, 3, 16), (12, 4, 17), (12, 5, 18), (12, 6, 19), (1, 1, 5), (5, 0, 6), (5, 1, 7), (5, 2, 8), (5, 3, 9), (5, 4, 10), (5, 5, 11), (1, 0, 2), (2, 0, 3), (2, 1, 4)]) (PR.w (a := 68) (j := 0) (b := 72) r6 (by decide)) k7.2.2.2 (by decide))
  show Wq 5 _ _ mD_init 113 [iR 0, iI 1] [vR 74, vI 1, vR 68] _ Q
  refine wq_aast (pc := 113) dD_init_113 sh_68 sh_74 (by decide) (by decide) ?_
  refine wq_iinc (pc := 114) (lo' := [iR 0, iI 2]) dD_init_114 rfl rfl rfl ?_
  refine wq_goto (pc := 117) (tgt := 96) dD_init_117 (by decide) ?_
  refine wq_iload_n (pc := 96) dD_init_96 rfl rfl ?_
  refine wq_iconst (pc := 97) dD_init_97 rfl ?_
  refine wq_icmp_ge (pc := 98) (tgt := 120) dD_init_98 (by decide) (fun c => ?_) (fun c => ?_)
  · exact absurd c (by decide)
  refine wq_aload_n (pc := 101) dD_init_101 rfl rfl ?_
  refine wq_getR (pc := 102) (z := 5) (b := 68) dD_init_102 fO_D_42 sh_0 rfl rfl (by have r := (PR.w (a := 68) (j := 1) (b := 74) r7 (by decide)); exact r (0, 5, 68) (by decide)) ?_
  refine wq_iload_n (pc := 105) dD_init_105 rfl rfl ?_
  refine wq_new (pc := 106) (a := 76) (N := 3) (cb := 3) (sb := 51) dD_init_106 cO_D_40 k7.1 sh_76 ?_
  refine wq_dup (pc := 109) dD_init_109 rfl ?_
  refine wq_callI (d' := 1) (cb' := 1) (sb' := 24) (cb := 2) (sb := 27) (pc := 110) (as := []) (rest := [vR 76, vI 2, vR 68]) (lo' := [iR 76]) dD_init_110 mO_S_init lI_D_60 rfl rfl rfl rfl rfl rfl ?_
  refine K_S_76 (by have h0 := k7.1; show nx M7 + 1 = 77; omega) (fun i => (z7 76 i (by decide) (by decide) (by decide) (by decide)).trans (hz 76 i (by decide))) (fun M8 k8 p8 => ?_)
  have z8 : ∀ b i, b ≠ 2 → b ≠ 4 → b ≠ 31 → b ≠ 33 → gI M8 b i = gI M b i := fun b i c1 c2 c3 c4 => (k8.2.1 b i).trans (z7 b i c1 c2 c3 c4)
  have y8 : ∀ b i, b = 2 ∨ b = 4 → gI M8 b i = gI M1 b i := fun b i c => (k8.2.1 b i).trans (y7 b i c)
  have l8 : gL M8 = gL M := k8.2.2.1.trans l7
  have r8 : PR [(76, 0, 77), (68, 1, 74), (74, 0, 75), (68, 0, 72), (72, 0, 73), (0, 8, 71), (0, 7, 70), (0, 6, 69), (0, 5, 68), (0, 4, 66), (66, 0, 67), (0, 3, 63), (63, 0, 64), (0, 2, 59), (59, 0, 60), (59, 1, 61), (59, 2, 62), (0, 1, 30), (30, 4, 55), (55, 0, 56), (55, 1, 57), (55, 2, 58), (30, 3, 49), (49, 0, 50), (49, 1, 51), (49, 2, 52), (49, 3, 53), (49, 4, 54), (30, 2, 41), (41, 0, 42), (41, 1, 43), (41, 2, 44), (41, 3, 45), (41, 4, 46), (41, 5, 47), (41, 6, 48), (30, 1, 34), (34, 0, 35), (34, 1, 36), (34, 2, 37), (34, 3, 38), (34, 4, 39), (34, 5, 40), (30, 0, 31), (31, 0, 32), (31, 1, 33), (0, 0, 1), (1, 4, 26), (26, 0, 27), (26, 1, 28), (26, 2, 29), (1, 3, 20), (20, 0, 21), (20, 1, 22), (20, 2, 23), (20, 3, 24), (20, 4, 25), (1, 2, 12), (12, 0, 13), (12, 1, 14), (12, 2, 15), (12, 3, 16), (12, 4, 17), (12, 5, 18), (12, 6, 19), (1, 1, 5), (5, 0, 6), (5, 1, 7), (5, 2, 8), (5, 3, 9), (5, 4, 10), (5, 5, 11), (1, 0, 2), (2, 0, 3), (2, 1, 4)] M8 := PR.ap p8 (PR.fr (t := 76) (L := [(68, 1, 74), (74, 0, 75), (68, 0, 72), (72, 0, 73), (0, 8, 71), (0, 7, 70), (0, 6, 69), (0, 5, 68), (0, 4, 66), (66, 0, 67), (0, 3, 63), (63, 0, 64), (0, 2, 59), (59, 0, 60), (59, 1, 61), (59, 2, 62), (0, 1, 30), (30, 4, 55), (55, 0, 56), (55, 1, 57), (55, 2, 58), (30, 3, 49), (49, 0, 50), (49, 1, 51), (49, 2, 52), (49, 3, 53), (49, 4, 54), (30, 2, 41), (41, 0, 42), (41, 1, 43), (41, 2, 44), (41, 3, 45), (41, 4, 46), (41, 5, 47), (41, 6, 48), (30, 1, 34), (34, 0, 35), (34, 1, 36), (34, 2, 37), (34, 3, 38), (34, 4, 39), (34, 5, 40), (30, 0, 31), (31, 0, 32), (31, 1, 33), (0, 0, 1), (1, 4, 26), (26, 0, 27), (26, 1, 28), (26, 2, 29), (1, 3, 20), (20, 0, 21), (20, 1, 22), (20, 2, 23), (20, 3, 24), (20, 4, 25), (1, 2, 12), (12, 0, 13), (12, 1, 14), (12, 2, 15), (12, 3, 16), (12, 4, 17), (12, 5, 18), (12, 6, 19), (1, 1, 5), (5, 0, 6), (5, 1, 7), (5, 2, 8), (5, 3, 9), (5, 4, 10), (5, 5, 11), (1, 0, 2), (2, 0, 3), (2, 1, 4)]) (PR.w (a := 68) (j := 1) (b := 74) r7 (by decide)) k8.2.2.2 (by decide))
  show Wq 5 _ _ mD_init 113 [iR 0, iI 2] [vR 76, vI 2, vR 68] _ Q
  refine wq_aast (pc := 113) dD_init_113 sh_68 sh_76 (by decide) (by decide) ?_
  refine wq_iinc (pc := 114) (lo' := [iR 0, iI 3]) dD_init_114 rfl rfl rfl ?_
  refine wq_goto (pc := 117) (tgt := 96) dD_init_117 (by decide) ?_
  refine wq_iload_n (pc := 96) dD_init_96 rfl rfl ?_
  refine wq_iconst (pc := 97) dD_init_97 rfl ?_
  refine wq_icmp_ge (pc := 98) (tgt := 120) dD_init_98 (by decide) (fun c => ?_) (fun c => ?_)
  · exact absurd c (by decide)
  refine wq_aload_n (pc := 101) dD_init_101 rfl rfl ?_
  refine wq_getR (pc := 102) (z := 5) (b := 68) dD_init_102 fO_D_42 sh_0 rfl rfl (by have r := (PR.w (a := 68) (j := 2) (b := 76) r8 (by decide)); exact r (0, 5, 68) (by decide)) ?_
  refine wq_iload_n (pc := 105) dD_init_105 rfl rfl ?_
  refine wq_new (pc := 106) (a := 78) (N := 3) (cb := 1) (sb := 24) dD_init_106 cO_D_40 k8.1 sh_78 ?_
  refine wq_dup (pc := 109) dD_init_109 rfl ?_
  refine wq_callI (d' := 1) (cb' := 1) (sb' := 24) (cb := 0) (sb := 0) (pc := 110) (as := []) (rest := [vR 78, vI 3, vR 68]) (lo' := [iR 78]) dD_init_110 mO_S_init lI_D_60 rfl rfl rfl rfl rfl rfl ?_
  refine K_S_78 (by have h0 := k8.1; show nx M8 + 1 = 79; omega) (fun i => (z8 78 i (by decide) (by decide) (by decide) (by decide)).trans (hz 78 i (by decide))) (fun M9 k9 p9 => ?_)
  have z9 : ∀ b i, b ≠ 2 → b ≠ 4 → b ≠ 31 → b ≠ 33 → gI M9 b i = gI M b i := fun b i c1 c2 c3 c4 => (k9.2.1 b i).trans (z8 b i c1 c2 c3 c4)
  have y9 : ∀ b i, b = 2 ∨ b = 4 → gI M9 b i = gI M1 b i := fun b i c => (k9.2.1 b i).trans (y8 b i c)
  have l9 : gL M9 = gL M := k9.2.2.1.trans l8
  have r9 : PR [(78, 0, 79), (68, 2, 76), (76, 0, 77), (68, 1, 74), (74, 0, 75), (68, 0, 72), (72, 0, 73), (0, 8, 71), (0, 7, 70), (0, 6, 69), (0, 5, 68), (0, 4, 66), (66, 0, 67), (0, 3, 63), (63, 0, 64), (0, 2, 59), (59, 0, 60), (59, 1, 61), (59, 2, 62), (0, 1, 30), (30, 4, 55), (55, 0, 56), (55, 1, 57), (55, 2, 58), (30, 3, 49), (49, 0, 50), (49, 1, 51), (49, 2, 52), (49, 3, 53), (49, 4, 54), (30, 2, 41), (41, 0, 42), (41, 1, 43), (41, 2, 44), (41, 3, 45), (41, 4, 46), (41, 5, 47), (41, 6, 48), (30, 1, 34), (34, 0, 35), (34, 1, 36), (34, 2, 37), (34, 3, 38), (34, 4, 39), (34, 5, 40), (30, 0, 31), (31, 0, 32), (31, 1, 33), (0, 0, 1), (1, 4, 26), (26, 0, 27), (26, 1, 28), (26, 2, 29), (1, 3, 20), (20, 0, 21), (20, 1, 22), (20, 2, 23), (20, 3, 24), (20, 4, 25), (1, 2, 12), (12, 0, 13), (12, 1, 14), (12, 2, 15), (12, 3, 16), (12, 4, 17), (12, 5, 18), (12, 6, 19), (1, 1, 5), (5, 0, 6), (5, 1, 7), (5, 2, 8), (5, 3, 9), (5, 4, 10), (5, 5, 11), (1, 0, 2), (2, 0, 3), (2, 1, 4)] M9 := PR.ap p9 (PR.fr (t := 78) (L := [(68, 2, 76), (76, 0, 77), (68, 1, 74), (74, 0, 75), (68, 0, 72), (72, 0, 73), (0, 8, 71), (0, 7, 70), (0, 6, 69), (0, 5, 68), (0, 4, 66), (66, 0, 67), (0, 3, 63), (63, 0, 64), (0, 2, 59), (59, 0, 60), (59, 1, 61), (59, 2, 62), (0, 1, 30), (30, 4, 55), (55, 0, 56), (55, 1, 57), (55, 2, 58), (30, 3, 49), (49, 0, 50), (49, 1, 51), (49, 2, 52), (49, 3, 53), (49, 4, 54), (30, 2, 41), (41, 0, 42), (41, 1, 43), (41, 2, 44), (41, 3, 45), (41, 4, 46), (41, 5, 47), (41, 6, 48), (30, 1, 34), (34, 0, 35), (34, 1, 36), (34, 2, 37), (34, 3, 38), (34, 4, 39), (34, 5, 40), (30, 0, 31), (31, 0, 32), (31, 1, 33), (0, 0, 1), (1, 4, 26), (26, 0, 27), (26, 1, 28), (26, 2, 29), (1, 3, 20), (20, 0, 21), (20, 1, 22), (20, 2, 23), (20, 3, 24), (20, 4, 25), (1, 2, 12), (12, 0, 13), (12, 1, 14), (12, 2, 15), (12, 3, 16), (12, 4, 17), (12, 5, 18), (12, 6, 19), (1, 1, 5), (5, 0, 6), (5, 1, 7), (5, 2, 8), (5, 3, 9), (5, 4, 10), (5, 5, 11), (1, 0, 2), (2, 0, 3), (2, 1, 4)]) (PR.w (a := 68) (j := 2) (b := 76) r8 (by decide)) k9.2.2.2 (by decide))
  show Wq 5 _ _ mD_init 113 [iR 0, iI 3] [vR 78, vI 3, vR 68] _ Q
  refine wq_aast (pc := 113) dD_init_113 sh_68 sh_78 (by decide) (by decide) ?_
  refine wq_iinc (pc := 114) (lo' := [iR 0, iI 4]) dD_init_114 rfl rfl rfl ?_
  refine wq_goto (pc := 117) (tgt := 96) dD_init_117 (by decide) ?_
  refine wq_iload_n (pc := 96) dD_init_96 rfl rfl ?_
  refine wq_iconst (pc := 97) dD_init_97 rfl ?_
  refine wq_icmp_ge (pc := 98) (tgt := 120) dD_init_98 (by decide) (fun c => ?_) (fun c => ?_)
  rotate_left
  · exact absurd c (by decide)
  refine wq_return (pc := 120) dD_init_120 trivial ?_
  refine hq _ k9.1 z9 l9 ?_ ⟨(y9 2 2 (Or.inl rfl)).trans dy1.1, (y9 2 3 (Or.inl rfl)).trans dy1.2.1, (y9 2 4 (Or.inl rfl)).trans dy1.2.2.1, fun d hd => (y9 4 d (Or.inr rfl)).trans (dy1.2.2.2 d hd)⟩
  have r : PR [(68, 3, 78), (78, 0, 79), (68, 2, 76), (76, 0, 77), (68, 1, 74), (74, 0, 75), (68, 0, 72), (72, 0, 73), (0, 8, 71), (0, 7, 70), (0, 6, 69), (0, 5, 68), (0, 4, 66), (66, 0, 67), (0, 3, 63), (63, 0, 64), (0, 2, 59), (59, 0, 60), (59, 1, 61), (59, 2, 62), (0, 1, 30), (30, 4, 55), (55, 0, 56), (55, 1, 57), (55, 2, 58), (30, 3, 49), (49, 0, 50), (49, 1, 51), (49, 2, 52), (49, 3, 53), (49, 4, 54), (30, 2, 41), (41, 0, 42), (41, 1, 43), (41, 2, 44), (41, 3, 45), (41, 4, 46), (41, 5, 47), (41, 6, 48), (30, 1, 34), (34, 0, 35), (34, 1, 36), (34, 2, 37), (34, 3, 38), (34, 4, 39), (34, 5, 40), (30, 0, 31), (31, 0, 32), (31, 1, 33), (0, 0, 1), (1, 4, 26), (26, 0, 27), (26, 1, 28), (26, 2, 29), (1, 3, 20), (20, 0, 21), (20, 1, 22), (20, 2, 23), (20, 3, 24), (20, 4, 25), (1, 2, 12), (12, 0, 13), (12, 1, 14), (12, 2, 15), (12, 3, 16), (12, 4, 17), (12, 5, 18), (12, 6, 19), (1, 1, 5), (5, 0, 6), (5, 1, 7), (5, 2, 8), (5, 3, 9), (5, 4, 10), (5, 5, 11), (1, 0, 2), (2, 0, 3), (2, 1, 4)] _ := (PR.w (a := 68) (j := 3) (b := 78) r9 (by decide))
  exact r
def LM : List (Nat × Int × Nat) := [(80, 25, 98), (80, 23, 97), (80, 22, 96), (80, 21, 95), (80, 19, 94), (80, 15, 93), (80, 14, 92), (80, 12, 91), (80, 11, 90), (80, 10, 89), (80, 9, 88), (80, 7, 87), (80, 6, 86), (80, 5, 85), (80, 4, 84), (80, 3, 83), (80, 1, 82), (80, 0, 81)]
theorem lt80 : ∀ q ∈ LD, q.1 < 80 := by decide +kernel
theorem mD : ∀ q ∈ rfT, q ∈ LD ∨ q ∈ LM := by decide +kernel
set_option maxRecDepth 20000 in
theorem K_M (hn : nx M = 81) (hz : ∀ b i, 80 ≤ b ∧ b < 1000 → gI M b i = 0) (pD : PR LD M) (hq : ∀ M', RefOK M' → (∀ b i, b < 80 ∨ 1000 ≤ b → gI M' b i = gI M b i) → gL M' = gL M → (∀ i, gI M' 81 i = n00 i) → (∀ b i, 82 ≤ b → b ≤ 98 → b ≠ 92 → gI M' b i = 0) → (gI M' 80 2 = 0 ∧ gI M' 80 8 = 0 ∧ gI M' 80 13 = 0) → (∀ w, 0 ≤ w → w < 16 → gI M' 92 w < 0) → Q M' none) : Wq 2 18 4394 mM_init 0 [iR 80] [] M Q := by
  have pn : ∀ {M : Mm}, PR [] M := fun q hq => absurd hq (by simp)
  refine wq_aload_n (pc := 0) dM_init_0 rfl rfl ?_
  refine wq_objInit (pc := 1) dM_init_1 oO_M_3 oI oC rfl ?_
  refine wq_aload_n (pc := 4) dM_init_4 rfl rfl ?_
  refine wq_sipush (pc := 5) dM_init_5 rfl ?_
  refine wq_newI (pc := 8) (a := 81) (N := 1993) (cb := 17) (sb := 2401) dM_init_8 aT_int hn sh_81 rfl (by decide) ?_
  refine wq_putR (pc := 10) (z := 0) dM_init_10 fW_M_9 sh_80 rfl (fun _ => rfl) (fun _ => ⟨rfl, rfl⟩) rfl (by decide) ?_
  refine wq_aload_n (pc := 13) dM_init_13 rfl rfl ?_
  refine wq_sipush (pc := 14) dM_init_14 rfl ?_
  refine wq_newI (pc := 17) (a := 82) (N := 1993) (cb := 16) (sb := 408) dM_init_17 aT_int (by have h0 := hn; show nx M + 1 = 82; omega) sh_82 rfl (by decide) ?_
  refine wq_putR (pc := 19) (z := 1) dM_init_19 fW_M_13 sh_80 rfl (fun _ => rfl) (fun _ => ⟨rfl, rfl⟩) rfl (by decide) ?_
  refine wq_aload_n (pc := 22) dM_init_22 rfl rfl ?_
  refine wq_bipush (pc := 23) dM_init_23 rfl ?_
  refine wq_newI (pc := 25) (a := 83) (N := 6) (cb := 15) (sb := 402) dM_init_25 aT_int (by have h0 := hn; show nx M + 2 = 83; omega) sh_83 rfl (by decide) ?_
  refine wq_putR (pc := 27) (z := 3) dM_init_27 fW_M_16 sh_80 rfl (fun _ => rfl) (fun _ => ⟨rfl, rfl⟩) rfl (by decide) ?_
  refine wq_aload_n (pc := 30) dM_init_30 rfl rfl ?_
  refine wq_iconst (pc := 31) dM_init_31 rfl ?_
  refine wq_newI (pc := 32) (a := 84) (N := 4) (cb := 14) (sb := 398) dM_init_32 aT_int (by have h0 := hn; show nx M + 3 = 84; omega) sh_84 rfl (by decide) ?_
  refine wq_putR (pc := 34) (z := 4) dM_init_34 fW_M_19 sh_80 rfl (fun _ => rfl) (fun _ => ⟨rfl, rfl⟩) rfl (by decide) ?_
  refine wq_aload_n (pc := 37) dM_init_37 rfl rfl ?_
  refine wq_iconst (pc := 38) dM_init_38 rfl ?_
  refine wq_newI (pc := 39) (a := 85) (N := 4) (cb := 13) (sb := 394) dM_init_39 aT_int (by have h0 := hn; show nx M + 4 = 85; omega) sh_85 rfl (by decide) ?_
  refine wq_putR (pc := 41) (z := 5) dM_init_41 fW_M_22 sh_80 rfl (fun _ => rfl) (fun _ => ⟨rfl, rfl⟩) rfl (by decide) ?_
  refine wq_aload_n (pc := 44) dM_init_44 rfl rfl ?_
  refine wq_bipush (pc := 45) dM_init_45 rfl ?_
  refine wq_newI (pc := 47) (a := 86) (N := 96) (cb := 12) (sb := 298) dM_init_47 aT_int (by have h0 := hn; show nx M + 5 = 86; omega) sh_86 rfl (by decide) ?_
  refine wq_putR (pc := 49) (z := 6) dM_init_49 fW_M_25 sh_80 rfl (fun _ => rfl) (fun _ => ⟨rfl, rfl⟩) rfl (by decide) ?_
  refine wq_aload_n (pc := 52) dM_init_52 rfl rfl ?_
  refine wq_bipush (pc := 53) dM_init_53 rfl ?_
  refine wq_newI (pc := 55) (a := 87) (N := 40) (cb := 11) (sb := 258) dM_init_55 aT_int (by have h0 := hn; show nx M + 6 = 87; omega) sh_87 rfl (by decide) ?_
  refine wq_putR (pc := 57) (z := 7) dM_init_57 fW_M_28 sh_80 rfl (fun _ => rfl) (fun _ => ⟨rfl, rfl⟩) rfl (by decide) ?_
  refine wq_aload_n (pc := 60) dM_init_60 rfl rfl ?_
  refine wq_bipush (pc := 61) dM_init_61 rfl ?_
  refine wq_newI (pc := 63) (a := 88) (N := 16) (cb := 10) (sb := 242) dM_init_63 aT_int (by have h0 := hn; show nx M + 7 = 88; omega) sh_88 rfl (by decide) ?_
  refine wq_putR (pc := 65) (z := 9) dM_init_65 fW_M_31 sh_80 rfl (fun _ => rfl) (fun _ => ⟨rfl, rfl⟩) rfl (by decide) ?_
  refine wq_aload_n (pc := 68) dM_init_68 rfl rfl ?_
  refine wq_bipush (pc := 69) dM_init_69 rfl ?_
  refine wq_newI (pc := 71) (a := 89) (N := 16) (cb := 9) (sb := 226) dM_init_71 aT_int (by have h0 := hn; show nx M + 8 = 89; omega) sh_89 rfl (by decide) ?_
  refine wq_putR (pc := 73) (z := 10) dM_init_73 fW_M_34 sh_80 rfl (fun _ => rfl) (fun _ => ⟨rfl, rfl⟩) rfl (by decide) ?_
  refine wq_aload_n (pc := 76) dM_init_76 rfl rfl ?_
  refine wq_bipush (pc := 77) dM_init_77 rfl ?_
  refine wq_newI (pc := 79) (a := 90) (N := 16) (cb := 8) (sb := 210) dM_init_79 aT_int (by have h0 := hn; show nx M + 9 = 90; omega) sh_90 rfl (by decide) ?_
  refine wq_putR (pc := 81) (z := 11) dM_init_81 fW_M_37 sh_80 rfl (fun _ => rfl) (fun _ => ⟨rfl, rfl⟩) rfl (by decide) ?_
  refine wq_aload_n (pc := 84) dM_init_84 rfl rfl ?_
  refine wq_bipush (pc := 85) dM_init_85 rfl ?_
  refine wq_newI (pc := 87) (a := 91) (N := 16) (cb := 7) (sb := 194) dM_init_87 aT_int (by have h0 := hn; show nx M + 10 = 91; omega) sh_91 rfl (by decide) ?_
  refine wq_putR (pc := 89) (z := 12) dM_init_89 fW_M_40 sh_80 rfl (fun _ => rfl) (fun _ => ⟨rfl, rfl⟩) rfl (by decide) ?_
  refine wq_aload_n (pc := 92) dM_init_92 rfl rfl ?_
  refine wq_bipush (pc := 93) dM_init_93 rfl ?_
  refine wq_newI (pc := 95) (a := 92) (N := 16) (cb := 6) (sb := 178) dM_init_95 aT_int (by have h0 := hn; show nx M + 11 = 92; omega) sh_92 rfl (by decide) ?_
  refine wq_putR (pc := 97) (z := 14) dM_init_97 fW_M_43 sh_80 rfl (fun _ => rfl) (fun _ => ⟨rfl, rfl⟩) rfl (by decide) ?_
  refine wq_aload_n (pc := 100) dM_init_100 rfl rfl ?_
  refine wq_iconst (pc := 101) dM_init_101 rfl ?_
  refine wq_newI (pc := 102) (a := 93) (N := 4) (cb := 5) (sb := 174) dM_init_102 aT_int (by have h0 := hn; show nx M + 12 = 93; omega) sh_93 rfl (by decide) ?_
  refine wq_putR (pc := 104) (z := 15) dM_init_104 fW_M_46 sh_80 rfl (fun _ => rfl) (fun _ => ⟨rfl, rfl⟩) rfl (by decide) ?_
  refine wq_aload_n (pc := 107) dM_init_107 rfl rfl ?_
  refine wq_bipush (pc := 108) dM_init_108 rfl ?_
  refine wq_newI (pc := 110) (a := 94) (N := 70) (cb := 4) (sb := 104) dM_init_110 aT_int (by have h0 := hn; show nx M + 13 = 94; omega) sh_94 rfl (by decide) ?_
  refine wq_putR (pc := 112) (z := 19) dM_init_112 fW_M_49 sh_80 rfl (fun _ => rfl) (fun _ => ⟨rfl, rfl⟩) rfl (by decide) ?_
  refine wq_aload_n (pc := 115) dM_init_115 rfl rfl ?_
  refine wq_bipush (pc := 116) dM_init_116 rfl ?_
  refine wq_newI (pc := 118) (a := 95) (N := 70) (cb := 3) (sb := 34) dM_init_118 aT_int (by have h0 := hn; show nx M + 14 = 95; omega) sh_95 rfl (by decide) ?_
  refine wq_putR (pc := 120) (z := 21) dM_init_120 fW_M_52 sh_80 rfl (fun _ => rfl) (fun _ => ⟨rfl, rfl⟩) rfl (by decide) ?_
  refine wq_aload_n (pc := 123) dM_init_123 rfl rfl ?_
  refine wq_iconst (pc := 124) dM_init_124 rfl ?_
  refine wq_newI (pc := 125) (a := 96) (N := 5) (cb := 2) (sb := 29) dM_init_125 aT_int (by have h0 := hn; show nx M + 15 = 96; omega) sh_96 rfl (by decide) ?_
  refine wq_putR (pc := 127) (z := 22) dM_init_127 fW_M_55 sh_80 rfl (fun _ => rfl) (fun _ => ⟨rfl, rfl⟩) rfl (by decide) ?_
  refine wq_aload_n (pc := 130) dM_init_130 rfl rfl ?_
  refine wq_iconst (pc := 131) dM_init_131 rfl ?_
  refine wq_newI (pc := 132) (a := 97) (N := 5) (cb := 1) (sb := 24) dM_init_132 aT_int (by have h0 := hn; show nx M + 16 = 97; omega) sh_97 rfl (by decide) ?_
  refine wq_putR (pc := 134) (z := 23) dM_init_134 fW_M_58 sh_80 rfl (fun _ => rfl) (fun _ => ⟨rfl, rfl⟩) rfl (by decide) ?_
  refine wq_aload_n (pc := 137) dM_init_137 rfl rfl ?_
  refine wq_bipush (pc := 138) dM_init_138 rfl ?_
  refine wq_newI (pc := 140) (a := 98) (N := 24) (cb := 0) (sb := 0) dM_init_140 aT_int (by have h0 := hn; show nx M + 17 = 98; omega) sh_98 rfl (by decide) ?_
  refine wq_putR (pc := 142) (z := 25) dM_init_142 fW_M_61 sh_80 rfl (fun _ => rfl) (fun _ => ⟨rfl, rfl⟩) rfl (by decide) ?_
  refine wq_aload_n (pc := 145) dM_init_145 rfl rfl ?_
  refine wq_getR (pc := 146) (z := 0) (b := 81) dM_init_146 fO_M_9 sh_80 rfl rfl (by have r := (PR.w (a := 80) (j := 25) (b := 98) (PR.w (a := 80) (j := 23) (b := 97) (PR.w (a := 80) (j := 22) (b := 96) (PR.w (a := 80) (j := 21) (b := 95) (PR.w (a := 80) (j := 19) (b := 94) (PR.w (a := 80) (j := 15) (b := 93) (PR.w (a := 80) (j := 14) (b := 92) (PR.w (a := 80) (j := 12) (b := 91) (PR.w (a := 80) (j := 11) (b := 90) (PR.w (a := 80) (j := 10) (b := 89) (PR.w (a := 80) (j := 9) (b := 88) (PR.w (a := 80) (j := 7) (b := 87) (PR.w (a := 80) (j := 6) (b := 86) (PR.w (a := 80) (j := 5) (b := 85) (PR.w (a := 80) (j := 4) (b := 84) (PR.w (a := 80) (j := 3) (b := 83) (PR.w (a := 80) (j := 1) (b := 82) (PR.w (a := 80) (j := 0) (b := 81) (pn (M := M)) (by decide)) (by decide)) (by decide)) (by decide)) (by decide)) (by decide)) (by decide)) (by decide)) (by decide)) (by decide)) (by decide)) (by decide)) (by decide)) (by decide)) (by decide)) (by decide)) (by decide)) (by decide)); exact r (80, 0, 81) (by decide)) ?_
  refine wq_iconst (pc := 149) dM_init_149 rfl ?_
  refine wq_bipush (pc := 150) dM_init_150 rfl ?_
  refine wq_iast (pc := 152) dM_init_152 sh_81 (by decide) (by decide) (by decide) ?_
  refine wq_aload_n (pc := 153) dM_init_153 rfl rfl ?_
  refine wq_callV (d' := 1) (pc := 154) (as := []) (rest := []) (lo' := [iR 80, none]) dM_init_154 mO_M_changed lV_M_64 sh_80 (by decide) cl_11 rfl rfl rfl rfl rfl rfl ?_
  refine sp_M_changed (fun q hq => ?_) (fun M1 g1 g2 g3 g4 g5 => ?_)
  · rcases mD q hq with z | z
    · have hb : q.1 ≠ 80 := fun y => by have := lt80 q z; omega
      show (if q.1 = 80 ∧ q.2.1 = 25 then some 98 else (if q.1 = 80 ∧ q.2.1 = 23 then some 97 else (if q.1 = 80 ∧ q.2.1 = 22 then some 96 else (if q.1 = 80 ∧ q.2.1 = 21 then some 95 else (if q.1 = 80 ∧ q.2.1 = 19 then some 94 else (if q.1 = 80 ∧ q.2.1 = 15 then some 93 else (if q.1 = 80 ∧ q.2.1 = 14 then some 92 else (if q.1 = 80 ∧ q.2.1 = 12 then some 91 else (if q.1 = 80 ∧ q.2.1 = 11 then some 90 else (if q.1 = 80 ∧ q.2.1 = 10 then some 89 else (if q.1 = 80 ∧ q.2.1 = 9 then some 88 else (if q.1 = 80 ∧ q.2.1 = 7 then some 87 else (if q.1 = 80 ∧ q.2.1 = 6 then some 86 else (if q.1 = 80 ∧ q.2.1 = 5 then some 85 else (if q.1 = 80 ∧ q.2.1 = 4 then some 84 else (if q.1 = 80 ∧ q.2.1 = 3 then some 83 else (if q.1 = 80 ∧ q.2.1 = 1 then some 82 else (if q.1 = 80 ∧ q.2.1 = 0 then some 81 else gR M q.1 q.2.1)))))))))))))))))) = some q.2.2
      simp only [hb, false_and, if_false]
      exact pD q z
    · have r : PR [(80, 25, 98), (80, 23, 97), (80, 22, 96), (80, 21, 95), (80, 19, 94), (80, 15, 93), (80, 14, 92), (80, 12, 91), (80, 11, 90), (80, 10, 89), (80, 9, 88), (80, 7, 87), (80, 6, 86), (80, 5, 85), (80, 4, 84), (80, 3, 83), (80, 1, 82), (80, 0, 81)] _ := (PR.w (a := 80) (j := 25) (b := 98) (PR.w (a := 80) (j := 23) (b := 97) (PR.w (a := 80) (j := 22) (b := 96) (PR.w (a := 80) (j := 21) (b := 95) (PR.w (a := 80) (j := 19) (b := 94) (PR.w (a := 80) (j := 15) (b := 93) (PR.w (a := 80) (j := 14) (b := 92) (PR.w (a := 80) (j := 12) (b := 91) (PR.w (a := 80) (j := 11) (b := 90) (PR.w (a := 80) (j := 10) (b := 89) (PR.w (a := 80) (j := 9) (b := 88) (PR.w (a := 80) (j := 7) (b := 87) (PR.w (a := 80) (j := 6) (b := 86) (PR.w (a := 80) (j := 5) (b := 85) (PR.w (a := 80) (j := 4) (b := 84) (PR.w (a := 80) (j := 3) (b := 83) (PR.w (a := 80) (j := 1) (b := 82) (PR.w (a := 80) (j := 0) (b := 81) (pn (M := M)) (by decide)) (by decide)) (by decide)) (by decide)) (by decide)) (by decide)) (by decide)) (by decide)) (by decide)) (by decide)) (by decide)) (by decide)) (by decide)) (by decide)) (by decide)) (by decide)) (by decide)) (by decide))
      exact r q z
  show Wq 2 _ _ mM_init 157 [iR 80] [] M1 Q
  refine wq_return (pc := 157) dM_init_157 trivial ?_
  have e : ∀ b i, b ≠ 92 → (b ≠ 80 ∨ i ≠ 13) → gI M1 b i = (if b = 81 ∧ i = 1 then (31 : Int) else gI M b i) := fun b i c1 c2 => g1 b i c1 c2
  refine hq M1 g3 (fun b i c => ?_) (funext fun a => funext fun i => g2 a i) (fun i => ?_) (fun b i c1 c2 c3 => ?_) ⟨?_, ?_, g4⟩ g5
  · have h1 : b ≠ 80 := by omega
    have h2 : b ≠ 81 := by omega
    rw [e b i (by omega) (Or.inl h1)]
    simp only [h1, h2, false_and, if_false]
  · rw [e 81 i (by decide) (Or.inl (by decide)), hz 81 i (by decide)]
    unfold n00
    by_cases c : i = 1
    · simp [c]
    · simp [c]
  · have h1 : b ≠ 80 := by omega
    have h2 : b ≠ 81 := by omega
    rw [e b i c3 (Or.inl h1), hz b i (by omega)]
    simp only [h1, h2, false_and, if_false]
  · rw [e 80 2 (by decide) (Or.inr (by decide)), hz 80 2 (by decide)]
    simp
  · rw [e 80 8 (by decide) (Or.inr (by decide)), hz 80 8 (by decide)]
    simp
end CON2
